/-! What a sign's numbers are; spelling of the row, its 5s, its words in memory. -/
theorem sg_div {c : Int32} (h : SG c) : B32 (c / 32) ∧ B32 (c - c / 32 * 32) := by
  obtain ⟨q, hq, rfl⟩ := h
  rw [show (32 : Int32) = nI 32 from rfl, pk_rem (by omega) (by decide) (by decide), pk_div (by omega) (by decide) (by decide)]
  exact ⟨⟨q / 32, by omega, rfl⟩, ⟨q % 32, by omega, rfl⟩⟩
theorem sh_val {v : Int32} {a : Nat} (ha : a < 3) : ∃ q : Nat, 1 ≤ q ∧ q < 6 ∧ mh_sh v (nI a) = nI q := by
  unfold mh_sh
  split
  · rw [show (3 : Int32) = nI 3 from rfl, nI_add]; exact ⟨3 + a, by omega, by omega, rfl⟩
  · rw [show (1 : Int32) = nI 1 from rfl, nI_add]; exact ⟨1 + a, by omega, by omega, rfl⟩
theorem nl_val {v : Int32} {g lt : Nat → Int32} {c : Int32} (h : LET g lt) (hc : SG c) : ∀ x ∈ nl v lt c, B32 x := by
  intro x hx
  unfold nl at hx
  split at hx
  · have : x = 0 := by simpa using hx
    exact ⟨0, by decide, this⟩
  · split at hx
    · have : x = 1 := by simpa using hx
      exact ⟨1, by decide, this⟩
    · rcases lo_al h hc.nn with ⟨e1, e2⟩ | ⟨a, n, ha, n1, n2, e1, e2⟩
      · rw [e2, if_pos (by decide)] at hx
        obtain ⟨q, q1, q2, e⟩ := sh_val (v := v) (a := 2) (by decide)
        have e' : mh_sh v 2 = nI q := e
        simp only [List.mem_cons, List.not_mem_nil, or_false] at hx
        rcases hx with rfl | rfl | rfl | rfl
        · exact ⟨q, by omega, e'⟩
        · exact ⟨6, by decide, rfl⟩
        · exact (sg_div hc).1
        · exact (sg_div hc).2
      · have d3 : nI (32 * a + n) / 32 = nI a := by
          rw [show (32 : Int32) = nI 32 from rfl, pk_div (by omega) (by decide) (by decide)]; congr 1; omega
        have d4 : nI (32 * a + n) - nI (32 * a + n) / 32 * 32 = nI n := by
          rw [show (32 : Int32) = nI 32 from rfl, pk_rem (by omega) (by decide) (by decide)]; congr 1; omega
        rw [e2, if_neg (nI_pos (by omega)), d4, d3] at hx
        obtain ⟨q, q1, q2, e⟩ := sh_val (v := v) ha
        split at hx
        · simp only [List.mem_cons, List.not_mem_nil, or_false] at hx
          rcases hx with rfl | rfl
          · exact ⟨q, by omega, e⟩
          · exact ⟨n, n2, rfl⟩
        · rename_i h32
          have ha0 : a = 0 := by
            rcases Nat.eq_zero_or_pos a with z | z
            · exact z
            · exact absurd (show 32 ≤ nI (32 * a + n) from nI_le (a := 32) (by omega) (by omega)) h32
          have : x = nI (32 * a + n) := by simpa using hx
          exact ⟨n, n2, by rw [this, ha0]; congr 1; omega⟩
/-- the row of the class and that of the reference -/
def ROW (tr : TT) (rs : Nat) (rf : Nat → Int32) : Prop := tr.1 = rs ∧ rs ≤ 1000 ∧ (∀ j, j < rs → tr.2 j = rf j) ∧ ∀ j, j < rs → SG (rf j)
theorem ROW.get {tr : TT} {rs : Nat} {rf : Nat → Int32} (h : ROW tr rs rf) {j : Nat} (hj : j < rs) : rw_get tr.1 tr.2 (nI j) = rf j := by
  obtain ⟨h1, h2, h3, h4⟩ := h
  rw [rw_get_nI (by omega) (by omega), if_pos (by omega)]
  exact h3 j hj
theorem rw_c0_1 {t : TT} (h : t.1 < 2 ^ 31) : rw_c 0 t = (0, t.2) := by
  unfold rw_c rw_cut
  rw [if_neg (by decide)]
  rcases Nat.eq_zero_or_pos t.1 with z | z
  · rw [if_pos (by rw [z]; decide), z]
  · rw [if_neg (nI_nle z h)]; rfl
theorem TEQ.rfl' {t : TT} : TEQ t t := ⟨rfl, fun _ _ => rfl⟩
theorem TEQ.zero {f g : Nat → Int32} : TEQ (0, f) (0, g) := ⟨rfl, fun j hj => absurd hj (Nat.not_lt_zero _)⟩
theorem VAL.zero {f : Nat → Int32} : VAL (0, f) := fun j hj => absurd hj (Nat.not_lt_zero _)
/-- the row spelled sign by sign -/
theorem sr_mp {v : Int32} {g lt : Nat → Int32} {tr : TT} {rs : Nat} {rf : Nat → Int32} (hv : VER v) (hl : LET g lt) (hr : ROW tr rs rf) : ∀ (m i : Nat) (t : TT) (s : TT × (Nat → Int32)), i + m = rs → TEQ t s.1 → VAL s.1 → t.1 ≤ 4 * i → TEQ (sr_all v g tr m i t) (mp_all v lt rf m i s).1 ∧ VAL (mp_all v lt rf m i s).1
  | 0, i, t, s, _, h, hval, _ => ⟨h, hval⟩
  | m + 1, i, t, s, hi, h, hval, hb => by
    have hg := hr.get (j := i) (by omega)
    have hs : SG (rf i) := hr.2.2.2 i (by omega)
    have hrs := hr.2.1
    have hlen := nl_len (v := v) (lt := lt) (c := rf i)
    rw [sr_all, mp_all, hg, sp_nl hv hl hs.nn, ra_ps _ _ (by omega)]
    refine sr_mp hv hl hr m (i + 1) _ _ (by omega) ?_ ?_ ?_
    · rw [mp_one_nl]; exact TEQ.ps _ h
    · rw [mp_one_nl]; exact VAL.ps _ (nl_val hl hs) hval
    · rw [ps_1]; omega
theorem pd_n_eq {a b : TT} (h : a.1 = b.1) : pd_n a = pd_n b := by unfold pd_n; rw [h]
theorem pd_mp5 : ∀ (k m : Nat) (t s : TT), pd_n s = k → k ≤ m → s.1 + k ≤ 4002 → TEQ t s → VAL s → TEQ (pd_all k t) (mp5 m s) ∧ VAL (mp5 m s) ∧ (mp5 m s).1 = s.1 + k
  | 0, m, t, s, hk, _, hb, h, hv => by
    have h0 : ¬ s.1 = 0 ∧ s.1 % 3 = 0 := by
      unfold pd_n at hk
      split at hk <;> omega
    have e : mp5 m s = s := by
      cases m with
      | zero => rfl
      | succ m => rw [mp5, if_neg h0.1, if_pos h0.2]
    rw [e]
    exact ⟨h, hv, rfl⟩
  | k + 1, m, t, s, hk, hm, hb, h, hv => by
    obtain ⟨m, rfl⟩ : ∃ m', m = m' + 1 := ⟨m - 1, by omega⟩
    have hp : pd_n (pu 5 s) = k := by
      unfold pd_n at hk ⊢
      show (if s.1 + 1 = 0 then 3 else (3 - (s.1 + 1) % 3) % 3) = k
      rw [if_neg (by omega)]
      split at hk <;> omega
    have e : mp5 (m + 1) s = mp5 m (pu 5 s) := by
      rw [mp5]
      by_cases z : s.1 = 0
      · rw [if_pos z]
      · rw [if_neg z, if_neg]
        intro q
        unfold pd_n at hk
        rw [if_neg z] at hk
        omega
    have ht := h.1
    rw [e, pd_all, rw_a_pu (by omega)]
    obtain ⟨r1, r2, r3⟩ := pd_mp5 k m (pu 5 t) (pu 5 s) hp (by omega) (by show s.1 + 1 + k ≤ 4002; omega) (h.pu 5) (hv.pu ⟨5, by decide, rfl⟩)
    exact ⟨r1, r2, by rw [r3]; show s.1 + 1 + k = _; omega⟩
