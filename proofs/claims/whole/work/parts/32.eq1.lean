/-! Class and reference side by side: rows of numbers, letters, the numbers of a sign. -/
def TEQ (a b : TT) : Prop := a.1 = b.1 ∧ ∀ j, j < a.1 → a.2 j = b.2 j
theorem TEQ.pu {a b : TT} (h : TEQ a b) (x : Int32) : TEQ (pu x a) (pu x b) := by
  obtain ⟨h1, h2⟩ := h
  refine ⟨by show a.1 + 1 = b.1 + 1; rw [h1], fun j hj => ?_⟩
  show upd a.2 a.1 x j = upd b.2 b.1 x j
  have hj2 : j < a.1 + 1 := hj
  by_cases q : j = a.1
  · rw [q, upd_s, h1, upd_s]
  · rw [upd_n q, upd_n (by omega)]
    exact h2 j (by omega)
theorem rw_a_pu {cap : Nat} {x : Int32} {t : TT} (h : t.1 < cap) : rw_a cap x t = pu x t := by
  unfold rw_a rw_an rw_af pu
  rw [if_pos h, if_pos h]
def ps : List Int32 → TT → TT
  | [], t => t
  | x :: l, t => ps l (pu x t)
def ra (cap : Nat) : List Int32 → TT → TT
  | [], t => t
  | x :: l, t => ra cap l (rw_a cap x t)
theorem ra_ps {cap : Nat} : ∀ (l : List Int32) (t : TT), t.1 + l.length ≤ cap → ra cap l t = ps l t
  | [], _, _ => rfl
  | x :: l, t, h => by
    have h2 : t.1 + (l.length + 1) ≤ cap := h
    rw [ra, ps, rw_a_pu (by omega)]
    exact ra_ps l _ (by show t.1 + 1 + l.length ≤ cap; omega)
theorem ps_1 : ∀ (l : List Int32) (t : TT), (ps l t).1 = t.1 + l.length
  | [], _ => rfl
  | x :: l, t => by
    rw [ps, ps_1 l]
    show t.1 + 1 + l.length = t.1 + (l.length + 1)
    omega
theorem TEQ.ps : ∀ (l : List Int32) {a b : TT}, TEQ a b → TEQ (ps l a) (ps l b)
  | [], _, _, h => h
  | x :: l, _, _, h => TEQ.ps l (h.pu x)
def B32 (x : Int32) : Prop := ∃ q : Nat, q < 32 ∧ x = nI q
def VAL (t : TT) : Prop := ∀ j, j < t.1 → B32 (t.2 j)
theorem VAL.pu {t : TT} {x : Int32} (h : VAL t) (hx : B32 x) : VAL (pu x t) := by
  intro j hj
  have hj2 : j < t.1 + 1 := hj
  show B32 (upd t.2 t.1 x j)
  by_cases q : j = t.1
  · rw [q, upd_s]; exact hx
  · rw [upd_n q]; exact h j (by omega)
theorem VAL.ps : ∀ (l : List Int32) {t : TT}, (∀ x ∈ l, B32 x) → VAL t → VAL (ps l t)
  | [], _, _, h => h
  | x :: l, _, hl, h => VAL.ps l (fun y hy => hl y (List.mem_cons_of_mem _ hy)) (h.pu (hl x List.mem_cons_self))
def VER (v : Int32) : Prop := ∃ j : Nat, 1 ≤ j ∧ j ≤ 8 ∧ v = nI j
def LET (g lt : Nat → Int32) : Prop := (∀ a n, a < 3 → 6 ≤ n → n < 32 → g (26 * a + n - 6) = lt (32 * a + n)) ∧ lt 70 = -1 ∧ ∀ a n, a < 3 → 6 ≤ n → n < 32 → 32 * a + n ≠ 70 → ∃ q : Nat, q < 1024 ∧ lt (32 * a + n) = nI q
def SG (c : Int32) : Prop := ∃ q : Nat, q < 1024 ∧ c = nI q
theorem SG.nn {c : Int32} (h : SG c) : ¬ c < 0 := by
  obtain ⟨q, hq, rfl⟩ := h
  exact nI_pos (by omega)
theorem lo_al1 {g lt : Nat → Int32} {c : Int32} (h : LET g lt) (hc : ¬ c < 0) {a : Nat} (ha : a < 3) : ∀ (m i : Nat), i + m = 26 → (al_from g c m (26 * a + i) = -1 ∧ lo_in lt c a m (6 + i) = -1) ∨ ∃ n, 6 ≤ n ∧ n < 32 ∧ al_from g c m (26 * a + i) = nI (26 * a + n - 6) ∧ lo_in lt c a m (6 + i) = nI (32 * a + n)
  | 0, i, _ => Or.inl ⟨rfl, rfl⟩
  | m + 1, i, hi => by
    have e := h.1 a (6 + i) ha (by omega) (by omega)
    rw [show 26 * a + (6 + i) - 6 = 26 * a + i by omega] at e
    rw [al_from, lo_in]
    by_cases q : g (26 * a + i) = c
    · have hcond : lt (32 * a + (6 + i)) = c ∧ (a < 2 ∨ 6 < 6 + i) := by
        refine ⟨by rw [← e]; exact q, ?_⟩
        rcases Nat.lt_or_ge a 2 with z | z
        · exact Or.inl z
        · rcases Nat.eq_zero_or_pos i with y | y
          · exfalso
            have h70 : lt 70 = c := by
              rw [← q, e]
              congr 1
              omega
            rw [h.2.1] at h70
            rw [← h70] at hc
            exact hc (by decide)
          · exact Or.inr (by omega)
      rw [if_pos q, if_pos hcond]
      exact Or.inr ⟨6 + i, by omega, by omega, by rw [show 26 * a + (6 + i) - 6 = 26 * a + i by omega], rfl⟩
    · rw [if_neg q, if_neg (fun z => q (by rw [e]; exact z.1))]
      exact lo_al1 h hc ha m (i + 1) (by omega)
theorem al_from_add {g : Nat → Int32} {c : Int32} (m2 : Nat) : ∀ (m k : Nat), k + m + m2 < 2 ^ 31 → al_from g c (m + m2) k = if al_from g c m k = -1 then al_from g c m2 (k + m) else al_from g c m k
  | 0, k, _ => by
    rw [Nat.zero_add, al_from, if_pos rfl]; rfl
  | m + 1, k, hk => by
    rw [show m + 1 + m2 = (m + m2) + 1 by omega, al_from, al_from]
    by_cases q : g k = c
    · rw [if_pos q, if_pos q, if_neg (nI_m1 (by omega))]
    · rw [if_neg q, if_neg q, al_from_add m2 m (k + 1) (by omega), show k + 1 + m = k + (m + 1) by omega]
theorem lo_al {g lt : Nat → Int32} {c : Int32} (h : LET g lt) (hc : ¬ c < 0) : (al_from g c 78 0 = -1 ∧ lo_from lt c 3 0 = -1) ∨ ∃ a n, a < 3 ∧ 6 ≤ n ∧ n < 32 ∧ al_from g c 78 0 = nI (26 * a + n - 6) ∧ lo_from lt c 3 0 = nI (32 * a + n) := by
  have e1 : al_from g c 78 0 = if al_from g c 26 0 = -1 then (if al_from g c 26 26 = -1 then al_from g c 26 52 else al_from g c 26 26) else al_from g c 26 0 := by
    rw [show 78 = 26 + (26 + 26) from rfl, al_from_add _ _ _ (by decide), al_from_add _ _ _ (by decide)]
  have e2 : lo_from lt c 3 0 = if lo_in lt c 0 26 6 = -1 then (if lo_in lt c 1 26 6 = -1 then (if lo_in lt c 2 26 6 = -1 then -1 else lo_in lt c 2 26 6) else lo_in lt c 1 26 6) else lo_in lt c 0 26 6 := by
    rw [lo_from, lo_from, lo_from, lo_from]
  have m1 : ∀ n : Nat, n < 1000 → ¬ nI n = -1 := fun n hn => nI_m1 (by omega)
  rw [e1, e2]
  rcases lo_al1 h hc (a := 0) (by decide) 26 0 rfl with ⟨x1, x2⟩ | ⟨n, n1, n2, x1, x2⟩
  · rw [show 26 * 0 + 0 = 0 from rfl] at x1
    rw [show 6 + 0 = 6 from rfl] at x2
    rw [if_pos x1, if_pos x2]
    rcases lo_al1 h hc (a := 1) (by decide) 26 0 rfl with ⟨y1, y2⟩ | ⟨n, n1, n2, y1, y2⟩
    · rw [show 26 * 1 + 0 = 26 from rfl] at y1
      rw [show 6 + 0 = 6 from rfl] at y2
      rw [if_pos y1, if_pos y2]
      rcases lo_al1 h hc (a := 2) (by decide) 26 0 rfl with ⟨z1, z2⟩ | ⟨n, n1, n2, z1, z2⟩
      · rw [show 26 * 2 + 0 = 52 from rfl] at z1
        rw [show 6 + 0 = 6 from rfl] at z2
        rw [if_pos z2]
        exact Or.inl ⟨z1, rfl⟩
      · rw [show 26 * 2 + 0 = 52 from rfl] at z1
        rw [show 6 + 0 = 6 from rfl] at z2
        rw [z1, z2, if_neg (m1 _ (by omega))]
        exact Or.inr ⟨2, n, by decide, n1, n2, rfl, rfl⟩
    · rw [show 26 * 1 + 0 = 26 from rfl] at y1
      rw [show 6 + 0 = 6 from rfl] at y2
      rw [y1, y2, if_neg (m1 _ (by omega)), if_neg (m1 _ (by omega))]
      exact Or.inr ⟨1, n, by decide, n1, n2, rfl, rfl⟩
  · rw [show 26 * 0 + 0 = 0 from rfl] at x1
    rw [show 6 + 0 = 6 from rfl] at x2
    rw [x1, x2, if_neg (m1 _ (by omega)), if_neg (m1 _ (by omega))]
    exact Or.inr ⟨0, n, by decide, n1, n2, rfl, rfl⟩
def nl (v : Int32) (lt : Nat → Int32) (c : Int32) : List Int32 :=
  if c = 32 then [0] else if c = 13 ∧ v = 1 then [1] else if lo_from lt c 3 0 < 0 then [mh_sh v 2, 6, c / 32, c - c / 32 * 32] else
  if 32 ≤ lo_from lt c 3 0 then [mh_sh v (lo_from lt c 3 0 / 32), lo_from lt c 3 0 - lo_from lt c 3 0 / 32 * 32] else [lo_from lt c 3 0]
theorem no_nl {v : Int32} {lt : Nat → Int32} {c : Int32} {f : Nat → Int32} : (no v lt c f).1 = (nl v lt c).length ∧ (∀ i, i < (nl v lt c).length → (nl v lt c)[i]? = some ((no v lt c f).2 i)) ∧ ∀ t : TT, pu_all (no v lt c f).2 (no v lt c f).1 0 t = ps (nl v lt c) t := by
  unfold no nl
  by_cases h1 : c = 32
  · rw [if_pos h1, if_pos h1]
    refine ⟨rfl, fun i hi => ?_, fun t => rfl⟩
    have : i = 0 := by simp at hi; omega
    subst this; rfl
  · rw [if_neg h1, if_neg h1]
    by_cases h2 : c = 13 ∧ v = 1
    · rw [if_pos h2, if_pos h2]
      refine ⟨rfl, fun i hi => ?_, fun t => rfl⟩
      have : i = 0 := by simp at hi; omega
      subst this; rfl
    · rw [if_neg h2, if_neg h2]
      by_cases h3 : lo_from lt c 3 0 < 0
      · rw [if_pos h3, if_pos h3]
        refine ⟨rfl, fun i hi => ?_, fun t => rfl⟩
        have : i = 0 ∨ i = 1 ∨ i = 2 ∨ i = 3 := by simp at hi; omega
        rcases this with rfl | rfl | rfl | rfl <;> rfl
      · rw [if_neg h3, if_neg h3]
        by_cases h4 : 32 ≤ lo_from lt c 3 0
        · rw [if_pos h4, if_pos h4]
          refine ⟨rfl, fun i hi => ?_, fun t => rfl⟩
          have : i = 0 ∨ i = 1 := by simp at hi; omega
          rcases this with rfl | rfl <;> rfl
        · rw [if_neg h4, if_neg h4]
          refine ⟨rfl, fun i hi => ?_, fun t => rfl⟩
          have : i = 0 := by simp at hi; omega
          subst this; rfl
theorem mp_one_nl {v : Int32} {lt : Nat → Int32} {c : Int32} {s : TT × (Nat → Int32)} : (mp_one v lt c s).1 = ps (nl v lt c) s.1 := no_nl.2.2 _
theorem nl_len {v : Int32} {lt : Nat → Int32} {c : Int32} : 1 ≤ (nl v lt c).length ∧ (nl v lt c).length ≤ 4 := by
  rw [← (no_nl (f := fun _ => 0)).1]
  exact ⟨no_le.2, no_le.1⟩
theorem sh_eq {v : Int32} (hv : VER v) (a : Int32) : al_sh v a = mh_sh v a := by
  obtain ⟨j, h1, h8, rfl⟩ := hv
  unfold al_sh mh_sh
  by_cases h : 3 ≤ j
  · rw [if_pos (show (2 : Int32) < nI j from nI_lt (a := 2) h (by omega)), if_pos (show (3 : Int32) ≤ nI j from nI_le (a := 3) h (by omega))]
  · rw [if_neg (show ¬ (2 : Int32) < nI j from nI_nlt (a := 2) (b := j) (by omega) (by decide)), if_neg (show ¬ (3 : Int32) ≤ nI j from nI_ge (b := 3) (a := j) (by omega) (by decide))]
theorem sp_nl {cap : Nat} {v : Int32} {g lt : Nat → Int32} {c : Int32} {r : TT} (hv : VER v) (h : LET g lt) (hc : ¬ c < 0) : sp cap v g c r = ra cap (nl v lt c) r := by
  unfold sp nl
  by_cases h1 : c = 32
  · rw [if_pos h1, if_pos h1]; rfl
  · rw [if_neg h1, if_neg h1]
    by_cases h2 : c = 13 ∧ v = 1
    · rw [if_pos h2, if_pos h2]; rfl
    · rw [if_neg h2, if_neg h2]
      rcases lo_al h hc with ⟨e1, e2⟩ | ⟨a, n, ha, n1, n2, e1, e2⟩
      · rw [e1, e2, if_neg (by decide), if_pos (by decide), sp_code, sh_eq hv]; rfl
      · rw [e1, e2, if_pos (nI_pos' (by omega)), if_neg (nI_pos (by omega)), sp_let]
        have d1 : nI (26 * a + n - 6) / 26 = nI a := by
          rw [show (26 : Int32) = nI 26 from rfl, pk_div (by omega) (by decide) (by decide)]; congr 1; omega
        have d2 : 6 + (nI (26 * a + n - 6) - nI (26 * a + n - 6) / 26 * 26) = nI n := by
          rw [show (26 : Int32) = nI 26 from rfl, pk_rem (by omega) (by decide) (by decide), show (6 : Int32) = nI 6 from rfl, nI_add]; congr 1; omega
        have d3 : nI (32 * a + n) / 32 = nI a := by
          rw [show (32 : Int32) = nI 32 from rfl, pk_div (by omega) (by decide) (by decide)]; congr 1; omega
        have d4 : nI (32 * a + n) - nI (32 * a + n) / 32 * 32 = nI n := by
          rw [show (32 : Int32) = nI 32 from rfl, pk_rem (by omega) (by decide) (by decide)]; congr 1; omega
        rw [d2, d1, d4, d3, sh_eq hv]
        by_cases h5 : a = 0
        · subst h5
          rw [if_pos (show nI (26 * 0 + n - 6) < 26 from nI_lt (b := 26) (by omega) (by decide)), if_neg (show ¬ 32 ≤ nI (32 * 0 + n) from nI_ge (b := 32) (by omega) (by decide)), show 32 * 0 + n = n by omega]; rfl
        · rw [if_neg (show ¬ nI (26 * a + n - 6) < 26 from nI_nlt (b := 26) (by omega) (by omega)), if_pos (show 32 ≤ nI (32 * a + n) from nI_le (a := 32) (by omega) (by omega))]; rfl
