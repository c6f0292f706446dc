/-! The reference's telling: the state is (level, lockedText, locked, alone, fault, told, numbers). -/
abbrev TS : Type := Nat × Int32 × Int32 × Int32 × Int32 × TT × NS
def tp (n : NS) (l : Nat) : Nat := (n.1 l).toNatClampNeg
def tn (ms : Nat) (mb : Nat → Int32) (lv : Nat) (fa : Int32) (n : NS) : Int32 × Int32 × NS := nu ms mb lv (tp n lv) fa n
def tm_t (lv : Nat) (lkT lk x fa : Int32) (t : TT) (n : NS) : Bool × TS := (true, lv, lkT, lk, -1, (tl_s x (fa, t)).1, (tl_s x (fa, t)).2, n)
def tm_a2 (pl : Nat → Int32) (lv : Nat) (lkT lk x : Int32) (t : TT) (y : Int32 × Int32 × NS) : Bool × TS :=
  if y.1 < 0 then (true, lv, lkT, lk, -1, y.2.1, t, y.2.2) else if 0 ≤ pl (32 * (x - 1) + y.1).toNatClampNeg then (true, 1, lk, 0, -1, y.2.1, t, st_ 1 (pl (32 * (x - 1) + y.1).toNatClampNeg) y.2.2) else (true, lv, lkT, lk, -1, 3, t, y.2.2)
def tm_a (ms : Nat) (mb pl : Nat → Int32) (lv : Nat) (lkT lk : Int32) (t : TT) (x : Int32 × Int32 × NS) : Bool × TS :=
  if lv = 1 then (true, lv, lkT, lk, -1, 1, t, x.2.2) else tm_a2 pl lv lkT lk x.1 t (tn ms mb lv x.2.1 x.2.2)
def tm_e2 (lv : Nat) (lkT lk h : Int32) (t : TT) (y : Int32 × Int32 × NS) : Bool × TS := if y.1 < 0 then (true, lv, lkT, lk, -1, y.2.1, t, y.2.2) else tm_t lv lkT lk (32 * h + y.1) y.2.1 t y.2.2
def tm_e1 (ms : Nat) (mb : Nat → Int32) (lv : Nat) (lkT lk : Int32) (t : TT) (h : Int32 × Int32 × NS) : Bool × TS := if 0 ≤ h.1 then tm_e2 lv lkT lk h.1 t (tn ms mb lv h.2.1 h.2.2) else (true, lv, lkT, lk, -1, h.2.1, t, h.2.2)
def r3 (x : Int32) : Int32 := x - x / 3 * 3
def tm_b (v : Int32) (ms : Nat) (mb lt pl : Nat → Int32) (lv : Nat) (lkT lk us : Int32) (t : TT) (x : Int32 × Int32 × NS) : Bool × TS :=
  if x.1 = 0 then tm_t lv lkT lk 32 x.2.1 t x.2.2 else if x.1 = 1 ∧ v = 1 then tm_t lv lkT lk 13 x.2.1 t x.2.2 else if x.1 = 1 then tm_a ms mb pl lv lkT lk t x else
  if 4 ≤ x.1 then
    (if 6 ≤ x.1 then (if us = 2 ∧ x.1 = 6 then tm_e1 ms mb lv lkT lk t (tn ms mb lv x.2.1 x.2.2) else tm_t lv lkT lk (lt (32 * us + x.1).toNatClampNeg) x.2.1 t x.2.2)
     else if 3 ≤ v then (true, lv, lkT, lk, x.1 - 3, x.2.1, t, x.2.2) else (true, lv, lkT, r3 (lk + x.1 - 3), -1, x.2.1, t, x.2.2))
  else if 3 ≤ v then tm_a ms mb pl lv lkT lk t x else (true, lv, lkT, lk, r3 (lk + x.1 - 1), x.2.1, t, x.2.2)
def tm_x (v : Int32) (ms : Nat) (mb lt pl : Nat → Int32) (fi lv : Nat) (lkT lk al : Int32) (t : TT) (x : Int32 × Int32 × NS) : Bool × TS :=
  if x.2.1 ≤ 0 then (if 0 ≤ x.1 then tm_b v ms mb lt pl lv lkT lk (if al < 0 then lk else al) t x else if lv = fi then (false, lv, lkT, lk, al, x.2.1, t, x.2.2) else (true, fi, lkT, lkT, -1, x.2.1, t, x.2.2)) else (false, lv, lkT, lk, al, x.2.1, t, x.2.2)
def tm_one (v : Int32) (ms : Nat) (mb lt pl : Nat → Int32) (fi : Nat) (s : TS) : Bool × TS := tm_x v ms mb lt pl fi s.1 s.2.1 s.2.2.1 s.2.2.2.1 s.2.2.2.2.2.1 (tn ms mb s.1 s.2.2.2.2.1 s.2.2.2.2.2.2)
def tm_all (v : Int32) (ms : Nat) (mb lt pl : Nat → Int32) (fi : Nat) : Nat → TS → TS
  | 0, s => s
  | m + 1, s => if s.2.2.2.2.1 = 0 then (if (tm_one v ms mb lt pl fi s).1 then tm_all v ms mb lt pl fi m (tm_one v ms mb lt pl fi s).2 else (tm_one v ms mb lt pl fi s).2) else s
/-- places and what is left are small -/
def NSok (n : NS) : Prop := ∀ l, l < 2 → (∃ p : Nat, p ≤ 3000 ∧ n.1 l = nI p) ∧ ∃ a : Nat, a ≤ 3 ∧ n.2.1 l = nI a
def rm (ms : Nat) (n : NS) (l : Nat) : Nat := (n.2.1 l).toNatClampNeg + 3 * (ms + 2 - (n.1 l).toNatClampNeg)
def NU (ms lv : Nat) (n : NS) (z : Int32 × Int32 × NS) : Prop := NSok z.2.2 ∧ (∀ l, l ≠ lv → rm ms z.2.2 l = rm ms n l) ∧ rm ms z.2.2 lv ≤ rm ms n lv ∧ (0 ≤ z.1 → (∃ j : Nat, j < 32 ∧ z.1 = nI j) ∧ rm ms z.2.2 lv < rm ms n lv)
theorem NSok.p {n : NS} {lv : Nat} (h : NSok n) (hl : lv < 2) : n.1 lv = nI (tp n lv) ∧ tp n lv ≤ 3000 := by
  obtain ⟨⟨p, hp, e⟩, -⟩ := h lv hl
  unfold tp
  rw [e, nI_clamp (by omega)]
  exact ⟨rfl, hp⟩
theorem upd_n {f : Nat → Int32} {i j : Nat} {x : Int32} (h : j ≠ i) : upd f i x j = f j := pk_un h
theorem nu_val_lt (lv : Nat) (n : NS) : ∃ j : Nat, j < 32 ∧ nu_val lv n = nI j := by
  unfold nu_val
  exact pk_andE _ 5 (by decide)
theorem nu_step_ok {ms lv : Nat} {n : NS} {a : Nat} (h : NSok n) (hl : lv < 2) (ha : n.2.1 lv = nI (a + 1)) (ha3 : a + 1 ≤ 3) : NSok (nu_step lv n) ∧ (∀ l, l ≠ lv → rm ms (nu_step lv n) l = rm ms n l) ∧ rm ms (nu_step lv n) lv + 1 = rm ms n lv := by
  have e : nu_step lv n = (n.1, upd n.2.1 lv (nI a), n.2.2.1, n.2.2.2) := by unfold nu_step; rw [ha, nI_pred]
  rw [e]
  refine ⟨fun l hl2 => ⟨(h l hl2).1, ?_⟩, fun l hne => ?_, ?_⟩
  · by_cases q : l = lv
    · subst q; exact ⟨a, by omega, upd_s⟩
    · obtain ⟨b, hb, eb⟩ := (h l hl2).2
      exact ⟨b, hb, by show upd n.2.1 lv (nI a) l = nI b; rw [upd_n q]; exact eb⟩
  · unfold rm
    show (upd n.2.1 lv (nI a) l).toNatClampNeg + _ = _
    rw [upd_n hne]
  · unfold rm
    show (upd n.2.1 lv (nI a) lv).toNatClampNeg + _ + 1 = _
    rw [upd_s, ha, nI_clamp (by omega), nI_clamp (by omega)]
    show a + 3 * (ms + 2 - (n.1 lv).toNatClampNeg) + 1 = a + 1 + 3 * (ms + 2 - (n.1 lv).toNatClampNeg)
    omega
theorem nu_fill_ok {ms lv p : Nat} {mb : Nat → Int32} {n : NS} (h : NSok n) (hl : lv < 2) (hp : n.1 lv = nI p) (h0 : n.2.1 lv = 0) (hms : ms ≤ 3000) (hp2 : p + 2 ≤ ms) : NSok (nu_fill mb lv p n) ∧ (∀ l, l ≠ lv → rm ms (nu_fill mb lv p n) l = rm ms n l) ∧ rm ms (nu_fill mb lv p n) lv + 3 = rm ms n lv := by
  refine ⟨fun l hl2 => ?_, fun l hne => ?_, ?_⟩
  · by_cases q : l = lv
    · subst q; exact ⟨⟨p + 2, by omega, upd_s⟩, ⟨3, by omega, upd_s⟩⟩
    · obtain ⟨⟨p', hp', ep'⟩, ⟨b, hb, eb⟩⟩ := h l hl2
      exact ⟨⟨p', hp', by show upd n.1 lv _ l = nI p'; rw [upd_n q]; exact ep'⟩, ⟨b, hb, by show upd n.2.1 lv _ l = nI b; rw [upd_n q]; exact eb⟩⟩
  · unfold rm
    show (upd n.2.1 lv 3 l).toNatClampNeg + 3 * (ms + 2 - (upd n.1 lv (nI (p + 2)) l).toNatClampNeg) = _
    rw [upd_n hne, upd_n hne]
  · unfold rm
    show (upd n.2.1 lv 3 lv).toNatClampNeg + 3 * (ms + 2 - (upd n.1 lv (nI (p + 2)) lv).toNatClampNeg) + 3 = _
    rw [upd_s, upd_s, h0, hp, nI_clamp (by omega), nI_clamp (by omega), show (3 : Int32).toNatClampNeg = 3 by decide, show (0 : Int32).toNatClampNeg = 0 by decide]
    omega
theorem nu_ok {ms lv : Nat} {mb : Nat → Int32} {fa : Int32} {n : NS} (hms : ms ≤ 3000) (h : NSok n) (hl : lv < 2) : NU ms lv n (tn ms mb lv fa n) := by
  obtain ⟨hp, hp3⟩ := h.p hl
  obtain ⟨-, ⟨a, ha, ea⟩⟩ := h lv hl
  unfold tn nu
  split
  · rename_i h0
    split
    · split
      · rename_i hp2
        obtain ⟨f1, f2, f3⟩ := nu_fill_ok (mb := mb) h hl hp h0 hms hp2
        obtain ⟨g1, g2, g3⟩ := nu_step_ok (ms := ms) (a := 2) f1 hl upd_s (by omega)
        exact ⟨g1, fun l hne => (g2 l hne).trans (f2 l hne), by show rm ms (nu_step lv _) lv ≤ _; omega, fun _ => ⟨nu_val_lt _ _, by show rm ms (nu_step lv _) lv < _; omega⟩⟩
      · exact ⟨h, fun _ _ => rfl, Nat.le_refl _, fun q => absurd (show (0 : Int32) ≤ -1 from q) (by decide)⟩
    · exact ⟨h, fun _ _ => rfl, Nat.le_refl _, fun q => absurd (show (0 : Int32) ≤ -1 from q) (by decide)⟩
  · rename_i h0
    obtain ⟨b, rfl⟩ : ∃ b, a = b + 1 := by
      cases a with
      | zero => exact absurd ea h0
      | succ b => exact ⟨b, rfl⟩
    obtain ⟨g1, g2, g3⟩ := nu_step_ok (ms := ms) h hl ea ha
    exact ⟨g1, g2, by show rm ms (nu_step lv n) lv ≤ _; omega, fun _ => ⟨nu_val_lt _ _, by show rm ms (nu_step lv n) lv < _; omega⟩⟩
theorem st_ok {lv : Nat} {p : Int32} {n : NS} (h : NSok n) (h0 : 0 ≤ p) (h1 : p ≤ 3000) : NSok (st_ lv p n) := by
  intro l hl
  by_cases q : l = lv
  · subst q
    obtain ⟨j, hj, e⟩ := nI_of2 (M := 3000) (n := 3000) (by decide) (Int32.not_lt.mpr h0) h1
    exact ⟨⟨j, hj, by show upd n.1 l p l = nI j; rw [upd_s]; exact e⟩, ⟨0, by omega, by show upd n.2.1 l 0 l = nI 0; rw [upd_s]; rfl⟩⟩
  · obtain ⟨⟨p', hp', ep'⟩, ⟨b, hb, eb⟩⟩ := h l hl
    exact ⟨⟨p', hp', by show upd n.1 lv p l = nI p'; rw [upd_n q]; exact ep'⟩, ⟨b, hb, by show upd n.2.1 lv 0 l = nI b; rw [upd_n q]; exact eb⟩⟩
theorem st_rm {ms lv l : Nat} {p : Int32} {n : NS} (h : l ≠ lv) : rm ms (st_ lv p n) l = rm ms n l := by
  unfold rm
  show (upd n.2.1 lv 0 l).toNatClampNeg + 3 * (ms + 2 - (upd n.1 lv p l).toNatClampNeg) = _
  rw [upd_n h, upd_n h]
theorem rm_le {ms l : Nat} {n : NS} (hms : ms ≤ 3000) (h : NSok n) (hl : l < 2) : rm ms n l ≤ 9009 := by
  obtain ⟨⟨p, hp, ep⟩, ⟨a, ha, ea⟩⟩ := h l hl
  unfold rm
  rw [ea, nI_clamp (by omega)]
  omega
def tm_mu (ms fi lv : Nat) (n : NS) : Nat := if lv = fi then rm ms n fi * 9100 else rm ms n fi * 9100 + rm ms n 1 + 1
def L3 (x : Int32) : Prop := ∃ j : Nat, j < 3 ∧ x = nI j
theorem L3_0 : L3 0 := ⟨0, by omega, rfl⟩
theorem tl_s_le {x : Int32} {s : Int32 × TT} (h : s.2.1 ≤ 1000) : (tl_s x s).2.1 ≤ 1000 := by
  unfold tl_s
  split
  · exact h
  · show s.2.1 + 1 ≤ 1000; omega
theorem tm_in {u x : Int32} (hu : L3 u) (hx : ∃ j : Nat, j < 32 ∧ x = nI j) : vp_in (32 * u + x) 96 := by
  obtain ⟨i, hi, rfl⟩ := hu
  obtain ⟨j, hj, rfl⟩ := hx
  rw [show (32 : Int32) = nI 32 from rfl, pk_mul, nI_add]
  exact vp_in_nI (by omega) (by decide)
theorem tm_inp {x y : Int32} (hx : ∃ j : Nat, j < 32 ∧ x = nI j) (h0 : ¬ x = 0) (h4 : ¬ 4 ≤ x) (hy : ∃ j : Nat, j < 32 ∧ y = nI j) : ∃ j : Nat, j < 96 ∧ 32 * (x - 1) + y = nI j := by
  obtain ⟨i, hi, rfl⟩ := hx
  obtain ⟨j, hj, rfl⟩ := hy
  have hi4 : i < 4 := by
    rcases Nat.lt_or_ge i 4 with q | q
    · exact q
    · exact absurd (nI_le q (by omega)) h4
  obtain ⟨b, rfl⟩ : ∃ b, i = b + 1 := by
    cases i with
    | zero => exact absurd rfl h0
    | succ b => exact ⟨b, rfl⟩
  refine ⟨32 * b + j, by omega, ?_⟩
  rw [nI_pred, show (32 : Int32) = nI 32 from rfl, pk_mul, nI_add]
theorem L3_rem {lk x : Int32} {d : Nat} (hl : L3 lk) (hx : ∃ j : Nat, j < 32 ∧ x = nI j) (hd : ∀ j : Nat, j < 32 → x = nI j → d ≤ j) (hd3 : d ≤ 3) : L3 (r3 (lk + x - nI d)) := by
  obtain ⟨i, hi, rfl⟩ := hl
  obtain ⟨j, hj, rfl⟩ := hx
  have hdj := hd j hj rfl
  unfold r3
  rw [nI_add, pk_sub (by omega), show (3 : Int32) = nI 3 from rfl, pk_rem (by omega) (by decide) (by decide)]
  exact ⟨_, Nat.mod_lt _ (by decide), rfl⟩
theorem tm_ge {x : Int32} {d : Nat} (hd : d < 32) (h : nI d ≤ x) : ∀ j : Nat, j < 32 → x = nI j → d ≤ j := fun j hj e => (nI_leI (by omega) (by omega)).mp (by rw [← e]; exact h)
theorem tm_ne {x : Int32} (h : ¬ x = 0) : ∀ j : Nat, j < 32 → x = nI j → 1 ≤ j := fun j hj e => by
  rcases Nat.eq_zero_or_pos j with q | q
  · exact absurd (by rw [e, q]; rfl) h
  · exact q
theorem L3_m3 {x : Int32} (hx : ∃ j : Nat, j < 32 ∧ x = nI j) (h4 : 4 ≤ x) (h6 : ¬ 6 ≤ x) : L3 (x - 3) := by
  obtain ⟨j, hj, rfl⟩ := hx
  have h1 : 4 ≤ j := (nI_leI (a := 4) (b := j) (by omega) (by omega)).mp h4
  have h2 : ¬ 6 ≤ j := fun q => h6 ((nI_leI (a := 6) (b := j) (by omega) (by omega)).mpr q)
  rw [show (3 : Int32) = nI 3 from rfl, pk_sub (by omega)]
  exact ⟨j - 3, by omega, rfl⟩
/-- the measure falls: a number came at the level, all levels' others stay -/
theorem mu_step {ms fi lv : Nat} {n n1 n2 : NS} (h1 : rm ms n1 lv < rm ms n lv) (o1 : ∀ l, l ≠ lv → rm ms n1 l = rm ms n l) (h2 : rm ms n2 lv ≤ rm ms n1 lv) (o2 : ∀ l, l ≠ lv → rm ms n2 l = rm ms n1 l) (hlv : lv = fi ∨ lv = 1) : tm_mu ms fi lv n2 < tm_mu ms fi lv n := by
  unfold tm_mu
  by_cases q : lv = fi
  · rw [if_pos q, if_pos q]
    subst q
    omega
  · rw [if_neg q, if_neg q]
    have e : lv = 1 := hlv.resolve_left q
    subst e
    have e2 : rm ms n2 fi = rm ms n fi := (o2 fi (Ne.symm q)).trans (o1 fi (Ne.symm q))
    rw [e2]
    omega
theorem mu_abb {ms fi : Nat} {n n1 n2 : NS} {p : Int32} (hms : ms ≤ 3000) (hfi : fi ≠ 1) (h1 : rm ms n1 fi < rm ms n fi) (h2 : rm ms n2 fi ≤ rm ms n1 fi) (hok : NSok (st_ 1 p n2)) : tm_mu ms fi 1 (st_ 1 p n2) < tm_mu ms fi fi n := by
  unfold tm_mu
  rw [if_neg (Ne.symm hfi), if_pos rfl, st_rm hfi]
  have := rm_le hms hok (l := 1) (by omega)
  omega
theorem mu_end {ms fi lv : Nat} {n n1 : NS} (hlv : lv = fi ∨ lv = 1) (hne : ¬ lv = fi) (h2 : rm ms n1 lv ≤ rm ms n lv) (o2 : ∀ l, l ≠ lv → rm ms n1 l = rm ms n l) : tm_mu ms fi fi n1 < tm_mu ms fi lv n := by
  unfold tm_mu
  rw [if_pos rfl, if_neg hne, o2 fi (Ne.symm hne)]
  omega
theorem mu_le {ms fi lv : Nat} {n : NS} (hms : ms ≤ 3000) (hfi : fi < 2) (h : NSok n) : tm_mu ms fi lv n ≤ 82000000 := by
  have h1 := rm_le hms h hfi
  have h2 := rm_le hms h (l := 1) (by omega)
  unfold tm_mu
  split <;> omega
