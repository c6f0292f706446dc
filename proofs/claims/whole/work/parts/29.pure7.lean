/-! The reference: which of two rows is ahead, the best row, its 5s and words. -/
def no_n (v : Int32) (lt : Nat → Int32) (c : Int32) : Nat := if c = 32 then 1 else if c = 13 ∧ v = 1 then 1 else if lo_from lt c 3 0 < 0 then 4 else if 32 ≤ lo_from lt c 3 0 then 2 else 1
theorem no_1 {v : Int32} {lt : Nat → Int32} {c : Int32} {f : Nat → Int32} : (no v lt c f).1 = no_n v lt c := by
  unfold no no_n
  by_cases h1 : c = 32
  · rw [if_pos h1, if_pos h1]
  · rw [if_neg h1, if_neg h1]
    by_cases h2 : c = 13 ∧ v = 1
    · rw [if_pos h2, if_pos h2]
    · rw [if_neg h2, if_neg h2]
      by_cases h3 : lo_from lt c 3 0 < 0
      · rw [if_pos h3, if_pos h3]
      · rw [if_neg h3, if_neg h3]
        by_cases h4 : 32 ≤ lo_from lt c 3 0
        · rw [if_pos h4, if_pos h4]
        · rw [if_neg h4, if_neg h4]
theorem no_n_le {v : Int32} {lt : Nat → Int32} {c : Int32} : no_n v lt c ≤ 4 ∧ 1 ≤ no_n v lt c := by
  have h := no_le (v := v) (lt := lt) (c := c) (f := fun _ => 0)
  rw [no_1] at h
  exact h
def EOk (es : Nat → Nat) (x : Int32) : Prop := x = -1 ∨ ∃ e : Nat, e < 96 ∧ x = nI e ∧ 1 ≤ es e
def BYok (es : Nat → Nat) (rs i : Nat) (b : Nat → Int32) : Prop := ∀ j, i ≤ j → j < rs → EOk es (b j)
def nx_k (v : Int32) (lt rf : Nat → Int32) (w : Nat) (x : NX) : Nat := if 0 ≤ x.2.1 w then 2 else no_n v lt (rf (x.1 w))
theorem nx_n_1 {v : Int32} {lt rf : Nat → Int32} {w : Nat} {x : NX} : (nx_n v lt rf w x).1 = nx_k v lt rf w x := by
  unfold nx_n nx_k
  split
  · rfl
  · exact no_1
theorem nx_k_pos {v : Int32} {lt rf : Nat → Int32} {w : Nat} {x : NX} : 1 ≤ nx_k v lt rf w x ∧ nx_k v lt rf w x ≤ 4 := by
  unfold nx_k
  split
  · exact ⟨by decide, by decide⟩
  · exact ⟨no_n_le.2, no_n_le.1⟩
def NXok (v : Int32) (lt rf : Nat → Int32) (es : Nat → Nat) (rs i w : Nat) (x : NX) : Prop := i ≤ x.1 w ∧ x.1 w ≤ 2000 ∧ x.2.2.1 w < 4 ∧ (x.1 w < rs → EOk es (x.2.1 w) ∧ x.2.2.1 w < nx_k v lt rf w x)
def nx_mu (rs w : Nat) (x : NX) : Nat := 5 * (rs - x.1 w) - x.2.2.1 w
theorem EOk.ge {es : Nat → Nat} {x : Int32} (h : EOk es x) (h0 : 0 ≤ x) : ∃ e : Nat, e < 96 ∧ x = nI e ∧ 1 ≤ es e := by
  rcases h with h | h
  · rw [h] at h0; exact absurd h0 (by decide)
  · exact h
theorem EOk.inn {es : Nat → Nat} {x : Int32} (h : EOk es x) (h0 : 0 ≤ x) : vp_in x 96 := by
  obtain ⟨e, he, rfl, -⟩ := h.ge h0
  exact vp_in_nI he (by decide)
theorem nx_p_in {es : Nat → Nat} {w : Nat} {x : NX} (hes : ∀ j, es j ≤ 1000) (h : EOk es (x.2.1 w)) : x.1 w + 1 ≤ nx_p es w x ∧ nx_p es w x ≤ x.1 w + 1000 := by
  unfold nx_p
  split
  · rename_i h0
    obtain ⟨e, he, ee, h1⟩ := h.ge h0
    rw [ee, nI_clamp (by omega)]
    have := hes e
    omega
  · omega
theorem upN_n {f : Nat → Nat} {i j x : Nat} (h : j ≠ i) : upN f i x j = f j := by unfold upN; rw [if_neg h]
/-- one number: this side goes on, the other stays -/
theorem nx_ok {v : Int32} {lt rf : Nat → Int32} {es : Nat → Nat} {rs i w : Nat} {b : Nat → Int32} {x : NX} (hrs : rs ≤ 1000) (hes : ∀ j, es j ≤ 1000) (hb : BYok es rs i b) (h : NXok v lt rf es rs i w x) :
    NXok v lt rf es rs i w (nx v lt rf es rs b w x).2 ∧ (x.1 w < rs → nx_mu rs w (nx v lt rf es rs b w x).2 < nx_mu rs w x ∧ 4 * x.1 w + x.2.2.1 w + 1 ≤ 4 * (nx v lt rf es rs b w x).2.1 w + (nx v lt rf es rs b w x).2.2.2.1 w) := by
  obtain ⟨h1, h2, h3, h4⟩ := h
  unfold nx
  by_cases hp : x.1 w < rs
  · rw [if_pos hp]
    obtain ⟨h5, h6⟩ := h4 hp
    have hk := nx_k_pos (v := v) (lt := lt) (rf := rf) (w := w) (x := x)
    obtain ⟨p1, p2⟩ := nx_p_in hes h5
    show NXok v lt rf es rs i w (nx_s v lt rf es rs b w x) ∧ (x.1 w < rs → nx_mu rs w (nx_s v lt rf es rs b w x) < nx_mu rs w x ∧ 4 * x.1 w + x.2.2.1 w + 1 ≤ 4 * (nx_s v lt rf es rs b w x).1 w + (nx_s v lt rf es rs b w x).2.2.1 w)
    unfold nx_s
    rw [nx_n_1]
    by_cases hn : x.2.2.1 w + 1 = nx_k v lt rf w x
    · rw [if_pos hn]
      refine ⟨⟨?_, ?_, ?_, fun hq => ⟨?_, ?_⟩⟩, fun _ => ⟨?_, ?_⟩⟩
      · show i ≤ upN x.1 w _ w; rw [upN_s]; omega
      · show upN x.1 w _ w ≤ 2000; rw [upN_s]; omega
      · show upN _ w 0 w < 4; rw [upN_s]; decide
      · have hq2 : nx_p es w x < rs := by
          have hq3 : upN x.1 w (nx_p es w x) w < rs := hq
          rw [upN_s] at hq3
          exact hq3
        show EOk es (upd x.2.1 w _ w)
        rw [upd_s, if_neg (by omega)]
        exact hb _ (by omega) hq2
      · show upN _ w 0 w < _; rw [upN_s]; exact nx_k_pos.1
      · show 5 * (rs - upN x.1 w _ w) - upN _ w 0 w < 5 * (rs - x.1 w) - x.2.2.1 w
        rw [upN_s, upN_s]
        omega
      · show _ ≤ 4 * upN x.1 w _ w + upN _ w 0 w
        rw [upN_s, upN_s]
        omega
    · rw [if_neg hn]
      refine ⟨⟨h1, h2, ?_, fun _ => ⟨h5, ?_⟩⟩, fun _ => ⟨?_, ?_⟩⟩
      · show upN x.2.2.1 w _ w < 4; rw [upN_s]; omega
      · show upN x.2.2.1 w _ w < nx_k v lt rf w x; rw [upN_s]; omega
      · show 5 * (rs - x.1 w) - upN x.2.2.1 w _ w < 5 * (rs - x.1 w) - x.2.2.1 w
        rw [upN_s]
        omega
      · show _ ≤ 4 * x.1 w + upN x.2.2.1 w _ w
        rw [upN_s]
        omega
  · rw [if_neg hp]
    exact ⟨⟨h1, h2, h3, h4⟩, fun q => absurd q hp⟩
theorem nx_oth {v : Int32} {lt rf : Nat → Int32} {es : Nat → Nat} {rs i w w2 : Nat} {b : Nat → Int32} {x : NX} (hw : w2 ≠ w) (h : NXok v lt rf es rs i w2 x) : NXok v lt rf es rs i w2 (nx v lt rf es rs b w x).2 := by
  unfold nx
  split
  · show NXok v lt rf es rs i w2 (nx_s v lt rf es rs b w x)
    unfold nx_s
    split
    · obtain ⟨h1, h2, h3, h4⟩ := h
      refine ⟨?_, ?_, ?_, ?_⟩
      · show i ≤ upN x.1 w _ w2; rw [upN_n hw]; exact h1
      · show upN x.1 w _ w2 ≤ 2000; rw [upN_n hw]; exact h2
      · show upN (upN _ w _) w 0 w2 < 4; rw [upN_n hw, upN_n hw]; exact h3
      · show upN x.1 w _ w2 < rs → EOk es (upd x.2.1 w _ w2) ∧ upN (upN _ w _) w 0 w2 < if 0 ≤ upd x.2.1 w _ w2 then 2 else no_n v lt (rf (upN x.1 w _ w2))
        rw [upN_n hw, upN_n hw, upN_n hw, upd_n hw]
        exact h4
    · obtain ⟨h1, h2, h3, h4⟩ := h
      refine ⟨h1, h2, ?_, ?_⟩
      · show upN x.2.2.1 w _ w2 < 4; rw [upN_n hw]; exact h3
      · show x.1 w2 < rs → EOk es (x.2.1 w2) ∧ upN x.2.2.1 w _ w2 < nx_k v lt rf w2 x
        rw [upN_n hw]
        exact h4
  · exact h
theorem nx_same {v : Int32} {lt rf : Nat → Int32} {es : Nat → Nat} {rs w w2 : Nat} {b : Nat → Int32} {x : NX} (hw : w2 ≠ w) : nx_mu rs w2 (nx v lt rf es rs b w x).2 = nx_mu rs w2 x := by
  unfold nx
  split
  · show nx_mu rs w2 (nx_s v lt rf es rs b w x) = _
    unfold nx_s
    split
    · show 5 * (rs - upN x.1 w _ w2) - upN (upN _ w _) w 0 w2 = _
      rw [upN_n hw, upN_n hw, upN_n hw]; rfl
    · show 5 * (rs - x.1 w2) - upN x.2.2.1 w _ w2 = _
      rw [upN_n hw]; rfl
  · rfl
def am (a : Int32) (m : Nat) : Nat := if a < 0 then 0 else m + 1
theorem am_lt {v : Int32} {lt rf : Nat → Int32} {es : Nat → Nat} {rs i w : Nat} {b : Nat → Int32} {x : NX} {a : Int32} (ha : ¬ a < 0) (hrs : rs ≤ 1000) (hes : ∀ j, es j ≤ 1000) (hb : BYok es rs i b) (h : NXok v lt rf es rs i w x) : am (nx v lt rf es rs b w x).1 (nx_mu rs w (nx v lt rf es rs b w x).2) < am a (nx_mu rs w x) := by
  have h1 := nx_ok hrs hes hb h
  unfold am
  rw [if_neg ha]
  split
  · omega
  · rename_i hn
    have hp : x.1 w < rs := by
      rcases Nat.lt_or_ge (x.1 w) rs with q | q
      · exact q
      · exfalso
        apply hn
        unfold nx
        rw [if_neg (by omega)]
        show (-1 : Int32) < 0
        decide
    have := (h1.2 hp).1
    omega
theorem am_le {a : Int32} {rs w : Nat} {x : NX} (hrs : rs ≤ 1000) : am a (nx_mu rs w x) ≤ 5001 := by
  unfold am nx_mu
  split <;> omega
def ah_0 (a : Nat) (one oth : Int32) (x : NX) : NX := (upN (upN x.1 0 a) 1 a, upd (upd x.2.1 0 one) 1 oth, upN (upN x.2.2.1 0 0) 1 0, x.2.2.2)
def ah_s (v : Int32) (lt rf : Nat → Int32) (es : Nat → Nat) (rs : Nat) (b : Nat → Int32) (x : NX) : Int32 × Int32 × NX := ((nx v lt rf es rs b 0 x).1, (nx v lt rf es rs b 1 (nx v lt rf es rs b 0 x).2).1, (nx v lt rf es rs b 1 (nx v lt rf es rs b 0 x).2).2)
def ah_all (v : Int32) (lt rf : Nat → Int32) (es : Nat → Nat) (rs : Nat) (b : Nat → Int32) : Nat → Int32 × Int32 × NX → Int32 × Int32 × NX
  | 0, z => z
  | m + 1, z => if z.1 = z.2.1 then (if z.1 < 0 then z else ah_all v lt rf es rs b m (ah_s v lt rf es rs b z.2.2)) else z
def ah_z (v : Int32) (lt rf : Nat → Int32) (es : Nat → Nat) (rs : Nat) (b : Nat → Int32) (a : Nat) (one oth : Int32) (x : NX) : Int32 × Int32 × NX := ah_all v lt rf es rs b 6000 (ah_s v lt rf es rs b (ah_0 a one oth x))
def ah (z : Int32 × Int32 × NX) : Int32 := if z.2.1 ≤ z.1 then 0 else 1
theorem ah_nar (z : Int32 × Int32 × NX) : narrow .boolean (.int (ah z)) = .int (ah z) := by
  unfold ah
  split <;> rfl
theorem ah_0_ok {v : Int32} {lt rf : Nat → Int32} {es : Nat → Nat} {rs a : Nat} {one oth : Int32} {x : NX} (ha : a < rs) (hrs : rs ≤ 1000) (h1 : EOk es one) (h2 : EOk es oth) : NXok v lt rf es rs a 0 (ah_0 a one oth x) ∧ NXok v lt rf es rs a 1 (ah_0 a one oth x) := by
  refine ⟨⟨?_, ?_, ?_, fun _ => ⟨?_, ?_⟩⟩, ⟨?_, ?_, ?_, fun _ => ⟨?_, ?_⟩⟩⟩
  · show a ≤ upN (upN x.1 0 a) 1 a 0; rw [upN_n (by decide), upN_s]; exact Nat.le_refl _
  · show upN (upN x.1 0 a) 1 a 0 ≤ 2000; rw [upN_n (by decide), upN_s]; omega
  · show upN (upN x.2.2.1 0 0) 1 0 0 < 4; rw [upN_n (by decide), upN_s]; decide
  · show EOk es (upd (upd x.2.1 0 one) 1 oth 0); rw [upd_n (by decide), upd_s]; exact h1
  · show upN (upN x.2.2.1 0 0) 1 0 0 < _; rw [upN_n (by decide), upN_s]; exact nx_k_pos.1
  · show a ≤ upN (upN x.1 0 a) 1 a 1; rw [upN_s]; exact Nat.le_refl _
  · show upN (upN x.1 0 a) 1 a 1 ≤ 2000; rw [upN_s]; omega
  · show upN (upN x.2.2.1 0 0) 1 0 1 < 4; rw [upN_s]; decide
  · show EOk es (upd (upd x.2.1 0 one) 1 oth 1); rw [upd_s]; exact h2
  · show upN (upN x.2.2.1 0 0) 1 0 1 < _; rw [upN_s]; exact nx_k_pos.1
/-- fewest, by, the numbers one by one -/
abbrev BY : Type := (Nat → Nat) × (Nat → Int32) × NX
def bo_one (v : Int32) (lt rf : Nat → Int32) (es : Nat → Nat) (et : Nat → Int32) (rs i e : Nat) (y : BY) : BY :=
  if fits es et rs rf e i = 0 then y else if 2 + y.1 (i + es e) < y.1 i then (upN y.1 i (2 + y.1 (i + es e)), upd y.2.1 i (nI e), y.2.2) else
  if 2 + y.1 (i + es e) = y.1 i then
    (if ah (ah_z v lt rf es rs y.2.1 i (nI e) (y.2.1 i) y.2.2) = 0 then (y.1, y.2.1, (ah_z v lt rf es rs y.2.1 i (nI e) (y.2.1 i) y.2.2).2.2) else (upN y.1 i (2 + y.1 (i + es e)), upd y.2.1 i (nI e), (ah_z v lt rf es rs y.2.1 i (nI e) (y.2.1 i) y.2.2).2.2))
  else y
def bo_es (v : Int32) (lt rf : Nat → Int32) (es : Nat → Nat) (et : Nat → Int32) (rs i : Nat) : Nat → Nat → BY → BY
  | 0, _, y => y
  | m + 1, e, y => bo_es v lt rf es et rs i m (e + 1) (bo_one v lt rf es et rs i e y)
def bo_0 (v : Int32) (lt rf : Nat → Int32) (i : Nat) (y : BY) : BY := (upN y.1 i ((no v lt (rf i) y.2.2.2.2.2).1 + y.1 (i + 1)), upd y.2.1 i (-1), (y.2.2.1, y.2.2.2.1, y.2.2.2.2.1, (no v lt (rf i) y.2.2.2.2.2).2))
def bo_all (v : Int32) (lt rf : Nat → Int32) (es : Nat → Nat) (et : Nat → Int32) (rs : Nat) : Nat → BY → BY
  | 0, y => y
  | i + 1, y => bo_all v lt rf es et rs i (bo_es v lt rf es et rs i 96 0 (bo_0 v lt rf i y))
def BOok (es : Nat → Nat) (rs i : Nat) (y : BY) : Prop := (∀ j, y.1 j ≤ 4000) ∧ (∀ j, i ≤ j → j ≤ rs → y.1 j ≤ 4 * (rs - j)) ∧ BYok es rs i y.2.1
theorem fits_in {es : Nat → Nat} {et : Nat → Int32} {rs : Nat} {rf : Nat → Int32} {e i : Nat} (h : ¬ fits es et rs rf e i = 0) : 1 ≤ es e ∧ i + es e ≤ rs := by
  unfold fits at h
  split at h
  · exact absurd rfl h
  · split at h
    · omega
    · exact absurd rfl h
theorem BOok.up {es : Nat → Nat} {rs i e : Nat} {y : BY} {x : NX} (hi : i < rs) (he : e < 96) (h1 : 1 ≤ es e) (h : BOok es rs i y) (hn : 2 + y.1 (i + es e) ≤ y.1 i) : BOok es rs i (upN y.1 i (2 + y.1 (i + es e)), upd y.2.1 i (nI e), x) := by
  obtain ⟨a1, a2, a3⟩ := h
  refine ⟨fun j => ?_, fun j q1 q2 => ?_, fun j q1 q2 => ?_⟩
  · show upN y.1 i _ j ≤ 4000
    unfold upN; split
    · have := a1 i; omega
    · exact a1 j
  · show upN y.1 i _ j ≤ _
    unfold upN; split
    · rename_i hj; subst hj; have := a2 j q1 q2; omega
    · exact a2 j q1 q2
  · show EOk es (upd y.2.1 i (nI e) j)
    by_cases hj : j = i
    · subst hj; rw [upd_s]; exact Or.inr ⟨e, he, rfl, h1⟩
    · rw [upd_n hj]; exact a3 j q1 q2
theorem bo_one_ok {v : Int32} {lt rf : Nat → Int32} {es : Nat → Nat} {et : Nat → Int32} {rs i e : Nat} {y : BY} (hi : i < rs) (he : e < 96) (h : BOok es rs i y) : BOok es rs i (bo_one v lt rf es et rs i e y) := by
  unfold bo_one
  split
  · exact h
  · rename_i hf
    have hf := (fits_in hf).1
    split
    · exact h.up hi he hf (by omega)
    · split
      · split
        · exact h
        · exact h.up hi he hf (by omega)
      · exact h
theorem bo_0_ok {v : Int32} {lt rf : Nat → Int32} {es : Nat → Nat} {rs i : Nat} {y : BY} (hrs : rs ≤ 1000) (hi : i < rs) (h : BOok es rs (i + 1) y) : BOok es rs i (bo_0 v lt rf i y) := by
  obtain ⟨a1, a2, a3⟩ := h
  have hk : (no v lt (rf i) y.2.2.2.2.2).1 ≤ 4 := no_le.1
  have h2 := a2 (i + 1) (Nat.le_refl _) hi
  refine ⟨fun j => ?_, fun j q1 q2 => ?_, fun j q1 q2 => ?_⟩
  · show upN y.1 i _ j ≤ 4000
    unfold upN; split
    · omega
    · exact a1 j
  · show upN y.1 i _ j ≤ _
    unfold upN; split
    · rename_i hj; subst hj; omega
    · exact a2 j (by omega) q2
  · show EOk es (upd y.2.1 i (-1) j)
    by_cases hj : j = i
    · subst hj; rw [upd_s]; exact Or.inl rfl
    · rw [upd_n hj]; exact a3 j (by omega) q2
theorem bo_fok {v : Int32} {lt rf : Nat → Int32} {es : Nat → Nat} {rs i : Nat} {y : BY} (hrs : rs ≤ 1000) (hi : i < rs) (h : BOok es rs (i + 1) y) : (no v lt (rf i) y.2.2.2.2.2).1 + y.1 (i + 1) ≤ 4000 := by
  obtain ⟨a1, a2, a3⟩ := h
  have hk : (no v lt (rf i) y.2.2.2.2.2).1 ≤ 4 := no_le.1
  have h2 := a2 (i + 1) (Nat.le_refl _) hi
  omega
theorem bo_s_ok {es : Nat → Nat} {rs : Nat} {y : BY} (hrs : rs ≤ 1000) (h : ∀ j, y.1 j ≤ 4000) : BOok es rs rs (upN y.1 rs 0, y.2.1, y.2.2) := by
  refine ⟨fun j => ?_, fun j q1 q2 => ?_, fun j q1 q2 => ?_⟩
  · show upN y.1 rs 0 j ≤ 4000
    unfold upN; split
    · omega
    · exact h j
  · show upN y.1 rs 0 j ≤ _
    unfold upN; rw [if_pos (by omega)]; omega
  · omega
/-- the numbers of the row, put one by one: the next number, the state, the row of numbers -/
def pb_all (v : Int32) (lt rf : Nat → Int32) (es : Nat → Nat) (rs : Nat) (b : Nat → Int32) : Nat → Int32 × NX × TT → Int32 × NX × TT
  | 0, z => z
  | m + 1, z => if z.1 < 0 then z else pb_all v lt rf es rs b m ((nx v lt rf es rs b 0 z.2.1).1, (nx v lt rf es rs b 0 z.2.1).2, pu z.1 z.2.2)
def pb_0 (rs : Nat) (b : Nat → Int32) (x : NX) : NX := (upN x.1 0 0, upd x.2.1 0 (if rs ≤ 0 then -1 else b 0), upN x.2.2.1 0 0, x.2.2.2)
def pb (v : Int32) (lt rf : Nat → Int32) (es : Nat → Nat) (rs : Nat) (b : Nat → Int32) (x : NX) (t : Nat → Int32) : Int32 × NX × TT := pb_all v lt rf es rs b 6000 ((nx v lt rf es rs b 0 (pb_0 rs b x)).1, (nx v lt rf es rs b 0 (pb_0 rs b x)).2, (0, t))
theorem pb_0_ok {v : Int32} {lt rf : Nat → Int32} {es : Nat → Nat} {rs : Nat} {b : Nat → Int32} {x : NX} (hb : BYok es rs 0 b) : NXok v lt rf es rs 0 0 (pb_0 rs b x) := by
  refine ⟨Nat.zero_le _, ?_, ?_, fun hq => ⟨?_, ?_⟩⟩
  · show upN x.1 0 0 0 ≤ 2000; rw [upN_s]; decide
  · show upN x.2.2.1 0 0 0 < 4; rw [upN_s]; decide
  · have hq2 : 0 < rs := by
      have hq3 : upN x.1 0 0 0 < rs := hq
      rw [upN_s] at hq3; exact hq3
    show EOk es (upd x.2.1 0 (if rs ≤ 0 then -1 else b 0) 0)
    rw [upd_s, if_neg (by omega)]
    exact hb 0 (Nat.le_refl _) hq2
  · show upN x.2.2.1 0 0 0 < _; rw [upN_s]; exact nx_k_pos.1
/-- room for the next number -/
def PBok (mz : Nat) (a : Int32) (x : NX) : Prop := ¬ a < 0 → mz < 4000 ∧ mz + 1 ≤ 4 * x.1 0 + x.2.2.1 0
theorem pb_room {v : Int32} {lt rf : Nat → Int32} {es : Nat → Nat} {rs : Nat} {b : Nat → Int32} {x : NX} {mz : Nat} (hrs : rs ≤ 1000) (hes : ∀ j, es j ≤ 1000) (hb : BYok es rs 0 b) (h : NXok v lt rf es rs 0 0 x) (hm : mz ≤ 4 * x.1 0 + x.2.2.1 0) : PBok mz (nx v lt rf es rs b 0 x).1 (nx v lt rf es rs b 0 x).2 := by
  intro ha
  have hp : x.1 0 < rs := by
    rcases Nat.lt_or_ge (x.1 0) rs with q | q
    · exact q
    · exfalso
      apply ha
      unfold nx
      rw [if_neg (by omega)]
      show (-1 : Int32) < 0
      decide
  have h2 := ((nx_ok hrs hes hb h).2 hp).2
  have h3 := h.2.2.1
  omega
/-- what findEntries works in, what choosing works in, the row of numbers -/
abbrev MB : Type := FM × BY × TT
def MBok (z : MB) : Prop := FMok z.1 ∧ ∀ j, z.2.1.1 j ≤ 4000
def mb_z (v : Int32) (ms : Nat) (mb lt pl : Nat → Int32) (FU : Nat) (z : MB) : FM := fm_all v ms mb lt pl FU (zus v) 96 0 z.1
def mb_y (v : Int32) (lt rf : Nat → Int32) (rs : Nat) (Z : FM) (y : BY) : BY := bo_all v lt rf Z.2.2.2.1 Z.2.2.2.2 rs rs (upN y.1 rs 0, y.2.1, y.2.2)
def mb_p (v : Int32) (lt rf : Nat → Int32) (rs : Nat) (Z : FM) (Y : BY) (t : TT) : Int32 × NX × TT := pb v lt rf Z.2.2.2.1 rs Y.2.1 Y.2.2 t.2
def mb_r (Z : FM) (Y : BY) (P : Int32 × NX × TT) : MB := (Z, (Y.1, Y.2.1, P.2.1), P.2.2)
def mbest (v : Int32) (ms : Nat) (mb lt pl : Nat → Int32) (FU : Nat) (rf : Nat → Int32) (rs : Nat) (z : MB) : MB :=
  mb_r (mb_z v ms mb lt pl FU z) (mb_y v lt rf rs (mb_z v ms mb lt pl FU z) z.2.1) (mb_p v lt rf rs (mb_z v ms mb lt pl FU z) (mb_y v lt rf rs (mb_z v ms mb lt pl FU z) z.2.1) z.2.2)
def mplain (v : Int32) (lt rf : Nat → Int32) (rs : Nat) (z : MB) : MB :=
  (z.1, (z.2.1.1, z.2.1.2.1, (z.2.1.2.2.1, z.2.1.2.2.2.1, z.2.1.2.2.2.2.1, (mp_all v lt rf rs 0 ((0, z.2.2.2), z.2.1.2.2.2.2.2)).2)), (mp_all v lt rf rs 0 ((0, z.2.2.2), z.2.1.2.2.2.2.2)).1)
def mnb (v : Int32) (ms : Nat) (mb lt pl : Nat → Int32) (FU : Nat) (rf : Nat → Int32) (rs : Nat) (how : Int32) (z : MB) : MB := if how = 0 then mplain v lt rf rs z else mbest v ms mb lt pl FU rf rs z
def mnu (v : Int32) (ms : Nat) (mb lt pl : Nat → Int32) (FU : Nat) (rf : Nat → Int32) (rs : Nat) (how : Int32) (z : MB) : Int32 × MB := if how < 0 then (-2, z) else if how ≤ 1 then (nI (mnb v ms mb lt pl FU rf rs how z).2.2.1, mnb v ms mb lt pl FU rf rs how z) else (-2, z)
def mp5 : Nat → TT → TT
  | 0, t => t
  | m + 1, t => if t.1 = 0 then mp5 m (pu 5 t) else if t.1 % 3 = 0 then t else mp5 m (pu 5 t)
def mw_w (t : TT) (k : Nat) : Int32 := (((t.2 k <<< ((10 : Int32) &&& 31)) ||| (t.2 (k + 1) <<< ((5 : Int32) &&& 31))) ||| t.2 (k + 2)) ||| (if k + 3 = t.1 then 32768 else 0)
def mw_all (t : TT) : Nat → Nat → TT → TT
  | 0, _, s => s
  | m + 1, k, s => if k < t.1 then mw_all t m (k + 3) (s.1 + 2, upd (upd s.2 s.1 (mb_of (mw_w t k >>> ((8 : Int32) &&& 31)))) (s.1 + 1) (mb_of (mw_w t k))) else s
def mb_t (z : MB) (t : TT) : MB := (z.1, z.2.1, t)
/-- answer, memory, the rest -/
def mmk (s : TT) (z : MB) : Int32 × TT × MB := if s.1 + z.2.2.1 / 3 * 2 ≤ 3000 then (nI s.1, mw_all z.2.2 z.2.2.1 0 s, z) else (-4, s, z)
def mmake (v : Int32) (s : TT) (lt pl : Nat → Int32) (FU : Nat) (rf : Nat → Int32) (rs : Nat) (how : Int32) (z : MB) : Int32 × TT × MB :=
  if how < 0 then (-2, s, z) else if how ≤ 1 then mmk s (mb_t (mnb v s.1 s.2 lt pl FU rf rs how z) (mp5 3 (mnb v s.1 s.2 lt pl FU rf rs how z).2.2)) else (-2, s, z)
theorem mp_all_le {v : Int32} {lt rf : Nat → Int32} : ∀ (m k : Nat) (s : TT × (Nat → Int32)), (mp_all v lt rf m k s).1.1 ≤ s.1.1 + 4 * m
  | 0, _, _ => Nat.le_refl _
  | m + 1, k, s => by
    have h := mp_all_le (v := v) (lt := lt) (rf := rf) m (k + 1) (mp_one v lt (rf k) s)
    rw [mp_one_1] at h
    have h2 := (no_le (v := v) (lt := lt) (c := rf k) (f := s.2)).1
    rw [mp_all]
    omega
theorem pd_n_pu {t : TT} (h : ¬ (t.1 ≠ 0 ∧ t.1 % 3 = 0)) : pd_n (pu 5 t) < pd_n t := by
  unfold pd_n pu
  show (if t.1 + 1 = 0 then 3 else (3 - (t.1 + 1) % 3) % 3) < _
  rw [if_neg (by omega)]
  split <;> omega
theorem pd_n_le {t : TT} : pd_n t ≤ 3 := by unfold pd_n; split <;> omega
/-! What the constructor makes. -/
def s15 (x : Int32) : Int32 := if x = 0 then 46 else if x = 1 then 44 else if x = 2 then 33 else if x = 3 then 63 else if x = 4 then 95 else if x = 5 then 35 else if x = 6 then 39 else if x = 7 then 34 else if x = 8 then 47 else if x = 9 then 92 else if x = 10 then 60 else if x = 11 then 45 else if x = 12 then 58 else if x = 13 then 40 else 41
def mv (v : Int32) : Int32 := if 1 ≤ v then (if v ≤ 8 then v else 8) else 1
def ml_az : Nat → Nat → (Nat → Int32) → Nat → Int32
  | 0, _, f => f
  | m + 1, j, f => ml_az m (j + 1) (upd (upd f (6 + j) (nI (97 + j))) (38 + j) (nI (65 + j)))
def ml_dg : Nat → Nat → TT → TT
  | 0, _, s => s
  | m + 1, k, s => ml_dg m (k + 1) (s.1 + 1, upd s.2 s.1 (nI (48 + k)))
def ml_15 (v : Int32) : Nat → Nat → TT → TT
  | 0, _, s => s
  | m + 1, k, s => ml_15 v m (k + 1) (if k = 10 then (if v = 1 then (s.1 + 1, upd s.2 s.1 (s15 (nI k))) else s) else (s.1 + 1, upd s.2 s.1 (s15 (nI k))))
def ml_1 : Nat → Int32 := upd (ml_az 26 0 (fun _ => 0)) 70 (-1)
def ml_2 (v : Int32) : TT := if v ≤ 1 then (71, ml_1) else (72, upd ml_1 71 13)
def ml (v : Int32) : Nat → Int32 := (ml_15 v 15 0 (ml_dg 10 0 (ml_2 v))).2
