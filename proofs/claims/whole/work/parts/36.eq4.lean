/-! Alphabets, entries, separators, tokens. -/
theorem nI_lt_of {k : Nat} {x : Int32} (hk : k + 1 < 2 ^ 31) (h : nI (k + 1) ≤ x) : nI k < x := by
  apply Int32.lt_iff_toInt_lt.mpr
  have a := Int32.le_iff_toInt_le.mp h
  rw [nI_toInt hk] at a
  rw [nI_toInt (by omega)]
  omega
theorem may_is {A N : Int32} : (al_may A N = 0 ∧ ma_is A N = false) ∨ ∃ a n, a < 3 ∧ 6 ≤ n ∧ n < 32 ∧ (a = 2 → 8 ≤ n) ∧ A = nI a ∧ N = nI n ∧ ¬ al_may A N = 0 ∧ ma_is A N = true := by
  rcases pk_ix A (n := 3) (by decide) with q | q | ⟨a, ha, rfl⟩
  · refine Or.inl ⟨?_, ?_⟩
    · rw [al_may, al_is, if_pos q, if_pos rfl]
    · rw [ma_is, if_pos q]
  · have q0 := nn_of_ge (by decide) q
    have q1 : (2 : Int32) < A := nI_lt_of (k := 2) (by decide) q
    refine Or.inl ⟨?_, ?_⟩
    · rw [al_may, al_is, if_neg q0, if_pos q1, if_pos rfl]
    · rw [ma_is, if_neg q0, if_pos q1]
  · have a0 : ¬ nI a < 0 := nI_pos (by omega)
    have a2 : ¬ (2 : Int32) < nI a := nI_nlt (a := 2) (by omega) (by decide)
    rcases pk_ix N (n := 32) (by decide) with q | q | ⟨n, hn, rfl⟩
    · have q6 : N < 6 := Int32.lt_trans q (by decide)
      refine Or.inl ⟨?_, ?_⟩
      · rw [al_may, al_is, if_neg a0, if_neg a2, if_pos q6, if_pos rfl]
      · rw [ma_is, if_neg a0, if_neg a2, if_pos q6]
    · have q1 : (31 : Int32) < N := nI_lt_of (k := 31) (by decide) q
      have q6 : ¬ N < 6 := fun z => absurd (Int32.lt_trans q1 z) (by decide)
      refine Or.inl ⟨?_, ?_⟩
      · rw [al_may, al_is, if_neg a0, if_neg a2, if_neg q6, if_pos q1, if_pos rfl]
      · rw [ma_is, if_neg a0, if_neg a2, if_neg q6, if_pos q1]
    · rcases Nat.lt_or_ge n 6 with z | z
      · have q6 : nI n < 6 := nI_lt (b := 6) z (by decide)
        refine Or.inl ⟨?_, ?_⟩
        · rw [al_may, al_is, if_neg a0, if_neg a2, if_pos q6, if_pos rfl]
        · rw [ma_is, if_neg a0, if_neg a2, if_pos q6]
      · have q6 : ¬ nI n < 6 := nI_nlt (b := 6) z (by omega)
        have q1 : ¬ (31 : Int32) < nI n := nI_nlt (a := 31) (by omega) (by decide)
        have e : ¬ al_is (nI a) (nI n) = 0 := by rw [al_is, if_neg a0, if_neg a2, if_neg q6, if_neg q1]; decide
        by_cases h2 : a = 2
        · subst h2
          by_cases h8 : 8 ≤ n
          · refine Or.inr ⟨2, n, ha, z, hn, fun _ => h8, rfl, rfl, ?_, ?_⟩
            · rw [al_may, if_neg e, if_pos (show nI 2 = 2 from rfl), if_neg (show ¬ nI n ≤ 7 from nI_ge (a := 7) (by omega) (by omega))]; decide
            · rw [ma_is, if_neg a0, if_neg a2, if_neg q6, if_neg q1, if_pos (show nI 2 = 2 from rfl), if_pos (show 8 ≤ nI n from nI_le (a := 8) h8 (by omega))]
          · refine Or.inl ⟨?_, ?_⟩
            · rw [al_may, if_neg e, if_pos (show nI 2 = 2 from rfl), if_pos (show nI n ≤ 7 from nI_le (b := 7) (by omega) (by decide))]
            · rw [ma_is, if_neg a0, if_neg a2, if_neg q6, if_neg q1, if_pos (show nI 2 = 2 from rfl), if_neg (show ¬ 8 ≤ nI n from nI_ge (b := 8) (by omega) (by decide))]
        · have h2' : ¬ nI a = 2 := fun y => h2 ((nI_eq (a := a) (b := 2) (by omega) (by decide)).mp y)
          refine Or.inr ⟨a, n, ha, z, hn, fun y => absurd y h2, rfl, rfl, ?_, ?_⟩
          · rw [al_may, if_neg e, if_neg h2']; decide
          · rw [ma_is, if_neg a0, if_neg a2, if_neg q6, if_neg q1, if_neg h2']
theorem alphabet_eq {v : Int32} {g lt : Nat → Int32} {A N c : Int32} (h : LET g lt) : za_r v g A N c = ma_r v lt A N c ∧ LET (za_g v g A N c) (ma_l v lt A N c) := by
  unfold za_r za_g ma_r ma_l
  by_cases h5 : 5 ≤ v
  · simp only [if_pos h5]
    rcases may_is (A := A) (N := N) with ⟨e1, e2⟩ | ⟨a, n, ha, n1, n2, h28, rfl, rfl, e1, e2⟩
    · simp only [if_pos e1, e2]; exact ⟨rfl, h⟩
    · simp only [if_neg e1, e2, if_true]
      rcases pk_ix c (n := 1024) (by decide) with q | q | ⟨j, hj, rfl⟩
      · have e : zs_is c = 0 := by rw [zs_is, if_pos q]
        simp only [if_pos e, if_pos q]; exact ⟨trivial, h⟩
      · have q0 := nn_of_ge (by decide) q
        have e : zs_is c = 0 := by rw [zs_is, if_neg q0, if_pos (show (1024 : Int32) ≤ c from q)]
        have q2 : ¬ c ≤ 1023 := Int32.not_le.mpr (nI_lt_of (k := 1023) (by decide) q)
        simp only [if_pos e, if_neg q0, if_neg q2]; exact ⟨trivial, h⟩
      · have e : ¬ zs_is (nI j) = 0 := by rw [zs_is, if_neg (nI_pos (by omega)), if_neg (show ¬ (1024 : Int32) ≤ nI j from nI_ge (b := 1024) hj (by decide))]; decide
        have q0 : ¬ nI j < 0 := nI_pos (by omega)
        have q2 : nI j ≤ 1023 := nI_le (b := 1023) (by omega) (by decide)
        simp only [if_neg e, if_neg q0, if_pos q2]
        have x1 : (al_ix (nI a) (nI n)).toNatClampNeg = 26 * a + n - 6 := by
          rw [al_ix, show (26 : Int32) = nI 26 from rfl, show (6 : Int32) = nI 6 from rfl, pk_mul, nI_add, pk_sub (by omega), nI_clamp (by omega)]
        have x2 : (32 * nI a + nI n).toNatClampNeg = 32 * a + n := by
          rw [show (32 : Int32) = nI 32 from rfl, pk_mul, nI_add, nI_clamp (by omega)]
        rw [al_old, al_chg, if_neg e1, if_neg e1, x1, x2]
        refine ⟨h.1 a n ha n1 n2, ?_, ?_, ?_⟩
        · intro a' n' ha' n1' n2'
          by_cases z : 32 * a' + n' = 32 * a + n
          · rw [z, show 26 * a' + n' - 6 = 26 * a + n - 6 by omega, upd_s, upd_s]
          · rw [upd_n z, upd_n (by omega)]
            exact h.1 a' n' ha' n1' n2'
        · rw [upd_n (by omega)]; exact h.2.1
        · intro a' n' ha' n1' n2' hne
          by_cases z : 32 * a' + n' = 32 * a + n
          · rw [z, upd_s]; exact ⟨j, hj, rfl⟩
          · rw [upd_n z]; exact h.2.2 a' n' ha' n1' n2' hne
  · simp only [if_neg h5]; exact ⟨trivial, h⟩
def ENT (tE : TT) (pl : Nat → Int32) : Prop := tE.1 = 96 ∧ ∀ j, j < 96 → tE.2 j = pl j ∧ pl j ≤ 3000
theorem ENT.get {tE : TT} {pl : Nat → Int32} (h : ENT tE pl) {j : Nat} (hj : j < 96) : rw_get tE.1 tE.2 (nI j) = pl j := by
  have h1 := h.1
  rw [rw_get_nI (by omega) (by omega), if_pos (by omega)]
  exact (h.2 j hj).1
theorem ent_eq {tE : TT} {pl : Nat → Int32} {i b : Int32} (h : ENT tE pl) : ze_r tE i b = me_r pl i b ∧ ENT (ze_t tE i b) (me_p pl i b) := by
  obtain ⟨h1, h2⟩ := id h
  unfold ze_r ze_t me_r me_p
  rcases pk_ix i (n := 96) (by decide) with q | q | ⟨j, hj, rfl⟩
  · have e : rw_has tE.1 i = 0 := by rw [rw_has, if_pos q]
    simp only [if_pos q, if_pos e]; exact ⟨trivial, h⟩
  · have q0 := nn_of_ge (by decide) q
    have e : rw_has tE.1 i = 0 := by rw [rw_has, if_neg q0, h1, if_pos q]
    have q2 : ¬ i ≤ 95 := Int32.not_le.mpr (nI_lt_of (k := 95) (by decide) q)
    simp only [if_neg q0, if_neg q2, if_pos e]; exact ⟨trivial, h⟩
  · have e : ¬ rw_has tE.1 (nI j) = 0 := by rw [rw_has_nI (by omega) (by omega), if_pos (by omega)]; decide
    have q0 : ¬ nI j < 0 := nI_pos (by omega)
    have q2 : nI j ≤ 95 := nI_le (b := 95) (by omega) (by decide)
    simp only [if_neg e, if_neg q0, if_pos q2]
    by_cases b0 : b < -1
    · simp only [if_pos b0]; exact ⟨trivial, h⟩
    · simp only [if_neg b0]
      by_cases b1 : b ≤ 3000
      · simp only [if_pos b1]
        rw [nI_clamp (show j < 2 ^ 31 by omega)]
        refine ⟨h.get hj, h1, fun k hk => ?_⟩
        show rw_rep tE.1 tE.2 (nI j) b k = upd pl j b k ∧ upd pl j b k ≤ 3000
        rw [rw_rep, if_neg e, nI_clamp (show j < 2 ^ 31 by omega)]
        by_cases z : k = j
        · rw [z, upd_s, upd_s]; exact ⟨rfl, b1⟩
        · rw [upd_n z, upd_n z]; exact h2 k hk
      · simp only [if_neg b1]; exact ⟨trivial, h⟩
def SEP (s s2 : Nat → Int32) : Prop := (∀ c, c < 1024 → s c = s2 c) ∧ s2 32 = 0
theorem SEP.is {s s2 : Nat → Int32} (h : SEP s s2) {c : Int32} (hc : SG c) : pt_is s c = 0 ↔ s2 c.toNatClampNeg = 0 := by
  obtain ⟨j, hj, rfl⟩ := hc
  have e : ¬ zs_is (nI j) = 0 := by rw [zs_is, if_neg (nI_pos (by omega)), if_neg (show ¬ (1024 : Int32) ≤ nI j from nI_ge (b := 1024) hj (by decide))]; decide
  rw [pt_is, if_neg e, nI_clamp (by omega), h.1 j hj]
  split
  · rename_i q; exact ⟨fun _ => q, fun _ => rfl⟩
  · rename_i q; exact ⟨fun z => absurd z (by decide), fun z => absurd z q⟩
theorem separator_eq {s s2 : Nat → Int32} {c b : Int32} (h : SEP s s2) : zsep_r s c = msep_r s2 c ∧ SEP (zsep_s s c b) (msep_s s2 c b) := by
  unfold zsep_r zsep_s msep_r msep_s
  rcases pk_ix c (n := 1024) (by decide) with q | q | ⟨j, hj, rfl⟩
  · have e : zs_is c = 0 := by rw [zs_is, if_pos q]
    simp only [if_pos e, if_pos q]; exact ⟨trivial, h⟩
  · have q0 := nn_of_ge (by decide) q
    have e : zs_is c = 0 := by rw [zs_is, if_neg q0, if_pos (show (1024 : Int32) ≤ c from q)]
    have q2 : (1023 : Int32) < c := nI_lt_of (k := 1023) (by decide) q
    simp only [if_pos e, if_neg q0, if_pos q2]; exact ⟨trivial, h⟩
  · have e : ¬ zs_is (nI j) = 0 := by rw [zs_is, if_neg (nI_pos (by omega)), if_neg (show ¬ (1024 : Int32) ≤ nI j from nI_ge (b := 1024) hj (by decide))]; decide
    have q0 : ¬ nI j < 0 := nI_pos (by omega)
    have q2 : ¬ (1023 : Int32) < nI j := nI_nlt (a := 1023) (by omega) (by decide)
    have hi := h.is (c := nI j) ⟨j, hj, rfl⟩
    simp only [if_neg e, if_neg q0, if_neg q2]
    by_cases h32 : nI j = 32
    · simp only [if_pos h32]; exact ⟨trivial, h⟩
    · simp only [if_neg h32]
      have hj32 : j ≠ 32 := fun z => h32 (by rw [z]; rfl)
      refine ⟨?_, ?_⟩
      · by_cases z : s2 (nI j).toNatClampNeg = 0
        · rw [if_pos z, if_pos (hi.mpr z)]
        · rw [if_neg z, if_neg (fun y => z (hi.mp y))]
      · rw [pt_set, if_neg e, nI_clamp (by omega)]
        refine ⟨fun k hk => ?_, ?_⟩
        · by_cases z : k = j
          · rw [z, upd_s, upd_s]
          · rw [upd_n z, upd_n z]; exact h.1 k hk
        · rw [upd_n (fun z => hj32 z.symm)]; exact h.2
def TOK (z : PZ) (k : TK) : Prop := z.1.1 = k.1 ∧ z.2.1.1 = k.1 ∧ z.2.2.1.1 = k.1 ∧ k.1 ≤ 1000 ∧ ∀ j, j < k.1 → z.1.2 j = k.2.1 j ∧ z.2.1.2 j = k.2.2.1 j ∧ z.2.2.1.2 j = k.2.2.2 j
theorem token_eq {z : PZ} {t : TK} {k w : Int32} (h : TOK z t) : tk_val z k w = mtok t k w := by
  obtain ⟨h1, h2, h3, h4, h5⟩ := h
  unfold tk_val mtok
  rcases pk_ix k (n := t.1) (by omega) with q | q | ⟨j, hj, rfl⟩
  · rw [rw_has, if_pos q, if_pos rfl, if_pos q]
  · have q0 := nn_of_ge (by omega) q
    rw [rw_has, if_neg q0, h1, if_pos q, if_pos rfl, if_neg q0, if_neg (Int32.not_lt.mpr q)]
  · have g1 : rw_get z.1.1 z.1.2 (nI j) = t.2.1 j := by rw [rw_get_nI (by omega) (by omega), if_pos (by omega)]; exact (h5 j hj).1
    have g2 : rw_get z.2.1.1 z.2.1.2 (nI j) = t.2.2.1 j := by rw [rw_get_nI (by omega) (by omega), if_pos (by omega)]; exact (h5 j hj).2.1
    have g3 : rw_get z.2.2.1.1 z.2.2.1.2 (nI j) = t.2.2.2 j := by rw [rw_get_nI (by omega) (by omega), if_pos (by omega)]; exact (h5 j hj).2.2
    have e : ¬ rw_has z.1.1 (nI j) = 0 := by rw [rw_has_nI (by omega) (by omega), if_pos (by omega)]; decide
    rw [if_neg e, if_neg (nI_pos (by omega)), if_pos (nI_lt hj (by omega)), g1, g2, g3, nI_clamp (by omega)]
