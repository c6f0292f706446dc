/-! numbers, make, and the beginning, side by side. -/
theorem plain_eq {v : Int32} {g lt : Nat → Int32} {tr : TT} {rs : Nat} {rf : Nat → Int32} {y : BS} {z : MB} (hv : VER v) (hl : LET g lt) (hr : ROW tr rs rf) (hy : BSok y) : TEQ (nb_0 v g tr y).2.2 (mplain v lt rf rs z).2.2 ∧ VAL (mplain v lt rf rs z).2.2 ∧ (mplain v lt rf rs z).2.2.1 ≤ 4000 := by
  have hrs := hr.2.1
  have h := sr_mp (g := g) hv hl hr rs 0 (0, y.2.2.2) ((0, z.2.2.2), z.2.1.2.2.2.2.2) (by omega) TEQ.zero VAL.zero (Nat.le_refl _)
  have e : (nb_0 v g tr y).2.2 = sr_all v g tr rs 0 (0, y.2.2.2) := by
    show sr_all v g tr tr.1 0 (rw_c 0 y.2.2) = _
    rw [hr.1, rw_c0_1 (by have := hy.2.2.2; omega)]
  rw [e]
  refine ⟨h.1, h.2, ?_⟩
  have h2 : (mp_all v lt rf rs 0 ((0, z.2.2.2), z.2.1.2.2.2.2.2)).1.1 ≤ 0 + 4 * rs := mp_all_le rs 0 _
  show (mp_all v lt rf rs 0 ((0, z.2.2.2), z.2.1.2.2.2.2.2)).1.1 ≤ 4000
  omega
theorem best_eq {v : Int32} {g lt pl : Nat → Int32} {tm s tE tr : TT} {rs FU : Nat} {rf : Nat → Int32} {y : BS} {z : MB} (hv : VER v) (hl : LET g lt) (hm : MEM tm s) (hE : ENT tE pl) (hr : ROW tr rs rf) (hFU : 82000000 < FU) (hy : BSok y) (hz : MBok z) : TEQ (nb_1 v g tm tE tr (zus v) y).2.2 (mbest v s.1 s.2 lt pl FU rf rs z).2.2 ∧ VAL (mbest v s.1 s.2 lt pl FU rf rs z).2.2 ∧ (mbest v s.1 s.2 lt pl FU rf rs z).2.2.1 ≤ 4000 := by
  have hrs := hr.2.1
  have hrel := found_eq (y := z.1) (z := y.1) hv hl hm hE hr hFU hy.1.1
  have hes0 := fm_es0 (v := v) (ms := s.1) (mb := s.2) (lt := lt) (pl := pl) (FU := FU) (us := zus v) 96 0 z.1 (fun j _ j2 => absurd j2 (Nat.not_lt_zero _))
  obtain ⟨Z, hZ⟩ : ∃ Z, fm_all v s.1 s.2 lt pl FU (zus v) 96 0 z.1 = Z := ⟨_, rfl⟩
  obtain ⟨F, hF⟩ : ∃ F, fe v g tm tE tr (zus v) y.1 = F := ⟨_, rfl⟩
  rw [hZ] at hrel hes0
  rw [hF] at hrel
  have hA : ALLE (zus v) rs rf F.2.2.1 F.2.2.2 Z.2.2.2.1 Z.2.2.2.2 := ⟨hrel.2.1, fun j j1 j2 => hes0 j j1 (by omega)⟩
  obtain ⟨Y, hY⟩ : ∃ Y, bo_all v lt rf Z.2.2.2.1 Z.2.2.2.2 rs rs (upN z.2.1.1 rs 0, z.2.1.2.1, z.2.1.2.2) = Y := ⟨_, rfl⟩
  obtain ⟨C, hC⟩ : ∃ C, ch v g tr (zus v) F.2.2.1 F.2.2.2 y.2.1 = C := ⟨_, rfl⟩
  have hbo : BOok Z.2.2.2.1 rs 0 Y := by
    rw [← hY]
    exact bo_all_ok hrs rs _ (Nat.le_refl _) (bo_s_ok hrs hz.2)
  have hRB : RELB rs 0 C.2 Y := by
    rw [← hC, ← hY, ch, hr.1]
    refine ch_bo hv hl hr hA rs _ _ (Nat.le_refl _) hy.2.1 ⟨fun j j1 j2 => ?_, fun j j1 j2 => absurd j1 (by omega)⟩
    show upN y.2.1.2.1 rs 0 j = upN z.2.1.1 rs 0 j
    rw [show j = rs by omega, upN_s, upN_s]
  have hBY := hbo.2.2
  obtain ⟨n1, n2⟩ := nls_all (v := v) (lt := lt) hl hr.2.2.2 hBY rs 0
  have e1 : (nb_1 v g tm tE tr (zus v) y).2.2 = ps (NLS v lt rf Z.2.2.2.1 rs Y.2.1 0) (0, y.2.2.2) := by
    show (sc_all v g tr (fe v g tm tE tr (zus v) y.1).2.2.1 (ch v g tr (zus v) (fe v g tm tE tr (zus v) y.1).2.2.1 (fe v g tm tE tr (zus v) y.1).2.2.2 y.2.1).2.2 tr.1 0 (0, rw_c 0 y.2.2)).2 = _
    rw [hF, hC, hr.1, sc_list hv hl hr hBY (fun j hj => hRB.2 j (Nat.zero_le _) hj) (fun j hj hne => (hA.1 j hj).2.1 hne) rs 0 0 _ (by omega), rw_c0_1 (by have := hy.2.2.2; omega)]
    show ra 4002 (nls v lt rf Z.2.2.2.1 rs Y.2.1 rs 0) (0, y.2.2.2) = _
    rw [ra_ps _ _ (by show 0 + _ ≤ 4002; omega)]
    rfl
  have e2 : (mbest v s.1 s.2 lt pl FU rf rs z).2.2 = ps (NLS v lt rf Z.2.2.2.1 rs Y.2.1 0) (0, z.2.2.2) := by
    show (pb v lt rf (mb_z v s.1 s.2 lt pl FU z).2.2.2.1 rs (mb_y v lt rf rs (mb_z v s.1 s.2 lt pl FU z) z.2.1).2.1 (mb_y v lt rf rs (mb_z v s.1 s.2 lt pl FU z) z.2.1).2.2 z.2.2.2).2.2 = _
    rw [show mb_z v s.1 s.2 lt pl FU z = Z from hZ, show mb_y v lt rf rs Z z.2.1 = Y from hY, pb]
    have hat := REMX.at (v := v) (lt := lt) (rf := rf) (x := pb_0 rs Y.2.1 Y.2.2) hBY (fun hq => by
      have hq2 : upN Y.2.2.1 0 0 0 < rs := hq
      rw [upN_s] at hq2
      show upd Y.2.2.2.1 0 (if rs ≤ 0 then -1 else Y.2.1 0) 0 = Y.2.1 (upN Y.2.2.1 0 0 0)
      rw [upd_s, upN_s, if_neg (by omega)]) (by show upN Y.2.2.2.2.1 0 0 0 = 0; rw [upN_s])
    have e0 : (pb_0 rs Y.2.1 Y.2.2).1 0 = 0 := by show upN Y.2.2.1 0 0 0 = 0; rw [upN_s]
    rw [e0] at hat
    exact pb_list hBY _ 6000 _ _ (by show (nls v lt rf Z.2.2.2.1 rs Y.2.1 rs 0).length < 6000; omega) n1 hat
  rw [e1, e2]
  refine ⟨TEQ.ps _ TEQ.zero, VAL.ps _ n1 VAL.zero, ?_⟩
  rw [ps_1]
  show 0 + (nls v lt rf Z.2.2.2.1 rs Y.2.1 rs 0).length ≤ 4000
  omega
theorem how_cases (how : Int32) : how = 0 ∨ how = 1 ∨ (¬ how = 0 ∧ ¬ how = 1 ∧ (how < 0 ∨ (¬ how < 0 ∧ ¬ how ≤ 1))) := by
  rcases pk_ix how (n := 2) (by decide) with q | q | ⟨j, hj, rfl⟩
  · right; right
    refine ⟨fun z => ?_, fun z => ?_, Or.inl q⟩
    · rw [z] at q; exact absurd q (by decide)
    · rw [z] at q; exact absurd q (by decide)
  · right; right
    have q2 : (1 : Int32) < how := nI_lt_of (k := 1) (by decide) q
    refine ⟨fun z => ?_, fun z => ?_, Or.inr ⟨nn_of_ge (by decide) q, Int32.not_le.mpr q2⟩⟩
    · rw [z] at q; exact absurd q (by decide)
    · rw [z] at q; exact absurd q (by decide)
  · rcases (show j = 0 ∨ j = 1 by omega) with rfl | rfl
    · left; rfl
    · right; left; rfl
theorem numbers_eq {v : Int32} {g lt pl : Nat → Int32} {tm s tE tr : TT} {rs FU : Nat} {rf : Nat → Int32} {how : Int32} {y : BS} {z : MB} (hv : VER v) (hl : LET g lt) (hm : MEM tm s) (hE : ENT tE pl) (hr : ROW tr rs rf) (hFU : 82000000 < FU) (hy : BSok y) (hz : MBok z) : nb_r v g tm tE tr (zus v) how y = (mnu v s.1 s.2 lt pl FU rf rs how z).1 := by
  unfold nb_r mnu mnb
  rcases how_cases how with rfl | rfl | ⟨h0, h1, h2⟩
  · rw [if_pos rfl, if_neg (by decide), if_pos (by decide), if_pos rfl]
    show nI _ = nI _
    rw [(plain_eq (z := z) hv hl hr hy).1.1]
  · rw [if_neg (by decide), if_pos rfl, if_neg (by decide), if_pos (by decide), if_neg (by decide)]
    show nI _ = nI _
    rw [(best_eq hv hl hm hE hr hFU hy hz).1.1]
  · rw [if_neg h0, if_neg h1]
    rcases h2 with q | ⟨q, q2⟩
    · rw [if_pos q]
    · rw [if_neg q, if_neg q2]
theorem mkz_eq {v : Int32} {g lt pl : Nat → Int32} {tm s tE tr : TT} {rs FU : Nat} {rf : Nat → Int32} {how : Int32} {y : BS} {z : MB} (hv : VER v) (hl : LET g lt) (hm : MEM tm s) (hE : ENT tE pl) (hr : ROW tr rs rf) (hFU : 82000000 < FU) (hy : BSok y) (hz : MBok z) : (mkz v g tm tE tr (zus v) how y).1 = (mmake v s lt pl FU rf rs how z).1 ∧ MEM (mkz v g tm tE tr (zus v) how y).2.1 (mmake v s lt pl FU rf rs how z).2.1 := by
  unfold mkz mmake mnb
  rcases how_cases how with rfl | rfl | ⟨h0, h1, h2⟩
  · rw [if_pos rfl, if_neg (by decide), if_pos (by decide), if_pos rfl]
    obtain ⟨a1, a2, a3⟩ := plain_eq (z := z) hv hl hr hy
    exact make_eq hm a1 a2 a3
  · rw [if_neg (by decide), if_pos rfl, if_neg (by decide), if_pos (by decide), if_neg (by decide)]
    obtain ⟨a1, a2, a3⟩ := best_eq hv hl hm hE hr hFU hy hz
    exact make_eq hm a1 a2 a3
  · rw [if_neg h0, if_neg h1]
    rcases h2 with q | ⟨q, q2⟩
    · rw [if_pos q]; exact ⟨rfl, hm⟩
    · rw [if_neg q, if_neg q2]; exact ⟨rfl, hm⟩
theorem zv_mv (v : Int32) : zv v = mv v := by
  unfold zv mv
  by_cases h8 : v < 8
  · rw [if_pos h8]
    by_cases h1 : 1 < v
    · rw [if_pos h1, if_pos (Int32.le_of_lt h1), if_pos (Int32.le_of_lt h8)]
    · rw [if_neg h1]
      by_cases h2 : 1 ≤ v
      · rw [if_pos h2, if_pos (Int32.le_of_lt h8)]
        exact Int32.le_antisymm h2 (Int32.not_lt.mp h1)
      · rw [if_neg h2]
  · rw [if_neg h8, if_pos (by decide)]
    have h9 := Int32.not_lt.mp h8
    rw [if_pos (Int32.le_trans (by decide) h9)]
    by_cases h2 : v ≤ 8
    · rw [if_pos h2]; exact Int32.le_antisymm h9 h2
    · rw [if_neg h2]
theorem mv_ver (v : Int32) : VER (mv v) := by
  unfold mv
  by_cases h1 : 1 ≤ v
  · rw [if_pos h1]
    by_cases h8 : v ≤ 8
    · rw [if_pos h8]
      obtain ⟨j, hj, rfl⟩ := nI_of2 (M := 8) (n := 8) (by decide) (fun z => absurd (Int32.lt_of_lt_of_le z (by decide : (0 : Int32) ≤ 1)) (fun y => absurd (Int32.lt_of_lt_of_le z (Int32.le_trans (by decide : (0 : Int32) ≤ 1) h1)) (Int32.lt_irrefl))) h8
      exact ⟨j, (nI_leI (a := 1) (b := j) (by decide) (by omega)).mp h1, hj, rfl⟩
    · rw [if_neg h8]; exact ⟨8, by decide, by decide, rfl⟩
  · rw [if_neg h1]; exact ⟨1, by decide, by decide, rfl⟩
theorem let_1 : (∀ a, a < 3 → ∀ n, n < 32 → 6 ≤ n → al_0 1 (26 * a + n - 6) = ml 1 (32 * a + n) ∧ (32 * a + n ≠ 70 → 0 ≤ ml 1 (32 * a + n) ∧ ml 1 (32 * a + n) ≤ 1023)) ∧ ml 1 70 = -1 := by decide +kernel
theorem let_2 : (∀ a, a < 3 → ∀ n, n < 32 → 6 ≤ n → al_0 2 (26 * a + n - 6) = ml 2 (32 * a + n) ∧ (32 * a + n ≠ 70 → 0 ≤ ml 2 (32 * a + n) ∧ ml 2 (32 * a + n) ≤ 1023)) ∧ ml 2 70 = -1 := by decide +kernel
theorem ml_15_v {v : Int32} (h : ¬ v = 1) : ∀ (m k : Nat) (s : TT), ml_15 v m k s = ml_15 2 m k s
  | 0, _, _ => rfl
  | m + 1, k, s => by
    rw [ml_15, ml_15, if_neg h, if_neg (show ¬ ((2 : Int32) = 1) by decide), ml_15_v h m]
theorem let_0 {v : Int32} (hv : VER v) : LET (al_0 v) (ml v) := by
  have main : ∀ w : Int32, ((∀ a, a < 3 → ∀ n, n < 32 → 6 ≤ n → al_0 w (26 * a + n - 6) = ml w (32 * a + n) ∧ (32 * a + n ≠ 70 → 0 ≤ ml w (32 * a + n) ∧ ml w (32 * a + n) ≤ 1023)) ∧ ml w 70 = -1) → LET (al_0 w) (ml w) := by
    intro w h
    refine ⟨fun a n ha n1 n2 => (h.1 a ha n n2 n1).1, h.2, fun a n ha n1 n2 hne => ?_⟩
    obtain ⟨q1, q2⟩ := (h.1 a ha n n2 n1).2 hne
    obtain ⟨j, hj, e⟩ := nI_of2 (M := 1023) (n := 1023) (by decide) (Int32.not_lt.mpr q1) q2
    exact ⟨j, by omega, e⟩
  obtain ⟨j, j1, j8, rfl⟩ := hv
  by_cases h : j = 1
  · subst h; exact main 1 let_1
  · have hn : ¬ nI j = 1 := fun z => h ((nI_eq (a := j) (b := 1) (by omega) (by decide)).mp z)
    have hn2 : ¬ nI j ≤ 1 := nI_ge (a := 1) (by omega) (by omega)
    have e1 : al_0 (nI j) = al_0 2 := by rw [al_0, al_0, if_neg hn, if_neg (by decide)]
    have e2 : ml (nI j) = ml 2 := by
      rw [ml, ml, ml_15_v hn, ml_2, ml_2, if_neg hn2, if_neg (show ¬ ((2 : Int32) ≤ 1) by decide)]
    rw [e1, e2]
    exact main 2 let_2
theorem ent_0 : ENT en_0 (fl_all (-1) 96 0 (fun _ => 0)) := ⟨by decide +kernel, by decide +kernel⟩
