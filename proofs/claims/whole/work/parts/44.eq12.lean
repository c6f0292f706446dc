/-! tell, and what an entry tells. -/
theorem TOLD.zero {f f' : Nat → Int32} : TOLD (0, f) (0, f') := ⟨TEQ.zero, Nat.zero_le _, fun j hj => absurd hj (Nat.not_lt_zero _)⟩
theorem cp_all_at {g : Nat → Int32} {o : Nat} : ∀ (m k : Nat) (f : Nat → Int32) (j : Nat), cp_all g o m k f j = if o + k ≤ j ∧ j < o + k + m then g (j - o) else f j
  | 0, k, f, j => by rw [cp_all, if_neg (by omega)]
  | m + 1, k, f, j => by
    rw [cp_all, cp_all_at m (k + 1)]
    by_cases h : o + (k + 1) ≤ j ∧ j < o + (k + 1) + m
    · rw [if_pos h, if_pos (by omega)]
    · rw [if_neg h]
      by_cases hj : j = o + k
      · rw [hj, upd_s, if_pos (by omega)]; congr 1; omega
      · rw [upd_n hj, if_neg (by omega)]
theorem tell_run {v : Int32} {lt pl g : Nat → Int32} {tm s tE : TT} (hv : VER v) (hl : LET g lt) (hm : MEM tm s) (hE : ENT tE pl) {q FU : Nat} (hq : q ≤ 3000) (hFU : 82000000 < FU) (r : RS) (f f' : Nat → Int32) (n : NS) :
    let R := tf0 v g tm tE tm.1 q (rd_0, r, (0, f))
    let M := tm_all v s.1 s.2 lt pl 0 FU (0, 0, 0, -1, 0, (0, f'), st_ 0 (nI q) n)
    TOLD R.2.2.2 M.2.2.2.2.2.1 ∧ ((∃ p : Nat, p ≤ 3000 ∧ R.1 = nI p ∧ M.2.2.2.2.1 = 0 ∧ M.2.2.2.2.2.2.1 0 = nI p) ∨ (F5 M.2.2.2.2.1 ∧ ¬ M.2.2.2.2.1 = 0 ∧ R.1 = -M.2.2.2.2.1)) := by
  intro R M
  have hms := hm.2.1
  have hval := txt_val (ms := s.1) (mb := s.2) s.1 q
  have hst : REM s.1 s.2 (st_ 0 (nI q) n) 0 (TX s.1 s.2 q).1 (TX s.1 s.2 q).2 := REM.st hq
  obtain ⟨k, lv', lkT', lk', al', fa', t'', n', k1, k2, k3, k4, k6⟩ := lv0_run (c9 := 4510) hv hl hm hE (by decide) (TX s.1 s.2 q).1.length (TX s.1 s.2 q).1 (Nat.le_refl _) hval.1 0 0 (-1) 0 r (0, f) (0, f') _ L3_0 (Or.inl rfl) TOLD.zero hst
  rw [kb_eq] at k1
  have hlen : (TX s.1 s.2 q).1.length ≤ 9000 := Nat.le_trans hval.2.1 (by omega)
  have hk : k ≤ 41000000 := by omega
  have eR : R = tfin (TX s.1 s.2 q).2 (cl0 v g tm tE (TX s.1 s.2 q).1 (rd_0, r, (0, f))) := tx_ms0 hm
  obtain ⟨m, hmF⟩ : ∃ m, FU = (m + 1) + k := ⟨FU - k - 1, by omega⟩
  have eM : M = tm_all v s.1 s.2 lt pl 0 (m + 1) (lv', lkT', lk', al', fa', t'', n') := by
    show tm_all v s.1 s.2 lt pl 0 FU _ = _
    rw [hmF]
    exact k2 (m + 1)
  have k3' : TOLD (cl0 v g tm tE (TX s.1 s.2 q).1 (rd_0, r, (0, f))).2.2.2 t'' := k3
  have k6' : F5 (cl0 v g tm tE (TX s.1 s.2 q).1 (rd_0, r, (0, f))).1 := k6
  have eR2 : R.2.2.2 = (cl0 v g tm tE (TX s.1 s.2 q).1 (rd_0, r, (0, f))).2.2.2 := by
    rw [eR, tfin]
    split <;> rfl
  have two : (-2 : Int32) = -2 := rfl
  rcases k4 with ⟨h0, hf⟩ | ⟨h0, ⟨hf, hlv, hre⟩ | ⟨hf, hne⟩⟩
  · have h0' : ¬ (cl0 v g tm tE (TX s.1 s.2 q).1 (rd_0, r, (0, f))).1 = 0 := h0
    have hf' : fa' = (cl0 v g tm tE (TX s.1 s.2 q).1 (rd_0, r, (0, f))).1 := hf
    have eM2 : M = (lv', lkT', lk', al', fa', t'', n') := by rw [eM]; exact tm_stop (by show ¬ fa' = 0; rw [hf']; exact h0') _
    rw [eR2, eM2]
    refine ⟨k3', Or.inr ⟨?_, ?_, ?_⟩⟩
    · show F5 fa'; rw [hf']; exact k6'
    · show ¬ fa' = 0; rw [hf']; exact h0'
    · show R.1 = -fa'
      rw [eR, tfin, if_neg h0', hf']
  · have h0' : (cl0 v g tm tE (TX s.1 s.2 q).1 (rd_0, r, (0, f))).1 = 0 := h0
    subst hf; subst hlv
    rcases nu_list (fa := 0) hms hre with ⟨x', L', n'', h1, -⟩ | ⟨p, -, hEp, etn, hnp⟩ | ⟨-, hEn, etn⟩
    · cases h1
    · have eM2 : M = (0, lkT', lk', al', 0, t'', n') := by
        rw [eM, tm_all, if_pos rfl]
        have : tm_one v s.1 s.2 lt pl 0 (0, lkT', lk', al', 0, t'', n') = (false, (0, lkT', lk', al', 0, t'', n')) := by
          unfold tm_one; dsimp only
          rw [etn, tm_x]; dsimp only
          rw [if_pos (by decide), if_neg (by decide), if_pos rfl]
        rw [this]
        rfl
      rw [eR2, eM2]
      refine ⟨k3', Or.inl ⟨p, Nat.le_trans (hval.2.2 p hEp) hms, ?_, rfl, hnp⟩⟩
      rw [eR, tfin, if_pos h0', hEp]; rfl
    · have eM2 : M = (0, lkT', lk', al', 2, t'', n') := by
        rw [eM, tm_all, if_pos rfl]
        have : tm_one v s.1 s.2 lt pl 0 (0, lkT', lk', al', 0, t'', n') = (false, (0, lkT', lk', al', 2, t'', n')) := by
          unfold tm_one; dsimp only
          rw [etn, tm_x]; dsimp only
          rw [if_neg (by decide)]
        rw [this]
        rfl
      rw [eR2, eM2]
      refine ⟨k3', Or.inr ⟨Or.inr (Or.inr (Or.inl rfl)), show ¬ ((2 : Int32) = 0) by decide, ?_⟩⟩
      rw [eR, tfin, if_pos h0', hEn]; rfl
  · have h0' : (cl0 v g tm tE (TX s.1 s.2 q).1 (rd_0, r, (0, f))).1 = 0 := h0
    subst hf
    have eM2 : M = (lv', lkT', lk', al', 2, t'', n') := by rw [eM]; exact tm_stop (show ¬ ((2 : Int32) = 0) by decide) _
    rw [eR2, eM2]
    refine ⟨k3', Or.inr ⟨Or.inr (Or.inr (Or.inl rfl)), show ¬ ((2 : Int32) = 0) by decide, ?_⟩⟩
    rw [eR, tfin, if_pos h0', hne]; rfl
theorem tell_eq {v : Int32} {lt pl g : Nat → Int32} {tm s tE tr t rt t' : TT} {p bh fa : Int32} {r r0 : RS} {n : NS} {FU : Nat} (hv : VER v) (hl : LET g lt) (hm : MEM tm s) (hE : ENT tE pl) (hr : ROW tr rt.1 rt.2) (ht : t.1 ≤ 1000) (hFU : 82000000 < FU) :
    (zt v g tm tE p bh tr t r r0).1 = (mtell v s.1 s.2 lt pl FU p bh rt fa t' n).1 ∧ (zt v g tm tE p bh tr t r r0).2.1 = (mtell v s.1 s.2 lt pl FU p bh rt fa t' n).2.1 ∧ ROW (zt v g tm tE p bh tr t r r0).2.2.1 (mtell v s.1 s.2 lt pl FU p bh rt fa t' n).2.2.1.1 (mtell v s.1 s.2 lt pl FU p bh rt fa t' n).2.2.1.2 := by
  unfold zt mtell
  by_cases h0 : p < 0
  · simp only [if_pos h0]; exact ⟨trivial, trivial, hr⟩
  · simp only [if_neg h0]
    by_cases h3 : p ≤ 3000
    · simp only [if_pos h3]
      obtain ⟨q, hq, rfl⟩ := nI_of2 (M := 3000) (n := 3000) (by decide) h0 h3
      have hrun := tell_run hv hl hm hE hq hFU r t.2 t'.2 n
      have eR : zt_z v g tm tE (nI q) r t = tf0 v g tm tE tm.1 q (rd_0, r, (0, t.2)) := by rw [zt_z, nI_clamp (by omega), rw_c0_1 (by omega)]
      have eM : mt_z v s.1 s.2 lt pl FU (nI q) t' n = tm_all v s.1 s.2 lt pl 0 FU (0, 0, 0, -1, 0, (0, t'.2), st_ 0 (nI q) n) := by rw [mt_z, nI_clamp (by omega)]
      rw [eR, eM]
      obtain ⟨R, hR⟩ : ∃ R, tf0 v g tm tE tm.1 q (rd_0, r, (0, t.2)) = R := ⟨_, rfl⟩
      obtain ⟨M, hM⟩ : ∃ M, tm_all v s.1 s.2 lt pl 0 FU (0, 0, 0, -1, 0, (0, t'.2), st_ 0 (nI q) n) = M := ⟨_, rfl⟩
      simp only [hR, hM] at hrun ⊢
      obtain ⟨⟨hT1, hT2⟩, hT3, hT4⟩ := hrun.1
      rcases hrun.2 with ⟨b, hb, e1, e2, e3⟩ | ⟨hf, hf0, e1⟩
      · have c1 : 0 ≤ R.1 := by rw [e1]; exact nI_pos' (by omega)
        have c2 : M.2.2.2.2.1 ≤ 0 := by rw [e2]; decide
        simp only [if_pos c1, if_pos c2]
        have emin : min R.2.2.2.1 1000 = R.2.2.2.1 := Nat.min_eq_left hT3
        refine ⟨by show nI (min R.2.2.2.1 1000) = _; rw [emin, hT1], by rw [e1, e3], ?_, ?_, fun j hj => ?_, fun j hj => ?_⟩
        · show min R.2.2.2.1 1000 = M.2.2.2.2.2.1.1; rw [emin, hT1]
        · rw [← hT1]; exact hT3
        · show va_cpy R.2.2.2.2 tr.2 0 0 (min R.2.2.2.1 1000) j = _
          rw [emin, pk_cpy_in (Nat.zero_le _) (by omega), cp_all_at, if_pos (by omega)]
          show R.2.2.2.2 (0 + (j - 0)) = M.2.2.2.2.2.1.2 (j - 0)
          rw [Nat.zero_add]
          exact hT2 _ (by omega)
        · rw [cp_all_at, if_pos (by omega)]
          have := hT4 j (by omega)
          rw [hT2 j (by omega)] at this
          exact this
      · have c1 : ¬ 0 ≤ R.1 := by rw [e1]; exact Int32.not_le.mpr (F5.neg hf hf0).2.1
        have c2 : ¬ M.2.2.2.2.1 ≤ 0 := Int32.not_le.mpr (F5.neg hf hf0).2.2
        simp only [if_neg c1, if_neg c2]
        exact ⟨by rw [e1, Int32.sub_eq_add_neg], trivial, hr⟩
    · simp only [if_neg h3]; exact ⟨trivial, trivial, hr⟩
/-- an entry's text: told by both, or a fault for both -/
theorem abb_run {v : Int32} {lt pl g : Nat → Int32} {tm s : TT} (hv : VER v) (hl : LET g lt) (hm : MEM tm s) {q FU : Nat} (hq : q ≤ 3000) (hFU : 82000000 < FU) (f f' : Nat → Int32) (n : NS) :
    let R := tf1 v g tm tm.1 q (rd_0, (0, f))
    let M := tm_all v s.1 s.2 lt pl 1 FU (1, 0, 0, -1, 0, (0, f'), st_ 1 (nI q) n)
    (R.1 < 0 ∧ ¬ M.2.2.2.2.1 ≤ 0) ∨ (¬ R.1 < 0 ∧ M.2.2.2.2.1 ≤ 0 ∧ TOLD R.2.2 M.2.2.2.2.2.1) := by
  intro R M
  have hms := hm.2.1
  have hval := txt_val (ms := s.1) (mb := s.2) s.1 q
  have hst : REM s.1 s.2 (st_ 1 (nI q) n) 1 (TX s.1 s.2 q).1 (TX s.1 s.2 q).2 := REM.st hq
  obtain ⟨k, lk', al', fa', t'', n', k1, k2, k3, k4, k5, k6⟩ := lv1_run (pl := pl) (fi := 1) hv hl hms (lkT := 0) (TX s.1 s.2 q).1.length (TX s.1 s.2 q).1 (Nat.le_refl _) hval.1 0 (-1) 0 (0, f) (0, f') _ L3_0 (Or.inl rfl) TOLD.zero hst
  have hlen : (TX s.1 s.2 q).1.length ≤ 9000 := Nat.le_trans hval.2.1 (by omega)
  have eR : R = tfin (TX s.1 s.2 q).2 (cl1 v g (TX s.1 s.2 q).1 (rd_0, (0, f))) := tx_ms hm
  obtain ⟨m, hmF⟩ : ∃ m, FU = (m + 1) + k := ⟨FU - k - 1, by omega⟩
  have eM : M = tm_all v s.1 s.2 lt pl 1 (m + 1) (1, 0, lk', al', fa', t'', n') := by
    show tm_all v s.1 s.2 lt pl 1 FU _ = _
    rw [hmF]
    exact k2 (m + 1)
  have k3' : TOLD (cl1 v g (TX s.1 s.2 q).1 (rd_0, (0, f))).2.2 t'' := k3
  have k6' : F5 (cl1 v g (TX s.1 s.2 q).1 (rd_0, (0, f))).1 := k6
  have f2 : F5 2 := Or.inr (Or.inr (Or.inl rfl))
  have z2 : ¬ ((2 : Int32) = 0) := by decide
  rcases k4 with ⟨h0, hf⟩ | ⟨h0, ⟨hf, hre⟩ | ⟨hf, hne⟩⟩
  · have h0' : ¬ (cl1 v g (TX s.1 s.2 q).1 (rd_0, (0, f))).1 = 0 := h0
    have hf' : fa' = (cl1 v g (TX s.1 s.2 q).1 (rd_0, (0, f))).1 := hf
    have eM2 : M = (1, 0, lk', al', fa', t'', n') := by rw [eM]; exact tm_stop (by show ¬ fa' = 0; rw [hf']; exact h0') _
    left
    rw [eM2, eR, tfin, if_neg h0']
    exact ⟨(F5.neg k6' h0').2.1, by show ¬ fa' ≤ 0; rw [hf']; exact Int32.not_le.mpr (F5.neg k6' h0').2.2⟩
  · have h0' : (cl1 v g (TX s.1 s.2 q).1 (rd_0, (0, f))).1 = 0 := h0
    subst hf
    rcases nu_list (fa := 0) hms hre with ⟨x', L', n'', h1, -⟩ | ⟨p, -, hEp, etn, hnp⟩ | ⟨-, hEn, etn⟩
    · cases h1
    · have eM2 : M = (1, 0, lk', al', 0, t'', n') := by
        rw [eM, tm_all, if_pos rfl]
        have : tm_one v s.1 s.2 lt pl 1 (1, 0, lk', al', 0, t'', n') = (false, (1, 0, lk', al', 0, t'', n')) := by
          unfold tm_one; dsimp only
          rw [etn, tm_x]; dsimp only
          rw [if_pos (by decide), if_neg (by decide), if_pos rfl]
        rw [this]
        rfl
      right
      rw [eM2, eR, tfin, if_pos h0', hEp]
      exact ⟨nI_pos (by have := hval.2.2 p hEp; omega), show (0 : Int32) ≤ 0 by decide, k3'⟩
    · have eM2 : M = (1, 0, lk', al', 2, t'', n') := by
        rw [eM, tm_all, if_pos rfl]
        have : tm_one v s.1 s.2 lt pl 1 (1, 0, lk', al', 0, t'', n') = (false, (1, 0, lk', al', 2, t'', n')) := by
          unfold tm_one; dsimp only
          rw [etn, tm_x]; dsimp only
          rw [if_neg (by decide)]
        rw [this]
        rfl
      left
      rw [eM2, eR, tfin, if_pos h0', hEn]
      exact ⟨show (-2 : Int32) < 0 by decide, show ¬ ((2 : Int32) ≤ 0) by decide⟩
  · have h0' : (cl1 v g (TX s.1 s.2 q).1 (rd_0, (0, f))).1 = 0 := h0
    subst hf
    have eM2 : M = (1, 0, lk', al', 2, t'', n') := by rw [eM]; exact tm_stop z2 _
    left
    rw [eM2, eR, tfin, if_pos h0', hne]
    exact ⟨show (-2 : Int32) < 0 by decide, show ¬ ((2 : Int32) ≤ 0) by decide⟩
