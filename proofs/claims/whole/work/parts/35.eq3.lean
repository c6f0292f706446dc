/-! Memory, the row, alphabets, entries. -/
theorem and255 (x : Int32) : x &&& 255 = nI (x.toInt % 256).toNat := by
  rw [pk_and x 8 (m := 255) (by decide)]
  congr 1
  have h : x.toInt = x.toBitVec.toInt := rfl
  rw [h, BitVec.toInt_eq_toNat_cond]
  have := x.toBitVec.isLt
  split <;> omega
theorem bmod_8 (y : Int) : y.bmod (2 ^ 8) % 256 = y % 256 := by
  rw [Int.bmod_def]
  split <;> omega
theorem bmod_32 (y : Int) : y.bmod (2 ^ 32) % 256 = y % 256 := by
  rw [Int.bmod_def]
  split <;> omega
theorem mb_255 (x : Int32) : mb_of x &&& 255 = x &&& 255 := by
  rw [and255, and255, mb_of, lg_i2b_toInt, bmod_8]
theorem lb_sh : ∀ k, k < 8 → ((Int32.toInt64 (nI (8 * k)) &&& 63).toBitVec.smod 64).toNat = 8 * k := by decide +kernel
theorem lb_all {w : Int64} {k : Nat} (hk : k < 8) : ∃ q : Nat, q < 256 ∧ ab_byte w k = nI q ∧ my_byte w k = nI q ∧ mf_byte w k &&& 255 = nI q := by
  obtain ⟨n, hn, rfl⟩ := wb_of w
  have hd : n / 2 ^ (8 * k) < 2 ^ 64 := Nat.lt_of_le_of_lt (Nat.div_le_self _ _) hn
  refine ⟨n / 2 ^ (8 * k) % 256, Nat.mod_lt _ (by decide), ?_, ?_, ?_⟩
  · unfold ab_byte
    have e : (lN n >>> (Int32.toInt64 (nI (8 * k)) &&& 63)).toInt = (lN n).toInt >>> (8 * k) := by
      show ((lN n).toBitVec.sshiftRight ((Int32.toInt64 (nI (8 * k)) &&& 63).toBitVec.smod 64).toNat).toInt = _
      rw [lb_sh k hk, BitVec.toInt_sshiftRight]
      rfl
    have e2 : (lN n).toInt = if 2 * n < 2 ^ 64 then (n : Int) else (n : Int) - 2 ^ 64 := by
      have h1 : (lN n).toInt = (lN n).toBitVec.toInt := rfl
      rw [h1, BitVec.toInt_eq_toNat_cond, wb_tn hn]
      rfl
    rw [and255, Int64.toInt_toInt32, bmod_32, e, Int.shiftRight_eq_div_pow, e2]
    congr 1
    rcases (show k = 0 ∨ k = 1 ∨ k = 2 ∨ k = 3 ∨ k = 4 ∨ k = 5 ∨ k = 6 ∨ k = 7 by omega) with rfl | rfl | rfl | rfl | rfl | rfl | rfl | rfl <;> simp only [Nat.reduceMul, Nat.reducePow] <;> split <;> omega
  · unfold my_byte
    rw [wb_shr hn (by omega), show (255 : Int64) = lN (2 ^ 8 - 1) from rfl, wb_mask hd (by decide), lN_i]
  · unfold mf_byte
    rw [wb_shr hn (by omega), lN_i, mb_255, pk_and _ 8 (m := 255) (by decide)]
    congr 1
    show (BitVec.ofNat 32 (n / 2 ^ (8 * k))).toNat % 2 ^ 8 = _
    rw [BitVec.toNat_ofNat]
    omega
def MEM (tm s : TT) : Prop := tm.1 = s.1 ∧ s.1 ≤ 3000 ∧ ∀ j, j < s.1 → tm.2 j = s.2 j &&& 255
theorem MEM.pu {tm s : TT} {x y : Int32} (h : MEM tm s) (hs : s.1 < 3000) (hx : x = y &&& 255) : MEM (pu x tm) (pu y s) := by
  obtain ⟨h1, h2, h3⟩ := h
  refine ⟨by show tm.1 + 1 = s.1 + 1; rw [h1], hs, fun j hj => ?_⟩
  have hj2 : j < s.1 + 1 := hj
  show upd tm.2 tm.1 x j = upd s.2 s.1 y j &&& 255
  by_cases q : j = s.1
  · rw [q, upd_s, h1, upd_s]; exact hx
  · rw [upd_n q, upd_n (by omega)]; exact h3 j (by omega)
theorem ROW.pu {tr : TT} {rs : Nat} {rf : Nat → Int32} {x : Int32} (h : ROW tr rs rf) (hs : rs < 1000) (hx : SG x) : ROW (pu x tr) (rs + 1) (upd rf rs x) := by
  obtain ⟨h1, h2, h3, h4⟩ := h
  refine ⟨by show tr.1 + 1 = rs + 1; rw [h1], hs, fun j hj => ?_, fun j hj => ?_⟩
  · show upd tr.2 tr.1 x j = upd rf rs x j
    by_cases q : j = rs
    · rw [q, upd_s, h1, upd_s]
    · rw [upd_n q, upd_n (by omega)]; exact h3 j (by omega)
  · by_cases q : j = rs
    · rw [q, upd_s]; exact hx
    · rw [upd_n q]; exact h4 j (by omega)
theorem ab_mf {w : Int64} : ∀ (k : Nat) (tm s : TT), k ≤ 8 → s.1 + k ≤ 3000 → MEM tm s → MEM (ab_all 3000 w k tm) (mf_all w k s)
  | 0, _, _, _, _, h => h
  | k + 1, tm, s, hk, hs, h => by
    have h1 := h.1
    rw [ab_all, mf_all, rw_a_pu (by omega)]
    obtain ⟨q, hq, e1, e2, e3⟩ := lb_all (w := w) (k := k) (by omega)
    exact ab_mf k _ (pu (mf_byte w k) s) (by omega) (by show s.1 + 1 + k ≤ 3000; omega) (h.pu (by omega) (by rw [e1, e3]))
theorem ab_my {w : Int64} : ∀ (k : Nat) (tr s : TT), k ≤ 8 → s.1 + k ≤ 1000 → ROW tr s.1 s.2 → ROW (ab_all 1000 w k tr) (my_all w k s).1 (my_all w k s).2
  | 0, _, _, _, _, h => h
  | k + 1, tr, s, hk, hs, h => by
    have h1 := h.1
    rw [ab_all, my_all, rw_a_pu (by omega)]
    obtain ⟨q, hq, e1, e2, e3⟩ := lb_all (w := w) (k := k) (by omega)
    refine ab_my k _ (s.1 + 1, upd s.2 s.1 (my_byte w k)) (by omega) (by show s.1 + 1 + k ≤ 1000; omega) ?_
    rw [e1, e2]
    exact h.pu (by omega) ⟨q, by omega, rfl⟩
theorem room_eq {cap ms : Nat} {n : Int32} {n0 : Nat} (en : n = nI n0) (hn : n0 ≤ 8) (hc : cap ≤ 3000) (hm : ms ≤ cap) : (rw_room cap ms n = 0 ↔ cap < ms + n0) ∧ (nI ms + n ≤ nI cap ↔ ms + n0 ≤ cap) := by
  subst en
  constructor
  · unfold rw_room
    rw [pk_sub hm]
    by_cases h : cap - ms < n0
    · rw [if_pos (nI_lt h (by omega))]; exact ⟨fun _ => by omega, fun _ => rfl⟩
    · rw [if_neg (nI_nlt (by omega) (by omega))]; exact ⟨fun q => absurd q (by decide), fun q => by omega⟩
  · rw [nI_add]
    exact nI_leI (by omega) (by omega)
theorem feed_eq {w : Int64} {n : Int32} {tm s : TT} (h : MEM tm s) : ab_r 3000 w n tm = mf_r w n s ∧ MEM (ab_t 3000 w n tm) (mf_t w n s) := by
  have z2 : ¬ ((-2 : Int32) = 0) := by decide
  have z4 : ¬ ((-4 : Int32) = 0) := by decide
  unfold ab_r ab_t mf_r mf_t mf_ok
  by_cases h0 : n < 0
  · simp only [if_pos h0, if_neg z2]; exact ⟨trivial, h⟩
  · simp only [if_neg h0]
    by_cases h8 : n ≤ 8
    · simp only [if_pos h8]
      obtain ⟨n0, hn, en⟩ := nI_of2 (M := 8) (n := 8) (by decide) h0 h8
      obtain ⟨r1, r2⟩ := room_eq (cap := 3000) en hn (by decide) h.2.1
      have r2' : nI s.1 + n ≤ 3000 ↔ s.1 + n0 ≤ 3000 := r2
      have r1' : rw_room 3000 tm.1 n = 0 ↔ 3000 < s.1 + n0 := by rw [h.1]; exact r1
      by_cases hr : s.1 + n0 ≤ 3000
      · have r3 : ¬ rw_room 3000 tm.1 n = 0 := fun q => by have := r1'.mp q; omega
        simp only [if_pos (r2'.mpr hr), if_neg r3, if_true]
        have hk := ab_mf (w := w) n0 tm s hn hr h
        rw [show n.toNatClampNeg = n0 by rw [en]; exact nI_clamp (by omega)]
        exact ⟨by rw [hk.1], hk⟩
      · have r3 : ¬ nI s.1 + n ≤ 3000 := fun q => hr (r2'.mp q)
        have r4 : rw_room 3000 tm.1 n = 0 := r1'.mpr (by omega)
        simp only [if_neg r3, if_pos r4, if_neg z4]
        exact ⟨trivial, h⟩
    · simp only [if_neg h8, if_neg z2]; exact ⟨trivial, h⟩
theorem type_eq {w : Int64} {n : Int32} {tr : TT} {s : TT} (h : ROW tr s.1 s.2) : ab_r 1000 w n tr = my_r w n s ∧ ROW (ab_t 1000 w n tr) (my_t w n s).1 (my_t w n s).2 := by
  have z2 : ¬ ((-2 : Int32) = 0) := by decide
  have z4 : ¬ ((-4 : Int32) = 0) := by decide
  unfold ab_r ab_t my_r my_t mf_ok
  by_cases h0 : n < 0
  · simp only [if_pos h0, if_neg z2]; exact ⟨trivial, h⟩
  · simp only [if_neg h0]
    by_cases h8 : n ≤ 8
    · simp only [if_pos h8]
      obtain ⟨n0, hn, en⟩ := nI_of2 (M := 8) (n := 8) (by decide) h0 h8
      obtain ⟨r1, r2⟩ := room_eq (cap := 1000) en hn (by decide) h.2.1
      have r2' : nI s.1 + n ≤ 1000 ↔ s.1 + n0 ≤ 1000 := r2
      have r1' : rw_room 1000 tr.1 n = 0 ↔ 1000 < s.1 + n0 := by rw [h.1]; exact r1
      by_cases hr : s.1 + n0 ≤ 1000
      · have r3 : ¬ rw_room 1000 tr.1 n = 0 := fun q => by have := r1'.mp q; omega
        simp only [if_pos (r2'.mpr hr), if_neg r3, if_true]
        have hk := ab_my (w := w) n0 tr s hn hr h
        rw [show n.toNatClampNeg = n0 by rw [en]; exact nI_clamp (by omega)]
        exact ⟨by rw [hk.1], hk⟩
      · have r3 : ¬ nI s.1 + n ≤ 1000 := fun q => hr (r2'.mp q)
        have r4 : rw_room 1000 tr.1 n = 0 := r1'.mpr (by omega)
        simp only [if_neg r3, if_pos r4, if_neg z4]
        exact ⟨trivial, h⟩
    · simp only [if_neg h8, if_neg z2]; exact ⟨trivial, h⟩
theorem byteAt_eq {tm s : TT} {i : Int32} (h : MEM tm s) : rw_get tm.1 tm.2 i = mm_get s.1 s.2 i := by
  obtain ⟨h1, h2, h3⟩ := h
  rcases pk_ix i (n := s.1) (by omega) with q | q | ⟨j, hj, rfl⟩
  · unfold rw_get rw_has mm_get; rw [if_pos q, if_pos q, if_pos rfl]
  · have q0 : ¬ i < 0 := fun z => by
      have a1 := Int32.lt_iff_toInt_lt.mp z
      have a2 := Int32.le_iff_toInt_le.mp q
      rw [nI_toInt (by omega)] at a2
      have a3 : (0 : Int32).toInt = 0 := by decide
      omega
    unfold rw_get rw_has mm_get; rw [if_neg q0, if_neg q0, h1, if_pos q, if_pos rfl, if_pos q]
  · rw [rw_get_nI (by omega) (by omega), if_pos (by omega), mm_get, if_neg (nI_pos (by omega)), if_neg (nI_ge hj (by omega)), nI_clamp (by omega)]
    exact h3 j hj
theorem nn_of_ge {i : Int32} {n : Nat} (hn : n < 2 ^ 31) (h : nI n ≤ i) : ¬ i < 0 := fun z => by
  have a1 := Int32.lt_iff_toInt_lt.mp z
  have a2 := Int32.le_iff_toInt_le.mp h
  rw [nI_toInt hn] at a2
  have a3 : (0 : Int32).toInt = 0 := by decide
  omega
theorem poke_eq {tm s : TT} {i b : Int32} (h : MEM tm s) : zp_r tm i b = mp_r s.1 s.2 i b ∧ MEM (zp_t tm i b) (s.1, mp_b s.1 s.2 i b) := by
  obtain ⟨h1, h2, h3⟩ := id h
  unfold zp_r zp_t mp_r mp_b
  rcases pk_ix i (n := s.1) (by omega) with q | q | ⟨j, hj, rfl⟩
  · have e : rw_has tm.1 i = 0 := by rw [rw_has, if_pos q]
    simp only [if_pos q, if_pos e]; exact ⟨trivial, h⟩
  · have q0 := nn_of_ge (by omega) q
    have e : rw_has tm.1 i = 0 := by rw [rw_has, if_neg q0, h1, if_pos q]
    simp only [if_neg q0, if_neg (Int32.not_lt.mpr q), if_pos e]; exact ⟨trivial, h⟩
  · have e : ¬ rw_has tm.1 (nI j) = 0 := by rw [rw_has_nI (by omega) (by omega), if_pos (by omega)]; decide
    have e1 : ¬ nI j < 0 := nI_pos (by omega)
    have e2 : nI j < nI s.1 := nI_lt hj (by omega)
    simp only [if_neg e, if_neg e1, if_pos e2]
    by_cases b0 : b < 0
    · simp only [if_pos b0]; exact ⟨trivial, h⟩
    · simp only [if_neg b0]
      by_cases b1 : b ≤ 255
      · simp only [if_pos b1]
        rw [nI_clamp (show j < 2 ^ 31 by omega)]
        refine ⟨?_, ?_⟩
        · rw [rw_get_nI (by omega) (by omega), if_pos (by omega)]
          exact h3 j hj
        · obtain ⟨q, hq, rfl⟩ := nI_of2 (M := 255) (n := 255) (by decide) b0 b1
          refine ⟨h1, h2, fun k hk => ?_⟩
          show rw_rep tm.1 tm.2 (nI j) (nI q) k = upd s.2 j (mb_of (nI q)) k &&& 255
          rw [rw_rep, if_neg e, nI_clamp (show j < 2 ^ 31 by omega)]
          by_cases z : k = j
          · rw [z, upd_s, upd_s, mb_255, pk_andN (by omega) 8 (by decide)]
            congr 1
            omega
          · rw [upd_n z, upd_n z]; exact h3 k hk
      · simp only [if_neg b1]; exact ⟨trivial, h⟩
theorem keep_eq {tm s : TT} {n : Int32} (h : MEM tm s) : zk_r tm n = mk_r s.1 n ∧ MEM (zk_t tm n) (mk_n s.1 n, s.2) := by
  obtain ⟨h1, h2, h3⟩ := id h
  unfold zk_r zk_t mk_r mk_n
  rw [h1]
  by_cases h0 : n < 0
  · simp only [if_pos h0]; exact ⟨trivial, h⟩
  · simp only [if_neg h0]
    by_cases hn : n ≤ nI s.1
    · simp only [if_pos hn]
      refine ⟨trivial, ?_⟩
      obtain ⟨j, hj, rfl⟩ := nI_of h0
      have hjs : j ≤ s.1 := (nI_leI (by omega) (by omega)).mp hn
      rw [nI_clamp hj]
      refine ⟨?_, Nat.le_trans hjs h2, fun k hk => h3 k (Nat.lt_of_lt_of_le hk hjs)⟩
      show rw_cut tm.1 (nI j) = j
      rw [rw_cut, if_neg h0, h1, nI_clamp hj]
      by_cases q : nI s.1 ≤ nI j
      · rw [if_pos q]
        have := (nI_leI (by omega) (by omega)).mp q
        omega
      · rw [if_neg q]
    · simp only [if_neg hn]; exact ⟨trivial, h⟩
theorem at_eq {tr : TT} {rs : Nat} {rf : Nat → Int32} {i : Int32} (h : ROW tr rs rf) : rw_get tr.1 tr.2 i = mt_get rs rf i := by
  obtain ⟨h1, h2, h3, h4⟩ := h
  rcases pk_ix i (n := rs) (by omega) with q | q | ⟨j, hj, rfl⟩
  · unfold rw_get rw_has mt_get; rw [if_pos q, if_pos q, if_pos rfl]
  · have q0 := nn_of_ge (by omega) q
    unfold rw_get rw_has mt_get; rw [if_neg q0, if_neg q0, h1, if_pos q, if_pos rfl, if_pos q]
  · rw [rw_get_nI (by omega) (by omega), if_pos (by omega), mt_get, if_neg (nI_pos (by omega)), if_neg (nI_ge hj (by omega)), nI_clamp (by omega)]
    exact h3 j hj
theorem sign_eq {tr : TT} {rs : Nat} {rf : Nat → Int32} {c : Int32} (h : ROW tr rs rf) : zs_r tr c = ms_r (rs, rf) c ∧ ROW (zs_t tr c) (ms_t (rs, rf) c).1 (ms_t (rs, rf) c).2 := by
  obtain ⟨h1, h2, h3, h4⟩ := id h
  unfold zs_r zs_t ms_r ms_t
  by_cases hm : c = -1
  · subst hm
    have y1 : ¬ ((-1 : Int32) < -1) := by decide
    have y2 : (-1 : Int32) ≤ 1023 := by decide
    have y3 : ¬ ((0 : Int32) ≤ -1) := by decide
    simp only [if_neg y1, if_pos y2, if_neg y3, if_true]
    rw [rw_c0_1 (by omega)]
    exact ⟨trivial, rfl, Nat.zero_le _, fun j hj => absurd hj (Nat.not_lt_zero _), fun j hj => absurd hj (Nat.not_lt_zero _)⟩
  · simp only [if_neg hm]
    rcases pk_ix c (n := 1024) (by decide) with q | q | ⟨j, hj, rfl⟩
    · have q1 : c < -1 := by
        apply Int32.lt_iff_toInt_lt.mpr
        have a1 := Int32.lt_iff_toInt_lt.mp q
        have a2 : c.toInt ≠ (-1 : Int32).toInt := fun z => hm (Int32.toInt_inj.mp z)
        have a3 : (0 : Int32).toInt = 0 := by decide
        have a4 : (-1 : Int32).toInt = -1 := by decide
        omega
      have e : zs_is c = 0 := by rw [zs_is, if_pos q]
      simp only [if_pos q1, if_pos e]; exact ⟨trivial, h⟩
    · have q0 := nn_of_ge (by decide) q
      have q2 : ¬ c ≤ 1023 := fun z => by
        have a1 := Int32.le_iff_toInt_le.mp q
        have a2 := Int32.le_iff_toInt_le.mp z
        rw [nI_toInt (by decide)] at a1
        have a3 : (1023 : Int32).toInt = 1023 := by decide
        omega
      have q3 : ¬ c < -1 := fun z => q0 (Int32.lt_trans z (by decide))
      have e : zs_is c = 0 := by rw [zs_is, if_neg q0, if_pos (show (1024 : Int32) ≤ c from q)]
      simp only [if_neg q3, if_neg q2, if_pos e]; exact ⟨trivial, h⟩
    · have e : ¬ zs_is (nI j) = 0 := by rw [zs_is, if_neg (nI_pos (by omega)), if_neg (show ¬ (1024 : Int32) ≤ nI j from nI_ge (b := 1024) hj (by decide))]; decide
      have q3 : ¬ nI j < -1 := fun z => nI_pos (n := j) (by omega) (Int32.lt_trans z (by decide))
      have q2 : nI j ≤ 1023 := nI_le (b := 1023) (by omega) (by decide)
      have q1 : 0 ≤ nI j := nI_pos' (by omega)
      simp only [if_neg e, if_neg q3, if_pos q2, if_pos q1]
      by_cases hr : rs = 1000
      · have e1 : rw_ar 1000 tr.1 = 0 := by rw [rw_ar, if_neg (by omega)]
        have e2 : rw_a 1000 (nI j) tr = tr := by
          unfold rw_a rw_an rw_af
          rw [if_neg (by omega), if_neg (by omega)]
        simp only [if_pos hr, if_pos e1]
        rw [e2]
        exact ⟨trivial, h⟩
      · have e1 : ¬ rw_ar 1000 tr.1 = 0 := by rw [rw_ar, if_pos (by omega)]; decide
        simp only [if_neg hr, if_neg e1]
        rw [rw_a_pu (by omega)]
        exact ⟨by show nI (tr.1 + 1) = nI (rs + 1); rw [h1], h.pu (by omega) ⟨j, hj, rfl⟩⟩
