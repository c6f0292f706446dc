abbrev po_X8_version (k : Nat → ClassId) (q : Nat → Nat) (v : Int32) (ms : Nat) (rs : Nat) (bh : Int32) (tz : Nat) (fa : Int32) (mz : Nat) (wn : Nat) (tk : Nat) : Int32 → va_W → Prop := fun ans_ w1 => ans_ = v ∧ w1 = [(q 0, .inr (8, [.int v, .ref (q 1), .int (nI ms), .ref (q 3), .int (nI rs), .ref (q 5), .ref (q 6), .int bh, .ref (q 8), .ref (q 9), .ref (q 10), .ref (q 11), .ref (q 12), .int (nI tz), .int fa, .ref (q 15), .int (nI mz), .ref (q 17), .ref (q 18), .ref (q 19), .ref (q 20), .ref (q 21), .ref (q 22), .ref (q 23), .ref (q 24), .int (nI wn), .ref (q 26), .ref (q 27), .int (nI tk), .ref (q 29), .ref (q 30), .ref (q 31)]))]
set_option maxHeartbeats 4000000 in
set_option maxRecDepth 100000 in
/-- version -/
theorem k_X8_version (l : Launch) (D : va_G) (k : Nat → ClassId) (q : Nat → Nat) (v : Int32) (ms : Nat) (rs : Nat) (bh : Int32) (tz : Nat) (fa : Int32) (mz : Nat) (wn : Nat) (tk : Nat)  : ct_i l D (TY k) yX8_version wsX8_version ({ frames := 0, cells := 0, slots := 0, locals := 0 } : Room) [.ref (q 0)] [(q 0, .inr (8, [.int v, .ref (q 1), .int (nI ms), .ref (q 3), .int (nI rs), .ref (q 5), .ref (q 6), .int bh, .ref (q 8), .ref (q 9), .ref (q 10), .ref (q 11), .ref (q 12), .int (nI tz), .int fa, .ref (q 15), .int (nI mz), .ref (q 17), .ref (q 18), .ref (q 19), .ref (q 20), .ref (q 21), .ref (q 22), .ref (q 23), .ref (q 24), .int (nI wn), .ref (q 26), .ref (q 27), .int (nI tk), .ref (q 29), .ref (q 30), .ref (q 31)]))] (po_X8_version k q v ms rs bh tz fa mz wn tk) := by
  refine ct_i_of (cc := cX8_version) (nL := 1) (rt := (some .int)) (by decide) rfl (Nat.le_of_ble_eq_true rfl) ?_
  intro p_ e_ s_0 m_0 below_ meth_ c_0 A_0 C_0 hP hK hD hS hA ls hl
  obtain ⟨hx_, hb_, hml_, hr_, hown_, hlk_, hnm_, hts_⟩ := id C_0
  have hl : lv_has ls 1 [(0, .ref (q 0))] := hl
  refine lv_aload_n hx_ hb_ dX8_version_0 rfl (lv_at hl 0 rfl) ?_
  refine va_get (D := D) (ci := 8) (v := .int v) (C := RX8) (T := TX8) (N := 32) hx_ hb_ hts_ inM_X8 hown_ hK.1 hP 0 rfl rfl 0 (by decide) (hts_ _ (List.mem_cons_of_mem _ wa_f_X8_83)) (fun _ h9 => h9) rfl dX8_version_1 ?_
  exact ct_iret C_0 (hP.sub [0] rfl) (hD.sub [0] (by decide) rfl) hS (Nat.le_of_ble_eq_true rfl) (Nat.le_of_ble_eq_true rfl) dX8_version_4 (⟨rfl, rfl⟩)
abbrev po_X8_size (k : Nat → ClassId) (q : Nat → Nat) (v : Int32) (ms : Nat) (rs : Nat) (bh : Int32) (tz : Nat) (fa : Int32) (mz : Nat) (wn : Nat) (tk : Nat) : Int32 → va_W → Prop := fun ans_ w1 => ans_ = nI rs ∧ w1 = [(q 0, .inr (8, [.int v, .ref (q 1), .int (nI ms), .ref (q 3), .int (nI rs), .ref (q 5), .ref (q 6), .int bh, .ref (q 8), .ref (q 9), .ref (q 10), .ref (q 11), .ref (q 12), .int (nI tz), .int fa, .ref (q 15), .int (nI mz), .ref (q 17), .ref (q 18), .ref (q 19), .ref (q 20), .ref (q 21), .ref (q 22), .ref (q 23), .ref (q 24), .int (nI wn), .ref (q 26), .ref (q 27), .int (nI tk), .ref (q 29), .ref (q 30), .ref (q 31)]))]
set_option maxHeartbeats 4000000 in
set_option maxRecDepth 100000 in
/-- size -/
theorem k_X8_size (l : Launch) (D : va_G) (k : Nat → ClassId) (q : Nat → Nat) (v : Int32) (ms : Nat) (rs : Nat) (bh : Int32) (tz : Nat) (fa : Int32) (mz : Nat) (wn : Nat) (tk : Nat)  : ct_i l D (TY k) yX8_size wsX8_size ({ frames := 0, cells := 0, slots := 0, locals := 0 } : Room) [.ref (q 0)] [(q 0, .inr (8, [.int v, .ref (q 1), .int (nI ms), .ref (q 3), .int (nI rs), .ref (q 5), .ref (q 6), .int bh, .ref (q 8), .ref (q 9), .ref (q 10), .ref (q 11), .ref (q 12), .int (nI tz), .int fa, .ref (q 15), .int (nI mz), .ref (q 17), .ref (q 18), .ref (q 19), .ref (q 20), .ref (q 21), .ref (q 22), .ref (q 23), .ref (q 24), .int (nI wn), .ref (q 26), .ref (q 27), .int (nI tk), .ref (q 29), .ref (q 30), .ref (q 31)]))] (po_X8_size k q v ms rs bh tz fa mz wn tk) := by
  refine ct_i_of (cc := cX8_size) (nL := 1) (rt := (some .int)) (by decide) rfl (Nat.le_of_ble_eq_true rfl) ?_
  intro p_ e_ s_0 m_0 below_ meth_ c_0 A_0 C_0 hP hK hD hS hA ls hl
  obtain ⟨hx_, hb_, hml_, hr_, hown_, hlk_, hnm_, hts_⟩ := id C_0
  have hl : lv_has ls 1 [(0, .ref (q 0))] := hl
  refine lv_aload_n hx_ hb_ dX8_size_0 rfl (lv_at hl 0 rfl) ?_
  refine va_get (D := D) (ci := 8) (v := .int (nI rs)) (C := RX8) (T := TX8) (N := 32) hx_ hb_ hts_ inM_X8 hown_ hK.1 hP 0 rfl rfl 4 (by decide) (hts_ _ (List.mem_cons_of_mem _ wa_f_X8_94)) (fun _ h9 => h9) rfl dX8_size_1 ?_
  exact ct_iret C_0 (hP.sub [0] rfl) (hD.sub [0] (by decide) rfl) hS (Nat.le_of_ble_eq_true rfl) (Nat.le_of_ble_eq_true rfl) dX8_size_4 (⟨rfl, rfl⟩)
abbrev po_X8_behind (k : Nat → ClassId) (q : Nat → Nat) (v : Int32) (ms : Nat) (rs : Nat) (bh : Int32) (tz : Nat) (fa : Int32) (mz : Nat) (wn : Nat) (tk : Nat) : Int32 → va_W → Prop := fun ans_ w1 => ans_ = bh ∧ w1 = [(q 0, .inr (8, [.int v, .ref (q 1), .int (nI ms), .ref (q 3), .int (nI rs), .ref (q 5), .ref (q 6), .int bh, .ref (q 8), .ref (q 9), .ref (q 10), .ref (q 11), .ref (q 12), .int (nI tz), .int fa, .ref (q 15), .int (nI mz), .ref (q 17), .ref (q 18), .ref (q 19), .ref (q 20), .ref (q 21), .ref (q 22), .ref (q 23), .ref (q 24), .int (nI wn), .ref (q 26), .ref (q 27), .int (nI tk), .ref (q 29), .ref (q 30), .ref (q 31)]))]
set_option maxHeartbeats 4000000 in
set_option maxRecDepth 100000 in
/-- behind -/
theorem k_X8_behind (l : Launch) (D : va_G) (k : Nat → ClassId) (q : Nat → Nat) (v : Int32) (ms : Nat) (rs : Nat) (bh : Int32) (tz : Nat) (fa : Int32) (mz : Nat) (wn : Nat) (tk : Nat)  : ct_i l D (TY k) yX8_behind wsX8_behind ({ frames := 0, cells := 0, slots := 0, locals := 0 } : Room) [.ref (q 0)] [(q 0, .inr (8, [.int v, .ref (q 1), .int (nI ms), .ref (q 3), .int (nI rs), .ref (q 5), .ref (q 6), .int bh, .ref (q 8), .ref (q 9), .ref (q 10), .ref (q 11), .ref (q 12), .int (nI tz), .int fa, .ref (q 15), .int (nI mz), .ref (q 17), .ref (q 18), .ref (q 19), .ref (q 20), .ref (q 21), .ref (q 22), .ref (q 23), .ref (q 24), .int (nI wn), .ref (q 26), .ref (q 27), .int (nI tk), .ref (q 29), .ref (q 30), .ref (q 31)]))] (po_X8_behind k q v ms rs bh tz fa mz wn tk) := by
  refine ct_i_of (cc := cX8_behind) (nL := 1) (rt := (some .int)) (by decide) rfl (Nat.le_of_ble_eq_true rfl) ?_
  intro p_ e_ s_0 m_0 below_ meth_ c_0 A_0 C_0 hP hK hD hS hA ls hl
  obtain ⟨hx_, hb_, hml_, hr_, hown_, hlk_, hnm_, hts_⟩ := id C_0
  have hl : lv_has ls 1 [(0, .ref (q 0))] := hl
  refine lv_aload_n hx_ hb_ dX8_behind_0 rfl (lv_at hl 0 rfl) ?_
  refine va_get (D := D) (ci := 8) (v := .int bh) (C := RX8) (T := TX8) (N := 32) hx_ hb_ hts_ inM_X8 hown_ hK.1 hP 0 rfl rfl 7 (by decide) (hts_ _ (List.mem_cons_of_mem _ wa_f_X8_120)) (fun _ h9 => h9) rfl dX8_behind_1 ?_
  exact ct_iret C_0 (hP.sub [0] rfl) (hD.sub [0] (by decide) rfl) hS (Nat.le_of_ble_eq_true rfl) (Nat.le_of_ble_eq_true rfl) dX8_behind_4 (⟨rfl, rfl⟩)
abbrev po_X8_words (k : Nat → ClassId) (q : Nat → Nat) (v : Int32) (ms : Nat) (rs : Nat) (bh : Int32) (tz : Nat) (fa : Int32) (mz : Nat) (wn : Nat) (tk : Nat) : Int32 → va_W → Prop := fun ans_ w1 => ans_ = nI wn ∧ w1 = [(q 0, .inr (8, [.int v, .ref (q 1), .int (nI ms), .ref (q 3), .int (nI rs), .ref (q 5), .ref (q 6), .int bh, .ref (q 8), .ref (q 9), .ref (q 10), .ref (q 11), .ref (q 12), .int (nI tz), .int fa, .ref (q 15), .int (nI mz), .ref (q 17), .ref (q 18), .ref (q 19), .ref (q 20), .ref (q 21), .ref (q 22), .ref (q 23), .ref (q 24), .int (nI wn), .ref (q 26), .ref (q 27), .int (nI tk), .ref (q 29), .ref (q 30), .ref (q 31)]))]
set_option maxHeartbeats 4000000 in
set_option maxRecDepth 100000 in
/-- words -/
theorem k_X8_words (l : Launch) (D : va_G) (k : Nat → ClassId) (q : Nat → Nat) (v : Int32) (ms : Nat) (rs : Nat) (bh : Int32) (tz : Nat) (fa : Int32) (mz : Nat) (wn : Nat) (tk : Nat)  : ct_i l D (TY k) yX8_words wsX8_words ({ frames := 0, cells := 0, slots := 0, locals := 0 } : Room) [.ref (q 0)] [(q 0, .inr (8, [.int v, .ref (q 1), .int (nI ms), .ref (q 3), .int (nI rs), .ref (q 5), .ref (q 6), .int bh, .ref (q 8), .ref (q 9), .ref (q 10), .ref (q 11), .ref (q 12), .int (nI tz), .int fa, .ref (q 15), .int (nI mz), .ref (q 17), .ref (q 18), .ref (q 19), .ref (q 20), .ref (q 21), .ref (q 22), .ref (q 23), .ref (q 24), .int (nI wn), .ref (q 26), .ref (q 27), .int (nI tk), .ref (q 29), .ref (q 30), .ref (q 31)]))] (po_X8_words k q v ms rs bh tz fa mz wn tk) := by
  refine ct_i_of (cc := cX8_words) (nL := 1) (rt := (some .int)) (by decide) rfl (Nat.le_of_ble_eq_true rfl) ?_
  intro p_ e_ s_0 m_0 below_ meth_ c_0 A_0 C_0 hP hK hD hS hA ls hl
  obtain ⟨hx_, hb_, hml_, hr_, hown_, hlk_, hnm_, hts_⟩ := id C_0
  have hl : lv_has ls 1 [(0, .ref (q 0))] := hl
  refine lv_aload_n hx_ hb_ dX8_words_0 rfl (lv_at hl 0 rfl) ?_
  refine va_get (D := D) (ci := 8) (v := .int (nI wn)) (C := RX8) (T := TX8) (N := 32) hx_ hb_ hts_ inM_X8 hown_ hK.1 hP 0 rfl rfl 25 (by decide) (hts_ _ (List.mem_cons_of_mem _ wa_f_X8_165)) (fun _ h9 => h9) rfl dX8_words_1 ?_
  exact ct_iret C_0 (hP.sub [0] rfl) (hD.sub [0] (by decide) rfl) hS (Nat.le_of_ble_eq_true rfl) (Nat.le_of_ble_eq_true rfl) dX8_words_4 (⟨rfl, rfl⟩)
abbrev po_X8_byteAt (k : Nat → ClassId) (q : Nat → Nat) (v : Int32) (ms : Nat) (rs : Nat) (bh : Int32) (tz : Nat) (fa : Int32) (mz : Nat) (wn : Nat) (tk : Nat) (mb : Nat → Int32) (i : Int32) : Int32 → va_W → Prop := fun ans_ w1 => ans_ = mm_get ms mb i ∧ w1 = [(q 0, .inr (8, [.int v, .ref (q 1), .int (nI ms), .ref (q 3), .int (nI rs), .ref (q 5), .ref (q 6), .int bh, .ref (q 8), .ref (q 9), .ref (q 10), .ref (q 11), .ref (q 12), .int (nI tz), .int fa, .ref (q 15), .int (nI mz), .ref (q 17), .ref (q 18), .ref (q 19), .ref (q 20), .ref (q 21), .ref (q 22), .ref (q 23), .ref (q 24), .int (nI wn), .ref (q 26), .ref (q 27), .int (nI tk), .ref (q 29), .ref (q 30), .ref (q 31)])), (q 1, .inl (k 3, 3000, .inl mb))]
set_option maxHeartbeats 4000000 in
set_option maxRecDepth 100000 in
/-- byteAt -/
theorem k_X8_byteAt (l : Launch) (D : va_G) (k : Nat → ClassId) (q : Nat → Nat) (v : Int32) (ms : Nat) (rs : Nat) (bh : Int32) (tz : Nat) (fa : Int32) (mz : Nat) (wn : Nat) (tk : Nat) (mb : Nat → Int32) (i : Int32) (hms : ms ≤ 3000) : ct_i l D (TY k) yX8_byteAt wsX8_byteAt ({ frames := 0, cells := 0, slots := 0, locals := 0 } : Room) [.ref (q 0), .int i] [(q 0, .inr (8, [.int v, .ref (q 1), .int (nI ms), .ref (q 3), .int (nI rs), .ref (q 5), .ref (q 6), .int bh, .ref (q 8), .ref (q 9), .ref (q 10), .ref (q 11), .ref (q 12), .int (nI tz), .int fa, .ref (q 15), .int (nI mz), .ref (q 17), .ref (q 18), .ref (q 19), .ref (q 20), .ref (q 21), .ref (q 22), .ref (q 23), .ref (q 24), .int (nI wn), .ref (q 26), .ref (q 27), .int (nI tk), .ref (q 29), .ref (q 30), .ref (q 31)])), (q 1, .inl (k 3, 3000, .inl mb))] (po_X8_byteAt k q v ms rs bh tz fa mz wn tk mb i) := by
  refine ct_i_of (cc := cX8_byteAt) (nL := 2) (rt := (some .int)) (by decide) rfl (Nat.le_of_ble_eq_true rfl) ?_
  intro p_ e_ s_0 m_0 below_ meth_ c_0 A_0 C_0 hP hK hD hS hA ls hl
  obtain ⟨hx_, hb_, hml_, hr_, hown_, hlk_, hnm_, hts_⟩ := id C_0
  have hl : lv_has ls 2 [(0, .ref (q 0)), (1, .int i)] := hl
  refine lv_iload_n hx_ hb_ dX8_byteAt_0 rfl (lv_at hl 1 rfl) ?_
  refine lv_if_lt (tgt := 25) hx_ hb_ dX8_byteAt_1 (by decide) (fun cc1 => ?_) (fun cc1 => ?_)
  · skip
    refine lv_iconst (v := (-1)) hx_ hb_ dX8_byteAt_25 (by decide) ?_
    have eqr : ((-1) : Int32) = mm_get ms mb i := by simp [mm_get, eq_true cc1]
    exact ct_iret C_0 (hP.sub [0, 1] rfl) (hD.sub [0, 1] (by decide) rfl) hS (Nat.le_of_ble_eq_true rfl) (Nat.le_of_ble_eq_true rfl) dX8_byteAt_26 (⟨eqr, rfl⟩)
  · skip
    refine lv_iload_n hx_ hb_ dX8_byteAt_4 rfl (lv_at hl 1 rfl) ?_
    refine lv_aload_n hx_ hb_ dX8_byteAt_5 rfl (lv_at hl 0 rfl) ?_
    refine va_get (D := D) (ci := 8) (v := .int (nI ms)) (C := RX8) (T := TX8) (N := 32) hx_ hb_ hts_ inM_X8 hown_ hK.1 hP 0 rfl rfl 2 (by decide) (hts_ _ (List.mem_cons_of_mem _ wa_f_X8_91)) (fun _ h9 => h9) rfl dX8_byteAt_6 ?_
    refine lv_icmp_ge (tgt := 25) hx_ hb_ dX8_byteAt_9 (by decide) (fun cc2 => ?_) (fun cc2 => ?_)
    · skip
      refine lv_iconst (v := (-1)) hx_ hb_ dX8_byteAt_25 (by decide) ?_
      have eqr : ((-1) : Int32) = mm_get ms mb i := by simp [mm_get, eq_false cc1, eq_true cc2]
      exact ct_iret C_0 (hP.sub [0, 1] rfl) (hD.sub [0, 1] (by decide) rfl) hS (Nat.le_of_ble_eq_true rfl) (Nat.le_of_ble_eq_true rfl) dX8_byteAt_26 (⟨eqr, rfl⟩)
    · skip
      refine lv_aload_n hx_ hb_ dX8_byteAt_12 rfl (lv_at hl 0 rfl) ?_
      refine va_get (D := D) (ci := 8) (v := .ref (q 1)) (C := RX8) (T := TX8) (N := 32) hx_ hb_ hts_ inM_X8 hown_ hK.1 hP 0 rfl rfl 1 (by decide) (hts_ _ (List.mem_cons_of_mem _ wa_f_X8_7)) (fun _ h9 => h9) rfl dX8_byteAt_13 ?_
      refine lv_iload_n hx_ hb_ dX8_byteAt_16 rfl (lv_at hl 1 rfl) ?_
      refine va_bald hx_ hb_ hK.1 hP 1 3 rfl rfl (mm_in cc1 cc2 hms (by decide)) dX8_byteAt_17 ?_
      refine lv_sipush (v := 255) hx_ hb_ dX8_byteAt_18 (by decide) ?_
      refine lv_iand hx_ hb_ dX8_byteAt_21 ?_
      refine lv_goto (tgt := 26) hx_ hb_ dX8_byteAt_22 (by decide) ?_
      have eqr : ((mb (Int32.toNatClampNeg i)) &&& 255 : Int32) = mm_get ms mb i := by simp [mm_get, eq_false cc1, eq_false cc2]
      exact ct_iret C_0 (hP.sub [0, 1] rfl) (hD.sub [0, 1] (by decide) rfl) hS (Nat.le_of_ble_eq_true rfl) (Nat.le_of_ble_eq_true rfl) dX8_byteAt_26 (⟨eqr, rfl⟩)
abbrev po_X8_poke (k : Nat → ClassId) (q : Nat → Nat) (v : Int32) (ms : Nat) (rs : Nat) (bh : Int32) (tz : Nat) (fa : Int32) (mz : Nat) (wn : Nat) (tk : Nat) (mb : Nat → Int32) (i : Int32) (b1 : Int32) : Int32 → va_W → Prop := fun ans_ w1 => ans_ = mp_r ms mb i b1 ∧ w1 = [(q 0, .inr (8, [.int v, .ref (q 1), .int (nI ms), .ref (q 3), .int (nI rs), .ref (q 5), .ref (q 6), .int bh, .ref (q 8), .ref (q 9), .ref (q 10), .ref (q 11), .ref (q 12), .int (nI tz), .int fa, .ref (q 15), .int (nI mz), .ref (q 17), .ref (q 18), .ref (q 19), .ref (q 20), .ref (q 21), .ref (q 22), .ref (q 23), .ref (q 24), .int (nI wn), .ref (q 26), .ref (q 27), .int (nI tk), .ref (q 29), .ref (q 30), .ref (q 31)])), (q 1, .inl (k 3, 3000, .inl (mp_b ms mb i b1)))]
set_option maxHeartbeats 4000000 in
set_option maxRecDepth 100000 in
/-- poke -/
theorem k_X8_poke (l : Launch) (D : va_G) (k : Nat → ClassId) (q : Nat → Nat) (v : Int32) (ms : Nat) (rs : Nat) (bh : Int32) (tz : Nat) (fa : Int32) (mz : Nat) (wn : Nat) (tk : Nat) (mb : Nat → Int32) (i : Int32) (b1 : Int32) (hms : ms ≤ 3000) : ct_i l D (TY k) yX8_poke wsX8_poke ({ frames := 0, cells := 0, slots := 0, locals := 0 } : Room) [.ref (q 0), .int i, .int b1] [(q 0, .inr (8, [.int v, .ref (q 1), .int (nI ms), .ref (q 3), .int (nI rs), .ref (q 5), .ref (q 6), .int bh, .ref (q 8), .ref (q 9), .ref (q 10), .ref (q 11), .ref (q 12), .int (nI tz), .int fa, .ref (q 15), .int (nI mz), .ref (q 17), .ref (q 18), .ref (q 19), .ref (q 20), .ref (q 21), .ref (q 22), .ref (q 23), .ref (q 24), .int (nI wn), .ref (q 26), .ref (q 27), .int (nI tk), .ref (q 29), .ref (q 30), .ref (q 31)])), (q 1, .inl (k 3, 3000, .inl mb))] (po_X8_poke k q v ms rs bh tz fa mz wn tk mb i b1) := by
  refine ct_i_of (cc := cX8_poke) (nL := 4) (rt := (some .int)) (by decide) rfl (Nat.le_of_ble_eq_true rfl) ?_
  intro p_ e_ s_0 m_0 below_ meth_ c_0 A_0 C_0 hP hK hD hS hA ls hl
  obtain ⟨hx_, hb_, hml_, hr_, hown_, hlk_, hnm_, hts_⟩ := id C_0
  have hl : lv_has ls 4 [(0, .ref (q 0)), (1, .int i), (2, .int b1)] := hl
  refine lv_iload_n hx_ hb_ dX8_poke_0 rfl (lv_at hl 1 rfl) ?_
  refine lv_if_lt (tgt := 12) hx_ hb_ dX8_poke_1 (by decide) (fun cc1 => ?_) (fun cc1 => ?_)
  · skip
    refine lv_iconst (v := (-1)) hx_ hb_ dX8_poke_12 (by decide) ?_
    have eq1 : (mb : Nat → Int32) = mp_b ms mb i b1 := by simp [mp_r, mp_b, mb_of, eq_true cc1]
    have eqr : ((-1) : Int32) = mp_r ms mb i b1 := by simp [mp_r, mp_b, mb_of, eq_true cc1]
    exact ct_iret C_0 (hP.sub [0, 1] rfl) (hD.sub [0, 1] (by decide) rfl) hS (Nat.le_of_ble_eq_true rfl) (Nat.le_of_ble_eq_true rfl) dX8_poke_13 (⟨eqr, congrArg (fun (z1 : Nat → Int32) => ([(q 0, .inr (8, [.int v, .ref (q 1), .int (nI ms), .ref (q 3), .int (nI rs), .ref (q 5), .ref (q 6), .int bh, .ref (q 8), .ref (q 9), .ref (q 10), .ref (q 11), .ref (q 12), .int (nI tz), .int fa, .ref (q 15), .int (nI mz), .ref (q 17), .ref (q 18), .ref (q 19), .ref (q 20), .ref (q 21), .ref (q 22), .ref (q 23), .ref (q 24), .int (nI wn), .ref (q 26), .ref (q 27), .int (nI tk), .ref (q 29), .ref (q 30), .ref (q 31)])), (q 1, .inl (k 3, 3000, .inl z1))] : va_W)) eq1⟩)
  · skip
    refine lv_iload_n hx_ hb_ dX8_poke_4 rfl (lv_at hl 1 rfl) ?_
    refine lv_aload_n hx_ hb_ dX8_poke_5 rfl (lv_at hl 0 rfl) ?_
    refine va_get (D := D) (ci := 8) (v := .int (nI ms)) (C := RX8) (T := TX8) (N := 32) hx_ hb_ hts_ inM_X8 hown_ hK.1 hP 0 rfl rfl 2 (by decide) (hts_ _ (List.mem_cons_of_mem _ wa_f_X8_91)) (fun _ h9 => h9) rfl dX8_poke_6 ?_
    refine lv_icmp_lt (tgt := 14) hx_ hb_ dX8_poke_9 (by decide) (fun cc2 => ?_) (fun cc2 => ?_)
    · skip
      refine lv_iload_n hx_ hb_ dX8_poke_14 rfl (lv_at hl 2 rfl) ?_
      refine lv_if_lt (tgt := 25) hx_ hb_ dX8_poke_15 (by decide) (fun cc3 => ?_) (fun cc3 => ?_)
      · skip
        refine lv_bipush (v := (-2)) hx_ hb_ dX8_poke_25 (by decide) ?_
        have eq1 : (mb : Nat → Int32) = mp_b ms mb i b1 := by simp [mp_r, mp_b, mb_of, eq_false cc1, eq_true cc2, eq_true cc3]
        have eqr : ((-2) : Int32) = mp_r ms mb i b1 := by simp [mp_r, mp_b, mb_of, eq_false cc1, eq_true cc2, eq_true cc3]
        exact ct_iret C_0 (hP.sub [0, 1] rfl) (hD.sub [0, 1] (by decide) rfl) hS (Nat.le_of_ble_eq_true rfl) (Nat.le_of_ble_eq_true rfl) dX8_poke_27 (⟨eqr, congrArg (fun (z1 : Nat → Int32) => ([(q 0, .inr (8, [.int v, .ref (q 1), .int (nI ms), .ref (q 3), .int (nI rs), .ref (q 5), .ref (q 6), .int bh, .ref (q 8), .ref (q 9), .ref (q 10), .ref (q 11), .ref (q 12), .int (nI tz), .int fa, .ref (q 15), .int (nI mz), .ref (q 17), .ref (q 18), .ref (q 19), .ref (q 20), .ref (q 21), .ref (q 22), .ref (q 23), .ref (q 24), .int (nI wn), .ref (q 26), .ref (q 27), .int (nI tk), .ref (q 29), .ref (q 30), .ref (q 31)])), (q 1, .inl (k 3, 3000, .inl z1))] : va_W)) eq1⟩)
      · skip
        refine lv_iload_n hx_ hb_ dX8_poke_18 rfl (lv_at hl 2 rfl) ?_
        refine lv_sipush (v := 255) hx_ hb_ dX8_poke_19 (by decide) ?_
        refine lv_icmp_le (tgt := 28) hx_ hb_ dX8_poke_22 (by decide) (fun cc4 => ?_) (fun cc4 => ?_)
        · skip
          refine lv_aload_n hx_ hb_ dX8_poke_28 rfl (lv_at hl 0 rfl) ?_
          refine va_get (D := D) (ci := 8) (v := .ref (q 1)) (C := RX8) (T := TX8) (N := 32) hx_ hb_ hts_ inM_X8 hown_ hK.1 hP 0 rfl rfl 1 (by decide) (hts_ _ (List.mem_cons_of_mem _ wa_f_X8_7)) (fun _ h9 => h9) rfl dX8_poke_29 ?_
          refine lv_iload_n hx_ hb_ dX8_poke_32 rfl (lv_at hl 1 rfl) ?_
          refine va_bald hx_ hb_ hK.1 hP 1 3 rfl rfl (mm_in' cc1 cc2 hms (by decide)) dX8_poke_33 ?_
          refine lv_sipush (v := 255) hx_ hb_ dX8_poke_34 (by decide) ?_
          refine lv_iand hx_ hb_ dX8_poke_37 ?_
          refine lv_istore_n (lv' := [(3, .int ((mb (Int32.toNatClampNeg i)) &&& 255)), (0, .ref (q 0)), (1, .int i), (2, .int b1)]) hx_ hb_ dX8_poke_38 rfl hl (by decide) rfl (fun ls hl => ?_)
          refine lv_aload_n hx_ hb_ dX8_poke_39 rfl (lv_at hl 1 rfl) ?_
          refine va_get (D := D) (ci := 8) (v := .ref (q 1)) (C := RX8) (T := TX8) (N := 32) hx_ hb_ hts_ inM_X8 hown_ hK.1 hP 0 rfl rfl 1 (by decide) (hts_ _ (List.mem_cons_of_mem _ wa_f_X8_7)) (fun _ h9 => h9) rfl dX8_poke_40 ?_
          refine lv_iload_n hx_ hb_ dX8_poke_43 rfl (lv_at hl 2 rfl) ?_
          refine lv_iload_n hx_ hb_ dX8_poke_44 rfl (lv_at hl 3 rfl) ?_
          refine lv_i2b (v := (Int32.toInt8 b1).toInt32) hx_ hb_ dX8_poke_45 rfl ?_
          refine va_bast hx_ hb_ hK.1 hP hD hS 1 3 rfl rfl (mm_in' cc1 cc2 hms (by decide)) dX8_poke_46 (fun H locs hP hD hS => ?_)
          rw [show vp_nar .byte ((Int32.toInt8 b1).toInt32) = ((Int32.toInt8 b1).toInt32) from pk_vb _] at hP hD
          have hP : va_P D vwCl [(q 0, .inr (8, [.int v, .ref (q 1), .int (nI ms), .ref (q 3), .int (nI rs), .ref (q 5), .ref (q 6), .int bh, .ref (q 8), .ref (q 9), .ref (q 10), .ref (q 11), .ref (q 12), .int (nI tz), .int fa, .ref (q 15), .int (nI mz), .ref (q 17), .ref (q 18), .ref (q 19), .ref (q 20), .ref (q 21), .ref (q 22), .ref (q 23), .ref (q 24), .int (nI wn), .ref (q 26), .ref (q 27), .int (nI tk), .ref (q 29), .ref (q 30), .ref (q 31)])), (q 1, .inl (k 3, 3000, .inl (upd mb (Int32.toNatClampNeg i) ((Int32.toInt8 b1).toInt32))))] H := hP
          have hD : va_D A_0 [(q 0, .inr (8, [.int v, .ref (q 1), .int (nI ms), .ref (q 3), .int (nI rs), .ref (q 5), .ref (q 6), .int bh, .ref (q 8), .ref (q 9), .ref (q 10), .ref (q 11), .ref (q 12), .int (nI tz), .int fa, .ref (q 15), .int (nI mz), .ref (q 17), .ref (q 18), .ref (q 19), .ref (q 20), .ref (q 21), .ref (q 22), .ref (q 23), .ref (q 24), .int (nI wn), .ref (q 26), .ref (q 27), .int (nI tk), .ref (q 29), .ref (q 30), .ref (q 31)])), (q 1, .inl (k 3, 3000, .inl (upd mb (Int32.toNatClampNeg i) ((Int32.toInt8 b1).toInt32))))] := hD
          refine lv_iload_n hx_ hb_ dX8_poke_47 rfl (lv_at hl 0 rfl) ?_
          have eq1 : (upd mb (Int32.toNatClampNeg i) ((Int32.toInt8 b1).toInt32) : Nat → Int32) = mp_b ms mb i b1 := by simp [mp_r, mp_b, mb_of, eq_false cc1, eq_true cc2, eq_false cc3, eq_true cc4]
          have eqr : ((mb (Int32.toNatClampNeg i)) &&& 255 : Int32) = mp_r ms mb i b1 := by simp [mp_r, mp_b, mb_of, eq_false cc1, eq_true cc2, eq_false cc3, eq_true cc4]
          exact ct_iret C_0 (hP.sub [0, 1] rfl) (hD.sub [0, 1] (by decide) rfl) hS (Nat.le_of_ble_eq_true rfl) (Nat.le_of_ble_eq_true rfl) dX8_poke_48 (⟨eqr, congrArg (fun (z1 : Nat → Int32) => ([(q 0, .inr (8, [.int v, .ref (q 1), .int (nI ms), .ref (q 3), .int (nI rs), .ref (q 5), .ref (q 6), .int bh, .ref (q 8), .ref (q 9), .ref (q 10), .ref (q 11), .ref (q 12), .int (nI tz), .int fa, .ref (q 15), .int (nI mz), .ref (q 17), .ref (q 18), .ref (q 19), .ref (q 20), .ref (q 21), .ref (q 22), .ref (q 23), .ref (q 24), .int (nI wn), .ref (q 26), .ref (q 27), .int (nI tk), .ref (q 29), .ref (q 30), .ref (q 31)])), (q 1, .inl (k 3, 3000, .inl z1))] : va_W)) eq1⟩)
        · skip
          refine lv_bipush (v := (-2)) hx_ hb_ dX8_poke_25 (by decide) ?_
          have eq1 : (mb : Nat → Int32) = mp_b ms mb i b1 := by simp [mp_r, mp_b, mb_of, eq_false cc1, eq_true cc2, eq_false cc3, eq_false cc4]
          have eqr : ((-2) : Int32) = mp_r ms mb i b1 := by simp [mp_r, mp_b, mb_of, eq_false cc1, eq_true cc2, eq_false cc3, eq_false cc4]
          exact ct_iret C_0 (hP.sub [0, 1] rfl) (hD.sub [0, 1] (by decide) rfl) hS (Nat.le_of_ble_eq_true rfl) (Nat.le_of_ble_eq_true rfl) dX8_poke_27 (⟨eqr, congrArg (fun (z1 : Nat → Int32) => ([(q 0, .inr (8, [.int v, .ref (q 1), .int (nI ms), .ref (q 3), .int (nI rs), .ref (q 5), .ref (q 6), .int bh, .ref (q 8), .ref (q 9), .ref (q 10), .ref (q 11), .ref (q 12), .int (nI tz), .int fa, .ref (q 15), .int (nI mz), .ref (q 17), .ref (q 18), .ref (q 19), .ref (q 20), .ref (q 21), .ref (q 22), .ref (q 23), .ref (q 24), .int (nI wn), .ref (q 26), .ref (q 27), .int (nI tk), .ref (q 29), .ref (q 30), .ref (q 31)])), (q 1, .inl (k 3, 3000, .inl z1))] : va_W)) eq1⟩)
    · skip
      refine lv_iconst (v := (-1)) hx_ hb_ dX8_poke_12 (by decide) ?_
      have eq1 : (mb : Nat → Int32) = mp_b ms mb i b1 := by simp [mp_r, mp_b, mb_of, eq_false cc1, eq_false cc2]
      have eqr : ((-1) : Int32) = mp_r ms mb i b1 := by simp [mp_r, mp_b, mb_of, eq_false cc1, eq_false cc2]
      exact ct_iret C_0 (hP.sub [0, 1] rfl) (hD.sub [0, 1] (by decide) rfl) hS (Nat.le_of_ble_eq_true rfl) (Nat.le_of_ble_eq_true rfl) dX8_poke_13 (⟨eqr, congrArg (fun (z1 : Nat → Int32) => ([(q 0, .inr (8, [.int v, .ref (q 1), .int (nI ms), .ref (q 3), .int (nI rs), .ref (q 5), .ref (q 6), .int bh, .ref (q 8), .ref (q 9), .ref (q 10), .ref (q 11), .ref (q 12), .int (nI tz), .int fa, .ref (q 15), .int (nI mz), .ref (q 17), .ref (q 18), .ref (q 19), .ref (q 20), .ref (q 21), .ref (q 22), .ref (q 23), .ref (q 24), .int (nI wn), .ref (q 26), .ref (q 27), .int (nI tk), .ref (q 29), .ref (q 30), .ref (q 31)])), (q 1, .inl (k 3, 3000, .inl z1))] : va_W)) eq1⟩)
abbrev po_X8_keep (k : Nat → ClassId) (q : Nat → Nat) (v : Int32) (ms : Nat) (rs : Nat) (bh : Int32) (tz : Nat) (fa : Int32) (mz : Nat) (wn : Nat) (tk : Nat) (n : Int32) : Int32 → va_W → Prop := fun ans_ w1 => ans_ = mk_r ms n ∧ w1 = [(q 0, .inr (8, [.int v, .ref (q 1), .int (nI (mk_n ms n)), .ref (q 3), .int (nI rs), .ref (q 5), .ref (q 6), .int bh, .ref (q 8), .ref (q 9), .ref (q 10), .ref (q 11), .ref (q 12), .int (nI tz), .int fa, .ref (q 15), .int (nI mz), .ref (q 17), .ref (q 18), .ref (q 19), .ref (q 20), .ref (q 21), .ref (q 22), .ref (q 23), .ref (q 24), .int (nI wn), .ref (q 26), .ref (q 27), .int (nI tk), .ref (q 29), .ref (q 30), .ref (q 31)]))]
set_option maxHeartbeats 4000000 in
set_option maxRecDepth 100000 in
/-- keep -/
theorem k_X8_keep (l : Launch) (D : va_G) (k : Nat → ClassId) (q : Nat → Nat) (v : Int32) (ms : Nat) (rs : Nat) (bh : Int32) (tz : Nat) (fa : Int32) (mz : Nat) (wn : Nat) (tk : Nat) (n : Int32)  : ct_i l D (TY k) yX8_keep wsX8_keep ({ frames := 0, cells := 0, slots := 0, locals := 0 } : Room) [.ref (q 0), .int n] [(q 0, .inr (8, [.int v, .ref (q 1), .int (nI ms), .ref (q 3), .int (nI rs), .ref (q 5), .ref (q 6), .int bh, .ref (q 8), .ref (q 9), .ref (q 10), .ref (q 11), .ref (q 12), .int (nI tz), .int fa, .ref (q 15), .int (nI mz), .ref (q 17), .ref (q 18), .ref (q 19), .ref (q 20), .ref (q 21), .ref (q 22), .ref (q 23), .ref (q 24), .int (nI wn), .ref (q 26), .ref (q 27), .int (nI tk), .ref (q 29), .ref (q 30), .ref (q 31)]))] (po_X8_keep k q v ms rs bh tz fa mz wn tk n) := by
  refine ct_i_of (cc := cX8_keep) (nL := 3) (rt := (some .int)) (by decide) rfl (Nat.le_of_ble_eq_true rfl) ?_
  intro p_ e_ s_0 m_0 below_ meth_ c_0 A_0 C_0 hP hK hD hS hA ls hl
  obtain ⟨hx_, hb_, hml_, hr_, hown_, hlk_, hnm_, hts_⟩ := id C_0
  have hl : lv_has ls 3 [(0, .ref (q 0)), (1, .int n)] := hl
  refine lv_iload_n hx_ hb_ dX8_keep_0 rfl (lv_at hl 1 rfl) ?_
  refine lv_if_lt (tgt := 12) hx_ hb_ dX8_keep_1 (by decide) (fun cc1 => ?_) (fun cc1 => ?_)
  · skip
    refine lv_bipush (v := (-2)) hx_ hb_ dX8_keep_12 (by decide) ?_
    have eq1 : (nI ms : Int32) = nI (mk_n ms n) := by simp [mk_r, mk_n, eq_true cc1]
    have eqr : ((-2) : Int32) = mk_r ms n := by simp [mk_r, mk_n, eq_true cc1]
    exact ct_iret C_0 (hP.sub [0] rfl) (hD.sub [0] (by decide) rfl) hS (Nat.le_of_ble_eq_true rfl) (Nat.le_of_ble_eq_true rfl) dX8_keep_14 (⟨eqr, congrArg (fun (z1 : Int32) => ([(q 0, .inr (8, [.int v, .ref (q 1), .int z1, .ref (q 3), .int (nI rs), .ref (q 5), .ref (q 6), .int bh, .ref (q 8), .ref (q 9), .ref (q 10), .ref (q 11), .ref (q 12), .int (nI tz), .int fa, .ref (q 15), .int (nI mz), .ref (q 17), .ref (q 18), .ref (q 19), .ref (q 20), .ref (q 21), .ref (q 22), .ref (q 23), .ref (q 24), .int (nI wn), .ref (q 26), .ref (q 27), .int (nI tk), .ref (q 29), .ref (q 30), .ref (q 31)]))] : va_W)) eq1⟩)
  · skip
    refine lv_iload_n hx_ hb_ dX8_keep_4 rfl (lv_at hl 1 rfl) ?_
    refine lv_aload_n hx_ hb_ dX8_keep_5 rfl (lv_at hl 0 rfl) ?_
    refine va_get (D := D) (ci := 8) (v := .int (nI ms)) (C := RX8) (T := TX8) (N := 32) hx_ hb_ hts_ inM_X8 hown_ hK.1 hP 0 rfl rfl 2 (by decide) (hts_ _ (List.mem_cons_of_mem _ wa_f_X8_91)) (fun _ h9 => h9) rfl dX8_keep_6 ?_
    refine lv_icmp_le (tgt := 15) hx_ hb_ dX8_keep_9 (by decide) (fun cc2 => ?_) (fun cc2 => ?_)
    · skip
      refine lv_aload_n hx_ hb_ dX8_keep_15 rfl (lv_at hl 0 rfl) ?_
      refine va_get (D := D) (ci := 8) (v := .int (nI ms)) (C := RX8) (T := TX8) (N := 32) hx_ hb_ hts_ inM_X8 hown_ hK.1 hP 0 rfl rfl 2 (by decide) (hts_ _ (List.mem_cons_of_mem _ wa_f_X8_91)) (fun _ h9 => h9) rfl dX8_keep_16 ?_
      refine lv_istore_n (lv' := [(2, .int (nI ms)), (0, .ref (q 0)), (1, .int n)]) hx_ hb_ dX8_keep_19 rfl hl (by decide) rfl (fun ls hl => ?_)
      refine lv_aload_n hx_ hb_ dX8_keep_20 rfl (lv_at hl 1 rfl) ?_
      refine lv_iload_n hx_ hb_ dX8_keep_21 rfl (lv_at hl 2 rfl) ?_
      refine va_put (D := D) (ci := 8) (v := .int n) (ty := .int) (C := RX8) (T := TX8) (N := 32) hx_ hb_ hts_ inM_X8 tyX8 tyX8_ok nmX8 hown_ hK.1 hP hD hS 0 rfl rfl 2 (by decide) (hts_ _ (List.mem_cons_of_mem _ wa_f_X8_91)) (fun _ h9 => h9) rfl (by decide +kernel) rfl rfl (Nat.le_of_ble_eq_true rfl) dX8_keep_22 (fun H locs hP hD hS => ?_)
      have hP : va_P D vwCl [(q 0, .inr (8, [.int v, .ref (q 1), .int n, .ref (q 3), .int (nI rs), .ref (q 5), .ref (q 6), .int bh, .ref (q 8), .ref (q 9), .ref (q 10), .ref (q 11), .ref (q 12), .int (nI tz), .int fa, .ref (q 15), .int (nI mz), .ref (q 17), .ref (q 18), .ref (q 19), .ref (q 20), .ref (q 21), .ref (q 22), .ref (q 23), .ref (q 24), .int (nI wn), .ref (q 26), .ref (q 27), .int (nI tk), .ref (q 29), .ref (q 30), .ref (q 31)]))] H := hP
      have hD : va_D A_0 [(q 0, .inr (8, [.int v, .ref (q 1), .int n, .ref (q 3), .int (nI rs), .ref (q 5), .ref (q 6), .int bh, .ref (q 8), .ref (q 9), .ref (q 10), .ref (q 11), .ref (q 12), .int (nI tz), .int fa, .ref (q 15), .int (nI mz), .ref (q 17), .ref (q 18), .ref (q 19), .ref (q 20), .ref (q 21), .ref (q 22), .ref (q 23), .ref (q 24), .int (nI wn), .ref (q 26), .ref (q 27), .int (nI tk), .ref (q 29), .ref (q 30), .ref (q 31)]))] := hD
      refine lv_iload_n hx_ hb_ dX8_keep_25 rfl (lv_at hl 0 rfl) ?_
      have eq1 : (n : Int32) = nI (mk_n ms n) := by first | exact mk_eq cc1 cc2 | simp [mk_r, mk_n, eq_false cc1, eq_true cc2]
      have eqr : (nI ms : Int32) = mk_r ms n := by first | exact mk_eq cc1 cc2 | simp [mk_r, mk_n, eq_false cc1, eq_true cc2]
      exact ct_iret C_0 (hP.sub [0] rfl) (hD.sub [0] (by decide) rfl) hS (Nat.le_of_ble_eq_true rfl) (Nat.le_of_ble_eq_true rfl) dX8_keep_26 (⟨eqr, congrArg (fun (z1 : Int32) => ([(q 0, .inr (8, [.int v, .ref (q 1), .int z1, .ref (q 3), .int (nI rs), .ref (q 5), .ref (q 6), .int bh, .ref (q 8), .ref (q 9), .ref (q 10), .ref (q 11), .ref (q 12), .int (nI tz), .int fa, .ref (q 15), .int (nI mz), .ref (q 17), .ref (q 18), .ref (q 19), .ref (q 20), .ref (q 21), .ref (q 22), .ref (q 23), .ref (q 24), .int (nI wn), .ref (q 26), .ref (q 27), .int (nI tk), .ref (q 29), .ref (q 30), .ref (q 31)]))] : va_W)) eq1⟩)
    · skip
      refine lv_bipush (v := (-2)) hx_ hb_ dX8_keep_12 (by decide) ?_
      have eq1 : (nI ms : Int32) = nI (mk_n ms n) := by simp [mk_r, mk_n, eq_false cc1, eq_false cc2]
      have eqr : ((-2) : Int32) = mk_r ms n := by simp [mk_r, mk_n, eq_false cc1, eq_false cc2]
      exact ct_iret C_0 (hP.sub [0] rfl) (hD.sub [0] (by decide) rfl) hS (Nat.le_of_ble_eq_true rfl) (Nat.le_of_ble_eq_true rfl) dX8_keep_14 (⟨eqr, congrArg (fun (z1 : Int32) => ([(q 0, .inr (8, [.int v, .ref (q 1), .int z1, .ref (q 3), .int (nI rs), .ref (q 5), .ref (q 6), .int bh, .ref (q 8), .ref (q 9), .ref (q 10), .ref (q 11), .ref (q 12), .int (nI tz), .int fa, .ref (q 15), .int (nI mz), .ref (q 17), .ref (q 18), .ref (q 19), .ref (q 20), .ref (q 21), .ref (q 22), .ref (q 23), .ref (q 24), .int (nI wn), .ref (q 26), .ref (q 27), .int (nI tk), .ref (q 29), .ref (q 30), .ref (q 31)]))] : va_W)) eq1⟩)
abbrev po_X8_sign (k : Nat → ClassId) (q : Nat → Nat) (v : Int32) (ms : Nat) (rs : Nat) (bh : Int32) (tz : Nat) (fa : Int32) (mz : Nat) (wn : Nat) (tk : Nat) (rf : Nat → Int32) (c : Int32) : Int32 → va_W → Prop := fun ans_ w1 => ans_ = ms_r (rs, rf) c ∧ w1 = [(q 0, .inr (8, [.int v, .ref (q 1), .int (nI ms), .ref (q 3), .int (nI ((ms_t (rs, rf) c).1)), .ref (q 5), .ref (q 6), .int bh, .ref (q 8), .ref (q 9), .ref (q 10), .ref (q 11), .ref (q 12), .int (nI tz), .int fa, .ref (q 15), .int (nI mz), .ref (q 17), .ref (q 18), .ref (q 19), .ref (q 20), .ref (q 21), .ref (q 22), .ref (q 23), .ref (q 24), .int (nI wn), .ref (q 26), .ref (q 27), .int (nI tk), .ref (q 29), .ref (q 30), .ref (q 31)])), (q 3, .inl (k 0, 1000, .inl ((ms_t (rs, rf) c).2)))]
set_option maxHeartbeats 4000000 in
set_option maxRecDepth 100000 in
/-- sign -/
theorem k_X8_sign (l : Launch) (D : va_G) (k : Nat → ClassId) (q : Nat → Nat) (v : Int32) (ms : Nat) (rs : Nat) (bh : Int32) (tz : Nat) (fa : Int32) (mz : Nat) (wn : Nat) (tk : Nat) (rf : Nat → Int32) (c : Int32) (hrs : rs ≤ 1000) : ct_i l D (TY k) yX8_sign wsX8_sign ({ frames := 0, cells := 0, slots := 0, locals := 0 } : Room) [.ref (q 0), .int c] [(q 0, .inr (8, [.int v, .ref (q 1), .int (nI ms), .ref (q 3), .int (nI rs), .ref (q 5), .ref (q 6), .int bh, .ref (q 8), .ref (q 9), .ref (q 10), .ref (q 11), .ref (q 12), .int (nI tz), .int fa, .ref (q 15), .int (nI mz), .ref (q 17), .ref (q 18), .ref (q 19), .ref (q 20), .ref (q 21), .ref (q 22), .ref (q 23), .ref (q 24), .int (nI wn), .ref (q 26), .ref (q 27), .int (nI tk), .ref (q 29), .ref (q 30), .ref (q 31)])), (q 3, .inl (k 0, 1000, .inl rf))] (po_X8_sign k q v ms rs bh tz fa mz wn tk rf c) := by
  refine ct_i_of (cc := cX8_sign) (nL := 2) (rt := (some .int)) (by decide) rfl (Nat.le_of_ble_eq_true rfl) ?_
  intro p_ e_ s_0 m_0 below_ meth_ c_0 A_0 C_0 hP hK hD hS hA ls hl
  obtain ⟨hx_, hb_, hml_, hr_, hown_, hlk_, hnm_, hts_⟩ := id C_0
  have hl : lv_has ls 2 [(0, .ref (q 0)), (1, .int c)] := hl
  refine lv_iload_n hx_ hb_ dX8_sign_0 rfl (lv_at hl 1 rfl) ?_
  refine lv_iconst (v := (-1)) hx_ hb_ dX8_sign_1 (by decide) ?_
  refine lv_icmp_lt (tgt := 12) hx_ hb_ dX8_sign_2 (by decide) (fun cc1 => ?_) (fun cc1 => ?_)
  · skip
    refine lv_bipush (v := (-2)) hx_ hb_ dX8_sign_12 (by decide) ?_
    have eq1 : (nI rs : Int32) = nI ((ms_t (rs, rf) c).1) := by simp [ms_r, ms_t, eq_true cc1] <;> rfl
    have eq2 : (rf : Nat → Int32) = (ms_t (rs, rf) c).2 := by simp [ms_r, ms_t, eq_true cc1] <;> rfl
    have eqr : ((-2) : Int32) = ms_r (rs, rf) c := by simp [ms_r, ms_t, eq_true cc1] <;> rfl
    exact ct_iret C_0 (hP.sub [0, 1] rfl) (hD.sub [0, 1] (by decide) rfl) hS (Nat.le_of_ble_eq_true rfl) (Nat.le_of_ble_eq_true rfl) dX8_sign_14 (⟨eqr, congr (congrArg (fun (z1 : Int32) (z2 : Nat → Int32) => ([(q 0, .inr (8, [.int v, .ref (q 1), .int (nI ms), .ref (q 3), .int z1, .ref (q 5), .ref (q 6), .int bh, .ref (q 8), .ref (q 9), .ref (q 10), .ref (q 11), .ref (q 12), .int (nI tz), .int fa, .ref (q 15), .int (nI mz), .ref (q 17), .ref (q 18), .ref (q 19), .ref (q 20), .ref (q 21), .ref (q 22), .ref (q 23), .ref (q 24), .int (nI wn), .ref (q 26), .ref (q 27), .int (nI tk), .ref (q 29), .ref (q 30), .ref (q 31)])), (q 3, .inl (k 0, 1000, .inl z2))] : va_W)) eq1) eq2⟩)
  · skip
    refine lv_iload_n hx_ hb_ dX8_sign_5 rfl (lv_at hl 1 rfl) ?_
    refine lv_sipush (v := 1023) hx_ hb_ dX8_sign_6 (by decide) ?_
    refine lv_icmp_le (tgt := 15) hx_ hb_ dX8_sign_9 (by decide) (fun cc2 => ?_) (fun cc2 => ?_)
    · skip
      refine lv_iload_n hx_ hb_ dX8_sign_15 rfl (lv_at hl 1 rfl) ?_
      refine lv_if_ge (tgt := 26) hx_ hb_ dX8_sign_16 (by decide) (fun cc3 => ?_) (fun cc3 => ?_)
      · skip
        refine lv_aload_n hx_ hb_ dX8_sign_26 rfl (lv_at hl 0 rfl) ?_
        refine va_get (D := D) (ci := 8) (v := .int (nI rs)) (C := RX8) (T := TX8) (N := 32) hx_ hb_ hts_ inM_X8 hown_ hK.1 hP 0 rfl rfl 4 (by decide) (hts_ _ (List.mem_cons_of_mem _ wa_f_X8_94)) (fun _ h9 => h9) rfl dX8_sign_27 ?_
        refine lv_sipush (v := 1000) hx_ hb_ dX8_sign_30 (by decide) ?_
        refine lv_icmp_ne (tgt := 39) hx_ hb_ dX8_sign_33 (by decide) (fun cc4 => ?_) (fun cc4 => ?_)
        · have nn4 : ¬ rs = 1000 := fun hh => cc4 ((nI_eq (a := rs) (b := 1000) (by first | omega | assumption) (by first | omega | assumption)).mpr hh)
          refine lv_aload_n hx_ hb_ dX8_sign_39 rfl (lv_at hl 0 rfl) ?_
          refine va_get (D := D) (ci := 8) (v := .ref (q 3)) (C := RX8) (T := TX8) (N := 32) hx_ hb_ hts_ inM_X8 hown_ hK.1 hP 0 rfl rfl 3 (by decide) (hts_ _ (List.mem_cons_of_mem _ wa_f_X8_13)) (fun _ h9 => h9) rfl dX8_sign_40 ?_
          refine lv_aload_n hx_ hb_ dX8_sign_43 rfl (lv_at hl 0 rfl) ?_
          refine va_get (D := D) (ci := 8) (v := .int (nI rs)) (C := RX8) (T := TX8) (N := 32) hx_ hb_ hts_ inM_X8 hown_ hK.1 hP 0 rfl rfl 4 (by decide) (hts_ _ (List.mem_cons_of_mem _ wa_f_X8_94)) (fun _ h9 => h9) rfl dX8_sign_44 ?_
          refine lv_iload_n hx_ hb_ dX8_sign_47 rfl (lv_at hl 1 rfl) ?_
          refine va_iast hx_ hb_ hK.1 hP hD hS 1 0 rfl rfl (vp_in_nI (by first | omega | assumption) (by decide)) dX8_sign_48 (fun H locs hP hD hS => ?_)
          rw [show Int32.toNatClampNeg (nI rs) = rs from nI_clamp (by first | omega | assumption)] at hP hD
          have hP : va_P D vwCl [(q 0, .inr (8, [.int v, .ref (q 1), .int (nI ms), .ref (q 3), .int (nI rs), .ref (q 5), .ref (q 6), .int bh, .ref (q 8), .ref (q 9), .ref (q 10), .ref (q 11), .ref (q 12), .int (nI tz), .int fa, .ref (q 15), .int (nI mz), .ref (q 17), .ref (q 18), .ref (q 19), .ref (q 20), .ref (q 21), .ref (q 22), .ref (q 23), .ref (q 24), .int (nI wn), .ref (q 26), .ref (q 27), .int (nI tk), .ref (q 29), .ref (q 30), .ref (q 31)])), (q 3, .inl (k 0, 1000, .inl (upd rf rs c)))] H := hP
          have hD : va_D A_0 [(q 0, .inr (8, [.int v, .ref (q 1), .int (nI ms), .ref (q 3), .int (nI rs), .ref (q 5), .ref (q 6), .int bh, .ref (q 8), .ref (q 9), .ref (q 10), .ref (q 11), .ref (q 12), .int (nI tz), .int fa, .ref (q 15), .int (nI mz), .ref (q 17), .ref (q 18), .ref (q 19), .ref (q 20), .ref (q 21), .ref (q 22), .ref (q 23), .ref (q 24), .int (nI wn), .ref (q 26), .ref (q 27), .int (nI tk), .ref (q 29), .ref (q 30), .ref (q 31)])), (q 3, .inl (k 0, 1000, .inl (upd rf rs c)))] := hD
          refine lv_aload_n hx_ hb_ dX8_sign_49 rfl (lv_at hl 0 rfl) ?_
          refine lv_dup hx_ hb_ dX8_sign_50 rfl ?_
          refine va_get (D := D) (ci := 8) (v := .int (nI rs)) (C := RX8) (T := TX8) (N := 32) hx_ hb_ hts_ inM_X8 hown_ hK.1 hP 0 rfl rfl 4 (by decide) (hts_ _ (List.mem_cons_of_mem _ wa_f_X8_94)) (fun _ h9 => h9) rfl dX8_sign_51 ?_
          refine lv_iconst (v := 1) hx_ hb_ dX8_sign_54 (by decide) ?_
          refine lv_iadd hx_ hb_ dX8_sign_55 ?_
          refine lv_ti (y := nI (rs + 1)) (nI_add _ _) ?_
          refine va_put (D := D) (ci := 8) (v := .int (nI (rs + 1))) (ty := .int) (C := RX8) (T := TX8) (N := 32) hx_ hb_ hts_ inM_X8 tyX8 tyX8_ok nmX8 hown_ hK.1 hP hD hS 0 rfl rfl 4 (by decide) (hts_ _ (List.mem_cons_of_mem _ wa_f_X8_94)) (fun _ h9 => h9) rfl (by decide +kernel) rfl rfl (Nat.le_of_ble_eq_true rfl) dX8_sign_56 (fun H locs hP hD hS => ?_)
          have hP : va_P D vwCl [(q 0, .inr (8, [.int v, .ref (q 1), .int (nI ms), .ref (q 3), .int (nI (rs + 1)), .ref (q 5), .ref (q 6), .int bh, .ref (q 8), .ref (q 9), .ref (q 10), .ref (q 11), .ref (q 12), .int (nI tz), .int fa, .ref (q 15), .int (nI mz), .ref (q 17), .ref (q 18), .ref (q 19), .ref (q 20), .ref (q 21), .ref (q 22), .ref (q 23), .ref (q 24), .int (nI wn), .ref (q 26), .ref (q 27), .int (nI tk), .ref (q 29), .ref (q 30), .ref (q 31)])), (q 3, .inl (k 0, 1000, .inl (upd rf rs c)))] H := hP
          have hD : va_D A_0 [(q 0, .inr (8, [.int v, .ref (q 1), .int (nI ms), .ref (q 3), .int (nI (rs + 1)), .ref (q 5), .ref (q 6), .int bh, .ref (q 8), .ref (q 9), .ref (q 10), .ref (q 11), .ref (q 12), .int (nI tz), .int fa, .ref (q 15), .int (nI mz), .ref (q 17), .ref (q 18), .ref (q 19), .ref (q 20), .ref (q 21), .ref (q 22), .ref (q 23), .ref (q 24), .int (nI wn), .ref (q 26), .ref (q 27), .int (nI tk), .ref (q 29), .ref (q 30), .ref (q 31)])), (q 3, .inl (k 0, 1000, .inl (upd rf rs c)))] := hD
          refine lv_aload_n hx_ hb_ dX8_sign_59 rfl (lv_at hl 0 rfl) ?_
          refine va_get (D := D) (ci := 8) (v := .int (nI (rs + 1))) (C := RX8) (T := TX8) (N := 32) hx_ hb_ hts_ inM_X8 hown_ hK.1 hP 0 rfl rfl 4 (by decide) (hts_ _ (List.mem_cons_of_mem _ wa_f_X8_94)) (fun _ h9 => h9) rfl dX8_sign_60 ?_
          have eq1 : (nI (rs + 1) : Int32) = nI ((ms_t (rs, rf) c).1) := by simp [ms_r, ms_t, eq_false cc1, eq_true cc2, eq_true cc3, eq_false cc4, eq_false nn4] <;> rfl
          have eq2 : (upd rf rs c : Nat → Int32) = (ms_t (rs, rf) c).2 := by simp [ms_r, ms_t, eq_false cc1, eq_true cc2, eq_true cc3, eq_false cc4, eq_false nn4] <;> rfl
          have eqr : (nI (rs + 1) : Int32) = ms_r (rs, rf) c := by simp [ms_r, ms_t, eq_false cc1, eq_true cc2, eq_true cc3, eq_false cc4, eq_false nn4] <;> rfl
          exact ct_iret C_0 (hP.sub [0, 1] rfl) (hD.sub [0, 1] (by decide) rfl) hS (Nat.le_of_ble_eq_true rfl) (Nat.le_of_ble_eq_true rfl) dX8_sign_63 (⟨eqr, congr (congrArg (fun (z1 : Int32) (z2 : Nat → Int32) => ([(q 0, .inr (8, [.int v, .ref (q 1), .int (nI ms), .ref (q 3), .int z1, .ref (q 5), .ref (q 6), .int bh, .ref (q 8), .ref (q 9), .ref (q 10), .ref (q 11), .ref (q 12), .int (nI tz), .int fa, .ref (q 15), .int (nI mz), .ref (q 17), .ref (q 18), .ref (q 19), .ref (q 20), .ref (q 21), .ref (q 22), .ref (q 23), .ref (q 24), .int (nI wn), .ref (q 26), .ref (q 27), .int (nI tk), .ref (q 29), .ref (q 30), .ref (q 31)])), (q 3, .inl (k 0, 1000, .inl z2))] : va_W)) eq1) eq2⟩)
        · have nn4 : rs = 1000 := (nI_eq (a := rs) (b := 1000) (by first | omega | assumption) (by first | omega | assumption)).mp cc4
          refine lv_bipush (v := (-4)) hx_ hb_ dX8_sign_36 (by decide) ?_
          have eq1 : (nI rs : Int32) = nI ((ms_t (rs, rf) c).1) := by simp [ms_r, ms_t, eq_false cc1, eq_true cc2, eq_true cc3, eq_true cc4, eq_true nn4] <;> rfl
          have eq2 : (rf : Nat → Int32) = (ms_t (rs, rf) c).2 := by simp [ms_r, ms_t, eq_false cc1, eq_true cc2, eq_true cc3, eq_true cc4, eq_true nn4] <;> rfl
          have eqr : ((-4) : Int32) = ms_r (rs, rf) c := by simp [ms_r, ms_t, eq_false cc1, eq_true cc2, eq_true cc3, eq_true cc4, eq_true nn4] <;> rfl
          exact ct_iret C_0 (hP.sub [0, 1] rfl) (hD.sub [0, 1] (by decide) rfl) hS (Nat.le_of_ble_eq_true rfl) (Nat.le_of_ble_eq_true rfl) dX8_sign_38 (⟨eqr, congr (congrArg (fun (z1 : Int32) (z2 : Nat → Int32) => ([(q 0, .inr (8, [.int v, .ref (q 1), .int (nI ms), .ref (q 3), .int z1, .ref (q 5), .ref (q 6), .int bh, .ref (q 8), .ref (q 9), .ref (q 10), .ref (q 11), .ref (q 12), .int (nI tz), .int fa, .ref (q 15), .int (nI mz), .ref (q 17), .ref (q 18), .ref (q 19), .ref (q 20), .ref (q 21), .ref (q 22), .ref (q 23), .ref (q 24), .int (nI wn), .ref (q 26), .ref (q 27), .int (nI tk), .ref (q 29), .ref (q 30), .ref (q 31)])), (q 3, .inl (k 0, 1000, .inl z2))] : va_W)) eq1) eq2⟩)
      · skip
        refine lv_aload_n hx_ hb_ dX8_sign_19 rfl (lv_at hl 0 rfl) ?_
        refine lv_iconst (v := 0) hx_ hb_ dX8_sign_20 (by decide) ?_
        refine va_put (D := D) (ci := 8) (v := .int 0) (ty := .int) (C := RX8) (T := TX8) (N := 32) hx_ hb_ hts_ inM_X8 tyX8 tyX8_ok nmX8 hown_ hK.1 hP hD hS 0 rfl rfl 4 (by decide) (hts_ _ (List.mem_cons_of_mem _ wa_f_X8_94)) (fun _ h9 => h9) rfl (by decide +kernel) rfl rfl (Nat.le_of_ble_eq_true rfl) dX8_sign_21 (fun H locs hP hD hS => ?_)
        have hP : va_P D vwCl [(q 0, .inr (8, [.int v, .ref (q 1), .int (nI ms), .ref (q 3), .int 0, .ref (q 5), .ref (q 6), .int bh, .ref (q 8), .ref (q 9), .ref (q 10), .ref (q 11), .ref (q 12), .int (nI tz), .int fa, .ref (q 15), .int (nI mz), .ref (q 17), .ref (q 18), .ref (q 19), .ref (q 20), .ref (q 21), .ref (q 22), .ref (q 23), .ref (q 24), .int (nI wn), .ref (q 26), .ref (q 27), .int (nI tk), .ref (q 29), .ref (q 30), .ref (q 31)])), (q 3, .inl (k 0, 1000, .inl rf))] H := hP
        have hD : va_D A_0 [(q 0, .inr (8, [.int v, .ref (q 1), .int (nI ms), .ref (q 3), .int 0, .ref (q 5), .ref (q 6), .int bh, .ref (q 8), .ref (q 9), .ref (q 10), .ref (q 11), .ref (q 12), .int (nI tz), .int fa, .ref (q 15), .int (nI mz), .ref (q 17), .ref (q 18), .ref (q 19), .ref (q 20), .ref (q 21), .ref (q 22), .ref (q 23), .ref (q 24), .int (nI wn), .ref (q 26), .ref (q 27), .int (nI tk), .ref (q 29), .ref (q 30), .ref (q 31)])), (q 3, .inl (k 0, 1000, .inl rf))] := hD
        refine lv_iconst (v := 0) hx_ hb_ dX8_sign_24 (by decide) ?_
        have eq1 : (0 : Int32) = nI ((ms_t (rs, rf) c).1) := by simp [ms_r, ms_t, eq_false cc1, eq_true cc2, eq_false cc3] <;> rfl
        have eq2 : (rf : Nat → Int32) = (ms_t (rs, rf) c).2 := by simp [ms_r, ms_t, eq_false cc1, eq_true cc2, eq_false cc3] <;> rfl
        have eqr : (0 : Int32) = ms_r (rs, rf) c := by simp [ms_r, ms_t, eq_false cc1, eq_true cc2, eq_false cc3] <;> rfl
        exact ct_iret C_0 (hP.sub [0, 1] rfl) (hD.sub [0, 1] (by decide) rfl) hS (Nat.le_of_ble_eq_true rfl) (Nat.le_of_ble_eq_true rfl) dX8_sign_25 (⟨eqr, congr (congrArg (fun (z1 : Int32) (z2 : Nat → Int32) => ([(q 0, .inr (8, [.int v, .ref (q 1), .int (nI ms), .ref (q 3), .int z1, .ref (q 5), .ref (q 6), .int bh, .ref (q 8), .ref (q 9), .ref (q 10), .ref (q 11), .ref (q 12), .int (nI tz), .int fa, .ref (q 15), .int (nI mz), .ref (q 17), .ref (q 18), .ref (q 19), .ref (q 20), .ref (q 21), .ref (q 22), .ref (q 23), .ref (q 24), .int (nI wn), .ref (q 26), .ref (q 27), .int (nI tk), .ref (q 29), .ref (q 30), .ref (q 31)])), (q 3, .inl (k 0, 1000, .inl z2))] : va_W)) eq1) eq2⟩)
    · skip
      refine lv_bipush (v := (-2)) hx_ hb_ dX8_sign_12 (by decide) ?_
      have eq1 : (nI rs : Int32) = nI ((ms_t (rs, rf) c).1) := by simp [ms_r, ms_t, eq_false cc1, eq_false cc2] <;> rfl
      have eq2 : (rf : Nat → Int32) = (ms_t (rs, rf) c).2 := by simp [ms_r, ms_t, eq_false cc1, eq_false cc2] <;> rfl
      have eqr : ((-2) : Int32) = ms_r (rs, rf) c := by simp [ms_r, ms_t, eq_false cc1, eq_false cc2] <;> rfl
      exact ct_iret C_0 (hP.sub [0, 1] rfl) (hD.sub [0, 1] (by decide) rfl) hS (Nat.le_of_ble_eq_true rfl) (Nat.le_of_ble_eq_true rfl) dX8_sign_14 (⟨eqr, congr (congrArg (fun (z1 : Int32) (z2 : Nat → Int32) => ([(q 0, .inr (8, [.int v, .ref (q 1), .int (nI ms), .ref (q 3), .int z1, .ref (q 5), .ref (q 6), .int bh, .ref (q 8), .ref (q 9), .ref (q 10), .ref (q 11), .ref (q 12), .int (nI tz), .int fa, .ref (q 15), .int (nI mz), .ref (q 17), .ref (q 18), .ref (q 19), .ref (q 20), .ref (q 21), .ref (q 22), .ref (q 23), .ref (q 24), .int (nI wn), .ref (q 26), .ref (q 27), .int (nI tk), .ref (q 29), .ref (q 30), .ref (q 31)])), (q 3, .inl (k 0, 1000, .inl z2))] : va_W)) eq1) eq2⟩)
abbrev po_X8_at (k : Nat → ClassId) (q : Nat → Nat) (v : Int32) (ms : Nat) (rs : Nat) (bh : Int32) (tz : Nat) (fa : Int32) (mz : Nat) (wn : Nat) (tk : Nat) (rf : Nat → Int32) (i : Int32) : Int32 → va_W → Prop := fun ans_ w1 => ans_ = mt_get rs rf i ∧ w1 = [(q 0, .inr (8, [.int v, .ref (q 1), .int (nI ms), .ref (q 3), .int (nI rs), .ref (q 5), .ref (q 6), .int bh, .ref (q 8), .ref (q 9), .ref (q 10), .ref (q 11), .ref (q 12), .int (nI tz), .int fa, .ref (q 15), .int (nI mz), .ref (q 17), .ref (q 18), .ref (q 19), .ref (q 20), .ref (q 21), .ref (q 22), .ref (q 23), .ref (q 24), .int (nI wn), .ref (q 26), .ref (q 27), .int (nI tk), .ref (q 29), .ref (q 30), .ref (q 31)])), (q 3, .inl (k 0, 1000, .inl rf))]
set_option maxHeartbeats 4000000 in
set_option maxRecDepth 100000 in
/-- at -/
theorem k_X8_at (l : Launch) (D : va_G) (k : Nat → ClassId) (q : Nat → Nat) (v : Int32) (ms : Nat) (rs : Nat) (bh : Int32) (tz : Nat) (fa : Int32) (mz : Nat) (wn : Nat) (tk : Nat) (rf : Nat → Int32) (i : Int32) (hrs : rs ≤ 1000) : ct_i l D (TY k) yX8_at wsX8_at ({ frames := 0, cells := 0, slots := 0, locals := 0 } : Room) [.ref (q 0), .int i] [(q 0, .inr (8, [.int v, .ref (q 1), .int (nI ms), .ref (q 3), .int (nI rs), .ref (q 5), .ref (q 6), .int bh, .ref (q 8), .ref (q 9), .ref (q 10), .ref (q 11), .ref (q 12), .int (nI tz), .int fa, .ref (q 15), .int (nI mz), .ref (q 17), .ref (q 18), .ref (q 19), .ref (q 20), .ref (q 21), .ref (q 22), .ref (q 23), .ref (q 24), .int (nI wn), .ref (q 26), .ref (q 27), .int (nI tk), .ref (q 29), .ref (q 30), .ref (q 31)])), (q 3, .inl (k 0, 1000, .inl rf))] (po_X8_at k q v ms rs bh tz fa mz wn tk rf i) := by
  refine ct_i_of (cc := cX8_at) (nL := 2) (rt := (some .int)) (by decide) rfl (Nat.le_of_ble_eq_true rfl) ?_
  intro p_ e_ s_0 m_0 below_ meth_ c_0 A_0 C_0 hP hK hD hS hA ls hl
  obtain ⟨hx_, hb_, hml_, hr_, hown_, hlk_, hnm_, hts_⟩ := id C_0
  have hl : lv_has ls 2 [(0, .ref (q 0)), (1, .int i)] := hl
  refine lv_iload_n hx_ hb_ dX8_at_0 rfl (lv_at hl 1 rfl) ?_
  refine lv_if_lt (tgt := 21) hx_ hb_ dX8_at_1 (by decide) (fun cc1 => ?_) (fun cc1 => ?_)
  · skip
    refine lv_iconst (v := (-1)) hx_ hb_ dX8_at_21 (by decide) ?_
    have eqr : ((-1) : Int32) = mt_get rs rf i := by simp [mt_get, eq_true cc1]
    exact ct_iret C_0 (hP.sub [0, 1] rfl) (hD.sub [0, 1] (by decide) rfl) hS (Nat.le_of_ble_eq_true rfl) (Nat.le_of_ble_eq_true rfl) dX8_at_22 (⟨eqr, rfl⟩)
  · skip
    refine lv_iload_n hx_ hb_ dX8_at_4 rfl (lv_at hl 1 rfl) ?_
    refine lv_aload_n hx_ hb_ dX8_at_5 rfl (lv_at hl 0 rfl) ?_
    refine va_get (D := D) (ci := 8) (v := .int (nI rs)) (C := RX8) (T := TX8) (N := 32) hx_ hb_ hts_ inM_X8 hown_ hK.1 hP 0 rfl rfl 4 (by decide) (hts_ _ (List.mem_cons_of_mem _ wa_f_X8_94)) (fun _ h9 => h9) rfl dX8_at_6 ?_
    refine lv_icmp_ge (tgt := 21) hx_ hb_ dX8_at_9 (by decide) (fun cc2 => ?_) (fun cc2 => ?_)
    · skip
      refine lv_iconst (v := (-1)) hx_ hb_ dX8_at_21 (by decide) ?_
      have eqr : ((-1) : Int32) = mt_get rs rf i := by simp [mt_get, eq_false cc1, eq_true cc2]
      exact ct_iret C_0 (hP.sub [0, 1] rfl) (hD.sub [0, 1] (by decide) rfl) hS (Nat.le_of_ble_eq_true rfl) (Nat.le_of_ble_eq_true rfl) dX8_at_22 (⟨eqr, rfl⟩)
    · skip
      refine lv_aload_n hx_ hb_ dX8_at_12 rfl (lv_at hl 0 rfl) ?_
      refine va_get (D := D) (ci := 8) (v := .ref (q 3)) (C := RX8) (T := TX8) (N := 32) hx_ hb_ hts_ inM_X8 hown_ hK.1 hP 0 rfl rfl 3 (by decide) (hts_ _ (List.mem_cons_of_mem _ wa_f_X8_13)) (fun _ h9 => h9) rfl dX8_at_13 ?_
      refine lv_iload_n hx_ hb_ dX8_at_16 rfl (lv_at hl 1 rfl) ?_
      refine va_iald hx_ hb_ hK.1 hP 1 0 rfl rfl (mm_in cc1 cc2 hrs (by decide)) dX8_at_17 ?_
      refine lv_goto (tgt := 22) hx_ hb_ dX8_at_18 (by decide) ?_
      have eqr : (rf (Int32.toNatClampNeg i) : Int32) = mt_get rs rf i := by simp [mt_get, eq_false cc1, eq_false cc2]
      exact ct_iret C_0 (hP.sub [0, 1] rfl) (hD.sub [0, 1] (by decide) rfl) hS (Nat.le_of_ble_eq_true rfl) (Nat.le_of_ble_eq_true rfl) dX8_at_22 (⟨eqr, rfl⟩)
abbrev po_X8_feed (k : Nat → ClassId) (q : Nat → Nat) (v : Int32) (ms : Nat) (rs : Nat) (bh : Int32) (tz : Nat) (fa : Int32) (mz : Nat) (wn : Nat) (tk : Nat) (mb : Nat → Int32) (w : Int64) (n : Int32) : Int32 → va_W → Prop := fun ans_ w1 => ans_ = mf_r w n (ms, mb) ∧ w1 = [(q 0, .inr (8, [.int v, .ref (q 1), .int (nI ((mf_t w n (ms, mb)).1)), .ref (q 3), .int (nI rs), .ref (q 5), .ref (q 6), .int bh, .ref (q 8), .ref (q 9), .ref (q 10), .ref (q 11), .ref (q 12), .int (nI tz), .int fa, .ref (q 15), .int (nI mz), .ref (q 17), .ref (q 18), .ref (q 19), .ref (q 20), .ref (q 21), .ref (q 22), .ref (q 23), .ref (q 24), .int (nI wn), .ref (q 26), .ref (q 27), .int (nI tk), .ref (q 29), .ref (q 30), .ref (q 31)])), (q 1, .inl (k 3, 3000, .inl ((mf_t w n (ms, mb)).2)))]
set_option maxHeartbeats 4000000 in
set_option maxRecDepth 100000 in
/-- feed -/
theorem k_X8_feed (l : Launch) (D : va_G) (k : Nat → ClassId) (q : Nat → Nat) (v : Int32) (ms : Nat) (rs : Nat) (bh : Int32) (tz : Nat) (fa : Int32) (mz : Nat) (wn : Nat) (tk : Nat) (mb : Nat → Int32) (w : Int64) (n : Int32) (hms : ms ≤ 3000) : ct_i l D (TY k) yX8_feed wsX8_feed ({ frames := 0, cells := 0, slots := 0, locals := 0 } : Room) [.ref (q 0), .long w, .int n] [(q 0, .inr (8, [.int v, .ref (q 1), .int (nI ms), .ref (q 3), .int (nI rs), .ref (q 5), .ref (q 6), .int bh, .ref (q 8), .ref (q 9), .ref (q 10), .ref (q 11), .ref (q 12), .int (nI tz), .int fa, .ref (q 15), .int (nI mz), .ref (q 17), .ref (q 18), .ref (q 19), .ref (q 20), .ref (q 21), .ref (q 22), .ref (q 23), .ref (q 24), .int (nI wn), .ref (q 26), .ref (q 27), .int (nI tk), .ref (q 29), .ref (q 30), .ref (q 31)])), (q 1, .inl (k 3, 3000, .inl mb))] (po_X8_feed k q v ms rs bh tz fa mz wn tk mb w n) := by
  refine ct_i_of (cc := cX8_feed) (nL := 5) (rt := (some .int)) (by decide) rfl (Nat.le_of_ble_eq_true rfl) ?_
  intro p_ e_ s_0 m_0 below_ meth_ c_0 A_0 C_0 hP hK hD hS hA ls hl
  obtain ⟨hx_, hb_, hml_, hr_, hown_, hlk_, hnm_, hts_⟩ := id C_0
  have hl : lv_has ls 5 [(0, .ref (q 0)), (1, .long w), (3, .int n)] := hl
  refine lv_iload_n hx_ hb_ dX8_feed_0 rfl (lv_at hl 2 rfl) ?_
  refine lv_if_lt (tgt := 10) hx_ hb_ dX8_feed_1 (by decide) (fun cc1 => ?_) (fun cc1 => ?_)
  · skip
    refine lv_bipush (v := (-2)) hx_ hb_ dX8_feed_10 (by decide) ?_
    have eq1 : (nI ms : Int32) = nI ((mf_t w n (ms, mb)).1) := by simp [mf_r, mf_t, mf_ok, eq_true cc1]
    have eq2 : (mb : Nat → Int32) = (mf_t w n (ms, mb)).2 := by simp [mf_r, mf_t, mf_ok, eq_true cc1]
    have eqr : ((-2) : Int32) = mf_r w n (ms, mb) := by simp [mf_r, mf_t, mf_ok, eq_true cc1]
    exact ct_iret C_0 (hP.sub [0, 1] rfl) (hD.sub [0, 1] (by decide) rfl) hS (Nat.le_of_ble_eq_true rfl) (Nat.le_of_ble_eq_true rfl) dX8_feed_12 (⟨eqr, congr (congrArg (fun (z1 : Int32) (z2 : Nat → Int32) => ([(q 0, .inr (8, [.int v, .ref (q 1), .int z1, .ref (q 3), .int (nI rs), .ref (q 5), .ref (q 6), .int bh, .ref (q 8), .ref (q 9), .ref (q 10), .ref (q 11), .ref (q 12), .int (nI tz), .int fa, .ref (q 15), .int (nI mz), .ref (q 17), .ref (q 18), .ref (q 19), .ref (q 20), .ref (q 21), .ref (q 22), .ref (q 23), .ref (q 24), .int (nI wn), .ref (q 26), .ref (q 27), .int (nI tk), .ref (q 29), .ref (q 30), .ref (q 31)])), (q 1, .inl (k 3, 3000, .inl z2))] : va_W)) eq1) eq2⟩)
  · skip
    refine lv_iload_n hx_ hb_ dX8_feed_4 rfl (lv_at hl 2 rfl) ?_
    refine lv_bipush (v := 8) hx_ hb_ dX8_feed_5 (by decide) ?_
    refine lv_icmp_le (tgt := 13) hx_ hb_ dX8_feed_7 (by decide) (fun cc2 => ?_) (fun cc2 => ?_)
    · skip
      refine lv_aload_n hx_ hb_ dX8_feed_13 rfl (lv_at hl 0 rfl) ?_
      refine va_get (D := D) (ci := 8) (v := .int (nI ms)) (C := RX8) (T := TX8) (N := 32) hx_ hb_ hts_ inM_X8 hown_ hK.1 hP 0 rfl rfl 2 (by decide) (hts_ _ (List.mem_cons_of_mem _ wa_f_X8_91)) (fun _ h9 => h9) rfl dX8_feed_14 ?_
      refine lv_iload_n hx_ hb_ dX8_feed_17 rfl (lv_at hl 2 rfl) ?_
      refine lv_iadd hx_ hb_ dX8_feed_18 ?_
      refine lv_sipush (v := 3000) hx_ hb_ dX8_feed_19 (by decide) ?_
      refine lv_icmp_le (tgt := 28) hx_ hb_ dX8_feed_22 (by decide) (fun cc3 => ?_) (fun cc3 => ?_)
      · skip
        obtain ⟨n0, hn0, en⟩ := nI_of2 (M := 8) (n := 8) (by decide) cc1 cc2
        have hroom := mf_room (cap := 3000) en (by omega) hn0 (by decide) cc3
        refine lv_iload_n hx_ hb_ dX8_feed_28 rfl (lv_at hl 2 rfl) ?_
        refine lv_iconst (v := 1) hx_ hb_ dX8_feed_29 (by decide) ?_
        refine lv_isub hx_ hb_ dX8_feed_30 ?_
        refine lv_ti (y := nI n0 - 1) (by rw [en]) ?_
        refine lv_istore (lv' := [(4, .int (nI n0 - 1)), (0, .ref (q 0)), (1, .long w), (3, .int n)]) hx_ hb_ dX8_feed_31 hl (by decide) rfl (fun ls hl => ?_)
        have lp33 : ∀ (fu : Nat) (kk : Nat) (x4 : Int32) (t1 : TT) (H : Heap) (locs : List Loc) (ls : Array Slot), kk < fu → (kk ≤ 8) → (x4 = nI kk - 1) → (t1.1 + kk ≤ 3000) → (mf_all w n0 (ms, mb) = mf_all w kk t1) → va_P D vwCl [(q 0, .inr (8, [.int v, .ref (q 1), .int (nI t1.1), .ref (q 3), .int (nI rs), .ref (q 5), .ref (q 6), .int bh, .ref (q 8), .ref (q 9), .ref (q 10), .ref (q 11), .ref (q 12), .int (nI tz), .int fa, .ref (q 15), .int (nI mz), .ref (q 17), .ref (q 18), .ref (q 19), .ref (q 20), .ref (q 21), .ref (q 22), .ref (q 23), .ref (q 24), .int (nI wn), .ref (q 26), .ref (q 27), .int (nI tk), .ref (q 29), .ref (q 30), .ref (q 31)])), (q 1, .inl (k 3, 3000, .inl t1.2))] H → va_D A_0 [(q 0, .inr (8, [.int v, .ref (q 1), .int (nI t1.1), .ref (q 3), .int (nI rs), .ref (q 5), .ref (q 6), .int bh, .ref (q 8), .ref (q 9), .ref (q 10), .ref (q 11), .ref (q 12), .int (nI tz), .int fa, .ref (q 15), .int (nI mz), .ref (q 17), .ref (q 18), .ref (q 19), .ref (q 20), .ref (q 21), .ref (q 22), .ref (q 23), .ref (q 24), .int (nI wn), .ref (q 26), .ref (q 27), .int (nI tk), .ref (q 29), .ref (q 30), .ref (q 31)])), (q 1, .inl (k 3, 3000, .inl t1.2))] → va_S A_0 s_0.heap H locs → lv_has ls 5 [(0, .ref (q 0)), (1, .long w), (3, .int n), (4, .int x4)] → W p_ l e_ (headSpec wsX8_feed ({ frames := 0, cells := 0, slots := 0, locals := 0 } : Room)).room s_0 m_0 (([.ref (q 0), .long w, .int n] : List Value).toArray) below_ meth_ c_0 H locs 0 0 (ct_Zi below_ D (po_X8_feed k q v ms rs bh tz fa mz wn tk mb w n) A_0 (([.ref (q 0), .long w, .int n] : List Value).toArray) s_0 0 0) (F0 m_0 33 ls []) := by
          intro fu
          induction fu with
          | zero => intro kk x4 t1 H locs ls hm_; exact absurd hm_ (Nat.not_lt_zero _)
          | succ fu ih33 =>
            intro kk x4 t1 H locs ls hm_ hk e4 ht1 hez hP hD hS hl
            refine lv_iload hx_ hb_ dX8_feed_33 (lv_at hl 3 rfl) ?_
            refine lv_if_lt (tgt := 72) hx_ hb_ dX8_feed_35 (by decide) (fun cc4 => ?_) (fun cc4 => ?_)
            · skip
              have hk0 : kk = 0 := dec_neg (by omega) (by rw [← e4]; exact cc4)
              refine lv_aload_n hx_ hb_ dX8_feed_72 rfl (lv_at hl 0 rfl) ?_
              refine va_get (D := D) (ci := 8) (v := .int (nI t1.1)) (C := RX8) (T := TX8) (N := 32) hx_ hb_ hts_ inM_X8 hown_ hK.1 hP 0 rfl rfl 2 (by decide) (hts_ _ (List.mem_cons_of_mem _ wa_f_X8_91)) (fun _ h9 => h9) rfl dX8_feed_73 ?_
              have eq1 : (nI t1.1 : Int32) = nI ((mf_t w n (ms, mb)).1) := by simp only [mf_r, mf_t, mf_ok, if_neg cc1, if_pos cc2, if_pos cc3, if_true]; rw [show n.toNatClampNeg = n0 by rw [en]; exact nI_clamp (by omega), hez, hk0]; rfl
              have eq2 : (t1.2 : Nat → Int32) = (mf_t w n (ms, mb)).2 := by simp only [mf_r, mf_t, mf_ok, if_neg cc1, if_pos cc2, if_pos cc3, if_true]; rw [show n.toNatClampNeg = n0 by rw [en]; exact nI_clamp (by omega), hez, hk0]; rfl
              have eqr : (nI t1.1 : Int32) = mf_r w n (ms, mb) := by simp only [mf_r, mf_t, mf_ok, if_neg cc1, if_pos cc2, if_pos cc3, if_true]; rw [show n.toNatClampNeg = n0 by rw [en]; exact nI_clamp (by omega), hez, hk0]; rfl
              exact ct_iret C_0 (hP.sub [0, 1] rfl) (hD.sub [0, 1] (by decide) rfl) hS (Nat.le_of_ble_eq_true rfl) (Nat.le_of_ble_eq_true rfl) dX8_feed_76 (⟨eqr, congr (congrArg (fun (z1 : Int32) (z2 : Nat → Int32) => ([(q 0, .inr (8, [.int v, .ref (q 1), .int z1, .ref (q 3), .int (nI rs), .ref (q 5), .ref (q 6), .int bh, .ref (q 8), .ref (q 9), .ref (q 10), .ref (q 11), .ref (q 12), .int (nI tz), .int fa, .ref (q 15), .int (nI mz), .ref (q 17), .ref (q 18), .ref (q 19), .ref (q 20), .ref (q 21), .ref (q 22), .ref (q 23), .ref (q 24), .int (nI wn), .ref (q 26), .ref (q 27), .int (nI tk), .ref (q 29), .ref (q 30), .ref (q 31)])), (q 1, .inl (k 3, 3000, .inl z2))] : va_W)) eq1) eq2⟩)
            · skip
              obtain ⟨k1, ek⟩ : ∃ k1, kk = k1 + 1 := dec_pos (by rw [← e4]; exact cc4)
              refine lv_aload_n hx_ hb_ dX8_feed_38 rfl (lv_at hl 0 rfl) ?_
              refine va_get (D := D) (ci := 8) (v := .ref (q 1)) (C := RX8) (T := TX8) (N := 32) hx_ hb_ hts_ inM_X8 hown_ hK.1 hP 0 rfl rfl 1 (by decide) (hts_ _ (List.mem_cons_of_mem _ wa_f_X8_7)) (fun _ h9 => h9) rfl dX8_feed_39 ?_
              refine lv_aload_n hx_ hb_ dX8_feed_42 rfl (lv_at hl 0 rfl) ?_
              refine va_get (D := D) (ci := 8) (v := .int (nI t1.1)) (C := RX8) (T := TX8) (N := 32) hx_ hb_ hts_ inM_X8 hown_ hK.1 hP 0 rfl rfl 2 (by decide) (hts_ _ (List.mem_cons_of_mem _ wa_f_X8_91)) (fun _ h9 => h9) rfl dX8_feed_43 ?_
              refine lv_lload_n hx_ hb_ dX8_feed_46 rfl (lv_at hl 1 rfl) ?_
              refine lv_bipush (v := 8) hx_ hb_ dX8_feed_47 (by decide) ?_
              refine lv_iload hx_ hb_ dX8_feed_49 (lv_at hl 3 rfl) ?_
              refine lv_ti (y := nI k1) (by rw [e4, ek]; exact nI_pred k1) ?_
              refine lv_imul hx_ hb_ dX8_feed_51 ?_
              refine lv_ti (y := nI (8 * k1)) (pk_mul _ _) ?_
              refine lv_lushr (v := (Int64.toUInt64 w >>> ((Int32.toInt64 (nI (8 * k1))).toUInt64 &&& Int64.toUInt64 63)).toInt64) hx_ hb_ dX8_feed_52 rfl ?_
              refine lv_l2i (v := Int64.toInt32 ((Int64.toUInt64 w >>> ((Int32.toInt64 (nI (8 * k1))).toUInt64 &&& Int64.toUInt64 63)).toInt64)) hx_ hb_ dX8_feed_53 rfl ?_
              refine lv_i2b (v := (Int32.toInt8 (Int64.toInt32 ((Int64.toUInt64 w >>> ((Int32.toInt64 (nI (8 * k1))).toUInt64 &&& Int64.toUInt64 63)).toInt64))).toInt32) hx_ hb_ dX8_feed_54 rfl ?_
              refine lv_ti (y := mf_byte w k1) (rfl) ?_
              refine va_bast hx_ hb_ hK.1 hP hD hS 1 3 rfl rfl (vp_in_nI (by first | omega | assumption) (by decide)) dX8_feed_55 (fun H locs hP hD hS => ?_)
              rw [show vp_nar .byte (mf_byte w k1) = (mf_byte w k1) from pk_vb _] at hP hD
              rw [show Int32.toNatClampNeg (nI t1.1) = t1.1 from nI_clamp (by first | omega | assumption)] at hP hD
              have hP : va_P D vwCl [(q 0, .inr (8, [.int v, .ref (q 1), .int (nI t1.1), .ref (q 3), .int (nI rs), .ref (q 5), .ref (q 6), .int bh, .ref (q 8), .ref (q 9), .ref (q 10), .ref (q 11), .ref (q 12), .int (nI tz), .int fa, .ref (q 15), .int (nI mz), .ref (q 17), .ref (q 18), .ref (q 19), .ref (q 20), .ref (q 21), .ref (q 22), .ref (q 23), .ref (q 24), .int (nI wn), .ref (q 26), .ref (q 27), .int (nI tk), .ref (q 29), .ref (q 30), .ref (q 31)])), (q 1, .inl (k 3, 3000, .inl (upd t1.2 t1.1 (mf_byte w k1))))] H := hP
              have hD : va_D A_0 [(q 0, .inr (8, [.int v, .ref (q 1), .int (nI t1.1), .ref (q 3), .int (nI rs), .ref (q 5), .ref (q 6), .int bh, .ref (q 8), .ref (q 9), .ref (q 10), .ref (q 11), .ref (q 12), .int (nI tz), .int fa, .ref (q 15), .int (nI mz), .ref (q 17), .ref (q 18), .ref (q 19), .ref (q 20), .ref (q 21), .ref (q 22), .ref (q 23), .ref (q 24), .int (nI wn), .ref (q 26), .ref (q 27), .int (nI tk), .ref (q 29), .ref (q 30), .ref (q 31)])), (q 1, .inl (k 3, 3000, .inl (upd t1.2 t1.1 (mf_byte w k1))))] := hD
              refine lv_aload_n hx_ hb_ dX8_feed_56 rfl (lv_at hl 0 rfl) ?_
              refine lv_dup hx_ hb_ dX8_feed_57 rfl ?_
              refine va_get (D := D) (ci := 8) (v := .int (nI t1.1)) (C := RX8) (T := TX8) (N := 32) hx_ hb_ hts_ inM_X8 hown_ hK.1 hP 0 rfl rfl 2 (by decide) (hts_ _ (List.mem_cons_of_mem _ wa_f_X8_91)) (fun _ h9 => h9) rfl dX8_feed_58 ?_
              refine lv_iconst (v := 1) hx_ hb_ dX8_feed_61 (by decide) ?_
              refine lv_iadd hx_ hb_ dX8_feed_62 ?_
              refine lv_ti (y := nI (t1.1 + 1)) (nI_add _ _) ?_
              refine va_put (D := D) (ci := 8) (v := .int (nI (t1.1 + 1))) (ty := .int) (C := RX8) (T := TX8) (N := 32) hx_ hb_ hts_ inM_X8 tyX8 tyX8_ok nmX8 hown_ hK.1 hP hD hS 0 rfl rfl 2 (by decide) (hts_ _ (List.mem_cons_of_mem _ wa_f_X8_91)) (fun _ h9 => h9) rfl (by decide +kernel) rfl rfl (Nat.le_of_ble_eq_true rfl) dX8_feed_63 (fun H locs hP hD hS => ?_)
              have hP : va_P D vwCl [(q 0, .inr (8, [.int v, .ref (q 1), .int (nI (t1.1 + 1)), .ref (q 3), .int (nI rs), .ref (q 5), .ref (q 6), .int bh, .ref (q 8), .ref (q 9), .ref (q 10), .ref (q 11), .ref (q 12), .int (nI tz), .int fa, .ref (q 15), .int (nI mz), .ref (q 17), .ref (q 18), .ref (q 19), .ref (q 20), .ref (q 21), .ref (q 22), .ref (q 23), .ref (q 24), .int (nI wn), .ref (q 26), .ref (q 27), .int (nI tk), .ref (q 29), .ref (q 30), .ref (q 31)])), (q 1, .inl (k 3, 3000, .inl (upd t1.2 t1.1 (mf_byte w k1))))] H := hP
              have hD : va_D A_0 [(q 0, .inr (8, [.int v, .ref (q 1), .int (nI (t1.1 + 1)), .ref (q 3), .int (nI rs), .ref (q 5), .ref (q 6), .int bh, .ref (q 8), .ref (q 9), .ref (q 10), .ref (q 11), .ref (q 12), .int (nI tz), .int fa, .ref (q 15), .int (nI mz), .ref (q 17), .ref (q 18), .ref (q 19), .ref (q 20), .ref (q 21), .ref (q 22), .ref (q 23), .ref (q 24), .int (nI wn), .ref (q 26), .ref (q 27), .int (nI tk), .ref (q 29), .ref (q 30), .ref (q 31)])), (q 1, .inl (k 3, 3000, .inl (upd t1.2 t1.1 (mf_byte w k1))))] := hD
              refine lv_iinc (v := nI k1 - 1) (lv' := [(4, .int (nI k1 - 1)), (0, .ref (q 0)), (1, .long w), (3, .int n)]) hx_ hb_ dX8_feed_66 hl (k := 3) rfl (by rw [e4, ek]; exact dec_iinc k1) (by decide) rfl (fun ls hl => ?_)
              refine lv_goto (tgt := 33) hx_ hb_ dX8_feed_69 (by decide) ?_
              exact ih33 k1 (nI k1 - 1) (t1.1 + 1, upd t1.2 t1.1 (mf_byte w k1)) _ _ _ (by first | omega | assumption) (by first | omega | assumption) (by rfl) (by show t1.1 + 1 + k1 ≤ 3000; omega) (by rw [hez, ek]; rfl) (hP.sub [0, 1] rfl) (hD.sub [0, 1] (by decide) rfl) hS (lv_sub hl [1, 2, 3, 0] rfl)
        exact lp33 (n0 + 1) n0 (nI n0 - 1) (ms, mb) _ _ _ (Nat.lt_succ_self _) (by first | omega | assumption) (by rfl) (by exact hroom) (by rfl) (hP.sub [0, 1] rfl) (hD.sub [0, 1] (by decide) rfl) hS (lv_sub hl [1, 2, 3, 0] rfl)
      · skip
        refine lv_bipush (v := (-4)) hx_ hb_ dX8_feed_25 (by decide) ?_
        have eq1 : (nI ms : Int32) = nI ((mf_t w n (ms, mb)).1) := by simp [mf_r, mf_t, mf_ok, eq_false cc1, eq_true cc2, eq_false cc3]
        have eq2 : (mb : Nat → Int32) = (mf_t w n (ms, mb)).2 := by simp [mf_r, mf_t, mf_ok, eq_false cc1, eq_true cc2, eq_false cc3]
        have eqr : ((-4) : Int32) = mf_r w n (ms, mb) := by simp [mf_r, mf_t, mf_ok, eq_false cc1, eq_true cc2, eq_false cc3]
        exact ct_iret C_0 (hP.sub [0, 1] rfl) (hD.sub [0, 1] (by decide) rfl) hS (Nat.le_of_ble_eq_true rfl) (Nat.le_of_ble_eq_true rfl) dX8_feed_27 (⟨eqr, congr (congrArg (fun (z1 : Int32) (z2 : Nat → Int32) => ([(q 0, .inr (8, [.int v, .ref (q 1), .int z1, .ref (q 3), .int (nI rs), .ref (q 5), .ref (q 6), .int bh, .ref (q 8), .ref (q 9), .ref (q 10), .ref (q 11), .ref (q 12), .int (nI tz), .int fa, .ref (q 15), .int (nI mz), .ref (q 17), .ref (q 18), .ref (q 19), .ref (q 20), .ref (q 21), .ref (q 22), .ref (q 23), .ref (q 24), .int (nI wn), .ref (q 26), .ref (q 27), .int (nI tk), .ref (q 29), .ref (q 30), .ref (q 31)])), (q 1, .inl (k 3, 3000, .inl z2))] : va_W)) eq1) eq2⟩)
    · skip
      refine lv_bipush (v := (-2)) hx_ hb_ dX8_feed_10 (by decide) ?_
      have eq1 : (nI ms : Int32) = nI ((mf_t w n (ms, mb)).1) := by simp [mf_r, mf_t, mf_ok, eq_false cc1, eq_false cc2]
      have eq2 : (mb : Nat → Int32) = (mf_t w n (ms, mb)).2 := by simp [mf_r, mf_t, mf_ok, eq_false cc1, eq_false cc2]
      have eqr : ((-2) : Int32) = mf_r w n (ms, mb) := by simp [mf_r, mf_t, mf_ok, eq_false cc1, eq_false cc2]
      exact ct_iret C_0 (hP.sub [0, 1] rfl) (hD.sub [0, 1] (by decide) rfl) hS (Nat.le_of_ble_eq_true rfl) (Nat.le_of_ble_eq_true rfl) dX8_feed_12 (⟨eqr, congr (congrArg (fun (z1 : Int32) (z2 : Nat → Int32) => ([(q 0, .inr (8, [.int v, .ref (q 1), .int z1, .ref (q 3), .int (nI rs), .ref (q 5), .ref (q 6), .int bh, .ref (q 8), .ref (q 9), .ref (q 10), .ref (q 11), .ref (q 12), .int (nI tz), .int fa, .ref (q 15), .int (nI mz), .ref (q 17), .ref (q 18), .ref (q 19), .ref (q 20), .ref (q 21), .ref (q 22), .ref (q 23), .ref (q 24), .int (nI wn), .ref (q 26), .ref (q 27), .int (nI tk), .ref (q 29), .ref (q 30), .ref (q 31)])), (q 1, .inl (k 3, 3000, .inl z2))] : va_W)) eq1) eq2⟩)
abbrev po_X8_type (k : Nat → ClassId) (q : Nat → Nat) (v : Int32) (ms : Nat) (rs : Nat) (bh : Int32) (tz : Nat) (fa : Int32) (mz : Nat) (wn : Nat) (tk : Nat) (rf : Nat → Int32) (w : Int64) (n : Int32) : Int32 → va_W → Prop := fun ans_ w1 => ans_ = my_r w n (rs, rf) ∧ w1 = [(q 0, .inr (8, [.int v, .ref (q 1), .int (nI ms), .ref (q 3), .int (nI ((my_t w n (rs, rf)).1)), .ref (q 5), .ref (q 6), .int bh, .ref (q 8), .ref (q 9), .ref (q 10), .ref (q 11), .ref (q 12), .int (nI tz), .int fa, .ref (q 15), .int (nI mz), .ref (q 17), .ref (q 18), .ref (q 19), .ref (q 20), .ref (q 21), .ref (q 22), .ref (q 23), .ref (q 24), .int (nI wn), .ref (q 26), .ref (q 27), .int (nI tk), .ref (q 29), .ref (q 30), .ref (q 31)])), (q 3, .inl (k 0, 1000, .inl ((my_t w n (rs, rf)).2)))]
set_option maxHeartbeats 4000000 in
set_option maxRecDepth 100000 in
/-- type -/
theorem k_X8_type (l : Launch) (D : va_G) (k : Nat → ClassId) (q : Nat → Nat) (v : Int32) (ms : Nat) (rs : Nat) (bh : Int32) (tz : Nat) (fa : Int32) (mz : Nat) (wn : Nat) (tk : Nat) (rf : Nat → Int32) (w : Int64) (n : Int32) (hrs : rs ≤ 1000) : ct_i l D (TY k) yX8_type wsX8_type ({ frames := 0, cells := 0, slots := 0, locals := 0 } : Room) [.ref (q 0), .long w, .int n] [(q 0, .inr (8, [.int v, .ref (q 1), .int (nI ms), .ref (q 3), .int (nI rs), .ref (q 5), .ref (q 6), .int bh, .ref (q 8), .ref (q 9), .ref (q 10), .ref (q 11), .ref (q 12), .int (nI tz), .int fa, .ref (q 15), .int (nI mz), .ref (q 17), .ref (q 18), .ref (q 19), .ref (q 20), .ref (q 21), .ref (q 22), .ref (q 23), .ref (q 24), .int (nI wn), .ref (q 26), .ref (q 27), .int (nI tk), .ref (q 29), .ref (q 30), .ref (q 31)])), (q 3, .inl (k 0, 1000, .inl rf))] (po_X8_type k q v ms rs bh tz fa mz wn tk rf w n) := by
  refine ct_i_of (cc := cX8_type) (nL := 5) (rt := (some .int)) (by decide) rfl (Nat.le_of_ble_eq_true rfl) ?_
  intro p_ e_ s_0 m_0 below_ meth_ c_0 A_0 C_0 hP hK hD hS hA ls hl
  obtain ⟨hx_, hb_, hml_, hr_, hown_, hlk_, hnm_, hts_⟩ := id C_0
  have hl : lv_has ls 5 [(0, .ref (q 0)), (1, .long w), (3, .int n)] := hl
  refine lv_iload_n hx_ hb_ dX8_type_0 rfl (lv_at hl 2 rfl) ?_
  refine lv_if_lt (tgt := 10) hx_ hb_ dX8_type_1 (by decide) (fun cc1 => ?_) (fun cc1 => ?_)
  · skip
    refine lv_bipush (v := (-2)) hx_ hb_ dX8_type_10 (by decide) ?_
    have eq1 : (nI rs : Int32) = nI ((my_t w n (rs, rf)).1) := by simp [my_r, my_t, mf_ok, eq_true cc1]
    have eq2 : (rf : Nat → Int32) = (my_t w n (rs, rf)).2 := by simp [my_r, my_t, mf_ok, eq_true cc1]
    have eqr : ((-2) : Int32) = my_r w n (rs, rf) := by simp [my_r, my_t, mf_ok, eq_true cc1]
    exact ct_iret C_0 (hP.sub [0, 1] rfl) (hD.sub [0, 1] (by decide) rfl) hS (Nat.le_of_ble_eq_true rfl) (Nat.le_of_ble_eq_true rfl) dX8_type_12 (⟨eqr, congr (congrArg (fun (z1 : Int32) (z2 : Nat → Int32) => ([(q 0, .inr (8, [.int v, .ref (q 1), .int (nI ms), .ref (q 3), .int z1, .ref (q 5), .ref (q 6), .int bh, .ref (q 8), .ref (q 9), .ref (q 10), .ref (q 11), .ref (q 12), .int (nI tz), .int fa, .ref (q 15), .int (nI mz), .ref (q 17), .ref (q 18), .ref (q 19), .ref (q 20), .ref (q 21), .ref (q 22), .ref (q 23), .ref (q 24), .int (nI wn), .ref (q 26), .ref (q 27), .int (nI tk), .ref (q 29), .ref (q 30), .ref (q 31)])), (q 3, .inl (k 0, 1000, .inl z2))] : va_W)) eq1) eq2⟩)
  · skip
    refine lv_iload_n hx_ hb_ dX8_type_4 rfl (lv_at hl 2 rfl) ?_
    refine lv_bipush (v := 8) hx_ hb_ dX8_type_5 (by decide) ?_
    refine lv_icmp_le (tgt := 13) hx_ hb_ dX8_type_7 (by decide) (fun cc2 => ?_) (fun cc2 => ?_)
    · skip
      refine lv_aload_n hx_ hb_ dX8_type_13 rfl (lv_at hl 0 rfl) ?_
      refine va_get (D := D) (ci := 8) (v := .int (nI rs)) (C := RX8) (T := TX8) (N := 32) hx_ hb_ hts_ inM_X8 hown_ hK.1 hP 0 rfl rfl 4 (by decide) (hts_ _ (List.mem_cons_of_mem _ wa_f_X8_94)) (fun _ h9 => h9) rfl dX8_type_14 ?_
      refine lv_iload_n hx_ hb_ dX8_type_17 rfl (lv_at hl 2 rfl) ?_
      refine lv_iadd hx_ hb_ dX8_type_18 ?_
      refine lv_sipush (v := 1000) hx_ hb_ dX8_type_19 (by decide) ?_
      refine lv_icmp_le (tgt := 28) hx_ hb_ dX8_type_22 (by decide) (fun cc3 => ?_) (fun cc3 => ?_)
      · skip
        obtain ⟨n0, hn0, en⟩ := nI_of2 (M := 8) (n := 8) (by decide) cc1 cc2
        have hroom := mf_room (cap := 1000) en (by omega) hn0 (by decide) cc3
        refine lv_iload_n hx_ hb_ dX8_type_28 rfl (lv_at hl 2 rfl) ?_
        refine lv_iconst (v := 1) hx_ hb_ dX8_type_29 (by decide) ?_
        refine lv_isub hx_ hb_ dX8_type_30 ?_
        refine lv_ti (y := nI n0 - 1) (by rw [en]) ?_
        refine lv_istore (lv' := [(4, .int (nI n0 - 1)), (0, .ref (q 0)), (1, .long w), (3, .int n)]) hx_ hb_ dX8_type_31 hl (by decide) rfl (fun ls hl => ?_)
        have lp33 : ∀ (fu : Nat) (kk : Nat) (x4 : Int32) (t1 : TT) (H : Heap) (locs : List Loc) (ls : Array Slot), kk < fu → (kk ≤ 8) → (x4 = nI kk - 1) → (t1.1 + kk ≤ 1000) → (my_all w n0 (rs, rf) = my_all w kk t1) → va_P D vwCl [(q 0, .inr (8, [.int v, .ref (q 1), .int (nI ms), .ref (q 3), .int (nI t1.1), .ref (q 5), .ref (q 6), .int bh, .ref (q 8), .ref (q 9), .ref (q 10), .ref (q 11), .ref (q 12), .int (nI tz), .int fa, .ref (q 15), .int (nI mz), .ref (q 17), .ref (q 18), .ref (q 19), .ref (q 20), .ref (q 21), .ref (q 22), .ref (q 23), .ref (q 24), .int (nI wn), .ref (q 26), .ref (q 27), .int (nI tk), .ref (q 29), .ref (q 30), .ref (q 31)])), (q 3, .inl (k 0, 1000, .inl t1.2))] H → va_D A_0 [(q 0, .inr (8, [.int v, .ref (q 1), .int (nI ms), .ref (q 3), .int (nI t1.1), .ref (q 5), .ref (q 6), .int bh, .ref (q 8), .ref (q 9), .ref (q 10), .ref (q 11), .ref (q 12), .int (nI tz), .int fa, .ref (q 15), .int (nI mz), .ref (q 17), .ref (q 18), .ref (q 19), .ref (q 20), .ref (q 21), .ref (q 22), .ref (q 23), .ref (q 24), .int (nI wn), .ref (q 26), .ref (q 27), .int (nI tk), .ref (q 29), .ref (q 30), .ref (q 31)])), (q 3, .inl (k 0, 1000, .inl t1.2))] → va_S A_0 s_0.heap H locs → lv_has ls 5 [(0, .ref (q 0)), (1, .long w), (3, .int n), (4, .int x4)] → W p_ l e_ (headSpec wsX8_type ({ frames := 0, cells := 0, slots := 0, locals := 0 } : Room)).room s_0 m_0 (([.ref (q 0), .long w, .int n] : List Value).toArray) below_ meth_ c_0 H locs 0 0 (ct_Zi below_ D (po_X8_type k q v ms rs bh tz fa mz wn tk rf w n) A_0 (([.ref (q 0), .long w, .int n] : List Value).toArray) s_0 0 0) (F0 m_0 33 ls []) := by
          intro fu
          induction fu with
          | zero => intro kk x4 t1 H locs ls hm_; exact absurd hm_ (Nat.not_lt_zero _)
          | succ fu ih33 =>
            intro kk x4 t1 H locs ls hm_ hk e4 ht1 hez hP hD hS hl
            refine lv_iload hx_ hb_ dX8_type_33 (lv_at hl 3 rfl) ?_
            refine lv_if_lt (tgt := 75) hx_ hb_ dX8_type_35 (by decide) (fun cc4 => ?_) (fun cc4 => ?_)
            · skip
              have hk0 : kk = 0 := dec_neg (by omega) (by rw [← e4]; exact cc4)
              refine lv_aload_n hx_ hb_ dX8_type_75 rfl (lv_at hl 0 rfl) ?_
              refine va_get (D := D) (ci := 8) (v := .int (nI t1.1)) (C := RX8) (T := TX8) (N := 32) hx_ hb_ hts_ inM_X8 hown_ hK.1 hP 0 rfl rfl 4 (by decide) (hts_ _ (List.mem_cons_of_mem _ wa_f_X8_94)) (fun _ h9 => h9) rfl dX8_type_76 ?_
              have eq1 : (nI t1.1 : Int32) = nI ((my_t w n (rs, rf)).1) := by simp only [my_r, my_t, mf_ok, if_neg cc1, if_pos cc2, if_pos cc3, if_true]; rw [show n.toNatClampNeg = n0 by rw [en]; exact nI_clamp (by omega), hez, hk0]; rfl
              have eq2 : (t1.2 : Nat → Int32) = (my_t w n (rs, rf)).2 := by simp only [my_r, my_t, mf_ok, if_neg cc1, if_pos cc2, if_pos cc3, if_true]; rw [show n.toNatClampNeg = n0 by rw [en]; exact nI_clamp (by omega), hez, hk0]; rfl
              have eqr : (nI t1.1 : Int32) = my_r w n (rs, rf) := by simp only [my_r, my_t, mf_ok, if_neg cc1, if_pos cc2, if_pos cc3, if_true]; rw [show n.toNatClampNeg = n0 by rw [en]; exact nI_clamp (by omega), hez, hk0]; rfl
              exact ct_iret C_0 (hP.sub [0, 1] rfl) (hD.sub [0, 1] (by decide) rfl) hS (Nat.le_of_ble_eq_true rfl) (Nat.le_of_ble_eq_true rfl) dX8_type_79 (⟨eqr, congr (congrArg (fun (z1 : Int32) (z2 : Nat → Int32) => ([(q 0, .inr (8, [.int v, .ref (q 1), .int (nI ms), .ref (q 3), .int z1, .ref (q 5), .ref (q 6), .int bh, .ref (q 8), .ref (q 9), .ref (q 10), .ref (q 11), .ref (q 12), .int (nI tz), .int fa, .ref (q 15), .int (nI mz), .ref (q 17), .ref (q 18), .ref (q 19), .ref (q 20), .ref (q 21), .ref (q 22), .ref (q 23), .ref (q 24), .int (nI wn), .ref (q 26), .ref (q 27), .int (nI tk), .ref (q 29), .ref (q 30), .ref (q 31)])), (q 3, .inl (k 0, 1000, .inl z2))] : va_W)) eq1) eq2⟩)
            · skip
              obtain ⟨k1, ek⟩ : ∃ k1, kk = k1 + 1 := dec_pos (by rw [← e4]; exact cc4)
              refine lv_aload_n hx_ hb_ dX8_type_38 rfl (lv_at hl 0 rfl) ?_
              refine va_get (D := D) (ci := 8) (v := .ref (q 3)) (C := RX8) (T := TX8) (N := 32) hx_ hb_ hts_ inM_X8 hown_ hK.1 hP 0 rfl rfl 3 (by decide) (hts_ _ (List.mem_cons_of_mem _ wa_f_X8_13)) (fun _ h9 => h9) rfl dX8_type_39 ?_
              refine lv_aload_n hx_ hb_ dX8_type_42 rfl (lv_at hl 0 rfl) ?_
              refine va_get (D := D) (ci := 8) (v := .int (nI t1.1)) (C := RX8) (T := TX8) (N := 32) hx_ hb_ hts_ inM_X8 hown_ hK.1 hP 0 rfl rfl 4 (by decide) (hts_ _ (List.mem_cons_of_mem _ wa_f_X8_94)) (fun _ h9 => h9) rfl dX8_type_43 ?_
              refine lv_lload_n hx_ hb_ dX8_type_46 rfl (lv_at hl 1 rfl) ?_
              refine lv_bipush (v := 8) hx_ hb_ dX8_type_47 (by decide) ?_
              refine lv_iload hx_ hb_ dX8_type_49 (lv_at hl 3 rfl) ?_
              refine lv_ti (y := nI k1) (by rw [e4, ek]; exact nI_pred k1) ?_
              refine lv_imul hx_ hb_ dX8_type_51 ?_
              refine lv_ti (y := nI (8 * k1)) (pk_mul _ _) ?_
              refine lv_lushr (v := (Int64.toUInt64 w >>> ((Int32.toInt64 (nI (8 * k1))).toUInt64 &&& Int64.toUInt64 63)).toInt64) hx_ hb_ dX8_type_52 rfl ?_
              refine lv_ldc2 (v := 255) hx_ hb_ hown_ (hts_ _ (List.mem_cons_of_mem _ wa_q_X8_97)) dX8_type_53 ?_
              refine lv_land hx_ hb_ dX8_type_56 ?_
              refine lv_l2i (v := Int64.toInt32 (((Int64.toUInt64 w >>> ((Int32.toInt64 (nI (8 * k1))).toUInt64 &&& Int64.toUInt64 63)).toInt64) &&& 255)) hx_ hb_ dX8_type_57 rfl ?_
              refine lv_ti (y := my_byte w k1) (rfl) ?_
              refine va_iast hx_ hb_ hK.1 hP hD hS 1 0 rfl rfl (vp_in_nI (by first | omega | assumption) (by decide)) dX8_type_58 (fun H locs hP hD hS => ?_)
              rw [show Int32.toNatClampNeg (nI t1.1) = t1.1 from nI_clamp (by first | omega | assumption)] at hP hD
              have hP : va_P D vwCl [(q 0, .inr (8, [.int v, .ref (q 1), .int (nI ms), .ref (q 3), .int (nI t1.1), .ref (q 5), .ref (q 6), .int bh, .ref (q 8), .ref (q 9), .ref (q 10), .ref (q 11), .ref (q 12), .int (nI tz), .int fa, .ref (q 15), .int (nI mz), .ref (q 17), .ref (q 18), .ref (q 19), .ref (q 20), .ref (q 21), .ref (q 22), .ref (q 23), .ref (q 24), .int (nI wn), .ref (q 26), .ref (q 27), .int (nI tk), .ref (q 29), .ref (q 30), .ref (q 31)])), (q 3, .inl (k 0, 1000, .inl (upd t1.2 t1.1 (my_byte w k1))))] H := hP
              have hD : va_D A_0 [(q 0, .inr (8, [.int v, .ref (q 1), .int (nI ms), .ref (q 3), .int (nI t1.1), .ref (q 5), .ref (q 6), .int bh, .ref (q 8), .ref (q 9), .ref (q 10), .ref (q 11), .ref (q 12), .int (nI tz), .int fa, .ref (q 15), .int (nI mz), .ref (q 17), .ref (q 18), .ref (q 19), .ref (q 20), .ref (q 21), .ref (q 22), .ref (q 23), .ref (q 24), .int (nI wn), .ref (q 26), .ref (q 27), .int (nI tk), .ref (q 29), .ref (q 30), .ref (q 31)])), (q 3, .inl (k 0, 1000, .inl (upd t1.2 t1.1 (my_byte w k1))))] := hD
              refine lv_aload_n hx_ hb_ dX8_type_59 rfl (lv_at hl 0 rfl) ?_
              refine lv_dup hx_ hb_ dX8_type_60 rfl ?_
              refine va_get (D := D) (ci := 8) (v := .int (nI t1.1)) (C := RX8) (T := TX8) (N := 32) hx_ hb_ hts_ inM_X8 hown_ hK.1 hP 0 rfl rfl 4 (by decide) (hts_ _ (List.mem_cons_of_mem _ wa_f_X8_94)) (fun _ h9 => h9) rfl dX8_type_61 ?_
              refine lv_iconst (v := 1) hx_ hb_ dX8_type_64 (by decide) ?_
              refine lv_iadd hx_ hb_ dX8_type_65 ?_
              refine lv_ti (y := nI (t1.1 + 1)) (nI_add _ _) ?_
              refine va_put (D := D) (ci := 8) (v := .int (nI (t1.1 + 1))) (ty := .int) (C := RX8) (T := TX8) (N := 32) hx_ hb_ hts_ inM_X8 tyX8 tyX8_ok nmX8 hown_ hK.1 hP hD hS 0 rfl rfl 4 (by decide) (hts_ _ (List.mem_cons_of_mem _ wa_f_X8_94)) (fun _ h9 => h9) rfl (by decide +kernel) rfl rfl (Nat.le_of_ble_eq_true rfl) dX8_type_66 (fun H locs hP hD hS => ?_)
              have hP : va_P D vwCl [(q 0, .inr (8, [.int v, .ref (q 1), .int (nI ms), .ref (q 3), .int (nI (t1.1 + 1)), .ref (q 5), .ref (q 6), .int bh, .ref (q 8), .ref (q 9), .ref (q 10), .ref (q 11), .ref (q 12), .int (nI tz), .int fa, .ref (q 15), .int (nI mz), .ref (q 17), .ref (q 18), .ref (q 19), .ref (q 20), .ref (q 21), .ref (q 22), .ref (q 23), .ref (q 24), .int (nI wn), .ref (q 26), .ref (q 27), .int (nI tk), .ref (q 29), .ref (q 30), .ref (q 31)])), (q 3, .inl (k 0, 1000, .inl (upd t1.2 t1.1 (my_byte w k1))))] H := hP
              have hD : va_D A_0 [(q 0, .inr (8, [.int v, .ref (q 1), .int (nI ms), .ref (q 3), .int (nI (t1.1 + 1)), .ref (q 5), .ref (q 6), .int bh, .ref (q 8), .ref (q 9), .ref (q 10), .ref (q 11), .ref (q 12), .int (nI tz), .int fa, .ref (q 15), .int (nI mz), .ref (q 17), .ref (q 18), .ref (q 19), .ref (q 20), .ref (q 21), .ref (q 22), .ref (q 23), .ref (q 24), .int (nI wn), .ref (q 26), .ref (q 27), .int (nI tk), .ref (q 29), .ref (q 30), .ref (q 31)])), (q 3, .inl (k 0, 1000, .inl (upd t1.2 t1.1 (my_byte w k1))))] := hD
              refine lv_iinc (v := nI k1 - 1) (lv' := [(4, .int (nI k1 - 1)), (0, .ref (q 0)), (1, .long w), (3, .int n)]) hx_ hb_ dX8_type_69 hl (k := 3) rfl (by rw [e4, ek]; exact dec_iinc k1) (by decide) rfl (fun ls hl => ?_)
              refine lv_goto (tgt := 33) hx_ hb_ dX8_type_72 (by decide) ?_
              exact ih33 k1 (nI k1 - 1) (t1.1 + 1, upd t1.2 t1.1 (my_byte w k1)) _ _ _ (by first | omega | assumption) (by first | omega | assumption) (by rfl) (by show t1.1 + 1 + k1 ≤ 1000; omega) (by rw [hez, ek]; rfl) (hP.sub [0, 1] rfl) (hD.sub [0, 1] (by decide) rfl) hS (lv_sub hl [1, 2, 3, 0] rfl)
        exact lp33 (n0 + 1) n0 (nI n0 - 1) (rs, rf) _ _ _ (Nat.lt_succ_self _) (by first | omega | assumption) (by rfl) (by exact hroom) (by rfl) (hP.sub [0, 1] rfl) (hD.sub [0, 1] (by decide) rfl) hS (lv_sub hl [1, 2, 3, 0] rfl)
      · skip
        refine lv_bipush (v := (-4)) hx_ hb_ dX8_type_25 (by decide) ?_
        have eq1 : (nI rs : Int32) = nI ((my_t w n (rs, rf)).1) := by simp [my_r, my_t, mf_ok, eq_false cc1, eq_true cc2, eq_false cc3]
        have eq2 : (rf : Nat → Int32) = (my_t w n (rs, rf)).2 := by simp [my_r, my_t, mf_ok, eq_false cc1, eq_true cc2, eq_false cc3]
        have eqr : ((-4) : Int32) = my_r w n (rs, rf) := by simp [my_r, my_t, mf_ok, eq_false cc1, eq_true cc2, eq_false cc3]
        exact ct_iret C_0 (hP.sub [0, 1] rfl) (hD.sub [0, 1] (by decide) rfl) hS (Nat.le_of_ble_eq_true rfl) (Nat.le_of_ble_eq_true rfl) dX8_type_27 (⟨eqr, congr (congrArg (fun (z1 : Int32) (z2 : Nat → Int32) => ([(q 0, .inr (8, [.int v, .ref (q 1), .int (nI ms), .ref (q 3), .int z1, .ref (q 5), .ref (q 6), .int bh, .ref (q 8), .ref (q 9), .ref (q 10), .ref (q 11), .ref (q 12), .int (nI tz), .int fa, .ref (q 15), .int (nI mz), .ref (q 17), .ref (q 18), .ref (q 19), .ref (q 20), .ref (q 21), .ref (q 22), .ref (q 23), .ref (q 24), .int (nI wn), .ref (q 26), .ref (q 27), .int (nI tk), .ref (q 29), .ref (q 30), .ref (q 31)])), (q 3, .inl (k 0, 1000, .inl z2))] : va_W)) eq1) eq2⟩)
    · skip
      refine lv_bipush (v := (-2)) hx_ hb_ dX8_type_10 (by decide) ?_
      have eq1 : (nI rs : Int32) = nI ((my_t w n (rs, rf)).1) := by simp [my_r, my_t, mf_ok, eq_false cc1, eq_false cc2]
      have eq2 : (rf : Nat → Int32) = (my_t w n (rs, rf)).2 := by simp [my_r, my_t, mf_ok, eq_false cc1, eq_false cc2]
      have eqr : ((-2) : Int32) = my_r w n (rs, rf) := by simp [my_r, my_t, mf_ok, eq_false cc1, eq_false cc2]
      exact ct_iret C_0 (hP.sub [0, 1] rfl) (hD.sub [0, 1] (by decide) rfl) hS (Nat.le_of_ble_eq_true rfl) (Nat.le_of_ble_eq_true rfl) dX8_type_12 (⟨eqr, congr (congrArg (fun (z1 : Int32) (z2 : Nat → Int32) => ([(q 0, .inr (8, [.int v, .ref (q 1), .int (nI ms), .ref (q 3), .int z1, .ref (q 5), .ref (q 6), .int bh, .ref (q 8), .ref (q 9), .ref (q 10), .ref (q 11), .ref (q 12), .int (nI tz), .int fa, .ref (q 15), .int (nI mz), .ref (q 17), .ref (q 18), .ref (q 19), .ref (q 20), .ref (q 21), .ref (q 22), .ref (q 23), .ref (q 24), .int (nI wn), .ref (q 26), .ref (q 27), .int (nI tk), .ref (q 29), .ref (q 30), .ref (q 31)])), (q 3, .inl (k 0, 1000, .inl z2))] : va_W)) eq1) eq2⟩)
abbrev po_X8_alphabet (k : Nat → ClassId) (q : Nat → Nat) (v : Int32) (ms : Nat) (rs : Nat) (bh : Int32) (tz : Nat) (fa : Int32) (mz : Nat) (wn : Nat) (tk : Nat) (lt : Nat → Int32) (A1 : Int32) (M1 : Int32) (c : Int32) : Int32 → va_W → Prop := fun ans_ w1 => ans_ = ma_r v lt A1 M1 c ∧ w1 = [(q 0, .inr (8, [.int v, .ref (q 1), .int (nI ms), .ref (q 3), .int (nI rs), .ref (q 5), .ref (q 6), .int bh, .ref (q 8), .ref (q 9), .ref (q 10), .ref (q 11), .ref (q 12), .int (nI tz), .int fa, .ref (q 15), .int (nI mz), .ref (q 17), .ref (q 18), .ref (q 19), .ref (q 20), .ref (q 21), .ref (q 22), .ref (q 23), .ref (q 24), .int (nI wn), .ref (q 26), .ref (q 27), .int (nI tk), .ref (q 29), .ref (q 30), .ref (q 31)])), (q 5, .inl (k 0, 96, .inl (ma_l v lt A1 M1 c)))]
set_option maxHeartbeats 4000000 in
set_option maxRecDepth 100000 in
/-- alphabet -/
theorem k_X8_alphabet (l : Launch) (D : va_G) (k : Nat → ClassId) (q : Nat → Nat) (v : Int32) (ms : Nat) (rs : Nat) (bh : Int32) (tz : Nat) (fa : Int32) (mz : Nat) (wn : Nat) (tk : Nat) (lt : Nat → Int32) (A1 : Int32) (M1 : Int32) (c : Int32)  : ct_i l D (TY k) yX8_alphabet wsX8_alphabet ({ frames := 0, cells := 0, slots := 0, locals := 0 } : Room) [.ref (q 0), .int A1, .int M1, .int c] [(q 0, .inr (8, [.int v, .ref (q 1), .int (nI ms), .ref (q 3), .int (nI rs), .ref (q 5), .ref (q 6), .int bh, .ref (q 8), .ref (q 9), .ref (q 10), .ref (q 11), .ref (q 12), .int (nI tz), .int fa, .ref (q 15), .int (nI mz), .ref (q 17), .ref (q 18), .ref (q 19), .ref (q 20), .ref (q 21), .ref (q 22), .ref (q 23), .ref (q 24), .int (nI wn), .ref (q 26), .ref (q 27), .int (nI tk), .ref (q 29), .ref (q 30), .ref (q 31)])), (q 5, .inl (k 0, 96, .inl lt))] (po_X8_alphabet k q v ms rs bh tz fa mz wn tk lt A1 M1 c) := by
  refine ct_i_of (cc := cX8_alphabet) (nL := 5) (rt := (some .int)) (by decide) rfl (Nat.le_of_ble_eq_true rfl) ?_
  intro p_ e_ s_0 m_0 below_ meth_ c_0 A_0 C_0 hP hK hD hS hA ls hl
  obtain ⟨hx_, hb_, hml_, hr_, hown_, hlk_, hnm_, hts_⟩ := id C_0
  have hl : lv_has ls 5 [(0, .ref (q 0)), (1, .int A1), (2, .int M1), (3, .int c)] := hl
  refine lv_aload_n hx_ hb_ dX8_alphabet_0 rfl (lv_at hl 0 rfl) ?_
  refine va_get (D := D) (ci := 8) (v := .int v) (C := RX8) (T := TX8) (N := 32) hx_ hb_ hts_ inM_X8 hown_ hK.1 hP 0 rfl rfl 0 (by decide) (hts_ _ (List.mem_cons_of_mem _ wa_f_X8_83)) (fun _ h9 => h9) rfl dX8_alphabet_1 ?_
  refine lv_iconst (v := 5) hx_ hb_ dX8_alphabet_4 (by decide) ?_
  refine lv_icmp_ge (tgt := 11) hx_ hb_ dX8_alphabet_5 (by decide) (fun cc1 => ?_) (fun cc1 => ?_)
  · skip
    refine lv_iload_n hx_ hb_ dX8_alphabet_11 rfl (lv_at hl 1 rfl) ?_
    refine lv_if_lt (tgt := 43) hx_ hb_ dX8_alphabet_12 (by decide) (fun cc2 => ?_) (fun cc2 => ?_)
    · skip
      refine lv_iconst (v := (-1)) hx_ hb_ dX8_alphabet_43 (by decide) ?_
      have eq1 : (lt : Nat → Int32) = ma_l v lt A1 M1 c := by simp [ma_r, ma_l, ma_is, eq_true cc1, eq_true cc2]
      have eqr : ((-1) : Int32) = ma_r v lt A1 M1 c := by simp [ma_r, ma_l, ma_is, eq_true cc1, eq_true cc2]
      exact ct_iret C_0 (hP.sub [0, 1] rfl) (hD.sub [0, 1] (by decide) rfl) hS (Nat.le_of_ble_eq_true rfl) (Nat.le_of_ble_eq_true rfl) dX8_alphabet_44 (⟨eqr, congrArg (fun (z1 : Nat → Int32) => ([(q 0, .inr (8, [.int v, .ref (q 1), .int (nI ms), .ref (q 3), .int (nI rs), .ref (q 5), .ref (q 6), .int bh, .ref (q 8), .ref (q 9), .ref (q 10), .ref (q 11), .ref (q 12), .int (nI tz), .int fa, .ref (q 15), .int (nI mz), .ref (q 17), .ref (q 18), .ref (q 19), .ref (q 20), .ref (q 21), .ref (q 22), .ref (q 23), .ref (q 24), .int (nI wn), .ref (q 26), .ref (q 27), .int (nI tk), .ref (q 29), .ref (q 30), .ref (q 31)])), (q 5, .inl (k 0, 96, .inl z1))] : va_W)) eq1⟩)
    · skip
      refine lv_iload_n hx_ hb_ dX8_alphabet_15 rfl (lv_at hl 1 rfl) ?_
      refine lv_iconst (v := 2) hx_ hb_ dX8_alphabet_16 (by decide) ?_
      refine lv_icmp_gt (tgt := 43) hx_ hb_ dX8_alphabet_17 (by decide) (fun cc3 => ?_) (fun cc3 => ?_)
      · skip
        refine lv_iconst (v := (-1)) hx_ hb_ dX8_alphabet_43 (by decide) ?_
        have eq1 : (lt : Nat → Int32) = ma_l v lt A1 M1 c := by simp [ma_r, ma_l, ma_is, eq_true cc1, eq_false cc2, eq_true cc3]
        have eqr : ((-1) : Int32) = ma_r v lt A1 M1 c := by simp [ma_r, ma_l, ma_is, eq_true cc1, eq_false cc2, eq_true cc3]
        exact ct_iret C_0 (hP.sub [0, 1] rfl) (hD.sub [0, 1] (by decide) rfl) hS (Nat.le_of_ble_eq_true rfl) (Nat.le_of_ble_eq_true rfl) dX8_alphabet_44 (⟨eqr, congrArg (fun (z1 : Nat → Int32) => ([(q 0, .inr (8, [.int v, .ref (q 1), .int (nI ms), .ref (q 3), .int (nI rs), .ref (q 5), .ref (q 6), .int bh, .ref (q 8), .ref (q 9), .ref (q 10), .ref (q 11), .ref (q 12), .int (nI tz), .int fa, .ref (q 15), .int (nI mz), .ref (q 17), .ref (q 18), .ref (q 19), .ref (q 20), .ref (q 21), .ref (q 22), .ref (q 23), .ref (q 24), .int (nI wn), .ref (q 26), .ref (q 27), .int (nI tk), .ref (q 29), .ref (q 30), .ref (q 31)])), (q 5, .inl (k 0, 96, .inl z1))] : va_W)) eq1⟩)
      · skip
        refine lv_iload_n hx_ hb_ dX8_alphabet_20 rfl (lv_at hl 2 rfl) ?_
        refine lv_bipush (v := 6) hx_ hb_ dX8_alphabet_21 (by decide) ?_
        refine lv_icmp_lt (tgt := 43) hx_ hb_ dX8_alphabet_23 (by decide) (fun cc4 => ?_) (fun cc4 => ?_)
        · skip
          refine lv_iconst (v := (-1)) hx_ hb_ dX8_alphabet_43 (by decide) ?_
          have eq1 : (lt : Nat → Int32) = ma_l v lt A1 M1 c := by simp [ma_r, ma_l, ma_is, eq_true cc1, eq_false cc2, eq_false cc3, eq_true cc4]
          have eqr : ((-1) : Int32) = ma_r v lt A1 M1 c := by simp [ma_r, ma_l, ma_is, eq_true cc1, eq_false cc2, eq_false cc3, eq_true cc4]
          exact ct_iret C_0 (hP.sub [0, 1] rfl) (hD.sub [0, 1] (by decide) rfl) hS (Nat.le_of_ble_eq_true rfl) (Nat.le_of_ble_eq_true rfl) dX8_alphabet_44 (⟨eqr, congrArg (fun (z1 : Nat → Int32) => ([(q 0, .inr (8, [.int v, .ref (q 1), .int (nI ms), .ref (q 3), .int (nI rs), .ref (q 5), .ref (q 6), .int bh, .ref (q 8), .ref (q 9), .ref (q 10), .ref (q 11), .ref (q 12), .int (nI tz), .int fa, .ref (q 15), .int (nI mz), .ref (q 17), .ref (q 18), .ref (q 19), .ref (q 20), .ref (q 21), .ref (q 22), .ref (q 23), .ref (q 24), .int (nI wn), .ref (q 26), .ref (q 27), .int (nI tk), .ref (q 29), .ref (q 30), .ref (q 31)])), (q 5, .inl (k 0, 96, .inl z1))] : va_W)) eq1⟩)
        · skip
          refine lv_iload_n hx_ hb_ dX8_alphabet_26 rfl (lv_at hl 2 rfl) ?_
          refine lv_bipush (v := 31) hx_ hb_ dX8_alphabet_27 (by decide) ?_
          refine lv_icmp_gt (tgt := 43) hx_ hb_ dX8_alphabet_29 (by decide) (fun cc5 => ?_) (fun cc5 => ?_)
          · skip
            refine lv_iconst (v := (-1)) hx_ hb_ dX8_alphabet_43 (by decide) ?_
            have eq1 : (lt : Nat → Int32) = ma_l v lt A1 M1 c := by simp [ma_r, ma_l, ma_is, eq_true cc1, eq_false cc2, eq_false cc3, eq_false cc4, eq_true cc5]
            have eqr : ((-1) : Int32) = ma_r v lt A1 M1 c := by simp [ma_r, ma_l, ma_is, eq_true cc1, eq_false cc2, eq_false cc3, eq_false cc4, eq_true cc5]
            exact ct_iret C_0 (hP.sub [0, 1] rfl) (hD.sub [0, 1] (by decide) rfl) hS (Nat.le_of_ble_eq_true rfl) (Nat.le_of_ble_eq_true rfl) dX8_alphabet_44 (⟨eqr, congrArg (fun (z1 : Nat → Int32) => ([(q 0, .inr (8, [.int v, .ref (q 1), .int (nI ms), .ref (q 3), .int (nI rs), .ref (q 5), .ref (q 6), .int bh, .ref (q 8), .ref (q 9), .ref (q 10), .ref (q 11), .ref (q 12), .int (nI tz), .int fa, .ref (q 15), .int (nI mz), .ref (q 17), .ref (q 18), .ref (q 19), .ref (q 20), .ref (q 21), .ref (q 22), .ref (q 23), .ref (q 24), .int (nI wn), .ref (q 26), .ref (q 27), .int (nI tk), .ref (q 29), .ref (q 30), .ref (q 31)])), (q 5, .inl (k 0, 96, .inl z1))] : va_W)) eq1⟩)
          · skip
            refine lv_iload_n hx_ hb_ dX8_alphabet_32 rfl (lv_at hl 1 rfl) ?_
            refine lv_iconst (v := 2) hx_ hb_ dX8_alphabet_33 (by decide) ?_
            refine lv_icmp_ne (tgt := 45) hx_ hb_ dX8_alphabet_34 (by decide) (fun cc6 => ?_) (fun cc6 => ?_)
            · skip
              refine lv_iload_n hx_ hb_ dX8_alphabet_45 rfl (lv_at hl 3 rfl) ?_
              refine lv_if_lt (tgt := 56) hx_ hb_ dX8_alphabet_46 (by decide) (fun cc7 => ?_) (fun cc7 => ?_)
              · skip
                refine lv_bipush (v := (-2)) hx_ hb_ dX8_alphabet_56 (by decide) ?_
                have eq1 : (lt : Nat → Int32) = ma_l v lt A1 M1 c := by simp [ma_r, ma_l, ma_is, eq_true cc1, eq_false cc2, eq_false cc3, eq_false cc4, eq_false cc5, eq_false cc6, eq_true cc7]
                have eqr : ((-2) : Int32) = ma_r v lt A1 M1 c := by simp [ma_r, ma_l, ma_is, eq_true cc1, eq_false cc2, eq_false cc3, eq_false cc4, eq_false cc5, eq_false cc6, eq_true cc7]
                exact ct_iret C_0 (hP.sub [0, 1] rfl) (hD.sub [0, 1] (by decide) rfl) hS (Nat.le_of_ble_eq_true rfl) (Nat.le_of_ble_eq_true rfl) dX8_alphabet_58 (⟨eqr, congrArg (fun (z1 : Nat → Int32) => ([(q 0, .inr (8, [.int v, .ref (q 1), .int (nI ms), .ref (q 3), .int (nI rs), .ref (q 5), .ref (q 6), .int bh, .ref (q 8), .ref (q 9), .ref (q 10), .ref (q 11), .ref (q 12), .int (nI tz), .int fa, .ref (q 15), .int (nI mz), .ref (q 17), .ref (q 18), .ref (q 19), .ref (q 20), .ref (q 21), .ref (q 22), .ref (q 23), .ref (q 24), .int (nI wn), .ref (q 26), .ref (q 27), .int (nI tk), .ref (q 29), .ref (q 30), .ref (q 31)])), (q 5, .inl (k 0, 96, .inl z1))] : va_W)) eq1⟩)
              · skip
                refine lv_iload_n hx_ hb_ dX8_alphabet_49 rfl (lv_at hl 3 rfl) ?_
                refine lv_sipush (v := 1023) hx_ hb_ dX8_alphabet_50 (by decide) ?_
                refine lv_icmp_le (tgt := 59) hx_ hb_ dX8_alphabet_53 (by decide) (fun cc8 => ?_) (fun cc8 => ?_)
                · skip
                  refine lv_aload_n hx_ hb_ dX8_alphabet_59 rfl (lv_at hl 0 rfl) ?_
                  refine va_get (D := D) (ci := 8) (v := .ref (q 5)) (C := RX8) (T := TX8) (N := 32) hx_ hb_ hts_ inM_X8 hown_ hK.1 hP 0 rfl rfl 5 (by decide) (hts_ _ (List.mem_cons_of_mem _ wa_f_X8_17)) (fun _ h9 => h9) rfl dX8_alphabet_60 ?_
                  refine lv_bipush (v := 32) hx_ hb_ dX8_alphabet_63 (by decide) ?_
                  refine lv_iload_n hx_ hb_ dX8_alphabet_65 rfl (lv_at hl 1 rfl) ?_
                  refine lv_imul hx_ hb_ dX8_alphabet_66 ?_
                  refine lv_iload_n hx_ hb_ dX8_alphabet_67 rfl (lv_at hl 2 rfl) ?_
                  refine lv_iadd hx_ hb_ dX8_alphabet_68 ?_
                  refine va_iald hx_ hb_ hK.1 hP 1 0 rfl rfl (ma_in cc2 cc3 cc4 cc5) dX8_alphabet_69 ?_
                  refine lv_istore (lv' := [(4, .int (lt (Int32.toNatClampNeg ((32 * A1) + M1)))), (0, .ref (q 0)), (1, .int A1), (2, .int M1), (3, .int c)]) hx_ hb_ dX8_alphabet_70 hl (by decide) rfl (fun ls hl => ?_)
                  refine lv_aload_n hx_ hb_ dX8_alphabet_72 rfl (lv_at hl 1 rfl) ?_
                  refine va_get (D := D) (ci := 8) (v := .ref (q 5)) (C := RX8) (T := TX8) (N := 32) hx_ hb_ hts_ inM_X8 hown_ hK.1 hP 0 rfl rfl 5 (by decide) (hts_ _ (List.mem_cons_of_mem _ wa_f_X8_17)) (fun _ h9 => h9) rfl dX8_alphabet_73 ?_
                  refine lv_bipush (v := 32) hx_ hb_ dX8_alphabet_76 (by decide) ?_
                  refine lv_iload_n hx_ hb_ dX8_alphabet_78 rfl (lv_at hl 2 rfl) ?_
                  refine lv_imul hx_ hb_ dX8_alphabet_79 ?_
                  refine lv_iload_n hx_ hb_ dX8_alphabet_80 rfl (lv_at hl 3 rfl) ?_
                  refine lv_iadd hx_ hb_ dX8_alphabet_81 ?_
                  refine lv_iload_n hx_ hb_ dX8_alphabet_82 rfl (lv_at hl 4 rfl) ?_
                  refine va_iast hx_ hb_ hK.1 hP hD hS 1 0 rfl rfl (ma_in cc2 cc3 cc4 cc5) dX8_alphabet_83 (fun H locs hP hD hS => ?_)
                  have hP : va_P D vwCl [(q 0, .inr (8, [.int v, .ref (q 1), .int (nI ms), .ref (q 3), .int (nI rs), .ref (q 5), .ref (q 6), .int bh, .ref (q 8), .ref (q 9), .ref (q 10), .ref (q 11), .ref (q 12), .int (nI tz), .int fa, .ref (q 15), .int (nI mz), .ref (q 17), .ref (q 18), .ref (q 19), .ref (q 20), .ref (q 21), .ref (q 22), .ref (q 23), .ref (q 24), .int (nI wn), .ref (q 26), .ref (q 27), .int (nI tk), .ref (q 29), .ref (q 30), .ref (q 31)])), (q 5, .inl (k 0, 96, .inl (upd lt (Int32.toNatClampNeg ((32 * A1) + M1)) c)))] H := hP
                  have hD : va_D A_0 [(q 0, .inr (8, [.int v, .ref (q 1), .int (nI ms), .ref (q 3), .int (nI rs), .ref (q 5), .ref (q 6), .int bh, .ref (q 8), .ref (q 9), .ref (q 10), .ref (q 11), .ref (q 12), .int (nI tz), .int fa, .ref (q 15), .int (nI mz), .ref (q 17), .ref (q 18), .ref (q 19), .ref (q 20), .ref (q 21), .ref (q 22), .ref (q 23), .ref (q 24), .int (nI wn), .ref (q 26), .ref (q 27), .int (nI tk), .ref (q 29), .ref (q 30), .ref (q 31)])), (q 5, .inl (k 0, 96, .inl (upd lt (Int32.toNatClampNeg ((32 * A1) + M1)) c)))] := hD
                  refine lv_iload hx_ hb_ dX8_alphabet_84 (lv_at hl 0 rfl) ?_
                  have eq1 : (upd lt (Int32.toNatClampNeg ((32 * A1) + M1)) c : Nat → Int32) = ma_l v lt A1 M1 c := by simp [ma_r, ma_l, ma_is, eq_true cc1, eq_false cc2, eq_false cc3, eq_false cc4, eq_false cc5, eq_false cc6, eq_false cc7, eq_true cc8]
                  have eqr : (lt (Int32.toNatClampNeg ((32 * A1) + M1)) : Int32) = ma_r v lt A1 M1 c := by simp [ma_r, ma_l, ma_is, eq_true cc1, eq_false cc2, eq_false cc3, eq_false cc4, eq_false cc5, eq_false cc6, eq_false cc7, eq_true cc8]
                  exact ct_iret C_0 (hP.sub [0, 1] rfl) (hD.sub [0, 1] (by decide) rfl) hS (Nat.le_of_ble_eq_true rfl) (Nat.le_of_ble_eq_true rfl) dX8_alphabet_86 (⟨eqr, congrArg (fun (z1 : Nat → Int32) => ([(q 0, .inr (8, [.int v, .ref (q 1), .int (nI ms), .ref (q 3), .int (nI rs), .ref (q 5), .ref (q 6), .int bh, .ref (q 8), .ref (q 9), .ref (q 10), .ref (q 11), .ref (q 12), .int (nI tz), .int fa, .ref (q 15), .int (nI mz), .ref (q 17), .ref (q 18), .ref (q 19), .ref (q 20), .ref (q 21), .ref (q 22), .ref (q 23), .ref (q 24), .int (nI wn), .ref (q 26), .ref (q 27), .int (nI tk), .ref (q 29), .ref (q 30), .ref (q 31)])), (q 5, .inl (k 0, 96, .inl z1))] : va_W)) eq1⟩)
                · skip
                  refine lv_bipush (v := (-2)) hx_ hb_ dX8_alphabet_56 (by decide) ?_
                  have eq1 : (lt : Nat → Int32) = ma_l v lt A1 M1 c := by simp [ma_r, ma_l, ma_is, eq_true cc1, eq_false cc2, eq_false cc3, eq_false cc4, eq_false cc5, eq_false cc6, eq_false cc7, eq_false cc8]
                  have eqr : ((-2) : Int32) = ma_r v lt A1 M1 c := by simp [ma_r, ma_l, ma_is, eq_true cc1, eq_false cc2, eq_false cc3, eq_false cc4, eq_false cc5, eq_false cc6, eq_false cc7, eq_false cc8]
                  exact ct_iret C_0 (hP.sub [0, 1] rfl) (hD.sub [0, 1] (by decide) rfl) hS (Nat.le_of_ble_eq_true rfl) (Nat.le_of_ble_eq_true rfl) dX8_alphabet_58 (⟨eqr, congrArg (fun (z1 : Nat → Int32) => ([(q 0, .inr (8, [.int v, .ref (q 1), .int (nI ms), .ref (q 3), .int (nI rs), .ref (q 5), .ref (q 6), .int bh, .ref (q 8), .ref (q 9), .ref (q 10), .ref (q 11), .ref (q 12), .int (nI tz), .int fa, .ref (q 15), .int (nI mz), .ref (q 17), .ref (q 18), .ref (q 19), .ref (q 20), .ref (q 21), .ref (q 22), .ref (q 23), .ref (q 24), .int (nI wn), .ref (q 26), .ref (q 27), .int (nI tk), .ref (q 29), .ref (q 30), .ref (q 31)])), (q 5, .inl (k 0, 96, .inl z1))] : va_W)) eq1⟩)
            · skip
              refine lv_iload_n hx_ hb_ dX8_alphabet_37 rfl (lv_at hl 2 rfl) ?_
              refine lv_bipush (v := 8) hx_ hb_ dX8_alphabet_38 (by decide) ?_
              refine lv_icmp_ge (tgt := 45) hx_ hb_ dX8_alphabet_40 (by decide) (fun cc9 => ?_) (fun cc9 => ?_)
              · skip
                refine lv_iload_n hx_ hb_ dX8_alphabet_45 rfl (lv_at hl 3 rfl) ?_
                refine lv_if_lt (tgt := 56) hx_ hb_ dX8_alphabet_46 (by decide) (fun cc10 => ?_) (fun cc10 => ?_)
                · skip
                  refine lv_bipush (v := (-2)) hx_ hb_ dX8_alphabet_56 (by decide) ?_
                  have eq1 : (lt : Nat → Int32) = ma_l v lt A1 M1 c := by simp [ma_r, ma_l, ma_is, eq_true cc1, eq_false cc2, eq_false cc3, eq_false cc4, eq_false cc5, eq_true cc6, eq_true cc9, eq_true cc10]
                  have eqr : ((-2) : Int32) = ma_r v lt A1 M1 c := by simp [ma_r, ma_l, ma_is, eq_true cc1, eq_false cc2, eq_false cc3, eq_false cc4, eq_false cc5, eq_true cc6, eq_true cc9, eq_true cc10]
                  exact ct_iret C_0 (hP.sub [0, 1] rfl) (hD.sub [0, 1] (by decide) rfl) hS (Nat.le_of_ble_eq_true rfl) (Nat.le_of_ble_eq_true rfl) dX8_alphabet_58 (⟨eqr, congrArg (fun (z1 : Nat → Int32) => ([(q 0, .inr (8, [.int v, .ref (q 1), .int (nI ms), .ref (q 3), .int (nI rs), .ref (q 5), .ref (q 6), .int bh, .ref (q 8), .ref (q 9), .ref (q 10), .ref (q 11), .ref (q 12), .int (nI tz), .int fa, .ref (q 15), .int (nI mz), .ref (q 17), .ref (q 18), .ref (q 19), .ref (q 20), .ref (q 21), .ref (q 22), .ref (q 23), .ref (q 24), .int (nI wn), .ref (q 26), .ref (q 27), .int (nI tk), .ref (q 29), .ref (q 30), .ref (q 31)])), (q 5, .inl (k 0, 96, .inl z1))] : va_W)) eq1⟩)
                · skip
                  refine lv_iload_n hx_ hb_ dX8_alphabet_49 rfl (lv_at hl 3 rfl) ?_
                  refine lv_sipush (v := 1023) hx_ hb_ dX8_alphabet_50 (by decide) ?_
                  refine lv_icmp_le (tgt := 59) hx_ hb_ dX8_alphabet_53 (by decide) (fun cc11 => ?_) (fun cc11 => ?_)
                  · skip
                    refine lv_aload_n hx_ hb_ dX8_alphabet_59 rfl (lv_at hl 0 rfl) ?_
                    refine va_get (D := D) (ci := 8) (v := .ref (q 5)) (C := RX8) (T := TX8) (N := 32) hx_ hb_ hts_ inM_X8 hown_ hK.1 hP 0 rfl rfl 5 (by decide) (hts_ _ (List.mem_cons_of_mem _ wa_f_X8_17)) (fun _ h9 => h9) rfl dX8_alphabet_60 ?_
                    refine lv_bipush (v := 32) hx_ hb_ dX8_alphabet_63 (by decide) ?_
                    refine lv_iload_n hx_ hb_ dX8_alphabet_65 rfl (lv_at hl 1 rfl) ?_
                    refine lv_imul hx_ hb_ dX8_alphabet_66 ?_
                    refine lv_iload_n hx_ hb_ dX8_alphabet_67 rfl (lv_at hl 2 rfl) ?_
                    refine lv_iadd hx_ hb_ dX8_alphabet_68 ?_
                    refine va_iald hx_ hb_ hK.1 hP 1 0 rfl rfl (ma_in cc2 cc3 cc4 cc5) dX8_alphabet_69 ?_
                    refine lv_istore (lv' := [(4, .int (lt (Int32.toNatClampNeg ((32 * A1) + M1)))), (0, .ref (q 0)), (1, .int A1), (2, .int M1), (3, .int c)]) hx_ hb_ dX8_alphabet_70 hl (by decide) rfl (fun ls hl => ?_)
                    refine lv_aload_n hx_ hb_ dX8_alphabet_72 rfl (lv_at hl 1 rfl) ?_
                    refine va_get (D := D) (ci := 8) (v := .ref (q 5)) (C := RX8) (T := TX8) (N := 32) hx_ hb_ hts_ inM_X8 hown_ hK.1 hP 0 rfl rfl 5 (by decide) (hts_ _ (List.mem_cons_of_mem _ wa_f_X8_17)) (fun _ h9 => h9) rfl dX8_alphabet_73 ?_
                    refine lv_bipush (v := 32) hx_ hb_ dX8_alphabet_76 (by decide) ?_
                    refine lv_iload_n hx_ hb_ dX8_alphabet_78 rfl (lv_at hl 2 rfl) ?_
                    refine lv_imul hx_ hb_ dX8_alphabet_79 ?_
                    refine lv_iload_n hx_ hb_ dX8_alphabet_80 rfl (lv_at hl 3 rfl) ?_
                    refine lv_iadd hx_ hb_ dX8_alphabet_81 ?_
                    refine lv_iload_n hx_ hb_ dX8_alphabet_82 rfl (lv_at hl 4 rfl) ?_
                    refine va_iast hx_ hb_ hK.1 hP hD hS 1 0 rfl rfl (ma_in cc2 cc3 cc4 cc5) dX8_alphabet_83 (fun H locs hP hD hS => ?_)
                    have hP : va_P D vwCl [(q 0, .inr (8, [.int v, .ref (q 1), .int (nI ms), .ref (q 3), .int (nI rs), .ref (q 5), .ref (q 6), .int bh, .ref (q 8), .ref (q 9), .ref (q 10), .ref (q 11), .ref (q 12), .int (nI tz), .int fa, .ref (q 15), .int (nI mz), .ref (q 17), .ref (q 18), .ref (q 19), .ref (q 20), .ref (q 21), .ref (q 22), .ref (q 23), .ref (q 24), .int (nI wn), .ref (q 26), .ref (q 27), .int (nI tk), .ref (q 29), .ref (q 30), .ref (q 31)])), (q 5, .inl (k 0, 96, .inl (upd lt (Int32.toNatClampNeg ((32 * A1) + M1)) c)))] H := hP
                    have hD : va_D A_0 [(q 0, .inr (8, [.int v, .ref (q 1), .int (nI ms), .ref (q 3), .int (nI rs), .ref (q 5), .ref (q 6), .int bh, .ref (q 8), .ref (q 9), .ref (q 10), .ref (q 11), .ref (q 12), .int (nI tz), .int fa, .ref (q 15), .int (nI mz), .ref (q 17), .ref (q 18), .ref (q 19), .ref (q 20), .ref (q 21), .ref (q 22), .ref (q 23), .ref (q 24), .int (nI wn), .ref (q 26), .ref (q 27), .int (nI tk), .ref (q 29), .ref (q 30), .ref (q 31)])), (q 5, .inl (k 0, 96, .inl (upd lt (Int32.toNatClampNeg ((32 * A1) + M1)) c)))] := hD
                    refine lv_iload hx_ hb_ dX8_alphabet_84 (lv_at hl 0 rfl) ?_
                    have eq1 : (upd lt (Int32.toNatClampNeg ((32 * A1) + M1)) c : Nat → Int32) = ma_l v lt A1 M1 c := by simp [ma_r, ma_l, ma_is, eq_true cc1, eq_false cc2, eq_false cc3, eq_false cc4, eq_false cc5, eq_true cc6, eq_true cc9, eq_false cc10, eq_true cc11]
                    have eqr : (lt (Int32.toNatClampNeg ((32 * A1) + M1)) : Int32) = ma_r v lt A1 M1 c := by simp [ma_r, ma_l, ma_is, eq_true cc1, eq_false cc2, eq_false cc3, eq_false cc4, eq_false cc5, eq_true cc6, eq_true cc9, eq_false cc10, eq_true cc11]
                    exact ct_iret C_0 (hP.sub [0, 1] rfl) (hD.sub [0, 1] (by decide) rfl) hS (Nat.le_of_ble_eq_true rfl) (Nat.le_of_ble_eq_true rfl) dX8_alphabet_86 (⟨eqr, congrArg (fun (z1 : Nat → Int32) => ([(q 0, .inr (8, [.int v, .ref (q 1), .int (nI ms), .ref (q 3), .int (nI rs), .ref (q 5), .ref (q 6), .int bh, .ref (q 8), .ref (q 9), .ref (q 10), .ref (q 11), .ref (q 12), .int (nI tz), .int fa, .ref (q 15), .int (nI mz), .ref (q 17), .ref (q 18), .ref (q 19), .ref (q 20), .ref (q 21), .ref (q 22), .ref (q 23), .ref (q 24), .int (nI wn), .ref (q 26), .ref (q 27), .int (nI tk), .ref (q 29), .ref (q 30), .ref (q 31)])), (q 5, .inl (k 0, 96, .inl z1))] : va_W)) eq1⟩)
                  · skip
                    refine lv_bipush (v := (-2)) hx_ hb_ dX8_alphabet_56 (by decide) ?_
                    have eq1 : (lt : Nat → Int32) = ma_l v lt A1 M1 c := by simp [ma_r, ma_l, ma_is, eq_true cc1, eq_false cc2, eq_false cc3, eq_false cc4, eq_false cc5, eq_true cc6, eq_true cc9, eq_false cc10, eq_false cc11]
                    have eqr : ((-2) : Int32) = ma_r v lt A1 M1 c := by simp [ma_r, ma_l, ma_is, eq_true cc1, eq_false cc2, eq_false cc3, eq_false cc4, eq_false cc5, eq_true cc6, eq_true cc9, eq_false cc10, eq_false cc11]
                    exact ct_iret C_0 (hP.sub [0, 1] rfl) (hD.sub [0, 1] (by decide) rfl) hS (Nat.le_of_ble_eq_true rfl) (Nat.le_of_ble_eq_true rfl) dX8_alphabet_58 (⟨eqr, congrArg (fun (z1 : Nat → Int32) => ([(q 0, .inr (8, [.int v, .ref (q 1), .int (nI ms), .ref (q 3), .int (nI rs), .ref (q 5), .ref (q 6), .int bh, .ref (q 8), .ref (q 9), .ref (q 10), .ref (q 11), .ref (q 12), .int (nI tz), .int fa, .ref (q 15), .int (nI mz), .ref (q 17), .ref (q 18), .ref (q 19), .ref (q 20), .ref (q 21), .ref (q 22), .ref (q 23), .ref (q 24), .int (nI wn), .ref (q 26), .ref (q 27), .int (nI tk), .ref (q 29), .ref (q 30), .ref (q 31)])), (q 5, .inl (k 0, 96, .inl z1))] : va_W)) eq1⟩)
              · skip
                refine lv_iconst (v := (-1)) hx_ hb_ dX8_alphabet_43 (by decide) ?_
                have eq1 : (lt : Nat → Int32) = ma_l v lt A1 M1 c := by simp [ma_r, ma_l, ma_is, eq_true cc1, eq_false cc2, eq_false cc3, eq_false cc4, eq_false cc5, eq_true cc6, eq_false cc9]
                have eqr : ((-1) : Int32) = ma_r v lt A1 M1 c := by simp [ma_r, ma_l, ma_is, eq_true cc1, eq_false cc2, eq_false cc3, eq_false cc4, eq_false cc5, eq_true cc6, eq_false cc9]
                exact ct_iret C_0 (hP.sub [0, 1] rfl) (hD.sub [0, 1] (by decide) rfl) hS (Nat.le_of_ble_eq_true rfl) (Nat.le_of_ble_eq_true rfl) dX8_alphabet_44 (⟨eqr, congrArg (fun (z1 : Nat → Int32) => ([(q 0, .inr (8, [.int v, .ref (q 1), .int (nI ms), .ref (q 3), .int (nI rs), .ref (q 5), .ref (q 6), .int bh, .ref (q 8), .ref (q 9), .ref (q 10), .ref (q 11), .ref (q 12), .int (nI tz), .int fa, .ref (q 15), .int (nI mz), .ref (q 17), .ref (q 18), .ref (q 19), .ref (q 20), .ref (q 21), .ref (q 22), .ref (q 23), .ref (q 24), .int (nI wn), .ref (q 26), .ref (q 27), .int (nI tk), .ref (q 29), .ref (q 30), .ref (q 31)])), (q 5, .inl (k 0, 96, .inl z1))] : va_W)) eq1⟩)
  · skip
    refine lv_bipush (v := (-3)) hx_ hb_ dX8_alphabet_8 (by decide) ?_
    have eq1 : (lt : Nat → Int32) = ma_l v lt A1 M1 c := by simp [ma_r, ma_l, ma_is, eq_false cc1]
    have eqr : ((-3) : Int32) = ma_r v lt A1 M1 c := by simp [ma_r, ma_l, ma_is, eq_false cc1]
    exact ct_iret C_0 (hP.sub [0, 1] rfl) (hD.sub [0, 1] (by decide) rfl) hS (Nat.le_of_ble_eq_true rfl) (Nat.le_of_ble_eq_true rfl) dX8_alphabet_10 (⟨eqr, congrArg (fun (z1 : Nat → Int32) => ([(q 0, .inr (8, [.int v, .ref (q 1), .int (nI ms), .ref (q 3), .int (nI rs), .ref (q 5), .ref (q 6), .int bh, .ref (q 8), .ref (q 9), .ref (q 10), .ref (q 11), .ref (q 12), .int (nI tz), .int fa, .ref (q 15), .int (nI mz), .ref (q 17), .ref (q 18), .ref (q 19), .ref (q 20), .ref (q 21), .ref (q 22), .ref (q 23), .ref (q 24), .int (nI wn), .ref (q 26), .ref (q 27), .int (nI tk), .ref (q 29), .ref (q 30), .ref (q 31)])), (q 5, .inl (k 0, 96, .inl z1))] : va_W)) eq1⟩)
abbrev po_X8_entry (k : Nat → ClassId) (q : Nat → Nat) (v : Int32) (ms : Nat) (rs : Nat) (bh : Int32) (tz : Nat) (fa : Int32) (mz : Nat) (wn : Nat) (tk : Nat) (pl : Nat → Int32) (i : Int32) (p1 : Int32) : Int32 → va_W → Prop := fun ans_ w1 => ans_ = me_r pl i p1 ∧ w1 = [(q 0, .inr (8, [.int v, .ref (q 1), .int (nI ms), .ref (q 3), .int (nI rs), .ref (q 5), .ref (q 6), .int bh, .ref (q 8), .ref (q 9), .ref (q 10), .ref (q 11), .ref (q 12), .int (nI tz), .int fa, .ref (q 15), .int (nI mz), .ref (q 17), .ref (q 18), .ref (q 19), .ref (q 20), .ref (q 21), .ref (q 22), .ref (q 23), .ref (q 24), .int (nI wn), .ref (q 26), .ref (q 27), .int (nI tk), .ref (q 29), .ref (q 30), .ref (q 31)])), (q 6, .inl (k 0, 96, .inl (me_p pl i p1)))]
set_option maxHeartbeats 4000000 in
set_option maxRecDepth 100000 in
/-- entry -/
theorem k_X8_entry (l : Launch) (D : va_G) (k : Nat → ClassId) (q : Nat → Nat) (v : Int32) (ms : Nat) (rs : Nat) (bh : Int32) (tz : Nat) (fa : Int32) (mz : Nat) (wn : Nat) (tk : Nat) (pl : Nat → Int32) (i : Int32) (p1 : Int32)  : ct_i l D (TY k) yX8_entry wsX8_entry ({ frames := 0, cells := 0, slots := 0, locals := 0 } : Room) [.ref (q 0), .int i, .int p1] [(q 0, .inr (8, [.int v, .ref (q 1), .int (nI ms), .ref (q 3), .int (nI rs), .ref (q 5), .ref (q 6), .int bh, .ref (q 8), .ref (q 9), .ref (q 10), .ref (q 11), .ref (q 12), .int (nI tz), .int fa, .ref (q 15), .int (nI mz), .ref (q 17), .ref (q 18), .ref (q 19), .ref (q 20), .ref (q 21), .ref (q 22), .ref (q 23), .ref (q 24), .int (nI wn), .ref (q 26), .ref (q 27), .int (nI tk), .ref (q 29), .ref (q 30), .ref (q 31)])), (q 6, .inl (k 0, 96, .inl pl))] (po_X8_entry k q v ms rs bh tz fa mz wn tk pl i p1) := by
  refine ct_i_of (cc := cX8_entry) (nL := 4) (rt := (some .int)) (by decide) rfl (Nat.le_of_ble_eq_true rfl) ?_
  intro p_ e_ s_0 m_0 below_ meth_ c_0 A_0 C_0 hP hK hD hS hA ls hl
  obtain ⟨hx_, hb_, hml_, hr_, hown_, hlk_, hnm_, hts_⟩ := id C_0
  have hl : lv_has ls 4 [(0, .ref (q 0)), (1, .int i), (2, .int p1)] := hl
  refine lv_iload_n hx_ hb_ dX8_entry_0 rfl (lv_at hl 1 rfl) ?_
  refine lv_if_lt (tgt := 10) hx_ hb_ dX8_entry_1 (by decide) (fun cc1 => ?_) (fun cc1 => ?_)
  · skip
    refine lv_iconst (v := (-1)) hx_ hb_ dX8_entry_10 (by decide) ?_
    have eq1 : (pl : Nat → Int32) = me_p pl i p1 := by simp [me_r, me_p, eq_true cc1]
    have eqr : ((-1) : Int32) = me_r pl i p1 := by simp [me_r, me_p, eq_true cc1]
    exact ct_iret C_0 (hP.sub [0, 1] rfl) (hD.sub [0, 1] (by decide) rfl) hS (Nat.le_of_ble_eq_true rfl) (Nat.le_of_ble_eq_true rfl) dX8_entry_11 (⟨eqr, congrArg (fun (z1 : Nat → Int32) => ([(q 0, .inr (8, [.int v, .ref (q 1), .int (nI ms), .ref (q 3), .int (nI rs), .ref (q 5), .ref (q 6), .int bh, .ref (q 8), .ref (q 9), .ref (q 10), .ref (q 11), .ref (q 12), .int (nI tz), .int fa, .ref (q 15), .int (nI mz), .ref (q 17), .ref (q 18), .ref (q 19), .ref (q 20), .ref (q 21), .ref (q 22), .ref (q 23), .ref (q 24), .int (nI wn), .ref (q 26), .ref (q 27), .int (nI tk), .ref (q 29), .ref (q 30), .ref (q 31)])), (q 6, .inl (k 0, 96, .inl z1))] : va_W)) eq1⟩)
  · skip
    refine lv_iload_n hx_ hb_ dX8_entry_4 rfl (lv_at hl 1 rfl) ?_
    refine lv_bipush (v := 95) hx_ hb_ dX8_entry_5 (by decide) ?_
    refine lv_icmp_le (tgt := 12) hx_ hb_ dX8_entry_7 (by decide) (fun cc2 => ?_) (fun cc2 => ?_)
    · skip
      refine lv_iload_n hx_ hb_ dX8_entry_12 rfl (lv_at hl 2 rfl) ?_
      refine lv_iconst (v := (-1)) hx_ hb_ dX8_entry_13 (by decide) ?_
      refine lv_icmp_lt (tgt := 24) hx_ hb_ dX8_entry_14 (by decide) (fun cc3 => ?_) (fun cc3 => ?_)
      · skip
        refine lv_bipush (v := (-2)) hx_ hb_ dX8_entry_24 (by decide) ?_
        have eq1 : (pl : Nat → Int32) = me_p pl i p1 := by simp [me_r, me_p, eq_false cc1, eq_true cc2, eq_true cc3]
        have eqr : ((-2) : Int32) = me_r pl i p1 := by simp [me_r, me_p, eq_false cc1, eq_true cc2, eq_true cc3]
        exact ct_iret C_0 (hP.sub [0, 1] rfl) (hD.sub [0, 1] (by decide) rfl) hS (Nat.le_of_ble_eq_true rfl) (Nat.le_of_ble_eq_true rfl) dX8_entry_26 (⟨eqr, congrArg (fun (z1 : Nat → Int32) => ([(q 0, .inr (8, [.int v, .ref (q 1), .int (nI ms), .ref (q 3), .int (nI rs), .ref (q 5), .ref (q 6), .int bh, .ref (q 8), .ref (q 9), .ref (q 10), .ref (q 11), .ref (q 12), .int (nI tz), .int fa, .ref (q 15), .int (nI mz), .ref (q 17), .ref (q 18), .ref (q 19), .ref (q 20), .ref (q 21), .ref (q 22), .ref (q 23), .ref (q 24), .int (nI wn), .ref (q 26), .ref (q 27), .int (nI tk), .ref (q 29), .ref (q 30), .ref (q 31)])), (q 6, .inl (k 0, 96, .inl z1))] : va_W)) eq1⟩)
      · skip
        refine lv_iload_n hx_ hb_ dX8_entry_17 rfl (lv_at hl 2 rfl) ?_
        refine lv_sipush (v := 3000) hx_ hb_ dX8_entry_18 (by decide) ?_
        refine lv_icmp_le (tgt := 27) hx_ hb_ dX8_entry_21 (by decide) (fun cc4 => ?_) (fun cc4 => ?_)
        · skip
          refine lv_aload_n hx_ hb_ dX8_entry_27 rfl (lv_at hl 0 rfl) ?_
          refine va_get (D := D) (ci := 8) (v := .ref (q 6)) (C := RX8) (T := TX8) (N := 32) hx_ hb_ hts_ inM_X8 hown_ hK.1 hP 0 rfl rfl 6 (by decide) (hts_ _ (List.mem_cons_of_mem _ wa_f_X8_20)) (fun _ h9 => h9) rfl dX8_entry_28 ?_
          refine lv_iload_n hx_ hb_ dX8_entry_31 rfl (lv_at hl 1 rfl) ?_
          refine va_iald hx_ hb_ hK.1 hP 1 0 rfl rfl (mm_inc (n := 95) (by decide) cc1 cc2 (by decide)) dX8_entry_32 ?_
          refine lv_istore_n (lv' := [(3, .int (pl (Int32.toNatClampNeg i))), (0, .ref (q 0)), (1, .int i), (2, .int p1)]) hx_ hb_ dX8_entry_33 rfl hl (by decide) rfl (fun ls hl => ?_)
          refine lv_aload_n hx_ hb_ dX8_entry_34 rfl (lv_at hl 1 rfl) ?_
          refine va_get (D := D) (ci := 8) (v := .ref (q 6)) (C := RX8) (T := TX8) (N := 32) hx_ hb_ hts_ inM_X8 hown_ hK.1 hP 0 rfl rfl 6 (by decide) (hts_ _ (List.mem_cons_of_mem _ wa_f_X8_20)) (fun _ h9 => h9) rfl dX8_entry_35 ?_
          refine lv_iload_n hx_ hb_ dX8_entry_38 rfl (lv_at hl 2 rfl) ?_
          refine lv_iload_n hx_ hb_ dX8_entry_39 rfl (lv_at hl 3 rfl) ?_
          refine va_iast hx_ hb_ hK.1 hP hD hS 1 0 rfl rfl (mm_inc (n := 95) (by decide) cc1 cc2 (by decide)) dX8_entry_40 (fun H locs hP hD hS => ?_)
          have hP : va_P D vwCl [(q 0, .inr (8, [.int v, .ref (q 1), .int (nI ms), .ref (q 3), .int (nI rs), .ref (q 5), .ref (q 6), .int bh, .ref (q 8), .ref (q 9), .ref (q 10), .ref (q 11), .ref (q 12), .int (nI tz), .int fa, .ref (q 15), .int (nI mz), .ref (q 17), .ref (q 18), .ref (q 19), .ref (q 20), .ref (q 21), .ref (q 22), .ref (q 23), .ref (q 24), .int (nI wn), .ref (q 26), .ref (q 27), .int (nI tk), .ref (q 29), .ref (q 30), .ref (q 31)])), (q 6, .inl (k 0, 96, .inl (upd pl (Int32.toNatClampNeg i) p1)))] H := hP
          have hD : va_D A_0 [(q 0, .inr (8, [.int v, .ref (q 1), .int (nI ms), .ref (q 3), .int (nI rs), .ref (q 5), .ref (q 6), .int bh, .ref (q 8), .ref (q 9), .ref (q 10), .ref (q 11), .ref (q 12), .int (nI tz), .int fa, .ref (q 15), .int (nI mz), .ref (q 17), .ref (q 18), .ref (q 19), .ref (q 20), .ref (q 21), .ref (q 22), .ref (q 23), .ref (q 24), .int (nI wn), .ref (q 26), .ref (q 27), .int (nI tk), .ref (q 29), .ref (q 30), .ref (q 31)])), (q 6, .inl (k 0, 96, .inl (upd pl (Int32.toNatClampNeg i) p1)))] := hD
          refine lv_iload_n hx_ hb_ dX8_entry_41 rfl (lv_at hl 0 rfl) ?_
          have eq1 : (upd pl (Int32.toNatClampNeg i) p1 : Nat → Int32) = me_p pl i p1 := by simp [me_r, me_p, eq_false cc1, eq_true cc2, eq_false cc3, eq_true cc4]
          have eqr : (pl (Int32.toNatClampNeg i) : Int32) = me_r pl i p1 := by simp [me_r, me_p, eq_false cc1, eq_true cc2, eq_false cc3, eq_true cc4]
          exact ct_iret C_0 (hP.sub [0, 1] rfl) (hD.sub [0, 1] (by decide) rfl) hS (Nat.le_of_ble_eq_true rfl) (Nat.le_of_ble_eq_true rfl) dX8_entry_42 (⟨eqr, congrArg (fun (z1 : Nat → Int32) => ([(q 0, .inr (8, [.int v, .ref (q 1), .int (nI ms), .ref (q 3), .int (nI rs), .ref (q 5), .ref (q 6), .int bh, .ref (q 8), .ref (q 9), .ref (q 10), .ref (q 11), .ref (q 12), .int (nI tz), .int fa, .ref (q 15), .int (nI mz), .ref (q 17), .ref (q 18), .ref (q 19), .ref (q 20), .ref (q 21), .ref (q 22), .ref (q 23), .ref (q 24), .int (nI wn), .ref (q 26), .ref (q 27), .int (nI tk), .ref (q 29), .ref (q 30), .ref (q 31)])), (q 6, .inl (k 0, 96, .inl z1))] : va_W)) eq1⟩)
        · skip
          refine lv_bipush (v := (-2)) hx_ hb_ dX8_entry_24 (by decide) ?_
          have eq1 : (pl : Nat → Int32) = me_p pl i p1 := by simp [me_r, me_p, eq_false cc1, eq_true cc2, eq_false cc3, eq_false cc4]
          have eqr : ((-2) : Int32) = me_r pl i p1 := by simp [me_r, me_p, eq_false cc1, eq_true cc2, eq_false cc3, eq_false cc4]
          exact ct_iret C_0 (hP.sub [0, 1] rfl) (hD.sub [0, 1] (by decide) rfl) hS (Nat.le_of_ble_eq_true rfl) (Nat.le_of_ble_eq_true rfl) dX8_entry_26 (⟨eqr, congrArg (fun (z1 : Nat → Int32) => ([(q 0, .inr (8, [.int v, .ref (q 1), .int (nI ms), .ref (q 3), .int (nI rs), .ref (q 5), .ref (q 6), .int bh, .ref (q 8), .ref (q 9), .ref (q 10), .ref (q 11), .ref (q 12), .int (nI tz), .int fa, .ref (q 15), .int (nI mz), .ref (q 17), .ref (q 18), .ref (q 19), .ref (q 20), .ref (q 21), .ref (q 22), .ref (q 23), .ref (q 24), .int (nI wn), .ref (q 26), .ref (q 27), .int (nI tk), .ref (q 29), .ref (q 30), .ref (q 31)])), (q 6, .inl (k 0, 96, .inl z1))] : va_W)) eq1⟩)
    · skip
      refine lv_iconst (v := (-1)) hx_ hb_ dX8_entry_10 (by decide) ?_
      have eq1 : (pl : Nat → Int32) = me_p pl i p1 := by simp [me_r, me_p, eq_false cc1, eq_false cc2]
      have eqr : ((-1) : Int32) = me_r pl i p1 := by simp [me_r, me_p, eq_false cc1, eq_false cc2]
      exact ct_iret C_0 (hP.sub [0, 1] rfl) (hD.sub [0, 1] (by decide) rfl) hS (Nat.le_of_ble_eq_true rfl) (Nat.le_of_ble_eq_true rfl) dX8_entry_11 (⟨eqr, congrArg (fun (z1 : Nat → Int32) => ([(q 0, .inr (8, [.int v, .ref (q 1), .int (nI ms), .ref (q 3), .int (nI rs), .ref (q 5), .ref (q 6), .int bh, .ref (q 8), .ref (q 9), .ref (q 10), .ref (q 11), .ref (q 12), .int (nI tz), .int fa, .ref (q 15), .int (nI mz), .ref (q 17), .ref (q 18), .ref (q 19), .ref (q 20), .ref (q 21), .ref (q 22), .ref (q 23), .ref (q 24), .int (nI wn), .ref (q 26), .ref (q 27), .int (nI tk), .ref (q 29), .ref (q 30), .ref (q 31)])), (q 6, .inl (k 0, 96, .inl z1))] : va_W)) eq1⟩)
abbrev po_X8_start (k : Nat → ClassId) (q : Nat → Nat) (v : Int32) (ms : Nat) (rs : Nat) (bh : Int32) (tz : Nat) (fa : Int32) (mz : Nat) (wn : Nat) (tk : Nat) (n : NS) (lv : Nat) (p1 : Int32) : va_W → Prop := fun w1 => w1 = [(q 0, .inr (8, [.int v, .ref (q 1), .int (nI ms), .ref (q 3), .int (nI rs), .ref (q 5), .ref (q 6), .int bh, .ref (q 8), .ref (q 9), .ref (q 10), .ref (q 11), .ref (q 12), .int (nI tz), .int fa, .ref (q 15), .int (nI mz), .ref (q 17), .ref (q 18), .ref (q 19), .ref (q 20), .ref (q 21), .ref (q 22), .ref (q 23), .ref (q 24), .int (nI wn), .ref (q 26), .ref (q 27), .int (nI tk), .ref (q 29), .ref (q 30), .ref (q 31)])), (q 8, .inl (k 0, 2, .inl ((st_ lv p1 n).1))), (q 9, .inl (k 0, 2, .inl ((st_ lv p1 n).2.1))), (q 10, .inl (k 0, 2, .inl ((st_ lv p1 n).2.2.1))), (q 11, .inl (k 2, 2, .inl ((st_ lv p1 n).2.2.2)))]
set_option maxHeartbeats 4000000 in
set_option maxRecDepth 100000 in
/-- start -/
theorem k_X8_start (l : Launch) (D : va_G) (k : Nat → ClassId) (q : Nat → Nat) (v : Int32) (ms : Nat) (rs : Nat) (bh : Int32) (tz : Nat) (fa : Int32) (mz : Nat) (wn : Nat) (tk : Nat) (n : NS) (lv : Nat) (p1 : Int32) (hlv : lv < 2) : ct_v l D (TY k) yX8_start wsX8_start ({ frames := 0, cells := 0, slots := 0, locals := 0 } : Room) [.ref (q 0), .int (nI lv), .int p1] [(q 0, .inr (8, [.int v, .ref (q 1), .int (nI ms), .ref (q 3), .int (nI rs), .ref (q 5), .ref (q 6), .int bh, .ref (q 8), .ref (q 9), .ref (q 10), .ref (q 11), .ref (q 12), .int (nI tz), .int fa, .ref (q 15), .int (nI mz), .ref (q 17), .ref (q 18), .ref (q 19), .ref (q 20), .ref (q 21), .ref (q 22), .ref (q 23), .ref (q 24), .int (nI wn), .ref (q 26), .ref (q 27), .int (nI tk), .ref (q 29), .ref (q 30), .ref (q 31)])), (q 8, .inl (k 0, 2, .inl n.1)), (q 9, .inl (k 0, 2, .inl n.2.1)), (q 10, .inl (k 0, 2, .inl n.2.2.1)), (q 11, .inl (k 2, 2, .inl n.2.2.2))] (po_X8_start k q v ms rs bh tz fa mz wn tk n lv p1) := by
  refine ct_v_of (cc := cX8_start) (nL := 3) (rt := none) (by decide) rfl (Nat.le_of_ble_eq_true rfl) ?_
  intro p_ e_ s_0 m_0 below_ meth_ c_0 A_0 C_0 hP hK hD hS hA ls hl
  obtain ⟨hx_, hb_, hml_, hr_, hown_, hlk_, hnm_, hts_⟩ := id C_0
  have hl : lv_has ls 3 [(0, .ref (q 0)), (1, .int (nI lv)), (2, .int p1)] := hl
  refine lv_aload_n hx_ hb_ dX8_start_0 rfl (lv_at hl 0 rfl) ?_
  refine va_get (D := D) (ci := 8) (v := .ref (q 8)) (C := RX8) (T := TX8) (N := 32) hx_ hb_ hts_ inM_X8 hown_ hK.1 hP 0 rfl rfl 8 (by decide) (hts_ _ (List.mem_cons_of_mem _ wa_f_X8_23)) (fun _ h9 => h9) rfl dX8_start_1 ?_
  refine lv_iload_n hx_ hb_ dX8_start_4 rfl (lv_at hl 1 rfl) ?_
  refine lv_iload_n hx_ hb_ dX8_start_5 rfl (lv_at hl 2 rfl) ?_
  refine va_iast hx_ hb_ hK.1 hP hD hS 1 0 rfl rfl (vp_in_nI (by omega) (by decide)) dX8_start_6 (fun H locs hP hD hS => ?_)
  rw [show Int32.toNatClampNeg (nI lv) = lv from nI_clamp (by omega)] at hP hD
  have hP : va_P D vwCl [(q 0, .inr (8, [.int v, .ref (q 1), .int (nI ms), .ref (q 3), .int (nI rs), .ref (q 5), .ref (q 6), .int bh, .ref (q 8), .ref (q 9), .ref (q 10), .ref (q 11), .ref (q 12), .int (nI tz), .int fa, .ref (q 15), .int (nI mz), .ref (q 17), .ref (q 18), .ref (q 19), .ref (q 20), .ref (q 21), .ref (q 22), .ref (q 23), .ref (q 24), .int (nI wn), .ref (q 26), .ref (q 27), .int (nI tk), .ref (q 29), .ref (q 30), .ref (q 31)])), (q 8, .inl (k 0, 2, .inl (upd n.1 lv p1))), (q 9, .inl (k 0, 2, .inl n.2.1)), (q 10, .inl (k 0, 2, .inl n.2.2.1)), (q 11, .inl (k 2, 2, .inl n.2.2.2))] H := hP
  have hD : va_D A_0 [(q 0, .inr (8, [.int v, .ref (q 1), .int (nI ms), .ref (q 3), .int (nI rs), .ref (q 5), .ref (q 6), .int bh, .ref (q 8), .ref (q 9), .ref (q 10), .ref (q 11), .ref (q 12), .int (nI tz), .int fa, .ref (q 15), .int (nI mz), .ref (q 17), .ref (q 18), .ref (q 19), .ref (q 20), .ref (q 21), .ref (q 22), .ref (q 23), .ref (q 24), .int (nI wn), .ref (q 26), .ref (q 27), .int (nI tk), .ref (q 29), .ref (q 30), .ref (q 31)])), (q 8, .inl (k 0, 2, .inl (upd n.1 lv p1))), (q 9, .inl (k 0, 2, .inl n.2.1)), (q 10, .inl (k 0, 2, .inl n.2.2.1)), (q 11, .inl (k 2, 2, .inl n.2.2.2))] := hD
  refine lv_aload_n hx_ hb_ dX8_start_7 rfl (lv_at hl 0 rfl) ?_
  refine va_get (D := D) (ci := 8) (v := .ref (q 9)) (C := RX8) (T := TX8) (N := 32) hx_ hb_ hts_ inM_X8 hown_ hK.1 hP 0 rfl rfl 9 (by decide) (hts_ _ (List.mem_cons_of_mem _ wa_f_X8_26)) (fun _ h9 => h9) rfl dX8_start_8 ?_
  refine lv_iload_n hx_ hb_ dX8_start_11 rfl (lv_at hl 1 rfl) ?_
  refine lv_iconst (v := 0) hx_ hb_ dX8_start_12 (by decide) ?_
  refine va_iast hx_ hb_ hK.1 hP hD hS 2 0 rfl rfl (vp_in_nI (by omega) (by decide)) dX8_start_13 (fun H locs hP hD hS => ?_)
  rw [show Int32.toNatClampNeg (nI lv) = lv from nI_clamp (by omega)] at hP hD
  have hP : va_P D vwCl [(q 0, .inr (8, [.int v, .ref (q 1), .int (nI ms), .ref (q 3), .int (nI rs), .ref (q 5), .ref (q 6), .int bh, .ref (q 8), .ref (q 9), .ref (q 10), .ref (q 11), .ref (q 12), .int (nI tz), .int fa, .ref (q 15), .int (nI mz), .ref (q 17), .ref (q 18), .ref (q 19), .ref (q 20), .ref (q 21), .ref (q 22), .ref (q 23), .ref (q 24), .int (nI wn), .ref (q 26), .ref (q 27), .int (nI tk), .ref (q 29), .ref (q 30), .ref (q 31)])), (q 8, .inl (k 0, 2, .inl (upd n.1 lv p1))), (q 9, .inl (k 0, 2, .inl (upd n.2.1 lv 0))), (q 10, .inl (k 0, 2, .inl n.2.2.1)), (q 11, .inl (k 2, 2, .inl n.2.2.2))] H := hP
  have hD : va_D A_0 [(q 0, .inr (8, [.int v, .ref (q 1), .int (nI ms), .ref (q 3), .int (nI rs), .ref (q 5), .ref (q 6), .int bh, .ref (q 8), .ref (q 9), .ref (q 10), .ref (q 11), .ref (q 12), .int (nI tz), .int fa, .ref (q 15), .int (nI mz), .ref (q 17), .ref (q 18), .ref (q 19), .ref (q 20), .ref (q 21), .ref (q 22), .ref (q 23), .ref (q 24), .int (nI wn), .ref (q 26), .ref (q 27), .int (nI tk), .ref (q 29), .ref (q 30), .ref (q 31)])), (q 8, .inl (k 0, 2, .inl (upd n.1 lv p1))), (q 9, .inl (k 0, 2, .inl (upd n.2.1 lv 0))), (q 10, .inl (k 0, 2, .inl n.2.2.1)), (q 11, .inl (k 2, 2, .inl n.2.2.2))] := hD
  refine lv_aload_n hx_ hb_ dX8_start_14 rfl (lv_at hl 0 rfl) ?_
  refine va_get (D := D) (ci := 8) (v := .ref (q 11)) (C := RX8) (T := TX8) (N := 32) hx_ hb_ hts_ inM_X8 hown_ hK.1 hP 0 rfl rfl 11 (by decide) (hts_ _ (List.mem_cons_of_mem _ wa_f_X8_32)) (fun _ h9 => h9) rfl dX8_start_15 ?_
  refine lv_iload_n hx_ hb_ dX8_start_18 rfl (lv_at hl 1 rfl) ?_
  refine lv_iconst (v := 0) hx_ hb_ dX8_start_19 (by decide) ?_
  refine va_zast hx_ hb_ hK.1 hP hD hS 4 2 rfl rfl (vp_in_nI (by omega) (by decide)) dX8_start_20 (fun H locs hP hD hS => ?_)
  rw [show Int32.toNatClampNeg (nI lv) = lv from nI_clamp (by omega)] at hP hD
  have hP : va_P D vwCl [(q 0, .inr (8, [.int v, .ref (q 1), .int (nI ms), .ref (q 3), .int (nI rs), .ref (q 5), .ref (q 6), .int bh, .ref (q 8), .ref (q 9), .ref (q 10), .ref (q 11), .ref (q 12), .int (nI tz), .int fa, .ref (q 15), .int (nI mz), .ref (q 17), .ref (q 18), .ref (q 19), .ref (q 20), .ref (q 21), .ref (q 22), .ref (q 23), .ref (q 24), .int (nI wn), .ref (q 26), .ref (q 27), .int (nI tk), .ref (q 29), .ref (q 30), .ref (q 31)])), (q 8, .inl (k 0, 2, .inl (upd n.1 lv p1))), (q 9, .inl (k 0, 2, .inl (upd n.2.1 lv 0))), (q 10, .inl (k 0, 2, .inl n.2.2.1)), (q 11, .inl (k 2, 2, .inl (upd n.2.2.2 lv 0)))] H := hP
  have hD : va_D A_0 [(q 0, .inr (8, [.int v, .ref (q 1), .int (nI ms), .ref (q 3), .int (nI rs), .ref (q 5), .ref (q 6), .int bh, .ref (q 8), .ref (q 9), .ref (q 10), .ref (q 11), .ref (q 12), .int (nI tz), .int fa, .ref (q 15), .int (nI mz), .ref (q 17), .ref (q 18), .ref (q 19), .ref (q 20), .ref (q 21), .ref (q 22), .ref (q 23), .ref (q 24), .int (nI wn), .ref (q 26), .ref (q 27), .int (nI tk), .ref (q 29), .ref (q 30), .ref (q 31)])), (q 8, .inl (k 0, 2, .inl (upd n.1 lv p1))), (q 9, .inl (k 0, 2, .inl (upd n.2.1 lv 0))), (q 10, .inl (k 0, 2, .inl n.2.2.1)), (q 11, .inl (k 2, 2, .inl (upd n.2.2.2 lv 0)))] := hD
  have eq1 : (upd n.1 lv p1 : Nat → Int32) = (st_ lv p1 n).1 := by rfl
  have eq2 : (upd n.2.1 lv 0 : Nat → Int32) = (st_ lv p1 n).2.1 := by rfl
  have eq3 : (n.2.2.1 : Nat → Int32) = (st_ lv p1 n).2.2.1 := by rfl
  have eq4 : (upd n.2.2.2 lv 0 : Nat → Int32) = (st_ lv p1 n).2.2.2 := by rfl
  exact ct_vret C_0 (hP.sub [0, 1, 2, 3, 4] rfl) (hD.sub [0, 1, 2, 3, 4] (by decide) rfl) hS (Nat.le_of_ble_eq_true rfl) (Nat.le_of_ble_eq_true rfl) dX8_start_21 (congr (congr (congr (congrArg (fun (z1 : Nat → Int32) (z2 : Nat → Int32) (z3 : Nat → Int32) (z4 : Nat → Int32) => ([(q 0, .inr (8, [.int v, .ref (q 1), .int (nI ms), .ref (q 3), .int (nI rs), .ref (q 5), .ref (q 6), .int bh, .ref (q 8), .ref (q 9), .ref (q 10), .ref (q 11), .ref (q 12), .int (nI tz), .int fa, .ref (q 15), .int (nI mz), .ref (q 17), .ref (q 18), .ref (q 19), .ref (q 20), .ref (q 21), .ref (q 22), .ref (q 23), .ref (q 24), .int (nI wn), .ref (q 26), .ref (q 27), .int (nI tk), .ref (q 29), .ref (q 30), .ref (q 31)])), (q 8, .inl (k 0, 2, .inl z1)), (q 9, .inl (k 0, 2, .inl z2)), (q 10, .inl (k 0, 2, .inl z3)), (q 11, .inl (k 2, 2, .inl z4))] : va_W)) eq1) eq2) eq3) eq4)
abbrev po_X8_number (k : Nat → ClassId) (q : Nat → Nat) (v : Int32) (ms : Nat) (rs : Nat) (bh : Int32) (tz : Nat) (fa : Int32) (mz : Nat) (wn : Nat) (tk : Nat) (mb : Nat → Int32) (n : NS) (lv : Nat) (p1 : Nat) : Int32 → va_W → Prop := fun ans_ w1 => ans_ = (nu ms mb lv p1 fa n).1 ∧ w1 = [(q 0, .inr (8, [.int v, .ref (q 1), .int (nI ms), .ref (q 3), .int (nI rs), .ref (q 5), .ref (q 6), .int bh, .ref (q 8), .ref (q 9), .ref (q 10), .ref (q 11), .ref (q 12), .int (nI tz), .int ((nu ms mb lv p1 fa n).2.1), .ref (q 15), .int (nI mz), .ref (q 17), .ref (q 18), .ref (q 19), .ref (q 20), .ref (q 21), .ref (q 22), .ref (q 23), .ref (q 24), .int (nI wn), .ref (q 26), .ref (q 27), .int (nI tk), .ref (q 29), .ref (q 30), .ref (q 31)])), (q 1, .inl (k 3, 3000, .inl mb)), (q 8, .inl (k 0, 2, .inl (((nu ms mb lv p1 fa n).2.2).1))), (q 9, .inl (k 0, 2, .inl (((nu ms mb lv p1 fa n).2.2).2.1))), (q 10, .inl (k 0, 2, .inl (((nu ms mb lv p1 fa n).2.2).2.2.1))), (q 11, .inl (k 2, 2, .inl (((nu ms mb lv p1 fa n).2.2).2.2.2)))]
set_option maxHeartbeats 4000000 in
set_option maxRecDepth 100000 in
/-- number -/
theorem k_X8_number (l : Launch) (D : va_G) (k : Nat → ClassId) (q : Nat → Nat) (v : Int32) (ms : Nat) (rs : Nat) (bh : Int32) (tz : Nat) (fa : Int32) (mz : Nat) (wn : Nat) (tk : Nat) (mb : Nat → Int32) (n : NS) (lv : Nat) (p1 : Nat) (hms : ms ≤ 3000) (hlv : lv < 2) (hp : n.1 lv = nI p1) (hp2 : p1 ≤ 6000) : ct_i l D (TY k) yX8_number wsX8_number ({ frames := 0, cells := 0, slots := 0, locals := 0 } : Room) [.ref (q 0), .int (nI lv)] [(q 0, .inr (8, [.int v, .ref (q 1), .int (nI ms), .ref (q 3), .int (nI rs), .ref (q 5), .ref (q 6), .int bh, .ref (q 8), .ref (q 9), .ref (q 10), .ref (q 11), .ref (q 12), .int (nI tz), .int fa, .ref (q 15), .int (nI mz), .ref (q 17), .ref (q 18), .ref (q 19), .ref (q 20), .ref (q 21), .ref (q 22), .ref (q 23), .ref (q 24), .int (nI wn), .ref (q 26), .ref (q 27), .int (nI tk), .ref (q 29), .ref (q 30), .ref (q 31)])), (q 1, .inl (k 3, 3000, .inl mb)), (q 8, .inl (k 0, 2, .inl n.1)), (q 9, .inl (k 0, 2, .inl n.2.1)), (q 10, .inl (k 0, 2, .inl n.2.2.1)), (q 11, .inl (k 2, 2, .inl n.2.2.2))] (po_X8_number k q v ms rs bh tz fa mz wn tk mb n lv p1) := by
  refine ct_i_of (cc := cX8_number) (nL := 3) (rt := (some .int)) (by decide) rfl (Nat.le_of_ble_eq_true rfl) ?_
  intro p_ e_ s_0 m_0 below_ meth_ c_0 A_0 C_0 hP hK hD hS hA ls hl
  obtain ⟨hx_, hb_, hml_, hr_, hown_, hlk_, hnm_, hts_⟩ := id C_0
  have hl : lv_has ls 3 [(0, .ref (q 0)), (1, .int (nI lv))] := hl
  refine lv_aload_n hx_ hb_ dX8_number_0 rfl (lv_at hl 0 rfl) ?_
  refine va_get (D := D) (ci := 8) (v := .ref (q 9)) (C := RX8) (T := TX8) (N := 32) hx_ hb_ hts_ inM_X8 hown_ hK.1 hP 0 rfl rfl 9 (by decide) (hts_ _ (List.mem_cons_of_mem _ wa_f_X8_26)) (fun _ h9 => h9) rfl dX8_number_1 ?_
  refine lv_iload_n hx_ hb_ dX8_number_4 rfl (lv_at hl 1 rfl) ?_
  refine va_iald hx_ hb_ hK.1 hP 3 0 rfl rfl (vp_in_nI (by omega) (by decide)) dX8_number_5 ?_
  refine lv_ti (y := n.2.1 lv) (congrArg _ (nI_clamp (by omega))) ?_
  refine lv_if_ne (tgt := 115) hx_ hb_ dX8_number_6 (by decide) (fun cc1 => ?_) (fun cc1 => ?_)
  · skip
    refine lv_aload_n hx_ hb_ dX8_number_115 rfl (lv_at hl 0 rfl) ?_
    refine va_get (D := D) (ci := 8) (v := .ref (q 9)) (C := RX8) (T := TX8) (N := 32) hx_ hb_ hts_ inM_X8 hown_ hK.1 hP 0 rfl rfl 9 (by decide) (hts_ _ (List.mem_cons_of_mem _ wa_f_X8_26)) (fun _ h9 => h9) rfl dX8_number_116 ?_
    refine lv_iload_n hx_ hb_ dX8_number_119 rfl (lv_at hl 1 rfl) ?_
    refine lv_dup2_11 hx_ hb_ dX8_number_120 rfl rfl ?_
    refine va_iald hx_ hb_ hK.1 hP 3 0 rfl rfl (vp_in_nI (by omega) (by decide)) dX8_number_121 ?_
    refine lv_ti (y := n.2.1 lv) (congrArg _ (nI_clamp (by omega))) ?_
    refine lv_iconst (v := 1) hx_ hb_ dX8_number_122 (by decide) ?_
    refine lv_isub hx_ hb_ dX8_number_123 ?_
    refine va_iast hx_ hb_ hK.1 hP hD hS 3 0 rfl rfl (vp_in_nI (by omega) (by decide)) dX8_number_124 (fun H locs hP hD hS => ?_)
    rw [show Int32.toNatClampNeg (nI lv) = lv from nI_clamp (by omega)] at hP hD
    have hP : va_P D vwCl [(q 0, .inr (8, [.int v, .ref (q 1), .int (nI ms), .ref (q 3), .int (nI rs), .ref (q 5), .ref (q 6), .int bh, .ref (q 8), .ref (q 9), .ref (q 10), .ref (q 11), .ref (q 12), .int (nI tz), .int fa, .ref (q 15), .int (nI mz), .ref (q 17), .ref (q 18), .ref (q 19), .ref (q 20), .ref (q 21), .ref (q 22), .ref (q 23), .ref (q 24), .int (nI wn), .ref (q 26), .ref (q 27), .int (nI tk), .ref (q 29), .ref (q 30), .ref (q 31)])), (q 1, .inl (k 3, 3000, .inl mb)), (q 8, .inl (k 0, 2, .inl n.1)), (q 9, .inl (k 0, 2, .inl (upd n.2.1 lv ((n.2.1 lv) - 1)))), (q 10, .inl (k 0, 2, .inl n.2.2.1)), (q 11, .inl (k 2, 2, .inl n.2.2.2))] H := hP
    have hD : va_D A_0 [(q 0, .inr (8, [.int v, .ref (q 1), .int (nI ms), .ref (q 3), .int (nI rs), .ref (q 5), .ref (q 6), .int bh, .ref (q 8), .ref (q 9), .ref (q 10), .ref (q 11), .ref (q 12), .int (nI tz), .int fa, .ref (q 15), .int (nI mz), .ref (q 17), .ref (q 18), .ref (q 19), .ref (q 20), .ref (q 21), .ref (q 22), .ref (q 23), .ref (q 24), .int (nI wn), .ref (q 26), .ref (q 27), .int (nI tk), .ref (q 29), .ref (q 30), .ref (q 31)])), (q 1, .inl (k 3, 3000, .inl mb)), (q 8, .inl (k 0, 2, .inl n.1)), (q 9, .inl (k 0, 2, .inl (upd n.2.1 lv ((n.2.1 lv) - 1)))), (q 10, .inl (k 0, 2, .inl n.2.2.1)), (q 11, .inl (k 2, 2, .inl n.2.2.2))] := hD
    refine lv_aload_n hx_ hb_ dX8_number_125 rfl (lv_at hl 0 rfl) ?_
    refine va_get (D := D) (ci := 8) (v := .ref (q 10)) (C := RX8) (T := TX8) (N := 32) hx_ hb_ hts_ inM_X8 hown_ hK.1 hP 0 rfl rfl 10 (by decide) (hts_ _ (List.mem_cons_of_mem _ wa_f_X8_29)) (fun _ h9 => h9) rfl dX8_number_126 ?_
    refine lv_iload_n hx_ hb_ dX8_number_129 rfl (lv_at hl 1 rfl) ?_
    refine va_iald hx_ hb_ hK.1 hP 4 0 rfl rfl (vp_in_nI (by omega) (by decide)) dX8_number_130 ?_
    refine lv_ti (y := n.2.2.1 lv) (congrArg _ (nI_clamp (by omega))) ?_
    refine lv_iconst (v := 5) hx_ hb_ dX8_number_131 (by decide) ?_
    refine lv_aload_n hx_ hb_ dX8_number_132 rfl (lv_at hl 0 rfl) ?_
    refine va_get (D := D) (ci := 8) (v := .ref (q 9)) (C := RX8) (T := TX8) (N := 32) hx_ hb_ hts_ inM_X8 hown_ hK.1 hP 0 rfl rfl 9 (by decide) (hts_ _ (List.mem_cons_of_mem _ wa_f_X8_26)) (fun _ h9 => h9) rfl dX8_number_133 ?_
    refine lv_iload_n hx_ hb_ dX8_number_136 rfl (lv_at hl 1 rfl) ?_
    refine va_iald hx_ hb_ hK.1 hP 3 0 rfl rfl (vp_in_nI (by omega) (by decide)) dX8_number_137 ?_
    refine lv_ti (y := (upd n.2.1 lv ((n.2.1 lv) - 1)) lv) (congrArg _ (nI_clamp (by omega))) ?_
    refine lv_imul hx_ hb_ dX8_number_138 ?_
    refine lv_ishr hx_ hb_ dX8_number_139 ?_
    refine lv_bipush (v := 31) hx_ hb_ dX8_number_140 (by decide) ?_
    refine lv_iand hx_ hb_ dX8_number_142 ?_
    have eq1 : (fa : Int32) = (nu ms mb lv p1 fa n).2.1 := by simp [nu, nu_val, nu_step, nu_fill, upd_s, eq_false cc1]
    have eq2 : (n.1 : Nat → Int32) = (nu ms mb lv p1 fa n).2.2.1 := by simp [nu, nu_val, nu_step, nu_fill, upd_s, eq_false cc1]
    have eq3 : (upd n.2.1 lv ((n.2.1 lv) - 1) : Nat → Int32) = (nu ms mb lv p1 fa n).2.2.2.1 := by simp [nu, nu_val, nu_step, nu_fill, upd_s, eq_false cc1]
    have eq4 : (n.2.2.1 : Nat → Int32) = (nu ms mb lv p1 fa n).2.2.2.2.1 := by simp [nu, nu_val, nu_step, nu_fill, upd_s, eq_false cc1]
    have eq5 : (n.2.2.2 : Nat → Int32) = (nu ms mb lv p1 fa n).2.2.2.2.2 := by simp [nu, nu_val, nu_step, nu_fill, upd_s, eq_false cc1]
    have eqr : (((n.2.2.1 lv) >>> ((5 * ((upd n.2.1 lv ((n.2.1 lv) - 1)) lv)) &&& 31)) &&& 31 : Int32) = (nu ms mb lv p1 fa n).1 := by simp [nu, nu_val, nu_step, nu_fill, upd_s, eq_false cc1]
    exact ct_iret C_0 (hP.sub [0, 1, 2, 3, 4, 5] rfl) (hD.sub [0, 1, 2, 3, 4, 5] (by decide) rfl) hS (Nat.le_of_ble_eq_true rfl) (Nat.le_of_ble_eq_true rfl) dX8_number_143 (⟨eqr, congr (congr (congr (congr (congrArg (fun (z1 : Int32) (z2 : Nat → Int32) (z3 : Nat → Int32) (z4 : Nat → Int32) (z5 : Nat → Int32) => ([(q 0, .inr (8, [.int v, .ref (q 1), .int (nI ms), .ref (q 3), .int (nI rs), .ref (q 5), .ref (q 6), .int bh, .ref (q 8), .ref (q 9), .ref (q 10), .ref (q 11), .ref (q 12), .int (nI tz), .int z1, .ref (q 15), .int (nI mz), .ref (q 17), .ref (q 18), .ref (q 19), .ref (q 20), .ref (q 21), .ref (q 22), .ref (q 23), .ref (q 24), .int (nI wn), .ref (q 26), .ref (q 27), .int (nI tk), .ref (q 29), .ref (q 30), .ref (q 31)])), (q 1, .inl (k 3, 3000, .inl mb)), (q 8, .inl (k 0, 2, .inl z2)), (q 9, .inl (k 0, 2, .inl z3)), (q 10, .inl (k 0, 2, .inl z4)), (q 11, .inl (k 2, 2, .inl z5))] : va_W)) eq1) eq2) eq3) eq4) eq5⟩)
  · skip
    refine lv_aload_n hx_ hb_ dX8_number_9 rfl (lv_at hl 0 rfl) ?_
    refine va_get (D := D) (ci := 8) (v := .ref (q 11)) (C := RX8) (T := TX8) (N := 32) hx_ hb_ hts_ inM_X8 hown_ hK.1 hP 0 rfl rfl 11 (by decide) (hts_ _ (List.mem_cons_of_mem _ wa_f_X8_32)) (fun _ h9 => h9) rfl dX8_number_10 ?_
    refine lv_iload_n hx_ hb_ dX8_number_13 rfl (lv_at hl 1 rfl) ?_
    refine va_zald hx_ hb_ hK.1 hP 5 2 rfl rfl (vp_in_nI (by omega) (by decide)) dX8_number_14 ?_
    refine lv_ti (y := n.2.2.2 lv) (congrArg _ (nI_clamp (by omega))) ?_
    refine lv_if_eq (tgt := 20) hx_ hb_ dX8_number_15 (by decide) (fun cc2 => ?_) (fun cc2 => ?_)
    · skip
      refine lv_aload_n hx_ hb_ dX8_number_20 rfl (lv_at hl 0 rfl) ?_
      refine va_get (D := D) (ci := 8) (v := .ref (q 8)) (C := RX8) (T := TX8) (N := 32) hx_ hb_ hts_ inM_X8 hown_ hK.1 hP 0 rfl rfl 8 (by decide) (hts_ _ (List.mem_cons_of_mem _ wa_f_X8_23)) (fun _ h9 => h9) rfl dX8_number_21 ?_
      refine lv_iload_n hx_ hb_ dX8_number_24 rfl (lv_at hl 1 rfl) ?_
      refine va_iald hx_ hb_ hK.1 hP 2 0 rfl rfl (vp_in_nI (by omega) (by decide)) dX8_number_25 ?_
      refine lv_ti (y := n.1 lv) (congrArg _ (nI_clamp (by omega))) ?_
      refine lv_ti (y := nI p1) (hp) ?_
      refine lv_istore_n (lv' := [(2, .int (nI p1)), (0, .ref (q 0)), (1, .int (nI lv))]) hx_ hb_ dX8_number_26 rfl hl (by decide) rfl (fun ls hl => ?_)
      refine lv_iload_n hx_ hb_ dX8_number_27 rfl (lv_at hl 0 rfl) ?_
      refine lv_iconst (v := 2) hx_ hb_ dX8_number_28 (by decide) ?_
      refine lv_iadd hx_ hb_ dX8_number_29 ?_
      refine lv_ti (y := nI (p1 + 2)) (nI_add _ _) ?_
      refine lv_aload_n hx_ hb_ dX8_number_30 rfl (lv_at hl 1 rfl) ?_
      refine va_get (D := D) (ci := 8) (v := .int (nI ms)) (C := RX8) (T := TX8) (N := 32) hx_ hb_ hts_ inM_X8 hown_ hK.1 hP 0 rfl rfl 2 (by decide) (hts_ _ (List.mem_cons_of_mem _ wa_f_X8_91)) (fun _ h9 => h9) rfl dX8_number_31 ?_
      refine lv_icmp_le (tgt := 44) hx_ hb_ dX8_number_34 (by decide) (fun cc3 => ?_) (fun cc3 => ?_)
      · have nn3 : (p1 + 2) ≤ ms := (nI_leI (a := (p1 + 2)) (b := ms) (by omega) (by omega)).mp cc3
        have nn3m : ¬ ms < (p1 + 2) := by omega
        refine lv_aload_n hx_ hb_ dX8_number_44 rfl (lv_at hl 1 rfl) ?_
        refine va_get (D := D) (ci := 8) (v := .ref (q 10)) (C := RX8) (T := TX8) (N := 32) hx_ hb_ hts_ inM_X8 hown_ hK.1 hP 0 rfl rfl 10 (by decide) (hts_ _ (List.mem_cons_of_mem _ wa_f_X8_29)) (fun _ h9 => h9) rfl dX8_number_45 ?_
        refine lv_iload_n hx_ hb_ dX8_number_48 rfl (lv_at hl 2 rfl) ?_
        refine lv_aload_n hx_ hb_ dX8_number_49 rfl (lv_at hl 1 rfl) ?_
        refine va_get (D := D) (ci := 8) (v := .ref (q 1)) (C := RX8) (T := TX8) (N := 32) hx_ hb_ hts_ inM_X8 hown_ hK.1 hP 0 rfl rfl 1 (by decide) (hts_ _ (List.mem_cons_of_mem _ wa_f_X8_7)) (fun _ h9 => h9) rfl dX8_number_50 ?_
        refine lv_iload_n hx_ hb_ dX8_number_53 rfl (lv_at hl 0 rfl) ?_
        refine va_bald hx_ hb_ hK.1 hP 1 3 rfl rfl (vp_in_nI (by omega) (by decide)) dX8_number_54 ?_
        refine lv_ti (y := mb p1) (congrArg _ (nI_clamp (by omega))) ?_
        refine lv_sipush (v := 255) hx_ hb_ dX8_number_55 (by decide) ?_
        refine lv_iand hx_ hb_ dX8_number_58 ?_
        refine lv_bipush (v := 8) hx_ hb_ dX8_number_59 (by decide) ?_
        refine lv_ishl hx_ hb_ dX8_number_61 ?_
        refine lv_aload_n hx_ hb_ dX8_number_62 rfl (lv_at hl 1 rfl) ?_
        refine va_get (D := D) (ci := 8) (v := .ref (q 1)) (C := RX8) (T := TX8) (N := 32) hx_ hb_ hts_ inM_X8 hown_ hK.1 hP 0 rfl rfl 1 (by decide) (hts_ _ (List.mem_cons_of_mem _ wa_f_X8_7)) (fun _ h9 => h9) rfl dX8_number_63 ?_
        refine lv_iload_n hx_ hb_ dX8_number_66 rfl (lv_at hl 0 rfl) ?_
        refine lv_iconst (v := 1) hx_ hb_ dX8_number_67 (by decide) ?_
        refine lv_iadd hx_ hb_ dX8_number_68 ?_
        refine lv_ti (y := nI (p1 + 1)) (nI_add _ _) ?_
        refine va_bald hx_ hb_ hK.1 hP 1 3 rfl rfl (vp_in_nI (by omega) (by decide)) dX8_number_69 ?_
        refine lv_ti (y := mb (p1 + 1)) (congrArg _ (nI_clamp (by omega))) ?_
        refine lv_sipush (v := 255) hx_ hb_ dX8_number_70 (by decide) ?_
        refine lv_iand hx_ hb_ dX8_number_73 ?_
        refine lv_ior hx_ hb_ dX8_number_74 ?_
        refine lv_ti (y := nu_w mb p1) (rfl) ?_
        refine va_iast hx_ hb_ hK.1 hP hD hS 4 0 rfl rfl (vp_in_nI (by omega) (by decide)) dX8_number_75 (fun H locs hP hD hS => ?_)
        rw [show Int32.toNatClampNeg (nI lv) = lv from nI_clamp (by omega)] at hP hD
        have hP : va_P D vwCl [(q 0, .inr (8, [.int v, .ref (q 1), .int (nI ms), .ref (q 3), .int (nI rs), .ref (q 5), .ref (q 6), .int bh, .ref (q 8), .ref (q 9), .ref (q 10), .ref (q 11), .ref (q 12), .int (nI tz), .int fa, .ref (q 15), .int (nI mz), .ref (q 17), .ref (q 18), .ref (q 19), .ref (q 20), .ref (q 21), .ref (q 22), .ref (q 23), .ref (q 24), .int (nI wn), .ref (q 26), .ref (q 27), .int (nI tk), .ref (q 29), .ref (q 30), .ref (q 31)])), (q 1, .inl (k 3, 3000, .inl mb)), (q 8, .inl (k 0, 2, .inl n.1)), (q 9, .inl (k 0, 2, .inl n.2.1)), (q 10, .inl (k 0, 2, .inl (upd n.2.2.1 lv (nu_w mb p1)))), (q 11, .inl (k 2, 2, .inl n.2.2.2))] H := hP
        have hD : va_D A_0 [(q 0, .inr (8, [.int v, .ref (q 1), .int (nI ms), .ref (q 3), .int (nI rs), .ref (q 5), .ref (q 6), .int bh, .ref (q 8), .ref (q 9), .ref (q 10), .ref (q 11), .ref (q 12), .int (nI tz), .int fa, .ref (q 15), .int (nI mz), .ref (q 17), .ref (q 18), .ref (q 19), .ref (q 20), .ref (q 21), .ref (q 22), .ref (q 23), .ref (q 24), .int (nI wn), .ref (q 26), .ref (q 27), .int (nI tk), .ref (q 29), .ref (q 30), .ref (q 31)])), (q 1, .inl (k 3, 3000, .inl mb)), (q 8, .inl (k 0, 2, .inl n.1)), (q 9, .inl (k 0, 2, .inl n.2.1)), (q 10, .inl (k 0, 2, .inl (upd n.2.2.1 lv (nu_w mb p1)))), (q 11, .inl (k 2, 2, .inl n.2.2.2))] := hD
        refine lv_aload_n hx_ hb_ dX8_number_76 rfl (lv_at hl 1 rfl) ?_
        refine va_get (D := D) (ci := 8) (v := .ref (q 11)) (C := RX8) (T := TX8) (N := 32) hx_ hb_ hts_ inM_X8 hown_ hK.1 hP 0 rfl rfl 11 (by decide) (hts_ _ (List.mem_cons_of_mem _ wa_f_X8_32)) (fun _ h9 => h9) rfl dX8_number_77 ?_
        refine lv_iload_n hx_ hb_ dX8_number_80 rfl (lv_at hl 2 rfl) ?_
        refine lv_aload_n hx_ hb_ dX8_number_81 rfl (lv_at hl 1 rfl) ?_
        refine va_get (D := D) (ci := 8) (v := .ref (q 10)) (C := RX8) (T := TX8) (N := 32) hx_ hb_ hts_ inM_X8 hown_ hK.1 hP 0 rfl rfl 10 (by decide) (hts_ _ (List.mem_cons_of_mem _ wa_f_X8_29)) (fun _ h9 => h9) rfl dX8_number_82 ?_
        refine lv_iload_n hx_ hb_ dX8_number_85 rfl (lv_at hl 2 rfl) ?_
        refine va_iald hx_ hb_ hK.1 hP 4 0 rfl rfl (vp_in_nI (by omega) (by decide)) dX8_number_86 ?_
        refine lv_ti (y := (upd n.2.2.1 lv (nu_w mb p1)) lv) (congrArg _ (nI_clamp (by omega))) ?_
        refine lv_ti (y := nu_w mb p1) (upd_s) ?_
        refine lv_ldc (v := 32768) hx_ hb_ hown_ (hts_ _ (List.mem_cons_of_mem _ wa_q_X8_102)) dX8_number_87 ?_
        refine lv_iand hx_ hb_ dX8_number_89 ?_
        refine lv_if_eq (tgt := 97) hx_ hb_ dX8_number_90 (by decide) (fun cc4 => ?_) (fun cc4 => ?_)
        · skip
          refine lv_iconst (v := 0) hx_ hb_ dX8_number_97 (by decide) ?_
          refine va_zast hx_ hb_ hK.1 hP hD hS 5 2 rfl rfl (vp_in_nI (by omega) (by decide)) dX8_number_98 (fun H locs hP hD hS => ?_)
          rw [show Int32.toNatClampNeg (nI lv) = lv from nI_clamp (by omega)] at hP hD
          have hP : va_P D vwCl [(q 0, .inr (8, [.int v, .ref (q 1), .int (nI ms), .ref (q 3), .int (nI rs), .ref (q 5), .ref (q 6), .int bh, .ref (q 8), .ref (q 9), .ref (q 10), .ref (q 11), .ref (q 12), .int (nI tz), .int fa, .ref (q 15), .int (nI mz), .ref (q 17), .ref (q 18), .ref (q 19), .ref (q 20), .ref (q 21), .ref (q 22), .ref (q 23), .ref (q 24), .int (nI wn), .ref (q 26), .ref (q 27), .int (nI tk), .ref (q 29), .ref (q 30), .ref (q 31)])), (q 1, .inl (k 3, 3000, .inl mb)), (q 8, .inl (k 0, 2, .inl n.1)), (q 9, .inl (k 0, 2, .inl n.2.1)), (q 10, .inl (k 0, 2, .inl (upd n.2.2.1 lv (nu_w mb p1)))), (q 11, .inl (k 2, 2, .inl (upd n.2.2.2 lv 0)))] H := hP
          have hD : va_D A_0 [(q 0, .inr (8, [.int v, .ref (q 1), .int (nI ms), .ref (q 3), .int (nI rs), .ref (q 5), .ref (q 6), .int bh, .ref (q 8), .ref (q 9), .ref (q 10), .ref (q 11), .ref (q 12), .int (nI tz), .int fa, .ref (q 15), .int (nI mz), .ref (q 17), .ref (q 18), .ref (q 19), .ref (q 20), .ref (q 21), .ref (q 22), .ref (q 23), .ref (q 24), .int (nI wn), .ref (q 26), .ref (q 27), .int (nI tk), .ref (q 29), .ref (q 30), .ref (q 31)])), (q 1, .inl (k 3, 3000, .inl mb)), (q 8, .inl (k 0, 2, .inl n.1)), (q 9, .inl (k 0, 2, .inl n.2.1)), (q 10, .inl (k 0, 2, .inl (upd n.2.2.1 lv (nu_w mb p1)))), (q 11, .inl (k 2, 2, .inl (upd n.2.2.2 lv 0)))] := hD
          refine lv_aload_n hx_ hb_ dX8_number_99 rfl (lv_at hl 1 rfl) ?_
          refine va_get (D := D) (ci := 8) (v := .ref (q 8)) (C := RX8) (T := TX8) (N := 32) hx_ hb_ hts_ inM_X8 hown_ hK.1 hP 0 rfl rfl 8 (by decide) (hts_ _ (List.mem_cons_of_mem _ wa_f_X8_23)) (fun _ h9 => h9) rfl dX8_number_100 ?_
          refine lv_iload_n hx_ hb_ dX8_number_103 rfl (lv_at hl 2 rfl) ?_
          refine lv_iload_n hx_ hb_ dX8_number_104 rfl (lv_at hl 0 rfl) ?_
          refine lv_iconst (v := 2) hx_ hb_ dX8_number_105 (by decide) ?_
          refine lv_iadd hx_ hb_ dX8_number_106 ?_
          refine lv_ti (y := nI (p1 + 2)) (nI_add _ _) ?_
          refine va_iast hx_ hb_ hK.1 hP hD hS 2 0 rfl rfl (vp_in_nI (by omega) (by decide)) dX8_number_107 (fun H locs hP hD hS => ?_)
          rw [show Int32.toNatClampNeg (nI lv) = lv from nI_clamp (by omega)] at hP hD
          have hP : va_P D vwCl [(q 0, .inr (8, [.int v, .ref (q 1), .int (nI ms), .ref (q 3), .int (nI rs), .ref (q 5), .ref (q 6), .int bh, .ref (q 8), .ref (q 9), .ref (q 10), .ref (q 11), .ref (q 12), .int (nI tz), .int fa, .ref (q 15), .int (nI mz), .ref (q 17), .ref (q 18), .ref (q 19), .ref (q 20), .ref (q 21), .ref (q 22), .ref (q 23), .ref (q 24), .int (nI wn), .ref (q 26), .ref (q 27), .int (nI tk), .ref (q 29), .ref (q 30), .ref (q 31)])), (q 1, .inl (k 3, 3000, .inl mb)), (q 8, .inl (k 0, 2, .inl (upd n.1 lv (nI (p1 + 2))))), (q 9, .inl (k 0, 2, .inl n.2.1)), (q 10, .inl (k 0, 2, .inl (upd n.2.2.1 lv (nu_w mb p1)))), (q 11, .inl (k 2, 2, .inl (upd n.2.2.2 lv 0)))] H := hP
          have hD : va_D A_0 [(q 0, .inr (8, [.int v, .ref (q 1), .int (nI ms), .ref (q 3), .int (nI rs), .ref (q 5), .ref (q 6), .int bh, .ref (q 8), .ref (q 9), .ref (q 10), .ref (q 11), .ref (q 12), .int (nI tz), .int fa, .ref (q 15), .int (nI mz), .ref (q 17), .ref (q 18), .ref (q 19), .ref (q 20), .ref (q 21), .ref (q 22), .ref (q 23), .ref (q 24), .int (nI wn), .ref (q 26), .ref (q 27), .int (nI tk), .ref (q 29), .ref (q 30), .ref (q 31)])), (q 1, .inl (k 3, 3000, .inl mb)), (q 8, .inl (k 0, 2, .inl (upd n.1 lv (nI (p1 + 2))))), (q 9, .inl (k 0, 2, .inl n.2.1)), (q 10, .inl (k 0, 2, .inl (upd n.2.2.1 lv (nu_w mb p1)))), (q 11, .inl (k 2, 2, .inl (upd n.2.2.2 lv 0)))] := hD
          refine lv_aload_n hx_ hb_ dX8_number_108 rfl (lv_at hl 1 rfl) ?_
          refine va_get (D := D) (ci := 8) (v := .ref (q 9)) (C := RX8) (T := TX8) (N := 32) hx_ hb_ hts_ inM_X8 hown_ hK.1 hP 0 rfl rfl 9 (by decide) (hts_ _ (List.mem_cons_of_mem _ wa_f_X8_26)) (fun _ h9 => h9) rfl dX8_number_109 ?_
          refine lv_iload_n hx_ hb_ dX8_number_112 rfl (lv_at hl 2 rfl) ?_
          refine lv_iconst (v := 3) hx_ hb_ dX8_number_113 (by decide) ?_
          refine va_iast hx_ hb_ hK.1 hP hD hS 3 0 rfl rfl (vp_in_nI (by omega) (by decide)) dX8_number_114 (fun H locs hP hD hS => ?_)
          rw [show Int32.toNatClampNeg (nI lv) = lv from nI_clamp (by omega)] at hP hD
          have hP : va_P D vwCl [(q 0, .inr (8, [.int v, .ref (q 1), .int (nI ms), .ref (q 3), .int (nI rs), .ref (q 5), .ref (q 6), .int bh, .ref (q 8), .ref (q 9), .ref (q 10), .ref (q 11), .ref (q 12), .int (nI tz), .int fa, .ref (q 15), .int (nI mz), .ref (q 17), .ref (q 18), .ref (q 19), .ref (q 20), .ref (q 21), .ref (q 22), .ref (q 23), .ref (q 24), .int (nI wn), .ref (q 26), .ref (q 27), .int (nI tk), .ref (q 29), .ref (q 30), .ref (q 31)])), (q 1, .inl (k 3, 3000, .inl mb)), (q 8, .inl (k 0, 2, .inl (upd n.1 lv (nI (p1 + 2))))), (q 9, .inl (k 0, 2, .inl (upd n.2.1 lv 3))), (q 10, .inl (k 0, 2, .inl (upd n.2.2.1 lv (nu_w mb p1)))), (q 11, .inl (k 2, 2, .inl (upd n.2.2.2 lv 0)))] H := hP
          have hD : va_D A_0 [(q 0, .inr (8, [.int v, .ref (q 1), .int (nI ms), .ref (q 3), .int (nI rs), .ref (q 5), .ref (q 6), .int bh, .ref (q 8), .ref (q 9), .ref (q 10), .ref (q 11), .ref (q 12), .int (nI tz), .int fa, .ref (q 15), .int (nI mz), .ref (q 17), .ref (q 18), .ref (q 19), .ref (q 20), .ref (q 21), .ref (q 22), .ref (q 23), .ref (q 24), .int (nI wn), .ref (q 26), .ref (q 27), .int (nI tk), .ref (q 29), .ref (q 30), .ref (q 31)])), (q 1, .inl (k 3, 3000, .inl mb)), (q 8, .inl (k 0, 2, .inl (upd n.1 lv (nI (p1 + 2))))), (q 9, .inl (k 0, 2, .inl (upd n.2.1 lv 3))), (q 10, .inl (k 0, 2, .inl (upd n.2.2.1 lv (nu_w mb p1)))), (q 11, .inl (k 2, 2, .inl (upd n.2.2.2 lv 0)))] := hD
          refine lv_aload_n hx_ hb_ dX8_number_115 rfl (lv_at hl 1 rfl) ?_
          refine va_get (D := D) (ci := 8) (v := .ref (q 9)) (C := RX8) (T := TX8) (N := 32) hx_ hb_ hts_ inM_X8 hown_ hK.1 hP 0 rfl rfl 9 (by decide) (hts_ _ (List.mem_cons_of_mem _ wa_f_X8_26)) (fun _ h9 => h9) rfl dX8_number_116 ?_
          refine lv_iload_n hx_ hb_ dX8_number_119 rfl (lv_at hl 2 rfl) ?_
          refine lv_dup2_11 hx_ hb_ dX8_number_120 rfl rfl ?_
          refine va_iald hx_ hb_ hK.1 hP 3 0 rfl rfl (vp_in_nI (by omega) (by decide)) dX8_number_121 ?_
          refine lv_ti (y := (upd n.2.1 lv 3) lv) (congrArg _ (nI_clamp (by omega))) ?_
          refine lv_iconst (v := 1) hx_ hb_ dX8_number_122 (by decide) ?_
          refine lv_isub hx_ hb_ dX8_number_123 ?_
          refine va_iast hx_ hb_ hK.1 hP hD hS 3 0 rfl rfl (vp_in_nI (by omega) (by decide)) dX8_number_124 (fun H locs hP hD hS => ?_)
          rw [show Int32.toNatClampNeg (nI lv) = lv from nI_clamp (by omega)] at hP hD
          have hP : va_P D vwCl [(q 0, .inr (8, [.int v, .ref (q 1), .int (nI ms), .ref (q 3), .int (nI rs), .ref (q 5), .ref (q 6), .int bh, .ref (q 8), .ref (q 9), .ref (q 10), .ref (q 11), .ref (q 12), .int (nI tz), .int fa, .ref (q 15), .int (nI mz), .ref (q 17), .ref (q 18), .ref (q 19), .ref (q 20), .ref (q 21), .ref (q 22), .ref (q 23), .ref (q 24), .int (nI wn), .ref (q 26), .ref (q 27), .int (nI tk), .ref (q 29), .ref (q 30), .ref (q 31)])), (q 1, .inl (k 3, 3000, .inl mb)), (q 8, .inl (k 0, 2, .inl (upd n.1 lv (nI (p1 + 2))))), (q 9, .inl (k 0, 2, .inl (upd (upd n.2.1 lv 3) lv (((upd n.2.1 lv 3) lv) - 1)))), (q 10, .inl (k 0, 2, .inl (upd n.2.2.1 lv (nu_w mb p1)))), (q 11, .inl (k 2, 2, .inl (upd n.2.2.2 lv 0)))] H := hP
          have hD : va_D A_0 [(q 0, .inr (8, [.int v, .ref (q 1), .int (nI ms), .ref (q 3), .int (nI rs), .ref (q 5), .ref (q 6), .int bh, .ref (q 8), .ref (q 9), .ref (q 10), .ref (q 11), .ref (q 12), .int (nI tz), .int fa, .ref (q 15), .int (nI mz), .ref (q 17), .ref (q 18), .ref (q 19), .ref (q 20), .ref (q 21), .ref (q 22), .ref (q 23), .ref (q 24), .int (nI wn), .ref (q 26), .ref (q 27), .int (nI tk), .ref (q 29), .ref (q 30), .ref (q 31)])), (q 1, .inl (k 3, 3000, .inl mb)), (q 8, .inl (k 0, 2, .inl (upd n.1 lv (nI (p1 + 2))))), (q 9, .inl (k 0, 2, .inl (upd (upd n.2.1 lv 3) lv (((upd n.2.1 lv 3) lv) - 1)))), (q 10, .inl (k 0, 2, .inl (upd n.2.2.1 lv (nu_w mb p1)))), (q 11, .inl (k 2, 2, .inl (upd n.2.2.2 lv 0)))] := hD
          refine lv_aload_n hx_ hb_ dX8_number_125 rfl (lv_at hl 1 rfl) ?_
          refine va_get (D := D) (ci := 8) (v := .ref (q 10)) (C := RX8) (T := TX8) (N := 32) hx_ hb_ hts_ inM_X8 hown_ hK.1 hP 0 rfl rfl 10 (by decide) (hts_ _ (List.mem_cons_of_mem _ wa_f_X8_29)) (fun _ h9 => h9) rfl dX8_number_126 ?_
          refine lv_iload_n hx_ hb_ dX8_number_129 rfl (lv_at hl 2 rfl) ?_
          refine va_iald hx_ hb_ hK.1 hP 4 0 rfl rfl (vp_in_nI (by omega) (by decide)) dX8_number_130 ?_
          refine lv_ti (y := (upd n.2.2.1 lv (nu_w mb p1)) lv) (congrArg _ (nI_clamp (by omega))) ?_
          refine lv_iconst (v := 5) hx_ hb_ dX8_number_131 (by decide) ?_
          refine lv_aload_n hx_ hb_ dX8_number_132 rfl (lv_at hl 1 rfl) ?_
          refine va_get (D := D) (ci := 8) (v := .ref (q 9)) (C := RX8) (T := TX8) (N := 32) hx_ hb_ hts_ inM_X8 hown_ hK.1 hP 0 rfl rfl 9 (by decide) (hts_ _ (List.mem_cons_of_mem _ wa_f_X8_26)) (fun _ h9 => h9) rfl dX8_number_133 ?_
          refine lv_iload_n hx_ hb_ dX8_number_136 rfl (lv_at hl 2 rfl) ?_
          refine va_iald hx_ hb_ hK.1 hP 3 0 rfl rfl (vp_in_nI (by omega) (by decide)) dX8_number_137 ?_
          refine lv_ti (y := (upd (upd n.2.1 lv 3) lv (((upd n.2.1 lv 3) lv) - 1)) lv) (congrArg _ (nI_clamp (by omega))) ?_
          refine lv_imul hx_ hb_ dX8_number_138 ?_
          refine lv_ishr hx_ hb_ dX8_number_139 ?_
          refine lv_bipush (v := 31) hx_ hb_ dX8_number_140 (by decide) ?_
          refine lv_iand hx_ hb_ dX8_number_142 ?_
          have eq1 : (fa : Int32) = (nu ms mb lv p1 fa n).2.1 := by simp [nu, nu_val, nu_step, nu_fill, upd_s, eq_true cc1, eq_true cc2, eq_true cc3, eq_true nn3, eq_false nn3m, eq_true cc4]
          have eq2 : (upd n.1 lv (nI (p1 + 2)) : Nat → Int32) = (nu ms mb lv p1 fa n).2.2.1 := by simp [nu, nu_val, nu_step, nu_fill, upd_s, eq_true cc1, eq_true cc2, eq_true cc3, eq_true nn3, eq_false nn3m, eq_true cc4]
          have eq3 : (upd (upd n.2.1 lv 3) lv (((upd n.2.1 lv 3) lv) - 1) : Nat → Int32) = (nu ms mb lv p1 fa n).2.2.2.1 := by simp [nu, nu_val, nu_step, nu_fill, upd_s, eq_true cc1, eq_true cc2, eq_true cc3, eq_true nn3, eq_false nn3m, eq_true cc4]
          have eq4 : (upd n.2.2.1 lv (nu_w mb p1) : Nat → Int32) = (nu ms mb lv p1 fa n).2.2.2.2.1 := by simp [nu, nu_val, nu_step, nu_fill, upd_s, eq_true cc1, eq_true cc2, eq_true cc3, eq_true nn3, eq_false nn3m, eq_true cc4]
          have eq5 : (upd n.2.2.2 lv 0 : Nat → Int32) = (nu ms mb lv p1 fa n).2.2.2.2.2 := by simp [nu, nu_val, nu_step, nu_fill, upd_s, eq_true cc1, eq_true cc2, eq_true cc3, eq_true nn3, eq_false nn3m, eq_true cc4]
          have eqr : ((((upd n.2.2.1 lv (nu_w mb p1)) lv) >>> ((5 * ((upd (upd n.2.1 lv 3) lv (((upd n.2.1 lv 3) lv) - 1)) lv)) &&& 31)) &&& 31 : Int32) = (nu ms mb lv p1 fa n).1 := by simp [nu, nu_val, nu_step, nu_fill, upd_s, eq_true cc1, eq_true cc2, eq_true cc3, eq_true nn3, eq_false nn3m, eq_true cc4]
          exact ct_iret C_0 (hP.sub [0, 1, 2, 3, 4, 5] rfl) (hD.sub [0, 1, 2, 3, 4, 5] (by decide) rfl) hS (Nat.le_of_ble_eq_true rfl) (Nat.le_of_ble_eq_true rfl) dX8_number_143 (⟨eqr, congr (congr (congr (congr (congrArg (fun (z1 : Int32) (z2 : Nat → Int32) (z3 : Nat → Int32) (z4 : Nat → Int32) (z5 : Nat → Int32) => ([(q 0, .inr (8, [.int v, .ref (q 1), .int (nI ms), .ref (q 3), .int (nI rs), .ref (q 5), .ref (q 6), .int bh, .ref (q 8), .ref (q 9), .ref (q 10), .ref (q 11), .ref (q 12), .int (nI tz), .int z1, .ref (q 15), .int (nI mz), .ref (q 17), .ref (q 18), .ref (q 19), .ref (q 20), .ref (q 21), .ref (q 22), .ref (q 23), .ref (q 24), .int (nI wn), .ref (q 26), .ref (q 27), .int (nI tk), .ref (q 29), .ref (q 30), .ref (q 31)])), (q 1, .inl (k 3, 3000, .inl mb)), (q 8, .inl (k 0, 2, .inl z2)), (q 9, .inl (k 0, 2, .inl z3)), (q 10, .inl (k 0, 2, .inl z4)), (q 11, .inl (k 2, 2, .inl z5))] : va_W)) eq1) eq2) eq3) eq4) eq5⟩)
        · skip
          refine lv_iconst (v := 1) hx_ hb_ dX8_number_93 (by decide) ?_
          refine lv_goto (tgt := 98) hx_ hb_ dX8_number_94 (by decide) ?_
          refine va_zast hx_ hb_ hK.1 hP hD hS 5 2 rfl rfl (vp_in_nI (by omega) (by decide)) dX8_number_98 (fun H locs hP hD hS => ?_)
          rw [show Int32.toNatClampNeg (nI lv) = lv from nI_clamp (by omega)] at hP hD
          have hP : va_P D vwCl [(q 0, .inr (8, [.int v, .ref (q 1), .int (nI ms), .ref (q 3), .int (nI rs), .ref (q 5), .ref (q 6), .int bh, .ref (q 8), .ref (q 9), .ref (q 10), .ref (q 11), .ref (q 12), .int (nI tz), .int fa, .ref (q 15), .int (nI mz), .ref (q 17), .ref (q 18), .ref (q 19), .ref (q 20), .ref (q 21), .ref (q 22), .ref (q 23), .ref (q 24), .int (nI wn), .ref (q 26), .ref (q 27), .int (nI tk), .ref (q 29), .ref (q 30), .ref (q 31)])), (q 1, .inl (k 3, 3000, .inl mb)), (q 8, .inl (k 0, 2, .inl n.1)), (q 9, .inl (k 0, 2, .inl n.2.1)), (q 10, .inl (k 0, 2, .inl (upd n.2.2.1 lv (nu_w mb p1)))), (q 11, .inl (k 2, 2, .inl (upd n.2.2.2 lv 1)))] H := hP
          have hD : va_D A_0 [(q 0, .inr (8, [.int v, .ref (q 1), .int (nI ms), .ref (q 3), .int (nI rs), .ref (q 5), .ref (q 6), .int bh, .ref (q 8), .ref (q 9), .ref (q 10), .ref (q 11), .ref (q 12), .int (nI tz), .int fa, .ref (q 15), .int (nI mz), .ref (q 17), .ref (q 18), .ref (q 19), .ref (q 20), .ref (q 21), .ref (q 22), .ref (q 23), .ref (q 24), .int (nI wn), .ref (q 26), .ref (q 27), .int (nI tk), .ref (q 29), .ref (q 30), .ref (q 31)])), (q 1, .inl (k 3, 3000, .inl mb)), (q 8, .inl (k 0, 2, .inl n.1)), (q 9, .inl (k 0, 2, .inl n.2.1)), (q 10, .inl (k 0, 2, .inl (upd n.2.2.1 lv (nu_w mb p1)))), (q 11, .inl (k 2, 2, .inl (upd n.2.2.2 lv 1)))] := hD
          refine lv_aload_n hx_ hb_ dX8_number_99 rfl (lv_at hl 1 rfl) ?_
          refine va_get (D := D) (ci := 8) (v := .ref (q 8)) (C := RX8) (T := TX8) (N := 32) hx_ hb_ hts_ inM_X8 hown_ hK.1 hP 0 rfl rfl 8 (by decide) (hts_ _ (List.mem_cons_of_mem _ wa_f_X8_23)) (fun _ h9 => h9) rfl dX8_number_100 ?_
          refine lv_iload_n hx_ hb_ dX8_number_103 rfl (lv_at hl 2 rfl) ?_
          refine lv_iload_n hx_ hb_ dX8_number_104 rfl (lv_at hl 0 rfl) ?_
          refine lv_iconst (v := 2) hx_ hb_ dX8_number_105 (by decide) ?_
          refine lv_iadd hx_ hb_ dX8_number_106 ?_
          refine lv_ti (y := nI (p1 + 2)) (nI_add _ _) ?_
          refine va_iast hx_ hb_ hK.1 hP hD hS 2 0 rfl rfl (vp_in_nI (by omega) (by decide)) dX8_number_107 (fun H locs hP hD hS => ?_)
          rw [show Int32.toNatClampNeg (nI lv) = lv from nI_clamp (by omega)] at hP hD
          have hP : va_P D vwCl [(q 0, .inr (8, [.int v, .ref (q 1), .int (nI ms), .ref (q 3), .int (nI rs), .ref (q 5), .ref (q 6), .int bh, .ref (q 8), .ref (q 9), .ref (q 10), .ref (q 11), .ref (q 12), .int (nI tz), .int fa, .ref (q 15), .int (nI mz), .ref (q 17), .ref (q 18), .ref (q 19), .ref (q 20), .ref (q 21), .ref (q 22), .ref (q 23), .ref (q 24), .int (nI wn), .ref (q 26), .ref (q 27), .int (nI tk), .ref (q 29), .ref (q 30), .ref (q 31)])), (q 1, .inl (k 3, 3000, .inl mb)), (q 8, .inl (k 0, 2, .inl (upd n.1 lv (nI (p1 + 2))))), (q 9, .inl (k 0, 2, .inl n.2.1)), (q 10, .inl (k 0, 2, .inl (upd n.2.2.1 lv (nu_w mb p1)))), (q 11, .inl (k 2, 2, .inl (upd n.2.2.2 lv 1)))] H := hP
          have hD : va_D A_0 [(q 0, .inr (8, [.int v, .ref (q 1), .int (nI ms), .ref (q 3), .int (nI rs), .ref (q 5), .ref (q 6), .int bh, .ref (q 8), .ref (q 9), .ref (q 10), .ref (q 11), .ref (q 12), .int (nI tz), .int fa, .ref (q 15), .int (nI mz), .ref (q 17), .ref (q 18), .ref (q 19), .ref (q 20), .ref (q 21), .ref (q 22), .ref (q 23), .ref (q 24), .int (nI wn), .ref (q 26), .ref (q 27), .int (nI tk), .ref (q 29), .ref (q 30), .ref (q 31)])), (q 1, .inl (k 3, 3000, .inl mb)), (q 8, .inl (k 0, 2, .inl (upd n.1 lv (nI (p1 + 2))))), (q 9, .inl (k 0, 2, .inl n.2.1)), (q 10, .inl (k 0, 2, .inl (upd n.2.2.1 lv (nu_w mb p1)))), (q 11, .inl (k 2, 2, .inl (upd n.2.2.2 lv 1)))] := hD
          refine lv_aload_n hx_ hb_ dX8_number_108 rfl (lv_at hl 1 rfl) ?_
          refine va_get (D := D) (ci := 8) (v := .ref (q 9)) (C := RX8) (T := TX8) (N := 32) hx_ hb_ hts_ inM_X8 hown_ hK.1 hP 0 rfl rfl 9 (by decide) (hts_ _ (List.mem_cons_of_mem _ wa_f_X8_26)) (fun _ h9 => h9) rfl dX8_number_109 ?_
          refine lv_iload_n hx_ hb_ dX8_number_112 rfl (lv_at hl 2 rfl) ?_
          refine lv_iconst (v := 3) hx_ hb_ dX8_number_113 (by decide) ?_
          refine va_iast hx_ hb_ hK.1 hP hD hS 3 0 rfl rfl (vp_in_nI (by omega) (by decide)) dX8_number_114 (fun H locs hP hD hS => ?_)
          rw [show Int32.toNatClampNeg (nI lv) = lv from nI_clamp (by omega)] at hP hD
          have hP : va_P D vwCl [(q 0, .inr (8, [.int v, .ref (q 1), .int (nI ms), .ref (q 3), .int (nI rs), .ref (q 5), .ref (q 6), .int bh, .ref (q 8), .ref (q 9), .ref (q 10), .ref (q 11), .ref (q 12), .int (nI tz), .int fa, .ref (q 15), .int (nI mz), .ref (q 17), .ref (q 18), .ref (q 19), .ref (q 20), .ref (q 21), .ref (q 22), .ref (q 23), .ref (q 24), .int (nI wn), .ref (q 26), .ref (q 27), .int (nI tk), .ref (q 29), .ref (q 30), .ref (q 31)])), (q 1, .inl (k 3, 3000, .inl mb)), (q 8, .inl (k 0, 2, .inl (upd n.1 lv (nI (p1 + 2))))), (q 9, .inl (k 0, 2, .inl (upd n.2.1 lv 3))), (q 10, .inl (k 0, 2, .inl (upd n.2.2.1 lv (nu_w mb p1)))), (q 11, .inl (k 2, 2, .inl (upd n.2.2.2 lv 1)))] H := hP
          have hD : va_D A_0 [(q 0, .inr (8, [.int v, .ref (q 1), .int (nI ms), .ref (q 3), .int (nI rs), .ref (q 5), .ref (q 6), .int bh, .ref (q 8), .ref (q 9), .ref (q 10), .ref (q 11), .ref (q 12), .int (nI tz), .int fa, .ref (q 15), .int (nI mz), .ref (q 17), .ref (q 18), .ref (q 19), .ref (q 20), .ref (q 21), .ref (q 22), .ref (q 23), .ref (q 24), .int (nI wn), .ref (q 26), .ref (q 27), .int (nI tk), .ref (q 29), .ref (q 30), .ref (q 31)])), (q 1, .inl (k 3, 3000, .inl mb)), (q 8, .inl (k 0, 2, .inl (upd n.1 lv (nI (p1 + 2))))), (q 9, .inl (k 0, 2, .inl (upd n.2.1 lv 3))), (q 10, .inl (k 0, 2, .inl (upd n.2.2.1 lv (nu_w mb p1)))), (q 11, .inl (k 2, 2, .inl (upd n.2.2.2 lv 1)))] := hD
          refine lv_aload_n hx_ hb_ dX8_number_115 rfl (lv_at hl 1 rfl) ?_
          refine va_get (D := D) (ci := 8) (v := .ref (q 9)) (C := RX8) (T := TX8) (N := 32) hx_ hb_ hts_ inM_X8 hown_ hK.1 hP 0 rfl rfl 9 (by decide) (hts_ _ (List.mem_cons_of_mem _ wa_f_X8_26)) (fun _ h9 => h9) rfl dX8_number_116 ?_
          refine lv_iload_n hx_ hb_ dX8_number_119 rfl (lv_at hl 2 rfl) ?_
          refine lv_dup2_11 hx_ hb_ dX8_number_120 rfl rfl ?_
          refine va_iald hx_ hb_ hK.1 hP 3 0 rfl rfl (vp_in_nI (by omega) (by decide)) dX8_number_121 ?_
          refine lv_ti (y := (upd n.2.1 lv 3) lv) (congrArg _ (nI_clamp (by omega))) ?_
          refine lv_iconst (v := 1) hx_ hb_ dX8_number_122 (by decide) ?_
          refine lv_isub hx_ hb_ dX8_number_123 ?_
          refine va_iast hx_ hb_ hK.1 hP hD hS 3 0 rfl rfl (vp_in_nI (by omega) (by decide)) dX8_number_124 (fun H locs hP hD hS => ?_)
          rw [show Int32.toNatClampNeg (nI lv) = lv from nI_clamp (by omega)] at hP hD
          have hP : va_P D vwCl [(q 0, .inr (8, [.int v, .ref (q 1), .int (nI ms), .ref (q 3), .int (nI rs), .ref (q 5), .ref (q 6), .int bh, .ref (q 8), .ref (q 9), .ref (q 10), .ref (q 11), .ref (q 12), .int (nI tz), .int fa, .ref (q 15), .int (nI mz), .ref (q 17), .ref (q 18), .ref (q 19), .ref (q 20), .ref (q 21), .ref (q 22), .ref (q 23), .ref (q 24), .int (nI wn), .ref (q 26), .ref (q 27), .int (nI tk), .ref (q 29), .ref (q 30), .ref (q 31)])), (q 1, .inl (k 3, 3000, .inl mb)), (q 8, .inl (k 0, 2, .inl (upd n.1 lv (nI (p1 + 2))))), (q 9, .inl (k 0, 2, .inl (upd (upd n.2.1 lv 3) lv (((upd n.2.1 lv 3) lv) - 1)))), (q 10, .inl (k 0, 2, .inl (upd n.2.2.1 lv (nu_w mb p1)))), (q 11, .inl (k 2, 2, .inl (upd n.2.2.2 lv 1)))] H := hP
          have hD : va_D A_0 [(q 0, .inr (8, [.int v, .ref (q 1), .int (nI ms), .ref (q 3), .int (nI rs), .ref (q 5), .ref (q 6), .int bh, .ref (q 8), .ref (q 9), .ref (q 10), .ref (q 11), .ref (q 12), .int (nI tz), .int fa, .ref (q 15), .int (nI mz), .ref (q 17), .ref (q 18), .ref (q 19), .ref (q 20), .ref (q 21), .ref (q 22), .ref (q 23), .ref (q 24), .int (nI wn), .ref (q 26), .ref (q 27), .int (nI tk), .ref (q 29), .ref (q 30), .ref (q 31)])), (q 1, .inl (k 3, 3000, .inl mb)), (q 8, .inl (k 0, 2, .inl (upd n.1 lv (nI (p1 + 2))))), (q 9, .inl (k 0, 2, .inl (upd (upd n.2.1 lv 3) lv (((upd n.2.1 lv 3) lv) - 1)))), (q 10, .inl (k 0, 2, .inl (upd n.2.2.1 lv (nu_w mb p1)))), (q 11, .inl (k 2, 2, .inl (upd n.2.2.2 lv 1)))] := hD
          refine lv_aload_n hx_ hb_ dX8_number_125 rfl (lv_at hl 1 rfl) ?_
          refine va_get (D := D) (ci := 8) (v := .ref (q 10)) (C := RX8) (T := TX8) (N := 32) hx_ hb_ hts_ inM_X8 hown_ hK.1 hP 0 rfl rfl 10 (by decide) (hts_ _ (List.mem_cons_of_mem _ wa_f_X8_29)) (fun _ h9 => h9) rfl dX8_number_126 ?_
          refine lv_iload_n hx_ hb_ dX8_number_129 rfl (lv_at hl 2 rfl) ?_
          refine va_iald hx_ hb_ hK.1 hP 4 0 rfl rfl (vp_in_nI (by omega) (by decide)) dX8_number_130 ?_
          refine lv_ti (y := (upd n.2.2.1 lv (nu_w mb p1)) lv) (congrArg _ (nI_clamp (by omega))) ?_
          refine lv_iconst (v := 5) hx_ hb_ dX8_number_131 (by decide) ?_
          refine lv_aload_n hx_ hb_ dX8_number_132 rfl (lv_at hl 1 rfl) ?_
          refine va_get (D := D) (ci := 8) (v := .ref (q 9)) (C := RX8) (T := TX8) (N := 32) hx_ hb_ hts_ inM_X8 hown_ hK.1 hP 0 rfl rfl 9 (by decide) (hts_ _ (List.mem_cons_of_mem _ wa_f_X8_26)) (fun _ h9 => h9) rfl dX8_number_133 ?_
          refine lv_iload_n hx_ hb_ dX8_number_136 rfl (lv_at hl 2 rfl) ?_
          refine va_iald hx_ hb_ hK.1 hP 3 0 rfl rfl (vp_in_nI (by omega) (by decide)) dX8_number_137 ?_
          refine lv_ti (y := (upd (upd n.2.1 lv 3) lv (((upd n.2.1 lv 3) lv) - 1)) lv) (congrArg _ (nI_clamp (by omega))) ?_
          refine lv_imul hx_ hb_ dX8_number_138 ?_
          refine lv_ishr hx_ hb_ dX8_number_139 ?_
          refine lv_bipush (v := 31) hx_ hb_ dX8_number_140 (by decide) ?_
          refine lv_iand hx_ hb_ dX8_number_142 ?_
          have eq1 : (fa : Int32) = (nu ms mb lv p1 fa n).2.1 := by simp [nu, nu_val, nu_step, nu_fill, upd_s, eq_true cc1, eq_true cc2, eq_true cc3, eq_true nn3, eq_false nn3m, eq_false cc4]
          have eq2 : (upd n.1 lv (nI (p1 + 2)) : Nat → Int32) = (nu ms mb lv p1 fa n).2.2.1 := by simp [nu, nu_val, nu_step, nu_fill, upd_s, eq_true cc1, eq_true cc2, eq_true cc3, eq_true nn3, eq_false nn3m, eq_false cc4]
          have eq3 : (upd (upd n.2.1 lv 3) lv (((upd n.2.1 lv 3) lv) - 1) : Nat → Int32) = (nu ms mb lv p1 fa n).2.2.2.1 := by simp [nu, nu_val, nu_step, nu_fill, upd_s, eq_true cc1, eq_true cc2, eq_true cc3, eq_true nn3, eq_false nn3m, eq_false cc4]
          have eq4 : (upd n.2.2.1 lv (nu_w mb p1) : Nat → Int32) = (nu ms mb lv p1 fa n).2.2.2.2.1 := by simp [nu, nu_val, nu_step, nu_fill, upd_s, eq_true cc1, eq_true cc2, eq_true cc3, eq_true nn3, eq_false nn3m, eq_false cc4]
          have eq5 : (upd n.2.2.2 lv 1 : Nat → Int32) = (nu ms mb lv p1 fa n).2.2.2.2.2 := by simp [nu, nu_val, nu_step, nu_fill, upd_s, eq_true cc1, eq_true cc2, eq_true cc3, eq_true nn3, eq_false nn3m, eq_false cc4]
          have eqr : ((((upd n.2.2.1 lv (nu_w mb p1)) lv) >>> ((5 * ((upd (upd n.2.1 lv 3) lv (((upd n.2.1 lv 3) lv) - 1)) lv)) &&& 31)) &&& 31 : Int32) = (nu ms mb lv p1 fa n).1 := by simp [nu, nu_val, nu_step, nu_fill, upd_s, eq_true cc1, eq_true cc2, eq_true cc3, eq_true nn3, eq_false nn3m, eq_false cc4]
          exact ct_iret C_0 (hP.sub [0, 1, 2, 3, 4, 5] rfl) (hD.sub [0, 1, 2, 3, 4, 5] (by decide) rfl) hS (Nat.le_of_ble_eq_true rfl) (Nat.le_of_ble_eq_true rfl) dX8_number_143 (⟨eqr, congr (congr (congr (congr (congrArg (fun (z1 : Int32) (z2 : Nat → Int32) (z3 : Nat → Int32) (z4 : Nat → Int32) (z5 : Nat → Int32) => ([(q 0, .inr (8, [.int v, .ref (q 1), .int (nI ms), .ref (q 3), .int (nI rs), .ref (q 5), .ref (q 6), .int bh, .ref (q 8), .ref (q 9), .ref (q 10), .ref (q 11), .ref (q 12), .int (nI tz), .int z1, .ref (q 15), .int (nI mz), .ref (q 17), .ref (q 18), .ref (q 19), .ref (q 20), .ref (q 21), .ref (q 22), .ref (q 23), .ref (q 24), .int (nI wn), .ref (q 26), .ref (q 27), .int (nI tk), .ref (q 29), .ref (q 30), .ref (q 31)])), (q 1, .inl (k 3, 3000, .inl mb)), (q 8, .inl (k 0, 2, .inl z2)), (q 9, .inl (k 0, 2, .inl z3)), (q 10, .inl (k 0, 2, .inl z4)), (q 11, .inl (k 2, 2, .inl z5))] : va_W)) eq1) eq2) eq3) eq4) eq5⟩)
      · have nn3 : ¬ (p1 + 2) ≤ ms := fun hh => cc3 ((nI_leI (a := (p1 + 2)) (b := ms) (by omega) (by omega)).mpr hh)
        have nn3m : ms < (p1 + 2) := by omega
        refine lv_aload_n hx_ hb_ dX8_number_37 rfl (lv_at hl 1 rfl) ?_
        refine lv_iconst (v := 2) hx_ hb_ dX8_number_38 (by decide) ?_
        refine va_put (D := D) (ci := 8) (v := .int 2) (ty := .int) (C := RX8) (T := TX8) (N := 32) hx_ hb_ hts_ inM_X8 tyX8 tyX8_ok nmX8 hown_ hK.1 hP hD hS 0 rfl rfl 14 (by decide) (hts_ _ (List.mem_cons_of_mem _ wa_f_X8_99)) (fun _ h9 => h9) rfl (by decide +kernel) rfl rfl (Nat.le_of_ble_eq_true rfl) dX8_number_39 (fun H locs hP hD hS => ?_)
        have hP : va_P D vwCl [(q 0, .inr (8, [.int v, .ref (q 1), .int (nI ms), .ref (q 3), .int (nI rs), .ref (q 5), .ref (q 6), .int bh, .ref (q 8), .ref (q 9), .ref (q 10), .ref (q 11), .ref (q 12), .int (nI tz), .int 2, .ref (q 15), .int (nI mz), .ref (q 17), .ref (q 18), .ref (q 19), .ref (q 20), .ref (q 21), .ref (q 22), .ref (q 23), .ref (q 24), .int (nI wn), .ref (q 26), .ref (q 27), .int (nI tk), .ref (q 29), .ref (q 30), .ref (q 31)])), (q 1, .inl (k 3, 3000, .inl mb)), (q 8, .inl (k 0, 2, .inl n.1)), (q 9, .inl (k 0, 2, .inl n.2.1)), (q 10, .inl (k 0, 2, .inl n.2.2.1)), (q 11, .inl (k 2, 2, .inl n.2.2.2))] H := hP
        have hD : va_D A_0 [(q 0, .inr (8, [.int v, .ref (q 1), .int (nI ms), .ref (q 3), .int (nI rs), .ref (q 5), .ref (q 6), .int bh, .ref (q 8), .ref (q 9), .ref (q 10), .ref (q 11), .ref (q 12), .int (nI tz), .int 2, .ref (q 15), .int (nI mz), .ref (q 17), .ref (q 18), .ref (q 19), .ref (q 20), .ref (q 21), .ref (q 22), .ref (q 23), .ref (q 24), .int (nI wn), .ref (q 26), .ref (q 27), .int (nI tk), .ref (q 29), .ref (q 30), .ref (q 31)])), (q 1, .inl (k 3, 3000, .inl mb)), (q 8, .inl (k 0, 2, .inl n.1)), (q 9, .inl (k 0, 2, .inl n.2.1)), (q 10, .inl (k 0, 2, .inl n.2.2.1)), (q 11, .inl (k 2, 2, .inl n.2.2.2))] := hD
        refine lv_iconst (v := (-1)) hx_ hb_ dX8_number_42 (by decide) ?_
        have eq1 : (2 : Int32) = (nu ms mb lv p1 fa n).2.1 := by simp [nu, nu_val, nu_step, nu_fill, upd_s, eq_true cc1, eq_true cc2, eq_false cc3, eq_false nn3, eq_true nn3m]
        have eq2 : (n.1 : Nat → Int32) = (nu ms mb lv p1 fa n).2.2.1 := by simp [nu, nu_val, nu_step, nu_fill, upd_s, eq_true cc1, eq_true cc2, eq_false cc3, eq_false nn3, eq_true nn3m]
        have eq3 : (n.2.1 : Nat → Int32) = (nu ms mb lv p1 fa n).2.2.2.1 := by simp [nu, nu_val, nu_step, nu_fill, upd_s, eq_true cc1, eq_true cc2, eq_false cc3, eq_false nn3, eq_true nn3m]
        have eq4 : (n.2.2.1 : Nat → Int32) = (nu ms mb lv p1 fa n).2.2.2.2.1 := by simp [nu, nu_val, nu_step, nu_fill, upd_s, eq_true cc1, eq_true cc2, eq_false cc3, eq_false nn3, eq_true nn3m]
        have eq5 : (n.2.2.2 : Nat → Int32) = (nu ms mb lv p1 fa n).2.2.2.2.2 := by simp [nu, nu_val, nu_step, nu_fill, upd_s, eq_true cc1, eq_true cc2, eq_false cc3, eq_false nn3, eq_true nn3m]
        have eqr : ((-1) : Int32) = (nu ms mb lv p1 fa n).1 := by simp [nu, nu_val, nu_step, nu_fill, upd_s, eq_true cc1, eq_true cc2, eq_false cc3, eq_false nn3, eq_true nn3m]
        exact ct_iret C_0 (hP.sub [0, 1, 2, 3, 4, 5] rfl) (hD.sub [0, 1, 2, 3, 4, 5] (by decide) rfl) hS (Nat.le_of_ble_eq_true rfl) (Nat.le_of_ble_eq_true rfl) dX8_number_43 (⟨eqr, congr (congr (congr (congr (congrArg (fun (z1 : Int32) (z2 : Nat → Int32) (z3 : Nat → Int32) (z4 : Nat → Int32) (z5 : Nat → Int32) => ([(q 0, .inr (8, [.int v, .ref (q 1), .int (nI ms), .ref (q 3), .int (nI rs), .ref (q 5), .ref (q 6), .int bh, .ref (q 8), .ref (q 9), .ref (q 10), .ref (q 11), .ref (q 12), .int (nI tz), .int z1, .ref (q 15), .int (nI mz), .ref (q 17), .ref (q 18), .ref (q 19), .ref (q 20), .ref (q 21), .ref (q 22), .ref (q 23), .ref (q 24), .int (nI wn), .ref (q 26), .ref (q 27), .int (nI tk), .ref (q 29), .ref (q 30), .ref (q 31)])), (q 1, .inl (k 3, 3000, .inl mb)), (q 8, .inl (k 0, 2, .inl z2)), (q 9, .inl (k 0, 2, .inl z3)), (q 10, .inl (k 0, 2, .inl z4)), (q 11, .inl (k 2, 2, .inl z5))] : va_W)) eq1) eq2) eq3) eq4) eq5⟩)
    · skip
      refine lv_iconst (v := (-1)) hx_ hb_ dX8_number_18 (by decide) ?_
      have eq1 : (fa : Int32) = (nu ms mb lv p1 fa n).2.1 := by simp [nu, nu_val, nu_step, nu_fill, upd_s, eq_true cc1, eq_false cc2]
      have eq2 : (n.1 : Nat → Int32) = (nu ms mb lv p1 fa n).2.2.1 := by simp [nu, nu_val, nu_step, nu_fill, upd_s, eq_true cc1, eq_false cc2]
      have eq3 : (n.2.1 : Nat → Int32) = (nu ms mb lv p1 fa n).2.2.2.1 := by simp [nu, nu_val, nu_step, nu_fill, upd_s, eq_true cc1, eq_false cc2]
      have eq4 : (n.2.2.1 : Nat → Int32) = (nu ms mb lv p1 fa n).2.2.2.2.1 := by simp [nu, nu_val, nu_step, nu_fill, upd_s, eq_true cc1, eq_false cc2]
      have eq5 : (n.2.2.2 : Nat → Int32) = (nu ms mb lv p1 fa n).2.2.2.2.2 := by simp [nu, nu_val, nu_step, nu_fill, upd_s, eq_true cc1, eq_false cc2]
      have eqr : ((-1) : Int32) = (nu ms mb lv p1 fa n).1 := by simp [nu, nu_val, nu_step, nu_fill, upd_s, eq_true cc1, eq_false cc2]
      exact ct_iret C_0 (hP.sub [0, 1, 2, 3, 4, 5] rfl) (hD.sub [0, 1, 2, 3, 4, 5] (by decide) rfl) hS (Nat.le_of_ble_eq_true rfl) (Nat.le_of_ble_eq_true rfl) dX8_number_19 (⟨eqr, congr (congr (congr (congr (congrArg (fun (z1 : Int32) (z2 : Nat → Int32) (z3 : Nat → Int32) (z4 : Nat → Int32) (z5 : Nat → Int32) => ([(q 0, .inr (8, [.int v, .ref (q 1), .int (nI ms), .ref (q 3), .int (nI rs), .ref (q 5), .ref (q 6), .int bh, .ref (q 8), .ref (q 9), .ref (q 10), .ref (q 11), .ref (q 12), .int (nI tz), .int z1, .ref (q 15), .int (nI mz), .ref (q 17), .ref (q 18), .ref (q 19), .ref (q 20), .ref (q 21), .ref (q 22), .ref (q 23), .ref (q 24), .int (nI wn), .ref (q 26), .ref (q 27), .int (nI tk), .ref (q 29), .ref (q 30), .ref (q 31)])), (q 1, .inl (k 3, 3000, .inl mb)), (q 8, .inl (k 0, 2, .inl z2)), (q 9, .inl (k 0, 2, .inl z3)), (q 10, .inl (k 0, 2, .inl z4)), (q 11, .inl (k 2, 2, .inl z5))] : va_W)) eq1) eq2) eq3) eq4) eq5⟩)
abbrev po_X8_tells (k : Nat → ClassId) (q : Nat → Nat) (v : Int32) (ms : Nat) (rs : Nat) (bh : Int32) (tz : Nat) (fa : Int32) (mz : Nat) (wn : Nat) (tk : Nat) (tf : Nat → Int32) (x : Int32) : va_W → Prop := fun w1 => w1 = [(q 0, .inr (8, [.int v, .ref (q 1), .int (nI ms), .ref (q 3), .int (nI rs), .ref (q 5), .ref (q 6), .int bh, .ref (q 8), .ref (q 9), .ref (q 10), .ref (q 11), .ref (q 12), .int (nI ((tl_s x (fa, (tz, tf))).2.1)), .int ((tl_s x (fa, (tz, tf))).1), .ref (q 15), .int (nI mz), .ref (q 17), .ref (q 18), .ref (q 19), .ref (q 20), .ref (q 21), .ref (q 22), .ref (q 23), .ref (q 24), .int (nI wn), .ref (q 26), .ref (q 27), .int (nI tk), .ref (q 29), .ref (q 30), .ref (q 31)])), (q 12, .inl (k 0, 1001, .inl ((tl_s x (fa, (tz, tf))).2.2)))]
set_option maxHeartbeats 4000000 in
set_option maxRecDepth 100000 in
/-- tells -/
theorem k_X8_tells (l : Launch) (D : va_G) (k : Nat → ClassId) (q : Nat → Nat) (v : Int32) (ms : Nat) (rs : Nat) (bh : Int32) (tz : Nat) (fa : Int32) (mz : Nat) (wn : Nat) (tk : Nat) (tf : Nat → Int32) (x : Int32) (htz : tz ≤ 1000) : ct_v l D (TY k) yX8_tells wsX8_tells ({ frames := 0, cells := 0, slots := 0, locals := 0 } : Room) [.ref (q 0), .int x] [(q 0, .inr (8, [.int v, .ref (q 1), .int (nI ms), .ref (q 3), .int (nI rs), .ref (q 5), .ref (q 6), .int bh, .ref (q 8), .ref (q 9), .ref (q 10), .ref (q 11), .ref (q 12), .int (nI tz), .int fa, .ref (q 15), .int (nI mz), .ref (q 17), .ref (q 18), .ref (q 19), .ref (q 20), .ref (q 21), .ref (q 22), .ref (q 23), .ref (q 24), .int (nI wn), .ref (q 26), .ref (q 27), .int (nI tk), .ref (q 29), .ref (q 30), .ref (q 31)])), (q 12, .inl (k 0, 1001, .inl tf))] (po_X8_tells k q v ms rs bh tz fa mz wn tk tf x) := by
  refine ct_v_of (cc := cX8_tells) (nL := 2) (rt := none) (by decide) rfl (Nat.le_of_ble_eq_true rfl) ?_
  intro p_ e_ s_0 m_0 below_ meth_ c_0 A_0 C_0 hP hK hD hS hA ls hl
  obtain ⟨hx_, hb_, hml_, hr_, hown_, hlk_, hnm_, hts_⟩ := id C_0
  have hl : lv_has ls 2 [(0, .ref (q 0)), (1, .int x)] := hl
  refine lv_aload_n hx_ hb_ dX8_tells_0 rfl (lv_at hl 0 rfl) ?_
  refine va_get (D := D) (ci := 8) (v := .int (nI tz)) (C := RX8) (T := TX8) (N := 32) hx_ hb_ hts_ inM_X8 hown_ hK.1 hP 0 rfl rfl 13 (by decide) (hts_ _ (List.mem_cons_of_mem _ wa_f_X8_103)) (fun _ h9 => h9) rfl dX8_tells_1 ?_
  refine lv_sipush (v := 1000) hx_ hb_ dX8_tells_4 (by decide) ?_
  refine lv_icmp_ne (tgt := 16) hx_ hb_ dX8_tells_7 (by decide) (fun cc1 => ?_) (fun cc1 => ?_)
  · have nn1 : ¬ tz = 1000 := fun hh => cc1 ((nI_eq (a := tz) (b := 1000) (by omega) (by omega)).mpr hh)
    refine lv_aload_n hx_ hb_ dX8_tells_16 rfl (lv_at hl 0 rfl) ?_
    refine va_get (D := D) (ci := 8) (v := .ref (q 12)) (C := RX8) (T := TX8) (N := 32) hx_ hb_ hts_ inM_X8 hown_ hK.1 hP 0 rfl rfl 12 (by decide) (hts_ _ (List.mem_cons_of_mem _ wa_f_X8_36)) (fun _ h9 => h9) rfl dX8_tells_17 ?_
    refine lv_aload_n hx_ hb_ dX8_tells_20 rfl (lv_at hl 0 rfl) ?_
    refine va_get (D := D) (ci := 8) (v := .int (nI tz)) (C := RX8) (T := TX8) (N := 32) hx_ hb_ hts_ inM_X8 hown_ hK.1 hP 0 rfl rfl 13 (by decide) (hts_ _ (List.mem_cons_of_mem _ wa_f_X8_103)) (fun _ h9 => h9) rfl dX8_tells_21 ?_
    refine lv_iload_n hx_ hb_ dX8_tells_24 rfl (lv_at hl 1 rfl) ?_
    refine va_iast hx_ hb_ hK.1 hP hD hS 1 0 rfl rfl (vp_in_nI (by omega) (by decide)) dX8_tells_25 (fun H locs hP hD hS => ?_)
    rw [show Int32.toNatClampNeg (nI tz) = tz from nI_clamp (by omega)] at hP hD
    have hP : va_P D vwCl [(q 0, .inr (8, [.int v, .ref (q 1), .int (nI ms), .ref (q 3), .int (nI rs), .ref (q 5), .ref (q 6), .int bh, .ref (q 8), .ref (q 9), .ref (q 10), .ref (q 11), .ref (q 12), .int (nI tz), .int fa, .ref (q 15), .int (nI mz), .ref (q 17), .ref (q 18), .ref (q 19), .ref (q 20), .ref (q 21), .ref (q 22), .ref (q 23), .ref (q 24), .int (nI wn), .ref (q 26), .ref (q 27), .int (nI tk), .ref (q 29), .ref (q 30), .ref (q 31)])), (q 12, .inl (k 0, 1001, .inl (upd tf tz x)))] H := hP
    have hD : va_D A_0 [(q 0, .inr (8, [.int v, .ref (q 1), .int (nI ms), .ref (q 3), .int (nI rs), .ref (q 5), .ref (q 6), .int bh, .ref (q 8), .ref (q 9), .ref (q 10), .ref (q 11), .ref (q 12), .int (nI tz), .int fa, .ref (q 15), .int (nI mz), .ref (q 17), .ref (q 18), .ref (q 19), .ref (q 20), .ref (q 21), .ref (q 22), .ref (q 23), .ref (q 24), .int (nI wn), .ref (q 26), .ref (q 27), .int (nI tk), .ref (q 29), .ref (q 30), .ref (q 31)])), (q 12, .inl (k 0, 1001, .inl (upd tf tz x)))] := hD
    refine lv_aload_n hx_ hb_ dX8_tells_26 rfl (lv_at hl 0 rfl) ?_
    refine lv_dup hx_ hb_ dX8_tells_27 rfl ?_
    refine va_get (D := D) (ci := 8) (v := .int (nI tz)) (C := RX8) (T := TX8) (N := 32) hx_ hb_ hts_ inM_X8 hown_ hK.1 hP 0 rfl rfl 13 (by decide) (hts_ _ (List.mem_cons_of_mem _ wa_f_X8_103)) (fun _ h9 => h9) rfl dX8_tells_28 ?_
    refine lv_iconst (v := 1) hx_ hb_ dX8_tells_31 (by decide) ?_
    refine lv_iadd hx_ hb_ dX8_tells_32 ?_
    refine lv_ti (y := nI (tz + 1)) (nI_add _ _) ?_
    refine va_put (D := D) (ci := 8) (v := .int (nI (tz + 1))) (ty := .int) (C := RX8) (T := TX8) (N := 32) hx_ hb_ hts_ inM_X8 tyX8 tyX8_ok nmX8 hown_ hK.1 hP hD hS 0 rfl rfl 13 (by decide) (hts_ _ (List.mem_cons_of_mem _ wa_f_X8_103)) (fun _ h9 => h9) rfl (by decide +kernel) rfl rfl (Nat.le_of_ble_eq_true rfl) dX8_tells_33 (fun H locs hP hD hS => ?_)
    have hP : va_P D vwCl [(q 0, .inr (8, [.int v, .ref (q 1), .int (nI ms), .ref (q 3), .int (nI rs), .ref (q 5), .ref (q 6), .int bh, .ref (q 8), .ref (q 9), .ref (q 10), .ref (q 11), .ref (q 12), .int (nI (tz + 1)), .int fa, .ref (q 15), .int (nI mz), .ref (q 17), .ref (q 18), .ref (q 19), .ref (q 20), .ref (q 21), .ref (q 22), .ref (q 23), .ref (q 24), .int (nI wn), .ref (q 26), .ref (q 27), .int (nI tk), .ref (q 29), .ref (q 30), .ref (q 31)])), (q 12, .inl (k 0, 1001, .inl (upd tf tz x)))] H := hP
    have hD : va_D A_0 [(q 0, .inr (8, [.int v, .ref (q 1), .int (nI ms), .ref (q 3), .int (nI rs), .ref (q 5), .ref (q 6), .int bh, .ref (q 8), .ref (q 9), .ref (q 10), .ref (q 11), .ref (q 12), .int (nI (tz + 1)), .int fa, .ref (q 15), .int (nI mz), .ref (q 17), .ref (q 18), .ref (q 19), .ref (q 20), .ref (q 21), .ref (q 22), .ref (q 23), .ref (q 24), .int (nI wn), .ref (q 26), .ref (q 27), .int (nI tk), .ref (q 29), .ref (q 30), .ref (q 31)])), (q 12, .inl (k 0, 1001, .inl (upd tf tz x)))] := hD
    have eq1 : (nI (tz + 1) : Int32) = nI ((tl_s x (fa, (tz, tf))).2.1) := by simp [tl_s, eq_false cc1, eq_false nn1]
    have eq2 : (fa : Int32) = (tl_s x (fa, (tz, tf))).1 := by simp [tl_s, eq_false cc1, eq_false nn1]
    have eq3 : (upd tf tz x : Nat → Int32) = (tl_s x (fa, (tz, tf))).2.2 := by simp [tl_s, eq_false cc1, eq_false nn1]
    exact ct_vret C_0 (hP.sub [0, 1] rfl) (hD.sub [0, 1] (by decide) rfl) hS (Nat.le_of_ble_eq_true rfl) (Nat.le_of_ble_eq_true rfl) dX8_tells_36 (congr (congr (congrArg (fun (z1 : Int32) (z2 : Int32) (z3 : Nat → Int32) => ([(q 0, .inr (8, [.int v, .ref (q 1), .int (nI ms), .ref (q 3), .int (nI rs), .ref (q 5), .ref (q 6), .int bh, .ref (q 8), .ref (q 9), .ref (q 10), .ref (q 11), .ref (q 12), .int z1, .int z2, .ref (q 15), .int (nI mz), .ref (q 17), .ref (q 18), .ref (q 19), .ref (q 20), .ref (q 21), .ref (q 22), .ref (q 23), .ref (q 24), .int (nI wn), .ref (q 26), .ref (q 27), .int (nI tk), .ref (q 29), .ref (q 30), .ref (q 31)])), (q 12, .inl (k 0, 1001, .inl z3))] : va_W)) eq1) eq2) eq3)
  · have nn1 : tz = 1000 := (nI_eq (a := tz) (b := 1000) (by omega) (by omega)).mp cc1
    refine lv_aload_n hx_ hb_ dX8_tells_10 rfl (lv_at hl 0 rfl) ?_
    refine lv_iconst (v := 4) hx_ hb_ dX8_tells_11 (by decide) ?_
    refine va_put (D := D) (ci := 8) (v := .int 4) (ty := .int) (C := RX8) (T := TX8) (N := 32) hx_ hb_ hts_ inM_X8 tyX8 tyX8_ok nmX8 hown_ hK.1 hP hD hS 0 rfl rfl 14 (by decide) (hts_ _ (List.mem_cons_of_mem _ wa_f_X8_99)) (fun _ h9 => h9) rfl (by decide +kernel) rfl rfl (Nat.le_of_ble_eq_true rfl) dX8_tells_12 (fun H locs hP hD hS => ?_)
    have hP : va_P D vwCl [(q 0, .inr (8, [.int v, .ref (q 1), .int (nI ms), .ref (q 3), .int (nI rs), .ref (q 5), .ref (q 6), .int bh, .ref (q 8), .ref (q 9), .ref (q 10), .ref (q 11), .ref (q 12), .int (nI tz), .int 4, .ref (q 15), .int (nI mz), .ref (q 17), .ref (q 18), .ref (q 19), .ref (q 20), .ref (q 21), .ref (q 22), .ref (q 23), .ref (q 24), .int (nI wn), .ref (q 26), .ref (q 27), .int (nI tk), .ref (q 29), .ref (q 30), .ref (q 31)])), (q 12, .inl (k 0, 1001, .inl tf))] H := hP
    have hD : va_D A_0 [(q 0, .inr (8, [.int v, .ref (q 1), .int (nI ms), .ref (q 3), .int (nI rs), .ref (q 5), .ref (q 6), .int bh, .ref (q 8), .ref (q 9), .ref (q 10), .ref (q 11), .ref (q 12), .int (nI tz), .int 4, .ref (q 15), .int (nI mz), .ref (q 17), .ref (q 18), .ref (q 19), .ref (q 20), .ref (q 21), .ref (q 22), .ref (q 23), .ref (q 24), .int (nI wn), .ref (q 26), .ref (q 27), .int (nI tk), .ref (q 29), .ref (q 30), .ref (q 31)])), (q 12, .inl (k 0, 1001, .inl tf))] := hD
    have eq1 : (nI tz : Int32) = nI ((tl_s x (fa, (tz, tf))).2.1) := by simp [tl_s, eq_true cc1, eq_true nn1]
    have eq2 : (4 : Int32) = (tl_s x (fa, (tz, tf))).1 := by simp [tl_s, eq_true cc1, eq_true nn1]
    have eq3 : (tf : Nat → Int32) = (tl_s x (fa, (tz, tf))).2.2 := by simp [tl_s, eq_true cc1, eq_true nn1]
    exact ct_vret C_0 (hP.sub [0, 1] rfl) (hD.sub [0, 1] (by decide) rfl) hS (Nat.le_of_ble_eq_true rfl) (Nat.le_of_ble_eq_true rfl) dX8_tells_15 (congr (congr (congrArg (fun (z1 : Int32) (z2 : Int32) (z3 : Nat → Int32) => ([(q 0, .inr (8, [.int v, .ref (q 1), .int (nI ms), .ref (q 3), .int (nI rs), .ref (q 5), .ref (q 6), .int bh, .ref (q 8), .ref (q 9), .ref (q 10), .ref (q 11), .ref (q 12), .int z1, .int z2, .ref (q 15), .int (nI mz), .ref (q 17), .ref (q 18), .ref (q 19), .ref (q 20), .ref (q 21), .ref (q 22), .ref (q 23), .ref (q 24), .int (nI wn), .ref (q 26), .ref (q 27), .int (nI tk), .ref (q 29), .ref (q 30), .ref (q 31)])), (q 12, .inl (k 0, 1001, .inl z3))] : va_W)) eq1) eq2) eq3)
abbrev po_X8_letterOf (k : Nat → ClassId) (q : Nat → Nat) (v : Int32) (ms : Nat) (rs : Nat) (bh : Int32) (tz : Nat) (fa : Int32) (mz : Nat) (wn : Nat) (tk : Nat) (lt : Nat → Int32) (c : Int32) : Int32 → va_W → Prop := fun ans_ w1 => ans_ = lo_from lt c 3 0 ∧ w1 = [(q 0, .inr (8, [.int v, .ref (q 1), .int (nI ms), .ref (q 3), .int (nI rs), .ref (q 5), .ref (q 6), .int bh, .ref (q 8), .ref (q 9), .ref (q 10), .ref (q 11), .ref (q 12), .int (nI tz), .int fa, .ref (q 15), .int (nI mz), .ref (q 17), .ref (q 18), .ref (q 19), .ref (q 20), .ref (q 21), .ref (q 22), .ref (q 23), .ref (q 24), .int (nI wn), .ref (q 26), .ref (q 27), .int (nI tk), .ref (q 29), .ref (q 30), .ref (q 31)])), (q 5, .inl (k 0, 96, .inl lt))]
set_option maxHeartbeats 4000000 in
set_option maxRecDepth 100000 in
/-- letterOf -/
theorem k_X8_letterOf (l : Launch) (D : va_G) (k : Nat → ClassId) (q : Nat → Nat) (v : Int32) (ms : Nat) (rs : Nat) (bh : Int32) (tz : Nat) (fa : Int32) (mz : Nat) (wn : Nat) (tk : Nat) (lt : Nat → Int32) (c : Int32)  : ct_i l D (TY k) yX8_letterOf wsX8_letterOf ({ frames := 0, cells := 0, slots := 0, locals := 0 } : Room) [.ref (q 0), .int c] [(q 0, .inr (8, [.int v, .ref (q 1), .int (nI ms), .ref (q 3), .int (nI rs), .ref (q 5), .ref (q 6), .int bh, .ref (q 8), .ref (q 9), .ref (q 10), .ref (q 11), .ref (q 12), .int (nI tz), .int fa, .ref (q 15), .int (nI mz), .ref (q 17), .ref (q 18), .ref (q 19), .ref (q 20), .ref (q 21), .ref (q 22), .ref (q 23), .ref (q 24), .int (nI wn), .ref (q 26), .ref (q 27), .int (nI tk), .ref (q 29), .ref (q 30), .ref (q 31)])), (q 5, .inl (k 0, 96, .inl lt))] (po_X8_letterOf k q v ms rs bh tz fa mz wn tk lt c) := by
  refine ct_i_of (cc := cX8_letterOf) (nL := 4) (rt := (some .int)) (by decide) rfl (Nat.le_of_ble_eq_true rfl) ?_
  intro p_ e_ s_0 m_0 below_ meth_ c_0 A_0 C_0 hP hK hD hS hA ls hl
  obtain ⟨hx_, hb_, hml_, hr_, hown_, hlk_, hnm_, hts_⟩ := id C_0
  have hl : lv_has ls 4 [(0, .ref (q 0)), (1, .int c)] := hl
  refine lv_iconst (v := 0) hx_ hb_ dX8_letterOf_0 (by decide) ?_
  refine lv_istore_n (lv' := [(2, .int 0), (0, .ref (q 0)), (1, .int c)]) hx_ hb_ dX8_letterOf_1 rfl hl (by decide) rfl (fun ls hl => ?_)
  have lp2 : ∀ (fu : Nat) (a : Nat) (H : Heap) (locs : List Loc) (ls : Array Slot), 3 - a < fu → (a ≤ 3) → (lo_from lt c 3 0 = lo_from lt c (3 - a) a) → va_P D vwCl [(q 0, .inr (8, [.int v, .ref (q 1), .int (nI ms), .ref (q 3), .int (nI rs), .ref (q 5), .ref (q 6), .int bh, .ref (q 8), .ref (q 9), .ref (q 10), .ref (q 11), .ref (q 12), .int (nI tz), .int fa, .ref (q 15), .int (nI mz), .ref (q 17), .ref (q 18), .ref (q 19), .ref (q 20), .ref (q 21), .ref (q 22), .ref (q 23), .ref (q 24), .int (nI wn), .ref (q 26), .ref (q 27), .int (nI tk), .ref (q 29), .ref (q 30), .ref (q 31)])), (q 5, .inl (k 0, 96, .inl lt))] H → va_D A_0 [(q 0, .inr (8, [.int v, .ref (q 1), .int (nI ms), .ref (q 3), .int (nI rs), .ref (q 5), .ref (q 6), .int bh, .ref (q 8), .ref (q 9), .ref (q 10), .ref (q 11), .ref (q 12), .int (nI tz), .int fa, .ref (q 15), .int (nI mz), .ref (q 17), .ref (q 18), .ref (q 19), .ref (q 20), .ref (q 21), .ref (q 22), .ref (q 23), .ref (q 24), .int (nI wn), .ref (q 26), .ref (q 27), .int (nI tk), .ref (q 29), .ref (q 30), .ref (q 31)])), (q 5, .inl (k 0, 96, .inl lt))] → va_S A_0 s_0.heap H locs → lv_has ls 4 [(0, .ref (q 0)), (1, .int c), (2, .int (nI a))] → W p_ l e_ (headSpec wsX8_letterOf ({ frames := 0, cells := 0, slots := 0, locals := 0 } : Room)).room s_0 m_0 (([.ref (q 0), .int c] : List Value).toArray) below_ meth_ c_0 H locs 0 0 (ct_Zi below_ D (po_X8_letterOf k q v ms rs bh tz fa mz wn tk lt c) A_0 (([.ref (q 0), .int c] : List Value).toArray) s_0 0 0) (F0 m_0 2 ls []) := by
    intro fu
    induction fu with
    | zero => intro a H locs ls hm_; exact absurd hm_ (Nat.not_lt_zero _)
    | succ fu ih2 =>
      intro a H locs ls hm_ ha hez hP hD hS hl
      refine lv_iload_n hx_ hb_ dX8_letterOf_2 rfl (lv_at hl 2 rfl) ?_
      refine lv_iconst (v := 3) hx_ hb_ dX8_letterOf_3 (by decide) ?_
      refine lv_icmp_ge (tgt := 61) hx_ hb_ dX8_letterOf_4 (by decide) (fun cc1 => ?_) (fun cc1 => ?_)
      · have nn1 : 3 ≤ a := (nI_leI (a := 3) (b := a) (by omega) (by omega)).mp cc1
        have nn1m : ¬ a < 3 := by omega
        refine lv_iconst (v := (-1)) hx_ hb_ dX8_letterOf_61 (by decide) ?_
        have eqr : ((-1) : Int32) = lo_from lt c 3 0 := by rw [hez, show 3 - a = 0 by omega]; rfl
        exact ct_iret C_0 (hP.sub [0, 1] rfl) (hD.sub [0, 1] (by decide) rfl) hS (Nat.le_of_ble_eq_true rfl) (Nat.le_of_ble_eq_true rfl) dX8_letterOf_62 (⟨eqr, rfl⟩)
      · have nn1 : ¬ 3 ≤ a := fun hh => cc1 ((nI_leI (a := 3) (b := a) (by omega) (by omega)).mpr hh)
        have nn1m : a < 3 := by omega
        refine lv_bipush (v := 6) hx_ hb_ dX8_letterOf_7 (by decide) ?_
        refine lv_istore_n (lv' := [(3, .int 6), (0, .ref (q 0)), (1, .int c), (2, .int (nI a))]) hx_ hb_ dX8_letterOf_9 rfl hl (by decide) rfl (fun ls hl => ?_)
        have lp10 : ∀ (fu : Nat) (n : Nat) (H : Heap) (locs : List Loc) (ls : Array Slot), 32 - n < fu → (6 ≤ n) → (n ≤ 32) → (lo_in lt c a 26 6 = lo_in lt c a (32 - n) n) → va_P D vwCl [(q 0, .inr (8, [.int v, .ref (q 1), .int (nI ms), .ref (q 3), .int (nI rs), .ref (q 5), .ref (q 6), .int bh, .ref (q 8), .ref (q 9), .ref (q 10), .ref (q 11), .ref (q 12), .int (nI tz), .int fa, .ref (q 15), .int (nI mz), .ref (q 17), .ref (q 18), .ref (q 19), .ref (q 20), .ref (q 21), .ref (q 22), .ref (q 23), .ref (q 24), .int (nI wn), .ref (q 26), .ref (q 27), .int (nI tk), .ref (q 29), .ref (q 30), .ref (q 31)])), (q 5, .inl (k 0, 96, .inl lt))] H → va_D A_0 [(q 0, .inr (8, [.int v, .ref (q 1), .int (nI ms), .ref (q 3), .int (nI rs), .ref (q 5), .ref (q 6), .int bh, .ref (q 8), .ref (q 9), .ref (q 10), .ref (q 11), .ref (q 12), .int (nI tz), .int fa, .ref (q 15), .int (nI mz), .ref (q 17), .ref (q 18), .ref (q 19), .ref (q 20), .ref (q 21), .ref (q 22), .ref (q 23), .ref (q 24), .int (nI wn), .ref (q 26), .ref (q 27), .int (nI tk), .ref (q 29), .ref (q 30), .ref (q 31)])), (q 5, .inl (k 0, 96, .inl lt))] → va_S A_0 s_0.heap H locs → lv_has ls 4 [(0, .ref (q 0)), (1, .int c), (2, .int (nI a)), (3, .int (nI n))] → W p_ l e_ (headSpec wsX8_letterOf ({ frames := 0, cells := 0, slots := 0, locals := 0 } : Room)).room s_0 m_0 (([.ref (q 0), .int c] : List Value).toArray) below_ meth_ c_0 H locs 0 0 (ct_Zi below_ D (po_X8_letterOf k q v ms rs bh tz fa mz wn tk lt c) A_0 (([.ref (q 0), .int c] : List Value).toArray) s_0 0 0) (F0 m_0 10 ls []) := by
          intro fu
          induction fu with
          | zero => intro n H locs ls hm_; exact absurd hm_ (Nat.not_lt_zero _)
          | succ fu ih10 =>
            intro n H locs ls hm_ hn6 hn hen hP hD hS hl
            refine lv_iload_n hx_ hb_ dX8_letterOf_10 rfl (lv_at hl 3 rfl) ?_
            refine lv_bipush (v := 32) hx_ hb_ dX8_letterOf_11 (by decide) ?_
            refine lv_icmp_ge (tgt := 55) hx_ hb_ dX8_letterOf_13 (by decide) (fun cc2 => ?_) (fun cc2 => ?_)
            · have nn2 : 32 ≤ n := (nI_leI (a := 32) (b := n) (by omega) (by omega)).mp cc2
              have nn2m : ¬ n < 32 := by omega
              refine lv_iinc (v := nI (a + 1)) (lv' := [(2, .int (nI (a + 1))), (0, .ref (q 0)), (1, .int c), (3, .int (nI n))]) hx_ hb_ dX8_letterOf_55 hl (k := 2) rfl (nI_add _ _) (by decide) rfl (fun ls hl => ?_)
              refine lv_goto (tgt := 2) hx_ hb_ dX8_letterOf_58 (by decide) ?_
              have hin_ : lo_in lt c a 26 6 = -1 := by rw [hen, show 32 - n = 0 by omega, lo_in]
              exact ih2 (a + 1) _ _ _ (by omega) (by omega) (by rw [hez, show 3 - a = (3 - (a + 1)) + 1 by omega, lo_from, if_pos hin_]) (hP.sub [0, 1] rfl) (hD.sub [0, 1] (by decide) rfl) hS (lv_sub hl [1, 2, 0] rfl)
            · have nn2 : ¬ 32 ≤ n := fun hh => cc2 ((nI_leI (a := 32) (b := n) (by omega) (by omega)).mpr hh)
              have nn2m : n < 32 := by omega
              refine lv_aload_n hx_ hb_ dX8_letterOf_16 rfl (lv_at hl 0 rfl) ?_
              refine va_get (D := D) (ci := 8) (v := .ref (q 5)) (C := RX8) (T := TX8) (N := 32) hx_ hb_ hts_ inM_X8 hown_ hK.1 hP 0 rfl rfl 5 (by decide) (hts_ _ (List.mem_cons_of_mem _ wa_f_X8_17)) (fun _ h9 => h9) rfl dX8_letterOf_17 ?_
              refine lv_bipush (v := 32) hx_ hb_ dX8_letterOf_20 (by decide) ?_
              refine lv_iload_n hx_ hb_ dX8_letterOf_22 rfl (lv_at hl 2 rfl) ?_
              refine lv_imul hx_ hb_ dX8_letterOf_23 ?_
              refine lv_ti (y := nI (32 * a)) (pk_mul _ _) ?_
              refine lv_iload_n hx_ hb_ dX8_letterOf_24 rfl (lv_at hl 3 rfl) ?_
              refine lv_iadd hx_ hb_ dX8_letterOf_25 ?_
              refine lv_ti (y := nI ((32 * a) + n)) (nI_add _ _) ?_
              refine va_iald hx_ hb_ hK.1 hP 1 0 rfl rfl (vp_in_nI (by omega) (by decide)) dX8_letterOf_26 ?_
              refine lv_ti (y := lt ((32 * a) + n)) (congrArg _ (nI_clamp (by omega))) ?_
              refine lv_iload_n hx_ hb_ dX8_letterOf_27 rfl (lv_at hl 1 rfl) ?_
              refine lv_icmp_ne (tgt := 49) hx_ hb_ dX8_letterOf_28 (by decide) (fun cc3 => ?_) (fun cc3 => ?_)
              · skip
                refine lv_iinc (v := nI (n + 1)) (lv' := [(3, .int (nI (n + 1))), (0, .ref (q 0)), (1, .int c), (2, .int (nI a))]) hx_ hb_ dX8_letterOf_49 hl (k := 3) rfl (nI_add _ _) (by decide) rfl (fun ls hl => ?_)
                refine lv_goto (tgt := 10) hx_ hb_ dX8_letterOf_52 (by decide) ?_
                exact ih10 (n + 1) _ _ _ (by omega) (by omega) (by omega) (by rw [hen, show 32 - n = (32 - (n + 1)) + 1 by omega, lo_in, if_neg]; intro qq; exact cc3 qq.1) (hP.sub [0, 1] rfl) (hD.sub [0, 1] (by decide) rfl) hS (lv_sub hl [1, 2, 3, 0] rfl)
              · skip
                refine lv_iload_n hx_ hb_ dX8_letterOf_31 rfl (lv_at hl 2 rfl) ?_
                refine lv_iconst (v := 2) hx_ hb_ dX8_letterOf_32 (by decide) ?_
                refine lv_icmp_lt (tgt := 42) hx_ hb_ dX8_letterOf_33 (by decide) (fun cc4 => ?_) (fun cc4 => ?_)
                · have nn4 : a < 2 := (nI_ltI (a := a) (b := 2) (by omega) (by omega)).mp cc4
                  have nn4m : ¬ 2 ≤ a := by omega
                  refine lv_bipush (v := 32) hx_ hb_ dX8_letterOf_42 (by decide) ?_
                  refine lv_iload_n hx_ hb_ dX8_letterOf_44 rfl (lv_at hl 2 rfl) ?_
                  refine lv_imul hx_ hb_ dX8_letterOf_45 ?_
                  refine lv_ti (y := nI (32 * a)) (pk_mul _ _) ?_
                  refine lv_iload_n hx_ hb_ dX8_letterOf_46 rfl (lv_at hl 3 rfl) ?_
                  refine lv_iadd hx_ hb_ dX8_letterOf_47 ?_
                  refine lv_ti (y := nI ((32 * a) + n)) (nI_add _ _) ?_
                  have eqr : (nI ((32 * a) + n) : Int32) = lo_from lt c 3 0 := by have hin_ : lo_in lt c a 26 6 = nI (32 * a + n) := (by rw [hen, show 32 - n = (32 - (n + 1)) + 1 by omega, lo_in, if_pos ⟨cc3, Or.inl nn4⟩]); rw [hez, show 3 - a = (3 - (a + 1)) + 1 by omega, lo_from, hin_, if_neg (nI_m1 (by omega))]
                  exact ct_iret C_0 (hP.sub [0, 1] rfl) (hD.sub [0, 1] (by decide) rfl) hS (Nat.le_of_ble_eq_true rfl) (Nat.le_of_ble_eq_true rfl) dX8_letterOf_48 (⟨eqr, rfl⟩)
                · have nn4 : ¬ a < 2 := fun hh => cc4 ((nI_ltI (a := a) (b := 2) (by omega) (by omega)).mpr hh)
                  have nn4m : 2 ≤ a := by omega
                  refine lv_iload_n hx_ hb_ dX8_letterOf_36 rfl (lv_at hl 3 rfl) ?_
                  refine lv_bipush (v := 6) hx_ hb_ dX8_letterOf_37 (by decide) ?_
                  refine lv_icmp_le (tgt := 49) hx_ hb_ dX8_letterOf_39 (by decide) (fun cc5 => ?_) (fun cc5 => ?_)
                  · have nn5 : n ≤ 6 := (nI_leI (a := n) (b := 6) (by omega) (by omega)).mp cc5
                    have nn5m : ¬ 6 < n := by omega
                    refine lv_iinc (v := nI (n + 1)) (lv' := [(3, .int (nI (n + 1))), (0, .ref (q 0)), (1, .int c), (2, .int (nI a))]) hx_ hb_ dX8_letterOf_49 hl (k := 3) rfl (nI_add _ _) (by decide) rfl (fun ls hl => ?_)
                    refine lv_goto (tgt := 10) hx_ hb_ dX8_letterOf_52 (by decide) ?_
                    exact ih10 (n + 1) _ _ _ (by omega) (by omega) (by omega) (by rw [hen, show 32 - n = (32 - (n + 1)) + 1 by omega, lo_in, if_neg]; intro qq; have q2 := qq.2; omega) (hP.sub [0, 1] rfl) (hD.sub [0, 1] (by decide) rfl) hS (lv_sub hl [1, 2, 3, 0] rfl)
                  · have nn5 : ¬ n ≤ 6 := fun hh => cc5 ((nI_leI (a := n) (b := 6) (by omega) (by omega)).mpr hh)
                    have nn5m : 6 < n := by omega
                    refine lv_bipush (v := 32) hx_ hb_ dX8_letterOf_42 (by decide) ?_
                    refine lv_iload_n hx_ hb_ dX8_letterOf_44 rfl (lv_at hl 2 rfl) ?_
                    refine lv_imul hx_ hb_ dX8_letterOf_45 ?_
                    refine lv_ti (y := nI (32 * a)) (pk_mul _ _) ?_
                    refine lv_iload_n hx_ hb_ dX8_letterOf_46 rfl (lv_at hl 3 rfl) ?_
                    refine lv_iadd hx_ hb_ dX8_letterOf_47 ?_
                    refine lv_ti (y := nI ((32 * a) + n)) (nI_add _ _) ?_
                    have eqr : (nI ((32 * a) + n) : Int32) = lo_from lt c 3 0 := by have hin_ : lo_in lt c a 26 6 = nI (32 * a + n) := (by rw [hen, show 32 - n = (32 - (n + 1)) + 1 by omega, lo_in, if_pos ⟨cc3, Or.inr (by omega)⟩]); rw [hez, show 3 - a = (3 - (a + 1)) + 1 by omega, lo_from, hin_, if_neg (nI_m1 (by omega))]
                    exact ct_iret C_0 (hP.sub [0, 1] rfl) (hD.sub [0, 1] (by decide) rfl) hS (Nat.le_of_ble_eq_true rfl) (Nat.le_of_ble_eq_true rfl) dX8_letterOf_48 (⟨eqr, rfl⟩)
        exact lp10 ((32 - 6) + 1) 6 _ _ _ (Nat.lt_succ_self _) (by omega) (by omega) (by rfl) (hP.sub [0, 1] rfl) (hD.sub [0, 1] (by decide) rfl) hS (lv_sub hl [1, 2, 3, 0] rfl)
  exact lp2 ((3 - 0) + 1) 0 _ _ _ (Nat.lt_succ_self _) (by omega) (by rfl) (hP.sub [0, 1] rfl) (hD.sub [0, 1] (by decide) rfl) hS (lv_sub hl [1, 2, 0] rfl)
abbrev po_X8_shift (k : Nat → ClassId) (q : Nat → Nat) (v : Int32) (ms : Nat) (rs : Nat) (bh : Int32) (tz : Nat) (fa : Int32) (mz : Nat) (wn : Nat) (tk : Nat) (a1 : Int32) : Int32 → va_W → Prop := fun ans_ w1 => ans_ = mh_sh v a1 ∧ w1 = [(q 0, .inr (8, [.int v, .ref (q 1), .int (nI ms), .ref (q 3), .int (nI rs), .ref (q 5), .ref (q 6), .int bh, .ref (q 8), .ref (q 9), .ref (q 10), .ref (q 11), .ref (q 12), .int (nI tz), .int fa, .ref (q 15), .int (nI mz), .ref (q 17), .ref (q 18), .ref (q 19), .ref (q 20), .ref (q 21), .ref (q 22), .ref (q 23), .ref (q 24), .int (nI wn), .ref (q 26), .ref (q 27), .int (nI tk), .ref (q 29), .ref (q 30), .ref (q 31)]))]
set_option maxHeartbeats 4000000 in
set_option maxRecDepth 100000 in
/-- shift -/
theorem k_X8_shift (l : Launch) (D : va_G) (k : Nat → ClassId) (q : Nat → Nat) (v : Int32) (ms : Nat) (rs : Nat) (bh : Int32) (tz : Nat) (fa : Int32) (mz : Nat) (wn : Nat) (tk : Nat) (a1 : Int32)  : ct_i l D (TY k) yX8_shift wsX8_shift ({ frames := 0, cells := 0, slots := 0, locals := 0 } : Room) [.ref (q 0), .int a1] [(q 0, .inr (8, [.int v, .ref (q 1), .int (nI ms), .ref (q 3), .int (nI rs), .ref (q 5), .ref (q 6), .int bh, .ref (q 8), .ref (q 9), .ref (q 10), .ref (q 11), .ref (q 12), .int (nI tz), .int fa, .ref (q 15), .int (nI mz), .ref (q 17), .ref (q 18), .ref (q 19), .ref (q 20), .ref (q 21), .ref (q 22), .ref (q 23), .ref (q 24), .int (nI wn), .ref (q 26), .ref (q 27), .int (nI tk), .ref (q 29), .ref (q 30), .ref (q 31)]))] (po_X8_shift k q v ms rs bh tz fa mz wn tk a1) := by
  refine ct_i_of (cc := cX8_shift) (nL := 2) (rt := (some .int)) (by decide) rfl (Nat.le_of_ble_eq_true rfl) ?_
  intro p_ e_ s_0 m_0 below_ meth_ c_0 A_0 C_0 hP hK hD hS hA ls hl
  obtain ⟨hx_, hb_, hml_, hr_, hown_, hlk_, hnm_, hts_⟩ := id C_0
  have hl : lv_has ls 2 [(0, .ref (q 0)), (1, .int a1)] := hl
  refine lv_aload_n hx_ hb_ dX8_shift_0 rfl (lv_at hl 0 rfl) ?_
  refine va_get (D := D) (ci := 8) (v := .int v) (C := RX8) (T := TX8) (N := 32) hx_ hb_ hts_ inM_X8 hown_ hK.1 hP 0 rfl rfl 0 (by decide) (hts_ _ (List.mem_cons_of_mem _ wa_f_X8_83)) (fun _ h9 => h9) rfl dX8_shift_1 ?_
  refine lv_iconst (v := 3) hx_ hb_ dX8_shift_4 (by decide) ?_
  refine lv_icmp_ge (tgt := 14) hx_ hb_ dX8_shift_5 (by decide) (fun cc1 => ?_) (fun cc1 => ?_)
  · skip
    refine lv_iconst (v := 3) hx_ hb_ dX8_shift_14 (by decide) ?_
    refine lv_iload_n hx_ hb_ dX8_shift_15 rfl (lv_at hl 1 rfl) ?_
    refine lv_iadd hx_ hb_ dX8_shift_16 ?_
    have eqr : (3 + a1 : Int32) = mh_sh v a1 := by simp [mh_sh, eq_true cc1]
    exact ct_iret C_0 (hP.sub [0] rfl) (hD.sub [0] (by decide) rfl) hS (Nat.le_of_ble_eq_true rfl) (Nat.le_of_ble_eq_true rfl) dX8_shift_17 (⟨eqr, rfl⟩)
  · skip
    refine lv_iconst (v := 1) hx_ hb_ dX8_shift_8 (by decide) ?_
    refine lv_iload_n hx_ hb_ dX8_shift_9 rfl (lv_at hl 1 rfl) ?_
    refine lv_iadd hx_ hb_ dX8_shift_10 ?_
    refine lv_goto (tgt := 17) hx_ hb_ dX8_shift_11 (by decide) ?_
    have eqr : (1 + a1 : Int32) = mh_sh v a1 := by simp [mh_sh, eq_false cc1]
    exact ct_iret C_0 (hP.sub [0] rfl) (hD.sub [0] (by decide) rfl) hS (Nat.le_of_ble_eq_true rfl) (Nat.le_of_ble_eq_true rfl) dX8_shift_17 (⟨eqr, rfl⟩)
abbrev po_X8_numbersOf (k : Nat → ClassId) (q : Nat → Nat) (v : Int32) (ms : Nat) (rs : Nat) (bh : Int32) (tz : Nat) (fa : Int32) (mz : Nat) (wn : Nat) (tk : Nat) (lt : Nat → Int32) (f4 : Nat → Int32) (c : Int32) : Int32 → va_W → Prop := fun ans_ w1 => ans_ = nI ((no v lt c f4).1) ∧ w1 = [(q 0, .inr (8, [.int v, .ref (q 1), .int (nI ms), .ref (q 3), .int (nI rs), .ref (q 5), .ref (q 6), .int bh, .ref (q 8), .ref (q 9), .ref (q 10), .ref (q 11), .ref (q 12), .int (nI tz), .int fa, .ref (q 15), .int (nI mz), .ref (q 17), .ref (q 18), .ref (q 19), .ref (q 20), .ref (q 21), .ref (q 22), .ref (q 23), .ref (q 24), .int (nI wn), .ref (q 26), .ref (q 27), .int (nI tk), .ref (q 29), .ref (q 30), .ref (q 31)])), (q 5, .inl (k 0, 96, .inl lt)), (q 17, .inl (k 0, 4, .inl ((no v lt c f4).2)))]
set_option maxHeartbeats 4000000 in
set_option maxRecDepth 100000 in
/-- numbersOf -/
theorem k_X8_numbersOf (l : Launch) (D : va_G) (k : Nat → ClassId) (q : Nat → Nat) (v : Int32) (ms : Nat) (rs : Nat) (bh : Int32) (tz : Nat) (fa : Int32) (mz : Nat) (wn : Nat) (tk : Nat) (lt : Nat → Int32) (f4 : Nat → Int32) (c : Int32)  : ct_i l D (TY k) yX8_numbersOf wsX8_numbersOf ({ frames := 1, cells := 0, slots := 0, locals := 23 } : Room) [.ref (q 0), .int c] [(q 0, .inr (8, [.int v, .ref (q 1), .int (nI ms), .ref (q 3), .int (nI rs), .ref (q 5), .ref (q 6), .int bh, .ref (q 8), .ref (q 9), .ref (q 10), .ref (q 11), .ref (q 12), .int (nI tz), .int fa, .ref (q 15), .int (nI mz), .ref (q 17), .ref (q 18), .ref (q 19), .ref (q 20), .ref (q 21), .ref (q 22), .ref (q 23), .ref (q 24), .int (nI wn), .ref (q 26), .ref (q 27), .int (nI tk), .ref (q 29), .ref (q 30), .ref (q 31)])), (q 5, .inl (k 0, 96, .inl lt)), (q 17, .inl (k 0, 4, .inl f4))] (po_X8_numbersOf k q v ms rs bh tz fa mz wn tk lt f4 c) := by
  refine ct_i_of (cc := cX8_numbersOf) (nL := 3) (rt := (some .int)) (by decide) rfl (Nat.le_of_ble_eq_true rfl) ?_
  intro p_ e_ s_0 m_0 below_ meth_ c_0 A_0 C_0 hP hK hD hS hA ls hl
  obtain ⟨hx_, hb_, hml_, hr_, hown_, hlk_, hnm_, hts_⟩ := id C_0
  have hl : lv_has ls 3 [(0, .ref (q 0)), (1, .int c)] := hl
  refine lv_iload_n hx_ hb_ dX8_numbersOf_0 rfl (lv_at hl 1 rfl) ?_
  refine lv_bipush (v := 32) hx_ hb_ dX8_numbersOf_1 (by decide) ?_
  refine lv_icmp_ne (tgt := 15) hx_ hb_ dX8_numbersOf_3 (by decide) (fun cc1 => ?_) (fun cc1 => ?_)
  · skip
    refine lv_iload_n hx_ hb_ dX8_numbersOf_15 rfl (lv_at hl 1 rfl) ?_
    refine lv_bipush (v := 13) hx_ hb_ dX8_numbersOf_16 (by decide) ?_
    refine lv_icmp_ne (tgt := 38) hx_ hb_ dX8_numbersOf_18 (by decide) (fun cc2 => ?_) (fun cc2 => ?_)
    · skip
      refine lv_aload_n hx_ hb_ dX8_numbersOf_38 rfl (lv_at hl 0 rfl) ?_
      refine lv_iload_n hx_ hb_ dX8_numbersOf_39 rfl (lv_at hl 1 rfl) ?_
      refine ct_Vi (wr := [(q 17, .inl (k 0, 4, .inl f4))]) (rest := []) (As := [.int c]) ⟨hx_, hb_, hml_, hown_, hts_⟩ (k_X8_letterOf l D k q v ms rs bh tz fa mz wn tk lt c ) (cwV 1 hts_ (gd_in (gw_V wa_m_X8_126 wa_y_X8_letterOf wa_s_X8_letterOf wa_i_X8 wa_k_X8_letterOf)) rfl rfl rfl (by decide +kernel) ⟨Nat.le_of_ble_eq_true rfl, Nat.le_of_ble_eq_true rfl⟩) hK hP hD hS hA [0, 1] [2] rfl rfl rfl rfl (by decide) 8 rfl rfl rfl hl.1 rfl rfl (Nat.le_of_ble_eq_true rfl) dX8_numbersOf_40 ⟨Nat.le_of_ble_eq_true rfl, Nat.le_of_ble_eq_true rfl⟩ (fun rr3 w1 H locs ww4 hP hD hS => ?_)
      obtain ⟨rfl, rfl⟩ := ww4
      have hP : va_P D vwCl [(q 17, .inl (k 0, 4, .inl f4)), (q 0, .inr (8, [.int v, .ref (q 1), .int (nI ms), .ref (q 3), .int (nI rs), .ref (q 5), .ref (q 6), .int bh, .ref (q 8), .ref (q 9), .ref (q 10), .ref (q 11), .ref (q 12), .int (nI tz), .int fa, .ref (q 15), .int (nI mz), .ref (q 17), .ref (q 18), .ref (q 19), .ref (q 20), .ref (q 21), .ref (q 22), .ref (q 23), .ref (q 24), .int (nI wn), .ref (q 26), .ref (q 27), .int (nI tk), .ref (q 29), .ref (q 30), .ref (q 31)])), (q 5, .inl (k 0, 96, .inl lt))] H := hP
      have hD : va_D A_0 [(q 17, .inl (k 0, 4, .inl f4)), (q 0, .inr (8, [.int v, .ref (q 1), .int (nI ms), .ref (q 3), .int (nI rs), .ref (q 5), .ref (q 6), .int bh, .ref (q 8), .ref (q 9), .ref (q 10), .ref (q 11), .ref (q 12), .int (nI tz), .int fa, .ref (q 15), .int (nI mz), .ref (q 17), .ref (q 18), .ref (q 19), .ref (q 20), .ref (q 21), .ref (q 22), .ref (q 23), .ref (q 24), .int (nI wn), .ref (q 26), .ref (q 27), .int (nI tk), .ref (q 29), .ref (q 30), .ref (q 31)])), (q 5, .inl (k 0, 96, .inl lt))] := hD
      refine W.cs (cells' := 0) (slots' := 0) rfl rfl ?_
      refine lv_istore_n (lv' := [(2, .int (lo_from lt c 3 0)), (0, .ref (q 0)), (1, .int c)]) hx_ hb_ dX8_numbersOf_43 rfl hl (by decide) rfl (fun ls hl => ?_)
      refine lv_iload_n hx_ hb_ dX8_numbersOf_44 rfl (lv_at hl 0 rfl) ?_
      refine lv_if_lt (tgt := 63) hx_ hb_ dX8_numbersOf_45 (by decide) (fun cc5 => ?_) (fun cc5 => ?_)
      · skip
        refine lv_iload_n hx_ hb_ dX8_numbersOf_63 rfl (lv_at hl 0 rfl) ?_
        refine lv_if_lt (tgt := 93) hx_ hb_ dX8_numbersOf_64 (by decide) (fun cc6 => ?_) (fun cc6 => ?_)
        · skip
          refine lv_aload_n hx_ hb_ dX8_numbersOf_93 rfl (lv_at hl 1 rfl) ?_
          refine va_get (D := D) (ci := 8) (v := .ref (q 17)) (C := RX8) (T := TX8) (N := 32) hx_ hb_ hts_ inM_X8 hown_ hK.1 hP 1 rfl rfl 17 (by decide) (hts_ _ (List.mem_cons_of_mem _ wa_f_X8_42)) (fun _ h9 => h9) rfl dX8_numbersOf_94 ?_
          refine lv_iconst (v := 0) hx_ hb_ dX8_numbersOf_97 (by decide) ?_
          refine lv_aload_n hx_ hb_ dX8_numbersOf_98 rfl (lv_at hl 1 rfl) ?_
          refine lv_iconst (v := 2) hx_ hb_ dX8_numbersOf_99 (by decide) ?_
          refine ct_Vi (wr := [(q 17, .inl (k 0, 4, .inl f4)), (q 5, .inl (k 0, 96, .inl lt))]) (rest := [.int 0, .ref (q 17)]) (As := [.int 2]) ⟨hx_, hb_, hml_, hown_, hts_⟩ (k_X8_shift l D k q v ms rs bh tz fa mz wn tk 2 ) (cwV 1 hts_ (gd_in (gw_V wa_m_X8_129 wa_y_X8_shift wa_s_X8_shift wa_i_X8 wa_k_X8_shift)) rfl rfl rfl (by decide +kernel) ⟨Nat.le_of_ble_eq_true rfl, Nat.le_of_ble_eq_true rfl⟩) hK hP hD hS hA [1] [0, 2] rfl rfl rfl rfl (by decide) 8 rfl rfl rfl hl.1 rfl rfl (Nat.le_of_ble_eq_true rfl) dX8_numbersOf_100 ⟨Nat.le_of_ble_eq_true rfl, Nat.le_of_ble_eq_true rfl⟩ (fun rr7 w1 H locs ww8 hP hD hS => ?_)
          obtain ⟨rfl, rfl⟩ := ww8
          have hP : va_P D vwCl [(q 17, .inl (k 0, 4, .inl f4)), (q 5, .inl (k 0, 96, .inl lt)), (q 0, .inr (8, [.int v, .ref (q 1), .int (nI ms), .ref (q 3), .int (nI rs), .ref (q 5), .ref (q 6), .int bh, .ref (q 8), .ref (q 9), .ref (q 10), .ref (q 11), .ref (q 12), .int (nI tz), .int fa, .ref (q 15), .int (nI mz), .ref (q 17), .ref (q 18), .ref (q 19), .ref (q 20), .ref (q 21), .ref (q 22), .ref (q 23), .ref (q 24), .int (nI wn), .ref (q 26), .ref (q 27), .int (nI tk), .ref (q 29), .ref (q 30), .ref (q 31)]))] H := hP
          have hD : va_D A_0 [(q 17, .inl (k 0, 4, .inl f4)), (q 5, .inl (k 0, 96, .inl lt)), (q 0, .inr (8, [.int v, .ref (q 1), .int (nI ms), .ref (q 3), .int (nI rs), .ref (q 5), .ref (q 6), .int bh, .ref (q 8), .ref (q 9), .ref (q 10), .ref (q 11), .ref (q 12), .int (nI tz), .int fa, .ref (q 15), .int (nI mz), .ref (q 17), .ref (q 18), .ref (q 19), .ref (q 20), .ref (q 21), .ref (q 22), .ref (q 23), .ref (q 24), .int (nI wn), .ref (q 26), .ref (q 27), .int (nI tk), .ref (q 29), .ref (q 30), .ref (q 31)]))] := hD
          refine W.cs (cells' := 0) (slots' := 0) rfl rfl ?_
          refine va_iast hx_ hb_ hK.1 hP hD hS 0 0 rfl rfl (vp_in_nI (by decide) (by decide)) dX8_numbersOf_103 (fun H locs hP hD hS => ?_)
          rw [show Int32.toNatClampNeg 0 = 0 from nI_clamp (by decide)] at hP hD
          have hP : va_P D vwCl [(q 17, .inl (k 0, 4, .inl (upd f4 0 (mh_sh v 2)))), (q 5, .inl (k 0, 96, .inl lt)), (q 0, .inr (8, [.int v, .ref (q 1), .int (nI ms), .ref (q 3), .int (nI rs), .ref (q 5), .ref (q 6), .int bh, .ref (q 8), .ref (q 9), .ref (q 10), .ref (q 11), .ref (q 12), .int (nI tz), .int fa, .ref (q 15), .int (nI mz), .ref (q 17), .ref (q 18), .ref (q 19), .ref (q 20), .ref (q 21), .ref (q 22), .ref (q 23), .ref (q 24), .int (nI wn), .ref (q 26), .ref (q 27), .int (nI tk), .ref (q 29), .ref (q 30), .ref (q 31)]))] H := hP
          have hD : va_D A_0 [(q 17, .inl (k 0, 4, .inl (upd f4 0 (mh_sh v 2)))), (q 5, .inl (k 0, 96, .inl lt)), (q 0, .inr (8, [.int v, .ref (q 1), .int (nI ms), .ref (q 3), .int (nI rs), .ref (q 5), .ref (q 6), .int bh, .ref (q 8), .ref (q 9), .ref (q 10), .ref (q 11), .ref (q 12), .int (nI tz), .int fa, .ref (q 15), .int (nI mz), .ref (q 17), .ref (q 18), .ref (q 19), .ref (q 20), .ref (q 21), .ref (q 22), .ref (q 23), .ref (q 24), .int (nI wn), .ref (q 26), .ref (q 27), .int (nI tk), .ref (q 29), .ref (q 30), .ref (q 31)]))] := hD
          refine lv_aload_n hx_ hb_ dX8_numbersOf_104 rfl (lv_at hl 1 rfl) ?_
          refine va_get (D := D) (ci := 8) (v := .ref (q 17)) (C := RX8) (T := TX8) (N := 32) hx_ hb_ hts_ inM_X8 hown_ hK.1 hP 2 rfl rfl 17 (by decide) (hts_ _ (List.mem_cons_of_mem _ wa_f_X8_42)) (fun _ h9 => h9) rfl dX8_numbersOf_105 ?_
          refine lv_iconst (v := 1) hx_ hb_ dX8_numbersOf_108 (by decide) ?_
          refine lv_bipush (v := 6) hx_ hb_ dX8_numbersOf_109 (by decide) ?_
          refine va_iast hx_ hb_ hK.1 hP hD hS 0 0 rfl rfl (vp_in_nI (by decide) (by decide)) dX8_numbersOf_111 (fun H locs hP hD hS => ?_)
          rw [show Int32.toNatClampNeg 1 = 1 from nI_clamp (by decide)] at hP hD
          have hP : va_P D vwCl [(q 17, .inl (k 0, 4, .inl (upd (upd f4 0 (mh_sh v 2)) 1 6))), (q 5, .inl (k 0, 96, .inl lt)), (q 0, .inr (8, [.int v, .ref (q 1), .int (nI ms), .ref (q 3), .int (nI rs), .ref (q 5), .ref (q 6), .int bh, .ref (q 8), .ref (q 9), .ref (q 10), .ref (q 11), .ref (q 12), .int (nI tz), .int fa, .ref (q 15), .int (nI mz), .ref (q 17), .ref (q 18), .ref (q 19), .ref (q 20), .ref (q 21), .ref (q 22), .ref (q 23), .ref (q 24), .int (nI wn), .ref (q 26), .ref (q 27), .int (nI tk), .ref (q 29), .ref (q 30), .ref (q 31)]))] H := hP
          have hD : va_D A_0 [(q 17, .inl (k 0, 4, .inl (upd (upd f4 0 (mh_sh v 2)) 1 6))), (q 5, .inl (k 0, 96, .inl lt)), (q 0, .inr (8, [.int v, .ref (q 1), .int (nI ms), .ref (q 3), .int (nI rs), .ref (q 5), .ref (q 6), .int bh, .ref (q 8), .ref (q 9), .ref (q 10), .ref (q 11), .ref (q 12), .int (nI tz), .int fa, .ref (q 15), .int (nI mz), .ref (q 17), .ref (q 18), .ref (q 19), .ref (q 20), .ref (q 21), .ref (q 22), .ref (q 23), .ref (q 24), .int (nI wn), .ref (q 26), .ref (q 27), .int (nI tk), .ref (q 29), .ref (q 30), .ref (q 31)]))] := hD
          refine lv_aload_n hx_ hb_ dX8_numbersOf_112 rfl (lv_at hl 1 rfl) ?_
          refine va_get (D := D) (ci := 8) (v := .ref (q 17)) (C := RX8) (T := TX8) (N := 32) hx_ hb_ hts_ inM_X8 hown_ hK.1 hP 2 rfl rfl 17 (by decide) (hts_ _ (List.mem_cons_of_mem _ wa_f_X8_42)) (fun _ h9 => h9) rfl dX8_numbersOf_113 ?_
          refine lv_iconst (v := 2) hx_ hb_ dX8_numbersOf_116 (by decide) ?_
          refine lv_iload_n hx_ hb_ dX8_numbersOf_117 rfl (lv_at hl 2 rfl) ?_
          refine lv_bipush (v := 32) hx_ hb_ dX8_numbersOf_118 (by decide) ?_
          refine lv_idiv hx_ hb_ dX8_numbersOf_120 (by decide) ?_
          refine va_iast hx_ hb_ hK.1 hP hD hS 0 0 rfl rfl (vp_in_nI (by decide) (by decide)) dX8_numbersOf_121 (fun H locs hP hD hS => ?_)
          rw [show Int32.toNatClampNeg 2 = 2 from nI_clamp (by decide)] at hP hD
          have hP : va_P D vwCl [(q 17, .inl (k 0, 4, .inl (upd (upd (upd f4 0 (mh_sh v 2)) 1 6) 2 (c / 32)))), (q 5, .inl (k 0, 96, .inl lt)), (q 0, .inr (8, [.int v, .ref (q 1), .int (nI ms), .ref (q 3), .int (nI rs), .ref (q 5), .ref (q 6), .int bh, .ref (q 8), .ref (q 9), .ref (q 10), .ref (q 11), .ref (q 12), .int (nI tz), .int fa, .ref (q 15), .int (nI mz), .ref (q 17), .ref (q 18), .ref (q 19), .ref (q 20), .ref (q 21), .ref (q 22), .ref (q 23), .ref (q 24), .int (nI wn), .ref (q 26), .ref (q 27), .int (nI tk), .ref (q 29), .ref (q 30), .ref (q 31)]))] H := hP
          have hD : va_D A_0 [(q 17, .inl (k 0, 4, .inl (upd (upd (upd f4 0 (mh_sh v 2)) 1 6) 2 (c / 32)))), (q 5, .inl (k 0, 96, .inl lt)), (q 0, .inr (8, [.int v, .ref (q 1), .int (nI ms), .ref (q 3), .int (nI rs), .ref (q 5), .ref (q 6), .int bh, .ref (q 8), .ref (q 9), .ref (q 10), .ref (q 11), .ref (q 12), .int (nI tz), .int fa, .ref (q 15), .int (nI mz), .ref (q 17), .ref (q 18), .ref (q 19), .ref (q 20), .ref (q 21), .ref (q 22), .ref (q 23), .ref (q 24), .int (nI wn), .ref (q 26), .ref (q 27), .int (nI tk), .ref (q 29), .ref (q 30), .ref (q 31)]))] := hD
          refine lv_aload_n hx_ hb_ dX8_numbersOf_122 rfl (lv_at hl 1 rfl) ?_
          refine va_get (D := D) (ci := 8) (v := .ref (q 17)) (C := RX8) (T := TX8) (N := 32) hx_ hb_ hts_ inM_X8 hown_ hK.1 hP 2 rfl rfl 17 (by decide) (hts_ _ (List.mem_cons_of_mem _ wa_f_X8_42)) (fun _ h9 => h9) rfl dX8_numbersOf_123 ?_
          refine lv_iconst (v := 3) hx_ hb_ dX8_numbersOf_126 (by decide) ?_
          refine lv_iload_n hx_ hb_ dX8_numbersOf_127 rfl (lv_at hl 2 rfl) ?_
          refine lv_bipush (v := 32) hx_ hb_ dX8_numbersOf_128 (by decide) ?_
          refine lv_irem hx_ hb_ dX8_numbersOf_130 (by decide) ?_
          refine va_iast hx_ hb_ hK.1 hP hD hS 0 0 rfl rfl (vp_in_nI (by decide) (by decide)) dX8_numbersOf_131 (fun H locs hP hD hS => ?_)
          rw [show Int32.toNatClampNeg 3 = 3 from nI_clamp (by decide)] at hP hD
          have hP : va_P D vwCl [(q 17, .inl (k 0, 4, .inl (upd (upd (upd (upd f4 0 (mh_sh v 2)) 1 6) 2 (c / 32)) 3 (c - c / 32 * 32)))), (q 5, .inl (k 0, 96, .inl lt)), (q 0, .inr (8, [.int v, .ref (q 1), .int (nI ms), .ref (q 3), .int (nI rs), .ref (q 5), .ref (q 6), .int bh, .ref (q 8), .ref (q 9), .ref (q 10), .ref (q 11), .ref (q 12), .int (nI tz), .int fa, .ref (q 15), .int (nI mz), .ref (q 17), .ref (q 18), .ref (q 19), .ref (q 20), .ref (q 21), .ref (q 22), .ref (q 23), .ref (q 24), .int (nI wn), .ref (q 26), .ref (q 27), .int (nI tk), .ref (q 29), .ref (q 30), .ref (q 31)]))] H := hP
          have hD : va_D A_0 [(q 17, .inl (k 0, 4, .inl (upd (upd (upd (upd f4 0 (mh_sh v 2)) 1 6) 2 (c / 32)) 3 (c - c / 32 * 32)))), (q 5, .inl (k 0, 96, .inl lt)), (q 0, .inr (8, [.int v, .ref (q 1), .int (nI ms), .ref (q 3), .int (nI rs), .ref (q 5), .ref (q 6), .int bh, .ref (q 8), .ref (q 9), .ref (q 10), .ref (q 11), .ref (q 12), .int (nI tz), .int fa, .ref (q 15), .int (nI mz), .ref (q 17), .ref (q 18), .ref (q 19), .ref (q 20), .ref (q 21), .ref (q 22), .ref (q 23), .ref (q 24), .int (nI wn), .ref (q 26), .ref (q 27), .int (nI tk), .ref (q 29), .ref (q 30), .ref (q 31)]))] := hD
          refine lv_iconst (v := 4) hx_ hb_ dX8_numbersOf_132 (by decide) ?_
          have eq1 : (upd (upd (upd (upd f4 0 (mh_sh v 2)) 1 6) 2 (c / 32)) 3 (c - c / 32 * 32) : Nat → Int32) = (no v lt c f4).2 := by simp [no, eq_false cc1, eq_false cc2, eq_true cc5, eq_true cc6] <;> rfl
          have eqr : (4 : Int32) = nI ((no v lt c f4).1) := by simp [no, eq_false cc1, eq_false cc2, eq_true cc5, eq_true cc6] <;> rfl
          exact ct_iret C_0 (hP.sub [2, 1, 0] rfl) (hD.sub [2, 1, 0] (by decide) rfl) hS (Nat.le_of_ble_eq_true rfl) (Nat.le_of_ble_eq_true rfl) dX8_numbersOf_133 (⟨eqr, congrArg (fun (z1 : Nat → Int32) => ([(q 0, .inr (8, [.int v, .ref (q 1), .int (nI ms), .ref (q 3), .int (nI rs), .ref (q 5), .ref (q 6), .int bh, .ref (q 8), .ref (q 9), .ref (q 10), .ref (q 11), .ref (q 12), .int (nI tz), .int fa, .ref (q 15), .int (nI mz), .ref (q 17), .ref (q 18), .ref (q 19), .ref (q 20), .ref (q 21), .ref (q 22), .ref (q 23), .ref (q 24), .int (nI wn), .ref (q 26), .ref (q 27), .int (nI tk), .ref (q 29), .ref (q 30), .ref (q 31)])), (q 5, .inl (k 0, 96, .inl lt)), (q 17, .inl (k 0, 4, .inl z1))] : va_W)) eq1⟩)
        · exact absurd cc5 cc6
      · skip
        refine lv_iload_n hx_ hb_ dX8_numbersOf_48 rfl (lv_at hl 0 rfl) ?_
        refine lv_bipush (v := 32) hx_ hb_ dX8_numbersOf_49 (by decide) ?_
        refine lv_icmp_ge (tgt := 63) hx_ hb_ dX8_numbersOf_51 (by decide) (fun cc9 => ?_) (fun cc9 => ?_)
        · skip
          refine lv_iload_n hx_ hb_ dX8_numbersOf_63 rfl (lv_at hl 0 rfl) ?_
          refine lv_if_lt (tgt := 93) hx_ hb_ dX8_numbersOf_64 (by decide) (fun cc10 => ?_) (fun cc10 => ?_)
          · exact absurd cc10 cc5
          · skip
            refine lv_aload_n hx_ hb_ dX8_numbersOf_67 rfl (lv_at hl 1 rfl) ?_
            refine va_get (D := D) (ci := 8) (v := .ref (q 17)) (C := RX8) (T := TX8) (N := 32) hx_ hb_ hts_ inM_X8 hown_ hK.1 hP 1 rfl rfl 17 (by decide) (hts_ _ (List.mem_cons_of_mem _ wa_f_X8_42)) (fun _ h9 => h9) rfl dX8_numbersOf_68 ?_
            refine lv_iconst (v := 0) hx_ hb_ dX8_numbersOf_71 (by decide) ?_
            refine lv_aload_n hx_ hb_ dX8_numbersOf_72 rfl (lv_at hl 1 rfl) ?_
            refine lv_iload_n hx_ hb_ dX8_numbersOf_73 rfl (lv_at hl 0 rfl) ?_
            refine lv_bipush (v := 32) hx_ hb_ dX8_numbersOf_74 (by decide) ?_
            refine lv_idiv hx_ hb_ dX8_numbersOf_76 (by decide) ?_
            refine ct_Vi (wr := [(q 17, .inl (k 0, 4, .inl f4)), (q 5, .inl (k 0, 96, .inl lt))]) (rest := [.int 0, .ref (q 17)]) (As := [.int ((lo_from lt c 3 0) / 32)]) ⟨hx_, hb_, hml_, hown_, hts_⟩ (k_X8_shift l D k q v ms rs bh tz fa mz wn tk ((lo_from lt c 3 0) / 32) ) (cwV 1 hts_ (gd_in (gw_V wa_m_X8_129 wa_y_X8_shift wa_s_X8_shift wa_i_X8 wa_k_X8_shift)) rfl rfl rfl (by decide +kernel) ⟨Nat.le_of_ble_eq_true rfl, Nat.le_of_ble_eq_true rfl⟩) hK hP hD hS hA [1] [0, 2] rfl rfl rfl rfl (by decide) 8 rfl rfl rfl hl.1 rfl rfl (Nat.le_of_ble_eq_true rfl) dX8_numbersOf_77 ⟨Nat.le_of_ble_eq_true rfl, Nat.le_of_ble_eq_true rfl⟩ (fun rr11 w1 H locs ww12 hP hD hS => ?_)
            obtain ⟨rfl, rfl⟩ := ww12
            have hP : va_P D vwCl [(q 17, .inl (k 0, 4, .inl f4)), (q 5, .inl (k 0, 96, .inl lt)), (q 0, .inr (8, [.int v, .ref (q 1), .int (nI ms), .ref (q 3), .int (nI rs), .ref (q 5), .ref (q 6), .int bh, .ref (q 8), .ref (q 9), .ref (q 10), .ref (q 11), .ref (q 12), .int (nI tz), .int fa, .ref (q 15), .int (nI mz), .ref (q 17), .ref (q 18), .ref (q 19), .ref (q 20), .ref (q 21), .ref (q 22), .ref (q 23), .ref (q 24), .int (nI wn), .ref (q 26), .ref (q 27), .int (nI tk), .ref (q 29), .ref (q 30), .ref (q 31)]))] H := hP
            have hD : va_D A_0 [(q 17, .inl (k 0, 4, .inl f4)), (q 5, .inl (k 0, 96, .inl lt)), (q 0, .inr (8, [.int v, .ref (q 1), .int (nI ms), .ref (q 3), .int (nI rs), .ref (q 5), .ref (q 6), .int bh, .ref (q 8), .ref (q 9), .ref (q 10), .ref (q 11), .ref (q 12), .int (nI tz), .int fa, .ref (q 15), .int (nI mz), .ref (q 17), .ref (q 18), .ref (q 19), .ref (q 20), .ref (q 21), .ref (q 22), .ref (q 23), .ref (q 24), .int (nI wn), .ref (q 26), .ref (q 27), .int (nI tk), .ref (q 29), .ref (q 30), .ref (q 31)]))] := hD
            refine W.cs (cells' := 0) (slots' := 0) rfl rfl ?_
            refine va_iast hx_ hb_ hK.1 hP hD hS 0 0 rfl rfl (vp_in_nI (by decide) (by decide)) dX8_numbersOf_80 (fun H locs hP hD hS => ?_)
            rw [show Int32.toNatClampNeg 0 = 0 from nI_clamp (by decide)] at hP hD
            have hP : va_P D vwCl [(q 17, .inl (k 0, 4, .inl (upd f4 0 (mh_sh v ((lo_from lt c 3 0) / 32))))), (q 5, .inl (k 0, 96, .inl lt)), (q 0, .inr (8, [.int v, .ref (q 1), .int (nI ms), .ref (q 3), .int (nI rs), .ref (q 5), .ref (q 6), .int bh, .ref (q 8), .ref (q 9), .ref (q 10), .ref (q 11), .ref (q 12), .int (nI tz), .int fa, .ref (q 15), .int (nI mz), .ref (q 17), .ref (q 18), .ref (q 19), .ref (q 20), .ref (q 21), .ref (q 22), .ref (q 23), .ref (q 24), .int (nI wn), .ref (q 26), .ref (q 27), .int (nI tk), .ref (q 29), .ref (q 30), .ref (q 31)]))] H := hP
            have hD : va_D A_0 [(q 17, .inl (k 0, 4, .inl (upd f4 0 (mh_sh v ((lo_from lt c 3 0) / 32))))), (q 5, .inl (k 0, 96, .inl lt)), (q 0, .inr (8, [.int v, .ref (q 1), .int (nI ms), .ref (q 3), .int (nI rs), .ref (q 5), .ref (q 6), .int bh, .ref (q 8), .ref (q 9), .ref (q 10), .ref (q 11), .ref (q 12), .int (nI tz), .int fa, .ref (q 15), .int (nI mz), .ref (q 17), .ref (q 18), .ref (q 19), .ref (q 20), .ref (q 21), .ref (q 22), .ref (q 23), .ref (q 24), .int (nI wn), .ref (q 26), .ref (q 27), .int (nI tk), .ref (q 29), .ref (q 30), .ref (q 31)]))] := hD
            refine lv_aload_n hx_ hb_ dX8_numbersOf_81 rfl (lv_at hl 1 rfl) ?_
            refine va_get (D := D) (ci := 8) (v := .ref (q 17)) (C := RX8) (T := TX8) (N := 32) hx_ hb_ hts_ inM_X8 hown_ hK.1 hP 2 rfl rfl 17 (by decide) (hts_ _ (List.mem_cons_of_mem _ wa_f_X8_42)) (fun _ h9 => h9) rfl dX8_numbersOf_82 ?_
            refine lv_iconst (v := 1) hx_ hb_ dX8_numbersOf_85 (by decide) ?_
            refine lv_iload_n hx_ hb_ dX8_numbersOf_86 rfl (lv_at hl 0 rfl) ?_
            refine lv_bipush (v := 32) hx_ hb_ dX8_numbersOf_87 (by decide) ?_
            refine lv_irem hx_ hb_ dX8_numbersOf_89 (by decide) ?_
            refine va_iast hx_ hb_ hK.1 hP hD hS 0 0 rfl rfl (vp_in_nI (by decide) (by decide)) dX8_numbersOf_90 (fun H locs hP hD hS => ?_)
            rw [show Int32.toNatClampNeg 1 = 1 from nI_clamp (by decide)] at hP hD
            have hP : va_P D vwCl [(q 17, .inl (k 0, 4, .inl (upd (upd f4 0 (mh_sh v ((lo_from lt c 3 0) / 32))) 1 ((lo_from lt c 3 0) - (lo_from lt c 3 0) / 32 * 32)))), (q 5, .inl (k 0, 96, .inl lt)), (q 0, .inr (8, [.int v, .ref (q 1), .int (nI ms), .ref (q 3), .int (nI rs), .ref (q 5), .ref (q 6), .int bh, .ref (q 8), .ref (q 9), .ref (q 10), .ref (q 11), .ref (q 12), .int (nI tz), .int fa, .ref (q 15), .int (nI mz), .ref (q 17), .ref (q 18), .ref (q 19), .ref (q 20), .ref (q 21), .ref (q 22), .ref (q 23), .ref (q 24), .int (nI wn), .ref (q 26), .ref (q 27), .int (nI tk), .ref (q 29), .ref (q 30), .ref (q 31)]))] H := hP
            have hD : va_D A_0 [(q 17, .inl (k 0, 4, .inl (upd (upd f4 0 (mh_sh v ((lo_from lt c 3 0) / 32))) 1 ((lo_from lt c 3 0) - (lo_from lt c 3 0) / 32 * 32)))), (q 5, .inl (k 0, 96, .inl lt)), (q 0, .inr (8, [.int v, .ref (q 1), .int (nI ms), .ref (q 3), .int (nI rs), .ref (q 5), .ref (q 6), .int bh, .ref (q 8), .ref (q 9), .ref (q 10), .ref (q 11), .ref (q 12), .int (nI tz), .int fa, .ref (q 15), .int (nI mz), .ref (q 17), .ref (q 18), .ref (q 19), .ref (q 20), .ref (q 21), .ref (q 22), .ref (q 23), .ref (q 24), .int (nI wn), .ref (q 26), .ref (q 27), .int (nI tk), .ref (q 29), .ref (q 30), .ref (q 31)]))] := hD
            refine lv_iconst (v := 2) hx_ hb_ dX8_numbersOf_91 (by decide) ?_
            have eq1 : (upd (upd f4 0 (mh_sh v ((lo_from lt c 3 0) / 32))) 1 ((lo_from lt c 3 0) - (lo_from lt c 3 0) / 32 * 32) : Nat → Int32) = (no v lt c f4).2 := by simp [no, eq_false cc1, eq_false cc2, eq_false cc5, eq_true cc9, eq_false cc10] <;> rfl
            have eqr : (2 : Int32) = nI ((no v lt c f4).1) := by simp [no, eq_false cc1, eq_false cc2, eq_false cc5, eq_true cc9, eq_false cc10] <;> rfl
            exact ct_iret C_0 (hP.sub [2, 1, 0] rfl) (hD.sub [2, 1, 0] (by decide) rfl) hS (Nat.le_of_ble_eq_true rfl) (Nat.le_of_ble_eq_true rfl) dX8_numbersOf_92 (⟨eqr, congrArg (fun (z1 : Nat → Int32) => ([(q 0, .inr (8, [.int v, .ref (q 1), .int (nI ms), .ref (q 3), .int (nI rs), .ref (q 5), .ref (q 6), .int bh, .ref (q 8), .ref (q 9), .ref (q 10), .ref (q 11), .ref (q 12), .int (nI tz), .int fa, .ref (q 15), .int (nI mz), .ref (q 17), .ref (q 18), .ref (q 19), .ref (q 20), .ref (q 21), .ref (q 22), .ref (q 23), .ref (q 24), .int (nI wn), .ref (q 26), .ref (q 27), .int (nI tk), .ref (q 29), .ref (q 30), .ref (q 31)])), (q 5, .inl (k 0, 96, .inl lt)), (q 17, .inl (k 0, 4, .inl z1))] : va_W)) eq1⟩)
        · skip
          refine lv_aload_n hx_ hb_ dX8_numbersOf_54 rfl (lv_at hl 1 rfl) ?_
          refine va_get (D := D) (ci := 8) (v := .ref (q 17)) (C := RX8) (T := TX8) (N := 32) hx_ hb_ hts_ inM_X8 hown_ hK.1 hP 1 rfl rfl 17 (by decide) (hts_ _ (List.mem_cons_of_mem _ wa_f_X8_42)) (fun _ h9 => h9) rfl dX8_numbersOf_55 ?_
          refine lv_iconst (v := 0) hx_ hb_ dX8_numbersOf_58 (by decide) ?_
          refine lv_iload_n hx_ hb_ dX8_numbersOf_59 rfl (lv_at hl 0 rfl) ?_
          refine va_iast hx_ hb_ hK.1 hP hD hS 0 0 rfl rfl (vp_in_nI (by decide) (by decide)) dX8_numbersOf_60 (fun H locs hP hD hS => ?_)
          rw [show Int32.toNatClampNeg 0 = 0 from nI_clamp (by decide)] at hP hD
          have hP : va_P D vwCl [(q 17, .inl (k 0, 4, .inl (upd f4 0 (lo_from lt c 3 0)))), (q 0, .inr (8, [.int v, .ref (q 1), .int (nI ms), .ref (q 3), .int (nI rs), .ref (q 5), .ref (q 6), .int bh, .ref (q 8), .ref (q 9), .ref (q 10), .ref (q 11), .ref (q 12), .int (nI tz), .int fa, .ref (q 15), .int (nI mz), .ref (q 17), .ref (q 18), .ref (q 19), .ref (q 20), .ref (q 21), .ref (q 22), .ref (q 23), .ref (q 24), .int (nI wn), .ref (q 26), .ref (q 27), .int (nI tk), .ref (q 29), .ref (q 30), .ref (q 31)])), (q 5, .inl (k 0, 96, .inl lt))] H := hP
          have hD : va_D A_0 [(q 17, .inl (k 0, 4, .inl (upd f4 0 (lo_from lt c 3 0)))), (q 0, .inr (8, [.int v, .ref (q 1), .int (nI ms), .ref (q 3), .int (nI rs), .ref (q 5), .ref (q 6), .int bh, .ref (q 8), .ref (q 9), .ref (q 10), .ref (q 11), .ref (q 12), .int (nI tz), .int fa, .ref (q 15), .int (nI mz), .ref (q 17), .ref (q 18), .ref (q 19), .ref (q 20), .ref (q 21), .ref (q 22), .ref (q 23), .ref (q 24), .int (nI wn), .ref (q 26), .ref (q 27), .int (nI tk), .ref (q 29), .ref (q 30), .ref (q 31)])), (q 5, .inl (k 0, 96, .inl lt))] := hD
          refine lv_iconst (v := 1) hx_ hb_ dX8_numbersOf_61 (by decide) ?_
          have eq1 : (upd f4 0 (lo_from lt c 3 0) : Nat → Int32) = (no v lt c f4).2 := by simp [no, eq_false cc1, eq_false cc2, eq_false cc5, eq_false cc9] <;> rfl
          have eqr : (1 : Int32) = nI ((no v lt c f4).1) := by simp [no, eq_false cc1, eq_false cc2, eq_false cc5, eq_false cc9] <;> rfl
          exact ct_iret C_0 (hP.sub [1, 2, 0] rfl) (hD.sub [1, 2, 0] (by decide) rfl) hS (Nat.le_of_ble_eq_true rfl) (Nat.le_of_ble_eq_true rfl) dX8_numbersOf_62 (⟨eqr, congrArg (fun (z1 : Nat → Int32) => ([(q 0, .inr (8, [.int v, .ref (q 1), .int (nI ms), .ref (q 3), .int (nI rs), .ref (q 5), .ref (q 6), .int bh, .ref (q 8), .ref (q 9), .ref (q 10), .ref (q 11), .ref (q 12), .int (nI tz), .int fa, .ref (q 15), .int (nI mz), .ref (q 17), .ref (q 18), .ref (q 19), .ref (q 20), .ref (q 21), .ref (q 22), .ref (q 23), .ref (q 24), .int (nI wn), .ref (q 26), .ref (q 27), .int (nI tk), .ref (q 29), .ref (q 30), .ref (q 31)])), (q 5, .inl (k 0, 96, .inl lt)), (q 17, .inl (k 0, 4, .inl z1))] : va_W)) eq1⟩)
    · skip
      refine lv_aload_n hx_ hb_ dX8_numbersOf_21 rfl (lv_at hl 0 rfl) ?_
      refine va_get (D := D) (ci := 8) (v := .int v) (C := RX8) (T := TX8) (N := 32) hx_ hb_ hts_ inM_X8 hown_ hK.1 hP 0 rfl rfl 0 (by decide) (hts_ _ (List.mem_cons_of_mem _ wa_f_X8_83)) (fun _ h9 => h9) rfl dX8_numbersOf_22 ?_
      refine lv_iconst (v := 1) hx_ hb_ dX8_numbersOf_25 (by decide) ?_
      refine lv_icmp_ne (tgt := 38) hx_ hb_ dX8_numbersOf_26 (by decide) (fun cc13 => ?_) (fun cc13 => ?_)
      · skip
        refine lv_aload_n hx_ hb_ dX8_numbersOf_38 rfl (lv_at hl 0 rfl) ?_
        refine lv_iload_n hx_ hb_ dX8_numbersOf_39 rfl (lv_at hl 1 rfl) ?_
        refine ct_Vi (wr := [(q 17, .inl (k 0, 4, .inl f4))]) (rest := []) (As := [.int c]) ⟨hx_, hb_, hml_, hown_, hts_⟩ (k_X8_letterOf l D k q v ms rs bh tz fa mz wn tk lt c ) (cwV 1 hts_ (gd_in (gw_V wa_m_X8_126 wa_y_X8_letterOf wa_s_X8_letterOf wa_i_X8 wa_k_X8_letterOf)) rfl rfl rfl (by decide +kernel) ⟨Nat.le_of_ble_eq_true rfl, Nat.le_of_ble_eq_true rfl⟩) hK hP hD hS hA [0, 1] [2] rfl rfl rfl rfl (by decide) 8 rfl rfl rfl hl.1 rfl rfl (Nat.le_of_ble_eq_true rfl) dX8_numbersOf_40 ⟨Nat.le_of_ble_eq_true rfl, Nat.le_of_ble_eq_true rfl⟩ (fun rr14 w1 H locs ww15 hP hD hS => ?_)
        obtain ⟨rfl, rfl⟩ := ww15
        have hP : va_P D vwCl [(q 17, .inl (k 0, 4, .inl f4)), (q 0, .inr (8, [.int v, .ref (q 1), .int (nI ms), .ref (q 3), .int (nI rs), .ref (q 5), .ref (q 6), .int bh, .ref (q 8), .ref (q 9), .ref (q 10), .ref (q 11), .ref (q 12), .int (nI tz), .int fa, .ref (q 15), .int (nI mz), .ref (q 17), .ref (q 18), .ref (q 19), .ref (q 20), .ref (q 21), .ref (q 22), .ref (q 23), .ref (q 24), .int (nI wn), .ref (q 26), .ref (q 27), .int (nI tk), .ref (q 29), .ref (q 30), .ref (q 31)])), (q 5, .inl (k 0, 96, .inl lt))] H := hP
        have hD : va_D A_0 [(q 17, .inl (k 0, 4, .inl f4)), (q 0, .inr (8, [.int v, .ref (q 1), .int (nI ms), .ref (q 3), .int (nI rs), .ref (q 5), .ref (q 6), .int bh, .ref (q 8), .ref (q 9), .ref (q 10), .ref (q 11), .ref (q 12), .int (nI tz), .int fa, .ref (q 15), .int (nI mz), .ref (q 17), .ref (q 18), .ref (q 19), .ref (q 20), .ref (q 21), .ref (q 22), .ref (q 23), .ref (q 24), .int (nI wn), .ref (q 26), .ref (q 27), .int (nI tk), .ref (q 29), .ref (q 30), .ref (q 31)])), (q 5, .inl (k 0, 96, .inl lt))] := hD
        refine W.cs (cells' := 0) (slots' := 0) rfl rfl ?_
        refine lv_istore_n (lv' := [(2, .int (lo_from lt c 3 0)), (0, .ref (q 0)), (1, .int c)]) hx_ hb_ dX8_numbersOf_43 rfl hl (by decide) rfl (fun ls hl => ?_)
        refine lv_iload_n hx_ hb_ dX8_numbersOf_44 rfl (lv_at hl 0 rfl) ?_
        refine lv_if_lt (tgt := 63) hx_ hb_ dX8_numbersOf_45 (by decide) (fun cc16 => ?_) (fun cc16 => ?_)
        · skip
          refine lv_iload_n hx_ hb_ dX8_numbersOf_63 rfl (lv_at hl 0 rfl) ?_
          refine lv_if_lt (tgt := 93) hx_ hb_ dX8_numbersOf_64 (by decide) (fun cc17 => ?_) (fun cc17 => ?_)
          · skip
            refine lv_aload_n hx_ hb_ dX8_numbersOf_93 rfl (lv_at hl 1 rfl) ?_
            refine va_get (D := D) (ci := 8) (v := .ref (q 17)) (C := RX8) (T := TX8) (N := 32) hx_ hb_ hts_ inM_X8 hown_ hK.1 hP 1 rfl rfl 17 (by decide) (hts_ _ (List.mem_cons_of_mem _ wa_f_X8_42)) (fun _ h9 => h9) rfl dX8_numbersOf_94 ?_
            refine lv_iconst (v := 0) hx_ hb_ dX8_numbersOf_97 (by decide) ?_
            refine lv_aload_n hx_ hb_ dX8_numbersOf_98 rfl (lv_at hl 1 rfl) ?_
            refine lv_iconst (v := 2) hx_ hb_ dX8_numbersOf_99 (by decide) ?_
            refine ct_Vi (wr := [(q 17, .inl (k 0, 4, .inl f4)), (q 5, .inl (k 0, 96, .inl lt))]) (rest := [.int 0, .ref (q 17)]) (As := [.int 2]) ⟨hx_, hb_, hml_, hown_, hts_⟩ (k_X8_shift l D k q v ms rs bh tz fa mz wn tk 2 ) (cwV 1 hts_ (gd_in (gw_V wa_m_X8_129 wa_y_X8_shift wa_s_X8_shift wa_i_X8 wa_k_X8_shift)) rfl rfl rfl (by decide +kernel) ⟨Nat.le_of_ble_eq_true rfl, Nat.le_of_ble_eq_true rfl⟩) hK hP hD hS hA [1] [0, 2] rfl rfl rfl rfl (by decide) 8 rfl rfl rfl hl.1 rfl rfl (Nat.le_of_ble_eq_true rfl) dX8_numbersOf_100 ⟨Nat.le_of_ble_eq_true rfl, Nat.le_of_ble_eq_true rfl⟩ (fun rr18 w1 H locs ww19 hP hD hS => ?_)
            obtain ⟨rfl, rfl⟩ := ww19
            have hP : va_P D vwCl [(q 17, .inl (k 0, 4, .inl f4)), (q 5, .inl (k 0, 96, .inl lt)), (q 0, .inr (8, [.int v, .ref (q 1), .int (nI ms), .ref (q 3), .int (nI rs), .ref (q 5), .ref (q 6), .int bh, .ref (q 8), .ref (q 9), .ref (q 10), .ref (q 11), .ref (q 12), .int (nI tz), .int fa, .ref (q 15), .int (nI mz), .ref (q 17), .ref (q 18), .ref (q 19), .ref (q 20), .ref (q 21), .ref (q 22), .ref (q 23), .ref (q 24), .int (nI wn), .ref (q 26), .ref (q 27), .int (nI tk), .ref (q 29), .ref (q 30), .ref (q 31)]))] H := hP
            have hD : va_D A_0 [(q 17, .inl (k 0, 4, .inl f4)), (q 5, .inl (k 0, 96, .inl lt)), (q 0, .inr (8, [.int v, .ref (q 1), .int (nI ms), .ref (q 3), .int (nI rs), .ref (q 5), .ref (q 6), .int bh, .ref (q 8), .ref (q 9), .ref (q 10), .ref (q 11), .ref (q 12), .int (nI tz), .int fa, .ref (q 15), .int (nI mz), .ref (q 17), .ref (q 18), .ref (q 19), .ref (q 20), .ref (q 21), .ref (q 22), .ref (q 23), .ref (q 24), .int (nI wn), .ref (q 26), .ref (q 27), .int (nI tk), .ref (q 29), .ref (q 30), .ref (q 31)]))] := hD
            refine W.cs (cells' := 0) (slots' := 0) rfl rfl ?_
            refine va_iast hx_ hb_ hK.1 hP hD hS 0 0 rfl rfl (vp_in_nI (by decide) (by decide)) dX8_numbersOf_103 (fun H locs hP hD hS => ?_)
            rw [show Int32.toNatClampNeg 0 = 0 from nI_clamp (by decide)] at hP hD
            have hP : va_P D vwCl [(q 17, .inl (k 0, 4, .inl (upd f4 0 (mh_sh v 2)))), (q 5, .inl (k 0, 96, .inl lt)), (q 0, .inr (8, [.int v, .ref (q 1), .int (nI ms), .ref (q 3), .int (nI rs), .ref (q 5), .ref (q 6), .int bh, .ref (q 8), .ref (q 9), .ref (q 10), .ref (q 11), .ref (q 12), .int (nI tz), .int fa, .ref (q 15), .int (nI mz), .ref (q 17), .ref (q 18), .ref (q 19), .ref (q 20), .ref (q 21), .ref (q 22), .ref (q 23), .ref (q 24), .int (nI wn), .ref (q 26), .ref (q 27), .int (nI tk), .ref (q 29), .ref (q 30), .ref (q 31)]))] H := hP
            have hD : va_D A_0 [(q 17, .inl (k 0, 4, .inl (upd f4 0 (mh_sh v 2)))), (q 5, .inl (k 0, 96, .inl lt)), (q 0, .inr (8, [.int v, .ref (q 1), .int (nI ms), .ref (q 3), .int (nI rs), .ref (q 5), .ref (q 6), .int bh, .ref (q 8), .ref (q 9), .ref (q 10), .ref (q 11), .ref (q 12), .int (nI tz), .int fa, .ref (q 15), .int (nI mz), .ref (q 17), .ref (q 18), .ref (q 19), .ref (q 20), .ref (q 21), .ref (q 22), .ref (q 23), .ref (q 24), .int (nI wn), .ref (q 26), .ref (q 27), .int (nI tk), .ref (q 29), .ref (q 30), .ref (q 31)]))] := hD
            refine lv_aload_n hx_ hb_ dX8_numbersOf_104 rfl (lv_at hl 1 rfl) ?_
            refine va_get (D := D) (ci := 8) (v := .ref (q 17)) (C := RX8) (T := TX8) (N := 32) hx_ hb_ hts_ inM_X8 hown_ hK.1 hP 2 rfl rfl 17 (by decide) (hts_ _ (List.mem_cons_of_mem _ wa_f_X8_42)) (fun _ h9 => h9) rfl dX8_numbersOf_105 ?_
            refine lv_iconst (v := 1) hx_ hb_ dX8_numbersOf_108 (by decide) ?_
            refine lv_bipush (v := 6) hx_ hb_ dX8_numbersOf_109 (by decide) ?_
            refine va_iast hx_ hb_ hK.1 hP hD hS 0 0 rfl rfl (vp_in_nI (by decide) (by decide)) dX8_numbersOf_111 (fun H locs hP hD hS => ?_)
            rw [show Int32.toNatClampNeg 1 = 1 from nI_clamp (by decide)] at hP hD
            have hP : va_P D vwCl [(q 17, .inl (k 0, 4, .inl (upd (upd f4 0 (mh_sh v 2)) 1 6))), (q 5, .inl (k 0, 96, .inl lt)), (q 0, .inr (8, [.int v, .ref (q 1), .int (nI ms), .ref (q 3), .int (nI rs), .ref (q 5), .ref (q 6), .int bh, .ref (q 8), .ref (q 9), .ref (q 10), .ref (q 11), .ref (q 12), .int (nI tz), .int fa, .ref (q 15), .int (nI mz), .ref (q 17), .ref (q 18), .ref (q 19), .ref (q 20), .ref (q 21), .ref (q 22), .ref (q 23), .ref (q 24), .int (nI wn), .ref (q 26), .ref (q 27), .int (nI tk), .ref (q 29), .ref (q 30), .ref (q 31)]))] H := hP
            have hD : va_D A_0 [(q 17, .inl (k 0, 4, .inl (upd (upd f4 0 (mh_sh v 2)) 1 6))), (q 5, .inl (k 0, 96, .inl lt)), (q 0, .inr (8, [.int v, .ref (q 1), .int (nI ms), .ref (q 3), .int (nI rs), .ref (q 5), .ref (q 6), .int bh, .ref (q 8), .ref (q 9), .ref (q 10), .ref (q 11), .ref (q 12), .int (nI tz), .int fa, .ref (q 15), .int (nI mz), .ref (q 17), .ref (q 18), .ref (q 19), .ref (q 20), .ref (q 21), .ref (q 22), .ref (q 23), .ref (q 24), .int (nI wn), .ref (q 26), .ref (q 27), .int (nI tk), .ref (q 29), .ref (q 30), .ref (q 31)]))] := hD
            refine lv_aload_n hx_ hb_ dX8_numbersOf_112 rfl (lv_at hl 1 rfl) ?_
            refine va_get (D := D) (ci := 8) (v := .ref (q 17)) (C := RX8) (T := TX8) (N := 32) hx_ hb_ hts_ inM_X8 hown_ hK.1 hP 2 rfl rfl 17 (by decide) (hts_ _ (List.mem_cons_of_mem _ wa_f_X8_42)) (fun _ h9 => h9) rfl dX8_numbersOf_113 ?_
            refine lv_iconst (v := 2) hx_ hb_ dX8_numbersOf_116 (by decide) ?_
            refine lv_iload_n hx_ hb_ dX8_numbersOf_117 rfl (lv_at hl 2 rfl) ?_
            refine lv_bipush (v := 32) hx_ hb_ dX8_numbersOf_118 (by decide) ?_
            refine lv_idiv hx_ hb_ dX8_numbersOf_120 (by decide) ?_
            refine va_iast hx_ hb_ hK.1 hP hD hS 0 0 rfl rfl (vp_in_nI (by decide) (by decide)) dX8_numbersOf_121 (fun H locs hP hD hS => ?_)
            rw [show Int32.toNatClampNeg 2 = 2 from nI_clamp (by decide)] at hP hD
            have hP : va_P D vwCl [(q 17, .inl (k 0, 4, .inl (upd (upd (upd f4 0 (mh_sh v 2)) 1 6) 2 (c / 32)))), (q 5, .inl (k 0, 96, .inl lt)), (q 0, .inr (8, [.int v, .ref (q 1), .int (nI ms), .ref (q 3), .int (nI rs), .ref (q 5), .ref (q 6), .int bh, .ref (q 8), .ref (q 9), .ref (q 10), .ref (q 11), .ref (q 12), .int (nI tz), .int fa, .ref (q 15), .int (nI mz), .ref (q 17), .ref (q 18), .ref (q 19), .ref (q 20), .ref (q 21), .ref (q 22), .ref (q 23), .ref (q 24), .int (nI wn), .ref (q 26), .ref (q 27), .int (nI tk), .ref (q 29), .ref (q 30), .ref (q 31)]))] H := hP
            have hD : va_D A_0 [(q 17, .inl (k 0, 4, .inl (upd (upd (upd f4 0 (mh_sh v 2)) 1 6) 2 (c / 32)))), (q 5, .inl (k 0, 96, .inl lt)), (q 0, .inr (8, [.int v, .ref (q 1), .int (nI ms), .ref (q 3), .int (nI rs), .ref (q 5), .ref (q 6), .int bh, .ref (q 8), .ref (q 9), .ref (q 10), .ref (q 11), .ref (q 12), .int (nI tz), .int fa, .ref (q 15), .int (nI mz), .ref (q 17), .ref (q 18), .ref (q 19), .ref (q 20), .ref (q 21), .ref (q 22), .ref (q 23), .ref (q 24), .int (nI wn), .ref (q 26), .ref (q 27), .int (nI tk), .ref (q 29), .ref (q 30), .ref (q 31)]))] := hD
            refine lv_aload_n hx_ hb_ dX8_numbersOf_122 rfl (lv_at hl 1 rfl) ?_
            refine va_get (D := D) (ci := 8) (v := .ref (q 17)) (C := RX8) (T := TX8) (N := 32) hx_ hb_ hts_ inM_X8 hown_ hK.1 hP 2 rfl rfl 17 (by decide) (hts_ _ (List.mem_cons_of_mem _ wa_f_X8_42)) (fun _ h9 => h9) rfl dX8_numbersOf_123 ?_
            refine lv_iconst (v := 3) hx_ hb_ dX8_numbersOf_126 (by decide) ?_
            refine lv_iload_n hx_ hb_ dX8_numbersOf_127 rfl (lv_at hl 2 rfl) ?_
            refine lv_bipush (v := 32) hx_ hb_ dX8_numbersOf_128 (by decide) ?_
            refine lv_irem hx_ hb_ dX8_numbersOf_130 (by decide) ?_
            refine va_iast hx_ hb_ hK.1 hP hD hS 0 0 rfl rfl (vp_in_nI (by decide) (by decide)) dX8_numbersOf_131 (fun H locs hP hD hS => ?_)
            rw [show Int32.toNatClampNeg 3 = 3 from nI_clamp (by decide)] at hP hD
            have hP : va_P D vwCl [(q 17, .inl (k 0, 4, .inl (upd (upd (upd (upd f4 0 (mh_sh v 2)) 1 6) 2 (c / 32)) 3 (c - c / 32 * 32)))), (q 5, .inl (k 0, 96, .inl lt)), (q 0, .inr (8, [.int v, .ref (q 1), .int (nI ms), .ref (q 3), .int (nI rs), .ref (q 5), .ref (q 6), .int bh, .ref (q 8), .ref (q 9), .ref (q 10), .ref (q 11), .ref (q 12), .int (nI tz), .int fa, .ref (q 15), .int (nI mz), .ref (q 17), .ref (q 18), .ref (q 19), .ref (q 20), .ref (q 21), .ref (q 22), .ref (q 23), .ref (q 24), .int (nI wn), .ref (q 26), .ref (q 27), .int (nI tk), .ref (q 29), .ref (q 30), .ref (q 31)]))] H := hP
            have hD : va_D A_0 [(q 17, .inl (k 0, 4, .inl (upd (upd (upd (upd f4 0 (mh_sh v 2)) 1 6) 2 (c / 32)) 3 (c - c / 32 * 32)))), (q 5, .inl (k 0, 96, .inl lt)), (q 0, .inr (8, [.int v, .ref (q 1), .int (nI ms), .ref (q 3), .int (nI rs), .ref (q 5), .ref (q 6), .int bh, .ref (q 8), .ref (q 9), .ref (q 10), .ref (q 11), .ref (q 12), .int (nI tz), .int fa, .ref (q 15), .int (nI mz), .ref (q 17), .ref (q 18), .ref (q 19), .ref (q 20), .ref (q 21), .ref (q 22), .ref (q 23), .ref (q 24), .int (nI wn), .ref (q 26), .ref (q 27), .int (nI tk), .ref (q 29), .ref (q 30), .ref (q 31)]))] := hD
            refine lv_iconst (v := 4) hx_ hb_ dX8_numbersOf_132 (by decide) ?_
            have eq1 : (upd (upd (upd (upd f4 0 (mh_sh v 2)) 1 6) 2 (c / 32)) 3 (c - c / 32 * 32) : Nat → Int32) = (no v lt c f4).2 := by simp [no, eq_false cc1, eq_true cc2, eq_false cc13, eq_true cc16, eq_true cc17] <;> rfl
            have eqr : (4 : Int32) = nI ((no v lt c f4).1) := by simp [no, eq_false cc1, eq_true cc2, eq_false cc13, eq_true cc16, eq_true cc17] <;> rfl
            exact ct_iret C_0 (hP.sub [2, 1, 0] rfl) (hD.sub [2, 1, 0] (by decide) rfl) hS (Nat.le_of_ble_eq_true rfl) (Nat.le_of_ble_eq_true rfl) dX8_numbersOf_133 (⟨eqr, congrArg (fun (z1 : Nat → Int32) => ([(q 0, .inr (8, [.int v, .ref (q 1), .int (nI ms), .ref (q 3), .int (nI rs), .ref (q 5), .ref (q 6), .int bh, .ref (q 8), .ref (q 9), .ref (q 10), .ref (q 11), .ref (q 12), .int (nI tz), .int fa, .ref (q 15), .int (nI mz), .ref (q 17), .ref (q 18), .ref (q 19), .ref (q 20), .ref (q 21), .ref (q 22), .ref (q 23), .ref (q 24), .int (nI wn), .ref (q 26), .ref (q 27), .int (nI tk), .ref (q 29), .ref (q 30), .ref (q 31)])), (q 5, .inl (k 0, 96, .inl lt)), (q 17, .inl (k 0, 4, .inl z1))] : va_W)) eq1⟩)
          · exact absurd cc16 cc17
        · skip
          refine lv_iload_n hx_ hb_ dX8_numbersOf_48 rfl (lv_at hl 0 rfl) ?_
          refine lv_bipush (v := 32) hx_ hb_ dX8_numbersOf_49 (by decide) ?_
          refine lv_icmp_ge (tgt := 63) hx_ hb_ dX8_numbersOf_51 (by decide) (fun cc20 => ?_) (fun cc20 => ?_)
          · skip
            refine lv_iload_n hx_ hb_ dX8_numbersOf_63 rfl (lv_at hl 0 rfl) ?_
            refine lv_if_lt (tgt := 93) hx_ hb_ dX8_numbersOf_64 (by decide) (fun cc21 => ?_) (fun cc21 => ?_)
            · exact absurd cc21 cc16
            · skip
              refine lv_aload_n hx_ hb_ dX8_numbersOf_67 rfl (lv_at hl 1 rfl) ?_
              refine va_get (D := D) (ci := 8) (v := .ref (q 17)) (C := RX8) (T := TX8) (N := 32) hx_ hb_ hts_ inM_X8 hown_ hK.1 hP 1 rfl rfl 17 (by decide) (hts_ _ (List.mem_cons_of_mem _ wa_f_X8_42)) (fun _ h9 => h9) rfl dX8_numbersOf_68 ?_
              refine lv_iconst (v := 0) hx_ hb_ dX8_numbersOf_71 (by decide) ?_
              refine lv_aload_n hx_ hb_ dX8_numbersOf_72 rfl (lv_at hl 1 rfl) ?_
              refine lv_iload_n hx_ hb_ dX8_numbersOf_73 rfl (lv_at hl 0 rfl) ?_
              refine lv_bipush (v := 32) hx_ hb_ dX8_numbersOf_74 (by decide) ?_
              refine lv_idiv hx_ hb_ dX8_numbersOf_76 (by decide) ?_
              refine ct_Vi (wr := [(q 17, .inl (k 0, 4, .inl f4)), (q 5, .inl (k 0, 96, .inl lt))]) (rest := [.int 0, .ref (q 17)]) (As := [.int ((lo_from lt c 3 0) / 32)]) ⟨hx_, hb_, hml_, hown_, hts_⟩ (k_X8_shift l D k q v ms rs bh tz fa mz wn tk ((lo_from lt c 3 0) / 32) ) (cwV 1 hts_ (gd_in (gw_V wa_m_X8_129 wa_y_X8_shift wa_s_X8_shift wa_i_X8 wa_k_X8_shift)) rfl rfl rfl (by decide +kernel) ⟨Nat.le_of_ble_eq_true rfl, Nat.le_of_ble_eq_true rfl⟩) hK hP hD hS hA [1] [0, 2] rfl rfl rfl rfl (by decide) 8 rfl rfl rfl hl.1 rfl rfl (Nat.le_of_ble_eq_true rfl) dX8_numbersOf_77 ⟨Nat.le_of_ble_eq_true rfl, Nat.le_of_ble_eq_true rfl⟩ (fun rr22 w1 H locs ww23 hP hD hS => ?_)
              obtain ⟨rfl, rfl⟩ := ww23
              have hP : va_P D vwCl [(q 17, .inl (k 0, 4, .inl f4)), (q 5, .inl (k 0, 96, .inl lt)), (q 0, .inr (8, [.int v, .ref (q 1), .int (nI ms), .ref (q 3), .int (nI rs), .ref (q 5), .ref (q 6), .int bh, .ref (q 8), .ref (q 9), .ref (q 10), .ref (q 11), .ref (q 12), .int (nI tz), .int fa, .ref (q 15), .int (nI mz), .ref (q 17), .ref (q 18), .ref (q 19), .ref (q 20), .ref (q 21), .ref (q 22), .ref (q 23), .ref (q 24), .int (nI wn), .ref (q 26), .ref (q 27), .int (nI tk), .ref (q 29), .ref (q 30), .ref (q 31)]))] H := hP
              have hD : va_D A_0 [(q 17, .inl (k 0, 4, .inl f4)), (q 5, .inl (k 0, 96, .inl lt)), (q 0, .inr (8, [.int v, .ref (q 1), .int (nI ms), .ref (q 3), .int (nI rs), .ref (q 5), .ref (q 6), .int bh, .ref (q 8), .ref (q 9), .ref (q 10), .ref (q 11), .ref (q 12), .int (nI tz), .int fa, .ref (q 15), .int (nI mz), .ref (q 17), .ref (q 18), .ref (q 19), .ref (q 20), .ref (q 21), .ref (q 22), .ref (q 23), .ref (q 24), .int (nI wn), .ref (q 26), .ref (q 27), .int (nI tk), .ref (q 29), .ref (q 30), .ref (q 31)]))] := hD
              refine W.cs (cells' := 0) (slots' := 0) rfl rfl ?_
              refine va_iast hx_ hb_ hK.1 hP hD hS 0 0 rfl rfl (vp_in_nI (by decide) (by decide)) dX8_numbersOf_80 (fun H locs hP hD hS => ?_)
              rw [show Int32.toNatClampNeg 0 = 0 from nI_clamp (by decide)] at hP hD
              have hP : va_P D vwCl [(q 17, .inl (k 0, 4, .inl (upd f4 0 (mh_sh v ((lo_from lt c 3 0) / 32))))), (q 5, .inl (k 0, 96, .inl lt)), (q 0, .inr (8, [.int v, .ref (q 1), .int (nI ms), .ref (q 3), .int (nI rs), .ref (q 5), .ref (q 6), .int bh, .ref (q 8), .ref (q 9), .ref (q 10), .ref (q 11), .ref (q 12), .int (nI tz), .int fa, .ref (q 15), .int (nI mz), .ref (q 17), .ref (q 18), .ref (q 19), .ref (q 20), .ref (q 21), .ref (q 22), .ref (q 23), .ref (q 24), .int (nI wn), .ref (q 26), .ref (q 27), .int (nI tk), .ref (q 29), .ref (q 30), .ref (q 31)]))] H := hP
              have hD : va_D A_0 [(q 17, .inl (k 0, 4, .inl (upd f4 0 (mh_sh v ((lo_from lt c 3 0) / 32))))), (q 5, .inl (k 0, 96, .inl lt)), (q 0, .inr (8, [.int v, .ref (q 1), .int (nI ms), .ref (q 3), .int (nI rs), .ref (q 5), .ref (q 6), .int bh, .ref (q 8), .ref (q 9), .ref (q 10), .ref (q 11), .ref (q 12), .int (nI tz), .int fa, .ref (q 15), .int (nI mz), .ref (q 17), .ref (q 18), .ref (q 19), .ref (q 20), .ref (q 21), .ref (q 22), .ref (q 23), .ref (q 24), .int (nI wn), .ref (q 26), .ref (q 27), .int (nI tk), .ref (q 29), .ref (q 30), .ref (q 31)]))] := hD
              refine lv_aload_n hx_ hb_ dX8_numbersOf_81 rfl (lv_at hl 1 rfl) ?_
              refine va_get (D := D) (ci := 8) (v := .ref (q 17)) (C := RX8) (T := TX8) (N := 32) hx_ hb_ hts_ inM_X8 hown_ hK.1 hP 2 rfl rfl 17 (by decide) (hts_ _ (List.mem_cons_of_mem _ wa_f_X8_42)) (fun _ h9 => h9) rfl dX8_numbersOf_82 ?_
              refine lv_iconst (v := 1) hx_ hb_ dX8_numbersOf_85 (by decide) ?_
              refine lv_iload_n hx_ hb_ dX8_numbersOf_86 rfl (lv_at hl 0 rfl) ?_
              refine lv_bipush (v := 32) hx_ hb_ dX8_numbersOf_87 (by decide) ?_
              refine lv_irem hx_ hb_ dX8_numbersOf_89 (by decide) ?_
              refine va_iast hx_ hb_ hK.1 hP hD hS 0 0 rfl rfl (vp_in_nI (by decide) (by decide)) dX8_numbersOf_90 (fun H locs hP hD hS => ?_)
              rw [show Int32.toNatClampNeg 1 = 1 from nI_clamp (by decide)] at hP hD
              have hP : va_P D vwCl [(q 17, .inl (k 0, 4, .inl (upd (upd f4 0 (mh_sh v ((lo_from lt c 3 0) / 32))) 1 ((lo_from lt c 3 0) - (lo_from lt c 3 0) / 32 * 32)))), (q 5, .inl (k 0, 96, .inl lt)), (q 0, .inr (8, [.int v, .ref (q 1), .int (nI ms), .ref (q 3), .int (nI rs), .ref (q 5), .ref (q 6), .int bh, .ref (q 8), .ref (q 9), .ref (q 10), .ref (q 11), .ref (q 12), .int (nI tz), .int fa, .ref (q 15), .int (nI mz), .ref (q 17), .ref (q 18), .ref (q 19), .ref (q 20), .ref (q 21), .ref (q 22), .ref (q 23), .ref (q 24), .int (nI wn), .ref (q 26), .ref (q 27), .int (nI tk), .ref (q 29), .ref (q 30), .ref (q 31)]))] H := hP
              have hD : va_D A_0 [(q 17, .inl (k 0, 4, .inl (upd (upd f4 0 (mh_sh v ((lo_from lt c 3 0) / 32))) 1 ((lo_from lt c 3 0) - (lo_from lt c 3 0) / 32 * 32)))), (q 5, .inl (k 0, 96, .inl lt)), (q 0, .inr (8, [.int v, .ref (q 1), .int (nI ms), .ref (q 3), .int (nI rs), .ref (q 5), .ref (q 6), .int bh, .ref (q 8), .ref (q 9), .ref (q 10), .ref (q 11), .ref (q 12), .int (nI tz), .int fa, .ref (q 15), .int (nI mz), .ref (q 17), .ref (q 18), .ref (q 19), .ref (q 20), .ref (q 21), .ref (q 22), .ref (q 23), .ref (q 24), .int (nI wn), .ref (q 26), .ref (q 27), .int (nI tk), .ref (q 29), .ref (q 30), .ref (q 31)]))] := hD
              refine lv_iconst (v := 2) hx_ hb_ dX8_numbersOf_91 (by decide) ?_
              have eq1 : (upd (upd f4 0 (mh_sh v ((lo_from lt c 3 0) / 32))) 1 ((lo_from lt c 3 0) - (lo_from lt c 3 0) / 32 * 32) : Nat → Int32) = (no v lt c f4).2 := by simp [no, eq_false cc1, eq_true cc2, eq_false cc13, eq_false cc16, eq_true cc20, eq_false cc21] <;> rfl
              have eqr : (2 : Int32) = nI ((no v lt c f4).1) := by simp [no, eq_false cc1, eq_true cc2, eq_false cc13, eq_false cc16, eq_true cc20, eq_false cc21] <;> rfl
              exact ct_iret C_0 (hP.sub [2, 1, 0] rfl) (hD.sub [2, 1, 0] (by decide) rfl) hS (Nat.le_of_ble_eq_true rfl) (Nat.le_of_ble_eq_true rfl) dX8_numbersOf_92 (⟨eqr, congrArg (fun (z1 : Nat → Int32) => ([(q 0, .inr (8, [.int v, .ref (q 1), .int (nI ms), .ref (q 3), .int (nI rs), .ref (q 5), .ref (q 6), .int bh, .ref (q 8), .ref (q 9), .ref (q 10), .ref (q 11), .ref (q 12), .int (nI tz), .int fa, .ref (q 15), .int (nI mz), .ref (q 17), .ref (q 18), .ref (q 19), .ref (q 20), .ref (q 21), .ref (q 22), .ref (q 23), .ref (q 24), .int (nI wn), .ref (q 26), .ref (q 27), .int (nI tk), .ref (q 29), .ref (q 30), .ref (q 31)])), (q 5, .inl (k 0, 96, .inl lt)), (q 17, .inl (k 0, 4, .inl z1))] : va_W)) eq1⟩)
          · skip
            refine lv_aload_n hx_ hb_ dX8_numbersOf_54 rfl (lv_at hl 1 rfl) ?_
            refine va_get (D := D) (ci := 8) (v := .ref (q 17)) (C := RX8) (T := TX8) (N := 32) hx_ hb_ hts_ inM_X8 hown_ hK.1 hP 1 rfl rfl 17 (by decide) (hts_ _ (List.mem_cons_of_mem _ wa_f_X8_42)) (fun _ h9 => h9) rfl dX8_numbersOf_55 ?_
            refine lv_iconst (v := 0) hx_ hb_ dX8_numbersOf_58 (by decide) ?_
            refine lv_iload_n hx_ hb_ dX8_numbersOf_59 rfl (lv_at hl 0 rfl) ?_
            refine va_iast hx_ hb_ hK.1 hP hD hS 0 0 rfl rfl (vp_in_nI (by decide) (by decide)) dX8_numbersOf_60 (fun H locs hP hD hS => ?_)
            rw [show Int32.toNatClampNeg 0 = 0 from nI_clamp (by decide)] at hP hD
            have hP : va_P D vwCl [(q 17, .inl (k 0, 4, .inl (upd f4 0 (lo_from lt c 3 0)))), (q 0, .inr (8, [.int v, .ref (q 1), .int (nI ms), .ref (q 3), .int (nI rs), .ref (q 5), .ref (q 6), .int bh, .ref (q 8), .ref (q 9), .ref (q 10), .ref (q 11), .ref (q 12), .int (nI tz), .int fa, .ref (q 15), .int (nI mz), .ref (q 17), .ref (q 18), .ref (q 19), .ref (q 20), .ref (q 21), .ref (q 22), .ref (q 23), .ref (q 24), .int (nI wn), .ref (q 26), .ref (q 27), .int (nI tk), .ref (q 29), .ref (q 30), .ref (q 31)])), (q 5, .inl (k 0, 96, .inl lt))] H := hP
            have hD : va_D A_0 [(q 17, .inl (k 0, 4, .inl (upd f4 0 (lo_from lt c 3 0)))), (q 0, .inr (8, [.int v, .ref (q 1), .int (nI ms), .ref (q 3), .int (nI rs), .ref (q 5), .ref (q 6), .int bh, .ref (q 8), .ref (q 9), .ref (q 10), .ref (q 11), .ref (q 12), .int (nI tz), .int fa, .ref (q 15), .int (nI mz), .ref (q 17), .ref (q 18), .ref (q 19), .ref (q 20), .ref (q 21), .ref (q 22), .ref (q 23), .ref (q 24), .int (nI wn), .ref (q 26), .ref (q 27), .int (nI tk), .ref (q 29), .ref (q 30), .ref (q 31)])), (q 5, .inl (k 0, 96, .inl lt))] := hD
            refine lv_iconst (v := 1) hx_ hb_ dX8_numbersOf_61 (by decide) ?_
            have eq1 : (upd f4 0 (lo_from lt c 3 0) : Nat → Int32) = (no v lt c f4).2 := by simp [no, eq_false cc1, eq_true cc2, eq_false cc13, eq_false cc16, eq_false cc20] <;> rfl
            have eqr : (1 : Int32) = nI ((no v lt c f4).1) := by simp [no, eq_false cc1, eq_true cc2, eq_false cc13, eq_false cc16, eq_false cc20] <;> rfl
            exact ct_iret C_0 (hP.sub [1, 2, 0] rfl) (hD.sub [1, 2, 0] (by decide) rfl) hS (Nat.le_of_ble_eq_true rfl) (Nat.le_of_ble_eq_true rfl) dX8_numbersOf_62 (⟨eqr, congrArg (fun (z1 : Nat → Int32) => ([(q 0, .inr (8, [.int v, .ref (q 1), .int (nI ms), .ref (q 3), .int (nI rs), .ref (q 5), .ref (q 6), .int bh, .ref (q 8), .ref (q 9), .ref (q 10), .ref (q 11), .ref (q 12), .int (nI tz), .int fa, .ref (q 15), .int (nI mz), .ref (q 17), .ref (q 18), .ref (q 19), .ref (q 20), .ref (q 21), .ref (q 22), .ref (q 23), .ref (q 24), .int (nI wn), .ref (q 26), .ref (q 27), .int (nI tk), .ref (q 29), .ref (q 30), .ref (q 31)])), (q 5, .inl (k 0, 96, .inl lt)), (q 17, .inl (k 0, 4, .inl z1))] : va_W)) eq1⟩)
      · skip
        refine lv_aload_n hx_ hb_ dX8_numbersOf_29 rfl (lv_at hl 0 rfl) ?_
        refine va_get (D := D) (ci := 8) (v := .ref (q 17)) (C := RX8) (T := TX8) (N := 32) hx_ hb_ hts_ inM_X8 hown_ hK.1 hP 0 rfl rfl 17 (by decide) (hts_ _ (List.mem_cons_of_mem _ wa_f_X8_42)) (fun _ h9 => h9) rfl dX8_numbersOf_30 ?_
        refine lv_iconst (v := 0) hx_ hb_ dX8_numbersOf_33 (by decide) ?_
        refine lv_iconst (v := 1) hx_ hb_ dX8_numbersOf_34 (by decide) ?_
        refine va_iast hx_ hb_ hK.1 hP hD hS 2 0 rfl rfl (vp_in_nI (by decide) (by decide)) dX8_numbersOf_35 (fun H locs hP hD hS => ?_)
        rw [show Int32.toNatClampNeg 0 = 0 from nI_clamp (by decide)] at hP hD
        have hP : va_P D vwCl [(q 0, .inr (8, [.int v, .ref (q 1), .int (nI ms), .ref (q 3), .int (nI rs), .ref (q 5), .ref (q 6), .int bh, .ref (q 8), .ref (q 9), .ref (q 10), .ref (q 11), .ref (q 12), .int (nI tz), .int fa, .ref (q 15), .int (nI mz), .ref (q 17), .ref (q 18), .ref (q 19), .ref (q 20), .ref (q 21), .ref (q 22), .ref (q 23), .ref (q 24), .int (nI wn), .ref (q 26), .ref (q 27), .int (nI tk), .ref (q 29), .ref (q 30), .ref (q 31)])), (q 5, .inl (k 0, 96, .inl lt)), (q 17, .inl (k 0, 4, .inl (upd f4 0 1)))] H := hP
        have hD : va_D A_0 [(q 0, .inr (8, [.int v, .ref (q 1), .int (nI ms), .ref (q 3), .int (nI rs), .ref (q 5), .ref (q 6), .int bh, .ref (q 8), .ref (q 9), .ref (q 10), .ref (q 11), .ref (q 12), .int (nI tz), .int fa, .ref (q 15), .int (nI mz), .ref (q 17), .ref (q 18), .ref (q 19), .ref (q 20), .ref (q 21), .ref (q 22), .ref (q 23), .ref (q 24), .int (nI wn), .ref (q 26), .ref (q 27), .int (nI tk), .ref (q 29), .ref (q 30), .ref (q 31)])), (q 5, .inl (k 0, 96, .inl lt)), (q 17, .inl (k 0, 4, .inl (upd f4 0 1)))] := hD
        refine lv_iconst (v := 1) hx_ hb_ dX8_numbersOf_36 (by decide) ?_
        have eq1 : (upd f4 0 1 : Nat → Int32) = (no v lt c f4).2 := by simp [no, eq_false cc1, eq_true cc2, eq_true cc13] <;> rfl
        have eqr : (1 : Int32) = nI ((no v lt c f4).1) := by simp [no, eq_false cc1, eq_true cc2, eq_true cc13] <;> rfl
        exact ct_iret C_0 (hP.sub [0, 1, 2] rfl) (hD.sub [0, 1, 2] (by decide) rfl) hS (Nat.le_of_ble_eq_true rfl) (Nat.le_of_ble_eq_true rfl) dX8_numbersOf_37 (⟨eqr, congrArg (fun (z1 : Nat → Int32) => ([(q 0, .inr (8, [.int v, .ref (q 1), .int (nI ms), .ref (q 3), .int (nI rs), .ref (q 5), .ref (q 6), .int bh, .ref (q 8), .ref (q 9), .ref (q 10), .ref (q 11), .ref (q 12), .int (nI tz), .int fa, .ref (q 15), .int (nI mz), .ref (q 17), .ref (q 18), .ref (q 19), .ref (q 20), .ref (q 21), .ref (q 22), .ref (q 23), .ref (q 24), .int (nI wn), .ref (q 26), .ref (q 27), .int (nI tk), .ref (q 29), .ref (q 30), .ref (q 31)])), (q 5, .inl (k 0, 96, .inl lt)), (q 17, .inl (k 0, 4, .inl z1))] : va_W)) eq1⟩)
  · skip
    refine lv_aload_n hx_ hb_ dX8_numbersOf_6 rfl (lv_at hl 0 rfl) ?_
    refine va_get (D := D) (ci := 8) (v := .ref (q 17)) (C := RX8) (T := TX8) (N := 32) hx_ hb_ hts_ inM_X8 hown_ hK.1 hP 0 rfl rfl 17 (by decide) (hts_ _ (List.mem_cons_of_mem _ wa_f_X8_42)) (fun _ h9 => h9) rfl dX8_numbersOf_7 ?_
    refine lv_iconst (v := 0) hx_ hb_ dX8_numbersOf_10 (by decide) ?_
    refine lv_iconst (v := 0) hx_ hb_ dX8_numbersOf_11 (by decide) ?_
    refine va_iast hx_ hb_ hK.1 hP hD hS 2 0 rfl rfl (vp_in_nI (by decide) (by decide)) dX8_numbersOf_12 (fun H locs hP hD hS => ?_)
    rw [show Int32.toNatClampNeg 0 = 0 from nI_clamp (by decide)] at hP hD
    have hP : va_P D vwCl [(q 0, .inr (8, [.int v, .ref (q 1), .int (nI ms), .ref (q 3), .int (nI rs), .ref (q 5), .ref (q 6), .int bh, .ref (q 8), .ref (q 9), .ref (q 10), .ref (q 11), .ref (q 12), .int (nI tz), .int fa, .ref (q 15), .int (nI mz), .ref (q 17), .ref (q 18), .ref (q 19), .ref (q 20), .ref (q 21), .ref (q 22), .ref (q 23), .ref (q 24), .int (nI wn), .ref (q 26), .ref (q 27), .int (nI tk), .ref (q 29), .ref (q 30), .ref (q 31)])), (q 5, .inl (k 0, 96, .inl lt)), (q 17, .inl (k 0, 4, .inl (upd f4 0 0)))] H := hP
    have hD : va_D A_0 [(q 0, .inr (8, [.int v, .ref (q 1), .int (nI ms), .ref (q 3), .int (nI rs), .ref (q 5), .ref (q 6), .int bh, .ref (q 8), .ref (q 9), .ref (q 10), .ref (q 11), .ref (q 12), .int (nI tz), .int fa, .ref (q 15), .int (nI mz), .ref (q 17), .ref (q 18), .ref (q 19), .ref (q 20), .ref (q 21), .ref (q 22), .ref (q 23), .ref (q 24), .int (nI wn), .ref (q 26), .ref (q 27), .int (nI tk), .ref (q 29), .ref (q 30), .ref (q 31)])), (q 5, .inl (k 0, 96, .inl lt)), (q 17, .inl (k 0, 4, .inl (upd f4 0 0)))] := hD
    refine lv_iconst (v := 1) hx_ hb_ dX8_numbersOf_13 (by decide) ?_
    have eq1 : (upd f4 0 0 : Nat → Int32) = (no v lt c f4).2 := by simp [no, eq_true cc1] <;> rfl
    have eqr : (1 : Int32) = nI ((no v lt c f4).1) := by simp [no, eq_true cc1] <;> rfl
    exact ct_iret C_0 (hP.sub [0, 1, 2] rfl) (hD.sub [0, 1, 2] (by decide) rfl) hS (Nat.le_of_ble_eq_true rfl) (Nat.le_of_ble_eq_true rfl) dX8_numbersOf_14 (⟨eqr, congrArg (fun (z1 : Nat → Int32) => ([(q 0, .inr (8, [.int v, .ref (q 1), .int (nI ms), .ref (q 3), .int (nI rs), .ref (q 5), .ref (q 6), .int bh, .ref (q 8), .ref (q 9), .ref (q 10), .ref (q 11), .ref (q 12), .int (nI tz), .int fa, .ref (q 15), .int (nI mz), .ref (q 17), .ref (q 18), .ref (q 19), .ref (q 20), .ref (q 21), .ref (q 22), .ref (q 23), .ref (q 24), .int (nI wn), .ref (q 26), .ref (q 27), .int (nI tk), .ref (q 29), .ref (q 30), .ref (q 31)])), (q 5, .inl (k 0, 96, .inl lt)), (q 17, .inl (k 0, 4, .inl z1))] : va_W)) eq1⟩)
abbrev po_X8_put (k : Nat → ClassId) (q : Nat → Nat) (v : Int32) (ms : Nat) (rs : Nat) (bh : Int32) (tz : Nat) (fa : Int32) (mz : Nat) (wn : Nat) (tk : Nat) (mf : Nat → Int32) (x : Int32) : va_W → Prop := fun w1 => w1 = [(q 0, .inr (8, [.int v, .ref (q 1), .int (nI ms), .ref (q 3), .int (nI rs), .ref (q 5), .ref (q 6), .int bh, .ref (q 8), .ref (q 9), .ref (q 10), .ref (q 11), .ref (q 12), .int (nI tz), .int fa, .ref (q 15), .int (nI ((pu x (mz, mf)).1)), .ref (q 17), .ref (q 18), .ref (q 19), .ref (q 20), .ref (q 21), .ref (q 22), .ref (q 23), .ref (q 24), .int (nI wn), .ref (q 26), .ref (q 27), .int (nI tk), .ref (q 29), .ref (q 30), .ref (q 31)])), (q 15, .inl (k 0, 4010, .inl ((pu x (mz, mf)).2)))]
set_option maxHeartbeats 4000000 in
set_option maxRecDepth 100000 in
/-- put -/
theorem k_X8_put (l : Launch) (D : va_G) (k : Nat → ClassId) (q : Nat → Nat) (v : Int32) (ms : Nat) (rs : Nat) (bh : Int32) (tz : Nat) (fa : Int32) (mz : Nat) (wn : Nat) (tk : Nat) (mf : Nat → Int32) (x : Int32) (hmz : mz < 4010) : ct_v l D (TY k) yX8_put wsX8_put ({ frames := 0, cells := 0, slots := 0, locals := 0 } : Room) [.ref (q 0), .int x] [(q 0, .inr (8, [.int v, .ref (q 1), .int (nI ms), .ref (q 3), .int (nI rs), .ref (q 5), .ref (q 6), .int bh, .ref (q 8), .ref (q 9), .ref (q 10), .ref (q 11), .ref (q 12), .int (nI tz), .int fa, .ref (q 15), .int (nI mz), .ref (q 17), .ref (q 18), .ref (q 19), .ref (q 20), .ref (q 21), .ref (q 22), .ref (q 23), .ref (q 24), .int (nI wn), .ref (q 26), .ref (q 27), .int (nI tk), .ref (q 29), .ref (q 30), .ref (q 31)])), (q 15, .inl (k 0, 4010, .inl mf))] (po_X8_put k q v ms rs bh tz fa mz wn tk mf x) := by
  refine ct_v_of (cc := cX8_put) (nL := 2) (rt := none) (by decide) rfl (Nat.le_of_ble_eq_true rfl) ?_
  intro p_ e_ s_0 m_0 below_ meth_ c_0 A_0 C_0 hP hK hD hS hA ls hl
  obtain ⟨hx_, hb_, hml_, hr_, hown_, hlk_, hnm_, hts_⟩ := id C_0
  have hl : lv_has ls 2 [(0, .ref (q 0)), (1, .int x)] := hl
  refine lv_aload_n hx_ hb_ dX8_put_0 rfl (lv_at hl 0 rfl) ?_
  refine va_get (D := D) (ci := 8) (v := .ref (q 15)) (C := RX8) (T := TX8) (N := 32) hx_ hb_ hts_ inM_X8 hown_ hK.1 hP 0 rfl rfl 15 (by decide) (hts_ _ (List.mem_cons_of_mem _ wa_f_X8_39)) (fun _ h9 => h9) rfl dX8_put_1 ?_
  refine lv_aload_n hx_ hb_ dX8_put_4 rfl (lv_at hl 0 rfl) ?_
  refine va_get (D := D) (ci := 8) (v := .int (nI mz)) (C := RX8) (T := TX8) (N := 32) hx_ hb_ hts_ inM_X8 hown_ hK.1 hP 0 rfl rfl 16 (by decide) (hts_ _ (List.mem_cons_of_mem _ wa_f_X8_123)) (fun _ h9 => h9) rfl dX8_put_5 ?_
  refine lv_iload_n hx_ hb_ dX8_put_8 rfl (lv_at hl 1 rfl) ?_
  refine va_iast hx_ hb_ hK.1 hP hD hS 1 0 rfl rfl (vp_in_nI (by omega) (by decide)) dX8_put_9 (fun H locs hP hD hS => ?_)
  rw [show Int32.toNatClampNeg (nI mz) = mz from nI_clamp (by omega)] at hP hD
  have hP : va_P D vwCl [(q 0, .inr (8, [.int v, .ref (q 1), .int (nI ms), .ref (q 3), .int (nI rs), .ref (q 5), .ref (q 6), .int bh, .ref (q 8), .ref (q 9), .ref (q 10), .ref (q 11), .ref (q 12), .int (nI tz), .int fa, .ref (q 15), .int (nI mz), .ref (q 17), .ref (q 18), .ref (q 19), .ref (q 20), .ref (q 21), .ref (q 22), .ref (q 23), .ref (q 24), .int (nI wn), .ref (q 26), .ref (q 27), .int (nI tk), .ref (q 29), .ref (q 30), .ref (q 31)])), (q 15, .inl (k 0, 4010, .inl (upd mf mz x)))] H := hP
  have hD : va_D A_0 [(q 0, .inr (8, [.int v, .ref (q 1), .int (nI ms), .ref (q 3), .int (nI rs), .ref (q 5), .ref (q 6), .int bh, .ref (q 8), .ref (q 9), .ref (q 10), .ref (q 11), .ref (q 12), .int (nI tz), .int fa, .ref (q 15), .int (nI mz), .ref (q 17), .ref (q 18), .ref (q 19), .ref (q 20), .ref (q 21), .ref (q 22), .ref (q 23), .ref (q 24), .int (nI wn), .ref (q 26), .ref (q 27), .int (nI tk), .ref (q 29), .ref (q 30), .ref (q 31)])), (q 15, .inl (k 0, 4010, .inl (upd mf mz x)))] := hD
  refine lv_aload_n hx_ hb_ dX8_put_10 rfl (lv_at hl 0 rfl) ?_
  refine lv_dup hx_ hb_ dX8_put_11 rfl ?_
  refine va_get (D := D) (ci := 8) (v := .int (nI mz)) (C := RX8) (T := TX8) (N := 32) hx_ hb_ hts_ inM_X8 hown_ hK.1 hP 0 rfl rfl 16 (by decide) (hts_ _ (List.mem_cons_of_mem _ wa_f_X8_123)) (fun _ h9 => h9) rfl dX8_put_12 ?_
  refine lv_iconst (v := 1) hx_ hb_ dX8_put_15 (by decide) ?_
  refine lv_iadd hx_ hb_ dX8_put_16 ?_
  refine lv_ti (y := nI (mz + 1)) (nI_add _ _) ?_
  refine va_put (D := D) (ci := 8) (v := .int (nI (mz + 1))) (ty := .int) (C := RX8) (T := TX8) (N := 32) hx_ hb_ hts_ inM_X8 tyX8 tyX8_ok nmX8 hown_ hK.1 hP hD hS 0 rfl rfl 16 (by decide) (hts_ _ (List.mem_cons_of_mem _ wa_f_X8_123)) (fun _ h9 => h9) rfl (by decide +kernel) rfl rfl (Nat.le_of_ble_eq_true rfl) dX8_put_17 (fun H locs hP hD hS => ?_)
  have hP : va_P D vwCl [(q 0, .inr (8, [.int v, .ref (q 1), .int (nI ms), .ref (q 3), .int (nI rs), .ref (q 5), .ref (q 6), .int bh, .ref (q 8), .ref (q 9), .ref (q 10), .ref (q 11), .ref (q 12), .int (nI tz), .int fa, .ref (q 15), .int (nI (mz + 1)), .ref (q 17), .ref (q 18), .ref (q 19), .ref (q 20), .ref (q 21), .ref (q 22), .ref (q 23), .ref (q 24), .int (nI wn), .ref (q 26), .ref (q 27), .int (nI tk), .ref (q 29), .ref (q 30), .ref (q 31)])), (q 15, .inl (k 0, 4010, .inl (upd mf mz x)))] H := hP
  have hD : va_D A_0 [(q 0, .inr (8, [.int v, .ref (q 1), .int (nI ms), .ref (q 3), .int (nI rs), .ref (q 5), .ref (q 6), .int bh, .ref (q 8), .ref (q 9), .ref (q 10), .ref (q 11), .ref (q 12), .int (nI tz), .int fa, .ref (q 15), .int (nI (mz + 1)), .ref (q 17), .ref (q 18), .ref (q 19), .ref (q 20), .ref (q 21), .ref (q 22), .ref (q 23), .ref (q 24), .int (nI wn), .ref (q 26), .ref (q 27), .int (nI tk), .ref (q 29), .ref (q 30), .ref (q 31)])), (q 15, .inl (k 0, 4010, .inl (upd mf mz x)))] := hD
  have eq1 : (nI (mz + 1) : Int32) = nI ((pu x (mz, mf)).1) := by rfl
  have eq2 : (upd mf mz x : Nat → Int32) = (pu x (mz, mf)).2 := by rfl
  exact ct_vret C_0 (hP.sub [0, 1] rfl) (hD.sub [0, 1] (by decide) rfl) hS (Nat.le_of_ble_eq_true rfl) (Nat.le_of_ble_eq_true rfl) dX8_put_20 (congr (congrArg (fun (z1 : Int32) (z2 : Nat → Int32) => ([(q 0, .inr (8, [.int v, .ref (q 1), .int (nI ms), .ref (q 3), .int (nI rs), .ref (q 5), .ref (q 6), .int bh, .ref (q 8), .ref (q 9), .ref (q 10), .ref (q 11), .ref (q 12), .int (nI tz), .int fa, .ref (q 15), .int z1, .ref (q 17), .ref (q 18), .ref (q 19), .ref (q 20), .ref (q 21), .ref (q 22), .ref (q 23), .ref (q 24), .int (nI wn), .ref (q 26), .ref (q 27), .int (nI tk), .ref (q 29), .ref (q 30), .ref (q 31)])), (q 15, .inl (k 0, 4010, .inl z2))] : va_W)) eq1) eq2)
