abbrev po_X5_count (k : Nat → ClassId) (h : Nat) (a : Nat) (cap : Nat) (t : Nat × (Nat → Int32)) : Int32 → va_W → Prop := fun ans_ w1 => ans_ = nI (t.1) ∧ w1 = [(h, .inr (5, [.ref a, .int (nI (t.1))])), (a, .inl (k 0, cap, .inl t.2))]
set_option maxHeartbeats 4000000 in
set_option maxRecDepth 100000 in
/-- count() -/
theorem k_X5_count (l : Launch) (D : va_G) (k : Nat → ClassId) (h : Nat) (a : Nat) (cap : Nat) (t : Nat × (Nat → Int32))  : ct_i l D (TY k) yX5_count wsX5_count ({ frames := 0, cells := 0, slots := 0, locals := 0 } : Room) [.ref h] [(h, .inr (5, [.ref a, .int (nI (t.1))])), (a, .inl (k 0, cap, .inl t.2))] (po_X5_count k h a cap t) := by
  refine ct_i_of (cc := cX5_count) (nL := 1) (rt := (some .int)) (by decide) rfl (Nat.le_of_ble_eq_true rfl) ?_
  intro p_ e_ s_0 m_0 below_ meth_ c_0 A_0 C_0 hP hK hD hS hA ls hl
  obtain ⟨hx_, hb_, hml_, hr_, hown_, hlk_, hnm_, hts_⟩ := id C_0
  have hl : lv_has ls 1 [(0, .ref h)] := hl
  refine lv_aload_n hx_ hb_ dX5_count_0 rfl (lv_at hl 0 rfl) ?_
  refine va_get (D := D) (ci := 5) (v := .int (nI (t.1))) (C := RX5) (T := TX5) (N := 2) hx_ hb_ hts_ inM_X5 hown_ hK.1 hP 0 rfl rfl 1 (by decide) (hts_ _ (List.mem_cons_of_mem _ wa_f_X5_21)) (fun _ h9 => h9) rfl dX5_count_1 ?_
  exact ct_iret C_0 (hP.sub [0, 1] rfl) (hD.sub [0, 1] (by decide) rfl) hS (Nat.le_of_ble_eq_true rfl) (Nat.le_of_ble_eq_true rfl) dX5_count_4 (⟨rfl, rfl⟩)
abbrev po_X5_has (k : Nat → ClassId) (h : Nat) (a : Nat) (cap : Nat) (t : Nat × (Nat → Int32)) (i : Int32) : Int32 → va_W → Prop := fun ans_ w1 => ans_ = rw_has t.1 i ∧ w1 = [(h, .inr (5, [.ref a, .int (nI (t.1))])), (a, .inl (k 0, cap, .inl t.2))]
set_option maxHeartbeats 4000000 in
set_option maxRecDepth 100000 in
/-- has(i) -/
theorem k_X5_has (l : Launch) (D : va_G) (k : Nat → ClassId) (h : Nat) (a : Nat) (cap : Nat) (t : Nat × (Nat → Int32)) (i : Int32)  : ct_i l D (TY k) yX5_has wsX5_has ({ frames := 0, cells := 0, slots := 0, locals := 0 } : Room) [.ref h, .int i] [(h, .inr (5, [.ref a, .int (nI (t.1))])), (a, .inl (k 0, cap, .inl t.2))] (po_X5_has k h a cap t i) := by
  refine ct_i_of (cc := cX5_has) (nL := 2) (rt := (some .boolean)) (by decide) rfl (Nat.le_of_ble_eq_true rfl) ?_
  intro p_ e_ s_0 m_0 below_ meth_ c_0 A_0 C_0 hP hK hD hS hA ls hl
  obtain ⟨hx_, hb_, hml_, hr_, hown_, hlk_, hnm_, hts_⟩ := id C_0
  have hl : lv_has ls 2 [(0, .ref h), (1, .int i)] := hl
  refine lv_iload_n hx_ hb_ dX5_has_0 rfl (lv_at hl 1 rfl) ?_
  refine lv_if_lt (tgt := 16) hx_ hb_ dX5_has_1 (by decide) (fun cc1 => ?_) (fun cc1 => ?_)
  · skip
    refine lv_iconst (v := 0) hx_ hb_ dX5_has_16 (by decide) ?_
    have eqr : (0 : Int32) = rw_has t.1 i := by simp [rw_has, eq_true cc1]
    exact ct_zret C_0 (rfl) (hP.sub [0, 1] rfl) (hD.sub [0, 1] (by decide) rfl) hS (Nat.le_of_ble_eq_true rfl) (Nat.le_of_ble_eq_true rfl) dX5_has_17 (⟨eqr, rfl⟩)
  · skip
    refine lv_iload_n hx_ hb_ dX5_has_4 rfl (lv_at hl 1 rfl) ?_
    refine lv_aload_n hx_ hb_ dX5_has_5 rfl (lv_at hl 0 rfl) ?_
    refine va_get (D := D) (ci := 5) (v := .int (nI (t.1))) (C := RX5) (T := TX5) (N := 2) hx_ hb_ hts_ inM_X5 hown_ hK.1 hP 0 rfl rfl 1 (by decide) (hts_ _ (List.mem_cons_of_mem _ wa_f_X5_21)) (fun _ h9 => h9) rfl dX5_has_6 ?_
    refine lv_icmp_ge (tgt := 16) hx_ hb_ dX5_has_9 (by decide) (fun cc2 => ?_) (fun cc2 => ?_)
    · skip
      refine lv_iconst (v := 0) hx_ hb_ dX5_has_16 (by decide) ?_
      have eqr : (0 : Int32) = rw_has t.1 i := by simp [rw_has, eq_false cc1, eq_true cc2]
      exact ct_zret C_0 (rfl) (hP.sub [0, 1] rfl) (hD.sub [0, 1] (by decide) rfl) hS (Nat.le_of_ble_eq_true rfl) (Nat.le_of_ble_eq_true rfl) dX5_has_17 (⟨eqr, rfl⟩)
    · skip
      refine lv_iconst (v := 1) hx_ hb_ dX5_has_12 (by decide) ?_
      refine lv_goto (tgt := 17) hx_ hb_ dX5_has_13 (by decide) ?_
      have eqr : (1 : Int32) = rw_has t.1 i := by simp [rw_has, eq_false cc1, eq_false cc2]
      exact ct_zret C_0 (rfl) (hP.sub [0, 1] rfl) (hD.sub [0, 1] (by decide) rfl) hS (Nat.le_of_ble_eq_true rfl) (Nat.le_of_ble_eq_true rfl) dX5_has_17 (⟨eqr, rfl⟩)
abbrev po_X5_hasRoom (k : Nat → ClassId) (h : Nat) (a : Nat) (cap : Nat) (t : Nat × (Nat → Int32)) (v : Int32) : Int32 → va_W → Prop := fun ans_ w1 => ans_ = rw_room cap t.1 v ∧ w1 = [(h, .inr (5, [.ref a, .int (nI (t.1))])), (a, .inl (k 0, cap, .inl t.2))]
set_option maxHeartbeats 4000000 in
set_option maxRecDepth 100000 in
/-- hasRoom(v) -/
theorem k_X5_hasRoom (l : Launch) (D : va_G) (k : Nat → ClassId) (h : Nat) (a : Nat) (cap : Nat) (t : Nat × (Nat → Int32)) (v : Int32)  : ct_i l D (TY k) yX5_hasRoom wsX5_hasRoom ({ frames := 0, cells := 0, slots := 0, locals := 0 } : Room) [.ref h, .int v] [(h, .inr (5, [.ref a, .int (nI (t.1))])), (a, .inl (k 0, cap, .inl t.2))] (po_X5_hasRoom k h a cap t v) := by
  refine ct_i_of (cc := cX5_hasRoom) (nL := 2) (rt := (some .boolean)) (by decide) rfl (Nat.le_of_ble_eq_true rfl) ?_
  intro p_ e_ s_0 m_0 below_ meth_ c_0 A_0 C_0 hP hK hD hS hA ls hl
  obtain ⟨hx_, hb_, hml_, hr_, hown_, hlk_, hnm_, hts_⟩ := id C_0
  have hl : lv_has ls 2 [(0, .ref h), (1, .int v)] := hl
  refine lv_iload_n hx_ hb_ dX5_hasRoom_0 rfl (lv_at hl 1 rfl) ?_
  refine lv_aload_n hx_ hb_ dX5_hasRoom_1 rfl (lv_at hl 0 rfl) ?_
  refine va_get (D := D) (ci := 5) (v := .ref a) (C := RX5) (T := TX5) (N := 2) hx_ hb_ hts_ inM_X5 hown_ hK.1 hP 0 rfl rfl 0 (by decide) (hts_ _ (List.mem_cons_of_mem _ wa_f_X5_15)) (fun _ h9 => h9) rfl dX5_hasRoom_2 ?_
  refine va_alen (v := nI cap) hx_ hb_ hK.1 hP 1 0 rfl rfl rfl dX5_hasRoom_5 ?_
  refine lv_aload_n hx_ hb_ dX5_hasRoom_6 rfl (lv_at hl 0 rfl) ?_
  refine va_get (D := D) (ci := 5) (v := .int (nI (t.1))) (C := RX5) (T := TX5) (N := 2) hx_ hb_ hts_ inM_X5 hown_ hK.1 hP 0 rfl rfl 1 (by decide) (hts_ _ (List.mem_cons_of_mem _ wa_f_X5_21)) (fun _ h9 => h9) rfl dX5_hasRoom_7 ?_
  refine lv_isub hx_ hb_ dX5_hasRoom_10 ?_
  refine lv_icmp_gt (tgt := 18) hx_ hb_ dX5_hasRoom_11 (by decide) (fun cc1 => ?_) (fun cc1 => ?_)
  · skip
    refine lv_iconst (v := 0) hx_ hb_ dX5_hasRoom_18 (by decide) ?_
    have eqr : (0 : Int32) = rw_room cap t.1 v := by simp [rw_room, eq_true cc1]
    exact ct_zret C_0 (rfl) (hP.sub [0, 1] rfl) (hD.sub [0, 1] (by decide) rfl) hS (Nat.le_of_ble_eq_true rfl) (Nat.le_of_ble_eq_true rfl) dX5_hasRoom_19 (⟨eqr, rfl⟩)
  · skip
    refine lv_iconst (v := 1) hx_ hb_ dX5_hasRoom_14 (by decide) ?_
    refine lv_goto (tgt := 19) hx_ hb_ dX5_hasRoom_15 (by decide) ?_
    have eqr : (1 : Int32) = rw_room cap t.1 v := by simp [rw_room, eq_false cc1]
    exact ct_zret C_0 (rfl) (hP.sub [0, 1] rfl) (hD.sub [0, 1] (by decide) rfl) hS (Nat.le_of_ble_eq_true rfl) (Nat.le_of_ble_eq_true rfl) dX5_hasRoom_19 (⟨eqr, rfl⟩)
abbrev po_X5_get (k : Nat → ClassId) (h : Nat) (a : Nat) (cap : Nat) (t : Nat × (Nat → Int32)) (i : Int32) : Int32 → va_W → Prop := fun ans_ w1 => ans_ = rw_get t.1 t.2 i ∧ w1 = [(h, .inr (5, [.ref a, .int (nI (t.1))])), (a, .inl (k 0, cap, .inl t.2))]
set_option maxHeartbeats 4000000 in
set_option maxRecDepth 100000 in
/-- get(i) -/
theorem k_X5_get (l : Launch) (D : va_G) (k : Nat → ClassId) (h : Nat) (a : Nat) (cap : Nat) (t : Nat × (Nat → Int32)) (i : Int32) (hn : t.1 ≤ cap) (hc : cap ≤ 5000) : ct_i l D (TY k) yX5_get wsX5_get ({ frames := 1, cells := 0, slots := 0, locals := 21 } : Room) [.ref h, .int i] [(h, .inr (5, [.ref a, .int (nI (t.1))])), (a, .inl (k 0, cap, .inl t.2))] (po_X5_get k h a cap t i) := by
  refine ct_i_of (cc := cX5_get) (nL := 2) (rt := (some .int)) (by decide) rfl (Nat.le_of_ble_eq_true rfl) ?_
  intro p_ e_ s_0 m_0 below_ meth_ c_0 A_0 C_0 hP hK hD hS hA ls hl
  obtain ⟨hx_, hb_, hml_, hr_, hown_, hlk_, hnm_, hts_⟩ := id C_0
  have hl : lv_has ls 2 [(0, .ref h), (1, .int i)] := hl
  refine lv_aload_n hx_ hb_ dX5_get_0 rfl (lv_at hl 0 rfl) ?_
  refine lv_iload_n hx_ hb_ dX5_get_1 rfl (lv_at hl 1 rfl) ?_
  refine ct_Vi (wr := []) (rest := []) (As := [.int i]) ⟨hx_, hb_, hml_, hown_, hts_⟩ (k_X5_has l D k h a cap t i ) (cwV 1 hts_ (gd_in (gw_V wa_m_X5_25 wa_y_X5_has wa_s_X5_has wa_i_X5 wa_k_X5_has)) rfl rfl rfl (by decide +kernel) ⟨Nat.le_of_ble_eq_true rfl, Nat.le_of_ble_eq_true rfl⟩) hK hP hD hS hA [0, 1] [] rfl rfl rfl rfl (by decide) 5 rfl rfl rfl hl.1 rfl rfl (Nat.le_of_ble_eq_true rfl) dX5_get_2 ⟨Nat.le_of_ble_eq_true rfl, Nat.le_of_ble_eq_true rfl⟩ (fun rr1 w1 H locs ww2 hP hD hS => ?_)
  obtain ⟨rfl, rfl⟩ := ww2
  have hP : va_P D vwCl [(h, .inr (5, [.ref a, .int (nI (t.1))])), (a, .inl (k 0, cap, .inl t.2))] H := hP
  have hD : va_D A_0 [(h, .inr (5, [.ref a, .int (nI (t.1))])), (a, .inl (k 0, cap, .inl t.2))] := hD
  refine W.cs (cells' := 0) (slots' := 0) rfl rfl ?_
  refine lv_if_eq (tgt := 17) hx_ hb_ dX5_get_5 (by decide) (fun cc3 => ?_) (fun cc3 => ?_)
  · skip
    refine lv_iconst (v := (-1)) hx_ hb_ dX5_get_17 (by decide) ?_
    have eqr : ((-1) : Int32) = rw_get t.1 t.2 i := by simp [rw_get, eq_true cc3]
    exact ct_iret C_0 (hP.sub [0, 1] rfl) (hD.sub [0, 1] (by decide) rfl) hS (Nat.le_of_ble_eq_true rfl) (Nat.le_of_ble_eq_true rfl) dX5_get_18 (⟨eqr, rfl⟩)
  · skip
    refine lv_aload_n hx_ hb_ dX5_get_8 rfl (lv_at hl 0 rfl) ?_
    refine va_get (D := D) (ci := 5) (v := .ref a) (C := RX5) (T := TX5) (N := 2) hx_ hb_ hts_ inM_X5 hown_ hK.1 hP 0 rfl rfl 0 (by decide) (hts_ _ (List.mem_cons_of_mem _ wa_f_X5_15)) (fun _ h9 => h9) rfl dX5_get_9 ?_
    refine lv_iload_n hx_ hb_ dX5_get_12 rfl (lv_at hl 1 rfl) ?_
    refine va_iald hx_ hb_ hK.1 hP 1 0 rfl rfl (rw_in2 cc3 hn (by omega)) dX5_get_13 ?_
    refine lv_goto (tgt := 18) hx_ hb_ dX5_get_14 (by decide) ?_
    have eqr : (t.2 (Int32.toNatClampNeg i) : Int32) = rw_get t.1 t.2 i := by simp [rw_get, eq_false cc3]
    exact ct_iret C_0 (hP.sub [0, 1] rfl) (hD.sub [0, 1] (by decide) rfl) hS (Nat.le_of_ble_eq_true rfl) (Nat.le_of_ble_eq_true rfl) dX5_get_18 (⟨eqr, rfl⟩)
abbrev po_X5_replace (k : Nat → ClassId) (h : Nat) (a : Nat) (cap : Nat) (t : Nat × (Nat → Int32)) (i : Int32) (x : Int32) : Int32 → va_W → Prop := fun ans_ w1 => ans_ = rw_get t.1 t.2 i ∧ w1 = [(h, .inr (5, [.ref a, .int (nI ((rw_r i x t).1))])), (a, .inl (k 0, cap, .inl ((rw_r i x t).2)))]
set_option maxHeartbeats 4000000 in
set_option maxRecDepth 100000 in
/-- replace(i, x) -/
theorem k_X5_replace (l : Launch) (D : va_G) (k : Nat → ClassId) (h : Nat) (a : Nat) (cap : Nat) (t : Nat × (Nat → Int32)) (i : Int32) (x : Int32) (hn : t.1 ≤ cap) (hc : cap ≤ 5000) : ct_i l D (TY k) yX5_replace wsX5_replace ({ frames := 1, cells := 0, slots := 0, locals := 21 } : Room) [.ref h, .int i, .int x] [(h, .inr (5, [.ref a, .int (nI (t.1))])), (a, .inl (k 0, cap, .inl t.2))] (po_X5_replace k h a cap t i x) := by
  refine ct_i_of (cc := cX5_replace) (nL := 4) (rt := (some .int)) (by decide) rfl (Nat.le_of_ble_eq_true rfl) ?_
  intro p_ e_ s_0 m_0 below_ meth_ c_0 A_0 C_0 hP hK hD hS hA ls hl
  obtain ⟨hx_, hb_, hml_, hr_, hown_, hlk_, hnm_, hts_⟩ := id C_0
  have hl : lv_has ls 4 [(0, .ref h), (1, .int i), (2, .int x)] := hl
  refine lv_aload_n hx_ hb_ dX5_replace_0 rfl (lv_at hl 0 rfl) ?_
  refine lv_iload_n hx_ hb_ dX5_replace_1 rfl (lv_at hl 1 rfl) ?_
  refine ct_Vi (wr := []) (rest := []) (As := [.int i]) ⟨hx_, hb_, hml_, hown_, hts_⟩ (k_X5_has l D k h a cap t i ) (cwV 1 hts_ (gd_in (gw_V wa_m_X5_25 wa_y_X5_has wa_s_X5_has wa_i_X5 wa_k_X5_has)) rfl rfl rfl (by decide +kernel) ⟨Nat.le_of_ble_eq_true rfl, Nat.le_of_ble_eq_true rfl⟩) hK hP hD hS hA [0, 1] [] rfl rfl rfl rfl (by decide) 5 rfl rfl rfl hl.1 rfl rfl (Nat.le_of_ble_eq_true rfl) dX5_replace_2 ⟨Nat.le_of_ble_eq_true rfl, Nat.le_of_ble_eq_true rfl⟩ (fun rr1 w1 H locs ww2 hP hD hS => ?_)
  obtain ⟨rfl, rfl⟩ := ww2
  have hP : va_P D vwCl [(h, .inr (5, [.ref a, .int (nI (t.1))])), (a, .inl (k 0, cap, .inl t.2))] H := hP
  have hD : va_D A_0 [(h, .inr (5, [.ref a, .int (nI (t.1))])), (a, .inl (k 0, cap, .inl t.2))] := hD
  refine W.cs (cells' := 0) (slots' := 0) rfl rfl ?_
  refine lv_if_ne (tgt := 10) hx_ hb_ dX5_replace_5 (by decide) (fun cc3 => ?_) (fun cc3 => ?_)
  · skip
    refine lv_aload_n hx_ hb_ dX5_replace_10 rfl (lv_at hl 0 rfl) ?_
    refine va_get (D := D) (ci := 5) (v := .ref a) (C := RX5) (T := TX5) (N := 2) hx_ hb_ hts_ inM_X5 hown_ hK.1 hP 0 rfl rfl 0 (by decide) (hts_ _ (List.mem_cons_of_mem _ wa_f_X5_15)) (fun _ h9 => h9) rfl dX5_replace_11 ?_
    refine lv_iload_n hx_ hb_ dX5_replace_14 rfl (lv_at hl 1 rfl) ?_
    refine va_iald hx_ hb_ hK.1 hP 1 0 rfl rfl (rw_in2 cc3 hn (by omega)) dX5_replace_15 ?_
    refine lv_istore_n (lv' := [(3, .int (t.2 (Int32.toNatClampNeg i))), (0, .ref h), (1, .int i), (2, .int x)]) hx_ hb_ dX5_replace_16 rfl hl (by decide) rfl (fun ls hl => ?_)
    refine lv_aload_n hx_ hb_ dX5_replace_17 rfl (lv_at hl 1 rfl) ?_
    refine va_get (D := D) (ci := 5) (v := .ref a) (C := RX5) (T := TX5) (N := 2) hx_ hb_ hts_ inM_X5 hown_ hK.1 hP 0 rfl rfl 0 (by decide) (hts_ _ (List.mem_cons_of_mem _ wa_f_X5_15)) (fun _ h9 => h9) rfl dX5_replace_18 ?_
    refine lv_iload_n hx_ hb_ dX5_replace_21 rfl (lv_at hl 2 rfl) ?_
    refine lv_iload_n hx_ hb_ dX5_replace_22 rfl (lv_at hl 3 rfl) ?_
    refine va_iast hx_ hb_ hK.1 hP hD hS 1 0 rfl rfl (rw_in2 cc3 hn (by omega)) dX5_replace_23 (fun H locs hP hD hS => ?_)
    have hP : va_P D vwCl [(h, .inr (5, [.ref a, .int (nI (t.1))])), (a, .inl (k 0, cap, .inl (upd t.2 (Int32.toNatClampNeg i) x)))] H := hP
    have hD : va_D A_0 [(h, .inr (5, [.ref a, .int (nI (t.1))])), (a, .inl (k 0, cap, .inl (upd t.2 (Int32.toNatClampNeg i) x)))] := hD
    refine lv_iload_n hx_ hb_ dX5_replace_24 rfl (lv_at hl 0 rfl) ?_
    have eq1 : (nI (t.1) : Int32) = nI ((rw_r i x t).1) := by simp [rw_get, rw_rep, rw_r, eq_false cc3]
    have eq2 : (upd t.2 (Int32.toNatClampNeg i) x : Nat → Int32) = (rw_r i x t).2 := by simp [rw_get, rw_rep, rw_r, eq_false cc3]
    have eqr : (t.2 (Int32.toNatClampNeg i) : Int32) = rw_get t.1 t.2 i := by simp [rw_get, rw_rep, rw_r, eq_false cc3]
    exact ct_iret C_0 (hP.sub [0, 1] rfl) (hD.sub [0, 1] (by decide) rfl) hS (Nat.le_of_ble_eq_true rfl) (Nat.le_of_ble_eq_true rfl) dX5_replace_25 (⟨eqr, congr (congrArg (fun (z1 : Int32) (z2 : Nat → Int32) => ([(h, .inr (5, [.ref a, .int z1])), (a, .inl (k 0, cap, .inl z2))] : va_W)) eq1) eq2⟩)
  · skip
    refine lv_iconst (v := (-1)) hx_ hb_ dX5_replace_8 (by decide) ?_
    have eq1 : (nI (t.1) : Int32) = nI ((rw_r i x t).1) := by simp [rw_get, rw_rep, rw_r, eq_true cc3]
    have eq2 : (t.2 : Nat → Int32) = (rw_r i x t).2 := by simp [rw_get, rw_rep, rw_r, eq_true cc3]
    have eqr : ((-1) : Int32) = rw_get t.1 t.2 i := by simp [rw_get, rw_rep, rw_r, eq_true cc3]
    exact ct_iret C_0 (hP.sub [0, 1] rfl) (hD.sub [0, 1] (by decide) rfl) hS (Nat.le_of_ble_eq_true rfl) (Nat.le_of_ble_eq_true rfl) dX5_replace_9 (⟨eqr, congr (congrArg (fun (z1 : Int32) (z2 : Nat → Int32) => ([(h, .inr (5, [.ref a, .int z1])), (a, .inl (k 0, cap, .inl z2))] : va_W)) eq1) eq2⟩)
abbrev po_X5_add (k : Nat → ClassId) (h : Nat) (a : Nat) (cap : Nat) (t : Nat × (Nat → Int32)) (x : Int32) : Int32 → va_W → Prop := fun ans_ w1 => ans_ = rw_ar cap t.1 ∧ w1 = [(h, .inr (5, [.ref a, .int (nI ((rw_a cap x t).1))])), (a, .inl (k 0, cap, .inl ((rw_a cap x t).2)))]
set_option maxHeartbeats 4000000 in
set_option maxRecDepth 100000 in
/-- add(x) -/
theorem k_X5_add (l : Launch) (D : va_G) (k : Nat → ClassId) (h : Nat) (a : Nat) (cap : Nat) (t : Nat × (Nat → Int32)) (x : Int32) (hn : t.1 ≤ cap) (hc : cap ≤ 5000) : ct_i l D (TY k) yX5_add wsX5_add ({ frames := 0, cells := 0, slots := 0, locals := 0 } : Room) [.ref h, .int x] [(h, .inr (5, [.ref a, .int (nI (t.1))])), (a, .inl (k 0, cap, .inl t.2))] (po_X5_add k h a cap t x) := by
  refine ct_i_of (cc := cX5_add) (nL := 2) (rt := (some .boolean)) (by decide) rfl (Nat.le_of_ble_eq_true rfl) ?_
  intro p_ e_ s_0 m_0 below_ meth_ c_0 A_0 C_0 hP hK hD hS hA ls hl
  obtain ⟨hx_, hb_, hml_, hr_, hown_, hlk_, hnm_, hts_⟩ := id C_0
  have hl : lv_has ls 2 [(0, .ref h), (1, .int x)] := hl
  refine lv_aload_n hx_ hb_ dX5_add_0 rfl (lv_at hl 0 rfl) ?_
  refine va_get (D := D) (ci := 5) (v := .int (nI (t.1))) (C := RX5) (T := TX5) (N := 2) hx_ hb_ hts_ inM_X5 hown_ hK.1 hP 0 rfl rfl 1 (by decide) (hts_ _ (List.mem_cons_of_mem _ wa_f_X5_21)) (fun _ h9 => h9) rfl dX5_add_1 ?_
  refine lv_aload_n hx_ hb_ dX5_add_4 rfl (lv_at hl 0 rfl) ?_
  refine va_get (D := D) (ci := 5) (v := .ref a) (C := RX5) (T := TX5) (N := 2) hx_ hb_ hts_ inM_X5 hown_ hK.1 hP 0 rfl rfl 0 (by decide) (hts_ _ (List.mem_cons_of_mem _ wa_f_X5_15)) (fun _ h9 => h9) rfl dX5_add_5 ?_
  refine va_alen (v := nI cap) hx_ hb_ hK.1 hP 1 0 rfl rfl rfl dX5_add_8 ?_
  refine lv_icmp_lt (tgt := 14) hx_ hb_ dX5_add_9 (by decide) (fun cc1 => ?_) (fun cc1 => ?_)
  · have nn1 : (t.1) < cap := (nI_ltI (a := (t.1)) (b := cap) (by omega) (by omega)).mp cc1
    have nn1m : ¬ cap ≤ (t.1) := by omega
    refine lv_aload_n hx_ hb_ dX5_add_14 rfl (lv_at hl 0 rfl) ?_
    refine va_get (D := D) (ci := 5) (v := .ref a) (C := RX5) (T := TX5) (N := 2) hx_ hb_ hts_ inM_X5 hown_ hK.1 hP 0 rfl rfl 0 (by decide) (hts_ _ (List.mem_cons_of_mem _ wa_f_X5_15)) (fun _ h9 => h9) rfl dX5_add_15 ?_
    refine lv_aload_n hx_ hb_ dX5_add_18 rfl (lv_at hl 0 rfl) ?_
    refine va_get (D := D) (ci := 5) (v := .int (nI (t.1))) (C := RX5) (T := TX5) (N := 2) hx_ hb_ hts_ inM_X5 hown_ hK.1 hP 0 rfl rfl 1 (by decide) (hts_ _ (List.mem_cons_of_mem _ wa_f_X5_21)) (fun _ h9 => h9) rfl dX5_add_19 ?_
    refine lv_iload_n hx_ hb_ dX5_add_22 rfl (lv_at hl 1 rfl) ?_
    refine va_iast hx_ hb_ hK.1 hP hD hS 1 0 rfl rfl (vp_in_nI (by omega) (by omega)) dX5_add_23 (fun H locs hP hD hS => ?_)
    rw [show Int32.toNatClampNeg (nI (t.1)) = (t.1) from nI_clamp (by omega)] at hP hD
    have hP : va_P D vwCl [(h, .inr (5, [.ref a, .int (nI (t.1))])), (a, .inl (k 0, cap, .inl (upd t.2 (t.1) x)))] H := hP
    have hD : va_D A_0 [(h, .inr (5, [.ref a, .int (nI (t.1))])), (a, .inl (k 0, cap, .inl (upd t.2 (t.1) x)))] := hD
    refine lv_aload_n hx_ hb_ dX5_add_24 rfl (lv_at hl 0 rfl) ?_
    refine lv_dup hx_ hb_ dX5_add_25 rfl ?_
    refine va_get (D := D) (ci := 5) (v := .int (nI (t.1))) (C := RX5) (T := TX5) (N := 2) hx_ hb_ hts_ inM_X5 hown_ hK.1 hP 0 rfl rfl 1 (by decide) (hts_ _ (List.mem_cons_of_mem _ wa_f_X5_21)) (fun _ h9 => h9) rfl dX5_add_26 ?_
    refine lv_iconst (v := 1) hx_ hb_ dX5_add_29 (by decide) ?_
    refine lv_iadd hx_ hb_ dX5_add_30 ?_
    refine lv_ti (y := nI ((t.1) + 1)) (nI_add _ _) ?_
    refine va_put (D := D) (ci := 5) (v := .int (nI ((t.1) + 1))) (ty := .int) (C := RX5) (T := TX5) (N := 2) hx_ hb_ hts_ inM_X5 tyX5 tyX5_ok nmX5 hown_ hK.1 hP hD hS 0 rfl rfl 1 (by decide) (hts_ _ (List.mem_cons_of_mem _ wa_f_X5_21)) (fun _ h9 => h9) rfl (by decide +kernel) rfl rfl (Nat.le_of_ble_eq_true rfl) dX5_add_31 (fun H locs hP hD hS => ?_)
    have hP : va_P D vwCl [(h, .inr (5, [.ref a, .int (nI ((t.1) + 1))])), (a, .inl (k 0, cap, .inl (upd t.2 (t.1) x)))] H := hP
    have hD : va_D A_0 [(h, .inr (5, [.ref a, .int (nI ((t.1) + 1))])), (a, .inl (k 0, cap, .inl (upd t.2 (t.1) x)))] := hD
    refine lv_iconst (v := 1) hx_ hb_ dX5_add_34 (by decide) ?_
    have eq1 : (nI ((t.1) + 1) : Int32) = nI ((rw_a cap x t).1) := by simp [rw_ar, rw_an, rw_af, rw_a, eq_true cc1, eq_true nn1, eq_false nn1m]
    have eq2 : (upd t.2 (t.1) x : Nat → Int32) = (rw_a cap x t).2 := by simp [rw_ar, rw_an, rw_af, rw_a, eq_true cc1, eq_true nn1, eq_false nn1m]
    have eqr : (1 : Int32) = rw_ar cap t.1 := by simp [rw_ar, rw_an, rw_af, rw_a, eq_true cc1, eq_true nn1, eq_false nn1m]
    exact ct_zret C_0 (rfl) (hP.sub [0, 1] rfl) (hD.sub [0, 1] (by decide) rfl) hS (Nat.le_of_ble_eq_true rfl) (Nat.le_of_ble_eq_true rfl) dX5_add_35 (⟨eqr, congr (congrArg (fun (z1 : Int32) (z2 : Nat → Int32) => ([(h, .inr (5, [.ref a, .int z1])), (a, .inl (k 0, cap, .inl z2))] : va_W)) eq1) eq2⟩)
  · have nn1 : ¬ (t.1) < cap := fun hh => cc1 ((nI_ltI (a := (t.1)) (b := cap) (by omega) (by omega)).mpr hh)
    have nn1m : cap ≤ (t.1) := by omega
    refine lv_iconst (v := 0) hx_ hb_ dX5_add_12 (by decide) ?_
    have eq1 : (nI (t.1) : Int32) = nI ((rw_a cap x t).1) := by simp [rw_ar, rw_an, rw_af, rw_a, eq_false cc1, eq_false nn1, eq_true nn1m]
    have eq2 : (t.2 : Nat → Int32) = (rw_a cap x t).2 := by simp [rw_ar, rw_an, rw_af, rw_a, eq_false cc1, eq_false nn1, eq_true nn1m]
    have eqr : (0 : Int32) = rw_ar cap t.1 := by simp [rw_ar, rw_an, rw_af, rw_a, eq_false cc1, eq_false nn1, eq_true nn1m]
    exact ct_zret C_0 (rfl) (hP.sub [0, 1] rfl) (hD.sub [0, 1] (by decide) rfl) hS (Nat.le_of_ble_eq_true rfl) (Nat.le_of_ble_eq_true rfl) dX5_add_13 (⟨eqr, congr (congrArg (fun (z1 : Int32) (z2 : Nat → Int32) => ([(h, .inr (5, [.ref a, .int z1])), (a, .inl (k 0, cap, .inl z2))] : va_W)) eq1) eq2⟩)
abbrev po_X5_cut (k : Nat → ClassId) (h : Nat) (a : Nat) (cap : Nat) (t : Nat × (Nat → Int32)) (v : Int32) : va_W → Prop := fun w1 => w1 = [(h, .inr (5, [.ref a, .int (nI ((rw_c v t).1))])), (a, .inl (k 0, cap, .inl ((rw_c v t).2)))]
set_option maxHeartbeats 4000000 in
set_option maxRecDepth 100000 in
/-- cut(v) -/
theorem k_X5_cut (l : Launch) (D : va_G) (k : Nat → ClassId) (h : Nat) (a : Nat) (cap : Nat) (t : Nat × (Nat → Int32)) (v : Int32)  : ct_v l D (TY k) yX5_cut wsX5_cut ({ frames := 0, cells := 0, slots := 0, locals := 0 } : Room) [.ref h, .int v] [(h, .inr (5, [.ref a, .int (nI (t.1))])), (a, .inl (k 0, cap, .inl t.2))] (po_X5_cut k h a cap t v) := by
  refine ct_v_of (cc := cX5_cut) (nL := 2) (rt := none) (by decide) rfl (Nat.le_of_ble_eq_true rfl) ?_
  intro p_ e_ s_0 m_0 below_ meth_ c_0 A_0 C_0 hP hK hD hS hA ls hl
  obtain ⟨hx_, hb_, hml_, hr_, hown_, hlk_, hnm_, hts_⟩ := id C_0
  have hl : lv_has ls 2 [(0, .ref h), (1, .int v)] := hl
  refine lv_iload_n hx_ hb_ dX5_cut_0 rfl (lv_at hl 1 rfl) ?_
  refine lv_if_lt (tgt := 17) hx_ hb_ dX5_cut_1 (by decide) (fun cc1 => ?_) (fun cc1 => ?_)
  · skip
    have eq1 : (nI (t.1) : Int32) = nI ((rw_c v t).1) := by simp [rw_cut, rw_c, eq_true cc1]
    have eq2 : (t.2 : Nat → Int32) = (rw_c v t).2 := by simp [rw_cut, rw_c, eq_true cc1]
    exact ct_vret C_0 (hP.sub [0, 1] rfl) (hD.sub [0, 1] (by decide) rfl) hS (Nat.le_of_ble_eq_true rfl) (Nat.le_of_ble_eq_true rfl) dX5_cut_17 (congr (congrArg (fun (z1 : Int32) (z2 : Nat → Int32) => ([(h, .inr (5, [.ref a, .int z1])), (a, .inl (k 0, cap, .inl z2))] : va_W)) eq1) eq2)
  · skip
    refine lv_iload_n hx_ hb_ dX5_cut_4 rfl (lv_at hl 1 rfl) ?_
    refine lv_aload_n hx_ hb_ dX5_cut_5 rfl (lv_at hl 0 rfl) ?_
    refine va_get (D := D) (ci := 5) (v := .int (nI (t.1))) (C := RX5) (T := TX5) (N := 2) hx_ hb_ hts_ inM_X5 hown_ hK.1 hP 0 rfl rfl 1 (by decide) (hts_ _ (List.mem_cons_of_mem _ wa_f_X5_21)) (fun _ h9 => h9) rfl dX5_cut_6 ?_
    refine lv_icmp_ge (tgt := 17) hx_ hb_ dX5_cut_9 (by decide) (fun cc2 => ?_) (fun cc2 => ?_)
    · skip
      have eq1 : (nI (t.1) : Int32) = nI ((rw_c v t).1) := by simp [rw_cut, rw_c, eq_false cc1, eq_true cc2]
      have eq2 : (t.2 : Nat → Int32) = (rw_c v t).2 := by simp [rw_cut, rw_c, eq_false cc1, eq_true cc2]
      exact ct_vret C_0 (hP.sub [0, 1] rfl) (hD.sub [0, 1] (by decide) rfl) hS (Nat.le_of_ble_eq_true rfl) (Nat.le_of_ble_eq_true rfl) dX5_cut_17 (congr (congrArg (fun (z1 : Int32) (z2 : Nat → Int32) => ([(h, .inr (5, [.ref a, .int z1])), (a, .inl (k 0, cap, .inl z2))] : va_W)) eq1) eq2)
    · skip
      refine lv_aload_n hx_ hb_ dX5_cut_12 rfl (lv_at hl 0 rfl) ?_
      refine lv_iload_n hx_ hb_ dX5_cut_13 rfl (lv_at hl 1 rfl) ?_
      refine va_put (D := D) (ci := 5) (v := .int v) (ty := .int) (C := RX5) (T := TX5) (N := 2) hx_ hb_ hts_ inM_X5 tyX5 tyX5_ok nmX5 hown_ hK.1 hP hD hS 0 rfl rfl 1 (by decide) (hts_ _ (List.mem_cons_of_mem _ wa_f_X5_21)) (fun _ h9 => h9) rfl (by decide +kernel) rfl rfl (Nat.le_of_ble_eq_true rfl) dX5_cut_14 (fun H locs hP hD hS => ?_)
      have hP : va_P D vwCl [(h, .inr (5, [.ref a, .int v])), (a, .inl (k 0, cap, .inl t.2))] H := hP
      have hD : va_D A_0 [(h, .inr (5, [.ref a, .int v])), (a, .inl (k 0, cap, .inl t.2))] := hD
      have eq1 : (v : Int32) = nI ((rw_c v t).1) := by first | exact rw_cut_eq cc1 cc2 | rfl
      have eq2 : (t.2 : Nat → Int32) = (rw_c v t).2 := by first | exact rw_cut_eq cc1 cc2 | rfl
      exact ct_vret C_0 (hP.sub [0, 1] rfl) (hD.sub [0, 1] (by decide) rfl) hS (Nat.le_of_ble_eq_true rfl) (Nat.le_of_ble_eq_true rfl) dX5_cut_17 (congr (congrArg (fun (z1 : Int32) (z2 : Nat → Int32) => ([(h, .inr (5, [.ref a, .int z1])), (a, .inl (k 0, cap, .inl z2))] : va_W)) eq1) eq2)
abbrev po_X5_showsAt (k : Nat → ClassId) (h : Nat) (a : Nat) (cap : Nat) (t : Nat × (Nat → Int32)) (h2 : Nat) (a2 : Nat) (cap2 : Nat) (t2 : Nat × (Nat → Int32)) (i : Int32) : Int32 → va_W → Prop := fun ans_ w1 => ans_ = rw_shows t.1 t.2 t2.1 t2.2 i ∧ w1 = [(h, .inr (5, [.ref a, .int (nI (t.1))])), (a, .inl (k 0, cap, .inl t.2)), (h2, .inr (5, [.ref a2, .int (nI (t2.1))])), (a2, .inl (k 0, cap2, .inl t2.2))]
set_option maxHeartbeats 4000000 in
set_option maxRecDepth 100000 in
/-- showsAt(i, other) -/
theorem k_X5_showsAt (l : Launch) (D : va_G) (k : Nat → ClassId) (h : Nat) (a : Nat) (cap : Nat) (t : Nat × (Nat → Int32)) (h2 : Nat) (a2 : Nat) (cap2 : Nat) (t2 : Nat × (Nat → Int32)) (i : Int32) (hn : t.1 ≤ cap) (hc : cap ≤ 5000) (hn2 : t2.1 ≤ cap2) (hc2 : cap2 ≤ 5000) : ct_i l D (TY k) yX5_showsAt wsX5_showsAt ({ frames := 0, cells := 0, slots := 0, locals := 0 } : Room) [.ref h, .int i, .ref h2] [(h, .inr (5, [.ref a, .int (nI (t.1))])), (a, .inl (k 0, cap, .inl t.2)), (h2, .inr (5, [.ref a2, .int (nI (t2.1))])), (a2, .inl (k 0, cap2, .inl t2.2))] (po_X5_showsAt k h a cap t h2 a2 cap2 t2 i) := by
  refine ct_i_of (cc := cX5_showsAt) (nL := 4) (rt := (some .boolean)) (by decide) rfl (Nat.le_of_ble_eq_true rfl) ?_
  intro p_ e_ s_0 m_0 below_ meth_ c_0 A_0 C_0 hP hK hD hS hA ls hl
  obtain ⟨hx_, hb_, hml_, hr_, hown_, hlk_, hnm_, hts_⟩ := id C_0
  have hl : lv_has ls 4 [(0, .ref h), (1, .int i), (2, .ref h2)] := hl
  refine lv_iload_n hx_ hb_ dX5_showsAt_0 rfl (lv_at hl 1 rfl) ?_
  refine lv_if_lt (tgt := 17) hx_ hb_ dX5_showsAt_1 (by decide) (fun cc1 => ?_) (fun cc1 => ?_)
  · skip
    refine lv_iconst (v := 0) hx_ hb_ dX5_showsAt_17 (by decide) ?_
    have eqr : (0 : Int32) = rw_shows t.1 t.2 t2.1 t2.2 i := by simp [rw_shows, eq_true cc1]
    exact ct_zret C_0 (rfl) (hP.sub [0, 1, 2, 3] rfl) (hD.sub [0, 1, 2, 3] (by decide) rfl) hS (Nat.le_of_ble_eq_true rfl) (Nat.le_of_ble_eq_true rfl) dX5_showsAt_18 (⟨eqr, rfl⟩)
  · skip
    refine lv_iload_n hx_ hb_ dX5_showsAt_4 rfl (lv_at hl 1 rfl) ?_
    refine lv_aload_n hx_ hb_ dX5_showsAt_5 rfl (lv_at hl 0 rfl) ?_
    refine va_get (D := D) (ci := 5) (v := .int (nI (t.1))) (C := RX5) (T := TX5) (N := 2) hx_ hb_ hts_ inM_X5 hown_ hK.1 hP 0 rfl rfl 1 (by decide) (hts_ _ (List.mem_cons_of_mem _ wa_f_X5_21)) (fun _ h9 => h9) rfl dX5_showsAt_6 ?_
    refine lv_aload_n hx_ hb_ dX5_showsAt_9 rfl (lv_at hl 2 rfl) ?_
    refine va_get (D := D) (ci := 5) (v := .int (nI (t2.1))) (C := RX5) (T := TX5) (N := 2) hx_ hb_ hts_ inM_X5 hown_ hK.1 hP 2 rfl rfl 1 (by decide) (hts_ _ (List.mem_cons_of_mem _ wa_f_X5_21)) (fun _ h9 => h9) rfl dX5_showsAt_10 ?_
    refine lv_isub hx_ hb_ dX5_showsAt_13 ?_
    refine lv_icmp_le (tgt := 19) hx_ hb_ dX5_showsAt_14 (by decide) (fun cc2 => ?_) (fun cc2 => ?_)
    · skip
      obtain ⟨i0, hi0, ei0⟩ := rw_shows_at (by omega) (by omega) cc1 cc2
      refine lv_iconst (v := 0) hx_ hb_ dX5_showsAt_19 (by decide) ?_
      refine lv_istore_n (lv' := [(3, .int 0), (0, .ref h), (1, .int i), (2, .ref h2)]) hx_ hb_ dX5_showsAt_20 rfl hl (by decide) rfl (fun ls hl => ?_)
      have lp21 : ∀ (fu : Nat) (j : Nat) (H : Heap) (locs : List Loc) (ls : Array Slot), t2.1 - j < fu → (j ≤ t2.1) → (∀ q, q < j → t.2 (i0 + q) = t2.2 q) → va_P D vwCl [(h, .inr (5, [.ref a, .int (nI (t.1))])), (a, .inl (k 0, cap, .inl t.2)), (h2, .inr (5, [.ref a2, .int (nI (t2.1))])), (a2, .inl (k 0, cap2, .inl t2.2))] H → va_D A_0 [(h, .inr (5, [.ref a, .int (nI (t.1))])), (a, .inl (k 0, cap, .inl t.2)), (h2, .inr (5, [.ref a2, .int (nI (t2.1))])), (a2, .inl (k 0, cap2, .inl t2.2))] → va_S A_0 s_0.heap H locs → lv_has ls 4 [(0, .ref h), (1, .int i), (2, .ref h2), (3, .int (nI j))] → W p_ l e_ (headSpec wsX5_showsAt ({ frames := 0, cells := 0, slots := 0, locals := 0 } : Room)).room s_0 m_0 (([.ref h, .int i, .ref h2] : List Value).toArray) below_ meth_ c_0 H locs 0 0 (ct_Zi below_ D (po_X5_showsAt k h a cap t h2 a2 cap2 t2 i) A_0 (([.ref h, .int i, .ref h2] : List Value).toArray) s_0 0 0) (F0 m_0 21 ls []) := by
        intro fu
        induction fu with
        | zero => intro j H locs ls hm_; exact absurd hm_ (Nat.not_lt_zero _)
        | succ fu ih21 =>
          intro j H locs ls hm_ hj hall hP hD hS hl
          refine lv_iload_n hx_ hb_ dX5_showsAt_21 rfl (lv_at hl 3 rfl) ?_
          refine lv_aload_n hx_ hb_ dX5_showsAt_22 rfl (lv_at hl 2 rfl) ?_
          refine va_get (D := D) (ci := 5) (v := .int (nI (t2.1))) (C := RX5) (T := TX5) (N := 2) hx_ hb_ hts_ inM_X5 hown_ hK.1 hP 2 rfl rfl 1 (by decide) (hts_ _ (List.mem_cons_of_mem _ wa_f_X5_21)) (fun _ h9 => h9) rfl dX5_showsAt_23 ?_
          refine lv_icmp_ge (tgt := 54) hx_ hb_ dX5_showsAt_26 (by decide) (fun cc3 => ?_) (fun cc3 => ?_)
          · have nn3 : (t2.1) ≤ j := (nI_leI (a := (t2.1)) (b := j) (by omega) (by omega)).mp cc3
            have nn3m : ¬ j < (t2.1) := by omega
            refine lv_iconst (v := 1) hx_ hb_ dX5_showsAt_54 (by decide) ?_
            have eqr : (1 : Int32) = rw_shows t.1 t.2 t2.1 t2.2 i := by rw [rw_shows, if_neg cc1, if_neg (Int32.not_lt.mpr cc2), if_pos]; intro q hq; rw [ei0, nI_clamp (by omega)]; exact hall q (by omega)
            exact ct_zret C_0 (rfl) (hP.sub [0, 1, 2, 3] rfl) (hD.sub [0, 1, 2, 3] (by decide) rfl) hS (Nat.le_of_ble_eq_true rfl) (Nat.le_of_ble_eq_true rfl) dX5_showsAt_55 (⟨eqr, rfl⟩)
          · have nn3 : ¬ (t2.1) ≤ j := fun hh => cc3 ((nI_leI (a := (t2.1)) (b := j) (by omega) (by omega)).mpr hh)
            have nn3m : j < (t2.1) := by omega
            refine lv_aload_n hx_ hb_ dX5_showsAt_29 rfl (lv_at hl 0 rfl) ?_
            refine va_get (D := D) (ci := 5) (v := .ref a) (C := RX5) (T := TX5) (N := 2) hx_ hb_ hts_ inM_X5 hown_ hK.1 hP 0 rfl rfl 0 (by decide) (hts_ _ (List.mem_cons_of_mem _ wa_f_X5_15)) (fun _ h9 => h9) rfl dX5_showsAt_30 ?_
            refine lv_iload_n hx_ hb_ dX5_showsAt_33 rfl (lv_at hl 1 rfl) ?_
            refine lv_iload_n hx_ hb_ dX5_showsAt_34 rfl (lv_at hl 3 rfl) ?_
            refine lv_iadd hx_ hb_ dX5_showsAt_35 ?_
            refine lv_ti (y := nI (i0 + j)) (by rw [ei0]; exact nI_add _ _) ?_
            refine va_iald hx_ hb_ hK.1 hP 1 0 rfl rfl (vp_in_nI (by omega) (by omega)) dX5_showsAt_36 ?_
            refine lv_ti (y := t.2 (i0 + j)) (congrArg _ (nI_clamp (by omega))) ?_
            refine lv_aload_n hx_ hb_ dX5_showsAt_37 rfl (lv_at hl 2 rfl) ?_
            refine va_get (D := D) (ci := 5) (v := .ref a2) (C := RX5) (T := TX5) (N := 2) hx_ hb_ hts_ inM_X5 hown_ hK.1 hP 2 rfl rfl 0 (by decide) (hts_ _ (List.mem_cons_of_mem _ wa_f_X5_15)) (fun _ h9 => h9) rfl dX5_showsAt_38 ?_
            refine lv_iload_n hx_ hb_ dX5_showsAt_41 rfl (lv_at hl 3 rfl) ?_
            refine va_iald hx_ hb_ hK.1 hP 3 0 rfl rfl (vp_in_nI (by omega) (by omega)) dX5_showsAt_42 ?_
            refine lv_ti (y := t2.2 j) (congrArg _ (nI_clamp (by omega))) ?_
            refine lv_icmp_eq (tgt := 48) hx_ hb_ dX5_showsAt_43 (by decide) (fun cc4 => ?_) (fun cc4 => ?_)
            · skip
              refine lv_iinc (v := nI (j + 1)) (lv' := [(3, .int (nI (j + 1))), (0, .ref h), (1, .int i), (2, .ref h2)]) hx_ hb_ dX5_showsAt_48 hl (k := 3) rfl (nI_add _ _) (by decide) rfl (fun ls hl => ?_)
              refine lv_goto (tgt := 21) hx_ hb_ dX5_showsAt_51 (by decide) ?_
              exact ih21 (j + 1) _ _ _ (by omega) (by omega) (by intro q hq; rcases Nat.lt_or_ge q j with z | z; exact hall q z; rw [show q = j by omega]; exact cc4) (hP.sub [0, 1, 2, 3] rfl) (hD.sub [0, 1, 2, 3] (by decide) rfl) hS (lv_sub hl [1, 2, 3, 0] rfl)
            · skip
              refine lv_iconst (v := 0) hx_ hb_ dX5_showsAt_46 (by decide) ?_
              have eqr : (0 : Int32) = rw_shows t.1 t.2 t2.1 t2.2 i := by rw [rw_shows, if_neg cc1, if_neg (Int32.not_lt.mpr cc2), if_neg]; intro hh; refine cc4 ?_; have h9 := hh j (by omega); rw [ei0, nI_clamp (by omega)] at h9; exact h9
              exact ct_zret C_0 (rfl) (hP.sub [0, 1, 2, 3] rfl) (hD.sub [0, 1, 2, 3] (by decide) rfl) hS (Nat.le_of_ble_eq_true rfl) (Nat.le_of_ble_eq_true rfl) dX5_showsAt_47 (⟨eqr, rfl⟩)
      exact lp21 ((t2.1 - 0) + 1) 0 _ _ _ (Nat.lt_succ_self _) (by omega) (by intro q hq; omega) (hP.sub [0, 1, 2, 3] rfl) (hD.sub [0, 1, 2, 3] (by decide) rfl) hS (lv_sub hl [1, 2, 3, 0] rfl)
    · skip
      refine lv_iconst (v := 0) hx_ hb_ dX5_showsAt_17 (by decide) ?_
      have eqr : (0 : Int32) = rw_shows t.1 t.2 t2.1 t2.2 i := by rw [rw_shows, if_neg cc1, if_pos (Int32.not_le.mp cc2)]
      exact ct_zret C_0 (rfl) (hP.sub [0, 1, 2, 3] rfl) (hD.sub [0, 1, 2, 3] (by decide) rfl) hS (Nat.le_of_ble_eq_true rfl) (Nat.le_of_ble_eq_true rfl) dX5_showsAt_18 (⟨eqr, rfl⟩)
abbrev po_X5_become (k : Nat → ClassId) (h : Nat) (a : Nat) (cap : Nat) (t : Nat × (Nat → Int32)) (h2 : Nat) (a2 : Nat) (cap2 : Nat) (t2 : Nat × (Nat → Int32)) : va_W → Prop := fun w1 => w1 = [(h, .inr (5, [.ref a, .int (nI ((rw_b cap t2 t).1))])), (a, .inl (k 0, cap, .inl ((rw_b cap t2 t).2))), (h2, .inr (5, [.ref a2, .int (nI (t2.1))])), (a2, .inl (k 0, cap2, .inl t2.2))]
set_option maxHeartbeats 4000000 in
set_option maxRecDepth 100000 in
/-- become -/
theorem k_X5_become (l : Launch) (D : va_G) (k : Nat → ClassId) (h : Nat) (a : Nat) (cap : Nat) (t : Nat × (Nat → Int32)) (h2 : Nat) (a2 : Nat) (cap2 : Nat) (t2 : Nat × (Nat → Int32)) (hn : t.1 ≤ cap) (hc : cap ≤ 5000) (hn2 : t2.1 ≤ cap2) (hc2 : cap2 ≤ 5000) : ct_v l D (TY k) yX5_become wsX5_become ({ frames := 1, cells := 0, slots := 0, locals := 26 } : Room) [.ref h, .ref h2] [(h, .inr (5, [.ref a, .int (nI (t.1))])), (a, .inl (k 0, cap, .inl t.2)), (h2, .inr (5, [.ref a2, .int (nI (t2.1))])), (a2, .inl (k 0, cap2, .inl t2.2))] (po_X5_become k h a cap t h2 a2 cap2 t2) := by
  refine ct_v_of (cc := cX5_become) (nL := 2) (rt := none) (by decide) rfl (Nat.le_of_ble_eq_true rfl) ?_
  intro p_ e_ s_0 m_0 below_ meth_ c_0 A_0 C_0 hP hK hD hS hA ls hl
  obtain ⟨hx_, hb_, hml_, hr_, hown_, hlk_, hnm_, hts_⟩ := id C_0
  have hl : lv_has ls 2 [(0, .ref h), (1, .ref h2)] := hl
  refine lv_aload_n hx_ hb_ dX5_become_0 rfl (lv_at hl 0 rfl) ?_
  refine lv_aload_n hx_ hb_ dX5_become_1 rfl (lv_at hl 1 rfl) ?_
  refine va_get (D := D) (ci := 5) (v := .int (nI (t2.1))) (C := RX5) (T := TX5) (N := 2) hx_ hb_ hts_ inM_X5 hown_ hK.1 hP 2 rfl rfl 1 (by decide) (hts_ _ (List.mem_cons_of_mem _ wa_f_X5_21)) (fun _ h9 => h9) rfl dX5_become_2 ?_
  refine lv_aload_n hx_ hb_ dX5_become_5 rfl (lv_at hl 0 rfl) ?_
  refine va_get (D := D) (ci := 5) (v := .ref a) (C := RX5) (T := TX5) (N := 2) hx_ hb_ hts_ inM_X5 hown_ hK.1 hP 0 rfl rfl 0 (by decide) (hts_ _ (List.mem_cons_of_mem _ wa_f_X5_15)) (fun _ h9 => h9) rfl dX5_become_6 ?_
  refine va_alen (v := nI cap) hx_ hb_ hK.1 hP 1 0 rfl rfl rfl dX5_become_9 ?_
  refine va_mmin hx_ hb_ (hml_.trans hl.1.symm) hown_ (hts_ _ (List.mem_cons_of_mem _ wa_m_X5_29)) (hts_ _ (List.mem_cons_of_mem _ wa_t_min)) (hts_ _ (List.mem_cons_of_mem _ wa_i_Math)) (hts_ _ (List.mem_cons_of_mem _ wa_k_min)) (Nat.le_of_ble_eq_true rfl) (Nat.le_of_ble_eq_true rfl) (Nat.le_of_ble_eq_true rfl) (Nat.le_of_ble_eq_true rfl) dX5_become_10 ?_
  refine lv_ti (y := nI (min t2.1 cap)) (mm_min (by omega) (by omega)) ?_
  refine va_put (D := D) (ci := 5) (v := .int (nI (min t2.1 cap))) (ty := .int) (C := RX5) (T := TX5) (N := 2) hx_ hb_ hts_ inM_X5 tyX5 tyX5_ok nmX5 hown_ hK.1 hP hD hS 0 rfl rfl 1 (by decide) (hts_ _ (List.mem_cons_of_mem _ wa_f_X5_21)) (fun _ h9 => h9) rfl (by decide +kernel) rfl rfl (Nat.le_of_ble_eq_true rfl) dX5_become_13 (fun H locs hP hD hS => ?_)
  have hP : va_P D vwCl [(h, .inr (5, [.ref a, .int (nI (min t2.1 cap))])), (a, .inl (k 0, cap, .inl t.2)), (h2, .inr (5, [.ref a2, .int (nI (t2.1))])), (a2, .inl (k 0, cap2, .inl t2.2))] H := hP
  have hD : va_D A_0 [(h, .inr (5, [.ref a, .int (nI (min t2.1 cap))])), (a, .inl (k 0, cap, .inl t.2)), (h2, .inr (5, [.ref a2, .int (nI (t2.1))])), (a2, .inl (k 0, cap2, .inl t2.2))] := hD
  refine lv_aload_n hx_ hb_ dX5_become_16 rfl (lv_at hl 1 rfl) ?_
  refine va_get (D := D) (ci := 5) (v := .ref a2) (C := RX5) (T := TX5) (N := 2) hx_ hb_ hts_ inM_X5 hown_ hK.1 hP 2 rfl rfl 0 (by decide) (hts_ _ (List.mem_cons_of_mem _ wa_f_X5_15)) (fun _ h9 => h9) rfl dX5_become_17 ?_
  refine lv_iconst (v := 0) hx_ hb_ dX5_become_20 (by decide) ?_
  refine lv_aload_n hx_ hb_ dX5_become_21 rfl (lv_at hl 0 rfl) ?_
  refine va_get (D := D) (ci := 5) (v := .ref a) (C := RX5) (T := TX5) (N := 2) hx_ hb_ hts_ inM_X5 hown_ hK.1 hP 0 rfl rfl 0 (by decide) (hts_ _ (List.mem_cons_of_mem _ wa_f_X5_15)) (fun _ h9 => h9) rfl dX5_become_22 ?_
  refine lv_iconst (v := 0) hx_ hb_ dX5_become_25 (by decide) ?_
  refine lv_aload_n hx_ hb_ dX5_become_26 rfl (lv_at hl 0 rfl) ?_
  refine va_get (D := D) (ci := 5) (v := .int (nI (min t2.1 cap))) (C := RX5) (T := TX5) (N := 2) hx_ hb_ hts_ inM_X5 hown_ hK.1 hP 0 rfl rfl 1 (by decide) (hts_ _ (List.mem_cons_of_mem _ wa_f_X5_21)) (fun _ h9 => h9) rfl dX5_become_27 ?_
  refine va_copyi hx_ hb_ (hml_.trans hl.1.symm) hown_ (hts_ _ (List.mem_cons_of_mem _ wa_m_X5_32)) (hts_ _ (List.mem_cons_of_mem _ wa_v_copy)) (hts_ _ (List.mem_cons_of_mem _ wa_t_copy)) (hts_ _ (List.mem_cons_of_mem _ wa_i_System)) hK.1 hP hD hS 3 1 0 0 rfl rfl rfl rfl rfl (by decide) (by decide) (nI_pos (by omega)) (by rw [nI_clamp (by omega), sb_cl0]; omega) (by rw [nI_clamp (by omega), sb_cl0]; omega) (fun _ _ => rfl) (Nat.le_of_ble_eq_true rfl) (Nat.le_of_ble_eq_true rfl) dX5_become_30 (fun H locs hP hD hS => ?_)
  rw [nI_clamp (n := (min t2.1 cap)) (by omega), sb_cl0] at hP hD
  have hP : va_P D vwCl [(h, .inr (5, [.ref a, .int (nI (min t2.1 cap))])), (a, .inl (k 0, cap, .inl (va_cpy t2.2 t.2 0 0 (min t2.1 cap)))), (h2, .inr (5, [.ref a2, .int (nI (t2.1))])), (a2, .inl (k 0, cap2, .inl t2.2))] H := hP
  have hD : va_D A_0 [(h, .inr (5, [.ref a, .int (nI (min t2.1 cap))])), (a, .inl (k 0, cap, .inl (va_cpy t2.2 t.2 0 0 (min t2.1 cap)))), (h2, .inr (5, [.ref a2, .int (nI (t2.1))])), (a2, .inl (k 0, cap2, .inl t2.2))] := hD
  have eq1 : (nI (min t2.1 cap) : Int32) = nI ((rw_b cap t2 t).1) := by rfl
  have eq2 : (va_cpy t2.2 t.2 0 0 (min t2.1 cap) : Nat → Int32) = (rw_b cap t2 t).2 := by rfl
  exact ct_vret C_0 (hP.sub [0, 1, 2, 3] rfl) (hD.sub [0, 1, 2, 3] (by decide) rfl) hS (Nat.le_of_ble_eq_true rfl) (Nat.le_of_ble_eq_true rfl) dX5_become_33 (congr (congrArg (fun (z1 : Int32) (z2 : Nat → Int32) => ([(h, .inr (5, [.ref a, .int z1])), (a, .inl (k 0, cap, .inl z2)), (h2, .inr (5, [.ref a2, .int (nI (t2.1))])), (a2, .inl (k 0, cap2, .inl t2.2))] : va_W)) eq1) eq2)
abbrev po_X5_init_3000 (k : Nat → ClassId) (h : Nat) : va_W → Prop := fun w1 => ∃ (a : Nat), w1 = [(h, .inr (5, [.ref a, .int (nI (rw_0.1))])), (a, .inl (k 0, 3000, .inl rw_0.2))]
set_option maxHeartbeats 4000000 in
set_option maxRecDepth 100000 in
/-- Row(3000) -/
theorem k_X5_init_3000 (l : Launch) (D : va_G) (k : Nat → ClassId) (h : Nat)  : ct_v l D (TY k) yX5_init wsX5_init ({ frames := 1, cells := 1, slots := 3000, locals := 21 } : Room) [.ref h, .int 3000] [(h, .inr (5, [.null, .int 0]))] (po_X5_init_3000 k h) := by
  refine ct_v_of (cc := cX5_init) (nL := 2) (rt := none) (by decide) rfl (Nat.le_of_ble_eq_true rfl) ?_
  intro p_ e_ s_0 m_0 below_ meth_ c_0 A_0 C_0 hP hK hD hS hA ls hl
  obtain ⟨hx_, hb_, hml_, hr_, hown_, hlk_, hnm_, hts_⟩ := id C_0
  have hl : lv_has ls 2 [(0, .ref h), (1, .int 3000)] := hl
  refine lv_aload_n hx_ hb_ dX5_init_0 rfl (lv_at hl 0 rfl) ?_
  refine W.objInit hx_ hb_ hown_ (hts_ _ (List.mem_cons_of_mem _ wa_m_X5_3)) (hts_ _ (List.mem_cons_of_mem _ wa_y_Object)) (hts_ _ (List.mem_cons_of_mem _ wa_k_Object)) rfl (by rw [hml_]; exact hl.1) rfl dX5_init_1 (Nat.le_of_ble_eq_true rfl) (Nat.le_of_ble_eq_true rfl) ?_
  refine W.eq (g2 := F0 m_0 4 ls []) rfl ?_
  refine lv_aload_n hx_ hb_ dX5_init_4 rfl (lv_at hl 0 rfl) ?_
  refine lv_iconst (v := 0) hx_ hb_ dX5_init_5 (by decide) ?_
  refine lv_iload_n hx_ hb_ dX5_init_6 rfl (lv_at hl 1 rfl) ?_
  refine va_mmax hx_ hb_ (hml_.trans hl.1.symm) hown_ (hts_ _ (List.mem_cons_of_mem _ wa_m_X5_9)) (hts_ _ (List.mem_cons_of_mem _ wa_t_max)) (hts_ _ (List.mem_cons_of_mem _ wa_i_Math)) (hts_ _ (List.mem_cons_of_mem _ wa_k_max)) (Nat.le_of_ble_eq_true rfl) (Nat.le_of_ble_eq_true rfl) (Nat.le_of_ble_eq_true rfl) (Nat.le_of_ble_eq_true rfl) dX5_init_7 ?_
  refine lv_ti (y := 3000) (by decide) ?_
  refine ct_newa (atype := .int) (a0 := (3000, .inl (fun _ => 0))) (ty := .int) hx_ hb_ (hts_ _ (List.mem_cons_of_mem _ wa_a_int)) rfl (fun _ h9 => h9) hK 0 rfl hP hD hS hA (fun _ => rfl) (by decide) (by decide) (by decide) (Nat.le_of_ble_eq_true rfl) (Nat.le_of_ble_eq_true rfl) dX5_init_10 (fun q1 H hP hD hS => ?_)
  have hP : va_P D vwCl [(h, .inr (5, [.null, .int 0])), (q1, .inl (k 0, 3000, .inl (fun _ => 0)))] H := hP
  have hD : va_D A_0 [(h, .inr (5, [.null, .int 0])), (q1, .inl (k 0, 3000, .inl (fun _ => 0)))] := hD
  refine W.cs (cells' := 1) (slots' := 3000) rfl rfl ?_
  refine va_putF (D := D) (ci := 5) (v := .ref q1) (ty := (.array .int)) (C := RX5) (T := TX5) (N := 2) hx_ hb_ hts_ inM_X5 tyX5 tyX5_ok nmX5 hown_ hK.1 hP hD hS 0 rfl rfl 0 (by decide) (hts_ _ (List.mem_cons_of_mem _ wa_f_X5_15)) (fun _ h9 => h9) rfl hnm_ rfl (by decide +kernel) rfl rfl (Nat.le_of_ble_eq_true rfl) dX5_init_12 (fun H locs hP hD hS => ?_)
  have hP : va_P D vwCl [(h, .inr (5, [.ref q1, .int 0])), (q1, .inl (k 0, 3000, .inl (fun _ => 0)))] H := hP
  have hD : va_D A_0 [(h, .inr (5, [.ref q1, .int 0])), (q1, .inl (k 0, 3000, .inl (fun _ => 0)))] := hD
  refine lv_aload_n hx_ hb_ dX5_init_15 rfl (lv_at hl 0 rfl) ?_
  refine lv_iconst (v := 0) hx_ hb_ dX5_init_16 (by decide) ?_
  refine va_put (D := D) (ci := 5) (v := .int 0) (ty := .int) (C := RX5) (T := TX5) (N := 2) hx_ hb_ hts_ inM_X5 tyX5 tyX5_ok nmX5 hown_ hK.1 hP hD hS 0 rfl rfl 1 (by decide) (hts_ _ (List.mem_cons_of_mem _ wa_f_X5_21)) (fun _ h9 => h9) rfl (by decide +kernel) rfl rfl (Nat.le_of_ble_eq_true rfl) dX5_init_17 (fun H locs hP hD hS => ?_)
  have hP : va_P D vwCl [(h, .inr (5, [.ref q1, .int 0])), (q1, .inl (k 0, 3000, .inl (fun _ => 0)))] H := hP
  have hD : va_D A_0 [(h, .inr (5, [.ref q1, .int 0])), (q1, .inl (k 0, 3000, .inl (fun _ => 0)))] := hD
  have eq1 : (0 : Int32) = nI (rw_0.1) := by rfl
  have eq2 : ((fun _ => 0) : Nat → Int32) = rw_0.2 := by rfl
  exact ct_vret C_0 (hP.sub [0, 1] rfl) (hD.sub [0, 1] (by decide) rfl) hS (Nat.le_of_ble_eq_true rfl) (Nat.le_of_ble_eq_true rfl) dX5_init_20 (⟨q1, congr (congrArg (fun (z1 : Int32) (z2 : Nat → Int32) => ([(h, .inr (5, [.ref q1, .int z1])), (q1, .inl (k 0, 3000, .inl z2))] : va_W)) eq1) eq2⟩)
abbrev po_X5_init_1000 (k : Nat → ClassId) (h : Nat) : va_W → Prop := fun w1 => ∃ (a : Nat), w1 = [(h, .inr (5, [.ref a, .int (nI (rw_0.1))])), (a, .inl (k 0, 1000, .inl rw_0.2))]
set_option maxHeartbeats 4000000 in
set_option maxRecDepth 100000 in
/-- Row(1000) -/
theorem k_X5_init_1000 (l : Launch) (D : va_G) (k : Nat → ClassId) (h : Nat)  : ct_v l D (TY k) yX5_init wsX5_init ({ frames := 1, cells := 1, slots := 1000, locals := 21 } : Room) [.ref h, .int 1000] [(h, .inr (5, [.null, .int 0]))] (po_X5_init_1000 k h) := by
  refine ct_v_of (cc := cX5_init) (nL := 2) (rt := none) (by decide) rfl (Nat.le_of_ble_eq_true rfl) ?_
  intro p_ e_ s_0 m_0 below_ meth_ c_0 A_0 C_0 hP hK hD hS hA ls hl
  obtain ⟨hx_, hb_, hml_, hr_, hown_, hlk_, hnm_, hts_⟩ := id C_0
  have hl : lv_has ls 2 [(0, .ref h), (1, .int 1000)] := hl
  refine lv_aload_n hx_ hb_ dX5_init_0 rfl (lv_at hl 0 rfl) ?_
  refine W.objInit hx_ hb_ hown_ (hts_ _ (List.mem_cons_of_mem _ wa_m_X5_3)) (hts_ _ (List.mem_cons_of_mem _ wa_y_Object)) (hts_ _ (List.mem_cons_of_mem _ wa_k_Object)) rfl (by rw [hml_]; exact hl.1) rfl dX5_init_1 (Nat.le_of_ble_eq_true rfl) (Nat.le_of_ble_eq_true rfl) ?_
  refine W.eq (g2 := F0 m_0 4 ls []) rfl ?_
  refine lv_aload_n hx_ hb_ dX5_init_4 rfl (lv_at hl 0 rfl) ?_
  refine lv_iconst (v := 0) hx_ hb_ dX5_init_5 (by decide) ?_
  refine lv_iload_n hx_ hb_ dX5_init_6 rfl (lv_at hl 1 rfl) ?_
  refine va_mmax hx_ hb_ (hml_.trans hl.1.symm) hown_ (hts_ _ (List.mem_cons_of_mem _ wa_m_X5_9)) (hts_ _ (List.mem_cons_of_mem _ wa_t_max)) (hts_ _ (List.mem_cons_of_mem _ wa_i_Math)) (hts_ _ (List.mem_cons_of_mem _ wa_k_max)) (Nat.le_of_ble_eq_true rfl) (Nat.le_of_ble_eq_true rfl) (Nat.le_of_ble_eq_true rfl) (Nat.le_of_ble_eq_true rfl) dX5_init_7 ?_
  refine lv_ti (y := 1000) (by decide) ?_
  refine ct_newa (atype := .int) (a0 := (1000, .inl (fun _ => 0))) (ty := .int) hx_ hb_ (hts_ _ (List.mem_cons_of_mem _ wa_a_int)) rfl (fun _ h9 => h9) hK 0 rfl hP hD hS hA (fun _ => rfl) (by decide) (by decide) (by decide) (Nat.le_of_ble_eq_true rfl) (Nat.le_of_ble_eq_true rfl) dX5_init_10 (fun q1 H hP hD hS => ?_)
  have hP : va_P D vwCl [(h, .inr (5, [.null, .int 0])), (q1, .inl (k 0, 1000, .inl (fun _ => 0)))] H := hP
  have hD : va_D A_0 [(h, .inr (5, [.null, .int 0])), (q1, .inl (k 0, 1000, .inl (fun _ => 0)))] := hD
  refine W.cs (cells' := 1) (slots' := 1000) rfl rfl ?_
  refine va_putF (D := D) (ci := 5) (v := .ref q1) (ty := (.array .int)) (C := RX5) (T := TX5) (N := 2) hx_ hb_ hts_ inM_X5 tyX5 tyX5_ok nmX5 hown_ hK.1 hP hD hS 0 rfl rfl 0 (by decide) (hts_ _ (List.mem_cons_of_mem _ wa_f_X5_15)) (fun _ h9 => h9) rfl hnm_ rfl (by decide +kernel) rfl rfl (Nat.le_of_ble_eq_true rfl) dX5_init_12 (fun H locs hP hD hS => ?_)
  have hP : va_P D vwCl [(h, .inr (5, [.ref q1, .int 0])), (q1, .inl (k 0, 1000, .inl (fun _ => 0)))] H := hP
  have hD : va_D A_0 [(h, .inr (5, [.ref q1, .int 0])), (q1, .inl (k 0, 1000, .inl (fun _ => 0)))] := hD
  refine lv_aload_n hx_ hb_ dX5_init_15 rfl (lv_at hl 0 rfl) ?_
  refine lv_iconst (v := 0) hx_ hb_ dX5_init_16 (by decide) ?_
  refine va_put (D := D) (ci := 5) (v := .int 0) (ty := .int) (C := RX5) (T := TX5) (N := 2) hx_ hb_ hts_ inM_X5 tyX5 tyX5_ok nmX5 hown_ hK.1 hP hD hS 0 rfl rfl 1 (by decide) (hts_ _ (List.mem_cons_of_mem _ wa_f_X5_21)) (fun _ h9 => h9) rfl (by decide +kernel) rfl rfl (Nat.le_of_ble_eq_true rfl) dX5_init_17 (fun H locs hP hD hS => ?_)
  have hP : va_P D vwCl [(h, .inr (5, [.ref q1, .int 0])), (q1, .inl (k 0, 1000, .inl (fun _ => 0)))] H := hP
  have hD : va_D A_0 [(h, .inr (5, [.ref q1, .int 0])), (q1, .inl (k 0, 1000, .inl (fun _ => 0)))] := hD
  have eq1 : (0 : Int32) = nI (rw_0.1) := by rfl
  have eq2 : ((fun _ => 0) : Nat → Int32) = rw_0.2 := by rfl
  exact ct_vret C_0 (hP.sub [0, 1] rfl) (hD.sub [0, 1] (by decide) rfl) hS (Nat.le_of_ble_eq_true rfl) (Nat.le_of_ble_eq_true rfl) dX5_init_20 (⟨q1, congr (congrArg (fun (z1 : Int32) (z2 : Nat → Int32) => ([(h, .inr (5, [.ref q1, .int z1])), (q1, .inl (k 0, 1000, .inl z2))] : va_W)) eq1) eq2⟩)
abbrev po_X5_init_96 (k : Nat → ClassId) (h : Nat) : va_W → Prop := fun w1 => ∃ (a : Nat), w1 = [(h, .inr (5, [.ref a, .int (nI (rw_0.1))])), (a, .inl (k 0, 96, .inl rw_0.2))]
set_option maxHeartbeats 4000000 in
set_option maxRecDepth 100000 in
/-- Row(96) -/
theorem k_X5_init_96 (l : Launch) (D : va_G) (k : Nat → ClassId) (h : Nat)  : ct_v l D (TY k) yX5_init wsX5_init ({ frames := 1, cells := 1, slots := 96, locals := 21 } : Room) [.ref h, .int 96] [(h, .inr (5, [.null, .int 0]))] (po_X5_init_96 k h) := by
  refine ct_v_of (cc := cX5_init) (nL := 2) (rt := none) (by decide) rfl (Nat.le_of_ble_eq_true rfl) ?_
  intro p_ e_ s_0 m_0 below_ meth_ c_0 A_0 C_0 hP hK hD hS hA ls hl
  obtain ⟨hx_, hb_, hml_, hr_, hown_, hlk_, hnm_, hts_⟩ := id C_0
  have hl : lv_has ls 2 [(0, .ref h), (1, .int 96)] := hl
  refine lv_aload_n hx_ hb_ dX5_init_0 rfl (lv_at hl 0 rfl) ?_
  refine W.objInit hx_ hb_ hown_ (hts_ _ (List.mem_cons_of_mem _ wa_m_X5_3)) (hts_ _ (List.mem_cons_of_mem _ wa_y_Object)) (hts_ _ (List.mem_cons_of_mem _ wa_k_Object)) rfl (by rw [hml_]; exact hl.1) rfl dX5_init_1 (Nat.le_of_ble_eq_true rfl) (Nat.le_of_ble_eq_true rfl) ?_
  refine W.eq (g2 := F0 m_0 4 ls []) rfl ?_
  refine lv_aload_n hx_ hb_ dX5_init_4 rfl (lv_at hl 0 rfl) ?_
  refine lv_iconst (v := 0) hx_ hb_ dX5_init_5 (by decide) ?_
  refine lv_iload_n hx_ hb_ dX5_init_6 rfl (lv_at hl 1 rfl) ?_
  refine va_mmax hx_ hb_ (hml_.trans hl.1.symm) hown_ (hts_ _ (List.mem_cons_of_mem _ wa_m_X5_9)) (hts_ _ (List.mem_cons_of_mem _ wa_t_max)) (hts_ _ (List.mem_cons_of_mem _ wa_i_Math)) (hts_ _ (List.mem_cons_of_mem _ wa_k_max)) (Nat.le_of_ble_eq_true rfl) (Nat.le_of_ble_eq_true rfl) (Nat.le_of_ble_eq_true rfl) (Nat.le_of_ble_eq_true rfl) dX5_init_7 ?_
  refine lv_ti (y := 96) (by decide) ?_
  refine ct_newa (atype := .int) (a0 := (96, .inl (fun _ => 0))) (ty := .int) hx_ hb_ (hts_ _ (List.mem_cons_of_mem _ wa_a_int)) rfl (fun _ h9 => h9) hK 0 rfl hP hD hS hA (fun _ => rfl) (by decide) (by decide) (by decide) (Nat.le_of_ble_eq_true rfl) (Nat.le_of_ble_eq_true rfl) dX5_init_10 (fun q1 H hP hD hS => ?_)
  have hP : va_P D vwCl [(h, .inr (5, [.null, .int 0])), (q1, .inl (k 0, 96, .inl (fun _ => 0)))] H := hP
  have hD : va_D A_0 [(h, .inr (5, [.null, .int 0])), (q1, .inl (k 0, 96, .inl (fun _ => 0)))] := hD
  refine W.cs (cells' := 1) (slots' := 96) rfl rfl ?_
  refine va_putF (D := D) (ci := 5) (v := .ref q1) (ty := (.array .int)) (C := RX5) (T := TX5) (N := 2) hx_ hb_ hts_ inM_X5 tyX5 tyX5_ok nmX5 hown_ hK.1 hP hD hS 0 rfl rfl 0 (by decide) (hts_ _ (List.mem_cons_of_mem _ wa_f_X5_15)) (fun _ h9 => h9) rfl hnm_ rfl (by decide +kernel) rfl rfl (Nat.le_of_ble_eq_true rfl) dX5_init_12 (fun H locs hP hD hS => ?_)
  have hP : va_P D vwCl [(h, .inr (5, [.ref q1, .int 0])), (q1, .inl (k 0, 96, .inl (fun _ => 0)))] H := hP
  have hD : va_D A_0 [(h, .inr (5, [.ref q1, .int 0])), (q1, .inl (k 0, 96, .inl (fun _ => 0)))] := hD
  refine lv_aload_n hx_ hb_ dX5_init_15 rfl (lv_at hl 0 rfl) ?_
  refine lv_iconst (v := 0) hx_ hb_ dX5_init_16 (by decide) ?_
  refine va_put (D := D) (ci := 5) (v := .int 0) (ty := .int) (C := RX5) (T := TX5) (N := 2) hx_ hb_ hts_ inM_X5 tyX5 tyX5_ok nmX5 hown_ hK.1 hP hD hS 0 rfl rfl 1 (by decide) (hts_ _ (List.mem_cons_of_mem _ wa_f_X5_21)) (fun _ h9 => h9) rfl (by decide +kernel) rfl rfl (Nat.le_of_ble_eq_true rfl) dX5_init_17 (fun H locs hP hD hS => ?_)
  have hP : va_P D vwCl [(h, .inr (5, [.ref q1, .int 0])), (q1, .inl (k 0, 96, .inl (fun _ => 0)))] H := hP
  have hD : va_D A_0 [(h, .inr (5, [.ref q1, .int 0])), (q1, .inl (k 0, 96, .inl (fun _ => 0)))] := hD
  have eq1 : (0 : Int32) = nI (rw_0.1) := by rfl
  have eq2 : ((fun _ => 0) : Nat → Int32) = rw_0.2 := by rfl
  exact ct_vret C_0 (hP.sub [0, 1] rfl) (hD.sub [0, 1] (by decide) rfl) hS (Nat.le_of_ble_eq_true rfl) (Nat.le_of_ble_eq_true rfl) dX5_init_20 (⟨q1, congr (congrArg (fun (z1 : Int32) (z2 : Nat → Int32) => ([(h, .inr (5, [.ref q1, .int z1])), (q1, .inl (k 0, 96, .inl z2))] : va_W)) eq1) eq2⟩)
abbrev po_X5_init_4002 (k : Nat → ClassId) (h : Nat) : va_W → Prop := fun w1 => ∃ (a : Nat), w1 = [(h, .inr (5, [.ref a, .int (nI (rw_0.1))])), (a, .inl (k 0, 4002, .inl rw_0.2))]
set_option maxHeartbeats 4000000 in
set_option maxRecDepth 100000 in
/-- Row(4002) -/
theorem k_X5_init_4002 (l : Launch) (D : va_G) (k : Nat → ClassId) (h : Nat)  : ct_v l D (TY k) yX5_init wsX5_init ({ frames := 1, cells := 1, slots := 4002, locals := 21 } : Room) [.ref h, .int 4002] [(h, .inr (5, [.null, .int 0]))] (po_X5_init_4002 k h) := by
  refine ct_v_of (cc := cX5_init) (nL := 2) (rt := none) (by decide) rfl (Nat.le_of_ble_eq_true rfl) ?_
  intro p_ e_ s_0 m_0 below_ meth_ c_0 A_0 C_0 hP hK hD hS hA ls hl
  obtain ⟨hx_, hb_, hml_, hr_, hown_, hlk_, hnm_, hts_⟩ := id C_0
  have hl : lv_has ls 2 [(0, .ref h), (1, .int 4002)] := hl
  refine lv_aload_n hx_ hb_ dX5_init_0 rfl (lv_at hl 0 rfl) ?_
  refine W.objInit hx_ hb_ hown_ (hts_ _ (List.mem_cons_of_mem _ wa_m_X5_3)) (hts_ _ (List.mem_cons_of_mem _ wa_y_Object)) (hts_ _ (List.mem_cons_of_mem _ wa_k_Object)) rfl (by rw [hml_]; exact hl.1) rfl dX5_init_1 (Nat.le_of_ble_eq_true rfl) (Nat.le_of_ble_eq_true rfl) ?_
  refine W.eq (g2 := F0 m_0 4 ls []) rfl ?_
  refine lv_aload_n hx_ hb_ dX5_init_4 rfl (lv_at hl 0 rfl) ?_
  refine lv_iconst (v := 0) hx_ hb_ dX5_init_5 (by decide) ?_
  refine lv_iload_n hx_ hb_ dX5_init_6 rfl (lv_at hl 1 rfl) ?_
  refine va_mmax hx_ hb_ (hml_.trans hl.1.symm) hown_ (hts_ _ (List.mem_cons_of_mem _ wa_m_X5_9)) (hts_ _ (List.mem_cons_of_mem _ wa_t_max)) (hts_ _ (List.mem_cons_of_mem _ wa_i_Math)) (hts_ _ (List.mem_cons_of_mem _ wa_k_max)) (Nat.le_of_ble_eq_true rfl) (Nat.le_of_ble_eq_true rfl) (Nat.le_of_ble_eq_true rfl) (Nat.le_of_ble_eq_true rfl) dX5_init_7 ?_
  refine lv_ti (y := 4002) (by decide) ?_
  refine ct_newa (atype := .int) (a0 := (4002, .inl (fun _ => 0))) (ty := .int) hx_ hb_ (hts_ _ (List.mem_cons_of_mem _ wa_a_int)) rfl (fun _ h9 => h9) hK 0 rfl hP hD hS hA (fun _ => rfl) (by decide) (by decide) (by decide) (Nat.le_of_ble_eq_true rfl) (Nat.le_of_ble_eq_true rfl) dX5_init_10 (fun q1 H hP hD hS => ?_)
  have hP : va_P D vwCl [(h, .inr (5, [.null, .int 0])), (q1, .inl (k 0, 4002, .inl (fun _ => 0)))] H := hP
  have hD : va_D A_0 [(h, .inr (5, [.null, .int 0])), (q1, .inl (k 0, 4002, .inl (fun _ => 0)))] := hD
  refine W.cs (cells' := 1) (slots' := 4002) rfl rfl ?_
  refine va_putF (D := D) (ci := 5) (v := .ref q1) (ty := (.array .int)) (C := RX5) (T := TX5) (N := 2) hx_ hb_ hts_ inM_X5 tyX5 tyX5_ok nmX5 hown_ hK.1 hP hD hS 0 rfl rfl 0 (by decide) (hts_ _ (List.mem_cons_of_mem _ wa_f_X5_15)) (fun _ h9 => h9) rfl hnm_ rfl (by decide +kernel) rfl rfl (Nat.le_of_ble_eq_true rfl) dX5_init_12 (fun H locs hP hD hS => ?_)
  have hP : va_P D vwCl [(h, .inr (5, [.ref q1, .int 0])), (q1, .inl (k 0, 4002, .inl (fun _ => 0)))] H := hP
  have hD : va_D A_0 [(h, .inr (5, [.ref q1, .int 0])), (q1, .inl (k 0, 4002, .inl (fun _ => 0)))] := hD
  refine lv_aload_n hx_ hb_ dX5_init_15 rfl (lv_at hl 0 rfl) ?_
  refine lv_iconst (v := 0) hx_ hb_ dX5_init_16 (by decide) ?_
  refine va_put (D := D) (ci := 5) (v := .int 0) (ty := .int) (C := RX5) (T := TX5) (N := 2) hx_ hb_ hts_ inM_X5 tyX5 tyX5_ok nmX5 hown_ hK.1 hP hD hS 0 rfl rfl 1 (by decide) (hts_ _ (List.mem_cons_of_mem _ wa_f_X5_21)) (fun _ h9 => h9) rfl (by decide +kernel) rfl rfl (Nat.le_of_ble_eq_true rfl) dX5_init_17 (fun H locs hP hD hS => ?_)
  have hP : va_P D vwCl [(h, .inr (5, [.ref q1, .int 0])), (q1, .inl (k 0, 4002, .inl (fun _ => 0)))] H := hP
  have hD : va_D A_0 [(h, .inr (5, [.ref q1, .int 0])), (q1, .inl (k 0, 4002, .inl (fun _ => 0)))] := hD
  have eq1 : (0 : Int32) = nI (rw_0.1) := by rfl
  have eq2 : ((fun _ => 0) : Nat → Int32) = rw_0.2 := by rfl
  exact ct_vret C_0 (hP.sub [0, 1] rfl) (hD.sub [0, 1] (by decide) rfl) hS (Nat.le_of_ble_eq_true rfl) (Nat.le_of_ble_eq_true rfl) dX5_init_20 (⟨q1, congr (congrArg (fun (z1 : Int32) (z2 : Nat → Int32) => ([(h, .inr (5, [.ref q1, .int z1])), (q1, .inl (k 0, 4002, .inl z2))] : va_W)) eq1) eq2⟩)
abbrev po_X5_init_4 (k : Nat → ClassId) (h : Nat) : va_W → Prop := fun w1 => ∃ (a : Nat), w1 = [(h, .inr (5, [.ref a, .int (nI (rw_0.1))])), (a, .inl (k 0, 4, .inl rw_0.2))]
set_option maxHeartbeats 4000000 in
set_option maxRecDepth 100000 in
/-- Row(4) -/
theorem k_X5_init_4 (l : Launch) (D : va_G) (k : Nat → ClassId) (h : Nat)  : ct_v l D (TY k) yX5_init wsX5_init ({ frames := 1, cells := 1, slots := 4, locals := 21 } : Room) [.ref h, .int 4] [(h, .inr (5, [.null, .int 0]))] (po_X5_init_4 k h) := by
  refine ct_v_of (cc := cX5_init) (nL := 2) (rt := none) (by decide) rfl (Nat.le_of_ble_eq_true rfl) ?_
  intro p_ e_ s_0 m_0 below_ meth_ c_0 A_0 C_0 hP hK hD hS hA ls hl
  obtain ⟨hx_, hb_, hml_, hr_, hown_, hlk_, hnm_, hts_⟩ := id C_0
  have hl : lv_has ls 2 [(0, .ref h), (1, .int 4)] := hl
  refine lv_aload_n hx_ hb_ dX5_init_0 rfl (lv_at hl 0 rfl) ?_
  refine W.objInit hx_ hb_ hown_ (hts_ _ (List.mem_cons_of_mem _ wa_m_X5_3)) (hts_ _ (List.mem_cons_of_mem _ wa_y_Object)) (hts_ _ (List.mem_cons_of_mem _ wa_k_Object)) rfl (by rw [hml_]; exact hl.1) rfl dX5_init_1 (Nat.le_of_ble_eq_true rfl) (Nat.le_of_ble_eq_true rfl) ?_
  refine W.eq (g2 := F0 m_0 4 ls []) rfl ?_
  refine lv_aload_n hx_ hb_ dX5_init_4 rfl (lv_at hl 0 rfl) ?_
  refine lv_iconst (v := 0) hx_ hb_ dX5_init_5 (by decide) ?_
  refine lv_iload_n hx_ hb_ dX5_init_6 rfl (lv_at hl 1 rfl) ?_
  refine va_mmax hx_ hb_ (hml_.trans hl.1.symm) hown_ (hts_ _ (List.mem_cons_of_mem _ wa_m_X5_9)) (hts_ _ (List.mem_cons_of_mem _ wa_t_max)) (hts_ _ (List.mem_cons_of_mem _ wa_i_Math)) (hts_ _ (List.mem_cons_of_mem _ wa_k_max)) (Nat.le_of_ble_eq_true rfl) (Nat.le_of_ble_eq_true rfl) (Nat.le_of_ble_eq_true rfl) (Nat.le_of_ble_eq_true rfl) dX5_init_7 ?_
  refine lv_ti (y := 4) (by decide) ?_
  refine ct_newa (atype := .int) (a0 := (4, .inl (fun _ => 0))) (ty := .int) hx_ hb_ (hts_ _ (List.mem_cons_of_mem _ wa_a_int)) rfl (fun _ h9 => h9) hK 0 rfl hP hD hS hA (fun _ => rfl) (by decide) (by decide) (by decide) (Nat.le_of_ble_eq_true rfl) (Nat.le_of_ble_eq_true rfl) dX5_init_10 (fun q1 H hP hD hS => ?_)
  have hP : va_P D vwCl [(h, .inr (5, [.null, .int 0])), (q1, .inl (k 0, 4, .inl (fun _ => 0)))] H := hP
  have hD : va_D A_0 [(h, .inr (5, [.null, .int 0])), (q1, .inl (k 0, 4, .inl (fun _ => 0)))] := hD
  refine W.cs (cells' := 1) (slots' := 4) rfl rfl ?_
  refine va_putF (D := D) (ci := 5) (v := .ref q1) (ty := (.array .int)) (C := RX5) (T := TX5) (N := 2) hx_ hb_ hts_ inM_X5 tyX5 tyX5_ok nmX5 hown_ hK.1 hP hD hS 0 rfl rfl 0 (by decide) (hts_ _ (List.mem_cons_of_mem _ wa_f_X5_15)) (fun _ h9 => h9) rfl hnm_ rfl (by decide +kernel) rfl rfl (Nat.le_of_ble_eq_true rfl) dX5_init_12 (fun H locs hP hD hS => ?_)
  have hP : va_P D vwCl [(h, .inr (5, [.ref q1, .int 0])), (q1, .inl (k 0, 4, .inl (fun _ => 0)))] H := hP
  have hD : va_D A_0 [(h, .inr (5, [.ref q1, .int 0])), (q1, .inl (k 0, 4, .inl (fun _ => 0)))] := hD
  refine lv_aload_n hx_ hb_ dX5_init_15 rfl (lv_at hl 0 rfl) ?_
  refine lv_iconst (v := 0) hx_ hb_ dX5_init_16 (by decide) ?_
  refine va_put (D := D) (ci := 5) (v := .int 0) (ty := .int) (C := RX5) (T := TX5) (N := 2) hx_ hb_ hts_ inM_X5 tyX5 tyX5_ok nmX5 hown_ hK.1 hP hD hS 0 rfl rfl 1 (by decide) (hts_ _ (List.mem_cons_of_mem _ wa_f_X5_21)) (fun _ h9 => h9) rfl (by decide +kernel) rfl rfl (Nat.le_of_ble_eq_true rfl) dX5_init_17 (fun H locs hP hD hS => ?_)
  have hP : va_P D vwCl [(h, .inr (5, [.ref q1, .int 0])), (q1, .inl (k 0, 4, .inl (fun _ => 0)))] H := hP
  have hD : va_D A_0 [(h, .inr (5, [.ref q1, .int 0])), (q1, .inl (k 0, 4, .inl (fun _ => 0)))] := hD
  have eq1 : (0 : Int32) = nI (rw_0.1) := by rfl
  have eq2 : ((fun _ => 0) : Nat → Int32) = rw_0.2 := by rfl
  exact ct_vret C_0 (hP.sub [0, 1] rfl) (hD.sub [0, 1] (by decide) rfl) hS (Nat.le_of_ble_eq_true rfl) (Nat.le_of_ble_eq_true rfl) dX5_init_20 (⟨q1, congr (congrArg (fun (z1 : Int32) (z2 : Nat → Int32) => ([(h, .inr (5, [.ref q1, .int z1])), (q1, .inl (k 0, 4, .inl z2))] : va_W)) eq1) eq2⟩)
abbrev po_X5_init_12 (k : Nat → ClassId) (h : Nat) : va_W → Prop := fun w1 => ∃ (a : Nat), w1 = [(h, .inr (5, [.ref a, .int (nI (rw_0.1))])), (a, .inl (k 0, 12, .inl rw_0.2))]
set_option maxHeartbeats 4000000 in
set_option maxRecDepth 100000 in
/-- Row(12) -/
theorem k_X5_init_12 (l : Launch) (D : va_G) (k : Nat → ClassId) (h : Nat)  : ct_v l D (TY k) yX5_init wsX5_init ({ frames := 1, cells := 1, slots := 12, locals := 21 } : Room) [.ref h, .int 12] [(h, .inr (5, [.null, .int 0]))] (po_X5_init_12 k h) := by
  refine ct_v_of (cc := cX5_init) (nL := 2) (rt := none) (by decide) rfl (Nat.le_of_ble_eq_true rfl) ?_
  intro p_ e_ s_0 m_0 below_ meth_ c_0 A_0 C_0 hP hK hD hS hA ls hl
  obtain ⟨hx_, hb_, hml_, hr_, hown_, hlk_, hnm_, hts_⟩ := id C_0
  have hl : lv_has ls 2 [(0, .ref h), (1, .int 12)] := hl
  refine lv_aload_n hx_ hb_ dX5_init_0 rfl (lv_at hl 0 rfl) ?_
  refine W.objInit hx_ hb_ hown_ (hts_ _ (List.mem_cons_of_mem _ wa_m_X5_3)) (hts_ _ (List.mem_cons_of_mem _ wa_y_Object)) (hts_ _ (List.mem_cons_of_mem _ wa_k_Object)) rfl (by rw [hml_]; exact hl.1) rfl dX5_init_1 (Nat.le_of_ble_eq_true rfl) (Nat.le_of_ble_eq_true rfl) ?_
  refine W.eq (g2 := F0 m_0 4 ls []) rfl ?_
  refine lv_aload_n hx_ hb_ dX5_init_4 rfl (lv_at hl 0 rfl) ?_
  refine lv_iconst (v := 0) hx_ hb_ dX5_init_5 (by decide) ?_
  refine lv_iload_n hx_ hb_ dX5_init_6 rfl (lv_at hl 1 rfl) ?_
  refine va_mmax hx_ hb_ (hml_.trans hl.1.symm) hown_ (hts_ _ (List.mem_cons_of_mem _ wa_m_X5_9)) (hts_ _ (List.mem_cons_of_mem _ wa_t_max)) (hts_ _ (List.mem_cons_of_mem _ wa_i_Math)) (hts_ _ (List.mem_cons_of_mem _ wa_k_max)) (Nat.le_of_ble_eq_true rfl) (Nat.le_of_ble_eq_true rfl) (Nat.le_of_ble_eq_true rfl) (Nat.le_of_ble_eq_true rfl) dX5_init_7 ?_
  refine lv_ti (y := 12) (by decide) ?_
  refine ct_newa (atype := .int) (a0 := (12, .inl (fun _ => 0))) (ty := .int) hx_ hb_ (hts_ _ (List.mem_cons_of_mem _ wa_a_int)) rfl (fun _ h9 => h9) hK 0 rfl hP hD hS hA (fun _ => rfl) (by decide) (by decide) (by decide) (Nat.le_of_ble_eq_true rfl) (Nat.le_of_ble_eq_true rfl) dX5_init_10 (fun q1 H hP hD hS => ?_)
  have hP : va_P D vwCl [(h, .inr (5, [.null, .int 0])), (q1, .inl (k 0, 12, .inl (fun _ => 0)))] H := hP
  have hD : va_D A_0 [(h, .inr (5, [.null, .int 0])), (q1, .inl (k 0, 12, .inl (fun _ => 0)))] := hD
  refine W.cs (cells' := 1) (slots' := 12) rfl rfl ?_
  refine va_putF (D := D) (ci := 5) (v := .ref q1) (ty := (.array .int)) (C := RX5) (T := TX5) (N := 2) hx_ hb_ hts_ inM_X5 tyX5 tyX5_ok nmX5 hown_ hK.1 hP hD hS 0 rfl rfl 0 (by decide) (hts_ _ (List.mem_cons_of_mem _ wa_f_X5_15)) (fun _ h9 => h9) rfl hnm_ rfl (by decide +kernel) rfl rfl (Nat.le_of_ble_eq_true rfl) dX5_init_12 (fun H locs hP hD hS => ?_)
  have hP : va_P D vwCl [(h, .inr (5, [.ref q1, .int 0])), (q1, .inl (k 0, 12, .inl (fun _ => 0)))] H := hP
  have hD : va_D A_0 [(h, .inr (5, [.ref q1, .int 0])), (q1, .inl (k 0, 12, .inl (fun _ => 0)))] := hD
  refine lv_aload_n hx_ hb_ dX5_init_15 rfl (lv_at hl 0 rfl) ?_
  refine lv_iconst (v := 0) hx_ hb_ dX5_init_16 (by decide) ?_
  refine va_put (D := D) (ci := 5) (v := .int 0) (ty := .int) (C := RX5) (T := TX5) (N := 2) hx_ hb_ hts_ inM_X5 tyX5 tyX5_ok nmX5 hown_ hK.1 hP hD hS 0 rfl rfl 1 (by decide) (hts_ _ (List.mem_cons_of_mem _ wa_f_X5_21)) (fun _ h9 => h9) rfl (by decide +kernel) rfl rfl (Nat.le_of_ble_eq_true rfl) dX5_init_17 (fun H locs hP hD hS => ?_)
  have hP : va_P D vwCl [(h, .inr (5, [.ref q1, .int 0])), (q1, .inl (k 0, 12, .inl (fun _ => 0)))] H := hP
  have hD : va_D A_0 [(h, .inr (5, [.ref q1, .int 0])), (q1, .inl (k 0, 12, .inl (fun _ => 0)))] := hD
  have eq1 : (0 : Int32) = nI (rw_0.1) := by rfl
  have eq2 : ((fun _ => 0) : Nat → Int32) = rw_0.2 := by rfl
  exact ct_vret C_0 (hP.sub [0, 1] rfl) (hD.sub [0, 1] (by decide) rfl) hS (Nat.le_of_ble_eq_true rfl) (Nat.le_of_ble_eq_true rfl) dX5_init_20 (⟨q1, congr (congrArg (fun (z1 : Int32) (z2 : Nat → Int32) => ([(h, .inr (5, [.ref q1, .int z1])), (q1, .inl (k 0, 12, .inl z2))] : va_W)) eq1) eq2⟩)
