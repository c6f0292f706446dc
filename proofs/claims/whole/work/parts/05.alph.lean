abbrev po_X1_isLetter (k : Nat → ClassId) (A1 : Int32) (M1 : Int32) : Int32 → va_W → Prop := fun ans_ w1 => ans_ = al_is A1 M1 ∧ w1 = []
set_option maxHeartbeats 4000000 in
set_option maxRecDepth 100000 in
/-- isLetter -/
theorem k_X1_isLetter (l : Launch) (D : va_G) (k : Nat → ClassId) (A1 : Int32) (M1 : Int32)  : ct_i l D (TY k) yX1_isLetter wsX1_isLetter ({ frames := 0, cells := 0, slots := 0, locals := 0 } : Room) [.int A1, .int M1] [] (po_X1_isLetter k A1 M1) := by
  refine ct_i_of (cc := cX1_isLetter) (nL := 2) (rt := (some .boolean)) (by decide) rfl (Nat.le_of_ble_eq_true rfl) ?_
  intro p_ e_ s_0 m_0 below_ meth_ c_0 A_0 C_0 hP hK hD hS hA ls hl
  obtain ⟨hx_, hb_, hml_, hr_, hown_, hlk_, hnm_, hts_⟩ := id C_0
  have hl : lv_has ls 2 [(0, .int A1), (1, .int M1)] := hl
  refine lv_iload_n hx_ hb_ dX1_isLetter_0 rfl (lv_at hl 0 rfl) ?_
  refine lv_if_lt (tgt := 25) hx_ hb_ dX1_isLetter_1 (by decide) (fun cc1 => ?_) (fun cc1 => ?_)
  · skip
    refine lv_iconst (v := 0) hx_ hb_ dX1_isLetter_25 (by decide) ?_
    have eqr : (0 : Int32) = al_is A1 M1 := by simp [al_is, eq_true cc1]
    exact ct_zret C_0 (rfl) (hP.sub [] rfl) (hD.sub [] (by decide) rfl) hS (Nat.le_of_ble_eq_true rfl) (Nat.le_of_ble_eq_true rfl) dX1_isLetter_26 (⟨eqr, rfl⟩)
  · skip
    refine lv_iload_n hx_ hb_ dX1_isLetter_4 rfl (lv_at hl 0 rfl) ?_
    refine lv_iconst (v := 2) hx_ hb_ dX1_isLetter_5 (by decide) ?_
    refine lv_icmp_gt (tgt := 25) hx_ hb_ dX1_isLetter_6 (by decide) (fun cc2 => ?_) (fun cc2 => ?_)
    · skip
      refine lv_iconst (v := 0) hx_ hb_ dX1_isLetter_25 (by decide) ?_
      have eqr : (0 : Int32) = al_is A1 M1 := by simp [al_is, eq_false cc1, eq_true cc2]
      exact ct_zret C_0 (rfl) (hP.sub [] rfl) (hD.sub [] (by decide) rfl) hS (Nat.le_of_ble_eq_true rfl) (Nat.le_of_ble_eq_true rfl) dX1_isLetter_26 (⟨eqr, rfl⟩)
    · skip
      refine lv_iload_n hx_ hb_ dX1_isLetter_9 rfl (lv_at hl 1 rfl) ?_
      refine lv_bipush (v := 6) hx_ hb_ dX1_isLetter_10 (by decide) ?_
      refine lv_icmp_lt (tgt := 25) hx_ hb_ dX1_isLetter_12 (by decide) (fun cc3 => ?_) (fun cc3 => ?_)
      · skip
        refine lv_iconst (v := 0) hx_ hb_ dX1_isLetter_25 (by decide) ?_
        have eqr : (0 : Int32) = al_is A1 M1 := by simp [al_is, eq_false cc1, eq_false cc2, eq_true cc3]
        exact ct_zret C_0 (rfl) (hP.sub [] rfl) (hD.sub [] (by decide) rfl) hS (Nat.le_of_ble_eq_true rfl) (Nat.le_of_ble_eq_true rfl) dX1_isLetter_26 (⟨eqr, rfl⟩)
      · skip
        refine lv_iload_n hx_ hb_ dX1_isLetter_15 rfl (lv_at hl 1 rfl) ?_
        refine lv_bipush (v := 31) hx_ hb_ dX1_isLetter_16 (by decide) ?_
        refine lv_icmp_gt (tgt := 25) hx_ hb_ dX1_isLetter_18 (by decide) (fun cc4 => ?_) (fun cc4 => ?_)
        · skip
          refine lv_iconst (v := 0) hx_ hb_ dX1_isLetter_25 (by decide) ?_
          have eqr : (0 : Int32) = al_is A1 M1 := by simp [al_is, eq_false cc1, eq_false cc2, eq_false cc3, eq_true cc4]
          exact ct_zret C_0 (rfl) (hP.sub [] rfl) (hD.sub [] (by decide) rfl) hS (Nat.le_of_ble_eq_true rfl) (Nat.le_of_ble_eq_true rfl) dX1_isLetter_26 (⟨eqr, rfl⟩)
        · skip
          refine lv_iconst (v := 1) hx_ hb_ dX1_isLetter_21 (by decide) ?_
          refine lv_goto (tgt := 26) hx_ hb_ dX1_isLetter_22 (by decide) ?_
          have eqr : (1 : Int32) = al_is A1 M1 := by simp [al_is, eq_false cc1, eq_false cc2, eq_false cc3, eq_false cc4]
          exact ct_zret C_0 (rfl) (hP.sub [] rfl) (hD.sub [] (by decide) rfl) hS (Nat.le_of_ble_eq_true rfl) (Nat.le_of_ble_eq_true rfl) dX1_isLetter_26 (⟨eqr, rfl⟩)
abbrev po_X1_mayChange (k : Nat → ClassId) (h : Nat) (b : Nat) (v : Int32) (g : Nat → Int32) (A1 : Int32) (M1 : Int32) : Int32 → va_W → Prop := fun ans_ w1 => ans_ = al_may A1 M1 ∧ w1 = [(h, .inr (1, [.int v, .ref b])), (b, .inl (k 0, 78, .inl g))]
set_option maxHeartbeats 4000000 in
set_option maxRecDepth 100000 in
/-- mayChange -/
theorem k_X1_mayChange (l : Launch) (D : va_G) (k : Nat → ClassId) (h : Nat) (b : Nat) (v : Int32) (g : Nat → Int32) (A1 : Int32) (M1 : Int32)  : ct_i l D (TY k) yX1_mayChange wsX1_mayChange ({ frames := 1, cells := 0, slots := 0, locals := 21 } : Room) [.ref h, .int A1, .int M1] [(h, .inr (1, [.int v, .ref b])), (b, .inl (k 0, 78, .inl g))] (po_X1_mayChange k h b v g A1 M1) := by
  refine ct_i_of (cc := cX1_mayChange) (nL := 3) (rt := (some .boolean)) (by decide) rfl (Nat.le_of_ble_eq_true rfl) ?_
  intro p_ e_ s_0 m_0 below_ meth_ c_0 A_0 C_0 hP hK hD hS hA ls hl
  obtain ⟨hx_, hb_, hml_, hr_, hown_, hlk_, hnm_, hts_⟩ := id C_0
  have hl : lv_has ls 3 [(0, .ref h), (1, .int A1), (2, .int M1)] := hl
  refine lv_iload_n hx_ hb_ dX1_mayChange_0 rfl (lv_at hl 1 rfl) ?_
  refine lv_iload_n hx_ hb_ dX1_mayChange_1 rfl (lv_at hl 2 rfl) ?_
  refine ct_Si (wr := [(h, .inr (1, [.int v, .ref b])), (b, .inl (k 0, 78, .inl g))]) (rest := []) (As := [.int A1, .int M1]) ⟨hx_, hb_, hml_, hown_, hts_⟩ (k_X1_isLetter l D k A1 M1 ) (va_cwS 2 hts_ (gd_in (gw_S wa_m_X1_31 wa_t_X1_isLetter wa_i_X1 wa_k_X1_isLetter)) rfl rfl rfl (by decide +kernel) ⟨Nat.le_of_ble_eq_true rfl, Nat.le_of_ble_eq_true rfl⟩) hK hP hD hS hA [] [0, 1] rfl rfl rfl rfl (by decide) hl.1 rfl rfl (Nat.le_of_ble_eq_true rfl) dX1_mayChange_2 ⟨Nat.le_of_ble_eq_true rfl, Nat.le_of_ble_eq_true rfl⟩ (fun rr1 w1 H locs ww2 hP hD hS => ?_)
  obtain ⟨rfl, rfl⟩ := ww2
  have hP : va_P D vwCl [(h, .inr (1, [.int v, .ref b])), (b, .inl (k 0, 78, .inl g))] H := hP
  have hD : va_D A_0 [(h, .inr (1, [.int v, .ref b])), (b, .inl (k 0, 78, .inl g))] := hD
  refine W.cs (cells' := 0) (slots' := 0) rfl rfl ?_
  refine lv_if_eq (tgt := 23) hx_ hb_ dX1_mayChange_5 (by decide) (fun cc3 => ?_) (fun cc3 => ?_)
  · skip
    refine lv_iconst (v := 0) hx_ hb_ dX1_mayChange_23 (by decide) ?_
    have eqr : (0 : Int32) = al_may A1 M1 := by simp [al_may, eq_true cc3]
    exact ct_zret C_0 (rfl) (hP.sub [0, 1] rfl) (hD.sub [0, 1] (by decide) rfl) hS (Nat.le_of_ble_eq_true rfl) (Nat.le_of_ble_eq_true rfl) dX1_mayChange_24 (⟨eqr, rfl⟩)
  · skip
    refine lv_iload_n hx_ hb_ dX1_mayChange_8 rfl (lv_at hl 1 rfl) ?_
    refine lv_iconst (v := 2) hx_ hb_ dX1_mayChange_9 (by decide) ?_
    refine lv_icmp_ne (tgt := 19) hx_ hb_ dX1_mayChange_10 (by decide) (fun cc4 => ?_) (fun cc4 => ?_)
    · skip
      refine lv_iconst (v := 1) hx_ hb_ dX1_mayChange_19 (by decide) ?_
      refine lv_goto (tgt := 24) hx_ hb_ dX1_mayChange_20 (by decide) ?_
      have eqr : (1 : Int32) = al_may A1 M1 := by simp [al_may, eq_false cc3, eq_false cc4]
      exact ct_zret C_0 (rfl) (hP.sub [0, 1] rfl) (hD.sub [0, 1] (by decide) rfl) hS (Nat.le_of_ble_eq_true rfl) (Nat.le_of_ble_eq_true rfl) dX1_mayChange_24 (⟨eqr, rfl⟩)
    · skip
      refine lv_iload_n hx_ hb_ dX1_mayChange_13 rfl (lv_at hl 2 rfl) ?_
      refine lv_bipush (v := 7) hx_ hb_ dX1_mayChange_14 (by decide) ?_
      refine lv_icmp_le (tgt := 23) hx_ hb_ dX1_mayChange_16 (by decide) (fun cc5 => ?_) (fun cc5 => ?_)
      · skip
        refine lv_iconst (v := 0) hx_ hb_ dX1_mayChange_23 (by decide) ?_
        have eqr : (0 : Int32) = al_may A1 M1 := by simp [al_may, eq_false cc3, eq_true cc4, eq_true cc5]
        exact ct_zret C_0 (rfl) (hP.sub [0, 1] rfl) (hD.sub [0, 1] (by decide) rfl) hS (Nat.le_of_ble_eq_true rfl) (Nat.le_of_ble_eq_true rfl) dX1_mayChange_24 (⟨eqr, rfl⟩)
      · skip
        refine lv_iconst (v := 1) hx_ hb_ dX1_mayChange_19 (by decide) ?_
        refine lv_goto (tgt := 24) hx_ hb_ dX1_mayChange_20 (by decide) ?_
        have eqr : (1 : Int32) = al_may A1 M1 := by simp [al_may, eq_false cc3, eq_true cc4, eq_false cc5]
        exact ct_zret C_0 (rfl) (hP.sub [0, 1] rfl) (hD.sub [0, 1] (by decide) rfl) hS (Nat.le_of_ble_eq_true rfl) (Nat.le_of_ble_eq_true rfl) dX1_mayChange_24 (⟨eqr, rfl⟩)
abbrev po_X1_change (k : Nat → ClassId) (h : Nat) (b : Nat) (v : Int32) (g : Nat → Int32) (A1 : Int32) (M1 : Int32) (c1 : Int32) : Int32 → va_W → Prop := fun ans_ w1 => ans_ = al_old g A1 M1 ∧ w1 = [(h, .inr (1, [.int v, .ref b])), (b, .inl (k 0, 78, .inl (al_chg g A1 M1 c1)))]
set_option maxHeartbeats 4000000 in
set_option maxRecDepth 100000 in
/-- change -/
theorem k_X1_change (l : Launch) (D : va_G) (k : Nat → ClassId) (h : Nat) (b : Nat) (v : Int32) (g : Nat → Int32) (A1 : Int32) (M1 : Int32) (c1 : Int32)  : ct_i l D (TY k) yX1_change wsX1_change ({ frames := 2, cells := 0, slots := 0, locals := 43 } : Room) [.ref h, .int A1, .int M1, .int c1] [(h, .inr (1, [.int v, .ref b])), (b, .inl (k 0, 78, .inl g))] (po_X1_change k h b v g A1 M1 c1) := by
  refine ct_i_of (cc := cX1_change) (nL := 6) (rt := (some .int)) (by decide) rfl (Nat.le_of_ble_eq_true rfl) ?_
  intro p_ e_ s_0 m_0 below_ meth_ c_0 A_0 C_0 hP hK hD hS hA ls hl
  obtain ⟨hx_, hb_, hml_, hr_, hown_, hlk_, hnm_, hts_⟩ := id C_0
  have hl : lv_has ls 6 [(0, .ref h), (1, .int A1), (2, .int M1), (3, .int c1)] := hl
  refine lv_aload_n hx_ hb_ dX1_change_0 rfl (lv_at hl 0 rfl) ?_
  refine lv_iload_n hx_ hb_ dX1_change_1 rfl (lv_at hl 1 rfl) ?_
  refine lv_iload_n hx_ hb_ dX1_change_2 rfl (lv_at hl 2 rfl) ?_
  refine ct_Vi (wr := []) (rest := []) (As := [.int A1, .int M1]) ⟨hx_, hb_, hml_, hown_, hts_⟩ (k_X1_mayChange l D k h b v g A1 M1 ) (cwV 2 hts_ (gd_in (gw_V wa_m_X1_35 wa_y_X1_mayChange wa_s_X1_mayChange wa_i_X1 wa_k_X1_mayChange)) rfl rfl rfl (by decide +kernel) ⟨Nat.le_of_ble_eq_true rfl, Nat.le_of_ble_eq_true rfl⟩) hK hP hD hS hA [0, 1] [] rfl rfl rfl rfl (by decide) 1 rfl rfl rfl hl.1 rfl rfl (Nat.le_of_ble_eq_true rfl) dX1_change_3 ⟨Nat.le_of_ble_eq_true rfl, Nat.le_of_ble_eq_true rfl⟩ (fun rr1 w1 H locs ww2 hP hD hS => ?_)
  obtain ⟨rfl, rfl⟩ := ww2
  have hP : va_P D vwCl [(h, .inr (1, [.int v, .ref b])), (b, .inl (k 0, 78, .inl g))] H := hP
  have hD : va_D A_0 [(h, .inr (1, [.int v, .ref b])), (b, .inl (k 0, 78, .inl g))] := hD
  refine W.cs (cells' := 0) (slots' := 0) rfl rfl ?_
  refine lv_if_ne (tgt := 11) hx_ hb_ dX1_change_6 (by decide) (fun cc3 => ?_) (fun cc3 => ?_)
  · skip
    refine lv_bipush (v := 26) hx_ hb_ dX1_change_11 (by decide) ?_
    refine lv_iload_n hx_ hb_ dX1_change_13 rfl (lv_at hl 1 rfl) ?_
    refine lv_imul hx_ hb_ dX1_change_14 ?_
    refine lv_iload_n hx_ hb_ dX1_change_15 rfl (lv_at hl 2 rfl) ?_
    refine lv_iadd hx_ hb_ dX1_change_16 ?_
    refine lv_bipush (v := 6) hx_ hb_ dX1_change_17 (by decide) ?_
    refine lv_isub hx_ hb_ dX1_change_19 ?_
    refine lv_istore (lv' := [(4, .int (((26 * A1) + M1) - 6)), (0, .ref h), (1, .int A1), (2, .int M1), (3, .int c1)]) hx_ hb_ dX1_change_20 hl (by decide) rfl (fun ls hl => ?_)
    refine lv_aload_n hx_ hb_ dX1_change_22 rfl (lv_at hl 1 rfl) ?_
    refine va_get (D := D) (ci := 1) (v := .ref b) (C := RX1) (T := TX1) (N := 2) hx_ hb_ hts_ inM_X1 hown_ hK.1 hP 0 rfl rfl 1 (by decide) (hts_ _ (List.mem_cons_of_mem _ wa_f_X1_15)) (fun _ h9 => h9) rfl dX1_change_23 ?_
    refine lv_iload hx_ hb_ dX1_change_26 (lv_at hl 0 rfl) ?_
    refine va_iald hx_ hb_ hK.1 hP 1 0 rfl rfl (al_is_in (al_may_is cc3)) dX1_change_28 ?_
    refine lv_istore (lv' := [(5, .int (g (Int32.toNatClampNeg (((26 * A1) + M1) - 6)))), (4, .int (((26 * A1) + M1) - 6)), (0, .ref h), (1, .int A1), (2, .int M1), (3, .int c1)]) hx_ hb_ dX1_change_29 hl (by decide) rfl (fun ls hl => ?_)
    refine lv_aload_n hx_ hb_ dX1_change_31 rfl (lv_at hl 2 rfl) ?_
    refine va_get (D := D) (ci := 1) (v := .ref b) (C := RX1) (T := TX1) (N := 2) hx_ hb_ hts_ inM_X1 hown_ hK.1 hP 0 rfl rfl 1 (by decide) (hts_ _ (List.mem_cons_of_mem _ wa_f_X1_15)) (fun _ h9 => h9) rfl dX1_change_32 ?_
    refine lv_iload hx_ hb_ dX1_change_35 (lv_at hl 1 rfl) ?_
    refine lv_iload_n hx_ hb_ dX1_change_37 rfl (lv_at hl 5 rfl) ?_
    refine va_iast hx_ hb_ hK.1 hP hD hS 1 0 rfl rfl (al_is_in (al_may_is cc3)) dX1_change_38 (fun H locs hP hD hS => ?_)
    have hP : va_P D vwCl [(h, .inr (1, [.int v, .ref b])), (b, .inl (k 0, 78, .inl (upd g (Int32.toNatClampNeg (((26 * A1) + M1) - 6)) c1)))] H := hP
    have hD : va_D A_0 [(h, .inr (1, [.int v, .ref b])), (b, .inl (k 0, 78, .inl (upd g (Int32.toNatClampNeg (((26 * A1) + M1) - 6)) c1)))] := hD
    refine lv_iload hx_ hb_ dX1_change_39 (lv_at hl 0 rfl) ?_
    have eq1 : (upd g (Int32.toNatClampNeg (((26 * A1) + M1) - 6)) c1 : Nat → Int32) = al_chg g A1 M1 c1 := by simp [al_old, al_chg, al_ix, eq_false cc3]
    have eqr : (g (Int32.toNatClampNeg (((26 * A1) + M1) - 6)) : Int32) = al_old g A1 M1 := by simp [al_old, al_chg, al_ix, eq_false cc3]
    exact ct_iret C_0 (hP.sub [0, 1] rfl) (hD.sub [0, 1] (by decide) rfl) hS (Nat.le_of_ble_eq_true rfl) (Nat.le_of_ble_eq_true rfl) dX1_change_41 (⟨eqr, congrArg (fun (z1 : Nat → Int32) => ([(h, .inr (1, [.int v, .ref b])), (b, .inl (k 0, 78, .inl z1))] : va_W)) eq1⟩)
  · skip
    refine lv_iconst (v := (-1)) hx_ hb_ dX1_change_9 (by decide) ?_
    have eq1 : (g : Nat → Int32) = al_chg g A1 M1 c1 := by simp [al_old, al_chg, al_ix, eq_true cc3]
    have eqr : ((-1) : Int32) = al_old g A1 M1 := by simp [al_old, al_chg, al_ix, eq_true cc3]
    exact ct_iret C_0 (hP.sub [0, 1] rfl) (hD.sub [0, 1] (by decide) rfl) hS (Nat.le_of_ble_eq_true rfl) (Nat.le_of_ble_eq_true rfl) dX1_change_10 (⟨eqr, congrArg (fun (z1 : Nat → Int32) => ([(h, .inr (1, [.int v, .ref b])), (b, .inl (k 0, 78, .inl z1))] : va_W)) eq1⟩)
abbrev po_X1_letterFor (k : Nat → ClassId) (h : Nat) (b : Nat) (v : Int32) (g : Nat → Int32) (A1 : Int32) (M1 : Int32) : Int32 → va_W → Prop := fun ans_ w1 => ans_ = al_let g A1 M1 ∧ w1 = [(h, .inr (1, [.int v, .ref b])), (b, .inl (k 0, 78, .inl g))]
set_option maxHeartbeats 4000000 in
set_option maxRecDepth 100000 in
/-- letterFor -/
theorem k_X1_letterFor (l : Launch) (D : va_G) (k : Nat → ClassId) (h : Nat) (b : Nat) (v : Int32) (g : Nat → Int32) (A1 : Int32) (M1 : Int32)  : ct_i l D (TY k) yX1_letterFor wsX1_letterFor ({ frames := 0, cells := 0, slots := 0, locals := 0 } : Room) [.ref h, .int A1, .int M1] [(h, .inr (1, [.int v, .ref b])), (b, .inl (k 0, 78, .inl g))] (po_X1_letterFor k h b v g A1 M1) := by
  refine ct_i_of (cc := cX1_letterFor) (nL := 4) (rt := (some .int)) (by decide) rfl (Nat.le_of_ble_eq_true rfl) ?_
  intro p_ e_ s_0 m_0 below_ meth_ c_0 A_0 C_0 hP hK hD hS hA ls hl
  obtain ⟨hx_, hb_, hml_, hr_, hown_, hlk_, hnm_, hts_⟩ := id C_0
  have hl : lv_has ls 4 [(0, .ref h), (1, .int A1), (2, .int M1)] := hl
  refine lv_bipush (v := 26) hx_ hb_ dX1_letterFor_0 (by decide) ?_
  refine lv_iload_n hx_ hb_ dX1_letterFor_2 rfl (lv_at hl 1 rfl) ?_
  refine lv_imul hx_ hb_ dX1_letterFor_3 ?_
  refine lv_iload_n hx_ hb_ dX1_letterFor_4 rfl (lv_at hl 2 rfl) ?_
  refine lv_iadd hx_ hb_ dX1_letterFor_5 ?_
  refine lv_bipush (v := 6) hx_ hb_ dX1_letterFor_6 (by decide) ?_
  refine lv_isub hx_ hb_ dX1_letterFor_8 ?_
  refine lv_istore_n (lv' := [(3, .int (((26 * A1) + M1) - 6)), (0, .ref h), (1, .int A1), (2, .int M1)]) hx_ hb_ dX1_letterFor_9 rfl hl (by decide) rfl (fun ls hl => ?_)
  refine lv_iload_n hx_ hb_ dX1_letterFor_10 rfl (lv_at hl 0 rfl) ?_
  refine lv_if_lt (tgt := 32) hx_ hb_ dX1_letterFor_11 (by decide) (fun cc1 => ?_) (fun cc1 => ?_)
  · skip
    refine lv_iconst (v := (-1)) hx_ hb_ dX1_letterFor_32 (by decide) ?_
    have eqr : ((-1) : Int32) = al_let g A1 M1 := by simp [al_let, al_ix, eq_true cc1]
    exact ct_iret C_0 (hP.sub [0, 1] rfl) (hD.sub [0, 1] (by decide) rfl) hS (Nat.le_of_ble_eq_true rfl) (Nat.le_of_ble_eq_true rfl) dX1_letterFor_33 (⟨eqr, rfl⟩)
  · skip
    refine lv_iload_n hx_ hb_ dX1_letterFor_14 rfl (lv_at hl 0 rfl) ?_
    refine lv_aload_n hx_ hb_ dX1_letterFor_15 rfl (lv_at hl 1 rfl) ?_
    refine va_get (D := D) (ci := 1) (v := .ref b) (C := RX1) (T := TX1) (N := 2) hx_ hb_ hts_ inM_X1 hown_ hK.1 hP 0 rfl rfl 1 (by decide) (hts_ _ (List.mem_cons_of_mem _ wa_f_X1_15)) (fun _ h9 => h9) rfl dX1_letterFor_16 ?_
    refine va_alen (v := nI 78) hx_ hb_ hK.1 hP 1 0 rfl rfl rfl dX1_letterFor_19 ?_
    refine lv_ti (y := 78) (rfl) ?_
    refine lv_icmp_ge (tgt := 32) hx_ hb_ dX1_letterFor_20 (by decide) (fun cc2 => ?_) (fun cc2 => ?_)
    · skip
      refine lv_iconst (v := (-1)) hx_ hb_ dX1_letterFor_32 (by decide) ?_
      have eqr : ((-1) : Int32) = al_let g A1 M1 := by simp [al_let, al_ix, eq_false cc1, eq_true cc2]
      exact ct_iret C_0 (hP.sub [0, 1] rfl) (hD.sub [0, 1] (by decide) rfl) hS (Nat.le_of_ble_eq_true rfl) (Nat.le_of_ble_eq_true rfl) dX1_letterFor_33 (⟨eqr, rfl⟩)
    · skip
      refine lv_aload_n hx_ hb_ dX1_letterFor_23 rfl (lv_at hl 1 rfl) ?_
      refine va_get (D := D) (ci := 1) (v := .ref b) (C := RX1) (T := TX1) (N := 2) hx_ hb_ hts_ inM_X1 hown_ hK.1 hP 0 rfl rfl 1 (by decide) (hts_ _ (List.mem_cons_of_mem _ wa_f_X1_15)) (fun _ h9 => h9) rfl dX1_letterFor_24 ?_
      refine lv_iload_n hx_ hb_ dX1_letterFor_27 rfl (lv_at hl 0 rfl) ?_
      refine va_iald hx_ hb_ hK.1 hP 1 0 rfl rfl (al_k_in cc1 cc2) dX1_letterFor_28 ?_
      refine lv_goto (tgt := 33) hx_ hb_ dX1_letterFor_29 (by decide) ?_
      have eqr : (g (Int32.toNatClampNeg (((26 * A1) + M1) - 6)) : Int32) = al_let g A1 M1 := by simp [al_let, al_ix, eq_false cc1, eq_false cc2]
      exact ct_iret C_0 (hP.sub [0, 1] rfl) (hD.sub [0, 1] (by decide) rfl) hS (Nat.le_of_ble_eq_true rfl) (Nat.le_of_ble_eq_true rfl) dX1_letterFor_33 (⟨eqr, rfl⟩)
abbrev po_X1_firstLetter (k : Nat → ClassId) (h : Nat) (b : Nat) (v : Int32) (g : Nat → Int32) (c1 : Int32) : Int32 → va_W → Prop := fun ans_ w1 => ans_ = al_from g c1 78 0 ∧ w1 = [(h, .inr (1, [.int v, .ref b])), (b, .inl (k 0, 78, .inl g))]
set_option maxHeartbeats 4000000 in
set_option maxRecDepth 100000 in
/-- firstLetter -/
theorem k_X1_firstLetter (l : Launch) (D : va_G) (k : Nat → ClassId) (h : Nat) (b : Nat) (v : Int32) (g : Nat → Int32) (c1 : Int32)  : ct_i l D (TY k) yX1_firstLetter wsX1_firstLetter ({ frames := 0, cells := 0, slots := 0, locals := 0 } : Room) [.ref h, .int c1] [(h, .inr (1, [.int v, .ref b])), (b, .inl (k 0, 78, .inl g))] (po_X1_firstLetter k h b v g c1) := by
  refine ct_i_of (cc := cX1_firstLetter) (nL := 3) (rt := (some .int)) (by decide) rfl (Nat.le_of_ble_eq_true rfl) ?_
  intro p_ e_ s_0 m_0 below_ meth_ c_0 A_0 C_0 hP hK hD hS hA ls hl
  obtain ⟨hx_, hb_, hml_, hr_, hown_, hlk_, hnm_, hts_⟩ := id C_0
  have hl : lv_has ls 3 [(0, .ref h), (1, .int c1)] := hl
  refine lv_iconst (v := 0) hx_ hb_ dX1_firstLetter_0 (by decide) ?_
  refine lv_istore_n (lv' := [(2, .int 0), (0, .ref h), (1, .int c1)]) hx_ hb_ dX1_firstLetter_1 rfl hl (by decide) rfl (fun ls hl => ?_)
  have lp2 : ∀ (fu : Nat) (j : Nat) (H : Heap) (locs : List Loc) (ls : Array Slot), 78 - j < fu → (j ≤ 78) → (al_from g c1 78 0 = al_from g c1 (78 - j) j) → va_P D vwCl [(h, .inr (1, [.int v, .ref b])), (b, .inl (k 0, 78, .inl g))] H → va_D A_0 [(h, .inr (1, [.int v, .ref b])), (b, .inl (k 0, 78, .inl g))] → va_S A_0 s_0.heap H locs → lv_has ls 3 [(0, .ref h), (1, .int c1), (2, .int (nI j))] → W p_ l e_ (headSpec wsX1_firstLetter ({ frames := 0, cells := 0, slots := 0, locals := 0 } : Room)).room s_0 m_0 (([.ref h, .int c1] : List Value).toArray) below_ meth_ c_0 H locs 0 0 (ct_Zi below_ D (po_X1_firstLetter k h b v g c1) A_0 (([.ref h, .int c1] : List Value).toArray) s_0 0 0) (F0 m_0 2 ls []) := by
    intro fu
    induction fu with
    | zero => intro j H locs ls hm_; exact absurd hm_ (Nat.not_lt_zero _)
    | succ fu ih2 =>
      intro j H locs ls hm_ hj he hP hD hS hl
      refine lv_iload_n hx_ hb_ dX1_firstLetter_2 rfl (lv_at hl 2 rfl) ?_
      refine lv_aload_n hx_ hb_ dX1_firstLetter_3 rfl (lv_at hl 0 rfl) ?_
      refine va_get (D := D) (ci := 1) (v := .ref b) (C := RX1) (T := TX1) (N := 2) hx_ hb_ hts_ inM_X1 hown_ hK.1 hP 0 rfl rfl 1 (by decide) (hts_ _ (List.mem_cons_of_mem _ wa_f_X1_15)) (fun _ h9 => h9) rfl dX1_firstLetter_4 ?_
      refine va_alen (v := nI 78) hx_ hb_ hK.1 hP 1 0 rfl rfl rfl dX1_firstLetter_7 ?_
      refine lv_icmp_ge (tgt := 29) hx_ hb_ dX1_firstLetter_8 (by decide) (fun cc1 => ?_) (fun cc1 => ?_)
      · have nn1 : 78 ≤ j := (nI_leI (a := 78) (b := j) (by omega) (by omega)).mp cc1
        have nn1m : ¬ j < 78 := by omega
        refine lv_iconst (v := (-1)) hx_ hb_ dX1_firstLetter_29 (by decide) ?_
        have eqr : ((-1) : Int32) = al_from g c1 78 0 := by rw [he, show 78 - j = 0 by omega, al_from]
        exact ct_iret C_0 (hP.sub [0, 1] rfl) (hD.sub [0, 1] (by decide) rfl) hS (Nat.le_of_ble_eq_true rfl) (Nat.le_of_ble_eq_true rfl) dX1_firstLetter_30 (⟨eqr, rfl⟩)
      · have nn1 : ¬ 78 ≤ j := fun hh => cc1 ((nI_leI (a := 78) (b := j) (by omega) (by omega)).mpr hh)
        have nn1m : j < 78 := by omega
        refine lv_aload_n hx_ hb_ dX1_firstLetter_11 rfl (lv_at hl 0 rfl) ?_
        refine va_get (D := D) (ci := 1) (v := .ref b) (C := RX1) (T := TX1) (N := 2) hx_ hb_ hts_ inM_X1 hown_ hK.1 hP 0 rfl rfl 1 (by decide) (hts_ _ (List.mem_cons_of_mem _ wa_f_X1_15)) (fun _ h9 => h9) rfl dX1_firstLetter_12 ?_
        refine lv_iload_n hx_ hb_ dX1_firstLetter_15 rfl (lv_at hl 2 rfl) ?_
        refine va_iald hx_ hb_ hK.1 hP 1 0 rfl rfl (vp_in_nI (by omega) (by decide)) dX1_firstLetter_16 ?_
        refine lv_ti (y := g j) (congrArg _ (nI_clamp (by omega))) ?_
        refine lv_iload_n hx_ hb_ dX1_firstLetter_17 rfl (lv_at hl 1 rfl) ?_
        refine lv_icmp_ne (tgt := 23) hx_ hb_ dX1_firstLetter_18 (by decide) (fun cc2 => ?_) (fun cc2 => ?_)
        · skip
          refine lv_iinc (v := nI (j + 1)) (lv' := [(2, .int (nI (j + 1))), (0, .ref h), (1, .int c1)]) hx_ hb_ dX1_firstLetter_23 hl (k := 2) rfl (nI_add _ _) (by decide) rfl (fun ls hl => ?_)
          refine lv_goto (tgt := 2) hx_ hb_ dX1_firstLetter_26 (by decide) ?_
          exact ih2 (j + 1) _ _ _ (by omega) (by omega) (by rw [he, show 78 - j = (78 - (j + 1)) + 1 by omega, al_from, if_neg cc2]) (hP.sub [0, 1] rfl) (hD.sub [0, 1] (by decide) rfl) hS (lv_sub hl [1, 2, 0] rfl)
        · skip
          refine lv_iload_n hx_ hb_ dX1_firstLetter_21 rfl (lv_at hl 2 rfl) ?_
          have eqr : (nI j : Int32) = al_from g c1 78 0 := by rw [he, show 78 - j = (78 - (j + 1)) + 1 by omega, al_from, if_pos cc2]
          exact ct_iret C_0 (hP.sub [0, 1] rfl) (hD.sub [0, 1] (by decide) rfl) hS (Nat.le_of_ble_eq_true rfl) (Nat.le_of_ble_eq_true rfl) dX1_firstLetter_22 (⟨eqr, rfl⟩)
  exact lp2 ((78 - 0) + 1) 0 _ _ _ (Nat.lt_succ_self _) (by omega) (by rfl) (hP.sub [0, 1] rfl) (hD.sub [0, 1] (by decide) rfl) hS (lv_sub hl [1, 2, 0] rfl)
abbrev po_X1_shiftTo (k : Nat → ClassId) (h : Nat) (b : Nat) (v : Int32) (g : Nat → Int32) (a1 : Int32) : Int32 → va_W → Prop := fun ans_ w1 => ans_ = al_sh v a1 ∧ w1 = [(h, .inr (1, [.int v, .ref b])), (b, .inl (k 0, 78, .inl g))]
set_option maxHeartbeats 4000000 in
set_option maxRecDepth 100000 in
/-- shiftTo -/
theorem k_X1_shiftTo (l : Launch) (D : va_G) (k : Nat → ClassId) (h : Nat) (b : Nat) (v : Int32) (g : Nat → Int32) (a1 : Int32)  : ct_i l D (TY k) yX1_shiftTo wsX1_shiftTo ({ frames := 0, cells := 0, slots := 0, locals := 0 } : Room) [.ref h, .int a1] [(h, .inr (1, [.int v, .ref b])), (b, .inl (k 0, 78, .inl g))] (po_X1_shiftTo k h b v g a1) := by
  refine ct_i_of (cc := cX1_shiftTo) (nL := 2) (rt := (some .int)) (by decide) rfl (Nat.le_of_ble_eq_true rfl) ?_
  intro p_ e_ s_0 m_0 below_ meth_ c_0 A_0 C_0 hP hK hD hS hA ls hl
  obtain ⟨hx_, hb_, hml_, hr_, hown_, hlk_, hnm_, hts_⟩ := id C_0
  have hl : lv_has ls 2 [(0, .ref h), (1, .int a1)] := hl
  refine lv_aload_n hx_ hb_ dX1_shiftTo_0 rfl (lv_at hl 0 rfl) ?_
  refine va_get (D := D) (ci := 1) (v := .int v) (C := RX1) (T := TX1) (N := 2) hx_ hb_ hts_ inM_X1 hown_ hK.1 hP 0 rfl rfl 0 (by decide) (hts_ _ (List.mem_cons_of_mem _ wa_f_X1_9)) (fun _ h9 => h9) rfl dX1_shiftTo_1 ?_
  refine lv_iconst (v := 2) hx_ hb_ dX1_shiftTo_4 (by decide) ?_
  refine lv_icmp_gt (tgt := 14) hx_ hb_ dX1_shiftTo_5 (by decide) (fun cc1 => ?_) (fun cc1 => ?_)
  · skip
    refine lv_iconst (v := 3) hx_ hb_ dX1_shiftTo_14 (by decide) ?_
    refine lv_iload_n hx_ hb_ dX1_shiftTo_15 rfl (lv_at hl 1 rfl) ?_
    refine lv_iadd hx_ hb_ dX1_shiftTo_16 ?_
    have eqr : (3 + a1 : Int32) = al_sh v a1 := by simp [al_sh, eq_true cc1]
    exact ct_iret C_0 (hP.sub [0, 1] rfl) (hD.sub [0, 1] (by decide) rfl) hS (Nat.le_of_ble_eq_true rfl) (Nat.le_of_ble_eq_true rfl) dX1_shiftTo_17 (⟨eqr, rfl⟩)
  · skip
    refine lv_iconst (v := 1) hx_ hb_ dX1_shiftTo_8 (by decide) ?_
    refine lv_iload_n hx_ hb_ dX1_shiftTo_9 rfl (lv_at hl 1 rfl) ?_
    refine lv_iadd hx_ hb_ dX1_shiftTo_10 ?_
    refine lv_goto (tgt := 17) hx_ hb_ dX1_shiftTo_11 (by decide) ?_
    have eqr : (1 + a1 : Int32) = al_sh v a1 := by simp [al_sh, eq_false cc1]
    exact ct_iret C_0 (hP.sub [0, 1] rfl) (hD.sub [0, 1] (by decide) rfl) hS (Nat.le_of_ble_eq_true rfl) (Nat.le_of_ble_eq_true rfl) dX1_shiftTo_17 (⟨eqr, rfl⟩)
abbrev po_X1_spellCode (k : Nat → ClassId) (h : Nat) (b : Nat) (v : Int32) (g : Nat → Int32) (h2 : Nat) (a2 : Nat) (cap : Nat) (t : Nat × (Nat → Int32)) (c1 : Int32) : va_W → Prop := fun w1 => w1 = [(h, .inr (1, [.int v, .ref b])), (b, .inl (k 0, 78, .inl g)), (h2, .inr (5, [.ref a2, .int (nI ((sp_code cap v c1 t).1))])), (a2, .inl (k 0, cap, .inl ((sp_code cap v c1 t).2)))]
set_option maxHeartbeats 4000000 in
set_option maxRecDepth 100000 in
/-- spellCode -/
theorem k_X1_spellCode (l : Launch) (D : va_G) (k : Nat → ClassId) (h : Nat) (b : Nat) (v : Int32) (g : Nat → Int32) (h2 : Nat) (a2 : Nat) (cap : Nat) (t : Nat × (Nat → Int32)) (c1 : Int32) (hn : t.1 ≤ cap) (hc : cap ≤ 5000) : ct_v l D (TY k) yX1_spellCode wsX1_spellCode ({ frames := 1, cells := 0, slots := 0, locals := 21 } : Room) [.ref h, .int c1, .ref h2] [(h, .inr (1, [.int v, .ref b])), (b, .inl (k 0, 78, .inl g)), (h2, .inr (5, [.ref a2, .int (nI (t.1))])), (a2, .inl (k 0, cap, .inl t.2))] (po_X1_spellCode k h b v g h2 a2 cap t c1) := by
  refine ct_v_of (cc := cX1_spellCode) (nL := 3) (rt := none) (by decide) rfl (Nat.le_of_ble_eq_true rfl) ?_
  intro p_ e_ s_0 m_0 below_ meth_ c_0 A_0 C_0 hP hK hD hS hA ls hl
  obtain ⟨hx_, hb_, hml_, hr_, hown_, hlk_, hnm_, hts_⟩ := id C_0
  have hl : lv_has ls 3 [(0, .ref h), (1, .int c1), (2, .ref h2)] := hl
  refine lv_aload_n hx_ hb_ dX1_spellCode_0 rfl (lv_at hl 2 rfl) ?_
  refine lv_aload_n hx_ hb_ dX1_spellCode_1 rfl (lv_at hl 0 rfl) ?_
  refine lv_iconst (v := 2) hx_ hb_ dX1_spellCode_2 (by decide) ?_
  refine ct_Vi (wr := [(h2, .inr (5, [.ref a2, .int (nI (t.1))])), (a2, .inl (k 0, cap, .inl t.2))]) (rest := [.ref h2]) (As := [.int 2]) ⟨hx_, hb_, hml_, hown_, hts_⟩ (k_X1_shiftTo l D k h b v g 2 ) (cwV 1 hts_ (gd_in (gw_V wa_m_X1_52 wa_y_X1_shiftTo wa_s_X1_shiftTo wa_i_X1 wa_k_X1_shiftTo)) rfl rfl rfl (by decide +kernel) ⟨Nat.le_of_ble_eq_true rfl, Nat.le_of_ble_eq_true rfl⟩) hK hP hD hS hA [0, 1] [2, 3] rfl rfl rfl rfl (by decide) 1 rfl rfl rfl hl.1 rfl rfl (Nat.le_of_ble_eq_true rfl) dX1_spellCode_3 ⟨Nat.le_of_ble_eq_true rfl, Nat.le_of_ble_eq_true rfl⟩ (fun rr1 w1 H locs ww2 hP hD hS => ?_)
  obtain ⟨rfl, rfl⟩ := ww2
  have hP : va_P D vwCl [(h2, .inr (5, [.ref a2, .int (nI (t.1))])), (a2, .inl (k 0, cap, .inl t.2)), (h, .inr (1, [.int v, .ref b])), (b, .inl (k 0, 78, .inl g))] H := hP
  have hD : va_D A_0 [(h2, .inr (5, [.ref a2, .int (nI (t.1))])), (a2, .inl (k 0, cap, .inl t.2)), (h, .inr (1, [.int v, .ref b])), (b, .inl (k 0, 78, .inl g))] := hD
  refine W.cs (cells' := 0) (slots' := 0) rfl rfl ?_
  refine ct_Vi (wr := [(h, .inr (1, [.int v, .ref b])), (b, .inl (k 0, 78, .inl g))]) (rest := []) (As := [.int (al_sh v 2)]) ⟨hx_, hb_, hml_, hown_, hts_⟩ (k_X5_add l D k h2 a2 cap t (al_sh v 2) (by first | omega | (repeat (first | assumption | apply rw_a_le))) (by first | omega | (repeat (first | assumption | apply rw_a_le)))) (cwV 1 hts_ (gd_in (gw_V wa_m_X1_38 wa_y_X5_add wa_s_X5_add wa_i_X5 wa_k_X5_add)) rfl rfl rfl (by decide +kernel) ⟨Nat.le_of_ble_eq_true rfl, Nat.le_of_ble_eq_true rfl⟩) hK hP hD hS hA [0, 1] [2, 3] rfl rfl rfl rfl (by decide) 5 rfl rfl rfl hl.1 rfl rfl (Nat.le_of_ble_eq_true rfl) dX1_spellCode_6 ⟨Nat.le_of_ble_eq_true rfl, Nat.le_of_ble_eq_true rfl⟩ (fun rr3 w1 H locs ww4 hP hD hS => ?_)
  obtain ⟨rfl, rfl⟩ := ww4
  have hP : va_P D vwCl [(h, .inr (1, [.int v, .ref b])), (b, .inl (k 0, 78, .inl g)), (h2, .inr (5, [.ref a2, .int (nI ((rw_a cap (al_sh v 2) t).1))])), (a2, .inl (k 0, cap, .inl ((rw_a cap (al_sh v 2) t).2)))] H := hP
  have hD : va_D A_0 [(h, .inr (1, [.int v, .ref b])), (b, .inl (k 0, 78, .inl g)), (h2, .inr (5, [.ref a2, .int (nI ((rw_a cap (al_sh v 2) t).1))])), (a2, .inl (k 0, cap, .inl ((rw_a cap (al_sh v 2) t).2)))] := hD
  refine W.cs (cells' := 0) (slots' := 0) rfl rfl ?_
  refine lv_pop hx_ hb_ dX1_spellCode_9 rfl ?_
  refine lv_aload_n hx_ hb_ dX1_spellCode_10 rfl (lv_at hl 2 rfl) ?_
  refine lv_bipush (v := 6) hx_ hb_ dX1_spellCode_11 (by decide) ?_
  refine ct_Vi (wr := [(h, .inr (1, [.int v, .ref b])), (b, .inl (k 0, 78, .inl g))]) (rest := []) (As := [.int 6]) ⟨hx_, hb_, hml_, hown_, hts_⟩ (k_X5_add l D k h2 a2 cap (rw_a cap (al_sh v 2) t) 6 (by first | omega | (repeat (first | assumption | apply rw_a_le))) (by first | omega | (repeat (first | assumption | apply rw_a_le)))) (cwV 1 hts_ (gd_in (gw_V wa_m_X1_38 wa_y_X5_add wa_s_X5_add wa_i_X5 wa_k_X5_add)) rfl rfl rfl (by decide +kernel) ⟨Nat.le_of_ble_eq_true rfl, Nat.le_of_ble_eq_true rfl⟩) hK hP hD hS hA [2, 3] [0, 1] rfl rfl rfl rfl (by decide) 5 rfl rfl rfl hl.1 rfl rfl (Nat.le_of_ble_eq_true rfl) dX1_spellCode_13 ⟨Nat.le_of_ble_eq_true rfl, Nat.le_of_ble_eq_true rfl⟩ (fun rr5 w1 H locs ww6 hP hD hS => ?_)
  obtain ⟨rfl, rfl⟩ := ww6
  have hP : va_P D vwCl [(h, .inr (1, [.int v, .ref b])), (b, .inl (k 0, 78, .inl g)), (h2, .inr (5, [.ref a2, .int (nI ((rw_a cap 6 (rw_a cap (al_sh v 2) t)).1))])), (a2, .inl (k 0, cap, .inl ((rw_a cap 6 (rw_a cap (al_sh v 2) t)).2)))] H := hP
  have hD : va_D A_0 [(h, .inr (1, [.int v, .ref b])), (b, .inl (k 0, 78, .inl g)), (h2, .inr (5, [.ref a2, .int (nI ((rw_a cap 6 (rw_a cap (al_sh v 2) t)).1))])), (a2, .inl (k 0, cap, .inl ((rw_a cap 6 (rw_a cap (al_sh v 2) t)).2)))] := hD
  refine W.cs (cells' := 0) (slots' := 0) rfl rfl ?_
  refine lv_pop hx_ hb_ dX1_spellCode_16 rfl ?_
  refine lv_aload_n hx_ hb_ dX1_spellCode_17 rfl (lv_at hl 2 rfl) ?_
  refine lv_iload_n hx_ hb_ dX1_spellCode_18 rfl (lv_at hl 1 rfl) ?_
  refine lv_bipush (v := 32) hx_ hb_ dX1_spellCode_19 (by decide) ?_
  refine lv_idiv hx_ hb_ dX1_spellCode_21 (by decide) ?_
  refine ct_Vi (wr := [(h, .inr (1, [.int v, .ref b])), (b, .inl (k 0, 78, .inl g))]) (rest := []) (As := [.int (c1 / 32)]) ⟨hx_, hb_, hml_, hown_, hts_⟩ (k_X5_add l D k h2 a2 cap (rw_a cap 6 (rw_a cap (al_sh v 2) t)) (c1 / 32) (by first | omega | (repeat (first | assumption | apply rw_a_le))) (by first | omega | (repeat (first | assumption | apply rw_a_le)))) (cwV 1 hts_ (gd_in (gw_V wa_m_X1_38 wa_y_X5_add wa_s_X5_add wa_i_X5 wa_k_X5_add)) rfl rfl rfl (by decide +kernel) ⟨Nat.le_of_ble_eq_true rfl, Nat.le_of_ble_eq_true rfl⟩) hK hP hD hS hA [2, 3] [0, 1] rfl rfl rfl rfl (by decide) 5 rfl rfl rfl hl.1 rfl rfl (Nat.le_of_ble_eq_true rfl) dX1_spellCode_22 ⟨Nat.le_of_ble_eq_true rfl, Nat.le_of_ble_eq_true rfl⟩ (fun rr7 w1 H locs ww8 hP hD hS => ?_)
  obtain ⟨rfl, rfl⟩ := ww8
  have hP : va_P D vwCl [(h, .inr (1, [.int v, .ref b])), (b, .inl (k 0, 78, .inl g)), (h2, .inr (5, [.ref a2, .int (nI ((rw_a cap (c1 / 32) (rw_a cap 6 (rw_a cap (al_sh v 2) t))).1))])), (a2, .inl (k 0, cap, .inl ((rw_a cap (c1 / 32) (rw_a cap 6 (rw_a cap (al_sh v 2) t))).2)))] H := hP
  have hD : va_D A_0 [(h, .inr (1, [.int v, .ref b])), (b, .inl (k 0, 78, .inl g)), (h2, .inr (5, [.ref a2, .int (nI ((rw_a cap (c1 / 32) (rw_a cap 6 (rw_a cap (al_sh v 2) t))).1))])), (a2, .inl (k 0, cap, .inl ((rw_a cap (c1 / 32) (rw_a cap 6 (rw_a cap (al_sh v 2) t))).2)))] := hD
  refine W.cs (cells' := 0) (slots' := 0) rfl rfl ?_
  refine lv_pop hx_ hb_ dX1_spellCode_25 rfl ?_
  refine lv_aload_n hx_ hb_ dX1_spellCode_26 rfl (lv_at hl 2 rfl) ?_
  refine lv_iload_n hx_ hb_ dX1_spellCode_27 rfl (lv_at hl 1 rfl) ?_
  refine lv_bipush (v := 32) hx_ hb_ dX1_spellCode_28 (by decide) ?_
  refine lv_irem hx_ hb_ dX1_spellCode_30 (by decide) ?_
  refine ct_Vi (wr := [(h, .inr (1, [.int v, .ref b])), (b, .inl (k 0, 78, .inl g))]) (rest := []) (As := [.int (c1 - c1 / 32 * 32)]) ⟨hx_, hb_, hml_, hown_, hts_⟩ (k_X5_add l D k h2 a2 cap (rw_a cap (c1 / 32) (rw_a cap 6 (rw_a cap (al_sh v 2) t))) (c1 - c1 / 32 * 32) (by first | omega | (repeat (first | assumption | apply rw_a_le))) (by first | omega | (repeat (first | assumption | apply rw_a_le)))) (cwV 1 hts_ (gd_in (gw_V wa_m_X1_38 wa_y_X5_add wa_s_X5_add wa_i_X5 wa_k_X5_add)) rfl rfl rfl (by decide +kernel) ⟨Nat.le_of_ble_eq_true rfl, Nat.le_of_ble_eq_true rfl⟩) hK hP hD hS hA [2, 3] [0, 1] rfl rfl rfl rfl (by decide) 5 rfl rfl rfl hl.1 rfl rfl (Nat.le_of_ble_eq_true rfl) dX1_spellCode_31 ⟨Nat.le_of_ble_eq_true rfl, Nat.le_of_ble_eq_true rfl⟩ (fun rr9 w1 H locs ww10 hP hD hS => ?_)
  obtain ⟨rfl, rfl⟩ := ww10
  have hP : va_P D vwCl [(h, .inr (1, [.int v, .ref b])), (b, .inl (k 0, 78, .inl g)), (h2, .inr (5, [.ref a2, .int (nI ((rw_a cap (c1 - c1 / 32 * 32) (rw_a cap (c1 / 32) (rw_a cap 6 (rw_a cap (al_sh v 2) t)))).1))])), (a2, .inl (k 0, cap, .inl ((rw_a cap (c1 - c1 / 32 * 32) (rw_a cap (c1 / 32) (rw_a cap 6 (rw_a cap (al_sh v 2) t)))).2)))] H := hP
  have hD : va_D A_0 [(h, .inr (1, [.int v, .ref b])), (b, .inl (k 0, 78, .inl g)), (h2, .inr (5, [.ref a2, .int (nI ((rw_a cap (c1 - c1 / 32 * 32) (rw_a cap (c1 / 32) (rw_a cap 6 (rw_a cap (al_sh v 2) t)))).1))])), (a2, .inl (k 0, cap, .inl ((rw_a cap (c1 - c1 / 32 * 32) (rw_a cap (c1 / 32) (rw_a cap 6 (rw_a cap (al_sh v 2) t)))).2)))] := hD
  refine W.cs (cells' := 0) (slots' := 0) rfl rfl ?_
  refine lv_pop hx_ hb_ dX1_spellCode_34 rfl ?_
  have eq1 : (nI ((rw_a cap (c1 - c1 / 32 * 32) (rw_a cap (c1 / 32) (rw_a cap 6 (rw_a cap (al_sh v 2) t)))).1) : Int32) = nI ((sp_code cap v c1 t).1) := by rfl
  have eq2 : ((rw_a cap (c1 - c1 / 32 * 32) (rw_a cap (c1 / 32) (rw_a cap 6 (rw_a cap (al_sh v 2) t)))).2 : Nat → Int32) = (sp_code cap v c1 t).2 := by rfl
  exact ct_vret C_0 (hP.sub [0, 1, 2, 3] rfl) (hD.sub [0, 1, 2, 3] (by decide) rfl) hS (Nat.le_of_ble_eq_true rfl) (Nat.le_of_ble_eq_true rfl) dX1_spellCode_35 (congr (congrArg (fun (z1 : Int32) (z2 : Nat → Int32) => ([(h, .inr (1, [.int v, .ref b])), (b, .inl (k 0, 78, .inl g)), (h2, .inr (5, [.ref a2, .int z1])), (a2, .inl (k 0, cap, .inl z2))] : va_W)) eq1) eq2)
abbrev po_X1_spell (k : Nat → ClassId) (h : Nat) (b : Nat) (v : Int32) (g : Nat → Int32) (h2 : Nat) (a2 : Nat) (cap : Nat) (t : Nat × (Nat → Int32)) (c1 : Int32) : va_W → Prop := fun w1 => w1 = [(h, .inr (1, [.int v, .ref b])), (b, .inl (k 0, 78, .inl g)), (h2, .inr (5, [.ref a2, .int (nI ((sp cap v g c1 t).1))])), (a2, .inl (k 0, cap, .inl ((sp cap v g c1 t).2)))]
set_option maxHeartbeats 4000000 in
set_option maxRecDepth 100000 in
/-- spell -/
theorem k_X1_spell (l : Launch) (D : va_G) (k : Nat → ClassId) (h : Nat) (b : Nat) (v : Int32) (g : Nat → Int32) (h2 : Nat) (a2 : Nat) (cap : Nat) (t : Nat × (Nat → Int32)) (c1 : Int32) (hn : t.1 ≤ cap) (hc : cap ≤ 5000) : ct_v l D (TY k) yX1_spell wsX1_spell ({ frames := 2, cells := 0, slots := 0, locals := 43 } : Room) [.ref h, .int c1, .ref h2] [(h, .inr (1, [.int v, .ref b])), (b, .inl (k 0, 78, .inl g)), (h2, .inr (5, [.ref a2, .int (nI (t.1))])), (a2, .inl (k 0, cap, .inl t.2))] (po_X1_spell k h b v g h2 a2 cap t c1) := by
  refine ct_v_of (cc := cX1_spell) (nL := 4) (rt := none) (by decide) rfl (Nat.le_of_ble_eq_true rfl) ?_
  intro p_ e_ s_0 m_0 below_ meth_ c_0 A_0 C_0 hP hK hD hS hA ls hl
  obtain ⟨hx_, hb_, hml_, hr_, hown_, hlk_, hnm_, hts_⟩ := id C_0
  have hl : lv_has ls 4 [(0, .ref h), (1, .int c1), (2, .ref h2)] := hl
  refine lv_iload_n hx_ hb_ dX1_spell_0 rfl (lv_at hl 1 rfl) ?_
  refine lv_bipush (v := 32) hx_ hb_ dX1_spell_1 (by decide) ?_
  refine lv_icmp_ne (tgt := 13) hx_ hb_ dX1_spell_3 (by decide) (fun cc1 => ?_) (fun cc1 => ?_)
  · skip
    refine lv_iload_n hx_ hb_ dX1_spell_13 rfl (lv_at hl 1 rfl) ?_
    refine lv_bipush (v := 13) hx_ hb_ dX1_spell_14 (by decide) ?_
    refine lv_icmp_ne (tgt := 34) hx_ hb_ dX1_spell_16 (by decide) (fun cc2 => ?_) (fun cc2 => ?_)
    · skip
      refine lv_aload_n hx_ hb_ dX1_spell_34 rfl (lv_at hl 0 rfl) ?_
      refine lv_iload_n hx_ hb_ dX1_spell_35 rfl (lv_at hl 1 rfl) ?_
      refine ct_Vi (wr := [(h2, .inr (5, [.ref a2, .int (nI (t.1))])), (a2, .inl (k 0, cap, .inl t.2))]) (rest := []) (As := [.int c1]) ⟨hx_, hb_, hml_, hown_, hts_⟩ (k_X1_firstLetter l D k h b v g c1 ) (cwV 1 hts_ (gd_in (gw_V wa_m_X1_44 wa_y_X1_firstLetter wa_s_X1_firstLetter wa_i_X1 wa_k_X1_firstLetter)) rfl rfl rfl (by decide +kernel) ⟨Nat.le_of_ble_eq_true rfl, Nat.le_of_ble_eq_true rfl⟩) hK hP hD hS hA [0, 1] [2, 3] rfl rfl rfl rfl (by decide) 1 rfl rfl rfl hl.1 rfl rfl (Nat.le_of_ble_eq_true rfl) dX1_spell_36 ⟨Nat.le_of_ble_eq_true rfl, Nat.le_of_ble_eq_true rfl⟩ (fun rr3 w1 H locs ww4 hP hD hS => ?_)
      obtain ⟨rfl, rfl⟩ := ww4
      have hP : va_P D vwCl [(h2, .inr (5, [.ref a2, .int (nI (t.1))])), (a2, .inl (k 0, cap, .inl t.2)), (h, .inr (1, [.int v, .ref b])), (b, .inl (k 0, 78, .inl g))] H := hP
      have hD : va_D A_0 [(h2, .inr (5, [.ref a2, .int (nI (t.1))])), (a2, .inl (k 0, cap, .inl t.2)), (h, .inr (1, [.int v, .ref b])), (b, .inl (k 0, 78, .inl g))] := hD
      refine W.cs (cells' := 0) (slots' := 0) rfl rfl ?_
      refine lv_istore_n (lv' := [(3, .int (al_from g c1 78 0)), (0, .ref h), (1, .int c1), (2, .ref h2)]) hx_ hb_ dX1_spell_39 rfl hl (by decide) rfl (fun ls hl => ?_)
      refine lv_iload_n hx_ hb_ dX1_spell_40 rfl (lv_at hl 0 rfl) ?_
      refine lv_if_ge (tgt := 51) hx_ hb_ dX1_spell_41 (by decide) (fun cc5 => ?_) (fun cc5 => ?_)
      · skip
        refine lv_iload_n hx_ hb_ dX1_spell_51 rfl (lv_at hl 0 rfl) ?_
        refine lv_bipush (v := 26) hx_ hb_ dX1_spell_52 (by decide) ?_
        refine lv_icmp_lt (tgt := 70) hx_ hb_ dX1_spell_54 (by decide) (fun cc6 => ?_) (fun cc6 => ?_)
        · skip
          refine lv_aload_n hx_ hb_ dX1_spell_70 rfl (lv_at hl 3 rfl) ?_
          refine lv_bipush (v := 6) hx_ hb_ dX1_spell_71 (by decide) ?_
          refine lv_iload_n hx_ hb_ dX1_spell_73 rfl (lv_at hl 0 rfl) ?_
          refine lv_bipush (v := 26) hx_ hb_ dX1_spell_74 (by decide) ?_
          refine lv_irem hx_ hb_ dX1_spell_76 (by decide) ?_
          refine lv_iadd hx_ hb_ dX1_spell_77 ?_
          refine ct_Vi (wr := [(h, .inr (1, [.int v, .ref b])), (b, .inl (k 0, 78, .inl g))]) (rest := []) (As := [.int (6 + ((al_from g c1 78 0) - (al_from g c1 78 0) / 26 * 26))]) ⟨hx_, hb_, hml_, hown_, hts_⟩ (k_X5_add l D k h2 a2 cap t (6 + ((al_from g c1 78 0) - (al_from g c1 78 0) / 26 * 26)) (by first | omega | (repeat (first | assumption | apply rw_a_le))) (by first | omega | (repeat (first | assumption | apply rw_a_le)))) (cwV 1 hts_ (gd_in (gw_V wa_m_X1_38 wa_y_X5_add wa_s_X5_add wa_i_X5 wa_k_X5_add)) rfl rfl rfl (by decide +kernel) ⟨Nat.le_of_ble_eq_true rfl, Nat.le_of_ble_eq_true rfl⟩) hK hP hD hS hA [0, 1] [2, 3] rfl rfl rfl rfl (by decide) 5 rfl rfl rfl hl.1 rfl rfl (Nat.le_of_ble_eq_true rfl) dX1_spell_78 ⟨Nat.le_of_ble_eq_true rfl, Nat.le_of_ble_eq_true rfl⟩ (fun rr7 w1 H locs ww8 hP hD hS => ?_)
          obtain ⟨rfl, rfl⟩ := ww8
          have hP : va_P D vwCl [(h, .inr (1, [.int v, .ref b])), (b, .inl (k 0, 78, .inl g)), (h2, .inr (5, [.ref a2, .int (nI ((rw_a cap (6 + ((al_from g c1 78 0) - (al_from g c1 78 0) / 26 * 26)) t).1))])), (a2, .inl (k 0, cap, .inl ((rw_a cap (6 + ((al_from g c1 78 0) - (al_from g c1 78 0) / 26 * 26)) t).2)))] H := hP
          have hD : va_D A_0 [(h, .inr (1, [.int v, .ref b])), (b, .inl (k 0, 78, .inl g)), (h2, .inr (5, [.ref a2, .int (nI ((rw_a cap (6 + ((al_from g c1 78 0) - (al_from g c1 78 0) / 26 * 26)) t).1))])), (a2, .inl (k 0, cap, .inl ((rw_a cap (6 + ((al_from g c1 78 0) - (al_from g c1 78 0) / 26 * 26)) t).2)))] := hD
          refine W.cs (cells' := 0) (slots' := 0) rfl rfl ?_
          refine lv_pop hx_ hb_ dX1_spell_81 rfl ?_
          have eq1 : (nI ((rw_a cap (6 + ((al_from g c1 78 0) - (al_from g c1 78 0) / 26 * 26)) t).1) : Int32) = nI ((sp cap v g c1 t).1) := by simp [sp, sp_let, eq_false cc1, eq_false cc2, eq_true cc5, eq_true cc6]
          have eq2 : ((rw_a cap (6 + ((al_from g c1 78 0) - (al_from g c1 78 0) / 26 * 26)) t).2 : Nat → Int32) = (sp cap v g c1 t).2 := by simp [sp, sp_let, eq_false cc1, eq_false cc2, eq_true cc5, eq_true cc6]
          exact ct_vret C_0 (hP.sub [0, 1, 2, 3] rfl) (hD.sub [0, 1, 2, 3] (by decide) rfl) hS (Nat.le_of_ble_eq_true rfl) (Nat.le_of_ble_eq_true rfl) dX1_spell_82 (congr (congrArg (fun (z1 : Int32) (z2 : Nat → Int32) => ([(h, .inr (1, [.int v, .ref b])), (b, .inl (k 0, 78, .inl g)), (h2, .inr (5, [.ref a2, .int z1])), (a2, .inl (k 0, cap, .inl z2))] : va_W)) eq1) eq2)
        · skip
          refine lv_aload_n hx_ hb_ dX1_spell_57 rfl (lv_at hl 3 rfl) ?_
          refine lv_aload_n hx_ hb_ dX1_spell_58 rfl (lv_at hl 1 rfl) ?_
          refine lv_iload_n hx_ hb_ dX1_spell_59 rfl (lv_at hl 0 rfl) ?_
          refine lv_bipush (v := 26) hx_ hb_ dX1_spell_60 (by decide) ?_
          refine lv_idiv hx_ hb_ dX1_spell_62 (by decide) ?_
          refine ct_Vi (wr := [(h2, .inr (5, [.ref a2, .int (nI (t.1))])), (a2, .inl (k 0, cap, .inl t.2))]) (rest := [.ref h2]) (As := [.int ((al_from g c1 78 0) / 26)]) ⟨hx_, hb_, hml_, hown_, hts_⟩ (k_X1_shiftTo l D k h b v g ((al_from g c1 78 0) / 26) ) (cwV 1 hts_ (gd_in (gw_V wa_m_X1_52 wa_y_X1_shiftTo wa_s_X1_shiftTo wa_i_X1 wa_k_X1_shiftTo)) rfl rfl rfl (by decide +kernel) ⟨Nat.le_of_ble_eq_true rfl, Nat.le_of_ble_eq_true rfl⟩) hK hP hD hS hA [2, 3] [0, 1] rfl rfl rfl rfl (by decide) 1 rfl rfl rfl hl.1 rfl rfl (Nat.le_of_ble_eq_true rfl) dX1_spell_63 ⟨Nat.le_of_ble_eq_true rfl, Nat.le_of_ble_eq_true rfl⟩ (fun rr9 w1 H locs ww10 hP hD hS => ?_)
          obtain ⟨rfl, rfl⟩ := ww10
          have hP : va_P D vwCl [(h2, .inr (5, [.ref a2, .int (nI (t.1))])), (a2, .inl (k 0, cap, .inl t.2)), (h, .inr (1, [.int v, .ref b])), (b, .inl (k 0, 78, .inl g))] H := hP
          have hD : va_D A_0 [(h2, .inr (5, [.ref a2, .int (nI (t.1))])), (a2, .inl (k 0, cap, .inl t.2)), (h, .inr (1, [.int v, .ref b])), (b, .inl (k 0, 78, .inl g))] := hD
          refine W.cs (cells' := 0) (slots' := 0) rfl rfl ?_
          refine ct_Vi (wr := [(h, .inr (1, [.int v, .ref b])), (b, .inl (k 0, 78, .inl g))]) (rest := []) (As := [.int (al_sh v ((al_from g c1 78 0) / 26))]) ⟨hx_, hb_, hml_, hown_, hts_⟩ (k_X5_add l D k h2 a2 cap t (al_sh v ((al_from g c1 78 0) / 26)) (by first | omega | (repeat (first | assumption | apply rw_a_le))) (by first | omega | (repeat (first | assumption | apply rw_a_le)))) (cwV 1 hts_ (gd_in (gw_V wa_m_X1_38 wa_y_X5_add wa_s_X5_add wa_i_X5 wa_k_X5_add)) rfl rfl rfl (by decide +kernel) ⟨Nat.le_of_ble_eq_true rfl, Nat.le_of_ble_eq_true rfl⟩) hK hP hD hS hA [0, 1] [2, 3] rfl rfl rfl rfl (by decide) 5 rfl rfl rfl hl.1 rfl rfl (Nat.le_of_ble_eq_true rfl) dX1_spell_66 ⟨Nat.le_of_ble_eq_true rfl, Nat.le_of_ble_eq_true rfl⟩ (fun rr11 w1 H locs ww12 hP hD hS => ?_)
          obtain ⟨rfl, rfl⟩ := ww12
          have hP : va_P D vwCl [(h, .inr (1, [.int v, .ref b])), (b, .inl (k 0, 78, .inl g)), (h2, .inr (5, [.ref a2, .int (nI ((rw_a cap (al_sh v ((al_from g c1 78 0) / 26)) t).1))])), (a2, .inl (k 0, cap, .inl ((rw_a cap (al_sh v ((al_from g c1 78 0) / 26)) t).2)))] H := hP
          have hD : va_D A_0 [(h, .inr (1, [.int v, .ref b])), (b, .inl (k 0, 78, .inl g)), (h2, .inr (5, [.ref a2, .int (nI ((rw_a cap (al_sh v ((al_from g c1 78 0) / 26)) t).1))])), (a2, .inl (k 0, cap, .inl ((rw_a cap (al_sh v ((al_from g c1 78 0) / 26)) t).2)))] := hD
          refine W.cs (cells' := 0) (slots' := 0) rfl rfl ?_
          refine lv_pop hx_ hb_ dX1_spell_69 rfl ?_
          refine lv_aload_n hx_ hb_ dX1_spell_70 rfl (lv_at hl 3 rfl) ?_
          refine lv_bipush (v := 6) hx_ hb_ dX1_spell_71 (by decide) ?_
          refine lv_iload_n hx_ hb_ dX1_spell_73 rfl (lv_at hl 0 rfl) ?_
          refine lv_bipush (v := 26) hx_ hb_ dX1_spell_74 (by decide) ?_
          refine lv_irem hx_ hb_ dX1_spell_76 (by decide) ?_
          refine lv_iadd hx_ hb_ dX1_spell_77 ?_
          refine ct_Vi (wr := [(h, .inr (1, [.int v, .ref b])), (b, .inl (k 0, 78, .inl g))]) (rest := []) (As := [.int (6 + ((al_from g c1 78 0) - (al_from g c1 78 0) / 26 * 26))]) ⟨hx_, hb_, hml_, hown_, hts_⟩ (k_X5_add l D k h2 a2 cap (rw_a cap (al_sh v ((al_from g c1 78 0) / 26)) t) (6 + ((al_from g c1 78 0) - (al_from g c1 78 0) / 26 * 26)) (by first | omega | (repeat (first | assumption | apply rw_a_le))) (by first | omega | (repeat (first | assumption | apply rw_a_le)))) (cwV 1 hts_ (gd_in (gw_V wa_m_X1_38 wa_y_X5_add wa_s_X5_add wa_i_X5 wa_k_X5_add)) rfl rfl rfl (by decide +kernel) ⟨Nat.le_of_ble_eq_true rfl, Nat.le_of_ble_eq_true rfl⟩) hK hP hD hS hA [2, 3] [0, 1] rfl rfl rfl rfl (by decide) 5 rfl rfl rfl hl.1 rfl rfl (Nat.le_of_ble_eq_true rfl) dX1_spell_78 ⟨Nat.le_of_ble_eq_true rfl, Nat.le_of_ble_eq_true rfl⟩ (fun rr13 w1 H locs ww14 hP hD hS => ?_)
          obtain ⟨rfl, rfl⟩ := ww14
          have hP : va_P D vwCl [(h, .inr (1, [.int v, .ref b])), (b, .inl (k 0, 78, .inl g)), (h2, .inr (5, [.ref a2, .int (nI ((rw_a cap (6 + ((al_from g c1 78 0) - (al_from g c1 78 0) / 26 * 26)) (rw_a cap (al_sh v ((al_from g c1 78 0) / 26)) t)).1))])), (a2, .inl (k 0, cap, .inl ((rw_a cap (6 + ((al_from g c1 78 0) - (al_from g c1 78 0) / 26 * 26)) (rw_a cap (al_sh v ((al_from g c1 78 0) / 26)) t)).2)))] H := hP
          have hD : va_D A_0 [(h, .inr (1, [.int v, .ref b])), (b, .inl (k 0, 78, .inl g)), (h2, .inr (5, [.ref a2, .int (nI ((rw_a cap (6 + ((al_from g c1 78 0) - (al_from g c1 78 0) / 26 * 26)) (rw_a cap (al_sh v ((al_from g c1 78 0) / 26)) t)).1))])), (a2, .inl (k 0, cap, .inl ((rw_a cap (6 + ((al_from g c1 78 0) - (al_from g c1 78 0) / 26 * 26)) (rw_a cap (al_sh v ((al_from g c1 78 0) / 26)) t)).2)))] := hD
          refine W.cs (cells' := 0) (slots' := 0) rfl rfl ?_
          refine lv_pop hx_ hb_ dX1_spell_81 rfl ?_
          have eq1 : (nI ((rw_a cap (6 + ((al_from g c1 78 0) - (al_from g c1 78 0) / 26 * 26)) (rw_a cap (al_sh v ((al_from g c1 78 0) / 26)) t)).1) : Int32) = nI ((sp cap v g c1 t).1) := by simp [sp, sp_let, eq_false cc1, eq_false cc2, eq_true cc5, eq_false cc6]
          have eq2 : ((rw_a cap (6 + ((al_from g c1 78 0) - (al_from g c1 78 0) / 26 * 26)) (rw_a cap (al_sh v ((al_from g c1 78 0) / 26)) t)).2 : Nat → Int32) = (sp cap v g c1 t).2 := by simp [sp, sp_let, eq_false cc1, eq_false cc2, eq_true cc5, eq_false cc6]
          exact ct_vret C_0 (hP.sub [0, 1, 2, 3] rfl) (hD.sub [0, 1, 2, 3] (by decide) rfl) hS (Nat.le_of_ble_eq_true rfl) (Nat.le_of_ble_eq_true rfl) dX1_spell_82 (congr (congrArg (fun (z1 : Int32) (z2 : Nat → Int32) => ([(h, .inr (1, [.int v, .ref b])), (b, .inl (k 0, 78, .inl g)), (h2, .inr (5, [.ref a2, .int z1])), (a2, .inl (k 0, cap, .inl z2))] : va_W)) eq1) eq2)
      · skip
        refine lv_aload_n hx_ hb_ dX1_spell_44 rfl (lv_at hl 1 rfl) ?_
        refine lv_iload_n hx_ hb_ dX1_spell_45 rfl (lv_at hl 2 rfl) ?_
        refine lv_aload_n hx_ hb_ dX1_spell_46 rfl (lv_at hl 3 rfl) ?_
        refine ct_Vv (wr := []) (rest := []) (As := [.int c1, .ref h2]) ⟨hx_, hb_, hml_, hown_, hts_⟩ (k_X1_spellCode l D k h b v g h2 a2 cap t c1 (by first | omega | (repeat (first | assumption | apply rw_a_le))) (by first | omega | (repeat (first | assumption | apply rw_a_le)))) (cwV 2 hts_ (gd_in (gw_V wa_m_X1_48 wa_y_X1_spellCode wa_s_X1_spellCode wa_i_X1 wa_k_X1_spellCode)) rfl rfl rfl (by decide +kernel) ⟨Nat.le_of_ble_eq_true rfl, Nat.le_of_ble_eq_true rfl⟩) hK hP hD hS hA [2, 3, 0, 1] [] rfl rfl rfl rfl (by decide) 1 rfl rfl rfl hl.1 rfl rfl (Nat.le_of_ble_eq_true rfl) dX1_spell_47 ⟨Nat.le_of_ble_eq_true rfl, Nat.le_of_ble_eq_true rfl⟩ (fun w1 H locs ww16 hP hD hS => ?_)
        obtain rfl := ww16
        have hP : va_P D vwCl [(h, .inr (1, [.int v, .ref b])), (b, .inl (k 0, 78, .inl g)), (h2, .inr (5, [.ref a2, .int (nI ((sp_code cap v c1 t).1))])), (a2, .inl (k 0, cap, .inl ((sp_code cap v c1 t).2)))] H := hP
        have hD : va_D A_0 [(h, .inr (1, [.int v, .ref b])), (b, .inl (k 0, 78, .inl g)), (h2, .inr (5, [.ref a2, .int (nI ((sp_code cap v c1 t).1))])), (a2, .inl (k 0, cap, .inl ((sp_code cap v c1 t).2)))] := hD
        refine W.cs (cells' := 0) (slots' := 0) rfl rfl ?_
        have eq1 : (nI ((sp_code cap v c1 t).1) : Int32) = nI ((sp cap v g c1 t).1) := by simp [sp, sp_let, eq_false cc1, eq_false cc2, eq_false cc5]
        have eq2 : ((sp_code cap v c1 t).2 : Nat → Int32) = (sp cap v g c1 t).2 := by simp [sp, sp_let, eq_false cc1, eq_false cc2, eq_false cc5]
        exact ct_vret C_0 (hP.sub [0, 1, 2, 3] rfl) (hD.sub [0, 1, 2, 3] (by decide) rfl) hS (Nat.le_of_ble_eq_true rfl) (Nat.le_of_ble_eq_true rfl) dX1_spell_50 (congr (congrArg (fun (z1 : Int32) (z2 : Nat → Int32) => ([(h, .inr (1, [.int v, .ref b])), (b, .inl (k 0, 78, .inl g)), (h2, .inr (5, [.ref a2, .int z1])), (a2, .inl (k 0, cap, .inl z2))] : va_W)) eq1) eq2)
    · skip
      refine lv_aload_n hx_ hb_ dX1_spell_19 rfl (lv_at hl 0 rfl) ?_
      refine va_get (D := D) (ci := 1) (v := .int v) (C := RX1) (T := TX1) (N := 2) hx_ hb_ hts_ inM_X1 hown_ hK.1 hP 0 rfl rfl 0 (by decide) (hts_ _ (List.mem_cons_of_mem _ wa_f_X1_9)) (fun _ h9 => h9) rfl dX1_spell_20 ?_
      refine lv_iconst (v := 1) hx_ hb_ dX1_spell_23 (by decide) ?_
      refine lv_icmp_ne (tgt := 34) hx_ hb_ dX1_spell_24 (by decide) (fun cc17 => ?_) (fun cc17 => ?_)
      · skip
        refine lv_aload_n hx_ hb_ dX1_spell_34 rfl (lv_at hl 0 rfl) ?_
        refine lv_iload_n hx_ hb_ dX1_spell_35 rfl (lv_at hl 1 rfl) ?_
        refine ct_Vi (wr := [(h2, .inr (5, [.ref a2, .int (nI (t.1))])), (a2, .inl (k 0, cap, .inl t.2))]) (rest := []) (As := [.int c1]) ⟨hx_, hb_, hml_, hown_, hts_⟩ (k_X1_firstLetter l D k h b v g c1 ) (cwV 1 hts_ (gd_in (gw_V wa_m_X1_44 wa_y_X1_firstLetter wa_s_X1_firstLetter wa_i_X1 wa_k_X1_firstLetter)) rfl rfl rfl (by decide +kernel) ⟨Nat.le_of_ble_eq_true rfl, Nat.le_of_ble_eq_true rfl⟩) hK hP hD hS hA [0, 1] [2, 3] rfl rfl rfl rfl (by decide) 1 rfl rfl rfl hl.1 rfl rfl (Nat.le_of_ble_eq_true rfl) dX1_spell_36 ⟨Nat.le_of_ble_eq_true rfl, Nat.le_of_ble_eq_true rfl⟩ (fun rr18 w1 H locs ww19 hP hD hS => ?_)
        obtain ⟨rfl, rfl⟩ := ww19
        have hP : va_P D vwCl [(h2, .inr (5, [.ref a2, .int (nI (t.1))])), (a2, .inl (k 0, cap, .inl t.2)), (h, .inr (1, [.int v, .ref b])), (b, .inl (k 0, 78, .inl g))] H := hP
        have hD : va_D A_0 [(h2, .inr (5, [.ref a2, .int (nI (t.1))])), (a2, .inl (k 0, cap, .inl t.2)), (h, .inr (1, [.int v, .ref b])), (b, .inl (k 0, 78, .inl g))] := hD
        refine W.cs (cells' := 0) (slots' := 0) rfl rfl ?_
        refine lv_istore_n (lv' := [(3, .int (al_from g c1 78 0)), (0, .ref h), (1, .int c1), (2, .ref h2)]) hx_ hb_ dX1_spell_39 rfl hl (by decide) rfl (fun ls hl => ?_)
        refine lv_iload_n hx_ hb_ dX1_spell_40 rfl (lv_at hl 0 rfl) ?_
        refine lv_if_ge (tgt := 51) hx_ hb_ dX1_spell_41 (by decide) (fun cc20 => ?_) (fun cc20 => ?_)
        · skip
          refine lv_iload_n hx_ hb_ dX1_spell_51 rfl (lv_at hl 0 rfl) ?_
          refine lv_bipush (v := 26) hx_ hb_ dX1_spell_52 (by decide) ?_
          refine lv_icmp_lt (tgt := 70) hx_ hb_ dX1_spell_54 (by decide) (fun cc21 => ?_) (fun cc21 => ?_)
          · skip
            refine lv_aload_n hx_ hb_ dX1_spell_70 rfl (lv_at hl 3 rfl) ?_
            refine lv_bipush (v := 6) hx_ hb_ dX1_spell_71 (by decide) ?_
            refine lv_iload_n hx_ hb_ dX1_spell_73 rfl (lv_at hl 0 rfl) ?_
            refine lv_bipush (v := 26) hx_ hb_ dX1_spell_74 (by decide) ?_
            refine lv_irem hx_ hb_ dX1_spell_76 (by decide) ?_
            refine lv_iadd hx_ hb_ dX1_spell_77 ?_
            refine ct_Vi (wr := [(h, .inr (1, [.int v, .ref b])), (b, .inl (k 0, 78, .inl g))]) (rest := []) (As := [.int (6 + ((al_from g c1 78 0) - (al_from g c1 78 0) / 26 * 26))]) ⟨hx_, hb_, hml_, hown_, hts_⟩ (k_X5_add l D k h2 a2 cap t (6 + ((al_from g c1 78 0) - (al_from g c1 78 0) / 26 * 26)) (by first | omega | (repeat (first | assumption | apply rw_a_le))) (by first | omega | (repeat (first | assumption | apply rw_a_le)))) (cwV 1 hts_ (gd_in (gw_V wa_m_X1_38 wa_y_X5_add wa_s_X5_add wa_i_X5 wa_k_X5_add)) rfl rfl rfl (by decide +kernel) ⟨Nat.le_of_ble_eq_true rfl, Nat.le_of_ble_eq_true rfl⟩) hK hP hD hS hA [0, 1] [2, 3] rfl rfl rfl rfl (by decide) 5 rfl rfl rfl hl.1 rfl rfl (Nat.le_of_ble_eq_true rfl) dX1_spell_78 ⟨Nat.le_of_ble_eq_true rfl, Nat.le_of_ble_eq_true rfl⟩ (fun rr22 w1 H locs ww23 hP hD hS => ?_)
            obtain ⟨rfl, rfl⟩ := ww23
            have hP : va_P D vwCl [(h, .inr (1, [.int v, .ref b])), (b, .inl (k 0, 78, .inl g)), (h2, .inr (5, [.ref a2, .int (nI ((rw_a cap (6 + ((al_from g c1 78 0) - (al_from g c1 78 0) / 26 * 26)) t).1))])), (a2, .inl (k 0, cap, .inl ((rw_a cap (6 + ((al_from g c1 78 0) - (al_from g c1 78 0) / 26 * 26)) t).2)))] H := hP
            have hD : va_D A_0 [(h, .inr (1, [.int v, .ref b])), (b, .inl (k 0, 78, .inl g)), (h2, .inr (5, [.ref a2, .int (nI ((rw_a cap (6 + ((al_from g c1 78 0) - (al_from g c1 78 0) / 26 * 26)) t).1))])), (a2, .inl (k 0, cap, .inl ((rw_a cap (6 + ((al_from g c1 78 0) - (al_from g c1 78 0) / 26 * 26)) t).2)))] := hD
            refine W.cs (cells' := 0) (slots' := 0) rfl rfl ?_
            refine lv_pop hx_ hb_ dX1_spell_81 rfl ?_
            have eq1 : (nI ((rw_a cap (6 + ((al_from g c1 78 0) - (al_from g c1 78 0) / 26 * 26)) t).1) : Int32) = nI ((sp cap v g c1 t).1) := by simp [sp, sp_let, eq_false cc1, eq_true cc2, eq_false cc17, eq_true cc20, eq_true cc21]
            have eq2 : ((rw_a cap (6 + ((al_from g c1 78 0) - (al_from g c1 78 0) / 26 * 26)) t).2 : Nat → Int32) = (sp cap v g c1 t).2 := by simp [sp, sp_let, eq_false cc1, eq_true cc2, eq_false cc17, eq_true cc20, eq_true cc21]
            exact ct_vret C_0 (hP.sub [0, 1, 2, 3] rfl) (hD.sub [0, 1, 2, 3] (by decide) rfl) hS (Nat.le_of_ble_eq_true rfl) (Nat.le_of_ble_eq_true rfl) dX1_spell_82 (congr (congrArg (fun (z1 : Int32) (z2 : Nat → Int32) => ([(h, .inr (1, [.int v, .ref b])), (b, .inl (k 0, 78, .inl g)), (h2, .inr (5, [.ref a2, .int z1])), (a2, .inl (k 0, cap, .inl z2))] : va_W)) eq1) eq2)
          · skip
            refine lv_aload_n hx_ hb_ dX1_spell_57 rfl (lv_at hl 3 rfl) ?_
            refine lv_aload_n hx_ hb_ dX1_spell_58 rfl (lv_at hl 1 rfl) ?_
            refine lv_iload_n hx_ hb_ dX1_spell_59 rfl (lv_at hl 0 rfl) ?_
            refine lv_bipush (v := 26) hx_ hb_ dX1_spell_60 (by decide) ?_
            refine lv_idiv hx_ hb_ dX1_spell_62 (by decide) ?_
            refine ct_Vi (wr := [(h2, .inr (5, [.ref a2, .int (nI (t.1))])), (a2, .inl (k 0, cap, .inl t.2))]) (rest := [.ref h2]) (As := [.int ((al_from g c1 78 0) / 26)]) ⟨hx_, hb_, hml_, hown_, hts_⟩ (k_X1_shiftTo l D k h b v g ((al_from g c1 78 0) / 26) ) (cwV 1 hts_ (gd_in (gw_V wa_m_X1_52 wa_y_X1_shiftTo wa_s_X1_shiftTo wa_i_X1 wa_k_X1_shiftTo)) rfl rfl rfl (by decide +kernel) ⟨Nat.le_of_ble_eq_true rfl, Nat.le_of_ble_eq_true rfl⟩) hK hP hD hS hA [2, 3] [0, 1] rfl rfl rfl rfl (by decide) 1 rfl rfl rfl hl.1 rfl rfl (Nat.le_of_ble_eq_true rfl) dX1_spell_63 ⟨Nat.le_of_ble_eq_true rfl, Nat.le_of_ble_eq_true rfl⟩ (fun rr24 w1 H locs ww25 hP hD hS => ?_)
            obtain ⟨rfl, rfl⟩ := ww25
            have hP : va_P D vwCl [(h2, .inr (5, [.ref a2, .int (nI (t.1))])), (a2, .inl (k 0, cap, .inl t.2)), (h, .inr (1, [.int v, .ref b])), (b, .inl (k 0, 78, .inl g))] H := hP
            have hD : va_D A_0 [(h2, .inr (5, [.ref a2, .int (nI (t.1))])), (a2, .inl (k 0, cap, .inl t.2)), (h, .inr (1, [.int v, .ref b])), (b, .inl (k 0, 78, .inl g))] := hD
            refine W.cs (cells' := 0) (slots' := 0) rfl rfl ?_
            refine ct_Vi (wr := [(h, .inr (1, [.int v, .ref b])), (b, .inl (k 0, 78, .inl g))]) (rest := []) (As := [.int (al_sh v ((al_from g c1 78 0) / 26))]) ⟨hx_, hb_, hml_, hown_, hts_⟩ (k_X5_add l D k h2 a2 cap t (al_sh v ((al_from g c1 78 0) / 26)) (by first | omega | (repeat (first | assumption | apply rw_a_le))) (by first | omega | (repeat (first | assumption | apply rw_a_le)))) (cwV 1 hts_ (gd_in (gw_V wa_m_X1_38 wa_y_X5_add wa_s_X5_add wa_i_X5 wa_k_X5_add)) rfl rfl rfl (by decide +kernel) ⟨Nat.le_of_ble_eq_true rfl, Nat.le_of_ble_eq_true rfl⟩) hK hP hD hS hA [0, 1] [2, 3] rfl rfl rfl rfl (by decide) 5 rfl rfl rfl hl.1 rfl rfl (Nat.le_of_ble_eq_true rfl) dX1_spell_66 ⟨Nat.le_of_ble_eq_true rfl, Nat.le_of_ble_eq_true rfl⟩ (fun rr26 w1 H locs ww27 hP hD hS => ?_)
            obtain ⟨rfl, rfl⟩ := ww27
            have hP : va_P D vwCl [(h, .inr (1, [.int v, .ref b])), (b, .inl (k 0, 78, .inl g)), (h2, .inr (5, [.ref a2, .int (nI ((rw_a cap (al_sh v ((al_from g c1 78 0) / 26)) t).1))])), (a2, .inl (k 0, cap, .inl ((rw_a cap (al_sh v ((al_from g c1 78 0) / 26)) t).2)))] H := hP
            have hD : va_D A_0 [(h, .inr (1, [.int v, .ref b])), (b, .inl (k 0, 78, .inl g)), (h2, .inr (5, [.ref a2, .int (nI ((rw_a cap (al_sh v ((al_from g c1 78 0) / 26)) t).1))])), (a2, .inl (k 0, cap, .inl ((rw_a cap (al_sh v ((al_from g c1 78 0) / 26)) t).2)))] := hD
            refine W.cs (cells' := 0) (slots' := 0) rfl rfl ?_
            refine lv_pop hx_ hb_ dX1_spell_69 rfl ?_
            refine lv_aload_n hx_ hb_ dX1_spell_70 rfl (lv_at hl 3 rfl) ?_
            refine lv_bipush (v := 6) hx_ hb_ dX1_spell_71 (by decide) ?_
            refine lv_iload_n hx_ hb_ dX1_spell_73 rfl (lv_at hl 0 rfl) ?_
            refine lv_bipush (v := 26) hx_ hb_ dX1_spell_74 (by decide) ?_
            refine lv_irem hx_ hb_ dX1_spell_76 (by decide) ?_
            refine lv_iadd hx_ hb_ dX1_spell_77 ?_
            refine ct_Vi (wr := [(h, .inr (1, [.int v, .ref b])), (b, .inl (k 0, 78, .inl g))]) (rest := []) (As := [.int (6 + ((al_from g c1 78 0) - (al_from g c1 78 0) / 26 * 26))]) ⟨hx_, hb_, hml_, hown_, hts_⟩ (k_X5_add l D k h2 a2 cap (rw_a cap (al_sh v ((al_from g c1 78 0) / 26)) t) (6 + ((al_from g c1 78 0) - (al_from g c1 78 0) / 26 * 26)) (by first | omega | (repeat (first | assumption | apply rw_a_le))) (by first | omega | (repeat (first | assumption | apply rw_a_le)))) (cwV 1 hts_ (gd_in (gw_V wa_m_X1_38 wa_y_X5_add wa_s_X5_add wa_i_X5 wa_k_X5_add)) rfl rfl rfl (by decide +kernel) ⟨Nat.le_of_ble_eq_true rfl, Nat.le_of_ble_eq_true rfl⟩) hK hP hD hS hA [2, 3] [0, 1] rfl rfl rfl rfl (by decide) 5 rfl rfl rfl hl.1 rfl rfl (Nat.le_of_ble_eq_true rfl) dX1_spell_78 ⟨Nat.le_of_ble_eq_true rfl, Nat.le_of_ble_eq_true rfl⟩ (fun rr28 w1 H locs ww29 hP hD hS => ?_)
            obtain ⟨rfl, rfl⟩ := ww29
            have hP : va_P D vwCl [(h, .inr (1, [.int v, .ref b])), (b, .inl (k 0, 78, .inl g)), (h2, .inr (5, [.ref a2, .int (nI ((rw_a cap (6 + ((al_from g c1 78 0) - (al_from g c1 78 0) / 26 * 26)) (rw_a cap (al_sh v ((al_from g c1 78 0) / 26)) t)).1))])), (a2, .inl (k 0, cap, .inl ((rw_a cap (6 + ((al_from g c1 78 0) - (al_from g c1 78 0) / 26 * 26)) (rw_a cap (al_sh v ((al_from g c1 78 0) / 26)) t)).2)))] H := hP
            have hD : va_D A_0 [(h, .inr (1, [.int v, .ref b])), (b, .inl (k 0, 78, .inl g)), (h2, .inr (5, [.ref a2, .int (nI ((rw_a cap (6 + ((al_from g c1 78 0) - (al_from g c1 78 0) / 26 * 26)) (rw_a cap (al_sh v ((al_from g c1 78 0) / 26)) t)).1))])), (a2, .inl (k 0, cap, .inl ((rw_a cap (6 + ((al_from g c1 78 0) - (al_from g c1 78 0) / 26 * 26)) (rw_a cap (al_sh v ((al_from g c1 78 0) / 26)) t)).2)))] := hD
            refine W.cs (cells' := 0) (slots' := 0) rfl rfl ?_
            refine lv_pop hx_ hb_ dX1_spell_81 rfl ?_
            have eq1 : (nI ((rw_a cap (6 + ((al_from g c1 78 0) - (al_from g c1 78 0) / 26 * 26)) (rw_a cap (al_sh v ((al_from g c1 78 0) / 26)) t)).1) : Int32) = nI ((sp cap v g c1 t).1) := by simp [sp, sp_let, eq_false cc1, eq_true cc2, eq_false cc17, eq_true cc20, eq_false cc21]
            have eq2 : ((rw_a cap (6 + ((al_from g c1 78 0) - (al_from g c1 78 0) / 26 * 26)) (rw_a cap (al_sh v ((al_from g c1 78 0) / 26)) t)).2 : Nat → Int32) = (sp cap v g c1 t).2 := by simp [sp, sp_let, eq_false cc1, eq_true cc2, eq_false cc17, eq_true cc20, eq_false cc21]
            exact ct_vret C_0 (hP.sub [0, 1, 2, 3] rfl) (hD.sub [0, 1, 2, 3] (by decide) rfl) hS (Nat.le_of_ble_eq_true rfl) (Nat.le_of_ble_eq_true rfl) dX1_spell_82 (congr (congrArg (fun (z1 : Int32) (z2 : Nat → Int32) => ([(h, .inr (1, [.int v, .ref b])), (b, .inl (k 0, 78, .inl g)), (h2, .inr (5, [.ref a2, .int z1])), (a2, .inl (k 0, cap, .inl z2))] : va_W)) eq1) eq2)
        · skip
          refine lv_aload_n hx_ hb_ dX1_spell_44 rfl (lv_at hl 1 rfl) ?_
          refine lv_iload_n hx_ hb_ dX1_spell_45 rfl (lv_at hl 2 rfl) ?_
          refine lv_aload_n hx_ hb_ dX1_spell_46 rfl (lv_at hl 3 rfl) ?_
          refine ct_Vv (wr := []) (rest := []) (As := [.int c1, .ref h2]) ⟨hx_, hb_, hml_, hown_, hts_⟩ (k_X1_spellCode l D k h b v g h2 a2 cap t c1 (by first | omega | (repeat (first | assumption | apply rw_a_le))) (by first | omega | (repeat (first | assumption | apply rw_a_le)))) (cwV 2 hts_ (gd_in (gw_V wa_m_X1_48 wa_y_X1_spellCode wa_s_X1_spellCode wa_i_X1 wa_k_X1_spellCode)) rfl rfl rfl (by decide +kernel) ⟨Nat.le_of_ble_eq_true rfl, Nat.le_of_ble_eq_true rfl⟩) hK hP hD hS hA [2, 3, 0, 1] [] rfl rfl rfl rfl (by decide) 1 rfl rfl rfl hl.1 rfl rfl (Nat.le_of_ble_eq_true rfl) dX1_spell_47 ⟨Nat.le_of_ble_eq_true rfl, Nat.le_of_ble_eq_true rfl⟩ (fun w1 H locs ww31 hP hD hS => ?_)
          obtain rfl := ww31
          have hP : va_P D vwCl [(h, .inr (1, [.int v, .ref b])), (b, .inl (k 0, 78, .inl g)), (h2, .inr (5, [.ref a2, .int (nI ((sp_code cap v c1 t).1))])), (a2, .inl (k 0, cap, .inl ((sp_code cap v c1 t).2)))] H := hP
          have hD : va_D A_0 [(h, .inr (1, [.int v, .ref b])), (b, .inl (k 0, 78, .inl g)), (h2, .inr (5, [.ref a2, .int (nI ((sp_code cap v c1 t).1))])), (a2, .inl (k 0, cap, .inl ((sp_code cap v c1 t).2)))] := hD
          refine W.cs (cells' := 0) (slots' := 0) rfl rfl ?_
          have eq1 : (nI ((sp_code cap v c1 t).1) : Int32) = nI ((sp cap v g c1 t).1) := by simp [sp, sp_let, eq_false cc1, eq_true cc2, eq_false cc17, eq_false cc20]
          have eq2 : ((sp_code cap v c1 t).2 : Nat → Int32) = (sp cap v g c1 t).2 := by simp [sp, sp_let, eq_false cc1, eq_true cc2, eq_false cc17, eq_false cc20]
          exact ct_vret C_0 (hP.sub [0, 1, 2, 3] rfl) (hD.sub [0, 1, 2, 3] (by decide) rfl) hS (Nat.le_of_ble_eq_true rfl) (Nat.le_of_ble_eq_true rfl) dX1_spell_50 (congr (congrArg (fun (z1 : Int32) (z2 : Nat → Int32) => ([(h, .inr (1, [.int v, .ref b])), (b, .inl (k 0, 78, .inl g)), (h2, .inr (5, [.ref a2, .int z1])), (a2, .inl (k 0, cap, .inl z2))] : va_W)) eq1) eq2)
      · skip
        refine lv_aload_n hx_ hb_ dX1_spell_27 rfl (lv_at hl 2 rfl) ?_
        refine lv_iconst (v := 1) hx_ hb_ dX1_spell_28 (by decide) ?_
        refine ct_Vi (wr := [(h, .inr (1, [.int v, .ref b])), (b, .inl (k 0, 78, .inl g))]) (rest := []) (As := [.int 1]) ⟨hx_, hb_, hml_, hown_, hts_⟩ (k_X5_add l D k h2 a2 cap t 1 (by first | omega | (repeat (first | assumption | apply rw_a_le))) (by first | omega | (repeat (first | assumption | apply rw_a_le)))) (cwV 1 hts_ (gd_in (gw_V wa_m_X1_38 wa_y_X5_add wa_s_X5_add wa_i_X5 wa_k_X5_add)) rfl rfl rfl (by decide +kernel) ⟨Nat.le_of_ble_eq_true rfl, Nat.le_of_ble_eq_true rfl⟩) hK hP hD hS hA [2, 3] [0, 1] rfl rfl rfl rfl (by decide) 5 rfl rfl rfl hl.1 rfl rfl (Nat.le_of_ble_eq_true rfl) dX1_spell_29 ⟨Nat.le_of_ble_eq_true rfl, Nat.le_of_ble_eq_true rfl⟩ (fun rr32 w1 H locs ww33 hP hD hS => ?_)
        obtain ⟨rfl, rfl⟩ := ww33
        have hP : va_P D vwCl [(h, .inr (1, [.int v, .ref b])), (b, .inl (k 0, 78, .inl g)), (h2, .inr (5, [.ref a2, .int (nI ((rw_a cap 1 t).1))])), (a2, .inl (k 0, cap, .inl ((rw_a cap 1 t).2)))] H := hP
        have hD : va_D A_0 [(h, .inr (1, [.int v, .ref b])), (b, .inl (k 0, 78, .inl g)), (h2, .inr (5, [.ref a2, .int (nI ((rw_a cap 1 t).1))])), (a2, .inl (k 0, cap, .inl ((rw_a cap 1 t).2)))] := hD
        refine W.cs (cells' := 0) (slots' := 0) rfl rfl ?_
        refine lv_pop hx_ hb_ dX1_spell_32 rfl ?_
        have eq1 : (nI ((rw_a cap 1 t).1) : Int32) = nI ((sp cap v g c1 t).1) := by simp [sp, sp_let, eq_false cc1, eq_true cc2, eq_true cc17]
        have eq2 : ((rw_a cap 1 t).2 : Nat → Int32) = (sp cap v g c1 t).2 := by simp [sp, sp_let, eq_false cc1, eq_true cc2, eq_true cc17]
        exact ct_vret C_0 (hP.sub [0, 1, 2, 3] rfl) (hD.sub [0, 1, 2, 3] (by decide) rfl) hS (Nat.le_of_ble_eq_true rfl) (Nat.le_of_ble_eq_true rfl) dX1_spell_33 (congr (congrArg (fun (z1 : Int32) (z2 : Nat → Int32) => ([(h, .inr (1, [.int v, .ref b])), (b, .inl (k 0, 78, .inl g)), (h2, .inr (5, [.ref a2, .int z1])), (a2, .inl (k 0, cap, .inl z2))] : va_W)) eq1) eq2)
  · skip
    refine lv_aload_n hx_ hb_ dX1_spell_6 rfl (lv_at hl 2 rfl) ?_
    refine lv_iconst (v := 0) hx_ hb_ dX1_spell_7 (by decide) ?_
    refine ct_Vi (wr := [(h, .inr (1, [.int v, .ref b])), (b, .inl (k 0, 78, .inl g))]) (rest := []) (As := [.int 0]) ⟨hx_, hb_, hml_, hown_, hts_⟩ (k_X5_add l D k h2 a2 cap t 0 (by first | omega | (repeat (first | assumption | apply rw_a_le))) (by first | omega | (repeat (first | assumption | apply rw_a_le)))) (cwV 1 hts_ (gd_in (gw_V wa_m_X1_38 wa_y_X5_add wa_s_X5_add wa_i_X5 wa_k_X5_add)) rfl rfl rfl (by decide +kernel) ⟨Nat.le_of_ble_eq_true rfl, Nat.le_of_ble_eq_true rfl⟩) hK hP hD hS hA [2, 3] [0, 1] rfl rfl rfl rfl (by decide) 5 rfl rfl rfl hl.1 rfl rfl (Nat.le_of_ble_eq_true rfl) dX1_spell_8 ⟨Nat.le_of_ble_eq_true rfl, Nat.le_of_ble_eq_true rfl⟩ (fun rr34 w1 H locs ww35 hP hD hS => ?_)
    obtain ⟨rfl, rfl⟩ := ww35
    have hP : va_P D vwCl [(h, .inr (1, [.int v, .ref b])), (b, .inl (k 0, 78, .inl g)), (h2, .inr (5, [.ref a2, .int (nI ((rw_a cap 0 t).1))])), (a2, .inl (k 0, cap, .inl ((rw_a cap 0 t).2)))] H := hP
    have hD : va_D A_0 [(h, .inr (1, [.int v, .ref b])), (b, .inl (k 0, 78, .inl g)), (h2, .inr (5, [.ref a2, .int (nI ((rw_a cap 0 t).1))])), (a2, .inl (k 0, cap, .inl ((rw_a cap 0 t).2)))] := hD
    refine W.cs (cells' := 0) (slots' := 0) rfl rfl ?_
    refine lv_pop hx_ hb_ dX1_spell_11 rfl ?_
    have eq1 : (nI ((rw_a cap 0 t).1) : Int32) = nI ((sp cap v g c1 t).1) := by simp [sp, sp_let, eq_true cc1]
    have eq2 : ((rw_a cap 0 t).2 : Nat → Int32) = (sp cap v g c1 t).2 := by simp [sp, sp_let, eq_true cc1]
    exact ct_vret C_0 (hP.sub [0, 1, 2, 3] rfl) (hD.sub [0, 1, 2, 3] (by decide) rfl) hS (Nat.le_of_ble_eq_true rfl) (Nat.le_of_ble_eq_true rfl) dX1_spell_12 (congr (congrArg (fun (z1 : Int32) (z2 : Nat → Int32) => ([(h, .inr (1, [.int v, .ref b])), (b, .inl (k 0, 78, .inl g)), (h2, .inr (5, [.ref a2, .int z1])), (a2, .inl (k 0, cap, .inl z2))] : va_W)) eq1) eq2)
abbrev po_X4_begin (k : Nat → ClassId) (h : Nat) (ha : Nat) (v : Int32) (r : RS) : va_W → Prop := fun w1 => w1 = [(h, .inr (4, [.int v, .ref ha, .int rd_0.1, .int rd_0.2.1, .int rd_0.2.2.1, .int rd_0.2.2.2]))]
set_option maxHeartbeats 4000000 in
set_option maxRecDepth 100000 in
/-- begin() -/
theorem k_X4_begin (l : Launch) (D : va_G) (k : Nat → ClassId) (h : Nat) (ha : Nat) (v : Int32) (r : RS)  : ct_v l D (TY k) yX4_begin wsX4_begin ({ frames := 0, cells := 0, slots := 0, locals := 0 } : Room) [.ref h] [(h, .inr (4, [.int v, .ref ha, .int r.1, .int r.2.1, .int r.2.2.1, .int r.2.2.2]))] (po_X4_begin k h ha v r) := by
  refine ct_v_of (cc := cX4_begin) (nL := 1) (rt := none) (by decide) rfl (Nat.le_of_ble_eq_true rfl) ?_
  intro p_ e_ s_0 m_0 below_ meth_ c_0 A_0 C_0 hP hK hD hS hA ls hl
  obtain ⟨hx_, hb_, hml_, hr_, hown_, hlk_, hnm_, hts_⟩ := id C_0
  have hl : lv_has ls 1 [(0, .ref h)] := hl
  refine lv_aload_n hx_ hb_ dX4_begin_0 rfl (lv_at hl 0 rfl) ?_
  refine lv_iconst (v := 0) hx_ hb_ dX4_begin_1 (by decide) ?_
  refine va_put (D := D) (ci := 4) (v := .int 0) (ty := .int) (C := RX4) (T := TX4) (N := 6) hx_ hb_ hts_ inM_X4 tyX4 tyX4_ok nmX4 hown_ hK.1 hP hD hS 0 rfl rfl 2 (by decide) (hts_ _ (List.mem_cons_of_mem _ wa_f_X4_22)) (fun _ h9 => h9) rfl (by decide +kernel) rfl rfl (Nat.le_of_ble_eq_true rfl) dX4_begin_2 (fun H locs hP hD hS => ?_)
  have hP : va_P D vwCl [(h, .inr (4, [.int v, .ref ha, .int 0, .int r.2.1, .int r.2.2.1, .int r.2.2.2]))] H := hP
  have hD : va_D A_0 [(h, .inr (4, [.int v, .ref ha, .int 0, .int r.2.1, .int r.2.2.1, .int r.2.2.2]))] := hD
  refine lv_aload_n hx_ hb_ dX4_begin_5 rfl (lv_at hl 0 rfl) ?_
  refine lv_iconst (v := (-1)) hx_ hb_ dX4_begin_6 (by decide) ?_
  refine va_put (D := D) (ci := 4) (v := .int (-1)) (ty := .int) (C := RX4) (T := TX4) (N := 6) hx_ hb_ hts_ inM_X4 tyX4 tyX4_ok nmX4 hown_ hK.1 hP hD hS 0 rfl rfl 3 (by decide) (hts_ _ (List.mem_cons_of_mem _ wa_f_X4_25)) (fun _ h9 => h9) rfl (by decide +kernel) rfl rfl (Nat.le_of_ble_eq_true rfl) dX4_begin_7 (fun H locs hP hD hS => ?_)
  have hP : va_P D vwCl [(h, .inr (4, [.int v, .ref ha, .int 0, .int (-1), .int r.2.2.1, .int r.2.2.2]))] H := hP
  have hD : va_D A_0 [(h, .inr (4, [.int v, .ref ha, .int 0, .int (-1), .int r.2.2.1, .int r.2.2.2]))] := hD
  refine lv_aload_n hx_ hb_ dX4_begin_10 rfl (lv_at hl 0 rfl) ?_
  refine lv_iconst (v := 0) hx_ hb_ dX4_begin_11 (by decide) ?_
  refine va_put (D := D) (ci := 4) (v := .int 0) (ty := .int) (C := RX4) (T := TX4) (N := 6) hx_ hb_ hts_ inM_X4 tyX4 tyX4_ok nmX4 hown_ hK.1 hP hD hS 0 rfl rfl 4 (by decide) (hts_ _ (List.mem_cons_of_mem _ wa_f_X4_28)) (fun _ h9 => h9) rfl (by decide +kernel) rfl rfl (Nat.le_of_ble_eq_true rfl) dX4_begin_12 (fun H locs hP hD hS => ?_)
  have hP : va_P D vwCl [(h, .inr (4, [.int v, .ref ha, .int 0, .int (-1), .int 0, .int r.2.2.2]))] H := hP
  have hD : va_D A_0 [(h, .inr (4, [.int v, .ref ha, .int 0, .int (-1), .int 0, .int r.2.2.2]))] := hD
  refine lv_aload_n hx_ hb_ dX4_begin_15 rfl (lv_at hl 0 rfl) ?_
  refine lv_iconst (v := 0) hx_ hb_ dX4_begin_16 (by decide) ?_
  refine va_put (D := D) (ci := 4) (v := .int 0) (ty := .int) (C := RX4) (T := TX4) (N := 6) hx_ hb_ hts_ inM_X4 tyX4 tyX4_ok nmX4 hown_ hK.1 hP hD hS 0 rfl rfl 5 (by decide) (hts_ _ (List.mem_cons_of_mem _ wa_f_X4_31)) (fun _ h9 => h9) rfl (by decide +kernel) rfl rfl (Nat.le_of_ble_eq_true rfl) dX4_begin_17 (fun H locs hP hD hS => ?_)
  have hP : va_P D vwCl [(h, .inr (4, [.int v, .ref ha, .int 0, .int (-1), .int 0, .int 0]))] H := hP
  have hD : va_D A_0 [(h, .inr (4, [.int v, .ref ha, .int 0, .int (-1), .int 0, .int 0]))] := hD
  have eq1 : (0 : Int32) = rd_0.1 := by rfl
  have eq2 : ((-1) : Int32) = rd_0.2.1 := by rfl
  have eq3 : (0 : Int32) = rd_0.2.2.1 := by rfl
  have eq4 : (0 : Int32) = rd_0.2.2.2 := by rfl
  exact ct_vret C_0 (hP.sub [0] rfl) (hD.sub [0] (by decide) rfl) hS (Nat.le_of_ble_eq_true rfl) (Nat.le_of_ble_eq_true rfl) dX4_begin_20 (congr (congr (congr (congrArg (fun (z1 : Int32) (z2 : Int32) (z3 : Int32) (z4 : Int32) => ([(h, .inr (4, [.int v, .ref ha, .int z1, .int z2, .int z3, .int z4]))] : va_W)) eq1) eq2) eq3) eq4)
abbrev po_X4_shift (k : Nat → ClassId) (h : Nat) (ha : Nat) (v : Int32) (r : RS) (x : Int32) : va_W → Prop := fun w1 => w1 = [(h, .inr (4, [.int v, .ref ha, .int ((rd_sh v r x).1), .int ((rd_sh v r x).2.1), .int ((rd_sh v r x).2.2.1), .int ((rd_sh v r x).2.2.2)]))]
set_option maxHeartbeats 4000000 in
set_option maxRecDepth 100000 in
/-- shift -/
theorem k_X4_shift (l : Launch) (D : va_G) (k : Nat → ClassId) (h : Nat) (ha : Nat) (v : Int32) (r : RS) (x : Int32)  : ct_v l D (TY k) yX4_shift wsX4_shift ({ frames := 0, cells := 0, slots := 0, locals := 0 } : Room) [.ref h, .int x] [(h, .inr (4, [.int v, .ref ha, .int r.1, .int r.2.1, .int r.2.2.1, .int r.2.2.2]))] (po_X4_shift k h ha v r x) := by
  refine ct_v_of (cc := cX4_shift) (nL := 2) (rt := none) (by decide) rfl (Nat.le_of_ble_eq_true rfl) ?_
  intro p_ e_ s_0 m_0 below_ meth_ c_0 A_0 C_0 hP hK hD hS hA ls hl
  obtain ⟨hx_, hb_, hml_, hr_, hown_, hlk_, hnm_, hts_⟩ := id C_0
  have hl : lv_has ls 2 [(0, .ref h), (1, .int x)] := hl
  refine lv_aload_n hx_ hb_ dX4_shift_0 rfl (lv_at hl 0 rfl) ?_
  refine va_get (D := D) (ci := 4) (v := .int v) (C := RX4) (T := TX4) (N := 6) hx_ hb_ hts_ inM_X4 hown_ hK.1 hP 0 rfl rfl 0 (by decide) (hts_ _ (List.mem_cons_of_mem _ wa_f_X4_9)) (fun _ h9 => h9) rfl dX4_shift_1 ?_
  refine lv_iconst (v := 3) hx_ hb_ dX4_shift_4 (by decide) ?_
  refine lv_icmp_lt (tgt := 18) hx_ hb_ dX4_shift_5 (by decide) (fun cc1 => ?_) (fun cc1 => ?_)
  · skip
    refine lv_iload_n hx_ hb_ dX4_shift_18 rfl (lv_at hl 1 rfl) ?_
    refine lv_iconst (v := 3) hx_ hb_ dX4_shift_19 (by decide) ?_
    refine lv_icmp_gt (tgt := 40) hx_ hb_ dX4_shift_20 (by decide) (fun cc2 => ?_) (fun cc2 => ?_)
    · skip
      refine lv_aload_n hx_ hb_ dX4_shift_40 rfl (lv_at hl 0 rfl) ?_
      refine lv_aload_n hx_ hb_ dX4_shift_41 rfl (lv_at hl 0 rfl) ?_
      refine va_get (D := D) (ci := 4) (v := .int r.1) (C := RX4) (T := TX4) (N := 6) hx_ hb_ hts_ inM_X4 hown_ hK.1 hP 0 rfl rfl 2 (by decide) (hts_ _ (List.mem_cons_of_mem _ wa_f_X4_22)) (fun _ h9 => h9) rfl dX4_shift_42 ?_
      refine lv_iload_n hx_ hb_ dX4_shift_45 rfl (lv_at hl 1 rfl) ?_
      refine lv_iadd hx_ hb_ dX4_shift_46 ?_
      refine lv_iconst (v := 3) hx_ hb_ dX4_shift_47 (by decide) ?_
      refine lv_isub hx_ hb_ dX4_shift_48 ?_
      refine lv_iconst (v := 3) hx_ hb_ dX4_shift_49 (by decide) ?_
      refine lv_irem hx_ hb_ dX4_shift_50 (by decide) ?_
      refine va_put (D := D) (ci := 4) (v := .int (((r.1 + x) - 3) - ((r.1 + x) - 3) / 3 * 3)) (ty := .int) (C := RX4) (T := TX4) (N := 6) hx_ hb_ hts_ inM_X4 tyX4 tyX4_ok nmX4 hown_ hK.1 hP hD hS 0 rfl rfl 2 (by decide) (hts_ _ (List.mem_cons_of_mem _ wa_f_X4_22)) (fun _ h9 => h9) rfl (by decide +kernel) rfl rfl (Nat.le_of_ble_eq_true rfl) dX4_shift_51 (fun H locs hP hD hS => ?_)
      have hP : va_P D vwCl [(h, .inr (4, [.int v, .ref ha, .int (((r.1 + x) - 3) - ((r.1 + x) - 3) / 3 * 3), .int r.2.1, .int r.2.2.1, .int r.2.2.2]))] H := hP
      have hD : va_D A_0 [(h, .inr (4, [.int v, .ref ha, .int (((r.1 + x) - 3) - ((r.1 + x) - 3) / 3 * 3), .int r.2.1, .int r.2.2.1, .int r.2.2.2]))] := hD
      have eq1 : (((r.1 + x) - 3) - ((r.1 + x) - 3) / 3 * 3 : Int32) = (rd_sh v r x).1 := by simp [rd_sh, eq_true cc1, eq_true cc2]
      have eq2 : (r.2.1 : Int32) = (rd_sh v r x).2.1 := by simp [rd_sh, eq_true cc1, eq_true cc2]
      have eq3 : (r.2.2.1 : Int32) = (rd_sh v r x).2.2.1 := by simp [rd_sh, eq_true cc1, eq_true cc2]
      have eq4 : (r.2.2.2 : Int32) = (rd_sh v r x).2.2.2 := by simp [rd_sh, eq_true cc1, eq_true cc2]
      exact ct_vret C_0 (hP.sub [0] rfl) (hD.sub [0] (by decide) rfl) hS (Nat.le_of_ble_eq_true rfl) (Nat.le_of_ble_eq_true rfl) dX4_shift_54 (congr (congr (congr (congrArg (fun (z1 : Int32) (z2 : Int32) (z3 : Int32) (z4 : Int32) => ([(h, .inr (4, [.int v, .ref ha, .int z1, .int z2, .int z3, .int z4]))] : va_W)) eq1) eq2) eq3) eq4)
    · skip
      refine lv_aload_n hx_ hb_ dX4_shift_23 rfl (lv_at hl 0 rfl) ?_
      refine lv_aload_n hx_ hb_ dX4_shift_24 rfl (lv_at hl 0 rfl) ?_
      refine va_get (D := D) (ci := 4) (v := .int r.1) (C := RX4) (T := TX4) (N := 6) hx_ hb_ hts_ inM_X4 hown_ hK.1 hP 0 rfl rfl 2 (by decide) (hts_ _ (List.mem_cons_of_mem _ wa_f_X4_22)) (fun _ h9 => h9) rfl dX4_shift_25 ?_
      refine lv_iload_n hx_ hb_ dX4_shift_28 rfl (lv_at hl 1 rfl) ?_
      refine lv_iadd hx_ hb_ dX4_shift_29 ?_
      refine lv_iconst (v := 1) hx_ hb_ dX4_shift_30 (by decide) ?_
      refine lv_isub hx_ hb_ dX4_shift_31 ?_
      refine lv_iconst (v := 3) hx_ hb_ dX4_shift_32 (by decide) ?_
      refine lv_irem hx_ hb_ dX4_shift_33 (by decide) ?_
      refine va_put (D := D) (ci := 4) (v := .int (((r.1 + x) - 1) - ((r.1 + x) - 1) / 3 * 3)) (ty := .int) (C := RX4) (T := TX4) (N := 6) hx_ hb_ hts_ inM_X4 tyX4 tyX4_ok nmX4 hown_ hK.1 hP hD hS 0 rfl rfl 3 (by decide) (hts_ _ (List.mem_cons_of_mem _ wa_f_X4_25)) (fun _ h9 => h9) rfl (by decide +kernel) rfl rfl (Nat.le_of_ble_eq_true rfl) dX4_shift_34 (fun H locs hP hD hS => ?_)
      have hP : va_P D vwCl [(h, .inr (4, [.int v, .ref ha, .int r.1, .int (((r.1 + x) - 1) - ((r.1 + x) - 1) / 3 * 3), .int r.2.2.1, .int r.2.2.2]))] H := hP
      have hD : va_D A_0 [(h, .inr (4, [.int v, .ref ha, .int r.1, .int (((r.1 + x) - 1) - ((r.1 + x) - 1) / 3 * 3), .int r.2.2.1, .int r.2.2.2]))] := hD
      refine lv_goto (tgt := 54) hx_ hb_ dX4_shift_37 (by decide) ?_
      have eq1 : (r.1 : Int32) = (rd_sh v r x).1 := by simp [rd_sh, eq_true cc1, eq_false cc2]
      have eq2 : (((r.1 + x) - 1) - ((r.1 + x) - 1) / 3 * 3 : Int32) = (rd_sh v r x).2.1 := by simp [rd_sh, eq_true cc1, eq_false cc2]
      have eq3 : (r.2.2.1 : Int32) = (rd_sh v r x).2.2.1 := by simp [rd_sh, eq_true cc1, eq_false cc2]
      have eq4 : (r.2.2.2 : Int32) = (rd_sh v r x).2.2.2 := by simp [rd_sh, eq_true cc1, eq_false cc2]
      exact ct_vret C_0 (hP.sub [0] rfl) (hD.sub [0] (by decide) rfl) hS (Nat.le_of_ble_eq_true rfl) (Nat.le_of_ble_eq_true rfl) dX4_shift_54 (congr (congr (congr (congrArg (fun (z1 : Int32) (z2 : Int32) (z3 : Int32) (z4 : Int32) => ([(h, .inr (4, [.int v, .ref ha, .int z1, .int z2, .int z3, .int z4]))] : va_W)) eq1) eq2) eq3) eq4)
  · skip
    refine lv_aload_n hx_ hb_ dX4_shift_8 rfl (lv_at hl 0 rfl) ?_
    refine lv_iload_n hx_ hb_ dX4_shift_9 rfl (lv_at hl 1 rfl) ?_
    refine lv_iconst (v := 3) hx_ hb_ dX4_shift_10 (by decide) ?_
    refine lv_isub hx_ hb_ dX4_shift_11 ?_
    refine va_put (D := D) (ci := 4) (v := .int (x - 3)) (ty := .int) (C := RX4) (T := TX4) (N := 6) hx_ hb_ hts_ inM_X4 tyX4 tyX4_ok nmX4 hown_ hK.1 hP hD hS 0 rfl rfl 3 (by decide) (hts_ _ (List.mem_cons_of_mem _ wa_f_X4_25)) (fun _ h9 => h9) rfl (by decide +kernel) rfl rfl (Nat.le_of_ble_eq_true rfl) dX4_shift_12 (fun H locs hP hD hS => ?_)
    have hP : va_P D vwCl [(h, .inr (4, [.int v, .ref ha, .int r.1, .int (x - 3), .int r.2.2.1, .int r.2.2.2]))] H := hP
    have hD : va_D A_0 [(h, .inr (4, [.int v, .ref ha, .int r.1, .int (x - 3), .int r.2.2.1, .int r.2.2.2]))] := hD
    refine lv_goto (tgt := 54) hx_ hb_ dX4_shift_15 (by decide) ?_
    have eq1 : (r.1 : Int32) = (rd_sh v r x).1 := by simp [rd_sh, eq_false cc1]
    have eq2 : (x - 3 : Int32) = (rd_sh v r x).2.1 := by simp [rd_sh, eq_false cc1]
    have eq3 : (r.2.2.1 : Int32) = (rd_sh v r x).2.2.1 := by simp [rd_sh, eq_false cc1]
    have eq4 : (r.2.2.2 : Int32) = (rd_sh v r x).2.2.2 := by simp [rd_sh, eq_false cc1]
    exact ct_vret C_0 (hP.sub [0] rfl) (hD.sub [0] (by decide) rfl) hS (Nat.le_of_ble_eq_true rfl) (Nat.le_of_ble_eq_true rfl) dX4_shift_54 (congr (congr (congr (congrArg (fun (z1 : Int32) (z2 : Int32) (z3 : Int32) (z4 : Int32) => ([(h, .inr (4, [.int v, .ref ha, .int z1, .int z2, .int z3, .int z4]))] : va_W)) eq1) eq2) eq3) eq4)
abbrev po_X4_takeFree (k : Nat → ClassId) (h : Nat) (ha : Nat) (v : Int32) (r : RS) (b : Nat) (g : Nat → Int32) (x : Int32) : Int32 → va_W → Prop := fun ans_ w1 => ans_ = (rd_free v g r x).1 ∧ w1 = [(h, .inr (4, [.int v, .ref ha, .int (((rd_free v g r x).2).1), .int (((rd_free v g r x).2).2.1), .int (((rd_free v g r x).2).2.2.1), .int (((rd_free v g r x).2).2.2.2)])), (ha, .inr (1, [.int v, .ref b])), (b, .inl (k 0, 78, .inl g))]
set_option maxHeartbeats 4000000 in
set_option maxRecDepth 100000 in
/-- takeFree -/
theorem k_X4_takeFree (l : Launch) (D : va_G) (k : Nat → ClassId) (h : Nat) (ha : Nat) (v : Int32) (r : RS) (b : Nat) (g : Nat → Int32) (x : Int32)  : ct_i l D (TY k) yX4_takeFree wsX4_takeFree ({ frames := 1, cells := 0, slots := 0, locals := 23 } : Room) [.ref h, .int x] [(h, .inr (4, [.int v, .ref ha, .int r.1, .int r.2.1, .int r.2.2.1, .int r.2.2.2])), (ha, .inr (1, [.int v, .ref b])), (b, .inl (k 0, 78, .inl g))] (po_X4_takeFree k h ha v r b g x) := by
  refine ct_i_of (cc := cX4_takeFree) (nL := 4) (rt := (some .int)) (by decide) rfl (Nat.le_of_ble_eq_true rfl) ?_
  intro p_ e_ s_0 m_0 below_ meth_ c_0 A_0 C_0 hP hK hD hS hA ls hl
  obtain ⟨hx_, hb_, hml_, hr_, hown_, hlk_, hnm_, hts_⟩ := id C_0
  have hl : lv_has ls 4 [(0, .ref h), (1, .int x)] := hl
  refine lv_aload_n hx_ hb_ dX4_takeFree_0 rfl (lv_at hl 0 rfl) ?_
  refine va_get (D := D) (ci := 4) (v := .int r.2.1) (C := RX4) (T := TX4) (N := 6) hx_ hb_ hts_ inM_X4 hown_ hK.1 hP 0 rfl rfl 3 (by decide) (hts_ _ (List.mem_cons_of_mem _ wa_f_X4_25)) (fun _ h9 => h9) rfl dX4_takeFree_1 ?_
  refine lv_iconst (v := (-1)) hx_ hb_ dX4_takeFree_4 (by decide) ?_
  refine lv_icmp_ne (tgt := 15) hx_ hb_ dX4_takeFree_5 (by decide) (fun cc1 => ?_) (fun cc1 => ?_)
  · skip
    refine lv_aload_n hx_ hb_ dX4_takeFree_15 rfl (lv_at hl 0 rfl) ?_
    refine va_get (D := D) (ci := 4) (v := .int r.2.1) (C := RX4) (T := TX4) (N := 6) hx_ hb_ hts_ inM_X4 hown_ hK.1 hP 0 rfl rfl 3 (by decide) (hts_ _ (List.mem_cons_of_mem _ wa_f_X4_25)) (fun _ h9 => h9) rfl dX4_takeFree_16 ?_
    refine lv_istore_n (lv' := [(2, .int r.2.1), (0, .ref h), (1, .int x)]) hx_ hb_ dX4_takeFree_19 rfl hl (by decide) rfl (fun ls hl => ?_)
    refine lv_aload_n hx_ hb_ dX4_takeFree_20 rfl (lv_at hl 1 rfl) ?_
    refine lv_iconst (v := (-1)) hx_ hb_ dX4_takeFree_21 (by decide) ?_
    refine va_put (D := D) (ci := 4) (v := .int (-1)) (ty := .int) (C := RX4) (T := TX4) (N := 6) hx_ hb_ hts_ inM_X4 tyX4 tyX4_ok nmX4 hown_ hK.1 hP hD hS 0 rfl rfl 3 (by decide) (hts_ _ (List.mem_cons_of_mem _ wa_f_X4_25)) (fun _ h9 => h9) rfl (by decide +kernel) rfl rfl (Nat.le_of_ble_eq_true rfl) dX4_takeFree_22 (fun H locs hP hD hS => ?_)
    have hP : va_P D vwCl [(h, .inr (4, [.int v, .ref ha, .int r.1, .int (-1), .int r.2.2.1, .int r.2.2.2])), (ha, .inr (1, [.int v, .ref b])), (b, .inl (k 0, 78, .inl g))] H := hP
    have hD : va_D A_0 [(h, .inr (4, [.int v, .ref ha, .int r.1, .int (-1), .int r.2.2.1, .int r.2.2.2])), (ha, .inr (1, [.int v, .ref b])), (b, .inl (k 0, 78, .inl g))] := hD
    refine lv_iload_n hx_ hb_ dX4_takeFree_25 rfl (lv_at hl 2 rfl) ?_
    refine lv_if_ne (tgt := 32) hx_ hb_ dX4_takeFree_26 (by decide) (fun cc2 => ?_) (fun cc2 => ?_)
    · skip
      refine lv_iload_n hx_ hb_ dX4_takeFree_32 rfl (lv_at hl 2 rfl) ?_
      refine lv_bipush (v := 6) hx_ hb_ dX4_takeFree_33 (by decide) ?_
      refine lv_icmp_lt (tgt := 73) hx_ hb_ dX4_takeFree_35 (by decide) (fun cc3 => ?_) (fun cc3 => ?_)
      · skip
        refine lv_iload_n hx_ hb_ dX4_takeFree_73 rfl (lv_at hl 2 rfl) ?_
        refine lv_iconst (v := 1) hx_ hb_ dX4_takeFree_74 (by decide) ?_
        refine lv_icmp_ne (tgt := 89) hx_ hb_ dX4_takeFree_75 (by decide) (fun cc4 => ?_) (fun cc4 => ?_)
        · skip
          refine lv_iload_n hx_ hb_ dX4_takeFree_89 rfl (lv_at hl 2 rfl) ?_
          refine lv_iconst (v := 1) hx_ hb_ dX4_takeFree_90 (by decide) ?_
          refine lv_icmp_eq (tgt := 107) hx_ hb_ dX4_takeFree_91 (by decide) (fun cc5 => ?_) (fun cc5 => ?_)
          · exact absurd cc5 cc4
          · skip
            refine lv_iload_n hx_ hb_ dX4_takeFree_94 rfl (lv_at hl 2 rfl) ?_
            refine lv_iconst (v := 3) hx_ hb_ dX4_takeFree_95 (by decide) ?_
            refine lv_icmp_gt (tgt := 125) hx_ hb_ dX4_takeFree_96 (by decide) (fun cc6 => ?_) (fun cc6 => ?_)
            · skip
              refine lv_aload_n hx_ hb_ dX4_takeFree_125 rfl (lv_at hl 1 rfl) ?_
              refine lv_iload_n hx_ hb_ dX4_takeFree_126 rfl (lv_at hl 2 rfl) ?_
              refine ct_Vv (wr := [(ha, .inr (1, [.int v, .ref b])), (b, .inl (k 0, 78, .inl g))]) (rest := []) (As := [.int x]) ⟨hx_, hb_, hml_, hown_, hts_⟩ (k_X4_shift l D k h ha v (r.1, -1, r.2.2.1, r.2.2.2) x ) (cwV 1 hts_ (gd_in (gw_V wa_m_X4_44 wa_y_X4_shift wa_s_X4_shift wa_i_X4 wa_k_X4_shift)) rfl rfl rfl (by decide +kernel) ⟨Nat.le_of_ble_eq_true rfl, Nat.le_of_ble_eq_true rfl⟩) hK hP hD hS hA [0] [1, 2] rfl rfl rfl rfl (by decide) 4 rfl rfl rfl hl.1 rfl rfl (Nat.le_of_ble_eq_true rfl) dX4_takeFree_127 ⟨Nat.le_of_ble_eq_true rfl, Nat.le_of_ble_eq_true rfl⟩ (fun w1 H locs ww8 hP hD hS => ?_)
              obtain rfl := ww8
              have hP : va_P D vwCl [(ha, .inr (1, [.int v, .ref b])), (b, .inl (k 0, 78, .inl g)), (h, .inr (4, [.int v, .ref ha, .int ((rd_sh v (r.1, -1, r.2.2.1, r.2.2.2) x).1), .int ((rd_sh v (r.1, -1, r.2.2.1, r.2.2.2) x).2.1), .int ((rd_sh v (r.1, -1, r.2.2.1, r.2.2.2) x).2.2.1), .int ((rd_sh v (r.1, -1, r.2.2.1, r.2.2.2) x).2.2.2)]))] H := hP
              have hD : va_D A_0 [(ha, .inr (1, [.int v, .ref b])), (b, .inl (k 0, 78, .inl g)), (h, .inr (4, [.int v, .ref ha, .int ((rd_sh v (r.1, -1, r.2.2.1, r.2.2.2) x).1), .int ((rd_sh v (r.1, -1, r.2.2.1, r.2.2.2) x).2.1), .int ((rd_sh v (r.1, -1, r.2.2.1, r.2.2.2) x).2.2.1), .int ((rd_sh v (r.1, -1, r.2.2.1, r.2.2.2) x).2.2.2)]))] := hD
              refine W.cs (cells' := 0) (slots' := 0) rfl rfl ?_
              refine lv_iconst (v := (-1)) hx_ hb_ dX4_takeFree_130 (by decide) ?_
              have eq1 : ((rd_sh v (r.1, -1, r.2.2.1, r.2.2.2) x).1 : Int32) = (rd_free v g r x).2.1 := by simp [rd_free, rd_al, eq_false cc1, eq_false cc2, eq_true cc3, eq_false cc4, eq_false cc5, eq_true cc6]
              have eq2 : ((rd_sh v (r.1, -1, r.2.2.1, r.2.2.2) x).2.1 : Int32) = (rd_free v g r x).2.2.1 := by simp [rd_free, rd_al, eq_false cc1, eq_false cc2, eq_true cc3, eq_false cc4, eq_false cc5, eq_true cc6]
              have eq3 : ((rd_sh v (r.1, -1, r.2.2.1, r.2.2.2) x).2.2.1 : Int32) = (rd_free v g r x).2.2.2.1 := by simp [rd_free, rd_al, eq_false cc1, eq_false cc2, eq_true cc3, eq_false cc4, eq_false cc5, eq_true cc6]
              have eq4 : ((rd_sh v (r.1, -1, r.2.2.1, r.2.2.2) x).2.2.2 : Int32) = (rd_free v g r x).2.2.2.2 := by simp [rd_free, rd_al, eq_false cc1, eq_false cc2, eq_true cc3, eq_false cc4, eq_false cc5, eq_true cc6]
              have eqr : ((-1) : Int32) = (rd_free v g r x).1 := by simp [rd_free, rd_al, eq_false cc1, eq_false cc2, eq_true cc3, eq_false cc4, eq_false cc5, eq_true cc6]
              exact ct_iret C_0 (hP.sub [2, 0, 1] rfl) (hD.sub [2, 0, 1] (by decide) rfl) hS (Nat.le_of_ble_eq_true rfl) (Nat.le_of_ble_eq_true rfl) dX4_takeFree_131 (⟨eqr, congr (congr (congr (congrArg (fun (z1 : Int32) (z2 : Int32) (z3 : Int32) (z4 : Int32) => ([(h, .inr (4, [.int v, .ref ha, .int z1, .int z2, .int z3, .int z4])), (ha, .inr (1, [.int v, .ref b])), (b, .inl (k 0, 78, .inl g))] : va_W)) eq1) eq2) eq3) eq4⟩)
            · skip
              refine lv_aload_n hx_ hb_ dX4_takeFree_99 rfl (lv_at hl 1 rfl) ?_
              refine va_get (D := D) (ci := 4) (v := .int v) (C := RX4) (T := TX4) (N := 6) hx_ hb_ hts_ inM_X4 hown_ hK.1 hP 0 rfl rfl 0 (by decide) (hts_ _ (List.mem_cons_of_mem _ wa_f_X4_9)) (fun _ h9 => h9) rfl dX4_takeFree_100 ?_
              refine lv_iconst (v := 3) hx_ hb_ dX4_takeFree_103 (by decide) ?_
              refine lv_icmp_lt (tgt := 125) hx_ hb_ dX4_takeFree_104 (by decide) (fun cc9 => ?_) (fun cc9 => ?_)
              · skip
                refine lv_aload_n hx_ hb_ dX4_takeFree_125 rfl (lv_at hl 1 rfl) ?_
                refine lv_iload_n hx_ hb_ dX4_takeFree_126 rfl (lv_at hl 2 rfl) ?_
                refine ct_Vv (wr := [(ha, .inr (1, [.int v, .ref b])), (b, .inl (k 0, 78, .inl g))]) (rest := []) (As := [.int x]) ⟨hx_, hb_, hml_, hown_, hts_⟩ (k_X4_shift l D k h ha v (r.1, -1, r.2.2.1, r.2.2.2) x ) (cwV 1 hts_ (gd_in (gw_V wa_m_X4_44 wa_y_X4_shift wa_s_X4_shift wa_i_X4 wa_k_X4_shift)) rfl rfl rfl (by decide +kernel) ⟨Nat.le_of_ble_eq_true rfl, Nat.le_of_ble_eq_true rfl⟩) hK hP hD hS hA [0] [1, 2] rfl rfl rfl rfl (by decide) 4 rfl rfl rfl hl.1 rfl rfl (Nat.le_of_ble_eq_true rfl) dX4_takeFree_127 ⟨Nat.le_of_ble_eq_true rfl, Nat.le_of_ble_eq_true rfl⟩ (fun w1 H locs ww11 hP hD hS => ?_)
                obtain rfl := ww11
                have hP : va_P D vwCl [(ha, .inr (1, [.int v, .ref b])), (b, .inl (k 0, 78, .inl g)), (h, .inr (4, [.int v, .ref ha, .int ((rd_sh v (r.1, -1, r.2.2.1, r.2.2.2) x).1), .int ((rd_sh v (r.1, -1, r.2.2.1, r.2.2.2) x).2.1), .int ((rd_sh v (r.1, -1, r.2.2.1, r.2.2.2) x).2.2.1), .int ((rd_sh v (r.1, -1, r.2.2.1, r.2.2.2) x).2.2.2)]))] H := hP
                have hD : va_D A_0 [(ha, .inr (1, [.int v, .ref b])), (b, .inl (k 0, 78, .inl g)), (h, .inr (4, [.int v, .ref ha, .int ((rd_sh v (r.1, -1, r.2.2.1, r.2.2.2) x).1), .int ((rd_sh v (r.1, -1, r.2.2.1, r.2.2.2) x).2.1), .int ((rd_sh v (r.1, -1, r.2.2.1, r.2.2.2) x).2.2.1), .int ((rd_sh v (r.1, -1, r.2.2.1, r.2.2.2) x).2.2.2)]))] := hD
                refine W.cs (cells' := 0) (slots' := 0) rfl rfl ?_
                refine lv_iconst (v := (-1)) hx_ hb_ dX4_takeFree_130 (by decide) ?_
                have eq1 : ((rd_sh v (r.1, -1, r.2.2.1, r.2.2.2) x).1 : Int32) = (rd_free v g r x).2.1 := by simp [rd_free, rd_al, eq_false cc1, eq_false cc2, eq_true cc3, eq_false cc4, eq_false cc5, eq_false cc6, eq_true cc9]
                have eq2 : ((rd_sh v (r.1, -1, r.2.2.1, r.2.2.2) x).2.1 : Int32) = (rd_free v g r x).2.2.1 := by simp [rd_free, rd_al, eq_false cc1, eq_false cc2, eq_true cc3, eq_false cc4, eq_false cc5, eq_false cc6, eq_true cc9]
                have eq3 : ((rd_sh v (r.1, -1, r.2.2.1, r.2.2.2) x).2.2.1 : Int32) = (rd_free v g r x).2.2.2.1 := by simp [rd_free, rd_al, eq_false cc1, eq_false cc2, eq_true cc3, eq_false cc4, eq_false cc5, eq_false cc6, eq_true cc9]
                have eq4 : ((rd_sh v (r.1, -1, r.2.2.1, r.2.2.2) x).2.2.2 : Int32) = (rd_free v g r x).2.2.2.2 := by simp [rd_free, rd_al, eq_false cc1, eq_false cc2, eq_true cc3, eq_false cc4, eq_false cc5, eq_false cc6, eq_true cc9]
                have eqr : ((-1) : Int32) = (rd_free v g r x).1 := by simp [rd_free, rd_al, eq_false cc1, eq_false cc2, eq_true cc3, eq_false cc4, eq_false cc5, eq_false cc6, eq_true cc9]
                exact ct_iret C_0 (hP.sub [2, 0, 1] rfl) (hD.sub [2, 0, 1] (by decide) rfl) hS (Nat.le_of_ble_eq_true rfl) (Nat.le_of_ble_eq_true rfl) dX4_takeFree_131 (⟨eqr, congr (congr (congr (congrArg (fun (z1 : Int32) (z2 : Int32) (z3 : Int32) (z4 : Int32) => ([(h, .inr (4, [.int v, .ref ha, .int z1, .int z2, .int z3, .int z4])), (ha, .inr (1, [.int v, .ref b])), (b, .inl (k 0, 78, .inl g))] : va_W)) eq1) eq2) eq3) eq4⟩)
              · skip
                refine lv_aload_n hx_ hb_ dX4_takeFree_107 rfl (lv_at hl 1 rfl) ?_
                refine lv_iconst (v := 1) hx_ hb_ dX4_takeFree_108 (by decide) ?_
                refine va_put (D := D) (ci := 4) (v := .int 1) (ty := .int) (C := RX4) (T := TX4) (N := 6) hx_ hb_ hts_ inM_X4 tyX4 tyX4_ok nmX4 hown_ hK.1 hP hD hS 0 rfl rfl 4 (by decide) (hts_ _ (List.mem_cons_of_mem _ wa_f_X4_28)) (fun _ h9 => h9) rfl (by decide +kernel) rfl rfl (Nat.le_of_ble_eq_true rfl) dX4_takeFree_109 (fun H locs hP hD hS => ?_)
                have hP : va_P D vwCl [(h, .inr (4, [.int v, .ref ha, .int r.1, .int (-1), .int 1, .int r.2.2.2])), (ha, .inr (1, [.int v, .ref b])), (b, .inl (k 0, 78, .inl g))] H := hP
                have hD : va_D A_0 [(h, .inr (4, [.int v, .ref ha, .int r.1, .int (-1), .int 1, .int r.2.2.2])), (ha, .inr (1, [.int v, .ref b])), (b, .inl (k 0, 78, .inl g))] := hD
                refine lv_aload_n hx_ hb_ dX4_takeFree_112 rfl (lv_at hl 1 rfl) ?_
                refine lv_bipush (v := 32) hx_ hb_ dX4_takeFree_113 (by decide) ?_
                refine lv_iload_n hx_ hb_ dX4_takeFree_115 rfl (lv_at hl 2 rfl) ?_
                refine lv_iconst (v := 1) hx_ hb_ dX4_takeFree_116 (by decide) ?_
                refine lv_isub hx_ hb_ dX4_takeFree_117 ?_
                refine lv_imul hx_ hb_ dX4_takeFree_118 ?_
                refine va_put (D := D) (ci := 4) (v := .int (32 * (x - 1))) (ty := .int) (C := RX4) (T := TX4) (N := 6) hx_ hb_ hts_ inM_X4 tyX4 tyX4_ok nmX4 hown_ hK.1 hP hD hS 0 rfl rfl 5 (by decide) (hts_ _ (List.mem_cons_of_mem _ wa_f_X4_31)) (fun _ h9 => h9) rfl (by decide +kernel) rfl rfl (Nat.le_of_ble_eq_true rfl) dX4_takeFree_119 (fun H locs hP hD hS => ?_)
                have hP : va_P D vwCl [(h, .inr (4, [.int v, .ref ha, .int r.1, .int (-1), .int 1, .int (32 * (x - 1))])), (ha, .inr (1, [.int v, .ref b])), (b, .inl (k 0, 78, .inl g))] H := hP
                have hD : va_D A_0 [(h, .inr (4, [.int v, .ref ha, .int r.1, .int (-1), .int 1, .int (32 * (x - 1))])), (ha, .inr (1, [.int v, .ref b])), (b, .inl (k 0, 78, .inl g))] := hD
                refine lv_bipush (v := (-2)) hx_ hb_ dX4_takeFree_122 (by decide) ?_
                have eq1 : (r.1 : Int32) = (rd_free v g r x).2.1 := by simp [rd_free, rd_al, eq_false cc1, eq_false cc2, eq_true cc3, eq_false cc4, eq_false cc5, eq_false cc6, eq_false cc9]
                have eq2 : ((-1) : Int32) = (rd_free v g r x).2.2.1 := by simp [rd_free, rd_al, eq_false cc1, eq_false cc2, eq_true cc3, eq_false cc4, eq_false cc5, eq_false cc6, eq_false cc9]
                have eq3 : (1 : Int32) = (rd_free v g r x).2.2.2.1 := by simp [rd_free, rd_al, eq_false cc1, eq_false cc2, eq_true cc3, eq_false cc4, eq_false cc5, eq_false cc6, eq_false cc9]
                have eq4 : (32 * (x - 1) : Int32) = (rd_free v g r x).2.2.2.2 := by simp [rd_free, rd_al, eq_false cc1, eq_false cc2, eq_true cc3, eq_false cc4, eq_false cc5, eq_false cc6, eq_false cc9]
                have eqr : ((-2) : Int32) = (rd_free v g r x).1 := by simp [rd_free, rd_al, eq_false cc1, eq_false cc2, eq_true cc3, eq_false cc4, eq_false cc5, eq_false cc6, eq_false cc9]
                exact ct_iret C_0 (hP.sub [0, 1, 2] rfl) (hD.sub [0, 1, 2] (by decide) rfl) hS (Nat.le_of_ble_eq_true rfl) (Nat.le_of_ble_eq_true rfl) dX4_takeFree_124 (⟨eqr, congr (congr (congr (congrArg (fun (z1 : Int32) (z2 : Int32) (z3 : Int32) (z4 : Int32) => ([(h, .inr (4, [.int v, .ref ha, .int z1, .int z2, .int z3, .int z4])), (ha, .inr (1, [.int v, .ref b])), (b, .inl (k 0, 78, .inl g))] : va_W)) eq1) eq2) eq3) eq4⟩)
        · skip
          refine lv_aload_n hx_ hb_ dX4_takeFree_78 rfl (lv_at hl 1 rfl) ?_
          refine va_get (D := D) (ci := 4) (v := .int v) (C := RX4) (T := TX4) (N := 6) hx_ hb_ hts_ inM_X4 hown_ hK.1 hP 0 rfl rfl 0 (by decide) (hts_ _ (List.mem_cons_of_mem _ wa_f_X4_9)) (fun _ h9 => h9) rfl dX4_takeFree_79 ?_
          refine lv_iconst (v := 1) hx_ hb_ dX4_takeFree_82 (by decide) ?_
          refine lv_icmp_ne (tgt := 89) hx_ hb_ dX4_takeFree_83 (by decide) (fun cc12 => ?_) (fun cc12 => ?_)
          · skip
            refine lv_iload_n hx_ hb_ dX4_takeFree_89 rfl (lv_at hl 2 rfl) ?_
            refine lv_iconst (v := 1) hx_ hb_ dX4_takeFree_90 (by decide) ?_
            refine lv_icmp_eq (tgt := 107) hx_ hb_ dX4_takeFree_91 (by decide) (fun cc13 => ?_) (fun cc13 => ?_)
            · skip
              refine lv_aload_n hx_ hb_ dX4_takeFree_107 rfl (lv_at hl 1 rfl) ?_
              refine lv_iconst (v := 1) hx_ hb_ dX4_takeFree_108 (by decide) ?_
              refine va_put (D := D) (ci := 4) (v := .int 1) (ty := .int) (C := RX4) (T := TX4) (N := 6) hx_ hb_ hts_ inM_X4 tyX4 tyX4_ok nmX4 hown_ hK.1 hP hD hS 0 rfl rfl 4 (by decide) (hts_ _ (List.mem_cons_of_mem _ wa_f_X4_28)) (fun _ h9 => h9) rfl (by decide +kernel) rfl rfl (Nat.le_of_ble_eq_true rfl) dX4_takeFree_109 (fun H locs hP hD hS => ?_)
              have hP : va_P D vwCl [(h, .inr (4, [.int v, .ref ha, .int r.1, .int (-1), .int 1, .int r.2.2.2])), (ha, .inr (1, [.int v, .ref b])), (b, .inl (k 0, 78, .inl g))] H := hP
              have hD : va_D A_0 [(h, .inr (4, [.int v, .ref ha, .int r.1, .int (-1), .int 1, .int r.2.2.2])), (ha, .inr (1, [.int v, .ref b])), (b, .inl (k 0, 78, .inl g))] := hD
              refine lv_aload_n hx_ hb_ dX4_takeFree_112 rfl (lv_at hl 1 rfl) ?_
              refine lv_bipush (v := 32) hx_ hb_ dX4_takeFree_113 (by decide) ?_
              refine lv_iload_n hx_ hb_ dX4_takeFree_115 rfl (lv_at hl 2 rfl) ?_
              refine lv_iconst (v := 1) hx_ hb_ dX4_takeFree_116 (by decide) ?_
              refine lv_isub hx_ hb_ dX4_takeFree_117 ?_
              refine lv_imul hx_ hb_ dX4_takeFree_118 ?_
              refine va_put (D := D) (ci := 4) (v := .int (32 * (x - 1))) (ty := .int) (C := RX4) (T := TX4) (N := 6) hx_ hb_ hts_ inM_X4 tyX4 tyX4_ok nmX4 hown_ hK.1 hP hD hS 0 rfl rfl 5 (by decide) (hts_ _ (List.mem_cons_of_mem _ wa_f_X4_31)) (fun _ h9 => h9) rfl (by decide +kernel) rfl rfl (Nat.le_of_ble_eq_true rfl) dX4_takeFree_119 (fun H locs hP hD hS => ?_)
              have hP : va_P D vwCl [(h, .inr (4, [.int v, .ref ha, .int r.1, .int (-1), .int 1, .int (32 * (x - 1))])), (ha, .inr (1, [.int v, .ref b])), (b, .inl (k 0, 78, .inl g))] H := hP
              have hD : va_D A_0 [(h, .inr (4, [.int v, .ref ha, .int r.1, .int (-1), .int 1, .int (32 * (x - 1))])), (ha, .inr (1, [.int v, .ref b])), (b, .inl (k 0, 78, .inl g))] := hD
              refine lv_bipush (v := (-2)) hx_ hb_ dX4_takeFree_122 (by decide) ?_
              have eq1 : (r.1 : Int32) = (rd_free v g r x).2.1 := by simp [rd_free, rd_al, eq_false cc1, eq_false cc2, eq_true cc3, eq_true cc4, eq_false cc12, eq_true cc13]
              have eq2 : ((-1) : Int32) = (rd_free v g r x).2.2.1 := by simp [rd_free, rd_al, eq_false cc1, eq_false cc2, eq_true cc3, eq_true cc4, eq_false cc12, eq_true cc13]
              have eq3 : (1 : Int32) = (rd_free v g r x).2.2.2.1 := by simp [rd_free, rd_al, eq_false cc1, eq_false cc2, eq_true cc3, eq_true cc4, eq_false cc12, eq_true cc13]
              have eq4 : (32 * (x - 1) : Int32) = (rd_free v g r x).2.2.2.2 := by simp [rd_free, rd_al, eq_false cc1, eq_false cc2, eq_true cc3, eq_true cc4, eq_false cc12, eq_true cc13]
              have eqr : ((-2) : Int32) = (rd_free v g r x).1 := by simp [rd_free, rd_al, eq_false cc1, eq_false cc2, eq_true cc3, eq_true cc4, eq_false cc12, eq_true cc13]
              exact ct_iret C_0 (hP.sub [0, 1, 2] rfl) (hD.sub [0, 1, 2] (by decide) rfl) hS (Nat.le_of_ble_eq_true rfl) (Nat.le_of_ble_eq_true rfl) dX4_takeFree_124 (⟨eqr, congr (congr (congr (congrArg (fun (z1 : Int32) (z2 : Int32) (z3 : Int32) (z4 : Int32) => ([(h, .inr (4, [.int v, .ref ha, .int z1, .int z2, .int z3, .int z4])), (ha, .inr (1, [.int v, .ref b])), (b, .inl (k 0, 78, .inl g))] : va_W)) eq1) eq2) eq3) eq4⟩)
            · exact absurd cc4 cc13
          · skip
            refine lv_bipush (v := 13) hx_ hb_ dX4_takeFree_86 (by decide) ?_
            have eq1 : (r.1 : Int32) = (rd_free v g r x).2.1 := by simp [rd_free, rd_al, eq_false cc1, eq_false cc2, eq_true cc3, eq_true cc4, eq_true cc12]
            have eq2 : ((-1) : Int32) = (rd_free v g r x).2.2.1 := by simp [rd_free, rd_al, eq_false cc1, eq_false cc2, eq_true cc3, eq_true cc4, eq_true cc12]
            have eq3 : (r.2.2.1 : Int32) = (rd_free v g r x).2.2.2.1 := by simp [rd_free, rd_al, eq_false cc1, eq_false cc2, eq_true cc3, eq_true cc4, eq_true cc12]
            have eq4 : (r.2.2.2 : Int32) = (rd_free v g r x).2.2.2.2 := by simp [rd_free, rd_al, eq_false cc1, eq_false cc2, eq_true cc3, eq_true cc4, eq_true cc12]
            have eqr : (13 : Int32) = (rd_free v g r x).1 := by simp [rd_free, rd_al, eq_false cc1, eq_false cc2, eq_true cc3, eq_true cc4, eq_true cc12]
            exact ct_iret C_0 (hP.sub [0, 1, 2] rfl) (hD.sub [0, 1, 2] (by decide) rfl) hS (Nat.le_of_ble_eq_true rfl) (Nat.le_of_ble_eq_true rfl) dX4_takeFree_88 (⟨eqr, congr (congr (congr (congrArg (fun (z1 : Int32) (z2 : Int32) (z3 : Int32) (z4 : Int32) => ([(h, .inr (4, [.int v, .ref ha, .int z1, .int z2, .int z3, .int z4])), (ha, .inr (1, [.int v, .ref b])), (b, .inl (k 0, 78, .inl g))] : va_W)) eq1) eq2) eq3) eq4⟩)
      · skip
        refine lv_aload_n hx_ hb_ dX4_takeFree_38 rfl (lv_at hl 1 rfl) ?_
        refine va_get (D := D) (ci := 4) (v := .ref ha) (C := RX4) (T := TX4) (N := 6) hx_ hb_ hts_ inM_X4 hown_ hK.1 hP 0 rfl rfl 1 (by decide) (hts_ _ (List.mem_cons_of_mem _ wa_f_X4_15)) (fun _ h9 => h9) rfl dX4_takeFree_39 ?_
        refine lv_iload_n hx_ hb_ dX4_takeFree_42 rfl (lv_at hl 0 rfl) ?_
        refine lv_iload_n hx_ hb_ dX4_takeFree_43 rfl (lv_at hl 2 rfl) ?_
        refine ct_Vi (wr := [(h, .inr (4, [.int v, .ref ha, .int r.1, .int (-1), .int r.2.2.1, .int r.2.2.2]))]) (rest := []) (As := [.int r.2.1, .int x]) ⟨hx_, hb_, hml_, hown_, hts_⟩ (k_X1_letterFor l D k ha b v g r.2.1 x ) (cwV 2 hts_ (gd_in (gw_V wa_m_X4_38 wa_y_X1_letterFor wa_s_X1_letterFor wa_i_X1 wa_k_X1_letterFor)) rfl rfl rfl (by decide +kernel) ⟨Nat.le_of_ble_eq_true rfl, Nat.le_of_ble_eq_true rfl⟩) hK hP hD hS hA [1, 2] [0] rfl rfl rfl rfl (by decide) 1 rfl rfl rfl hl.1 rfl rfl (Nat.le_of_ble_eq_true rfl) dX4_takeFree_44 ⟨Nat.le_of_ble_eq_true rfl, Nat.le_of_ble_eq_true rfl⟩ (fun rr14 w1 H locs ww15 hP hD hS => ?_)
        obtain ⟨rfl, rfl⟩ := ww15
        have hP : va_P D vwCl [(h, .inr (4, [.int v, .ref ha, .int r.1, .int (-1), .int r.2.2.1, .int r.2.2.2])), (ha, .inr (1, [.int v, .ref b])), (b, .inl (k 0, 78, .inl g))] H := hP
        have hD : va_D A_0 [(h, .inr (4, [.int v, .ref ha, .int r.1, .int (-1), .int r.2.2.1, .int r.2.2.2])), (ha, .inr (1, [.int v, .ref b])), (b, .inl (k 0, 78, .inl g))] := hD
        refine W.cs (cells' := 0) (slots' := 0) rfl rfl ?_
        refine lv_istore_n (lv' := [(3, .int (al_let g r.2.1 x)), (2, .int r.2.1), (0, .ref h), (1, .int x)]) hx_ hb_ dX4_takeFree_47 rfl hl (by decide) rfl (fun ls hl => ?_)
        refine lv_aload_n hx_ hb_ dX4_takeFree_48 rfl (lv_at hl 2 rfl) ?_
        refine lv_iload_n hx_ hb_ dX4_takeFree_49 rfl (lv_at hl 0 rfl) ?_
        refine lv_iconst (v := (-1)) hx_ hb_ dX4_takeFree_50 (by decide) ?_
        refine lv_icmp_ne (tgt := 58) hx_ hb_ dX4_takeFree_51 (by decide) (fun cc16 => ?_) (fun cc16 => ?_)
        · skip
          refine lv_iconst (v := 0) hx_ hb_ dX4_takeFree_58 (by decide) ?_
          refine va_put (D := D) (ci := 4) (v := .int 0) (ty := .int) (C := RX4) (T := TX4) (N := 6) hx_ hb_ hts_ inM_X4 tyX4 tyX4_ok nmX4 hown_ hK.1 hP hD hS 0 rfl rfl 4 (by decide) (hts_ _ (List.mem_cons_of_mem _ wa_f_X4_28)) (fun _ h9 => h9) rfl (by decide +kernel) rfl rfl (Nat.le_of_ble_eq_true rfl) dX4_takeFree_59 (fun H locs hP hD hS => ?_)
          have hP : va_P D vwCl [(h, .inr (4, [.int v, .ref ha, .int r.1, .int (-1), .int 0, .int r.2.2.2])), (ha, .inr (1, [.int v, .ref b])), (b, .inl (k 0, 78, .inl g))] H := hP
          have hD : va_D A_0 [(h, .inr (4, [.int v, .ref ha, .int r.1, .int (-1), .int 0, .int r.2.2.2])), (ha, .inr (1, [.int v, .ref b])), (b, .inl (k 0, 78, .inl g))] := hD
          refine lv_iload_n hx_ hb_ dX4_takeFree_62 rfl (lv_at hl 0 rfl) ?_
          refine lv_iconst (v := (-1)) hx_ hb_ dX4_takeFree_63 (by decide) ?_
          refine lv_icmp_ne (tgt := 71) hx_ hb_ dX4_takeFree_64 (by decide) (fun cc17 => ?_) (fun cc17 => ?_)
          · skip
            refine lv_iload_n hx_ hb_ dX4_takeFree_71 rfl (lv_at hl 0 rfl) ?_
            have eq1 : (r.1 : Int32) = (rd_free v g r x).2.1 := by simp [rd_free, rd_al, eq_false cc1, eq_false cc2, eq_false cc3, eq_false cc16, eq_false cc17]
            have eq2 : ((-1) : Int32) = (rd_free v g r x).2.2.1 := by simp [rd_free, rd_al, eq_false cc1, eq_false cc2, eq_false cc3, eq_false cc16, eq_false cc17]
            have eq3 : (0 : Int32) = (rd_free v g r x).2.2.2.1 := by simp [rd_free, rd_al, eq_false cc1, eq_false cc2, eq_false cc3, eq_false cc16, eq_false cc17]
            have eq4 : (r.2.2.2 : Int32) = (rd_free v g r x).2.2.2.2 := by simp [rd_free, rd_al, eq_false cc1, eq_false cc2, eq_false cc3, eq_false cc16, eq_false cc17]
            have eqr : (al_let g r.2.1 x : Int32) = (rd_free v g r x).1 := by simp [rd_free, rd_al, eq_false cc1, eq_false cc2, eq_false cc3, eq_false cc16, eq_false cc17]
            exact ct_iret C_0 (hP.sub [0, 1, 2] rfl) (hD.sub [0, 1, 2] (by decide) rfl) hS (Nat.le_of_ble_eq_true rfl) (Nat.le_of_ble_eq_true rfl) dX4_takeFree_72 (⟨eqr, congr (congr (congr (congrArg (fun (z1 : Int32) (z2 : Int32) (z3 : Int32) (z4 : Int32) => ([(h, .inr (4, [.int v, .ref ha, .int z1, .int z2, .int z3, .int z4])), (ha, .inr (1, [.int v, .ref b])), (b, .inl (k 0, 78, .inl g))] : va_W)) eq1) eq2) eq3) eq4⟩)
          · exact absurd cc17 cc16
        · skip
          refine lv_iconst (v := 2) hx_ hb_ dX4_takeFree_54 (by decide) ?_
          refine lv_goto (tgt := 59) hx_ hb_ dX4_takeFree_55 (by decide) ?_
          refine va_put (D := D) (ci := 4) (v := .int 2) (ty := .int) (C := RX4) (T := TX4) (N := 6) hx_ hb_ hts_ inM_X4 tyX4 tyX4_ok nmX4 hown_ hK.1 hP hD hS 0 rfl rfl 4 (by decide) (hts_ _ (List.mem_cons_of_mem _ wa_f_X4_28)) (fun _ h9 => h9) rfl (by decide +kernel) rfl rfl (Nat.le_of_ble_eq_true rfl) dX4_takeFree_59 (fun H locs hP hD hS => ?_)
          have hP : va_P D vwCl [(h, .inr (4, [.int v, .ref ha, .int r.1, .int (-1), .int 2, .int r.2.2.2])), (ha, .inr (1, [.int v, .ref b])), (b, .inl (k 0, 78, .inl g))] H := hP
          have hD : va_D A_0 [(h, .inr (4, [.int v, .ref ha, .int r.1, .int (-1), .int 2, .int r.2.2.2])), (ha, .inr (1, [.int v, .ref b])), (b, .inl (k 0, 78, .inl g))] := hD
          refine lv_iload_n hx_ hb_ dX4_takeFree_62 rfl (lv_at hl 0 rfl) ?_
          refine lv_iconst (v := (-1)) hx_ hb_ dX4_takeFree_63 (by decide) ?_
          refine lv_icmp_ne (tgt := 71) hx_ hb_ dX4_takeFree_64 (by decide) (fun cc18 => ?_) (fun cc18 => ?_)
          · exact absurd cc16 cc18
          · skip
            refine lv_iconst (v := (-1)) hx_ hb_ dX4_takeFree_67 (by decide) ?_
            refine lv_goto (tgt := 72) hx_ hb_ dX4_takeFree_68 (by decide) ?_
            have eq1 : (r.1 : Int32) = (rd_free v g r x).2.1 := by simp [rd_free, rd_al, eq_false cc1, eq_false cc2, eq_false cc3, eq_true cc16, eq_true cc18]
            have eq2 : ((-1) : Int32) = (rd_free v g r x).2.2.1 := by simp [rd_free, rd_al, eq_false cc1, eq_false cc2, eq_false cc3, eq_true cc16, eq_true cc18]
            have eq3 : (2 : Int32) = (rd_free v g r x).2.2.2.1 := by simp [rd_free, rd_al, eq_false cc1, eq_false cc2, eq_false cc3, eq_true cc16, eq_true cc18]
            have eq4 : (r.2.2.2 : Int32) = (rd_free v g r x).2.2.2.2 := by simp [rd_free, rd_al, eq_false cc1, eq_false cc2, eq_false cc3, eq_true cc16, eq_true cc18]
            have eqr : ((-1) : Int32) = (rd_free v g r x).1 := by simp [rd_free, rd_al, eq_false cc1, eq_false cc2, eq_false cc3, eq_true cc16, eq_true cc18]
            exact ct_iret C_0 (hP.sub [0, 1, 2] rfl) (hD.sub [0, 1, 2] (by decide) rfl) hS (Nat.le_of_ble_eq_true rfl) (Nat.le_of_ble_eq_true rfl) dX4_takeFree_72 (⟨eqr, congr (congr (congr (congrArg (fun (z1 : Int32) (z2 : Int32) (z3 : Int32) (z4 : Int32) => ([(h, .inr (4, [.int v, .ref ha, .int z1, .int z2, .int z3, .int z4])), (ha, .inr (1, [.int v, .ref b])), (b, .inl (k 0, 78, .inl g))] : va_W)) eq1) eq2) eq3) eq4⟩)
    · skip
      refine lv_bipush (v := 32) hx_ hb_ dX4_takeFree_29 (by decide) ?_
      have eq1 : (r.1 : Int32) = (rd_free v g r x).2.1 := by simp [rd_free, rd_al, eq_false cc1, eq_true cc2]
      have eq2 : ((-1) : Int32) = (rd_free v g r x).2.2.1 := by simp [rd_free, rd_al, eq_false cc1, eq_true cc2]
      have eq3 : (r.2.2.1 : Int32) = (rd_free v g r x).2.2.2.1 := by simp [rd_free, rd_al, eq_false cc1, eq_true cc2]
      have eq4 : (r.2.2.2 : Int32) = (rd_free v g r x).2.2.2.2 := by simp [rd_free, rd_al, eq_false cc1, eq_true cc2]
      have eqr : (32 : Int32) = (rd_free v g r x).1 := by simp [rd_free, rd_al, eq_false cc1, eq_true cc2]
      exact ct_iret C_0 (hP.sub [0, 1, 2] rfl) (hD.sub [0, 1, 2] (by decide) rfl) hS (Nat.le_of_ble_eq_true rfl) (Nat.le_of_ble_eq_true rfl) dX4_takeFree_31 (⟨eqr, congr (congr (congr (congrArg (fun (z1 : Int32) (z2 : Int32) (z3 : Int32) (z4 : Int32) => ([(h, .inr (4, [.int v, .ref ha, .int z1, .int z2, .int z3, .int z4])), (ha, .inr (1, [.int v, .ref b])), (b, .inl (k 0, 78, .inl g))] : va_W)) eq1) eq2) eq3) eq4⟩)
  · skip
    refine lv_aload_n hx_ hb_ dX4_takeFree_8 rfl (lv_at hl 0 rfl) ?_
    refine va_get (D := D) (ci := 4) (v := .int r.1) (C := RX4) (T := TX4) (N := 6) hx_ hb_ hts_ inM_X4 hown_ hK.1 hP 0 rfl rfl 2 (by decide) (hts_ _ (List.mem_cons_of_mem _ wa_f_X4_22)) (fun _ h9 => h9) rfl dX4_takeFree_9 ?_
    refine lv_goto (tgt := 19) hx_ hb_ dX4_takeFree_12 (by decide) ?_
    refine lv_istore_n (lv' := [(2, .int r.1), (0, .ref h), (1, .int x)]) hx_ hb_ dX4_takeFree_19 rfl hl (by decide) rfl (fun ls hl => ?_)
    refine lv_aload_n hx_ hb_ dX4_takeFree_20 rfl (lv_at hl 1 rfl) ?_
    refine lv_iconst (v := (-1)) hx_ hb_ dX4_takeFree_21 (by decide) ?_
    refine va_put (D := D) (ci := 4) (v := .int (-1)) (ty := .int) (C := RX4) (T := TX4) (N := 6) hx_ hb_ hts_ inM_X4 tyX4 tyX4_ok nmX4 hown_ hK.1 hP hD hS 0 rfl rfl 3 (by decide) (hts_ _ (List.mem_cons_of_mem _ wa_f_X4_25)) (fun _ h9 => h9) rfl (by decide +kernel) rfl rfl (Nat.le_of_ble_eq_true rfl) dX4_takeFree_22 (fun H locs hP hD hS => ?_)
    have hP : va_P D vwCl [(h, .inr (4, [.int v, .ref ha, .int r.1, .int (-1), .int r.2.2.1, .int r.2.2.2])), (ha, .inr (1, [.int v, .ref b])), (b, .inl (k 0, 78, .inl g))] H := hP
    have hD : va_D A_0 [(h, .inr (4, [.int v, .ref ha, .int r.1, .int (-1), .int r.2.2.1, .int r.2.2.2])), (ha, .inr (1, [.int v, .ref b])), (b, .inl (k 0, 78, .inl g))] := hD
    refine lv_iload_n hx_ hb_ dX4_takeFree_25 rfl (lv_at hl 2 rfl) ?_
    refine lv_if_ne (tgt := 32) hx_ hb_ dX4_takeFree_26 (by decide) (fun cc19 => ?_) (fun cc19 => ?_)
    · skip
      refine lv_iload_n hx_ hb_ dX4_takeFree_32 rfl (lv_at hl 2 rfl) ?_
      refine lv_bipush (v := 6) hx_ hb_ dX4_takeFree_33 (by decide) ?_
      refine lv_icmp_lt (tgt := 73) hx_ hb_ dX4_takeFree_35 (by decide) (fun cc20 => ?_) (fun cc20 => ?_)
      · skip
        refine lv_iload_n hx_ hb_ dX4_takeFree_73 rfl (lv_at hl 2 rfl) ?_
        refine lv_iconst (v := 1) hx_ hb_ dX4_takeFree_74 (by decide) ?_
        refine lv_icmp_ne (tgt := 89) hx_ hb_ dX4_takeFree_75 (by decide) (fun cc21 => ?_) (fun cc21 => ?_)
        · skip
          refine lv_iload_n hx_ hb_ dX4_takeFree_89 rfl (lv_at hl 2 rfl) ?_
          refine lv_iconst (v := 1) hx_ hb_ dX4_takeFree_90 (by decide) ?_
          refine lv_icmp_eq (tgt := 107) hx_ hb_ dX4_takeFree_91 (by decide) (fun cc22 => ?_) (fun cc22 => ?_)
          · exact absurd cc22 cc21
          · skip
            refine lv_iload_n hx_ hb_ dX4_takeFree_94 rfl (lv_at hl 2 rfl) ?_
            refine lv_iconst (v := 3) hx_ hb_ dX4_takeFree_95 (by decide) ?_
            refine lv_icmp_gt (tgt := 125) hx_ hb_ dX4_takeFree_96 (by decide) (fun cc23 => ?_) (fun cc23 => ?_)
            · skip
              refine lv_aload_n hx_ hb_ dX4_takeFree_125 rfl (lv_at hl 1 rfl) ?_
              refine lv_iload_n hx_ hb_ dX4_takeFree_126 rfl (lv_at hl 2 rfl) ?_
              refine ct_Vv (wr := [(ha, .inr (1, [.int v, .ref b])), (b, .inl (k 0, 78, .inl g))]) (rest := []) (As := [.int x]) ⟨hx_, hb_, hml_, hown_, hts_⟩ (k_X4_shift l D k h ha v (r.1, -1, r.2.2.1, r.2.2.2) x ) (cwV 1 hts_ (gd_in (gw_V wa_m_X4_44 wa_y_X4_shift wa_s_X4_shift wa_i_X4 wa_k_X4_shift)) rfl rfl rfl (by decide +kernel) ⟨Nat.le_of_ble_eq_true rfl, Nat.le_of_ble_eq_true rfl⟩) hK hP hD hS hA [0] [1, 2] rfl rfl rfl rfl (by decide) 4 rfl rfl rfl hl.1 rfl rfl (Nat.le_of_ble_eq_true rfl) dX4_takeFree_127 ⟨Nat.le_of_ble_eq_true rfl, Nat.le_of_ble_eq_true rfl⟩ (fun w1 H locs ww25 hP hD hS => ?_)
              obtain rfl := ww25
              have hP : va_P D vwCl [(ha, .inr (1, [.int v, .ref b])), (b, .inl (k 0, 78, .inl g)), (h, .inr (4, [.int v, .ref ha, .int ((rd_sh v (r.1, -1, r.2.2.1, r.2.2.2) x).1), .int ((rd_sh v (r.1, -1, r.2.2.1, r.2.2.2) x).2.1), .int ((rd_sh v (r.1, -1, r.2.2.1, r.2.2.2) x).2.2.1), .int ((rd_sh v (r.1, -1, r.2.2.1, r.2.2.2) x).2.2.2)]))] H := hP
              have hD : va_D A_0 [(ha, .inr (1, [.int v, .ref b])), (b, .inl (k 0, 78, .inl g)), (h, .inr (4, [.int v, .ref ha, .int ((rd_sh v (r.1, -1, r.2.2.1, r.2.2.2) x).1), .int ((rd_sh v (r.1, -1, r.2.2.1, r.2.2.2) x).2.1), .int ((rd_sh v (r.1, -1, r.2.2.1, r.2.2.2) x).2.2.1), .int ((rd_sh v (r.1, -1, r.2.2.1, r.2.2.2) x).2.2.2)]))] := hD
              refine W.cs (cells' := 0) (slots' := 0) rfl rfl ?_
              refine lv_iconst (v := (-1)) hx_ hb_ dX4_takeFree_130 (by decide) ?_
              have eq1 : ((rd_sh v (r.1, -1, r.2.2.1, r.2.2.2) x).1 : Int32) = (rd_free v g r x).2.1 := by simp [rd_free, rd_al, eq_true cc1, eq_false cc19, eq_true cc20, eq_false cc21, eq_false cc22, eq_true cc23]
              have eq2 : ((rd_sh v (r.1, -1, r.2.2.1, r.2.2.2) x).2.1 : Int32) = (rd_free v g r x).2.2.1 := by simp [rd_free, rd_al, eq_true cc1, eq_false cc19, eq_true cc20, eq_false cc21, eq_false cc22, eq_true cc23]
              have eq3 : ((rd_sh v (r.1, -1, r.2.2.1, r.2.2.2) x).2.2.1 : Int32) = (rd_free v g r x).2.2.2.1 := by simp [rd_free, rd_al, eq_true cc1, eq_false cc19, eq_true cc20, eq_false cc21, eq_false cc22, eq_true cc23]
              have eq4 : ((rd_sh v (r.1, -1, r.2.2.1, r.2.2.2) x).2.2.2 : Int32) = (rd_free v g r x).2.2.2.2 := by simp [rd_free, rd_al, eq_true cc1, eq_false cc19, eq_true cc20, eq_false cc21, eq_false cc22, eq_true cc23]
              have eqr : ((-1) : Int32) = (rd_free v g r x).1 := by simp [rd_free, rd_al, eq_true cc1, eq_false cc19, eq_true cc20, eq_false cc21, eq_false cc22, eq_true cc23]
              exact ct_iret C_0 (hP.sub [2, 0, 1] rfl) (hD.sub [2, 0, 1] (by decide) rfl) hS (Nat.le_of_ble_eq_true rfl) (Nat.le_of_ble_eq_true rfl) dX4_takeFree_131 (⟨eqr, congr (congr (congr (congrArg (fun (z1 : Int32) (z2 : Int32) (z3 : Int32) (z4 : Int32) => ([(h, .inr (4, [.int v, .ref ha, .int z1, .int z2, .int z3, .int z4])), (ha, .inr (1, [.int v, .ref b])), (b, .inl (k 0, 78, .inl g))] : va_W)) eq1) eq2) eq3) eq4⟩)
            · skip
              refine lv_aload_n hx_ hb_ dX4_takeFree_99 rfl (lv_at hl 1 rfl) ?_
              refine va_get (D := D) (ci := 4) (v := .int v) (C := RX4) (T := TX4) (N := 6) hx_ hb_ hts_ inM_X4 hown_ hK.1 hP 0 rfl rfl 0 (by decide) (hts_ _ (List.mem_cons_of_mem _ wa_f_X4_9)) (fun _ h9 => h9) rfl dX4_takeFree_100 ?_
              refine lv_iconst (v := 3) hx_ hb_ dX4_takeFree_103 (by decide) ?_
              refine lv_icmp_lt (tgt := 125) hx_ hb_ dX4_takeFree_104 (by decide) (fun cc26 => ?_) (fun cc26 => ?_)
              · skip
                refine lv_aload_n hx_ hb_ dX4_takeFree_125 rfl (lv_at hl 1 rfl) ?_
                refine lv_iload_n hx_ hb_ dX4_takeFree_126 rfl (lv_at hl 2 rfl) ?_
                refine ct_Vv (wr := [(ha, .inr (1, [.int v, .ref b])), (b, .inl (k 0, 78, .inl g))]) (rest := []) (As := [.int x]) ⟨hx_, hb_, hml_, hown_, hts_⟩ (k_X4_shift l D k h ha v (r.1, -1, r.2.2.1, r.2.2.2) x ) (cwV 1 hts_ (gd_in (gw_V wa_m_X4_44 wa_y_X4_shift wa_s_X4_shift wa_i_X4 wa_k_X4_shift)) rfl rfl rfl (by decide +kernel) ⟨Nat.le_of_ble_eq_true rfl, Nat.le_of_ble_eq_true rfl⟩) hK hP hD hS hA [0] [1, 2] rfl rfl rfl rfl (by decide) 4 rfl rfl rfl hl.1 rfl rfl (Nat.le_of_ble_eq_true rfl) dX4_takeFree_127 ⟨Nat.le_of_ble_eq_true rfl, Nat.le_of_ble_eq_true rfl⟩ (fun w1 H locs ww28 hP hD hS => ?_)
                obtain rfl := ww28
                have hP : va_P D vwCl [(ha, .inr (1, [.int v, .ref b])), (b, .inl (k 0, 78, .inl g)), (h, .inr (4, [.int v, .ref ha, .int ((rd_sh v (r.1, -1, r.2.2.1, r.2.2.2) x).1), .int ((rd_sh v (r.1, -1, r.2.2.1, r.2.2.2) x).2.1), .int ((rd_sh v (r.1, -1, r.2.2.1, r.2.2.2) x).2.2.1), .int ((rd_sh v (r.1, -1, r.2.2.1, r.2.2.2) x).2.2.2)]))] H := hP
                have hD : va_D A_0 [(ha, .inr (1, [.int v, .ref b])), (b, .inl (k 0, 78, .inl g)), (h, .inr (4, [.int v, .ref ha, .int ((rd_sh v (r.1, -1, r.2.2.1, r.2.2.2) x).1), .int ((rd_sh v (r.1, -1, r.2.2.1, r.2.2.2) x).2.1), .int ((rd_sh v (r.1, -1, r.2.2.1, r.2.2.2) x).2.2.1), .int ((rd_sh v (r.1, -1, r.2.2.1, r.2.2.2) x).2.2.2)]))] := hD
                refine W.cs (cells' := 0) (slots' := 0) rfl rfl ?_
                refine lv_iconst (v := (-1)) hx_ hb_ dX4_takeFree_130 (by decide) ?_
                have eq1 : ((rd_sh v (r.1, -1, r.2.2.1, r.2.2.2) x).1 : Int32) = (rd_free v g r x).2.1 := by simp [rd_free, rd_al, eq_true cc1, eq_false cc19, eq_true cc20, eq_false cc21, eq_false cc22, eq_false cc23, eq_true cc26]
                have eq2 : ((rd_sh v (r.1, -1, r.2.2.1, r.2.2.2) x).2.1 : Int32) = (rd_free v g r x).2.2.1 := by simp [rd_free, rd_al, eq_true cc1, eq_false cc19, eq_true cc20, eq_false cc21, eq_false cc22, eq_false cc23, eq_true cc26]
                have eq3 : ((rd_sh v (r.1, -1, r.2.2.1, r.2.2.2) x).2.2.1 : Int32) = (rd_free v g r x).2.2.2.1 := by simp [rd_free, rd_al, eq_true cc1, eq_false cc19, eq_true cc20, eq_false cc21, eq_false cc22, eq_false cc23, eq_true cc26]
                have eq4 : ((rd_sh v (r.1, -1, r.2.2.1, r.2.2.2) x).2.2.2 : Int32) = (rd_free v g r x).2.2.2.2 := by simp [rd_free, rd_al, eq_true cc1, eq_false cc19, eq_true cc20, eq_false cc21, eq_false cc22, eq_false cc23, eq_true cc26]
                have eqr : ((-1) : Int32) = (rd_free v g r x).1 := by simp [rd_free, rd_al, eq_true cc1, eq_false cc19, eq_true cc20, eq_false cc21, eq_false cc22, eq_false cc23, eq_true cc26]
                exact ct_iret C_0 (hP.sub [2, 0, 1] rfl) (hD.sub [2, 0, 1] (by decide) rfl) hS (Nat.le_of_ble_eq_true rfl) (Nat.le_of_ble_eq_true rfl) dX4_takeFree_131 (⟨eqr, congr (congr (congr (congrArg (fun (z1 : Int32) (z2 : Int32) (z3 : Int32) (z4 : Int32) => ([(h, .inr (4, [.int v, .ref ha, .int z1, .int z2, .int z3, .int z4])), (ha, .inr (1, [.int v, .ref b])), (b, .inl (k 0, 78, .inl g))] : va_W)) eq1) eq2) eq3) eq4⟩)
              · skip
                refine lv_aload_n hx_ hb_ dX4_takeFree_107 rfl (lv_at hl 1 rfl) ?_
                refine lv_iconst (v := 1) hx_ hb_ dX4_takeFree_108 (by decide) ?_
                refine va_put (D := D) (ci := 4) (v := .int 1) (ty := .int) (C := RX4) (T := TX4) (N := 6) hx_ hb_ hts_ inM_X4 tyX4 tyX4_ok nmX4 hown_ hK.1 hP hD hS 0 rfl rfl 4 (by decide) (hts_ _ (List.mem_cons_of_mem _ wa_f_X4_28)) (fun _ h9 => h9) rfl (by decide +kernel) rfl rfl (Nat.le_of_ble_eq_true rfl) dX4_takeFree_109 (fun H locs hP hD hS => ?_)
                have hP : va_P D vwCl [(h, .inr (4, [.int v, .ref ha, .int r.1, .int (-1), .int 1, .int r.2.2.2])), (ha, .inr (1, [.int v, .ref b])), (b, .inl (k 0, 78, .inl g))] H := hP
                have hD : va_D A_0 [(h, .inr (4, [.int v, .ref ha, .int r.1, .int (-1), .int 1, .int r.2.2.2])), (ha, .inr (1, [.int v, .ref b])), (b, .inl (k 0, 78, .inl g))] := hD
                refine lv_aload_n hx_ hb_ dX4_takeFree_112 rfl (lv_at hl 1 rfl) ?_
                refine lv_bipush (v := 32) hx_ hb_ dX4_takeFree_113 (by decide) ?_
                refine lv_iload_n hx_ hb_ dX4_takeFree_115 rfl (lv_at hl 2 rfl) ?_
                refine lv_iconst (v := 1) hx_ hb_ dX4_takeFree_116 (by decide) ?_
                refine lv_isub hx_ hb_ dX4_takeFree_117 ?_
                refine lv_imul hx_ hb_ dX4_takeFree_118 ?_
                refine va_put (D := D) (ci := 4) (v := .int (32 * (x - 1))) (ty := .int) (C := RX4) (T := TX4) (N := 6) hx_ hb_ hts_ inM_X4 tyX4 tyX4_ok nmX4 hown_ hK.1 hP hD hS 0 rfl rfl 5 (by decide) (hts_ _ (List.mem_cons_of_mem _ wa_f_X4_31)) (fun _ h9 => h9) rfl (by decide +kernel) rfl rfl (Nat.le_of_ble_eq_true rfl) dX4_takeFree_119 (fun H locs hP hD hS => ?_)
                have hP : va_P D vwCl [(h, .inr (4, [.int v, .ref ha, .int r.1, .int (-1), .int 1, .int (32 * (x - 1))])), (ha, .inr (1, [.int v, .ref b])), (b, .inl (k 0, 78, .inl g))] H := hP
                have hD : va_D A_0 [(h, .inr (4, [.int v, .ref ha, .int r.1, .int (-1), .int 1, .int (32 * (x - 1))])), (ha, .inr (1, [.int v, .ref b])), (b, .inl (k 0, 78, .inl g))] := hD
                refine lv_bipush (v := (-2)) hx_ hb_ dX4_takeFree_122 (by decide) ?_
                have eq1 : (r.1 : Int32) = (rd_free v g r x).2.1 := by simp [rd_free, rd_al, eq_true cc1, eq_false cc19, eq_true cc20, eq_false cc21, eq_false cc22, eq_false cc23, eq_false cc26]
                have eq2 : ((-1) : Int32) = (rd_free v g r x).2.2.1 := by simp [rd_free, rd_al, eq_true cc1, eq_false cc19, eq_true cc20, eq_false cc21, eq_false cc22, eq_false cc23, eq_false cc26]
                have eq3 : (1 : Int32) = (rd_free v g r x).2.2.2.1 := by simp [rd_free, rd_al, eq_true cc1, eq_false cc19, eq_true cc20, eq_false cc21, eq_false cc22, eq_false cc23, eq_false cc26]
                have eq4 : (32 * (x - 1) : Int32) = (rd_free v g r x).2.2.2.2 := by simp [rd_free, rd_al, eq_true cc1, eq_false cc19, eq_true cc20, eq_false cc21, eq_false cc22, eq_false cc23, eq_false cc26]
                have eqr : ((-2) : Int32) = (rd_free v g r x).1 := by simp [rd_free, rd_al, eq_true cc1, eq_false cc19, eq_true cc20, eq_false cc21, eq_false cc22, eq_false cc23, eq_false cc26]
                exact ct_iret C_0 (hP.sub [0, 1, 2] rfl) (hD.sub [0, 1, 2] (by decide) rfl) hS (Nat.le_of_ble_eq_true rfl) (Nat.le_of_ble_eq_true rfl) dX4_takeFree_124 (⟨eqr, congr (congr (congr (congrArg (fun (z1 : Int32) (z2 : Int32) (z3 : Int32) (z4 : Int32) => ([(h, .inr (4, [.int v, .ref ha, .int z1, .int z2, .int z3, .int z4])), (ha, .inr (1, [.int v, .ref b])), (b, .inl (k 0, 78, .inl g))] : va_W)) eq1) eq2) eq3) eq4⟩)
        · skip
          refine lv_aload_n hx_ hb_ dX4_takeFree_78 rfl (lv_at hl 1 rfl) ?_
          refine va_get (D := D) (ci := 4) (v := .int v) (C := RX4) (T := TX4) (N := 6) hx_ hb_ hts_ inM_X4 hown_ hK.1 hP 0 rfl rfl 0 (by decide) (hts_ _ (List.mem_cons_of_mem _ wa_f_X4_9)) (fun _ h9 => h9) rfl dX4_takeFree_79 ?_
          refine lv_iconst (v := 1) hx_ hb_ dX4_takeFree_82 (by decide) ?_
          refine lv_icmp_ne (tgt := 89) hx_ hb_ dX4_takeFree_83 (by decide) (fun cc29 => ?_) (fun cc29 => ?_)
          · skip
            refine lv_iload_n hx_ hb_ dX4_takeFree_89 rfl (lv_at hl 2 rfl) ?_
            refine lv_iconst (v := 1) hx_ hb_ dX4_takeFree_90 (by decide) ?_
            refine lv_icmp_eq (tgt := 107) hx_ hb_ dX4_takeFree_91 (by decide) (fun cc30 => ?_) (fun cc30 => ?_)
            · skip
              refine lv_aload_n hx_ hb_ dX4_takeFree_107 rfl (lv_at hl 1 rfl) ?_
              refine lv_iconst (v := 1) hx_ hb_ dX4_takeFree_108 (by decide) ?_
              refine va_put (D := D) (ci := 4) (v := .int 1) (ty := .int) (C := RX4) (T := TX4) (N := 6) hx_ hb_ hts_ inM_X4 tyX4 tyX4_ok nmX4 hown_ hK.1 hP hD hS 0 rfl rfl 4 (by decide) (hts_ _ (List.mem_cons_of_mem _ wa_f_X4_28)) (fun _ h9 => h9) rfl (by decide +kernel) rfl rfl (Nat.le_of_ble_eq_true rfl) dX4_takeFree_109 (fun H locs hP hD hS => ?_)
              have hP : va_P D vwCl [(h, .inr (4, [.int v, .ref ha, .int r.1, .int (-1), .int 1, .int r.2.2.2])), (ha, .inr (1, [.int v, .ref b])), (b, .inl (k 0, 78, .inl g))] H := hP
              have hD : va_D A_0 [(h, .inr (4, [.int v, .ref ha, .int r.1, .int (-1), .int 1, .int r.2.2.2])), (ha, .inr (1, [.int v, .ref b])), (b, .inl (k 0, 78, .inl g))] := hD
              refine lv_aload_n hx_ hb_ dX4_takeFree_112 rfl (lv_at hl 1 rfl) ?_
              refine lv_bipush (v := 32) hx_ hb_ dX4_takeFree_113 (by decide) ?_
              refine lv_iload_n hx_ hb_ dX4_takeFree_115 rfl (lv_at hl 2 rfl) ?_
              refine lv_iconst (v := 1) hx_ hb_ dX4_takeFree_116 (by decide) ?_
              refine lv_isub hx_ hb_ dX4_takeFree_117 ?_
              refine lv_imul hx_ hb_ dX4_takeFree_118 ?_
              refine va_put (D := D) (ci := 4) (v := .int (32 * (x - 1))) (ty := .int) (C := RX4) (T := TX4) (N := 6) hx_ hb_ hts_ inM_X4 tyX4 tyX4_ok nmX4 hown_ hK.1 hP hD hS 0 rfl rfl 5 (by decide) (hts_ _ (List.mem_cons_of_mem _ wa_f_X4_31)) (fun _ h9 => h9) rfl (by decide +kernel) rfl rfl (Nat.le_of_ble_eq_true rfl) dX4_takeFree_119 (fun H locs hP hD hS => ?_)
              have hP : va_P D vwCl [(h, .inr (4, [.int v, .ref ha, .int r.1, .int (-1), .int 1, .int (32 * (x - 1))])), (ha, .inr (1, [.int v, .ref b])), (b, .inl (k 0, 78, .inl g))] H := hP
              have hD : va_D A_0 [(h, .inr (4, [.int v, .ref ha, .int r.1, .int (-1), .int 1, .int (32 * (x - 1))])), (ha, .inr (1, [.int v, .ref b])), (b, .inl (k 0, 78, .inl g))] := hD
              refine lv_bipush (v := (-2)) hx_ hb_ dX4_takeFree_122 (by decide) ?_
              have eq1 : (r.1 : Int32) = (rd_free v g r x).2.1 := by simp [rd_free, rd_al, eq_true cc1, eq_false cc19, eq_true cc20, eq_true cc21, eq_false cc29, eq_true cc30]
              have eq2 : ((-1) : Int32) = (rd_free v g r x).2.2.1 := by simp [rd_free, rd_al, eq_true cc1, eq_false cc19, eq_true cc20, eq_true cc21, eq_false cc29, eq_true cc30]
              have eq3 : (1 : Int32) = (rd_free v g r x).2.2.2.1 := by simp [rd_free, rd_al, eq_true cc1, eq_false cc19, eq_true cc20, eq_true cc21, eq_false cc29, eq_true cc30]
              have eq4 : (32 * (x - 1) : Int32) = (rd_free v g r x).2.2.2.2 := by simp [rd_free, rd_al, eq_true cc1, eq_false cc19, eq_true cc20, eq_true cc21, eq_false cc29, eq_true cc30]
              have eqr : ((-2) : Int32) = (rd_free v g r x).1 := by simp [rd_free, rd_al, eq_true cc1, eq_false cc19, eq_true cc20, eq_true cc21, eq_false cc29, eq_true cc30]
              exact ct_iret C_0 (hP.sub [0, 1, 2] rfl) (hD.sub [0, 1, 2] (by decide) rfl) hS (Nat.le_of_ble_eq_true rfl) (Nat.le_of_ble_eq_true rfl) dX4_takeFree_124 (⟨eqr, congr (congr (congr (congrArg (fun (z1 : Int32) (z2 : Int32) (z3 : Int32) (z4 : Int32) => ([(h, .inr (4, [.int v, .ref ha, .int z1, .int z2, .int z3, .int z4])), (ha, .inr (1, [.int v, .ref b])), (b, .inl (k 0, 78, .inl g))] : va_W)) eq1) eq2) eq3) eq4⟩)
            · exact absurd cc21 cc30
          · skip
            refine lv_bipush (v := 13) hx_ hb_ dX4_takeFree_86 (by decide) ?_
            have eq1 : (r.1 : Int32) = (rd_free v g r x).2.1 := by simp [rd_free, rd_al, eq_true cc1, eq_false cc19, eq_true cc20, eq_true cc21, eq_true cc29]
            have eq2 : ((-1) : Int32) = (rd_free v g r x).2.2.1 := by simp [rd_free, rd_al, eq_true cc1, eq_false cc19, eq_true cc20, eq_true cc21, eq_true cc29]
            have eq3 : (r.2.2.1 : Int32) = (rd_free v g r x).2.2.2.1 := by simp [rd_free, rd_al, eq_true cc1, eq_false cc19, eq_true cc20, eq_true cc21, eq_true cc29]
            have eq4 : (r.2.2.2 : Int32) = (rd_free v g r x).2.2.2.2 := by simp [rd_free, rd_al, eq_true cc1, eq_false cc19, eq_true cc20, eq_true cc21, eq_true cc29]
            have eqr : (13 : Int32) = (rd_free v g r x).1 := by simp [rd_free, rd_al, eq_true cc1, eq_false cc19, eq_true cc20, eq_true cc21, eq_true cc29]
            exact ct_iret C_0 (hP.sub [0, 1, 2] rfl) (hD.sub [0, 1, 2] (by decide) rfl) hS (Nat.le_of_ble_eq_true rfl) (Nat.le_of_ble_eq_true rfl) dX4_takeFree_88 (⟨eqr, congr (congr (congr (congrArg (fun (z1 : Int32) (z2 : Int32) (z3 : Int32) (z4 : Int32) => ([(h, .inr (4, [.int v, .ref ha, .int z1, .int z2, .int z3, .int z4])), (ha, .inr (1, [.int v, .ref b])), (b, .inl (k 0, 78, .inl g))] : va_W)) eq1) eq2) eq3) eq4⟩)
      · skip
        refine lv_aload_n hx_ hb_ dX4_takeFree_38 rfl (lv_at hl 1 rfl) ?_
        refine va_get (D := D) (ci := 4) (v := .ref ha) (C := RX4) (T := TX4) (N := 6) hx_ hb_ hts_ inM_X4 hown_ hK.1 hP 0 rfl rfl 1 (by decide) (hts_ _ (List.mem_cons_of_mem _ wa_f_X4_15)) (fun _ h9 => h9) rfl dX4_takeFree_39 ?_
        refine lv_iload_n hx_ hb_ dX4_takeFree_42 rfl (lv_at hl 0 rfl) ?_
        refine lv_iload_n hx_ hb_ dX4_takeFree_43 rfl (lv_at hl 2 rfl) ?_
        refine ct_Vi (wr := [(h, .inr (4, [.int v, .ref ha, .int r.1, .int (-1), .int r.2.2.1, .int r.2.2.2]))]) (rest := []) (As := [.int r.1, .int x]) ⟨hx_, hb_, hml_, hown_, hts_⟩ (k_X1_letterFor l D k ha b v g r.1 x ) (cwV 2 hts_ (gd_in (gw_V wa_m_X4_38 wa_y_X1_letterFor wa_s_X1_letterFor wa_i_X1 wa_k_X1_letterFor)) rfl rfl rfl (by decide +kernel) ⟨Nat.le_of_ble_eq_true rfl, Nat.le_of_ble_eq_true rfl⟩) hK hP hD hS hA [1, 2] [0] rfl rfl rfl rfl (by decide) 1 rfl rfl rfl hl.1 rfl rfl (Nat.le_of_ble_eq_true rfl) dX4_takeFree_44 ⟨Nat.le_of_ble_eq_true rfl, Nat.le_of_ble_eq_true rfl⟩ (fun rr31 w1 H locs ww32 hP hD hS => ?_)
        obtain ⟨rfl, rfl⟩ := ww32
        have hP : va_P D vwCl [(h, .inr (4, [.int v, .ref ha, .int r.1, .int (-1), .int r.2.2.1, .int r.2.2.2])), (ha, .inr (1, [.int v, .ref b])), (b, .inl (k 0, 78, .inl g))] H := hP
        have hD : va_D A_0 [(h, .inr (4, [.int v, .ref ha, .int r.1, .int (-1), .int r.2.2.1, .int r.2.2.2])), (ha, .inr (1, [.int v, .ref b])), (b, .inl (k 0, 78, .inl g))] := hD
        refine W.cs (cells' := 0) (slots' := 0) rfl rfl ?_
        refine lv_istore_n (lv' := [(3, .int (al_let g r.1 x)), (2, .int r.1), (0, .ref h), (1, .int x)]) hx_ hb_ dX4_takeFree_47 rfl hl (by decide) rfl (fun ls hl => ?_)
        refine lv_aload_n hx_ hb_ dX4_takeFree_48 rfl (lv_at hl 2 rfl) ?_
        refine lv_iload_n hx_ hb_ dX4_takeFree_49 rfl (lv_at hl 0 rfl) ?_
        refine lv_iconst (v := (-1)) hx_ hb_ dX4_takeFree_50 (by decide) ?_
        refine lv_icmp_ne (tgt := 58) hx_ hb_ dX4_takeFree_51 (by decide) (fun cc33 => ?_) (fun cc33 => ?_)
        · skip
          refine lv_iconst (v := 0) hx_ hb_ dX4_takeFree_58 (by decide) ?_
          refine va_put (D := D) (ci := 4) (v := .int 0) (ty := .int) (C := RX4) (T := TX4) (N := 6) hx_ hb_ hts_ inM_X4 tyX4 tyX4_ok nmX4 hown_ hK.1 hP hD hS 0 rfl rfl 4 (by decide) (hts_ _ (List.mem_cons_of_mem _ wa_f_X4_28)) (fun _ h9 => h9) rfl (by decide +kernel) rfl rfl (Nat.le_of_ble_eq_true rfl) dX4_takeFree_59 (fun H locs hP hD hS => ?_)
          have hP : va_P D vwCl [(h, .inr (4, [.int v, .ref ha, .int r.1, .int (-1), .int 0, .int r.2.2.2])), (ha, .inr (1, [.int v, .ref b])), (b, .inl (k 0, 78, .inl g))] H := hP
          have hD : va_D A_0 [(h, .inr (4, [.int v, .ref ha, .int r.1, .int (-1), .int 0, .int r.2.2.2])), (ha, .inr (1, [.int v, .ref b])), (b, .inl (k 0, 78, .inl g))] := hD
          refine lv_iload_n hx_ hb_ dX4_takeFree_62 rfl (lv_at hl 0 rfl) ?_
          refine lv_iconst (v := (-1)) hx_ hb_ dX4_takeFree_63 (by decide) ?_
          refine lv_icmp_ne (tgt := 71) hx_ hb_ dX4_takeFree_64 (by decide) (fun cc34 => ?_) (fun cc34 => ?_)
          · skip
            refine lv_iload_n hx_ hb_ dX4_takeFree_71 rfl (lv_at hl 0 rfl) ?_
            have eq1 : (r.1 : Int32) = (rd_free v g r x).2.1 := by simp [rd_free, rd_al, eq_true cc1, eq_false cc19, eq_false cc20, eq_false cc33, eq_false cc34]
            have eq2 : ((-1) : Int32) = (rd_free v g r x).2.2.1 := by simp [rd_free, rd_al, eq_true cc1, eq_false cc19, eq_false cc20, eq_false cc33, eq_false cc34]
            have eq3 : (0 : Int32) = (rd_free v g r x).2.2.2.1 := by simp [rd_free, rd_al, eq_true cc1, eq_false cc19, eq_false cc20, eq_false cc33, eq_false cc34]
            have eq4 : (r.2.2.2 : Int32) = (rd_free v g r x).2.2.2.2 := by simp [rd_free, rd_al, eq_true cc1, eq_false cc19, eq_false cc20, eq_false cc33, eq_false cc34]
            have eqr : (al_let g r.1 x : Int32) = (rd_free v g r x).1 := by simp [rd_free, rd_al, eq_true cc1, eq_false cc19, eq_false cc20, eq_false cc33, eq_false cc34]
            exact ct_iret C_0 (hP.sub [0, 1, 2] rfl) (hD.sub [0, 1, 2] (by decide) rfl) hS (Nat.le_of_ble_eq_true rfl) (Nat.le_of_ble_eq_true rfl) dX4_takeFree_72 (⟨eqr, congr (congr (congr (congrArg (fun (z1 : Int32) (z2 : Int32) (z3 : Int32) (z4 : Int32) => ([(h, .inr (4, [.int v, .ref ha, .int z1, .int z2, .int z3, .int z4])), (ha, .inr (1, [.int v, .ref b])), (b, .inl (k 0, 78, .inl g))] : va_W)) eq1) eq2) eq3) eq4⟩)
          · exact absurd cc34 cc33
        · skip
          refine lv_iconst (v := 2) hx_ hb_ dX4_takeFree_54 (by decide) ?_
          refine lv_goto (tgt := 59) hx_ hb_ dX4_takeFree_55 (by decide) ?_
          refine va_put (D := D) (ci := 4) (v := .int 2) (ty := .int) (C := RX4) (T := TX4) (N := 6) hx_ hb_ hts_ inM_X4 tyX4 tyX4_ok nmX4 hown_ hK.1 hP hD hS 0 rfl rfl 4 (by decide) (hts_ _ (List.mem_cons_of_mem _ wa_f_X4_28)) (fun _ h9 => h9) rfl (by decide +kernel) rfl rfl (Nat.le_of_ble_eq_true rfl) dX4_takeFree_59 (fun H locs hP hD hS => ?_)
          have hP : va_P D vwCl [(h, .inr (4, [.int v, .ref ha, .int r.1, .int (-1), .int 2, .int r.2.2.2])), (ha, .inr (1, [.int v, .ref b])), (b, .inl (k 0, 78, .inl g))] H := hP
          have hD : va_D A_0 [(h, .inr (4, [.int v, .ref ha, .int r.1, .int (-1), .int 2, .int r.2.2.2])), (ha, .inr (1, [.int v, .ref b])), (b, .inl (k 0, 78, .inl g))] := hD
          refine lv_iload_n hx_ hb_ dX4_takeFree_62 rfl (lv_at hl 0 rfl) ?_
          refine lv_iconst (v := (-1)) hx_ hb_ dX4_takeFree_63 (by decide) ?_
          refine lv_icmp_ne (tgt := 71) hx_ hb_ dX4_takeFree_64 (by decide) (fun cc35 => ?_) (fun cc35 => ?_)
          · exact absurd cc33 cc35
          · skip
            refine lv_iconst (v := (-1)) hx_ hb_ dX4_takeFree_67 (by decide) ?_
            refine lv_goto (tgt := 72) hx_ hb_ dX4_takeFree_68 (by decide) ?_
            have eq1 : (r.1 : Int32) = (rd_free v g r x).2.1 := by simp [rd_free, rd_al, eq_true cc1, eq_false cc19, eq_false cc20, eq_true cc33, eq_true cc35]
            have eq2 : ((-1) : Int32) = (rd_free v g r x).2.2.1 := by simp [rd_free, rd_al, eq_true cc1, eq_false cc19, eq_false cc20, eq_true cc33, eq_true cc35]
            have eq3 : (2 : Int32) = (rd_free v g r x).2.2.2.1 := by simp [rd_free, rd_al, eq_true cc1, eq_false cc19, eq_false cc20, eq_true cc33, eq_true cc35]
            have eq4 : (r.2.2.2 : Int32) = (rd_free v g r x).2.2.2.2 := by simp [rd_free, rd_al, eq_true cc1, eq_false cc19, eq_false cc20, eq_true cc33, eq_true cc35]
            have eqr : ((-1) : Int32) = (rd_free v g r x).1 := by simp [rd_free, rd_al, eq_true cc1, eq_false cc19, eq_false cc20, eq_true cc33, eq_true cc35]
            exact ct_iret C_0 (hP.sub [0, 1, 2] rfl) (hD.sub [0, 1, 2] (by decide) rfl) hS (Nat.le_of_ble_eq_true rfl) (Nat.le_of_ble_eq_true rfl) dX4_takeFree_72 (⟨eqr, congr (congr (congr (congrArg (fun (z1 : Int32) (z2 : Int32) (z3 : Int32) (z4 : Int32) => ([(h, .inr (4, [.int v, .ref ha, .int z1, .int z2, .int z3, .int z4])), (ha, .inr (1, [.int v, .ref b])), (b, .inl (k 0, 78, .inl g))] : va_W)) eq1) eq2) eq3) eq4⟩)
    · skip
      refine lv_bipush (v := 32) hx_ hb_ dX4_takeFree_29 (by decide) ?_
      have eq1 : (r.1 : Int32) = (rd_free v g r x).2.1 := by simp [rd_free, rd_al, eq_true cc1, eq_true cc19]
      have eq2 : ((-1) : Int32) = (rd_free v g r x).2.2.1 := by simp [rd_free, rd_al, eq_true cc1, eq_true cc19]
      have eq3 : (r.2.2.1 : Int32) = (rd_free v g r x).2.2.2.1 := by simp [rd_free, rd_al, eq_true cc1, eq_true cc19]
      have eq4 : (r.2.2.2 : Int32) = (rd_free v g r x).2.2.2.2 := by simp [rd_free, rd_al, eq_true cc1, eq_true cc19]
      have eqr : (32 : Int32) = (rd_free v g r x).1 := by simp [rd_free, rd_al, eq_true cc1, eq_true cc19]
      exact ct_iret C_0 (hP.sub [0, 1, 2] rfl) (hD.sub [0, 1, 2] (by decide) rfl) hS (Nat.le_of_ble_eq_true rfl) (Nat.le_of_ble_eq_true rfl) dX4_takeFree_31 (⟨eqr, congr (congr (congr (congrArg (fun (z1 : Int32) (z2 : Int32) (z3 : Int32) (z4 : Int32) => ([(h, .inr (4, [.int v, .ref ha, .int z1, .int z2, .int z3, .int z4])), (ha, .inr (1, [.int v, .ref b])), (b, .inl (k 0, 78, .inl g))] : va_W)) eq1) eq2) eq3) eq4⟩)
abbrev po_X4_take (k : Nat → ClassId) (h : Nat) (ha : Nat) (v : Int32) (r : RS) (b : Nat) (g : Nat → Int32) (x : Int32) : Int32 → va_W → Prop := fun ans_ w1 => ans_ = (rd_take v g r x).1 ∧ w1 = [(h, .inr (4, [.int v, .ref ha, .int (((rd_take v g r x).2).1), .int (((rd_take v g r x).2).2.1), .int (((rd_take v g r x).2).2.2.1), .int (((rd_take v g r x).2).2.2.2)])), (ha, .inr (1, [.int v, .ref b])), (b, .inl (k 0, 78, .inl g))]
set_option maxHeartbeats 4000000 in
set_option maxRecDepth 100000 in
/-- take -/
theorem k_X4_take (l : Launch) (D : va_G) (k : Nat → ClassId) (h : Nat) (ha : Nat) (v : Int32) (r : RS) (b : Nat) (g : Nat → Int32) (x : Int32)  : ct_i l D (TY k) yX4_take wsX4_take ({ frames := 2, cells := 0, slots := 0, locals := 46 } : Room) [.ref h, .int x] [(h, .inr (4, [.int v, .ref ha, .int r.1, .int r.2.1, .int r.2.2.1, .int r.2.2.2])), (ha, .inr (1, [.int v, .ref b])), (b, .inl (k 0, 78, .inl g))] (po_X4_take k h ha v r b g x) := by
  refine ct_i_of (cc := cX4_take) (nL := 2) (rt := (some .int)) (by decide) rfl (Nat.le_of_ble_eq_true rfl) ?_
  intro p_ e_ s_0 m_0 below_ meth_ c_0 A_0 C_0 hP hK hD hS hA ls hl
  obtain ⟨hx_, hb_, hml_, hr_, hown_, hlk_, hnm_, hts_⟩ := id C_0
  have hl : lv_has ls 2 [(0, .ref h), (1, .int x)] := hl
  refine lv_aload_n hx_ hb_ dX4_take_0 rfl (lv_at hl 0 rfl) ?_
  refine va_get (D := D) (ci := 4) (v := .int r.2.2.1) (C := RX4) (T := TX4) (N := 6) hx_ hb_ hts_ inM_X4 hown_ hK.1 hP 0 rfl rfl 4 (by decide) (hts_ _ (List.mem_cons_of_mem _ wa_f_X4_28)) (fun _ h9 => h9) rfl dX4_take_1 ?_
  by_cases cc1_0 : r.2.2.1 = 1
  · refine lv_tableIn (off := 28) (tgt := 32) hx_ hb_ dX4_take_4 (by rw [cc1_0]; decide) (by rw [cc1_0]; decide) (by rw [cc1_0]; rfl) (by decide) ?_
    refine lv_aload_n hx_ hb_ dX4_take_32 rfl (lv_at hl 0 rfl) ?_
    refine lv_iconst (v := 0) hx_ hb_ dX4_take_33 (by decide) ?_
    refine va_put (D := D) (ci := 4) (v := .int 0) (ty := .int) (C := RX4) (T := TX4) (N := 6) hx_ hb_ hts_ inM_X4 tyX4 tyX4_ok nmX4 hown_ hK.1 hP hD hS 0 rfl rfl 4 (by decide) (hts_ _ (List.mem_cons_of_mem _ wa_f_X4_28)) (fun _ h9 => h9) rfl (by decide +kernel) rfl rfl (Nat.le_of_ble_eq_true rfl) dX4_take_34 (fun H locs hP hD hS => ?_)
    have hP : va_P D vwCl [(h, .inr (4, [.int v, .ref ha, .int r.1, .int r.2.1, .int 0, .int r.2.2.2])), (ha, .inr (1, [.int v, .ref b])), (b, .inl (k 0, 78, .inl g))] H := hP
    have hD : va_D A_0 [(h, .inr (4, [.int v, .ref ha, .int r.1, .int r.2.1, .int 0, .int r.2.2.2])), (ha, .inr (1, [.int v, .ref b])), (b, .inl (k 0, 78, .inl g))] := hD
    refine lv_sipush (v := 1024) hx_ hb_ dX4_take_37 (by decide) ?_
    refine lv_aload_n hx_ hb_ dX4_take_40 rfl (lv_at hl 0 rfl) ?_
    refine va_get (D := D) (ci := 4) (v := .int r.2.2.2) (C := RX4) (T := TX4) (N := 6) hx_ hb_ hts_ inM_X4 hown_ hK.1 hP 0 rfl rfl 5 (by decide) (hts_ _ (List.mem_cons_of_mem _ wa_f_X4_31)) (fun _ h9 => h9) rfl dX4_take_41 ?_
    refine lv_iadd hx_ hb_ dX4_take_44 ?_
    refine lv_iload_n hx_ hb_ dX4_take_45 rfl (lv_at hl 1 rfl) ?_
    refine lv_iadd hx_ hb_ dX4_take_46 ?_
    have eq1 : (r.1 : Int32) = (rd_take v g r x).2.1 := by simp [rd_take, eq_true cc1_0]
    have eq2 : (r.2.1 : Int32) = (rd_take v g r x).2.2.1 := by simp [rd_take, eq_true cc1_0]
    have eq3 : (0 : Int32) = (rd_take v g r x).2.2.2.1 := by simp [rd_take, eq_true cc1_0]
    have eq4 : (r.2.2.2 : Int32) = (rd_take v g r x).2.2.2.2 := by simp [rd_take, eq_true cc1_0]
    have eqr : ((1024 + r.2.2.2) + x : Int32) = (rd_take v g r x).1 := by simp [rd_take, eq_true cc1_0]
    exact ct_iret C_0 (hP.sub [0, 1, 2] rfl) (hD.sub [0, 1, 2] (by decide) rfl) hS (Nat.le_of_ble_eq_true rfl) (Nat.le_of_ble_eq_true rfl) dX4_take_47 (⟨eqr, congr (congr (congr (congrArg (fun (z1 : Int32) (z2 : Int32) (z3 : Int32) (z4 : Int32) => ([(h, .inr (4, [.int v, .ref ha, .int z1, .int z2, .int z3, .int z4])), (ha, .inr (1, [.int v, .ref b])), (b, .inl (k 0, 78, .inl g))] : va_W)) eq1) eq2) eq3) eq4⟩)
  · skip
    by_cases cc1_1 : r.2.2.1 = 2
    · refine lv_tableIn (off := 44) (tgt := 48) hx_ hb_ dX4_take_4 (by rw [cc1_1]; decide) (by rw [cc1_1]; decide) (by rw [cc1_1]; rfl) (by decide) ?_
      refine lv_aload_n hx_ hb_ dX4_take_48 rfl (lv_at hl 0 rfl) ?_
      refine lv_iconst (v := 3) hx_ hb_ dX4_take_49 (by decide) ?_
      refine va_put (D := D) (ci := 4) (v := .int 3) (ty := .int) (C := RX4) (T := TX4) (N := 6) hx_ hb_ hts_ inM_X4 tyX4 tyX4_ok nmX4 hown_ hK.1 hP hD hS 0 rfl rfl 4 (by decide) (hts_ _ (List.mem_cons_of_mem _ wa_f_X4_28)) (fun _ h9 => h9) rfl (by decide +kernel) rfl rfl (Nat.le_of_ble_eq_true rfl) dX4_take_50 (fun H locs hP hD hS => ?_)
      have hP : va_P D vwCl [(h, .inr (4, [.int v, .ref ha, .int r.1, .int r.2.1, .int 3, .int r.2.2.2])), (ha, .inr (1, [.int v, .ref b])), (b, .inl (k 0, 78, .inl g))] H := hP
      have hD : va_D A_0 [(h, .inr (4, [.int v, .ref ha, .int r.1, .int r.2.1, .int 3, .int r.2.2.2])), (ha, .inr (1, [.int v, .ref b])), (b, .inl (k 0, 78, .inl g))] := hD
      refine lv_aload_n hx_ hb_ dX4_take_53 rfl (lv_at hl 0 rfl) ?_
      refine lv_bipush (v := 32) hx_ hb_ dX4_take_54 (by decide) ?_
      refine lv_iload_n hx_ hb_ dX4_take_56 rfl (lv_at hl 1 rfl) ?_
      refine lv_imul hx_ hb_ dX4_take_57 ?_
      refine va_put (D := D) (ci := 4) (v := .int (32 * x)) (ty := .int) (C := RX4) (T := TX4) (N := 6) hx_ hb_ hts_ inM_X4 tyX4 tyX4_ok nmX4 hown_ hK.1 hP hD hS 0 rfl rfl 5 (by decide) (hts_ _ (List.mem_cons_of_mem _ wa_f_X4_31)) (fun _ h9 => h9) rfl (by decide +kernel) rfl rfl (Nat.le_of_ble_eq_true rfl) dX4_take_58 (fun H locs hP hD hS => ?_)
      have hP : va_P D vwCl [(h, .inr (4, [.int v, .ref ha, .int r.1, .int r.2.1, .int 3, .int (32 * x)])), (ha, .inr (1, [.int v, .ref b])), (b, .inl (k 0, 78, .inl g))] H := hP
      have hD : va_D A_0 [(h, .inr (4, [.int v, .ref ha, .int r.1, .int r.2.1, .int 3, .int (32 * x)])), (ha, .inr (1, [.int v, .ref b])), (b, .inl (k 0, 78, .inl g))] := hD
      refine lv_iconst (v := (-1)) hx_ hb_ dX4_take_61 (by decide) ?_
      have eq1 : (r.1 : Int32) = (rd_take v g r x).2.1 := by simp [rd_take, eq_false cc1_0, eq_true cc1_1]
      have eq2 : (r.2.1 : Int32) = (rd_take v g r x).2.2.1 := by simp [rd_take, eq_false cc1_0, eq_true cc1_1]
      have eq3 : (3 : Int32) = (rd_take v g r x).2.2.2.1 := by simp [rd_take, eq_false cc1_0, eq_true cc1_1]
      have eq4 : (32 * x : Int32) = (rd_take v g r x).2.2.2.2 := by simp [rd_take, eq_false cc1_0, eq_true cc1_1]
      have eqr : ((-1) : Int32) = (rd_take v g r x).1 := by simp [rd_take, eq_false cc1_0, eq_true cc1_1]
      exact ct_iret C_0 (hP.sub [0, 1, 2] rfl) (hD.sub [0, 1, 2] (by decide) rfl) hS (Nat.le_of_ble_eq_true rfl) (Nat.le_of_ble_eq_true rfl) dX4_take_62 (⟨eqr, congr (congr (congr (congrArg (fun (z1 : Int32) (z2 : Int32) (z3 : Int32) (z4 : Int32) => ([(h, .inr (4, [.int v, .ref ha, .int z1, .int z2, .int z3, .int z4])), (ha, .inr (1, [.int v, .ref b])), (b, .inl (k 0, 78, .inl g))] : va_W)) eq1) eq2) eq3) eq4⟩)
    · skip
      by_cases cc1_2 : r.2.2.1 = 3
      · refine lv_tableIn (off := 59) (tgt := 63) hx_ hb_ dX4_take_4 (by rw [cc1_2]; decide) (by rw [cc1_2]; decide) (by rw [cc1_2]; rfl) (by decide) ?_
        refine lv_aload_n hx_ hb_ dX4_take_63 rfl (lv_at hl 0 rfl) ?_
        refine lv_iconst (v := 0) hx_ hb_ dX4_take_64 (by decide) ?_
        refine va_put (D := D) (ci := 4) (v := .int 0) (ty := .int) (C := RX4) (T := TX4) (N := 6) hx_ hb_ hts_ inM_X4 tyX4 tyX4_ok nmX4 hown_ hK.1 hP hD hS 0 rfl rfl 4 (by decide) (hts_ _ (List.mem_cons_of_mem _ wa_f_X4_28)) (fun _ h9 => h9) rfl (by decide +kernel) rfl rfl (Nat.le_of_ble_eq_true rfl) dX4_take_65 (fun H locs hP hD hS => ?_)
        have hP : va_P D vwCl [(h, .inr (4, [.int v, .ref ha, .int r.1, .int r.2.1, .int 0, .int r.2.2.2])), (ha, .inr (1, [.int v, .ref b])), (b, .inl (k 0, 78, .inl g))] H := hP
        have hD : va_D A_0 [(h, .inr (4, [.int v, .ref ha, .int r.1, .int r.2.1, .int 0, .int r.2.2.2])), (ha, .inr (1, [.int v, .ref b])), (b, .inl (k 0, 78, .inl g))] := hD
        refine lv_aload_n hx_ hb_ dX4_take_68 rfl (lv_at hl 0 rfl) ?_
        refine va_get (D := D) (ci := 4) (v := .int r.2.2.2) (C := RX4) (T := TX4) (N := 6) hx_ hb_ hts_ inM_X4 hown_ hK.1 hP 0 rfl rfl 5 (by decide) (hts_ _ (List.mem_cons_of_mem _ wa_f_X4_31)) (fun _ h9 => h9) rfl dX4_take_69 ?_
        refine lv_iload_n hx_ hb_ dX4_take_72 rfl (lv_at hl 1 rfl) ?_
        refine lv_iadd hx_ hb_ dX4_take_73 ?_
        have eq1 : (r.1 : Int32) = (rd_take v g r x).2.1 := by simp [rd_take, eq_false cc1_0, eq_false cc1_1, eq_true cc1_2]
        have eq2 : (r.2.1 : Int32) = (rd_take v g r x).2.2.1 := by simp [rd_take, eq_false cc1_0, eq_false cc1_1, eq_true cc1_2]
        have eq3 : (0 : Int32) = (rd_take v g r x).2.2.2.1 := by simp [rd_take, eq_false cc1_0, eq_false cc1_1, eq_true cc1_2]
        have eq4 : (r.2.2.2 : Int32) = (rd_take v g r x).2.2.2.2 := by simp [rd_take, eq_false cc1_0, eq_false cc1_1, eq_true cc1_2]
        have eqr : (r.2.2.2 + x : Int32) = (rd_take v g r x).1 := by simp [rd_take, eq_false cc1_0, eq_false cc1_1, eq_true cc1_2]
        exact ct_iret C_0 (hP.sub [0, 1, 2] rfl) (hD.sub [0, 1, 2] (by decide) rfl) hS (Nat.le_of_ble_eq_true rfl) (Nat.le_of_ble_eq_true rfl) dX4_take_74 (⟨eqr, congr (congr (congr (congrArg (fun (z1 : Int32) (z2 : Int32) (z3 : Int32) (z4 : Int32) => ([(h, .inr (4, [.int v, .ref ha, .int z1, .int z2, .int z3, .int z4])), (ha, .inr (1, [.int v, .ref b])), (b, .inl (k 0, 78, .inl g))] : va_W)) eq1) eq2) eq3) eq4⟩)
      · skip
        refine lv_tableOut (tgt := 75) hx_ hb_ dX4_take_4 (by have q0 := lv_neT (a := 1) cc1_0 (by decide); have q1 := lv_neT (a := 2) cc1_1 (by decide); have q2 := lv_neT (a := 3) cc1_2 (by decide); omega) (by decide) ?_
        refine lv_aload_n hx_ hb_ dX4_take_75 rfl (lv_at hl 0 rfl) ?_
        refine lv_iload_n hx_ hb_ dX4_take_76 rfl (lv_at hl 1 rfl) ?_
        refine ct_Vi (wr := []) (rest := []) (As := [.int x]) ⟨hx_, hb_, hml_, hown_, hts_⟩ (k_X4_takeFree l D k h ha v r b g x ) (cwV 1 hts_ (gd_in (gw_V wa_m_X4_34 wa_y_X4_takeFree wa_s_X4_takeFree wa_i_X4 wa_k_X4_takeFree)) rfl rfl rfl (by decide +kernel) ⟨Nat.le_of_ble_eq_true rfl, Nat.le_of_ble_eq_true rfl⟩) hK hP hD hS hA [0, 1, 2] [] rfl rfl rfl rfl (by decide) 4 rfl rfl rfl hl.1 rfl rfl (Nat.le_of_ble_eq_true rfl) dX4_take_77 ⟨Nat.le_of_ble_eq_true rfl, Nat.le_of_ble_eq_true rfl⟩ (fun rr2 w1 H locs ww3 hP hD hS => ?_)
        obtain ⟨rfl, rfl⟩ := ww3
        have hP : va_P D vwCl [(h, .inr (4, [.int v, .ref ha, .int ((rd_free v g r x).2.1), .int ((rd_free v g r x).2.2.1), .int ((rd_free v g r x).2.2.2.1), .int ((rd_free v g r x).2.2.2.2)])), (ha, .inr (1, [.int v, .ref b])), (b, .inl (k 0, 78, .inl g))] H := hP
        have hD : va_D A_0 [(h, .inr (4, [.int v, .ref ha, .int ((rd_free v g r x).2.1), .int ((rd_free v g r x).2.2.1), .int ((rd_free v g r x).2.2.2.1), .int ((rd_free v g r x).2.2.2.2)])), (ha, .inr (1, [.int v, .ref b])), (b, .inl (k 0, 78, .inl g))] := hD
        refine W.cs (cells' := 0) (slots' := 0) rfl rfl ?_
        have eq1 : ((rd_free v g r x).2.1 : Int32) = (rd_take v g r x).2.1 := by simp [rd_take, eq_false cc1_0, eq_false cc1_1, eq_false cc1_2]
        have eq2 : ((rd_free v g r x).2.2.1 : Int32) = (rd_take v g r x).2.2.1 := by simp [rd_take, eq_false cc1_0, eq_false cc1_1, eq_false cc1_2]
        have eq3 : ((rd_free v g r x).2.2.2.1 : Int32) = (rd_take v g r x).2.2.2.1 := by simp [rd_take, eq_false cc1_0, eq_false cc1_1, eq_false cc1_2]
        have eq4 : ((rd_free v g r x).2.2.2.2 : Int32) = (rd_take v g r x).2.2.2.2 := by simp [rd_take, eq_false cc1_0, eq_false cc1_1, eq_false cc1_2]
        have eqr : ((rd_free v g r x).1 : Int32) = (rd_take v g r x).1 := by simp [rd_take, eq_false cc1_0, eq_false cc1_1, eq_false cc1_2]
        exact ct_iret C_0 (hP.sub [0, 1, 2] rfl) (hD.sub [0, 1, 2] (by decide) rfl) hS (Nat.le_of_ble_eq_true rfl) (Nat.le_of_ble_eq_true rfl) dX4_take_80 (⟨eqr, congr (congr (congr (congrArg (fun (z1 : Int32) (z2 : Int32) (z3 : Int32) (z4 : Int32) => ([(h, .inr (4, [.int v, .ref ha, .int z1, .int z2, .int z3, .int z4])), (ha, .inr (1, [.int v, .ref b])), (b, .inl (k 0, 78, .inl g))] : va_W)) eq1) eq2) eq3) eq4⟩)
