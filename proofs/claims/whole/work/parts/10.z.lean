abbrev po_X7_addBytes (k : Nat → ClassId) (h : Nat) (a : Nat) (cap : Nat) (t : TT) (w : Int64) (n : Int32) : Int32 → va_W → Prop := fun ans_ w1 => ans_ = ab_r cap w n t ∧ w1 = [(h, .inr (5, [.ref a, .int (nI ((ab_t cap w n t).1))])), (a, .inl (k 0, cap, .inl ((ab_t cap w n t).2)))]
set_option maxHeartbeats 4000000 in
set_option maxRecDepth 100000 in
/-- addBytes -/
theorem k_X7_addBytes (l : Launch) (D : va_G) (k : Nat → ClassId) (h : Nat) (a : Nat) (cap : Nat) (t : TT) (w : Int64) (n : Int32) (hn : t.1 ≤ cap) (hc : cap ≤ 5000) : ct_i l D (TY k) yX7_addBytes wsX7_addBytes ({ frames := 1, cells := 0, slots := 0, locals := 21 } : Room) [.ref h, .long w, .int n] [(h, .inr (5, [.ref a, .int (nI (t.1))])), (a, .inl (k 0, cap, .inl t.2))] (po_X7_addBytes k h a cap t w n) := by
  refine ct_i_of (cc := cX7_addBytes) (nL := 5) (rt := (some .int)) (by decide) rfl (Nat.le_of_ble_eq_true rfl) ?_
  intro p_ e_ s_0 m_0 below_ meth_ c_0 A_0 C_0 hP hK hD hS hA ls hl
  obtain ⟨hx_, hb_, hml_, hr_, hown_, hlk_, hnm_, hts_⟩ := id C_0
  have hl : lv_has ls 5 [(0, .ref h), (1, .long w), (3, .int n)] := hl
  refine lv_iload_n hx_ hb_ dX7_addBytes_0 rfl (lv_at hl 2 rfl) ?_
  refine lv_if_lt (tgt := 10) hx_ hb_ dX7_addBytes_1 (by decide) (fun cc1 => ?_) (fun cc1 => ?_)
  · skip
    refine lv_bipush (v := (-2)) hx_ hb_ dX7_addBytes_10 (by decide) ?_
    have eq1 : (nI (t.1) : Int32) = nI ((ab_t cap w n t).1) := by simp [ab_r, ab_t, eq_true cc1]
    have eq2 : (t.2 : Nat → Int32) = (ab_t cap w n t).2 := by simp [ab_r, ab_t, eq_true cc1]
    have eqr : ((-2) : Int32) = ab_r cap w n t := by simp [ab_r, ab_t, eq_true cc1]
    exact ct_iret C_0 (hP.sub [0, 1] rfl) (hD.sub [0, 1] (by decide) rfl) hS (Nat.le_of_ble_eq_true rfl) (Nat.le_of_ble_eq_true rfl) dX7_addBytes_12 (⟨eqr, congr (congrArg (fun (z1 : Int32) (z2 : Nat → Int32) => ([(h, .inr (5, [.ref a, .int z1])), (a, .inl (k 0, cap, .inl z2))] : va_W)) eq1) eq2⟩)
  · skip
    refine lv_iload_n hx_ hb_ dX7_addBytes_4 rfl (lv_at hl 2 rfl) ?_
    refine lv_bipush (v := 8) hx_ hb_ dX7_addBytes_5 (by decide) ?_
    refine lv_icmp_le (tgt := 13) hx_ hb_ dX7_addBytes_7 (by decide) (fun cc2 => ?_) (fun cc2 => ?_)
    · skip
      refine lv_aload_n hx_ hb_ dX7_addBytes_13 rfl (lv_at hl 0 rfl) ?_
      refine lv_iload_n hx_ hb_ dX7_addBytes_14 rfl (lv_at hl 2 rfl) ?_
      refine ct_Vi (wr := []) (rest := []) (As := [.int n]) ⟨hx_, hb_, hml_, hown_, hts_⟩ (k_X5_hasRoom l D k h a cap t n ) (cwV 1 hts_ (gd_in (gw_V wa_m_X7_138 wa_y_X5_hasRoom wa_s_X5_hasRoom wa_i_X5 wa_k_X5_hasRoom)) rfl rfl rfl (by decide +kernel) ⟨Nat.le_of_ble_eq_true rfl, Nat.le_of_ble_eq_true rfl⟩) hK hP hD hS hA [0, 1] [] rfl rfl rfl rfl (by decide) 5 rfl rfl rfl hl.1 rfl rfl (Nat.le_of_ble_eq_true rfl) dX7_addBytes_15 ⟨Nat.le_of_ble_eq_true rfl, Nat.le_of_ble_eq_true rfl⟩ (fun rr3 w1 H locs ww4 hP hD hS => ?_)
      obtain ⟨rfl, rfl⟩ := ww4
      have hP : va_P D vwCl [(h, .inr (5, [.ref a, .int (nI (t.1))])), (a, .inl (k 0, cap, .inl t.2))] H := hP
      have hD : va_D A_0 [(h, .inr (5, [.ref a, .int (nI (t.1))])), (a, .inl (k 0, cap, .inl t.2))] := hD
      refine W.cs (cells' := 0) (slots' := 0) rfl rfl ?_
      refine lv_if_ne (tgt := 24) hx_ hb_ dX7_addBytes_18 (by decide) (fun cc5 => ?_) (fun cc5 => ?_)
      · skip
        obtain ⟨n0, hn0, en⟩ := nI_of2 (M := 8) (n := 8) (by decide) cc1 (cc2)
        refine lv_iload_n hx_ hb_ dX7_addBytes_24 rfl (lv_at hl 2 rfl) ?_
        refine lv_iconst (v := 1) hx_ hb_ dX7_addBytes_25 (by decide) ?_
        refine lv_isub hx_ hb_ dX7_addBytes_26 ?_
        refine lv_ti (y := nI n0 - 1) (by rw [en]) ?_
        refine lv_istore (lv' := [(4, .int (nI n0 - 1)), (0, .ref h), (1, .long w), (3, .int n)]) hx_ hb_ dX7_addBytes_27 hl (by decide) rfl (fun ls hl => ?_)
        have lp29 : ∀ (fu : Nat) (kk : Nat) (x4 : Int32) (t1 : TT) (H : Heap) (locs : List Loc) (ls : Array Slot), kk < fu → (kk ≤ 8) → (x4 = nI kk - 1) → (t1.1 ≤ cap) → (ab_all cap w n0 t = ab_all cap w kk t1) → va_P D vwCl [(h, .inr (5, [.ref a, .int (nI (t1.1))])), (a, .inl (k 0, cap, .inl t1.2))] H → va_D A_0 [(h, .inr (5, [.ref a, .int (nI (t1.1))])), (a, .inl (k 0, cap, .inl t1.2))] → va_S A_0 s_0.heap H locs → lv_has ls 5 [(0, .ref h), (1, .long w), (3, .int n), (4, .int x4)] → W p_ l e_ (headSpec wsX7_addBytes ({ frames := 1, cells := 0, slots := 0, locals := 21 } : Room)).room s_0 m_0 (([.ref h, .long w, .int n] : List Value).toArray) below_ meth_ c_0 H locs 0 0 (ct_Zi below_ D (po_X7_addBytes k h a cap t w n) A_0 (([.ref h, .long w, .int n] : List Value).toArray) s_0 0 0) (F0 m_0 29 ls []) := by
          intro fu
          induction fu with
          | zero => intro kk x4 t1 H locs ls hm_; exact absurd hm_ (Nat.not_lt_zero _)
          | succ fu ih29 =>
            intro kk x4 t1 H locs ls hm_ hk e4 ht1 hez hP hD hS hl
            refine lv_iload hx_ hb_ dX7_addBytes_29 (lv_at hl 3 rfl) ?_
            refine lv_if_lt (tgt := 57) hx_ hb_ dX7_addBytes_31 (by decide) (fun cc6 => ?_) (fun cc6 => ?_)
            · skip
              have hk0 : kk = 0 := dec_neg (by omega) (by rw [← e4]; exact cc6)
              refine lv_aload_n hx_ hb_ dX7_addBytes_57 rfl (lv_at hl 0 rfl) ?_
              refine ct_Vi (wr := []) (rest := []) (As := []) ⟨hx_, hb_, hml_, hown_, hts_⟩ (k_X5_count l D k h a cap t1 ) (cwV 0 hts_ (gd_in (gw_V wa_m_X7_107 wa_y_X5_count wa_s_X5_count wa_i_X5 wa_k_X5_count)) rfl rfl rfl (by decide +kernel) ⟨Nat.le_of_ble_eq_true rfl, Nat.le_of_ble_eq_true rfl⟩) hK hP hD hS hA [0, 1] [] rfl rfl rfl rfl (by decide) 5 rfl rfl rfl hl.1 rfl rfl (Nat.le_of_ble_eq_true rfl) dX7_addBytes_58 ⟨Nat.le_of_ble_eq_true rfl, Nat.le_of_ble_eq_true rfl⟩ (fun rr7 w1 H locs ww8 hP hD hS => ?_)
              obtain ⟨rfl, rfl⟩ := ww8
              have hP : va_P D vwCl [(h, .inr (5, [.ref a, .int (nI (t1.1))])), (a, .inl (k 0, cap, .inl t1.2))] H := hP
              have hD : va_D A_0 [(h, .inr (5, [.ref a, .int (nI (t1.1))])), (a, .inl (k 0, cap, .inl t1.2))] := hD
              refine W.cs (cells' := 0) (slots' := 0) rfl rfl ?_
              have eq1 : (nI (t1.1) : Int32) = nI ((ab_t cap w n t).1) := by simp only [ab_r, ab_t, if_neg cc1, if_pos cc2, if_neg cc5]; rw [show n.toNatClampNeg = n0 by rw [en]; exact nI_clamp (by omega), hez, hk0]; rfl
              have eq2 : (t1.2 : Nat → Int32) = (ab_t cap w n t).2 := by simp only [ab_r, ab_t, if_neg cc1, if_pos cc2, if_neg cc5]; rw [show n.toNatClampNeg = n0 by rw [en]; exact nI_clamp (by omega), hez, hk0]; rfl
              have eqr : (nI (t1.1) : Int32) = ab_r cap w n t := by simp only [ab_r, ab_t, if_neg cc1, if_pos cc2, if_neg cc5]; rw [show n.toNatClampNeg = n0 by rw [en]; exact nI_clamp (by omega), hez, hk0]; rfl
              exact ct_iret C_0 (hP.sub [0, 1] rfl) (hD.sub [0, 1] (by decide) rfl) hS (Nat.le_of_ble_eq_true rfl) (Nat.le_of_ble_eq_true rfl) dX7_addBytes_61 (⟨eqr, congr (congrArg (fun (z1 : Int32) (z2 : Nat → Int32) => ([(h, .inr (5, [.ref a, .int z1])), (a, .inl (k 0, cap, .inl z2))] : va_W)) eq1) eq2⟩)
            · skip
              obtain ⟨k1, ek⟩ : ∃ k1, kk = k1 + 1 := dec_pos (by rw [← e4]; exact cc6)
              refine lv_aload_n hx_ hb_ dX7_addBytes_34 rfl (lv_at hl 0 rfl) ?_
              refine lv_lload_n hx_ hb_ dX7_addBytes_35 rfl (lv_at hl 1 rfl) ?_
              refine lv_bipush (v := 8) hx_ hb_ dX7_addBytes_36 (by decide) ?_
              refine lv_iload hx_ hb_ dX7_addBytes_38 (lv_at hl 3 rfl) ?_
              refine lv_ti (y := nI k1) (by rw [e4, ek]; exact nI_pred k1) ?_
              refine lv_imul hx_ hb_ dX7_addBytes_40 ?_
              refine lv_ti (y := nI (8 * k1)) (pk_mul _ _) ?_
              refine lv_lshr (v := w >>> (Int32.toInt64 (nI (8 * k1)) &&& 63)) hx_ hb_ dX7_addBytes_41 rfl ?_
              refine lv_l2i (v := Int64.toInt32 (w >>> (Int32.toInt64 (nI (8 * k1)) &&& 63))) hx_ hb_ dX7_addBytes_42 rfl ?_
              refine lv_sipush (v := 255) hx_ hb_ dX7_addBytes_43 (by decide) ?_
              refine lv_iand hx_ hb_ dX7_addBytes_46 ?_
              refine lv_ti (y := ab_byte w k1) (rfl) ?_
              refine ct_Vi (wr := []) (rest := []) (As := [.int (ab_byte w k1)]) ⟨hx_, hb_, hml_, hown_, hts_⟩ (k_X5_add l D k h a cap t1 (ab_byte w k1) (by first | omega | assumption) (by first | omega | assumption)) (cwV 1 hts_ (gd_in (gw_V wa_m_X7_37 wa_y_X5_add wa_s_X5_add wa_i_X5 wa_k_X5_add)) rfl rfl rfl (by decide +kernel) ⟨Nat.le_of_ble_eq_true rfl, Nat.le_of_ble_eq_true rfl⟩) hK hP hD hS hA [0, 1] [] rfl rfl rfl rfl (by decide) 5 rfl rfl rfl hl.1 rfl rfl (Nat.le_of_ble_eq_true rfl) dX7_addBytes_47 ⟨Nat.le_of_ble_eq_true rfl, Nat.le_of_ble_eq_true rfl⟩ (fun rr9 w1 H locs ww10 hP hD hS => ?_)
              obtain ⟨rfl, rfl⟩ := ww10
              have hP : va_P D vwCl [(h, .inr (5, [.ref a, .int (nI ((rw_a cap (ab_byte w k1) t1).1))])), (a, .inl (k 0, cap, .inl ((rw_a cap (ab_byte w k1) t1).2)))] H := hP
              have hD : va_D A_0 [(h, .inr (5, [.ref a, .int (nI ((rw_a cap (ab_byte w k1) t1).1))])), (a, .inl (k 0, cap, .inl ((rw_a cap (ab_byte w k1) t1).2)))] := hD
              refine W.cs (cells' := 0) (slots' := 0) rfl rfl ?_
              refine lv_pop hx_ hb_ dX7_addBytes_50 rfl ?_
              refine lv_iinc (v := nI k1 - 1) (lv' := [(4, .int (nI k1 - 1)), (0, .ref h), (1, .long w), (3, .int n)]) hx_ hb_ dX7_addBytes_51 hl (k := 3) rfl (by rw [e4, ek]; exact dec_iinc k1) (by decide) rfl (fun ls hl => ?_)
              refine lv_goto (tgt := 29) hx_ hb_ dX7_addBytes_54 (by decide) ?_
              exact ih29 k1 (nI k1 - 1) (rw_a cap (ab_byte w k1) t1) _ _ _ (by first | omega | assumption) (by first | omega | assumption) (by rfl) (by exact rw_a_le ht1) (by rw [hez, ek]; rfl) (hP.sub [0, 1] rfl) (hD.sub [0, 1] (by decide) rfl) hS (lv_sub hl [1, 2, 3, 0] rfl)
        exact lp29 (n0 + 1) n0 (nI n0 - 1) t _ _ _ (Nat.lt_succ_self _) (by first | omega | assumption) (by rfl) (by exact hn) (by rfl) (hP.sub [0, 1] rfl) (hD.sub [0, 1] (by decide) rfl) hS (lv_sub hl [1, 2, 3, 0] rfl)
      · skip
        refine lv_bipush (v := (-4)) hx_ hb_ dX7_addBytes_21 (by decide) ?_
        have eq1 : (nI (t.1) : Int32) = nI ((ab_t cap w n t).1) := by simp [ab_r, ab_t, eq_false cc1, eq_true cc2, eq_true cc5]
        have eq2 : (t.2 : Nat → Int32) = (ab_t cap w n t).2 := by simp [ab_r, ab_t, eq_false cc1, eq_true cc2, eq_true cc5]
        have eqr : ((-4) : Int32) = ab_r cap w n t := by simp [ab_r, ab_t, eq_false cc1, eq_true cc2, eq_true cc5]
        exact ct_iret C_0 (hP.sub [0, 1] rfl) (hD.sub [0, 1] (by decide) rfl) hS (Nat.le_of_ble_eq_true rfl) (Nat.le_of_ble_eq_true rfl) dX7_addBytes_23 (⟨eqr, congr (congrArg (fun (z1 : Int32) (z2 : Nat → Int32) => ([(h, .inr (5, [.ref a, .int z1])), (a, .inl (k 0, cap, .inl z2))] : va_W)) eq1) eq2⟩)
    · skip
      refine lv_bipush (v := (-2)) hx_ hb_ dX7_addBytes_10 (by decide) ?_
      have eq1 : (nI (t.1) : Int32) = nI ((ab_t cap w n t).1) := by simp [ab_r, ab_t, eq_false cc1, eq_false cc2]
      have eq2 : (t.2 : Nat → Int32) = (ab_t cap w n t).2 := by simp [ab_r, ab_t, eq_false cc1, eq_false cc2]
      have eqr : ((-2) : Int32) = ab_r cap w n t := by simp [ab_r, ab_t, eq_false cc1, eq_false cc2]
      exact ct_iret C_0 (hP.sub [0, 1] rfl) (hD.sub [0, 1] (by decide) rfl) hS (Nat.le_of_ble_eq_true rfl) (Nat.le_of_ble_eq_true rfl) dX7_addBytes_12 (⟨eqr, congr (congrArg (fun (z1 : Int32) (z2 : Nat → Int32) => ([(h, .inr (5, [.ref a, .int z1])), (a, .inl (k 0, cap, .inl z2))] : va_W)) eq1) eq2⟩)
abbrev po_X7_version (k : Nat → ClassId) (h : Nat) (v : Int32) (hm : Nat) (hr : Nat) (he : Nat) (ht : Nat) (hs : Nat) (ha : Nat) (hte : Nat) (hab : Nat) (hd : Nat) (hp : Nat) (bh : Int32) : Int32 → va_W → Prop := fun ans_ w1 => ans_ = v ∧ w1 = [(h, .inr (7, [.int v, .ref hm, .ref hr, .ref he, .ref ht, .ref hs, .ref ha, .ref hte, .ref hab, .ref hd, .ref hp, .int bh]))]
set_option maxHeartbeats 4000000 in
set_option maxRecDepth 100000 in
/-- version() -/
theorem k_X7_version (l : Launch) (D : va_G) (k : Nat → ClassId) (h : Nat) (v : Int32) (hm : Nat) (hr : Nat) (he : Nat) (ht : Nat) (hs : Nat) (ha : Nat) (hte : Nat) (hab : Nat) (hd : Nat) (hp : Nat) (bh : Int32)  : ct_i l D (TY k) yX7_version wsX7_version ({ frames := 0, cells := 0, slots := 0, locals := 0 } : Room) [.ref h] [(h, .inr (7, [.int v, .ref hm, .ref hr, .ref he, .ref ht, .ref hs, .ref ha, .ref hte, .ref hab, .ref hd, .ref hp, .int bh]))] (po_X7_version k h v hm hr he ht hs ha hte hab hd hp bh) := by
  refine ct_i_of (cc := cX7_version) (nL := 1) (rt := (some .int)) (by decide) rfl (Nat.le_of_ble_eq_true rfl) ?_
  intro p_ e_ s_0 m_0 below_ meth_ c_0 A_0 C_0 hP hK hD hS hA ls hl
  obtain ⟨hx_, hb_, hml_, hr_, hown_, hlk_, hnm_, hts_⟩ := id C_0
  have hl : lv_has ls 1 [(0, .ref h)] := hl
  refine lv_aload_n hx_ hb_ dX7_version_0 rfl (lv_at hl 0 rfl) ?_
  refine va_get (D := D) (ci := 7) (v := .int v) (C := RX7) (T := TX7) (N := 12) hx_ hb_ hts_ inM_X7 hown_ hK.1 hP 0 rfl rfl 0 (by decide) (hts_ _ (List.mem_cons_of_mem _ wa_f_X7_18)) (fun _ h9 => h9) rfl dX7_version_1 ?_
  exact ct_iret C_0 (hP.sub [0] rfl) (hD.sub [0] (by decide) rfl) hS (Nat.le_of_ble_eq_true rfl) (Nat.le_of_ble_eq_true rfl) dX7_version_4 (⟨rfl, rfl⟩)
abbrev po_X7_behind (k : Nat → ClassId) (h : Nat) (v : Int32) (hm : Nat) (hr : Nat) (he : Nat) (ht : Nat) (hs : Nat) (ha : Nat) (hte : Nat) (hab : Nat) (hd : Nat) (hp : Nat) (bh : Int32) : Int32 → va_W → Prop := fun ans_ w1 => ans_ = bh ∧ w1 = [(h, .inr (7, [.int v, .ref hm, .ref hr, .ref he, .ref ht, .ref hs, .ref ha, .ref hte, .ref hab, .ref hd, .ref hp, .int bh]))]
set_option maxHeartbeats 4000000 in
set_option maxRecDepth 100000 in
/-- behind() -/
theorem k_X7_behind (l : Launch) (D : va_G) (k : Nat → ClassId) (h : Nat) (v : Int32) (hm : Nat) (hr : Nat) (he : Nat) (ht : Nat) (hs : Nat) (ha : Nat) (hte : Nat) (hab : Nat) (hd : Nat) (hp : Nat) (bh : Int32)  : ct_i l D (TY k) yX7_behind wsX7_behind ({ frames := 0, cells := 0, slots := 0, locals := 0 } : Room) [.ref h] [(h, .inr (7, [.int v, .ref hm, .ref hr, .ref he, .ref ht, .ref hs, .ref ha, .ref hte, .ref hab, .ref hd, .ref hp, .int bh]))] (po_X7_behind k h v hm hr he ht hs ha hte hab hd hp bh) := by
  refine ct_i_of (cc := cX7_behind) (nL := 1) (rt := (some .int)) (by decide) rfl (Nat.le_of_ble_eq_true rfl) ?_
  intro p_ e_ s_0 m_0 below_ meth_ c_0 A_0 C_0 hP hK hD hS hA ls hl
  obtain ⟨hx_, hb_, hml_, hr_, hown_, hlk_, hnm_, hts_⟩ := id C_0
  have hl : lv_has ls 1 [(0, .ref h)] := hl
  refine lv_aload_n hx_ hb_ dX7_behind_0 rfl (lv_at hl 0 rfl) ?_
  refine va_get (D := D) (ci := 7) (v := .int bh) (C := RX7) (T := TX7) (N := 12) hx_ hb_ hts_ inM_X7 hown_ hK.1 hP 0 rfl rfl 11 (by decide) (hts_ _ (List.mem_cons_of_mem _ wa_f_X7_90)) (fun _ h9 => h9) rfl dX7_behind_1 ?_
  exact ct_iret C_0 (hP.sub [0] rfl) (hD.sub [0] (by decide) rfl) hS (Nat.le_of_ble_eq_true rfl) (Nat.le_of_ble_eq_true rfl) dX7_behind_4 (⟨rfl, rfl⟩)
abbrev po_X7_feed (k : Nat → ClassId) (h : Nat) (v : Int32) (hm : Nat) (hr : Nat) (he : Nat) (ht : Nat) (hs : Nat) (ha : Nat) (hte : Nat) (hab : Nat) (hd : Nat) (hp : Nat) (bh : Int32) (am : Nat) (tm : TT) (w : Int64) (n : Int32) : Int32 → va_W → Prop := fun ans_ w1 => ans_ = ab_r 3000 w n tm ∧ w1 = [(h, .inr (7, [.int v, .ref hm, .ref hr, .ref he, .ref ht, .ref hs, .ref ha, .ref hte, .ref hab, .ref hd, .ref hp, .int bh])), (hm, .inr (5, [.ref am, .int (nI ((ab_t 3000 w n tm).1))])), (am, .inl (k 0, 3000, .inl ((ab_t 3000 w n tm).2)))]
set_option maxHeartbeats 4000000 in
set_option maxRecDepth 100000 in
/-- feed -/
theorem k_X7_feed (l : Launch) (D : va_G) (k : Nat → ClassId) (h : Nat) (v : Int32) (hm : Nat) (hr : Nat) (he : Nat) (ht : Nat) (hs : Nat) (ha : Nat) (hte : Nat) (hab : Nat) (hd : Nat) (hp : Nat) (bh : Int32) (am : Nat) (tm : TT) (w : Int64) (n : Int32) (hm0 : tm.1 ≤ 3000) : ct_i l D (TY k) yX7_feed wsX7_feed ({ frames := 2, cells := 0, slots := 0, locals := 45 } : Room) [.ref h, .long w, .int n] [(h, .inr (7, [.int v, .ref hm, .ref hr, .ref he, .ref ht, .ref hs, .ref ha, .ref hte, .ref hab, .ref hd, .ref hp, .int bh])), (hm, .inr (5, [.ref am, .int (nI (tm.1))])), (am, .inl (k 0, 3000, .inl tm.2))] (po_X7_feed k h v hm hr he ht hs ha hte hab hd hp bh am tm w n) := by
  refine ct_i_of (cc := cX7_feed) (nL := 4) (rt := (some .int)) (by decide) rfl (Nat.le_of_ble_eq_true rfl) ?_
  intro p_ e_ s_0 m_0 below_ meth_ c_0 A_0 C_0 hP hK hD hS hA ls hl
  obtain ⟨hx_, hb_, hml_, hr_, hown_, hlk_, hnm_, hts_⟩ := id C_0
  have hl : lv_has ls 4 [(0, .ref h), (1, .long w), (3, .int n)] := hl
  refine lv_aload_n hx_ hb_ dX7_feed_0 rfl (lv_at hl 0 rfl) ?_
  refine va_get (D := D) (ci := 7) (v := .ref hm) (C := RX7) (T := TX7) (N := 12) hx_ hb_ hts_ inM_X7 hown_ hK.1 hP 0 rfl rfl 1 (by decide) (hts_ _ (List.mem_cons_of_mem _ wa_f_X7_27)) (fun _ h9 => h9) rfl dX7_feed_1 ?_
  refine lv_lload_n hx_ hb_ dX7_feed_4 rfl (lv_at hl 1 rfl) ?_
  refine lv_iload_n hx_ hb_ dX7_feed_5 rfl (lv_at hl 2 rfl) ?_
  refine ct_Si (wr := [(h, .inr (7, [.int v, .ref hm, .ref hr, .ref he, .ref ht, .ref hs, .ref ha, .ref hte, .ref hab, .ref hd, .ref hp, .int bh]))]) (rest := []) (As := [.ref hm, .long w, .int n]) ⟨hx_, hb_, hml_, hown_, hts_⟩ (k_X7_addBytes l D k hm am 3000 tm w n (by first | omega | assumption) (by first | omega | assumption)) (va_cwS 3 hts_ (gd_in (gw_S wa_m_X7_93 wa_t_X7_addBytes wa_i_X7 wa_k_X7_addBytes)) rfl rfl rfl (by decide +kernel) ⟨Nat.le_of_ble_eq_true rfl, Nat.le_of_ble_eq_true rfl⟩) hK hP hD hS hA [1, 2] [0] rfl rfl rfl rfl (by decide) hl.1 rfl rfl (Nat.le_of_ble_eq_true rfl) dX7_feed_6 ⟨Nat.le_of_ble_eq_true rfl, Nat.le_of_ble_eq_true rfl⟩ (fun rr1 w1 H locs ww2 hP hD hS => ?_)
  obtain ⟨rfl, rfl⟩ := ww2
  have hP : va_P D vwCl [(h, .inr (7, [.int v, .ref hm, .ref hr, .ref he, .ref ht, .ref hs, .ref ha, .ref hte, .ref hab, .ref hd, .ref hp, .int bh])), (hm, .inr (5, [.ref am, .int (nI ((ab_t 3000 w n tm).1))])), (am, .inl (k 0, 3000, .inl ((ab_t 3000 w n tm).2)))] H := hP
  have hD : va_D A_0 [(h, .inr (7, [.int v, .ref hm, .ref hr, .ref he, .ref ht, .ref hs, .ref ha, .ref hte, .ref hab, .ref hd, .ref hp, .int bh])), (hm, .inr (5, [.ref am, .int (nI ((ab_t 3000 w n tm).1))])), (am, .inl (k 0, 3000, .inl ((ab_t 3000 w n tm).2)))] := hD
  refine W.cs (cells' := 0) (slots' := 0) rfl rfl ?_
  exact ct_iret C_0 (hP.sub [0, 1, 2] rfl) (hD.sub [0, 1, 2] (by decide) rfl) hS (Nat.le_of_ble_eq_true rfl) (Nat.le_of_ble_eq_true rfl) dX7_feed_9 (⟨rfl, rfl⟩)
abbrev po_X7_type (k : Nat → ClassId) (h : Nat) (v : Int32) (hm : Nat) (hr : Nat) (he : Nat) (ht : Nat) (hs : Nat) (ha : Nat) (hte : Nat) (hab : Nat) (hd : Nat) (hp : Nat) (bh : Int32) (ar : Nat) (tr : TT) (w : Int64) (n : Int32) : Int32 → va_W → Prop := fun ans_ w1 => ans_ = ab_r 1000 w n tr ∧ w1 = [(h, .inr (7, [.int v, .ref hm, .ref hr, .ref he, .ref ht, .ref hs, .ref ha, .ref hte, .ref hab, .ref hd, .ref hp, .int bh])), (hr, .inr (5, [.ref ar, .int (nI ((ab_t 1000 w n tr).1))])), (ar, .inl (k 0, 1000, .inl ((ab_t 1000 w n tr).2)))]
set_option maxHeartbeats 4000000 in
set_option maxRecDepth 100000 in
/-- type -/
theorem k_X7_type (l : Launch) (D : va_G) (k : Nat → ClassId) (h : Nat) (v : Int32) (hm : Nat) (hr : Nat) (he : Nat) (ht : Nat) (hs : Nat) (ha : Nat) (hte : Nat) (hab : Nat) (hd : Nat) (hp : Nat) (bh : Int32) (ar : Nat) (tr : TT) (w : Int64) (n : Int32) (hr0 : tr.1 ≤ 1000) : ct_i l D (TY k) yX7_type wsX7_type ({ frames := 2, cells := 0, slots := 0, locals := 45 } : Room) [.ref h, .long w, .int n] [(h, .inr (7, [.int v, .ref hm, .ref hr, .ref he, .ref ht, .ref hs, .ref ha, .ref hte, .ref hab, .ref hd, .ref hp, .int bh])), (hr, .inr (5, [.ref ar, .int (nI (tr.1))])), (ar, .inl (k 0, 1000, .inl tr.2))] (po_X7_type k h v hm hr he ht hs ha hte hab hd hp bh ar tr w n) := by
  refine ct_i_of (cc := cX7_type) (nL := 4) (rt := (some .int)) (by decide) rfl (Nat.le_of_ble_eq_true rfl) ?_
  intro p_ e_ s_0 m_0 below_ meth_ c_0 A_0 C_0 hP hK hD hS hA ls hl
  obtain ⟨hx_, hb_, hml_, hr_, hown_, hlk_, hnm_, hts_⟩ := id C_0
  have hl : lv_has ls 4 [(0, .ref h), (1, .long w), (3, .int n)] := hl
  refine lv_aload_n hx_ hb_ dX7_type_0 rfl (lv_at hl 0 rfl) ?_
  refine va_get (D := D) (ci := 7) (v := .ref hr) (C := RX7) (T := TX7) (N := 12) hx_ hb_ hts_ inM_X7 hown_ hK.1 hP 0 rfl rfl 2 (by decide) (hts_ _ (List.mem_cons_of_mem _ wa_f_X7_31)) (fun _ h9 => h9) rfl dX7_type_1 ?_
  refine lv_lload_n hx_ hb_ dX7_type_4 rfl (lv_at hl 1 rfl) ?_
  refine lv_iload_n hx_ hb_ dX7_type_5 rfl (lv_at hl 2 rfl) ?_
  refine ct_Si (wr := [(h, .inr (7, [.int v, .ref hm, .ref hr, .ref he, .ref ht, .ref hs, .ref ha, .ref hte, .ref hab, .ref hd, .ref hp, .int bh]))]) (rest := []) (As := [.ref hr, .long w, .int n]) ⟨hx_, hb_, hml_, hown_, hts_⟩ (k_X7_addBytes l D k hr ar 1000 tr w n (by first | omega | assumption) (by first | omega | assumption)) (va_cwS 3 hts_ (gd_in (gw_S wa_m_X7_93 wa_t_X7_addBytes wa_i_X7 wa_k_X7_addBytes)) rfl rfl rfl (by decide +kernel) ⟨Nat.le_of_ble_eq_true rfl, Nat.le_of_ble_eq_true rfl⟩) hK hP hD hS hA [1, 2] [0] rfl rfl rfl rfl (by decide) hl.1 rfl rfl (Nat.le_of_ble_eq_true rfl) dX7_type_6 ⟨Nat.le_of_ble_eq_true rfl, Nat.le_of_ble_eq_true rfl⟩ (fun rr1 w1 H locs ww2 hP hD hS => ?_)
  obtain ⟨rfl, rfl⟩ := ww2
  have hP : va_P D vwCl [(h, .inr (7, [.int v, .ref hm, .ref hr, .ref he, .ref ht, .ref hs, .ref ha, .ref hte, .ref hab, .ref hd, .ref hp, .int bh])), (hr, .inr (5, [.ref ar, .int (nI ((ab_t 1000 w n tr).1))])), (ar, .inl (k 0, 1000, .inl ((ab_t 1000 w n tr).2)))] H := hP
  have hD : va_D A_0 [(h, .inr (7, [.int v, .ref hm, .ref hr, .ref he, .ref ht, .ref hs, .ref ha, .ref hte, .ref hab, .ref hd, .ref hp, .int bh])), (hr, .inr (5, [.ref ar, .int (nI ((ab_t 1000 w n tr).1))])), (ar, .inl (k 0, 1000, .inl ((ab_t 1000 w n tr).2)))] := hD
  refine W.cs (cells' := 0) (slots' := 0) rfl rfl ?_
  exact ct_iret C_0 (hP.sub [0, 1, 2] rfl) (hD.sub [0, 1, 2] (by decide) rfl) hS (Nat.le_of_ble_eq_true rfl) (Nat.le_of_ble_eq_true rfl) dX7_type_9 (⟨rfl, rfl⟩)
abbrev po_X7_byteAt (k : Nat → ClassId) (h : Nat) (v : Int32) (hm : Nat) (hr : Nat) (he : Nat) (ht : Nat) (hs : Nat) (ha : Nat) (hte : Nat) (hab : Nat) (hd : Nat) (hp : Nat) (bh : Int32) (am : Nat) (tm : TT) (i : Int32) : Int32 → va_W → Prop := fun ans_ w1 => ans_ = rw_get tm.1 tm.2 i ∧ w1 = [(h, .inr (7, [.int v, .ref hm, .ref hr, .ref he, .ref ht, .ref hs, .ref ha, .ref hte, .ref hab, .ref hd, .ref hp, .int bh])), (hm, .inr (5, [.ref am, .int (nI (tm.1))])), (am, .inl (k 0, 3000, .inl tm.2))]
set_option maxHeartbeats 4000000 in
set_option maxRecDepth 100000 in
/-- byteAt -/
theorem k_X7_byteAt (l : Launch) (D : va_G) (k : Nat → ClassId) (h : Nat) (v : Int32) (hm : Nat) (hr : Nat) (he : Nat) (ht : Nat) (hs : Nat) (ha : Nat) (hte : Nat) (hab : Nat) (hd : Nat) (hp : Nat) (bh : Int32) (am : Nat) (tm : TT) (i : Int32) (hm0 : tm.1 ≤ 3000) : ct_i l D (TY k) yX7_byteAt wsX7_byteAt ({ frames := 2, cells := 0, slots := 0, locals := 42 } : Room) [.ref h, .int i] [(h, .inr (7, [.int v, .ref hm, .ref hr, .ref he, .ref ht, .ref hs, .ref ha, .ref hte, .ref hab, .ref hd, .ref hp, .int bh])), (hm, .inr (5, [.ref am, .int (nI (tm.1))])), (am, .inl (k 0, 3000, .inl tm.2))] (po_X7_byteAt k h v hm hr he ht hs ha hte hab hd hp bh am tm i) := by
  refine ct_i_of (cc := cX7_byteAt) (nL := 2) (rt := (some .int)) (by decide) rfl (Nat.le_of_ble_eq_true rfl) ?_
  intro p_ e_ s_0 m_0 below_ meth_ c_0 A_0 C_0 hP hK hD hS hA ls hl
  obtain ⟨hx_, hb_, hml_, hr_, hown_, hlk_, hnm_, hts_⟩ := id C_0
  have hl : lv_has ls 2 [(0, .ref h), (1, .int i)] := hl
  refine lv_aload_n hx_ hb_ dX7_byteAt_0 rfl (lv_at hl 0 rfl) ?_
  refine va_get (D := D) (ci := 7) (v := .ref hm) (C := RX7) (T := TX7) (N := 12) hx_ hb_ hts_ inM_X7 hown_ hK.1 hP 0 rfl rfl 1 (by decide) (hts_ _ (List.mem_cons_of_mem _ wa_f_X7_27)) (fun _ h9 => h9) rfl dX7_byteAt_1 ?_
  refine lv_iload_n hx_ hb_ dX7_byteAt_4 rfl (lv_at hl 1 rfl) ?_
  refine ct_Vi (wr := [(h, .inr (7, [.int v, .ref hm, .ref hr, .ref he, .ref ht, .ref hs, .ref ha, .ref hte, .ref hab, .ref hd, .ref hp, .int bh]))]) (rest := []) (As := [.int i]) ⟨hx_, hb_, hml_, hown_, hts_⟩ (k_X5_has l D k hm am 3000 tm i ) (cwV 1 hts_ (gd_in (gw_V wa_m_X7_97 wa_y_X5_has wa_s_X5_has wa_i_X5 wa_k_X5_has)) rfl rfl rfl (by decide +kernel) ⟨Nat.le_of_ble_eq_true rfl, Nat.le_of_ble_eq_true rfl⟩) hK hP hD hS hA [1, 2] [0] rfl rfl rfl rfl (by decide) 5 rfl rfl rfl hl.1 rfl rfl (Nat.le_of_ble_eq_true rfl) dX7_byteAt_5 ⟨Nat.le_of_ble_eq_true rfl, Nat.le_of_ble_eq_true rfl⟩ (fun rr1 w1 H locs ww2 hP hD hS => ?_)
  obtain ⟨rfl, rfl⟩ := ww2
  have hP : va_P D vwCl [(h, .inr (7, [.int v, .ref hm, .ref hr, .ref he, .ref ht, .ref hs, .ref ha, .ref hte, .ref hab, .ref hd, .ref hp, .int bh])), (hm, .inr (5, [.ref am, .int (nI (tm.1))])), (am, .inl (k 0, 3000, .inl tm.2))] H := hP
  have hD : va_D A_0 [(h, .inr (7, [.int v, .ref hm, .ref hr, .ref he, .ref ht, .ref hs, .ref ha, .ref hte, .ref hab, .ref hd, .ref hp, .int bh])), (hm, .inr (5, [.ref am, .int (nI (tm.1))])), (am, .inl (k 0, 3000, .inl tm.2))] := hD
  refine W.cs (cells' := 0) (slots' := 0) rfl rfl ?_
  refine lv_if_eq (tgt := 22) hx_ hb_ dX7_byteAt_8 (by decide) (fun cc3 => ?_) (fun cc3 => ?_)
  · skip
    refine lv_iconst (v := (-1)) hx_ hb_ dX7_byteAt_22 (by decide) ?_
    have eqr : ((-1) : Int32) = rw_get tm.1 tm.2 i := by simp [rw_get, eq_true cc3]
    exact ct_iret C_0 (hP.sub [0, 1, 2] rfl) (hD.sub [0, 1, 2] (by decide) rfl) hS (Nat.le_of_ble_eq_true rfl) (Nat.le_of_ble_eq_true rfl) dX7_byteAt_23 (⟨eqr, rfl⟩)
  · skip
    refine lv_aload_n hx_ hb_ dX7_byteAt_11 rfl (lv_at hl 0 rfl) ?_
    refine va_get (D := D) (ci := 7) (v := .ref hm) (C := RX7) (T := TX7) (N := 12) hx_ hb_ hts_ inM_X7 hown_ hK.1 hP 0 rfl rfl 1 (by decide) (hts_ _ (List.mem_cons_of_mem _ wa_f_X7_27)) (fun _ h9 => h9) rfl dX7_byteAt_12 ?_
    refine lv_iload_n hx_ hb_ dX7_byteAt_15 rfl (lv_at hl 1 rfl) ?_
    refine ct_Vi (wr := [(h, .inr (7, [.int v, .ref hm, .ref hr, .ref he, .ref ht, .ref hs, .ref ha, .ref hte, .ref hab, .ref hd, .ref hp, .int bh]))]) (rest := []) (As := [.int i]) ⟨hx_, hb_, hml_, hown_, hts_⟩ (k_X5_get l D k hm am 3000 tm i (by first | omega | assumption) (by first | omega | assumption)) (cwV 1 hts_ (gd_in (gw_V wa_m_X7_100 wa_y_X5_get wa_s_X5_get wa_i_X5 wa_k_X5_get)) rfl rfl rfl (by decide +kernel) ⟨Nat.le_of_ble_eq_true rfl, Nat.le_of_ble_eq_true rfl⟩) hK hP hD hS hA [1, 2] [0] rfl rfl rfl rfl (by decide) 5 rfl rfl rfl hl.1 rfl rfl (Nat.le_of_ble_eq_true rfl) dX7_byteAt_16 ⟨Nat.le_of_ble_eq_true rfl, Nat.le_of_ble_eq_true rfl⟩ (fun rr4 w1 H locs ww5 hP hD hS => ?_)
    obtain ⟨rfl, rfl⟩ := ww5
    have hP : va_P D vwCl [(h, .inr (7, [.int v, .ref hm, .ref hr, .ref he, .ref ht, .ref hs, .ref ha, .ref hte, .ref hab, .ref hd, .ref hp, .int bh])), (hm, .inr (5, [.ref am, .int (nI (tm.1))])), (am, .inl (k 0, 3000, .inl tm.2))] H := hP
    have hD : va_D A_0 [(h, .inr (7, [.int v, .ref hm, .ref hr, .ref he, .ref ht, .ref hs, .ref ha, .ref hte, .ref hab, .ref hd, .ref hp, .int bh])), (hm, .inr (5, [.ref am, .int (nI (tm.1))])), (am, .inl (k 0, 3000, .inl tm.2))] := hD
    refine W.cs (cells' := 0) (slots' := 0) rfl rfl ?_
    refine lv_goto (tgt := 23) hx_ hb_ dX7_byteAt_19 (by decide) ?_
    exact ct_iret C_0 (hP.sub [0, 1, 2] rfl) (hD.sub [0, 1, 2] (by decide) rfl) hS (Nat.le_of_ble_eq_true rfl) (Nat.le_of_ble_eq_true rfl) dX7_byteAt_23 (⟨rfl, rfl⟩)
abbrev po_X7_at (k : Nat → ClassId) (h : Nat) (v : Int32) (hm : Nat) (hr : Nat) (he : Nat) (ht : Nat) (hs : Nat) (ha : Nat) (hte : Nat) (hab : Nat) (hd : Nat) (hp : Nat) (bh : Int32) (ar : Nat) (tr : TT) (i : Int32) : Int32 → va_W → Prop := fun ans_ w1 => ans_ = rw_get tr.1 tr.2 i ∧ w1 = [(h, .inr (7, [.int v, .ref hm, .ref hr, .ref he, .ref ht, .ref hs, .ref ha, .ref hte, .ref hab, .ref hd, .ref hp, .int bh])), (hr, .inr (5, [.ref ar, .int (nI (tr.1))])), (ar, .inl (k 0, 1000, .inl tr.2))]
set_option maxHeartbeats 4000000 in
set_option maxRecDepth 100000 in
/-- at -/
theorem k_X7_at (l : Launch) (D : va_G) (k : Nat → ClassId) (h : Nat) (v : Int32) (hm : Nat) (hr : Nat) (he : Nat) (ht : Nat) (hs : Nat) (ha : Nat) (hte : Nat) (hab : Nat) (hd : Nat) (hp : Nat) (bh : Int32) (ar : Nat) (tr : TT) (i : Int32) (hr0 : tr.1 ≤ 1000) : ct_i l D (TY k) yX7_at wsX7_at ({ frames := 2, cells := 0, slots := 0, locals := 42 } : Room) [.ref h, .int i] [(h, .inr (7, [.int v, .ref hm, .ref hr, .ref he, .ref ht, .ref hs, .ref ha, .ref hte, .ref hab, .ref hd, .ref hp, .int bh])), (hr, .inr (5, [.ref ar, .int (nI (tr.1))])), (ar, .inl (k 0, 1000, .inl tr.2))] (po_X7_at k h v hm hr he ht hs ha hte hab hd hp bh ar tr i) := by
  refine ct_i_of (cc := cX7_at) (nL := 2) (rt := (some .int)) (by decide) rfl (Nat.le_of_ble_eq_true rfl) ?_
  intro p_ e_ s_0 m_0 below_ meth_ c_0 A_0 C_0 hP hK hD hS hA ls hl
  obtain ⟨hx_, hb_, hml_, hr_, hown_, hlk_, hnm_, hts_⟩ := id C_0
  have hl : lv_has ls 2 [(0, .ref h), (1, .int i)] := hl
  refine lv_aload_n hx_ hb_ dX7_at_0 rfl (lv_at hl 0 rfl) ?_
  refine va_get (D := D) (ci := 7) (v := .ref hr) (C := RX7) (T := TX7) (N := 12) hx_ hb_ hts_ inM_X7 hown_ hK.1 hP 0 rfl rfl 2 (by decide) (hts_ _ (List.mem_cons_of_mem _ wa_f_X7_31)) (fun _ h9 => h9) rfl dX7_at_1 ?_
  refine lv_iload_n hx_ hb_ dX7_at_4 rfl (lv_at hl 1 rfl) ?_
  refine ct_Vi (wr := [(h, .inr (7, [.int v, .ref hm, .ref hr, .ref he, .ref ht, .ref hs, .ref ha, .ref hte, .ref hab, .ref hd, .ref hp, .int bh]))]) (rest := []) (As := [.int i]) ⟨hx_, hb_, hml_, hown_, hts_⟩ (k_X5_has l D k hr ar 1000 tr i ) (cwV 1 hts_ (gd_in (gw_V wa_m_X7_97 wa_y_X5_has wa_s_X5_has wa_i_X5 wa_k_X5_has)) rfl rfl rfl (by decide +kernel) ⟨Nat.le_of_ble_eq_true rfl, Nat.le_of_ble_eq_true rfl⟩) hK hP hD hS hA [1, 2] [0] rfl rfl rfl rfl (by decide) 5 rfl rfl rfl hl.1 rfl rfl (Nat.le_of_ble_eq_true rfl) dX7_at_5 ⟨Nat.le_of_ble_eq_true rfl, Nat.le_of_ble_eq_true rfl⟩ (fun rr1 w1 H locs ww2 hP hD hS => ?_)
  obtain ⟨rfl, rfl⟩ := ww2
  have hP : va_P D vwCl [(h, .inr (7, [.int v, .ref hm, .ref hr, .ref he, .ref ht, .ref hs, .ref ha, .ref hte, .ref hab, .ref hd, .ref hp, .int bh])), (hr, .inr (5, [.ref ar, .int (nI (tr.1))])), (ar, .inl (k 0, 1000, .inl tr.2))] H := hP
  have hD : va_D A_0 [(h, .inr (7, [.int v, .ref hm, .ref hr, .ref he, .ref ht, .ref hs, .ref ha, .ref hte, .ref hab, .ref hd, .ref hp, .int bh])), (hr, .inr (5, [.ref ar, .int (nI (tr.1))])), (ar, .inl (k 0, 1000, .inl tr.2))] := hD
  refine W.cs (cells' := 0) (slots' := 0) rfl rfl ?_
  refine lv_if_eq (tgt := 22) hx_ hb_ dX7_at_8 (by decide) (fun cc3 => ?_) (fun cc3 => ?_)
  · skip
    refine lv_iconst (v := (-1)) hx_ hb_ dX7_at_22 (by decide) ?_
    have eqr : ((-1) : Int32) = rw_get tr.1 tr.2 i := by simp [rw_get, eq_true cc3]
    exact ct_iret C_0 (hP.sub [0, 1, 2] rfl) (hD.sub [0, 1, 2] (by decide) rfl) hS (Nat.le_of_ble_eq_true rfl) (Nat.le_of_ble_eq_true rfl) dX7_at_23 (⟨eqr, rfl⟩)
  · skip
    refine lv_aload_n hx_ hb_ dX7_at_11 rfl (lv_at hl 0 rfl) ?_
    refine va_get (D := D) (ci := 7) (v := .ref hr) (C := RX7) (T := TX7) (N := 12) hx_ hb_ hts_ inM_X7 hown_ hK.1 hP 0 rfl rfl 2 (by decide) (hts_ _ (List.mem_cons_of_mem _ wa_f_X7_31)) (fun _ h9 => h9) rfl dX7_at_12 ?_
    refine lv_iload_n hx_ hb_ dX7_at_15 rfl (lv_at hl 1 rfl) ?_
    refine ct_Vi (wr := [(h, .inr (7, [.int v, .ref hm, .ref hr, .ref he, .ref ht, .ref hs, .ref ha, .ref hte, .ref hab, .ref hd, .ref hp, .int bh]))]) (rest := []) (As := [.int i]) ⟨hx_, hb_, hml_, hown_, hts_⟩ (k_X5_get l D k hr ar 1000 tr i (by first | omega | assumption) (by first | omega | assumption)) (cwV 1 hts_ (gd_in (gw_V wa_m_X7_100 wa_y_X5_get wa_s_X5_get wa_i_X5 wa_k_X5_get)) rfl rfl rfl (by decide +kernel) ⟨Nat.le_of_ble_eq_true rfl, Nat.le_of_ble_eq_true rfl⟩) hK hP hD hS hA [1, 2] [0] rfl rfl rfl rfl (by decide) 5 rfl rfl rfl hl.1 rfl rfl (Nat.le_of_ble_eq_true rfl) dX7_at_16 ⟨Nat.le_of_ble_eq_true rfl, Nat.le_of_ble_eq_true rfl⟩ (fun rr4 w1 H locs ww5 hP hD hS => ?_)
    obtain ⟨rfl, rfl⟩ := ww5
    have hP : va_P D vwCl [(h, .inr (7, [.int v, .ref hm, .ref hr, .ref he, .ref ht, .ref hs, .ref ha, .ref hte, .ref hab, .ref hd, .ref hp, .int bh])), (hr, .inr (5, [.ref ar, .int (nI (tr.1))])), (ar, .inl (k 0, 1000, .inl tr.2))] H := hP
    have hD : va_D A_0 [(h, .inr (7, [.int v, .ref hm, .ref hr, .ref he, .ref ht, .ref hs, .ref ha, .ref hte, .ref hab, .ref hd, .ref hp, .int bh])), (hr, .inr (5, [.ref ar, .int (nI (tr.1))])), (ar, .inl (k 0, 1000, .inl tr.2))] := hD
    refine W.cs (cells' := 0) (slots' := 0) rfl rfl ?_
    refine lv_goto (tgt := 23) hx_ hb_ dX7_at_19 (by decide) ?_
    exact ct_iret C_0 (hP.sub [0, 1, 2] rfl) (hD.sub [0, 1, 2] (by decide) rfl) hS (Nat.le_of_ble_eq_true rfl) (Nat.le_of_ble_eq_true rfl) dX7_at_23 (⟨rfl, rfl⟩)
abbrev po_X7_poke (k : Nat → ClassId) (h : Nat) (v : Int32) (hm : Nat) (hr : Nat) (he : Nat) (ht : Nat) (hs : Nat) (ha : Nat) (hte : Nat) (hab : Nat) (hd : Nat) (hp : Nat) (bh : Int32) (am : Nat) (tm : TT) (i : Int32) (b1 : Int32) : Int32 → va_W → Prop := fun ans_ w1 => ans_ = zp_r tm i b1 ∧ w1 = [(h, .inr (7, [.int v, .ref hm, .ref hr, .ref he, .ref ht, .ref hs, .ref ha, .ref hte, .ref hab, .ref hd, .ref hp, .int bh])), (hm, .inr (5, [.ref am, .int (nI ((zp_t tm i b1).1))])), (am, .inl (k 0, 3000, .inl ((zp_t tm i b1).2)))]
set_option maxHeartbeats 4000000 in
set_option maxRecDepth 100000 in
/-- poke -/
theorem k_X7_poke (l : Launch) (D : va_G) (k : Nat → ClassId) (h : Nat) (v : Int32) (hm : Nat) (hr : Nat) (he : Nat) (ht : Nat) (hs : Nat) (ha : Nat) (hte : Nat) (hab : Nat) (hd : Nat) (hp : Nat) (bh : Int32) (am : Nat) (tm : TT) (i : Int32) (b1 : Int32) (hm0 : tm.1 ≤ 3000) : ct_i l D (TY k) yX7_poke wsX7_poke ({ frames := 2, cells := 0, slots := 0, locals := 44 } : Room) [.ref h, .int i, .int b1] [(h, .inr (7, [.int v, .ref hm, .ref hr, .ref he, .ref ht, .ref hs, .ref ha, .ref hte, .ref hab, .ref hd, .ref hp, .int bh])), (hm, .inr (5, [.ref am, .int (nI (tm.1))])), (am, .inl (k 0, 3000, .inl tm.2))] (po_X7_poke k h v hm hr he ht hs ha hte hab hd hp bh am tm i b1) := by
  refine ct_i_of (cc := cX7_poke) (nL := 3) (rt := (some .int)) (by decide) rfl (Nat.le_of_ble_eq_true rfl) ?_
  intro p_ e_ s_0 m_0 below_ meth_ c_0 A_0 C_0 hP hK hD hS hA ls hl
  obtain ⟨hx_, hb_, hml_, hr_, hown_, hlk_, hnm_, hts_⟩ := id C_0
  have hl : lv_has ls 3 [(0, .ref h), (1, .int i), (2, .int b1)] := hl
  refine lv_aload_n hx_ hb_ dX7_poke_0 rfl (lv_at hl 0 rfl) ?_
  refine va_get (D := D) (ci := 7) (v := .ref hm) (C := RX7) (T := TX7) (N := 12) hx_ hb_ hts_ inM_X7 hown_ hK.1 hP 0 rfl rfl 1 (by decide) (hts_ _ (List.mem_cons_of_mem _ wa_f_X7_27)) (fun _ h9 => h9) rfl dX7_poke_1 ?_
  refine lv_iload_n hx_ hb_ dX7_poke_4 rfl (lv_at hl 1 rfl) ?_
  refine ct_Vi (wr := [(h, .inr (7, [.int v, .ref hm, .ref hr, .ref he, .ref ht, .ref hs, .ref ha, .ref hte, .ref hab, .ref hd, .ref hp, .int bh]))]) (rest := []) (As := [.int i]) ⟨hx_, hb_, hml_, hown_, hts_⟩ (k_X5_has l D k hm am 3000 tm i ) (cwV 1 hts_ (gd_in (gw_V wa_m_X7_97 wa_y_X5_has wa_s_X5_has wa_i_X5 wa_k_X5_has)) rfl rfl rfl (by decide +kernel) ⟨Nat.le_of_ble_eq_true rfl, Nat.le_of_ble_eq_true rfl⟩) hK hP hD hS hA [1, 2] [0] rfl rfl rfl rfl (by decide) 5 rfl rfl rfl hl.1 rfl rfl (Nat.le_of_ble_eq_true rfl) dX7_poke_5 ⟨Nat.le_of_ble_eq_true rfl, Nat.le_of_ble_eq_true rfl⟩ (fun rr1 w1 H locs ww2 hP hD hS => ?_)
  obtain ⟨rfl, rfl⟩ := ww2
  have hP : va_P D vwCl [(h, .inr (7, [.int v, .ref hm, .ref hr, .ref he, .ref ht, .ref hs, .ref ha, .ref hte, .ref hab, .ref hd, .ref hp, .int bh])), (hm, .inr (5, [.ref am, .int (nI (tm.1))])), (am, .inl (k 0, 3000, .inl tm.2))] H := hP
  have hD : va_D A_0 [(h, .inr (7, [.int v, .ref hm, .ref hr, .ref he, .ref ht, .ref hs, .ref ha, .ref hte, .ref hab, .ref hd, .ref hp, .int bh])), (hm, .inr (5, [.ref am, .int (nI (tm.1))])), (am, .inl (k 0, 3000, .inl tm.2))] := hD
  refine W.cs (cells' := 0) (slots' := 0) rfl rfl ?_
  refine lv_if_ne (tgt := 13) hx_ hb_ dX7_poke_8 (by decide) (fun cc3 => ?_) (fun cc3 => ?_)
  · skip
    refine lv_iload_n hx_ hb_ dX7_poke_13 rfl (lv_at hl 2 rfl) ?_
    refine lv_if_lt (tgt := 24) hx_ hb_ dX7_poke_14 (by decide) (fun cc4 => ?_) (fun cc4 => ?_)
    · skip
      refine lv_bipush (v := (-2)) hx_ hb_ dX7_poke_24 (by decide) ?_
      have eq1 : (nI (tm.1) : Int32) = nI ((zp_t tm i b1).1) := by simp [zp_r, zp_t, eq_false cc3, eq_true cc4]
      have eq2 : (tm.2 : Nat → Int32) = (zp_t tm i b1).2 := by simp [zp_r, zp_t, eq_false cc3, eq_true cc4]
      have eqr : ((-2) : Int32) = zp_r tm i b1 := by simp [zp_r, zp_t, eq_false cc3, eq_true cc4]
      exact ct_iret C_0 (hP.sub [0, 1, 2] rfl) (hD.sub [0, 1, 2] (by decide) rfl) hS (Nat.le_of_ble_eq_true rfl) (Nat.le_of_ble_eq_true rfl) dX7_poke_26 (⟨eqr, congr (congrArg (fun (z1 : Int32) (z2 : Nat → Int32) => ([(h, .inr (7, [.int v, .ref hm, .ref hr, .ref he, .ref ht, .ref hs, .ref ha, .ref hte, .ref hab, .ref hd, .ref hp, .int bh])), (hm, .inr (5, [.ref am, .int z1])), (am, .inl (k 0, 3000, .inl z2))] : va_W)) eq1) eq2⟩)
    · skip
      refine lv_iload_n hx_ hb_ dX7_poke_17 rfl (lv_at hl 2 rfl) ?_
      refine lv_sipush (v := 255) hx_ hb_ dX7_poke_18 (by decide) ?_
      refine lv_icmp_le (tgt := 27) hx_ hb_ dX7_poke_21 (by decide) (fun cc5 => ?_) (fun cc5 => ?_)
      · skip
        refine lv_aload_n hx_ hb_ dX7_poke_27 rfl (lv_at hl 0 rfl) ?_
        refine va_get (D := D) (ci := 7) (v := .ref hm) (C := RX7) (T := TX7) (N := 12) hx_ hb_ hts_ inM_X7 hown_ hK.1 hP 0 rfl rfl 1 (by decide) (hts_ _ (List.mem_cons_of_mem _ wa_f_X7_27)) (fun _ h9 => h9) rfl dX7_poke_28 ?_
        refine lv_iload_n hx_ hb_ dX7_poke_31 rfl (lv_at hl 1 rfl) ?_
        refine lv_iload_n hx_ hb_ dX7_poke_32 rfl (lv_at hl 2 rfl) ?_
        refine ct_Vi (wr := [(h, .inr (7, [.int v, .ref hm, .ref hr, .ref he, .ref ht, .ref hs, .ref ha, .ref hte, .ref hab, .ref hd, .ref hp, .int bh]))]) (rest := []) (As := [.int i, .int b1]) ⟨hx_, hb_, hml_, hown_, hts_⟩ (k_X5_replace l D k hm am 3000 tm i b1 (by first | omega | assumption) (by first | omega | assumption)) (cwV 2 hts_ (gd_in (gw_V wa_m_X7_104 wa_y_X5_replace wa_s_X5_replace wa_i_X5 wa_k_X5_replace)) rfl rfl rfl (by decide +kernel) ⟨Nat.le_of_ble_eq_true rfl, Nat.le_of_ble_eq_true rfl⟩) hK hP hD hS hA [1, 2] [0] rfl rfl rfl rfl (by decide) 5 rfl rfl rfl hl.1 rfl rfl (Nat.le_of_ble_eq_true rfl) dX7_poke_33 ⟨Nat.le_of_ble_eq_true rfl, Nat.le_of_ble_eq_true rfl⟩ (fun rr6 w1 H locs ww7 hP hD hS => ?_)
        obtain ⟨rfl, rfl⟩ := ww7
        have hP : va_P D vwCl [(h, .inr (7, [.int v, .ref hm, .ref hr, .ref he, .ref ht, .ref hs, .ref ha, .ref hte, .ref hab, .ref hd, .ref hp, .int bh])), (hm, .inr (5, [.ref am, .int (nI ((rw_r i b1 tm).1))])), (am, .inl (k 0, 3000, .inl ((rw_r i b1 tm).2)))] H := hP
        have hD : va_D A_0 [(h, .inr (7, [.int v, .ref hm, .ref hr, .ref he, .ref ht, .ref hs, .ref ha, .ref hte, .ref hab, .ref hd, .ref hp, .int bh])), (hm, .inr (5, [.ref am, .int (nI ((rw_r i b1 tm).1))])), (am, .inl (k 0, 3000, .inl ((rw_r i b1 tm).2)))] := hD
        refine W.cs (cells' := 0) (slots' := 0) rfl rfl ?_
        have eq1 : (nI ((rw_r i b1 tm).1) : Int32) = nI ((zp_t tm i b1).1) := by simp [zp_r, zp_t, eq_false cc3, eq_false cc4, eq_true cc5]
        have eq2 : ((rw_r i b1 tm).2 : Nat → Int32) = (zp_t tm i b1).2 := by simp [zp_r, zp_t, eq_false cc3, eq_false cc4, eq_true cc5]
        have eqr : (rw_get tm.1 tm.2 i : Int32) = zp_r tm i b1 := by simp [zp_r, zp_t, eq_false cc3, eq_false cc4, eq_true cc5]
        exact ct_iret C_0 (hP.sub [0, 1, 2] rfl) (hD.sub [0, 1, 2] (by decide) rfl) hS (Nat.le_of_ble_eq_true rfl) (Nat.le_of_ble_eq_true rfl) dX7_poke_36 (⟨eqr, congr (congrArg (fun (z1 : Int32) (z2 : Nat → Int32) => ([(h, .inr (7, [.int v, .ref hm, .ref hr, .ref he, .ref ht, .ref hs, .ref ha, .ref hte, .ref hab, .ref hd, .ref hp, .int bh])), (hm, .inr (5, [.ref am, .int z1])), (am, .inl (k 0, 3000, .inl z2))] : va_W)) eq1) eq2⟩)
      · skip
        refine lv_bipush (v := (-2)) hx_ hb_ dX7_poke_24 (by decide) ?_
        have eq1 : (nI (tm.1) : Int32) = nI ((zp_t tm i b1).1) := by simp [zp_r, zp_t, eq_false cc3, eq_false cc4, eq_false cc5]
        have eq2 : (tm.2 : Nat → Int32) = (zp_t tm i b1).2 := by simp [zp_r, zp_t, eq_false cc3, eq_false cc4, eq_false cc5]
        have eqr : ((-2) : Int32) = zp_r tm i b1 := by simp [zp_r, zp_t, eq_false cc3, eq_false cc4, eq_false cc5]
        exact ct_iret C_0 (hP.sub [0, 1, 2] rfl) (hD.sub [0, 1, 2] (by decide) rfl) hS (Nat.le_of_ble_eq_true rfl) (Nat.le_of_ble_eq_true rfl) dX7_poke_26 (⟨eqr, congr (congrArg (fun (z1 : Int32) (z2 : Nat → Int32) => ([(h, .inr (7, [.int v, .ref hm, .ref hr, .ref he, .ref ht, .ref hs, .ref ha, .ref hte, .ref hab, .ref hd, .ref hp, .int bh])), (hm, .inr (5, [.ref am, .int z1])), (am, .inl (k 0, 3000, .inl z2))] : va_W)) eq1) eq2⟩)
  · skip
    refine lv_iconst (v := (-1)) hx_ hb_ dX7_poke_11 (by decide) ?_
    have eq1 : (nI (tm.1) : Int32) = nI ((zp_t tm i b1).1) := by simp [zp_r, zp_t, eq_true cc3]
    have eq2 : (tm.2 : Nat → Int32) = (zp_t tm i b1).2 := by simp [zp_r, zp_t, eq_true cc3]
    have eqr : ((-1) : Int32) = zp_r tm i b1 := by simp [zp_r, zp_t, eq_true cc3]
    exact ct_iret C_0 (hP.sub [0, 1, 2] rfl) (hD.sub [0, 1, 2] (by decide) rfl) hS (Nat.le_of_ble_eq_true rfl) (Nat.le_of_ble_eq_true rfl) dX7_poke_12 (⟨eqr, congr (congrArg (fun (z1 : Int32) (z2 : Nat → Int32) => ([(h, .inr (7, [.int v, .ref hm, .ref hr, .ref he, .ref ht, .ref hs, .ref ha, .ref hte, .ref hab, .ref hd, .ref hp, .int bh])), (hm, .inr (5, [.ref am, .int z1])), (am, .inl (k 0, 3000, .inl z2))] : va_W)) eq1) eq2⟩)
abbrev po_X7_keep (k : Nat → ClassId) (h : Nat) (v : Int32) (hm : Nat) (hr : Nat) (he : Nat) (ht : Nat) (hs : Nat) (ha : Nat) (hte : Nat) (hab : Nat) (hd : Nat) (hp : Nat) (bh : Int32) (am : Nat) (tm : TT) (n : Int32) : Int32 → va_W → Prop := fun ans_ w1 => ans_ = zk_r tm n ∧ w1 = [(h, .inr (7, [.int v, .ref hm, .ref hr, .ref he, .ref ht, .ref hs, .ref ha, .ref hte, .ref hab, .ref hd, .ref hp, .int bh])), (hm, .inr (5, [.ref am, .int (nI ((zk_t tm n).1))])), (am, .inl (k 0, 3000, .inl ((zk_t tm n).2)))]
set_option maxHeartbeats 4000000 in
set_option maxRecDepth 100000 in
/-- keep -/
theorem k_X7_keep (l : Launch) (D : va_G) (k : Nat → ClassId) (h : Nat) (v : Int32) (hm : Nat) (hr : Nat) (he : Nat) (ht : Nat) (hs : Nat) (ha : Nat) (hte : Nat) (hab : Nat) (hd : Nat) (hp : Nat) (bh : Int32) (am : Nat) (tm : TT) (n : Int32) (hm0 : tm.1 ≤ 3000) : ct_i l D (TY k) yX7_keep wsX7_keep ({ frames := 1, cells := 0, slots := 0, locals := 21 } : Room) [.ref h, .int n] [(h, .inr (7, [.int v, .ref hm, .ref hr, .ref he, .ref ht, .ref hs, .ref ha, .ref hte, .ref hab, .ref hd, .ref hp, .int bh])), (hm, .inr (5, [.ref am, .int (nI (tm.1))])), (am, .inl (k 0, 3000, .inl tm.2))] (po_X7_keep k h v hm hr he ht hs ha hte hab hd hp bh am tm n) := by
  refine ct_i_of (cc := cX7_keep) (nL := 3) (rt := (some .int)) (by decide) rfl (Nat.le_of_ble_eq_true rfl) ?_
  intro p_ e_ s_0 m_0 below_ meth_ c_0 A_0 C_0 hP hK hD hS hA ls hl
  obtain ⟨hx_, hb_, hml_, hr_, hown_, hlk_, hnm_, hts_⟩ := id C_0
  have hl : lv_has ls 3 [(0, .ref h), (1, .int n)] := hl
  refine lv_aload_n hx_ hb_ dX7_keep_0 rfl (lv_at hl 0 rfl) ?_
  refine va_get (D := D) (ci := 7) (v := .ref hm) (C := RX7) (T := TX7) (N := 12) hx_ hb_ hts_ inM_X7 hown_ hK.1 hP 0 rfl rfl 1 (by decide) (hts_ _ (List.mem_cons_of_mem _ wa_f_X7_27)) (fun _ h9 => h9) rfl dX7_keep_1 ?_
  refine ct_Vi (wr := [(h, .inr (7, [.int v, .ref hm, .ref hr, .ref he, .ref ht, .ref hs, .ref ha, .ref hte, .ref hab, .ref hd, .ref hp, .int bh]))]) (rest := []) (As := []) ⟨hx_, hb_, hml_, hown_, hts_⟩ (k_X5_count l D k hm am 3000 tm ) (cwV 0 hts_ (gd_in (gw_V wa_m_X7_107 wa_y_X5_count wa_s_X5_count wa_i_X5 wa_k_X5_count)) rfl rfl rfl (by decide +kernel) ⟨Nat.le_of_ble_eq_true rfl, Nat.le_of_ble_eq_true rfl⟩) hK hP hD hS hA [1, 2] [0] rfl rfl rfl rfl (by decide) 5 rfl rfl rfl hl.1 rfl rfl (Nat.le_of_ble_eq_true rfl) dX7_keep_4 ⟨Nat.le_of_ble_eq_true rfl, Nat.le_of_ble_eq_true rfl⟩ (fun rr1 w1 H locs ww2 hP hD hS => ?_)
  obtain ⟨rfl, rfl⟩ := ww2
  have hP : va_P D vwCl [(h, .inr (7, [.int v, .ref hm, .ref hr, .ref he, .ref ht, .ref hs, .ref ha, .ref hte, .ref hab, .ref hd, .ref hp, .int bh])), (hm, .inr (5, [.ref am, .int (nI (tm.1))])), (am, .inl (k 0, 3000, .inl tm.2))] H := hP
  have hD : va_D A_0 [(h, .inr (7, [.int v, .ref hm, .ref hr, .ref he, .ref ht, .ref hs, .ref ha, .ref hte, .ref hab, .ref hd, .ref hp, .int bh])), (hm, .inr (5, [.ref am, .int (nI (tm.1))])), (am, .inl (k 0, 3000, .inl tm.2))] := hD
  refine W.cs (cells' := 0) (slots' := 0) rfl rfl ?_
  refine lv_istore_n (lv' := [(2, .int (nI (tm.1))), (0, .ref h), (1, .int n)]) hx_ hb_ dX7_keep_7 rfl hl (by decide) rfl (fun ls hl => ?_)
  refine lv_iload_n hx_ hb_ dX7_keep_8 rfl (lv_at hl 2 rfl) ?_
  refine lv_if_lt (tgt := 17) hx_ hb_ dX7_keep_9 (by decide) (fun cc3 => ?_) (fun cc3 => ?_)
  · skip
    refine lv_bipush (v := (-2)) hx_ hb_ dX7_keep_17 (by decide) ?_
    have eq1 : (nI (tm.1) : Int32) = nI ((zk_t tm n).1) := by simp [zk_r, zk_t, eq_true cc3]
    have eq2 : (tm.2 : Nat → Int32) = (zk_t tm n).2 := by simp [zk_r, zk_t, eq_true cc3]
    have eqr : ((-2) : Int32) = zk_r tm n := by simp [zk_r, zk_t, eq_true cc3]
    exact ct_iret C_0 (hP.sub [0, 1, 2] rfl) (hD.sub [0, 1, 2] (by decide) rfl) hS (Nat.le_of_ble_eq_true rfl) (Nat.le_of_ble_eq_true rfl) dX7_keep_19 (⟨eqr, congr (congrArg (fun (z1 : Int32) (z2 : Nat → Int32) => ([(h, .inr (7, [.int v, .ref hm, .ref hr, .ref he, .ref ht, .ref hs, .ref ha, .ref hte, .ref hab, .ref hd, .ref hp, .int bh])), (hm, .inr (5, [.ref am, .int z1])), (am, .inl (k 0, 3000, .inl z2))] : va_W)) eq1) eq2⟩)
  · skip
    refine lv_iload_n hx_ hb_ dX7_keep_12 rfl (lv_at hl 2 rfl) ?_
    refine lv_iload_n hx_ hb_ dX7_keep_13 rfl (lv_at hl 0 rfl) ?_
    refine lv_icmp_le (tgt := 20) hx_ hb_ dX7_keep_14 (by decide) (fun cc4 => ?_) (fun cc4 => ?_)
    · skip
      refine lv_aload_n hx_ hb_ dX7_keep_20 rfl (lv_at hl 1 rfl) ?_
      refine va_get (D := D) (ci := 7) (v := .ref hm) (C := RX7) (T := TX7) (N := 12) hx_ hb_ hts_ inM_X7 hown_ hK.1 hP 0 rfl rfl 1 (by decide) (hts_ _ (List.mem_cons_of_mem _ wa_f_X7_27)) (fun _ h9 => h9) rfl dX7_keep_21 ?_
      refine lv_iload_n hx_ hb_ dX7_keep_24 rfl (lv_at hl 2 rfl) ?_
      refine ct_Vv (wr := [(h, .inr (7, [.int v, .ref hm, .ref hr, .ref he, .ref ht, .ref hs, .ref ha, .ref hte, .ref hab, .ref hd, .ref hp, .int bh]))]) (rest := []) (As := [.int n]) ⟨hx_, hb_, hml_, hown_, hts_⟩ (k_X5_cut l D k hm am 3000 tm n ) (cwV 1 hts_ (gd_in (gw_V wa_m_X7_111 wa_y_X5_cut wa_s_X5_cut wa_i_X5 wa_k_X5_cut)) rfl rfl rfl (by decide +kernel) ⟨Nat.le_of_ble_eq_true rfl, Nat.le_of_ble_eq_true rfl⟩) hK hP hD hS hA [1, 2] [0] rfl rfl rfl rfl (by decide) 5 rfl rfl rfl hl.1 rfl rfl (Nat.le_of_ble_eq_true rfl) dX7_keep_25 ⟨Nat.le_of_ble_eq_true rfl, Nat.le_of_ble_eq_true rfl⟩ (fun w1 H locs ww6 hP hD hS => ?_)
      obtain rfl := ww6
      have hP : va_P D vwCl [(h, .inr (7, [.int v, .ref hm, .ref hr, .ref he, .ref ht, .ref hs, .ref ha, .ref hte, .ref hab, .ref hd, .ref hp, .int bh])), (hm, .inr (5, [.ref am, .int (nI ((rw_c n tm).1))])), (am, .inl (k 0, 3000, .inl ((rw_c n tm).2)))] H := hP
      have hD : va_D A_0 [(h, .inr (7, [.int v, .ref hm, .ref hr, .ref he, .ref ht, .ref hs, .ref ha, .ref hte, .ref hab, .ref hd, .ref hp, .int bh])), (hm, .inr (5, [.ref am, .int (nI ((rw_c n tm).1))])), (am, .inl (k 0, 3000, .inl ((rw_c n tm).2)))] := hD
      refine W.cs (cells' := 0) (slots' := 0) rfl rfl ?_
      refine lv_iload_n hx_ hb_ dX7_keep_28 rfl (lv_at hl 0 rfl) ?_
      have eq1 : (nI ((rw_c n tm).1) : Int32) = nI ((zk_t tm n).1) := by simp [zk_r, zk_t, eq_false cc3, eq_true cc4]
      have eq2 : ((rw_c n tm).2 : Nat → Int32) = (zk_t tm n).2 := by simp [zk_r, zk_t, eq_false cc3, eq_true cc4]
      have eqr : (nI (tm.1) : Int32) = zk_r tm n := by simp [zk_r, zk_t, eq_false cc3, eq_true cc4]
      exact ct_iret C_0 (hP.sub [0, 1, 2] rfl) (hD.sub [0, 1, 2] (by decide) rfl) hS (Nat.le_of_ble_eq_true rfl) (Nat.le_of_ble_eq_true rfl) dX7_keep_29 (⟨eqr, congr (congrArg (fun (z1 : Int32) (z2 : Nat → Int32) => ([(h, .inr (7, [.int v, .ref hm, .ref hr, .ref he, .ref ht, .ref hs, .ref ha, .ref hte, .ref hab, .ref hd, .ref hp, .int bh])), (hm, .inr (5, [.ref am, .int z1])), (am, .inl (k 0, 3000, .inl z2))] : va_W)) eq1) eq2⟩)
    · skip
      refine lv_bipush (v := (-2)) hx_ hb_ dX7_keep_17 (by decide) ?_
      have eq1 : (nI (tm.1) : Int32) = nI ((zk_t tm n).1) := by simp [zk_r, zk_t, eq_false cc3, eq_false cc4]
      have eq2 : (tm.2 : Nat → Int32) = (zk_t tm n).2 := by simp [zk_r, zk_t, eq_false cc3, eq_false cc4]
      have eqr : ((-2) : Int32) = zk_r tm n := by simp [zk_r, zk_t, eq_false cc3, eq_false cc4]
      exact ct_iret C_0 (hP.sub [0, 1, 2] rfl) (hD.sub [0, 1, 2] (by decide) rfl) hS (Nat.le_of_ble_eq_true rfl) (Nat.le_of_ble_eq_true rfl) dX7_keep_19 (⟨eqr, congr (congrArg (fun (z1 : Int32) (z2 : Nat → Int32) => ([(h, .inr (7, [.int v, .ref hm, .ref hr, .ref he, .ref ht, .ref hs, .ref ha, .ref hte, .ref hab, .ref hd, .ref hp, .int bh])), (hm, .inr (5, [.ref am, .int z1])), (am, .inl (k 0, 3000, .inl z2))] : va_W)) eq1) eq2⟩)
abbrev po_X7_sign (k : Nat → ClassId) (h : Nat) (v : Int32) (hm : Nat) (hr : Nat) (he : Nat) (ht : Nat) (hs : Nat) (ha : Nat) (hte : Nat) (hab : Nat) (hd : Nat) (hp : Nat) (bh : Int32) (ar : Nat) (tr : TT) (c : Int32) : Int32 → va_W → Prop := fun ans_ w1 => ans_ = zs_r tr c ∧ w1 = [(h, .inr (7, [.int v, .ref hm, .ref hr, .ref he, .ref ht, .ref hs, .ref ha, .ref hte, .ref hab, .ref hd, .ref hp, .int bh])), (hr, .inr (5, [.ref ar, .int (nI ((zs_t tr c).1))])), (ar, .inl (k 0, 1000, .inl ((zs_t tr c).2)))]
set_option maxHeartbeats 4000000 in
set_option maxRecDepth 100000 in
/-- sign -/
theorem k_X7_sign (l : Launch) (D : va_G) (k : Nat → ClassId) (h : Nat) (v : Int32) (hm : Nat) (hr : Nat) (he : Nat) (ht : Nat) (hs : Nat) (ha : Nat) (hte : Nat) (hab : Nat) (hd : Nat) (hp : Nat) (bh : Int32) (ar : Nat) (tr : TT) (c : Int32) (hr0 : tr.1 ≤ 1000) : ct_i l D (TY k) yX7_sign wsX7_sign ({ frames := 1, cells := 0, slots := 0, locals := 21 } : Room) [.ref h, .int c] [(h, .inr (7, [.int v, .ref hm, .ref hr, .ref he, .ref ht, .ref hs, .ref ha, .ref hte, .ref hab, .ref hd, .ref hp, .int bh])), (hr, .inr (5, [.ref ar, .int (nI (tr.1))])), (ar, .inl (k 0, 1000, .inl tr.2))] (po_X7_sign k h v hm hr he ht hs ha hte hab hd hp bh ar tr c) := by
  refine ct_i_of (cc := cX7_sign) (nL := 2) (rt := (some .int)) (by decide) rfl (Nat.le_of_ble_eq_true rfl) ?_
  intro p_ e_ s_0 m_0 below_ meth_ c_0 A_0 C_0 hP hK hD hS hA ls hl
  obtain ⟨hx_, hb_, hml_, hr_, hown_, hlk_, hnm_, hts_⟩ := id C_0
  have hl : lv_has ls 2 [(0, .ref h), (1, .int c)] := hl
  refine lv_iload_n hx_ hb_ dX7_sign_0 rfl (lv_at hl 1 rfl) ?_
  refine lv_iconst (v := (-1)) hx_ hb_ dX7_sign_1 (by decide) ?_
  refine lv_icmp_ne (tgt := 15) hx_ hb_ dX7_sign_2 (by decide) (fun cc1 => ?_) (fun cc1 => ?_)
  · skip
    refine lv_iload_n hx_ hb_ dX7_sign_15 rfl (lv_at hl 1 rfl) ?_
    refine ct_Si (wr := [(h, .inr (7, [.int v, .ref hm, .ref hr, .ref he, .ref ht, .ref hs, .ref ha, .ref hte, .ref hab, .ref hd, .ref hp, .int bh])), (hr, .inr (5, [.ref ar, .int (nI (tr.1))])), (ar, .inl (k 0, 1000, .inl tr.2))]) (rest := []) (As := [.int c]) ⟨hx_, hb_, hml_, hown_, hts_⟩ (k_X7_isSign l D k c ) (va_cwS 1 hts_ (gd_in (gw_S wa_m_X7_114 wa_t_X7_isSign wa_i_X7 wa_k_X7_isSign)) rfl rfl rfl (by decide +kernel) ⟨Nat.le_of_ble_eq_true rfl, Nat.le_of_ble_eq_true rfl⟩) hK hP hD hS hA [] [0, 1, 2] rfl rfl rfl rfl (by decide) hl.1 rfl rfl (Nat.le_of_ble_eq_true rfl) dX7_sign_16 ⟨Nat.le_of_ble_eq_true rfl, Nat.le_of_ble_eq_true rfl⟩ (fun rr2 w1 H locs ww3 hP hD hS => ?_)
    obtain ⟨rfl, rfl⟩ := ww3
    have hP : va_P D vwCl [(h, .inr (7, [.int v, .ref hm, .ref hr, .ref he, .ref ht, .ref hs, .ref ha, .ref hte, .ref hab, .ref hd, .ref hp, .int bh])), (hr, .inr (5, [.ref ar, .int (nI (tr.1))])), (ar, .inl (k 0, 1000, .inl tr.2))] H := hP
    have hD : va_D A_0 [(h, .inr (7, [.int v, .ref hm, .ref hr, .ref he, .ref ht, .ref hs, .ref ha, .ref hte, .ref hab, .ref hd, .ref hp, .int bh])), (hr, .inr (5, [.ref ar, .int (nI (tr.1))])), (ar, .inl (k 0, 1000, .inl tr.2))] := hD
    refine W.cs (cells' := 0) (slots' := 0) rfl rfl ?_
    refine lv_if_ne (tgt := 25) hx_ hb_ dX7_sign_19 (by decide) (fun cc4 => ?_) (fun cc4 => ?_)
    · skip
      refine lv_aload_n hx_ hb_ dX7_sign_25 rfl (lv_at hl 0 rfl) ?_
      refine va_get (D := D) (ci := 7) (v := .ref hr) (C := RX7) (T := TX7) (N := 12) hx_ hb_ hts_ inM_X7 hown_ hK.1 hP 0 rfl rfl 2 (by decide) (hts_ _ (List.mem_cons_of_mem _ wa_f_X7_31)) (fun _ h9 => h9) rfl dX7_sign_26 ?_
      refine lv_iload_n hx_ hb_ dX7_sign_29 rfl (lv_at hl 1 rfl) ?_
      refine ct_Vi (wr := [(h, .inr (7, [.int v, .ref hm, .ref hr, .ref he, .ref ht, .ref hs, .ref ha, .ref hte, .ref hab, .ref hd, .ref hp, .int bh]))]) (rest := []) (As := [.int c]) ⟨hx_, hb_, hml_, hown_, hts_⟩ (k_X5_add l D k hr ar 1000 tr c (by first | omega | assumption) (by first | omega | assumption)) (cwV 1 hts_ (gd_in (gw_V wa_m_X7_37 wa_y_X5_add wa_s_X5_add wa_i_X5 wa_k_X5_add)) rfl rfl rfl (by decide +kernel) ⟨Nat.le_of_ble_eq_true rfl, Nat.le_of_ble_eq_true rfl⟩) hK hP hD hS hA [1, 2] [0] rfl rfl rfl rfl (by decide) 5 rfl rfl rfl hl.1 rfl rfl (Nat.le_of_ble_eq_true rfl) dX7_sign_30 ⟨Nat.le_of_ble_eq_true rfl, Nat.le_of_ble_eq_true rfl⟩ (fun rr5 w1 H locs ww6 hP hD hS => ?_)
      obtain ⟨rfl, rfl⟩ := ww6
      have hP : va_P D vwCl [(h, .inr (7, [.int v, .ref hm, .ref hr, .ref he, .ref ht, .ref hs, .ref ha, .ref hte, .ref hab, .ref hd, .ref hp, .int bh])), (hr, .inr (5, [.ref ar, .int (nI ((rw_a 1000 c tr).1))])), (ar, .inl (k 0, 1000, .inl ((rw_a 1000 c tr).2)))] H := hP
      have hD : va_D A_0 [(h, .inr (7, [.int v, .ref hm, .ref hr, .ref he, .ref ht, .ref hs, .ref ha, .ref hte, .ref hab, .ref hd, .ref hp, .int bh])), (hr, .inr (5, [.ref ar, .int (nI ((rw_a 1000 c tr).1))])), (ar, .inl (k 0, 1000, .inl ((rw_a 1000 c tr).2)))] := hD
      refine W.cs (cells' := 0) (slots' := 0) rfl rfl ?_
      refine lv_if_eq (tgt := 46) hx_ hb_ dX7_sign_33 (by decide) (fun cc7 => ?_) (fun cc7 => ?_)
      · skip
        refine lv_bipush (v := (-4)) hx_ hb_ dX7_sign_46 (by decide) ?_
        have eq1 : (nI ((rw_a 1000 c tr).1) : Int32) = nI ((zs_t tr c).1) := by simp [zs_r, zs_t, eq_false cc1, eq_false cc4, eq_true cc7]
        have eq2 : ((rw_a 1000 c tr).2 : Nat → Int32) = (zs_t tr c).2 := by simp [zs_r, zs_t, eq_false cc1, eq_false cc4, eq_true cc7]
        have eqr : ((-4) : Int32) = zs_r tr c := by simp [zs_r, zs_t, eq_false cc1, eq_false cc4, eq_true cc7]
        exact ct_iret C_0 (hP.sub [0, 1, 2] rfl) (hD.sub [0, 1, 2] (by decide) rfl) hS (Nat.le_of_ble_eq_true rfl) (Nat.le_of_ble_eq_true rfl) dX7_sign_48 (⟨eqr, congr (congrArg (fun (z1 : Int32) (z2 : Nat → Int32) => ([(h, .inr (7, [.int v, .ref hm, .ref hr, .ref he, .ref ht, .ref hs, .ref ha, .ref hte, .ref hab, .ref hd, .ref hp, .int bh])), (hr, .inr (5, [.ref ar, .int z1])), (ar, .inl (k 0, 1000, .inl z2))] : va_W)) eq1) eq2⟩)
      · skip
        refine lv_aload_n hx_ hb_ dX7_sign_36 rfl (lv_at hl 0 rfl) ?_
        refine va_get (D := D) (ci := 7) (v := .ref hr) (C := RX7) (T := TX7) (N := 12) hx_ hb_ hts_ inM_X7 hown_ hK.1 hP 0 rfl rfl 2 (by decide) (hts_ _ (List.mem_cons_of_mem _ wa_f_X7_31)) (fun _ h9 => h9) rfl dX7_sign_37 ?_
        refine ct_Vi (wr := [(h, .inr (7, [.int v, .ref hm, .ref hr, .ref he, .ref ht, .ref hs, .ref ha, .ref hte, .ref hab, .ref hd, .ref hp, .int bh]))]) (rest := []) (As := []) ⟨hx_, hb_, hml_, hown_, hts_⟩ (k_X5_count l D k hr ar 1000 (rw_a 1000 c tr) ) (cwV 0 hts_ (gd_in (gw_V wa_m_X7_107 wa_y_X5_count wa_s_X5_count wa_i_X5 wa_k_X5_count)) rfl rfl rfl (by decide +kernel) ⟨Nat.le_of_ble_eq_true rfl, Nat.le_of_ble_eq_true rfl⟩) hK hP hD hS hA [1, 2] [0] rfl rfl rfl rfl (by decide) 5 rfl rfl rfl hl.1 rfl rfl (Nat.le_of_ble_eq_true rfl) dX7_sign_40 ⟨Nat.le_of_ble_eq_true rfl, Nat.le_of_ble_eq_true rfl⟩ (fun rr8 w1 H locs ww9 hP hD hS => ?_)
        obtain ⟨rfl, rfl⟩ := ww9
        have hP : va_P D vwCl [(h, .inr (7, [.int v, .ref hm, .ref hr, .ref he, .ref ht, .ref hs, .ref ha, .ref hte, .ref hab, .ref hd, .ref hp, .int bh])), (hr, .inr (5, [.ref ar, .int (nI ((rw_a 1000 c tr).1))])), (ar, .inl (k 0, 1000, .inl ((rw_a 1000 c tr).2)))] H := hP
        have hD : va_D A_0 [(h, .inr (7, [.int v, .ref hm, .ref hr, .ref he, .ref ht, .ref hs, .ref ha, .ref hte, .ref hab, .ref hd, .ref hp, .int bh])), (hr, .inr (5, [.ref ar, .int (nI ((rw_a 1000 c tr).1))])), (ar, .inl (k 0, 1000, .inl ((rw_a 1000 c tr).2)))] := hD
        refine W.cs (cells' := 0) (slots' := 0) rfl rfl ?_
        refine lv_goto (tgt := 48) hx_ hb_ dX7_sign_43 (by decide) ?_
        have eq1 : (nI ((rw_a 1000 c tr).1) : Int32) = nI ((zs_t tr c).1) := by simp [zs_r, zs_t, eq_false cc1, eq_false cc4, eq_false cc7]
        have eq2 : ((rw_a 1000 c tr).2 : Nat → Int32) = (zs_t tr c).2 := by simp [zs_r, zs_t, eq_false cc1, eq_false cc4, eq_false cc7]
        have eqr : (nI ((rw_a 1000 c tr).1) : Int32) = zs_r tr c := by simp [zs_r, zs_t, eq_false cc1, eq_false cc4, eq_false cc7]
        exact ct_iret C_0 (hP.sub [0, 1, 2] rfl) (hD.sub [0, 1, 2] (by decide) rfl) hS (Nat.le_of_ble_eq_true rfl) (Nat.le_of_ble_eq_true rfl) dX7_sign_48 (⟨eqr, congr (congrArg (fun (z1 : Int32) (z2 : Nat → Int32) => ([(h, .inr (7, [.int v, .ref hm, .ref hr, .ref he, .ref ht, .ref hs, .ref ha, .ref hte, .ref hab, .ref hd, .ref hp, .int bh])), (hr, .inr (5, [.ref ar, .int z1])), (ar, .inl (k 0, 1000, .inl z2))] : va_W)) eq1) eq2⟩)
    · skip
      refine lv_bipush (v := (-2)) hx_ hb_ dX7_sign_22 (by decide) ?_
      have eq1 : (nI (tr.1) : Int32) = nI ((zs_t tr c).1) := by simp [zs_r, zs_t, eq_false cc1, eq_true cc4]
      have eq2 : (tr.2 : Nat → Int32) = (zs_t tr c).2 := by simp [zs_r, zs_t, eq_false cc1, eq_true cc4]
      have eqr : ((-2) : Int32) = zs_r tr c := by simp [zs_r, zs_t, eq_false cc1, eq_true cc4]
      exact ct_iret C_0 (hP.sub [0, 1, 2] rfl) (hD.sub [0, 1, 2] (by decide) rfl) hS (Nat.le_of_ble_eq_true rfl) (Nat.le_of_ble_eq_true rfl) dX7_sign_24 (⟨eqr, congr (congrArg (fun (z1 : Int32) (z2 : Nat → Int32) => ([(h, .inr (7, [.int v, .ref hm, .ref hr, .ref he, .ref ht, .ref hs, .ref ha, .ref hte, .ref hab, .ref hd, .ref hp, .int bh])), (hr, .inr (5, [.ref ar, .int z1])), (ar, .inl (k 0, 1000, .inl z2))] : va_W)) eq1) eq2⟩)
  · skip
    refine lv_aload_n hx_ hb_ dX7_sign_5 rfl (lv_at hl 0 rfl) ?_
    refine va_get (D := D) (ci := 7) (v := .ref hr) (C := RX7) (T := TX7) (N := 12) hx_ hb_ hts_ inM_X7 hown_ hK.1 hP 0 rfl rfl 2 (by decide) (hts_ _ (List.mem_cons_of_mem _ wa_f_X7_31)) (fun _ h9 => h9) rfl dX7_sign_6 ?_
    refine lv_iconst (v := 0) hx_ hb_ dX7_sign_9 (by decide) ?_
    refine ct_Vv (wr := [(h, .inr (7, [.int v, .ref hm, .ref hr, .ref he, .ref ht, .ref hs, .ref ha, .ref hte, .ref hab, .ref hd, .ref hp, .int bh]))]) (rest := []) (As := [.int 0]) ⟨hx_, hb_, hml_, hown_, hts_⟩ (k_X5_cut l D k hr ar 1000 tr 0 ) (cwV 1 hts_ (gd_in (gw_V wa_m_X7_111 wa_y_X5_cut wa_s_X5_cut wa_i_X5 wa_k_X5_cut)) rfl rfl rfl (by decide +kernel) ⟨Nat.le_of_ble_eq_true rfl, Nat.le_of_ble_eq_true rfl⟩) hK hP hD hS hA [1, 2] [0] rfl rfl rfl rfl (by decide) 5 rfl rfl rfl hl.1 rfl rfl (Nat.le_of_ble_eq_true rfl) dX7_sign_10 ⟨Nat.le_of_ble_eq_true rfl, Nat.le_of_ble_eq_true rfl⟩ (fun w1 H locs ww11 hP hD hS => ?_)
    obtain rfl := ww11
    have hP : va_P D vwCl [(h, .inr (7, [.int v, .ref hm, .ref hr, .ref he, .ref ht, .ref hs, .ref ha, .ref hte, .ref hab, .ref hd, .ref hp, .int bh])), (hr, .inr (5, [.ref ar, .int (nI ((rw_c 0 tr).1))])), (ar, .inl (k 0, 1000, .inl ((rw_c 0 tr).2)))] H := hP
    have hD : va_D A_0 [(h, .inr (7, [.int v, .ref hm, .ref hr, .ref he, .ref ht, .ref hs, .ref ha, .ref hte, .ref hab, .ref hd, .ref hp, .int bh])), (hr, .inr (5, [.ref ar, .int (nI ((rw_c 0 tr).1))])), (ar, .inl (k 0, 1000, .inl ((rw_c 0 tr).2)))] := hD
    refine W.cs (cells' := 0) (slots' := 0) rfl rfl ?_
    refine lv_iconst (v := 0) hx_ hb_ dX7_sign_13 (by decide) ?_
    have eq1 : (nI ((rw_c 0 tr).1) : Int32) = nI ((zs_t tr c).1) := by simp [zs_r, zs_t, eq_true cc1]
    have eq2 : ((rw_c 0 tr).2 : Nat → Int32) = (zs_t tr c).2 := by simp [zs_r, zs_t, eq_true cc1]
    have eqr : (0 : Int32) = zs_r tr c := by simp [zs_r, zs_t, eq_true cc1]
    exact ct_iret C_0 (hP.sub [0, 1, 2] rfl) (hD.sub [0, 1, 2] (by decide) rfl) hS (Nat.le_of_ble_eq_true rfl) (Nat.le_of_ble_eq_true rfl) dX7_sign_14 (⟨eqr, congr (congrArg (fun (z1 : Int32) (z2 : Nat → Int32) => ([(h, .inr (7, [.int v, .ref hm, .ref hr, .ref he, .ref ht, .ref hs, .ref ha, .ref hte, .ref hab, .ref hd, .ref hp, .int bh])), (hr, .inr (5, [.ref ar, .int z1])), (ar, .inl (k 0, 1000, .inl z2))] : va_W)) eq1) eq2⟩)
abbrev po_X7_size (k : Nat → ClassId) (h : Nat) (v : Int32) (hm : Nat) (hr : Nat) (he : Nat) (ht : Nat) (hs : Nat) (ha : Nat) (hte : Nat) (hab : Nat) (hd : Nat) (hp : Nat) (bh : Int32) (ar : Nat) (tr : TT) : Int32 → va_W → Prop := fun ans_ w1 => ans_ = nI (tr.1) ∧ w1 = [(h, .inr (7, [.int v, .ref hm, .ref hr, .ref he, .ref ht, .ref hs, .ref ha, .ref hte, .ref hab, .ref hd, .ref hp, .int bh])), (hr, .inr (5, [.ref ar, .int (nI (tr.1))])), (ar, .inl (k 0, 1000, .inl tr.2))]
set_option maxHeartbeats 4000000 in
set_option maxRecDepth 100000 in
/-- size -/
theorem k_X7_size (l : Launch) (D : va_G) (k : Nat → ClassId) (h : Nat) (v : Int32) (hm : Nat) (hr : Nat) (he : Nat) (ht : Nat) (hs : Nat) (ha : Nat) (hte : Nat) (hab : Nat) (hd : Nat) (hp : Nat) (bh : Int32) (ar : Nat) (tr : TT)  : ct_i l D (TY k) yX7_size wsX7_size ({ frames := 1, cells := 0, slots := 0, locals := 20 } : Room) [.ref h] [(h, .inr (7, [.int v, .ref hm, .ref hr, .ref he, .ref ht, .ref hs, .ref ha, .ref hte, .ref hab, .ref hd, .ref hp, .int bh])), (hr, .inr (5, [.ref ar, .int (nI (tr.1))])), (ar, .inl (k 0, 1000, .inl tr.2))] (po_X7_size k h v hm hr he ht hs ha hte hab hd hp bh ar tr) := by
  refine ct_i_of (cc := cX7_size) (nL := 1) (rt := (some .int)) (by decide) rfl (Nat.le_of_ble_eq_true rfl) ?_
  intro p_ e_ s_0 m_0 below_ meth_ c_0 A_0 C_0 hP hK hD hS hA ls hl
  obtain ⟨hx_, hb_, hml_, hr_, hown_, hlk_, hnm_, hts_⟩ := id C_0
  have hl : lv_has ls 1 [(0, .ref h)] := hl
  refine lv_aload_n hx_ hb_ dX7_size_0 rfl (lv_at hl 0 rfl) ?_
  refine va_get (D := D) (ci := 7) (v := .ref hr) (C := RX7) (T := TX7) (N := 12) hx_ hb_ hts_ inM_X7 hown_ hK.1 hP 0 rfl rfl 2 (by decide) (hts_ _ (List.mem_cons_of_mem _ wa_f_X7_31)) (fun _ h9 => h9) rfl dX7_size_1 ?_
  refine ct_Vi (wr := [(h, .inr (7, [.int v, .ref hm, .ref hr, .ref he, .ref ht, .ref hs, .ref ha, .ref hte, .ref hab, .ref hd, .ref hp, .int bh]))]) (rest := []) (As := []) ⟨hx_, hb_, hml_, hown_, hts_⟩ (k_X5_count l D k hr ar 1000 tr ) (cwV 0 hts_ (gd_in (gw_V wa_m_X7_107 wa_y_X5_count wa_s_X5_count wa_i_X5 wa_k_X5_count)) rfl rfl rfl (by decide +kernel) ⟨Nat.le_of_ble_eq_true rfl, Nat.le_of_ble_eq_true rfl⟩) hK hP hD hS hA [1, 2] [0] rfl rfl rfl rfl (by decide) 5 rfl rfl rfl hl.1 rfl rfl (Nat.le_of_ble_eq_true rfl) dX7_size_4 ⟨Nat.le_of_ble_eq_true rfl, Nat.le_of_ble_eq_true rfl⟩ (fun rr1 w1 H locs ww2 hP hD hS => ?_)
  obtain ⟨rfl, rfl⟩ := ww2
  have hP : va_P D vwCl [(h, .inr (7, [.int v, .ref hm, .ref hr, .ref he, .ref ht, .ref hs, .ref ha, .ref hte, .ref hab, .ref hd, .ref hp, .int bh])), (hr, .inr (5, [.ref ar, .int (nI (tr.1))])), (ar, .inl (k 0, 1000, .inl tr.2))] H := hP
  have hD : va_D A_0 [(h, .inr (7, [.int v, .ref hm, .ref hr, .ref he, .ref ht, .ref hs, .ref ha, .ref hte, .ref hab, .ref hd, .ref hp, .int bh])), (hr, .inr (5, [.ref ar, .int (nI (tr.1))])), (ar, .inl (k 0, 1000, .inl tr.2))] := hD
  refine W.cs (cells' := 0) (slots' := 0) rfl rfl ?_
  exact ct_iret C_0 (hP.sub [0, 1, 2] rfl) (hD.sub [0, 1, 2] (by decide) rfl) hS (Nat.le_of_ble_eq_true rfl) (Nat.le_of_ble_eq_true rfl) dX7_size_7 (⟨rfl, rfl⟩)
abbrev po_X7_alphabet (k : Nat → ClassId) (h : Nat) (v : Int32) (hm : Nat) (hr : Nat) (he : Nat) (ht : Nat) (hs : Nat) (ha : Nat) (hte : Nat) (hab : Nat) (hd : Nat) (hp : Nat) (bh : Int32) (b : Nat) (g : Nat → Int32) (A1 : Int32) (M1 : Int32) (c : Int32) : Int32 → va_W → Prop := fun ans_ w1 => ans_ = za_r v g A1 M1 c ∧ w1 = [(h, .inr (7, [.int v, .ref hm, .ref hr, .ref he, .ref ht, .ref hs, .ref ha, .ref hte, .ref hab, .ref hd, .ref hp, .int bh])), (ha, .inr (1, [.int v, .ref b])), (b, .inl (k 0, 78, .inl (za_g v g A1 M1 c)))]
set_option maxHeartbeats 4000000 in
set_option maxRecDepth 100000 in
/-- alphabet -/
theorem k_X7_alphabet (l : Launch) (D : va_G) (k : Nat → ClassId) (h : Nat) (v : Int32) (hm : Nat) (hr : Nat) (he : Nat) (ht : Nat) (hs : Nat) (ha : Nat) (hte : Nat) (hab : Nat) (hd : Nat) (hp : Nat) (bh : Int32) (b : Nat) (g : Nat → Int32) (A1 : Int32) (M1 : Int32) (c : Int32)  : ct_i l D (TY k) yX7_alphabet wsX7_alphabet ({ frames := 3, cells := 0, slots := 0, locals := 68 } : Room) [.ref h, .int A1, .int M1, .int c] [(h, .inr (7, [.int v, .ref hm, .ref hr, .ref he, .ref ht, .ref hs, .ref ha, .ref hte, .ref hab, .ref hd, .ref hp, .int bh])), (ha, .inr (1, [.int v, .ref b])), (b, .inl (k 0, 78, .inl g))] (po_X7_alphabet k h v hm hr he ht hs ha hte hab hd hp bh b g A1 M1 c) := by
  refine ct_i_of (cc := cX7_alphabet) (nL := 4) (rt := (some .int)) (by decide) rfl (Nat.le_of_ble_eq_true rfl) ?_
  intro p_ e_ s_0 m_0 below_ meth_ c_0 A_0 C_0 hP hK hD hS hA ls hl
  obtain ⟨hx_, hb_, hml_, hr_, hown_, hlk_, hnm_, hts_⟩ := id C_0
  have hl : lv_has ls 4 [(0, .ref h), (1, .int A1), (2, .int M1), (3, .int c)] := hl
  refine lv_aload_n hx_ hb_ dX7_alphabet_0 rfl (lv_at hl 0 rfl) ?_
  refine va_get (D := D) (ci := 7) (v := .int v) (C := RX7) (T := TX7) (N := 12) hx_ hb_ hts_ inM_X7 hown_ hK.1 hP 0 rfl rfl 0 (by decide) (hts_ _ (List.mem_cons_of_mem _ wa_f_X7_18)) (fun _ h9 => h9) rfl dX7_alphabet_1 ?_
  refine lv_iconst (v := 5) hx_ hb_ dX7_alphabet_4 (by decide) ?_
  refine lv_icmp_ge (tgt := 11) hx_ hb_ dX7_alphabet_5 (by decide) (fun cc1 => ?_) (fun cc1 => ?_)
  · skip
    refine lv_aload_n hx_ hb_ dX7_alphabet_11 rfl (lv_at hl 0 rfl) ?_
    refine va_get (D := D) (ci := 7) (v := .ref ha) (C := RX7) (T := TX7) (N := 12) hx_ hb_ hts_ inM_X7 hown_ hK.1 hP 0 rfl rfl 6 (by decide) (hts_ _ (List.mem_cons_of_mem _ wa_f_X7_50)) (fun _ h9 => h9) rfl dX7_alphabet_12 ?_
    refine lv_iload_n hx_ hb_ dX7_alphabet_15 rfl (lv_at hl 1 rfl) ?_
    refine lv_iload_n hx_ hb_ dX7_alphabet_16 rfl (lv_at hl 2 rfl) ?_
    refine ct_Vi (wr := [(h, .inr (7, [.int v, .ref hm, .ref hr, .ref he, .ref ht, .ref hs, .ref ha, .ref hte, .ref hab, .ref hd, .ref hp, .int bh]))]) (rest := []) (As := [.int A1, .int M1]) ⟨hx_, hb_, hml_, hown_, hts_⟩ (k_X1_mayChange l D k ha b v g A1 M1 ) (cwV 2 hts_ (gd_in (gw_V wa_m_X7_117 wa_y_X1_mayChange wa_s_X1_mayChange wa_i_X1 wa_k_X1_mayChange)) rfl rfl rfl (by decide +kernel) ⟨Nat.le_of_ble_eq_true rfl, Nat.le_of_ble_eq_true rfl⟩) hK hP hD hS hA [1, 2] [0] rfl rfl rfl rfl (by decide) 1 rfl rfl rfl hl.1 rfl rfl (Nat.le_of_ble_eq_true rfl) dX7_alphabet_17 ⟨Nat.le_of_ble_eq_true rfl, Nat.le_of_ble_eq_true rfl⟩ (fun rr2 w1 H locs ww3 hP hD hS => ?_)
    obtain ⟨rfl, rfl⟩ := ww3
    have hP : va_P D vwCl [(h, .inr (7, [.int v, .ref hm, .ref hr, .ref he, .ref ht, .ref hs, .ref ha, .ref hte, .ref hab, .ref hd, .ref hp, .int bh])), (ha, .inr (1, [.int v, .ref b])), (b, .inl (k 0, 78, .inl g))] H := hP
    have hD : va_D A_0 [(h, .inr (7, [.int v, .ref hm, .ref hr, .ref he, .ref ht, .ref hs, .ref ha, .ref hte, .ref hab, .ref hd, .ref hp, .int bh])), (ha, .inr (1, [.int v, .ref b])), (b, .inl (k 0, 78, .inl g))] := hD
    refine W.cs (cells' := 0) (slots' := 0) rfl rfl ?_
    refine lv_if_ne (tgt := 25) hx_ hb_ dX7_alphabet_20 (by decide) (fun cc4 => ?_) (fun cc4 => ?_)
    · skip
      refine lv_iload_n hx_ hb_ dX7_alphabet_25 rfl (lv_at hl 3 rfl) ?_
      refine ct_Si (wr := [(h, .inr (7, [.int v, .ref hm, .ref hr, .ref he, .ref ht, .ref hs, .ref ha, .ref hte, .ref hab, .ref hd, .ref hp, .int bh])), (ha, .inr (1, [.int v, .ref b])), (b, .inl (k 0, 78, .inl g))]) (rest := []) (As := [.int c]) ⟨hx_, hb_, hml_, hown_, hts_⟩ (k_X7_isSign l D k c ) (va_cwS 1 hts_ (gd_in (gw_S wa_m_X7_114 wa_t_X7_isSign wa_i_X7 wa_k_X7_isSign)) rfl rfl rfl (by decide +kernel) ⟨Nat.le_of_ble_eq_true rfl, Nat.le_of_ble_eq_true rfl⟩) hK hP hD hS hA [] [0, 1, 2] rfl rfl rfl rfl (by decide) hl.1 rfl rfl (Nat.le_of_ble_eq_true rfl) dX7_alphabet_26 ⟨Nat.le_of_ble_eq_true rfl, Nat.le_of_ble_eq_true rfl⟩ (fun rr5 w1 H locs ww6 hP hD hS => ?_)
      obtain ⟨rfl, rfl⟩ := ww6
      have hP : va_P D vwCl [(h, .inr (7, [.int v, .ref hm, .ref hr, .ref he, .ref ht, .ref hs, .ref ha, .ref hte, .ref hab, .ref hd, .ref hp, .int bh])), (ha, .inr (1, [.int v, .ref b])), (b, .inl (k 0, 78, .inl g))] H := hP
      have hD : va_D A_0 [(h, .inr (7, [.int v, .ref hm, .ref hr, .ref he, .ref ht, .ref hs, .ref ha, .ref hte, .ref hab, .ref hd, .ref hp, .int bh])), (ha, .inr (1, [.int v, .ref b])), (b, .inl (k 0, 78, .inl g))] := hD
      refine W.cs (cells' := 0) (slots' := 0) rfl rfl ?_
      refine lv_if_ne (tgt := 35) hx_ hb_ dX7_alphabet_29 (by decide) (fun cc7 => ?_) (fun cc7 => ?_)
      · skip
        refine lv_aload_n hx_ hb_ dX7_alphabet_35 rfl (lv_at hl 0 rfl) ?_
        refine va_get (D := D) (ci := 7) (v := .ref ha) (C := RX7) (T := TX7) (N := 12) hx_ hb_ hts_ inM_X7 hown_ hK.1 hP 0 rfl rfl 6 (by decide) (hts_ _ (List.mem_cons_of_mem _ wa_f_X7_50)) (fun _ h9 => h9) rfl dX7_alphabet_36 ?_
        refine lv_iload_n hx_ hb_ dX7_alphabet_39 rfl (lv_at hl 1 rfl) ?_
        refine lv_iload_n hx_ hb_ dX7_alphabet_40 rfl (lv_at hl 2 rfl) ?_
        refine lv_iload_n hx_ hb_ dX7_alphabet_41 rfl (lv_at hl 3 rfl) ?_
        refine ct_Vi (wr := [(h, .inr (7, [.int v, .ref hm, .ref hr, .ref he, .ref ht, .ref hs, .ref ha, .ref hte, .ref hab, .ref hd, .ref hp, .int bh]))]) (rest := []) (As := [.int A1, .int M1, .int c]) ⟨hx_, hb_, hml_, hown_, hts_⟩ (k_X1_change l D k ha b v g A1 M1 c ) (cwV 3 hts_ (gd_in (gw_V wa_m_X7_121 wa_y_X1_change wa_s_X1_change wa_i_X1 wa_k_X1_change)) rfl rfl rfl (by decide +kernel) ⟨Nat.le_of_ble_eq_true rfl, Nat.le_of_ble_eq_true rfl⟩) hK hP hD hS hA [1, 2] [0] rfl rfl rfl rfl (by decide) 1 rfl rfl rfl hl.1 rfl rfl (Nat.le_of_ble_eq_true rfl) dX7_alphabet_42 ⟨Nat.le_of_ble_eq_true rfl, Nat.le_of_ble_eq_true rfl⟩ (fun rr8 w1 H locs ww9 hP hD hS => ?_)
        obtain ⟨rfl, rfl⟩ := ww9
        have hP : va_P D vwCl [(h, .inr (7, [.int v, .ref hm, .ref hr, .ref he, .ref ht, .ref hs, .ref ha, .ref hte, .ref hab, .ref hd, .ref hp, .int bh])), (ha, .inr (1, [.int v, .ref b])), (b, .inl (k 0, 78, .inl (al_chg g A1 M1 c)))] H := hP
        have hD : va_D A_0 [(h, .inr (7, [.int v, .ref hm, .ref hr, .ref he, .ref ht, .ref hs, .ref ha, .ref hte, .ref hab, .ref hd, .ref hp, .int bh])), (ha, .inr (1, [.int v, .ref b])), (b, .inl (k 0, 78, .inl (al_chg g A1 M1 c)))] := hD
        refine W.cs (cells' := 0) (slots' := 0) rfl rfl ?_
        have eq1 : (al_chg g A1 M1 c : Nat → Int32) = za_g v g A1 M1 c := by simp [za_r, za_g, eq_true cc1, eq_false cc4, eq_false cc7]
        have eqr : (al_old g A1 M1 : Int32) = za_r v g A1 M1 c := by simp [za_r, za_g, eq_true cc1, eq_false cc4, eq_false cc7]
        exact ct_iret C_0 (hP.sub [0, 1, 2] rfl) (hD.sub [0, 1, 2] (by decide) rfl) hS (Nat.le_of_ble_eq_true rfl) (Nat.le_of_ble_eq_true rfl) dX7_alphabet_45 (⟨eqr, congrArg (fun (z1 : Nat → Int32) => ([(h, .inr (7, [.int v, .ref hm, .ref hr, .ref he, .ref ht, .ref hs, .ref ha, .ref hte, .ref hab, .ref hd, .ref hp, .int bh])), (ha, .inr (1, [.int v, .ref b])), (b, .inl (k 0, 78, .inl z1))] : va_W)) eq1⟩)
      · skip
        refine lv_bipush (v := (-2)) hx_ hb_ dX7_alphabet_32 (by decide) ?_
        have eq1 : (g : Nat → Int32) = za_g v g A1 M1 c := by simp [za_r, za_g, eq_true cc1, eq_false cc4, eq_true cc7]
        have eqr : ((-2) : Int32) = za_r v g A1 M1 c := by simp [za_r, za_g, eq_true cc1, eq_false cc4, eq_true cc7]
        exact ct_iret C_0 (hP.sub [0, 1, 2] rfl) (hD.sub [0, 1, 2] (by decide) rfl) hS (Nat.le_of_ble_eq_true rfl) (Nat.le_of_ble_eq_true rfl) dX7_alphabet_34 (⟨eqr, congrArg (fun (z1 : Nat → Int32) => ([(h, .inr (7, [.int v, .ref hm, .ref hr, .ref he, .ref ht, .ref hs, .ref ha, .ref hte, .ref hab, .ref hd, .ref hp, .int bh])), (ha, .inr (1, [.int v, .ref b])), (b, .inl (k 0, 78, .inl z1))] : va_W)) eq1⟩)
    · skip
      refine lv_iconst (v := (-1)) hx_ hb_ dX7_alphabet_23 (by decide) ?_
      have eq1 : (g : Nat → Int32) = za_g v g A1 M1 c := by simp [za_r, za_g, eq_true cc1, eq_true cc4]
      have eqr : ((-1) : Int32) = za_r v g A1 M1 c := by simp [za_r, za_g, eq_true cc1, eq_true cc4]
      exact ct_iret C_0 (hP.sub [0, 1, 2] rfl) (hD.sub [0, 1, 2] (by decide) rfl) hS (Nat.le_of_ble_eq_true rfl) (Nat.le_of_ble_eq_true rfl) dX7_alphabet_24 (⟨eqr, congrArg (fun (z1 : Nat → Int32) => ([(h, .inr (7, [.int v, .ref hm, .ref hr, .ref he, .ref ht, .ref hs, .ref ha, .ref hte, .ref hab, .ref hd, .ref hp, .int bh])), (ha, .inr (1, [.int v, .ref b])), (b, .inl (k 0, 78, .inl z1))] : va_W)) eq1⟩)
  · skip
    refine lv_bipush (v := (-3)) hx_ hb_ dX7_alphabet_8 (by decide) ?_
    have eq1 : (g : Nat → Int32) = za_g v g A1 M1 c := by simp [za_r, za_g, eq_false cc1]
    have eqr : ((-3) : Int32) = za_r v g A1 M1 c := by simp [za_r, za_g, eq_false cc1]
    exact ct_iret C_0 (hP.sub [0, 1, 2] rfl) (hD.sub [0, 1, 2] (by decide) rfl) hS (Nat.le_of_ble_eq_true rfl) (Nat.le_of_ble_eq_true rfl) dX7_alphabet_10 (⟨eqr, congrArg (fun (z1 : Nat → Int32) => ([(h, .inr (7, [.int v, .ref hm, .ref hr, .ref he, .ref ht, .ref hs, .ref ha, .ref hte, .ref hab, .ref hd, .ref hp, .int bh])), (ha, .inr (1, [.int v, .ref b])), (b, .inl (k 0, 78, .inl z1))] : va_W)) eq1⟩)
abbrev po_X7_entry (k : Nat → ClassId) (h : Nat) (v : Int32) (hm : Nat) (hr : Nat) (he : Nat) (ht : Nat) (hs : Nat) (ha : Nat) (hte : Nat) (hab : Nat) (hd : Nat) (hp : Nat) (bh : Int32) (ae : Nat) (tE : TT) (i : Int32) (b1 : Int32) : Int32 → va_W → Prop := fun ans_ w1 => ans_ = ze_r tE i b1 ∧ w1 = [(h, .inr (7, [.int v, .ref hm, .ref hr, .ref he, .ref ht, .ref hs, .ref ha, .ref hte, .ref hab, .ref hd, .ref hp, .int bh])), (he, .inr (5, [.ref ae, .int (nI ((ze_t tE i b1).1))])), (ae, .inl (k 0, 96, .inl ((ze_t tE i b1).2)))]
set_option maxHeartbeats 4000000 in
set_option maxRecDepth 100000 in
/-- entry -/
theorem k_X7_entry (l : Launch) (D : va_G) (k : Nat → ClassId) (h : Nat) (v : Int32) (hm : Nat) (hr : Nat) (he : Nat) (ht : Nat) (hs : Nat) (ha : Nat) (hte : Nat) (hab : Nat) (hd : Nat) (hp : Nat) (bh : Int32) (ae : Nat) (tE : TT) (i : Int32) (b1 : Int32) (hE0 : tE.1 ≤ 96) : ct_i l D (TY k) yX7_entry wsX7_entry ({ frames := 2, cells := 0, slots := 0, locals := 44 } : Room) [.ref h, .int i, .int b1] [(h, .inr (7, [.int v, .ref hm, .ref hr, .ref he, .ref ht, .ref hs, .ref ha, .ref hte, .ref hab, .ref hd, .ref hp, .int bh])), (he, .inr (5, [.ref ae, .int (nI (tE.1))])), (ae, .inl (k 0, 96, .inl tE.2))] (po_X7_entry k h v hm hr he ht hs ha hte hab hd hp bh ae tE i b1) := by
  refine ct_i_of (cc := cX7_entry) (nL := 3) (rt := (some .int)) (by decide) rfl (Nat.le_of_ble_eq_true rfl) ?_
  intro p_ e_ s_0 m_0 below_ meth_ c_0 A_0 C_0 hP hK hD hS hA ls hl
  obtain ⟨hx_, hb_, hml_, hr_, hown_, hlk_, hnm_, hts_⟩ := id C_0
  have hl : lv_has ls 3 [(0, .ref h), (1, .int i), (2, .int b1)] := hl
  refine lv_aload_n hx_ hb_ dX7_entry_0 rfl (lv_at hl 0 rfl) ?_
  refine va_get (D := D) (ci := 7) (v := .ref he) (C := RX7) (T := TX7) (N := 12) hx_ hb_ hts_ inM_X7 hown_ hK.1 hP 0 rfl rfl 3 (by decide) (hts_ _ (List.mem_cons_of_mem _ wa_f_X7_34)) (fun _ h9 => h9) rfl dX7_entry_1 ?_
  refine lv_iload_n hx_ hb_ dX7_entry_4 rfl (lv_at hl 1 rfl) ?_
  refine ct_Vi (wr := [(h, .inr (7, [.int v, .ref hm, .ref hr, .ref he, .ref ht, .ref hs, .ref ha, .ref hte, .ref hab, .ref hd, .ref hp, .int bh]))]) (rest := []) (As := [.int i]) ⟨hx_, hb_, hml_, hown_, hts_⟩ (k_X5_has l D k he ae 96 tE i ) (cwV 1 hts_ (gd_in (gw_V wa_m_X7_97 wa_y_X5_has wa_s_X5_has wa_i_X5 wa_k_X5_has)) rfl rfl rfl (by decide +kernel) ⟨Nat.le_of_ble_eq_true rfl, Nat.le_of_ble_eq_true rfl⟩) hK hP hD hS hA [1, 2] [0] rfl rfl rfl rfl (by decide) 5 rfl rfl rfl hl.1 rfl rfl (Nat.le_of_ble_eq_true rfl) dX7_entry_5 ⟨Nat.le_of_ble_eq_true rfl, Nat.le_of_ble_eq_true rfl⟩ (fun rr1 w1 H locs ww2 hP hD hS => ?_)
  obtain ⟨rfl, rfl⟩ := ww2
  have hP : va_P D vwCl [(h, .inr (7, [.int v, .ref hm, .ref hr, .ref he, .ref ht, .ref hs, .ref ha, .ref hte, .ref hab, .ref hd, .ref hp, .int bh])), (he, .inr (5, [.ref ae, .int (nI (tE.1))])), (ae, .inl (k 0, 96, .inl tE.2))] H := hP
  have hD : va_D A_0 [(h, .inr (7, [.int v, .ref hm, .ref hr, .ref he, .ref ht, .ref hs, .ref ha, .ref hte, .ref hab, .ref hd, .ref hp, .int bh])), (he, .inr (5, [.ref ae, .int (nI (tE.1))])), (ae, .inl (k 0, 96, .inl tE.2))] := hD
  refine W.cs (cells' := 0) (slots' := 0) rfl rfl ?_
  refine lv_if_ne (tgt := 13) hx_ hb_ dX7_entry_8 (by decide) (fun cc3 => ?_) (fun cc3 => ?_)
  · skip
    refine lv_iload_n hx_ hb_ dX7_entry_13 rfl (lv_at hl 2 rfl) ?_
    refine lv_iconst (v := (-1)) hx_ hb_ dX7_entry_14 (by decide) ?_
    refine lv_icmp_lt (tgt := 25) hx_ hb_ dX7_entry_15 (by decide) (fun cc4 => ?_) (fun cc4 => ?_)
    · skip
      refine lv_bipush (v := (-2)) hx_ hb_ dX7_entry_25 (by decide) ?_
      have eq1 : (nI (tE.1) : Int32) = nI ((ze_t tE i b1).1) := by simp [ze_r, ze_t, eq_false cc3, eq_true cc4]
      have eq2 : (tE.2 : Nat → Int32) = (ze_t tE i b1).2 := by simp [ze_r, ze_t, eq_false cc3, eq_true cc4]
      have eqr : ((-2) : Int32) = ze_r tE i b1 := by simp [ze_r, ze_t, eq_false cc3, eq_true cc4]
      exact ct_iret C_0 (hP.sub [0, 1, 2] rfl) (hD.sub [0, 1, 2] (by decide) rfl) hS (Nat.le_of_ble_eq_true rfl) (Nat.le_of_ble_eq_true rfl) dX7_entry_27 (⟨eqr, congr (congrArg (fun (z1 : Int32) (z2 : Nat → Int32) => ([(h, .inr (7, [.int v, .ref hm, .ref hr, .ref he, .ref ht, .ref hs, .ref ha, .ref hte, .ref hab, .ref hd, .ref hp, .int bh])), (he, .inr (5, [.ref ae, .int z1])), (ae, .inl (k 0, 96, .inl z2))] : va_W)) eq1) eq2⟩)
    · skip
      refine lv_iload_n hx_ hb_ dX7_entry_18 rfl (lv_at hl 2 rfl) ?_
      refine lv_sipush (v := 3000) hx_ hb_ dX7_entry_19 (by decide) ?_
      refine lv_icmp_le (tgt := 28) hx_ hb_ dX7_entry_22 (by decide) (fun cc5 => ?_) (fun cc5 => ?_)
      · skip
        refine lv_aload_n hx_ hb_ dX7_entry_28 rfl (lv_at hl 0 rfl) ?_
        refine va_get (D := D) (ci := 7) (v := .ref he) (C := RX7) (T := TX7) (N := 12) hx_ hb_ hts_ inM_X7 hown_ hK.1 hP 0 rfl rfl 3 (by decide) (hts_ _ (List.mem_cons_of_mem _ wa_f_X7_34)) (fun _ h9 => h9) rfl dX7_entry_29 ?_
        refine lv_iload_n hx_ hb_ dX7_entry_32 rfl (lv_at hl 1 rfl) ?_
        refine lv_iload_n hx_ hb_ dX7_entry_33 rfl (lv_at hl 2 rfl) ?_
        refine ct_Vi (wr := [(h, .inr (7, [.int v, .ref hm, .ref hr, .ref he, .ref ht, .ref hs, .ref ha, .ref hte, .ref hab, .ref hd, .ref hp, .int bh]))]) (rest := []) (As := [.int i, .int b1]) ⟨hx_, hb_, hml_, hown_, hts_⟩ (k_X5_replace l D k he ae 96 tE i b1 (by first | omega | assumption) (by first | omega | assumption)) (cwV 2 hts_ (gd_in (gw_V wa_m_X7_104 wa_y_X5_replace wa_s_X5_replace wa_i_X5 wa_k_X5_replace)) rfl rfl rfl (by decide +kernel) ⟨Nat.le_of_ble_eq_true rfl, Nat.le_of_ble_eq_true rfl⟩) hK hP hD hS hA [1, 2] [0] rfl rfl rfl rfl (by decide) 5 rfl rfl rfl hl.1 rfl rfl (Nat.le_of_ble_eq_true rfl) dX7_entry_34 ⟨Nat.le_of_ble_eq_true rfl, Nat.le_of_ble_eq_true rfl⟩ (fun rr6 w1 H locs ww7 hP hD hS => ?_)
        obtain ⟨rfl, rfl⟩ := ww7
        have hP : va_P D vwCl [(h, .inr (7, [.int v, .ref hm, .ref hr, .ref he, .ref ht, .ref hs, .ref ha, .ref hte, .ref hab, .ref hd, .ref hp, .int bh])), (he, .inr (5, [.ref ae, .int (nI ((rw_r i b1 tE).1))])), (ae, .inl (k 0, 96, .inl ((rw_r i b1 tE).2)))] H := hP
        have hD : va_D A_0 [(h, .inr (7, [.int v, .ref hm, .ref hr, .ref he, .ref ht, .ref hs, .ref ha, .ref hte, .ref hab, .ref hd, .ref hp, .int bh])), (he, .inr (5, [.ref ae, .int (nI ((rw_r i b1 tE).1))])), (ae, .inl (k 0, 96, .inl ((rw_r i b1 tE).2)))] := hD
        refine W.cs (cells' := 0) (slots' := 0) rfl rfl ?_
        have eq1 : (nI ((rw_r i b1 tE).1) : Int32) = nI ((ze_t tE i b1).1) := by simp [ze_r, ze_t, eq_false cc3, eq_false cc4, eq_true cc5]
        have eq2 : ((rw_r i b1 tE).2 : Nat → Int32) = (ze_t tE i b1).2 := by simp [ze_r, ze_t, eq_false cc3, eq_false cc4, eq_true cc5]
        have eqr : (rw_get tE.1 tE.2 i : Int32) = ze_r tE i b1 := by simp [ze_r, ze_t, eq_false cc3, eq_false cc4, eq_true cc5]
        exact ct_iret C_0 (hP.sub [0, 1, 2] rfl) (hD.sub [0, 1, 2] (by decide) rfl) hS (Nat.le_of_ble_eq_true rfl) (Nat.le_of_ble_eq_true rfl) dX7_entry_37 (⟨eqr, congr (congrArg (fun (z1 : Int32) (z2 : Nat → Int32) => ([(h, .inr (7, [.int v, .ref hm, .ref hr, .ref he, .ref ht, .ref hs, .ref ha, .ref hte, .ref hab, .ref hd, .ref hp, .int bh])), (he, .inr (5, [.ref ae, .int z1])), (ae, .inl (k 0, 96, .inl z2))] : va_W)) eq1) eq2⟩)
      · skip
        refine lv_bipush (v := (-2)) hx_ hb_ dX7_entry_25 (by decide) ?_
        have eq1 : (nI (tE.1) : Int32) = nI ((ze_t tE i b1).1) := by simp [ze_r, ze_t, eq_false cc3, eq_false cc4, eq_false cc5]
        have eq2 : (tE.2 : Nat → Int32) = (ze_t tE i b1).2 := by simp [ze_r, ze_t, eq_false cc3, eq_false cc4, eq_false cc5]
        have eqr : ((-2) : Int32) = ze_r tE i b1 := by simp [ze_r, ze_t, eq_false cc3, eq_false cc4, eq_false cc5]
        exact ct_iret C_0 (hP.sub [0, 1, 2] rfl) (hD.sub [0, 1, 2] (by decide) rfl) hS (Nat.le_of_ble_eq_true rfl) (Nat.le_of_ble_eq_true rfl) dX7_entry_27 (⟨eqr, congr (congrArg (fun (z1 : Int32) (z2 : Nat → Int32) => ([(h, .inr (7, [.int v, .ref hm, .ref hr, .ref he, .ref ht, .ref hs, .ref ha, .ref hte, .ref hab, .ref hd, .ref hp, .int bh])), (he, .inr (5, [.ref ae, .int z1])), (ae, .inl (k 0, 96, .inl z2))] : va_W)) eq1) eq2⟩)
  · skip
    refine lv_iconst (v := (-1)) hx_ hb_ dX7_entry_11 (by decide) ?_
    have eq1 : (nI (tE.1) : Int32) = nI ((ze_t tE i b1).1) := by simp [ze_r, ze_t, eq_true cc3]
    have eq2 : (tE.2 : Nat → Int32) = (ze_t tE i b1).2 := by simp [ze_r, ze_t, eq_true cc3]
    have eqr : ((-1) : Int32) = ze_r tE i b1 := by simp [ze_r, ze_t, eq_true cc3]
    exact ct_iret C_0 (hP.sub [0, 1, 2] rfl) (hD.sub [0, 1, 2] (by decide) rfl) hS (Nat.le_of_ble_eq_true rfl) (Nat.le_of_ble_eq_true rfl) dX7_entry_12 (⟨eqr, congr (congrArg (fun (z1 : Int32) (z2 : Nat → Int32) => ([(h, .inr (7, [.int v, .ref hm, .ref hr, .ref he, .ref ht, .ref hs, .ref ha, .ref hte, .ref hab, .ref hd, .ref hp, .int bh])), (he, .inr (5, [.ref ae, .int z1])), (ae, .inl (k 0, 96, .inl z2))] : va_W)) eq1) eq2⟩)
abbrev po_X7_words (k : Nat → ClassId) (h : Nat) (v : Int32) (hm : Nat) (hr : Nat) (he : Nat) (ht : Nat) (hs : Nat) (ha : Nat) (hte : Nat) (hab : Nat) (hd : Nat) (hp : Nat) (bh : Int32) (ln : Nat) (wa : Nat) (hf : Nat) (cn : Nat) : Int32 → va_W → Prop := fun ans_ w1 => ans_ = nI cn ∧ w1 = [(h, .inr (7, [.int v, .ref hm, .ref hr, .ref he, .ref ht, .ref hs, .ref ha, .ref hte, .ref hab, .ref hd, .ref hp, .int bh])), (hd, .inr (2, [.ref ha, .int (nI ln), .ref wa, .ref hf, .int (nI cn)]))]
set_option maxHeartbeats 4000000 in
set_option maxRecDepth 100000 in
/-- words -/
theorem k_X7_words (l : Launch) (D : va_G) (k : Nat → ClassId) (h : Nat) (v : Int32) (hm : Nat) (hr : Nat) (he : Nat) (ht : Nat) (hs : Nat) (ha : Nat) (hte : Nat) (hab : Nat) (hd : Nat) (hp : Nat) (bh : Int32) (ln : Nat) (wa : Nat) (hf : Nat) (cn : Nat)  : ct_i l D (TY k) yX7_words wsX7_words ({ frames := 1, cells := 0, slots := 0, locals := 20 } : Room) [.ref h] [(h, .inr (7, [.int v, .ref hm, .ref hr, .ref he, .ref ht, .ref hs, .ref ha, .ref hte, .ref hab, .ref hd, .ref hp, .int bh])), (hd, .inr (2, [.ref ha, .int (nI ln), .ref wa, .ref hf, .int (nI cn)]))] (po_X7_words k h v hm hr he ht hs ha hte hab hd hp bh ln wa hf cn) := by
  refine ct_i_of (cc := cX7_words) (nL := 1) (rt := (some .int)) (by decide) rfl (Nat.le_of_ble_eq_true rfl) ?_
  intro p_ e_ s_0 m_0 below_ meth_ c_0 A_0 C_0 hP hK hD hS hA ls hl
  obtain ⟨hx_, hb_, hml_, hr_, hown_, hlk_, hnm_, hts_⟩ := id C_0
  have hl : lv_has ls 1 [(0, .ref h)] := hl
  refine lv_aload_n hx_ hb_ dX7_words_0 rfl (lv_at hl 0 rfl) ?_
  refine va_get (D := D) (ci := 7) (v := .ref hd) (C := RX7) (T := TX7) (N := 12) hx_ hb_ hts_ inM_X7 hown_ hK.1 hP 0 rfl rfl 9 (by decide) (hts_ _ (List.mem_cons_of_mem _ wa_f_X7_77)) (fun _ h9 => h9) rfl dX7_words_1 ?_
  refine ct_Vi (wr := [(h, .inr (7, [.int v, .ref hm, .ref hr, .ref he, .ref ht, .ref hs, .ref ha, .ref hte, .ref hab, .ref hd, .ref hp, .int bh]))]) (rest := []) (As := []) ⟨hx_, hb_, hml_, hown_, hts_⟩ (k_X2_count l D k hd ha ln wa hf cn ) (cwV 0 hts_ (gd_in (gw_V wa_m_X7_155 wa_y_X2_count wa_s_X2_count wa_i_X2 wa_k_X2_count)) rfl rfl rfl (by decide +kernel) ⟨Nat.le_of_ble_eq_true rfl, Nat.le_of_ble_eq_true rfl⟩) hK hP hD hS hA [1] [0] rfl rfl rfl rfl (by decide) 2 rfl rfl rfl hl.1 rfl rfl (Nat.le_of_ble_eq_true rfl) dX7_words_4 ⟨Nat.le_of_ble_eq_true rfl, Nat.le_of_ble_eq_true rfl⟩ (fun rr1 w1 H locs ww2 hP hD hS => ?_)
  obtain ⟨rfl, rfl⟩ := ww2
  have hP : va_P D vwCl [(h, .inr (7, [.int v, .ref hm, .ref hr, .ref he, .ref ht, .ref hs, .ref ha, .ref hte, .ref hab, .ref hd, .ref hp, .int bh])), (hd, .inr (2, [.ref ha, .int (nI ln), .ref wa, .ref hf, .int (nI cn)]))] H := hP
  have hD : va_D A_0 [(h, .inr (7, [.int v, .ref hm, .ref hr, .ref he, .ref ht, .ref hs, .ref ha, .ref hte, .ref hab, .ref hd, .ref hp, .int bh])), (hd, .inr (2, [.ref ha, .int (nI ln), .ref wa, .ref hf, .int (nI cn)]))] := hD
  refine W.cs (cells' := 0) (slots' := 0) rfl rfl ?_
  exact ct_iret C_0 (hP.sub [0, 1] rfl) (hD.sub [0, 1] (by decide) rfl) hS (Nat.le_of_ble_eq_true rfl) (Nat.le_of_ble_eq_true rfl) dX7_words_7 (⟨rfl, rfl⟩)
abbrev po_X7_wordByte (k : Nat → ClassId) (h : Nat) (v : Int32) (hm : Nat) (hr : Nat) (he : Nat) (ht : Nat) (hs : Nat) (ha : Nat) (hte : Nat) (hab : Nat) (hd : Nat) (hp : Nat) (bh : Int32) (ln : Nat) (wa : Nat) (hf : Nat) (cn : Nat) (ws : Nat → Int64) (k1 : Int32) (i : Int32) : Int32 → va_W → Prop := fun ans_ w1 => ans_ = by_of ws ln cn k1 i ∧ w1 = [(h, .inr (7, [.int v, .ref hm, .ref hr, .ref he, .ref ht, .ref hs, .ref ha, .ref hte, .ref hab, .ref hd, .ref hp, .int bh])), (hd, .inr (2, [.ref ha, .int (nI ln), .ref wa, .ref hf, .int (nI cn)])), (wa, .inl (k 1, 40, .inr (.inl ws)))]
set_option maxHeartbeats 4000000 in
set_option maxRecDepth 100000 in
/-- wordByte -/
theorem k_X7_wordByte (l : Launch) (D : va_G) (k : Nat → ClassId) (h : Nat) (v : Int32) (hm : Nat) (hr : Nat) (he : Nat) (ht : Nat) (hs : Nat) (ha : Nat) (hte : Nat) (hab : Nat) (hd : Nat) (hp : Nat) (bh : Int32) (ln : Nat) (wa : Nat) (hf : Nat) (cn : Nat) (ws : Nat → Int64) (k1 : Int32) (i : Int32) (hcn : cn ≤ 40) (hln : ln ≤ 9) : ct_i l D (TY k) yX7_wordByte wsX7_wordByte ({ frames := 1, cells := 0, slots := 0, locals := 25 } : Room) [.ref h, .int k1, .int i] [(h, .inr (7, [.int v, .ref hm, .ref hr, .ref he, .ref ht, .ref hs, .ref ha, .ref hte, .ref hab, .ref hd, .ref hp, .int bh])), (hd, .inr (2, [.ref ha, .int (nI ln), .ref wa, .ref hf, .int (nI cn)])), (wa, .inl (k 1, 40, .inr (.inl ws)))] (po_X7_wordByte k h v hm hr he ht hs ha hte hab hd hp bh ln wa hf cn ws k1 i) := by
  refine ct_i_of (cc := cX7_wordByte) (nL := 3) (rt := (some .int)) (by decide) rfl (Nat.le_of_ble_eq_true rfl) ?_
  intro p_ e_ s_0 m_0 below_ meth_ c_0 A_0 C_0 hP hK hD hS hA ls hl
  obtain ⟨hx_, hb_, hml_, hr_, hown_, hlk_, hnm_, hts_⟩ := id C_0
  have hl : lv_has ls 3 [(0, .ref h), (1, .int k1), (2, .int i)] := hl
  refine lv_aload_n hx_ hb_ dX7_wordByte_0 rfl (lv_at hl 0 rfl) ?_
  refine va_get (D := D) (ci := 7) (v := .ref hd) (C := RX7) (T := TX7) (N := 12) hx_ hb_ hts_ inM_X7 hown_ hK.1 hP 0 rfl rfl 9 (by decide) (hts_ _ (List.mem_cons_of_mem _ wa_f_X7_77)) (fun _ h9 => h9) rfl dX7_wordByte_1 ?_
  refine lv_iload_n hx_ hb_ dX7_wordByte_4 rfl (lv_at hl 1 rfl) ?_
  refine lv_iload_n hx_ hb_ dX7_wordByte_5 rfl (lv_at hl 2 rfl) ?_
  refine ct_Vi (wr := [(h, .inr (7, [.int v, .ref hm, .ref hr, .ref he, .ref ht, .ref hs, .ref ha, .ref hte, .ref hab, .ref hd, .ref hp, .int bh]))]) (rest := []) (As := [.int k1, .int i]) ⟨hx_, hb_, hml_, hown_, hts_⟩ (k_X2_byteOf l D k hd ha ln wa hf cn ws k1 i (by omega) (by omega)) (cwV 2 hts_ (gd_in (gw_V wa_m_X7_152 wa_y_X2_byteOf wa_s_X2_byteOf wa_i_X2 wa_k_X2_byteOf)) rfl rfl rfl (by decide +kernel) ⟨Nat.le_of_ble_eq_true rfl, Nat.le_of_ble_eq_true rfl⟩) hK hP hD hS hA [1, 2] [0] rfl rfl rfl rfl (by decide) 2 rfl rfl rfl hl.1 rfl rfl (Nat.le_of_ble_eq_true rfl) dX7_wordByte_6 ⟨Nat.le_of_ble_eq_true rfl, Nat.le_of_ble_eq_true rfl⟩ (fun rr1 w1 H locs ww2 hP hD hS => ?_)
  obtain ⟨rfl, rfl⟩ := ww2
  have hP : va_P D vwCl [(h, .inr (7, [.int v, .ref hm, .ref hr, .ref he, .ref ht, .ref hs, .ref ha, .ref hte, .ref hab, .ref hd, .ref hp, .int bh])), (hd, .inr (2, [.ref ha, .int (nI ln), .ref wa, .ref hf, .int (nI cn)])), (wa, .inl (k 1, 40, .inr (.inl ws)))] H := hP
  have hD : va_D A_0 [(h, .inr (7, [.int v, .ref hm, .ref hr, .ref he, .ref ht, .ref hs, .ref ha, .ref hte, .ref hab, .ref hd, .ref hp, .int bh])), (hd, .inr (2, [.ref ha, .int (nI ln), .ref wa, .ref hf, .int (nI cn)])), (wa, .inl (k 1, 40, .inr (.inl ws)))] := hD
  refine W.cs (cells' := 0) (slots' := 0) rfl rfl ?_
  exact ct_iret C_0 (hP.sub [0, 1, 2] rfl) (hD.sub [0, 1, 2] (by decide) rfl) hS (Nat.le_of_ble_eq_true rfl) (Nat.le_of_ble_eq_true rfl) dX7_wordByte_9 (⟨rfl, rfl⟩)
abbrev po_X7_word (k : Nat → ClassId) (h : Nat) (v : Int32) (hm : Nat) (hr : Nat) (he : Nat) (ht : Nat) (hs : Nat) (ha : Nat) (hte : Nat) (hab : Nat) (hd : Nat) (hp : Nat) (bh : Int32) (ln : Nat) (wa : Nat) (hf : Nat) (cn : Nat) (ws : Nat → Int64) (af : Nat) (tf : TT) (ar : Nat) (tr : TT) (b : Nat) (g : Nat → Int32) : Int32 → va_W → Prop := fun ans_ w1 => ans_ = di_num ws (wo_w v g tr 0 ln 0 tr.1 tf) cn ∧ w1 = [(h, .inr (7, [.int v, .ref hm, .ref hr, .ref he, .ref ht, .ref hs, .ref ha, .ref hte, .ref hab, .ref hd, .ref hp, .int bh])), (hd, .inr (2, [.ref ha, .int (nI ln), .ref wa, .ref hf, .int (nI (di_cn ws (wo_w v g tr 0 ln 0 tr.1 tf) cn))])), (wa, .inl (k 1, 40, .inr (.inl (di_ws ws (wo_w v g tr 0 ln 0 tr.1 tf) cn)))), (hf, .inr (5, [.ref af, .int (nI ((wo_f v g tr 0 ln 0 tr.1 tf).1))])), (af, .inl (k 0, 12, .inl ((wo_f v g tr 0 ln 0 tr.1 tf).2))), (hr, .inr (5, [.ref ar, .int (nI (tr.1))])), (ar, .inl (k 0, 1000, .inl tr.2)), (ha, .inr (1, [.int v, .ref b])), (b, .inl (k 0, 78, .inl g))]
set_option maxHeartbeats 4000000 in
set_option maxRecDepth 100000 in
/-- word -/
theorem k_X7_word (l : Launch) (D : va_G) (k : Nat → ClassId) (h : Nat) (v : Int32) (hm : Nat) (hr : Nat) (he : Nat) (ht : Nat) (hs : Nat) (ha : Nat) (hte : Nat) (hab : Nat) (hd : Nat) (hp : Nat) (bh : Int32) (ln : Nat) (wa : Nat) (hf : Nat) (cn : Nat) (ws : Nat → Int64) (af : Nat) (tf : TT) (ar : Nat) (tr : TT) (b : Nat) (g : Nat → Int32) (hcn : cn ≤ 40) (hln : ln ≤ 9) (hf0 : tf.1 ≤ 12) (hr0 : tr.1 ≤ 1000) : ct_i l D (TY k) yX7_word wsX7_word ({ frames := 4, cells := 0, slots := 0, locals := 93 } : Room) [.ref h] [(h, .inr (7, [.int v, .ref hm, .ref hr, .ref he, .ref ht, .ref hs, .ref ha, .ref hte, .ref hab, .ref hd, .ref hp, .int bh])), (hd, .inr (2, [.ref ha, .int (nI ln), .ref wa, .ref hf, .int (nI cn)])), (wa, .inl (k 1, 40, .inr (.inl ws))), (hf, .inr (5, [.ref af, .int (nI (tf.1))])), (af, .inl (k 0, 12, .inl tf.2)), (hr, .inr (5, [.ref ar, .int (nI (tr.1))])), (ar, .inl (k 0, 1000, .inl tr.2)), (ha, .inr (1, [.int v, .ref b])), (b, .inl (k 0, 78, .inl g))] (po_X7_word k h v hm hr he ht hs ha hte hab hd hp bh ln wa hf cn ws af tf ar tr b g) := by
  refine ct_i_of (cc := cX7_word) (nL := 1) (rt := (some .int)) (by decide) rfl (Nat.le_of_ble_eq_true rfl) ?_
  intro p_ e_ s_0 m_0 below_ meth_ c_0 A_0 C_0 hP hK hD hS hA ls hl
  obtain ⟨hx_, hb_, hml_, hr_, hown_, hlk_, hnm_, hts_⟩ := id C_0
  have hl : lv_has ls 1 [(0, .ref h)] := hl
  refine lv_aload_n hx_ hb_ dX7_word_0 rfl (lv_at hl 0 rfl) ?_
  refine va_get (D := D) (ci := 7) (v := .ref hd) (C := RX7) (T := TX7) (N := 12) hx_ hb_ hts_ inM_X7 hown_ hK.1 hP 0 rfl rfl 9 (by decide) (hts_ _ (List.mem_cons_of_mem _ wa_f_X7_77)) (fun _ h9 => h9) rfl dX7_word_1 ?_
  refine lv_aload_n hx_ hb_ dX7_word_4 rfl (lv_at hl 0 rfl) ?_
  refine va_get (D := D) (ci := 7) (v := .ref hd) (C := RX7) (T := TX7) (N := 12) hx_ hb_ hts_ inM_X7 hown_ hK.1 hP 0 rfl rfl 9 (by decide) (hts_ _ (List.mem_cons_of_mem _ wa_f_X7_77)) (fun _ h9 => h9) rfl dX7_word_5 ?_
  refine lv_aload_n hx_ hb_ dX7_word_8 rfl (lv_at hl 0 rfl) ?_
  refine va_get (D := D) (ci := 7) (v := .ref hr) (C := RX7) (T := TX7) (N := 12) hx_ hb_ hts_ inM_X7 hown_ hK.1 hP 0 rfl rfl 2 (by decide) (hts_ _ (List.mem_cons_of_mem _ wa_f_X7_31)) (fun _ h9 => h9) rfl dX7_word_9 ?_
  refine lv_iconst (v := 0) hx_ hb_ dX7_word_12 (by decide) ?_
  refine lv_aload_n hx_ hb_ dX7_word_13 rfl (lv_at hl 0 rfl) ?_
  refine va_get (D := D) (ci := 7) (v := .ref hr) (C := RX7) (T := TX7) (N := 12) hx_ hb_ hts_ inM_X7 hown_ hK.1 hP 0 rfl rfl 2 (by decide) (hts_ _ (List.mem_cons_of_mem _ wa_f_X7_31)) (fun _ h9 => h9) rfl dX7_word_14 ?_
  refine ct_Vi (wr := [(h, .inr (7, [.int v, .ref hm, .ref hr, .ref he, .ref ht, .ref hs, .ref ha, .ref hte, .ref hab, .ref hd, .ref hp, .int bh])), (hd, .inr (2, [.ref ha, .int (nI ln), .ref wa, .ref hf, .int (nI cn)])), (wa, .inl (k 1, 40, .inr (.inl ws))), (hf, .inr (5, [.ref af, .int (nI (tf.1))])), (af, .inl (k 0, 12, .inl tf.2)), (ha, .inr (1, [.int v, .ref b])), (b, .inl (k 0, 78, .inl g))]) (rest := [.int 0, .ref hr, .ref hd, .ref hd]) (As := []) ⟨hx_, hb_, hml_, hown_, hts_⟩ (k_X5_count l D k hr ar 1000 tr ) (cwV 0 hts_ (gd_in (gw_V wa_m_X7_107 wa_y_X5_count wa_s_X5_count wa_i_X5 wa_k_X5_count)) rfl rfl rfl (by decide +kernel) ⟨Nat.le_of_ble_eq_true rfl, Nat.le_of_ble_eq_true rfl⟩) hK hP hD hS hA [5, 6] [0, 1, 2, 3, 4, 7, 8] rfl rfl rfl rfl (by decide) 5 rfl rfl rfl hl.1 rfl rfl (Nat.le_of_ble_eq_true rfl) dX7_word_17 ⟨Nat.le_of_ble_eq_true rfl, Nat.le_of_ble_eq_true rfl⟩ (fun rr1 w1 H locs ww2 hP hD hS => ?_)
  obtain ⟨rfl, rfl⟩ := ww2
  have hP : va_P D vwCl [(h, .inr (7, [.int v, .ref hm, .ref hr, .ref he, .ref ht, .ref hs, .ref ha, .ref hte, .ref hab, .ref hd, .ref hp, .int bh])), (hd, .inr (2, [.ref ha, .int (nI ln), .ref wa, .ref hf, .int (nI cn)])), (wa, .inl (k 1, 40, .inr (.inl ws))), (hf, .inr (5, [.ref af, .int (nI (tf.1))])), (af, .inl (k 0, 12, .inl tf.2)), (ha, .inr (1, [.int v, .ref b])), (b, .inl (k 0, 78, .inl g)), (hr, .inr (5, [.ref ar, .int (nI (tr.1))])), (ar, .inl (k 0, 1000, .inl tr.2))] H := hP
  have hD : va_D A_0 [(h, .inr (7, [.int v, .ref hm, .ref hr, .ref he, .ref ht, .ref hs, .ref ha, .ref hte, .ref hab, .ref hd, .ref hp, .int bh])), (hd, .inr (2, [.ref ha, .int (nI ln), .ref wa, .ref hf, .int (nI cn)])), (wa, .inl (k 1, 40, .inr (.inl ws))), (hf, .inr (5, [.ref af, .int (nI (tf.1))])), (af, .inl (k 0, 12, .inl tf.2)), (ha, .inr (1, [.int v, .ref b])), (b, .inl (k 0, 78, .inl g)), (hr, .inr (5, [.ref ar, .int (nI (tr.1))])), (ar, .inl (k 0, 1000, .inl tr.2))] := hD
  refine W.cs (cells' := 0) (slots' := 0) rfl rfl ?_
  refine lv_iconst (v := 0) hx_ hb_ dX7_word_20 (by decide) ?_
  refine ct_Vl (wr := [(h, .inr (7, [.int v, .ref hm, .ref hr, .ref he, .ref ht, .ref hs, .ref ha, .ref hte, .ref hab, .ref hd, .ref hp, .int bh])), (wa, .inl (k 1, 40, .inr (.inl ws)))]) (rest := [.ref hd]) (As := [.ref hr, .int 0, .int (nI (tr.1)), .int 0]) ⟨hx_, hb_, hml_, hown_, hts_⟩ (k_X2_wordOf l D k hd ha ln wa hf cn af tf hr ar tr b v g 0 tr.1 0 (by first | omega | assumption) (by first | omega | assumption) (by first | omega | assumption) (by first | omega | assumption) (by first | omega | assumption)) (cwV 4 hts_ (gd_in (gw_V wa_m_X7_144 wa_y_X2_wordOf wa_s_X2_wordOf wa_i_X2 wa_k_X2_wordOf)) rfl rfl rfl (by decide +kernel) ⟨Nat.le_of_ble_eq_true rfl, Nat.le_of_ble_eq_true rfl⟩) hK hP hD hS hA [1, 3, 4, 7, 8, 5, 6] [0, 2] rfl rfl rfl rfl (by decide) 2 rfl rfl rfl hl.1 rfl rfl (Nat.le_of_ble_eq_true rfl) dX7_word_21 ⟨Nat.le_of_ble_eq_true rfl, Nat.le_of_ble_eq_true rfl⟩ (fun rr3 w1 H locs ww4 hP hD hS => ?_)
  obtain ⟨rfl, rfl⟩ := ww4
  have hP : va_P D vwCl [(h, .inr (7, [.int v, .ref hm, .ref hr, .ref he, .ref ht, .ref hs, .ref ha, .ref hte, .ref hab, .ref hd, .ref hp, .int bh])), (wa, .inl (k 1, 40, .inr (.inl ws))), (hd, .inr (2, [.ref ha, .int (nI ln), .ref wa, .ref hf, .int (nI cn)])), (hf, .inr (5, [.ref af, .int (nI ((wo_f v g tr 0 ln 0 tr.1 tf).1))])), (af, .inl (k 0, 12, .inl ((wo_f v g tr 0 ln 0 tr.1 tf).2))), (hr, .inr (5, [.ref ar, .int (nI (tr.1))])), (ar, .inl (k 0, 1000, .inl tr.2)), (ha, .inr (1, [.int v, .ref b])), (b, .inl (k 0, 78, .inl g))] H := hP
  have hD : va_D A_0 [(h, .inr (7, [.int v, .ref hm, .ref hr, .ref he, .ref ht, .ref hs, .ref ha, .ref hte, .ref hab, .ref hd, .ref hp, .int bh])), (wa, .inl (k 1, 40, .inr (.inl ws))), (hd, .inr (2, [.ref ha, .int (nI ln), .ref wa, .ref hf, .int (nI cn)])), (hf, .inr (5, [.ref af, .int (nI ((wo_f v g tr 0 ln 0 tr.1 tf).1))])), (af, .inl (k 0, 12, .inl ((wo_f v g tr 0 ln 0 tr.1 tf).2))), (hr, .inr (5, [.ref ar, .int (nI (tr.1))])), (ar, .inl (k 0, 1000, .inl tr.2)), (ha, .inr (1, [.int v, .ref b])), (b, .inl (k 0, 78, .inl g))] := hD
  refine W.cs (cells' := 0) (slots' := 0) rfl rfl ?_
  refine ct_Vi (wr := [(h, .inr (7, [.int v, .ref hm, .ref hr, .ref he, .ref ht, .ref hs, .ref ha, .ref hte, .ref hab, .ref hd, .ref hp, .int bh])), (hf, .inr (5, [.ref af, .int (nI ((wo_f v g tr 0 ln 0 tr.1 tf).1))])), (af, .inl (k 0, 12, .inl ((wo_f v g tr 0 ln 0 tr.1 tf).2))), (hr, .inr (5, [.ref ar, .int (nI (tr.1))])), (ar, .inl (k 0, 1000, .inl tr.2)), (ha, .inr (1, [.int v, .ref b])), (b, .inl (k 0, 78, .inl g))]) (rest := []) (As := [.long (wo_w v g tr 0 ln 0 tr.1 tf)]) ⟨hx_, hb_, hml_, hown_, hts_⟩ (k_X2_number l D k hd ha ln wa hf cn ws (wo_w v g tr 0 ln 0 tr.1 tf) (by first | omega | assumption)) (cwV 1 hts_ (gd_in (gw_V wa_m_X7_148 wa_y_X2_number wa_s_X2_number wa_i_X2 wa_k_X2_number)) rfl rfl rfl (by decide +kernel) ⟨Nat.le_of_ble_eq_true rfl, Nat.le_of_ble_eq_true rfl⟩) hK hP hD hS hA [2, 1] [0, 3, 4, 5, 6, 7, 8] rfl rfl rfl rfl (by decide) 2 rfl rfl rfl hl.1 rfl rfl (Nat.le_of_ble_eq_true rfl) dX7_word_24 ⟨Nat.le_of_ble_eq_true rfl, Nat.le_of_ble_eq_true rfl⟩ (fun rr5 w1 H locs ww6 hP hD hS => ?_)
  obtain ⟨rfl, rfl⟩ := ww6
  have hP : va_P D vwCl [(h, .inr (7, [.int v, .ref hm, .ref hr, .ref he, .ref ht, .ref hs, .ref ha, .ref hte, .ref hab, .ref hd, .ref hp, .int bh])), (hf, .inr (5, [.ref af, .int (nI ((wo_f v g tr 0 ln 0 tr.1 tf).1))])), (af, .inl (k 0, 12, .inl ((wo_f v g tr 0 ln 0 tr.1 tf).2))), (hr, .inr (5, [.ref ar, .int (nI (tr.1))])), (ar, .inl (k 0, 1000, .inl tr.2)), (ha, .inr (1, [.int v, .ref b])), (b, .inl (k 0, 78, .inl g)), (hd, .inr (2, [.ref ha, .int (nI ln), .ref wa, .ref hf, .int (nI (di_cn ws (wo_w v g tr 0 ln 0 tr.1 tf) cn))])), (wa, .inl (k 1, 40, .inr (.inl (di_ws ws (wo_w v g tr 0 ln 0 tr.1 tf) cn))))] H := hP
  have hD : va_D A_0 [(h, .inr (7, [.int v, .ref hm, .ref hr, .ref he, .ref ht, .ref hs, .ref ha, .ref hte, .ref hab, .ref hd, .ref hp, .int bh])), (hf, .inr (5, [.ref af, .int (nI ((wo_f v g tr 0 ln 0 tr.1 tf).1))])), (af, .inl (k 0, 12, .inl ((wo_f v g tr 0 ln 0 tr.1 tf).2))), (hr, .inr (5, [.ref ar, .int (nI (tr.1))])), (ar, .inl (k 0, 1000, .inl tr.2)), (ha, .inr (1, [.int v, .ref b])), (b, .inl (k 0, 78, .inl g)), (hd, .inr (2, [.ref ha, .int (nI ln), .ref wa, .ref hf, .int (nI (di_cn ws (wo_w v g tr 0 ln 0 tr.1 tf) cn))])), (wa, .inl (k 1, 40, .inr (.inl (di_ws ws (wo_w v g tr 0 ln 0 tr.1 tf) cn))))] := hD
  refine W.cs (cells' := 0) (slots' := 0) rfl rfl ?_
  exact ct_iret C_0 (hP.sub [0, 7, 8, 1, 2, 3, 4, 5, 6] rfl) (hD.sub [0, 7, 8, 1, 2, 3, 4, 5, 6] (by decide) rfl) hS (Nat.le_of_ble_eq_true rfl) (Nat.le_of_ble_eq_true rfl) dX7_word_27 (⟨rfl, rfl⟩)
abbrev po_X7_separator (k : Nat → ClassId) (h : Nat) (v : Int32) (hm : Nat) (hr : Nat) (he : Nat) (ht : Nat) (hs : Nat) (ha : Nat) (hte : Nat) (hab : Nat) (hd : Nat) (hp : Nat) (bh : Int32) (sa : Nat) (hpp : Nat) (hl_ : Nat) (hw : Nat) (s_ : Nat → Int32) (c : Int32) (bo : Int32) : Int32 → va_W → Prop := fun ans_ w1 => ans_ = zsep_r s_ c ∧ w1 = [(h, .inr (7, [.int v, .ref hm, .ref hr, .ref he, .ref ht, .ref hs, .ref ha, .ref hte, .ref hab, .ref hd, .ref hp, .int bh])), (hp, .inr (3, [.ref hd, .ref sa, .ref hpp, .ref hl_, .ref hw])), (sa, .inl (k 2, 1024, .inl (zsep_s s_ c bo)))]
set_option maxHeartbeats 4000000 in
set_option maxRecDepth 100000 in
/-- separator -/
theorem k_X7_separator (l : Launch) (D : va_G) (k : Nat → ClassId) (h : Nat) (v : Int32) (hm : Nat) (hr : Nat) (he : Nat) (ht : Nat) (hs : Nat) (ha : Nat) (hte : Nat) (hab : Nat) (hd : Nat) (hp : Nat) (bh : Int32) (sa : Nat) (hpp : Nat) (hl_ : Nat) (hw : Nat) (s_ : Nat → Int32) (c : Int32) (bo : Int32)  : ct_i l D (TY k) yX7_separator wsX7_separator ({ frames := 3, cells := 0, slots := 0, locals := 64 } : Room) [.ref h, .int c, .int bo] [(h, .inr (7, [.int v, .ref hm, .ref hr, .ref he, .ref ht, .ref hs, .ref ha, .ref hte, .ref hab, .ref hd, .ref hp, .int bh])), (hp, .inr (3, [.ref hd, .ref sa, .ref hpp, .ref hl_, .ref hw])), (sa, .inl (k 2, 1024, .inl s_))] (po_X7_separator k h v hm hr he ht hs ha hte hab hd hp bh sa hpp hl_ hw s_ c bo) := by
  refine ct_i_of (cc := cX7_separator) (nL := 3) (rt := (some .int)) (by decide) rfl (Nat.le_of_ble_eq_true rfl) ?_
  intro p_ e_ s_0 m_0 below_ meth_ c_0 A_0 C_0 hP hK hD hS hA ls hl
  obtain ⟨hx_, hb_, hml_, hr_, hown_, hlk_, hnm_, hts_⟩ := id C_0
  have hl : lv_has ls 3 [(0, .ref h), (1, .int c), (2, .int bo)] := hl
  refine lv_iload_n hx_ hb_ dX7_separator_0 rfl (lv_at hl 1 rfl) ?_
  refine ct_Si (wr := [(h, .inr (7, [.int v, .ref hm, .ref hr, .ref he, .ref ht, .ref hs, .ref ha, .ref hte, .ref hab, .ref hd, .ref hp, .int bh])), (hp, .inr (3, [.ref hd, .ref sa, .ref hpp, .ref hl_, .ref hw])), (sa, .inl (k 2, 1024, .inl s_))]) (rest := []) (As := [.int c]) ⟨hx_, hb_, hml_, hown_, hts_⟩ (k_X7_isSign l D k c ) (va_cwS 1 hts_ (gd_in (gw_S wa_m_X7_114 wa_t_X7_isSign wa_i_X7 wa_k_X7_isSign)) rfl rfl rfl (by decide +kernel) ⟨Nat.le_of_ble_eq_true rfl, Nat.le_of_ble_eq_true rfl⟩) hK hP hD hS hA [] [0, 1, 2] rfl rfl rfl rfl (by decide) hl.1 rfl rfl (Nat.le_of_ble_eq_true rfl) dX7_separator_1 ⟨Nat.le_of_ble_eq_true rfl, Nat.le_of_ble_eq_true rfl⟩ (fun rr1 w1 H locs ww2 hP hD hS => ?_)
  obtain ⟨rfl, rfl⟩ := ww2
  have hP : va_P D vwCl [(h, .inr (7, [.int v, .ref hm, .ref hr, .ref he, .ref ht, .ref hs, .ref ha, .ref hte, .ref hab, .ref hd, .ref hp, .int bh])), (hp, .inr (3, [.ref hd, .ref sa, .ref hpp, .ref hl_, .ref hw])), (sa, .inl (k 2, 1024, .inl s_))] H := hP
  have hD : va_D A_0 [(h, .inr (7, [.int v, .ref hm, .ref hr, .ref he, .ref ht, .ref hs, .ref ha, .ref hte, .ref hab, .ref hd, .ref hp, .int bh])), (hp, .inr (3, [.ref hd, .ref sa, .ref hpp, .ref hl_, .ref hw])), (sa, .inl (k 2, 1024, .inl s_))] := hD
  refine W.cs (cells' := 0) (slots' := 0) rfl rfl ?_
  refine lv_if_eq (tgt := 13) hx_ hb_ dX7_separator_4 (by decide) (fun cc3 => ?_) (fun cc3 => ?_)
  · skip
    refine lv_bipush (v := (-2)) hx_ hb_ dX7_separator_13 (by decide) ?_
    have eq1 : (s_ : Nat → Int32) = zsep_s s_ c bo := by simp [zsep_r, zsep_s, eq_true cc3]
    have eqr : ((-2) : Int32) = zsep_r s_ c := by simp [zsep_r, zsep_s, eq_true cc3]
    exact ct_iret C_0 (hP.sub [0, 1, 2] rfl) (hD.sub [0, 1, 2] (by decide) rfl) hS (Nat.le_of_ble_eq_true rfl) (Nat.le_of_ble_eq_true rfl) dX7_separator_15 (⟨eqr, congrArg (fun (z1 : Nat → Int32) => ([(h, .inr (7, [.int v, .ref hm, .ref hr, .ref he, .ref ht, .ref hs, .ref ha, .ref hte, .ref hab, .ref hd, .ref hp, .int bh])), (hp, .inr (3, [.ref hd, .ref sa, .ref hpp, .ref hl_, .ref hw])), (sa, .inl (k 2, 1024, .inl z1))] : va_W)) eq1⟩)
  · skip
    refine lv_iload_n hx_ hb_ dX7_separator_7 rfl (lv_at hl 1 rfl) ?_
    refine lv_bipush (v := 32) hx_ hb_ dX7_separator_8 (by decide) ?_
    refine lv_icmp_ne (tgt := 16) hx_ hb_ dX7_separator_10 (by decide) (fun cc4 => ?_) (fun cc4 => ?_)
    · skip
      refine lv_aload_n hx_ hb_ dX7_separator_16 rfl (lv_at hl 0 rfl) ?_
      refine va_get (D := D) (ci := 7) (v := .ref hp) (C := RX7) (T := TX7) (N := 12) hx_ hb_ hts_ inM_X7 hown_ hK.1 hP 0 rfl rfl 10 (by decide) (hts_ _ (List.mem_cons_of_mem _ wa_f_X7_86)) (fun _ h9 => h9) rfl dX7_separator_17 ?_
      refine lv_iload_n hx_ hb_ dX7_separator_20 rfl (lv_at hl 1 rfl) ?_
      refine lv_iload_n hx_ hb_ dX7_separator_21 rfl (lv_at hl 2 rfl) ?_
      refine ct_Vi (wr := [(h, .inr (7, [.int v, .ref hm, .ref hr, .ref he, .ref ht, .ref hs, .ref ha, .ref hte, .ref hab, .ref hd, .ref hp, .int bh]))]) (rest := []) (As := [.int c, .int bo]) ⟨hx_, hb_, hml_, hown_, hts_⟩ (k_X3_separate l D k hp hd sa hpp hl_ hw s_ c bo ) (cwV 2 hts_ (gd_in (gw_V wa_m_X7_156 wa_y_X3_separate wa_s_X3_separate wa_i_X3 wa_k_X3_separate)) rfl rfl rfl (by decide +kernel) ⟨Nat.le_of_ble_eq_true rfl, Nat.le_of_ble_eq_true rfl⟩) hK hP hD hS hA [1, 2] [0] rfl rfl rfl rfl (by decide) 3 rfl rfl rfl hl.1 rfl rfl (Nat.le_of_ble_eq_true rfl) dX7_separator_22 ⟨Nat.le_of_ble_eq_true rfl, Nat.le_of_ble_eq_true rfl⟩ (fun rr5 w1 H locs ww6 hP hD hS => ?_)
      obtain ⟨rfl, rfl⟩ := ww6
      have hP : va_P D vwCl [(h, .inr (7, [.int v, .ref hm, .ref hr, .ref he, .ref ht, .ref hs, .ref ha, .ref hte, .ref hab, .ref hd, .ref hp, .int bh])), (hp, .inr (3, [.ref hd, .ref sa, .ref hpp, .ref hl_, .ref hw])), (sa, .inl (k 2, 1024, .inl (pt_set s_ c bo)))] H := hP
      have hD : va_D A_0 [(h, .inr (7, [.int v, .ref hm, .ref hr, .ref he, .ref ht, .ref hs, .ref ha, .ref hte, .ref hab, .ref hd, .ref hp, .int bh])), (hp, .inr (3, [.ref hd, .ref sa, .ref hpp, .ref hl_, .ref hw])), (sa, .inl (k 2, 1024, .inl (pt_set s_ c bo)))] := hD
      refine W.cs (cells' := 0) (slots' := 0) rfl rfl ?_
      refine lv_if_eq (tgt := 32) hx_ hb_ dX7_separator_25 (by decide) (fun cc7 => ?_) (fun cc7 => ?_)
      · skip
        refine lv_iconst (v := 0) hx_ hb_ dX7_separator_32 (by decide) ?_
        have eq1 : (pt_set s_ c bo : Nat → Int32) = zsep_s s_ c bo := by simp [zsep_r, zsep_s, eq_false cc3, eq_false cc4, eq_true cc7]
        have eqr : (0 : Int32) = zsep_r s_ c := by simp [zsep_r, zsep_s, eq_false cc3, eq_false cc4, eq_true cc7]
        exact ct_iret C_0 (hP.sub [0, 1, 2] rfl) (hD.sub [0, 1, 2] (by decide) rfl) hS (Nat.le_of_ble_eq_true rfl) (Nat.le_of_ble_eq_true rfl) dX7_separator_33 (⟨eqr, congrArg (fun (z1 : Nat → Int32) => ([(h, .inr (7, [.int v, .ref hm, .ref hr, .ref he, .ref ht, .ref hs, .ref ha, .ref hte, .ref hab, .ref hd, .ref hp, .int bh])), (hp, .inr (3, [.ref hd, .ref sa, .ref hpp, .ref hl_, .ref hw])), (sa, .inl (k 2, 1024, .inl z1))] : va_W)) eq1⟩)
      · skip
        refine lv_iconst (v := 1) hx_ hb_ dX7_separator_28 (by decide) ?_
        refine lv_goto (tgt := 33) hx_ hb_ dX7_separator_29 (by decide) ?_
        have eq1 : (pt_set s_ c bo : Nat → Int32) = zsep_s s_ c bo := by simp [zsep_r, zsep_s, eq_false cc3, eq_false cc4, eq_false cc7]
        have eqr : (1 : Int32) = zsep_r s_ c := by simp [zsep_r, zsep_s, eq_false cc3, eq_false cc4, eq_false cc7]
        exact ct_iret C_0 (hP.sub [0, 1, 2] rfl) (hD.sub [0, 1, 2] (by decide) rfl) hS (Nat.le_of_ble_eq_true rfl) (Nat.le_of_ble_eq_true rfl) dX7_separator_33 (⟨eqr, congrArg (fun (z1 : Nat → Int32) => ([(h, .inr (7, [.int v, .ref hm, .ref hr, .ref he, .ref ht, .ref hs, .ref ha, .ref hte, .ref hab, .ref hd, .ref hp, .int bh])), (hp, .inr (3, [.ref hd, .ref sa, .ref hpp, .ref hl_, .ref hw])), (sa, .inl (k 2, 1024, .inl z1))] : va_W)) eq1⟩)
    · skip
      refine lv_bipush (v := (-2)) hx_ hb_ dX7_separator_13 (by decide) ?_
      have eq1 : (s_ : Nat → Int32) = zsep_s s_ c bo := by simp [zsep_r, zsep_s, eq_false cc3, eq_true cc4]
      have eqr : ((-2) : Int32) = zsep_r s_ c := by simp [zsep_r, zsep_s, eq_false cc3, eq_true cc4]
      exact ct_iret C_0 (hP.sub [0, 1, 2] rfl) (hD.sub [0, 1, 2] (by decide) rfl) hS (Nat.le_of_ble_eq_true rfl) (Nat.le_of_ble_eq_true rfl) dX7_separator_15 (⟨eqr, congrArg (fun (z1 : Nat → Int32) => ([(h, .inr (7, [.int v, .ref hm, .ref hr, .ref he, .ref ht, .ref hs, .ref ha, .ref hte, .ref hab, .ref hd, .ref hp, .int bh])), (hp, .inr (3, [.ref hd, .ref sa, .ref hpp, .ref hl_, .ref hw])), (sa, .inl (k 2, 1024, .inl z1))] : va_W)) eq1⟩)
abbrev po_X7_token (k : Nat → ClassId) (h : Nat) (v : Int32) (hm : Nat) (hr : Nat) (he : Nat) (ht : Nat) (hs : Nat) (ha : Nat) (hte : Nat) (hab : Nat) (hd : Nat) (hp : Nat) (bh : Int32) (sa : Nat) (hpp : Nat) (hl_ : Nat) (hw : Nat) (ap : Nat) (al_ : Nat) (aw : Nat) (z : PZ) (k1 : Int32) (w : Int32) : Int32 → va_W → Prop := fun ans_ w1 => ans_ = tk_val z k1 w ∧ w1 = [(h, .inr (7, [.int v, .ref hm, .ref hr, .ref he, .ref ht, .ref hs, .ref ha, .ref hte, .ref hab, .ref hd, .ref hp, .int bh])), (hp, .inr (3, [.ref hd, .ref sa, .ref hpp, .ref hl_, .ref hw])), (hpp, .inr (5, [.ref ap, .int (nI (z.1.1))])), (ap, .inl (k 0, 1000, .inl z.1.2)), (hl_, .inr (5, [.ref al_, .int (nI (z.2.1.1))])), (al_, .inl (k 0, 1000, .inl z.2.1.2)), (hw, .inr (5, [.ref aw, .int (nI (z.2.2.1.1))])), (aw, .inl (k 0, 1000, .inl z.2.2.1.2))]
set_option maxHeartbeats 4000000 in
set_option maxRecDepth 100000 in
/-- token -/
theorem k_X7_token (l : Launch) (D : va_G) (k : Nat → ClassId) (h : Nat) (v : Int32) (hm : Nat) (hr : Nat) (he : Nat) (ht : Nat) (hs : Nat) (ha : Nat) (hte : Nat) (hab : Nat) (hd : Nat) (hp : Nat) (bh : Int32) (sa : Nat) (hpp : Nat) (hl_ : Nat) (hw : Nat) (ap : Nat) (al_ : Nat) (aw : Nat) (z : PZ) (k1 : Int32) (w : Int32) (hz : PZok z) : ct_i l D (TY k) yX7_token wsX7_token ({ frames := 3, cells := 0, slots := 0, locals := 64 } : Room) [.ref h, .int k1, .int w] [(h, .inr (7, [.int v, .ref hm, .ref hr, .ref he, .ref ht, .ref hs, .ref ha, .ref hte, .ref hab, .ref hd, .ref hp, .int bh])), (hp, .inr (3, [.ref hd, .ref sa, .ref hpp, .ref hl_, .ref hw])), (hpp, .inr (5, [.ref ap, .int (nI (z.1.1))])), (ap, .inl (k 0, 1000, .inl z.1.2)), (hl_, .inr (5, [.ref al_, .int (nI (z.2.1.1))])), (al_, .inl (k 0, 1000, .inl z.2.1.2)), (hw, .inr (5, [.ref aw, .int (nI (z.2.2.1.1))])), (aw, .inl (k 0, 1000, .inl z.2.2.1.2))] (po_X7_token k h v hm hr he ht hs ha hte hab hd hp bh sa hpp hl_ hw ap al_ aw z k1 w) := by
  refine ct_i_of (cc := cX7_token) (nL := 3) (rt := (some .int)) (by decide) rfl (Nat.le_of_ble_eq_true rfl) ?_
  intro p_ e_ s_0 m_0 below_ meth_ c_0 A_0 C_0 hP hK hD hS hA ls hl
  obtain ⟨hx_, hb_, hml_, hr_, hown_, hlk_, hnm_, hts_⟩ := id C_0
  have hl : lv_has ls 3 [(0, .ref h), (1, .int k1), (2, .int w)] := hl
  refine lv_aload_n hx_ hb_ dX7_token_0 rfl (lv_at hl 0 rfl) ?_
  refine va_get (D := D) (ci := 7) (v := .ref hp) (C := RX7) (T := TX7) (N := 12) hx_ hb_ hts_ inM_X7 hown_ hK.1 hP 0 rfl rfl 10 (by decide) (hts_ _ (List.mem_cons_of_mem _ wa_f_X7_86)) (fun _ h9 => h9) rfl dX7_token_1 ?_
  refine lv_iload_n hx_ hb_ dX7_token_4 rfl (lv_at hl 1 rfl) ?_
  refine lv_iload_n hx_ hb_ dX7_token_5 rfl (lv_at hl 2 rfl) ?_
  refine ct_Vi (wr := [(h, .inr (7, [.int v, .ref hm, .ref hr, .ref he, .ref ht, .ref hs, .ref ha, .ref hte, .ref hab, .ref hd, .ref hp, .int bh]))]) (rest := []) (As := [.int k1, .int w]) ⟨hx_, hb_, hml_, hown_, hts_⟩ (k_X3_tokenValue l D k hp hd sa hpp hl_ hw ap al_ aw z k1 w (by first | omega | assumption)) (cwV 2 hts_ (gd_in (gw_V wa_m_X7_164 wa_y_X3_tokenValue wa_s_X3_tokenValue wa_i_X3 wa_k_X3_tokenValue)) rfl rfl rfl (by decide +kernel) ⟨Nat.le_of_ble_eq_true rfl, Nat.le_of_ble_eq_true rfl⟩) hK hP hD hS hA [1, 2, 3, 4, 5, 6, 7] [0] rfl rfl rfl rfl (by decide) 3 rfl rfl rfl hl.1 rfl rfl (Nat.le_of_ble_eq_true rfl) dX7_token_6 ⟨Nat.le_of_ble_eq_true rfl, Nat.le_of_ble_eq_true rfl⟩ (fun rr1 w1 H locs ww2 hP hD hS => ?_)
  obtain ⟨rfl, rfl⟩ := ww2
  have hP : va_P D vwCl [(h, .inr (7, [.int v, .ref hm, .ref hr, .ref he, .ref ht, .ref hs, .ref ha, .ref hte, .ref hab, .ref hd, .ref hp, .int bh])), (hp, .inr (3, [.ref hd, .ref sa, .ref hpp, .ref hl_, .ref hw])), (hpp, .inr (5, [.ref ap, .int (nI (z.1.1))])), (ap, .inl (k 0, 1000, .inl z.1.2)), (hl_, .inr (5, [.ref al_, .int (nI (z.2.1.1))])), (al_, .inl (k 0, 1000, .inl z.2.1.2)), (hw, .inr (5, [.ref aw, .int (nI (z.2.2.1.1))])), (aw, .inl (k 0, 1000, .inl z.2.2.1.2))] H := hP
  have hD : va_D A_0 [(h, .inr (7, [.int v, .ref hm, .ref hr, .ref he, .ref ht, .ref hs, .ref ha, .ref hte, .ref hab, .ref hd, .ref hp, .int bh])), (hp, .inr (3, [.ref hd, .ref sa, .ref hpp, .ref hl_, .ref hw])), (hpp, .inr (5, [.ref ap, .int (nI (z.1.1))])), (ap, .inl (k 0, 1000, .inl z.1.2)), (hl_, .inr (5, [.ref al_, .int (nI (z.2.1.1))])), (al_, .inl (k 0, 1000, .inl z.2.1.2)), (hw, .inr (5, [.ref aw, .int (nI (z.2.2.1.1))])), (aw, .inl (k 0, 1000, .inl z.2.2.1.2))] := hD
  refine W.cs (cells' := 0) (slots' := 0) rfl rfl ?_
  exact ct_iret C_0 (hP.sub [0, 1, 2, 3, 4, 5, 6, 7] rfl) (hD.sub [0, 1, 2, 3, 4, 5, 6, 7] (by decide) rfl) hS (Nat.le_of_ble_eq_true rfl) (Nat.le_of_ble_eq_true rfl) dX7_token_9 (⟨rfl, rfl⟩)
abbrev po_X7_part (k : Nat → ClassId) (h : Nat) (v : Int32) (hm : Nat) (hr : Nat) (he : Nat) (ht : Nat) (hs : Nat) (ha : Nat) (hte : Nat) (hab : Nat) (hd : Nat) (hp : Nat) (bh : Int32) (sa : Nat) (hpp : Nat) (hl_ : Nat) (hw : Nat) (ap : Nat) (al_ : Nat) (aw : Nat) (z : PZ) (ln : Nat) (wa : Nat) (hf : Nat) (cn : Nat) (ws : Nat → Int64) (af : Nat) (ar : Nat) (tr : TT) (b : Nat) (g : Nat → Int32) (s_ : Nat → Int32) : Int32 → va_W → Prop := fun ans_ w1 => ans_ = nI ((pr v g ln cn ws s_ tr z).1.1) ∧ w1 = [(h, .inr (7, [.int v, .ref hm, .ref hr, .ref he, .ref ht, .ref hs, .ref ha, .ref hte, .ref hab, .ref hd, .ref hp, .int bh])), (hp, .inr (3, [.ref hd, .ref sa, .ref hpp, .ref hl_, .ref hw])), (hpp, .inr (5, [.ref ap, .int (nI (((pr v g ln cn ws s_ tr z).1).1))])), (ap, .inl (k 0, 1000, .inl (((pr v g ln cn ws s_ tr z).1).2))), (hl_, .inr (5, [.ref al_, .int (nI (((pr v g ln cn ws s_ tr z).2.1).1))])), (al_, .inl (k 0, 1000, .inl (((pr v g ln cn ws s_ tr z).2.1).2))), (hw, .inr (5, [.ref aw, .int (nI (((pr v g ln cn ws s_ tr z).2.2.1).1))])), (aw, .inl (k 0, 1000, .inl (((pr v g ln cn ws s_ tr z).2.2.1).2))), (hd, .inr (2, [.ref ha, .int (nI ln), .ref wa, .ref hf, .int (nI cn)])), (wa, .inl (k 1, 40, .inr (.inl ws))), (hf, .inr (5, [.ref af, .int (nI (((pr v g ln cn ws s_ tr z).2.2.2).1))])), (af, .inl (k 0, 12, .inl (((pr v g ln cn ws s_ tr z).2.2.2).2))), (hr, .inr (5, [.ref ar, .int (nI (tr.1))])), (ar, .inl (k 0, 1000, .inl tr.2)), (ha, .inr (1, [.int v, .ref b])), (b, .inl (k 0, 78, .inl g)), (sa, .inl (k 2, 1024, .inl s_))]
set_option maxHeartbeats 4000000 in
set_option maxRecDepth 100000 in
/-- part -/
theorem k_X7_part (l : Launch) (D : va_G) (k : Nat → ClassId) (h : Nat) (v : Int32) (hm : Nat) (hr : Nat) (he : Nat) (ht : Nat) (hs : Nat) (ha : Nat) (hte : Nat) (hab : Nat) (hd : Nat) (hp : Nat) (bh : Int32) (sa : Nat) (hpp : Nat) (hl_ : Nat) (hw : Nat) (ap : Nat) (al_ : Nat) (aw : Nat) (z : PZ) (ln : Nat) (wa : Nat) (hf : Nat) (cn : Nat) (ws : Nat → Int64) (af : Nat) (ar : Nat) (tr : TT) (b : Nat) (g : Nat → Int32) (s_ : Nat → Int32) (hz : PZok z) (hcn : cn ≤ 40) (hln : ln ≤ 9) (hr0 : tr.1 ≤ 1000) : ct_i l D (TY k) yX7_part wsX7_part ({ frames := 6, cells := 0, slots := 0, locals := 140 } : Room) [.ref h] [(h, .inr (7, [.int v, .ref hm, .ref hr, .ref he, .ref ht, .ref hs, .ref ha, .ref hte, .ref hab, .ref hd, .ref hp, .int bh])), (hp, .inr (3, [.ref hd, .ref sa, .ref hpp, .ref hl_, .ref hw])), (hpp, .inr (5, [.ref ap, .int (nI (z.1.1))])), (ap, .inl (k 0, 1000, .inl z.1.2)), (hl_, .inr (5, [.ref al_, .int (nI (z.2.1.1))])), (al_, .inl (k 0, 1000, .inl z.2.1.2)), (hw, .inr (5, [.ref aw, .int (nI (z.2.2.1.1))])), (aw, .inl (k 0, 1000, .inl z.2.2.1.2)), (hd, .inr (2, [.ref ha, .int (nI ln), .ref wa, .ref hf, .int (nI cn)])), (wa, .inl (k 1, 40, .inr (.inl ws))), (hf, .inr (5, [.ref af, .int (nI (z.2.2.2.1))])), (af, .inl (k 0, 12, .inl z.2.2.2.2)), (hr, .inr (5, [.ref ar, .int (nI (tr.1))])), (ar, .inl (k 0, 1000, .inl tr.2)), (ha, .inr (1, [.int v, .ref b])), (b, .inl (k 0, 78, .inl g)), (sa, .inl (k 2, 1024, .inl s_))] (po_X7_part k h v hm hr he ht hs ha hte hab hd hp bh sa hpp hl_ hw ap al_ aw z ln wa hf cn ws af ar tr b g s_) := by
  refine ct_i_of (cc := cX7_part) (nL := 1) (rt := (some .int)) (by decide) rfl (Nat.le_of_ble_eq_true rfl) ?_
  intro p_ e_ s_0 m_0 below_ meth_ c_0 A_0 C_0 hP hK hD hS hA ls hl
  obtain ⟨hx_, hb_, hml_, hr_, hown_, hlk_, hnm_, hts_⟩ := id C_0
  have hl : lv_has ls 1 [(0, .ref h)] := hl
  refine lv_aload_n hx_ hb_ dX7_part_0 rfl (lv_at hl 0 rfl) ?_
  refine va_get (D := D) (ci := 7) (v := .ref hp) (C := RX7) (T := TX7) (N := 12) hx_ hb_ hts_ inM_X7 hown_ hK.1 hP 0 rfl rfl 10 (by decide) (hts_ _ (List.mem_cons_of_mem _ wa_f_X7_86)) (fun _ h9 => h9) rfl dX7_part_1 ?_
  refine lv_aload_n hx_ hb_ dX7_part_4 rfl (lv_at hl 0 rfl) ?_
  refine va_get (D := D) (ci := 7) (v := .ref hr) (C := RX7) (T := TX7) (N := 12) hx_ hb_ hts_ inM_X7 hown_ hK.1 hP 0 rfl rfl 2 (by decide) (hts_ _ (List.mem_cons_of_mem _ wa_f_X7_31)) (fun _ h9 => h9) rfl dX7_part_5 ?_
  refine ct_Vi (wr := [(h, .inr (7, [.int v, .ref hm, .ref hr, .ref he, .ref ht, .ref hs, .ref ha, .ref hte, .ref hab, .ref hd, .ref hp, .int bh]))]) (rest := []) (As := [.ref hr]) ⟨hx_, hb_, hml_, hown_, hts_⟩ (k_X3_partRow l D k hp hd sa hpp hl_ hw ap al_ aw z ha ln wa hf cn ws af hr ar tr b v g s_ (by first | omega | assumption) (by first | omega | assumption) (by first | omega | assumption) (by first | omega | assumption)) (cwV 1 hts_ (gd_in (gw_V wa_m_X7_160 wa_y_X3_partRow wa_s_X3_partRow wa_i_X3 wa_k_X3_partRow)) rfl rfl rfl (by decide +kernel) ⟨Nat.le_of_ble_eq_true rfl, Nat.le_of_ble_eq_true rfl⟩) hK hP hD hS hA [1, 2, 3, 4, 5, 6, 7, 8, 9, 10, 11, 12, 13, 14, 15, 16] [0] rfl rfl rfl rfl (by decide) 3 rfl rfl rfl hl.1 rfl rfl (Nat.le_of_ble_eq_true rfl) dX7_part_8 ⟨Nat.le_of_ble_eq_true rfl, Nat.le_of_ble_eq_true rfl⟩ (fun rr1 w1 H locs ww2 hP hD hS => ?_)
  obtain ⟨rfl, rfl⟩ := ww2
  have hP : va_P D vwCl [(h, .inr (7, [.int v, .ref hm, .ref hr, .ref he, .ref ht, .ref hs, .ref ha, .ref hte, .ref hab, .ref hd, .ref hp, .int bh])), (hp, .inr (3, [.ref hd, .ref sa, .ref hpp, .ref hl_, .ref hw])), (hpp, .inr (5, [.ref ap, .int (nI ((pr v g ln cn ws s_ tr z).1.1))])), (ap, .inl (k 0, 1000, .inl ((pr v g ln cn ws s_ tr z).1.2))), (hl_, .inr (5, [.ref al_, .int (nI ((pr v g ln cn ws s_ tr z).2.1.1))])), (al_, .inl (k 0, 1000, .inl ((pr v g ln cn ws s_ tr z).2.1.2))), (hw, .inr (5, [.ref aw, .int (nI ((pr v g ln cn ws s_ tr z).2.2.1.1))])), (aw, .inl (k 0, 1000, .inl ((pr v g ln cn ws s_ tr z).2.2.1.2))), (hd, .inr (2, [.ref ha, .int (nI ln), .ref wa, .ref hf, .int (nI cn)])), (wa, .inl (k 1, 40, .inr (.inl ws))), (hf, .inr (5, [.ref af, .int (nI ((pr v g ln cn ws s_ tr z).2.2.2.1))])), (af, .inl (k 0, 12, .inl ((pr v g ln cn ws s_ tr z).2.2.2.2))), (hr, .inr (5, [.ref ar, .int (nI (tr.1))])), (ar, .inl (k 0, 1000, .inl tr.2)), (ha, .inr (1, [.int v, .ref b])), (b, .inl (k 0, 78, .inl g)), (sa, .inl (k 2, 1024, .inl s_))] H := hP
  have hD : va_D A_0 [(h, .inr (7, [.int v, .ref hm, .ref hr, .ref he, .ref ht, .ref hs, .ref ha, .ref hte, .ref hab, .ref hd, .ref hp, .int bh])), (hp, .inr (3, [.ref hd, .ref sa, .ref hpp, .ref hl_, .ref hw])), (hpp, .inr (5, [.ref ap, .int (nI ((pr v g ln cn ws s_ tr z).1.1))])), (ap, .inl (k 0, 1000, .inl ((pr v g ln cn ws s_ tr z).1.2))), (hl_, .inr (5, [.ref al_, .int (nI ((pr v g ln cn ws s_ tr z).2.1.1))])), (al_, .inl (k 0, 1000, .inl ((pr v g ln cn ws s_ tr z).2.1.2))), (hw, .inr (5, [.ref aw, .int (nI ((pr v g ln cn ws s_ tr z).2.2.1.1))])), (aw, .inl (k 0, 1000, .inl ((pr v g ln cn ws s_ tr z).2.2.1.2))), (hd, .inr (2, [.ref ha, .int (nI ln), .ref wa, .ref hf, .int (nI cn)])), (wa, .inl (k 1, 40, .inr (.inl ws))), (hf, .inr (5, [.ref af, .int (nI ((pr v g ln cn ws s_ tr z).2.2.2.1))])), (af, .inl (k 0, 12, .inl ((pr v g ln cn ws s_ tr z).2.2.2.2))), (hr, .inr (5, [.ref ar, .int (nI (tr.1))])), (ar, .inl (k 0, 1000, .inl tr.2)), (ha, .inr (1, [.int v, .ref b])), (b, .inl (k 0, 78, .inl g)), (sa, .inl (k 2, 1024, .inl s_))] := hD
  refine W.cs (cells' := 0) (slots' := 0) rfl rfl ?_
  exact ct_iret C_0 (hP.sub [0, 1, 2, 3, 4, 5, 6, 7, 8, 9, 10, 11, 12, 13, 14, 15, 16] rfl) (hD.sub [0, 1, 2, 3, 4, 5, 6, 7, 8, 9, 10, 11, 12, 13, 14, 15, 16] (by decide) rfl) hS (Nat.le_of_ble_eq_true rfl) (Nat.le_of_ble_eq_true rfl) dX7_part_11 (⟨rfl, rfl⟩)
abbrev po_X7_tell (k : Nat → ClassId) (h : Nat) (v : Int32) (hm : Nat) (hr : Nat) (he : Nat) (ht : Nat) (hs : Nat) (ha : Nat) (hte : Nat) (hab : Nat) (hd : Nat) (hp : Nat) (bh : Int32) (hwr : Nat) (hbr : Nat) (am : Nat) (tm : TT) (ar : Nat) (tr : TT) (ae : Nat) (tE : TT) (at_ : Nat) (t : TT) (b : Nat) (g : Nat → Int32) (r : RS) (r0 : RS) (pl : Int32) : Int32 → va_W → Prop := fun ans_ w1 => ans_ = (zt v g tm tE pl bh tr t r r0).1 ∧ w1 = [(h, .inr (7, [.int v, .ref hm, .ref hr, .ref he, .ref ht, .ref hs, .ref ha, .ref hte, .ref hab, .ref hd, .ref hp, .int ((zt v g tm tE pl bh tr t r r0).2.1)])), (hte, .inr (6, [.ref hm, .ref he, .ref ht, .ref hwr, .ref hbr])), (hm, .inr (5, [.ref am, .int (nI (tm.1))])), (am, .inl (k 0, 3000, .inl tm.2)), (hr, .inr (5, [.ref ar, .int (nI (((zt v g tm tE pl bh tr t r r0).2.2.1).1))])), (ar, .inl (k 0, 1000, .inl (((zt v g tm tE pl bh tr t r r0).2.2.1).2))), (he, .inr (5, [.ref ae, .int (nI (tE.1))])), (ae, .inl (k 0, 96, .inl tE.2)), (ht, .inr (5, [.ref at_, .int (nI (((zt v g tm tE pl bh tr t r r0).2.2.2.1).1))])), (at_, .inl (k 0, 1000, .inl (((zt v g tm tE pl bh tr t r r0).2.2.2.1).2))), (hbr, .inr (4, [.int v, .ref ha, .int (((zt v g tm tE pl bh tr t r r0).2.2.2.2.1).1), .int (((zt v g tm tE pl bh tr t r r0).2.2.2.2.1).2.1), .int (((zt v g tm tE pl bh tr t r r0).2.2.2.2.1).2.2.1), .int (((zt v g tm tE pl bh tr t r r0).2.2.2.2.1).2.2.2)])), (hwr, .inr (4, [.int v, .ref ha, .int (((zt v g tm tE pl bh tr t r r0).2.2.2.2.2).1), .int (((zt v g tm tE pl bh tr t r r0).2.2.2.2.2).2.1), .int (((zt v g tm tE pl bh tr t r r0).2.2.2.2.2).2.2.1), .int (((zt v g tm tE pl bh tr t r r0).2.2.2.2.2).2.2.2)])), (ha, .inr (1, [.int v, .ref b])), (b, .inl (k 0, 78, .inl g))]
set_option maxHeartbeats 4000000 in
set_option maxRecDepth 100000 in
/-- tell -/
theorem k_X7_tell (l : Launch) (D : va_G) (k : Nat → ClassId) (h : Nat) (v : Int32) (hm : Nat) (hr : Nat) (he : Nat) (ht : Nat) (hs : Nat) (ha : Nat) (hte : Nat) (hab : Nat) (hd : Nat) (hp : Nat) (bh : Int32) (hwr : Nat) (hbr : Nat) (am : Nat) (tm : TT) (ar : Nat) (tr : TT) (ae : Nat) (tE : TT) (at_ : Nat) (t : TT) (b : Nat) (g : Nat → Int32) (r : RS) (r0 : RS) (pl : Int32) (hm0 : tm.1 ≤ 3000) (hr0 : tr.1 ≤ 1000) (hn : t.1 ≤ 1000) (hE0 : tE.1 ≤ 96) (hE : ∀ j, j < tE.1 → tE.2 j ≤ 3000) : ct_i l D (TY k) yX7_tell wsX7_tell ({ frames := 7, cells := 0, slots := 0, locals := 165 } : Room) [.ref h, .int pl] [(h, .inr (7, [.int v, .ref hm, .ref hr, .ref he, .ref ht, .ref hs, .ref ha, .ref hte, .ref hab, .ref hd, .ref hp, .int bh])), (hte, .inr (6, [.ref hm, .ref he, .ref ht, .ref hwr, .ref hbr])), (hm, .inr (5, [.ref am, .int (nI (tm.1))])), (am, .inl (k 0, 3000, .inl tm.2)), (hr, .inr (5, [.ref ar, .int (nI (tr.1))])), (ar, .inl (k 0, 1000, .inl tr.2)), (he, .inr (5, [.ref ae, .int (nI (tE.1))])), (ae, .inl (k 0, 96, .inl tE.2)), (ht, .inr (5, [.ref at_, .int (nI (t.1))])), (at_, .inl (k 0, 1000, .inl t.2)), (hbr, .inr (4, [.int v, .ref ha, .int r.1, .int r.2.1, .int r.2.2.1, .int r.2.2.2])), (hwr, .inr (4, [.int v, .ref ha, .int r0.1, .int r0.2.1, .int r0.2.2.1, .int r0.2.2.2])), (ha, .inr (1, [.int v, .ref b])), (b, .inl (k 0, 78, .inl g))] (po_X7_tell k h v hm hr he ht hs ha hte hab hd hp bh hwr hbr am tm ar tr ae tE at_ t b g r r0 pl) := by
  refine ct_i_of (cc := cX7_tell) (nL := 3) (rt := (some .int)) (by decide) rfl (Nat.le_of_ble_eq_true rfl) ?_
  intro p_ e_ s_0 m_0 below_ meth_ c_0 A_0 C_0 hP hK hD hS hA ls hl
  obtain ⟨hx_, hb_, hml_, hr_, hown_, hlk_, hnm_, hts_⟩ := id C_0
  have hl : lv_has ls 3 [(0, .ref h), (1, .int pl)] := hl
  refine lv_iload_n hx_ hb_ dX7_tell_0 rfl (lv_at hl 1 rfl) ?_
  refine lv_if_lt (tgt := 11) hx_ hb_ dX7_tell_1 (by decide) (fun cc1 => ?_) (fun cc1 => ?_)
  · skip
    refine lv_bipush (v := (-2)) hx_ hb_ dX7_tell_11 (by decide) ?_
    have eq1 : (bh : Int32) = (zt v g tm tE pl bh tr t r r0).2.1 := by simp [zt, zt_z, eq_true cc1]
    have eq2 : (nI (tr.1) : Int32) = nI ((zt v g tm tE pl bh tr t r r0).2.2.1.1) := by simp [zt, zt_z, eq_true cc1]
    have eq3 : (tr.2 : Nat → Int32) = (zt v g tm tE pl bh tr t r r0).2.2.1.2 := by simp [zt, zt_z, eq_true cc1]
    have eq4 : (nI (t.1) : Int32) = nI ((zt v g tm tE pl bh tr t r r0).2.2.2.1.1) := by simp [zt, zt_z, eq_true cc1]
    have eq5 : (t.2 : Nat → Int32) = (zt v g tm tE pl bh tr t r r0).2.2.2.1.2 := by simp [zt, zt_z, eq_true cc1]
    have eq6 : (r.1 : Int32) = (zt v g tm tE pl bh tr t r r0).2.2.2.2.1.1 := by simp [zt, zt_z, eq_true cc1]
    have eq7 : (r.2.1 : Int32) = (zt v g tm tE pl bh tr t r r0).2.2.2.2.1.2.1 := by simp [zt, zt_z, eq_true cc1]
    have eq8 : (r.2.2.1 : Int32) = (zt v g tm tE pl bh tr t r r0).2.2.2.2.1.2.2.1 := by simp [zt, zt_z, eq_true cc1]
    have eq9 : (r.2.2.2 : Int32) = (zt v g tm tE pl bh tr t r r0).2.2.2.2.1.2.2.2 := by simp [zt, zt_z, eq_true cc1]
    have eq10 : (r0.1 : Int32) = (zt v g tm tE pl bh tr t r r0).2.2.2.2.2.1 := by simp [zt, zt_z, eq_true cc1]
    have eq11 : (r0.2.1 : Int32) = (zt v g tm tE pl bh tr t r r0).2.2.2.2.2.2.1 := by simp [zt, zt_z, eq_true cc1]
    have eq12 : (r0.2.2.1 : Int32) = (zt v g tm tE pl bh tr t r r0).2.2.2.2.2.2.2.1 := by simp [zt, zt_z, eq_true cc1]
    have eq13 : (r0.2.2.2 : Int32) = (zt v g tm tE pl bh tr t r r0).2.2.2.2.2.2.2.2 := by simp [zt, zt_z, eq_true cc1]
    have eqr : ((-2) : Int32) = (zt v g tm tE pl bh tr t r r0).1 := by simp [zt, zt_z, eq_true cc1]
    exact ct_iret C_0 (hP.sub [0, 1, 2, 3, 4, 5, 6, 7, 8, 9, 10, 11, 12, 13] rfl) (hD.sub [0, 1, 2, 3, 4, 5, 6, 7, 8, 9, 10, 11, 12, 13] (by decide) rfl) hS (Nat.le_of_ble_eq_true rfl) (Nat.le_of_ble_eq_true rfl) dX7_tell_13 (⟨eqr, congr (congr (congr (congr (congr (congr (congr (congr (congr (congr (congr (congr (congrArg (fun (z1 : Int32) (z2 : Int32) (z3 : Nat → Int32) (z4 : Int32) (z5 : Nat → Int32) (z6 : Int32) (z7 : Int32) (z8 : Int32) (z9 : Int32) (z10 : Int32) (z11 : Int32) (z12 : Int32) (z13 : Int32) => ([(h, .inr (7, [.int v, .ref hm, .ref hr, .ref he, .ref ht, .ref hs, .ref ha, .ref hte, .ref hab, .ref hd, .ref hp, .int z1])), (hte, .inr (6, [.ref hm, .ref he, .ref ht, .ref hwr, .ref hbr])), (hm, .inr (5, [.ref am, .int (nI (tm.1))])), (am, .inl (k 0, 3000, .inl tm.2)), (hr, .inr (5, [.ref ar, .int z2])), (ar, .inl (k 0, 1000, .inl z3)), (he, .inr (5, [.ref ae, .int (nI (tE.1))])), (ae, .inl (k 0, 96, .inl tE.2)), (ht, .inr (5, [.ref at_, .int z4])), (at_, .inl (k 0, 1000, .inl z5)), (hbr, .inr (4, [.int v, .ref ha, .int z6, .int z7, .int z8, .int z9])), (hwr, .inr (4, [.int v, .ref ha, .int z10, .int z11, .int z12, .int z13])), (ha, .inr (1, [.int v, .ref b])), (b, .inl (k 0, 78, .inl g))] : va_W)) eq1) eq2) eq3) eq4) eq5) eq6) eq7) eq8) eq9) eq10) eq11) eq12) eq13⟩)
  · skip
    refine lv_iload_n hx_ hb_ dX7_tell_4 rfl (lv_at hl 1 rfl) ?_
    refine lv_sipush (v := 3000) hx_ hb_ dX7_tell_5 (by decide) ?_
    refine lv_icmp_le (tgt := 14) hx_ hb_ dX7_tell_8 (by decide) (fun cc2 => ?_) (fun cc2 => ?_)
    · skip
      refine lv_aload_n hx_ hb_ dX7_tell_14 rfl (lv_at hl 0 rfl) ?_
      refine va_get (D := D) (ci := 7) (v := .ref ht) (C := RX7) (T := TX7) (N := 12) hx_ hb_ hts_ inM_X7 hown_ hK.1 hP 0 rfl rfl 4 (by decide) (hts_ _ (List.mem_cons_of_mem _ wa_f_X7_41)) (fun _ h9 => h9) rfl dX7_tell_15 ?_
      refine lv_iconst (v := 0) hx_ hb_ dX7_tell_18 (by decide) ?_
      refine ct_Vv (wr := [(h, .inr (7, [.int v, .ref hm, .ref hr, .ref he, .ref ht, .ref hs, .ref ha, .ref hte, .ref hab, .ref hd, .ref hp, .int bh])), (hte, .inr (6, [.ref hm, .ref he, .ref ht, .ref hwr, .ref hbr])), (hm, .inr (5, [.ref am, .int (nI (tm.1))])), (am, .inl (k 0, 3000, .inl tm.2)), (hr, .inr (5, [.ref ar, .int (nI (tr.1))])), (ar, .inl (k 0, 1000, .inl tr.2)), (he, .inr (5, [.ref ae, .int (nI (tE.1))])), (ae, .inl (k 0, 96, .inl tE.2)), (hbr, .inr (4, [.int v, .ref ha, .int r.1, .int r.2.1, .int r.2.2.1, .int r.2.2.2])), (hwr, .inr (4, [.int v, .ref ha, .int r0.1, .int r0.2.1, .int r0.2.2.1, .int r0.2.2.2])), (ha, .inr (1, [.int v, .ref b])), (b, .inl (k 0, 78, .inl g))]) (rest := []) (As := [.int 0]) ⟨hx_, hb_, hml_, hown_, hts_⟩ (k_X5_cut l D k ht at_ 1000 t 0 ) (cwV 1 hts_ (gd_in (gw_V wa_m_X7_111 wa_y_X5_cut wa_s_X5_cut wa_i_X5 wa_k_X5_cut)) rfl rfl rfl (by decide +kernel) ⟨Nat.le_of_ble_eq_true rfl, Nat.le_of_ble_eq_true rfl⟩) hK hP hD hS hA [8, 9] [0, 1, 2, 3, 4, 5, 6, 7, 10, 11, 12, 13] rfl rfl rfl rfl (by decide) 5 rfl rfl rfl hl.1 rfl rfl (Nat.le_of_ble_eq_true rfl) dX7_tell_19 ⟨Nat.le_of_ble_eq_true rfl, Nat.le_of_ble_eq_true rfl⟩ (fun w1 H locs ww4 hP hD hS => ?_)
      obtain rfl := ww4
      have hP : va_P D vwCl [(h, .inr (7, [.int v, .ref hm, .ref hr, .ref he, .ref ht, .ref hs, .ref ha, .ref hte, .ref hab, .ref hd, .ref hp, .int bh])), (hte, .inr (6, [.ref hm, .ref he, .ref ht, .ref hwr, .ref hbr])), (hm, .inr (5, [.ref am, .int (nI (tm.1))])), (am, .inl (k 0, 3000, .inl tm.2)), (hr, .inr (5, [.ref ar, .int (nI (tr.1))])), (ar, .inl (k 0, 1000, .inl tr.2)), (he, .inr (5, [.ref ae, .int (nI (tE.1))])), (ae, .inl (k 0, 96, .inl tE.2)), (hbr, .inr (4, [.int v, .ref ha, .int r.1, .int r.2.1, .int r.2.2.1, .int r.2.2.2])), (hwr, .inr (4, [.int v, .ref ha, .int r0.1, .int r0.2.1, .int r0.2.2.1, .int r0.2.2.2])), (ha, .inr (1, [.int v, .ref b])), (b, .inl (k 0, 78, .inl g)), (ht, .inr (5, [.ref at_, .int (nI ((rw_c 0 t).1))])), (at_, .inl (k 0, 1000, .inl ((rw_c 0 t).2)))] H := hP
      have hD : va_D A_0 [(h, .inr (7, [.int v, .ref hm, .ref hr, .ref he, .ref ht, .ref hs, .ref ha, .ref hte, .ref hab, .ref hd, .ref hp, .int bh])), (hte, .inr (6, [.ref hm, .ref he, .ref ht, .ref hwr, .ref hbr])), (hm, .inr (5, [.ref am, .int (nI (tm.1))])), (am, .inl (k 0, 3000, .inl tm.2)), (hr, .inr (5, [.ref ar, .int (nI (tr.1))])), (ar, .inl (k 0, 1000, .inl tr.2)), (he, .inr (5, [.ref ae, .int (nI (tE.1))])), (ae, .inl (k 0, 96, .inl tE.2)), (hbr, .inr (4, [.int v, .ref ha, .int r.1, .int r.2.1, .int r.2.2.1, .int r.2.2.2])), (hwr, .inr (4, [.int v, .ref ha, .int r0.1, .int r0.2.1, .int r0.2.2.1, .int r0.2.2.2])), (ha, .inr (1, [.int v, .ref b])), (b, .inl (k 0, 78, .inl g)), (ht, .inr (5, [.ref at_, .int (nI ((rw_c 0 t).1))])), (at_, .inl (k 0, 1000, .inl ((rw_c 0 t).2)))] := hD
      refine W.cs (cells' := 0) (slots' := 0) rfl rfl ?_
      refine lv_aload_n hx_ hb_ dX7_tell_22 rfl (lv_at hl 0 rfl) ?_
      refine va_get (D := D) (ci := 7) (v := .ref hte) (C := RX7) (T := TX7) (N := 12) hx_ hb_ hts_ inM_X7 hown_ hK.1 hP 0 rfl rfl 7 (by decide) (hts_ _ (List.mem_cons_of_mem _ wa_f_X7_59)) (fun _ h9 => h9) rfl dX7_tell_23 ?_
      refine lv_iload_n hx_ hb_ dX7_tell_26 rfl (lv_at hl 1 rfl) ?_
      refine lv_ti (y := nI (pl.toNatClampNeg)) (nI_cl cc1) ?_
      refine ct_Vi (wr := [(h, .inr (7, [.int v, .ref hm, .ref hr, .ref he, .ref ht, .ref hs, .ref ha, .ref hte, .ref hab, .ref hd, .ref hp, .int bh])), (hr, .inr (5, [.ref ar, .int (nI (tr.1))])), (ar, .inl (k 0, 1000, .inl tr.2))]) (rest := []) (As := [.int (nI (pl.toNatClampNeg))]) ⟨hx_, hb_, hml_, hown_, hts_⟩ (k_X6_tellText l D k hte hm he ht hwr hbr ae tE am tm at_ (rw_c 0 t) ha b v g r r0 pl.toNatClampNeg (by first | omega | assumption) (by exact rw_c_le hn (by decide)) (by first | omega | assumption) (by first | omega | assumption) (by exact nI_cl_le (M := 3000) (by decide) cc1 cc2)) (cwV 1 hts_ (gd_in (gw_V wa_m_X7_125 wa_y_X6_tellText wa_s_X6_tellText wa_i_X6 wa_k_X6_tellText)) rfl rfl rfl (by decide +kernel) ⟨Nat.le_of_ble_eq_true rfl, Nat.le_of_ble_eq_true rfl⟩) hK hP hD hS hA [1, 6, 7, 2, 3, 12, 13, 8, 9, 10, 11] [0, 4, 5] rfl rfl rfl rfl (by decide) 6 rfl rfl rfl hl.1 rfl rfl (Nat.le_of_ble_eq_true rfl) dX7_tell_27 ⟨Nat.le_of_ble_eq_true rfl, Nat.le_of_ble_eq_true rfl⟩ (fun rr5 w1 H locs ww6 hP hD hS => ?_)
      obtain ⟨rfl, rfl⟩ := ww6
      have hP : va_P D vwCl [(h, .inr (7, [.int v, .ref hm, .ref hr, .ref he, .ref ht, .ref hs, .ref ha, .ref hte, .ref hab, .ref hd, .ref hp, .int bh])), (hr, .inr (5, [.ref ar, .int (nI (tr.1))])), (ar, .inl (k 0, 1000, .inl tr.2)), (hte, .inr (6, [.ref hm, .ref he, .ref ht, .ref hwr, .ref hbr])), (he, .inr (5, [.ref ae, .int (nI (tE.1))])), (ae, .inl (k 0, 96, .inl tE.2)), (hm, .inr (5, [.ref am, .int (nI (tm.1))])), (am, .inl (k 0, 3000, .inl tm.2)), (ht, .inr (5, [.ref at_, .int (nI ((tf0 v g tm tE tm.1 pl.toNatClampNeg (rd_0, r, (rw_c 0 t))).2.2.2.1))])), (at_, .inl (k 0, 1000, .inl ((tf0 v g tm tE tm.1 pl.toNatClampNeg (rd_0, r, (rw_c 0 t))).2.2.2.2))), (hbr, .inr (4, [.int v, .ref ha, .int ((tf0 v g tm tE tm.1 pl.toNatClampNeg (rd_0, r, (rw_c 0 t))).2.2.1.1), .int ((tf0 v g tm tE tm.1 pl.toNatClampNeg (rd_0, r, (rw_c 0 t))).2.2.1.2.1), .int ((tf0 v g tm tE tm.1 pl.toNatClampNeg (rd_0, r, (rw_c 0 t))).2.2.1.2.2.1), .int ((tf0 v g tm tE tm.1 pl.toNatClampNeg (rd_0, r, (rw_c 0 t))).2.2.1.2.2.2)])), (hwr, .inr (4, [.int v, .ref ha, .int ((tf0 v g tm tE tm.1 pl.toNatClampNeg (rd_0, r, (rw_c 0 t))).2.1.1), .int ((tf0 v g tm tE tm.1 pl.toNatClampNeg (rd_0, r, (rw_c 0 t))).2.1.2.1), .int ((tf0 v g tm tE tm.1 pl.toNatClampNeg (rd_0, r, (rw_c 0 t))).2.1.2.2.1), .int ((tf0 v g tm tE tm.1 pl.toNatClampNeg (rd_0, r, (rw_c 0 t))).2.1.2.2.2)])), (ha, .inr (1, [.int v, .ref b])), (b, .inl (k 0, 78, .inl g))] H := hP
      have hD : va_D A_0 [(h, .inr (7, [.int v, .ref hm, .ref hr, .ref he, .ref ht, .ref hs, .ref ha, .ref hte, .ref hab, .ref hd, .ref hp, .int bh])), (hr, .inr (5, [.ref ar, .int (nI (tr.1))])), (ar, .inl (k 0, 1000, .inl tr.2)), (hte, .inr (6, [.ref hm, .ref he, .ref ht, .ref hwr, .ref hbr])), (he, .inr (5, [.ref ae, .int (nI (tE.1))])), (ae, .inl (k 0, 96, .inl tE.2)), (hm, .inr (5, [.ref am, .int (nI (tm.1))])), (am, .inl (k 0, 3000, .inl tm.2)), (ht, .inr (5, [.ref at_, .int (nI ((tf0 v g tm tE tm.1 pl.toNatClampNeg (rd_0, r, (rw_c 0 t))).2.2.2.1))])), (at_, .inl (k 0, 1000, .inl ((tf0 v g tm tE tm.1 pl.toNatClampNeg (rd_0, r, (rw_c 0 t))).2.2.2.2))), (hbr, .inr (4, [.int v, .ref ha, .int ((tf0 v g tm tE tm.1 pl.toNatClampNeg (rd_0, r, (rw_c 0 t))).2.2.1.1), .int ((tf0 v g tm tE tm.1 pl.toNatClampNeg (rd_0, r, (rw_c 0 t))).2.2.1.2.1), .int ((tf0 v g tm tE tm.1 pl.toNatClampNeg (rd_0, r, (rw_c 0 t))).2.2.1.2.2.1), .int ((tf0 v g tm tE tm.1 pl.toNatClampNeg (rd_0, r, (rw_c 0 t))).2.2.1.2.2.2)])), (hwr, .inr (4, [.int v, .ref ha, .int ((tf0 v g tm tE tm.1 pl.toNatClampNeg (rd_0, r, (rw_c 0 t))).2.1.1), .int ((tf0 v g tm tE tm.1 pl.toNatClampNeg (rd_0, r, (rw_c 0 t))).2.1.2.1), .int ((tf0 v g tm tE tm.1 pl.toNatClampNeg (rd_0, r, (rw_c 0 t))).2.1.2.2.1), .int ((tf0 v g tm tE tm.1 pl.toNatClampNeg (rd_0, r, (rw_c 0 t))).2.1.2.2.2)])), (ha, .inr (1, [.int v, .ref b])), (b, .inl (k 0, 78, .inl g))] := hD
      refine W.cs (cells' := 0) (slots' := 0) rfl rfl ?_
      refine lv_istore_n (lv' := [(2, .int ((tf0 v g tm tE tm.1 pl.toNatClampNeg (rd_0, r, (rw_c 0 t))).1)), (0, .ref h), (1, .int pl)]) hx_ hb_ dX7_tell_30 rfl hl (by decide) rfl (fun ls hl => ?_)
      refine lv_iload_n hx_ hb_ dX7_tell_31 rfl (lv_at hl 0 rfl) ?_
      refine lv_if_ge (tgt := 45) hx_ hb_ dX7_tell_32 (by decide) (fun cc7 => ?_) (fun cc7 => ?_)
      · skip
        refine lv_aload_n hx_ hb_ dX7_tell_45 rfl (lv_at hl 1 rfl) ?_
        refine lv_iload_n hx_ hb_ dX7_tell_46 rfl (lv_at hl 0 rfl) ?_
        refine va_put (D := D) (ci := 7) (v := .int ((tf0 v g tm tE tm.1 pl.toNatClampNeg (rd_0, r, (rw_c 0 t))).1)) (ty := .int) (C := RX7) (T := TX7) (N := 12) hx_ hb_ hts_ inM_X7 tyX7 tyX7_ok nmX7 hown_ hK.1 hP hD hS 0 rfl rfl 11 (by decide) (hts_ _ (List.mem_cons_of_mem _ wa_f_X7_90)) (fun _ h9 => h9) rfl (by decide +kernel) rfl rfl (Nat.le_of_ble_eq_true rfl) dX7_tell_47 (fun H locs hP hD hS => ?_)
        have hP : va_P D vwCl [(h, .inr (7, [.int v, .ref hm, .ref hr, .ref he, .ref ht, .ref hs, .ref ha, .ref hte, .ref hab, .ref hd, .ref hp, .int ((tf0 v g tm tE tm.1 pl.toNatClampNeg (rd_0, r, (rw_c 0 t))).1)])), (hr, .inr (5, [.ref ar, .int (nI (tr.1))])), (ar, .inl (k 0, 1000, .inl tr.2)), (hte, .inr (6, [.ref hm, .ref he, .ref ht, .ref hwr, .ref hbr])), (he, .inr (5, [.ref ae, .int (nI (tE.1))])), (ae, .inl (k 0, 96, .inl tE.2)), (hm, .inr (5, [.ref am, .int (nI (tm.1))])), (am, .inl (k 0, 3000, .inl tm.2)), (ht, .inr (5, [.ref at_, .int (nI ((tf0 v g tm tE tm.1 pl.toNatClampNeg (rd_0, r, (rw_c 0 t))).2.2.2.1))])), (at_, .inl (k 0, 1000, .inl ((tf0 v g tm tE tm.1 pl.toNatClampNeg (rd_0, r, (rw_c 0 t))).2.2.2.2))), (hbr, .inr (4, [.int v, .ref ha, .int ((tf0 v g tm tE tm.1 pl.toNatClampNeg (rd_0, r, (rw_c 0 t))).2.2.1.1), .int ((tf0 v g tm tE tm.1 pl.toNatClampNeg (rd_0, r, (rw_c 0 t))).2.2.1.2.1), .int ((tf0 v g tm tE tm.1 pl.toNatClampNeg (rd_0, r, (rw_c 0 t))).2.2.1.2.2.1), .int ((tf0 v g tm tE tm.1 pl.toNatClampNeg (rd_0, r, (rw_c 0 t))).2.2.1.2.2.2)])), (hwr, .inr (4, [.int v, .ref ha, .int ((tf0 v g tm tE tm.1 pl.toNatClampNeg (rd_0, r, (rw_c 0 t))).2.1.1), .int ((tf0 v g tm tE tm.1 pl.toNatClampNeg (rd_0, r, (rw_c 0 t))).2.1.2.1), .int ((tf0 v g tm tE tm.1 pl.toNatClampNeg (rd_0, r, (rw_c 0 t))).2.1.2.2.1), .int ((tf0 v g tm tE tm.1 pl.toNatClampNeg (rd_0, r, (rw_c 0 t))).2.1.2.2.2)])), (ha, .inr (1, [.int v, .ref b])), (b, .inl (k 0, 78, .inl g))] H := hP
        have hD : va_D A_0 [(h, .inr (7, [.int v, .ref hm, .ref hr, .ref he, .ref ht, .ref hs, .ref ha, .ref hte, .ref hab, .ref hd, .ref hp, .int ((tf0 v g tm tE tm.1 pl.toNatClampNeg (rd_0, r, (rw_c 0 t))).1)])), (hr, .inr (5, [.ref ar, .int (nI (tr.1))])), (ar, .inl (k 0, 1000, .inl tr.2)), (hte, .inr (6, [.ref hm, .ref he, .ref ht, .ref hwr, .ref hbr])), (he, .inr (5, [.ref ae, .int (nI (tE.1))])), (ae, .inl (k 0, 96, .inl tE.2)), (hm, .inr (5, [.ref am, .int (nI (tm.1))])), (am, .inl (k 0, 3000, .inl tm.2)), (ht, .inr (5, [.ref at_, .int (nI ((tf0 v g tm tE tm.1 pl.toNatClampNeg (rd_0, r, (rw_c 0 t))).2.2.2.1))])), (at_, .inl (k 0, 1000, .inl ((tf0 v g tm tE tm.1 pl.toNatClampNeg (rd_0, r, (rw_c 0 t))).2.2.2.2))), (hbr, .inr (4, [.int v, .ref ha, .int ((tf0 v g tm tE tm.1 pl.toNatClampNeg (rd_0, r, (rw_c 0 t))).2.2.1.1), .int ((tf0 v g tm tE tm.1 pl.toNatClampNeg (rd_0, r, (rw_c 0 t))).2.2.1.2.1), .int ((tf0 v g tm tE tm.1 pl.toNatClampNeg (rd_0, r, (rw_c 0 t))).2.2.1.2.2.1), .int ((tf0 v g tm tE tm.1 pl.toNatClampNeg (rd_0, r, (rw_c 0 t))).2.2.1.2.2.2)])), (hwr, .inr (4, [.int v, .ref ha, .int ((tf0 v g tm tE tm.1 pl.toNatClampNeg (rd_0, r, (rw_c 0 t))).2.1.1), .int ((tf0 v g tm tE tm.1 pl.toNatClampNeg (rd_0, r, (rw_c 0 t))).2.1.2.1), .int ((tf0 v g tm tE tm.1 pl.toNatClampNeg (rd_0, r, (rw_c 0 t))).2.1.2.2.1), .int ((tf0 v g tm tE tm.1 pl.toNatClampNeg (rd_0, r, (rw_c 0 t))).2.1.2.2.2)])), (ha, .inr (1, [.int v, .ref b])), (b, .inl (k 0, 78, .inl g))] := hD
        refine lv_aload_n hx_ hb_ dX7_tell_50 rfl (lv_at hl 1 rfl) ?_
        refine va_get (D := D) (ci := 7) (v := .ref hr) (C := RX7) (T := TX7) (N := 12) hx_ hb_ hts_ inM_X7 hown_ hK.1 hP 0 rfl rfl 2 (by decide) (hts_ _ (List.mem_cons_of_mem _ wa_f_X7_31)) (fun _ h9 => h9) rfl dX7_tell_51 ?_
        refine lv_aload_n hx_ hb_ dX7_tell_54 rfl (lv_at hl 1 rfl) ?_
        refine va_get (D := D) (ci := 7) (v := .ref ht) (C := RX7) (T := TX7) (N := 12) hx_ hb_ hts_ inM_X7 hown_ hK.1 hP 0 rfl rfl 4 (by decide) (hts_ _ (List.mem_cons_of_mem _ wa_f_X7_41)) (fun _ h9 => h9) rfl dX7_tell_55 ?_
        refine ct_Vv (wr := [(h, .inr (7, [.int v, .ref hm, .ref hr, .ref he, .ref ht, .ref hs, .ref ha, .ref hte, .ref hab, .ref hd, .ref hp, .int ((tf0 v g tm tE tm.1 pl.toNatClampNeg (rd_0, r, (rw_c 0 t))).1)])), (hte, .inr (6, [.ref hm, .ref he, .ref ht, .ref hwr, .ref hbr])), (he, .inr (5, [.ref ae, .int (nI (tE.1))])), (ae, .inl (k 0, 96, .inl tE.2)), (hm, .inr (5, [.ref am, .int (nI (tm.1))])), (am, .inl (k 0, 3000, .inl tm.2)), (hbr, .inr (4, [.int v, .ref ha, .int ((tf0 v g tm tE tm.1 pl.toNatClampNeg (rd_0, r, (rw_c 0 t))).2.2.1.1), .int ((tf0 v g tm tE tm.1 pl.toNatClampNeg (rd_0, r, (rw_c 0 t))).2.2.1.2.1), .int ((tf0 v g tm tE tm.1 pl.toNatClampNeg (rd_0, r, (rw_c 0 t))).2.2.1.2.2.1), .int ((tf0 v g tm tE tm.1 pl.toNatClampNeg (rd_0, r, (rw_c 0 t))).2.2.1.2.2.2)])), (hwr, .inr (4, [.int v, .ref ha, .int ((tf0 v g tm tE tm.1 pl.toNatClampNeg (rd_0, r, (rw_c 0 t))).2.1.1), .int ((tf0 v g tm tE tm.1 pl.toNatClampNeg (rd_0, r, (rw_c 0 t))).2.1.2.1), .int ((tf0 v g tm tE tm.1 pl.toNatClampNeg (rd_0, r, (rw_c 0 t))).2.1.2.2.1), .int ((tf0 v g tm tE tm.1 pl.toNatClampNeg (rd_0, r, (rw_c 0 t))).2.1.2.2.2)])), (ha, .inr (1, [.int v, .ref b])), (b, .inl (k 0, 78, .inl g))]) (rest := []) (As := [.ref ht]) ⟨hx_, hb_, hml_, hown_, hts_⟩ (k_X5_become l D k hr ar 1000 tr ht at_ 1000 ((tf0 v g tm tE tm.1 pl.toNatClampNeg (rd_0, r, (rw_c 0 t))).2.2.2) (by first | omega | assumption) (by first | omega | assumption) (by exact tf0_le _ _ _ (rw_c_le hn (by decide))) (by first | omega | assumption)) (cwV 1 hts_ (gd_in (gw_V wa_m_X7_128 wa_y_X5_become wa_s_X5_become wa_i_X5 wa_k_X5_become)) rfl rfl rfl (by decide +kernel) ⟨Nat.le_of_ble_eq_true rfl, Nat.le_of_ble_eq_true rfl⟩) hK hP hD hS hA [1, 2, 8, 9] [0, 3, 4, 5, 6, 7, 10, 11, 12, 13] rfl rfl rfl rfl (by decide) 5 rfl rfl rfl hl.1 rfl rfl (Nat.le_of_ble_eq_true rfl) dX7_tell_58 ⟨Nat.le_of_ble_eq_true rfl, Nat.le_of_ble_eq_true rfl⟩ (fun w1 H locs ww9 hP hD hS => ?_)
        obtain rfl := ww9
        have hP : va_P D vwCl [(h, .inr (7, [.int v, .ref hm, .ref hr, .ref he, .ref ht, .ref hs, .ref ha, .ref hte, .ref hab, .ref hd, .ref hp, .int ((tf0 v g tm tE tm.1 pl.toNatClampNeg (rd_0, r, (rw_c 0 t))).1)])), (hte, .inr (6, [.ref hm, .ref he, .ref ht, .ref hwr, .ref hbr])), (he, .inr (5, [.ref ae, .int (nI (tE.1))])), (ae, .inl (k 0, 96, .inl tE.2)), (hm, .inr (5, [.ref am, .int (nI (tm.1))])), (am, .inl (k 0, 3000, .inl tm.2)), (hbr, .inr (4, [.int v, .ref ha, .int ((tf0 v g tm tE tm.1 pl.toNatClampNeg (rd_0, r, (rw_c 0 t))).2.2.1.1), .int ((tf0 v g tm tE tm.1 pl.toNatClampNeg (rd_0, r, (rw_c 0 t))).2.2.1.2.1), .int ((tf0 v g tm tE tm.1 pl.toNatClampNeg (rd_0, r, (rw_c 0 t))).2.2.1.2.2.1), .int ((tf0 v g tm tE tm.1 pl.toNatClampNeg (rd_0, r, (rw_c 0 t))).2.2.1.2.2.2)])), (hwr, .inr (4, [.int v, .ref ha, .int ((tf0 v g tm tE tm.1 pl.toNatClampNeg (rd_0, r, (rw_c 0 t))).2.1.1), .int ((tf0 v g tm tE tm.1 pl.toNatClampNeg (rd_0, r, (rw_c 0 t))).2.1.2.1), .int ((tf0 v g tm tE tm.1 pl.toNatClampNeg (rd_0, r, (rw_c 0 t))).2.1.2.2.1), .int ((tf0 v g tm tE tm.1 pl.toNatClampNeg (rd_0, r, (rw_c 0 t))).2.1.2.2.2)])), (ha, .inr (1, [.int v, .ref b])), (b, .inl (k 0, 78, .inl g)), (hr, .inr (5, [.ref ar, .int (nI ((rw_b 1000 ((tf0 v g tm tE tm.1 pl.toNatClampNeg (rd_0, r, (rw_c 0 t))).2.2.2) tr).1))])), (ar, .inl (k 0, 1000, .inl ((rw_b 1000 ((tf0 v g tm tE tm.1 pl.toNatClampNeg (rd_0, r, (rw_c 0 t))).2.2.2) tr).2))), (ht, .inr (5, [.ref at_, .int (nI ((tf0 v g tm tE tm.1 pl.toNatClampNeg (rd_0, r, (rw_c 0 t))).2.2.2.1))])), (at_, .inl (k 0, 1000, .inl ((tf0 v g tm tE tm.1 pl.toNatClampNeg (rd_0, r, (rw_c 0 t))).2.2.2.2)))] H := hP
        have hD : va_D A_0 [(h, .inr (7, [.int v, .ref hm, .ref hr, .ref he, .ref ht, .ref hs, .ref ha, .ref hte, .ref hab, .ref hd, .ref hp, .int ((tf0 v g tm tE tm.1 pl.toNatClampNeg (rd_0, r, (rw_c 0 t))).1)])), (hte, .inr (6, [.ref hm, .ref he, .ref ht, .ref hwr, .ref hbr])), (he, .inr (5, [.ref ae, .int (nI (tE.1))])), (ae, .inl (k 0, 96, .inl tE.2)), (hm, .inr (5, [.ref am, .int (nI (tm.1))])), (am, .inl (k 0, 3000, .inl tm.2)), (hbr, .inr (4, [.int v, .ref ha, .int ((tf0 v g tm tE tm.1 pl.toNatClampNeg (rd_0, r, (rw_c 0 t))).2.2.1.1), .int ((tf0 v g tm tE tm.1 pl.toNatClampNeg (rd_0, r, (rw_c 0 t))).2.2.1.2.1), .int ((tf0 v g tm tE tm.1 pl.toNatClampNeg (rd_0, r, (rw_c 0 t))).2.2.1.2.2.1), .int ((tf0 v g tm tE tm.1 pl.toNatClampNeg (rd_0, r, (rw_c 0 t))).2.2.1.2.2.2)])), (hwr, .inr (4, [.int v, .ref ha, .int ((tf0 v g tm tE tm.1 pl.toNatClampNeg (rd_0, r, (rw_c 0 t))).2.1.1), .int ((tf0 v g tm tE tm.1 pl.toNatClampNeg (rd_0, r, (rw_c 0 t))).2.1.2.1), .int ((tf0 v g tm tE tm.1 pl.toNatClampNeg (rd_0, r, (rw_c 0 t))).2.1.2.2.1), .int ((tf0 v g tm tE tm.1 pl.toNatClampNeg (rd_0, r, (rw_c 0 t))).2.1.2.2.2)])), (ha, .inr (1, [.int v, .ref b])), (b, .inl (k 0, 78, .inl g)), (hr, .inr (5, [.ref ar, .int (nI ((rw_b 1000 ((tf0 v g tm tE tm.1 pl.toNatClampNeg (rd_0, r, (rw_c 0 t))).2.2.2) tr).1))])), (ar, .inl (k 0, 1000, .inl ((rw_b 1000 ((tf0 v g tm tE tm.1 pl.toNatClampNeg (rd_0, r, (rw_c 0 t))).2.2.2) tr).2))), (ht, .inr (5, [.ref at_, .int (nI ((tf0 v g tm tE tm.1 pl.toNatClampNeg (rd_0, r, (rw_c 0 t))).2.2.2.1))])), (at_, .inl (k 0, 1000, .inl ((tf0 v g tm tE tm.1 pl.toNatClampNeg (rd_0, r, (rw_c 0 t))).2.2.2.2)))] := hD
        refine W.cs (cells' := 0) (slots' := 0) rfl rfl ?_
        refine lv_aload_n hx_ hb_ dX7_tell_61 rfl (lv_at hl 1 rfl) ?_
        refine va_get (D := D) (ci := 7) (v := .ref hr) (C := RX7) (T := TX7) (N := 12) hx_ hb_ hts_ inM_X7 hown_ hK.1 hP 0 rfl rfl 2 (by decide) (hts_ _ (List.mem_cons_of_mem _ wa_f_X7_31)) (fun _ h9 => h9) rfl dX7_tell_62 ?_
        refine ct_Vi (wr := [(h, .inr (7, [.int v, .ref hm, .ref hr, .ref he, .ref ht, .ref hs, .ref ha, .ref hte, .ref hab, .ref hd, .ref hp, .int ((tf0 v g tm tE tm.1 pl.toNatClampNeg (rd_0, r, (rw_c 0 t))).1)])), (hte, .inr (6, [.ref hm, .ref he, .ref ht, .ref hwr, .ref hbr])), (he, .inr (5, [.ref ae, .int (nI (tE.1))])), (ae, .inl (k 0, 96, .inl tE.2)), (hm, .inr (5, [.ref am, .int (nI (tm.1))])), (am, .inl (k 0, 3000, .inl tm.2)), (hbr, .inr (4, [.int v, .ref ha, .int ((tf0 v g tm tE tm.1 pl.toNatClampNeg (rd_0, r, (rw_c 0 t))).2.2.1.1), .int ((tf0 v g tm tE tm.1 pl.toNatClampNeg (rd_0, r, (rw_c 0 t))).2.2.1.2.1), .int ((tf0 v g tm tE tm.1 pl.toNatClampNeg (rd_0, r, (rw_c 0 t))).2.2.1.2.2.1), .int ((tf0 v g tm tE tm.1 pl.toNatClampNeg (rd_0, r, (rw_c 0 t))).2.2.1.2.2.2)])), (hwr, .inr (4, [.int v, .ref ha, .int ((tf0 v g tm tE tm.1 pl.toNatClampNeg (rd_0, r, (rw_c 0 t))).2.1.1), .int ((tf0 v g tm tE tm.1 pl.toNatClampNeg (rd_0, r, (rw_c 0 t))).2.1.2.1), .int ((tf0 v g tm tE tm.1 pl.toNatClampNeg (rd_0, r, (rw_c 0 t))).2.1.2.2.1), .int ((tf0 v g tm tE tm.1 pl.toNatClampNeg (rd_0, r, (rw_c 0 t))).2.1.2.2.2)])), (ha, .inr (1, [.int v, .ref b])), (b, .inl (k 0, 78, .inl g)), (ht, .inr (5, [.ref at_, .int (nI ((tf0 v g tm tE tm.1 pl.toNatClampNeg (rd_0, r, (rw_c 0 t))).2.2.2.1))])), (at_, .inl (k 0, 1000, .inl ((tf0 v g tm tE tm.1 pl.toNatClampNeg (rd_0, r, (rw_c 0 t))).2.2.2.2)))]) (rest := []) (As := []) ⟨hx_, hb_, hml_, hown_, hts_⟩ (k_X5_count l D k hr ar 1000 (rw_b 1000 ((tf0 v g tm tE tm.1 pl.toNatClampNeg (rd_0, r, (rw_c 0 t))).2.2.2) tr) ) (cwV 0 hts_ (gd_in (gw_V wa_m_X7_107 wa_y_X5_count wa_s_X5_count wa_i_X5 wa_k_X5_count)) rfl rfl rfl (by decide +kernel) ⟨Nat.le_of_ble_eq_true rfl, Nat.le_of_ble_eq_true rfl⟩) hK hP hD hS hA [10, 11] [0, 1, 2, 3, 4, 5, 6, 7, 8, 9, 12, 13] rfl rfl rfl rfl (by decide) 5 rfl rfl rfl hl.1 rfl rfl (Nat.le_of_ble_eq_true rfl) dX7_tell_65 ⟨Nat.le_of_ble_eq_true rfl, Nat.le_of_ble_eq_true rfl⟩ (fun rr10 w1 H locs ww11 hP hD hS => ?_)
        obtain ⟨rfl, rfl⟩ := ww11
        have hP : va_P D vwCl [(h, .inr (7, [.int v, .ref hm, .ref hr, .ref he, .ref ht, .ref hs, .ref ha, .ref hte, .ref hab, .ref hd, .ref hp, .int ((tf0 v g tm tE tm.1 pl.toNatClampNeg (rd_0, r, (rw_c 0 t))).1)])), (hte, .inr (6, [.ref hm, .ref he, .ref ht, .ref hwr, .ref hbr])), (he, .inr (5, [.ref ae, .int (nI (tE.1))])), (ae, .inl (k 0, 96, .inl tE.2)), (hm, .inr (5, [.ref am, .int (nI (tm.1))])), (am, .inl (k 0, 3000, .inl tm.2)), (hbr, .inr (4, [.int v, .ref ha, .int ((tf0 v g tm tE tm.1 pl.toNatClampNeg (rd_0, r, (rw_c 0 t))).2.2.1.1), .int ((tf0 v g tm tE tm.1 pl.toNatClampNeg (rd_0, r, (rw_c 0 t))).2.2.1.2.1), .int ((tf0 v g tm tE tm.1 pl.toNatClampNeg (rd_0, r, (rw_c 0 t))).2.2.1.2.2.1), .int ((tf0 v g tm tE tm.1 pl.toNatClampNeg (rd_0, r, (rw_c 0 t))).2.2.1.2.2.2)])), (hwr, .inr (4, [.int v, .ref ha, .int ((tf0 v g tm tE tm.1 pl.toNatClampNeg (rd_0, r, (rw_c 0 t))).2.1.1), .int ((tf0 v g tm tE tm.1 pl.toNatClampNeg (rd_0, r, (rw_c 0 t))).2.1.2.1), .int ((tf0 v g tm tE tm.1 pl.toNatClampNeg (rd_0, r, (rw_c 0 t))).2.1.2.2.1), .int ((tf0 v g tm tE tm.1 pl.toNatClampNeg (rd_0, r, (rw_c 0 t))).2.1.2.2.2)])), (ha, .inr (1, [.int v, .ref b])), (b, .inl (k 0, 78, .inl g)), (ht, .inr (5, [.ref at_, .int (nI ((tf0 v g tm tE tm.1 pl.toNatClampNeg (rd_0, r, (rw_c 0 t))).2.2.2.1))])), (at_, .inl (k 0, 1000, .inl ((tf0 v g tm tE tm.1 pl.toNatClampNeg (rd_0, r, (rw_c 0 t))).2.2.2.2))), (hr, .inr (5, [.ref ar, .int (nI ((rw_b 1000 ((tf0 v g tm tE tm.1 pl.toNatClampNeg (rd_0, r, (rw_c 0 t))).2.2.2) tr).1))])), (ar, .inl (k 0, 1000, .inl ((rw_b 1000 ((tf0 v g tm tE tm.1 pl.toNatClampNeg (rd_0, r, (rw_c 0 t))).2.2.2) tr).2)))] H := hP
        have hD : va_D A_0 [(h, .inr (7, [.int v, .ref hm, .ref hr, .ref he, .ref ht, .ref hs, .ref ha, .ref hte, .ref hab, .ref hd, .ref hp, .int ((tf0 v g tm tE tm.1 pl.toNatClampNeg (rd_0, r, (rw_c 0 t))).1)])), (hte, .inr (6, [.ref hm, .ref he, .ref ht, .ref hwr, .ref hbr])), (he, .inr (5, [.ref ae, .int (nI (tE.1))])), (ae, .inl (k 0, 96, .inl tE.2)), (hm, .inr (5, [.ref am, .int (nI (tm.1))])), (am, .inl (k 0, 3000, .inl tm.2)), (hbr, .inr (4, [.int v, .ref ha, .int ((tf0 v g tm tE tm.1 pl.toNatClampNeg (rd_0, r, (rw_c 0 t))).2.2.1.1), .int ((tf0 v g tm tE tm.1 pl.toNatClampNeg (rd_0, r, (rw_c 0 t))).2.2.1.2.1), .int ((tf0 v g tm tE tm.1 pl.toNatClampNeg (rd_0, r, (rw_c 0 t))).2.2.1.2.2.1), .int ((tf0 v g tm tE tm.1 pl.toNatClampNeg (rd_0, r, (rw_c 0 t))).2.2.1.2.2.2)])), (hwr, .inr (4, [.int v, .ref ha, .int ((tf0 v g tm tE tm.1 pl.toNatClampNeg (rd_0, r, (rw_c 0 t))).2.1.1), .int ((tf0 v g tm tE tm.1 pl.toNatClampNeg (rd_0, r, (rw_c 0 t))).2.1.2.1), .int ((tf0 v g tm tE tm.1 pl.toNatClampNeg (rd_0, r, (rw_c 0 t))).2.1.2.2.1), .int ((tf0 v g tm tE tm.1 pl.toNatClampNeg (rd_0, r, (rw_c 0 t))).2.1.2.2.2)])), (ha, .inr (1, [.int v, .ref b])), (b, .inl (k 0, 78, .inl g)), (ht, .inr (5, [.ref at_, .int (nI ((tf0 v g tm tE tm.1 pl.toNatClampNeg (rd_0, r, (rw_c 0 t))).2.2.2.1))])), (at_, .inl (k 0, 1000, .inl ((tf0 v g tm tE tm.1 pl.toNatClampNeg (rd_0, r, (rw_c 0 t))).2.2.2.2))), (hr, .inr (5, [.ref ar, .int (nI ((rw_b 1000 ((tf0 v g tm tE tm.1 pl.toNatClampNeg (rd_0, r, (rw_c 0 t))).2.2.2) tr).1))])), (ar, .inl (k 0, 1000, .inl ((rw_b 1000 ((tf0 v g tm tE tm.1 pl.toNatClampNeg (rd_0, r, (rw_c 0 t))).2.2.2) tr).2)))] := hD
        refine W.cs (cells' := 0) (slots' := 0) rfl rfl ?_
        have eq1 : ((tf0 v g tm tE tm.1 pl.toNatClampNeg (rd_0, r, (rw_c 0 t))).1 : Int32) = (zt v g tm tE pl bh tr t r r0).2.1 := by simp [zt, zt_z, eq_false cc1, eq_true cc2, eq_true cc7]
        have eq2 : (nI ((rw_b 1000 ((tf0 v g tm tE tm.1 pl.toNatClampNeg (rd_0, r, (rw_c 0 t))).2.2.2) tr).1) : Int32) = nI ((zt v g tm tE pl bh tr t r r0).2.2.1.1) := by simp [zt, zt_z, eq_false cc1, eq_true cc2, eq_true cc7]
        have eq3 : ((rw_b 1000 ((tf0 v g tm tE tm.1 pl.toNatClampNeg (rd_0, r, (rw_c 0 t))).2.2.2) tr).2 : Nat → Int32) = (zt v g tm tE pl bh tr t r r0).2.2.1.2 := by simp [zt, zt_z, eq_false cc1, eq_true cc2, eq_true cc7]
        have eq4 : (nI ((tf0 v g tm tE tm.1 pl.toNatClampNeg (rd_0, r, (rw_c 0 t))).2.2.2.1) : Int32) = nI ((zt v g tm tE pl bh tr t r r0).2.2.2.1.1) := by simp [zt, zt_z, eq_false cc1, eq_true cc2, eq_true cc7]
        have eq5 : ((tf0 v g tm tE tm.1 pl.toNatClampNeg (rd_0, r, (rw_c 0 t))).2.2.2.2 : Nat → Int32) = (zt v g tm tE pl bh tr t r r0).2.2.2.1.2 := by simp [zt, zt_z, eq_false cc1, eq_true cc2, eq_true cc7]
        have eq6 : ((tf0 v g tm tE tm.1 pl.toNatClampNeg (rd_0, r, (rw_c 0 t))).2.2.1.1 : Int32) = (zt v g tm tE pl bh tr t r r0).2.2.2.2.1.1 := by simp [zt, zt_z, eq_false cc1, eq_true cc2, eq_true cc7]
        have eq7 : ((tf0 v g tm tE tm.1 pl.toNatClampNeg (rd_0, r, (rw_c 0 t))).2.2.1.2.1 : Int32) = (zt v g tm tE pl bh tr t r r0).2.2.2.2.1.2.1 := by simp [zt, zt_z, eq_false cc1, eq_true cc2, eq_true cc7]
        have eq8 : ((tf0 v g tm tE tm.1 pl.toNatClampNeg (rd_0, r, (rw_c 0 t))).2.2.1.2.2.1 : Int32) = (zt v g tm tE pl bh tr t r r0).2.2.2.2.1.2.2.1 := by simp [zt, zt_z, eq_false cc1, eq_true cc2, eq_true cc7]
        have eq9 : ((tf0 v g tm tE tm.1 pl.toNatClampNeg (rd_0, r, (rw_c 0 t))).2.2.1.2.2.2 : Int32) = (zt v g tm tE pl bh tr t r r0).2.2.2.2.1.2.2.2 := by simp [zt, zt_z, eq_false cc1, eq_true cc2, eq_true cc7]
        have eq10 : ((tf0 v g tm tE tm.1 pl.toNatClampNeg (rd_0, r, (rw_c 0 t))).2.1.1 : Int32) = (zt v g tm tE pl bh tr t r r0).2.2.2.2.2.1 := by simp [zt, zt_z, eq_false cc1, eq_true cc2, eq_true cc7]
        have eq11 : ((tf0 v g tm tE tm.1 pl.toNatClampNeg (rd_0, r, (rw_c 0 t))).2.1.2.1 : Int32) = (zt v g tm tE pl bh tr t r r0).2.2.2.2.2.2.1 := by simp [zt, zt_z, eq_false cc1, eq_true cc2, eq_true cc7]
        have eq12 : ((tf0 v g tm tE tm.1 pl.toNatClampNeg (rd_0, r, (rw_c 0 t))).2.1.2.2.1 : Int32) = (zt v g tm tE pl bh tr t r r0).2.2.2.2.2.2.2.1 := by simp [zt, zt_z, eq_false cc1, eq_true cc2, eq_true cc7]
        have eq13 : ((tf0 v g tm tE tm.1 pl.toNatClampNeg (rd_0, r, (rw_c 0 t))).2.1.2.2.2 : Int32) = (zt v g tm tE pl bh tr t r r0).2.2.2.2.2.2.2.2 := by simp [zt, zt_z, eq_false cc1, eq_true cc2, eq_true cc7]
        have eqr : (nI ((rw_b 1000 ((tf0 v g tm tE tm.1 pl.toNatClampNeg (rd_0, r, (rw_c 0 t))).2.2.2) tr).1) : Int32) = (zt v g tm tE pl bh tr t r r0).1 := by simp [zt, zt_z, eq_false cc1, eq_true cc2, eq_true cc7]
        exact ct_iret C_0 (hP.sub [0, 1, 4, 5, 12, 13, 2, 3, 10, 11, 6, 7, 8, 9] rfl) (hD.sub [0, 1, 4, 5, 12, 13, 2, 3, 10, 11, 6, 7, 8, 9] (by decide) rfl) hS (Nat.le_of_ble_eq_true rfl) (Nat.le_of_ble_eq_true rfl) dX7_tell_68 (⟨eqr, congr (congr (congr (congr (congr (congr (congr (congr (congr (congr (congr (congr (congrArg (fun (z1 : Int32) (z2 : Int32) (z3 : Nat → Int32) (z4 : Int32) (z5 : Nat → Int32) (z6 : Int32) (z7 : Int32) (z8 : Int32) (z9 : Int32) (z10 : Int32) (z11 : Int32) (z12 : Int32) (z13 : Int32) => ([(h, .inr (7, [.int v, .ref hm, .ref hr, .ref he, .ref ht, .ref hs, .ref ha, .ref hte, .ref hab, .ref hd, .ref hp, .int z1])), (hte, .inr (6, [.ref hm, .ref he, .ref ht, .ref hwr, .ref hbr])), (hm, .inr (5, [.ref am, .int (nI (tm.1))])), (am, .inl (k 0, 3000, .inl tm.2)), (hr, .inr (5, [.ref ar, .int z2])), (ar, .inl (k 0, 1000, .inl z3)), (he, .inr (5, [.ref ae, .int (nI (tE.1))])), (ae, .inl (k 0, 96, .inl tE.2)), (ht, .inr (5, [.ref at_, .int z4])), (at_, .inl (k 0, 1000, .inl z5)), (hbr, .inr (4, [.int v, .ref ha, .int z6, .int z7, .int z8, .int z9])), (hwr, .inr (4, [.int v, .ref ha, .int z10, .int z11, .int z12, .int z13])), (ha, .inr (1, [.int v, .ref b])), (b, .inl (k 0, 78, .inl g))] : va_W)) eq1) eq2) eq3) eq4) eq5) eq6) eq7) eq8) eq9) eq10) eq11) eq12) eq13⟩)
      · skip
        refine lv_aload_n hx_ hb_ dX7_tell_35 rfl (lv_at hl 1 rfl) ?_
        refine lv_iconst (v := 0) hx_ hb_ dX7_tell_36 (by decide) ?_
        refine va_put (D := D) (ci := 7) (v := .int 0) (ty := .int) (C := RX7) (T := TX7) (N := 12) hx_ hb_ hts_ inM_X7 tyX7 tyX7_ok nmX7 hown_ hK.1 hP hD hS 0 rfl rfl 11 (by decide) (hts_ _ (List.mem_cons_of_mem _ wa_f_X7_90)) (fun _ h9 => h9) rfl (by decide +kernel) rfl rfl (Nat.le_of_ble_eq_true rfl) dX7_tell_37 (fun H locs hP hD hS => ?_)
        have hP : va_P D vwCl [(h, .inr (7, [.int v, .ref hm, .ref hr, .ref he, .ref ht, .ref hs, .ref ha, .ref hte, .ref hab, .ref hd, .ref hp, .int 0])), (hr, .inr (5, [.ref ar, .int (nI (tr.1))])), (ar, .inl (k 0, 1000, .inl tr.2)), (hte, .inr (6, [.ref hm, .ref he, .ref ht, .ref hwr, .ref hbr])), (he, .inr (5, [.ref ae, .int (nI (tE.1))])), (ae, .inl (k 0, 96, .inl tE.2)), (hm, .inr (5, [.ref am, .int (nI (tm.1))])), (am, .inl (k 0, 3000, .inl tm.2)), (ht, .inr (5, [.ref at_, .int (nI ((tf0 v g tm tE tm.1 pl.toNatClampNeg (rd_0, r, (rw_c 0 t))).2.2.2.1))])), (at_, .inl (k 0, 1000, .inl ((tf0 v g tm tE tm.1 pl.toNatClampNeg (rd_0, r, (rw_c 0 t))).2.2.2.2))), (hbr, .inr (4, [.int v, .ref ha, .int ((tf0 v g tm tE tm.1 pl.toNatClampNeg (rd_0, r, (rw_c 0 t))).2.2.1.1), .int ((tf0 v g tm tE tm.1 pl.toNatClampNeg (rd_0, r, (rw_c 0 t))).2.2.1.2.1), .int ((tf0 v g tm tE tm.1 pl.toNatClampNeg (rd_0, r, (rw_c 0 t))).2.2.1.2.2.1), .int ((tf0 v g tm tE tm.1 pl.toNatClampNeg (rd_0, r, (rw_c 0 t))).2.2.1.2.2.2)])), (hwr, .inr (4, [.int v, .ref ha, .int ((tf0 v g tm tE tm.1 pl.toNatClampNeg (rd_0, r, (rw_c 0 t))).2.1.1), .int ((tf0 v g tm tE tm.1 pl.toNatClampNeg (rd_0, r, (rw_c 0 t))).2.1.2.1), .int ((tf0 v g tm tE tm.1 pl.toNatClampNeg (rd_0, r, (rw_c 0 t))).2.1.2.2.1), .int ((tf0 v g tm tE tm.1 pl.toNatClampNeg (rd_0, r, (rw_c 0 t))).2.1.2.2.2)])), (ha, .inr (1, [.int v, .ref b])), (b, .inl (k 0, 78, .inl g))] H := hP
        have hD : va_D A_0 [(h, .inr (7, [.int v, .ref hm, .ref hr, .ref he, .ref ht, .ref hs, .ref ha, .ref hte, .ref hab, .ref hd, .ref hp, .int 0])), (hr, .inr (5, [.ref ar, .int (nI (tr.1))])), (ar, .inl (k 0, 1000, .inl tr.2)), (hte, .inr (6, [.ref hm, .ref he, .ref ht, .ref hwr, .ref hbr])), (he, .inr (5, [.ref ae, .int (nI (tE.1))])), (ae, .inl (k 0, 96, .inl tE.2)), (hm, .inr (5, [.ref am, .int (nI (tm.1))])), (am, .inl (k 0, 3000, .inl tm.2)), (ht, .inr (5, [.ref at_, .int (nI ((tf0 v g tm tE tm.1 pl.toNatClampNeg (rd_0, r, (rw_c 0 t))).2.2.2.1))])), (at_, .inl (k 0, 1000, .inl ((tf0 v g tm tE tm.1 pl.toNatClampNeg (rd_0, r, (rw_c 0 t))).2.2.2.2))), (hbr, .inr (4, [.int v, .ref ha, .int ((tf0 v g tm tE tm.1 pl.toNatClampNeg (rd_0, r, (rw_c 0 t))).2.2.1.1), .int ((tf0 v g tm tE tm.1 pl.toNatClampNeg (rd_0, r, (rw_c 0 t))).2.2.1.2.1), .int ((tf0 v g tm tE tm.1 pl.toNatClampNeg (rd_0, r, (rw_c 0 t))).2.2.1.2.2.1), .int ((tf0 v g tm tE tm.1 pl.toNatClampNeg (rd_0, r, (rw_c 0 t))).2.2.1.2.2.2)])), (hwr, .inr (4, [.int v, .ref ha, .int ((tf0 v g tm tE tm.1 pl.toNatClampNeg (rd_0, r, (rw_c 0 t))).2.1.1), .int ((tf0 v g tm tE tm.1 pl.toNatClampNeg (rd_0, r, (rw_c 0 t))).2.1.2.1), .int ((tf0 v g tm tE tm.1 pl.toNatClampNeg (rd_0, r, (rw_c 0 t))).2.1.2.2.1), .int ((tf0 v g tm tE tm.1 pl.toNatClampNeg (rd_0, r, (rw_c 0 t))).2.1.2.2.2)])), (ha, .inr (1, [.int v, .ref b])), (b, .inl (k 0, 78, .inl g))] := hD
        refine lv_bipush (v := (-10)) hx_ hb_ dX7_tell_40 (by decide) ?_
        refine lv_iload_n hx_ hb_ dX7_tell_42 rfl (lv_at hl 0 rfl) ?_
        refine lv_iadd hx_ hb_ dX7_tell_43 ?_
        have eq1 : (0 : Int32) = (zt v g tm tE pl bh tr t r r0).2.1 := by simp [zt, zt_z, eq_false cc1, eq_true cc2, eq_false cc7]
        have eq2 : (nI (tr.1) : Int32) = nI ((zt v g tm tE pl bh tr t r r0).2.2.1.1) := by simp [zt, zt_z, eq_false cc1, eq_true cc2, eq_false cc7]
        have eq3 : (tr.2 : Nat → Int32) = (zt v g tm tE pl bh tr t r r0).2.2.1.2 := by simp [zt, zt_z, eq_false cc1, eq_true cc2, eq_false cc7]
        have eq4 : (nI ((tf0 v g tm tE tm.1 pl.toNatClampNeg (rd_0, r, (rw_c 0 t))).2.2.2.1) : Int32) = nI ((zt v g tm tE pl bh tr t r r0).2.2.2.1.1) := by simp [zt, zt_z, eq_false cc1, eq_true cc2, eq_false cc7]
        have eq5 : ((tf0 v g tm tE tm.1 pl.toNatClampNeg (rd_0, r, (rw_c 0 t))).2.2.2.2 : Nat → Int32) = (zt v g tm tE pl bh tr t r r0).2.2.2.1.2 := by simp [zt, zt_z, eq_false cc1, eq_true cc2, eq_false cc7]
        have eq6 : ((tf0 v g tm tE tm.1 pl.toNatClampNeg (rd_0, r, (rw_c 0 t))).2.2.1.1 : Int32) = (zt v g tm tE pl bh tr t r r0).2.2.2.2.1.1 := by simp [zt, zt_z, eq_false cc1, eq_true cc2, eq_false cc7]
        have eq7 : ((tf0 v g tm tE tm.1 pl.toNatClampNeg (rd_0, r, (rw_c 0 t))).2.2.1.2.1 : Int32) = (zt v g tm tE pl bh tr t r r0).2.2.2.2.1.2.1 := by simp [zt, zt_z, eq_false cc1, eq_true cc2, eq_false cc7]
        have eq8 : ((tf0 v g tm tE tm.1 pl.toNatClampNeg (rd_0, r, (rw_c 0 t))).2.2.1.2.2.1 : Int32) = (zt v g tm tE pl bh tr t r r0).2.2.2.2.1.2.2.1 := by simp [zt, zt_z, eq_false cc1, eq_true cc2, eq_false cc7]
        have eq9 : ((tf0 v g tm tE tm.1 pl.toNatClampNeg (rd_0, r, (rw_c 0 t))).2.2.1.2.2.2 : Int32) = (zt v g tm tE pl bh tr t r r0).2.2.2.2.1.2.2.2 := by simp [zt, zt_z, eq_false cc1, eq_true cc2, eq_false cc7]
        have eq10 : ((tf0 v g tm tE tm.1 pl.toNatClampNeg (rd_0, r, (rw_c 0 t))).2.1.1 : Int32) = (zt v g tm tE pl bh tr t r r0).2.2.2.2.2.1 := by simp [zt, zt_z, eq_false cc1, eq_true cc2, eq_false cc7]
        have eq11 : ((tf0 v g tm tE tm.1 pl.toNatClampNeg (rd_0, r, (rw_c 0 t))).2.1.2.1 : Int32) = (zt v g tm tE pl bh tr t r r0).2.2.2.2.2.2.1 := by simp [zt, zt_z, eq_false cc1, eq_true cc2, eq_false cc7]
        have eq12 : ((tf0 v g tm tE tm.1 pl.toNatClampNeg (rd_0, r, (rw_c 0 t))).2.1.2.2.1 : Int32) = (zt v g tm tE pl bh tr t r r0).2.2.2.2.2.2.2.1 := by simp [zt, zt_z, eq_false cc1, eq_true cc2, eq_false cc7]
        have eq13 : ((tf0 v g tm tE tm.1 pl.toNatClampNeg (rd_0, r, (rw_c 0 t))).2.1.2.2.2 : Int32) = (zt v g tm tE pl bh tr t r r0).2.2.2.2.2.2.2.2 := by simp [zt, zt_z, eq_false cc1, eq_true cc2, eq_false cc7]
        have eqr : ((-10) + ((tf0 v g tm tE tm.1 pl.toNatClampNeg (rd_0, r, (rw_c 0 t))).1) : Int32) = (zt v g tm tE pl bh tr t r r0).1 := by simp [zt, zt_z, eq_false cc1, eq_true cc2, eq_false cc7]
        exact ct_iret C_0 (hP.sub [0, 3, 6, 7, 1, 2, 4, 5, 8, 9, 10, 11, 12, 13] rfl) (hD.sub [0, 3, 6, 7, 1, 2, 4, 5, 8, 9, 10, 11, 12, 13] (by decide) rfl) hS (Nat.le_of_ble_eq_true rfl) (Nat.le_of_ble_eq_true rfl) dX7_tell_44 (⟨eqr, congr (congr (congr (congr (congr (congr (congr (congr (congr (congr (congr (congr (congrArg (fun (z1 : Int32) (z2 : Int32) (z3 : Nat → Int32) (z4 : Int32) (z5 : Nat → Int32) (z6 : Int32) (z7 : Int32) (z8 : Int32) (z9 : Int32) (z10 : Int32) (z11 : Int32) (z12 : Int32) (z13 : Int32) => ([(h, .inr (7, [.int v, .ref hm, .ref hr, .ref he, .ref ht, .ref hs, .ref ha, .ref hte, .ref hab, .ref hd, .ref hp, .int z1])), (hte, .inr (6, [.ref hm, .ref he, .ref ht, .ref hwr, .ref hbr])), (hm, .inr (5, [.ref am, .int (nI (tm.1))])), (am, .inl (k 0, 3000, .inl tm.2)), (hr, .inr (5, [.ref ar, .int z2])), (ar, .inl (k 0, 1000, .inl z3)), (he, .inr (5, [.ref ae, .int (nI (tE.1))])), (ae, .inl (k 0, 96, .inl tE.2)), (ht, .inr (5, [.ref at_, .int z4])), (at_, .inl (k 0, 1000, .inl z5)), (hbr, .inr (4, [.int v, .ref ha, .int z6, .int z7, .int z8, .int z9])), (hwr, .inr (4, [.int v, .ref ha, .int z10, .int z11, .int z12, .int z13])), (ha, .inr (1, [.int v, .ref b])), (b, .inl (k 0, 78, .inl g))] : va_W)) eq1) eq2) eq3) eq4) eq5) eq6) eq7) eq8) eq9) eq10) eq11) eq12) eq13⟩)
    · skip
      refine lv_bipush (v := (-2)) hx_ hb_ dX7_tell_11 (by decide) ?_
      have eq1 : (bh : Int32) = (zt v g tm tE pl bh tr t r r0).2.1 := by simp [zt, zt_z, eq_false cc1, eq_false cc2]
      have eq2 : (nI (tr.1) : Int32) = nI ((zt v g tm tE pl bh tr t r r0).2.2.1.1) := by simp [zt, zt_z, eq_false cc1, eq_false cc2]
      have eq3 : (tr.2 : Nat → Int32) = (zt v g tm tE pl bh tr t r r0).2.2.1.2 := by simp [zt, zt_z, eq_false cc1, eq_false cc2]
      have eq4 : (nI (t.1) : Int32) = nI ((zt v g tm tE pl bh tr t r r0).2.2.2.1.1) := by simp [zt, zt_z, eq_false cc1, eq_false cc2]
      have eq5 : (t.2 : Nat → Int32) = (zt v g tm tE pl bh tr t r r0).2.2.2.1.2 := by simp [zt, zt_z, eq_false cc1, eq_false cc2]
      have eq6 : (r.1 : Int32) = (zt v g tm tE pl bh tr t r r0).2.2.2.2.1.1 := by simp [zt, zt_z, eq_false cc1, eq_false cc2]
      have eq7 : (r.2.1 : Int32) = (zt v g tm tE pl bh tr t r r0).2.2.2.2.1.2.1 := by simp [zt, zt_z, eq_false cc1, eq_false cc2]
      have eq8 : (r.2.2.1 : Int32) = (zt v g tm tE pl bh tr t r r0).2.2.2.2.1.2.2.1 := by simp [zt, zt_z, eq_false cc1, eq_false cc2]
      have eq9 : (r.2.2.2 : Int32) = (zt v g tm tE pl bh tr t r r0).2.2.2.2.1.2.2.2 := by simp [zt, zt_z, eq_false cc1, eq_false cc2]
      have eq10 : (r0.1 : Int32) = (zt v g tm tE pl bh tr t r r0).2.2.2.2.2.1 := by simp [zt, zt_z, eq_false cc1, eq_false cc2]
      have eq11 : (r0.2.1 : Int32) = (zt v g tm tE pl bh tr t r r0).2.2.2.2.2.2.1 := by simp [zt, zt_z, eq_false cc1, eq_false cc2]
      have eq12 : (r0.2.2.1 : Int32) = (zt v g tm tE pl bh tr t r r0).2.2.2.2.2.2.2.1 := by simp [zt, zt_z, eq_false cc1, eq_false cc2]
      have eq13 : (r0.2.2.2 : Int32) = (zt v g tm tE pl bh tr t r r0).2.2.2.2.2.2.2.2 := by simp [zt, zt_z, eq_false cc1, eq_false cc2]
      have eqr : ((-2) : Int32) = (zt v g tm tE pl bh tr t r r0).1 := by simp [zt, zt_z, eq_false cc1, eq_false cc2]
      exact ct_iret C_0 (hP.sub [0, 1, 2, 3, 4, 5, 6, 7, 8, 9, 10, 11, 12, 13] rfl) (hD.sub [0, 1, 2, 3, 4, 5, 6, 7, 8, 9, 10, 11, 12, 13] (by decide) rfl) hS (Nat.le_of_ble_eq_true rfl) (Nat.le_of_ble_eq_true rfl) dX7_tell_13 (⟨eqr, congr (congr (congr (congr (congr (congr (congr (congr (congr (congr (congr (congr (congrArg (fun (z1 : Int32) (z2 : Int32) (z3 : Nat → Int32) (z4 : Int32) (z5 : Nat → Int32) (z6 : Int32) (z7 : Int32) (z8 : Int32) (z9 : Int32) (z10 : Int32) (z11 : Int32) (z12 : Int32) (z13 : Int32) => ([(h, .inr (7, [.int v, .ref hm, .ref hr, .ref he, .ref ht, .ref hs, .ref ha, .ref hte, .ref hab, .ref hd, .ref hp, .int z1])), (hte, .inr (6, [.ref hm, .ref he, .ref ht, .ref hwr, .ref hbr])), (hm, .inr (5, [.ref am, .int (nI (tm.1))])), (am, .inl (k 0, 3000, .inl tm.2)), (hr, .inr (5, [.ref ar, .int z2])), (ar, .inl (k 0, 1000, .inl z3)), (he, .inr (5, [.ref ae, .int (nI (tE.1))])), (ae, .inl (k 0, 96, .inl tE.2)), (ht, .inr (5, [.ref at_, .int z4])), (at_, .inl (k 0, 1000, .inl z5)), (hbr, .inr (4, [.int v, .ref ha, .int z6, .int z7, .int z8, .int z9])), (hwr, .inr (4, [.int v, .ref ha, .int z10, .int z11, .int z12, .int z13])), (ha, .inr (1, [.int v, .ref b])), (b, .inl (k 0, 78, .inl g))] : va_W)) eq1) eq2) eq3) eq4) eq5) eq6) eq7) eq8) eq9) eq10) eq11) eq12) eq13⟩)
abbrev po_X7_spellRow_0 (k : Nat → ClassId) (h : Nat) (v : Int32) (hm : Nat) (hr : Nat) (he : Nat) (ht : Nat) (hs : Nat) (ha : Nat) (hte : Nat) (hab : Nat) (hd : Nat) (hp : Nat) (bh : Int32) (ar : Nat) (tr : TT) (as_ : Nat) (ts : TT) (b : Nat) (g : Nat → Int32) : va_W → Prop := fun w1 => w1 = [(h, .inr (7, [.int v, .ref hm, .ref hr, .ref he, .ref ht, .ref hs, .ref ha, .ref hte, .ref hab, .ref hd, .ref hp, .int bh])), (hr, .inr (5, [.ref ar, .int (nI (tr.1))])), (ar, .inl (k 0, 1000, .inl tr.2)), (hs, .inr (5, [.ref as_, .int (nI ((sr_all v g tr tr.1 0 (rw_c 0 ts)).1))])), (as_, .inl (k 0, 4002, .inl ((sr_all v g tr tr.1 0 (rw_c 0 ts)).2))), (ha, .inr (1, [.int v, .ref b])), (b, .inl (k 0, 78, .inl g))]
set_option maxHeartbeats 4000000 in
set_option maxRecDepth 100000 in
/-- spellRow(0) -/
theorem k_X7_spellRow_0 (l : Launch) (D : va_G) (k : Nat → ClassId) (h : Nat) (v : Int32) (hm : Nat) (hr : Nat) (he : Nat) (ht : Nat) (hs : Nat) (ha : Nat) (hte : Nat) (hab : Nat) (hd : Nat) (hp : Nat) (bh : Int32) (ar : Nat) (tr : TT) (as_ : Nat) (ts : TT) (b : Nat) (g : Nat → Int32) (hr0 : tr.1 ≤ 1000) (hs0 : ts.1 ≤ 4002) : ct_v l D (TY k) yX7_spellRow wsX7_spellRow ({ frames := 3, cells := 0, slots := 0, locals := 66 } : Room) [.ref h, .int 0] [(h, .inr (7, [.int v, .ref hm, .ref hr, .ref he, .ref ht, .ref hs, .ref ha, .ref hte, .ref hab, .ref hd, .ref hp, .int bh])), (hr, .inr (5, [.ref ar, .int (nI (tr.1))])), (ar, .inl (k 0, 1000, .inl tr.2)), (hs, .inr (5, [.ref as_, .int (nI (ts.1))])), (as_, .inl (k 0, 4002, .inl ts.2)), (ha, .inr (1, [.int v, .ref b])), (b, .inl (k 0, 78, .inl g))] (po_X7_spellRow_0 k h v hm hr he ht hs ha hte hab hd hp bh ar tr as_ ts b g) := by
  refine ct_v_of (cc := cX7_spellRow) (nL := 3) (rt := none) (by decide) rfl (Nat.le_of_ble_eq_true rfl) ?_
  intro p_ e_ s_0 m_0 below_ meth_ c_0 A_0 C_0 hP hK hD hS hA ls hl
  obtain ⟨hx_, hb_, hml_, hr_, hown_, hlk_, hnm_, hts_⟩ := id C_0
  have hl : lv_has ls 3 [(0, .ref h), (1, .int 0)] := hl
  refine lv_aload_n hx_ hb_ dX7_spellRow_0 rfl (lv_at hl 0 rfl) ?_
  refine va_get (D := D) (ci := 7) (v := .ref hs) (C := RX7) (T := TX7) (N := 12) hx_ hb_ hts_ inM_X7 hown_ hK.1 hP 0 rfl rfl 5 (by decide) (hts_ _ (List.mem_cons_of_mem _ wa_f_X7_44)) (fun _ h9 => h9) rfl dX7_spellRow_1 ?_
  refine lv_iconst (v := 0) hx_ hb_ dX7_spellRow_4 (by decide) ?_
  refine ct_Vv (wr := [(h, .inr (7, [.int v, .ref hm, .ref hr, .ref he, .ref ht, .ref hs, .ref ha, .ref hte, .ref hab, .ref hd, .ref hp, .int bh])), (hr, .inr (5, [.ref ar, .int (nI (tr.1))])), (ar, .inl (k 0, 1000, .inl tr.2)), (ha, .inr (1, [.int v, .ref b])), (b, .inl (k 0, 78, .inl g))]) (rest := []) (As := [.int 0]) ⟨hx_, hb_, hml_, hown_, hts_⟩ (k_X5_cut l D k hs as_ 4002 ts 0 ) (cwV 1 hts_ (gd_in (gw_V wa_m_X7_111 wa_y_X5_cut wa_s_X5_cut wa_i_X5 wa_k_X5_cut)) rfl rfl rfl (by decide +kernel) ⟨Nat.le_of_ble_eq_true rfl, Nat.le_of_ble_eq_true rfl⟩) hK hP hD hS hA [3, 4] [0, 1, 2, 5, 6] rfl rfl rfl rfl (by decide) 5 rfl rfl rfl hl.1 rfl rfl (Nat.le_of_ble_eq_true rfl) dX7_spellRow_5 ⟨Nat.le_of_ble_eq_true rfl, Nat.le_of_ble_eq_true rfl⟩ (fun w1 H locs ww2 hP hD hS => ?_)
  obtain rfl := ww2
  have hP : va_P D vwCl [(h, .inr (7, [.int v, .ref hm, .ref hr, .ref he, .ref ht, .ref hs, .ref ha, .ref hte, .ref hab, .ref hd, .ref hp, .int bh])), (hr, .inr (5, [.ref ar, .int (nI (tr.1))])), (ar, .inl (k 0, 1000, .inl tr.2)), (ha, .inr (1, [.int v, .ref b])), (b, .inl (k 0, 78, .inl g)), (hs, .inr (5, [.ref as_, .int (nI ((rw_c 0 ts).1))])), (as_, .inl (k 0, 4002, .inl ((rw_c 0 ts).2)))] H := hP
  have hD : va_D A_0 [(h, .inr (7, [.int v, .ref hm, .ref hr, .ref he, .ref ht, .ref hs, .ref ha, .ref hte, .ref hab, .ref hd, .ref hp, .int bh])), (hr, .inr (5, [.ref ar, .int (nI (tr.1))])), (ar, .inl (k 0, 1000, .inl tr.2)), (ha, .inr (1, [.int v, .ref b])), (b, .inl (k 0, 78, .inl g)), (hs, .inr (5, [.ref as_, .int (nI ((rw_c 0 ts).1))])), (as_, .inl (k 0, 4002, .inl ((rw_c 0 ts).2)))] := hD
  refine W.cs (cells' := 0) (slots' := 0) rfl rfl ?_
  refine lv_iload_n hx_ hb_ dX7_spellRow_8 rfl (lv_at hl 1 rfl) ?_
  refine lv_iconst (v := 1) hx_ hb_ dX7_spellRow_9 (by decide) ?_
  refine lv_icmp_ne (tgt := 51) hx_ hb_ dX7_spellRow_10 (by decide) (fun cc3 => ?_) (fun cc3 => ?_)
  · skip
    refine lv_iconst (v := 0) hx_ hb_ dX7_spellRow_51 (by decide) ?_
    refine lv_istore_n (lv' := [(2, .int 0), (0, .ref h), (1, .int 0)]) hx_ hb_ dX7_spellRow_52 rfl hl (by decide) rfl (fun ls hl => ?_)
    have lp53 : ∀ (fu : Nat) (i : Nat) (t1 : TT) (H : Heap) (locs : List Loc) (ls : Array Slot), tr.1 - i < fu → (i ≤ tr.1) → (t1.1 ≤ 4002) → (sr_all v g tr tr.1 0 (rw_c 0 ts) = sr_all v g tr (tr.1 - i) i t1) → va_P D vwCl [(h, .inr (7, [.int v, .ref hm, .ref hr, .ref he, .ref ht, .ref hs, .ref ha, .ref hte, .ref hab, .ref hd, .ref hp, .int bh])), (hr, .inr (5, [.ref ar, .int (nI (tr.1))])), (ar, .inl (k 0, 1000, .inl tr.2)), (hs, .inr (5, [.ref as_, .int (nI (t1.1))])), (as_, .inl (k 0, 4002, .inl t1.2)), (ha, .inr (1, [.int v, .ref b])), (b, .inl (k 0, 78, .inl g))] H → va_D A_0 [(h, .inr (7, [.int v, .ref hm, .ref hr, .ref he, .ref ht, .ref hs, .ref ha, .ref hte, .ref hab, .ref hd, .ref hp, .int bh])), (hr, .inr (5, [.ref ar, .int (nI (tr.1))])), (ar, .inl (k 0, 1000, .inl tr.2)), (hs, .inr (5, [.ref as_, .int (nI (t1.1))])), (as_, .inl (k 0, 4002, .inl t1.2)), (ha, .inr (1, [.int v, .ref b])), (b, .inl (k 0, 78, .inl g))] → va_S A_0 s_0.heap H locs → lv_has ls 3 [(0, .ref h), (2, .int (nI i))] → W p_ l e_ (headSpec wsX7_spellRow ({ frames := 3, cells := 0, slots := 0, locals := 66 } : Room)).room s_0 m_0 (([.ref h, .int 0] : List Value).toArray) below_ meth_ c_0 H locs 0 0 (ct_Zv below_ D (po_X7_spellRow_0 k h v hm hr he ht hs ha hte hab hd hp bh ar tr as_ ts b g) A_0 (([.ref h, .int 0] : List Value).toArray) s_0 0 0) (F0 m_0 53 ls []) := by
      intro fu
      induction fu with
      | zero => intro i t1 H locs ls hm_; exact absurd hm_ (Nat.not_lt_zero _)
      | succ fu ih53 =>
        intro i t1 H locs ls hm_ hi ht1 hez hP hD hS hl
        refine lv_iload_n hx_ hb_ dX7_spellRow_53 rfl (lv_at hl 1 rfl) ?_
        refine lv_aload_n hx_ hb_ dX7_spellRow_54 rfl (lv_at hl 0 rfl) ?_
        refine va_get (D := D) (ci := 7) (v := .ref hr) (C := RX7) (T := TX7) (N := 12) hx_ hb_ hts_ inM_X7 hown_ hK.1 hP 0 rfl rfl 2 (by decide) (hts_ _ (List.mem_cons_of_mem _ wa_f_X7_31)) (fun _ h9 => h9) rfl dX7_spellRow_55 ?_
        refine ct_Vi (wr := [(h, .inr (7, [.int v, .ref hm, .ref hr, .ref he, .ref ht, .ref hs, .ref ha, .ref hte, .ref hab, .ref hd, .ref hp, .int bh])), (hs, .inr (5, [.ref as_, .int (nI (t1.1))])), (as_, .inl (k 0, 4002, .inl t1.2)), (ha, .inr (1, [.int v, .ref b])), (b, .inl (k 0, 78, .inl g))]) (rest := [.int (nI i)]) (As := []) ⟨hx_, hb_, hml_, hown_, hts_⟩ (k_X5_count l D k hr ar 1000 tr ) (cwV 0 hts_ (gd_in (gw_V wa_m_X7_107 wa_y_X5_count wa_s_X5_count wa_i_X5 wa_k_X5_count)) rfl rfl rfl (by decide +kernel) ⟨Nat.le_of_ble_eq_true rfl, Nat.le_of_ble_eq_true rfl⟩) hK hP hD hS hA [1, 2] [0, 3, 4, 5, 6] rfl rfl rfl rfl (by decide) 5 rfl rfl rfl hl.1 rfl rfl (Nat.le_of_ble_eq_true rfl) dX7_spellRow_58 ⟨Nat.le_of_ble_eq_true rfl, Nat.le_of_ble_eq_true rfl⟩ (fun rr4 w1 H locs ww5 hP hD hS => ?_)
        obtain ⟨rfl, rfl⟩ := ww5
        have hP : va_P D vwCl [(h, .inr (7, [.int v, .ref hm, .ref hr, .ref he, .ref ht, .ref hs, .ref ha, .ref hte, .ref hab, .ref hd, .ref hp, .int bh])), (hs, .inr (5, [.ref as_, .int (nI (t1.1))])), (as_, .inl (k 0, 4002, .inl t1.2)), (ha, .inr (1, [.int v, .ref b])), (b, .inl (k 0, 78, .inl g)), (hr, .inr (5, [.ref ar, .int (nI (tr.1))])), (ar, .inl (k 0, 1000, .inl tr.2))] H := hP
        have hD : va_D A_0 [(h, .inr (7, [.int v, .ref hm, .ref hr, .ref he, .ref ht, .ref hs, .ref ha, .ref hte, .ref hab, .ref hd, .ref hp, .int bh])), (hs, .inr (5, [.ref as_, .int (nI (t1.1))])), (as_, .inl (k 0, 4002, .inl t1.2)), (ha, .inr (1, [.int v, .ref b])), (b, .inl (k 0, 78, .inl g)), (hr, .inr (5, [.ref ar, .int (nI (tr.1))])), (ar, .inl (k 0, 1000, .inl tr.2))] := hD
        refine W.cs (cells' := 0) (slots' := 0) rfl rfl ?_
        refine lv_icmp_ge (tgt := 89) hx_ hb_ dX7_spellRow_61 (by decide) (fun cc6 => ?_) (fun cc6 => ?_)
        · have nn6 : (tr.1) ≤ i := (nI_leI (a := (tr.1)) (b := i) (by first | omega | assumption | exact ht1) (by first | omega | assumption | exact ht1)).mp cc6
          have nn6m : ¬ i < (tr.1) := by omega
          have eq1 : (nI (t1.1) : Int32) = nI ((sr_all v g tr tr.1 0 (rw_c 0 ts)).1) := by rw [hez, show tr.1 - i = 0 by omega]; rfl
          have eq2 : (t1.2 : Nat → Int32) = (sr_all v g tr tr.1 0 (rw_c 0 ts)).2 := by rw [hez, show tr.1 - i = 0 by omega]; rfl
          exact ct_vret C_0 (hP.sub [0, 5, 6, 1, 2, 3, 4] rfl) (hD.sub [0, 5, 6, 1, 2, 3, 4] (by decide) rfl) hS (Nat.le_of_ble_eq_true rfl) (Nat.le_of_ble_eq_true rfl) dX7_spellRow_89 (congr (congrArg (fun (z1 : Int32) (z2 : Nat → Int32) => ([(h, .inr (7, [.int v, .ref hm, .ref hr, .ref he, .ref ht, .ref hs, .ref ha, .ref hte, .ref hab, .ref hd, .ref hp, .int bh])), (hr, .inr (5, [.ref ar, .int (nI (tr.1))])), (ar, .inl (k 0, 1000, .inl tr.2)), (hs, .inr (5, [.ref as_, .int z1])), (as_, .inl (k 0, 4002, .inl z2)), (ha, .inr (1, [.int v, .ref b])), (b, .inl (k 0, 78, .inl g))] : va_W)) eq1) eq2)
        · have nn6 : ¬ (tr.1) ≤ i := fun hh => cc6 ((nI_leI (a := (tr.1)) (b := i) (by first | omega | assumption | exact ht1) (by first | omega | assumption | exact ht1)).mpr hh)
          have nn6m : i < (tr.1) := by omega
          refine lv_aload_n hx_ hb_ dX7_spellRow_64 rfl (lv_at hl 0 rfl) ?_
          refine va_get (D := D) (ci := 7) (v := .ref ha) (C := RX7) (T := TX7) (N := 12) hx_ hb_ hts_ inM_X7 hown_ hK.1 hP 0 rfl rfl 6 (by decide) (hts_ _ (List.mem_cons_of_mem _ wa_f_X7_50)) (fun _ h9 => h9) rfl dX7_spellRow_65 ?_
          refine lv_aload_n hx_ hb_ dX7_spellRow_68 rfl (lv_at hl 0 rfl) ?_
          refine va_get (D := D) (ci := 7) (v := .ref hr) (C := RX7) (T := TX7) (N := 12) hx_ hb_ hts_ inM_X7 hown_ hK.1 hP 0 rfl rfl 2 (by decide) (hts_ _ (List.mem_cons_of_mem _ wa_f_X7_31)) (fun _ h9 => h9) rfl dX7_spellRow_69 ?_
          refine lv_iload_n hx_ hb_ dX7_spellRow_72 rfl (lv_at hl 1 rfl) ?_
          refine ct_Vi (wr := [(h, .inr (7, [.int v, .ref hm, .ref hr, .ref he, .ref ht, .ref hs, .ref ha, .ref hte, .ref hab, .ref hd, .ref hp, .int bh])), (hs, .inr (5, [.ref as_, .int (nI (t1.1))])), (as_, .inl (k 0, 4002, .inl t1.2)), (ha, .inr (1, [.int v, .ref b])), (b, .inl (k 0, 78, .inl g))]) (rest := [.ref ha]) (As := [.int (nI i)]) ⟨hx_, hb_, hml_, hown_, hts_⟩ (k_X5_get l D k hr ar 1000 tr (nI i) (by first | omega | assumption | exact ht1) (by first | omega | assumption | exact ht1)) (cwV 1 hts_ (gd_in (gw_V wa_m_X7_100 wa_y_X5_get wa_s_X5_get wa_i_X5 wa_k_X5_get)) rfl rfl rfl (by decide +kernel) ⟨Nat.le_of_ble_eq_true rfl, Nat.le_of_ble_eq_true rfl⟩) hK hP hD hS hA [5, 6] [0, 1, 2, 3, 4] rfl rfl rfl rfl (by decide) 5 rfl rfl rfl hl.1 rfl rfl (Nat.le_of_ble_eq_true rfl) dX7_spellRow_73 ⟨Nat.le_of_ble_eq_true rfl, Nat.le_of_ble_eq_true rfl⟩ (fun rr7 w1 H locs ww8 hP hD hS => ?_)
          obtain ⟨rfl, rfl⟩ := ww8
          have hP : va_P D vwCl [(h, .inr (7, [.int v, .ref hm, .ref hr, .ref he, .ref ht, .ref hs, .ref ha, .ref hte, .ref hab, .ref hd, .ref hp, .int bh])), (hs, .inr (5, [.ref as_, .int (nI (t1.1))])), (as_, .inl (k 0, 4002, .inl t1.2)), (ha, .inr (1, [.int v, .ref b])), (b, .inl (k 0, 78, .inl g)), (hr, .inr (5, [.ref ar, .int (nI (tr.1))])), (ar, .inl (k 0, 1000, .inl tr.2))] H := hP
          have hD : va_D A_0 [(h, .inr (7, [.int v, .ref hm, .ref hr, .ref he, .ref ht, .ref hs, .ref ha, .ref hte, .ref hab, .ref hd, .ref hp, .int bh])), (hs, .inr (5, [.ref as_, .int (nI (t1.1))])), (as_, .inl (k 0, 4002, .inl t1.2)), (ha, .inr (1, [.int v, .ref b])), (b, .inl (k 0, 78, .inl g)), (hr, .inr (5, [.ref ar, .int (nI (tr.1))])), (ar, .inl (k 0, 1000, .inl tr.2))] := hD
          refine W.cs (cells' := 0) (slots' := 0) rfl rfl ?_
          refine lv_aload_n hx_ hb_ dX7_spellRow_76 rfl (lv_at hl 0 rfl) ?_
          refine va_get (D := D) (ci := 7) (v := .ref hs) (C := RX7) (T := TX7) (N := 12) hx_ hb_ hts_ inM_X7 hown_ hK.1 hP 0 rfl rfl 5 (by decide) (hts_ _ (List.mem_cons_of_mem _ wa_f_X7_44)) (fun _ h9 => h9) rfl dX7_spellRow_77 ?_
          refine ct_Vv (wr := [(h, .inr (7, [.int v, .ref hm, .ref hr, .ref he, .ref ht, .ref hs, .ref ha, .ref hte, .ref hab, .ref hd, .ref hp, .int bh])), (hr, .inr (5, [.ref ar, .int (nI (tr.1))])), (ar, .inl (k 0, 1000, .inl tr.2))]) (rest := []) (As := [.int (rw_get tr.1 tr.2 (nI i)), .ref hs]) ⟨hx_, hb_, hml_, hown_, hts_⟩ (k_X1_spell l D k ha b v g hs as_ 4002 t1 (rw_get tr.1 tr.2 (nI i)) (by first | omega | assumption | exact ht1) (by first | omega | assumption | exact ht1)) (cwV 2 hts_ (gd_in (gw_V wa_m_X7_177 wa_y_X1_spell wa_s_X1_spell wa_i_X1 wa_k_X1_spell)) rfl rfl rfl (by decide +kernel) ⟨Nat.le_of_ble_eq_true rfl, Nat.le_of_ble_eq_true rfl⟩) hK hP hD hS hA [3, 4, 1, 2] [0, 5, 6] rfl rfl rfl rfl (by decide) 1 rfl rfl rfl hl.1 rfl rfl (Nat.le_of_ble_eq_true rfl) dX7_spellRow_80 ⟨Nat.le_of_ble_eq_true rfl, Nat.le_of_ble_eq_true rfl⟩ (fun w1 H locs ww10 hP hD hS => ?_)
          obtain rfl := ww10
          have hP : va_P D vwCl [(h, .inr (7, [.int v, .ref hm, .ref hr, .ref he, .ref ht, .ref hs, .ref ha, .ref hte, .ref hab, .ref hd, .ref hp, .int bh])), (hr, .inr (5, [.ref ar, .int (nI (tr.1))])), (ar, .inl (k 0, 1000, .inl tr.2)), (ha, .inr (1, [.int v, .ref b])), (b, .inl (k 0, 78, .inl g)), (hs, .inr (5, [.ref as_, .int (nI ((sp 4002 v g (rw_get tr.1 tr.2 (nI i)) t1).1))])), (as_, .inl (k 0, 4002, .inl ((sp 4002 v g (rw_get tr.1 tr.2 (nI i)) t1).2)))] H := hP
          have hD : va_D A_0 [(h, .inr (7, [.int v, .ref hm, .ref hr, .ref he, .ref ht, .ref hs, .ref ha, .ref hte, .ref hab, .ref hd, .ref hp, .int bh])), (hr, .inr (5, [.ref ar, .int (nI (tr.1))])), (ar, .inl (k 0, 1000, .inl tr.2)), (ha, .inr (1, [.int v, .ref b])), (b, .inl (k 0, 78, .inl g)), (hs, .inr (5, [.ref as_, .int (nI ((sp 4002 v g (rw_get tr.1 tr.2 (nI i)) t1).1))])), (as_, .inl (k 0, 4002, .inl ((sp 4002 v g (rw_get tr.1 tr.2 (nI i)) t1).2)))] := hD
          refine W.cs (cells' := 0) (slots' := 0) rfl rfl ?_
          refine lv_iinc (v := nI (i + 1)) (lv' := [(2, .int (nI (i + 1))), (0, .ref h)]) hx_ hb_ dX7_spellRow_83 hl (k := 1) rfl (nI_add _ _) (by decide) rfl (fun ls hl => ?_)
          refine lv_goto (tgt := 53) hx_ hb_ dX7_spellRow_86 (by decide) ?_
          exact ih53 (i + 1) (sp 4002 v g (rw_get tr.1 tr.2 (nI i)) t1) _ _ _ (by first | omega | assumption | exact ht1) (by first | omega | assumption | exact ht1) (by exact sp_le ht1) (by rw [hez, show tr.1 - i = (tr.1 - (i + 1)) + 1 by omega, sr_all]) (hP.sub [0, 1, 2, 5, 6, 3, 4] rfl) (hD.sub [0, 1, 2, 5, 6, 3, 4] (by decide) rfl) hS (lv_sub hl [1, 0] rfl)
    exact lp53 ((tr.1 - 0) + 1) 0 (rw_c 0 ts) _ _ _ (Nat.lt_succ_self _) (by first | omega | assumption | exact ht1) (by exact rw_c_le hs0 (by decide)) (by rfl) (hP.sub [0, 1, 2, 5, 6, 3, 4] rfl) (hD.sub [0, 1, 2, 5, 6, 3, 4] (by decide) rfl) hS (lv_sub hl [1, 0] rfl)
  · exact absurd cc3 (by decide)
abbrev po_X7_padSpelled (k : Nat → ClassId) (h : Nat) (v : Int32) (hm : Nat) (hr : Nat) (he : Nat) (ht : Nat) (hs : Nat) (ha : Nat) (hte : Nat) (hab : Nat) (hd : Nat) (hp : Nat) (bh : Int32) (as_ : Nat) (ts : TT) : va_W → Prop := fun w1 => w1 = [(h, .inr (7, [.int v, .ref hm, .ref hr, .ref he, .ref ht, .ref hs, .ref ha, .ref hte, .ref hab, .ref hd, .ref hp, .int bh])), (hs, .inr (5, [.ref as_, .int (nI ((pd ts).1))])), (as_, .inl (k 0, 4002, .inl ((pd ts).2)))]
set_option maxHeartbeats 4000000 in
set_option maxRecDepth 100000 in
/-- padSpelled -/
theorem k_X7_padSpelled (l : Launch) (D : va_G) (k : Nat → ClassId) (h : Nat) (v : Int32) (hm : Nat) (hr : Nat) (he : Nat) (ht : Nat) (hs : Nat) (ha : Nat) (hte : Nat) (hab : Nat) (hd : Nat) (hp : Nat) (bh : Int32) (as_ : Nat) (ts : TT) (hs0 : ts.1 ≤ 4002) : ct_v l D (TY k) yX7_padSpelled wsX7_padSpelled ({ frames := 1, cells := 0, slots := 0, locals := 21 } : Room) [.ref h] [(h, .inr (7, [.int v, .ref hm, .ref hr, .ref he, .ref ht, .ref hs, .ref ha, .ref hte, .ref hab, .ref hd, .ref hp, .int bh])), (hs, .inr (5, [.ref as_, .int (nI (ts.1))])), (as_, .inl (k 0, 4002, .inl ts.2))] (po_X7_padSpelled k h v hm hr he ht hs ha hte hab hd hp bh as_ ts) := by
  refine ct_v_of (cc := cX7_padSpelled) (nL := 3) (rt := none) (by decide) rfl (Nat.le_of_ble_eq_true rfl) ?_
  intro p_ e_ s_0 m_0 below_ meth_ c_0 A_0 C_0 hP hK hD hS hA ls hl
  obtain ⟨hx_, hb_, hml_, hr_, hown_, hlk_, hnm_, hts_⟩ := id C_0
  have hl : lv_has ls 3 [(0, .ref h)] := hl
  refine lv_aload_n hx_ hb_ dX7_padSpelled_0 rfl (lv_at hl 0 rfl) ?_
  refine va_get (D := D) (ci := 7) (v := .ref hs) (C := RX7) (T := TX7) (N := 12) hx_ hb_ hts_ inM_X7 hown_ hK.1 hP 0 rfl rfl 5 (by decide) (hts_ _ (List.mem_cons_of_mem _ wa_f_X7_44)) (fun _ h9 => h9) rfl dX7_padSpelled_1 ?_
  refine ct_Vi (wr := [(h, .inr (7, [.int v, .ref hm, .ref hr, .ref he, .ref ht, .ref hs, .ref ha, .ref hte, .ref hab, .ref hd, .ref hp, .int bh]))]) (rest := []) (As := []) ⟨hx_, hb_, hml_, hown_, hts_⟩ (k_X5_count l D k hs as_ 4002 ts ) (cwV 0 hts_ (gd_in (gw_V wa_m_X7_107 wa_y_X5_count wa_s_X5_count wa_i_X5 wa_k_X5_count)) rfl rfl rfl (by decide +kernel) ⟨Nat.le_of_ble_eq_true rfl, Nat.le_of_ble_eq_true rfl⟩) hK hP hD hS hA [1, 2] [0] rfl rfl rfl rfl (by decide) 5 rfl rfl rfl hl.1 rfl rfl (Nat.le_of_ble_eq_true rfl) dX7_padSpelled_4 ⟨Nat.le_of_ble_eq_true rfl, Nat.le_of_ble_eq_true rfl⟩ (fun rr1 w1 H locs ww2 hP hD hS => ?_)
  obtain ⟨rfl, rfl⟩ := ww2
  have hP : va_P D vwCl [(h, .inr (7, [.int v, .ref hm, .ref hr, .ref he, .ref ht, .ref hs, .ref ha, .ref hte, .ref hab, .ref hd, .ref hp, .int bh])), (hs, .inr (5, [.ref as_, .int (nI (ts.1))])), (as_, .inl (k 0, 4002, .inl ts.2))] H := hP
  have hD : va_D A_0 [(h, .inr (7, [.int v, .ref hm, .ref hr, .ref he, .ref ht, .ref hs, .ref ha, .ref hte, .ref hab, .ref hd, .ref hp, .int bh])), (hs, .inr (5, [.ref as_, .int (nI (ts.1))])), (as_, .inl (k 0, 4002, .inl ts.2))] := hD
  refine W.cs (cells' := 0) (slots' := 0) rfl rfl ?_
  refine lv_if_ne (tgt := 14) hx_ hb_ dX7_padSpelled_7 (by decide) (fun cc3 => ?_) (fun cc3 => ?_)
  · have nn3 : ¬ (ts.1) = 0 := fun hh => cc3 ((nI_eq (a := (ts.1)) (b := 0) (by first | omega | assumption | exact ht1) (by first | omega | assumption | exact ht1)).mpr hh)
    refine lv_iconst (v := 3) hx_ hb_ dX7_padSpelled_14 (by decide) ?_
    refine lv_aload_n hx_ hb_ dX7_padSpelled_15 rfl (lv_at hl 0 rfl) ?_
    refine va_get (D := D) (ci := 7) (v := .ref hs) (C := RX7) (T := TX7) (N := 12) hx_ hb_ hts_ inM_X7 hown_ hK.1 hP 0 rfl rfl 5 (by decide) (hts_ _ (List.mem_cons_of_mem _ wa_f_X7_44)) (fun _ h9 => h9) rfl dX7_padSpelled_16 ?_
    refine ct_Vi (wr := [(h, .inr (7, [.int v, .ref hm, .ref hr, .ref he, .ref ht, .ref hs, .ref ha, .ref hte, .ref hab, .ref hd, .ref hp, .int bh]))]) (rest := [.int 3]) (As := []) ⟨hx_, hb_, hml_, hown_, hts_⟩ (k_X5_count l D k hs as_ 4002 ts ) (cwV 0 hts_ (gd_in (gw_V wa_m_X7_107 wa_y_X5_count wa_s_X5_count wa_i_X5 wa_k_X5_count)) rfl rfl rfl (by decide +kernel) ⟨Nat.le_of_ble_eq_true rfl, Nat.le_of_ble_eq_true rfl⟩) hK hP hD hS hA [1, 2] [0] rfl rfl rfl rfl (by decide) 5 rfl rfl rfl hl.1 rfl rfl (Nat.le_of_ble_eq_true rfl) dX7_padSpelled_19 ⟨Nat.le_of_ble_eq_true rfl, Nat.le_of_ble_eq_true rfl⟩ (fun rr4 w1 H locs ww5 hP hD hS => ?_)
    obtain ⟨rfl, rfl⟩ := ww5
    have hP : va_P D vwCl [(h, .inr (7, [.int v, .ref hm, .ref hr, .ref he, .ref ht, .ref hs, .ref ha, .ref hte, .ref hab, .ref hd, .ref hp, .int bh])), (hs, .inr (5, [.ref as_, .int (nI (ts.1))])), (as_, .inl (k 0, 4002, .inl ts.2))] H := hP
    have hD : va_D A_0 [(h, .inr (7, [.int v, .ref hm, .ref hr, .ref he, .ref ht, .ref hs, .ref ha, .ref hte, .ref hab, .ref hd, .ref hp, .int bh])), (hs, .inr (5, [.ref as_, .int (nI (ts.1))])), (as_, .inl (k 0, 4002, .inl ts.2))] := hD
    refine W.cs (cells' := 0) (slots' := 0) rfl rfl ?_
    refine lv_iconst (v := 3) hx_ hb_ dX7_padSpelled_22 (by decide) ?_
    refine lv_irem hx_ hb_ dX7_padSpelled_23 (by decide) ?_
    refine lv_ti (y := nI ((ts.1) % 3)) (pk_rem (a := (ts.1)) (d := 3) (by first | omega | assumption | exact ht1) (by decide) (by decide)) ?_
    refine lv_isub hx_ hb_ dX7_padSpelled_24 ?_
    refine lv_ti (y := nI (3 - ts.1 % 3)) (pk_sub (a := 3) (b := ts.1 % 3) (by omega)) ?_
    refine lv_iconst (v := 3) hx_ hb_ dX7_padSpelled_25 (by decide) ?_
    refine lv_irem hx_ hb_ dX7_padSpelled_26 (by decide) ?_
    refine lv_ti (y := nI ((3 - ts.1 % 3) % 3)) (pk_rem (a := (3 - ts.1 % 3)) (d := 3) (by first | omega | assumption | exact ht1) (by decide) (by decide)) ?_
    refine lv_istore_n (lv' := [(1, .int (nI ((3 - ts.1 % 3) % 3))), (0, .ref h)]) hx_ hb_ dX7_padSpelled_27 rfl hl (by decide) rfl (fun ls hl => ?_)
    have hpd : pd_n ts = ((3 - ts.1 % 3) % 3) := by simp [pd_n, eq_false cc3, eq_false nn3]
    refine lv_iconst (v := 0) hx_ hb_ dX7_padSpelled_28 (by decide) ?_
    refine lv_istore_n (lv' := [(2, .int 0), (1, .int (nI ((3 - ts.1 % 3) % 3))), (0, .ref h)]) hx_ hb_ dX7_padSpelled_29 rfl hl (by decide) rfl (fun ls hl => ?_)
    have lp30 : ∀ (fu : Nat) (j : Nat) (mm : Nat) (lk : Nat) (t1 : TT) (H : Heap) (locs : List Loc) (ls : Array Slot), lk - j < fu → (lk ≤ 3) → (j + mm = lk) → (t1.1 ≤ 4002) → (pd ts = pd_all mm t1) → va_P D vwCl [(h, .inr (7, [.int v, .ref hm, .ref hr, .ref he, .ref ht, .ref hs, .ref ha, .ref hte, .ref hab, .ref hd, .ref hp, .int bh])), (hs, .inr (5, [.ref as_, .int (nI (t1.1))])), (as_, .inl (k 0, 4002, .inl t1.2))] H → va_D A_0 [(h, .inr (7, [.int v, .ref hm, .ref hr, .ref he, .ref ht, .ref hs, .ref ha, .ref hte, .ref hab, .ref hd, .ref hp, .int bh])), (hs, .inr (5, [.ref as_, .int (nI (t1.1))])), (as_, .inl (k 0, 4002, .inl t1.2))] → va_S A_0 s_0.heap H locs → lv_has ls 3 [(0, .ref h), (1, .int (nI lk)), (2, .int (nI j))] → W p_ l e_ (headSpec wsX7_padSpelled ({ frames := 1, cells := 0, slots := 0, locals := 21 } : Room)).room s_0 m_0 (([.ref h] : List Value).toArray) below_ meth_ c_0 H locs 0 0 (ct_Zv below_ D (po_X7_padSpelled k h v hm hr he ht hs ha hte hab hd hp bh as_ ts) A_0 (([.ref h] : List Value).toArray) s_0 0 0) (F0 m_0 30 ls []) := by
      intro fu
      induction fu with
      | zero => intro j mm lk t1 H locs ls hm_; exact absurd hm_ (Nat.not_lt_zero _)
      | succ fu ih30 =>
        intro j mm lk t1 H locs ls hm_ hlk hj ht1 hez hP hD hS hl
        refine lv_iload_n hx_ hb_ dX7_padSpelled_30 rfl (lv_at hl 2 rfl) ?_
        refine lv_iload_n hx_ hb_ dX7_padSpelled_31 rfl (lv_at hl 1 rfl) ?_
        refine lv_icmp_ge (tgt := 50) hx_ hb_ dX7_padSpelled_32 (by decide) (fun cc6 => ?_) (fun cc6 => ?_)
        · have nn6 : lk ≤ j := (nI_leI (a := lk) (b := j) (by first | omega | assumption | exact ht1) (by first | omega | assumption | exact ht1)).mp cc6
          have nn6m : ¬ j < lk := by omega
          have eq1 : (nI (t1.1) : Int32) = nI ((pd ts).1) := by rw [hez, show mm = 0 by omega]; rfl
          have eq2 : (t1.2 : Nat → Int32) = (pd ts).2 := by rw [hez, show mm = 0 by omega]; rfl
          exact ct_vret C_0 (hP.sub [0, 1, 2] rfl) (hD.sub [0, 1, 2] (by decide) rfl) hS (Nat.le_of_ble_eq_true rfl) (Nat.le_of_ble_eq_true rfl) dX7_padSpelled_50 (congr (congrArg (fun (z1 : Int32) (z2 : Nat → Int32) => ([(h, .inr (7, [.int v, .ref hm, .ref hr, .ref he, .ref ht, .ref hs, .ref ha, .ref hte, .ref hab, .ref hd, .ref hp, .int bh])), (hs, .inr (5, [.ref as_, .int z1])), (as_, .inl (k 0, 4002, .inl z2))] : va_W)) eq1) eq2)
        · have nn6 : ¬ lk ≤ j := fun hh => cc6 ((nI_leI (a := lk) (b := j) (by first | omega | assumption | exact ht1) (by first | omega | assumption | exact ht1)).mpr hh)
          have nn6m : j < lk := by omega
          refine lv_aload_n hx_ hb_ dX7_padSpelled_35 rfl (lv_at hl 0 rfl) ?_
          refine va_get (D := D) (ci := 7) (v := .ref hs) (C := RX7) (T := TX7) (N := 12) hx_ hb_ hts_ inM_X7 hown_ hK.1 hP 0 rfl rfl 5 (by decide) (hts_ _ (List.mem_cons_of_mem _ wa_f_X7_44)) (fun _ h9 => h9) rfl dX7_padSpelled_36 ?_
          refine lv_iconst (v := 5) hx_ hb_ dX7_padSpelled_39 (by decide) ?_
          refine ct_Vi (wr := [(h, .inr (7, [.int v, .ref hm, .ref hr, .ref he, .ref ht, .ref hs, .ref ha, .ref hte, .ref hab, .ref hd, .ref hp, .int bh]))]) (rest := []) (As := [.int 5]) ⟨hx_, hb_, hml_, hown_, hts_⟩ (k_X5_add l D k hs as_ 4002 t1 5 (by first | omega | assumption | exact ht1) (by first | omega | assumption | exact ht1)) (cwV 1 hts_ (gd_in (gw_V wa_m_X7_37 wa_y_X5_add wa_s_X5_add wa_i_X5 wa_k_X5_add)) rfl rfl rfl (by decide +kernel) ⟨Nat.le_of_ble_eq_true rfl, Nat.le_of_ble_eq_true rfl⟩) hK hP hD hS hA [1, 2] [0] rfl rfl rfl rfl (by decide) 5 rfl rfl rfl hl.1 rfl rfl (Nat.le_of_ble_eq_true rfl) dX7_padSpelled_40 ⟨Nat.le_of_ble_eq_true rfl, Nat.le_of_ble_eq_true rfl⟩ (fun rr7 w1 H locs ww8 hP hD hS => ?_)
          obtain ⟨rfl, rfl⟩ := ww8
          have hP : va_P D vwCl [(h, .inr (7, [.int v, .ref hm, .ref hr, .ref he, .ref ht, .ref hs, .ref ha, .ref hte, .ref hab, .ref hd, .ref hp, .int bh])), (hs, .inr (5, [.ref as_, .int (nI ((rw_a 4002 5 t1).1))])), (as_, .inl (k 0, 4002, .inl ((rw_a 4002 5 t1).2)))] H := hP
          have hD : va_D A_0 [(h, .inr (7, [.int v, .ref hm, .ref hr, .ref he, .ref ht, .ref hs, .ref ha, .ref hte, .ref hab, .ref hd, .ref hp, .int bh])), (hs, .inr (5, [.ref as_, .int (nI ((rw_a 4002 5 t1).1))])), (as_, .inl (k 0, 4002, .inl ((rw_a 4002 5 t1).2)))] := hD
          refine W.cs (cells' := 0) (slots' := 0) rfl rfl ?_
          refine lv_pop hx_ hb_ dX7_padSpelled_43 rfl ?_
          refine lv_iinc (v := nI (j + 1)) (lv' := [(2, .int (nI (j + 1))), (0, .ref h), (1, .int (nI lk))]) hx_ hb_ dX7_padSpelled_44 hl (k := 2) rfl (nI_add _ _) (by decide) rfl (fun ls hl => ?_)
          refine lv_goto (tgt := 30) hx_ hb_ dX7_padSpelled_47 (by decide) ?_
          exact ih30 (j + 1) (mm - 1) lk (rw_a 4002 5 t1) _ _ _ (by first | omega | assumption | exact ht1) (by first | omega | assumption | exact ht1) (by first | omega | assumption | exact ht1) (by exact rw_a_le ht1) (by rw [hez]; obtain ⟨m9, rfl⟩ : ∃ m9, mm = m9 + 1 := ⟨mm - 1, by omega⟩; rfl) (hP.sub [0, 1, 2] rfl) (hD.sub [0, 1, 2] (by decide) rfl) hS (lv_sub hl [1, 2, 0] rfl)
    exact lp30 ((((3 - ts.1 % 3) % 3) - 0) + 1) 0 ((3 - ts.1 % 3) % 3) ((3 - ts.1 % 3) % 3) ts _ _ _ (Nat.lt_succ_self _) (by first | omega | assumption | exact ht1) (by first | omega | assumption | exact ht1) (by exact hs0) (by rw [pd, hpd]) (hP.sub [0, 1, 2] rfl) (hD.sub [0, 1, 2] (by decide) rfl) hS (lv_sub hl [2, 1, 0] rfl)
  · have nn3 : (ts.1) = 0 := (nI_eq (a := (ts.1)) (b := 0) (by first | omega | assumption | exact ht1) (by first | omega | assumption | exact ht1)).mp cc3
    refine lv_iconst (v := 3) hx_ hb_ dX7_padSpelled_10 (by decide) ?_
    refine lv_goto (tgt := 27) hx_ hb_ dX7_padSpelled_11 (by decide) ?_
    refine lv_istore_n (lv' := [(1, .int 3), (0, .ref h)]) hx_ hb_ dX7_padSpelled_27 rfl hl (by decide) rfl (fun ls hl => ?_)
    have hpd : pd_n ts = 3 := by simp [pd_n, eq_true cc3, eq_true nn3]
    refine lv_iconst (v := 0) hx_ hb_ dX7_padSpelled_28 (by decide) ?_
    refine lv_istore_n (lv' := [(2, .int 0), (1, .int 3), (0, .ref h)]) hx_ hb_ dX7_padSpelled_29 rfl hl (by decide) rfl (fun ls hl => ?_)
    have lp30 : ∀ (fu : Nat) (j : Nat) (mm : Nat) (lk : Nat) (t1 : TT) (H : Heap) (locs : List Loc) (ls : Array Slot), lk - j < fu → (lk ≤ 3) → (j + mm = lk) → (t1.1 ≤ 4002) → (pd ts = pd_all mm t1) → va_P D vwCl [(h, .inr (7, [.int v, .ref hm, .ref hr, .ref he, .ref ht, .ref hs, .ref ha, .ref hte, .ref hab, .ref hd, .ref hp, .int bh])), (hs, .inr (5, [.ref as_, .int (nI (t1.1))])), (as_, .inl (k 0, 4002, .inl t1.2))] H → va_D A_0 [(h, .inr (7, [.int v, .ref hm, .ref hr, .ref he, .ref ht, .ref hs, .ref ha, .ref hte, .ref hab, .ref hd, .ref hp, .int bh])), (hs, .inr (5, [.ref as_, .int (nI (t1.1))])), (as_, .inl (k 0, 4002, .inl t1.2))] → va_S A_0 s_0.heap H locs → lv_has ls 3 [(0, .ref h), (1, .int (nI lk)), (2, .int (nI j))] → W p_ l e_ (headSpec wsX7_padSpelled ({ frames := 1, cells := 0, slots := 0, locals := 21 } : Room)).room s_0 m_0 (([.ref h] : List Value).toArray) below_ meth_ c_0 H locs 0 0 (ct_Zv below_ D (po_X7_padSpelled k h v hm hr he ht hs ha hte hab hd hp bh as_ ts) A_0 (([.ref h] : List Value).toArray) s_0 0 0) (F0 m_0 30 ls []) := by
      intro fu
      induction fu with
      | zero => intro j mm lk t1 H locs ls hm_; exact absurd hm_ (Nat.not_lt_zero _)
      | succ fu ih30 =>
        intro j mm lk t1 H locs ls hm_ hlk hj ht1 hez hP hD hS hl
        refine lv_iload_n hx_ hb_ dX7_padSpelled_30 rfl (lv_at hl 2 rfl) ?_
        refine lv_iload_n hx_ hb_ dX7_padSpelled_31 rfl (lv_at hl 1 rfl) ?_
        refine lv_icmp_ge (tgt := 50) hx_ hb_ dX7_padSpelled_32 (by decide) (fun cc9 => ?_) (fun cc9 => ?_)
        · have nn9 : lk ≤ j := (nI_leI (a := lk) (b := j) (by first | omega | assumption | exact ht1) (by first | omega | assumption | exact ht1)).mp cc9
          have nn9m : ¬ j < lk := by omega
          have eq1 : (nI (t1.1) : Int32) = nI ((pd ts).1) := by rw [hez, show mm = 0 by omega]; rfl
          have eq2 : (t1.2 : Nat → Int32) = (pd ts).2 := by rw [hez, show mm = 0 by omega]; rfl
          exact ct_vret C_0 (hP.sub [0, 1, 2] rfl) (hD.sub [0, 1, 2] (by decide) rfl) hS (Nat.le_of_ble_eq_true rfl) (Nat.le_of_ble_eq_true rfl) dX7_padSpelled_50 (congr (congrArg (fun (z1 : Int32) (z2 : Nat → Int32) => ([(h, .inr (7, [.int v, .ref hm, .ref hr, .ref he, .ref ht, .ref hs, .ref ha, .ref hte, .ref hab, .ref hd, .ref hp, .int bh])), (hs, .inr (5, [.ref as_, .int z1])), (as_, .inl (k 0, 4002, .inl z2))] : va_W)) eq1) eq2)
        · have nn9 : ¬ lk ≤ j := fun hh => cc9 ((nI_leI (a := lk) (b := j) (by first | omega | assumption | exact ht1) (by first | omega | assumption | exact ht1)).mpr hh)
          have nn9m : j < lk := by omega
          refine lv_aload_n hx_ hb_ dX7_padSpelled_35 rfl (lv_at hl 0 rfl) ?_
          refine va_get (D := D) (ci := 7) (v := .ref hs) (C := RX7) (T := TX7) (N := 12) hx_ hb_ hts_ inM_X7 hown_ hK.1 hP 0 rfl rfl 5 (by decide) (hts_ _ (List.mem_cons_of_mem _ wa_f_X7_44)) (fun _ h9 => h9) rfl dX7_padSpelled_36 ?_
          refine lv_iconst (v := 5) hx_ hb_ dX7_padSpelled_39 (by decide) ?_
          refine ct_Vi (wr := [(h, .inr (7, [.int v, .ref hm, .ref hr, .ref he, .ref ht, .ref hs, .ref ha, .ref hte, .ref hab, .ref hd, .ref hp, .int bh]))]) (rest := []) (As := [.int 5]) ⟨hx_, hb_, hml_, hown_, hts_⟩ (k_X5_add l D k hs as_ 4002 t1 5 (by first | omega | assumption | exact ht1) (by first | omega | assumption | exact ht1)) (cwV 1 hts_ (gd_in (gw_V wa_m_X7_37 wa_y_X5_add wa_s_X5_add wa_i_X5 wa_k_X5_add)) rfl rfl rfl (by decide +kernel) ⟨Nat.le_of_ble_eq_true rfl, Nat.le_of_ble_eq_true rfl⟩) hK hP hD hS hA [1, 2] [0] rfl rfl rfl rfl (by decide) 5 rfl rfl rfl hl.1 rfl rfl (Nat.le_of_ble_eq_true rfl) dX7_padSpelled_40 ⟨Nat.le_of_ble_eq_true rfl, Nat.le_of_ble_eq_true rfl⟩ (fun rr10 w1 H locs ww11 hP hD hS => ?_)
          obtain ⟨rfl, rfl⟩ := ww11
          have hP : va_P D vwCl [(h, .inr (7, [.int v, .ref hm, .ref hr, .ref he, .ref ht, .ref hs, .ref ha, .ref hte, .ref hab, .ref hd, .ref hp, .int bh])), (hs, .inr (5, [.ref as_, .int (nI ((rw_a 4002 5 t1).1))])), (as_, .inl (k 0, 4002, .inl ((rw_a 4002 5 t1).2)))] H := hP
          have hD : va_D A_0 [(h, .inr (7, [.int v, .ref hm, .ref hr, .ref he, .ref ht, .ref hs, .ref ha, .ref hte, .ref hab, .ref hd, .ref hp, .int bh])), (hs, .inr (5, [.ref as_, .int (nI ((rw_a 4002 5 t1).1))])), (as_, .inl (k 0, 4002, .inl ((rw_a 4002 5 t1).2)))] := hD
          refine W.cs (cells' := 0) (slots' := 0) rfl rfl ?_
          refine lv_pop hx_ hb_ dX7_padSpelled_43 rfl ?_
          refine lv_iinc (v := nI (j + 1)) (lv' := [(2, .int (nI (j + 1))), (0, .ref h), (1, .int (nI lk))]) hx_ hb_ dX7_padSpelled_44 hl (k := 2) rfl (nI_add _ _) (by decide) rfl (fun ls hl => ?_)
          refine lv_goto (tgt := 30) hx_ hb_ dX7_padSpelled_47 (by decide) ?_
          exact ih30 (j + 1) (mm - 1) lk (rw_a 4002 5 t1) _ _ _ (by first | omega | assumption | exact ht1) (by first | omega | assumption | exact ht1) (by first | omega | assumption | exact ht1) (by exact rw_a_le ht1) (by rw [hez]; obtain ⟨m9, rfl⟩ : ∃ m9, mm = m9 + 1 := ⟨mm - 1, by omega⟩; rfl) (hP.sub [0, 1, 2] rfl) (hD.sub [0, 1, 2] (by decide) rfl) hS (lv_sub hl [1, 2, 0] rfl)
    exact lp30 ((3 - 0) + 1) 0 3 3 ts _ _ _ (Nat.lt_succ_self _) (by first | omega | assumption | exact ht1) (by first | omega | assumption | exact ht1) (by exact hs0) (by rw [pd, hpd]) (hP.sub [0, 1, 2] rfl) (hD.sub [0, 1, 2] (by decide) rfl) hS (lv_sub hl [2, 1, 0] rfl)
abbrev po_X7_writeSpelled (k : Nat → ClassId) (h : Nat) (v : Int32) (hm : Nat) (hr : Nat) (he : Nat) (ht : Nat) (hs : Nat) (ha : Nat) (hte : Nat) (hab : Nat) (hd : Nat) (hp : Nat) (bh : Int32) (am : Nat) (tm : TT) (as_ : Nat) (ts : TT) : va_W → Prop := fun w1 => w1 = [(h, .inr (7, [.int v, .ref hm, .ref hr, .ref he, .ref ht, .ref hs, .ref ha, .ref hte, .ref hab, .ref hd, .ref hp, .int bh])), (hs, .inr (5, [.ref as_, .int (nI (ts.1))])), (as_, .inl (k 0, 4002, .inl ts.2)), (hm, .inr (5, [.ref am, .int (nI ((wr_all ts ts.1 0 tm).1))])), (am, .inl (k 0, 3000, .inl ((wr_all ts ts.1 0 tm).2)))]
set_option maxHeartbeats 4000000 in
set_option maxRecDepth 100000 in
/-- writeSpelled -/
theorem k_X7_writeSpelled (l : Launch) (D : va_G) (k : Nat → ClassId) (h : Nat) (v : Int32) (hm : Nat) (hr : Nat) (he : Nat) (ht : Nat) (hs : Nat) (ha : Nat) (hte : Nat) (hab : Nat) (hd : Nat) (hp : Nat) (bh : Int32) (am : Nat) (tm : TT) (as_ : Nat) (ts : TT) (hm0 : tm.1 ≤ 3000) (hs0 : ts.1 ≤ 4002) : ct_v l D (TY k) yX7_writeSpelled wsX7_writeSpelled ({ frames := 2, cells := 0, slots := 0, locals := 42 } : Room) [.ref h] [(h, .inr (7, [.int v, .ref hm, .ref hr, .ref he, .ref ht, .ref hs, .ref ha, .ref hte, .ref hab, .ref hd, .ref hp, .int bh])), (hs, .inr (5, [.ref as_, .int (nI (ts.1))])), (as_, .inl (k 0, 4002, .inl ts.2)), (hm, .inr (5, [.ref am, .int (nI (tm.1))])), (am, .inl (k 0, 3000, .inl tm.2))] (po_X7_writeSpelled k h v hm hr he ht hs ha hte hab hd hp bh am tm as_ ts) := by
  refine ct_v_of (cc := cX7_writeSpelled) (nL := 3) (rt := none) (by decide) rfl (Nat.le_of_ble_eq_true rfl) ?_
  intro p_ e_ s_0 m_0 below_ meth_ c_0 A_0 C_0 hP hK hD hS hA ls hl
  obtain ⟨hx_, hb_, hml_, hr_, hown_, hlk_, hnm_, hts_⟩ := id C_0
  have hl : lv_has ls 3 [(0, .ref h)] := hl
  refine lv_iconst (v := 0) hx_ hb_ dX7_writeSpelled_0 (by decide) ?_
  refine lv_istore_n (lv' := [(1, .int 0), (0, .ref h)]) hx_ hb_ dX7_writeSpelled_1 rfl hl (by decide) rfl (fun ls hl => ?_)
  have lp2 : ∀ (fu : Nat) (k0 : Nat) (mm : Nat) (t1 : TT) (H : Heap) (locs : List Loc) (ls : Array Slot), ts.1 - k0 < fu → (k0 ≤ 4010) → (t1.1 ≤ 3000) → (ts.1 ≤ k0 + mm) → (wr_all ts ts.1 0 tm = wr_all ts mm k0 t1) → va_P D vwCl [(h, .inr (7, [.int v, .ref hm, .ref hr, .ref he, .ref ht, .ref hs, .ref ha, .ref hte, .ref hab, .ref hd, .ref hp, .int bh])), (hs, .inr (5, [.ref as_, .int (nI (ts.1))])), (as_, .inl (k 0, 4002, .inl ts.2)), (hm, .inr (5, [.ref am, .int (nI (t1.1))])), (am, .inl (k 0, 3000, .inl t1.2))] H → va_D A_0 [(h, .inr (7, [.int v, .ref hm, .ref hr, .ref he, .ref ht, .ref hs, .ref ha, .ref hte, .ref hab, .ref hd, .ref hp, .int bh])), (hs, .inr (5, [.ref as_, .int (nI (ts.1))])), (as_, .inl (k 0, 4002, .inl ts.2)), (hm, .inr (5, [.ref am, .int (nI (t1.1))])), (am, .inl (k 0, 3000, .inl t1.2))] → va_S A_0 s_0.heap H locs → lv_has ls 3 [(0, .ref h), (1, .int (nI k0))] → W p_ l e_ (headSpec wsX7_writeSpelled ({ frames := 2, cells := 0, slots := 0, locals := 42 } : Room)).room s_0 m_0 (([.ref h] : List Value).toArray) below_ meth_ c_0 H locs 0 0 (ct_Zv below_ D (po_X7_writeSpelled k h v hm hr he ht hs ha hte hab hd hp bh am tm as_ ts) A_0 (([.ref h] : List Value).toArray) s_0 0 0) (F0 m_0 2 ls []) := by
    intro fu
    induction fu with
    | zero => intro k0 mm t1 H locs ls hm_; exact absurd hm_ (Nat.not_lt_zero _)
    | succ fu ih2 =>
      intro k0 mm t1 H locs ls hm_ hk ht1 hfu hez hP hD hS hl
      refine lv_iload_n hx_ hb_ dX7_writeSpelled_2 rfl (lv_at hl 1 rfl) ?_
      refine lv_aload_n hx_ hb_ dX7_writeSpelled_3 rfl (lv_at hl 0 rfl) ?_
      refine va_get (D := D) (ci := 7) (v := .ref hs) (C := RX7) (T := TX7) (N := 12) hx_ hb_ hts_ inM_X7 hown_ hK.1 hP 0 rfl rfl 5 (by decide) (hts_ _ (List.mem_cons_of_mem _ wa_f_X7_44)) (fun _ h9 => h9) rfl dX7_writeSpelled_4 ?_
      refine ct_Vi (wr := [(h, .inr (7, [.int v, .ref hm, .ref hr, .ref he, .ref ht, .ref hs, .ref ha, .ref hte, .ref hab, .ref hd, .ref hp, .int bh])), (hm, .inr (5, [.ref am, .int (nI (t1.1))])), (am, .inl (k 0, 3000, .inl t1.2))]) (rest := [.int (nI k0)]) (As := []) ⟨hx_, hb_, hml_, hown_, hts_⟩ (k_X5_count l D k hs as_ 4002 ts ) (cwV 0 hts_ (gd_in (gw_V wa_m_X7_107 wa_y_X5_count wa_s_X5_count wa_i_X5 wa_k_X5_count)) rfl rfl rfl (by decide +kernel) ⟨Nat.le_of_ble_eq_true rfl, Nat.le_of_ble_eq_true rfl⟩) hK hP hD hS hA [1, 2] [0, 3, 4] rfl rfl rfl rfl (by decide) 5 rfl rfl rfl hl.1 rfl rfl (Nat.le_of_ble_eq_true rfl) dX7_writeSpelled_7 ⟨Nat.le_of_ble_eq_true rfl, Nat.le_of_ble_eq_true rfl⟩ (fun rr1 w1 H locs ww2 hP hD hS => ?_)
      obtain ⟨rfl, rfl⟩ := ww2
      have hP : va_P D vwCl [(h, .inr (7, [.int v, .ref hm, .ref hr, .ref he, .ref ht, .ref hs, .ref ha, .ref hte, .ref hab, .ref hd, .ref hp, .int bh])), (hm, .inr (5, [.ref am, .int (nI (t1.1))])), (am, .inl (k 0, 3000, .inl t1.2)), (hs, .inr (5, [.ref as_, .int (nI (ts.1))])), (as_, .inl (k 0, 4002, .inl ts.2))] H := hP
      have hD : va_D A_0 [(h, .inr (7, [.int v, .ref hm, .ref hr, .ref he, .ref ht, .ref hs, .ref ha, .ref hte, .ref hab, .ref hd, .ref hp, .int bh])), (hm, .inr (5, [.ref am, .int (nI (t1.1))])), (am, .inl (k 0, 3000, .inl t1.2)), (hs, .inr (5, [.ref as_, .int (nI (ts.1))])), (as_, .inl (k 0, 4002, .inl ts.2))] := hD
      refine W.cs (cells' := 0) (slots' := 0) rfl rfl ?_
      refine lv_icmp_ge (tgt := 98) hx_ hb_ dX7_writeSpelled_10 (by decide) (fun cc3 => ?_) (fun cc3 => ?_)
      · have nn3 : (ts.1) ≤ k0 := (nI_leI (a := (ts.1)) (b := k0) (by first | omega | assumption | exact ht1 | exact rw_a_le ht1) (by first | omega | assumption | exact ht1 | exact rw_a_le ht1)).mp cc3
        have nn3m : ¬ k0 < (ts.1) := by omega
        have eq1 : (nI (t1.1) : Int32) = nI ((wr_all ts ts.1 0 tm).1) := by rw [hez]; cases mm with | zero => rfl | succ m9 => simp [wr_all, eq_true cc3, eq_true nn3, eq_false nn3m]
        have eq2 : (t1.2 : Nat → Int32) = (wr_all ts ts.1 0 tm).2 := by rw [hez]; cases mm with | zero => rfl | succ m9 => simp [wr_all, eq_true cc3, eq_true nn3, eq_false nn3m]
        exact ct_vret C_0 (hP.sub [0, 3, 4, 1, 2] rfl) (hD.sub [0, 3, 4, 1, 2] (by decide) rfl) hS (Nat.le_of_ble_eq_true rfl) (Nat.le_of_ble_eq_true rfl) dX7_writeSpelled_98 (congr (congrArg (fun (z1 : Int32) (z2 : Nat → Int32) => ([(h, .inr (7, [.int v, .ref hm, .ref hr, .ref he, .ref ht, .ref hs, .ref ha, .ref hte, .ref hab, .ref hd, .ref hp, .int bh])), (hs, .inr (5, [.ref as_, .int (nI (ts.1))])), (as_, .inl (k 0, 4002, .inl ts.2)), (hm, .inr (5, [.ref am, .int z1])), (am, .inl (k 0, 3000, .inl z2))] : va_W)) eq1) eq2)
      · have nn3 : ¬ (ts.1) ≤ k0 := fun hh => cc3 ((nI_leI (a := (ts.1)) (b := k0) (by first | omega | assumption | exact ht1 | exact rw_a_le ht1) (by first | omega | assumption | exact ht1 | exact rw_a_le ht1)).mpr hh)
        have nn3m : k0 < (ts.1) := by omega
        refine lv_aload_n hx_ hb_ dX7_writeSpelled_13 rfl (lv_at hl 0 rfl) ?_
        refine va_get (D := D) (ci := 7) (v := .ref hs) (C := RX7) (T := TX7) (N := 12) hx_ hb_ hts_ inM_X7 hown_ hK.1 hP 0 rfl rfl 5 (by decide) (hts_ _ (List.mem_cons_of_mem _ wa_f_X7_44)) (fun _ h9 => h9) rfl dX7_writeSpelled_14 ?_
        refine lv_iload_n hx_ hb_ dX7_writeSpelled_17 rfl (lv_at hl 1 rfl) ?_
        refine ct_Vi (wr := [(h, .inr (7, [.int v, .ref hm, .ref hr, .ref he, .ref ht, .ref hs, .ref ha, .ref hte, .ref hab, .ref hd, .ref hp, .int bh])), (hm, .inr (5, [.ref am, .int (nI (t1.1))])), (am, .inl (k 0, 3000, .inl t1.2))]) (rest := []) (As := [.int (nI k0)]) ⟨hx_, hb_, hml_, hown_, hts_⟩ (k_X5_get l D k hs as_ 4002 ts (nI k0) (by first | omega | assumption | exact ht1 | exact rw_a_le ht1) (by first | omega | assumption | exact ht1 | exact rw_a_le ht1)) (cwV 1 hts_ (gd_in (gw_V wa_m_X7_100 wa_y_X5_get wa_s_X5_get wa_i_X5 wa_k_X5_get)) rfl rfl rfl (by decide +kernel) ⟨Nat.le_of_ble_eq_true rfl, Nat.le_of_ble_eq_true rfl⟩) hK hP hD hS hA [3, 4] [0, 1, 2] rfl rfl rfl rfl (by decide) 5 rfl rfl rfl hl.1 rfl rfl (Nat.le_of_ble_eq_true rfl) dX7_writeSpelled_18 ⟨Nat.le_of_ble_eq_true rfl, Nat.le_of_ble_eq_true rfl⟩ (fun rr4 w1 H locs ww5 hP hD hS => ?_)
        obtain ⟨rfl, rfl⟩ := ww5
        have hP : va_P D vwCl [(h, .inr (7, [.int v, .ref hm, .ref hr, .ref he, .ref ht, .ref hs, .ref ha, .ref hte, .ref hab, .ref hd, .ref hp, .int bh])), (hm, .inr (5, [.ref am, .int (nI (t1.1))])), (am, .inl (k 0, 3000, .inl t1.2)), (hs, .inr (5, [.ref as_, .int (nI (ts.1))])), (as_, .inl (k 0, 4002, .inl ts.2))] H := hP
        have hD : va_D A_0 [(h, .inr (7, [.int v, .ref hm, .ref hr, .ref he, .ref ht, .ref hs, .ref ha, .ref hte, .ref hab, .ref hd, .ref hp, .int bh])), (hm, .inr (5, [.ref am, .int (nI (t1.1))])), (am, .inl (k 0, 3000, .inl t1.2)), (hs, .inr (5, [.ref as_, .int (nI (ts.1))])), (as_, .inl (k 0, 4002, .inl ts.2))] := hD
        refine W.cs (cells' := 0) (slots' := 0) rfl rfl ?_
        refine lv_bipush (v := 10) hx_ hb_ dX7_writeSpelled_21 (by decide) ?_
        refine lv_ishl hx_ hb_ dX7_writeSpelled_23 ?_
        refine lv_aload_n hx_ hb_ dX7_writeSpelled_24 rfl (lv_at hl 0 rfl) ?_
        refine va_get (D := D) (ci := 7) (v := .ref hs) (C := RX7) (T := TX7) (N := 12) hx_ hb_ hts_ inM_X7 hown_ hK.1 hP 0 rfl rfl 5 (by decide) (hts_ _ (List.mem_cons_of_mem _ wa_f_X7_44)) (fun _ h9 => h9) rfl dX7_writeSpelled_25 ?_
        refine lv_iload_n hx_ hb_ dX7_writeSpelled_28 rfl (lv_at hl 1 rfl) ?_
        refine lv_iconst (v := 1) hx_ hb_ dX7_writeSpelled_29 (by decide) ?_
        refine lv_iadd hx_ hb_ dX7_writeSpelled_30 ?_
        refine lv_ti (y := nI (k0 + 1)) (nI_add _ _) ?_
        refine ct_Vi (wr := [(h, .inr (7, [.int v, .ref hm, .ref hr, .ref he, .ref ht, .ref hs, .ref ha, .ref hte, .ref hab, .ref hd, .ref hp, .int bh])), (hm, .inr (5, [.ref am, .int (nI (t1.1))])), (am, .inl (k 0, 3000, .inl t1.2))]) (rest := [.int ((rw_get ts.1 ts.2 (nI k0)) <<< (10 &&& 31))]) (As := [.int (nI (k0 + 1))]) ⟨hx_, hb_, hml_, hown_, hts_⟩ (k_X5_get l D k hs as_ 4002 ts (nI (k0 + 1)) (by first | omega | assumption | exact ht1 | exact rw_a_le ht1) (by first | omega | assumption | exact ht1 | exact rw_a_le ht1)) (cwV 1 hts_ (gd_in (gw_V wa_m_X7_100 wa_y_X5_get wa_s_X5_get wa_i_X5 wa_k_X5_get)) rfl rfl rfl (by decide +kernel) ⟨Nat.le_of_ble_eq_true rfl, Nat.le_of_ble_eq_true rfl⟩) hK hP hD hS hA [3, 4] [0, 1, 2] rfl rfl rfl rfl (by decide) 5 rfl rfl rfl hl.1 rfl rfl (Nat.le_of_ble_eq_true rfl) dX7_writeSpelled_31 ⟨Nat.le_of_ble_eq_true rfl, Nat.le_of_ble_eq_true rfl⟩ (fun rr6 w1 H locs ww7 hP hD hS => ?_)
        obtain ⟨rfl, rfl⟩ := ww7
        have hP : va_P D vwCl [(h, .inr (7, [.int v, .ref hm, .ref hr, .ref he, .ref ht, .ref hs, .ref ha, .ref hte, .ref hab, .ref hd, .ref hp, .int bh])), (hm, .inr (5, [.ref am, .int (nI (t1.1))])), (am, .inl (k 0, 3000, .inl t1.2)), (hs, .inr (5, [.ref as_, .int (nI (ts.1))])), (as_, .inl (k 0, 4002, .inl ts.2))] H := hP
        have hD : va_D A_0 [(h, .inr (7, [.int v, .ref hm, .ref hr, .ref he, .ref ht, .ref hs, .ref ha, .ref hte, .ref hab, .ref hd, .ref hp, .int bh])), (hm, .inr (5, [.ref am, .int (nI (t1.1))])), (am, .inl (k 0, 3000, .inl t1.2)), (hs, .inr (5, [.ref as_, .int (nI (ts.1))])), (as_, .inl (k 0, 4002, .inl ts.2))] := hD
        refine W.cs (cells' := 0) (slots' := 0) rfl rfl ?_
        refine lv_iconst (v := 5) hx_ hb_ dX7_writeSpelled_34 (by decide) ?_
        refine lv_ishl hx_ hb_ dX7_writeSpelled_35 ?_
        refine lv_ior hx_ hb_ dX7_writeSpelled_36 ?_
        refine lv_aload_n hx_ hb_ dX7_writeSpelled_37 rfl (lv_at hl 0 rfl) ?_
        refine va_get (D := D) (ci := 7) (v := .ref hs) (C := RX7) (T := TX7) (N := 12) hx_ hb_ hts_ inM_X7 hown_ hK.1 hP 0 rfl rfl 5 (by decide) (hts_ _ (List.mem_cons_of_mem _ wa_f_X7_44)) (fun _ h9 => h9) rfl dX7_writeSpelled_38 ?_
        refine lv_iload_n hx_ hb_ dX7_writeSpelled_41 rfl (lv_at hl 1 rfl) ?_
        refine lv_iconst (v := 2) hx_ hb_ dX7_writeSpelled_42 (by decide) ?_
        refine lv_iadd hx_ hb_ dX7_writeSpelled_43 ?_
        refine lv_ti (y := nI (k0 + 2)) (nI_add _ _) ?_
        refine ct_Vi (wr := [(h, .inr (7, [.int v, .ref hm, .ref hr, .ref he, .ref ht, .ref hs, .ref ha, .ref hte, .ref hab, .ref hd, .ref hp, .int bh])), (hm, .inr (5, [.ref am, .int (nI (t1.1))])), (am, .inl (k 0, 3000, .inl t1.2))]) (rest := [.int (((rw_get ts.1 ts.2 (nI k0)) <<< (10 &&& 31)) ||| ((rw_get ts.1 ts.2 (nI (k0 + 1))) <<< (5 &&& 31)))]) (As := [.int (nI (k0 + 2))]) ⟨hx_, hb_, hml_, hown_, hts_⟩ (k_X5_get l D k hs as_ 4002 ts (nI (k0 + 2)) (by first | omega | assumption | exact ht1 | exact rw_a_le ht1) (by first | omega | assumption | exact ht1 | exact rw_a_le ht1)) (cwV 1 hts_ (gd_in (gw_V wa_m_X7_100 wa_y_X5_get wa_s_X5_get wa_i_X5 wa_k_X5_get)) rfl rfl rfl (by decide +kernel) ⟨Nat.le_of_ble_eq_true rfl, Nat.le_of_ble_eq_true rfl⟩) hK hP hD hS hA [3, 4] [0, 1, 2] rfl rfl rfl rfl (by decide) 5 rfl rfl rfl hl.1 rfl rfl (Nat.le_of_ble_eq_true rfl) dX7_writeSpelled_44 ⟨Nat.le_of_ble_eq_true rfl, Nat.le_of_ble_eq_true rfl⟩ (fun rr8 w1 H locs ww9 hP hD hS => ?_)
        obtain ⟨rfl, rfl⟩ := ww9
        have hP : va_P D vwCl [(h, .inr (7, [.int v, .ref hm, .ref hr, .ref he, .ref ht, .ref hs, .ref ha, .ref hte, .ref hab, .ref hd, .ref hp, .int bh])), (hm, .inr (5, [.ref am, .int (nI (t1.1))])), (am, .inl (k 0, 3000, .inl t1.2)), (hs, .inr (5, [.ref as_, .int (nI (ts.1))])), (as_, .inl (k 0, 4002, .inl ts.2))] H := hP
        have hD : va_D A_0 [(h, .inr (7, [.int v, .ref hm, .ref hr, .ref he, .ref ht, .ref hs, .ref ha, .ref hte, .ref hab, .ref hd, .ref hp, .int bh])), (hm, .inr (5, [.ref am, .int (nI (t1.1))])), (am, .inl (k 0, 3000, .inl t1.2)), (hs, .inr (5, [.ref as_, .int (nI (ts.1))])), (as_, .inl (k 0, 4002, .inl ts.2))] := hD
        refine W.cs (cells' := 0) (slots' := 0) rfl rfl ?_
        refine lv_ior hx_ hb_ dX7_writeSpelled_47 ?_
        refine lv_ti (y := wr_3 ts k0) (rfl) ?_
        refine lv_istore_n (lv' := [(2, .int (wr_3 ts k0)), (0, .ref h), (1, .int (nI k0))]) hx_ hb_ dX7_writeSpelled_48 rfl hl (by decide) rfl (fun ls hl => ?_)
        refine lv_iload_n hx_ hb_ dX7_writeSpelled_49 rfl (lv_at hl 2 rfl) ?_
        refine lv_iconst (v := 3) hx_ hb_ dX7_writeSpelled_50 (by decide) ?_
        refine lv_iadd hx_ hb_ dX7_writeSpelled_51 ?_
        refine lv_ti (y := nI (k0 + 3)) (nI_add _ _) ?_
        refine lv_aload_n hx_ hb_ dX7_writeSpelled_52 rfl (lv_at hl 1 rfl) ?_
        refine va_get (D := D) (ci := 7) (v := .ref hs) (C := RX7) (T := TX7) (N := 12) hx_ hb_ hts_ inM_X7 hown_ hK.1 hP 0 rfl rfl 5 (by decide) (hts_ _ (List.mem_cons_of_mem _ wa_f_X7_44)) (fun _ h9 => h9) rfl dX7_writeSpelled_53 ?_
        refine ct_Vi (wr := [(h, .inr (7, [.int v, .ref hm, .ref hr, .ref he, .ref ht, .ref hs, .ref ha, .ref hte, .ref hab, .ref hd, .ref hp, .int bh])), (hm, .inr (5, [.ref am, .int (nI (t1.1))])), (am, .inl (k 0, 3000, .inl t1.2))]) (rest := [.int (nI (k0 + 3))]) (As := []) ⟨hx_, hb_, hml_, hown_, hts_⟩ (k_X5_count l D k hs as_ 4002 ts ) (cwV 0 hts_ (gd_in (gw_V wa_m_X7_107 wa_y_X5_count wa_s_X5_count wa_i_X5 wa_k_X5_count)) rfl rfl rfl (by decide +kernel) ⟨Nat.le_of_ble_eq_true rfl, Nat.le_of_ble_eq_true rfl⟩) hK hP hD hS hA [3, 4] [0, 1, 2] rfl rfl rfl rfl (by decide) 5 rfl rfl rfl hl.1 rfl rfl (Nat.le_of_ble_eq_true rfl) dX7_writeSpelled_56 ⟨Nat.le_of_ble_eq_true rfl, Nat.le_of_ble_eq_true rfl⟩ (fun rr10 w1 H locs ww11 hP hD hS => ?_)
        obtain ⟨rfl, rfl⟩ := ww11
        have hP : va_P D vwCl [(h, .inr (7, [.int v, .ref hm, .ref hr, .ref he, .ref ht, .ref hs, .ref ha, .ref hte, .ref hab, .ref hd, .ref hp, .int bh])), (hm, .inr (5, [.ref am, .int (nI (t1.1))])), (am, .inl (k 0, 3000, .inl t1.2)), (hs, .inr (5, [.ref as_, .int (nI (ts.1))])), (as_, .inl (k 0, 4002, .inl ts.2))] H := hP
        have hD : va_D A_0 [(h, .inr (7, [.int v, .ref hm, .ref hr, .ref he, .ref ht, .ref hs, .ref ha, .ref hte, .ref hab, .ref hd, .ref hp, .int bh])), (hm, .inr (5, [.ref am, .int (nI (t1.1))])), (am, .inl (k 0, 3000, .inl t1.2)), (hs, .inr (5, [.ref as_, .int (nI (ts.1))])), (as_, .inl (k 0, 4002, .inl ts.2))] := hD
        refine W.cs (cells' := 0) (slots' := 0) rfl rfl ?_
        refine lv_icmp_lt (tgt := 67) hx_ hb_ dX7_writeSpelled_59 (by decide) (fun cc12 => ?_) (fun cc12 => ?_)
        · have nn12 : (k0 + 3) < (ts.1) := (nI_ltI (a := (k0 + 3)) (b := (ts.1)) (by first | omega | assumption | exact ht1 | exact rw_a_le ht1) (by first | omega | assumption | exact ht1 | exact rw_a_le ht1)).mp cc12
          have nn12m : ¬ (ts.1) ≤ (k0 + 3) := by omega
          have hl : lv_has ls 3 [(2, .int (wr_two ts k0)), (0, .ref h), (1, .int (nI k0))] := by rw [show (wr_3 ts k0 : Int32) = wr_two ts k0 from by simp [wr_two, eq_false cc3, eq_false nn3, eq_true nn3m, eq_true cc12, eq_true nn12, eq_false nn12m]] at hl; exact hl
          refine lv_aload_n hx_ hb_ dX7_writeSpelled_67 rfl (lv_at hl 1 rfl) ?_
          refine va_get (D := D) (ci := 7) (v := .ref hm) (C := RX7) (T := TX7) (N := 12) hx_ hb_ hts_ inM_X7 hown_ hK.1 hP 0 rfl rfl 1 (by decide) (hts_ _ (List.mem_cons_of_mem _ wa_f_X7_27)) (fun _ h9 => h9) rfl dX7_writeSpelled_68 ?_
          refine lv_iload_n hx_ hb_ dX7_writeSpelled_71 rfl (lv_at hl 0 rfl) ?_
          refine lv_bipush (v := 8) hx_ hb_ dX7_writeSpelled_72 (by decide) ?_
          refine lv_ishr hx_ hb_ dX7_writeSpelled_74 ?_
          refine ct_Vi (wr := [(h, .inr (7, [.int v, .ref hm, .ref hr, .ref he, .ref ht, .ref hs, .ref ha, .ref hte, .ref hab, .ref hd, .ref hp, .int bh])), (hs, .inr (5, [.ref as_, .int (nI (ts.1))])), (as_, .inl (k 0, 4002, .inl ts.2))]) (rest := []) (As := [.int ((wr_two ts k0) >>> (8 &&& 31))]) ⟨hx_, hb_, hml_, hown_, hts_⟩ (k_X5_add l D k hm am 3000 t1 ((wr_two ts k0) >>> (8 &&& 31)) (by first | omega | assumption | exact ht1 | exact rw_a_le ht1) (by first | omega | assumption | exact ht1 | exact rw_a_le ht1)) (cwV 1 hts_ (gd_in (gw_V wa_m_X7_37 wa_y_X5_add wa_s_X5_add wa_i_X5 wa_k_X5_add)) rfl rfl rfl (by decide +kernel) ⟨Nat.le_of_ble_eq_true rfl, Nat.le_of_ble_eq_true rfl⟩) hK hP hD hS hA [1, 2] [0, 3, 4] rfl rfl rfl rfl (by decide) 5 rfl rfl rfl hl.1 rfl rfl (Nat.le_of_ble_eq_true rfl) dX7_writeSpelled_75 ⟨Nat.le_of_ble_eq_true rfl, Nat.le_of_ble_eq_true rfl⟩ (fun rr13 w1 H locs ww14 hP hD hS => ?_)
          obtain ⟨rfl, rfl⟩ := ww14
          have hP : va_P D vwCl [(h, .inr (7, [.int v, .ref hm, .ref hr, .ref he, .ref ht, .ref hs, .ref ha, .ref hte, .ref hab, .ref hd, .ref hp, .int bh])), (hs, .inr (5, [.ref as_, .int (nI (ts.1))])), (as_, .inl (k 0, 4002, .inl ts.2)), (hm, .inr (5, [.ref am, .int (nI ((rw_a 3000 ((wr_two ts k0) >>> (8 &&& 31)) t1).1))])), (am, .inl (k 0, 3000, .inl ((rw_a 3000 ((wr_two ts k0) >>> (8 &&& 31)) t1).2)))] H := hP
          have hD : va_D A_0 [(h, .inr (7, [.int v, .ref hm, .ref hr, .ref he, .ref ht, .ref hs, .ref ha, .ref hte, .ref hab, .ref hd, .ref hp, .int bh])), (hs, .inr (5, [.ref as_, .int (nI (ts.1))])), (as_, .inl (k 0, 4002, .inl ts.2)), (hm, .inr (5, [.ref am, .int (nI ((rw_a 3000 ((wr_two ts k0) >>> (8 &&& 31)) t1).1))])), (am, .inl (k 0, 3000, .inl ((rw_a 3000 ((wr_two ts k0) >>> (8 &&& 31)) t1).2)))] := hD
          refine W.cs (cells' := 0) (slots' := 0) rfl rfl ?_
          refine lv_pop hx_ hb_ dX7_writeSpelled_78 rfl ?_
          refine lv_aload_n hx_ hb_ dX7_writeSpelled_79 rfl (lv_at hl 1 rfl) ?_
          refine va_get (D := D) (ci := 7) (v := .ref hm) (C := RX7) (T := TX7) (N := 12) hx_ hb_ hts_ inM_X7 hown_ hK.1 hP 0 rfl rfl 1 (by decide) (hts_ _ (List.mem_cons_of_mem _ wa_f_X7_27)) (fun _ h9 => h9) rfl dX7_writeSpelled_80 ?_
          refine lv_iload_n hx_ hb_ dX7_writeSpelled_83 rfl (lv_at hl 0 rfl) ?_
          refine lv_sipush (v := 255) hx_ hb_ dX7_writeSpelled_84 (by decide) ?_
          refine lv_iand hx_ hb_ dX7_writeSpelled_87 ?_
          refine ct_Vi (wr := [(h, .inr (7, [.int v, .ref hm, .ref hr, .ref he, .ref ht, .ref hs, .ref ha, .ref hte, .ref hab, .ref hd, .ref hp, .int bh])), (hs, .inr (5, [.ref as_, .int (nI (ts.1))])), (as_, .inl (k 0, 4002, .inl ts.2))]) (rest := []) (As := [.int ((wr_two ts k0) &&& 255)]) ⟨hx_, hb_, hml_, hown_, hts_⟩ (k_X5_add l D k hm am 3000 (rw_a 3000 ((wr_two ts k0) >>> (8 &&& 31)) t1) ((wr_two ts k0) &&& 255) (by first | omega | assumption | exact ht1 | exact rw_a_le ht1) (by first | omega | assumption | exact ht1 | exact rw_a_le ht1)) (cwV 1 hts_ (gd_in (gw_V wa_m_X7_37 wa_y_X5_add wa_s_X5_add wa_i_X5 wa_k_X5_add)) rfl rfl rfl (by decide +kernel) ⟨Nat.le_of_ble_eq_true rfl, Nat.le_of_ble_eq_true rfl⟩) hK hP hD hS hA [3, 4] [0, 1, 2] rfl rfl rfl rfl (by decide) 5 rfl rfl rfl hl.1 rfl rfl (Nat.le_of_ble_eq_true rfl) dX7_writeSpelled_88 ⟨Nat.le_of_ble_eq_true rfl, Nat.le_of_ble_eq_true rfl⟩ (fun rr15 w1 H locs ww16 hP hD hS => ?_)
          obtain ⟨rfl, rfl⟩ := ww16
          have hP : va_P D vwCl [(h, .inr (7, [.int v, .ref hm, .ref hr, .ref he, .ref ht, .ref hs, .ref ha, .ref hte, .ref hab, .ref hd, .ref hp, .int bh])), (hs, .inr (5, [.ref as_, .int (nI (ts.1))])), (as_, .inl (k 0, 4002, .inl ts.2)), (hm, .inr (5, [.ref am, .int (nI ((rw_a 3000 ((wr_two ts k0) &&& 255) (rw_a 3000 ((wr_two ts k0) >>> (8 &&& 31)) t1)).1))])), (am, .inl (k 0, 3000, .inl ((rw_a 3000 ((wr_two ts k0) &&& 255) (rw_a 3000 ((wr_two ts k0) >>> (8 &&& 31)) t1)).2)))] H := hP
          have hD : va_D A_0 [(h, .inr (7, [.int v, .ref hm, .ref hr, .ref he, .ref ht, .ref hs, .ref ha, .ref hte, .ref hab, .ref hd, .ref hp, .int bh])), (hs, .inr (5, [.ref as_, .int (nI (ts.1))])), (as_, .inl (k 0, 4002, .inl ts.2)), (hm, .inr (5, [.ref am, .int (nI ((rw_a 3000 ((wr_two ts k0) &&& 255) (rw_a 3000 ((wr_two ts k0) >>> (8 &&& 31)) t1)).1))])), (am, .inl (k 0, 3000, .inl ((rw_a 3000 ((wr_two ts k0) &&& 255) (rw_a 3000 ((wr_two ts k0) >>> (8 &&& 31)) t1)).2)))] := hD
          refine W.cs (cells' := 0) (slots' := 0) rfl rfl ?_
          refine lv_pop hx_ hb_ dX7_writeSpelled_91 rfl ?_
          refine lv_iinc (v := nI (k0 + 3)) (lv' := [(1, .int (nI (k0 + 3))), (2, .int (wr_two ts k0)), (0, .ref h)]) hx_ hb_ dX7_writeSpelled_92 hl (k := 2) rfl (nI_add _ _) (by decide) rfl (fun ls hl => ?_)
          refine lv_goto (tgt := 2) hx_ hb_ dX7_writeSpelled_95 (by decide) ?_
          exact ih2 (k0 + 3) (mm - 1) (rw_a 3000 ((wr_two ts k0) &&& 255) (rw_a 3000 ((wr_two ts k0) >>> (8 &&& 31)) t1)) _ _ _ (by first | omega | assumption | exact ht1 | exact rw_a_le ht1) (by first | omega | assumption | exact ht1 | exact rw_a_le ht1) (by exact rw_a_le (rw_a_le ht1)) (by first | omega | assumption | exact ht1 | exact rw_a_le ht1) (by rw [hez]; obtain ⟨m9, rfl⟩ : ∃ m9, mm = m9 + 1 := ⟨mm - 1, by omega⟩; simp [wr_all, eq_false cc3, eq_false nn3, eq_true nn3m, eq_true cc12, eq_true nn12, eq_false nn12m]) (hP.sub [0, 1, 2, 3, 4] rfl) (hD.sub [0, 1, 2, 3, 4] (by decide) rfl) hS (lv_sub hl [2, 0] rfl)
        · have nn12 : ¬ (k0 + 3) < (ts.1) := fun hh => cc12 ((nI_ltI (a := (k0 + 3)) (b := (ts.1)) (by first | omega | assumption | exact ht1 | exact rw_a_le ht1) (by first | omega | assumption | exact ht1 | exact rw_a_le ht1)).mpr hh)
          have nn12m : (ts.1) ≤ (k0 + 3) := by omega
          refine lv_iload_n hx_ hb_ dX7_writeSpelled_62 rfl (lv_at hl 0 rfl) ?_
          refine lv_ldc (v := 32768) hx_ hb_ hown_ (hts_ _ (List.mem_cons_of_mem _ wa_q_X7_181)) dX7_writeSpelled_63 ?_
          refine lv_ior hx_ hb_ dX7_writeSpelled_65 ?_
          refine lv_istore_n (lv' := [(2, .int ((wr_3 ts k0) ||| 32768)), (0, .ref h), (1, .int (nI k0))]) hx_ hb_ dX7_writeSpelled_66 rfl hl (by decide) rfl (fun ls hl => ?_)
          have hl : lv_has ls 3 [(2, .int (wr_two ts k0)), (0, .ref h), (1, .int (nI k0))] := by rw [show ((wr_3 ts k0) ||| 32768 : Int32) = wr_two ts k0 from by simp [wr_two, eq_false cc3, eq_false nn3, eq_true nn3m, eq_false cc12, eq_false nn12, eq_true nn12m]] at hl; exact hl
          refine lv_aload_n hx_ hb_ dX7_writeSpelled_67 rfl (lv_at hl 1 rfl) ?_
          refine va_get (D := D) (ci := 7) (v := .ref hm) (C := RX7) (T := TX7) (N := 12) hx_ hb_ hts_ inM_X7 hown_ hK.1 hP 0 rfl rfl 1 (by decide) (hts_ _ (List.mem_cons_of_mem _ wa_f_X7_27)) (fun _ h9 => h9) rfl dX7_writeSpelled_68 ?_
          refine lv_iload_n hx_ hb_ dX7_writeSpelled_71 rfl (lv_at hl 0 rfl) ?_
          refine lv_bipush (v := 8) hx_ hb_ dX7_writeSpelled_72 (by decide) ?_
          refine lv_ishr hx_ hb_ dX7_writeSpelled_74 ?_
          refine ct_Vi (wr := [(h, .inr (7, [.int v, .ref hm, .ref hr, .ref he, .ref ht, .ref hs, .ref ha, .ref hte, .ref hab, .ref hd, .ref hp, .int bh])), (hs, .inr (5, [.ref as_, .int (nI (ts.1))])), (as_, .inl (k 0, 4002, .inl ts.2))]) (rest := []) (As := [.int ((wr_two ts k0) >>> (8 &&& 31))]) ⟨hx_, hb_, hml_, hown_, hts_⟩ (k_X5_add l D k hm am 3000 t1 ((wr_two ts k0) >>> (8 &&& 31)) (by first | omega | assumption | exact ht1 | exact rw_a_le ht1) (by first | omega | assumption | exact ht1 | exact rw_a_le ht1)) (cwV 1 hts_ (gd_in (gw_V wa_m_X7_37 wa_y_X5_add wa_s_X5_add wa_i_X5 wa_k_X5_add)) rfl rfl rfl (by decide +kernel) ⟨Nat.le_of_ble_eq_true rfl, Nat.le_of_ble_eq_true rfl⟩) hK hP hD hS hA [1, 2] [0, 3, 4] rfl rfl rfl rfl (by decide) 5 rfl rfl rfl hl.1 rfl rfl (Nat.le_of_ble_eq_true rfl) dX7_writeSpelled_75 ⟨Nat.le_of_ble_eq_true rfl, Nat.le_of_ble_eq_true rfl⟩ (fun rr17 w1 H locs ww18 hP hD hS => ?_)
          obtain ⟨rfl, rfl⟩ := ww18
          have hP : va_P D vwCl [(h, .inr (7, [.int v, .ref hm, .ref hr, .ref he, .ref ht, .ref hs, .ref ha, .ref hte, .ref hab, .ref hd, .ref hp, .int bh])), (hs, .inr (5, [.ref as_, .int (nI (ts.1))])), (as_, .inl (k 0, 4002, .inl ts.2)), (hm, .inr (5, [.ref am, .int (nI ((rw_a 3000 ((wr_two ts k0) >>> (8 &&& 31)) t1).1))])), (am, .inl (k 0, 3000, .inl ((rw_a 3000 ((wr_two ts k0) >>> (8 &&& 31)) t1).2)))] H := hP
          have hD : va_D A_0 [(h, .inr (7, [.int v, .ref hm, .ref hr, .ref he, .ref ht, .ref hs, .ref ha, .ref hte, .ref hab, .ref hd, .ref hp, .int bh])), (hs, .inr (5, [.ref as_, .int (nI (ts.1))])), (as_, .inl (k 0, 4002, .inl ts.2)), (hm, .inr (5, [.ref am, .int (nI ((rw_a 3000 ((wr_two ts k0) >>> (8 &&& 31)) t1).1))])), (am, .inl (k 0, 3000, .inl ((rw_a 3000 ((wr_two ts k0) >>> (8 &&& 31)) t1).2)))] := hD
          refine W.cs (cells' := 0) (slots' := 0) rfl rfl ?_
          refine lv_pop hx_ hb_ dX7_writeSpelled_78 rfl ?_
          refine lv_aload_n hx_ hb_ dX7_writeSpelled_79 rfl (lv_at hl 1 rfl) ?_
          refine va_get (D := D) (ci := 7) (v := .ref hm) (C := RX7) (T := TX7) (N := 12) hx_ hb_ hts_ inM_X7 hown_ hK.1 hP 0 rfl rfl 1 (by decide) (hts_ _ (List.mem_cons_of_mem _ wa_f_X7_27)) (fun _ h9 => h9) rfl dX7_writeSpelled_80 ?_
          refine lv_iload_n hx_ hb_ dX7_writeSpelled_83 rfl (lv_at hl 0 rfl) ?_
          refine lv_sipush (v := 255) hx_ hb_ dX7_writeSpelled_84 (by decide) ?_
          refine lv_iand hx_ hb_ dX7_writeSpelled_87 ?_
          refine ct_Vi (wr := [(h, .inr (7, [.int v, .ref hm, .ref hr, .ref he, .ref ht, .ref hs, .ref ha, .ref hte, .ref hab, .ref hd, .ref hp, .int bh])), (hs, .inr (5, [.ref as_, .int (nI (ts.1))])), (as_, .inl (k 0, 4002, .inl ts.2))]) (rest := []) (As := [.int ((wr_two ts k0) &&& 255)]) ⟨hx_, hb_, hml_, hown_, hts_⟩ (k_X5_add l D k hm am 3000 (rw_a 3000 ((wr_two ts k0) >>> (8 &&& 31)) t1) ((wr_two ts k0) &&& 255) (by first | omega | assumption | exact ht1 | exact rw_a_le ht1) (by first | omega | assumption | exact ht1 | exact rw_a_le ht1)) (cwV 1 hts_ (gd_in (gw_V wa_m_X7_37 wa_y_X5_add wa_s_X5_add wa_i_X5 wa_k_X5_add)) rfl rfl rfl (by decide +kernel) ⟨Nat.le_of_ble_eq_true rfl, Nat.le_of_ble_eq_true rfl⟩) hK hP hD hS hA [3, 4] [0, 1, 2] rfl rfl rfl rfl (by decide) 5 rfl rfl rfl hl.1 rfl rfl (Nat.le_of_ble_eq_true rfl) dX7_writeSpelled_88 ⟨Nat.le_of_ble_eq_true rfl, Nat.le_of_ble_eq_true rfl⟩ (fun rr19 w1 H locs ww20 hP hD hS => ?_)
          obtain ⟨rfl, rfl⟩ := ww20
          have hP : va_P D vwCl [(h, .inr (7, [.int v, .ref hm, .ref hr, .ref he, .ref ht, .ref hs, .ref ha, .ref hte, .ref hab, .ref hd, .ref hp, .int bh])), (hs, .inr (5, [.ref as_, .int (nI (ts.1))])), (as_, .inl (k 0, 4002, .inl ts.2)), (hm, .inr (5, [.ref am, .int (nI ((rw_a 3000 ((wr_two ts k0) &&& 255) (rw_a 3000 ((wr_two ts k0) >>> (8 &&& 31)) t1)).1))])), (am, .inl (k 0, 3000, .inl ((rw_a 3000 ((wr_two ts k0) &&& 255) (rw_a 3000 ((wr_two ts k0) >>> (8 &&& 31)) t1)).2)))] H := hP
          have hD : va_D A_0 [(h, .inr (7, [.int v, .ref hm, .ref hr, .ref he, .ref ht, .ref hs, .ref ha, .ref hte, .ref hab, .ref hd, .ref hp, .int bh])), (hs, .inr (5, [.ref as_, .int (nI (ts.1))])), (as_, .inl (k 0, 4002, .inl ts.2)), (hm, .inr (5, [.ref am, .int (nI ((rw_a 3000 ((wr_two ts k0) &&& 255) (rw_a 3000 ((wr_two ts k0) >>> (8 &&& 31)) t1)).1))])), (am, .inl (k 0, 3000, .inl ((rw_a 3000 ((wr_two ts k0) &&& 255) (rw_a 3000 ((wr_two ts k0) >>> (8 &&& 31)) t1)).2)))] := hD
          refine W.cs (cells' := 0) (slots' := 0) rfl rfl ?_
          refine lv_pop hx_ hb_ dX7_writeSpelled_91 rfl ?_
          refine lv_iinc (v := nI (k0 + 3)) (lv' := [(1, .int (nI (k0 + 3))), (2, .int (wr_two ts k0)), (0, .ref h)]) hx_ hb_ dX7_writeSpelled_92 hl (k := 2) rfl (nI_add _ _) (by decide) rfl (fun ls hl => ?_)
          refine lv_goto (tgt := 2) hx_ hb_ dX7_writeSpelled_95 (by decide) ?_
          exact ih2 (k0 + 3) (mm - 1) (rw_a 3000 ((wr_two ts k0) &&& 255) (rw_a 3000 ((wr_two ts k0) >>> (8 &&& 31)) t1)) _ _ _ (by first | omega | assumption | exact ht1 | exact rw_a_le ht1) (by first | omega | assumption | exact ht1 | exact rw_a_le ht1) (by exact rw_a_le (rw_a_le ht1)) (by first | omega | assumption | exact ht1 | exact rw_a_le ht1) (by rw [hez]; obtain ⟨m9, rfl⟩ : ∃ m9, mm = m9 + 1 := ⟨mm - 1, by omega⟩; simp [wr_all, eq_false cc3, eq_false nn3, eq_true nn3m, eq_false cc12, eq_false nn12, eq_true nn12m]) (hP.sub [0, 1, 2, 3, 4] rfl) (hD.sub [0, 1, 2, 3, 4] (by decide) rfl) hS (lv_sub hl [2, 0] rfl)
  exact lp2 ((ts.1 - 0) + 1) 0 ts.1 tm _ _ _ (Nat.lt_succ_self _) (by first | omega | assumption | exact ht1 | exact rw_a_le ht1) (by exact hm0) (by first | omega | assumption | exact ht1 | exact rw_a_le ht1) (by rfl) (hP.sub [0, 1, 2, 3, 4] rfl) (hD.sub [0, 1, 2, 3, 4] (by decide) rfl) hS (lv_sub hl [1, 0] rfl)
