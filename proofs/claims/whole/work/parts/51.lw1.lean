/-! THE CLAIM OUT OF ONE WALK OF THE LAW'S BODY. Your part is whole_start (and what it stands on); all else here is the same for every law, but numbers. -/
def R_law : String := "ZTextLaw"
def lw_P (b : Addr) (xs : List Int32) (args : Array Value) (s : State) : Prop := args = #[.ref b] ∧ s.IntsAt b xs ∧ xs.length ≤ 2049 ∧ (Jvm.Cond.and given_1 narrow_1).before args s = true
def lw_Q (_ : Array Value) (s : State) (o : Outcome) (t : State) : Prop := o = .returned (some (.int 1)) ∧ Framed s o t [] 600000 7302250
def lw_Z (below : List Frame) (a : Array Value) (s : State) : State → Prop := fun t => ∃ o, t.status = .running ∧ Ended t below o ∧ lw_Q a s o t
/-- the law's own end, with 1 on the stack, nothing written that was there before, its room as the claim has it -/
theorem lw_ret {p : Program} {l : Launch} {e : Env} {s : State} {m : MethodId} {below : List Frame} {meth : Method} {c : Code} {b : Nat} (hx : p.tables.exec = Jvm.exec) (hb : c.code = code) (hr : meth.sig.returnType = ret) (hlocks : meth.locks = false) {pc : Nat} {H : Heap} {ls : Array Slot} (hdg : decode code pc = .ok (.ireturn, 1)) : W p l e room_1 s m #[Value.ref b] below meth c H [] 600000 7302250 (lw_Z below #[Value.ref b] s) (F0 m pc ls [.int 1]) := by
  intro T hT X
  obtain ⟨fs, hret, hrun, hended, hW, hframe⟩ := X.leave (v := some (.int 1)) (hlocks := hlocks) (fun h => by rw [hr] at h; cases h)
  have hmeth' : T.vm.method? m = some meth := X.method'
  refine ⟨T.setFrames fs, ?_, .returned (some (.int 1)), hrun, hended, rfl, ⟨_, rfl⟩, hW, hframe⟩
  jvm_step X.here [X.here.top, hx, hb, hdg, hmeth', hr, ret, narrow_b1]
  (try refine ⟨rfl, ?_⟩); (try refine ⟨rfl, ?_⟩)
  first | (intro acts; rw [hret _ acts rfl rfl rfl]) | rw [hret _ _ rfl rfl rfl]
  exact Steps.refl _
/-- what holds at the law's entry: the machine, the code, the tables' words (any of lw_tbl by 'hts w (by decide +kernel)'), the script of L ints xs at the cell b, what the Statement gives of the start (any of its parts by flat_of_before) -/
def lw_At (p : Program) (s : State) (m : MethodId) (meth : Method) (c : Code) (b L : Nat) (xs : Nat → Int32) : Prop :=
  p.tables.exec = Jvm.exec ∧ c.code = code ∧ meth.sig.returnType = ret ∧ c.maxLocals = 4 ∧ s.vm.findClass R_law = some m.cls ∧ (∀ w ∈ lw_tbl, w.before #[Value.ref b] s = true) ∧ va_X b L xs s s.heap ∧ b < s.heap.size ∧ meth.locks = false ∧ (Jvm.Cond.and given_1 narrow_1).before #[Value.ref b] s = true
/-- what stays as it is while the law runs -/
def lw_C (p : Program) (s : State) (m : MethodId) (meth : Method) (c : Code) (sb L : Nat) (xs : Nat → Int32) (A : Nat → Prop) (D : va_G) (k : Nat → ClassId) : Prop := p.tables.exec = Jvm.exec ∧ c.code = cXL_law ∧ c.maxLocals = 4 ∧ s.vm.findClass RXL = some m.cls ∧ (∀ w ∈ lw_tbl, w.before #[Value.ref sb] s = true) ∧ va_X sb L xs s s.heap ∧ sb < s.heap.size ∧ ¬ A sb ∧ (∀ q : Nat, s.heap.size ≤ q → A q) ∧ ct_K D (TY k) s ∧ L ≤ 2049 ∧ (∀ q : Nat, A q → s.heap.size ≤ q) ∧ meth.sig.returnType = ret ∧ meth.locks = false
theorem lw_ar {args : Array Value} {s : State} {ty : FieldType} (h : (Cond.arrayClass ty).before args s = true) : ∃ c : ClassId, ArrOfT s c ty ∧ s.vm.findClass ("[" ++ ty.toString) = some c := by
  obtain ⟨cA, kA, comp, hfind, hk, hkind⟩ := Cond.arrayClass_spec h
  exact ⟨cA, fun n z => ⟨fun k h => (by cases h), kA, hk, comp, hkind⟩, hfind⟩
theorem lw_K0 {sb : Nat} {s : State} (hts : ∀ w ∈ lw_tbl, w.before #[Value.ref sb] s = true) : ∃ (D : va_G) (k : Nat → ClassId), ct_K D (TY k) s := by
  have hw : ∀ {w : Cond}, w ∈ wsA → w.before #[Value.ref sb] s = true := fun h => hts _ (wa_tbl h)
  have hin : ∀ {ws : List Cond}, (∀ w ∈ ws, w ∈ wsA) → ∀ w ∈ ws, w ∈ lw_tbl := fun h w hw => wa_tbl (h w hw)
  obtain ⟨c0, i0, h0⟩ := u_known hts (hin inA_X0) (hw wa_n_X0)
  obtain ⟨c1, i1, h1⟩ := u_known hts (hin inA_X1) (hw wa_n_X1)
  obtain ⟨c2, i2, h2⟩ := u_known hts (hin inA_X2) (hw wa_n_X2)
  obtain ⟨c3, i3, h3⟩ := u_known hts (hin inA_X3) (hw wa_n_X3)
  obtain ⟨c4, i4, h4⟩ := u_known hts (hin inA_X4) (hw wa_n_X4)
  obtain ⟨c5, i5, h5⟩ := u_known hts (hin inA_X5) (hw wa_n_X5)
  obtain ⟨c6, i6, h6⟩ := u_known hts (hin inA_X6) (hw wa_n_X6)
  obtain ⟨c7, i7, h7⟩ := u_known hts (hin inA_X7) (hw wa_n_X7)
  obtain ⟨c8, i8, h8⟩ := u_known hts (hin inA_X8) (hw wa_n_X8)
  obtain ⟨k0, a0, b0⟩ := lw_ar (hw wa_a_int)
  obtain ⟨k1, a1, b1⟩ := lw_ar (hw wa_a_long)
  obtain ⟨k2, a2, b2⟩ := lw_ar (hw wa_a_boolean)
  obtain ⟨k3, a3, b3⟩ := lw_ar (hw wa_a_byte)
  refine ⟨(fun j => match j with | 0 => c0 | 1 => c1 | 2 => c2 | 3 => c3 | 4 => c4 | 5 => c5 | 6 => c6 | 7 => c7 | _ => c8, fun j => match j with | 0 => i0 | 1 => i1 | 2 => i2 | 3 => i3 | 4 => i4 | 5 => i5 | 6 => i6 | 7 => i7 | _ => i8), (fun j => match j with | 0 => k0 | 1 => k1 | 2 => k2 | _ => k3), ⟨fun c q hq => ?_, fun t q hq => ?_⟩, fun q hq => ?_⟩
  · have hc : c < 9 := (List.getElem?_eq_some_iff.mp hq).1
    rcases (show c = 0 ∨ c = 1 ∨ c = 2 ∨ c = 3 ∨ c = 4 ∨ c = 5 ∨ c = 6 ∨ c = 7 ∨ c = 8 by omega) with rfl | rfl | rfl | rfl | rfl | rfl | rfl | rfl | rfl
    · cases hq; exact h0
    · cases hq; exact h1
    · cases hq; exact h2
    · cases hq; exact h3
    · cases hq; exact h4
    · cases hq; exact h5
    · cases hq; exact h6
    · cases hq; exact h7
    · cases hq; exact h8
  · have hc : t < 4 := (List.getElem?_eq_some_iff.mp hq).1
    rcases (show t = 0 ∨ t = 1 ∨ t = 2 ∨ t = 3 by omega) with rfl | rfl | rfl | rfl
    · cases hq; exact ⟨a0, b0⟩
    · cases hq; exact ⟨a1, b1⟩
    · cases hq; exact ⟨a2, b2⟩
    · cases hq; exact ⟨a3, b3⟩
  · have h9 : q = (RX3, 38, yX7_isSign, "ZText") := by simpa [ct_N] using hq
    subst h9
    exact va_Nw.of rfl (hts _ ne_X3_38)
theorem lw_s0 {sb : Nat} {s : State} {A : Nat → Prop} (hts : ∀ w ∈ lw_tbl, w.before #[Value.ref sb] s = true) (hA : ∀ q : Nat, A q → s.heap.size ≤ q) (hg : (Jvm.Cond.and given_1 narrow_1).before #[Value.ref sb] s = true) : ct_s A s := by
  have hs := flat_of_before _ hg
  have hA2 : ∀ a : Nat, a < s.heap.size → ¬ A a := fun a h1 h2 => absurd (hA a h2) (by omega)
  have hini := hts _ (wa_tbl wa_i_X1)
  obtain ⟨tO, e1, h1⟩ := va_Tof (tm := .static "ZText$Alphabets" "OLD_THIRD" "[I") (ty := .int) (N := 26) (f := fun j => .int (tb_old j)) (A := A) (by decide) (hs _ (by decide +kernel)) (va_eqt (z := 26) (hs _ (by decide +kernel))) (fun j hj => va_eqt (hs _ ((show ∀ j, j < 26 → (Cond.eq (.elem (.static "ZText$Alphabets" "OLD_THIRD" "[I") (.int (Int32.ofNat j))) (.int (tb_old j))) ∈ flatC (Jvm.Cond.and given_1 narrow_1) by decide +kernel) j hj))) hA2
  obtain ⟨tN, e2, h2⟩ := va_Tof (tm := .static "ZText$Alphabets" "THIRD" "[I") (ty := .int) (N := 26) (f := fun j => .int (tb_new j)) (A := A) (by decide) (hs _ (by decide +kernel)) (va_eqt (z := 26) (hs _ (by decide +kernel))) (fun j hj => va_eqt (hs _ ((show ∀ j, j < 26 → (Cond.eq (.elem (.static "ZText$Alphabets" "THIRD" "[I") (.int (Int32.ofNat j))) (.int (tb_new j))) ∈ flatC (Jvm.Cond.and given_1 narrow_1) by decide +kernel) j hj))) hA2
  exact ⟨tO, tN, va_Zof (hts _ (List.mem_of_getElem? (i := 85) (by decide +kernel))) hini e1 hA2, h1, va_Zof (hts _ (List.mem_of_getElem? (i := 87) (by decide +kernel))) hini e2 hA2, h2⟩
/-- cell(script, 0) -/
def lw_x0 (L : Nat) (xs : Nat → Int32) : Int32 := if L = 0 then 0 else xs 0
theorem k_cell (l : Launch) (sb L : Nat) (xs : Nat → Int32) (hL : L ≤ 2049) (sz : Nat) : Met l yXL_cell wsXL_cell ({ frames := 0, cells := 0, slots := 0, locals := 0 } : Room) (va_Pc [.ref sb, .int 0] (fun U => U.heap.size = sz ∧ va_X sb L xs U U.heap ∧ sb < sz)) (va_Qi (fun r (_ : Unit) => r = lw_x0 L xs) (fun _ _ => True) (fun q => sz ≤ q)) 0 0 (fun q => sz ≤ q) := by
  refine Met.ofW (cc := cXL_cell) (maxL := 2) (ret := some .int) (by decide) rfl ?_
  intro p e s m args below meth c s₁ B hml hv
  obtain ⟨rfl, hsz, hX, hbl⟩ := hv
  subst hsz
  have hx := B.exec
  have hb := B.bytes
  have hr := B.returns
  have hlk := B.notSynchronized
  have hbA : ¬ (fun q : Nat => s.heap.size ≤ q) sb := by show ¬ s.heap.size ≤ sb; omega
  have hS : va_S (fun q : Nat => s.heap.size ≤ q) s.heap s.heap [] := va_S.rf
  have hl := lv_entry [.ref sb, .int 0] (n := 2) (Nat.le_of_ble_eq_true rfl)
  rw [lg_entry_eq]
  refine lv_iload_n hx hb dXL_cell_0 rfl (lv_at hl 1 rfl) ?_
  refine lv_aload_n hx hb dXL_cell_1 rfl (lv_at hl 0 rfl) ?_
  refine va_slen hx hb hX hbl hbA hS dXL_cell_2 ?_
  refine lv_icmp_ge (tgt := 12) hx hb dXL_cell_3 (by decide) (fun h => ?_) (fun h => ?_)
  · have h0 : L ≤ 0 := (nI_leI (a := L) (b := 0) (by omega) (by decide)).mp h
    refine lv_iconst (v := 0) hx hb dXL_cell_12 (by decide) ?_
    exact W.iret (v := 0) hx hb hr (fun t ht hW => ⟨⟨0, (), rfl, by unfold lw_x0; rw [if_pos (by omega)], trivial⟩, hS.F ht⟩) hS.2.2 dXL_cell_13 hlk
  · have h0 : ¬ L ≤ 0 := fun q => h ((nI_leI (a := L) (b := 0) (by omega) (by decide)).mpr q)
    refine lv_aload_n hx hb dXL_cell_6 rfl (lv_at hl 0 rfl) ?_
    refine lv_iload_n hx hb dXL_cell_7 rfl (lv_at hl 1 rfl) ?_
    refine va_sld hx hb hX hbl hbA hS (vp_in_nI (n := 0) (by omega) (by omega)) dXL_cell_8 ?_
    refine lv_goto (tgt := 13) hx hb dXL_cell_9 (by decide) ?_
    exact W.iret hx hb hr (fun t ht hW => ⟨⟨_, (), rfl, by unfold lw_x0; rw [if_neg (by omega)]; rfl, trivial⟩, hS.F ht⟩) hS.2.2 dXL_cell_13 hlk
section LCELL
variable {p : Program} {l : Launch} {e : Env} {s : State} {m : MethodId} {below : List Frame} {meth : Method} {c : Code} {H : Heap} {locs : List Loc} {cells slots : Nat} {Q : State → Prop} {sb L : Nat} {xs : Nat → Int32} {A : Nat → Prop} {D : va_G} {k : Nat → ClassId} {ws : va_W} {pc : Nat} {ls : Array Slot} {rest : List Value}
theorem lw_cell (C : lw_C p s m meth c sb L xs A D k) (hP : va_P D vwCl ws H) (hD : va_D A ws) (hS : va_S A s.heap H locs) (hls : ls.size = 4) (hrm : (rest.map fun v => v.category).sum ≤ 8) (hc : cells ≤ 600000 ∧ slots ≤ 7302250) (hdg : decode cXL_law pc = .ok (.invokestatic 9, 3))
    (kk : ∀ (H1 : Heap) (locs1 : List Loc), va_P D vwCl ws H1 → va_S A s.heap H1 locs1 → W p l e room_1 s m #[Value.ref sb] below meth c H1 locs1 cells slots Q (F0 m (pc + 3) ls (.int (lw_x0 L xs) :: rest))) : W p l e room_1 s m #[Value.ref sb] below meth c H locs cells slots Q (F0 m pc ls (.int 0 :: .ref sb :: rest)) := by
  obtain ⟨hx, hb, hml, hown, hts, hX, hbl, hbA, hA, hK, hL, hAi, -, -⟩ := C
  refine va_calli (va_runS (As := [.ref sb, .int 0]) (rest := rest) (cc := cXL_law) (nL := 4) (Ts := lw_tbl) (own := RXL) (index := 9) ⟨hx, hb, hml, hown, hts⟩ (k_cell l sb L xs hL H.size) (va_cwS 2 hts (gd_lw (gw_S wa_m_XL_9 wa_t_XL_cell wa_i_XL wa_k_XL_cell)) rfl rfl rfl (by decide +kernel) ⟨Nat.le_of_ble_eq_true rfl, Nat.le_of_ble_eq_true rfl⟩) ⟨fun a U g mk q => ?_, fun U hU hW => ⟨rfl, by rw [hU], ?_, Nat.lt_of_lt_of_le hbl hS.1⟩⟩ rfl rfl hls rfl (lv_room hrm) hdg hc) hS (fun q h1 h2 => absurd h2 (by omega)) (fun q h => hA q (Nat.le_trans hS.1 h)) (fun r u t H1 locs1 ht hvm hp hB hz1 hk1 hS1 => ?_)
  · obtain ⟨q0, q1, q2, q3⟩ := q
    exact ⟨q0, q1, q2.moved (Vm.Alike.refl U.vm), q3⟩
  · rw [hU]
    exact (hX.kept (hS.2.1 sb hbl hbA)).moved hW.alike
  · rw [show r = lw_x0 L xs from hp]
    exact kk H1 locs1 (hP.kept (fun j x hx => hk1 x.1 ((hP j x hx).lt) (by have := (hP j x hx).lt; omega))) hS1
/-- a number of the script -/
theorem lw_ld (C : lw_C p s m meth c sb L xs A D k) (hS : va_S A s.heap H locs) {i : Nat} (hi : i < L) (hdg : decode cXL_law pc = .ok (.iaload, 1))
    (kk : W p l e room_1 s m #[Value.ref sb] below meth c H locs cells slots Q (F0 m (pc + 1) ls (.int (xs i) :: rest))) : W p l e room_1 s m #[Value.ref sb] below meth c H locs cells slots Q (F0 m pc ls (.int (nI i) :: .ref sb :: rest)) := by
  obtain ⟨hx, hb, hml, hown, hts, hX, hbl, hbA, hA, hK, hL, hAi, -, -⟩ := C
  refine va_sld hx hb hX hbl hbA hS (vp_in_nI hi (by omega)) hdg ?_
  rw [nI_clamp (show i < 2 ^ 31 by omega)]
  exact kk
theorem lw_len (C : lw_C p s m meth c sb L xs A D k) (hS : va_S A s.heap H locs) (hdg : decode cXL_law pc = .ok (.arraylength, 1))
    (kk : W p l e room_1 s m #[Value.ref sb] below meth c H locs cells slots Q (F0 m (pc + 1) ls (.int (nI L) :: rest))) : W p l e room_1 s m #[Value.ref sb] below meth c H locs cells slots Q (F0 m pc ls (.ref sb :: rest)) := by
  obtain ⟨hx, hb, hml, hown, hts, hX, hbl, hbA, hA, hK, hL, hAi, -, -⟩ := C
  exact va_slen hx hb hX hbl hbA hS hdg kk
/-- the law's end with true -/
theorem lw_end (C : lw_C p s m meth c sb L xs A D k) (hS : va_S A s.heap H locs) (hc : cells ≤ 600000 ∧ slots ≤ 7302250) (hdg : decode cXL_law pc = .ok (.ireturn, 1)) : W p l e room_1 s m #[Value.ref sb] below meth c H locs cells slots (lw_Z below #[Value.ref sb] s) (F0 m pc ls [.int 1]) := by
  obtain ⟨hx, hb, hml, hown, hts, hX, hbl, hbA, hA, hK, hL, hAi, hr, hlk⟩ := C
  refine va_forget (fun q hq => hAi _ (hS.2.2 q hq)) ?_
  refine W.widen hc.1 hc.2 ?_
  exact lw_ret hx hb hr hlk hdg
end LCELL
/-- the loop's test -/
theorem lw_test {i L : Nat} (hi : i ≤ 4000) (hL : L ≤ 2049) : nI L - 4 < nI i ↔ L < i + 4 := by
  by_cases h4 : 4 ≤ L
  · obtain ⟨j, rfl⟩ : ∃ j, L = j + 4 := ⟨L - 4, by omega⟩
    rw [show nI (j + 4) - 4 = nI j by rw [show nI (j + 4) = nI j + 4 from (nI_add j 4).symm]; simp]
    exact (nI_ltI (a := j) (b := i) (by omega) (by omega)).trans (by omega)
  · refine ⟨fun _ => by omega, fun _ => ?_⟩
    have h0 : (0 : Int32) ≤ nI i := nI_le (a := 0) (Nat.zero_le i) (by omega)
    have h1 : nI L - 4 < 0 := by
      rcases (show L = 0 ∨ L = 1 ∨ L = 2 ∨ L = 3 by omega) with rfl | rfl | rfl | rfl <;> decide
    exact Int32.lt_of_lt_of_le h1 h0
abbrev lw_W (k : Nat → ClassId) (h hm hr he ht hs ha hte hab hd hp am ar ae at_ as_ b hwr hbr la sa fa ca hal a4 wa hf af sep hpp ap hl_ al_ hw aw : Nat) (q : Nat → Nat) (v : Int32) (bh : Int32) (tm : TT) (tr : TT) (tE : TT) (g : Nat → Int32) (y : BS) (r0 : RS) (cn : Nat) (ws : Nat → Int64) (sp_ : Nat → Int32) (z : PZ) (bm : Int32) (s : TT) (r : TT) (lt : Nat → Int32) (pl : Nat → Int32) (zm : MB) (wn : Nat) (wo : Nat → Int64) (sq : Nat → Int32) (tk : TK) : va_W := [(h, .inr (7, [.int v, .ref hm, .ref hr, .ref he, .ref ht, .ref hs, .ref ha, .ref hte, .ref hab, .ref hd, .ref hp, .int bh])), (hm, .inr (5, [.ref am, .int (nI (tm.1))])), (am, .inl (k 0, 3000, .inl tm.2)), (hr, .inr (5, [.ref ar, .int (nI (tr.1))])), (ar, .inl (k 0, 1000, .inl tr.2)), (he, .inr (5, [.ref ae, .int (nI (tE.1))])), (ae, .inl (k 0, 96, .inl tE.2)), (ht, .inr (5, [.ref at_, .int (nI (y.1.2.1.1))])), (at_, .inl (k 0, 1000, .inl y.1.2.1.2)), (hs, .inr (5, [.ref as_, .int (nI (y.2.2.1))])), (as_, .inl (k 0, 4002, .inl y.2.2.2)), (ha, .inr (1, [.int v, .ref b])), (b, .inl (k 0, 78, .inl g)), (hte, .inr (6, [.ref hm, .ref he, .ref ht, .ref hwr, .ref hbr])), (hwr, .inr (4, [.int v, .ref ha, .int r0.1, .int r0.2.1, .int r0.2.2.1, .int r0.2.2.2])), (hbr, .inr (4, [.int v, .ref ha, .int y.1.1.1, .int y.1.1.2.1, .int y.1.1.2.2.1, .int y.1.1.2.2.2])), (hab, .inr (0, [.ref ha, .ref he, .ref hte, .ref ht, .int (nI (zus v)), .ref la, .ref sa, .ref fa, .ref ca, .ref hal])), (la, .inl (k 0, 96, .inl (nF (y.1.2.2.1)))), (sa, .inl (k 0, 3000, .inl y.1.2.2.2)), (fa, .inl (k 0, 1001, .inl (nF (y.2.1.2.1)))), (ca, .inl (k 0, 1000, .inl y.2.1.2.2)), (hal, .inr (5, [.ref a4, .int (nI (y.2.1.1.1))])), (a4, .inl (k 0, 4, .inl y.2.1.1.2)), (hd, .inr (2, [.ref ha, .int (nI (dl v)), .ref wa, .ref hf, .int (nI cn)])), (wa, .inl (k 1, 40, .inr (.inl ws))), (hf, .inr (5, [.ref af, .int (nI (z.2.2.2.1))])), (af, .inl (k 0, 12, .inl z.2.2.2.2)), (hp, .inr (3, [.ref hd, .ref sep, .ref hpp, .ref hl_, .ref hw])), (sep, .inl (k 2, 1024, .inl sp_)), (hpp, .inr (5, [.ref ap, .int (nI (z.1.1))])), (ap, .inl (k 0, 1000, .inl z.1.2)), (hl_, .inr (5, [.ref al_, .int (nI (z.2.1.1))])), (al_, .inl (k 0, 1000, .inl z.2.1.2)), (hw, .inr (5, [.ref aw, .int (nI (z.2.2.1.1))])), (aw, .inl (k 0, 1000, .inl z.2.2.1.2)), (q 0, .inr (8, [.int v, .ref (q 1), .int (nI (s.1)), .ref (q 3), .int (nI (r.1)), .ref (q 5), .ref (q 6), .int bm, .ref (q 8), .ref (q 9), .ref (q 10), .ref (q 11), .ref (q 12), .int (nI (zm.1.2.1.1)), .int zm.1.1, .ref (q 15), .int (nI (zm.2.2.1)), .ref (q 17), .ref (q 18), .ref (q 19), .ref (q 20), .ref (q 21), .ref (q 22), .ref (q 23), .ref (q 24), .int (nI wn), .ref (q 26), .ref (q 27), .int (nI (tk.1)), .ref (q 29), .ref (q 30), .ref (q 31)])), (q 1, .inl (k 3, 3000, .inl s.2)), (q 3, .inl (k 0, 1000, .inl r.2)), (q 5, .inl (k 0, 96, .inl lt)), (q 6, .inl (k 0, 96, .inl pl)), (q 8, .inl (k 0, 2, .inl zm.1.2.2.1.1)), (q 9, .inl (k 0, 2, .inl zm.1.2.2.1.2.1)), (q 10, .inl (k 0, 2, .inl zm.1.2.2.1.2.2.1)), (q 11, .inl (k 2, 2, .inl zm.1.2.2.1.2.2.2)), (q 12, .inl (k 0, 1001, .inl zm.1.2.1.2)), (q 15, .inl (k 0, 4010, .inl zm.2.2.2)), (q 17, .inl (k 0, 4, .inl zm.2.1.2.2.2.2.2)), (q 18, .inl (k 0, 96000, .inl zm.1.2.2.2.2)), (q 19, .inl (k 0, 96, .inl (nF (zm.1.2.2.2.1)))), (q 20, .inl (k 0, 1001, .inl (nF (zm.2.1.1)))), (q 21, .inl (k 0, 1001, .inl zm.2.1.2.1)), (q 22, .inl (k 0, 2, .inl (nF (zm.2.1.2.2.1)))), (q 23, .inl (k 0, 2, .inl zm.2.1.2.2.2.1)), (q 24, .inl (k 0, 2, .inl (nF (zm.2.1.2.2.2.2.1)))), (q 26, .inl (k 1, 40, .inr (.inl wo))), (q 27, .inl (k 2, 1024, .inl sq)), (q 29, .inl (k 0, 1000, .inl tk.2.1)), (q 30, .inl (k 0, 1000, .inl tk.2.2.1)), (q 31, .inl (k 0, 1000, .inl tk.2.2.2))]
/-- from a place of the law on, whatever the state of both sides -/
def lw_G (p : Program) (l : Launch) (e : Env) (s_0 : State) (m : MethodId) (below : List Frame) (meth : Method) (c : Code) (sb : Nat) (A : Nat → Prop) (D : va_G) (k : Nat → ClassId) (h hm hr he ht hs ha hte hab hd hp am ar ae at_ as_ b hwr hbr la sa fa ca hal a4 wa hf af sep hpp ap hl_ al_ hw aw : Nat) (q : Nat → Nat) (i pc : Nat) : Prop := ∀ (v : Int32) (bh : Int32) (tm : TT) (tr : TT) (tE : TT) (g : Nat → Int32) (y : BS) (r0 : RS) (cn : Nat) (ws : Nat → Int64) (sp_ : Nat → Int32) (z : PZ) (bm : Int32) (s : TT) (r : TT) (lt : Nat → Int32) (pl : Nat → Int32) (zm : MB) (wn : Nat) (wo : Nat → Int64) (sq : Nat → Int32) (tk : TK) (H : Heap) (locs : List Loc) (ls : Array Slot), lw_I v bh tm tr tE g y r0 cn ws sp_ z bm s r lt pl zm wn wo sq tk → va_P D vwCl (lw_W k h hm hr he ht hs ha hte hab hd hp am ar ae at_ as_ b hwr hbr la sa fa ca hal a4 wa hf af sep hpp ap hl_ al_ hw aw q v bh tm tr tE g y r0 cn ws sp_ z bm s r lt pl zm wn wo sq tk) H → va_D A (lw_W k h hm hr he ht hs ha hte hab hd hp am ar ae at_ as_ b hwr hbr la sa fa ca hal a4 wa hf af sep hpp ap hl_ al_ hw aw q v bh tm tr tE g y r0 cn ws sp_ z bm s r lt pl zm wn wo sq tk) → va_S A s_0.heap H locs → lv_has ls 4 [(0, .ref sb), (1, .ref h), (2, .ref (q 0)), (3, .int (nI i))] → W p l e room_1 s_0 m #[Value.ref sb] below meth c H locs 59 129839 (lw_Z below #[Value.ref sb] s_0) (F0 m pc ls [])
