/-! A text told, side by side: the text itself (level 0), tell. -/
theorem s0_of {v : Int32} {g : Nat → Int32} {tm tE : TT} {r r' r1 : RS} {x M : Int32} {t : TT} (h : rd_take v g r x = (M, r')) : s0 v g tm tE x (r, r1, t) = ((fo0 v g tm tE M r1 t).1, r', (fo0 v g tm tE M r1 t).2) := by
  unfold s0; dsimp only; rw [h]
theorem fo0_m1 {v : Int32} {g : Nat → Int32} {tm tE : TT} {r : RS} {t : TT} : fo0 v g tm tE (-1) r t = (0, r, t) := by rw [fo0, if_pos rfl]
theorem fo0_m2 {v : Int32} {g : Nat → Int32} {tm tE : TT} {r : RS} {t : TT} : fo0 v g tm tE (-2) r t = (0, r, t) := by rw [fo0, if_neg (by decide), if_pos (by decide), if_pos rfl]
theorem fo0_sg {v : Int32} {g : Nat → Int32} {tm tE : TT} {r : RS} {c : Int32} {t : TT} (h : SG c) : fo0 v g tm tE c r t = ((sg_add c t).1, r, (sg_add c t).2) := by
  obtain ⟨h1, h2, h3⟩ := h.not
  rw [fo0, if_neg h1, if_neg h2, if_neg h3]; rfl
theorem fo0_en {v : Int32} {g : Nat → Int32} {tm tE : TT} {r : RS} {e : Nat} {t : TT} (he : e < 96) : fo0 v g tm tE (nI (1024 + e)) r t = en v g tm tE (nI (1024 + e)) r t := by
  rw [fo0, if_neg (nI_m1 (by omega)), if_neg (nI_pos (by omega)), if_pos (show (1024 : Int32) ≤ nI (1024 + e) from nI_le (a := 1024) (by omega) (by omega)), if_neg]
  intro z
  have h := nI_pos (n := 1024 + e) (by omega)
  rw [z] at h
  exact h (by decide)
theorem neg_nI {p : Nat} (hp : p ≤ 3000) : ¬ 0 < -nI p := by
  have e : -nI p = nI 0 - nI p := by rw [Int32.sub_eq_add_neg, show nI 0 = 0 from rfl, Int32.zero_add]
  intro h
  have h2 := Int32.lt_iff_toInt_lt.mp h
  rw [e, pk_sub_toInt (by decide) (by omega)] at h2
  have h3 : (0 : Int32).toInt = 0 := by decide
  omega
theorem F5.neg {r : Int32} (h : F5 r) (h0 : ¬ r = 0) : (if 0 < -(-r) then -(-r) else 0) = r ∧ -r < 0 ∧ 0 < r := by
  rcases h with rfl | rfl | rfl | rfl | rfl
  · exact absurd rfl h0
  · decide
  · decide
  · decide
  · decide
theorem tx_ms {tm s : TT} {v : Int32} {g : Nat → Int32} {q : Nat} {z : RS × TT} (h : MEM tm s) : tf1 v g tm tm.1 q z = tfin (TX s.1 s.2 q).2 (cl1 v g (TX s.1 s.2 q).1 z) := by
  rw [tf1_cl h, h.1]; rfl
theorem tx_ms0 {tm s tE : TT} {v : Int32} {g : Nat → Int32} {q : Nat} {z : RS × RS × TT} (h : MEM tm s) : tf0 v g tm tE tm.1 q z = tfin (TX s.1 s.2 q).2 (cl0 v g tm tE (TX s.1 s.2 q).1 z) := by
  rw [tf0_cl h, h.1]; rfl
def kb (c : Nat) : List Int32 → Nat
  | [] => 0
  | _ :: L => c + kb c L
theorem kb_eq (c : Nat) : ∀ L, kb c L = c * L.length
  | [] => rfl
  | x :: L => by rw [kb, kb_eq c L, List.length_cons, Nat.mul_succ, Nat.add_comm]
section RUN
variable {v : Int32} {mb lt pl g : Nat → Int32}
theorem lv0_run {tm s tE : TT} (hv : VER v) (hl : LET g lt) (hm : MEM tm s) (hE : ENT tE pl) {E : Option Nat} {c9 : Nat} (hc9 : 9002 ≤ 2 * c9) : ∀ (N : Nat) (L : List Int32), L.length ≤ N → (∀ x ∈ L, B32 x) → ∀ (lkT lk al hd : Int32) (r1 : RS) (t t' : TT) (n : NS), L3 lk → AL al → TOLD t t' → REM s.1 s.2 n 0 L E →
    ∃ (k lv' : Nat) (lkT' lk' al' fa' : Int32) (t'' : TT) (n' : NS), k ≤ kb c9 L ∧ RCH v s.1 s.2 lt pl 0 k (0, lkT, lk, al, 0, t', n) (lv', lkT', lk', al', fa', t'', n') ∧ TOLD (cl0 v g tm tE L ((lk, al, 0, hd), r1, t)).2.2.2 t'' ∧ ((¬ (cl0 v g tm tE L ((lk, al, 0, hd), r1, t)).1 = 0 ∧ fa' = (cl0 v g tm tE L ((lk, al, 0, hd), r1, t)).1) ∨ ((cl0 v g tm tE L ((lk, al, 0, hd), r1, t)).1 = 0 ∧ ((fa' = 0 ∧ lv' = 0 ∧ REM s.1 s.2 n' 0 [] E) ∨ (fa' = 2 ∧ E = none)))) ∧ F5 (cl0 v g tm tE L ((lk, al, 0, hd), r1, t)).1
  | N, [], _, _, lkT, lk, al, hd, r1, t, t', n, _, _, ht, hr => ⟨0, 0, lkT, lk, al, 0, t', n, Nat.le_refl _, RCH.zero, ht, Or.inr ⟨rfl, Or.inl ⟨rfl, rfl, hr⟩⟩, Or.inl rfl⟩
  | 0, x :: L, hN, _, _, _, _, _, _, _, _, _, _, _, _, _ => absurd hN (by show ¬ (L.length + 1 ≤ 0); omega)
  | N + 1, x :: L, hN, hb, lkT, lk, al, hd, r1, t, t', n, hlk, hal, ht, hr => by
    have hms := hm.2.1
    have hN' : L.length + 1 ≤ N + 1 := hN
    have hx : B32 x := hb x List.mem_cons_self
    have hbL : ∀ y ∈ L, B32 y := fun y hy => hb y (List.mem_cons_of_mem _ hy)
    obtain ⟨n1, e1, hr1, hs1⟩ := nu_cons hms hr
    have hone := one_b (v := v) (lt := lt) (pl := pl) (fi := 0) (lkT := lkT) (lk := lk) (al := al) (t := t') hx e1
    have pe : ∀ {n2 : NS} {fa : Int32}, END s.1 s.2 0 E fa n2 0 → (fa = 0 ∧ 0 = 0 ∧ REM s.1 s.2 n2 0 [] E) ∨ (fa = 2 ∧ E = none) := by
      intro n2 fa h
      rcases h with h | ⟨-, h | h⟩
      · exact absurd rfl h.1
      · exact Or.inl ⟨h.1, rfl, h.2⟩
      · exact Or.inr h
    rw [cl0]
    rcases free_cases (hd := hd) hv hl hlk hal hx with ⟨c, hc, ef, em⟩ | ⟨lk2, al2, hlk2, hal2, ef, em⟩ | ⟨b, hb3, hxb, ef, em⟩ | ⟨ef, em⟩
    · rw [em] at hone
      rw [s0_of (take_free.trans ef), fo0_sg hc]
      obtain ⟨t1, t2, t3⟩ := told_step ht hc
      have hrch : RCH v s.1 s.2 lt pl 0 1 (0, lkT, lk, al, 0, t', n) (0, lkT, lk, -1, (tl_s c (0, t')).1, (tl_s c (0, t')).2, n1) := RCH.one rfl hone
      rcases t3 with t3 | t3
      · rw [if_pos t3]
        rw [← t1, t3] at hrch
        obtain ⟨k, lv', lkT', lk', al', fa', t'', n', k1, k2, k3, k4, k6⟩ := lv0_run hv hl hm hE hc9 N L (by omega) hbL lkT lk (-1) hd r1 _ _ n1 hlk (Or.inl rfl) t2 hr1
        exact ⟨1 + k, lv', lkT', lk', al', fa', t'', n', by show 1 + k ≤ c9 + kb c9 L; omega, hrch.trans k2, k3, k4, k6⟩
      · rw [if_neg (by rw [t3]; decide)]
        rw [← t1, t3] at hrch
        exact ⟨1, 0, lkT, lk, -1, 4, _, n1, by show 1 ≤ c9 + kb c9 L; omega, hrch, t2, Or.inl ⟨by rw [t3]; decide, t3.symm⟩, Or.inr (Or.inr (Or.inr (Or.inr t3)))⟩
    · rw [em] at hone
      rw [s0_of (take_free.trans ef), fo0_m1, if_pos rfl]
      obtain ⟨k, lv', lkT', lk', al', fa', t'', n', k1, k2, k3, k4, k6⟩ := lv0_run hv hl hm hE hc9 N L (by omega) hbL lkT lk2 al2 hd r1 t t' n1 hlk2 hal2 ht hr1
      exact ⟨1 + k, lv', lkT', lk', al', fa', t'', n', by show 1 + k ≤ c9 + kb c9 L; omega, (RCH.one rfl hone).trans k2, k3, k4, k6⟩
    · rw [em, tm_a, if_neg (by decide)] at hone
      dsimp only at hone
      rw [s0_of (take_free.trans ef), fo0_m2, if_pos rfl]
      match L, hN', hbL, hr1 with
      | [], _, _, hr1 =>
        obtain ⟨fa, e2, hEd⟩ := pend hms hr1
        rw [tm_a2, e2] at hone
        dsimp only at hone
        rw [if_pos (by decide)] at hone
        exact ⟨1, 0, lkT, lk, -1, fa, t', n1, by show 1 ≤ c9 + 0; omega, RCH.one rfl hone, ht, Or.inr ⟨rfl, pe hEd⟩, Or.inl rfl⟩
      | x2 :: L2, hN', hbL, hr1 =>
        have hN2 : L2.length + 1 + 1 ≤ N + 1 := hN'
        have hx2 : B32 x2 := hbL x2 List.mem_cons_self
        have hbL2 : ∀ y ∈ L2, B32 y := fun y hy => hbL y (List.mem_cons_of_mem _ hy)
        obtain ⟨n2, e2, hr2, hs2⟩ := nu_cons hms hr1
        obtain ⟨q2, hq2, rfl⟩ := hx2
        subst hxb
        have ee : 32 * (nI (b + 1) - 1) + nI q2 = nI (32 * b + q2) := by rw [nI_pred, show (32 : Int32) = nI 32 from rfl, pk_mul, nI_add]
        have eM : 1024 + nI (32 * b) + nI q2 = nI (1024 + (32 * b + q2)) := by rw [show (1024 : Int32) = nI 1024 from rfl, nI_add, nI_add, Nat.add_assoc]
        have he : 32 * b + q2 < 96 := by omega
        rw [tm_a2, e2] at hone
        dsimp only at hone
        rw [if_neg (nI_pos (by omega)), ee, nI_clamp (by omega)] at hone
        rw [cl0, s0_of take_1, eM, fo0_en he]
        have eg : rw_get tE.1 tE.2 (nI (1024 + (32 * b + q2)) - 1024) = pl (32 * b + q2) := by
          rw [show (1024 : Int32) = nI 1024 from rfl, pk_sub (by omega), show 1024 + (32 * b + q2) - 1024 = 32 * b + q2 by omega]
          exact hE.get he
        by_cases hpl : 0 ≤ pl (32 * b + q2)
        · rw [if_pos hpl] at hone
          obtain ⟨P, hP, eP⟩ := nI_of2 (M := 3000) (n := 3000) (by decide) (Int32.not_lt.mpr hpl) (hE.2 _ he).2
          have etfe : tfe v g tm tE (nI (1024 + (32 * b + q2))) t = tfin (TX s.1 s.2 P).2 (cl1 v g (TX s.1 s.2 P).1 (rd_0, t)) := by
            rw [tfe, eg, eP, nI_clamp (by omega)]; exact tx_ms hm
          have hval := txt_val (ms := s.1) (mb := s.2) s.1 P
          rw [eP] at hone
          have hst : REM s.1 s.2 (st_ 1 (nI P) n2) 1 (TX s.1 s.2 P).1 (TX s.1 s.2 P).2 := REM.st hP
          obtain ⟨k, lk', al', fa', t'', n', k1, k2, k3, k4, k5, k6⟩ := lv1_run (pl := pl) (fi := 0) hv hl hms (lkT := lk) (TX s.1 s.2 P).1.length (TX s.1 s.2 P).1 (Nat.le_refl _) hval.1 0 (-1) 0 t t' _ L3_0 (Or.inl rfl) ht hst
          have hk9 : k ≤ 9000 := Nat.le_trans k1 (Nat.le_trans hval.2.1 (by omega))
          have h0n : SAME 0 n2 n' := (SAME.st (by decide)).trans k5
          have hr2' : REM s.1 s.2 n' 0 L2 E := h0n.rem hr2
          have hR1 : RCH v s.1 s.2 lt pl 0 (1 + k) (0, lkT, lk, al, 0, t', n) (1, lk, lk', al', fa', t'', n') := (RCH.one rfl hone).trans k2
          have hN3 : (1 + k) + 1 ≤ c9 + (c9 + kb c9 L2) := by omega
          have hN4 : 1 + k ≤ c9 + (c9 + kb c9 L2) := by omega
          by_cases hz : (cl1 v g (TX s.1 s.2 P).1 (rd_0, t)).1 = 0
          · have h2n : (TX s.1 s.2 P).2 = none → en v g tm tE (nI (1024 + (32 * b + q2))) r1 t = (2, (cl1 v g (TX s.1 s.2 P).1 (rd_0, t)).2) := by
              intro hEn
              rw [en, eg, if_pos hpl, etfe, tfin, if_pos hz, hEn]
              show (if 0 < -(-2 : Int32) then -(-2 : Int32) else (0 : Int32), _) = _
              rw [show (if 0 < -(-2 : Int32) then -(-2 : Int32) else (0 : Int32)) = 2 by decide]
            rcases k4 with k4 | ⟨-, ⟨f0, hre⟩ | ⟨f2, hne⟩⟩
            · exact absurd hz k4.1
            · subst f0
              rcases nu_list (fa := 0) hms hre with ⟨x', L', n'', h1, -⟩ | ⟨p, -, hEp, etn, -⟩ | ⟨-, hEn, etn⟩
              · cases h1
              · have hp3 : p ≤ 3000 := Nat.le_trans (hval.2.2 p hEp) hms
                have hen : en v g tm tE (nI (1024 + (32 * b + q2))) r1 t = (0, (cl1 v g (TX s.1 s.2 P).1 (rd_0, t)).2) := by
                  rw [en, eg, if_pos hpl, etfe, tfin, if_pos hz, hEp]
                  show (if 0 < -nI p then -nI p else 0, _) = _
                  rw [if_neg (neg_nI hp3)]
                have hback : tm_one v s.1 s.2 lt pl 0 (1, lk, lk', al', 0, t'', n') = (true, (0, lk, lk, -1, 0, t'', n')) := by
                  unfold tm_one; dsimp only
                  rw [etn, tm_x]; dsimp only
                  rw [if_pos (by decide), if_neg (by decide), if_neg (by decide)]
                obtain ⟨kk, lv2, lkT2, lk2, al2, fa2, t2, n3, j1, j2, j3, j4, j6⟩ := lv0_run hv hl hm hE hc9 N L2 (by omega) hbL2 lk lk (-1) (nI (32 * b)) (cl1 v g (TX s.1 s.2 P).1 (rd_0, t)).2.1 (cl1 v g (TX s.1 s.2 P).1 (rd_0, t)).2.2 t'' n' hlk (Or.inl rfl) k3 hr2'
                rw [hen, if_pos rfl]
                exact ⟨((1 + k) + 1) + kk, lv2, lkT2, lk2, al2, fa2, t2, n3, by show _ ≤ c9 + (c9 + kb c9 L2); omega, (hR1.trans (RCH.one rfl hback)).trans j2, j3, j4, j6⟩
              · have hflt : tm_one v s.1 s.2 lt pl 0 (1, lk, lk', al', 0, t'', n') = (false, (1, lk, lk', al', 2, t'', n')) := by
                  unfold tm_one; dsimp only
                  rw [etn, tm_x]; dsimp only
                  rw [if_neg (by decide)]
                rw [h2n hEn, if_neg (show ¬ ((2 : Int32) = 0) by decide)]
                exact ⟨(1 + k) + 1, 1, lk, lk', al', 2, t'', n', hN3, hR1.trans (RCH.fault rfl hflt (show ¬ ((2 : Int32) = 0) by decide)), k3, Or.inl ⟨show ¬ ((2 : Int32) = 0) by decide, rfl⟩, Or.inr (Or.inr (Or.inl rfl))⟩
            · subst f2
              rw [h2n hne, if_neg (show ¬ ((2 : Int32) = 0) by decide)]
              exact ⟨1 + k, 1, lk, lk', al', 2, t'', n', hN4, hR1, k3, Or.inl ⟨show ¬ ((2 : Int32) = 0) by decide, rfl⟩, Or.inr (Or.inr (Or.inl rfl))⟩
          · have k6' : F5 (cl1 v g (TX s.1 s.2 P).1 (rd_0, t)).1 := k6
            have hen : en v g tm tE (nI (1024 + (32 * b + q2))) r1 t = ((cl1 v g (TX s.1 s.2 P).1 (rd_0, t)).1, (cl1 v g (TX s.1 s.2 P).1 (rd_0, t)).2) := by
              rw [en, eg, if_pos hpl, etfe, tfin, if_neg hz]
              show (if 0 < -(-(cl1 v g (TX s.1 s.2 P).1 (rd_0, t)).1) then -(-(cl1 v g (TX s.1 s.2 P).1 (rd_0, t)).1) else 0, _) = _
              rw [(F5.neg k6' hz).1]
            rcases k4 with ⟨-, k4⟩ | ⟨k4, -⟩
            · rw [hen, if_neg hz]
              exact ⟨1 + k, 1, lk, lk', al', fa', t'', n', hN4, hR1, k3, Or.inl ⟨hz, k4⟩, k6⟩
            · exact absurd k4 hz
        · rw [if_neg hpl] at hone
          have hen : en v g tm tE (nI (1024 + (32 * b + q2))) r1 t = (3, r1, t) := by rw [en, eg, if_neg hpl]
          rw [hen, if_neg (show ¬ ((3 : Int32) = 0) by decide)]
          exact ⟨1, 0, lkT, lk, -1, 3, t', n2, by show 1 ≤ c9 + (c9 + kb c9 L2); omega, RCH.one rfl hone, ht, Or.inl ⟨show ¬ ((3 : Int32) = 0) by decide, rfl⟩, Or.inr (Or.inr (Or.inr (Or.inl rfl)))⟩
    · rw [em] at hone
      rw [s0_of (take_free.trans ef), fo0_m1, if_pos rfl]
      match L, hN', hbL, hr1 with
      | [], _, _, hr1 =>
        obtain ⟨fa, e2, hEd⟩ := pend hms hr1
        rw [e2, tm_e1] at hone
        dsimp only at hone
        rw [if_neg (by decide)] at hone
        exact ⟨1, 0, lkT, lk, -1, fa, t', n1, by show 1 ≤ c9 + 0; omega, RCH.one rfl hone, ht, Or.inr ⟨rfl, pe hEd⟩, Or.inl rfl⟩
      | [h], _, hbL, hr1 =>
        have hh : B32 h := hbL h List.mem_cons_self
        obtain ⟨n2, e2, hr2, hs2⟩ := nu_cons hms hr1
        obtain ⟨fa, e3, hEd⟩ := pend hms hr2
        rw [e2, tm_e1] at hone
        dsimp only at hone
        rw [if_pos hh.nn, tm_e2, e3] at hone
        dsimp only at hone
        rw [if_pos (by decide)] at hone
        rw [cl0, s0_of take_2, fo0_m1, if_pos rfl]
        exact ⟨1, 0, lkT, lk, -1, fa, t', n2, by show 1 ≤ c9 + (c9 + 0); omega, RCH.one rfl hone, ht, Or.inr ⟨rfl, pe hEd⟩, Or.inl rfl⟩
      | h :: l :: L2, hN', hbL, hr1 =>
        have hN2 : L2.length + 1 + 1 + 1 ≤ N + 1 := hN'
        have hh : B32 h := hbL h List.mem_cons_self
        have hlw : B32 l := hbL l (List.mem_cons_of_mem _ List.mem_cons_self)
        have hbL2 : ∀ y ∈ L2, B32 y := fun y hy => hbL y (List.mem_cons_of_mem _ (List.mem_cons_of_mem _ hy))
        obtain ⟨n2, e2, hr2, hs2⟩ := nu_cons hms hr1
        obtain ⟨n3, e3, hr3, hs3⟩ := nu_cons hms hr2
        have hc : SG (32 * h + l) := SG.hl hh hlw
        rw [e2, tm_e1] at hone
        dsimp only at hone
        rw [if_pos hh.nn, tm_e2, e3] at hone
        dsimp only at hone
        rw [if_neg (Int32.not_lt.mpr hlw.nn)] at hone
        rw [cl0, s0_of take_2, fo0_m1, if_pos rfl, cl0, s0_of take_3, fo0_sg hc]
        obtain ⟨t1, t2, t3⟩ := told_step ht hc
        have hrch : RCH v s.1 s.2 lt pl 0 1 (0, lkT, lk, al, 0, t', n) (0, lkT, lk, -1, (tl_s (32 * h + l) (0, t')).1, (tl_s (32 * h + l) (0, t')).2, n3) := RCH.one rfl hone
        rcases t3 with t3 | t3
        · rw [if_pos t3]
          rw [← t1, t3] at hrch
          obtain ⟨k, lv', lkT', lk', al', fa', t'', n', k1, k2, k3, k4, k6⟩ := lv0_run hv hl hm hE hc9 N L2 (by omega) hbL2 lkT lk (-1) (32 * h) r1 _ _ n3 hlk (Or.inl rfl) t2 hr3
          exact ⟨1 + k, lv', lkT', lk', al', fa', t'', n', by show 1 + k ≤ c9 + (c9 + (c9 + kb c9 L2)); omega, hrch.trans k2, k3, k4, k6⟩
        · rw [if_neg (by rw [t3]; decide)]
          rw [← t1, t3] at hrch
          exact ⟨1, 0, lkT, lk, -1, 4, _, n3, by show 1 ≤ c9 + (c9 + (c9 + kb c9 L2)); omega, hrch, t2, Or.inl ⟨by rw [t3]; decide, t3.symm⟩, Or.inr (Or.inr (Or.inr (Or.inr t3)))⟩
end RUN
