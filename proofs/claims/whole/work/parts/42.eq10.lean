/-! A text told, side by side: an abbreviation's (level 1). -/
def TSG (t : TT) : Prop := ∀ j, j < t.1 → SG (t.2 j)
def TOLD (t t' : TT) : Prop := TEQ t t' ∧ t.1 ≤ 1000 ∧ TSG t
def sg_add (c : Int32) (t : TT) : Int32 × TT := (if rw_ar 1000 t.1 = 0 then 4 else 0, rw_a 1000 c t)
theorem SG.not {c : Int32} (h : SG c) : ¬ c = -1 ∧ ¬ c < 0 ∧ ¬ 1024 ≤ c := by
  obtain ⟨q, hq, rfl⟩ := h
  exact ⟨nI_m1 (by omega), nI_pos (by omega), nI_ge (b := 1024) hq (by decide)⟩
theorem fo1_sg {c : Int32} {t : TT} (h : SG c) : fo1 c t = sg_add c t := by
  obtain ⟨h1, h2, h3⟩ := h.not
  rw [fo1, if_neg h1, if_neg h2, if_neg h3]; rfl
theorem told_step {c : Int32} {t t' : TT} (h : TOLD t t') (hc : SG c) : (sg_add c t).1 = (tl_s c (0, t')).1 ∧ TOLD (sg_add c t).2 (tl_s c (0, t')).2 ∧ ((sg_add c t).1 = 0 ∨ (sg_add c t).1 = 4) := by
  obtain ⟨⟨h1, h2⟩, h3, h4⟩ := h
  unfold sg_add tl_s rw_ar
  by_cases hr : t.1 < 1000
  · rw [if_pos hr, if_neg (by decide), if_neg (show ¬ t'.1 = 1000 by omega), rw_a_pu hr]
    refine ⟨rfl, ⟨TEQ.pu ⟨h1, h2⟩ c, hr, fun j hj => ?_⟩, Or.inl rfl⟩
    have hj2 : j < t.1 + 1 := hj
    show SG (upd t.2 t.1 c j)
    by_cases q : j = t.1
    · rw [q, upd_s]; exact hc
    · rw [upd_n q]; exact h4 j (by omega)
  · rw [if_neg hr, if_pos rfl, if_pos (show t'.1 = 1000 by omega)]
    have e : rw_a 1000 c t = t := by
      unfold rw_a rw_an rw_af
      rw [if_neg hr, if_neg hr]
    rw [e]
    exact ⟨rfl, ⟨⟨h1, h2⟩, h3, h4⟩, Or.inr rfl⟩
theorem take_free {v : Int32} {g : Nat → Int32} {lk al hd x : Int32} : rd_take v g (lk, al, 0, hd) x = rd_free v g (lk, al, 0, hd) x := by
  unfold rd_take; dsimp only
  rw [if_neg (by decide), if_neg (by decide), if_neg (by decide)]
theorem take_1 {v : Int32} {g : Nat → Int32} {lk al hd x : Int32} : rd_take v g (lk, al, 1, hd) x = (1024 + hd + x, (lk, al, 0, hd)) := by
  unfold rd_take; dsimp only
  rw [if_pos rfl]
theorem take_2 {v : Int32} {g : Nat → Int32} {lk al hd x : Int32} : rd_take v g (lk, al, 2, hd) x = (-1, (lk, al, 3, 32 * x)) := by
  unfold rd_take; dsimp only
  rw [if_neg (by decide), if_pos rfl]
theorem take_3 {v : Int32} {g : Nat → Int32} {lk al hd x : Int32} : rd_take v g (lk, al, 3, hd) x = (hd + x, (lk, al, 0, hd)) := by
  unfold rd_take; dsimp only
  rw [if_neg (by decide), if_neg (by decide), if_pos rfl]
theorem s1_of {v : Int32} {g : Nat → Int32} {r r' : RS} {x M : Int32} {t : TT} (h : rd_take v g r x = (M, r')) : s1 v g x (r, t) = ((fo1 M t).1, r', (fo1 M t).2) := by
  unfold s1; dsimp only; rw [h]
theorem fo1_m1 {t : TT} : fo1 (-1) t = (0, t) := by rw [fo1, if_pos rfl]
theorem fo1_m2 {t : TT} : fo1 (-2) t = (1, t) := by rw [fo1, if_neg (by decide), if_pos (by decide)]
theorem SG.hl {h l : Int32} (hh : B32 h) (hl : B32 l) : SG (32 * h + l) := by
  obtain ⟨a, ha, rfl⟩ := hh
  obtain ⟨b, hb, rfl⟩ := hl
  rw [show (32 : Int32) = nI 32 from rfl, pk_mul, nI_add]
  exact ⟨32 * a + b, by omega, rfl⟩
section RUN
variable {v : Int32} {ms : Nat} {mb lt pl g : Nat → Int32} {fi : Nat}
def RCH (v : Int32) (ms : Nat) (mb lt pl : Nat → Int32) (fi k : Nat) (S S' : TS) : Prop := ∀ m, tm_all v ms mb lt pl fi (m + k) S = tm_all v ms mb lt pl fi m S'
theorem RCH.trans {k1 k2 : Nat} {A B C : TS} (h : RCH v ms mb lt pl fi k1 A B) (k : RCH v ms mb lt pl fi k2 B C) : RCH v ms mb lt pl fi (k1 + k2) A C := by
  intro m
  rw [show m + (k1 + k2) = (m + k2) + k1 by omega, h, k]
theorem RCH.zero {A : TS} : RCH v ms mb lt pl fi 0 A A := fun _ => rfl
theorem RCH.one {S S' : TS} (h0 : S.2.2.2.2.1 = 0) (h : tm_one v ms mb lt pl fi S = (true, S')) : RCH v ms mb lt pl fi 1 S S' := by
  intro m
  rw [tm_all, if_pos h0, h]
  rfl
theorem tm_stop {S : TS} (h : ¬ S.2.2.2.2.1 = 0) : ∀ m, tm_all v ms mb lt pl fi m S = S
  | 0 => rfl
  | m + 1 => by rw [tm_all, if_neg h]
theorem RCH.fault {S S' : TS} (h0 : S.2.2.2.2.1 = 0) (h : tm_one v ms mb lt pl fi S = (false, S')) (hf : ¬ S'.2.2.2.2.1 = 0) : RCH v ms mb lt pl fi 1 S S' := by
  intro m
  rw [tm_all, if_pos h0, h, tm_stop hf]
  rfl
theorem B32.nn {x : Int32} (h : B32 x) : 0 ≤ x := by
  obtain ⟨q, hq, rfl⟩ := h
  exact nI_pos' (by omega)
theorem one_b {lv : Nat} {lkT lk al x : Int32} {t : TT} {n n' : NS} (hx : B32 x) (h : tn ms mb lv 0 n = (x, 0, n')) : tm_one v ms mb lt pl fi (lv, lkT, lk, al, 0, t, n) = tm_b v ms mb lt pl lv lkT lk (us_ lk al) t (x, 0, n') := by
  unfold tm_one; dsimp only
  rw [h, tm_x]; dsimp only
  rw [if_pos (by decide), if_pos hx.nn]
  rfl
def END (ms : Nat) (mb : Nat → Int32) (r : Int32) (E : Option Nat) (fa : Int32) (n : NS) (lv : Nat) : Prop := (¬ r = 0 ∧ fa = r) ∨ (r = 0 ∧ ((fa = 0 ∧ REM ms mb n lv [] E) ∨ (fa = 2 ∧ E = none)))
def F5 (r : Int32) : Prop := r = 0 ∨ r = 1 ∨ r = 2 ∨ r = 3 ∨ r = 4
/-- nothing is left where a number is awaited -/
theorem pend {lv : Nat} {n : NS} {E : Option Nat} (hms : ms ≤ 3000) (h : REM ms mb n lv [] E) : ∃ fa, tn ms mb lv 0 n = (-1, fa, n) ∧ END ms mb 0 E fa n lv := by
  rcases nu_list (fa := 0) hms h with ⟨x, L', n', h1, -⟩ | ⟨p, -, hE, e, -⟩ | ⟨-, hE, e⟩
  · cases h1
  · exact ⟨0, e, Or.inr ⟨rfl, Or.inl ⟨rfl, h⟩⟩⟩
  · exact ⟨2, e, Or.inr ⟨rfl, Or.inr ⟨rfl, hE⟩⟩⟩
theorem nu_cons {lv : Nat} {n : NS} {x : Int32} {L : List Int32} {E : Option Nat} (hms : ms ≤ 3000) (h : REM ms mb n lv (x :: L) E) : ∃ n', tn ms mb lv 0 n = (x, 0, n') ∧ REM ms mb n' lv L E ∧ ∀ l, l ≠ lv → SAME l n n' := by
  rcases nu_list (fa := 0) hms h with ⟨x', L', n', h1, h2, h3, h4⟩ | ⟨p, h1, -⟩ | ⟨h1, -⟩
  · injection h1 with a b
    subst a; subst b
    exact ⟨n', h2, h3, h4⟩
  · cases h1
  · cases h1
theorem lv1_run (hv : VER v) (hl : LET g lt) (hms : ms ≤ 3000) {lkT : Int32} {E : Option Nat} : ∀ (N : Nat) (L : List Int32), L.length ≤ N → (∀ x ∈ L, B32 x) → ∀ (lk al hd : Int32) (t t' : TT) (n : NS), L3 lk → AL al → TOLD t t' → REM ms mb n 1 L E →
    ∃ (k : Nat) (lk' al' fa' : Int32) (t'' : TT) (n' : NS), k ≤ L.length ∧ RCH v ms mb lt pl fi k (1, lkT, lk, al, 0, t', n) (1, lkT, lk', al', fa', t'', n') ∧ TOLD (cl1 v g L ((lk, al, 0, hd), t)).2.2 t'' ∧ END ms mb (cl1 v g L ((lk, al, 0, hd), t)).1 E fa' n' 1 ∧ SAME 0 n n' ∧ F5 (cl1 v g L ((lk, al, 0, hd), t)).1
  | N, [], _, _, lk, al, hd, t, t', n, _, _, ht, hr => ⟨0, lk, al, 0, t', n, Nat.le_refl _, RCH.zero, ht, Or.inr ⟨rfl, Or.inl ⟨rfl, hr⟩⟩, SAME.rfl', Or.inl rfl⟩
  | 0, x :: L, hN, _, _, _, _, _, _, _, _, _, _, _ => absurd hN (by show ¬ (L.length + 1 ≤ 0); omega)
  | N + 1, x :: L, hN, hb, lk, al, hd, t, t', n, hlk, hal, ht, hr => by
    have hN' : L.length + 1 ≤ N + 1 := hN
    have hx : B32 x := hb x List.mem_cons_self
    have hbL : ∀ y ∈ L, B32 y := fun y hy => hb y (List.mem_cons_of_mem _ hy)
    obtain ⟨n1, e1, hr1, hs1⟩ := nu_cons hms hr
    have h01 := hs1 0 (by decide)
    have hone := one_b (v := v) (lt := lt) (pl := pl) (fi := fi) (lkT := lkT) (lk := lk) (al := al) (t := t') hx e1
    rw [cl1]
    rcases free_cases (hd := hd) hv hl hlk hal hx with ⟨c, hc, ef, em⟩ | ⟨lk2, al2, hlk2, hal2, ef, em⟩ | ⟨b, hb3, hxb, ef, em⟩ | ⟨ef, em⟩
    · rw [em] at hone
      rw [s1_of (take_free.trans ef), fo1_sg hc]
      obtain ⟨t1, t2, t3⟩ := told_step ht hc
      have hrch : RCH v ms mb lt pl fi 1 (1, lkT, lk, al, 0, t', n) (1, lkT, lk, -1, (tl_s c (0, t')).1, (tl_s c (0, t')).2, n1) := RCH.one rfl hone
      rcases t3 with t3 | t3
      · rw [if_pos t3]
        rw [← t1, t3] at hrch
        obtain ⟨k, lk', al', fa', t'', n', k1, k2, k3, k4, k5, k6⟩ := lv1_run hv hl hms N L (by omega) hbL lk (-1) hd _ _ n1 hlk (Or.inl rfl) t2 hr1
        exact ⟨1 + k, lk', al', fa', t'', n', by show 1 + k ≤ L.length + 1; omega, hrch.trans k2, k3, k4, h01.trans k5, k6⟩
      · rw [if_neg (by rw [t3]; decide)]
        rw [← t1, t3] at hrch
        exact ⟨1, lk, -1, 4, _, n1, by show 1 ≤ L.length + 1; omega, hrch, t2, Or.inl ⟨by rw [t3]; decide, t3.symm⟩, h01, Or.inr (Or.inr (Or.inr (Or.inr t3)))⟩
    · rw [em] at hone
      rw [s1_of (take_free.trans ef), fo1_m1, if_pos rfl]
      obtain ⟨k, lk', al', fa', t'', n', k1, k2, k3, k4, k5, k6⟩ := lv1_run hv hl hms N L (by omega) hbL lk2 al2 hd t t' n1 hlk2 hal2 ht hr1
      exact ⟨1 + k, lk', al', fa', t'', n', by show 1 + k ≤ L.length + 1; omega, (RCH.one rfl hone).trans k2, k3, k4, h01.trans k5, k6⟩
    · rw [em, tm_a, if_pos rfl] at hone
      rw [s1_of (take_free.trans ef), fo1_m2, if_neg (show ¬ ((1 : Int32) = 0) by decide)]
      exact ⟨1, lk, -1, 1, t', n1, by show 1 ≤ L.length + 1; omega, RCH.one rfl hone, ht, Or.inl ⟨show ¬ ((1 : Int32) = 0) by decide, rfl⟩, h01, Or.inr (Or.inl rfl)⟩
    · rw [em] at hone
      rw [s1_of (take_free.trans ef), fo1_m1, if_pos rfl]
      match L, hN', hbL, hr1 with
      | [], _, _, hr1 =>
        obtain ⟨fa, e2, hE⟩ := pend hms hr1
        rw [e2, tm_e1] at hone
        dsimp only at hone
        rw [if_neg (by decide)] at hone
        exact ⟨1, lk, -1, fa, t', n1, Nat.le_refl _, RCH.one rfl hone, ht, hE, h01, Or.inl rfl⟩
      | [h], _, hbL, hr1 =>
        have hh : B32 h := hbL h List.mem_cons_self
        obtain ⟨n2, e2, hr2, hs2⟩ := nu_cons hms hr1
        obtain ⟨fa, e3, hE⟩ := pend hms hr2
        rw [e2, tm_e1] at hone
        dsimp only at hone
        rw [if_pos hh.nn, tm_e2, e3] at hone
        dsimp only at hone
        rw [if_pos (by decide)] at hone
        rw [cl1, s1_of take_2, fo1_m1, if_pos rfl]
        exact ⟨1, lk, -1, fa, t', n2, by show 1 ≤ 2; decide, RCH.one rfl hone, ht, hE, h01.trans (hs2 0 (by decide)), Or.inl rfl⟩
      | h :: l :: L2, hN', hbL, hr1 =>
        have hN2 : L2.length + 1 + 1 + 1 ≤ N + 1 := hN'
        have hh : B32 h := hbL h List.mem_cons_self
        have hlw : B32 l := hbL l (List.mem_cons_of_mem _ List.mem_cons_self)
        have hbL2 : ∀ y ∈ L2, B32 y := fun y hy => hbL y (List.mem_cons_of_mem _ (List.mem_cons_of_mem _ hy))
        obtain ⟨n2, e2, hr2, hs2⟩ := nu_cons hms hr1
        obtain ⟨n3, e3, hr3, hs3⟩ := nu_cons hms hr2
        have hc : SG (32 * h + l) := SG.hl hh hlw
        rw [e2, tm_e1] at hone
        dsimp only at hone
        rw [if_pos hh.nn, tm_e2, e3] at hone
        dsimp only at hone
        rw [if_neg (Int32.not_lt.mpr hlw.nn)] at hone
        have h03 := (h01.trans (hs2 0 (by decide))).trans (hs3 0 (by decide))
        rw [cl1, s1_of take_2, fo1_m1, if_pos rfl, cl1, s1_of take_3, fo1_sg hc]
        obtain ⟨t1, t2, t3⟩ := told_step ht hc
        have hrch : RCH v ms mb lt pl fi 1 (1, lkT, lk, al, 0, t', n) (1, lkT, lk, -1, (tl_s (32 * h + l) (0, t')).1, (tl_s (32 * h + l) (0, t')).2, n3) := RCH.one rfl hone
        rcases t3 with t3 | t3
        · rw [if_pos t3]
          rw [← t1, t3] at hrch
          obtain ⟨k, lk', al', fa', t'', n', k1, k2, k3, k4, k5, k6⟩ := lv1_run hv hl hms N L2 (by omega) hbL2 lk (-1) (32 * h) _ _ n3 hlk (Or.inl rfl) t2 hr3
          exact ⟨1 + k, lk', al', fa', t'', n', by show 1 + k ≤ L2.length + 1 + 1 + 1; omega, hrch.trans k2, k3, k4, h03.trans k5, k6⟩
        · rw [if_neg (by rw [t3]; decide)]
          rw [← t1, t3] at hrch
          exact ⟨1, lk, -1, 4, _, n3, by show 1 ≤ L2.length + 1 + 1 + 1; omega, hrch, t2, Or.inl ⟨by rw [t3]; decide, t3.symm⟩, h03, Or.inr (Or.inr (Or.inr (Or.inr t3)))⟩
end RUN
