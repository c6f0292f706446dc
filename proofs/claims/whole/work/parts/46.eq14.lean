/-! The best row, side by side: which row is ahead; the choice. -/
theorem fm_one_es {v : Int32} {ms : Nat} {mb lt pl : Nat → Int32} {FU us e : Nat} {y : FM} : (∀ j, j ≠ e → (fm_one v ms mb lt pl FU us e y).2.2.2.1 j = y.2.2.2.1 j) ∧ (us ≤ e → (fm_one v ms mb lt pl FU us e y).2.2.2.1 e = 0) := by
  unfold fm_one
  by_cases h : us ≤ e
  · rw [if_pos h]; exact ⟨fun j hj => upN_n hj, fun _ => upN_s⟩
  · rw [if_neg h]
    refine ⟨fun j hj => ?_, fun z => absurd z h⟩
    split
    · split
      · show upN (upN y.2.2.2.1 e 0) e _ j = _; rw [upN_n hj, upN_n hj]
      · show upN (upN y.2.2.2.1 e 0) e _ j = _; rw [upN_n hj, upN_n hj]
    · exact upN_n hj
theorem fm_es0 {v : Int32} {ms : Nat} {mb lt pl : Nat → Int32} {FU us : Nat} : ∀ (m e : Nat) (y : FM), (∀ j, us ≤ j → j < e → y.2.2.2.1 j = 0) → ∀ j, us ≤ j → j < e + m → (fm_all v ms mb lt pl FU us m e y).2.2.2.1 j = 0
  | 0, e, y, h, j, h1, h2 => h j h1 h2
  | m + 1, e, y, h, j, h1, h2 => by
    rw [fm_all]
    refine fm_es0 m (e + 1) _ (fun i i1 i2 => ?_) j h1 (by omega)
    have hh := fm_one_es (v := v) (ms := ms) (mb := mb) (lt := lt) (pl := pl) (FU := FU) (us := us) (e := e) (y := y)
    by_cases q : i = e
    · rw [q]; exact hh.2 (by omega)
    · rw [hh.1 i q]; exact h i i1 (by omega)
section AH
variable {v : Int32} {lt rf : Nat → Int32} {es : Nat → Nat} {rs : Nat} {b : Nat → Int32}
theorem nx_e {w a e : Nat} {x : NX} (hp : x.1 w = a) (ha : a < rs) (hb : x.2.1 w = nI e) (he : e < 96) (hs : x.2.2.1 w = 0) : nx v lt rf es rs b w x = (nI (1 + e / 32), (x.1, x.2.1, upN x.2.2.1 w 1, x.2.2.2)) := by
  have h0 : 0 ≤ x.2.1 w := by rw [hb]; exact nI_pos' (by omega)
  have en : nx_n v lt rf w x = (2, x.2.2.2) := by rw [nx_n, if_pos h0]
  have ev : nx_v v lt rf w x = nI (1 + e / 32) := by
    rw [nx_v, if_pos h0, if_pos hs, hb, show (32 : Int32) = nI 32 from rfl, pk_div (by omega) (by decide) (by decide), show (1 : Int32) = nI 1 from rfl, nI_add]
  rw [nx, if_pos (by omega), ev, nx_s, en, hs, if_neg (show ¬ (0 + 1 = 2) by decide)]
theorem nx_e2 {w a e : Nat} {x : NX} (hp : x.1 w = a) (ha : a < rs) (hb : x.2.1 w = nI e) (he : e < 96) (hs : x.2.2.1 w = 1) : (nx v lt rf es rs b w x).1 = nI (e % 32) := by
  have h0 : 0 ≤ x.2.1 w := by rw [hb]; exact nI_pos' (by omega)
  rw [nx, if_pos (by omega)]
  show nx_v v lt rf w x = _
  rw [nx_v, if_pos h0, if_neg (by omega), hb, show (32 : Int32) = nI 32 from rfl, pk_rem (by omega) (by decide) (by decide)]
theorem nx_sg {w a : Nat} {x : NX} (hp : x.1 w = a) (ha : a < rs) (hb : x.2.1 w = -1) (hs : x.2.2.1 w = 0) : (nx v lt rf es rs b w x).1 = (no v lt (rf a) x.2.2.2).2 0 := by
  have h0 : ¬ 0 ≤ x.2.1 w := by rw [hb]; decide
  rw [nx, if_pos (by omega)]
  show nx_v v lt rf w x = _
  rw [nx_v, if_neg h0, nx_n, if_neg h0, hs, hp]
/-- the first number of a sign itself -/
theorem no_head {g : Nat → Int32} {c : Int32} {f : Nat → Int32} {j : Nat} (hj1 : 1 ≤ j) (hj : j ≤ 8) (hl : LET g lt) (hc : SG c) : (c = 32 ∧ (no (nI j) lt c f).2 0 = 0) ∨ (¬ c = 32 ∧ (j = 1 ∨ (j = 2 ∧ ∃ q : Nat, 2 ≤ q ∧ q < 32 ∧ (no (nI j) lt c f).2 0 = nI q) ∨ (3 ≤ j ∧ ∃ q : Nat, 4 ≤ q ∧ q < 32 ∧ (no (nI j) lt c f).2 0 = nI q))) := by
  unfold no
  by_cases h32 : c = 32
  · left
    rw [if_pos h32]; exact ⟨h32, rfl⟩
  · right
    refine ⟨h32, ?_⟩
    rw [if_neg h32]
    by_cases j1 : j = 1
    · exact Or.inl j1
    · right
      have hv1 : ¬ (c = 13 ∧ nI j = 1) := fun z => j1 ((nI_eq (a := j) (b := 1) (by omega) (by decide)).mp z.2)
      rw [if_neg hv1]
      have sh : ∀ a : Nat, 1 ≤ a → a < 3 → (j = 2 ∧ mh_sh (nI j) (nI a) = nI (1 + a)) ∨ (3 ≤ j ∧ mh_sh (nI j) (nI a) = nI (3 + a)) := by
        intro a a1 a3
        unfold mh_sh
        by_cases h3 : 3 ≤ j
        · right
          rw [if_pos (show (3 : Int32) ≤ nI j from nI_le (a := 3) h3 (by omega)), show (3 : Int32) = nI 3 from rfl, nI_add]
          exact ⟨h3, rfl⟩
        · left
          rw [if_neg (show ¬ (3 : Int32) ≤ nI j from nI_ge (b := 3) (by omega) (by decide)), show (1 : Int32) = nI 1 from rfl, nI_add]
          exact ⟨by omega, rfl⟩
      rcases lo_al hl hc.nn with ⟨e1, e2⟩ | ⟨a, n, ha, n1, n2, e1, e2⟩
      · rw [e2, if_pos (by decide)]
        show (j = 2 ∧ ∃ q : Nat, 2 ≤ q ∧ q < 32 ∧ mh_sh (nI j) 2 = nI q) ∨ (3 ≤ j ∧ ∃ q : Nat, 4 ≤ q ∧ q < 32 ∧ mh_sh (nI j) 2 = nI q)
        rcases sh 2 (by decide) (by decide) with ⟨q1, q2⟩ | ⟨q1, q2⟩
        · exact Or.inl ⟨q1, 3, by decide, by decide, q2⟩
        · exact Or.inr ⟨q1, 5, by decide, by decide, q2⟩
      · rw [e2, if_neg (nI_pos (by omega))]
        have d3 : nI (32 * a + n) / 32 = nI a := by
          rw [show (32 : Int32) = nI 32 from rfl, pk_div (by omega) (by decide) (by decide)]; congr 1; omega
        by_cases h0 : a = 0
        · subst h0
          rw [if_neg (show ¬ (32 : Int32) ≤ nI (32 * 0 + n) from nI_ge (b := 32) (by omega) (by decide))]
          show (j = 2 ∧ ∃ q : Nat, 2 ≤ q ∧ q < 32 ∧ nI (32 * 0 + n) = nI q) ∨ (3 ≤ j ∧ ∃ q : Nat, 4 ≤ q ∧ q < 32 ∧ nI (32 * 0 + n) = nI q)
          by_cases h3 : 3 ≤ j
          · exact Or.inr ⟨h3, 32 * 0 + n, by omega, by omega, rfl⟩
          · exact Or.inl ⟨by omega, 32 * 0 + n, by omega, by omega, rfl⟩
        · rw [if_pos (show (32 : Int32) ≤ nI (32 * a + n) from nI_le (a := 32) (by omega) (by omega))]
          show (j = 2 ∧ ∃ q : Nat, 2 ≤ q ∧ q < 32 ∧ mh_sh (nI j) (nI (32 * a + n) / 32) = nI q) ∨ (3 ≤ j ∧ ∃ q : Nat, 4 ≤ q ∧ q < 32 ∧ mh_sh (nI j) (nI (32 * a + n) / 32) = nI q)
          rw [d3]
          rcases sh a (by omega) ha with ⟨q1, q2⟩ | ⟨q1, q2⟩
          · exact Or.inl ⟨q1, 1 + a, by omega, by omega, q2⟩
          · exact Or.inr ⟨q1, 3 + a, by omega, by omega, q2⟩
theorem ah_stop {m : Nat} {z : Int32 × Int32 × NX} (h : ¬ z.1 = z.2.1) : ah_all v lt rf es rs b m z = z := by
  cases m with
  | zero => rfl
  | succ m => rw [ah_all, if_neg h]
theorem ah_val {g : Nat → Int32} {i e : Nat} {oth : Int32} {x : NX} (hv : VER v) (hl : LET g lt) (hc : SG (rf i)) (hi : i < rs) (he : e < zus v) (ho : oth = -1 ∨ ∃ e' : Nat, e' < e ∧ oth = nI e') : ah (ah_z v lt rf es rs b i (nI e) oth x) = 0 ↔ ¬ (oth = -1 ∧ ¬ rf i = 32) := by
  have he96 : e < 96 := Nat.lt_of_lt_of_le he zus_le
  have p0 : (ah_0 i (nI e) oth x).1 0 = i := by show upN (upN x.1 0 i) 1 i 0 = i; rw [upN_n (by decide), upN_s]
  have p1 : (ah_0 i (nI e) oth x).1 1 = i := by show upN (upN x.1 0 i) 1 i 1 = i; rw [upN_s]
  have b0 : (ah_0 i (nI e) oth x).2.1 0 = nI e := by show upd (upd x.2.1 0 (nI e)) 1 oth 0 = _; rw [upd_n (by decide), upd_s]
  have b1 : (ah_0 i (nI e) oth x).2.1 1 = oth := by show upd (upd x.2.1 0 (nI e)) 1 oth 1 = _; rw [upd_s]
  have s0' : (ah_0 i (nI e) oth x).2.2.1 0 = 0 := by show upN (upN x.2.2.1 0 0) 1 0 0 = 0; rw [upN_n (by decide), upN_s]
  have s1' : (ah_0 i (nI e) oth x).2.2.1 1 = 0 := by show upN (upN x.2.2.1 0 0) 1 0 1 = 0; rw [upN_s]
  obtain ⟨x0, hx0⟩ : ∃ x0, ah_0 i (nI e) oth x = x0 := ⟨_, rfl⟩
  rw [hx0] at p0 p1 b0 b1 s0' s1'
  have e0 := nx_e (v := v) (lt := lt) (rf := rf) (es := es) (b := b) p0 hi b0 he96 s0'
  obtain ⟨x1, hx1⟩ : ∃ x1 : NX, (x0.1, x0.2.1, upN x0.2.2.1 0 1, x0.2.2.2) = x1 := ⟨_, rfl⟩
  rw [hx1] at e0
  have q0 : x1.1 0 = i := by rw [← hx1]; exact p0
  have q1 : x1.1 1 = i := by rw [← hx1]; exact p1
  have c0 : x1.2.1 0 = nI e := by rw [← hx1]; exact b0
  have c1 : x1.2.1 1 = oth := by rw [← hx1]; exact b1
  have t0 : x1.2.2.1 0 = 1 := by rw [← hx1]; show upN x0.2.2.1 0 1 0 = 1; exact upN_s
  have t1 : x1.2.2.1 1 = 0 := by rw [← hx1]; show upN x0.2.2.1 0 1 1 = 0; rw [upN_n (by decide)]; exact s1'
  rw [ah_z, hx0, ah_s, e0]
  show ah (ah_all v lt rf es rs b 6000 (nI (1 + e / 32), (nx v lt rf es rs b 1 x1).1, (nx v lt rf es rs b 1 x1).2)) = 0 ↔ _
  rcases ho with ho | ⟨e', he', ho⟩
  · have e1 := nx_sg (v := v) (lt := lt) (rf := rf) (es := es) (b := b) q1 hi (c1.trans ho) t1
    obtain ⟨j, j1, j8, ej⟩ := hv
    have hh := no_head (lt := lt) (f := x1.2.2.2) j1 j8 hl hc
    rw [← ej] at hh
    rw [e1]
    rcases hh with ⟨h32, e2⟩ | ⟨h32, hh⟩
    · rw [e2, ah_stop (nI_ne0 (by omega) (by omega)), ah, if_pos (show (0 : Int32) ≤ nI (1 + e / 32) from nI_pos' (by omega))]
      exact ⟨fun _ z => z.2 h32, fun _ => rfl⟩
    · have hlt : ∃ q : Nat, 1 + e / 32 < q ∧ q < 32 ∧ (no v lt (rf i) x1.2.2.2).2 0 = nI q := by
        rcases hh with hh | ⟨hh, q, q1', q2, q3⟩ | ⟨hh, q, q1', q2, q3⟩
        · exfalso
          have : zus v = 0 := by rw [zus, if_pos (by rw [ej, hh]; rfl)]
          omega
        · have : zus v = 32 := by rw [zus, if_neg (by rw [ej, hh]; decide), if_pos (by rw [ej, hh]; rfl)]
          exact ⟨q, by omega, q2, q3⟩
        · exact ⟨q, by omega, q2, q3⟩
      obtain ⟨q, q1', q2, q3⟩ := hlt
      have hne : ¬ nI (1 + e / 32) = nI q := fun z => by
        have := (nI_eq (by omega) (by omega)).mp z
        omega
      rw [q3, ah_stop hne, ah, if_neg (show ¬ nI q ≤ nI (1 + e / 32) from nI_ge q1' (by omega))]
      exact ⟨fun z => absurd z (by decide), fun z => absurd ⟨ho, h32⟩ z⟩
  · have hnot : ¬ oth = -1 := by rw [ho]; exact nI_m1 (by omega)
    have e1 := nx_e (v := v) (lt := lt) (rf := rf) (es := es) (b := b) q1 hi (c1.trans ho) (by omega) t1
    rw [e1]
    refine ⟨fun _ z => hnot z.1, fun _ => ?_⟩
    by_cases heq : e / 32 = e' / 32
    · show ah (ah_all v lt rf es rs b (5999 + 1) (nI (1 + e / 32), nI (1 + e' / 32), (x1.1, x1.2.1, upN x1.2.2.1 1 1, x1.2.2.2))) = 0
      rw [ah_all, if_pos (show nI (1 + e / 32) = nI (1 + e' / 32) by rw [heq]), if_neg (show ¬ nI (1 + e / 32) < 0 from nI_pos (by omega))]
      obtain ⟨x2, hx2⟩ : ∃ x2 : NX, (x1.1, x1.2.1, upN x1.2.2.1 1 1, x1.2.2.2) = x2 := ⟨_, rfl⟩
      show ah (ah_all v lt rf es rs b 5999 (ah_s v lt rf es rs b (x1.1, x1.2.1, upN x1.2.2.1 1 1, x1.2.2.2))) = 0
      rw [hx2]
      have r0 : x2.1 0 = i := by rw [← hx2]; exact q0
      have r1 : x2.1 1 = i := by rw [← hx2]; exact q1
      have d0 : x2.2.1 0 = nI e := by rw [← hx2]; exact c0
      have d1 : x2.2.1 1 = nI e' := by rw [← hx2]; exact c1.trans ho
      have u0 : x2.2.2.1 0 = 1 := by rw [← hx2]; show upN x1.2.2.1 1 1 0 = 1; rw [upN_n (by decide)]; exact t0
      have u1 : x2.2.2.1 1 = 1 := by rw [← hx2]; show upN x1.2.2.1 1 1 1 = 1; exact upN_s
      have f0 := nx_e2 (v := v) (lt := lt) (rf := rf) (es := es) (b := b) r0 hi d0 he96 u0
      have k1 : (nx v lt rf es rs b 0 x2).2.1 1 = i := by
        unfold nx nx_s
        split
        · dsimp only
          split
          · show upN x2.1 0 (nx_p es 0 x2) 1 = i; rw [upN_n (by decide)]; exact r1
          · exact r1
        · exact r1
      have k2 : (nx v lt rf es rs b 0 x2).2.2.1 1 = nI e' := by
        unfold nx nx_s
        split
        · dsimp only
          split
          · show upd x2.2.1 0 (if rs ≤ nx_p es 0 x2 then -1 else b (nx_p es 0 x2)) 1 = _; rw [upd_n (by decide)]; exact d1
          · exact d1
        · exact d1
      have k3 : (nx v lt rf es rs b 0 x2).2.2.2.1 1 = 1 := by
        unfold nx nx_s
        split
        · dsimp only
          split
          · show upN (upN x2.2.2.1 0 (x2.2.2.1 0 + 1)) 0 0 1 = 1; rw [upN_n (by decide), upN_n (by decide)]; exact u1
          · show upN x2.2.2.1 0 (x2.2.2.1 0 + 1) 1 = 1; rw [upN_n (by decide)]; exact u1
        · exact u1
      have f1 := nx_e2 (v := v) (lt := lt) (rf := rf) (es := es) (b := b) k1 hi k2 (by omega) k3
      have hne : ¬ (ah_s v lt rf es rs b x2).1 = (ah_s v lt rf es rs b x2).2.1 := by
        show ¬ (nx v lt rf es rs b 0 x2).1 = (nx v lt rf es rs b 1 (nx v lt rf es rs b 0 x2).2).1
        rw [f0, f1]
        intro z
        have := (nI_eq (by omega) (by omega)).mp z
        omega
      rw [ah_stop hne, ah, if_pos]
      show (nx v lt rf es rs b 1 (nx v lt rf es rs b 0 x2).2).1 ≤ (nx v lt rf es rs b 0 x2).1
      rw [f0, f1]
      exact nI_le (by omega) (by omega)
    · have hne : ¬ nI (1 + e / 32) = nI (1 + e' / 32) := fun z => by
        have := (nI_eq (by omega) (by omega)).mp z
        omega
      rw [ah_stop hne, ah, if_pos (show nI (1 + e' / 32) ≤ nI (1 + e / 32) from nI_le (by omega) (by omega))]
end AH
