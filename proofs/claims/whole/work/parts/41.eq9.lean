/-! One number that comes where none is awaited, side by side. -/
def AL (al : Int32) : Prop := al = -1 ∨ L3 al
def us_ (lk al : Int32) : Int32 := if al < 0 then lk else al
theorem us_L3 {lk al : Int32} (hlk : L3 lk) (hal : AL al) : L3 (us_ lk al) ∧ ∀ a h : Int32, rd_al (lk, al, a, h) = us_ lk al := by
  unfold us_ rd_al
  rcases hal with rfl | ⟨j, hj, rfl⟩
  · rw [if_pos (by decide)]; exact ⟨hlk, fun _ _ => if_pos rfl⟩
  · have h1 : ¬ nI j < 0 := nI_pos (by omega)
    have h2 : ¬ nI j = -1 := nI_m1 (by omega)
    rw [if_neg h1]
    exact ⟨⟨j, hj, rfl⟩, fun _ _ => if_neg h2⟩
theorem free_cases {v : Int32} {g lt : Nat → Int32} {lk al hd x : Int32} (hv : VER v) (hl : LET g lt) (hlk : L3 lk) (hal : AL al) (hx : B32 x) :
    (∃ c, SG c ∧ rd_free v g (lk, al, 0, hd) x = (c, (lk, -1, 0, hd)) ∧ ∀ (ms : Nat) (mb pl : Nat → Int32) (lv : Nat) (lkT fa : Int32) (t : TT) (n : NS), tm_b v ms mb lt pl lv lkT lk (us_ lk al) t (x, fa, n) = tm_t lv lkT lk c fa t n) ∨
    (∃ lk' al', L3 lk' ∧ AL al' ∧ rd_free v g (lk, al, 0, hd) x = (-1, (lk', al', 0, hd)) ∧ ∀ (ms : Nat) (mb pl : Nat → Int32) (lv : Nat) (lkT fa : Int32) (t : TT) (n : NS), tm_b v ms mb lt pl lv lkT lk (us_ lk al) t (x, fa, n) = (true, lv, lkT, lk', al', fa, t, n)) ∨
    (∃ b : Nat, b < 3 ∧ x = nI (b + 1) ∧ rd_free v g (lk, al, 0, hd) x = (-2, (lk, -1, 1, nI (32 * b))) ∧ ∀ (ms : Nat) (mb pl : Nat → Int32) (lv : Nat) (lkT fa : Int32) (t : TT) (n : NS), tm_b v ms mb lt pl lv lkT lk (us_ lk al) t (x, fa, n) = tm_a ms mb pl lv lkT lk t (x, fa, n)) ∨
    (rd_free v g (lk, al, 0, hd) x = (-1, (lk, -1, 2, hd)) ∧ ∀ (ms : Nat) (mb pl : Nat → Int32) (lv : Nat) (lkT fa : Int32) (t : TT) (n : NS), tm_b v ms mb lt pl lv lkT lk (us_ lk al) t (x, fa, n) = tm_e1 ms mb lv lkT lk t (tn ms mb lv fa n)) := by
  obtain ⟨q, hq, rfl⟩ := hx
  have hr1 : ∀ {d : Nat}, d ≤ q → d ≤ 3 → L3 (r3 (lk + nI q - nI d)) := fun {d} h1 h2 => L3_rem hlk ⟨q, hq, rfl⟩ (fun j hj e => by
    have := (nI_eq (a := q) (b := j) (by omega) (by omega)).mp e
    omega) h2
  rcases (show q = 0 ∨ q = 1 ∨ q = 2 ∨ q = 3 ∨ q = 4 ∨ q = 5 ∨ 6 ≤ q by omega) with rfl | rfl | rfl | rfl | rfl | rfl | h6
  · left
    refine ⟨32, ⟨32, by decide, rfl⟩, ?_, fun ms mb pl lv lkT fa t n => ?_⟩
    · rw [rd_free, if_pos (by decide)]
    · unfold tm_b; dsimp only; rw [if_pos (by decide)]
  · by_cases hv1 : v = 1
    · left
      refine ⟨13, ⟨13, by decide, rfl⟩, ?_, fun ms mb pl lv lkT fa t n => ?_⟩
      · rw [rd_free, if_neg (by decide), if_pos (by decide), if_pos ⟨by decide, hv1⟩]
      · unfold tm_b; dsimp only; rw [if_neg (by decide), if_pos ⟨by decide, hv1⟩]
    · right; right; left
      refine ⟨0, by decide, rfl, ?_, fun ms mb pl lv lkT fa t n => ?_⟩
      · rw [rd_free, if_neg (by decide), if_pos (by decide), if_neg (fun z => hv1 z.2), if_pos (by decide)]; rfl
      · unfold tm_b; dsimp only; rw [if_neg (by decide), if_neg (fun z => hv1 z.2), if_pos (by decide)]
  · by_cases hv3 : v < 3
    · right; left
      refine ⟨lk, r3 (lk + nI 2 - 1), hlk, Or.inr (hr1 (d := 1) (by decide) (by decide)), ?_, fun ms mb pl lv lkT fa t n => ?_⟩
      · rw [rd_free, if_neg (by decide), if_pos (by decide), if_neg (fun z => absurd z.1 (by decide)), if_neg (by decide), if_neg (by decide), if_pos hv3, rd_sh, if_pos hv3, if_neg (by decide)]; rfl
      · unfold tm_b; dsimp only; rw [if_neg (by decide), if_neg (fun z => absurd z.1 (by decide)), if_neg (by decide), if_neg (by decide), if_neg (Int32.not_le.mpr hv3)]
    · right; right; left
      refine ⟨1, by decide, rfl, ?_, fun ms mb pl lv lkT fa t n => ?_⟩
      · rw [rd_free, if_neg (by decide), if_pos (by decide), if_neg (fun z => absurd z.1 (by decide)), if_neg (by decide), if_neg (by decide), if_neg hv3]; rfl
      · unfold tm_b; dsimp only; rw [if_neg (by decide), if_neg (fun z => absurd z.1 (by decide)), if_neg (by decide), if_neg (by decide), if_pos (Int32.not_lt.mp hv3)]
  · by_cases hv3 : v < 3
    · right; left
      refine ⟨lk, r3 (lk + nI 3 - 1), hlk, Or.inr (hr1 (d := 1) (by decide) (by decide)), ?_, fun ms mb pl lv lkT fa t n => ?_⟩
      · rw [rd_free, if_neg (by decide), if_pos (by decide), if_neg (fun z => absurd z.1 (by decide)), if_neg (by decide), if_neg (by decide), if_pos hv3, rd_sh, if_pos hv3, if_neg (by decide)]; rfl
      · unfold tm_b; dsimp only; rw [if_neg (by decide), if_neg (fun z => absurd z.1 (by decide)), if_neg (by decide), if_neg (by decide), if_neg (Int32.not_le.mpr hv3)]
    · right; right; left
      refine ⟨2, by decide, rfl, ?_, fun ms mb pl lv lkT fa t n => ?_⟩
      · rw [rd_free, if_neg (by decide), if_pos (by decide), if_neg (fun z => absurd z.1 (by decide)), if_neg (by decide), if_neg (by decide), if_neg hv3]; rfl
      · unfold tm_b; dsimp only; rw [if_neg (by decide), if_neg (fun z => absurd z.1 (by decide)), if_neg (by decide), if_neg (by decide), if_pos (Int32.not_lt.mp hv3)]
  · right; left
    by_cases hv3 : v < 3
    · refine ⟨r3 (lk + nI 4 - 3), -1, hr1 (d := 3) (by decide) (by decide), Or.inl rfl, ?_, fun ms mb pl lv lkT fa t n => ?_⟩
      · rw [rd_free, if_neg (by decide), if_pos (by decide), if_neg (fun z => absurd z.1 (by decide)), if_neg (by decide), if_pos (by decide), rd_sh, if_pos hv3, if_pos (by decide)]; rfl
      · unfold tm_b; dsimp only; rw [if_neg (by decide), if_neg (fun z => absurd z.1 (by decide)), if_neg (by decide), if_pos (by decide), if_neg (by decide), if_neg (Int32.not_le.mpr hv3)]
    · refine ⟨lk, nI 4 - 3, hlk, Or.inr ⟨1, by decide, by decide⟩, ?_, fun ms mb pl lv lkT fa t n => ?_⟩
      · rw [rd_free, if_neg (by decide), if_pos (by decide), if_neg (fun z => absurd z.1 (by decide)), if_neg (by decide), if_pos (by decide), rd_sh, if_neg hv3]
      · unfold tm_b; dsimp only; rw [if_neg (by decide), if_neg (fun z => absurd z.1 (by decide)), if_neg (by decide), if_pos (by decide), if_neg (by decide), if_pos (Int32.not_lt.mp hv3)]
  · right; left
    by_cases hv3 : v < 3
    · refine ⟨r3 (lk + nI 5 - 3), -1, hr1 (d := 3) (by decide) (by decide), Or.inl rfl, ?_, fun ms mb pl lv lkT fa t n => ?_⟩
      · rw [rd_free, if_neg (by decide), if_pos (by decide), if_neg (fun z => absurd z.1 (by decide)), if_neg (by decide), if_pos (by decide), rd_sh, if_pos hv3, if_pos (by decide)]; rfl
      · unfold tm_b; dsimp only; rw [if_neg (by decide), if_neg (fun z => absurd z.1 (by decide)), if_neg (by decide), if_pos (by decide), if_neg (by decide), if_neg (Int32.not_le.mpr hv3)]
    · refine ⟨lk, nI 5 - 3, hlk, Or.inr ⟨2, by decide, by decide⟩, ?_, fun ms mb pl lv lkT fa t n => ?_⟩
      · rw [rd_free, if_neg (by decide), if_pos (by decide), if_neg (fun z => absurd z.1 (by decide)), if_neg (by decide), if_pos (by decide), rd_sh, if_neg hv3]
      · unfold tm_b; dsimp only; rw [if_neg (by decide), if_neg (fun z => absurd z.1 (by decide)), if_neg (by decide), if_pos (by decide), if_neg (by decide), if_pos (Int32.not_lt.mp hv3)]
  · have n0 : ¬ nI q = 0 := nI_ne0 (by omega) (by omega)
    have n1 : ¬ nI q = 1 := fun z => by
      have := (nI_eq (a := q) (b := 1) (by omega) (by decide)).mp z
      omega
    have n6 : ¬ nI q < 6 := nI_nlt (b := 6) h6 (by omega)
    have m6 : (6 : Int32) ≤ nI q := nI_le (a := 6) h6 (by omega)
    have m4 : (4 : Int32) ≤ nI q := nI_le (a := 4) (by omega) (by omega)
    obtain ⟨⟨u, hu, eu⟩, hus⟩ := us_L3 hlk hal
    have elet : al_let g (rd_al (lk, al, 0, hd)) (nI q) = lt (32 * u + q) := by
      have eix : al_ix (nI u) (nI q) = nI (26 * u + q - 6) := by
        rw [al_ix, show (26 : Int32) = nI 26 from rfl, show (6 : Int32) = nI 6 from rfl, pk_mul, nI_add, pk_sub (by omega)]
      rw [hus, eu, al_let, eix, if_neg (nI_pos (by omega)), if_neg (show ¬ (78 : Int32) ≤ nI (26 * u + q - 6) from Int32.not_le.mpr (nI_lt (b := 78) (by omega) (by decide))), nI_clamp (by omega)]
      exact hl.1 u q hu h6 hq
    have elt : lt (32 * us_ lk al + nI q).toNatClampNeg = lt (32 * u + q) := by
      rw [eu, show (32 : Int32) = nI 32 from rfl, pk_mul, nI_add, nI_clamp (by omega)]
    by_cases h70 : 32 * u + q = 70
    · right; right; right
      have hu2 : u = 2 := by omega
      have hq6 : q = 6 := by omega
      refine ⟨?_, fun ms mb pl lv lkT fa t n => ?_⟩
      · rw [rd_free, if_neg n0, if_neg n6, elet, h70, hl.2.1, if_pos rfl]
      · unfold tm_b; dsimp only
        rw [if_neg n0, if_neg (fun z => n1 z.1), if_neg n1, if_pos m4, if_pos m6, if_pos ⟨by rw [eu, hu2]; rfl, by rw [hq6]; rfl⟩]
    · left
      obtain ⟨c, hc, ec⟩ := hl.2.2 u q hu h6 hq h70
      refine ⟨nI c, ⟨c, hc, rfl⟩, ?_, fun ms mb pl lv lkT fa t n => ?_⟩
      · rw [rd_free, if_neg n0, if_neg n6, elet, ec, if_neg (nI_m1 (by omega))]
      · unfold tm_b; dsimp only
        rw [if_neg n0, if_neg (fun z => n1 z.1), if_neg n1, if_pos m4, if_pos m6, if_neg, elt, ec]
        rintro ⟨z1, z2⟩
        have y1 := (nI_eq (a := u) (b := 2) (by omega) (by decide)).mp (by rw [← eu]; exact z1)
        have y2 := (nI_eq (a := q) (b := 6) (by omega) (by decide)).mp z2
        omega
