/-! Rows of numbers: what the methods of Row do to (count, contents). -/
abbrev TY (k : Nat → ClassId) : List (ClassId × FieldType) := [(k 0, .int), (k 1, .long), (k 2, .boolean), (k 3, .byte)]
def rw_has (n : Nat) (i : Int32) : Int32 := if i < 0 then 0 else if nI n ≤ i then 0 else 1
def rw_get (n : Nat) (f : Nat → Int32) (i : Int32) : Int32 := if rw_has n i = 0 then -1 else f i.toNatClampNeg
def rw_rep (n : Nat) (f : Nat → Int32) (i x : Int32) : Nat → Int32 := if rw_has n i = 0 then f else upd f i.toNatClampNeg x
def rw_room (cap n : Nat) (m : Int32) : Int32 := if nI cap - nI n < m then 0 else 1
def rw_ar (cap n : Nat) : Int32 := if n < cap then 1 else 0
def rw_an (cap n : Nat) : Nat := if n < cap then n + 1 else n
def rw_af (cap n : Nat) (f : Nat → Int32) (x : Int32) : Nat → Int32 := if n < cap then upd f n x else f
def rw_cut (n : Nat) (m : Int32) : Nat := if m < 0 then n else if nI n ≤ m then n else m.toNatClampNeg
def rw_0 : Nat × (Nat → Int32) := (0, fun _ => 0)
def rw_c (v : Int32) (t : Nat × (Nat → Int32)) : Nat × (Nat → Int32) := (rw_cut t.1 v, t.2)
def rw_r (i x : Int32) (t : Nat × (Nat → Int32)) : Nat × (Nat → Int32) := (t.1, rw_rep t.1 t.2 i x)
def rw_a (cap : Nat) (x : Int32) (t : Nat × (Nat → Int32)) : Nat × (Nat → Int32) := (rw_an cap t.1, rw_af cap t.1 t.2 x)
def rw_b (cap : Nat) (t2 t : Nat × (Nat → Int32)) : Nat × (Nat → Int32) := (min t2.1 cap, va_cpy t2.2 t.2 0 0 (min t2.1 cap))
def rw_shows (n : Nat) (f : Nat → Int32) (n2 : Nat) (g : Nat → Int32) (i : Int32) : Int32 := if i < 0 then 0 else if nI n - nI n2 < i then 0 else if (∀ q, q < n2 → f (i.toNatClampNeg + q) = g q) then 1 else 0
theorem rw_in {n : Nat} {i : Int32} (h : ¬ rw_has n i = 0) (hn : n < 2 ^ 31) : ∃ j : Nat, j < n ∧ i = nI j := by
  unfold rw_has at h
  split at h
  · exact absurd rfl h
  · rename_i h0
    split at h
    · exact absurd rfl h
    · rename_i h1
      obtain ⟨j, hj, rfl⟩ := nI_of h0
      refine ⟨j, ?_, rfl⟩
      rcases Nat.lt_or_ge j n with q | q
      · exact q
      · exact absurd (nI_le q hj) h1
theorem rw_in2 {n cap : Nat} {i : Int32} (h : ¬ rw_has n i = 0) (hn : n ≤ cap) (hc : cap < 2 ^ 31) : vp_in i cap := by
  obtain ⟨j, hj, rfl⟩ := rw_in h (Nat.lt_of_le_of_lt hn hc)
  exact vp_in_nI (Nat.lt_of_lt_of_le hj hn) hc
theorem rw_has_nI {n j : Nat} (hj : j < 2 ^ 31) (hn : n < 2 ^ 31) : rw_has n (nI j) = if j < n then 1 else 0 := by
  unfold rw_has
  rw [if_neg (nI_pos hj)]
  by_cases h : j < n
  · rw [if_pos h, if_neg (nI_ge h hn)]
  · rw [if_neg h, if_pos (nI_le (Nat.le_of_not_lt h) hj)]
theorem rw_get_nI {n j : Nat} {f : Nat → Int32} (hj : j < 2 ^ 31) (hn : n < 2 ^ 31) : rw_get n f (nI j) = if j < n then f j else -1 := by
  unfold rw_get
  rw [rw_has_nI hj hn]
  by_cases h : j < n
  · rw [if_pos h, if_pos h, if_neg (by decide), nI_clamp hj]
  · rw [if_neg h, if_neg h, if_pos rfl]
theorem rw_cut_eq {n : Nat} {m : Int32} (h0 : ¬ m < 0) (h1 : ¬ nI n ≤ m) : m = nI (rw_cut n m) := by
  unfold rw_cut
  rw [if_neg h0, if_neg h1]
  obtain ⟨j, hj, rfl⟩ := nI_of h0
  rw [nI_clamp hj]
theorem rw_cut_le {n : Nat} {m : Int32} (hn : n < 2 ^ 31) : rw_cut n m ≤ n := by
  unfold rw_cut
  split
  · exact Nat.le_refl _
  · rename_i h0
    split
    · exact Nat.le_refl _
    · rename_i h1
      obtain ⟨j, hj, rfl⟩ := nI_of h0
      rw [nI_clamp hj]
      rcases Nat.lt_or_ge j n with q | q
      · exact Nat.le_of_lt q
      · exact absurd (nI_le q hj) h1
theorem rw_shows_at {n n2 : Nat} {i : Int32} (hn : n < 2 ^ 30) (hn2 : n2 < 2 ^ 30) (h0 : ¬ i < 0) (h1 : i ≤ nI n - nI n2) : ∃ i0 : Nat, i0 + n2 ≤ n ∧ i = nI i0 := by
  obtain ⟨j, hj, rfl⟩ := nI_of h0
  refine ⟨j, ?_, rfl⟩
  have h2 := Int32.le_iff_toInt_le.mp h1
  rw [nI_toInt hj, pk_sub_toInt hn hn2] at h2
  omega
theorem rw_an_le {cap n : Nat} (h : n ≤ cap) : rw_an cap n ≤ cap := by
  unfold rw_an; split <;> omega
/-! Alphabets: version v, letters g (78). -/
def tb_old (j : Nat) : Int32 := ([-1, 48, 49, 50, 51, 52, 53, 54, 55, 56, 57, 46, 44, 33, 63, 95, 35, 39, 34, 47, 92, 60, 45, 58, 40, 41] : List Int32).getD j 0
def tb_new (j : Nat) : Int32 := ([-1, 13, 48, 49, 50, 51, 52, 53, 54, 55, 56, 57, 46, 44, 33, 63, 95, 35, 39, 34, 47, 92, 45, 58, 40, 41] : List Int32).getD j 0
def az_all : Nat → Nat → (Nat → Int32) → Nat → Int32
  | 0, _, f => f
  | m + 1, j, f => az_all m (j + 1) (upd (upd f j (nI (97 + j))) (26 + j) (nI (65 + j)))
def al_0 (v : Int32) : Nat → Int32 := if v = 1 then va_cpy tb_old (az_all 26 0 (fun _ => 0)) 0 52 26 else va_cpy tb_new (az_all 26 0 (fun _ => 0)) 0 52 26
def al_is (A N : Int32) : Int32 := if A < 0 then 0 else if 2 < A then 0 else if N < 6 then 0 else if 31 < N then 0 else 1
def al_may (A N : Int32) : Int32 := if al_is A N = 0 then 0 else if A = 2 then (if N ≤ 7 then 0 else 1) else 1
def al_ix (A N : Int32) : Int32 := 26 * A + N - 6
def al_let (g : Nat → Int32) (A N : Int32) : Int32 := if al_ix A N < 0 then -1 else if 78 ≤ al_ix A N then -1 else g (al_ix A N).toNatClampNeg
def al_old (g : Nat → Int32) (A N : Int32) : Int32 := if al_may A N = 0 then -1 else g (al_ix A N).toNatClampNeg
def al_chg (g : Nat → Int32) (A N c : Int32) : Nat → Int32 := if al_may A N = 0 then g else upd g (al_ix A N).toNatClampNeg c
def al_from (g : Nat → Int32) (c : Int32) : Nat → Nat → Int32
  | 0, _ => -1
  | m + 1, k => if g k = c then nI k else al_from g c m (k + 1)
def al_sh (v a : Int32) : Int32 := if 2 < v then 3 + a else 1 + a
def sp_code (cap : Nat) (v c : Int32) (r : Nat × (Nat → Int32)) : Nat × (Nat → Int32) := rw_a cap (c - c / 32 * 32) (rw_a cap (c / 32) (rw_a cap 6 (rw_a cap (al_sh v 2) r)))
def sp_let (cap : Nat) (v j : Int32) (r : Nat × (Nat → Int32)) : Nat × (Nat → Int32) := rw_a cap (6 + (j - j / 26 * 26)) (if j < 26 then r else rw_a cap (al_sh v (j / 26)) r)
def sp (cap : Nat) (v : Int32) (g : Nat → Int32) (c : Int32) (r : Nat × (Nat → Int32)) : Nat × (Nat → Int32) :=
  if c = 32 then rw_a cap 0 r else if c = 13 ∧ v = 1 then rw_a cap 1 r else if 0 ≤ al_from g c 78 0 then sp_let cap v (al_from g c 78 0) r else sp_code cap v c r
theorem rw_c_le {v : Int32} {t : Nat × (Nat → Int32)} {cap : Nat} (h : t.1 ≤ cap) (hc : cap < 2 ^ 31) : (rw_c v t).1 ≤ cap := Nat.le_trans (rw_cut_le (Nat.lt_of_le_of_lt h hc)) h
theorem rw_a_le {cap : Nat} {x : Int32} {r : Nat × (Nat → Int32)} (h : r.1 ≤ cap) : (rw_a cap x r).1 ≤ cap := rw_an_le h
theorem sp_le {cap : Nat} {v c : Int32} {g : Nat → Int32} {r : Nat × (Nat → Int32)} (h : r.1 ≤ cap) : (sp cap v g c r).1 ≤ cap := by
  unfold sp sp_let sp_code
  repeat' split
  all_goals (repeat (first | exact h | apply rw_a_le))
theorem al_is_in {A N : Int32} (h : ¬ al_is A N = 0) : vp_in (al_ix A N) 78 := by
  unfold al_is at h
  split at h
  · exact absurd rfl h
  · rename_i h1
    split at h
    · exact absurd rfl h
    · rename_i h2
      split at h
      · exact absurd rfl h
      · rename_i h3
        split at h
        · exact absurd rfl h
        · rename_i h4
          obtain ⟨i, hi, rfl⟩ := nI_of2 (M := 2) (n := 2) (by decide) h1 (Int32.not_lt.mp h2)
          obtain ⟨j, hj, rfl⟩ := nI_of2 (M := 31) (n := 31) (by decide) (fun q => h3 (Int32.lt_trans q (by decide))) (Int32.not_lt.mp h4)
          have hj6 : 6 ≤ j := by
            rcases Nat.lt_or_ge j 6 with q | q
            · exact absurd (nI_lt q (by decide)) h3
            · exact q
          have e : al_ix (nI i) (nI j) = nI (26 * i + j - 6) := by
            unfold al_ix
            rw [show (26 : Int32) = nI 26 from rfl, show (6 : Int32) = nI 6 from rfl, pk_mul, nI_add, pk_sub (by omega)]
          rw [e]
          exact vp_in_nI (by omega) (by decide)
theorem al_k_in {x : Int32} (h0 : ¬ x < 0) (h1 : ¬ (78 : Int32) ≤ x) : vp_in x 78 := by
  obtain ⟨j, hj, rfl⟩ := nI_of h0
  rcases Nat.lt_or_ge j 78 with q | q
  · exact vp_in_nI (by omega) (by decide)
  · exact absurd (nI_le (a := 78) q hj) h1
theorem al_may_is {A N : Int32} (h : ¬ al_may A N = 0) : ¬ al_is A N = 0 := by
  unfold al_may at h
  split at h
  · exact absurd rfl h
  · assumption
theorem al_from_nn {g : Nat → Int32} {c : Int32} : ∀ (m k : Nat), al_from g c m k = -1 ∨ ∃ j : Nat, k ≤ j ∧ j < k + m ∧ al_from g c m k = nI j
  | 0, k => Or.inl rfl
  | m + 1, k => by
    unfold al_from
    split
    · exact Or.inr ⟨k, Nat.le_refl _, by omega, rfl⟩
    · rcases al_from_nn (g := g) (c := c) m (k + 1) with h | ⟨j, h1, h2, h3⟩
      · exact Or.inl h
      · exact Or.inr ⟨j, by omega, by omega, h3⟩
/-! Reading: the numbers one by one; the state is (locked, once, awaited, held). -/
abbrev RS : Type := Int32 × Int32 × Int32 × Int32
def rd_0 : RS := (0, -1, 0, 0)
def rd_sh (v : Int32) (r : RS) (x : Int32) : RS := if v < 3 then (if 3 < x then ((r.1 + x - 3) - (r.1 + x - 3) / 3 * 3, r.2.1, r.2.2.1, r.2.2.2) else (r.1, (r.1 + x - 1) - (r.1 + x - 1) / 3 * 3, r.2.2.1, r.2.2.2)) else (r.1, x - 3, r.2.2.1, r.2.2.2)
def rd_al (r : RS) : Int32 := if r.2.1 = -1 then r.1 else r.2.1
def rd_free (v : Int32) (g : Nat → Int32) (r : RS) (x : Int32) : Int32 × RS :=
  if x = 0 then (32, (r.1, -1, r.2.2.1, r.2.2.2)) else
  if x < 6 then (if x = 1 ∧ v = 1 then (13, (r.1, -1, r.2.2.1, r.2.2.2)) else
    if x = 1 then (-2, (r.1, -1, 1, 32 * (x - 1))) else if 3 < x then (-1, rd_sh v (r.1, -1, r.2.2.1, r.2.2.2) x) else if v < 3 then (-1, rd_sh v (r.1, -1, r.2.2.1, r.2.2.2) x) else (-2, (r.1, -1, 1, 32 * (x - 1)))) else
  if al_let g (rd_al r) x = -1 then (-1, (r.1, -1, 2, r.2.2.2)) else (al_let g (rd_al r) x, (r.1, -1, 0, r.2.2.2))
def rd_take (v : Int32) (g : Nat → Int32) (r : RS) (x : Int32) : Int32 × RS :=
  if r.2.2.1 = 1 then (1024 + r.2.2.2 + x, (r.1, r.2.1, 0, r.2.2.2)) else
  if r.2.2.1 = 2 then (-1, (r.1, r.2.1, 3, 32 * x)) else
  if r.2.2.1 = 3 then (r.2.2.2 + x, (r.1, r.2.1, 0, r.2.2.2)) else rd_free v g r x
theorem nI_cl {x : Int32} (h : ¬ x < 0) : x = nI x.toNatClampNeg := by
  obtain ⟨j, hj, rfl⟩ := nI_of h
  rw [nI_clamp hj]
theorem nI_cl_le {x M : Int32} {n : Nat} (hM : M.toInt = n) (h : ¬ x < 0) (h5 : x ≤ M) : x.toNatClampNeg ≤ n := by
  obtain ⟨j, hj, rfl⟩ := nI_of h
  have h2 := Int32.le_iff_toInt_le.mp h5
  rw [nI_toInt hj, hM] at h2
  rw [nI_clamp hj]
  omega
/-! Telling: an abbreviation's text (1), a text (0). -/
abbrev TT : Type := Nat × (Nat → Int32)
def fo1 (x : Int32) (t : TT) : Int32 × TT := if x = -1 then (0, t) else if x < 0 then (1, t) else if 1024 ≤ x then (1, t) else (if rw_ar 1000 t.1 = 0 then 4 else 0, rw_a 1000 x t)
def tl_two (tm : TT) (q : Nat) : Int32 := (rw_get tm.1 tm.2 (nI q) <<< ((8 : Int32) &&& 31)) ||| rw_get tm.1 tm.2 (nI (q + 1))
def tl_no (w b : Int32) : Int32 := (w >>> (b &&& 31)) &&& 31
def s1 (v : Int32) (g : Nat → Int32) (x : Int32) (z : RS × TT) : Int32 × RS × TT := ((fo1 (rd_take v g z.1 x).1 z.2).1, (rd_take v g z.1 x).2, (fo1 (rd_take v g z.1 x).1 z.2).2)
def tw1 (v : Int32) (g : Nat → Int32) (w : Int32) (z : RS × TT) : Int32 × RS × TT :=
  if (s1 v g (tl_no w 10) z).1 = 0 then (if (s1 v g (tl_no w 5) (s1 v g (tl_no w 10) z).2).1 = 0 then s1 v g (tl_no w 0) (s1 v g (tl_no w 5) (s1 v g (tl_no w 10) z).2).2 else s1 v g (tl_no w 5) (s1 v g (tl_no w 10) z).2) else s1 v g (tl_no w 10) z
def tf1 (v : Int32) (g : Nat → Int32) (tm : TT) : Nat → Nat → RS × TT → Int32 × RS × TT
  | 0, _, z => (-2, z)
  | m + 1, q, z => if q + 1 < tm.1 then (if (tw1 v g (tl_two tm q) z).1 = 0 then (if tl_two tm q < 32768 then tf1 v g tm m (q + 2) (tw1 v g (tl_two tm q) z).2 else (nI (q + 2), (tw1 v g (tl_two tm q) z).2)) else (-(tw1 v g (tl_two tm q) z).1, (tw1 v g (tl_two tm q) z).2)) else (-2, z)
theorem fo1_le {x : Int32} {t : TT} (h : t.1 ≤ 1000) : (fo1 x t).2.1 ≤ 1000 := by
  unfold fo1
  repeat' split
  all_goals (first | exact h | exact rw_a_le h)
def tfe (v : Int32) (g : Nat → Int32) (tm tE : TT) (x : Int32) (t : TT) : Int32 × RS × TT := tf1 v g tm tm.1 (rw_get tE.1 tE.2 (x - 1024)).toNatClampNeg (rd_0, t)
/-- an abbreviation of entry x - 1024 -/
def en (v : Int32) (g : Nat → Int32) (tm tE : TT) (x : Int32) (r : RS) (t : TT) : Int32 × RS × TT :=
  if 0 ≤ rw_get tE.1 tE.2 (x - 1024) then (if 0 < -(tfe v g tm tE x t).1 then -(tfe v g tm tE x t).1 else 0, (tfe v g tm tE x t).2) else (3, r, t)
def fo0 (v : Int32) (g : Nat → Int32) (tm tE : TT) (x : Int32) (r : RS) (t : TT) : Int32 × RS × TT :=
  if x = -1 then (0, r, t) else if x < 0 then (if x = -2 then (0, r, t) else en v g tm tE x r t) else if 1024 ≤ x then (if x = -2 then (0, r, t) else en v g tm tE x r t) else (if rw_ar 1000 t.1 = 0 then 4 else 0, r, rw_a 1000 x t)
def s0 (v : Int32) (g : Nat → Int32) (tm tE : TT) (x : Int32) (z : RS × RS × TT) : Int32 × RS × RS × TT := ((fo0 v g tm tE (rd_take v g z.1 x).1 z.2.1 z.2.2).1, (rd_take v g z.1 x).2, (fo0 v g tm tE (rd_take v g z.1 x).1 z.2.1 z.2.2).2)
def tw0 (v : Int32) (g : Nat → Int32) (tm tE : TT) (w : Int32) (z : RS × RS × TT) : Int32 × RS × RS × TT :=
  if (s0 v g tm tE (tl_no w 10) z).1 = 0 then (if (s0 v g tm tE (tl_no w 5) (s0 v g tm tE (tl_no w 10) z).2).1 = 0 then s0 v g tm tE (tl_no w 0) (s0 v g tm tE (tl_no w 5) (s0 v g tm tE (tl_no w 10) z).2).2 else s0 v g tm tE (tl_no w 5) (s0 v g tm tE (tl_no w 10) z).2) else s0 v g tm tE (tl_no w 10) z
def tf0 (v : Int32) (g : Nat → Int32) (tm tE : TT) : Nat → Nat → RS × RS × TT → Int32 × RS × RS × TT
  | 0, _, z => (-2, z)
  | m + 1, q, z => if q + 1 < tm.1 then (if (tw0 v g tm tE (tl_two tm q) z).1 = 0 then (if tl_two tm q < 32768 then tf0 v g tm tE m (q + 2) (tw0 v g tm tE (tl_two tm q) z).2 else (nI (q + 2), (tw0 v g tm tE (tl_two tm q) z).2)) else (-(tw0 v g tm tE (tl_two tm q) z).1, (tw0 v g tm tE (tl_two tm q) z).2)) else (-2, z)
theorem s1_le {v x : Int32} {g : Nat → Int32} {z : RS × TT} (h : z.2.1 ≤ 1000) : (s1 v g x z).2.2.1 ≤ 1000 := fo1_le h
theorem tw1_le {v w : Int32} {g : Nat → Int32} {z : RS × TT} (h : z.2.1 ≤ 1000) : (tw1 v g w z).2.2.1 ≤ 1000 := by
  unfold tw1
  split
  · split
    · exact s1_le (s1_le (s1_le h))
    · exact s1_le (s1_le h)
  · exact s1_le h
theorem tf1_le {v : Int32} {g : Nat → Int32} {tm : TT} : ∀ (m q : Nat) (z : RS × TT), z.2.1 ≤ 1000 → (tf1 v g tm m q z).2.2.1 ≤ 1000
  | 0, q, z, h => h
  | m + 1, q, z, h => by
    unfold tf1
    split
    · split
      · split
        · exact tf1_le m _ _ (tw1_le h)
        · exact tw1_le h
      · exact tw1_le h
    · exact h
theorem en_le {v x : Int32} {g : Nat → Int32} {tm tE : TT} {r : RS} {t : TT} (h : t.1 ≤ 1000) : (en v g tm tE x r t).2.2.1 ≤ 1000 := by
  unfold en
  split
  · exact tf1_le _ _ _ h
  · exact h
theorem fo0_le {v x : Int32} {g : Nat → Int32} {tm tE : TT} {r : RS} {t : TT} (h : t.1 ≤ 1000) : (fo0 v g tm tE x r t).2.2.1 ≤ 1000 := by
  unfold fo0
  repeat' split
  all_goals (first | exact h | exact rw_a_le h | exact en_le h)
theorem s0_le {v x : Int32} {g : Nat → Int32} {tm tE : TT} {z : RS × RS × TT} (h : z.2.2.1 ≤ 1000) : (s0 v g tm tE x z).2.2.2.1 ≤ 1000 := fo0_le h
theorem tw0_le {v w : Int32} {g : Nat → Int32} {tm tE : TT} {z : RS × RS × TT} (h : z.2.2.1 ≤ 1000) : (tw0 v g tm tE w z).2.2.2.1 ≤ 1000 := by
  unfold tw0
  split
  · split
    · exact s0_le (s0_le (s0_le h))
    · exact s0_le (s0_le h)
  · exact s0_le h
theorem tf0_le {v : Int32} {g : Nat → Int32} {tm tE : TT} : ∀ (m q : Nat) (z : RS × RS × TT), z.2.2.1 ≤ 1000 → (tf0 v g tm tE m q z).2.2.2.1 ≤ 1000
  | 0, q, z, h => h
  | m + 1, q, z, h => by
    unfold tf0
    split
    · split
      · split
        · exact tf0_le m _ _ (tw0_le h)
        · exact tw0_le h
      · exact tw0_le h
    · exact h
theorem en_pl {tE : TT} {x : Int32} (hE : ∀ j, j < tE.1 → tE.2 j ≤ 3000) (hn : tE.1 ≤ 96) (h : 0 ≤ rw_get tE.1 tE.2 x) : (rw_get tE.1 tE.2 x).toNatClampNeg ≤ 3000 := by
  unfold rw_get at h ⊢
  split at h
  · exact absurd h (by decide)
  · rename_i h1
    rw [if_neg h1]
    obtain ⟨j, hj, rfl⟩ := rw_in h1 (by omega)
    rw [nI_clamp (by omega)] at h ⊢
    exact nI_cl_le (M := 3000) (by decide) (Int32.not_lt.mpr h) (hE j hj)
/-! Words of the dictionary. -/
def wo_sg (sm c : Int32) : Int32 := if sm = 0 then c else if c < 65 then c else if 90 < c then c else c + 32
def wo_fill (v : Int32) (g : Nat → Int32) (tr : TT) (sm : Int32) (ln i1 : Nat) : Nat → Nat → TT → TT
  | 0, _, t => t
  | m + 1, i, t => if i < i1 then (if t.1 < ln then wo_fill v g tr sm ln i1 m (i + 1) (sp 12 v g (wo_sg sm (rw_get tr.1 tr.2 (nI i))) t) else t) else t
def wo_num (t : TT) : Nat → Nat → Int64 → Int64
  | 0, _, w => w
  | m + 1, j, w => wo_num t m (j + 1) ((w <<< (Int32.toInt64 5 &&& 63)) ||| Int32.toInt64 (if rw_has t.1 (nI j) = 0 then 5 else rw_get t.1 t.2 (nI j)))
def wo_f (v : Int32) (g : Nat → Int32) (tr : TT) (sm : Int32) (ln i0 i1 : Nat) (t : TT) : TT := wo_fill v g tr sm ln i1 1000 i0 (rw_c 0 t)
def wo_w (v : Int32) (g : Nat → Int32) (tr : TT) (sm : Int32) (ln i0 i1 : Nat) (t : TT) : Int64 := wo_num (wo_f v g tr sm ln i0 i1 t) ln 0 0
def di_from (ws : Nat → Int64) (w : Int64) : Nat → Nat → Int32
  | 0, _ => -1
  | m + 1, k => if ws k = w then nI k else di_from ws w m (k + 1)
def di_num (ws : Nat → Int64) (w : Int64) (cn : Nat) : Int32 := if di_from ws w cn 0 < 0 then (if cn < 40 then nI cn else -4) else di_from ws w cn 0
def di_ws (ws : Nat → Int64) (w : Int64) (cn : Nat) : Nat → Int64 := if di_from ws w cn 0 < 0 then (if cn < 40 then vp_updL ws cn w else ws) else ws
def di_cn (ws : Nat → Int64) (w : Int64) (cn : Nat) : Nat := if di_from ws w cn 0 < 0 then (if cn < 40 then cn + 1 else cn) else cn
theorem lg_cmp_0 {x y : Int64} : lg_cmp x y = 0 ↔ x = y := by
  unfold lg_cmp
  by_cases h1 : y < x
  · rw [if_pos h1]
    exact ⟨fun h => absurd h (by decide), fun h => by subst h; exact absurd h1 (Int64.lt_irrefl)⟩
  · rw [if_neg h1]
    by_cases h2 : x = y
    · rw [if_pos h2]; exact ⟨fun _ => h2, fun _ => rfl⟩
    · rw [if_neg h2]; exact ⟨fun h => absurd h (by decide), fun h => absurd h h2⟩
def by_b (ln : Nat) (i : Int32) : Int32 := nI (ln / 3) - 1 - i / 2
def by_two (ws : Nat → Int64) (ln : Nat) (k i : Int32) : Int32 := if by_b ln i = 0 then (Int64.toInt32 (ws k.toNatClampNeg >>> (Int32.toInt64 (15 * by_b ln i) &&& 63)) &&& 32767) ||| 32768 else Int64.toInt32 (ws k.toNatClampNeg >>> (Int32.toInt64 (15 * by_b ln i) &&& 63)) &&& 32767
def by_of (ws : Nat → Int64) (ln cn : Nat) (k i : Int32) : Int32 := if k < 0 then -1 else if nI cn ≤ k then -1 else if i < 0 then -1 else if i < nI (2 * (ln / 3)) then (if i - i / 2 * 2 = 0 then by_two ws ln k i >>> ((8 : Int32) &&& 31) else by_two ws ln k i &&& 255) else -1
/-! Parting. -/
def zs_is (c : Int32) : Int32 := if c < 0 then 0 else if 1024 ≤ c then 0 else 1
theorem zs_in {c : Int32} (h : ¬ zs_is c = 0) : vp_in c 1024 := by
  unfold zs_is at h
  split at h
  · exact absurd rfl h
  · rename_i h1
    split at h
    · exact absurd rfl h
    · rename_i h2
      obtain ⟨j, hj, rfl⟩ := nI_of h1
      refine vp_in_nI ?_ (by decide)
      rcases Nat.lt_or_ge j 1024 with q | q
      · exact q
      · exact absurd (nI_le q hj) h2
def pt_is (s : Nat → Int32) (c : Int32) : Int32 := if zs_is c = 0 then 0 else if s c.toNatClampNeg = 0 then 0 else 1
def pt_set (s : Nat → Int32) (c b : Int32) : Nat → Int32 := if zs_is c = 0 then s else upd s c.toNatClampNeg (vp_nar .boolean b)
theorem pt_nar (s : Nat → Int32) (c : Int32) : narrow .boolean (.int (pt_is s c)) = .int (pt_is s c) := by
  unfold pt_is
  repeat' split
  all_goals rfl
abbrev PZ : Type := TT × TT × TT × TT
def ad_tok (v : Int32) (g : Nat → Int32) (ln cn : Nat) (ws : Nat → Int64) (tr : TT) (i0 i1 : Nat) (z : PZ) : PZ :=
  if i0 < i1 then (rw_a 1000 (nI i0) z.1, rw_a 1000 (nI i1 - nI i0) z.2.1, rw_a 1000 (di_from ws (wo_w v g tr 1 ln i0 i1 z.2.2.2) cn 0) z.2.2.1, wo_f v g tr 1 ln i0 i1 z.2.2.2) else z
theorem wo_fill_le {v sm : Int32} {g : Nat → Int32} {tr : TT} {ln i1 : Nat} : ∀ (m i : Nat) (t : TT), t.1 ≤ 12 → (wo_fill v g tr sm ln i1 m i t).1 ≤ 12
  | 0, _, t, h => h
  | m + 1, i, t, h => by
    unfold wo_fill
    repeat' split
    all_goals (first | exact h | exact wo_fill_le m _ _ (sp_le h))
theorem wo_f_le {v sm : Int32} {g : Nat → Int32} {tr : TT} {ln i0 i1 : Nat} {t : TT} (h : t.1 ≤ 12) : (wo_f v g tr sm ln i0 i1 t).1 ≤ 12 := wo_fill_le _ _ _ (rw_c_le h (by decide))
def PZok (z : PZ) : Prop := z.1.1 ≤ 1000 ∧ z.2.1.1 ≤ 1000 ∧ z.2.2.1.1 ≤ 1000 ∧ z.2.2.2.1 ≤ 12
theorem ad_tok_ok {v : Int32} {g : Nat → Int32} {ln cn : Nat} {ws : Nat → Int64} {tr : TT} {i0 i1 : Nat} {z : PZ} (h : PZok z) : PZok (ad_tok v g ln cn ws tr i0 i1 z) := by
  obtain ⟨h1, h2, h3, h4⟩ := h
  unfold ad_tok
  split
  · exact ⟨rw_a_le h1, rw_a_le h2, rw_a_le h3, wo_f_le h4⟩
  · exact ⟨h1, h2, h3, h4⟩
def pr_one (v : Int32) (g : Nat → Int32) (ln cn : Nat) (ws : Nat → Int64) (s : Nat → Int32) (tr : TT) (i : Nat) (y : Nat × PZ) : Nat × PZ :=
  if rw_get tr.1 tr.2 (nI i) = 32 then
    (if pt_is s (rw_get tr.1 tr.2 (nI i)) = 0 then (i + 1, ad_tok v g ln cn ws tr y.1 i y.2) else (i + 1, ad_tok v g ln cn ws tr i (i + 1) (ad_tok v g ln cn ws tr y.1 i y.2)))
  else if pt_is s (rw_get tr.1 tr.2 (nI i)) = 0 then y else (i + 1, ad_tok v g ln cn ws tr i (i + 1) (ad_tok v g ln cn ws tr y.1 i y.2))
def pr_all (v : Int32) (g : Nat → Int32) (ln cn : Nat) (ws : Nat → Int64) (s : Nat → Int32) (tr : TT) : Nat → Nat → Nat × PZ → Nat × PZ
  | 0, _, y => y
  | m + 1, i, y => pr_all v g ln cn ws s tr m (i + 1) (pr_one v g ln cn ws s tr i y)
def pr_0 (z : PZ) : PZ := (rw_c 0 z.1, rw_c 0 z.2.1, rw_c 0 z.2.2.1, z.2.2.2)
def pr (v : Int32) (g : Nat → Int32) (ln cn : Nat) (ws : Nat → Int64) (s : Nat → Int32) (tr : TT) (z : PZ) : PZ :=
  ad_tok v g ln cn ws tr (pr_all v g ln cn ws s tr tr.1 0 (0, pr_0 z)).1 tr.1 (pr_all v g ln cn ws s tr tr.1 0 (0, pr_0 z)).2
theorem pr_0_ok {z : PZ} (h : PZok z) : PZok (pr_0 z) := ⟨rw_c_le h.1 (by decide), rw_c_le h.2.1 (by decide), rw_c_le h.2.2.1 (by decide), h.2.2.2⟩
theorem pr_one_ok {v : Int32} {g : Nat → Int32} {ln cn : Nat} {ws : Nat → Int64} {s : Nat → Int32} {tr : TT} {i : Nat} {y : Nat × PZ} (h : PZok y.2) : PZok (pr_one v g ln cn ws s tr i y).2 := by
  unfold pr_one
  repeat' split
  all_goals (repeat (first | exact h | apply ad_tok_ok))
theorem pr_one_le {v : Int32} {g : Nat → Int32} {ln cn : Nat} {ws : Nat → Int64} {s : Nat → Int32} {tr : TT} {i : Nat} {y : Nat × PZ} (h : y.1 ≤ i) : (pr_one v g ln cn ws s tr i y).1 ≤ i + 1 := by
  unfold pr_one
  repeat' split
  all_goals (first | exact Nat.le_refl _ | exact Nat.le_succ_of_le h)
def tk_val (z : PZ) (k w : Int32) : Int32 := if rw_has z.1.1 k = 0 then -1 else if w = 0 then rw_get z.1.1 z.1.2 k else if w = 1 then rw_get z.2.1.1 z.2.1.2 k else if w = 2 then rw_get z.2.2.1.1 z.2.2.1.2 k else -2
theorem mm_min {a c : Nat} (ha : a < 2 ^ 31) (hc : c < 2 ^ 31) : (if nI c < nI a then nI c else nI a) = nI (min a c) := by
  by_cases h : c < a
  · rw [if_pos (nI_lt h ha), Nat.min_eq_right (Nat.le_of_lt h)]
  · rw [if_neg (nI_nlt (Nat.le_of_not_lt h) hc), Nat.min_eq_left (Nat.le_of_not_lt h)]
