/-! Abbreviator: entries that stand in the row, the fewest numbers. -/
def nF (f : Nat → Nat) : Nat → Int32 := fun q => nI (f q)
def upN (f : Nat → Nat) (k x : Nat) : Nat → Nat := fun j => if j = k then x else f j
theorem nF_up {f : Nat → Nat} {k x : Nat} : upd (nF f) k (nI x) = nF (upN f k x) := by
  funext j
  unfold nF upN upd
  split <;> rfl
theorem mm_1000 {n : Nat} (h : n ≤ 1000) : (if (1000 : Int32) < nI n then 1000 else nI n) = nI n := if_neg (nI_nlt (a := 1000) (b := n) h (by decide))
def mk_bit (e : Nat) : Int32 := 1 <<< (nI (e % 32) &&& 31)
def mk_one (tr t : TT) (e i : Nat) (st : Nat → Int32) : Nat → Int32 := if rw_shows tr.1 tr.2 t.1 t.2 (nI i) = 0 then st else upd st (3 * i + e / 32) (st (3 * i + e / 32) ||| mk_bit e)
def mk_all (tr t : TT) (e : Nat) : Nat → Nat → (Nat → Int32) → Nat → Int32
  | 0, _, st => st
  | m + 1, i, st => mk_all tr t e m (i + 1) (mk_one tr t e i st)
def ce_bit (st : Nat → Int32) (i e : Nat) : Int32 := (st (3 * i + e / 32) >>> (nI (e % 32) &&& 31)) &&& 1
abbrev FC : Type := (Nat → Nat) × (Nat → Int32)
def ce_up (i x e : Nat) (y : FC) : FC := (upN y.1 i x, upd y.2 i (nI e))
def ce_one (le : Nat → Nat) (st : Nat → Int32) (sg : Nat) (sp_ : Int32) (i e : Nat) (y : FC) : FC :=
  if ce_bit st i e = 0 then y else if i + le e ≤ sg then
    (if 2 + y.1 (i + le e) < y.1 i then ce_up i (2 + y.1 (i + le e)) e y else if 2 + y.1 (i + le e) = y.1 i then (if y.2 i = -1 then (if sp_ = 0 then ce_up i (2 + y.1 (i + le e)) e y else y) else y) else y)
  else y
def ce_all (le : Nat → Nat) (st : Nat → Int32) (sg : Nat) (sp_ : Int32) (i : Nat) : Nat → Nat → FC → FC
  | 0, _, y => y
  | m + 1, e, y => ce_all le st sg sp_ i m (e + 1) (ce_one le st sg sp_ i e y)
/-- all of them small -/
def FCok (y : FC) : Prop := ∀ j, y.1 j ≤ 4000
theorem ce_one_ok {le : Nat → Nat} {st : Nat → Int32} {sg : Nat} {sp_ : Int32} {i e : Nat} {y : FC} (h : FCok y) : FCok (ce_one le st sg sp_ i e y) := by
  have up : 2 + y.1 (i + le e) ≤ y.1 i → FCok (ce_up i (2 + y.1 (i + le e)) e y) := by
    intro q j
    show upN y.1 i _ j ≤ 4000
    unfold upN
    split
    · exact Nat.le_trans q (h i)
    · exact h j
  unfold ce_one
  repeat' split
  all_goals (first | exact h | exact up (by omega))
/-- the numbers of one sign alone: how many -/
def sp_n (v : Int32) (g : Nat → Int32) (c : Int32) (t4 : TT) : TT := sp 4 v g c (rw_c 0 t4)
def ch_one (v : Int32) (g : Nat → Int32) (tr : TT) (us : Nat) (le : Nat → Nat) (st : Nat → Int32) (i : Nat) (x : TT × FC) : TT × FC :=
  (sp_n v g (rw_get tr.1 tr.2 (nI i)) x.1, ce_all le st tr.1 (if rw_get tr.1 tr.2 (nI i) = 32 then 1 else 0) i us 0 (upN x.2.1 i ((sp_n v g (rw_get tr.1 tr.2 (nI i)) x.1).1 + x.2.1 (i + 1)), upd x.2.2 i (-1)))
/-- from the sign before i down to the first -/
def ch_all (v : Int32) (g : Nat → Int32) (tr : TT) (us : Nat) (le : Nat → Nat) (st : Nat → Int32) : Nat → TT × FC → TT × FC
  | 0, x => x
  | i + 1, x => ch_all v g tr us le st i (ch_one v g tr us le st i x)
def ch (v : Int32) (g : Nat → Int32) (tr : TT) (us : Nat) (le : Nat → Nat) (st : Nat → Int32) (x : TT × FC) : TT × FC := ch_all v g tr us le st tr.1 (x.1, (upN x.2.1 tr.1 0, x.2.2))
def sc_one (v : Int32) (g : Nat → Int32) (tr : TT) (le : Nat → Nat) (co : Nat → Int32) (i : Nat) (z : Nat × TT) : Nat × TT :=
  if i < z.1 then z else if co i < 0 then (z.1, sp 4002 v g (rw_get tr.1 tr.2 (nI i)) z.2) else if 96 ≤ co i then (z.1, sp 4002 v g (rw_get tr.1 tr.2 (nI i)) z.2) else
    (i + le (co i).toNatClampNeg, rw_a 4002 (co i - co i / 32 * 32) (rw_a 4002 (1 + co i / 32) z.2))
def sc_all (v : Int32) (g : Nat → Int32) (tr : TT) (le : Nat → Nat) (co : Nat → Int32) : Nat → Nat → Nat × TT → Nat × TT
  | 0, _, z => z
  | m + 1, i, z => sc_all v g tr le co m (i + 1) (sc_one v g tr le co i z)
abbrev FE : Type := RS × TT × (Nat → Nat) × (Nat → Int32)
def fe_t (v : Int32) (g : Nat → Int32) (tm tE : TT) (e : Nat) (z : FE) : Int32 × RS × TT := tf1 v g tm tm.1 (rw_get tE.1 tE.2 (nI e)).toNatClampNeg (rd_0, rw_c 0 z.2.1)
def fe_one (v : Int32) (g : Nat → Int32) (tm tE tr : TT) (e : Nat) (z : FE) : FE :=
  if rw_get tE.1 tE.2 (nI e) < 0 then (z.1, rw_c 0 z.2.1, z.2.2) else if (fe_t v g tm tE e z).1 < 0 then ((fe_t v g tm tE e z).2.1, (fe_t v g tm tE e z).2.2, z.2.2) else if (fe_t v g tm tE e z).2.2.1 ≤ 0 then ((fe_t v g tm tE e z).2.1, (fe_t v g tm tE e z).2.2, z.2.2) else
    ((fe_t v g tm tE e z).2.1, (fe_t v g tm tE e z).2.2, upN z.2.2.1 e (fe_t v g tm tE e z).2.2.1, mk_all tr (fe_t v g tm tE e z).2.2 e tr.1 0 z.2.2.2)
def fe_all (v : Int32) (g : Nat → Int32) (tm tE tr : TT) : Nat → Nat → FE → FE
  | 0, _, z => z
  | m + 1, e, z => fe_all v g tm tE tr m (e + 1) (fe_one v g tm tE tr e z)
/-! The class itself. -/
theorem dec_neg {k : Nat} (hk : k < 2 ^ 30) (h : nI k - 1 < 0) : k = 0 := by
  rcases Nat.eq_zero_or_pos k with q | q
  · exact q
  · exfalso
    obtain ⟨k1, rfl⟩ : ∃ k1, k = k1 + 1 := ⟨k - 1, by omega⟩
    rw [nI_pred] at h
    exact nI_pos (by omega) h
theorem dec_pos {k : Nat} (h : ¬ nI k - 1 < 0) : ∃ k1, k = k1 + 1 := by
  rcases Nat.eq_zero_or_pos k with q | q
  · subst q
    exact absurd (by decide) h
  · exact ⟨k - 1, by omega⟩
theorem dec_iinc (k : Nat) : nI (k + 1) - 1 + Int32.ofInt (-1) = nI k - 1 := by
  rw [nI_pred, Int32.sub_eq_add_neg]
  rfl
def ab_byte (w : Int64) (k : Nat) : Int32 := Int64.toInt32 (w >>> (Int32.toInt64 (nI (8 * k)) &&& 63)) &&& 255
def ab_all (cap : Nat) (w : Int64) : Nat → TT → TT
  | 0, t => t
  | k + 1, t => ab_all cap w k (rw_a cap (ab_byte w k) t)
def ab_t (cap : Nat) (w : Int64) (n : Int32) (t : TT) : TT := if n < 0 then t else if n ≤ 8 then (if rw_room cap t.1 n = 0 then t else ab_all cap w n.toNatClampNeg t) else t
def ab_r (cap : Nat) (w : Int64) (n : Int32) (t : TT) : Int32 := if n < 0 then -2 else if n ≤ 8 then (if rw_room cap t.1 n = 0 then -4 else nI ((ab_all cap w n.toNatClampNeg t).1)) else -2
def zp_r (t : TT) (i b : Int32) : Int32 := if rw_has t.1 i = 0 then -1 else if b < 0 then -2 else if b ≤ 255 then rw_get t.1 t.2 i else -2
def zp_t (t : TT) (i b : Int32) : TT := if rw_has t.1 i = 0 then t else if b < 0 then t else if b ≤ 255 then rw_r i b t else t
def zk_r (t : TT) (n : Int32) : Int32 := if n < 0 then -2 else if n ≤ nI t.1 then nI t.1 else -2
def zk_t (t : TT) (n : Int32) : TT := if n < 0 then t else if n ≤ nI t.1 then rw_c n t else t
def zs_r (t : TT) (c : Int32) : Int32 := if c = -1 then 0 else if zs_is c = 0 then -2 else if rw_ar 1000 t.1 = 0 then -4 else nI ((rw_a 1000 c t).1)
def zs_t (t : TT) (c : Int32) : TT := if c = -1 then rw_c 0 t else if zs_is c = 0 then t else rw_a 1000 c t
def za_r (v : Int32) (g : Nat → Int32) (A N c : Int32) : Int32 := if 5 ≤ v then (if al_may A N = 0 then -1 else if zs_is c = 0 then -2 else al_old g A N) else -3
def za_g (v : Int32) (g : Nat → Int32) (A N c : Int32) : Nat → Int32 := if 5 ≤ v then (if al_may A N = 0 then g else if zs_is c = 0 then g else al_chg g A N c) else g
def ze_r (t : TT) (i b : Int32) : Int32 := if rw_has t.1 i = 0 then -1 else if b < -1 then -2 else if b ≤ 3000 then rw_get t.1 t.2 i else -2
def ze_t (t : TT) (i b : Int32) : TT := if rw_has t.1 i = 0 then t else if b < -1 then t else if b ≤ 3000 then rw_r i b t else t
def zsep_r (s : Nat → Int32) (c : Int32) : Int32 := if zs_is c = 0 then -2 else if c = 32 then -2 else if pt_is s c = 0 then 0 else 1
def zsep_s (s : Nat → Int32) (c b : Int32) : Nat → Int32 := if zs_is c = 0 then s else if c = 32 then s else pt_set s c b
theorem nF_up0 {f : Nat → Nat} {k : Nat} : upd (nF f) k 0 = nF (upN f k 0) := nF_up (x := 0)
theorem ce_one_le {le : Nat → Nat} {st : Nat → Int32} {sg : Nat} {sp_ : Int32} {i e : Nat} {y : FC} (j : Nat) : (ce_one le st sg sp_ i e y).1 j ≤ y.1 j := by
  have up : 2 + y.1 (i + le e) ≤ y.1 i → (ce_up i (2 + y.1 (i + le e)) e y).1 j ≤ y.1 j := by
    intro q
    show upN y.1 i _ j ≤ y.1 j
    unfold upN
    split
    · rename_i hj; subst hj; exact q
    · exact Nat.le_refl _
  unfold ce_one
  repeat' split
  all_goals (first | exact Nat.le_refl _ | exact up (by omega))
theorem ce_all_le {le : Nat → Nat} {st : Nat → Int32} {sg : Nat} {sp_ : Int32} {i : Nat} : ∀ (m e : Nat) (y : FC) (j : Nat), (ce_all le st sg sp_ i m e y).1 j ≤ y.1 j
  | 0, _, _, _ => Nat.le_refl _
  | m + 1, e, y, j => Nat.le_trans (ce_all_le m (e + 1) _ j) (ce_one_le j)
def CHok (n ii : Nat) (x : TT × FC) : Prop := x.1.1 ≤ 4 ∧ FCok x.2 ∧ ∀ j, ii ≤ j → j ≤ n → x.2.1 j ≤ 4 * (n - j)
theorem ch_one_ok {v : Int32} {g : Nat → Int32} {tr : TT} {us : Nat} {le : Nat → Nat} {st : Nat → Int32} {i : Nat} {x : TT × FC} (hn : tr.1 ≤ 1000) (hi : i < tr.1) (h : CHok tr.1 (i + 1) x) : CHok tr.1 i (ch_one v g tr us le st i x) := by
  obtain ⟨h1, h2, h3⟩ := h
  have hs : (sp_n v g (rw_get tr.1 tr.2 (nI i)) x.1).1 ≤ 4 := sp_le (rw_c_le h1 (by decide))
  have h4 := h3 (i + 1) (Nat.le_refl _) hi
  have hu : ∀ j, upN x.2.1 i ((sp_n v g (rw_get tr.1 tr.2 (nI i)) x.1).1 + x.2.1 (i + 1)) j ≤ if j = i then 4 * (tr.1 - i) else x.2.1 j := by
    intro j
    unfold upN
    by_cases hj : j = i
    · rw [if_pos hj, if_pos hj]; omega
    · rw [if_neg hj, if_neg hj]; exact Nat.le_refl _
  refine ⟨hs, fun j => ?_, fun j q1 q2 => ?_⟩
  · refine Nat.le_trans (ce_all_le us 0 _ j) (Nat.le_trans (hu j) ?_)
    split
    · omega
    · exact h2 j
  · refine Nat.le_trans (ce_all_le us 0 _ j) (Nat.le_trans (hu j) ?_)
    split
    · rename_i hj; subst hj; exact Nat.le_refl _
    · exact h3 j (by omega) q2
theorem ch_0_ok {n : Nat} {x : TT × FC} (hn : n ≤ 1000) (h4 : x.1.1 ≤ 4) (hy : FCok x.2) : CHok n n (x.1, (upN x.2.1 n 0, x.2.2)) := by
  refine ⟨h4, fun j => ?_, fun j q1 q2 => ?_⟩
  · show upN x.2.1 n 0 j ≤ 4000
    unfold upN; split
    · omega
    · exact hy j
  · show upN x.2.1 n 0 j ≤ 4 * (n - j)
    unfold upN; rw [if_pos (by omega)]; omega
theorem co_in {x : Int32} (h1 : ¬ x < 0) (h2 : ¬ 96 ≤ x) : vp_in x 96 := by
  obtain ⟨j, hj, rfl⟩ := nI_of h1
  refine vp_in_nI ?_ (by decide)
  rcases Nat.lt_or_ge j 96 with q | q
  · exact q
  · exact absurd (nI_le q hj) h2
theorem dec_i (k : Nat) : nI k + Int32.ofInt (-1) = nI k - 1 := by
  rw [Int32.sub_eq_add_neg]
  rfl
theorem ch_fok {v : Int32} {g : Nat → Int32} {tr : TT} {i ii : Nat} {x : TT × FC} (hn : tr.1 ≤ 1000) (hi : i + 1 = ii ∧ i < tr.1) (h : CHok tr.1 ii x) : ∀ j, upN x.2.1 i ((sp_n v g (rw_get tr.1 tr.2 (nI i)) x.1).1 + x.2.1 (i + 1)) j ≤ 4000 := by
  obtain ⟨h1, h2, h3⟩ := h
  obtain ⟨rfl, hi⟩ := hi
  have hs : (sp_n v g (rw_get tr.1 tr.2 (nI i)) x.1).1 ≤ 4 := sp_le (rw_c_le h1 (by decide))
  have h4 := h3 (i + 1) (Nat.le_refl _) hi
  intro j
  unfold upN
  split
  · omega
  · exact h2 j
/-! tell -/
def zt_z (v : Int32) (g : Nat → Int32) (tm tE : TT) (pl : Int32) (r : RS) (t : TT) : Int32 × RS × RS × TT := tf0 v g tm tE tm.1 pl.toNatClampNeg (rd_0, r, rw_c 0 t)
/-- answer, behind, row, told, the readings (abbreviation, whole) -/
def zt (v : Int32) (g : Nat → Int32) (tm tE : TT) (pl bh : Int32) (tr t : TT) (r r0 : RS) : Int32 × Int32 × TT × TT × RS × RS :=
  if pl < 0 then (-2, bh, tr, t, r, r0) else if pl ≤ 3000 then
    (if 0 ≤ (zt_z v g tm tE pl r t).1 then (nI ((rw_b 1000 (zt_z v g tm tE pl r t).2.2.2 tr).1), (zt_z v g tm tE pl r t).1, rw_b 1000 (zt_z v g tm tE pl r t).2.2.2 tr, (zt_z v g tm tE pl r t).2.2.2, (zt_z v g tm tE pl r t).2.2.1, (zt_z v g tm tE pl r t).2.1)
     else (-10 + (zt_z v g tm tE pl r t).1, 0, tr, (zt_z v g tm tE pl r t).2.2.2, (zt_z v g tm tE pl r t).2.2.1, (zt_z v g tm tE pl r t).2.1))
  else (-2, bh, tr, t, r, r0)
/-! spelling of the row as it is, the 5s, the words -/
def sr_all (v : Int32) (g : Nat → Int32) (tr : TT) : Nat → Nat → TT → TT
  | 0, _, t => t
  | m + 1, i, t => sr_all v g tr m (i + 1) (sp 4002 v g (rw_get tr.1 tr.2 (nI i)) t)
theorem sr_all_le {v : Int32} {g : Nat → Int32} {tr : TT} : ∀ (m i : Nat) (t : TT), t.1 ≤ 4002 → (sr_all v g tr m i t).1 ≤ 4002
  | 0, _, _, h => h
  | m + 1, i, t, h => sr_all_le m (i + 1) _ (sp_le h)
def pd_n (t : TT) : Nat := if t.1 = 0 then 3 else (3 - t.1 % 3) % 3
def pd_all : Nat → TT → TT
  | 0, t => t
  | m + 1, t => pd_all m (rw_a 4002 5 t)
theorem pd_all_le : ∀ (m : Nat) (t : TT), t.1 ≤ 4002 → (pd_all m t).1 ≤ 4002
  | 0, _, h => h
  | m + 1, t, h => pd_all_le m _ (rw_a_le h)
def pd (t : TT) : TT := pd_all (pd_n t) t
def wr_3 (ts : TT) (k : Nat) : Int32 := ((rw_get ts.1 ts.2 (nI k) <<< ((10 : Int32) &&& 31)) ||| (rw_get ts.1 ts.2 (nI (k + 1)) <<< ((5 : Int32) &&& 31))) ||| rw_get ts.1 ts.2 (nI (k + 2))
def wr_two (ts : TT) (k : Nat) : Int32 := if k + 3 < ts.1 then wr_3 ts k else wr_3 ts k ||| 32768
def wr_all (ts : TT) : Nat → Nat → TT → TT
  | 0, _, t => t
  | m + 1, k, t => if k < ts.1 then wr_all ts m (k + 3) (rw_a 3000 (wr_two ts k &&& 255) (rw_a 3000 (wr_two ts k >>> ((8 : Int32) &&& 31)) t)) else t
/-! What the constructors make of a version. -/
def dl (v : Int32) : Nat := if 3 < v then 9 else 6
def zus (v : Int32) : Nat := if v = 1 then 0 else if v = 2 then 32 else 96
def zv (v : Int32) : Int32 := if 1 < (if v < 8 then v else 8) then (if v < 8 then v else 8) else 1
/-! Arrays.fill; findEntries -/
def fl_all (x : Int32) : Nat → Nat → (Nat → Int32) → Nat → Int32
  | 0, _, f => f
  | m + 1, i, f => fl_all x m (i + 1) (upd f i x)
theorem fl_all_at {x : Int32} : ∀ (m i : Nat) (f : Nat → Int32) (j : Nat), fl_all x m i f j = if i ≤ j ∧ j < i + m then x else f j
  | 0, i, f, j => by
    rw [if_neg (by omega)]; rfl
  | m + 1, i, f, j => by
    rw [fl_all, fl_all_at m (i + 1)]
    by_cases h : i + 1 ≤ j ∧ j < i + 1 + m
    · rw [if_pos h, if_pos (by omega)]
    · rw [if_neg h]
      unfold upd
      by_cases hj : j = i
      · rw [if_pos hj, if_pos (by omega)]
      · rw [if_neg hj, if_neg (by omega)]
def FEok (z : FE) : Prop := z.2.1.1 ≤ 1000 ∧ ∀ j, z.2.2.1 j ≤ 1000
theorem fe_one_ok {v : Int32} {g : Nat → Int32} {tm tE tr : TT} {e : Nat} {z : FE} (h : FEok z) : FEok (fe_one v g tm tE tr e z) := by
  have ht : (fe_t v g tm tE e z).2.2.1 ≤ 1000 := tf1_le _ _ _ (rw_c_le h.1 (by decide))
  unfold fe_one
  repeat' split
  · exact ⟨rw_c_le h.1 (by decide), h.2⟩
  · exact ⟨ht, h.2⟩
  · exact ⟨ht, h.2⟩
  · refine ⟨ht, fun j => ?_⟩
    show upN z.2.2.1 e _ j ≤ 1000
    unfold upN
    split
    · exact ht
    · exact h.2 j
theorem fe_all_ok {v : Int32} {g : Nat → Int32} {tm tE tr : TT} : ∀ (m e : Nat) (z : FE), FEok z → FEok (fe_all v g tm tE tr m e z)
  | 0, _, _, h => h
  | m + 1, e, z, h => fe_all_ok m (e + 1) _ (fe_one_ok h)
def fe (v : Int32) (g : Nat → Int32) (tm tE tr : TT) (us : Nat) (z : FE) : FE := fe_all v g tm tE tr us 0 (z.1, z.2.1, z.2.2.1, fl_all 0 3000 0 z.2.2.2)
/-! numbers, make: the state that they work in is (entries found, choice, spelled) -/
abbrev BS : Type := FE × (TT × FC) × TT
def BSok (y : BS) : Prop := FEok y.1 ∧ y.2.1.1.1 ≤ 4 ∧ FCok y.2.1.2 ∧ y.2.2.1 ≤ 4002
def nb_1 (v : Int32) (g : Nat → Int32) (tm tE tr : TT) (us : Nat) (y : BS) : BS :=
  (fe v g tm tE tr us y.1, ch v g tr us (fe v g tm tE tr us y.1).2.2.1 (fe v g tm tE tr us y.1).2.2.2 y.2.1, (sc_all v g tr (fe v g tm tE tr us y.1).2.2.1 (ch v g tr us (fe v g tm tE tr us y.1).2.2.1 (fe v g tm tE tr us y.1).2.2.2 y.2.1).2.2 tr.1 0 (0, rw_c 0 y.2.2)).2)
def nb_0 (v : Int32) (g : Nat → Int32) (tr : TT) (y : BS) : BS := (y.1, y.2.1, sr_all v g tr tr.1 0 (rw_c 0 y.2.2))
def nb (v : Int32) (g : Nat → Int32) (tm tE tr : TT) (us : Nat) (how : Int32) (y : BS) : BS := if how = 0 then nb_0 v g tr y else if how = 1 then nb_1 v g tm tE tr us y else y
def nb_r (v : Int32) (g : Nat → Int32) (tm tE tr : TT) (us : Nat) (how : Int32) (y : BS) : Int32 := if how = 0 then nI ((nb_0 v g tr y).2.2.1) else if how = 1 then nI ((nb_1 v g tm tE tr us y).2.2.1) else -2
theorem ch_all_ok {v : Int32} {g : Nat → Int32} {tr : TT} {us : Nat} {le : Nat → Nat} {st : Nat → Int32} (hn : tr.1 ≤ 1000) : ∀ (i : Nat) (x : TT × FC), i ≤ tr.1 → CHok tr.1 i x → CHok tr.1 0 (ch_all v g tr us le st i x)
  | 0, _, _, h => h
  | i + 1, x, hi, h => ch_all_ok hn i _ (Nat.le_of_succ_le hi) (ch_one_ok hn hi h)
theorem sc_one_ok {v : Int32} {g : Nat → Int32} {tr : TT} {le : Nat → Nat} {co : Nat → Int32} {i : Nat} {z : Nat × TT} (h : z.2.1 ≤ 4002) : (sc_one v g tr le co i z).2.1 ≤ 4002 := by
  unfold sc_one
  repeat' split
  all_goals (repeat (first | exact h | apply rw_a_le | apply sp_le))
theorem sc_all_ok {v : Int32} {g : Nat → Int32} {tr : TT} {le : Nat → Nat} {co : Nat → Int32} : ∀ (m i : Nat) (z : Nat × TT), z.2.1 ≤ 4002 → (sc_all v g tr le co m i z).2.1 ≤ 4002
  | 0, _, _, h => h
  | m + 1, i, z, h => sc_all_ok m (i + 1) _ (sc_one_ok h)
theorem fe_ok {v : Int32} {g : Nat → Int32} {tm tE tr : TT} {us : Nat} {z : FE} (h : FEok z) : FEok (fe v g tm tE tr us z) := fe_all_ok us 0 (z.1, z.2.1, z.2.2.1, fl_all 0 3000 0 z.2.2.2) (And.intro h.1 h.2)
theorem nb_1_ok {v : Int32} {g : Nat → Int32} {tm tE tr : TT} {us : Nat} {y : BS} (hn : tr.1 ≤ 1000) (h : BSok y) : BSok (nb_1 v g tm tE tr us y) := by
  obtain ⟨h1, h2, h3, h4⟩ := h
  have hc := ch_all_ok (v := v) (g := g) (us := us) (le := (fe v g tm tE tr us y.1).2.2.1) (st := (fe v g tm tE tr us y.1).2.2.2) hn tr.1 _ (Nat.le_refl _) (ch_0_ok hn h2 h3)
  exact ⟨fe_ok h1, hc.1, hc.2.1, sc_all_ok _ _ _ (rw_c_le h4 (by decide))⟩
theorem nb_0_ok {v : Int32} {g : Nat → Int32} {tr : TT} {y : BS} (h : BSok y) : BSok (nb_0 v g tr y) := ⟨h.1, h.2.1, h.2.2.1, sr_all_le _ _ _ (rw_c_le h.2.2.2 (by decide))⟩
theorem nb_ok {v : Int32} {g : Nat → Int32} {tm tE tr : TT} {us : Nat} {how : Int32} {y : BS} (hn : tr.1 ≤ 1000) (h : BSok y) : BSok (nb v g tm tE tr us how y) := by
  unfold nb
  repeat' split
  · exact nb_0_ok h
  · exact nb_1_ok hn h
  · exact h
def pdB (y : BS) : BS := (y.1, y.2.1, pd y.2.2)
/-- answer, memory, the state -/
def mk_z (v : Int32) (g : Nat → Int32) (tm : TT) (y : BS) : Int32 × TT × BS :=
  if rw_room 3000 tm.1 (nI (y.2.2.1 / 3 * 2)) = 0 then (-4, tm, y) else (nI (tm.1), wr_all y.2.2 y.2.2.1 0 tm, y)
def mkz (v : Int32) (g : Nat → Int32) (tm tE tr : TT) (us : Nat) (how : Int32) (y : BS) : Int32 × TT × BS :=
  if how = 0 then mk_z v g tm (pdB (nb_0 v g tr y)) else if how = 1 then mk_z v g tm (pdB (nb_1 v g tm tE tr us y)) else (-2, tm, y)
def en_all : Nat → TT → TT
  | 0, t => t
  | m + 1, t => en_all m (rw_a 96 (-1) t)
def en_0 : TT := en_all 96 rw_0
