/-! The reference: tell, entries, the best row. -/
def cp_all (g : Nat → Int32) (o : Nat) : Nat → Nat → (Nat → Int32) → Nat → Int32
  | 0, _, f => f
  | m + 1, k, f => cp_all g o m (k + 1) (upd f (o + k) (g k))
def mt_z (v : Int32) (ms : Nat) (mb lt pl : Nat → Int32) (FU : Nat) (p : Int32) (t : TT) (n : NS) : TS := tm_all v ms mb lt pl 0 FU (0, 0, 0, -1, 0, (0, t.2), st_ 0 (nI p.toNatClampNeg) n)
/-- answer, behind, row, fault, told, numbers -/
def mtell (v : Int32) (ms : Nat) (mb lt pl : Nat → Int32) (FU : Nat) (p bh : Int32) (r : TT) (fa : Int32) (t : TT) (n : NS) : Int32 × Int32 × TT × Int32 × TT × NS :=
  if p < 0 then (-2, bh, r, fa, t, n) else if p ≤ 3000 then
    (if (mt_z v ms mb lt pl FU p t n).2.2.2.2.1 ≤ 0 then (nI (mt_z v ms mb lt pl FU p t n).2.2.2.2.2.1.1, (mt_z v ms mb lt pl FU p t n).2.2.2.2.2.2.1 0, ((mt_z v ms mb lt pl FU p t n).2.2.2.2.2.1.1, cp_all (mt_z v ms mb lt pl FU p t n).2.2.2.2.2.1.2 0 (mt_z v ms mb lt pl FU p t n).2.2.2.2.2.1.1 0 r.2), (mt_z v ms mb lt pl FU p t n).2.2.2.2.1, (mt_z v ms mb lt pl FU p t n).2.2.2.2.2.1, (mt_z v ms mb lt pl FU p t n).2.2.2.2.2.2)
     else (-10 - (mt_z v ms mb lt pl FU p t n).2.2.2.2.1, 0, r, (mt_z v ms mb lt pl FU p t n).2.2.2.2.1, (mt_z v ms mb lt pl FU p t n).2.2.2.2.2.1, (mt_z v ms mb lt pl FU p t n).2.2.2.2.2.2))
  else (-2, bh, r, fa, t, n)
/-- fault, told, numbers, sizes, texts -/
abbrev FM : Type := Int32 × TT × NS × (Nat → Nat) × (Nat → Int32)
def fm_r (v : Int32) (ms : Nat) (mb lt pl : Nat → Int32) (FU e : Nat) (z : FM) : TS := tm_all v ms mb lt pl 1 FU (1, 0, 0, -1, 0, (0, z.2.1.2), st_ 1 (nI (pl e).toNatClampNeg) z.2.2.1)
def fm_one (v : Int32) (ms : Nat) (mb lt pl : Nat → Int32) (FU us e : Nat) (z : FM) : FM :=
  if us ≤ e then (z.1, z.2.1, z.2.2.1, upN z.2.2.2.1 e 0, z.2.2.2.2) else if 0 ≤ pl e then
    (if (fm_r v ms mb lt pl FU e z).2.2.2.2.1 ≤ 0 then ((fm_r v ms mb lt pl FU e z).2.2.2.2.1, (fm_r v ms mb lt pl FU e z).2.2.2.2.2.1, (fm_r v ms mb lt pl FU e z).2.2.2.2.2.2, upN (upN z.2.2.2.1 e 0) e (fm_r v ms mb lt pl FU e z).2.2.2.2.2.1.1, cp_all (fm_r v ms mb lt pl FU e z).2.2.2.2.2.1.2 (1000 * e) (fm_r v ms mb lt pl FU e z).2.2.2.2.2.1.1 0 z.2.2.2.2)
     else ((fm_r v ms mb lt pl FU e z).2.2.2.2.1, (fm_r v ms mb lt pl FU e z).2.2.2.2.2.1, (fm_r v ms mb lt pl FU e z).2.2.2.2.2.2, upN (upN z.2.2.2.1 e 0) e 0, z.2.2.2.2))
  else (z.1, z.2.1, z.2.2.1, upN z.2.2.2.1 e 0, z.2.2.2.2)
def fm_all (v : Int32) (ms : Nat) (mb lt pl : Nat → Int32) (FU us : Nat) : Nat → Nat → FM → FM
  | 0, _, z => z
  | m + 1, e, z => fm_all v ms mb lt pl FU us m (e + 1) (fm_one v ms mb lt pl FU us e z)
def FMok (z : FM) : Prop := z.2.1.1 ≤ 1000 ∧ NSok z.2.2.1 ∧ ∀ j, z.2.2.2.1 j ≤ 1000
theorem upN_s {f : Nat → Nat} {k x : Nat} : upN f k x k = x := by unfold upN; rw [if_pos rfl]
theorem upN_le {f : Nat → Nat} {k x b : Nat} (hf : ∀ j, f j ≤ b) (hx : x ≤ b) : ∀ j, upN f k x j ≤ b := fun j => by
  unfold upN; split
  · exact hx
  · exact hf j
def fits (es : Nat → Nat) (et : Nat → Int32) (rs : Nat) (rf : Nat → Int32) (e a : Nat) : Int32 := if es e = 0 then 0 else if a + es e ≤ rs then (if (∀ q, q < es e → et (1000 * e + q) = rf (a + q)) then 1 else 0) else 0
/-- the numbers of a row one by one: (places, entries, steps, the four) -/
abbrev NX : Type := (Nat → Nat) × (Nat → Int32) × (Nat → Nat) × (Nat → Int32)
def nx_n (v : Int32) (lt rf : Nat → Int32) (w : Nat) (x : NX) : Nat × (Nat → Int32) := if 0 ≤ x.2.1 w then (2, x.2.2.2) else no v lt (rf (x.1 w)) x.2.2.2
def nx_v (v : Int32) (lt rf : Nat → Int32) (w : Nat) (x : NX) : Int32 := if 0 ≤ x.2.1 w then (if x.2.2.1 w = 0 then 1 + x.2.1 w / 32 else x.2.1 w - x.2.1 w / 32 * 32) else (nx_n v lt rf w x).2 (x.2.2.1 w)
def nx_p (es : Nat → Nat) (w : Nat) (x : NX) : Nat := x.1 w + (if 0 ≤ x.2.1 w then es (x.2.1 w).toNatClampNeg else 1)
def nx_s (v : Int32) (lt rf : Nat → Int32) (es : Nat → Nat) (rs : Nat) (b : Nat → Int32) (w : Nat) (x : NX) : NX :=
  if x.2.2.1 w + 1 = (nx_n v lt rf w x).1 then (upN x.1 w (nx_p es w x), upd x.2.1 w (if rs ≤ nx_p es w x then -1 else b (nx_p es w x)), upN (upN x.2.2.1 w (x.2.2.1 w + 1)) w 0, (nx_n v lt rf w x).2)
  else (x.1, x.2.1, upN x.2.2.1 w (x.2.2.1 w + 1), (nx_n v lt rf w x).2)
/-- answer, state -/
def nx (v : Int32) (lt rf : Nat → Int32) (es : Nat → Nat) (rs : Nat) (b : Nat → Int32) (w : Nat) (x : NX) : Int32 × NX := if x.1 w < rs then (nx_v v lt rf w x, nx_s v lt rf es rs b w x) else (-1, x)
theorem zus_le {v : Int32} : zus v ≤ 96 := by
  unfold zus
  repeat' split
  all_goals decide
