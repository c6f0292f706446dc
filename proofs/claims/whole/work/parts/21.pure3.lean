/-! The reference: what each method does, mirrored to its branches. -/
def mm_get (ms : Nat) (mb : Nat → Int32) (i : Int32) : Int32 := if i < 0 then -1 else if nI ms ≤ i then -1 else mb i.toNatClampNeg &&& 255
theorem mm_in {n cap : Nat} {i : Int32} (h0 : ¬ i < 0) (h1 : ¬ nI n ≤ i) (hn : n ≤ cap) (hc : cap < 2 ^ 31) : vp_in i cap := rw_in2 (n := n) (by rw [rw_has, if_neg h0, if_neg h1]; decide) hn hc
theorem mm_in' {n cap : Nat} {i : Int32} (h0 : ¬ i < 0) (h1 : i < nI n) (hn : n ≤ cap) (hc : cap < 2 ^ 31) : vp_in i cap := mm_in h0 (Int32.not_le.mpr h1) hn hc
theorem mm_inc {i M : Int32} {n : Nat} (hM : M.toInt = n) (h0 : ¬ i < 0) (h1 : i ≤ M) (hn : n < 2 ^ 30) : vp_in i (n + 1) := by
  obtain ⟨j, hj, rfl⟩ := nI_of2 hM h0 h1
  exact vp_in_nI (by omega) (by omega)
def mb_of (x : Int32) : Int32 := (Int32.toInt8 x).toInt32
def mf_byte (w : Int64) (k : Nat) : Int32 := mb_of (Int64.toInt32 (Int64.toUInt64 w >>> ((Int32.toInt64 (nI (8 * k))).toUInt64 &&& Int64.toUInt64 63)).toInt64)
def mf_all (w : Int64) : Nat → TT → TT
  | 0, t => t
  | k + 1, t => mf_all w k (t.1 + 1, upd t.2 t.1 (mf_byte w k))
def mf_ok (cap n : Int32) (ms : Nat) : Int32 := if n < 0 then -2 else if n ≤ 8 then (if nI ms + n ≤ cap then 0 else -4) else -2
def mf_t (w : Int64) (n : Int32) (t : TT) : TT := if mf_ok 3000 n t.1 = 0 then mf_all w n.toNatClampNeg t else t
def mf_r (w : Int64) (n : Int32) (t : TT) : Int32 := if mf_ok 3000 n t.1 = 0 then nI ((mf_all w n.toNatClampNeg t).1) else mf_ok 3000 n t.1
def my_byte (w : Int64) (k : Nat) : Int32 := Int64.toInt32 ((Int64.toUInt64 w >>> ((Int32.toInt64 (nI (8 * k))).toUInt64 &&& Int64.toUInt64 63)).toInt64 &&& 255)
def my_all (w : Int64) : Nat → TT → TT
  | 0, t => t
  | k + 1, t => my_all w k (t.1 + 1, upd t.2 t.1 (my_byte w k))
def my_t (w : Int64) (n : Int32) (t : TT) : TT := if mf_ok 1000 n t.1 = 0 then my_all w n.toNatClampNeg t else t
def my_r (w : Int64) (n : Int32) (t : TT) : Int32 := if mf_ok 1000 n t.1 = 0 then nI ((my_all w n.toNatClampNeg t).1) else mf_ok 1000 n t.1
theorem mf_room {ms n0 cap : Nat} {n : Int32} (en : n = nI n0) (hms : ms ≤ 3000) (hn : n0 ≤ 8) (hc : cap ≤ 3000) (h : nI ms + n ≤ nI cap) : ms + n0 ≤ cap := by
  rw [en, nI_add] at h
  exact (nI_leI (by omega) (by omega)).mp h
def mp_r (ms : Nat) (mb : Nat → Int32) (i b : Int32) : Int32 := if i < 0 then -1 else if i < nI ms then (if b < 0 then -2 else if b ≤ 255 then mb i.toNatClampNeg &&& 255 else -2) else -1
def mp_b (ms : Nat) (mb : Nat → Int32) (i b : Int32) : Nat → Int32 := if i < 0 then mb else if i < nI ms then (if b < 0 then mb else if b ≤ 255 then upd mb i.toNatClampNeg (mb_of b) else mb) else mb
def mk_r (ms : Nat) (n : Int32) : Int32 := if n < 0 then -2 else if n ≤ nI ms then nI ms else -2
def mk_n (ms : Nat) (n : Int32) : Nat := if n < 0 then ms else if n ≤ nI ms then n.toNatClampNeg else ms
theorem mk_eq {ms : Nat} {n : Int32} (h0 : ¬ n < 0) (h1 : n ≤ nI ms) : n = nI (mk_n ms n) := by
  rw [mk_n, if_neg h0, if_pos h1]
  exact nI_cl h0
def ms_r (t : TT) (c : Int32) : Int32 := if c < -1 then -2 else if c ≤ 1023 then (if 0 ≤ c then (if t.1 = 1000 then -4 else nI (t.1 + 1)) else 0) else -2
def ms_t (t : TT) (c : Int32) : TT := if c < -1 then t else if c ≤ 1023 then (if 0 ≤ c then (if t.1 = 1000 then t else (t.1 + 1, upd t.2 t.1 c)) else (0, t.2)) else t
def mt_get (rs : Nat) (rf : Nat → Int32) (i : Int32) : Int32 := if i < 0 then -1 else if nI rs ≤ i then -1 else rf i.toNatClampNeg
def ma_is (A N : Int32) : Bool := if A < 0 then false else if 2 < A then false else if N < 6 then false else if 31 < N then false else if A = 2 then (if 8 ≤ N then true else false) else true
def ma_r (v : Int32) (lt : Nat → Int32) (A N c : Int32) : Int32 := if 5 ≤ v then (if ma_is A N then (if c < 0 then -2 else if c ≤ 1023 then lt (32 * A + N).toNatClampNeg else -2) else -1) else -3
def ma_l (v : Int32) (lt : Nat → Int32) (A N c : Int32) : Nat → Int32 := if 5 ≤ v then (if ma_is A N then (if c < 0 then lt else if c ≤ 1023 then upd lt (32 * A + N).toNatClampNeg c else lt) else lt) else lt
theorem ma_in {A N : Int32} (h1 : ¬ A < 0) (h2 : ¬ 2 < A) (h3 : ¬ N < 6) (h4 : ¬ 31 < N) : vp_in (32 * A + N) 96 := by
  obtain ⟨i, hi, rfl⟩ := nI_of2 (M := 2) (n := 2) (by decide) h1 (Int32.not_lt.mp h2)
  obtain ⟨j, hj, rfl⟩ := nI_of2 (M := 31) (n := 31) (by decide) (fun q => h3 (Int32.lt_trans q (by decide))) (Int32.not_lt.mp h4)
  rw [show (32 : Int32) = nI 32 from rfl, pk_mul, nI_add]
  exact vp_in_nI (by omega) (by decide)
def me_r (pl : Nat → Int32) (i p : Int32) : Int32 := if i < 0 then -1 else if i ≤ 95 then (if p < -1 then -2 else if p ≤ 3000 then pl i.toNatClampNeg else -2) else -1
def me_p (pl : Nat → Int32) (i p : Int32) : Nat → Int32 := if i < 0 then pl else if i ≤ 95 then (if p < -1 then pl else if p ≤ 3000 then upd pl i.toNatClampNeg p else pl) else pl
/-- numbers one by one: (at, left, word, isLast) -/
abbrev NS : Type := (Nat → Int32) × (Nat → Int32) × (Nat → Int32) × (Nat → Int32)
def st_ (lv : Nat) (p : Int32) (n : NS) : NS := (upd n.1 lv p, upd n.2.1 lv 0, n.2.2.1, upd n.2.2.2 lv 0)
def nu_w (mb : Nat → Int32) (p : Nat) : Int32 := ((mb p &&& 255) <<< ((8 : Int32) &&& 31)) ||| (mb (p + 1) &&& 255)
def nu_fill (mb : Nat → Int32) (lv p : Nat) (n : NS) : NS := (upd n.1 lv (nI (p + 2)), upd n.2.1 lv 3, upd n.2.2.1 lv (nu_w mb p), upd n.2.2.2 lv (if nu_w mb p &&& 32768 = 0 then 0 else 1))
def nu_step (lv : Nat) (n : NS) : NS := (n.1, upd n.2.1 lv (n.2.1 lv - 1), n.2.2.1, n.2.2.2)
def nu_val (lv : Nat) (n : NS) : Int32 := (n.2.2.1 lv >>> ((5 * n.2.1 lv) &&& 31)) &&& 31
/-- answer, fault, state -/
def nu (ms : Nat) (mb : Nat → Int32) (lv p : Nat) (fa : Int32) (n : NS) : Int32 × Int32 × NS :=
  if n.2.1 lv = 0 then (if n.2.2.2 lv = 0 then (if p + 2 ≤ ms then (nu_val lv (nu_step lv (nu_fill mb lv p n)), fa, nu_step lv (nu_fill mb lv p n)) else (-1, 2, n)) else (-1, fa, n))
  else (nu_val lv (nu_step lv n), fa, nu_step lv n)
theorem upd_s {f : Nat → Int32} {i : Nat} {x : Int32} : upd f i x i = x := pk_us
theorem upd_uu {f : Nat → Int32} {i : Nat} {x y : Int32} : upd (upd f i x) i y = upd f i y := by
  funext j; unfold upd; split <;> rfl
/-- a sign told: fault, row of signs -/
def tl_s (x : Int32) (s : Int32 × TT) : Int32 × TT := if s.2.1 = 1000 then (4, s.2) else (s.1, (s.2.1 + 1, upd s.2.2 s.2.1 x))
/-! letters, numbers of a sign -/
def lo_in (lt : Nat → Int32) (c : Int32) (a : Nat) : Nat → Nat → Int32
  | 0, _ => -1
  | m + 1, n => if lt (32 * a + n) = c ∧ (a < 2 ∨ 6 < n) then nI (32 * a + n) else lo_in lt c a m (n + 1)
def lo_from (lt : Nat → Int32) (c : Int32) : Nat → Nat → Int32
  | 0, _ => -1
  | m + 1, a => if lo_in lt c a 26 6 = -1 then lo_from lt c m (a + 1) else lo_in lt c a 26 6
def mh_sh (v a : Int32) : Int32 := if 3 ≤ v then 3 + a else 1 + a
/-- how many, and the four -/
def no (v : Int32) (lt : Nat → Int32) (c : Int32) (f : Nat → Int32) : Nat × (Nat → Int32) :=
  if c = 32 then (1, upd f 0 0) else if c = 13 ∧ v = 1 then (1, upd f 0 1) else
  if lo_from lt c 3 0 < 0 then (4, upd (upd (upd (upd f 0 (mh_sh v 2)) 1 6) 2 (c / 32)) 3 (c - c / 32 * 32)) else
  if 32 ≤ lo_from lt c 3 0 then (2, upd (upd f 0 (mh_sh v (lo_from lt c 3 0 / 32))) 1 (lo_from lt c 3 0 - lo_from lt c 3 0 / 32 * 32)) else (1, upd f 0 (lo_from lt c 3 0))
def pu (x : Int32) (t : TT) : TT := (t.1 + 1, upd t.2 t.1 x)
def pu_all (f : Nat → Int32) : Nat → Nat → TT → TT
  | 0, _, t => t
  | m + 1, i, t => pu_all f m (i + 1) (pu (f i) t)
theorem lo_in_nn {lt : Nat → Int32} {c : Int32} {a : Nat} : ∀ (m n : Nat), lo_in lt c a m n = -1 ∨ ∃ j, n ≤ j ∧ j < n + m ∧ lo_in lt c a m n = nI (32 * a + j)
  | 0, _ => Or.inl rfl
  | m + 1, n => by
    unfold lo_in
    split
    · exact Or.inr ⟨n, Nat.le_refl _, by omega, rfl⟩
    · rcases lo_in_nn (lt := lt) (c := c) (a := a) m (n + 1) with h | ⟨j, h1, h2, h3⟩
      · exact Or.inl h
      · exact Or.inr ⟨j, by omega, by omega, h3⟩
theorem lo_from_nn {lt : Nat → Int32} {c : Int32} : ∀ (m a : Nat), lo_from lt c m a = -1 ∨ ∃ j, j < 32 * (a + m) ∧ lo_from lt c m a = nI j
  | 0, _ => Or.inl rfl
  | m + 1, a => by
    unfold lo_from
    split
    · rcases lo_from_nn (lt := lt) (c := c) m (a + 1) with h | ⟨j, h1, h2⟩
      · exact Or.inl h
      · exact Or.inr ⟨j, by omega, h2⟩
    · rename_i hne
      rcases lo_in_nn (lt := lt) (c := c) (a := a) 26 6 with h | ⟨j, h1, h2, h3⟩
      · exact absurd h hne
      · exact Or.inr ⟨32 * a + j, by omega, h3⟩
theorem nI_m1 {n : Nat} (h : n < 2 ^ 31) : ¬ nI n = -1 := fun q => nI_pos h (by rw [q]; decide)
theorem no_le {v : Int32} {lt : Nat → Int32} {c : Int32} {f : Nat → Int32} : (no v lt c f).1 ≤ 4 ∧ 1 ≤ (no v lt c f).1 := by
  unfold no
  repeat' split
  all_goals exact ⟨Nat.le_of_ble_eq_true rfl, Nat.le_of_ble_eq_true rfl⟩
