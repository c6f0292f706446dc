/-! The reference: rows of numbers, words, parting. -/
def mp_one (v : Int32) (lt : Nat → Int32) (c : Int32) (s : TT × (Nat → Int32)) : TT × (Nat → Int32) := (pu_all (no v lt c s.2).2 (no v lt c s.2).1 0 s.1, (no v lt c s.2).2)
def mp_all (v : Int32) (lt rf : Nat → Int32) : Nat → Nat → TT × (Nat → Int32) → TT × (Nat → Int32)
  | 0, _, s => s
  | m + 1, k, s => mp_all v lt rf m (k + 1) (mp_one v lt (rf k) s)
def wl (v : Int32) : Nat := if 4 ≤ v then 9 else 6
theorem wl_le {v : Int32} : wl v ≤ 9 ∧ 6 ≤ wl v := by
  unfold wl; split <;> exact ⟨by decide, by decide⟩
def wf_fill (v : Int32) (lt rf : Nat → Int32) (sm : Int32) (f0 sz : Nat) : Nat → Nat → TT × (Nat → Int32) → TT × (Nat → Int32)
  | 0, _, s => s
  | m + 1, k, s => if k < sz then (if s.1.1 < wl v then wf_fill v lt rf sm f0 sz m (k + 1) (mp_one v lt (wo_sg sm (rf (f0 + k))) s) else s) else s
def wf_s (v : Int32) (lt rf : Nat → Int32) (sm : Int32) (f0 sz : Nat) (s : TT × (Nat → Int32)) : TT × (Nat → Int32) := wf_fill v lt rf sm f0 sz sz 0 ((0, s.1.2), s.2)
def wf_one (t : TT) (wl j : Nat) (w : Int64) : Int64 := ((if j % 3 = 0 then (w <<< (Int32.toInt64 1 &&& 63)) ||| (if j + 3 = wl then 1 else 0) else w) <<< (Int32.toInt64 5 &&& 63)) ||| Int32.toInt64 (if j < t.1 then t.2 j else 5)
def wf_num (t : TT) (wl : Nat) : Nat → Nat → Int64 → Int64
  | 0, _, w => w
  | m + 1, j, w => wf_num t wl m (j + 1) (wf_one t wl j w)
def wf_w (v : Int32) (lt rf : Nat → Int32) (sm : Int32) (f0 sz : Nat) (s : TT × (Nat → Int32)) : Int64 := wf_num (wf_s v lt rf sm f0 sz s).1 (wl v) (wl v) 0 0
def mw_r (wo : Nat → Int64) (w : Int64) (wn : Nat) : Int32 := if di_from wo w wn 0 < 0 then (if wn = 40 then -4 else nI wn) else di_from wo w wn 0
def mw_wo (wo : Nat → Int64) (w : Int64) (wn : Nat) : Nat → Int64 := if di_from wo w wn 0 < 0 then (if wn = 40 then wo else vp_updL wo wn w) else wo
def mw_wn (wo : Nat → Int64) (w : Int64) (wn : Nat) : Nat := if di_from wo w wn 0 < 0 then (if wn = 40 then wn else wn + 1) else wn
def mwb (v : Int32) (wo : Nat → Int64) (wn : Nat) (k i : Int32) : Int32 := if k < 0 then -1 else if nI wn ≤ k then -1 else if i < 0 then -1 else if nI (wl v / 3 * 2) ≤ i then -1 else
  Int64.toInt32 ((Int64.toUInt64 (wo k.toNatClampNeg) >>> ((Int32.toInt64 (8 * (nI (wl v / 3 * 2) - 1 - i))).toUInt64 &&& Int64.toUInt64 63)).toInt64 &&& 255)
def msep_r (s : Nat → Int32) (c : Int32) : Int32 := if c < 0 then -2 else if 1023 < c then -2 else if c = 32 then -2 else if s c.toNatClampNeg = 0 then 0 else 1
def msep_s (s : Nat → Int32) (c b : Int32) : Nat → Int32 := if c < 0 then s else if 1023 < c then s else if c = 32 then s else upd s c.toNatClampNeg (vp_nar .boolean b)
abbrev TK : Type := Nat × (Nat → Int32) × (Nat → Int32) × (Nat → Int32)
def mtok (z : TK) (k w : Int32) : Int32 := if k < 0 then -1 else if k < nI z.1 then (if w = 0 then z.2.1 k.toNatClampNeg else if w = 1 then z.2.2.1 k.toNatClampNeg else if w = 2 then z.2.2.2 k.toNatClampNeg else -2) else -1
/-- where a word ends that goes on at k -/
def pw_end (rf s : Nat → Int32) (rs a : Nat) : Nat → Nat → Nat
  | 0, k => k
  | m + 1, k => if s (rf a).toNatClampNeg = 0 then (if k < rs then (if rf k = 32 then k else if s (rf k).toNatClampNeg = 0 then pw_end rf s rs a m (k + 1) else k) else k) else k
abbrev PS : Type := TK × TT × (Nat → Int32)
def pm_tok (v : Int32) (lt rf : Nat → Int32) (wo : Nat → Int64) (wn a k : Nat) (z : PS) : PS :=
  ((z.1.1 + 1, upd z.1.2.1 z.1.1 (nI a), upd z.1.2.2.1 z.1.1 (nI k - nI a), upd z.1.2.2.2 z.1.1 (di_from wo (wf_w v lt rf 1 a (k - a) z.2) wn 0)), wf_s v lt rf 1 a (k - a) z.2)
def pm_all (v : Int32) (lt rf s : Nat → Int32) (wo : Nat → Int64) (wn rs : Nat) : Nat → Nat → PS → PS
  | 0, _, z => z
  | m + 1, k, z => if k < rs then (if rf k = 32 then pm_all v lt rf s wo wn rs m (k + 1) z else pm_all v lt rf s wo wn rs m (pw_end rf s rs k rs (k + 1)) (pm_tok v lt rf wo wn k (pw_end rf s rs k rs (k + 1)) z)) else z
theorem pu_all_1 {f : Nat → Int32} : ∀ (m i : Nat) (t : TT), (pu_all f m i t).1 = t.1 + m
  | 0, _, _ => rfl
  | m + 1, i, t => by
    rw [pu_all, pu_all_1 m]
    show t.1 + 1 + m = _
    omega
theorem mp_one_1 {v : Int32} {lt : Nat → Int32} {c : Int32} {s : TT × (Nat → Int32)} : (mp_one v lt c s).1.1 = s.1.1 + (no v lt c s.2).1 := pu_all_1 _ _ _
theorem wf_fill_le {v : Int32} {lt rf : Nat → Int32} {sm : Int32} {f0 sz : Nat} : ∀ (m k : Nat) (s : TT × (Nat → Int32)), s.1.1 ≤ 12 → (wf_fill v lt rf sm f0 sz m k s).1.1 ≤ 12
  | 0, _, _, h => h
  | m + 1, k, s, h => by
    unfold wf_fill
    split
    · split
      · rename_i h2
        refine wf_fill_le m _ _ ?_
        rw [mp_one_1]
        have h3 := (no_le (v := v) (lt := lt) (c := wo_sg sm (rf (f0 + k))) (f := s.2)).1
        have h4 := (wl_le (v := v)).1
        omega
      · exact h
    · exact h
theorem pw_end_in {rf s : Nat → Int32} {rs a : Nat} : ∀ (m k : Nat), k ≤ rs → k ≤ pw_end rf s rs a m k ∧ pw_end rf s rs a m k ≤ rs
  | 0, k, h => ⟨Nat.le_refl _, h⟩
  | m + 1, k, h => by
    unfold pw_end
    split
    · split
      · split
        · exact ⟨Nat.le_refl _, h⟩
        · split
          · have := pw_end_in (rf := rf) (s := s) (rs := rs) (a := a) m (k + 1) (by omega)
            omega
          · exact ⟨Nat.le_refl _, h⟩
      · exact ⟨Nat.le_refl _, h⟩
    · exact ⟨Nat.le_refl _, h⟩
