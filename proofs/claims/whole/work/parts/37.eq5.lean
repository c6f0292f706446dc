/-! Words of the dictionary side by side. -/
theorem dl_wl {v : Int32} (hv : VER v) : dl v = wl v := by
  obtain ⟨j, h1, h8, rfl⟩ := hv
  unfold dl wl
  by_cases h : 4 ≤ j
  · rw [if_pos (show (3 : Int32) < nI j from nI_lt (a := 3) h (by omega)), if_pos (show (4 : Int32) ≤ nI j from nI_le (a := 4) h (by omega))]
  · rw [if_neg (show ¬ (3 : Int32) < nI j from nI_nlt (a := 3) (b := j) (by omega) (by decide)), if_neg (show ¬ (4 : Int32) ≤ nI j from nI_ge (b := 4) (a := j) (by omega) (by decide))]
theorem SG.small {sm c : Int32} (h : SG c) : SG (wo_sg sm c) := by
  unfold wo_sg
  split
  · exact h
  · split
    · exact h
    · split
      · exact h
      · rename_i h1 h2 h3
        obtain ⟨q, hq, rfl⟩ := h
        have : q ≤ 90 := (nI_leI (a := q) (b := 90) (by omega) (by decide)).mp (Int32.not_lt.mp h3)
        rw [show (32 : Int32) = nI 32 from rfl, nI_add]
        exact ⟨q + 32, by omega, rfl⟩
theorem fill_eq {v : Int32} {g lt : Nat → Int32} {tr : TT} {rs : Nat} {rf : Nat → Int32} {sm : Int32} {f0 sz : Nat} (hv : VER v) (hl : LET g lt) (hr : ROW tr rs rf) (hsz : f0 + sz ≤ rs) : ∀ (m m' k : Nat) (t : TT) (s : TT × (Nat → Int32)), sz ≤ k + m → sz ≤ k + m' → TEQ t s.1 → VAL s.1 →
    TEQ (wo_fill v g tr sm (wl v) (f0 + sz) m (f0 + k) t) (wf_fill v lt rf sm f0 sz m' k s).1 ∧ VAL (wf_fill v lt rf sm f0 sz m' k s).1
  | 0, m', k, t, s, h1, h2, h, hval => by
    have e : wf_fill v lt rf sm f0 sz m' k s = s := by
      cases m' with
      | zero => rfl
      | succ m' => rw [wf_fill, if_neg (by omega)]
    rw [e]
    exact ⟨h, hval⟩
  | m + 1, m', k, t, s, h1, h2, h, hval => by
    by_cases hk : k < sz
    · obtain ⟨m', rfl⟩ : ∃ m2, m' = m2 + 1 := ⟨m' - 1, by omega⟩
      rw [wo_fill, wf_fill, if_pos hk, if_pos (by omega)]
      have ht := h.1
      have hw := wl_le (v := v)
      by_cases hn : s.1.1 < wl v
      · have hg := hr.get (j := f0 + k) (by omega)
        have hs : SG (wo_sg sm (rf (f0 + k))) := (hr.2.2.2 _ (by omega)).small
        have hlen := nl_len (v := v) (lt := lt) (c := wo_sg sm (rf (f0 + k)))
        rw [if_pos hn, if_pos (by omega), hg, sp_nl hv hl hs.nn, ra_ps _ _ (by omega), Nat.add_assoc]
        refine fill_eq hv hl hr hsz m m' (k + 1) _ _ (by omega) (by omega) ?_ ?_
        · rw [mp_one_nl]; exact TEQ.ps _ h
        · rw [mp_one_nl]; exact VAL.ps _ (nl_val hl hs) hval
      · rw [if_neg hn, if_neg (by omega)]
        exact ⟨h, hval⟩
    · have e : wf_fill v lt rf sm f0 sz m' k s = s := by
        cases m' with
        | zero => rfl
        | succ m' => rw [wf_fill, if_neg hk]
      rw [e, wo_fill, if_neg (by omega)]
      exact ⟨h, hval⟩
theorem wof_eq {v : Int32} {g lt : Nat → Int32} {tr : TT} {rs : Nat} {rf : Nat → Int32} {sm : Int32} {f0 sz i1 : Nat} {t : TT} {s : TT × (Nat → Int32)} (hv : VER v) (hl : LET g lt) (hr : ROW tr rs rf) (hi : i1 = f0 + sz) (hsz : f0 + sz ≤ rs) (ht : t.1 ≤ 12) : TEQ (wo_f v g tr sm (wl v) f0 i1 t) (wf_s v lt rf sm f0 sz s).1 ∧ VAL (wf_s v lt rf sm f0 sz s).1 := by
  subst hi
  have hrs := hr.2.1
  rw [wo_f, wf_s, rw_c0_1 (by omega)]
  exact fill_eq hv hl hr hsz 1000 sz 0 (0, t.2) ((0, s.1.2), s.2) (by omega) (by omega) TEQ.zero VAL.zero
def dg (t : TT) (j : Nat) : Nat := if j < t.1 then (t.2 j).toNatClampNeg else 5
theorem dg_lt {t : TT} (h : VAL t) (j : Nat) : dg t j < 32 := by
  unfold dg
  split
  · rename_i hj
    obtain ⟨q, hq, e⟩ := h j hj
    rw [e, nI_clamp (by omega)]; exact hq
  · decide
theorem dg_eq {t : TT} (h : VAL t) (j : Nat) : (if j < t.1 then t.2 j else 5) = nI (dg t j) := by
  unfold dg
  split
  · rename_i hj
    obtain ⟨q, hq, e⟩ := h j hj
    rw [e, nI_clamp (by omega)]
  · rfl
theorem dg_teq {a b : TT} (h : TEQ a b) (j : Nat) : dg a j = dg b j := by
  unfold dg
  rw [← h.1]
  split
  · rename_i hj; rw [h.2 j hj]
  · rfl
theorem VAL.teq {a b : TT} (h : TEQ a b) (hb : VAL b) : VAL a := fun j hj => by
  rw [h.2 j hj]; exact hb j (by rw [← h.1]; exact hj)
def cpk (d : Nat → Nat) : Nat → Nat → Nat → Nat
  | 0, _, w => w
  | m + 1, j, w => cpk d m (j + 1) (w * 32 + d j)
def mpk (d : Nat → Nat) (wl : Nat) : Nat → Nat → Nat → Nat
  | 0, _, w => w
  | m + 1, j, w => mpk d wl m (j + 1) ((if j % 3 = 0 then w * 2 + (if j + 3 = wl then 1 else 0) else w) * 32 + d j)
theorem lN5 {w d : Nat} (hd : d < 32) (hw : w * 32 + d < 2 ^ 64) : (lN w <<< (Int32.toInt64 5 &&& 63)) ||| Int32.toInt64 (nI d) = lN (w * 32 + d) := by
  rw [show Int32.toInt64 5 &&& 63 = (nI 5).toInt64 &&& 63 from rfl, wb_shl w (k := 5) (by decide), nI_l (by omega), show (2 : Nat) ^ 5 = 32 from rfl, g_or (k := 5) (p := 32) rfl hd hw]
theorem lN1 {w d : Nat} (hd : d < 2) (hw : w * 2 + d < 2 ^ 64) : (lN w <<< (Int32.toInt64 1 &&& 63)) ||| lN d = lN (w * 2 + d) := by
  rw [show Int32.toInt64 1 &&& 63 = (nI 1).toInt64 &&& 63 from rfl, wb_shl w (k := 1) (by decide), show (2 : Nat) ^ 1 = 2 from rfl, g_or (k := 1) (p := 2) rfl hd hw]
theorem wo_num_eq {t : TT} (ht : t.1 ≤ 12) (h : VAL t) : ∀ (m j w : Nat), j + m ≤ 9 → w < 2 ^ (5 * j) → wo_num t m j (lN w) = lN (cpk (dg t) m j w)
  | 0, _, _, _, _ => rfl
  | m + 1, j, w, hj, hw => by
    have hp : 2 ^ (5 * (j + 1)) = 2 ^ (5 * j) * 32 := by rw [show 5 * (j + 1) = 5 * j + 5 by omega, Nat.pow_add]
    have hd := dg_lt h j
    have hb : 2 ^ (5 * (j + 1)) ≤ 2 ^ 45 := Nat.pow_le_pow_right (by decide) (by omega)
    have e : (if rw_has t.1 (nI j) = 0 then 5 else rw_get t.1 t.2 (nI j)) = nI (dg t j) := by
      rw [← dg_eq h j, rw_has_nI (by omega) (by omega), rw_get_nI (by omega) (by omega)]
      by_cases q : j < t.1
      · rw [if_pos q, if_pos q, if_pos q, if_neg (by decide)]
      · rw [if_neg q, if_neg q, if_pos rfl, if_neg q]
    have hlt : w * 32 + dg t j < 2 ^ (5 * (j + 1)) := by rw [hp]; omega
    rw [wo_num, e, lN5 hd (by omega), cpk]
    exact wo_num_eq ht h m (j + 1) _ (by omega) hlt
theorem wf_num_eq {t : TT} {wl : Nat} (ht : t.1 ≤ 12) (h : VAL t) : ∀ (m j w : Nat), j + m ≤ 9 → w < 2 ^ (6 * j) → wf_num t wl m j (lN w) = lN (mpk (dg t) wl m j w)
  | 0, _, _, _, _ => rfl
  | m + 1, j, w, hj, hw => by
    have hp : 2 ^ (6 * (j + 1)) = 2 ^ (6 * j) * 64 := by rw [show 6 * (j + 1) = 6 * j + 6 by omega, Nat.pow_add]
    have hd := dg_lt h j
    have hb : 2 ^ (6 * (j + 1)) ≤ 2 ^ 54 := Nat.pow_le_pow_right (by decide) (by omega)
    have e := dg_eq h j
    rw [wf_num, wf_one, e, mpk]
    by_cases h3 : j % 3 = 0
    · rw [if_pos h3, if_pos h3]
      have e1 : (if j + 3 = wl then (1 : Int64) else 0) = lN (if j + 3 = wl then 1 else 0) := by split <;> rfl
      have hx : (if j + 3 = wl then 1 else 0) < 2 := by split <;> decide
      rw [e1, lN1 hx (by omega), lN5 hd (by omega)]
      exact wf_num_eq ht h m (j + 1) _ (by omega) (by rw [hp]; omega)
    · rw [if_neg h3, if_neg h3, lN5 hd (by omega)]
      exact wf_num_eq ht h m (j + 1) _ (by omega) (by rw [hp]; omega)
/-- the reference's word out of the class's -/
def ME (ln c : Nat) : Nat := if ln = 6 then c / 32768 * 65536 + 32768 + c % 32768 else c / 1073741824 * 4294967296 + c / 32768 % 32768 * 65536 + 32768 + c % 32768
theorem pk_ME {d : Nat → Nat} (hd : ∀ j, d j < 32) {ln : Nat} (hl : ln = 6 ∨ ln = 9) : cpk d ln 0 0 < 2 ^ (5 * ln) ∧ mpk d ln ln 0 0 = ME ln (cpk d ln 0 0) := by
  have d0 := hd 0
  have d1 := hd 1
  have d2 := hd 2
  have d3 := hd 3
  have d4 := hd 4
  have d5 := hd 5
  have d6 := hd 6
  have d7 := hd 7
  have d8 := hd 8
  rcases hl with rfl | rfl
  · simp [cpk, mpk, ME]
    omega
  · simp [cpk, mpk, ME]
    omega
def WR (ln : Nat) (x y : Int64) : Prop := ∃ c, c < 2 ^ (5 * ln) ∧ x = lN c ∧ y = lN (ME ln c)
theorem WR.inj {ln : Nat} (hl : ln = 6 ∨ ln = 9) {x y x' y' : Int64} (h : WR ln x y) (h' : WR ln x' y') : x = x' ↔ y = y' := by
  obtain ⟨c, hc, rfl, rfl⟩ := h
  obtain ⟨c', hc', rfl, rfl⟩ := h'
  have b : 2 ^ (5 * ln) ≤ 2 ^ 45 := Nat.pow_le_pow_right (by decide) (by omega)
  have m1 : ∀ z, z < 2 ^ (5 * ln) → ME ln z < 2 ^ 63 := by
    intro z hz
    unfold ME
    split <;> omega
  rw [pk_lEQ (by omega) (by omega), pk_lEQ (m1 c hc) (m1 c' hc')]
  constructor
  · intro e; rw [e]
  · intro e
    unfold ME at e
    rcases hl with rfl | rfl
    · simp at e; omega
    · simp at e
      have b2 : (2 : Nat) ^ (5 * 9) = 35184372088832 := by decide
      omega
theorem word_eq {v : Int32} {g lt : Nat → Int32} {tr : TT} {rs : Nat} {rf : Nat → Int32} {sm : Int32} {f0 sz i1 : Nat} {t : TT} {s : TT × (Nat → Int32)} (hv : VER v) (hl : LET g lt) (hr : ROW tr rs rf) (hi : i1 = f0 + sz) (hsz : f0 + sz ≤ rs) (ht : t.1 ≤ 12) : WR (wl v) (wo_w v g tr sm (wl v) f0 i1 t) (wf_w v lt rf sm f0 sz s) := by
  obtain ⟨h1, h2⟩ := wof_eq (sm := sm) (t := t) (s := s) hv hl hr hi hsz ht
  have h12 : (wo_f v g tr sm (wl v) f0 i1 t).1 ≤ 12 := wo_f_le ht
  have hw9 := (wl_le (v := v)).1
  have hv1 := VAL.teq h1 h2
  have hln : wl v = 6 ∨ wl v = 9 := by unfold wl; split <;> simp
  have e1 := wo_num_eq h12 hv1 (wl v) 0 0 (by omega) (by decide)
  have e2 := wf_num_eq (wl := wl v) (by rw [← h1.1]; exact h12) h2 (wl v) 0 0 (by omega) (by decide)
  have ed : dg (wo_f v g tr sm (wl v) f0 i1 t) = dg (wf_s v lt rf sm f0 sz s).1 := funext (dg_teq h1)
  obtain ⟨p1, p2⟩ := pk_ME (dg_lt h2) hln
  refine ⟨_, p1, ?_, ?_⟩
  · rw [wo_w, ← ed]; exact e1
  · rw [wf_w, ← p2]; exact e2
def DIC (ln cn : Nat) (ws wo : Nat → Int64) : Prop := cn ≤ 40 ∧ ∀ j, j < cn → WR ln (ws j) (wo j)
theorem find_eq {ln : Nat} (hl : ln = 6 ∨ ln = 9) {ws wo : Nat → Int64} {x y : Int64} (h : WR ln x y) : ∀ (m k : Nat), (∀ j, k ≤ j → j < k + m → WR ln (ws j) (wo j)) → di_from ws x m k = di_from wo y m k
  | 0, _, _ => rfl
  | m + 1, k, hd => by
    rw [di_from, di_from]
    have e := WR.inj hl (hd k (Nat.le_refl _) (by omega)) h
    by_cases q : ws k = x
    · rw [if_pos q, if_pos (e.mp q)]
    · rw [if_neg q, if_neg (fun z => q (e.mpr z))]
      exact find_eq hl h m (k + 1) (fun j j1 j2 => hd j (by omega) (by omega))
theorem number_eq {ln : Nat} (hl : ln = 6 ∨ ln = 9) {cn : Nat} {ws wo : Nat → Int64} {x y : Int64} (hd : DIC ln cn ws wo) (h : WR ln x y) : di_num ws x cn = mw_r wo y cn ∧ di_cn ws x cn = mw_wn wo y cn ∧ DIC ln (mw_wn wo y cn) (di_ws ws x cn) (mw_wo wo y cn) := by
  have e := find_eq hl h cn 0 (fun j _ j2 => hd.2 j (by omega))
  have h40 := hd.1
  unfold di_num mw_r di_cn mw_wn di_ws mw_wo
  rw [e]
  by_cases q : di_from wo y cn 0 < 0
  · simp only [if_pos q]
    by_cases c : cn < 40
    · have c' : ¬ cn = 40 := by omega
      simp only [if_pos c, if_neg c']
      refine ⟨trivial, trivial, by omega, fun j hj => ?_⟩
      by_cases z : j = cn
      · rw [z, pk_uLs, pk_uLs]; exact h
      · rw [pk_uLn z, pk_uLn z]; exact hd.2 j (by omega)
    · have c' : cn = 40 := by omega
      simp only [if_neg c, if_pos c']; exact ⟨trivial, trivial, hd⟩
  · simp only [if_neg q]; exact ⟨trivial, trivial, hd⟩
