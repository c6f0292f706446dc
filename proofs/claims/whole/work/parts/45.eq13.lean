/-! The entries that stand in the row, side by side. -/
def BIT (st : Nat → Int32) (i e : Nat) : Bool := bt (st (3 * i + e / 32)) (e % 32)
theorem bt_and1 (y : Int32) : y &&& 1 = 0 ↔ bt y 0 = false := by
  rw [pk_and y 1 (m := 1) (by decide)]
  have h : bt y 0 = decide (y.toBitVec.toNat % 2 = 1) := by
    unfold bt
    rw [← BitVec.testBit_toNat, Nat.testBit_zero]
  rw [h]
  have hm : y.toBitVec.toNat % 2 ^ 1 = 0 ∨ y.toBitVec.toNat % 2 ^ 1 = 1 := by omega
  rcases hm with q | q
  · rw [q, decide_eq_false (by omega)]; exact ⟨fun _ => rfl, fun _ => rfl⟩
  · rw [q, decide_eq_true (by omega)]; exact ⟨fun z => absurd z (by decide), fun z => absurd z (by decide)⟩
theorem ce_BIT {st : Nat → Int32} {i e : Nat} : ce_bit st i e = 0 ↔ BIT st i e = false := by
  have hm : e % 32 < 32 := Nat.mod_lt _ (by decide)
  rw [ce_bit, bt_and1, b_sshr (e % 32) hm _ (by decide), Nat.add_zero, if_pos hm]
  rfl
theorem bt_1 : ∀ k, k < 32 → bt 1 k = decide (k = 0) := by decide +kernel
theorem mk_bt {e i : Nat} (hi : i < 32) : bt (mk_bit e) i = decide (i = e % 32) := by
  have hm : e % 32 < 32 := Nat.mod_lt _ (by decide)
  rw [mk_bit, b_shl (e % 32) hm 1 hi]
  by_cases h : e % 32 ≤ i
  · rw [bt_1 _ (by omega), decide_eq_true h, Bool.true_and]
    by_cases q : i = e % 32
    · rw [decide_eq_true q, decide_eq_true (by omega)]
    · rw [decide_eq_false q, decide_eq_false (by omega)]
  · rw [decide_eq_false h, Bool.false_and, decide_eq_false (by omega)]
theorem mk_one_BIT {tr t : TT} {e0 i0 : Nat} {st : Nat → Int32} {i e : Nat} (he0 : e0 < 96) (he : e < 96) : BIT (mk_one tr t e0 i0 st) i e = (BIT st i e || (decide (i = i0 ∧ e = e0) && decide (¬ rw_shows tr.1 tr.2 t.1 t.2 (nI i0) = 0))) := by
  unfold mk_one
  by_cases h : rw_shows tr.1 tr.2 t.1 t.2 (nI i0) = 0
  · rw [if_pos h, decide_eq_false (p := ¬ rw_shows tr.1 tr.2 t.1 t.2 (nI i0) = 0) (fun z => z h), Bool.and_false, Bool.or_false]
  · rw [if_neg h, decide_eq_true h, Bool.and_true]
    unfold BIT
    by_cases q : 3 * i + e / 32 = 3 * i0 + e0 / 32
    · rw [q, upd_s, b_or, mk_bt (Nat.mod_lt _ (by decide))]
      congr 1
      by_cases z : e % 32 = e0 % 32
      · rw [decide_eq_true z, decide_eq_true (by omega)]
      · rw [decide_eq_false z, decide_eq_false (fun y => z (by rw [y.2]))]
    · rw [upd_n q, decide_eq_false (fun y => q (by rw [y.1, y.2])), Bool.or_false]
theorem mk_all_BIT {tr t : TT} {e0 : Nat} (he0 : e0 < 96) {i e : Nat} (he : e < 96) : ∀ (m i0 : Nat) (st : Nat → Int32), BIT (mk_all tr t e0 m i0 st) i e = (BIT st i e || decide (e = e0 ∧ i0 ≤ i ∧ i < i0 + m ∧ ¬ rw_shows tr.1 tr.2 t.1 t.2 (nI i) = 0))
  | 0, i0, st => by rw [mk_all, decide_eq_false (by omega), Bool.or_false]
  | m + 1, i0, st => by
    rw [mk_all, mk_all_BIT he0 he m (i0 + 1), mk_one_BIT he0 he, Bool.or_assoc]
    congr 1
    by_cases h1 : e = e0
    · by_cases h2 : i = i0
      · subst h2
        rw [decide_eq_true ⟨rfl, h1⟩, Bool.true_and, decide_eq_false (p := e = e0 ∧ i + 1 ≤ i ∧ _) (by omega), Bool.or_false]
        by_cases h3 : rw_shows tr.1 tr.2 t.1 t.2 (nI i) = 0
        · rw [decide_eq_false (fun z => z h3), decide_eq_false (fun z => z.2.2.2 h3)]
        · rw [decide_eq_true h3, decide_eq_true ⟨h1, Nat.le_refl _, by omega, h3⟩]
      · rw [decide_eq_false (p := i = i0 ∧ e = e0) (fun z => h2 z.1), Bool.false_and, Bool.false_or]
        by_cases h3 : rw_shows tr.1 tr.2 t.1 t.2 (nI i) = 0
        · rw [decide_eq_false (fun z => z.2.2.2 h3), decide_eq_false (fun z => z.2.2.2 h3)]
        · by_cases h4 : i0 + 1 ≤ i ∧ i < i0 + 1 + m
          · rw [decide_eq_true ⟨h1, h4.1, h4.2, h3⟩, decide_eq_true ⟨h1, by omega, by omega, h3⟩]
          · rw [decide_eq_false (fun z => h4 ⟨z.2.1, z.2.2.1⟩), decide_eq_false (fun z => h4 ⟨by omega, by omega⟩)]
    · rw [decide_eq_false (p := i = i0 ∧ e = e0) (fun z => h1 z.2), Bool.false_and, Bool.false_or, decide_eq_false (fun z => h1 z.1), decide_eq_false (fun z => h1 z.1)]
theorem shows_iff {tr t t' : TT} {rs : Nat} {rf : Nat → Int32} (hr : ROW tr rs rf) (ht : TEQ t t') (h1 : t.1 ≤ 1000) {i : Nat} (hi : i < rs) : (¬ rw_shows tr.1 tr.2 t.1 t.2 (nI i) = 0) ↔ (i + t'.1 ≤ rs ∧ ∀ q, q < t'.1 → t'.2 q = rf (i + q)) := by
  obtain ⟨r1, r2, r3, r4⟩ := hr
  obtain ⟨e1, e2⟩ := ht
  unfold rw_shows
  rw [if_neg (nI_pos (by omega))]
  by_cases h : i + t'.1 ≤ rs
  · have hlt : ¬ nI tr.1 - nI t.1 < nI i := by
      rw [pk_sub (by omega)]; exact nI_nlt (by omega) (by omega)
    rw [if_neg hlt, nI_clamp (by omega)]
    by_cases ha : ∀ q, q < t.1 → tr.2 (i + q) = t.2 q
    · rw [if_pos ha]
      refine ⟨fun _ => ⟨h, fun q hq => ?_⟩, fun _ => by decide⟩
      rw [← e2 q (by omega), ← ha q (by omega)]
      exact r3 _ (by omega)
    · rw [if_neg ha]
      refine ⟨fun z => absurd rfl z, fun z => absurd (fun q hq => ?_) ha⟩
      rw [r3 _ (by omega), e2 q hq]
      exact (z.2 q (by omega)).symm
  · have hlt : nI tr.1 - nI t.1 < nI i := by
      rcases Nat.lt_or_ge tr.1 t.1 with q | q
      · exact Int32.lt_of_lt_of_le (pk_sneg (by omega) q) (nI_pos' (by omega))
      · rw [pk_sub q]; exact nI_lt (by omega) (by omega)
    rw [if_pos hlt]
    exact ⟨fun z => absurd rfl z, fun z => absurd z.1 h⟩
/-- what both know of the entries before e -/
def RELE (rs : Nat) (rf : Nat → Int32) (e : Nat) (z : FE) (y : FM) : Prop := z.2.1.1 ≤ 1000 ∧ (∀ j, j < e → y.2.2.2.1 j ≤ 1000 ∧ (y.2.2.2.1 j ≠ 0 → z.2.2.1 j = y.2.2.2.1 j) ∧ ∀ i, i < rs → (BIT z.2.2.2 i j = true ↔ ¬ fits y.2.2.2.1 y.2.2.2.2 rs rf j i = 0)) ∧ ∀ j, e ≤ j → j < 96 → ∀ i, i < rs → BIT z.2.2.2 i j = false
theorem fits_same {es es' : Nat → Nat} {et et' : Nat → Int32} {rs : Nat} {rf : Nat → Int32} {j i : Nat} (h1 : es' j = es j) (h2 : ∀ q, q < es j → et' (1000 * j + q) = et (1000 * j + q)) : fits es' et' rs rf j i = fits es et rs rf j i := by
  unfold fits
  rw [h1]
  by_cases a : es j = 0
  · rw [if_pos a, if_pos a]
  · rw [if_neg a, if_neg a]
    by_cases b : i + es j ≤ rs
    · rw [if_pos b, if_pos b]
      by_cases c : ∀ q, q < es j → et (1000 * j + q) = rf (i + q)
      · rw [if_pos c, if_pos (fun q hq => by rw [h2 q hq]; exact c q hq)]
      · rw [if_neg c, if_neg (fun d => c (fun q hq => by rw [← h2 q hq]; exact d q hq))]
    · rw [if_neg b, if_neg b]
theorem fits_0 {es : Nat → Nat} {et : Nat → Int32} {rs : Nat} {rf : Nat → Int32} {j i : Nat} (h : es j = 0) : fits es et rs rf j i = 0 := by rw [fits, if_pos h]
/-- an entry of no text -/
theorem RELE.none {rs : Nat} {rf : Nat → Int32} {e : Nat} {z z' : FE} {y : FM} {fa : Int32} {t : TT} {n : NS} {es : Nat → Nat} {et : Nat → Int32} (h : RELE rs rf e z y) (he : e < 96) (hz1 : z'.2.1.1 ≤ 1000) (hz2 : z'.2.2.1 = z.2.2.1) (hz3 : z'.2.2.2 = z.2.2.2) (hes0 : es e = 0) (hes : ∀ j, j < e → es j = y.2.2.2.1 j) (het : ∀ j q, j < e → q < 1000 → et (1000 * j + q) = y.2.2.2.2 (1000 * j + q)) : RELE rs rf (e + 1) z' (fa, t, n, es, et) := by
  obtain ⟨h1, h2, h3⟩ := h
  refine ⟨hz1, fun j hj => ?_, fun j j1 j2 i hi => ?_⟩
  · rw [hz2, hz3]
    by_cases q : j = e
    · subst q
      refine ⟨by show es j ≤ 1000; omega, fun z => absurd hes0 z, fun i hi => ?_⟩
      rw [fits_0 (es := es) hes0, h3 j (Nat.le_refl _) he i hi]
      exact ⟨fun z => absurd z (by decide), fun z => absurd rfl z⟩
    · obtain ⟨a1, a2, a3⟩ := h2 j (by omega)
      have ee := hes j (by omega)
      refine ⟨by show es j ≤ 1000; rw [ee]; exact a1, fun w => ?_, fun i hi => ?_⟩
      · show z.2.2.1 j = es j
        rw [ee]; exact a2 (by rw [← ee]; exact w)
      · rw [a3 i hi]
        have : fits es et rs rf j i = fits y.2.2.2.1 y.2.2.2.2 rs rf j i := fits_same ee (fun q hq => het j q (by omega) (by omega))
        show _ ↔ ¬ fits es et rs rf j i = 0
        rw [this]
  · rw [hz3]; exact h3 j (by omega) j2 i hi
theorem fe_fm_one {v : Int32} {lt pl g : Nat → Int32} {tm s tE tr : TT} {rs : Nat} {rf : Nat → Int32} {FU us e : Nat} {z : FE} {y : FM} (hv : VER v) (hl : LET g lt) (hm : MEM tm s) (hE : ENT tE pl) (hr : ROW tr rs rf) (hFU : 82000000 < FU) (hu : e < us) (hus : us ≤ 96) (h : RELE rs rf e z y) : RELE rs rf (e + 1) (fe_one v g tm tE tr e z) (fm_one v s.1 s.2 lt pl FU us e y) := by
  have eg := hE.get (j := e) (by omega)
  have h1 := h.1
  have up0 : ∀ j, j < e → upN y.2.2.2.1 e 0 j = y.2.2.2.1 j := fun j hj => upN_n (by omega)
  unfold fe_one fm_one
  rw [eg, if_neg (show ¬ us ≤ e by omega)]
  by_cases hp : 0 ≤ pl e
  · rw [if_neg (Int32.not_lt.mpr hp), if_pos hp]
    obtain ⟨P, hP, eP⟩ := nI_of2 (M := 3000) (n := 3000) (by decide) (Int32.not_lt.mpr hp) (hE.2 e (by omega)).2
    have eR : fe_t v g tm tE e z = tf1 v g tm tm.1 P (rd_0, (0, z.2.1.2)) := by rw [fe_t, eg, eP, nI_clamp (by omega), rw_c0_1 (by omega)]
    have eM : fm_r v s.1 s.2 lt pl FU e y = tm_all v s.1 s.2 lt pl 1 FU (1, 0, 0, -1, 0, (0, y.2.1.2), st_ 1 (nI P) y.2.2.1) := by rw [fm_r, eP, nI_clamp (by omega)]
    have hrun := abb_run (pl := pl) hv hl hm hP hFU z.2.1.2 y.2.1.2 y.2.2.1
    have hRle : (fe_t v g tm tE e z).2.2.1 ≤ 1000 := by rw [eR]; exact tf1_le _ _ _ (Nat.zero_le _)
    simp only [← eR, ← eM] at hrun
    rcases hrun with ⟨a1, a2⟩ | ⟨a1, a2, a3⟩
    · rw [if_pos a1, if_neg a2]
      exact h.none (by omega) hRle rfl rfl upN_s (fun j hj => by show upN (upN y.2.2.2.1 e 0) e 0 j = _; rw [upN_n (by omega)]; exact up0 j hj) (fun j q _ _ => rfl)
    · rw [if_neg a1, if_pos a2]
      obtain ⟨⟨t1, t2⟩, t3, t4⟩ := id a3
      by_cases hc : (fe_t v g tm tE e z).2.2.1 ≤ 0
      · rw [if_pos hc]
        have ec : (fm_r v s.1 s.2 lt pl FU e y).2.2.2.2.2.1.1 = 0 := by omega
        refine h.none (by omega) hRle rfl rfl ?_ (fun j hj => ?_) (fun j q hj hq => ?_)
        · rw [upN_s]; exact ec
        · show upN (upN y.2.2.2.1 e 0) e _ j = _; rw [upN_n (by omega)]; exact up0 j hj
        · rw [cp_all_at, if_neg (by omega)]
      · rw [if_neg hc]
        obtain ⟨b1, b2, b3⟩ := h
        refine ⟨hRle, fun j hj => ?_, fun j j1 j2 i hi => ?_⟩
        · by_cases q : j = e
          · subst q
            have ees : (upN (upN y.2.2.2.1 j 0) j (fm_r v s.1 s.2 lt pl FU j y).2.2.2.2.2.1.1) j = (fm_r v s.1 s.2 lt pl FU j y).2.2.2.2.2.1.1 := upN_s
            refine ⟨?_, fun _ => ?_, fun i hi => ?_⟩
            · show (upN (upN y.2.2.2.1 j 0) j (fm_r v s.1 s.2 lt pl FU j y).2.2.2.2.2.1.1) j ≤ 1000
              rw [ees]; omega
            · show upN z.2.2.1 j _ j = (upN (upN y.2.2.2.1 j 0) j _) j
              rw [upN_s, upN_s]; exact t1
            · show BIT (mk_all tr (fe_t v g tm tE j z).2.2 j tr.1 0 z.2.2.2) i j = true ↔ ¬ fits (upN (upN y.2.2.2.1 j 0) j (fm_r v s.1 s.2 lt pl FU j y).2.2.2.2.2.1.1) (cp_all (fm_r v s.1 s.2 lt pl FU j y).2.2.2.2.2.1.2 (1000 * j) (fm_r v s.1 s.2 lt pl FU j y).2.2.2.2.2.1.1 0 y.2.2.2.2) rs rf j i = 0
              rw [mk_all_BIT (by omega) (by omega), b3 j (Nat.le_refl _) (by omega) i hi, Bool.false_or, decide_eq_true_iff, fits, ees, if_neg (by omega)]
              have hsh := shows_iff hr ⟨t1, t2⟩ t3 hi
              have hr1 := hr.1
              have hcp : ∀ q, q < (fm_r v s.1 s.2 lt pl FU j y).2.2.2.2.2.1.1 → cp_all (fm_r v s.1 s.2 lt pl FU j y).2.2.2.2.2.1.2 (1000 * j) (fm_r v s.1 s.2 lt pl FU j y).2.2.2.2.2.1.1 0 y.2.2.2.2 (1000 * j + q) = (fm_r v s.1 s.2 lt pl FU j y).2.2.2.2.2.1.2 q := by
                intro q hq
                rw [cp_all_at, if_pos (by omega), show 1000 * j + q - 1000 * j = q by omega]
              constructor
              · rintro ⟨-, -, -, w⟩
                obtain ⟨w1, w2⟩ := hsh.mp w
                rw [if_pos w1, if_pos (fun q hq => by rw [hcp q hq]; exact w2 q hq)]
                decide
              · intro w
                refine ⟨rfl, Nat.zero_le _, by omega, hsh.mpr ?_⟩
                by_cases w1 : i + (fm_r v s.1 s.2 lt pl FU j y).2.2.2.2.2.1.1 ≤ rs
                · rw [if_pos w1] at w
                  refine ⟨w1, fun q hq => ?_⟩
                  by_cases w2 : ∀ q, q < (fm_r v s.1 s.2 lt pl FU j y).2.2.2.2.2.1.1 → cp_all (fm_r v s.1 s.2 lt pl FU j y).2.2.2.2.2.1.2 (1000 * j) (fm_r v s.1 s.2 lt pl FU j y).2.2.2.2.2.1.1 0 y.2.2.2.2 (1000 * j + q) = rf (i + q)
                  · rw [← hcp q hq]; exact w2 q hq
                  · rw [if_neg w2] at w; exact absurd rfl w
                · rw [if_neg w1] at w; exact absurd rfl w
          · obtain ⟨a1', a2', a3'⟩ := b2 j (by omega)
            have ee : (upN (upN y.2.2.2.1 e 0) e (fm_r v s.1 s.2 lt pl FU e y).2.2.2.2.2.1.1) j = y.2.2.2.1 j := by rw [upN_n q, upN_n q]
            refine ⟨?_, fun w => ?_, fun i hi => ?_⟩
            · show (upN (upN y.2.2.2.1 e 0) e _) j ≤ 1000
              rw [ee]; exact a1'
            · show upN z.2.2.1 e _ j = (upN (upN y.2.2.2.1 e 0) e _) j
              rw [upN_n q, ee]
              refine a2' (fun x => w ?_)
              show (upN (upN y.2.2.2.1 e 0) e _) j = 0
              rw [ee]; exact x
            · show BIT (mk_all tr (fe_t v g tm tE e z).2.2 e tr.1 0 z.2.2.2) i j = true ↔ ¬ fits (upN (upN y.2.2.2.1 e 0) e (fm_r v s.1 s.2 lt pl FU e y).2.2.2.2.2.1.1) (cp_all (fm_r v s.1 s.2 lt pl FU e y).2.2.2.2.2.1.2 (1000 * e) (fm_r v s.1 s.2 lt pl FU e y).2.2.2.2.2.1.1 0 y.2.2.2.2) rs rf j i = 0
              rw [mk_all_BIT (by omega) (by omega), decide_eq_false (fun w => q w.1), Bool.or_false, fits_same (es := y.2.2.2.1) (et := y.2.2.2.2) ee (fun x hx => by rw [cp_all_at, if_neg (by omega)])]
              exact a3' i hi
        · show BIT (mk_all tr (fe_t v g tm tE e z).2.2 e tr.1 0 z.2.2.2) i j = false
          rw [mk_all_BIT (by omega) j2, decide_eq_false (fun w => by omega), Bool.or_false]
          exact b3 j (by omega) j2 i hi
  · rw [if_pos (Int32.not_le.mp hp), if_neg hp]
    exact h.none (by omega) (rw_c_le h1 (by decide)) rfl rfl upN_s up0 (fun j q _ _ => rfl)
theorem fe_fm {v : Int32} {lt pl g : Nat → Int32} {tm s tE tr : TT} {rs : Nat} {rf : Nat → Int32} {FU us : Nat} (hv : VER v) (hl : LET g lt) (hm : MEM tm s) (hE : ENT tE pl) (hr : ROW tr rs rf) (hFU : 82000000 < FU) (hus : us ≤ 96) : ∀ (m e : Nat) (z : FE) (y : FM), e + m = us → RELE rs rf e z y → RELE rs rf us (fe_all v g tm tE tr m e z) (fm_all v s.1 s.2 lt pl FU us m e y)
  | 0, e, z, y, h1, h => by rw [fe_all, fm_all]; rw [show us = e by omega]; exact h
  | m + 1, e, z, y, h1, h => by
    rw [fe_all, fm_all]
    exact fe_fm hv hl hm hE hr hFU hus m (e + 1) _ _ (by omega) (fe_fm_one hv hl hm hE hr hFU (by omega) hus h)
theorem fm_rest {v : Int32} {ms : Nat} {mb lt pl : Nat → Int32} {rs : Nat} {rf : Nat → Int32} {FU us : Nat} {z : FE} : ∀ (m e : Nat) (y : FM), us ≤ e → e + m = 96 → RELE rs rf e z y → RELE rs rf 96 z (fm_all v ms mb lt pl FU us m e y)
  | 0, e, y, _, h1, h => by rw [fm_all]; rw [show 96 = e by omega]; exact h
  | m + 1, e, y, h0, h1, h => by
    rw [fm_all]
    refine fm_rest m (e + 1) _ (by omega) (by omega) ?_
    rw [fm_one, if_pos h0]
    exact h.none (by omega) h.1 rfl rfl upN_s (fun j hj => upN_n (by omega)) (fun j q _ _ => rfl)
theorem fm_all_add {v : Int32} {ms : Nat} {mb lt pl : Nat → Int32} {FU us : Nat} (m2 : Nat) : ∀ (m e : Nat) (y : FM), fm_all v ms mb lt pl FU us (m + m2) e y = fm_all v ms mb lt pl FU us m2 (e + m) (fm_all v ms mb lt pl FU us m e y)
  | 0, e, y => by rw [Nat.zero_add]; rfl
  | m + 1, e, y => by
    rw [show m + 1 + m2 = (m + m2) + 1 by omega, fm_all, fm_all, fm_all_add m2 m (e + 1), show e + 1 + m = e + (m + 1) by omega]
theorem found_eq {v : Int32} {lt pl g : Nat → Int32} {tm s tE tr : TT} {rs : Nat} {rf : Nat → Int32} {FU : Nat} {z : FE} {y : FM} (hv : VER v) (hl : LET g lt) (hm : MEM tm s) (hE : ENT tE pl) (hr : ROW tr rs rf) (hFU : 82000000 < FU) (hz : z.2.1.1 ≤ 1000) : RELE rs rf 96 (fe v g tm tE tr (zus v) z) (fm_all v s.1 s.2 lt pl FU (zus v) 96 0 y) := by
  have hus := zus_le (v := v)
  have e : fm_all v s.1 s.2 lt pl FU (zus v) 96 0 y = fm_all v s.1 s.2 lt pl FU (zus v) (96 - zus v) (zus v) (fm_all v s.1 s.2 lt pl FU (zus v) (zus v) 0 y) := by
    have := fm_all_add (v := v) (ms := s.1) (mb := s.2) (lt := lt) (pl := pl) (FU := FU) (us := zus v) (96 - zus v) (zus v) 0 y
    rw [show zus v + (96 - zus v) = 96 by omega, Nat.zero_add] at this
    exact this
  rw [e, fe]
  refine fm_rest _ _ _ (Nat.le_refl _) (by omega) (fe_fm hv hl hm hE hr hFU hus _ 0 _ _ (by omega) ⟨hz, fun j hj => absurd hj (Nat.not_lt_zero _), fun j _ j2 i hi => ?_⟩)
  have hrs := hr.2.1
  unfold BIT
  dsimp only
  rw [fl_all_at, if_pos (by omega)]
  exact b_0 _
