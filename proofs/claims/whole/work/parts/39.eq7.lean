/-! Parting side by side; words in memory. -/
theorem pw_run {rf s : Nat → Int32} {rs f e : Nat} (hf : s (rf f).toNatClampNeg = 0) (he : e = rs ∨ (e < rs ∧ (rf e = 32 ∨ ¬ s (rf e).toNatClampNeg = 0))) : ∀ (m k : Nat), k ≤ e → e ≤ k + m → (∀ j, k ≤ j → j < e → ¬ rf j = 32 ∧ s (rf j).toNatClampNeg = 0) → e ≤ rs → pw_end rf s rs f m k = e
  | 0, k, h1, h2, _, _ => by rw [pw_end]; omega
  | m + 1, k, h1, h2, hp, hr => by
    rw [pw_end, if_pos hf]
    by_cases hk : k = e
    · subst hk
      rcases he with rfl | ⟨q, q2⟩
      · rw [if_neg (by omega)]
      · rw [if_pos q]
        rcases q2 with q2 | q2
        · rw [if_pos q2]
        · by_cases q3 : rf k = 32
          · rw [if_pos q3]
          · rw [if_neg q3, if_neg q2]
    · have hh := hp k (Nat.le_refl _) (by omega)
      rw [if_pos (by omega), if_neg hh.1, if_pos hh.2]
      exact pw_run hf he m (k + 1) (by omega) (by omega) (fun j j1 j2 => hp j (by omega) j2) hr
theorem ad_none {v : Int32} {g : Nat → Int32} {ln cn : Nat} {ws : Nat → Int64} {tr : TT} {a k : Nat} {z : PZ} (h : ¬ a < k) : ad_tok v g ln cn ws tr a k z = z := by rw [ad_tok, if_neg h]
theorem part_flush {v : Int32} {g lt : Nat → Int32} {tr : TT} {rs : Nat} {rf : Nat → Int32} {cn : Nat} {ws wo : Nat → Int64} {s2 : Nat → Int32} {f i M : Nat} {z : PZ} {y : PS} (hv : VER v) (hl : LET g lt) (hr : ROW tr rs rf) (hd : DIC (wl v) cn ws wo) (hfi : f ≤ i) (hi : i ≤ rs) (he : i = rs ∨ (i < rs ∧ (rf i = 32 ∨ ¬ s2 (rf i).toNatClampNeg = 0))) (hp : ∀ j, f ≤ j → j < i → ¬ rf j = 32 ∧ s2 (rf j).toNatClampNeg = 0) (hM : rs ≤ f + M) (hy : y.1.1 ≤ f) (hz : z.2.2.2.1 ≤ 12) (ht : TOK z y.1) :
    ∃ (M' : Nat) (y' : PS), pm_all v lt rf s2 wo cn rs M f y = pm_all v lt rf s2 wo cn rs M' i y' ∧ rs ≤ i + M' ∧ y'.1.1 ≤ i ∧ TOK (ad_tok v g (wl v) cn ws tr f i z) y'.1 ∧ (ad_tok v g (wl v) cn ws tr f i z).2.2.2.1 ≤ 12 := by
  by_cases hf : f < i
  · have hh := hp f (Nat.le_refl _) hf
    have hrs := hr.2.1
    obtain ⟨M0, rfl⟩ : ∃ M0, M = M0 + 1 := ⟨M - 1, by omega⟩
    have hpw : pw_end rf s2 rs f rs (f + 1) = i := pw_run hh.2 he rs (f + 1) (by omega) (by omega) (fun j j1 j2 => hp j (by omega) j2) hi
    obtain ⟨r1, r2⟩ := ad_pm (lt := lt) (rf := rf) (wo := wo) (y := y) hv hl hr hd hf hi (by omega) hz ht
    refine ⟨M0, pm_tok v lt rf wo cn f i y, ?_, by omega, ?_, r1, r2⟩
    · rw [pm_all, if_pos (by omega), if_neg hh.1, hpw]
    · show y.1.1 + 1 ≤ i; omega
  · have e : f = i := by omega
    subst e
    rw [ad_none hf]
    exact ⟨M, y, rfl, hM, hy, ht, hz⟩
theorem part_run {v : Int32} {g lt : Nat → Int32} {tr : TT} {rs : Nat} {rf : Nat → Int32} {cn : Nat} {ws wo : Nat → Int64} {s s2 : Nat → Int32} (hv : VER v) (hl : LET g lt) (hr : ROW tr rs rf) (hd : DIC (wl v) cn ws wo) (hs : SEP s s2) : ∀ (m i f : Nat) (z : PZ) (y : PS) (M : Nat), i + m = rs → f ≤ i → (∀ j, f ≤ j → j < i → ¬ rf j = 32 ∧ s2 (rf j).toNatClampNeg = 0) → rs ≤ f + M → y.1.1 ≤ f → z.2.2.2.1 ≤ 12 → TOK z y.1 →
    TOK (ad_tok v g (wl v) cn ws tr (pr_all v g (wl v) cn ws s tr m i (f, z)).1 tr.1 (pr_all v g (wl v) cn ws s tr m i (f, z)).2) (pm_all v lt rf s2 wo cn rs M f y).1 ∧ (ad_tok v g (wl v) cn ws tr (pr_all v g (wl v) cn ws s tr m i (f, z)).1 tr.1 (pr_all v g (wl v) cn ws s tr m i (f, z)).2).2.2.2.1 ≤ 12
  | 0, i, f, z, y, M, hi, hf, hp, hM, hy, hz, ht => by
    rw [pr_all, hr.1]
    have hi' : i = rs := by omega
    subst hi'
    obtain ⟨M', y', e1, e2, e3, e4, e5⟩ := part_flush (wo := wo) (M := M) hv hl hr hd hf (Nat.le_refl _) (Or.inl rfl) hp hM hy hz ht
    have e6 : pm_all v lt rf s2 wo cn i M' i y' = y' := by
      cases M' with
      | zero => rfl
      | succ M' => rw [pm_all, if_neg (by omega)]
    rw [e1, e6]
    exact ⟨e4, e5⟩
  | m + 1, i, f, z, y, M, hi, hf, hp, hM, hy, hz, ht => by
    have hg := hr.get (j := i) (by omega)
    have hsg : SG (rf i) := hr.2.2.2 i (by omega)
    have hsi := hs.is hsg
    rw [pr_all, pr_one, hg]
    by_cases c32 : rf i = 32
    · have h0 : s2 (rf i).toNatClampNeg = 0 := by rw [c32]; exact hs.2
      rw [if_pos c32, if_pos (hsi.mpr h0)]
      obtain ⟨M', y', e1, e2, e3, e4, e5⟩ := part_flush (wo := wo) (M := M) hv hl hr hd hf (by omega) (Or.inr ⟨by omega, Or.inl c32⟩) hp hM hy hz ht
      obtain ⟨M0, rfl⟩ : ∃ M0, M' = M0 + 1 := ⟨M' - 1, by omega⟩
      rw [e1, pm_all, if_pos (by omega), if_pos c32]
      exact part_run hv hl hr hd hs m (i + 1) (i + 1) _ y' M0 (by omega) (Nat.le_refl _) (fun j j1 j2 => by omega) (by omega) (by omega) e5 e4
    · by_cases cs : s2 (rf i).toNatClampNeg = 0
      · rw [if_neg c32, if_pos (hsi.mpr cs)]
        refine part_run hv hl hr hd hs m (i + 1) f z y M (by omega) (by omega) (fun j j1 j2 => ?_) hM hy hz ht
        by_cases q : j = i
        · rw [q]; exact ⟨c32, cs⟩
        · exact hp j j1 (by omega)
      · rw [if_neg c32, if_neg (fun q => cs (hsi.mp q))]
        obtain ⟨M', y', e1, e2, e3, e4, e5⟩ := part_flush (wo := wo) (M := M) hv hl hr hd hf (by omega) (Or.inr ⟨by omega, Or.inr cs⟩) hp hM hy hz ht
        obtain ⟨M0, rfl⟩ : ∃ M0, M' = M0 + 1 := ⟨M' - 1, by omega⟩
        have hpw : pw_end rf s2 rs i rs (i + 1) = i + 1 := by
          obtain ⟨r, hr0⟩ : ∃ r, rs = r + 1 := ⟨rs - 1, by omega⟩
          have : pw_end rf s2 rs i (r + 1) (i + 1) = i + 1 := by rw [pw_end, if_neg cs]
          rw [← hr0] at this
          exact this
        have hrs := hr.2.1
        obtain ⟨r1, r2⟩ := ad_pm (lt := lt) (rf := rf) (wo := wo) (y := y') hv hl hr hd (show i < i + 1 by omega) (by omega) (by omega) e5 e4
        rw [e1, pm_all, if_pos (by omega), if_neg c32, hpw]
        exact part_run hv hl hr hd hs m (i + 1) (i + 1) _ _ M0 (by omega) (Nat.le_refl _) (fun j j1 j2 => by omega) (by omega) (by show y'.1.1 + 1 ≤ i + 1; omega) r2 r1
theorem part_eq {v : Int32} {g lt : Nat → Int32} {tr : TT} {rs : Nat} {rf : Nat → Int32} {cn : Nat} {ws wo : Nat → Int64} {s s2 : Nat → Int32} {z : PZ} {y : PS} (hv : VER v) (hl : LET g lt) (hr : ROW tr rs rf) (hd : DIC (wl v) cn ws wo) (hs : SEP s s2) (hz : PZok z) : TOK (pr v g (wl v) cn ws s tr z) (pm_all v lt rf s2 wo cn rs rs 0 ((0, y.1.2.1, y.1.2.2.1, y.1.2.2.2), y.2)).1 := by
  have h := part_run (lt := lt) (rf := rf) (wo := wo) hv hl hr hd hs rs 0 0 (pr_0 z) ((0, y.1.2.1, y.1.2.2.1, y.1.2.2.2), y.2) rs (by omega) (Nat.le_refl _) (fun j j1 j2 => by omega) (by omega) (Nat.le_refl _) hz.2.2.2 ?_
  · rw [pr, ← hr.1] at *
    rw [hr.1] at h ⊢
    exact h.1
  · unfold pr_0
    rw [rw_c0_1 (by have := hz.1; omega), rw_c0_1 (by have := hz.2.1; omega), rw_c0_1 (by have := hz.2.2.1; omega)]
    exact ⟨rfl, rfl, rfl, Nat.zero_le _, fun j hj => absurd hj (Nat.not_lt_zero _)⟩
/-! words in memory -/
theorem num3 {a b c : Nat} (ha : a < 32) (hb : b < 32) (hc : c < 32) : ((nI a <<< ((10 : Int32) &&& 31)) ||| (nI b <<< ((5 : Int32) &&& 31))) ||| nI c = nI (a * 1024 + b * 32 + c) := by
  rw [pk_shlN _ 10 (by decide) (by omega), pk_shlN _ 5 (by decide) (by omega), show (2 : Nat) ^ 10 = 1024 from rfl, show (2 : Nat) ^ 5 = 32 from rfl, i_or (k := 10) (p := 1024) rfl (by omega) (by omega), show a * 1024 + b * 32 = (a * 32 + b) * 32 by omega, i_or (k := 5) (p := 32) rfl hc (by omega)]
theorem wr_mw {ts t : TT} (h : TEQ ts t) (hv : VAL t) (h3 : t.1 % 3 = 0) (hn : t.1 ≤ 5000) : ∀ (m m' k : Nat) (tm s : TT), t.1 ≤ k + m → t.1 ≤ k + m' → k % 3 = 0 → s.1 + (t.1 - k) / 3 * 2 ≤ 3000 → MEM tm s → MEM (wr_all ts m k tm) (mw_all t m' k s)
  | 0, m', k, tm, s, h1, h2, _, _, hm => by
    have e : mw_all t m' k s = s := by
      cases m' with
      | zero => rfl
      | succ m' => rw [mw_all, if_neg (by omega)]
    rw [e]; exact hm
  | m + 1, m', k, tm, s, h1, h2, hk, hs, hm => by
    have ht := h.1
    by_cases hkt : k < t.1
    · obtain ⟨m', rfl⟩ : ∃ m2, m' = m2 + 1 := ⟨m' - 1, by omega⟩
      obtain ⟨a, ha, ea⟩ := hv k hkt
      obtain ⟨b, hb, eb⟩ := hv (k + 1) (by omega)
      obtain ⟨c, hc, ec⟩ := hv (k + 2) (by omega)
      have ga : rw_get ts.1 ts.2 (nI k) = nI a := by rw [rw_get_nI (by omega) (by omega), if_pos (by omega), h.2 k (by omega), ea]
      have gb : rw_get ts.1 ts.2 (nI (k + 1)) = nI b := by rw [rw_get_nI (by omega) (by omega), if_pos (by omega), h.2 _ (by omega), eb]
      have gc : rw_get ts.1 ts.2 (nI (k + 2)) = nI c := by rw [rw_get_nI (by omega) (by omega), if_pos (by omega), h.2 _ (by omega), ec]
      obtain ⟨W, hW, w1, w2⟩ : ∃ W : Nat, W < 65536 ∧ wr_two ts k = nI W ∧ mw_w t k = nI W := by
        by_cases hl : k + 3 = t.1
        · refine ⟨1 * 32768 + (a * 1024 + b * 32 + c), by omega, ?_, ?_⟩
          · rw [wr_two, if_neg (by omega), wr_3, ga, gb, gc, num3 ha hb hc, Int32.or_comm, show (32768 : Int32) = nI (1 * 32768) from rfl, i_or (k := 15) (p := 32768) rfl (by omega) (by omega)]
          · rw [mw_w, if_pos hl, ea, eb, ec, num3 ha hb hc, Int32.or_comm, show (32768 : Int32) = nI (1 * 32768) from rfl, i_or (k := 15) (p := 32768) rfl (by omega) (by omega)]
        · refine ⟨a * 1024 + b * 32 + c, by omega, ?_, ?_⟩
          · rw [wr_two, if_pos (by omega), wr_3, ga, gb, gc, num3 ha hb hc]
          · rw [mw_w, if_neg hl, ea, eb, ec, num3 ha hb hc, Int32.or_zero]
      rw [wr_all, mw_all, if_pos hkt, if_pos (by omega), w1, w2]
      have hm1 := hm.1
      have hm2 := hm.2.1
      rw [rw_a_pu (x := nI W >>> ((8 : Int32) &&& 31)) (by omega), rw_a_pu (by show tm.1 + 1 < 3000; omega)]
      refine wr_mw h hv h3 hn m m' (k + 3) _ (pu (mb_of (nI W)) (pu (mb_of (nI W >>> ((8 : Int32) &&& 31))) s)) (by omega) (by omega) (by omega) (by show s.1 + 1 + 1 + (t.1 - (k + 3)) / 3 * 2 ≤ 3000; omega) ?_
      refine (hm.pu (by omega) ?_).pu (by show s.1 + 1 < 3000; omega) ?_
      · rw [mb_255, pk_shrN (by omega) _ 8 (by decide), pk_andN (by omega) 8 (by decide)]
        congr 1; omega
      · rw [mb_255]
    · have e : mw_all t m' k s = s := by
        cases m' with
        | zero => rfl
        | succ m' => rw [mw_all, if_neg hkt]
      rw [e, wr_all, if_neg (by omega)]; exact hm
theorem make_eq {v : Int32} {g : Nat → Int32} {tm s : TT} {y : BS} {z : MB} (hm : MEM tm s) (h : TEQ y.2.2 z.2.2) (hv : VAL z.2.2) (hn : z.2.2.1 ≤ 4000) : (mk_z v g tm (pdB y)).1 = (mmk s (mb_t z (mp5 3 z.2.2))).1 ∧ MEM (mk_z v g tm (pdB y)).2.1 (mmk s (mb_t z (mp5 3 z.2.2))).2.1 := by
  have hp : z.2.2.1 + pd_n z.2.2 ≤ 4002 ∧ (z.2.2.1 + pd_n z.2.2) % 3 = 0 := by
    unfold pd_n
    split <;> omega
  obtain ⟨r1, r2, r3⟩ := pd_mp5 (pd_n z.2.2) 3 y.2.2 z.2.2 rfl pd_n_le hp.1 h hv
  have e0 : pd y.2.2 = pd_all (pd_n z.2.2) y.2.2 := by rw [pd, pd_n_eq h.1]
  have r1' : TEQ (pd y.2.2) (mp5 3 z.2.2) := by rw [e0]; exact r1
  have hm1 := hm.1
  have hm2 := hm.2.1
  have hc := r1'.1
  have em : mk_z v g tm (pdB y) = if rw_room 3000 tm.1 (nI ((pd y.2.2).1 / 3 * 2)) = 0 then (-4, tm, pdB y) else (nI tm.1, wr_all (pd y.2.2) (pd y.2.2).1 0 tm, pdB y) := rfl
  have ek : mmk s (mb_t z (mp5 3 z.2.2)) = if s.1 + (mp5 3 z.2.2).1 / 3 * 2 ≤ 3000 then (nI s.1, mw_all (mp5 3 z.2.2) (mp5 3 z.2.2).1 0 s, mb_t z (mp5 3 z.2.2)) else (-4, s, mb_t z (mp5 3 z.2.2)) := rfl
  rw [em, ek]
  by_cases hr : s.1 + (mp5 3 z.2.2).1 / 3 * 2 ≤ 3000
  · have q : ¬ rw_room 3000 tm.1 (nI ((pd y.2.2).1 / 3 * 2)) = 0 := by
      rw [rw_room, pk_sub (by omega), if_neg (nI_nlt (by omega) (by omega))]; decide
    rw [if_neg q, if_pos hr]
    refine ⟨by show nI tm.1 = nI s.1; rw [hm1], ?_⟩
    show MEM (wr_all (pd y.2.2) (pd y.2.2).1 0 tm) (mw_all (mp5 3 z.2.2) (mp5 3 z.2.2).1 0 s)
    exact wr_mw r1' r2 (by rw [r3]; exact hp.2) (by omega) _ _ 0 tm s (by omega) (by omega) rfl (by omega) hm
  · have q : rw_room 3000 tm.1 (nI ((pd y.2.2).1 / 3 * 2)) = 0 := by
      rw [rw_room, pk_sub (by omega), if_pos (nI_lt (by omega) (by omega))]
    rw [if_pos q, if_neg hr]
    exact ⟨rfl, hm⟩
