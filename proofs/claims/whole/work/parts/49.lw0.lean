/-! What the law keeps between two calls: bounds, and the words of the dictionary by the class's own length. -/
theorem dl_69 (v : Int32) : dl v = 6 ∨ dl v = 9 := by
  unfold dl
  split
  · exact Or.inr rfl
  · exact Or.inl rfl
theorem pr_all_ok {v : Int32} {g : Nat → Int32} {ln cn : Nat} {ws : Nat → Int64} {s : Nat → Int32} {tr : TT} : ∀ (m i : Nat) (y : Nat × PZ), PZok y.2 → PZok (pr_all v g ln cn ws s tr m i y).2
  | 0, _, _, h => h
  | m + 1, i, y, h => pr_all_ok m (i + 1) _ (pr_one_ok h)
theorem pr_ok {v : Int32} {g : Nat → Int32} {ln cn : Nat} {ws : Nat → Int64} {s : Nat → Int32} {tr : TT} {z : PZ} (h : PZok z) : PZok (pr v g ln cn ws s tr z) := by
  unfold pr
  exact ad_tok_ok (pr_all_ok _ _ _ (pr_0_ok h))
theorem zt_told {v : Int32} {g : Nat → Int32} {tm tE : TT} {pl bh : Int32} {tr t : TT} {r r0 : RS} (h : t.1 ≤ 1000) : (zt v g tm tE pl bh tr t r r0).2.2.2.1.1 ≤ 1000 := by
  have h1 : (zt_z v g tm tE pl r t).2.2.2.1 ≤ 1000 := by
    unfold zt_z
    exact tf0_le _ _ _ (rw_c_le h (by decide))
  unfold zt
  repeat' split
  · exact h
  · exact h1
  · exact h1
  · exact h
theorem mk_z_ok {v : Int32} {g : Nat → Int32} {tm : TT} {y : BS} (h : BSok y) : BSok (mk_z v g tm y).2.2 := by
  unfold mk_z
  split
  · exact h
  · exact h
theorem pdB_ok {y : BS} (h : BSok y) : BSok (pdB y) := ⟨h.1, h.2.1, h.2.2.1, pd_all_le _ _ h.2.2.2⟩
theorem mkz_ok {v : Int32} {g : Nat → Int32} {tm tE tr : TT} {us : Nat} {how : Int32} {y : BS} (hn : tr.1 ≤ 1000) (h : BSok y) : BSok (mkz v g tm tE tr us how y).2.2 := by
  unfold mkz
  repeat' split
  · exact mk_z_ok (pdB_ok (nb_0_ok h))
  · exact mk_z_ok (pdB_ok (nb_1_ok hn h))
  · exact h
theorem lw_hE {tE : TT} {pl : Nat → Int32} (h : ENT tE pl) : ∀ j, j < tE.1 → tE.2 j ≤ 3000 := fun j hj => by
  obtain ⟨h1, h2⟩ := h
  rw [h1] at hj
  rw [(h2 j hj).1]
  exact (h2 j hj).2
theorem lw_hpl {tE : TT} {pl : Nat → Int32} (h : ENT tE pl) : ∀ j, j < 96 → pl j ≤ 3000 := fun j hj => (h.2 j hj).2
theorem lw_rf {tr : TT} {rs : Nat} {rf : Nat → Int32} (h : ROW tr rs rf) : ∀ j, j < rs → vp_in (rf j) 1024 := fun j hj => by
  obtain ⟨q, hq, e⟩ := h.2.2.2 j hj
  rw [e]
  exact vp_in_nI hq (by omega)
theorem lw_word {v : Int32} {g lt : Nat → Int32} {tr : TT} {rs : Nat} {rf : Nat → Int32} {cn : Nat} {ws wo : Nat → Int64} {t : TT} {s : TT × (Nat → Int32)} (hv : VER v) (hl : LET g lt) (hr : ROW tr rs rf) (hd : DIC (dl v) cn ws wo) (ht : t.1 ≤ 12) :
    di_num ws (wo_w v g tr 0 (dl v) 0 tr.1 t) cn = mw_r wo (wf_w v lt rf 0 0 rs s) cn ∧ di_cn ws (wo_w v g tr 0 (dl v) 0 tr.1 t) cn = mw_wn wo (wf_w v lt rf 0 0 rs s) cn ∧ DIC (dl v) (mw_wn wo (wf_w v lt rf 0 0 rs s) cn) (di_ws ws (wo_w v g tr 0 (dl v) 0 tr.1 t) cn) (mw_wo wo (wf_w v lt rf 0 0 rs s) cn) := by
  have h := dl_69 v
  rw [dl_wl hv] at hd h ⊢
  exact number_eq h hd (word_eq hv hl hr (by rw [hr.1]; omega) (by omega) ht)
theorem lw_wb {v : Int32} {cn : Nat} {ws wo : Nat → Int64} {k i : Int32} (hv : VER v) (hd : DIC (dl v) cn ws wo) : by_of ws (dl v) cn k i = mwb v wo cn k i := by
  rw [dl_wl hv] at hd ⊢
  exact wordByte_eq hd
theorem lw_part {v : Int32} {g lt : Nat → Int32} {tr : TT} {rs : Nat} {rf : Nat → Int32} {cn : Nat} {ws wo : Nat → Int64} {s s2 : Nat → Int32} {z : PZ} {y : PS} (hv : VER v) (hl : LET g lt) (hr : ROW tr rs rf) (hd : DIC (dl v) cn ws wo) (hs : SEP s s2) (hz : PZok z) : TOK (pr v g (dl v) cn ws s tr z) (pm_all v lt rf s2 wo cn rs rs 0 ((0, y.1.2.1, y.1.2.2.1, y.1.2.2.2), y.2)).1 := by
  rw [dl_wl hv] at hd ⊢
  exact part_eq hv hl hr hd hs hz
theorem dl_le (v : Int32) : dl v ≤ 9 := by
  rcases dl_69 v with h | h <;> rw [h] <;> decide
/-- what holds of both states, side by side -/
def lw_I (v bh : Int32) (tm tr tE : TT) (g : Nat → Int32) (y : BS) (r0 : RS) (cn : Nat) (ws : Nat → Int64) (sp_ : Nat → Int32) (z : PZ) (bm : Int32) (s r : TT) (lt pl : Nat → Int32) (zm : MB) (wn : Nat) (wo : Nat → Int64) (sq : Nat → Int32) (tk : TK) : Prop :=
  VER v ∧ bh = bm ∧ MEM tm s ∧ ROW tr r.1 r.2 ∧ ENT tE pl ∧ LET g lt ∧ BSok y ∧ MBok zm ∧ cn = wn ∧ DIC (dl v) wn ws wo ∧ SEP sp_ sq ∧ PZok z ∧ TOK z tk
theorem lw_I0 (v0 : Int32) : lw_I (mv v0) 0 rw_0 rw_0 en_0 (al_0 (mv v0)) ((rd_0, rw_0, (fun _ => 0), (fun _ => 0)), (rw_0, ((fun _ => 0), (fun _ => 0))), rw_0) rd_0 0 (fun _ => 0) (fun _ => 0) (rw_0, rw_0, rw_0, rw_0) 0 (0, (fun _ => 0)) (0, (fun _ => 0)) (ml (mv v0)) (fl_all (-1) 96 0 (fun _ => 0)) ((0, (0, (fun _ => 0)), ((fun _ => 0), (fun _ => 0), (fun _ => 0), (fun _ => 0)), (fun _ => 0), (fun _ => 0)), ((fun _ => 0), (fun _ => 0), ((fun _ => 0), (fun _ => 0), (fun _ => 0), (fun _ => 0))), (0, (fun _ => 0))) 0 (fun _ => 0) (fun _ => 0) (0, (fun _ => 0), (fun _ => 0), (fun _ => 0)) := by
  exact ⟨mv_ver v0, rfl, ⟨rfl, Nat.zero_le _, fun j h => absurd h (Nat.not_lt_zero j)⟩, ⟨rfl, Nat.zero_le _, fun j h => absurd h (Nat.not_lt_zero j), fun j h => absurd h (Nat.not_lt_zero j)⟩, ent_0, let_0 (mv_ver v0), ⟨⟨Nat.zero_le _, fun j => Nat.zero_le _⟩, Nat.zero_le _, fun j => Nat.zero_le _, Nat.zero_le _⟩, ⟨⟨Nat.zero_le _, fun l _ => ⟨⟨0, Nat.zero_le _, rfl⟩, 0, Nat.zero_le _, rfl⟩, fun j => Nat.zero_le _⟩, fun j => Nat.zero_le _⟩, rfl, ⟨Nat.zero_le _, fun j h => absurd h (Nat.not_lt_zero j)⟩, ⟨fun c _ => rfl, rfl⟩, ⟨Nat.zero_le _, Nat.zero_le _, Nat.zero_le _, Nat.zero_le _⟩, rfl, rfl, rfl, Nat.zero_le _, fun j h => absurd h (Nat.not_lt_zero j)⟩
