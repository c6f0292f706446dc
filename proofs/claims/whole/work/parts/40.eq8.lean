/-! Telling side by side: the numbers of a text as a list. -/
def txt (ms : Nat) (mb : Nat → Int32) : Nat → Nat → List Int32 × Option Nat
  | 0, _ => ([], none)
  | m + 1, q => if q + 1 < ms then (if nu_w mb q < 32768 then (tl_no (nu_w mb q) 10 :: tl_no (nu_w mb q) 5 :: tl_no (nu_w mb q) 0 :: (txt ms mb m (q + 2)).1, (txt ms mb m (q + 2)).2) else ([tl_no (nu_w mb q) 10, tl_no (nu_w mb q) 5, tl_no (nu_w mb q) 0], some (q + 2))) else ([], none)
def TX (ms : Nat) (mb : Nat → Int32) (q : Nat) : List Int32 × Option Nat := txt ms mb ms q
theorem txt_fuel {ms : Nat} {mb : Nat → Int32} : ∀ (m m' q : Nat), ms ≤ q + m → ms ≤ q + m' → txt ms mb m q = txt ms mb m' q
  | 0, m', q, h, _ => by
    cases m' with
    | zero => rfl
    | succ m' => rw [txt, txt, if_neg (by omega)]
  | m + 1, m', q, h, h' => by
    cases m' with
    | zero => rw [txt, txt, if_neg (by omega)]
    | succ m' => rw [txt, txt, txt_fuel m m' (q + 2) (by omega) (by omega)]
theorem TX_unf {ms : Nat} {mb : Nat → Int32} {q : Nat} : TX ms mb q = if q + 1 < ms then (if nu_w mb q < 32768 then (tl_no (nu_w mb q) 10 :: tl_no (nu_w mb q) 5 :: tl_no (nu_w mb q) 0 :: (TX ms mb (q + 2)).1, (TX ms mb (q + 2)).2) else ([tl_no (nu_w mb q) 10, tl_no (nu_w mb q) 5, tl_no (nu_w mb q) 0], some (q + 2))) else ([], none) := by
  unfold TX
  by_cases h : q + 1 < ms
  · have e : txt ms mb ms q = txt ms mb (ms + 1) q := txt_fuel ms (ms + 1) q (by omega) (by omega)
    rw [e, txt, if_pos h]
  · have e : txt ms mb ms q = txt ms mb 1 q := txt_fuel ms 1 q (by omega) (by omega)
    rw [e, txt, if_neg h, if_neg h]
theorem no_val (w b : Int32) : B32 (tl_no w b) := by
  obtain ⟨j, hj, e⟩ := pk_andE (w >>> (b &&& 31)) 5 (m := 31) (by decide)
  exact ⟨j, hj, e⟩
theorem txt_val {ms : Nat} {mb : Nat → Int32} : ∀ (m q : Nat), (∀ x ∈ (txt ms mb m q).1, B32 x) ∧ (txt ms mb m q).1.length ≤ 3 * m ∧ ∀ p, (txt ms mb m q).2 = some p → p ≤ ms
  | 0, _ => ⟨fun x hx => absurd hx (List.not_mem_nil), Nat.zero_le _, fun p h => by cases h⟩
  | m + 1, q => by
    obtain ⟨i1, i2, i3⟩ := txt_val (ms := ms) (mb := mb) m (q + 2)
    rw [txt]
    split
    · rename_i hq
      split
      · refine ⟨fun x hx => ?_, ?_, i3⟩
        · simp only [List.mem_cons] at hx
          rcases hx with rfl | rfl | rfl | hx
          · exact no_val _ _
          · exact no_val _ _
          · exact no_val _ _
          · exact i1 x hx
        · show (txt ms mb m (q + 2)).1.length + 1 + 1 + 1 ≤ _
          omega
      · refine ⟨fun x hx => ?_, ?_, fun p hp => ?_⟩
        · simp only [List.mem_cons, List.not_mem_nil, or_false] at hx
          rcases hx with rfl | rfl | rfl <;> exact no_val _ _
        · show 3 ≤ _; omega
        · injection hp with hp; omega
    · exact ⟨fun x hx => absurd hx (List.not_mem_nil), Nat.zero_le _, fun p h => by cases h⟩
theorem nu_w_eq (mb : Nat → Int32) (q : Nat) : ∃ W : Nat, W < 65536 ∧ nu_w mb q = nI W := by
  obtain ⟨a, ha, ea⟩ := pk_andE (mb q) 8 (m := 255) (by decide)
  obtain ⟨b, hb, eb⟩ := pk_andE (mb (q + 1)) 8 (m := 255) (by decide)
  refine ⟨a * 256 + b, by omega, ?_⟩
  rw [nu_w, ea, eb, pk_shlN _ 8 (by decide) (by omega), show (2 : Nat) ^ 8 = 256 from rfl, i_or (k := 8) (p := 256) rfl hb (by omega)]
theorem w_last {W : Nat} (h : W < 65536) : (nI W &&& 32768 = 0) ↔ nI W < 32768 := by
  have e : nI W &&& 32768 = 0 ↔ W < 32768 := by
    rw [← Int32.toBitVec_inj, Int32.toBitVec_and]
    show BitVec.ofNat 32 W &&& 32768#32 = 0#32 ↔ _
    rw [show (32768#32) = BitVec.twoPow 32 15 by decide, BitVec.and_twoPow, BitVec.getLsbD_ofNat, Nat.testBit_eq_decide_div_mod_eq]
    by_cases q : W < 32768
    · have : ¬ W / 2 ^ 15 % 2 = 1 := by omega
      simp [this, q]
    · have : W / 2 ^ 15 % 2 = 1 := by omega
      simp [this, q]
      decide
  rw [e]
  exact (nI_ltI (a := W) (b := 32768) (by omega) (by decide)).symm
theorem two_w {tm s : TT} (h : MEM tm s) {q : Nat} (hq : q + 1 < s.1) : tl_two tm q = nu_w s.2 q := by
  obtain ⟨h1, h2, h3⟩ := h
  rw [tl_two, rw_get_nI (by omega) (by omega), rw_get_nI (by omega) (by omega), if_pos (by omega), if_pos (by omega), h3 q (by omega), h3 (q + 1) (by omega)]
  rfl
/-- what is left of a level's text -/
def tl_of (a : Nat) (w : Int32) : List Int32 := if a = 0 then [] else if a = 1 then [tl_no w 0] else [tl_no w 5, tl_no w 0]
def REM (ms : Nat) (mb : Nat → Int32) (n : NS) (lv : Nat) (L : List Int32) (E : Option Nat) : Prop := ∃ p a : Nat, a ≤ 2 ∧ p ≤ 3000 ∧ n.1 lv = nI p ∧ n.2.1 lv = nI a ∧ L = tl_of a (n.2.2.1 lv) ++ (if n.2.2.2 lv = 0 then (TX ms mb p).1 else []) ∧ E = if n.2.2.2 lv = 0 then (TX ms mb p).2 else some p
/-- the level's cells are the same -/
def SAME (l : Nat) (n n' : NS) : Prop := n'.1 l = n.1 l ∧ n'.2.1 l = n.2.1 l ∧ n'.2.2.1 l = n.2.2.1 l ∧ n'.2.2.2 l = n.2.2.2 l
theorem SAME.rem {ms : Nat} {mb : Nat → Int32} {n n' : NS} {l : Nat} {L : List Int32} {E : Option Nat} (h : SAME l n n') (hr : REM ms mb n l L E) : REM ms mb n' l L E := by
  obtain ⟨h1, h2, h3, h4⟩ := h
  unfold REM
  rw [h1, h2, h3, h4]
  exact hr
theorem SAME.rfl' {l : Nat} {n : NS} : SAME l n n := ⟨rfl, rfl, rfl, rfl⟩
theorem SAME.trans {l : Nat} {a b c : NS} (h : SAME l a b) (k : SAME l b c) : SAME l a c := ⟨k.1.trans h.1, k.2.1.trans h.2.1, k.2.2.1.trans h.2.2.1, k.2.2.2.trans h.2.2.2⟩
theorem SAME.step {l lv : Nat} {n : NS} (h : l ≠ lv) : SAME l n (nu_step lv n) := ⟨rfl, upd_n h, rfl, rfl⟩
theorem SAME.fill {mb : Nat → Int32} {p l lv : Nat} {n : NS} (h : l ≠ lv) : SAME l n (nu_fill mb lv p n) := ⟨upd_n h, upd_n h, upd_n h, upd_n h⟩
theorem SAME.st {l lv : Nat} {p : Int32} {n : NS} (h : l ≠ lv) : SAME l n (st_ lv p n) := ⟨upd_n h, upd_n h, rfl, upd_n h⟩
theorem REM.st {ms : Nat} {mb : Nat → Int32} {lv p : Nat} {n : NS} (hp : p ≤ 3000) : REM ms mb (st_ lv (nI p) n) lv (TX ms mb p).1 (TX ms mb p).2 := by
  refine ⟨p, 0, by decide, hp, upd_s, upd_s, ?_, ?_⟩
  · show _ = tl_of 0 _ ++ (if upd n.2.2.2 lv 0 lv = 0 then _ else _)
    rw [upd_s, if_pos rfl]; rfl
  · show _ = if upd n.2.2.2 lv 0 lv = 0 then _ else _
    rw [upd_s, if_pos rfl]
/-- the next number of a level, by what is left -/
theorem nu_list {ms : Nat} {mb : Nat → Int32} {n : NS} {lv : Nat} {L : List Int32} {E : Option Nat} {fa : Int32} (hms : ms ≤ 3000) (h : REM ms mb n lv L E) :
    (∃ x L' n', L = x :: L' ∧ tn ms mb lv fa n = (x, fa, n') ∧ REM ms mb n' lv L' E ∧ ∀ l, l ≠ lv → SAME l n n') ∨ (∃ p, L = [] ∧ E = some p ∧ tn ms mb lv fa n = (-1, fa, n) ∧ n.1 lv = nI p) ∨ (L = [] ∧ E = none ∧ tn ms mb lv fa n = (-1, 2, n)) := by
  obtain ⟨p, a, ha, hp, h1, h2, hL, hE⟩ := h
  have etp : tp n lv = p := by unfold tp; rw [h1, nI_clamp (by omega)]
  rcases (show a = 0 ∨ a = 1 ∨ a = 2 by omega) with rfl | rfl | rfl
  · have h20 : n.2.1 lv = 0 := h2
    rw [show tl_of 0 (n.2.2.1 lv) = [] from rfl, List.nil_append] at hL
    by_cases hl : n.2.2.2 lv = 0
    · rw [if_pos hl] at hL hE
      rw [TX_unf] at hL hE
      by_cases hq : p + 1 < ms
      · rw [if_pos hq] at hL hE
        obtain ⟨W, hW, eW⟩ := nu_w_eq mb p
        have hlast := w_last hW
        rw [← eW] at hlast
        have etn : tn ms mb lv fa n = (tl_no (nu_w mb p) 10, fa, nu_step lv (nu_fill mb lv p n)) := by
          rw [tn, nu, if_pos h20, if_pos hl, etp, if_pos (by omega)]
          have : nu_val lv (nu_step lv (nu_fill mb lv p n)) = tl_no (nu_w mb p) 10 := by
            show (upd n.2.2.1 lv (nu_w mb p) lv >>> ((5 * upd (upd n.2.1 lv 3) lv (upd n.2.1 lv 3 lv - 1) lv) &&& 31)) &&& 31 = _
            rw [upd_s, upd_s, upd_s]
            rfl
          rw [this]
        have e1 : (nu_step lv (nu_fill mb lv p n)).2.2.2 lv = if nu_w mb p &&& 32768 = 0 then 0 else 1 := upd_s
        have e2 : (nu_step lv (nu_fill mb lv p n)).2.2.1 lv = nu_w mb p := upd_s
        have e3 : (nu_step lv (nu_fill mb lv p n)).1 lv = nI (p + 2) := upd_s
        have e4 : (nu_step lv (nu_fill mb lv p n)).2.1 lv = nI 2 := by
          show upd (upd n.2.1 lv 3) lv (upd n.2.1 lv 3 lv - 1) lv = _
          rw [upd_s, upd_s]; rfl
        left
        by_cases hw : nu_w mb p < 32768
        · rw [if_pos hw] at hL hE
          rw [if_pos (hlast.mpr hw)] at e1
          refine ⟨_, _, _, hL, etn, ⟨p + 2, 2, by decide, by omega, e3, e4, ?_, ?_⟩, fun l hl => (SAME.fill hl).trans (SAME.step hl)⟩
          · rw [e1, e2, if_pos rfl]; rfl
          · rw [e1, if_pos rfl]; exact hE
        · rw [if_neg hw] at hL hE
          rw [if_neg (fun q => hw (hlast.mp q))] at e1
          refine ⟨_, _, _, hL, etn, ⟨p + 2, 2, by decide, by omega, e3, e4, ?_, ?_⟩, fun l hl => (SAME.fill hl).trans (SAME.step hl)⟩
          · rw [e1, e2, if_neg (by decide)]; rfl
          · rw [e1, if_neg (by decide)]; exact hE
      · rw [if_neg hq] at hL hE
        right; right
        refine ⟨hL, hE, ?_⟩
        rw [tn, nu, if_pos h20, if_pos hl, etp, if_neg (by omega)]
    · rw [if_neg hl] at hL hE
      right; left
      refine ⟨p, hL, hE, ?_, h1⟩
      rw [tn, nu, if_pos h20, if_neg hl]
  · left
    have h2n : ¬ n.2.1 lv = 0 := by rw [h2]; decide
    refine ⟨tl_no (n.2.2.1 lv) 0, _, nu_step lv n, hL, ?_, ⟨p, 0, by decide, hp, h1, ?_, ?_, hE⟩, fun l hl => SAME.step hl⟩
    · rw [tn, nu, if_neg h2n]
      have : nu_val lv (nu_step lv n) = tl_no (n.2.2.1 lv) 0 := by
        show (n.2.2.1 lv >>> ((5 * upd n.2.1 lv (n.2.1 lv - 1) lv) &&& 31)) &&& 31 = _
        rw [upd_s, h2]; rfl
      rw [this]
    · show upd n.2.1 lv (n.2.1 lv - 1) lv = _
      rw [upd_s, h2]; rfl
    · rfl
  · left
    have h2n : ¬ n.2.1 lv = 0 := by rw [h2]; decide
    refine ⟨tl_no (n.2.2.1 lv) 5, _, nu_step lv n, hL, ?_, ⟨p, 1, by decide, hp, h1, ?_, ?_, hE⟩, fun l hl => SAME.step hl⟩
    · rw [tn, nu, if_neg h2n]
      have : nu_val lv (nu_step lv n) = tl_no (n.2.2.1 lv) 5 := by
        show (n.2.2.1 lv >>> ((5 * upd n.2.1 lv (n.2.1 lv - 1) lv) &&& 31)) &&& 31 = _
        rw [upd_s, h2]; rfl
      rw [this]
    · show upd n.2.1 lv (n.2.1 lv - 1) lv = _
      rw [upd_s, h2]; rfl
    · rfl
/-! the class over the list -/
def cl1 (v : Int32) (g : Nat → Int32) : List Int32 → RS × TT → Int32 × RS × TT
  | [], z => (0, z)
  | x :: L, z => if (s1 v g x z).1 = 0 then cl1 v g L (s1 v g x z).2 else s1 v g x z
def cl0 (v : Int32) (g : Nat → Int32) (tm tE : TT) : List Int32 → RS × RS × TT → Int32 × RS × RS × TT
  | [], z => (0, z)
  | x :: L, z => if (s0 v g tm tE x z).1 = 0 then cl0 v g tm tE L (s0 v g tm tE x z).2 else s0 v g tm tE x z
theorem pair0 {α : Type} {p : Int32 × α} (h : p.1 = 0) : p = (0, p.2) := by
  cases p; simp at h; rw [h]
theorem cl1_app {v : Int32} {g : Nat → Int32} : ∀ (A B : List Int32) (z : RS × TT), cl1 v g (A ++ B) z = if (cl1 v g A z).1 = 0 then cl1 v g B (cl1 v g A z).2 else cl1 v g A z
  | [], B, z => by rw [List.nil_append, cl1, if_pos rfl]
  | x :: A, B, z => by
    rw [List.cons_append, cl1, cl1]
    by_cases h : (s1 v g x z).1 = 0
    · rw [if_pos h, if_pos h, cl1_app A B]
    · rw [if_neg h, if_neg h, if_neg h]
theorem cl0_app {v : Int32} {g : Nat → Int32} {tm tE : TT} : ∀ (A B : List Int32) (z : RS × RS × TT), cl0 v g tm tE (A ++ B) z = if (cl0 v g tm tE A z).1 = 0 then cl0 v g tm tE B (cl0 v g tm tE A z).2 else cl0 v g tm tE A z
  | [], B, z => by rw [List.nil_append, cl0, if_pos rfl]
  | x :: A, B, z => by
    rw [List.cons_append, cl0, cl0]
    by_cases h : (s0 v g tm tE x z).1 = 0
    · rw [if_pos h, if_pos h, cl0_app A B]
    · rw [if_neg h, if_neg h, if_neg h]
theorem tw1_cl {v w : Int32} {g : Nat → Int32} {z : RS × TT} : tw1 v g w z = cl1 v g [tl_no w 10, tl_no w 5, tl_no w 0] z := by
  rw [tw1, cl1, cl1, cl1, cl1]
  by_cases h1 : (s1 v g (tl_no w 10) z).1 = 0
  · rw [if_pos h1, if_pos h1]
    by_cases h2 : (s1 v g (tl_no w 5) (s1 v g (tl_no w 10) z).2).1 = 0
    · rw [if_pos h2, if_pos h2]
      split
      · rename_i h3; exact pair0 h3
      · rfl
    · rw [if_neg h2, if_neg h2]
  · rw [if_neg h1, if_neg h1]
theorem tw0_cl {v w : Int32} {g : Nat → Int32} {tm tE : TT} {z : RS × RS × TT} : tw0 v g tm tE w z = cl0 v g tm tE [tl_no w 10, tl_no w 5, tl_no w 0] z := by
  rw [tw0, cl0, cl0, cl0, cl0]
  by_cases h1 : (s0 v g tm tE (tl_no w 10) z).1 = 0
  · rw [if_pos h1, if_pos h1]
    by_cases h2 : (s0 v g tm tE (tl_no w 5) (s0 v g tm tE (tl_no w 10) z).2).1 = 0
    · rw [if_pos h2, if_pos h2]
      split
      · rename_i h3; exact pair0 h3
      · rfl
    · rw [if_neg h2, if_neg h2]
  · rw [if_neg h1, if_neg h1]
def eo (E : Option Nat) : Int32 := match E with
  | some p => nI p
  | none => -2
def tfin {α : Type} (E : Option Nat) (R : Int32 × α) : Int32 × α := if R.1 = 0 then (eo E, R.2) else (-R.1, R.2)
theorem tf1_cl {v : Int32} {g : Nat → Int32} {tm s : TT} (h : MEM tm s) : ∀ (m q : Nat) (z : RS × TT), tf1 v g tm m q z = tfin (txt s.1 s.2 m q).2 (cl1 v g (txt s.1 s.2 m q).1 z)
  | 0, q, z => by rw [tf1, txt, tfin, cl1, if_pos rfl]; rfl
  | m + 1, q, z => by
    rw [tf1, txt, h.1]
    by_cases hq : q + 1 < s.1
    · rw [if_pos hq, if_pos hq, two_w h hq, tw1_cl]
      by_cases hw : nu_w s.2 q < 32768
      · simp only [if_pos hw]
        rw [show tl_no (nu_w s.2 q) 10 :: tl_no (nu_w s.2 q) 5 :: tl_no (nu_w s.2 q) 0 :: (txt s.1 s.2 m (q + 2)).1 = [tl_no (nu_w s.2 q) 10, tl_no (nu_w s.2 q) 5, tl_no (nu_w s.2 q) 0] ++ (txt s.1 s.2 m (q + 2)).1 from rfl, cl1_app]
        by_cases hr : (cl1 v g [tl_no (nu_w s.2 q) 10, tl_no (nu_w s.2 q) 5, tl_no (nu_w s.2 q) 0] z).1 = 0
        · rw [if_pos hr, if_pos hr]
          exact tf1_cl h m (q + 2) _
        · rw [if_neg hr, if_neg hr, tfin, if_neg hr]
      · simp only [if_neg hw]
        rw [tfin]
        by_cases hr : (cl1 v g [tl_no (nu_w s.2 q) 10, tl_no (nu_w s.2 q) 5, tl_no (nu_w s.2 q) 0] z).1 = 0
        · rw [if_pos hr, if_pos hr]; rfl
        · rw [if_neg hr, if_neg hr]
    · rw [if_neg hq, if_neg hq, tfin, cl1, if_pos rfl]; rfl
theorem tf0_cl {v : Int32} {g : Nat → Int32} {tm s tE : TT} (h : MEM tm s) : ∀ (m q : Nat) (z : RS × RS × TT), tf0 v g tm tE m q z = tfin (txt s.1 s.2 m q).2 (cl0 v g tm tE (txt s.1 s.2 m q).1 z)
  | 0, q, z => by rw [tf0, txt, tfin, cl0, if_pos rfl]; rfl
  | m + 1, q, z => by
    rw [tf0, txt, h.1]
    by_cases hq : q + 1 < s.1
    · rw [if_pos hq, if_pos hq, two_w h hq, tw0_cl]
      by_cases hw : nu_w s.2 q < 32768
      · simp only [if_pos hw]
        rw [show tl_no (nu_w s.2 q) 10 :: tl_no (nu_w s.2 q) 5 :: tl_no (nu_w s.2 q) 0 :: (txt s.1 s.2 m (q + 2)).1 = [tl_no (nu_w s.2 q) 10, tl_no (nu_w s.2 q) 5, tl_no (nu_w s.2 q) 0] ++ (txt s.1 s.2 m (q + 2)).1 from rfl, cl0_app]
        by_cases hr : (cl0 v g tm tE [tl_no (nu_w s.2 q) 10, tl_no (nu_w s.2 q) 5, tl_no (nu_w s.2 q) 0] z).1 = 0
        · rw [if_pos hr, if_pos hr]
          exact tf0_cl h m (q + 2) _
        · rw [if_neg hr, if_neg hr, tfin, if_neg hr]
      · simp only [if_neg hw]
        rw [tfin]
        by_cases hr : (cl0 v g tm tE [tl_no (nu_w s.2 q) 10, tl_no (nu_w s.2 q) 5, tl_no (nu_w s.2 q) 0] z).1 = 0
        · rw [if_pos hr, if_pos hr]; rfl
        · rw [if_neg hr, if_neg hr]
    · rw [if_neg hq, if_neg hq, tfin, cl0, if_pos rfl]; rfl
