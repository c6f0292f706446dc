/-! The choice and the numbers of the best row, side by side. -/
def RELB (rs i : Nat) (c : FC) (y : BY) : Prop := (∀ j, i ≤ j → j ≤ rs → c.1 j = y.1 j) ∧ ∀ j, i ≤ j → j < rs → c.2 j = y.2.1 j
def CHI (e : Nat) (o : Int32) : Prop := o = -1 ∨ ∃ e' : Nat, e' < e ∧ o = nI e'
/-- what both know of all entries -/
def ALLE (us rs : Nat) (rf : Nat → Int32) (le : Nat → Nat) (st : Nat → Int32) (es : Nat → Nat) (et : Nat → Int32) : Prop := (∀ j, j < 96 → es j ≤ 1000 ∧ (es j ≠ 0 → le j = es j) ∧ ∀ i, i < rs → (BIT st i j = true ↔ ¬ fits es et rs rf j i = 0)) ∧ ∀ j, us ≤ j → j < 96 → es j = 0
theorem RELB.up {rs i e X : Nat} {c : FC} {y : BY} {x : NX} (h : RELB rs i c y) : RELB rs i (ce_up i X e c) (upN y.1 i X, upd y.2.1 i (nI e), x) := by
  obtain ⟨h1, h2⟩ := h
  refine ⟨fun j j1 j2 => ?_, fun j j1 j2 => ?_⟩
  · show upN c.1 i X j = upN y.1 i X j
    by_cases q : j = i
    · rw [q, upN_s, upN_s]
    · rw [upN_n q, upN_n q]; exact h1 j j1 j2
  · show upd c.2 i (nI e) j = upd y.2.1 i (nI e) j
    by_cases q : j = i
    · rw [q, upd_s, upd_s]
    · rw [upd_n q, upd_n q]; exact h2 j j1 j2
section BO
variable {v : Int32} {g lt rf : Nat → Int32} {es : Nat → Nat} {et : Nat → Int32} {rs us : Nat} {le : Nat → Nat} {st : Nat → Int32}
theorem ce_bo_one {i e : Nat} {c : FC} {y : BY} (hv : VER v) (hl : LET g lt) (hA : ALLE (zus v) rs rf le st es et) (hc : SG (rf i)) (hi : i < rs) (he : e < zus v) (h : RELB rs i c y) (hch : CHI e (c.2 i)) : RELB rs i (ce_one le st rs (if rf i = 32 then 1 else 0) i e c) (bo_one v lt rf es et rs i e y) ∧ CHI (e + 1) ((ce_one le st rs (if rf i = 32 then 1 else 0) i e c).2 i) := by
  have he96 : e < 96 := Nat.lt_of_lt_of_le he zus_le
  obtain ⟨a1, a2, a3⟩ := hA.1 e he96
  have hch' : CHI (e + 1) (c.2 i) := by
    rcases hch with q | ⟨e', q1, q2⟩
    · exact Or.inl q
    · exact Or.inr ⟨e', by omega, q2⟩
  have hup : ∀ X, CHI (e + 1) ((ce_up i X e c).2 i) := fun X => Or.inr ⟨e, by omega, by show upd c.2 i (nI e) i = _; rw [upd_s]⟩
  unfold ce_one bo_one
  by_cases hf : fits es et rs rf e i = 0
  · have hb : ce_bit st i e = 0 := ce_BIT.mpr (by
      cases hB : BIT st i e with
      | false => rfl
      | true => exact absurd hf ((a3 i hi).mp hB))
    rw [if_pos hf, if_pos hb]; exact ⟨h, hch'⟩
  · have hb : ¬ ce_bit st i e = 0 := fun z => by
      have := ce_BIT.mp z
      rw [(a3 i hi).mpr hf] at this
      cases this
    obtain ⟨f1, f2⟩ := fits_in hf
    have hle : le e = es e := a2 (by omega)
    have k1 : c.1 (i + es e) = y.1 (i + es e) := h.1 _ (by omega) f2
    have k2 : c.1 i = y.1 i := h.1 i (Nat.le_refl _) (by omega)
    have k3 : c.2 i = y.2.1 i := h.2 i (Nat.le_refl _) hi
    rw [if_neg hf, if_neg hb, hle, if_pos f2, k1, k2]
    by_cases l1 : 2 + y.1 (i + es e) < y.1 i
    · rw [if_pos l1, if_pos l1]; exact ⟨h.up, hup _⟩
    · rw [if_neg l1, if_neg l1]
      by_cases l2 : 2 + y.1 (i + es e) = y.1 i
      · rw [if_pos l2, if_pos l2]
        have hah := ah_val (es := es) (b := y.2.1) (x := y.2.2) hv hl hc hi he (show CHI e (y.2.1 i) by rw [← k3]; exact hch)
        by_cases o1 : c.2 i = -1
        · rw [if_pos o1]
          by_cases o2 : rf i = 32
          · rw [if_pos o2, if_neg (by decide), if_pos (hah.mpr (fun z => z.2 o2))]
            exact ⟨h, hch'⟩
          · rw [if_neg o2, if_pos rfl, if_neg (fun z => hah.mp z ⟨by rw [← k3]; exact o1, o2⟩)]
            exact ⟨h.up, hup _⟩
        · rw [if_neg o1, if_pos (hah.mpr (fun z => o1 (by rw [k3]; exact z.1)))]
          exact ⟨h, hch'⟩
      · rw [if_neg l2, if_neg l2]; exact ⟨h, hch'⟩
theorem ce_bo_all {i : Nat} (hv : VER v) (hl : LET g lt) (hA : ALLE (zus v) rs rf le st es et) (hc : SG (rf i)) (hi : i < rs) : ∀ (m e : Nat) (c : FC) (y : BY), e + m = zus v → RELB rs i c y → CHI e (c.2 i) → RELB rs i (ce_all le st rs (if rf i = 32 then 1 else 0) i m e c) (bo_es v lt rf es et rs i m e y)
  | 0, _, _, _, _, h, _ => h
  | m + 1, e, c, y, he, h, hch => by
    rw [ce_all, bo_es]
    obtain ⟨r1, r2⟩ := ce_bo_one hv hl hA hc hi (by omega) h hch
    exact ce_bo_all hv hl hA hc hi m (e + 1) _ _ (by omega) r1 r2
theorem bo_es_add {i : Nat} (m2 : Nat) : ∀ (m e : Nat) (y : BY), bo_es v lt rf es et rs i (m + m2) e y = bo_es v lt rf es et rs i m2 (e + m) (bo_es v lt rf es et rs i m e y)
  | 0, e, y => by rw [Nat.zero_add]; rfl
  | m + 1, e, y => by
    rw [show m + 1 + m2 = (m + m2) + 1 by omega, bo_es, bo_es, bo_es_add m2 m (e + 1), show e + 1 + m = e + (m + 1) by omega]
theorem bo_es_rest {i : Nat} (h0 : ∀ j, us ≤ j → j < 96 → es j = 0) : ∀ (m e : Nat) (y : BY), us ≤ e → e + m ≤ 96 → bo_es v lt rf es et rs i m e y = y
  | 0, _, _, _, _ => rfl
  | m + 1, e, y, h1, h2 => by
    rw [bo_es, bo_one, if_pos (fits_0 (h0 e h1 (by omega)))]
    exact bo_es_rest h0 m (e + 1) y (by omega) (by omega)
theorem ch_bo {tr : TT} (hv : VER v) (hl : LET g lt) (hr : ROW tr rs rf) (hA : ALLE (zus v) rs rf le st es et) : ∀ (i : Nat) (x : TT × FC) (y : BY), i ≤ rs → x.1.1 ≤ 4 → RELB rs i x.2 y → RELB rs 0 (ch_all v g tr (zus v) le st i x).2 (bo_all v lt rf es et rs i y)
  | 0, _, _, _, _, h => h
  | i + 1, x, y, hi, h4, h => by
    have hus := zus_le (v := v)
    have hg := hr.get (j := i) (by omega)
    have hs : SG (rf i) := hr.2.2.2 i (by omega)
    have hlen := nl_len (v := v) (lt := lt) (c := rf i)
    have hn : (sp_n v g (rf i) x.1).1 = (no v lt (rf i) y.2.2.2.2.2).1 := by
      rw [sp_n, sp_nl hv hl hs.nn, rw_c0_1 (by omega), ra_ps _ _ (by show 0 + _ ≤ 4; omega), ps_1, no_nl.1]
      show 0 + _ = _
      omega
    rw [ch_all, bo_all, ch_one, hg, hr.1]
    refine ch_bo hv hl hr hA i _ _ (by omega) (sp_le (rw_c_le h4 (by decide))) ?_
    have e : bo_es v lt rf es et rs i 96 0 (bo_0 v lt rf i y) = bo_es v lt rf es et rs i (zus v) 0 (bo_0 v lt rf i y) := by
      have := bo_es_add (v := v) (lt := lt) (rf := rf) (es := es) (et := et) (rs := rs) (i := i) (96 - zus v) (zus v) 0 (bo_0 v lt rf i y)
      rw [show zus v + (96 - zus v) = 96 by omega, Nat.zero_add] at this
      rw [this]
      exact bo_es_rest hA.2 _ _ _ (Nat.le_refl _) (by omega)
    rw [e]
    refine ce_bo_all hv hl hA hs (by omega) _ _ _ _ (by omega) ⟨fun j j1 j2 => ?_, fun j j1 j2 => ?_⟩ (Or.inl (by show upd x.2.2 i (-1) i = -1; rw [upd_s]))
    · show upN x.2.1 i _ j = upN y.1 i _ j
      by_cases q : j = i
      · rw [q, upN_s, upN_s, hn, h.1 (i + 1) (Nat.le_refl _) hi]
      · rw [upN_n q, upN_n q]; exact h.1 j (by omega) j2
    · show upd x.2.2 i (-1) j = upd y.2.1 i (-1) j
      by_cases q : j = i
      · rw [q, upd_s, upd_s]
      · rw [upd_n q, upd_n q]; exact h.2 j (by omega) j2
theorem bo_es_ok {i : Nat} (hi : i < rs) : ∀ (m e : Nat) (y : BY), e + m ≤ 96 → BOok es rs i y → BOok es rs i (bo_es v lt rf es et rs i m e y)
  | 0, _, _, _, h => h
  | m + 1, e, y, he, h => by
    rw [bo_es]
    exact bo_es_ok hi m (e + 1) _ (by omega) (bo_one_ok hi (by omega) h)
theorem bo_all_ok (hrs : rs ≤ 1000) : ∀ (i : Nat) (y : BY), i ≤ rs → BOok es rs i y → BOok es rs 0 (bo_all v lt rf es et rs i y)
  | 0, _, _, h => h
  | i + 1, y, hi, h => by
    rw [bo_all]
    exact bo_all_ok hrs i _ (by omega) (bo_es_ok (by omega) _ _ _ (by decide) (bo_0_ok hrs (by omega) h))
/-! the numbers as a list -/
def cur (v : Int32) (lt rf : Nat → Int32) (b : Nat → Int32) (p : Nat) : List Int32 := if b p < 0 then nl v lt (rf p) else [1 + b p / 32, b p - b p / 32 * 32]
def nxt (es : Nat → Nat) (b : Nat → Int32) (p : Nat) : Nat := if b p < 0 then p + 1 else p + es (b p).toNatClampNeg
def nls (v : Int32) (lt rf : Nat → Int32) (es : Nat → Nat) (rs : Nat) (b : Nat → Int32) : Nat → Nat → List Int32
  | 0, _ => []
  | m + 1, p => if p < rs then cur v lt rf b p ++ nls v lt rf es rs b m (nxt es b p) else []
variable {b : Nat → Int32}
theorem nxt_gt (hb : BYok es rs 0 b) {p : Nat} (hp : p < rs) : p + 1 ≤ nxt es b p := by
  unfold nxt
  by_cases h : b p < 0
  · rw [if_pos h]; omega
  · rw [if_neg h]
    obtain ⟨e, he, ee, h1⟩ := (hb p (Nat.zero_le _) hp).ge (Int32.not_lt.mp h)
    rw [ee, nI_clamp (by omega)]
    omega
theorem nls_fuel (hb : BYok es rs 0 b) : ∀ (m m' p : Nat), rs ≤ p + m → rs ≤ p + m' → nls v lt rf es rs b m p = nls v lt rf es rs b m' p
  | 0, m', p, h, _ => by
    cases m' with
    | zero => rfl
    | succ m' => rw [nls, nls, if_neg (by omega)]
  | m + 1, m', p, h, h' => by
    cases m' with
    | zero => rw [nls, nls, if_neg (by omega)]
    | succ m' =>
      rw [nls, nls]
      by_cases hp : p < rs
      · have := nxt_gt hb hp
        rw [if_pos hp, if_pos hp, nls_fuel hb m m' _ (by omega) (by omega)]
      · rw [if_neg hp, if_neg hp]
def NLS (v : Int32) (lt rf : Nat → Int32) (es : Nat → Nat) (rs : Nat) (b : Nat → Int32) (p : Nat) : List Int32 := nls v lt rf es rs b rs p
theorem NLS_unf (hb : BYok es rs 0 b) {p : Nat} : NLS v lt rf es rs b p = if p < rs then cur v lt rf b p ++ NLS v lt rf es rs b (nxt es b p) else [] := by
  unfold NLS
  rw [nls_fuel hb rs (rs + 1) p (by omega) (by omega), nls]
theorem cur_len {p : Nat} : 1 ≤ (cur v lt rf b p).length ∧ (cur v lt rf b p).length ≤ 4 := by
  unfold cur
  split
  · exact nl_len
  · exact ⟨show 1 ≤ 2 by decide, show 2 ≤ 4 by decide⟩
theorem cur_val {g : Nat → Int32} (hl : LET g lt) {p : Nat} (hc : SG (rf p)) (he : EOk es (b p)) : ∀ x ∈ cur v lt rf b p, B32 x := by
  unfold cur
  split
  · exact nl_val hl hc
  · rename_i h
    obtain ⟨e, he, ee, -⟩ := he.ge (Int32.not_lt.mp h)
    rw [ee, show (32 : Int32) = nI 32 from rfl, pk_rem (by omega) (by decide) (by decide), pk_div (by omega) (by decide) (by decide), show (1 : Int32) = nI 1 from rfl, nI_add]
    intro x hx
    simp only [List.mem_cons, List.not_mem_nil, or_false] at hx
    rcases hx with rfl | rfl
    · exact ⟨1 + e / 32, by omega, rfl⟩
    · exact ⟨e % 32, by omega, rfl⟩
theorem nls_all {g : Nat → Int32} (hl : LET g lt) (hsg : ∀ j, j < rs → SG (rf j)) (hb : BYok es rs 0 b) : ∀ (m p : Nat), (∀ x ∈ nls v lt rf es rs b m p, B32 x) ∧ (nls v lt rf es rs b m p).length ≤ 4 * (rs - p)
  | 0, _ => ⟨fun x hx => absurd hx (List.not_mem_nil), Nat.zero_le _⟩
  | m + 1, p => by
    rw [nls]
    by_cases hp : p < rs
    · obtain ⟨i1, i2⟩ := nls_all hl hsg hb m (nxt es b p)
      have hn := nxt_gt hb hp
      have hc := cur_len (v := v) (lt := lt) (rf := rf) (b := b) (p := p)
      rw [if_pos hp]
      refine ⟨fun x hx => ?_, ?_⟩
      · rcases List.mem_append.mp hx with q | q
        · exact cur_val hl (hsg p hp) (hb p (Nat.zero_le _) hp) x q
        · exact i1 x q
      · rw [List.length_append]; omega
    · rw [if_neg hp]; exact ⟨fun x hx => absurd hx (List.not_mem_nil), Nat.zero_le _⟩
theorem drop_cons {l : List Int32} {k : Nat} {y : Int32} (h : l[k]? = some y) : l.drop k = y :: l.drop (k + 1) := by
  obtain ⟨hk, e⟩ := List.getElem?_eq_some_iff.mp h
  rw [List.drop_eq_getElem_cons hk, e]
/-- what is left of the numbers -/
def REMX (v : Int32) (lt rf : Nat → Int32) (es : Nat → Nat) (rs : Nat) (b : Nat → Int32) (x : NX) (L : List Int32) : Prop := (x.1 0 < rs ∧ x.2.1 0 = b (x.1 0) ∧ x.2.2.1 0 < (cur v lt rf b (x.1 0)).length ∧ L = (cur v lt rf b (x.1 0)).drop (x.2.2.1 0) ++ NLS v lt rf es rs b (nxt es b (x.1 0))) ∨ (rs ≤ x.1 0 ∧ L = [])
theorem REMX.at {x : NX} (hb : BYok es rs 0 b) (h1 : x.1 0 < rs → x.2.1 0 = b (x.1 0)) (h2 : x.2.2.1 0 = 0) : REMX v lt rf es rs b x (NLS v lt rf es rs b (x.1 0)) := by
  rw [NLS_unf hb]
  by_cases hp : x.1 0 < rs
  · rw [if_pos hp]
    exact Or.inl ⟨hp, h1 hp, by rw [h2]; exact cur_len.1, by rw [h2]; rfl⟩
  · rw [if_neg hp]; exact Or.inr ⟨by omega, rfl⟩
theorem nx_list {x : NX} {L : List Int32} (hb : BYok es rs 0 b) (h : REMX v lt rf es rs b x L) : (∃ y L', L = y :: L' ∧ (nx v lt rf es rs b 0 x).1 = y ∧ REMX v lt rf es rs b (nx v lt rf es rs b 0 x).2 L') ∨ (L = [] ∧ nx v lt rf es rs b 0 x = (-1, x)) := by
  rcases h with ⟨hp, hby, hst, hL⟩ | ⟨hp, hL⟩
  · left
    have hE := hb (x.1 0) (Nat.zero_le _) hp
    have hk : nx_k v lt rf 0 x = (cur v lt rf b (x.1 0)).length := by
      unfold nx_k cur
      rw [hby]
      by_cases q : b (x.1 0) < 0
      · rw [if_pos q, if_neg (Int32.not_le.mpr q), ← no_1 (f := fun _ => 0), no_nl.1]
      · rw [if_neg q, if_pos (Int32.not_lt.mp q)]; rfl
    have hnp : nx_p es 0 x = nxt es b (x.1 0) := by
      unfold nx_p nxt
      rw [hby]
      by_cases q : b (x.1 0) < 0
      · rw [if_pos q, if_neg (Int32.not_le.mpr q)]
      · rw [if_neg q, if_pos (Int32.not_lt.mp q)]
    have hval : (cur v lt rf b (x.1 0))[x.2.2.1 0]? = some (nx_v v lt rf 0 x) := by
      unfold nx_v nx_n
      unfold cur at hst ⊢
      rw [hby]
      by_cases q : b (x.1 0) < 0
      · rw [if_pos q] at hst ⊢
        rw [if_neg (Int32.not_le.mpr q), if_neg (Int32.not_le.mpr q)]
        exact no_nl.2.1 _ hst
      · rw [if_neg q] at hst ⊢
        rw [if_pos (Int32.not_lt.mp q)]
        have hst2 : x.2.2.1 0 < 2 := hst
        rcases (show x.2.2.1 0 = 0 ∨ x.2.2.1 0 = 1 by omega) with z | z
        · rw [z, if_pos rfl]; rfl
        · rw [z, if_neg (by decide)]; rfl
    refine ⟨nx_v v lt rf 0 x, _, by rw [hL, drop_cons hval, List.cons_append], by rw [nx, if_pos hp], ?_⟩
    rw [nx, if_pos hp]
    show REMX v lt rf es rs b (nx_s v lt rf es rs b 0 x) _
    unfold nx_s
    rw [nx_n_1, hk, hnp]
    by_cases hlast : x.2.2.1 0 + 1 = (cur v lt rf b (x.1 0)).length
    · rw [if_pos hlast, hlast, List.drop_length, List.nil_append]
      have hh := REMX.at (v := v) (lt := lt) (rf := rf) (es := es) (rs := rs) (b := b) (x := (upN x.1 0 (nxt es b (x.1 0)), upd x.2.1 0 (if rs ≤ nxt es b (x.1 0) then -1 else b (nxt es b (x.1 0))), upN (upN x.2.2.1 0 ((cur v lt rf b (x.1 0)).length)) 0 0, (nx_n v lt rf 0 x).2)) hb (fun hq => by
        have hq2 : upN x.1 0 (nxt es b (x.1 0)) 0 < rs := hq
        rw [upN_s] at hq2
        show upd x.2.1 0 (if rs ≤ nxt es b (x.1 0) then -1 else b (nxt es b (x.1 0))) 0 = b (upN x.1 0 (nxt es b (x.1 0)) 0)
        rw [upd_s, upN_s, if_neg (by omega)]) (by show upN (upN x.2.2.1 0 ((cur v lt rf b (x.1 0)).length)) 0 0 0 = 0; rw [upN_s])
      have e1 : ((upN x.1 0 (nxt es b (x.1 0)), upd x.2.1 0 (if rs ≤ nxt es b (x.1 0) then -1 else b (nxt es b (x.1 0))), upN (upN x.2.2.1 0 ((cur v lt rf b (x.1 0)).length)) 0 0, (nx_n v lt rf 0 x).2) : NX).1 0 = nxt es b (x.1 0) := by show upN x.1 0 (nxt es b (x.1 0)) 0 = _; exact upN_s
      rw [e1] at hh
      exact hh
    · rw [if_neg hlast]
      refine Or.inl ⟨hp, hby, ?_, ?_⟩
      · show upN x.2.2.1 0 (x.2.2.1 0 + 1) 0 < (cur v lt rf b (x.1 0)).length; rw [upN_s]; omega
      · show _ = List.drop (upN x.2.2.1 0 (x.2.2.1 0 + 1) 0) (cur v lt rf b (x.1 0)) ++ NLS v lt rf es rs b (nxt es b (x.1 0)); rw [upN_s]
  · right
    exact ⟨hL, by rw [nx, if_neg (by omega)]⟩
theorem pb_list (hb : BYok es rs 0 b) : ∀ (L : List Int32) (m : Nat) (x : NX) (t : TT), L.length < m → (∀ y ∈ L, B32 y) → REMX v lt rf es rs b x L → (pb_all v lt rf es rs b m ((nx v lt rf es rs b 0 x).1, (nx v lt rf es rs b 0 x).2, t)).2.2 = ps L t
  | [], m, x, t, hm, _, h => by
    rcases nx_list hb h with ⟨y, L', e, -⟩ | ⟨-, e⟩
    · cases e
    · obtain ⟨m, rfl⟩ : ∃ k, m = k + 1 := ⟨m - 1, by simp at hm; omega⟩
      rw [e, pb_all, if_pos (show (-1 : Int32) < 0 by decide)]; rfl
  | y :: L, m, x, t, hm, hv, h => by
    have hm2 : L.length + 1 < m := hm
    rcases nx_list hb h with ⟨y', L', e, e2, e3⟩ | ⟨e, -⟩
    · injection e with p q
      subst p; subst q
      obtain ⟨m, rfl⟩ : ∃ k, m = k + 1 := ⟨m - 1, by omega⟩
      have hy : B32 y := hv y List.mem_cons_self
      rw [pb_all, e2, if_neg (Int32.not_lt.mpr hy.nn)]
      exact pb_list hb L m _ _ (by omega) (fun z hz => hv z (List.mem_cons_of_mem _ hz)) e3
    · cases e
theorem ra_app {cap : Nat} : ∀ (A B : List Int32) (t : TT), ra cap (A ++ B) t = ra cap B (ra cap A t)
  | [], _, _ => rfl
  | x :: A, B, t => ra_app A B _
theorem sc_list {tr : TT} {co : Nat → Int32} (hv : VER v) (hl : LET g lt) (hr : ROW tr rs rf) (hb : BYok es rs 0 b) (hco : ∀ j, j < rs → co j = b j) (hle : ∀ j, j < 96 → es j ≠ 0 → le j = es j) : ∀ (m i nx : Nat) (t : TT), i + m = rs → (sc_all v g tr le co m i (nx, t)).2 = ra 4002 (NLS v lt rf es rs b (max i nx)) t
  | 0, i, nx, t, hi => by
    rw [NLS_unf hb, if_neg (by omega)]; rfl
  | m + 1, i, nx, t, hi => by
    have hg := hr.get (j := i) (by omega)
    have hs : SG (rf i) := hr.2.2.2 i (by omega)
    have hE := hb i (Nat.zero_le _) (by omega)
    rw [sc_all, sc_one]
    dsimp only
    by_cases h1 : i < nx
    · rw [if_pos h1, sc_list hv hl hr hb hco hle m (i + 1) nx t (by omega), show max (i + 1) nx = max i nx by omega]
    · rw [if_neg h1, hco i (by omega), show max i nx = i by omega, NLS_unf hb, if_pos (show i < rs by omega), ra_app]
      by_cases h2 : b i < 0
      · rw [if_pos h2, hg, sp_nl hv hl hs.nn, sc_list hv hl hr hb hco hle m (i + 1) nx _ (by omega), show max (i + 1) nx = i + 1 by omega, cur, nxt, if_pos h2, if_pos h2]
      · obtain ⟨e, he, ee, e1⟩ := hE.ge (Int32.not_lt.mp h2)
        have h96 : ¬ 96 ≤ b i := by rw [ee]; exact nI_ge (b := 96) he (by decide)
        have ec : (b i).toNatClampNeg = e := by rw [ee, nI_clamp (by omega)]
        rw [if_neg h2, if_neg h96, sc_list hv hl hr hb hco hle m (i + 1) _ _ (by omega), cur, nxt, if_neg h2, if_neg h2, ec, hle e he (by omega), show max (i + 1) (i + es e) = i + es e by omega]
        rfl
end BO
