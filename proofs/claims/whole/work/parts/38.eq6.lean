/-! A byte of a word; parting. -/
theorem i_or {k p a b : Nat} (hp : 2 ^ k = p) (ha : a < p) (h : b * p + a < 2 ^ 32) : nI (b * p) ||| nI a = nI (b * p + a) := by
  subst hp
  have h1 : b * 2 ^ k ||| a = b * 2 ^ k + a := by rw [← Nat.shiftLeft_eq, Nat.shiftLeft_add_eq_or_of_lt ha]
  apply Int32.toBitVec_inj.mp
  apply BitVec.eq_of_toNat_eq
  rw [Int32.toBitVec_or, BitVec.toNat_or, pk_tn (by omega), pk_tn (by omega), pk_tn h, h1]
theorem i_and15 (m : Nat) : nI m &&& 32767 = nI (m % 32768) := by
  rw [pk_and _ 15 (m := 32767) (by decide)]
  congr 1
  show (BitVec.ofNat 32 m).toNat % 2 ^ 15 = _
  rw [BitVec.toNat_ofNat]
  omega
theorem sh15 : ∀ b, b < 3 → ((Int32.toInt64 (nI (15 * b)) &&& 63).toBitVec.smod 64).toNat = 15 * b := by decide +kernel
theorem by_two_eq {ws : Nat → Int64} {ln kk c ii : Nat} (hk : kk < 40) (hws : ws kk = lN c) (hc : c < 2 ^ 45) (hln : ln = 6 ∨ ln = 9) (hii : ii / 2 < ln / 3) : by_two ws ln (nI kk) (nI ii) = nI (c / 2 ^ (15 * (ln / 3 - 1 - ii / 2)) % 32768 + if ln / 3 - 1 - ii / 2 = 0 then 32768 else 0) := by
  have hb : by_b ln (nI ii) = nI (ln / 3 - 1 - ii / 2) := by
    rw [by_b, show (1 : Int32) = nI 1 from rfl, show (2 : Int32) = nI 2 from rfl, pk_div (by omega) (by decide) (by decide), pk_sub (by omega), pk_sub (by omega)]
  have hb3 : ln / 3 - 1 - ii / 2 < 3 := by omega
  obtain ⟨b, eb⟩ : ∃ b, ln / 3 - 1 - ii / 2 = b := ⟨_, rfl⟩
  rw [eb] at hb hb3 ⊢
  have e : Int64.toInt32 (ws (nI kk).toNatClampNeg >>> (Int32.toInt64 (15 * nI b) &&& 63)) &&& 32767 = nI (c / 2 ^ (15 * b) % 32768) := by
    rw [nI_clamp (by omega), hws, show (15 : Int32) = nI 15 from rfl, pk_mul, pf_shr (sh15 b hb3) (by omega), lN_i, i_and15]
  rw [by_two, hb, e]
  by_cases h0 : b = 0
  · rw [if_pos h0, if_pos (by rw [h0]; rfl), Int32.or_comm, show (32768 : Int32) = nI (1 * 32768) from rfl, i_or (k := 15) (p := 32768) rfl (Nat.mod_lt _ (by decide)) (by have := Nat.mod_lt (c / 2 ^ (15 * b)) (show 0 < 32768 by decide); omega), Nat.one_mul, Nat.add_comm]
  · rw [if_neg h0, if_neg (show ¬ nI b = 0 from fun q => h0 ((nI_eq (a := b) (b := 0) (by omega) (by decide)).mp q)), Nat.add_zero]
theorem wordByte_eq {v : Int32} {ws wo : Nat → Int64} {cn : Nat} {k i : Int32} (hd : DIC (wl v) cn ws wo) : by_of ws (wl v) cn k i = mwb v wo cn k i := by
  have h40 := hd.1
  have hln : wl v = 6 ∨ wl v = 9 := by unfold wl; split <;> simp
  obtain ⟨ln, el⟩ : ∃ ln, wl v = ln := ⟨_, rfl⟩
  rw [by_of, mwb, el]
  rw [el] at hd hln
  rcases pk_ix k (n := cn) (by omega) with q | q | ⟨kk, hk, rfl⟩
  · rw [if_pos q, if_pos q]
  · have q0 := nn_of_ge (by omega) q
    rw [if_neg q0, if_neg q0, if_pos q, if_pos q]
  · have k0 : ¬ nI kk < 0 := nI_pos (by omega)
    have k1 : ¬ nI cn ≤ nI kk := nI_ge hk (by omega)
    rw [if_neg k0, if_neg k0, if_neg k1, if_neg k1]
    have e2 : ln / 3 * 2 = 2 * (ln / 3) := Nat.mul_comm _ _
    rw [e2]
    rcases pk_ix i (n := 2 * (ln / 3)) (by omega) with q | q | ⟨ii, hi, rfl⟩
    · rw [if_pos q, if_pos q]
    · have q0 := nn_of_ge (by omega) q
      rw [if_neg q0, if_neg q0, if_pos q, if_neg (Int32.not_lt.mpr q)]
    · rw [if_neg (nI_pos (by omega)), if_neg (nI_pos (by omega)), if_pos (nI_lt hi (by omega)), if_neg (nI_ge hi (by omega))]
      obtain ⟨c, hc, e1, e3⟩ := hd.2 kk hk
      have b45 : 2 ^ (5 * ln) ≤ 2 ^ 45 := Nat.pow_le_pow_right (by decide) (by omega)
      have hme : ME ln c < 2 ^ 64 := by
        unfold ME
        split <;> omega
      rw [by_two_eq (c := c) (by omega) e1 (by omega) hln (by omega), nI_clamp (show kk < 2 ^ 31 by omega), e3]
      have hx : c / 2 ^ (15 * (ln / 3 - 1 - ii / 2)) % 32768 + (if ln / 3 - 1 - ii / 2 = 0 then 32768 else 0) < 65536 := by
        have := Nat.mod_lt (c / 2 ^ (15 * (ln / 3 - 1 - ii / 2))) (show 0 < 32768 by decide)
        split <;> omega
      have er : nI ii - nI ii / 2 * 2 = nI (ii % 2) := by rw [show (2 : Int32) = nI 2 from rfl, pk_rem (by omega) (by decide) (by decide)]
      have es : (8 : Int32) * (nI (2 * (ln / 3)) - 1 - nI ii) = nI (8 * (2 * (ln / 3) - 1 - ii)) := by
        rw [show (8 : Int32) = nI 8 from rfl, show (1 : Int32) = nI 1 from rfl, pk_sub (by omega), pk_sub (by omega), pk_mul]
      rw [er, es, wb_shr hme (by omega), show (255 : Int64) = lN (2 ^ 8 - 1) from rfl, wb_mask (Nat.lt_of_le_of_lt (Nat.div_le_self _ _) hme) (by decide), lN_i, pk_shrN (by omega) _ 8 (by decide), pk_andN (by omega) 8 (by decide)]
      have sel : ∀ a b : Nat, (if nI (ii % 2) = 0 then nI a else nI b) = nI (if ii % 2 = 0 then a else b) := by
        intro a b
        by_cases z : ii % 2 = 0
        · rw [if_pos (by rw [z]; rfl), if_pos z]
        · rw [if_neg (show ¬ nI (ii % 2) = 0 from fun y => z ((nI_eq (a := ii % 2) (b := 0) (by omega) (by decide)).mp y)), if_neg z]
      rw [sel]
      congr 1
      rcases hln with rfl | rfl
      · have h2 : ii = 0 ∨ ii = 1 ∨ ii = 2 ∨ ii = 3 := by omega
        rcases h2 with rfl | rfl | rfl | rfl <;> simp [ME] <;> omega
      · have h2 : ii = 0 ∨ ii = 1 ∨ ii = 2 ∨ ii = 3 ∨ ii = 4 ∨ ii = 5 := by omega
        rcases h2 with rfl | rfl | rfl | rfl | rfl | rfl <;> simp [ME] <;> first | omega | (rw [show (1099511627776 : Nat) = 4294967296 * 256 from rfl, ← Nat.div_div_eq_div_mul]; omega)
/-! parting: what is told of a token on both sides -/
theorem ad_pm {v : Int32} {g lt : Nat → Int32} {tr : TT} {rs : Nat} {rf : Nat → Int32} {cn : Nat} {ws wo : Nat → Int64} {a k : Nat} {z : PZ} {y : PS} (hv : VER v) (hl : LET g lt) (hr : ROW tr rs rf) (hd : DIC (wl v) cn ws wo) (hak : a < k) (hk : k ≤ rs) (hy : y.1.1 < 1000) (hz4 : z.2.2.2.1 ≤ 12) (ht : TOK z y.1) : TOK (ad_tok v g (wl v) cn ws tr a k z) (pm_tok v lt rf wo cn a k y).1 ∧ (ad_tok v g (wl v) cn ws tr a k z).2.2.2.1 ≤ 12 := by
  obtain ⟨t1, t2, t3, t4, t5⟩ := ht
  have hln : wl v = 6 ∨ wl v = 9 := by unfold wl; split <;> simp
  have ew : di_from ws (wo_w v g tr 1 (wl v) a k z.2.2.2) cn 0 = di_from wo (wf_w v lt rf 1 a (k - a) y.2) cn 0 := find_eq hln (word_eq hv hl hr (by omega) (by omega) hz4) cn 0 (fun j _ j2 => hd.2 j (by omega))
  rw [ad_tok, if_pos hak, ew, rw_a_pu (by omega), rw_a_pu (by omega), rw_a_pu (by omega)]
  refine ⟨⟨?_, ?_, ?_, ?_, fun j hj => ?_⟩, wo_f_le hz4⟩
  · show z.1.1 + 1 = y.1.1 + 1; rw [t1]
  · show z.2.1.1 + 1 = y.1.1 + 1; rw [t2]
  · show z.2.2.1.1 + 1 = y.1.1 + 1; rw [t3]
  · show y.1.1 + 1 ≤ 1000; omega
  · have hj2 : j < y.1.1 + 1 := hj
    show upd z.1.2 z.1.1 _ j = upd y.1.2.1 y.1.1 _ j ∧ upd z.2.1.2 z.2.1.1 _ j = upd y.1.2.2.1 y.1.1 _ j ∧ upd z.2.2.1.2 z.2.2.1.1 _ j = upd y.1.2.2.2 y.1.1 _ j
    rw [t1, t2, t3]
    by_cases q : j = y.1.1
    · rw [q, upd_s, upd_s, upd_s, upd_s, upd_s, upd_s]; exact ⟨rfl, rfl, rfl⟩
    · rw [upd_n q, upd_n q, upd_n q, upd_n q, upd_n q, upd_n q]
      exact t5 j (by omega)
