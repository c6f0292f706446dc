set_option maxHeartbeats 4000000 in
set_option maxRecDepth 100000 in
theorem lw_loop {p : Program} {l : Launch} {e : Env} {s_0 : State} {m : MethodId} {below : List Frame} {meth : Method} {c : Code} {sb L : Nat} {xs : Nat → Int32} {A : Nat → Prop} {D : va_G} {k : Nat → ClassId} (h hm hr he ht hs ha hte hab hd hp am ar ae at_ as_ b hwr hbr la sa fa ca hal a4 wa hf af sep hpp ap hl_ al_ hw aw : Nat) (q : Nat → Nat) (hC : lw_C p s_0 m meth c sb L xs A D k) : ∀ (fu i : Nat), L < i + fu → i ≤ L + 4 → lw_G p l e s_0 m below meth c sb A D k h hm hr he ht hs ha hte hab hd hp am ar ae at_ as_ b hwr hbr la sa fa ca hal a4 wa hf af sep hpp ap hl_ al_ hw aw q i 28 := by
  intro fu
  induction fu with
  | zero => 
    intro i hm_ hi_ v bh tm tr tE g y r0 cn ws sp_ z bm s r lt pl zm wn wo sq tk H locs ls hI hP hD hS hl
    obtain ⟨hx_, hb_, hml_, hown_, hts_, -, -, -, hA, hK, hL, -, -, -⟩ := id hC
    refine lv_iload_n hx_ hb_ dXL_law_28 rfl (lv_at hl 3 rfl) ?_
    refine lv_aload_n hx_ hb_ dXL_law_29 rfl (lv_at hl 0 rfl) ?_
    refine lw_len hC hS dXL_law_30 ?_
    refine lv_iconst (v := 4) hx_ hb_ dXL_law_31 (by decide) ?_
    refine lv_isub hx_ hb_ dXL_law_32 ?_
    refine lv_icmp_gt (tgt := 735) hx_ hb_ dXL_law_33 (by decide) (fun cc => ?_) (fun cc => ?_)
    · refine lv_iconst (v := 1) hx_ hb_ dXL_law_735 (by decide) ?_
      exact lw_end hC hS ⟨by decide, by decide⟩ dXL_law_736
    · exact absurd ((lw_test (by omega) hL).mpr (show L < i + 4 by omega)) cc
  | succ fu ih =>
    intro i hm_ hi_ v bh tm tr tE g y r0 cn ws sp_ z bm s r lt pl zm wn wo sq tk H locs ls hI hP hD hS hl
    obtain ⟨hx_, hb_, hml_, hown_, hts_, -, -, -, hA, hK, hL, -, -, -⟩ := id hC
    refine lv_iload_n hx_ hb_ dXL_law_28 rfl (lv_at hl 3 rfl) ?_
    refine lv_aload_n hx_ hb_ dXL_law_29 rfl (lv_at hl 0 rfl) ?_
    refine lw_len hC hS dXL_law_30 ?_
    refine lv_iconst (v := 4) hx_ hb_ dXL_law_31 (by decide) ?_
    refine lv_isub hx_ hb_ dXL_law_32 ?_
    refine lv_icmp_gt (tgt := 735) hx_ hb_ dXL_law_33 (by decide) (fun cc => ?_) (fun cc => ?_)
    · refine lv_iconst (v := 1) hx_ hb_ dXL_law_735 (by decide) ?_
      exact lw_end hC hS ⟨by decide, by decide⟩ dXL_law_736
    · have hi4 : i + 4 ≤ L := Nat.not_lt.mp (fun q_ => cc ((lw_test (by omega) hL).mpr q_))
      have kk : lw_G p l e s_0 m below meth c sb A D k h hm hr he ht hs ha hte hab hd hp am ar ae at_ as_ b hwr hbr la sa fa ca hal a4 wa hf af sep hpp ap hl_ al_ hw aw q i 729 := by
        intro v bh tm tr tE g y r0 cn ws sp_ z bm s r lt pl zm wn wo sq tk H locs ls hI hP hD hS hl
        refine lv_iinc (v := nI (i + 4)) (lv' := [(3, .int (nI (i + 4))), (0, .ref sb), (1, .ref h), (2, .ref (q 0))]) hx_ hb_ dXL_law_729 hl (k := 3) rfl (nI_add _ _) (by decide) rfl (fun ls hl => ?_)
        refine lv_goto (tgt := 28) hx_ hb_ dXL_law_732 (by decide) ?_
        exact ih (i + 4) (by omega) (by omega) v bh tm tr tE g y r0 cn ws sp_ z bm s r lt pl zm wn wo sq tk H locs ls hI hP hD hS (lv_sub hl [1, 2, 3, 0] rfl)
      refine lv_aload_n hx_ hb_ dXL_law_36 rfl (lv_at hl 0 rfl) ?_
      refine lv_iload_n hx_ hb_ dXL_law_37 rfl (lv_at hl 3 rfl) ?_
      refine lw_ld (i := i) hC hS (by omega) dXL_law_38 ?_
      refine lv_bipush (v := 31) hx_ hb_ dXL_law_39 (by decide) ?_
      refine lv_iand hx_ hb_ dXL_law_41 ?_
      by_cases c0 : xs i &&& 31 = 0
      · refine lv_tableIn (off := 98) (tgt := 140) hx_ hb_ dXL_law_42 (by rw [c0]; decide) (by rw [c0]; decide) (by rw [c0]; rfl) (by decide) ?_
        exact lw_c0 h hm hr he ht hs ha hte hab hd hp am ar ae at_ as_ b hwr hbr la sa fa ca hal a4 wa hf af sep hpp ap hl_ al_ hw aw q v bh tm tr tE g y r0 cn ws sp_ z bm s r lt pl zm wn wo sq tk hC hi4 hI hP hD hS hl kk
      by_cases c1 : xs i &&& 31 = 1
      · refine lv_tableIn (off := 111) (tgt := 153) hx_ hb_ dXL_law_42 (by rw [c1]; decide) (by rw [c1]; decide) (by rw [c1]; rfl) (by decide) ?_
        exact lw_c1 h hm hr he ht hs ha hte hab hd hp am ar ae at_ as_ b hwr hbr la sa fa ca hal a4 wa hf af sep hpp ap hl_ al_ hw aw q v bh tm tr tE g y r0 cn ws sp_ z bm s r lt pl zm wn wo sq tk hC hi4 hI hP hD hS hl kk
      by_cases c2 : xs i &&& 31 = 2
      · refine lv_tableIn (off := 174) (tgt := 216) hx_ hb_ dXL_law_42 (by rw [c2]; decide) (by rw [c2]; decide) (by rw [c2]; rfl) (by decide) ?_
        exact lw_c2 h hm hr he ht hs ha hte hab hd hp am ar ae at_ as_ b hwr hbr la sa fa ca hal a4 wa hf af sep hpp ap hl_ al_ hw aw q v bh tm tr tE g y r0 cn ws sp_ z bm s r lt pl zm wn wo sq tk hC hi4 hI hP hD hS hl kk
      by_cases c3 : xs i &&& 31 = 3
      · refine lv_tableIn (off := 197) (tgt := 239) hx_ hb_ dXL_law_42 (by rw [c3]; decide) (by rw [c3]; decide) (by rw [c3]; rfl) (by decide) ?_
        exact lw_c3 h hm hr he ht hs ha hte hab hd hp am ar ae at_ as_ b hwr hbr la sa fa ca hal a4 wa hf af sep hpp ap hl_ al_ hw aw q v bh tm tr tE g y r0 cn ws sp_ z bm s r lt pl zm wn wo sq tk hC hi4 hI hP hD hS hl kk
      by_cases c4 : xs i &&& 31 = 4
      · refine lv_tableIn (off := 230) (tgt := 272) hx_ hb_ dXL_law_42 (by rw [c4]; decide) (by rw [c4]; decide) (by rw [c4]; rfl) (by decide) ?_
        exact lw_c4 h hm hr he ht hs ha hte hab hd hp am ar ae at_ as_ b hwr hbr la sa fa ca hal a4 wa hf af sep hpp ap hl_ al_ hw aw q v bh tm tr tE g y r0 cn ws sp_ z bm s r lt pl zm wn wo sq tk hC hi4 hI hP hD hS hl kk
      by_cases c5 : xs i &&& 31 = 5
      · refine lv_tableIn (off := 253) (tgt := 295) hx_ hb_ dXL_law_42 (by rw [c5]; decide) (by rw [c5]; decide) (by rw [c5]; rfl) (by decide) ?_
        exact lw_c5 h hm hr he ht hs ha hte hab hd hp am ar ae at_ as_ b hwr hbr la sa fa ca hal a4 wa hf af sep hpp ap hl_ al_ hw aw q v bh tm tr tE g y r0 cn ws sp_ z bm s r lt pl zm wn wo sq tk hC hi4 hI hP hD hS hl kk
      by_cases c6 : xs i &&& 31 = 6
      · refine lv_tableIn (off := 276) (tgt := 318) hx_ hb_ dXL_law_42 (by rw [c6]; decide) (by rw [c6]; decide) (by rw [c6]; rfl) (by decide) ?_
        exact lw_c6 h hm hr he ht hs ha hte hab hd hp am ar ae at_ as_ b hwr hbr la sa fa ca hal a4 wa hf af sep hpp ap hl_ al_ hw aw q v bh tm tr tE g y r0 cn ws sp_ z bm s r lt pl zm wn wo sq tk hC hi4 hI hP hD hS hl kk
      by_cases c7 : xs i &&& 31 = 7
      · refine lv_tableIn (off := 339) (tgt := 381) hx_ hb_ dXL_law_42 (by rw [c7]; decide) (by rw [c7]; decide) (by rw [c7]; rfl) (by decide) ?_
        exact lw_c7 h hm hr he ht hs ha hte hab hd hp am ar ae at_ as_ b hwr hbr la sa fa ca hal a4 wa hf af sep hpp ap hl_ al_ hw aw q v bh tm tr tE g y r0 cn ws sp_ z bm s r lt pl zm wn wo sq tk hC hi4 hI hP hD hS hl kk
      by_cases c8 : xs i &&& 31 = 8
      · refine lv_tableIn (off := 352) (tgt := 394) hx_ hb_ dXL_law_42 (by rw [c8]; decide) (by rw [c8]; decide) (by rw [c8]; rfl) (by decide) ?_
        exact lw_c8 h hm hr he ht hs ha hte hab hd hp am ar ae at_ as_ b hwr hbr la sa fa ca hal a4 wa hf af sep hpp ap hl_ al_ hw aw q v bh tm tr tE g y r0 cn ws sp_ z bm s r lt pl zm wn wo sq tk hC hi4 hI hP hD hS hl kk
      by_cases c9 : xs i &&& 31 = 9
      · refine lv_tableIn (off := 375) (tgt := 417) hx_ hb_ dXL_law_42 (by rw [c9]; decide) (by rw [c9]; decide) (by rw [c9]; rfl) (by decide) ?_
        exact lw_c9 h hm hr he ht hs ha hte hab hd hp am ar ae at_ as_ b hwr hbr la sa fa ca hal a4 wa hf af sep hpp ap hl_ al_ hw aw q v bh tm tr tE g y r0 cn ws sp_ z bm s r lt pl zm wn wo sq tk hC hi4 hI hP hD hS hl kk
      by_cases c10 : xs i &&& 31 = 10
      · refine lv_tableIn (off := 418) (tgt := 460) hx_ hb_ dXL_law_42 (by rw [c10]; decide) (by rw [c10]; decide) (by rw [c10]; rfl) (by decide) ?_
        exact lw_c10 h hm hr he ht hs ha hte hab hd hp am ar ae at_ as_ b hwr hbr la sa fa ca hal a4 wa hf af sep hpp ap hl_ al_ hw aw q v bh tm tr tE g y r0 cn ws sp_ z bm s r lt pl zm wn wo sq tk hC hi4 hI hP hD hS hl kk
      by_cases c11 : xs i &&& 31 = 11
      · refine lv_tableIn (off := 451) (tgt := 493) hx_ hb_ dXL_law_42 (by rw [c11]; decide) (by rw [c11]; decide) (by rw [c11]; rfl) (by decide) ?_
        exact lw_c11 h hm hr he ht hs ha hte hab hd hp am ar ae at_ as_ b hwr hbr la sa fa ca hal a4 wa hf af sep hpp ap hl_ al_ hw aw q v bh tm tr tE g y r0 cn ws sp_ z bm s r lt pl zm wn wo sq tk hC hi4 hI hP hD hS hl kk
      by_cases c12 : xs i &&& 31 = 12
      · refine lv_tableIn (off := 474) (tgt := 516) hx_ hb_ dXL_law_42 (by rw [c12]; decide) (by rw [c12]; decide) (by rw [c12]; rfl) (by decide) ?_
        exact lw_c12 h hm hr he ht hs ha hte hab hd hp am ar ae at_ as_ b hwr hbr la sa fa ca hal a4 wa hf af sep hpp ap hl_ al_ hw aw q v bh tm tr tE g y r0 cn ws sp_ z bm s r lt pl zm wn wo sq tk hC hi4 hI hP hD hS hl kk
      by_cases c13 : xs i &&& 31 = 13
      · refine lv_tableIn (off := 487) (tgt := 529) hx_ hb_ dXL_law_42 (by rw [c13]; decide) (by rw [c13]; decide) (by rw [c13]; rfl) (by decide) ?_
        exact lw_c13 h hm hr he ht hs ha hte hab hd hp am ar ae at_ as_ b hwr hbr la sa fa ca hal a4 wa hf af sep hpp ap hl_ al_ hw aw q v bh tm tr tE g y r0 cn ws sp_ z bm s r lt pl zm wn wo sq tk hC hi4 hI hP hD hS hl kk
      by_cases c14 : xs i &&& 31 = 14
      · refine lv_tableIn (off := 510) (tgt := 552) hx_ hb_ dXL_law_42 (by rw [c14]; decide) (by rw [c14]; decide) (by rw [c14]; rfl) (by decide) ?_
        exact lw_c14 h hm hr he ht hs ha hte hab hd hp am ar ae at_ as_ b hwr hbr la sa fa ca hal a4 wa hf af sep hpp ap hl_ al_ hw aw q v bh tm tr tE g y r0 cn ws sp_ z bm s r lt pl zm wn wo sq tk hC hi4 hI hP hD hS hl kk
      by_cases c15 : xs i &&& 31 = 15
      · refine lv_tableIn (off := 533) (tgt := 575) hx_ hb_ dXL_law_42 (by rw [c15]; decide) (by rw [c15]; decide) (by rw [c15]; rfl) (by decide) ?_
        exact lw_c15 h hm hr he ht hs ha hte hab hd hp am ar ae at_ as_ b hwr hbr la sa fa ca hal a4 wa hf af sep hpp ap hl_ al_ hw aw q v bh tm tr tE g y r0 cn ws sp_ z bm s r lt pl zm wn wo sq tk hC hi4 hI hP hD hS hl kk
      by_cases c16 : xs i &&& 31 = 16
      · refine lv_tableIn (off := 546) (tgt := 588) hx_ hb_ dXL_law_42 (by rw [c16]; decide) (by rw [c16]; decide) (by rw [c16]; rfl) (by decide) ?_
        exact lw_c16 h hm hr he ht hs ha hte hab hd hp am ar ae at_ as_ b hwr hbr la sa fa ca hal a4 wa hf af sep hpp ap hl_ al_ hw aw q v bh tm tr tE g y r0 cn ws sp_ z bm s r lt pl zm wn wo sq tk hC hi4 hI hP hD hS hl kk
      by_cases c17 : xs i &&& 31 = 17
      · refine lv_tableIn (off := 579) (tgt := 621) hx_ hb_ dXL_law_42 (by rw [c17]; decide) (by rw [c17]; decide) (by rw [c17]; rfl) (by decide) ?_
        exact lw_c17 h hm hr he ht hs ha hte hab hd hp am ar ae at_ as_ b hwr hbr la sa fa ca hal a4 wa hf af sep hpp ap hl_ al_ hw aw q v bh tm tr tE g y r0 cn ws sp_ z bm s r lt pl zm wn wo sq tk hC hi4 hI hP hD hS hl kk
      by_cases c18 : xs i &&& 31 = 18
      · refine lv_tableIn (off := 592) (tgt := 634) hx_ hb_ dXL_law_42 (by rw [c18]; decide) (by rw [c18]; decide) (by rw [c18]; rfl) (by decide) ?_
        exact lw_c18 h hm hr he ht hs ha hte hab hd hp am ar ae at_ as_ b hwr hbr la sa fa ca hal a4 wa hf af sep hpp ap hl_ al_ hw aw q v bh tm tr tE g y r0 cn ws sp_ z bm s r lt pl zm wn wo sq tk hC hi4 hI hP hD hS hl kk
      by_cases c19 : xs i &&& 31 = 19
      · refine lv_tableIn (off := 641) (tgt := 683) hx_ hb_ dXL_law_42 (by rw [c19]; decide) (by rw [c19]; decide) (by rw [c19]; rfl) (by decide) ?_
        exact lw_c19 h hm hr he ht hs ha hte hab hd hp am ar ae at_ as_ b hwr hbr la sa fa ca hal a4 wa hf af sep hpp ap hl_ al_ hw aw q v bh tm tr tE g y r0 cn ws sp_ z bm s r lt pl zm wn wo sq tk hC hi4 hI hP hD hS hl kk
      by_cases c20 : xs i &&& 31 = 20
      · refine lv_tableIn (off := 654) (tgt := 696) hx_ hb_ dXL_law_42 (by rw [c20]; decide) (by rw [c20]; decide) (by rw [c20]; rfl) (by decide) ?_
        exact lw_c20 h hm hr he ht hs ha hte hab hd hp am ar ae at_ as_ b hwr hbr la sa fa ca hal a4 wa hf af sep hpp ap hl_ al_ hw aw q v bh tm tr tE g y r0 cn ws sp_ z bm s r lt pl zm wn wo sq tk hC hi4 hI hP hD hS hl kk
      refine lv_tableOut (tgt := 729) hx_ hb_ dXL_law_42 (by have q0 := lv_neT (a := 0) c0 (by decide); have q1 := lv_neT (a := 1) c1 (by decide); have q2 := lv_neT (a := 2) c2 (by decide); have q3 := lv_neT (a := 3) c3 (by decide); have q4 := lv_neT (a := 4) c4 (by decide); have q5 := lv_neT (a := 5) c5 (by decide); have q6 := lv_neT (a := 6) c6 (by decide); have q7 := lv_neT (a := 7) c7 (by decide); have q8 := lv_neT (a := 8) c8 (by decide); have q9 := lv_neT (a := 9) c9 (by decide); have q10 := lv_neT (a := 10) c10 (by decide); have q11 := lv_neT (a := 11) c11 (by decide); have q12 := lv_neT (a := 12) c12 (by decide); have q13 := lv_neT (a := 13) c13 (by decide); have q14 := lv_neT (a := 14) c14 (by decide); have q15 := lv_neT (a := 15) c15 (by decide); have q16 := lv_neT (a := 16) c16 (by decide); have q17 := lv_neT (a := 17) c17 (by decide); have q18 := lv_neT (a := 18) c18 (by decide); have q19 := lv_neT (a := 19) c19 (by decide); have q20 := lv_neT (a := 20) c20 (by decide); omega) (by decide) ?_
      exact kk v bh tm tr tE g y r0 cn ws sp_ z bm s r lt pl zm wn wo sq tk H locs ls hI hP hD hS hl
