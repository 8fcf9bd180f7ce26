set_option maxHeartbeats 4000000 in
set_option maxRecDepth 100000 in
/-- the law's loop: as long as the two memories have Iv in common, every case answers alike -/
theorem lw_loop {p : Program} {l : Launch} {e : Env} {s : State} {m : MethodId} {below : List Frame} {meth : Method} {c : Code} {b L : Nat} {xs : Nat → Int32} {g : Gl} {Iv : Nat → Mem → Mem → Prop} (hL : L ≤ 320) (E : av_E p s m #[Value.ref b] meth c code RL 4 ret) (Xc : av_X av_wc g s) (Xm : av_X av_wm g s) (hX : va_X b L xs s s.heap) (hbl : b < s.heap.size) (hlow : lw_low s g) (hst : lw_step Iv) :
    ∀ (n i : Nat), L < i + n → i ≤ L → ∀ {μ ν : Mem} (_ : Iv i μ ν) {H : Heap} {ls : Array Slot} (_ : av_R av_wc g μ s H []) (_ : av_R av_wm g ν s H []) (_ : lv_has ls 4 [(0, .ref b), (1, .ref (g.2.2 0)), (2, .ref (g.2.2 98)), (3, .int (nI i))]), W p l e room_1 s m #[Value.ref b] below meth c H [] 600000 7302249 (lw_Z below #[Value.ref b] s) (F0 m 18 ls []) := by
  obtain ⟨hx, hb, hr, hml, hown, hts, hlocks⟩ := id E
  have hnb : ¬ av_A av_wc g b := lw_nb (by decide) hbl hlow
  obtain ⟨hs0, hs1, hs2, hs3, hs4, hs5, hs6, hs7, hs8, hs9, hs10, hs11, hs12, hs13, hs14, hs15, hs16, hs17, hs18, hs19, hs20, hs21, hs22, hs23, hs24, hs25, hs26, hs27, hs28, hs29, hs30, hs31⟩ := hst
  intro n
  induction n with
  | zero =>
    intro i h1 h2
    omega
  | succ n ih =>
    intro i h1 h2 μ ν hI H ls hRc hRm hl
    refine lv_iload_n hx hb dL_law_18 rfl (lv_at hl 3 rfl) ?_
    refine lv_aload_n hx hb dL_law_19 rfl (lv_at hl 0 rfl) ?_
    refine va_slen hx hb hX hbl hnb hRc.2 dL_law_20 ?_
    refine lv_iconst (v := 5) hx hb dL_law_21 rfl ?_
    refine lv_isub hx hb dL_law_22 ?_
    refine lv_icmp_gt (tgt := 1010) hx hb dL_law_23 (by decide) (fun cg => ?_) (fun cg => ?_)
    · refine lv_iconst (v := 1) hx hb dL_law_1010 rfl ?_
      exact lw_ret hx hb hr hlocks dL_law_1011
    · have hi : i + 5 ≤ L := by
        rw [Int32.lt_iff_toInt_lt] at cg
        have e1 : (nI L - 5 : Int32).toInt = (L : Int) - 5 := pk_sub_toInt (a := L) (b := 5) (by omega) (by omega)
        have e2 := nI_toInt (n := i) (by omega)
        have cg2 : ¬ ((L : Int) - 5 < (i : Int)) := by
          intro h
          apply cg
          rw [e2]
          refine Int.lt_of_le_of_lt (Int.le_of_eq ?_) h
          exact e1
        omega
      refine lv_aload_n hx hb dL_law_26 rfl (lv_at hl 0 rfl) ?_
      refine lv_iload_n hx hb dL_law_27 rfl (lv_at hl 3 rfl) ?_
      refine va_sld hx hb hX hbl hnb hRc.2 (vp_in_nI (by omega) (by omega)) dL_law_28 ?_
      refine lv_bipush (v := 31) hx hb dL_law_29 rfl ?_
      refine lv_iand hx hb dL_law_31 ?_
      have kn : ∀ (μ ν : Mem) (H : Heap), Iv (i + 5) μ ν → av_R av_wc g μ s H [] → av_R av_wm g ν s H [] → W p l e room_1 s m #[Value.ref b] below meth c H [] 600000 7302249 (lw_Z below #[Value.ref b] s) (F0 m 1004 ls []) := by
        intro μ ν H hI hRc hRm
        refine lv_iinc (v := nI (i + 5)) (lv' := [(3, .int (nI (i + 5))), (0, .ref b), (1, .ref (g.2.2 0)), (2, .ref (g.2.2 98))]) hx hb dL_law_1004 hl (k := 3) rfl (nI_add i 5) (by decide) rfl (fun ls hl => ?_)
        refine lv_goto (tgt := 18) hx hb dL_law_1007 (by decide) ?_
        exact ih (i + 5) (by omega) (by omega) hI hRc hRm (lv_sub hl [1, 2, 3, 0] rfl)
      obtain ⟨j, hj, ej⟩ := pk_andE (xs (nI i).toNatClampNeg) (m := 31) 5 (by decide)
      rw [ej]
      by_cases c0 : j = 0
      · subst c0
        refine lv_tableIn (tgt := 176) (off := 144) hx hb dL_law_32 (by decide) (by decide) (by decide) (by decide) ?_
        exact lw_c0 hL E Xc Xm hX hbl hlow hi hI hRc hRm hl hs0 kn
      by_cases c1 : j = 1
      · subst c1
        refine lv_tableIn (tgt := 189) (off := 157) hx hb dL_law_32 (by decide) (by decide) (by decide) (by decide) ?_
        exact lw_c1 hL E Xc Xm hX hbl hlow hi hI hRc hRm hl hs1 kn
      by_cases c2 : j = 2
      · subst c2
        refine lv_tableIn (tgt := 232) (off := 200) hx hb dL_law_32 (by decide) (by decide) (by decide) (by decide) ?_
        exact lw_c2 hL E Xc Xm hX hbl hlow hi hI hRc hRm hl hs2 kn
      by_cases c3 : j = 3
      · subst c3
        refine lv_tableIn (tgt := 275) (off := 243) hx hb dL_law_32 (by decide) (by decide) (by decide) (by decide) ?_
        exact lw_c3 hL E Xc Xm hX hbl hlow hi hI hRc hRm hl hs3 kn
      by_cases c4 : j = 4
      · subst c4
        refine lv_tableIn (tgt := 298) (off := 266) hx hb dL_law_32 (by decide) (by decide) (by decide) (by decide) ?_
        exact lw_c4 hL E Xc Xm hX hbl hlow hi hI hRc hRm hl hs4 kn
      by_cases c5 : j = 5
      · subst c5
        refine lv_tableIn (tgt := 311) (off := 279) hx hb dL_law_32 (by decide) (by decide) (by decide) (by decide) ?_
        exact lw_c5 hL E Xc Xm hX hbl hlow hi hI hRc hRm hl hs5 kn
      by_cases c6 : j = 6
      · subst c6
        refine lv_tableIn (tgt := 324) (off := 292) hx hb dL_law_32 (by decide) (by decide) (by decide) (by decide) ?_
        exact lw_c6 hL E Xc Xm hX hbl hlow hi hI hRc hRm hl hs6 kn
      by_cases c7 : j = 7
      · subst c7
        refine lv_tableIn (tgt := 347) (off := 315) hx hb dL_law_32 (by decide) (by decide) (by decide) (by decide) ?_
        exact lw_c7 hL E Xc Xm hX hbl hlow hi hI hRc hRm hl hs7 kn
      by_cases c8 : j = 8
      · subst c8
        refine lv_tableIn (tgt := 370) (off := 338) hx hb dL_law_32 (by decide) (by decide) (by decide) (by decide) ?_
        exact lw_c8 hL E Xc Xm hX hbl hlow hi hI hRc hRm hl hs8 kn
      by_cases c9 : j = 9
      · subst c9
        refine lv_tableIn (tgt := 383) (off := 351) hx hb dL_law_32 (by decide) (by decide) (by decide) (by decide) ?_
        exact lw_c9 hL E Xc Xm hX hbl hlow hi hI hRc hRm hl hs9 kn
      by_cases c10 : j = 10
      · subst c10
        refine lv_tableIn (tgt := 416) (off := 384) hx hb dL_law_32 (by decide) (by decide) (by decide) (by decide) ?_
        exact lw_c10 hL E Xc Xm hX hbl hlow hi hI hRc hRm hl hs10 kn
      by_cases c11 : j = 11
      · subst c11
        refine lv_tableIn (tgt := 449) (off := 417) hx hb dL_law_32 (by decide) (by decide) (by decide) (by decide) ?_
        exact lw_c11 hL E Xc Xm hX hbl hlow hi hI hRc hRm hl hs11 kn
      by_cases c12 : j = 12
      · subst c12
        refine lv_tableIn (tgt := 462) (off := 430) hx hb dL_law_32 (by decide) (by decide) (by decide) (by decide) ?_
        exact lw_c12 hL E Xc Xm hX hbl hlow hi hI hRc hRm hl hs12 kn
      by_cases c13 : j = 13
      · subst c13
        refine lv_tableIn (tgt := 475) (off := 443) hx hb dL_law_32 (by decide) (by decide) (by decide) (by decide) ?_
        exact lw_c13 hL E Xc Xm hX hbl hlow hi hI hRc hRm hl hs13 kn
      by_cases c14 : j = 14
      · subst c14
        refine lv_tableIn (tgt := 498) (off := 466) hx hb dL_law_32 (by decide) (by decide) (by decide) (by decide) ?_
        exact lw_c14 hL E Xc Xm hX hbl hlow hi hI hRc hRm hl hs14 kn
      by_cases c15 : j = 15
      · subst c15
        refine lv_tableIn (tgt := 531) (off := 499) hx hb dL_law_32 (by decide) (by decide) (by decide) (by decide) ?_
        exact lw_c15 hL E Xc Xm hX hbl hlow hi hI hRc hRm hl hs15 kn
      by_cases c16 : j = 16
      · subst c16
        refine lv_tableIn (tgt := 564) (off := 532) hx hb dL_law_32 (by decide) (by decide) (by decide) (by decide) ?_
        exact lw_c16 hL E Xc Xm hX hbl hlow hi hI hRc hRm hl hs16 kn
      by_cases c17 : j = 17
      · subst c17
        refine lv_tableIn (tgt := 597) (off := 565) hx hb dL_law_32 (by decide) (by decide) (by decide) (by decide) ?_
        exact lw_c17 hL E Xc Xm hX hbl hlow hi hI hRc hRm hl hs17 kn
      by_cases c18 : j = 18
      · subst c18
        refine lv_tableIn (tgt := 630) (off := 598) hx hb dL_law_32 (by decide) (by decide) (by decide) (by decide) ?_
        exact lw_c18 hL E Xc Xm hX hbl hlow hi hI hRc hRm hl hs18 kn
      by_cases c19 : j = 19
      · subst c19
        refine lv_tableIn (tgt := 683) (off := 651) hx hb dL_law_32 (by decide) (by decide) (by decide) (by decide) ?_
        exact lw_c19 hL E Xc Xm hX hbl hlow hi hI hRc hRm hl hs19 kn
      by_cases c20 : j = 20
      · subst c20
        refine lv_tableIn (tgt := 716) (off := 684) hx hb dL_law_32 (by decide) (by decide) (by decide) (by decide) ?_
        exact lw_c20 hL E Xc Xm hX hbl hlow hi hI hRc hRm hl hs20 kn
      by_cases c21 : j = 21
      · subst c21
        refine lv_tableIn (tgt := 729) (off := 697) hx hb dL_law_32 (by decide) (by decide) (by decide) (by decide) ?_
        exact lw_c21 hL E Xc Xm hX hbl hlow hi hI hRc hRm hl hs21 kn
      by_cases c22 : j = 22
      · subst c22
        refine lv_tableIn (tgt := 752) (off := 720) hx hb dL_law_32 (by decide) (by decide) (by decide) (by decide) ?_
        exact lw_c22 hL E Xc Xm hX hbl hlow hi hI hRc hRm hl hs22 kn
      by_cases c23 : j = 23
      · subst c23
        refine lv_tableIn (tgt := 765) (off := 733) hx hb dL_law_32 (by decide) (by decide) (by decide) (by decide) ?_
        exact lw_c23 hL E Xc Xm hX hbl hlow hi hI hRc hRm hl hs23 kn
      by_cases c24 : j = 24
      · subst c24
        refine lv_tableIn (tgt := 808) (off := 776) hx hb dL_law_32 (by decide) (by decide) (by decide) (by decide) ?_
        exact lw_c24 hL E Xc Xm hX hbl hlow hi hI hRc hRm hl hs24 kn
      by_cases c25 : j = 25
      · subst c25
        refine lv_tableIn (tgt := 841) (off := 809) hx hb dL_law_32 (by decide) (by decide) (by decide) (by decide) ?_
        exact lw_c25 hL E Xc Xm hX hbl hlow hi hI hRc hRm hl hs25 kn
      by_cases c26 : j = 26
      · subst c26
        refine lv_tableIn (tgt := 874) (off := 842) hx hb dL_law_32 (by decide) (by decide) (by decide) (by decide) ?_
        exact lw_c26 hL E Xc Xm hX hbl hlow hi hI hRc hRm hl hs26 kn
      by_cases c27 : j = 27
      · subst c27
        refine lv_tableIn (tgt := 898) (off := 866) hx hb dL_law_32 (by decide) (by decide) (by decide) (by decide) ?_
        exact lw_c27 hL E Xc Xm hX hbl hlow hi hI hRc hRm hl hs27 kn
      by_cases c28 : j = 28
      · subst c28
        refine lv_tableIn (tgt := 921) (off := 889) hx hb dL_law_32 (by decide) (by decide) (by decide) (by decide) ?_
        exact lw_c28 hL E Xc Xm hX hbl hlow hi hI hRc hRm hl hs28 kn
      by_cases c29 : j = 29
      · subst c29
        refine lv_tableIn (tgt := 944) (off := 912) hx hb dL_law_32 (by decide) (by decide) (by decide) (by decide) ?_
        exact lw_c29 hL E Xc Xm hX hbl hlow hi hI hRc hRm hl hs29 kn
      by_cases c30 : j = 30
      · subst c30
        refine lv_tableIn (tgt := 967) (off := 935) hx hb dL_law_32 (by decide) (by decide) (by decide) (by decide) ?_
        exact lw_c30 hL E Xc Xm hX hbl hlow hi hI hRc hRm hl hs30 kn
      by_cases c31 : j = 31
      · subst c31
        refine lv_tableIn (tgt := 990) (off := 958) hx hb dL_law_32 (by decide) (by decide) (by decide) (by decide) ?_
        exact lw_c31 hL E Xc Xm hX hbl hlow hi hI hRc hRm hl hs31 kn
      exact absurd hj (by omega)
