set_option maxHeartbeats 4000000 in
set_option maxRecDepth 100000 in
theorem tX11_within_14 {p : Program} {l : Launch} {e : Env} {s : State} {m : MethodId} {args : Array Value} {below : List Frame} {meth : Method} {c : Code} {g : Gl} {zr : Int32} {μ0 : Mem} (E : av_E p s m args meth c cX11_within RX11 3 (some .boolean)) (X : av_X av_wc g s) :
    ∀ {μ : Mem} {H : Heap} {locs : List Loc} {ls : Array Slot} (hμ : μ0 = μ), fX11_within_14 μ = some zr → av_R av_wc g μ s H locs → lv_has ls 3 [] → W p l e (rmN 1) s m args below meth c H locs 0 0 (MQ below (va_Qi (fun r1 u => r1 = zr ∧ u = μ0) (av_B av_wc g) (av_A av_wc g)) args s 0 0 (av_A av_wc g)) (F0 m 14 ls []) := by
  obtain ⟨hx, hb, hr, hml, hown, hts, hlocks⟩ := id E
  intro μ H locs ls hμ h hR hl
  unfold fX11_within_14 at h
  refine lv_iconst (v := 0) hx hb dX11_within_14 rfl ?_
  exact av_rz E hR rfl ⟨Option.some.inj h, hμ.symm⟩ dX11_within_15

set_option maxHeartbeats 4000000 in
set_option maxRecDepth 100000 in
theorem CX11_within (l : Launch) (g : Gl) {a0 : Int32} {a1 : Int32} {a2 : Int32} {μ : Mem} {zr : Int32} (h : fX11_within a0 a1 a2 μ = some zr) : av_MI l yX11_within cX11_within 3 1 (some .boolean) av_wc g [.int a0, .int a1, .int a2] μ zr μ := by
  refine av_ent (own := RX11) (by decide) (Nat.le_of_ble_eq_true rfl) rfl (fun p e s m args below meth c E X hR ls hl => ?_)
  have hl : lv_has ls 3 [(0, .int a0), (1, .int a1), (2, .int a2)] := hl
  obtain ⟨hx, hb, hr, hml, hown, hts, hlocks⟩ := id E
  have hμ : μ = μ := rfl
  unfold fX11_within at h
  refine lv_iload_n hx hb dX11_within_0 rfl (lv_at hl 0 rfl) ?_
  refine lv_iload_n hx hb dX11_within_1 rfl (lv_at hl 1 rfl) ?_
  refine lv_icmp_lt (tgt := 14) hx hb dX11_within_2 (by decide) (fun c2 => ?_) (fun c2 => ?_)
  · have h := av_it c2 h
    exact tX11_within_14 E X hμ h hR (lv_sub hl [] rfl)
  · have h := av_if c2 h
    refine lv_iload_n hx hb dX11_within_5 rfl (lv_at hl 0 rfl) ?_
    refine lv_iload_n hx hb dX11_within_6 rfl (lv_at hl 2 rfl) ?_
    refine lv_icmp_gt (tgt := 14) hx hb dX11_within_7 (by decide) (fun c7 => ?_) (fun c7 => ?_)
    · have h := av_it c7 h
      exact tX11_within_14 E X hμ h hR (lv_sub hl [] rfl)
    · have h := av_if c7 h
      refine lv_iconst (v := 1) hx hb dX11_within_10 rfl ?_
      refine lv_goto (tgt := 15) hx hb dX11_within_11 (by decide) ?_
      exact av_rz E hR rfl ⟨Option.some.inj h, hμ.symm⟩ dX11_within_15

set_option maxHeartbeats 4000000 in
set_option maxRecDepth 100000 in
theorem CX11_hasBit (l : Launch) (g : Gl) {a0 : Int32} {a1 : Int32} {μ : Mem} {zr : Int32} (h : fX11_hasBit a0 a1 μ = some zr) : av_MI l yX11_hasBit cX11_hasBit 2 1 (some .boolean) av_wc g [.int a0, .int a1] μ zr μ := by
  refine av_ent (own := RX11) (by decide) (Nat.le_of_ble_eq_true rfl) rfl (fun p e s m args below meth c E X hR ls hl => ?_)
  have hl : lv_has ls 2 [(0, .int a0), (1, .int a1)] := hl
  obtain ⟨hx, hb, hr, hml, hown, hts, hlocks⟩ := id E
  have hμ : μ = μ := rfl
  unfold fX11_hasBit at h
  refine lv_iload_n hx hb dX11_hasBit_0 rfl (lv_at hl 0 rfl) ?_
  refine lv_iload_n hx hb dX11_hasBit_1 rfl (lv_at hl 1 rfl) ?_
  refine lv_ishr hx hb dX11_hasBit_2 ?_
  refine lv_iconst (v := 1) hx hb dX11_hasBit_3 rfl ?_
  refine lv_iand hx hb dX11_hasBit_4 ?_
  refine lv_if_eq (tgt := 12) hx hb dX11_hasBit_5 (by decide) (fun c5 => ?_) (fun c5 => ?_)
  · have h := av_it c5 h
    refine lv_iconst (v := 0) hx hb dX11_hasBit_12 rfl ?_
    exact av_rz E hR rfl ⟨Option.some.inj h, hμ.symm⟩ dX11_hasBit_13
  · have h := av_if c5 h
    refine lv_iconst (v := 1) hx hb dX11_hasBit_8 rfl ?_
    refine lv_goto (tgt := 13) hx hb dX11_hasBit_9 (by decide) ?_
    exact av_rz E hR rfl ⟨Option.some.inj h, hμ.symm⟩ dX11_hasBit_13

set_option maxHeartbeats 4000000 in
set_option maxRecDepth 100000 in
theorem CJ6_bitCount_0f7a4 (l : Launch) (g : Gl) {a0 : Int32} {μ : Mem} {zr : Int32} (h : fJ6_bitCount_0f7a4 a0 μ = some zr) : av_MI l yJ6_bitCount_0f7a4 cJ6_bitCount_0f7a4 1 1 (some .int) av_wc g [.int a0] μ zr μ := by
  refine av_ent (own := RJ6) (by decide) (Nat.le_of_ble_eq_true rfl) rfl (fun p e s m args below meth c E X hR ls hl => ?_)
  have hl : lv_has ls 1 [(0, .int a0)] := hl
  obtain ⟨hx, hb, hr, hml, hown, hts, hlocks⟩ := id E
  have hμ : μ = μ := rfl
  unfold fJ6_bitCount_0f7a4 at h
  refine lv_iload_n hx hb dJ6_bitCount_0f7a4_0 rfl (lv_at hl 0 rfl) ?_
  refine lv_iload_n hx hb dJ6_bitCount_0f7a4_1 rfl (lv_at hl 0 rfl) ?_
  refine lv_iconst (v := 1) hx hb dJ6_bitCount_0f7a4_2 rfl ?_
  refine lv_iushr hx hb dJ6_bitCount_0f7a4_3 rfl ?_
  refine lv_ldcw (v := 1431655765) hx hb hown (hts _ kK_J6_265) dJ6_bitCount_0f7a4_4 ?_
  refine lv_iand hx hb dJ6_bitCount_0f7a4_7 ?_
  refine lv_isub hx hb dJ6_bitCount_0f7a4_8 ?_
  obtain ⟨x0_9, ex0_9, h⟩ := av_bd h
  replace ex0_9 := Option.some.inj ex0_9
  rw [ex0_9]
  refine lv_istore_n (lv' := [(0, .int x0_9)]) hx hb dJ6_bitCount_0f7a4_9 rfl hl (by decide) rfl (fun ls hl => ?_)
  refine lv_iload_n hx hb dJ6_bitCount_0f7a4_10 rfl (lv_at hl 0 rfl) ?_
  refine lv_ldcw (v := 858993459) hx hb hown (hts _ kK_J6_266) dJ6_bitCount_0f7a4_11 ?_
  refine lv_iand hx hb dJ6_bitCount_0f7a4_14 ?_
  refine lv_iload_n hx hb dJ6_bitCount_0f7a4_15 rfl (lv_at hl 0 rfl) ?_
  refine lv_iconst (v := 2) hx hb dJ6_bitCount_0f7a4_16 rfl ?_
  refine lv_iushr hx hb dJ6_bitCount_0f7a4_17 rfl ?_
  refine lv_ldcw (v := 858993459) hx hb hown (hts _ kK_J6_266) dJ6_bitCount_0f7a4_18 ?_
  refine lv_iand hx hb dJ6_bitCount_0f7a4_21 ?_
  refine lv_iadd hx hb dJ6_bitCount_0f7a4_22 ?_
  obtain ⟨x0_23, ex0_23, h⟩ := av_bd h
  replace ex0_23 := Option.some.inj ex0_23
  rw [ex0_23]
  refine lv_istore_n (lv' := [(0, .int x0_23)]) hx hb dJ6_bitCount_0f7a4_23 rfl hl (by decide) rfl (fun ls hl => ?_)
  refine lv_iload_n hx hb dJ6_bitCount_0f7a4_24 rfl (lv_at hl 0 rfl) ?_
  refine lv_iload_n hx hb dJ6_bitCount_0f7a4_25 rfl (lv_at hl 0 rfl) ?_
  refine lv_iconst (v := 4) hx hb dJ6_bitCount_0f7a4_26 rfl ?_
  refine lv_iushr hx hb dJ6_bitCount_0f7a4_27 rfl ?_
  refine lv_iadd hx hb dJ6_bitCount_0f7a4_28 ?_
  refine lv_ldcw (v := 252645135) hx hb hown (hts _ kK_J6_267) dJ6_bitCount_0f7a4_29 ?_
  refine lv_iand hx hb dJ6_bitCount_0f7a4_32 ?_
  obtain ⟨x0_33, ex0_33, h⟩ := av_bd h
  replace ex0_33 := Option.some.inj ex0_33
  rw [ex0_33]
  refine lv_istore_n (lv' := [(0, .int x0_33)]) hx hb dJ6_bitCount_0f7a4_33 rfl hl (by decide) rfl (fun ls hl => ?_)
  refine lv_iload_n hx hb dJ6_bitCount_0f7a4_34 rfl (lv_at hl 0 rfl) ?_
  refine lv_iload_n hx hb dJ6_bitCount_0f7a4_35 rfl (lv_at hl 0 rfl) ?_
  refine lv_bipush (v := 8) hx hb dJ6_bitCount_0f7a4_36 rfl ?_
  refine lv_iushr hx hb dJ6_bitCount_0f7a4_38 rfl ?_
  refine lv_iadd hx hb dJ6_bitCount_0f7a4_39 ?_
  obtain ⟨x0_40, ex0_40, h⟩ := av_bd h
  replace ex0_40 := Option.some.inj ex0_40
  rw [ex0_40]
  refine lv_istore_n (lv' := [(0, .int x0_40)]) hx hb dJ6_bitCount_0f7a4_40 rfl hl (by decide) rfl (fun ls hl => ?_)
  refine lv_iload_n hx hb dJ6_bitCount_0f7a4_41 rfl (lv_at hl 0 rfl) ?_
  refine lv_iload_n hx hb dJ6_bitCount_0f7a4_42 rfl (lv_at hl 0 rfl) ?_
  refine lv_bipush (v := 16) hx hb dJ6_bitCount_0f7a4_43 rfl ?_
  refine lv_iushr hx hb dJ6_bitCount_0f7a4_45 rfl ?_
  refine lv_iadd hx hb dJ6_bitCount_0f7a4_46 ?_
  obtain ⟨x0_47, ex0_47, h⟩ := av_bd h
  replace ex0_47 := Option.some.inj ex0_47
  rw [ex0_47]
  refine lv_istore_n (lv' := [(0, .int x0_47)]) hx hb dJ6_bitCount_0f7a4_47 rfl hl (by decide) rfl (fun ls hl => ?_)
  refine lv_iload_n hx hb dJ6_bitCount_0f7a4_48 rfl (lv_at hl 0 rfl) ?_
  refine lv_bipush (v := 63) hx hb dJ6_bitCount_0f7a4_49 rfl ?_
  refine lv_iand hx hb dJ6_bitCount_0f7a4_51 ?_
  exact av_ri E hR ⟨Option.some.inj h, hμ.symm⟩ dJ6_bitCount_0f7a4_52

set_option maxHeartbeats 4000000 in
set_option maxRecDepth 100000 in
theorem tX11_tenTo_4 {p : Program} {l : Launch} {e : Env} {s : State} {m : MethodId} {args : Array Value} {below : List Frame} {meth : Method} {c : Code} {g : Gl} {zr : Int64} {μ0 : Mem} (E : av_E p s m args meth c cX11_tenTo RX11 4 (some .long)) (X : av_X av_wc g s) :
    ∀ (n : Nat) {x0 : Int32} {x1 : Int64} {x3 : Int32} {μ : Mem} {H : Heap} {locs : List Loc} {ls : Array Slot} (hμ : μ0 = μ), fX11_tenTo_4 n x0 x1 x3 μ = some zr → av_R av_wc g μ s H locs → lv_has ls 4 [(0, .int x0), (1, .long x1), (3, .int x3)] → W p l e (rmN 1) s m args below meth c H locs 0 0 (MQ below (va_Ql (fun r1 u => r1 = zr ∧ u = μ0) (av_B av_wc g) (av_A av_wc g)) args s 0 0 (av_A av_wc g)) (F0 m 4 ls []) := by
  obtain ⟨hx, hb, hr, hml, hown, hts, hlocks⟩ := id E
  intro n
  induction n with
  | zero =>
    intro x0 x1 x3 μ H locs ls hμ h hR hl
    cases h
  | succ n ih =>
    intro x0 x1 x3 μ H locs ls hμ h hR hl
    unfold fX11_tenTo_4 at h
    refine lv_iload_n hx hb dX11_tenTo_4 rfl (lv_at hl 2 rfl) ?_
    refine lv_iload_n hx hb dX11_tenTo_5 rfl (lv_at hl 0 rfl) ?_
    refine lv_icmp_ge (tgt := 21) hx hb dX11_tenTo_6 (by decide) (fun c6 => ?_) (fun c6 => ?_)
    · have h := av_it c6 h
      refine lv_lload_n hx hb dX11_tenTo_21 rfl (lv_at hl 1 rfl) ?_
      exact av_rl E hR ⟨Option.some.inj h, hμ.symm⟩ dX11_tenTo_22
    · have h := av_if c6 h
      refine lv_lload_n hx hb dX11_tenTo_9 rfl (lv_at hl 1 rfl) ?_
      refine lv_ldc2 (v := 10) hx hb hown (hts _ kL_X11_292) dX11_tenTo_10 ?_
      refine lv_lmul hx hb dX11_tenTo_13 ?_
      obtain ⟨x1_14, ex1_14, h⟩ := av_bd h
      replace ex1_14 := Option.some.inj ex1_14
      rw [ex1_14]
      refine lv_lstore_n (lv' := [(1, .long x1_14), (0, .int x0), (3, .int x3)]) hx hb dX11_tenTo_14 rfl hl (by decide) rfl (fun ls hl => ?_)
      obtain ⟨x3_15, ex3_15, h⟩ := av_bd h
      replace ex3_15 := Option.some.inj ex3_15
      refine lv_iinc (v := x3_15) (lv' := [(3, .int x3_15), (1, .long x1_14), (0, .int x0)]) hx hb dX11_tenTo_15 hl (k := 2) rfl ex3_15 (by decide) rfl (fun ls hl => ?_)
      refine lv_goto (tgt := 4) hx hb dX11_tenTo_18 (by decide) ?_
      exact ih hμ h hR (lv_sub hl [2, 1, 0] rfl)

set_option maxHeartbeats 4000000 in
set_option maxRecDepth 100000 in
theorem CX11_tenTo (l : Launch) (g : Gl) {a0 : Int32} {μ : Mem} {zr : Int64} (h : fX11_tenTo a0 μ = some zr) : av_ML l yX11_tenTo cX11_tenTo 4 1 (some .long) av_wc g [.int a0] μ zr μ := by
  refine av_ent (own := RX11) (by decide) (Nat.le_of_ble_eq_true rfl) rfl (fun p e s m args below meth c E X hR ls hl => ?_)
  have hl : lv_has ls 4 [(0, .int a0)] := hl
  obtain ⟨hx, hb, hr, hml, hown, hts, hlocks⟩ := id E
  have hμ : μ = μ := rfl
  unfold fX11_tenTo at h
  refine lv_lconst (v := 1) hx hb dX11_tenTo_0 rfl ?_
  refine lv_lstore_n (lv' := [(1, .long 1), (0, .int a0)]) hx hb dX11_tenTo_1 rfl hl (by decide) rfl (fun ls hl => ?_)
  refine lv_iconst (v := 0) hx hb dX11_tenTo_2 rfl ?_
  refine lv_istore_n (lv' := [(3, .int 0), (1, .long 1), (0, .int a0)]) hx hb dX11_tenTo_3 rfl hl (by decide) rfl (fun ls hl => ?_)
  exact tX11_tenTo_4 E X _ hμ h hR (lv_sub hl [2, 1, 0] rfl)

set_option maxHeartbeats 4000000 in
set_option maxRecDepth 100000 in
theorem tJ7_fill_53178_5 {p : Program} {l : Launch} {e : Env} {s : State} {m : MethodId} {args : Array Value} {below : List Frame} {meth : Method} {c : Code} {g : Gl} {zm : Mem} (E : av_E p s m args meth c cJ7_fill_53178 RJ7 4 none) (X : av_X av_wc g s) :
    ∀ (n : Nat) {x0 : Nat} {x1 : Int32} {x2 : Int32} {x3 : Int32} (hx0 : av_t av_wc x0 13) {μ : Mem} {H : Heap} {locs : List Loc} {ls : Array Slot}, fJ7_fill_53178_5 n x0 x1 x2 x3 μ = some zm → av_R av_wc g μ s H locs → lv_has ls 4 [(0, .ref (g.2.2 x0)), (1, .int x1), (2, .int x2), (3, .int x3)] → W p l e (rmN 1) s m args below meth c H locs 0 0 (MQ below (va_Qv (fun u => u = zm) (av_B av_wc g) (av_A av_wc g)) args s 0 0 (av_A av_wc g)) (F0 m 5 ls []) := by
  obtain ⟨hx, hb, hr, hml, hown, hts, hlocks⟩ := id E
  intro n
  induction n with
  | zero =>
    intro x0 x1 x2 x3 hx0 μ H locs ls h hR hl
    cases h
  | succ n ih =>
    intro x0 x1 x2 x3 hx0 μ H locs ls h hR hl
    unfold fJ7_fill_53178_5 at h
    refine lv_iload_n hx hb dJ7_fill_53178_5 rfl (lv_at hl 2 rfl) ?_
    refine lv_iload_n hx hb dJ7_fill_53178_6 rfl (lv_at hl 3 rfl) ?_
    refine lv_icmp_ge (tgt := 20) hx hb dJ7_fill_53178_7 (by decide) (fun c7 => ?_) (fun c7 => ?_)
    · have h := av_it c7 h
      exact av_rv E hR (Option.some.inj h) dJ7_fill_53178_20
    · have h := av_if c7 h
      refine lv_aload_n hx hb dJ7_fill_53178_10 rfl (lv_at hl 0 rfl) ?_
      refine lv_iload_n hx hb dJ7_fill_53178_11 rfl (lv_at hl 2 rfl) ?_
      refine lv_iload_n hx hb dJ7_fill_53178_12 rfl (lv_at hl 1 rfl) ?_
      obtain ⟨μ13, eμ13, h⟩ := av_bd h
      refine av_is E X hR hx0 eμ13 dJ7_fill_53178_13 (fun H locs hR => ?_)
      obtain ⟨x2_14, ex2_14, h⟩ := av_bd h
      replace ex2_14 := Option.some.inj ex2_14
      refine lv_iinc (v := x2_14) (lv' := [(2, .int x2_14), (0, .ref (g.2.2 x0)), (1, .int x1), (3, .int x3)]) hx hb dJ7_fill_53178_14 hl (k := 2) rfl ex2_14 (by decide) rfl (fun ls hl => ?_)
      refine lv_goto (tgt := 5) hx hb dJ7_fill_53178_17 (by decide) ?_
      exact ih hx0 h hR (lv_sub hl [1, 2, 0, 3] rfl)

set_option maxHeartbeats 4000000 in
set_option maxRecDepth 100000 in
theorem CJ7_fill_53178 (l : Launch) (g : Gl) {a0 : Nat} {a1 : Int32} (ha0 : av_t av_wc a0 13) {μ : Mem} {zm : Mem} (h : fJ7_fill_53178 a0 a1 μ = some zm) : av_MV l yJ7_fill_53178 cJ7_fill_53178 4 1 none av_wc g [.ref (g.2.2 a0), .int a1] μ zm := by
  refine av_ent (own := RJ7) (by decide) (Nat.le_of_ble_eq_true rfl) rfl (fun p e s m args below meth c E X hR ls hl => ?_)
  have hl : lv_has ls 4 [(0, .ref (g.2.2 a0)), (1, .int a1)] := hl
  obtain ⟨hx, hb, hr, hml, hown, hts, hlocks⟩ := id E
  unfold fJ7_fill_53178 at h
  refine lv_iconst (v := 0) hx hb dJ7_fill_53178_0 rfl ?_
  refine lv_istore_n (lv' := [(2, .int 0), (0, .ref (g.2.2 a0)), (1, .int a1)]) hx hb dJ7_fill_53178_1 rfl hl (by decide) rfl (fun ls hl => ?_)
  refine lv_aload_n hx hb dJ7_fill_53178_2 rfl (lv_at hl 1 rfl) ?_
  refine av_len E X hR ha0 (by decide) (t0 := 0) rfl dJ7_fill_53178_3 ?_
  obtain ⟨x3_4, ex3_4, h⟩ := av_bd h
  replace ex3_4 := Option.some.inj ex3_4
  rw [ex3_4]
  refine lv_istore_n (lv' := [(3, .int x3_4), (2, .int 0), (0, .ref (g.2.2 a0)), (1, .int a1)]) hx hb dJ7_fill_53178_4 rfl hl (by decide) rfl (fun ls hl => ?_)
  exact tJ7_fill_53178_5 E X _ ha0 h hR (lv_sub hl [2, 3, 1, 0] rfl)

set_option maxHeartbeats 4000000 in
set_option maxRecDepth 100000 in
theorem CX11_spread (l : Launch) (g : Gl) {a0 : Int32} {a1 : Int32} {μ : Mem} {zr : Int32} (h : fX11_spread a0 a1 μ = some zr) : av_MI l yX11_spread cX11_spread 2 1 (some .int) av_wc g [.int a0, .int a1] μ zr μ := by
  refine av_ent (own := RX11) (by decide) (Nat.le_of_ble_eq_true rfl) rfl (fun p e s m args below meth c E X hR ls hl => ?_)
  have hl : lv_has ls 2 [(0, .int a0), (1, .int a1)] := hl
  obtain ⟨hx, hb, hr, hml, hown, hts, hlocks⟩ := id E
  have hμ : μ = μ := rfl
  unfold fX11_spread at h
  refine lv_iconst (v := 0) hx hb dX11_spread_0 rfl ?_
  refine lv_iload_n hx hb dX11_spread_1 rfl (lv_at hl 1 rfl) ?_
  refine lv_iload_n hx hb dX11_spread_2 rfl (lv_at hl 0 rfl) ?_
  refine lv_isub hx hb dX11_spread_3 ?_
  refine lv_iconst (v := 1) hx hb dX11_spread_4 rfl ?_
  refine lv_iadd hx hb dX11_spread_5 ?_
  refine av_mx E hl.1 kM_X11_227 (av_rm1 (by omega)) (Nat.le_of_ble_eq_true rfl) ⟨Nat.zero_le _, Nat.zero_le _⟩ dX11_spread_6 ?_
  exact av_ri E hR ⟨Option.some.inj h, hμ.symm⟩ dX11_spread_9

set_option maxHeartbeats 4000000 in
set_option maxRecDepth 100000 in
theorem tX11_commonDivisor_44 {p : Program} {l : Launch} {e : Env} {s : State} {m : MethodId} {args : Array Value} {below : List Frame} {meth : Method} {c : Code} {g : Gl} {zr : Int64} {μ0 : Mem} (E : av_E p s m args meth c cX11_commonDivisor RX11 11 (some .long)) (X : av_X av_wc g s) :
    ∀ {x4 : Int64} {μ : Mem} {H : Heap} {locs : List Loc} {ls : Array Slot} (hμ : μ0 = μ), fX11_commonDivisor_44 x4 μ = some zr → av_R av_wc g μ s H locs → lv_has ls 11 [(4, .long x4)] → W p l e (rmN 1) s m args below meth c H locs 0 0 (MQ below (va_Ql (fun r1 u => r1 = zr ∧ u = μ0) (av_B av_wc g) (av_A av_wc g)) args s 0 0 (av_A av_wc g)) (F0 m 44 ls []) := by
  obtain ⟨hx, hb, hr, hml, hown, hts, hlocks⟩ := id E
  intro x4 μ H locs ls hμ h hR hl
  unfold fX11_commonDivisor_44 at h
  refine lv_lload hx hb dX11_commonDivisor_44 (lv_at hl 0 rfl) ?_
  exact av_rl E hR ⟨Option.some.inj h, hμ.symm⟩ dX11_commonDivisor_46

set_option maxHeartbeats 4000000 in
set_option maxRecDepth 100000 in
theorem tX11_commonDivisor_9 {p : Program} {l : Launch} {e : Env} {s : State} {m : MethodId} {args : Array Value} {below : List Frame} {meth : Method} {c : Code} {g : Gl} {zr : Int64} {μ0 : Mem} (E : av_E p s m args meth c cX11_commonDivisor RX11 11 (some .long)) (X : av_X av_wc g s) :
    ∀ (n : Nat) {x4 : Int64} {x6 : Int64} {x8 : Int32} {μ : Mem} {H : Heap} {locs : List Loc} {ls : Array Slot} (hμ : μ0 = μ), fX11_commonDivisor_9 n x4 x6 x8 μ = some zr → av_R av_wc g μ s H locs → lv_has ls 11 [(4, .long x4), (6, .long x6), (8, .int x8)] → W p l e (rmN 1) s m args below meth c H locs 0 0 (MQ below (va_Ql (fun r1 u => r1 = zr ∧ u = μ0) (av_B av_wc g) (av_A av_wc g)) args s 0 0 (av_A av_wc g)) (F0 m 9 ls []) := by
  obtain ⟨hx, hb, hr, hml, hown, hts, hlocks⟩ := id E
  intro n
  induction n with
  | zero =>
    intro x4 x6 x8 μ H locs ls hμ h hR hl
    cases h
  | succ n ih =>
    intro x4 x6 x8 μ H locs ls hμ h hR hl
    unfold fX11_commonDivisor_9 at h
    refine lv_iload hx hb dX11_commonDivisor_9 (lv_at hl 2 rfl) ?_
    refine lv_bipush (v := 100) hx hb dX11_commonDivisor_11 rfl ?_
    refine lv_icmp_ge (tgt := 44) hx hb dX11_commonDivisor_13 (by decide) (fun c13 => ?_) (fun c13 => ?_)
    · have h := av_it c13 h
      exact tX11_commonDivisor_44 E X hμ h hR (lv_sub hl [0] rfl)
    · have h := av_if c13 h
      refine lv_lload hx hb dX11_commonDivisor_16 (lv_at hl 1 rfl) ?_
      refine lv_lconst (v := 0) hx hb dX11_commonDivisor_18 rfl ?_
      refine W.lcmp hx hb dX11_commonDivisor_19 ?_
      refine lv_if_eq (tgt := 44) hx hb dX11_commonDivisor_20 (by decide) (fun c20 => ?_) (fun c20 => ?_)
      · have h := av_it c20 h
        exact tX11_commonDivisor_44 E X hμ h hR (lv_sub hl [0] rfl)
      · have h := av_if c20 h
        refine lv_lload hx hb dX11_commonDivisor_23 (lv_at hl 0 rfl) ?_
        refine lv_lload hx hb dX11_commonDivisor_25 (lv_at hl 1 rfl) ?_
        by_cases c27 : x6 = 0
        · exact absurd (av_it c27 h) (by simp)
        have h := av_if c27 h
        refine lv_lrem hx hb dX11_commonDivisor_27 c27 ?_
        obtain ⟨x9_28, ex9_28, h⟩ := av_bd h
        replace ex9_28 := Option.some.inj ex9_28
        rw [ex9_28]
        refine lv_lstore (lv' := [(9, .long x9_28), (4, .long x4), (6, .long x6), (8, .int x8)]) hx hb dX11_commonDivisor_28 hl (by decide) rfl (fun ls hl => ?_)
        refine lv_lload hx hb dX11_commonDivisor_30 (lv_at hl 2 rfl) ?_
        refine lv_lstore (lv' := [(4, .long x6), (9, .long x9_28), (6, .long x6), (8, .int x8)]) hx hb dX11_commonDivisor_32 hl (by decide) rfl (fun ls hl => ?_)
        refine lv_lload hx hb dX11_commonDivisor_34 (lv_at hl 1 rfl) ?_
        refine lv_lstore (lv' := [(6, .long x9_28), (4, .long x6), (9, .long x9_28), (8, .int x8)]) hx hb dX11_commonDivisor_36 hl (by decide) rfl (fun ls hl => ?_)
        obtain ⟨x8_38, ex8_38, h⟩ := av_bd h
        replace ex8_38 := Option.some.inj ex8_38
        refine lv_iinc (v := x8_38) (lv' := [(8, .int x8_38), (6, .long x9_28), (4, .long x6), (9, .long x9_28)]) hx hb dX11_commonDivisor_38 hl (k := 3) rfl ex8_38 (by decide) rfl (fun ls hl => ?_)
        refine lv_goto (tgt := 9) hx hb dX11_commonDivisor_41 (by decide) ?_
        exact ih hμ h hR (lv_sub hl [2, 1, 0] rfl)

set_option maxHeartbeats 4000000 in
set_option maxRecDepth 100000 in
theorem CX11_commonDivisor (l : Launch) (g : Gl) {a0 : Int64} {a2 : Int64} {μ : Mem} {zr : Int64} (h : fX11_commonDivisor a0 a2 μ = some zr) : av_ML l yX11_commonDivisor cX11_commonDivisor 11 1 (some .long) av_wc g [.long a0, .long a2] μ zr μ := by
  refine av_ent (own := RX11) (by decide) (Nat.le_of_ble_eq_true rfl) rfl (fun p e s m args below meth c E X hR ls hl => ?_)
  have hl : lv_has ls 11 [(0, .long a0), (2, .long a2)] := hl
  obtain ⟨hx, hb, hr, hml, hown, hts, hlocks⟩ := id E
  have hμ : μ = μ := rfl
  unfold fX11_commonDivisor at h
  refine lv_lload_n hx hb dX11_commonDivisor_0 rfl (lv_at hl 0 rfl) ?_
  refine lv_lstore (lv' := [(4, .long a0), (0, .long a0), (2, .long a2)]) hx hb dX11_commonDivisor_1 hl (by decide) rfl (fun ls hl => ?_)
  refine lv_lload_n hx hb dX11_commonDivisor_3 rfl (lv_at hl 2 rfl) ?_
  refine lv_lstore (lv' := [(6, .long a2), (4, .long a0), (0, .long a0), (2, .long a2)]) hx hb dX11_commonDivisor_4 hl (by decide) rfl (fun ls hl => ?_)
  refine lv_iconst (v := 0) hx hb dX11_commonDivisor_6 rfl ?_
  refine lv_istore (lv' := [(8, .int 0), (6, .long a2), (4, .long a0), (0, .long a0), (2, .long a2)]) hx hb dX11_commonDivisor_7 hl (by decide) rfl (fun ls hl => ?_)
  exact tX11_commonDivisor_9 E X _ hμ h hR (lv_sub hl [2, 1, 0] rfl)
