set_option maxHeartbeats 4000000 in
set_option maxRecDepth 100000 in
theorem CX4_place (l : Launch) (g : Gl) {q : Nat} {a1 : Nat} {a2 : Int32} {a3 : Int32} (hq : av_pl q) (ha1 : av_t av_wc a1 7) {μ : Mem} {zr : Int32} (h : fX4_place q a1 a2 a3 μ = some zr) : av_MI l yX4_place cX4_place 4 1 (some .int) av_wc g [.ref (g.2.2 q), .ref (g.2.2 a1), .int a2, .int a3] μ zr μ := by
  refine av_ent (own := RX4) (by decide) (Nat.le_of_ble_eq_true rfl) rfl (fun p e s m args below meth c E X hR ls hl => ?_)
  have hl : lv_has ls 4 [(0, .ref (g.2.2 q)), (1, .ref (g.2.2 a1)), (2, .int a2), (3, .int a3)] := hl
  obtain ⟨hx, hb, hr, hml, hown, hts, hlocks⟩ := id E
  have hμ : μ = μ := rfl
  unfold fX4_place at h
  refine lv_iload_n hx hb dX4_place_0 rfl (lv_at hl 2 rfl) ?_
  exact av_ri E hR ⟨Option.some.inj h, hμ.symm⟩ dX4_place_1

set_option maxHeartbeats 4000000 in
set_option maxRecDepth 100000 in
theorem CX4_heft (l : Launch) (g : Gl) {q : Nat} {a1 : Int32} (hq : av_pl q) {μ : Mem} {zr : Int32} (h : fX4_heft q a1 μ = some zr) : av_MI l yX4_heft cX4_heft 2 1 (some .int) av_wc g [.ref (g.2.2 q), .int a1] μ zr μ := by
  refine av_ent (own := RX4) (by decide) (Nat.le_of_ble_eq_true rfl) rfl (fun p e s m args below meth c E X hR ls hl => ?_)
  have hl : lv_has ls 2 [(0, .ref (g.2.2 q)), (1, .int a1)] := hl
  obtain ⟨hx, hb, hr, hml, hown, hts, hlocks⟩ := id E
  have hμ : μ = μ := rfl
  unfold fX4_heft at h
  refine lv_iload_n hx hb dX4_heft_0 rfl (lv_at hl 1 rfl) ?_
  exact av_ri E hR ⟨Option.some.inj h, hμ.symm⟩ dX4_heft_1

set_option maxHeartbeats 4000000 in
set_option maxRecDepth 100000 in
theorem CX6_heft (l : Launch) (g : Gl) {q : Nat} {a1 : Int32} (hq : av_pl q) {μ : Mem} {zr : Int32} (h : fX6_heft q a1 μ = some zr) : av_MI l yX6_heft cX6_heft 2 1 (some .int) av_wc g [.ref (g.2.2 q), .int a1] μ zr μ := by
  refine av_ent (own := RX6) (by decide) (Nat.le_of_ble_eq_true rfl) rfl (fun p e s m args below meth c E X hR ls hl => ?_)
  have hl : lv_has ls 2 [(0, .ref (g.2.2 q)), (1, .int a1)] := hl
  obtain ⟨hx, hb, hr, hml, hown, hts, hlocks⟩ := id E
  have hμ : μ = μ := rfl
  unfold fX6_heft at h
  refine lv_iload_n hx hb dX6_heft_0 rfl (lv_at hl 1 rfl) ?_
  refine lv_iconst (v := 1) hx hb dX6_heft_1 rfl ?_
  refine lv_iadd hx hb dX6_heft_2 ?_
  refine lv_iconst (v := 2) hx hb dX6_heft_3 rfl ?_
  refine lv_idiv hx hb dX6_heft_4 (by decide) ?_
  exact av_ri E hR ⟨Option.some.inj h, hμ.symm⟩ dX6_heft_5

set_option maxHeartbeats 4000000 in
set_option maxRecDepth 100000 in
theorem CX7_loadOf (l : Launch) (g : Gl) {q : Nat} {a1 : Int32} (hq : av_t av_wc q 7) {μ : Mem} {zr : Int32} (h : fX7_loadOf q a1 μ = some zr) : av_MI l yX7_loadOf cX7_loadOf 2 1 (some .int) av_wc g [.ref (g.2.2 q), .int a1] μ zr μ := by
  refine av_ent (own := RX7) (by decide) (Nat.le_of_ble_eq_true rfl) rfl (fun p e s m args below meth c E X hR ls hl => ?_)
  have hl : lv_has ls 2 [(0, .ref (g.2.2 q)), (1, .int a1)] := hl
  obtain ⟨hx, hb, hr, hml, hown, hts, hlocks⟩ := id E
  have hμ : μ = μ := rfl
  unfold fX7_loadOf at h
  refine lv_aload_n hx hb dX7_loadOf_0 rfl (lv_at hl 0 rfl) ?_
  refine gf_X7_9 E X hR hq dX7_loadOf_1 rfl ?_
  refine lv_iload_n hx hb dX7_loadOf_4 rfl (lv_at hl 1 rfl) ?_
  obtain ⟨r5, er5, h⟩ := av_bd h
  refine av_il E X hR (av_ty_7_1 hq) er5 dX7_loadOf_5 ?_
  refine lv_aload_n hx hb dX7_loadOf_6 rfl (lv_at hl 0 rfl) ?_
  refine gf_X7_15 E X hR hq dX7_loadOf_7 rfl ?_
  refine lv_iload_n hx hb dX7_loadOf_10 rfl (lv_at hl 1 rfl) ?_
  obtain ⟨r11, er11, h⟩ := av_bd h
  refine av_il E X hR (av_ty_7_2 hq) er11 dX7_loadOf_11 ?_
  refine lv_iadd hx hb dX7_loadOf_12 ?_
  exact av_ri E hR ⟨Option.some.inj h, hμ.symm⟩ dX7_loadOf_13

set_option maxHeartbeats 4000000 in
set_option maxRecDepth 100000 in
theorem tX7_bears_36 {p : Program} {l : Launch} {e : Env} {s : State} {m : MethodId} {args : Array Value} {below : List Frame} {meth : Method} {c : Code} {g : Gl} {zr : Int32} {μ0 : Mem} (E : av_E p s m args meth c cX7_bears RX7 3 (some .boolean)) (X : av_X av_wc g s) :
    ∀ {μ : Mem} {H : Heap} {locs : List Loc} {ls : Array Slot} (hμ : μ0 = μ), fX7_bears_36 μ = some zr → av_R av_wc g μ s H locs → lv_has ls 3 [] → W p l e (rmN 2) s m args below meth c H locs 0 0 (MQ below (va_Qi (fun r1 u => r1 = zr ∧ u = μ0) (av_B av_wc g) (av_A av_wc g)) args s 0 0 (av_A av_wc g)) (F0 m 36 ls []) := by
  obtain ⟨hx, hb, hr, hml, hown, hts, hlocks⟩ := id E
  intro μ H locs ls hμ h hR hl
  unfold fX7_bears_36 at h
  refine lv_iconst (v := 1) hx hb dX7_bears_36 rfl ?_
  refine lv_goto (tgt := 41) hx hb dX7_bears_37 (by decide) ?_
  exact av_rz E hR rfl ⟨Option.some.inj h, hμ.symm⟩ dX7_bears_41

set_option maxHeartbeats 4000000 in
set_option maxRecDepth 100000 in
theorem CX7_bears (l : Launch) (g : Gl) {q : Nat} {a1 : Int32} {a2 : Int32} (hq : av_t av_wc q 7) {μ : Mem} {zr : Int32} (h : fX7_bears q a1 a2 μ = some zr) : av_MI l yX7_bears cX7_bears 3 2 (some .boolean) av_wc g [.ref (g.2.2 q), .int a1, .int a2] μ zr μ := by
  refine av_ent (own := RX7) (by decide) (Nat.le_of_ble_eq_true rfl) rfl (fun p e s m args below meth c E X hR ls hl => ?_)
  have hl : lv_has ls 3 [(0, .ref (g.2.2 q)), (1, .int a1), (2, .int a2)] := hl
  obtain ⟨hx, hb, hr, hml, hown, hts, hlocks⟩ := id E
  have hμ : μ = μ := rfl
  unfold fX7_bears at h
  refine lv_iload_n hx hb dX7_bears_0 rfl (lv_at hl 1 rfl) ?_
  refine lv_iconst (v := 0) hx hb dX7_bears_1 rfl ?_
  refine lv_aload_n hx hb dX7_bears_2 rfl (lv_at hl 0 rfl) ?_
  refine gf_X7_25 E X hR hq dX7_bears_3 rfl ?_
  refine gf_X7_86 E X hR (av_ty_7_0 hq) dX7_bears_6 ?_
  refine lv_iconst (v := 1) hx hb dX7_bears_9 rfl ?_
  refine lv_isub hx hb dX7_bears_10 ?_
  obtain ⟨r11, er11, h⟩ := av_bd h
  refine av_goI hR (av_cSN (As := [.int a1, .int 0, .int ((gF μ (av_rf q 0) 1) - 1)]) (rest := []) E X hR hl.1 (CX11_within l g er11) kk_X7_52 (av_room (by omega) (by decide)) rfl (Nat.le_of_ble_eq_true rfl) ⟨Nat.zero_le _, Nat.zero_le _⟩ dX7_bears_11) (fun H locs hR => ?_)
  refine lv_if_eq (tgt := 36) hx hb dX7_bears_14 (by decide) (fun c14 => ?_) (fun c14 => ?_)
  · have h := av_it c14 h
    exact tX7_bears_36 E X hμ h hR (lv_sub hl [] rfl)
  · have h := av_if c14 h
    refine lv_aload_n hx hb dX7_bears_17 rfl (lv_at hl 0 rfl) ?_
    refine lv_iload_n hx hb dX7_bears_18 rfl (lv_at hl 1 rfl) ?_
    obtain ⟨r19, er19, h⟩ := av_bd h
    refine av_goI hR (av_cV (As := [.int a1]) (rest := []) E X hR hl.1 (CX7_loadOf l g hq er19) kk_X7_113 (av_room (by omega) (by decide)) hq (by decide) rfl rfl (Nat.le_of_ble_eq_true rfl) ⟨Nat.zero_le _, Nat.zero_le _⟩ dX7_bears_19) (fun H locs hR => ?_)
    refine lv_iload_n hx hb dX7_bears_22 rfl (lv_at hl 2 rfl) ?_
    refine lv_iadd hx hb dX7_bears_23 ?_
    refine lv_aload_n hx hb dX7_bears_24 rfl (lv_at hl 0 rfl) ?_
    refine gf_X7_25 E X hR hq dX7_bears_25 rfl ?_
    refine gf_X7_116 E X hR (av_ty_7_0 hq) dX7_bears_28 rfl ?_
    refine lv_iload_n hx hb dX7_bears_31 rfl (lv_at hl 1 rfl) ?_
    obtain ⟨r32, er32, h⟩ := av_bd h
    refine av_il E X hR (av_ty_9_2 (av_ty_7_0 hq)) er32 dX7_bears_32 ?_
    refine lv_icmp_gt (tgt := 40) hx hb dX7_bears_33 (by decide) (fun c33 => ?_) (fun c33 => ?_)
    · have h := av_it c33 h
      refine lv_iconst (v := 0) hx hb dX7_bears_40 rfl ?_
      exact av_rz E hR rfl ⟨Option.some.inj h, hμ.symm⟩ dX7_bears_41
    · have h := av_if c33 h
      exact tX7_bears_36 E X hμ h hR (lv_sub hl [] rfl)

set_option maxHeartbeats 4000000 in
set_option maxRecDepth 100000 in
theorem tX7_lightest_30 {p : Program} {l : Launch} {e : Env} {s : State} {m : MethodId} {args : Array Value} {below : List Frame} {meth : Method} {c : Code} {g : Gl} {zr : Int32} {μ0 : Mem} (E : av_E p s m args meth c cX7_lightest RX7 3 (some .int)) (X : av_X av_wc g s) {k4 : Nat → Int32 → Int32 → Mem → Option (Int32)} (hk4 : ∀ {q : Nat} {x1 : Int32} {x2 : Int32} (hq : av_t av_wc q 7) {μ : Mem} {H : Heap} {locs : List Loc} {ls : Array Slot} (hμ : μ0 = μ), k4 q x1 x2 μ = some zr → av_R av_wc g μ s H locs → lv_has ls 3 [(0, .ref (g.2.2 q)), (1, .int x1), (2, .int x2)] → W p l e (rmN 2) s m args below meth c H locs 0 0 (MQ below (va_Qi (fun r1 u => r1 = zr ∧ u = μ0) (av_B av_wc g) (av_A av_wc g)) args s 0 0 (av_A av_wc g)) (F0 m 4 ls [])) :
    ∀ {q : Nat} {x1 : Int32} {x2 : Int32} (hq : av_t av_wc q 7) {μ : Mem} {H : Heap} {locs : List Loc} {ls : Array Slot} (hμ : μ0 = μ), fX7_lightest_30 k4 q x1 x2 μ = some zr → av_R av_wc g μ s H locs → lv_has ls 3 [(0, .ref (g.2.2 q)), (1, .int x1), (2, .int x2)] → W p l e (rmN 2) s m args below meth c H locs 0 0 (MQ below (va_Qi (fun r1 u => r1 = zr ∧ u = μ0) (av_B av_wc g) (av_A av_wc g)) args s 0 0 (av_A av_wc g)) (F0 m 30 ls []) := by
  obtain ⟨hx, hb, hr, hml, hown, hts, hlocks⟩ := id E
  intro q x1 x2 hq μ H locs ls hμ h hR hl
  unfold fX7_lightest_30 at h
  obtain ⟨x2_30, ex2_30, h⟩ := av_bd h
  replace ex2_30 := Option.some.inj ex2_30
  refine lv_iinc (v := x2_30) (lv' := [(2, .int x2_30), (0, .ref (g.2.2 q)), (1, .int x1)]) hx hb dX7_lightest_30 hl (k := 2) rfl ex2_30 (by decide) rfl (fun ls hl => ?_)
  refine lv_goto (tgt := 4) hx hb dX7_lightest_33 (by decide) ?_
  exact hk4 hq hμ h hR (lv_sub hl [1, 2, 0] rfl)

set_option maxHeartbeats 4000000 in
set_option maxRecDepth 100000 in
theorem tX7_lightest_4 {p : Program} {l : Launch} {e : Env} {s : State} {m : MethodId} {args : Array Value} {below : List Frame} {meth : Method} {c : Code} {g : Gl} {zr : Int32} {μ0 : Mem} (E : av_E p s m args meth c cX7_lightest RX7 3 (some .int)) (X : av_X av_wc g s) :
    ∀ (n : Nat) {q : Nat} {x1 : Int32} {x2 : Int32} (hq : av_t av_wc q 7) {μ : Mem} {H : Heap} {locs : List Loc} {ls : Array Slot} (hμ : μ0 = μ), fX7_lightest_4 n q x1 x2 μ = some zr → av_R av_wc g μ s H locs → lv_has ls 3 [(0, .ref (g.2.2 q)), (1, .int x1), (2, .int x2)] → W p l e (rmN 2) s m args below meth c H locs 0 0 (MQ below (va_Qi (fun r1 u => r1 = zr ∧ u = μ0) (av_B av_wc g) (av_A av_wc g)) args s 0 0 (av_A av_wc g)) (F0 m 4 ls []) := by
  obtain ⟨hx, hb, hr, hml, hown, hts, hlocks⟩ := id E
  intro n
  induction n with
  | zero =>
    intro q x1 x2 hq μ H locs ls hμ h hR hl
    cases h
  | succ n ih =>
    intro q x1 x2 hq μ H locs ls hμ h hR hl
    unfold fX7_lightest_4 at h
    refine lv_iload_n hx hb dX7_lightest_4 rfl (lv_at hl 2 rfl) ?_
    refine lv_aload_n hx hb dX7_lightest_5 rfl (lv_at hl 0 rfl) ?_
    refine gf_X7_25 E X hR hq dX7_lightest_6 rfl ?_
    refine gf_X7_86 E X hR (av_ty_7_0 hq) dX7_lightest_9 ?_
    refine lv_icmp_ge (tgt := 36) hx hb dX7_lightest_12 (by decide) (fun c12 => ?_) (fun c12 => ?_)
    · have h := av_it c12 h
      refine lv_iload_n hx hb dX7_lightest_36 rfl (lv_at hl 1 rfl) ?_
      exact av_ri E hR ⟨Option.some.inj h, hμ.symm⟩ dX7_lightest_37
    · have h := av_if c12 h
      refine lv_aload_n hx hb dX7_lightest_15 rfl (lv_at hl 0 rfl) ?_
      refine lv_iload_n hx hb dX7_lightest_16 rfl (lv_at hl 2 rfl) ?_
      obtain ⟨r17, er17, h⟩ := av_bd h
      refine av_goI hR (av_cV (As := [.int x2]) (rest := []) E X hR hl.1 (CX7_loadOf l g hq er17) kk_X7_113 (av_room (by omega) (by decide)) hq (by decide) rfl rfl (Nat.le_of_ble_eq_true rfl) ⟨Nat.zero_le _, Nat.zero_le _⟩ dX7_lightest_17) (fun H locs hR => ?_)
      refine lv_aload_n hx hb dX7_lightest_20 rfl (lv_at hl 0 rfl) ?_
      refine lv_iload_n hx hb dX7_lightest_21 rfl (lv_at hl 1 rfl) ?_
      obtain ⟨r22, er22, h⟩ := av_bd h
      refine av_goI hR (av_cV (As := [.int x1]) (rest := [.int r17]) E X hR hl.1 (CX7_loadOf l g hq er22) kk_X7_113 (av_room (by omega) (by decide)) hq (by decide) rfl rfl (Nat.le_of_ble_eq_true rfl) ⟨Nat.zero_le _, Nat.zero_le _⟩ dX7_lightest_22) (fun H locs hR => ?_)
      refine lv_icmp_ge (tgt := 30) hx hb dX7_lightest_25 (by decide) (fun c25 => ?_) (fun c25 => ?_)
      · have h := av_it c25 h
        exact tX7_lightest_30 E X ih hq hμ h hR (lv_sub hl [0, 1, 2] rfl)
      · have h := av_if c25 h
        refine lv_iload_n hx hb dX7_lightest_28 rfl (lv_at hl 2 rfl) ?_
        refine lv_istore_n (lv' := [(1, .int x2), (0, .ref (g.2.2 q)), (2, .int x2)]) hx hb dX7_lightest_29 rfl hl (by decide) rfl (fun ls hl => ?_)
        exact tX7_lightest_30 E X ih hq hμ h hR (lv_sub hl [1, 0, 2] rfl)

set_option maxHeartbeats 4000000 in
set_option maxRecDepth 100000 in
theorem CX7_lightest (l : Launch) (g : Gl) {q : Nat} (hq : av_t av_wc q 7) {μ : Mem} {zr : Int32} (h : fX7_lightest q μ = some zr) : av_MI l yX7_lightest cX7_lightest 3 2 (some .int) av_wc g [.ref (g.2.2 q)] μ zr μ := by
  refine av_ent (own := RX7) (by decide) (Nat.le_of_ble_eq_true rfl) rfl (fun p e s m args below meth c E X hR ls hl => ?_)
  have hl : lv_has ls 3 [(0, .ref (g.2.2 q))] := hl
  obtain ⟨hx, hb, hr, hml, hown, hts, hlocks⟩ := id E
  have hμ : μ = μ := rfl
  unfold fX7_lightest at h
  refine lv_iconst (v := 0) hx hb dX7_lightest_0 rfl ?_
  refine lv_istore_n (lv' := [(1, .int 0), (0, .ref (g.2.2 q))]) hx hb dX7_lightest_1 rfl hl (by decide) rfl (fun ls hl => ?_)
  refine lv_iconst (v := 1) hx hb dX7_lightest_2 rfl ?_
  refine lv_istore_n (lv' := [(2, .int 1), (1, .int 0), (0, .ref (g.2.2 q))]) hx hb dX7_lightest_3 rfl hl (by decide) rfl (fun ls hl => ?_)
  exact tX7_lightest_4 E X _ hq hμ h hR (lv_sub hl [2, 1, 0] rfl)

theorem dr_X0_11 {p : Program} {l : Launch} {e : Env} {s : State} {m : MethodId} {args : Array Value} {below : List Frame} {meth : Method} {c : Code} {H : Heap} {locs : List Loc} {Q : State → Prop} {cc : ByteArray} {pc M : Nat} {ls : Array Slot} {rest : List Value} {g : Gl} {μ : Mem} {nL : Nat} {ret : Option FieldType} (E : av_E p s m args meth c cc RX0 nL ret) (X : av_X av_wc g s) (hR : av_R av_wc g μ s H locs) (hls : ls.size = nL) {q : Nat} {a1 : Int32} {r : Int32} (hq : av_pl q) (h : dv_X0_11 q a1 μ = some r) (hM : 2 ≤ M) (hrm : (rest.map fun v => v.category).sum ≤ 8) (hdg : decode cc pc = .ok (.invokevirtual 11, 3)) (kk : ∀ (H : Heap) (locs : List Loc), av_R av_wc g μ s H locs → W p l e (rmN M) s m args below meth c H locs 0 0 Q (F0 m (pc + 3) ls (.int r :: rest))) : W p l e (rmN M) s m args below meth c H locs 0 0 Q (F0 m pc ls (.int a1 :: .ref (g.2.2 q) :: rest)) := by
  unfold dv_X0_11 at h
  by_cases c0 : av_cls q = 0
  · exact av_goI hR (av_cU (As := [.int a1]) (rest := rest) E X hR hls (CX4_heft l g hq (av_it c0 h)) kd_X0_11_0 (av_room (by omega) (by decide)) ⟨c0, av_pl_in hq⟩ (by decide) rfl rfl hrm ⟨Nat.zero_le _, Nat.zero_le _⟩ hdg) kk
  replace h := av_if c0 h
  by_cases c6 : av_cls q = 6
  · exact av_goI hR (av_cU (As := [.int a1]) (rest := rest) E X hR hls (CX6_heft l g hq (av_it c6 h)) kd_X0_11_6 (av_room (by omega) (by decide)) ⟨c6, av_pl_in hq⟩ (by decide) rfl rfl hrm ⟨Nat.zero_le _, Nat.zero_le _⟩ hdg) kk
  replace h := av_if c6 h
  cases h

set_option maxHeartbeats 4000000 in
set_option maxRecDepth 100000 in
theorem CX0_place (l : Launch) (g : Gl) {q : Nat} {a1 : Nat} {a2 : Int32} {a3 : Int32} (hq : av_pl q) (ha1 : av_t av_wc a1 7) {μ : Mem} {zr : Int32} (h : fX0_place q a1 a2 a3 μ = some zr) : av_MI l yX0_place cX0_place 5 3 (some .int) av_wc g [.ref (g.2.2 q), .ref (g.2.2 a1), .int a2, .int a3] μ zr μ := by
  refine av_ent (own := RX0) (by decide) (Nat.le_of_ble_eq_true rfl) rfl (fun p e s m args below meth c E X hR ls hl => ?_)
  have hl : lv_has ls 5 [(0, .ref (g.2.2 q)), (1, .ref (g.2.2 a1)), (2, .int a2), (3, .int a3)] := hl
  obtain ⟨hx, hb, hr, hml, hown, hts, hlocks⟩ := id E
  have hμ : μ = μ := rfl
  unfold fX0_place at h
  refine lv_aload_n hx hb dX0_place_0 rfl (lv_at hl 0 rfl) ?_
  refine lv_aload_n hx hb dX0_place_1 rfl (lv_at hl 1 rfl) ?_
  refine lv_iload_n hx hb dX0_place_2 rfl (lv_at hl 2 rfl) ?_
  refine lv_iload_n hx hb dX0_place_3 rfl (lv_at hl 3 rfl) ?_
  obtain ⟨r4, er4, h⟩ := av_bd h
  refine av_goI hR (av_cSUp (As := [.ref (g.2.2 a1), .int a2, .int a3]) (rest := []) E X hR hl.1 (CX4_place l g hq ha1 er4) kk_X0_7 (av_room (by omega) (by decide)) hq rfl (Nat.le_of_ble_eq_true rfl) ⟨Nat.zero_le _, Nat.zero_le _⟩ dX0_place_4) (fun H locs hR => ?_)
  refine lv_istore (lv' := [(4, .int r4), (0, .ref (g.2.2 q)), (1, .ref (g.2.2 a1)), (2, .int a2), (3, .int a3)]) hx hb dX0_place_7 hl (by decide) rfl (fun ls hl => ?_)
  refine lv_aload_n hx hb dX0_place_9 rfl (lv_at hl 2 rfl) ?_
  refine lv_iload hx hb dX0_place_10 (lv_at hl 0 rfl) ?_
  refine lv_aload_n hx hb dX0_place_12 rfl (lv_at hl 1 rfl) ?_
  refine lv_iload_n hx hb dX0_place_13 rfl (lv_at hl 4 rfl) ?_
  obtain ⟨r14, er14, h⟩ := av_bd h
  refine dr_X0_11 (rest := [.int r4, .ref (g.2.2 a1)]) E X hR hl.1 hq er14 (by omega) (Nat.le_of_ble_eq_true rfl) dX0_place_14 (fun H locs hR => ?_)
  obtain ⟨r17, er17, h⟩ := av_bd h
  refine av_goI hR (av_cV (As := [.int r4, .int r14]) (rest := []) E X hR hl.1 (CX7_bears l g ha1 er17) kk_X0_17 (av_room (by omega) (by decide)) ha1 (by decide) rfl rfl (Nat.le_of_ble_eq_true rfl) ⟨Nat.zero_le _, Nat.zero_le _⟩ dX0_place_17) (fun H locs hR => ?_)
  refine lv_if_eq (tgt := 28) hx hb dX0_place_20 (by decide) (fun c20 => ?_) (fun c20 => ?_)
  · have h := av_it c20 h
    refine lv_aload_n hx hb dX0_place_28 rfl (lv_at hl 2 rfl) ?_
    obtain ⟨r29, er29, h⟩ := av_bd h
    refine av_goI hR (av_cV (As := []) (rest := []) E X hR hl.1 (CX7_lightest l g ha1 er29) kk_X0_23 (av_room (by omega) (by decide)) ha1 (by decide) rfl rfl (Nat.le_of_ble_eq_true rfl) ⟨Nat.zero_le _, Nat.zero_le _⟩ dX0_place_29) (fun H locs hR => ?_)
    exact av_ri E hR ⟨Option.some.inj h, hμ.symm⟩ dX0_place_32
  · have h := av_if c20 h
    refine lv_iload hx hb dX0_place_23 (lv_at hl 0 rfl) ?_
    refine lv_goto (tgt := 32) hx hb dX0_place_25 (by decide) ?_
    exact av_ri E hR ⟨Option.some.inj h, hμ.symm⟩ dX0_place_32

set_option maxHeartbeats 4000000 in
set_option maxRecDepth 100000 in
theorem CX7_copyFrom (l : Launch) (g : Gl) {q : Nat} {a1 : Nat} (hq : av_t av_wc q 7) (ha1 : av_t av_wc a1 7) {μ : Mem} {zm : Mem} (h : fX7_copyFrom q a1 μ = some zm) : av_MV l yX7_copyFrom cX7_copyFrom 2 2 none av_wc g [.ref (g.2.2 q), .ref (g.2.2 a1)] μ zm := by
  refine av_ent (own := RX7) (by decide) (Nat.le_of_ble_eq_true rfl) rfl (fun p e s m args below meth c E X hR ls hl => ?_)
  have hl : lv_has ls 2 [(0, .ref (g.2.2 q)), (1, .ref (g.2.2 a1))] := hl
  obtain ⟨hx, hb, hr, hml, hown, hts, hlocks⟩ := id E
  unfold fX7_copyFrom at h
  refine lv_aload_n hx hb dX7_copyFrom_0 rfl (lv_at hl 1 rfl) ?_
  refine gf_X7_9 E X hR ha1 dX7_copyFrom_1 rfl ?_
  refine lv_iconst (v := 0) hx hb dX7_copyFrom_4 rfl ?_
  refine lv_aload_n hx hb dX7_copyFrom_5 rfl (lv_at hl 0 rfl) ?_
  refine gf_X7_9 E X hR hq dX7_copyFrom_6 rfl ?_
  refine lv_iconst (v := 0) hx hb dX7_copyFrom_9 rfl ?_
  refine lv_bipush (v := 8) hx hb dX7_copyFrom_10 rfl ?_
  obtain ⟨μ12, eμ12, h⟩ := av_bd h
  refine av_cp E X hR hl.1 kM_X7_29 (av_ty_7_1 ha1) (av_ty_7_1 hq) eμ12 (by decide) (by decide) dX7_copyFrom_12 (fun H locs hR => ?_)
  refine lv_aload_n hx hb dX7_copyFrom_15 rfl (lv_at hl 1 rfl) ?_
  refine gf_X7_15 E X hR ha1 dX7_copyFrom_16 rfl ?_
  refine lv_iconst (v := 0) hx hb dX7_copyFrom_19 rfl ?_
  refine lv_aload_n hx hb dX7_copyFrom_20 rfl (lv_at hl 0 rfl) ?_
  refine gf_X7_15 E X hR hq dX7_copyFrom_21 rfl ?_
  refine lv_iconst (v := 0) hx hb dX7_copyFrom_24 rfl ?_
  refine lv_bipush (v := 8) hx hb dX7_copyFrom_25 rfl ?_
  obtain ⟨μ27, eμ27, h⟩ := av_bd h
  refine av_cp E X hR hl.1 kM_X7_29 (av_ty_7_2 ha1) (av_ty_7_2 hq) eμ27 (by decide) (by decide) dX7_copyFrom_27 (fun H locs hR => ?_)
  refine lv_aload_n hx hb dX7_copyFrom_30 rfl (lv_at hl 0 rfl) ?_
  refine lv_aload_n hx hb dX7_copyFrom_31 rfl (lv_at hl 1 rfl) ?_
  refine gf_X7_35 E X hR ha1 dX7_copyFrom_32 ?_
  obtain ⟨μ35, eμ35, h⟩ := av_bd h
  replace eμ35 := Option.some.inj eμ35
  refine pf_X7_35 E X hR hq dX7_copyFrom_35 eμ35 (fun H locs hR => ?_)
  refine lv_aload_n hx hb dX7_copyFrom_38 rfl (lv_at hl 0 rfl) ?_
  refine lv_aload_n hx hb dX7_copyFrom_39 rfl (lv_at hl 1 rfl) ?_
  refine gf_X7_18 E X hR ha1 dX7_copyFrom_40 ?_
  obtain ⟨μ43, eμ43, h⟩ := av_bd h
  replace eμ43 := Option.some.inj eμ43
  refine pf_X7_18 E X hR hq dX7_copyFrom_43 eμ43 (fun H locs hR => ?_)
  refine lv_aload_n hx hb dX7_copyFrom_46 rfl (lv_at hl 0 rfl) ?_
  refine lv_aload_n hx hb dX7_copyFrom_47 rfl (lv_at hl 1 rfl) ?_
  refine gf_X7_38 E X hR ha1 dX7_copyFrom_48 ?_
  obtain ⟨μ51, eμ51, h⟩ := av_bd h
  replace eμ51 := Option.some.inj eμ51
  refine pf_X7_38 E X hR hq dX7_copyFrom_51 eμ51 (fun H locs hR => ?_)
  exact av_rv E hR (Option.some.inj h) dX7_copyFrom_54

set_option maxHeartbeats 4000000 in
set_option maxRecDepth 100000 in
theorem tX9_kindOf_24 {p : Program} {l : Launch} {e : Env} {s : State} {m : MethodId} {args : Array Value} {below : List Frame} {meth : Method} {c : Code} {g : Gl} {zr : Nat} {μ0 : Mem} (E : av_E p s m args meth c cX9_kindOf RX9 2 (some (.object "AvalancheVote$Plain"))) (X : av_X av_wc g s) :
    ∀ {y0 : Nat} {y1 : Int32} (hy0 : av_t av_wc y0 16) {μ : Mem} {H : Heap} {locs : List Loc} {ls : Array Slot} (hμ : μ0 = μ), fX9_kindOf_24 y0 y1 μ = some zr → av_R av_wc g μ s H locs → lv_has ls 2 [] → W p l e (rmN 2) s m args below meth c H locs 0 0 (MQ below (va_Qr (fun u => u = μ0) (fun u a t => a = g.2.2 zr ∧ av_B av_wc g u t) (av_A av_wc g)) args s 0 0 (av_A av_wc g)) (F0 m 24 ls [.int y1, .ref (g.2.2 y0)]) := by
  obtain ⟨hx, hb, hr, hml, hown, hts, hlocks⟩ := id E
  intro y0 y1 hy0 μ H locs ls hμ h hR hl
  unfold fX9_kindOf_24 at h
  obtain ⟨r24, er24, h⟩ := av_bd h
  refine av_al E X hR hy0 (by decide) (t0 := 3) rfl er24 dX9_kindOf_24 ?_
  exact av_rr E hR ⟨Option.some.inj h, hμ.symm⟩ dX9_kindOf_25

set_option maxHeartbeats 4000000 in
set_option maxRecDepth 100000 in
theorem CX9_kindOf (l : Launch) (g : Gl) {q : Nat} {a1 : Int32} (hq : av_t av_wc q 9) {μ : Mem} {zr : Nat} (h : fX9_kindOf q a1 μ = some zr) : av_MR l yX9_kindOf cX9_kindOf 2 2 (some (.object "AvalancheVote$Plain")) av_wc g [.ref (g.2.2 q), .int a1] μ zr μ := by
  refine av_ent (own := RX9) (by decide) (Nat.le_of_ble_eq_true rfl) rfl (fun p e s m args below meth c E X hR ls hl => ?_)
  have hl : lv_has ls 2 [(0, .ref (g.2.2 q)), (1, .int a1)] := hl
  obtain ⟨hx, hb, hr, hml, hown, hts, hlocks⟩ := id E
  have hμ : μ = μ := rfl
  unfold fX9_kindOf at h
  refine lv_aload_n hx hb dX9_kindOf_0 rfl (lv_at hl 0 rfl) ?_
  refine gf_X9_27 E X hR hq dX9_kindOf_1 rfl ?_
  refine lv_iload_n hx hb dX9_kindOf_4 rfl (lv_at hl 1 rfl) ?_
  refine lv_iconst (v := 0) hx hb dX9_kindOf_5 rfl ?_
  refine lv_aload_n hx hb dX9_kindOf_6 rfl (lv_at hl 0 rfl) ?_
  refine gf_X9_27 E X hR hq dX9_kindOf_7 rfl ?_
  refine av_len E X hR (av_ty_9_0 hq) (by decide) (t0 := 3) rfl dX9_kindOf_10 ?_
  refine lv_iconst (v := 1) hx hb dX9_kindOf_11 rfl ?_
  refine lv_isub hx hb dX9_kindOf_12 ?_
  obtain ⟨r13, er13, h⟩ := av_bd h
  refine av_goI hR (av_cSN (As := [.int a1, .int 0, .int ((nI (av_ln (av_rf q 0))) - 1)]) (rest := [.ref (g.2.2 (av_rf q 0))]) E X hR hl.1 (CX11_within l g er13) kk_X9_44 (av_room (by omega) (by decide)) rfl (Nat.le_of_ble_eq_true rfl) ⟨Nat.zero_le _, Nat.zero_le _⟩ dX9_kindOf_13) (fun H locs hR => ?_)
  refine lv_if_eq (tgt := 23) hx hb dX9_kindOf_16 (by decide) (fun c16 => ?_) (fun c16 => ?_)
  · have h := av_it c16 h
    refine lv_iconst (v := 0) hx hb dX9_kindOf_23 rfl ?_
    exact tX9_kindOf_24 E X (av_ty_9_0 hq) hμ h hR (lv_sub hl [] rfl)
  · have h := av_if c16 h
    refine lv_iload_n hx hb dX9_kindOf_19 rfl (lv_at hl 1 rfl) ?_
    refine lv_goto (tgt := 24) hx hb dX9_kindOf_20 (by decide) ?_
    exact tX9_kindOf_24 E X (av_ty_9_0 hq) hμ h hR (lv_sub hl [] rfl)

theorem tyX9_kindOf {q r : Nat} {a1 : Int32} {μ : Mem} (hq : av_t av_wc q 9) (h : fX9_kindOf q a1 μ = some r) : av_pl r := by
  unfold fX9_kindOf at h
  obtain ⟨r13, e, h⟩ := av_bd h
  by_cases c : r13 = 0
  · replace h := av_it c h
    unfold fX9_kindOf_24 at h
    obtain ⟨r24, e2, h⟩ := av_bd h
    cases h
    exact av_ty16 (av_ty_9_0 hq) e2
  · replace h := av_if c h
    unfold fX9_kindOf_24 at h
    obtain ⟨r24, e2, h⟩ := av_bd h
    cases h
    exact av_ty16 (av_ty_9_0 hq) e2

set_option maxHeartbeats 4000000 in
set_option maxRecDepth 100000 in
theorem tX7_heaviest_30 {p : Program} {l : Launch} {e : Env} {s : State} {m : MethodId} {args : Array Value} {below : List Frame} {meth : Method} {c : Code} {g : Gl} {zr : Int32} {μ0 : Mem} (E : av_E p s m args meth c cX7_heaviest RX7 3 (some .int)) (X : av_X av_wc g s) {k4 : Nat → Int32 → Int32 → Mem → Option (Int32)} (hk4 : ∀ {q : Nat} {x1 : Int32} {x2 : Int32} (hq : av_t av_wc q 7) {μ : Mem} {H : Heap} {locs : List Loc} {ls : Array Slot} (hμ : μ0 = μ), k4 q x1 x2 μ = some zr → av_R av_wc g μ s H locs → lv_has ls 3 [(0, .ref (g.2.2 q)), (1, .int x1), (2, .int x2)] → W p l e (rmN 2) s m args below meth c H locs 0 0 (MQ below (va_Qi (fun r1 u => r1 = zr ∧ u = μ0) (av_B av_wc g) (av_A av_wc g)) args s 0 0 (av_A av_wc g)) (F0 m 4 ls [])) :
    ∀ {q : Nat} {x1 : Int32} {x2 : Int32} (hq : av_t av_wc q 7) {μ : Mem} {H : Heap} {locs : List Loc} {ls : Array Slot} (hμ : μ0 = μ), fX7_heaviest_30 k4 q x1 x2 μ = some zr → av_R av_wc g μ s H locs → lv_has ls 3 [(0, .ref (g.2.2 q)), (1, .int x1), (2, .int x2)] → W p l e (rmN 2) s m args below meth c H locs 0 0 (MQ below (va_Qi (fun r1 u => r1 = zr ∧ u = μ0) (av_B av_wc g) (av_A av_wc g)) args s 0 0 (av_A av_wc g)) (F0 m 30 ls []) := by
  obtain ⟨hx, hb, hr, hml, hown, hts, hlocks⟩ := id E
  intro q x1 x2 hq μ H locs ls hμ h hR hl
  unfold fX7_heaviest_30 at h
  obtain ⟨x2_30, ex2_30, h⟩ := av_bd h
  replace ex2_30 := Option.some.inj ex2_30
  refine lv_iinc (v := x2_30) (lv' := [(2, .int x2_30), (0, .ref (g.2.2 q)), (1, .int x1)]) hx hb dX7_heaviest_30 hl (k := 2) rfl ex2_30 (by decide) rfl (fun ls hl => ?_)
  refine lv_goto (tgt := 4) hx hb dX7_heaviest_33 (by decide) ?_
  exact hk4 hq hμ h hR (lv_sub hl [1, 2, 0] rfl)

set_option maxHeartbeats 4000000 in
set_option maxRecDepth 100000 in
theorem tX7_heaviest_4 {p : Program} {l : Launch} {e : Env} {s : State} {m : MethodId} {args : Array Value} {below : List Frame} {meth : Method} {c : Code} {g : Gl} {zr : Int32} {μ0 : Mem} (E : av_E p s m args meth c cX7_heaviest RX7 3 (some .int)) (X : av_X av_wc g s) :
    ∀ (n : Nat) {q : Nat} {x1 : Int32} {x2 : Int32} (hq : av_t av_wc q 7) {μ : Mem} {H : Heap} {locs : List Loc} {ls : Array Slot} (hμ : μ0 = μ), fX7_heaviest_4 n q x1 x2 μ = some zr → av_R av_wc g μ s H locs → lv_has ls 3 [(0, .ref (g.2.2 q)), (1, .int x1), (2, .int x2)] → W p l e (rmN 2) s m args below meth c H locs 0 0 (MQ below (va_Qi (fun r1 u => r1 = zr ∧ u = μ0) (av_B av_wc g) (av_A av_wc g)) args s 0 0 (av_A av_wc g)) (F0 m 4 ls []) := by
  obtain ⟨hx, hb, hr, hml, hown, hts, hlocks⟩ := id E
  intro n
  induction n with
  | zero =>
    intro q x1 x2 hq μ H locs ls hμ h hR hl
    cases h
  | succ n ih =>
    intro q x1 x2 hq μ H locs ls hμ h hR hl
    unfold fX7_heaviest_4 at h
    refine lv_iload_n hx hb dX7_heaviest_4 rfl (lv_at hl 2 rfl) ?_
    refine lv_aload_n hx hb dX7_heaviest_5 rfl (lv_at hl 0 rfl) ?_
    refine gf_X7_25 E X hR hq dX7_heaviest_6 rfl ?_
    refine gf_X7_86 E X hR (av_ty_7_0 hq) dX7_heaviest_9 ?_
    refine lv_icmp_ge (tgt := 36) hx hb dX7_heaviest_12 (by decide) (fun c12 => ?_) (fun c12 => ?_)
    · have h := av_it c12 h
      refine lv_iload_n hx hb dX7_heaviest_36 rfl (lv_at hl 1 rfl) ?_
      exact av_ri E hR ⟨Option.some.inj h, hμ.symm⟩ dX7_heaviest_37
    · have h := av_if c12 h
      refine lv_aload_n hx hb dX7_heaviest_15 rfl (lv_at hl 0 rfl) ?_
      refine lv_iload_n hx hb dX7_heaviest_16 rfl (lv_at hl 2 rfl) ?_
      obtain ⟨r17, er17, h⟩ := av_bd h
      refine av_goI hR (av_cV (As := [.int x2]) (rest := []) E X hR hl.1 (CX7_loadOf l g hq er17) kk_X7_113 (av_room (by omega) (by decide)) hq (by decide) rfl rfl (Nat.le_of_ble_eq_true rfl) ⟨Nat.zero_le _, Nat.zero_le _⟩ dX7_heaviest_17) (fun H locs hR => ?_)
      refine lv_aload_n hx hb dX7_heaviest_20 rfl (lv_at hl 0 rfl) ?_
      refine lv_iload_n hx hb dX7_heaviest_21 rfl (lv_at hl 1 rfl) ?_
      obtain ⟨r22, er22, h⟩ := av_bd h
      refine av_goI hR (av_cV (As := [.int x1]) (rest := [.int r17]) E X hR hl.1 (CX7_loadOf l g hq er22) kk_X7_113 (av_room (by omega) (by decide)) hq (by decide) rfl rfl (Nat.le_of_ble_eq_true rfl) ⟨Nat.zero_le _, Nat.zero_le _⟩ dX7_heaviest_22) (fun H locs hR => ?_)
      refine lv_icmp_le (tgt := 30) hx hb dX7_heaviest_25 (by decide) (fun c25 => ?_) (fun c25 => ?_)
      · have h := av_it c25 h
        exact tX7_heaviest_30 E X ih hq hμ h hR (lv_sub hl [0, 1, 2] rfl)
      · have h := av_if c25 h
        refine lv_iload_n hx hb dX7_heaviest_28 rfl (lv_at hl 2 rfl) ?_
        refine lv_istore_n (lv' := [(1, .int x2), (0, .ref (g.2.2 q)), (2, .int x2)]) hx hb dX7_heaviest_29 rfl hl (by decide) rfl (fun ls hl => ?_)
        exact tX7_heaviest_30 E X ih hq hμ h hR (lv_sub hl [1, 0, 2] rfl)

set_option maxHeartbeats 4000000 in
set_option maxRecDepth 100000 in
theorem CX7_heaviest (l : Launch) (g : Gl) {q : Nat} (hq : av_t av_wc q 7) {μ : Mem} {zr : Int32} (h : fX7_heaviest q μ = some zr) : av_MI l yX7_heaviest cX7_heaviest 3 2 (some .int) av_wc g [.ref (g.2.2 q)] μ zr μ := by
  refine av_ent (own := RX7) (by decide) (Nat.le_of_ble_eq_true rfl) rfl (fun p e s m args below meth c E X hR ls hl => ?_)
  have hl : lv_has ls 3 [(0, .ref (g.2.2 q))] := hl
  obtain ⟨hx, hb, hr, hml, hown, hts, hlocks⟩ := id E
  have hμ : μ = μ := rfl
  unfold fX7_heaviest at h
  refine lv_iconst (v := 0) hx hb dX7_heaviest_0 rfl ?_
  refine lv_istore_n (lv' := [(1, .int 0), (0, .ref (g.2.2 q))]) hx hb dX7_heaviest_1 rfl hl (by decide) rfl (fun ls hl => ?_)
  refine lv_iconst (v := 1) hx hb dX7_heaviest_2 rfl ?_
  refine lv_istore_n (lv' := [(2, .int 1), (1, .int 0), (0, .ref (g.2.2 q))]) hx hb dX7_heaviest_3 rfl hl (by decide) rfl (fun ls hl => ?_)
  exact tX7_heaviest_4 E X _ hq hμ h hR (lv_sub hl [2, 1, 0] rfl)

set_option maxHeartbeats 4000000 in
set_option maxRecDepth 100000 in
theorem CX10_place (l : Launch) (g : Gl) {q : Nat} {a1 : Nat} {a2 : Int32} {a3 : Int32} (hq : av_pl q) (ha1 : av_t av_wc a1 7) {μ : Mem} {zr : Int32} (h : fX10_place q a1 a2 a3 μ = some zr) : av_MI l yX10_place cX10_place 4 3 (some .int) av_wc g [.ref (g.2.2 q), .ref (g.2.2 a1), .int a2, .int a3] μ zr μ := by
  refine av_ent (own := RX10) (by decide) (Nat.le_of_ble_eq_true rfl) rfl (fun p e s m args below meth c E X hR ls hl => ?_)
  have hl : lv_has ls 4 [(0, .ref (g.2.2 q)), (1, .ref (g.2.2 a1)), (2, .int a2), (3, .int a3)] := hl
  obtain ⟨hx, hb, hr, hml, hown, hts, hlocks⟩ := id E
  have hμ : μ = μ := rfl
  unfold fX10_place at h
  refine lv_aload_n hx hb dX10_place_0 rfl (lv_at hl 1 rfl) ?_
  refine gf_X10_7 E X hR ha1 dX10_place_1 ?_
  refine lv_iconst (v := 2) hx hb dX10_place_4 rfl ?_
  refine lv_irem hx hb dX10_place_5 (by decide) ?_
  refine lv_if_eq (tgt := 16) hx hb dX10_place_6 (by decide) (fun c6 => ?_) (fun c6 => ?_)
  · have h := av_it c6 h
    refine lv_aload_n hx hb dX10_place_16 rfl (lv_at hl 0 rfl) ?_
    refine lv_aload_n hx hb dX10_place_17 rfl (lv_at hl 1 rfl) ?_
    refine lv_iload_n hx hb dX10_place_18 rfl (lv_at hl 2 rfl) ?_
    refine lv_iload_n hx hb dX10_place_19 rfl (lv_at hl 3 rfl) ?_
    obtain ⟨r20, er20, h⟩ := av_bd h
    refine av_goI hR (av_cSop (As := [.ref (g.2.2 a1), .int a2, .int a3]) (rest := []) E X hR hl.1 (CX4_place l g hq ha1 er20) kk_X10_17 (av_room (by omega) (by decide)) hq rfl (Nat.le_of_ble_eq_true rfl) ⟨Nat.zero_le _, Nat.zero_le _⟩ dX10_place_20) (fun H locs hR => ?_)
    exact av_ri E hR ⟨Option.some.inj h, hμ.symm⟩ dX10_place_23
  · have h := av_if c6 h
    refine lv_aload_n hx hb dX10_place_9 rfl (lv_at hl 1 rfl) ?_
    obtain ⟨r10, er10, h⟩ := av_bd h
    refine av_goI hR (av_cV (As := []) (rest := []) E X hR hl.1 (CX7_heaviest l g ha1 er10) kk_X10_13 (av_room (by omega) (by decide)) ha1 (by decide) rfl rfl (Nat.le_of_ble_eq_true rfl) ⟨Nat.zero_le _, Nat.zero_le _⟩ dX10_place_10) (fun H locs hR => ?_)
    refine lv_goto (tgt := 23) hx hb dX10_place_13 (by decide) ?_
    exact av_ri E hR ⟨Option.some.inj h, hμ.symm⟩ dX10_place_23

set_option maxHeartbeats 4000000 in
set_option maxRecDepth 100000 in
theorem CX9_ledgeBelow (l : Launch) (g : Gl) {q : Nat} {a1 : Int32} (hq : av_t av_wc q 9) {μ : Mem} {zr : Int32} (h : fX9_ledgeBelow q a1 μ = some zr) : av_MI l yX9_ledgeBelow cX9_ledgeBelow 2 2 (some .int) av_wc g [.ref (g.2.2 q), .int a1] μ zr μ := by
  refine av_ent (own := RX9) (by decide) (Nat.le_of_ble_eq_true rfl) rfl (fun p e s m args below meth c E X hR ls hl => ?_)
  have hl : lv_has ls 2 [(0, .ref (g.2.2 q)), (1, .int a1)] := hl
  obtain ⟨hx, hb, hr, hml, hown, hts, hlocks⟩ := id E
  have hμ : μ = μ := rfl
  unfold fX9_ledgeBelow at h
  refine lv_iload_n hx hb dX9_ledgeBelow_0 rfl (lv_at hl 1 rfl) ?_
  refine lv_iconst (v := 0) hx hb dX9_ledgeBelow_1 rfl ?_
  refine lv_aload_n hx hb dX9_ledgeBelow_2 rfl (lv_at hl 0 rfl) ?_
  refine gf_X9_31 E X hR hq dX9_ledgeBelow_3 ?_
  refine lv_iconst (v := 1) hx hb dX9_ledgeBelow_6 rfl ?_
  refine lv_isub hx hb dX9_ledgeBelow_7 ?_
  obtain ⟨r8, er8, h⟩ := av_bd h
  refine av_goI hR (av_cSN (As := [.int a1, .int 0, .int ((gF μ q 1) - 1)]) (rest := []) E X hR hl.1 (CX11_within l g er8) kk_X9_44 (av_room (by omega) (by decide)) rfl (Nat.le_of_ble_eq_true rfl) ⟨Nat.zero_le _, Nat.zero_le _⟩ dX9_ledgeBelow_8) (fun H locs hR => ?_)
  refine lv_if_eq (tgt := 23) hx hb dX9_ledgeBelow_11 (by decide) (fun c11 => ?_) (fun c11 => ?_)
  · have h := av_it c11 h
    refine lv_iconst (v := (-1)) hx hb dX9_ledgeBelow_23 rfl ?_
    exact av_ri E hR ⟨Option.some.inj h, hμ.symm⟩ dX9_ledgeBelow_24
  · have h := av_if c11 h
    refine lv_aload_n hx hb dX9_ledgeBelow_14 rfl (lv_at hl 0 rfl) ?_
    refine gf_X9_15 E X hR hq dX9_ledgeBelow_15 rfl ?_
    refine lv_iload_n hx hb dX9_ledgeBelow_18 rfl (lv_at hl 1 rfl) ?_
    obtain ⟨r19, er19, h⟩ := av_bd h
    refine av_il E X hR (av_ty_9_3 hq) er19 dX9_ledgeBelow_19 ?_
    refine lv_goto (tgt := 24) hx hb dX9_ledgeBelow_20 (by decide) ?_
    exact av_ri E hR ⟨Option.some.inj h, hμ.symm⟩ dX9_ledgeBelow_24

set_option maxHeartbeats 4000000 in
set_option maxRecDepth 100000 in
theorem CX2_place (l : Launch) (g : Gl) {q : Nat} {a1 : Nat} {a2 : Int32} {a3 : Int32} (hq : av_pl q) (ha1 : av_t av_wc a1 7) {μ : Mem} {zr : Int32} (h : fX2_place q a1 a2 a3 μ = some zr) : av_MI l yX2_place cX2_place 6 3 (some .int) av_wc g [.ref (g.2.2 q), .ref (g.2.2 a1), .int a2, .int a3] μ zr μ := by
  refine av_ent (own := RX2) (by decide) (Nat.le_of_ble_eq_true rfl) rfl (fun p e s m args below meth c E X hR ls hl => ?_)
  have hl : lv_has ls 6 [(0, .ref (g.2.2 q)), (1, .ref (g.2.2 a1)), (2, .int a2), (3, .int a3)] := hl
  obtain ⟨hx, hb, hr, hml, hown, hts, hlocks⟩ := id E
  have hμ : μ = μ := rfl
  unfold fX2_place at h
  refine lv_aload_n hx hb dX2_place_0 rfl (lv_at hl 0 rfl) ?_
  refine lv_aload_n hx hb dX2_place_1 rfl (lv_at hl 1 rfl) ?_
  refine lv_iload_n hx hb dX2_place_2 rfl (lv_at hl 2 rfl) ?_
  refine lv_iload_n hx hb dX2_place_3 rfl (lv_at hl 3 rfl) ?_
  obtain ⟨r4, er4, h⟩ := av_bd h
  refine av_goI hR (av_cSUp (As := [.ref (g.2.2 a1), .int a2, .int a3]) (rest := []) E X hR hl.1 (CX4_place l g hq ha1 er4) kk_X2_9 (av_room (by omega) (by decide)) hq rfl (Nat.le_of_ble_eq_true rfl) ⟨Nat.zero_le _, Nat.zero_le _⟩ dX2_place_4) (fun H locs hR => ?_)
  refine lv_istore (lv' := [(4, .int r4), (0, .ref (g.2.2 q)), (1, .ref (g.2.2 a1)), (2, .int a2), (3, .int a3)]) hx hb dX2_place_7 hl (by decide) rfl (fun ls hl => ?_)
  refine lv_aload_n hx hb dX2_place_9 rfl (lv_at hl 2 rfl) ?_
  refine gf_X2_13 E X hR ha1 dX2_place_10 rfl ?_
  refine lv_iload hx hb dX2_place_13 (lv_at hl 0 rfl) ?_
  obtain ⟨r15, er15, h⟩ := av_bd h
  refine av_goI hR (av_cV (As := [.int r4]) (rest := []) E X hR hl.1 (CX9_ledgeBelow l g (av_ty_7_0 ha1) er15) kk_X2_19 (av_room (by omega) (by decide)) (av_ty_7_0 ha1) (by decide) rfl rfl (Nat.le_of_ble_eq_true rfl) ⟨Nat.zero_le _, Nat.zero_le _⟩ dX2_place_15) (fun H locs hR => ?_)
  refine lv_istore (lv' := [(5, .int r15), (4, .int r4), (0, .ref (g.2.2 q)), (1, .ref (g.2.2 a1)), (2, .int a2), (3, .int a3)]) hx hb dX2_place_18 hl (by decide) rfl (fun ls hl => ?_)
  refine lv_iload hx hb dX2_place_20 (lv_at hl 0 rfl) ?_
  refine lv_iconst (v := (-1)) hx hb dX2_place_22 rfl ?_
  refine lv_icmp_ne (tgt := 31) hx hb dX2_place_23 (by decide) (fun c23 => ?_) (fun c23 => ?_)
  · have h := av_if c23 h
    refine lv_iload hx hb dX2_place_31 (lv_at hl 0 rfl) ?_
    exact av_ri E hR ⟨Option.some.inj h, hμ.symm⟩ dX2_place_33
  · have h := av_it c23 h
    refine lv_iload hx hb dX2_place_26 (lv_at hl 1 rfl) ?_
    refine lv_goto (tgt := 33) hx hb dX2_place_28 (by decide) ?_
    exact av_ri E hR ⟨Option.some.inj h, hμ.symm⟩ dX2_place_33

set_option maxHeartbeats 4000000 in
set_option maxRecDepth 100000 in
theorem CX3_heft (l : Launch) (g : Gl) {q : Nat} {a1 : Int32} (hq : av_pl q) {μ : Mem} {zr : Int32} (h : fX3_heft q a1 μ = some zr) : av_MI l yX3_heft cX3_heft 2 1 (some .int) av_wc g [.ref (g.2.2 q), .int a1] μ zr μ := by
  refine av_ent (own := RX3) (by decide) (Nat.le_of_ble_eq_true rfl) rfl (fun p e s m args below meth c E X hR ls hl => ?_)
  have hl : lv_has ls 2 [(0, .ref (g.2.2 q)), (1, .int a1)] := hl
  obtain ⟨hx, hb, hr, hml, hown, hts, hlocks⟩ := id E
  have hμ : μ = μ := rfl
  unfold fX3_heft at h
  refine lv_iconst (v := 2) hx hb dX3_heft_0 rfl ?_
  refine lv_iload_n hx hb dX3_heft_1 rfl (lv_at hl 1 rfl) ?_
  refine lv_imul hx hb dX3_heft_2 ?_
  exact av_ri E hR ⟨Option.some.inj h, hμ.symm⟩ dX3_heft_3

set_option maxHeartbeats 4000000 in
set_option maxRecDepth 100000 in
theorem CX7_lay (l : Launch) (g : Gl) {q : Nat} {a1 : Int32} {a2 : Int32} (hq : av_t av_wc q 7) {μ : Mem} {zm : Mem} (h : fX7_lay q a1 a2 μ = some zm) : av_MV l yX7_lay cX7_lay 3 2 none av_wc g [.ref (g.2.2 q), .int a1, .int a2] μ zm := by
  refine av_ent (own := RX7) (by decide) (Nat.le_of_ble_eq_true rfl) rfl (fun p e s m args below meth c E X hR ls hl => ?_)
  have hl : lv_has ls 3 [(0, .ref (g.2.2 q)), (1, .int a1), (2, .int a2)] := hl
  obtain ⟨hx, hb, hr, hml, hown, hts, hlocks⟩ := id E
  unfold fX7_lay at h
  refine lv_iload_n hx hb dX7_lay_0 rfl (lv_at hl 1 rfl) ?_
  refine lv_iconst (v := 0) hx hb dX7_lay_1 rfl ?_
  refine lv_aload_n hx hb dX7_lay_2 rfl (lv_at hl 0 rfl) ?_
  refine gf_X7_25 E X hR hq dX7_lay_3 rfl ?_
  refine gf_X7_86 E X hR (av_ty_7_0 hq) dX7_lay_6 ?_
  refine lv_iconst (v := 1) hx hb dX7_lay_9 rfl ?_
  refine lv_isub hx hb dX7_lay_10 ?_
  obtain ⟨r11, er11, h⟩ := av_bd h
  refine av_goI hR (av_cSN (As := [.int a1, .int 0, .int ((gF μ (av_rf q 0) 1) - 1)]) (rest := []) E X hR hl.1 (CX11_within l g er11) kk_X7_52 (av_room (by omega) (by decide)) rfl (Nat.le_of_ble_eq_true rfl) ⟨Nat.zero_le _, Nat.zero_le _⟩ dX7_lay_11) (fun H locs hR => ?_)
  refine lv_if_eq (tgt := 27) hx hb dX7_lay_14 (by decide) (fun c14 => ?_) (fun c14 => ?_)
  · have h := av_it c14 h
    exact av_rv E hR (Option.some.inj h) dX7_lay_27
  · have h := av_if c14 h
    refine lv_aload_n hx hb dX7_lay_17 rfl (lv_at hl 0 rfl) ?_
    refine gf_X7_15 E X hR hq dX7_lay_18 rfl ?_
    refine lv_iload_n hx hb dX7_lay_21 rfl (lv_at hl 1 rfl) ?_
    refine lv_dup2_11 hx hb dX7_lay_22 rfl rfl ?_
    obtain ⟨r23, er23, h⟩ := av_bd h
    refine av_il E X hR (av_ty_7_2 hq) er23 dX7_lay_23 ?_
    refine lv_iload_n hx hb dX7_lay_24 rfl (lv_at hl 2 rfl) ?_
    refine lv_iadd hx hb dX7_lay_25 ?_
    obtain ⟨μ26, eμ26, h⟩ := av_bd h
    refine av_is E X hR (av_ty_7_2 hq) eμ26 dX7_lay_26 (fun H locs hR => ?_)
    exact av_rv E hR (Option.some.inj h) dX7_lay_27

set_option maxHeartbeats 4000000 in
set_option maxRecDepth 100000 in
theorem tX7_drop_90 {p : Program} {l : Launch} {e : Env} {s : State} {m : MethodId} {args : Array Value} {below : List Frame} {meth : Method} {c : Code} {g : Gl} {zr : Int32} {zm : Mem} (E : av_E p s m args meth c cX7_drop RX7 3 (some .int)) (X : av_X av_wc g s) :
    ∀ {q : Nat} {x1 : Int32} {x2 : Int32} (hq : av_t av_wc q 7) {μ : Mem} {H : Heap} {locs : List Loc} {ls : Array Slot}, fX7_drop_90 q x1 x2 μ = some (zr, zm) → av_R av_wc g μ s H locs → lv_has ls 3 [(0, .ref (g.2.2 q)), (1, .int x1), (2, .int x2)] → W p l e (rmN 2) s m args below meth c H locs 0 0 (MQ below (va_Qi (fun r1 u => r1 = zr ∧ u = zm) (av_B av_wc g) (av_A av_wc g)) args s 0 0 (av_A av_wc g)) (F0 m 90 ls []) := by
  obtain ⟨hx, hb, hr, hml, hown, hts, hlocks⟩ := id E
  intro q x1 x2 hq μ H locs ls h hR hl
  unfold fX7_drop_90 at h
  refine lv_aload_n hx hb dX7_drop_90 rfl (lv_at hl 0 rfl) ?_
  refine gf_X7_9 E X hR hq dX7_drop_91 rfl ?_
  refine lv_iload_n hx hb dX7_drop_94 rfl (lv_at hl 1 rfl) ?_
  refine lv_iconst (v := 0) hx hb dX7_drop_95 rfl ?_
  obtain ⟨μ96, eμ96, h⟩ := av_bd h
  refine av_is E X hR (av_ty_7_1 hq) eμ96 dX7_drop_96 (fun H locs hR => ?_)
  refine lv_aload_n hx hb dX7_drop_97 rfl (lv_at hl 0 rfl) ?_
  refine gf_X7_15 E X hR hq dX7_drop_98 rfl ?_
  refine lv_iload_n hx hb dX7_drop_101 rfl (lv_at hl 1 rfl) ?_
  refine lv_iconst (v := 0) hx hb dX7_drop_102 rfl ?_
  obtain ⟨μ103, eμ103, h⟩ := av_bd h
  refine av_is E X hR (av_ty_7_2 hq) eμ103 dX7_drop_103 (fun H locs hR => ?_)
  refine lv_iload_n hx hb dX7_drop_104 rfl (lv_at hl 2 rfl) ?_
  exact av_ri E hR (av_r2 h) dX7_drop_105

set_option maxHeartbeats 4000000 in
set_option maxRecDepth 100000 in
theorem tX7_drop_49 {p : Program} {l : Launch} {e : Env} {s : State} {m : MethodId} {args : Array Value} {below : List Frame} {meth : Method} {c : Code} {g : Gl} {zr : Int32} {zm : Mem} (E : av_E p s m args meth c cX7_drop RX7 3 (some .int)) (X : av_X av_wc g s) :
    ∀ {q : Nat} {x1 : Int32} (hq : av_t av_wc q 7) {μ : Mem} {H : Heap} {locs : List Loc} {ls : Array Slot}, fX7_drop_49 q x1 μ = some (zr, zm) → av_R av_wc g μ s H locs → lv_has ls 3 [(0, .ref (g.2.2 q)), (1, .int x1)] → W p l e (rmN 2) s m args below meth c H locs 0 0 (MQ below (va_Qi (fun r1 u => r1 = zr ∧ u = zm) (av_B av_wc g) (av_A av_wc g)) args s 0 0 (av_A av_wc g)) (F0 m 49 ls []) := by
  obtain ⟨hx, hb, hr, hml, hown, hts, hlocks⟩ := id E
  intro q x1 hq μ H locs ls h hR hl
  unfold fX7_drop_49 at h
  refine lv_aload_n hx hb dX7_drop_49 rfl (lv_at hl 0 rfl) ?_
  refine gf_X7_25 E X hR hq dX7_drop_50 rfl ?_
  refine gf_X7_110 E X hR (av_ty_7_0 hq) dX7_drop_53 rfl ?_
  refine lv_iload_n hx hb dX7_drop_56 rfl (lv_at hl 1 rfl) ?_
  obtain ⟨r57, er57, h⟩ := av_bd h
  refine av_il E X hR (av_ty_9_3 (av_ty_7_0 hq)) er57 dX7_drop_57 ?_
  refine lv_istore_n (lv' := [(2, .int r57), (0, .ref (g.2.2 q)), (1, .int x1)]) hx hb dX7_drop_58 rfl hl (by decide) rfl (fun ls hl => ?_)
  refine lv_iload_n hx hb dX7_drop_59 rfl (lv_at hl 0 rfl) ?_
  refine lv_iconst (v := (-1)) hx hb dX7_drop_60 rfl ?_
  refine lv_icmp_eq (tgt := 90) hx hb dX7_drop_61 (by decide) (fun c61 => ?_) (fun c61 => ?_)
  · have h := av_it c61 h
    exact tX7_drop_90 E X hq h hR (lv_sub hl [1, 2, 0] rfl)
  · have h := av_if c61 h
    refine lv_aload_n hx hb dX7_drop_64 rfl (lv_at hl 1 rfl) ?_
    refine gf_X7_9 E X hR hq dX7_drop_65 rfl ?_
    refine lv_iload_n hx hb dX7_drop_68 rfl (lv_at hl 0 rfl) ?_
    refine lv_dup2_11 hx hb dX7_drop_69 rfl rfl ?_
    obtain ⟨r70, er70, h⟩ := av_bd h
    refine av_il E X hR (av_ty_7_1 hq) er70 dX7_drop_70 ?_
    refine lv_aload_n hx hb dX7_drop_71 rfl (lv_at hl 1 rfl) ?_
    refine lv_iload_n hx hb dX7_drop_72 rfl (lv_at hl 2 rfl) ?_
    obtain ⟨r73, er73, h⟩ := av_bd h
    refine av_goI hR (av_cV (As := [.int x1]) (rest := [.int r70, .int r57, .ref (g.2.2 (av_rf q 1))]) E X hR hl.1 (CX7_loadOf l g hq er73) kk_X7_113 (av_room (by omega) (by decide)) hq (by decide) rfl rfl (Nat.le_of_ble_eq_true rfl) ⟨Nat.zero_le _, Nat.zero_le _⟩ dX7_drop_73) (fun H locs hR => ?_)
    refine lv_iadd hx hb dX7_drop_76 ?_
    obtain ⟨μ77, eμ77, h⟩ := av_bd h
    refine av_is E X hR (av_ty_7_1 hq) eμ77 dX7_drop_77 (fun H locs hR => ?_)
    refine lv_aload_n hx hb dX7_drop_78 rfl (lv_at hl 1 rfl) ?_
    refine lv_dup hx hb dX7_drop_79 rfl ?_
    refine gf_X7_92 E X hR hq dX7_drop_80 ?_
    refine lv_iconst (v := 1) hx hb dX7_drop_83 rfl ?_
    refine lv_iload_n hx hb dX7_drop_84 rfl (lv_at hl 0 rfl) ?_
    refine lv_ishl hx hb dX7_drop_85 ?_
    refine lv_ior hx hb dX7_drop_86 ?_
    obtain ⟨μ87, eμ87, h⟩ := av_bd h
    replace eμ87 := Option.some.inj eμ87
    refine pf_X7_92 E X hR hq dX7_drop_87 eμ87 (fun H locs hR => ?_)
    exact tX7_drop_90 E X hq h hR (lv_sub hl [1, 2, 0] rfl)

set_option maxHeartbeats 4000000 in
set_option maxRecDepth 100000 in
theorem tX7_drop_13 {p : Program} {l : Launch} {e : Env} {s : State} {m : MethodId} {args : Array Value} {below : List Frame} {meth : Method} {c : Code} {g : Gl} {zr : Int32} {zm : Mem} (E : av_E p s m args meth c cX7_drop RX7 3 (some .int)) (X : av_X av_wc g s) :
    ∀ {q : Nat} {x1 : Int32} (hq : av_t av_wc q 7) {μ : Mem} {H : Heap} {locs : List Loc} {ls : Array Slot}, fX7_drop_13 q x1 μ = some (zr, zm) → av_R av_wc g μ s H locs → lv_has ls 3 [(0, .ref (g.2.2 q)), (1, .int x1)] → W p l e (rmN 2) s m args below meth c H locs 0 0 (MQ below (va_Qi (fun r1 u => r1 = zr ∧ u = zm) (av_B av_wc g) (av_A av_wc g)) args s 0 0 (av_A av_wc g)) (F0 m 13 ls []) := by
  obtain ⟨hx, hb, hr, hml, hown, hts, hlocks⟩ := id E
  intro q x1 hq μ H locs ls h hR hl
  unfold fX7_drop_13 at h
  refine lv_aload_n hx hb dX7_drop_13 rfl (lv_at hl 0 rfl) ?_
  refine gf_X7_89 E X hR hq dX7_drop_14 ?_
  refine lv_iload_n hx hb dX7_drop_17 rfl (lv_at hl 1 rfl) ?_
  obtain ⟨r18, er18, h⟩ := av_bd h
  refine av_goI hR (av_cSN (As := [.int (gF μ q 6), .int x1]) (rest := []) E X hR hl.1 (CX11_hasBit l g er18) kk_X7_102 (av_room (by omega) (by decide)) rfl (Nat.le_of_ble_eq_true rfl) ⟨Nat.zero_le _, Nat.zero_le _⟩ dX7_drop_18) (fun H locs hR => ?_)
  refine lv_if_ne (tgt := 49) hx hb dX7_drop_21 (by decide) (fun c21 => ?_) (fun c21 => ?_)
  · have h := av_if c21 h
    exact tX7_drop_49 E X hq h hR (lv_sub hl [0, 1] rfl)
  · have h := av_it c21 h
    refine lv_aload_n hx hb dX7_drop_24 rfl (lv_at hl 0 rfl) ?_
    refine gf_X7_22 E X hR hq dX7_drop_25 rfl ?_
    refine lv_iload_n hx hb dX7_drop_28 rfl (lv_at hl 1 rfl) ?_
    refine lv_aload_n hx hb dX7_drop_29 rfl (lv_at hl 0 rfl) ?_
    refine gf_X7_89 E X hR hq dX7_drop_30 ?_
    obtain ⟨r33, er33, h⟩ := av_bd h
    refine av_goI hR (av_cS (As := [.int (gF μ q 6)]) (rest := [.int x1, .ref (g.2.2 (av_rf q 8))]) E X hR hl.1 (CJ6_bitCount_0f7a4 l g er33) kk_X7_105 (av_room (by omega) (by decide)) rfl (Nat.le_of_ble_eq_true rfl) ⟨Nat.zero_le _, Nat.zero_le _⟩ dX7_drop_33) (fun H locs hR => ?_)
    obtain ⟨μ36, eμ36, h⟩ := av_bd h
    refine av_is E X hR (av_ty_7_8 hq) eμ36 dX7_drop_36 (fun H locs hR => ?_)
    refine lv_aload_n hx hb dX7_drop_37 rfl (lv_at hl 0 rfl) ?_
    refine lv_dup hx hb dX7_drop_38 rfl ?_
    refine gf_X7_89 E X hR hq dX7_drop_39 ?_
    refine lv_iconst (v := 1) hx hb dX7_drop_42 rfl ?_
    refine lv_iload_n hx hb dX7_drop_43 rfl (lv_at hl 1 rfl) ?_
    refine lv_ishl hx hb dX7_drop_44 ?_
    refine lv_ior hx hb dX7_drop_45 ?_
    obtain ⟨μ46, eμ46, h⟩ := av_bd h
    replace eμ46 := Option.some.inj eμ46
    refine pf_X7_89 E X hR hq dX7_drop_46 eμ46 (fun H locs hR => ?_)
    exact tX7_drop_49 E X hq h hR (lv_sub hl [0, 1] rfl)

set_option maxHeartbeats 4000000 in
set_option maxRecDepth 100000 in
theorem CX7_drop (l : Launch) (g : Gl) {q : Nat} {a1 : Int32} (hq : av_t av_wc q 7) {μ : Mem} {zr : Int32} {zm : Mem} (h : fX7_drop q a1 μ = some (zr, zm)) : av_MI l yX7_drop cX7_drop 3 2 (some .int) av_wc g [.ref (g.2.2 q), .int a1] μ zr zm := by
  refine av_ent (own := RX7) (by decide) (Nat.le_of_ble_eq_true rfl) rfl (fun p e s m args below meth c E X hR ls hl => ?_)
  have hl : lv_has ls 3 [(0, .ref (g.2.2 q)), (1, .int a1)] := hl
  obtain ⟨hx, hb, hr, hml, hown, hts, hlocks⟩ := id E
  unfold fX7_drop at h
  refine lv_aload_n hx hb dX7_drop_0 rfl (lv_at hl 0 rfl) ?_
  refine gf_X7_18 E X hR hq dX7_drop_1 ?_
  refine lv_iconst (v := (-1)) hx hb dX7_drop_4 rfl ?_
  refine lv_icmp_ne (tgt := 13) hx hb dX7_drop_5 (by decide) (fun c5 => ?_) (fun c5 => ?_)
  · have h := av_if c5 h
    exact tX7_drop_13 E X hq h hR (lv_sub hl [0, 1] rfl)
  · have h := av_it c5 h
    refine lv_aload_n hx hb dX7_drop_8 rfl (lv_at hl 0 rfl) ?_
    refine lv_iload_n hx hb dX7_drop_9 rfl (lv_at hl 1 rfl) ?_
    obtain ⟨μ10, eμ10, h⟩ := av_bd h
    replace eμ10 := Option.some.inj eμ10
    refine pf_X7_18 E X hR hq dX7_drop_10 eμ10 (fun H locs hR => ?_)
    exact tX7_drop_13 E X hq h hR (lv_sub hl [0, 1] rfl)

set_option maxHeartbeats 4000000 in
set_option maxRecDepth 100000 in
theorem tX7_comeDown_70 {p : Program} {l : Launch} {e : Env} {s : State} {m : MethodId} {args : Array Value} {below : List Frame} {meth : Method} {c : Code} {g : Gl} {zm : Mem} (E : av_E p s m args meth c cX7_comeDown RX7 5 none) (X : av_X av_wc g s) {k26 : Nat → Int32 → Int32 → Mem → Option (Mem)} (hk26 : ∀ {q : Nat} {x1 : Int32} {x2 : Int32} (hq : av_t av_wc q 7) {μ : Mem} {H : Heap} {locs : List Loc} {ls : Array Slot}, k26 q x1 x2 μ = some zm → av_R av_wc g μ s H locs → lv_has ls 5 [(0, .ref (g.2.2 q)), (1, .int x1), (2, .int x2)] → W p l e (rmN 3) s m args below meth c H locs 0 0 (MQ below (va_Qv (fun u => u = zm) (av_B av_wc g) (av_A av_wc g)) args s 0 0 (av_A av_wc g)) (F0 m 26 ls [])) :
    ∀ {q : Nat} {x1 : Int32} {x2 : Int32} (hq : av_t av_wc q 7) {μ : Mem} {H : Heap} {locs : List Loc} {ls : Array Slot}, fX7_comeDown_70 k26 q x1 x2 μ = some zm → av_R av_wc g μ s H locs → lv_has ls 5 [(0, .ref (g.2.2 q)), (1, .int x1), (2, .int x2)] → W p l e (rmN 3) s m args below meth c H locs 0 0 (MQ below (va_Qv (fun u => u = zm) (av_B av_wc g) (av_A av_wc g)) args s 0 0 (av_A av_wc g)) (F0 m 70 ls []) := by
  obtain ⟨hx, hb, hr, hml, hown, hts, hlocks⟩ := id E
  intro q x1 x2 hq μ H locs ls h hR hl
  unfold fX7_comeDown_70 at h
  obtain ⟨x2_70, ex2_70, h⟩ := av_bd h
  replace ex2_70 := Option.some.inj ex2_70
  refine lv_iinc (v := x2_70) (lv' := [(2, .int x2_70), (0, .ref (g.2.2 q)), (1, .int x1)]) hx hb dX7_comeDown_70 hl (k := 2) rfl ex2_70 (by decide) rfl (fun ls hl => ?_)
  refine lv_goto (tgt := 26) hx hb dX7_comeDown_73 (by decide) ?_
  exact hk26 hq h hR (lv_sub hl [1, 2, 0] rfl)

set_option maxHeartbeats 4000000 in
set_option maxRecDepth 100000 in
theorem tX7_comeDown_42 {p : Program} {l : Launch} {e : Env} {s : State} {m : MethodId} {args : Array Value} {below : List Frame} {meth : Method} {c : Code} {g : Gl} {zm : Mem} (E : av_E p s m args meth c cX7_comeDown RX7 5 none) (X : av_X av_wc g s) {k26 : Nat → Int32 → Int32 → Mem → Option (Mem)} (hk26 : ∀ {q : Nat} {x1 : Int32} {x2 : Int32} (hq : av_t av_wc q 7) {μ : Mem} {H : Heap} {locs : List Loc} {ls : Array Slot}, k26 q x1 x2 μ = some zm → av_R av_wc g μ s H locs → lv_has ls 5 [(0, .ref (g.2.2 q)), (1, .int x1), (2, .int x2)] → W p l e (rmN 3) s m args below meth c H locs 0 0 (MQ below (va_Qv (fun u => u = zm) (av_B av_wc g) (av_A av_wc g)) args s 0 0 (av_A av_wc g)) (F0 m 26 ls [])) :
    ∀ (n : Nat) {q : Nat} {x1 : Int32} {x2 : Int32} {x3 : Int32} {x4 : Int32} (hq : av_t av_wc q 7) {μ : Mem} {H : Heap} {locs : List Loc} {ls : Array Slot}, fX7_comeDown_42 k26 n q x1 x2 x3 x4 μ = some zm → av_R av_wc g μ s H locs → lv_has ls 5 [(0, .ref (g.2.2 q)), (1, .int x1), (2, .int x2), (3, .int x3), (4, .int x4)] → W p l e (rmN 3) s m args below meth c H locs 0 0 (MQ below (va_Qv (fun u => u = zm) (av_B av_wc g) (av_A av_wc g)) args s 0 0 (av_A av_wc g)) (F0 m 42 ls []) := by
  obtain ⟨hx, hb, hr, hml, hown, hts, hlocks⟩ := id E
  intro n
  induction n with
  | zero =>
    intro q x1 x2 x3 x4 hq μ H locs ls h hR hl
    cases h
  | succ n ih =>
    intro q x1 x2 x3 x4 hq μ H locs ls h hR hl
    unfold fX7_comeDown_42 at h
    refine lv_iload hx hb dX7_comeDown_42 (lv_at hl 4 rfl) ?_
    refine lv_bipush (v := 8) hx hb dX7_comeDown_44 rfl ?_
    refine lv_icmp_ge (tgt := 70) hx hb dX7_comeDown_46 (by decide) (fun c46 => ?_) (fun c46 => ?_)
    · have h := av_it c46 h
      exact tX7_comeDown_70 E X hk26 hq h hR (lv_sub hl [0, 1, 2] rfl)
    · have h := av_if c46 h
      refine lv_aload_n hx hb dX7_comeDown_49 rfl (lv_at hl 0 rfl) ?_
      refine lv_iload_n hx hb dX7_comeDown_50 rfl (lv_at hl 3 rfl) ?_
      refine lv_iconst (v := 0) hx hb dX7_comeDown_51 rfl ?_
      obtain ⟨r52, er52, h⟩ := av_bd h
      refine av_goI hR (av_cV (As := [.int x3, .int 0]) (rest := []) E X hR hl.1 (CX7_bears l g hq er52) kk_X7_95 (av_room (by omega) (by decide)) hq (by decide) rfl rfl (Nat.le_of_ble_eq_true rfl) ⟨Nat.zero_le _, Nat.zero_le _⟩ dX7_comeDown_52) (fun H locs hR => ?_)
      refine lv_if_ne (tgt := 70) hx hb dX7_comeDown_55 (by decide) (fun c55 => ?_) (fun c55 => ?_)
      · have h := av_if c55 h
        exact tX7_comeDown_70 E X hk26 hq h hR (lv_sub hl [0, 1, 2] rfl)
      · have h := av_it c55 h
        refine lv_aload_n hx hb dX7_comeDown_58 rfl (lv_at hl 0 rfl) ?_
        refine lv_iload_n hx hb dX7_comeDown_59 rfl (lv_at hl 3 rfl) ?_
        obtain ⟨r60, μ60, er60, h⟩ := av_bd2 h
        refine av_goI hR (av_cV (As := [.int x3]) (rest := []) E X hR hl.1 (CX7_drop l g hq er60) kk_X7_99 (av_room (by omega) (by decide)) hq (by decide) rfl rfl (Nat.le_of_ble_eq_true rfl) ⟨Nat.zero_le _, Nat.zero_le _⟩ dX7_comeDown_60) (fun H locs hR => ?_)
        refine lv_istore_n (lv' := [(3, .int r60), (0, .ref (g.2.2 q)), (1, .int x1), (2, .int x2), (4, .int x4)]) hx hb dX7_comeDown_63 rfl hl (by decide) rfl (fun ls hl => ?_)
        obtain ⟨x4_64, ex4_64, h⟩ := av_bd h
        replace ex4_64 := Option.some.inj ex4_64
        refine lv_iinc (v := x4_64) (lv' := [(4, .int x4_64), (3, .int r60), (0, .ref (g.2.2 q)), (1, .int x1), (2, .int x2)]) hx hb dX7_comeDown_64 hl (k := 4) rfl ex4_64 (by decide) rfl (fun ls hl => ?_)
        refine lv_goto (tgt := 42) hx hb dX7_comeDown_67 (by decide) ?_
        exact ih hq h hR (lv_sub hl [2, 3, 4, 1, 0] rfl)

set_option maxHeartbeats 4000000 in
set_option maxRecDepth 100000 in
theorem tX7_comeDown_26 {p : Program} {l : Launch} {e : Env} {s : State} {m : MethodId} {args : Array Value} {below : List Frame} {meth : Method} {c : Code} {g : Gl} {zm : Mem} (E : av_E p s m args meth c cX7_comeDown RX7 5 none) (X : av_X av_wc g s) :
    ∀ (n : Nat) {q : Nat} {x1 : Int32} {x2 : Int32} (hq : av_t av_wc q 7) {μ : Mem} {H : Heap} {locs : List Loc} {ls : Array Slot}, fX7_comeDown_26 n q x1 x2 μ = some zm → av_R av_wc g μ s H locs → lv_has ls 5 [(0, .ref (g.2.2 q)), (1, .int x1), (2, .int x2)] → W p l e (rmN 3) s m args below meth c H locs 0 0 (MQ below (va_Qv (fun u => u = zm) (av_B av_wc g) (av_A av_wc g)) args s 0 0 (av_A av_wc g)) (F0 m 26 ls []) := by
  obtain ⟨hx, hb, hr, hml, hown, hts, hlocks⟩ := id E
  intro n
  induction n with
  | zero =>
    intro q x1 x2 hq μ H locs ls h hR hl
    cases h
  | succ n ih =>
    intro q x1 x2 hq μ H locs ls h hR hl
    unfold fX7_comeDown_26 at h
    refine lv_iload_n hx hb dX7_comeDown_26 rfl (lv_at hl 2 rfl) ?_
    refine lv_aload_n hx hb dX7_comeDown_27 rfl (lv_at hl 0 rfl) ?_
    refine gf_X7_25 E X hR hq dX7_comeDown_28 rfl ?_
    refine gf_X7_86 E X hR (av_ty_7_0 hq) dX7_comeDown_31 ?_
    refine lv_icmp_ge (tgt := 76) hx hb dX7_comeDown_34 (by decide) (fun c34 => ?_) (fun c34 => ?_)
    · have h := av_it c34 h
      refine lv_iload_n hx hb dX7_comeDown_76 rfl (lv_at hl 1 rfl) ?_
      refine lv_if_eq (tgt := 88) hx hb dX7_comeDown_77 (by decide) (fun c77 => ?_) (fun c77 => ?_)
      · have h := av_it c77 h
        exact av_rv E hR (Option.some.inj h) dX7_comeDown_88
      · have h := av_if c77 h
        refine lv_aload_n hx hb dX7_comeDown_80 rfl (lv_at hl 0 rfl) ?_
        refine lv_aload_n hx hb dX7_comeDown_81 rfl (lv_at hl 0 rfl) ?_
        refine gf_X7_89 E X hR hq dX7_comeDown_82 ?_
        obtain ⟨μ85, eμ85, h⟩ := av_bd h
        replace eμ85 := Option.some.inj eμ85
        refine pf_X7_38 E X hR hq dX7_comeDown_85 eμ85 (fun H locs hR => ?_)
        exact av_rv E hR (Option.some.inj h) dX7_comeDown_88
    · have h := av_if c34 h
      refine lv_iload_n hx hb dX7_comeDown_37 rfl (lv_at hl 2 rfl) ?_
      refine lv_istore_n (lv' := [(3, .int x2), (0, .ref (g.2.2 q)), (1, .int x1), (2, .int x2)]) hx hb dX7_comeDown_38 rfl hl (by decide) rfl (fun ls hl => ?_)
      refine lv_iconst (v := 0) hx hb dX7_comeDown_39 rfl ?_
      refine lv_istore (lv' := [(4, .int 0), (3, .int x2), (0, .ref (g.2.2 q)), (1, .int x1), (2, .int x2)]) hx hb dX7_comeDown_40 hl (by decide) rfl (fun ls hl => ?_)
      exact tX7_comeDown_42 E X ih _ hq h hR (lv_sub hl [2, 3, 4, 1, 0] rfl)

set_option maxHeartbeats 4000000 in
set_option maxRecDepth 100000 in
theorem tX7_comeDown_13 {p : Program} {l : Launch} {e : Env} {s : State} {m : MethodId} {args : Array Value} {below : List Frame} {meth : Method} {c : Code} {g : Gl} {zm : Mem} (E : av_E p s m args meth c cX7_comeDown RX7 5 none) (X : av_X av_wc g s) :
    ∀ {q : Nat} {y0 : Int32} (hq : av_t av_wc q 7) {μ : Mem} {H : Heap} {locs : List Loc} {ls : Array Slot}, fX7_comeDown_13 q y0 μ = some zm → av_R av_wc g μ s H locs → lv_has ls 5 [(0, .ref (g.2.2 q))] → W p l e (rmN 3) s m args below meth c H locs 0 0 (MQ below (va_Qv (fun u => u = zm) (av_B av_wc g) (av_A av_wc g)) args s 0 0 (av_A av_wc g)) (F0 m 13 ls [.int y0]) := by
  obtain ⟨hx, hb, hr, hml, hown, hts, hlocks⟩ := id E
  intro q y0 hq μ H locs ls h hR hl
  unfold fX7_comeDown_13 at h
  refine lv_istore_n (lv' := [(1, .int y0), (0, .ref (g.2.2 q))]) hx hb dX7_comeDown_13 rfl hl (by decide) rfl (fun ls hl => ?_)
  refine lv_aload_n hx hb dX7_comeDown_14 rfl (lv_at hl 1 rfl) ?_
  refine lv_iconst (v := 0) hx hb dX7_comeDown_15 rfl ?_
  obtain ⟨μ16, eμ16, h⟩ := av_bd h
  replace eμ16 := Option.some.inj eμ16
  refine pf_X7_89 E X hR hq dX7_comeDown_16 eμ16 (fun H locs hR => ?_)
  refine lv_aload_n hx hb dX7_comeDown_19 rfl (lv_at hl 1 rfl) ?_
  refine lv_iconst (v := 0) hx hb dX7_comeDown_20 rfl ?_
  obtain ⟨μ21, eμ21, h⟩ := av_bd h
  replace eμ21 := Option.some.inj eμ21
  refine pf_X7_92 E X hR hq dX7_comeDown_21 eμ21 (fun H locs hR => ?_)
  refine lv_iconst (v := 0) hx hb dX7_comeDown_24 rfl ?_
  refine lv_istore_n (lv' := [(2, .int 0), (1, .int y0), (0, .ref (g.2.2 q))]) hx hb dX7_comeDown_25 rfl hl (by decide) rfl (fun ls hl => ?_)
  exact tX7_comeDown_26 E X _ hq h hR (lv_sub hl [2, 1, 0] rfl)

set_option maxHeartbeats 4000000 in
set_option maxRecDepth 100000 in
theorem CX7_comeDown (l : Launch) (g : Gl) {q : Nat} (hq : av_t av_wc q 7) {μ : Mem} {zm : Mem} (h : fX7_comeDown q μ = some zm) : av_MV l yX7_comeDown cX7_comeDown 5 3 none av_wc g [.ref (g.2.2 q)] μ zm := by
  refine av_ent (own := RX7) (by decide) (Nat.le_of_ble_eq_true rfl) rfl (fun p e s m args below meth c E X hR ls hl => ?_)
  have hl : lv_has ls 5 [(0, .ref (g.2.2 q))] := hl
  obtain ⟨hx, hb, hr, hml, hown, hts, hlocks⟩ := id E
  unfold fX7_comeDown at h
  refine lv_aload_n hx hb dX7_comeDown_0 rfl (lv_at hl 0 rfl) ?_
  refine gf_X7_18 E X hR hq dX7_comeDown_1 ?_
  refine lv_iconst (v := (-1)) hx hb dX7_comeDown_4 rfl ?_
  refine lv_icmp_ne (tgt := 12) hx hb dX7_comeDown_5 (by decide) (fun c5 => ?_) (fun c5 => ?_)
  · have h := av_if c5 h
    refine lv_iconst (v := 0) hx hb dX7_comeDown_12 rfl ?_
    exact tX7_comeDown_13 E X hq h hR (lv_sub hl [0] rfl)
  · have h := av_it c5 h
    refine lv_iconst (v := 1) hx hb dX7_comeDown_8 rfl ?_
    refine lv_goto (tgt := 13) hx hb dX7_comeDown_9 (by decide) ?_
    exact tX7_comeDown_13 E X hq h hR (lv_sub hl [0] rfl)

theorem dr_X7_69 {p : Program} {l : Launch} {e : Env} {s : State} {m : MethodId} {args : Array Value} {below : List Frame} {meth : Method} {c : Code} {H : Heap} {locs : List Loc} {Q : State → Prop} {cc : ByteArray} {pc M : Nat} {ls : Array Slot} {rest : List Value} {g : Gl} {μ : Mem} {nL : Nat} {ret : Option FieldType} (E : av_E p s m args meth c cc RX7 nL ret) (X : av_X av_wc g s) (hR : av_R av_wc g μ s H locs) (hls : ls.size = nL) {q : Nat} {a1 : Nat} {a2 : Int32} {a3 : Int32} {r : Int32} (hq : av_pl q) (ha1 : av_t av_wc a1 7) (h : dv_X7_69 q a1 a2 a3 μ = some r) (hM : 4 ≤ M) (hrm : (rest.map fun v => v.category).sum ≤ 8) (hdg : decode cc pc = .ok (.invokevirtual 69, 3)) (kk : ∀ (H : Heap) (locs : List Loc), av_R av_wc g μ s H locs → W p l e (rmN M) s m args below meth c H locs 0 0 Q (F0 m (pc + 3) ls (.int r :: rest))) : W p l e (rmN M) s m args below meth c H locs 0 0 Q (F0 m pc ls (.int a3 :: .int a2 :: .ref (g.2.2 a1) :: .ref (g.2.2 q) :: rest)) := by
  unfold dv_X7_69 at h
  by_cases c4 : av_cls q = 4
  · exact av_goI hR (av_cU (As := [.ref (g.2.2 a1), .int a2, .int a3]) (rest := rest) E X hR hls (CX4_place l g hq ha1 (av_it c4 h)) kd_X7_69_4 (av_room (by omega) (by decide)) ⟨c4, av_pl_in hq⟩ (by decide) rfl rfl hrm ⟨Nat.zero_le _, Nat.zero_le _⟩ hdg) kk
  replace h := av_if c4 h
  by_cases c0 : av_cls q = 0
  · exact av_goI hR (av_cU (As := [.ref (g.2.2 a1), .int a2, .int a3]) (rest := rest) E X hR hls (CX0_place l g hq ha1 (av_it c0 h)) kd_X7_69_0 (av_room (by omega) (by decide)) ⟨c0, av_pl_in hq⟩ (by decide) rfl rfl hrm ⟨Nat.zero_le _, Nat.zero_le _⟩ hdg) kk
  replace h := av_if c0 h
  by_cases c3 : av_cls q = 3
  · exact av_goI hR (av_cU (As := [.ref (g.2.2 a1), .int a2, .int a3]) (rest := rest) E X hR hls (CX4_place l g hq ha1 (av_it c3 h)) kd_X7_69_3 (av_room (by omega) (by decide)) ⟨c3, av_pl_in hq⟩ (by decide) rfl rfl hrm ⟨Nat.zero_le _, Nat.zero_le _⟩ hdg) kk
  replace h := av_if c3 h
  by_cases c6 : av_cls q = 6
  · exact av_goI hR (av_cU (As := [.ref (g.2.2 a1), .int a2, .int a3]) (rest := rest) E X hR hls (CX0_place l g hq ha1 (av_it c6 h)) kd_X7_69_6 (av_room (by omega) (by decide)) ⟨c6, av_pl_in hq⟩ (by decide) rfl rfl hrm ⟨Nat.zero_le _, Nat.zero_le _⟩ hdg) kk
  replace h := av_if c6 h
  by_cases c2 : av_cls q = 2
  · exact av_goI hR (av_cU (As := [.ref (g.2.2 a1), .int a2, .int a3]) (rest := rest) E X hR hls (CX2_place l g hq ha1 (av_it c2 h)) kd_X7_69_2 (av_room (by omega) (by decide)) ⟨c2, av_pl_in hq⟩ (by decide) rfl rfl hrm ⟨Nat.zero_le _, Nat.zero_le _⟩ hdg) kk
  replace h := av_if c2 h
  by_cases c10 : av_cls q = 10
  · exact av_goI hR (av_cU (As := [.ref (g.2.2 a1), .int a2, .int a3]) (rest := rest) E X hR hls (CX10_place l g hq ha1 (av_it c10 h)) kd_X7_69_10 (av_room (by omega) (by decide)) ⟨c10, av_pl_in hq⟩ (by decide) rfl rfl hrm ⟨Nat.zero_le _, Nat.zero_le _⟩ hdg) kk
  replace h := av_if c10 h
  cases h

theorem dr_X7_75 {p : Program} {l : Launch} {e : Env} {s : State} {m : MethodId} {args : Array Value} {below : List Frame} {meth : Method} {c : Code} {H : Heap} {locs : List Loc} {Q : State → Prop} {cc : ByteArray} {pc M : Nat} {ls : Array Slot} {rest : List Value} {g : Gl} {μ : Mem} {nL : Nat} {ret : Option FieldType} (E : av_E p s m args meth c cc RX7 nL ret) (X : av_X av_wc g s) (hR : av_R av_wc g μ s H locs) (hls : ls.size = nL) {q : Nat} {a1 : Int32} {r : Int32} (hq : av_pl q) (h : dv_X7_75 q a1 μ = some r) (hM : 2 ≤ M) (hrm : (rest.map fun v => v.category).sum ≤ 8) (hdg : decode cc pc = .ok (.invokevirtual 75, 3)) (kk : ∀ (H : Heap) (locs : List Loc), av_R av_wc g μ s H locs → W p l e (rmN M) s m args below meth c H locs 0 0 Q (F0 m (pc + 3) ls (.int r :: rest))) : W p l e (rmN M) s m args below meth c H locs 0 0 Q (F0 m pc ls (.int a1 :: .ref (g.2.2 q) :: rest)) := by
  unfold dv_X7_75 at h
  by_cases c4 : av_cls q = 4
  · exact av_goI hR (av_cU (As := [.int a1]) (rest := rest) E X hR hls (CX4_heft l g hq (av_it c4 h)) kd_X7_75_4 (av_room (by omega) (by decide)) ⟨c4, av_pl_in hq⟩ (by decide) rfl rfl hrm ⟨Nat.zero_le _, Nat.zero_le _⟩ hdg) kk
  replace h := av_if c4 h
  by_cases c0 : av_cls q = 0
  · exact av_goI hR (av_cU (As := [.int a1]) (rest := rest) E X hR hls (CX4_heft l g hq (av_it c0 h)) kd_X7_75_0 (av_room (by omega) (by decide)) ⟨c0, av_pl_in hq⟩ (by decide) rfl rfl hrm ⟨Nat.zero_le _, Nat.zero_le _⟩ hdg) kk
  replace h := av_if c0 h
  by_cases c3 : av_cls q = 3
  · exact av_goI hR (av_cU (As := [.int a1]) (rest := rest) E X hR hls (CX3_heft l g hq (av_it c3 h)) kd_X7_75_3 (av_room (by omega) (by decide)) ⟨c3, av_pl_in hq⟩ (by decide) rfl rfl hrm ⟨Nat.zero_le _, Nat.zero_le _⟩ hdg) kk
  replace h := av_if c3 h
  by_cases c6 : av_cls q = 6
  · exact av_goI hR (av_cU (As := [.int a1]) (rest := rest) E X hR hls (CX6_heft l g hq (av_it c6 h)) kd_X7_75_6 (av_room (by omega) (by decide)) ⟨c6, av_pl_in hq⟩ (by decide) rfl rfl hrm ⟨Nat.zero_le _, Nat.zero_le _⟩ hdg) kk
  replace h := av_if c6 h
  by_cases c2 : av_cls q = 2
  · exact av_goI hR (av_cU (As := [.int a1]) (rest := rest) E X hR hls (CX4_heft l g hq (av_it c2 h)) kd_X7_75_2 (av_room (by omega) (by decide)) ⟨c2, av_pl_in hq⟩ (by decide) rfl rfl hrm ⟨Nat.zero_le _, Nat.zero_le _⟩ hdg) kk
  replace h := av_if c2 h
  by_cases c10 : av_cls q = 10
  · exact av_goI hR (av_cU (As := [.int a1]) (rest := rest) E X hR hls (CX3_heft l g hq (av_it c10 h)) kd_X7_75_10 (av_room (by omega) (by decide)) ⟨c10, av_pl_in hq⟩ (by decide) rfl rfl hrm ⟨Nat.zero_le _, Nat.zero_le _⟩ hdg) kk
  replace h := av_if c10 h
  cases h

set_option maxHeartbeats 4000000 in
set_option maxRecDepth 100000 in
theorem CX7_cast (l : Launch) (g : Gl) {q : Nat} {a1 : Int32} (hq : av_t av_wc q 7) {μ : Mem} {zm : Mem} (h : fX7_cast q a1 μ = some zm) : av_MV l yX7_cast cX7_cast 4 4 none av_wc g [.ref (g.2.2 q), .int a1] μ zm := by
  refine av_ent (own := RX7) (by decide) (Nat.le_of_ble_eq_true rfl) rfl (fun p e s m args below meth c E X hR ls hl => ?_)
  have hl : lv_has ls 4 [(0, .ref (g.2.2 q)), (1, .int a1)] := hl
  obtain ⟨hx, hb, hr, hml, hown, hts, hlocks⟩ := id E
  unfold fX7_cast at h
  refine lv_iload_n hx hb dX7_cast_0 rfl (lv_at hl 1 rfl) ?_
  refine lv_iconst (v := 0) hx hb dX7_cast_1 rfl ?_
  refine lv_aload_n hx hb dX7_cast_2 rfl (lv_at hl 0 rfl) ?_
  refine gf_X7_25 E X hR hq dX7_cast_3 rfl ?_
  refine gf_X7_47 E X hR (av_ty_7_0 hq) dX7_cast_6 ?_
  refine lv_iconst (v := 1) hx hb dX7_cast_9 rfl ?_
  refine lv_isub hx hb dX7_cast_10 ?_
  obtain ⟨r11, er11, h⟩ := av_bd h
  refine av_goI hR (av_cSN (As := [.int a1, .int 0, .int ((gF μ (av_rf q 0) 4) - 1)]) (rest := []) E X hR hl.1 (CX11_within l g er11) kk_X7_52 (av_room (by omega) (by decide)) rfl (Nat.le_of_ble_eq_true rfl) ⟨Nat.zero_le _, Nat.zero_le _⟩ dX7_cast_11) (fun H locs hR => ?_)
  refine lv_if_ne (tgt := 18) hx hb dX7_cast_14 (by decide) (fun c14 => ?_) (fun c14 => ?_)
  · have h := av_if c14 h
    refine lv_aload_n hx hb dX7_cast_18 rfl (lv_at hl 0 rfl) ?_
    refine gf_X7_25 E X hR hq dX7_cast_19 rfl ?_
    refine lv_aload_n hx hb dX7_cast_22 rfl (lv_at hl 0 rfl) ?_
    refine gf_X7_25 E X hR hq dX7_cast_23 rfl ?_
    refine gf_X7_56 E X hR (av_ty_7_0 hq) dX7_cast_26 rfl ?_
    refine lv_iload_n hx hb dX7_cast_29 rfl (lv_at hl 1 rfl) ?_
    obtain ⟨r30, er30, h⟩ := av_bd h
    refine av_il E X hR (av_ty_9_5 (av_ty_7_0 hq)) er30 dX7_cast_30 ?_
    obtain ⟨r31, er31, h⟩ := av_bd h
    refine av_goR hR (av_cV (As := [.int r30]) (rest := []) E X hR hl.1 (CX9_kindOf l g (av_ty_7_0 hq) er31) kk_X7_59 (av_room (by omega) (by decide)) (av_ty_7_0 hq) (by decide) rfl rfl (Nat.le_of_ble_eq_true rfl) ⟨Nat.zero_le _, Nat.zero_le _⟩ dX7_cast_31) (fun H locs hR => ?_)
    refine lv_astore_n (lv' := [(2, .ref (g.2.2 r31)), (0, .ref (g.2.2 q)), (1, .int a1)]) hx hb dX7_cast_34 rfl hl (by decide) rfl (fun ls hl => ?_)
    refine lv_aload_n hx hb dX7_cast_35 rfl (lv_at hl 1 rfl) ?_
    refine gf_X7_25 E X hR hq dX7_cast_36 rfl ?_
    refine gf_X7_63 E X hR (av_ty_7_0 hq) dX7_cast_39 rfl ?_
    refine lv_iload_n hx hb dX7_cast_42 rfl (lv_at hl 2 rfl) ?_
    obtain ⟨r43, er43, h⟩ := av_bd h
    refine av_il E X hR (av_ty_9_7 (av_ty_7_0 hq)) er43 dX7_cast_43 ?_
    refine lv_istore_n (lv' := [(3, .int r43), (2, .ref (g.2.2 r31)), (0, .ref (g.2.2 q)), (1, .int a1)]) hx hb dX7_cast_44 rfl hl (by decide) rfl (fun ls hl => ?_)
    refine lv_aload_n hx hb dX7_cast_45 rfl (lv_at hl 2 rfl) ?_
    refine lv_aload_n hx hb dX7_cast_46 rfl (lv_at hl 1 rfl) ?_
    refine lv_aload_n hx hb dX7_cast_47 rfl (lv_at hl 2 rfl) ?_
    refine lv_aload_n hx hb dX7_cast_48 rfl (lv_at hl 2 rfl) ?_
    refine gf_X7_25 E X hR hq dX7_cast_49 rfl ?_
    refine gf_X7_66 E X hR (av_ty_7_0 hq) dX7_cast_52 rfl ?_
    refine lv_iload_n hx hb dX7_cast_55 rfl (lv_at hl 3 rfl) ?_
    obtain ⟨r56, er56, h⟩ := av_bd h
    refine av_il E X hR (av_ty_9_6 (av_ty_7_0 hq)) er56 dX7_cast_56 ?_
    refine lv_iload_n hx hb dX7_cast_57 rfl (lv_at hl 0 rfl) ?_
    obtain ⟨r58, er58, h⟩ := av_bd h
    refine dr_X7_69 (rest := [.ref (g.2.2 q)]) E X hR hl.1 (tyX9_kindOf (av_ty_7_0 hq) er31) hq er58 (by omega) (Nat.le_of_ble_eq_true rfl) dX7_cast_58 (fun H locs hR => ?_)
    refine lv_aload_n hx hb dX7_cast_61 rfl (lv_at hl 1 rfl) ?_
    refine lv_iload_n hx hb dX7_cast_62 rfl (lv_at hl 0 rfl) ?_
    obtain ⟨r63, er63, h⟩ := av_bd h
    refine dr_X7_75 (rest := [.int r58, .ref (g.2.2 q)]) E X hR hl.1 (tyX9_kindOf (av_ty_7_0 hq) er31) er63 (by omega) (Nat.le_of_ble_eq_true rfl) dX7_cast_63 (fun H locs hR => ?_)
    obtain ⟨μ66, eμ66, h⟩ := av_bd h
    refine av_goV hR (av_cV (As := [.int r58, .int r63]) (rest := []) E X hR hl.1 (CX7_lay l g hq eμ66) kk_X7_79 (av_room (by omega) (by decide)) hq (by decide) rfl rfl (Nat.le_of_ble_eq_true rfl) ⟨Nat.zero_le _, Nat.zero_le _⟩ dX7_cast_66) (fun H locs hR => ?_)
    refine lv_aload_n hx hb dX7_cast_69 rfl (lv_at hl 2 rfl) ?_
    obtain ⟨μ70, eμ70, h⟩ := av_bd h
    refine av_goV hR (av_cV (As := []) (rest := []) E X hR hl.1 (CX7_comeDown l g hq eμ70) kk_X7_83 (av_room (by omega) (by decide)) hq (by decide) rfl rfl (Nat.le_of_ble_eq_true rfl) ⟨Nat.zero_le _, Nat.zero_le _⟩ dX7_cast_70) (fun H locs hR => ?_)
    refine lv_aload_n hx hb dX7_cast_73 rfl (lv_at hl 2 rfl) ?_
    refine lv_dup hx hb dX7_cast_74 rfl ?_
    refine gf_X7_35 E X hR hq dX7_cast_75 ?_
    refine lv_iconst (v := 1) hx hb dX7_cast_78 rfl ?_
    refine lv_iadd hx hb dX7_cast_79 ?_
    obtain ⟨μ80, eμ80, h⟩ := av_bd h
    replace eμ80 := Option.some.inj eμ80
    refine pf_X7_35 E X hR hq dX7_cast_80 eμ80 (fun H locs hR => ?_)
    exact av_rv E hR (Option.some.inj h) dX7_cast_83
  · have h := av_it c14 h
    exact av_rv E hR (Option.some.inj h) dX7_cast_17

set_option maxHeartbeats 4000000 in
set_option maxRecDepth 100000 in
theorem tX9_bitsAbove_45 {p : Program} {l : Launch} {e : Env} {s : State} {m : MethodId} {args : Array Value} {below : List Frame} {meth : Method} {c : Code} {g : Gl} {zr : Int32} {μ0 : Mem} (E : av_E p s m args meth c cX9_bitsAbove RX9 4 (some .int)) (X : av_X av_wc g s) {k8 : Nat → Int32 → Int32 → Mem → Option (Int32)} (hk8 : ∀ {q : Nat} {x2 : Int32} {x3 : Int32} (hq : av_t av_wc q 9) {μ : Mem} {H : Heap} {locs : List Loc} {ls : Array Slot} (hμ : μ0 = μ), k8 q x2 x3 μ = some zr → av_R av_wc g μ s H locs → lv_has ls 4 [(0, .ref (g.2.2 q)), (2, .int x2), (3, .int x3)] → W p l e (rmN 2) s m args below meth c H locs 0 0 (MQ below (va_Qi (fun r1 u => r1 = zr ∧ u = μ0) (av_B av_wc g) (av_A av_wc g)) args s 0 0 (av_A av_wc g)) (F0 m 8 ls [])) :
    ∀ {q : Nat} {x2 : Int32} {x3 : Int32} (hq : av_t av_wc q 9) {μ : Mem} {H : Heap} {locs : List Loc} {ls : Array Slot} (hμ : μ0 = μ), fX9_bitsAbove_45 k8 q x2 x3 μ = some zr → av_R av_wc g μ s H locs → lv_has ls 4 [(0, .ref (g.2.2 q)), (2, .int x2), (3, .int x3)] → W p l e (rmN 2) s m args below meth c H locs 0 0 (MQ below (va_Qi (fun r1 u => r1 = zr ∧ u = μ0) (av_B av_wc g) (av_A av_wc g)) args s 0 0 (av_A av_wc g)) (F0 m 45 ls []) := by
  obtain ⟨hx, hb, hr, hml, hown, hts, hlocks⟩ := id E
  intro q x2 x3 hq μ H locs ls hμ h hR hl
  unfold fX9_bitsAbove_45 at h
  obtain ⟨x3_45, ex3_45, h⟩ := av_bd h
  replace ex3_45 := Option.some.inj ex3_45
  refine lv_iinc (v := x3_45) (lv' := [(3, .int x3_45), (0, .ref (g.2.2 q)), (2, .int x2)]) hx hb dX9_bitsAbove_45 hl (k := 2) rfl ex3_45 (by decide) rfl (fun ls hl => ?_)
  refine lv_goto (tgt := 8) hx hb dX9_bitsAbove_48 (by decide) ?_
  exact hk8 hq hμ h hR (lv_sub hl [1, 2, 0] rfl)

set_option maxHeartbeats 4000000 in
set_option maxRecDepth 100000 in
theorem tX9_bitsAbove_8 {p : Program} {l : Launch} {e : Env} {s : State} {m : MethodId} {args : Array Value} {below : List Frame} {meth : Method} {c : Code} {g : Gl} {zr : Int32} {μ0 : Mem} (E : av_E p s m args meth c cX9_bitsAbove RX9 4 (some .int)) (X : av_X av_wc g s) :
    ∀ (n : Nat) {q : Nat} {x2 : Int32} {x3 : Int32} (hq : av_t av_wc q 9) {μ : Mem} {H : Heap} {locs : List Loc} {ls : Array Slot} (hμ : μ0 = μ), fX9_bitsAbove_8 n q x2 x3 μ = some zr → av_R av_wc g μ s H locs → lv_has ls 4 [(0, .ref (g.2.2 q)), (2, .int x2), (3, .int x3)] → W p l e (rmN 2) s m args below meth c H locs 0 0 (MQ below (va_Qi (fun r1 u => r1 = zr ∧ u = μ0) (av_B av_wc g) (av_A av_wc g)) args s 0 0 (av_A av_wc g)) (F0 m 8 ls []) := by
  obtain ⟨hx, hb, hr, hml, hown, hts, hlocks⟩ := id E
  intro n
  induction n with
  | zero =>
    intro q x2 x3 hq μ H locs ls hμ h hR hl
    cases h
  | succ n ih =>
    intro q x2 x3 hq μ H locs ls hμ h hR hl
    unfold fX9_bitsAbove_8 at h
    refine lv_iload_n hx hb dX9_bitsAbove_8 rfl (lv_at hl 2 rfl) ?_
    refine lv_aload_n hx hb dX9_bitsAbove_9 rfl (lv_at hl 0 rfl) ?_
    refine gf_X9_31 E X hR hq dX9_bitsAbove_10 ?_
    refine lv_icmp_ge (tgt := 51) hx hb dX9_bitsAbove_13 (by decide) (fun c13 => ?_) (fun c13 => ?_)
    · have h := av_it c13 h
      refine lv_iload_n hx hb dX9_bitsAbove_51 rfl (lv_at hl 1 rfl) ?_
      exact av_ri E hR ⟨Option.some.inj h, hμ.symm⟩ dX9_bitsAbove_52
    · have h := av_if c13 h
      refine lv_aload_n hx hb dX9_bitsAbove_16 rfl (lv_at hl 0 rfl) ?_
      refine gf_X9_15 E X hR hq dX9_bitsAbove_17 rfl ?_
      refine lv_iload_n hx hb dX9_bitsAbove_20 rfl (lv_at hl 2 rfl) ?_
      obtain ⟨r21, er21, h⟩ := av_bd h
      refine av_il E X hR (av_ty_9_3 hq) er21 dX9_bitsAbove_21 ?_
      refine lv_iconst (v := (-1)) hx hb dX9_bitsAbove_22 rfl ?_
      refine lv_icmp_eq (tgt := 45) hx hb dX9_bitsAbove_23 (by decide) (fun c23 => ?_) (fun c23 => ?_)
      · have h := av_it c23 h
        exact tX9_bitsAbove_45 E X ih hq hμ h hR (lv_sub hl [0, 1, 2] rfl)
      · have h := av_if c23 h
        refine lv_iload_n hx hb dX9_bitsAbove_26 rfl (lv_at hl 1 rfl) ?_
        refine lv_aload_n hx hb dX9_bitsAbove_27 rfl (lv_at hl 0 rfl) ?_
        refine gf_X9_15 E X hR hq dX9_bitsAbove_28 rfl ?_
        refine lv_iload_n hx hb dX9_bitsAbove_31 rfl (lv_at hl 2 rfl) ?_
        obtain ⟨r32, er32, h⟩ := av_bd h
        refine av_il E X hR (av_ty_9_3 hq) er32 dX9_bitsAbove_32 ?_
        obtain ⟨r33, er33, h⟩ := av_bd h
        refine av_goI hR (av_cSN (As := [.int x2, .int r32]) (rest := []) E X hR hl.1 (CX11_hasBit l g er33) kk_X9_48 (av_room (by omega) (by decide)) rfl (Nat.le_of_ble_eq_true rfl) ⟨Nat.zero_le _, Nat.zero_le _⟩ dX9_bitsAbove_33) (fun H locs hR => ?_)
        refine lv_if_eq (tgt := 45) hx hb dX9_bitsAbove_36 (by decide) (fun c36 => ?_) (fun c36 => ?_)
        · have h := av_it c36 h
          exact tX9_bitsAbove_45 E X ih hq hμ h hR (lv_sub hl [0, 1, 2] rfl)
        · have h := av_if c36 h
          refine lv_iload_n hx hb dX9_bitsAbove_39 rfl (lv_at hl 1 rfl) ?_
          refine lv_iconst (v := 1) hx hb dX9_bitsAbove_40 rfl ?_
          refine lv_iload_n hx hb dX9_bitsAbove_41 rfl (lv_at hl 2 rfl) ?_
          refine lv_ishl hx hb dX9_bitsAbove_42 ?_
          refine lv_ior hx hb dX9_bitsAbove_43 ?_
          obtain ⟨x2_44, ex2_44, h⟩ := av_bd h
          replace ex2_44 := Option.some.inj ex2_44
          rw [ex2_44]
          refine lv_istore_n (lv' := [(2, .int x2_44), (0, .ref (g.2.2 q)), (3, .int x3)]) hx hb dX9_bitsAbove_44 rfl hl (by decide) rfl (fun ls hl => ?_)
          exact tX9_bitsAbove_45 E X ih hq hμ h hR (lv_sub hl [1, 0, 2] rfl)

set_option maxHeartbeats 4000000 in
set_option maxRecDepth 100000 in
theorem CX9_bitsAbove (l : Launch) (g : Gl) {q : Nat} {a1 : Int32} (hq : av_t av_wc q 9) {μ : Mem} {zr : Int32} (h : fX9_bitsAbove q a1 μ = some zr) : av_MI l yX9_bitsAbove cX9_bitsAbove 4 2 (some .int) av_wc g [.ref (g.2.2 q), .int a1] μ zr μ := by
  refine av_ent (own := RX9) (by decide) (Nat.le_of_ble_eq_true rfl) rfl (fun p e s m args below meth c E X hR ls hl => ?_)
  have hl : lv_has ls 4 [(0, .ref (g.2.2 q)), (1, .int a1)] := hl
  obtain ⟨hx, hb, hr, hml, hown, hts, hlocks⟩ := id E
  have hμ : μ = μ := rfl
  unfold fX9_bitsAbove at h
  refine lv_iconst (v := 1) hx hb dX9_bitsAbove_0 rfl ?_
  refine lv_iload_n hx hb dX9_bitsAbove_1 rfl (lv_at hl 1 rfl) ?_
  refine lv_ishl hx hb dX9_bitsAbove_2 ?_
  obtain ⟨x2_3, ex2_3, h⟩ := av_bd h
  replace ex2_3 := Option.some.inj ex2_3
  rw [ex2_3]
  refine lv_istore_n (lv' := [(2, .int x2_3), (0, .ref (g.2.2 q)), (1, .int a1)]) hx hb dX9_bitsAbove_3 rfl hl (by decide) rfl (fun ls hl => ?_)
  refine lv_iload_n hx hb dX9_bitsAbove_4 rfl (lv_at hl 2 rfl) ?_
  refine lv_iconst (v := 1) hx hb dX9_bitsAbove_5 rfl ?_
  refine lv_iadd hx hb dX9_bitsAbove_6 ?_
  obtain ⟨x3_7, ex3_7, h⟩ := av_bd h
  replace ex3_7 := Option.some.inj ex3_7
  rw [ex3_7]
  refine lv_istore_n (lv' := [(3, .int x3_7), (2, .int x2_3), (0, .ref (g.2.2 q)), (1, .int a1)]) hx hb dX9_bitsAbove_7 rfl hl (by decide) rfl (fun ls hl => ?_)
  exact tX9_bitsAbove_8 E X _ hq hμ h hR (lv_sub hl [2, 1, 0] rfl)

set_option maxHeartbeats 4000000 in
set_option maxRecDepth 100000 in
theorem tX7_mayStart_32 {p : Program} {l : Launch} {e : Env} {s : State} {m : MethodId} {args : Array Value} {below : List Frame} {meth : Method} {c : Code} {g : Gl} {zr : Int32} {μ0 : Mem} (E : av_E p s m args meth c cX7_mayStart RX7 4 (some .boolean)) (X : av_X av_wc g s) {k2 : Nat → Int32 → Int32 → Int32 → Mem → Option (Int32)} (hk2 : ∀ {q : Nat} {x1 : Int32} {x2 : Int32} {x3 : Int32} (hq : av_t av_wc q 7) {μ : Mem} {H : Heap} {locs : List Loc} {ls : Array Slot} (hμ : μ0 = μ), k2 q x1 x2 x3 μ = some zr → av_R av_wc g μ s H locs → lv_has ls 4 [(0, .ref (g.2.2 q)), (1, .int x1), (2, .int x2), (3, .int x3)] → W p l e (rmN 3) s m args below meth c H locs 0 0 (MQ below (va_Qi (fun r1 u => r1 = zr ∧ u = μ0) (av_B av_wc g) (av_A av_wc g)) args s 0 0 (av_A av_wc g)) (F0 m 2 ls [])) :
    ∀ {q : Nat} {x1 : Int32} {x2 : Int32} {x3 : Int32} (hq : av_t av_wc q 7) {μ : Mem} {H : Heap} {locs : List Loc} {ls : Array Slot} (hμ : μ0 = μ), fX7_mayStart_32 k2 q x1 x2 x3 μ = some zr → av_R av_wc g μ s H locs → lv_has ls 4 [(0, .ref (g.2.2 q)), (1, .int x1), (2, .int x2), (3, .int x3)] → W p l e (rmN 3) s m args below meth c H locs 0 0 (MQ below (va_Qi (fun r1 u => r1 = zr ∧ u = μ0) (av_B av_wc g) (av_A av_wc g)) args s 0 0 (av_A av_wc g)) (F0 m 32 ls []) := by
  obtain ⟨hx, hb, hr, hml, hown, hts, hlocks⟩ := id E
  intro q x1 x2 x3 hq μ H locs ls hμ h hR hl
  unfold fX7_mayStart_32 at h
  obtain ⟨x3_32, ex3_32, h⟩ := av_bd h
  replace ex3_32 := Option.some.inj ex3_32
  refine lv_iinc (v := x3_32) (lv' := [(3, .int x3_32), (0, .ref (g.2.2 q)), (1, .int x1), (2, .int x2)]) hx hb dX7_mayStart_32 hl (k := 3) rfl ex3_32 (by decide) rfl (fun ls hl => ?_)
  refine lv_goto (tgt := 2) hx hb dX7_mayStart_35 (by decide) ?_
  exact hk2 hq hμ h hR (lv_sub hl [1, 2, 3, 0] rfl)

set_option maxHeartbeats 4000000 in
set_option maxRecDepth 100000 in
theorem tX7_mayStart_2 {p : Program} {l : Launch} {e : Env} {s : State} {m : MethodId} {args : Array Value} {below : List Frame} {meth : Method} {c : Code} {g : Gl} {zr : Int32} {μ0 : Mem} (E : av_E p s m args meth c cX7_mayStart RX7 4 (some .boolean)) (X : av_X av_wc g s) :
    ∀ (n : Nat) {q : Nat} {x1 : Int32} {x2 : Int32} {x3 : Int32} (hq : av_t av_wc q 7) {μ : Mem} {H : Heap} {locs : List Loc} {ls : Array Slot} (hμ : μ0 = μ), fX7_mayStart_2 n q x1 x2 x3 μ = some zr → av_R av_wc g μ s H locs → lv_has ls 4 [(0, .ref (g.2.2 q)), (1, .int x1), (2, .int x2), (3, .int x3)] → W p l e (rmN 3) s m args below meth c H locs 0 0 (MQ below (va_Qi (fun r1 u => r1 = zr ∧ u = μ0) (av_B av_wc g) (av_A av_wc g)) args s 0 0 (av_A av_wc g)) (F0 m 2 ls []) := by
  obtain ⟨hx, hb, hr, hml, hown, hts, hlocks⟩ := id E
  intro n
  induction n with
  | zero =>
    intro q x1 x2 x3 hq μ H locs ls hμ h hR hl
    cases h
  | succ n ih =>
    intro q x1 x2 x3 hq μ H locs ls hμ h hR hl
    unfold fX7_mayStart_2 at h
    refine lv_iload_n hx hb dX7_mayStart_2 rfl (lv_at hl 3 rfl) ?_
    refine lv_aload_n hx hb dX7_mayStart_3 rfl (lv_at hl 0 rfl) ?_
    refine gf_X7_25 E X hR hq dX7_mayStart_4 rfl ?_
    refine gf_X7_86 E X hR (av_ty_7_0 hq) dX7_mayStart_7 ?_
    refine lv_icmp_ge (tgt := 38) hx hb dX7_mayStart_10 (by decide) (fun c10 => ?_) (fun c10 => ?_)
    · have h := av_it c10 h
      refine lv_iconst (v := 0) hx hb dX7_mayStart_38 rfl ?_
      exact av_rz E hR rfl ⟨Option.some.inj h, hμ.symm⟩ dX7_mayStart_39
    · have h := av_if c10 h
      refine lv_iload_n hx hb dX7_mayStart_13 rfl (lv_at hl 1 rfl) ?_
      refine lv_iload_n hx hb dX7_mayStart_14 rfl (lv_at hl 3 rfl) ?_
      obtain ⟨r15, er15, h⟩ := av_bd h
      refine av_goI hR (av_cSN (As := [.int x1, .int x3]) (rest := []) E X hR hl.1 (CX11_hasBit l g er15) kk_X7_102 (av_room (by omega) (by decide)) rfl (Nat.le_of_ble_eq_true rfl) ⟨Nat.zero_le _, Nat.zero_le _⟩ dX7_mayStart_15) (fun H locs hR => ?_)
      refine lv_if_eq (tgt := 32) hx hb dX7_mayStart_18 (by decide) (fun c18 => ?_) (fun c18 => ?_)
      · have h := av_it c18 h
        exact tX7_mayStart_32 E X ih hq hμ h hR (lv_sub hl [0, 1, 2, 3] rfl)
      · have h := av_if c18 h
        refine lv_aload_n hx hb dX7_mayStart_21 rfl (lv_at hl 0 rfl) ?_
        refine lv_iload_n hx hb dX7_mayStart_22 rfl (lv_at hl 3 rfl) ?_
        refine lv_iload_n hx hb dX7_mayStart_23 rfl (lv_at hl 2 rfl) ?_
        obtain ⟨r24, er24, h⟩ := av_bd h
        refine av_goI hR (av_cV (As := [.int x3, .int x2]) (rest := []) E X hR hl.1 (CX7_bears l g hq er24) kk_X7_95 (av_room (by omega) (by decide)) hq (by decide) rfl rfl (Nat.le_of_ble_eq_true rfl) ⟨Nat.zero_le _, Nat.zero_le _⟩ dX7_mayStart_24) (fun H locs hR => ?_)
        refine lv_if_ne (tgt := 32) hx hb dX7_mayStart_27 (by decide) (fun c27 => ?_) (fun c27 => ?_)
        · have h := av_if c27 h
          exact tX7_mayStart_32 E X ih hq hμ h hR (lv_sub hl [0, 1, 2, 3] rfl)
        · have h := av_it c27 h
          refine lv_iconst (v := 1) hx hb dX7_mayStart_30 rfl ?_
          exact av_rz E hR rfl ⟨Option.some.inj h, hμ.symm⟩ dX7_mayStart_31

set_option maxHeartbeats 4000000 in
set_option maxRecDepth 100000 in
theorem CX7_mayStart (l : Launch) (g : Gl) {q : Nat} {a1 : Int32} {a2 : Int32} (hq : av_t av_wc q 7) {μ : Mem} {zr : Int32} (h : fX7_mayStart q a1 a2 μ = some zr) : av_MI l yX7_mayStart cX7_mayStart 4 3 (some .boolean) av_wc g [.ref (g.2.2 q), .int a1, .int a2] μ zr μ := by
  refine av_ent (own := RX7) (by decide) (Nat.le_of_ble_eq_true rfl) rfl (fun p e s m args below meth c E X hR ls hl => ?_)
  have hl : lv_has ls 4 [(0, .ref (g.2.2 q)), (1, .int a1), (2, .int a2)] := hl
  obtain ⟨hx, hb, hr, hml, hown, hts, hlocks⟩ := id E
  have hμ : μ = μ := rfl
  unfold fX7_mayStart at h
  refine lv_iconst (v := 0) hx hb dX7_mayStart_0 rfl ?_
  refine lv_istore_n (lv' := [(3, .int 0), (0, .ref (g.2.2 q)), (1, .int a1), (2, .int a2)]) hx hb dX7_mayStart_1 rfl hl (by decide) rfl (fun ls hl => ?_)
  exact tX7_mayStart_2 E X _ hq hμ h hR (lv_sub hl [1, 2, 3, 0] rfl)

set_option maxHeartbeats 4000000 in
set_option maxRecDepth 100000 in
theorem tX7_snowOver_2 {p : Program} {l : Launch} {e : Env} {s : State} {m : MethodId} {args : Array Value} {below : List Frame} {meth : Method} {c : Code} {g : Gl} {zm : Mem} (E : av_E p s m args meth c cX7_snowOver RX7 3 none) (X : av_X av_wc g s) :
    ∀ (n : Nat) {q : Nat} {x1 : Int32} {x2 : Int32} (hq : av_t av_wc q 7) {μ : Mem} {H : Heap} {locs : List Loc} {ls : Array Slot}, fX7_snowOver_2 n q x1 x2 μ = some zm → av_R av_wc g μ s H locs → lv_has ls 3 [(0, .ref (g.2.2 q)), (1, .int x1), (2, .int x2)] → W p l e (rmN 4) s m args below meth c H locs 0 0 (MQ below (va_Qv (fun u => u = zm) (av_B av_wc g) (av_A av_wc g)) args s 0 0 (av_A av_wc g)) (F0 m 2 ls []) := by
  obtain ⟨hx, hb, hr, hml, hown, hts, hlocks⟩ := id E
  intro n
  induction n with
  | zero =>
    intro q x1 x2 hq μ H locs ls h hR hl
    cases h
  | succ n ih =>
    intro q x1 x2 hq μ H locs ls h hR hl
    unfold fX7_snowOver_2 at h
    refine lv_iload_n hx hb dX7_snowOver_2 rfl (lv_at hl 2 rfl) ?_
    refine lv_aload_n hx hb dX7_snowOver_3 rfl (lv_at hl 0 rfl) ?_
    refine gf_X7_25 E X hR hq dX7_snowOver_4 rfl ?_
    refine gf_X7_86 E X hR (av_ty_7_0 hq) dX7_snowOver_7 ?_
    refine lv_icmp_ge (tgt := 29) hx hb dX7_snowOver_10 (by decide) (fun c10 => ?_) (fun c10 => ?_)
    · have h := av_it c10 h
      refine lv_aload_n hx hb dX7_snowOver_29 rfl (lv_at hl 0 rfl) ?_
      obtain ⟨μ30, eμ30, h⟩ := av_bd h
      refine av_goV hR (av_cV (As := []) (rest := []) E X hR hl.1 (CX7_comeDown l g hq eμ30) kk_X7_83 (av_room (by omega) (by decide)) hq (by decide) rfl rfl (Nat.le_of_ble_eq_true rfl) ⟨Nat.zero_le _, Nat.zero_le _⟩ dX7_snowOver_30) (fun H locs hR => ?_)
      exact av_rv E hR (Option.some.inj h) dX7_snowOver_33
    · have h := av_if c10 h
      refine lv_aload_n hx hb dX7_snowOver_13 rfl (lv_at hl 0 rfl) ?_
      refine gf_X7_9 E X hR hq dX7_snowOver_14 rfl ?_
      refine lv_iload_n hx hb dX7_snowOver_17 rfl (lv_at hl 2 rfl) ?_
      refine lv_dup2_11 hx hb dX7_snowOver_18 rfl rfl ?_
      obtain ⟨r19, er19, h⟩ := av_bd h
      refine av_il E X hR (av_ty_7_1 hq) er19 dX7_snowOver_19 ?_
      refine lv_iload_n hx hb dX7_snowOver_20 rfl (lv_at hl 1 rfl) ?_
      refine lv_iadd hx hb dX7_snowOver_21 ?_
      obtain ⟨μ22, eμ22, h⟩ := av_bd h
      refine av_is E X hR (av_ty_7_1 hq) eμ22 dX7_snowOver_22 (fun H locs hR => ?_)
      obtain ⟨x2_23, ex2_23, h⟩ := av_bd h
      replace ex2_23 := Option.some.inj ex2_23
      refine lv_iinc (v := x2_23) (lv' := [(2, .int x2_23), (0, .ref (g.2.2 q)), (1, .int x1)]) hx hb dX7_snowOver_23 hl (k := 2) rfl ex2_23 (by decide) rfl (fun ls hl => ?_)
      refine lv_goto (tgt := 2) hx hb dX7_snowOver_26 (by decide) ?_
      exact ih hq h hR (lv_sub hl [1, 2, 0] rfl)

set_option maxHeartbeats 4000000 in
set_option maxRecDepth 100000 in
theorem CX7_snowOver (l : Launch) (g : Gl) {q : Nat} {a1 : Int32} (hq : av_t av_wc q 7) {μ : Mem} {zm : Mem} (h : fX7_snowOver q a1 μ = some zm) : av_MV l yX7_snowOver cX7_snowOver 3 4 none av_wc g [.ref (g.2.2 q), .int a1] μ zm := by
  refine av_ent (own := RX7) (by decide) (Nat.le_of_ble_eq_true rfl) rfl (fun p e s m args below meth c E X hR ls hl => ?_)
  have hl : lv_has ls 3 [(0, .ref (g.2.2 q)), (1, .int a1)] := hl
  obtain ⟨hx, hb, hr, hml, hown, hts, hlocks⟩ := id E
  unfold fX7_snowOver at h
  refine lv_iconst (v := 0) hx hb dX7_snowOver_0 rfl ?_
  refine lv_istore_n (lv' := [(2, .int 0), (0, .ref (g.2.2 q)), (1, .int a1)]) hx hb dX7_snowOver_1 rfl hl (by decide) rfl (fun ls hl => ?_)
  exact tX7_snowOver_2 E X _ hq h hR (lv_sub hl [1, 2, 0] rfl)

set_option maxHeartbeats 4000000 in
set_option maxRecDepth 100000 in
theorem tX7_fellAhead_41 {p : Program} {l : Launch} {e : Env} {s : State} {m : MethodId} {args : Array Value} {below : List Frame} {meth : Method} {c : Code} {g : Gl} {zr : Int32} {μ0 : Mem} (E : av_E p s m args meth c cX7_fellAhead RX7 3 (some .boolean)) (X : av_X av_wc g s) :
    ∀ {μ : Mem} {H : Heap} {locs : List Loc} {ls : Array Slot} (hμ : μ0 = μ), fX7_fellAhead_41 μ = some zr → av_R av_wc g μ s H locs → lv_has ls 3 [] → W p l e (rmN 2) s m args below meth c H locs 0 0 (MQ below (va_Qi (fun r1 u => r1 = zr ∧ u = μ0) (av_B av_wc g) (av_A av_wc g)) args s 0 0 (av_A av_wc g)) (F0 m 41 ls []) := by
  obtain ⟨hx, hb, hr, hml, hown, hts, hlocks⟩ := id E
  intro μ H locs ls hμ h hR hl
  unfold fX7_fellAhead_41 at h
  refine lv_iconst (v := 0) hx hb dX7_fellAhead_41 rfl ?_
  exact av_rz E hR rfl ⟨Option.some.inj h, hμ.symm⟩ dX7_fellAhead_42

set_option maxHeartbeats 4000000 in
set_option maxRecDepth 100000 in
theorem tX7_fellAhead_37 {p : Program} {l : Launch} {e : Env} {s : State} {m : MethodId} {args : Array Value} {below : List Frame} {meth : Method} {c : Code} {g : Gl} {zr : Int32} {μ0 : Mem} (E : av_E p s m args meth c cX7_fellAhead RX7 3 (some .boolean)) (X : av_X av_wc g s) :
    ∀ {μ : Mem} {H : Heap} {locs : List Loc} {ls : Array Slot} (hμ : μ0 = μ), fX7_fellAhead_37 μ = some zr → av_R av_wc g μ s H locs → lv_has ls 3 [] → W p l e (rmN 2) s m args below meth c H locs 0 0 (MQ below (va_Qi (fun r1 u => r1 = zr ∧ u = μ0) (av_B av_wc g) (av_A av_wc g)) args s 0 0 (av_A av_wc g)) (F0 m 37 ls []) := by
  obtain ⟨hx, hb, hr, hml, hown, hts, hlocks⟩ := id E
  intro μ H locs ls hμ h hR hl
  unfold fX7_fellAhead_37 at h
  refine lv_iconst (v := 1) hx hb dX7_fellAhead_37 rfl ?_
  refine lv_goto (tgt := 42) hx hb dX7_fellAhead_38 (by decide) ?_
  exact av_rz E hR rfl ⟨Option.some.inj h, hμ.symm⟩ dX7_fellAhead_42

set_option maxHeartbeats 4000000 in
set_option maxRecDepth 100000 in
theorem CX7_fellAhead (l : Launch) (g : Gl) {q : Nat} {a1 : Int32} {a2 : Int32} (hq : av_t av_wc q 7) {μ : Mem} {zr : Int32} (h : fX7_fellAhead q a1 a2 μ = some zr) : av_MI l yX7_fellAhead cX7_fellAhead 3 2 (some .boolean) av_wc g [.ref (g.2.2 q), .int a1, .int a2] μ zr μ := by
  refine av_ent (own := RX7) (by decide) (Nat.le_of_ble_eq_true rfl) rfl (fun p e s m args below meth c E X hR ls hl => ?_)
  have hl : lv_has ls 3 [(0, .ref (g.2.2 q)), (1, .int a1), (2, .int a2)] := hl
  obtain ⟨hx, hb, hr, hml, hown, hts, hlocks⟩ := id E
  have hμ : μ = μ := rfl
  unfold fX7_fellAhead at h
  refine lv_aload_n hx hb dX7_fellAhead_0 rfl (lv_at hl 0 rfl) ?_
  refine gf_X7_89 E X hR hq dX7_fellAhead_1 ?_
  refine lv_iload_n hx hb dX7_fellAhead_4 rfl (lv_at hl 1 rfl) ?_
  obtain ⟨r5, er5, h⟩ := av_bd h
  refine av_goI hR (av_cSN (As := [.int (gF μ q 6), .int a1]) (rest := []) E X hR hl.1 (CX11_hasBit l g er5) kk_X7_102 (av_room (by omega) (by decide)) rfl (Nat.le_of_ble_eq_true rfl) ⟨Nat.zero_le _, Nat.zero_le _⟩ dX7_fellAhead_5) (fun H locs hR => ?_)
  refine lv_if_eq (tgt := 41) hx hb dX7_fellAhead_8 (by decide) (fun c8 => ?_) (fun c8 => ?_)
  · have h := av_it c8 h
    exact tX7_fellAhead_41 E X hμ h hR (lv_sub hl [] rfl)
  · have h := av_if c8 h
    refine lv_aload_n hx hb dX7_fellAhead_11 rfl (lv_at hl 0 rfl) ?_
    refine gf_X7_89 E X hR hq dX7_fellAhead_12 ?_
    refine lv_iload_n hx hb dX7_fellAhead_15 rfl (lv_at hl 2 rfl) ?_
    obtain ⟨r16, er16, h⟩ := av_bd h
    refine av_goI hR (av_cSN (As := [.int (gF μ q 6), .int a2]) (rest := []) E X hR hl.1 (CX11_hasBit l g er16) kk_X7_102 (av_room (by omega) (by decide)) rfl (Nat.le_of_ble_eq_true rfl) ⟨Nat.zero_le _, Nat.zero_le _⟩ dX7_fellAhead_16) (fun H locs hR => ?_)
    refine lv_if_eq (tgt := 37) hx hb dX7_fellAhead_19 (by decide) (fun c19 => ?_) (fun c19 => ?_)
    · have h := av_it c19 h
      exact tX7_fellAhead_37 E X hμ h hR (lv_sub hl [] rfl)
    · have h := av_if c19 h
      refine lv_aload_n hx hb dX7_fellAhead_22 rfl (lv_at hl 0 rfl) ?_
      refine gf_X7_22 E X hR hq dX7_fellAhead_23 rfl ?_
      refine lv_iload_n hx hb dX7_fellAhead_26 rfl (lv_at hl 1 rfl) ?_
      obtain ⟨r27, er27, h⟩ := av_bd h
      refine av_il E X hR (av_ty_7_8 hq) er27 dX7_fellAhead_27 ?_
      refine lv_aload_n hx hb dX7_fellAhead_28 rfl (lv_at hl 0 rfl) ?_
      refine gf_X7_22 E X hR hq dX7_fellAhead_29 rfl ?_
      refine lv_iload_n hx hb dX7_fellAhead_32 rfl (lv_at hl 2 rfl) ?_
      obtain ⟨r33, er33, h⟩ := av_bd h
      refine av_il E X hR (av_ty_7_8 hq) er33 dX7_fellAhead_33 ?_
      refine lv_icmp_ge (tgt := 41) hx hb dX7_fellAhead_34 (by decide) (fun c34 => ?_) (fun c34 => ?_)
      · have h := av_it c34 h
        exact tX7_fellAhead_41 E X hμ h hR (lv_sub hl [] rfl)
      · have h := av_if c34 h
        exact tX7_fellAhead_37 E X hμ h hR (lv_sub hl [] rfl)

set_option maxHeartbeats 4000000 in
set_option maxRecDepth 100000 in
theorem tX7_loadOfAll_4 {p : Program} {l : Launch} {e : Env} {s : State} {m : MethodId} {args : Array Value} {below : List Frame} {meth : Method} {c : Code} {g : Gl} {zr : Int32} {μ0 : Mem} (E : av_E p s m args meth c cX7_loadOfAll RX7 3 (some .int)) (X : av_X av_wc g s) :
    ∀ (n : Nat) {q : Nat} {x1 : Int32} {x2 : Int32} (hq : av_t av_wc q 7) {μ : Mem} {H : Heap} {locs : List Loc} {ls : Array Slot} (hμ : μ0 = μ), fX7_loadOfAll_4 n q x1 x2 μ = some zr → av_R av_wc g μ s H locs → lv_has ls 3 [(0, .ref (g.2.2 q)), (1, .int x1), (2, .int x2)] → W p l e (rmN 2) s m args below meth c H locs 0 0 (MQ below (va_Qi (fun r1 u => r1 = zr ∧ u = μ0) (av_B av_wc g) (av_A av_wc g)) args s 0 0 (av_A av_wc g)) (F0 m 4 ls []) := by
  obtain ⟨hx, hb, hr, hml, hown, hts, hlocks⟩ := id E
  intro n
  induction n with
  | zero =>
    intro q x1 x2 hq μ H locs ls hμ h hR hl
    cases h
  | succ n ih =>
    intro q x1 x2 hq μ H locs ls hμ h hR hl
    unfold fX7_loadOfAll_4 at h
    refine lv_iload_n hx hb dX7_loadOfAll_4 rfl (lv_at hl 2 rfl) ?_
    refine lv_aload_n hx hb dX7_loadOfAll_5 rfl (lv_at hl 0 rfl) ?_
    refine gf_X7_25 E X hR hq dX7_loadOfAll_6 rfl ?_
    refine gf_X7_86 E X hR (av_ty_7_0 hq) dX7_loadOfAll_9 ?_
    refine lv_icmp_ge (tgt := 29) hx hb dX7_loadOfAll_12 (by decide) (fun c12 => ?_) (fun c12 => ?_)
    · have h := av_it c12 h
      refine lv_iload_n hx hb dX7_loadOfAll_29 rfl (lv_at hl 1 rfl) ?_
      exact av_ri E hR ⟨Option.some.inj h, hμ.symm⟩ dX7_loadOfAll_30
    · have h := av_if c12 h
      refine lv_iload_n hx hb dX7_loadOfAll_15 rfl (lv_at hl 1 rfl) ?_
      refine lv_aload_n hx hb dX7_loadOfAll_16 rfl (lv_at hl 0 rfl) ?_
      refine lv_iload_n hx hb dX7_loadOfAll_17 rfl (lv_at hl 2 rfl) ?_
      obtain ⟨r18, er18, h⟩ := av_bd h
      refine av_goI hR (av_cV (As := [.int x2]) (rest := [.int x1]) E X hR hl.1 (CX7_loadOf l g hq er18) kk_X7_113 (av_room (by omega) (by decide)) hq (by decide) rfl rfl (Nat.le_of_ble_eq_true rfl) ⟨Nat.zero_le _, Nat.zero_le _⟩ dX7_loadOfAll_18) (fun H locs hR => ?_)
      refine lv_iadd hx hb dX7_loadOfAll_21 ?_
      obtain ⟨x1_22, ex1_22, h⟩ := av_bd h
      replace ex1_22 := Option.some.inj ex1_22
      rw [ex1_22]
      refine lv_istore_n (lv' := [(1, .int x1_22), (0, .ref (g.2.2 q)), (2, .int x2)]) hx hb dX7_loadOfAll_22 rfl hl (by decide) rfl (fun ls hl => ?_)
      obtain ⟨x2_23, ex2_23, h⟩ := av_bd h
      replace ex2_23 := Option.some.inj ex2_23
      refine lv_iinc (v := x2_23) (lv' := [(2, .int x2_23), (1, .int x1_22), (0, .ref (g.2.2 q))]) hx hb dX7_loadOfAll_23 hl (k := 2) rfl ex2_23 (by decide) rfl (fun ls hl => ?_)
      refine lv_goto (tgt := 4) hx hb dX7_loadOfAll_26 (by decide) ?_
      exact ih hq hμ h hR (lv_sub hl [2, 1, 0] rfl)

set_option maxHeartbeats 4000000 in
set_option maxRecDepth 100000 in
theorem CX7_loadOfAll (l : Launch) (g : Gl) {q : Nat} (hq : av_t av_wc q 7) {μ : Mem} {zr : Int32} (h : fX7_loadOfAll q μ = some zr) : av_MI l yX7_loadOfAll cX7_loadOfAll 3 2 (some .int) av_wc g [.ref (g.2.2 q)] μ zr μ := by
  refine av_ent (own := RX7) (by decide) (Nat.le_of_ble_eq_true rfl) rfl (fun p e s m args below meth c E X hR ls hl => ?_)
  have hl : lv_has ls 3 [(0, .ref (g.2.2 q))] := hl
  obtain ⟨hx, hb, hr, hml, hown, hts, hlocks⟩ := id E
  have hμ : μ = μ := rfl
  unfold fX7_loadOfAll at h
  refine lv_iconst (v := 0) hx hb dX7_loadOfAll_0 rfl ?_
  refine lv_istore_n (lv' := [(1, .int 0), (0, .ref (g.2.2 q))]) hx hb dX7_loadOfAll_1 rfl hl (by decide) rfl (fun ls hl => ?_)
  refine lv_iconst (v := 0) hx hb dX7_loadOfAll_2 rfl ?_
  refine lv_istore_n (lv' := [(2, .int 0), (1, .int 0), (0, .ref (g.2.2 q))]) hx hb dX7_loadOfAll_3 rfl hl (by decide) rfl (fun ls hl => ?_)
  exact tX7_loadOfAll_4 E X _ hq hμ h hR (lv_sub hl [2, 1, 0] rfl)

set_option maxHeartbeats 4000000 in
set_option maxRecDepth 100000 in
theorem CX7_startAnew (l : Launch) (g : Gl) {q : Nat} (hq : av_t av_wc q 7) {μ : Mem} {zm : Mem} (h : fX7_startAnew q μ = some zm) : av_MV l yX7_startAnew cX7_startAnew 1 2 none av_wc g [.ref (g.2.2 q)] μ zm := by
  refine av_ent (own := RX7) (by decide) (Nat.le_of_ble_eq_true rfl) rfl (fun p e s m args below meth c E X hR ls hl => ?_)
  have hl : lv_has ls 1 [(0, .ref (g.2.2 q))] := hl
  obtain ⟨hx, hb, hr, hml, hown, hts, hlocks⟩ := id E
  unfold fX7_startAnew at h
  refine lv_aload_n hx hb dX7_startAnew_0 rfl (lv_at hl 0 rfl) ?_
  refine gf_X7_9 E X hR hq dX7_startAnew_1 rfl ?_
  refine lv_iconst (v := 0) hx hb dX7_startAnew_4 rfl ?_
  obtain ⟨μ5, eμ5, h⟩ := av_bd h
  refine av_goV hR (av_cS (As := [.ref (g.2.2 (av_rf q 1)), .int 0]) (rest := []) E X hR hl.1 (CJ7_fill_53178 l g (av_ty_7_1 hq) eμ5) kk_X7_41 (av_room (by omega) (by decide)) rfl (Nat.le_of_ble_eq_true rfl) ⟨Nat.zero_le _, Nat.zero_le _⟩ dX7_startAnew_5) (fun H locs hR => ?_)
  refine lv_aload_n hx hb dX7_startAnew_8 rfl (lv_at hl 0 rfl) ?_
  refine gf_X7_15 E X hR hq dX7_startAnew_9 rfl ?_
  refine lv_iconst (v := 0) hx hb dX7_startAnew_12 rfl ?_
  obtain ⟨μ13, eμ13, h⟩ := av_bd h
  refine av_goV hR (av_cS (As := [.ref (g.2.2 (av_rf q 2)), .int 0]) (rest := []) E X hR hl.1 (CJ7_fill_53178 l g (av_ty_7_2 hq) eμ13) kk_X7_41 (av_room (by omega) (by decide)) rfl (Nat.le_of_ble_eq_true rfl) ⟨Nat.zero_le _, Nat.zero_le _⟩ dX7_startAnew_13) (fun H locs hR => ?_)
  refine lv_aload_n hx hb dX7_startAnew_16 rfl (lv_at hl 0 rfl) ?_
  refine lv_iconst (v := 0) hx hb dX7_startAnew_17 rfl ?_
  obtain ⟨μ18, eμ18, h⟩ := av_bd h
  replace eμ18 := Option.some.inj eμ18
  refine pf_X7_35 E X hR hq dX7_startAnew_18 eμ18 (fun H locs hR => ?_)
  refine lv_aload_n hx hb dX7_startAnew_21 rfl (lv_at hl 0 rfl) ?_
  refine lv_iconst (v := (-1)) hx hb dX7_startAnew_22 rfl ?_
  obtain ⟨μ23, eμ23, h⟩ := av_bd h
  replace eμ23 := Option.some.inj eμ23
  refine pf_X7_18 E X hR hq dX7_startAnew_23 eμ23 (fun H locs hR => ?_)
  refine lv_aload_n hx hb dX7_startAnew_26 rfl (lv_at hl 0 rfl) ?_
  refine lv_iconst (v := 0) hx hb dX7_startAnew_27 rfl ?_
  obtain ⟨μ28, eμ28, h⟩ := av_bd h
  replace eμ28 := Option.some.inj eμ28
  refine pf_X7_38 E X hR hq dX7_startAnew_28 eμ28 (fun H locs hR => ?_)
  exact av_rv E hR (Option.some.inj h) dX7_startAnew_31

set_option maxHeartbeats 4000000 in
set_option maxRecDepth 100000 in
theorem CX7_saveTo (l : Launch) (g : Gl) {q : Nat} {a1 : Nat} {a2 : Int32} (hq : av_t av_wc q 7) (ha1 : av_t av_wc a1 13) {μ : Mem} {zm : Mem} (h : fX7_saveTo q a1 a2 μ = some zm) : av_MV l yX7_saveTo cX7_saveTo 3 2 none av_wc g [.ref (g.2.2 q), .ref (g.2.2 a1), .int a2] μ zm := by
  refine av_ent (own := RX7) (by decide) (Nat.le_of_ble_eq_true rfl) rfl (fun p e s m args below meth c E X hR ls hl => ?_)
  have hl : lv_has ls 3 [(0, .ref (g.2.2 q)), (1, .ref (g.2.2 a1)), (2, .int a2)] := hl
  obtain ⟨hx, hb, hr, hml, hown, hts, hlocks⟩ := id E
  unfold fX7_saveTo at h
  refine lv_iload_n hx hb dX7_saveTo_0 rfl (lv_at hl 2 rfl) ?_
  refine lv_if_lt (tgt := 13) hx hb dX7_saveTo_1 (by decide) (fun c1 => ?_) (fun c1 => ?_)
  · have h := av_it c1 h
    exact av_rv E hR (Option.some.inj h) dX7_saveTo_13
  · have h := av_if c1 h
    refine lv_iload_n hx hb dX7_saveTo_4 rfl (lv_at hl 2 rfl) ?_
    refine lv_bipush (v := 19) hx hb dX7_saveTo_5 rfl ?_
    refine lv_iadd hx hb dX7_saveTo_7 ?_
    refine lv_aload_n hx hb dX7_saveTo_8 rfl (lv_at hl 1 rfl) ?_
    refine av_len E X hR ha1 (by decide) (t0 := 0) rfl dX7_saveTo_9 ?_
    refine lv_icmp_le (tgt := 14) hx hb dX7_saveTo_10 (by decide) (fun c10 => ?_) (fun c10 => ?_)
    · have h := av_it c10 h
      refine lv_aload_n hx hb dX7_saveTo_14 rfl (lv_at hl 0 rfl) ?_
      refine gf_X7_9 E X hR hq dX7_saveTo_15 rfl ?_
      refine lv_iconst (v := 0) hx hb dX7_saveTo_18 rfl ?_
      refine lv_aload_n hx hb dX7_saveTo_19 rfl (lv_at hl 1 rfl) ?_
      refine lv_iload_n hx hb dX7_saveTo_20 rfl (lv_at hl 2 rfl) ?_
      refine lv_bipush (v := 8) hx hb dX7_saveTo_21 rfl ?_
      obtain ⟨μ23, eμ23, h⟩ := av_bd h
      refine av_cp E X hR hl.1 kM_X7_29 (av_ty_7_1 hq) ha1 eμ23 (by decide) (by decide) dX7_saveTo_23 (fun H locs hR => ?_)
      refine lv_aload_n hx hb dX7_saveTo_26 rfl (lv_at hl 0 rfl) ?_
      refine gf_X7_15 E X hR hq dX7_saveTo_27 rfl ?_
      refine lv_iconst (v := 0) hx hb dX7_saveTo_30 rfl ?_
      refine lv_aload_n hx hb dX7_saveTo_31 rfl (lv_at hl 1 rfl) ?_
      refine lv_iload_n hx hb dX7_saveTo_32 rfl (lv_at hl 2 rfl) ?_
      refine lv_bipush (v := 8) hx hb dX7_saveTo_33 rfl ?_
      refine lv_iadd hx hb dX7_saveTo_35 ?_
      refine lv_bipush (v := 8) hx hb dX7_saveTo_36 rfl ?_
      obtain ⟨μ38, eμ38, h⟩ := av_bd h
      refine av_cp E X hR hl.1 kM_X7_29 (av_ty_7_2 hq) ha1 eμ38 (by decide) (by decide) dX7_saveTo_38 (fun H locs hR => ?_)
      refine lv_aload_n hx hb dX7_saveTo_41 rfl (lv_at hl 1 rfl) ?_
      refine lv_iload_n hx hb dX7_saveTo_42 rfl (lv_at hl 2 rfl) ?_
      refine lv_bipush (v := 16) hx hb dX7_saveTo_43 rfl ?_
      refine lv_iadd hx hb dX7_saveTo_45 ?_
      refine lv_aload_n hx hb dX7_saveTo_46 rfl (lv_at hl 0 rfl) ?_
      refine gf_X7_35 E X hR hq dX7_saveTo_47 ?_
      obtain ⟨μ50, eμ50, h⟩ := av_bd h
      refine av_is E X hR ha1 eμ50 dX7_saveTo_50 (fun H locs hR => ?_)
      refine lv_aload_n hx hb dX7_saveTo_51 rfl (lv_at hl 1 rfl) ?_
      refine lv_iload_n hx hb dX7_saveTo_52 rfl (lv_at hl 2 rfl) ?_
      refine lv_bipush (v := 16) hx hb dX7_saveTo_53 rfl ?_
      refine lv_iadd hx hb dX7_saveTo_55 ?_
      refine lv_iconst (v := 1) hx hb dX7_saveTo_56 rfl ?_
      refine lv_iadd hx hb dX7_saveTo_57 ?_
      refine lv_aload_n hx hb dX7_saveTo_58 rfl (lv_at hl 0 rfl) ?_
      refine gf_X7_18 E X hR hq dX7_saveTo_59 ?_
      obtain ⟨μ62, eμ62, h⟩ := av_bd h
      refine av_is E X hR ha1 eμ62 dX7_saveTo_62 (fun H locs hR => ?_)
      refine lv_aload_n hx hb dX7_saveTo_63 rfl (lv_at hl 1 rfl) ?_
      refine lv_iload_n hx hb dX7_saveTo_64 rfl (lv_at hl 2 rfl) ?_
      refine lv_bipush (v := 16) hx hb dX7_saveTo_65 rfl ?_
      refine lv_iadd hx hb dX7_saveTo_67 ?_
      refine lv_iconst (v := 2) hx hb dX7_saveTo_68 rfl ?_
      refine lv_iadd hx hb dX7_saveTo_69 ?_
      refine lv_aload_n hx hb dX7_saveTo_70 rfl (lv_at hl 0 rfl) ?_
      refine gf_X7_38 E X hR hq dX7_saveTo_71 ?_
      obtain ⟨μ74, eμ74, h⟩ := av_bd h
      refine av_is E X hR ha1 eμ74 dX7_saveTo_74 (fun H locs hR => ?_)
      exact av_rv E hR (Option.some.inj h) dX7_saveTo_75
    · have h := av_if c10 h
      exact av_rv E hR (Option.some.inj h) dX7_saveTo_13

set_option maxHeartbeats 4000000 in
set_option maxRecDepth 100000 in
theorem CX7_loadFrom (l : Launch) (g : Gl) {q : Nat} {a1 : Nat} {a2 : Int32} (hq : av_t av_wc q 7) (ha1 : av_t av_wc a1 13) {μ : Mem} {zm : Mem} (h : fX7_loadFrom q a1 a2 μ = some zm) : av_MV l yX7_loadFrom cX7_loadFrom 3 2 none av_wc g [.ref (g.2.2 q), .ref (g.2.2 a1), .int a2] μ zm := by
  refine av_ent (own := RX7) (by decide) (Nat.le_of_ble_eq_true rfl) rfl (fun p e s m args below meth c E X hR ls hl => ?_)
  have hl : lv_has ls 3 [(0, .ref (g.2.2 q)), (1, .ref (g.2.2 a1)), (2, .int a2)] := hl
  obtain ⟨hx, hb, hr, hml, hown, hts, hlocks⟩ := id E
  unfold fX7_loadFrom at h
  refine lv_iload_n hx hb dX7_loadFrom_0 rfl (lv_at hl 2 rfl) ?_
  refine lv_if_lt (tgt := 13) hx hb dX7_loadFrom_1 (by decide) (fun c1 => ?_) (fun c1 => ?_)
  · have h := av_it c1 h
    exact av_rv E hR (Option.some.inj h) dX7_loadFrom_13
  · have h := av_if c1 h
    refine lv_iload_n hx hb dX7_loadFrom_4 rfl (lv_at hl 2 rfl) ?_
    refine lv_bipush (v := 19) hx hb dX7_loadFrom_5 rfl ?_
    refine lv_iadd hx hb dX7_loadFrom_7 ?_
    refine lv_aload_n hx hb dX7_loadFrom_8 rfl (lv_at hl 1 rfl) ?_
    refine av_len E X hR ha1 (by decide) (t0 := 0) rfl dX7_loadFrom_9 ?_
    refine lv_icmp_le (tgt := 14) hx hb dX7_loadFrom_10 (by decide) (fun c10 => ?_) (fun c10 => ?_)
    · have h := av_it c10 h
      refine lv_aload_n hx hb dX7_loadFrom_14 rfl (lv_at hl 1 rfl) ?_
      refine lv_iload_n hx hb dX7_loadFrom_15 rfl (lv_at hl 2 rfl) ?_
      refine lv_aload_n hx hb dX7_loadFrom_16 rfl (lv_at hl 0 rfl) ?_
      refine gf_X7_9 E X hR hq dX7_loadFrom_17 rfl ?_
      refine lv_iconst (v := 0) hx hb dX7_loadFrom_20 rfl ?_
      refine lv_bipush (v := 8) hx hb dX7_loadFrom_21 rfl ?_
      obtain ⟨μ23, eμ23, h⟩ := av_bd h
      refine av_cp E X hR hl.1 kM_X7_29 ha1 (av_ty_7_1 hq) eμ23 (by decide) (by decide) dX7_loadFrom_23 (fun H locs hR => ?_)
      refine lv_aload_n hx hb dX7_loadFrom_26 rfl (lv_at hl 1 rfl) ?_
      refine lv_iload_n hx hb dX7_loadFrom_27 rfl (lv_at hl 2 rfl) ?_
      refine lv_bipush (v := 8) hx hb dX7_loadFrom_28 rfl ?_
      refine lv_iadd hx hb dX7_loadFrom_30 ?_
      refine lv_aload_n hx hb dX7_loadFrom_31 rfl (lv_at hl 0 rfl) ?_
      refine gf_X7_15 E X hR hq dX7_loadFrom_32 rfl ?_
      refine lv_iconst (v := 0) hx hb dX7_loadFrom_35 rfl ?_
      refine lv_bipush (v := 8) hx hb dX7_loadFrom_36 rfl ?_
      obtain ⟨μ38, eμ38, h⟩ := av_bd h
      refine av_cp E X hR hl.1 kM_X7_29 ha1 (av_ty_7_2 hq) eμ38 (by decide) (by decide) dX7_loadFrom_38 (fun H locs hR => ?_)
      refine lv_aload_n hx hb dX7_loadFrom_41 rfl (lv_at hl 0 rfl) ?_
      refine lv_aload_n hx hb dX7_loadFrom_42 rfl (lv_at hl 1 rfl) ?_
      refine lv_iload_n hx hb dX7_loadFrom_43 rfl (lv_at hl 2 rfl) ?_
      refine lv_bipush (v := 16) hx hb dX7_loadFrom_44 rfl ?_
      refine lv_iadd hx hb dX7_loadFrom_46 ?_
      obtain ⟨r47, er47, h⟩ := av_bd h
      refine av_il E X hR ha1 er47 dX7_loadFrom_47 ?_
      obtain ⟨μ48, eμ48, h⟩ := av_bd h
      replace eμ48 := Option.some.inj eμ48
      refine pf_X7_35 E X hR hq dX7_loadFrom_48 eμ48 (fun H locs hR => ?_)
      refine lv_aload_n hx hb dX7_loadFrom_51 rfl (lv_at hl 0 rfl) ?_
      refine lv_aload_n hx hb dX7_loadFrom_52 rfl (lv_at hl 1 rfl) ?_
      refine lv_iload_n hx hb dX7_loadFrom_53 rfl (lv_at hl 2 rfl) ?_
      refine lv_bipush (v := 16) hx hb dX7_loadFrom_54 rfl ?_
      refine lv_iadd hx hb dX7_loadFrom_56 ?_
      refine lv_iconst (v := 1) hx hb dX7_loadFrom_57 rfl ?_
      refine lv_iadd hx hb dX7_loadFrom_58 ?_
      obtain ⟨r59, er59, h⟩ := av_bd h
      refine av_il E X hR ha1 er59 dX7_loadFrom_59 ?_
      obtain ⟨μ60, eμ60, h⟩ := av_bd h
      replace eμ60 := Option.some.inj eμ60
      refine pf_X7_18 E X hR hq dX7_loadFrom_60 eμ60 (fun H locs hR => ?_)
      refine lv_aload_n hx hb dX7_loadFrom_63 rfl (lv_at hl 0 rfl) ?_
      refine lv_aload_n hx hb dX7_loadFrom_64 rfl (lv_at hl 1 rfl) ?_
      refine lv_iload_n hx hb dX7_loadFrom_65 rfl (lv_at hl 2 rfl) ?_
      refine lv_bipush (v := 16) hx hb dX7_loadFrom_66 rfl ?_
      refine lv_iadd hx hb dX7_loadFrom_68 ?_
      refine lv_iconst (v := 2) hx hb dX7_loadFrom_69 rfl ?_
      refine lv_iadd hx hb dX7_loadFrom_70 ?_
      obtain ⟨r71, er71, h⟩ := av_bd h
      refine av_il E X hR ha1 er71 dX7_loadFrom_71 ?_
      obtain ⟨μ72, eμ72, h⟩ := av_bd h
      replace eμ72 := Option.some.inj eμ72
      refine pf_X7_38 E X hR hq dX7_loadFrom_72 eμ72 (fun H locs hR => ?_)
      exact av_rv E hR (Option.some.inj h) dX7_loadFrom_75
    · have h := av_if c10 h
      exact av_rv E hR (Option.some.inj h) dX7_loadFrom_13

set_option maxHeartbeats 4000000 in
set_option maxRecDepth 100000 in
theorem CX9_copyFrom (l : Launch) (g : Gl) {q : Nat} {a1 : Nat} (hq : av_t av_wc q 9) (ha1 : av_t av_wc a1 9) {μ : Mem} {zm : Mem} (h : fX9_copyFrom q a1 μ = some zm) : av_MV l yX9_copyFrom cX9_copyFrom 2 2 none av_wc g [.ref (g.2.2 q), .ref (g.2.2 a1)] μ zm := by
  refine av_ent (own := RX9) (by decide) (Nat.le_of_ble_eq_true rfl) rfl (fun p e s m args below meth c E X hR ls hl => ?_)
  have hl : lv_has ls 2 [(0, .ref (g.2.2 q)), (1, .ref (g.2.2 a1))] := hl
  obtain ⟨hx, hb, hr, hml, hown, hts, hlocks⟩ := id E
  unfold fX9_copyFrom at h
  refine lv_aload_n hx hb dX9_copyFrom_0 rfl (lv_at hl 0 rfl) ?_
  refine lv_aload_n hx hb dX9_copyFrom_1 rfl (lv_at hl 1 rfl) ?_
  refine gf_X9_31 E X hR ha1 dX9_copyFrom_2 ?_
  obtain ⟨μ5, eμ5, h⟩ := av_bd h
  replace eμ5 := Option.some.inj eμ5
  refine pf_X9_31 E X hR hq dX9_copyFrom_5 eμ5 (fun H locs hR => ?_)
  refine lv_aload_n hx hb dX9_copyFrom_8 rfl (lv_at hl 1 rfl) ?_
  refine gf_X9_9 E X hR ha1 dX9_copyFrom_9 rfl ?_
  refine lv_iconst (v := 0) hx hb dX9_copyFrom_12 rfl ?_
  refine lv_aload_n hx hb dX9_copyFrom_13 rfl (lv_at hl 0 rfl) ?_
  refine gf_X9_9 E X hR hq dX9_copyFrom_14 rfl ?_
  refine lv_iconst (v := 0) hx hb dX9_copyFrom_17 rfl ?_
  refine lv_bipush (v := 8) hx hb dX9_copyFrom_18 rfl ?_
  obtain ⟨μ20, eμ20, h⟩ := av_bd h
  refine av_cp E X hR hl.1 kM_X9_35 (av_ty_9_2 ha1) (av_ty_9_2 hq) eμ20 (by decide) (by decide) dX9_copyFrom_20 (fun H locs hR => ?_)
  refine lv_aload_n hx hb dX9_copyFrom_23 rfl (lv_at hl 1 rfl) ?_
  refine gf_X9_15 E X hR ha1 dX9_copyFrom_24 rfl ?_
  refine lv_iconst (v := 0) hx hb dX9_copyFrom_27 rfl ?_
  refine lv_aload_n hx hb dX9_copyFrom_28 rfl (lv_at hl 0 rfl) ?_
  refine gf_X9_15 E X hR hq dX9_copyFrom_29 rfl ?_
  refine lv_iconst (v := 0) hx hb dX9_copyFrom_32 rfl ?_
  refine lv_bipush (v := 8) hx hb dX9_copyFrom_33 rfl ?_
  obtain ⟨μ35, eμ35, h⟩ := av_bd h
  refine av_cp E X hR hl.1 kM_X9_35 (av_ty_9_3 ha1) (av_ty_9_3 hq) eμ35 (by decide) (by decide) dX9_copyFrom_35 (fun H locs hR => ?_)
  refine lv_aload_n hx hb dX9_copyFrom_38 rfl (lv_at hl 0 rfl) ?_
  refine lv_aload_n hx hb dX9_copyFrom_39 rfl (lv_at hl 1 rfl) ?_
  refine gf_X9_41 E X hR ha1 dX9_copyFrom_40 ?_
  obtain ⟨μ43, eμ43, h⟩ := av_bd h
  replace eμ43 := Option.some.inj eμ43
  refine pf_X9_41 E X hR hq dX9_copyFrom_43 eμ43 (fun H locs hR => ?_)
  refine lv_aload_n hx hb dX9_copyFrom_46 rfl (lv_at hl 1 rfl) ?_
  refine gf_X9_18 E X hR ha1 dX9_copyFrom_47 rfl ?_
  refine lv_iconst (v := 0) hx hb dX9_copyFrom_50 rfl ?_
  refine lv_aload_n hx hb dX9_copyFrom_51 rfl (lv_at hl 0 rfl) ?_
  refine gf_X9_18 E X hR hq dX9_copyFrom_52 rfl ?_
  refine lv_iconst (v := 0) hx hb dX9_copyFrom_55 rfl ?_
  refine lv_bipush (v := 6) hx hb dX9_copyFrom_56 rfl ?_
  obtain ⟨μ58, eμ58, h⟩ := av_bd h
  refine av_cp E X hR hl.1 kM_X9_35 (av_ty_9_5 ha1) (av_ty_9_5 hq) eμ58 (by decide) (by decide) dX9_copyFrom_58 (fun H locs hR => ?_)
  refine lv_aload_n hx hb dX9_copyFrom_61 rfl (lv_at hl 1 rfl) ?_
  refine gf_X9_21 E X hR ha1 dX9_copyFrom_62 rfl ?_
  refine lv_iconst (v := 0) hx hb dX9_copyFrom_65 rfl ?_
  refine lv_aload_n hx hb dX9_copyFrom_66 rfl (lv_at hl 0 rfl) ?_
  refine gf_X9_21 E X hR hq dX9_copyFrom_67 rfl ?_
  refine lv_iconst (v := 0) hx hb dX9_copyFrom_70 rfl ?_
  refine lv_bipush (v := 6) hx hb dX9_copyFrom_71 rfl ?_
  obtain ⟨μ73, eμ73, h⟩ := av_bd h
  refine av_cp E X hR hl.1 kM_X9_35 (av_ty_9_6 ha1) (av_ty_9_6 hq) eμ73 (by decide) (by decide) dX9_copyFrom_73 (fun H locs hR => ?_)
  refine lv_aload_n hx hb dX9_copyFrom_76 rfl (lv_at hl 1 rfl) ?_
  refine gf_X9_24 E X hR ha1 dX9_copyFrom_77 rfl ?_
  refine lv_iconst (v := 0) hx hb dX9_copyFrom_80 rfl ?_
  refine lv_aload_n hx hb dX9_copyFrom_81 rfl (lv_at hl 0 rfl) ?_
  refine gf_X9_24 E X hR hq dX9_copyFrom_82 rfl ?_
  refine lv_iconst (v := 0) hx hb dX9_copyFrom_85 rfl ?_
  refine lv_bipush (v := 6) hx hb dX9_copyFrom_86 rfl ?_
  obtain ⟨μ88, eμ88, h⟩ := av_bd h
  refine av_cp E X hR hl.1 kM_X9_35 (av_ty_9_7 ha1) (av_ty_9_7 hq) eμ88 (by decide) (by decide) dX9_copyFrom_88 (fun H locs hR => ?_)
  exact av_rv E hR (Option.some.inj h) dX9_copyFrom_91
