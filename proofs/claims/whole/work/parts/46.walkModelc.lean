set_option maxHeartbeats 4000000 in
set_option maxRecDepth 100000 in
theorem tX12_leastHold_2 {p : Program} {l : Launch} {e : Env} {s : State} {m : MethodId} {args : Array Value} {below : List Frame} {meth : Method} {c : Code} {g : Gl} {zr : Int32} {μ0 : Mem} (E : av_E p s m args meth c cX12_leastHold RX12 2 (some .int)) (X : av_X av_wm g s) :
    ∀ (n : Nat) {x1 : Int32} {μ : Mem} {H : Heap} {locs : List Loc} {ls : Array Slot} (hμ : μ0 = μ), fX12_leastHold_2 n x1 μ = some zr → av_R av_wm g μ s H locs → lv_has ls 2 [(0, .ref (g.2.2 98)), (1, .int x1)] → W p l e (rmN 2) s m args below meth c H locs 0 0 (MQ below (va_Qi (fun r1 u => r1 = zr ∧ u = μ0) (av_B av_wm g) (av_A av_wm g)) args s 0 0 (av_A av_wm g)) (F0 m 2 ls []) := by
  obtain ⟨hx, hb, hr, hml, hown, hts, hlocks⟩ := id E
  intro n
  induction n with
  | zero =>
    intro x1 μ H locs ls hμ h hR hl
    cases h
  | succ n ih =>
    intro x1 μ H locs ls hμ h hR hl
    unfold fX12_leastHold_2 at h
    refine lv_iload_n hx hb dX12_leastHold_2 rfl (lv_at hl 1 rfl) ?_
    refine lv_bipush (v := 60) hx hb dX12_leastHold_3 rfl ?_
    refine lv_icmp_gt (tgt := 24) hx hb dX12_leastHold_5 (by decide) (fun c5 => ?_) (fun c5 => ?_)
    · have h := av_it c5 h
      refine lv_iconst (v := (-1)) hx hb dX12_leastHold_24 rfl ?_
      exact av_ri E hR ⟨Option.some.inj h, hμ.symm⟩ dX12_leastHold_25
    · have h := av_if c5 h
      refine lv_aload_n hx hb dX12_leastHold_8 rfl (lv_at hl 0 rfl) ?_
      refine lv_iload_n hx hb dX12_leastHold_9 rfl (lv_at hl 1 rfl) ?_
      obtain ⟨r10, er10, h⟩ := av_bd h
      refine av_goI hR (av_cV (As := [.int x1]) (rest := []) E X hR hl.1 (CX12_canHold l g er10) kk_X12_218 (av_room (by omega) (by decide)) av_t98 (by decide) rfl rfl (Nat.le_of_ble_eq_true rfl) ⟨Nat.zero_le _, Nat.zero_le _⟩ dX12_leastHold_10) (fun H locs hR => ?_)
      refine lv_if_eq (tgt := 18) hx hb dX12_leastHold_13 (by decide) (fun c13 => ?_) (fun c13 => ?_)
      · have h := av_it c13 h
        obtain ⟨x1_18, ex1_18, h⟩ := av_bd h
        replace ex1_18 := Option.some.inj ex1_18
        refine lv_iinc (v := x1_18) (lv' := [(1, .int x1_18), (0, .ref (g.2.2 98))]) hx hb dX12_leastHold_18 hl (k := 1) rfl ex1_18 (by decide) rfl (fun ls hl => ?_)
        refine lv_goto (tgt := 2) hx hb dX12_leastHold_21 (by decide) ?_
        exact ih hμ h hR (lv_sub hl [1, 0] rfl)
      · have h := av_if c13 h
        refine lv_iload_n hx hb dX12_leastHold_16 rfl (lv_at hl 1 rfl) ?_
        exact av_ri E hR ⟨Option.some.inj h, hμ.symm⟩ dX12_leastHold_17

set_option maxHeartbeats 4000000 in
set_option maxRecDepth 100000 in
theorem CX12_leastHold (l : Launch) (g : Gl) {μ : Mem} {zr : Int32} (h : fX12_leastHold μ = some zr) : av_MI l yX12_leastHold cX12_leastHold 2 2 (some .int) av_wm g [.ref (g.2.2 98)] μ zr μ := by
  refine av_ent (own := RX12) (by decide) (Nat.le_of_ble_eq_true rfl) rfl (fun p e s m args below meth c E X hR ls hl => ?_)
  have hl : lv_has ls 2 [(0, .ref (g.2.2 98))] := hl
  obtain ⟨hx, hb, hr, hml, hown, hts, hlocks⟩ := id E
  have hμ : μ = μ := rfl
  unfold fX12_leastHold at h
  refine lv_iconst (v := 1) hx hb dX12_leastHold_0 rfl ?_
  refine lv_istore_n (lv' := [(1, .int 1), (0, .ref (g.2.2 98))]) hx hb dX12_leastHold_1 rfl hl (by decide) rfl (fun ls hl => ?_)
  exact tX12_leastHold_2 E X _ hμ h hR (lv_sub hl [1, 0] rfl)

set_option maxHeartbeats 4000000 in
set_option maxRecDepth 100000 in
theorem CX12_hold (l : Launch) (g : Gl) {a1 : Int32} {μ : Mem} {zr : Int32} {zm : Mem} (h : fX12_hold a1 μ = some (zr, zm)) : av_MI l yX12_hold cX12_hold 2 3 (some .int) av_wm g [.ref (g.2.2 98), .int a1] μ zr zm := by
  refine av_ent (own := RX12) (by decide) (Nat.le_of_ble_eq_true rfl) rfl (fun p e s m args below meth c E X hR ls hl => ?_)
  have hl : lv_has ls 2 [(0, .ref (g.2.2 98)), (1, .int a1)] := hl
  obtain ⟨hx, hb, hr, hml, hown, hts, hlocks⟩ := id E
  unfold fX12_hold at h
  refine lv_iload_n hx hb dX12_hold_0 rfl (lv_at hl 1 rfl) ?_
  refine lv_i2l hx hb dX12_hold_1 rfl ?_
  refine lv_lconst (v := 0) hx hb dX12_hold_2 rfl ?_
  refine lv_lconst (v := 1) hx hb dX12_hold_3 rfl ?_
  obtain ⟨r4, er4, h⟩ := av_bd h
  refine av_goI hR (av_cS (As := [.long (Int32.toInt64 a1), .long 0, .long 1]) (rest := []) E X hR hl.1 (CX12_in l g er4) kk_X12_68 (av_room (by omega) (by decide)) rfl (Nat.le_of_ble_eq_true rfl) ⟨Nat.zero_le _, Nat.zero_le _⟩ dX12_hold_4) (fun H locs hR => ?_)
  refine lv_if_ne (tgt := 19) hx hb dX12_hold_7 (by decide) (fun c7 => ?_) (fun c7 => ?_)
  · have h := av_if c7 h
    refine lv_iload_n hx hb dX12_hold_19 rfl (lv_at hl 1 rfl) ?_
    refine lv_if_ne (tgt := 31) hx hb dX12_hold_20 (by decide) (fun c20 => ?_) (fun c20 => ?_)
    · have h := av_if c20 h
      refine lv_aload_n hx hb dX12_hold_31 rfl (lv_at hl 0 rfl) ?_
      obtain ⟨r32, er32, h⟩ := av_bd h
      refine av_goI hR (av_cV (As := []) (rest := []) E X hR hl.1 (CX12_leastHold l g er32) kk_X12_224 (av_room (by omega) (by decide)) av_t98 (by decide) rfl rfl (Nat.le_of_ble_eq_true rfl) ⟨Nat.zero_le _, Nat.zero_le _⟩ dX12_hold_32) (fun H locs hR => ?_)
      exact av_ri E hR (av_r2 h) dX12_hold_35
    · have h := av_it c20 h
      refine lv_aload_n hx hb dX12_hold_23 rfl (lv_at hl 0 rfl) ?_
      refine lv_iconst (v := 0) hx hb dX12_hold_24 rfl ?_
      obtain ⟨r25, er25, h⟩ := av_bd h
      refine av_goI hR (av_cV (As := [.int 0]) (rest := []) E X hR hl.1 (CX12_manyFrom l g er25) kk_X12_221 (av_room (by omega) (by decide)) av_t98 (by decide) rfl rfl (Nat.le_of_ble_eq_true rfl) ⟨Nat.zero_le _, Nat.zero_le _⟩ dX12_hold_25) (fun H locs hR => ?_)
      refine lv_goto (tgt := 35) hx hb dX12_hold_28 (by decide) ?_
      exact av_ri E hR (av_r2 h) dX12_hold_35
  · have h := av_it c7 h
    refine lv_aload_n hx hb dX12_hold_10 rfl (lv_at hl 0 rfl) ?_
    refine lv_bipush (v := (-10)) hx hb dX12_hold_11 rfl ?_
    obtain ⟨r13, μ13, er13, h⟩ := av_bd2 h
    refine av_goI hR (av_cV (As := [.int (-10)]) (rest := []) E X hR hl.1 (CX12_bad l g er13) kk_X12_81 (av_room (by omega) (by decide)) av_t98 (by decide) rfl rfl (Nat.le_of_ble_eq_true rfl) ⟨Nat.zero_le _, Nat.zero_le _⟩ dX12_hold_13) (fun H locs hR => ?_)
    refine lv_goto (tgt := 35) hx hb dX12_hold_16 (by decide) ?_
    exact av_ri E hR (av_r2 h) dX12_hold_35

set_option maxHeartbeats 4000000 in
set_option maxRecDepth 100000 in
theorem tX12_stick_85 {p : Program} {l : Launch} {e : Env} {s : State} {m : MethodId} {args : Array Value} {below : List Frame} {meth : Method} {c : Code} {g : Gl} {zr : Int32} {μ0 : Mem} (E : av_E p s m args meth c cX12_stick RX12 7 (some .int)) (X : av_X av_wm g s) :
    ∀ {x2 : Int32} {μ : Mem} {H : Heap} {locs : List Loc} {ls : Array Slot} (hμ : μ0 = μ), fX12_stick_85 x2 μ = some zr → av_R av_wm g μ s H locs → lv_has ls 7 [(2, .int x2)] → W p l e (rmN 3) s m args below meth c H locs 0 0 (MQ below (va_Qi (fun r1 u => r1 = zr ∧ u = μ0) (av_B av_wm g) (av_A av_wm g)) args s 0 0 (av_A av_wm g)) (F0 m 85 ls []) := by
  obtain ⟨hx, hb, hr, hml, hown, hts, hlocks⟩ := id E
  intro x2 μ H locs ls hμ h hR hl
  unfold fX12_stick_85 at h
  refine lv_iload_n hx hb dX12_stick_85 rfl (lv_at hl 0 rfl) ?_
  exact av_ri E hR ⟨Option.some.inj h, hμ.symm⟩ dX12_stick_86

set_option maxHeartbeats 4000000 in
set_option maxRecDepth 100000 in
theorem tX12_stick_78 {p : Program} {l : Launch} {e : Env} {s : State} {m : MethodId} {args : Array Value} {below : List Frame} {meth : Method} {c : Code} {g : Gl} {zr : Int32} {μ0 : Mem} (E : av_E p s m args meth c cX12_stick RX12 7 (some .int)) (X : av_X av_wm g s) {k14 : Int32 → Int32 → Int32 → Int32 → Mem → Option (Int32)} (hk14 : ∀ {x1 : Int32} {x2 : Int32} {x3 : Int32} {x4 : Int32} {μ : Mem} {H : Heap} {locs : List Loc} {ls : Array Slot} (hμ : μ0 = μ), k14 x1 x2 x3 x4 μ = some zr → av_R av_wm g μ s H locs → lv_has ls 7 [(0, .ref (g.2.2 98)), (1, .int x1), (2, .int x2), (3, .int x3), (4, .int x4)] → W p l e (rmN 3) s m args below meth c H locs 0 0 (MQ below (va_Qi (fun r1 u => r1 = zr ∧ u = μ0) (av_B av_wm g) (av_A av_wm g)) args s 0 0 (av_A av_wm g)) (F0 m 14 ls [])) :
    ∀ {x1 : Int32} {x2 : Int32} {x4 : Int32} {y0 : Int32} {μ : Mem} {H : Heap} {locs : List Loc} {ls : Array Slot} (hμ : μ0 = μ), fX12_stick_78 k14 x1 x2 x4 y0 μ = some zr → av_R av_wm g μ s H locs → lv_has ls 7 [(0, .ref (g.2.2 98)), (1, .int x1), (2, .int x2), (4, .int x4)] → W p l e (rmN 3) s m args below meth c H locs 0 0 (MQ below (va_Qi (fun r1 u => r1 = zr ∧ u = μ0) (av_B av_wm g) (av_A av_wm g)) args s 0 0 (av_A av_wm g)) (F0 m 78 ls [.int y0]) := by
  obtain ⟨hx, hb, hr, hml, hown, hts, hlocks⟩ := id E
  intro x1 x2 x4 y0 μ H locs ls hμ h hR hl
  unfold fX12_stick_78 at h
  refine lv_istore_n (lv' := [(3, .int y0), (0, .ref (g.2.2 98)), (1, .int x1), (2, .int x2), (4, .int x4)]) hx hb dX12_stick_78 rfl hl (by decide) rfl (fun ls hl => ?_)
  obtain ⟨x4_79, ex4_79, h⟩ := av_bd h
  replace ex4_79 := Option.some.inj ex4_79
  refine lv_iinc (v := x4_79) (lv' := [(4, .int x4_79), (3, .int y0), (0, .ref (g.2.2 98)), (1, .int x1), (2, .int x2)]) hx hb dX12_stick_79 hl (k := 4) rfl ex4_79 (by decide) rfl (fun ls hl => ?_)
  refine lv_goto (tgt := 14) hx hb dX12_stick_82 (by decide) ?_
  exact hk14 hμ h hR (lv_sub hl [2, 3, 4, 1, 0] rfl)

set_option maxHeartbeats 4000000 in
set_option maxRecDepth 100000 in
theorem tX12_stick_65 {p : Program} {l : Launch} {e : Env} {s : State} {m : MethodId} {args : Array Value} {below : List Frame} {meth : Method} {c : Code} {g : Gl} {zr : Int32} {μ0 : Mem} (E : av_E p s m args meth c cX12_stick RX12 7 (some .int)) (X : av_X av_wm g s) {k14 : Int32 → Int32 → Int32 → Int32 → Mem → Option (Int32)} (hk14 : ∀ {x1 : Int32} {x2 : Int32} {x3 : Int32} {x4 : Int32} {μ : Mem} {H : Heap} {locs : List Loc} {ls : Array Slot} (hμ : μ0 = μ), k14 x1 x2 x3 x4 μ = some zr → av_R av_wm g μ s H locs → lv_has ls 7 [(0, .ref (g.2.2 98)), (1, .int x1), (2, .int x2), (3, .int x3), (4, .int x4)] → W p l e (rmN 3) s m args below meth c H locs 0 0 (MQ below (va_Qi (fun r1 u => r1 = zr ∧ u = μ0) (av_B av_wm g) (av_A av_wm g)) args s 0 0 (av_A av_wm g)) (F0 m 14 ls [])) :
    ∀ {x1 : Int32} {x3 : Int32} {x4 : Int32} {x6 : Int32} {y0 : Int32} {μ : Mem} {H : Heap} {locs : List Loc} {ls : Array Slot} (hμ : μ0 = μ), fX12_stick_65 k14 x1 x3 x4 x6 y0 μ = some zr → av_R av_wm g μ s H locs → lv_has ls 7 [(0, .ref (g.2.2 98)), (1, .int x1), (3, .int x3), (4, .int x4), (6, .int x6)] → W p l e (rmN 3) s m args below meth c H locs 0 0 (MQ below (va_Qi (fun r1 u => r1 = zr ∧ u = μ0) (av_B av_wm g) (av_A av_wm g)) args s 0 0 (av_A av_wm g)) (F0 m 65 ls [.int y0]) := by
  obtain ⟨hx, hb, hr, hml, hown, hts, hlocks⟩ := id E
  intro x1 x3 x4 x6 y0 μ H locs ls hμ h hR hl
  unfold fX12_stick_65 at h
  refine lv_istore_n (lv' := [(2, .int y0), (0, .ref (g.2.2 98)), (1, .int x1), (3, .int x3), (4, .int x4), (6, .int x6)]) hx hb dX12_stick_65 rfl hl (by decide) rfl (fun ls hl => ?_)
  refine lv_iload hx hb dX12_stick_66 (lv_at hl 5 rfl) ?_
  refine lv_iload_n hx hb dX12_stick_68 rfl (lv_at hl 3 rfl) ?_
  refine lv_icmp_ge (tgt := 77) hx hb dX12_stick_69 (by decide) (fun c69 => ?_) (fun c69 => ?_)
  · have h := av_it c69 h
    refine lv_iload_n hx hb dX12_stick_77 rfl (lv_at hl 3 rfl) ?_
    exact tX12_stick_78 E X hk14 hμ h hR (lv_sub hl [1, 2, 0, 4] rfl)
  · have h := av_if c69 h
    refine lv_iload hx hb dX12_stick_72 (lv_at hl 5 rfl) ?_
    refine lv_goto (tgt := 78) hx hb dX12_stick_74 (by decide) ?_
    exact tX12_stick_78 E X hk14 hμ h hR (lv_sub hl [1, 2, 0, 4] rfl)

set_option maxHeartbeats 4000000 in
set_option maxRecDepth 100000 in
theorem tX12_stick_51 {p : Program} {l : Launch} {e : Env} {s : State} {m : MethodId} {args : Array Value} {below : List Frame} {meth : Method} {c : Code} {g : Gl} {zr : Int32} {μ0 : Mem} (E : av_E p s m args meth c cX12_stick RX12 7 (some .int)) (X : av_X av_wm g s) {k14 : Int32 → Int32 → Int32 → Int32 → Mem → Option (Int32)} (hk14 : ∀ {x1 : Int32} {x2 : Int32} {x3 : Int32} {x4 : Int32} {μ : Mem} {H : Heap} {locs : List Loc} {ls : Array Slot} (hμ : μ0 = μ), k14 x1 x2 x3 x4 μ = some zr → av_R av_wm g μ s H locs → lv_has ls 7 [(0, .ref (g.2.2 98)), (1, .int x1), (2, .int x2), (3, .int x3), (4, .int x4)] → W p l e (rmN 3) s m args below meth c H locs 0 0 (MQ below (va_Qi (fun r1 u => r1 = zr ∧ u = μ0) (av_B av_wm g) (av_A av_wm g)) args s 0 0 (av_A av_wm g)) (F0 m 14 ls [])) :
    ∀ {x1 : Int32} {x2 : Int32} {x3 : Int32} {x4 : Int32} {y0 : Int32} {μ : Mem} {H : Heap} {locs : List Loc} {ls : Array Slot} (hμ : μ0 = μ), fX12_stick_51 k14 x1 x2 x3 x4 y0 μ = some zr → av_R av_wm g μ s H locs → lv_has ls 7 [(0, .ref (g.2.2 98)), (1, .int x1), (2, .int x2), (3, .int x3), (4, .int x4)] → W p l e (rmN 3) s m args below meth c H locs 0 0 (MQ below (va_Qi (fun r1 u => r1 = zr ∧ u = μ0) (av_B av_wm g) (av_A av_wm g)) args s 0 0 (av_A av_wm g)) (F0 m 51 ls [.int y0]) := by
  obtain ⟨hx, hb, hr, hml, hown, hts, hlocks⟩ := id E
  intro x1 x2 x3 x4 y0 μ H locs ls hμ h hR hl
  unfold fX12_stick_51 at h
  refine lv_istore (lv' := [(6, .int y0), (0, .ref (g.2.2 98)), (1, .int x1), (2, .int x2), (3, .int x3), (4, .int x4)]) hx hb dX12_stick_51 hl (by decide) rfl (fun ls hl => ?_)
  refine lv_iload hx hb dX12_stick_53 (lv_at hl 0 rfl) ?_
  refine lv_iload_n hx hb dX12_stick_55 rfl (lv_at hl 4 rfl) ?_
  refine lv_icmp_ge (tgt := 64) hx hb dX12_stick_56 (by decide) (fun c56 => ?_) (fun c56 => ?_)
  · have h := av_it c56 h
    refine lv_iload_n hx hb dX12_stick_64 rfl (lv_at hl 3 rfl) ?_
    exact tX12_stick_65 E X hk14 hμ h hR (lv_sub hl [1, 2, 4, 5, 0] rfl)
  · have h := av_if c56 h
    refine lv_iload hx hb dX12_stick_59 (lv_at hl 5 rfl) ?_
    refine lv_goto (tgt := 65) hx hb dX12_stick_61 (by decide) ?_
    exact tX12_stick_65 E X hk14 hμ h hR (lv_sub hl [1, 2, 4, 5, 0] rfl)

set_option maxHeartbeats 4000000 in
set_option maxRecDepth 100000 in
theorem tX12_stick_14 {p : Program} {l : Launch} {e : Env} {s : State} {m : MethodId} {args : Array Value} {below : List Frame} {meth : Method} {c : Code} {g : Gl} {zr : Int32} {μ0 : Mem} (E : av_E p s m args meth c cX12_stick RX12 7 (some .int)) (X : av_X av_wm g s) :
    ∀ (n : Nat) {x1 : Int32} {x2 : Int32} {x3 : Int32} {x4 : Int32} {μ : Mem} {H : Heap} {locs : List Loc} {ls : Array Slot} (hμ : μ0 = μ), fX12_stick_14 n x1 x2 x3 x4 μ = some zr → av_R av_wm g μ s H locs → lv_has ls 7 [(0, .ref (g.2.2 98)), (1, .int x1), (2, .int x2), (3, .int x3), (4, .int x4)] → W p l e (rmN 3) s m args below meth c H locs 0 0 (MQ below (va_Qi (fun r1 u => r1 = zr ∧ u = μ0) (av_B av_wm g) (av_A av_wm g)) args s 0 0 (av_A av_wm g)) (F0 m 14 ls []) := by
  obtain ⟨hx, hb, hr, hml, hown, hts, hlocks⟩ := id E
  intro n
  induction n with
  | zero =>
    intro x1 x2 x3 x4 μ H locs ls hμ h hR hl
    cases h
  | succ n ih =>
    intro x1 x2 x3 x4 μ H locs ls hμ h hR hl
    unfold fX12_stick_14 at h
    refine lv_iload hx hb dX12_stick_14 (lv_at hl 4 rfl) ?_
    refine lv_bipush (v := 60) hx hb dX12_stick_16 rfl ?_
    refine lv_icmp_gt (tgt := 85) hx hb dX12_stick_18 (by decide) (fun c18 => ?_) (fun c18 => ?_)
    · have h := av_it c18 h
      exact tX12_stick_85 E X hμ h hR (lv_sub hl [2] rfl)
    · have h := av_if c18 h
      refine lv_iload_n hx hb dX12_stick_21 rfl (lv_at hl 1 rfl) ?_
      refine lv_if_le (tgt := 85) hx hb dX12_stick_22 (by decide) (fun c22 => ?_) (fun c22 => ?_)
      · have h := av_it c22 h
        exact tX12_stick_85 E X hμ h hR (lv_sub hl [2] rfl)
      · have h := av_if c22 h
        refine lv_aload_n hx hb dX12_stick_25 rfl (lv_at hl 0 rfl) ?_
        refine lv_iload hx hb dX12_stick_26 (lv_at hl 4 rfl) ?_
        obtain ⟨r28, er28, h⟩ := av_bd h
        refine av_goI hR (av_cV (As := [.int x4]) (rest := []) E X hR hl.1 (CX12_manyFrom l g er28) kk_X12_221 (av_room (by omega) (by decide)) av_t98 (by decide) rfl rfl (Nat.le_of_ble_eq_true rfl) ⟨Nat.zero_le _, Nat.zero_le _⟩ dX12_stick_28) (fun H locs hR => ?_)
        refine lv_istore (lv' := [(5, .int r28), (0, .ref (g.2.2 98)), (1, .int x1), (2, .int x2), (3, .int x3), (4, .int x4)]) hx hb dX12_stick_31 hl (by decide) rfl (fun ls hl => ?_)
        refine lv_iload hx hb dX12_stick_33 (lv_at hl 0 rfl) ?_
        refine lv_iload_n hx hb dX12_stick_35 rfl (lv_at hl 2 rfl) ?_
        refine lv_iload hx hb dX12_stick_36 (lv_at hl 0 rfl) ?_
        refine lv_isub hx hb dX12_stick_38 ?_
        refine lv_icmp_le (tgt := 47) hx hb dX12_stick_39 (by decide) (fun c39 => ?_) (fun c39 => ?_)
        · have h := av_it c39 h
          refine lv_iload_n hx hb dX12_stick_47 rfl (lv_at hl 2 rfl) ?_
          refine lv_iload hx hb dX12_stick_48 (lv_at hl 0 rfl) ?_
          refine lv_isub hx hb dX12_stick_50 ?_
          exact tX12_stick_51 E X ih hμ h hR (lv_sub hl [1, 2, 3, 4, 5] rfl)
        · have h := av_if c39 h
          refine lv_iload hx hb dX12_stick_42 (lv_at hl 0 rfl) ?_
          refine lv_goto (tgt := 51) hx hb dX12_stick_44 (by decide) ?_
          exact tX12_stick_51 E X ih hμ h hR (lv_sub hl [1, 2, 3, 4, 5] rfl)

set_option maxHeartbeats 4000000 in
set_option maxRecDepth 100000 in
theorem CX12_stick (l : Launch) (g : Gl) {μ : Mem} {zr : Int32} (h : fX12_stick μ = some zr) : av_MI l yX12_stick cX12_stick 7 3 (some .int) av_wm g [.ref (g.2.2 98)] μ zr μ := by
  refine av_ent (own := RX12) (by decide) (Nat.le_of_ble_eq_true rfl) rfl (fun p e s m args below meth c E X hR ls hl => ?_)
  have hl : lv_has ls 7 [(0, .ref (g.2.2 98))] := hl
  obtain ⟨hx, hb, hr, hml, hown, hts, hlocks⟩ := id E
  have hμ : μ = μ := rfl
  unfold fX12_stick at h
  refine lv_aload_n hx hb dX12_stick_0 rfl (lv_at hl 0 rfl) ?_
  refine lv_iconst (v := 0) hx hb dX12_stick_1 rfl ?_
  obtain ⟨r2, er2, h⟩ := av_bd h
  refine av_goI hR (av_cV (As := [.int 0]) (rest := []) E X hR hl.1 (CX12_manyFrom l g er2) kk_X12_221 (av_room (by omega) (by decide)) av_t98 (by decide) rfl rfl (Nat.le_of_ble_eq_true rfl) ⟨Nat.zero_le _, Nat.zero_le _⟩ dX12_stick_2) (fun H locs hR => ?_)
  refine lv_istore_n (lv' := [(1, .int r2), (0, .ref (g.2.2 98))]) hx hb dX12_stick_5 rfl hl (by decide) rfl (fun ls hl => ?_)
  refine lv_iconst (v := (-1)) hx hb dX12_stick_6 rfl ?_
  refine lv_istore_n (lv' := [(2, .int (-1)), (1, .int r2), (0, .ref (g.2.2 98))]) hx hb dX12_stick_7 rfl hl (by decide) rfl (fun ls hl => ?_)
  refine lv_ldc (v := 1000000) hx hb hown (hts _ kK_X12_227) dX12_stick_8 ?_
  refine lv_istore_n (lv' := [(3, .int 1000000), (2, .int (-1)), (1, .int r2), (0, .ref (g.2.2 98))]) hx hb dX12_stick_10 rfl hl (by decide) rfl (fun ls hl => ?_)
  refine lv_iconst (v := 0) hx hb dX12_stick_11 rfl ?_
  refine lv_istore (lv' := [(4, .int 0), (3, .int 1000000), (2, .int (-1)), (1, .int r2), (0, .ref (g.2.2 98))]) hx hb dX12_stick_12 hl (by decide) rfl (fun ls hl => ?_)
  exact tX12_stick_14 E X _ hμ h hR (lv_sub hl [4, 3, 2, 1, 0] rfl)

set_option maxHeartbeats 4000000 in
set_option maxRecDepth 100000 in
theorem tX12_is_112 {p : Program} {l : Launch} {e : Env} {s : State} {m : MethodId} {args : Array Value} {below : List Frame} {meth : Method} {c : Code} {g : Gl} {zr : Int32} {zm : Mem} (E : av_E p s m args meth c cX12_is RX12 7 (some .int)) (X : av_X av_wm g s) {k45 : Int32 → Int32 → Int32 → Int32 → Int32 → Mem → Option (Int32 × Mem)} (hk45 : ∀ {x1 : Int32} {x2 : Int32} {x3 : Int32} {x4 : Int32} {x5 : Int32} {μ : Mem} {H : Heap} {locs : List Loc} {ls : Array Slot}, k45 x1 x2 x3 x4 x5 μ = some (zr, zm) → av_R av_wm g μ s H locs → lv_has ls 7 [(0, .ref (g.2.2 98)), (1, .int x1), (2, .int x2), (3, .int x3), (4, .int x4), (5, .int x5)] → W p l e (rmN 4) s m args below meth c H locs 0 0 (MQ below (va_Qi (fun r1 u => r1 = zr ∧ u = zm) (av_B av_wm g) (av_A av_wm g)) args s 0 0 (av_A av_wm g)) (F0 m 45 ls [])) :
    ∀ {x1 : Int32} {x2 : Int32} {x3 : Int32} {x5 : Int32} {y0 : Int32} {y1 : Int32} {μ : Mem} {H : Heap} {locs : List Loc} {ls : Array Slot}, fX12_is_112 k45 x1 x2 x3 x5 y0 y1 μ = some (zr, zm) → av_R av_wm g μ s H locs → lv_has ls 7 [(0, .ref (g.2.2 98)), (1, .int x1), (2, .int x2), (3, .int x3), (5, .int x5)] → W p l e (rmN 4) s m args below meth c H locs 0 0 (MQ below (va_Qi (fun r1 u => r1 = zr ∧ u = zm) (av_B av_wm g) (av_A av_wm g)) args s 0 0 (av_A av_wm g)) (F0 m 112 ls [.int y1, .int y0]) := by
  obtain ⟨hx, hb, hr, hml, hown, hts, hlocks⟩ := id E
  intro x1 x2 x3 x5 y0 y1 μ H locs ls h hR hl
  unfold fX12_is_112 at h
  refine lv_ior hx hb dX12_is_112 ?_
  obtain ⟨x4_113, ex4_113, h⟩ := av_bd h
  replace ex4_113 := Option.some.inj ex4_113
  rw [ex4_113]
  refine lv_istore (lv' := [(4, .int x4_113), (0, .ref (g.2.2 98)), (1, .int x1), (2, .int x2), (3, .int x3), (5, .int x5)]) hx hb dX12_is_113 hl (by decide) rfl (fun ls hl => ?_)
  obtain ⟨x5_115, ex5_115, h⟩ := av_bd h
  replace ex5_115 := Option.some.inj ex5_115
  refine lv_iinc (v := x5_115) (lv' := [(5, .int x5_115), (4, .int x4_113), (0, .ref (g.2.2 98)), (1, .int x1), (2, .int x2), (3, .int x3)]) hx hb dX12_is_115 hl (k := 5) rfl ex5_115 (by decide) rfl (fun ls hl => ?_)
  refine lv_goto (tgt := 45) hx hb dX12_is_118 (by decide) ?_
  exact hk45 h hR (lv_sub hl [2, 3, 4, 5, 1, 0] rfl)

set_option maxHeartbeats 4000000 in
set_option maxRecDepth 100000 in
theorem tX12_is_95 {p : Program} {l : Launch} {e : Env} {s : State} {m : MethodId} {args : Array Value} {below : List Frame} {meth : Method} {c : Code} {g : Gl} {zr : Int32} {zm : Mem} (E : av_E p s m args meth c cX12_is RX12 7 (some .int)) (X : av_X av_wm g s) {k45 : Int32 → Int32 → Int32 → Int32 → Int32 → Mem → Option (Int32 × Mem)} (hk45 : ∀ {x1 : Int32} {x2 : Int32} {x3 : Int32} {x4 : Int32} {x5 : Int32} {μ : Mem} {H : Heap} {locs : List Loc} {ls : Array Slot}, k45 x1 x2 x3 x4 x5 μ = some (zr, zm) → av_R av_wm g μ s H locs → lv_has ls 7 [(0, .ref (g.2.2 98)), (1, .int x1), (2, .int x2), (3, .int x3), (4, .int x4), (5, .int x5)] → W p l e (rmN 4) s m args below meth c H locs 0 0 (MQ below (va_Qi (fun r1 u => r1 = zr ∧ u = zm) (av_B av_wm g) (av_A av_wm g)) args s 0 0 (av_A av_wm g)) (F0 m 45 ls [])) :
    ∀ {x1 : Int32} {x2 : Int32} {x3 : Int32} {x4 : Int32} {x5 : Int32} {y0 : Int32} {μ : Mem} {H : Heap} {locs : List Loc} {ls : Array Slot}, fX12_is_95 k45 x1 x2 x3 x4 x5 y0 μ = some (zr, zm) → av_R av_wm g μ s H locs → lv_has ls 7 [(0, .ref (g.2.2 98)), (1, .int x1), (2, .int x2), (3, .int x3), (4, .int x4), (5, .int x5)] → W p l e (rmN 4) s m args below meth c H locs 0 0 (MQ below (va_Qi (fun r1 u => r1 = zr ∧ u = zm) (av_B av_wm g) (av_A av_wm g)) args s 0 0 (av_A av_wm g)) (F0 m 95 ls [.int y0]) := by
  obtain ⟨hx, hb, hr, hml, hown, hts, hlocks⟩ := id E
  intro x1 x2 x3 x4 x5 y0 μ H locs ls h hR hl
  unfold fX12_is_95 at h
  refine lv_istore (lv' := [(6, .int y0), (0, .ref (g.2.2 98)), (1, .int x1), (2, .int x2), (3, .int x3), (4, .int x4), (5, .int x5)]) hx hb dX12_is_95 hl (by decide) rfl (fun ls hl => ?_)
  refine lv_iload hx hb dX12_is_97 (lv_at hl 5 rfl) ?_
  refine lv_iload hx hb dX12_is_99 (lv_at hl 0 rfl) ?_
  refine lv_if_eq (tgt := 111) hx hb dX12_is_101 (by decide) (fun c101 => ?_) (fun c101 => ?_)
  · have h := av_it c101 h
    refine lv_iconst (v := 0) hx hb dX12_is_111 rfl ?_
    exact tX12_is_112 E X hk45 h hR (lv_sub hl [1, 2, 3, 4, 6] rfl)
  · have h := av_if c101 h
    refine lv_iconst (v := 1) hx hb dX12_is_104 rfl ?_
    refine lv_iload hx hb dX12_is_105 (lv_at hl 6 rfl) ?_
    refine lv_ishl hx hb dX12_is_107 ?_
    refine lv_goto (tgt := 112) hx hb dX12_is_108 (by decide) ?_
    exact tX12_is_112 E X hk45 h hR (lv_sub hl [1, 2, 3, 4, 6] rfl)

set_option maxHeartbeats 4000000 in
set_option maxRecDepth 100000 in
theorem tX12_is_94 {p : Program} {l : Launch} {e : Env} {s : State} {m : MethodId} {args : Array Value} {below : List Frame} {meth : Method} {c : Code} {g : Gl} {zr : Int32} {zm : Mem} (E : av_E p s m args meth c cX12_is RX12 7 (some .int)) (X : av_X av_wm g s) {k45 : Int32 → Int32 → Int32 → Int32 → Int32 → Mem → Option (Int32 × Mem)} (hk45 : ∀ {x1 : Int32} {x2 : Int32} {x3 : Int32} {x4 : Int32} {x5 : Int32} {μ : Mem} {H : Heap} {locs : List Loc} {ls : Array Slot}, k45 x1 x2 x3 x4 x5 μ = some (zr, zm) → av_R av_wm g μ s H locs → lv_has ls 7 [(0, .ref (g.2.2 98)), (1, .int x1), (2, .int x2), (3, .int x3), (4, .int x4), (5, .int x5)] → W p l e (rmN 4) s m args below meth c H locs 0 0 (MQ below (va_Qi (fun r1 u => r1 = zr ∧ u = zm) (av_B av_wm g) (av_A av_wm g)) args s 0 0 (av_A av_wm g)) (F0 m 45 ls [])) :
    ∀ {x1 : Int32} {x2 : Int32} {x3 : Int32} {x4 : Int32} {x5 : Int32} {μ : Mem} {H : Heap} {locs : List Loc} {ls : Array Slot}, fX12_is_94 k45 x1 x2 x3 x4 x5 μ = some (zr, zm) → av_R av_wm g μ s H locs → lv_has ls 7 [(0, .ref (g.2.2 98)), (1, .int x1), (2, .int x2), (3, .int x3), (4, .int x4), (5, .int x5)] → W p l e (rmN 4) s m args below meth c H locs 0 0 (MQ below (va_Qi (fun r1 u => r1 = zr ∧ u = zm) (av_B av_wm g) (av_A av_wm g)) args s 0 0 (av_A av_wm g)) (F0 m 94 ls []) := by
  obtain ⟨hx, hb, hr, hml, hown, hts, hlocks⟩ := id E
  intro x1 x2 x3 x4 x5 μ H locs ls h hR hl
  unfold fX12_is_94 at h
  refine lv_iconst (v := 0) hx hb dX12_is_94 rfl ?_
  exact tX12_is_95 E X hk45 h hR (lv_sub hl [0, 1, 2, 3, 4, 5] rfl)

set_option maxHeartbeats 4000000 in
set_option maxRecDepth 100000 in
theorem tX12_is_45 {p : Program} {l : Launch} {e : Env} {s : State} {m : MethodId} {args : Array Value} {below : List Frame} {meth : Method} {c : Code} {g : Gl} {zr : Int32} {zm : Mem} (E : av_E p s m args meth c cX12_is RX12 7 (some .int)) (X : av_X av_wm g s) :
    ∀ (n : Nat) {x1 : Int32} {x2 : Int32} {x3 : Int32} {x4 : Int32} {x5 : Int32} {μ : Mem} {H : Heap} {locs : List Loc} {ls : Array Slot}, fX12_is_45 n x1 x2 x3 x4 x5 μ = some (zr, zm) → av_R av_wm g μ s H locs → lv_has ls 7 [(0, .ref (g.2.2 98)), (1, .int x1), (2, .int x2), (3, .int x3), (4, .int x4), (5, .int x5)] → W p l e (rmN 4) s m args below meth c H locs 0 0 (MQ below (va_Qi (fun r1 u => r1 = zr ∧ u = zm) (av_B av_wm g) (av_A av_wm g)) args s 0 0 (av_A av_wm g)) (F0 m 45 ls []) := by
  obtain ⟨hx, hb, hr, hml, hown, hts, hlocks⟩ := id E
  intro n
  induction n with
  | zero =>
    intro x1 x2 x3 x4 x5 μ H locs ls h hR hl
    cases h
  | succ n ih =>
    intro x1 x2 x3 x4 x5 μ H locs ls h hR hl
    unfold fX12_is_45 at h
    refine lv_iload hx hb dX12_is_45 (lv_at hl 5 rfl) ?_
    refine lv_bipush (v := 6) hx hb dX12_is_47 rfl ?_
    refine lv_icmp_ge (tgt := 121) hx hb dX12_is_49 (by decide) (fun c49 => ?_) (fun c49 => ?_)
    · have h := av_it c49 h
      refine lv_iload hx hb dX12_is_121 (lv_at hl 4 rfl) ?_
      exact av_ri E hR (av_r2 h) dX12_is_123
    · have h := av_if c49 h
      refine lv_aload_n hx hb dX12_is_52 rfl (lv_at hl 0 rfl) ?_
      refine lv_iload hx hb dX12_is_53 (lv_at hl 5 rfl) ?_
      refine lv_aload_n hx hb dX12_is_55 rfl (lv_at hl 0 rfl) ?_
      refine lv_iload_n hx hb dX12_is_56 rfl (lv_at hl 1 rfl) ?_
      refine lv_iconst (v := 1) hx hb dX12_is_57 rfl ?_
      obtain ⟨r58, er58, h⟩ := av_bd h
      refine av_goI hR (av_cV (As := [.int x1, .int 1]) (rest := [.int x5, .ref (g.2.2 98)]) E X hR hl.1 (CX12_tells l g er58) kk_X12_136 (av_room (by omega) (by decide)) av_t98 (by decide) rfl rfl (Nat.le_of_ble_eq_true rfl) ⟨Nat.zero_le _, Nat.zero_le _⟩ dX12_is_58) (fun H locs hR => ?_)
      refine lv_aload_n hx hb dX12_is_61 rfl (lv_at hl 0 rfl) ?_
      refine lv_iload_n hx hb dX12_is_62 rfl (lv_at hl 1 rfl) ?_
      refine lv_iconst (v := 2) hx hb dX12_is_63 rfl ?_
      obtain ⟨r64, er64, h⟩ := av_bd h
      refine av_goI hR (av_cV (As := [.int x1, .int 2]) (rest := [.int r58, .int x5, .ref (g.2.2 98)]) E X hR hl.1 (CX12_tells l g er64) kk_X12_136 (av_room (by omega) (by decide)) av_t98 (by decide) rfl rfl (Nat.le_of_ble_eq_true rfl) ⟨Nat.zero_le _, Nat.zero_le _⟩ dX12_is_64) (fun H locs hR => ?_)
      obtain ⟨r67, er67, h⟩ := av_bd h
      refine av_goI hR (av_cV (As := [.int x5, .int r58, .int r64]) (rest := []) E X hR hl.1 (CX12_where l g er67) kk_X12_139 (av_room (by omega) (by decide)) av_t98 (by decide) rfl rfl (Nat.le_of_ble_eq_true rfl) ⟨Nat.zero_le _, Nat.zero_le _⟩ dX12_is_67) (fun H locs hR => ?_)
      refine lv_iload_n hx hb dX12_is_70 rfl (lv_at hl 2 rfl) ?_
      refine lv_icmp_ne (tgt := 94) hx hb dX12_is_71 (by decide) (fun c71 => ?_) (fun c71 => ?_)
      · have h := av_if c71 h
        exact tX12_is_94 E X ih h hR (lv_sub hl [0, 1, 2, 3, 4, 5] rfl)
      · have h := av_it c71 h
        refine lv_aload_n hx hb dX12_is_74 rfl (lv_at hl 0 rfl) ?_
        refine lv_iload hx hb dX12_is_75 (lv_at hl 5 rfl) ?_
        refine lv_aload_n hx hb dX12_is_77 rfl (lv_at hl 0 rfl) ?_
        refine lv_iload_n hx hb dX12_is_78 rfl (lv_at hl 1 rfl) ?_
        refine lv_iconst (v := 2) hx hb dX12_is_79 rfl ?_
        obtain ⟨r80, er80, h⟩ := av_bd h
        refine av_goI hR (av_cV (As := [.int x1, .int 2]) (rest := [.int x5, .ref (g.2.2 98)]) E X hR hl.1 (CX12_tells l g er80) kk_X12_136 (av_room (by omega) (by decide)) av_t98 (by decide) rfl rfl (Nat.le_of_ble_eq_true rfl) ⟨Nat.zero_le _, Nat.zero_le _⟩ dX12_is_80) (fun H locs hR => ?_)
        obtain ⟨r83, er83, h⟩ := av_bd h
        refine av_goI hR (av_cV (As := [.int x5, .int r80]) (rest := []) E X hR hl.1 (CX12_heavy l g er83) kk_X12_129 (av_room (by omega) (by decide)) av_t98 (by decide) rfl rfl (Nat.le_of_ble_eq_true rfl) ⟨Nat.zero_le _, Nat.zero_le _⟩ dX12_is_83) (fun H locs hR => ?_)
        refine lv_iload_n hx hb dX12_is_86 rfl (lv_at hl 3 rfl) ?_
        refine lv_icmp_ne (tgt := 94) hx hb dX12_is_87 (by decide) (fun c87 => ?_) (fun c87 => ?_)
        · have h := av_if c87 h
          exact tX12_is_94 E X ih h hR (lv_sub hl [0, 1, 2, 3, 4, 5] rfl)
        · have h := av_it c87 h
          refine lv_iconst (v := 1) hx hb dX12_is_90 rfl ?_
          refine lv_goto (tgt := 95) hx hb dX12_is_91 (by decide) ?_
          exact tX12_is_95 E X ih h hR (lv_sub hl [0, 1, 2, 3, 4, 5] rfl)

set_option maxHeartbeats 4000000 in
set_option maxRecDepth 100000 in
theorem tX12_is_28 {p : Program} {l : Launch} {e : Env} {s : State} {m : MethodId} {args : Array Value} {below : List Frame} {meth : Method} {c : Code} {g : Gl} {zr : Int32} {zm : Mem} (E : av_E p s m args meth c cX12_is RX12 7 (some .int)) (X : av_X av_wm g s) :
    ∀ {μ : Mem} {H : Heap} {locs : List Loc} {ls : Array Slot}, fX12_is_28 μ = some (zr, zm) → av_R av_wm g μ s H locs → lv_has ls 7 [(0, .ref (g.2.2 98))] → W p l e (rmN 4) s m args below meth c H locs 0 0 (MQ below (va_Qi (fun r1 u => r1 = zr ∧ u = zm) (av_B av_wm g) (av_A av_wm g)) args s 0 0 (av_A av_wm g)) (F0 m 28 ls []) := by
  obtain ⟨hx, hb, hr, hml, hown, hts, hlocks⟩ := id E
  intro μ H locs ls h hR hl
  unfold fX12_is_28 at h
  refine lv_aload_n hx hb dX12_is_28 rfl (lv_at hl 0 rfl) ?_
  refine lv_bipush (v := (-2)) hx hb dX12_is_29 rfl ?_
  obtain ⟨r31, μ31, er31, h⟩ := av_bd2 h
  refine av_goI hR (av_cV (As := [.int (-2)]) (rest := []) E X hR hl.1 (CX12_bad l g er31) kk_X12_81 (av_room (by omega) (by decide)) av_t98 (by decide) rfl rfl (Nat.le_of_ble_eq_true rfl) ⟨Nat.zero_le _, Nat.zero_le _⟩ dX12_is_31) (fun H locs hR => ?_)
  exact av_ri E hR (av_r2 h) dX12_is_34

set_option maxHeartbeats 4000000 in
set_option maxRecDepth 100000 in
theorem CX12_is (l : Launch) (g : Gl) {a1 : Int32} {a2 : Int32} {a3 : Int32} {μ : Mem} {zr : Int32} {zm : Mem} (h : fX12_is a1 a2 a3 μ = some (zr, zm)) : av_MI l yX12_is cX12_is 7 4 (some .int) av_wm g [.ref (g.2.2 98), .int a1, .int a2, .int a3] μ zr zm := by
  refine av_ent (own := RX12) (by decide) (Nat.le_of_ble_eq_true rfl) rfl (fun p e s m args below meth c E X hR ls hl => ?_)
  have hl : lv_has ls 7 [(0, .ref (g.2.2 98)), (1, .int a1), (2, .int a2), (3, .int a3)] := hl
  obtain ⟨hx, hb, hr, hml, hown, hts, hlocks⟩ := id E
  unfold fX12_is at h
  refine lv_aload_n hx hb dX12_is_0 rfl (lv_at hl 0 rfl) ?_
  refine lv_iload_n hx hb dX12_is_1 rfl (lv_at hl 1 rfl) ?_
  obtain ⟨r2, er2, h⟩ := av_bd h
  refine av_goI hR (av_cV (As := [.int a1]) (rest := []) E X hR hl.1 (CX12_isVoter l g er2) kk_X12_155 (av_room (by omega) (by decide)) av_t98 (by decide) rfl rfl (Nat.le_of_ble_eq_true rfl) ⟨Nat.zero_le _, Nat.zero_le _⟩ dX12_is_2) (fun H locs hR => ?_)
  refine lv_if_eq (tgt := 28) hx hb dX12_is_5 (by decide) (fun c5 => ?_) (fun c5 => ?_)
  · have h := av_it c5 h
    exact tX12_is_28 E X h hR (lv_sub hl [0] rfl)
  · have h := av_if c5 h
    refine lv_aload_n hx hb dX12_is_8 rfl (lv_at hl 0 rfl) ?_
    refine lv_iload_n hx hb dX12_is_9 rfl (lv_at hl 2 rfl) ?_
    obtain ⟨r10, er10, h⟩ := av_bd h
    refine av_goI hR (av_cV (As := [.int a2]) (rest := []) E X hR hl.1 (CX12_isLedge l g er10) kk_X12_94 (av_room (by omega) (by decide)) av_t98 (by decide) rfl rfl (Nat.le_of_ble_eq_true rfl) ⟨Nat.zero_le _, Nat.zero_le _⟩ dX12_is_10) (fun H locs hR => ?_)
    refine lv_if_eq (tgt := 28) hx hb dX12_is_13 (by decide) (fun c13 => ?_) (fun c13 => ?_)
    · have h := av_it c13 h
      exact tX12_is_28 E X h hR (lv_sub hl [0] rfl)
    · have h := av_if c13 h
      refine lv_iload_n hx hb dX12_is_16 rfl (lv_at hl 3 rfl) ?_
      refine lv_i2l hx hb dX12_is_17 rfl ?_
      refine lv_lconst (v := 1) hx hb dX12_is_18 rfl ?_
      refine lv_ldc2 (v := 20) hx hb hown (hts _ kL_X12_191) dX12_is_19 ?_
      obtain ⟨r22, er22, h⟩ := av_bd h
      refine av_goI hR (av_cS (As := [.long (Int32.toInt64 a3), .long 1, .long 20]) (rest := []) E X hR hl.1 (CX12_in l g er22) kk_X12_68 (av_room (by omega) (by decide)) rfl (Nat.le_of_ble_eq_true rfl) ⟨Nat.zero_le _, Nat.zero_le _⟩ dX12_is_22) (fun H locs hR => ?_)
      refine lv_if_ne (tgt := 35) hx hb dX12_is_25 (by decide) (fun c25 => ?_) (fun c25 => ?_)
      · have h := av_if c25 h
        refine lv_iconst (v := 0) hx hb dX12_is_35 rfl ?_
        refine lv_istore (lv' := [(4, .int 0), (0, .ref (g.2.2 98)), (1, .int a1), (2, .int a2), (3, .int a3)]) hx hb dX12_is_36 hl (by decide) rfl (fun ls hl => ?_)
        refine lv_aload_n hx hb dX12_is_38 rfl (lv_at hl 1 rfl) ?_
        obtain ⟨μ39, eμ39, h⟩ := av_bd h
        refine av_goV hR (av_cV (As := []) (rest := []) E X hR hl.1 (CX12_layHand l g eμ39) kk_X12_161 (av_room (by omega) (by decide)) av_t98 (by decide) rfl rfl (Nat.le_of_ble_eq_true rfl) ⟨Nat.zero_le _, Nat.zero_le _⟩ dX12_is_39) (fun H locs hR => ?_)
        refine lv_iconst (v := 0) hx hb dX12_is_42 rfl ?_
        refine lv_istore (lv' := [(5, .int 0), (4, .int 0), (0, .ref (g.2.2 98)), (1, .int a1), (2, .int a2), (3, .int a3)]) hx hb dX12_is_43 hl (by decide) rfl (fun ls hl => ?_)
        exact tX12_is_45 E X _ h hR (lv_sub hl [2, 3, 4, 5, 1, 0] rfl)
      · have h := av_it c25 h
        exact tX12_is_28 E X h hR (lv_sub hl [0] rfl)

set_option maxHeartbeats 4000000 in
set_option maxRecDepth 100000 in
theorem tX12_fraction_6 {p : Program} {l : Launch} {e : Env} {s : State} {m : MethodId} {args : Array Value} {below : List Frame} {meth : Method} {c : Code} {g : Gl} {zm : Mem} (E : av_E p s m args meth c cX12_fraction RX12 11 none) (X : av_X av_wm g s) :
    ∀ (n : Nat) {x1 : Int64} {x3 : Int64} {x5 : Int64} {x7 : Int64} {μ : Mem} {H : Heap} {locs : List Loc} {ls : Array Slot}, fX12_fraction_6 n x1 x3 x5 x7 μ = some zm → av_R av_wm g μ s H locs → lv_has ls 11 [(0, .ref (g.2.2 98)), (1, .long x1), (3, .long x3), (5, .long x5), (7, .long x7)] → W p l e (rmN 1) s m args below meth c H locs 0 0 (MQ below (va_Qv (fun u => u = zm) (av_B av_wm g) (av_A av_wm g)) args s 0 0 (av_A av_wm g)) (F0 m 6 ls []) := by
  obtain ⟨hx, hb, hr, hml, hown, hts, hlocks⟩ := id E
  intro n
  induction n with
  | zero =>
    intro x1 x3 x5 x7 μ H locs ls h hR hl
    cases h
  | succ n ih =>
    intro x1 x3 x5 x7 μ H locs ls h hR hl
    unfold fX12_fraction_6 at h
    refine lv_lload hx hb dX12_fraction_6 (lv_at hl 4 rfl) ?_
    refine lv_lconst (v := 0) hx hb dX12_fraction_8 rfl ?_
    refine W.lcmp hx hb dX12_fraction_9 ?_
    refine lv_if_eq (tgt := 31) hx hb dX12_fraction_10 (by decide) (fun c10 => ?_) (fun c10 => ?_)
    · have h := av_it c10 h
      refine lv_aload_n hx hb dX12_fraction_31 rfl (lv_at hl 0 rfl) ?_
      refine lv_lload_n hx hb dX12_fraction_32 rfl (lv_at hl 1 rfl) ?_
      refine lv_lload hx hb dX12_fraction_33 (lv_at hl 3 rfl) ?_
      by_cases c35 : x5 = 0
      · exact absurd (av_it c35 h) (by simp)
      have h := av_if c35 h
      refine lv_ldiv hx hb dX12_fraction_35 c35 ?_
      obtain ⟨μ36, eμ36, h⟩ := av_bd h
      replace eμ36 := Option.some.inj eμ36
      refine pf_X12_228 E X hR av_t98 dX12_fraction_36 eμ36 (fun H locs hR => ?_)
      refine lv_aload_n hx hb dX12_fraction_39 rfl (lv_at hl 0 rfl) ?_
      refine lv_lload_n hx hb dX12_fraction_40 rfl (lv_at hl 2 rfl) ?_
      refine lv_lload hx hb dX12_fraction_41 (lv_at hl 3 rfl) ?_
      by_cases c43 : x5 = 0
      · exact absurd (av_it c43 h) (by simp)
      have h := av_if c43 h
      refine lv_ldiv hx hb dX12_fraction_43 c43 ?_
      obtain ⟨μ44, eμ44, h⟩ := av_bd h
      replace eμ44 := Option.some.inj eμ44
      refine pf_X12_23 E X hR av_t98 dX12_fraction_44 eμ44 (fun H locs hR => ?_)
      exact av_rv E hR (Option.some.inj h) dX12_fraction_47
    · have h := av_if c10 h
      refine lv_lload hx hb dX12_fraction_13 (lv_at hl 3 rfl) ?_
      refine lv_lload hx hb dX12_fraction_15 (lv_at hl 4 rfl) ?_
      by_cases c17 : x7 = 0
      · exact absurd (av_it c17 h) (by simp)
      have h := av_if c17 h
      refine lv_lrem hx hb dX12_fraction_17 c17 ?_
      obtain ⟨x9_18, ex9_18, h⟩ := av_bd h
      replace ex9_18 := Option.some.inj ex9_18
      rw [ex9_18]
      refine lv_lstore (lv' := [(9, .long x9_18), (0, .ref (g.2.2 98)), (1, .long x1), (3, .long x3), (5, .long x5), (7, .long x7)]) hx hb dX12_fraction_18 hl (by decide) rfl (fun ls hl => ?_)
      refine lv_lload hx hb dX12_fraction_20 (lv_at hl 5 rfl) ?_
      refine lv_lstore (lv' := [(5, .long x7), (9, .long x9_18), (0, .ref (g.2.2 98)), (1, .long x1), (3, .long x3), (7, .long x7)]) hx hb dX12_fraction_22 hl (by decide) rfl (fun ls hl => ?_)
      refine lv_lload hx hb dX12_fraction_24 (lv_at hl 1 rfl) ?_
      refine lv_lstore (lv' := [(7, .long x9_18), (5, .long x7), (9, .long x9_18), (0, .ref (g.2.2 98)), (1, .long x1), (3, .long x3)]) hx hb dX12_fraction_26 hl (by decide) rfl (fun ls hl => ?_)
      refine lv_goto (tgt := 6) hx hb dX12_fraction_28 (by decide) ?_
      exact ih h hR (lv_sub hl [3, 4, 5, 1, 0] rfl)

set_option maxHeartbeats 4000000 in
set_option maxRecDepth 100000 in
theorem CX12_fraction (l : Launch) (g : Gl) {a1 : Int64} {a3 : Int64} {μ : Mem} {zm : Mem} (h : fX12_fraction a1 a3 μ = some zm) : av_MV l yX12_fraction cX12_fraction 11 1 none av_wm g [.ref (g.2.2 98), .long a1, .long a3] μ zm := by
  refine av_ent (own := RX12) (by decide) (Nat.le_of_ble_eq_true rfl) rfl (fun p e s m args below meth c E X hR ls hl => ?_)
  have hl : lv_has ls 11 [(0, .ref (g.2.2 98)), (1, .long a1), (3, .long a3)] := hl
  obtain ⟨hx, hb, hr, hml, hown, hts, hlocks⟩ := id E
  unfold fX12_fraction at h
  refine lv_lload_n hx hb dX12_fraction_0 rfl (lv_at hl 1 rfl) ?_
  refine lv_lstore (lv' := [(5, .long a1), (0, .ref (g.2.2 98)), (1, .long a1), (3, .long a3)]) hx hb dX12_fraction_1 hl (by decide) rfl (fun ls hl => ?_)
  refine lv_lload_n hx hb dX12_fraction_3 rfl (lv_at hl 3 rfl) ?_
  refine lv_lstore (lv' := [(7, .long a3), (5, .long a1), (0, .ref (g.2.2 98)), (1, .long a1), (3, .long a3)]) hx hb dX12_fraction_4 hl (by decide) rfl (fun ls hl => ?_)
  exact tX12_fraction_6 E X _ h hR (lv_sub hl [2, 3, 4, 1, 0] rfl)

set_option maxHeartbeats 4000000 in
set_option maxRecDepth 100000 in
theorem tX12_sneeze_155 {p : Program} {l : Launch} {e : Env} {s : State} {m : MethodId} {args : Array Value} {below : List Frame} {meth : Method} {c : Code} {g : Gl} {zr : Int32} {zm : Mem} (E : av_E p s m args meth c cX12_sneeze RX12 12 (some .int)) (X : av_X av_wm g s) {k61 : Int32 → Int32 → Int64 → Int64 → Int32 → Mem → Option (Int32 × Mem)} (hk61 : ∀ {x1 : Int32} {x2 : Int32} {x3 : Int64} {x5 : Int64} {x7 : Int32} {μ : Mem} {H : Heap} {locs : List Loc} {ls : Array Slot}, k61 x1 x2 x3 x5 x7 μ = some (zr, zm) → av_R av_wm g μ s H locs → lv_has ls 12 [(0, .ref (g.2.2 98)), (1, .int x1), (2, .int x2), (3, .long x3), (5, .long x5), (7, .int x7)] → W p l e (rmN 6) s m args below meth c H locs 0 0 (MQ below (va_Qi (fun r1 u => r1 = zr ∧ u = zm) (av_B av_wm g) (av_A av_wm g)) args s 0 0 (av_A av_wm g)) (F0 m 61 ls [])) :
    ∀ {x1 : Int32} {x2 : Int32} {x5 : Int64} {x7 : Int32} {y0 : Int64} {y1 : Int64} {μ : Mem} {H : Heap} {locs : List Loc} {ls : Array Slot}, fX12_sneeze_155 k61 x1 x2 x5 x7 y0 y1 μ = some (zr, zm) → av_R av_wm g μ s H locs → lv_has ls 12 [(0, .ref (g.2.2 98)), (1, .int x1), (2, .int x2), (5, .long x5), (7, .int x7)] → W p l e (rmN 6) s m args below meth c H locs 0 0 (MQ below (va_Qi (fun r1 u => r1 = zr ∧ u = zm) (av_B av_wm g) (av_A av_wm g)) args s 0 0 (av_A av_wm g)) (F0 m 155 ls [.long y1, .long y0]) := by
  obtain ⟨hx, hb, hr, hml, hown, hts, hlocks⟩ := id E
  intro x1 x2 x5 x7 y0 y1 μ H locs ls h hR hl
  unfold fX12_sneeze_155 at h
  refine lv_ladd hx hb dX12_sneeze_155 ?_
  obtain ⟨x3_156, ex3_156, h⟩ := av_bd h
  replace ex3_156 := Option.some.inj ex3_156
  rw [ex3_156]
  refine lv_lstore_n (lv' := [(3, .long x3_156), (0, .ref (g.2.2 98)), (1, .int x1), (2, .int x2), (5, .long x5), (7, .int x7)]) hx hb dX12_sneeze_156 rfl hl (by decide) rfl (fun ls hl => ?_)
  obtain ⟨x7_157, ex7_157, h⟩ := av_bd h
  replace ex7_157 := Option.some.inj ex7_157
  refine lv_iinc (v := x7_157) (lv' := [(7, .int x7_157), (3, .long x3_156), (0, .ref (g.2.2 98)), (1, .int x1), (2, .int x2), (5, .long x5)]) hx hb dX12_sneeze_157 hl (k := 5) rfl ex7_157 (by decide) rfl (fun ls hl => ?_)
  refine lv_goto (tgt := 61) hx hb dX12_sneeze_160 (by decide) ?_
  exact hk61 h hR (lv_sub hl [2, 3, 4, 1, 5, 0] rfl)

set_option maxHeartbeats 4000000 in
set_option maxRecDepth 100000 in
theorem tX12_sneeze_134 {p : Program} {l : Launch} {e : Env} {s : State} {m : MethodId} {args : Array Value} {below : List Frame} {meth : Method} {c : Code} {g : Gl} {zr : Int32} {zm : Mem} (E : av_E p s m args meth c cX12_sneeze RX12 12 (some .int)) (X : av_X av_wm g s) {k61 : Int32 → Int32 → Int64 → Int64 → Int32 → Mem → Option (Int32 × Mem)} (hk61 : ∀ {x1 : Int32} {x2 : Int32} {x3 : Int64} {x5 : Int64} {x7 : Int32} {μ : Mem} {H : Heap} {locs : List Loc} {ls : Array Slot}, k61 x1 x2 x3 x5 x7 μ = some (zr, zm) → av_R av_wm g μ s H locs → lv_has ls 12 [(0, .ref (g.2.2 98)), (1, .int x1), (2, .int x2), (3, .long x3), (5, .long x5), (7, .int x7)] → W p l e (rmN 6) s m args below meth c H locs 0 0 (MQ below (va_Qi (fun r1 u => r1 = zr ∧ u = zm) (av_B av_wm g) (av_A av_wm g)) args s 0 0 (av_A av_wm g)) (F0 m 61 ls [])) {k82 : Int32 → Int32 → Int64 → Int64 → Int32 → Int64 → Int32 → Mem → Option (Int32 × Mem)} (hk82 : ∀ {x1 : Int32} {x2 : Int32} {x3 : Int64} {x5 : Int64} {x7 : Int32} {x8 : Int64} {x10 : Int32} {μ : Mem} {H : Heap} {locs : List Loc} {ls : Array Slot}, k82 x1 x2 x3 x5 x7 x8 x10 μ = some (zr, zm) → av_R av_wm g μ s H locs → lv_has ls 12 [(0, .ref (g.2.2 98)), (1, .int x1), (2, .int x2), (3, .long x3), (5, .long x5), (7, .int x7), (8, .long x8), (10, .int x10)] → W p l e (rmN 6) s m args below meth c H locs 0 0 (MQ below (va_Qi (fun r1 u => r1 = zr ∧ u = zm) (av_B av_wm g) (av_A av_wm g)) args s 0 0 (av_A av_wm g)) (F0 m 82 ls [])) :
    ∀ {x1 : Int32} {x2 : Int32} {x3 : Int64} {x5 : Int64} {x7 : Int32} {x8 : Int64} {x10 : Int32} {μ : Mem} {H : Heap} {locs : List Loc} {ls : Array Slot}, fX12_sneeze_134 k61 k82 x1 x2 x3 x5 x7 x8 x10 μ = some (zr, zm) → av_R av_wm g μ s H locs → lv_has ls 12 [(0, .ref (g.2.2 98)), (1, .int x1), (2, .int x2), (3, .long x3), (5, .long x5), (7, .int x7), (8, .long x8), (10, .int x10)] → W p l e (rmN 6) s m args below meth c H locs 0 0 (MQ below (va_Qi (fun r1 u => r1 = zr ∧ u = zm) (av_B av_wm g) (av_A av_wm g)) args s 0 0 (av_A av_wm g)) (F0 m 134 ls []) := by
  obtain ⟨hx, hb, hr, hml, hown, hts, hlocks⟩ := id E
  intro x1 x2 x3 x5 x7 x8 x10 μ H locs ls h hR hl
  unfold fX12_sneeze_134 at h
  obtain ⟨x10_134, ex10_134, h⟩ := av_bd h
  replace ex10_134 := Option.some.inj ex10_134
  refine lv_iinc (v := x10_134) (lv' := [(10, .int x10_134), (0, .ref (g.2.2 98)), (1, .int x1), (2, .int x2), (3, .long x3), (5, .long x5), (7, .int x7), (8, .long x8)]) hx hb dX12_sneeze_134 hl (k := 7) rfl ex10_134 (by decide) rfl (fun ls hl => ?_)
  refine lv_goto (tgt := 82) hx hb dX12_sneeze_137 (by decide) ?_
  exact hk82 h hR (lv_sub hl [1, 2, 3, 4, 5, 6, 7, 0] rfl)

set_option maxHeartbeats 4000000 in
set_option maxRecDepth 100000 in
theorem tX12_sneeze_113 {p : Program} {l : Launch} {e : Env} {s : State} {m : MethodId} {args : Array Value} {below : List Frame} {meth : Method} {c : Code} {g : Gl} {zr : Int32} {zm : Mem} (E : av_E p s m args meth c cX12_sneeze RX12 12 (some .int)) (X : av_X av_wm g s) {k61 : Int32 → Int32 → Int64 → Int64 → Int32 → Mem → Option (Int32 × Mem)} (hk61 : ∀ {x1 : Int32} {x2 : Int32} {x3 : Int64} {x5 : Int64} {x7 : Int32} {μ : Mem} {H : Heap} {locs : List Loc} {ls : Array Slot}, k61 x1 x2 x3 x5 x7 μ = some (zr, zm) → av_R av_wm g μ s H locs → lv_has ls 12 [(0, .ref (g.2.2 98)), (1, .int x1), (2, .int x2), (3, .long x3), (5, .long x5), (7, .int x7)] → W p l e (rmN 6) s m args below meth c H locs 0 0 (MQ below (va_Qi (fun r1 u => r1 = zr ∧ u = zm) (av_B av_wm g) (av_A av_wm g)) args s 0 0 (av_A av_wm g)) (F0 m 61 ls [])) {k82 : Int32 → Int32 → Int64 → Int64 → Int32 → Int64 → Int32 → Mem → Option (Int32 × Mem)} (hk82 : ∀ {x1 : Int32} {x2 : Int32} {x3 : Int64} {x5 : Int64} {x7 : Int32} {x8 : Int64} {x10 : Int32} {μ : Mem} {H : Heap} {locs : List Loc} {ls : Array Slot}, k82 x1 x2 x3 x5 x7 x8 x10 μ = some (zr, zm) → av_R av_wm g μ s H locs → lv_has ls 12 [(0, .ref (g.2.2 98)), (1, .int x1), (2, .int x2), (3, .long x3), (5, .long x5), (7, .int x7), (8, .long x8), (10, .int x10)] → W p l e (rmN 6) s m args below meth c H locs 0 0 (MQ below (va_Qi (fun r1 u => r1 = zr ∧ u = zm) (av_B av_wm g) (av_A av_wm g)) args s 0 0 (av_A av_wm g)) (F0 m 82 ls [])) :
    ∀ {x1 : Int32} {x2 : Int32} {x3 : Int64} {x5 : Int64} {x7 : Int32} {x10 : Int32} {y0 : Int64} {y1 : Int64} {μ : Mem} {H : Heap} {locs : List Loc} {ls : Array Slot}, fX12_sneeze_113 k61 k82 x1 x2 x3 x5 x7 x10 y0 y1 μ = some (zr, zm) → av_R av_wm g μ s H locs → lv_has ls 12 [(0, .ref (g.2.2 98)), (1, .int x1), (2, .int x2), (3, .long x3), (5, .long x5), (7, .int x7), (10, .int x10)] → W p l e (rmN 6) s m args below meth c H locs 0 0 (MQ below (va_Qi (fun r1 u => r1 = zr ∧ u = zm) (av_B av_wm g) (av_A av_wm g)) args s 0 0 (av_A av_wm g)) (F0 m 113 ls [.long y1, .long y0]) := by
  obtain ⟨hx, hb, hr, hml, hown, hts, hlocks⟩ := id E
  intro x1 x2 x3 x5 x7 x10 y0 y1 μ H locs ls h hR hl
  unfold fX12_sneeze_113 at h
  refine lv_lmul hx hb dX12_sneeze_113 ?_
  obtain ⟨x8_114, ex8_114, h⟩ := av_bd h
  replace ex8_114 := Option.some.inj ex8_114
  rw [ex8_114]
  refine lv_lstore (lv' := [(8, .long x8_114), (0, .ref (g.2.2 98)), (1, .int x1), (2, .int x2), (3, .long x3), (5, .long x5), (7, .int x7), (10, .int x10)]) hx hb dX12_sneeze_114 hl (by decide) rfl (fun ls hl => ?_)
  refine lv_iload hx hb dX12_sneeze_116 (lv_at hl 6 rfl) ?_
  refine lv_iload hx hb dX12_sneeze_118 (lv_at hl 7 rfl) ?_
  obtain ⟨r120, er120, h⟩ := av_bd h
  refine av_goI hR (av_cS (As := [.int x7, .int x10]) (rest := []) E X hR hl.1 (CX12_has l g er120) kk_X12_233 (av_room (by omega) (by decide)) rfl (Nat.le_of_ble_eq_true rfl) ⟨Nat.zero_le _, Nat.zero_le _⟩ dX12_sneeze_120) (fun H locs hR => ?_)
  refine lv_if_eq (tgt := 134) hx hb dX12_sneeze_123 (by decide) (fun c123 => ?_) (fun c123 => ?_)
  · have h := av_it c123 h
    exact tX12_sneeze_134 E X hk61 hk82 h hR (lv_sub hl [1, 2, 3, 4, 5, 6, 0, 7] rfl)
  · have h := av_if c123 h
    refine lv_aload_n hx hb dX12_sneeze_126 rfl (lv_at hl 1 rfl) ?_
    refine lv_iload hx hb dX12_sneeze_127 (lv_at hl 7 rfl) ?_
    obtain ⟨r129, μ129, er129, h⟩ := av_bd2 h
    refine av_goI hR (av_cV (As := [.int x10]) (rest := []) E X hR hl.1 (CX12_goVote l g er129) kk_X12_164 (av_room (by omega) (by decide)) av_t98 (by decide) rfl rfl (Nat.le_of_ble_eq_true rfl) ⟨Nat.zero_le _, Nat.zero_le _⟩ dX12_sneeze_129) (fun H locs hR => ?_)
    refine lv_istore (lv' := [(11, .int r129), (8, .long x8_114), (0, .ref (g.2.2 98)), (1, .int x1), (2, .int x2), (3, .long x3), (5, .long x5), (7, .int x7), (10, .int x10)]) hx hb dX12_sneeze_132 hl (by decide) rfl (fun ls hl => ?_)
    exact tX12_sneeze_134 E X hk61 hk82 h hR (lv_sub hl [2, 3, 4, 5, 6, 7, 1, 8] rfl)

set_option maxHeartbeats 4000000 in
set_option maxRecDepth 100000 in
theorem tX12_sneeze_82 {p : Program} {l : Launch} {e : Env} {s : State} {m : MethodId} {args : Array Value} {below : List Frame} {meth : Method} {c : Code} {g : Gl} {zr : Int32} {zm : Mem} (E : av_E p s m args meth c cX12_sneeze RX12 12 (some .int)) (X : av_X av_wm g s) {k61 : Int32 → Int32 → Int64 → Int64 → Int32 → Mem → Option (Int32 × Mem)} (hk61 : ∀ {x1 : Int32} {x2 : Int32} {x3 : Int64} {x5 : Int64} {x7 : Int32} {μ : Mem} {H : Heap} {locs : List Loc} {ls : Array Slot}, k61 x1 x2 x3 x5 x7 μ = some (zr, zm) → av_R av_wm g μ s H locs → lv_has ls 12 [(0, .ref (g.2.2 98)), (1, .int x1), (2, .int x2), (3, .long x3), (5, .long x5), (7, .int x7)] → W p l e (rmN 6) s m args below meth c H locs 0 0 (MQ below (va_Qi (fun r1 u => r1 = zr ∧ u = zm) (av_B av_wm g) (av_A av_wm g)) args s 0 0 (av_A av_wm g)) (F0 m 61 ls [])) :
    ∀ (n : Nat) {x1 : Int32} {x2 : Int32} {x3 : Int64} {x5 : Int64} {x7 : Int32} {x8 : Int64} {x10 : Int32} {μ : Mem} {H : Heap} {locs : List Loc} {ls : Array Slot}, fX12_sneeze_82 k61 n x1 x2 x3 x5 x7 x8 x10 μ = some (zr, zm) → av_R av_wm g μ s H locs → lv_has ls 12 [(0, .ref (g.2.2 98)), (1, .int x1), (2, .int x2), (3, .long x3), (5, .long x5), (7, .int x7), (8, .long x8), (10, .int x10)] → W p l e (rmN 6) s m args below meth c H locs 0 0 (MQ below (va_Qi (fun r1 u => r1 = zr ∧ u = zm) (av_B av_wm g) (av_A av_wm g)) args s 0 0 (av_A av_wm g)) (F0 m 82 ls []) := by
  obtain ⟨hx, hb, hr, hml, hown, hts, hlocks⟩ := id E
  intro n
  induction n with
  | zero =>
    intro x1 x2 x3 x5 x7 x8 x10 μ H locs ls h hR hl
    cases h
  | succ n ih =>
    intro x1 x2 x3 x5 x7 x8 x10 μ H locs ls h hR hl
    unfold fX12_sneeze_82 at h
    refine lv_iload hx hb dX12_sneeze_82 (lv_at hl 7 rfl) ?_
    refine lv_aload_n hx hb dX12_sneeze_84 rfl (lv_at hl 0 rfl) ?_
    obtain ⟨r85, er85, h⟩ := av_bd h
    refine av_goI hR (av_cV (As := []) (rest := [.int x10]) E X hR hl.1 (CX12_voters l g er85) kk_X12_72 (av_room (by omega) (by decide)) av_t98 (by decide) rfl rfl (Nat.le_of_ble_eq_true rfl) ⟨Nat.zero_le _, Nat.zero_le _⟩ dX12_sneeze_85) (fun H locs hR => ?_)
    refine lv_icmp_ge (tgt := 140) hx hb dX12_sneeze_88 (by decide) (fun c88 => ?_) (fun c88 => ?_)
    · have h := av_it c88 h
      refine lv_lload_n hx hb dX12_sneeze_140 rfl (lv_at hl 3 rfl) ?_
      refine lv_aload_n hx hb dX12_sneeze_141 rfl (lv_at hl 0 rfl) ?_
      refine gf_X12_111 E X hR av_t98 dX12_sneeze_142 ?_
      refine lv_iload_n hx hb dX12_sneeze_145 rfl (lv_at hl 1 rfl) ?_
      refine lv_icmp_ne (tgt := 154) hx hb dX12_sneeze_146 (by decide) (fun c146 => ?_) (fun c146 => ?_)
      · have h := av_if c146 h
        refine lv_lconst (v := 0) hx hb dX12_sneeze_154 rfl ?_
        exact tX12_sneeze_155 E X hk61 h hR (lv_sub hl [0, 1, 2, 4, 5] rfl)
      · have h := av_it c146 h
        refine lv_lload hx hb dX12_sneeze_149 (lv_at hl 6 rfl) ?_
        refine lv_goto (tgt := 155) hx hb dX12_sneeze_151 (by decide) ?_
        exact tX12_sneeze_155 E X hk61 h hR (lv_sub hl [0, 1, 2, 4, 5] rfl)
    · have h := av_if c88 h
      refine lv_lload hx hb dX12_sneeze_91 (lv_at hl 6 rfl) ?_
      refine lv_iload hx hb dX12_sneeze_93 (lv_at hl 5 rfl) ?_
      refine lv_iload hx hb dX12_sneeze_95 (lv_at hl 7 rfl) ?_
      obtain ⟨r97, er97, h⟩ := av_bd h
      refine av_goI hR (av_cS (As := [.int x7, .int x10]) (rest := [.long x8]) E X hR hl.1 (CX12_has l g er97) kk_X12_233 (av_room (by omega) (by decide)) rfl (Nat.le_of_ble_eq_true rfl) ⟨Nat.zero_le _, Nat.zero_le _⟩ dX12_sneeze_97) (fun H locs hR => ?_)
      refine lv_if_eq (tgt := 111) hx hb dX12_sneeze_100 (by decide) (fun c100 => ?_) (fun c100 => ?_)
      · have h := av_it c100 h
        refine lv_iload_n hx hb dX12_sneeze_111 rfl (lv_at hl 2 rfl) ?_
        refine lv_i2l hx hb dX12_sneeze_112 rfl ?_
        exact tX12_sneeze_113 E X hk61 ih h hR (lv_sub hl [0, 1, 2, 3, 4, 5, 7] rfl)
      · have h := av_if c100 h
        refine lv_bipush (v := 10) hx hb dX12_sneeze_103 rfl ?_
        refine lv_iload_n hx hb dX12_sneeze_105 rfl (lv_at hl 2 rfl) ?_
        refine lv_isub hx hb dX12_sneeze_106 ?_
        refine lv_i2l hx hb dX12_sneeze_107 rfl ?_
        refine lv_goto (tgt := 113) hx hb dX12_sneeze_108 (by decide) ?_
        exact tX12_sneeze_113 E X hk61 ih h hR (lv_sub hl [0, 1, 2, 3, 4, 5, 7] rfl)

set_option maxHeartbeats 4000000 in
set_option maxRecDepth 100000 in
theorem tX12_sneeze_61 {p : Program} {l : Launch} {e : Env} {s : State} {m : MethodId} {args : Array Value} {below : List Frame} {meth : Method} {c : Code} {g : Gl} {zr : Int32} {zm : Mem} (E : av_E p s m args meth c cX12_sneeze RX12 12 (some .int)) (X : av_X av_wm g s) :
    ∀ (n : Nat) {x1 : Int32} {x2 : Int32} {x3 : Int64} {x5 : Int64} {x7 : Int32} {μ : Mem} {H : Heap} {locs : List Loc} {ls : Array Slot}, fX12_sneeze_61 n x1 x2 x3 x5 x7 μ = some (zr, zm) → av_R av_wm g μ s H locs → lv_has ls 12 [(0, .ref (g.2.2 98)), (1, .int x1), (2, .int x2), (3, .long x3), (5, .long x5), (7, .int x7)] → W p l e (rmN 6) s m args below meth c H locs 0 0 (MQ below (va_Qi (fun r1 u => r1 = zr ∧ u = zm) (av_B av_wm g) (av_A av_wm g)) args s 0 0 (av_A av_wm g)) (F0 m 61 ls []) := by
  obtain ⟨hx, hb, hr, hml, hown, hts, hlocks⟩ := id E
  intro n
  induction n with
  | zero =>
    intro x1 x2 x3 x5 x7 μ H locs ls h hR hl
    cases h
  | succ n ih =>
    intro x1 x2 x3 x5 x7 μ H locs ls h hR hl
    unfold fX12_sneeze_61 at h
    refine lv_iload hx hb dX12_sneeze_61 (lv_at hl 5 rfl) ?_
    refine lv_iconst (v := 1) hx hb dX12_sneeze_63 rfl ?_
    refine lv_aload_n hx hb dX12_sneeze_64 rfl (lv_at hl 0 rfl) ?_
    obtain ⟨r65, er65, h⟩ := av_bd h
    refine av_goI hR (av_cV (As := []) (rest := [.int 1, .int x7]) E X hR hl.1 (CX12_voters l g er65) kk_X12_72 (av_room (by omega) (by decide)) av_t98 (by decide) rfl rfl (Nat.le_of_ble_eq_true rfl) ⟨Nat.zero_le _, Nat.zero_le _⟩ dX12_sneeze_65) (fun H locs hR => ?_)
    refine lv_ishl hx hb dX12_sneeze_68 ?_
    refine lv_icmp_ge (tgt := 163) hx hb dX12_sneeze_69 (by decide) (fun c69 => ?_) (fun c69 => ?_)
    · have h := av_it c69 h
      refine lv_aload_n hx hb dX12_sneeze_163 rfl (lv_at hl 0 rfl) ?_
      refine lv_lload_n hx hb dX12_sneeze_164 rfl (lv_at hl 3 rfl) ?_
      refine lv_lload hx hb dX12_sneeze_165 (lv_at hl 4 rfl) ?_
      obtain ⟨μ167, eμ167, h⟩ := av_bd h
      refine av_goV hR (av_cV (As := [.long x3, .long x5]) (rest := []) E X hR hl.1 (CX12_fraction l g eμ167) kk_X12_237 (av_room (by omega) (by decide)) av_t98 (by decide) rfl rfl (Nat.le_of_ble_eq_true rfl) ⟨Nat.zero_le _, Nat.zero_le _⟩ dX12_sneeze_167) (fun H locs hR => ?_)
      refine lv_iconst (v := 1) hx hb dX12_sneeze_170 rfl ?_
      exact av_ri E hR (av_r2 h) dX12_sneeze_171
    · have h := av_if c69 h
      refine lv_lconst (v := 1) hx hb dX12_sneeze_72 rfl ?_
      refine lv_lstore (lv' := [(8, .long 1), (0, .ref (g.2.2 98)), (1, .int x1), (2, .int x2), (3, .long x3), (5, .long x5), (7, .int x7)]) hx hb dX12_sneeze_73 hl (by decide) rfl (fun ls hl => ?_)
      refine lv_aload_n hx hb dX12_sneeze_75 rfl (lv_at hl 1 rfl) ?_
      obtain ⟨μ76, eμ76, h⟩ := av_bd h
      refine av_goV hR (av_cV (As := []) (rest := []) E X hR hl.1 (CX12_layHand l g eμ76) kk_X12_161 (av_room (by omega) (by decide)) av_t98 (by decide) rfl rfl (Nat.le_of_ble_eq_true rfl) ⟨Nat.zero_le _, Nat.zero_le _⟩ dX12_sneeze_76) (fun H locs hR => ?_)
      refine lv_iconst (v := 0) hx hb dX12_sneeze_79 rfl ?_
      refine lv_istore (lv' := [(10, .int 0), (8, .long 1), (0, .ref (g.2.2 98)), (1, .int x1), (2, .int x2), (3, .long x3), (5, .long x5), (7, .int x7)]) hx hb dX12_sneeze_80 hl (by decide) rfl (fun ls hl => ?_)
      exact tX12_sneeze_82 E X ih _ h hR (lv_sub hl [2, 3, 4, 5, 6, 7, 1, 0] rfl)

set_option maxHeartbeats 4000000 in
set_option maxRecDepth 100000 in
theorem tX12_sneeze_35 {p : Program} {l : Launch} {e : Env} {s : State} {m : MethodId} {args : Array Value} {below : List Frame} {meth : Method} {c : Code} {g : Gl} {zr : Int32} {zm : Mem} (E : av_E p s m args meth c cX12_sneeze RX12 12 (some .int)) (X : av_X av_wm g s) :
    ∀ (n : Nat) {x1 : Int32} {x2 : Int32} {x3 : Int64} {x5 : Int64} {x7 : Int32} {μ : Mem} {H : Heap} {locs : List Loc} {ls : Array Slot}, fX12_sneeze_35 n x1 x2 x3 x5 x7 μ = some (zr, zm) → av_R av_wm g μ s H locs → lv_has ls 12 [(0, .ref (g.2.2 98)), (1, .int x1), (2, .int x2), (3, .long x3), (5, .long x5), (7, .int x7)] → W p l e (rmN 6) s m args below meth c H locs 0 0 (MQ below (va_Qi (fun r1 u => r1 = zr ∧ u = zm) (av_B av_wm g) (av_A av_wm g)) args s 0 0 (av_A av_wm g)) (F0 m 35 ls []) := by
  obtain ⟨hx, hb, hr, hml, hown, hts, hlocks⟩ := id E
  intro n
  induction n with
  | zero =>
    intro x1 x2 x3 x5 x7 μ H locs ls h hR hl
    cases h
  | succ n ih =>
    intro x1 x2 x3 x5 x7 μ H locs ls h hR hl
    unfold fX12_sneeze_35 at h
    refine lv_iload hx hb dX12_sneeze_35 (lv_at hl 5 rfl) ?_
    refine lv_aload_n hx hb dX12_sneeze_37 rfl (lv_at hl 0 rfl) ?_
    obtain ⟨r38, er38, h⟩ := av_bd h
    refine av_goI hR (av_cV (As := []) (rest := [.int x7]) E X hR hl.1 (CX12_voters l g er38) kk_X12_72 (av_room (by omega) (by decide)) av_t98 (by decide) rfl rfl (Nat.le_of_ble_eq_true rfl) ⟨Nat.zero_le _, Nat.zero_le _⟩ dX12_sneeze_38) (fun H locs hR => ?_)
    refine lv_icmp_ge (tgt := 58) hx hb dX12_sneeze_41 (by decide) (fun c41 => ?_) (fun c41 => ?_)
    · have h := av_it c41 h
      refine lv_iconst (v := 0) hx hb dX12_sneeze_58 rfl ?_
      refine lv_istore (lv' := [(7, .int 0), (0, .ref (g.2.2 98)), (1, .int x1), (2, .int x2), (3, .long x3), (5, .long x5)]) hx hb dX12_sneeze_59 hl (by decide) rfl (fun ls hl => ?_)
      exact tX12_sneeze_61 E X _ h hR (lv_sub hl [1, 2, 3, 4, 5, 0] rfl)
    · have h := av_if c41 h
      refine lv_lload hx hb dX12_sneeze_44 (lv_at hl 4 rfl) ?_
      refine lv_ldc2 (v := 10) hx hb hown (hts _ kL_X12_231) dX12_sneeze_46 ?_
      refine lv_lmul hx hb dX12_sneeze_49 ?_
      obtain ⟨x5_50, ex5_50, h⟩ := av_bd h
      replace ex5_50 := Option.some.inj ex5_50
      rw [ex5_50]
      refine lv_lstore (lv' := [(5, .long x5_50), (0, .ref (g.2.2 98)), (1, .int x1), (2, .int x2), (3, .long x3), (7, .int x7)]) hx hb dX12_sneeze_50 hl (by decide) rfl (fun ls hl => ?_)
      obtain ⟨x7_52, ex7_52, h⟩ := av_bd h
      replace ex7_52 := Option.some.inj ex7_52
      refine lv_iinc (v := x7_52) (lv' := [(7, .int x7_52), (5, .long x5_50), (0, .ref (g.2.2 98)), (1, .int x1), (2, .int x2), (3, .long x3)]) hx hb dX12_sneeze_52 hl (k := 5) rfl ex7_52 (by decide) rfl (fun ls hl => ?_)
      refine lv_goto (tgt := 35) hx hb dX12_sneeze_55 (by decide) ?_
      exact ih h hR (lv_sub hl [2, 3, 4, 5, 1, 0] rfl)

set_option maxHeartbeats 4000000 in
set_option maxRecDepth 100000 in
theorem tX12_sneeze_20 {p : Program} {l : Launch} {e : Env} {s : State} {m : MethodId} {args : Array Value} {below : List Frame} {meth : Method} {c : Code} {g : Gl} {zr : Int32} {zm : Mem} (E : av_E p s m args meth c cX12_sneeze RX12 12 (some .int)) (X : av_X av_wm g s) :
    ∀ {μ : Mem} {H : Heap} {locs : List Loc} {ls : Array Slot}, fX12_sneeze_20 μ = some (zr, zm) → av_R av_wm g μ s H locs → lv_has ls 12 [(0, .ref (g.2.2 98))] → W p l e (rmN 6) s m args below meth c H locs 0 0 (MQ below (va_Qi (fun r1 u => r1 = zr ∧ u = zm) (av_B av_wm g) (av_A av_wm g)) args s 0 0 (av_A av_wm g)) (F0 m 20 ls []) := by
  obtain ⟨hx, hb, hr, hml, hown, hts, hlocks⟩ := id E
  intro μ H locs ls h hR hl
  unfold fX12_sneeze_20 at h
  refine lv_aload_n hx hb dX12_sneeze_20 rfl (lv_at hl 0 rfl) ?_
  refine lv_bipush (v := (-2)) hx hb dX12_sneeze_21 rfl ?_
  obtain ⟨r23, μ23, er23, h⟩ := av_bd2 h
  refine av_goI hR (av_cV (As := [.int (-2)]) (rest := []) E X hR hl.1 (CX12_bad l g er23) kk_X12_81 (av_room (by omega) (by decide)) av_t98 (by decide) rfl rfl (Nat.le_of_ble_eq_true rfl) ⟨Nat.zero_le _, Nat.zero_le _⟩ dX12_sneeze_23) (fun H locs hR => ?_)
  exact av_ri E hR (av_r2 h) dX12_sneeze_26

set_option maxHeartbeats 4000000 in
set_option maxRecDepth 100000 in
theorem CX12_sneeze (l : Launch) (g : Gl) {a1 : Int32} {a2 : Int32} {μ : Mem} {zr : Int32} {zm : Mem} (h : fX12_sneeze a1 a2 μ = some (zr, zm)) : av_MI l yX12_sneeze cX12_sneeze 12 6 (some .int) av_wm g [.ref (g.2.2 98), .int a1, .int a2] μ zr zm := by
  refine av_ent (own := RX12) (by decide) (Nat.le_of_ble_eq_true rfl) rfl (fun p e s m args below meth c E X hR ls hl => ?_)
  have hl : lv_has ls 12 [(0, .ref (g.2.2 98)), (1, .int a1), (2, .int a2)] := hl
  obtain ⟨hx, hb, hr, hml, hown, hts, hlocks⟩ := id E
  unfold fX12_sneeze at h
  refine lv_aload_n hx hb dX12_sneeze_0 rfl (lv_at hl 0 rfl) ?_
  refine lv_iload_n hx hb dX12_sneeze_1 rfl (lv_at hl 1 rfl) ?_
  obtain ⟨r2, er2, h⟩ := av_bd h
  refine av_goI hR (av_cV (As := [.int a1]) (rest := []) E X hR hl.1 (CX12_isLedge l g er2) kk_X12_94 (av_room (by omega) (by decide)) av_t98 (by decide) rfl rfl (Nat.le_of_ble_eq_true rfl) ⟨Nat.zero_le _, Nat.zero_le _⟩ dX12_sneeze_2) (fun H locs hR => ?_)
  refine lv_if_eq (tgt := 20) hx hb dX12_sneeze_5 (by decide) (fun c5 => ?_) (fun c5 => ?_)
  · have h := av_it c5 h
    exact tX12_sneeze_20 E X h hR (lv_sub hl [0] rfl)
  · have h := av_if c5 h
    refine lv_iload_n hx hb dX12_sneeze_8 rfl (lv_at hl 2 rfl) ?_
    refine lv_i2l hx hb dX12_sneeze_9 rfl ?_
    refine lv_lconst (v := 0) hx hb dX12_sneeze_10 rfl ?_
    refine lv_ldc2 (v := 10) hx hb hown (hts _ kL_X12_231) dX12_sneeze_11 ?_
    obtain ⟨r14, er14, h⟩ := av_bd h
    refine av_goI hR (av_cS (As := [.long (Int32.toInt64 a2), .long 0, .long 10]) (rest := []) E X hR hl.1 (CX12_in l g er14) kk_X12_68 (av_room (by omega) (by decide)) rfl (Nat.le_of_ble_eq_true rfl) ⟨Nat.zero_le _, Nat.zero_le _⟩ dX12_sneeze_14) (fun H locs hR => ?_)
    refine lv_if_ne (tgt := 27) hx hb dX12_sneeze_17 (by decide) (fun c17 => ?_) (fun c17 => ?_)
    · have h := av_if c17 h
      refine lv_lconst (v := 0) hx hb dX12_sneeze_27 rfl ?_
      refine lv_lstore_n (lv' := [(3, .long 0), (0, .ref (g.2.2 98)), (1, .int a1), (2, .int a2)]) hx hb dX12_sneeze_28 rfl hl (by decide) rfl (fun ls hl => ?_)
      refine lv_lconst (v := 1) hx hb dX12_sneeze_29 rfl ?_
      refine lv_lstore (lv' := [(5, .long 1), (3, .long 0), (0, .ref (g.2.2 98)), (1, .int a1), (2, .int a2)]) hx hb dX12_sneeze_30 hl (by decide) rfl (fun ls hl => ?_)
      refine lv_iconst (v := 0) hx hb dX12_sneeze_32 rfl ?_
      refine lv_istore (lv' := [(7, .int 0), (5, .long 1), (3, .long 0), (0, .ref (g.2.2 98)), (1, .int a1), (2, .int a2)]) hx hb dX12_sneeze_33 hl (by decide) rfl (fun ls hl => ?_)
      exact tX12_sneeze_35 E X _ h hR (lv_sub hl [3, 4, 5, 2, 1, 0] rfl)
    · have h := av_it c17 h
      exact tX12_sneeze_20 E X h hR (lv_sub hl [0] rfl)

set_option maxHeartbeats 4000000 in
set_option maxRecDepth 100000 in
theorem tX12_februaries_110 {p : Program} {l : Launch} {e : Env} {s : State} {m : MethodId} {args : Array Value} {below : List Frame} {meth : Method} {c : Code} {g : Gl} {zr : Int32} {zm : Mem} (E : av_E p s m args meth c cX12_februaries RX12 7 (some .int)) (X : av_X av_wm g s) :
    ∀ (n : Nat) {x5 : Int32} {x6 : Int32} {μ : Mem} {H : Heap} {locs : List Loc} {ls : Array Slot}, fX12_februaries_110 n x5 x6 μ = some (zr, zm) → av_R av_wm g μ s H locs → lv_has ls 7 [(0, .ref (g.2.2 98)), (5, .int x5), (6, .int x6)] → W p l e (rmN 6) s m args below meth c H locs 0 0 (MQ below (va_Qi (fun r1 u => r1 = zr ∧ u = zm) (av_B av_wm g) (av_A av_wm g)) args s 0 0 (av_A av_wm g)) (F0 m 110 ls []) := by
  obtain ⟨hx, hb, hr, hml, hown, hts, hlocks⟩ := id E
  intro n
  induction n with
  | zero =>
    intro x5 x6 μ H locs ls h hR hl
    cases h
  | succ n ih =>
    intro x5 x6 μ H locs ls h hR hl
    unfold fX12_februaries_110 at h
    refine lv_iload hx hb dX12_februaries_110 (lv_at hl 2 rfl) ?_
    refine lv_aload_n hx hb dX12_februaries_112 rfl (lv_at hl 0 rfl) ?_
    obtain ⟨r113, er113, h⟩ := av_bd h
    refine av_goI hR (av_cV (As := []) (rest := [.int x6]) E X hR hl.1 (CX12_ledges l g er113) kk_X12_64 (av_room (by omega) (by decide)) av_t98 (by decide) rfl rfl (Nat.le_of_ble_eq_true rfl) ⟨Nat.zero_le _, Nat.zero_le _⟩ dX12_februaries_113) (fun H locs hR => ?_)
    refine lv_icmp_ge (tgt := 136) hx hb dX12_februaries_116 (by decide) (fun c116 => ?_) (fun c116 => ?_)
    · have h := av_it c116 h
      refine lv_iload hx hb dX12_februaries_136 (lv_at hl 1 rfl) ?_
      exact av_ri E hR (av_r2 h) dX12_februaries_138
    · have h := av_if c116 h
      refine lv_iload hx hb dX12_februaries_119 (lv_at hl 1 rfl) ?_
      refine lv_aload_n hx hb dX12_februaries_121 rfl (lv_at hl 0 rfl) ?_
      refine lv_iload hx hb dX12_februaries_122 (lv_at hl 2 rfl) ?_
      obtain ⟨r124, er124, h⟩ := av_bd h
      refine av_goI hR (av_cV (As := [.int x6]) (rest := [.int x5]) E X hR hl.1 (CX12_load l g er124) kk_X12_117 (av_room (by omega) (by decide)) av_t98 (by decide) rfl rfl (Nat.le_of_ble_eq_true rfl) ⟨Nat.zero_le _, Nat.zero_le _⟩ dX12_februaries_124) (fun H locs hR => ?_)
      refine lv_iadd hx hb dX12_februaries_127 ?_
      obtain ⟨x5_128, ex5_128, h⟩ := av_bd h
      replace ex5_128 := Option.some.inj ex5_128
      rw [ex5_128]
      refine lv_istore (lv' := [(5, .int x5_128), (0, .ref (g.2.2 98)), (6, .int x6)]) hx hb dX12_februaries_128 hl (by decide) rfl (fun ls hl => ?_)
      obtain ⟨x6_130, ex6_130, h⟩ := av_bd h
      replace ex6_130 := Option.some.inj ex6_130
      refine lv_iinc (v := x6_130) (lv' := [(6, .int x6_130), (5, .int x5_128), (0, .ref (g.2.2 98))]) hx hb dX12_februaries_130 hl (k := 2) rfl ex6_130 (by decide) rfl (fun ls hl => ?_)
      refine lv_goto (tgt := 110) hx hb dX12_februaries_133 (by decide) ?_
      exact ih h hR (lv_sub hl [2, 1, 0] rfl)

set_option maxHeartbeats 4000000 in
set_option maxRecDepth 100000 in
theorem tX12_februaries_60 {p : Program} {l : Launch} {e : Env} {s : State} {m : MethodId} {args : Array Value} {below : List Frame} {meth : Method} {c : Code} {g : Gl} {zr : Int32} {zm : Mem} (E : av_E p s m args meth c cX12_februaries RX12 7 (some .int)) (X : av_X av_wm g s) :
    ∀ (n : Nat) {x2 : Int32} {x3 : Int64} {x5 : Int32} {μ : Mem} {H : Heap} {locs : List Loc} {ls : Array Slot}, fX12_februaries_60 n x2 x3 x5 μ = some (zr, zm) → av_R av_wm g μ s H locs → lv_has ls 7 [(0, .ref (g.2.2 98)), (2, .int x2), (3, .long x3), (5, .int x5)] → W p l e (rmN 6) s m args below meth c H locs 0 0 (MQ below (va_Qi (fun r1 u => r1 = zr ∧ u = zm) (av_B av_wm g) (av_A av_wm g)) args s 0 0 (av_A av_wm g)) (F0 m 60 ls []) := by
  obtain ⟨hx, hb, hr, hml, hown, hts, hlocks⟩ := id E
  intro n
  induction n with
  | zero =>
    intro x2 x3 x5 μ H locs ls h hR hl
    cases h
  | succ n ih =>
    intro x2 x3 x5 μ H locs ls h hR hl
    unfold fX12_februaries_60 at h
    refine lv_iload hx hb dX12_februaries_60 (lv_at hl 3 rfl) ?_
    refine lv_iload_n hx hb dX12_februaries_62 rfl (lv_at hl 1 rfl) ?_
    refine lv_icmp_ge (tgt := 104) hx hb dX12_februaries_63 (by decide) (fun c63 => ?_) (fun c63 => ?_)
    · have h := av_it c63 h
      refine lv_iconst (v := 0) hx hb dX12_februaries_104 rfl ?_
      refine lv_istore (lv' := [(5, .int 0), (0, .ref (g.2.2 98)), (2, .int x2), (3, .long x3)]) hx hb dX12_februaries_105 hl (by decide) rfl (fun ls hl => ?_)
      refine lv_iconst (v := 0) hx hb dX12_februaries_107 rfl ?_
      refine lv_istore (lv' := [(6, .int 0), (5, .int 0), (0, .ref (g.2.2 98)), (2, .int x2), (3, .long x3)]) hx hb dX12_februaries_108 hl (by decide) rfl (fun ls hl => ?_)
      exact tX12_februaries_110 E X _ h hR (lv_sub hl [2, 1, 0] rfl)
    · have h := av_if c63 h
      refine lv_lload_n hx hb dX12_februaries_66 rfl (lv_at hl 2 rfl) ?_
      refine lv_ldc2 (v := 1103515245) hx hb hown (hts _ kL_X12_243) dX12_februaries_67 ?_
      refine lv_lmul hx hb dX12_februaries_70 ?_
      refine lv_ldc2 (v := 12345) hx hb hown (hts _ kL_X12_245) dX12_februaries_71 ?_
      refine lv_ladd hx hb dX12_februaries_74 ?_
      refine lv_ldc2 (v := 2147483648) hx hb hown (hts _ kL_X12_247) dX12_februaries_75 ?_
      refine lv_lrem hx hb dX12_februaries_78 (by decide) ?_
      obtain ⟨x3_79, ex3_79, h⟩ := av_bd h
      replace ex3_79 := Option.some.inj ex3_79
      rw [ex3_79]
      refine lv_lstore_n (lv' := [(3, .long x3_79), (0, .ref (g.2.2 98)), (2, .int x2), (5, .int x5)]) hx hb dX12_februaries_79 rfl hl (by decide) rfl (fun ls hl => ?_)
      refine lv_aload_n hx hb dX12_februaries_80 rfl (lv_at hl 1 rfl) ?_
      refine lv_lload_n hx hb dX12_februaries_81 rfl (lv_at hl 0 rfl) ?_
      refine lv_ldc2 (v := 65536) hx hb hown (hts _ kL_X12_249) dX12_februaries_82 ?_
      refine lv_ldiv hx hb dX12_februaries_85 (by decide) ?_
      refine lv_aload_n hx hb dX12_februaries_86 rfl (lv_at hl 1 rfl) ?_
      obtain ⟨r87, er87, h⟩ := av_bd h
      refine av_goI hR (av_cV (As := []) (rest := [.long (x3_79 / 65536), .ref (g.2.2 98)]) E X hR hl.1 (CX12_voters l g er87) kk_X12_72 (av_room (by omega) (by decide)) av_t98 (by decide) rfl rfl (Nat.le_of_ble_eq_true rfl) ⟨Nat.zero_le _, Nat.zero_le _⟩ dX12_februaries_87) (fun H locs hR => ?_)
      refine lv_i2l hx hb dX12_februaries_90 rfl ?_
      by_cases c91 : (Int32.toInt64 r87) = 0
      · exact absurd (av_it c91 h) (by simp)
      have h := av_if c91 h
      refine lv_lrem hx hb dX12_februaries_91 c91 ?_
      refine lv_l2i hx hb dX12_februaries_92 rfl ?_
      obtain ⟨r93, μ93, er93, h⟩ := av_bd2 h
      refine av_goI hR (av_cV (As := [.int (Int64.toInt32 ((x3_79 / 65536) - (x3_79 / 65536) / (Int32.toInt64 r87) * (Int32.toInt64 r87)))]) (rest := []) E X hR hl.1 (CX12_goVote l g er93) kk_X12_164 (av_room (by omega) (by decide)) av_t98 (by decide) rfl rfl (Nat.le_of_ble_eq_true rfl) ⟨Nat.zero_le _, Nat.zero_le _⟩ dX12_februaries_93) (fun H locs hR => ?_)
      refine lv_istore (lv' := [(6, .int r93), (3, .long x3_79), (0, .ref (g.2.2 98)), (2, .int x2), (5, .int x5)]) hx hb dX12_februaries_96 hl (by decide) rfl (fun ls hl => ?_)
      obtain ⟨x5_98, ex5_98, h⟩ := av_bd h
      replace ex5_98 := Option.some.inj ex5_98
      refine lv_iinc (v := x5_98) (lv' := [(5, .int x5_98), (6, .int r93), (3, .long x3_79), (0, .ref (g.2.2 98)), (2, .int x2)]) hx hb dX12_februaries_98 hl (k := 4) rfl ex5_98 (by decide) rfl (fun ls hl => ?_)
      refine lv_goto (tgt := 60) hx hb dX12_februaries_101 (by decide) ?_
      exact ih h hR (lv_sub hl [3, 4, 2, 0] rfl)

set_option maxHeartbeats 4000000 in
set_option maxRecDepth 100000 in
theorem tX12_februaries_45 {p : Program} {l : Launch} {e : Env} {s : State} {m : MethodId} {args : Array Value} {below : List Frame} {meth : Method} {c : Code} {g : Gl} {zr : Int32} {zm : Mem} (E : av_E p s m args meth c cX12_februaries RX12 7 (some .int)) (X : av_X av_wm g s) :
    ∀ {μ : Mem} {H : Heap} {locs : List Loc} {ls : Array Slot}, fX12_februaries_45 μ = some (zr, zm) → av_R av_wm g μ s H locs → lv_has ls 7 [(0, .ref (g.2.2 98))] → W p l e (rmN 6) s m args below meth c H locs 0 0 (MQ below (va_Qi (fun r1 u => r1 = zr ∧ u = zm) (av_B av_wm g) (av_A av_wm g)) args s 0 0 (av_A av_wm g)) (F0 m 45 ls []) := by
  obtain ⟨hx, hb, hr, hml, hown, hts, hlocks⟩ := id E
  intro μ H locs ls h hR hl
  unfold fX12_februaries_45 at h
  refine lv_aload_n hx hb dX12_februaries_45 rfl (lv_at hl 0 rfl) ?_
  obtain ⟨r46, μ46, er46, h⟩ := av_bd2 h
  refine av_goI hR (av_cV (As := []) (rest := []) E X hR hl.1 (CX12_no l g er46) kk_X12_173 (av_room (by omega) (by decide)) av_t98 (by decide) rfl rfl (Nat.le_of_ble_eq_true rfl) ⟨Nat.zero_le _, Nat.zero_le _⟩ dX12_februaries_46) (fun H locs hR => ?_)
  exact av_ri E hR (av_r2 h) dX12_februaries_49

set_option maxHeartbeats 4000000 in
set_option maxRecDepth 100000 in
theorem tX12_februaries_24 {p : Program} {l : Launch} {e : Env} {s : State} {m : MethodId} {args : Array Value} {below : List Frame} {meth : Method} {c : Code} {g : Gl} {zr : Int32} {zm : Mem} (E : av_E p s m args meth c cX12_februaries RX12 7 (some .int)) (X : av_X av_wm g s) :
    ∀ {μ : Mem} {H : Heap} {locs : List Loc} {ls : Array Slot}, fX12_februaries_24 μ = some (zr, zm) → av_R av_wm g μ s H locs → lv_has ls 7 [(0, .ref (g.2.2 98))] → W p l e (rmN 6) s m args below meth c H locs 0 0 (MQ below (va_Qi (fun r1 u => r1 = zr ∧ u = zm) (av_B av_wm g) (av_A av_wm g)) args s 0 0 (av_A av_wm g)) (F0 m 24 ls []) := by
  obtain ⟨hx, hb, hr, hml, hown, hts, hlocks⟩ := id E
  intro μ H locs ls h hR hl
  unfold fX12_februaries_24 at h
  refine lv_aload_n hx hb dX12_februaries_24 rfl (lv_at hl 0 rfl) ?_
  refine lv_bipush (v := (-2)) hx hb dX12_februaries_25 rfl ?_
  obtain ⟨r27, μ27, er27, h⟩ := av_bd2 h
  refine av_goI hR (av_cV (As := [.int (-2)]) (rest := []) E X hR hl.1 (CX12_bad l g er27) kk_X12_81 (av_room (by omega) (by decide)) av_t98 (by decide) rfl rfl (Nat.le_of_ble_eq_true rfl) ⟨Nat.zero_le _, Nat.zero_le _⟩ dX12_februaries_27) (fun H locs hR => ?_)
  exact av_ri E hR (av_r2 h) dX12_februaries_30

set_option maxHeartbeats 4000000 in
set_option maxRecDepth 100000 in
theorem CX12_februaries (l : Launch) (g : Gl) {a1 : Int32} {a2 : Int32} {μ : Mem} {zr : Int32} {zm : Mem} (h : fX12_februaries a1 a2 μ = some (zr, zm)) : av_MI l yX12_februaries cX12_februaries 7 6 (some .int) av_wm g [.ref (g.2.2 98), .int a1, .int a2] μ zr zm := by
  refine av_ent (own := RX12) (by decide) (Nat.le_of_ble_eq_true rfl) rfl (fun p e s m args below meth c E X hR ls hl => ?_)
  have hl : lv_has ls 7 [(0, .ref (g.2.2 98)), (1, .int a1), (2, .int a2)] := hl
  obtain ⟨hx, hb, hr, hml, hown, hts, hlocks⟩ := id E
  unfold fX12_februaries at h
  refine lv_iload_n hx hb dX12_februaries_0 rfl (lv_at hl 1 rfl) ?_
  refine lv_i2l hx hb dX12_februaries_1 rfl ?_
  refine lv_lconst (v := 0) hx hb dX12_februaries_2 rfl ?_
  refine lv_ldc2 (v := 999999) hx hb hown (hts _ kL_X12_241) dX12_februaries_3 ?_
  obtain ⟨r6, er6, h⟩ := av_bd h
  refine av_goI hR (av_cS (As := [.long (Int32.toInt64 a1), .long 0, .long 999999]) (rest := []) E X hR hl.1 (CX12_in l g er6) kk_X12_68 (av_room (by omega) (by decide)) rfl (Nat.le_of_ble_eq_true rfl) ⟨Nat.zero_le _, Nat.zero_le _⟩ dX12_februaries_6) (fun H locs hR => ?_)
  refine lv_if_eq (tgt := 24) hx hb dX12_februaries_9 (by decide) (fun c9 => ?_) (fun c9 => ?_)
  · have h := av_it c9 h
    exact tX12_februaries_24 E X h hR (lv_sub hl [0] rfl)
  · have h := av_if c9 h
    refine lv_iload_n hx hb dX12_februaries_12 rfl (lv_at hl 2 rfl) ?_
    refine lv_i2l hx hb dX12_februaries_13 rfl ?_
    refine lv_lconst (v := 0) hx hb dX12_februaries_14 rfl ?_
    refine lv_ldc2 (v := 60) hx hb hown (hts _ kL_X12_75) dX12_februaries_15 ?_
    obtain ⟨r18, er18, h⟩ := av_bd h
    refine av_goI hR (av_cS (As := [.long (Int32.toInt64 a2), .long 0, .long 60]) (rest := []) E X hR hl.1 (CX12_in l g er18) kk_X12_68 (av_room (by omega) (by decide)) rfl (Nat.le_of_ble_eq_true rfl) ⟨Nat.zero_le _, Nat.zero_le _⟩ dX12_februaries_18) (fun H locs hR => ?_)
    refine lv_if_ne (tgt := 31) hx hb dX12_februaries_21 (by decide) (fun c21 => ?_) (fun c21 => ?_)
    · have h := av_if c21 h
      refine lv_aload_n hx hb dX12_februaries_31 rfl (lv_at hl 0 rfl) ?_
      obtain ⟨r32, er32, h⟩ := av_bd h
      refine av_goI hR (av_cV (As := []) (rest := []) E X hR hl.1 (CX12_voters l g er32) kk_X12_72 (av_room (by omega) (by decide)) av_t98 (by decide) rfl rfl (Nat.le_of_ble_eq_true rfl) ⟨Nat.zero_le _, Nat.zero_le _⟩ dX12_februaries_32) (fun H locs hR => ?_)
      refine lv_if_eq (tgt := 45) hx hb dX12_februaries_35 (by decide) (fun c35 => ?_) (fun c35 => ?_)
      · have h := av_it c35 h
        exact tX12_februaries_45 E X h hR (lv_sub hl [0] rfl)
      · have h := av_if c35 h
        refine lv_aload_n hx hb dX12_februaries_38 rfl (lv_at hl 0 rfl) ?_
        obtain ⟨r39, er39, h⟩ := av_bd h
        refine av_goI hR (av_cV (As := []) (rest := []) E X hR hl.1 (CX12_ledges l g er39) kk_X12_64 (av_room (by omega) (by decide)) av_t98 (by decide) rfl rfl (Nat.le_of_ble_eq_true rfl) ⟨Nat.zero_le _, Nat.zero_le _⟩ dX12_februaries_39) (fun H locs hR => ?_)
        refine lv_if_ne (tgt := 50) hx hb dX12_februaries_42 (by decide) (fun c42 => ?_) (fun c42 => ?_)
        · have h := av_if c42 h
          refine lv_iload_n hx hb dX12_februaries_50 rfl (lv_at hl 1 rfl) ?_
          refine lv_i2l hx hb dX12_februaries_51 rfl ?_
          obtain ⟨x3_52, ex3_52, h⟩ := av_bd h
          replace ex3_52 := Option.some.inj ex3_52
          rw [ex3_52]
          refine lv_lstore_n (lv' := [(3, .long x3_52), (0, .ref (g.2.2 98)), (1, .int a1), (2, .int a2)]) hx hb dX12_februaries_52 rfl hl (by decide) rfl (fun ls hl => ?_)
          refine lv_aload_n hx hb dX12_februaries_53 rfl (lv_at hl 1 rfl) ?_
          obtain ⟨μ54, eμ54, h⟩ := av_bd h
          refine av_goV hR (av_cV (As := []) (rest := []) E X hR hl.1 (CX12_layHand l g eμ54) kk_X12_161 (av_room (by omega) (by decide)) av_t98 (by decide) rfl rfl (Nat.le_of_ble_eq_true rfl) ⟨Nat.zero_le _, Nat.zero_le _⟩ dX12_februaries_54) (fun H locs hR => ?_)
          refine lv_iconst (v := 0) hx hb dX12_februaries_57 rfl ?_
          refine lv_istore (lv' := [(5, .int 0), (3, .long x3_52), (0, .ref (g.2.2 98)), (1, .int a1), (2, .int a2)]) hx hb dX12_februaries_58 hl (by decide) rfl (fun ls hl => ?_)
          exact tX12_februaries_60 E X _ h hR (lv_sub hl [2, 4, 1, 0] rfl)
        · have h := av_it c42 h
          exact tX12_februaries_45 E X h hR (lv_sub hl [0] rfl)
    · have h := av_it c21 h
      exact tX12_februaries_24 E X h hR (lv_sub hl [0] rfl)

set_option maxHeartbeats 4000000 in
set_option maxRecDepth 100000 in
theorem CX12_type (l : Launch) (g : Gl) {a1 : Int32} {μ : Mem} {zr : Int32} {zm : Mem} (h : fX12_type a1 μ = some (zr, zm)) : av_MI l yX12_type cX12_type 2 2 (some .int) av_wm g [.ref (g.2.2 98), .int a1] μ zr zm := by
  refine av_ent (own := RX12) (by decide) (Nat.le_of_ble_eq_true rfl) rfl (fun p e s m args below meth c E X hR ls hl => ?_)
  have hl : lv_has ls 2 [(0, .ref (g.2.2 98)), (1, .int a1)] := hl
  obtain ⟨hx, hb, hr, hml, hown, hts, hlocks⟩ := id E
  unfold fX12_type at h
  refine lv_iload_n hx hb dX12_type_0 rfl (lv_at hl 1 rfl) ?_
  refine lv_i2l hx hb dX12_type_1 rfl ?_
  refine lv_lconst (v := 0) hx hb dX12_type_2 rfl ?_
  refine lv_ldc2 (v := 127) hx hb hown (hts _ kL_X12_251) dX12_type_3 ?_
  obtain ⟨r6, er6, h⟩ := av_bd h
  refine av_goI hR (av_cS (As := [.long (Int32.toInt64 a1), .long 0, .long 127]) (rest := []) E X hR hl.1 (CX12_in l g er6) kk_X12_68 (av_room (by omega) (by decide)) rfl (Nat.le_of_ble_eq_true rfl) ⟨Nat.zero_le _, Nat.zero_le _⟩ dX12_type_6) (fun H locs hR => ?_)
  refine lv_if_ne (tgt := 19) hx hb dX12_type_9 (by decide) (fun c9 => ?_) (fun c9 => ?_)
  · have h := av_if c9 h
    refine lv_aload_n hx hb dX12_type_19 rfl (lv_at hl 0 rfl) ?_
    refine gf_X12_253 E X hR av_t98 dX12_type_20 ?_
    refine lv_sipush (v := 150) hx hb dX12_type_23 rfl ?_
    refine lv_icmp_ne (tgt := 34) hx hb dX12_type_26 (by decide) (fun c26 => ?_) (fun c26 => ?_)
    · have h := av_if c26 h
      refine lv_aload_n hx hb dX12_type_34 rfl (lv_at hl 0 rfl) ?_
      refine gf_X12_51 E X hR av_t98 dX12_type_35 av_r98_21 ?_
      refine lv_aload_n hx hb dX12_type_38 rfl (lv_at hl 0 rfl) ?_
      refine gf_X12_253 E X hR av_t98 dX12_type_39 ?_
      refine lv_iload_n hx hb dX12_type_42 rfl (lv_at hl 1 rfl) ?_
      obtain ⟨μ43, eμ43, h⟩ := av_bd h
      refine av_is E X hR av_t111 eμ43 dX12_type_43 (fun H locs hR => ?_)
      refine lv_aload_n hx hb dX12_type_44 rfl (lv_at hl 0 rfl) ?_
      refine lv_dup hx hb dX12_type_45 rfl ?_
      refine gf_X12_253 E X hR av_t98 dX12_type_46 ?_
      refine lv_iconst (v := 1) hx hb dX12_type_49 rfl ?_
      refine lv_iadd hx hb dX12_type_50 ?_
      obtain ⟨μ51, eμ51, h⟩ := av_bd h
      replace eμ51 := Option.some.inj eμ51
      refine pf_X12_253 E X hR av_t98 dX12_type_51 eμ51 (fun H locs hR => ?_)
      refine lv_aload_n hx hb dX12_type_54 rfl (lv_at hl 0 rfl) ?_
      refine gf_X12_253 E X hR av_t98 dX12_type_55 ?_
      exact av_ri E hR (av_r2 h) dX12_type_58
    · have h := av_it c26 h
      refine lv_aload_n hx hb dX12_type_29 rfl (lv_at hl 0 rfl) ?_
      obtain ⟨r30, μ30, er30, h⟩ := av_bd2 h
      refine av_goI hR (av_cV (As := []) (rest := []) E X hR hl.1 (CX12_full l g er30) kk_X12_85 (av_room (by omega) (by decide)) av_t98 (by decide) rfl rfl (Nat.le_of_ble_eq_true rfl) ⟨Nat.zero_le _, Nat.zero_le _⟩ dX12_type_30) (fun H locs hR => ?_)
      exact av_ri E hR (av_r2 h) dX12_type_33
  · have h := av_it c9 h
    refine lv_aload_n hx hb dX12_type_12 rfl (lv_at hl 0 rfl) ?_
    refine lv_bipush (v := (-2)) hx hb dX12_type_13 rfl ?_
    obtain ⟨r15, μ15, er15, h⟩ := av_bd2 h
    refine av_goI hR (av_cV (As := [.int (-2)]) (rest := []) E X hR hl.1 (CX12_bad l g er15) kk_X12_81 (av_room (by omega) (by decide)) av_t98 (by decide) rfl rfl (Nat.le_of_ble_eq_true rfl) ⟨Nat.zero_le _, Nat.zero_le _⟩ dX12_type_15) (fun H locs hR => ?_)
    exact av_ri E hR (av_r2 h) dX12_type_18

set_option maxHeartbeats 4000000 in
set_option maxRecDepth 100000 in
theorem CX12_clear (l : Launch) (g : Gl) {μ : Mem} {zr : Int32} {zm : Mem} (h : fX12_clear μ = some (zr, zm)) : av_MI l yX12_clear cX12_clear 2 1 (some .int) av_wm g [.ref (g.2.2 98)] μ zr zm := by
  refine av_ent (own := RX12) (by decide) (Nat.le_of_ble_eq_true rfl) rfl (fun p e s m args below meth c E X hR ls hl => ?_)
  have hl : lv_has ls 2 [(0, .ref (g.2.2 98))] := hl
  obtain ⟨hx, hb, hr, hml, hown, hts, hlocks⟩ := id E
  unfold fX12_clear at h
  refine lv_aload_n hx hb dX12_clear_0 rfl (lv_at hl 0 rfl) ?_
  refine gf_X12_253 E X hR av_t98 dX12_clear_1 ?_
  obtain ⟨x1_4, ex1_4, h⟩ := av_bd h
  replace ex1_4 := Option.some.inj ex1_4
  rw [ex1_4]
  refine lv_istore_n (lv' := [(1, .int x1_4), (0, .ref (g.2.2 98))]) hx hb dX12_clear_4 rfl hl (by decide) rfl (fun ls hl => ?_)
  refine lv_aload_n hx hb dX12_clear_5 rfl (lv_at hl 1 rfl) ?_
  refine lv_iconst (v := 0) hx hb dX12_clear_6 rfl ?_
  obtain ⟨μ7, eμ7, h⟩ := av_bd h
  replace eμ7 := Option.some.inj eμ7
  refine pf_X12_253 E X hR av_t98 dX12_clear_7 eμ7 (fun H locs hR => ?_)
  refine lv_iload_n hx hb dX12_clear_10 rfl (lv_at hl 0 rfl) ?_
  exact av_ri E hR (av_r2 h) dX12_clear_11

set_option maxHeartbeats 4000000 in
set_option maxRecDepth 100000 in
theorem CX12_isSmall (l : Launch) (g : Gl) {a0 : Int32} {μ : Mem} {zr : Int32} (h : fX12_isSmall a0 μ = some zr) : av_MI l yX12_isSmall cX12_isSmall 1 2 (some .boolean) av_wm g [.int a0] μ zr μ := by
  refine av_ent (own := RX12) (by decide) (Nat.le_of_ble_eq_true rfl) rfl (fun p e s m args below meth c E X hR ls hl => ?_)
  have hl : lv_has ls 1 [(0, .int a0)] := hl
  obtain ⟨hx, hb, hr, hml, hown, hts, hlocks⟩ := id E
  have hμ : μ = μ := rfl
  unfold fX12_isSmall at h
  refine lv_iload_n hx hb dX12_isSmall_0 rfl (lv_at hl 0 rfl) ?_
  refine lv_i2l hx hb dX12_isSmall_1 rfl ?_
  refine lv_ldc2 (v := 97) hx hb hown (hts _ kL_X12_256) dX12_isSmall_2 ?_
  refine lv_ldc2 (v := 122) hx hb hown (hts _ kL_X12_258) dX12_isSmall_5 ?_
  obtain ⟨r8, er8, h⟩ := av_bd h
  refine av_goI hR (av_cS (As := [.long (Int32.toInt64 a0), .long 97, .long 122]) (rest := []) E X hR hl.1 (CX12_in l g er8) kk_X12_68 (av_room (by omega) (by decide)) rfl (Nat.le_of_ble_eq_true rfl) ⟨Nat.zero_le _, Nat.zero_le _⟩ dX12_isSmall_8) (fun H locs hR => ?_)
  obtain ⟨z11, ez11, h⟩ := av_bd h
  obtain ⟨rfl, hn11⟩ := av_z_e ez11
  exact av_rz E hR hn11 ⟨Option.some.inj h, hμ.symm⟩ dX12_isSmall_11

set_option maxHeartbeats 4000000 in
set_option maxRecDepth 100000 in
theorem CX12_isFigure (l : Launch) (g : Gl) {a0 : Int32} {μ : Mem} {zr : Int32} (h : fX12_isFigure a0 μ = some zr) : av_MI l yX12_isFigure cX12_isFigure 1 2 (some .boolean) av_wm g [.int a0] μ zr μ := by
  refine av_ent (own := RX12) (by decide) (Nat.le_of_ble_eq_true rfl) rfl (fun p e s m args below meth c E X hR ls hl => ?_)
  have hl : lv_has ls 1 [(0, .int a0)] := hl
  obtain ⟨hx, hb, hr, hml, hown, hts, hlocks⟩ := id E
  have hμ : μ = μ := rfl
  unfold fX12_isFigure at h
  refine lv_iload_n hx hb dX12_isFigure_0 rfl (lv_at hl 0 rfl) ?_
  refine lv_i2l hx hb dX12_isFigure_1 rfl ?_
  refine lv_ldc2 (v := 48) hx hb hown (hts _ kL_X12_260) dX12_isFigure_2 ?_
  refine lv_ldc2 (v := 57) hx hb hown (hts _ kL_X12_262) dX12_isFigure_5 ?_
  obtain ⟨r8, er8, h⟩ := av_bd h
  refine av_goI hR (av_cS (As := [.long (Int32.toInt64 a0), .long 48, .long 57]) (rest := []) E X hR hl.1 (CX12_in l g er8) kk_X12_68 (av_room (by omega) (by decide)) rfl (Nat.le_of_ble_eq_true rfl) ⟨Nat.zero_le _, Nat.zero_le _⟩ dX12_isFigure_8) (fun H locs hR => ?_)
  obtain ⟨z11, ez11, h⟩ := av_bd h
  obtain ⟨rfl, hn11⟩ := av_z_e ez11
  exact av_rz E hR hn11 ⟨Option.some.inj h, hμ.symm⟩ dX12_isFigure_11

set_option maxHeartbeats 4000000 in
set_option maxRecDepth 100000 in
theorem tX12_lookAt_299 {p : Program} {l : Launch} {e : Env} {s : State} {m : MethodId} {args : Array Value} {below : List Frame} {meth : Method} {c : Code} {g : Gl} {zm : Mem} (E : av_E p s m args meth c cX12_lookAt RX12 5 none) (X : av_X av_wm g s) :
    ∀ {y1 : Int32} {μ : Mem} {H : Heap} {locs : List Loc} {ls : Array Slot}, fX12_lookAt_299 y1 μ = some zm → av_R av_wm g μ s H locs → lv_has ls 5 [] → W p l e (rmN 3) s m args below meth c H locs 0 0 (MQ below (va_Qv (fun u => u = zm) (av_B av_wm g) (av_A av_wm g)) args s 0 0 (av_A av_wm g)) (F0 m 299 ls [.int y1, .ref (g.2.2 98)]) := by
  obtain ⟨hx, hb, hr, hml, hown, hts, hlocks⟩ := id E
  intro y1 μ H locs ls h hR hl
  unfold fX12_lookAt_299 at h
  obtain ⟨μ299, eμ299, h⟩ := av_bd h
  replace eμ299 := Option.some.inj eμ299
  refine pf_X12_270 E X hR av_t98 dX12_lookAt_299 eμ299 (fun H locs hR => ?_)
  exact av_rv E hR (Option.some.inj h) dX12_lookAt_302

set_option maxHeartbeats 4000000 in
set_option maxRecDepth 100000 in
theorem tX12_lookAt_295 {p : Program} {l : Launch} {e : Env} {s : State} {m : MethodId} {args : Array Value} {below : List Frame} {meth : Method} {c : Code} {g : Gl} {zm : Mem} (E : av_E p s m args meth c cX12_lookAt RX12 5 none) (X : av_X av_wm g s) :
    ∀ {μ : Mem} {H : Heap} {locs : List Loc} {ls : Array Slot}, fX12_lookAt_295 μ = some zm → av_R av_wm g μ s H locs → lv_has ls 5 [(0, .ref (g.2.2 98))] → W p l e (rmN 3) s m args below meth c H locs 0 0 (MQ below (va_Qv (fun u => u = zm) (av_B av_wm g) (av_A av_wm g)) args s 0 0 (av_A av_wm g)) (F0 m 295 ls [.ref (g.2.2 98)]) := by
  obtain ⟨hx, hb, hr, hml, hown, hts, hlocks⟩ := id E
  intro μ H locs ls h hR hl
  unfold fX12_lookAt_295 at h
  refine lv_aload_n hx hb dX12_lookAt_295 rfl (lv_at hl 0 rfl) ?_
  refine gf_X12_270 E X hR av_t98 dX12_lookAt_296 ?_
  exact tX12_lookAt_299 E X h hR (lv_sub hl [] rfl)

set_option maxHeartbeats 4000000 in
set_option maxRecDepth 100000 in
theorem tX12_lookAt_274 {p : Program} {l : Launch} {e : Env} {s : State} {m : MethodId} {args : Array Value} {below : List Frame} {meth : Method} {c : Code} {g : Gl} {zm : Mem} (E : av_E p s m args meth c cX12_lookAt RX12 5 none) (X : av_X av_wm g s) :
    ∀ {μ : Mem} {H : Heap} {locs : List Loc} {ls : Array Slot}, fX12_lookAt_274 μ = some zm → av_R av_wm g μ s H locs → lv_has ls 5 [(0, .ref (g.2.2 98))] → W p l e (rmN 3) s m args below meth c H locs 0 0 (MQ below (va_Qv (fun u => u = zm) (av_B av_wm g) (av_A av_wm g)) args s 0 0 (av_A av_wm g)) (F0 m 274 ls []) := by
  obtain ⟨hx, hb, hr, hml, hown, hts, hlocks⟩ := id E
  intro μ H locs ls h hR hl
  unfold fX12_lookAt_274 at h
  refine lv_aload_n hx hb dX12_lookAt_274 rfl (lv_at hl 0 rfl) ?_
  refine lv_aload_n hx hb dX12_lookAt_275 rfl (lv_at hl 0 rfl) ?_
  refine gf_X12_270 E X hR av_t98 dX12_lookAt_276 ?_
  refine lv_iconst (v := 2) hx hb dX12_lookAt_279 rfl ?_
  refine lv_icmp_ne (tgt := 295) hx hb dX12_lookAt_280 (by decide) (fun c280 => ?_) (fun c280 => ?_)
  · have h := av_if c280 h
    exact tX12_lookAt_295 E X h hR (lv_sub hl [0] rfl)
  · have h := av_it c280 h
    refine lv_aload_n hx hb dX12_lookAt_283 rfl (lv_at hl 0 rfl) ?_
    refine gf_X12_267 E X hR av_t98 dX12_lookAt_284 ?_
    refine lv_iconst (v := 2) hx hb dX12_lookAt_287 rfl ?_
    refine lv_icmp_le (tgt := 295) hx hb dX12_lookAt_288 (by decide) (fun c288 => ?_) (fun c288 => ?_)
    · have h := av_it c288 h
      exact tX12_lookAt_295 E X h hR (lv_sub hl [0] rfl)
    · have h := av_if c288 h
      refine lv_iconst (v := 4) hx hb dX12_lookAt_291 rfl ?_
      refine lv_goto (tgt := 299) hx hb dX12_lookAt_292 (by decide) ?_
      exact tX12_lookAt_299 E X h hR (lv_sub hl [] rfl)

set_option maxHeartbeats 4000000 in
set_option maxRecDepth 100000 in
theorem tX12_lookAt_218 {p : Program} {l : Launch} {e : Env} {s : State} {m : MethodId} {args : Array Value} {below : List Frame} {meth : Method} {c : Code} {g : Gl} {zm : Mem} (E : av_E p s m args meth c cX12_lookAt RX12 5 none) (X : av_X av_wm g s) :
    ∀ (n : Nat) {x4 : Int32} {μ : Mem} {H : Heap} {locs : List Loc} {ls : Array Slot}, fX12_lookAt_218 n x4 μ = some zm → av_R av_wm g μ s H locs → lv_has ls 5 [(0, .ref (g.2.2 98)), (4, .int x4)] → W p l e (rmN 3) s m args below meth c H locs 0 0 (MQ below (va_Qv (fun u => u = zm) (av_B av_wm g) (av_A av_wm g)) args s 0 0 (av_A av_wm g)) (F0 m 218 ls []) := by
  obtain ⟨hx, hb, hr, hml, hown, hts, hlocks⟩ := id E
  intro n
  induction n with
  | zero =>
    intro x4 μ H locs ls h hR hl
    cases h
  | succ n ih =>
    intro x4 μ H locs ls h hR hl
    unfold fX12_lookAt_218 at h
    refine lv_iload hx hb dX12_lookAt_218 (lv_at hl 1 rfl) ?_
    refine lv_aload_n hx hb dX12_lookAt_220 rfl (lv_at hl 0 rfl) ?_
    refine gf_X12_267 E X hR av_t98 dX12_lookAt_221 ?_
    refine lv_icmp_ge (tgt := 274) hx hb dX12_lookAt_224 (by decide) (fun c224 => ?_) (fun c224 => ?_)
    · have h := av_it c224 h
      exact tX12_lookAt_274 E X h hR (lv_sub hl [0] rfl)
    · have h := av_if c224 h
      refine lv_iload hx hb dX12_lookAt_227 (lv_at hl 1 rfl) ?_
      refine lv_iconst (v := 2) hx hb dX12_lookAt_229 rfl ?_
      refine lv_icmp_ge (tgt := 274) hx hb dX12_lookAt_230 (by decide) (fun c230 => ?_) (fun c230 => ?_)
      · have h := av_it c230 h
        exact tX12_lookAt_274 E X h hR (lv_sub hl [0] rfl)
      · have h := av_if c230 h
        refine lv_aload_n hx hb dX12_lookAt_233 rfl (lv_at hl 0 rfl) ?_
        refine gf_X12_270 E X hR av_t98 dX12_lookAt_234 ?_
        refine lv_iconst (v := 2) hx hb dX12_lookAt_237 rfl ?_
        refine lv_icmp_ne (tgt := 274) hx hb dX12_lookAt_238 (by decide) (fun c238 => ?_) (fun c238 => ?_)
        · have h := av_if c238 h
          exact tX12_lookAt_274 E X h hR (lv_sub hl [0] rfl)
        · have h := av_it c238 h
          refine lv_aload_n hx hb dX12_lookAt_241 rfl (lv_at hl 0 rfl) ?_
          refine lv_bipush (v := 10) hx hb dX12_lookAt_242 rfl ?_
          refine lv_aload_n hx hb dX12_lookAt_244 rfl (lv_at hl 0 rfl) ?_
          refine gf_X12_273 E X hR av_t98 dX12_lookAt_245 ?_
          refine lv_imul hx hb dX12_lookAt_248 ?_
          refine lv_aload_n hx hb dX12_lookAt_249 rfl (lv_at hl 0 rfl) ?_
          refine gf_X12_51 E X hR av_t98 dX12_lookAt_250 av_r98_21 ?_
          refine lv_aload_n hx hb dX12_lookAt_253 rfl (lv_at hl 0 rfl) ?_
          refine gf_X12_264 E X hR av_t98 dX12_lookAt_254 ?_
          refine lv_iload hx hb dX12_lookAt_257 (lv_at hl 1 rfl) ?_
          refine lv_iadd hx hb dX12_lookAt_259 ?_
          obtain ⟨r260, er260, h⟩ := av_bd h
          refine av_il E X hR av_t111 er260 dX12_lookAt_260 ?_
          refine lv_iadd hx hb dX12_lookAt_261 ?_
          refine lv_bipush (v := 48) hx hb dX12_lookAt_262 rfl ?_
          refine lv_isub hx hb dX12_lookAt_264 ?_
          obtain ⟨μ265, eμ265, h⟩ := av_bd h
          replace eμ265 := Option.some.inj eμ265
          refine pf_X12_273 E X hR av_t98 dX12_lookAt_265 eμ265 (fun H locs hR => ?_)
          obtain ⟨x4_268, ex4_268, h⟩ := av_bd h
          replace ex4_268 := Option.some.inj ex4_268
          refine lv_iinc (v := x4_268) (lv' := [(4, .int x4_268), (0, .ref (g.2.2 98))]) hx hb dX12_lookAt_268 hl (k := 1) rfl ex4_268 (by decide) rfl (fun ls hl => ?_)
          refine lv_goto (tgt := 218) hx hb dX12_lookAt_271 (by decide) ?_
          exact ih h hR (lv_sub hl [1, 0] rfl)

set_option maxHeartbeats 4000000 in
set_option maxRecDepth 100000 in
theorem tX12_lookAt_215 {p : Program} {l : Launch} {e : Env} {s : State} {m : MethodId} {args : Array Value} {below : List Frame} {meth : Method} {c : Code} {g : Gl} {zm : Mem} (E : av_E p s m args meth c cX12_lookAt RX12 5 none) (X : av_X av_wm g s) :
    ∀ {μ : Mem} {H : Heap} {locs : List Loc} {ls : Array Slot}, fX12_lookAt_215 μ = some zm → av_R av_wm g μ s H locs → lv_has ls 5 [(0, .ref (g.2.2 98))] → W p l e (rmN 3) s m args below meth c H locs 0 0 (MQ below (va_Qv (fun u => u = zm) (av_B av_wm g) (av_A av_wm g)) args s 0 0 (av_A av_wm g)) (F0 m 215 ls []) := by
  obtain ⟨hx, hb, hr, hml, hown, hts, hlocks⟩ := id E
  intro μ H locs ls h hR hl
  unfold fX12_lookAt_215 at h
  refine lv_iconst (v := 0) hx hb dX12_lookAt_215 rfl ?_
  refine lv_istore (lv' := [(4, .int 0), (0, .ref (g.2.2 98))]) hx hb dX12_lookAt_216 hl (by decide) rfl (fun ls hl => ?_)
  exact tX12_lookAt_218 E X _ h hR (lv_sub hl [1, 0] rfl)

set_option maxHeartbeats 4000000 in
set_option maxRecDepth 100000 in
theorem tX12_lookAt_208 {p : Program} {l : Launch} {e : Env} {s : State} {m : MethodId} {args : Array Value} {below : List Frame} {meth : Method} {c : Code} {g : Gl} {zm : Mem} (E : av_E p s m args meth c cX12_lookAt RX12 5 none) (X : av_X av_wm g s) {k136 : Int32 → Mem → Option (Mem)} (hk136 : ∀ {x3 : Int32} {μ : Mem} {H : Heap} {locs : List Loc} {ls : Array Slot}, k136 x3 μ = some zm → av_R av_wm g μ s H locs → lv_has ls 5 [(0, .ref (g.2.2 98)), (3, .int x3)] → W p l e (rmN 3) s m args below meth c H locs 0 0 (MQ below (va_Qv (fun u => u = zm) (av_B av_wm g) (av_A av_wm g)) args s 0 0 (av_A av_wm g)) (F0 m 136 ls [])) :
    ∀ {x3 : Int32} {y1 : Int32} {y2 : Int32} {μ : Mem} {H : Heap} {locs : List Loc} {ls : Array Slot}, fX12_lookAt_208 k136 x3 y1 y2 μ = some zm → av_R av_wm g μ s H locs → lv_has ls 5 [(0, .ref (g.2.2 98)), (3, .int x3)] → W p l e (rmN 3) s m args below meth c H locs 0 0 (MQ below (va_Qv (fun u => u = zm) (av_B av_wm g) (av_A av_wm g)) args s 0 0 (av_A av_wm g)) (F0 m 208 ls [.int y2, .int y1, .ref (g.2.2 98)]) := by
  obtain ⟨hx, hb, hr, hml, hown, hts, hlocks⟩ := id E
  intro x3 y1 y2 μ H locs ls h hR hl
  unfold fX12_lookAt_208 at h
  refine lv_iadd hx hb dX12_lookAt_208 ?_
  obtain ⟨μ209, eμ209, h⟩ := av_bd h
  replace eμ209 := Option.some.inj eμ209
  refine pf_X12_267 E X hR av_t98 dX12_lookAt_209 eμ209 (fun H locs hR => ?_)
  refine lv_goto (tgt := 136) hx hb dX12_lookAt_212 (by decide) ?_
  exact hk136 h hR (lv_sub hl [0, 1] rfl)

set_option maxHeartbeats 4000000 in
set_option maxRecDepth 100000 in
theorem tX12_lookAt_193 {p : Program} {l : Launch} {e : Env} {s : State} {m : MethodId} {args : Array Value} {below : List Frame} {meth : Method} {c : Code} {g : Gl} {zm : Mem} (E : av_E p s m args meth c cX12_lookAt RX12 5 none) (X : av_X av_wm g s) {k136 : Int32 → Mem → Option (Mem)} (hk136 : ∀ {x3 : Int32} {μ : Mem} {H : Heap} {locs : List Loc} {ls : Array Slot}, k136 x3 μ = some zm → av_R av_wm g μ s H locs → lv_has ls 5 [(0, .ref (g.2.2 98)), (3, .int x3)] → W p l e (rmN 3) s m args below meth c H locs 0 0 (MQ below (va_Qv (fun u => u = zm) (av_B av_wm g) (av_A av_wm g)) args s 0 0 (av_A av_wm g)) (F0 m 136 ls [])) :
    ∀ {y0 : Int32} {μ : Mem} {H : Heap} {locs : List Loc} {ls : Array Slot}, fX12_lookAt_193 k136 y0 μ = some zm → av_R av_wm g μ s H locs → lv_has ls 5 [(0, .ref (g.2.2 98))] → W p l e (rmN 3) s m args below meth c H locs 0 0 (MQ below (va_Qv (fun u => u = zm) (av_B av_wm g) (av_A av_wm g)) args s 0 0 (av_A av_wm g)) (F0 m 193 ls [.int y0]) := by
  obtain ⟨hx, hb, hr, hml, hown, hts, hlocks⟩ := id E
  intro y0 μ H locs ls h hR hl
  unfold fX12_lookAt_193 at h
  refine lv_istore_n (lv' := [(3, .int y0), (0, .ref (g.2.2 98))]) hx hb dX12_lookAt_193 rfl hl (by decide) rfl (fun ls hl => ?_)
  refine lv_aload_n hx hb dX12_lookAt_194 rfl (lv_at hl 1 rfl) ?_
  refine lv_dup hx hb dX12_lookAt_195 rfl ?_
  refine gf_X12_267 E X hR av_t98 dX12_lookAt_196 ?_
  refine lv_iload_n hx hb dX12_lookAt_199 rfl (lv_at hl 0 rfl) ?_
  refine lv_if_eq (tgt := 207) hx hb dX12_lookAt_200 (by decide) (fun c200 => ?_) (fun c200 => ?_)
  · have h := av_it c200 h
    refine lv_iconst (v := 0) hx hb dX12_lookAt_207 rfl ?_
    exact tX12_lookAt_208 E X hk136 h hR (lv_sub hl [1, 0] rfl)
  · have h := av_if c200 h
    refine lv_iconst (v := 1) hx hb dX12_lookAt_203 rfl ?_
    refine lv_goto (tgt := 208) hx hb dX12_lookAt_204 (by decide) ?_
    exact tX12_lookAt_208 E X hk136 h hR (lv_sub hl [1, 0] rfl)

set_option maxHeartbeats 4000000 in
set_option maxRecDepth 100000 in
theorem tX12_lookAt_136 {p : Program} {l : Launch} {e : Env} {s : State} {m : MethodId} {args : Array Value} {below : List Frame} {meth : Method} {c : Code} {g : Gl} {zm : Mem} (E : av_E p s m args meth c cX12_lookAt RX12 5 none) (X : av_X av_wm g s) :
    ∀ (n : Nat) {x3 : Int32} {μ : Mem} {H : Heap} {locs : List Loc} {ls : Array Slot}, fX12_lookAt_136 n x3 μ = some zm → av_R av_wm g μ s H locs → lv_has ls 5 [(0, .ref (g.2.2 98)), (3, .int x3)] → W p l e (rmN 3) s m args below meth c H locs 0 0 (MQ below (va_Qv (fun u => u = zm) (av_B av_wm g) (av_A av_wm g)) args s 0 0 (av_A av_wm g)) (F0 m 136 ls []) := by
  obtain ⟨hx, hb, hr, hml, hown, hts, hlocks⟩ := id E
  intro n
  induction n with
  | zero =>
    intro x3 μ H locs ls h hR hl
    cases h
  | succ n ih =>
    intro x3 μ H locs ls h hR hl
    unfold fX12_lookAt_136 at h
    refine lv_iload_n hx hb dX12_lookAt_136 rfl (lv_at hl 1 rfl) ?_
    refine lv_if_eq (tgt := 215) hx hb dX12_lookAt_137 (by decide) (fun c137 => ?_) (fun c137 => ?_)
    · have h := av_it c137 h
      exact tX12_lookAt_215 E X h hR (lv_sub hl [0] rfl)
    · have h := av_if c137 h
      refine lv_aload_n hx hb dX12_lookAt_140 rfl (lv_at hl 0 rfl) ?_
      refine gf_X12_264 E X hR av_t98 dX12_lookAt_141 ?_
      refine lv_aload_n hx hb dX12_lookAt_144 rfl (lv_at hl 0 rfl) ?_
      refine gf_X12_267 E X hR av_t98 dX12_lookAt_145 ?_
      refine lv_iadd hx hb dX12_lookAt_148 ?_
      refine lv_aload_n hx hb dX12_lookAt_149 rfl (lv_at hl 0 rfl) ?_
      refine gf_X12_253 E X hR av_t98 dX12_lookAt_150 ?_
      refine lv_icmp_ge (tgt := 215) hx hb dX12_lookAt_153 (by decide) (fun c153 => ?_) (fun c153 => ?_)
      · have h := av_it c153 h
        exact tX12_lookAt_215 E X h hR (lv_sub hl [0] rfl)
      · have h := av_if c153 h
        refine lv_aload_n hx hb dX12_lookAt_156 rfl (lv_at hl 0 rfl) ?_
        refine gf_X12_51 E X hR av_t98 dX12_lookAt_157 av_r98_21 ?_
        refine lv_aload_n hx hb dX12_lookAt_160 rfl (lv_at hl 0 rfl) ?_
        refine gf_X12_264 E X hR av_t98 dX12_lookAt_161 ?_
        refine lv_aload_n hx hb dX12_lookAt_164 rfl (lv_at hl 0 rfl) ?_
        refine gf_X12_267 E X hR av_t98 dX12_lookAt_165 ?_
        refine lv_iadd hx hb dX12_lookAt_168 ?_
        obtain ⟨r169, er169, h⟩ := av_bd h
        refine av_il E X hR av_t111 er169 dX12_lookAt_169 ?_
        refine lv_istore (lv' := [(4, .int r169), (0, .ref (g.2.2 98)), (3, .int x3)]) hx hb dX12_lookAt_170 hl (by decide) rfl (fun ls hl => ?_)
        refine lv_aload_n hx hb dX12_lookAt_172 rfl (lv_at hl 1 rfl) ?_
        refine gf_X12_270 E X hR av_t98 dX12_lookAt_173 ?_
        refine lv_iconst (v := 1) hx hb dX12_lookAt_176 rfl ?_
        refine lv_icmp_ne (tgt := 188) hx hb dX12_lookAt_177 (by decide) (fun c177 => ?_) (fun c177 => ?_)
        · have h := av_if c177 h
          refine lv_iload hx hb dX12_lookAt_188 (lv_at hl 0 rfl) ?_
          obtain ⟨r190, er190, h⟩ := av_bd h
          refine av_goI hR (av_cS (As := [.int r169]) (rest := []) E X hR hl.1 (CX12_isFigure l g er190) kk_X12_279 (av_room (by omega) (by decide)) rfl (Nat.le_of_ble_eq_true rfl) ⟨Nat.zero_le _, Nat.zero_le _⟩ dX12_lookAt_190) (fun H locs hR => ?_)
          exact tX12_lookAt_193 E X ih h hR (lv_sub hl [1] rfl)
        · have h := av_it c177 h
          refine lv_iload hx hb dX12_lookAt_180 (lv_at hl 0 rfl) ?_
          obtain ⟨r182, er182, h⟩ := av_bd h
          refine av_goI hR (av_cS (As := [.int r169]) (rest := []) E X hR hl.1 (CX12_isSmall l g er182) kk_X12_276 (av_room (by omega) (by decide)) rfl (Nat.le_of_ble_eq_true rfl) ⟨Nat.zero_le _, Nat.zero_le _⟩ dX12_lookAt_182) (fun H locs hR => ?_)
          refine lv_goto (tgt := 193) hx hb dX12_lookAt_185 (by decide) ?_
          exact tX12_lookAt_193 E X ih h hR (lv_sub hl [1] rfl)

set_option maxHeartbeats 4000000 in
set_option maxRecDepth 100000 in
theorem tX12_lookAt_135 {p : Program} {l : Launch} {e : Env} {s : State} {m : MethodId} {args : Array Value} {below : List Frame} {meth : Method} {c : Code} {g : Gl} {zm : Mem} (E : av_E p s m args meth c cX12_lookAt RX12 5 none) (X : av_X av_wm g s) :
    ∀ {y0 : Int32} {μ : Mem} {H : Heap} {locs : List Loc} {ls : Array Slot}, fX12_lookAt_135 y0 μ = some zm → av_R av_wm g μ s H locs → lv_has ls 5 [(0, .ref (g.2.2 98))] → W p l e (rmN 3) s m args below meth c H locs 0 0 (MQ below (va_Qv (fun u => u = zm) (av_B av_wm g) (av_A av_wm g)) args s 0 0 (av_A av_wm g)) (F0 m 135 ls [.int y0]) := by
  obtain ⟨hx, hb, hr, hml, hown, hts, hlocks⟩ := id E
  intro y0 μ H locs ls h hR hl
  unfold fX12_lookAt_135 at h
  refine lv_istore_n (lv' := [(3, .int y0), (0, .ref (g.2.2 98))]) hx hb dX12_lookAt_135 rfl hl (by decide) rfl (fun ls hl => ?_)
  exact tX12_lookAt_136 E X _ h hR (lv_sub hl [1, 0] rfl)

set_option maxHeartbeats 4000000 in
set_option maxRecDepth 100000 in
theorem tX12_lookAt_114 {p : Program} {l : Launch} {e : Env} {s : State} {m : MethodId} {args : Array Value} {below : List Frame} {meth : Method} {c : Code} {g : Gl} {zm : Mem} (E : av_E p s m args meth c cX12_lookAt RX12 5 none) (X : av_X av_wm g s) :
    ∀ {y1 : Int32} {μ : Mem} {H : Heap} {locs : List Loc} {ls : Array Slot}, fX12_lookAt_114 y1 μ = some zm → av_R av_wm g μ s H locs → lv_has ls 5 [(0, .ref (g.2.2 98))] → W p l e (rmN 3) s m args below meth c H locs 0 0 (MQ below (va_Qv (fun u => u = zm) (av_B av_wm g) (av_A av_wm g)) args s 0 0 (av_A av_wm g)) (F0 m 114 ls [.int y1, .ref (g.2.2 98)]) := by
  obtain ⟨hx, hb, hr, hml, hown, hts, hlocks⟩ := id E
  intro y1 μ H locs ls h hR hl
  unfold fX12_lookAt_114 at h
  obtain ⟨μ114, eμ114, h⟩ := av_bd h
  replace eμ114 := Option.some.inj eμ114
  refine pf_X12_270 E X hR av_t98 dX12_lookAt_114 eμ114 (fun H locs hR => ?_)
  refine lv_aload_n hx hb dX12_lookAt_117 rfl (lv_at hl 0 rfl) ?_
  refine lv_iconst (v := 1) hx hb dX12_lookAt_118 rfl ?_
  obtain ⟨μ119, eμ119, h⟩ := av_bd h
  replace eμ119 := Option.some.inj eμ119
  refine pf_X12_267 E X hR av_t98 dX12_lookAt_119 eμ119 (fun H locs hR => ?_)
  refine lv_aload_n hx hb dX12_lookAt_122 rfl (lv_at hl 0 rfl) ?_
  refine gf_X12_270 E X hR av_t98 dX12_lookAt_123 ?_
  refine lv_iconst (v := 3) hx hb dX12_lookAt_126 rfl ?_
  refine lv_icmp_ge (tgt := 134) hx hb dX12_lookAt_127 (by decide) (fun c127 => ?_) (fun c127 => ?_)
  · have h := av_it c127 h
    refine lv_iconst (v := 0) hx hb dX12_lookAt_134 rfl ?_
    exact tX12_lookAt_135 E X h hR (lv_sub hl [0] rfl)
  · have h := av_if c127 h
    refine lv_iconst (v := 1) hx hb dX12_lookAt_130 rfl ?_
    refine lv_goto (tgt := 135) hx hb dX12_lookAt_131 (by decide) ?_
    exact tX12_lookAt_135 E X h hR (lv_sub hl [0] rfl)

set_option maxHeartbeats 4000000 in
set_option maxRecDepth 100000 in
theorem tX12_lookAt_43 {p : Program} {l : Launch} {e : Env} {s : State} {m : MethodId} {args : Array Value} {below : List Frame} {meth : Method} {c : Code} {g : Gl} {zm : Mem} (E : av_E p s m args meth c cX12_lookAt RX12 5 none) (X : av_X av_wm g s) :
    ∀ {μ : Mem} {H : Heap} {locs : List Loc} {ls : Array Slot}, fX12_lookAt_43 μ = some zm → av_R av_wm g μ s H locs → lv_has ls 5 [(0, .ref (g.2.2 98))] → W p l e (rmN 3) s m args below meth c H locs 0 0 (MQ below (va_Qv (fun u => u = zm) (av_B av_wm g) (av_A av_wm g)) args s 0 0 (av_A av_wm g)) (F0 m 43 ls []) := by
  obtain ⟨hx, hb, hr, hml, hown, hts, hlocks⟩ := id E
  intro μ H locs ls h hR hl
  unfold fX12_lookAt_43 at h
  refine lv_aload_n hx hb dX12_lookAt_43 rfl (lv_at hl 0 rfl) ?_
  refine lv_iconst (v := 0) hx hb dX12_lookAt_44 rfl ?_
  obtain ⟨μ45, eμ45, h⟩ := av_bd h
  replace eμ45 := Option.some.inj eμ45
  refine pf_X12_267 E X hR av_t98 dX12_lookAt_45 eμ45 (fun H locs hR => ?_)
  refine lv_aload_n hx hb dX12_lookAt_48 rfl (lv_at hl 0 rfl) ?_
  refine lv_iconst (v := 0) hx hb dX12_lookAt_49 rfl ?_
  obtain ⟨μ50, eμ50, h⟩ := av_bd h
  replace eμ50 := Option.some.inj eμ50
  refine pf_X12_270 E X hR av_t98 dX12_lookAt_50 eμ50 (fun H locs hR => ?_)
  refine lv_aload_n hx hb dX12_lookAt_53 rfl (lv_at hl 0 rfl) ?_
  refine lv_iconst (v := 0) hx hb dX12_lookAt_54 rfl ?_
  obtain ⟨μ55, eμ55, h⟩ := av_bd h
  replace eμ55 := Option.some.inj eμ55
  refine pf_X12_273 E X hR av_t98 dX12_lookAt_55 eμ55 (fun H locs hR => ?_)
  refine lv_aload_n hx hb dX12_lookAt_58 rfl (lv_at hl 0 rfl) ?_
  refine gf_X12_264 E X hR av_t98 dX12_lookAt_59 ?_
  refine lv_aload_n hx hb dX12_lookAt_62 rfl (lv_at hl 0 rfl) ?_
  refine gf_X12_253 E X hR av_t98 dX12_lookAt_63 ?_
  refine lv_icmp_ne (tgt := 70) hx hb dX12_lookAt_66 (by decide) (fun c66 => ?_) (fun c66 => ?_)
  · have h := av_if c66 h
    refine lv_aload_n hx hb dX12_lookAt_70 rfl (lv_at hl 0 rfl) ?_
    refine gf_X12_51 E X hR av_t98 dX12_lookAt_71 av_r98_21 ?_
    refine lv_aload_n hx hb dX12_lookAt_74 rfl (lv_at hl 0 rfl) ?_
    refine gf_X12_264 E X hR av_t98 dX12_lookAt_75 ?_
    obtain ⟨r78, er78, h⟩ := av_bd h
    refine av_il E X hR av_t111 er78 dX12_lookAt_78 ?_
    refine lv_istore_n (lv' := [(2, .int r78), (0, .ref (g.2.2 98))]) hx hb dX12_lookAt_79 rfl hl (by decide) rfl (fun ls hl => ?_)
    refine lv_aload_n hx hb dX12_lookAt_80 rfl (lv_at hl 1 rfl) ?_
    refine lv_iload_n hx hb dX12_lookAt_81 rfl (lv_at hl 0 rfl) ?_
    obtain ⟨r82, er82, h⟩ := av_bd h
    refine av_goI hR (av_cS (As := [.int r78]) (rest := [.ref (g.2.2 98)]) E X hR hl.1 (CX12_isSmall l g er82) kk_X12_276 (av_room (by omega) (by decide)) rfl (Nat.le_of_ble_eq_true rfl) ⟨Nat.zero_le _, Nat.zero_le _⟩ dX12_lookAt_82) (fun H locs hR => ?_)
    refine lv_if_eq (tgt := 92) hx hb dX12_lookAt_85 (by decide) (fun c85 => ?_) (fun c85 => ?_)
    · have h := av_it c85 h
      refine lv_iload_n hx hb dX12_lookAt_92 rfl (lv_at hl 0 rfl) ?_
      obtain ⟨r93, er93, h⟩ := av_bd h
      refine av_goI hR (av_cS (As := [.int r78]) (rest := [.ref (g.2.2 98)]) E X hR hl.1 (CX12_isFigure l g er93) kk_X12_279 (av_room (by omega) (by decide)) rfl (Nat.le_of_ble_eq_true rfl) ⟨Nat.zero_le _, Nat.zero_le _⟩ dX12_lookAt_93) (fun H locs hR => ?_)
      refine lv_if_eq (tgt := 103) hx hb dX12_lookAt_96 (by decide) (fun c96 => ?_) (fun c96 => ?_)
      · have h := av_it c96 h
        refine lv_iload_n hx hb dX12_lookAt_103 rfl (lv_at hl 0 rfl) ?_
        refine lv_bipush (v := 59) hx hb dX12_lookAt_104 rfl ?_
        refine lv_icmp_ne (tgt := 113) hx hb dX12_lookAt_106 (by decide) (fun c106 => ?_) (fun c106 => ?_)
        · have h := av_if c106 h
          refine lv_iconst (v := 4) hx hb dX12_lookAt_113 rfl ?_
          exact tX12_lookAt_114 E X h hR (lv_sub hl [1] rfl)
        · have h := av_it c106 h
          refine lv_iconst (v := 3) hx hb dX12_lookAt_109 rfl ?_
          refine lv_goto (tgt := 114) hx hb dX12_lookAt_110 (by decide) ?_
          exact tX12_lookAt_114 E X h hR (lv_sub hl [1] rfl)
      · have h := av_if c96 h
        refine lv_iconst (v := 2) hx hb dX12_lookAt_99 rfl ?_
        refine lv_goto (tgt := 114) hx hb dX12_lookAt_100 (by decide) ?_
        exact tX12_lookAt_114 E X h hR (lv_sub hl [1] rfl)
    · have h := av_if c85 h
      refine lv_iconst (v := 1) hx hb dX12_lookAt_88 rfl ?_
      refine lv_goto (tgt := 114) hx hb dX12_lookAt_89 (by decide) ?_
      exact tX12_lookAt_114 E X h hR (lv_sub hl [1] rfl)
  · have h := av_it c66 h
    exact av_rv E hR (Option.some.inj h) dX12_lookAt_69

set_option maxHeartbeats 4000000 in
set_option maxRecDepth 100000 in
theorem tX12_lookAt_5 {p : Program} {l : Launch} {e : Env} {s : State} {m : MethodId} {args : Array Value} {below : List Frame} {meth : Method} {c : Code} {g : Gl} {zm : Mem} (E : av_E p s m args meth c cX12_lookAt RX12 5 none) (X : av_X av_wm g s) :
    ∀ (n : Nat) {μ : Mem} {H : Heap} {locs : List Loc} {ls : Array Slot}, fX12_lookAt_5 n μ = some zm → av_R av_wm g μ s H locs → lv_has ls 5 [(0, .ref (g.2.2 98))] → W p l e (rmN 3) s m args below meth c H locs 0 0 (MQ below (va_Qv (fun u => u = zm) (av_B av_wm g) (av_A av_wm g)) args s 0 0 (av_A av_wm g)) (F0 m 5 ls []) := by
  obtain ⟨hx, hb, hr, hml, hown, hts, hlocks⟩ := id E
  intro n
  induction n with
  | zero =>
    intro μ H locs ls h hR hl
    cases h
  | succ n ih =>
    intro μ H locs ls h hR hl
    unfold fX12_lookAt_5 at h
    refine lv_aload_n hx hb dX12_lookAt_5 rfl (lv_at hl 0 rfl) ?_
    refine gf_X12_264 E X hR av_t98 dX12_lookAt_6 ?_
    refine lv_aload_n hx hb dX12_lookAt_9 rfl (lv_at hl 0 rfl) ?_
    refine gf_X12_253 E X hR av_t98 dX12_lookAt_10 ?_
    refine lv_icmp_ge (tgt := 43) hx hb dX12_lookAt_13 (by decide) (fun c13 => ?_) (fun c13 => ?_)
    · have h := av_it c13 h
      exact tX12_lookAt_43 E X h hR (lv_sub hl [0] rfl)
    · have h := av_if c13 h
      refine lv_aload_n hx hb dX12_lookAt_16 rfl (lv_at hl 0 rfl) ?_
      refine gf_X12_51 E X hR av_t98 dX12_lookAt_17 av_r98_21 ?_
      refine lv_aload_n hx hb dX12_lookAt_20 rfl (lv_at hl 0 rfl) ?_
      refine gf_X12_264 E X hR av_t98 dX12_lookAt_21 ?_
      obtain ⟨r24, er24, h⟩ := av_bd h
      refine av_il E X hR av_t111 er24 dX12_lookAt_24 ?_
      refine lv_bipush (v := 32) hx hb dX12_lookAt_25 rfl ?_
      refine lv_icmp_ne (tgt := 43) hx hb dX12_lookAt_27 (by decide) (fun c27 => ?_) (fun c27 => ?_)
      · have h := av_if c27 h
        exact tX12_lookAt_43 E X h hR (lv_sub hl [0] rfl)
      · have h := av_it c27 h
        refine lv_aload_n hx hb dX12_lookAt_30 rfl (lv_at hl 0 rfl) ?_
        refine lv_dup hx hb dX12_lookAt_31 rfl ?_
        refine gf_X12_264 E X hR av_t98 dX12_lookAt_32 ?_
        refine lv_iconst (v := 1) hx hb dX12_lookAt_35 rfl ?_
        refine lv_iadd hx hb dX12_lookAt_36 ?_
        obtain ⟨μ37, eμ37, h⟩ := av_bd h
        replace eμ37 := Option.some.inj eμ37
        refine pf_X12_264 E X hR av_t98 dX12_lookAt_37 eμ37 (fun H locs hR => ?_)
        refine lv_goto (tgt := 5) hx hb dX12_lookAt_40 (by decide) ?_
        exact ih h hR (lv_sub hl [0] rfl)

set_option maxHeartbeats 4000000 in
set_option maxRecDepth 100000 in
theorem CX12_lookAt (l : Launch) (g : Gl) {a1 : Int32} {μ : Mem} {zm : Mem} (h : fX12_lookAt a1 μ = some zm) : av_MV l yX12_lookAt cX12_lookAt 5 3 none av_wm g [.ref (g.2.2 98), .int a1] μ zm := by
  refine av_ent (own := RX12) (by decide) (Nat.le_of_ble_eq_true rfl) rfl (fun p e s m args below meth c E X hR ls hl => ?_)
  have hl : lv_has ls 5 [(0, .ref (g.2.2 98)), (1, .int a1)] := hl
  obtain ⟨hx, hb, hr, hml, hown, hts, hlocks⟩ := id E
  unfold fX12_lookAt at h
  refine lv_aload_n hx hb dX12_lookAt_0 rfl (lv_at hl 0 rfl) ?_
  refine lv_iload_n hx hb dX12_lookAt_1 rfl (lv_at hl 1 rfl) ?_
  obtain ⟨μ2, eμ2, h⟩ := av_bd h
  replace eμ2 := Option.some.inj eμ2
  refine pf_X12_264 E X hR av_t98 dX12_lookAt_2 eμ2 (fun H locs hR => ?_)
  exact tX12_lookAt_5 E X _ h hR (lv_sub hl [0] rfl)

set_option maxHeartbeats 4000000 in
set_option maxRecDepth 100000 in
theorem CX12_goBehind (l : Launch) (g : Gl) {μ : Mem} {zm : Mem} (h : fX12_goBehind μ = some zm) : av_MV l yX12_goBehind cX12_goBehind 1 4 none av_wm g [.ref (g.2.2 98)] μ zm := by
  refine av_ent (own := RX12) (by decide) (Nat.le_of_ble_eq_true rfl) rfl (fun p e s m args below meth c E X hR ls hl => ?_)
  have hl : lv_has ls 1 [(0, .ref (g.2.2 98))] := hl
  obtain ⟨hx, hb, hr, hml, hown, hts, hlocks⟩ := id E
  unfold fX12_goBehind at h
  refine lv_aload_n hx hb dX12_goBehind_0 rfl (lv_at hl 0 rfl) ?_
  refine lv_aload_n hx hb dX12_goBehind_1 rfl (lv_at hl 0 rfl) ?_
  refine gf_X12_264 E X hR av_t98 dX12_goBehind_2 ?_
  refine lv_aload_n hx hb dX12_goBehind_5 rfl (lv_at hl 0 rfl) ?_
  refine gf_X12_267 E X hR av_t98 dX12_goBehind_6 ?_
  refine lv_iadd hx hb dX12_goBehind_9 ?_
  obtain ⟨μ10, eμ10, h⟩ := av_bd h
  refine av_goV hR (av_cV (As := [.int ((gF μ 98 23) + (gF μ 98 24))]) (rest := []) E X hR hl.1 (CX12_lookAt l g eμ10) kk_X12_282 (av_room (by omega) (by decide)) av_t98 (by decide) rfl rfl (Nat.le_of_ble_eq_true rfl) ⟨Nat.zero_le _, Nat.zero_le _⟩ dX12_goBehind_10) (fun H locs hR => ?_)
  exact av_rv E hR (Option.some.inj h) dX12_goBehind_13

set_option maxHeartbeats 4000000 in
set_option maxRecDepth 100000 in
theorem tX12_isWord_154 {p : Program} {l : Launch} {e : Env} {s : State} {m : MethodId} {args : Array Value} {below : List Frame} {meth : Method} {c : Code} {g : Gl} {zr : Int32} {μ0 : Mem} (E : av_E p s m args meth c cX12_isWord RX12 12 (some .boolean)) (X : av_X av_wm g s) :
    ∀ {x9 : Int32} {μ : Mem} {H : Heap} {locs : List Loc} {ls : Array Slot} (hμ : μ0 = μ), fX12_isWord_154 x9 μ = some zr → av_R av_wm g μ s H locs → lv_has ls 12 [(9, .int x9)] → W p l e (rmN 1) s m args below meth c H locs 0 0 (MQ below (va_Qi (fun r1 u => r1 = zr ∧ u = μ0) (av_B av_wm g) (av_A av_wm g)) args s 0 0 (av_A av_wm g)) (F0 m 154 ls []) := by
  obtain ⟨hx, hb, hr, hml, hown, hts, hlocks⟩ := id E
  intro x9 μ H locs ls hμ h hR hl
  unfold fX12_isWord_154 at h
  refine lv_iload hx hb dX12_isWord_154 (lv_at hl 0 rfl) ?_
  obtain ⟨z156, ez156, h⟩ := av_bd h
  obtain ⟨rfl, hn156⟩ := av_z_e ez156
  exact av_rz E hR hn156 ⟨Option.some.inj h, hμ.symm⟩ dX12_isWord_156

set_option maxHeartbeats 4000000 in
set_option maxRecDepth 100000 in
theorem tX12_isWord_146 {p : Program} {l : Launch} {e : Env} {s : State} {m : MethodId} {args : Array Value} {below : List Frame} {meth : Method} {c : Code} {g : Gl} {zr : Int32} {μ0 : Mem} (E : av_E p s m args meth c cX12_isWord RX12 12 (some .boolean)) (X : av_X av_wm g s) {k26 : Int32 → Int32 → Int32 → Int32 → Int32 → Int32 → Int32 → Int32 → Int32 → Int32 → Mem → Option (Int32)} (hk26 : ∀ {x1 : Int32} {x2 : Int32} {x3 : Int32} {x4 : Int32} {x5 : Int32} {x6 : Int32} {x7 : Int32} {x8 : Int32} {x9 : Int32} {x10 : Int32} {μ : Mem} {H : Heap} {locs : List Loc} {ls : Array Slot} (hμ : μ0 = μ), k26 x1 x2 x3 x4 x5 x6 x7 x8 x9 x10 μ = some zr → av_R av_wm g μ s H locs → lv_has ls 12 [(0, .ref (g.2.2 98)), (1, .int x1), (2, .int x2), (3, .int x3), (4, .int x4), (5, .int x5), (6, .int x6), (7, .int x7), (8, .int x8), (9, .int x9), (10, .int x10)] → W p l e (rmN 1) s m args below meth c H locs 0 0 (MQ below (va_Qi (fun r1 u => r1 = zr ∧ u = μ0) (av_B av_wm g) (av_A av_wm g)) args s 0 0 (av_A av_wm g)) (F0 m 26 ls [])) :
    ∀ {x1 : Int32} {x2 : Int32} {x3 : Int32} {x4 : Int32} {x5 : Int32} {x6 : Int32} {x7 : Int32} {x8 : Int32} {x10 : Int32} {y0 : Int32} {μ : Mem} {H : Heap} {locs : List Loc} {ls : Array Slot} (hμ : μ0 = μ), fX12_isWord_146 k26 x1 x2 x3 x4 x5 x6 x7 x8 x10 y0 μ = some zr → av_R av_wm g μ s H locs → lv_has ls 12 [(0, .ref (g.2.2 98)), (1, .int x1), (2, .int x2), (3, .int x3), (4, .int x4), (5, .int x5), (6, .int x6), (7, .int x7), (8, .int x8), (10, .int x10)] → W p l e (rmN 1) s m args below meth c H locs 0 0 (MQ below (va_Qi (fun r1 u => r1 = zr ∧ u = μ0) (av_B av_wm g) (av_A av_wm g)) args s 0 0 (av_A av_wm g)) (F0 m 146 ls [.int y0]) := by
  obtain ⟨hx, hb, hr, hml, hown, hts, hlocks⟩ := id E
  intro x1 x2 x3 x4 x5 x6 x7 x8 x10 y0 μ H locs ls hμ h hR hl
  unfold fX12_isWord_146 at h
  refine lv_istore (lv' := [(9, .int y0), (0, .ref (g.2.2 98)), (1, .int x1), (2, .int x2), (3, .int x3), (4, .int x4), (5, .int x5), (6, .int x6), (7, .int x7), (8, .int x8), (10, .int x10)]) hx hb dX12_isWord_146 hl (by decide) rfl (fun ls hl => ?_)
  obtain ⟨x10_148, ex10_148, h⟩ := av_bd h
  replace ex10_148 := Option.some.inj ex10_148
  refine lv_iinc (v := x10_148) (lv' := [(10, .int x10_148), (9, .int y0), (0, .ref (g.2.2 98)), (1, .int x1), (2, .int x2), (3, .int x3), (4, .int x4), (5, .int x5), (6, .int x6), (7, .int x7), (8, .int x8)]) hx hb dX12_isWord_148 hl (k := 10) rfl ex10_148 (by decide) rfl (fun ls hl => ?_)
  refine lv_goto (tgt := 26) hx hb dX12_isWord_151 (by decide) ?_
  exact hk26 hμ h hR (lv_sub hl [2, 3, 4, 5, 6, 7, 8, 9, 10, 1, 0] rfl)

set_option maxHeartbeats 4000000 in
set_option maxRecDepth 100000 in
theorem tX12_isWord_122 {p : Program} {l : Launch} {e : Env} {s : State} {m : MethodId} {args : Array Value} {below : List Frame} {meth : Method} {c : Code} {g : Gl} {zr : Int32} {μ0 : Mem} (E : av_E p s m args meth c cX12_isWord RX12 12 (some .boolean)) (X : av_X av_wm g s) {k26 : Int32 → Int32 → Int32 → Int32 → Int32 → Int32 → Int32 → Int32 → Int32 → Int32 → Mem → Option (Int32)} (hk26 : ∀ {x1 : Int32} {x2 : Int32} {x3 : Int32} {x4 : Int32} {x5 : Int32} {x6 : Int32} {x7 : Int32} {x8 : Int32} {x9 : Int32} {x10 : Int32} {μ : Mem} {H : Heap} {locs : List Loc} {ls : Array Slot} (hμ : μ0 = μ), k26 x1 x2 x3 x4 x5 x6 x7 x8 x9 x10 μ = some zr → av_R av_wm g μ s H locs → lv_has ls 12 [(0, .ref (g.2.2 98)), (1, .int x1), (2, .int x2), (3, .int x3), (4, .int x4), (5, .int x5), (6, .int x6), (7, .int x7), (8, .int x8), (9, .int x9), (10, .int x10)] → W p l e (rmN 1) s m args below meth c H locs 0 0 (MQ below (va_Qi (fun r1 u => r1 = zr ∧ u = μ0) (av_B av_wm g) (av_A av_wm g)) args s 0 0 (av_A av_wm g)) (F0 m 26 ls [])) :
    ∀ {x1 : Int32} {x2 : Int32} {x3 : Int32} {x4 : Int32} {x5 : Int32} {x6 : Int32} {x7 : Int32} {x8 : Int32} {x10 : Int32} {y0 : Int32} {μ : Mem} {H : Heap} {locs : List Loc} {ls : Array Slot} (hμ : μ0 = μ), fX12_isWord_122 k26 x1 x2 x3 x4 x5 x6 x7 x8 x10 y0 μ = some zr → av_R av_wm g μ s H locs → lv_has ls 12 [(0, .ref (g.2.2 98)), (1, .int x1), (2, .int x2), (3, .int x3), (4, .int x4), (5, .int x5), (6, .int x6), (7, .int x7), (8, .int x8), (10, .int x10)] → W p l e (rmN 1) s m args below meth c H locs 0 0 (MQ below (va_Qi (fun r1 u => r1 = zr ∧ u = μ0) (av_B av_wm g) (av_A av_wm g)) args s 0 0 (av_A av_wm g)) (F0 m 122 ls [.int y0]) := by
  obtain ⟨hx, hb, hr, hml, hown, hts, hlocks⟩ := id E
  intro x1 x2 x3 x4 x5 x6 x7 x8 x10 y0 μ H locs ls hμ h hR hl
  unfold fX12_isWord_122 at h
  refine lv_istore (lv' := [(11, .int y0), (0, .ref (g.2.2 98)), (1, .int x1), (2, .int x2), (3, .int x3), (4, .int x4), (5, .int x5), (6, .int x6), (7, .int x7), (8, .int x8), (10, .int x10)]) hx hb dX12_isWord_122 hl (by decide) rfl (fun ls hl => ?_)
  refine lv_aload_n hx hb dX12_isWord_124 rfl (lv_at hl 1 rfl) ?_
  refine gf_X12_51 E X hR av_t98 dX12_isWord_125 av_r98_21 ?_
  refine lv_aload_n hx hb dX12_isWord_128 rfl (lv_at hl 1 rfl) ?_
  refine gf_X12_264 E X hR av_t98 dX12_isWord_129 ?_
  refine lv_iload hx hb dX12_isWord_132 (lv_at hl 10 rfl) ?_
  refine lv_iadd hx hb dX12_isWord_134 ?_
  obtain ⟨r135, er135, h⟩ := av_bd h
  refine av_il E X hR av_t111 er135 dX12_isWord_135 ?_
  refine lv_iload hx hb dX12_isWord_136 (lv_at hl 0 rfl) ?_
  refine lv_icmp_ne (tgt := 145) hx hb dX12_isWord_138 (by decide) (fun c138 => ?_) (fun c138 => ?_)
  · have h := av_if c138 h
    refine lv_iconst (v := 0) hx hb dX12_isWord_145 rfl ?_
    exact tX12_isWord_146 E X hk26 hμ h hR (lv_sub hl [1, 2, 3, 4, 5, 6, 7, 8, 9, 10] rfl)
  · have h := av_it c138 h
    refine lv_iconst (v := 1) hx hb dX12_isWord_141 rfl ?_
    refine lv_goto (tgt := 146) hx hb dX12_isWord_142 (by decide) ?_
    exact tX12_isWord_146 E X hk26 hμ h hR (lv_sub hl [1, 2, 3, 4, 5, 6, 7, 8, 9, 10] rfl)

set_option maxHeartbeats 4000000 in
set_option maxRecDepth 100000 in
theorem tX12_isWord_26 {p : Program} {l : Launch} {e : Env} {s : State} {m : MethodId} {args : Array Value} {below : List Frame} {meth : Method} {c : Code} {g : Gl} {zr : Int32} {μ0 : Mem} (E : av_E p s m args meth c cX12_isWord RX12 12 (some .boolean)) (X : av_X av_wm g s) :
    ∀ (n : Nat) {x1 : Int32} {x2 : Int32} {x3 : Int32} {x4 : Int32} {x5 : Int32} {x6 : Int32} {x7 : Int32} {x8 : Int32} {x9 : Int32} {x10 : Int32} {μ : Mem} {H : Heap} {locs : List Loc} {ls : Array Slot} (hμ : μ0 = μ), fX12_isWord_26 n x1 x2 x3 x4 x5 x6 x7 x8 x9 x10 μ = some zr → av_R av_wm g μ s H locs → lv_has ls 12 [(0, .ref (g.2.2 98)), (1, .int x1), (2, .int x2), (3, .int x3), (4, .int x4), (5, .int x5), (6, .int x6), (7, .int x7), (8, .int x8), (9, .int x9), (10, .int x10)] → W p l e (rmN 1) s m args below meth c H locs 0 0 (MQ below (va_Qi (fun r1 u => r1 = zr ∧ u = μ0) (av_B av_wm g) (av_A av_wm g)) args s 0 0 (av_A av_wm g)) (F0 m 26 ls []) := by
  obtain ⟨hx, hb, hr, hml, hown, hts, hlocks⟩ := id E
  intro n
  induction n with
  | zero =>
    intro x1 x2 x3 x4 x5 x6 x7 x8 x9 x10 μ H locs ls hμ h hR hl
    cases h
  | succ n ih =>
    intro x1 x2 x3 x4 x5 x6 x7 x8 x9 x10 μ H locs ls hμ h hR hl
    unfold fX12_isWord_26 at h
    refine lv_iload hx hb dX12_isWord_26 (lv_at hl 10 rfl) ?_
    refine lv_iload_n hx hb dX12_isWord_28 rfl (lv_at hl 1 rfl) ?_
    refine lv_icmp_ge (tgt := 154) hx hb dX12_isWord_29 (by decide) (fun c29 => ?_) (fun c29 => ?_)
    · have h := av_it c29 h
      exact tX12_isWord_154 E X hμ h hR (lv_sub hl [9] rfl)
    · have h := av_if c29 h
      refine lv_iload hx hb dX12_isWord_32 (lv_at hl 9 rfl) ?_
      refine lv_if_eq (tgt := 154) hx hb dX12_isWord_34 (by decide) (fun c34 => ?_) (fun c34 => ?_)
      · have h := av_it c34 h
        exact tX12_isWord_154 E X hμ h hR (lv_sub hl [9] rfl)
      · have h := av_if c34 h
        refine lv_iload hx hb dX12_isWord_37 (lv_at hl 10 rfl) ?_
        refine lv_if_ne (tgt := 46) hx hb dX12_isWord_39 (by decide) (fun c39 => ?_) (fun c39 => ?_)
        · have h := av_if c39 h
          refine lv_iload hx hb dX12_isWord_46 (lv_at hl 10 rfl) ?_
          refine lv_iconst (v := 1) hx hb dX12_isWord_48 rfl ?_
          refine lv_icmp_ne (tgt := 56) hx hb dX12_isWord_49 (by decide) (fun c49 => ?_) (fun c49 => ?_)
          · have h := av_if c49 h
            refine lv_iload hx hb dX12_isWord_56 (lv_at hl 10 rfl) ?_
            refine lv_iconst (v := 2) hx hb dX12_isWord_58 rfl ?_
            refine lv_icmp_ne (tgt := 67) hx hb dX12_isWord_59 (by decide) (fun c59 => ?_) (fun c59 => ?_)
            · have h := av_if c59 h
              refine lv_iload hx hb dX12_isWord_67 (lv_at hl 10 rfl) ?_
              refine lv_iconst (v := 3) hx hb dX12_isWord_69 rfl ?_
              refine lv_icmp_ne (tgt := 78) hx hb dX12_isWord_70 (by decide) (fun c70 => ?_) (fun c70 => ?_)
              · have h := av_if c70 h
                refine lv_iload hx hb dX12_isWord_78 (lv_at hl 10 rfl) ?_
                refine lv_iconst (v := 4) hx hb dX12_isWord_80 rfl ?_
                refine lv_icmp_ne (tgt := 89) hx hb dX12_isWord_81 (by decide) (fun c81 => ?_) (fun c81 => ?_)
                · have h := av_if c81 h
                  refine lv_iload hx hb dX12_isWord_89 (lv_at hl 10 rfl) ?_
                  refine lv_iconst (v := 5) hx hb dX12_isWord_91 rfl ?_
                  refine lv_icmp_ne (tgt := 100) hx hb dX12_isWord_92 (by decide) (fun c92 => ?_) (fun c92 => ?_)
                  · have h := av_if c92 h
                    refine lv_iload hx hb dX12_isWord_100 (lv_at hl 10 rfl) ?_
                    refine lv_bipush (v := 6) hx hb dX12_isWord_102 rfl ?_
                    refine lv_icmp_ne (tgt := 116) hx hb dX12_isWord_104 (by decide) (fun c104 => ?_) (fun c104 => ?_)
                    · have h := av_if c104 h
                      refine lv_iload hx hb dX12_isWord_116 (lv_at hl 8 rfl) ?_
                      refine lv_sipush (v := 128) hx hb dX12_isWord_118 rfl ?_
                      refine lv_irem hx hb dX12_isWord_121 (by decide) ?_
                      exact tX12_isWord_122 E X ih hμ h hR (lv_sub hl [0, 1, 2, 3, 4, 5, 6, 7, 8, 10] rfl)
                    · have h := av_it c104 h
                      refine lv_iload hx hb dX12_isWord_107 (lv_at hl 8 rfl) ?_
                      refine lv_sipush (v := 128) hx hb dX12_isWord_109 rfl ?_
                      refine lv_idiv hx hb dX12_isWord_112 (by decide) ?_
                      refine lv_goto (tgt := 122) hx hb dX12_isWord_113 (by decide) ?_
                      exact tX12_isWord_122 E X ih hμ h hR (lv_sub hl [0, 1, 2, 3, 4, 5, 6, 7, 8, 10] rfl)
                  · have h := av_it c92 h
                    refine lv_iload hx hb dX12_isWord_95 (lv_at hl 7 rfl) ?_
                    refine lv_goto (tgt := 122) hx hb dX12_isWord_97 (by decide) ?_
                    exact tX12_isWord_122 E X ih hμ h hR (lv_sub hl [0, 1, 2, 3, 4, 5, 6, 7, 8, 10] rfl)
                · have h := av_it c81 h
                  refine lv_iload hx hb dX12_isWord_84 (lv_at hl 6 rfl) ?_
                  refine lv_goto (tgt := 122) hx hb dX12_isWord_86 (by decide) ?_
                  exact tX12_isWord_122 E X ih hμ h hR (lv_sub hl [0, 1, 2, 3, 4, 5, 6, 7, 8, 10] rfl)
              · have h := av_it c70 h
                refine lv_iload hx hb dX12_isWord_73 (lv_at hl 5 rfl) ?_
                refine lv_goto (tgt := 122) hx hb dX12_isWord_75 (by decide) ?_
                exact tX12_isWord_122 E X ih hμ h hR (lv_sub hl [0, 1, 2, 3, 4, 5, 6, 7, 8, 10] rfl)
            · have h := av_it c59 h
              refine lv_iload hx hb dX12_isWord_62 (lv_at hl 4 rfl) ?_
              refine lv_goto (tgt := 122) hx hb dX12_isWord_64 (by decide) ?_
              exact tX12_isWord_122 E X ih hμ h hR (lv_sub hl [0, 1, 2, 3, 4, 5, 6, 7, 8, 10] rfl)
          · have h := av_it c49 h
            refine lv_iload_n hx hb dX12_isWord_52 rfl (lv_at hl 3 rfl) ?_
            refine lv_goto (tgt := 122) hx hb dX12_isWord_53 (by decide) ?_
            exact tX12_isWord_122 E X ih hμ h hR (lv_sub hl [0, 1, 2, 3, 4, 5, 6, 7, 8, 10] rfl)
        · have h := av_it c39 h
          refine lv_iload_n hx hb dX12_isWord_42 rfl (lv_at hl 2 rfl) ?_
          refine lv_goto (tgt := 122) hx hb dX12_isWord_43 (by decide) ?_
          exact tX12_isWord_122 E X ih hμ h hR (lv_sub hl [0, 1, 2, 3, 4, 5, 6, 7, 8, 10] rfl)

set_option maxHeartbeats 4000000 in
set_option maxRecDepth 100000 in
theorem tX12_isWord_21 {p : Program} {l : Launch} {e : Env} {s : State} {m : MethodId} {args : Array Value} {below : List Frame} {meth : Method} {c : Code} {g : Gl} {zr : Int32} {μ0 : Mem} (E : av_E p s m args meth c cX12_isWord RX12 12 (some .boolean)) (X : av_X av_wm g s) :
    ∀ {x1 : Int32} {x2 : Int32} {x3 : Int32} {x4 : Int32} {x5 : Int32} {x6 : Int32} {x7 : Int32} {x8 : Int32} {y0 : Int32} {μ : Mem} {H : Heap} {locs : List Loc} {ls : Array Slot} (hμ : μ0 = μ), fX12_isWord_21 x1 x2 x3 x4 x5 x6 x7 x8 y0 μ = some zr → av_R av_wm g μ s H locs → lv_has ls 12 [(0, .ref (g.2.2 98)), (1, .int x1), (2, .int x2), (3, .int x3), (4, .int x4), (5, .int x5), (6, .int x6), (7, .int x7), (8, .int x8)] → W p l e (rmN 1) s m args below meth c H locs 0 0 (MQ below (va_Qi (fun r1 u => r1 = zr ∧ u = μ0) (av_B av_wm g) (av_A av_wm g)) args s 0 0 (av_A av_wm g)) (F0 m 21 ls [.int y0]) := by
  obtain ⟨hx, hb, hr, hml, hown, hts, hlocks⟩ := id E
  intro x1 x2 x3 x4 x5 x6 x7 x8 y0 μ H locs ls hμ h hR hl
  unfold fX12_isWord_21 at h
  refine lv_istore (lv' := [(9, .int y0), (0, .ref (g.2.2 98)), (1, .int x1), (2, .int x2), (3, .int x3), (4, .int x4), (5, .int x5), (6, .int x6), (7, .int x7), (8, .int x8)]) hx hb dX12_isWord_21 hl (by decide) rfl (fun ls hl => ?_)
  refine lv_iconst (v := 0) hx hb dX12_isWord_23 rfl ?_
  refine lv_istore (lv' := [(10, .int 0), (9, .int y0), (0, .ref (g.2.2 98)), (1, .int x1), (2, .int x2), (3, .int x3), (4, .int x4), (5, .int x5), (6, .int x6), (7, .int x7), (8, .int x8)]) hx hb dX12_isWord_24 hl (by decide) rfl (fun ls hl => ?_)
  exact tX12_isWord_26 E X _ hμ h hR (lv_sub hl [2, 3, 4, 5, 6, 7, 8, 9, 10, 1, 0] rfl)

set_option maxHeartbeats 4000000 in
set_option maxRecDepth 100000 in
theorem tX12_isWord_20 {p : Program} {l : Launch} {e : Env} {s : State} {m : MethodId} {args : Array Value} {below : List Frame} {meth : Method} {c : Code} {g : Gl} {zr : Int32} {μ0 : Mem} (E : av_E p s m args meth c cX12_isWord RX12 12 (some .boolean)) (X : av_X av_wm g s) :
    ∀ {x1 : Int32} {x2 : Int32} {x3 : Int32} {x4 : Int32} {x5 : Int32} {x6 : Int32} {x7 : Int32} {x8 : Int32} {μ : Mem} {H : Heap} {locs : List Loc} {ls : Array Slot} (hμ : μ0 = μ), fX12_isWord_20 x1 x2 x3 x4 x5 x6 x7 x8 μ = some zr → av_R av_wm g μ s H locs → lv_has ls 12 [(0, .ref (g.2.2 98)), (1, .int x1), (2, .int x2), (3, .int x3), (4, .int x4), (5, .int x5), (6, .int x6), (7, .int x7), (8, .int x8)] → W p l e (rmN 1) s m args below meth c H locs 0 0 (MQ below (va_Qi (fun r1 u => r1 = zr ∧ u = μ0) (av_B av_wm g) (av_A av_wm g)) args s 0 0 (av_A av_wm g)) (F0 m 20 ls []) := by
  obtain ⟨hx, hb, hr, hml, hown, hts, hlocks⟩ := id E
  intro x1 x2 x3 x4 x5 x6 x7 x8 μ H locs ls hμ h hR hl
  unfold fX12_isWord_20 at h
  refine lv_iconst (v := 0) hx hb dX12_isWord_20 rfl ?_
  exact tX12_isWord_21 E X hμ h hR (lv_sub hl [0, 1, 2, 3, 4, 5, 6, 7, 8] rfl)

set_option maxHeartbeats 4000000 in
set_option maxRecDepth 100000 in
theorem CX12_isWord (l : Launch) (g : Gl) {a1 : Int32} {a2 : Int32} {a3 : Int32} {a4 : Int32} {a5 : Int32} {a6 : Int32} {a7 : Int32} {a8 : Int32} {μ : Mem} {zr : Int32} (h : fX12_isWord a1 a2 a3 a4 a5 a6 a7 a8 μ = some zr) : av_MI l yX12_isWord cX12_isWord 12 1 (some .boolean) av_wm g [.ref (g.2.2 98), .int a1, .int a2, .int a3, .int a4, .int a5, .int a6, .int a7, .int a8] μ zr μ := by
  refine av_ent (own := RX12) (by decide) (Nat.le_of_ble_eq_true rfl) rfl (fun p e s m args below meth c E X hR ls hl => ?_)
  have hl : lv_has ls 12 [(0, .ref (g.2.2 98)), (1, .int a1), (2, .int a2), (3, .int a3), (4, .int a4), (5, .int a5), (6, .int a6), (7, .int a7), (8, .int a8)] := hl
  obtain ⟨hx, hb, hr, hml, hown, hts, hlocks⟩ := id E
  have hμ : μ = μ := rfl
  unfold fX12_isWord at h
  refine lv_aload_n hx hb dX12_isWord_0 rfl (lv_at hl 0 rfl) ?_
  refine gf_X12_270 E X hR av_t98 dX12_isWord_1 ?_
  refine lv_iconst (v := 1) hx hb dX12_isWord_4 rfl ?_
  refine lv_icmp_ne (tgt := 20) hx hb dX12_isWord_5 (by decide) (fun c5 => ?_) (fun c5 => ?_)
  · have h := av_if c5 h
    exact tX12_isWord_20 E X hμ h hR (lv_sub hl [0, 1, 2, 3, 4, 5, 6, 7, 8] rfl)
  · have h := av_it c5 h
    refine lv_aload_n hx hb dX12_isWord_8 rfl (lv_at hl 0 rfl) ?_
    refine gf_X12_267 E X hR av_t98 dX12_isWord_9 ?_
    refine lv_iload_n hx hb dX12_isWord_12 rfl (lv_at hl 1 rfl) ?_
    refine lv_icmp_ne (tgt := 20) hx hb dX12_isWord_13 (by decide) (fun c13 => ?_) (fun c13 => ?_)
    · have h := av_if c13 h
      exact tX12_isWord_20 E X hμ h hR (lv_sub hl [0, 1, 2, 3, 4, 5, 6, 7, 8] rfl)
    · have h := av_it c13 h
      refine lv_iconst (v := 1) hx hb dX12_isWord_16 rfl ?_
      refine lv_goto (tgt := 21) hx hb dX12_isWord_17 (by decide) ?_
      exact tX12_isWord_21 E X hμ h hR (lv_sub hl [0, 1, 2, 3, 4, 5, 6, 7, 8] rfl)

set_option maxHeartbeats 4000000 in
set_option maxRecDepth 100000 in
theorem tX12_takes_23 {p : Program} {l : Launch} {e : Env} {s : State} {m : MethodId} {args : Array Value} {below : List Frame} {meth : Method} {c : Code} {g : Gl} {zr : Int32} {zm : Mem} (E : av_E p s m args meth c cX12_takes RX12 4 (some .boolean)) (X : av_X av_wm g s) :
    ∀ {μ : Mem} {H : Heap} {locs : List Loc} {ls : Array Slot}, fX12_takes_23 μ = some (zr, zm) → av_R av_wm g μ s H locs → lv_has ls 4 [] → W p l e (rmN 5) s m args below meth c H locs 0 0 (MQ below (va_Qi (fun r1 u => r1 = zr ∧ u = zm) (av_B av_wm g) (av_A av_wm g)) args s 0 0 (av_A av_wm g)) (F0 m 23 ls []) := by
  obtain ⟨hx, hb, hr, hml, hown, hts, hlocks⟩ := id E
  intro μ H locs ls h hR hl
  unfold fX12_takes_23 at h
  refine lv_iconst (v := 0) hx hb dX12_takes_23 rfl ?_
  exact av_rz E hR rfl (av_r2 h) dX12_takes_24

set_option maxHeartbeats 4000000 in
set_option maxRecDepth 100000 in
theorem CX12_takes (l : Launch) (g : Gl) {a1 : Int32} {a2 : Int32} {a3 : Int32} {μ : Mem} {zr : Int32} {zm : Mem} (h : fX12_takes a1 a2 a3 μ = some (zr, zm)) : av_MI l yX12_takes cX12_takes 4 5 (some .boolean) av_wm g [.ref (g.2.2 98), .int a1, .int a2, .int a3] μ zr zm := by
  refine av_ent (own := RX12) (by decide) (Nat.le_of_ble_eq_true rfl) rfl (fun p e s m args below meth c E X hR ls hl => ?_)
  have hl : lv_has ls 4 [(0, .ref (g.2.2 98)), (1, .int a1), (2, .int a2), (3, .int a3)] := hl
  obtain ⟨hx, hb, hr, hml, hown, hts, hlocks⟩ := id E
  unfold fX12_takes at h
  refine lv_aload_n hx hb dX12_takes_0 rfl (lv_at hl 0 rfl) ?_
  refine gf_X12_270 E X hR av_t98 dX12_takes_1 ?_
  refine lv_iconst (v := 2) hx hb dX12_takes_4 rfl ?_
  refine lv_icmp_ne (tgt := 23) hx hb dX12_takes_5 (by decide) (fun c5 => ?_) (fun c5 => ?_)
  · have h := av_if c5 h
    exact tX12_takes_23 E X h hR (lv_sub hl [] rfl)
  · have h := av_it c5 h
    refine lv_aload_n hx hb dX12_takes_8 rfl (lv_at hl 0 rfl) ?_
    refine gf_X12_273 E X hR av_t98 dX12_takes_9 ?_
    refine lv_i2l hx hb dX12_takes_12 rfl ?_
    refine lv_iload_n hx hb dX12_takes_13 rfl (lv_at hl 2 rfl) ?_
    refine lv_i2l hx hb dX12_takes_14 rfl ?_
    refine lv_iload_n hx hb dX12_takes_15 rfl (lv_at hl 3 rfl) ?_
    refine lv_i2l hx hb dX12_takes_16 rfl ?_
    obtain ⟨r17, er17, h⟩ := av_bd h
    refine av_goI hR (av_cS (As := [.long (Int32.toInt64 (gF μ 98 26)), .long (Int32.toInt64 a2), .long (Int32.toInt64 a3)]) (rest := []) E X hR hl.1 (CX12_in l g er17) kk_X12_68 (av_room (by omega) (by decide)) rfl (Nat.le_of_ble_eq_true rfl) ⟨Nat.zero_le _, Nat.zero_le _⟩ dX12_takes_17) (fun H locs hR => ?_)
    refine lv_if_ne (tgt := 25) hx hb dX12_takes_20 (by decide) (fun c20 => ?_) (fun c20 => ?_)
    · have h := av_if c20 h
      refine lv_aload_n hx hb dX12_takes_25 rfl (lv_at hl 0 rfl) ?_
      refine gf_X12_57 E X hR av_t98 dX12_takes_26 av_r98_28 ?_
      refine lv_iload_n hx hb dX12_takes_29 rfl (lv_at hl 1 rfl) ?_
      refine lv_aload_n hx hb dX12_takes_30 rfl (lv_at hl 0 rfl) ?_
      refine gf_X12_273 E X hR av_t98 dX12_takes_31 ?_
      obtain ⟨μ34, eμ34, h⟩ := av_bd h
      refine av_is E X hR av_t113 eμ34 dX12_takes_34 (fun H locs hR => ?_)
      refine lv_aload_n hx hb dX12_takes_35 rfl (lv_at hl 0 rfl) ?_
      obtain ⟨μ36, eμ36, h⟩ := av_bd h
      refine av_goV hR (av_cV (As := []) (rest := []) E X hR hl.1 (CX12_goBehind l g eμ36) kk_X12_285 (av_room (by omega) (by decide)) av_t98 (by decide) rfl rfl (Nat.le_of_ble_eq_true rfl) ⟨Nat.zero_le _, Nat.zero_le _⟩ dX12_takes_36) (fun H locs hR => ?_)
      refine lv_iconst (v := 1) hx hb dX12_takes_39 rfl ?_
      exact av_rz E hR rfl (av_r2 h) dX12_takes_40
    · have h := av_it c20 h
      exact tX12_takes_23 E X h hR (lv_sub hl [] rfl)

set_option maxHeartbeats 4000000 in
set_option maxRecDepth 100000 in
theorem tX12_takesLedge_92 {p : Program} {l : Launch} {e : Env} {s : State} {m : MethodId} {args : Array Value} {below : List Frame} {meth : Method} {c : Code} {g : Gl} {zr : Int32} {zm : Mem} (E : av_E p s m args meth c cX12_takesLedge RX12 2 (some .boolean)) (X : av_X av_wm g s) :
    ∀ {y0 : Nat} {y1 : Int32} {y2 : Int32} {y3 : Int32} (hy0 : av_t av_wm y0 13) {μ : Mem} {H : Heap} {locs : List Loc} {ls : Array Slot}, fX12_takesLedge_92 y0 y1 y2 y3 μ = some (zr, zm) → av_R av_wm g μ s H locs → lv_has ls 2 [] → W p l e (rmN 6) s m args below meth c H locs 0 0 (MQ below (va_Qi (fun r1 u => r1 = zr ∧ u = zm) (av_B av_wm g) (av_A av_wm g)) args s 0 0 (av_A av_wm g)) (F0 m 92 ls [.int y3, .int y2, .int y1, .ref (g.2.2 y0)]) := by
  obtain ⟨hx, hb, hr, hml, hown, hts, hlocks⟩ := id E
  intro y0 y1 y2 y3 hy0 μ H locs ls h hR hl
  unfold fX12_takesLedge_92 at h
  obtain ⟨μ92, eμ92, h⟩ := av_bd h
  refine av_goV hR (av_cS (As := [.ref (g.2.2 y0), .int y1, .int y2, .int y3]) (rest := []) E X hR hl.1 (CX12_layLedge l g hy0 eμ92) kk_X12_88 (av_room (by omega) (by decide)) rfl (Nat.le_of_ble_eq_true rfl) ⟨Nat.zero_le _, Nat.zero_le _⟩ dX12_takesLedge_92) (fun H locs hR => ?_)
  refine lv_iconst (v := 1) hx hb dX12_takesLedge_95 rfl ?_
  exact av_rz E hR rfl (av_r2 h) dX12_takesLedge_96

set_option maxHeartbeats 4000000 in
set_option maxRecDepth 100000 in
theorem tX12_takesLedge_62 {p : Program} {l : Launch} {e : Env} {s : State} {m : MethodId} {args : Array Value} {below : List Frame} {meth : Method} {c : Code} {g : Gl} {zr : Int32} {zm : Mem} (E : av_E p s m args meth c cX12_takesLedge RX12 2 (some .boolean)) (X : av_X av_wm g s) :
    ∀ {x1 : Int32} {μ : Mem} {H : Heap} {locs : List Loc} {ls : Array Slot}, fX12_takesLedge_62 x1 μ = some (zr, zm) → av_R av_wm g μ s H locs → lv_has ls 2 [(0, .ref (g.2.2 98)), (1, .int x1)] → W p l e (rmN 6) s m args below meth c H locs 0 0 (MQ below (va_Qi (fun r1 u => r1 = zr ∧ u = zm) (av_B av_wm g) (av_A av_wm g)) args s 0 0 (av_A av_wm g)) (F0 m 62 ls []) := by
  obtain ⟨hx, hb, hr, hml, hown, hts, hlocks⟩ := id E
  intro x1 μ H locs ls h hR hl
  unfold fX12_takesLedge_62 at h
  refine lv_aload_n hx hb dX12_takesLedge_62 rfl (lv_at hl 0 rfl) ?_
  refine gf_X12_54 E X hR av_t98 dX12_takesLedge_63 av_r98_27 ?_
  refine lv_aload_n hx hb dX12_takesLedge_66 rfl (lv_at hl 0 rfl) ?_
  refine gf_X12_57 E X hR av_t98 dX12_takesLedge_67 av_r98_28 ?_
  refine lv_iconst (v := 0) hx hb dX12_takesLedge_70 rfl ?_
  obtain ⟨r71, er71, h⟩ := av_bd h
  refine av_il E X hR av_t113 er71 dX12_takesLedge_71 ?_
  refine lv_aload_n hx hb dX12_takesLedge_72 rfl (lv_at hl 0 rfl) ?_
  refine gf_X12_57 E X hR av_t98 dX12_takesLedge_73 av_r98_28 ?_
  refine lv_iconst (v := 1) hx hb dX12_takesLedge_76 rfl ?_
  obtain ⟨r77, er77, h⟩ := av_bd h
  refine av_il E X hR av_t113 er77 dX12_takesLedge_77 ?_
  refine lv_iload_n hx hb dX12_takesLedge_78 rfl (lv_at hl 1 rfl) ?_
  refine lv_if_eq (tgt := 91) hx hb dX12_takesLedge_79 (by decide) (fun c79 => ?_) (fun c79 => ?_)
  · have h := av_it c79 h
    refine lv_iconst (v := (-1)) hx hb dX12_takesLedge_91 rfl ?_
    exact tX12_takesLedge_92 E X av_t112 h hR (lv_sub hl [] rfl)
  · have h := av_if c79 h
    refine lv_aload_n hx hb dX12_takesLedge_82 rfl (lv_at hl 0 rfl) ?_
    refine gf_X12_57 E X hR av_t98 dX12_takesLedge_83 av_r98_28 ?_
    refine lv_iconst (v := 2) hx hb dX12_takesLedge_86 rfl ?_
    obtain ⟨r87, er87, h⟩ := av_bd h
    refine av_il E X hR av_t113 er87 dX12_takesLedge_87 ?_
    refine lv_goto (tgt := 92) hx hb dX12_takesLedge_88 (by decide) ?_
    exact tX12_takesLedge_92 E X av_t112 h hR (lv_sub hl [] rfl)

set_option maxHeartbeats 4000000 in
set_option maxRecDepth 100000 in
theorem tX12_takesLedge_60 {p : Program} {l : Launch} {e : Env} {s : State} {m : MethodId} {args : Array Value} {below : List Frame} {meth : Method} {c : Code} {g : Gl} {zr : Int32} {zm : Mem} (E : av_E p s m args meth c cX12_takesLedge RX12 2 (some .boolean)) (X : av_X av_wm g s) :
    ∀ {μ : Mem} {H : Heap} {locs : List Loc} {ls : Array Slot}, fX12_takesLedge_60 μ = some (zr, zm) → av_R av_wm g μ s H locs → lv_has ls 2 [] → W p l e (rmN 6) s m args below meth c H locs 0 0 (MQ below (va_Qi (fun r1 u => r1 = zr ∧ u = zm) (av_B av_wm g) (av_A av_wm g)) args s 0 0 (av_A av_wm g)) (F0 m 60 ls []) := by
  obtain ⟨hx, hb, hr, hml, hown, hts, hlocks⟩ := id E
  intro μ H locs ls h hR hl
  unfold fX12_takesLedge_60 at h
  refine lv_iconst (v := 0) hx hb dX12_takesLedge_60 rfl ?_
  exact av_rz E hR rfl (av_r2 h) dX12_takesLedge_61

set_option maxHeartbeats 4000000 in
set_option maxRecDepth 100000 in
theorem CX12_takesLedge (l : Launch) (g : Gl) {a1 : Int32} {μ : Mem} {zr : Int32} {zm : Mem} (h : fX12_takesLedge a1 μ = some (zr, zm)) : av_MI l yX12_takesLedge cX12_takesLedge 2 6 (some .boolean) av_wm g [.ref (g.2.2 98), .int a1] μ zr zm := by
  refine av_ent (own := RX12) (by decide) (Nat.le_of_ble_eq_true rfl) rfl (fun p e s m args below meth c E X hR ls hl => ?_)
  have hl : lv_has ls 2 [(0, .ref (g.2.2 98)), (1, .int a1)] := hl
  obtain ⟨hx, hb, hr, hml, hown, hts, hlocks⟩ := id E
  unfold fX12_takesLedge at h
  refine lv_aload_n hx hb dX12_takesLedge_0 rfl (lv_at hl 0 rfl) ?_
  refine gf_X12_54 E X hR av_t98 dX12_takesLedge_1 av_r98_27 ?_
  refine lv_iconst (v := 0) hx hb dX12_takesLedge_4 rfl ?_
  obtain ⟨r5, er5, h⟩ := av_bd h
  refine av_il E X hR av_t112 er5 dX12_takesLedge_5 ?_
  refine lv_bipush (v := 8) hx hb dX12_takesLedge_6 rfl ?_
  refine lv_icmp_ne (tgt := 13) hx hb dX12_takesLedge_8 (by decide) (fun c8 => ?_) (fun c8 => ?_)
  · have h := av_if c8 h
    refine lv_aload_n hx hb dX12_takesLedge_13 rfl (lv_at hl 0 rfl) ?_
    obtain ⟨μ14, eμ14, h⟩ := av_bd h
    refine av_goV hR (av_cV (As := []) (rest := []) E X hR hl.1 (CX12_goBehind l g eμ14) kk_X12_285 (av_room (by omega) (by decide)) av_t98 (by decide) rfl rfl (Nat.le_of_ble_eq_true rfl) ⟨Nat.zero_le _, Nat.zero_le _⟩ dX12_takesLedge_14) (fun H locs hR => ?_)
    refine lv_aload_n hx hb dX12_takesLedge_17 rfl (lv_at hl 0 rfl) ?_
    refine lv_iconst (v := 0) hx hb dX12_takesLedge_18 rfl ?_
    refine lv_iconst (v := 1) hx hb dX12_takesLedge_19 rfl ?_
    refine lv_bipush (v := 60) hx hb dX12_takesLedge_20 rfl ?_
    obtain ⟨r22, μ22, er22, h⟩ := av_bd2 h
    refine av_goI hR (av_cV (As := [.int 0, .int 1, .int 60]) (rest := []) E X hR hl.1 (CX12_takes l g er22) kk_X12_288 (av_room (by omega) (by decide)) av_t98 (by decide) rfl rfl (Nat.le_of_ble_eq_true rfl) ⟨Nat.zero_le _, Nat.zero_le _⟩ dX12_takesLedge_22) (fun H locs hR => ?_)
    refine lv_if_eq (tgt := 60) hx hb dX12_takesLedge_25 (by decide) (fun c25 => ?_) (fun c25 => ?_)
    · have h := av_it c25 h
      exact tX12_takesLedge_60 E X h hR (lv_sub hl [] rfl)
    · have h := av_if c25 h
      refine lv_aload_n hx hb dX12_takesLedge_28 rfl (lv_at hl 0 rfl) ?_
      refine lv_iconst (v := 1) hx hb dX12_takesLedge_29 rfl ?_
      refine lv_iconst (v := 0) hx hb dX12_takesLedge_30 rfl ?_
      refine lv_bipush (v := 30) hx hb dX12_takesLedge_31 rfl ?_
      obtain ⟨r33, μ33, er33, h⟩ := av_bd2 h
      refine av_goI hR (av_cV (As := [.int 1, .int 0, .int 30]) (rest := []) E X hR hl.1 (CX12_takes l g er33) kk_X12_288 (av_room (by omega) (by decide)) av_t98 (by decide) rfl rfl (Nat.le_of_ble_eq_true rfl) ⟨Nat.zero_le _, Nat.zero_le _⟩ dX12_takesLedge_33) (fun H locs hR => ?_)
      refine lv_if_eq (tgt := 60) hx hb dX12_takesLedge_36 (by decide) (fun c36 => ?_) (fun c36 => ?_)
      · have h := av_it c36 h
        exact tX12_takesLedge_60 E X h hR (lv_sub hl [] rfl)
      · have h := av_if c36 h
        refine lv_iload_n hx hb dX12_takesLedge_39 rfl (lv_at hl 1 rfl) ?_
        refine lv_if_eq (tgt := 62) hx hb dX12_takesLedge_40 (by decide) (fun c40 => ?_) (fun c40 => ?_)
        · have h := av_it c40 h
          exact tX12_takesLedge_62 E X h hR (lv_sub hl [0, 1] rfl)
        · have h := av_if c40 h
          refine lv_aload_n hx hb dX12_takesLedge_43 rfl (lv_at hl 0 rfl) ?_
          refine lv_iconst (v := 2) hx hb dX12_takesLedge_44 rfl ?_
          refine lv_iconst (v := 0) hx hb dX12_takesLedge_45 rfl ?_
          refine lv_aload_n hx hb dX12_takesLedge_46 rfl (lv_at hl 0 rfl) ?_
          refine gf_X12_54 E X hR av_t98 dX12_takesLedge_47 av_r98_27 ?_
          refine lv_iconst (v := 0) hx hb dX12_takesLedge_50 rfl ?_
          obtain ⟨r51, er51, h⟩ := av_bd h
          refine av_il E X hR av_t112 er51 dX12_takesLedge_51 ?_
          refine lv_iconst (v := 1) hx hb dX12_takesLedge_52 rfl ?_
          refine lv_isub hx hb dX12_takesLedge_53 ?_
          obtain ⟨r54, μ54, er54, h⟩ := av_bd2 h
          refine av_goI hR (av_cV (As := [.int 2, .int 0, .int (r51 - 1)]) (rest := []) E X hR hl.1 (CX12_takes l g er54) kk_X12_288 (av_room (by omega) (by decide)) av_t98 (by decide) rfl rfl (Nat.le_of_ble_eq_true rfl) ⟨Nat.zero_le _, Nat.zero_le _⟩ dX12_takesLedge_54) (fun H locs hR => ?_)
          refine lv_if_ne (tgt := 62) hx hb dX12_takesLedge_57 (by decide) (fun c57 => ?_) (fun c57 => ?_)
          · have h := av_if c57 h
            exact tX12_takesLedge_62 E X h hR (lv_sub hl [0, 1] rfl)
          · have h := av_it c57 h
            exact tX12_takesLedge_60 E X h hR (lv_sub hl [] rfl)
  · have h := av_it c8 h
    refine lv_iconst (v := 0) hx hb dX12_takesLedge_11 rfl ?_
    exact av_rz E hR rfl (av_r2 h) dX12_takesLedge_12

set_option maxHeartbeats 4000000 in
set_option maxRecDepth 100000 in
theorem tX12_takesVoter_55 {p : Program} {l : Launch} {e : Env} {s : State} {m : MethodId} {args : Array Value} {below : List Frame} {meth : Method} {c : Code} {g : Gl} {zr : Int32} {zm : Mem} (E : av_E p s m args meth c cX12_takesVoter RX12 1 (some .boolean)) (X : av_X av_wm g s) :
    ∀ {μ : Mem} {H : Heap} {locs : List Loc} {ls : Array Slot}, fX12_takesVoter_55 μ = some (zr, zm) → av_R av_wm g μ s H locs → lv_has ls 1 [] → W p l e (rmN 6) s m args below meth c H locs 0 0 (MQ below (va_Qi (fun r1 u => r1 = zr ∧ u = zm) (av_B av_wm g) (av_A av_wm g)) args s 0 0 (av_A av_wm g)) (F0 m 55 ls []) := by
  obtain ⟨hx, hb, hr, hml, hown, hts, hlocks⟩ := id E
  intro μ H locs ls h hR hl
  unfold fX12_takesVoter_55 at h
  refine lv_iconst (v := 0) hx hb dX12_takesVoter_55 rfl ?_
  exact av_rz E hR rfl (av_r2 h) dX12_takesVoter_56
