set_option maxHeartbeats 4000000 in
set_option maxRecDepth 100000 in
theorem tX12_areUnlike_4 {p : Program} {l : Launch} {e : Env} {s : State} {m : MethodId} {args : Array Value} {below : List Frame} {meth : Method} {c : Code} {g : Gl} {zr : Int32} {μ0 : Mem} (E : av_E p s m args meth c cX12_areUnlike RX12 3 (some .boolean)) (X : av_X av_wm g s) :
    ∀ (n : Nat) {x1 : Int32} {x2 : Int32} {μ : Mem} {H : Heap} {locs : List Loc} {ls : Array Slot} (hμ : μ0 = μ), fX12_areUnlike_4 n x1 x2 μ = some zr → av_R av_wm g μ s H locs → lv_has ls 3 [(0, .ref (g.2.2 98)), (1, .int x1), (2, .int x2)] → W p l e (rmN 2) s m args below meth c H locs 0 0 (MQ below (va_Qi (fun r1 u => r1 = zr ∧ u = μ0) (av_B av_wm g) (av_A av_wm g)) args s 0 0 (av_A av_wm g)) (F0 m 4 ls []) := by
  obtain ⟨hx, hb, hr, hml, hown, hts, hlocks⟩ := id E
  intro n
  induction n with
  | zero =>
    intro x1 x2 μ H locs ls hμ h hR hl
    cases h
  | succ n ih =>
    intro x1 x2 μ H locs ls hμ h hR hl
    unfold fX12_areUnlike_4 at h
    refine lv_iload_n hx hb dX12_areUnlike_4 rfl (lv_at hl 2 rfl) ?_
    refine lv_aload_n hx hb dX12_areUnlike_5 rfl (lv_at hl 0 rfl) ?_
    obtain ⟨r6, er6, h⟩ := av_bd h
    refine av_goI hR (av_cV (As := []) (rest := [.int x2]) E X hR hl.1 (CX12_voters l g er6) kk_X12_72 (av_room (by omega) (by decide)) av_t98 (by decide) rfl rfl (Nat.le_of_ble_eq_true rfl) ⟨Nat.zero_le _, Nat.zero_le _⟩ dX12_areUnlike_6) (fun H locs hR => ?_)
    refine lv_icmp_ge (tgt := 29) hx hb dX12_areUnlike_9 (by decide) (fun c9 => ?_) (fun c9 => ?_)
    · have h := av_it c9 h
      refine lv_iload_n hx hb dX12_areUnlike_29 rfl (lv_at hl 1 rfl) ?_
      refine lv_iconst (v := 1) hx hb dX12_areUnlike_30 rfl ?_
      refine lv_aload_n hx hb dX12_areUnlike_31 rfl (lv_at hl 0 rfl) ?_
      obtain ⟨r32, er32, h⟩ := av_bd h
      refine av_goI hR (av_cV (As := []) (rest := [.int 1, .int x1]) E X hR hl.1 (CX12_voters l g er32) kk_X12_72 (av_room (by omega) (by decide)) av_t98 (by decide) rfl rfl (Nat.le_of_ble_eq_true rfl) ⟨Nat.zero_le _, Nat.zero_le _⟩ dX12_areUnlike_32) (fun H locs hR => ?_)
      refine lv_ishl hx hb dX12_areUnlike_35 ?_
      refine lv_iconst (v := 1) hx hb dX12_areUnlike_36 rfl ?_
      refine lv_isub hx hb dX12_areUnlike_37 ?_
      refine lv_icmp_ne (tgt := 45) hx hb dX12_areUnlike_38 (by decide) (fun c38 => ?_) (fun c38 => ?_)
      · have h := av_if c38 h
        refine lv_iconst (v := 0) hx hb dX12_areUnlike_45 rfl ?_
        exact av_rz E hR rfl ⟨Option.some.inj h, hμ.symm⟩ dX12_areUnlike_46
      · have h := av_it c38 h
        refine lv_iconst (v := 1) hx hb dX12_areUnlike_41 rfl ?_
        refine lv_goto (tgt := 46) hx hb dX12_areUnlike_42 (by decide) ?_
        exact av_rz E hR rfl ⟨Option.some.inj h, hμ.symm⟩ dX12_areUnlike_46
    · have h := av_if c9 h
      refine lv_iload_n hx hb dX12_areUnlike_12 rfl (lv_at hl 1 rfl) ?_
      refine lv_iconst (v := 1) hx hb dX12_areUnlike_13 rfl ?_
      refine lv_aload_n hx hb dX12_areUnlike_14 rfl (lv_at hl 0 rfl) ?_
      refine gf_X12_33 E X hR av_t98 dX12_areUnlike_15 av_r98_13 ?_
      refine lv_iload_n hx hb dX12_areUnlike_18 rfl (lv_at hl 2 rfl) ?_
      obtain ⟨r19, er19, h⟩ := av_bd h
      refine av_il E X hR av_t105 er19 dX12_areUnlike_19 ?_
      refine lv_ishl hx hb dX12_areUnlike_20 ?_
      refine lv_ior hx hb dX12_areUnlike_21 ?_
      obtain ⟨x1_22, ex1_22, h⟩ := av_bd h
      replace ex1_22 := Option.some.inj ex1_22
      rw [ex1_22]
      refine lv_istore_n (lv' := [(1, .int x1_22), (0, .ref (g.2.2 98)), (2, .int x2)]) hx hb dX12_areUnlike_22 rfl hl (by decide) rfl (fun ls hl => ?_)
      obtain ⟨x2_23, ex2_23, h⟩ := av_bd h
      replace ex2_23 := Option.some.inj ex2_23
      refine lv_iinc (v := x2_23) (lv' := [(2, .int x2_23), (1, .int x1_22), (0, .ref (g.2.2 98))]) hx hb dX12_areUnlike_23 hl (k := 2) rfl ex2_23 (by decide) rfl (fun ls hl => ?_)
      refine lv_goto (tgt := 4) hx hb dX12_areUnlike_26 (by decide) ?_
      exact ih hμ h hR (lv_sub hl [2, 1, 0] rfl)

set_option maxHeartbeats 4000000 in
set_option maxRecDepth 100000 in
theorem CX12_areUnlike (l : Launch) (g : Gl) {μ : Mem} {zr : Int32} (h : fX12_areUnlike μ = some zr) : av_MI l yX12_areUnlike cX12_areUnlike 3 2 (some .boolean) av_wm g [.ref (g.2.2 98)] μ zr μ := by
  refine av_ent (own := RX12) (by decide) (Nat.le_of_ble_eq_true rfl) rfl (fun p e s m args below meth c E X hR ls hl => ?_)
  have hl : lv_has ls 3 [(0, .ref (g.2.2 98))] := hl
  obtain ⟨hx, hb, hr, hml, hown, hts, hlocks⟩ := id E
  have hμ : μ = μ := rfl
  unfold fX12_areUnlike at h
  refine lv_iconst (v := 0) hx hb dX12_areUnlike_0 rfl ?_
  refine lv_istore_n (lv' := [(1, .int 0), (0, .ref (g.2.2 98))]) hx hb dX12_areUnlike_1 rfl hl (by decide) rfl (fun ls hl => ?_)
  refine lv_iconst (v := 0) hx hb dX12_areUnlike_2 rfl ?_
  refine lv_istore_n (lv' := [(2, .int 0), (1, .int 0), (0, .ref (g.2.2 98))]) hx hb dX12_areUnlike_3 rfl hl (by decide) rfl (fun ls hl => ?_)
  exact tX12_areUnlike_4 E X _ hμ h hR (lv_sub hl [2, 1, 0] rfl)

set_option maxHeartbeats 4000000 in
set_option maxRecDepth 100000 in
theorem tX12_layRow_8 {p : Program} {l : Launch} {e : Env} {s : State} {m : MethodId} {args : Array Value} {below : List Frame} {meth : Method} {c : Code} {g : Gl} {zm : Mem} (E : av_E p s m args meth c cX12_layRow RX12 6 none) (X : av_X av_wm g s) :
    ∀ (n : Nat) {x3 : Int32} {x4 : Int32} {x5 : Int32} {μ : Mem} {H : Heap} {locs : List Loc} {ls : Array Slot}, fX12_layRow_8 n x3 x4 x5 μ = some zm → av_R av_wm g μ s H locs → lv_has ls 6 [(0, .ref (g.2.2 98)), (3, .int x3), (4, .int x4), (5, .int x5)] → W p l e (rmN 1) s m args below meth c H locs 0 0 (MQ below (va_Qv (fun u => u = zm) (av_B av_wm g) (av_A av_wm g)) args s 0 0 (av_A av_wm g)) (F0 m 8 ls []) := by
  obtain ⟨hx, hb, hr, hml, hown, hts, hlocks⟩ := id E
  intro n
  induction n with
  | zero =>
    intro x3 x4 x5 μ H locs ls h hR hl
    cases h
  | succ n ih =>
    intro x3 x4 x5 μ H locs ls h hR hl
    unfold fX12_layRow_8 at h
    refine lv_iload hx hb dX12_layRow_8 (lv_at hl 3 rfl) ?_
    refine lv_if_lt (tgt := 36) hx hb dX12_layRow_10 (by decide) (fun c10 => ?_) (fun c10 => ?_)
    · have h := av_it c10 h
      exact av_rv E hR (Option.some.inj h) dX12_layRow_36
    · have h := av_if c10 h
      refine lv_aload_n hx hb dX12_layRow_13 rfl (lv_at hl 0 rfl) ?_
      refine gf_X12_33 E X hR av_t98 dX12_layRow_14 av_r98_13 ?_
      refine lv_iload hx hb dX12_layRow_17 (lv_at hl 3 rfl) ?_
      refine lv_iload hx hb dX12_layRow_19 (lv_at hl 2 rfl) ?_
      refine lv_iload_n hx hb dX12_layRow_21 rfl (lv_at hl 1 rfl) ?_
      by_cases c22 : x3 = 0
      · exact absurd (av_it c22 h) (by simp)
      have h := av_if c22 h
      refine lv_irem hx hb dX12_layRow_22 c22 ?_
      obtain ⟨μ23, eμ23, h⟩ := av_bd h
      refine av_is E X hR av_t105 eμ23 dX12_layRow_23 (fun H locs hR => ?_)
      refine lv_iload hx hb dX12_layRow_24 (lv_at hl 2 rfl) ?_
      refine lv_iload_n hx hb dX12_layRow_26 rfl (lv_at hl 1 rfl) ?_
      by_cases c27 : x3 = 0
      · exact absurd (av_it c27 h) (by simp)
      have h := av_if c27 h
      refine lv_idiv hx hb dX12_layRow_27 c27 ?_
      obtain ⟨x4_28, ex4_28, h⟩ := av_bd h
      replace ex4_28 := Option.some.inj ex4_28
      rw [ex4_28]
      refine lv_istore (lv' := [(4, .int x4_28), (0, .ref (g.2.2 98)), (3, .int x3), (5, .int x5)]) hx hb dX12_layRow_28 hl (by decide) rfl (fun ls hl => ?_)
      obtain ⟨x5_30, ex5_30, h⟩ := av_bd h
      replace ex5_30 := Option.some.inj ex5_30
      refine lv_iinc (v := x5_30) (lv' := [(5, .int x5_30), (4, .int x4_28), (0, .ref (g.2.2 98)), (3, .int x3)]) hx hb dX12_layRow_30 hl (k := 3) rfl ex5_30 (by decide) rfl (fun ls hl => ?_)
      refine lv_goto (tgt := 8) hx hb dX12_layRow_33 (by decide) ?_
      exact ih h hR (lv_sub hl [2, 3, 1, 0] rfl)

set_option maxHeartbeats 4000000 in
set_option maxRecDepth 100000 in
theorem CX12_layRow (l : Launch) (g : Gl) {a1 : Int32} {a2 : Int32} {a3 : Int32} {μ : Mem} {zm : Mem} (h : fX12_layRow a1 a2 a3 μ = some zm) : av_MV l yX12_layRow cX12_layRow 6 1 none av_wm g [.ref (g.2.2 98), .int a1, .int a2, .int a3] μ zm := by
  refine av_ent (own := RX12) (by decide) (Nat.le_of_ble_eq_true rfl) rfl (fun p e s m args below meth c E X hR ls hl => ?_)
  have hl : lv_has ls 6 [(0, .ref (g.2.2 98)), (1, .int a1), (2, .int a2), (3, .int a3)] := hl
  obtain ⟨hx, hb, hr, hml, hown, hts, hlocks⟩ := id E
  unfold fX12_layRow at h
  refine lv_iload_n hx hb dX12_layRow_0 rfl (lv_at hl 1 rfl) ?_
  refine lv_istore (lv' := [(4, .int a1), (0, .ref (g.2.2 98)), (1, .int a1), (2, .int a2), (3, .int a3)]) hx hb dX12_layRow_1 hl (by decide) rfl (fun ls hl => ?_)
  refine lv_iload_n hx hb dX12_layRow_3 rfl (lv_at hl 3 rfl) ?_
  refine lv_iconst (v := 1) hx hb dX12_layRow_4 rfl ?_
  refine lv_isub hx hb dX12_layRow_5 ?_
  obtain ⟨x5_6, ex5_6, h⟩ := av_bd h
  replace ex5_6 := Option.some.inj ex5_6
  rw [ex5_6]
  refine lv_istore (lv' := [(5, .int x5_6), (4, .int a1), (0, .ref (g.2.2 98)), (1, .int a1), (2, .int a2), (3, .int a3)]) hx hb dX12_layRow_6 hl (by decide) rfl (fun ls hl => ?_)
  exact tX12_layRow_8 E X _ h hR (lv_sub hl [2, 5, 1, 0] rfl)

set_option maxHeartbeats 4000000 in
set_option maxRecDepth 100000 in
theorem tX12_power_4 {p : Program} {l : Launch} {e : Env} {s : State} {m : MethodId} {args : Array Value} {below : List Frame} {meth : Method} {c : Code} {g : Gl} {zr : Int32} {μ0 : Mem} (E : av_E p s m args meth c cX12_power RX12 4 (some .int)) (X : av_X av_wm g s) :
    ∀ (n : Nat) {x0 : Int32} {x1 : Int32} {x2 : Int32} {x3 : Int32} {μ : Mem} {H : Heap} {locs : List Loc} {ls : Array Slot} (hμ : μ0 = μ), fX12_power_4 n x0 x1 x2 x3 μ = some zr → av_R av_wm g μ s H locs → lv_has ls 4 [(0, .int x0), (1, .int x1), (2, .int x2), (3, .int x3)] → W p l e (rmN 1) s m args below meth c H locs 0 0 (MQ below (va_Qi (fun r1 u => r1 = zr ∧ u = μ0) (av_B av_wm g) (av_A av_wm g)) args s 0 0 (av_A av_wm g)) (F0 m 4 ls []) := by
  obtain ⟨hx, hb, hr, hml, hown, hts, hlocks⟩ := id E
  intro n
  induction n with
  | zero =>
    intro x0 x1 x2 x3 μ H locs ls hμ h hR hl
    cases h
  | succ n ih =>
    intro x0 x1 x2 x3 μ H locs ls hμ h hR hl
    unfold fX12_power_4 at h
    refine lv_iload_n hx hb dX12_power_4 rfl (lv_at hl 3 rfl) ?_
    refine lv_iload_n hx hb dX12_power_5 rfl (lv_at hl 1 rfl) ?_
    refine lv_icmp_ge (tgt := 19) hx hb dX12_power_6 (by decide) (fun c6 => ?_) (fun c6 => ?_)
    · have h := av_it c6 h
      refine lv_iload_n hx hb dX12_power_19 rfl (lv_at hl 2 rfl) ?_
      exact av_ri E hR ⟨Option.some.inj h, hμ.symm⟩ dX12_power_20
    · have h := av_if c6 h
      refine lv_iload_n hx hb dX12_power_9 rfl (lv_at hl 2 rfl) ?_
      refine lv_iload_n hx hb dX12_power_10 rfl (lv_at hl 0 rfl) ?_
      refine lv_imul hx hb dX12_power_11 ?_
      obtain ⟨x2_12, ex2_12, h⟩ := av_bd h
      replace ex2_12 := Option.some.inj ex2_12
      rw [ex2_12]
      refine lv_istore_n (lv' := [(2, .int x2_12), (0, .int x0), (1, .int x1), (3, .int x3)]) hx hb dX12_power_12 rfl hl (by decide) rfl (fun ls hl => ?_)
      obtain ⟨x3_13, ex3_13, h⟩ := av_bd h
      replace ex3_13 := Option.some.inj ex3_13
      refine lv_iinc (v := x3_13) (lv' := [(3, .int x3_13), (2, .int x2_12), (0, .int x0), (1, .int x1)]) hx hb dX12_power_13 hl (k := 3) rfl ex3_13 (by decide) rfl (fun ls hl => ?_)
      refine lv_goto (tgt := 4) hx hb dX12_power_16 (by decide) ?_
      exact ih hμ h hR (lv_sub hl [2, 3, 1, 0] rfl)

set_option maxHeartbeats 4000000 in
set_option maxRecDepth 100000 in
theorem CX12_power (l : Launch) (g : Gl) {a0 : Int32} {a1 : Int32} {μ : Mem} {zr : Int32} (h : fX12_power a0 a1 μ = some zr) : av_MI l yX12_power cX12_power 4 1 (some .int) av_wm g [.int a0, .int a1] μ zr μ := by
  refine av_ent (own := RX12) (by decide) (Nat.le_of_ble_eq_true rfl) rfl (fun p e s m args below meth c E X hR ls hl => ?_)
  have hl : lv_has ls 4 [(0, .int a0), (1, .int a1)] := hl
  obtain ⟨hx, hb, hr, hml, hown, hts, hlocks⟩ := id E
  have hμ : μ = μ := rfl
  unfold fX12_power at h
  refine lv_iconst (v := 1) hx hb dX12_power_0 rfl ?_
  refine lv_istore_n (lv' := [(2, .int 1), (0, .int a0), (1, .int a1)]) hx hb dX12_power_1 rfl hl (by decide) rfl (fun ls hl => ?_)
  refine lv_iconst (v := 0) hx hb dX12_power_2 rfl ?_
  refine lv_istore_n (lv' := [(3, .int 0), (2, .int 1), (0, .int a0), (1, .int a1)]) hx hb dX12_power_3 rfl hl (by decide) rfl (fun ls hl => ?_)
  exact tX12_power_4 E X _ hμ h hR (lv_sub hl [2, 3, 1, 0] rfl)

set_option maxHeartbeats 4000000 in
set_option maxRecDepth 100000 in
theorem tX12_orders_163 {p : Program} {l : Launch} {e : Env} {s : State} {m : MethodId} {args : Array Value} {below : List Frame} {meth : Method} {c : Code} {g : Gl} {zr : Int32} {zm : Mem} (E : av_E p s m args meth c cX12_orders RX12 8 (some .int)) (X : av_X av_wm g s) {k46 : Int32 → Int32 → Int32 → Int32 → Int32 → Mem → Option (Int32 × Mem)} (hk46 : ∀ {x1 : Int32} {x2 : Int32} {x3 : Int32} {x4 : Int32} {x5 : Int32} {μ : Mem} {H : Heap} {locs : List Loc} {ls : Array Slot}, k46 x1 x2 x3 x4 x5 μ = some (zr, zm) → av_R av_wm g μ s H locs → lv_has ls 8 [(0, .ref (g.2.2 98)), (1, .int x1), (2, .int x2), (3, .int x3), (4, .int x4), (5, .int x5)] → W p l e (rmN 6) s m args below meth c H locs 0 0 (MQ below (va_Qi (fun r1 u => r1 = zr ∧ u = zm) (av_B av_wm g) (av_A av_wm g)) args s 0 0 (av_A av_wm g)) (F0 m 46 ls [])) :
    ∀ {x1 : Int32} {x2 : Int32} {x3 : Int32} {x4 : Int32} {x5 : Int32} {μ : Mem} {H : Heap} {locs : List Loc} {ls : Array Slot}, fX12_orders_163 k46 x1 x2 x3 x4 x5 μ = some (zr, zm) → av_R av_wm g μ s H locs → lv_has ls 8 [(0, .ref (g.2.2 98)), (1, .int x1), (2, .int x2), (3, .int x3), (4, .int x4), (5, .int x5)] → W p l e (rmN 6) s m args below meth c H locs 0 0 (MQ below (va_Qi (fun r1 u => r1 = zr ∧ u = zm) (av_B av_wm g) (av_A av_wm g)) args s 0 0 (av_A av_wm g)) (F0 m 163 ls []) := by
  obtain ⟨hx, hb, hr, hml, hown, hts, hlocks⟩ := id E
  intro x1 x2 x3 x4 x5 μ H locs ls h hR hl
  unfold fX12_orders_163 at h
  obtain ⟨x5_163, ex5_163, h⟩ := av_bd h
  replace ex5_163 := Option.some.inj ex5_163
  refine lv_iinc (v := x5_163) (lv' := [(5, .int x5_163), (0, .ref (g.2.2 98)), (1, .int x1), (2, .int x2), (3, .int x3), (4, .int x4)]) hx hb dX12_orders_163 hl (k := 5) rfl ex5_163 (by decide) rfl (fun ls hl => ?_)
  refine lv_goto (tgt := 46) hx hb dX12_orders_166 (by decide) ?_
  exact hk46 h hR (lv_sub hl [1, 2, 3, 4, 5, 0] rfl)

set_option maxHeartbeats 4000000 in
set_option maxRecDepth 100000 in
theorem tX12_orders_160 {p : Program} {l : Launch} {e : Env} {s : State} {m : MethodId} {args : Array Value} {below : List Frame} {meth : Method} {c : Code} {g : Gl} {zr : Int32} {zm : Mem} (E : av_E p s m args meth c cX12_orders RX12 8 (some .int)) (X : av_X av_wm g s) {k46 : Int32 → Int32 → Int32 → Int32 → Int32 → Mem → Option (Int32 × Mem)} (hk46 : ∀ {x1 : Int32} {x2 : Int32} {x3 : Int32} {x4 : Int32} {x5 : Int32} {μ : Mem} {H : Heap} {locs : List Loc} {ls : Array Slot}, k46 x1 x2 x3 x4 x5 μ = some (zr, zm) → av_R av_wm g μ s H locs → lv_has ls 8 [(0, .ref (g.2.2 98)), (1, .int x1), (2, .int x2), (3, .int x3), (4, .int x4), (5, .int x5)] → W p l e (rmN 6) s m args below meth c H locs 0 0 (MQ below (va_Qi (fun r1 u => r1 = zr ∧ u = zm) (av_B av_wm g) (av_A av_wm g)) args s 0 0 (av_A av_wm g)) (F0 m 46 ls [])) :
    ∀ {x1 : Int32} {x2 : Int32} {x3 : Int32} {x5 : Int32} {y0 : Int32} {y1 : Int32} {μ : Mem} {H : Heap} {locs : List Loc} {ls : Array Slot}, fX12_orders_160 k46 x1 x2 x3 x5 y0 y1 μ = some (zr, zm) → av_R av_wm g μ s H locs → lv_has ls 8 [(0, .ref (g.2.2 98)), (1, .int x1), (2, .int x2), (3, .int x3), (5, .int x5)] → W p l e (rmN 6) s m args below meth c H locs 0 0 (MQ below (va_Qi (fun r1 u => r1 = zr ∧ u = zm) (av_B av_wm g) (av_A av_wm g)) args s 0 0 (av_A av_wm g)) (F0 m 160 ls [.int y1, .int y0]) := by
  obtain ⟨hx, hb, hr, hml, hown, hts, hlocks⟩ := id E
  intro x1 x2 x3 x5 y0 y1 μ H locs ls h hR hl
  unfold fX12_orders_160 at h
  refine lv_iadd hx hb dX12_orders_160 ?_
  obtain ⟨x4_161, ex4_161, h⟩ := av_bd h
  replace ex4_161 := Option.some.inj ex4_161
  rw [ex4_161]
  refine lv_istore (lv' := [(4, .int x4_161), (0, .ref (g.2.2 98)), (1, .int x1), (2, .int x2), (3, .int x3), (5, .int x5)]) hx hb dX12_orders_161 hl (by decide) rfl (fun ls hl => ?_)
  exact tX12_orders_163 E X hk46 h hR (lv_sub hl [1, 2, 3, 4, 0, 5] rfl)

set_option maxHeartbeats 4000000 in
set_option maxRecDepth 100000 in
theorem tX12_orders_145 {p : Program} {l : Launch} {e : Env} {s : State} {m : MethodId} {args : Array Value} {below : List Frame} {meth : Method} {c : Code} {g : Gl} {zr : Int32} {zm : Mem} (E : av_E p s m args meth c cX12_orders RX12 8 (some .int)) (X : av_X av_wm g s) {k46 : Int32 → Int32 → Int32 → Int32 → Int32 → Mem → Option (Int32 × Mem)} (hk46 : ∀ {x1 : Int32} {x2 : Int32} {x3 : Int32} {x4 : Int32} {x5 : Int32} {μ : Mem} {H : Heap} {locs : List Loc} {ls : Array Slot}, k46 x1 x2 x3 x4 x5 μ = some (zr, zm) → av_R av_wm g μ s H locs → lv_has ls 8 [(0, .ref (g.2.2 98)), (1, .int x1), (2, .int x2), (3, .int x3), (4, .int x4), (5, .int x5)] → W p l e (rmN 6) s m args below meth c H locs 0 0 (MQ below (va_Qi (fun r1 u => r1 = zr ∧ u = zm) (av_B av_wm g) (av_A av_wm g)) args s 0 0 (av_A av_wm g)) (F0 m 46 ls [])) :
    ∀ {x1 : Int32} {x2 : Int32} {x3 : Int32} {x4 : Int32} {x5 : Int32} {μ : Mem} {H : Heap} {locs : List Loc} {ls : Array Slot}, fX12_orders_145 k46 x1 x2 x3 x4 x5 μ = some (zr, zm) → av_R av_wm g μ s H locs → lv_has ls 8 [(0, .ref (g.2.2 98)), (1, .int x1), (2, .int x2), (3, .int x3), (4, .int x4), (5, .int x5)] → W p l e (rmN 6) s m args below meth c H locs 0 0 (MQ below (va_Qi (fun r1 u => r1 = zr ∧ u = zm) (av_B av_wm g) (av_A av_wm g)) args s 0 0 (av_A av_wm g)) (F0 m 145 ls []) := by
  obtain ⟨hx, hb, hr, hml, hown, hts, hlocks⟩ := id E
  intro x1 x2 x3 x4 x5 μ H locs ls h hR hl
  unfold fX12_orders_145 at h
  refine lv_iload hx hb dX12_orders_145 (lv_at hl 4 rfl) ?_
  refine lv_aload_n hx hb dX12_orders_147 rfl (lv_at hl 0 rfl) ?_
  refine gf_X12_111 E X hR av_t98 dX12_orders_148 ?_
  refine lv_iload_n hx hb dX12_orders_151 rfl (lv_at hl 1 rfl) ?_
  refine lv_icmp_ne (tgt := 159) hx hb dX12_orders_152 (by decide) (fun c152 => ?_) (fun c152 => ?_)
  · have h := av_if c152 h
    refine lv_iconst (v := 0) hx hb dX12_orders_159 rfl ?_
    exact tX12_orders_160 E X hk46 h hR (lv_sub hl [0, 1, 2, 3, 5] rfl)
  · have h := av_it c152 h
    refine lv_iconst (v := 1) hx hb dX12_orders_155 rfl ?_
    refine lv_goto (tgt := 160) hx hb dX12_orders_156 (by decide) ?_
    exact tX12_orders_160 E X hk46 h hR (lv_sub hl [0, 1, 2, 3, 5] rfl)

set_option maxHeartbeats 4000000 in
set_option maxRecDepth 100000 in
theorem tX12_orders_106 {p : Program} {l : Launch} {e : Env} {s : State} {m : MethodId} {args : Array Value} {below : List Frame} {meth : Method} {c : Code} {g : Gl} {zr : Int32} {zm : Mem} (E : av_E p s m args meth c cX12_orders RX12 8 (some .int)) (X : av_X av_wm g s) {k46 : Int32 → Int32 → Int32 → Int32 → Int32 → Mem → Option (Int32 × Mem)} (hk46 : ∀ {x1 : Int32} {x2 : Int32} {x3 : Int32} {x4 : Int32} {x5 : Int32} {μ : Mem} {H : Heap} {locs : List Loc} {ls : Array Slot}, k46 x1 x2 x3 x4 x5 μ = some (zr, zm) → av_R av_wm g μ s H locs → lv_has ls 8 [(0, .ref (g.2.2 98)), (1, .int x1), (2, .int x2), (3, .int x3), (4, .int x4), (5, .int x5)] → W p l e (rmN 6) s m args below meth c H locs 0 0 (MQ below (va_Qi (fun r1 u => r1 = zr ∧ u = zm) (av_B av_wm g) (av_A av_wm g)) args s 0 0 (av_A av_wm g)) (F0 m 46 ls [])) :
    ∀ (n : Nat) {x1 : Int32} {x2 : Int32} {x3 : Int32} {x4 : Int32} {x5 : Int32} {x6 : Int32} {μ : Mem} {H : Heap} {locs : List Loc} {ls : Array Slot}, fX12_orders_106 k46 n x1 x2 x3 x4 x5 x6 μ = some (zr, zm) → av_R av_wm g μ s H locs → lv_has ls 8 [(0, .ref (g.2.2 98)), (1, .int x1), (2, .int x2), (3, .int x3), (4, .int x4), (5, .int x5), (6, .int x6)] → W p l e (rmN 6) s m args below meth c H locs 0 0 (MQ below (va_Qi (fun r1 u => r1 = zr ∧ u = zm) (av_B av_wm g) (av_A av_wm g)) args s 0 0 (av_A av_wm g)) (F0 m 106 ls []) := by
  obtain ⟨hx, hb, hr, hml, hown, hts, hlocks⟩ := id E
  intro n
  induction n with
  | zero =>
    intro x1 x2 x3 x4 x5 x6 μ H locs ls h hR hl
    cases h
  | succ n ih =>
    intro x1 x2 x3 x4 x5 x6 μ H locs ls h hR hl
    unfold fX12_orders_106 at h
    refine lv_iload hx hb dX12_orders_106 (lv_at hl 6 rfl) ?_
    refine lv_iload_n hx hb dX12_orders_108 rfl (lv_at hl 3 rfl) ?_
    refine lv_icmp_ge (tgt := 145) hx hb dX12_orders_109 (by decide) (fun c109 => ?_) (fun c109 => ?_)
    · have h := av_it c109 h
      exact tX12_orders_145 E X hk46 h hR (lv_sub hl [0, 1, 2, 3, 4, 5] rfl)
    · have h := av_if c109 h
      refine lv_aload_n hx hb dX12_orders_112 rfl (lv_at hl 0 rfl) ?_
      refine gf_X12_111 E X hR av_t98 dX12_orders_113 ?_
      refine lv_iload_n hx hb dX12_orders_116 rfl (lv_at hl 1 rfl) ?_
      refine lv_icmp_ne (tgt := 145) hx hb dX12_orders_117 (by decide) (fun c117 => ?_) (fun c117 => ?_)
      · have h := av_if c117 h
        exact tX12_orders_145 E X hk46 h hR (lv_sub hl [0, 1, 2, 3, 4, 5] rfl)
      · have h := av_it c117 h
        refine lv_iload hx hb dX12_orders_120 (lv_at hl 4 rfl) ?_
        refine lv_if_ne (tgt := 145) hx hb dX12_orders_122 (by decide) (fun c122 => ?_) (fun c122 => ?_)
        · have h := av_if c122 h
          exact tX12_orders_145 E X hk46 h hR (lv_sub hl [0, 1, 2, 3, 4, 5] rfl)
        · have h := av_it c122 h
          refine lv_aload_n hx hb dX12_orders_125 rfl (lv_at hl 0 rfl) ?_
          refine gf_X12_36 E X hR av_t98 dX12_orders_126 av_r98_14 ?_
          refine lv_iload hx hb dX12_orders_129 (lv_at hl 6 rfl) ?_
          refine lv_aload_n hx hb dX12_orders_131 rfl (lv_at hl 0 rfl) ?_
          refine gf_X12_33 E X hR av_t98 dX12_orders_132 av_r98_13 ?_
          refine lv_iload hx hb dX12_orders_135 (lv_at hl 6 rfl) ?_
          obtain ⟨r137, er137, h⟩ := av_bd h
          refine av_il E X hR av_t105 er137 dX12_orders_137 ?_
          obtain ⟨μ138, eμ138, h⟩ := av_bd h
          refine av_is E X hR av_t106 eμ138 dX12_orders_138 (fun H locs hR => ?_)
          obtain ⟨x6_139, ex6_139, h⟩ := av_bd h
          replace ex6_139 := Option.some.inj ex6_139
          refine lv_iinc (v := x6_139) (lv' := [(6, .int x6_139), (0, .ref (g.2.2 98)), (1, .int x1), (2, .int x2), (3, .int x3), (4, .int x4), (5, .int x5)]) hx hb dX12_orders_139 hl (k := 6) rfl ex6_139 (by decide) rfl (fun ls hl => ?_)
          refine lv_goto (tgt := 106) hx hb dX12_orders_142 (by decide) ?_
          exact ih h hR (lv_sub hl [1, 2, 3, 4, 5, 6, 0] rfl)

set_option maxHeartbeats 4000000 in
set_option maxRecDepth 100000 in
theorem tX12_orders_78 {p : Program} {l : Launch} {e : Env} {s : State} {m : MethodId} {args : Array Value} {below : List Frame} {meth : Method} {c : Code} {g : Gl} {zr : Int32} {zm : Mem} (E : av_E p s m args meth c cX12_orders RX12 8 (some .int)) (X : av_X av_wm g s) {k46 : Int32 → Int32 → Int32 → Int32 → Int32 → Mem → Option (Int32 × Mem)} (hk46 : ∀ {x1 : Int32} {x2 : Int32} {x3 : Int32} {x4 : Int32} {x5 : Int32} {μ : Mem} {H : Heap} {locs : List Loc} {ls : Array Slot}, k46 x1 x2 x3 x4 x5 μ = some (zr, zm) → av_R av_wm g μ s H locs → lv_has ls 8 [(0, .ref (g.2.2 98)), (1, .int x1), (2, .int x2), (3, .int x3), (4, .int x4), (5, .int x5)] → W p l e (rmN 6) s m args below meth c H locs 0 0 (MQ below (va_Qi (fun r1 u => r1 = zr ∧ u = zm) (av_B av_wm g) (av_A av_wm g)) args s 0 0 (av_A av_wm g)) (F0 m 46 ls [])) :
    ∀ (n : Nat) {x1 : Int32} {x2 : Int32} {x3 : Int32} {x4 : Int32} {x5 : Int32} {x6 : Int32} {μ : Mem} {H : Heap} {locs : List Loc} {ls : Array Slot}, fX12_orders_78 k46 n x1 x2 x3 x4 x5 x6 μ = some (zr, zm) → av_R av_wm g μ s H locs → lv_has ls 8 [(0, .ref (g.2.2 98)), (1, .int x1), (2, .int x2), (3, .int x3), (4, .int x4), (5, .int x5), (6, .int x6)] → W p l e (rmN 6) s m args below meth c H locs 0 0 (MQ below (va_Qi (fun r1 u => r1 = zr ∧ u = zm) (av_B av_wm g) (av_A av_wm g)) args s 0 0 (av_A av_wm g)) (F0 m 78 ls []) := by
  obtain ⟨hx, hb, hr, hml, hown, hts, hlocks⟩ := id E
  intro n
  induction n with
  | zero =>
    intro x1 x2 x3 x4 x5 x6 μ H locs ls h hR hl
    cases h
  | succ n ih =>
    intro x1 x2 x3 x4 x5 x6 μ H locs ls h hR hl
    unfold fX12_orders_78 at h
    refine lv_iload hx hb dX12_orders_78 (lv_at hl 6 rfl) ?_
    refine lv_iload_n hx hb dX12_orders_80 rfl (lv_at hl 3 rfl) ?_
    refine lv_icmp_ge (tgt := 103) hx hb dX12_orders_81 (by decide) (fun c81 => ?_) (fun c81 => ?_)
    · have h := av_it c81 h
      refine lv_iconst (v := 0) hx hb dX12_orders_103 rfl ?_
      refine lv_istore (lv' := [(6, .int 0), (0, .ref (g.2.2 98)), (1, .int x1), (2, .int x2), (3, .int x3), (4, .int x4), (5, .int x5)]) hx hb dX12_orders_104 hl (by decide) rfl (fun ls hl => ?_)
      exact tX12_orders_106 E X hk46 _ h hR (lv_sub hl [1, 2, 3, 4, 5, 6, 0] rfl)
    · have h := av_if c81 h
      refine lv_aload_n hx hb dX12_orders_84 rfl (lv_at hl 0 rfl) ?_
      refine lv_aload_n hx hb dX12_orders_85 rfl (lv_at hl 0 rfl) ?_
      refine gf_X12_33 E X hR av_t98 dX12_orders_86 av_r98_13 ?_
      refine lv_iload hx hb dX12_orders_89 (lv_at hl 6 rfl) ?_
      obtain ⟨r91, er91, h⟩ := av_bd h
      refine av_il E X hR av_t105 er91 dX12_orders_91 ?_
      obtain ⟨r92, μ92, er92, h⟩ := av_bd2 h
      refine av_goI hR (av_cV (As := [.int r91]) (rest := []) E X hR hl.1 (CX12_goVote l g er92) kk_X12_164 (av_room (by omega) (by decide)) av_t98 (by decide) rfl rfl (Nat.le_of_ble_eq_true rfl) ⟨Nat.zero_le _, Nat.zero_le _⟩ dX12_orders_92) (fun H locs hR => ?_)
      refine lv_istore (lv' := [(7, .int r92), (0, .ref (g.2.2 98)), (1, .int x1), (2, .int x2), (3, .int x3), (4, .int x4), (5, .int x5), (6, .int x6)]) hx hb dX12_orders_95 hl (by decide) rfl (fun ls hl => ?_)
      obtain ⟨x6_97, ex6_97, h⟩ := av_bd h
      replace ex6_97 := Option.some.inj ex6_97
      refine lv_iinc (v := x6_97) (lv' := [(6, .int x6_97), (7, .int r92), (0, .ref (g.2.2 98)), (1, .int x1), (2, .int x2), (3, .int x3), (4, .int x4), (5, .int x5)]) hx hb dX12_orders_97 hl (k := 7) rfl ex6_97 (by decide) rfl (fun ls hl => ?_)
      refine lv_goto (tgt := 78) hx hb dX12_orders_100 (by decide) ?_
      exact ih h hR (lv_sub hl [2, 3, 4, 5, 6, 7, 0] rfl)

set_option maxHeartbeats 4000000 in
set_option maxRecDepth 100000 in
theorem tX12_orders_46 {p : Program} {l : Launch} {e : Env} {s : State} {m : MethodId} {args : Array Value} {below : List Frame} {meth : Method} {c : Code} {g : Gl} {zr : Int32} {zm : Mem} (E : av_E p s m args meth c cX12_orders RX12 8 (some .int)) (X : av_X av_wm g s) :
    ∀ (n : Nat) {x1 : Int32} {x2 : Int32} {x3 : Int32} {x4 : Int32} {x5 : Int32} {μ : Mem} {H : Heap} {locs : List Loc} {ls : Array Slot}, fX12_orders_46 n x1 x2 x3 x4 x5 μ = some (zr, zm) → av_R av_wm g μ s H locs → lv_has ls 8 [(0, .ref (g.2.2 98)), (1, .int x1), (2, .int x2), (3, .int x3), (4, .int x4), (5, .int x5)] → W p l e (rmN 6) s m args below meth c H locs 0 0 (MQ below (va_Qi (fun r1 u => r1 = zr ∧ u = zm) (av_B av_wm g) (av_A av_wm g)) args s 0 0 (av_A av_wm g)) (F0 m 46 ls []) := by
  obtain ⟨hx, hb, hr, hml, hown, hts, hlocks⟩ := id E
  intro n
  induction n with
  | zero =>
    intro x1 x2 x3 x4 x5 μ H locs ls h hR hl
    cases h
  | succ n ih =>
    intro x1 x2 x3 x4 x5 μ H locs ls h hR hl
    unfold fX12_orders_46 at h
    refine lv_iload hx hb dX12_orders_46 (lv_at hl 5 rfl) ?_
    refine lv_iload_n hx hb dX12_orders_48 rfl (lv_at hl 3 rfl) ?_
    refine lv_iload_n hx hb dX12_orders_49 rfl (lv_at hl 3 rfl) ?_
    obtain ⟨r50, er50, h⟩ := av_bd h
    refine av_goI hR (av_cS (As := [.int x3, .int x3]) (rest := [.int x5]) E X hR hl.1 (CX12_power l g er50) kk_X12_180 (av_room (by omega) (by decide)) rfl (Nat.le_of_ble_eq_true rfl) ⟨Nat.zero_le _, Nat.zero_le _⟩ dX12_orders_50) (fun H locs hR => ?_)
    refine lv_icmp_ge (tgt := 169) hx hb dX12_orders_53 (by decide) (fun c53 => ?_) (fun c53 => ?_)
    · have h := av_it c53 h
      refine lv_iload_n hx hb dX12_orders_169 rfl (lv_at hl 2 rfl) ?_
      refine lv_iconst (v := (-1)) hx hb dX12_orders_170 rfl ?_
      refine lv_icmp_ne (tgt := 179) hx hb dX12_orders_171 (by decide) (fun c171 => ?_) (fun c171 => ?_)
      · have h := av_if c171 h
        refine lv_iload hx hb dX12_orders_179 (lv_at hl 4 rfl) ?_
        refine lv_if_ne (tgt := 188) hx hb dX12_orders_181 (by decide) (fun c181 => ?_) (fun c181 => ?_)
        · have h := av_if c181 h
          refine lv_iload_n hx hb dX12_orders_188 rfl (lv_at hl 2 rfl) ?_
          refine lv_iload_n hx hb dX12_orders_189 rfl (lv_at hl 3 rfl) ?_
          refine lv_icmp_ge (tgt := 202) hx hb dX12_orders_190 (by decide) (fun c190 => ?_) (fun c190 => ?_)
          · have h := av_it c190 h
            refine lv_bipush (v := (-5)) hx hb dX12_orders_202 rfl ?_
            exact av_ri E hR (av_r2 h) dX12_orders_204
          · have h := av_if c190 h
            refine lv_aload_n hx hb dX12_orders_193 rfl (lv_at hl 0 rfl) ?_
            refine gf_X12_36 E X hR av_t98 dX12_orders_194 av_r98_14 ?_
            refine lv_iload_n hx hb dX12_orders_197 rfl (lv_at hl 2 rfl) ?_
            obtain ⟨r198, er198, h⟩ := av_bd h
            refine av_il E X hR av_t106 er198 dX12_orders_198 ?_
            refine lv_goto (tgt := 204) hx hb dX12_orders_199 (by decide) ?_
            exact av_ri E hR (av_r2 h) dX12_orders_204
        · have h := av_it c181 h
          refine lv_iconst (v := (-1)) hx hb dX12_orders_184 rfl ?_
          refine lv_goto (tgt := 204) hx hb dX12_orders_185 (by decide) ?_
          exact av_ri E hR (av_r2 h) dX12_orders_204
      · have h := av_it c171 h
        refine lv_iload hx hb dX12_orders_174 (lv_at hl 4 rfl) ?_
        refine lv_goto (tgt := 204) hx hb dX12_orders_176 (by decide) ?_
        exact av_ri E hR (av_r2 h) dX12_orders_204
    · have h := av_if c53 h
      refine lv_aload_n hx hb dX12_orders_56 rfl (lv_at hl 0 rfl) ?_
      refine lv_iload hx hb dX12_orders_57 (lv_at hl 5 rfl) ?_
      refine lv_iload_n hx hb dX12_orders_59 rfl (lv_at hl 3 rfl) ?_
      refine lv_iload_n hx hb dX12_orders_60 rfl (lv_at hl 3 rfl) ?_
      obtain ⟨μ61, eμ61, h⟩ := av_bd h
      refine av_goV hR (av_cV (As := [.int x5, .int x3, .int x3]) (rest := []) E X hR hl.1 (CX12_layRow l g eμ61) kk_X12_183 (av_room (by omega) (by decide)) av_t98 (by decide) rfl rfl (Nat.le_of_ble_eq_true rfl) ⟨Nat.zero_le _, Nat.zero_le _⟩ dX12_orders_61) (fun H locs hR => ?_)
      refine lv_aload_n hx hb dX12_orders_64 rfl (lv_at hl 0 rfl) ?_
      obtain ⟨r65, er65, h⟩ := av_bd h
      refine av_goI hR (av_cV (As := []) (rest := []) E X hR hl.1 (CX12_areUnlike l g er65) kk_X12_187 (av_room (by omega) (by decide)) av_t98 (by decide) rfl rfl (Nat.le_of_ble_eq_true rfl) ⟨Nat.zero_le _, Nat.zero_le _⟩ dX12_orders_65) (fun H locs hR => ?_)
      refine lv_if_eq (tgt := 163) hx hb dX12_orders_68 (by decide) (fun c68 => ?_) (fun c68 => ?_)
      · have h := av_it c68 h
        exact tX12_orders_163 E X ih h hR (lv_sub hl [0, 1, 2, 3, 4, 5] rfl)
      · have h := av_if c68 h
        refine lv_aload_n hx hb dX12_orders_71 rfl (lv_at hl 0 rfl) ?_
        obtain ⟨μ72, eμ72, h⟩ := av_bd h
        refine av_goV hR (av_cV (As := []) (rest := []) E X hR hl.1 (CX12_layHand l g eμ72) kk_X12_161 (av_room (by omega) (by decide)) av_t98 (by decide) rfl rfl (Nat.le_of_ble_eq_true rfl) ⟨Nat.zero_le _, Nat.zero_le _⟩ dX12_orders_72) (fun H locs hR => ?_)
        refine lv_iconst (v := 0) hx hb dX12_orders_75 rfl ?_
        refine lv_istore (lv' := [(6, .int 0), (0, .ref (g.2.2 98)), (1, .int x1), (2, .int x2), (3, .int x3), (4, .int x4), (5, .int x5)]) hx hb dX12_orders_76 hl (by decide) rfl (fun ls hl => ?_)
        exact tX12_orders_78 E X ih _ h hR (lv_sub hl [1, 2, 3, 4, 5, 6, 0] rfl)

set_option maxHeartbeats 4000000 in
set_option maxRecDepth 100000 in
theorem tX12_orders_13 {p : Program} {l : Launch} {e : Env} {s : State} {m : MethodId} {args : Array Value} {below : List Frame} {meth : Method} {c : Code} {g : Gl} {zr : Int32} {zm : Mem} (E : av_E p s m args meth c cX12_orders RX12 8 (some .int)) (X : av_X av_wm g s) :
    ∀ {μ : Mem} {H : Heap} {locs : List Loc} {ls : Array Slot}, fX12_orders_13 μ = some (zr, zm) → av_R av_wm g μ s H locs → lv_has ls 8 [(0, .ref (g.2.2 98))] → W p l e (rmN 6) s m args below meth c H locs 0 0 (MQ below (va_Qi (fun r1 u => r1 = zr ∧ u = zm) (av_B av_wm g) (av_A av_wm g)) args s 0 0 (av_A av_wm g)) (F0 m 13 ls []) := by
  obtain ⟨hx, hb, hr, hml, hown, hts, hlocks⟩ := id E
  intro μ H locs ls h hR hl
  unfold fX12_orders_13 at h
  refine lv_aload_n hx hb dX12_orders_13 rfl (lv_at hl 0 rfl) ?_
  refine lv_bipush (v := (-10)) hx hb dX12_orders_14 rfl ?_
  obtain ⟨r16, μ16, er16, h⟩ := av_bd2 h
  refine av_goI hR (av_cV (As := [.int (-10)]) (rest := []) E X hR hl.1 (CX12_bad l g er16) kk_X12_81 (av_room (by omega) (by decide)) av_t98 (by decide) rfl rfl (Nat.le_of_ble_eq_true rfl) ⟨Nat.zero_le _, Nat.zero_le _⟩ dX12_orders_16) (fun H locs hR => ?_)
  exact av_ri E hR (av_r2 h) dX12_orders_19

set_option maxHeartbeats 4000000 in
set_option maxRecDepth 100000 in
theorem CX12_orders (l : Launch) (g : Gl) {a1 : Int32} {a2 : Int32} {μ : Mem} {zr : Int32} {zm : Mem} (h : fX12_orders a1 a2 μ = some (zr, zm)) : av_MI l yX12_orders cX12_orders 8 6 (some .int) av_wm g [.ref (g.2.2 98), .int a1, .int a2] μ zr zm := by
  refine av_ent (own := RX12) (by decide) (Nat.le_of_ble_eq_true rfl) rfl (fun p e s m args below meth c E X hR ls hl => ?_)
  have hl : lv_has ls 8 [(0, .ref (g.2.2 98)), (1, .int a1), (2, .int a2)] := hl
  obtain ⟨hx, hb, hr, hml, hown, hts, hlocks⟩ := id E
  unfold fX12_orders at h
  refine lv_aload_n hx hb dX12_orders_0 rfl (lv_at hl 0 rfl) ?_
  refine lv_iload_n hx hb dX12_orders_1 rfl (lv_at hl 1 rfl) ?_
  obtain ⟨r2, er2, h⟩ := av_bd h
  refine av_goI hR (av_cV (As := [.int a1]) (rest := []) E X hR hl.1 (CX12_isLedge l g er2) kk_X12_94 (av_room (by omega) (by decide)) av_t98 (by decide) rfl rfl (Nat.le_of_ble_eq_true rfl) ⟨Nat.zero_le _, Nat.zero_le _⟩ dX12_orders_2) (fun H locs hR => ?_)
  refine lv_if_eq (tgt := 13) hx hb dX12_orders_5 (by decide) (fun c5 => ?_) (fun c5 => ?_)
  · have h := av_it c5 h
    exact tX12_orders_13 E X h hR (lv_sub hl [0] rfl)
  · have h := av_if c5 h
    refine lv_iload_n hx hb dX12_orders_8 rfl (lv_at hl 2 rfl) ?_
    refine lv_iconst (v := (-1)) hx hb dX12_orders_9 rfl ?_
    refine lv_icmp_ge (tgt := 20) hx hb dX12_orders_10 (by decide) (fun c10 => ?_) (fun c10 => ?_)
    · have h := av_it c10 h
      refine lv_aload_n hx hb dX12_orders_20 rfl (lv_at hl 0 rfl) ?_
      refine gf_X12_7 E X hR av_t98 dX12_orders_21 av_r98_0 ?_
      refine lv_iconst (v := 5) hx hb dX12_orders_24 rfl ?_
      obtain ⟨r25, er25, h⟩ := av_bd h
      refine av_il E X hR av_t99 er25 dX12_orders_25 ?_
      refine lv_iconst (v := (-1)) hx hb dX12_orders_26 rfl ?_
      refine lv_icmp_eq (tgt := 35) hx hb dX12_orders_27 (by decide) (fun c27 => ?_) (fun c27 => ?_)
      · have h := av_it c27 h
        refine lv_aload_n hx hb dX12_orders_35 rfl (lv_at hl 0 rfl) ?_
        obtain ⟨r36, er36, h⟩ := av_bd h
        refine av_goI hR (av_cV (As := []) (rest := []) E X hR hl.1 (CX12_voters l g er36) kk_X12_72 (av_room (by omega) (by decide)) av_t98 (by decide) rfl rfl (Nat.le_of_ble_eq_true rfl) ⟨Nat.zero_le _, Nat.zero_le _⟩ dX12_orders_36) (fun H locs hR => ?_)
        refine lv_istore_n (lv' := [(3, .int r36), (0, .ref (g.2.2 98)), (1, .int a1), (2, .int a2)]) hx hb dX12_orders_39 rfl hl (by decide) rfl (fun ls hl => ?_)
        refine lv_iconst (v := 0) hx hb dX12_orders_40 rfl ?_
        refine lv_istore (lv' := [(4, .int 0), (3, .int r36), (0, .ref (g.2.2 98)), (1, .int a1), (2, .int a2)]) hx hb dX12_orders_41 hl (by decide) rfl (fun ls hl => ?_)
        refine lv_iconst (v := 0) hx hb dX12_orders_43 rfl ?_
        refine lv_istore (lv' := [(5, .int 0), (4, .int 0), (3, .int r36), (0, .ref (g.2.2 98)), (1, .int a1), (2, .int a2)]) hx hb dX12_orders_44 hl (by decide) rfl (fun ls hl => ?_)
        exact tX12_orders_46 E X _ h hR (lv_sub hl [3, 4, 5, 2, 1, 0] rfl)
      · have h := av_if c27 h
        refine lv_aload_n hx hb dX12_orders_30 rfl (lv_at hl 0 rfl) ?_
        obtain ⟨r31, μ31, er31, h⟩ := av_bd2 h
        refine av_goI hR (av_cV (As := []) (rest := []) E X hR hl.1 (CX12_no l g er31) kk_X12_173 (av_room (by omega) (by decide)) av_t98 (by decide) rfl rfl (Nat.le_of_ble_eq_true rfl) ⟨Nat.zero_le _, Nat.zero_le _⟩ dX12_orders_31) (fun H locs hR => ?_)
        exact av_ri E hR (av_r2 h) dX12_orders_34
    · have h := av_if c10 h
      exact tX12_orders_13 E X h hR (lv_sub hl [0] rfl)

set_option maxHeartbeats 4000000 in
set_option maxRecDepth 100000 in
theorem tX12_stones_70 {p : Program} {l : Launch} {e : Env} {s : State} {m : MethodId} {args : Array Value} {below : List Frame} {meth : Method} {c : Code} {g : Gl} {zr : Int32} {zm : Mem} (E : av_E p s m args meth c cX12_stones RX12 7 (some .int)) (X : av_X av_wm g s) {k27 : Int32 → Int32 → Int32 → Mem → Option (Int32 × Mem)} (hk27 : ∀ {x1 : Int32} {x2 : Int32} {x3 : Int32} {μ : Mem} {H : Heap} {locs : List Loc} {ls : Array Slot}, k27 x1 x2 x3 μ = some (zr, zm) → av_R av_wm g μ s H locs → lv_has ls 7 [(0, .ref (g.2.2 98)), (1, .int x1), (2, .int x2), (3, .int x3)] → W p l e (rmN 5) s m args below meth c H locs 0 0 (MQ below (va_Qi (fun r1 u => r1 = zr ∧ u = zm) (av_B av_wm g) (av_A av_wm g)) args s 0 0 (av_A av_wm g)) (F0 m 27 ls [])) {k36 : Int32 → Int32 → Int32 → Int32 → Mem → Option (Int32 × Mem)} (hk36 : ∀ {x1 : Int32} {x2 : Int32} {x3 : Int32} {x4 : Int32} {μ : Mem} {H : Heap} {locs : List Loc} {ls : Array Slot}, k36 x1 x2 x3 x4 μ = some (zr, zm) → av_R av_wm g μ s H locs → lv_has ls 7 [(0, .ref (g.2.2 98)), (1, .int x1), (2, .int x2), (3, .int x3), (4, .int x4)] → W p l e (rmN 5) s m args below meth c H locs 0 0 (MQ below (va_Qi (fun r1 u => r1 = zr ∧ u = zm) (av_B av_wm g) (av_A av_wm g)) args s 0 0 (av_A av_wm g)) (F0 m 36 ls [])) :
    ∀ (n : Nat) {x1 : Int32} {x2 : Int32} {x3 : Int32} {x4 : Int32} {x5 : Int32} {x6 : Int32} {μ : Mem} {H : Heap} {locs : List Loc} {ls : Array Slot}, fX12_stones_70 k27 k36 n x1 x2 x3 x4 x5 x6 μ = some (zr, zm) → av_R av_wm g μ s H locs → lv_has ls 7 [(0, .ref (g.2.2 98)), (1, .int x1), (2, .int x2), (3, .int x3), (4, .int x4), (5, .int x5), (6, .int x6)] → W p l e (rmN 5) s m args below meth c H locs 0 0 (MQ below (va_Qi (fun r1 u => r1 = zr ∧ u = zm) (av_B av_wm g) (av_A av_wm g)) args s 0 0 (av_A av_wm g)) (F0 m 70 ls []) := by
  obtain ⟨hx, hb, hr, hml, hown, hts, hlocks⟩ := id E
  intro n
  induction n with
  | zero =>
    intro x1 x2 x3 x4 x5 x6 μ H locs ls h hR hl
    cases h
  | succ n ih =>
    intro x1 x2 x3 x4 x5 x6 μ H locs ls h hR hl
    unfold fX12_stones_70 at h
    refine lv_iload hx hb dX12_stones_70 (lv_at hl 6 rfl) ?_
    refine lv_iload_n hx hb dX12_stones_72 rfl (lv_at hl 3 rfl) ?_
    refine lv_icmp_ge (tgt := 96) hx hb dX12_stones_73 (by decide) (fun c73 => ?_) (fun c73 => ?_)
    · have h := av_it c73 h
      refine lv_iload hx hb dX12_stones_96 (lv_at hl 5 rfl) ?_
      refine lv_iload_n hx hb dX12_stones_98 rfl (lv_at hl 1 rfl) ?_
      refine lv_ishr hx hb dX12_stones_99 ?_
      refine lv_iconst (v := 1) hx hb dX12_stones_100 rfl ?_
      refine lv_iand hx hb dX12_stones_101 ?_
      refine lv_iconst (v := 1) hx hb dX12_stones_102 rfl ?_
      refine lv_icmp_ne (tgt := 121) hx hb dX12_stones_103 (by decide) (fun c103 => ?_) (fun c103 => ?_)
      · have h := av_if c103 h
        obtain ⟨x4_121, ex4_121, h⟩ := av_bd h
        replace ex4_121 := Option.some.inj ex4_121
        refine lv_iinc (v := x4_121) (lv' := [(4, .int x4_121), (0, .ref (g.2.2 98)), (1, .int x1), (2, .int x2), (3, .int x3), (5, .int x5), (6, .int x6)]) hx hb dX12_stones_121 hl (k := 4) rfl ex4_121 (by decide) rfl (fun ls hl => ?_)
        refine lv_goto (tgt := 36) hx hb dX12_stones_124 (by decide) ?_
        exact hk36 h hR (lv_sub hl [1, 2, 3, 4, 0] rfl)
      · have h := av_it c103 h
        refine lv_iload_n hx hb dX12_stones_106 rfl (lv_at hl 2 rfl) ?_
        refine lv_if_ne (tgt := 114) hx hb dX12_stones_107 (by decide) (fun c107 => ?_) (fun c107 => ?_)
        · have h := av_if c107 h
          refine lv_aload_n hx hb dX12_stones_114 rfl (lv_at hl 0 rfl) ?_
          refine gf_X12_33 E X hR av_t98 dX12_stones_115 av_r98_13 ?_
          refine lv_iconst (v := 0) hx hb dX12_stones_118 rfl ?_
          obtain ⟨r119, er119, h⟩ := av_bd h
          refine av_il E X hR av_t105 er119 dX12_stones_119 ?_
          exact av_ri E hR (av_r2 h) dX12_stones_120
        · have h := av_it c107 h
          refine lv_iload_n hx hb dX12_stones_110 rfl (lv_at hl 3 rfl) ?_
          refine lv_goto (tgt := 120) hx hb dX12_stones_111 (by decide) ?_
          exact av_ri E hR (av_r2 h) dX12_stones_120
    · have h := av_if c73 h
      refine lv_aload_n hx hb dX12_stones_76 rfl (lv_at hl 0 rfl) ?_
      refine lv_aload_n hx hb dX12_stones_77 rfl (lv_at hl 0 rfl) ?_
      refine gf_X12_33 E X hR av_t98 dX12_stones_78 av_r98_13 ?_
      refine lv_iload hx hb dX12_stones_81 (lv_at hl 6 rfl) ?_
      obtain ⟨r83, er83, h⟩ := av_bd h
      refine av_il E X hR av_t105 er83 dX12_stones_83 ?_
      refine lv_iconst (v := 1) hx hb dX12_stones_84 rfl ?_
      obtain ⟨r85, μ85, er85, h⟩ := av_bd2 h
      refine av_goI hR (av_cV (As := [.int r83, .int 1]) (rest := []) E X hR hl.1 (CX12_goStone l g er85) kk_X12_152 (av_room (by omega) (by decide)) av_t98 (by decide) rfl rfl (Nat.le_of_ble_eq_true rfl) ⟨Nat.zero_le _, Nat.zero_le _⟩ dX12_stones_85) (fun H locs hR => ?_)
      refine lv_istore (lv' := [(5, .int r85), (0, .ref (g.2.2 98)), (1, .int x1), (2, .int x2), (3, .int x3), (4, .int x4), (6, .int x6)]) hx hb dX12_stones_88 hl (by decide) rfl (fun ls hl => ?_)
      obtain ⟨x6_90, ex6_90, h⟩ := av_bd h
      replace ex6_90 := Option.some.inj ex6_90
      refine lv_iinc (v := x6_90) (lv' := [(6, .int x6_90), (5, .int r85), (0, .ref (g.2.2 98)), (1, .int x1), (2, .int x2), (3, .int x3), (4, .int x4)]) hx hb dX12_stones_90 hl (k := 6) rfl ex6_90 (by decide) rfl (fun ls hl => ?_)
      refine lv_goto (tgt := 70) hx hb dX12_stones_93 (by decide) ?_
      exact ih h hR (lv_sub hl [2, 3, 4, 5, 6, 1, 0] rfl)

set_option maxHeartbeats 4000000 in
set_option maxRecDepth 100000 in
theorem tX12_stones_36 {p : Program} {l : Launch} {e : Env} {s : State} {m : MethodId} {args : Array Value} {below : List Frame} {meth : Method} {c : Code} {g : Gl} {zr : Int32} {zm : Mem} (E : av_E p s m args meth c cX12_stones RX12 7 (some .int)) (X : av_X av_wm g s) {k27 : Int32 → Int32 → Int32 → Mem → Option (Int32 × Mem)} (hk27 : ∀ {x1 : Int32} {x2 : Int32} {x3 : Int32} {μ : Mem} {H : Heap} {locs : List Loc} {ls : Array Slot}, k27 x1 x2 x3 μ = some (zr, zm) → av_R av_wm g μ s H locs → lv_has ls 7 [(0, .ref (g.2.2 98)), (1, .int x1), (2, .int x2), (3, .int x3)] → W p l e (rmN 5) s m args below meth c H locs 0 0 (MQ below (va_Qi (fun r1 u => r1 = zr ∧ u = zm) (av_B av_wm g) (av_A av_wm g)) args s 0 0 (av_A av_wm g)) (F0 m 27 ls [])) :
    ∀ (n : Nat) {x1 : Int32} {x2 : Int32} {x3 : Int32} {x4 : Int32} {μ : Mem} {H : Heap} {locs : List Loc} {ls : Array Slot}, fX12_stones_36 k27 n x1 x2 x3 x4 μ = some (zr, zm) → av_R av_wm g μ s H locs → lv_has ls 7 [(0, .ref (g.2.2 98)), (1, .int x1), (2, .int x2), (3, .int x3), (4, .int x4)] → W p l e (rmN 5) s m args below meth c H locs 0 0 (MQ below (va_Qi (fun r1 u => r1 = zr ∧ u = zm) (av_B av_wm g) (av_A av_wm g)) args s 0 0 (av_A av_wm g)) (F0 m 36 ls []) := by
  obtain ⟨hx, hb, hr, hml, hown, hts, hlocks⟩ := id E
  intro n
  induction n with
  | zero =>
    intro x1 x2 x3 x4 μ H locs ls h hR hl
    cases h
  | succ n ih =>
    intro x1 x2 x3 x4 μ H locs ls h hR hl
    unfold fX12_stones_36 at h
    refine lv_iload hx hb dX12_stones_36 (lv_at hl 4 rfl) ?_
    refine lv_aload_n hx hb dX12_stones_38 rfl (lv_at hl 0 rfl) ?_
    obtain ⟨r39, er39, h⟩ := av_bd h
    refine av_goI hR (av_cV (As := []) (rest := [.int x4]) E X hR hl.1 (CX12_ledges l g er39) kk_X12_64 (av_room (by omega) (by decide)) av_t98 (by decide) rfl rfl (Nat.le_of_ble_eq_true rfl) ⟨Nat.zero_le _, Nat.zero_le _⟩ dX12_stones_39) (fun H locs hR => ?_)
    refine lv_iload_n hx hb dX12_stones_42 rfl (lv_at hl 3 rfl) ?_
    obtain ⟨r43, er43, h⟩ := av_bd h
    refine av_goI hR (av_cS (As := [.int r39, .int x3]) (rest := [.int x4]) E X hR hl.1 (CX12_power l g er43) kk_X12_180 (av_room (by omega) (by decide)) rfl (Nat.le_of_ble_eq_true rfl) ⟨Nat.zero_le _, Nat.zero_le _⟩ dX12_stones_43) (fun H locs hR => ?_)
    refine lv_icmp_ge (tgt := 127) hx hb dX12_stones_46 (by decide) (fun c46 => ?_) (fun c46 => ?_)
    · have h := av_it c46 h
      obtain ⟨x3_127, ex3_127, h⟩ := av_bd h
      replace ex3_127 := Option.some.inj ex3_127
      refine lv_iinc (v := x3_127) (lv' := [(3, .int x3_127), (0, .ref (g.2.2 98)), (1, .int x1), (2, .int x2), (4, .int x4)]) hx hb dX12_stones_127 hl (k := 3) rfl ex3_127 (by decide) rfl (fun ls hl => ?_)
      refine lv_goto (tgt := 27) hx hb dX12_stones_130 (by decide) ?_
      exact hk27 h hR (lv_sub hl [1, 2, 3, 0] rfl)
    · have h := av_if c46 h
      refine lv_aload_n hx hb dX12_stones_49 rfl (lv_at hl 0 rfl) ?_
      refine lv_iload hx hb dX12_stones_50 (lv_at hl 4 rfl) ?_
      refine lv_iload_n hx hb dX12_stones_52 rfl (lv_at hl 3 rfl) ?_
      refine lv_aload_n hx hb dX12_stones_53 rfl (lv_at hl 0 rfl) ?_
      obtain ⟨r54, er54, h⟩ := av_bd h
      refine av_goI hR (av_cV (As := []) (rest := [.int x3, .int x4, .ref (g.2.2 98)]) E X hR hl.1 (CX12_ledges l g er54) kk_X12_64 (av_room (by omega) (by decide)) av_t98 (by decide) rfl rfl (Nat.le_of_ble_eq_true rfl) ⟨Nat.zero_le _, Nat.zero_le _⟩ dX12_stones_54) (fun H locs hR => ?_)
      obtain ⟨μ57, eμ57, h⟩ := av_bd h
      refine av_goV hR (av_cV (As := [.int x4, .int x3, .int r54]) (rest := []) E X hR hl.1 (CX12_layRow l g eμ57) kk_X12_183 (av_room (by omega) (by decide)) av_t98 (by decide) rfl rfl (Nat.le_of_ble_eq_true rfl) ⟨Nat.zero_le _, Nat.zero_le _⟩ dX12_stones_57) (fun H locs hR => ?_)
      refine lv_aload_n hx hb dX12_stones_60 rfl (lv_at hl 0 rfl) ?_
      obtain ⟨μ61, eμ61, h⟩ := av_bd h
      refine av_goV hR (av_cV (As := []) (rest := []) E X hR hl.1 (CX12_layHand l g eμ61) kk_X12_161 (av_room (by omega) (by decide)) av_t98 (by decide) rfl rfl (Nat.le_of_ble_eq_true rfl) ⟨Nat.zero_le _, Nat.zero_le _⟩ dX12_stones_61) (fun H locs hR => ?_)
      refine lv_iconst (v := 0) hx hb dX12_stones_64 rfl ?_
      refine lv_istore (lv' := [(5, .int 0), (0, .ref (g.2.2 98)), (1, .int x1), (2, .int x2), (3, .int x3), (4, .int x4)]) hx hb dX12_stones_65 hl (by decide) rfl (fun ls hl => ?_)
      refine lv_iconst (v := 0) hx hb dX12_stones_67 rfl ?_
      refine lv_istore (lv' := [(6, .int 0), (5, .int 0), (0, .ref (g.2.2 98)), (1, .int x1), (2, .int x2), (3, .int x3), (4, .int x4)]) hx hb dX12_stones_68 hl (by decide) rfl (fun ls hl => ?_)
      exact tX12_stones_70 E X hk27 ih _ h hR (lv_sub hl [2, 3, 4, 5, 6, 1, 0] rfl)

set_option maxHeartbeats 4000000 in
set_option maxRecDepth 100000 in
theorem tX12_stones_27 {p : Program} {l : Launch} {e : Env} {s : State} {m : MethodId} {args : Array Value} {below : List Frame} {meth : Method} {c : Code} {g : Gl} {zr : Int32} {zm : Mem} (E : av_E p s m args meth c cX12_stones RX12 7 (some .int)) (X : av_X av_wm g s) :
    ∀ (n : Nat) {x1 : Int32} {x2 : Int32} {x3 : Int32} {μ : Mem} {H : Heap} {locs : List Loc} {ls : Array Slot}, fX12_stones_27 n x1 x2 x3 μ = some (zr, zm) → av_R av_wm g μ s H locs → lv_has ls 7 [(0, .ref (g.2.2 98)), (1, .int x1), (2, .int x2), (3, .int x3)] → W p l e (rmN 5) s m args below meth c H locs 0 0 (MQ below (va_Qi (fun r1 u => r1 = zr ∧ u = zm) (av_B av_wm g) (av_A av_wm g)) args s 0 0 (av_A av_wm g)) (F0 m 27 ls []) := by
  obtain ⟨hx, hb, hr, hml, hown, hts, hlocks⟩ := id E
  intro n
  induction n with
  | zero =>
    intro x1 x2 x3 μ H locs ls h hR hl
    cases h
  | succ n ih =>
    intro x1 x2 x3 μ H locs ls h hR hl
    unfold fX12_stones_27 at h
    refine lv_iload_n hx hb dX12_stones_27 rfl (lv_at hl 3 rfl) ?_
    refine lv_bipush (v := 6) hx hb dX12_stones_28 rfl ?_
    refine lv_icmp_ge (tgt := 133) hx hb dX12_stones_30 (by decide) (fun c30 => ?_) (fun c30 => ?_)
    · have h := av_it c30 h
      refine lv_iconst (v := (-1)) hx hb dX12_stones_133 rfl ?_
      exact av_ri E hR (av_r2 h) dX12_stones_134
    · have h := av_if c30 h
      refine lv_iconst (v := 0) hx hb dX12_stones_33 rfl ?_
      refine lv_istore (lv' := [(4, .int 0), (0, .ref (g.2.2 98)), (1, .int x1), (2, .int x2), (3, .int x3)]) hx hb dX12_stones_34 hl (by decide) rfl (fun ls hl => ?_)
      exact tX12_stones_36 E X ih _ h hR (lv_sub hl [1, 2, 3, 4, 0] rfl)

set_option maxHeartbeats 4000000 in
set_option maxRecDepth 100000 in
theorem tX12_stones_18 {p : Program} {l : Launch} {e : Env} {s : State} {m : MethodId} {args : Array Value} {below : List Frame} {meth : Method} {c : Code} {g : Gl} {zr : Int32} {zm : Mem} (E : av_E p s m args meth c cX12_stones RX12 7 (some .int)) (X : av_X av_wm g s) :
    ∀ {μ : Mem} {H : Heap} {locs : List Loc} {ls : Array Slot}, fX12_stones_18 μ = some (zr, zm) → av_R av_wm g μ s H locs → lv_has ls 7 [(0, .ref (g.2.2 98))] → W p l e (rmN 5) s m args below meth c H locs 0 0 (MQ below (va_Qi (fun r1 u => r1 = zr ∧ u = zm) (av_B av_wm g) (av_A av_wm g)) args s 0 0 (av_A av_wm g)) (F0 m 18 ls []) := by
  obtain ⟨hx, hb, hr, hml, hown, hts, hlocks⟩ := id E
  intro μ H locs ls h hR hl
  unfold fX12_stones_18 at h
  refine lv_aload_n hx hb dX12_stones_18 rfl (lv_at hl 0 rfl) ?_
  refine lv_bipush (v := (-2)) hx hb dX12_stones_19 rfl ?_
  obtain ⟨r21, μ21, er21, h⟩ := av_bd2 h
  refine av_goI hR (av_cV (As := [.int (-2)]) (rest := []) E X hR hl.1 (CX12_bad l g er21) kk_X12_81 (av_room (by omega) (by decide)) av_t98 (by decide) rfl rfl (Nat.le_of_ble_eq_true rfl) ⟨Nat.zero_le _, Nat.zero_le _⟩ dX12_stones_21) (fun H locs hR => ?_)
  exact av_ri E hR (av_r2 h) dX12_stones_24

set_option maxHeartbeats 4000000 in
set_option maxRecDepth 100000 in
theorem CX12_stones (l : Launch) (g : Gl) {a1 : Int32} {a2 : Int32} {μ : Mem} {zr : Int32} {zm : Mem} (h : fX12_stones a1 a2 μ = some (zr, zm)) : av_MI l yX12_stones cX12_stones 7 5 (some .int) av_wm g [.ref (g.2.2 98), .int a1, .int a2] μ zr zm := by
  refine av_ent (own := RX12) (by decide) (Nat.le_of_ble_eq_true rfl) rfl (fun p e s m args below meth c E X hR ls hl => ?_)
  have hl : lv_has ls 7 [(0, .ref (g.2.2 98)), (1, .int a1), (2, .int a2)] := hl
  obtain ⟨hx, hb, hr, hml, hown, hts, hlocks⟩ := id E
  unfold fX12_stones at h
  refine lv_aload_n hx hb dX12_stones_0 rfl (lv_at hl 0 rfl) ?_
  refine lv_iload_n hx hb dX12_stones_1 rfl (lv_at hl 1 rfl) ?_
  obtain ⟨r2, er2, h⟩ := av_bd h
  refine av_goI hR (av_cV (As := [.int a1]) (rest := []) E X hR hl.1 (CX12_isLedge l g er2) kk_X12_94 (av_room (by omega) (by decide)) av_t98 (by decide) rfl rfl (Nat.le_of_ble_eq_true rfl) ⟨Nat.zero_le _, Nat.zero_le _⟩ dX12_stones_2) (fun H locs hR => ?_)
  refine lv_if_eq (tgt := 18) hx hb dX12_stones_5 (by decide) (fun c5 => ?_) (fun c5 => ?_)
  · have h := av_it c5 h
    exact tX12_stones_18 E X h hR (lv_sub hl [0] rfl)
  · have h := av_if c5 h
    refine lv_iload_n hx hb dX12_stones_8 rfl (lv_at hl 2 rfl) ?_
    refine lv_i2l hx hb dX12_stones_9 rfl ?_
    refine lv_lconst (v := 0) hx hb dX12_stones_10 rfl ?_
    refine lv_lconst (v := 1) hx hb dX12_stones_11 rfl ?_
    obtain ⟨r12, er12, h⟩ := av_bd h
    refine av_goI hR (av_cS (As := [.long (Int32.toInt64 a2), .long 0, .long 1]) (rest := []) E X hR hl.1 (CX12_in l g er12) kk_X12_68 (av_room (by omega) (by decide)) rfl (Nat.le_of_ble_eq_true rfl) ⟨Nat.zero_le _, Nat.zero_le _⟩ dX12_stones_12) (fun H locs hR => ?_)
    refine lv_if_ne (tgt := 25) hx hb dX12_stones_15 (by decide) (fun c15 => ?_) (fun c15 => ?_)
    · have h := av_if c15 h
      refine lv_iconst (v := 1) hx hb dX12_stones_25 rfl ?_
      refine lv_istore_n (lv' := [(3, .int 1), (0, .ref (g.2.2 98)), (1, .int a1), (2, .int a2)]) hx hb dX12_stones_26 rfl hl (by decide) rfl (fun ls hl => ?_)
      exact tX12_stones_27 E X _ h hR (lv_sub hl [1, 2, 3, 0] rfl)
    · have h := av_it c15 h
      exact tX12_stones_18 E X h hR (lv_sub hl [0] rfl)

set_option maxHeartbeats 4000000 in
set_option maxRecDepth 100000 in
theorem tX12_buried_20 {p : Program} {l : Launch} {e : Env} {s : State} {m : MethodId} {args : Array Value} {below : List Frame} {meth : Method} {c : Code} {g : Gl} {zr : Int32} {zm : Mem} (E : av_E p s m args meth c cX12_buried RX12 4 (some .int)) (X : av_X av_wm g s) :
    ∀ {μ : Mem} {H : Heap} {locs : List Loc} {ls : Array Slot}, fX12_buried_20 μ = some (zr, zm) → av_R av_wm g μ s H locs → lv_has ls 4 [(0, .ref (g.2.2 98))] → W p l e (rmN 5) s m args below meth c H locs 0 0 (MQ below (va_Qi (fun r1 u => r1 = zr ∧ u = zm) (av_B av_wm g) (av_A av_wm g)) args s 0 0 (av_A av_wm g)) (F0 m 20 ls []) := by
  obtain ⟨hx, hb, hr, hml, hown, hts, hlocks⟩ := id E
  intro μ H locs ls h hR hl
  unfold fX12_buried_20 at h
  refine lv_aload_n hx hb dX12_buried_20 rfl (lv_at hl 0 rfl) ?_
  refine lv_bipush (v := (-2)) hx hb dX12_buried_21 rfl ?_
  obtain ⟨r23, μ23, er23, h⟩ := av_bd2 h
  refine av_goI hR (av_cV (As := [.int (-2)]) (rest := []) E X hR hl.1 (CX12_bad l g er23) kk_X12_81 (av_room (by omega) (by decide)) av_t98 (by decide) rfl rfl (Nat.le_of_ble_eq_true rfl) ⟨Nat.zero_le _, Nat.zero_le _⟩ dX12_buried_23) (fun H locs hR => ?_)
  exact av_ri E hR (av_r2 h) dX12_buried_26

set_option maxHeartbeats 4000000 in
set_option maxRecDepth 100000 in
theorem CX12_buried (l : Launch) (g : Gl) {a1 : Int32} {a2 : Int32} {μ : Mem} {zr : Int32} {zm : Mem} (h : fX12_buried a1 a2 μ = some (zr, zm)) : av_MI l yX12_buried cX12_buried 4 5 (some .int) av_wm g [.ref (g.2.2 98), .int a1, .int a2] μ zr zm := by
  refine av_ent (own := RX12) (by decide) (Nat.le_of_ble_eq_true rfl) rfl (fun p e s m args below meth c E X hR ls hl => ?_)
  have hl : lv_has ls 4 [(0, .ref (g.2.2 98)), (1, .int a1), (2, .int a2)] := hl
  obtain ⟨hx, hb, hr, hml, hown, hts, hlocks⟩ := id E
  unfold fX12_buried at h
  refine lv_aload_n hx hb dX12_buried_0 rfl (lv_at hl 0 rfl) ?_
  refine lv_iload_n hx hb dX12_buried_1 rfl (lv_at hl 1 rfl) ?_
  obtain ⟨r2, er2, h⟩ := av_bd h
  refine av_goI hR (av_cV (As := [.int a1]) (rest := []) E X hR hl.1 (CX12_isLedge l g er2) kk_X12_94 (av_room (by omega) (by decide)) av_t98 (by decide) rfl rfl (Nat.le_of_ble_eq_true rfl) ⟨Nat.zero_le _, Nat.zero_le _⟩ dX12_buried_2) (fun H locs hR => ?_)
  refine lv_if_eq (tgt := 20) hx hb dX12_buried_5 (by decide) (fun c5 => ?_) (fun c5 => ?_)
  · have h := av_it c5 h
    exact tX12_buried_20 E X h hR (lv_sub hl [0] rfl)
  · have h := av_if c5 h
    refine lv_iload_n hx hb dX12_buried_8 rfl (lv_at hl 2 rfl) ?_
    refine lv_i2l hx hb dX12_buried_9 rfl ?_
    refine lv_lconst (v := 1) hx hb dX12_buried_10 rfl ?_
    refine lv_ldc2 (v := 20) hx hb hown (hts _ kL_X12_191) dX12_buried_11 ?_
    obtain ⟨r14, er14, h⟩ := av_bd h
    refine av_goI hR (av_cS (As := [.long (Int32.toInt64 a2), .long 1, .long 20]) (rest := []) E X hR hl.1 (CX12_in l g er14) kk_X12_68 (av_room (by omega) (by decide)) rfl (Nat.le_of_ble_eq_true rfl) ⟨Nat.zero_le _, Nat.zero_le _⟩ dX12_buried_14) (fun H locs hR => ?_)
    refine lv_if_ne (tgt := 27) hx hb dX12_buried_17 (by decide) (fun c17 => ?_) (fun c17 => ?_)
    · have h := av_if c17 h
      refine lv_aload_n hx hb dX12_buried_27 rfl (lv_at hl 0 rfl) ?_
      obtain ⟨μ28, eμ28, h⟩ := av_bd h
      refine av_goV hR (av_cV (As := []) (rest := []) E X hR hl.1 (CX12_layHand l g eμ28) kk_X12_161 (av_room (by omega) (by decide)) av_t98 (by decide) rfl rfl (Nat.le_of_ble_eq_true rfl) ⟨Nat.zero_le _, Nat.zero_le _⟩ dX12_buried_28) (fun H locs hR => ?_)
      refine lv_aload_n hx hb dX12_buried_31 rfl (lv_at hl 0 rfl) ?_
      refine lv_iload_n hx hb dX12_buried_32 rfl (lv_at hl 1 rfl) ?_
      refine lv_iload_n hx hb dX12_buried_33 rfl (lv_at hl 2 rfl) ?_
      obtain ⟨r34, μ34, er34, h⟩ := av_bd2 h
      refine av_goI hR (av_cV (As := [.int a1, .int a2]) (rest := []) E X hR hl.1 (CX12_goStone l g er34) kk_X12_152 (av_room (by omega) (by decide)) av_t98 (by decide) rfl rfl (Nat.le_of_ble_eq_true rfl) ⟨Nat.zero_le _, Nat.zero_le _⟩ dX12_buried_34) (fun H locs hR => ?_)
      refine lv_istore_n (lv' := [(3, .int r34), (0, .ref (g.2.2 98)), (1, .int a1), (2, .int a2)]) hx hb dX12_buried_37 rfl hl (by decide) rfl (fun ls hl => ?_)
      refine lv_aload_n hx hb dX12_buried_38 rfl (lv_at hl 1 rfl) ?_
      refine gf_X12_123 E X hR av_t98 dX12_buried_39 ?_
      exact av_ri E hR (av_r2 h) dX12_buried_42
    · have h := av_it c17 h
      exact tX12_buried_20 E X h hR (lv_sub hl [0] rfl)

set_option maxHeartbeats 4000000 in
set_option maxRecDepth 100000 in
theorem tX12_nights_33 {p : Program} {l : Launch} {e : Env} {s : State} {m : MethodId} {args : Array Value} {below : List Frame} {meth : Method} {c : Code} {g : Gl} {zr : Int32} {zm : Mem} (E : av_E p s m args meth c cX12_nights RX12 4 (some .int)) (X : av_X av_wm g s) :
    ∀ (n : Nat) {x1 : Int32} {x2 : Int32} {x3 : Int32} {μ : Mem} {H : Heap} {locs : List Loc} {ls : Array Slot}, fX12_nights_33 n x1 x2 x3 μ = some (zr, zm) → av_R av_wm g μ s H locs → lv_has ls 4 [(0, .ref (g.2.2 98)), (1, .int x1), (2, .int x2), (3, .int x3)] → W p l e (rmN 5) s m args below meth c H locs 0 0 (MQ below (va_Qi (fun r1 u => r1 = zr ∧ u = zm) (av_B av_wm g) (av_A av_wm g)) args s 0 0 (av_A av_wm g)) (F0 m 33 ls []) := by
  obtain ⟨hx, hb, hr, hml, hown, hts, hlocks⟩ := id E
  intro n
  induction n with
  | zero =>
    intro x1 x2 x3 μ H locs ls h hR hl
    cases h
  | succ n ih =>
    intro x1 x2 x3 μ H locs ls h hR hl
    unfold fX12_nights_33 at h
    refine lv_iload_n hx hb dX12_nights_33 rfl (lv_at hl 3 rfl) ?_
    refine lv_bipush (v := 60) hx hb dX12_nights_34 rfl ?_
    refine lv_icmp_gt (tgt := 60) hx hb dX12_nights_36 (by decide) (fun c36 => ?_) (fun c36 => ?_)
    · have h := av_it c36 h
      refine lv_iconst (v := (-1)) hx hb dX12_nights_60 rfl ?_
      exact av_ri E hR (av_r2 h) dX12_nights_61
    · have h := av_if c36 h
      refine lv_aload_n hx hb dX12_nights_39 rfl (lv_at hl 0 rfl) ?_
      refine lv_iload_n hx hb dX12_nights_40 rfl (lv_at hl 2 rfl) ?_
      obtain ⟨r41, μ41, er41, h⟩ := av_bd2 h
      refine av_goI hR (av_cV (As := [.int x2]) (rest := []) E X hR hl.1 (CX12_goNight l g er41) kk_X12_170 (av_room (by omega) (by decide)) av_t98 (by decide) rfl rfl (Nat.le_of_ble_eq_true rfl) ⟨Nat.zero_le _, Nat.zero_le _⟩ dX12_nights_41) (fun H locs hR => ?_)
      refine lv_iload_n hx hb dX12_nights_44 rfl (lv_at hl 1 rfl) ?_
      refine lv_ishr hx hb dX12_nights_45 ?_
      refine lv_iconst (v := 1) hx hb dX12_nights_46 rfl ?_
      refine lv_iand hx hb dX12_nights_47 ?_
      refine lv_iconst (v := 1) hx hb dX12_nights_48 rfl ?_
      refine lv_icmp_ne (tgt := 54) hx hb dX12_nights_49 (by decide) (fun c49 => ?_) (fun c49 => ?_)
      · have h := av_if c49 h
        obtain ⟨x3_54, ex3_54, h⟩ := av_bd h
        replace ex3_54 := Option.some.inj ex3_54
        refine lv_iinc (v := x3_54) (lv' := [(3, .int x3_54), (0, .ref (g.2.2 98)), (1, .int x1), (2, .int x2)]) hx hb dX12_nights_54 hl (k := 3) rfl ex3_54 (by decide) rfl (fun ls hl => ?_)
        refine lv_goto (tgt := 33) hx hb dX12_nights_57 (by decide) ?_
        exact ih h hR (lv_sub hl [1, 2, 3, 0] rfl)
      · have h := av_it c49 h
        refine lv_iload_n hx hb dX12_nights_52 rfl (lv_at hl 3 rfl) ?_
        exact av_ri E hR (av_r2 h) dX12_nights_53

set_option maxHeartbeats 4000000 in
set_option maxRecDepth 100000 in
theorem tX12_nights_20 {p : Program} {l : Launch} {e : Env} {s : State} {m : MethodId} {args : Array Value} {below : List Frame} {meth : Method} {c : Code} {g : Gl} {zr : Int32} {zm : Mem} (E : av_E p s m args meth c cX12_nights RX12 4 (some .int)) (X : av_X av_wm g s) :
    ∀ {μ : Mem} {H : Heap} {locs : List Loc} {ls : Array Slot}, fX12_nights_20 μ = some (zr, zm) → av_R av_wm g μ s H locs → lv_has ls 4 [(0, .ref (g.2.2 98))] → W p l e (rmN 5) s m args below meth c H locs 0 0 (MQ below (va_Qi (fun r1 u => r1 = zr ∧ u = zm) (av_B av_wm g) (av_A av_wm g)) args s 0 0 (av_A av_wm g)) (F0 m 20 ls []) := by
  obtain ⟨hx, hb, hr, hml, hown, hts, hlocks⟩ := id E
  intro μ H locs ls h hR hl
  unfold fX12_nights_20 at h
  refine lv_aload_n hx hb dX12_nights_20 rfl (lv_at hl 0 rfl) ?_
  refine lv_bipush (v := (-2)) hx hb dX12_nights_21 rfl ?_
  obtain ⟨r23, μ23, er23, h⟩ := av_bd2 h
  refine av_goI hR (av_cV (As := [.int (-2)]) (rest := []) E X hR hl.1 (CX12_bad l g er23) kk_X12_81 (av_room (by omega) (by decide)) av_t98 (by decide) rfl rfl (Nat.le_of_ble_eq_true rfl) ⟨Nat.zero_le _, Nat.zero_le _⟩ dX12_nights_23) (fun H locs hR => ?_)
  exact av_ri E hR (av_r2 h) dX12_nights_26

set_option maxHeartbeats 4000000 in
set_option maxRecDepth 100000 in
theorem CX12_nights (l : Launch) (g : Gl) {a1 : Int32} {a2 : Int32} {μ : Mem} {zr : Int32} {zm : Mem} (h : fX12_nights a1 a2 μ = some (zr, zm)) : av_MI l yX12_nights cX12_nights 4 5 (some .int) av_wm g [.ref (g.2.2 98), .int a1, .int a2] μ zr zm := by
  refine av_ent (own := RX12) (by decide) (Nat.le_of_ble_eq_true rfl) rfl (fun p e s m args below meth c E X hR ls hl => ?_)
  have hl : lv_has ls 4 [(0, .ref (g.2.2 98)), (1, .int a1), (2, .int a2)] := hl
  obtain ⟨hx, hb, hr, hml, hown, hts, hlocks⟩ := id E
  unfold fX12_nights at h
  refine lv_aload_n hx hb dX12_nights_0 rfl (lv_at hl 0 rfl) ?_
  refine lv_iload_n hx hb dX12_nights_1 rfl (lv_at hl 1 rfl) ?_
  obtain ⟨r2, er2, h⟩ := av_bd h
  refine av_goI hR (av_cV (As := [.int a1]) (rest := []) E X hR hl.1 (CX12_isLedge l g er2) kk_X12_94 (av_room (by omega) (by decide)) av_t98 (by decide) rfl rfl (Nat.le_of_ble_eq_true rfl) ⟨Nat.zero_le _, Nat.zero_le _⟩ dX12_nights_2) (fun H locs hR => ?_)
  refine lv_if_eq (tgt := 20) hx hb dX12_nights_5 (by decide) (fun c5 => ?_) (fun c5 => ?_)
  · have h := av_it c5 h
    exact tX12_nights_20 E X h hR (lv_sub hl [0] rfl)
  · have h := av_if c5 h
    refine lv_iload_n hx hb dX12_nights_8 rfl (lv_at hl 2 rfl) ?_
    refine lv_i2l hx hb dX12_nights_9 rfl ?_
    refine lv_lconst (v := 1) hx hb dX12_nights_10 rfl ?_
    refine lv_ldc2 (v := 9) hx hb hown (hts _ kL_X12_98) dX12_nights_11 ?_
    obtain ⟨r14, er14, h⟩ := av_bd h
    refine av_goI hR (av_cS (As := [.long (Int32.toInt64 a2), .long 1, .long 9]) (rest := []) E X hR hl.1 (CX12_in l g er14) kk_X12_68 (av_room (by omega) (by decide)) rfl (Nat.le_of_ble_eq_true rfl) ⟨Nat.zero_le _, Nat.zero_le _⟩ dX12_nights_14) (fun H locs hR => ?_)
    refine lv_if_ne (tgt := 27) hx hb dX12_nights_17 (by decide) (fun c17 => ?_) (fun c17 => ?_)
    · have h := av_if c17 h
      refine lv_aload_n hx hb dX12_nights_27 rfl (lv_at hl 0 rfl) ?_
      obtain ⟨μ28, eμ28, h⟩ := av_bd h
      refine av_goV hR (av_cV (As := []) (rest := []) E X hR hl.1 (CX12_layHand l g eμ28) kk_X12_161 (av_room (by omega) (by decide)) av_t98 (by decide) rfl rfl (Nat.le_of_ble_eq_true rfl) ⟨Nat.zero_le _, Nat.zero_le _⟩ dX12_nights_28) (fun H locs hR => ?_)
      refine lv_iconst (v := 1) hx hb dX12_nights_31 rfl ?_
      refine lv_istore_n (lv' := [(3, .int 1), (0, .ref (g.2.2 98)), (1, .int a1), (2, .int a2)]) hx hb dX12_nights_32 rfl hl (by decide) rfl (fun ls hl => ?_)
      exact tX12_nights_33 E X _ h hR (lv_sub hl [1, 2, 3, 0] rfl)
    · have h := av_it c17 h
      exact tX12_nights_20 E X h hR (lv_sub hl [0] rfl)

set_option maxHeartbeats 4000000 in
set_option maxRecDepth 100000 in
theorem tX12_layTurn_16 {p : Program} {l : Launch} {e : Env} {s : State} {m : MethodId} {args : Array Value} {below : List Frame} {meth : Method} {c : Code} {g : Gl} {zm : Mem} (E : av_E p s m args meth c cX12_layTurn RX12 3 none) (X : av_X av_wm g s) :
    ∀ (n : Nat) {x1 : Int32} {x2 : Int32} {μ : Mem} {H : Heap} {locs : List Loc} {ls : Array Slot}, fX12_layTurn_16 n x1 x2 μ = some zm → av_R av_wm g μ s H locs → lv_has ls 3 [(0, .ref (g.2.2 98)), (1, .int x1), (2, .int x2)] → W p l e (rmN 1) s m args below meth c H locs 0 0 (MQ below (va_Qv (fun u => u = zm) (av_B av_wm g) (av_A av_wm g)) args s 0 0 (av_A av_wm g)) (F0 m 16 ls []) := by
  obtain ⟨hx, hb, hr, hml, hown, hts, hlocks⟩ := id E
  intro n
  induction n with
  | zero =>
    intro x1 x2 μ H locs ls h hR hl
    cases h
  | succ n ih =>
    intro x1 x2 μ H locs ls h hR hl
    unfold fX12_layTurn_16 at h
    refine lv_iload_n hx hb dX12_layTurn_16 rfl (lv_at hl 2 rfl) ?_
    refine lv_bipush (v := 8) hx hb dX12_layTurn_17 rfl ?_
    refine lv_icmp_ge (tgt := 62) hx hb dX12_layTurn_19 (by decide) (fun c19 => ?_) (fun c19 => ?_)
    · have h := av_it c19 h
      exact av_rv E hR (Option.some.inj h) dX12_layTurn_62
    · have h := av_if c19 h
      refine lv_aload_n hx hb dX12_layTurn_22 rfl (lv_at hl 0 rfl) ?_
      refine gf_X12_45 E X hR av_t98 dX12_layTurn_23 av_r98_17 ?_
      refine lv_bipush (v := 8) hx hb dX12_layTurn_26 rfl ?_
      refine lv_iload_n hx hb dX12_layTurn_28 rfl (lv_at hl 1 rfl) ?_
      refine lv_imul hx hb dX12_layTurn_29 ?_
      refine lv_iload_n hx hb dX12_layTurn_30 rfl (lv_at hl 2 rfl) ?_
      refine lv_iadd hx hb dX12_layTurn_31 ?_
      refine lv_aload_n hx hb dX12_layTurn_32 rfl (lv_at hl 0 rfl) ?_
      refine gf_X12_27 E X hR av_t98 dX12_layTurn_33 av_r98_6 ?_
      refine lv_iload_n hx hb dX12_layTurn_36 rfl (lv_at hl 2 rfl) ?_
      obtain ⟨r37, er37, h⟩ := av_bd h
      refine av_il E X hR av_t103 er37 dX12_layTurn_37 ?_
      obtain ⟨μ38, eμ38, h⟩ := av_bd h
      refine av_is E X hR av_t109 eμ38 dX12_layTurn_38 (fun H locs hR => ?_)
      refine lv_aload_n hx hb dX12_layTurn_39 rfl (lv_at hl 0 rfl) ?_
      refine gf_X12_48 E X hR av_t98 dX12_layTurn_40 av_r98_18 ?_
      refine lv_bipush (v := 8) hx hb dX12_layTurn_43 rfl ?_
      refine lv_iload_n hx hb dX12_layTurn_45 rfl (lv_at hl 1 rfl) ?_
      refine lv_imul hx hb dX12_layTurn_46 ?_
      refine lv_iload_n hx hb dX12_layTurn_47 rfl (lv_at hl 2 rfl) ?_
      refine lv_iadd hx hb dX12_layTurn_48 ?_
      refine lv_aload_n hx hb dX12_layTurn_49 rfl (lv_at hl 0 rfl) ?_
      refine gf_X12_30 E X hR av_t98 dX12_layTurn_50 av_r98_7 ?_
      refine lv_iload_n hx hb dX12_layTurn_53 rfl (lv_at hl 2 rfl) ?_
      obtain ⟨r54, er54, h⟩ := av_bd h
      refine av_il E X hR av_t104 er54 dX12_layTurn_54 ?_
      obtain ⟨μ55, eμ55, h⟩ := av_bd h
      refine av_is E X hR av_t110 eμ55 dX12_layTurn_55 (fun H locs hR => ?_)
      obtain ⟨x2_56, ex2_56, h⟩ := av_bd h
      replace ex2_56 := Option.some.inj ex2_56
      refine lv_iinc (v := x2_56) (lv' := [(2, .int x2_56), (0, .ref (g.2.2 98)), (1, .int x1)]) hx hb dX12_layTurn_56 hl (k := 2) rfl ex2_56 (by decide) rfl (fun ls hl => ?_)
      refine lv_goto (tgt := 16) hx hb dX12_layTurn_59 (by decide) ?_
      exact ih h hR (lv_sub hl [1, 2, 0] rfl)

set_option maxHeartbeats 4000000 in
set_option maxRecDepth 100000 in
theorem CX12_layTurn (l : Launch) (g : Gl) {a1 : Int32} {μ : Mem} {zm : Mem} (h : fX12_layTurn a1 μ = some zm) : av_MV l yX12_layTurn cX12_layTurn 3 1 none av_wm g [.ref (g.2.2 98), .int a1] μ zm := by
  refine av_ent (own := RX12) (by decide) (Nat.le_of_ble_eq_true rfl) rfl (fun p e s m args below meth c E X hR ls hl => ?_)
  have hl : lv_has ls 3 [(0, .ref (g.2.2 98)), (1, .int a1)] := hl
  obtain ⟨hx, hb, hr, hml, hown, hts, hlocks⟩ := id E
  unfold fX12_layTurn at h
  refine lv_aload_n hx hb dX12_layTurn_0 rfl (lv_at hl 0 rfl) ?_
  refine gf_X12_39 E X hR av_t98 dX12_layTurn_1 av_r98_15 ?_
  refine lv_iload_n hx hb dX12_layTurn_4 rfl (lv_at hl 1 rfl) ?_
  refine lv_iconst (v := 0) hx hb dX12_layTurn_5 rfl ?_
  obtain ⟨μ6, eμ6, h⟩ := av_bd h
  refine av_is E X hR av_t107 eμ6 dX12_layTurn_6 (fun H locs hR => ?_)
  refine lv_aload_n hx hb dX12_layTurn_7 rfl (lv_at hl 0 rfl) ?_
  refine gf_X12_42 E X hR av_t98 dX12_layTurn_8 av_r98_16 ?_
  refine lv_iload_n hx hb dX12_layTurn_11 rfl (lv_at hl 1 rfl) ?_
  refine lv_iconst (v := (-1)) hx hb dX12_layTurn_12 rfl ?_
  obtain ⟨μ13, eμ13, h⟩ := av_bd h
  refine av_is E X hR av_t108 eμ13 dX12_layTurn_13 (fun H locs hR => ?_)
  refine lv_iconst (v := 0) hx hb dX12_layTurn_14 rfl ?_
  refine lv_istore_n (lv' := [(2, .int 0), (0, .ref (g.2.2 98)), (1, .int a1)]) hx hb dX12_layTurn_15 rfl hl (by decide) rfl (fun ls hl => ?_)
  exact tX12_layTurn_16 E X _ h hR (lv_sub hl [1, 2, 0] rfl)

set_option maxHeartbeats 4000000 in
set_option maxRecDepth 100000 in
theorem tX12_backTo_2 {p : Program} {l : Launch} {e : Env} {s : State} {m : MethodId} {args : Array Value} {below : List Frame} {meth : Method} {c : Code} {g : Gl} {zm : Mem} (E : av_E p s m args meth c cX12_backTo RX12 3 none) (X : av_X av_wm g s) :
    ∀ (n : Nat) {x1 : Int32} {x2 : Int32} {μ : Mem} {H : Heap} {locs : List Loc} {ls : Array Slot}, fX12_backTo_2 n x1 x2 μ = some zm → av_R av_wm g μ s H locs → lv_has ls 3 [(0, .ref (g.2.2 98)), (1, .int x1), (2, .int x2)] → W p l e (rmN 1) s m args below meth c H locs 0 0 (MQ below (va_Qv (fun u => u = zm) (av_B av_wm g) (av_A av_wm g)) args s 0 0 (av_A av_wm g)) (F0 m 2 ls []) := by
  obtain ⟨hx, hb, hr, hml, hown, hts, hlocks⟩ := id E
  intro n
  induction n with
  | zero =>
    intro x1 x2 μ H locs ls h hR hl
    cases h
  | succ n ih =>
    intro x1 x2 μ H locs ls h hR hl
    unfold fX12_backTo_2 at h
    refine lv_iload_n hx hb dX12_backTo_2 rfl (lv_at hl 2 rfl) ?_
    refine lv_bipush (v := 8) hx hb dX12_backTo_3 rfl ?_
    refine lv_icmp_ge (tgt := 48) hx hb dX12_backTo_5 (by decide) (fun c5 => ?_) (fun c5 => ?_)
    · have h := av_it c5 h
      exact av_rv E hR (Option.some.inj h) dX12_backTo_48
    · have h := av_if c5 h
      refine lv_aload_n hx hb dX12_backTo_8 rfl (lv_at hl 0 rfl) ?_
      refine gf_X12_27 E X hR av_t98 dX12_backTo_9 av_r98_6 ?_
      refine lv_iload_n hx hb dX12_backTo_12 rfl (lv_at hl 2 rfl) ?_
      refine lv_aload_n hx hb dX12_backTo_13 rfl (lv_at hl 0 rfl) ?_
      refine gf_X12_45 E X hR av_t98 dX12_backTo_14 av_r98_17 ?_
      refine lv_bipush (v := 8) hx hb dX12_backTo_17 rfl ?_
      refine lv_iload_n hx hb dX12_backTo_19 rfl (lv_at hl 1 rfl) ?_
      refine lv_imul hx hb dX12_backTo_20 ?_
      refine lv_iload_n hx hb dX12_backTo_21 rfl (lv_at hl 2 rfl) ?_
      refine lv_iadd hx hb dX12_backTo_22 ?_
      obtain ⟨r23, er23, h⟩ := av_bd h
      refine av_il E X hR av_t109 er23 dX12_backTo_23 ?_
      obtain ⟨μ24, eμ24, h⟩ := av_bd h
      refine av_is E X hR av_t103 eμ24 dX12_backTo_24 (fun H locs hR => ?_)
      refine lv_aload_n hx hb dX12_backTo_25 rfl (lv_at hl 0 rfl) ?_
      refine gf_X12_30 E X hR av_t98 dX12_backTo_26 av_r98_7 ?_
      refine lv_iload_n hx hb dX12_backTo_29 rfl (lv_at hl 2 rfl) ?_
      refine lv_aload_n hx hb dX12_backTo_30 rfl (lv_at hl 0 rfl) ?_
      refine gf_X12_48 E X hR av_t98 dX12_backTo_31 av_r98_18 ?_
      refine lv_bipush (v := 8) hx hb dX12_backTo_34 rfl ?_
      refine lv_iload_n hx hb dX12_backTo_36 rfl (lv_at hl 1 rfl) ?_
      refine lv_imul hx hb dX12_backTo_37 ?_
      refine lv_iload_n hx hb dX12_backTo_38 rfl (lv_at hl 2 rfl) ?_
      refine lv_iadd hx hb dX12_backTo_39 ?_
      obtain ⟨r40, er40, h⟩ := av_bd h
      refine av_il E X hR av_t110 er40 dX12_backTo_40 ?_
      obtain ⟨μ41, eμ41, h⟩ := av_bd h
      refine av_is E X hR av_t104 eμ41 dX12_backTo_41 (fun H locs hR => ?_)
      obtain ⟨x2_42, ex2_42, h⟩ := av_bd h
      replace ex2_42 := Option.some.inj ex2_42
      refine lv_iinc (v := x2_42) (lv' := [(2, .int x2_42), (0, .ref (g.2.2 98)), (1, .int x1)]) hx hb dX12_backTo_42 hl (k := 2) rfl ex2_42 (by decide) rfl (fun ls hl => ?_)
      refine lv_goto (tgt := 2) hx hb dX12_backTo_45 (by decide) ?_
      exact ih h hR (lv_sub hl [1, 2, 0] rfl)

set_option maxHeartbeats 4000000 in
set_option maxRecDepth 100000 in
theorem CX12_backTo (l : Launch) (g : Gl) {a1 : Int32} {μ : Mem} {zm : Mem} (h : fX12_backTo a1 μ = some zm) : av_MV l yX12_backTo cX12_backTo 3 1 none av_wm g [.ref (g.2.2 98), .int a1] μ zm := by
  refine av_ent (own := RX12) (by decide) (Nat.le_of_ble_eq_true rfl) rfl (fun p e s m args below meth c E X hR ls hl => ?_)
  have hl : lv_has ls 3 [(0, .ref (g.2.2 98)), (1, .int a1)] := hl
  obtain ⟨hx, hb, hr, hml, hown, hts, hlocks⟩ := id E
  unfold fX12_backTo at h
  refine lv_iconst (v := 0) hx hb dX12_backTo_0 rfl ?_
  refine lv_istore_n (lv' := [(2, .int 0), (0, .ref (g.2.2 98)), (1, .int a1)]) hx hb dX12_backTo_1 rfl hl (by decide) rfl (fun ls hl => ?_)
  exact tX12_backTo_2 E X _ h hR (lv_sub hl [1, 2, 0] rfl)

set_option maxHeartbeats 4000000 in
set_option maxRecDepth 100000 in
theorem tX12_judge_87 {p : Program} {l : Launch} {e : Env} {s : State} {m : MethodId} {args : Array Value} {below : List Frame} {meth : Method} {c : Code} {g : Gl} {zm : Mem} (E : av_E p s m args meth c cX12_judge RX12 4 none) (X : av_X av_wm g s) :
    ∀ {x1 : Int32} {y1 : Int32} {μ : Mem} {H : Heap} {locs : List Loc} {ls : Array Slot}, fX12_judge_87 x1 y1 μ = some zm → av_R av_wm g μ s H locs → lv_has ls 4 [(0, .ref (g.2.2 98)), (1, .int x1)] → W p l e (rmN 1) s m args below meth c H locs 0 0 (MQ below (va_Qv (fun u => u = zm) (av_B av_wm g) (av_A av_wm g)) args s 0 0 (av_A av_wm g)) (F0 m 87 ls [.int y1, .ref (g.2.2 98)]) := by
  obtain ⟨hx, hb, hr, hml, hown, hts, hlocks⟩ := id E
  intro x1 y1 μ H locs ls h hR hl
  unfold fX12_judge_87 at h
  obtain ⟨μ87, eμ87, h⟩ := av_bd h
  replace eμ87 := Option.some.inj eμ87
  refine pf_X12_193 E X hR av_t98 dX12_judge_87 eμ87 (fun H locs hR => ?_)
  refine lv_aload_n hx hb dX12_judge_90 rfl (lv_at hl 0 rfl) ?_
  refine gf_X12_39 E X hR av_t98 dX12_judge_91 av_r98_15 ?_
  refine lv_iload_n hx hb dX12_judge_94 rfl (lv_at hl 1 rfl) ?_
  refine lv_dup2_11 hx hb dX12_judge_95 rfl rfl ?_
  obtain ⟨r96, er96, h⟩ := av_bd h
  refine av_il E X hR av_t107 er96 dX12_judge_96 ?_
  refine lv_iconst (v := 1) hx hb dX12_judge_97 rfl ?_
  refine lv_iadd hx hb dX12_judge_98 ?_
  obtain ⟨μ99, eμ99, h⟩ := av_bd h
  refine av_is E X hR av_t107 eμ99 dX12_judge_99 (fun H locs hR => ?_)
  exact av_rv E hR (Option.some.inj h) dX12_judge_100

set_option maxHeartbeats 4000000 in
set_option maxRecDepth 100000 in
theorem tX12_judge_83 {p : Program} {l : Launch} {e : Env} {s : State} {m : MethodId} {args : Array Value} {below : List Frame} {meth : Method} {c : Code} {g : Gl} {zm : Mem} (E : av_E p s m args meth c cX12_judge RX12 4 none) (X : av_X av_wm g s) :
    ∀ {x1 : Int32} {μ : Mem} {H : Heap} {locs : List Loc} {ls : Array Slot}, fX12_judge_83 x1 μ = some zm → av_R av_wm g μ s H locs → lv_has ls 4 [(0, .ref (g.2.2 98)), (1, .int x1)] → W p l e (rmN 1) s m args below meth c H locs 0 0 (MQ below (va_Qv (fun u => u = zm) (av_B av_wm g) (av_A av_wm g)) args s 0 0 (av_A av_wm g)) (F0 m 83 ls [.ref (g.2.2 98)]) := by
  obtain ⟨hx, hb, hr, hml, hown, hts, hlocks⟩ := id E
  intro x1 μ H locs ls h hR hl
  unfold fX12_judge_83 at h
  refine lv_aload_n hx hb dX12_judge_83 rfl (lv_at hl 0 rfl) ?_
  refine gf_X12_193 E X hR av_t98 dX12_judge_84 ?_
  exact tX12_judge_87 E X h hR (lv_sub hl [0, 1] rfl)

set_option maxHeartbeats 4000000 in
set_option maxRecDepth 100000 in
theorem tX12_judge_64 {p : Program} {l : Launch} {e : Env} {s : State} {m : MethodId} {args : Array Value} {below : List Frame} {meth : Method} {c : Code} {g : Gl} {zm : Mem} (E : av_E p s m args meth c cX12_judge RX12 4 none) (X : av_X av_wm g s) :
    ∀ {x1 : Int32} {x3 : Int32} {y0 : Nat} {y1 : Int32} {y2 : Int32} (hy0 : av_t av_wm y0 13) {μ : Mem} {H : Heap} {locs : List Loc} {ls : Array Slot}, fX12_judge_64 x1 x3 y0 y1 y2 μ = some zm → av_R av_wm g μ s H locs → lv_has ls 4 [(0, .ref (g.2.2 98)), (1, .int x1), (3, .int x3)] → W p l e (rmN 1) s m args below meth c H locs 0 0 (MQ below (va_Qv (fun u => u = zm) (av_B av_wm g) (av_A av_wm g)) args s 0 0 (av_A av_wm g)) (F0 m 64 ls [.int y2, .int y1, .ref (g.2.2 y0)]) := by
  obtain ⟨hx, hb, hr, hml, hown, hts, hlocks⟩ := id E
  intro x1 x3 y0 y1 y2 hy0 μ H locs ls h hR hl
  unfold fX12_judge_64 at h
  obtain ⟨μ64, eμ64, h⟩ := av_bd h
  refine av_is E X hR hy0 eμ64 dX12_judge_64 (fun H locs hR => ?_)
  refine lv_aload_n hx hb dX12_judge_65 rfl (lv_at hl 0 rfl) ?_
  refine lv_iload_n hx hb dX12_judge_66 rfl (lv_at hl 2 rfl) ?_
  refine lv_if_eq (tgt := 83) hx hb dX12_judge_67 (by decide) (fun c67 => ?_) (fun c67 => ?_)
  · have h := av_it c67 h
    exact tX12_judge_83 E X h hR (lv_sub hl [0, 1] rfl)
  · have h := av_if c67 h
    refine lv_iload_n hx hb dX12_judge_70 rfl (lv_at hl 1 rfl) ?_
    refine lv_if_ne (tgt := 83) hx hb dX12_judge_71 (by decide) (fun c71 => ?_) (fun c71 => ?_)
    · have h := av_if c71 h
      exact tX12_judge_83 E X h hR (lv_sub hl [0, 1] rfl)
    · have h := av_it c71 h
      refine lv_aload_n hx hb dX12_judge_74 rfl (lv_at hl 0 rfl) ?_
      refine gf_X12_39 E X hR av_t98 dX12_judge_75 av_r98_15 ?_
      refine lv_iconst (v := 0) hx hb dX12_judge_78 rfl ?_
      obtain ⟨r79, er79, h⟩ := av_bd h
      refine av_il E X hR av_t107 er79 dX12_judge_79 ?_
      refine lv_goto (tgt := 87) hx hb dX12_judge_80 (by decide) ?_
      exact tX12_judge_87 E X h hR (lv_sub hl [0, 1] rfl)

set_option maxHeartbeats 4000000 in
set_option maxRecDepth 100000 in
theorem tX12_judge_44 {p : Program} {l : Launch} {e : Env} {s : State} {m : MethodId} {args : Array Value} {below : List Frame} {meth : Method} {c : Code} {g : Gl} {zm : Mem} (E : av_E p s m args meth c cX12_judge RX12 4 none) (X : av_X av_wm g s) :
    ∀ {x1 : Int32} {x2 : Int32} {y0 : Int32} {μ : Mem} {H : Heap} {locs : List Loc} {ls : Array Slot}, fX12_judge_44 x1 x2 y0 μ = some zm → av_R av_wm g μ s H locs → lv_has ls 4 [(0, .ref (g.2.2 98)), (1, .int x1), (2, .int x2)] → W p l e (rmN 1) s m args below meth c H locs 0 0 (MQ below (va_Qv (fun u => u = zm) (av_B av_wm g) (av_A av_wm g)) args s 0 0 (av_A av_wm g)) (F0 m 44 ls [.int y0]) := by
  obtain ⟨hx, hb, hr, hml, hown, hts, hlocks⟩ := id E
  intro x1 x2 y0 μ H locs ls h hR hl
  unfold fX12_judge_44 at h
  refine lv_istore_n (lv' := [(3, .int y0), (0, .ref (g.2.2 98)), (1, .int x1), (2, .int x2)]) hx hb dX12_judge_44 rfl hl (by decide) rfl (fun ls hl => ?_)
  refine lv_aload_n hx hb dX12_judge_45 rfl (lv_at hl 1 rfl) ?_
  refine gf_X12_42 E X hR av_t98 dX12_judge_46 av_r98_16 ?_
  refine lv_iload_n hx hb dX12_judge_49 rfl (lv_at hl 2 rfl) ?_
  refine lv_iload_n hx hb dX12_judge_50 rfl (lv_at hl 0 rfl) ?_
  refine lv_if_eq (tgt := 58) hx hb dX12_judge_51 (by decide) (fun c51 => ?_) (fun c51 => ?_)
  · have h := av_it c51 h
    refine lv_aload_n hx hb dX12_judge_58 rfl (lv_at hl 1 rfl) ?_
    refine gf_X12_42 E X hR av_t98 dX12_judge_59 av_r98_16 ?_
    refine lv_iload_n hx hb dX12_judge_62 rfl (lv_at hl 2 rfl) ?_
    obtain ⟨r63, er63, h⟩ := av_bd h
    refine av_il E X hR av_t108 er63 dX12_judge_63 ?_
    exact tX12_judge_64 E X av_t108 h hR (lv_sub hl [1, 2, 0] rfl)
  · have h := av_if c51 h
    refine lv_iload_n hx hb dX12_judge_54 rfl (lv_at hl 3 rfl) ?_
    refine lv_goto (tgt := 64) hx hb dX12_judge_55 (by decide) ?_
    exact tX12_judge_64 E X av_t108 h hR (lv_sub hl [1, 2, 0] rfl)

set_option maxHeartbeats 4000000 in
set_option maxRecDepth 100000 in
theorem tX12_judge_43 {p : Program} {l : Launch} {e : Env} {s : State} {m : MethodId} {args : Array Value} {below : List Frame} {meth : Method} {c : Code} {g : Gl} {zm : Mem} (E : av_E p s m args meth c cX12_judge RX12 4 none) (X : av_X av_wm g s) :
    ∀ {x1 : Int32} {x2 : Int32} {μ : Mem} {H : Heap} {locs : List Loc} {ls : Array Slot}, fX12_judge_43 x1 x2 μ = some zm → av_R av_wm g μ s H locs → lv_has ls 4 [(0, .ref (g.2.2 98)), (1, .int x1), (2, .int x2)] → W p l e (rmN 1) s m args below meth c H locs 0 0 (MQ below (va_Qv (fun u => u = zm) (av_B av_wm g) (av_A av_wm g)) args s 0 0 (av_A av_wm g)) (F0 m 43 ls []) := by
  obtain ⟨hx, hb, hr, hml, hown, hts, hlocks⟩ := id E
  intro x1 x2 μ H locs ls h hR hl
  unfold fX12_judge_43 at h
  refine lv_iconst (v := 0) hx hb dX12_judge_43 rfl ?_
  exact tX12_judge_44 E X h hR (lv_sub hl [0, 1, 2] rfl)

set_option maxHeartbeats 4000000 in
set_option maxRecDepth 100000 in
theorem tX12_judge_39 {p : Program} {l : Launch} {e : Env} {s : State} {m : MethodId} {args : Array Value} {below : List Frame} {meth : Method} {c : Code} {g : Gl} {zm : Mem} (E : av_E p s m args meth c cX12_judge RX12 4 none) (X : av_X av_wm g s) :
    ∀ {x1 : Int32} {x2 : Int32} {μ : Mem} {H : Heap} {locs : List Loc} {ls : Array Slot}, fX12_judge_39 x1 x2 μ = some zm → av_R av_wm g μ s H locs → lv_has ls 4 [(0, .ref (g.2.2 98)), (1, .int x1), (2, .int x2)] → W p l e (rmN 1) s m args below meth c H locs 0 0 (MQ below (va_Qv (fun u => u = zm) (av_B av_wm g) (av_A av_wm g)) args s 0 0 (av_A av_wm g)) (F0 m 39 ls []) := by
  obtain ⟨hx, hb, hr, hml, hown, hts, hlocks⟩ := id E
  intro x1 x2 μ H locs ls h hR hl
  unfold fX12_judge_39 at h
  refine lv_iconst (v := 1) hx hb dX12_judge_39 rfl ?_
  refine lv_goto (tgt := 44) hx hb dX12_judge_40 (by decide) ?_
  exact tX12_judge_44 E X h hR (lv_sub hl [0, 1, 2] rfl)

set_option maxHeartbeats 4000000 in
set_option maxRecDepth 100000 in
theorem CX12_judge (l : Launch) (g : Gl) {a1 : Int32} {a2 : Int32} {μ : Mem} {zm : Mem} (h : fX12_judge a1 a2 μ = some zm) : av_MV l yX12_judge cX12_judge 4 1 none av_wm g [.ref (g.2.2 98), .int a1, .int a2] μ zm := by
  refine av_ent (own := RX12) (by decide) (Nat.le_of_ble_eq_true rfl) rfl (fun p e s m args below meth c E X hR ls hl => ?_)
  have hl : lv_has ls 4 [(0, .ref (g.2.2 98)), (1, .int a1), (2, .int a2)] := hl
  obtain ⟨hx, hb, hr, hml, hown, hts, hlocks⟩ := id E
  unfold fX12_judge at h
  refine lv_aload_n hx hb dX12_judge_0 rfl (lv_at hl 0 rfl) ?_
  refine gf_X12_42 E X hR av_t98 dX12_judge_1 av_r98_16 ?_
  refine lv_iload_n hx hb dX12_judge_4 rfl (lv_at hl 1 rfl) ?_
  obtain ⟨r5, er5, h⟩ := av_bd h
  refine av_il E X hR av_t108 er5 dX12_judge_5 ?_
  refine lv_iconst (v := (-1)) hx hb dX12_judge_6 rfl ?_
  refine lv_icmp_eq (tgt := 39) hx hb dX12_judge_7 (by decide) (fun c7 => ?_) (fun c7 => ?_)
  · have h := av_it c7 h
    exact tX12_judge_39 E X h hR (lv_sub hl [0, 1, 2] rfl)
  · have h := av_if c7 h
    refine lv_iload_n hx hb dX12_judge_10 rfl (lv_at hl 1 rfl) ?_
    refine lv_iconst (v := 2) hx hb dX12_judge_11 rfl ?_
    refine lv_irem hx hb dX12_judge_12 (by decide) ?_
    refine lv_if_ne (tgt := 29) hx hb dX12_judge_13 (by decide) (fun c13 => ?_) (fun c13 => ?_)
    · have h := av_if c13 h
      refine lv_iload_n hx hb dX12_judge_29 rfl (lv_at hl 2 rfl) ?_
      refine lv_aload_n hx hb dX12_judge_30 rfl (lv_at hl 0 rfl) ?_
      refine gf_X12_42 E X hR av_t98 dX12_judge_31 av_r98_16 ?_
      refine lv_iload_n hx hb dX12_judge_34 rfl (lv_at hl 1 rfl) ?_
      obtain ⟨r35, er35, h⟩ := av_bd h
      refine av_il E X hR av_t108 er35 dX12_judge_35 ?_
      refine lv_icmp_ge (tgt := 43) hx hb dX12_judge_36 (by decide) (fun c36 => ?_) (fun c36 => ?_)
      · have h := av_it c36 h
        exact tX12_judge_43 E X h hR (lv_sub hl [0, 1, 2] rfl)
      · have h := av_if c36 h
        exact tX12_judge_39 E X h hR (lv_sub hl [0, 1, 2] rfl)
    · have h := av_it c13 h
      refine lv_iload_n hx hb dX12_judge_16 rfl (lv_at hl 2 rfl) ?_
      refine lv_aload_n hx hb dX12_judge_17 rfl (lv_at hl 0 rfl) ?_
      refine gf_X12_42 E X hR av_t98 dX12_judge_18 av_r98_16 ?_
      refine lv_iload_n hx hb dX12_judge_21 rfl (lv_at hl 1 rfl) ?_
      obtain ⟨r22, er22, h⟩ := av_bd h
      refine av_il E X hR av_t108 er22 dX12_judge_22 ?_
      refine lv_icmp_le (tgt := 43) hx hb dX12_judge_23 (by decide) (fun c23 => ?_) (fun c23 => ?_)
      · have h := av_it c23 h
        exact tX12_judge_43 E X h hR (lv_sub hl [0, 1, 2] rfl)
      · have h := av_if c23 h
        refine lv_goto (tgt := 39) hx hb dX12_judge_26 (by decide) ?_
        exact tX12_judge_39 E X h hR (lv_sub hl [0, 1, 2] rfl)

set_option maxHeartbeats 4000000 in
set_option maxRecDepth 100000 in
theorem CX12_has (l : Launch) (g : Gl) {a0 : Int32} {a1 : Int32} {μ : Mem} {zr : Int32} (h : fX12_has a0 a1 μ = some zr) : av_MI l yX12_has cX12_has 2 1 (some .boolean) av_wm g [.int a0, .int a1] μ zr μ := by
  refine av_ent (own := RX12) (by decide) (Nat.le_of_ble_eq_true rfl) rfl (fun p e s m args below meth c E X hR ls hl => ?_)
  have hl : lv_has ls 2 [(0, .int a0), (1, .int a1)] := hl
  obtain ⟨hx, hb, hr, hml, hown, hts, hlocks⟩ := id E
  have hμ : μ = μ := rfl
  unfold fX12_has at h
  refine lv_iload_n hx hb dX12_has_0 rfl (lv_at hl 0 rfl) ?_
  refine lv_iload_n hx hb dX12_has_1 rfl (lv_at hl 1 rfl) ?_
  refine lv_ishr hx hb dX12_has_2 ?_
  refine lv_iconst (v := 1) hx hb dX12_has_3 rfl ?_
  refine lv_iand hx hb dX12_has_4 ?_
  refine lv_iconst (v := 1) hx hb dX12_has_5 rfl ?_
  refine lv_icmp_ne (tgt := 13) hx hb dX12_has_6 (by decide) (fun c6 => ?_) (fun c6 => ?_)
  · have h := av_if c6 h
    refine lv_iconst (v := 0) hx hb dX12_has_13 rfl ?_
    exact av_rz E hR rfl ⟨Option.some.inj h, hμ.symm⟩ dX12_has_14
  · have h := av_it c6 h
    refine lv_iconst (v := 1) hx hb dX12_has_9 rfl ?_
    refine lv_goto (tgt := 14) hx hb dX12_has_10 (by decide) ?_
    exact av_rz E hR rfl ⟨Option.some.inj h, hμ.symm⟩ dX12_has_14

set_option maxHeartbeats 4000000 in
set_option maxRecDepth 100000 in
theorem tX12_goParty_101 {p : Program} {l : Launch} {e : Env} {s : State} {m : MethodId} {args : Array Value} {below : List Frame} {meth : Method} {c : Code} {g : Gl} {zm : Mem} (E : av_E p s m args meth c cX12_goParty RX12 6 none) (X : av_X av_wm g s) {k21 : Int32 → Int32 → Int32 → Mem → Option (Mem)} (hk21 : ∀ {x2 : Int32} {x3 : Int32} {x4 : Int32} {μ : Mem} {H : Heap} {locs : List Loc} {ls : Array Slot}, k21 x2 x3 x4 μ = some zm → av_R av_wm g μ s H locs → lv_has ls 6 [(0, .ref (g.2.2 98)), (2, .int x2), (3, .int x3), (4, .int x4)] → W p l e (rmN 3) s m args below meth c H locs 0 0 (MQ below (va_Qv (fun u => u = zm) (av_B av_wm g) (av_A av_wm g)) args s 0 0 (av_A av_wm g)) (F0 m 21 ls [])) :
    ∀ {x2 : Int32} {x3 : Int32} {y1 : Int32} {μ : Mem} {H : Heap} {locs : List Loc} {ls : Array Slot}, fX12_goParty_101 k21 x2 x3 y1 μ = some zm → av_R av_wm g μ s H locs → lv_has ls 6 [(0, .ref (g.2.2 98)), (2, .int x2), (3, .int x3)] → W p l e (rmN 3) s m args below meth c H locs 0 0 (MQ below (va_Qv (fun u => u = zm) (av_B av_wm g) (av_A av_wm g)) args s 0 0 (av_A av_wm g)) (F0 m 101 ls [.int y1, .ref (g.2.2 98)]) := by
  obtain ⟨hx, hb, hr, hml, hown, hts, hlocks⟩ := id E
  intro x2 x3 y1 μ H locs ls h hR hl
  unfold fX12_goParty_101 at h
  obtain ⟨μ101, eμ101, h⟩ := av_bd h
  replace eμ101 := Option.some.inj eμ101
  refine pf_X12_196 E X hR av_t98 dX12_goParty_101 eμ101 (fun H locs hR => ?_)
  refine lv_aload_n hx hb dX12_goParty_104 rfl (lv_at hl 0 rfl) ?_
  obtain ⟨r105, er105, h⟩ := av_bd h
  refine av_goI hR (av_cV (As := []) (rest := []) E X hR hl.1 (CX12_firstOver l g er105) kk_X12_126 (av_room (by omega) (by decide)) av_t98 (by decide) rfl rfl (Nat.le_of_ble_eq_true rfl) ⟨Nat.zero_le _, Nat.zero_le _⟩ dX12_goParty_105) (fun H locs hR => ?_)
  refine lv_istore (lv' := [(4, .int r105), (0, .ref (g.2.2 98)), (2, .int x2), (3, .int x3)]) hx hb dX12_goParty_108 hl (by decide) rfl (fun ls hl => ?_)
  refine lv_goto (tgt := 21) hx hb dX12_goParty_110 (by decide) ?_
  exact hk21 h hR (lv_sub hl [1, 2, 3, 0] rfl)

set_option maxHeartbeats 4000000 in
set_option maxRecDepth 100000 in
theorem tX12_goParty_95 {p : Program} {l : Launch} {e : Env} {s : State} {m : MethodId} {args : Array Value} {below : List Frame} {meth : Method} {c : Code} {g : Gl} {zm : Mem} (E : av_E p s m args meth c cX12_goParty RX12 6 none) (X : av_X av_wm g s) {k21 : Int32 → Int32 → Int32 → Mem → Option (Mem)} (hk21 : ∀ {x2 : Int32} {x3 : Int32} {x4 : Int32} {μ : Mem} {H : Heap} {locs : List Loc} {ls : Array Slot}, k21 x2 x3 x4 μ = some zm → av_R av_wm g μ s H locs → lv_has ls 6 [(0, .ref (g.2.2 98)), (2, .int x2), (3, .int x3), (4, .int x4)] → W p l e (rmN 3) s m args below meth c H locs 0 0 (MQ below (va_Qv (fun u => u = zm) (av_B av_wm g) (av_A av_wm g)) args s 0 0 (av_A av_wm g)) (F0 m 21 ls [])) :
    ∀ {x2 : Int32} {x3 : Int32} {x4 : Int32} {μ : Mem} {H : Heap} {locs : List Loc} {ls : Array Slot}, fX12_goParty_95 k21 x2 x3 x4 μ = some zm → av_R av_wm g μ s H locs → lv_has ls 6 [(0, .ref (g.2.2 98)), (2, .int x2), (3, .int x3), (4, .int x4)] → W p l e (rmN 3) s m args below meth c H locs 0 0 (MQ below (va_Qv (fun u => u = zm) (av_B av_wm g) (av_A av_wm g)) args s 0 0 (av_A av_wm g)) (F0 m 95 ls [.ref (g.2.2 98)]) := by
  obtain ⟨hx, hb, hr, hml, hown, hts, hlocks⟩ := id E
  intro x2 x3 x4 μ H locs ls h hR hl
  unfold fX12_goParty_95 at h
  refine lv_iload hx hb dX12_goParty_95 (lv_at hl 3 rfl) ?_
  refine lv_goto (tgt := 101) hx hb dX12_goParty_97 (by decide) ?_
  exact tX12_goParty_101 E X hk21 h hR (lv_sub hl [0, 1, 2] rfl)

set_option maxHeartbeats 4000000 in
set_option maxRecDepth 100000 in
theorem tX12_goParty_66 {p : Program} {l : Launch} {e : Env} {s : State} {m : MethodId} {args : Array Value} {below : List Frame} {meth : Method} {c : Code} {g : Gl} {zm : Mem} (E : av_E p s m args meth c cX12_goParty RX12 6 none) (X : av_X av_wm g s) {k21 : Int32 → Int32 → Int32 → Mem → Option (Mem)} (hk21 : ∀ {x2 : Int32} {x3 : Int32} {x4 : Int32} {μ : Mem} {H : Heap} {locs : List Loc} {ls : Array Slot}, k21 x2 x3 x4 μ = some zm → av_R av_wm g μ s H locs → lv_has ls 6 [(0, .ref (g.2.2 98)), (2, .int x2), (3, .int x3), (4, .int x4)] → W p l e (rmN 3) s m args below meth c H locs 0 0 (MQ below (va_Qv (fun u => u = zm) (av_B av_wm g) (av_A av_wm g)) args s 0 0 (av_A av_wm g)) (F0 m 21 ls [])) :
    ∀ {x2 : Int32} {x3 : Int32} {x4 : Int32} {μ : Mem} {H : Heap} {locs : List Loc} {ls : Array Slot}, fX12_goParty_66 k21 x2 x3 x4 μ = some zm → av_R av_wm g μ s H locs → lv_has ls 6 [(0, .ref (g.2.2 98)), (2, .int x2), (3, .int x3), (4, .int x4)] → W p l e (rmN 3) s m args below meth c H locs 0 0 (MQ below (va_Qv (fun u => u = zm) (av_B av_wm g) (av_A av_wm g)) args s 0 0 (av_A av_wm g)) (F0 m 66 ls []) := by
  obtain ⟨hx, hb, hr, hml, hown, hts, hlocks⟩ := id E
  intro x2 x3 x4 μ H locs ls h hR hl
  unfold fX12_goParty_66 at h
  refine lv_aload_n hx hb dX12_goParty_66 rfl (lv_at hl 0 rfl) ?_
  refine gf_X12_27 E X hR av_t98 dX12_goParty_67 av_r98_6 ?_
  refine lv_iload hx hb dX12_goParty_70 (lv_at hl 3 rfl) ?_
  refine lv_iconst (v := 0) hx hb dX12_goParty_72 rfl ?_
  obtain ⟨μ73, eμ73, h⟩ := av_bd h
  refine av_is E X hR av_t103 eμ73 dX12_goParty_73 (fun H locs hR => ?_)
  refine lv_aload_n hx hb dX12_goParty_74 rfl (lv_at hl 0 rfl) ?_
  refine gf_X12_30 E X hR av_t98 dX12_goParty_75 av_r98_7 ?_
  refine lv_iload hx hb dX12_goParty_78 (lv_at hl 3 rfl) ?_
  refine lv_iconst (v := 0) hx hb dX12_goParty_80 rfl ?_
  obtain ⟨μ81, eμ81, h⟩ := av_bd h
  refine av_is E X hR av_t104 eμ81 dX12_goParty_81 (fun H locs hR => ?_)
  refine lv_aload_n hx hb dX12_goParty_82 rfl (lv_at hl 0 rfl) ?_
  refine lv_iload hx hb dX12_goParty_83 (lv_at hl 3 rfl) ?_
  refine lv_iload_n hx hb dX12_goParty_85 rfl (lv_at hl 1 rfl) ?_
  refine lv_icmp_eq (tgt := 95) hx hb dX12_goParty_86 (by decide) (fun c86 => ?_) (fun c86 => ?_)
  · have h := av_it c86 h
    exact tX12_goParty_95 E X hk21 h hR (lv_sub hl [0, 1, 2, 3] rfl)
  · have h := av_if c86 h
    refine lv_iload hx hb dX12_goParty_89 (lv_at hl 3 rfl) ?_
    refine lv_iload_n hx hb dX12_goParty_91 rfl (lv_at hl 2 rfl) ?_
    refine lv_icmp_ne (tgt := 100) hx hb dX12_goParty_92 (by decide) (fun c92 => ?_) (fun c92 => ?_)
    · have h := av_if c92 h
      refine lv_iconst (v := (-1)) hx hb dX12_goParty_100 rfl ?_
      exact tX12_goParty_101 E X hk21 h hR (lv_sub hl [0, 1, 2] rfl)
    · have h := av_it c92 h
      exact tX12_goParty_95 E X hk21 h hR (lv_sub hl [0, 1, 2, 3] rfl)

set_option maxHeartbeats 4000000 in
set_option maxRecDepth 100000 in
theorem tX12_goParty_21 {p : Program} {l : Launch} {e : Env} {s : State} {m : MethodId} {args : Array Value} {below : List Frame} {meth : Method} {c : Code} {g : Gl} {zm : Mem} (E : av_E p s m args meth c cX12_goParty RX12 6 none) (X : av_X av_wm g s) :
    ∀ (n : Nat) {x2 : Int32} {x3 : Int32} {x4 : Int32} {μ : Mem} {H : Heap} {locs : List Loc} {ls : Array Slot}, fX12_goParty_21 n x2 x3 x4 μ = some zm → av_R av_wm g μ s H locs → lv_has ls 6 [(0, .ref (g.2.2 98)), (2, .int x2), (3, .int x3), (4, .int x4)] → W p l e (rmN 3) s m args below meth c H locs 0 0 (MQ below (va_Qv (fun u => u = zm) (av_B av_wm g) (av_A av_wm g)) args s 0 0 (av_A av_wm g)) (F0 m 21 ls []) := by
  obtain ⟨hx, hb, hr, hml, hown, hts, hlocks⟩ := id E
  intro n
  induction n with
  | zero =>
    intro x2 x3 x4 μ H locs ls h hR hl
    cases h
  | succ n ih =>
    intro x2 x3 x4 μ H locs ls h hR hl
    unfold fX12_goParty_21 at h
    refine lv_iload hx hb dX12_goParty_21 (lv_at hl 3 rfl) ?_
    refine lv_iconst (v := (-1)) hx hb dX12_goParty_23 rfl ?_
    refine lv_icmp_eq (tgt := 113) hx hb dX12_goParty_24 (by decide) (fun c24 => ?_) (fun c24 => ?_)
    · have h := av_it c24 h
      exact av_rv E hR (Option.some.inj h) dX12_goParty_113
    · have h := av_if c24 h
      refine lv_aload_n hx hb dX12_goParty_27 rfl (lv_at hl 0 rfl) ?_
      refine gf_X12_196 E X hR av_t98 dX12_goParty_28 ?_
      refine lv_iconst (v := (-1)) hx hb dX12_goParty_31 rfl ?_
      refine lv_icmp_ne (tgt := 113) hx hb dX12_goParty_32 (by decide) (fun c32 => ?_) (fun c32 => ?_)
      · have h := av_if c32 h
        exact av_rv E hR (Option.some.inj h) dX12_goParty_113
      · have h := av_it c32 h
        refine lv_aload_n hx hb dX12_goParty_35 rfl (lv_at hl 0 rfl) ?_
        refine lv_iload hx hb dX12_goParty_36 (lv_at hl 3 rfl) ?_
        refine lv_iconst (v := 3) hx hb dX12_goParty_38 rfl ?_
        obtain ⟨r39, er39, h⟩ := av_bd h
        refine av_goI hR (av_cV (As := [.int x4, .int 3]) (rest := []) E X hR hl.1 (CX12_get l g er39) kk_X12_103 (av_room (by omega) (by decide)) av_t98 (by decide) rfl rfl (Nat.le_of_ble_eq_true rfl) ⟨Nat.zero_le _, Nat.zero_le _⟩ dX12_goParty_39) (fun H locs hR => ?_)
        refine lv_istore (lv' := [(5, .int r39), (0, .ref (g.2.2 98)), (2, .int x2), (3, .int x3), (4, .int x4)]) hx hb dX12_goParty_42 hl (by decide) rfl (fun ls hl => ?_)
        refine lv_iload hx hb dX12_goParty_44 (lv_at hl 0 rfl) ?_
        refine lv_iconst (v := (-1)) hx hb dX12_goParty_46 rfl ?_
        refine lv_icmp_eq (tgt := 66) hx hb dX12_goParty_47 (by decide) (fun c47 => ?_) (fun c47 => ?_)
        · have h := av_it c47 h
          exact tX12_goParty_66 E X ih h hR (lv_sub hl [1, 2, 3, 4] rfl)
        · have h := av_if c47 h
          refine lv_aload_n hx hb dX12_goParty_50 rfl (lv_at hl 1 rfl) ?_
          refine gf_X12_27 E X hR av_t98 dX12_goParty_51 av_r98_6 ?_
          refine lv_iload hx hb dX12_goParty_54 (lv_at hl 0 rfl) ?_
          refine lv_dup2_11 hx hb dX12_goParty_56 rfl rfl ?_
          obtain ⟨r57, er57, h⟩ := av_bd h
          refine av_il E X hR av_t103 er57 dX12_goParty_57 ?_
          refine lv_aload_n hx hb dX12_goParty_58 rfl (lv_at hl 1 rfl) ?_
          refine lv_iload hx hb dX12_goParty_59 (lv_at hl 4 rfl) ?_
          obtain ⟨r61, er61, h⟩ := av_bd h
          refine av_goI hR (av_cV (As := [.int x4]) (rest := [.int r57, .int r39, .ref (g.2.2 103)]) E X hR hl.1 (CX12_load l g er61) kk_X12_117 (av_room (by omega) (by decide)) av_t98 (by decide) rfl rfl (Nat.le_of_ble_eq_true rfl) ⟨Nat.zero_le _, Nat.zero_le _⟩ dX12_goParty_61) (fun H locs hR => ?_)
          refine lv_iadd hx hb dX12_goParty_64 ?_
          obtain ⟨μ65, eμ65, h⟩ := av_bd h
          refine av_is E X hR av_t103 eμ65 dX12_goParty_65 (fun H locs hR => ?_)
          exact tX12_goParty_66 E X ih h hR (lv_sub hl [1, 2, 3, 4] rfl)

set_option maxHeartbeats 4000000 in
set_option maxRecDepth 100000 in
theorem CX12_goParty (l : Launch) (g : Gl) {a1 : Int32} {a2 : Int32} {a3 : Int32} {μ : Mem} {zm : Mem} (h : fX12_goParty a1 a2 a3 μ = some zm) : av_MV l yX12_goParty cX12_goParty 6 3 none av_wm g [.ref (g.2.2 98), .int a1, .int a2, .int a3] μ zm := by
  refine av_ent (own := RX12) (by decide) (Nat.le_of_ble_eq_true rfl) rfl (fun p e s m args below meth c E X hR ls hl => ?_)
  have hl : lv_has ls 6 [(0, .ref (g.2.2 98)), (1, .int a1), (2, .int a2), (3, .int a3)] := hl
  obtain ⟨hx, hb, hr, hml, hown, hts, hlocks⟩ := id E
  unfold fX12_goParty at h
  refine lv_aload_n hx hb dX12_goParty_0 rfl (lv_at hl 0 rfl) ?_
  refine gf_X12_30 E X hR av_t98 dX12_goParty_1 av_r98_7 ?_
  refine lv_iload_n hx hb dX12_goParty_4 rfl (lv_at hl 1 rfl) ?_
  refine lv_dup2_11 hx hb dX12_goParty_5 rfl rfl ?_
  obtain ⟨r6, er6, h⟩ := av_bd h
  refine av_il E X hR av_t104 er6 dX12_goParty_6 ?_
  refine lv_iconst (v := 1) hx hb dX12_goParty_7 rfl ?_
  refine lv_iadd hx hb dX12_goParty_8 ?_
  obtain ⟨μ9, eμ9, h⟩ := av_bd h
  refine av_is E X hR av_t104 eμ9 dX12_goParty_9 (fun H locs hR => ?_)
  refine lv_aload_n hx hb dX12_goParty_10 rfl (lv_at hl 0 rfl) ?_
  refine lv_iconst (v := (-1)) hx hb dX12_goParty_11 rfl ?_
  obtain ⟨μ12, eμ12, h⟩ := av_bd h
  replace eμ12 := Option.some.inj eμ12
  refine pf_X12_196 E X hR av_t98 dX12_goParty_12 eμ12 (fun H locs hR => ?_)
  refine lv_aload_n hx hb dX12_goParty_15 rfl (lv_at hl 0 rfl) ?_
  obtain ⟨r16, er16, h⟩ := av_bd h
  refine av_goI hR (av_cV (As := []) (rest := []) E X hR hl.1 (CX12_firstOver l g er16) kk_X12_126 (av_room (by omega) (by decide)) av_t98 (by decide) rfl rfl (Nat.le_of_ble_eq_true rfl) ⟨Nat.zero_le _, Nat.zero_le _⟩ dX12_goParty_16) (fun H locs hR => ?_)
  refine lv_istore (lv' := [(4, .int r16), (0, .ref (g.2.2 98)), (1, .int a1), (2, .int a2), (3, .int a3)]) hx hb dX12_goParty_19 hl (by decide) rfl (fun ls hl => ?_)
  exact tX12_goParty_21 E X _ h hR (lv_sub hl [1, 3, 4, 0] rfl)

set_option maxHeartbeats 4000000 in
set_option maxRecDepth 100000 in
theorem tX12_layParties_132 {p : Program} {l : Launch} {e : Env} {s : State} {m : MethodId} {args : Array Value} {below : List Frame} {meth : Method} {c : Code} {g : Gl} {zr : Int32} {zm : Mem} (E : av_E p s m args meth c cX12_layParties RX12 6 (some .int)) (X : av_X av_wm g s) {k12 : Int32 → Int32 → Int32 → Int32 → Mem → Option (Int32 × Mem)} (hk12 : ∀ {x1 : Int32} {x2 : Int32} {x3 : Int32} {x4 : Int32} {μ : Mem} {H : Heap} {locs : List Loc} {ls : Array Slot}, k12 x1 x2 x3 x4 μ = some (zr, zm) → av_R av_wm g μ s H locs → lv_has ls 6 [(0, .ref (g.2.2 98)), (1, .int x1), (2, .int x2), (3, .int x3), (4, .int x4)] → W p l e (rmN 4) s m args below meth c H locs 0 0 (MQ below (va_Qi (fun r1 u => r1 = zr ∧ u = zm) (av_B av_wm g) (av_A av_wm g)) args s 0 0 (av_A av_wm g)) (F0 m 12 ls [])) :
    ∀ {x1 : Int32} {x2 : Int32} {x3 : Int32} {x4 : Int32} {y1 : Int32} {y2 : Int32} {μ : Mem} {H : Heap} {locs : List Loc} {ls : Array Slot}, fX12_layParties_132 k12 x1 x2 x3 x4 y1 y2 μ = some (zr, zm) → av_R av_wm g μ s H locs → lv_has ls 6 [(0, .ref (g.2.2 98)), (1, .int x1), (2, .int x2), (3, .int x3), (4, .int x4)] → W p l e (rmN 4) s m args below meth c H locs 0 0 (MQ below (va_Qi (fun r1 u => r1 = zr ∧ u = zm) (av_B av_wm g) (av_A av_wm g)) args s 0 0 (av_A av_wm g)) (F0 m 132 ls [.int y2, .int y1, .ref (g.2.2 98)]) := by
  obtain ⟨hx, hb, hr, hml, hown, hts, hlocks⟩ := id E
  intro x1 x2 x3 x4 y1 y2 μ H locs ls h hR hl
  unfold fX12_layParties_132 at h
  obtain ⟨μ132, eμ132, h⟩ := av_bd h
  refine av_goV hR (av_cV (As := [.int y1, .int y2]) (rest := []) E X hR hl.1 (CX12_judge l g eμ132) kk_X12_206 (av_room (by omega) (by decide)) av_t98 (by decide) rfl rfl (Nat.le_of_ble_eq_true rfl) ⟨Nat.zero_le _, Nat.zero_le _⟩ dX12_layParties_132) (fun H locs hR => ?_)
  refine lv_goto (tgt := 12) hx hb dX12_layParties_135 (by decide) ?_
  exact hk12 h hR (lv_sub hl [0, 1, 2, 3, 4] rfl)

set_option maxHeartbeats 4000000 in
set_option maxRecDepth 100000 in
theorem tX12_layParties_67 {p : Program} {l : Launch} {e : Env} {s : State} {m : MethodId} {args : Array Value} {below : List Frame} {meth : Method} {c : Code} {g : Gl} {zr : Int32} {zm : Mem} (E : av_E p s m args meth c cX12_layParties RX12 6 (some .int)) (X : av_X av_wm g s) {k12 : Int32 → Int32 → Int32 → Int32 → Mem → Option (Int32 × Mem)} (hk12 : ∀ {x1 : Int32} {x2 : Int32} {x3 : Int32} {x4 : Int32} {μ : Mem} {H : Heap} {locs : List Loc} {ls : Array Slot}, k12 x1 x2 x3 x4 μ = some (zr, zm) → av_R av_wm g μ s H locs → lv_has ls 6 [(0, .ref (g.2.2 98)), (1, .int x1), (2, .int x2), (3, .int x3), (4, .int x4)] → W p l e (rmN 4) s m args below meth c H locs 0 0 (MQ below (va_Qi (fun r1 u => r1 = zr ∧ u = zm) (av_B av_wm g) (av_A av_wm g)) args s 0 0 (av_A av_wm g)) (F0 m 12 ls [])) :
    ∀ {x1 : Int32} {x2 : Int32} {x3 : Int32} {x4 : Int32} {y0 : Int32} {μ : Mem} {H : Heap} {locs : List Loc} {ls : Array Slot}, fX12_layParties_67 k12 x1 x2 x3 x4 y0 μ = some (zr, zm) → av_R av_wm g μ s H locs → lv_has ls 6 [(0, .ref (g.2.2 98)), (1, .int x1), (2, .int x2), (3, .int x3), (4, .int x4)] → W p l e (rmN 4) s m args below meth c H locs 0 0 (MQ below (va_Qi (fun r1 u => r1 = zr ∧ u = zm) (av_B av_wm g) (av_A av_wm g)) args s 0 0 (av_A av_wm g)) (F0 m 67 ls [.int y0]) := by
  obtain ⟨hx, hb, hr, hml, hown, hts, hlocks⟩ := id E
  intro x1 x2 x3 x4 y0 μ H locs ls h hR hl
  unfold fX12_layParties_67 at h
  refine lv_istore (lv' := [(5, .int y0), (0, .ref (g.2.2 98)), (1, .int x1), (2, .int x2), (3, .int x3), (4, .int x4)]) hx hb dX12_layParties_67 hl (by decide) rfl (fun ls hl => ?_)
  obtain ⟨x4_69, ex4_69, h⟩ := av_bd h
  replace ex4_69 := Option.some.inj ex4_69
  refine lv_iinc (v := x4_69) (lv' := [(4, .int x4_69), (5, .int y0), (0, .ref (g.2.2 98)), (1, .int x1), (2, .int x2), (3, .int x3)]) hx hb dX12_layParties_69 hl (k := 5) rfl ex4_69 (by decide) rfl (fun ls hl => ?_)
  refine lv_aload_n hx hb dX12_layParties_72 rfl (lv_at hl 2 rfl) ?_
  refine lv_iload hx hb dX12_layParties_73 (lv_at hl 0 rfl) ?_
  obtain ⟨μ75, eμ75, h⟩ := av_bd h
  refine av_goV hR (av_cV (As := [.int x4_69]) (rest := []) E X hR hl.1 (CX12_backTo l g eμ75) kk_X12_203 (av_room (by omega) (by decide)) av_t98 (by decide) rfl rfl (Nat.le_of_ble_eq_true rfl) ⟨Nat.zero_le _, Nat.zero_le _⟩ dX12_layParties_75) (fun H locs hR => ?_)
  refine lv_aload_n hx hb dX12_layParties_78 rfl (lv_at hl 2 rfl) ?_
  refine lv_iload hx hb dX12_layParties_79 (lv_at hl 0 rfl) ?_
  refine lv_iload hx hb dX12_layParties_81 (lv_at hl 1 rfl) ?_
  obtain ⟨μ83, eμ83, h⟩ := av_bd h
  refine av_goV hR (av_cV (As := [.int x4_69, .int y0]) (rest := []) E X hR hl.1 (CX12_judge l g eμ83) kk_X12_206 (av_room (by omega) (by decide)) av_t98 (by decide) rfl rfl (Nat.le_of_ble_eq_true rfl) ⟨Nat.zero_le _, Nat.zero_le _⟩ dX12_layParties_83) (fun H locs hR => ?_)
  refine lv_goto (tgt := 12) hx hb dX12_layParties_86 (by decide) ?_
  exact hk12 h hR (lv_sub hl [2, 3, 4, 5, 0] rfl)

set_option maxHeartbeats 4000000 in
set_option maxRecDepth 100000 in
theorem tX12_layParties_50 {p : Program} {l : Launch} {e : Env} {s : State} {m : MethodId} {args : Array Value} {below : List Frame} {meth : Method} {c : Code} {g : Gl} {zr : Int32} {zm : Mem} (E : av_E p s m args meth c cX12_layParties RX12 6 (some .int)) (X : av_X av_wm g s) {k12 : Int32 → Int32 → Int32 → Int32 → Mem → Option (Int32 × Mem)} (hk12 : ∀ {x1 : Int32} {x2 : Int32} {x3 : Int32} {x4 : Int32} {μ : Mem} {H : Heap} {locs : List Loc} {ls : Array Slot}, k12 x1 x2 x3 x4 μ = some (zr, zm) → av_R av_wm g μ s H locs → lv_has ls 6 [(0, .ref (g.2.2 98)), (1, .int x1), (2, .int x2), (3, .int x3), (4, .int x4)] → W p l e (rmN 4) s m args below meth c H locs 0 0 (MQ below (va_Qi (fun r1 u => r1 = zr ∧ u = zm) (av_B av_wm g) (av_A av_wm g)) args s 0 0 (av_A av_wm g)) (F0 m 12 ls [])) :
    ∀ {x1 : Int32} {x2 : Int32} {x3 : Int32} {x4 : Int32} {μ : Mem} {H : Heap} {locs : List Loc} {ls : Array Slot}, fX12_layParties_50 k12 x1 x2 x3 x4 μ = some (zr, zm) → av_R av_wm g μ s H locs → lv_has ls 6 [(0, .ref (g.2.2 98)), (1, .int x1), (2, .int x2), (3, .int x3), (4, .int x4)] → W p l e (rmN 4) s m args below meth c H locs 0 0 (MQ below (va_Qi (fun r1 u => r1 = zr ∧ u = zm) (av_B av_wm g) (av_A av_wm g)) args s 0 0 (av_A av_wm g)) (F0 m 50 ls []) := by
  obtain ⟨hx, hb, hr, hml, hown, hts, hlocks⟩ := id E
  intro x1 x2 x3 x4 μ H locs ls h hR hl
  unfold fX12_layParties_50 at h
  refine lv_iload hx hb dX12_layParties_50 (lv_at hl 4 rfl) ?_
  refine lv_iload_n hx hb dX12_layParties_52 rfl (lv_at hl 3 rfl) ?_
  refine lv_icmp_ne (tgt := 60) hx hb dX12_layParties_53 (by decide) (fun c53 => ?_) (fun c53 => ?_)
  · have h := av_if c53 h
    refine lv_aload_n hx hb dX12_layParties_60 rfl (lv_at hl 0 rfl) ?_
    refine gf_X12_42 E X hR av_t98 dX12_layParties_61 av_r98_16 ?_
    refine lv_iload hx hb dX12_layParties_64 (lv_at hl 4 rfl) ?_
    obtain ⟨r66, er66, h⟩ := av_bd h
    refine av_il E X hR av_t108 er66 dX12_layParties_66 ?_
    exact tX12_layParties_67 E X hk12 h hR (lv_sub hl [0, 1, 2, 3, 4] rfl)
  · have h := av_it c53 h
    refine lv_iconst (v := 1) hx hb dX12_layParties_56 rfl ?_
    refine lv_goto (tgt := 67) hx hb dX12_layParties_57 (by decide) ?_
    exact tX12_layParties_67 E X hk12 h hR (lv_sub hl [0, 1, 2, 3, 4] rfl)

set_option maxHeartbeats 4000000 in
set_option maxRecDepth 100000 in
theorem tX12_layParties_30 {p : Program} {l : Launch} {e : Env} {s : State} {m : MethodId} {args : Array Value} {below : List Frame} {meth : Method} {c : Code} {g : Gl} {zr : Int32} {zm : Mem} (E : av_E p s m args meth c cX12_layParties RX12 6 (some .int)) (X : av_X av_wm g s) {k12 : Int32 → Int32 → Int32 → Int32 → Mem → Option (Int32 × Mem)} (hk12 : ∀ {x1 : Int32} {x2 : Int32} {x3 : Int32} {x4 : Int32} {μ : Mem} {H : Heap} {locs : List Loc} {ls : Array Slot}, k12 x1 x2 x3 x4 μ = some (zr, zm) → av_R av_wm g μ s H locs → lv_has ls 6 [(0, .ref (g.2.2 98)), (1, .int x1), (2, .int x2), (3, .int x3), (4, .int x4)] → W p l e (rmN 4) s m args below meth c H locs 0 0 (MQ below (va_Qi (fun r1 u => r1 = zr ∧ u = zm) (av_B av_wm g) (av_A av_wm g)) args s 0 0 (av_A av_wm g)) (F0 m 12 ls [])) :
    ∀ {x1 : Int32} {x2 : Int32} {x3 : Int32} {x4 : Int32} {μ : Mem} {H : Heap} {locs : List Loc} {ls : Array Slot}, fX12_layParties_30 k12 x1 x2 x3 x4 μ = some (zr, zm) → av_R av_wm g μ s H locs → lv_has ls 6 [(0, .ref (g.2.2 98)), (1, .int x1), (2, .int x2), (3, .int x3), (4, .int x4)] → W p l e (rmN 4) s m args below meth c H locs 0 0 (MQ below (va_Qi (fun r1 u => r1 = zr ∧ u = zm) (av_B av_wm g) (av_A av_wm g)) args s 0 0 (av_A av_wm g)) (F0 m 30 ls []) := by
  obtain ⟨hx, hb, hr, hml, hown, hts, hlocks⟩ := id E
  intro x1 x2 x3 x4 μ H locs ls h hR hl
  unfold fX12_layParties_30 at h
  refine lv_iload hx hb dX12_layParties_30 (lv_at hl 4 rfl) ?_
  refine lv_iload_n hx hb dX12_layParties_32 rfl (lv_at hl 3 rfl) ?_
  refine lv_icmp_eq (tgt := 50) hx hb dX12_layParties_33 (by decide) (fun c33 => ?_) (fun c33 => ?_)
  · have h := av_it c33 h
    exact tX12_layParties_50 E X hk12 h hR (lv_sub hl [0, 1, 2, 3, 4] rfl)
  · have h := av_if c33 h
    refine lv_aload_n hx hb dX12_layParties_36 rfl (lv_at hl 0 rfl) ?_
    refine gf_X12_39 E X hR av_t98 dX12_layParties_37 av_r98_15 ?_
    refine lv_iload hx hb dX12_layParties_40 (lv_at hl 4 rfl) ?_
    obtain ⟨r42, er42, h⟩ := av_bd h
    refine av_il E X hR av_t107 er42 dX12_layParties_42 ?_
    refine lv_aload_n hx hb dX12_layParties_43 rfl (lv_at hl 0 rfl) ?_
    obtain ⟨r44, er44, h⟩ := av_bd h
    refine av_goI hR (av_cV (As := []) (rest := [.int r42]) E X hR hl.1 (CX12_ledges l g er44) kk_X12_64 (av_room (by omega) (by decide)) av_t98 (by decide) rfl rfl (Nat.le_of_ble_eq_true rfl) ⟨Nat.zero_le _, Nat.zero_le _⟩ dX12_layParties_44) (fun H locs hR => ?_)
    refine lv_icmp_ne (tgt := 89) hx hb dX12_layParties_47 (by decide) (fun c47 => ?_) (fun c47 => ?_)
    · have h := av_if c47 h
      refine lv_aload_n hx hb dX12_layParties_89 rfl (lv_at hl 0 rfl) ?_
      refine lv_aload_n hx hb dX12_layParties_90 rfl (lv_at hl 0 rfl) ?_
      refine gf_X12_39 E X hR av_t98 dX12_layParties_91 av_r98_15 ?_
      refine lv_iload hx hb dX12_layParties_94 (lv_at hl 4 rfl) ?_
      obtain ⟨r96, er96, h⟩ := av_bd h
      refine av_il E X hR av_t107 er96 dX12_layParties_96 ?_
      refine lv_iload_n hx hb dX12_layParties_97 rfl (lv_at hl 1 rfl) ?_
      refine lv_iload_n hx hb dX12_layParties_98 rfl (lv_at hl 2 rfl) ?_
      obtain ⟨μ99, eμ99, h⟩ := av_bd h
      refine av_goV hR (av_cV (As := [.int r96, .int x1, .int x2]) (rest := []) E X hR hl.1 (CX12_goParty l g eμ99) kk_X12_210 (av_room (by omega) (by decide)) av_t98 (by decide) rfl rfl (Nat.le_of_ble_eq_true rfl) ⟨Nat.zero_le _, Nat.zero_le _⟩ dX12_layParties_99) (fun H locs hR => ?_)
      refine lv_aload_n hx hb dX12_layParties_102 rfl (lv_at hl 0 rfl) ?_
      refine gf_X12_196 E X hR av_t98 dX12_layParties_103 ?_
      refine lv_iconst (v := (-1)) hx hb dX12_layParties_106 rfl ?_
      refine lv_icmp_eq (tgt := 138) hx hb dX12_layParties_107 (by decide) (fun c107 => ?_) (fun c107 => ?_)
      · have h := av_it c107 h
        obtain ⟨x4_138, ex4_138, h⟩ := av_bd h
        replace ex4_138 := Option.some.inj ex4_138
        refine lv_iinc (v := x4_138) (lv' := [(4, .int x4_138), (0, .ref (g.2.2 98)), (1, .int x1), (2, .int x2), (3, .int x3)]) hx hb dX12_layParties_138 hl (k := 4) rfl ex4_138 (by decide) rfl (fun ls hl => ?_)
        refine lv_aload_n hx hb dX12_layParties_141 rfl (lv_at hl 1 rfl) ?_
        refine lv_iload hx hb dX12_layParties_142 (lv_at hl 0 rfl) ?_
        obtain ⟨μ144, eμ144, h⟩ := av_bd h
        refine av_goV hR (av_cV (As := [.int x4_138]) (rest := []) E X hR hl.1 (CX12_layTurn l g eμ144) kk_X12_199 (av_room (by omega) (by decide)) av_t98 (by decide) rfl rfl (Nat.le_of_ble_eq_true rfl) ⟨Nat.zero_le _, Nat.zero_le _⟩ dX12_layParties_144) (fun H locs hR => ?_)
        refine lv_goto (tgt := 12) hx hb dX12_layParties_147 (by decide) ?_
        exact hk12 h hR (lv_sub hl [1, 2, 3, 4, 0] rfl)
      · have h := av_if c107 h
        refine lv_aload_n hx hb dX12_layParties_110 rfl (lv_at hl 0 rfl) ?_
        refine lv_iload hx hb dX12_layParties_111 (lv_at hl 4 rfl) ?_
        obtain ⟨μ113, eμ113, h⟩ := av_bd h
        refine av_goV hR (av_cV (As := [.int x4]) (rest := []) E X hR hl.1 (CX12_backTo l g eμ113) kk_X12_203 (av_room (by omega) (by decide)) av_t98 (by decide) rfl rfl (Nat.le_of_ble_eq_true rfl) ⟨Nat.zero_le _, Nat.zero_le _⟩ dX12_layParties_113) (fun H locs hR => ?_)
        refine lv_aload_n hx hb dX12_layParties_116 rfl (lv_at hl 0 rfl) ?_
        refine lv_iload hx hb dX12_layParties_117 (lv_at hl 4 rfl) ?_
        refine lv_aload_n hx hb dX12_layParties_119 rfl (lv_at hl 0 rfl) ?_
        refine gf_X12_196 E X hR av_t98 dX12_layParties_120 ?_
        refine lv_iload_n hx hb dX12_layParties_123 rfl (lv_at hl 1 rfl) ?_
        refine lv_icmp_ne (tgt := 131) hx hb dX12_layParties_124 (by decide) (fun c124 => ?_) (fun c124 => ?_)
        · have h := av_if c124 h
          refine lv_iconst (v := 0) hx hb dX12_layParties_131 rfl ?_
          exact tX12_layParties_132 E X hk12 h hR (lv_sub hl [0, 1, 2, 3, 4] rfl)
        · have h := av_it c124 h
          refine lv_iconst (v := 2) hx hb dX12_layParties_127 rfl ?_
          refine lv_goto (tgt := 132) hx hb dX12_layParties_128 (by decide) ?_
          exact tX12_layParties_132 E X hk12 h hR (lv_sub hl [0, 1, 2, 3, 4] rfl)
    · have h := av_it c47 h
      exact tX12_layParties_50 E X hk12 h hR (lv_sub hl [0, 1, 2, 3, 4] rfl)

set_option maxHeartbeats 4000000 in
set_option maxRecDepth 100000 in
theorem tX12_layParties_12 {p : Program} {l : Launch} {e : Env} {s : State} {m : MethodId} {args : Array Value} {below : List Frame} {meth : Method} {c : Code} {g : Gl} {zr : Int32} {zm : Mem} (E : av_E p s m args meth c cX12_layParties RX12 6 (some .int)) (X : av_X av_wm g s) :
    ∀ (n : Nat) {x1 : Int32} {x2 : Int32} {x3 : Int32} {x4 : Int32} {μ : Mem} {H : Heap} {locs : List Loc} {ls : Array Slot}, fX12_layParties_12 n x1 x2 x3 x4 μ = some (zr, zm) → av_R av_wm g μ s H locs → lv_has ls 6 [(0, .ref (g.2.2 98)), (1, .int x1), (2, .int x2), (3, .int x3), (4, .int x4)] → W p l e (rmN 4) s m args below meth c H locs 0 0 (MQ below (va_Qi (fun r1 u => r1 = zr ∧ u = zm) (av_B av_wm g) (av_A av_wm g)) args s 0 0 (av_A av_wm g)) (F0 m 12 ls []) := by
  obtain ⟨hx, hb, hr, hml, hown, hts, hlocks⟩ := id E
  intro n
  induction n with
  | zero =>
    intro x1 x2 x3 x4 μ H locs ls h hR hl
    cases h
  | succ n ih =>
    intro x1 x2 x3 x4 μ H locs ls h hR hl
    unfold fX12_layParties_12 at h
    refine lv_iload hx hb dX12_layParties_12 (lv_at hl 4 rfl) ?_
    refine lv_if_gt (tgt := 30) hx hb dX12_layParties_14 (by decide) (fun c14 => ?_) (fun c14 => ?_)
    · have h := av_it c14 h
      exact tX12_layParties_30 E X ih h hR (lv_sub hl [0, 1, 2, 3, 4] rfl)
    · have h := av_if c14 h
      refine lv_aload_n hx hb dX12_layParties_17 rfl (lv_at hl 0 rfl) ?_
      refine gf_X12_39 E X hR av_t98 dX12_layParties_18 av_r98_15 ?_
      refine lv_iconst (v := 0) hx hb dX12_layParties_21 rfl ?_
      obtain ⟨r22, er22, h⟩ := av_bd h
      refine av_il E X hR av_t107 er22 dX12_layParties_22 ?_
      refine lv_aload_n hx hb dX12_layParties_23 rfl (lv_at hl 0 rfl) ?_
      obtain ⟨r24, er24, h⟩ := av_bd h
      refine av_goI hR (av_cV (As := []) (rest := [.int r22]) E X hR hl.1 (CX12_ledges l g er24) kk_X12_64 (av_room (by omega) (by decide)) av_t98 (by decide) rfl rfl (Nat.le_of_ble_eq_true rfl) ⟨Nat.zero_le _, Nat.zero_le _⟩ dX12_layParties_24) (fun H locs hR => ?_)
      refine lv_icmp_ge (tgt := 150) hx hb dX12_layParties_27 (by decide) (fun c27 => ?_) (fun c27 => ?_)
      · have h := av_it c27 h
        refine lv_aload_n hx hb dX12_layParties_150 rfl (lv_at hl 0 rfl) ?_
        refine gf_X12_42 E X hR av_t98 dX12_layParties_151 av_r98_16 ?_
        refine lv_iconst (v := 0) hx hb dX12_layParties_154 rfl ?_
        obtain ⟨r155, er155, h⟩ := av_bd h
        refine av_il E X hR av_t108 er155 dX12_layParties_155 ?_
        exact av_ri E hR (av_r2 h) dX12_layParties_156
      · have h := av_if c27 h
        exact tX12_layParties_30 E X ih h hR (lv_sub hl [0, 1, 2, 3, 4] rfl)

set_option maxHeartbeats 4000000 in
set_option maxRecDepth 100000 in
theorem CX12_layParties (l : Launch) (g : Gl) {a1 : Int32} {a2 : Int32} {a3 : Int32} {μ : Mem} {zr : Int32} {zm : Mem} (h : fX12_layParties a1 a2 a3 μ = some (zr, zm)) : av_MI l yX12_layParties cX12_layParties 6 4 (some .int) av_wm g [.ref (g.2.2 98), .int a1, .int a2, .int a3] μ zr zm := by
  refine av_ent (own := RX12) (by decide) (Nat.le_of_ble_eq_true rfl) rfl (fun p e s m args below meth c E X hR ls hl => ?_)
  have hl : lv_has ls 6 [(0, .ref (g.2.2 98)), (1, .int a1), (2, .int a2), (3, .int a3)] := hl
  obtain ⟨hx, hb, hr, hml, hown, hts, hlocks⟩ := id E
  unfold fX12_layParties at h
  refine lv_iconst (v := 0) hx hb dX12_layParties_0 rfl ?_
  refine lv_istore (lv' := [(4, .int 0), (0, .ref (g.2.2 98)), (1, .int a1), (2, .int a2), (3, .int a3)]) hx hb dX12_layParties_1 hl (by decide) rfl (fun ls hl => ?_)
  refine lv_aload_n hx hb dX12_layParties_3 rfl (lv_at hl 1 rfl) ?_
  obtain ⟨μ4, eμ4, h⟩ := av_bd h
  refine av_goV hR (av_cV (As := []) (rest := []) E X hR hl.1 (CX12_layHand l g eμ4) kk_X12_161 (av_room (by omega) (by decide)) av_t98 (by decide) rfl rfl (Nat.le_of_ble_eq_true rfl) ⟨Nat.zero_le _, Nat.zero_le _⟩ dX12_layParties_4) (fun H locs hR => ?_)
  refine lv_aload_n hx hb dX12_layParties_7 rfl (lv_at hl 1 rfl) ?_
  refine lv_iconst (v := 0) hx hb dX12_layParties_8 rfl ?_
  obtain ⟨μ9, eμ9, h⟩ := av_bd h
  refine av_goV hR (av_cV (As := [.int 0]) (rest := []) E X hR hl.1 (CX12_layTurn l g eμ9) kk_X12_199 (av_room (by omega) (by decide)) av_t98 (by decide) rfl rfl (Nat.le_of_ble_eq_true rfl) ⟨Nat.zero_le _, Nat.zero_le _⟩ dX12_layParties_9) (fun H locs hR => ?_)
  exact tX12_layParties_12 E X _ h hR (lv_sub hl [1, 2, 3, 4, 0] rfl)

set_option maxHeartbeats 4000000 in
set_option maxRecDepth 100000 in
theorem tX12_parties_44 {p : Program} {l : Launch} {e : Env} {s : State} {m : MethodId} {args : Array Value} {below : List Frame} {meth : Method} {c : Code} {g : Gl} {zr : Int32} {zm : Mem} (E : av_E p s m args meth c cX12_parties RX12 6 (some .int)) (X : av_X av_wm g s) :
    ∀ {μ : Mem} {H : Heap} {locs : List Loc} {ls : Array Slot}, fX12_parties_44 μ = some (zr, zm) → av_R av_wm g μ s H locs → lv_has ls 6 [(0, .ref (g.2.2 98))] → W p l e (rmN 5) s m args below meth c H locs 0 0 (MQ below (va_Qi (fun r1 u => r1 = zr ∧ u = zm) (av_B av_wm g) (av_A av_wm g)) args s 0 0 (av_A av_wm g)) (F0 m 44 ls []) := by
  obtain ⟨hx, hb, hr, hml, hown, hts, hlocks⟩ := id E
  intro μ H locs ls h hR hl
  unfold fX12_parties_44 at h
  refine lv_aload_n hx hb dX12_parties_44 rfl (lv_at hl 0 rfl) ?_
  refine lv_bipush (v := (-10)) hx hb dX12_parties_45 rfl ?_
  obtain ⟨r47, μ47, er47, h⟩ := av_bd2 h
  refine av_goI hR (av_cV (As := [.int (-10)]) (rest := []) E X hR hl.1 (CX12_bad l g er47) kk_X12_81 (av_room (by omega) (by decide)) av_t98 (by decide) rfl rfl (Nat.le_of_ble_eq_true rfl) ⟨Nat.zero_le _, Nat.zero_le _⟩ dX12_parties_47) (fun H locs hR => ?_)
  exact av_ri E hR (av_r2 h) dX12_parties_50

set_option maxHeartbeats 4000000 in
set_option maxRecDepth 100000 in
theorem CX12_parties (l : Launch) (g : Gl) {a1 : Int32} {a2 : Int32} {a3 : Int32} {a4 : Int32} {μ : Mem} {zr : Int32} {zm : Mem} (h : fX12_parties a1 a2 a3 a4 μ = some (zr, zm)) : av_MI l yX12_parties cX12_parties 6 5 (some .int) av_wm g [.ref (g.2.2 98), .int a1, .int a2, .int a3, .int a4] μ zr zm := by
  refine av_ent (own := RX12) (by decide) (Nat.le_of_ble_eq_true rfl) rfl (fun p e s m args below meth c E X hR ls hl => ?_)
  have hl : lv_has ls 6 [(0, .ref (g.2.2 98)), (1, .int a1), (2, .int a2), (3, .int a3), (4, .int a4)] := hl
  obtain ⟨hx, hb, hr, hml, hown, hts, hlocks⟩ := id E
  unfold fX12_parties at h
  refine lv_aload_n hx hb dX12_parties_0 rfl (lv_at hl 0 rfl) ?_
  refine lv_iload_n hx hb dX12_parties_1 rfl (lv_at hl 1 rfl) ?_
  obtain ⟨r2, er2, h⟩ := av_bd h
  refine av_goI hR (av_cV (As := [.int a1]) (rest := []) E X hR hl.1 (CX12_isLedge l g er2) kk_X12_94 (av_room (by omega) (by decide)) av_t98 (by decide) rfl rfl (Nat.le_of_ble_eq_true rfl) ⟨Nat.zero_le _, Nat.zero_le _⟩ dX12_parties_2) (fun H locs hR => ?_)
  refine lv_if_eq (tgt := 44) hx hb dX12_parties_5 (by decide) (fun c5 => ?_) (fun c5 => ?_)
  · have h := av_it c5 h
    exact tX12_parties_44 E X h hR (lv_sub hl [0] rfl)
  · have h := av_if c5 h
    refine lv_aload_n hx hb dX12_parties_8 rfl (lv_at hl 0 rfl) ?_
    refine lv_iload_n hx hb dX12_parties_9 rfl (lv_at hl 2 rfl) ?_
    obtain ⟨r10, er10, h⟩ := av_bd h
    refine av_goI hR (av_cV (As := [.int a2]) (rest := []) E X hR hl.1 (CX12_isLedge l g er10) kk_X12_94 (av_room (by omega) (by decide)) av_t98 (by decide) rfl rfl (Nat.le_of_ble_eq_true rfl) ⟨Nat.zero_le _, Nat.zero_le _⟩ dX12_parties_10) (fun H locs hR => ?_)
    refine lv_if_eq (tgt := 44) hx hb dX12_parties_13 (by decide) (fun c13 => ?_) (fun c13 => ?_)
    · have h := av_it c13 h
      exact tX12_parties_44 E X h hR (lv_sub hl [0] rfl)
    · have h := av_if c13 h
      refine lv_iload_n hx hb dX12_parties_16 rfl (lv_at hl 1 rfl) ?_
      refine lv_iload_n hx hb dX12_parties_17 rfl (lv_at hl 2 rfl) ?_
      refine lv_icmp_eq (tgt := 44) hx hb dX12_parties_18 (by decide) (fun c18 => ?_) (fun c18 => ?_)
      · have h := av_it c18 h
        exact tX12_parties_44 E X h hR (lv_sub hl [0] rfl)
      · have h := av_if c18 h
        refine lv_iload_n hx hb dX12_parties_21 rfl (lv_at hl 3 rfl) ?_
        refine lv_i2l hx hb dX12_parties_22 rfl ?_
        refine lv_lconst (v := 1) hx hb dX12_parties_23 rfl ?_
        refine lv_ldc2 (v := 4) hx hb hown (hts _ kL_X12_178) dX12_parties_24 ?_
        obtain ⟨r27, er27, h⟩ := av_bd h
        refine av_goI hR (av_cS (As := [.long (Int32.toInt64 a3), .long 1, .long 4]) (rest := []) E X hR hl.1 (CX12_in l g er27) kk_X12_68 (av_room (by omega) (by decide)) rfl (Nat.le_of_ble_eq_true rfl) ⟨Nat.zero_le _, Nat.zero_le _⟩ dX12_parties_27) (fun H locs hR => ?_)
        refine lv_if_eq (tgt := 44) hx hb dX12_parties_30 (by decide) (fun c30 => ?_) (fun c30 => ?_)
        · have h := av_it c30 h
          exact tX12_parties_44 E X h hR (lv_sub hl [0] rfl)
        · have h := av_if c30 h
          refine lv_iload hx hb dX12_parties_33 (lv_at hl 4 rfl) ?_
          refine lv_i2l hx hb dX12_parties_35 rfl ?_
          refine lv_lconst (v := 0) hx hb dX12_parties_36 rfl ?_
          refine lv_lconst (v := 1) hx hb dX12_parties_37 rfl ?_
          obtain ⟨r38, er38, h⟩ := av_bd h
          refine av_goI hR (av_cS (As := [.long (Int32.toInt64 a4), .long 0, .long 1]) (rest := []) E X hR hl.1 (CX12_in l g er38) kk_X12_68 (av_room (by omega) (by decide)) rfl (Nat.le_of_ble_eq_true rfl) ⟨Nat.zero_le _, Nat.zero_le _⟩ dX12_parties_38) (fun H locs hR => ?_)
          refine lv_if_ne (tgt := 51) hx hb dX12_parties_41 (by decide) (fun c41 => ?_) (fun c41 => ?_)
          · have h := av_if c41 h
            refine lv_aload_n hx hb dX12_parties_51 rfl (lv_at hl 0 rfl) ?_
            refine lv_iload_n hx hb dX12_parties_52 rfl (lv_at hl 1 rfl) ?_
            refine lv_iload_n hx hb dX12_parties_53 rfl (lv_at hl 2 rfl) ?_
            refine lv_iload_n hx hb dX12_parties_54 rfl (lv_at hl 3 rfl) ?_
            obtain ⟨r55, μ55, er55, h⟩ := av_bd2 h
            refine av_goI hR (av_cV (As := [.int a1, .int a2, .int a3]) (rest := []) E X hR hl.1 (CX12_layParties l g er55) kk_X12_213 (av_room (by omega) (by decide)) av_t98 (by decide) rfl rfl (Nat.le_of_ble_eq_true rfl) ⟨Nat.zero_le _, Nat.zero_le _⟩ dX12_parties_55) (fun H locs hR => ?_)
            refine lv_istore (lv' := [(5, .int r55), (0, .ref (g.2.2 98)), (1, .int a1), (2, .int a2), (3, .int a3), (4, .int a4)]) hx hb dX12_parties_58 hl (by decide) rfl (fun ls hl => ?_)
            refine lv_iload hx hb dX12_parties_60 (lv_at hl 5 rfl) ?_
            refine lv_if_ne (tgt := 70) hx hb dX12_parties_62 (by decide) (fun c62 => ?_) (fun c62 => ?_)
            · have h := av_if c62 h
              refine lv_aload_n hx hb dX12_parties_70 rfl (lv_at hl 1 rfl) ?_
              refine gf_X12_193 E X hR av_t98 dX12_parties_71 ?_
              exact av_ri E hR (av_r2 h) dX12_parties_74
            · have h := av_it c62 h
              refine lv_iload hx hb dX12_parties_65 (lv_at hl 0 rfl) ?_
              refine lv_goto (tgt := 74) hx hb dX12_parties_67 (by decide) ?_
              exact av_ri E hR (av_r2 h) dX12_parties_74
          · have h := av_it c41 h
            exact tX12_parties_44 E X h hR (lv_sub hl [0] rfl)

set_option maxHeartbeats 4000000 in
set_option maxRecDepth 100000 in
theorem tX12_seen_22 {p : Program} {l : Launch} {e : Env} {s : State} {m : MethodId} {args : Array Value} {below : List Frame} {meth : Method} {c : Code} {g : Gl} {zr : Int32} {zm : Mem} (E : av_E p s m args meth c cX12_seen RX12 3 (some .int)) (X : av_X av_wm g s) :
    ∀ {μ : Mem} {H : Heap} {locs : List Loc} {ls : Array Slot}, fX12_seen_22 μ = some (zr, zm) → av_R av_wm g μ s H locs → lv_has ls 3 [(0, .ref (g.2.2 98))] → W p l e (rmN 2) s m args below meth c H locs 0 0 (MQ below (va_Qi (fun r1 u => r1 = zr ∧ u = zm) (av_B av_wm g) (av_A av_wm g)) args s 0 0 (av_A av_wm g)) (F0 m 22 ls []) := by
  obtain ⟨hx, hb, hr, hml, hown, hts, hlocks⟩ := id E
  intro μ H locs ls h hR hl
  unfold fX12_seen_22 at h
  refine lv_aload_n hx hb dX12_seen_22 rfl (lv_at hl 0 rfl) ?_
  refine lv_bipush (v := (-2)) hx hb dX12_seen_23 rfl ?_
  obtain ⟨r25, μ25, er25, h⟩ := av_bd2 h
  refine av_goI hR (av_cV (As := [.int (-2)]) (rest := []) E X hR hl.1 (CX12_bad l g er25) kk_X12_81 (av_room (by omega) (by decide)) av_t98 (by decide) rfl rfl (Nat.le_of_ble_eq_true rfl) ⟨Nat.zero_le _, Nat.zero_le _⟩ dX12_seen_25) (fun H locs hR => ?_)
  exact av_ri E hR (av_r2 h) dX12_seen_28

set_option maxHeartbeats 4000000 in
set_option maxRecDepth 100000 in
theorem CX12_seen (l : Launch) (g : Gl) {a1 : Int32} {a2 : Int32} {μ : Mem} {zr : Int32} {zm : Mem} (h : fX12_seen a1 a2 μ = some (zr, zm)) : av_MI l yX12_seen cX12_seen 3 2 (some .int) av_wm g [.ref (g.2.2 98), .int a1, .int a2] μ zr zm := by
  refine av_ent (own := RX12) (by decide) (Nat.le_of_ble_eq_true rfl) rfl (fun p e s m args below meth c E X hR ls hl => ?_)
  have hl : lv_has ls 3 [(0, .ref (g.2.2 98)), (1, .int a1), (2, .int a2)] := hl
  obtain ⟨hx, hb, hr, hml, hown, hts, hlocks⟩ := id E
  unfold fX12_seen at h
  refine lv_iload_n hx hb dX12_seen_0 rfl (lv_at hl 1 rfl) ?_
  refine lv_i2l hx hb dX12_seen_1 rfl ?_
  refine lv_lconst (v := 0) hx hb dX12_seen_2 rfl ?_
  refine lv_ldc2 (v := 99) hx hb hown (hts _ kL_X12_216) dX12_seen_3 ?_
  obtain ⟨r6, er6, h⟩ := av_bd h
  refine av_goI hR (av_cS (As := [.long (Int32.toInt64 a1), .long 0, .long 99]) (rest := []) E X hR hl.1 (CX12_in l g er6) kk_X12_68 (av_room (by omega) (by decide)) rfl (Nat.le_of_ble_eq_true rfl) ⟨Nat.zero_le _, Nat.zero_le _⟩ dX12_seen_6) (fun H locs hR => ?_)
  refine lv_if_eq (tgt := 22) hx hb dX12_seen_9 (by decide) (fun c9 => ?_) (fun c9 => ?_)
  · have h := av_it c9 h
    exact tX12_seen_22 E X h hR (lv_sub hl [0] rfl)
  · have h := av_if c9 h
    refine lv_iload_n hx hb dX12_seen_12 rfl (lv_at hl 2 rfl) ?_
    refine lv_i2l hx hb dX12_seen_13 rfl ?_
    refine lv_lconst (v := 0) hx hb dX12_seen_14 rfl ?_
    refine lv_lconst (v := 1) hx hb dX12_seen_15 rfl ?_
    obtain ⟨r16, er16, h⟩ := av_bd h
    refine av_goI hR (av_cS (As := [.long (Int32.toInt64 a2), .long 0, .long 1]) (rest := []) E X hR hl.1 (CX12_in l g er16) kk_X12_68 (av_room (by omega) (by decide)) rfl (Nat.le_of_ble_eq_true rfl) ⟨Nat.zero_le _, Nat.zero_le _⟩ dX12_seen_16) (fun H locs hR => ?_)
    refine lv_if_ne (tgt := 29) hx hb dX12_seen_19 (by decide) (fun c19 => ?_) (fun c19 => ?_)
    · have h := av_if c19 h
      refine lv_aload_n hx hb dX12_seen_29 rfl (lv_at hl 0 rfl) ?_
      refine gf_X12_7 E X hR av_t98 dX12_seen_30 av_r98_0 ?_
      refine lv_iconst (v := 3) hx hb dX12_seen_33 rfl ?_
      obtain ⟨r34, er34, h⟩ := av_bd h
      refine av_il E X hR av_t99 er34 dX12_seen_34 ?_
      refine lv_bipush (v := 6) hx hb dX12_seen_35 rfl ?_
      refine lv_icmp_ne (tgt := 45) hx hb dX12_seen_37 (by decide) (fun c37 => ?_) (fun c37 => ?_)
      · have h := av_if c37 h
        refine lv_aload_n hx hb dX12_seen_45 rfl (lv_at hl 0 rfl) ?_
        refine gf_X12_7 E X hR av_t98 dX12_seen_46 av_r98_0 ?_
        refine lv_bipush (v := 57) hx hb dX12_seen_49 rfl ?_
        refine lv_iconst (v := 2) hx hb dX12_seen_51 rfl ?_
        refine lv_aload_n hx hb dX12_seen_52 rfl (lv_at hl 0 rfl) ?_
        refine gf_X12_7 E X hR av_t98 dX12_seen_53 av_r98_0 ?_
        refine lv_iconst (v := 3) hx hb dX12_seen_56 rfl ?_
        obtain ⟨r57, er57, h⟩ := av_bd h
        refine av_il E X hR av_t99 er57 dX12_seen_57 ?_
        refine lv_imul hx hb dX12_seen_58 ?_
        refine lv_iadd hx hb dX12_seen_59 ?_
        refine lv_iload_n hx hb dX12_seen_60 rfl (lv_at hl 1 rfl) ?_
        obtain ⟨μ61, eμ61, h⟩ := av_bd h
        refine av_is E X hR av_t99 eμ61 dX12_seen_61 (fun H locs hR => ?_)
        refine lv_aload_n hx hb dX12_seen_62 rfl (lv_at hl 0 rfl) ?_
        refine gf_X12_7 E X hR av_t98 dX12_seen_63 av_r98_0 ?_
        refine lv_bipush (v := 57) hx hb dX12_seen_66 rfl ?_
        refine lv_iconst (v := 2) hx hb dX12_seen_68 rfl ?_
        refine lv_aload_n hx hb dX12_seen_69 rfl (lv_at hl 0 rfl) ?_
        refine gf_X12_7 E X hR av_t98 dX12_seen_70 av_r98_0 ?_
        refine lv_iconst (v := 3) hx hb dX12_seen_73 rfl ?_
        obtain ⟨r74, er74, h⟩ := av_bd h
        refine av_il E X hR av_t99 er74 dX12_seen_74 ?_
        refine lv_imul hx hb dX12_seen_75 ?_
        refine lv_iadd hx hb dX12_seen_76 ?_
        refine lv_iconst (v := 1) hx hb dX12_seen_77 rfl ?_
        refine lv_iadd hx hb dX12_seen_78 ?_
        refine lv_iload_n hx hb dX12_seen_79 rfl (lv_at hl 2 rfl) ?_
        obtain ⟨μ80, eμ80, h⟩ := av_bd h
        refine av_is E X hR av_t99 eμ80 dX12_seen_80 (fun H locs hR => ?_)
        refine lv_aload_n hx hb dX12_seen_81 rfl (lv_at hl 0 rfl) ?_
        refine gf_X12_7 E X hR av_t98 dX12_seen_82 av_r98_0 ?_
        refine lv_iconst (v := 3) hx hb dX12_seen_85 rfl ?_
        refine lv_dup2_11 hx hb dX12_seen_86 rfl rfl ?_
        obtain ⟨r87, er87, h⟩ := av_bd h
        refine av_il E X hR av_t99 er87 dX12_seen_87 ?_
        refine lv_iconst (v := 1) hx hb dX12_seen_88 rfl ?_
        refine lv_iadd hx hb dX12_seen_89 ?_
        obtain ⟨μ90, eμ90, h⟩ := av_bd h
        refine av_is E X hR av_t99 eμ90 dX12_seen_90 (fun H locs hR => ?_)
        refine lv_aload_n hx hb dX12_seen_91 rfl (lv_at hl 0 rfl) ?_
        refine gf_X12_7 E X hR av_t98 dX12_seen_92 av_r98_0 ?_
        refine lv_iconst (v := 3) hx hb dX12_seen_95 rfl ?_
        obtain ⟨r96, er96, h⟩ := av_bd h
        refine av_il E X hR av_t99 er96 dX12_seen_96 ?_
        exact av_ri E hR (av_r2 h) dX12_seen_97
      · have h := av_it c37 h
        refine lv_aload_n hx hb dX12_seen_40 rfl (lv_at hl 0 rfl) ?_
        obtain ⟨r41, μ41, er41, h⟩ := av_bd2 h
        refine av_goI hR (av_cV (As := []) (rest := []) E X hR hl.1 (CX12_full l g er41) kk_X12_85 (av_room (by omega) (by decide)) av_t98 (by decide) rfl rfl (Nat.le_of_ble_eq_true rfl) ⟨Nat.zero_le _, Nat.zero_le _⟩ dX12_seen_41) (fun H locs hR => ?_)
        exact av_ri E hR (av_r2 h) dX12_seen_44
    · have h := av_it c19 h
      exact tX12_seen_22 E X h hR (lv_sub hl [0] rfl)

set_option maxHeartbeats 4000000 in
set_option maxRecDepth 100000 in
theorem CX12_forget (l : Launch) (g : Gl) {μ : Mem} {zr : Int32} {zm : Mem} (h : fX12_forget μ = some (zr, zm)) : av_MI l yX12_forget cX12_forget 2 1 (some .int) av_wm g [.ref (g.2.2 98)] μ zr zm := by
  refine av_ent (own := RX12) (by decide) (Nat.le_of_ble_eq_true rfl) rfl (fun p e s m args below meth c E X hR ls hl => ?_)
  have hl : lv_has ls 2 [(0, .ref (g.2.2 98))] := hl
  obtain ⟨hx, hb, hr, hml, hown, hts, hlocks⟩ := id E
  unfold fX12_forget at h
  refine lv_aload_n hx hb dX12_forget_0 rfl (lv_at hl 0 rfl) ?_
  refine gf_X12_7 E X hR av_t98 dX12_forget_1 av_r98_0 ?_
  refine lv_iconst (v := 3) hx hb dX12_forget_4 rfl ?_
  obtain ⟨r5, er5, h⟩ := av_bd h
  refine av_il E X hR av_t99 er5 dX12_forget_5 ?_
  refine lv_istore_n (lv' := [(1, .int r5), (0, .ref (g.2.2 98))]) hx hb dX12_forget_6 rfl hl (by decide) rfl (fun ls hl => ?_)
  refine lv_aload_n hx hb dX12_forget_7 rfl (lv_at hl 1 rfl) ?_
  refine gf_X12_7 E X hR av_t98 dX12_forget_8 av_r98_0 ?_
  refine lv_iconst (v := 3) hx hb dX12_forget_11 rfl ?_
  refine lv_iconst (v := 0) hx hb dX12_forget_12 rfl ?_
  obtain ⟨μ13, eμ13, h⟩ := av_bd h
  refine av_is E X hR av_t99 eμ13 dX12_forget_13 (fun H locs hR => ?_)
  refine lv_iload_n hx hb dX12_forget_14 rfl (lv_at hl 0 rfl) ?_
  exact av_ri E hR (av_r2 h) dX12_forget_15

set_option maxHeartbeats 4000000 in
set_option maxRecDepth 100000 in
theorem tX12_canHold_72 {p : Program} {l : Launch} {e : Env} {s : State} {m : MethodId} {args : Array Value} {below : List Frame} {meth : Method} {c : Code} {g : Gl} {zr : Int32} {μ0 : Mem} (E : av_E p s m args meth c cX12_canHold RX12 5 (some .boolean)) (X : av_X av_wm g s) {k4 : Int32 → Int32 → Int32 → Mem → Option (Int32)} (hk4 : ∀ {x1 : Int32} {x2 : Int32} {x3 : Int32} {μ : Mem} {H : Heap} {locs : List Loc} {ls : Array Slot} (hμ : μ0 = μ), k4 x1 x2 x3 μ = some zr → av_R av_wm g μ s H locs → lv_has ls 5 [(0, .ref (g.2.2 98)), (1, .int x1), (2, .int x2), (3, .int x3)] → W p l e (rmN 1) s m args below meth c H locs 0 0 (MQ below (va_Qi (fun r1 u => r1 = zr ∧ u = μ0) (av_B av_wm g) (av_A av_wm g)) args s 0 0 (av_A av_wm g)) (F0 m 4 ls [])) :
    ∀ {x1 : Int32} {x3 : Int32} {y0 : Int32} {μ : Mem} {H : Heap} {locs : List Loc} {ls : Array Slot} (hμ : μ0 = μ), fX12_canHold_72 k4 x1 x3 y0 μ = some zr → av_R av_wm g μ s H locs → lv_has ls 5 [(0, .ref (g.2.2 98)), (1, .int x1), (3, .int x3)] → W p l e (rmN 1) s m args below meth c H locs 0 0 (MQ below (va_Qi (fun r1 u => r1 = zr ∧ u = μ0) (av_B av_wm g) (av_A av_wm g)) args s 0 0 (av_A av_wm g)) (F0 m 72 ls [.int y0]) := by
  obtain ⟨hx, hb, hr, hml, hown, hts, hlocks⟩ := id E
  intro x1 x3 y0 μ H locs ls hμ h hR hl
  unfold fX12_canHold_72 at h
  refine lv_istore_n (lv' := [(2, .int y0), (0, .ref (g.2.2 98)), (1, .int x1), (3, .int x3)]) hx hb dX12_canHold_72 rfl hl (by decide) rfl (fun ls hl => ?_)
  obtain ⟨x3_73, ex3_73, h⟩ := av_bd h
  replace ex3_73 := Option.some.inj ex3_73
  refine lv_iinc (v := x3_73) (lv' := [(3, .int x3_73), (2, .int y0), (0, .ref (g.2.2 98)), (1, .int x1)]) hx hb dX12_canHold_73 hl (k := 3) rfl ex3_73 (by decide) rfl (fun ls hl => ?_)
  refine lv_goto (tgt := 4) hx hb dX12_canHold_76 (by decide) ?_
  exact hk4 hμ h hR (lv_sub hl [2, 3, 1, 0] rfl)

set_option maxHeartbeats 4000000 in
set_option maxRecDepth 100000 in
theorem tX12_canHold_71 {p : Program} {l : Launch} {e : Env} {s : State} {m : MethodId} {args : Array Value} {below : List Frame} {meth : Method} {c : Code} {g : Gl} {zr : Int32} {μ0 : Mem} (E : av_E p s m args meth c cX12_canHold RX12 5 (some .boolean)) (X : av_X av_wm g s) {k4 : Int32 → Int32 → Int32 → Mem → Option (Int32)} (hk4 : ∀ {x1 : Int32} {x2 : Int32} {x3 : Int32} {μ : Mem} {H : Heap} {locs : List Loc} {ls : Array Slot} (hμ : μ0 = μ), k4 x1 x2 x3 μ = some zr → av_R av_wm g μ s H locs → lv_has ls 5 [(0, .ref (g.2.2 98)), (1, .int x1), (2, .int x2), (3, .int x3)] → W p l e (rmN 1) s m args below meth c H locs 0 0 (MQ below (va_Qi (fun r1 u => r1 = zr ∧ u = μ0) (av_B av_wm g) (av_A av_wm g)) args s 0 0 (av_A av_wm g)) (F0 m 4 ls [])) :
    ∀ {x1 : Int32} {x3 : Int32} {μ : Mem} {H : Heap} {locs : List Loc} {ls : Array Slot} (hμ : μ0 = μ), fX12_canHold_71 k4 x1 x3 μ = some zr → av_R av_wm g μ s H locs → lv_has ls 5 [(0, .ref (g.2.2 98)), (1, .int x1), (3, .int x3)] → W p l e (rmN 1) s m args below meth c H locs 0 0 (MQ below (va_Qi (fun r1 u => r1 = zr ∧ u = μ0) (av_B av_wm g) (av_A av_wm g)) args s 0 0 (av_A av_wm g)) (F0 m 71 ls []) := by
  obtain ⟨hx, hb, hr, hml, hown, hts, hlocks⟩ := id E
  intro x1 x3 μ H locs ls hμ h hR hl
  unfold fX12_canHold_71 at h
  refine lv_iconst (v := 0) hx hb dX12_canHold_71 rfl ?_
  exact tX12_canHold_72 E X hk4 hμ h hR (lv_sub hl [0, 1, 2] rfl)

set_option maxHeartbeats 4000000 in
set_option maxRecDepth 100000 in
theorem tX12_canHold_64 {p : Program} {l : Launch} {e : Env} {s : State} {m : MethodId} {args : Array Value} {below : List Frame} {meth : Method} {c : Code} {g : Gl} {zr : Int32} {μ0 : Mem} (E : av_E p s m args meth c cX12_canHold RX12 5 (some .boolean)) (X : av_X av_wm g s) {k4 : Int32 → Int32 → Int32 → Mem → Option (Int32)} (hk4 : ∀ {x1 : Int32} {x2 : Int32} {x3 : Int32} {μ : Mem} {H : Heap} {locs : List Loc} {ls : Array Slot} (hμ : μ0 = μ), k4 x1 x2 x3 μ = some zr → av_R av_wm g μ s H locs → lv_has ls 5 [(0, .ref (g.2.2 98)), (1, .int x1), (2, .int x2), (3, .int x3)] → W p l e (rmN 1) s m args below meth c H locs 0 0 (MQ below (va_Qi (fun r1 u => r1 = zr ∧ u = μ0) (av_B av_wm g) (av_A av_wm g)) args s 0 0 (av_A av_wm g)) (F0 m 4 ls [])) :
    ∀ {x1 : Int32} {x3 : Int32} {y0 : Int32} {y1 : Int32} {μ : Mem} {H : Heap} {locs : List Loc} {ls : Array Slot} (hμ : μ0 = μ), fX12_canHold_64 k4 x1 x3 y0 y1 μ = some zr → av_R av_wm g μ s H locs → lv_has ls 5 [(0, .ref (g.2.2 98)), (1, .int x1), (3, .int x3)] → W p l e (rmN 1) s m args below meth c H locs 0 0 (MQ below (va_Qi (fun r1 u => r1 = zr ∧ u = μ0) (av_B av_wm g) (av_A av_wm g)) args s 0 0 (av_A av_wm g)) (F0 m 64 ls [.int y1, .int y0]) := by
  obtain ⟨hx, hb, hr, hml, hown, hts, hlocks⟩ := id E
  intro x1 x3 y0 y1 μ H locs ls hμ h hR hl
  unfold fX12_canHold_64 at h
  refine lv_icmp_ne (tgt := 71) hx hb dX12_canHold_64 (by decide) (fun c64 => ?_) (fun c64 => ?_)
  · have h := av_if c64 h
    exact tX12_canHold_71 E X hk4 hμ h hR (lv_sub hl [0, 1, 2] rfl)
  · have h := av_it c64 h
    refine lv_iconst (v := 1) hx hb dX12_canHold_67 rfl ?_
    refine lv_goto (tgt := 72) hx hb dX12_canHold_68 (by decide) ?_
    exact tX12_canHold_72 E X hk4 hμ h hR (lv_sub hl [0, 1, 2] rfl)

set_option maxHeartbeats 4000000 in
set_option maxRecDepth 100000 in
theorem tX12_canHold_34 {p : Program} {l : Launch} {e : Env} {s : State} {m : MethodId} {args : Array Value} {below : List Frame} {meth : Method} {c : Code} {g : Gl} {zr : Int32} {μ0 : Mem} (E : av_E p s m args meth c cX12_canHold RX12 5 (some .boolean)) (X : av_X av_wm g s) {k4 : Int32 → Int32 → Int32 → Mem → Option (Int32)} (hk4 : ∀ {x1 : Int32} {x2 : Int32} {x3 : Int32} {μ : Mem} {H : Heap} {locs : List Loc} {ls : Array Slot} (hμ : μ0 = μ), k4 x1 x2 x3 μ = some zr → av_R av_wm g μ s H locs → lv_has ls 5 [(0, .ref (g.2.2 98)), (1, .int x1), (2, .int x2), (3, .int x3)] → W p l e (rmN 1) s m args below meth c H locs 0 0 (MQ below (va_Qi (fun r1 u => r1 = zr ∧ u = μ0) (av_B av_wm g) (av_A av_wm g)) args s 0 0 (av_A av_wm g)) (F0 m 4 ls [])) :
    ∀ {x1 : Int32} {x2 : Int32} {x3 : Int32} {y0 : Int32} {μ : Mem} {H : Heap} {locs : List Loc} {ls : Array Slot} (hμ : μ0 = μ), fX12_canHold_34 k4 x1 x2 x3 y0 μ = some zr → av_R av_wm g μ s H locs → lv_has ls 5 [(0, .ref (g.2.2 98)), (1, .int x1), (2, .int x2), (3, .int x3)] → W p l e (rmN 1) s m args below meth c H locs 0 0 (MQ below (va_Qi (fun r1 u => r1 = zr ∧ u = μ0) (av_B av_wm g) (av_A av_wm g)) args s 0 0 (av_A av_wm g)) (F0 m 34 ls [.int y0]) := by
  obtain ⟨hx, hb, hr, hml, hown, hts, hlocks⟩ := id E
  intro x1 x2 x3 y0 μ H locs ls hμ h hR hl
  unfold fX12_canHold_34 at h
  refine lv_istore (lv' := [(4, .int y0), (0, .ref (g.2.2 98)), (1, .int x1), (2, .int x2), (3, .int x3)]) hx hb dX12_canHold_34 hl (by decide) rfl (fun ls hl => ?_)
  refine lv_iload_n hx hb dX12_canHold_36 rfl (lv_at hl 3 rfl) ?_
  refine lv_if_eq (tgt := 71) hx hb dX12_canHold_37 (by decide) (fun c37 => ?_) (fun c37 => ?_)
  · have h := av_it c37 h
    exact tX12_canHold_71 E X hk4 hμ h hR (lv_sub hl [1, 2, 4] rfl)
  · have h := av_if c37 h
    refine lv_iload hx hb dX12_canHold_40 (lv_at hl 0 rfl) ?_
    refine lv_aload_n hx hb dX12_canHold_42 rfl (lv_at hl 1 rfl) ?_
    refine gf_X12_7 E X hR av_t98 dX12_canHold_43 av_r98_0 ?_
    refine lv_bipush (v := 57) hx hb dX12_canHold_46 rfl ?_
    refine lv_iconst (v := 2) hx hb dX12_canHold_48 rfl ?_
    refine lv_iload_n hx hb dX12_canHold_49 rfl (lv_at hl 4 rfl) ?_
    refine lv_imul hx hb dX12_canHold_50 ?_
    refine lv_iadd hx hb dX12_canHold_51 ?_
    refine lv_iconst (v := 1) hx hb dX12_canHold_52 rfl ?_
    refine lv_iadd hx hb dX12_canHold_53 ?_
    obtain ⟨r54, er54, h⟩ := av_bd h
    refine av_il E X hR av_t99 er54 dX12_canHold_54 ?_
    refine lv_iconst (v := 1) hx hb dX12_canHold_55 rfl ?_
    refine lv_icmp_ne (tgt := 63) hx hb dX12_canHold_56 (by decide) (fun c56 => ?_) (fun c56 => ?_)
    · have h := av_if c56 h
      refine lv_iconst (v := 0) hx hb dX12_canHold_63 rfl ?_
      exact tX12_canHold_64 E X hk4 hμ h hR (lv_sub hl [1, 2, 4] rfl)
    · have h := av_it c56 h
      refine lv_iconst (v := 1) hx hb dX12_canHold_59 rfl ?_
      refine lv_goto (tgt := 64) hx hb dX12_canHold_60 (by decide) ?_
      exact tX12_canHold_64 E X hk4 hμ h hR (lv_sub hl [1, 2, 4] rfl)

set_option maxHeartbeats 4000000 in
set_option maxRecDepth 100000 in
theorem tX12_canHold_4 {p : Program} {l : Launch} {e : Env} {s : State} {m : MethodId} {args : Array Value} {below : List Frame} {meth : Method} {c : Code} {g : Gl} {zr : Int32} {μ0 : Mem} (E : av_E p s m args meth c cX12_canHold RX12 5 (some .boolean)) (X : av_X av_wm g s) :
    ∀ (n : Nat) {x1 : Int32} {x2 : Int32} {x3 : Int32} {μ : Mem} {H : Heap} {locs : List Loc} {ls : Array Slot} (hμ : μ0 = μ), fX12_canHold_4 n x1 x2 x3 μ = some zr → av_R av_wm g μ s H locs → lv_has ls 5 [(0, .ref (g.2.2 98)), (1, .int x1), (2, .int x2), (3, .int x3)] → W p l e (rmN 1) s m args below meth c H locs 0 0 (MQ below (va_Qi (fun r1 u => r1 = zr ∧ u = μ0) (av_B av_wm g) (av_A av_wm g)) args s 0 0 (av_A av_wm g)) (F0 m 4 ls []) := by
  obtain ⟨hx, hb, hr, hml, hown, hts, hlocks⟩ := id E
  intro n
  induction n with
  | zero =>
    intro x1 x2 x3 μ H locs ls hμ h hR hl
    cases h
  | succ n ih =>
    intro x1 x2 x3 μ H locs ls hμ h hR hl
    unfold fX12_canHold_4 at h
    refine lv_iload_n hx hb dX12_canHold_4 rfl (lv_at hl 3 rfl) ?_
    refine lv_aload_n hx hb dX12_canHold_5 rfl (lv_at hl 0 rfl) ?_
    refine gf_X12_7 E X hR av_t98 dX12_canHold_6 av_r98_0 ?_
    refine lv_iconst (v := 3) hx hb dX12_canHold_9 rfl ?_
    obtain ⟨r10, er10, h⟩ := av_bd h
    refine av_il E X hR av_t99 er10 dX12_canHold_10 ?_
    refine lv_icmp_ge (tgt := 79) hx hb dX12_canHold_11 (by decide) (fun c11 => ?_) (fun c11 => ?_)
    · have h := av_it c11 h
      refine lv_iload_n hx hb dX12_canHold_79 rfl (lv_at hl 2 rfl) ?_
      obtain ⟨z80, ez80, h⟩ := av_bd h
      obtain ⟨rfl, hn80⟩ := av_z_e ez80
      exact av_rz E hR hn80 ⟨Option.some.inj h, hμ.symm⟩ dX12_canHold_80
    · have h := av_if c11 h
      refine lv_iload_n hx hb dX12_canHold_14 rfl (lv_at hl 1 rfl) ?_
      refine lv_aload_n hx hb dX12_canHold_15 rfl (lv_at hl 0 rfl) ?_
      refine gf_X12_7 E X hR av_t98 dX12_canHold_16 av_r98_0 ?_
      refine lv_bipush (v := 57) hx hb dX12_canHold_19 rfl ?_
      refine lv_iconst (v := 2) hx hb dX12_canHold_21 rfl ?_
      refine lv_iload_n hx hb dX12_canHold_22 rfl (lv_at hl 3 rfl) ?_
      refine lv_imul hx hb dX12_canHold_23 ?_
      refine lv_iadd hx hb dX12_canHold_24 ?_
      obtain ⟨r25, er25, h⟩ := av_bd h
      refine av_il E X hR av_t99 er25 dX12_canHold_25 ?_
      refine lv_icmp_lt (tgt := 33) hx hb dX12_canHold_26 (by decide) (fun c26 => ?_) (fun c26 => ?_)
      · have h := av_it c26 h
        refine lv_iconst (v := 0) hx hb dX12_canHold_33 rfl ?_
        exact tX12_canHold_34 E X ih hμ h hR (lv_sub hl [0, 1, 2, 3] rfl)
      · have h := av_if c26 h
        refine lv_iconst (v := 1) hx hb dX12_canHold_29 rfl ?_
        refine lv_goto (tgt := 34) hx hb dX12_canHold_30 (by decide) ?_
        exact tX12_canHold_34 E X ih hμ h hR (lv_sub hl [0, 1, 2, 3] rfl)

set_option maxHeartbeats 4000000 in
set_option maxRecDepth 100000 in
theorem CX12_canHold (l : Launch) (g : Gl) {a1 : Int32} {μ : Mem} {zr : Int32} (h : fX12_canHold a1 μ = some zr) : av_MI l yX12_canHold cX12_canHold 5 1 (some .boolean) av_wm g [.ref (g.2.2 98), .int a1] μ zr μ := by
  refine av_ent (own := RX12) (by decide) (Nat.le_of_ble_eq_true rfl) rfl (fun p e s m args below meth c E X hR ls hl => ?_)
  have hl : lv_has ls 5 [(0, .ref (g.2.2 98)), (1, .int a1)] := hl
  obtain ⟨hx, hb, hr, hml, hown, hts, hlocks⟩ := id E
  have hμ : μ = μ := rfl
  unfold fX12_canHold at h
  refine lv_iconst (v := 1) hx hb dX12_canHold_0 rfl ?_
  refine lv_istore_n (lv' := [(2, .int 1), (0, .ref (g.2.2 98)), (1, .int a1)]) hx hb dX12_canHold_1 rfl hl (by decide) rfl (fun ls hl => ?_)
  refine lv_iconst (v := 0) hx hb dX12_canHold_2 rfl ?_
  refine lv_istore_n (lv' := [(3, .int 0), (2, .int 1), (0, .ref (g.2.2 98)), (1, .int a1)]) hx hb dX12_canHold_3 rfl hl (by decide) rfl (fun ls hl => ?_)
  exact tX12_canHold_4 E X _ hμ h hR (lv_sub hl [2, 3, 1, 0] rfl)

set_option maxHeartbeats 4000000 in
set_option maxRecDepth 100000 in
theorem tX12_manyFrom_29 {p : Program} {l : Launch} {e : Env} {s : State} {m : MethodId} {args : Array Value} {below : List Frame} {meth : Method} {c : Code} {g : Gl} {zr : Int32} {μ0 : Mem} (E : av_E p s m args meth c cX12_manyFrom RX12 4 (some .int)) (X : av_X av_wm g s) {k4 : Int32 → Int32 → Int32 → Mem → Option (Int32)} (hk4 : ∀ {x1 : Int32} {x2 : Int32} {x3 : Int32} {μ : Mem} {H : Heap} {locs : List Loc} {ls : Array Slot} (hμ : μ0 = μ), k4 x1 x2 x3 μ = some zr → av_R av_wm g μ s H locs → lv_has ls 4 [(0, .ref (g.2.2 98)), (1, .int x1), (2, .int x2), (3, .int x3)] → W p l e (rmN 2) s m args below meth c H locs 0 0 (MQ below (va_Qi (fun r1 u => r1 = zr ∧ u = μ0) (av_B av_wm g) (av_A av_wm g)) args s 0 0 (av_A av_wm g)) (F0 m 4 ls [])) :
    ∀ {x1 : Int32} {x3 : Int32} {y0 : Int32} {y1 : Int32} {μ : Mem} {H : Heap} {locs : List Loc} {ls : Array Slot} (hμ : μ0 = μ), fX12_manyFrom_29 k4 x1 x3 y0 y1 μ = some zr → av_R av_wm g μ s H locs → lv_has ls 4 [(0, .ref (g.2.2 98)), (1, .int x1), (3, .int x3)] → W p l e (rmN 2) s m args below meth c H locs 0 0 (MQ below (va_Qi (fun r1 u => r1 = zr ∧ u = μ0) (av_B av_wm g) (av_A av_wm g)) args s 0 0 (av_A av_wm g)) (F0 m 29 ls [.int y1, .int y0]) := by
  obtain ⟨hx, hb, hr, hml, hown, hts, hlocks⟩ := id E
  intro x1 x3 y0 y1 μ H locs ls hμ h hR hl
  unfold fX12_manyFrom_29 at h
  refine lv_iadd hx hb dX12_manyFrom_29 ?_
  obtain ⟨x2_30, ex2_30, h⟩ := av_bd h
  replace ex2_30 := Option.some.inj ex2_30
  rw [ex2_30]
  refine lv_istore_n (lv' := [(2, .int x2_30), (0, .ref (g.2.2 98)), (1, .int x1), (3, .int x3)]) hx hb dX12_manyFrom_30 rfl hl (by decide) rfl (fun ls hl => ?_)
  obtain ⟨x3_31, ex3_31, h⟩ := av_bd h
  replace ex3_31 := Option.some.inj ex3_31
  refine lv_iinc (v := x3_31) (lv' := [(3, .int x3_31), (2, .int x2_30), (0, .ref (g.2.2 98)), (1, .int x1)]) hx hb dX12_manyFrom_31 hl (k := 3) rfl ex3_31 (by decide) rfl (fun ls hl => ?_)
  refine lv_goto (tgt := 4) hx hb dX12_manyFrom_34 (by decide) ?_
  exact hk4 hμ h hR (lv_sub hl [2, 3, 1, 0] rfl)

set_option maxHeartbeats 4000000 in
set_option maxRecDepth 100000 in
theorem tX12_manyFrom_28 {p : Program} {l : Launch} {e : Env} {s : State} {m : MethodId} {args : Array Value} {below : List Frame} {meth : Method} {c : Code} {g : Gl} {zr : Int32} {μ0 : Mem} (E : av_E p s m args meth c cX12_manyFrom RX12 4 (some .int)) (X : av_X av_wm g s) {k4 : Int32 → Int32 → Int32 → Mem → Option (Int32)} (hk4 : ∀ {x1 : Int32} {x2 : Int32} {x3 : Int32} {μ : Mem} {H : Heap} {locs : List Loc} {ls : Array Slot} (hμ : μ0 = μ), k4 x1 x2 x3 μ = some zr → av_R av_wm g μ s H locs → lv_has ls 4 [(0, .ref (g.2.2 98)), (1, .int x1), (2, .int x2), (3, .int x3)] → W p l e (rmN 2) s m args below meth c H locs 0 0 (MQ below (va_Qi (fun r1 u => r1 = zr ∧ u = μ0) (av_B av_wm g) (av_A av_wm g)) args s 0 0 (av_A av_wm g)) (F0 m 4 ls [])) :
    ∀ {x1 : Int32} {x3 : Int32} {y0 : Int32} {μ : Mem} {H : Heap} {locs : List Loc} {ls : Array Slot} (hμ : μ0 = μ), fX12_manyFrom_28 k4 x1 x3 y0 μ = some zr → av_R av_wm g μ s H locs → lv_has ls 4 [(0, .ref (g.2.2 98)), (1, .int x1), (3, .int x3)] → W p l e (rmN 2) s m args below meth c H locs 0 0 (MQ below (va_Qi (fun r1 u => r1 = zr ∧ u = μ0) (av_B av_wm g) (av_A av_wm g)) args s 0 0 (av_A av_wm g)) (F0 m 28 ls [.int y0]) := by
  obtain ⟨hx, hb, hr, hml, hown, hts, hlocks⟩ := id E
  intro x1 x3 y0 μ H locs ls hμ h hR hl
  unfold fX12_manyFrom_28 at h
  refine lv_iconst (v := 0) hx hb dX12_manyFrom_28 rfl ?_
  exact tX12_manyFrom_29 E X hk4 hμ h hR (lv_sub hl [0, 1, 2] rfl)

set_option maxHeartbeats 4000000 in
set_option maxRecDepth 100000 in
theorem tX12_manyFrom_4 {p : Program} {l : Launch} {e : Env} {s : State} {m : MethodId} {args : Array Value} {below : List Frame} {meth : Method} {c : Code} {g : Gl} {zr : Int32} {μ0 : Mem} (E : av_E p s m args meth c cX12_manyFrom RX12 4 (some .int)) (X : av_X av_wm g s) :
    ∀ (n : Nat) {x1 : Int32} {x2 : Int32} {x3 : Int32} {μ : Mem} {H : Heap} {locs : List Loc} {ls : Array Slot} (hμ : μ0 = μ), fX12_manyFrom_4 n x1 x2 x3 μ = some zr → av_R av_wm g μ s H locs → lv_has ls 4 [(0, .ref (g.2.2 98)), (1, .int x1), (2, .int x2), (3, .int x3)] → W p l e (rmN 2) s m args below meth c H locs 0 0 (MQ below (va_Qi (fun r1 u => r1 = zr ∧ u = μ0) (av_B av_wm g) (av_A av_wm g)) args s 0 0 (av_A av_wm g)) (F0 m 4 ls []) := by
  obtain ⟨hx, hb, hr, hml, hown, hts, hlocks⟩ := id E
  intro n
  induction n with
  | zero =>
    intro x1 x2 x3 μ H locs ls hμ h hR hl
    cases h
  | succ n ih =>
    intro x1 x2 x3 μ H locs ls hμ h hR hl
    unfold fX12_manyFrom_4 at h
    refine lv_iload_n hx hb dX12_manyFrom_4 rfl (lv_at hl 3 rfl) ?_
    refine lv_bipush (v := 60) hx hb dX12_manyFrom_5 rfl ?_
    refine lv_icmp_gt (tgt := 37) hx hb dX12_manyFrom_7 (by decide) (fun c7 => ?_) (fun c7 => ?_)
    · have h := av_it c7 h
      refine lv_iload_n hx hb dX12_manyFrom_37 rfl (lv_at hl 2 rfl) ?_
      exact av_ri E hR ⟨Option.some.inj h, hμ.symm⟩ dX12_manyFrom_38
    · have h := av_if c7 h
      refine lv_iload_n hx hb dX12_manyFrom_10 rfl (lv_at hl 2 rfl) ?_
      refine lv_iload_n hx hb dX12_manyFrom_11 rfl (lv_at hl 3 rfl) ?_
      refine lv_iload_n hx hb dX12_manyFrom_12 rfl (lv_at hl 1 rfl) ?_
      refine lv_icmp_lt (tgt := 28) hx hb dX12_manyFrom_13 (by decide) (fun c13 => ?_) (fun c13 => ?_)
      · have h := av_it c13 h
        exact tX12_manyFrom_28 E X ih hμ h hR (lv_sub hl [0, 1, 3] rfl)
      · have h := av_if c13 h
        refine lv_aload_n hx hb dX12_manyFrom_16 rfl (lv_at hl 0 rfl) ?_
        refine lv_iload_n hx hb dX12_manyFrom_17 rfl (lv_at hl 3 rfl) ?_
        obtain ⟨r18, er18, h⟩ := av_bd h
        refine av_goI hR (av_cV (As := [.int x3]) (rest := [.int x2]) E X hR hl.1 (CX12_canHold l g er18) kk_X12_218 (av_room (by omega) (by decide)) av_t98 (by decide) rfl rfl (Nat.le_of_ble_eq_true rfl) ⟨Nat.zero_le _, Nat.zero_le _⟩ dX12_manyFrom_18) (fun H locs hR => ?_)
        refine lv_if_eq (tgt := 28) hx hb dX12_manyFrom_21 (by decide) (fun c21 => ?_) (fun c21 => ?_)
        · have h := av_it c21 h
          exact tX12_manyFrom_28 E X ih hμ h hR (lv_sub hl [0, 1, 3] rfl)
        · have h := av_if c21 h
          refine lv_iconst (v := 1) hx hb dX12_manyFrom_24 rfl ?_
          refine lv_goto (tgt := 29) hx hb dX12_manyFrom_25 (by decide) ?_
          exact tX12_manyFrom_29 E X ih hμ h hR (lv_sub hl [0, 1, 3] rfl)

set_option maxHeartbeats 4000000 in
set_option maxRecDepth 100000 in
theorem CX12_manyFrom (l : Launch) (g : Gl) {a1 : Int32} {μ : Mem} {zr : Int32} (h : fX12_manyFrom a1 μ = some zr) : av_MI l yX12_manyFrom cX12_manyFrom 4 2 (some .int) av_wm g [.ref (g.2.2 98), .int a1] μ zr μ := by
  refine av_ent (own := RX12) (by decide) (Nat.le_of_ble_eq_true rfl) rfl (fun p e s m args below meth c E X hR ls hl => ?_)
  have hl : lv_has ls 4 [(0, .ref (g.2.2 98)), (1, .int a1)] := hl
  obtain ⟨hx, hb, hr, hml, hown, hts, hlocks⟩ := id E
  have hμ : μ = μ := rfl
  unfold fX12_manyFrom at h
  refine lv_iconst (v := 0) hx hb dX12_manyFrom_0 rfl ?_
  refine lv_istore_n (lv' := [(2, .int 0), (0, .ref (g.2.2 98)), (1, .int a1)]) hx hb dX12_manyFrom_1 rfl hl (by decide) rfl (fun ls hl => ?_)
  refine lv_iconst (v := 1) hx hb dX12_manyFrom_2 rfl ?_
  refine lv_istore_n (lv' := [(3, .int 1), (2, .int 0), (0, .ref (g.2.2 98)), (1, .int a1)]) hx hb dX12_manyFrom_3 rfl hl (by decide) rfl (fun ls hl => ?_)
  exact tX12_manyFrom_4 E X _ hμ h hR (lv_sub hl [2, 3, 1, 0] rfl)
