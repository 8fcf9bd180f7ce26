set_option maxHeartbeats 4000000 in
set_option maxRecDepth 100000 in
theorem CX1_fresh (l : Launch) (g : Gl) {μ : Mem} {zr : Nat} {zm : Mem} (h : fX1_fresh μ = some (zr, zm)) : av_MR l yX1_fresh cX1_fresh 1 3 (some (.object "AvalancheVote$Slope")) av_wc g [.ref (g.2.2 11)] μ zr zm := by
  refine av_ent (own := RX1) (by decide) (Nat.le_of_ble_eq_true rfl) rfl (fun p e s m args below meth c E X hR ls hl => ?_)
  have hl : lv_has ls 1 [(0, .ref (g.2.2 11))] := hl
  obtain ⟨hx, hb, hr, hml, hown, hts, hlocks⟩ := id E
  unfold fX1_fresh at h
  refine lv_aload_n hx hb dX1_fresh_0 rfl (lv_at hl 0 rfl) ?_
  refine gf_X1_11 E X hR av_t11 dX1_fresh_1 av_r11_2 ?_
  refine lv_iconst (v := 0) hx hb dX1_fresh_4 rfl ?_
  obtain ⟨r5, er5, h⟩ := av_bd h
  refine av_al E X hR av_t12 (by decide) (t0 := 5) rfl er5 dX1_fresh_5 ?_
  refine lv_aload_n hx hb dX1_fresh_6 rfl (lv_at hl 0 rfl) ?_
  refine gf_X1_32 E X hR av_t11 dX1_fresh_7 av_r11_1 ?_
  obtain ⟨μ10, eμ10, h⟩ := av_bd h
  refine av_goV hR (av_cV (As := [.ref (g.2.2 21)]) (rest := []) E X hR hl.1 (CX7_copyFrom l g (av_ty18 av_t12 er5) av_t21 eμ10) kk_X1_38 (av_room (by omega) (by decide)) (av_ty18 av_t12 er5) (by decide) rfl rfl (Nat.le_of_ble_eq_true rfl) ⟨Nat.zero_le _, Nat.zero_le _⟩ dX1_fresh_10) (fun H locs hR => ?_)
  refine lv_aload_n hx hb dX1_fresh_13 rfl (lv_at hl 0 rfl) ?_
  refine gf_X1_11 E X hR av_t11 dX1_fresh_14 av_r11_2 ?_
  refine lv_iconst (v := 0) hx hb dX1_fresh_17 rfl ?_
  obtain ⟨r18, er18, h⟩ := av_bd h
  refine av_al E X hR av_t12 (by decide) (t0 := 5) rfl er18 dX1_fresh_18 ?_
  exact av_rr E hR (av_r2 h) dX1_fresh_19

theorem tyX1_fresh {r : Nat} {μ μ' : Mem} (h : fX1_fresh μ = some (r, μ')) : av_t av_wc r 7 := by
  unfold fX1_fresh at h
  obtain ⟨r5, e5, h⟩ := av_bd h
  obtain ⟨m, em, h⟩ := av_bd h
  obtain ⟨r18, e18, h⟩ := av_bd h
  cases h
  exact av_ty18 av_t12 e18

set_option maxHeartbeats 4000000 in
set_option maxRecDepth 100000 in
theorem tX1_isDeepest_10 {p : Program} {l : Launch} {e : Env} {s : State} {m : MethodId} {args : Array Value} {below : List Frame} {meth : Method} {c : Code} {g : Gl} {zr : Int32} {μ0 : Mem} (E : av_E p s m args meth c cX1_isDeepest RX1 2 (some .boolean)) (X : av_X av_wc g s) :
    ∀ {μ : Mem} {H : Heap} {locs : List Loc} {ls : Array Slot} (hμ : μ0 = μ), fX1_isDeepest_10 μ = some zr → av_R av_wc g μ s H locs → lv_has ls 2 [] → W p l e (rmN 1) s m args below meth c H locs 0 0 (MQ below (va_Qi (fun r1 u => r1 = zr ∧ u = μ0) (av_B av_wc g) (av_A av_wc g)) args s 0 0 (av_A av_wc g)) (F0 m 10 ls []) := by
  obtain ⟨hx, hb, hr, hml, hown, hts, hlocks⟩ := id E
  intro μ H locs ls hμ h hR hl
  unfold fX1_isDeepest_10 at h
  refine lv_iconst (v := 1) hx hb dX1_isDeepest_10 rfl ?_
  refine lv_goto (tgt := 15) hx hb dX1_isDeepest_11 (by decide) ?_
  exact av_rz E hR rfl ⟨Option.some.inj h, hμ.symm⟩ dX1_isDeepest_15

set_option maxHeartbeats 4000000 in
set_option maxRecDepth 100000 in
theorem CX1_isDeepest (l : Launch) (g : Gl) {a1 : Int32} {μ : Mem} {zr : Int32} (h : fX1_isDeepest a1 μ = some zr) : av_MI l yX1_isDeepest cX1_isDeepest 2 1 (some .boolean) av_wc g [.ref (g.2.2 11), .int a1] μ zr μ := by
  refine av_ent (own := RX1) (by decide) (Nat.le_of_ble_eq_true rfl) rfl (fun p e s m args below meth c E X hR ls hl => ?_)
  have hl : lv_has ls 2 [(0, .ref (g.2.2 11)), (1, .int a1)] := hl
  obtain ⟨hx, hb, hr, hml, hown, hts, hlocks⟩ := id E
  have hμ : μ = μ := rfl
  unfold fX1_isDeepest at h
  refine lv_iload_n hx hb dX1_isDeepest_0 rfl (lv_at hl 1 rfl) ?_
  refine lv_if_lt (tgt := 10) hx hb dX1_isDeepest_1 (by decide) (fun c1 => ?_) (fun c1 => ?_)
  · have h := av_it c1 h
    exact tX1_isDeepest_10 E X hμ h hR (lv_sub hl [] rfl)
  · have h := av_if c1 h
    refine lv_iload_n hx hb dX1_isDeepest_4 rfl (lv_at hl 1 rfl) ?_
    refine lv_bipush (v := 6) hx hb dX1_isDeepest_5 rfl ?_
    refine lv_icmp_lt (tgt := 14) hx hb dX1_isDeepest_7 (by decide) (fun c7 => ?_) (fun c7 => ?_)
    · have h := av_it c7 h
      refine lv_iconst (v := 0) hx hb dX1_isDeepest_14 rfl ?_
      exact av_rz E hR rfl ⟨Option.some.inj h, hμ.symm⟩ dX1_isDeepest_15
    · have h := av_if c7 h
      exact tX1_isDeepest_10 E X hμ h hR (lv_sub hl [] rfl)

set_option maxHeartbeats 4000000 in
set_option maxRecDepth 100000 in
theorem tX1_afterFebruary_7 {p : Program} {l : Launch} {e : Env} {s : State} {m : MethodId} {args : Array Value} {below : List Frame} {meth : Method} {c : Code} {g : Gl} {zr : Nat} {zm : Mem} (E : av_E p s m args meth c cX1_afterFebruary RX1 3 (some (.object "AvalancheVote$Slope"))) (X : av_X av_wc g s) :
    ∀ (n : Nat) {x1 : Nat} {x2 : Int32} (hx1 : av_t av_wc x1 7) {μ : Mem} {H : Heap} {locs : List Loc} {ls : Array Slot}, fX1_afterFebruary_7 n x1 x2 μ = some (zr, zm) → av_R av_wc g μ s H locs → lv_has ls 3 [(0, .ref (g.2.2 11)), (1, .ref (g.2.2 x1)), (2, .int x2)] → W p l e (rmN 5) s m args below meth c H locs 0 0 (MQ below (va_Qr (fun u => u = zm) (fun u a t => a = g.2.2 zr ∧ av_B av_wc g u t) (av_A av_wc g)) args s 0 0 (av_A av_wc g)) (F0 m 7 ls []) := by
  obtain ⟨hx, hb, hr, hml, hown, hts, hlocks⟩ := id E
  intro n
  induction n with
  | zero =>
    intro x1 x2 hx1 μ H locs ls h hR hl
    cases h
  | succ n ih =>
    intro x1 x2 hx1 μ H locs ls h hR hl
    unfold fX1_afterFebruary_7 at h
    refine lv_iload_n hx hb dX1_afterFebruary_7 rfl (lv_at hl 2 rfl) ?_
    refine lv_aload_n hx hb dX1_afterFebruary_8 rfl (lv_at hl 0 rfl) ?_
    refine gf_X1_27 E X hR av_t11 dX1_afterFebruary_9 av_r11_0 ?_
    refine gf_X1_46 E X hR av_t15 dX1_afterFebruary_12 ?_
    refine lv_icmp_ge (tgt := 29) hx hb dX1_afterFebruary_15 (by decide) (fun c15 => ?_) (fun c15 => ?_)
    · have h := av_it c15 h
      refine lv_aload_n hx hb dX1_afterFebruary_29 rfl (lv_at hl 1 rfl) ?_
      exact av_rr E hR (av_r2 h) dX1_afterFebruary_30
    · have h := av_if c15 h
      refine lv_aload_n hx hb dX1_afterFebruary_18 rfl (lv_at hl 1 rfl) ?_
      refine lv_iload_n hx hb dX1_afterFebruary_19 rfl (lv_at hl 2 rfl) ?_
      obtain ⟨μ20, eμ20, h⟩ := av_bd h
      refine av_goV hR (av_cV (As := [.int x2]) (rest := []) E X hR hl.1 (CX7_cast l g hx1 eμ20) kk_X1_52 (av_room (by omega) (by decide)) hx1 (by decide) rfl rfl (Nat.le_of_ble_eq_true rfl) ⟨Nat.zero_le _, Nat.zero_le _⟩ dX1_afterFebruary_20) (fun H locs hR => ?_)
      obtain ⟨x2_23, ex2_23, h⟩ := av_bd h
      replace ex2_23 := Option.some.inj ex2_23
      refine lv_iinc (v := x2_23) (lv' := [(2, .int x2_23), (0, .ref (g.2.2 11)), (1, .ref (g.2.2 x1))]) hx hb dX1_afterFebruary_23 hl (k := 2) rfl ex2_23 (by decide) rfl (fun ls hl => ?_)
      refine lv_goto (tgt := 7) hx hb dX1_afterFebruary_26 (by decide) ?_
      exact ih hx1 h hR (lv_sub hl [1, 2, 0] rfl)

set_option maxHeartbeats 4000000 in
set_option maxRecDepth 100000 in
theorem CX1_afterFebruary (l : Launch) (g : Gl) {μ : Mem} {zr : Nat} {zm : Mem} (h : fX1_afterFebruary μ = some (zr, zm)) : av_MR l yX1_afterFebruary cX1_afterFebruary 3 5 (some (.object "AvalancheVote$Slope")) av_wc g [.ref (g.2.2 11)] μ zr zm := by
  refine av_ent (own := RX1) (by decide) (Nat.le_of_ble_eq_true rfl) rfl (fun p e s m args below meth c E X hR ls hl => ?_)
  have hl : lv_has ls 3 [(0, .ref (g.2.2 11))] := hl
  obtain ⟨hx, hb, hr, hml, hown, hts, hlocks⟩ := id E
  unfold fX1_afterFebruary at h
  refine lv_aload_n hx hb dX1_afterFebruary_0 rfl (lv_at hl 0 rfl) ?_
  obtain ⟨r1, μ1, er1, h⟩ := av_bd2 h
  refine av_goR hR (av_cV (As := []) (rest := []) E X hR hl.1 (CX1_fresh l g er1) kk_X1_42 (av_room (by omega) (by decide)) av_t11 (by decide) rfl rfl (Nat.le_of_ble_eq_true rfl) ⟨Nat.zero_le _, Nat.zero_le _⟩ dX1_afterFebruary_1) (fun H locs hR => ?_)
  refine lv_astore_n (lv' := [(1, .ref (g.2.2 r1)), (0, .ref (g.2.2 11))]) hx hb dX1_afterFebruary_4 rfl hl (by decide) rfl (fun ls hl => ?_)
  refine lv_iconst (v := 0) hx hb dX1_afterFebruary_5 rfl ?_
  refine lv_istore_n (lv' := [(2, .int 0), (1, .ref (g.2.2 r1)), (0, .ref (g.2.2 11))]) hx hb dX1_afterFebruary_6 rfl hl (by decide) rfl (fun ls hl => ?_)
  exact tX1_afterFebruary_7 E X _ (tyX1_fresh er1) h hR (lv_sub hl [2, 1, 0] rfl)

theorem tyX1_afterFebruary_7 {r : Nat} {μ' : Mem} : ∀ (n : Nat) (x1 : Nat) (x2 : Int32) (μ : Mem), av_t av_wc x1 7 → fX1_afterFebruary_7 n x1 x2 μ = some (r, μ') → av_t av_wc r 7
  | 0 => by
    intro x1 x2 μ _ h
    cases h
  | n + 1 => by
    intro x1 x2 μ ht h
    unfold fX1_afterFebruary_7 at h
    by_cases c : gF μ 15 4 ≤ x2
    · replace h := av_it c h
      cases h
      exact ht
    · replace h := av_if c h
      obtain ⟨m, em, h⟩ := av_bd h
      obtain ⟨y, ey, h⟩ := av_bd h
      exact tyX1_afterFebruary_7 n _ _ _ ht h
theorem tyX1_afterFebruary {r : Nat} {μ μ' : Mem} (h : fX1_afterFebruary μ = some (r, μ')) : av_t av_wc r 7 := by
  unfold fX1_afterFebruary at h
  obtain ⟨r1, m1, e1, h⟩ := av_bd2 h
  exact tyX1_afterFebruary_7 _ _ _ _ (tyX1_fresh e1) h

set_option maxHeartbeats 4000000 in
set_option maxRecDepth 100000 in
theorem tX1_fillOrder_50 {p : Program} {l : Launch} {e : Env} {s : State} {m : MethodId} {args : Array Value} {below : List Frame} {meth : Method} {c : Code} {g : Gl} {zm : Mem} (E : av_E p s m args meth c cX1_fillOrder RX1 5 none) (X : av_X av_wc g s) {k5 : Int32 → Int32 → Int32 → Mem → Option (Mem)} (hk5 : ∀ {x2 : Int32} {x3 : Int32} {x4 : Int32} {μ : Mem} {H : Heap} {locs : List Loc} {ls : Array Slot}, k5 x2 x3 x4 μ = some zm → av_R av_wc g μ s H locs → lv_has ls 5 [(0, .ref (g.2.2 11)), (2, .int x2), (3, .int x3), (4, .int x4)] → W p l e (rmN 2) s m args below meth c H locs 0 0 (MQ below (va_Qv (fun u => u = zm) (av_B av_wc g) (av_A av_wc g)) args s 0 0 (av_A av_wc g)) (F0 m 5 ls [])) :
    ∀ {x2 : Int32} {x3 : Int32} {x4 : Int32} {μ : Mem} {H : Heap} {locs : List Loc} {ls : Array Slot}, fX1_fillOrder_50 k5 x2 x3 x4 μ = some zm → av_R av_wc g μ s H locs → lv_has ls 5 [(0, .ref (g.2.2 11)), (2, .int x2), (3, .int x3), (4, .int x4)] → W p l e (rmN 2) s m args below meth c H locs 0 0 (MQ below (va_Qv (fun u => u = zm) (av_B av_wc g) (av_A av_wc g)) args s 0 0 (av_A av_wc g)) (F0 m 50 ls []) := by
  obtain ⟨hx, hb, hr, hml, hown, hts, hlocks⟩ := id E
  intro x2 x3 x4 μ H locs ls h hR hl
  unfold fX1_fillOrder_50 at h
  obtain ⟨x4_50, ex4_50, h⟩ := av_bd h
  replace ex4_50 := Option.some.inj ex4_50
  refine lv_iinc (v := x4_50) (lv' := [(4, .int x4_50), (0, .ref (g.2.2 11)), (2, .int x2), (3, .int x3)]) hx hb dX1_fillOrder_50 hl (k := 3) rfl ex4_50 (by decide) rfl (fun ls hl => ?_)
  refine lv_goto (tgt := 5) hx hb dX1_fillOrder_53 (by decide) ?_
  exact hk5 h hR (lv_sub hl [1, 2, 3, 0] rfl)

set_option maxHeartbeats 4000000 in
set_option maxRecDepth 100000 in
theorem tX1_fillOrder_5 {p : Program} {l : Launch} {e : Env} {s : State} {m : MethodId} {args : Array Value} {below : List Frame} {meth : Method} {c : Code} {g : Gl} {zm : Mem} (E : av_E p s m args meth c cX1_fillOrder RX1 5 none) (X : av_X av_wc g s) :
    ∀ (n : Nat) {x2 : Int32} {x3 : Int32} {x4 : Int32} {μ : Mem} {H : Heap} {locs : List Loc} {ls : Array Slot}, fX1_fillOrder_5 n x2 x3 x4 μ = some zm → av_R av_wc g μ s H locs → lv_has ls 5 [(0, .ref (g.2.2 11)), (2, .int x2), (3, .int x3), (4, .int x4)] → W p l e (rmN 2) s m args below meth c H locs 0 0 (MQ below (va_Qv (fun u => u = zm) (av_B av_wc g) (av_A av_wc g)) args s 0 0 (av_A av_wc g)) (F0 m 5 ls []) := by
  obtain ⟨hx, hb, hr, hml, hown, hts, hlocks⟩ := id E
  intro n
  induction n with
  | zero =>
    intro x2 x3 x4 μ H locs ls h hR hl
    cases h
  | succ n ih =>
    intro x2 x3 x4 μ H locs ls h hR hl
    unfold fX1_fillOrder_5 at h
    refine lv_iload hx hb dX1_fillOrder_5 (lv_at hl 3 rfl) ?_
    refine lv_aload_n hx hb dX1_fillOrder_7 rfl (lv_at hl 0 rfl) ?_
    refine gf_X1_27 E X hR av_t11 dX1_fillOrder_8 av_r11_0 ?_
    refine gf_X1_46 E X hR av_t15 dX1_fillOrder_11 ?_
    refine lv_icmp_ge (tgt := 56) hx hb dX1_fillOrder_14 (by decide) (fun c14 => ?_) (fun c14 => ?_)
    · have h := av_it c14 h
      exact av_rv E hR (Option.some.inj h) dX1_fillOrder_56
    · have h := av_if c14 h
      refine lv_aload_n hx hb dX1_fillOrder_17 rfl (lv_at hl 0 rfl) ?_
      refine gf_X1_56 E X hR av_t11 dX1_fillOrder_18 ?_
      refine lv_if_ne (tgt := 56) hx hb dX1_fillOrder_21 (by decide) (fun c21 => ?_) (fun c21 => ?_)
      · have h := av_if c21 h
        exact av_rv E hR (Option.some.inj h) dX1_fillOrder_56
      · have h := av_it c21 h
        refine lv_iload_n hx hb dX1_fillOrder_24 rfl (lv_at hl 1 rfl) ?_
        refine lv_iload hx hb dX1_fillOrder_25 (lv_at hl 3 rfl) ?_
        obtain ⟨r27, er27, h⟩ := av_bd h
        refine av_goI hR (av_cSN (As := [.int x2, .int x4]) (rest := []) E X hR hl.1 (CX11_hasBit l g er27) kk_X1_78 (av_room (by omega) (by decide)) rfl (Nat.le_of_ble_eq_true rfl) ⟨Nat.zero_le _, Nat.zero_le _⟩ dX1_fillOrder_27) (fun H locs hR => ?_)
        refine lv_if_ne (tgt := 50) hx hb dX1_fillOrder_30 (by decide) (fun c30 => ?_) (fun c30 => ?_)
        · have h := av_if c30 h
          exact tX1_fillOrder_50 E X ih h hR (lv_sub hl [0, 1, 2, 3] rfl)
        · have h := av_it c30 h
          refine lv_iload_n hx hb dX1_fillOrder_33 rfl (lv_at hl 2 rfl) ?_
          refine lv_bipush (v := 6) hx hb dX1_fillOrder_34 rfl ?_
          refine lv_icmp_ge (tgt := 50) hx hb dX1_fillOrder_36 (by decide) (fun c36 => ?_) (fun c36 => ?_)
          · have h := av_it c36 h
            exact tX1_fillOrder_50 E X ih h hR (lv_sub hl [0, 1, 2, 3] rfl)
          · have h := av_if c36 h
            refine lv_aload_n hx hb dX1_fillOrder_39 rfl (lv_at hl 0 rfl) ?_
            refine gf_X1_17 E X hR av_t11 dX1_fillOrder_40 av_r11_3 ?_
            refine lv_iload_n hx hb dX1_fillOrder_43 rfl (lv_at hl 2 rfl) ?_
            refine lv_iload hx hb dX1_fillOrder_44 (lv_at hl 3 rfl) ?_
            obtain ⟨μ46, eμ46, h⟩ := av_bd h
            refine av_is E X hR av_t13 eμ46 dX1_fillOrder_46 (fun H locs hR => ?_)
            obtain ⟨x3_47, ex3_47, h⟩ := av_bd h
            replace ex3_47 := Option.some.inj ex3_47
            refine lv_iinc (v := x3_47) (lv' := [(3, .int x3_47), (0, .ref (g.2.2 11)), (2, .int x2), (4, .int x4)]) hx hb dX1_fillOrder_47 hl (k := 2) rfl ex3_47 (by decide) rfl (fun ls hl => ?_)
            exact tX1_fillOrder_50 E X ih h hR (lv_sub hl [1, 2, 0, 3] rfl)

set_option maxHeartbeats 4000000 in
set_option maxRecDepth 100000 in
theorem CX1_fillOrder (l : Launch) (g : Gl) {a1 : Int32} {a2 : Int32} {μ : Mem} {zm : Mem} (h : fX1_fillOrder a1 a2 μ = some zm) : av_MV l yX1_fillOrder cX1_fillOrder 5 2 none av_wc g [.ref (g.2.2 11), .int a1, .int a2] μ zm := by
  refine av_ent (own := RX1) (by decide) (Nat.le_of_ble_eq_true rfl) rfl (fun p e s m args below meth c E X hR ls hl => ?_)
  have hl : lv_has ls 5 [(0, .ref (g.2.2 11)), (1, .int a1), (2, .int a2)] := hl
  obtain ⟨hx, hb, hr, hml, hown, hts, hlocks⟩ := id E
  unfold fX1_fillOrder at h
  refine lv_iload_n hx hb dX1_fillOrder_0 rfl (lv_at hl 1 rfl) ?_
  refine lv_istore_n (lv' := [(3, .int a1), (0, .ref (g.2.2 11)), (1, .int a1), (2, .int a2)]) hx hb dX1_fillOrder_1 rfl hl (by decide) rfl (fun ls hl => ?_)
  refine lv_iconst (v := 0) hx hb dX1_fillOrder_2 rfl ?_
  refine lv_istore (lv' := [(4, .int 0), (3, .int a1), (0, .ref (g.2.2 11)), (1, .int a1), (2, .int a2)]) hx hb dX1_fillOrder_3 hl (by decide) rfl (fun ls hl => ?_)
  exact tX1_fillOrder_5 E X _ h hR (lv_sub hl [2, 4, 1, 0] rfl)

set_option maxHeartbeats 4000000 in
set_option maxRecDepth 100000 in
theorem tX1_ordersOf_4 {p : Program} {l : Launch} {e : Env} {s : State} {m : MethodId} {args : Array Value} {below : List Frame} {meth : Method} {c : Code} {g : Gl} {zr : Int32} {μ0 : Mem} (E : av_E p s m args meth c cX1_ordersOf RX1 3 (some .int)) (X : av_X av_wc g s) :
    ∀ (n : Nat) {x0 : Int32} {x1 : Int32} {x2 : Int32} {μ : Mem} {H : Heap} {locs : List Loc} {ls : Array Slot} (hμ : μ0 = μ), fX1_ordersOf_4 n x0 x1 x2 μ = some zr → av_R av_wc g μ s H locs → lv_has ls 3 [(0, .int x0), (1, .int x1), (2, .int x2)] → W p l e (rmN 1) s m args below meth c H locs 0 0 (MQ below (va_Qi (fun r1 u => r1 = zr ∧ u = μ0) (av_B av_wc g) (av_A av_wc g)) args s 0 0 (av_A av_wc g)) (F0 m 4 ls []) := by
  obtain ⟨hx, hb, hr, hml, hown, hts, hlocks⟩ := id E
  intro n
  induction n with
  | zero =>
    intro x0 x1 x2 μ H locs ls hμ h hR hl
    cases h
  | succ n ih =>
    intro x0 x1 x2 μ H locs ls hμ h hR hl
    unfold fX1_ordersOf_4 at h
    refine lv_iload_n hx hb dX1_ordersOf_4 rfl (lv_at hl 2 rfl) ?_
    refine lv_iload_n hx hb dX1_ordersOf_5 rfl (lv_at hl 0 rfl) ?_
    refine lv_icmp_gt (tgt := 19) hx hb dX1_ordersOf_6 (by decide) (fun c6 => ?_) (fun c6 => ?_)
    · have h := av_it c6 h
      refine lv_iload_n hx hb dX1_ordersOf_19 rfl (lv_at hl 1 rfl) ?_
      exact av_ri E hR ⟨Option.some.inj h, hμ.symm⟩ dX1_ordersOf_20
    · have h := av_if c6 h
      refine lv_iload_n hx hb dX1_ordersOf_9 rfl (lv_at hl 1 rfl) ?_
      refine lv_iload_n hx hb dX1_ordersOf_10 rfl (lv_at hl 2 rfl) ?_
      refine lv_imul hx hb dX1_ordersOf_11 ?_
      obtain ⟨x1_12, ex1_12, h⟩ := av_bd h
      replace ex1_12 := Option.some.inj ex1_12
      rw [ex1_12]
      refine lv_istore_n (lv' := [(1, .int x1_12), (0, .int x0), (2, .int x2)]) hx hb dX1_ordersOf_12 rfl hl (by decide) rfl (fun ls hl => ?_)
      obtain ⟨x2_13, ex2_13, h⟩ := av_bd h
      replace ex2_13 := Option.some.inj ex2_13
      refine lv_iinc (v := x2_13) (lv' := [(2, .int x2_13), (1, .int x1_12), (0, .int x0)]) hx hb dX1_ordersOf_13 hl (k := 2) rfl ex2_13 (by decide) rfl (fun ls hl => ?_)
      refine lv_goto (tgt := 4) hx hb dX1_ordersOf_16 (by decide) ?_
      exact ih hμ h hR (lv_sub hl [2, 1, 0] rfl)

set_option maxHeartbeats 4000000 in
set_option maxRecDepth 100000 in
theorem CX1_ordersOf (l : Launch) (g : Gl) {a0 : Int32} {μ : Mem} {zr : Int32} (h : fX1_ordersOf a0 μ = some zr) : av_MI l yX1_ordersOf cX1_ordersOf 3 1 (some .int) av_wc g [.int a0] μ zr μ := by
  refine av_ent (own := RX1) (by decide) (Nat.le_of_ble_eq_true rfl) rfl (fun p e s m args below meth c E X hR ls hl => ?_)
  have hl : lv_has ls 3 [(0, .int a0)] := hl
  obtain ⟨hx, hb, hr, hml, hown, hts, hlocks⟩ := id E
  have hμ : μ = μ := rfl
  unfold fX1_ordersOf at h
  refine lv_iconst (v := 1) hx hb dX1_ordersOf_0 rfl ?_
  refine lv_istore_n (lv' := [(1, .int 1), (0, .int a0)]) hx hb dX1_ordersOf_1 rfl hl (by decide) rfl (fun ls hl => ?_)
  refine lv_iconst (v := 2) hx hb dX1_ordersOf_2 rfl ?_
  refine lv_istore_n (lv' := [(2, .int 2), (1, .int 1), (0, .int a0)]) hx hb dX1_ordersOf_3 rfl hl (by decide) rfl (fun ls hl => ?_)
  exact tX1_ordersOf_4 E X _ hμ h hR (lv_sub hl [2, 1, 0] rfl)

set_option maxHeartbeats 4000000 in
set_option maxRecDepth 100000 in
theorem tX1_countOrders_154 {p : Program} {l : Launch} {e : Env} {s : State} {m : MethodId} {args : Array Value} {below : List Frame} {meth : Method} {c : Code} {g : Gl} {K : Nat} (hK : 5 ≤ K) {self : Int32 → Int32 → Int32 → Mem → Option (Mem)} {zm : Mem} (hself : ∀ {a1 : Int32} {a2 : Int32} {a3 : Int32} {μ : Mem} {zm : Mem}, self a1 a2 a3 μ = some zm → av_MV l yX1_countOrders cX1_countOrders 6 K none av_wc g [.ref (g.2.2 11), .int a1, .int a2, .int a3] μ zm) (E : av_E p s m args meth c cX1_countOrders RX1 6 none) (X : av_X av_wc g s) {k74 : Int32 → Int32 → Int32 → Int32 → Mem → Option (Mem)} (hk74 : ∀ {x1 : Int32} {x2 : Int32} {x3 : Int32} {x5 : Int32} {μ : Mem} {H : Heap} {locs : List Loc} {ls : Array Slot}, k74 x1 x2 x3 x5 μ = some zm → av_R av_wc g μ s H locs → lv_has ls 6 [(0, .ref (g.2.2 11)), (1, .int x1), (2, .int x2), (3, .int x3), (5, .int x5)] → W p l e (rmN (K + 2)) s m args below meth c H locs 0 0 (MQ below (va_Qv (fun u => u = zm) (av_B av_wc g) (av_A av_wc g)) args s 0 0 (av_A av_wc g)) (F0 m 74 ls [])) :
    ∀ {x1 : Int32} {x2 : Int32} {x3 : Int32} {x5 : Int32} {μ : Mem} {H : Heap} {locs : List Loc} {ls : Array Slot}, fX1_countOrders_154 self k74 x1 x2 x3 x5 μ = some zm → av_R av_wc g μ s H locs → lv_has ls 6 [(0, .ref (g.2.2 11)), (1, .int x1), (2, .int x2), (3, .int x3), (5, .int x5)] → W p l e (rmN (K + 2)) s m args below meth c H locs 0 0 (MQ below (va_Qv (fun u => u = zm) (av_B av_wc g) (av_A av_wc g)) args s 0 0 (av_A av_wc g)) (F0 m 154 ls []) := by
  obtain ⟨hx, hb, hr, hml, hown, hts, hlocks⟩ := id E
  intro x1 x2 x3 x5 μ H locs ls h hR hl
  unfold fX1_countOrders_154 at h
  obtain ⟨x5_154, ex5_154, h⟩ := av_bd h
  replace ex5_154 := Option.some.inj ex5_154
  refine lv_iinc (v := x5_154) (lv' := [(5, .int x5_154), (0, .ref (g.2.2 11)), (1, .int x1), (2, .int x2), (3, .int x3)]) hx hb dX1_countOrders_154 hl (k := 4) rfl ex5_154 (by decide) rfl (fun ls hl => ?_)
  refine lv_goto (tgt := 74) hx hb dX1_countOrders_157 (by decide) ?_
  exact hk74 h hR (lv_sub hl [1, 2, 3, 4, 0] rfl)

set_option maxHeartbeats 4000000 in
set_option maxRecDepth 100000 in
theorem tX1_countOrders_110 {p : Program} {l : Launch} {e : Env} {s : State} {m : MethodId} {args : Array Value} {below : List Frame} {meth : Method} {c : Code} {g : Gl} {K : Nat} (hK : 5 ≤ K) {self : Int32 → Int32 → Int32 → Mem → Option (Mem)} {zm : Mem} (hself : ∀ {a1 : Int32} {a2 : Int32} {a3 : Int32} {μ : Mem} {zm : Mem}, self a1 a2 a3 μ = some zm → av_MV l yX1_countOrders cX1_countOrders 6 K none av_wc g [.ref (g.2.2 11), .int a1, .int a2, .int a3] μ zm) (E : av_E p s m args meth c cX1_countOrders RX1 6 none) (X : av_X av_wc g s) {k74 : Int32 → Int32 → Int32 → Int32 → Mem → Option (Mem)} (hk74 : ∀ {x1 : Int32} {x2 : Int32} {x3 : Int32} {x5 : Int32} {μ : Mem} {H : Heap} {locs : List Loc} {ls : Array Slot}, k74 x1 x2 x3 x5 μ = some zm → av_R av_wc g μ s H locs → lv_has ls 6 [(0, .ref (g.2.2 11)), (1, .int x1), (2, .int x2), (3, .int x3), (5, .int x5)] → W p l e (rmN (K + 2)) s m args below meth c H locs 0 0 (MQ below (va_Qv (fun u => u = zm) (av_B av_wc g) (av_A av_wc g)) args s 0 0 (av_A av_wc g)) (F0 m 74 ls [])) :
    ∀ {x1 : Int32} {x2 : Int32} {x3 : Int32} {x5 : Int32} {μ : Mem} {H : Heap} {locs : List Loc} {ls : Array Slot}, fX1_countOrders_110 self k74 x1 x2 x3 x5 μ = some zm → av_R av_wc g μ s H locs → lv_has ls 6 [(0, .ref (g.2.2 11)), (1, .int x1), (2, .int x2), (3, .int x3), (5, .int x5)] → W p l e (rmN (K + 2)) s m args below meth c H locs 0 0 (MQ below (va_Qv (fun u => u = zm) (av_B av_wc g) (av_A av_wc g)) args s 0 0 (av_A av_wc g)) (F0 m 110 ls []) := by
  obtain ⟨hx, hb, hr, hml, hown, hts, hlocks⟩ := id E
  intro x1 x2 x3 x5 μ H locs ls h hR hl
  unfold fX1_countOrders_110 at h
  refine lv_aload_n hx hb dX1_countOrders_110 rfl (lv_at hl 0 rfl) ?_
  refine gf_X1_11 E X hR av_t11 dX1_countOrders_111 av_r11_2 ?_
  refine lv_iload_n hx hb dX1_countOrders_114 rfl (lv_at hl 1 rfl) ?_
  refine lv_iconst (v := 1) hx hb dX1_countOrders_115 rfl ?_
  refine lv_iadd hx hb dX1_countOrders_116 ?_
  obtain ⟨r117, er117, h⟩ := av_bd h
  refine av_al E X hR av_t12 (by decide) (t0 := 5) rfl er117 dX1_countOrders_117 ?_
  refine lv_aload_n hx hb dX1_countOrders_118 rfl (lv_at hl 0 rfl) ?_
  refine gf_X1_11 E X hR av_t11 dX1_countOrders_119 av_r11_2 ?_
  refine lv_iload_n hx hb dX1_countOrders_122 rfl (lv_at hl 1 rfl) ?_
  obtain ⟨r123, er123, h⟩ := av_bd h
  refine av_al E X hR av_t12 (by decide) (t0 := 5) rfl er123 dX1_countOrders_123 ?_
  obtain ⟨μ124, eμ124, h⟩ := av_bd h
  refine av_goV hR (av_cV (As := [.ref (g.2.2 r123)]) (rest := []) E X hR hl.1 (CX7_copyFrom l g (av_ty18 av_t12 er117) (av_ty18 av_t12 er123) eμ124) kk_X1_38 (av_room (by omega) (by decide)) (av_ty18 av_t12 er117) (by decide) rfl rfl (Nat.le_of_ble_eq_true rfl) ⟨Nat.zero_le _, Nat.zero_le _⟩ dX1_countOrders_124) (fun H locs hR => ?_)
  refine lv_aload_n hx hb dX1_countOrders_127 rfl (lv_at hl 0 rfl) ?_
  refine gf_X1_11 E X hR av_t11 dX1_countOrders_128 av_r11_2 ?_
  refine lv_iload_n hx hb dX1_countOrders_131 rfl (lv_at hl 1 rfl) ?_
  refine lv_iconst (v := 1) hx hb dX1_countOrders_132 rfl ?_
  refine lv_iadd hx hb dX1_countOrders_133 ?_
  obtain ⟨r134, er134, h⟩ := av_bd h
  refine av_al E X hR av_t12 (by decide) (t0 := 5) rfl er134 dX1_countOrders_134 ?_
  refine lv_iload hx hb dX1_countOrders_135 (lv_at hl 4 rfl) ?_
  obtain ⟨μ137, eμ137, h⟩ := av_bd h
  refine av_goV hR (av_cV (As := [.int x5]) (rest := []) E X hR hl.1 (CX7_cast l g (av_ty18 av_t12 er134) eμ137) kk_X1_52 (av_room (by omega) (by decide)) (av_ty18 av_t12 er134) (by decide) rfl rfl (Nat.le_of_ble_eq_true rfl) ⟨Nat.zero_le _, Nat.zero_le _⟩ dX1_countOrders_137) (fun H locs hR => ?_)
  refine lv_aload_n hx hb dX1_countOrders_140 rfl (lv_at hl 0 rfl) ?_
  refine lv_iload_n hx hb dX1_countOrders_141 rfl (lv_at hl 1 rfl) ?_
  refine lv_iconst (v := 1) hx hb dX1_countOrders_142 rfl ?_
  refine lv_iadd hx hb dX1_countOrders_143 ?_
  refine lv_iload_n hx hb dX1_countOrders_144 rfl (lv_at hl 2 rfl) ?_
  refine lv_iload_n hx hb dX1_countOrders_145 rfl (lv_at hl 3 rfl) ?_
  refine lv_iconst (v := 1) hx hb dX1_countOrders_146 rfl ?_
  refine lv_iload hx hb dX1_countOrders_147 (lv_at hl 4 rfl) ?_
  refine lv_ishl hx hb dX1_countOrders_149 ?_
  refine lv_ior hx hb dX1_countOrders_150 ?_
  obtain ⟨μ151, eμ151, h⟩ := av_bd h
  refine av_goV hR (av_cV (As := [.int (x1 + 1), .int x2, .int (x3 ||| (1 <<< (x5 &&& 31)))]) (rest := []) E X hR hl.1 (hself eμ151) kk_X1_59 (av_room (by omega) (by decide)) av_t11 (by decide) rfl rfl (Nat.le_of_ble_eq_true rfl) ⟨Nat.zero_le _, Nat.zero_le _⟩ dX1_countOrders_151) (fun H locs hR => ?_)
  exact tX1_countOrders_154 hK hself E X hk74 h hR (lv_sub hl [0, 1, 2, 3, 4] rfl)

set_option maxHeartbeats 4000000 in
set_option maxRecDepth 100000 in
theorem tX1_countOrders_74 {p : Program} {l : Launch} {e : Env} {s : State} {m : MethodId} {args : Array Value} {below : List Frame} {meth : Method} {c : Code} {g : Gl} {K : Nat} (hK : 5 ≤ K) {self : Int32 → Int32 → Int32 → Mem → Option (Mem)} {zm : Mem} (hself : ∀ {a1 : Int32} {a2 : Int32} {a3 : Int32} {μ : Mem} {zm : Mem}, self a1 a2 a3 μ = some zm → av_MV l yX1_countOrders cX1_countOrders 6 K none av_wc g [.ref (g.2.2 11), .int a1, .int a2, .int a3] μ zm) (E : av_E p s m args meth c cX1_countOrders RX1 6 none) (X : av_X av_wc g s) :
    ∀ (n : Nat) {x1 : Int32} {x2 : Int32} {x3 : Int32} {x5 : Int32} {μ : Mem} {H : Heap} {locs : List Loc} {ls : Array Slot}, fX1_countOrders_74 self n x1 x2 x3 x5 μ = some zm → av_R av_wc g μ s H locs → lv_has ls 6 [(0, .ref (g.2.2 11)), (1, .int x1), (2, .int x2), (3, .int x3), (5, .int x5)] → W p l e (rmN (K + 2)) s m args below meth c H locs 0 0 (MQ below (va_Qv (fun u => u = zm) (av_B av_wc g) (av_A av_wc g)) args s 0 0 (av_A av_wc g)) (F0 m 74 ls []) := by
  obtain ⟨hx, hb, hr, hml, hown, hts, hlocks⟩ := id E
  intro n
  induction n with
  | zero =>
    intro x1 x2 x3 x5 μ H locs ls h hR hl
    cases h
  | succ n ih =>
    intro x1 x2 x3 x5 μ H locs ls h hR hl
    unfold fX1_countOrders_74 at h
    refine lv_iload hx hb dX1_countOrders_74 (lv_at hl 4 rfl) ?_
    refine lv_aload_n hx hb dX1_countOrders_76 rfl (lv_at hl 0 rfl) ?_
    refine gf_X1_27 E X hR av_t11 dX1_countOrders_77 av_r11_0 ?_
    refine gf_X1_46 E X hR av_t15 dX1_countOrders_80 ?_
    refine lv_icmp_ge (tgt := 160) hx hb dX1_countOrders_83 (by decide) (fun c83 => ?_) (fun c83 => ?_)
    · have h := av_it c83 h
      exact av_rv E hR (Option.some.inj h) dX1_countOrders_160
    · have h := av_if c83 h
      refine lv_iload_n hx hb dX1_countOrders_86 rfl (lv_at hl 3 rfl) ?_
      refine lv_iload hx hb dX1_countOrders_87 (lv_at hl 4 rfl) ?_
      obtain ⟨r89, er89, h⟩ := av_bd h
      refine av_goI hR (av_cSN (As := [.int x3, .int x5]) (rest := []) E X hR hl.1 (CX11_hasBit l g er89) kk_X1_78 (av_room (by omega) (by decide)) rfl (Nat.le_of_ble_eq_true rfl) ⟨Nat.zero_le _, Nat.zero_le _⟩ dX1_countOrders_89) (fun H locs hR => ?_)
      refine lv_if_ne (tgt := 154) hx hb dX1_countOrders_92 (by decide) (fun c92 => ?_) (fun c92 => ?_)
      · have h := av_if c92 h
        exact tX1_countOrders_154 hK hself E X ih h hR (lv_sub hl [0, 1, 2, 3, 4] rfl)
      · have h := av_it c92 h
        refine lv_aload_n hx hb dX1_countOrders_95 rfl (lv_at hl 0 rfl) ?_
        refine gf_X1_56 E X hR av_t11 dX1_countOrders_96 ?_
        refine lv_if_ne (tgt := 110) hx hb dX1_countOrders_99 (by decide) (fun c99 => ?_) (fun c99 => ?_)
        · have h := av_if c99 h
          exact tX1_countOrders_110 hK hself E X ih h hR (lv_sub hl [0, 1, 2, 3, 4] rfl)
        · have h := av_it c99 h
          refine lv_aload_n hx hb dX1_countOrders_102 rfl (lv_at hl 0 rfl) ?_
          refine gf_X1_17 E X hR av_t11 dX1_countOrders_103 av_r11_3 ?_
          refine lv_iload_n hx hb dX1_countOrders_106 rfl (lv_at hl 1 rfl) ?_
          refine lv_iload hx hb dX1_countOrders_107 (lv_at hl 4 rfl) ?_
          obtain ⟨μ109, eμ109, h⟩ := av_bd h
          refine av_is E X hR av_t13 eμ109 dX1_countOrders_109 (fun H locs hR => ?_)
          exact tX1_countOrders_110 hK hself E X ih h hR (lv_sub hl [0, 1, 2, 3, 4] rfl)

set_option maxHeartbeats 4000000 in
set_option maxRecDepth 100000 in
theorem tX1_countOrders_37 {p : Program} {l : Launch} {e : Env} {s : State} {m : MethodId} {args : Array Value} {below : List Frame} {meth : Method} {c : Code} {g : Gl} {K : Nat} (hK : 5 ≤ K) {self : Int32 → Int32 → Int32 → Mem → Option (Mem)} {zm : Mem} (hself : ∀ {a1 : Int32} {a2 : Int32} {a3 : Int32} {μ : Mem} {zm : Mem}, self a1 a2 a3 μ = some zm → av_MV l yX1_countOrders cX1_countOrders 6 K none av_wc g [.ref (g.2.2 11), .int a1, .int a2, .int a3] μ zm) (E : av_E p s m args meth c cX1_countOrders RX1 6 none) (X : av_X av_wc g s) :
    ∀ {x1 : Int32} {x2 : Int32} {x3 : Int32} {x4 : Int32} {μ : Mem} {H : Heap} {locs : List Loc} {ls : Array Slot}, fX1_countOrders_37 self x1 x2 x3 x4 μ = some zm → av_R av_wc g μ s H locs → lv_has ls 6 [(0, .ref (g.2.2 11)), (1, .int x1), (2, .int x2), (3, .int x3), (4, .int x4)] → W p l e (rmN (K + 2)) s m args below meth c H locs 0 0 (MQ below (va_Qv (fun u => u = zm) (av_B av_wc g) (av_A av_wc g)) args s 0 0 (av_A av_wc g)) (F0 m 37 ls []) := by
  obtain ⟨hx, hb, hr, hml, hown, hts, hlocks⟩ := id E
  intro x1 x2 x3 x4 μ H locs ls h hR hl
  unfold fX1_countOrders_37 at h
  refine lv_aload_n hx hb dX1_countOrders_37 rfl (lv_at hl 0 rfl) ?_
  refine gf_X1_11 E X hR av_t11 dX1_countOrders_38 av_r11_2 ?_
  refine lv_iload_n hx hb dX1_countOrders_41 rfl (lv_at hl 1 rfl) ?_
  obtain ⟨r42, er42, h⟩ := av_bd h
  refine av_al E X hR av_t12 (by decide) (t0 := 5) rfl er42 dX1_countOrders_42 ?_
  refine gf_X1_63 E X hR (av_ty18 av_t12 er42) dX1_countOrders_43 ?_
  refine lv_iload_n hx hb dX1_countOrders_46 rfl (lv_at hl 2 rfl) ?_
  refine lv_icmp_ne (tgt := 70) hx hb dX1_countOrders_47 (by decide) (fun c47 => ?_) (fun c47 => ?_)
  · have h := av_if c47 h
    exact av_rv E hR (Option.some.inj h) dX1_countOrders_70
  · have h := av_it c47 h
    refine lv_aload_n hx hb dX1_countOrders_50 rfl (lv_at hl 0 rfl) ?_
    refine lv_iload_n hx hb dX1_countOrders_51 rfl (lv_at hl 1 rfl) ?_
    refine lv_iload_n hx hb dX1_countOrders_52 rfl (lv_at hl 3 rfl) ?_
    obtain ⟨μ53, eμ53, h⟩ := av_bd h
    refine av_goV hR (av_cV (As := [.int x1, .int x3]) (rest := []) E X hR hl.1 (CX1_fillOrder l g eμ53) kk_X1_70 (av_room (by omega) (by decide)) av_t11 (by decide) rfl rfl (Nat.le_of_ble_eq_true rfl) ⟨Nat.zero_le _, Nat.zero_le _⟩ dX1_countOrders_53) (fun H locs hR => ?_)
    refine lv_aload_n hx hb dX1_countOrders_56 rfl (lv_at hl 0 rfl) ?_
    refine lv_dup hx hb dX1_countOrders_57 rfl ?_
    refine gf_X1_56 E X hR av_t11 dX1_countOrders_58 ?_
    refine lv_iload hx hb dX1_countOrders_61 (lv_at hl 4 rfl) ?_
    obtain ⟨r63, er63, h⟩ := av_bd h
    refine av_goI hR (av_cS (As := [.int x4]) (rest := [.int (gF μ53 11 4), .ref (g.2.2 11)]) E X hR hl.1 (CX1_ordersOf l g er63) kk_X1_74 (av_room (by omega) (by decide)) rfl (Nat.le_of_ble_eq_true rfl) ⟨Nat.zero_le _, Nat.zero_le _⟩ dX1_countOrders_63) (fun H locs hR => ?_)
    refine lv_iadd hx hb dX1_countOrders_66 ?_
    obtain ⟨μ67, eμ67, h⟩ := av_bd h
    replace eμ67 := Option.some.inj eμ67
    refine pf_X1_56 E X hR av_t11 dX1_countOrders_67 eμ67 (fun H locs hR => ?_)
    exact av_rv E hR (Option.some.inj h) dX1_countOrders_70

set_option maxHeartbeats 4000000 in
set_option maxRecDepth 100000 in
theorem CX1_countOrders_b {K : Nat} (hK : 5 ≤ K) (l : Launch) (g : Gl) {self : Int32 → Int32 → Int32 → Mem → Option (Mem)} (hself : ∀ {a1 : Int32} {a2 : Int32} {a3 : Int32} {μ : Mem} {zm : Mem}, self a1 a2 a3 μ = some zm → av_MV l yX1_countOrders cX1_countOrders 6 K none av_wc g [.ref (g.2.2 11), .int a1, .int a2, .int a3] μ zm) {a1 : Int32} {a2 : Int32} {a3 : Int32} {μ : Mem} {zm : Mem} (h : fX1_countOrders_b self a1 a2 a3 μ = some zm) : av_MV l yX1_countOrders cX1_countOrders 6 (K + 2) none av_wc g [.ref (g.2.2 11), .int a1, .int a2, .int a3] μ zm := by
  refine av_ent (own := RX1) (by decide) (Nat.le_of_ble_eq_true rfl) rfl (fun p e s m args below meth c E X hR ls hl => ?_)
  have hl : lv_has ls 6 [(0, .ref (g.2.2 11)), (1, .int a1), (2, .int a2), (3, .int a3)] := hl
  obtain ⟨hx, hb, hr, hml, hown, hts, hlocks⟩ := id E
  unfold fX1_countOrders_b at h
  refine lv_aload_n hx hb dX1_countOrders_0 rfl (lv_at hl 0 rfl) ?_
  refine gf_X1_27 E X hR av_t11 dX1_countOrders_1 av_r11_0 ?_
  refine gf_X1_46 E X hR av_t15 dX1_countOrders_4 ?_
  refine lv_iload_n hx hb dX1_countOrders_7 rfl (lv_at hl 1 rfl) ?_
  refine lv_isub hx hb dX1_countOrders_8 ?_
  obtain ⟨x4_9, ex4_9, h⟩ := av_bd h
  replace ex4_9 := Option.some.inj ex4_9
  rw [ex4_9]
  refine lv_istore (lv' := [(4, .int x4_9), (0, .ref (g.2.2 11)), (1, .int a1), (2, .int a2), (3, .int a3)]) hx hb dX1_countOrders_9 hl (by decide) rfl (fun ls hl => ?_)
  refine lv_aload_n hx hb dX1_countOrders_11 rfl (lv_at hl 1 rfl) ?_
  refine gf_X1_11 E X hR av_t11 dX1_countOrders_12 av_r11_2 ?_
  refine lv_iload_n hx hb dX1_countOrders_15 rfl (lv_at hl 2 rfl) ?_
  obtain ⟨r16, er16, h⟩ := av_bd h
  refine av_al E X hR av_t12 (by decide) (t0 := 5) rfl er16 dX1_countOrders_16 ?_
  refine gf_X1_63 E X hR (av_ty18 av_t12 er16) dX1_countOrders_17 ?_
  refine lv_iconst (v := (-1)) hx hb dX1_countOrders_20 rfl ?_
  refine lv_icmp_ne (tgt := 37) hx hb dX1_countOrders_21 (by decide) (fun c21 => ?_) (fun c21 => ?_)
  · have h := av_if c21 h
    exact tX1_countOrders_37 hK hself E X h hR (lv_sub hl [1, 2, 3, 4, 0] rfl)
  · have h := av_it c21 h
    refine lv_iload hx hb dX1_countOrders_24 (lv_at hl 0 rfl) ?_
    refine lv_if_le (tgt := 37) hx hb dX1_countOrders_26 (by decide) (fun c26 => ?_) (fun c26 => ?_)
    · have h := av_it c26 h
      exact tX1_countOrders_37 hK hself E X h hR (lv_sub hl [1, 2, 3, 4, 0] rfl)
    · have h := av_if c26 h
      refine lv_aload_n hx hb dX1_countOrders_29 rfl (lv_at hl 1 rfl) ?_
      refine lv_iload_n hx hb dX1_countOrders_30 rfl (lv_at hl 2 rfl) ?_
      obtain ⟨r31, er31, h⟩ := av_bd h
      refine av_goI hR (av_cV (As := [.int a1]) (rest := []) E X hR hl.1 (CX1_isDeepest l g er31) kk_X1_66 (av_room (by omega) (by decide)) av_t11 (by decide) rfl rfl (Nat.le_of_ble_eq_true rfl) ⟨Nat.zero_le _, Nat.zero_le _⟩ dX1_countOrders_31) (fun H locs hR => ?_)
      refine lv_if_eq (tgt := 71) hx hb dX1_countOrders_34 (by decide) (fun c34 => ?_) (fun c34 => ?_)
      · have h := av_it c34 h
        refine lv_iconst (v := 0) hx hb dX1_countOrders_71 rfl ?_
        refine lv_istore (lv' := [(5, .int 0), (4, .int x4_9), (0, .ref (g.2.2 11)), (1, .int a1), (2, .int a2), (3, .int a3)]) hx hb dX1_countOrders_72 hl (by decide) rfl (fun ls hl => ?_)
        exact tX1_countOrders_74 hK hself E X _ h hR (lv_sub hl [2, 3, 4, 5, 0] rfl)
      · have h := av_if c34 h
        exact tX1_countOrders_37 hK hself E X h hR (lv_sub hl [1, 2, 3, 4, 0] rfl)

theorem CX1_countOrders_d (l : Launch) (g : Gl) : ∀ (d : Nat) {a1 : Int32} {a2 : Int32} {a3 : Int32} {μ : Mem} {zm : Mem}, fX1_countOrders d a1 a2 a3 μ = some zm → av_MV l yX1_countOrders cX1_countOrders 6 (5 + 2 * d) none av_wc g [.ref (g.2.2 11), .int a1, .int a2, .int a3] μ zm
  | 0 => by
    intro  h
    cases h
  | d + 1 => by
    intro  h
    exact CX1_countOrders_b (K := 5 + 2 * d) (by omega) l g (CX1_countOrders_d l g d) h
theorem CX1_countOrders (l : Launch) (g : Gl) {a1 : Int32} {a2 : Int32} {a3 : Int32} {μ : Mem} {zm : Mem} (h : fX1_countOrders 8 a1 a2 a3 μ = some zm) : av_MV l yX1_countOrders cX1_countOrders 6 21 none av_wc g [.ref (g.2.2 11), .int a1, .int a2, .int a3] μ zm := CX1_countOrders_d l g 8 h

set_option maxHeartbeats 4000000 in
set_option maxRecDepth 100000 in
theorem CX1_ordersWon (l : Launch) (g : Gl) {a1 : Int32} {μ : Mem} {zr : Int32} {zm : Mem} (h : fX1_ordersWon a1 μ = some (zr, zm)) : av_MI l yX1_ordersWon cX1_ordersWon 2 22 (some .int) av_wc g [.ref (g.2.2 11), .int a1] μ zr zm := by
  refine av_ent (own := RX1) (by decide) (Nat.le_of_ble_eq_true rfl) rfl (fun p e s m args below meth c E X hR ls hl => ?_)
  have hl : lv_has ls 2 [(0, .ref (g.2.2 11)), (1, .int a1)] := hl
  obtain ⟨hx, hb, hr, hml, hown, hts, hlocks⟩ := id E
  unfold fX1_ordersWon at h
  refine lv_aload_n hx hb dX1_ordersWon_0 rfl (lv_at hl 0 rfl) ?_
  obtain ⟨r1, μ1, er1, h⟩ := av_bd2 h
  refine av_goR hR (av_cV (As := []) (rest := []) E X hR hl.1 (CX1_fresh l g er1) kk_X1_42 (av_room (by omega) (by decide)) av_t11 (by decide) rfl rfl (Nat.le_of_ble_eq_true rfl) ⟨Nat.zero_le _, Nat.zero_le _⟩ dX1_ordersWon_1) (fun H locs hR => ?_)
  refine lv_pop hx hb dX1_ordersWon_4 rfl ?_
  refine lv_aload_n hx hb dX1_ordersWon_5 rfl (lv_at hl 0 rfl) ?_
  refine lv_iconst (v := 0) hx hb dX1_ordersWon_6 rfl ?_
  obtain ⟨μ7, eμ7, h⟩ := av_bd h
  replace eμ7 := Option.some.inj eμ7
  refine pf_X1_56 E X hR av_t11 dX1_ordersWon_7 eμ7 (fun H locs hR => ?_)
  refine lv_aload_n hx hb dX1_ordersWon_10 rfl (lv_at hl 0 rfl) ?_
  refine lv_iconst (v := 0) hx hb dX1_ordersWon_11 rfl ?_
  refine lv_iload_n hx hb dX1_ordersWon_12 rfl (lv_at hl 1 rfl) ?_
  refine lv_iconst (v := 0) hx hb dX1_ordersWon_13 rfl ?_
  obtain ⟨μ14, eμ14, h⟩ := av_bd h
  refine av_goV hR (av_cV (As := [.int 0, .int a1, .int 0]) (rest := []) E X hR hl.1 (CX1_countOrders l g eμ14) kk_X1_59 (av_room (by omega) (by decide)) av_t11 (by decide) rfl rfl (Nat.le_of_ble_eq_true rfl) ⟨Nat.zero_le _, Nat.zero_le _⟩ dX1_ordersWon_14) (fun H locs hR => ?_)
  refine lv_aload_n hx hb dX1_ordersWon_17 rfl (lv_at hl 0 rfl) ?_
  refine gf_X1_56 E X hR av_t11 dX1_ordersWon_18 ?_
  exact av_ri E hR (av_r2 h) dX1_ordersWon_21

set_option maxHeartbeats 4000000 in
set_option maxRecDepth 100000 in
theorem CX1_afterStone (l : Launch) (g : Gl) {a1 : Int32} {a2 : Int32} {μ : Mem} {zr : Nat} {zm : Mem} (h : fX1_afterStone a1 a2 μ = some (zr, zm)) : av_MR l yX1_afterStone cX1_afterStone 4 4 (some (.object "AvalancheVote$Slope")) av_wc g [.ref (g.2.2 11), .int a1, .int a2] μ zr zm := by
  refine av_ent (own := RX1) (by decide) (Nat.le_of_ble_eq_true rfl) rfl (fun p e s m args below meth c E X hR ls hl => ?_)
  have hl : lv_has ls 4 [(0, .ref (g.2.2 11)), (1, .int a1), (2, .int a2)] := hl
  obtain ⟨hx, hb, hr, hml, hown, hts, hlocks⟩ := id E
  unfold fX1_afterStone at h
  refine lv_aload_n hx hb dX1_afterStone_0 rfl (lv_at hl 0 rfl) ?_
  refine gf_X1_11 E X hR av_t11 dX1_afterStone_1 av_r11_2 ?_
  refine lv_iload_n hx hb dX1_afterStone_4 rfl (lv_at hl 2 rfl) ?_
  refine lv_iconst (v := 1) hx hb dX1_afterStone_5 rfl ?_
  refine lv_iadd hx hb dX1_afterStone_6 ?_
  obtain ⟨r7, er7, h⟩ := av_bd h
  refine av_al E X hR av_t12 (by decide) (t0 := 5) rfl er7 dX1_afterStone_7 ?_
  refine lv_astore_n (lv' := [(3, .ref (g.2.2 r7)), (0, .ref (g.2.2 11)), (1, .int a1), (2, .int a2)]) hx hb dX1_afterStone_8 rfl hl (by decide) rfl (fun ls hl => ?_)
  refine lv_aload_n hx hb dX1_afterStone_9 rfl (lv_at hl 0 rfl) ?_
  refine lv_aload_n hx hb dX1_afterStone_10 rfl (lv_at hl 1 rfl) ?_
  refine gf_X1_11 E X hR av_t11 dX1_afterStone_11 av_r11_2 ?_
  refine lv_iload_n hx hb dX1_afterStone_14 rfl (lv_at hl 3 rfl) ?_
  obtain ⟨r15, er15, h⟩ := av_bd h
  refine av_al E X hR av_t12 (by decide) (t0 := 5) rfl er15 dX1_afterStone_15 ?_
  obtain ⟨μ16, eμ16, h⟩ := av_bd h
  refine av_goV hR (av_cV (As := [.ref (g.2.2 r15)]) (rest := []) E X hR hl.1 (CX7_copyFrom l g (av_ty18 av_t12 er7) (av_ty18 av_t12 er15) eμ16) kk_X1_38 (av_room (by omega) (by decide)) (av_ty18 av_t12 er7) (by decide) rfl rfl (Nat.le_of_ble_eq_true rfl) ⟨Nat.zero_le _, Nat.zero_le _⟩ dX1_afterStone_16) (fun H locs hR => ?_)
  refine lv_aload_n hx hb dX1_afterStone_19 rfl (lv_at hl 0 rfl) ?_
  refine lv_iload_n hx hb dX1_afterStone_20 rfl (lv_at hl 2 rfl) ?_
  refine lv_iconst (v := 1) hx hb dX1_afterStone_21 rfl ?_
  obtain ⟨μ22, eμ22, h⟩ := av_bd h
  refine av_goV hR (av_cV (As := [.int a1, .int 1]) (rest := []) E X hR hl.1 (CX7_lay l g (av_ty18 av_t12 er7) eμ22) kk_X1_109 (av_room (by omega) (by decide)) (av_ty18 av_t12 er7) (by decide) rfl rfl (Nat.le_of_ble_eq_true rfl) ⟨Nat.zero_le _, Nat.zero_le _⟩ dX1_afterStone_22) (fun H locs hR => ?_)
  refine lv_aload_n hx hb dX1_afterStone_25 rfl (lv_at hl 0 rfl) ?_
  obtain ⟨μ26, eμ26, h⟩ := av_bd h
  refine av_goV hR (av_cV (As := []) (rest := []) E X hR hl.1 (CX7_comeDown l g (av_ty18 av_t12 er7) eμ26) kk_X1_112 (av_room (by omega) (by decide)) (av_ty18 av_t12 er7) (by decide) rfl rfl (Nat.le_of_ble_eq_true rfl) ⟨Nat.zero_le _, Nat.zero_le _⟩ dX1_afterStone_26) (fun H locs hR => ?_)
  refine lv_aload_n hx hb dX1_afterStone_29 rfl (lv_at hl 0 rfl) ?_
  exact av_rr E hR (av_r2 h) dX1_afterStone_30

theorem tyX1_afterStone {r : Nat} {a1 a2 : Int32} {μ μ' : Mem} (h : fX1_afterStone a1 a2 μ = some (r, μ')) : av_t av_wc r 7 := by
  unfold fX1_afterStone at h
  obtain ⟨r7, e7, h⟩ := av_bd h
  obtain ⟨r15, e15, h⟩ := av_bd h
  obtain ⟨m1, em1, h⟩ := av_bd h
  obtain ⟨m2, em2, h⟩ := av_bd h
  obtain ⟨m3, em3, h⟩ := av_bd h
  cases h
  exact av_ty18 av_t12 e7

set_option maxHeartbeats 4000000 in
set_option maxRecDepth 100000 in
theorem tX1_fallsWithin_63 {p : Program} {l : Launch} {e : Env} {s : State} {m : MethodId} {args : Array Value} {below : List Frame} {meth : Method} {c : Code} {g : Gl} {K : Nat} (hK : 5 ≤ K) {self : Int32 → Int32 → Int32 → Int32 → Int32 → Mem → Option (Int32 × Mem)} {zr : Int32} {zm : Mem} (hself : ∀ {a1 : Int32} {a2 : Int32} {a3 : Int32} {a4 : Int32} {a5 : Int32} {μ : Mem} {zr : Int32} {zm : Mem}, self a1 a2 a3 a4 a5 μ = some (zr, zm) → av_MI l yX1_fallsBy cX1_fallsBy 7 K (some .boolean) av_wc g [.ref (g.2.2 11), .int a1, .int a2, .int a3, .int a4, .int a5] μ zr zm) (E : av_E p s m args meth c cX1_fallsWithin RX1 6 (some .boolean)) (X : av_X av_wc g s) {k24 : Int32 → Int32 → Int32 → Int32 → Int32 → Mem → Option (Int32 × Mem)} (hk24 : ∀ {x1 : Int32} {x2 : Int32} {x3 : Int32} {x4 : Int32} {x5 : Int32} {μ : Mem} {H : Heap} {locs : List Loc} {ls : Array Slot}, k24 x1 x2 x3 x4 x5 μ = some (zr, zm) → av_R av_wc g μ s H locs → lv_has ls 6 [(0, .ref (g.2.2 11)), (1, .int x1), (2, .int x2), (3, .int x3), (4, .int x4), (5, .int x5)] → W p l e (rmN (K + 1)) s m args below meth c H locs 0 0 (MQ below (va_Qi (fun r1 u => r1 = zr ∧ u = zm) (av_B av_wc g) (av_A av_wc g)) args s 0 0 (av_A av_wc g)) (F0 m 24 ls [])) :
    ∀ {x1 : Int32} {x2 : Int32} {x3 : Int32} {x4 : Int32} {x5 : Int32} {μ : Mem} {H : Heap} {locs : List Loc} {ls : Array Slot}, fX1_fallsWithin_63 self k24 x1 x2 x3 x4 x5 μ = some (zr, zm) → av_R av_wc g μ s H locs → lv_has ls 6 [(0, .ref (g.2.2 11)), (1, .int x1), (2, .int x2), (3, .int x3), (4, .int x4), (5, .int x5)] → W p l e (rmN (K + 1)) s m args below meth c H locs 0 0 (MQ below (va_Qi (fun r1 u => r1 = zr ∧ u = zm) (av_B av_wc g) (av_A av_wc g)) args s 0 0 (av_A av_wc g)) (F0 m 63 ls []) := by
  obtain ⟨hx, hb, hr, hml, hown, hts, hlocks⟩ := id E
  intro x1 x2 x3 x4 x5 μ H locs ls h hR hl
  unfold fX1_fallsWithin_63 at h
  obtain ⟨x5_63, ex5_63, h⟩ := av_bd h
  replace ex5_63 := Option.some.inj ex5_63
  refine lv_iinc (v := x5_63) (lv' := [(5, .int x5_63), (0, .ref (g.2.2 11)), (1, .int x1), (2, .int x2), (3, .int x3), (4, .int x4)]) hx hb dX1_fallsWithin_63 hl (k := 5) rfl ex5_63 (by decide) rfl (fun ls hl => ?_)
  refine lv_goto (tgt := 24) hx hb dX1_fallsWithin_66 (by decide) ?_
  exact hk24 h hR (lv_sub hl [1, 2, 3, 4, 5, 0] rfl)

set_option maxHeartbeats 4000000 in
set_option maxRecDepth 100000 in
theorem tX1_fallsWithin_24 {p : Program} {l : Launch} {e : Env} {s : State} {m : MethodId} {args : Array Value} {below : List Frame} {meth : Method} {c : Code} {g : Gl} {K : Nat} (hK : 5 ≤ K) {self : Int32 → Int32 → Int32 → Int32 → Int32 → Mem → Option (Int32 × Mem)} {zr : Int32} {zm : Mem} (hself : ∀ {a1 : Int32} {a2 : Int32} {a3 : Int32} {a4 : Int32} {a5 : Int32} {μ : Mem} {zr : Int32} {zm : Mem}, self a1 a2 a3 a4 a5 μ = some (zr, zm) → av_MI l yX1_fallsBy cX1_fallsBy 7 K (some .boolean) av_wc g [.ref (g.2.2 11), .int a1, .int a2, .int a3, .int a4, .int a5] μ zr zm) (E : av_E p s m args meth c cX1_fallsWithin RX1 6 (some .boolean)) (X : av_X av_wc g s) :
    ∀ (n : Nat) {x1 : Int32} {x2 : Int32} {x3 : Int32} {x4 : Int32} {x5 : Int32} {μ : Mem} {H : Heap} {locs : List Loc} {ls : Array Slot}, fX1_fallsWithin_24 self n x1 x2 x3 x4 x5 μ = some (zr, zm) → av_R av_wc g μ s H locs → lv_has ls 6 [(0, .ref (g.2.2 11)), (1, .int x1), (2, .int x2), (3, .int x3), (4, .int x4), (5, .int x5)] → W p l e (rmN (K + 1)) s m args below meth c H locs 0 0 (MQ below (va_Qi (fun r1 u => r1 = zr ∧ u = zm) (av_B av_wc g) (av_A av_wc g)) args s 0 0 (av_A av_wc g)) (F0 m 24 ls []) := by
  obtain ⟨hx, hb, hr, hml, hown, hts, hlocks⟩ := id E
  intro n
  induction n with
  | zero =>
    intro x1 x2 x3 x4 x5 μ H locs ls h hR hl
    cases h
  | succ n ih =>
    intro x1 x2 x3 x4 x5 μ H locs ls h hR hl
    unfold fX1_fallsWithin_24 at h
    refine lv_iload hx hb dX1_fallsWithin_24 (lv_at hl 5 rfl) ?_
    refine lv_aload_n hx hb dX1_fallsWithin_26 rfl (lv_at hl 0 rfl) ?_
    refine gf_X1_27 E X hR av_t11 dX1_fallsWithin_27 av_r11_0 ?_
    refine gf_X1_85 E X hR av_t15 dX1_fallsWithin_30 ?_
    refine lv_icmp_ge (tgt := 69) hx hb dX1_fallsWithin_33 (by decide) (fun c33 => ?_) (fun c33 => ?_)
    · have h := av_it c33 h
      refine lv_iconst (v := 0) hx hb dX1_fallsWithin_69 rfl ?_
      exact av_rz E hR rfl (av_r2 h) dX1_fallsWithin_70
    · have h := av_if c33 h
      refine lv_iload_n hx hb dX1_fallsWithin_36 rfl (lv_at hl 2 rfl) ?_
      refine lv_iload hx hb dX1_fallsWithin_37 (lv_at hl 5 rfl) ?_
      obtain ⟨r39, er39, h⟩ := av_bd h
      refine av_goI hR (av_cSN (As := [.int x2, .int x5]) (rest := []) E X hR hl.1 (CX11_hasBit l g er39) kk_X1_78 (av_room (by omega) (by decide)) rfl (Nat.le_of_ble_eq_true rfl) ⟨Nat.zero_le _, Nat.zero_le _⟩ dX1_fallsWithin_39) (fun H locs hR => ?_)
      refine lv_if_eq (tgt := 63) hx hb dX1_fallsWithin_42 (by decide) (fun c42 => ?_) (fun c42 => ?_)
      · have h := av_it c42 h
        exact tX1_fallsWithin_63 hK hself E X ih h hR (lv_sub hl [0, 1, 2, 3, 4, 5] rfl)
      · have h := av_if c42 h
        refine lv_aload_n hx hb dX1_fallsWithin_45 rfl (lv_at hl 0 rfl) ?_
        refine lv_iload hx hb dX1_fallsWithin_46 (lv_at hl 5 rfl) ?_
        refine lv_iload_n hx hb dX1_fallsWithin_48 rfl (lv_at hl 1 rfl) ?_
        refine lv_iload_n hx hb dX1_fallsWithin_49 rfl (lv_at hl 2 rfl) ?_
        refine lv_iload_n hx hb dX1_fallsWithin_50 rfl (lv_at hl 3 rfl) ?_
        refine lv_iconst (v := 1) hx hb dX1_fallsWithin_51 rfl ?_
        refine lv_isub hx hb dX1_fallsWithin_52 ?_
        refine lv_iload hx hb dX1_fallsWithin_53 (lv_at hl 4 rfl) ?_
        obtain ⟨r55, μ55, er55, h⟩ := av_bd2 h
        refine av_goI hR (av_cV (As := [.int x5, .int x1, .int x2, .int (x3 - 1), .int x4]) (rest := []) E X hR hl.1 (hself er55) kk_X1_88 (av_room (by omega) (by decide)) av_t11 (by decide) rfl rfl (Nat.le_of_ble_eq_true rfl) ⟨Nat.zero_le _, Nat.zero_le _⟩ dX1_fallsWithin_55) (fun H locs hR => ?_)
        refine lv_if_eq (tgt := 63) hx hb dX1_fallsWithin_58 (by decide) (fun c58 => ?_) (fun c58 => ?_)
        · have h := av_it c58 h
          exact tX1_fallsWithin_63 hK hself E X ih h hR (lv_sub hl [0, 1, 2, 3, 4, 5] rfl)
        · have h := av_if c58 h
          refine lv_iconst (v := 1) hx hb dX1_fallsWithin_61 rfl ?_
          exact av_rz E hR rfl (av_r2 h) dX1_fallsWithin_62

set_option maxHeartbeats 4000000 in
set_option maxRecDepth 100000 in
theorem tX1_fallsWithin_19 {p : Program} {l : Launch} {e : Env} {s : State} {m : MethodId} {args : Array Value} {below : List Frame} {meth : Method} {c : Code} {g : Gl} {K : Nat} (hK : 5 ≤ K) {self : Int32 → Int32 → Int32 → Int32 → Int32 → Mem → Option (Int32 × Mem)} {zr : Int32} {zm : Mem} (hself : ∀ {a1 : Int32} {a2 : Int32} {a3 : Int32} {a4 : Int32} {a5 : Int32} {μ : Mem} {zr : Int32} {zm : Mem}, self a1 a2 a3 a4 a5 μ = some (zr, zm) → av_MI l yX1_fallsBy cX1_fallsBy 7 K (some .boolean) av_wc g [.ref (g.2.2 11), .int a1, .int a2, .int a3, .int a4, .int a5] μ zr zm) (E : av_E p s m args meth c cX1_fallsWithin RX1 6 (some .boolean)) (X : av_X av_wc g s) :
    ∀ {μ : Mem} {H : Heap} {locs : List Loc} {ls : Array Slot}, fX1_fallsWithin_19 self μ = some (zr, zm) → av_R av_wc g μ s H locs → lv_has ls 6 [] → W p l e (rmN (K + 1)) s m args below meth c H locs 0 0 (MQ below (va_Qi (fun r1 u => r1 = zr ∧ u = zm) (av_B av_wc g) (av_A av_wc g)) args s 0 0 (av_A av_wc g)) (F0 m 19 ls []) := by
  obtain ⟨hx, hb, hr, hml, hown, hts, hlocks⟩ := id E
  intro μ H locs ls h hR hl
  unfold fX1_fallsWithin_19 at h
  refine lv_iconst (v := 0) hx hb dX1_fallsWithin_19 rfl ?_
  exact av_rz E hR rfl (av_r2 h) dX1_fallsWithin_20

set_option maxHeartbeats 4000000 in
set_option maxRecDepth 100000 in
theorem CX1_fallsWithin {K : Nat} (hK : 5 ≤ K) (l : Launch) (g : Gl) {self : Int32 → Int32 → Int32 → Int32 → Int32 → Mem → Option (Int32 × Mem)} (hself : ∀ {a1 : Int32} {a2 : Int32} {a3 : Int32} {a4 : Int32} {a5 : Int32} {μ : Mem} {zr : Int32} {zm : Mem}, self a1 a2 a3 a4 a5 μ = some (zr, zm) → av_MI l yX1_fallsBy cX1_fallsBy 7 K (some .boolean) av_wc g [.ref (g.2.2 11), .int a1, .int a2, .int a3, .int a4, .int a5] μ zr zm) {a1 : Int32} {a2 : Int32} {a3 : Int32} {a4 : Int32} {μ : Mem} {zr : Int32} {zm : Mem} (h : fX1_fallsWithin self a1 a2 a3 a4 μ = some (zr, zm)) : av_MI l yX1_fallsWithin cX1_fallsWithin 6 (K + 1) (some .boolean) av_wc g [.ref (g.2.2 11), .int a1, .int a2, .int a3, .int a4] μ zr zm := by
  refine av_ent (own := RX1) (by decide) (Nat.le_of_ble_eq_true rfl) rfl (fun p e s m args below meth c E X hR ls hl => ?_)
  have hl : lv_has ls 6 [(0, .ref (g.2.2 11)), (1, .int a1), (2, .int a2), (3, .int a3), (4, .int a4)] := hl
  obtain ⟨hx, hb, hr, hml, hown, hts, hlocks⟩ := id E
  unfold fX1_fallsWithin at h
  refine lv_iload_n hx hb dX1_fallsWithin_0 rfl (lv_at hl 3 rfl) ?_
  refine lv_if_le (tgt := 19) hx hb dX1_fallsWithin_1 (by decide) (fun c1 => ?_) (fun c1 => ?_)
  · have h := av_it c1 h
    exact tX1_fallsWithin_19 hK hself E X h hR (lv_sub hl [] rfl)
  · have h := av_if c1 h
    refine lv_aload_n hx hb dX1_fallsWithin_4 rfl (lv_at hl 0 rfl) ?_
    refine gf_X1_11 E X hR av_t11 dX1_fallsWithin_5 av_r11_2 ?_
    refine lv_iload hx hb dX1_fallsWithin_8 (lv_at hl 4 rfl) ?_
    obtain ⟨r10, er10, h⟩ := av_bd h
    refine av_al E X hR av_t12 (by decide) (t0 := 5) rfl er10 dX1_fallsWithin_10 ?_
    refine lv_iload_n hx hb dX1_fallsWithin_11 rfl (lv_at hl 2 rfl) ?_
    refine lv_iload_n hx hb dX1_fallsWithin_12 rfl (lv_at hl 3 rfl) ?_
    obtain ⟨r13, er13, h⟩ := av_bd h
    refine av_goI hR (av_cV (As := [.int a2, .int a3]) (rest := []) E X hR hl.1 (CX7_mayStart l g (av_ty18 av_t12 er10) er13) kk_X1_106 (av_room (by omega) (by decide)) (av_ty18 av_t12 er10) (by decide) rfl rfl (Nat.le_of_ble_eq_true rfl) ⟨Nat.zero_le _, Nat.zero_le _⟩ dX1_fallsWithin_13) (fun H locs hR => ?_)
    refine lv_if_ne (tgt := 21) hx hb dX1_fallsWithin_16 (by decide) (fun c16 => ?_) (fun c16 => ?_)
    · have h := av_if c16 h
      refine lv_iconst (v := 0) hx hb dX1_fallsWithin_21 rfl ?_
      refine lv_istore (lv' := [(5, .int 0), (0, .ref (g.2.2 11)), (1, .int a1), (2, .int a2), (3, .int a3), (4, .int a4)]) hx hb dX1_fallsWithin_22 hl (by decide) rfl (fun ls hl => ?_)
      exact tX1_fallsWithin_24 hK hself E X _ h hR (lv_sub hl [1, 2, 3, 4, 5, 0] rfl)
    · have h := av_it c16 h
      exact tX1_fallsWithin_19 hK hself E X h hR (lv_sub hl [] rfl)

set_option maxHeartbeats 4000000 in
set_option maxRecDepth 100000 in
theorem tX1_fallsBy_47 {p : Program} {l : Launch} {e : Env} {s : State} {m : MethodId} {args : Array Value} {below : List Frame} {meth : Method} {c : Code} {g : Gl} {K : Nat} (hK : 5 ≤ K) {self : Int32 → Int32 → Int32 → Int32 → Int32 → Mem → Option (Int32 × Mem)} {zr : Int32} {zm : Mem} (hself : ∀ {a1 : Int32} {a2 : Int32} {a3 : Int32} {a4 : Int32} {a5 : Int32} {μ : Mem} {zr : Int32} {zm : Mem}, self a1 a2 a3 a4 a5 μ = some (zr, zm) → av_MI l yX1_fallsBy cX1_fallsBy 7 K (some .boolean) av_wc g [.ref (g.2.2 11), .int a1, .int a2, .int a3, .int a4, .int a5] μ zr zm) (E : av_E p s m args meth c cX1_fallsBy RX1 7 (some .boolean)) (X : av_X av_wc g s) :
    ∀ {μ : Mem} {H : Heap} {locs : List Loc} {ls : Array Slot}, fX1_fallsBy_47 self μ = some (zr, zm) → av_R av_wc g μ s H locs → lv_has ls 7 [] → W p l e (rmN (K + 2)) s m args below meth c H locs 0 0 (MQ below (va_Qi (fun r1 u => r1 = zr ∧ u = zm) (av_B av_wc g) (av_A av_wc g)) args s 0 0 (av_A av_wc g)) (F0 m 47 ls []) := by
  obtain ⟨hx, hb, hr, hml, hown, hts, hlocks⟩ := id E
  intro μ H locs ls h hR hl
  unfold fX1_fallsBy_47 at h
  refine lv_iconst (v := 1) hx hb dX1_fallsBy_47 rfl ?_
  refine lv_goto (tgt := 52) hx hb dX1_fallsBy_48 (by decide) ?_
  exact av_rz E hR rfl (av_r2 h) dX1_fallsBy_52

set_option maxHeartbeats 4000000 in
set_option maxRecDepth 100000 in
theorem CX1_fallsBy_b {K : Nat} (hK : 5 ≤ K) (l : Launch) (g : Gl) {self : Int32 → Int32 → Int32 → Int32 → Int32 → Mem → Option (Int32 × Mem)} (hself : ∀ {a1 : Int32} {a2 : Int32} {a3 : Int32} {a4 : Int32} {a5 : Int32} {μ : Mem} {zr : Int32} {zm : Mem}, self a1 a2 a3 a4 a5 μ = some (zr, zm) → av_MI l yX1_fallsBy cX1_fallsBy 7 K (some .boolean) av_wc g [.ref (g.2.2 11), .int a1, .int a2, .int a3, .int a4, .int a5] μ zr zm) {a1 : Int32} {a2 : Int32} {a3 : Int32} {a4 : Int32} {a5 : Int32} {μ : Mem} {zr : Int32} {zm : Mem} (h : fX1_fallsBy_b self a1 a2 a3 a4 a5 μ = some (zr, zm)) : av_MI l yX1_fallsBy cX1_fallsBy 7 (K + 2) (some .boolean) av_wc g [.ref (g.2.2 11), .int a1, .int a2, .int a3, .int a4, .int a5] μ zr zm := by
  refine av_ent (own := RX1) (by decide) (Nat.le_of_ble_eq_true rfl) rfl (fun p e s m args below meth c E X hR ls hl => ?_)
  have hl : lv_has ls 7 [(0, .ref (g.2.2 11)), (1, .int a1), (2, .int a2), (3, .int a3), (4, .int a4), (5, .int a5)] := hl
  obtain ⟨hx, hb, hr, hml, hown, hts, hlocks⟩ := id E
  unfold fX1_fallsBy_b at h
  refine lv_aload_n hx hb dX1_fallsBy_0 rfl (lv_at hl 0 rfl) ?_
  refine lv_iload hx hb dX1_fallsBy_1 (lv_at hl 5 rfl) ?_
  obtain ⟨r3, er3, h⟩ := av_bd h
  refine av_goI hR (av_cV (As := [.int a5]) (rest := []) E X hR hl.1 (CX1_isDeepest l g er3) kk_X1_66 (av_room (by omega) (by decide)) av_t11 (by decide) rfl rfl (Nat.le_of_ble_eq_true rfl) ⟨Nat.zero_le _, Nat.zero_le _⟩ dX1_fallsBy_3) (fun H locs hR => ?_)
  refine lv_if_eq (tgt := 11) hx hb dX1_fallsBy_6 (by decide) (fun c6 => ?_) (fun c6 => ?_)
  · have h := av_it c6 h
    refine lv_aload_n hx hb dX1_fallsBy_11 rfl (lv_at hl 0 rfl) ?_
    refine lv_iload_n hx hb dX1_fallsBy_12 rfl (lv_at hl 1 rfl) ?_
    refine lv_iload hx hb dX1_fallsBy_13 (lv_at hl 5 rfl) ?_
    obtain ⟨r15, μ15, er15, h⟩ := av_bd2 h
    refine av_goR hR (av_cV (As := [.int a1, .int a5]) (rest := []) E X hR hl.1 (CX1_afterStone l g er15) kk_X1_95 (av_room (by omega) (by decide)) av_t11 (by decide) rfl rfl (Nat.le_of_ble_eq_true rfl) ⟨Nat.zero_le _, Nat.zero_le _⟩ dX1_fallsBy_15) (fun H locs hR => ?_)
    refine lv_astore (lv' := [(6, .ref (g.2.2 r15)), (0, .ref (g.2.2 11)), (1, .int a1), (2, .int a2), (3, .int a3), (4, .int a4), (5, .int a5)]) hx hb dX1_fallsBy_18 hl (by decide) rfl (fun ls hl => ?_)
    refine lv_aload hx hb dX1_fallsBy_20 (lv_at hl 0 rfl) ?_
    refine gf_X1_99 E X hR (tyX1_afterStone er15) dX1_fallsBy_22 ?_
    refine lv_iload_n hx hb dX1_fallsBy_25 rfl (lv_at hl 3 rfl) ?_
    obtain ⟨r26, er26, h⟩ := av_bd h
    refine av_goI hR (av_cSN (As := [.int (gF μ15 r15 6), .int a2]) (rest := []) E X hR hl.1 (CX11_hasBit l g er26) kk_X1_78 (av_room (by omega) (by decide)) rfl (Nat.le_of_ble_eq_true rfl) ⟨Nat.zero_le _, Nat.zero_le _⟩ dX1_fallsBy_26) (fun H locs hR => ?_)
    refine lv_if_ne (tgt := 47) hx hb dX1_fallsBy_29 (by decide) (fun c29 => ?_) (fun c29 => ?_)
    · have h := av_if c29 h
      exact tX1_fallsBy_47 hK hself E X h hR (lv_sub hl [] rfl)
    · have h := av_it c29 h
      refine lv_aload_n hx hb dX1_fallsBy_32 rfl (lv_at hl 1 rfl) ?_
      refine lv_iload_n hx hb dX1_fallsBy_33 rfl (lv_at hl 3 rfl) ?_
      refine lv_iload_n hx hb dX1_fallsBy_34 rfl (lv_at hl 4 rfl) ?_
      refine lv_iload hx hb dX1_fallsBy_35 (lv_at hl 5 rfl) ?_
      refine lv_iload hx hb dX1_fallsBy_37 (lv_at hl 6 rfl) ?_
      refine lv_iconst (v := 1) hx hb dX1_fallsBy_39 rfl ?_
      refine lv_iadd hx hb dX1_fallsBy_40 ?_
      obtain ⟨r41, μ41, er41, h⟩ := av_bd2 h
      refine av_goI hR (av_cV (As := [.int a2, .int a3, .int a4, .int (a5 + 1)]) (rest := []) E X hR hl.1 (CX1_fallsWithin hK l g hself er41) kk_X1_102 (av_room (by omega) (by decide)) av_t11 (by decide) rfl rfl (Nat.le_of_ble_eq_true rfl) ⟨Nat.zero_le _, Nat.zero_le _⟩ dX1_fallsBy_41) (fun H locs hR => ?_)
      refine lv_if_eq (tgt := 51) hx hb dX1_fallsBy_44 (by decide) (fun c44 => ?_) (fun c44 => ?_)
      · have h := av_it c44 h
        refine lv_iconst (v := 0) hx hb dX1_fallsBy_51 rfl ?_
        exact av_rz E hR rfl (av_r2 h) dX1_fallsBy_52
      · have h := av_if c44 h
        exact tX1_fallsBy_47 hK hself E X h hR (lv_sub hl [] rfl)
  · have h := av_if c6 h
    refine lv_iconst (v := 0) hx hb dX1_fallsBy_9 rfl ?_
    exact av_rz E hR rfl (av_r2 h) dX1_fallsBy_10

theorem CX1_fallsBy_d (l : Launch) (g : Gl) : ∀ (d : Nat) {a1 : Int32} {a2 : Int32} {a3 : Int32} {a4 : Int32} {a5 : Int32} {μ : Mem} {zr : Int32} {zm : Mem}, fX1_fallsBy d a1 a2 a3 a4 a5 μ = some (zr, zm) → av_MI l yX1_fallsBy cX1_fallsBy 7 (5 + 2 * d) (some .boolean) av_wc g [.ref (g.2.2 11), .int a1, .int a2, .int a3, .int a4, .int a5] μ zr zm
  | 0 => by
    intro  h
    cases h
  | d + 1 => by
    intro  h
    exact CX1_fallsBy_b (K := 5 + 2 * d) (by omega) l g (CX1_fallsBy_d l g d) h
theorem CX1_fallsBy (l : Launch) (g : Gl) {a1 : Int32} {a2 : Int32} {a3 : Int32} {a4 : Int32} {a5 : Int32} {μ : Mem} {zr : Int32} {zm : Mem} (h : fX1_fallsBy 8 a1 a2 a3 a4 a5 μ = some (zr, zm)) : av_MI l yX1_fallsBy cX1_fallsBy 7 21 (some .boolean) av_wc g [.ref (g.2.2 11), .int a1, .int a2, .int a3, .int a4, .int a5] μ zr zm := CX1_fallsBy_d l g 8 h

set_option maxHeartbeats 4000000 in
set_option maxRecDepth 100000 in
theorem tX1_fewestStones_24 {p : Program} {l : Launch} {e : Env} {s : State} {m : MethodId} {args : Array Value} {below : List Frame} {meth : Method} {c : Code} {g : Gl} {zr : Int32} {zm : Mem} (E : av_E p s m args meth c cX1_fewestStones RX1 5 (some .int)) (X : av_X av_wc g s) {k16 : Int32 → Int32 → Int32 → Mem → Option (Int32 × Mem)} (hk16 : ∀ {x1 : Int32} {x2 : Int32} {x3 : Int32} {μ : Mem} {H : Heap} {locs : List Loc} {ls : Array Slot}, k16 x1 x2 x3 μ = some (zr, zm) → av_R av_wc g μ s H locs → lv_has ls 5 [(0, .ref (g.2.2 11)), (1, .int x1), (2, .int x2), (3, .int x3)] → W p l e (rmN 22) s m args below meth c H locs 0 0 (MQ below (va_Qi (fun r1 u => r1 = zr ∧ u = zm) (av_B av_wc g) (av_A av_wc g)) args s 0 0 (av_A av_wc g)) (F0 m 16 ls [])) :
    ∀ (n : Nat) {x1 : Int32} {x2 : Int32} {x3 : Int32} {x4 : Int32} {μ : Mem} {H : Heap} {locs : List Loc} {ls : Array Slot}, fX1_fewestStones_24 k16 n x1 x2 x3 x4 μ = some (zr, zm) → av_R av_wc g μ s H locs → lv_has ls 5 [(0, .ref (g.2.2 11)), (1, .int x1), (2, .int x2), (3, .int x3), (4, .int x4)] → W p l e (rmN 22) s m args below meth c H locs 0 0 (MQ below (va_Qi (fun r1 u => r1 = zr ∧ u = zm) (av_B av_wc g) (av_A av_wc g)) args s 0 0 (av_A av_wc g)) (F0 m 24 ls []) := by
  obtain ⟨hx, hb, hr, hml, hown, hts, hlocks⟩ := id E
  intro n
  induction n with
  | zero =>
    intro x1 x2 x3 x4 μ H locs ls h hR hl
    cases h
  | succ n ih =>
    intro x1 x2 x3 x4 μ H locs ls h hR hl
    unfold fX1_fewestStones_24 at h
    refine lv_iload hx hb dX1_fewestStones_24 (lv_at hl 4 rfl) ?_
    refine lv_aload_n hx hb dX1_fewestStones_26 rfl (lv_at hl 0 rfl) ?_
    refine gf_X1_27 E X hR av_t11 dX1_fewestStones_27 av_r11_0 ?_
    refine gf_X1_85 E X hR av_t15 dX1_fewestStones_30 ?_
    refine lv_icmp_ge (tgt := 65) hx hb dX1_fewestStones_33 (by decide) (fun c33 => ?_) (fun c33 => ?_)
    · have h := av_it c33 h
      obtain ⟨x3_65, ex3_65, h⟩ := av_bd h
      replace ex3_65 := Option.some.inj ex3_65
      refine lv_iinc (v := x3_65) (lv' := [(3, .int x3_65), (0, .ref (g.2.2 11)), (1, .int x1), (2, .int x2), (4, .int x4)]) hx hb dX1_fewestStones_65 hl (k := 3) rfl ex3_65 (by decide) rfl (fun ls hl => ?_)
      refine lv_goto (tgt := 16) hx hb dX1_fewestStones_68 (by decide) ?_
      exact hk16 h hR (lv_sub hl [1, 2, 3, 0] rfl)
    · have h := av_if c33 h
      refine lv_aload_n hx hb dX1_fewestStones_36 rfl (lv_at hl 0 rfl) ?_
      refine lv_iload hx hb dX1_fewestStones_37 (lv_at hl 4 rfl) ?_
      refine lv_iload_n hx hb dX1_fewestStones_39 rfl (lv_at hl 1 rfl) ?_
      refine lv_iload_n hx hb dX1_fewestStones_40 rfl (lv_at hl 2 rfl) ?_
      refine lv_iload_n hx hb dX1_fewestStones_41 rfl (lv_at hl 3 rfl) ?_
      refine lv_iconst (v := 1) hx hb dX1_fewestStones_42 rfl ?_
      refine lv_isub hx hb dX1_fewestStones_43 ?_
      refine lv_iconst (v := 0) hx hb dX1_fewestStones_44 rfl ?_
      obtain ⟨r45, μ45, er45, h⟩ := av_bd2 h
      refine av_goI hR (av_cV (As := [.int x4, .int x1, .int x2, .int (x3 - 1), .int 0]) (rest := []) E X hR hl.1 (CX1_fallsBy l g er45) kk_X1_88 (av_room (by omega) (by decide)) av_t11 (by decide) rfl rfl (Nat.le_of_ble_eq_true rfl) ⟨Nat.zero_le _, Nat.zero_le _⟩ dX1_fewestStones_45) (fun H locs hR => ?_)
      refine lv_if_eq (tgt := 59) hx hb dX1_fewestStones_48 (by decide) (fun c48 => ?_) (fun c48 => ?_)
      · have h := av_it c48 h
        obtain ⟨x4_59, ex4_59, h⟩ := av_bd h
        replace ex4_59 := Option.some.inj ex4_59
        refine lv_iinc (v := x4_59) (lv' := [(4, .int x4_59), (0, .ref (g.2.2 11)), (1, .int x1), (2, .int x2), (3, .int x3)]) hx hb dX1_fewestStones_59 hl (k := 4) rfl ex4_59 (by decide) rfl (fun ls hl => ?_)
        refine lv_goto (tgt := 24) hx hb dX1_fewestStones_62 (by decide) ?_
        exact ih h hR (lv_sub hl [1, 2, 3, 4, 0] rfl)
      · have h := av_if c48 h
        refine lv_aload_n hx hb dX1_fewestStones_51 rfl (lv_at hl 0 rfl) ?_
        refine lv_iload hx hb dX1_fewestStones_52 (lv_at hl 4 rfl) ?_
        obtain ⟨μ54, eμ54, h⟩ := av_bd h
        replace eμ54 := Option.some.inj eμ54
        refine pf_X1_92 E X hR av_t11 dX1_fewestStones_54 eμ54 (fun H locs hR => ?_)
        refine lv_iload_n hx hb dX1_fewestStones_57 rfl (lv_at hl 3 rfl) ?_
        exact av_ri E hR (av_r2 h) dX1_fewestStones_58

set_option maxHeartbeats 4000000 in
set_option maxRecDepth 100000 in
theorem tX1_fewestStones_16 {p : Program} {l : Launch} {e : Env} {s : State} {m : MethodId} {args : Array Value} {below : List Frame} {meth : Method} {c : Code} {g : Gl} {zr : Int32} {zm : Mem} (E : av_E p s m args meth c cX1_fewestStones RX1 5 (some .int)) (X : av_X av_wc g s) :
    ∀ (n : Nat) {x1 : Int32} {x2 : Int32} {x3 : Int32} {μ : Mem} {H : Heap} {locs : List Loc} {ls : Array Slot}, fX1_fewestStones_16 n x1 x2 x3 μ = some (zr, zm) → av_R av_wc g μ s H locs → lv_has ls 5 [(0, .ref (g.2.2 11)), (1, .int x1), (2, .int x2), (3, .int x3)] → W p l e (rmN 22) s m args below meth c H locs 0 0 (MQ below (va_Qi (fun r1 u => r1 = zr ∧ u = zm) (av_B av_wc g) (av_A av_wc g)) args s 0 0 (av_A av_wc g)) (F0 m 16 ls []) := by
  obtain ⟨hx, hb, hr, hml, hown, hts, hlocks⟩ := id E
  intro n
  induction n with
  | zero =>
    intro x1 x2 x3 μ H locs ls h hR hl
    cases h
  | succ n ih =>
    intro x1 x2 x3 μ H locs ls h hR hl
    unfold fX1_fewestStones_16 at h
    refine lv_iload_n hx hb dX1_fewestStones_16 rfl (lv_at hl 3 rfl) ?_
    refine lv_iconst (v := 5) hx hb dX1_fewestStones_17 rfl ?_
    refine lv_icmp_gt (tgt := 71) hx hb dX1_fewestStones_18 (by decide) (fun c18 => ?_) (fun c18 => ?_)
    · have h := av_it c18 h
      refine lv_aload_n hx hb dX1_fewestStones_71 rfl (lv_at hl 0 rfl) ?_
      refine lv_iconst (v := (-1)) hx hb dX1_fewestStones_72 rfl ?_
      obtain ⟨μ73, eμ73, h⟩ := av_bd h
      replace eμ73 := Option.some.inj eμ73
      refine pf_X1_92 E X hR av_t11 dX1_fewestStones_73 eμ73 (fun H locs hR => ?_)
      refine lv_iconst (v := (-1)) hx hb dX1_fewestStones_76 rfl ?_
      exact av_ri E hR (av_r2 h) dX1_fewestStones_77
    · have h := av_if c18 h
      refine lv_iconst (v := 0) hx hb dX1_fewestStones_21 rfl ?_
      refine lv_istore (lv' := [(4, .int 0), (0, .ref (g.2.2 11)), (1, .int x1), (2, .int x2), (3, .int x3)]) hx hb dX1_fewestStones_22 hl (by decide) rfl (fun ls hl => ?_)
      exact tX1_fewestStones_24 E X ih _ h hR (lv_sub hl [1, 2, 3, 4, 0] rfl)

set_option maxHeartbeats 4000000 in
set_option maxRecDepth 100000 in
theorem CX1_fewestStones (l : Launch) (g : Gl) {a1 : Int32} {μ : Mem} {zr : Int32} {zm : Mem} (h : fX1_fewestStones a1 μ = some (zr, zm)) : av_MI l yX1_fewestStones cX1_fewestStones 5 22 (some .int) av_wc g [.ref (g.2.2 11), .int a1] μ zr zm := by
  refine av_ent (own := RX1) (by decide) (Nat.le_of_ble_eq_true rfl) rfl (fun p e s m args below meth c E X hR ls hl => ?_)
  have hl : lv_has ls 5 [(0, .ref (g.2.2 11)), (1, .int a1)] := hl
  obtain ⟨hx, hb, hr, hml, hown, hts, hlocks⟩ := id E
  unfold fX1_fewestStones at h
  refine lv_aload_n hx hb dX1_fewestStones_0 rfl (lv_at hl 0 rfl) ?_
  obtain ⟨r1, μ1, er1, h⟩ := av_bd2 h
  refine av_goR hR (av_cV (As := []) (rest := []) E X hR hl.1 (CX1_fresh l g er1) kk_X1_42 (av_room (by omega) (by decide)) av_t11 (by decide) rfl rfl (Nat.le_of_ble_eq_true rfl) ⟨Nat.zero_le _, Nat.zero_le _⟩ dX1_fewestStones_1) (fun H locs hR => ?_)
  refine lv_pop hx hb dX1_fewestStones_4 rfl ?_
  refine lv_aload_n hx hb dX1_fewestStones_5 rfl (lv_at hl 0 rfl) ?_
  refine gf_X1_27 E X hR av_t11 dX1_fewestStones_6 av_r11_0 ?_
  refine lv_iload_n hx hb dX1_fewestStones_9 rfl (lv_at hl 1 rfl) ?_
  obtain ⟨r10, er10, h⟩ := av_bd h
  refine av_goI hR (av_cV (As := [.int a1]) (rest := []) E X hR hl.1 (CX9_bitsAbove l g av_t15 er10) kk_X1_82 (av_room (by omega) (by decide)) av_t15 (by decide) rfl rfl (Nat.le_of_ble_eq_true rfl) ⟨Nat.zero_le _, Nat.zero_le _⟩ dX1_fewestStones_10) (fun H locs hR => ?_)
  refine lv_istore_n (lv' := [(2, .int r10), (0, .ref (g.2.2 11)), (1, .int a1)]) hx hb dX1_fewestStones_13 rfl hl (by decide) rfl (fun ls hl => ?_)
  refine lv_iconst (v := 1) hx hb dX1_fewestStones_14 rfl ?_
  refine lv_istore_n (lv' := [(3, .int 1), (2, .int r10), (0, .ref (g.2.2 11)), (1, .int a1)]) hx hb dX1_fewestStones_15 rfl hl (by decide) rfl (fun ls hl => ?_)
  exact tX1_fewestStones_16 E X _ h hR (lv_sub hl [2, 3, 1, 0] rfl)

set_option maxHeartbeats 4000000 in
set_option maxRecDepth 100000 in
theorem CX1_buriedBy (l : Launch) (g : Gl) {a1 : Int32} {a2 : Int32} {μ : Mem} {zr : Int32} {zm : Mem} (h : fX1_buriedBy a1 a2 μ = some (zr, zm)) : av_MI l yX1_buriedBy cX1_buriedBy 4 4 (some .int) av_wc g [.ref (g.2.2 11), .int a1, .int a2] μ zr zm := by
  refine av_ent (own := RX1) (by decide) (Nat.le_of_ble_eq_true rfl) rfl (fun p e s m args below meth c E X hR ls hl => ?_)
  have hl : lv_has ls 4 [(0, .ref (g.2.2 11)), (1, .int a1), (2, .int a2)] := hl
  obtain ⟨hx, hb, hr, hml, hown, hts, hlocks⟩ := id E
  unfold fX1_buriedBy at h
  refine lv_aload_n hx hb dX1_buriedBy_0 rfl (lv_at hl 0 rfl) ?_
  obtain ⟨r1, μ1, er1, h⟩ := av_bd2 h
  refine av_goR hR (av_cV (As := []) (rest := []) E X hR hl.1 (CX1_fresh l g er1) kk_X1_42 (av_room (by omega) (by decide)) av_t11 (by decide) rfl rfl (Nat.le_of_ble_eq_true rfl) ⟨Nat.zero_le _, Nat.zero_le _⟩ dX1_buriedBy_1) (fun H locs hR => ?_)
  refine lv_astore_n (lv' := [(3, .ref (g.2.2 r1)), (0, .ref (g.2.2 11)), (1, .int a1), (2, .int a2)]) hx hb dX1_buriedBy_4 rfl hl (by decide) rfl (fun ls hl => ?_)
  refine lv_aload_n hx hb dX1_buriedBy_5 rfl (lv_at hl 0 rfl) ?_
  refine lv_iload_n hx hb dX1_buriedBy_6 rfl (lv_at hl 2 rfl) ?_
  refine lv_iload_n hx hb dX1_buriedBy_7 rfl (lv_at hl 3 rfl) ?_
  obtain ⟨μ8, eμ8, h⟩ := av_bd h
  refine av_goV hR (av_cV (As := [.int a1, .int a2]) (rest := []) E X hR hl.1 (CX7_lay l g (tyX1_fresh er1) eμ8) kk_X1_109 (av_room (by omega) (by decide)) (tyX1_fresh er1) (by decide) rfl rfl (Nat.le_of_ble_eq_true rfl) ⟨Nat.zero_le _, Nat.zero_le _⟩ dX1_buriedBy_8) (fun H locs hR => ?_)
  refine lv_aload_n hx hb dX1_buriedBy_11 rfl (lv_at hl 0 rfl) ?_
  obtain ⟨μ12, eμ12, h⟩ := av_bd h
  refine av_goV hR (av_cV (As := []) (rest := []) E X hR hl.1 (CX7_comeDown l g (tyX1_fresh er1) eμ12) kk_X1_112 (av_room (by omega) (by decide)) (tyX1_fresh er1) (by decide) rfl rfl (Nat.le_of_ble_eq_true rfl) ⟨Nat.zero_le _, Nat.zero_le _⟩ dX1_buriedBy_12) (fun H locs hR => ?_)
  refine lv_aload_n hx hb dX1_buriedBy_15 rfl (lv_at hl 0 rfl) ?_
  refine gf_X1_115 E X hR (tyX1_fresh er1) dX1_buriedBy_16 ?_
  exact av_ri E hR (av_r2 h) dX1_buriedBy_19

set_option maxHeartbeats 4000000 in
set_option maxRecDepth 100000 in
theorem tX1_nightsTill_8 {p : Program} {l : Launch} {e : Env} {s : State} {m : MethodId} {args : Array Value} {below : List Frame} {meth : Method} {c : Code} {g : Gl} {zr : Int32} {zm : Mem} (E : av_E p s m args meth c cX1_nightsTill RX1 5 (some .int)) (X : av_X av_wc g s) :
    ∀ (n : Nat) {x1 : Int32} {x2 : Int32} {x3 : Nat} {x4 : Int32} (hx3 : av_t av_wc x3 7) {μ : Mem} {H : Heap} {locs : List Loc} {ls : Array Slot}, fX1_nightsTill_8 n x1 x2 x3 x4 μ = some (zr, zm) → av_R av_wc g μ s H locs → lv_has ls 5 [(1, .int x1), (2, .int x2), (3, .ref (g.2.2 x3)), (4, .int x4)] → W p l e (rmN 5) s m args below meth c H locs 0 0 (MQ below (va_Qi (fun r1 u => r1 = zr ∧ u = zm) (av_B av_wc g) (av_A av_wc g)) args s 0 0 (av_A av_wc g)) (F0 m 8 ls []) := by
  obtain ⟨hx, hb, hr, hml, hown, hts, hlocks⟩ := id E
  intro n
  induction n with
  | zero =>
    intro x1 x2 x3 x4 hx3 μ H locs ls h hR hl
    cases h
  | succ n ih =>
    intro x1 x2 x3 x4 hx3 μ H locs ls h hR hl
    unfold fX1_nightsTill_8 at h
    refine lv_iload hx hb dX1_nightsTill_8 (lv_at hl 3 rfl) ?_
    refine lv_bipush (v := 60) hx hb dX1_nightsTill_10 rfl ?_
    refine lv_icmp_gt (tgt := 40) hx hb dX1_nightsTill_12 (by decide) (fun c12 => ?_) (fun c12 => ?_)
    · have h := av_it c12 h
      refine lv_iconst (v := (-1)) hx hb dX1_nightsTill_40 rfl ?_
      exact av_ri E hR (av_r2 h) dX1_nightsTill_41
    · have h := av_if c12 h
      refine lv_aload_n hx hb dX1_nightsTill_15 rfl (lv_at hl 2 rfl) ?_
      refine lv_iload_n hx hb dX1_nightsTill_16 rfl (lv_at hl 1 rfl) ?_
      obtain ⟨μ17, eμ17, h⟩ := av_bd h
      refine av_goV hR (av_cV (As := [.int x2]) (rest := []) E X hR hl.1 (CX7_snowOver l g hx3 eμ17) kk_X1_118 (av_room (by omega) (by decide)) hx3 (by decide) rfl rfl (Nat.le_of_ble_eq_true rfl) ⟨Nat.zero_le _, Nat.zero_le _⟩ dX1_nightsTill_17) (fun H locs hR => ?_)
      refine lv_aload_n hx hb dX1_nightsTill_20 rfl (lv_at hl 2 rfl) ?_
      refine gf_X1_99 E X hR hx3 dX1_nightsTill_21 ?_
      refine lv_iload_n hx hb dX1_nightsTill_24 rfl (lv_at hl 0 rfl) ?_
      obtain ⟨r25, er25, h⟩ := av_bd h
      refine av_goI hR (av_cSN (As := [.int (gF μ17 x3 6), .int x1]) (rest := []) E X hR hl.1 (CX11_hasBit l g er25) kk_X1_78 (av_room (by omega) (by decide)) rfl (Nat.le_of_ble_eq_true rfl) ⟨Nat.zero_le _, Nat.zero_le _⟩ dX1_nightsTill_25) (fun H locs hR => ?_)
      refine lv_if_eq (tgt := 34) hx hb dX1_nightsTill_28 (by decide) (fun c28 => ?_) (fun c28 => ?_)
      · have h := av_it c28 h
        obtain ⟨x4_34, ex4_34, h⟩ := av_bd h
        replace ex4_34 := Option.some.inj ex4_34
        refine lv_iinc (v := x4_34) (lv' := [(4, .int x4_34), (1, .int x1), (2, .int x2), (3, .ref (g.2.2 x3))]) hx hb dX1_nightsTill_34 hl (k := 3) rfl ex4_34 (by decide) rfl (fun ls hl => ?_)
        refine lv_goto (tgt := 8) hx hb dX1_nightsTill_37 (by decide) ?_
        exact ih hx3 h hR (lv_sub hl [1, 2, 3, 0] rfl)
      · have h := av_if c28 h
        refine lv_iload hx hb dX1_nightsTill_31 (lv_at hl 3 rfl) ?_
        exact av_ri E hR (av_r2 h) dX1_nightsTill_33

set_option maxHeartbeats 4000000 in
set_option maxRecDepth 100000 in
theorem CX1_nightsTill (l : Launch) (g : Gl) {a1 : Int32} {a2 : Int32} {μ : Mem} {zr : Int32} {zm : Mem} (h : fX1_nightsTill a1 a2 μ = some (zr, zm)) : av_MI l yX1_nightsTill cX1_nightsTill 5 5 (some .int) av_wc g [.ref (g.2.2 11), .int a1, .int a2] μ zr zm := by
  refine av_ent (own := RX1) (by decide) (Nat.le_of_ble_eq_true rfl) rfl (fun p e s m args below meth c E X hR ls hl => ?_)
  have hl : lv_has ls 5 [(0, .ref (g.2.2 11)), (1, .int a1), (2, .int a2)] := hl
  obtain ⟨hx, hb, hr, hml, hown, hts, hlocks⟩ := id E
  unfold fX1_nightsTill at h
  refine lv_aload_n hx hb dX1_nightsTill_0 rfl (lv_at hl 0 rfl) ?_
  obtain ⟨r1, μ1, er1, h⟩ := av_bd2 h
  refine av_goR hR (av_cV (As := []) (rest := []) E X hR hl.1 (CX1_fresh l g er1) kk_X1_42 (av_room (by omega) (by decide)) av_t11 (by decide) rfl rfl (Nat.le_of_ble_eq_true rfl) ⟨Nat.zero_le _, Nat.zero_le _⟩ dX1_nightsTill_1) (fun H locs hR => ?_)
  refine lv_astore_n (lv' := [(3, .ref (g.2.2 r1)), (0, .ref (g.2.2 11)), (1, .int a1), (2, .int a2)]) hx hb dX1_nightsTill_4 rfl hl (by decide) rfl (fun ls hl => ?_)
  refine lv_iconst (v := 1) hx hb dX1_nightsTill_5 rfl ?_
  refine lv_istore (lv' := [(4, .int 1), (3, .ref (g.2.2 r1)), (0, .ref (g.2.2 11)), (1, .int a1), (2, .int a2)]) hx hb dX1_nightsTill_6 hl (by decide) rfl (fun ls hl => ?_)
  exact tX1_nightsTill_8 E X _ (tyX1_fresh er1) h hR (lv_sub hl [3, 4, 1, 0] rfl)

set_option maxHeartbeats 4000000 in
set_option maxRecDepth 100000 in
theorem tX1_bestOutcome_142 {p : Program} {l : Launch} {e : Env} {s : State} {m : MethodId} {args : Array Value} {below : List Frame} {meth : Method} {c : Code} {g : Gl} {K : Nat} (hK : 5 ≤ K) {self : Int32 → Int32 → Int32 → Int32 → Int32 → Mem → Option (Int32 × Mem)} {zr : Int32} {zm : Mem} (hself : ∀ {a1 : Int32} {a2 : Int32} {a3 : Int32} {a4 : Int32} {a5 : Int32} {μ : Mem} {zr : Int32} {zm : Mem}, self a1 a2 a3 a4 a5 μ = some (zr, zm) → av_MI l yX1_outcomeOf cX1_outcomeOf 7 K (some .int) av_wc g [.ref (g.2.2 11), .int a1, .int a2, .int a3, .int a4, .int a5] μ zr zm) (E : av_E p s m args meth c cX1_bestOutcome RX1 10 (some .int)) (X : av_X av_wc g s) :
    ∀ {x7 : Int32} {μ : Mem} {H : Heap} {locs : List Loc} {ls : Array Slot}, fX1_bestOutcome_142 self x7 μ = some (zr, zm) → av_R av_wc g μ s H locs → lv_has ls 10 [(7, .int x7)] → W p l e (rmN (K + 1)) s m args below meth c H locs 0 0 (MQ below (va_Qi (fun r1 u => r1 = zr ∧ u = zm) (av_B av_wc g) (av_A av_wc g)) args s 0 0 (av_A av_wc g)) (F0 m 142 ls []) := by
  obtain ⟨hx, hb, hr, hml, hown, hts, hlocks⟩ := id E
  intro x7 μ H locs ls h hR hl
  unfold fX1_bestOutcome_142 at h
  refine lv_iload hx hb dX1_bestOutcome_142 (lv_at hl 0 rfl) ?_
  exact av_ri E hR (av_r2 h) dX1_bestOutcome_144

set_option maxHeartbeats 4000000 in
set_option maxRecDepth 100000 in
theorem tX1_bestOutcome_134 {p : Program} {l : Launch} {e : Env} {s : State} {m : MethodId} {args : Array Value} {below : List Frame} {meth : Method} {c : Code} {g : Gl} {K : Nat} (hK : 5 ≤ K) {self : Int32 → Int32 → Int32 → Int32 → Int32 → Mem → Option (Int32 × Mem)} {zr : Int32} {zm : Mem} (hself : ∀ {a1 : Int32} {a2 : Int32} {a3 : Int32} {a4 : Int32} {a5 : Int32} {μ : Mem} {zr : Int32} {zm : Mem}, self a1 a2 a3 a4 a5 μ = some (zr, zm) → av_MI l yX1_outcomeOf cX1_outcomeOf 7 K (some .int) av_wc g [.ref (g.2.2 11), .int a1, .int a2, .int a3, .int a4, .int a5] μ zr zm) (E : av_E p s m args meth c cX1_bestOutcome RX1 10 (some .int)) (X : av_X av_wc g s) {k78 : Int32 → Int32 → Int32 → Int32 → Int32 → Int32 → Int32 → Int32 → Mem → Option (Int32 × Mem)} (hk78 : ∀ {x1 : Int32} {x2 : Int32} {x3 : Int32} {x4 : Int32} {x5 : Int32} {x6 : Int32} {x7 : Int32} {x8 : Int32} {μ : Mem} {H : Heap} {locs : List Loc} {ls : Array Slot}, k78 x1 x2 x3 x4 x5 x6 x7 x8 μ = some (zr, zm) → av_R av_wc g μ s H locs → lv_has ls 10 [(0, .ref (g.2.2 11)), (1, .int x1), (2, .int x2), (3, .int x3), (4, .int x4), (5, .int x5), (6, .int x6), (7, .int x7), (8, .int x8)] → W p l e (rmN (K + 1)) s m args below meth c H locs 0 0 (MQ below (va_Qi (fun r1 u => r1 = zr ∧ u = zm) (av_B av_wc g) (av_A av_wc g)) args s 0 0 (av_A av_wc g)) (F0 m 78 ls [])) :
    ∀ {x1 : Int32} {x2 : Int32} {x3 : Int32} {x4 : Int32} {x5 : Int32} {x6 : Int32} {x8 : Int32} {y0 : Int32} {μ : Mem} {H : Heap} {locs : List Loc} {ls : Array Slot}, fX1_bestOutcome_134 self k78 x1 x2 x3 x4 x5 x6 x8 y0 μ = some (zr, zm) → av_R av_wc g μ s H locs → lv_has ls 10 [(0, .ref (g.2.2 11)), (1, .int x1), (2, .int x2), (3, .int x3), (4, .int x4), (5, .int x5), (6, .int x6), (8, .int x8)] → W p l e (rmN (K + 1)) s m args below meth c H locs 0 0 (MQ below (va_Qi (fun r1 u => r1 = zr ∧ u = zm) (av_B av_wc g) (av_A av_wc g)) args s 0 0 (av_A av_wc g)) (F0 m 134 ls [.int y0]) := by
  obtain ⟨hx, hb, hr, hml, hown, hts, hlocks⟩ := id E
  intro x1 x2 x3 x4 x5 x6 x8 y0 μ H locs ls h hR hl
  unfold fX1_bestOutcome_134 at h
  refine lv_istore (lv' := [(7, .int y0), (0, .ref (g.2.2 11)), (1, .int x1), (2, .int x2), (3, .int x3), (4, .int x4), (5, .int x5), (6, .int x6), (8, .int x8)]) hx hb dX1_bestOutcome_134 hl (by decide) rfl (fun ls hl => ?_)
  obtain ⟨x8_136, ex8_136, h⟩ := av_bd h
  replace ex8_136 := Option.some.inj ex8_136
  refine lv_iinc (v := x8_136) (lv' := [(8, .int x8_136), (7, .int y0), (0, .ref (g.2.2 11)), (1, .int x1), (2, .int x2), (3, .int x3), (4, .int x4), (5, .int x5), (6, .int x6)]) hx hb dX1_bestOutcome_136 hl (k := 8) rfl ex8_136 (by decide) rfl (fun ls hl => ?_)
  refine lv_goto (tgt := 78) hx hb dX1_bestOutcome_139 (by decide) ?_
  exact hk78 h hR (lv_sub hl [2, 3, 4, 5, 6, 7, 8, 1, 0] rfl)

set_option maxHeartbeats 4000000 in
set_option maxRecDepth 100000 in
theorem tX1_bestOutcome_78 {p : Program} {l : Launch} {e : Env} {s : State} {m : MethodId} {args : Array Value} {below : List Frame} {meth : Method} {c : Code} {g : Gl} {K : Nat} (hK : 5 ≤ K) {self : Int32 → Int32 → Int32 → Int32 → Int32 → Mem → Option (Int32 × Mem)} {zr : Int32} {zm : Mem} (hself : ∀ {a1 : Int32} {a2 : Int32} {a3 : Int32} {a4 : Int32} {a5 : Int32} {μ : Mem} {zr : Int32} {zm : Mem}, self a1 a2 a3 a4 a5 μ = some (zr, zm) → av_MI l yX1_outcomeOf cX1_outcomeOf 7 K (some .int) av_wc g [.ref (g.2.2 11), .int a1, .int a2, .int a3, .int a4, .int a5] μ zr zm) (E : av_E p s m args meth c cX1_bestOutcome RX1 10 (some .int)) (X : av_X av_wc g s) :
    ∀ (n : Nat) {x1 : Int32} {x2 : Int32} {x3 : Int32} {x4 : Int32} {x5 : Int32} {x6 : Int32} {x7 : Int32} {x8 : Int32} {μ : Mem} {H : Heap} {locs : List Loc} {ls : Array Slot}, fX1_bestOutcome_78 self n x1 x2 x3 x4 x5 x6 x7 x8 μ = some (zr, zm) → av_R av_wc g μ s H locs → lv_has ls 10 [(0, .ref (g.2.2 11)), (1, .int x1), (2, .int x2), (3, .int x3), (4, .int x4), (5, .int x5), (6, .int x6), (7, .int x7), (8, .int x8)] → W p l e (rmN (K + 1)) s m args below meth c H locs 0 0 (MQ below (va_Qi (fun r1 u => r1 = zr ∧ u = zm) (av_B av_wc g) (av_A av_wc g)) args s 0 0 (av_A av_wc g)) (F0 m 78 ls []) := by
  obtain ⟨hx, hb, hr, hml, hown, hts, hlocks⟩ := id E
  intro n
  induction n with
  | zero =>
    intro x1 x2 x3 x4 x5 x6 x7 x8 μ H locs ls h hR hl
    cases h
  | succ n ih =>
    intro x1 x2 x3 x4 x5 x6 x7 x8 μ H locs ls h hR hl
    unfold fX1_bestOutcome_78 at h
    refine lv_iload hx hb dX1_bestOutcome_78 (lv_at hl 8 rfl) ?_
    refine lv_aload_n hx hb dX1_bestOutcome_80 rfl (lv_at hl 0 rfl) ?_
    refine gf_X1_27 E X hR av_t11 dX1_bestOutcome_81 av_r11_0 ?_
    refine gf_X1_85 E X hR av_t15 dX1_bestOutcome_84 ?_
    refine lv_icmp_ge (tgt := 142) hx hb dX1_bestOutcome_87 (by decide) (fun c87 => ?_) (fun c87 => ?_)
    · have h := av_it c87 h
      exact tX1_bestOutcome_142 hK hself E X h hR (lv_sub hl [7] rfl)
    · have h := av_if c87 h
      refine lv_iload hx hb dX1_bestOutcome_90 (lv_at hl 7 rfl) ?_
      refine lv_iload hx hb dX1_bestOutcome_92 (lv_at hl 6 rfl) ?_
      refine lv_icmp_eq (tgt := 142) hx hb dX1_bestOutcome_94 (by decide) (fun c94 => ?_) (fun c94 => ?_)
      · have h := av_it c94 h
        exact tX1_bestOutcome_142 hK hself E X h hR (lv_sub hl [7] rfl)
      · have h := av_if c94 h
        refine lv_aload_n hx hb dX1_bestOutcome_97 rfl (lv_at hl 0 rfl) ?_
        refine lv_iload hx hb dX1_bestOutcome_98 (lv_at hl 8 rfl) ?_
        refine lv_iload_n hx hb dX1_bestOutcome_100 rfl (lv_at hl 1 rfl) ?_
        refine lv_iload_n hx hb dX1_bestOutcome_101 rfl (lv_at hl 2 rfl) ?_
        refine lv_iload_n hx hb dX1_bestOutcome_102 rfl (lv_at hl 3 rfl) ?_
        refine lv_iconst (v := 1) hx hb dX1_bestOutcome_103 rfl ?_
        refine lv_isub hx hb dX1_bestOutcome_104 ?_
        refine lv_iload hx hb dX1_bestOutcome_105 (lv_at hl 4 rfl) ?_
        obtain ⟨r107, μ107, er107, h⟩ := av_bd2 h
        refine av_goI hR (av_cV (As := [.int x8, .int x1, .int x2, .int (x3 - 1), .int x4]) (rest := []) E X hR hl.1 (hself er107) kk_X1_121 (av_room (by omega) (by decide)) av_t11 (by decide) rfl rfl (Nat.le_of_ble_eq_true rfl) ⟨Nat.zero_le _, Nat.zero_le _⟩ dX1_bestOutcome_107) (fun H locs hR => ?_)
        refine lv_istore (lv' := [(9, .int r107), (0, .ref (g.2.2 11)), (1, .int x1), (2, .int x2), (3, .int x3), (4, .int x4), (5, .int x5), (6, .int x6), (7, .int x7), (8, .int x8)]) hx hb dX1_bestOutcome_110 hl (by decide) rfl (fun ls hl => ?_)
        refine lv_iload hx hb dX1_bestOutcome_112 (lv_at hl 6 rfl) ?_
        refine lv_if_eq (tgt := 127) hx hb dX1_bestOutcome_114 (by decide) (fun c114 => ?_) (fun c114 => ?_)
        · have h := av_it c114 h
          refine lv_iload hx hb dX1_bestOutcome_127 (lv_at hl 8 rfl) ?_
          refine lv_iload hx hb dX1_bestOutcome_129 (lv_at hl 0 rfl) ?_
          refine av_mn E hl.1 kM_X1_138 (av_rm1 (by omega)) (Nat.le_of_ble_eq_true rfl) ⟨Nat.zero_le _, Nat.zero_le _⟩ dX1_bestOutcome_131 ?_
          exact tX1_bestOutcome_134 hK hself E X ih h hR (lv_sub hl [1, 2, 3, 4, 5, 6, 7, 9] rfl)
        · have h := av_if c114 h
          refine lv_iload hx hb dX1_bestOutcome_117 (lv_at hl 8 rfl) ?_
          refine lv_iload hx hb dX1_bestOutcome_119 (lv_at hl 0 rfl) ?_
          refine av_mx E hl.1 kM_X1_132 (av_rm1 (by omega)) (Nat.le_of_ble_eq_true rfl) ⟨Nat.zero_le _, Nat.zero_le _⟩ dX1_bestOutcome_121 ?_
          refine lv_goto (tgt := 134) hx hb dX1_bestOutcome_124 (by decide) ?_
          exact tX1_bestOutcome_134 hK hself E X ih h hR (lv_sub hl [1, 2, 3, 4, 5, 6, 7, 9] rfl)

set_option maxHeartbeats 4000000 in
set_option maxRecDepth 100000 in
theorem tX1_bestOutcome_73 {p : Program} {l : Launch} {e : Env} {s : State} {m : MethodId} {args : Array Value} {below : List Frame} {meth : Method} {c : Code} {g : Gl} {K : Nat} (hK : 5 ≤ K) {self : Int32 → Int32 → Int32 → Int32 → Int32 → Mem → Option (Int32 × Mem)} {zr : Int32} {zm : Mem} (hself : ∀ {a1 : Int32} {a2 : Int32} {a3 : Int32} {a4 : Int32} {a5 : Int32} {μ : Mem} {zr : Int32} {zm : Mem}, self a1 a2 a3 a4 a5 μ = some (zr, zm) → av_MI l yX1_outcomeOf cX1_outcomeOf 7 K (some .int) av_wc g [.ref (g.2.2 11), .int a1, .int a2, .int a3, .int a4, .int a5] μ zr zm) (E : av_E p s m args meth c cX1_bestOutcome RX1 10 (some .int)) (X : av_X av_wc g s) :
    ∀ {x1 : Int32} {x2 : Int32} {x3 : Int32} {x4 : Int32} {x5 : Int32} {x6 : Int32} {y0 : Int32} {μ : Mem} {H : Heap} {locs : List Loc} {ls : Array Slot}, fX1_bestOutcome_73 self x1 x2 x3 x4 x5 x6 y0 μ = some (zr, zm) → av_R av_wc g μ s H locs → lv_has ls 10 [(0, .ref (g.2.2 11)), (1, .int x1), (2, .int x2), (3, .int x3), (4, .int x4), (5, .int x5), (6, .int x6)] → W p l e (rmN (K + 1)) s m args below meth c H locs 0 0 (MQ below (va_Qi (fun r1 u => r1 = zr ∧ u = zm) (av_B av_wc g) (av_A av_wc g)) args s 0 0 (av_A av_wc g)) (F0 m 73 ls [.int y0]) := by
  obtain ⟨hx, hb, hr, hml, hown, hts, hlocks⟩ := id E
  intro x1 x2 x3 x4 x5 x6 y0 μ H locs ls h hR hl
  unfold fX1_bestOutcome_73 at h
  refine lv_istore (lv' := [(7, .int y0), (0, .ref (g.2.2 11)), (1, .int x1), (2, .int x2), (3, .int x3), (4, .int x4), (5, .int x5), (6, .int x6)]) hx hb dX1_bestOutcome_73 hl (by decide) rfl (fun ls hl => ?_)
  refine lv_iconst (v := 0) hx hb dX1_bestOutcome_75 rfl ?_
  refine lv_istore (lv' := [(8, .int 0), (7, .int y0), (0, .ref (g.2.2 11)), (1, .int x1), (2, .int x2), (3, .int x3), (4, .int x4), (5, .int x5), (6, .int x6)]) hx hb dX1_bestOutcome_76 hl (by decide) rfl (fun ls hl => ?_)
  exact tX1_bestOutcome_78 hK hself E X _ h hR (lv_sub hl [2, 3, 4, 5, 6, 7, 8, 1, 0] rfl)

set_option maxHeartbeats 4000000 in
set_option maxRecDepth 100000 in
theorem tX1_bestOutcome_61 {p : Program} {l : Launch} {e : Env} {s : State} {m : MethodId} {args : Array Value} {below : List Frame} {meth : Method} {c : Code} {g : Gl} {K : Nat} (hK : 5 ≤ K) {self : Int32 → Int32 → Int32 → Int32 → Int32 → Mem → Option (Int32 × Mem)} {zr : Int32} {zm : Mem} (hself : ∀ {a1 : Int32} {a2 : Int32} {a3 : Int32} {a4 : Int32} {a5 : Int32} {μ : Mem} {zr : Int32} {zm : Mem}, self a1 a2 a3 a4 a5 μ = some (zr, zm) → av_MI l yX1_outcomeOf cX1_outcomeOf 7 K (some .int) av_wc g [.ref (g.2.2 11), .int a1, .int a2, .int a3, .int a4, .int a5] μ zr zm) (E : av_E p s m args meth c cX1_bestOutcome RX1 10 (some .int)) (X : av_X av_wc g s) :
    ∀ {x1 : Int32} {x2 : Int32} {x3 : Int32} {x4 : Int32} {x5 : Int32} {y0 : Int32} {μ : Mem} {H : Heap} {locs : List Loc} {ls : Array Slot}, fX1_bestOutcome_61 self x1 x2 x3 x4 x5 y0 μ = some (zr, zm) → av_R av_wc g μ s H locs → lv_has ls 10 [(0, .ref (g.2.2 11)), (1, .int x1), (2, .int x2), (3, .int x3), (4, .int x4), (5, .int x5)] → W p l e (rmN (K + 1)) s m args below meth c H locs 0 0 (MQ below (va_Qi (fun r1 u => r1 = zr ∧ u = zm) (av_B av_wc g) (av_A av_wc g)) args s 0 0 (av_A av_wc g)) (F0 m 61 ls [.int y0]) := by
  obtain ⟨hx, hb, hr, hml, hown, hts, hlocks⟩ := id E
  intro x1 x2 x3 x4 x5 y0 μ H locs ls h hR hl
  unfold fX1_bestOutcome_61 at h
  refine lv_istore (lv' := [(6, .int y0), (0, .ref (g.2.2 11)), (1, .int x1), (2, .int x2), (3, .int x3), (4, .int x4), (5, .int x5)]) hx hb dX1_bestOutcome_61 hl (by decide) rfl (fun ls hl => ?_)
  refine lv_iload hx hb dX1_bestOutcome_63 (lv_at hl 6 rfl) ?_
  refine lv_if_eq (tgt := 72) hx hb dX1_bestOutcome_65 (by decide) (fun c65 => ?_) (fun c65 => ?_)
  · have h := av_it c65 h
    refine lv_iconst (v := 2) hx hb dX1_bestOutcome_72 rfl ?_
    exact tX1_bestOutcome_73 hK hself E X h hR (lv_sub hl [1, 2, 3, 4, 5, 6, 0] rfl)
  · have h := av_if c65 h
    refine lv_iconst (v := 0) hx hb dX1_bestOutcome_68 rfl ?_
    refine lv_goto (tgt := 73) hx hb dX1_bestOutcome_69 (by decide) ?_
    exact tX1_bestOutcome_73 hK hself E X h hR (lv_sub hl [1, 2, 3, 4, 5, 6, 0] rfl)

set_option maxHeartbeats 4000000 in
set_option maxRecDepth 100000 in
theorem tX1_bestOutcome_49 {p : Program} {l : Launch} {e : Env} {s : State} {m : MethodId} {args : Array Value} {below : List Frame} {meth : Method} {c : Code} {g : Gl} {K : Nat} (hK : 5 ≤ K) {self : Int32 → Int32 → Int32 → Int32 → Int32 → Mem → Option (Int32 × Mem)} {zr : Int32} {zm : Mem} (hself : ∀ {a1 : Int32} {a2 : Int32} {a3 : Int32} {a4 : Int32} {a5 : Int32} {μ : Mem} {zr : Int32} {zm : Mem}, self a1 a2 a3 a4 a5 μ = some (zr, zm) → av_MI l yX1_outcomeOf cX1_outcomeOf 7 K (some .int) av_wc g [.ref (g.2.2 11), .int a1, .int a2, .int a3, .int a4, .int a5] μ zr zm) (E : av_E p s m args meth c cX1_bestOutcome RX1 10 (some .int)) (X : av_X av_wc g s) :
    ∀ {x1 : Int32} {x2 : Int32} {x3 : Int32} {x4 : Int32} {y0 : Int32} {μ : Mem} {H : Heap} {locs : List Loc} {ls : Array Slot}, fX1_bestOutcome_49 self x1 x2 x3 x4 y0 μ = some (zr, zm) → av_R av_wc g μ s H locs → lv_has ls 10 [(0, .ref (g.2.2 11)), (1, .int x1), (2, .int x2), (3, .int x3), (4, .int x4)] → W p l e (rmN (K + 1)) s m args below meth c H locs 0 0 (MQ below (va_Qi (fun r1 u => r1 = zr ∧ u = zm) (av_B av_wc g) (av_A av_wc g)) args s 0 0 (av_A av_wc g)) (F0 m 49 ls [.int y0]) := by
  obtain ⟨hx, hb, hr, hml, hown, hts, hlocks⟩ := id E
  intro x1 x2 x3 x4 y0 μ H locs ls h hR hl
  unfold fX1_bestOutcome_49 at h
  refine lv_istore (lv' := [(5, .int y0), (0, .ref (g.2.2 11)), (1, .int x1), (2, .int x2), (3, .int x3), (4, .int x4)]) hx hb dX1_bestOutcome_49 hl (by decide) rfl (fun ls hl => ?_)
  refine lv_iload hx hb dX1_bestOutcome_51 (lv_at hl 0 rfl) ?_
  refine lv_if_eq (tgt := 60) hx hb dX1_bestOutcome_53 (by decide) (fun c53 => ?_) (fun c53 => ?_)
  · have h := av_it c53 h
    refine lv_iconst (v := 0) hx hb dX1_bestOutcome_60 rfl ?_
    exact tX1_bestOutcome_61 hK hself E X h hR (lv_sub hl [1, 2, 3, 4, 5, 0] rfl)
  · have h := av_if c53 h
    refine lv_iconst (v := 2) hx hb dX1_bestOutcome_56 rfl ?_
    refine lv_goto (tgt := 61) hx hb dX1_bestOutcome_57 (by decide) ?_
    exact tX1_bestOutcome_61 hK hself E X h hR (lv_sub hl [1, 2, 3, 4, 5, 0] rfl)

set_option maxHeartbeats 4000000 in
set_option maxRecDepth 100000 in
theorem tX1_bestOutcome_35 {p : Program} {l : Launch} {e : Env} {s : State} {m : MethodId} {args : Array Value} {below : List Frame} {meth : Method} {c : Code} {g : Gl} {K : Nat} (hK : 5 ≤ K) {self : Int32 → Int32 → Int32 → Int32 → Int32 → Mem → Option (Int32 × Mem)} {zr : Int32} {zm : Mem} (hself : ∀ {a1 : Int32} {a2 : Int32} {a3 : Int32} {a4 : Int32} {a5 : Int32} {μ : Mem} {zr : Int32} {zm : Mem}, self a1 a2 a3 a4 a5 μ = some (zr, zm) → av_MI l yX1_outcomeOf cX1_outcomeOf 7 K (some .int) av_wc g [.ref (g.2.2 11), .int a1, .int a2, .int a3, .int a4, .int a5] μ zr zm) (E : av_E p s m args meth c cX1_bestOutcome RX1 10 (some .int)) (X : av_X av_wc g s) :
    ∀ {μ : Mem} {H : Heap} {locs : List Loc} {ls : Array Slot}, fX1_bestOutcome_35 self μ = some (zr, zm) → av_R av_wc g μ s H locs → lv_has ls 10 [] → W p l e (rmN (K + 1)) s m args below meth c H locs 0 0 (MQ below (va_Qi (fun r1 u => r1 = zr ∧ u = zm) (av_B av_wc g) (av_A av_wc g)) args s 0 0 (av_A av_wc g)) (F0 m 35 ls []) := by
  obtain ⟨hx, hb, hr, hml, hown, hts, hlocks⟩ := id E
  intro μ H locs ls h hR hl
  unfold fX1_bestOutcome_35 at h
  refine lv_iconst (v := 1) hx hb dX1_bestOutcome_35 rfl ?_
  exact av_ri E hR (av_r2 h) dX1_bestOutcome_36

set_option maxHeartbeats 4000000 in
set_option maxRecDepth 100000 in
theorem CX1_bestOutcome {K : Nat} (hK : 5 ≤ K) (l : Launch) (g : Gl) {self : Int32 → Int32 → Int32 → Int32 → Int32 → Mem → Option (Int32 × Mem)} (hself : ∀ {a1 : Int32} {a2 : Int32} {a3 : Int32} {a4 : Int32} {a5 : Int32} {μ : Mem} {zr : Int32} {zm : Mem}, self a1 a2 a3 a4 a5 μ = some (zr, zm) → av_MI l yX1_outcomeOf cX1_outcomeOf 7 K (some .int) av_wc g [.ref (g.2.2 11), .int a1, .int a2, .int a3, .int a4, .int a5] μ zr zm) {a1 : Int32} {a2 : Int32} {a3 : Int32} {a4 : Int32} {μ : Mem} {zr : Int32} {zm : Mem} (h : fX1_bestOutcome self a1 a2 a3 a4 μ = some (zr, zm)) : av_MI l yX1_bestOutcome cX1_bestOutcome 10 (K + 1) (some .int) av_wc g [.ref (g.2.2 11), .int a1, .int a2, .int a3, .int a4] μ zr zm := by
  refine av_ent (own := RX1) (by decide) (Nat.le_of_ble_eq_true rfl) rfl (fun p e s m args below meth c E X hR ls hl => ?_)
  have hl : lv_has ls 10 [(0, .ref (g.2.2 11)), (1, .int a1), (2, .int a2), (3, .int a3), (4, .int a4)] := hl
  obtain ⟨hx, hb, hr, hml, hown, hts, hlocks⟩ := id E
  unfold fX1_bestOutcome at h
  refine lv_iload_n hx hb dX1_bestOutcome_0 rfl (lv_at hl 3 rfl) ?_
  refine lv_if_le (tgt := 35) hx hb dX1_bestOutcome_1 (by decide) (fun c1 => ?_) (fun c1 => ?_)
  · have h := av_it c1 h
    exact tX1_bestOutcome_35 hK hself E X h hR (lv_sub hl [] rfl)
  · have h := av_if c1 h
    refine lv_aload_n hx hb dX1_bestOutcome_4 rfl (lv_at hl 0 rfl) ?_
    refine gf_X1_11 E X hR av_t11 dX1_bestOutcome_5 av_r11_2 ?_
    refine lv_iload hx hb dX1_bestOutcome_8 (lv_at hl 4 rfl) ?_
    obtain ⟨r10, er10, h⟩ := av_bd h
    refine av_al E X hR av_t12 (by decide) (t0 := 5) rfl er10 dX1_bestOutcome_10 ?_
    refine lv_aload_n hx hb dX1_bestOutcome_11 rfl (lv_at hl 0 rfl) ?_
    refine gf_X1_27 E X hR av_t11 dX1_bestOutcome_12 av_r11_0 ?_
    refine lv_iload_n hx hb dX1_bestOutcome_15 rfl (lv_at hl 1 rfl) ?_
    obtain ⟨r16, er16, h⟩ := av_bd h
    refine av_goI hR (av_cV (As := [.int a1]) (rest := [.ref (g.2.2 r10)]) E X hR hl.1 (CX9_bitsAbove l g av_t15 er16) kk_X1_82 (av_room (by omega) (by decide)) av_t15 (by decide) rfl rfl (Nat.le_of_ble_eq_true rfl) ⟨Nat.zero_le _, Nat.zero_le _⟩ dX1_bestOutcome_16) (fun H locs hR => ?_)
    refine lv_aload_n hx hb dX1_bestOutcome_19 rfl (lv_at hl 0 rfl) ?_
    refine gf_X1_27 E X hR av_t11 dX1_bestOutcome_20 av_r11_0 ?_
    refine lv_iload_n hx hb dX1_bestOutcome_23 rfl (lv_at hl 2 rfl) ?_
    obtain ⟨r24, er24, h⟩ := av_bd h
    refine av_goI hR (av_cV (As := [.int a2]) (rest := [.int r16, .ref (g.2.2 r10)]) E X hR hl.1 (CX9_bitsAbove l g av_t15 er24) kk_X1_82 (av_room (by omega) (by decide)) av_t15 (by decide) rfl rfl (Nat.le_of_ble_eq_true rfl) ⟨Nat.zero_le _, Nat.zero_le _⟩ dX1_bestOutcome_24) (fun H locs hR => ?_)
    refine lv_ior hx hb dX1_bestOutcome_27 ?_
    refine lv_iload_n hx hb dX1_bestOutcome_28 rfl (lv_at hl 3 rfl) ?_
    obtain ⟨r29, er29, h⟩ := av_bd h
    refine av_goI hR (av_cV (As := [.int (r16 ||| r24), .int a3]) (rest := []) E X hR hl.1 (CX7_mayStart l g (av_ty18 av_t12 er10) er29) kk_X1_106 (av_room (by omega) (by decide)) (av_ty18 av_t12 er10) (by decide) rfl rfl (Nat.le_of_ble_eq_true rfl) ⟨Nat.zero_le _, Nat.zero_le _⟩ dX1_bestOutcome_29) (fun H locs hR => ?_)
    refine lv_if_ne (tgt := 37) hx hb dX1_bestOutcome_32 (by decide) (fun c32 => ?_) (fun c32 => ?_)
    · have h := av_if c32 h
      refine lv_iload hx hb dX1_bestOutcome_37 (lv_at hl 4 rfl) ?_
      refine lv_iconst (v := 2) hx hb dX1_bestOutcome_39 rfl ?_
      refine lv_irem hx hb dX1_bestOutcome_40 (by decide) ?_
      refine lv_if_ne (tgt := 48) hx hb dX1_bestOutcome_41 (by decide) (fun c41 => ?_) (fun c41 => ?_)
      · have h := av_if c41 h
        refine lv_iconst (v := 0) hx hb dX1_bestOutcome_48 rfl ?_
        exact tX1_bestOutcome_49 hK hself E X h hR (lv_sub hl [0, 1, 2, 3, 4] rfl)
      · have h := av_it c41 h
        refine lv_iconst (v := 1) hx hb dX1_bestOutcome_44 rfl ?_
        refine lv_goto (tgt := 49) hx hb dX1_bestOutcome_45 (by decide) ?_
        exact tX1_bestOutcome_49 hK hself E X h hR (lv_sub hl [0, 1, 2, 3, 4] rfl)
    · have h := av_it c32 h
      exact tX1_bestOutcome_35 hK hself E X h hR (lv_sub hl [] rfl)

set_option maxHeartbeats 4000000 in
set_option maxRecDepth 100000 in
theorem CX1_outcomeOf_b {K : Nat} (hK : 5 ≤ K) (l : Launch) (g : Gl) {self : Int32 → Int32 → Int32 → Int32 → Int32 → Mem → Option (Int32 × Mem)} (hself : ∀ {a1 : Int32} {a2 : Int32} {a3 : Int32} {a4 : Int32} {a5 : Int32} {μ : Mem} {zr : Int32} {zm : Mem}, self a1 a2 a3 a4 a5 μ = some (zr, zm) → av_MI l yX1_outcomeOf cX1_outcomeOf 7 K (some .int) av_wc g [.ref (g.2.2 11), .int a1, .int a2, .int a3, .int a4, .int a5] μ zr zm) {a1 : Int32} {a2 : Int32} {a3 : Int32} {a4 : Int32} {a5 : Int32} {μ : Mem} {zr : Int32} {zm : Mem} (h : fX1_outcomeOf_b self a1 a2 a3 a4 a5 μ = some (zr, zm)) : av_MI l yX1_outcomeOf cX1_outcomeOf 7 (K + 2) (some .int) av_wc g [.ref (g.2.2 11), .int a1, .int a2, .int a3, .int a4, .int a5] μ zr zm := by
  refine av_ent (own := RX1) (by decide) (Nat.le_of_ble_eq_true rfl) rfl (fun p e s m args below meth c E X hR ls hl => ?_)
  have hl : lv_has ls 7 [(0, .ref (g.2.2 11)), (1, .int a1), (2, .int a2), (3, .int a3), (4, .int a4), (5, .int a5)] := hl
  obtain ⟨hx, hb, hr, hml, hown, hts, hlocks⟩ := id E
  unfold fX1_outcomeOf_b at h
  refine lv_aload_n hx hb dX1_outcomeOf_0 rfl (lv_at hl 0 rfl) ?_
  refine lv_iload hx hb dX1_outcomeOf_1 (lv_at hl 5 rfl) ?_
  obtain ⟨r3, er3, h⟩ := av_bd h
  refine av_goI hR (av_cV (As := [.int a5]) (rest := []) E X hR hl.1 (CX1_isDeepest l g er3) kk_X1_66 (av_room (by omega) (by decide)) av_t11 (by decide) rfl rfl (Nat.le_of_ble_eq_true rfl) ⟨Nat.zero_le _, Nat.zero_le _⟩ dX1_outcomeOf_3) (fun H locs hR => ?_)
  refine lv_if_eq (tgt := 11) hx hb dX1_outcomeOf_6 (by decide) (fun c6 => ?_) (fun c6 => ?_)
  · have h := av_it c6 h
    refine lv_aload_n hx hb dX1_outcomeOf_11 rfl (lv_at hl 0 rfl) ?_
    refine lv_iload_n hx hb dX1_outcomeOf_12 rfl (lv_at hl 1 rfl) ?_
    refine lv_iload hx hb dX1_outcomeOf_13 (lv_at hl 5 rfl) ?_
    obtain ⟨r15, μ15, er15, h⟩ := av_bd2 h
    refine av_goR hR (av_cV (As := [.int a1, .int a5]) (rest := []) E X hR hl.1 (CX1_afterStone l g er15) kk_X1_95 (av_room (by omega) (by decide)) av_t11 (by decide) rfl rfl (Nat.le_of_ble_eq_true rfl) ⟨Nat.zero_le _, Nat.zero_le _⟩ dX1_outcomeOf_15) (fun H locs hR => ?_)
    refine lv_astore (lv' := [(6, .ref (g.2.2 r15)), (0, .ref (g.2.2 11)), (1, .int a1), (2, .int a2), (3, .int a3), (4, .int a4), (5, .int a5)]) hx hb dX1_outcomeOf_18 hl (by decide) rfl (fun ls hl => ?_)
    refine lv_aload hx hb dX1_outcomeOf_20 (lv_at hl 0 rfl) ?_
    refine lv_iload_n hx hb dX1_outcomeOf_22 rfl (lv_at hl 3 rfl) ?_
    refine lv_iload_n hx hb dX1_outcomeOf_23 rfl (lv_at hl 4 rfl) ?_
    obtain ⟨r24, er24, h⟩ := av_bd h
    refine av_goI hR (av_cV (As := [.int a2, .int a3]) (rest := []) E X hR hl.1 (CX7_fellAhead l g (tyX1_afterStone er15) er24) kk_X1_125 (av_room (by omega) (by decide)) (tyX1_afterStone er15) (by decide) rfl rfl (Nat.le_of_ble_eq_true rfl) ⟨Nat.zero_le _, Nat.zero_le _⟩ dX1_outcomeOf_24) (fun H locs hR => ?_)
    refine lv_if_eq (tgt := 32) hx hb dX1_outcomeOf_27 (by decide) (fun c27 => ?_) (fun c27 => ?_)
    · have h := av_it c27 h
      refine lv_aload hx hb dX1_outcomeOf_32 (lv_at hl 0 rfl) ?_
      refine lv_iload_n hx hb dX1_outcomeOf_34 rfl (lv_at hl 4 rfl) ?_
      refine lv_iload_n hx hb dX1_outcomeOf_35 rfl (lv_at hl 3 rfl) ?_
      obtain ⟨r36, er36, h⟩ := av_bd h
      refine av_goI hR (av_cV (As := [.int a3, .int a2]) (rest := []) E X hR hl.1 (CX7_fellAhead l g (tyX1_afterStone er15) er36) kk_X1_125 (av_room (by omega) (by decide)) (tyX1_afterStone er15) (by decide) rfl rfl (Nat.le_of_ble_eq_true rfl) ⟨Nat.zero_le _, Nat.zero_le _⟩ dX1_outcomeOf_36) (fun H locs hR => ?_)
      refine lv_if_eq (tgt := 46) hx hb dX1_outcomeOf_39 (by decide) (fun c39 => ?_) (fun c39 => ?_)
      · have h := av_it c39 h
        refine lv_aload_n hx hb dX1_outcomeOf_46 rfl (lv_at hl 1 rfl) ?_
        refine lv_iload_n hx hb dX1_outcomeOf_47 rfl (lv_at hl 3 rfl) ?_
        refine lv_iload_n hx hb dX1_outcomeOf_48 rfl (lv_at hl 4 rfl) ?_
        refine lv_iload hx hb dX1_outcomeOf_49 (lv_at hl 5 rfl) ?_
        refine lv_iload hx hb dX1_outcomeOf_51 (lv_at hl 6 rfl) ?_
        refine lv_iconst (v := 1) hx hb dX1_outcomeOf_53 rfl ?_
        refine lv_iadd hx hb dX1_outcomeOf_54 ?_
        obtain ⟨r55, μ55, er55, h⟩ := av_bd2 h
        refine av_goI hR (av_cV (As := [.int a2, .int a3, .int a4, .int (a5 + 1)]) (rest := []) E X hR hl.1 (CX1_bestOutcome hK l g hself er55) kk_X1_128 (av_room (by omega) (by decide)) av_t11 (by decide) rfl rfl (Nat.le_of_ble_eq_true rfl) ⟨Nat.zero_le _, Nat.zero_le _⟩ dX1_outcomeOf_55) (fun H locs hR => ?_)
        exact av_ri E hR (av_r2 h) dX1_outcomeOf_58
      · have h := av_if c39 h
        refine lv_iconst (v := 0) hx hb dX1_outcomeOf_42 rfl ?_
        refine lv_goto (tgt := 58) hx hb dX1_outcomeOf_43 (by decide) ?_
        exact av_ri E hR (av_r2 h) dX1_outcomeOf_58
    · have h := av_if c27 h
      refine lv_iconst (v := 2) hx hb dX1_outcomeOf_30 rfl ?_
      exact av_ri E hR (av_r2 h) dX1_outcomeOf_31
  · have h := av_if c6 h
    refine lv_iconst (v := 1) hx hb dX1_outcomeOf_9 rfl ?_
    exact av_ri E hR (av_r2 h) dX1_outcomeOf_10

theorem CX1_outcomeOf_d (l : Launch) (g : Gl) : ∀ (d : Nat) {a1 : Int32} {a2 : Int32} {a3 : Int32} {a4 : Int32} {a5 : Int32} {μ : Mem} {zr : Int32} {zm : Mem}, fX1_outcomeOf d a1 a2 a3 a4 a5 μ = some (zr, zm) → av_MI l yX1_outcomeOf cX1_outcomeOf 7 (5 + 2 * d) (some .int) av_wc g [.ref (g.2.2 11), .int a1, .int a2, .int a3, .int a4, .int a5] μ zr zm
  | 0 => by
    intro  h
    cases h
  | d + 1 => by
    intro  h
    exact CX1_outcomeOf_b (K := 5 + 2 * d) (by omega) l g (CX1_outcomeOf_d l g d) h
theorem CX1_outcomeOf (l : Launch) (g : Gl) {a1 : Int32} {a2 : Int32} {a3 : Int32} {a4 : Int32} {a5 : Int32} {μ : Mem} {zr : Int32} {zm : Mem} (h : fX1_outcomeOf 8 a1 a2 a3 a4 a5 μ = some (zr, zm)) : av_MI l yX1_outcomeOf cX1_outcomeOf 7 21 (some .int) av_wc g [.ref (g.2.2 11), .int a1, .int a2, .int a3, .int a4, .int a5] μ zr zm := CX1_outcomeOf_d l g 8 h

set_option maxHeartbeats 4000000 in
set_option maxRecDepth 100000 in
theorem tX1_play_66 {p : Program} {l : Launch} {e : Env} {s : State} {m : MethodId} {args : Array Value} {below : List Frame} {meth : Method} {c : Code} {g : Gl} {zr : Int32} {zm : Mem} (E : av_E p s m args meth c cX1_play RX1 7 (some .int)) (X : av_X av_wc g s) :
    ∀ {x4 : Int32} {μ : Mem} {H : Heap} {locs : List Loc} {ls : Array Slot}, fX1_play_66 x4 μ = some (zr, zm) → av_R av_wc g μ s H locs → lv_has ls 7 [(4, .int x4)] → W p l e (rmN 22) s m args below meth c H locs 0 0 (MQ below (va_Qi (fun r1 u => r1 = zr ∧ u = zm) (av_B av_wc g) (av_A av_wc g)) args s 0 0 (av_A av_wc g)) (F0 m 66 ls []) := by
  obtain ⟨hx, hb, hr, hml, hown, hts, hlocks⟩ := id E
  intro x4 μ H locs ls h hR hl
  unfold fX1_play_66 at h
  refine lv_iload hx hb dX1_play_66 (lv_at hl 0 rfl) ?_
  exact av_ri E hR (av_r2 h) dX1_play_68

set_option maxHeartbeats 4000000 in
set_option maxRecDepth 100000 in
theorem tX1_play_60 {p : Program} {l : Launch} {e : Env} {s : State} {m : MethodId} {args : Array Value} {below : List Frame} {meth : Method} {c : Code} {g : Gl} {zr : Int32} {zm : Mem} (E : av_E p s m args meth c cX1_play RX1 7 (some .int)) (X : av_X av_wc g s) {k11 : Int32 → Int32 → Int32 → Int32 → Int32 → Mem → Option (Int32 × Mem)} (hk11 : ∀ {x1 : Int32} {x2 : Int32} {x3 : Int32} {x4 : Int32} {x5 : Int32} {μ : Mem} {H : Heap} {locs : List Loc} {ls : Array Slot}, k11 x1 x2 x3 x4 x5 μ = some (zr, zm) → av_R av_wc g μ s H locs → lv_has ls 7 [(0, .ref (g.2.2 11)), (1, .int x1), (2, .int x2), (3, .int x3), (4, .int x4), (5, .int x5)] → W p l e (rmN 22) s m args below meth c H locs 0 0 (MQ below (va_Qi (fun r1 u => r1 = zr ∧ u = zm) (av_B av_wc g) (av_A av_wc g)) args s 0 0 (av_A av_wc g)) (F0 m 11 ls [])) :
    ∀ {x1 : Int32} {x2 : Int32} {x3 : Int32} {x4 : Int32} {x5 : Int32} {μ : Mem} {H : Heap} {locs : List Loc} {ls : Array Slot}, fX1_play_60 k11 x1 x2 x3 x4 x5 μ = some (zr, zm) → av_R av_wc g μ s H locs → lv_has ls 7 [(0, .ref (g.2.2 11)), (1, .int x1), (2, .int x2), (3, .int x3), (4, .int x4), (5, .int x5)] → W p l e (rmN 22) s m args below meth c H locs 0 0 (MQ below (va_Qi (fun r1 u => r1 = zr ∧ u = zm) (av_B av_wc g) (av_A av_wc g)) args s 0 0 (av_A av_wc g)) (F0 m 60 ls []) := by
  obtain ⟨hx, hb, hr, hml, hown, hts, hlocks⟩ := id E
  intro x1 x2 x3 x4 x5 μ H locs ls h hR hl
  unfold fX1_play_60 at h
  obtain ⟨x5_60, ex5_60, h⟩ := av_bd h
  replace ex5_60 := Option.some.inj ex5_60
  refine lv_iinc (v := x5_60) (lv' := [(5, .int x5_60), (0, .ref (g.2.2 11)), (1, .int x1), (2, .int x2), (3, .int x3), (4, .int x4)]) hx hb dX1_play_60 hl (k := 5) rfl ex5_60 (by decide) rfl (fun ls hl => ?_)
  refine lv_goto (tgt := 11) hx hb dX1_play_63 (by decide) ?_
  exact hk11 h hR (lv_sub hl [1, 2, 3, 4, 5, 0] rfl)

set_option maxHeartbeats 4000000 in
set_option maxRecDepth 100000 in
theorem tX1_play_11 {p : Program} {l : Launch} {e : Env} {s : State} {m : MethodId} {args : Array Value} {below : List Frame} {meth : Method} {c : Code} {g : Gl} {zr : Int32} {zm : Mem} (E : av_E p s m args meth c cX1_play RX1 7 (some .int)) (X : av_X av_wc g s) :
    ∀ (n : Nat) {x1 : Int32} {x2 : Int32} {x3 : Int32} {x4 : Int32} {x5 : Int32} {μ : Mem} {H : Heap} {locs : List Loc} {ls : Array Slot}, fX1_play_11 n x1 x2 x3 x4 x5 μ = some (zr, zm) → av_R av_wc g μ s H locs → lv_has ls 7 [(0, .ref (g.2.2 11)), (1, .int x1), (2, .int x2), (3, .int x3), (4, .int x4), (5, .int x5)] → W p l e (rmN 22) s m args below meth c H locs 0 0 (MQ below (va_Qi (fun r1 u => r1 = zr ∧ u = zm) (av_B av_wc g) (av_A av_wc g)) args s 0 0 (av_A av_wc g)) (F0 m 11 ls []) := by
  obtain ⟨hx, hb, hr, hml, hown, hts, hlocks⟩ := id E
  intro n
  induction n with
  | zero =>
    intro x1 x2 x3 x4 x5 μ H locs ls h hR hl
    cases h
  | succ n ih =>
    intro x1 x2 x3 x4 x5 μ H locs ls h hR hl
    unfold fX1_play_11 at h
    refine lv_iload hx hb dX1_play_11 (lv_at hl 5 rfl) ?_
    refine lv_aload_n hx hb dX1_play_13 rfl (lv_at hl 0 rfl) ?_
    refine gf_X1_27 E X hR av_t11 dX1_play_14 av_r11_0 ?_
    refine gf_X1_85 E X hR av_t15 dX1_play_17 ?_
    refine lv_icmp_ge (tgt := 66) hx hb dX1_play_20 (by decide) (fun c20 => ?_) (fun c20 => ?_)
    · have h := av_it c20 h
      exact tX1_play_66 E X h hR (lv_sub hl [4] rfl)
    · have h := av_if c20 h
      refine lv_iload hx hb dX1_play_23 (lv_at hl 4 rfl) ?_
      refine lv_iconst (v := 2) hx hb dX1_play_25 rfl ?_
      refine lv_icmp_ge (tgt := 66) hx hb dX1_play_26 (by decide) (fun c26 => ?_) (fun c26 => ?_)
      · have h := av_it c26 h
        exact tX1_play_66 E X h hR (lv_sub hl [4] rfl)
      · have h := av_if c26 h
        refine lv_aload_n hx hb dX1_play_29 rfl (lv_at hl 0 rfl) ?_
        refine lv_iload hx hb dX1_play_30 (lv_at hl 5 rfl) ?_
        refine lv_iload_n hx hb dX1_play_32 rfl (lv_at hl 1 rfl) ?_
        refine lv_iload_n hx hb dX1_play_33 rfl (lv_at hl 2 rfl) ?_
        refine lv_iload_n hx hb dX1_play_34 rfl (lv_at hl 3 rfl) ?_
        refine lv_iconst (v := 1) hx hb dX1_play_35 rfl ?_
        refine lv_isub hx hb dX1_play_36 ?_
        refine lv_iconst (v := 0) hx hb dX1_play_37 rfl ?_
        obtain ⟨r38, μ38, er38, h⟩ := av_bd2 h
        refine av_goI hR (av_cV (As := [.int x5, .int x1, .int x2, .int (x3 - 1), .int 0]) (rest := []) E X hR hl.1 (CX1_outcomeOf l g er38) kk_X1_121 (av_room (by omega) (by decide)) av_t11 (by decide) rfl rfl (Nat.le_of_ble_eq_true rfl) ⟨Nat.zero_le _, Nat.zero_le _⟩ dX1_play_38) (fun H locs hR => ?_)
        refine lv_istore (lv' := [(6, .int r38), (0, .ref (g.2.2 11)), (1, .int x1), (2, .int x2), (3, .int x3), (4, .int x4), (5, .int x5)]) hx hb dX1_play_41 hl (by decide) rfl (fun ls hl => ?_)
        refine lv_iload hx hb dX1_play_43 (lv_at hl 0 rfl) ?_
        refine lv_iload hx hb dX1_play_45 (lv_at hl 5 rfl) ?_
        refine lv_icmp_le (tgt := 60) hx hb dX1_play_47 (by decide) (fun c47 => ?_) (fun c47 => ?_)
        · have h := av_it c47 h
          exact tX1_play_60 E X ih h hR (lv_sub hl [1, 2, 3, 4, 5, 6] rfl)
        · have h := av_if c47 h
          refine lv_iload hx hb dX1_play_50 (lv_at hl 0 rfl) ?_
          refine lv_istore (lv' := [(4, .int r38), (6, .int r38), (0, .ref (g.2.2 11)), (1, .int x1), (2, .int x2), (3, .int x3), (5, .int x5)]) hx hb dX1_play_52 hl (by decide) rfl (fun ls hl => ?_)
          refine lv_aload_n hx hb dX1_play_54 rfl (lv_at hl 2 rfl) ?_
          refine lv_iload hx hb dX1_play_55 (lv_at hl 6 rfl) ?_
          obtain ⟨μ57, eμ57, h⟩ := av_bd h
          replace eμ57 := Option.some.inj eμ57
          refine pf_X1_92 E X hR av_t11 dX1_play_57 eμ57 (fun H locs hR => ?_)
          exact tX1_play_60 E X ih h hR (lv_sub hl [2, 3, 4, 5, 0, 6] rfl)

set_option maxHeartbeats 4000000 in
set_option maxRecDepth 100000 in
theorem CX1_play (l : Launch) (g : Gl) {a1 : Int32} {a2 : Int32} {a3 : Int32} {μ : Mem} {zr : Int32} {zm : Mem} (h : fX1_play a1 a2 a3 μ = some (zr, zm)) : av_MI l yX1_play cX1_play 7 22 (some .int) av_wc g [.ref (g.2.2 11), .int a1, .int a2, .int a3] μ zr zm := by
  refine av_ent (own := RX1) (by decide) (Nat.le_of_ble_eq_true rfl) rfl (fun p e s m args below meth c E X hR ls hl => ?_)
  have hl : lv_has ls 7 [(0, .ref (g.2.2 11)), (1, .int a1), (2, .int a2), (3, .int a3)] := hl
  obtain ⟨hx, hb, hr, hml, hown, hts, hlocks⟩ := id E
  unfold fX1_play at h
  refine lv_aload_n hx hb dX1_play_0 rfl (lv_at hl 0 rfl) ?_
  obtain ⟨r1, μ1, er1, h⟩ := av_bd2 h
  refine av_goR hR (av_cV (As := []) (rest := []) E X hR hl.1 (CX1_fresh l g er1) kk_X1_42 (av_room (by omega) (by decide)) av_t11 (by decide) rfl rfl (Nat.le_of_ble_eq_true rfl) ⟨Nat.zero_le _, Nat.zero_le _⟩ dX1_play_1) (fun H locs hR => ?_)
  refine lv_pop hx hb dX1_play_4 rfl ?_
  refine lv_iconst (v := (-1)) hx hb dX1_play_5 rfl ?_
  refine lv_istore (lv' := [(4, .int (-1)), (0, .ref (g.2.2 11)), (1, .int a1), (2, .int a2), (3, .int a3)]) hx hb dX1_play_6 hl (by decide) rfl (fun ls hl => ?_)
  refine lv_iconst (v := 0) hx hb dX1_play_8 rfl ?_
  refine lv_istore (lv' := [(5, .int 0), (4, .int (-1)), (0, .ref (g.2.2 11)), (1, .int a1), (2, .int a2), (3, .int a3)]) hx hb dX1_play_9 hl (by decide) rfl (fun ls hl => ?_)
  exact tX1_play_11 E X _ h hR (lv_sub hl [2, 3, 4, 5, 1, 0] rfl)

set_option maxHeartbeats 4000000 in
set_option maxRecDepth 100000 in
theorem tX1_partsFrom_145 {p : Program} {l : Launch} {e : Env} {s : State} {m : MethodId} {args : Array Value} {below : List Frame} {meth : Method} {c : Code} {g : Gl} {K : Nat} (hK : 5 ≤ K) {self : Int32 → Int32 → Int32 → Int32 → Mem → Option (Int64 × Mem)} {zr : Int64} {zm : Mem} (hself : ∀ {a1 : Int32} {a2 : Int32} {a3 : Int32} {a4 : Int32} {μ : Mem} {zr : Int64} {zm : Mem}, self a1 a2 a3 a4 μ = some (zr, zm) → av_ML l yX1_partsFrom cX1_partsFrom 9 K (some .long) av_wc g [.ref (g.2.2 11), .int a1, .int a2, .int a3, .int a4] μ zr zm) (E : av_E p s m args meth c cX1_partsFrom RX1 9 (some .long)) (X : av_X av_wc g s) :
    ∀ {x7 : Int64} {μ : Mem} {H : Heap} {locs : List Loc} {ls : Array Slot}, fX1_partsFrom_145 self x7 μ = some (zr, zm) → av_R av_wc g μ s H locs → lv_has ls 9 [(7, .long x7)] → W p l e (rmN (K + 2)) s m args below meth c H locs 0 0 (MQ below (va_Ql (fun r1 u => r1 = zr ∧ u = zm) (av_B av_wc g) (av_A av_wc g)) args s 0 0 (av_A av_wc g)) (F0 m 145 ls []) := by
  obtain ⟨hx, hb, hr, hml, hown, hts, hlocks⟩ := id E
  intro x7 μ H locs ls h hR hl
  unfold fX1_partsFrom_145 at h
  refine lv_lload hx hb dX1_partsFrom_145 (lv_at hl 0 rfl) ?_
  exact av_rl E hR (av_r2 h) dX1_partsFrom_147

set_option maxHeartbeats 4000000 in
set_option maxRecDepth 100000 in
theorem tX1_partsFrom_88 {p : Program} {l : Launch} {e : Env} {s : State} {m : MethodId} {args : Array Value} {below : List Frame} {meth : Method} {c : Code} {g : Gl} {K : Nat} (hK : 5 ≤ K) {self : Int32 → Int32 → Int32 → Int32 → Mem → Option (Int64 × Mem)} {zr : Int64} {zm : Mem} (hself : ∀ {a1 : Int32} {a2 : Int32} {a3 : Int32} {a4 : Int32} {μ : Mem} {zr : Int64} {zm : Mem}, self a1 a2 a3 a4 μ = some (zr, zm) → av_ML l yX1_partsFrom cX1_partsFrom 9 K (some .long) av_wc g [.ref (g.2.2 11), .int a1, .int a2, .int a3, .int a4] μ zr zm) (E : av_E p s m args meth c cX1_partsFrom RX1 9 (some .long)) (X : av_X av_wc g s) :
    ∀ {x1 : Int32} {x2 : Int32} {x3 : Int32} {x4 : Int32} {x5 : Nat} {x7 : Int64} (hx5 : av_t av_wc x5 7) {μ : Mem} {H : Heap} {locs : List Loc} {ls : Array Slot}, fX1_partsFrom_88 self x1 x2 x3 x4 x5 x7 μ = some (zr, zm) → av_R av_wc g μ s H locs → lv_has ls 9 [(0, .ref (g.2.2 11)), (1, .int x1), (2, .int x2), (3, .int x3), (4, .int x4), (5, .ref (g.2.2 x5)), (7, .long x7)] → W p l e (rmN (K + 2)) s m args below meth c H locs 0 0 (MQ below (va_Ql (fun r1 u => r1 = zr ∧ u = zm) (av_B av_wc g) (av_A av_wc g)) args s 0 0 (av_A av_wc g)) (F0 m 88 ls []) := by
  obtain ⟨hx, hb, hr, hml, hown, hts, hlocks⟩ := id E
  intro x1 x2 x3 x4 x5 x7 hx5 μ H locs ls h hR hl
  unfold fX1_partsFrom_88 at h
  refine lv_iload_n hx hb dX1_partsFrom_88 rfl (lv_at hl 3 rfl) ?_
  refine lv_bipush (v := 10) hx hb dX1_partsFrom_89 rfl ?_
  refine lv_icmp_ge (tgt := 145) hx hb dX1_partsFrom_91 (by decide) (fun c91 => ?_) (fun c91 => ?_)
  · have h := av_it c91 h
    exact tX1_partsFrom_145 hK hself E X h hR (lv_sub hl [6] rfl)
  · have h := av_if c91 h
    refine lv_aload_n hx hb dX1_partsFrom_94 rfl (lv_at hl 0 rfl) ?_
    refine gf_X1_11 E X hR av_t11 dX1_partsFrom_95 av_r11_2 ?_
    refine lv_iload hx hb dX1_partsFrom_98 (lv_at hl 4 rfl) ?_
    refine lv_iconst (v := 1) hx hb dX1_partsFrom_100 rfl ?_
    refine lv_iadd hx hb dX1_partsFrom_101 ?_
    obtain ⟨r102, er102, h⟩ := av_bd h
    refine av_al E X hR av_t12 (by decide) (t0 := 5) rfl er102 dX1_partsFrom_102 ?_
    refine lv_aload hx hb dX1_partsFrom_103 (lv_at hl 5 rfl) ?_
    obtain ⟨μ105, eμ105, h⟩ := av_bd h
    refine av_goV hR (av_cV (As := [.ref (g.2.2 x5)]) (rest := []) E X hR hl.1 (CX7_copyFrom l g (av_ty18 av_t12 er102) hx5 eμ105) kk_X1_38 (av_room (by omega) (by decide)) (av_ty18 av_t12 er102) (by decide) rfl rfl (Nat.le_of_ble_eq_true rfl) ⟨Nat.zero_le _, Nat.zero_le _⟩ dX1_partsFrom_105) (fun H locs hR => ?_)
    refine lv_aload_n hx hb dX1_partsFrom_108 rfl (lv_at hl 0 rfl) ?_
    refine gf_X1_11 E X hR av_t11 dX1_partsFrom_109 av_r11_2 ?_
    refine lv_iload hx hb dX1_partsFrom_112 (lv_at hl 4 rfl) ?_
    refine lv_iconst (v := 1) hx hb dX1_partsFrom_114 rfl ?_
    refine lv_iadd hx hb dX1_partsFrom_115 ?_
    obtain ⟨r116, er116, h⟩ := av_bd h
    refine av_al E X hR av_t12 (by decide) (t0 := 5) rfl er116 dX1_partsFrom_116 ?_
    refine lv_iload_n hx hb dX1_partsFrom_117 rfl (lv_at hl 1 rfl) ?_
    obtain ⟨μ118, eμ118, h⟩ := av_bd h
    refine av_goV hR (av_cV (As := [.int x1]) (rest := []) E X hR hl.1 (CX7_cast l g (av_ty18 av_t12 er116) eμ118) kk_X1_52 (av_room (by omega) (by decide)) (av_ty18 av_t12 er116) (by decide) rfl rfl (Nat.le_of_ble_eq_true rfl) ⟨Nat.zero_le _, Nat.zero_le _⟩ dX1_partsFrom_118) (fun H locs hR => ?_)
    refine lv_lload hx hb dX1_partsFrom_121 (lv_at hl 6 rfl) ?_
    refine lv_bipush (v := 10) hx hb dX1_partsFrom_123 rfl ?_
    refine lv_iload_n hx hb dX1_partsFrom_125 rfl (lv_at hl 3 rfl) ?_
    refine lv_isub hx hb dX1_partsFrom_126 ?_
    refine lv_i2l hx hb dX1_partsFrom_127 rfl ?_
    refine lv_aload_n hx hb dX1_partsFrom_128 rfl (lv_at hl 0 rfl) ?_
    refine lv_iload_n hx hb dX1_partsFrom_129 rfl (lv_at hl 1 rfl) ?_
    refine lv_iconst (v := 1) hx hb dX1_partsFrom_130 rfl ?_
    refine lv_iadd hx hb dX1_partsFrom_131 ?_
    refine lv_iload_n hx hb dX1_partsFrom_132 rfl (lv_at hl 2 rfl) ?_
    refine lv_iload_n hx hb dX1_partsFrom_133 rfl (lv_at hl 3 rfl) ?_
    refine lv_iload hx hb dX1_partsFrom_134 (lv_at hl 4 rfl) ?_
    refine lv_iconst (v := 1) hx hb dX1_partsFrom_136 rfl ?_
    refine lv_iadd hx hb dX1_partsFrom_137 ?_
    obtain ⟨r138, μ138, er138, h⟩ := av_bd2 h
    refine av_goL hR (av_cV (As := [.int (x1 + 1), .int x2, .int x3, .int (x4 + 1)]) (rest := [.long (Int32.toInt64 (10 - x3)), .long x7]) E X hR hl.1 (hself er138) kk_X1_141 (av_room (by omega) (by decide)) av_t11 (by decide) rfl rfl (Nat.le_of_ble_eq_true rfl) ⟨Nat.zero_le _, Nat.zero_le _⟩ dX1_partsFrom_138) (fun H locs hR => ?_)
    refine lv_lmul hx hb dX1_partsFrom_141 ?_
    refine lv_ladd hx hb dX1_partsFrom_142 ?_
    obtain ⟨x7_143, ex7_143, h⟩ := av_bd h
    replace ex7_143 := Option.some.inj ex7_143
    rw [ex7_143]
    refine lv_lstore (lv' := [(7, .long x7_143), (0, .ref (g.2.2 11)), (1, .int x1), (2, .int x2), (3, .int x3), (4, .int x4), (5, .ref (g.2.2 x5))]) hx hb dX1_partsFrom_143 hl (by decide) rfl (fun ls hl => ?_)
    exact tX1_partsFrom_145 hK hself E X h hR (lv_sub hl [0] rfl)

set_option maxHeartbeats 4000000 in
set_option maxRecDepth 100000 in
theorem tX1_partsFrom_43 {p : Program} {l : Launch} {e : Env} {s : State} {m : MethodId} {args : Array Value} {below : List Frame} {meth : Method} {c : Code} {g : Gl} {K : Nat} (hK : 5 ≤ K) {self : Int32 → Int32 → Int32 → Int32 → Mem → Option (Int64 × Mem)} {zr : Int64} {zm : Mem} (hself : ∀ {a1 : Int32} {a2 : Int32} {a3 : Int32} {a4 : Int32} {μ : Mem} {zr : Int64} {zm : Mem}, self a1 a2 a3 a4 μ = some (zr, zm) → av_ML l yX1_partsFrom cX1_partsFrom 9 K (some .long) av_wc g [.ref (g.2.2 11), .int a1, .int a2, .int a3, .int a4] μ zr zm) (E : av_E p s m args meth c cX1_partsFrom RX1 9 (some .long)) (X : av_X av_wc g s) :
    ∀ {x2 : Int32} {x5 : Nat} {x6 : Int32} (hx5 : av_t av_wc x5 7) {μ : Mem} {H : Heap} {locs : List Loc} {ls : Array Slot}, fX1_partsFrom_43 self x2 x5 x6 μ = some (zr, zm) → av_R av_wc g μ s H locs → lv_has ls 9 [(2, .int x2), (5, .ref (g.2.2 x5)), (6, .int x6)] → W p l e (rmN (K + 2)) s m args below meth c H locs 0 0 (MQ below (va_Ql (fun r1 u => r1 = zr ∧ u = zm) (av_B av_wc g) (av_A av_wc g)) args s 0 0 (av_A av_wc g)) (F0 m 43 ls []) := by
  obtain ⟨hx, hb, hr, hml, hown, hts, hlocks⟩ := id E
  intro x2 x5 x6 hx5 μ H locs ls h hR hl
  unfold fX1_partsFrom_43 at h
  refine lv_aload hx hb dX1_partsFrom_43 (lv_at hl 1 rfl) ?_
  refine gf_X1_63 E X hR hx5 dX1_partsFrom_45 ?_
  refine lv_iload_n hx hb dX1_partsFrom_48 rfl (lv_at hl 0 rfl) ?_
  refine lv_icmp_ne (tgt := 60) hx hb dX1_partsFrom_49 (by decide) (fun c49 => ?_) (fun c49 => ?_)
  · have h := av_if c49 h
    refine lv_lconst (v := 0) hx hb dX1_partsFrom_60 rfl ?_
    exact av_rl E hR (av_r2 h) dX1_partsFrom_61
  · have h := av_it c49 h
    refine lv_iload hx hb dX1_partsFrom_52 (lv_at hl 2 rfl) ?_
    obtain ⟨r54, er54, h⟩ := av_bd h
    refine av_goL hR (av_cSN (As := [.int x6]) (rest := []) E X hR hl.1 (CX11_tenTo l g er54) kk_X1_145 (av_room (by omega) (by decide)) rfl (Nat.le_of_ble_eq_true rfl) ⟨Nat.zero_le _, Nat.zero_le _⟩ dX1_partsFrom_54) (fun H locs hR => ?_)
    refine lv_goto (tgt := 61) hx hb dX1_partsFrom_57 (by decide) ?_
    exact av_rl E hR (av_r2 h) dX1_partsFrom_61

set_option maxHeartbeats 4000000 in
set_option maxRecDepth 100000 in
theorem CX1_partsFrom_b {K : Nat} (hK : 5 ≤ K) (l : Launch) (g : Gl) {self : Int32 → Int32 → Int32 → Int32 → Mem → Option (Int64 × Mem)} (hself : ∀ {a1 : Int32} {a2 : Int32} {a3 : Int32} {a4 : Int32} {μ : Mem} {zr : Int64} {zm : Mem}, self a1 a2 a3 a4 μ = some (zr, zm) → av_ML l yX1_partsFrom cX1_partsFrom 9 K (some .long) av_wc g [.ref (g.2.2 11), .int a1, .int a2, .int a3, .int a4] μ zr zm) {a1 : Int32} {a2 : Int32} {a3 : Int32} {a4 : Int32} {μ : Mem} {zr : Int64} {zm : Mem} (h : fX1_partsFrom_b self a1 a2 a3 a4 μ = some (zr, zm)) : av_ML l yX1_partsFrom cX1_partsFrom 9 (K + 2) (some .long) av_wc g [.ref (g.2.2 11), .int a1, .int a2, .int a3, .int a4] μ zr zm := by
  refine av_ent (own := RX1) (by decide) (Nat.le_of_ble_eq_true rfl) rfl (fun p e s m args below meth c E X hR ls hl => ?_)
  have hl : lv_has ls 9 [(0, .ref (g.2.2 11)), (1, .int a1), (2, .int a2), (3, .int a3), (4, .int a4)] := hl
  obtain ⟨hx, hb, hr, hml, hown, hts, hlocks⟩ := id E
  unfold fX1_partsFrom_b at h
  refine lv_aload_n hx hb dX1_partsFrom_0 rfl (lv_at hl 0 rfl) ?_
  refine gf_X1_11 E X hR av_t11 dX1_partsFrom_1 av_r11_2 ?_
  refine lv_iload hx hb dX1_partsFrom_4 (lv_at hl 4 rfl) ?_
  obtain ⟨r6, er6, h⟩ := av_bd h
  refine av_al E X hR av_t12 (by decide) (t0 := 5) rfl er6 dX1_partsFrom_6 ?_
  refine lv_astore (lv' := [(5, .ref (g.2.2 r6)), (0, .ref (g.2.2 11)), (1, .int a1), (2, .int a2), (3, .int a3), (4, .int a4)]) hx hb dX1_partsFrom_7 hl (by decide) rfl (fun ls hl => ?_)
  refine lv_aload_n hx hb dX1_partsFrom_9 rfl (lv_at hl 1 rfl) ?_
  refine gf_X1_27 E X hR av_t11 dX1_partsFrom_10 av_r11_0 ?_
  refine gf_X1_46 E X hR av_t15 dX1_partsFrom_13 ?_
  refine lv_iload_n hx hb dX1_partsFrom_16 rfl (lv_at hl 2 rfl) ?_
  refine lv_isub hx hb dX1_partsFrom_17 ?_
  obtain ⟨x6_18, ex6_18, h⟩ := av_bd h
  replace ex6_18 := Option.some.inj ex6_18
  rw [ex6_18]
  refine lv_istore (lv' := [(6, .int x6_18), (5, .ref (g.2.2 r6)), (0, .ref (g.2.2 11)), (1, .int a1), (2, .int a2), (3, .int a3), (4, .int a4)]) hx hb dX1_partsFrom_18 hl (by decide) rfl (fun ls hl => ?_)
  refine lv_aload hx hb dX1_partsFrom_20 (lv_at hl 1 rfl) ?_
  refine gf_X1_63 E X hR (av_ty18 av_t12 er6) dX1_partsFrom_22 ?_
  refine lv_iconst (v := (-1)) hx hb dX1_partsFrom_25 rfl ?_
  refine lv_icmp_ne (tgt := 43) hx hb dX1_partsFrom_26 (by decide) (fun c26 => ?_) (fun c26 => ?_)
  · have h := av_if c26 h
    exact tX1_partsFrom_43 hK hself E X (av_ty18 av_t12 er6) h hR (lv_sub hl [4, 1, 0] rfl)
  · have h := av_it c26 h
    refine lv_iload hx hb dX1_partsFrom_29 (lv_at hl 0 rfl) ?_
    refine lv_if_le (tgt := 43) hx hb dX1_partsFrom_31 (by decide) (fun c31 => ?_) (fun c31 => ?_)
    · have h := av_it c31 h
      exact tX1_partsFrom_43 hK hself E X (av_ty18 av_t12 er6) h hR (lv_sub hl [4, 1, 0] rfl)
    · have h := av_if c31 h
      refine lv_aload_n hx hb dX1_partsFrom_34 rfl (lv_at hl 2 rfl) ?_
      refine lv_iload hx hb dX1_partsFrom_35 (lv_at hl 6 rfl) ?_
      obtain ⟨r37, er37, h⟩ := av_bd h
      refine av_goI hR (av_cV (As := [.int a4]) (rest := []) E X hR hl.1 (CX1_isDeepest l g er37) kk_X1_66 (av_room (by omega) (by decide)) av_t11 (by decide) rfl rfl (Nat.le_of_ble_eq_true rfl) ⟨Nat.zero_le _, Nat.zero_le _⟩ dX1_partsFrom_37) (fun H locs hR => ?_)
      refine lv_if_eq (tgt := 62) hx hb dX1_partsFrom_40 (by decide) (fun c40 => ?_) (fun c40 => ?_)
      · have h := av_it c40 h
        refine lv_lconst (v := 0) hx hb dX1_partsFrom_62 rfl ?_
        refine lv_lstore (lv' := [(7, .long 0), (6, .int x6_18), (5, .ref (g.2.2 r6)), (0, .ref (g.2.2 11)), (1, .int a1), (2, .int a2), (3, .int a3), (4, .int a4)]) hx hb dX1_partsFrom_63 hl (by decide) rfl (fun ls hl => ?_)
        refine lv_iload_n hx hb dX1_partsFrom_65 rfl (lv_at hl 6 rfl) ?_
        refine lv_if_le (tgt := 88) hx hb dX1_partsFrom_66 (by decide) (fun c66 => ?_) (fun c66 => ?_)
        · have h := av_it c66 h
          exact tX1_partsFrom_88 hK hself E X (av_ty18 av_t12 er6) h hR (lv_sub hl [3, 4, 5, 6, 7, 2, 0] rfl)
        · have h := av_if c66 h
          refine lv_lload hx hb dX1_partsFrom_69 (lv_at hl 0 rfl) ?_
          refine lv_iload_n hx hb dX1_partsFrom_71 rfl (lv_at hl 6 rfl) ?_
          refine lv_i2l hx hb dX1_partsFrom_72 rfl ?_
          refine lv_aload_n hx hb dX1_partsFrom_73 rfl (lv_at hl 3 rfl) ?_
          refine lv_iload_n hx hb dX1_partsFrom_74 rfl (lv_at hl 4 rfl) ?_
          refine lv_iconst (v := 1) hx hb dX1_partsFrom_75 rfl ?_
          refine lv_iadd hx hb dX1_partsFrom_76 ?_
          refine lv_iload_n hx hb dX1_partsFrom_77 rfl (lv_at hl 5 rfl) ?_
          refine lv_iload_n hx hb dX1_partsFrom_78 rfl (lv_at hl 6 rfl) ?_
          refine lv_iload hx hb dX1_partsFrom_79 (lv_at hl 7 rfl) ?_
          obtain ⟨r81, μ81, er81, h⟩ := av_bd2 h
          refine av_goL hR (av_cV (As := [.int (a1 + 1), .int a2, .int a3, .int a4]) (rest := [.long (Int32.toInt64 a3), .long 0]) E X hR hl.1 (hself er81) kk_X1_141 (av_room (by omega) (by decide)) av_t11 (by decide) rfl rfl (Nat.le_of_ble_eq_true rfl) ⟨Nat.zero_le _, Nat.zero_le _⟩ dX1_partsFrom_81) (fun H locs hR => ?_)
          refine lv_lmul hx hb dX1_partsFrom_84 ?_
          refine lv_ladd hx hb dX1_partsFrom_85 ?_
          obtain ⟨x7_86, ex7_86, h⟩ := av_bd h
          replace ex7_86 := Option.some.inj ex7_86
          rw [ex7_86]
          refine lv_lstore (lv' := [(7, .long x7_86), (6, .int x6_18), (5, .ref (g.2.2 r6)), (0, .ref (g.2.2 11)), (1, .int a1), (2, .int a2), (3, .int a3), (4, .int a4)]) hx hb dX1_partsFrom_86 hl (by decide) rfl (fun ls hl => ?_)
          exact tX1_partsFrom_88 hK hself E X (av_ty18 av_t12 er6) h hR (lv_sub hl [3, 4, 5, 6, 7, 2, 0] rfl)
      · have h := av_if c40 h
        exact tX1_partsFrom_43 hK hself E X (av_ty18 av_t12 er6) h hR (lv_sub hl [4, 1, 0] rfl)

theorem CX1_partsFrom_d (l : Launch) (g : Gl) : ∀ (d : Nat) {a1 : Int32} {a2 : Int32} {a3 : Int32} {a4 : Int32} {μ : Mem} {zr : Int64} {zm : Mem}, fX1_partsFrom d a1 a2 a3 a4 μ = some (zr, zm) → av_ML l yX1_partsFrom cX1_partsFrom 9 (5 + 2 * d) (some .long) av_wc g [.ref (g.2.2 11), .int a1, .int a2, .int a3, .int a4] μ zr zm
  | 0 => by
    intro  h
    cases h
  | d + 1 => by
    intro  h
    exact CX1_partsFrom_b (K := 5 + 2 * d) (by omega) l g (CX1_partsFrom_d l g d) h
theorem CX1_partsFrom (l : Launch) (g : Gl) {a1 : Int32} {a2 : Int32} {a3 : Int32} {a4 : Int32} {μ : Mem} {zr : Int64} {zm : Mem} (h : fX1_partsFrom 8 a1 a2 a3 a4 μ = some (zr, zm)) : av_ML l yX1_partsFrom cX1_partsFrom 9 21 (some .long) av_wc g [.ref (g.2.2 11), .int a1, .int a2, .int a3, .int a4] μ zr zm := CX1_partsFrom_d l g 8 h

set_option maxHeartbeats 4000000 in
set_option maxRecDepth 100000 in
theorem CX1_partsWon (l : Launch) (g : Gl) {a1 : Int32} {a2 : Int32} {μ : Mem} {zr : Int64} {zm : Mem} (h : fX1_partsWon a1 a2 μ = some (zr, zm)) : av_ML l yX1_partsWon cX1_partsWon 3 22 (some .long) av_wc g [.ref (g.2.2 11), .int a1, .int a2] μ zr zm := by
  refine av_ent (own := RX1) (by decide) (Nat.le_of_ble_eq_true rfl) rfl (fun p e s m args below meth c E X hR ls hl => ?_)
  have hl : lv_has ls 3 [(0, .ref (g.2.2 11)), (1, .int a1), (2, .int a2)] := hl
  obtain ⟨hx, hb, hr, hml, hown, hts, hlocks⟩ := id E
  unfold fX1_partsWon at h
  refine lv_aload_n hx hb dX1_partsWon_0 rfl (lv_at hl 0 rfl) ?_
  obtain ⟨r1, μ1, er1, h⟩ := av_bd2 h
  refine av_goR hR (av_cV (As := []) (rest := []) E X hR hl.1 (CX1_fresh l g er1) kk_X1_42 (av_room (by omega) (by decide)) av_t11 (by decide) rfl rfl (Nat.le_of_ble_eq_true rfl) ⟨Nat.zero_le _, Nat.zero_le _⟩ dX1_partsWon_1) (fun H locs hR => ?_)
  refine lv_pop hx hb dX1_partsWon_4 rfl ?_
  refine lv_aload_n hx hb dX1_partsWon_5 rfl (lv_at hl 0 rfl) ?_
  refine lv_iconst (v := 0) hx hb dX1_partsWon_6 rfl ?_
  refine lv_iload_n hx hb dX1_partsWon_7 rfl (lv_at hl 1 rfl) ?_
  refine lv_iload_n hx hb dX1_partsWon_8 rfl (lv_at hl 2 rfl) ?_
  refine lv_iconst (v := 0) hx hb dX1_partsWon_9 rfl ?_
  obtain ⟨r10, μ10, er10, h⟩ := av_bd2 h
  refine av_goL hR (av_cV (As := [.int 0, .int a1, .int a2, .int 0]) (rest := []) E X hR hl.1 (CX1_partsFrom l g er10) kk_X1_141 (av_room (by omega) (by decide)) av_t11 (by decide) rfl rfl (Nat.le_of_ble_eq_true rfl) ⟨Nat.zero_le _, Nat.zero_le _⟩ dX1_partsWon_10) (fun H locs hR => ?_)
  exact av_rl E hR (av_r2 h) dX1_partsWon_13

set_option maxHeartbeats 4000000 in
set_option maxRecDepth 100000 in
theorem tX1_loadAfter_70 {p : Program} {l : Launch} {e : Env} {s : State} {m : MethodId} {args : Array Value} {below : List Frame} {meth : Method} {c : Code} {g : Gl} {zr : Int32} {zm : Mem} (E : av_E p s m args meth c cX1_loadAfter RX1 7 (some .int)) (X : av_X av_wc g s) :
    ∀ {x3 : Nat} (hx3 : av_t av_wc x3 7) {μ : Mem} {H : Heap} {locs : List Loc} {ls : Array Slot}, fX1_loadAfter_70 x3 μ = some (zr, zm) → av_R av_wc g μ s H locs → lv_has ls 7 [(3, .ref (g.2.2 x3))] → W p l e (rmN 5) s m args below meth c H locs 0 0 (MQ below (va_Qi (fun r1 u => r1 = zr ∧ u = zm) (av_B av_wc g) (av_A av_wc g)) args s 0 0 (av_A av_wc g)) (F0 m 70 ls []) := by
  obtain ⟨hx, hb, hr, hml, hown, hts, hlocks⟩ := id E
  intro x3 hx3 μ H locs ls h hR hl
  unfold fX1_loadAfter_70 at h
  refine lv_aload_n hx hb dX1_loadAfter_70 rfl (lv_at hl 0 rfl) ?_
  obtain ⟨r71, er71, h⟩ := av_bd h
  refine av_goI hR (av_cV (As := []) (rest := []) E X hR hl.1 (CX7_loadOfAll l g hx3 er71) kk_X1_157 (av_room (by omega) (by decide)) hx3 (by decide) rfl rfl (Nat.le_of_ble_eq_true rfl) ⟨Nat.zero_le _, Nat.zero_le _⟩ dX1_loadAfter_71) (fun H locs hR => ?_)
  exact av_ri E hR (av_r2 h) dX1_loadAfter_74

set_option maxHeartbeats 4000000 in
set_option maxRecDepth 100000 in
theorem tX1_loadAfter_12 {p : Program} {l : Launch} {e : Env} {s : State} {m : MethodId} {args : Array Value} {below : List Frame} {meth : Method} {c : Code} {g : Gl} {zr : Int32} {zm : Mem} (E : av_E p s m args meth c cX1_loadAfter RX1 7 (some .int)) (X : av_X av_wc g s) :
    ∀ (n : Nat) {x2 : Int32} {x3 : Nat} {x4 : Int64} {x6 : Int32} (hx3 : av_t av_wc x3 7) {μ : Mem} {H : Heap} {locs : List Loc} {ls : Array Slot}, fX1_loadAfter_12 n x2 x3 x4 x6 μ = some (zr, zm) → av_R av_wc g μ s H locs → lv_has ls 7 [(0, .ref (g.2.2 11)), (2, .int x2), (3, .ref (g.2.2 x3)), (4, .long x4), (6, .int x6)] → W p l e (rmN 5) s m args below meth c H locs 0 0 (MQ below (va_Qi (fun r1 u => r1 = zr ∧ u = zm) (av_B av_wc g) (av_A av_wc g)) args s 0 0 (av_A av_wc g)) (F0 m 12 ls []) := by
  obtain ⟨hx, hb, hr, hml, hown, hts, hlocks⟩ := id E
  intro n
  induction n with
  | zero =>
    intro x2 x3 x4 x6 hx3 μ H locs ls h hR hl
    cases h
  | succ n ih =>
    intro x2 x3 x4 x6 hx3 μ H locs ls h hR hl
    unfold fX1_loadAfter_12 at h
    refine lv_iload hx hb dX1_loadAfter_12 (lv_at hl 4 rfl) ?_
    refine lv_iload_n hx hb dX1_loadAfter_14 rfl (lv_at hl 1 rfl) ?_
    refine lv_icmp_ge (tgt := 70) hx hb dX1_loadAfter_15 (by decide) (fun c15 => ?_) (fun c15 => ?_)
    · have h := av_it c15 h
      exact tX1_loadAfter_70 E X hx3 h hR (lv_sub hl [2] rfl)
    · have h := av_if c15 h
      refine lv_aload_n hx hb dX1_loadAfter_18 rfl (lv_at hl 0 rfl) ?_
      refine gf_X1_27 E X hR av_t11 dX1_loadAfter_19 av_r11_0 ?_
      refine gf_X1_46 E X hR av_t15 dX1_loadAfter_22 ?_
      refine lv_if_le (tgt := 70) hx hb dX1_loadAfter_25 (by decide) (fun c25 => ?_) (fun c25 => ?_)
      · have h := av_it c25 h
        exact tX1_loadAfter_70 E X hx3 h hR (lv_sub hl [2] rfl)
      · have h := av_if c25 h
        refine lv_lload hx hb dX1_loadAfter_28 (lv_at hl 3 rfl) ?_
        refine lv_ldc2 (v := 1103515245) hx hb hown (hts _ kL_X1_149) dX1_loadAfter_30 ?_
        refine lv_lmul hx hb dX1_loadAfter_33 ?_
        refine lv_ldc2 (v := 12345) hx hb hown (hts _ kL_X1_151) dX1_loadAfter_34 ?_
        refine lv_ladd hx hb dX1_loadAfter_37 ?_
        refine lv_ldc2 (v := 2147483648) hx hb hown (hts _ kL_X1_153) dX1_loadAfter_38 ?_
        refine lv_lrem hx hb dX1_loadAfter_41 (by decide) ?_
        obtain ⟨x4_42, ex4_42, h⟩ := av_bd h
        replace ex4_42 := Option.some.inj ex4_42
        rw [ex4_42]
        refine lv_lstore (lv' := [(4, .long x4_42), (0, .ref (g.2.2 11)), (2, .int x2), (3, .ref (g.2.2 x3)), (6, .int x6)]) hx hb dX1_loadAfter_42 hl (by decide) rfl (fun ls hl => ?_)
        refine lv_aload_n hx hb dX1_loadAfter_44 rfl (lv_at hl 3 rfl) ?_
        refine lv_lload hx hb dX1_loadAfter_45 (lv_at hl 0 rfl) ?_
        refine lv_ldc2 (v := 65536) hx hb hown (hts _ kL_X1_155) dX1_loadAfter_47 ?_
        refine lv_ldiv hx hb dX1_loadAfter_50 (by decide) ?_
        refine lv_aload_n hx hb dX1_loadAfter_51 rfl (lv_at hl 1 rfl) ?_
        refine gf_X1_27 E X hR av_t11 dX1_loadAfter_52 av_r11_0 ?_
        refine gf_X1_46 E X hR av_t15 dX1_loadAfter_55 ?_
        refine lv_i2l hx hb dX1_loadAfter_58 rfl ?_
        by_cases c59 : (Int32.toInt64 (gF μ 15 4)) = 0
        · exact absurd (av_it c59 h) (by simp)
        have h := av_if c59 h
        refine lv_lrem hx hb dX1_loadAfter_59 c59 ?_
        refine lv_l2i hx hb dX1_loadAfter_60 rfl ?_
        obtain ⟨μ61, eμ61, h⟩ := av_bd h
        refine av_goV hR (av_cV (As := [.int (Int64.toInt32 ((x4_42 / 65536) - (x4_42 / 65536) / (Int32.toInt64 (gF μ 15 4)) * (Int32.toInt64 (gF μ 15 4))))]) (rest := []) E X hR hl.1 (CX7_cast l g hx3 eμ61) kk_X1_52 (av_room (by omega) (by decide)) hx3 (by decide) rfl rfl (Nat.le_of_ble_eq_true rfl) ⟨Nat.zero_le _, Nat.zero_le _⟩ dX1_loadAfter_61) (fun H locs hR => ?_)
        obtain ⟨x6_64, ex6_64, h⟩ := av_bd h
        replace ex6_64 := Option.some.inj ex6_64
        refine lv_iinc (v := x6_64) (lv' := [(6, .int x6_64), (4, .long x4_42), (0, .ref (g.2.2 11)), (2, .int x2), (3, .ref (g.2.2 x3))]) hx hb dX1_loadAfter_64 hl (k := 4) rfl ex6_64 (by decide) rfl (fun ls hl => ?_)
        refine lv_goto (tgt := 12) hx hb dX1_loadAfter_67 (by decide) ?_
        exact ih hx3 h hR (lv_sub hl [2, 3, 4, 1, 0] rfl)

set_option maxHeartbeats 4000000 in
set_option maxRecDepth 100000 in
theorem CX1_loadAfter (l : Launch) (g : Gl) {a1 : Int32} {a2 : Int32} {μ : Mem} {zr : Int32} {zm : Mem} (h : fX1_loadAfter a1 a2 μ = some (zr, zm)) : av_MI l yX1_loadAfter cX1_loadAfter 7 5 (some .int) av_wc g [.ref (g.2.2 11), .int a1, .int a2] μ zr zm := by
  refine av_ent (own := RX1) (by decide) (Nat.le_of_ble_eq_true rfl) rfl (fun p e s m args below meth c E X hR ls hl => ?_)
  have hl : lv_has ls 7 [(0, .ref (g.2.2 11)), (1, .int a1), (2, .int a2)] := hl
  obtain ⟨hx, hb, hr, hml, hown, hts, hlocks⟩ := id E
  unfold fX1_loadAfter at h
  refine lv_aload_n hx hb dX1_loadAfter_0 rfl (lv_at hl 0 rfl) ?_
  obtain ⟨r1, μ1, er1, h⟩ := av_bd2 h
  refine av_goR hR (av_cV (As := []) (rest := []) E X hR hl.1 (CX1_fresh l g er1) kk_X1_42 (av_room (by omega) (by decide)) av_t11 (by decide) rfl rfl (Nat.le_of_ble_eq_true rfl) ⟨Nat.zero_le _, Nat.zero_le _⟩ dX1_loadAfter_1) (fun H locs hR => ?_)
  refine lv_astore_n (lv' := [(3, .ref (g.2.2 r1)), (0, .ref (g.2.2 11)), (1, .int a1), (2, .int a2)]) hx hb dX1_loadAfter_4 rfl hl (by decide) rfl (fun ls hl => ?_)
  refine lv_iload_n hx hb dX1_loadAfter_5 rfl (lv_at hl 2 rfl) ?_
  refine lv_i2l hx hb dX1_loadAfter_6 rfl ?_
  obtain ⟨x4_7, ex4_7, h⟩ := av_bd h
  replace ex4_7 := Option.some.inj ex4_7
  rw [ex4_7]
  refine lv_lstore (lv' := [(4, .long x4_7), (3, .ref (g.2.2 r1)), (0, .ref (g.2.2 11)), (1, .int a1), (2, .int a2)]) hx hb dX1_loadAfter_7 hl (by decide) rfl (fun ls hl => ?_)
  refine lv_iconst (v := 0) hx hb dX1_loadAfter_9 rfl ?_
  refine lv_istore (lv' := [(6, .int 0), (4, .long x4_7), (3, .ref (g.2.2 r1)), (0, .ref (g.2.2 11)), (1, .int a1), (2, .int a2)]) hx hb dX1_loadAfter_10 hl (by decide) rfl (fun ls hl => ?_)
  exact tX1_loadAfter_12 E X _ (tyX1_fresh er1) h hR (lv_sub hl [3, 5, 2, 1, 0] rfl)
