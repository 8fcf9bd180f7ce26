set_option maxHeartbeats 4000000 in
set_option maxRecDepth 100000 in
theorem CX11_mountain (l : Launch) (g : Gl) {μ : Mem} {zr : Int32} {zm : Mem} (h : fX11_mountain μ = some (zr, zm)) : av_MI l yX11_mountain cX11_mountain 2 4 (some .int) av_wc g [.ref (g.2.2 0)] μ zr zm := by
  refine av_ent (own := RX11) (by decide) (Nat.le_of_ble_eq_true rfl) rfl (fun p e s m args below meth c E X hR ls hl => ?_)
  have hl : lv_has ls 2 [(0, .ref (g.2.2 0))] := hl
  obtain ⟨hx, hb, hr, hml, hown, hts, hlocks⟩ := id E
  unfold fX11_mountain at h
  refine lv_aload_n hx hb dX11_mountain_0 rfl (lv_at hl 0 rfl) ?_
  refine gf_X11_32 E X hR av_t0 dX11_mountain_1 av_r0_0 ?_
  refine gf_X11_63 E X hR av_t14 dX11_mountain_4 av_r14_0 ?_
  refine gf_X11_67 E X hR av_t15 dX11_mountain_7 ?_
  obtain ⟨x1_10, ex1_10, h⟩ := av_bd h
  replace ex1_10 := Option.some.inj ex1_10
  rw [ex1_10]
  refine lv_istore_n (lv' := [(1, .int x1_10), (0, .ref (g.2.2 0))]) hx hb dX11_mountain_10 rfl hl (by decide) rfl (fun ls hl => ?_)
  refine lv_aload_n hx hb dX11_mountain_11 rfl (lv_at hl 1 rfl) ?_
  refine gf_X11_32 E X hR av_t0 dX11_mountain_12 av_r0_0 ?_
  obtain ⟨μ15, eμ15, h⟩ := av_bd h
  refine av_goV hR (av_cV (As := []) (rest := []) E X hR hl.1 (CX8_startAnew l g av_t14 eμ15) kk_X11_73 (av_room (by omega) (by decide)) av_t14 (by decide) rfl rfl (Nat.le_of_ble_eq_true rfl) ⟨Nat.zero_le _, Nat.zero_le _⟩ dX11_mountain_15) (fun H locs hR => ?_)
  refine lv_iload_n hx hb dX11_mountain_18 rfl (lv_at hl 0 rfl) ?_
  exact av_ri E hR (av_r2 h) dX11_mountain_19

set_option maxHeartbeats 4000000 in
set_option maxRecDepth 100000 in
theorem CX11_bad (l : Launch) (g : Gl) {a1 : Int32} {μ : Mem} {zr : Int32} {zm : Mem} (h : fX11_bad a1 μ = some (zr, zm)) : av_MI l yX11_bad cX11_bad 2 1 (some .int) av_wc g [.ref (g.2.2 0), .int a1] μ zr zm := by
  refine av_ent (own := RX11) (by decide) (Nat.le_of_ble_eq_true rfl) rfl (fun p e s m args below meth c E X hR ls hl => ?_)
  have hl : lv_has ls 2 [(0, .ref (g.2.2 0)), (1, .int a1)] := hl
  obtain ⟨hx, hb, hr, hml, hown, hts, hlocks⟩ := id E
  unfold fX11_bad at h
  refine lv_aload_n hx hb dX11_bad_0 rfl (lv_at hl 0 rfl) ?_
  refine lv_dup hx hb dX11_bad_1 rfl ?_
  refine gf_X11_258 E X hR av_t0 dX11_bad_2 ?_
  refine lv_iconst (v := 1) hx hb dX11_bad_5 rfl ?_
  refine lv_iadd hx hb dX11_bad_6 ?_
  obtain ⟨μ7, eμ7, h⟩ := av_bd h
  replace eμ7 := Option.some.inj eμ7
  refine pf_X11_258 E X hR av_t0 dX11_bad_7 eμ7 (fun H locs hR => ?_)
  refine lv_iload_n hx hb dX11_bad_10 rfl (lv_at hl 1 rfl) ?_
  exact av_ri E hR (av_r2 h) dX11_bad_11

set_option maxHeartbeats 4000000 in
set_option maxRecDepth 100000 in
theorem CX11_full (l : Launch) (g : Gl) {μ : Mem} {zr : Int32} {zm : Mem} (h : fX11_full μ = some (zr, zm)) : av_MI l yX11_full cX11_full 1 1 (some .int) av_wc g [.ref (g.2.2 0)] μ zr zm := by
  refine av_ent (own := RX11) (by decide) (Nat.le_of_ble_eq_true rfl) rfl (fun p e s m args below meth c E X hR ls hl => ?_)
  have hl : lv_has ls 1 [(0, .ref (g.2.2 0))] := hl
  obtain ⟨hx, hb, hr, hml, hown, hts, hlocks⟩ := id E
  unfold fX11_full at h
  refine lv_aload_n hx hb dX11_full_0 rfl (lv_at hl 0 rfl) ?_
  refine lv_dup hx hb dX11_full_1 rfl ?_
  refine gf_X11_264 E X hR av_t0 dX11_full_2 ?_
  refine lv_iconst (v := 1) hx hb dX11_full_5 rfl ?_
  refine lv_iadd hx hb dX11_full_6 ?_
  obtain ⟨μ7, eμ7, h⟩ := av_bd h
  replace eμ7 := Option.some.inj eμ7
  refine pf_X11_264 E X hR av_t0 dX11_full_7 eμ7 (fun H locs hR => ?_)
  refine lv_bipush (v := (-4)) hx hb dX11_full_10 rfl ?_
  exact av_ri E hR (av_r2 h) dX11_full_12

set_option maxHeartbeats 4000000 in
set_option maxRecDepth 100000 in
theorem tX11_ledge_40 {p : Program} {l : Launch} {e : Env} {s : State} {m : MethodId} {args : Array Value} {below : List Frame} {meth : Method} {c : Code} {g : Gl} {zr : Int32} {zm : Mem} (E : av_E p s m args meth c cX11_ledge RX11 4 (some .int)) (X : av_X av_wc g s) :
    ∀ {μ : Mem} {H : Heap} {locs : List Loc} {ls : Array Slot}, fX11_ledge_40 μ = some (zr, zm) → av_R av_wc g μ s H locs → lv_has ls 4 [(0, .ref (g.2.2 0))] → W p l e (rmN 2) s m args below meth c H locs 0 0 (MQ below (va_Qi (fun r1 u => r1 = zr ∧ u = zm) (av_B av_wc g) (av_A av_wc g)) args s 0 0 (av_A av_wc g)) (F0 m 40 ls []) := by
  obtain ⟨hx, hb, hr, hml, hown, hts, hlocks⟩ := id E
  intro μ H locs ls h hR hl
  unfold fX11_ledge_40 at h
  refine lv_aload_n hx hb dX11_ledge_40 rfl (lv_at hl 0 rfl) ?_
  refine lv_bipush (v := (-2)) hx hb dX11_ledge_41 rfl ?_
  obtain ⟨r43, μ43, er43, h⟩ := av_bd2 h
  refine av_goI hR (av_cV (As := [.int (-2)]) (rest := []) E X hR hl.1 (CX11_bad l g er43) kk_X11_80 (av_room (by omega) (by decide)) av_t0 (by decide) rfl rfl (Nat.le_of_ble_eq_true rfl) ⟨Nat.zero_le _, Nat.zero_le _⟩ dX11_ledge_43) (fun H locs hR => ?_)
  exact av_ri E hR (av_r2 h) dX11_ledge_46

set_option maxHeartbeats 4000000 in
set_option maxRecDepth 100000 in
theorem CX11_ledge (l : Launch) (g : Gl) {a1 : Int32} {a2 : Int32} {a3 : Int32} {μ : Mem} {zr : Int32} {zm : Mem} (h : fX11_ledge a1 a2 a3 μ = some (zr, zm)) : av_MI l yX11_ledge cX11_ledge 4 2 (some .int) av_wc g [.ref (g.2.2 0), .int a1, .int a2, .int a3] μ zr zm := by
  refine av_ent (own := RX11) (by decide) (Nat.le_of_ble_eq_true rfl) rfl (fun p e s m args below meth c E X hR ls hl => ?_)
  have hl : lv_has ls 4 [(0, .ref (g.2.2 0)), (1, .int a1), (2, .int a2), (3, .int a3)] := hl
  obtain ⟨hx, hb, hr, hml, hown, hts, hlocks⟩ := id E
  unfold fX11_ledge at h
  refine lv_iload_n hx hb dX11_ledge_0 rfl (lv_at hl 1 rfl) ?_
  refine lv_iconst (v := 1) hx hb dX11_ledge_1 rfl ?_
  refine lv_bipush (v := 60) hx hb dX11_ledge_2 rfl ?_
  obtain ⟨r4, er4, h⟩ := av_bd h
  refine av_goI hR (av_cS (As := [.int a1, .int 1, .int 60]) (rest := []) E X hR hl.1 (CX11_within l g er4) kk_X11_76 (av_room (by omega) (by decide)) rfl (Nat.le_of_ble_eq_true rfl) ⟨Nat.zero_le _, Nat.zero_le _⟩ dX11_ledge_4) (fun H locs hR => ?_)
  refine lv_if_eq (tgt := 40) hx hb dX11_ledge_7 (by decide) (fun c7 => ?_) (fun c7 => ?_)
  · have h := av_it c7 h
    exact tX11_ledge_40 E X h hR (lv_sub hl [0] rfl)
  · have h := av_if c7 h
    refine lv_iload_n hx hb dX11_ledge_10 rfl (lv_at hl 2 rfl) ?_
    refine lv_iconst (v := 0) hx hb dX11_ledge_11 rfl ?_
    refine lv_bipush (v := 30) hx hb dX11_ledge_12 rfl ?_
    obtain ⟨r14, er14, h⟩ := av_bd h
    refine av_goI hR (av_cS (As := [.int a2, .int 0, .int 30]) (rest := []) E X hR hl.1 (CX11_within l g er14) kk_X11_76 (av_room (by omega) (by decide)) rfl (Nat.le_of_ble_eq_true rfl) ⟨Nat.zero_le _, Nat.zero_le _⟩ dX11_ledge_14) (fun H locs hR => ?_)
    refine lv_if_eq (tgt := 40) hx hb dX11_ledge_17 (by decide) (fun c17 => ?_) (fun c17 => ?_)
    · have h := av_it c17 h
      exact tX11_ledge_40 E X h hR (lv_sub hl [0] rfl)
    · have h := av_if c17 h
      refine lv_iload_n hx hb dX11_ledge_20 rfl (lv_at hl 3 rfl) ?_
      refine lv_iconst (v := (-1)) hx hb dX11_ledge_21 rfl ?_
      refine lv_aload_n hx hb dX11_ledge_22 rfl (lv_at hl 0 rfl) ?_
      refine gf_X11_32 E X hR av_t0 dX11_ledge_23 av_r0_0 ?_
      refine gf_X11_63 E X hR av_t14 dX11_ledge_26 av_r14_0 ?_
      refine gf_X11_67 E X hR av_t15 dX11_ledge_29 ?_
      refine lv_iconst (v := 1) hx hb dX11_ledge_32 rfl ?_
      refine lv_isub hx hb dX11_ledge_33 ?_
      obtain ⟨r34, er34, h⟩ := av_bd h
      refine av_goI hR (av_cS (As := [.int a3, .int (-1), .int ((gF μ 15 1) - 1)]) (rest := []) E X hR hl.1 (CX11_within l g er34) kk_X11_76 (av_room (by omega) (by decide)) rfl (Nat.le_of_ble_eq_true rfl) ⟨Nat.zero_le _, Nat.zero_le _⟩ dX11_ledge_34) (fun H locs hR => ?_)
      refine lv_if_ne (tgt := 47) hx hb dX11_ledge_37 (by decide) (fun c37 => ?_) (fun c37 => ?_)
      · have h := av_if c37 h
        refine lv_aload_n hx hb dX11_ledge_47 rfl (lv_at hl 0 rfl) ?_
        refine gf_X11_32 E X hR av_t0 dX11_ledge_48 av_r0_0 ?_
        refine gf_X11_63 E X hR av_t14 dX11_ledge_51 av_r14_0 ?_
        refine gf_X11_67 E X hR av_t15 dX11_ledge_54 ?_
        refine lv_bipush (v := 8) hx hb dX11_ledge_57 rfl ?_
        refine lv_icmp_lt (tgt := 67) hx hb dX11_ledge_59 (by decide) (fun c59 => ?_) (fun c59 => ?_)
        · have h := av_it c59 h
          refine lv_aload_n hx hb dX11_ledge_67 rfl (lv_at hl 0 rfl) ?_
          refine gf_X11_32 E X hR av_t0 dX11_ledge_68 av_r0_0 ?_
          refine lv_iload_n hx hb dX11_ledge_71 rfl (lv_at hl 1 rfl) ?_
          refine lv_iload_n hx hb dX11_ledge_72 rfl (lv_at hl 2 rfl) ?_
          refine lv_iload_n hx hb dX11_ledge_73 rfl (lv_at hl 3 rfl) ?_
          obtain ⟨r74, μ74, er74, h⟩ := av_bd2 h
          refine av_goI hR (av_cV (As := [.int a1, .int a2, .int a3]) (rest := []) E X hR hl.1 (CX8_addLedge l g av_t14 er74) kk_X11_88 (av_room (by omega) (by decide)) av_t14 (by decide) rfl rfl (Nat.le_of_ble_eq_true rfl) ⟨Nat.zero_le _, Nat.zero_le _⟩ dX11_ledge_74) (fun H locs hR => ?_)
          exact av_ri E hR (av_r2 h) dX11_ledge_77
        · have h := av_if c59 h
          refine lv_aload_n hx hb dX11_ledge_62 rfl (lv_at hl 0 rfl) ?_
          obtain ⟨r63, μ63, er63, h⟩ := av_bd2 h
          refine av_goI hR (av_cV (As := []) (rest := []) E X hR hl.1 (CX11_full l g er63) kk_X11_84 (av_room (by omega) (by decide)) av_t0 (by decide) rfl rfl (Nat.le_of_ble_eq_true rfl) ⟨Nat.zero_le _, Nat.zero_le _⟩ dX11_ledge_63) (fun H locs hR => ?_)
          exact av_ri E hR (av_r2 h) dX11_ledge_66
      · have h := av_it c37 h
        exact tX11_ledge_40 E X h hR (lv_sub hl [0] rfl)

set_option maxHeartbeats 4000000 in
set_option maxRecDepth 100000 in
theorem CX11_isLedge (l : Launch) (g : Gl) {a1 : Int32} {μ : Mem} {zr : Int32} (h : fX11_isLedge a1 μ = some zr) : av_MI l yX11_isLedge cX11_isLedge 2 2 (some .boolean) av_wc g [.ref (g.2.2 0), .int a1] μ zr μ := by
  refine av_ent (own := RX11) (by decide) (Nat.le_of_ble_eq_true rfl) rfl (fun p e s m args below meth c E X hR ls hl => ?_)
  have hl : lv_has ls 2 [(0, .ref (g.2.2 0)), (1, .int a1)] := hl
  obtain ⟨hx, hb, hr, hml, hown, hts, hlocks⟩ := id E
  have hμ : μ = μ := rfl
  unfold fX11_isLedge at h
  refine lv_iload_n hx hb dX11_isLedge_0 rfl (lv_at hl 1 rfl) ?_
  refine lv_iconst (v := 0) hx hb dX11_isLedge_1 rfl ?_
  refine lv_aload_n hx hb dX11_isLedge_2 rfl (lv_at hl 0 rfl) ?_
  refine gf_X11_32 E X hR av_t0 dX11_isLedge_3 av_r0_0 ?_
  refine gf_X11_63 E X hR av_t14 dX11_isLedge_6 av_r14_0 ?_
  refine gf_X11_67 E X hR av_t15 dX11_isLedge_9 ?_
  refine lv_iconst (v := 1) hx hb dX11_isLedge_12 rfl ?_
  refine lv_isub hx hb dX11_isLedge_13 ?_
  obtain ⟨r14, er14, h⟩ := av_bd h
  refine av_goI hR (av_cS (As := [.int a1, .int 0, .int ((gF μ 15 1) - 1)]) (rest := []) E X hR hl.1 (CX11_within l g er14) kk_X11_76 (av_room (by omega) (by decide)) rfl (Nat.le_of_ble_eq_true rfl) ⟨Nat.zero_le _, Nat.zero_le _⟩ dX11_isLedge_14) (fun H locs hR => ?_)
  obtain ⟨z17, ez17, h⟩ := av_bd h
  obtain ⟨rfl, hn17⟩ := av_z_e ez17
  exact av_rz E hR hn17 ⟨Option.some.inj h, hμ.symm⟩ dX11_isLedge_17

set_option maxHeartbeats 4000000 in
set_option maxRecDepth 100000 in
theorem tX11_voter_27 {p : Program} {l : Launch} {e : Env} {s : State} {m : MethodId} {args : Array Value} {below : List Frame} {meth : Method} {c : Code} {g : Gl} {zr : Int32} {zm : Mem} (E : av_E p s m args meth c cX11_voter RX11 4 (some .int)) (X : av_X av_wc g s) :
    ∀ {μ : Mem} {H : Heap} {locs : List Loc} {ls : Array Slot}, fX11_voter_27 μ = some (zr, zm) → av_R av_wc g μ s H locs → lv_has ls 4 [(0, .ref (g.2.2 0))] → W p l e (rmN 3) s m args below meth c H locs 0 0 (MQ below (va_Qi (fun r1 u => r1 = zr ∧ u = zm) (av_B av_wc g) (av_A av_wc g)) args s 0 0 (av_A av_wc g)) (F0 m 27 ls []) := by
  obtain ⟨hx, hb, hr, hml, hown, hts, hlocks⟩ := id E
  intro μ H locs ls h hR hl
  unfold fX11_voter_27 at h
  refine lv_aload_n hx hb dX11_voter_27 rfl (lv_at hl 0 rfl) ?_
  refine lv_bipush (v := (-2)) hx hb dX11_voter_28 rfl ?_
  obtain ⟨r30, μ30, er30, h⟩ := av_bd2 h
  refine av_goI hR (av_cV (As := [.int (-2)]) (rest := []) E X hR hl.1 (CX11_bad l g er30) kk_X11_80 (av_room (by omega) (by decide)) av_t0 (by decide) rfl rfl (Nat.le_of_ble_eq_true rfl) ⟨Nat.zero_le _, Nat.zero_le _⟩ dX11_voter_30) (fun H locs hR => ?_)
  exact av_ri E hR (av_r2 h) dX11_voter_33

set_option maxHeartbeats 4000000 in
set_option maxRecDepth 100000 in
theorem CX11_voter (l : Launch) (g : Gl) {a1 : Int32} {a2 : Int32} {a3 : Int32} {μ : Mem} {zr : Int32} {zm : Mem} (h : fX11_voter a1 a2 a3 μ = some (zr, zm)) : av_MI l yX11_voter cX11_voter 4 3 (some .int) av_wc g [.ref (g.2.2 0), .int a1, .int a2, .int a3] μ zr zm := by
  refine av_ent (own := RX11) (by decide) (Nat.le_of_ble_eq_true rfl) rfl (fun p e s m args below meth c E X hR ls hl => ?_)
  have hl : lv_has ls 4 [(0, .ref (g.2.2 0)), (1, .int a1), (2, .int a2), (3, .int a3)] := hl
  obtain ⟨hx, hb, hr, hml, hown, hts, hlocks⟩ := id E
  unfold fX11_voter at h
  refine lv_iload_n hx hb dX11_voter_0 rfl (lv_at hl 1 rfl) ?_
  refine lv_iconst (v := 0) hx hb dX11_voter_1 rfl ?_
  refine lv_iconst (v := 5) hx hb dX11_voter_2 rfl ?_
  obtain ⟨r3, er3, h⟩ := av_bd h
  refine av_goI hR (av_cS (As := [.int a1, .int 0, .int 5]) (rest := []) E X hR hl.1 (CX11_within l g er3) kk_X11_76 (av_room (by omega) (by decide)) rfl (Nat.le_of_ble_eq_true rfl) ⟨Nat.zero_le _, Nat.zero_le _⟩ dX11_voter_3) (fun H locs hR => ?_)
  refine lv_if_eq (tgt := 27) hx hb dX11_voter_6 (by decide) (fun c6 => ?_) (fun c6 => ?_)
  · have h := av_it c6 h
    exact tX11_voter_27 E X h hR (lv_sub hl [0] rfl)
  · have h := av_if c6 h
    refine lv_aload_n hx hb dX11_voter_9 rfl (lv_at hl 0 rfl) ?_
    refine lv_iload_n hx hb dX11_voter_10 rfl (lv_at hl 2 rfl) ?_
    obtain ⟨r11, er11, h⟩ := av_bd h
    refine av_goI hR (av_cV (As := [.int a2]) (rest := []) E X hR hl.1 (CX11_isLedge l g er11) kk_X11_92 (av_room (by omega) (by decide)) av_t0 (by decide) rfl rfl (Nat.le_of_ble_eq_true rfl) ⟨Nat.zero_le _, Nat.zero_le _⟩ dX11_voter_11) (fun H locs hR => ?_)
    refine lv_if_eq (tgt := 27) hx hb dX11_voter_14 (by decide) (fun c14 => ?_) (fun c14 => ?_)
    · have h := av_it c14 h
      exact tX11_voter_27 E X h hR (lv_sub hl [0] rfl)
    · have h := av_if c14 h
      refine lv_iload_n hx hb dX11_voter_17 rfl (lv_at hl 3 rfl) ?_
      refine lv_iconst (v := 1) hx hb dX11_voter_18 rfl ?_
      refine lv_bipush (v := 9) hx hb dX11_voter_19 rfl ?_
      obtain ⟨r21, er21, h⟩ := av_bd h
      refine av_goI hR (av_cS (As := [.int a3, .int 1, .int 9]) (rest := []) E X hR hl.1 (CX11_within l g er21) kk_X11_76 (av_room (by omega) (by decide)) rfl (Nat.le_of_ble_eq_true rfl) ⟨Nat.zero_le _, Nat.zero_le _⟩ dX11_voter_21) (fun H locs hR => ?_)
      refine lv_if_ne (tgt := 34) hx hb dX11_voter_24 (by decide) (fun c24 => ?_) (fun c24 => ?_)
      · have h := av_if c24 h
        refine lv_aload_n hx hb dX11_voter_34 rfl (lv_at hl 0 rfl) ?_
        refine gf_X11_32 E X hR av_t0 dX11_voter_35 av_r0_0 ?_
        refine gf_X11_63 E X hR av_t14 dX11_voter_38 av_r14_0 ?_
        refine gf_X11_96 E X hR av_t15 dX11_voter_41 ?_
        refine lv_bipush (v := 6) hx hb dX11_voter_44 rfl ?_
        refine lv_icmp_lt (tgt := 54) hx hb dX11_voter_46 (by decide) (fun c46 => ?_) (fun c46 => ?_)
        · have h := av_it c46 h
          refine lv_aload_n hx hb dX11_voter_54 rfl (lv_at hl 0 rfl) ?_
          refine gf_X11_32 E X hR av_t0 dX11_voter_55 av_r0_0 ?_
          refine lv_iload_n hx hb dX11_voter_58 rfl (lv_at hl 1 rfl) ?_
          refine lv_iload_n hx hb dX11_voter_59 rfl (lv_at hl 2 rfl) ?_
          refine lv_iload_n hx hb dX11_voter_60 rfl (lv_at hl 3 rfl) ?_
          obtain ⟨r61, μ61, er61, h⟩ := av_bd2 h
          refine av_goI hR (av_cV (As := [.int a1, .int a2, .int a3]) (rest := []) E X hR hl.1 (CX8_addVoter l g av_t14 er61) kk_X11_99 (av_room (by omega) (by decide)) av_t14 (by decide) rfl rfl (Nat.le_of_ble_eq_true rfl) ⟨Nat.zero_le _, Nat.zero_le _⟩ dX11_voter_61) (fun H locs hR => ?_)
          exact av_ri E hR (av_r2 h) dX11_voter_64
        · have h := av_if c46 h
          refine lv_aload_n hx hb dX11_voter_49 rfl (lv_at hl 0 rfl) ?_
          obtain ⟨r50, μ50, er50, h⟩ := av_bd2 h
          refine av_goI hR (av_cV (As := []) (rest := []) E X hR hl.1 (CX11_full l g er50) kk_X11_84 (av_room (by omega) (by decide)) av_t0 (by decide) rfl rfl (Nat.le_of_ble_eq_true rfl) ⟨Nat.zero_le _, Nat.zero_le _⟩ dX11_voter_50) (fun H locs hR => ?_)
          exact av_ri E hR (av_r2 h) dX11_voter_53
      · have h := av_it c24 h
        exact tX11_voter_27 E X h hR (lv_sub hl [0] rfl)

set_option maxHeartbeats 4000000 in
set_option maxRecDepth 100000 in
theorem CX11_type (l : Launch) (g : Gl) {a1 : Int32} {μ : Mem} {zr : Int32} {zm : Mem} (h : fX11_type a1 μ = some (zr, zm)) : av_MI l yX11_type cX11_type 2 2 (some .int) av_wc g [.ref (g.2.2 0), .int a1] μ zr zm := by
  refine av_ent (own := RX11) (by decide) (Nat.le_of_ble_eq_true rfl) rfl (fun p e s m args below meth c E X hR ls hl => ?_)
  have hl : lv_has ls 2 [(0, .ref (g.2.2 0)), (1, .int a1)] := hl
  obtain ⟨hx, hb, hr, hml, hown, hts, hlocks⟩ := id E
  unfold fX11_type at h
  refine lv_iload_n hx hb dX11_type_0 rfl (lv_at hl 1 rfl) ?_
  refine lv_iconst (v := 0) hx hb dX11_type_1 rfl ?_
  refine lv_bipush (v := 127) hx hb dX11_type_2 rfl ?_
  obtain ⟨r4, er4, h⟩ := av_bd h
  refine av_goI hR (av_cS (As := [.int a1, .int 0, .int 127]) (rest := []) E X hR hl.1 (CX11_within l g er4) kk_X11_76 (av_room (by omega) (by decide)) rfl (Nat.le_of_ble_eq_true rfl) ⟨Nat.zero_le _, Nat.zero_le _⟩ dX11_type_4) (fun H locs hR => ?_)
  refine lv_if_ne (tgt := 17) hx hb dX11_type_7 (by decide) (fun c7 => ?_) (fun c7 => ?_)
  · have h := av_if c7 h
    refine lv_aload_n hx hb dX11_type_17 rfl (lv_at hl 0 rfl) ?_
    refine gf_X11_46 E X hR av_t0 dX11_type_18 av_r0_4 ?_
    refine gf_X11_102 E X hR av_t9 dX11_type_21 ?_
    refine lv_sipush (v := 150) hx hb dX11_type_24 rfl ?_
    refine lv_icmp_lt (tgt := 35) hx hb dX11_type_27 (by decide) (fun c27 => ?_) (fun c27 => ?_)
    · have h := av_it c27 h
      refine lv_aload_n hx hb dX11_type_35 rfl (lv_at hl 0 rfl) ?_
      refine gf_X11_46 E X hR av_t0 dX11_type_36 av_r0_4 ?_
      refine lv_iload_n hx hb dX11_type_39 rfl (lv_at hl 1 rfl) ?_
      obtain ⟨μ40, eμ40, h⟩ := av_bd h
      refine av_goV hR (av_cV (As := [.int a1]) (rest := []) E X hR hl.1 (CX5_append l g eμ40) kk_X11_105 (av_room (by omega) (by decide)) av_t9 (by decide) rfl rfl (Nat.le_of_ble_eq_true rfl) ⟨Nat.zero_le _, Nat.zero_le _⟩ dX11_type_40) (fun H locs hR => ?_)
      refine lv_aload_n hx hb dX11_type_43 rfl (lv_at hl 0 rfl) ?_
      refine gf_X11_46 E X hR av_t0 dX11_type_44 av_r0_4 ?_
      refine gf_X11_102 E X hR av_t9 dX11_type_47 ?_
      exact av_ri E hR (av_r2 h) dX11_type_50
    · have h := av_if c27 h
      refine lv_aload_n hx hb dX11_type_30 rfl (lv_at hl 0 rfl) ?_
      obtain ⟨r31, μ31, er31, h⟩ := av_bd2 h
      refine av_goI hR (av_cV (As := []) (rest := []) E X hR hl.1 (CX11_full l g er31) kk_X11_84 (av_room (by omega) (by decide)) av_t0 (by decide) rfl rfl (Nat.le_of_ble_eq_true rfl) ⟨Nat.zero_le _, Nat.zero_le _⟩ dX11_type_31) (fun H locs hR => ?_)
      exact av_ri E hR (av_r2 h) dX11_type_34
  · have h := av_it c7 h
    refine lv_aload_n hx hb dX11_type_10 rfl (lv_at hl 0 rfl) ?_
    refine lv_bipush (v := (-2)) hx hb dX11_type_11 rfl ?_
    obtain ⟨r13, μ13, er13, h⟩ := av_bd2 h
    refine av_goI hR (av_cV (As := [.int (-2)]) (rest := []) E X hR hl.1 (CX11_bad l g er13) kk_X11_80 (av_room (by omega) (by decide)) av_t0 (by decide) rfl rfl (Nat.le_of_ble_eq_true rfl) ⟨Nat.zero_le _, Nat.zero_le _⟩ dX11_type_13) (fun H locs hR => ?_)
    exact av_ri E hR (av_r2 h) dX11_type_16

set_option maxHeartbeats 4000000 in
set_option maxRecDepth 100000 in
theorem CX11_clear (l : Launch) (g : Gl) {μ : Mem} {zr : Int32} {zm : Mem} (h : fX11_clear μ = some (zr, zm)) : av_MI l yX11_clear cX11_clear 2 1 (some .int) av_wc g [.ref (g.2.2 0)] μ zr zm := by
  refine av_ent (own := RX11) (by decide) (Nat.le_of_ble_eq_true rfl) rfl (fun p e s m args below meth c E X hR ls hl => ?_)
  have hl : lv_has ls 2 [(0, .ref (g.2.2 0))] := hl
  obtain ⟨hx, hb, hr, hml, hown, hts, hlocks⟩ := id E
  unfold fX11_clear at h
  refine lv_aload_n hx hb dX11_clear_0 rfl (lv_at hl 0 rfl) ?_
  refine gf_X11_46 E X hR av_t0 dX11_clear_1 av_r0_4 ?_
  refine gf_X11_102 E X hR av_t9 dX11_clear_4 ?_
  obtain ⟨x1_7, ex1_7, h⟩ := av_bd h
  replace ex1_7 := Option.some.inj ex1_7
  rw [ex1_7]
  refine lv_istore_n (lv' := [(1, .int x1_7), (0, .ref (g.2.2 0))]) hx hb dX11_clear_7 rfl hl (by decide) rfl (fun ls hl => ?_)
  refine lv_aload_n hx hb dX11_clear_8 rfl (lv_at hl 1 rfl) ?_
  refine gf_X11_46 E X hR av_t0 dX11_clear_9 av_r0_4 ?_
  refine lv_iconst (v := 0) hx hb dX11_clear_12 rfl ?_
  obtain ⟨μ13, eμ13, h⟩ := av_bd h
  replace eμ13 := Option.some.inj eμ13
  refine pf_X11_102 E X hR av_t9 dX11_clear_13 eμ13 (fun H locs hR => ?_)
  refine lv_iload_n hx hb dX11_clear_16 rfl (lv_at hl 0 rfl) ?_
  exact av_ri E hR (av_r2 h) dX11_clear_17

set_option maxHeartbeats 4000000 in
set_option maxRecDepth 100000 in
theorem CX11_read (l : Launch) (g : Gl) {μ : Mem} {zr : Int32} {zm : Mem} (h : fX11_read μ = some (zr, zm)) : av_MI l yX11_read cX11_read 2 12 (some .int) av_wc g [.ref (g.2.2 0)] μ zr zm := by
  refine av_ent (own := RX11) (by decide) (Nat.le_of_ble_eq_true rfl) rfl (fun p e s m args below meth c E X hR ls hl => ?_)
  have hl : lv_has ls 2 [(0, .ref (g.2.2 0))] := hl
  obtain ⟨hx, hb, hr, hml, hown, hts, hlocks⟩ := id E
  unfold fX11_read at h
  refine lv_aload_n hx hb dX11_read_0 rfl (lv_at hl 0 rfl) ?_
  refine gf_X11_46 E X hR av_t0 dX11_read_1 av_r0_4 ?_
  refine lv_aload_n hx hb dX11_read_4 rfl (lv_at hl 0 rfl) ?_
  refine gf_X11_36 E X hR av_t0 dX11_read_5 av_r0_1 ?_
  obtain ⟨r8, μ8, er8, h⟩ := av_bd2 h
  refine av_goI hR (av_cV (As := [.ref (g.2.2 28)]) (rest := []) E X hR hl.1 (CX5_readInto l g av_t28 er8) kk_X11_109 (av_room (by omega) (by decide)) av_t9 (by decide) rfl rfl (Nat.le_of_ble_eq_true rfl) ⟨Nat.zero_le _, Nat.zero_le _⟩ dX11_read_8) (fun H locs hR => ?_)
  refine lv_istore_n (lv' := [(1, .int r8), (0, .ref (g.2.2 0))]) hx hb dX11_read_11 rfl hl (by decide) rfl (fun ls hl => ?_)
  refine lv_aload_n hx hb dX11_read_12 rfl (lv_at hl 1 rfl) ?_
  refine gf_X11_46 E X hR av_t0 dX11_read_13 av_r0_4 ?_
  refine gf_X11_113 E X hR av_t9 dX11_read_16 ?_
  refine lv_iconst (v := (-1)) hx hb dX11_read_19 rfl ?_
  refine lv_icmp_eq (tgt := 34) hx hb dX11_read_20 (by decide) (fun c20 => ?_) (fun c20 => ?_)
  · have h := av_it c20 h
    refine lv_aload_n hx hb dX11_read_34 rfl (lv_at hl 1 rfl) ?_
    refine gf_X11_32 E X hR av_t0 dX11_read_35 av_r0_0 ?_
    refine lv_aload_n hx hb dX11_read_38 rfl (lv_at hl 1 rfl) ?_
    refine gf_X11_36 E X hR av_t0 dX11_read_39 av_r0_1 ?_
    obtain ⟨μ42, eμ42, h⟩ := av_bd h
    refine av_goV hR (av_cV (As := [.ref (g.2.2 28)]) (rest := []) E X hR hl.1 (CX8_copyFrom l g av_t14 av_t28 eμ42) kk_X11_116 (av_room (by omega) (by decide)) av_t14 (by decide) rfl rfl (Nat.le_of_ble_eq_true rfl) ⟨Nat.zero_le _, Nat.zero_le _⟩ dX11_read_42) (fun H locs hR => ?_)
    refine lv_iload_n hx hb dX11_read_45 rfl (lv_at hl 0 rfl) ?_
    exact av_ri E hR (av_r2 h) dX11_read_46
  · have h := av_if c20 h
    refine lv_bipush (v := (-10)) hx hb dX11_read_23 rfl ?_
    refine lv_aload_n hx hb dX11_read_25 rfl (lv_at hl 1 rfl) ?_
    refine gf_X11_46 E X hR av_t0 dX11_read_26 av_r0_4 ?_
    refine gf_X11_113 E X hR av_t9 dX11_read_29 ?_
    refine lv_isub hx hb dX11_read_32 ?_
    exact av_ri E hR (av_r2 h) dX11_read_33

set_option maxHeartbeats 4000000 in
set_option maxRecDepth 100000 in
theorem CX11_isVoter (l : Launch) (g : Gl) {a1 : Int32} {μ : Mem} {zr : Int32} (h : fX11_isVoter a1 μ = some zr) : av_MI l yX11_isVoter cX11_isVoter 2 2 (some .boolean) av_wc g [.ref (g.2.2 0), .int a1] μ zr μ := by
  refine av_ent (own := RX11) (by decide) (Nat.le_of_ble_eq_true rfl) rfl (fun p e s m args below meth c E X hR ls hl => ?_)
  have hl : lv_has ls 2 [(0, .ref (g.2.2 0)), (1, .int a1)] := hl
  obtain ⟨hx, hb, hr, hml, hown, hts, hlocks⟩ := id E
  have hμ : μ = μ := rfl
  unfold fX11_isVoter at h
  refine lv_iload_n hx hb dX11_isVoter_0 rfl (lv_at hl 1 rfl) ?_
  refine lv_iconst (v := 0) hx hb dX11_isVoter_1 rfl ?_
  refine lv_aload_n hx hb dX11_isVoter_2 rfl (lv_at hl 0 rfl) ?_
  refine gf_X11_32 E X hR av_t0 dX11_isVoter_3 av_r0_0 ?_
  refine gf_X11_63 E X hR av_t14 dX11_isVoter_6 av_r14_0 ?_
  refine gf_X11_96 E X hR av_t15 dX11_isVoter_9 ?_
  refine lv_iconst (v := 1) hx hb dX11_isVoter_12 rfl ?_
  refine lv_isub hx hb dX11_isVoter_13 ?_
  obtain ⟨r14, er14, h⟩ := av_bd h
  refine av_goI hR (av_cS (As := [.int a1, .int 0, .int ((gF μ 15 4) - 1)]) (rest := []) E X hR hl.1 (CX11_within l g er14) kk_X11_76 (av_room (by omega) (by decide)) rfl (Nat.le_of_ble_eq_true rfl) ⟨Nat.zero_le _, Nat.zero_le _⟩ dX11_isVoter_14) (fun H locs hR => ?_)
  obtain ⟨z17, ez17, h⟩ := av_bd h
  obtain ⟨rfl, hn17⟩ := av_z_e ez17
  exact av_rz E hR hn17 ⟨Option.some.inj h, hμ.symm⟩ dX11_isVoter_17

set_option maxHeartbeats 4000000 in
set_option maxRecDepth 100000 in
theorem CX11_vote (l : Launch) (g : Gl) {a1 : Int32} {μ : Mem} {zr : Int32} {zm : Mem} (h : fX11_vote a1 μ = some (zr, zm)) : av_MI l yX11_vote cX11_vote 2 5 (some .int) av_wc g [.ref (g.2.2 0), .int a1] μ zr zm := by
  refine av_ent (own := RX11) (by decide) (Nat.le_of_ble_eq_true rfl) rfl (fun p e s m args below meth c E X hR ls hl => ?_)
  have hl : lv_has ls 2 [(0, .ref (g.2.2 0)), (1, .int a1)] := hl
  obtain ⟨hx, hb, hr, hml, hown, hts, hlocks⟩ := id E
  unfold fX11_vote at h
  refine lv_aload_n hx hb dX11_vote_0 rfl (lv_at hl 0 rfl) ?_
  refine lv_iload_n hx hb dX11_vote_1 rfl (lv_at hl 1 rfl) ?_
  obtain ⟨r2, er2, h⟩ := av_bd h
  refine av_goI hR (av_cV (As := [.int a1]) (rest := []) E X hR hl.1 (CX11_isVoter l g er2) kk_X11_119 (av_room (by omega) (by decide)) av_t0 (by decide) rfl rfl (Nat.le_of_ble_eq_true rfl) ⟨Nat.zero_le _, Nat.zero_le _⟩ dX11_vote_2) (fun H locs hR => ?_)
  refine lv_if_ne (tgt := 15) hx hb dX11_vote_5 (by decide) (fun c5 => ?_) (fun c5 => ?_)
  · have h := av_if c5 h
    refine lv_aload_n hx hb dX11_vote_15 rfl (lv_at hl 0 rfl) ?_
    refine gf_X11_32 E X hR av_t0 dX11_vote_16 av_r0_0 ?_
    obtain ⟨μ19, eμ19, h⟩ := av_bd h
    refine av_goV hR (av_cV (As := []) (rest := []) E X hR hl.1 (CX8_keepPast l g av_t14 eμ19) kk_X11_122 (av_room (by omega) (by decide)) av_t14 (by decide) rfl rfl (Nat.le_of_ble_eq_true rfl) ⟨Nat.zero_le _, Nat.zero_le _⟩ dX11_vote_19) (fun H locs hR => ?_)
    refine lv_aload_n hx hb dX11_vote_22 rfl (lv_at hl 0 rfl) ?_
    refine gf_X11_32 E X hR av_t0 dX11_vote_23 av_r0_0 ?_
    refine gf_X11_125 E X hR av_t14 dX11_vote_26 av_r14_1 ?_
    refine lv_iload_n hx hb dX11_vote_29 rfl (lv_at hl 1 rfl) ?_
    obtain ⟨μ30, eμ30, h⟩ := av_bd h
    refine av_goV hR (av_cV (As := [.int a1]) (rest := []) E X hR hl.1 (CX7_cast l g av_t21 eμ30) kk_X11_129 (av_room (by omega) (by decide)) av_t21 (by decide) rfl rfl (Nat.le_of_ble_eq_true rfl) ⟨Nat.zero_le _, Nat.zero_le _⟩ dX11_vote_30) (fun H locs hR => ?_)
    refine lv_aload_n hx hb dX11_vote_33 rfl (lv_at hl 0 rfl) ?_
    refine gf_X11_32 E X hR av_t0 dX11_vote_34 av_r0_0 ?_
    refine gf_X11_125 E X hR av_t14 dX11_vote_37 av_r14_1 ?_
    refine gf_X11_134 E X hR av_t21 dX11_vote_40 ?_
    exact av_ri E hR (av_r2 h) dX11_vote_43
  · have h := av_it c5 h
    refine lv_aload_n hx hb dX11_vote_8 rfl (lv_at hl 0 rfl) ?_
    refine lv_bipush (v := (-2)) hx hb dX11_vote_9 rfl ?_
    obtain ⟨r11, μ11, er11, h⟩ := av_bd2 h
    refine av_goI hR (av_cV (As := [.int (-2)]) (rest := []) E X hR hl.1 (CX11_bad l g er11) kk_X11_80 (av_room (by omega) (by decide)) av_t0 (by decide) rfl rfl (Nat.le_of_ble_eq_true rfl) ⟨Nat.zero_le _, Nat.zero_le _⟩ dX11_vote_11) (fun H locs hR => ?_)
    exact av_ri E hR (av_r2 h) dX11_vote_14

set_option maxHeartbeats 4000000 in
set_option maxRecDepth 100000 in
theorem CX11_night (l : Launch) (g : Gl) {a1 : Int32} {μ : Mem} {zr : Int32} {zm : Mem} (h : fX11_night a1 μ = some (zr, zm)) : av_MI l yX11_night cX11_night 2 5 (some .int) av_wc g [.ref (g.2.2 0), .int a1] μ zr zm := by
  refine av_ent (own := RX11) (by decide) (Nat.le_of_ble_eq_true rfl) rfl (fun p e s m args below meth c E X hR ls hl => ?_)
  have hl : lv_has ls 2 [(0, .ref (g.2.2 0)), (1, .int a1)] := hl
  obtain ⟨hx, hb, hr, hml, hown, hts, hlocks⟩ := id E
  unfold fX11_night at h
  refine lv_iload_n hx hb dX11_night_0 rfl (lv_at hl 1 rfl) ?_
  refine lv_iconst (v := 1) hx hb dX11_night_1 rfl ?_
  refine lv_bipush (v := 9) hx hb dX11_night_2 rfl ?_
  obtain ⟨r4, er4, h⟩ := av_bd h
  refine av_goI hR (av_cS (As := [.int a1, .int 1, .int 9]) (rest := []) E X hR hl.1 (CX11_within l g er4) kk_X11_76 (av_room (by omega) (by decide)) rfl (Nat.le_of_ble_eq_true rfl) ⟨Nat.zero_le _, Nat.zero_le _⟩ dX11_night_4) (fun H locs hR => ?_)
  refine lv_if_ne (tgt := 17) hx hb dX11_night_7 (by decide) (fun c7 => ?_) (fun c7 => ?_)
  · have h := av_if c7 h
    refine lv_aload_n hx hb dX11_night_17 rfl (lv_at hl 0 rfl) ?_
    refine gf_X11_32 E X hR av_t0 dX11_night_18 av_r0_0 ?_
    obtain ⟨μ21, eμ21, h⟩ := av_bd h
    refine av_goV hR (av_cV (As := []) (rest := []) E X hR hl.1 (CX8_keepPast l g av_t14 eμ21) kk_X11_122 (av_room (by omega) (by decide)) av_t14 (by decide) rfl rfl (Nat.le_of_ble_eq_true rfl) ⟨Nat.zero_le _, Nat.zero_le _⟩ dX11_night_21) (fun H locs hR => ?_)
    refine lv_aload_n hx hb dX11_night_24 rfl (lv_at hl 0 rfl) ?_
    refine gf_X11_32 E X hR av_t0 dX11_night_25 av_r0_0 ?_
    refine gf_X11_125 E X hR av_t14 dX11_night_28 av_r14_1 ?_
    refine lv_iload_n hx hb dX11_night_31 rfl (lv_at hl 1 rfl) ?_
    obtain ⟨μ32, eμ32, h⟩ := av_bd h
    refine av_goV hR (av_cV (As := [.int a1]) (rest := []) E X hR hl.1 (CX7_snowOver l g av_t21 eμ32) kk_X11_137 (av_room (by omega) (by decide)) av_t21 (by decide) rfl rfl (Nat.le_of_ble_eq_true rfl) ⟨Nat.zero_le _, Nat.zero_le _⟩ dX11_night_32) (fun H locs hR => ?_)
    refine lv_aload_n hx hb dX11_night_35 rfl (lv_at hl 0 rfl) ?_
    refine gf_X11_32 E X hR av_t0 dX11_night_36 av_r0_0 ?_
    refine gf_X11_125 E X hR av_t14 dX11_night_39 av_r14_1 ?_
    refine gf_X11_134 E X hR av_t21 dX11_night_42 ?_
    exact av_ri E hR (av_r2 h) dX11_night_45
  · have h := av_it c7 h
    refine lv_aload_n hx hb dX11_night_10 rfl (lv_at hl 0 rfl) ?_
    refine lv_bipush (v := (-2)) hx hb dX11_night_11 rfl ?_
    obtain ⟨r13, μ13, er13, h⟩ := av_bd2 h
    refine av_goI hR (av_cV (As := [.int (-2)]) (rest := []) E X hR hl.1 (CX11_bad l g er13) kk_X11_80 (av_room (by omega) (by decide)) av_t0 (by decide) rfl rfl (Nat.le_of_ble_eq_true rfl) ⟨Nat.zero_le _, Nat.zero_le _⟩ dX11_night_13) (fun H locs hR => ?_)
    exact av_ri E hR (av_r2 h) dX11_night_16

set_option maxHeartbeats 4000000 in
set_option maxRecDepth 100000 in
theorem CX11_no (l : Launch) (g : Gl) {μ : Mem} {zr : Int32} {zm : Mem} (h : fX11_no μ = some (zr, zm)) : av_MI l yX11_no cX11_no 1 1 (some .int) av_wc g [.ref (g.2.2 0)] μ zr zm := by
  refine av_ent (own := RX11) (by decide) (Nat.le_of_ble_eq_true rfl) rfl (fun p e s m args below meth c E X hR ls hl => ?_)
  have hl : lv_has ls 1 [(0, .ref (g.2.2 0))] := hl
  obtain ⟨hx, hb, hr, hml, hown, hts, hlocks⟩ := id E
  unfold fX11_no at h
  refine lv_aload_n hx hb dX11_no_0 rfl (lv_at hl 0 rfl) ?_
  refine lv_dup hx hb dX11_no_1 rfl ?_
  refine gf_X11_261 E X hR av_t0 dX11_no_2 ?_
  refine lv_iconst (v := 1) hx hb dX11_no_5 rfl ?_
  refine lv_iadd hx hb dX11_no_6 ?_
  obtain ⟨μ7, eμ7, h⟩ := av_bd h
  replace eμ7 := Option.some.inj eμ7
  refine pf_X11_261 E X hR av_t0 dX11_no_7 eμ7 (fun H locs hR => ?_)
  refine lv_bipush (v := (-3)) hx hb dX11_no_10 rfl ?_
  exact av_ri E hR (av_r2 h) dX11_no_12

set_option maxHeartbeats 4000000 in
set_option maxRecDepth 100000 in
theorem CX11_undo (l : Launch) (g : Gl) {μ : Mem} {zr : Int32} {zm : Mem} (h : fX11_undo μ = some (zr, zm)) : av_MI l yX11_undo cX11_undo 1 4 (some .int) av_wc g [.ref (g.2.2 0)] μ zr zm := by
  refine av_ent (own := RX11) (by decide) (Nat.le_of_ble_eq_true rfl) rfl (fun p e s m args below meth c E X hR ls hl => ?_)
  have hl : lv_has ls 1 [(0, .ref (g.2.2 0))] := hl
  obtain ⟨hx, hb, hr, hml, hown, hts, hlocks⟩ := id E
  unfold fX11_undo at h
  refine lv_aload_n hx hb dX11_undo_0 rfl (lv_at hl 0 rfl) ?_
  refine gf_X11_32 E X hR av_t0 dX11_undo_1 av_r0_0 ?_
  refine gf_X11_140 E X hR av_t14 dX11_undo_4 ?_
  refine lv_if_gt (tgt := 15) hx hb dX11_undo_7 (by decide) (fun c7 => ?_) (fun c7 => ?_)
  · have h := av_it c7 h
    refine lv_aload_n hx hb dX11_undo_15 rfl (lv_at hl 0 rfl) ?_
    refine gf_X11_32 E X hR av_t0 dX11_undo_16 av_r0_0 ?_
    obtain ⟨μ19, eμ19, h⟩ := av_bd h
    refine av_goV hR (av_cV (As := []) (rest := []) E X hR hl.1 (CX8_goBack l g av_t14 eμ19) kk_X11_146 (av_room (by omega) (by decide)) av_t14 (by decide) rfl rfl (Nat.le_of_ble_eq_true rfl) ⟨Nat.zero_le _, Nat.zero_le _⟩ dX11_undo_19) (fun H locs hR => ?_)
    refine lv_aload_n hx hb dX11_undo_22 rfl (lv_at hl 0 rfl) ?_
    refine gf_X11_32 E X hR av_t0 dX11_undo_23 av_r0_0 ?_
    refine gf_X11_125 E X hR av_t14 dX11_undo_26 av_r14_1 ?_
    refine gf_X11_149 E X hR av_t21 dX11_undo_29 ?_
    exact av_ri E hR (av_r2 h) dX11_undo_32
  · have h := av_if c7 h
    refine lv_aload_n hx hb dX11_undo_10 rfl (lv_at hl 0 rfl) ?_
    obtain ⟨r11, μ11, er11, h⟩ := av_bd2 h
    refine av_goI hR (av_cV (As := []) (rest := []) E X hR hl.1 (CX11_no l g er11) kk_X11_143 (av_room (by omega) (by decide)) av_t0 (by decide) rfl rfl (Nat.le_of_ble_eq_true rfl) ⟨Nat.zero_le _, Nat.zero_le _⟩ dX11_undo_11) (fun H locs hR => ?_)
    exact av_ri E hR (av_r2 h) dX11_undo_14

set_option maxHeartbeats 4000000 in
set_option maxRecDepth 100000 in
theorem CX11_of (l : Launch) (g : Gl) {a1 : Int32} {a2 : Int32} {μ : Mem} {zr : Int32} {zm : Mem} (h : fX11_of a1 a2 μ = some (zr, zm)) : av_MI l yX11_of cX11_of 3 3 (some .int) av_wc g [.ref (g.2.2 0), .int a1, .int a2] μ zr zm := by
  refine av_ent (own := RX11) (by decide) (Nat.le_of_ble_eq_true rfl) rfl (fun p e s m args below meth c E X hR ls hl => ?_)
  have hl : lv_has ls 3 [(0, .ref (g.2.2 0)), (1, .int a1), (2, .int a2)] := hl
  obtain ⟨hx, hb, hr, hml, hown, hts, hlocks⟩ := id E
  unfold fX11_of at h
  refine lv_aload_n hx hb dX11_of_0 rfl (lv_at hl 0 rfl) ?_
  refine lv_iload_n hx hb dX11_of_1 rfl (lv_at hl 1 rfl) ?_
  obtain ⟨r2, er2, h⟩ := av_bd h
  refine av_goI hR (av_cV (As := [.int a1]) (rest := []) E X hR hl.1 (CX11_isLedge l g er2) kk_X11_92 (av_room (by omega) (by decide)) av_t0 (by decide) rfl rfl (Nat.le_of_ble_eq_true rfl) ⟨Nat.zero_le _, Nat.zero_le _⟩ dX11_of_2) (fun H locs hR => ?_)
  refine lv_if_ne (tgt := 15) hx hb dX11_of_5 (by decide) (fun c5 => ?_) (fun c5 => ?_)
  · have h := av_if c5 h
    refine lv_iload_n hx hb dX11_of_15 rfl (lv_at hl 2 rfl) ?_
    by_cases c16_0 : a2 = 0
    · have h := av_it c16_0 h
      refine lv_tableIn (tgt := 48) (off := 32) hx hb dX11_of_16 (by rw [c16_0]; decide) (by rw [c16_0]; decide) (by rw [c16_0]; decide) (by decide) ?_
      refine lv_aload_n hx hb dX11_of_48 rfl (lv_at hl 0 rfl) ?_
      refine gf_X11_32 E X hR av_t0 dX11_of_49 av_r0_0 ?_
      refine gf_X11_63 E X hR av_t14 dX11_of_52 av_r14_0 ?_
      refine gf_X11_152 E X hR av_t15 dX11_of_55 av_r15_2 ?_
      refine lv_iload_n hx hb dX11_of_58 rfl (lv_at hl 1 rfl) ?_
      obtain ⟨r59, er59, h⟩ := av_bd h
      refine av_il E X hR av_t16 er59 dX11_of_59 ?_
      exact av_ri E hR (av_r2 h) dX11_of_60
    have h := av_if c16_0 h
    by_cases c16_1 : a2 = 1
    · have h := av_it c16_1 h
      refine lv_tableIn (tgt := 61) (off := 45) hx hb dX11_of_16 (by rw [c16_1]; decide) (by rw [c16_1]; decide) (by rw [c16_1]; decide) (by decide) ?_
      refine lv_aload_n hx hb dX11_of_61 rfl (lv_at hl 0 rfl) ?_
      refine gf_X11_32 E X hR av_t0 dX11_of_62 av_r0_0 ?_
      refine gf_X11_125 E X hR av_t14 dX11_of_65 av_r14_1 ?_
      refine gf_X11_156 E X hR av_t21 dX11_of_68 av_r21_1 ?_
      refine lv_iload_n hx hb dX11_of_71 rfl (lv_at hl 1 rfl) ?_
      obtain ⟨r72, er72, h⟩ := av_bd h
      refine av_il E X hR av_t22 er72 dX11_of_72 ?_
      exact av_ri E hR (av_r2 h) dX11_of_73
    have h := av_if c16_1 h
    by_cases c16_2 : a2 = 2
    · have h := av_it c16_2 h
      refine lv_tableIn (tgt := 74) (off := 58) hx hb dX11_of_16 (by rw [c16_2]; decide) (by rw [c16_2]; decide) (by rw [c16_2]; decide) (by decide) ?_
      refine lv_aload_n hx hb dX11_of_74 rfl (lv_at hl 0 rfl) ?_
      refine gf_X11_32 E X hR av_t0 dX11_of_75 av_r0_0 ?_
      refine gf_X11_125 E X hR av_t14 dX11_of_78 av_r14_1 ?_
      refine gf_X11_159 E X hR av_t21 dX11_of_81 av_r21_2 ?_
      refine lv_iload_n hx hb dX11_of_84 rfl (lv_at hl 1 rfl) ?_
      obtain ⟨r85, er85, h⟩ := av_bd h
      refine av_il E X hR av_t23 er85 dX11_of_85 ?_
      exact av_ri E hR (av_r2 h) dX11_of_86
    have h := av_if c16_2 h
    by_cases c16_3 : a2 = 3
    · have h := av_it c16_3 h
      refine lv_tableIn (tgt := 87) (off := 71) hx hb dX11_of_16 (by rw [c16_3]; decide) (by rw [c16_3]; decide) (by rw [c16_3]; decide) (by decide) ?_
      refine lv_aload_n hx hb dX11_of_87 rfl (lv_at hl 0 rfl) ?_
      refine gf_X11_32 E X hR av_t0 dX11_of_88 av_r0_0 ?_
      refine gf_X11_63 E X hR av_t14 dX11_of_91 av_r14_0 ?_
      refine gf_X11_162 E X hR av_t15 dX11_of_94 av_r15_3 ?_
      refine lv_iload_n hx hb dX11_of_97 rfl (lv_at hl 1 rfl) ?_
      obtain ⟨r98, er98, h⟩ := av_bd h
      refine av_il E X hR av_t17 er98 dX11_of_98 ?_
      exact av_ri E hR (av_r2 h) dX11_of_99
    have h := av_if c16_3 h
    have n16_0 := lv_neT c16_0 (a := 0) (by decide)
    have n16_1 := lv_neT c16_1 (a := 1) (by decide)
    have n16_2 := lv_neT c16_2 (a := 2) (by decide)
    have n16_3 := lv_neT c16_3 (a := 3) (by decide)
    refine lv_tableOut (tgt := 100) hx hb dX11_of_16 (by omega) (by decide) ?_
    refine lv_aload_n hx hb dX11_of_100 rfl (lv_at hl 0 rfl) ?_
    refine lv_bipush (v := (-10)) hx hb dX11_of_101 rfl ?_
    obtain ⟨r103, μ103, er103, h⟩ := av_bd2 h
    refine av_goI hR (av_cV (As := [.int (-10)]) (rest := []) E X hR hl.1 (CX11_bad l g er103) kk_X11_80 (av_room (by omega) (by decide)) av_t0 (by decide) rfl rfl (Nat.le_of_ble_eq_true rfl) ⟨Nat.zero_le _, Nat.zero_le _⟩ dX11_of_103) (fun H locs hR => ?_)
    exact av_ri E hR (av_r2 h) dX11_of_106
  · have h := av_it c5 h
    refine lv_aload_n hx hb dX11_of_8 rfl (lv_at hl 0 rfl) ?_
    refine lv_bipush (v := (-10)) hx hb dX11_of_9 rfl ?_
    obtain ⟨r11, μ11, er11, h⟩ := av_bd2 h
    refine av_goI hR (av_cV (As := [.int (-10)]) (rest := []) E X hR hl.1 (CX11_bad l g er11) kk_X11_80 (av_room (by omega) (by decide)) av_t0 (by decide) rfl rfl (Nat.le_of_ble_eq_true rfl) ⟨Nat.zero_le _, Nat.zero_le _⟩ dX11_of_11) (fun H locs hR => ?_)
    exact av_ri E hR (av_r2 h) dX11_of_14

theorem dr_X11_285 {p : Program} {l : Launch} {e : Env} {s : State} {m : MethodId} {args : Array Value} {below : List Frame} {meth : Method} {c : Code} {H : Heap} {locs : List Loc} {Q : State → Prop} {cc : ByteArray} {pc M : Nat} {ls : Array Slot} {rest : List Value} {g : Gl} {μ : Mem} {nL : Nat} {ret : Option FieldType} (E : av_E p s m args meth c cc RX11 nL ret) (X : av_X av_wc g s) (hR : av_R av_wc g μ s H locs) (hls : ls.size = nL) {q : Nat} {a1 : Nat} {a2 : Int32} {a3 : Int32} {r : Int32} (hq : av_pl q) (ha1 : av_t av_wc a1 7) (h : dv_X11_285 q a1 a2 a3 μ = some r) (hM : 4 ≤ M) (hrm : (rest.map fun v => v.category).sum ≤ 8) (hdg : decode cc pc = .ok (.invokevirtual 285, 3)) (kk : ∀ (H : Heap) (locs : List Loc), av_R av_wc g μ s H locs → W p l e (rmN M) s m args below meth c H locs 0 0 Q (F0 m (pc + 3) ls (.int r :: rest))) : W p l e (rmN M) s m args below meth c H locs 0 0 Q (F0 m pc ls (.int a3 :: .int a2 :: .ref (g.2.2 a1) :: .ref (g.2.2 q) :: rest)) := by
  unfold dv_X11_285 at h
  by_cases c4 : av_cls q = 4
  · exact av_goI hR (av_cU (As := [.ref (g.2.2 a1), .int a2, .int a3]) (rest := rest) E X hR hls (CX4_place l g hq ha1 (av_it c4 h)) kd_X11_285_4 (av_room (by omega) (by decide)) ⟨c4, av_pl_in hq⟩ (by decide) rfl rfl hrm ⟨Nat.zero_le _, Nat.zero_le _⟩ hdg) kk
  replace h := av_if c4 h
  by_cases c0 : av_cls q = 0
  · exact av_goI hR (av_cU (As := [.ref (g.2.2 a1), .int a2, .int a3]) (rest := rest) E X hR hls (CX0_place l g hq ha1 (av_it c0 h)) kd_X11_285_0 (av_room (by omega) (by decide)) ⟨c0, av_pl_in hq⟩ (by decide) rfl rfl hrm ⟨Nat.zero_le _, Nat.zero_le _⟩ hdg) kk
  replace h := av_if c0 h
  by_cases c3 : av_cls q = 3
  · exact av_goI hR (av_cU (As := [.ref (g.2.2 a1), .int a2, .int a3]) (rest := rest) E X hR hls (CX4_place l g hq ha1 (av_it c3 h)) kd_X11_285_3 (av_room (by omega) (by decide)) ⟨c3, av_pl_in hq⟩ (by decide) rfl rfl hrm ⟨Nat.zero_le _, Nat.zero_le _⟩ hdg) kk
  replace h := av_if c3 h
  by_cases c6 : av_cls q = 6
  · exact av_goI hR (av_cU (As := [.ref (g.2.2 a1), .int a2, .int a3]) (rest := rest) E X hR hls (CX0_place l g hq ha1 (av_it c6 h)) kd_X11_285_6 (av_room (by omega) (by decide)) ⟨c6, av_pl_in hq⟩ (by decide) rfl rfl hrm ⟨Nat.zero_le _, Nat.zero_le _⟩ hdg) kk
  replace h := av_if c6 h
  by_cases c2 : av_cls q = 2
  · exact av_goI hR (av_cU (As := [.ref (g.2.2 a1), .int a2, .int a3]) (rest := rest) E X hR hls (CX2_place l g hq ha1 (av_it c2 h)) kd_X11_285_2 (av_room (by omega) (by decide)) ⟨c2, av_pl_in hq⟩ (by decide) rfl rfl hrm ⟨Nat.zero_le _, Nat.zero_le _⟩ hdg) kk
  replace h := av_if c2 h
  by_cases c10 : av_cls q = 10
  · exact av_goI hR (av_cU (As := [.ref (g.2.2 a1), .int a2, .int a3]) (rest := rest) E X hR hls (CX10_place l g hq ha1 (av_it c10 h)) kd_X11_285_10 (av_room (by omega) (by decide)) ⟨c10, av_pl_in hq⟩ (by decide) rfl rfl hrm ⟨Nat.zero_le _, Nat.zero_le _⟩ hdg) kk
  replace h := av_if c10 h
  cases h

set_option maxHeartbeats 4000000 in
set_option maxRecDepth 100000 in
theorem CX11_placeAs (l : Launch) (g : Gl) {a1 : Int32} {a2 : Int32} {μ : Mem} {zr : Int32} (h : fX11_placeAs a1 a2 μ = some zr) : av_MI l yX11_placeAs cX11_placeAs 3 4 (some .int) av_wc g [.ref (g.2.2 0), .int a1, .int a2] μ zr μ := by
  refine av_ent (own := RX11) (by decide) (Nat.le_of_ble_eq_true rfl) rfl (fun p e s m args below meth c E X hR ls hl => ?_)
  have hl : lv_has ls 3 [(0, .ref (g.2.2 0)), (1, .int a1), (2, .int a2)] := hl
  obtain ⟨hx, hb, hr, hml, hown, hts, hlocks⟩ := id E
  have hμ : μ = μ := rfl
  unfold fX11_placeAs at h
  refine lv_aload_n hx hb dX11_placeAs_0 rfl (lv_at hl 0 rfl) ?_
  refine gf_X11_32 E X hR av_t0 dX11_placeAs_1 av_r0_0 ?_
  refine gf_X11_63 E X hR av_t14 dX11_placeAs_4 av_r14_0 ?_
  refine lv_iload_n hx hb dX11_placeAs_7 rfl (lv_at hl 1 rfl) ?_
  obtain ⟨r8, er8, h⟩ := av_bd h
  refine av_goR hR (av_cV (As := [.int a1]) (rest := []) E X hR hl.1 (CX9_kindOf l g av_t15 er8) kk_X11_281 (av_room (by omega) (by decide)) av_t15 (by decide) rfl rfl (Nat.le_of_ble_eq_true rfl) ⟨Nat.zero_le _, Nat.zero_le _⟩ dX11_placeAs_8) (fun H locs hR => ?_)
  refine lv_aload_n hx hb dX11_placeAs_11 rfl (lv_at hl 0 rfl) ?_
  refine gf_X11_32 E X hR av_t0 dX11_placeAs_12 av_r0_0 ?_
  refine gf_X11_125 E X hR av_t14 dX11_placeAs_15 av_r14_1 ?_
  refine lv_aload_n hx hb dX11_placeAs_18 rfl (lv_at hl 0 rfl) ?_
  refine gf_X11_32 E X hR av_t0 dX11_placeAs_19 av_r0_0 ?_
  refine gf_X11_63 E X hR av_t14 dX11_placeAs_22 av_r14_0 ?_
  refine gf_X11_168 E X hR av_t15 dX11_placeAs_25 av_r15_6 ?_
  refine lv_iload_n hx hb dX11_placeAs_28 rfl (lv_at hl 2 rfl) ?_
  obtain ⟨r29, er29, h⟩ := av_bd h
  refine av_il E X hR av_t19 er29 dX11_placeAs_29 ?_
  refine lv_aload_n hx hb dX11_placeAs_30 rfl (lv_at hl 0 rfl) ?_
  refine gf_X11_32 E X hR av_t0 dX11_placeAs_31 av_r0_0 ?_
  refine gf_X11_63 E X hR av_t14 dX11_placeAs_34 av_r14_0 ?_
  refine gf_X11_171 E X hR av_t15 dX11_placeAs_37 av_r15_7 ?_
  refine lv_iload_n hx hb dX11_placeAs_40 rfl (lv_at hl 2 rfl) ?_
  obtain ⟨r41, er41, h⟩ := av_bd h
  refine av_il E X hR av_t20 er41 dX11_placeAs_41 ?_
  obtain ⟨r42, er42, h⟩ := av_bd h
  refine dr_X11_285 (rest := []) E X hR hl.1 (tyX9_kindOf av_t15 er8) av_t21 er42 (by omega) (Nat.le_of_ble_eq_true rfl) dX11_placeAs_42 (fun H locs hR => ?_)
  exact av_ri E hR ⟨Option.some.inj h, hμ.symm⟩ dX11_placeAs_45

theorem dr_X11_289 {p : Program} {l : Launch} {e : Env} {s : State} {m : MethodId} {args : Array Value} {below : List Frame} {meth : Method} {c : Code} {H : Heap} {locs : List Loc} {Q : State → Prop} {cc : ByteArray} {pc M : Nat} {ls : Array Slot} {rest : List Value} {g : Gl} {μ : Mem} {nL : Nat} {ret : Option FieldType} (E : av_E p s m args meth c cc RX11 nL ret) (X : av_X av_wc g s) (hR : av_R av_wc g μ s H locs) (hls : ls.size = nL) {q : Nat} {a1 : Int32} {r : Int32} (hq : av_pl q) (h : dv_X11_289 q a1 μ = some r) (hM : 2 ≤ M) (hrm : (rest.map fun v => v.category).sum ≤ 8) (hdg : decode cc pc = .ok (.invokevirtual 289, 3)) (kk : ∀ (H : Heap) (locs : List Loc), av_R av_wc g μ s H locs → W p l e (rmN M) s m args below meth c H locs 0 0 Q (F0 m (pc + 3) ls (.int r :: rest))) : W p l e (rmN M) s m args below meth c H locs 0 0 Q (F0 m pc ls (.int a1 :: .ref (g.2.2 q) :: rest)) := by
  unfold dv_X11_289 at h
  by_cases c4 : av_cls q = 4
  · exact av_goI hR (av_cU (As := [.int a1]) (rest := rest) E X hR hls (CX4_heft l g hq (av_it c4 h)) kd_X11_289_4 (av_room (by omega) (by decide)) ⟨c4, av_pl_in hq⟩ (by decide) rfl rfl hrm ⟨Nat.zero_le _, Nat.zero_le _⟩ hdg) kk
  replace h := av_if c4 h
  by_cases c0 : av_cls q = 0
  · exact av_goI hR (av_cU (As := [.int a1]) (rest := rest) E X hR hls (CX4_heft l g hq (av_it c0 h)) kd_X11_289_0 (av_room (by omega) (by decide)) ⟨c0, av_pl_in hq⟩ (by decide) rfl rfl hrm ⟨Nat.zero_le _, Nat.zero_le _⟩ hdg) kk
  replace h := av_if c0 h
  by_cases c3 : av_cls q = 3
  · exact av_goI hR (av_cU (As := [.int a1]) (rest := rest) E X hR hls (CX3_heft l g hq (av_it c3 h)) kd_X11_289_3 (av_room (by omega) (by decide)) ⟨c3, av_pl_in hq⟩ (by decide) rfl rfl hrm ⟨Nat.zero_le _, Nat.zero_le _⟩ hdg) kk
  replace h := av_if c3 h
  by_cases c6 : av_cls q = 6
  · exact av_goI hR (av_cU (As := [.int a1]) (rest := rest) E X hR hls (CX6_heft l g hq (av_it c6 h)) kd_X11_289_6 (av_room (by omega) (by decide)) ⟨c6, av_pl_in hq⟩ (by decide) rfl rfl hrm ⟨Nat.zero_le _, Nat.zero_le _⟩ hdg) kk
  replace h := av_if c6 h
  by_cases c2 : av_cls q = 2
  · exact av_goI hR (av_cU (As := [.int a1]) (rest := rest) E X hR hls (CX4_heft l g hq (av_it c2 h)) kd_X11_289_2 (av_room (by omega) (by decide)) ⟨c2, av_pl_in hq⟩ (by decide) rfl rfl hrm ⟨Nat.zero_le _, Nat.zero_le _⟩ hdg) kk
  replace h := av_if c2 h
  by_cases c10 : av_cls q = 10
  · exact av_goI hR (av_cU (As := [.int a1]) (rest := rest) E X hR hls (CX3_heft l g hq (av_it c10 h)) kd_X11_289_10 (av_room (by omega) (by decide)) ⟨c10, av_pl_in hq⟩ (by decide) rfl rfl hrm ⟨Nat.zero_le _, Nat.zero_le _⟩ hdg) kk
  replace h := av_if c10 h
  cases h

set_option maxHeartbeats 4000000 in
set_option maxRecDepth 100000 in
theorem CX11_heftAs (l : Launch) (g : Gl) {a1 : Int32} {a2 : Int32} {μ : Mem} {zr : Int32} (h : fX11_heftAs a1 a2 μ = some zr) : av_MI l yX11_heftAs cX11_heftAs 3 3 (some .int) av_wc g [.ref (g.2.2 0), .int a1, .int a2] μ zr μ := by
  refine av_ent (own := RX11) (by decide) (Nat.le_of_ble_eq_true rfl) rfl (fun p e s m args below meth c E X hR ls hl => ?_)
  have hl : lv_has ls 3 [(0, .ref (g.2.2 0)), (1, .int a1), (2, .int a2)] := hl
  obtain ⟨hx, hb, hr, hml, hown, hts, hlocks⟩ := id E
  have hμ : μ = μ := rfl
  unfold fX11_heftAs at h
  refine lv_aload_n hx hb dX11_heftAs_0 rfl (lv_at hl 0 rfl) ?_
  refine gf_X11_32 E X hR av_t0 dX11_heftAs_1 av_r0_0 ?_
  refine gf_X11_63 E X hR av_t14 dX11_heftAs_4 av_r14_0 ?_
  refine lv_iload_n hx hb dX11_heftAs_7 rfl (lv_at hl 1 rfl) ?_
  obtain ⟨r8, er8, h⟩ := av_bd h
  refine av_goR hR (av_cV (As := [.int a1]) (rest := []) E X hR hl.1 (CX9_kindOf l g av_t15 er8) kk_X11_281 (av_room (by omega) (by decide)) av_t15 (by decide) rfl rfl (Nat.le_of_ble_eq_true rfl) ⟨Nat.zero_le _, Nat.zero_le _⟩ dX11_heftAs_8) (fun H locs hR => ?_)
  refine lv_aload_n hx hb dX11_heftAs_11 rfl (lv_at hl 0 rfl) ?_
  refine gf_X11_32 E X hR av_t0 dX11_heftAs_12 av_r0_0 ?_
  refine gf_X11_63 E X hR av_t14 dX11_heftAs_15 av_r14_0 ?_
  refine gf_X11_171 E X hR av_t15 dX11_heftAs_18 av_r15_7 ?_
  refine lv_iload_n hx hb dX11_heftAs_21 rfl (lv_at hl 2 rfl) ?_
  obtain ⟨r22, er22, h⟩ := av_bd h
  refine av_il E X hR av_t20 er22 dX11_heftAs_22 ?_
  obtain ⟨r23, er23, h⟩ := av_bd h
  refine dr_X11_289 (rest := []) E X hR hl.1 (tyX9_kindOf av_t15 er8) er23 (by omega) (Nat.le_of_ble_eq_true rfl) dX11_heftAs_23 (fun H locs hR => ?_)
  exact av_ri E hR ⟨Option.some.inj h, hμ.symm⟩ dX11_heftAs_26

set_option maxHeartbeats 4000000 in
set_option maxRecDepth 100000 in
theorem CX11_about (l : Launch) (g : Gl) {a1 : Int32} {a2 : Int32} {μ : Mem} {zr : Int32} {zm : Mem} (h : fX11_about a1 a2 μ = some (zr, zm)) : av_MI l yX11_about cX11_about 3 5 (some .int) av_wc g [.ref (g.2.2 0), .int a1, .int a2] μ zr zm := by
  refine av_ent (own := RX11) (by decide) (Nat.le_of_ble_eq_true rfl) rfl (fun p e s m args below meth c E X hR ls hl => ?_)
  have hl : lv_has ls 3 [(0, .ref (g.2.2 0)), (1, .int a1), (2, .int a2)] := hl
  obtain ⟨hx, hb, hr, hml, hown, hts, hlocks⟩ := id E
  unfold fX11_about at h
  refine lv_aload_n hx hb dX11_about_0 rfl (lv_at hl 0 rfl) ?_
  refine lv_iload_n hx hb dX11_about_1 rfl (lv_at hl 1 rfl) ?_
  obtain ⟨r2, er2, h⟩ := av_bd h
  refine av_goI hR (av_cV (As := [.int a1]) (rest := []) E X hR hl.1 (CX11_isVoter l g er2) kk_X11_119 (av_room (by omega) (by decide)) av_t0 (by decide) rfl rfl (Nat.le_of_ble_eq_true rfl) ⟨Nat.zero_le _, Nat.zero_le _⟩ dX11_about_2) (fun H locs hR => ?_)
  refine lv_if_ne (tgt := 15) hx hb dX11_about_5 (by decide) (fun c5 => ?_) (fun c5 => ?_)
  · have h := av_if c5 h
    refine lv_iload_n hx hb dX11_about_15 rfl (lv_at hl 2 rfl) ?_
    by_cases c16_0 : a2 = 0
    · have h := av_it c16_0 h
      refine lv_tableIn (tgt := 52) (off := 36) hx hb dX11_about_16 (by rw [c16_0]; decide) (by rw [c16_0]; decide) (by rw [c16_0]; decide) (by decide) ?_
      refine lv_aload_n hx hb dX11_about_52 rfl (lv_at hl 0 rfl) ?_
      refine gf_X11_32 E X hR av_t0 dX11_about_53 av_r0_0 ?_
      refine gf_X11_63 E X hR av_t14 dX11_about_56 av_r14_0 ?_
      refine gf_X11_165 E X hR av_t15 dX11_about_59 av_r15_5 ?_
      refine lv_iload_n hx hb dX11_about_62 rfl (lv_at hl 1 rfl) ?_
      obtain ⟨r63, er63, h⟩ := av_bd h
      refine av_il E X hR av_t18 er63 dX11_about_63 ?_
      exact av_ri E hR (av_r2 h) dX11_about_64
    have h := av_if c16_0 h
    by_cases c16_1 : a2 = 1
    · have h := av_it c16_1 h
      refine lv_tableIn (tgt := 65) (off := 49) hx hb dX11_about_16 (by rw [c16_1]; decide) (by rw [c16_1]; decide) (by rw [c16_1]; decide) (by decide) ?_
      refine lv_aload_n hx hb dX11_about_65 rfl (lv_at hl 0 rfl) ?_
      refine gf_X11_32 E X hR av_t0 dX11_about_66 av_r0_0 ?_
      refine gf_X11_63 E X hR av_t14 dX11_about_69 av_r14_0 ?_
      refine gf_X11_168 E X hR av_t15 dX11_about_72 av_r15_6 ?_
      refine lv_iload_n hx hb dX11_about_75 rfl (lv_at hl 1 rfl) ?_
      obtain ⟨r76, er76, h⟩ := av_bd h
      refine av_il E X hR av_t19 er76 dX11_about_76 ?_
      exact av_ri E hR (av_r2 h) dX11_about_77
    have h := av_if c16_1 h
    by_cases c16_2 : a2 = 2
    · have h := av_it c16_2 h
      refine lv_tableIn (tgt := 78) (off := 62) hx hb dX11_about_16 (by rw [c16_2]; decide) (by rw [c16_2]; decide) (by rw [c16_2]; decide) (by decide) ?_
      refine lv_aload_n hx hb dX11_about_78 rfl (lv_at hl 0 rfl) ?_
      refine gf_X11_32 E X hR av_t0 dX11_about_79 av_r0_0 ?_
      refine gf_X11_63 E X hR av_t14 dX11_about_82 av_r14_0 ?_
      refine gf_X11_171 E X hR av_t15 dX11_about_85 av_r15_7 ?_
      refine lv_iload_n hx hb dX11_about_88 rfl (lv_at hl 1 rfl) ?_
      obtain ⟨r89, er89, h⟩ := av_bd h
      refine av_il E X hR av_t20 er89 dX11_about_89 ?_
      exact av_ri E hR (av_r2 h) dX11_about_90
    have h := av_if c16_2 h
    by_cases c16_3 : a2 = 3
    · have h := av_it c16_3 h
      refine lv_tableIn (tgt := 91) (off := 75) hx hb dX11_about_16 (by rw [c16_3]; decide) (by rw [c16_3]; decide) (by rw [c16_3]; decide) (by decide) ?_
      refine lv_aload_n hx hb dX11_about_91 rfl (lv_at hl 0 rfl) ?_
      refine lv_aload_n hx hb dX11_about_92 rfl (lv_at hl 0 rfl) ?_
      refine gf_X11_32 E X hR av_t0 dX11_about_93 av_r0_0 ?_
      refine gf_X11_63 E X hR av_t14 dX11_about_96 av_r14_0 ?_
      refine gf_X11_165 E X hR av_t15 dX11_about_99 av_r15_5 ?_
      refine lv_iload_n hx hb dX11_about_102 rfl (lv_at hl 1 rfl) ?_
      obtain ⟨r103, er103, h⟩ := av_bd h
      refine av_il E X hR av_t18 er103 dX11_about_103 ?_
      refine lv_iload_n hx hb dX11_about_104 rfl (lv_at hl 1 rfl) ?_
      obtain ⟨r105, er105, h⟩ := av_bd h
      refine av_goI hR (av_cV (As := [.int r103, .int a1]) (rest := []) E X hR hl.1 (CX11_placeAs l g er105) kk_X11_174 (av_room (by omega) (by decide)) av_t0 (by decide) rfl rfl (Nat.le_of_ble_eq_true rfl) ⟨Nat.zero_le _, Nat.zero_le _⟩ dX11_about_105) (fun H locs hR => ?_)
      exact av_ri E hR (av_r2 h) dX11_about_108
    have h := av_if c16_3 h
    by_cases c16_4 : a2 = 4
    · have h := av_it c16_4 h
      refine lv_tableIn (tgt := 109) (off := 93) hx hb dX11_about_16 (by rw [c16_4]; decide) (by rw [c16_4]; decide) (by rw [c16_4]; decide) (by decide) ?_
      refine lv_aload_n hx hb dX11_about_109 rfl (lv_at hl 0 rfl) ?_
      refine lv_aload_n hx hb dX11_about_110 rfl (lv_at hl 0 rfl) ?_
      refine gf_X11_32 E X hR av_t0 dX11_about_111 av_r0_0 ?_
      refine gf_X11_63 E X hR av_t14 dX11_about_114 av_r14_0 ?_
      refine gf_X11_165 E X hR av_t15 dX11_about_117 av_r15_5 ?_
      refine lv_iload_n hx hb dX11_about_120 rfl (lv_at hl 1 rfl) ?_
      obtain ⟨r121, er121, h⟩ := av_bd h
      refine av_il E X hR av_t18 er121 dX11_about_121 ?_
      refine lv_iload_n hx hb dX11_about_122 rfl (lv_at hl 1 rfl) ?_
      obtain ⟨r123, er123, h⟩ := av_bd h
      refine av_goI hR (av_cV (As := [.int r121, .int a1]) (rest := []) E X hR hl.1 (CX11_heftAs l g er123) kk_X11_178 (av_room (by omega) (by decide)) av_t0 (by decide) rfl rfl (Nat.le_of_ble_eq_true rfl) ⟨Nat.zero_le _, Nat.zero_le _⟩ dX11_about_123) (fun H locs hR => ?_)
      exact av_ri E hR (av_r2 h) dX11_about_126
    have h := av_if c16_4 h
    have n16_0 := lv_neT c16_0 (a := 0) (by decide)
    have n16_1 := lv_neT c16_1 (a := 1) (by decide)
    have n16_2 := lv_neT c16_2 (a := 2) (by decide)
    have n16_3 := lv_neT c16_3 (a := 3) (by decide)
    have n16_4 := lv_neT c16_4 (a := 4) (by decide)
    refine lv_tableOut (tgt := 127) hx hb dX11_about_16 (by omega) (by decide) ?_
    refine lv_aload_n hx hb dX11_about_127 rfl (lv_at hl 0 rfl) ?_
    refine lv_bipush (v := (-2)) hx hb dX11_about_128 rfl ?_
    obtain ⟨r130, μ130, er130, h⟩ := av_bd2 h
    refine av_goI hR (av_cV (As := [.int (-2)]) (rest := []) E X hR hl.1 (CX11_bad l g er130) kk_X11_80 (av_room (by omega) (by decide)) av_t0 (by decide) rfl rfl (Nat.le_of_ble_eq_true rfl) ⟨Nat.zero_le _, Nat.zero_le _⟩ dX11_about_130) (fun H locs hR => ?_)
    exact av_ri E hR (av_r2 h) dX11_about_133
  · have h := av_it c5 h
    refine lv_aload_n hx hb dX11_about_8 rfl (lv_at hl 0 rfl) ?_
    refine lv_bipush (v := (-2)) hx hb dX11_about_9 rfl ?_
    obtain ⟨r11, μ11, er11, h⟩ := av_bd2 h
    refine av_goI hR (av_cV (As := [.int (-2)]) (rest := []) E X hR hl.1 (CX11_bad l g er11) kk_X11_80 (av_room (by omega) (by decide)) av_t0 (by decide) rfl rfl (Nat.le_of_ble_eq_true rfl) ⟨Nat.zero_le _, Nat.zero_le _⟩ dX11_about_11) (fun H locs hR => ?_)
    exact av_ri E hR (av_r2 h) dX11_about_14

set_option maxHeartbeats 4000000 in
set_option maxRecDepth 100000 in
theorem CX11_winner (l : Launch) (g : Gl) {μ : Mem} {zr : Int32} (h : fX11_winner μ = some zr) : av_MI l yX11_winner cX11_winner 1 1 (some .int) av_wc g [.ref (g.2.2 0)] μ zr μ := by
  refine av_ent (own := RX11) (by decide) (Nat.le_of_ble_eq_true rfl) rfl (fun p e s m args below meth c E X hR ls hl => ?_)
  have hl : lv_has ls 1 [(0, .ref (g.2.2 0))] := hl
  obtain ⟨hx, hb, hr, hml, hown, hts, hlocks⟩ := id E
  have hμ : μ = μ := rfl
  unfold fX11_winner at h
  refine lv_aload_n hx hb dX11_winner_0 rfl (lv_at hl 0 rfl) ?_
  refine gf_X11_32 E X hR av_t0 dX11_winner_1 av_r0_0 ?_
  refine gf_X11_125 E X hR av_t14 dX11_winner_4 av_r14_1 ?_
  refine gf_X11_181 E X hR av_t21 dX11_winner_7 ?_
  exact av_ri E hR ⟨Option.some.inj h, hμ.symm⟩ dX11_winner_10

set_option maxHeartbeats 4000000 in
set_option maxRecDepth 100000 in
theorem CX11_coalition (l : Launch) (g : Gl) {μ : Mem} {zr : Int32} (h : fX11_coalition μ = some zr) : av_MI l yX11_coalition cX11_coalition 1 1 (some .int) av_wc g [.ref (g.2.2 0)] μ zr μ := by
  refine av_ent (own := RX11) (by decide) (Nat.le_of_ble_eq_true rfl) rfl (fun p e s m args below meth c E X hR ls hl => ?_)
  have hl : lv_has ls 1 [(0, .ref (g.2.2 0))] := hl
  obtain ⟨hx, hb, hr, hml, hown, hts, hlocks⟩ := id E
  have hμ : μ = μ := rfl
  unfold fX11_coalition at h
  refine lv_aload_n hx hb dX11_coalition_0 rfl (lv_at hl 0 rfl) ?_
  refine gf_X11_32 E X hR av_t0 dX11_coalition_1 av_r0_0 ?_
  refine gf_X11_125 E X hR av_t14 dX11_coalition_4 av_r14_1 ?_
  refine gf_X11_184 E X hR av_t21 dX11_coalition_7 ?_
  exact av_ri E hR ⟨Option.some.inj h, hμ.symm⟩ dX11_coalition_10

set_option maxHeartbeats 4000000 in
set_option maxRecDepth 100000 in
theorem CX11_february (l : Launch) (g : Gl) {a1 : Int32} {μ : Mem} {zr : Int32} {zm : Mem} (h : fX11_february a1 μ = some (zr, zm)) : av_MI l yX11_february cX11_february 3 6 (some .int) av_wc g [.ref (g.2.2 0), .int a1] μ zr zm := by
  refine av_ent (own := RX11) (by decide) (Nat.le_of_ble_eq_true rfl) rfl (fun p e s m args below meth c E X hR ls hl => ?_)
  have hl : lv_has ls 3 [(0, .ref (g.2.2 0)), (1, .int a1)] := hl
  obtain ⟨hx, hb, hr, hml, hown, hts, hlocks⟩ := id E
  unfold fX11_february at h
  refine lv_iload_n hx hb dX11_february_0 rfl (lv_at hl 1 rfl) ?_
  refine lv_iconst (v := 0) hx hb dX11_february_1 rfl ?_
  refine lv_iconst (v := 1) hx hb dX11_february_2 rfl ?_
  obtain ⟨r3, er3, h⟩ := av_bd h
  refine av_goI hR (av_cS (As := [.int a1, .int 0, .int 1]) (rest := []) E X hR hl.1 (CX11_within l g er3) kk_X11_76 (av_room (by omega) (by decide)) rfl (Nat.le_of_ble_eq_true rfl) ⟨Nat.zero_le _, Nat.zero_le _⟩ dX11_february_3) (fun H locs hR => ?_)
  refine lv_if_ne (tgt := 16) hx hb dX11_february_6 (by decide) (fun c6 => ?_) (fun c6 => ?_)
  · have h := av_if c6 h
    refine lv_aload_n hx hb dX11_february_16 rfl (lv_at hl 0 rfl) ?_
    refine gf_X11_55 E X hR av_t0 dX11_february_17 av_r0_5 ?_
    obtain ⟨r20, μ20, er20, h⟩ := av_bd2 h
    refine av_goR hR (av_cV (As := []) (rest := []) E X hR hl.1 (CX1_afterFebruary l g er20) kk_X11_187 (av_room (by omega) (by decide)) av_t11 (by decide) rfl rfl (Nat.le_of_ble_eq_true rfl) ⟨Nat.zero_le _, Nat.zero_le _⟩ dX11_february_20) (fun H locs hR => ?_)
    refine lv_astore_n (lv' := [(2, .ref (g.2.2 r20)), (0, .ref (g.2.2 0)), (1, .int a1)]) hx hb dX11_february_23 rfl hl (by decide) rfl (fun ls hl => ?_)
    refine lv_iload_n hx hb dX11_february_24 rfl (lv_at hl 2 rfl) ?_
    refine lv_if_ne (tgt := 35) hx hb dX11_february_25 (by decide) (fun c25 => ?_) (fun c25 => ?_)
    · have h := av_if c25 h
      refine lv_aload_n hx hb dX11_february_35 rfl (lv_at hl 0 rfl) ?_
      refine gf_X11_184 E X hR (tyX1_afterFebruary er20) dX11_february_36 ?_
      exact av_ri E hR (av_r2 h) dX11_february_39
    · have h := av_it c25 h
      refine lv_aload_n hx hb dX11_february_28 rfl (lv_at hl 0 rfl) ?_
      refine gf_X11_181 E X hR (tyX1_afterFebruary er20) dX11_february_29 ?_
      refine lv_goto (tgt := 39) hx hb dX11_february_32 (by decide) ?_
      exact av_ri E hR (av_r2 h) dX11_february_39
  · have h := av_it c6 h
    refine lv_aload_n hx hb dX11_february_9 rfl (lv_at hl 0 rfl) ?_
    refine lv_bipush (v := (-2)) hx hb dX11_february_10 rfl ?_
    obtain ⟨r12, μ12, er12, h⟩ := av_bd2 h
    refine av_goI hR (av_cV (As := [.int (-2)]) (rest := []) E X hR hl.1 (CX11_bad l g er12) kk_X11_80 (av_room (by omega) (by decide)) av_t0 (by decide) rfl rfl (Nat.le_of_ble_eq_true rfl) ⟨Nat.zero_le _, Nat.zero_le _⟩ dX11_february_12) (fun H locs hR => ?_)
    exact av_ri E hR (av_r2 h) dX11_february_15

set_option maxHeartbeats 4000000 in
set_option maxRecDepth 100000 in
theorem tX11_orders_93 {p : Program} {l : Launch} {e : Env} {s : State} {m : MethodId} {args : Array Value} {below : List Frame} {meth : Method} {c : Code} {g : Gl} {zr : Int32} {zm : Mem} (E : av_E p s m args meth c cX11_orders RX11 4 (some .int)) (X : av_X av_wc g s) :
    ∀ {μ : Mem} {H : Heap} {locs : List Loc} {ls : Array Slot}, fX11_orders_93 μ = some (zr, zm) → av_R av_wc g μ s H locs → lv_has ls 4 [] → W p l e (rmN 23) s m args below meth c H locs 0 0 (MQ below (va_Qi (fun r1 u => r1 = zr ∧ u = zm) (av_B av_wc g) (av_A av_wc g)) args s 0 0 (av_A av_wc g)) (F0 m 93 ls []) := by
  obtain ⟨hx, hb, hr, hml, hown, hts, hlocks⟩ := id E
  intro μ H locs ls h hR hl
  unfold fX11_orders_93 at h
  refine lv_bipush (v := (-5)) hx hb dX11_orders_93 rfl ?_
  exact av_ri E hR (av_r2 h) dX11_orders_95

set_option maxHeartbeats 4000000 in
set_option maxRecDepth 100000 in
theorem tX11_orders_13 {p : Program} {l : Launch} {e : Env} {s : State} {m : MethodId} {args : Array Value} {below : List Frame} {meth : Method} {c : Code} {g : Gl} {zr : Int32} {zm : Mem} (E : av_E p s m args meth c cX11_orders RX11 4 (some .int)) (X : av_X av_wc g s) :
    ∀ {μ : Mem} {H : Heap} {locs : List Loc} {ls : Array Slot}, fX11_orders_13 μ = some (zr, zm) → av_R av_wc g μ s H locs → lv_has ls 4 [(0, .ref (g.2.2 0))] → W p l e (rmN 23) s m args below meth c H locs 0 0 (MQ below (va_Qi (fun r1 u => r1 = zr ∧ u = zm) (av_B av_wc g) (av_A av_wc g)) args s 0 0 (av_A av_wc g)) (F0 m 13 ls []) := by
  obtain ⟨hx, hb, hr, hml, hown, hts, hlocks⟩ := id E
  intro μ H locs ls h hR hl
  unfold fX11_orders_13 at h
  refine lv_aload_n hx hb dX11_orders_13 rfl (lv_at hl 0 rfl) ?_
  refine lv_bipush (v := (-10)) hx hb dX11_orders_14 rfl ?_
  obtain ⟨r16, μ16, er16, h⟩ := av_bd2 h
  refine av_goI hR (av_cV (As := [.int (-10)]) (rest := []) E X hR hl.1 (CX11_bad l g er16) kk_X11_80 (av_room (by omega) (by decide)) av_t0 (by decide) rfl rfl (Nat.le_of_ble_eq_true rfl) ⟨Nat.zero_le _, Nat.zero_le _⟩ dX11_orders_16) (fun H locs hR => ?_)
  exact av_ri E hR (av_r2 h) dX11_orders_19

set_option maxHeartbeats 4000000 in
set_option maxRecDepth 100000 in
theorem CX11_orders (l : Launch) (g : Gl) {a1 : Int32} {a2 : Int32} {μ : Mem} {zr : Int32} {zm : Mem} (h : fX11_orders a1 a2 μ = some (zr, zm)) : av_MI l yX11_orders cX11_orders 4 23 (some .int) av_wc g [.ref (g.2.2 0), .int a1, .int a2] μ zr zm := by
  refine av_ent (own := RX11) (by decide) (Nat.le_of_ble_eq_true rfl) rfl (fun p e s m args below meth c E X hR ls hl => ?_)
  have hl : lv_has ls 4 [(0, .ref (g.2.2 0)), (1, .int a1), (2, .int a2)] := hl
  obtain ⟨hx, hb, hr, hml, hown, hts, hlocks⟩ := id E
  unfold fX11_orders at h
  refine lv_aload_n hx hb dX11_orders_0 rfl (lv_at hl 0 rfl) ?_
  refine lv_iload_n hx hb dX11_orders_1 rfl (lv_at hl 1 rfl) ?_
  obtain ⟨r2, er2, h⟩ := av_bd h
  refine av_goI hR (av_cV (As := [.int a1]) (rest := []) E X hR hl.1 (CX11_isLedge l g er2) kk_X11_92 (av_room (by omega) (by decide)) av_t0 (by decide) rfl rfl (Nat.le_of_ble_eq_true rfl) ⟨Nat.zero_le _, Nat.zero_le _⟩ dX11_orders_2) (fun H locs hR => ?_)
  refine lv_if_eq (tgt := 13) hx hb dX11_orders_5 (by decide) (fun c5 => ?_) (fun c5 => ?_)
  · have h := av_it c5 h
    exact tX11_orders_13 E X h hR (lv_sub hl [0] rfl)
  · have h := av_if c5 h
    refine lv_iload_n hx hb dX11_orders_8 rfl (lv_at hl 2 rfl) ?_
    refine lv_iconst (v := (-1)) hx hb dX11_orders_9 rfl ?_
    refine lv_icmp_ge (tgt := 20) hx hb dX11_orders_10 (by decide) (fun c10 => ?_) (fun c10 => ?_)
    · have h := av_it c10 h
      refine lv_aload_n hx hb dX11_orders_20 rfl (lv_at hl 0 rfl) ?_
      refine gf_X11_32 E X hR av_t0 dX11_orders_21 av_r0_0 ?_
      refine gf_X11_125 E X hR av_t14 dX11_orders_24 av_r14_1 ?_
      refine gf_X11_181 E X hR av_t21 dX11_orders_27 ?_
      refine lv_iconst (v := (-1)) hx hb dX11_orders_30 rfl ?_
      refine lv_icmp_eq (tgt := 39) hx hb dX11_orders_31 (by decide) (fun c31 => ?_) (fun c31 => ?_)
      · have h := av_it c31 h
        refine lv_aload_n hx hb dX11_orders_39 rfl (lv_at hl 0 rfl) ?_
        refine gf_X11_55 E X hR av_t0 dX11_orders_40 av_r0_5 ?_
        refine lv_iload_n hx hb dX11_orders_43 rfl (lv_at hl 1 rfl) ?_
        obtain ⟨r44, μ44, er44, h⟩ := av_bd2 h
        refine av_goI hR (av_cV (As := [.int a1]) (rest := []) E X hR hl.1 (CX1_ordersWon l g er44) kk_X11_191 (av_room (by omega) (by decide)) av_t11 (by decide) rfl rfl (Nat.le_of_ble_eq_true rfl) ⟨Nat.zero_le _, Nat.zero_le _⟩ dX11_orders_44) (fun H locs hR => ?_)
        refine lv_istore_n (lv' := [(3, .int r44), (0, .ref (g.2.2 0)), (1, .int a1), (2, .int a2)]) hx hb dX11_orders_47 rfl hl (by decide) rfl (fun ls hl => ?_)
        refine lv_iload_n hx hb dX11_orders_48 rfl (lv_at hl 3 rfl) ?_
        refine lv_iconst (v := (-1)) hx hb dX11_orders_49 rfl ?_
        refine lv_icmp_ne (tgt := 55) hx hb dX11_orders_50 (by decide) (fun c50 => ?_) (fun c50 => ?_)
        · have h := av_if c50 h
          refine lv_iload_n hx hb dX11_orders_55 rfl (lv_at hl 0 rfl) ?_
          refine lv_if_ne (tgt := 61) hx hb dX11_orders_56 (by decide) (fun c56 => ?_) (fun c56 => ?_)
          · have h := av_if c56 h
            refine lv_iload_n hx hb dX11_orders_61 rfl (lv_at hl 3 rfl) ?_
            refine lv_aload_n hx hb dX11_orders_62 rfl (lv_at hl 1 rfl) ?_
            refine gf_X11_32 E X hR av_t0 dX11_orders_63 av_r0_0 ?_
            refine gf_X11_63 E X hR av_t14 dX11_orders_66 av_r14_0 ?_
            refine gf_X11_96 E X hR av_t15 dX11_orders_69 ?_
            refine lv_icmp_ge (tgt := 93) hx hb dX11_orders_72 (by decide) (fun c72 => ?_) (fun c72 => ?_)
            · have h := av_it c72 h
              exact tX11_orders_93 E X h hR (lv_sub hl [] rfl)
            · have h := av_if c72 h
              refine lv_iload_n hx hb dX11_orders_75 rfl (lv_at hl 3 rfl) ?_
              refine lv_bipush (v := 6) hx hb dX11_orders_76 rfl ?_
              refine lv_icmp_ge (tgt := 93) hx hb dX11_orders_78 (by decide) (fun c78 => ?_) (fun c78 => ?_)
              · have h := av_it c78 h
                exact tX11_orders_93 E X h hR (lv_sub hl [] rfl)
              · have h := av_if c78 h
                refine lv_aload_n hx hb dX11_orders_81 rfl (lv_at hl 1 rfl) ?_
                refine gf_X11_55 E X hR av_t0 dX11_orders_82 av_r0_5 ?_
                refine gf_X11_194 E X hR av_t11 dX11_orders_85 av_r11_3 ?_
                refine lv_iload_n hx hb dX11_orders_88 rfl (lv_at hl 3 rfl) ?_
                obtain ⟨r89, er89, h⟩ := av_bd h
                refine av_il E X hR av_t13 er89 dX11_orders_89 ?_
                refine lv_goto (tgt := 95) hx hb dX11_orders_90 (by decide) ?_
                exact av_ri E hR (av_r2 h) dX11_orders_95
          · have h := av_it c56 h
            refine lv_iconst (v := (-1)) hx hb dX11_orders_59 rfl ?_
            exact av_ri E hR (av_r2 h) dX11_orders_60
        · have h := av_it c50 h
          refine lv_iload_n hx hb dX11_orders_53 rfl (lv_at hl 0 rfl) ?_
          exact av_ri E hR (av_r2 h) dX11_orders_54
      · have h := av_if c31 h
        refine lv_aload_n hx hb dX11_orders_34 rfl (lv_at hl 0 rfl) ?_
        obtain ⟨r35, μ35, er35, h⟩ := av_bd2 h
        refine av_goI hR (av_cV (As := []) (rest := []) E X hR hl.1 (CX11_no l g er35) kk_X11_143 (av_room (by omega) (by decide)) av_t0 (by decide) rfl rfl (Nat.le_of_ble_eq_true rfl) ⟨Nat.zero_le _, Nat.zero_le _⟩ dX11_orders_35) (fun H locs hR => ?_)
        exact av_ri E hR (av_r2 h) dX11_orders_38
    · have h := av_if c10 h
      exact tX11_orders_13 E X h hR (lv_sub hl [0] rfl)

set_option maxHeartbeats 4000000 in
set_option maxRecDepth 100000 in
theorem tX11_stones_17 {p : Program} {l : Launch} {e : Env} {s : State} {m : MethodId} {args : Array Value} {below : List Frame} {meth : Method} {c : Code} {g : Gl} {zr : Int32} {zm : Mem} (E : av_E p s m args meth c cX11_stones RX11 4 (some .int)) (X : av_X av_wc g s) :
    ∀ {μ : Mem} {H : Heap} {locs : List Loc} {ls : Array Slot}, fX11_stones_17 μ = some (zr, zm) → av_R av_wc g μ s H locs → lv_has ls 4 [(0, .ref (g.2.2 0))] → W p l e (rmN 23) s m args below meth c H locs 0 0 (MQ below (va_Qi (fun r1 u => r1 = zr ∧ u = zm) (av_B av_wc g) (av_A av_wc g)) args s 0 0 (av_A av_wc g)) (F0 m 17 ls []) := by
  obtain ⟨hx, hb, hr, hml, hown, hts, hlocks⟩ := id E
  intro μ H locs ls h hR hl
  unfold fX11_stones_17 at h
  refine lv_aload_n hx hb dX11_stones_17 rfl (lv_at hl 0 rfl) ?_
  refine lv_bipush (v := (-2)) hx hb dX11_stones_18 rfl ?_
  obtain ⟨r20, μ20, er20, h⟩ := av_bd2 h
  refine av_goI hR (av_cV (As := [.int (-2)]) (rest := []) E X hR hl.1 (CX11_bad l g er20) kk_X11_80 (av_room (by omega) (by decide)) av_t0 (by decide) rfl rfl (Nat.le_of_ble_eq_true rfl) ⟨Nat.zero_le _, Nat.zero_le _⟩ dX11_stones_20) (fun H locs hR => ?_)
  exact av_ri E hR (av_r2 h) dX11_stones_23

set_option maxHeartbeats 4000000 in
set_option maxRecDepth 100000 in
theorem CX11_stones (l : Launch) (g : Gl) {a1 : Int32} {a2 : Int32} {μ : Mem} {zr : Int32} {zm : Mem} (h : fX11_stones a1 a2 μ = some (zr, zm)) : av_MI l yX11_stones cX11_stones 4 23 (some .int) av_wc g [.ref (g.2.2 0), .int a1, .int a2] μ zr zm := by
  refine av_ent (own := RX11) (by decide) (Nat.le_of_ble_eq_true rfl) rfl (fun p e s m args below meth c E X hR ls hl => ?_)
  have hl : lv_has ls 4 [(0, .ref (g.2.2 0)), (1, .int a1), (2, .int a2)] := hl
  obtain ⟨hx, hb, hr, hml, hown, hts, hlocks⟩ := id E
  unfold fX11_stones at h
  refine lv_aload_n hx hb dX11_stones_0 rfl (lv_at hl 0 rfl) ?_
  refine lv_iload_n hx hb dX11_stones_1 rfl (lv_at hl 1 rfl) ?_
  obtain ⟨r2, er2, h⟩ := av_bd h
  refine av_goI hR (av_cV (As := [.int a1]) (rest := []) E X hR hl.1 (CX11_isLedge l g er2) kk_X11_92 (av_room (by omega) (by decide)) av_t0 (by decide) rfl rfl (Nat.le_of_ble_eq_true rfl) ⟨Nat.zero_le _, Nat.zero_le _⟩ dX11_stones_2) (fun H locs hR => ?_)
  refine lv_if_eq (tgt := 17) hx hb dX11_stones_5 (by decide) (fun c5 => ?_) (fun c5 => ?_)
  · have h := av_it c5 h
    exact tX11_stones_17 E X h hR (lv_sub hl [0] rfl)
  · have h := av_if c5 h
    refine lv_iload_n hx hb dX11_stones_8 rfl (lv_at hl 2 rfl) ?_
    refine lv_iconst (v := 0) hx hb dX11_stones_9 rfl ?_
    refine lv_iconst (v := 1) hx hb dX11_stones_10 rfl ?_
    obtain ⟨r11, er11, h⟩ := av_bd h
    refine av_goI hR (av_cS (As := [.int a2, .int 0, .int 1]) (rest := []) E X hR hl.1 (CX11_within l g er11) kk_X11_76 (av_room (by omega) (by decide)) rfl (Nat.le_of_ble_eq_true rfl) ⟨Nat.zero_le _, Nat.zero_le _⟩ dX11_stones_11) (fun H locs hR => ?_)
    refine lv_if_ne (tgt := 24) hx hb dX11_stones_14 (by decide) (fun c14 => ?_) (fun c14 => ?_)
    · have h := av_if c14 h
      refine lv_aload_n hx hb dX11_stones_24 rfl (lv_at hl 0 rfl) ?_
      refine gf_X11_55 E X hR av_t0 dX11_stones_25 av_r0_5 ?_
      refine lv_iload_n hx hb dX11_stones_28 rfl (lv_at hl 1 rfl) ?_
      obtain ⟨r29, μ29, er29, h⟩ := av_bd2 h
      refine av_goI hR (av_cV (As := [.int a1]) (rest := []) E X hR hl.1 (CX1_fewestStones l g er29) kk_X11_197 (av_room (by omega) (by decide)) av_t11 (by decide) rfl rfl (Nat.le_of_ble_eq_true rfl) ⟨Nat.zero_le _, Nat.zero_le _⟩ dX11_stones_29) (fun H locs hR => ?_)
      refine lv_istore_n (lv' := [(3, .int r29), (0, .ref (g.2.2 0)), (1, .int a1), (2, .int a2)]) hx hb dX11_stones_32 rfl hl (by decide) rfl (fun ls hl => ?_)
      refine lv_iload_n hx hb dX11_stones_33 rfl (lv_at hl 3 rfl) ?_
      refine lv_if_ne (tgt := 41) hx hb dX11_stones_34 (by decide) (fun c34 => ?_) (fun c34 => ?_)
      · have h := av_if c34 h
        refine lv_aload_n hx hb dX11_stones_41 rfl (lv_at hl 1 rfl) ?_
        refine gf_X11_55 E X hR av_t0 dX11_stones_42 av_r0_5 ?_
        refine gf_X11_200 E X hR av_t11 dX11_stones_45 ?_
        exact av_ri E hR (av_r2 h) dX11_stones_48
      · have h := av_it c34 h
        refine lv_iload_n hx hb dX11_stones_37 rfl (lv_at hl 0 rfl) ?_
        refine lv_goto (tgt := 48) hx hb dX11_stones_38 (by decide) ?_
        exact av_ri E hR (av_r2 h) dX11_stones_48
    · have h := av_it c14 h
      exact tX11_stones_17 E X h hR (lv_sub hl [0] rfl)

set_option maxHeartbeats 4000000 in
set_option maxRecDepth 100000 in
theorem tX11_buried_18 {p : Program} {l : Launch} {e : Env} {s : State} {m : MethodId} {args : Array Value} {below : List Frame} {meth : Method} {c : Code} {g : Gl} {zr : Int32} {zm : Mem} (E : av_E p s m args meth c cX11_buried RX11 3 (some .int)) (X : av_X av_wc g s) :
    ∀ {μ : Mem} {H : Heap} {locs : List Loc} {ls : Array Slot}, fX11_buried_18 μ = some (zr, zm) → av_R av_wc g μ s H locs → lv_has ls 3 [(0, .ref (g.2.2 0))] → W p l e (rmN 5) s m args below meth c H locs 0 0 (MQ below (va_Qi (fun r1 u => r1 = zr ∧ u = zm) (av_B av_wc g) (av_A av_wc g)) args s 0 0 (av_A av_wc g)) (F0 m 18 ls []) := by
  obtain ⟨hx, hb, hr, hml, hown, hts, hlocks⟩ := id E
  intro μ H locs ls h hR hl
  unfold fX11_buried_18 at h
  refine lv_aload_n hx hb dX11_buried_18 rfl (lv_at hl 0 rfl) ?_
  refine lv_bipush (v := (-2)) hx hb dX11_buried_19 rfl ?_
  obtain ⟨r21, μ21, er21, h⟩ := av_bd2 h
  refine av_goI hR (av_cV (As := [.int (-2)]) (rest := []) E X hR hl.1 (CX11_bad l g er21) kk_X11_80 (av_room (by omega) (by decide)) av_t0 (by decide) rfl rfl (Nat.le_of_ble_eq_true rfl) ⟨Nat.zero_le _, Nat.zero_le _⟩ dX11_buried_21) (fun H locs hR => ?_)
  exact av_ri E hR (av_r2 h) dX11_buried_24

set_option maxHeartbeats 4000000 in
set_option maxRecDepth 100000 in
theorem CX11_buried (l : Launch) (g : Gl) {a1 : Int32} {a2 : Int32} {μ : Mem} {zr : Int32} {zm : Mem} (h : fX11_buried a1 a2 μ = some (zr, zm)) : av_MI l yX11_buried cX11_buried 3 5 (some .int) av_wc g [.ref (g.2.2 0), .int a1, .int a2] μ zr zm := by
  refine av_ent (own := RX11) (by decide) (Nat.le_of_ble_eq_true rfl) rfl (fun p e s m args below meth c E X hR ls hl => ?_)
  have hl : lv_has ls 3 [(0, .ref (g.2.2 0)), (1, .int a1), (2, .int a2)] := hl
  obtain ⟨hx, hb, hr, hml, hown, hts, hlocks⟩ := id E
  unfold fX11_buried at h
  refine lv_aload_n hx hb dX11_buried_0 rfl (lv_at hl 0 rfl) ?_
  refine lv_iload_n hx hb dX11_buried_1 rfl (lv_at hl 1 rfl) ?_
  obtain ⟨r2, er2, h⟩ := av_bd h
  refine av_goI hR (av_cV (As := [.int a1]) (rest := []) E X hR hl.1 (CX11_isLedge l g er2) kk_X11_92 (av_room (by omega) (by decide)) av_t0 (by decide) rfl rfl (Nat.le_of_ble_eq_true rfl) ⟨Nat.zero_le _, Nat.zero_le _⟩ dX11_buried_2) (fun H locs hR => ?_)
  refine lv_if_eq (tgt := 18) hx hb dX11_buried_5 (by decide) (fun c5 => ?_) (fun c5 => ?_)
  · have h := av_it c5 h
    exact tX11_buried_18 E X h hR (lv_sub hl [0] rfl)
  · have h := av_if c5 h
    refine lv_iload_n hx hb dX11_buried_8 rfl (lv_at hl 2 rfl) ?_
    refine lv_iconst (v := 1) hx hb dX11_buried_9 rfl ?_
    refine lv_bipush (v := 20) hx hb dX11_buried_10 rfl ?_
    obtain ⟨r12, er12, h⟩ := av_bd h
    refine av_goI hR (av_cS (As := [.int a2, .int 1, .int 20]) (rest := []) E X hR hl.1 (CX11_within l g er12) kk_X11_76 (av_room (by omega) (by decide)) rfl (Nat.le_of_ble_eq_true rfl) ⟨Nat.zero_le _, Nat.zero_le _⟩ dX11_buried_12) (fun H locs hR => ?_)
    refine lv_if_ne (tgt := 25) hx hb dX11_buried_15 (by decide) (fun c15 => ?_) (fun c15 => ?_)
    · have h := av_if c15 h
      refine lv_aload_n hx hb dX11_buried_25 rfl (lv_at hl 0 rfl) ?_
      refine gf_X11_55 E X hR av_t0 dX11_buried_26 av_r0_5 ?_
      refine lv_iload_n hx hb dX11_buried_29 rfl (lv_at hl 1 rfl) ?_
      refine lv_iload_n hx hb dX11_buried_30 rfl (lv_at hl 2 rfl) ?_
      obtain ⟨r31, μ31, er31, h⟩ := av_bd2 h
      refine av_goI hR (av_cV (As := [.int a1, .int a2]) (rest := []) E X hR hl.1 (CX1_buriedBy l g er31) kk_X11_203 (av_room (by omega) (by decide)) av_t11 (by decide) rfl rfl (Nat.le_of_ble_eq_true rfl) ⟨Nat.zero_le _, Nat.zero_le _⟩ dX11_buried_31) (fun H locs hR => ?_)
      exact av_ri E hR (av_r2 h) dX11_buried_34
    · have h := av_it c15 h
      exact tX11_buried_18 E X h hR (lv_sub hl [0] rfl)

set_option maxHeartbeats 4000000 in
set_option maxRecDepth 100000 in
theorem tX11_nights_18 {p : Program} {l : Launch} {e : Env} {s : State} {m : MethodId} {args : Array Value} {below : List Frame} {meth : Method} {c : Code} {g : Gl} {zr : Int32} {zm : Mem} (E : av_E p s m args meth c cX11_nights RX11 3 (some .int)) (X : av_X av_wc g s) :
    ∀ {μ : Mem} {H : Heap} {locs : List Loc} {ls : Array Slot}, fX11_nights_18 μ = some (zr, zm) → av_R av_wc g μ s H locs → lv_has ls 3 [(0, .ref (g.2.2 0))] → W p l e (rmN 6) s m args below meth c H locs 0 0 (MQ below (va_Qi (fun r1 u => r1 = zr ∧ u = zm) (av_B av_wc g) (av_A av_wc g)) args s 0 0 (av_A av_wc g)) (F0 m 18 ls []) := by
  obtain ⟨hx, hb, hr, hml, hown, hts, hlocks⟩ := id E
  intro μ H locs ls h hR hl
  unfold fX11_nights_18 at h
  refine lv_aload_n hx hb dX11_nights_18 rfl (lv_at hl 0 rfl) ?_
  refine lv_bipush (v := (-2)) hx hb dX11_nights_19 rfl ?_
  obtain ⟨r21, μ21, er21, h⟩ := av_bd2 h
  refine av_goI hR (av_cV (As := [.int (-2)]) (rest := []) E X hR hl.1 (CX11_bad l g er21) kk_X11_80 (av_room (by omega) (by decide)) av_t0 (by decide) rfl rfl (Nat.le_of_ble_eq_true rfl) ⟨Nat.zero_le _, Nat.zero_le _⟩ dX11_nights_21) (fun H locs hR => ?_)
  exact av_ri E hR (av_r2 h) dX11_nights_24

set_option maxHeartbeats 4000000 in
set_option maxRecDepth 100000 in
theorem CX11_nights (l : Launch) (g : Gl) {a1 : Int32} {a2 : Int32} {μ : Mem} {zr : Int32} {zm : Mem} (h : fX11_nights a1 a2 μ = some (zr, zm)) : av_MI l yX11_nights cX11_nights 3 6 (some .int) av_wc g [.ref (g.2.2 0), .int a1, .int a2] μ zr zm := by
  refine av_ent (own := RX11) (by decide) (Nat.le_of_ble_eq_true rfl) rfl (fun p e s m args below meth c E X hR ls hl => ?_)
  have hl : lv_has ls 3 [(0, .ref (g.2.2 0)), (1, .int a1), (2, .int a2)] := hl
  obtain ⟨hx, hb, hr, hml, hown, hts, hlocks⟩ := id E
  unfold fX11_nights at h
  refine lv_aload_n hx hb dX11_nights_0 rfl (lv_at hl 0 rfl) ?_
  refine lv_iload_n hx hb dX11_nights_1 rfl (lv_at hl 1 rfl) ?_
  obtain ⟨r2, er2, h⟩ := av_bd h
  refine av_goI hR (av_cV (As := [.int a1]) (rest := []) E X hR hl.1 (CX11_isLedge l g er2) kk_X11_92 (av_room (by omega) (by decide)) av_t0 (by decide) rfl rfl (Nat.le_of_ble_eq_true rfl) ⟨Nat.zero_le _, Nat.zero_le _⟩ dX11_nights_2) (fun H locs hR => ?_)
  refine lv_if_eq (tgt := 18) hx hb dX11_nights_5 (by decide) (fun c5 => ?_) (fun c5 => ?_)
  · have h := av_it c5 h
    exact tX11_nights_18 E X h hR (lv_sub hl [0] rfl)
  · have h := av_if c5 h
    refine lv_iload_n hx hb dX11_nights_8 rfl (lv_at hl 2 rfl) ?_
    refine lv_iconst (v := 1) hx hb dX11_nights_9 rfl ?_
    refine lv_bipush (v := 9) hx hb dX11_nights_10 rfl ?_
    obtain ⟨r12, er12, h⟩ := av_bd h
    refine av_goI hR (av_cS (As := [.int a2, .int 1, .int 9]) (rest := []) E X hR hl.1 (CX11_within l g er12) kk_X11_76 (av_room (by omega) (by decide)) rfl (Nat.le_of_ble_eq_true rfl) ⟨Nat.zero_le _, Nat.zero_le _⟩ dX11_nights_12) (fun H locs hR => ?_)
    refine lv_if_ne (tgt := 25) hx hb dX11_nights_15 (by decide) (fun c15 => ?_) (fun c15 => ?_)
    · have h := av_if c15 h
      refine lv_aload_n hx hb dX11_nights_25 rfl (lv_at hl 0 rfl) ?_
      refine gf_X11_55 E X hR av_t0 dX11_nights_26 av_r0_5 ?_
      refine lv_iload_n hx hb dX11_nights_29 rfl (lv_at hl 1 rfl) ?_
      refine lv_iload_n hx hb dX11_nights_30 rfl (lv_at hl 2 rfl) ?_
      obtain ⟨r31, μ31, er31, h⟩ := av_bd2 h
      refine av_goI hR (av_cV (As := [.int a1, .int a2]) (rest := []) E X hR hl.1 (CX1_nightsTill l g er31) kk_X11_206 (av_room (by omega) (by decide)) av_t11 (by decide) rfl rfl (Nat.le_of_ble_eq_true rfl) ⟨Nat.zero_le _, Nat.zero_le _⟩ dX11_nights_31) (fun H locs hR => ?_)
      exact av_ri E hR (av_r2 h) dX11_nights_34
    · have h := av_it c15 h
      exact tX11_nights_18 E X h hR (lv_sub hl [0] rfl)

set_option maxHeartbeats 4000000 in
set_option maxRecDepth 100000 in
theorem tX11_parties_40 {p : Program} {l : Launch} {e : Env} {s : State} {m : MethodId} {args : Array Value} {below : List Frame} {meth : Method} {c : Code} {g : Gl} {zr : Int32} {zm : Mem} (E : av_E p s m args meth c cX11_parties RX11 6 (some .int)) (X : av_X av_wc g s) :
    ∀ {μ : Mem} {H : Heap} {locs : List Loc} {ls : Array Slot}, fX11_parties_40 μ = some (zr, zm) → av_R av_wc g μ s H locs → lv_has ls 6 [(0, .ref (g.2.2 0))] → W p l e (rmN 23) s m args below meth c H locs 0 0 (MQ below (va_Qi (fun r1 u => r1 = zr ∧ u = zm) (av_B av_wc g) (av_A av_wc g)) args s 0 0 (av_A av_wc g)) (F0 m 40 ls []) := by
  obtain ⟨hx, hb, hr, hml, hown, hts, hlocks⟩ := id E
  intro μ H locs ls h hR hl
  unfold fX11_parties_40 at h
  refine lv_aload_n hx hb dX11_parties_40 rfl (lv_at hl 0 rfl) ?_
  refine lv_bipush (v := (-10)) hx hb dX11_parties_41 rfl ?_
  obtain ⟨r43, μ43, er43, h⟩ := av_bd2 h
  refine av_goI hR (av_cV (As := [.int (-10)]) (rest := []) E X hR hl.1 (CX11_bad l g er43) kk_X11_80 (av_room (by omega) (by decide)) av_t0 (by decide) rfl rfl (Nat.le_of_ble_eq_true rfl) ⟨Nat.zero_le _, Nat.zero_le _⟩ dX11_parties_43) (fun H locs hR => ?_)
  exact av_ri E hR (av_r2 h) dX11_parties_46

set_option maxHeartbeats 4000000 in
set_option maxRecDepth 100000 in
theorem CX11_parties (l : Launch) (g : Gl) {a1 : Int32} {a2 : Int32} {a3 : Int32} {a4 : Int32} {μ : Mem} {zr : Int32} {zm : Mem} (h : fX11_parties a1 a2 a3 a4 μ = some (zr, zm)) : av_MI l yX11_parties cX11_parties 6 23 (some .int) av_wc g [.ref (g.2.2 0), .int a1, .int a2, .int a3, .int a4] μ zr zm := by
  refine av_ent (own := RX11) (by decide) (Nat.le_of_ble_eq_true rfl) rfl (fun p e s m args below meth c E X hR ls hl => ?_)
  have hl : lv_has ls 6 [(0, .ref (g.2.2 0)), (1, .int a1), (2, .int a2), (3, .int a3), (4, .int a4)] := hl
  obtain ⟨hx, hb, hr, hml, hown, hts, hlocks⟩ := id E
  unfold fX11_parties at h
  refine lv_aload_n hx hb dX11_parties_0 rfl (lv_at hl 0 rfl) ?_
  refine lv_iload_n hx hb dX11_parties_1 rfl (lv_at hl 1 rfl) ?_
  obtain ⟨r2, er2, h⟩ := av_bd h
  refine av_goI hR (av_cV (As := [.int a1]) (rest := []) E X hR hl.1 (CX11_isLedge l g er2) kk_X11_92 (av_room (by omega) (by decide)) av_t0 (by decide) rfl rfl (Nat.le_of_ble_eq_true rfl) ⟨Nat.zero_le _, Nat.zero_le _⟩ dX11_parties_2) (fun H locs hR => ?_)
  refine lv_if_eq (tgt := 40) hx hb dX11_parties_5 (by decide) (fun c5 => ?_) (fun c5 => ?_)
  · have h := av_it c5 h
    exact tX11_parties_40 E X h hR (lv_sub hl [0] rfl)
  · have h := av_if c5 h
    refine lv_aload_n hx hb dX11_parties_8 rfl (lv_at hl 0 rfl) ?_
    refine lv_iload_n hx hb dX11_parties_9 rfl (lv_at hl 2 rfl) ?_
    obtain ⟨r10, er10, h⟩ := av_bd h
    refine av_goI hR (av_cV (As := [.int a2]) (rest := []) E X hR hl.1 (CX11_isLedge l g er10) kk_X11_92 (av_room (by omega) (by decide)) av_t0 (by decide) rfl rfl (Nat.le_of_ble_eq_true rfl) ⟨Nat.zero_le _, Nat.zero_le _⟩ dX11_parties_10) (fun H locs hR => ?_)
    refine lv_if_eq (tgt := 40) hx hb dX11_parties_13 (by decide) (fun c13 => ?_) (fun c13 => ?_)
    · have h := av_it c13 h
      exact tX11_parties_40 E X h hR (lv_sub hl [0] rfl)
    · have h := av_if c13 h
      refine lv_iload_n hx hb dX11_parties_16 rfl (lv_at hl 1 rfl) ?_
      refine lv_iload_n hx hb dX11_parties_17 rfl (lv_at hl 2 rfl) ?_
      refine lv_icmp_eq (tgt := 40) hx hb dX11_parties_18 (by decide) (fun c18 => ?_) (fun c18 => ?_)
      · have h := av_it c18 h
        exact tX11_parties_40 E X h hR (lv_sub hl [0] rfl)
      · have h := av_if c18 h
        refine lv_iload_n hx hb dX11_parties_21 rfl (lv_at hl 3 rfl) ?_
        refine lv_iconst (v := 1) hx hb dX11_parties_22 rfl ?_
        refine lv_iconst (v := 4) hx hb dX11_parties_23 rfl ?_
        obtain ⟨r24, er24, h⟩ := av_bd h
        refine av_goI hR (av_cS (As := [.int a3, .int 1, .int 4]) (rest := []) E X hR hl.1 (CX11_within l g er24) kk_X11_76 (av_room (by omega) (by decide)) rfl (Nat.le_of_ble_eq_true rfl) ⟨Nat.zero_le _, Nat.zero_le _⟩ dX11_parties_24) (fun H locs hR => ?_)
        refine lv_if_eq (tgt := 40) hx hb dX11_parties_27 (by decide) (fun c27 => ?_) (fun c27 => ?_)
        · have h := av_it c27 h
          exact tX11_parties_40 E X h hR (lv_sub hl [0] rfl)
        · have h := av_if c27 h
          refine lv_iload hx hb dX11_parties_30 (lv_at hl 4 rfl) ?_
          refine lv_iconst (v := 0) hx hb dX11_parties_32 rfl ?_
          refine lv_iconst (v := 1) hx hb dX11_parties_33 rfl ?_
          obtain ⟨r34, er34, h⟩ := av_bd h
          refine av_goI hR (av_cS (As := [.int a4, .int 0, .int 1]) (rest := []) E X hR hl.1 (CX11_within l g er34) kk_X11_76 (av_room (by omega) (by decide)) rfl (Nat.le_of_ble_eq_true rfl) ⟨Nat.zero_le _, Nat.zero_le _⟩ dX11_parties_34) (fun H locs hR => ?_)
          refine lv_if_ne (tgt := 47) hx hb dX11_parties_37 (by decide) (fun c37 => ?_) (fun c37 => ?_)
          · have h := av_if c37 h
            refine lv_aload_n hx hb dX11_parties_47 rfl (lv_at hl 0 rfl) ?_
            refine gf_X11_55 E X hR av_t0 dX11_parties_48 av_r0_5 ?_
            refine lv_iload_n hx hb dX11_parties_51 rfl (lv_at hl 1 rfl) ?_
            refine lv_iload_n hx hb dX11_parties_52 rfl (lv_at hl 2 rfl) ?_
            refine lv_iload_n hx hb dX11_parties_53 rfl (lv_at hl 3 rfl) ?_
            obtain ⟨r54, μ54, er54, h⟩ := av_bd2 h
            refine av_goI hR (av_cV (As := [.int a1, .int a2, .int a3]) (rest := []) E X hR hl.1 (CX1_play l g er54) kk_X11_209 (av_room (by omega) (by decide)) av_t11 (by decide) rfl rfl (Nat.le_of_ble_eq_true rfl) ⟨Nat.zero_le _, Nat.zero_le _⟩ dX11_parties_54) (fun H locs hR => ?_)
            refine lv_istore (lv' := [(5, .int r54), (0, .ref (g.2.2 0)), (1, .int a1), (2, .int a2), (3, .int a3), (4, .int a4)]) hx hb dX11_parties_57 hl (by decide) rfl (fun ls hl => ?_)
            refine lv_iload hx hb dX11_parties_59 (lv_at hl 5 rfl) ?_
            refine lv_if_ne (tgt := 69) hx hb dX11_parties_61 (by decide) (fun c61 => ?_) (fun c61 => ?_)
            · have h := av_if c61 h
              refine lv_aload_n hx hb dX11_parties_69 rfl (lv_at hl 1 rfl) ?_
              refine gf_X11_55 E X hR av_t0 dX11_parties_70 av_r0_5 ?_
              refine gf_X11_200 E X hR av_t11 dX11_parties_73 ?_
              exact av_ri E hR (av_r2 h) dX11_parties_76
            · have h := av_it c61 h
              refine lv_iload hx hb dX11_parties_64 (lv_at hl 0 rfl) ?_
              refine lv_goto (tgt := 76) hx hb dX11_parties_66 (by decide) ?_
              exact av_ri E hR (av_r2 h) dX11_parties_76
          · have h := av_it c37 h
            exact tX11_parties_40 E X h hR (lv_sub hl [0] rfl)

set_option maxHeartbeats 4000000 in
set_option maxRecDepth 100000 in
theorem tX11_seen_19 {p : Program} {l : Launch} {e : Env} {s : State} {m : MethodId} {args : Array Value} {below : List Frame} {meth : Method} {c : Code} {g : Gl} {zr : Int32} {zm : Mem} (E : av_E p s m args meth c cX11_seen RX11 3 (some .int)) (X : av_X av_wc g s) :
    ∀ {μ : Mem} {H : Heap} {locs : List Loc} {ls : Array Slot}, fX11_seen_19 μ = some (zr, zm) → av_R av_wc g μ s H locs → lv_has ls 3 [(0, .ref (g.2.2 0))] → W p l e (rmN 2) s m args below meth c H locs 0 0 (MQ below (va_Qi (fun r1 u => r1 = zr ∧ u = zm) (av_B av_wc g) (av_A av_wc g)) args s 0 0 (av_A av_wc g)) (F0 m 19 ls []) := by
  obtain ⟨hx, hb, hr, hml, hown, hts, hlocks⟩ := id E
  intro μ H locs ls h hR hl
  unfold fX11_seen_19 at h
  refine lv_aload_n hx hb dX11_seen_19 rfl (lv_at hl 0 rfl) ?_
  refine lv_bipush (v := (-2)) hx hb dX11_seen_20 rfl ?_
  obtain ⟨r22, μ22, er22, h⟩ := av_bd2 h
  refine av_goI hR (av_cV (As := [.int (-2)]) (rest := []) E X hR hl.1 (CX11_bad l g er22) kk_X11_80 (av_room (by omega) (by decide)) av_t0 (by decide) rfl rfl (Nat.le_of_ble_eq_true rfl) ⟨Nat.zero_le _, Nat.zero_le _⟩ dX11_seen_22) (fun H locs hR => ?_)
  exact av_ri E hR (av_r2 h) dX11_seen_25

set_option maxHeartbeats 4000000 in
set_option maxRecDepth 100000 in
theorem CX11_seen (l : Launch) (g : Gl) {a1 : Int32} {a2 : Int32} {μ : Mem} {zr : Int32} {zm : Mem} (h : fX11_seen a1 a2 μ = some (zr, zm)) : av_MI l yX11_seen cX11_seen 3 2 (some .int) av_wc g [.ref (g.2.2 0), .int a1, .int a2] μ zr zm := by
  refine av_ent (own := RX11) (by decide) (Nat.le_of_ble_eq_true rfl) rfl (fun p e s m args below meth c E X hR ls hl => ?_)
  have hl : lv_has ls 3 [(0, .ref (g.2.2 0)), (1, .int a1), (2, .int a2)] := hl
  obtain ⟨hx, hb, hr, hml, hown, hts, hlocks⟩ := id E
  unfold fX11_seen at h
  refine lv_iload_n hx hb dX11_seen_0 rfl (lv_at hl 1 rfl) ?_
  refine lv_iconst (v := 0) hx hb dX11_seen_1 rfl ?_
  refine lv_bipush (v := 99) hx hb dX11_seen_2 rfl ?_
  obtain ⟨r4, er4, h⟩ := av_bd h
  refine av_goI hR (av_cS (As := [.int a1, .int 0, .int 99]) (rest := []) E X hR hl.1 (CX11_within l g er4) kk_X11_76 (av_room (by omega) (by decide)) rfl (Nat.le_of_ble_eq_true rfl) ⟨Nat.zero_le _, Nat.zero_le _⟩ dX11_seen_4) (fun H locs hR => ?_)
  refine lv_if_eq (tgt := 19) hx hb dX11_seen_7 (by decide) (fun c7 => ?_) (fun c7 => ?_)
  · have h := av_it c7 h
    exact tX11_seen_19 E X h hR (lv_sub hl [0] rfl)
  · have h := av_if c7 h
    refine lv_iload_n hx hb dX11_seen_10 rfl (lv_at hl 2 rfl) ?_
    refine lv_iconst (v := 0) hx hb dX11_seen_11 rfl ?_
    refine lv_iconst (v := 1) hx hb dX11_seen_12 rfl ?_
    obtain ⟨r13, er13, h⟩ := av_bd h
    refine av_goI hR (av_cS (As := [.int a2, .int 0, .int 1]) (rest := []) E X hR hl.1 (CX11_within l g er13) kk_X11_76 (av_room (by omega) (by decide)) rfl (Nat.le_of_ble_eq_true rfl) ⟨Nat.zero_le _, Nat.zero_le _⟩ dX11_seen_13) (fun H locs hR => ?_)
    refine lv_if_ne (tgt := 26) hx hb dX11_seen_16 (by decide) (fun c16 => ?_) (fun c16 => ?_)
    · have h := av_if c16 h
      refine lv_aload_n hx hb dX11_seen_26 rfl (lv_at hl 0 rfl) ?_
      refine gf_X11_32 E X hR av_t0 dX11_seen_27 av_r0_0 ?_
      refine gf_X11_212 E X hR av_t14 dX11_seen_30 ?_
      refine lv_bipush (v := 6) hx hb dX11_seen_33 rfl ?_
      refine lv_icmp_lt (tgt := 43) hx hb dX11_seen_35 (by decide) (fun c35 => ?_) (fun c35 => ?_)
      · have h := av_it c35 h
        refine lv_aload_n hx hb dX11_seen_43 rfl (lv_at hl 0 rfl) ?_
        refine gf_X11_32 E X hR av_t0 dX11_seen_44 av_r0_0 ?_
        refine lv_iload_n hx hb dX11_seen_47 rfl (lv_at hl 1 rfl) ?_
        refine lv_iload_n hx hb dX11_seen_48 rfl (lv_at hl 2 rfl) ?_
        obtain ⟨r49, μ49, er49, h⟩ := av_bd2 h
        refine av_goI hR (av_cV (As := [.int a1, .int a2]) (rest := []) E X hR hl.1 (CX8_addSeen l g av_t14 er49) kk_X11_215 (av_room (by omega) (by decide)) av_t14 (by decide) rfl rfl (Nat.le_of_ble_eq_true rfl) ⟨Nat.zero_le _, Nat.zero_le _⟩ dX11_seen_49) (fun H locs hR => ?_)
        exact av_ri E hR (av_r2 h) dX11_seen_52
      · have h := av_if c35 h
        refine lv_aload_n hx hb dX11_seen_38 rfl (lv_at hl 0 rfl) ?_
        obtain ⟨r39, μ39, er39, h⟩ := av_bd2 h
        refine av_goI hR (av_cV (As := []) (rest := []) E X hR hl.1 (CX11_full l g er39) kk_X11_84 (av_room (by omega) (by decide)) av_t0 (by decide) rfl rfl (Nat.le_of_ble_eq_true rfl) ⟨Nat.zero_le _, Nat.zero_le _⟩ dX11_seen_39) (fun H locs hR => ?_)
        exact av_ri E hR (av_r2 h) dX11_seen_42
    · have h := av_it c16 h
      exact tX11_seen_19 E X h hR (lv_sub hl [0] rfl)

set_option maxHeartbeats 4000000 in
set_option maxRecDepth 100000 in
theorem CX11_forget (l : Launch) (g : Gl) {μ : Mem} {zr : Int32} {zm : Mem} (h : fX11_forget μ = some (zr, zm)) : av_MI l yX11_forget cX11_forget 2 1 (some .int) av_wc g [.ref (g.2.2 0)] μ zr zm := by
  refine av_ent (own := RX11) (by decide) (Nat.le_of_ble_eq_true rfl) rfl (fun p e s m args below meth c E X hR ls hl => ?_)
  have hl : lv_has ls 2 [(0, .ref (g.2.2 0))] := hl
  obtain ⟨hx, hb, hr, hml, hown, hts, hlocks⟩ := id E
  unfold fX11_forget at h
  refine lv_aload_n hx hb dX11_forget_0 rfl (lv_at hl 0 rfl) ?_
  refine gf_X11_32 E X hR av_t0 dX11_forget_1 av_r0_0 ?_
  refine gf_X11_212 E X hR av_t14 dX11_forget_4 ?_
  obtain ⟨x1_7, ex1_7, h⟩ := av_bd h
  replace ex1_7 := Option.some.inj ex1_7
  rw [ex1_7]
  refine lv_istore_n (lv' := [(1, .int x1_7), (0, .ref (g.2.2 0))]) hx hb dX11_forget_7 rfl hl (by decide) rfl (fun ls hl => ?_)
  refine lv_aload_n hx hb dX11_forget_8 rfl (lv_at hl 1 rfl) ?_
  refine gf_X11_32 E X hR av_t0 dX11_forget_9 av_r0_0 ?_
  refine lv_iconst (v := 0) hx hb dX11_forget_12 rfl ?_
  obtain ⟨μ13, eμ13, h⟩ := av_bd h
  replace eμ13 := Option.some.inj eμ13
  refine pf_X11_212 E X hR av_t14 dX11_forget_13 eμ13 (fun H locs hR => ?_)
  refine lv_iload_n hx hb dX11_forget_16 rfl (lv_at hl 0 rfl) ?_
  exact av_ri E hR (av_r2 h) dX11_forget_17

set_option maxHeartbeats 4000000 in
set_option maxRecDepth 100000 in
theorem CX11_hold (l : Launch) (g : Gl) {a1 : Int32} {μ : Mem} {zr : Int32} {zm : Mem} (h : fX11_hold a1 μ = some (zr, zm)) : av_MI l yX11_hold cX11_hold 4 2 (some .int) av_wc g [.ref (g.2.2 0), .int a1] μ zr zm := by
  refine av_ent (own := RX11) (by decide) (Nat.le_of_ble_eq_true rfl) rfl (fun p e s m args below meth c E X hR ls hl => ?_)
  have hl : lv_has ls 4 [(0, .ref (g.2.2 0)), (1, .int a1)] := hl
  obtain ⟨hx, hb, hr, hml, hown, hts, hlocks⟩ := id E
  unfold fX11_hold at h
  refine lv_iload_n hx hb dX11_hold_0 rfl (lv_at hl 1 rfl) ?_
  refine lv_iconst (v := 0) hx hb dX11_hold_1 rfl ?_
  refine lv_iconst (v := 1) hx hb dX11_hold_2 rfl ?_
  obtain ⟨r3, er3, h⟩ := av_bd h
  refine av_goI hR (av_cS (As := [.int a1, .int 0, .int 1]) (rest := []) E X hR hl.1 (CX11_within l g er3) kk_X11_76 (av_room (by omega) (by decide)) rfl (Nat.le_of_ble_eq_true rfl) ⟨Nat.zero_le _, Nat.zero_le _⟩ dX11_hold_3) (fun H locs hR => ?_)
  refine lv_if_ne (tgt := 16) hx hb dX11_hold_6 (by decide) (fun c6 => ?_) (fun c6 => ?_)
  · have h := av_if c6 h
    refine lv_aload_n hx hb dX11_hold_16 rfl (lv_at hl 0 rfl) ?_
    refine gf_X11_32 E X hR av_t0 dX11_hold_17 av_r0_0 ?_
    obtain ⟨r20, er20, h⟩ := av_bd h
    refine av_goI hR (av_cV (As := []) (rest := []) E X hR hl.1 (CX8_leastHold l g av_t14 er20) kk_X11_218 (av_room (by omega) (by decide)) av_t14 (by decide) rfl rfl (Nat.le_of_ble_eq_true rfl) ⟨Nat.zero_le _, Nat.zero_le _⟩ dX11_hold_20) (fun H locs hR => ?_)
    refine lv_istore_n (lv' := [(2, .int r20), (0, .ref (g.2.2 0)), (1, .int a1)]) hx hb dX11_hold_23 rfl hl (by decide) rfl (fun ls hl => ?_)
    refine lv_iload_n hx hb dX11_hold_24 rfl (lv_at hl 0 rfl) ?_
    refine lv_aload_n hx hb dX11_hold_25 rfl (lv_at hl 1 rfl) ?_
    refine gf_X11_32 E X hR av_t0 dX11_hold_26 av_r0_0 ?_
    obtain ⟨r29, er29, h⟩ := av_bd h
    refine av_goI hR (av_cV (As := []) (rest := [.int r20]) E X hR hl.1 (CX8_greatestHold l g av_t14 er29) kk_X11_221 (av_room (by omega) (by decide)) av_t14 (by decide) rfl rfl (Nat.le_of_ble_eq_true rfl) ⟨Nat.zero_le _, Nat.zero_le _⟩ dX11_hold_29) (fun H locs hR => ?_)
    obtain ⟨r32, er32, h⟩ := av_bd h
    refine av_goI hR (av_cS (As := [.int r20, .int r29]) (rest := []) E X hR hl.1 (CX11_spread l g er32) kk_X11_224 (av_room (by omega) (by decide)) rfl (Nat.le_of_ble_eq_true rfl) ⟨Nat.zero_le _, Nat.zero_le _⟩ dX11_hold_32) (fun H locs hR => ?_)
    refine lv_istore_n (lv' := [(3, .int r32), (2, .int r20), (0, .ref (g.2.2 0)), (1, .int a1)]) hx hb dX11_hold_35 rfl hl (by decide) rfl (fun ls hl => ?_)
    refine lv_iload_n hx hb dX11_hold_36 rfl (lv_at hl 3 rfl) ?_
    refine lv_if_ne (tgt := 42) hx hb dX11_hold_37 (by decide) (fun c37 => ?_) (fun c37 => ?_)
    · have h := av_if c37 h
      refine lv_iload_n hx hb dX11_hold_42 rfl (lv_at hl 0 rfl) ?_
      refine lv_if_le (tgt := 50) hx hb dX11_hold_43 (by decide) (fun c43 => ?_) (fun c43 => ?_)
      · have h := av_it c43 h
        refine lv_iconst (v := (-1)) hx hb dX11_hold_50 rfl ?_
        exact av_ri E hR (av_r2 h) dX11_hold_51
      · have h := av_if c43 h
        refine lv_iload_n hx hb dX11_hold_46 rfl (lv_at hl 1 rfl) ?_
        refine lv_goto (tgt := 51) hx hb dX11_hold_47 (by decide) ?_
        exact av_ri E hR (av_r2 h) dX11_hold_51
    · have h := av_it c37 h
      refine lv_iload_n hx hb dX11_hold_40 rfl (lv_at hl 0 rfl) ?_
      exact av_ri E hR (av_r2 h) dX11_hold_41
  · have h := av_it c6 h
    refine lv_aload_n hx hb dX11_hold_9 rfl (lv_at hl 0 rfl) ?_
    refine lv_bipush (v := (-10)) hx hb dX11_hold_10 rfl ?_
    obtain ⟨r12, μ12, er12, h⟩ := av_bd2 h
    refine av_goI hR (av_cV (As := [.int (-10)]) (rest := []) E X hR hl.1 (CX11_bad l g er12) kk_X11_80 (av_room (by omega) (by decide)) av_t0 (by decide) rfl rfl (Nat.le_of_ble_eq_true rfl) ⟨Nat.zero_le _, Nat.zero_le _⟩ dX11_hold_12) (fun H locs hR => ?_)
    exact av_ri E hR (av_r2 h) dX11_hold_15

set_option maxHeartbeats 4000000 in
set_option maxRecDepth 100000 in
theorem tX11_stick_82 {p : Program} {l : Launch} {e : Env} {s : State} {m : MethodId} {args : Array Value} {below : List Frame} {meth : Method} {c : Code} {g : Gl} {zr : Int32} {μ0 : Mem} (E : av_E p s m args meth c cX11_stick RX11 9 (some .int)) (X : av_X av_wc g s) {k37 : Int32 → Int32 → Int32 → Int32 → Int32 → Int32 → Mem → Option (Int32)} (hk37 : ∀ {x1 : Int32} {x2 : Int32} {x3 : Int32} {x4 : Int32} {x5 : Int32} {x6 : Int32} {μ : Mem} {H : Heap} {locs : List Loc} {ls : Array Slot} (hμ : μ0 = μ), k37 x1 x2 x3 x4 x5 x6 μ = some zr → av_R av_wc g μ s H locs → lv_has ls 9 [(1, .int x1), (2, .int x2), (3, .int x3), (4, .int x4), (5, .int x5), (6, .int x6)] → W p l e (rmN 2) s m args below meth c H locs 0 0 (MQ below (va_Qi (fun r1 u => r1 = zr ∧ u = μ0) (av_B av_wc g) (av_A av_wc g)) args s 0 0 (av_A av_wc g)) (F0 m 37 ls [])) :
    ∀ {x1 : Int32} {x2 : Int32} {x3 : Int32} {x4 : Int32} {x5 : Int32} {x6 : Int32} {μ : Mem} {H : Heap} {locs : List Loc} {ls : Array Slot} (hμ : μ0 = μ), fX11_stick_82 k37 x1 x2 x3 x4 x5 x6 μ = some zr → av_R av_wc g μ s H locs → lv_has ls 9 [(1, .int x1), (2, .int x2), (3, .int x3), (4, .int x4), (5, .int x5), (6, .int x6)] → W p l e (rmN 2) s m args below meth c H locs 0 0 (MQ below (va_Qi (fun r1 u => r1 = zr ∧ u = μ0) (av_B av_wc g) (av_A av_wc g)) args s 0 0 (av_A av_wc g)) (F0 m 82 ls []) := by
  obtain ⟨hx, hb, hr, hml, hown, hts, hlocks⟩ := id E
  intro x1 x2 x3 x4 x5 x6 μ H locs ls hμ h hR hl
  unfold fX11_stick_82 at h
  obtain ⟨x6_82, ex6_82, h⟩ := av_bd h
  replace ex6_82 := Option.some.inj ex6_82
  refine lv_iinc (v := x6_82) (lv' := [(6, .int x6_82), (1, .int x1), (2, .int x2), (3, .int x3), (4, .int x4), (5, .int x5)]) hx hb dX11_stick_82 hl (k := 5) rfl ex6_82 (by decide) rfl (fun ls hl => ?_)
  refine lv_goto (tgt := 37) hx hb dX11_stick_85 (by decide) ?_
  exact hk37 hμ h hR (lv_sub hl [1, 2, 3, 4, 5, 0] rfl)

set_option maxHeartbeats 4000000 in
set_option maxRecDepth 100000 in
theorem tX11_stick_37 {p : Program} {l : Launch} {e : Env} {s : State} {m : MethodId} {args : Array Value} {below : List Frame} {meth : Method} {c : Code} {g : Gl} {zr : Int32} {μ0 : Mem} (E : av_E p s m args meth c cX11_stick RX11 9 (some .int)) (X : av_X av_wc g s) :
    ∀ (n : Nat) {x1 : Int32} {x2 : Int32} {x3 : Int32} {x4 : Int32} {x5 : Int32} {x6 : Int32} {μ : Mem} {H : Heap} {locs : List Loc} {ls : Array Slot} (hμ : μ0 = μ), fX11_stick_37 n x1 x2 x3 x4 x5 x6 μ = some zr → av_R av_wc g μ s H locs → lv_has ls 9 [(1, .int x1), (2, .int x2), (3, .int x3), (4, .int x4), (5, .int x5), (6, .int x6)] → W p l e (rmN 2) s m args below meth c H locs 0 0 (MQ below (va_Qi (fun r1 u => r1 = zr ∧ u = μ0) (av_B av_wc g) (av_A av_wc g)) args s 0 0 (av_A av_wc g)) (F0 m 37 ls []) := by
  obtain ⟨hx, hb, hr, hml, hown, hts, hlocks⟩ := id E
  intro n
  induction n with
  | zero =>
    intro x1 x2 x3 x4 x5 x6 μ H locs ls hμ h hR hl
    cases h
  | succ n ih =>
    intro x1 x2 x3 x4 x5 x6 μ H locs ls hμ h hR hl
    unfold fX11_stick_37 at h
    refine lv_iload hx hb dX11_stick_37 (lv_at hl 5 rfl) ?_
    refine lv_bipush (v := 60) hx hb dX11_stick_39 rfl ?_
    refine lv_icmp_gt (tgt := 88) hx hb dX11_stick_41 (by decide) (fun c41 => ?_) (fun c41 => ?_)
    · have h := av_it c41 h
      refine lv_iload hx hb dX11_stick_88 (lv_at hl 3 rfl) ?_
      exact av_ri E hR ⟨Option.some.inj h, hμ.symm⟩ dX11_stick_90
    · have h := av_if c41 h
      refine lv_iload_n hx hb dX11_stick_44 rfl (lv_at hl 0 rfl) ?_
      refine lv_iload hx hb dX11_stick_45 (lv_at hl 5 rfl) ?_
      refine av_mx E hl.1 kM_X11_227 (av_rm1 (by omega)) (Nat.le_of_ble_eq_true rfl) ⟨Nat.zero_le _, Nat.zero_le _⟩ dX11_stick_47 ?_
      refine lv_iload_n hx hb dX11_stick_50 rfl (lv_at hl 1 rfl) ?_
      obtain ⟨r51, er51, h⟩ := av_bd h
      refine av_goI hR (av_cS (As := [.int (av_max x1 x6), .int x2]) (rest := []) E X hR hl.1 (CX11_spread l g er51) kk_X11_224 (av_room (by omega) (by decide)) rfl (Nat.le_of_ble_eq_true rfl) ⟨Nat.zero_le _, Nat.zero_le _⟩ dX11_stick_51) (fun H locs hR => ?_)
      refine lv_istore (lv' := [(7, .int r51), (1, .int x1), (2, .int x2), (3, .int x3), (4, .int x4), (5, .int x5), (6, .int x6)]) hx hb dX11_stick_54 hl (by decide) rfl (fun ls hl => ?_)
      refine lv_iload hx hb dX11_stick_56 (lv_at hl 0 rfl) ?_
      refine lv_iload_n hx hb dX11_stick_58 rfl (lv_at hl 3 rfl) ?_
      refine lv_iload hx hb dX11_stick_59 (lv_at hl 0 rfl) ?_
      refine lv_isub hx hb dX11_stick_61 ?_
      refine av_mx E hl.1 kM_X11_227 (av_rm1 (by omega)) (Nat.le_of_ble_eq_true rfl) ⟨Nat.zero_le _, Nat.zero_le _⟩ dX11_stick_62 ?_
      obtain ⟨x8_65, ex8_65, h⟩ := av_bd h
      replace ex8_65 := Option.some.inj ex8_65
      rw [ex8_65]
      refine lv_istore (lv' := [(8, .int x8_65), (7, .int r51), (1, .int x1), (2, .int x2), (3, .int x3), (4, .int x4), (5, .int x5), (6, .int x6)]) hx hb dX11_stick_65 hl (by decide) rfl (fun ls hl => ?_)
      refine lv_iload hx hb dX11_stick_67 (lv_at hl 0 rfl) ?_
      refine lv_iload hx hb dX11_stick_69 (lv_at hl 6 rfl) ?_
      refine lv_icmp_ge (tgt := 82) hx hb dX11_stick_71 (by decide) (fun c71 => ?_) (fun c71 => ?_)
      · have h := av_it c71 h
        exact tX11_stick_82 E X ih hμ h hR (lv_sub hl [2, 3, 4, 5, 6, 7] rfl)
      · have h := av_if c71 h
        refine lv_iload hx hb dX11_stick_74 (lv_at hl 0 rfl) ?_
        refine lv_istore (lv' := [(5, .int x8_65), (8, .int x8_65), (7, .int r51), (1, .int x1), (2, .int x2), (3, .int x3), (4, .int x4), (6, .int x6)]) hx hb dX11_stick_76 hl (by decide) rfl (fun ls hl => ?_)
        refine lv_iload hx hb dX11_stick_78 (lv_at hl 7 rfl) ?_
        refine lv_istore (lv' := [(4, .int x6), (5, .int x8_65), (8, .int x8_65), (7, .int r51), (1, .int x1), (2, .int x2), (3, .int x3), (6, .int x6)]) hx hb dX11_stick_80 hl (by decide) rfl (fun ls hl => ?_)
        exact tX11_stick_82 E X ih hμ h hR (lv_sub hl [4, 5, 6, 0, 1, 7] rfl)

set_option maxHeartbeats 4000000 in
set_option maxRecDepth 100000 in
theorem CX11_stick (l : Launch) (g : Gl) {μ : Mem} {zr : Int32} (h : fX11_stick μ = some zr) : av_MI l yX11_stick cX11_stick 9 2 (some .int) av_wc g [.ref (g.2.2 0)] μ zr μ := by
  refine av_ent (own := RX11) (by decide) (Nat.le_of_ble_eq_true rfl) rfl (fun p e s m args below meth c E X hR ls hl => ?_)
  have hl : lv_has ls 9 [(0, .ref (g.2.2 0))] := hl
  obtain ⟨hx, hb, hr, hml, hown, hts, hlocks⟩ := id E
  have hμ : μ = μ := rfl
  unfold fX11_stick at h
  refine lv_aload_n hx hb dX11_stick_0 rfl (lv_at hl 0 rfl) ?_
  refine gf_X11_32 E X hR av_t0 dX11_stick_1 av_r0_0 ?_
  obtain ⟨r4, er4, h⟩ := av_bd h
  refine av_goI hR (av_cV (As := []) (rest := []) E X hR hl.1 (CX8_leastHold l g av_t14 er4) kk_X11_218 (av_room (by omega) (by decide)) av_t14 (by decide) rfl rfl (Nat.le_of_ble_eq_true rfl) ⟨Nat.zero_le _, Nat.zero_le _⟩ dX11_stick_4) (fun H locs hR => ?_)
  refine lv_istore_n (lv' := [(1, .int r4), (0, .ref (g.2.2 0))]) hx hb dX11_stick_7 rfl hl (by decide) rfl (fun ls hl => ?_)
  refine lv_aload_n hx hb dX11_stick_8 rfl (lv_at hl 1 rfl) ?_
  refine gf_X11_32 E X hR av_t0 dX11_stick_9 av_r0_0 ?_
  obtain ⟨r12, er12, h⟩ := av_bd h
  refine av_goI hR (av_cV (As := []) (rest := []) E X hR hl.1 (CX8_greatestHold l g av_t14 er12) kk_X11_221 (av_room (by omega) (by decide)) av_t14 (by decide) rfl rfl (Nat.le_of_ble_eq_true rfl) ⟨Nat.zero_le _, Nat.zero_le _⟩ dX11_stick_12) (fun H locs hR => ?_)
  refine lv_istore_n (lv' := [(2, .int r12), (1, .int r4), (0, .ref (g.2.2 0))]) hx hb dX11_stick_15 rfl hl (by decide) rfl (fun ls hl => ?_)
  refine lv_iload_n hx hb dX11_stick_16 rfl (lv_at hl 1 rfl) ?_
  refine lv_iload_n hx hb dX11_stick_17 rfl (lv_at hl 0 rfl) ?_
  obtain ⟨r18, er18, h⟩ := av_bd h
  refine av_goI hR (av_cS (As := [.int r4, .int r12]) (rest := []) E X hR hl.1 (CX11_spread l g er18) kk_X11_224 (av_room (by omega) (by decide)) rfl (Nat.le_of_ble_eq_true rfl) ⟨Nat.zero_le _, Nat.zero_le _⟩ dX11_stick_18) (fun H locs hR => ?_)
  refine lv_istore_n (lv' := [(3, .int r18), (2, .int r12), (1, .int r4), (0, .ref (g.2.2 0))]) hx hb dX11_stick_21 rfl hl (by decide) rfl (fun ls hl => ?_)
  refine lv_iload_n hx hb dX11_stick_22 rfl (lv_at hl 0 rfl) ?_
  refine lv_if_ne (tgt := 28) hx hb dX11_stick_23 (by decide) (fun c23 => ?_) (fun c23 => ?_)
  · have h := av_if c23 h
    refine lv_iconst (v := 0) hx hb dX11_stick_28 rfl ?_
    refine lv_istore (lv' := [(4, .int 0), (3, .int r18), (2, .int r12), (1, .int r4), (0, .ref (g.2.2 0))]) hx hb dX11_stick_29 hl (by decide) rfl (fun ls hl => ?_)
    refine lv_iload_n hx hb dX11_stick_31 rfl (lv_at hl 1 rfl) ?_
    refine lv_istore (lv' := [(5, .int r18), (4, .int 0), (3, .int r18), (2, .int r12), (1, .int r4), (0, .ref (g.2.2 0))]) hx hb dX11_stick_32 hl (by decide) rfl (fun ls hl => ?_)
    refine lv_iconst (v := 0) hx hb dX11_stick_34 rfl ?_
    refine lv_istore (lv' := [(6, .int 0), (5, .int r18), (4, .int 0), (3, .int r18), (2, .int r12), (1, .int r4), (0, .ref (g.2.2 0))]) hx hb dX11_stick_35 hl (by decide) rfl (fun ls hl => ?_)
    exact tX11_stick_37 E X _ hμ h hR (lv_sub hl [5, 4, 3, 2, 1, 0] rfl)
  · have h := av_it c23 h
    refine lv_iconst (v := (-1)) hx hb dX11_stick_26 rfl ?_
    exact av_ri E hR ⟨Option.some.inj h, hμ.symm⟩ dX11_stick_27

set_option maxHeartbeats 4000000 in
set_option maxRecDepth 100000 in
theorem tX11_is_76 {p : Program} {l : Launch} {e : Env} {s : State} {m : MethodId} {args : Array Value} {below : List Frame} {meth : Method} {c : Code} {g : Gl} {zr : Int32} {zm : Mem} (E : av_E p s m args meth c cX11_is RX11 6 (some .int)) (X : av_X av_wc g s) {k39 : Int32 → Int32 → Int32 → Int32 → Int32 → Mem → Option (Int32 × Mem)} (hk39 : ∀ {x1 : Int32} {x2 : Int32} {x3 : Int32} {x4 : Int32} {x5 : Int32} {μ : Mem} {H : Heap} {locs : List Loc} {ls : Array Slot}, k39 x1 x2 x3 x4 x5 μ = some (zr, zm) → av_R av_wc g μ s H locs → lv_has ls 6 [(0, .ref (g.2.2 0)), (1, .int x1), (2, .int x2), (3, .int x3), (4, .int x4), (5, .int x5)] → W p l e (rmN 5) s m args below meth c H locs 0 0 (MQ below (va_Qi (fun r1 u => r1 = zr ∧ u = zm) (av_B av_wc g) (av_A av_wc g)) args s 0 0 (av_A av_wc g)) (F0 m 39 ls [])) :
    ∀ {x1 : Int32} {x2 : Int32} {x3 : Int32} {x4 : Int32} {x5 : Int32} {μ : Mem} {H : Heap} {locs : List Loc} {ls : Array Slot}, fX11_is_76 k39 x1 x2 x3 x4 x5 μ = some (zr, zm) → av_R av_wc g μ s H locs → lv_has ls 6 [(0, .ref (g.2.2 0)), (1, .int x1), (2, .int x2), (3, .int x3), (4, .int x4), (5, .int x5)] → W p l e (rmN 5) s m args below meth c H locs 0 0 (MQ below (va_Qi (fun r1 u => r1 = zr ∧ u = zm) (av_B av_wc g) (av_A av_wc g)) args s 0 0 (av_A av_wc g)) (F0 m 76 ls []) := by
  obtain ⟨hx, hb, hr, hml, hown, hts, hlocks⟩ := id E
  intro x1 x2 x3 x4 x5 μ H locs ls h hR hl
  unfold fX11_is_76 at h
  obtain ⟨x5_76, ex5_76, h⟩ := av_bd h
  replace ex5_76 := Option.some.inj ex5_76
  refine lv_iinc (v := x5_76) (lv' := [(5, .int x5_76), (0, .ref (g.2.2 0)), (1, .int x1), (2, .int x2), (3, .int x3), (4, .int x4)]) hx hb dX11_is_76 hl (k := 5) rfl ex5_76 (by decide) rfl (fun ls hl => ?_)
  refine lv_goto (tgt := 39) hx hb dX11_is_79 (by decide) ?_
  exact hk39 h hR (lv_sub hl [1, 2, 3, 4, 5, 0] rfl)

set_option maxHeartbeats 4000000 in
set_option maxRecDepth 100000 in
theorem tX11_is_39 {p : Program} {l : Launch} {e : Env} {s : State} {m : MethodId} {args : Array Value} {below : List Frame} {meth : Method} {c : Code} {g : Gl} {zr : Int32} {zm : Mem} (E : av_E p s m args meth c cX11_is RX11 6 (some .int)) (X : av_X av_wc g s) :
    ∀ (n : Nat) {x1 : Int32} {x2 : Int32} {x3 : Int32} {x4 : Int32} {x5 : Int32} {μ : Mem} {H : Heap} {locs : List Loc} {ls : Array Slot}, fX11_is_39 n x1 x2 x3 x4 x5 μ = some (zr, zm) → av_R av_wc g μ s H locs → lv_has ls 6 [(0, .ref (g.2.2 0)), (1, .int x1), (2, .int x2), (3, .int x3), (4, .int x4), (5, .int x5)] → W p l e (rmN 5) s m args below meth c H locs 0 0 (MQ below (va_Qi (fun r1 u => r1 = zr ∧ u = zm) (av_B av_wc g) (av_A av_wc g)) args s 0 0 (av_A av_wc g)) (F0 m 39 ls []) := by
  obtain ⟨hx, hb, hr, hml, hown, hts, hlocks⟩ := id E
  intro n
  induction n with
  | zero =>
    intro x1 x2 x3 x4 x5 μ H locs ls h hR hl
    cases h
  | succ n ih =>
    intro x1 x2 x3 x4 x5 μ H locs ls h hR hl
    unfold fX11_is_39 at h
    refine lv_iload hx hb dX11_is_39 (lv_at hl 5 rfl) ?_
    refine lv_iconst (v := 5) hx hb dX11_is_41 rfl ?_
    refine lv_icmp_gt (tgt := 82) hx hb dX11_is_42 (by decide) (fun c42 => ?_) (fun c42 => ?_)
    · have h := av_it c42 h
      refine lv_iload hx hb dX11_is_82 (lv_at hl 4 rfl) ?_
      exact av_ri E hR (av_r2 h) dX11_is_84
    · have h := av_if c42 h
      refine lv_aload_n hx hb dX11_is_45 rfl (lv_at hl 0 rfl) ?_
      refine lv_iload hx hb dX11_is_46 (lv_at hl 5 rfl) ?_
      refine lv_iload_n hx hb dX11_is_48 rfl (lv_at hl 1 rfl) ?_
      obtain ⟨r49, er49, h⟩ := av_bd h
      refine av_goI hR (av_cV (As := [.int x5, .int x1]) (rest := []) E X hR hl.1 (CX11_placeAs l g er49) kk_X11_174 (av_room (by omega) (by decide)) av_t0 (by decide) rfl rfl (Nat.le_of_ble_eq_true rfl) ⟨Nat.zero_le _, Nat.zero_le _⟩ dX11_is_49) (fun H locs hR => ?_)
      refine lv_iload_n hx hb dX11_is_52 rfl (lv_at hl 2 rfl) ?_
      refine lv_icmp_ne (tgt := 76) hx hb dX11_is_53 (by decide) (fun c53 => ?_) (fun c53 => ?_)
      · have h := av_if c53 h
        exact tX11_is_76 E X ih h hR (lv_sub hl [0, 1, 2, 3, 4, 5] rfl)
      · have h := av_it c53 h
        refine lv_aload_n hx hb dX11_is_56 rfl (lv_at hl 0 rfl) ?_
        refine lv_iload hx hb dX11_is_57 (lv_at hl 5 rfl) ?_
        refine lv_iload_n hx hb dX11_is_59 rfl (lv_at hl 1 rfl) ?_
        obtain ⟨r60, er60, h⟩ := av_bd h
        refine av_goI hR (av_cV (As := [.int x5, .int x1]) (rest := []) E X hR hl.1 (CX11_heftAs l g er60) kk_X11_178 (av_room (by omega) (by decide)) av_t0 (by decide) rfl rfl (Nat.le_of_ble_eq_true rfl) ⟨Nat.zero_le _, Nat.zero_le _⟩ dX11_is_60) (fun H locs hR => ?_)
        refine lv_iload_n hx hb dX11_is_63 rfl (lv_at hl 3 rfl) ?_
        refine lv_icmp_ne (tgt := 76) hx hb dX11_is_64 (by decide) (fun c64 => ?_) (fun c64 => ?_)
        · have h := av_if c64 h
          exact tX11_is_76 E X ih h hR (lv_sub hl [0, 1, 2, 3, 4, 5] rfl)
        · have h := av_it c64 h
          refine lv_iload hx hb dX11_is_67 (lv_at hl 4 rfl) ?_
          refine lv_iconst (v := 1) hx hb dX11_is_69 rfl ?_
          refine lv_iload hx hb dX11_is_70 (lv_at hl 5 rfl) ?_
          refine lv_ishl hx hb dX11_is_72 ?_
          refine lv_ior hx hb dX11_is_73 ?_
          obtain ⟨x4_74, ex4_74, h⟩ := av_bd h
          replace ex4_74 := Option.some.inj ex4_74
          rw [ex4_74]
          refine lv_istore (lv' := [(4, .int x4_74), (0, .ref (g.2.2 0)), (1, .int x1), (2, .int x2), (3, .int x3), (5, .int x5)]) hx hb dX11_is_74 hl (by decide) rfl (fun ls hl => ?_)
          exact tX11_is_76 E X ih h hR (lv_sub hl [1, 2, 3, 4, 0, 5] rfl)

set_option maxHeartbeats 4000000 in
set_option maxRecDepth 100000 in
theorem tX11_is_26 {p : Program} {l : Launch} {e : Env} {s : State} {m : MethodId} {args : Array Value} {below : List Frame} {meth : Method} {c : Code} {g : Gl} {zr : Int32} {zm : Mem} (E : av_E p s m args meth c cX11_is RX11 6 (some .int)) (X : av_X av_wc g s) :
    ∀ {μ : Mem} {H : Heap} {locs : List Loc} {ls : Array Slot}, fX11_is_26 μ = some (zr, zm) → av_R av_wc g μ s H locs → lv_has ls 6 [(0, .ref (g.2.2 0))] → W p l e (rmN 5) s m args below meth c H locs 0 0 (MQ below (va_Qi (fun r1 u => r1 = zr ∧ u = zm) (av_B av_wc g) (av_A av_wc g)) args s 0 0 (av_A av_wc g)) (F0 m 26 ls []) := by
  obtain ⟨hx, hb, hr, hml, hown, hts, hlocks⟩ := id E
  intro μ H locs ls h hR hl
  unfold fX11_is_26 at h
  refine lv_aload_n hx hb dX11_is_26 rfl (lv_at hl 0 rfl) ?_
  refine lv_bipush (v := (-2)) hx hb dX11_is_27 rfl ?_
  obtain ⟨r29, μ29, er29, h⟩ := av_bd2 h
  refine av_goI hR (av_cV (As := [.int (-2)]) (rest := []) E X hR hl.1 (CX11_bad l g er29) kk_X11_80 (av_room (by omega) (by decide)) av_t0 (by decide) rfl rfl (Nat.le_of_ble_eq_true rfl) ⟨Nat.zero_le _, Nat.zero_le _⟩ dX11_is_29) (fun H locs hR => ?_)
  exact av_ri E hR (av_r2 h) dX11_is_32

set_option maxHeartbeats 4000000 in
set_option maxRecDepth 100000 in
theorem CX11_is (l : Launch) (g : Gl) {a1 : Int32} {a2 : Int32} {a3 : Int32} {μ : Mem} {zr : Int32} {zm : Mem} (h : fX11_is a1 a2 a3 μ = some (zr, zm)) : av_MI l yX11_is cX11_is 6 5 (some .int) av_wc g [.ref (g.2.2 0), .int a1, .int a2, .int a3] μ zr zm := by
  refine av_ent (own := RX11) (by decide) (Nat.le_of_ble_eq_true rfl) rfl (fun p e s m args below meth c E X hR ls hl => ?_)
  have hl : lv_has ls 6 [(0, .ref (g.2.2 0)), (1, .int a1), (2, .int a2), (3, .int a3)] := hl
  obtain ⟨hx, hb, hr, hml, hown, hts, hlocks⟩ := id E
  unfold fX11_is at h
  refine lv_aload_n hx hb dX11_is_0 rfl (lv_at hl 0 rfl) ?_
  refine lv_iload_n hx hb dX11_is_1 rfl (lv_at hl 1 rfl) ?_
  obtain ⟨r2, er2, h⟩ := av_bd h
  refine av_goI hR (av_cV (As := [.int a1]) (rest := []) E X hR hl.1 (CX11_isVoter l g er2) kk_X11_119 (av_room (by omega) (by decide)) av_t0 (by decide) rfl rfl (Nat.le_of_ble_eq_true rfl) ⟨Nat.zero_le _, Nat.zero_le _⟩ dX11_is_2) (fun H locs hR => ?_)
  refine lv_if_eq (tgt := 26) hx hb dX11_is_5 (by decide) (fun c5 => ?_) (fun c5 => ?_)
  · have h := av_it c5 h
    exact tX11_is_26 E X h hR (lv_sub hl [0] rfl)
  · have h := av_if c5 h
    refine lv_aload_n hx hb dX11_is_8 rfl (lv_at hl 0 rfl) ?_
    refine lv_iload_n hx hb dX11_is_9 rfl (lv_at hl 2 rfl) ?_
    obtain ⟨r10, er10, h⟩ := av_bd h
    refine av_goI hR (av_cV (As := [.int a2]) (rest := []) E X hR hl.1 (CX11_isLedge l g er10) kk_X11_92 (av_room (by omega) (by decide)) av_t0 (by decide) rfl rfl (Nat.le_of_ble_eq_true rfl) ⟨Nat.zero_le _, Nat.zero_le _⟩ dX11_is_10) (fun H locs hR => ?_)
    refine lv_if_eq (tgt := 26) hx hb dX11_is_13 (by decide) (fun c13 => ?_) (fun c13 => ?_)
    · have h := av_it c13 h
      exact tX11_is_26 E X h hR (lv_sub hl [0] rfl)
    · have h := av_if c13 h
      refine lv_iload_n hx hb dX11_is_16 rfl (lv_at hl 3 rfl) ?_
      refine lv_iconst (v := 1) hx hb dX11_is_17 rfl ?_
      refine lv_bipush (v := 20) hx hb dX11_is_18 rfl ?_
      obtain ⟨r20, er20, h⟩ := av_bd h
      refine av_goI hR (av_cS (As := [.int a3, .int 1, .int 20]) (rest := []) E X hR hl.1 (CX11_within l g er20) kk_X11_76 (av_room (by omega) (by decide)) rfl (Nat.le_of_ble_eq_true rfl) ⟨Nat.zero_le _, Nat.zero_le _⟩ dX11_is_20) (fun H locs hR => ?_)
      refine lv_if_ne (tgt := 33) hx hb dX11_is_23 (by decide) (fun c23 => ?_) (fun c23 => ?_)
      · have h := av_if c23 h
        refine lv_iconst (v := 0) hx hb dX11_is_33 rfl ?_
        refine lv_istore (lv' := [(4, .int 0), (0, .ref (g.2.2 0)), (1, .int a1), (2, .int a2), (3, .int a3)]) hx hb dX11_is_34 hl (by decide) rfl (fun ls hl => ?_)
        refine lv_iconst (v := 0) hx hb dX11_is_36 rfl ?_
        refine lv_istore (lv' := [(5, .int 0), (4, .int 0), (0, .ref (g.2.2 0)), (1, .int a1), (2, .int a2), (3, .int a3)]) hx hb dX11_is_37 hl (by decide) rfl (fun ls hl => ?_)
        exact tX11_is_39 E X _ h hR (lv_sub hl [2, 3, 4, 5, 1, 0] rfl)
      · have h := av_it c23 h
        exact tX11_is_26 E X h hR (lv_sub hl [0] rfl)

set_option maxHeartbeats 4000000 in
set_option maxRecDepth 100000 in
theorem tX11_sneeze_82 {p : Program} {l : Launch} {e : Env} {s : State} {m : MethodId} {args : Array Value} {below : List Frame} {meth : Method} {c : Code} {g : Gl} {zr : Int32} {zm : Mem} (E : av_E p s m args meth c cX11_sneeze RX11 9 (some .int)) (X : av_X av_wc g s) :
    ∀ {μ : Mem} {H : Heap} {locs : List Loc} {ls : Array Slot}, fX11_sneeze_82 μ = some (zr, zm) → av_R av_wc g μ s H locs → lv_has ls 9 [] → W p l e (rmN 23) s m args below meth c H locs 0 0 (MQ below (va_Qi (fun r1 u => r1 = zr ∧ u = zm) (av_B av_wc g) (av_A av_wc g)) args s 0 0 (av_A av_wc g)) (F0 m 82 ls []) := by
  obtain ⟨hx, hb, hr, hml, hown, hts, hlocks⟩ := id E
  intro μ H locs ls h hR hl
  unfold fX11_sneeze_82 at h
  refine lv_iconst (v := 1) hx hb dX11_sneeze_82 rfl ?_
  exact av_ri E hR (av_r2 h) dX11_sneeze_83

set_option maxHeartbeats 4000000 in
set_option maxRecDepth 100000 in
theorem tX11_sneeze_18 {p : Program} {l : Launch} {e : Env} {s : State} {m : MethodId} {args : Array Value} {below : List Frame} {meth : Method} {c : Code} {g : Gl} {zr : Int32} {zm : Mem} (E : av_E p s m args meth c cX11_sneeze RX11 9 (some .int)) (X : av_X av_wc g s) :
    ∀ {μ : Mem} {H : Heap} {locs : List Loc} {ls : Array Slot}, fX11_sneeze_18 μ = some (zr, zm) → av_R av_wc g μ s H locs → lv_has ls 9 [(0, .ref (g.2.2 0))] → W p l e (rmN 23) s m args below meth c H locs 0 0 (MQ below (va_Qi (fun r1 u => r1 = zr ∧ u = zm) (av_B av_wc g) (av_A av_wc g)) args s 0 0 (av_A av_wc g)) (F0 m 18 ls []) := by
  obtain ⟨hx, hb, hr, hml, hown, hts, hlocks⟩ := id E
  intro μ H locs ls h hR hl
  unfold fX11_sneeze_18 at h
  refine lv_aload_n hx hb dX11_sneeze_18 rfl (lv_at hl 0 rfl) ?_
  refine lv_bipush (v := (-2)) hx hb dX11_sneeze_19 rfl ?_
  obtain ⟨r21, μ21, er21, h⟩ := av_bd2 h
  refine av_goI hR (av_cV (As := [.int (-2)]) (rest := []) E X hR hl.1 (CX11_bad l g er21) kk_X11_80 (av_room (by omega) (by decide)) av_t0 (by decide) rfl rfl (Nat.le_of_ble_eq_true rfl) ⟨Nat.zero_le _, Nat.zero_le _⟩ dX11_sneeze_21) (fun H locs hR => ?_)
  exact av_ri E hR (av_r2 h) dX11_sneeze_24

set_option maxHeartbeats 4000000 in
set_option maxRecDepth 100000 in
theorem CX11_sneeze (l : Launch) (g : Gl) {a1 : Int32} {a2 : Int32} {μ : Mem} {zr : Int32} {zm : Mem} (h : fX11_sneeze a1 a2 μ = some (zr, zm)) : av_MI l yX11_sneeze cX11_sneeze 9 23 (some .int) av_wc g [.ref (g.2.2 0), .int a1, .int a2] μ zr zm := by
  refine av_ent (own := RX11) (by decide) (Nat.le_of_ble_eq_true rfl) rfl (fun p e s m args below meth c E X hR ls hl => ?_)
  have hl : lv_has ls 9 [(0, .ref (g.2.2 0)), (1, .int a1), (2, .int a2)] := hl
  obtain ⟨hx, hb, hr, hml, hown, hts, hlocks⟩ := id E
  unfold fX11_sneeze at h
  refine lv_aload_n hx hb dX11_sneeze_0 rfl (lv_at hl 0 rfl) ?_
  refine lv_iload_n hx hb dX11_sneeze_1 rfl (lv_at hl 1 rfl) ?_
  obtain ⟨r2, er2, h⟩ := av_bd h
  refine av_goI hR (av_cV (As := [.int a1]) (rest := []) E X hR hl.1 (CX11_isLedge l g er2) kk_X11_92 (av_room (by omega) (by decide)) av_t0 (by decide) rfl rfl (Nat.le_of_ble_eq_true rfl) ⟨Nat.zero_le _, Nat.zero_le _⟩ dX11_sneeze_2) (fun H locs hR => ?_)
  refine lv_if_eq (tgt := 18) hx hb dX11_sneeze_5 (by decide) (fun c5 => ?_) (fun c5 => ?_)
  · have h := av_it c5 h
    exact tX11_sneeze_18 E X h hR (lv_sub hl [0] rfl)
  · have h := av_if c5 h
    refine lv_iload_n hx hb dX11_sneeze_8 rfl (lv_at hl 2 rfl) ?_
    refine lv_iconst (v := 0) hx hb dX11_sneeze_9 rfl ?_
    refine lv_bipush (v := 10) hx hb dX11_sneeze_10 rfl ?_
    obtain ⟨r12, er12, h⟩ := av_bd h
    refine av_goI hR (av_cS (As := [.int a2, .int 0, .int 10]) (rest := []) E X hR hl.1 (CX11_within l g er12) kk_X11_76 (av_room (by omega) (by decide)) rfl (Nat.le_of_ble_eq_true rfl) ⟨Nat.zero_le _, Nat.zero_le _⟩ dX11_sneeze_12) (fun H locs hR => ?_)
    refine lv_if_ne (tgt := 25) hx hb dX11_sneeze_15 (by decide) (fun c15 => ?_) (fun c15 => ?_)
    · have h := av_if c15 h
      refine lv_aload_n hx hb dX11_sneeze_25 rfl (lv_at hl 0 rfl) ?_
      refine gf_X11_55 E X hR av_t0 dX11_sneeze_26 av_r0_5 ?_
      refine lv_iload_n hx hb dX11_sneeze_29 rfl (lv_at hl 1 rfl) ?_
      refine lv_iload_n hx hb dX11_sneeze_30 rfl (lv_at hl 2 rfl) ?_
      obtain ⟨r31, μ31, er31, h⟩ := av_bd2 h
      refine av_goL hR (av_cV (As := [.int a1, .int a2]) (rest := []) E X hR hl.1 (CX1_partsWon l g er31) kk_X11_232 (av_room (by omega) (by decide)) av_t11 (by decide) rfl rfl (Nat.le_of_ble_eq_true rfl) ⟨Nat.zero_le _, Nat.zero_le _⟩ dX11_sneeze_31) (fun H locs hR => ?_)
      refine lv_lstore_n (lv' := [(3, .long r31), (0, .ref (g.2.2 0)), (1, .int a1), (2, .int a2)]) hx hb dX11_sneeze_34 rfl hl (by decide) rfl (fun ls hl => ?_)
      refine lv_aload_n hx hb dX11_sneeze_35 rfl (lv_at hl 1 rfl) ?_
      refine gf_X11_32 E X hR av_t0 dX11_sneeze_36 av_r0_0 ?_
      refine gf_X11_63 E X hR av_t14 dX11_sneeze_39 av_r14_0 ?_
      refine gf_X11_96 E X hR av_t15 dX11_sneeze_42 ?_
      obtain ⟨r45, er45, h⟩ := av_bd h
      refine av_goL hR (av_cS (As := [.int (gF μ31 15 4)]) (rest := []) E X hR hl.1 (CX11_tenTo l g er45) kk_X11_236 (av_room (by omega) (by decide)) rfl (Nat.le_of_ble_eq_true rfl) ⟨Nat.zero_le _, Nat.zero_le _⟩ dX11_sneeze_45) (fun H locs hR => ?_)
      refine lv_lstore (lv' := [(5, .long r45), (3, .long r31), (0, .ref (g.2.2 0)), (1, .int a1), (2, .int a2)]) hx hb dX11_sneeze_48 hl (by decide) rfl (fun ls hl => ?_)
      refine lv_lload_n hx hb dX11_sneeze_50 rfl (lv_at hl 1 rfl) ?_
      refine lv_lload hx hb dX11_sneeze_51 (lv_at hl 0 rfl) ?_
      obtain ⟨r53, er53, h⟩ := av_bd h
      refine av_goL hR (av_cS (As := [.long r31, .long r45]) (rest := []) E X hR hl.1 (CX11_commonDivisor l g er53) kk_X11_240 (av_room (by omega) (by decide)) rfl (Nat.le_of_ble_eq_true rfl) ⟨Nat.zero_le _, Nat.zero_le _⟩ dX11_sneeze_53) (fun H locs hR => ?_)
      refine lv_lstore (lv' := [(7, .long r53), (5, .long r45), (3, .long r31), (0, .ref (g.2.2 0)), (1, .int a1), (2, .int a2)]) hx hb dX11_sneeze_56 hl (by decide) rfl (fun ls hl => ?_)
      refine lv_lload hx hb dX11_sneeze_58 (lv_at hl 0 rfl) ?_
      refine lv_lconst (v := 0) hx hb dX11_sneeze_60 rfl ?_
      refine W.lcmp hx hb dX11_sneeze_61 ?_
      refine lv_if_le (tgt := 82) hx hb dX11_sneeze_62 (by decide) (fun c62 => ?_) (fun c62 => ?_)
      · have h := av_it c62 h
        exact tX11_sneeze_82 E X h hR (lv_sub hl [] rfl)
      · have h := av_if c62 h
        refine lv_aload_n hx hb dX11_sneeze_65 rfl (lv_at hl 3 rfl) ?_
        refine lv_lload_n hx hb dX11_sneeze_66 rfl (lv_at hl 2 rfl) ?_
        refine lv_lload hx hb dX11_sneeze_67 (lv_at hl 0 rfl) ?_
        by_cases c69 : r53 = 0
        · exact absurd (av_it c69 h) (by simp)
        have h := av_if c69 h
        refine lv_ldiv hx hb dX11_sneeze_69 c69 ?_
        obtain ⟨μ70, eμ70, h⟩ := av_bd h
        replace eμ70 := Option.some.inj eμ70
        refine pf_X11_244 E X hR av_t0 dX11_sneeze_70 eμ70 (fun H locs hR => ?_)
        refine lv_aload_n hx hb dX11_sneeze_73 rfl (lv_at hl 3 rfl) ?_
        refine lv_lload hx hb dX11_sneeze_74 (lv_at hl 1 rfl) ?_
        refine lv_lload hx hb dX11_sneeze_76 (lv_at hl 0 rfl) ?_
        by_cases c78 : r53 = 0
        · exact absurd (av_it c78 h) (by simp)
        have h := av_if c78 h
        refine lv_ldiv hx hb dX11_sneeze_78 c78 ?_
        obtain ⟨μ79, eμ79, h⟩ := av_bd h
        replace eμ79 := Option.some.inj eμ79
        refine pf_X11_59 E X hR av_t0 dX11_sneeze_79 eμ79 (fun H locs hR => ?_)
        exact tX11_sneeze_82 E X h hR (lv_sub hl [] rfl)
    · have h := av_it c15 h
      exact tX11_sneeze_18 E X h hR (lv_sub hl [0] rfl)

set_option maxHeartbeats 4000000 in
set_option maxRecDepth 100000 in
theorem tX11_februaries_53 {p : Program} {l : Launch} {e : Env} {s : State} {m : MethodId} {args : Array Value} {below : List Frame} {meth : Method} {c : Code} {g : Gl} {zr : Int32} {zm : Mem} (E : av_E p s m args meth c cX11_februaries RX11 3 (some .int)) (X : av_X av_wc g s) :
    ∀ {μ : Mem} {H : Heap} {locs : List Loc} {ls : Array Slot}, fX11_februaries_53 μ = some (zr, zm) → av_R av_wc g μ s H locs → lv_has ls 3 [(0, .ref (g.2.2 0))] → W p l e (rmN 6) s m args below meth c H locs 0 0 (MQ below (va_Qi (fun r1 u => r1 = zr ∧ u = zm) (av_B av_wc g) (av_A av_wc g)) args s 0 0 (av_A av_wc g)) (F0 m 53 ls []) := by
  obtain ⟨hx, hb, hr, hml, hown, hts, hlocks⟩ := id E
  intro μ H locs ls h hR hl
  unfold fX11_februaries_53 at h
  refine lv_aload_n hx hb dX11_februaries_53 rfl (lv_at hl 0 rfl) ?_
  obtain ⟨r54, μ54, er54, h⟩ := av_bd2 h
  refine av_goI hR (av_cV (As := []) (rest := []) E X hR hl.1 (CX11_no l g er54) kk_X11_143 (av_room (by omega) (by decide)) av_t0 (by decide) rfl rfl (Nat.le_of_ble_eq_true rfl) ⟨Nat.zero_le _, Nat.zero_le _⟩ dX11_februaries_54) (fun H locs hR => ?_)
  exact av_ri E hR (av_r2 h) dX11_februaries_57

set_option maxHeartbeats 4000000 in
set_option maxRecDepth 100000 in
theorem tX11_februaries_20 {p : Program} {l : Launch} {e : Env} {s : State} {m : MethodId} {args : Array Value} {below : List Frame} {meth : Method} {c : Code} {g : Gl} {zr : Int32} {zm : Mem} (E : av_E p s m args meth c cX11_februaries RX11 3 (some .int)) (X : av_X av_wc g s) :
    ∀ {μ : Mem} {H : Heap} {locs : List Loc} {ls : Array Slot}, fX11_februaries_20 μ = some (zr, zm) → av_R av_wc g μ s H locs → lv_has ls 3 [(0, .ref (g.2.2 0))] → W p l e (rmN 6) s m args below meth c H locs 0 0 (MQ below (va_Qi (fun r1 u => r1 = zr ∧ u = zm) (av_B av_wc g) (av_A av_wc g)) args s 0 0 (av_A av_wc g)) (F0 m 20 ls []) := by
  obtain ⟨hx, hb, hr, hml, hown, hts, hlocks⟩ := id E
  intro μ H locs ls h hR hl
  unfold fX11_februaries_20 at h
  refine lv_aload_n hx hb dX11_februaries_20 rfl (lv_at hl 0 rfl) ?_
  refine lv_bipush (v := (-2)) hx hb dX11_februaries_21 rfl ?_
  obtain ⟨r23, μ23, er23, h⟩ := av_bd2 h
  refine av_goI hR (av_cV (As := [.int (-2)]) (rest := []) E X hR hl.1 (CX11_bad l g er23) kk_X11_80 (av_room (by omega) (by decide)) av_t0 (by decide) rfl rfl (Nat.le_of_ble_eq_true rfl) ⟨Nat.zero_le _, Nat.zero_le _⟩ dX11_februaries_23) (fun H locs hR => ?_)
  exact av_ri E hR (av_r2 h) dX11_februaries_26

set_option maxHeartbeats 4000000 in
set_option maxRecDepth 100000 in
theorem CX11_februaries (l : Launch) (g : Gl) {a1 : Int32} {a2 : Int32} {μ : Mem} {zr : Int32} {zm : Mem} (h : fX11_februaries a1 a2 μ = some (zr, zm)) : av_MI l yX11_februaries cX11_februaries 3 6 (some .int) av_wc g [.ref (g.2.2 0), .int a1, .int a2] μ zr zm := by
  refine av_ent (own := RX11) (by decide) (Nat.le_of_ble_eq_true rfl) rfl (fun p e s m args below meth c E X hR ls hl => ?_)
  have hl : lv_has ls 3 [(0, .ref (g.2.2 0)), (1, .int a1), (2, .int a2)] := hl
  obtain ⟨hx, hb, hr, hml, hown, hts, hlocks⟩ := id E
  unfold fX11_februaries at h
  refine lv_iload_n hx hb dX11_februaries_0 rfl (lv_at hl 1 rfl) ?_
  refine lv_iconst (v := 0) hx hb dX11_februaries_1 rfl ?_
  refine lv_ldc (v := 999999) hx hb hown (hts _ kK_X11_247) dX11_februaries_2 ?_
  obtain ⟨r4, er4, h⟩ := av_bd h
  refine av_goI hR (av_cS (As := [.int a1, .int 0, .int 999999]) (rest := []) E X hR hl.1 (CX11_within l g er4) kk_X11_76 (av_room (by omega) (by decide)) rfl (Nat.le_of_ble_eq_true rfl) ⟨Nat.zero_le _, Nat.zero_le _⟩ dX11_februaries_4) (fun H locs hR => ?_)
  refine lv_if_eq (tgt := 20) hx hb dX11_februaries_7 (by decide) (fun c7 => ?_) (fun c7 => ?_)
  · have h := av_it c7 h
    exact tX11_februaries_20 E X h hR (lv_sub hl [0] rfl)
  · have h := av_if c7 h
    refine lv_iload_n hx hb dX11_februaries_10 rfl (lv_at hl 2 rfl) ?_
    refine lv_iconst (v := 0) hx hb dX11_februaries_11 rfl ?_
    refine lv_bipush (v := 60) hx hb dX11_februaries_12 rfl ?_
    obtain ⟨r14, er14, h⟩ := av_bd h
    refine av_goI hR (av_cS (As := [.int a2, .int 0, .int 60]) (rest := []) E X hR hl.1 (CX11_within l g er14) kk_X11_76 (av_room (by omega) (by decide)) rfl (Nat.le_of_ble_eq_true rfl) ⟨Nat.zero_le _, Nat.zero_le _⟩ dX11_februaries_14) (fun H locs hR => ?_)
    refine lv_if_ne (tgt := 27) hx hb dX11_februaries_17 (by decide) (fun c17 => ?_) (fun c17 => ?_)
    · have h := av_if c17 h
      refine lv_aload_n hx hb dX11_februaries_27 rfl (lv_at hl 0 rfl) ?_
      refine gf_X11_32 E X hR av_t0 dX11_februaries_28 av_r0_0 ?_
      refine gf_X11_63 E X hR av_t14 dX11_februaries_31 av_r14_0 ?_
      refine gf_X11_96 E X hR av_t15 dX11_februaries_34 ?_
      refine lv_if_le (tgt := 53) hx hb dX11_februaries_37 (by decide) (fun c37 => ?_) (fun c37 => ?_)
      · have h := av_it c37 h
        exact tX11_februaries_53 E X h hR (lv_sub hl [0] rfl)
      · have h := av_if c37 h
        refine lv_aload_n hx hb dX11_februaries_40 rfl (lv_at hl 0 rfl) ?_
        refine gf_X11_32 E X hR av_t0 dX11_februaries_41 av_r0_0 ?_
        refine gf_X11_63 E X hR av_t14 dX11_februaries_44 av_r14_0 ?_
        refine gf_X11_67 E X hR av_t15 dX11_februaries_47 ?_
        refine lv_if_gt (tgt := 58) hx hb dX11_februaries_50 (by decide) (fun c50 => ?_) (fun c50 => ?_)
        · have h := av_it c50 h
          refine lv_aload_n hx hb dX11_februaries_58 rfl (lv_at hl 0 rfl) ?_
          refine gf_X11_55 E X hR av_t0 dX11_februaries_59 av_r0_5 ?_
          refine lv_iload_n hx hb dX11_februaries_62 rfl (lv_at hl 1 rfl) ?_
          refine lv_iload_n hx hb dX11_februaries_63 rfl (lv_at hl 2 rfl) ?_
          obtain ⟨r64, μ64, er64, h⟩ := av_bd2 h
          refine av_goI hR (av_cV (As := [.int a1, .int a2]) (rest := []) E X hR hl.1 (CX1_loadAfter l g er64) kk_X11_248 (av_room (by omega) (by decide)) av_t11 (by decide) rfl rfl (Nat.le_of_ble_eq_true rfl) ⟨Nat.zero_le _, Nat.zero_le _⟩ dX11_februaries_64) (fun H locs hR => ?_)
          exact av_ri E hR (av_r2 h) dX11_februaries_67
        · have h := av_if c50 h
          exact tX11_februaries_53 E X h hR (lv_sub hl [0] rfl)
    · have h := av_it c17 h
      exact tX11_februaries_20 E X h hR (lv_sub hl [0] rfl)

set_option maxHeartbeats 4000000 in
set_option maxRecDepth 100000 in
theorem CX11_part (l : Launch) (g : Gl) {a1 : Int32} {μ : Mem} {zr : Int64} {zm : Mem} (h : fX11_part a1 μ = some (zr, zm)) : av_ML l yX11_part cX11_part 2 2 (some .long) av_wc g [.ref (g.2.2 0), .int a1] μ zr zm := by
  refine av_ent (own := RX11) (by decide) (Nat.le_of_ble_eq_true rfl) rfl (fun p e s m args below meth c E X hR ls hl => ?_)
  have hl : lv_has ls 2 [(0, .ref (g.2.2 0)), (1, .int a1)] := hl
  obtain ⟨hx, hb, hr, hml, hown, hts, hlocks⟩ := id E
  unfold fX11_part at h
  refine lv_iload_n hx hb dX11_part_0 rfl (lv_at hl 1 rfl) ?_
  refine lv_iconst (v := 0) hx hb dX11_part_1 rfl ?_
  refine lv_iconst (v := 1) hx hb dX11_part_2 rfl ?_
  obtain ⟨r3, er3, h⟩ := av_bd h
  refine av_goI hR (av_cS (As := [.int a1, .int 0, .int 1]) (rest := []) E X hR hl.1 (CX11_within l g er3) kk_X11_76 (av_room (by omega) (by decide)) rfl (Nat.le_of_ble_eq_true rfl) ⟨Nat.zero_le _, Nat.zero_le _⟩ dX11_part_3) (fun H locs hR => ?_)
  refine lv_if_ne (tgt := 17) hx hb dX11_part_6 (by decide) (fun c6 => ?_) (fun c6 => ?_)
  · have h := av_if c6 h
    refine lv_iload_n hx hb dX11_part_17 rfl (lv_at hl 1 rfl) ?_
    refine lv_if_ne (tgt := 28) hx hb dX11_part_18 (by decide) (fun c18 => ?_) (fun c18 => ?_)
    · have h := av_if c18 h
      refine lv_aload_n hx hb dX11_part_28 rfl (lv_at hl 0 rfl) ?_
      refine gf_X11_59 E X hR av_t0 dX11_part_29 ?_
      exact av_rl E hR (av_r2 h) dX11_part_32
    · have h := av_it c18 h
      refine lv_aload_n hx hb dX11_part_21 rfl (lv_at hl 0 rfl) ?_
      refine gf_X11_244 E X hR av_t0 dX11_part_22 ?_
      refine lv_goto (tgt := 32) hx hb dX11_part_25 (by decide) ?_
      exact av_rl E hR (av_r2 h) dX11_part_32
  · have h := av_it c6 h
    refine lv_aload_n hx hb dX11_part_9 rfl (lv_at hl 0 rfl) ?_
    refine lv_bipush (v := (-2)) hx hb dX11_part_10 rfl ?_
    obtain ⟨r12, μ12, er12, h⟩ := av_bd2 h
    refine av_goI hR (av_cV (As := [.int (-2)]) (rest := []) E X hR hl.1 (CX11_bad l g er12) kk_X11_80 (av_room (by omega) (by decide)) av_t0 (by decide) rfl rfl (Nat.le_of_ble_eq_true rfl) ⟨Nat.zero_le _, Nat.zero_le _⟩ dX11_part_12) (fun H locs hR => ?_)
    refine lv_i2l hx hb dX11_part_15 rfl ?_
    exact av_rl E hR (av_r2 h) dX11_part_16

set_option maxHeartbeats 4000000 in
set_option maxRecDepth 100000 in
theorem CX11_image (l : Launch) (g : Gl) {a1 : Int32} {μ : Mem} {zr : Int32} {zm : Mem} (h : fX11_image a1 μ = some (zr, zm)) : av_MI l yX11_image cX11_image 2 4 (some .int) av_wc g [.ref (g.2.2 0), .int a1] μ zr zm := by
  refine av_ent (own := RX11) (by decide) (Nat.le_of_ble_eq_true rfl) rfl (fun p e s m args below meth c E X hR ls hl => ?_)
  have hl : lv_has ls 2 [(0, .ref (g.2.2 0)), (1, .int a1)] := hl
  obtain ⟨hx, hb, hr, hml, hown, hts, hlocks⟩ := id E
  unfold fX11_image at h
  refine lv_iload_n hx hb dX11_image_0 rfl (lv_at hl 1 rfl) ?_
  refine lv_iconst (v := 0) hx hb dX11_image_1 rfl ?_
  refine lv_iconst (v := 1) hx hb dX11_image_2 rfl ?_
  obtain ⟨r3, er3, h⟩ := av_bd h
  refine av_goI hR (av_cS (As := [.int a1, .int 0, .int 1]) (rest := []) E X hR hl.1 (CX11_within l g er3) kk_X11_76 (av_room (by omega) (by decide)) rfl (Nat.le_of_ble_eq_true rfl) ⟨Nat.zero_le _, Nat.zero_le _⟩ dX11_image_3) (fun H locs hR => ?_)
  refine lv_if_ne (tgt := 16) hx hb dX11_image_6 (by decide) (fun c6 => ?_) (fun c6 => ?_)
  · have h := av_if c6 h
    refine lv_aload_n hx hb dX11_image_16 rfl (lv_at hl 0 rfl) ?_
    refine gf_X11_39 E X hR av_t0 dX11_image_17 av_r0_2 ?_
    refine lv_iload_n hx hb dX11_image_20 rfl (lv_at hl 1 rfl) ?_
    obtain ⟨r21, er21, h⟩ := av_bd h
    refine av_al E X hR av_t8 (by decide) (t0 := 4) rfl er21 dX11_image_21 ?_
    refine lv_aload_n hx hb dX11_image_22 rfl (lv_at hl 0 rfl) ?_
    refine gf_X11_32 E X hR av_t0 dX11_image_23 av_r0_0 ?_
    obtain ⟨μ26, eμ26, h⟩ := av_bd h
    refine av_goV hR (av_cV (As := [.ref (g.2.2 14)]) (rest := []) E X hR hl.1 (CX8_copyFrom l g (av_ty17 av_t8 er21) av_t14 eμ26) kk_X11_116 (av_room (by omega) (by decide)) (av_ty17 av_t8 er21) (by decide) rfl rfl (Nat.le_of_ble_eq_true rfl) ⟨Nat.zero_le _, Nat.zero_le _⟩ dX11_image_26) (fun H locs hR => ?_)
    refine lv_aload_n hx hb dX11_image_29 rfl (lv_at hl 0 rfl) ?_
    refine lv_dup hx hb dX11_image_30 rfl ?_
    refine gf_X11_251 E X hR av_t0 dX11_image_31 ?_
    refine lv_iconst (v := 1) hx hb dX11_image_34 rfl ?_
    refine lv_iload_n hx hb dX11_image_35 rfl (lv_at hl 1 rfl) ?_
    refine lv_ishl hx hb dX11_image_36 ?_
    refine lv_ior hx hb dX11_image_37 ?_
    obtain ⟨μ38, eμ38, h⟩ := av_bd h
    replace eμ38 := Option.some.inj eμ38
    refine pf_X11_251 E X hR av_t0 dX11_image_38 eμ38 (fun H locs hR => ?_)
    refine lv_iconst (v := 1) hx hb dX11_image_41 rfl ?_
    exact av_ri E hR (av_r2 h) dX11_image_42
  · have h := av_it c6 h
    refine lv_aload_n hx hb dX11_image_9 rfl (lv_at hl 0 rfl) ?_
    refine lv_bipush (v := (-2)) hx hb dX11_image_10 rfl ?_
    obtain ⟨r12, μ12, er12, h⟩ := av_bd2 h
    refine av_goI hR (av_cV (As := [.int (-2)]) (rest := []) E X hR hl.1 (CX11_bad l g er12) kk_X11_80 (av_room (by omega) (by decide)) av_t0 (by decide) rfl rfl (Nat.le_of_ble_eq_true rfl) ⟨Nat.zero_le _, Nat.zero_le _⟩ dX11_image_12) (fun H locs hR => ?_)
    exact av_ri E hR (av_r2 h) dX11_image_15

set_option maxHeartbeats 4000000 in
set_option maxRecDepth 100000 in
theorem CX11_from (l : Launch) (g : Gl) {a1 : Int32} {μ : Mem} {zr : Int32} {zm : Mem} (h : fX11_from a1 μ = some (zr, zm)) : av_MI l yX11_from cX11_from 2 4 (some .int) av_wc g [.ref (g.2.2 0), .int a1] μ zr zm := by
  refine av_ent (own := RX11) (by decide) (Nat.le_of_ble_eq_true rfl) rfl (fun p e s m args below meth c E X hR ls hl => ?_)
  have hl : lv_has ls 2 [(0, .ref (g.2.2 0)), (1, .int a1)] := hl
  obtain ⟨hx, hb, hr, hml, hown, hts, hlocks⟩ := id E
  unfold fX11_from at h
  refine lv_iload_n hx hb dX11_from_0 rfl (lv_at hl 1 rfl) ?_
  refine lv_iconst (v := 0) hx hb dX11_from_1 rfl ?_
  refine lv_iconst (v := 1) hx hb dX11_from_2 rfl ?_
  obtain ⟨r3, er3, h⟩ := av_bd h
  refine av_goI hR (av_cS (As := [.int a1, .int 0, .int 1]) (rest := []) E X hR hl.1 (CX11_within l g er3) kk_X11_76 (av_room (by omega) (by decide)) rfl (Nat.le_of_ble_eq_true rfl) ⟨Nat.zero_le _, Nat.zero_le _⟩ dX11_from_3) (fun H locs hR => ?_)
  refine lv_if_ne (tgt := 16) hx hb dX11_from_6 (by decide) (fun c6 => ?_) (fun c6 => ?_)
  · have h := av_if c6 h
    refine lv_aload_n hx hb dX11_from_16 rfl (lv_at hl 0 rfl) ?_
    refine gf_X11_251 E X hR av_t0 dX11_from_17 ?_
    refine lv_iload_n hx hb dX11_from_20 rfl (lv_at hl 1 rfl) ?_
    obtain ⟨r21, er21, h⟩ := av_bd h
    refine av_goI hR (av_cS (As := [.int (gF μ 0 3), .int a1]) (rest := []) E X hR hl.1 (CX11_hasBit l g er21) kk_X11_254 (av_room (by omega) (by decide)) rfl (Nat.le_of_ble_eq_true rfl) ⟨Nat.zero_le _, Nat.zero_le _⟩ dX11_from_21) (fun H locs hR => ?_)
    refine lv_if_ne (tgt := 32) hx hb dX11_from_24 (by decide) (fun c24 => ?_) (fun c24 => ?_)
    · have h := av_if c24 h
      refine lv_aload_n hx hb dX11_from_32 rfl (lv_at hl 0 rfl) ?_
      refine gf_X11_32 E X hR av_t0 dX11_from_33 av_r0_0 ?_
      refine lv_aload_n hx hb dX11_from_36 rfl (lv_at hl 0 rfl) ?_
      refine gf_X11_39 E X hR av_t0 dX11_from_37 av_r0_2 ?_
      refine lv_iload_n hx hb dX11_from_40 rfl (lv_at hl 1 rfl) ?_
      obtain ⟨r41, er41, h⟩ := av_bd h
      refine av_al E X hR av_t8 (by decide) (t0 := 4) rfl er41 dX11_from_41 ?_
      obtain ⟨μ42, eμ42, h⟩ := av_bd h
      refine av_goV hR (av_cV (As := [.ref (g.2.2 r41)]) (rest := []) E X hR hl.1 (CX8_copyFrom l g av_t14 (av_ty17 av_t8 er41) eμ42) kk_X11_116 (av_room (by omega) (by decide)) av_t14 (by decide) rfl rfl (Nat.le_of_ble_eq_true rfl) ⟨Nat.zero_le _, Nat.zero_le _⟩ dX11_from_42) (fun H locs hR => ?_)
      refine lv_iconst (v := 1) hx hb dX11_from_45 rfl ?_
      exact av_ri E hR (av_r2 h) dX11_from_46
    · have h := av_it c24 h
      refine lv_aload_n hx hb dX11_from_27 rfl (lv_at hl 0 rfl) ?_
      obtain ⟨r28, μ28, er28, h⟩ := av_bd2 h
      refine av_goI hR (av_cV (As := []) (rest := []) E X hR hl.1 (CX11_no l g er28) kk_X11_143 (av_room (by omega) (by decide)) av_t0 (by decide) rfl rfl (Nat.le_of_ble_eq_true rfl) ⟨Nat.zero_le _, Nat.zero_le _⟩ dX11_from_28) (fun H locs hR => ?_)
      exact av_ri E hR (av_r2 h) dX11_from_31
  · have h := av_it c6 h
    refine lv_aload_n hx hb dX11_from_9 rfl (lv_at hl 0 rfl) ?_
    refine lv_bipush (v := (-2)) hx hb dX11_from_10 rfl ?_
    obtain ⟨r12, μ12, er12, h⟩ := av_bd2 h
    refine av_goI hR (av_cV (As := [.int (-2)]) (rest := []) E X hR hl.1 (CX11_bad l g er12) kk_X11_80 (av_room (by omega) (by decide)) av_t0 (by decide) rfl rfl (Nat.le_of_ble_eq_true rfl) ⟨Nat.zero_le _, Nat.zero_le _⟩ dX11_from_12) (fun H locs hR => ?_)
    exact av_ri E hR (av_r2 h) dX11_from_15

set_option maxHeartbeats 4000000 in
set_option maxRecDepth 100000 in
theorem CX11_status (l : Launch) (g : Gl) {a1 : Int32} {μ : Mem} {zr : Int32} {zm : Mem} (h : fX11_status a1 μ = some (zr, zm)) : av_MI l yX11_status cX11_status 2 2 (some .int) av_wc g [.ref (g.2.2 0), .int a1] μ zr zm := by
  refine av_ent (own := RX11) (by decide) (Nat.le_of_ble_eq_true rfl) rfl (fun p e s m args below meth c E X hR ls hl => ?_)
  have hl : lv_has ls 2 [(0, .ref (g.2.2 0)), (1, .int a1)] := hl
  obtain ⟨hx, hb, hr, hml, hown, hts, hlocks⟩ := id E
  unfold fX11_status at h
  refine lv_iload_n hx hb dX11_status_0 rfl (lv_at hl 1 rfl) ?_
  by_cases c1_0 : a1 = 0
  · have h := av_it c1_0 h
    refine lv_tableIn (tgt := 28) (off := 27) hx hb dX11_status_1 (by rw [c1_0]; decide) (by rw [c1_0]; decide) (by rw [c1_0]; decide) (by decide) ?_
    refine lv_aload_n hx hb dX11_status_28 rfl (lv_at hl 0 rfl) ?_
    refine gf_X11_258 E X hR av_t0 dX11_status_29 ?_
    exact av_ri E hR (av_r2 h) dX11_status_32
  have h := av_if c1_0 h
  by_cases c1_1 : a1 = 1
  · have h := av_it c1_1 h
    refine lv_tableIn (tgt := 33) (off := 32) hx hb dX11_status_1 (by rw [c1_1]; decide) (by rw [c1_1]; decide) (by rw [c1_1]; decide) (by decide) ?_
    refine lv_aload_n hx hb dX11_status_33 rfl (lv_at hl 0 rfl) ?_
    refine gf_X11_261 E X hR av_t0 dX11_status_34 ?_
    exact av_ri E hR (av_r2 h) dX11_status_37
  have h := av_if c1_1 h
  by_cases c1_2 : a1 = 2
  · have h := av_it c1_2 h
    refine lv_tableIn (tgt := 38) (off := 37) hx hb dX11_status_1 (by rw [c1_2]; decide) (by rw [c1_2]; decide) (by rw [c1_2]; decide) (by decide) ?_
    refine lv_aload_n hx hb dX11_status_38 rfl (lv_at hl 0 rfl) ?_
    refine gf_X11_264 E X hR av_t0 dX11_status_39 ?_
    exact av_ri E hR (av_r2 h) dX11_status_42
  have h := av_if c1_2 h
  have n1_0 := lv_neT c1_0 (a := 0) (by decide)
  have n1_1 := lv_neT c1_1 (a := 1) (by decide)
  have n1_2 := lv_neT c1_2 (a := 2) (by decide)
  refine lv_tableOut (tgt := 43) hx hb dX11_status_1 (by omega) (by decide) ?_
  refine lv_aload_n hx hb dX11_status_43 rfl (lv_at hl 0 rfl) ?_
  refine lv_iconst (v := (-1)) hx hb dX11_status_44 rfl ?_
  obtain ⟨r45, μ45, er45, h⟩ := av_bd2 h
  refine av_goI hR (av_cV (As := [.int (-1)]) (rest := []) E X hR hl.1 (CX11_bad l g er45) kk_X11_80 (av_room (by omega) (by decide)) av_t0 (by decide) rfl rfl (Nat.le_of_ble_eq_true rfl) ⟨Nat.zero_le _, Nat.zero_le _⟩ dX11_status_45) (fun H locs hR => ?_)
  exact av_ri E hR (av_r2 h) dX11_status_48

set_option maxHeartbeats 4000000 in
set_option maxRecDepth 100000 in
theorem CX11_howMany (l : Launch) (g : Gl) {a1 : Int32} {μ : Mem} {zr : Int32} (h : fX11_howMany a1 μ = some zr) : av_MI l yX11_howMany cX11_howMany 2 3 (some .int) av_wc g [.ref (g.2.2 0), .int a1] μ zr μ := by
  refine av_ent (own := RX11) (by decide) (Nat.le_of_ble_eq_true rfl) rfl (fun p e s m args below meth c E X hR ls hl => ?_)
  have hl : lv_has ls 2 [(0, .ref (g.2.2 0)), (1, .int a1)] := hl
  obtain ⟨hx, hb, hr, hml, hown, hts, hlocks⟩ := id E
  have hμ : μ = μ := rfl
  unfold fX11_howMany at h
  refine lv_iload_n hx hb dX11_howMany_0 rfl (lv_at hl 1 rfl) ?_
  by_cases c1_0 : a1 = 0
  · have h := av_it c1_0 h
    refine lv_tableIn (tgt := 40) (off := 39) hx hb dX11_howMany_1 (by rw [c1_0]; decide) (by rw [c1_0]; decide) (by rw [c1_0]; decide) (by decide) ?_
    refine lv_aload_n hx hb dX11_howMany_40 rfl (lv_at hl 0 rfl) ?_
    refine gf_X11_32 E X hR av_t0 dX11_howMany_41 av_r0_0 ?_
    refine gf_X11_63 E X hR av_t14 dX11_howMany_44 av_r14_0 ?_
    refine gf_X11_67 E X hR av_t15 dX11_howMany_47 ?_
    exact av_ri E hR ⟨Option.some.inj h, hμ.symm⟩ dX11_howMany_50
  have h := av_if c1_0 h
  by_cases c1_1 : a1 = 1
  · have h := av_it c1_1 h
    refine lv_tableIn (tgt := 51) (off := 50) hx hb dX11_howMany_1 (by rw [c1_1]; decide) (by rw [c1_1]; decide) (by rw [c1_1]; decide) (by decide) ?_
    refine lv_aload_n hx hb dX11_howMany_51 rfl (lv_at hl 0 rfl) ?_
    refine gf_X11_32 E X hR av_t0 dX11_howMany_52 av_r0_0 ?_
    refine gf_X11_63 E X hR av_t14 dX11_howMany_55 av_r14_0 ?_
    refine gf_X11_96 E X hR av_t15 dX11_howMany_58 ?_
    exact av_ri E hR ⟨Option.some.inj h, hμ.symm⟩ dX11_howMany_61
  have h := av_if c1_1 h
  by_cases c1_2 : a1 = 2
  · have h := av_it c1_2 h
    refine lv_tableIn (tgt := 62) (off := 61) hx hb dX11_howMany_1 (by rw [c1_2]; decide) (by rw [c1_2]; decide) (by rw [c1_2]; decide) (by decide) ?_
    refine lv_aload_n hx hb dX11_howMany_62 rfl (lv_at hl 0 rfl) ?_
    refine gf_X11_32 E X hR av_t0 dX11_howMany_63 av_r0_0 ?_
    refine gf_X11_125 E X hR av_t14 dX11_howMany_66 av_r14_1 ?_
    refine gf_X11_149 E X hR av_t21 dX11_howMany_69 ?_
    exact av_ri E hR ⟨Option.some.inj h, hμ.symm⟩ dX11_howMany_72
  have h := av_if c1_2 h
  by_cases c1_3 : a1 = 3
  · have h := av_it c1_3 h
    refine lv_tableIn (tgt := 73) (off := 72) hx hb dX11_howMany_1 (by rw [c1_3]; decide) (by rw [c1_3]; decide) (by rw [c1_3]; decide) (by decide) ?_
    refine lv_aload_n hx hb dX11_howMany_73 rfl (lv_at hl 0 rfl) ?_
    refine gf_X11_32 E X hR av_t0 dX11_howMany_74 av_r0_0 ?_
    refine gf_X11_125 E X hR av_t14 dX11_howMany_77 av_r14_1 ?_
    obtain ⟨r80, er80, h⟩ := av_bd h
    refine av_goI hR (av_cV (As := []) (rest := []) E X hR hl.1 (CX7_loadOfAll l g av_t21 er80) kk_X11_278 (av_room (by omega) (by decide)) av_t21 (by decide) rfl rfl (Nat.le_of_ble_eq_true rfl) ⟨Nat.zero_le _, Nat.zero_le _⟩ dX11_howMany_80) (fun H locs hR => ?_)
    exact av_ri E hR ⟨Option.some.inj h, hμ.symm⟩ dX11_howMany_83
  have h := av_if c1_3 h
  by_cases c1_4 : a1 = 4
  · have h := av_it c1_4 h
    refine lv_tableIn (tgt := 84) (off := 83) hx hb dX11_howMany_1 (by rw [c1_4]; decide) (by rw [c1_4]; decide) (by rw [c1_4]; decide) (by decide) ?_
    refine lv_aload_n hx hb dX11_howMany_84 rfl (lv_at hl 0 rfl) ?_
    refine gf_X11_32 E X hR av_t0 dX11_howMany_85 av_r0_0 ?_
    refine gf_X11_212 E X hR av_t14 dX11_howMany_88 ?_
    exact av_ri E hR ⟨Option.some.inj h, hμ.symm⟩ dX11_howMany_91
  have h := av_if c1_4 h
  by_cases c1_5 : a1 = 5
  · have h := av_it c1_5 h
    refine lv_tableIn (tgt := 92) (off := 91) hx hb dX11_howMany_1 (by rw [c1_5]; decide) (by rw [c1_5]; decide) (by rw [c1_5]; decide) (by decide) ?_
    refine lv_aload_n hx hb dX11_howMany_92 rfl (lv_at hl 0 rfl) ?_
    refine gf_X11_32 E X hR av_t0 dX11_howMany_93 av_r0_0 ?_
    refine gf_X11_140 E X hR av_t14 dX11_howMany_96 ?_
    exact av_ri E hR ⟨Option.some.inj h, hμ.symm⟩ dX11_howMany_99
  have h := av_if c1_5 h
  have n1_0 := lv_neT c1_0 (a := 0) (by decide)
  have n1_1 := lv_neT c1_1 (a := 1) (by decide)
  have n1_2 := lv_neT c1_2 (a := 2) (by decide)
  have n1_3 := lv_neT c1_3 (a := 3) (by decide)
  have n1_4 := lv_neT c1_4 (a := 4) (by decide)
  have n1_5 := lv_neT c1_5 (a := 5) (by decide)
  refine lv_tableOut (tgt := 100) hx hb dX11_howMany_1 (by omega) (by decide) ?_
  refine lv_aload_n hx hb dX11_howMany_100 rfl (lv_at hl 0 rfl) ?_
  refine gf_X11_46 E X hR av_t0 dX11_howMany_101 av_r0_4 ?_
  refine gf_X11_102 E X hR av_t9 dX11_howMany_104 ?_
  exact av_ri E hR ⟨Option.some.inj h, hμ.symm⟩ dX11_howMany_107

set_option maxHeartbeats 4000000 in
set_option maxRecDepth 100000 in
theorem CX11_count (l : Launch) (g : Gl) {a1 : Int32} {μ : Mem} {zr : Int32} {zm : Mem} (h : fX11_count a1 μ = some (zr, zm)) : av_MI l yX11_count cX11_count 2 4 (some .int) av_wc g [.ref (g.2.2 0), .int a1] μ zr zm := by
  refine av_ent (own := RX11) (by decide) (Nat.le_of_ble_eq_true rfl) rfl (fun p e s m args below meth c E X hR ls hl => ?_)
  have hl : lv_has ls 2 [(0, .ref (g.2.2 0)), (1, .int a1)] := hl
  obtain ⟨hx, hb, hr, hml, hown, hts, hlocks⟩ := id E
  unfold fX11_count at h
  refine lv_iload_n hx hb dX11_count_0 rfl (lv_at hl 1 rfl) ?_
  refine lv_iconst (v := 0) hx hb dX11_count_1 rfl ?_
  refine lv_bipush (v := 6) hx hb dX11_count_2 rfl ?_
  obtain ⟨r4, er4, h⟩ := av_bd h
  refine av_goI hR (av_cS (As := [.int a1, .int 0, .int 6]) (rest := []) E X hR hl.1 (CX11_within l g er4) kk_X11_76 (av_room (by omega) (by decide)) rfl (Nat.le_of_ble_eq_true rfl) ⟨Nat.zero_le _, Nat.zero_le _⟩ dX11_count_4) (fun H locs hR => ?_)
  refine lv_if_eq (tgt := 18) hx hb dX11_count_7 (by decide) (fun c7 => ?_) (fun c7 => ?_)
  · have h := av_it c7 h
    refine lv_aload_n hx hb dX11_count_18 rfl (lv_at hl 0 rfl) ?_
    refine lv_bipush (v := (-2)) hx hb dX11_count_19 rfl ?_
    obtain ⟨r21, μ21, er21, h⟩ := av_bd2 h
    refine av_goI hR (av_cV (As := [.int (-2)]) (rest := []) E X hR hl.1 (CX11_bad l g er21) kk_X11_80 (av_room (by omega) (by decide)) av_t0 (by decide) rfl rfl (Nat.le_of_ble_eq_true rfl) ⟨Nat.zero_le _, Nat.zero_le _⟩ dX11_count_21) (fun H locs hR => ?_)
    exact av_ri E hR (av_r2 h) dX11_count_24
  · have h := av_if c7 h
    refine lv_aload_n hx hb dX11_count_10 rfl (lv_at hl 0 rfl) ?_
    refine lv_iload_n hx hb dX11_count_11 rfl (lv_at hl 1 rfl) ?_
    obtain ⟨r12, er12, h⟩ := av_bd h
    refine av_goI hR (av_cV (As := [.int a1]) (rest := []) E X hR hl.1 (CX11_howMany l g er12) kk_X11_267 (av_room (by omega) (by decide)) av_t0 (by decide) rfl rfl (Nat.le_of_ble_eq_true rfl) ⟨Nat.zero_le _, Nat.zero_le _⟩ dX11_count_12) (fun H locs hR => ?_)
    refine lv_goto (tgt := 24) hx hb dX11_count_15 (by decide) ?_
    exact av_ri E hR (av_r2 h) dX11_count_24
