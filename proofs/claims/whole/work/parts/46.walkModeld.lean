set_option maxHeartbeats 4000000 in
set_option maxRecDepth 100000 in
theorem CX12_takesVoter (l : Launch) (g : Gl) {μ : Mem} {zr : Int32} {zm : Mem} (h : fX12_takesVoter μ = some (zr, zm)) : av_MI l yX12_takesVoter cX12_takesVoter 1 6 (some .boolean) av_wm g [.ref (g.2.2 98)] μ zr zm := by
  refine av_ent (own := RX12) (by decide) (Nat.le_of_ble_eq_true rfl) rfl (fun p e s m args below meth c E X hR ls hl => ?_)
  have hl : lv_has ls 1 [(0, .ref (g.2.2 98))] := hl
  obtain ⟨hx, hb, hr, hml, hown, hts, hlocks⟩ := id E
  unfold fX12_takesVoter at h
  refine lv_aload_n hx hb dX12_takesVoter_0 rfl (lv_at hl 0 rfl) ?_
  refine gf_X12_54 E X hR av_t98 dX12_takesVoter_1 av_r98_27 ?_
  refine lv_iconst (v := 1) hx hb dX12_takesVoter_4 rfl ?_
  obtain ⟨r5, er5, h⟩ := av_bd h
  refine av_il E X hR av_t112 er5 dX12_takesVoter_5 ?_
  refine lv_bipush (v := 6) hx hb dX12_takesVoter_6 rfl ?_
  refine lv_icmp_ne (tgt := 13) hx hb dX12_takesVoter_8 (by decide) (fun c8 => ?_) (fun c8 => ?_)
  · have h := av_if c8 h
    refine lv_aload_n hx hb dX12_takesVoter_13 rfl (lv_at hl 0 rfl) ?_
    obtain ⟨μ14, eμ14, h⟩ := av_bd h
    refine av_goV hR (av_cV (As := []) (rest := []) E X hR hl.1 (CX12_goBehind l g eμ14) kk_X12_285 (av_room (by omega) (by decide)) av_t98 (by decide) rfl rfl (Nat.le_of_ble_eq_true rfl) ⟨Nat.zero_le _, Nat.zero_le _⟩ dX12_takesVoter_14) (fun H locs hR => ?_)
    refine lv_aload_n hx hb dX12_takesVoter_17 rfl (lv_at hl 0 rfl) ?_
    refine lv_iconst (v := 0) hx hb dX12_takesVoter_18 rfl ?_
    refine lv_iconst (v := 0) hx hb dX12_takesVoter_19 rfl ?_
    refine lv_iconst (v := 5) hx hb dX12_takesVoter_20 rfl ?_
    obtain ⟨r21, μ21, er21, h⟩ := av_bd2 h
    refine av_goI hR (av_cV (As := [.int 0, .int 0, .int 5]) (rest := []) E X hR hl.1 (CX12_takes l g er21) kk_X12_288 (av_room (by omega) (by decide)) av_t98 (by decide) rfl rfl (Nat.le_of_ble_eq_true rfl) ⟨Nat.zero_le _, Nat.zero_le _⟩ dX12_takesVoter_21) (fun H locs hR => ?_)
    refine lv_if_eq (tgt := 55) hx hb dX12_takesVoter_24 (by decide) (fun c24 => ?_) (fun c24 => ?_)
    · have h := av_it c24 h
      exact tX12_takesVoter_55 E X h hR (lv_sub hl [] rfl)
    · have h := av_if c24 h
      refine lv_aload_n hx hb dX12_takesVoter_27 rfl (lv_at hl 0 rfl) ?_
      refine lv_iconst (v := 1) hx hb dX12_takesVoter_28 rfl ?_
      refine lv_iconst (v := 0) hx hb dX12_takesVoter_29 rfl ?_
      refine lv_aload_n hx hb dX12_takesVoter_30 rfl (lv_at hl 0 rfl) ?_
      refine gf_X12_54 E X hR av_t98 dX12_takesVoter_31 av_r98_27 ?_
      refine lv_iconst (v := 0) hx hb dX12_takesVoter_34 rfl ?_
      obtain ⟨r35, er35, h⟩ := av_bd h
      refine av_il E X hR av_t112 er35 dX12_takesVoter_35 ?_
      refine lv_iconst (v := 1) hx hb dX12_takesVoter_36 rfl ?_
      refine lv_isub hx hb dX12_takesVoter_37 ?_
      obtain ⟨r38, μ38, er38, h⟩ := av_bd2 h
      refine av_goI hR (av_cV (As := [.int 1, .int 0, .int (r35 - 1)]) (rest := []) E X hR hl.1 (CX12_takes l g er38) kk_X12_288 (av_room (by omega) (by decide)) av_t98 (by decide) rfl rfl (Nat.le_of_ble_eq_true rfl) ⟨Nat.zero_le _, Nat.zero_le _⟩ dX12_takesVoter_38) (fun H locs hR => ?_)
      refine lv_if_eq (tgt := 55) hx hb dX12_takesVoter_41 (by decide) (fun c41 => ?_) (fun c41 => ?_)
      · have h := av_it c41 h
        exact tX12_takesVoter_55 E X h hR (lv_sub hl [] rfl)
      · have h := av_if c41 h
        refine lv_aload_n hx hb dX12_takesVoter_44 rfl (lv_at hl 0 rfl) ?_
        refine lv_iconst (v := 2) hx hb dX12_takesVoter_45 rfl ?_
        refine lv_iconst (v := 1) hx hb dX12_takesVoter_46 rfl ?_
        refine lv_bipush (v := 9) hx hb dX12_takesVoter_47 rfl ?_
        obtain ⟨r49, μ49, er49, h⟩ := av_bd2 h
        refine av_goI hR (av_cV (As := [.int 2, .int 1, .int 9]) (rest := []) E X hR hl.1 (CX12_takes l g er49) kk_X12_288 (av_room (by omega) (by decide)) av_t98 (by decide) rfl rfl (Nat.le_of_ble_eq_true rfl) ⟨Nat.zero_le _, Nat.zero_le _⟩ dX12_takesVoter_49) (fun H locs hR => ?_)
        refine lv_if_ne (tgt := 57) hx hb dX12_takesVoter_52 (by decide) (fun c52 => ?_) (fun c52 => ?_)
        · have h := av_if c52 h
          refine lv_aload_n hx hb dX12_takesVoter_57 rfl (lv_at hl 0 rfl) ?_
          refine gf_X12_54 E X hR av_t98 dX12_takesVoter_58 av_r98_27 ?_
          refine lv_aload_n hx hb dX12_takesVoter_61 rfl (lv_at hl 0 rfl) ?_
          refine gf_X12_57 E X hR av_t98 dX12_takesVoter_62 av_r98_28 ?_
          refine lv_iconst (v := 0) hx hb dX12_takesVoter_65 rfl ?_
          obtain ⟨r66, er66, h⟩ := av_bd h
          refine av_il E X hR av_t113 er66 dX12_takesVoter_66 ?_
          refine lv_aload_n hx hb dX12_takesVoter_67 rfl (lv_at hl 0 rfl) ?_
          refine gf_X12_57 E X hR av_t98 dX12_takesVoter_68 av_r98_28 ?_
          refine lv_iconst (v := 1) hx hb dX12_takesVoter_71 rfl ?_
          obtain ⟨r72, er72, h⟩ := av_bd h
          refine av_il E X hR av_t113 er72 dX12_takesVoter_72 ?_
          refine lv_aload_n hx hb dX12_takesVoter_73 rfl (lv_at hl 0 rfl) ?_
          refine gf_X12_57 E X hR av_t98 dX12_takesVoter_74 av_r98_28 ?_
          refine lv_iconst (v := 2) hx hb dX12_takesVoter_77 rfl ?_
          obtain ⟨r78, er78, h⟩ := av_bd h
          refine av_il E X hR av_t113 er78 dX12_takesVoter_78 ?_
          obtain ⟨μ79, eμ79, h⟩ := av_bd h
          refine av_goV hR (av_cS (As := [.ref (g.2.2 112), .int r66, .int r72, .int r78]) (rest := []) E X hR hl.1 (CX12_layVoter l g av_t112 eμ79) kk_X12_100 (av_room (by omega) (by decide)) rfl (Nat.le_of_ble_eq_true rfl) ⟨Nat.zero_le _, Nat.zero_le _⟩ dX12_takesVoter_79) (fun H locs hR => ?_)
          refine lv_iconst (v := 1) hx hb dX12_takesVoter_82 rfl ?_
          exact av_rz E hR rfl (av_r2 h) dX12_takesVoter_83
        · have h := av_it c52 h
          exact tX12_takesVoter_55 E X h hR (lv_sub hl [] rfl)
  · have h := av_it c8 h
    refine lv_iconst (v := 0) hx hb dX12_takesVoter_11 rfl ?_
    exact av_rz E hR rfl (av_r2 h) dX12_takesVoter_12

set_option maxHeartbeats 4000000 in
set_option maxRecDepth 100000 in
theorem tX12_takesItem_83 {p : Program} {l : Launch} {e : Env} {s : State} {m : MethodId} {args : Array Value} {below : List Frame} {meth : Method} {c : Code} {g : Gl} {zr : Int32} {zm : Mem} (E : av_E p s m args meth c cX12_takesItem RX12 1 (some .boolean)) (X : av_X av_wm g s) :
    ∀ {μ : Mem} {H : Heap} {locs : List Loc} {ls : Array Slot}, fX12_takesItem_83 μ = some (zr, zm) → av_R av_wm g μ s H locs → lv_has ls 1 [] → W p l e (rmN 7) s m args below meth c H locs 0 0 (MQ below (va_Qi (fun r1 u => r1 = zr ∧ u = zm) (av_B av_wm g) (av_A av_wm g)) args s 0 0 (av_A av_wm g)) (F0 m 83 ls []) := by
  obtain ⟨hx, hb, hr, hml, hown, hts, hlocks⟩ := id E
  intro μ H locs ls h hR hl
  unfold fX12_takesItem_83 at h
  refine lv_iconst (v := 0) hx hb dX12_takesItem_83 rfl ?_
  exact av_rz E hR rfl (av_r2 h) dX12_takesItem_84

set_option maxHeartbeats 4000000 in
set_option maxRecDepth 100000 in
theorem CX12_takesItem (l : Launch) (g : Gl) {μ : Mem} {zr : Int32} {zm : Mem} (h : fX12_takesItem μ = some (zr, zm)) : av_MI l yX12_takesItem cX12_takesItem 1 7 (some .boolean) av_wm g [.ref (g.2.2 98)] μ zr zm := by
  refine av_ent (own := RX12) (by decide) (Nat.le_of_ble_eq_true rfl) rfl (fun p e s m args below meth c E X hR ls hl => ?_)
  have hl : lv_has ls 1 [(0, .ref (g.2.2 98))] := hl
  obtain ⟨hx, hb, hr, hml, hown, hts, hlocks⟩ := id E
  unfold fX12_takesItem at h
  refine lv_aload_n hx hb dX12_takesItem_0 rfl (lv_at hl 0 rfl) ?_
  refine lv_iconst (v := 5) hx hb dX12_takesItem_1 rfl ?_
  refine lv_bipush (v := 108) hx hb dX12_takesItem_2 rfl ?_
  refine lv_bipush (v := 101) hx hb dX12_takesItem_4 rfl ?_
  refine lv_bipush (v := 100) hx hb dX12_takesItem_6 rfl ?_
  refine lv_bipush (v := 103) hx hb dX12_takesItem_8 rfl ?_
  refine lv_bipush (v := 101) hx hb dX12_takesItem_10 rfl ?_
  refine lv_iconst (v := 0) hx hb dX12_takesItem_12 rfl ?_
  refine lv_iconst (v := 0) hx hb dX12_takesItem_13 rfl ?_
  obtain ⟨r14, er14, h⟩ := av_bd h
  refine av_goI hR (av_cV (As := [.int 5, .int 108, .int 101, .int 100, .int 103, .int 101, .int 0, .int 0]) (rest := []) E X hR hl.1 (CX12_isWord l g er14) kk_X12_292 (av_room (by omega) (by decide)) av_t98 (by decide) rfl rfl (Nat.le_of_ble_eq_true rfl) ⟨Nat.zero_le _, Nat.zero_le _⟩ dX12_takesItem_14) (fun H locs hR => ?_)
  refine lv_if_eq (tgt := 26) hx hb dX12_takesItem_17 (by decide) (fun c17 => ?_) (fun c17 => ?_)
  · have h := av_it c17 h
    refine lv_aload_n hx hb dX12_takesItem_26 rfl (lv_at hl 0 rfl) ?_
    refine lv_iconst (v := 5) hx hb dX12_takesItem_27 rfl ?_
    refine lv_bipush (v := 98) hx hb dX12_takesItem_28 rfl ?_
    refine lv_bipush (v := 101) hx hb dX12_takesItem_30 rfl ?_
    refine lv_bipush (v := 108) hx hb dX12_takesItem_32 rfl ?_
    refine lv_bipush (v := 111) hx hb dX12_takesItem_34 rfl ?_
    refine lv_bipush (v := 119) hx hb dX12_takesItem_36 rfl ?_
    refine lv_iconst (v := 0) hx hb dX12_takesItem_38 rfl ?_
    refine lv_iconst (v := 0) hx hb dX12_takesItem_39 rfl ?_
    obtain ⟨r40, er40, h⟩ := av_bd h
    refine av_goI hR (av_cV (As := [.int 5, .int 98, .int 101, .int 108, .int 111, .int 119, .int 0, .int 0]) (rest := []) E X hR hl.1 (CX12_isWord l g er40) kk_X12_292 (av_room (by omega) (by decide)) av_t98 (by decide) rfl rfl (Nat.le_of_ble_eq_true rfl) ⟨Nat.zero_le _, Nat.zero_le _⟩ dX12_takesItem_40) (fun H locs hR => ?_)
    refine lv_if_eq (tgt := 52) hx hb dX12_takesItem_43 (by decide) (fun c43 => ?_) (fun c43 => ?_)
    · have h := av_it c43 h
      refine lv_aload_n hx hb dX12_takesItem_52 rfl (lv_at hl 0 rfl) ?_
      refine lv_iconst (v := 5) hx hb dX12_takesItem_53 rfl ?_
      refine lv_bipush (v := 118) hx hb dX12_takesItem_54 rfl ?_
      refine lv_bipush (v := 111) hx hb dX12_takesItem_56 rfl ?_
      refine lv_bipush (v := 116) hx hb dX12_takesItem_58 rfl ?_
      refine lv_bipush (v := 101) hx hb dX12_takesItem_60 rfl ?_
      refine lv_bipush (v := 114) hx hb dX12_takesItem_62 rfl ?_
      refine lv_iconst (v := 0) hx hb dX12_takesItem_64 rfl ?_
      refine lv_iconst (v := 0) hx hb dX12_takesItem_65 rfl ?_
      obtain ⟨r66, er66, h⟩ := av_bd h
      refine av_goI hR (av_cV (As := [.int 5, .int 118, .int 111, .int 116, .int 101, .int 114, .int 0, .int 0]) (rest := []) E X hR hl.1 (CX12_isWord l g er66) kk_X12_292 (av_room (by omega) (by decide)) av_t98 (by decide) rfl rfl (Nat.le_of_ble_eq_true rfl) ⟨Nat.zero_le _, Nat.zero_le _⟩ dX12_takesItem_66) (fun H locs hR => ?_)
      refine lv_if_eq (tgt := 83) hx hb dX12_takesItem_69 (by decide) (fun c69 => ?_) (fun c69 => ?_)
      · have h := av_it c69 h
        exact tX12_takesItem_83 E X h hR (lv_sub hl [] rfl)
      · have h := av_if c69 h
        refine lv_aload_n hx hb dX12_takesItem_72 rfl (lv_at hl 0 rfl) ?_
        obtain ⟨r73, μ73, er73, h⟩ := av_bd2 h
        refine av_goI hR (av_cV (As := []) (rest := []) E X hR hl.1 (CX12_takesVoter l g er73) kk_X12_300 (av_room (by omega) (by decide)) av_t98 (by decide) rfl rfl (Nat.le_of_ble_eq_true rfl) ⟨Nat.zero_le _, Nat.zero_le _⟩ dX12_takesItem_73) (fun H locs hR => ?_)
        refine lv_if_eq (tgt := 83) hx hb dX12_takesItem_76 (by decide) (fun c76 => ?_) (fun c76 => ?_)
        · have h := av_it c76 h
          exact tX12_takesItem_83 E X h hR (lv_sub hl [] rfl)
        · have h := av_if c76 h
          refine lv_iconst (v := 1) hx hb dX12_takesItem_79 rfl ?_
          refine lv_goto (tgt := 84) hx hb dX12_takesItem_80 (by decide) ?_
          exact av_rz E hR rfl (av_r2 h) dX12_takesItem_84
    · have h := av_if c43 h
      refine lv_aload_n hx hb dX12_takesItem_46 rfl (lv_at hl 0 rfl) ?_
      refine lv_iconst (v := 1) hx hb dX12_takesItem_47 rfl ?_
      obtain ⟨r48, μ48, er48, h⟩ := av_bd2 h
      refine av_goI hR (av_cV (As := [.int 1]) (rest := []) E X hR hl.1 (CX12_takesLedge l g er48) kk_X12_296 (av_room (by omega) (by decide)) av_t98 (by decide) rfl rfl (Nat.le_of_ble_eq_true rfl) ⟨Nat.zero_le _, Nat.zero_le _⟩ dX12_takesItem_48) (fun H locs hR => ?_)
      obtain ⟨z51, ez51, h⟩ := av_bd h
      obtain ⟨rfl, hn51⟩ := av_z_e ez51
      exact av_rz E hR hn51 (av_r2 h) dX12_takesItem_51
  · have h := av_if c17 h
    refine lv_aload_n hx hb dX12_takesItem_20 rfl (lv_at hl 0 rfl) ?_
    refine lv_iconst (v := 0) hx hb dX12_takesItem_21 rfl ?_
    obtain ⟨r22, μ22, er22, h⟩ := av_bd2 h
    refine av_goI hR (av_cV (As := [.int 0]) (rest := []) E X hR hl.1 (CX12_takesLedge l g er22) kk_X12_296 (av_room (by omega) (by decide)) av_t98 (by decide) rfl rfl (Nat.le_of_ble_eq_true rfl) ⟨Nat.zero_le _, Nat.zero_le _⟩ dX12_takesItem_22) (fun H locs hR => ?_)
    obtain ⟨z25, ez25, h⟩ := av_bd h
    obtain ⟨rfl, hn25⟩ := av_z_e ez25
    exact av_rz E hR hn25 (av_r2 h) dX12_takesItem_25

set_option maxHeartbeats 4000000 in
set_option maxRecDepth 100000 in
theorem tX12_read_112 {p : Program} {l : Launch} {e : Env} {s : State} {m : MethodId} {args : Array Value} {below : List Frame} {meth : Method} {c : Code} {g : Gl} {zr : Int32} {zm : Mem} (E : av_E p s m args meth c cX12_read RX12 3 (some .int)) (X : av_X av_wm g s) :
    ∀ (n : Nat) {x1 : Int32} {x2 : Int32} {μ : Mem} {H : Heap} {locs : List Loc} {ls : Array Slot}, fX12_read_112 n x1 x2 μ = some (zr, zm) → av_R av_wm g μ s H locs → lv_has ls 3 [(0, .ref (g.2.2 98)), (1, .int x1), (2, .int x2)] → W p l e (rmN 8) s m args below meth c H locs 0 0 (MQ below (va_Qi (fun r1 u => r1 = zr ∧ u = zm) (av_B av_wm g) (av_A av_wm g)) args s 0 0 (av_A av_wm g)) (F0 m 112 ls []) := by
  obtain ⟨hx, hb, hr, hml, hown, hts, hlocks⟩ := id E
  intro n
  induction n with
  | zero =>
    intro x1 x2 μ H locs ls h hR hl
    cases h
  | succ n ih =>
    intro x1 x2 μ H locs ls h hR hl
    unfold fX12_read_112 at h
    refine lv_iload_n hx hb dX12_read_112 rfl (lv_at hl 2 rfl) ?_
    refine lv_bipush (v := 69) hx hb dX12_read_113 rfl ?_
    refine lv_icmp_ge (tgt := 136) hx hb dX12_read_115 (by decide) (fun c115 => ?_) (fun c115 => ?_)
    · have h := av_it c115 h
      refine lv_iload_n hx hb dX12_read_136 rfl (lv_at hl 1 rfl) ?_
      exact av_ri E hR (av_r2 h) dX12_read_137
    · have h := av_if c115 h
      refine lv_aload_n hx hb dX12_read_118 rfl (lv_at hl 0 rfl) ?_
      refine gf_X12_7 E X hR av_t98 dX12_read_119 av_r98_0 ?_
      refine lv_iload_n hx hb dX12_read_122 rfl (lv_at hl 2 rfl) ?_
      refine lv_aload_n hx hb dX12_read_123 rfl (lv_at hl 0 rfl) ?_
      refine gf_X12_54 E X hR av_t98 dX12_read_124 av_r98_27 ?_
      refine lv_iload_n hx hb dX12_read_127 rfl (lv_at hl 2 rfl) ?_
      obtain ⟨r128, er128, h⟩ := av_bd h
      refine av_il E X hR av_t112 er128 dX12_read_128 ?_
      obtain ⟨μ129, eμ129, h⟩ := av_bd h
      refine av_is E X hR av_t99 eμ129 dX12_read_129 (fun H locs hR => ?_)
      obtain ⟨x2_130, ex2_130, h⟩ := av_bd h
      replace ex2_130 := Option.some.inj ex2_130
      refine lv_iinc (v := x2_130) (lv' := [(2, .int x2_130), (0, .ref (g.2.2 98)), (1, .int x1)]) hx hb dX12_read_130 hl (k := 2) rfl ex2_130 (by decide) rfl (fun ls hl => ?_)
      refine lv_goto (tgt := 112) hx hb dX12_read_133 (by decide) ?_
      exact ih h hR (lv_sub hl [1, 2, 0] rfl)

set_option maxHeartbeats 4000000 in
set_option maxRecDepth 100000 in
theorem tX12_read_92 {p : Program} {l : Launch} {e : Env} {s : State} {m : MethodId} {args : Array Value} {below : List Frame} {meth : Method} {c : Code} {g : Gl} {zr : Int32} {zm : Mem} (E : av_E p s m args meth c cX12_read RX12 3 (some .int)) (X : av_X av_wm g s) :
    ∀ {μ : Mem} {H : Heap} {locs : List Loc} {ls : Array Slot}, fX12_read_92 μ = some (zr, zm) → av_R av_wm g μ s H locs → lv_has ls 3 [(0, .ref (g.2.2 98))] → W p l e (rmN 8) s m args below meth c H locs 0 0 (MQ below (va_Qi (fun r1 u => r1 = zr ∧ u = zm) (av_B av_wm g) (av_A av_wm g)) args s 0 0 (av_A av_wm g)) (F0 m 92 ls []) := by
  obtain ⟨hx, hb, hr, hml, hown, hts, hlocks⟩ := id E
  intro μ H locs ls h hR hl
  unfold fX12_read_92 at h
  refine lv_bipush (v := (-10)) hx hb dX12_read_92 rfl ?_
  refine lv_aload_n hx hb dX12_read_94 rfl (lv_at hl 0 rfl) ?_
  refine gf_X12_264 E X hR av_t98 dX12_read_95 ?_
  refine lv_isub hx hb dX12_read_98 ?_
  exact av_ri E hR (av_r2 h) dX12_read_99

set_option maxHeartbeats 4000000 in
set_option maxRecDepth 100000 in
theorem tX12_read_70 {p : Program} {l : Launch} {e : Env} {s : State} {m : MethodId} {args : Array Value} {below : List Frame} {meth : Method} {c : Code} {g : Gl} {zr : Int32} {zm : Mem} (E : av_E p s m args meth c cX12_read RX12 3 (some .int)) (X : av_X av_wm g s) :
    ∀ (n : Nat) {x1 : Int32} {μ : Mem} {H : Heap} {locs : List Loc} {ls : Array Slot}, fX12_read_70 n x1 μ = some (zr, zm) → av_R av_wm g μ s H locs → lv_has ls 3 [(0, .ref (g.2.2 98)), (1, .int x1)] → W p l e (rmN 8) s m args below meth c H locs 0 0 (MQ below (va_Qi (fun r1 u => r1 = zr ∧ u = zm) (av_B av_wm g) (av_A av_wm g)) args s 0 0 (av_A av_wm g)) (F0 m 70 ls []) := by
  obtain ⟨hx, hb, hr, hml, hown, hts, hlocks⟩ := id E
  intro n
  induction n with
  | zero =>
    intro x1 μ H locs ls h hR hl
    cases h
  | succ n ih =>
    intro x1 μ H locs ls h hR hl
    unfold fX12_read_70 at h
    refine lv_aload_n hx hb dX12_read_70 rfl (lv_at hl 0 rfl) ?_
    refine gf_X12_270 E X hR av_t98 dX12_read_71 ?_
    refine lv_if_eq (tgt := 110) hx hb dX12_read_74 (by decide) (fun c74 => ?_) (fun c74 => ?_)
    · have h := av_it c74 h
      refine lv_iconst (v := 0) hx hb dX12_read_110 rfl ?_
      refine lv_istore_n (lv' := [(2, .int 0), (0, .ref (g.2.2 98)), (1, .int x1)]) hx hb dX12_read_111 rfl hl (by decide) rfl (fun ls hl => ?_)
      exact tX12_read_112 E X _ h hR (lv_sub hl [1, 2, 0] rfl)
    · have h := av_if c74 h
      refine lv_aload_n hx hb dX12_read_77 rfl (lv_at hl 0 rfl) ?_
      obtain ⟨r78, μ78, er78, h⟩ := av_bd2 h
      refine av_goI hR (av_cV (As := []) (rest := []) E X hR hl.1 (CX12_takesItem l g er78) kk_X12_303 (av_room (by omega) (by decide)) av_t98 (by decide) rfl rfl (Nat.le_of_ble_eq_true rfl) ⟨Nat.zero_le _, Nat.zero_le _⟩ dX12_read_78) (fun H locs hR => ?_)
      refine lv_if_eq (tgt := 92) hx hb dX12_read_81 (by decide) (fun c81 => ?_) (fun c81 => ?_)
      · have h := av_it c81 h
        exact tX12_read_92 E X h hR (lv_sub hl [0] rfl)
      · have h := av_if c81 h
        refine lv_aload_n hx hb dX12_read_84 rfl (lv_at hl 0 rfl) ?_
        refine gf_X12_270 E X hR av_t98 dX12_read_85 ?_
        refine lv_iconst (v := 3) hx hb dX12_read_88 rfl ?_
        refine lv_icmp_eq (tgt := 100) hx hb dX12_read_89 (by decide) (fun c89 => ?_) (fun c89 => ?_)
        · have h := av_it c89 h
          refine lv_aload_n hx hb dX12_read_100 rfl (lv_at hl 0 rfl) ?_
          obtain ⟨μ101, eμ101, h⟩ := av_bd h
          refine av_goV hR (av_cV (As := []) (rest := []) E X hR hl.1 (CX12_goBehind l g eμ101) kk_X12_285 (av_room (by omega) (by decide)) av_t98 (by decide) rfl rfl (Nat.le_of_ble_eq_true rfl) ⟨Nat.zero_le _, Nat.zero_le _⟩ dX12_read_101) (fun H locs hR => ?_)
          obtain ⟨x1_104, ex1_104, h⟩ := av_bd h
          replace ex1_104 := Option.some.inj ex1_104
          refine lv_iinc (v := x1_104) (lv' := [(1, .int x1_104), (0, .ref (g.2.2 98))]) hx hb dX12_read_104 hl (k := 1) rfl ex1_104 (by decide) rfl (fun ls hl => ?_)
          refine lv_goto (tgt := 70) hx hb dX12_read_107 (by decide) ?_
          exact ih h hR (lv_sub hl [1, 0] rfl)
        · have h := av_if c89 h
          exact tX12_read_92 E X h hR (lv_sub hl [0] rfl)

set_option maxHeartbeats 4000000 in
set_option maxRecDepth 100000 in
theorem CX12_read (l : Launch) (g : Gl) {μ : Mem} {zr : Int32} {zm : Mem} (h : fX12_read μ = some (zr, zm)) : av_MI l yX12_read cX12_read 3 8 (some .int) av_wm g [.ref (g.2.2 98)] μ zr zm := by
  refine av_ent (own := RX12) (by decide) (Nat.le_of_ble_eq_true rfl) rfl (fun p e s m args below meth c E X hR ls hl => ?_)
  have hl : lv_has ls 3 [(0, .ref (g.2.2 98))] := hl
  obtain ⟨hx, hb, hr, hml, hown, hts, hlocks⟩ := id E
  unfold fX12_read at h
  refine lv_aload_n hx hb dX12_read_0 rfl (lv_at hl 0 rfl) ?_
  refine lv_iconst (v := 0) hx hb dX12_read_1 rfl ?_
  obtain ⟨μ2, eμ2, h⟩ := av_bd h
  refine av_goV hR (av_cV (As := [.int 0]) (rest := []) E X hR hl.1 (CX12_lookAt l g eμ2) kk_X12_282 (av_room (by omega) (by decide)) av_t98 (by decide) rfl rfl (Nat.le_of_ble_eq_true rfl) ⟨Nat.zero_le _, Nat.zero_le _⟩ dX12_read_2) (fun H locs hR => ?_)
  refine lv_aload_n hx hb dX12_read_5 rfl (lv_at hl 0 rfl) ?_
  refine lv_bipush (v := 8) hx hb dX12_read_6 rfl ?_
  refine lv_bipush (v := 109) hx hb dX12_read_8 rfl ?_
  refine lv_bipush (v := 111) hx hb dX12_read_10 rfl ?_
  refine lv_bipush (v := 117) hx hb dX12_read_12 rfl ?_
  refine lv_bipush (v := 110) hx hb dX12_read_14 rfl ?_
  refine lv_bipush (v := 116) hx hb dX12_read_16 rfl ?_
  refine lv_bipush (v := 97) hx hb dX12_read_18 rfl ?_
  refine lv_sipush (v := 13550) hx hb dX12_read_20 rfl ?_
  obtain ⟨r23, er23, h⟩ := av_bd h
  refine av_goI hR (av_cV (As := [.int 8, .int 109, .int 111, .int 117, .int 110, .int 116, .int 97, .int 13550]) (rest := []) E X hR hl.1 (CX12_isWord l g er23) kk_X12_292 (av_room (by omega) (by decide)) av_t98 (by decide) rfl rfl (Nat.le_of_ble_eq_true rfl) ⟨Nat.zero_le _, Nat.zero_le _⟩ dX12_read_23) (fun H locs hR => ?_)
  refine lv_if_ne (tgt := 37) hx hb dX12_read_26 (by decide) (fun c26 => ?_) (fun c26 => ?_)
  · have h := av_if c26 h
    refine lv_aload_n hx hb dX12_read_37 rfl (lv_at hl 0 rfl) ?_
    obtain ⟨μ38, eμ38, h⟩ := av_bd h
    refine av_goV hR (av_cV (As := []) (rest := []) E X hR hl.1 (CX12_goBehind l g eμ38) kk_X12_285 (av_room (by omega) (by decide)) av_t98 (by decide) rfl rfl (Nat.le_of_ble_eq_true rfl) ⟨Nat.zero_le _, Nat.zero_le _⟩ dX12_read_38) (fun H locs hR => ?_)
    refine lv_aload_n hx hb dX12_read_41 rfl (lv_at hl 0 rfl) ?_
    refine gf_X12_270 E X hR av_t98 dX12_read_42 ?_
    refine lv_iconst (v := 3) hx hb dX12_read_45 rfl ?_
    refine lv_icmp_eq (tgt := 57) hx hb dX12_read_46 (by decide) (fun c46 => ?_) (fun c46 => ?_)
    · have h := av_it c46 h
      refine lv_aload_n hx hb dX12_read_57 rfl (lv_at hl 0 rfl) ?_
      obtain ⟨μ58, eμ58, h⟩ := av_bd h
      refine av_goV hR (av_cV (As := []) (rest := []) E X hR hl.1 (CX12_goBehind l g eμ58) kk_X12_285 (av_room (by omega) (by decide)) av_t98 (by decide) rfl rfl (Nat.le_of_ble_eq_true rfl) ⟨Nat.zero_le _, Nat.zero_le _⟩ dX12_read_58) (fun H locs hR => ?_)
      refine lv_aload_n hx hb dX12_read_61 rfl (lv_at hl 0 rfl) ?_
      refine gf_X12_54 E X hR av_t98 dX12_read_62 av_r98_27 ?_
      obtain ⟨μ65, eμ65, h⟩ := av_bd h
      refine av_goV hR (av_cS (As := [.ref (g.2.2 112)]) (rest := []) E X hR hl.1 (CX12_begin l g av_t112 eμ65) kk_X12_60 (av_room (by omega) (by decide)) rfl (Nat.le_of_ble_eq_true rfl) ⟨Nat.zero_le _, Nat.zero_le _⟩ dX12_read_65) (fun H locs hR => ?_)
      refine lv_iconst (v := 1) hx hb dX12_read_68 rfl ?_
      refine lv_istore_n (lv' := [(1, .int 1), (0, .ref (g.2.2 98))]) hx hb dX12_read_69 rfl hl (by decide) rfl (fun ls hl => ?_)
      exact tX12_read_70 E X _ h hR (lv_sub hl [1, 0] rfl)
    · have h := av_if c46 h
      refine lv_bipush (v := (-10)) hx hb dX12_read_49 rfl ?_
      refine lv_aload_n hx hb dX12_read_51 rfl (lv_at hl 0 rfl) ?_
      refine gf_X12_264 E X hR av_t98 dX12_read_52 ?_
      refine lv_isub hx hb dX12_read_55 ?_
      exact av_ri E hR (av_r2 h) dX12_read_56
  · have h := av_it c26 h
    refine lv_bipush (v := (-10)) hx hb dX12_read_29 rfl ?_
    refine lv_aload_n hx hb dX12_read_31 rfl (lv_at hl 0 rfl) ?_
    refine gf_X12_264 E X hR av_t98 dX12_read_32 ?_
    refine lv_isub hx hb dX12_read_35 ?_
    exact av_ri E hR (av_r2 h) dX12_read_36

set_option maxHeartbeats 4000000 in
set_option maxRecDepth 100000 in
theorem CX12_part (l : Launch) (g : Gl) {a1 : Int32} {μ : Mem} {zr : Int64} {zm : Mem} (h : fX12_part a1 μ = some (zr, zm)) : av_ML l yX12_part cX12_part 2 2 (some .long) av_wm g [.ref (g.2.2 98), .int a1] μ zr zm := by
  refine av_ent (own := RX12) (by decide) (Nat.le_of_ble_eq_true rfl) rfl (fun p e s m args below meth c E X hR ls hl => ?_)
  have hl : lv_has ls 2 [(0, .ref (g.2.2 98)), (1, .int a1)] := hl
  obtain ⟨hx, hb, hr, hml, hown, hts, hlocks⟩ := id E
  unfold fX12_part at h
  refine lv_iload_n hx hb dX12_part_0 rfl (lv_at hl 1 rfl) ?_
  refine lv_if_ne (tgt := 11) hx hb dX12_part_1 (by decide) (fun c1 => ?_) (fun c1 => ?_)
  · have h := av_if c1 h
    refine lv_iload_n hx hb dX12_part_11 rfl (lv_at hl 1 rfl) ?_
    refine lv_iconst (v := 1) hx hb dX12_part_12 rfl ?_
    refine lv_icmp_ne (tgt := 23) hx hb dX12_part_13 (by decide) (fun c13 => ?_) (fun c13 => ?_)
    · have h := av_if c13 h
      refine lv_aload_n hx hb dX12_part_23 rfl (lv_at hl 0 rfl) ?_
      refine lv_bipush (v := (-2)) hx hb dX12_part_24 rfl ?_
      obtain ⟨r26, μ26, er26, h⟩ := av_bd2 h
      refine av_goI hR (av_cV (As := [.int (-2)]) (rest := []) E X hR hl.1 (CX12_bad l g er26) kk_X12_81 (av_room (by omega) (by decide)) av_t98 (by decide) rfl rfl (Nat.le_of_ble_eq_true rfl) ⟨Nat.zero_le _, Nat.zero_le _⟩ dX12_part_26) (fun H locs hR => ?_)
      refine lv_i2l hx hb dX12_part_29 rfl ?_
      exact av_rl E hR (av_r2 h) dX12_part_30
    · have h := av_it c13 h
      refine lv_aload_n hx hb dX12_part_16 rfl (lv_at hl 0 rfl) ?_
      refine gf_X12_23 E X hR av_t98 dX12_part_17 ?_
      refine lv_goto (tgt := 30) hx hb dX12_part_20 (by decide) ?_
      exact av_rl E hR (av_r2 h) dX12_part_30
  · have h := av_it c1 h
    refine lv_aload_n hx hb dX12_part_4 rfl (lv_at hl 0 rfl) ?_
    refine gf_X12_228 E X hR av_t98 dX12_part_5 ?_
    refine lv_goto (tgt := 30) hx hb dX12_part_8 (by decide) ?_
    exact av_rl E hR (av_r2 h) dX12_part_30

set_option maxHeartbeats 4000000 in
set_option maxRecDepth 100000 in
theorem tX12_image_19 {p : Program} {l : Launch} {e : Env} {s : State} {m : MethodId} {args : Array Value} {below : List Frame} {meth : Method} {c : Code} {g : Gl} {zr : Int32} {zm : Mem} (E : av_E p s m args meth c cX12_image RX12 3 (some .int)) (X : av_X av_wm g s) :
    ∀ (n : Nat) {x1 : Int32} {x2 : Int32} {μ : Mem} {H : Heap} {locs : List Loc} {ls : Array Slot}, fX12_image_19 n x1 x2 μ = some (zr, zm) → av_R av_wm g μ s H locs → lv_has ls 3 [(0, .ref (g.2.2 98)), (1, .int x1), (2, .int x2)] → W p l e (rmN 2) s m args below meth c H locs 0 0 (MQ below (va_Qi (fun r1 u => r1 = zr ∧ u = zm) (av_B av_wm g) (av_A av_wm g)) args s 0 0 (av_A av_wm g)) (F0 m 19 ls []) := by
  obtain ⟨hx, hb, hr, hml, hown, hts, hlocks⟩ := id E
  intro n
  induction n with
  | zero =>
    intro x1 x2 μ H locs ls h hR hl
    cases h
  | succ n ih =>
    intro x1 x2 μ H locs ls h hR hl
    unfold fX12_image_19 at h
    refine lv_iload_n hx hb dX12_image_19 rfl (lv_at hl 2 rfl) ?_
    refine lv_sipush (v := 221) hx hb dX12_image_20 rfl ?_
    refine lv_icmp_ge (tgt := 50) hx hb dX12_image_23 (by decide) (fun c23 => ?_) (fun c23 => ?_)
    · have h := av_it c23 h
      refine lv_aload_n hx hb dX12_image_50 rfl (lv_at hl 0 rfl) ?_
      refine gf_X12_16 E X hR av_t98 dX12_image_51 av_r98_2 ?_
      refine lv_iload_n hx hb dX12_image_54 rfl (lv_at hl 1 rfl) ?_
      refine lv_iconst (v := 1) hx hb dX12_image_55 rfl ?_
      obtain ⟨μ56, eμ56, h⟩ := av_bd h
      refine av_zs E X hR av_t101 eμ56 dX12_image_56 (fun H locs hR => ?_)
      refine lv_iconst (v := 1) hx hb dX12_image_57 rfl ?_
      exact av_ri E hR (av_r2 h) dX12_image_58
    · have h := av_if c23 h
      refine lv_aload_n hx hb dX12_image_26 rfl (lv_at hl 0 rfl) ?_
      refine gf_X12_13 E X hR av_t98 dX12_image_27 av_r98_1 ?_
      refine lv_sipush (v := 221) hx hb dX12_image_30 rfl ?_
      refine lv_iload_n hx hb dX12_image_33 rfl (lv_at hl 1 rfl) ?_
      refine lv_imul hx hb dX12_image_34 ?_
      refine lv_iload_n hx hb dX12_image_35 rfl (lv_at hl 2 rfl) ?_
      refine lv_iadd hx hb dX12_image_36 ?_
      refine lv_aload_n hx hb dX12_image_37 rfl (lv_at hl 0 rfl) ?_
      refine gf_X12_7 E X hR av_t98 dX12_image_38 av_r98_0 ?_
      refine lv_iload_n hx hb dX12_image_41 rfl (lv_at hl 2 rfl) ?_
      obtain ⟨r42, er42, h⟩ := av_bd h
      refine av_il E X hR av_t99 er42 dX12_image_42 ?_
      obtain ⟨μ43, eμ43, h⟩ := av_bd h
      refine av_is E X hR av_t100 eμ43 dX12_image_43 (fun H locs hR => ?_)
      obtain ⟨x2_44, ex2_44, h⟩ := av_bd h
      replace ex2_44 := Option.some.inj ex2_44
      refine lv_iinc (v := x2_44) (lv' := [(2, .int x2_44), (0, .ref (g.2.2 98)), (1, .int x1)]) hx hb dX12_image_44 hl (k := 2) rfl ex2_44 (by decide) rfl (fun ls hl => ?_)
      refine lv_goto (tgt := 19) hx hb dX12_image_47 (by decide) ?_
      exact ih h hR (lv_sub hl [1, 2, 0] rfl)

set_option maxHeartbeats 4000000 in
set_option maxRecDepth 100000 in
theorem CX12_image (l : Launch) (g : Gl) {a1 : Int32} {μ : Mem} {zr : Int32} {zm : Mem} (h : fX12_image a1 μ = some (zr, zm)) : av_MI l yX12_image cX12_image 3 2 (some .int) av_wm g [.ref (g.2.2 98), .int a1] μ zr zm := by
  refine av_ent (own := RX12) (by decide) (Nat.le_of_ble_eq_true rfl) rfl (fun p e s m args below meth c E X hR ls hl => ?_)
  have hl : lv_has ls 3 [(0, .ref (g.2.2 98)), (1, .int a1)] := hl
  obtain ⟨hx, hb, hr, hml, hown, hts, hlocks⟩ := id E
  unfold fX12_image at h
  refine lv_iload_n hx hb dX12_image_0 rfl (lv_at hl 1 rfl) ?_
  refine lv_i2l hx hb dX12_image_1 rfl ?_
  refine lv_lconst (v := 0) hx hb dX12_image_2 rfl ?_
  refine lv_lconst (v := 1) hx hb dX12_image_3 rfl ?_
  obtain ⟨r4, er4, h⟩ := av_bd h
  refine av_goI hR (av_cS (As := [.long (Int32.toInt64 a1), .long 0, .long 1]) (rest := []) E X hR hl.1 (CX12_in l g er4) kk_X12_68 (av_room (by omega) (by decide)) rfl (Nat.le_of_ble_eq_true rfl) ⟨Nat.zero_le _, Nat.zero_le _⟩ dX12_image_4) (fun H locs hR => ?_)
  refine lv_if_ne (tgt := 17) hx hb dX12_image_7 (by decide) (fun c7 => ?_) (fun c7 => ?_)
  · have h := av_if c7 h
    refine lv_iconst (v := 0) hx hb dX12_image_17 rfl ?_
    refine lv_istore_n (lv' := [(2, .int 0), (0, .ref (g.2.2 98)), (1, .int a1)]) hx hb dX12_image_18 rfl hl (by decide) rfl (fun ls hl => ?_)
    exact tX12_image_19 E X _ h hR (lv_sub hl [1, 2, 0] rfl)
  · have h := av_it c7 h
    refine lv_aload_n hx hb dX12_image_10 rfl (lv_at hl 0 rfl) ?_
    refine lv_bipush (v := (-2)) hx hb dX12_image_11 rfl ?_
    obtain ⟨r13, μ13, er13, h⟩ := av_bd2 h
    refine av_goI hR (av_cV (As := [.int (-2)]) (rest := []) E X hR hl.1 (CX12_bad l g er13) kk_X12_81 (av_room (by omega) (by decide)) av_t98 (by decide) rfl rfl (Nat.le_of_ble_eq_true rfl) ⟨Nat.zero_le _, Nat.zero_le _⟩ dX12_image_13) (fun H locs hR => ?_)
    exact av_ri E hR (av_r2 h) dX12_image_16

set_option maxHeartbeats 4000000 in
set_option maxRecDepth 100000 in
theorem tX12_from_33 {p : Program} {l : Launch} {e : Env} {s : State} {m : MethodId} {args : Array Value} {below : List Frame} {meth : Method} {c : Code} {g : Gl} {zr : Int32} {zm : Mem} (E : av_E p s m args meth c cX12_from RX12 3 (some .int)) (X : av_X av_wm g s) :
    ∀ (n : Nat) {x1 : Int32} {x2 : Int32} {μ : Mem} {H : Heap} {locs : List Loc} {ls : Array Slot}, fX12_from_33 n x1 x2 μ = some (zr, zm) → av_R av_wm g μ s H locs → lv_has ls 3 [(0, .ref (g.2.2 98)), (1, .int x1), (2, .int x2)] → W p l e (rmN 2) s m args below meth c H locs 0 0 (MQ below (va_Qi (fun r1 u => r1 = zr ∧ u = zm) (av_B av_wm g) (av_A av_wm g)) args s 0 0 (av_A av_wm g)) (F0 m 33 ls []) := by
  obtain ⟨hx, hb, hr, hml, hown, hts, hlocks⟩ := id E
  intro n
  induction n with
  | zero =>
    intro x1 x2 μ H locs ls h hR hl
    cases h
  | succ n ih =>
    intro x1 x2 μ H locs ls h hR hl
    unfold fX12_from_33 at h
    refine lv_iload_n hx hb dX12_from_33 rfl (lv_at hl 2 rfl) ?_
    refine lv_sipush (v := 221) hx hb dX12_from_34 rfl ?_
    refine lv_icmp_ge (tgt := 64) hx hb dX12_from_37 (by decide) (fun c37 => ?_) (fun c37 => ?_)
    · have h := av_it c37 h
      refine lv_iconst (v := 1) hx hb dX12_from_64 rfl ?_
      exact av_ri E hR (av_r2 h) dX12_from_65
    · have h := av_if c37 h
      refine lv_aload_n hx hb dX12_from_40 rfl (lv_at hl 0 rfl) ?_
      refine gf_X12_7 E X hR av_t98 dX12_from_41 av_r98_0 ?_
      refine lv_iload_n hx hb dX12_from_44 rfl (lv_at hl 2 rfl) ?_
      refine lv_aload_n hx hb dX12_from_45 rfl (lv_at hl 0 rfl) ?_
      refine gf_X12_13 E X hR av_t98 dX12_from_46 av_r98_1 ?_
      refine lv_sipush (v := 221) hx hb dX12_from_49 rfl ?_
      refine lv_iload_n hx hb dX12_from_52 rfl (lv_at hl 1 rfl) ?_
      refine lv_imul hx hb dX12_from_53 ?_
      refine lv_iload_n hx hb dX12_from_54 rfl (lv_at hl 2 rfl) ?_
      refine lv_iadd hx hb dX12_from_55 ?_
      obtain ⟨r56, er56, h⟩ := av_bd h
      refine av_il E X hR av_t100 er56 dX12_from_56 ?_
      obtain ⟨μ57, eμ57, h⟩ := av_bd h
      refine av_is E X hR av_t99 eμ57 dX12_from_57 (fun H locs hR => ?_)
      obtain ⟨x2_58, ex2_58, h⟩ := av_bd h
      replace ex2_58 := Option.some.inj ex2_58
      refine lv_iinc (v := x2_58) (lv' := [(2, .int x2_58), (0, .ref (g.2.2 98)), (1, .int x1)]) hx hb dX12_from_58 hl (k := 2) rfl ex2_58 (by decide) rfl (fun ls hl => ?_)
      refine lv_goto (tgt := 33) hx hb dX12_from_61 (by decide) ?_
      exact ih h hR (lv_sub hl [1, 2, 0] rfl)

set_option maxHeartbeats 4000000 in
set_option maxRecDepth 100000 in
theorem CX12_from (l : Launch) (g : Gl) {a1 : Int32} {μ : Mem} {zr : Int32} {zm : Mem} (h : fX12_from a1 μ = some (zr, zm)) : av_MI l yX12_from cX12_from 3 2 (some .int) av_wm g [.ref (g.2.2 98), .int a1] μ zr zm := by
  refine av_ent (own := RX12) (by decide) (Nat.le_of_ble_eq_true rfl) rfl (fun p e s m args below meth c E X hR ls hl => ?_)
  have hl : lv_has ls 3 [(0, .ref (g.2.2 98)), (1, .int a1)] := hl
  obtain ⟨hx, hb, hr, hml, hown, hts, hlocks⟩ := id E
  unfold fX12_from at h
  refine lv_iload_n hx hb dX12_from_0 rfl (lv_at hl 1 rfl) ?_
  refine lv_i2l hx hb dX12_from_1 rfl ?_
  refine lv_lconst (v := 0) hx hb dX12_from_2 rfl ?_
  refine lv_lconst (v := 1) hx hb dX12_from_3 rfl ?_
  obtain ⟨r4, er4, h⟩ := av_bd h
  refine av_goI hR (av_cS (As := [.long (Int32.toInt64 a1), .long 0, .long 1]) (rest := []) E X hR hl.1 (CX12_in l g er4) kk_X12_68 (av_room (by omega) (by decide)) rfl (Nat.le_of_ble_eq_true rfl) ⟨Nat.zero_le _, Nat.zero_le _⟩ dX12_from_4) (fun H locs hR => ?_)
  refine lv_if_ne (tgt := 17) hx hb dX12_from_7 (by decide) (fun c7 => ?_) (fun c7 => ?_)
  · have h := av_if c7 h
    refine lv_aload_n hx hb dX12_from_17 rfl (lv_at hl 0 rfl) ?_
    refine gf_X12_16 E X hR av_t98 dX12_from_18 av_r98_2 ?_
    refine lv_iload_n hx hb dX12_from_21 rfl (lv_at hl 1 rfl) ?_
    obtain ⟨r22, er22, h⟩ := av_bd h
    refine av_zl E X hR av_t101 er22 dX12_from_22 ?_
    refine lv_if_ne (tgt := 31) hx hb dX12_from_23 (by decide) (fun c23 => ?_) (fun c23 => ?_)
    · have h := av_if c23 h
      refine lv_iconst (v := 0) hx hb dX12_from_31 rfl ?_
      refine lv_istore_n (lv' := [(2, .int 0), (0, .ref (g.2.2 98)), (1, .int a1)]) hx hb dX12_from_32 rfl hl (by decide) rfl (fun ls hl => ?_)
      exact tX12_from_33 E X _ h hR (lv_sub hl [1, 2, 0] rfl)
    · have h := av_it c23 h
      refine lv_aload_n hx hb dX12_from_26 rfl (lv_at hl 0 rfl) ?_
      obtain ⟨r27, μ27, er27, h⟩ := av_bd2 h
      refine av_goI hR (av_cV (As := []) (rest := []) E X hR hl.1 (CX12_no l g er27) kk_X12_173 (av_room (by omega) (by decide)) av_t98 (by decide) rfl rfl (Nat.le_of_ble_eq_true rfl) ⟨Nat.zero_le _, Nat.zero_le _⟩ dX12_from_27) (fun H locs hR => ?_)
      exact av_ri E hR (av_r2 h) dX12_from_30
  · have h := av_it c7 h
    refine lv_aload_n hx hb dX12_from_10 rfl (lv_at hl 0 rfl) ?_
    refine lv_bipush (v := (-2)) hx hb dX12_from_11 rfl ?_
    obtain ⟨r13, μ13, er13, h⟩ := av_bd2 h
    refine av_goI hR (av_cV (As := [.int (-2)]) (rest := []) E X hR hl.1 (CX12_bad l g er13) kk_X12_81 (av_room (by omega) (by decide)) av_t98 (by decide) rfl rfl (Nat.le_of_ble_eq_true rfl) ⟨Nat.zero_le _, Nat.zero_le _⟩ dX12_from_13) (fun H locs hR => ?_)
    exact av_ri E hR (av_r2 h) dX12_from_16

set_option maxHeartbeats 4000000 in
set_option maxRecDepth 100000 in
theorem CX12_status (l : Launch) (g : Gl) {a1 : Int32} {μ : Mem} {zr : Int32} {zm : Mem} (h : fX12_status a1 μ = some (zr, zm)) : av_MI l yX12_status cX12_status 2 2 (some .int) av_wm g [.ref (g.2.2 98), .int a1] μ zr zm := by
  refine av_ent (own := RX12) (by decide) (Nat.le_of_ble_eq_true rfl) rfl (fun p e s m args below meth c E X hR ls hl => ?_)
  have hl : lv_has ls 2 [(0, .ref (g.2.2 98)), (1, .int a1)] := hl
  obtain ⟨hx, hb, hr, hml, hown, hts, hlocks⟩ := id E
  unfold fX12_status at h
  refine lv_iload_n hx hb dX12_status_0 rfl (lv_at hl 1 rfl) ?_
  refine lv_i2l hx hb dX12_status_1 rfl ?_
  refine lv_lconst (v := 0) hx hb dX12_status_2 rfl ?_
  refine lv_ldc2 (v := 2) hx hb hown (hts _ kL_X12_306) dX12_status_3 ?_
  obtain ⟨r6, er6, h⟩ := av_bd h
  refine av_goI hR (av_cS (As := [.long (Int32.toInt64 a1), .long 0, .long 2]) (rest := []) E X hR hl.1 (CX12_in l g er6) kk_X12_68 (av_room (by omega) (by decide)) rfl (Nat.le_of_ble_eq_true rfl) ⟨Nat.zero_le _, Nat.zero_le _⟩ dX12_status_6) (fun H locs hR => ?_)
  refine lv_if_eq (tgt := 21) hx hb dX12_status_9 (by decide) (fun c9 => ?_) (fun c9 => ?_)
  · have h := av_it c9 h
    refine lv_aload_n hx hb dX12_status_21 rfl (lv_at hl 0 rfl) ?_
    refine lv_iconst (v := (-1)) hx hb dX12_status_22 rfl ?_
    obtain ⟨r23, μ23, er23, h⟩ := av_bd2 h
    refine av_goI hR (av_cV (As := [.int (-1)]) (rest := []) E X hR hl.1 (CX12_bad l g er23) kk_X12_81 (av_room (by omega) (by decide)) av_t98 (by decide) rfl rfl (Nat.le_of_ble_eq_true rfl) ⟨Nat.zero_le _, Nat.zero_le _⟩ dX12_status_23) (fun H locs hR => ?_)
    exact av_ri E hR (av_r2 h) dX12_status_26
  · have h := av_if c9 h
    refine lv_aload_n hx hb dX12_status_12 rfl (lv_at hl 0 rfl) ?_
    refine gf_X12_20 E X hR av_t98 dX12_status_13 av_r98_3 ?_
    refine lv_iload_n hx hb dX12_status_16 rfl (lv_at hl 1 rfl) ?_
    obtain ⟨r17, er17, h⟩ := av_bd h
    refine av_il E X hR av_t102 er17 dX12_status_17 ?_
    refine lv_goto (tgt := 26) hx hb dX12_status_18 (by decide) ?_
    exact av_ri E hR (av_r2 h) dX12_status_26

set_option maxHeartbeats 4000000 in
set_option maxRecDepth 100000 in
theorem tX12_allLoads_4 {p : Program} {l : Launch} {e : Env} {s : State} {m : MethodId} {args : Array Value} {below : List Frame} {meth : Method} {c : Code} {g : Gl} {zr : Int32} {μ0 : Mem} (E : av_E p s m args meth c cX12_allLoads RX12 3 (some .int)) (X : av_X av_wm g s) :
    ∀ (n : Nat) {x1 : Int32} {x2 : Int32} {μ : Mem} {H : Heap} {locs : List Loc} {ls : Array Slot} (hμ : μ0 = μ), fX12_allLoads_4 n x1 x2 μ = some zr → av_R av_wm g μ s H locs → lv_has ls 3 [(0, .ref (g.2.2 98)), (1, .int x1), (2, .int x2)] → W p l e (rmN 2) s m args below meth c H locs 0 0 (MQ below (va_Qi (fun r1 u => r1 = zr ∧ u = μ0) (av_B av_wm g) (av_A av_wm g)) args s 0 0 (av_A av_wm g)) (F0 m 4 ls []) := by
  obtain ⟨hx, hb, hr, hml, hown, hts, hlocks⟩ := id E
  intro n
  induction n with
  | zero =>
    intro x1 x2 μ H locs ls hμ h hR hl
    cases h
  | succ n ih =>
    intro x1 x2 μ H locs ls hμ h hR hl
    unfold fX12_allLoads_4 at h
    refine lv_iload_n hx hb dX12_allLoads_4 rfl (lv_at hl 2 rfl) ?_
    refine lv_aload_n hx hb dX12_allLoads_5 rfl (lv_at hl 0 rfl) ?_
    obtain ⟨r6, er6, h⟩ := av_bd h
    refine av_goI hR (av_cV (As := []) (rest := [.int x2]) E X hR hl.1 (CX12_ledges l g er6) kk_X12_64 (av_room (by omega) (by decide)) av_t98 (by decide) rfl rfl (Nat.le_of_ble_eq_true rfl) ⟨Nat.zero_le _, Nat.zero_le _⟩ dX12_allLoads_6) (fun H locs hR => ?_)
    refine lv_icmp_ge (tgt := 34) hx hb dX12_allLoads_9 (by decide) (fun c9 => ?_) (fun c9 => ?_)
    · have h := av_it c9 h
      refine lv_iload_n hx hb dX12_allLoads_34 rfl (lv_at hl 1 rfl) ?_
      exact av_ri E hR ⟨Option.some.inj h, hμ.symm⟩ dX12_allLoads_35
    · have h := av_if c9 h
      refine lv_iload_n hx hb dX12_allLoads_12 rfl (lv_at hl 1 rfl) ?_
      refine lv_aload_n hx hb dX12_allLoads_13 rfl (lv_at hl 0 rfl) ?_
      refine lv_iload_n hx hb dX12_allLoads_14 rfl (lv_at hl 2 rfl) ?_
      refine lv_iconst (v := 1) hx hb dX12_allLoads_15 rfl ?_
      obtain ⟨r16, er16, h⟩ := av_bd h
      refine av_goI hR (av_cV (As := [.int x2, .int 1]) (rest := [.int x1]) E X hR hl.1 (CX12_get l g er16) kk_X12_103 (av_room (by omega) (by decide)) av_t98 (by decide) rfl rfl (Nat.le_of_ble_eq_true rfl) ⟨Nat.zero_le _, Nat.zero_le _⟩ dX12_allLoads_16) (fun H locs hR => ?_)
      refine lv_aload_n hx hb dX12_allLoads_19 rfl (lv_at hl 0 rfl) ?_
      refine lv_iload_n hx hb dX12_allLoads_20 rfl (lv_at hl 2 rfl) ?_
      refine lv_iconst (v := 2) hx hb dX12_allLoads_21 rfl ?_
      obtain ⟨r22, er22, h⟩ := av_bd h
      refine av_goI hR (av_cV (As := [.int x2, .int 2]) (rest := [.int r16, .int x1]) E X hR hl.1 (CX12_get l g er22) kk_X12_103 (av_room (by omega) (by decide)) av_t98 (by decide) rfl rfl (Nat.le_of_ble_eq_true rfl) ⟨Nat.zero_le _, Nat.zero_le _⟩ dX12_allLoads_22) (fun H locs hR => ?_)
      refine lv_iadd hx hb dX12_allLoads_25 ?_
      refine lv_iadd hx hb dX12_allLoads_26 ?_
      obtain ⟨x1_27, ex1_27, h⟩ := av_bd h
      replace ex1_27 := Option.some.inj ex1_27
      rw [ex1_27]
      refine lv_istore_n (lv' := [(1, .int x1_27), (0, .ref (g.2.2 98)), (2, .int x2)]) hx hb dX12_allLoads_27 rfl hl (by decide) rfl (fun ls hl => ?_)
      obtain ⟨x2_28, ex2_28, h⟩ := av_bd h
      replace ex2_28 := Option.some.inj ex2_28
      refine lv_iinc (v := x2_28) (lv' := [(2, .int x2_28), (1, .int x1_27), (0, .ref (g.2.2 98))]) hx hb dX12_allLoads_28 hl (k := 2) rfl ex2_28 (by decide) rfl (fun ls hl => ?_)
      refine lv_goto (tgt := 4) hx hb dX12_allLoads_31 (by decide) ?_
      exact ih hμ h hR (lv_sub hl [2, 1, 0] rfl)

set_option maxHeartbeats 4000000 in
set_option maxRecDepth 100000 in
theorem CX12_allLoads (l : Launch) (g : Gl) {μ : Mem} {zr : Int32} (h : fX12_allLoads μ = some zr) : av_MI l yX12_allLoads cX12_allLoads 3 2 (some .int) av_wm g [.ref (g.2.2 98)] μ zr μ := by
  refine av_ent (own := RX12) (by decide) (Nat.le_of_ble_eq_true rfl) rfl (fun p e s m args below meth c E X hR ls hl => ?_)
  have hl : lv_has ls 3 [(0, .ref (g.2.2 98))] := hl
  obtain ⟨hx, hb, hr, hml, hown, hts, hlocks⟩ := id E
  have hμ : μ = μ := rfl
  unfold fX12_allLoads at h
  refine lv_iconst (v := 0) hx hb dX12_allLoads_0 rfl ?_
  refine lv_istore_n (lv' := [(1, .int 0), (0, .ref (g.2.2 98))]) hx hb dX12_allLoads_1 rfl hl (by decide) rfl (fun ls hl => ?_)
  refine lv_iconst (v := 0) hx hb dX12_allLoads_2 rfl ?_
  refine lv_istore_n (lv' := [(2, .int 0), (1, .int 0), (0, .ref (g.2.2 98))]) hx hb dX12_allLoads_3 rfl hl (by decide) rfl (fun ls hl => ?_)
  exact tX12_allLoads_4 E X _ hμ h hR (lv_sub hl [2, 1, 0] rfl)

set_option maxHeartbeats 4000000 in
set_option maxRecDepth 100000 in
theorem CX12_counted (l : Launch) (g : Gl) {a1 : Int32} {μ : Mem} {zr : Int32} (h : fX12_counted a1 μ = some zr) : av_MI l yX12_counted cX12_counted 2 3 (some .int) av_wm g [.ref (g.2.2 98), .int a1] μ zr μ := by
  refine av_ent (own := RX12) (by decide) (Nat.le_of_ble_eq_true rfl) rfl (fun p e s m args below meth c E X hR ls hl => ?_)
  have hl : lv_has ls 2 [(0, .ref (g.2.2 98)), (1, .int a1)] := hl
  obtain ⟨hx, hb, hr, hml, hown, hts, hlocks⟩ := id E
  have hμ : μ = μ := rfl
  unfold fX12_counted at h
  refine lv_iload_n hx hb dX12_counted_0 rfl (lv_at hl 1 rfl) ?_
  by_cases c1_0 : a1 = 0
  · have h := av_it c1_0 h
    refine lv_tableIn (tgt := 40) (off := 39) hx hb dX12_counted_1 (by rw [c1_0]; decide) (by rw [c1_0]; decide) (by rw [c1_0]; decide) (by decide) ?_
    refine lv_aload_n hx hb dX12_counted_40 rfl (lv_at hl 0 rfl) ?_
    obtain ⟨r41, er41, h⟩ := av_bd h
    refine av_goI hR (av_cV (As := []) (rest := []) E X hR hl.1 (CX12_ledges l g er41) kk_X12_64 (av_room (by omega) (by decide)) av_t98 (by decide) rfl rfl (Nat.le_of_ble_eq_true rfl) ⟨Nat.zero_le _, Nat.zero_le _⟩ dX12_counted_41) (fun H locs hR => ?_)
    exact av_ri E hR ⟨Option.some.inj h, hμ.symm⟩ dX12_counted_44
  have h := av_if c1_0 h
  by_cases c1_1 : a1 = 1
  · have h := av_it c1_1 h
    refine lv_tableIn (tgt := 45) (off := 44) hx hb dX12_counted_1 (by rw [c1_1]; decide) (by rw [c1_1]; decide) (by rw [c1_1]; decide) (by decide) ?_
    refine lv_aload_n hx hb dX12_counted_45 rfl (lv_at hl 0 rfl) ?_
    obtain ⟨r46, er46, h⟩ := av_bd h
    refine av_goI hR (av_cV (As := []) (rest := []) E X hR hl.1 (CX12_voters l g er46) kk_X12_72 (av_room (by omega) (by decide)) av_t98 (by decide) rfl rfl (Nat.le_of_ble_eq_true rfl) ⟨Nat.zero_le _, Nat.zero_le _⟩ dX12_counted_46) (fun H locs hR => ?_)
    exact av_ri E hR ⟨Option.some.inj h, hμ.symm⟩ dX12_counted_49
  have h := av_if c1_1 h
  by_cases c1_2 : a1 = 2
  · have h := av_it c1_2 h
    refine lv_tableIn (tgt := 50) (off := 49) hx hb dX12_counted_1 (by rw [c1_2]; decide) (by rw [c1_2]; decide) (by rw [c1_2]; decide) (by decide) ?_
    refine lv_aload_n hx hb dX12_counted_50 rfl (lv_at hl 0 rfl) ?_
    refine gf_X12_7 E X hR av_t98 dX12_counted_51 av_r98_0 ?_
    refine lv_iconst (v := 2) hx hb dX12_counted_54 rfl ?_
    obtain ⟨r55, er55, h⟩ := av_bd h
    refine av_il E X hR av_t99 er55 dX12_counted_55 ?_
    exact av_ri E hR ⟨Option.some.inj h, hμ.symm⟩ dX12_counted_56
  have h := av_if c1_2 h
  by_cases c1_3 : a1 = 3
  · have h := av_it c1_3 h
    refine lv_tableIn (tgt := 57) (off := 56) hx hb dX12_counted_1 (by rw [c1_3]; decide) (by rw [c1_3]; decide) (by rw [c1_3]; decide) (by decide) ?_
    refine lv_aload_n hx hb dX12_counted_57 rfl (lv_at hl 0 rfl) ?_
    obtain ⟨r58, er58, h⟩ := av_bd h
    refine av_goI hR (av_cV (As := []) (rest := []) E X hR hl.1 (CX12_allLoads l g er58) kk_X12_308 (av_room (by omega) (by decide)) av_t98 (by decide) rfl rfl (Nat.le_of_ble_eq_true rfl) ⟨Nat.zero_le _, Nat.zero_le _⟩ dX12_counted_58) (fun H locs hR => ?_)
    exact av_ri E hR ⟨Option.some.inj h, hμ.symm⟩ dX12_counted_61
  have h := av_if c1_3 h
  by_cases c1_4 : a1 = 4
  · have h := av_it c1_4 h
    refine lv_tableIn (tgt := 62) (off := 61) hx hb dX12_counted_1 (by rw [c1_4]; decide) (by rw [c1_4]; decide) (by rw [c1_4]; decide) (by decide) ?_
    refine lv_aload_n hx hb dX12_counted_62 rfl (lv_at hl 0 rfl) ?_
    refine gf_X12_7 E X hR av_t98 dX12_counted_63 av_r98_0 ?_
    refine lv_iconst (v := 3) hx hb dX12_counted_66 rfl ?_
    obtain ⟨r67, er67, h⟩ := av_bd h
    refine av_il E X hR av_t99 er67 dX12_counted_67 ?_
    exact av_ri E hR ⟨Option.some.inj h, hμ.symm⟩ dX12_counted_68
  have h := av_if c1_4 h
  by_cases c1_5 : a1 = 5
  · have h := av_it c1_5 h
    refine lv_tableIn (tgt := 69) (off := 68) hx hb dX12_counted_1 (by rw [c1_5]; decide) (by rw [c1_5]; decide) (by rw [c1_5]; decide) (by decide) ?_
    refine lv_aload_n hx hb dX12_counted_69 rfl (lv_at hl 0 rfl) ?_
    refine gf_X12_7 E X hR av_t98 dX12_counted_70 av_r98_0 ?_
    refine lv_iconst (v := 4) hx hb dX12_counted_73 rfl ?_
    obtain ⟨r74, er74, h⟩ := av_bd h
    refine av_il E X hR av_t99 er74 dX12_counted_74 ?_
    exact av_ri E hR ⟨Option.some.inj h, hμ.symm⟩ dX12_counted_75
  have h := av_if c1_5 h
  have n1_0 := lv_neT c1_0 (a := 0) (by decide)
  have n1_1 := lv_neT c1_1 (a := 1) (by decide)
  have n1_2 := lv_neT c1_2 (a := 2) (by decide)
  have n1_3 := lv_neT c1_3 (a := 3) (by decide)
  have n1_4 := lv_neT c1_4 (a := 4) (by decide)
  have n1_5 := lv_neT c1_5 (a := 5) (by decide)
  refine lv_tableOut (tgt := 76) hx hb dX12_counted_1 (by omega) (by decide) ?_
  refine lv_aload_n hx hb dX12_counted_76 rfl (lv_at hl 0 rfl) ?_
  refine gf_X12_253 E X hR av_t98 dX12_counted_77 ?_
  exact av_ri E hR ⟨Option.some.inj h, hμ.symm⟩ dX12_counted_80

set_option maxHeartbeats 4000000 in
set_option maxRecDepth 100000 in
theorem CX12_count (l : Launch) (g : Gl) {a1 : Int32} {μ : Mem} {zr : Int32} {zm : Mem} (h : fX12_count a1 μ = some (zr, zm)) : av_MI l yX12_count cX12_count 2 4 (some .int) av_wm g [.ref (g.2.2 98), .int a1] μ zr zm := by
  refine av_ent (own := RX12) (by decide) (Nat.le_of_ble_eq_true rfl) rfl (fun p e s m args below meth c E X hR ls hl => ?_)
  have hl : lv_has ls 2 [(0, .ref (g.2.2 98)), (1, .int a1)] := hl
  obtain ⟨hx, hb, hr, hml, hown, hts, hlocks⟩ := id E
  unfold fX12_count at h
  refine lv_iload_n hx hb dX12_count_0 rfl (lv_at hl 1 rfl) ?_
  refine lv_i2l hx hb dX12_count_1 rfl ?_
  refine lv_lconst (v := 0) hx hb dX12_count_2 rfl ?_
  refine lv_ldc2 (v := 6) hx hb hown (hts _ kL_X12_311) dX12_count_3 ?_
  obtain ⟨r6, er6, h⟩ := av_bd h
  refine av_goI hR (av_cS (As := [.long (Int32.toInt64 a1), .long 0, .long 6]) (rest := []) E X hR hl.1 (CX12_in l g er6) kk_X12_68 (av_room (by omega) (by decide)) rfl (Nat.le_of_ble_eq_true rfl) ⟨Nat.zero_le _, Nat.zero_le _⟩ dX12_count_6) (fun H locs hR => ?_)
  refine lv_if_eq (tgt := 20) hx hb dX12_count_9 (by decide) (fun c9 => ?_) (fun c9 => ?_)
  · have h := av_it c9 h
    refine lv_aload_n hx hb dX12_count_20 rfl (lv_at hl 0 rfl) ?_
    refine lv_bipush (v := (-2)) hx hb dX12_count_21 rfl ?_
    obtain ⟨r23, μ23, er23, h⟩ := av_bd2 h
    refine av_goI hR (av_cV (As := [.int (-2)]) (rest := []) E X hR hl.1 (CX12_bad l g er23) kk_X12_81 (av_room (by omega) (by decide)) av_t98 (by decide) rfl rfl (Nat.le_of_ble_eq_true rfl) ⟨Nat.zero_le _, Nat.zero_le _⟩ dX12_count_23) (fun H locs hR => ?_)
    exact av_ri E hR (av_r2 h) dX12_count_26
  · have h := av_if c9 h
    refine lv_aload_n hx hb dX12_count_12 rfl (lv_at hl 0 rfl) ?_
    refine lv_iload_n hx hb dX12_count_13 rfl (lv_at hl 1 rfl) ?_
    obtain ⟨r14, er14, h⟩ := av_bd h
    refine av_goI hR (av_cV (As := [.int a1]) (rest := []) E X hR hl.1 (CX12_counted l g er14) kk_X12_313 (av_room (by omega) (by decide)) av_t98 (by decide) rfl rfl (Nat.le_of_ble_eq_true rfl) ⟨Nat.zero_le _, Nat.zero_le _⟩ dX12_count_14) (fun H locs hR => ?_)
    refine lv_goto (tgt := 26) hx hb dX12_count_17 (by decide) ?_
    exact av_ri E hR (av_r2 h) dX12_count_26

set_option maxHeartbeats 4000000 in
set_option maxRecDepth 100000 in
theorem tX12_sums_6 {p : Program} {l : Launch} {e : Env} {s : State} {m : MethodId} {args : Array Value} {below : List Frame} {meth : Method} {c : Code} {g : Gl} {zr : Int64} {μ0 : Mem} (E : av_E p s m args meth c cX12_sums RX12 8 (some .long)) (X : av_X av_wm g s) :
    ∀ (n : Nat) {x3 : Int32} {x4 : Int32} {x5 : Int64} {x7 : Int32} {μ : Mem} {H : Heap} {locs : List Loc} {ls : Array Slot} (hμ : μ0 = μ), fX12_sums_6 n x3 x4 x5 x7 μ = some zr → av_R av_wm g μ s H locs → lv_has ls 8 [(0, .ref (g.2.2 98)), (3, .int x3), (4, .int x4), (5, .long x5), (7, .int x7)] → W p l e (rmN 1) s m args below meth c H locs 0 0 (MQ below (va_Ql (fun r1 u => r1 = zr ∧ u = μ0) (av_B av_wm g) (av_A av_wm g)) args s 0 0 (av_A av_wm g)) (F0 m 6 ls []) := by
  obtain ⟨hx, hb, hr, hml, hown, hts, hlocks⟩ := id E
  intro n
  induction n with
  | zero =>
    intro x3 x4 x5 x7 μ H locs ls hμ h hR hl
    cases h
  | succ n ih =>
    intro x3 x4 x5 x7 μ H locs ls hμ h hR hl
    unfold fX12_sums_6 at h
    refine lv_iload hx hb dX12_sums_6 (lv_at hl 4 rfl) ?_
    refine lv_iload hx hb dX12_sums_8 (lv_at hl 2 rfl) ?_
    refine lv_icmp_ge (tgt := 38) hx hb dX12_sums_10 (by decide) (fun c10 => ?_) (fun c10 => ?_)
    · have h := av_it c10 h
      refine lv_lload hx hb dX12_sums_38 (lv_at hl 3 rfl) ?_
      exact av_rl E hR ⟨Option.some.inj h, hμ.symm⟩ dX12_sums_40
    · have h := av_if c10 h
      refine lv_ldc2 (v := 31) hx hb hown (hts _ kL_X12_316) dX12_sums_13 ?_
      refine lv_lload hx hb dX12_sums_16 (lv_at hl 3 rfl) ?_
      refine lv_lmul hx hb dX12_sums_18 ?_
      refine lv_aload_n hx hb dX12_sums_19 rfl (lv_at hl 0 rfl) ?_
      refine gf_X12_7 E X hR av_t98 dX12_sums_20 av_r98_0 ?_
      refine lv_iload_n hx hb dX12_sums_23 rfl (lv_at hl 1 rfl) ?_
      refine lv_iload hx hb dX12_sums_24 (lv_at hl 4 rfl) ?_
      refine lv_iadd hx hb dX12_sums_26 ?_
      obtain ⟨r27, er27, h⟩ := av_bd h
      refine av_il E X hR av_t99 er27 dX12_sums_27 ?_
      refine lv_i2l hx hb dX12_sums_28 rfl ?_
      refine lv_ladd hx hb dX12_sums_29 ?_
      obtain ⟨x5_30, ex5_30, h⟩ := av_bd h
      replace ex5_30 := Option.some.inj ex5_30
      rw [ex5_30]
      refine lv_lstore (lv' := [(5, .long x5_30), (0, .ref (g.2.2 98)), (3, .int x3), (4, .int x4), (7, .int x7)]) hx hb dX12_sums_30 hl (by decide) rfl (fun ls hl => ?_)
      obtain ⟨x7_32, ex7_32, h⟩ := av_bd h
      replace ex7_32 := Option.some.inj ex7_32
      refine lv_iinc (v := x7_32) (lv' := [(7, .int x7_32), (5, .long x5_30), (0, .ref (g.2.2 98)), (3, .int x3), (4, .int x4)]) hx hb dX12_sums_32 hl (k := 4) rfl ex7_32 (by decide) rfl (fun ls hl => ?_)
      refine lv_goto (tgt := 6) hx hb dX12_sums_35 (by decide) ?_
      exact ih hμ h hR (lv_sub hl [2, 3, 4, 1, 0] rfl)

set_option maxHeartbeats 4000000 in
set_option maxRecDepth 100000 in
theorem CX12_sums (l : Launch) (g : Gl) {a1 : Int64} {a3 : Int32} {a4 : Int32} {μ : Mem} {zr : Int64} (h : fX12_sums a1 a3 a4 μ = some zr) : av_ML l yX12_sums cX12_sums 8 1 (some .long) av_wm g [.ref (g.2.2 98), .long a1, .int a3, .int a4] μ zr μ := by
  refine av_ent (own := RX12) (by decide) (Nat.le_of_ble_eq_true rfl) rfl (fun p e s m args below meth c E X hR ls hl => ?_)
  have hl : lv_has ls 8 [(0, .ref (g.2.2 98)), (1, .long a1), (3, .int a3), (4, .int a4)] := hl
  obtain ⟨hx, hb, hr, hml, hown, hts, hlocks⟩ := id E
  have hμ : μ = μ := rfl
  unfold fX12_sums at h
  refine lv_lload_n hx hb dX12_sums_0 rfl (lv_at hl 1 rfl) ?_
  refine lv_lstore (lv' := [(5, .long a1), (0, .ref (g.2.2 98)), (1, .long a1), (3, .int a3), (4, .int a4)]) hx hb dX12_sums_1 hl (by decide) rfl (fun ls hl => ?_)
  refine lv_iconst (v := 0) hx hb dX12_sums_3 rfl ?_
  refine lv_istore (lv' := [(7, .int 0), (5, .long a1), (0, .ref (g.2.2 98)), (1, .long a1), (3, .int a3), (4, .int a4)]) hx hb dX12_sums_4 hl (by decide) rfl (fun ls hl => ?_)
  exact tX12_sums_6 E X _ hμ h hR (lv_sub hl [2, 4, 5, 1, 0] rfl)

set_option maxHeartbeats 4000000 in
set_option maxRecDepth 100000 in
theorem tX12_digest_6 {p : Program} {l : Launch} {e : Env} {s : State} {m : MethodId} {args : Array Value} {below : List Frame} {meth : Method} {c : Code} {g : Gl} {zr : Int64} {μ0 : Mem} (E : av_E p s m args meth c cX12_digest RX12 4 (some .long)) (X : av_X av_wm g s) :
    ∀ (n : Nat) {x1 : Int64} {x3 : Int32} {μ : Mem} {H : Heap} {locs : List Loc} {ls : Array Slot} (hμ : μ0 = μ), fX12_digest_6 n x1 x3 μ = some zr → av_R av_wm g μ s H locs → lv_has ls 4 [(0, .ref (g.2.2 98)), (1, .long x1), (3, .int x3)] → W p l e (rmN 4) s m args below meth c H locs 0 0 (MQ below (va_Ql (fun r1 u => r1 = zr ∧ u = μ0) (av_B av_wm g) (av_A av_wm g)) args s 0 0 (av_A av_wm g)) (F0 m 6 ls []) := by
  obtain ⟨hx, hb, hr, hml, hown, hts, hlocks⟩ := id E
  intro n
  induction n with
  | zero =>
    intro x1 x3 μ H locs ls hμ h hR hl
    cases h
  | succ n ih =>
    intro x1 x3 μ H locs ls hμ h hR hl
    unfold fX12_digest_6 at h
    refine lv_iload_n hx hb dX12_digest_6 rfl (lv_at hl 2 rfl) ?_
    refine lv_bipush (v := 7) hx hb dX12_digest_7 rfl ?_
    refine lv_icmp_ge (tgt := 31) hx hb dX12_digest_9 (by decide) (fun c9 => ?_) (fun c9 => ?_)
    · have h := av_it c9 h
      refine lv_aload_n hx hb dX12_digest_31 rfl (lv_at hl 0 rfl) ?_
      refine lv_lload_n hx hb dX12_digest_32 rfl (lv_at hl 1 rfl) ?_
      refine lv_iconst (v := 5) hx hb dX12_digest_33 rfl ?_
      refine lv_iconst (v := 2) hx hb dX12_digest_34 rfl ?_
      obtain ⟨r35, er35, h⟩ := av_bd h
      refine av_goL hR (av_cV (As := [.long x1, .int 5, .int 2]) (rest := []) E X hR hl.1 (CX12_sums l g er35) kk_X12_320 (av_room (by omega) (by decide)) av_t98 (by decide) rfl rfl (Nat.le_of_ble_eq_true rfl) ⟨Nat.zero_le _, Nat.zero_le _⟩ dX12_digest_35) (fun H locs hR => ?_)
      refine lv_lstore_n (lv' := [(1, .long r35), (0, .ref (g.2.2 98)), (3, .int x3)]) hx hb dX12_digest_38 rfl hl (by decide) rfl (fun ls hl => ?_)
      refine lv_aload_n hx hb dX12_digest_39 rfl (lv_at hl 1 rfl) ?_
      refine lv_lload_n hx hb dX12_digest_40 rfl (lv_at hl 0 rfl) ?_
      refine lv_bipush (v := 7) hx hb dX12_digest_41 rfl ?_
      refine lv_iconst (v := 4) hx hb dX12_digest_43 rfl ?_
      refine lv_aload_n hx hb dX12_digest_44 rfl (lv_at hl 1 rfl) ?_
      obtain ⟨r45, er45, h⟩ := av_bd h
      refine av_goI hR (av_cV (As := []) (rest := [.int 4, .int 7, .long r35, .ref (g.2.2 98)]) E X hR hl.1 (CX12_ledges l g er45) kk_X12_64 (av_room (by omega) (by decide)) av_t98 (by decide) rfl rfl (Nat.le_of_ble_eq_true rfl) ⟨Nat.zero_le _, Nat.zero_le _⟩ dX12_digest_45) (fun H locs hR => ?_)
      refine lv_imul hx hb dX12_digest_48 ?_
      obtain ⟨r49, er49, h⟩ := av_bd h
      refine av_goL hR (av_cV (As := [.long r35, .int 7, .int (4 * r45)]) (rest := []) E X hR hl.1 (CX12_sums l g er49) kk_X12_320 (av_room (by omega) (by decide)) av_t98 (by decide) rfl rfl (Nat.le_of_ble_eq_true rfl) ⟨Nat.zero_le _, Nat.zero_le _⟩ dX12_digest_49) (fun H locs hR => ?_)
      refine lv_lstore_n (lv' := [(1, .long r49), (0, .ref (g.2.2 98)), (3, .int x3)]) hx hb dX12_digest_52 rfl hl (by decide) rfl (fun ls hl => ?_)
      refine lv_aload_n hx hb dX12_digest_53 rfl (lv_at hl 1 rfl) ?_
      refine lv_lload_n hx hb dX12_digest_54 rfl (lv_at hl 0 rfl) ?_
      refine lv_bipush (v := 39) hx hb dX12_digest_55 rfl ?_
      refine lv_iconst (v := 3) hx hb dX12_digest_57 rfl ?_
      refine lv_aload_n hx hb dX12_digest_58 rfl (lv_at hl 1 rfl) ?_
      obtain ⟨r59, er59, h⟩ := av_bd h
      refine av_goI hR (av_cV (As := []) (rest := [.int 3, .int 39, .long r49, .ref (g.2.2 98)]) E X hR hl.1 (CX12_voters l g er59) kk_X12_72 (av_room (by omega) (by decide)) av_t98 (by decide) rfl rfl (Nat.le_of_ble_eq_true rfl) ⟨Nat.zero_le _, Nat.zero_le _⟩ dX12_digest_59) (fun H locs hR => ?_)
      refine lv_imul hx hb dX12_digest_62 ?_
      obtain ⟨r63, er63, h⟩ := av_bd h
      refine av_goL hR (av_cV (As := [.long r49, .int 39, .int (3 * r59)]) (rest := []) E X hR hl.1 (CX12_sums l g er63) kk_X12_320 (av_room (by omega) (by decide)) av_t98 (by decide) rfl rfl (Nat.le_of_ble_eq_true rfl) ⟨Nat.zero_le _, Nat.zero_le _⟩ dX12_digest_63) (fun H locs hR => ?_)
      refine lv_lstore_n (lv' := [(1, .long r63), (0, .ref (g.2.2 98)), (3, .int x3)]) hx hb dX12_digest_66 rfl hl (by decide) rfl (fun ls hl => ?_)
      refine lv_aload_n hx hb dX12_digest_67 rfl (lv_at hl 1 rfl) ?_
      refine lv_lload_n hx hb dX12_digest_68 rfl (lv_at hl 0 rfl) ?_
      refine lv_bipush (v := 57) hx hb dX12_digest_69 rfl ?_
      refine lv_iconst (v := 2) hx hb dX12_digest_71 rfl ?_
      refine lv_aload_n hx hb dX12_digest_72 rfl (lv_at hl 1 rfl) ?_
      refine gf_X12_7 E X hR av_t98 dX12_digest_73 av_r98_0 ?_
      refine lv_iconst (v := 3) hx hb dX12_digest_76 rfl ?_
      obtain ⟨r77, er77, h⟩ := av_bd h
      refine av_il E X hR av_t99 er77 dX12_digest_77 ?_
      refine lv_imul hx hb dX12_digest_78 ?_
      obtain ⟨r79, er79, h⟩ := av_bd h
      refine av_goL hR (av_cV (As := [.long r63, .int 57, .int (2 * r77)]) (rest := []) E X hR hl.1 (CX12_sums l g er79) kk_X12_320 (av_room (by omega) (by decide)) av_t98 (by decide) rfl rfl (Nat.le_of_ble_eq_true rfl) ⟨Nat.zero_le _, Nat.zero_le _⟩ dX12_digest_79) (fun H locs hR => ?_)
      refine lv_lstore_n (lv' := [(1, .long r79), (0, .ref (g.2.2 98)), (3, .int x3)]) hx hb dX12_digest_82 rfl hl (by decide) rfl (fun ls hl => ?_)
      refine lv_ldc2 (v := 31) hx hb hown (hts _ kL_X12_316) dX12_digest_83 ?_
      refine lv_ldc2 (v := 31) hx hb hown (hts _ kL_X12_316) dX12_digest_86 ?_
      refine lv_lload_n hx hb dX12_digest_89 rfl (lv_at hl 0 rfl) ?_
      refine lv_lmul hx hb dX12_digest_90 ?_
      refine lv_aload_n hx hb dX12_digest_91 rfl (lv_at hl 1 rfl) ?_
      refine gf_X12_228 E X hR av_t98 dX12_digest_92 ?_
      refine lv_ladd hx hb dX12_digest_95 ?_
      refine lv_lmul hx hb dX12_digest_96 ?_
      refine lv_aload_n hx hb dX12_digest_97 rfl (lv_at hl 1 rfl) ?_
      refine gf_X12_23 E X hR av_t98 dX12_digest_98 ?_
      refine lv_ladd hx hb dX12_digest_101 ?_
      exact av_rl E hR ⟨Option.some.inj h, hμ.symm⟩ dX12_digest_102
    · have h := av_if c9 h
      refine lv_ldc2 (v := 31) hx hb hown (hts _ kL_X12_316) dX12_digest_12 ?_
      refine lv_lload_n hx hb dX12_digest_15 rfl (lv_at hl 1 rfl) ?_
      refine lv_lmul hx hb dX12_digest_16 ?_
      refine lv_aload_n hx hb dX12_digest_17 rfl (lv_at hl 0 rfl) ?_
      refine lv_iload_n hx hb dX12_digest_18 rfl (lv_at hl 2 rfl) ?_
      obtain ⟨r19, er19, h⟩ := av_bd h
      refine av_goI hR (av_cV (As := [.int x3]) (rest := [.long (31 * x1)]) E X hR hl.1 (CX12_counted l g er19) kk_X12_313 (av_room (by omega) (by decide)) av_t98 (by decide) rfl rfl (Nat.le_of_ble_eq_true rfl) ⟨Nat.zero_le _, Nat.zero_le _⟩ dX12_digest_19) (fun H locs hR => ?_)
      refine lv_i2l hx hb dX12_digest_22 rfl ?_
      refine lv_ladd hx hb dX12_digest_23 ?_
      obtain ⟨x1_24, ex1_24, h⟩ := av_bd h
      replace ex1_24 := Option.some.inj ex1_24
      rw [ex1_24]
      refine lv_lstore_n (lv' := [(1, .long x1_24), (0, .ref (g.2.2 98)), (3, .int x3)]) hx hb dX12_digest_24 rfl hl (by decide) rfl (fun ls hl => ?_)
      obtain ⟨x3_25, ex3_25, h⟩ := av_bd h
      replace ex3_25 := Option.some.inj ex3_25
      refine lv_iinc (v := x3_25) (lv' := [(3, .int x3_25), (1, .long x1_24), (0, .ref (g.2.2 98))]) hx hb dX12_digest_25 hl (k := 2) rfl ex3_25 (by decide) rfl (fun ls hl => ?_)
      refine lv_goto (tgt := 6) hx hb dX12_digest_28 (by decide) ?_
      exact ih hμ h hR (lv_sub hl [2, 1, 0] rfl)

set_option maxHeartbeats 4000000 in
set_option maxRecDepth 100000 in
theorem CX12_digest (l : Launch) (g : Gl) {μ : Mem} {zr : Int64} (h : fX12_digest μ = some zr) : av_ML l yX12_digest cX12_digest 4 4 (some .long) av_wm g [.ref (g.2.2 98)] μ zr μ := by
  refine av_ent (own := RX12) (by decide) (Nat.le_of_ble_eq_true rfl) rfl (fun p e s m args below meth c E X hR ls hl => ?_)
  have hl : lv_has ls 4 [(0, .ref (g.2.2 98))] := hl
  obtain ⟨hx, hb, hr, hml, hown, hts, hlocks⟩ := id E
  have hμ : μ = μ := rfl
  unfold fX12_digest at h
  refine lv_ldc2 (v := 1151) hx hb hown (hts _ kL_X12_318) dX12_digest_0 ?_
  refine lv_lstore_n (lv' := [(1, .long 1151), (0, .ref (g.2.2 98))]) hx hb dX12_digest_3 rfl hl (by decide) rfl (fun ls hl => ?_)
  refine lv_iconst (v := 0) hx hb dX12_digest_4 rfl ?_
  refine lv_istore_n (lv' := [(3, .int 0), (1, .long 1151), (0, .ref (g.2.2 98))]) hx hb dX12_digest_5 rfl hl (by decide) rfl (fun ls hl => ?_)
  exact tX12_digest_6 E X _ hμ h hR (lv_sub hl [2, 1, 0] rfl)
