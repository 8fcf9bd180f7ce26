set_option maxHeartbeats 4000000 in
set_option maxRecDepth 100000 in
theorem CX8_startAnew (l : Launch) (g : Gl) {q : Nat} (hq : av_t av_wc q 8) {μ : Mem} {zm : Mem} (h : fX8_startAnew q μ = some zm) : av_MV l yX8_startAnew cX8_startAnew 1 3 none av_wc g [.ref (g.2.2 q)] μ zm := by
  refine av_ent (own := RX8) (by decide) (Nat.le_of_ble_eq_true rfl) rfl (fun p e s m args below meth c E X hR ls hl => ?_)
  have hl : lv_has ls 1 [(0, .ref (g.2.2 q))] := hl
  obtain ⟨hx, hb, hr, hml, hown, hts, hlocks⟩ := id E
  unfold fX8_startAnew at h
  refine lv_aload_n hx hb dX8_startAnew_0 rfl (lv_at hl 0 rfl) ?_
  refine gf_X8_26 E X hR hq dX8_startAnew_1 rfl ?_
  refine lv_iconst (v := 0) hx hb dX8_startAnew_4 rfl ?_
  obtain ⟨μ5, eμ5, h⟩ := av_bd h
  replace eμ5 := Option.some.inj eμ5
  refine pf_X8_39 E X hR (av_ty_8_0 hq) dX8_startAnew_5 eμ5 (fun H locs hR => ?_)
  refine lv_aload_n hx hb dX8_startAnew_8 rfl (lv_at hl 0 rfl) ?_
  refine gf_X8_26 E X hR hq dX8_startAnew_9 rfl ?_
  refine lv_iconst (v := 0) hx hb dX8_startAnew_12 rfl ?_
  obtain ⟨μ13, eμ13, h⟩ := av_bd h
  replace eμ13 := Option.some.inj eμ13
  refine pf_X8_43 E X hR (av_ty_8_0 hq) dX8_startAnew_13 eμ13 (fun H locs hR => ?_)
  refine lv_aload_n hx hb dX8_startAnew_16 rfl (lv_at hl 0 rfl) ?_
  refine gf_X8_35 E X hR hq dX8_startAnew_17 rfl ?_
  obtain ⟨μ20, eμ20, h⟩ := av_bd h
  refine av_goV hR (av_cV (As := []) (rest := []) E X hR hl.1 (CX7_startAnew l g (av_ty_8_1 hq) eμ20) kk_X8_46 (av_room (by omega) (by decide)) (av_ty_8_1 hq) (by decide) rfl rfl (Nat.le_of_ble_eq_true rfl) ⟨Nat.zero_le _, Nat.zero_le _⟩ dX8_startAnew_20) (fun H locs hR => ?_)
  refine lv_aload_n hx hb dX8_startAnew_23 rfl (lv_at hl 0 rfl) ?_
  refine lv_iconst (v := 0) hx hb dX8_startAnew_24 rfl ?_
  obtain ⟨μ25, eμ25, h⟩ := av_bd h
  replace eμ25 := Option.some.inj eμ25
  refine pf_X8_49 E X hR hq dX8_startAnew_25 eμ25 (fun H locs hR => ?_)
  refine lv_aload_n hx hb dX8_startAnew_28 rfl (lv_at hl 0 rfl) ?_
  refine lv_iconst (v := 0) hx hb dX8_startAnew_29 rfl ?_
  obtain ⟨μ30, eμ30, h⟩ := av_bd h
  replace eμ30 := Option.some.inj eμ30
  refine pf_X8_52 E X hR hq dX8_startAnew_30 eμ30 (fun H locs hR => ?_)
  exact av_rv E hR (Option.some.inj h) dX8_startAnew_33

set_option maxHeartbeats 4000000 in
set_option maxRecDepth 100000 in
theorem tX8_addLedge_21 {p : Program} {l : Launch} {e : Env} {s : State} {m : MethodId} {args : Array Value} {below : List Frame} {meth : Method} {c : Code} {g : Gl} {zr : Int32} {zm : Mem} (E : av_E p s m args meth c cX8_addLedge RX8 5 (some .int)) (X : av_X av_wc g s) :
    ∀ {μ : Mem} {H : Heap} {locs : List Loc} {ls : Array Slot}, fX8_addLedge_21 μ = some (zr, zm) → av_R av_wc g μ s H locs → lv_has ls 5 [] → W p l e (rmN 1) s m args below meth c H locs 0 0 (MQ below (va_Qi (fun r1 u => r1 = zr ∧ u = zm) (av_B av_wc g) (av_A av_wc g)) args s 0 0 (av_A av_wc g)) (F0 m 21 ls []) := by
  obtain ⟨hx, hb, hr, hml, hown, hts, hlocks⟩ := id E
  intro μ H locs ls h hR hl
  unfold fX8_addLedge_21 at h
  refine lv_bipush (v := (-4)) hx hb dX8_addLedge_21 rfl ?_
  exact av_ri E hR (av_r2 h) dX8_addLedge_23

set_option maxHeartbeats 4000000 in
set_option maxRecDepth 100000 in
theorem CX8_addLedge (l : Launch) (g : Gl) {q : Nat} {a1 : Int32} {a2 : Int32} {a3 : Int32} (hq : av_t av_wc q 8) {μ : Mem} {zr : Int32} {zm : Mem} (h : fX8_addLedge q a1 a2 a3 μ = some (zr, zm)) : av_MI l yX8_addLedge cX8_addLedge 5 1 (some .int) av_wc g [.ref (g.2.2 q), .int a1, .int a2, .int a3] μ zr zm := by
  refine av_ent (own := RX8) (by decide) (Nat.le_of_ble_eq_true rfl) rfl (fun p e s m args below meth c E X hR ls hl => ?_)
  have hl : lv_has ls 5 [(0, .ref (g.2.2 q)), (1, .int a1), (2, .int a2), (3, .int a3)] := hl
  obtain ⟨hx, hb, hr, hml, hown, hts, hlocks⟩ := id E
  unfold fX8_addLedge at h
  refine lv_aload_n hx hb dX8_addLedge_0 rfl (lv_at hl 0 rfl) ?_
  refine gf_X8_26 E X hR hq dX8_addLedge_1 rfl ?_
  refine gf_X8_39 E X hR (av_ty_8_0 hq) dX8_addLedge_4 ?_
  obtain ⟨x4_7, ex4_7, h⟩ := av_bd h
  replace ex4_7 := Option.some.inj ex4_7
  rw [ex4_7]
  refine lv_istore (lv' := [(4, .int x4_7), (0, .ref (g.2.2 q)), (1, .int a1), (2, .int a2), (3, .int a3)]) hx hb dX8_addLedge_7 hl (by decide) rfl (fun ls hl => ?_)
  refine lv_iload hx hb dX8_addLedge_9 (lv_at hl 0 rfl) ?_
  refine lv_if_lt (tgt := 21) hx hb dX8_addLedge_11 (by decide) (fun c11 => ?_) (fun c11 => ?_)
  · have h := av_it c11 h
    exact tX8_addLedge_21 E X h hR (lv_sub hl [] rfl)
  · have h := av_if c11 h
    refine lv_iload hx hb dX8_addLedge_14 (lv_at hl 0 rfl) ?_
    refine lv_bipush (v := 8) hx hb dX8_addLedge_16 rfl ?_
    refine lv_icmp_lt (tgt := 24) hx hb dX8_addLedge_18 (by decide) (fun c18 => ?_) (fun c18 => ?_)
    · have h := av_it c18 h
      refine lv_aload_n hx hb dX8_addLedge_24 rfl (lv_at hl 1 rfl) ?_
      refine gf_X8_26 E X hR hq dX8_addLedge_25 rfl ?_
      refine gf_X8_67 E X hR (av_ty_8_0 hq) dX8_addLedge_28 rfl ?_
      refine lv_iload hx hb dX8_addLedge_31 (lv_at hl 0 rfl) ?_
      refine lv_iload_n hx hb dX8_addLedge_33 rfl (lv_at hl 2 rfl) ?_
      obtain ⟨μ34, eμ34, h⟩ := av_bd h
      refine av_is E X hR (av_ty_9_2 (av_ty_8_0 hq)) eμ34 dX8_addLedge_34 (fun H locs hR => ?_)
      refine lv_aload_n hx hb dX8_addLedge_35 rfl (lv_at hl 1 rfl) ?_
      refine gf_X8_26 E X hR hq dX8_addLedge_36 rfl ?_
      refine gf_X8_70 E X hR (av_ty_8_0 hq) dX8_addLedge_39 rfl ?_
      refine lv_iload hx hb dX8_addLedge_42 (lv_at hl 0 rfl) ?_
      refine lv_iload_n hx hb dX8_addLedge_44 rfl (lv_at hl 4 rfl) ?_
      obtain ⟨μ45, eμ45, h⟩ := av_bd h
      refine av_is E X hR (av_ty_9_3 (av_ty_8_0 hq)) eμ45 dX8_addLedge_45 (fun H locs hR => ?_)
      refine lv_aload_n hx hb dX8_addLedge_46 rfl (lv_at hl 1 rfl) ?_
      refine gf_X8_35 E X hR hq dX8_addLedge_47 rfl ?_
      refine gf_X8_73 E X hR (av_ty_8_1 hq) dX8_addLedge_50 rfl ?_
      refine lv_iload hx hb dX8_addLedge_53 (lv_at hl 0 rfl) ?_
      refine lv_iload_n hx hb dX8_addLedge_55 rfl (lv_at hl 3 rfl) ?_
      obtain ⟨μ56, eμ56, h⟩ := av_bd h
      refine av_is E X hR (av_ty_7_1 (av_ty_8_1 hq)) eμ56 dX8_addLedge_56 (fun H locs hR => ?_)
      refine lv_aload_n hx hb dX8_addLedge_57 rfl (lv_at hl 1 rfl) ?_
      refine gf_X8_35 E X hR hq dX8_addLedge_58 rfl ?_
      refine gf_X8_76 E X hR (av_ty_8_1 hq) dX8_addLedge_61 rfl ?_
      refine lv_iload hx hb dX8_addLedge_64 (lv_at hl 0 rfl) ?_
      refine lv_iconst (v := 0) hx hb dX8_addLedge_66 rfl ?_
      obtain ⟨μ67, eμ67, h⟩ := av_bd h
      refine av_is E X hR (av_ty_7_2 (av_ty_8_1 hq)) eμ67 dX8_addLedge_67 (fun H locs hR => ?_)
      refine lv_aload_n hx hb dX8_addLedge_68 rfl (lv_at hl 1 rfl) ?_
      refine gf_X8_26 E X hR hq dX8_addLedge_69 rfl ?_
      refine lv_iload hx hb dX8_addLedge_72 (lv_at hl 0 rfl) ?_
      refine lv_iconst (v := 1) hx hb dX8_addLedge_74 rfl ?_
      refine lv_iadd hx hb dX8_addLedge_75 ?_
      obtain ⟨μ76, eμ76, h⟩ := av_bd h
      replace eμ76 := Option.some.inj eμ76
      refine pf_X8_39 E X hR (av_ty_8_0 hq) dX8_addLedge_76 eμ76 (fun H locs hR => ?_)
      refine lv_aload_n hx hb dX8_addLedge_79 rfl (lv_at hl 1 rfl) ?_
      refine lv_iconst (v := 0) hx hb dX8_addLedge_80 rfl ?_
      obtain ⟨μ81, eμ81, h⟩ := av_bd h
      replace eμ81 := Option.some.inj eμ81
      refine pf_X8_49 E X hR hq dX8_addLedge_81 eμ81 (fun H locs hR => ?_)
      refine lv_iload hx hb dX8_addLedge_84 (lv_at hl 0 rfl) ?_
      exact av_ri E hR (av_r2 h) dX8_addLedge_86
    · have h := av_if c18 h
      exact tX8_addLedge_21 E X h hR (lv_sub hl [] rfl)

set_option maxHeartbeats 4000000 in
set_option maxRecDepth 100000 in
theorem tX8_addVoter_21 {p : Program} {l : Launch} {e : Env} {s : State} {m : MethodId} {args : Array Value} {below : List Frame} {meth : Method} {c : Code} {g : Gl} {zr : Int32} {zm : Mem} (E : av_E p s m args meth c cX8_addVoter RX8 5 (some .int)) (X : av_X av_wc g s) :
    ∀ {μ : Mem} {H : Heap} {locs : List Loc} {ls : Array Slot}, fX8_addVoter_21 μ = some (zr, zm) → av_R av_wc g μ s H locs → lv_has ls 5 [] → W p l e (rmN 1) s m args below meth c H locs 0 0 (MQ below (va_Qi (fun r1 u => r1 = zr ∧ u = zm) (av_B av_wc g) (av_A av_wc g)) args s 0 0 (av_A av_wc g)) (F0 m 21 ls []) := by
  obtain ⟨hx, hb, hr, hml, hown, hts, hlocks⟩ := id E
  intro μ H locs ls h hR hl
  unfold fX8_addVoter_21 at h
  refine lv_bipush (v := (-4)) hx hb dX8_addVoter_21 rfl ?_
  exact av_ri E hR (av_r2 h) dX8_addVoter_23

set_option maxHeartbeats 4000000 in
set_option maxRecDepth 100000 in
theorem CX8_addVoter (l : Launch) (g : Gl) {q : Nat} {a1 : Int32} {a2 : Int32} {a3 : Int32} (hq : av_t av_wc q 8) {μ : Mem} {zr : Int32} {zm : Mem} (h : fX8_addVoter q a1 a2 a3 μ = some (zr, zm)) : av_MI l yX8_addVoter cX8_addVoter 5 1 (some .int) av_wc g [.ref (g.2.2 q), .int a1, .int a2, .int a3] μ zr zm := by
  refine av_ent (own := RX8) (by decide) (Nat.le_of_ble_eq_true rfl) rfl (fun p e s m args below meth c E X hR ls hl => ?_)
  have hl : lv_has ls 5 [(0, .ref (g.2.2 q)), (1, .int a1), (2, .int a2), (3, .int a3)] := hl
  obtain ⟨hx, hb, hr, hml, hown, hts, hlocks⟩ := id E
  unfold fX8_addVoter at h
  refine lv_aload_n hx hb dX8_addVoter_0 rfl (lv_at hl 0 rfl) ?_
  refine gf_X8_26 E X hR hq dX8_addVoter_1 rfl ?_
  refine gf_X8_43 E X hR (av_ty_8_0 hq) dX8_addVoter_4 ?_
  obtain ⟨x4_7, ex4_7, h⟩ := av_bd h
  replace ex4_7 := Option.some.inj ex4_7
  rw [ex4_7]
  refine lv_istore (lv' := [(4, .int x4_7), (0, .ref (g.2.2 q)), (1, .int a1), (2, .int a2), (3, .int a3)]) hx hb dX8_addVoter_7 hl (by decide) rfl (fun ls hl => ?_)
  refine lv_iload hx hb dX8_addVoter_9 (lv_at hl 0 rfl) ?_
  refine lv_if_lt (tgt := 21) hx hb dX8_addVoter_11 (by decide) (fun c11 => ?_) (fun c11 => ?_)
  · have h := av_it c11 h
    exact tX8_addVoter_21 E X h hR (lv_sub hl [] rfl)
  · have h := av_if c11 h
    refine lv_iload hx hb dX8_addVoter_14 (lv_at hl 0 rfl) ?_
    refine lv_bipush (v := 6) hx hb dX8_addVoter_16 rfl ?_
    refine lv_icmp_lt (tgt := 24) hx hb dX8_addVoter_18 (by decide) (fun c18 => ?_) (fun c18 => ?_)
    · have h := av_it c18 h
      refine lv_aload_n hx hb dX8_addVoter_24 rfl (lv_at hl 1 rfl) ?_
      refine gf_X8_26 E X hR hq dX8_addVoter_25 rfl ?_
      refine gf_X8_79 E X hR (av_ty_8_0 hq) dX8_addVoter_28 rfl ?_
      refine lv_iload hx hb dX8_addVoter_31 (lv_at hl 0 rfl) ?_
      refine lv_iload_n hx hb dX8_addVoter_33 rfl (lv_at hl 2 rfl) ?_
      obtain ⟨μ34, eμ34, h⟩ := av_bd h
      refine av_is E X hR (av_ty_9_5 (av_ty_8_0 hq)) eμ34 dX8_addVoter_34 (fun H locs hR => ?_)
      refine lv_aload_n hx hb dX8_addVoter_35 rfl (lv_at hl 1 rfl) ?_
      refine gf_X8_26 E X hR hq dX8_addVoter_36 rfl ?_
      refine gf_X8_82 E X hR (av_ty_8_0 hq) dX8_addVoter_39 rfl ?_
      refine lv_iload hx hb dX8_addVoter_42 (lv_at hl 0 rfl) ?_
      refine lv_iload_n hx hb dX8_addVoter_44 rfl (lv_at hl 3 rfl) ?_
      obtain ⟨μ45, eμ45, h⟩ := av_bd h
      refine av_is E X hR (av_ty_9_6 (av_ty_8_0 hq)) eμ45 dX8_addVoter_45 (fun H locs hR => ?_)
      refine lv_aload_n hx hb dX8_addVoter_46 rfl (lv_at hl 1 rfl) ?_
      refine gf_X8_26 E X hR hq dX8_addVoter_47 rfl ?_
      refine gf_X8_85 E X hR (av_ty_8_0 hq) dX8_addVoter_50 rfl ?_
      refine lv_iload hx hb dX8_addVoter_53 (lv_at hl 0 rfl) ?_
      refine lv_iload_n hx hb dX8_addVoter_55 rfl (lv_at hl 4 rfl) ?_
      obtain ⟨μ56, eμ56, h⟩ := av_bd h
      refine av_is E X hR (av_ty_9_7 (av_ty_8_0 hq)) eμ56 dX8_addVoter_56 (fun H locs hR => ?_)
      refine lv_aload_n hx hb dX8_addVoter_57 rfl (lv_at hl 1 rfl) ?_
      refine gf_X8_26 E X hR hq dX8_addVoter_58 rfl ?_
      refine lv_iload hx hb dX8_addVoter_61 (lv_at hl 0 rfl) ?_
      refine lv_iconst (v := 1) hx hb dX8_addVoter_63 rfl ?_
      refine lv_iadd hx hb dX8_addVoter_64 ?_
      obtain ⟨μ65, eμ65, h⟩ := av_bd h
      replace eμ65 := Option.some.inj eμ65
      refine pf_X8_43 E X hR (av_ty_8_0 hq) dX8_addVoter_65 eμ65 (fun H locs hR => ?_)
      refine lv_aload_n hx hb dX8_addVoter_68 rfl (lv_at hl 1 rfl) ?_
      refine lv_iconst (v := 0) hx hb dX8_addVoter_69 rfl ?_
      obtain ⟨μ70, eμ70, h⟩ := av_bd h
      replace eμ70 := Option.some.inj eμ70
      refine pf_X8_49 E X hR hq dX8_addVoter_70 eμ70 (fun H locs hR => ?_)
      refine lv_iload hx hb dX8_addVoter_73 (lv_at hl 0 rfl) ?_
      exact av_ri E hR (av_r2 h) dX8_addVoter_75
    · have h := av_if c18 h
      exact tX8_addVoter_21 E X h hR (lv_sub hl [] rfl)

set_option maxHeartbeats 4000000 in
set_option maxRecDepth 100000 in
theorem CX8_copyFrom (l : Launch) (g : Gl) {q : Nat} {a1 : Nat} (hq : av_t av_wc q 8) (ha1 : av_t av_wc a1 8) {μ : Mem} {zm : Mem} (h : fX8_copyFrom q a1 μ = some zm) : av_MV l yX8_copyFrom cX8_copyFrom 2 3 none av_wc g [.ref (g.2.2 q), .ref (g.2.2 a1)] μ zm := by
  refine av_ent (own := RX8) (by decide) (Nat.le_of_ble_eq_true rfl) rfl (fun p e s m args below meth c E X hR ls hl => ?_)
  have hl : lv_has ls 2 [(0, .ref (g.2.2 q)), (1, .ref (g.2.2 a1))] := hl
  obtain ⟨hx, hb, hr, hml, hown, hts, hlocks⟩ := id E
  unfold fX8_copyFrom at h
  refine lv_aload_n hx hb dX8_copyFrom_0 rfl (lv_at hl 0 rfl) ?_
  refine gf_X8_26 E X hR hq dX8_copyFrom_1 rfl ?_
  refine lv_aload_n hx hb dX8_copyFrom_4 rfl (lv_at hl 1 rfl) ?_
  refine gf_X8_26 E X hR ha1 dX8_copyFrom_5 rfl ?_
  obtain ⟨μ8, eμ8, h⟩ := av_bd h
  refine av_goV hR (av_cV (As := [.ref (g.2.2 (av_rf a1 0))]) (rest := []) E X hR hl.1 (CX9_copyFrom l g (av_ty_8_0 hq) (av_ty_8_0 ha1) eμ8) kk_X8_55 (av_room (by omega) (by decide)) (av_ty_8_0 hq) (by decide) rfl rfl (Nat.le_of_ble_eq_true rfl) ⟨Nat.zero_le _, Nat.zero_le _⟩ dX8_copyFrom_8) (fun H locs hR => ?_)
  refine lv_aload_n hx hb dX8_copyFrom_11 rfl (lv_at hl 0 rfl) ?_
  refine gf_X8_35 E X hR hq dX8_copyFrom_12 rfl ?_
  refine lv_aload_n hx hb dX8_copyFrom_15 rfl (lv_at hl 1 rfl) ?_
  refine gf_X8_35 E X hR ha1 dX8_copyFrom_16 rfl ?_
  obtain ⟨μ19, eμ19, h⟩ := av_bd h
  refine av_goV hR (av_cV (As := [.ref (g.2.2 (av_rf a1 1))]) (rest := []) E X hR hl.1 (CX7_copyFrom l g (av_ty_8_1 hq) (av_ty_8_1 ha1) eμ19) kk_X8_58 (av_room (by omega) (by decide)) (av_ty_8_1 hq) (by decide) rfl rfl (Nat.le_of_ble_eq_true rfl) ⟨Nat.zero_le _, Nat.zero_le _⟩ dX8_copyFrom_19) (fun H locs hR => ?_)
  refine lv_aload_n hx hb dX8_copyFrom_22 rfl (lv_at hl 1 rfl) ?_
  refine gf_X8_9 E X hR ha1 dX8_copyFrom_23 rfl ?_
  refine lv_iconst (v := 0) hx hb dX8_copyFrom_26 rfl ?_
  refine lv_aload_n hx hb dX8_copyFrom_27 rfl (lv_at hl 0 rfl) ?_
  refine gf_X8_9 E X hR hq dX8_copyFrom_28 rfl ?_
  refine lv_iconst (v := 0) hx hb dX8_copyFrom_31 rfl ?_
  refine lv_sipush (v := 152) hx hb dX8_copyFrom_32 rfl ?_
  obtain ⟨μ35, eμ35, h⟩ := av_bd h
  refine av_cp E X hR hl.1 kM_X8_61 (av_ty_8_2 ha1) (av_ty_8_2 hq) eμ35 (by decide) (by decide) dX8_copyFrom_35 (fun H locs hR => ?_)
  refine lv_aload_n hx hb dX8_copyFrom_38 rfl (lv_at hl 0 rfl) ?_
  refine lv_aload_n hx hb dX8_copyFrom_39 rfl (lv_at hl 1 rfl) ?_
  refine gf_X8_49 E X hR ha1 dX8_copyFrom_40 ?_
  obtain ⟨μ43, eμ43, h⟩ := av_bd h
  replace eμ43 := Option.some.inj eμ43
  refine pf_X8_49 E X hR hq dX8_copyFrom_43 eμ43 (fun H locs hR => ?_)
  refine lv_aload_n hx hb dX8_copyFrom_46 rfl (lv_at hl 1 rfl) ?_
  refine gf_X8_15 E X hR ha1 dX8_copyFrom_47 rfl ?_
  refine lv_iconst (v := 0) hx hb dX8_copyFrom_50 rfl ?_
  refine lv_aload_n hx hb dX8_copyFrom_51 rfl (lv_at hl 0 rfl) ?_
  refine gf_X8_15 E X hR hq dX8_copyFrom_52 rfl ?_
  refine lv_iconst (v := 0) hx hb dX8_copyFrom_55 rfl ?_
  refine lv_bipush (v := 6) hx hb dX8_copyFrom_56 rfl ?_
  obtain ⟨μ58, eμ58, h⟩ := av_bd h
  refine av_cp E X hR hl.1 kM_X8_61 (av_ty_8_4 ha1) (av_ty_8_4 hq) eμ58 (by decide) (by decide) dX8_copyFrom_58 (fun H locs hR => ?_)
  refine lv_aload_n hx hb dX8_copyFrom_61 rfl (lv_at hl 1 rfl) ?_
  refine gf_X8_18 E X hR ha1 dX8_copyFrom_62 rfl ?_
  refine lv_iconst (v := 0) hx hb dX8_copyFrom_65 rfl ?_
  refine lv_aload_n hx hb dX8_copyFrom_66 rfl (lv_at hl 0 rfl) ?_
  refine gf_X8_18 E X hR hq dX8_copyFrom_67 rfl ?_
  refine lv_iconst (v := 0) hx hb dX8_copyFrom_70 rfl ?_
  refine lv_bipush (v := 6) hx hb dX8_copyFrom_71 rfl ?_
  obtain ⟨μ73, eμ73, h⟩ := av_bd h
  refine av_cp E X hR hl.1 kM_X8_61 (av_ty_8_5 ha1) (av_ty_8_5 hq) eμ73 (by decide) (by decide) dX8_copyFrom_73 (fun H locs hR => ?_)
  refine lv_aload_n hx hb dX8_copyFrom_76 rfl (lv_at hl 0 rfl) ?_
  refine lv_aload_n hx hb dX8_copyFrom_77 rfl (lv_at hl 1 rfl) ?_
  refine gf_X8_52 E X hR ha1 dX8_copyFrom_78 ?_
  obtain ⟨μ81, eμ81, h⟩ := av_bd h
  replace eμ81 := Option.some.inj eμ81
  refine pf_X8_52 E X hR hq dX8_copyFrom_81 eμ81 (fun H locs hR => ?_)
  exact av_rv E hR (Option.some.inj h) dX8_copyFrom_84

set_option maxHeartbeats 4000000 in
set_option maxRecDepth 100000 in
theorem tX8_addSeen_16 {p : Program} {l : Launch} {e : Env} {s : State} {m : MethodId} {args : Array Value} {below : List Frame} {meth : Method} {c : Code} {g : Gl} {zr : Int32} {zm : Mem} (E : av_E p s m args meth c cX8_addSeen RX8 3 (some .int)) (X : av_X av_wc g s) :
    ∀ {μ : Mem} {H : Heap} {locs : List Loc} {ls : Array Slot}, fX8_addSeen_16 μ = some (zr, zm) → av_R av_wc g μ s H locs → lv_has ls 3 [] → W p l e (rmN 1) s m args below meth c H locs 0 0 (MQ below (va_Qi (fun r1 u => r1 = zr ∧ u = zm) (av_B av_wc g) (av_A av_wc g)) args s 0 0 (av_A av_wc g)) (F0 m 16 ls []) := by
  obtain ⟨hx, hb, hr, hml, hown, hts, hlocks⟩ := id E
  intro μ H locs ls h hR hl
  unfold fX8_addSeen_16 at h
  refine lv_bipush (v := (-4)) hx hb dX8_addSeen_16 rfl ?_
  exact av_ri E hR (av_r2 h) dX8_addSeen_18

set_option maxHeartbeats 4000000 in
set_option maxRecDepth 100000 in
theorem CX8_addSeen (l : Launch) (g : Gl) {q : Nat} {a1 : Int32} {a2 : Int32} (hq : av_t av_wc q 8) {μ : Mem} {zr : Int32} {zm : Mem} (h : fX8_addSeen q a1 a2 μ = some (zr, zm)) : av_MI l yX8_addSeen cX8_addSeen 3 1 (some .int) av_wc g [.ref (g.2.2 q), .int a1, .int a2] μ zr zm := by
  refine av_ent (own := RX8) (by decide) (Nat.le_of_ble_eq_true rfl) rfl (fun p e s m args below meth c E X hR ls hl => ?_)
  have hl : lv_has ls 3 [(0, .ref (g.2.2 q)), (1, .int a1), (2, .int a2)] := hl
  obtain ⟨hx, hb, hr, hml, hown, hts, hlocks⟩ := id E
  unfold fX8_addSeen at h
  refine lv_aload_n hx hb dX8_addSeen_0 rfl (lv_at hl 0 rfl) ?_
  refine gf_X8_52 E X hR hq dX8_addSeen_1 ?_
  refine lv_if_lt (tgt := 16) hx hb dX8_addSeen_4 (by decide) (fun c4 => ?_) (fun c4 => ?_)
  · have h := av_it c4 h
    exact tX8_addSeen_16 E X h hR (lv_sub hl [] rfl)
  · have h := av_if c4 h
    refine lv_aload_n hx hb dX8_addSeen_7 rfl (lv_at hl 0 rfl) ?_
    refine gf_X8_52 E X hR hq dX8_addSeen_8 ?_
    refine lv_bipush (v := 6) hx hb dX8_addSeen_11 rfl ?_
    refine lv_icmp_lt (tgt := 19) hx hb dX8_addSeen_13 (by decide) (fun c13 => ?_) (fun c13 => ?_)
    · have h := av_it c13 h
      refine lv_aload_n hx hb dX8_addSeen_19 rfl (lv_at hl 0 rfl) ?_
      refine gf_X8_15 E X hR hq dX8_addSeen_20 rfl ?_
      refine lv_aload_n hx hb dX8_addSeen_23 rfl (lv_at hl 0 rfl) ?_
      refine gf_X8_52 E X hR hq dX8_addSeen_24 ?_
      refine lv_iload_n hx hb dX8_addSeen_27 rfl (lv_at hl 1 rfl) ?_
      obtain ⟨μ28, eμ28, h⟩ := av_bd h
      refine av_is E X hR (av_ty_8_4 hq) eμ28 dX8_addSeen_28 (fun H locs hR => ?_)
      refine lv_aload_n hx hb dX8_addSeen_29 rfl (lv_at hl 0 rfl) ?_
      refine gf_X8_18 E X hR hq dX8_addSeen_30 rfl ?_
      refine lv_aload_n hx hb dX8_addSeen_33 rfl (lv_at hl 0 rfl) ?_
      refine gf_X8_52 E X hR hq dX8_addSeen_34 ?_
      refine lv_iload_n hx hb dX8_addSeen_37 rfl (lv_at hl 2 rfl) ?_
      obtain ⟨μ38, eμ38, h⟩ := av_bd h
      refine av_is E X hR (av_ty_8_5 hq) eμ38 dX8_addSeen_38 (fun H locs hR => ?_)
      refine lv_aload_n hx hb dX8_addSeen_39 rfl (lv_at hl 0 rfl) ?_
      refine lv_dup hx hb dX8_addSeen_40 rfl ?_
      refine gf_X8_52 E X hR hq dX8_addSeen_41 ?_
      refine lv_iconst (v := 1) hx hb dX8_addSeen_44 rfl ?_
      refine lv_iadd hx hb dX8_addSeen_45 ?_
      obtain ⟨μ46, eμ46, h⟩ := av_bd h
      replace eμ46 := Option.some.inj eμ46
      refine pf_X8_52 E X hR hq dX8_addSeen_46 eμ46 (fun H locs hR => ?_)
      refine lv_aload_n hx hb dX8_addSeen_49 rfl (lv_at hl 0 rfl) ?_
      refine gf_X8_52 E X hR hq dX8_addSeen_50 ?_
      exact av_ri E hR (av_r2 h) dX8_addSeen_53
    · have h := av_if c13 h
      exact tX8_addSeen_16 E X h hR (lv_sub hl [] rfl)

set_option maxHeartbeats 4000000 in
set_option maxRecDepth 100000 in
theorem tX8_keepPast_32 {p : Program} {l : Launch} {e : Env} {s : State} {m : MethodId} {args : Array Value} {below : List Frame} {meth : Method} {c : Code} {g : Gl} {zm : Mem} (E : av_E p s m args meth c cX8_keepPast RX8 1 none) (X : av_X av_wc g s) :
    ∀ {q : Nat} (hq : av_t av_wc q 8) {μ : Mem} {H : Heap} {locs : List Loc} {ls : Array Slot}, fX8_keepPast_32 q μ = some zm → av_R av_wc g μ s H locs → lv_has ls 1 [(0, .ref (g.2.2 q))] → W p l e (rmN 3) s m args below meth c H locs 0 0 (MQ below (va_Qv (fun u => u = zm) (av_B av_wc g) (av_A av_wc g)) args s 0 0 (av_A av_wc g)) (F0 m 32 ls []) := by
  obtain ⟨hx, hb, hr, hml, hown, hts, hlocks⟩ := id E
  intro q hq μ H locs ls h hR hl
  unfold fX8_keepPast_32 at h
  refine lv_aload_n hx hb dX8_keepPast_32 rfl (lv_at hl 0 rfl) ?_
  refine gf_X8_35 E X hR hq dX8_keepPast_33 rfl ?_
  refine lv_aload_n hx hb dX8_keepPast_36 rfl (lv_at hl 0 rfl) ?_
  refine gf_X8_9 E X hR hq dX8_keepPast_37 rfl ?_
  refine lv_aload_n hx hb dX8_keepPast_40 rfl (lv_at hl 0 rfl) ?_
  refine gf_X8_49 E X hR hq dX8_keepPast_41 ?_
  refine lv_bipush (v := 19) hx hb dX8_keepPast_44 rfl ?_
  refine lv_imul hx hb dX8_keepPast_46 ?_
  obtain ⟨μ47, eμ47, h⟩ := av_bd h
  refine av_goV hR (av_cV (As := [.ref (g.2.2 (av_rf q 2)), .int ((gF μ q 3) * 19)]) (rest := []) E X hR hl.1 (CX7_saveTo l g (av_ty_8_1 hq) (av_ty_8_2 hq) eμ47) kk_X8_88 (av_room (by omega) (by decide)) (av_ty_8_1 hq) (by decide) rfl rfl (Nat.le_of_ble_eq_true rfl) ⟨Nat.zero_le _, Nat.zero_le _⟩ dX8_keepPast_47) (fun H locs hR => ?_)
  refine lv_aload_n hx hb dX8_keepPast_50 rfl (lv_at hl 0 rfl) ?_
  refine lv_dup hx hb dX8_keepPast_51 rfl ?_
  refine gf_X8_49 E X hR hq dX8_keepPast_52 ?_
  refine lv_iconst (v := 1) hx hb dX8_keepPast_55 rfl ?_
  refine lv_iadd hx hb dX8_keepPast_56 ?_
  obtain ⟨μ57, eμ57, h⟩ := av_bd h
  replace eμ57 := Option.some.inj eμ57
  refine pf_X8_49 E X hR hq dX8_keepPast_57 eμ57 (fun H locs hR => ?_)
  exact av_rv E hR (Option.some.inj h) dX8_keepPast_60

set_option maxHeartbeats 4000000 in
set_option maxRecDepth 100000 in
theorem CX8_keepPast (l : Launch) (g : Gl) {q : Nat} (hq : av_t av_wc q 8) {μ : Mem} {zm : Mem} (h : fX8_keepPast q μ = some zm) : av_MV l yX8_keepPast cX8_keepPast 1 3 none av_wc g [.ref (g.2.2 q)] μ zm := by
  refine av_ent (own := RX8) (by decide) (Nat.le_of_ble_eq_true rfl) rfl (fun p e s m args below meth c E X hR ls hl => ?_)
  have hl : lv_has ls 1 [(0, .ref (g.2.2 q))] := hl
  obtain ⟨hx, hb, hr, hml, hown, hts, hlocks⟩ := id E
  unfold fX8_keepPast at h
  refine lv_aload_n hx hb dX8_keepPast_0 rfl (lv_at hl 0 rfl) ?_
  refine gf_X8_49 E X hR hq dX8_keepPast_1 ?_
  refine lv_bipush (v := 8) hx hb dX8_keepPast_4 rfl ?_
  refine lv_icmp_lt (tgt := 32) hx hb dX8_keepPast_6 (by decide) (fun c6 => ?_) (fun c6 => ?_)
  · have h := av_it c6 h
    exact tX8_keepPast_32 E X hq h hR (lv_sub hl [0] rfl)
  · have h := av_if c6 h
    refine lv_aload_n hx hb dX8_keepPast_9 rfl (lv_at hl 0 rfl) ?_
    refine gf_X8_9 E X hR hq dX8_keepPast_10 rfl ?_
    refine lv_bipush (v := 19) hx hb dX8_keepPast_13 rfl ?_
    refine lv_aload_n hx hb dX8_keepPast_15 rfl (lv_at hl 0 rfl) ?_
    refine gf_X8_9 E X hR hq dX8_keepPast_16 rfl ?_
    refine lv_iconst (v := 0) hx hb dX8_keepPast_19 rfl ?_
    refine lv_sipush (v := 133) hx hb dX8_keepPast_20 rfl ?_
    obtain ⟨μ23, eμ23, h⟩ := av_bd h
    refine av_cp E X hR hl.1 kM_X8_61 (av_ty_8_2 hq) (av_ty_8_2 hq) eμ23 (by decide) (by decide) dX8_keepPast_23 (fun H locs hR => ?_)
    refine lv_aload_n hx hb dX8_keepPast_26 rfl (lv_at hl 0 rfl) ?_
    refine lv_bipush (v := 7) hx hb dX8_keepPast_27 rfl ?_
    obtain ⟨μ29, eμ29, h⟩ := av_bd h
    replace eμ29 := Option.some.inj eμ29
    refine pf_X8_49 E X hR hq dX8_keepPast_29 eμ29 (fun H locs hR => ?_)
    exact tX8_keepPast_32 E X hq h hR (lv_sub hl [0] rfl)

set_option maxHeartbeats 4000000 in
set_option maxRecDepth 100000 in
theorem CX8_goBack (l : Launch) (g : Gl) {q : Nat} (hq : av_t av_wc q 8) {μ : Mem} {zm : Mem} (h : fX8_goBack q μ = some zm) : av_MV l yX8_goBack cX8_goBack 1 3 none av_wc g [.ref (g.2.2 q)] μ zm := by
  refine av_ent (own := RX8) (by decide) (Nat.le_of_ble_eq_true rfl) rfl (fun p e s m args below meth c E X hR ls hl => ?_)
  have hl : lv_has ls 1 [(0, .ref (g.2.2 q))] := hl
  obtain ⟨hx, hb, hr, hml, hown, hts, hlocks⟩ := id E
  unfold fX8_goBack at h
  refine lv_aload_n hx hb dX8_goBack_0 rfl (lv_at hl 0 rfl) ?_
  refine gf_X8_49 E X hR hq dX8_goBack_1 ?_
  refine lv_if_le (tgt := 35) hx hb dX8_goBack_4 (by decide) (fun c4 => ?_) (fun c4 => ?_)
  · have h := av_it c4 h
    exact av_rv E hR (Option.some.inj h) dX8_goBack_35
  · have h := av_if c4 h
    refine lv_aload_n hx hb dX8_goBack_7 rfl (lv_at hl 0 rfl) ?_
    refine lv_dup hx hb dX8_goBack_8 rfl ?_
    refine gf_X8_49 E X hR hq dX8_goBack_9 ?_
    refine lv_iconst (v := 1) hx hb dX8_goBack_12 rfl ?_
    refine lv_isub hx hb dX8_goBack_13 ?_
    obtain ⟨μ14, eμ14, h⟩ := av_bd h
    replace eμ14 := Option.some.inj eμ14
    refine pf_X8_49 E X hR hq dX8_goBack_14 eμ14 (fun H locs hR => ?_)
    refine lv_aload_n hx hb dX8_goBack_17 rfl (lv_at hl 0 rfl) ?_
    refine gf_X8_35 E X hR hq dX8_goBack_18 rfl ?_
    refine lv_aload_n hx hb dX8_goBack_21 rfl (lv_at hl 0 rfl) ?_
    refine gf_X8_9 E X hR hq dX8_goBack_22 rfl ?_
    refine lv_aload_n hx hb dX8_goBack_25 rfl (lv_at hl 0 rfl) ?_
    refine gf_X8_49 E X hR hq dX8_goBack_26 ?_
    refine lv_bipush (v := 19) hx hb dX8_goBack_29 rfl ?_
    refine lv_imul hx hb dX8_goBack_31 ?_
    obtain ⟨μ32, eμ32, h⟩ := av_bd h
    refine av_goV hR (av_cV (As := [.ref (g.2.2 (av_rf q 2)), .int ((gF μ14 q 3) * 19)]) (rest := []) E X hR hl.1 (CX7_loadFrom l g (av_ty_8_1 hq) (av_ty_8_2 hq) eμ32) kk_X8_92 (av_room (by omega) (by decide)) (av_ty_8_1 hq) (by decide) rfl rfl (Nat.le_of_ble_eq_true rfl) ⟨Nat.zero_le _, Nat.zero_le _⟩ dX8_goBack_32) (fun H locs hR => ?_)
    exact av_rv E hR (Option.some.inj h) dX8_goBack_35

set_option maxHeartbeats 4000000 in
set_option maxRecDepth 100000 in
theorem tX8_leastHold_33 {p : Program} {l : Launch} {e : Env} {s : State} {m : MethodId} {args : Array Value} {below : List Frame} {meth : Method} {c : Code} {g : Gl} {zr : Int32} {μ0 : Mem} (E : av_E p s m args meth c cX8_leastHold RX8 3 (some .int)) (X : av_X av_wc g s) {k4 : Nat → Int32 → Int32 → Mem → Option (Int32)} (hk4 : ∀ {q : Nat} {x1 : Int32} {x2 : Int32} (hq : av_t av_wc q 8) {μ : Mem} {H : Heap} {locs : List Loc} {ls : Array Slot} (hμ : μ0 = μ), k4 q x1 x2 μ = some zr → av_R av_wc g μ s H locs → lv_has ls 3 [(0, .ref (g.2.2 q)), (1, .int x1), (2, .int x2)] → W p l e (rmN 1) s m args below meth c H locs 0 0 (MQ below (va_Qi (fun r1 u => r1 = zr ∧ u = μ0) (av_B av_wc g) (av_A av_wc g)) args s 0 0 (av_A av_wc g)) (F0 m 4 ls [])) :
    ∀ {q : Nat} {x1 : Int32} {x2 : Int32} (hq : av_t av_wc q 8) {μ : Mem} {H : Heap} {locs : List Loc} {ls : Array Slot} (hμ : μ0 = μ), fX8_leastHold_33 k4 q x1 x2 μ = some zr → av_R av_wc g μ s H locs → lv_has ls 3 [(0, .ref (g.2.2 q)), (1, .int x1), (2, .int x2)] → W p l e (rmN 1) s m args below meth c H locs 0 0 (MQ below (va_Qi (fun r1 u => r1 = zr ∧ u = μ0) (av_B av_wc g) (av_A av_wc g)) args s 0 0 (av_A av_wc g)) (F0 m 33 ls []) := by
  obtain ⟨hx, hb, hr, hml, hown, hts, hlocks⟩ := id E
  intro q x1 x2 hq μ H locs ls hμ h hR hl
  unfold fX8_leastHold_33 at h
  obtain ⟨x2_33, ex2_33, h⟩ := av_bd h
  replace ex2_33 := Option.some.inj ex2_33
  refine lv_iinc (v := x2_33) (lv' := [(2, .int x2_33), (0, .ref (g.2.2 q)), (1, .int x1)]) hx hb dX8_leastHold_33 hl (k := 2) rfl ex2_33 (by decide) rfl (fun ls hl => ?_)
  refine lv_goto (tgt := 4) hx hb dX8_leastHold_36 (by decide) ?_
  exact hk4 hq hμ h hR (lv_sub hl [1, 2, 0] rfl)

set_option maxHeartbeats 4000000 in
set_option maxRecDepth 100000 in
theorem tX8_leastHold_4 {p : Program} {l : Launch} {e : Env} {s : State} {m : MethodId} {args : Array Value} {below : List Frame} {meth : Method} {c : Code} {g : Gl} {zr : Int32} {μ0 : Mem} (E : av_E p s m args meth c cX8_leastHold RX8 3 (some .int)) (X : av_X av_wc g s) :
    ∀ (n : Nat) {q : Nat} {x1 : Int32} {x2 : Int32} (hq : av_t av_wc q 8) {μ : Mem} {H : Heap} {locs : List Loc} {ls : Array Slot} (hμ : μ0 = μ), fX8_leastHold_4 n q x1 x2 μ = some zr → av_R av_wc g μ s H locs → lv_has ls 3 [(0, .ref (g.2.2 q)), (1, .int x1), (2, .int x2)] → W p l e (rmN 1) s m args below meth c H locs 0 0 (MQ below (va_Qi (fun r1 u => r1 = zr ∧ u = μ0) (av_B av_wc g) (av_A av_wc g)) args s 0 0 (av_A av_wc g)) (F0 m 4 ls []) := by
  obtain ⟨hx, hb, hr, hml, hown, hts, hlocks⟩ := id E
  intro n
  induction n with
  | zero =>
    intro q x1 x2 hq μ H locs ls hμ h hR hl
    cases h
  | succ n ih =>
    intro q x1 x2 hq μ H locs ls hμ h hR hl
    unfold fX8_leastHold_4 at h
    refine lv_iload_n hx hb dX8_leastHold_4 rfl (lv_at hl 2 rfl) ?_
    refine lv_aload_n hx hb dX8_leastHold_5 rfl (lv_at hl 0 rfl) ?_
    refine gf_X8_52 E X hR hq dX8_leastHold_6 ?_
    refine lv_icmp_ge (tgt := 39) hx hb dX8_leastHold_9 (by decide) (fun c9 => ?_) (fun c9 => ?_)
    · have h := av_it c9 h
      refine lv_iload_n hx hb dX8_leastHold_39 rfl (lv_at hl 1 rfl) ?_
      exact av_ri E hR ⟨Option.some.inj h, hμ.symm⟩ dX8_leastHold_40
    · have h := av_if c9 h
      refine lv_aload_n hx hb dX8_leastHold_12 rfl (lv_at hl 0 rfl) ?_
      refine gf_X8_18 E X hR hq dX8_leastHold_13 rfl ?_
      refine lv_iload_n hx hb dX8_leastHold_16 rfl (lv_at hl 2 rfl) ?_
      obtain ⟨r17, er17, h⟩ := av_bd h
      refine av_il E X hR (av_ty_8_5 hq) er17 dX8_leastHold_17 ?_
      refine lv_iconst (v := 1) hx hb dX8_leastHold_18 rfl ?_
      refine lv_icmp_ne (tgt := 33) hx hb dX8_leastHold_19 (by decide) (fun c19 => ?_) (fun c19 => ?_)
      · have h := av_if c19 h
        exact tX8_leastHold_33 E X ih hq hμ h hR (lv_sub hl [0, 1, 2] rfl)
      · have h := av_it c19 h
        refine lv_iload_n hx hb dX8_leastHold_22 rfl (lv_at hl 1 rfl) ?_
        refine lv_aload_n hx hb dX8_leastHold_23 rfl (lv_at hl 0 rfl) ?_
        refine gf_X8_15 E X hR hq dX8_leastHold_24 rfl ?_
        refine lv_iload_n hx hb dX8_leastHold_27 rfl (lv_at hl 2 rfl) ?_
        obtain ⟨r28, er28, h⟩ := av_bd h
        refine av_il E X hR (av_ty_8_4 hq) er28 dX8_leastHold_28 ?_
        refine av_mx E hl.1 kM_X8_95 (av_rm1 (by omega)) (Nat.le_of_ble_eq_true rfl) ⟨Nat.zero_le _, Nat.zero_le _⟩ dX8_leastHold_29 ?_
        obtain ⟨x1_32, ex1_32, h⟩ := av_bd h
        replace ex1_32 := Option.some.inj ex1_32
        rw [ex1_32]
        refine lv_istore_n (lv' := [(1, .int x1_32), (0, .ref (g.2.2 q)), (2, .int x2)]) hx hb dX8_leastHold_32 rfl hl (by decide) rfl (fun ls hl => ?_)
        exact tX8_leastHold_33 E X ih hq hμ h hR (lv_sub hl [1, 0, 2] rfl)

set_option maxHeartbeats 4000000 in
set_option maxRecDepth 100000 in
theorem CX8_leastHold (l : Launch) (g : Gl) {q : Nat} (hq : av_t av_wc q 8) {μ : Mem} {zr : Int32} (h : fX8_leastHold q μ = some zr) : av_MI l yX8_leastHold cX8_leastHold 3 1 (some .int) av_wc g [.ref (g.2.2 q)] μ zr μ := by
  refine av_ent (own := RX8) (by decide) (Nat.le_of_ble_eq_true rfl) rfl (fun p e s m args below meth c E X hR ls hl => ?_)
  have hl : lv_has ls 3 [(0, .ref (g.2.2 q))] := hl
  obtain ⟨hx, hb, hr, hml, hown, hts, hlocks⟩ := id E
  have hμ : μ = μ := rfl
  unfold fX8_leastHold at h
  refine lv_iconst (v := 1) hx hb dX8_leastHold_0 rfl ?_
  refine lv_istore_n (lv' := [(1, .int 1), (0, .ref (g.2.2 q))]) hx hb dX8_leastHold_1 rfl hl (by decide) rfl (fun ls hl => ?_)
  refine lv_iconst (v := 0) hx hb dX8_leastHold_2 rfl ?_
  refine lv_istore_n (lv' := [(2, .int 0), (1, .int 1), (0, .ref (g.2.2 q))]) hx hb dX8_leastHold_3 rfl hl (by decide) rfl (fun ls hl => ?_)
  exact tX8_leastHold_4 E X _ hq hμ h hR (lv_sub hl [2, 1, 0] rfl)

set_option maxHeartbeats 4000000 in
set_option maxRecDepth 100000 in
theorem tX8_greatestHold_35 {p : Program} {l : Launch} {e : Env} {s : State} {m : MethodId} {args : Array Value} {below : List Frame} {meth : Method} {c : Code} {g : Gl} {zr : Int32} {μ0 : Mem} (E : av_E p s m args meth c cX8_greatestHold RX8 3 (some .int)) (X : av_X av_wc g s) {k5 : Nat → Int32 → Int32 → Mem → Option (Int32)} (hk5 : ∀ {q : Nat} {x1 : Int32} {x2 : Int32} (hq : av_t av_wc q 8) {μ : Mem} {H : Heap} {locs : List Loc} {ls : Array Slot} (hμ : μ0 = μ), k5 q x1 x2 μ = some zr → av_R av_wc g μ s H locs → lv_has ls 3 [(0, .ref (g.2.2 q)), (1, .int x1), (2, .int x2)] → W p l e (rmN 1) s m args below meth c H locs 0 0 (MQ below (va_Qi (fun r1 u => r1 = zr ∧ u = μ0) (av_B av_wc g) (av_A av_wc g)) args s 0 0 (av_A av_wc g)) (F0 m 5 ls [])) :
    ∀ {q : Nat} {x1 : Int32} {x2 : Int32} (hq : av_t av_wc q 8) {μ : Mem} {H : Heap} {locs : List Loc} {ls : Array Slot} (hμ : μ0 = μ), fX8_greatestHold_35 k5 q x1 x2 μ = some zr → av_R av_wc g μ s H locs → lv_has ls 3 [(0, .ref (g.2.2 q)), (1, .int x1), (2, .int x2)] → W p l e (rmN 1) s m args below meth c H locs 0 0 (MQ below (va_Qi (fun r1 u => r1 = zr ∧ u = μ0) (av_B av_wc g) (av_A av_wc g)) args s 0 0 (av_A av_wc g)) (F0 m 35 ls []) := by
  obtain ⟨hx, hb, hr, hml, hown, hts, hlocks⟩ := id E
  intro q x1 x2 hq μ H locs ls hμ h hR hl
  unfold fX8_greatestHold_35 at h
  obtain ⟨x2_35, ex2_35, h⟩ := av_bd h
  replace ex2_35 := Option.some.inj ex2_35
  refine lv_iinc (v := x2_35) (lv' := [(2, .int x2_35), (0, .ref (g.2.2 q)), (1, .int x1)]) hx hb dX8_greatestHold_35 hl (k := 2) rfl ex2_35 (by decide) rfl (fun ls hl => ?_)
  refine lv_goto (tgt := 5) hx hb dX8_greatestHold_38 (by decide) ?_
  exact hk5 hq hμ h hR (lv_sub hl [1, 2, 0] rfl)

set_option maxHeartbeats 4000000 in
set_option maxRecDepth 100000 in
theorem tX8_greatestHold_5 {p : Program} {l : Launch} {e : Env} {s : State} {m : MethodId} {args : Array Value} {below : List Frame} {meth : Method} {c : Code} {g : Gl} {zr : Int32} {μ0 : Mem} (E : av_E p s m args meth c cX8_greatestHold RX8 3 (some .int)) (X : av_X av_wc g s) :
    ∀ (n : Nat) {q : Nat} {x1 : Int32} {x2 : Int32} (hq : av_t av_wc q 8) {μ : Mem} {H : Heap} {locs : List Loc} {ls : Array Slot} (hμ : μ0 = μ), fX8_greatestHold_5 n q x1 x2 μ = some zr → av_R av_wc g μ s H locs → lv_has ls 3 [(0, .ref (g.2.2 q)), (1, .int x1), (2, .int x2)] → W p l e (rmN 1) s m args below meth c H locs 0 0 (MQ below (va_Qi (fun r1 u => r1 = zr ∧ u = μ0) (av_B av_wc g) (av_A av_wc g)) args s 0 0 (av_A av_wc g)) (F0 m 5 ls []) := by
  obtain ⟨hx, hb, hr, hml, hown, hts, hlocks⟩ := id E
  intro n
  induction n with
  | zero =>
    intro q x1 x2 hq μ H locs ls hμ h hR hl
    cases h
  | succ n ih =>
    intro q x1 x2 hq μ H locs ls hμ h hR hl
    unfold fX8_greatestHold_5 at h
    refine lv_iload_n hx hb dX8_greatestHold_5 rfl (lv_at hl 2 rfl) ?_
    refine lv_aload_n hx hb dX8_greatestHold_6 rfl (lv_at hl 0 rfl) ?_
    refine gf_X8_52 E X hR hq dX8_greatestHold_7 ?_
    refine lv_icmp_ge (tgt := 41) hx hb dX8_greatestHold_10 (by decide) (fun c10 => ?_) (fun c10 => ?_)
    · have h := av_it c10 h
      refine lv_iload_n hx hb dX8_greatestHold_41 rfl (lv_at hl 1 rfl) ?_
      exact av_ri E hR ⟨Option.some.inj h, hμ.symm⟩ dX8_greatestHold_42
    · have h := av_if c10 h
      refine lv_aload_n hx hb dX8_greatestHold_13 rfl (lv_at hl 0 rfl) ?_
      refine gf_X8_18 E X hR hq dX8_greatestHold_14 rfl ?_
      refine lv_iload_n hx hb dX8_greatestHold_17 rfl (lv_at hl 2 rfl) ?_
      obtain ⟨r18, er18, h⟩ := av_bd h
      refine av_il E X hR (av_ty_8_5 hq) er18 dX8_greatestHold_18 ?_
      refine lv_if_ne (tgt := 35) hx hb dX8_greatestHold_19 (by decide) (fun c19 => ?_) (fun c19 => ?_)
      · have h := av_if c19 h
        exact tX8_greatestHold_35 E X ih hq hμ h hR (lv_sub hl [0, 1, 2] rfl)
      · have h := av_it c19 h
        refine lv_iload_n hx hb dX8_greatestHold_22 rfl (lv_at hl 1 rfl) ?_
        refine lv_aload_n hx hb dX8_greatestHold_23 rfl (lv_at hl 0 rfl) ?_
        refine gf_X8_15 E X hR hq dX8_greatestHold_24 rfl ?_
        refine lv_iload_n hx hb dX8_greatestHold_27 rfl (lv_at hl 2 rfl) ?_
        obtain ⟨r28, er28, h⟩ := av_bd h
        refine av_il E X hR (av_ty_8_4 hq) er28 dX8_greatestHold_28 ?_
        refine lv_iconst (v := 1) hx hb dX8_greatestHold_29 rfl ?_
        refine lv_isub hx hb dX8_greatestHold_30 ?_
        refine av_mn E hl.1 kM_X8_101 (av_rm1 (by omega)) (Nat.le_of_ble_eq_true rfl) ⟨Nat.zero_le _, Nat.zero_le _⟩ dX8_greatestHold_31 ?_
        obtain ⟨x1_34, ex1_34, h⟩ := av_bd h
        replace ex1_34 := Option.some.inj ex1_34
        rw [ex1_34]
        refine lv_istore_n (lv' := [(1, .int x1_34), (0, .ref (g.2.2 q)), (2, .int x2)]) hx hb dX8_greatestHold_34 rfl hl (by decide) rfl (fun ls hl => ?_)
        exact tX8_greatestHold_35 E X ih hq hμ h hR (lv_sub hl [1, 0, 2] rfl)

set_option maxHeartbeats 4000000 in
set_option maxRecDepth 100000 in
theorem CX8_greatestHold (l : Launch) (g : Gl) {q : Nat} (hq : av_t av_wc q 8) {μ : Mem} {zr : Int32} (h : fX8_greatestHold q μ = some zr) : av_MI l yX8_greatestHold cX8_greatestHold 3 1 (some .int) av_wc g [.ref (g.2.2 q)] μ zr μ := by
  refine av_ent (own := RX8) (by decide) (Nat.le_of_ble_eq_true rfl) rfl (fun p e s m args below meth c E X hR ls hl => ?_)
  have hl : lv_has ls 3 [(0, .ref (g.2.2 q))] := hl
  obtain ⟨hx, hb, hr, hml, hown, hts, hlocks⟩ := id E
  have hμ : μ = μ := rfl
  unfold fX8_greatestHold at h
  refine lv_bipush (v := 60) hx hb dX8_greatestHold_0 rfl ?_
  refine lv_istore_n (lv' := [(1, .int 60), (0, .ref (g.2.2 q))]) hx hb dX8_greatestHold_2 rfl hl (by decide) rfl (fun ls hl => ?_)
  refine lv_iconst (v := 0) hx hb dX8_greatestHold_3 rfl ?_
  refine lv_istore_n (lv' := [(2, .int 0), (1, .int 60), (0, .ref (g.2.2 q))]) hx hb dX8_greatestHold_4 rfl hl (by decide) rfl (fun ls hl => ?_)
  exact tX8_greatestHold_5 E X _ hq hμ h hR (lv_sub hl [2, 1, 0] rfl)

set_option maxHeartbeats 4000000 in
set_option maxRecDepth 100000 in
theorem tX8_digestFrom_201 {p : Program} {l : Launch} {e : Env} {s : State} {m : MethodId} {args : Array Value} {below : List Frame} {meth : Method} {c : Code} {g : Gl} {zr : Int64} {μ0 : Mem} (E : av_E p s m args meth c cX8_digestFrom RX8 6 (some .long)) (X : av_X av_wc g s) :
    ∀ (n : Nat) {q : Nat} {x3 : Int64} {x5 : Int32} (hq : av_t av_wc q 8) {μ : Mem} {H : Heap} {locs : List Loc} {ls : Array Slot} (hμ : μ0 = μ), fX8_digestFrom_201 n q x3 x5 μ = some zr → av_R av_wc g μ s H locs → lv_has ls 6 [(0, .ref (g.2.2 q)), (3, .long x3), (5, .int x5)] → W p l e (rmN 1) s m args below meth c H locs 0 0 (MQ below (va_Ql (fun r1 u => r1 = zr ∧ u = μ0) (av_B av_wc g) (av_A av_wc g)) args s 0 0 (av_A av_wc g)) (F0 m 201 ls []) := by
  obtain ⟨hx, hb, hr, hml, hown, hts, hlocks⟩ := id E
  intro n
  induction n with
  | zero =>
    intro q x3 x5 hq μ H locs ls hμ h hR hl
    cases h
  | succ n ih =>
    intro q x3 x5 hq μ H locs ls hμ h hR hl
    unfold fX8_digestFrom_201 at h
    refine lv_iload hx hb dX8_digestFrom_201 (lv_at hl 2 rfl) ?_
    refine lv_aload_n hx hb dX8_digestFrom_203 rfl (lv_at hl 0 rfl) ?_
    refine gf_X8_52 E X hR hq dX8_digestFrom_204 ?_
    refine lv_icmp_ge (tgt := 246) hx hb dX8_digestFrom_207 (by decide) (fun c207 => ?_) (fun c207 => ?_)
    · have h := av_it c207 h
      refine lv_lload_n hx hb dX8_digestFrom_246 rfl (lv_at hl 1 rfl) ?_
      exact av_rl E hR ⟨Option.some.inj h, hμ.symm⟩ dX8_digestFrom_247
    · have h := av_if c207 h
      refine lv_ldc2 (v := 31) hx hb hown (hts _ kL_X8_104) dX8_digestFrom_210 ?_
      refine lv_lload_n hx hb dX8_digestFrom_213 rfl (lv_at hl 1 rfl) ?_
      refine lv_lmul hx hb dX8_digestFrom_214 ?_
      refine lv_aload_n hx hb dX8_digestFrom_215 rfl (lv_at hl 0 rfl) ?_
      refine gf_X8_15 E X hR hq dX8_digestFrom_216 rfl ?_
      refine lv_iload hx hb dX8_digestFrom_219 (lv_at hl 2 rfl) ?_
      obtain ⟨r221, er221, h⟩ := av_bd h
      refine av_il E X hR (av_ty_8_4 hq) er221 dX8_digestFrom_221 ?_
      refine lv_i2l hx hb dX8_digestFrom_222 rfl ?_
      refine lv_ladd hx hb dX8_digestFrom_223 ?_
      obtain ⟨x3_224, ex3_224, h⟩ := av_bd h
      replace ex3_224 := Option.some.inj ex3_224
      rw [ex3_224]
      refine lv_lstore_n (lv' := [(3, .long x3_224), (0, .ref (g.2.2 q)), (5, .int x5)]) hx hb dX8_digestFrom_224 rfl hl (by decide) rfl (fun ls hl => ?_)
      refine lv_ldc2 (v := 31) hx hb hown (hts _ kL_X8_104) dX8_digestFrom_225 ?_
      refine lv_lload_n hx hb dX8_digestFrom_228 rfl (lv_at hl 0 rfl) ?_
      refine lv_lmul hx hb dX8_digestFrom_229 ?_
      refine lv_aload_n hx hb dX8_digestFrom_230 rfl (lv_at hl 1 rfl) ?_
      refine gf_X8_18 E X hR hq dX8_digestFrom_231 rfl ?_
      refine lv_iload hx hb dX8_digestFrom_234 (lv_at hl 2 rfl) ?_
      obtain ⟨r236, er236, h⟩ := av_bd h
      refine av_il E X hR (av_ty_8_5 hq) er236 dX8_digestFrom_236 ?_
      refine lv_i2l hx hb dX8_digestFrom_237 rfl ?_
      refine lv_ladd hx hb dX8_digestFrom_238 ?_
      obtain ⟨x3_239, ex3_239, h⟩ := av_bd h
      replace ex3_239 := Option.some.inj ex3_239
      rw [ex3_239]
      refine lv_lstore_n (lv' := [(3, .long x3_239), (0, .ref (g.2.2 q)), (5, .int x5)]) hx hb dX8_digestFrom_239 rfl hl (by decide) rfl (fun ls hl => ?_)
      obtain ⟨x5_240, ex5_240, h⟩ := av_bd h
      replace ex5_240 := Option.some.inj ex5_240
      refine lv_iinc (v := x5_240) (lv' := [(5, .int x5_240), (3, .long x3_239), (0, .ref (g.2.2 q))]) hx hb dX8_digestFrom_240 hl (k := 2) rfl ex5_240 (by decide) rfl (fun ls hl => ?_)
      refine lv_goto (tgt := 201) hx hb dX8_digestFrom_243 (by decide) ?_
      exact ih hq hμ h hR (lv_sub hl [2, 1, 0] rfl)

set_option maxHeartbeats 4000000 in
set_option maxRecDepth 100000 in
theorem tX8_digestFrom_126 {p : Program} {l : Launch} {e : Env} {s : State} {m : MethodId} {args : Array Value} {below : List Frame} {meth : Method} {c : Code} {g : Gl} {zr : Int64} {μ0 : Mem} (E : av_E p s m args meth c cX8_digestFrom RX8 6 (some .long)) (X : av_X av_wc g s) :
    ∀ (n : Nat) {q : Nat} {x3 : Int64} {x5 : Int32} (hq : av_t av_wc q 8) {μ : Mem} {H : Heap} {locs : List Loc} {ls : Array Slot} (hμ : μ0 = μ), fX8_digestFrom_126 n q x3 x5 μ = some zr → av_R av_wc g μ s H locs → lv_has ls 6 [(0, .ref (g.2.2 q)), (3, .long x3), (5, .int x5)] → W p l e (rmN 1) s m args below meth c H locs 0 0 (MQ below (va_Ql (fun r1 u => r1 = zr ∧ u = μ0) (av_B av_wc g) (av_A av_wc g)) args s 0 0 (av_A av_wc g)) (F0 m 126 ls []) := by
  obtain ⟨hx, hb, hr, hml, hown, hts, hlocks⟩ := id E
  intro n
  induction n with
  | zero =>
    intro q x3 x5 hq μ H locs ls hμ h hR hl
    cases h
  | succ n ih =>
    intro q x3 x5 hq μ H locs ls hμ h hR hl
    unfold fX8_digestFrom_126 at h
    refine lv_iload hx hb dX8_digestFrom_126 (lv_at hl 2 rfl) ?_
    refine lv_aload_n hx hb dX8_digestFrom_128 rfl (lv_at hl 0 rfl) ?_
    refine gf_X8_26 E X hR hq dX8_digestFrom_129 rfl ?_
    refine gf_X8_43 E X hR (av_ty_8_0 hq) dX8_digestFrom_132 ?_
    refine lv_icmp_ge (tgt := 198) hx hb dX8_digestFrom_135 (by decide) (fun c135 => ?_) (fun c135 => ?_)
    · have h := av_it c135 h
      refine lv_iconst (v := 0) hx hb dX8_digestFrom_198 rfl ?_
      refine lv_istore (lv' := [(5, .int 0), (0, .ref (g.2.2 q)), (3, .long x3)]) hx hb dX8_digestFrom_199 hl (by decide) rfl (fun ls hl => ?_)
      exact tX8_digestFrom_201 E X _ hq hμ h hR (lv_sub hl [1, 2, 0] rfl)
    · have h := av_if c135 h
      refine lv_ldc2 (v := 31) hx hb hown (hts _ kL_X8_104) dX8_digestFrom_138 ?_
      refine lv_lload_n hx hb dX8_digestFrom_141 rfl (lv_at hl 1 rfl) ?_
      refine lv_lmul hx hb dX8_digestFrom_142 ?_
      refine lv_aload_n hx hb dX8_digestFrom_143 rfl (lv_at hl 0 rfl) ?_
      refine gf_X8_26 E X hR hq dX8_digestFrom_144 rfl ?_
      refine gf_X8_79 E X hR (av_ty_8_0 hq) dX8_digestFrom_147 rfl ?_
      refine lv_iload hx hb dX8_digestFrom_150 (lv_at hl 2 rfl) ?_
      obtain ⟨r152, er152, h⟩ := av_bd h
      refine av_il E X hR (av_ty_9_5 (av_ty_8_0 hq)) er152 dX8_digestFrom_152 ?_
      refine lv_i2l hx hb dX8_digestFrom_153 rfl ?_
      refine lv_ladd hx hb dX8_digestFrom_154 ?_
      obtain ⟨x3_155, ex3_155, h⟩ := av_bd h
      replace ex3_155 := Option.some.inj ex3_155
      rw [ex3_155]
      refine lv_lstore_n (lv' := [(3, .long x3_155), (0, .ref (g.2.2 q)), (5, .int x5)]) hx hb dX8_digestFrom_155 rfl hl (by decide) rfl (fun ls hl => ?_)
      refine lv_ldc2 (v := 31) hx hb hown (hts _ kL_X8_104) dX8_digestFrom_156 ?_
      refine lv_lload_n hx hb dX8_digestFrom_159 rfl (lv_at hl 0 rfl) ?_
      refine lv_lmul hx hb dX8_digestFrom_160 ?_
      refine lv_aload_n hx hb dX8_digestFrom_161 rfl (lv_at hl 1 rfl) ?_
      refine gf_X8_26 E X hR hq dX8_digestFrom_162 rfl ?_
      refine gf_X8_82 E X hR (av_ty_8_0 hq) dX8_digestFrom_165 rfl ?_
      refine lv_iload hx hb dX8_digestFrom_168 (lv_at hl 2 rfl) ?_
      obtain ⟨r170, er170, h⟩ := av_bd h
      refine av_il E X hR (av_ty_9_6 (av_ty_8_0 hq)) er170 dX8_digestFrom_170 ?_
      refine lv_i2l hx hb dX8_digestFrom_171 rfl ?_
      refine lv_ladd hx hb dX8_digestFrom_172 ?_
      obtain ⟨x3_173, ex3_173, h⟩ := av_bd h
      replace ex3_173 := Option.some.inj ex3_173
      rw [ex3_173]
      refine lv_lstore_n (lv' := [(3, .long x3_173), (0, .ref (g.2.2 q)), (5, .int x5)]) hx hb dX8_digestFrom_173 rfl hl (by decide) rfl (fun ls hl => ?_)
      refine lv_ldc2 (v := 31) hx hb hown (hts _ kL_X8_104) dX8_digestFrom_174 ?_
      refine lv_lload_n hx hb dX8_digestFrom_177 rfl (lv_at hl 0 rfl) ?_
      refine lv_lmul hx hb dX8_digestFrom_178 ?_
      refine lv_aload_n hx hb dX8_digestFrom_179 rfl (lv_at hl 1 rfl) ?_
      refine gf_X8_26 E X hR hq dX8_digestFrom_180 rfl ?_
      refine gf_X8_85 E X hR (av_ty_8_0 hq) dX8_digestFrom_183 rfl ?_
      refine lv_iload hx hb dX8_digestFrom_186 (lv_at hl 2 rfl) ?_
      obtain ⟨r188, er188, h⟩ := av_bd h
      refine av_il E X hR (av_ty_9_7 (av_ty_8_0 hq)) er188 dX8_digestFrom_188 ?_
      refine lv_i2l hx hb dX8_digestFrom_189 rfl ?_
      refine lv_ladd hx hb dX8_digestFrom_190 ?_
      obtain ⟨x3_191, ex3_191, h⟩ := av_bd h
      replace ex3_191 := Option.some.inj ex3_191
      rw [ex3_191]
      refine lv_lstore_n (lv' := [(3, .long x3_191), (0, .ref (g.2.2 q)), (5, .int x5)]) hx hb dX8_digestFrom_191 rfl hl (by decide) rfl (fun ls hl => ?_)
      obtain ⟨x5_192, ex5_192, h⟩ := av_bd h
      replace ex5_192 := Option.some.inj ex5_192
      refine lv_iinc (v := x5_192) (lv' := [(5, .int x5_192), (3, .long x3_191), (0, .ref (g.2.2 q))]) hx hb dX8_digestFrom_192 hl (k := 2) rfl ex5_192 (by decide) rfl (fun ls hl => ?_)
      refine lv_goto (tgt := 126) hx hb dX8_digestFrom_195 (by decide) ?_
      exact ih hq hμ h hR (lv_sub hl [2, 1, 0] rfl)

set_option maxHeartbeats 4000000 in
set_option maxRecDepth 100000 in
theorem tX8_digestFrom_33 {p : Program} {l : Launch} {e : Env} {s : State} {m : MethodId} {args : Array Value} {below : List Frame} {meth : Method} {c : Code} {g : Gl} {zr : Int64} {μ0 : Mem} (E : av_E p s m args meth c cX8_digestFrom RX8 6 (some .long)) (X : av_X av_wc g s) :
    ∀ (n : Nat) {q : Nat} {x3 : Int64} {x5 : Int32} (hq : av_t av_wc q 8) {μ : Mem} {H : Heap} {locs : List Loc} {ls : Array Slot} (hμ : μ0 = μ), fX8_digestFrom_33 n q x3 x5 μ = some zr → av_R av_wc g μ s H locs → lv_has ls 6 [(0, .ref (g.2.2 q)), (3, .long x3), (5, .int x5)] → W p l e (rmN 1) s m args below meth c H locs 0 0 (MQ below (va_Ql (fun r1 u => r1 = zr ∧ u = μ0) (av_B av_wc g) (av_A av_wc g)) args s 0 0 (av_A av_wc g)) (F0 m 33 ls []) := by
  obtain ⟨hx, hb, hr, hml, hown, hts, hlocks⟩ := id E
  intro n
  induction n with
  | zero =>
    intro q x3 x5 hq μ H locs ls hμ h hR hl
    cases h
  | succ n ih =>
    intro q x3 x5 hq μ H locs ls hμ h hR hl
    unfold fX8_digestFrom_33 at h
    refine lv_iload hx hb dX8_digestFrom_33 (lv_at hl 2 rfl) ?_
    refine lv_aload_n hx hb dX8_digestFrom_35 rfl (lv_at hl 0 rfl) ?_
    refine gf_X8_26 E X hR hq dX8_digestFrom_36 rfl ?_
    refine gf_X8_39 E X hR (av_ty_8_0 hq) dX8_digestFrom_39 ?_
    refine lv_icmp_ge (tgt := 123) hx hb dX8_digestFrom_42 (by decide) (fun c42 => ?_) (fun c42 => ?_)
    · have h := av_it c42 h
      refine lv_iconst (v := 0) hx hb dX8_digestFrom_123 rfl ?_
      refine lv_istore (lv' := [(5, .int 0), (0, .ref (g.2.2 q)), (3, .long x3)]) hx hb dX8_digestFrom_124 hl (by decide) rfl (fun ls hl => ?_)
      exact tX8_digestFrom_126 E X _ hq hμ h hR (lv_sub hl [1, 2, 0] rfl)
    · have h := av_if c42 h
      refine lv_ldc2 (v := 31) hx hb hown (hts _ kL_X8_104) dX8_digestFrom_45 ?_
      refine lv_lload_n hx hb dX8_digestFrom_48 rfl (lv_at hl 1 rfl) ?_
      refine lv_lmul hx hb dX8_digestFrom_49 ?_
      refine lv_aload_n hx hb dX8_digestFrom_50 rfl (lv_at hl 0 rfl) ?_
      refine gf_X8_26 E X hR hq dX8_digestFrom_51 rfl ?_
      refine gf_X8_67 E X hR (av_ty_8_0 hq) dX8_digestFrom_54 rfl ?_
      refine lv_iload hx hb dX8_digestFrom_57 (lv_at hl 2 rfl) ?_
      obtain ⟨r59, er59, h⟩ := av_bd h
      refine av_il E X hR (av_ty_9_2 (av_ty_8_0 hq)) er59 dX8_digestFrom_59 ?_
      refine lv_i2l hx hb dX8_digestFrom_60 rfl ?_
      refine lv_ladd hx hb dX8_digestFrom_61 ?_
      obtain ⟨x3_62, ex3_62, h⟩ := av_bd h
      replace ex3_62 := Option.some.inj ex3_62
      rw [ex3_62]
      refine lv_lstore_n (lv' := [(3, .long x3_62), (0, .ref (g.2.2 q)), (5, .int x5)]) hx hb dX8_digestFrom_62 rfl hl (by decide) rfl (fun ls hl => ?_)
      refine lv_ldc2 (v := 31) hx hb hown (hts _ kL_X8_104) dX8_digestFrom_63 ?_
      refine lv_lload_n hx hb dX8_digestFrom_66 rfl (lv_at hl 0 rfl) ?_
      refine lv_lmul hx hb dX8_digestFrom_67 ?_
      refine lv_aload_n hx hb dX8_digestFrom_68 rfl (lv_at hl 1 rfl) ?_
      refine gf_X8_35 E X hR hq dX8_digestFrom_69 rfl ?_
      refine gf_X8_73 E X hR (av_ty_8_1 hq) dX8_digestFrom_72 rfl ?_
      refine lv_iload hx hb dX8_digestFrom_75 (lv_at hl 2 rfl) ?_
      obtain ⟨r77, er77, h⟩ := av_bd h
      refine av_il E X hR (av_ty_7_1 (av_ty_8_1 hq)) er77 dX8_digestFrom_77 ?_
      refine lv_i2l hx hb dX8_digestFrom_78 rfl ?_
      refine lv_ladd hx hb dX8_digestFrom_79 ?_
      obtain ⟨x3_80, ex3_80, h⟩ := av_bd h
      replace ex3_80 := Option.some.inj ex3_80
      rw [ex3_80]
      refine lv_lstore_n (lv' := [(3, .long x3_80), (0, .ref (g.2.2 q)), (5, .int x5)]) hx hb dX8_digestFrom_80 rfl hl (by decide) rfl (fun ls hl => ?_)
      refine lv_ldc2 (v := 31) hx hb hown (hts _ kL_X8_104) dX8_digestFrom_81 ?_
      refine lv_lload_n hx hb dX8_digestFrom_84 rfl (lv_at hl 0 rfl) ?_
      refine lv_lmul hx hb dX8_digestFrom_85 ?_
      refine lv_aload_n hx hb dX8_digestFrom_86 rfl (lv_at hl 1 rfl) ?_
      refine gf_X8_35 E X hR hq dX8_digestFrom_87 rfl ?_
      refine gf_X8_76 E X hR (av_ty_8_1 hq) dX8_digestFrom_90 rfl ?_
      refine lv_iload hx hb dX8_digestFrom_93 (lv_at hl 2 rfl) ?_
      obtain ⟨r95, er95, h⟩ := av_bd h
      refine av_il E X hR (av_ty_7_2 (av_ty_8_1 hq)) er95 dX8_digestFrom_95 ?_
      refine lv_i2l hx hb dX8_digestFrom_96 rfl ?_
      refine lv_ladd hx hb dX8_digestFrom_97 ?_
      obtain ⟨x3_98, ex3_98, h⟩ := av_bd h
      replace ex3_98 := Option.some.inj ex3_98
      rw [ex3_98]
      refine lv_lstore_n (lv' := [(3, .long x3_98), (0, .ref (g.2.2 q)), (5, .int x5)]) hx hb dX8_digestFrom_98 rfl hl (by decide) rfl (fun ls hl => ?_)
      refine lv_ldc2 (v := 31) hx hb hown (hts _ kL_X8_104) dX8_digestFrom_99 ?_
      refine lv_lload_n hx hb dX8_digestFrom_102 rfl (lv_at hl 0 rfl) ?_
      refine lv_lmul hx hb dX8_digestFrom_103 ?_
      refine lv_aload_n hx hb dX8_digestFrom_104 rfl (lv_at hl 1 rfl) ?_
      refine gf_X8_26 E X hR hq dX8_digestFrom_105 rfl ?_
      refine gf_X8_70 E X hR (av_ty_8_0 hq) dX8_digestFrom_108 rfl ?_
      refine lv_iload hx hb dX8_digestFrom_111 (lv_at hl 2 rfl) ?_
      obtain ⟨r113, er113, h⟩ := av_bd h
      refine av_il E X hR (av_ty_9_3 (av_ty_8_0 hq)) er113 dX8_digestFrom_113 ?_
      refine lv_i2l hx hb dX8_digestFrom_114 rfl ?_
      refine lv_ladd hx hb dX8_digestFrom_115 ?_
      obtain ⟨x3_116, ex3_116, h⟩ := av_bd h
      replace ex3_116 := Option.some.inj ex3_116
      rw [ex3_116]
      refine lv_lstore_n (lv' := [(3, .long x3_116), (0, .ref (g.2.2 q)), (5, .int x5)]) hx hb dX8_digestFrom_116 rfl hl (by decide) rfl (fun ls hl => ?_)
      obtain ⟨x5_117, ex5_117, h⟩ := av_bd h
      replace ex5_117 := Option.some.inj ex5_117
      refine lv_iinc (v := x5_117) (lv' := [(5, .int x5_117), (3, .long x3_116), (0, .ref (g.2.2 q))]) hx hb dX8_digestFrom_117 hl (k := 2) rfl ex5_117 (by decide) rfl (fun ls hl => ?_)
      refine lv_goto (tgt := 33) hx hb dX8_digestFrom_120 (by decide) ?_
      exact ih hq hμ h hR (lv_sub hl [2, 1, 0] rfl)

set_option maxHeartbeats 4000000 in
set_option maxRecDepth 100000 in
theorem CX8_digestFrom (l : Launch) (g : Gl) {q : Nat} {a1 : Int64} (hq : av_t av_wc q 8) {μ : Mem} {zr : Int64} (h : fX8_digestFrom q a1 μ = some zr) : av_ML l yX8_digestFrom cX8_digestFrom 6 1 (some .long) av_wc g [.ref (g.2.2 q), .long a1] μ zr μ := by
  refine av_ent (own := RX8) (by decide) (Nat.le_of_ble_eq_true rfl) rfl (fun p e s m args below meth c E X hR ls hl => ?_)
  have hl : lv_has ls 6 [(0, .ref (g.2.2 q)), (1, .long a1)] := hl
  obtain ⟨hx, hb, hr, hml, hown, hts, hlocks⟩ := id E
  have hμ : μ = μ := rfl
  unfold fX8_digestFrom at h
  refine lv_ldc2 (v := 31) hx hb hown (hts _ kL_X8_104) dX8_digestFrom_0 ?_
  refine lv_lload_n hx hb dX8_digestFrom_3 rfl (lv_at hl 1 rfl) ?_
  refine lv_lmul hx hb dX8_digestFrom_4 ?_
  refine lv_aload_n hx hb dX8_digestFrom_5 rfl (lv_at hl 0 rfl) ?_
  refine gf_X8_35 E X hR hq dX8_digestFrom_6 rfl ?_
  refine gf_X8_106 E X hR (av_ty_8_1 hq) dX8_digestFrom_9 ?_
  refine lv_i2l hx hb dX8_digestFrom_12 rfl ?_
  refine lv_ladd hx hb dX8_digestFrom_13 ?_
  obtain ⟨x3_14, ex3_14, h⟩ := av_bd h
  replace ex3_14 := Option.some.inj ex3_14
  rw [ex3_14]
  refine lv_lstore_n (lv' := [(3, .long x3_14), (0, .ref (g.2.2 q)), (1, .long a1)]) hx hb dX8_digestFrom_14 rfl hl (by decide) rfl (fun ls hl => ?_)
  refine lv_ldc2 (v := 31) hx hb hown (hts _ kL_X8_104) dX8_digestFrom_15 ?_
  refine lv_lload_n hx hb dX8_digestFrom_18 rfl (lv_at hl 0 rfl) ?_
  refine lv_lmul hx hb dX8_digestFrom_19 ?_
  refine lv_aload_n hx hb dX8_digestFrom_20 rfl (lv_at hl 1 rfl) ?_
  refine gf_X8_35 E X hR hq dX8_digestFrom_21 rfl ?_
  refine gf_X8_109 E X hR (av_ty_8_1 hq) dX8_digestFrom_24 ?_
  refine lv_i2l hx hb dX8_digestFrom_27 rfl ?_
  refine lv_ladd hx hb dX8_digestFrom_28 ?_
  obtain ⟨x3_29, ex3_29, h⟩ := av_bd h
  replace ex3_29 := Option.some.inj ex3_29
  rw [ex3_29]
  refine lv_lstore_n (lv' := [(3, .long x3_29), (0, .ref (g.2.2 q)), (1, .long a1)]) hx hb dX8_digestFrom_29 rfl hl (by decide) rfl (fun ls hl => ?_)
  refine lv_iconst (v := 0) hx hb dX8_digestFrom_30 rfl ?_
  refine lv_istore (lv' := [(5, .int 0), (3, .long x3_29), (0, .ref (g.2.2 q)), (1, .long a1)]) hx hb dX8_digestFrom_31 hl (by decide) rfl (fun ls hl => ?_)
  exact tX8_digestFrom_33 E X _ hq hμ h hR (lv_sub hl [2, 1, 0] rfl)
