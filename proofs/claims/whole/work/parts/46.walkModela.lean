set_option maxHeartbeats 4000000 in
set_option maxRecDepth 100000 in
theorem tX12_in_17 {p : Program} {l : Launch} {e : Env} {s : State} {m : MethodId} {args : Array Value} {below : List Frame} {meth : Method} {c : Code} {g : Gl} {zr : Int32} {μ0 : Mem} (E : av_E p s m args meth c cX12_in RX12 6 (some .boolean)) (X : av_X av_wm g s) :
    ∀ {μ : Mem} {H : Heap} {locs : List Loc} {ls : Array Slot} (hμ : μ0 = μ), fX12_in_17 μ = some zr → av_R av_wm g μ s H locs → lv_has ls 6 [] → W p l e (rmN 1) s m args below meth c H locs 0 0 (MQ below (va_Qi (fun r1 u => r1 = zr ∧ u = μ0) (av_B av_wm g) (av_A av_wm g)) args s 0 0 (av_A av_wm g)) (F0 m 17 ls []) := by
  obtain ⟨hx, hb, hr, hml, hown, hts, hlocks⟩ := id E
  intro μ H locs ls hμ h hR hl
  unfold fX12_in_17 at h
  refine lv_iconst (v := 0) hx hb dX12_in_17 rfl ?_
  exact av_rz E hR rfl ⟨Option.some.inj h, hμ.symm⟩ dX12_in_18

set_option maxHeartbeats 4000000 in
set_option maxRecDepth 100000 in
theorem CX12_in (l : Launch) (g : Gl) {a0 : Int64} {a2 : Int64} {a4 : Int64} {μ : Mem} {zr : Int32} (h : fX12_in a0 a2 a4 μ = some zr) : av_MI l yX12_in cX12_in 6 1 (some .boolean) av_wm g [.long a0, .long a2, .long a4] μ zr μ := by
  refine av_ent (own := RX12) (by decide) (Nat.le_of_ble_eq_true rfl) rfl (fun p e s m args below meth c E X hR ls hl => ?_)
  have hl : lv_has ls 6 [(0, .long a0), (2, .long a2), (4, .long a4)] := hl
  obtain ⟨hx, hb, hr, hml, hown, hts, hlocks⟩ := id E
  have hμ : μ = μ := rfl
  unfold fX12_in at h
  refine lv_lload_n hx hb dX12_in_0 rfl (lv_at hl 0 rfl) ?_
  refine lv_lload_n hx hb dX12_in_1 rfl (lv_at hl 1 rfl) ?_
  refine W.lcmp hx hb dX12_in_2 ?_
  refine lv_if_lt (tgt := 17) hx hb dX12_in_3 (by decide) (fun c3 => ?_) (fun c3 => ?_)
  · have h := av_it c3 h
    exact tX12_in_17 E X hμ h hR (lv_sub hl [] rfl)
  · have h := av_if c3 h
    refine lv_lload_n hx hb dX12_in_6 rfl (lv_at hl 0 rfl) ?_
    refine lv_lload hx hb dX12_in_7 (lv_at hl 2 rfl) ?_
    refine W.lcmp hx hb dX12_in_9 ?_
    refine lv_if_gt (tgt := 17) hx hb dX12_in_10 (by decide) (fun c10 => ?_) (fun c10 => ?_)
    · have h := av_it c10 h
      exact tX12_in_17 E X hμ h hR (lv_sub hl [] rfl)
    · have h := av_if c10 h
      refine lv_iconst (v := 1) hx hb dX12_in_13 rfl ?_
      refine lv_goto (tgt := 18) hx hb dX12_in_14 (by decide) ?_
      exact av_rz E hR rfl ⟨Option.some.inj h, hμ.symm⟩ dX12_in_18

set_option maxHeartbeats 4000000 in
set_option maxRecDepth 100000 in
theorem CX12_bad (l : Launch) (g : Gl) {a1 : Int32} {μ : Mem} {zr : Int32} {zm : Mem} (h : fX12_bad a1 μ = some (zr, zm)) : av_MI l yX12_bad cX12_bad 2 1 (some .int) av_wm g [.ref (g.2.2 98), .int a1] μ zr zm := by
  refine av_ent (own := RX12) (by decide) (Nat.le_of_ble_eq_true rfl) rfl (fun p e s m args below meth c E X hR ls hl => ?_)
  have hl : lv_has ls 2 [(0, .ref (g.2.2 98)), (1, .int a1)] := hl
  obtain ⟨hx, hb, hr, hml, hown, hts, hlocks⟩ := id E
  unfold fX12_bad at h
  refine lv_aload_n hx hb dX12_bad_0 rfl (lv_at hl 0 rfl) ?_
  refine gf_X12_20 E X hR av_t98 dX12_bad_1 av_r98_3 ?_
  refine lv_iconst (v := 0) hx hb dX12_bad_4 rfl ?_
  refine lv_dup2_11 hx hb dX12_bad_5 rfl rfl ?_
  obtain ⟨r6, er6, h⟩ := av_bd h
  refine av_il E X hR av_t102 er6 dX12_bad_6 ?_
  refine lv_iconst (v := 1) hx hb dX12_bad_7 rfl ?_
  refine lv_iadd hx hb dX12_bad_8 ?_
  obtain ⟨μ9, eμ9, h⟩ := av_bd h
  refine av_is E X hR av_t102 eμ9 dX12_bad_9 (fun H locs hR => ?_)
  refine lv_iload_n hx hb dX12_bad_10 rfl (lv_at hl 1 rfl) ?_
  exact av_ri E hR (av_r2 h) dX12_bad_11

set_option maxHeartbeats 4000000 in
set_option maxRecDepth 100000 in
theorem CX12_no (l : Launch) (g : Gl) {μ : Mem} {zr : Int32} {zm : Mem} (h : fX12_no μ = some (zr, zm)) : av_MI l yX12_no cX12_no 1 1 (some .int) av_wm g [.ref (g.2.2 98)] μ zr zm := by
  refine av_ent (own := RX12) (by decide) (Nat.le_of_ble_eq_true rfl) rfl (fun p e s m args below meth c E X hR ls hl => ?_)
  have hl : lv_has ls 1 [(0, .ref (g.2.2 98))] := hl
  obtain ⟨hx, hb, hr, hml, hown, hts, hlocks⟩ := id E
  unfold fX12_no at h
  refine lv_aload_n hx hb dX12_no_0 rfl (lv_at hl 0 rfl) ?_
  refine gf_X12_20 E X hR av_t98 dX12_no_1 av_r98_3 ?_
  refine lv_iconst (v := 1) hx hb dX12_no_4 rfl ?_
  refine lv_dup2_11 hx hb dX12_no_5 rfl rfl ?_
  obtain ⟨r6, er6, h⟩ := av_bd h
  refine av_il E X hR av_t102 er6 dX12_no_6 ?_
  refine lv_iconst (v := 1) hx hb dX12_no_7 rfl ?_
  refine lv_iadd hx hb dX12_no_8 ?_
  obtain ⟨μ9, eμ9, h⟩ := av_bd h
  refine av_is E X hR av_t102 eμ9 dX12_no_9 (fun H locs hR => ?_)
  refine lv_bipush (v := (-3)) hx hb dX12_no_10 rfl ?_
  exact av_ri E hR (av_r2 h) dX12_no_12

set_option maxHeartbeats 4000000 in
set_option maxRecDepth 100000 in
theorem CX12_full (l : Launch) (g : Gl) {μ : Mem} {zr : Int32} {zm : Mem} (h : fX12_full μ = some (zr, zm)) : av_MI l yX12_full cX12_full 1 1 (some .int) av_wm g [.ref (g.2.2 98)] μ zr zm := by
  refine av_ent (own := RX12) (by decide) (Nat.le_of_ble_eq_true rfl) rfl (fun p e s m args below meth c E X hR ls hl => ?_)
  have hl : lv_has ls 1 [(0, .ref (g.2.2 98))] := hl
  obtain ⟨hx, hb, hr, hml, hown, hts, hlocks⟩ := id E
  unfold fX12_full at h
  refine lv_aload_n hx hb dX12_full_0 rfl (lv_at hl 0 rfl) ?_
  refine gf_X12_20 E X hR av_t98 dX12_full_1 av_r98_3 ?_
  refine lv_iconst (v := 2) hx hb dX12_full_4 rfl ?_
  refine lv_dup2_11 hx hb dX12_full_5 rfl rfl ?_
  obtain ⟨r6, er6, h⟩ := av_bd h
  refine av_il E X hR av_t102 er6 dX12_full_6 ?_
  refine lv_iconst (v := 1) hx hb dX12_full_7 rfl ?_
  refine lv_iadd hx hb dX12_full_8 ?_
  obtain ⟨μ9, eμ9, h⟩ := av_bd h
  refine av_is E X hR av_t102 eμ9 dX12_full_9 (fun H locs hR => ?_)
  refine lv_bipush (v := (-4)) hx hb dX12_full_10 rfl ?_
  exact av_ri E hR (av_r2 h) dX12_full_12

set_option maxHeartbeats 4000000 in
set_option maxRecDepth 100000 in
theorem tX12_begin_2 {p : Program} {l : Launch} {e : Env} {s : State} {m : MethodId} {args : Array Value} {below : List Frame} {meth : Method} {c : Code} {g : Gl} {zm : Mem} (E : av_E p s m args meth c cX12_begin RX12 2 none) (X : av_X av_wm g s) :
    ∀ (n : Nat) {x0 : Nat} {x1 : Int32} (hx0 : av_t av_wm x0 13) {μ : Mem} {H : Heap} {locs : List Loc} {ls : Array Slot}, fX12_begin_2 n x0 x1 μ = some zm → av_R av_wm g μ s H locs → lv_has ls 2 [(0, .ref (g.2.2 x0)), (1, .int x1)] → W p l e (rmN 1) s m args below meth c H locs 0 0 (MQ below (va_Qv (fun u => u = zm) (av_B av_wm g) (av_A av_wm g)) args s 0 0 (av_A av_wm g)) (F0 m 2 ls []) := by
  obtain ⟨hx, hb, hr, hml, hown, hts, hlocks⟩ := id E
  intro n
  induction n with
  | zero =>
    intro x0 x1 hx0 μ H locs ls h hR hl
    cases h
  | succ n ih =>
    intro x0 x1 hx0 μ H locs ls h hR hl
    unfold fX12_begin_2 at h
    refine lv_iload_n hx hb dX12_begin_2 rfl (lv_at hl 1 rfl) ?_
    refine lv_bipush (v := 69) hx hb dX12_begin_3 rfl ?_
    refine lv_icmp_ge (tgt := 18) hx hb dX12_begin_5 (by decide) (fun c5 => ?_) (fun c5 => ?_)
    · have h := av_it c5 h
      refine lv_aload_n hx hb dX12_begin_18 rfl (lv_at hl 0 rfl) ?_
      refine lv_iconst (v := 5) hx hb dX12_begin_19 rfl ?_
      refine lv_iconst (v := (-1)) hx hb dX12_begin_20 rfl ?_
      obtain ⟨μ21, eμ21, h⟩ := av_bd h
      refine av_is E X hR hx0 eμ21 dX12_begin_21 (fun H locs hR => ?_)
      exact av_rv E hR (Option.some.inj h) dX12_begin_22
    · have h := av_if c5 h
      refine lv_aload_n hx hb dX12_begin_8 rfl (lv_at hl 0 rfl) ?_
      refine lv_iload_n hx hb dX12_begin_9 rfl (lv_at hl 1 rfl) ?_
      refine lv_iconst (v := 0) hx hb dX12_begin_10 rfl ?_
      obtain ⟨μ11, eμ11, h⟩ := av_bd h
      refine av_is E X hR hx0 eμ11 dX12_begin_11 (fun H locs hR => ?_)
      obtain ⟨x1_12, ex1_12, h⟩ := av_bd h
      replace ex1_12 := Option.some.inj ex1_12
      refine lv_iinc (v := x1_12) (lv' := [(1, .int x1_12), (0, .ref (g.2.2 x0))]) hx hb dX12_begin_12 hl (k := 1) rfl ex1_12 (by decide) rfl (fun ls hl => ?_)
      refine lv_goto (tgt := 2) hx hb dX12_begin_15 (by decide) ?_
      exact ih hx0 h hR (lv_sub hl [1, 0] rfl)

set_option maxHeartbeats 4000000 in
set_option maxRecDepth 100000 in
theorem CX12_begin (l : Launch) (g : Gl) {a0 : Nat} (ha0 : av_t av_wm a0 13) {μ : Mem} {zm : Mem} (h : fX12_begin a0 μ = some zm) : av_MV l yX12_begin cX12_begin 2 1 none av_wm g [.ref (g.2.2 a0)] μ zm := by
  refine av_ent (own := RX12) (by decide) (Nat.le_of_ble_eq_true rfl) rfl (fun p e s m args below meth c E X hR ls hl => ?_)
  have hl : lv_has ls 2 [(0, .ref (g.2.2 a0))] := hl
  obtain ⟨hx, hb, hr, hml, hown, hts, hlocks⟩ := id E
  unfold fX12_begin at h
  refine lv_iconst (v := 0) hx hb dX12_begin_0 rfl ?_
  refine lv_istore_n (lv' := [(1, .int 0), (0, .ref (g.2.2 a0))]) hx hb dX12_begin_1 rfl hl (by decide) rfl (fun ls hl => ?_)
  exact tX12_begin_2 E X _ ha0 h hR (lv_sub hl [1, 0] rfl)

set_option maxHeartbeats 4000000 in
set_option maxRecDepth 100000 in
theorem CX12_ledges (l : Launch) (g : Gl) {μ : Mem} {zr : Int32} (h : fX12_ledges μ = some zr) : av_MI l yX12_ledges cX12_ledges 1 1 (some .int) av_wm g [.ref (g.2.2 98)] μ zr μ := by
  refine av_ent (own := RX12) (by decide) (Nat.le_of_ble_eq_true rfl) rfl (fun p e s m args below meth c E X hR ls hl => ?_)
  have hl : lv_has ls 1 [(0, .ref (g.2.2 98))] := hl
  obtain ⟨hx, hb, hr, hml, hown, hts, hlocks⟩ := id E
  have hμ : μ = μ := rfl
  unfold fX12_ledges at h
  refine lv_aload_n hx hb dX12_ledges_0 rfl (lv_at hl 0 rfl) ?_
  refine gf_X12_7 E X hR av_t98 dX12_ledges_1 av_r98_0 ?_
  refine lv_iconst (v := 0) hx hb dX12_ledges_4 rfl ?_
  obtain ⟨r5, er5, h⟩ := av_bd h
  refine av_il E X hR av_t99 er5 dX12_ledges_5 ?_
  exact av_ri E hR ⟨Option.some.inj h, hμ.symm⟩ dX12_ledges_6

set_option maxHeartbeats 4000000 in
set_option maxRecDepth 100000 in
theorem CX12_voters (l : Launch) (g : Gl) {μ : Mem} {zr : Int32} (h : fX12_voters μ = some zr) : av_MI l yX12_voters cX12_voters 1 1 (some .int) av_wm g [.ref (g.2.2 98)] μ zr μ := by
  refine av_ent (own := RX12) (by decide) (Nat.le_of_ble_eq_true rfl) rfl (fun p e s m args below meth c E X hR ls hl => ?_)
  have hl : lv_has ls 1 [(0, .ref (g.2.2 98))] := hl
  obtain ⟨hx, hb, hr, hml, hown, hts, hlocks⟩ := id E
  have hμ : μ = μ := rfl
  unfold fX12_voters at h
  refine lv_aload_n hx hb dX12_voters_0 rfl (lv_at hl 0 rfl) ?_
  refine gf_X12_7 E X hR av_t98 dX12_voters_1 av_r98_0 ?_
  refine lv_iconst (v := 1) hx hb dX12_voters_4 rfl ?_
  obtain ⟨r5, er5, h⟩ := av_bd h
  refine av_il E X hR av_t99 er5 dX12_voters_5 ?_
  exact av_ri E hR ⟨Option.some.inj h, hμ.symm⟩ dX12_voters_6

set_option maxHeartbeats 4000000 in
set_option maxRecDepth 100000 in
theorem CX12_isLedge (l : Launch) (g : Gl) {a1 : Int32} {μ : Mem} {zr : Int32} (h : fX12_isLedge a1 μ = some zr) : av_MI l yX12_isLedge cX12_isLedge 2 2 (some .boolean) av_wm g [.ref (g.2.2 98), .int a1] μ zr μ := by
  refine av_ent (own := RX12) (by decide) (Nat.le_of_ble_eq_true rfl) rfl (fun p e s m args below meth c E X hR ls hl => ?_)
  have hl : lv_has ls 2 [(0, .ref (g.2.2 98)), (1, .int a1)] := hl
  obtain ⟨hx, hb, hr, hml, hown, hts, hlocks⟩ := id E
  have hμ : μ = μ := rfl
  unfold fX12_isLedge at h
  refine lv_iload_n hx hb dX12_isLedge_0 rfl (lv_at hl 1 rfl) ?_
  refine lv_i2l hx hb dX12_isLedge_1 rfl ?_
  refine lv_lconst (v := 0) hx hb dX12_isLedge_2 rfl ?_
  refine lv_aload_n hx hb dX12_isLedge_3 rfl (lv_at hl 0 rfl) ?_
  obtain ⟨r4, er4, h⟩ := av_bd h
  refine av_goI hR (av_cV (As := []) (rest := [.long 0, .long (Int32.toInt64 a1)]) E X hR hl.1 (CX12_ledges l g er4) kk_X12_64 (av_room (by omega) (by decide)) av_t98 (by decide) rfl rfl (Nat.le_of_ble_eq_true rfl) ⟨Nat.zero_le _, Nat.zero_le _⟩ dX12_isLedge_4) (fun H locs hR => ?_)
  refine lv_iconst (v := 1) hx hb dX12_isLedge_7 rfl ?_
  refine lv_isub hx hb dX12_isLedge_8 ?_
  refine lv_i2l hx hb dX12_isLedge_9 rfl ?_
  obtain ⟨r10, er10, h⟩ := av_bd h
  refine av_goI hR (av_cS (As := [.long (Int32.toInt64 a1), .long 0, .long (Int32.toInt64 (r4 - 1))]) (rest := []) E X hR hl.1 (CX12_in l g er10) kk_X12_68 (av_room (by omega) (by decide)) rfl (Nat.le_of_ble_eq_true rfl) ⟨Nat.zero_le _, Nat.zero_le _⟩ dX12_isLedge_10) (fun H locs hR => ?_)
  obtain ⟨z13, ez13, h⟩ := av_bd h
  obtain ⟨rfl, hn13⟩ := av_z_e ez13
  exact av_rz E hR hn13 ⟨Option.some.inj h, hμ.symm⟩ dX12_isLedge_13

set_option maxHeartbeats 4000000 in
set_option maxRecDepth 100000 in
theorem CX12_isVoter (l : Launch) (g : Gl) {a1 : Int32} {μ : Mem} {zr : Int32} (h : fX12_isVoter a1 μ = some zr) : av_MI l yX12_isVoter cX12_isVoter 2 2 (some .boolean) av_wm g [.ref (g.2.2 98), .int a1] μ zr μ := by
  refine av_ent (own := RX12) (by decide) (Nat.le_of_ble_eq_true rfl) rfl (fun p e s m args below meth c E X hR ls hl => ?_)
  have hl : lv_has ls 2 [(0, .ref (g.2.2 98)), (1, .int a1)] := hl
  obtain ⟨hx, hb, hr, hml, hown, hts, hlocks⟩ := id E
  have hμ : μ = μ := rfl
  unfold fX12_isVoter at h
  refine lv_iload_n hx hb dX12_isVoter_0 rfl (lv_at hl 1 rfl) ?_
  refine lv_i2l hx hb dX12_isVoter_1 rfl ?_
  refine lv_lconst (v := 0) hx hb dX12_isVoter_2 rfl ?_
  refine lv_aload_n hx hb dX12_isVoter_3 rfl (lv_at hl 0 rfl) ?_
  obtain ⟨r4, er4, h⟩ := av_bd h
  refine av_goI hR (av_cV (As := []) (rest := [.long 0, .long (Int32.toInt64 a1)]) E X hR hl.1 (CX12_voters l g er4) kk_X12_72 (av_room (by omega) (by decide)) av_t98 (by decide) rfl rfl (Nat.le_of_ble_eq_true rfl) ⟨Nat.zero_le _, Nat.zero_le _⟩ dX12_isVoter_4) (fun H locs hR => ?_)
  refine lv_iconst (v := 1) hx hb dX12_isVoter_7 rfl ?_
  refine lv_isub hx hb dX12_isVoter_8 ?_
  refine lv_i2l hx hb dX12_isVoter_9 rfl ?_
  obtain ⟨r10, er10, h⟩ := av_bd h
  refine av_goI hR (av_cS (As := [.long (Int32.toInt64 a1), .long 0, .long (Int32.toInt64 (r4 - 1))]) (rest := []) E X hR hl.1 (CX12_in l g er10) kk_X12_68 (av_room (by omega) (by decide)) rfl (Nat.le_of_ble_eq_true rfl) ⟨Nat.zero_le _, Nat.zero_le _⟩ dX12_isVoter_10) (fun H locs hR => ?_)
  obtain ⟨z13, ez13, h⟩ := av_bd h
  obtain ⟨rfl, hn13⟩ := av_z_e ez13
  exact av_rz E hR hn13 ⟨Option.some.inj h, hμ.symm⟩ dX12_isVoter_13

set_option maxHeartbeats 4000000 in
set_option maxRecDepth 100000 in
theorem CX12_get (l : Launch) (g : Gl) {a1 : Int32} {a2 : Int32} {μ : Mem} {zr : Int32} (h : fX12_get a1 a2 μ = some zr) : av_MI l yX12_get cX12_get 3 1 (some .int) av_wm g [.ref (g.2.2 98), .int a1, .int a2] μ zr μ := by
  refine av_ent (own := RX12) (by decide) (Nat.le_of_ble_eq_true rfl) rfl (fun p e s m args below meth c E X hR ls hl => ?_)
  have hl : lv_has ls 3 [(0, .ref (g.2.2 98)), (1, .int a1), (2, .int a2)] := hl
  obtain ⟨hx, hb, hr, hml, hown, hts, hlocks⟩ := id E
  have hμ : μ = μ := rfl
  unfold fX12_get at h
  refine lv_aload_n hx hb dX12_get_0 rfl (lv_at hl 0 rfl) ?_
  refine gf_X12_7 E X hR av_t98 dX12_get_1 av_r98_0 ?_
  refine lv_bipush (v := 7) hx hb dX12_get_4 rfl ?_
  refine lv_iconst (v := 4) hx hb dX12_get_6 rfl ?_
  refine lv_iload_n hx hb dX12_get_7 rfl (lv_at hl 1 rfl) ?_
  refine lv_imul hx hb dX12_get_8 ?_
  refine lv_iadd hx hb dX12_get_9 ?_
  refine lv_iload_n hx hb dX12_get_10 rfl (lv_at hl 2 rfl) ?_
  refine lv_iadd hx hb dX12_get_11 ?_
  obtain ⟨r12, er12, h⟩ := av_bd h
  refine av_il E X hR av_t99 er12 dX12_get_12 ?_
  exact av_ri E hR ⟨Option.some.inj h, hμ.symm⟩ dX12_get_13

set_option maxHeartbeats 4000000 in
set_option maxRecDepth 100000 in
theorem CX12_tells (l : Launch) (g : Gl) {a1 : Int32} {a2 : Int32} {μ : Mem} {zr : Int32} (h : fX12_tells a1 a2 μ = some zr) : av_MI l yX12_tells cX12_tells 3 1 (some .int) av_wm g [.ref (g.2.2 98), .int a1, .int a2] μ zr μ := by
  refine av_ent (own := RX12) (by decide) (Nat.le_of_ble_eq_true rfl) rfl (fun p e s m args below meth c E X hR ls hl => ?_)
  have hl : lv_has ls 3 [(0, .ref (g.2.2 98)), (1, .int a1), (2, .int a2)] := hl
  obtain ⟨hx, hb, hr, hml, hown, hts, hlocks⟩ := id E
  have hμ : μ = μ := rfl
  unfold fX12_tells at h
  refine lv_aload_n hx hb dX12_tells_0 rfl (lv_at hl 0 rfl) ?_
  refine gf_X12_7 E X hR av_t98 dX12_tells_1 av_r98_0 ?_
  refine lv_bipush (v := 39) hx hb dX12_tells_4 rfl ?_
  refine lv_iconst (v := 3) hx hb dX12_tells_6 rfl ?_
  refine lv_iload_n hx hb dX12_tells_7 rfl (lv_at hl 1 rfl) ?_
  refine lv_imul hx hb dX12_tells_8 ?_
  refine lv_iadd hx hb dX12_tells_9 ?_
  refine lv_iload_n hx hb dX12_tells_10 rfl (lv_at hl 2 rfl) ?_
  refine lv_iadd hx hb dX12_tells_11 ?_
  obtain ⟨r12, er12, h⟩ := av_bd h
  refine av_il E X hR av_t99 er12 dX12_tells_12 ?_
  exact av_ri E hR ⟨Option.some.inj h, hμ.symm⟩ dX12_tells_13

set_option maxHeartbeats 4000000 in
set_option maxRecDepth 100000 in
theorem CX12_mountain (l : Launch) (g : Gl) {μ : Mem} {zr : Int32} {zm : Mem} (h : fX12_mountain μ = some (zr, zm)) : av_MI l yX12_mountain cX12_mountain 2 2 (some .int) av_wm g [.ref (g.2.2 98)] μ zr zm := by
  refine av_ent (own := RX12) (by decide) (Nat.le_of_ble_eq_true rfl) rfl (fun p e s m args below meth c E X hR ls hl => ?_)
  have hl : lv_has ls 2 [(0, .ref (g.2.2 98))] := hl
  obtain ⟨hx, hb, hr, hml, hown, hts, hlocks⟩ := id E
  unfold fX12_mountain at h
  refine lv_aload_n hx hb dX12_mountain_0 rfl (lv_at hl 0 rfl) ?_
  obtain ⟨r1, er1, h⟩ := av_bd h
  refine av_goI hR (av_cV (As := []) (rest := []) E X hR hl.1 (CX12_ledges l g er1) kk_X12_64 (av_room (by omega) (by decide)) av_t98 (by decide) rfl rfl (Nat.le_of_ble_eq_true rfl) ⟨Nat.zero_le _, Nat.zero_le _⟩ dX12_mountain_1) (fun H locs hR => ?_)
  refine lv_istore_n (lv' := [(1, .int r1), (0, .ref (g.2.2 98))]) hx hb dX12_mountain_4 rfl hl (by decide) rfl (fun ls hl => ?_)
  refine lv_aload_n hx hb dX12_mountain_5 rfl (lv_at hl 1 rfl) ?_
  refine gf_X12_7 E X hR av_t98 dX12_mountain_6 av_r98_0 ?_
  obtain ⟨μ9, eμ9, h⟩ := av_bd h
  refine av_goV hR (av_cS (As := [.ref (g.2.2 99)]) (rest := []) E X hR hl.1 (CX12_begin l g av_t99 eμ9) kk_X12_60 (av_room (by omega) (by decide)) rfl (Nat.le_of_ble_eq_true rfl) ⟨Nat.zero_le _, Nat.zero_le _⟩ dX12_mountain_9) (fun H locs hR => ?_)
  refine lv_iload_n hx hb dX12_mountain_12 rfl (lv_at hl 0 rfl) ?_
  exact av_ri E hR (av_r2 h) dX12_mountain_13

set_option maxHeartbeats 4000000 in
set_option maxRecDepth 100000 in
theorem CX12_layLedge (l : Launch) (g : Gl) {a0 : Nat} {a1 : Int32} {a2 : Int32} {a3 : Int32} (ha0 : av_t av_wm a0 13) {μ : Mem} {zm : Mem} (h : fX12_layLedge a0 a1 a2 a3 μ = some zm) : av_MV l yX12_layLedge cX12_layLedge 5 1 none av_wm g [.ref (g.2.2 a0), .int a1, .int a2, .int a3] μ zm := by
  refine av_ent (own := RX12) (by decide) (Nat.le_of_ble_eq_true rfl) rfl (fun p e s m args below meth c E X hR ls hl => ?_)
  have hl : lv_has ls 5 [(0, .ref (g.2.2 a0)), (1, .int a1), (2, .int a2), (3, .int a3)] := hl
  obtain ⟨hx, hb, hr, hml, hown, hts, hlocks⟩ := id E
  unfold fX12_layLedge at h
  refine lv_bipush (v := 7) hx hb dX12_layLedge_0 rfl ?_
  refine lv_iconst (v := 4) hx hb dX12_layLedge_2 rfl ?_
  refine lv_aload_n hx hb dX12_layLedge_3 rfl (lv_at hl 0 rfl) ?_
  refine lv_iconst (v := 0) hx hb dX12_layLedge_4 rfl ?_
  obtain ⟨r5, er5, h⟩ := av_bd h
  refine av_il E X hR ha0 er5 dX12_layLedge_5 ?_
  refine lv_imul hx hb dX12_layLedge_6 ?_
  refine lv_iadd hx hb dX12_layLedge_7 ?_
  obtain ⟨x4_8, ex4_8, h⟩ := av_bd h
  replace ex4_8 := Option.some.inj ex4_8
  rw [ex4_8]
  refine lv_istore (lv' := [(4, .int x4_8), (0, .ref (g.2.2 a0)), (1, .int a1), (2, .int a2), (3, .int a3)]) hx hb dX12_layLedge_8 hl (by decide) rfl (fun ls hl => ?_)
  refine lv_aload_n hx hb dX12_layLedge_10 rfl (lv_at hl 1 rfl) ?_
  refine lv_iload hx hb dX12_layLedge_11 (lv_at hl 0 rfl) ?_
  refine lv_iconst (v := 0) hx hb dX12_layLedge_13 rfl ?_
  refine lv_iadd hx hb dX12_layLedge_14 ?_
  refine lv_iload_n hx hb dX12_layLedge_15 rfl (lv_at hl 2 rfl) ?_
  obtain ⟨μ16, eμ16, h⟩ := av_bd h
  refine av_is E X hR ha0 eμ16 dX12_layLedge_16 (fun H locs hR => ?_)
  refine lv_aload_n hx hb dX12_layLedge_17 rfl (lv_at hl 1 rfl) ?_
  refine lv_iload hx hb dX12_layLedge_18 (lv_at hl 0 rfl) ?_
  refine lv_iconst (v := 1) hx hb dX12_layLedge_20 rfl ?_
  refine lv_iadd hx hb dX12_layLedge_21 ?_
  refine lv_iload_n hx hb dX12_layLedge_22 rfl (lv_at hl 3 rfl) ?_
  obtain ⟨μ23, eμ23, h⟩ := av_bd h
  refine av_is E X hR ha0 eμ23 dX12_layLedge_23 (fun H locs hR => ?_)
  refine lv_aload_n hx hb dX12_layLedge_24 rfl (lv_at hl 1 rfl) ?_
  refine lv_iload hx hb dX12_layLedge_25 (lv_at hl 0 rfl) ?_
  refine lv_iconst (v := 2) hx hb dX12_layLedge_27 rfl ?_
  refine lv_iadd hx hb dX12_layLedge_28 ?_
  refine lv_iconst (v := 0) hx hb dX12_layLedge_29 rfl ?_
  obtain ⟨μ30, eμ30, h⟩ := av_bd h
  refine av_is E X hR ha0 eμ30 dX12_layLedge_30 (fun H locs hR => ?_)
  refine lv_aload_n hx hb dX12_layLedge_31 rfl (lv_at hl 1 rfl) ?_
  refine lv_iload hx hb dX12_layLedge_32 (lv_at hl 0 rfl) ?_
  refine lv_iconst (v := 3) hx hb dX12_layLedge_34 rfl ?_
  refine lv_iadd hx hb dX12_layLedge_35 ?_
  refine lv_iload_n hx hb dX12_layLedge_36 rfl (lv_at hl 4 rfl) ?_
  obtain ⟨μ37, eμ37, h⟩ := av_bd h
  refine av_is E X hR ha0 eμ37 dX12_layLedge_37 (fun H locs hR => ?_)
  refine lv_aload_n hx hb dX12_layLedge_38 rfl (lv_at hl 1 rfl) ?_
  refine lv_iconst (v := 0) hx hb dX12_layLedge_39 rfl ?_
  refine lv_dup2_11 hx hb dX12_layLedge_40 rfl rfl ?_
  obtain ⟨r41, er41, h⟩ := av_bd h
  refine av_il E X hR ha0 er41 dX12_layLedge_41 ?_
  refine lv_iconst (v := 1) hx hb dX12_layLedge_42 rfl ?_
  refine lv_iadd hx hb dX12_layLedge_43 ?_
  obtain ⟨μ44, eμ44, h⟩ := av_bd h
  refine av_is E X hR ha0 eμ44 dX12_layLedge_44 (fun H locs hR => ?_)
  exact av_rv E hR (Option.some.inj h) dX12_layLedge_45

set_option maxHeartbeats 4000000 in
set_option maxRecDepth 100000 in
theorem tX12_ledge_42 {p : Program} {l : Launch} {e : Env} {s : State} {m : MethodId} {args : Array Value} {below : List Frame} {meth : Method} {c : Code} {g : Gl} {zr : Int32} {zm : Mem} (E : av_E p s m args meth c cX12_ledge RX12 4 (some .int)) (X : av_X av_wm g s) :
    ∀ {μ : Mem} {H : Heap} {locs : List Loc} {ls : Array Slot}, fX12_ledge_42 μ = some (zr, zm) → av_R av_wm g μ s H locs → lv_has ls 4 [(0, .ref (g.2.2 98))] → W p l e (rmN 2) s m args below meth c H locs 0 0 (MQ below (va_Qi (fun r1 u => r1 = zr ∧ u = zm) (av_B av_wm g) (av_A av_wm g)) args s 0 0 (av_A av_wm g)) (F0 m 42 ls []) := by
  obtain ⟨hx, hb, hr, hml, hown, hts, hlocks⟩ := id E
  intro μ H locs ls h hR hl
  unfold fX12_ledge_42 at h
  refine lv_aload_n hx hb dX12_ledge_42 rfl (lv_at hl 0 rfl) ?_
  refine lv_bipush (v := (-2)) hx hb dX12_ledge_43 rfl ?_
  obtain ⟨r45, μ45, er45, h⟩ := av_bd2 h
  refine av_goI hR (av_cV (As := [.int (-2)]) (rest := []) E X hR hl.1 (CX12_bad l g er45) kk_X12_81 (av_room (by omega) (by decide)) av_t98 (by decide) rfl rfl (Nat.le_of_ble_eq_true rfl) ⟨Nat.zero_le _, Nat.zero_le _⟩ dX12_ledge_45) (fun H locs hR => ?_)
  exact av_ri E hR (av_r2 h) dX12_ledge_48

set_option maxHeartbeats 4000000 in
set_option maxRecDepth 100000 in
theorem CX12_ledge (l : Launch) (g : Gl) {a1 : Int32} {a2 : Int32} {a3 : Int32} {μ : Mem} {zr : Int32} {zm : Mem} (h : fX12_ledge a1 a2 a3 μ = some (zr, zm)) : av_MI l yX12_ledge cX12_ledge 4 2 (some .int) av_wm g [.ref (g.2.2 98), .int a1, .int a2, .int a3] μ zr zm := by
  refine av_ent (own := RX12) (by decide) (Nat.le_of_ble_eq_true rfl) rfl (fun p e s m args below meth c E X hR ls hl => ?_)
  have hl : lv_has ls 4 [(0, .ref (g.2.2 98)), (1, .int a1), (2, .int a2), (3, .int a3)] := hl
  obtain ⟨hx, hb, hr, hml, hown, hts, hlocks⟩ := id E
  unfold fX12_ledge at h
  refine lv_iload_n hx hb dX12_ledge_0 rfl (lv_at hl 1 rfl) ?_
  refine lv_i2l hx hb dX12_ledge_1 rfl ?_
  refine lv_lconst (v := 1) hx hb dX12_ledge_2 rfl ?_
  refine lv_ldc2 (v := 60) hx hb hown (hts _ kL_X12_75) dX12_ledge_3 ?_
  obtain ⟨r6, er6, h⟩ := av_bd h
  refine av_goI hR (av_cS (As := [.long (Int32.toInt64 a1), .long 1, .long 60]) (rest := []) E X hR hl.1 (CX12_in l g er6) kk_X12_68 (av_room (by omega) (by decide)) rfl (Nat.le_of_ble_eq_true rfl) ⟨Nat.zero_le _, Nat.zero_le _⟩ dX12_ledge_6) (fun H locs hR => ?_)
  refine lv_if_eq (tgt := 42) hx hb dX12_ledge_9 (by decide) (fun c9 => ?_) (fun c9 => ?_)
  · have h := av_it c9 h
    exact tX12_ledge_42 E X h hR (lv_sub hl [0] rfl)
  · have h := av_if c9 h
    refine lv_iload_n hx hb dX12_ledge_12 rfl (lv_at hl 2 rfl) ?_
    refine lv_i2l hx hb dX12_ledge_13 rfl ?_
    refine lv_lconst (v := 0) hx hb dX12_ledge_14 rfl ?_
    refine lv_ldc2 (v := 30) hx hb hown (hts _ kL_X12_77) dX12_ledge_15 ?_
    obtain ⟨r18, er18, h⟩ := av_bd h
    refine av_goI hR (av_cS (As := [.long (Int32.toInt64 a2), .long 0, .long 30]) (rest := []) E X hR hl.1 (CX12_in l g er18) kk_X12_68 (av_room (by omega) (by decide)) rfl (Nat.le_of_ble_eq_true rfl) ⟨Nat.zero_le _, Nat.zero_le _⟩ dX12_ledge_18) (fun H locs hR => ?_)
    refine lv_if_eq (tgt := 42) hx hb dX12_ledge_21 (by decide) (fun c21 => ?_) (fun c21 => ?_)
    · have h := av_it c21 h
      exact tX12_ledge_42 E X h hR (lv_sub hl [0] rfl)
    · have h := av_if c21 h
      refine lv_iload_n hx hb dX12_ledge_24 rfl (lv_at hl 3 rfl) ?_
      refine lv_i2l hx hb dX12_ledge_25 rfl ?_
      refine lv_ldc2 (v := (-1)) hx hb hown (hts _ kL_X12_79) dX12_ledge_26 ?_
      refine lv_aload_n hx hb dX12_ledge_29 rfl (lv_at hl 0 rfl) ?_
      obtain ⟨r30, er30, h⟩ := av_bd h
      refine av_goI hR (av_cV (As := []) (rest := [.long (-1), .long (Int32.toInt64 a3)]) E X hR hl.1 (CX12_ledges l g er30) kk_X12_64 (av_room (by omega) (by decide)) av_t98 (by decide) rfl rfl (Nat.le_of_ble_eq_true rfl) ⟨Nat.zero_le _, Nat.zero_le _⟩ dX12_ledge_30) (fun H locs hR => ?_)
      refine lv_iconst (v := 1) hx hb dX12_ledge_33 rfl ?_
      refine lv_isub hx hb dX12_ledge_34 ?_
      refine lv_i2l hx hb dX12_ledge_35 rfl ?_
      obtain ⟨r36, er36, h⟩ := av_bd h
      refine av_goI hR (av_cS (As := [.long (Int32.toInt64 a3), .long (-1), .long (Int32.toInt64 (r30 - 1))]) (rest := []) E X hR hl.1 (CX12_in l g er36) kk_X12_68 (av_room (by omega) (by decide)) rfl (Nat.le_of_ble_eq_true rfl) ⟨Nat.zero_le _, Nat.zero_le _⟩ dX12_ledge_36) (fun H locs hR => ?_)
      refine lv_if_ne (tgt := 49) hx hb dX12_ledge_39 (by decide) (fun c39 => ?_) (fun c39 => ?_)
      · have h := av_if c39 h
        refine lv_aload_n hx hb dX12_ledge_49 rfl (lv_at hl 0 rfl) ?_
        obtain ⟨r50, er50, h⟩ := av_bd h
        refine av_goI hR (av_cV (As := []) (rest := []) E X hR hl.1 (CX12_ledges l g er50) kk_X12_64 (av_room (by omega) (by decide)) av_t98 (by decide) rfl rfl (Nat.le_of_ble_eq_true rfl) ⟨Nat.zero_le _, Nat.zero_le _⟩ dX12_ledge_50) (fun H locs hR => ?_)
        refine lv_bipush (v := 8) hx hb dX12_ledge_53 rfl ?_
        refine lv_icmp_ne (tgt := 63) hx hb dX12_ledge_55 (by decide) (fun c55 => ?_) (fun c55 => ?_)
        · have h := av_if c55 h
          refine lv_aload_n hx hb dX12_ledge_63 rfl (lv_at hl 0 rfl) ?_
          refine gf_X12_7 E X hR av_t98 dX12_ledge_64 av_r98_0 ?_
          refine lv_iload_n hx hb dX12_ledge_67 rfl (lv_at hl 1 rfl) ?_
          refine lv_iload_n hx hb dX12_ledge_68 rfl (lv_at hl 2 rfl) ?_
          refine lv_iload_n hx hb dX12_ledge_69 rfl (lv_at hl 3 rfl) ?_
          obtain ⟨μ70, eμ70, h⟩ := av_bd h
          refine av_goV hR (av_cS (As := [.ref (g.2.2 99), .int a1, .int a2, .int a3]) (rest := []) E X hR hl.1 (CX12_layLedge l g av_t99 eμ70) kk_X12_88 (av_room (by omega) (by decide)) rfl (Nat.le_of_ble_eq_true rfl) ⟨Nat.zero_le _, Nat.zero_le _⟩ dX12_ledge_70) (fun H locs hR => ?_)
          refine lv_aload_n hx hb dX12_ledge_73 rfl (lv_at hl 0 rfl) ?_
          refine gf_X12_7 E X hR av_t98 dX12_ledge_74 av_r98_0 ?_
          refine lv_iconst (v := 4) hx hb dX12_ledge_77 rfl ?_
          refine lv_iconst (v := 0) hx hb dX12_ledge_78 rfl ?_
          obtain ⟨μ79, eμ79, h⟩ := av_bd h
          refine av_is E X hR av_t99 eμ79 dX12_ledge_79 (fun H locs hR => ?_)
          refine lv_aload_n hx hb dX12_ledge_80 rfl (lv_at hl 0 rfl) ?_
          obtain ⟨r81, er81, h⟩ := av_bd h
          refine av_goI hR (av_cV (As := []) (rest := []) E X hR hl.1 (CX12_ledges l g er81) kk_X12_64 (av_room (by omega) (by decide)) av_t98 (by decide) rfl rfl (Nat.le_of_ble_eq_true rfl) ⟨Nat.zero_le _, Nat.zero_le _⟩ dX12_ledge_81) (fun H locs hR => ?_)
          refine lv_iconst (v := 1) hx hb dX12_ledge_84 rfl ?_
          refine lv_isub hx hb dX12_ledge_85 ?_
          exact av_ri E hR (av_r2 h) dX12_ledge_86
        · have h := av_it c55 h
          refine lv_aload_n hx hb dX12_ledge_58 rfl (lv_at hl 0 rfl) ?_
          obtain ⟨r59, μ59, er59, h⟩ := av_bd2 h
          refine av_goI hR (av_cV (As := []) (rest := []) E X hR hl.1 (CX12_full l g er59) kk_X12_85 (av_room (by omega) (by decide)) av_t98 (by decide) rfl rfl (Nat.le_of_ble_eq_true rfl) ⟨Nat.zero_le _, Nat.zero_le _⟩ dX12_ledge_59) (fun H locs hR => ?_)
          exact av_ri E hR (av_r2 h) dX12_ledge_62
      · have h := av_it c39 h
        exact tX12_ledge_42 E X h hR (lv_sub hl [0] rfl)

set_option maxHeartbeats 4000000 in
set_option maxRecDepth 100000 in
theorem CX12_layVoter (l : Launch) (g : Gl) {a0 : Nat} {a1 : Int32} {a2 : Int32} {a3 : Int32} (ha0 : av_t av_wm a0 13) {μ : Mem} {zm : Mem} (h : fX12_layVoter a0 a1 a2 a3 μ = some zm) : av_MV l yX12_layVoter cX12_layVoter 5 1 none av_wm g [.ref (g.2.2 a0), .int a1, .int a2, .int a3] μ zm := by
  refine av_ent (own := RX12) (by decide) (Nat.le_of_ble_eq_true rfl) rfl (fun p e s m args below meth c E X hR ls hl => ?_)
  have hl : lv_has ls 5 [(0, .ref (g.2.2 a0)), (1, .int a1), (2, .int a2), (3, .int a3)] := hl
  obtain ⟨hx, hb, hr, hml, hown, hts, hlocks⟩ := id E
  unfold fX12_layVoter at h
  refine lv_bipush (v := 39) hx hb dX12_layVoter_0 rfl ?_
  refine lv_iconst (v := 3) hx hb dX12_layVoter_2 rfl ?_
  refine lv_aload_n hx hb dX12_layVoter_3 rfl (lv_at hl 0 rfl) ?_
  refine lv_iconst (v := 1) hx hb dX12_layVoter_4 rfl ?_
  obtain ⟨r5, er5, h⟩ := av_bd h
  refine av_il E X hR ha0 er5 dX12_layVoter_5 ?_
  refine lv_imul hx hb dX12_layVoter_6 ?_
  refine lv_iadd hx hb dX12_layVoter_7 ?_
  obtain ⟨x4_8, ex4_8, h⟩ := av_bd h
  replace ex4_8 := Option.some.inj ex4_8
  rw [ex4_8]
  refine lv_istore (lv' := [(4, .int x4_8), (0, .ref (g.2.2 a0)), (1, .int a1), (2, .int a2), (3, .int a3)]) hx hb dX12_layVoter_8 hl (by decide) rfl (fun ls hl => ?_)
  refine lv_aload_n hx hb dX12_layVoter_10 rfl (lv_at hl 1 rfl) ?_
  refine lv_iload hx hb dX12_layVoter_11 (lv_at hl 0 rfl) ?_
  refine lv_iconst (v := 0) hx hb dX12_layVoter_13 rfl ?_
  refine lv_iadd hx hb dX12_layVoter_14 ?_
  refine lv_iload_n hx hb dX12_layVoter_15 rfl (lv_at hl 2 rfl) ?_
  obtain ⟨μ16, eμ16, h⟩ := av_bd h
  refine av_is E X hR ha0 eμ16 dX12_layVoter_16 (fun H locs hR => ?_)
  refine lv_aload_n hx hb dX12_layVoter_17 rfl (lv_at hl 1 rfl) ?_
  refine lv_iload hx hb dX12_layVoter_18 (lv_at hl 0 rfl) ?_
  refine lv_iconst (v := 1) hx hb dX12_layVoter_20 rfl ?_
  refine lv_iadd hx hb dX12_layVoter_21 ?_
  refine lv_iload_n hx hb dX12_layVoter_22 rfl (lv_at hl 3 rfl) ?_
  obtain ⟨μ23, eμ23, h⟩ := av_bd h
  refine av_is E X hR ha0 eμ23 dX12_layVoter_23 (fun H locs hR => ?_)
  refine lv_aload_n hx hb dX12_layVoter_24 rfl (lv_at hl 1 rfl) ?_
  refine lv_iload hx hb dX12_layVoter_25 (lv_at hl 0 rfl) ?_
  refine lv_iconst (v := 2) hx hb dX12_layVoter_27 rfl ?_
  refine lv_iadd hx hb dX12_layVoter_28 ?_
  refine lv_iload_n hx hb dX12_layVoter_29 rfl (lv_at hl 4 rfl) ?_
  obtain ⟨μ30, eμ30, h⟩ := av_bd h
  refine av_is E X hR ha0 eμ30 dX12_layVoter_30 (fun H locs hR => ?_)
  refine lv_aload_n hx hb dX12_layVoter_31 rfl (lv_at hl 1 rfl) ?_
  refine lv_iconst (v := 1) hx hb dX12_layVoter_32 rfl ?_
  refine lv_dup2_11 hx hb dX12_layVoter_33 rfl rfl ?_
  obtain ⟨r34, er34, h⟩ := av_bd h
  refine av_il E X hR ha0 er34 dX12_layVoter_34 ?_
  refine lv_iconst (v := 1) hx hb dX12_layVoter_35 rfl ?_
  refine lv_iadd hx hb dX12_layVoter_36 ?_
  obtain ⟨μ37, eμ37, h⟩ := av_bd h
  refine av_is E X hR ha0 eμ37 dX12_layVoter_37 (fun H locs hR => ?_)
  exact av_rv E hR (Option.some.inj h) dX12_layVoter_38

set_option maxHeartbeats 4000000 in
set_option maxRecDepth 100000 in
theorem tX12_voter_32 {p : Program} {l : Launch} {e : Env} {s : State} {m : MethodId} {args : Array Value} {below : List Frame} {meth : Method} {c : Code} {g : Gl} {zr : Int32} {zm : Mem} (E : av_E p s m args meth c cX12_voter RX12 4 (some .int)) (X : av_X av_wm g s) :
    ∀ {μ : Mem} {H : Heap} {locs : List Loc} {ls : Array Slot}, fX12_voter_32 μ = some (zr, zm) → av_R av_wm g μ s H locs → lv_has ls 4 [(0, .ref (g.2.2 98))] → W p l e (rmN 3) s m args below meth c H locs 0 0 (MQ below (va_Qi (fun r1 u => r1 = zr ∧ u = zm) (av_B av_wm g) (av_A av_wm g)) args s 0 0 (av_A av_wm g)) (F0 m 32 ls []) := by
  obtain ⟨hx, hb, hr, hml, hown, hts, hlocks⟩ := id E
  intro μ H locs ls h hR hl
  unfold fX12_voter_32 at h
  refine lv_aload_n hx hb dX12_voter_32 rfl (lv_at hl 0 rfl) ?_
  refine lv_bipush (v := (-2)) hx hb dX12_voter_33 rfl ?_
  obtain ⟨r35, μ35, er35, h⟩ := av_bd2 h
  refine av_goI hR (av_cV (As := [.int (-2)]) (rest := []) E X hR hl.1 (CX12_bad l g er35) kk_X12_81 (av_room (by omega) (by decide)) av_t98 (by decide) rfl rfl (Nat.le_of_ble_eq_true rfl) ⟨Nat.zero_le _, Nat.zero_le _⟩ dX12_voter_35) (fun H locs hR => ?_)
  exact av_ri E hR (av_r2 h) dX12_voter_38

set_option maxHeartbeats 4000000 in
set_option maxRecDepth 100000 in
theorem CX12_voter (l : Launch) (g : Gl) {a1 : Int32} {a2 : Int32} {a3 : Int32} {μ : Mem} {zr : Int32} {zm : Mem} (h : fX12_voter a1 a2 a3 μ = some (zr, zm)) : av_MI l yX12_voter cX12_voter 4 3 (some .int) av_wm g [.ref (g.2.2 98), .int a1, .int a2, .int a3] μ zr zm := by
  refine av_ent (own := RX12) (by decide) (Nat.le_of_ble_eq_true rfl) rfl (fun p e s m args below meth c E X hR ls hl => ?_)
  have hl : lv_has ls 4 [(0, .ref (g.2.2 98)), (1, .int a1), (2, .int a2), (3, .int a3)] := hl
  obtain ⟨hx, hb, hr, hml, hown, hts, hlocks⟩ := id E
  unfold fX12_voter at h
  refine lv_iload_n hx hb dX12_voter_0 rfl (lv_at hl 1 rfl) ?_
  refine lv_i2l hx hb dX12_voter_1 rfl ?_
  refine lv_lconst (v := 0) hx hb dX12_voter_2 rfl ?_
  refine lv_ldc2 (v := 5) hx hb hown (hts _ kL_X12_92) dX12_voter_3 ?_
  obtain ⟨r6, er6, h⟩ := av_bd h
  refine av_goI hR (av_cS (As := [.long (Int32.toInt64 a1), .long 0, .long 5]) (rest := []) E X hR hl.1 (CX12_in l g er6) kk_X12_68 (av_room (by omega) (by decide)) rfl (Nat.le_of_ble_eq_true rfl) ⟨Nat.zero_le _, Nat.zero_le _⟩ dX12_voter_6) (fun H locs hR => ?_)
  refine lv_if_eq (tgt := 32) hx hb dX12_voter_9 (by decide) (fun c9 => ?_) (fun c9 => ?_)
  · have h := av_it c9 h
    exact tX12_voter_32 E X h hR (lv_sub hl [0] rfl)
  · have h := av_if c9 h
    refine lv_aload_n hx hb dX12_voter_12 rfl (lv_at hl 0 rfl) ?_
    refine lv_iload_n hx hb dX12_voter_13 rfl (lv_at hl 2 rfl) ?_
    obtain ⟨r14, er14, h⟩ := av_bd h
    refine av_goI hR (av_cV (As := [.int a2]) (rest := []) E X hR hl.1 (CX12_isLedge l g er14) kk_X12_94 (av_room (by omega) (by decide)) av_t98 (by decide) rfl rfl (Nat.le_of_ble_eq_true rfl) ⟨Nat.zero_le _, Nat.zero_le _⟩ dX12_voter_14) (fun H locs hR => ?_)
    refine lv_if_eq (tgt := 32) hx hb dX12_voter_17 (by decide) (fun c17 => ?_) (fun c17 => ?_)
    · have h := av_it c17 h
      exact tX12_voter_32 E X h hR (lv_sub hl [0] rfl)
    · have h := av_if c17 h
      refine lv_iload_n hx hb dX12_voter_20 rfl (lv_at hl 3 rfl) ?_
      refine lv_i2l hx hb dX12_voter_21 rfl ?_
      refine lv_lconst (v := 1) hx hb dX12_voter_22 rfl ?_
      refine lv_ldc2 (v := 9) hx hb hown (hts _ kL_X12_98) dX12_voter_23 ?_
      obtain ⟨r26, er26, h⟩ := av_bd h
      refine av_goI hR (av_cS (As := [.long (Int32.toInt64 a3), .long 1, .long 9]) (rest := []) E X hR hl.1 (CX12_in l g er26) kk_X12_68 (av_room (by omega) (by decide)) rfl (Nat.le_of_ble_eq_true rfl) ⟨Nat.zero_le _, Nat.zero_le _⟩ dX12_voter_26) (fun H locs hR => ?_)
      refine lv_if_ne (tgt := 39) hx hb dX12_voter_29 (by decide) (fun c29 => ?_) (fun c29 => ?_)
      · have h := av_if c29 h
        refine lv_aload_n hx hb dX12_voter_39 rfl (lv_at hl 0 rfl) ?_
        obtain ⟨r40, er40, h⟩ := av_bd h
        refine av_goI hR (av_cV (As := []) (rest := []) E X hR hl.1 (CX12_voters l g er40) kk_X12_72 (av_room (by omega) (by decide)) av_t98 (by decide) rfl rfl (Nat.le_of_ble_eq_true rfl) ⟨Nat.zero_le _, Nat.zero_le _⟩ dX12_voter_40) (fun H locs hR => ?_)
        refine lv_bipush (v := 6) hx hb dX12_voter_43 rfl ?_
        refine lv_icmp_ne (tgt := 53) hx hb dX12_voter_45 (by decide) (fun c45 => ?_) (fun c45 => ?_)
        · have h := av_if c45 h
          refine lv_aload_n hx hb dX12_voter_53 rfl (lv_at hl 0 rfl) ?_
          refine gf_X12_7 E X hR av_t98 dX12_voter_54 av_r98_0 ?_
          refine lv_iload_n hx hb dX12_voter_57 rfl (lv_at hl 1 rfl) ?_
          refine lv_iload_n hx hb dX12_voter_58 rfl (lv_at hl 2 rfl) ?_
          refine lv_iload_n hx hb dX12_voter_59 rfl (lv_at hl 3 rfl) ?_
          obtain ⟨μ60, eμ60, h⟩ := av_bd h
          refine av_goV hR (av_cS (As := [.ref (g.2.2 99), .int a1, .int a2, .int a3]) (rest := []) E X hR hl.1 (CX12_layVoter l g av_t99 eμ60) kk_X12_100 (av_room (by omega) (by decide)) rfl (Nat.le_of_ble_eq_true rfl) ⟨Nat.zero_le _, Nat.zero_le _⟩ dX12_voter_60) (fun H locs hR => ?_)
          refine lv_aload_n hx hb dX12_voter_63 rfl (lv_at hl 0 rfl) ?_
          refine gf_X12_7 E X hR av_t98 dX12_voter_64 av_r98_0 ?_
          refine lv_iconst (v := 4) hx hb dX12_voter_67 rfl ?_
          refine lv_iconst (v := 0) hx hb dX12_voter_68 rfl ?_
          obtain ⟨μ69, eμ69, h⟩ := av_bd h
          refine av_is E X hR av_t99 eμ69 dX12_voter_69 (fun H locs hR => ?_)
          refine lv_aload_n hx hb dX12_voter_70 rfl (lv_at hl 0 rfl) ?_
          obtain ⟨r71, er71, h⟩ := av_bd h
          refine av_goI hR (av_cV (As := []) (rest := []) E X hR hl.1 (CX12_voters l g er71) kk_X12_72 (av_room (by omega) (by decide)) av_t98 (by decide) rfl rfl (Nat.le_of_ble_eq_true rfl) ⟨Nat.zero_le _, Nat.zero_le _⟩ dX12_voter_71) (fun H locs hR => ?_)
          refine lv_iconst (v := 1) hx hb dX12_voter_74 rfl ?_
          refine lv_isub hx hb dX12_voter_75 ?_
          exact av_ri E hR (av_r2 h) dX12_voter_76
        · have h := av_it c45 h
          refine lv_aload_n hx hb dX12_voter_48 rfl (lv_at hl 0 rfl) ?_
          obtain ⟨r49, μ49, er49, h⟩ := av_bd2 h
          refine av_goI hR (av_cV (As := []) (rest := []) E X hR hl.1 (CX12_full l g er49) kk_X12_85 (av_room (by omega) (by decide)) av_t98 (by decide) rfl rfl (Nat.le_of_ble_eq_true rfl) ⟨Nat.zero_le _, Nat.zero_le _⟩ dX12_voter_49) (fun H locs hR => ?_)
          exact av_ri E hR (av_r2 h) dX12_voter_52
      · have h := av_it c29 h
        exact tX12_voter_32 E X h hR (lv_sub hl [0] rfl)

set_option maxHeartbeats 4000000 in
set_option maxRecDepth 100000 in
theorem tX12_layHand_2 {p : Program} {l : Launch} {e : Env} {s : State} {m : MethodId} {args : Array Value} {below : List Frame} {meth : Method} {c : Code} {g : Gl} {zm : Mem} (E : av_E p s m args meth c cX12_layHand RX12 2 none) (X : av_X av_wm g s) :
    ∀ (n : Nat) {x1 : Int32} {μ : Mem} {H : Heap} {locs : List Loc} {ls : Array Slot}, fX12_layHand_2 n x1 μ = some zm → av_R av_wm g μ s H locs → lv_has ls 2 [(0, .ref (g.2.2 98)), (1, .int x1)] → W p l e (rmN 2) s m args below meth c H locs 0 0 (MQ below (va_Qv (fun u => u = zm) (av_B av_wm g) (av_A av_wm g)) args s 0 0 (av_A av_wm g)) (F0 m 2 ls []) := by
  obtain ⟨hx, hb, hr, hml, hown, hts, hlocks⟩ := id E
  intro n
  induction n with
  | zero =>
    intro x1 μ H locs ls h hR hl
    cases h
  | succ n ih =>
    intro x1 μ H locs ls h hR hl
    unfold fX12_layHand_2 at h
    refine lv_iload_n hx hb dX12_layHand_2 rfl (lv_at hl 1 rfl) ?_
    refine lv_aload_n hx hb dX12_layHand_3 rfl (lv_at hl 0 rfl) ?_
    obtain ⟨r4, er4, h⟩ := av_bd h
    refine av_goI hR (av_cV (As := []) (rest := [.int x1]) E X hR hl.1 (CX12_ledges l g er4) kk_X12_64 (av_room (by omega) (by decide)) av_t98 (by decide) rfl rfl (Nat.le_of_ble_eq_true rfl) ⟨Nat.zero_le _, Nat.zero_le _⟩ dX12_layHand_4) (fun H locs hR => ?_)
    refine lv_icmp_ge (tgt := 40) hx hb dX12_layHand_7 (by decide) (fun c7 => ?_) (fun c7 => ?_)
    · have h := av_it c7 h
      refine lv_aload_n hx hb dX12_layHand_40 rfl (lv_at hl 0 rfl) ?_
      refine lv_aload_n hx hb dX12_layHand_41 rfl (lv_at hl 0 rfl) ?_
      refine gf_X12_7 E X hR av_t98 dX12_layHand_42 av_r98_0 ?_
      refine lv_iconst (v := 2) hx hb dX12_layHand_45 rfl ?_
      obtain ⟨r46, er46, h⟩ := av_bd h
      refine av_il E X hR av_t99 er46 dX12_layHand_46 ?_
      obtain ⟨μ47, eμ47, h⟩ := av_bd h
      replace eμ47 := Option.some.inj eμ47
      refine pf_X12_107 E X hR av_t98 dX12_layHand_47 eμ47 (fun H locs hR => ?_)
      refine lv_aload_n hx hb dX12_layHand_50 rfl (lv_at hl 0 rfl) ?_
      refine lv_aload_n hx hb dX12_layHand_51 rfl (lv_at hl 0 rfl) ?_
      refine gf_X12_7 E X hR av_t98 dX12_layHand_52 av_r98_0 ?_
      refine lv_iconst (v := 5) hx hb dX12_layHand_55 rfl ?_
      obtain ⟨r56, er56, h⟩ := av_bd h
      refine av_il E X hR av_t99 er56 dX12_layHand_56 ?_
      obtain ⟨μ57, eμ57, h⟩ := av_bd h
      replace eμ57 := Option.some.inj eμ57
      refine pf_X12_111 E X hR av_t98 dX12_layHand_57 eμ57 (fun H locs hR => ?_)
      refine lv_aload_n hx hb dX12_layHand_60 rfl (lv_at hl 0 rfl) ?_
      refine lv_aload_n hx hb dX12_layHand_61 rfl (lv_at hl 0 rfl) ?_
      refine gf_X12_7 E X hR av_t98 dX12_layHand_62 av_r98_0 ?_
      refine lv_bipush (v := 6) hx hb dX12_layHand_65 rfl ?_
      obtain ⟨r67, er67, h⟩ := av_bd h
      refine av_il E X hR av_t99 er67 dX12_layHand_67 ?_
      obtain ⟨μ68, eμ68, h⟩ := av_bd h
      replace eμ68 := Option.some.inj eμ68
      refine pf_X12_114 E X hR av_t98 dX12_layHand_68 eμ68 (fun H locs hR => ?_)
      exact av_rv E hR (Option.some.inj h) dX12_layHand_71
    · have h := av_if c7 h
      refine lv_aload_n hx hb dX12_layHand_10 rfl (lv_at hl 0 rfl) ?_
      refine gf_X12_27 E X hR av_t98 dX12_layHand_11 av_r98_6 ?_
      refine lv_iload_n hx hb dX12_layHand_14 rfl (lv_at hl 1 rfl) ?_
      refine lv_aload_n hx hb dX12_layHand_15 rfl (lv_at hl 0 rfl) ?_
      refine lv_iload_n hx hb dX12_layHand_16 rfl (lv_at hl 1 rfl) ?_
      refine lv_iconst (v := 1) hx hb dX12_layHand_17 rfl ?_
      obtain ⟨r18, er18, h⟩ := av_bd h
      refine av_goI hR (av_cV (As := [.int x1, .int 1]) (rest := [.int x1, .ref (g.2.2 103)]) E X hR hl.1 (CX12_get l g er18) kk_X12_103 (av_room (by omega) (by decide)) av_t98 (by decide) rfl rfl (Nat.le_of_ble_eq_true rfl) ⟨Nat.zero_le _, Nat.zero_le _⟩ dX12_layHand_18) (fun H locs hR => ?_)
      obtain ⟨μ21, eμ21, h⟩ := av_bd h
      refine av_is E X hR av_t103 eμ21 dX12_layHand_21 (fun H locs hR => ?_)
      refine lv_aload_n hx hb dX12_layHand_22 rfl (lv_at hl 0 rfl) ?_
      refine gf_X12_30 E X hR av_t98 dX12_layHand_23 av_r98_7 ?_
      refine lv_iload_n hx hb dX12_layHand_26 rfl (lv_at hl 1 rfl) ?_
      refine lv_aload_n hx hb dX12_layHand_27 rfl (lv_at hl 0 rfl) ?_
      refine lv_iload_n hx hb dX12_layHand_28 rfl (lv_at hl 1 rfl) ?_
      refine lv_iconst (v := 2) hx hb dX12_layHand_29 rfl ?_
      obtain ⟨r30, er30, h⟩ := av_bd h
      refine av_goI hR (av_cV (As := [.int x1, .int 2]) (rest := [.int x1, .ref (g.2.2 104)]) E X hR hl.1 (CX12_get l g er30) kk_X12_103 (av_room (by omega) (by decide)) av_t98 (by decide) rfl rfl (Nat.le_of_ble_eq_true rfl) ⟨Nat.zero_le _, Nat.zero_le _⟩ dX12_layHand_30) (fun H locs hR => ?_)
      obtain ⟨μ33, eμ33, h⟩ := av_bd h
      refine av_is E X hR av_t104 eμ33 dX12_layHand_33 (fun H locs hR => ?_)
      obtain ⟨x1_34, ex1_34, h⟩ := av_bd h
      replace ex1_34 := Option.some.inj ex1_34
      refine lv_iinc (v := x1_34) (lv' := [(1, .int x1_34), (0, .ref (g.2.2 98))]) hx hb dX12_layHand_34 hl (k := 1) rfl ex1_34 (by decide) rfl (fun ls hl => ?_)
      refine lv_goto (tgt := 2) hx hb dX12_layHand_37 (by decide) ?_
      exact ih h hR (lv_sub hl [1, 0] rfl)

set_option maxHeartbeats 4000000 in
set_option maxRecDepth 100000 in
theorem CX12_layHand (l : Launch) (g : Gl) {μ : Mem} {zm : Mem} (h : fX12_layHand μ = some zm) : av_MV l yX12_layHand cX12_layHand 2 2 none av_wm g [.ref (g.2.2 98)] μ zm := by
  refine av_ent (own := RX12) (by decide) (Nat.le_of_ble_eq_true rfl) rfl (fun p e s m args below meth c E X hR ls hl => ?_)
  have hl : lv_has ls 2 [(0, .ref (g.2.2 98))] := hl
  obtain ⟨hx, hb, hr, hml, hown, hts, hlocks⟩ := id E
  unfold fX12_layHand at h
  refine lv_iconst (v := 0) hx hb dX12_layHand_0 rfl ?_
  refine lv_istore_n (lv' := [(1, .int 0), (0, .ref (g.2.2 98))]) hx hb dX12_layHand_1 rfl hl (by decide) rfl (fun ls hl => ?_)
  exact tX12_layHand_2 E X _ h hR (lv_sub hl [1, 0] rfl)

set_option maxHeartbeats 4000000 in
set_option maxRecDepth 100000 in
theorem CX12_load (l : Launch) (g : Gl) {a1 : Int32} {μ : Mem} {zr : Int32} (h : fX12_load a1 μ = some zr) : av_MI l yX12_load cX12_load 2 1 (some .int) av_wm g [.ref (g.2.2 98), .int a1] μ zr μ := by
  refine av_ent (own := RX12) (by decide) (Nat.le_of_ble_eq_true rfl) rfl (fun p e s m args below meth c E X hR ls hl => ?_)
  have hl : lv_has ls 2 [(0, .ref (g.2.2 98)), (1, .int a1)] := hl
  obtain ⟨hx, hb, hr, hml, hown, hts, hlocks⟩ := id E
  have hμ : μ = μ := rfl
  unfold fX12_load at h
  refine lv_aload_n hx hb dX12_load_0 rfl (lv_at hl 0 rfl) ?_
  refine gf_X12_27 E X hR av_t98 dX12_load_1 av_r98_6 ?_
  refine lv_iload_n hx hb dX12_load_4 rfl (lv_at hl 1 rfl) ?_
  obtain ⟨r5, er5, h⟩ := av_bd h
  refine av_il E X hR av_t103 er5 dX12_load_5 ?_
  refine lv_aload_n hx hb dX12_load_6 rfl (lv_at hl 0 rfl) ?_
  refine gf_X12_30 E X hR av_t98 dX12_load_7 av_r98_7 ?_
  refine lv_iload_n hx hb dX12_load_10 rfl (lv_at hl 1 rfl) ?_
  obtain ⟨r11, er11, h⟩ := av_bd h
  refine av_il E X hR av_t104 er11 dX12_load_11 ?_
  refine lv_iadd hx hb dX12_load_12 ?_
  exact av_ri E hR ⟨Option.some.inj h, hμ.symm⟩ dX12_load_13

set_option maxHeartbeats 4000000 in
set_option maxRecDepth 100000 in
theorem tX12_firstOver_2 {p : Program} {l : Launch} {e : Env} {s : State} {m : MethodId} {args : Array Value} {below : List Frame} {meth : Method} {c : Code} {g : Gl} {zr : Int32} {μ0 : Mem} (E : av_E p s m args meth c cX12_firstOver RX12 2 (some .int)) (X : av_X av_wm g s) :
    ∀ (n : Nat) {x1 : Int32} {μ : Mem} {H : Heap} {locs : List Loc} {ls : Array Slot} (hμ : μ0 = μ), fX12_firstOver_2 n x1 μ = some zr → av_R av_wm g μ s H locs → lv_has ls 2 [(0, .ref (g.2.2 98)), (1, .int x1)] → W p l e (rmN 2) s m args below meth c H locs 0 0 (MQ below (va_Qi (fun r1 u => r1 = zr ∧ u = μ0) (av_B av_wm g) (av_A av_wm g)) args s 0 0 (av_A av_wm g)) (F0 m 2 ls []) := by
  obtain ⟨hx, hb, hr, hml, hown, hts, hlocks⟩ := id E
  intro n
  induction n with
  | zero =>
    intro x1 μ H locs ls hμ h hR hl
    cases h
  | succ n ih =>
    intro x1 μ H locs ls hμ h hR hl
    unfold fX12_firstOver_2 at h
    refine lv_iload_n hx hb dX12_firstOver_2 rfl (lv_at hl 1 rfl) ?_
    refine lv_aload_n hx hb dX12_firstOver_3 rfl (lv_at hl 0 rfl) ?_
    obtain ⟨r4, er4, h⟩ := av_bd h
    refine av_goI hR (av_cV (As := []) (rest := [.int x1]) E X hR hl.1 (CX12_ledges l g er4) kk_X12_64 (av_room (by omega) (by decide)) av_t98 (by decide) rfl rfl (Nat.le_of_ble_eq_true rfl) ⟨Nat.zero_le _, Nat.zero_le _⟩ dX12_firstOver_4) (fun H locs hR => ?_)
    refine lv_icmp_ge (tgt := 32) hx hb dX12_firstOver_7 (by decide) (fun c7 => ?_) (fun c7 => ?_)
    · have h := av_it c7 h
      refine lv_iconst (v := (-1)) hx hb dX12_firstOver_32 rfl ?_
      exact av_ri E hR ⟨Option.some.inj h, hμ.symm⟩ dX12_firstOver_33
    · have h := av_if c7 h
      refine lv_aload_n hx hb dX12_firstOver_10 rfl (lv_at hl 0 rfl) ?_
      refine lv_iload_n hx hb dX12_firstOver_11 rfl (lv_at hl 1 rfl) ?_
      obtain ⟨r12, er12, h⟩ := av_bd h
      refine av_goI hR (av_cV (As := [.int x1]) (rest := []) E X hR hl.1 (CX12_load l g er12) kk_X12_117 (av_room (by omega) (by decide)) av_t98 (by decide) rfl rfl (Nat.le_of_ble_eq_true rfl) ⟨Nat.zero_le _, Nat.zero_le _⟩ dX12_firstOver_12) (fun H locs hR => ?_)
      refine lv_aload_n hx hb dX12_firstOver_15 rfl (lv_at hl 0 rfl) ?_
      refine lv_iload_n hx hb dX12_firstOver_16 rfl (lv_at hl 1 rfl) ?_
      refine lv_iconst (v := 0) hx hb dX12_firstOver_17 rfl ?_
      obtain ⟨r18, er18, h⟩ := av_bd h
      refine av_goI hR (av_cV (As := [.int x1, .int 0]) (rest := [.int r12]) E X hR hl.1 (CX12_get l g er18) kk_X12_103 (av_room (by omega) (by decide)) av_t98 (by decide) rfl rfl (Nat.le_of_ble_eq_true rfl) ⟨Nat.zero_le _, Nat.zero_le _⟩ dX12_firstOver_18) (fun H locs hR => ?_)
      refine lv_icmp_le (tgt := 26) hx hb dX12_firstOver_21 (by decide) (fun c21 => ?_) (fun c21 => ?_)
      · have h := av_it c21 h
        obtain ⟨x1_26, ex1_26, h⟩ := av_bd h
        replace ex1_26 := Option.some.inj ex1_26
        refine lv_iinc (v := x1_26) (lv' := [(1, .int x1_26), (0, .ref (g.2.2 98))]) hx hb dX12_firstOver_26 hl (k := 1) rfl ex1_26 (by decide) rfl (fun ls hl => ?_)
        refine lv_goto (tgt := 2) hx hb dX12_firstOver_29 (by decide) ?_
        exact ih hμ h hR (lv_sub hl [1, 0] rfl)
      · have h := av_if c21 h
        refine lv_iload_n hx hb dX12_firstOver_24 rfl (lv_at hl 1 rfl) ?_
        exact av_ri E hR ⟨Option.some.inj h, hμ.symm⟩ dX12_firstOver_25

set_option maxHeartbeats 4000000 in
set_option maxRecDepth 100000 in
theorem CX12_firstOver (l : Launch) (g : Gl) {μ : Mem} {zr : Int32} (h : fX12_firstOver μ = some zr) : av_MI l yX12_firstOver cX12_firstOver 2 2 (some .int) av_wm g [.ref (g.2.2 98)] μ zr μ := by
  refine av_ent (own := RX12) (by decide) (Nat.le_of_ble_eq_true rfl) rfl (fun p e s m args below meth c E X hR ls hl => ?_)
  have hl : lv_has ls 2 [(0, .ref (g.2.2 98))] := hl
  obtain ⟨hx, hb, hr, hml, hown, hts, hlocks⟩ := id E
  have hμ : μ = μ := rfl
  unfold fX12_firstOver at h
  refine lv_iconst (v := 0) hx hb dX12_firstOver_0 rfl ?_
  refine lv_istore_n (lv' := [(1, .int 0), (0, .ref (g.2.2 98))]) hx hb dX12_firstOver_1 rfl hl (by decide) rfl (fun ls hl => ?_)
  exact tX12_firstOver_2 E X _ hμ h hR (lv_sub hl [1, 0] rfl)

set_option maxHeartbeats 4000000 in
set_option maxRecDepth 100000 in
theorem tX12_comesDown_133 {p : Program} {l : Launch} {e : Env} {s : State} {m : MethodId} {args : Array Value} {below : List Frame} {meth : Method} {c : Code} {g : Gl} {zr : Int32} {zm : Mem} (E : av_E p s m args meth c cX12_comesDown RX12 4 (some .int)) (X : av_X av_wm g s) :
    ∀ {x1 : Int32} {μ : Mem} {H : Heap} {locs : List Loc} {ls : Array Slot}, fX12_comesDown_133 x1 μ = some (zr, zm) → av_R av_wm g μ s H locs → lv_has ls 4 [(1, .int x1)] → W p l e (rmN 3) s m args below meth c H locs 0 0 (MQ below (va_Qi (fun r1 u => r1 = zr ∧ u = zm) (av_B av_wm g) (av_A av_wm g)) args s 0 0 (av_A av_wm g)) (F0 m 133 ls []) := by
  obtain ⟨hx, hb, hr, hml, hown, hts, hlocks⟩ := id E
  intro x1 μ H locs ls h hR hl
  unfold fX12_comesDown_133 at h
  refine lv_iload_n hx hb dX12_comesDown_133 rfl (lv_at hl 0 rfl) ?_
  exact av_ri E hR (av_r2 h) dX12_comesDown_134

set_option maxHeartbeats 4000000 in
set_option maxRecDepth 100000 in
theorem tX12_comesDown_91 {p : Program} {l : Launch} {e : Env} {s : State} {m : MethodId} {args : Array Value} {below : List Frame} {meth : Method} {c : Code} {g : Gl} {zr : Int32} {zm : Mem} (E : av_E p s m args meth c cX12_comesDown RX12 4 (some .int)) (X : av_X av_wm g s) {k17 : Int32 → Int32 → Mem → Option (Int32 × Mem)} (hk17 : ∀ {x1 : Int32} {x2 : Int32} {μ : Mem} {H : Heap} {locs : List Loc} {ls : Array Slot}, k17 x1 x2 μ = some (zr, zm) → av_R av_wm g μ s H locs → lv_has ls 4 [(0, .ref (g.2.2 98)), (1, .int x1), (2, .int x2)] → W p l e (rmN 3) s m args below meth c H locs 0 0 (MQ below (va_Qi (fun r1 u => r1 = zr ∧ u = zm) (av_B av_wm g) (av_A av_wm g)) args s 0 0 (av_A av_wm g)) (F0 m 17 ls [])) :
    ∀ {x1 : Int32} {x2 : Int32} {y1 : Int32} {μ : Mem} {H : Heap} {locs : List Loc} {ls : Array Slot}, fX12_comesDown_91 k17 x1 x2 y1 μ = some (zr, zm) → av_R av_wm g μ s H locs → lv_has ls 4 [(0, .ref (g.2.2 98)), (1, .int x1), (2, .int x2)] → W p l e (rmN 3) s m args below meth c H locs 0 0 (MQ below (va_Qi (fun r1 u => r1 = zr ∧ u = zm) (av_B av_wm g) (av_A av_wm g)) args s 0 0 (av_A av_wm g)) (F0 m 91 ls [.int y1, .ref (g.2.2 98)]) := by
  obtain ⟨hx, hb, hr, hml, hown, hts, hlocks⟩ := id E
  intro x1 x2 y1 μ H locs ls h hR hl
  unfold fX12_comesDown_91 at h
  obtain ⟨μ91, eμ91, h⟩ := av_bd h
  replace eμ91 := Option.some.inj eμ91
  refine pf_X12_120 E X hR av_t98 dX12_comesDown_91 eμ91 (fun H locs hR => ?_)
  refine lv_iload_n hx hb dX12_comesDown_94 rfl (lv_at hl 1 rfl) ?_
  refine lv_iconst (v := 1) hx hb dX12_comesDown_95 rfl ?_
  refine lv_iload_n hx hb dX12_comesDown_96 rfl (lv_at hl 2 rfl) ?_
  refine lv_ishl hx hb dX12_comesDown_97 ?_
  refine lv_ior hx hb dX12_comesDown_98 ?_
  obtain ⟨x1_99, ex1_99, h⟩ := av_bd h
  replace ex1_99 := Option.some.inj ex1_99
  rw [ex1_99]
  refine lv_istore_n (lv' := [(1, .int x1_99), (0, .ref (g.2.2 98)), (2, .int x2)]) hx hb dX12_comesDown_99 rfl hl (by decide) rfl (fun ls hl => ?_)
  refine lv_aload_n hx hb dX12_comesDown_100 rfl (lv_at hl 1 rfl) ?_
  obtain ⟨r101, er101, h⟩ := av_bd h
  refine av_goI hR (av_cV (As := []) (rest := []) E X hR hl.1 (CX12_firstOver l g er101) kk_X12_126 (av_room (by omega) (by decide)) av_t98 (by decide) rfl rfl (Nat.le_of_ble_eq_true rfl) ⟨Nat.zero_le _, Nat.zero_le _⟩ dX12_comesDown_101) (fun H locs hR => ?_)
  refine lv_istore_n (lv' := [(2, .int r101), (1, .int x1_99), (0, .ref (g.2.2 98))]) hx hb dX12_comesDown_104 rfl hl (by decide) rfl (fun ls hl => ?_)
  refine lv_goto (tgt := 17) hx hb dX12_comesDown_105 (by decide) ?_
  exact hk17 h hR (lv_sub hl [2, 1, 0] rfl)

set_option maxHeartbeats 4000000 in
set_option maxRecDepth 100000 in
theorem tX12_comesDown_60 {p : Program} {l : Launch} {e : Env} {s : State} {m : MethodId} {args : Array Value} {below : List Frame} {meth : Method} {c : Code} {g : Gl} {zr : Int32} {zm : Mem} (E : av_E p s m args meth c cX12_comesDown RX12 4 (some .int)) (X : av_X av_wm g s) {k17 : Int32 → Int32 → Mem → Option (Int32 × Mem)} (hk17 : ∀ {x1 : Int32} {x2 : Int32} {μ : Mem} {H : Heap} {locs : List Loc} {ls : Array Slot}, k17 x1 x2 μ = some (zr, zm) → av_R av_wm g μ s H locs → lv_has ls 4 [(0, .ref (g.2.2 98)), (1, .int x1), (2, .int x2)] → W p l e (rmN 3) s m args below meth c H locs 0 0 (MQ below (va_Qi (fun r1 u => r1 = zr ∧ u = zm) (av_B av_wm g) (av_A av_wm g)) args s 0 0 (av_A av_wm g)) (F0 m 17 ls [])) :
    ∀ {x1 : Int32} {x2 : Int32} {μ : Mem} {H : Heap} {locs : List Loc} {ls : Array Slot}, fX12_comesDown_60 k17 x1 x2 μ = some (zr, zm) → av_R av_wm g μ s H locs → lv_has ls 4 [(0, .ref (g.2.2 98)), (1, .int x1), (2, .int x2)] → W p l e (rmN 3) s m args below meth c H locs 0 0 (MQ below (va_Qi (fun r1 u => r1 = zr ∧ u = zm) (av_B av_wm g) (av_A av_wm g)) args s 0 0 (av_A av_wm g)) (F0 m 60 ls []) := by
  obtain ⟨hx, hb, hr, hml, hown, hts, hlocks⟩ := id E
  intro x1 x2 μ H locs ls h hR hl
  unfold fX12_comesDown_60 at h
  refine lv_aload_n hx hb dX12_comesDown_60 rfl (lv_at hl 0 rfl) ?_
  refine gf_X12_27 E X hR av_t98 dX12_comesDown_61 av_r98_6 ?_
  refine lv_iload_n hx hb dX12_comesDown_64 rfl (lv_at hl 2 rfl) ?_
  refine lv_iconst (v := 0) hx hb dX12_comesDown_65 rfl ?_
  obtain ⟨μ66, eμ66, h⟩ := av_bd h
  refine av_is E X hR av_t103 eμ66 dX12_comesDown_66 (fun H locs hR => ?_)
  refine lv_aload_n hx hb dX12_comesDown_67 rfl (lv_at hl 0 rfl) ?_
  refine gf_X12_30 E X hR av_t98 dX12_comesDown_68 av_r98_7 ?_
  refine lv_iload_n hx hb dX12_comesDown_71 rfl (lv_at hl 2 rfl) ?_
  refine lv_iconst (v := 0) hx hb dX12_comesDown_72 rfl ?_
  obtain ⟨μ73, eμ73, h⟩ := av_bd h
  refine av_is E X hR av_t104 eμ73 dX12_comesDown_73 (fun H locs hR => ?_)
  refine lv_aload_n hx hb dX12_comesDown_74 rfl (lv_at hl 0 rfl) ?_
  refine lv_aload_n hx hb dX12_comesDown_75 rfl (lv_at hl 0 rfl) ?_
  refine gf_X12_120 E X hR av_t98 dX12_comesDown_76 ?_
  refine lv_iconst (v := (-1)) hx hb dX12_comesDown_79 rfl ?_
  refine lv_icmp_ne (tgt := 87) hx hb dX12_comesDown_80 (by decide) (fun c80 => ?_) (fun c80 => ?_)
  · have h := av_if c80 h
    refine lv_aload_n hx hb dX12_comesDown_87 rfl (lv_at hl 0 rfl) ?_
    refine gf_X12_120 E X hR av_t98 dX12_comesDown_88 ?_
    exact tX12_comesDown_91 E X hk17 h hR (lv_sub hl [0, 1, 2] rfl)
  · have h := av_it c80 h
    refine lv_iload_n hx hb dX12_comesDown_83 rfl (lv_at hl 2 rfl) ?_
    refine lv_goto (tgt := 91) hx hb dX12_comesDown_84 (by decide) ?_
    exact tX12_comesDown_91 E X hk17 h hR (lv_sub hl [0, 1, 2] rfl)

set_option maxHeartbeats 4000000 in
set_option maxRecDepth 100000 in
theorem tX12_comesDown_17 {p : Program} {l : Launch} {e : Env} {s : State} {m : MethodId} {args : Array Value} {below : List Frame} {meth : Method} {c : Code} {g : Gl} {zr : Int32} {zm : Mem} (E : av_E p s m args meth c cX12_comesDown RX12 4 (some .int)) (X : av_X av_wm g s) :
    ∀ (n : Nat) {x1 : Int32} {x2 : Int32} {μ : Mem} {H : Heap} {locs : List Loc} {ls : Array Slot}, fX12_comesDown_17 n x1 x2 μ = some (zr, zm) → av_R av_wm g μ s H locs → lv_has ls 4 [(0, .ref (g.2.2 98)), (1, .int x1), (2, .int x2)] → W p l e (rmN 3) s m args below meth c H locs 0 0 (MQ below (va_Qi (fun r1 u => r1 = zr ∧ u = zm) (av_B av_wm g) (av_A av_wm g)) args s 0 0 (av_A av_wm g)) (F0 m 17 ls []) := by
  obtain ⟨hx, hb, hr, hml, hown, hts, hlocks⟩ := id E
  intro n
  induction n with
  | zero =>
    intro x1 x2 μ H locs ls h hR hl
    cases h
  | succ n ih =>
    intro x1 x2 μ H locs ls h hR hl
    unfold fX12_comesDown_17 at h
    refine lv_iload_n hx hb dX12_comesDown_17 rfl (lv_at hl 2 rfl) ?_
    refine lv_iconst (v := (-1)) hx hb dX12_comesDown_18 rfl ?_
    refine lv_icmp_eq (tgt := 108) hx hb dX12_comesDown_19 (by decide) (fun c19 => ?_) (fun c19 => ?_)
    · have h := av_it c19 h
      refine lv_aload_n hx hb dX12_comesDown_108 rfl (lv_at hl 0 rfl) ?_
      refine gf_X12_111 E X hR av_t98 dX12_comesDown_109 ?_
      refine lv_iconst (v := (-1)) hx hb dX12_comesDown_112 rfl ?_
      refine lv_icmp_ne (tgt := 133) hx hb dX12_comesDown_113 (by decide) (fun c113 => ?_) (fun c113 => ?_)
      · have h := av_if c113 h
        exact tX12_comesDown_133 E X h hR (lv_sub hl [1] rfl)
      · have h := av_it c113 h
        refine lv_iload_n hx hb dX12_comesDown_116 rfl (lv_at hl 1 rfl) ?_
        refine lv_if_eq (tgt := 133) hx hb dX12_comesDown_117 (by decide) (fun c117 => ?_) (fun c117 => ?_)
        · have h := av_it c117 h
          exact tX12_comesDown_133 E X h hR (lv_sub hl [1] rfl)
        · have h := av_if c117 h
          refine lv_aload_n hx hb dX12_comesDown_120 rfl (lv_at hl 0 rfl) ?_
          refine lv_aload_n hx hb dX12_comesDown_121 rfl (lv_at hl 0 rfl) ?_
          refine gf_X12_120 E X hR av_t98 dX12_comesDown_122 ?_
          obtain ⟨μ125, eμ125, h⟩ := av_bd h
          replace eμ125 := Option.some.inj eμ125
          refine pf_X12_111 E X hR av_t98 dX12_comesDown_125 eμ125 (fun H locs hR => ?_)
          refine lv_aload_n hx hb dX12_comesDown_128 rfl (lv_at hl 0 rfl) ?_
          refine lv_iload_n hx hb dX12_comesDown_129 rfl (lv_at hl 1 rfl) ?_
          obtain ⟨μ130, eμ130, h⟩ := av_bd h
          replace eμ130 := Option.some.inj eμ130
          refine pf_X12_114 E X hR av_t98 dX12_comesDown_130 eμ130 (fun H locs hR => ?_)
          exact tX12_comesDown_133 E X h hR (lv_sub hl [1] rfl)
    · have h := av_if c19 h
      refine lv_aload_n hx hb dX12_comesDown_22 rfl (lv_at hl 0 rfl) ?_
      refine lv_iload_n hx hb dX12_comesDown_23 rfl (lv_at hl 2 rfl) ?_
      refine lv_iconst (v := 3) hx hb dX12_comesDown_24 rfl ?_
      obtain ⟨r25, er25, h⟩ := av_bd h
      refine av_goI hR (av_cV (As := [.int x2, .int 3]) (rest := []) E X hR hl.1 (CX12_get l g er25) kk_X12_103 (av_room (by omega) (by decide)) av_t98 (by decide) rfl rfl (Nat.le_of_ble_eq_true rfl) ⟨Nat.zero_le _, Nat.zero_le _⟩ dX12_comesDown_25) (fun H locs hR => ?_)
      refine lv_istore_n (lv' := [(3, .int r25), (0, .ref (g.2.2 98)), (1, .int x1), (2, .int x2)]) hx hb dX12_comesDown_28 rfl hl (by decide) rfl (fun ls hl => ?_)
      refine lv_iload_n hx hb dX12_comesDown_29 rfl (lv_at hl 0 rfl) ?_
      refine lv_iconst (v := (-1)) hx hb dX12_comesDown_30 rfl ?_
      refine lv_icmp_eq (tgt := 60) hx hb dX12_comesDown_31 (by decide) (fun c31 => ?_) (fun c31 => ?_)
      · have h := av_it c31 h
        exact tX12_comesDown_60 E X ih h hR (lv_sub hl [1, 2, 3] rfl)
      · have h := av_if c31 h
        refine lv_aload_n hx hb dX12_comesDown_34 rfl (lv_at hl 1 rfl) ?_
        refine gf_X12_27 E X hR av_t98 dX12_comesDown_35 av_r98_6 ?_
        refine lv_iload_n hx hb dX12_comesDown_38 rfl (lv_at hl 0 rfl) ?_
        refine lv_dup2_11 hx hb dX12_comesDown_39 rfl rfl ?_
        obtain ⟨r40, er40, h⟩ := av_bd h
        refine av_il E X hR av_t103 er40 dX12_comesDown_40 ?_
        refine lv_aload_n hx hb dX12_comesDown_41 rfl (lv_at hl 1 rfl) ?_
        refine lv_iload_n hx hb dX12_comesDown_42 rfl (lv_at hl 3 rfl) ?_
        obtain ⟨r43, er43, h⟩ := av_bd h
        refine av_goI hR (av_cV (As := [.int x2]) (rest := [.int r40, .int r25, .ref (g.2.2 103)]) E X hR hl.1 (CX12_load l g er43) kk_X12_117 (av_room (by omega) (by decide)) av_t98 (by decide) rfl rfl (Nat.le_of_ble_eq_true rfl) ⟨Nat.zero_le _, Nat.zero_le _⟩ dX12_comesDown_43) (fun H locs hR => ?_)
        refine lv_iadd hx hb dX12_comesDown_46 ?_
        obtain ⟨μ47, eμ47, h⟩ := av_bd h
        refine av_is E X hR av_t103 eμ47 dX12_comesDown_47 (fun H locs hR => ?_)
        refine lv_aload_n hx hb dX12_comesDown_48 rfl (lv_at hl 1 rfl) ?_
        refine lv_dup hx hb dX12_comesDown_49 rfl ?_
        refine gf_X12_123 E X hR av_t98 dX12_comesDown_50 ?_
        refine lv_iconst (v := 1) hx hb dX12_comesDown_53 rfl ?_
        refine lv_iload_n hx hb dX12_comesDown_54 rfl (lv_at hl 0 rfl) ?_
        refine lv_ishl hx hb dX12_comesDown_55 ?_
        refine lv_ior hx hb dX12_comesDown_56 ?_
        obtain ⟨μ57, eμ57, h⟩ := av_bd h
        replace eμ57 := Option.some.inj eμ57
        refine pf_X12_123 E X hR av_t98 dX12_comesDown_57 eμ57 (fun H locs hR => ?_)
        exact tX12_comesDown_60 E X ih h hR (lv_sub hl [1, 2, 3] rfl)

set_option maxHeartbeats 4000000 in
set_option maxRecDepth 100000 in
theorem CX12_comesDown (l : Launch) (g : Gl) {μ : Mem} {zr : Int32} {zm : Mem} (h : fX12_comesDown μ = some (zr, zm)) : av_MI l yX12_comesDown cX12_comesDown 4 3 (some .int) av_wm g [.ref (g.2.2 98)] μ zr zm := by
  refine av_ent (own := RX12) (by decide) (Nat.le_of_ble_eq_true rfl) rfl (fun p e s m args below meth c E X hR ls hl => ?_)
  have hl : lv_has ls 4 [(0, .ref (g.2.2 98))] := hl
  obtain ⟨hx, hb, hr, hml, hown, hts, hlocks⟩ := id E
  unfold fX12_comesDown at h
  refine lv_iconst (v := 0) hx hb dX12_comesDown_0 rfl ?_
  refine lv_istore_n (lv' := [(1, .int 0), (0, .ref (g.2.2 98))]) hx hb dX12_comesDown_1 rfl hl (by decide) rfl (fun ls hl => ?_)
  refine lv_aload_n hx hb dX12_comesDown_2 rfl (lv_at hl 1 rfl) ?_
  refine lv_iconst (v := (-1)) hx hb dX12_comesDown_3 rfl ?_
  obtain ⟨μ4, eμ4, h⟩ := av_bd h
  replace eμ4 := Option.some.inj eμ4
  refine pf_X12_120 E X hR av_t98 dX12_comesDown_4 eμ4 (fun H locs hR => ?_)
  refine lv_aload_n hx hb dX12_comesDown_7 rfl (lv_at hl 1 rfl) ?_
  refine lv_iconst (v := 0) hx hb dX12_comesDown_8 rfl ?_
  obtain ⟨μ9, eμ9, h⟩ := av_bd h
  replace eμ9 := Option.some.inj eμ9
  refine pf_X12_123 E X hR av_t98 dX12_comesDown_9 eμ9 (fun H locs hR => ?_)
  refine lv_aload_n hx hb dX12_comesDown_12 rfl (lv_at hl 1 rfl) ?_
  obtain ⟨r13, er13, h⟩ := av_bd h
  refine av_goI hR (av_cV (As := []) (rest := []) E X hR hl.1 (CX12_firstOver l g er13) kk_X12_126 (av_room (by omega) (by decide)) av_t98 (by decide) rfl rfl (Nat.le_of_ble_eq_true rfl) ⟨Nat.zero_le _, Nat.zero_le _⟩ dX12_comesDown_13) (fun H locs hR => ?_)
  refine lv_istore_n (lv' := [(2, .int r13), (1, .int 0), (0, .ref (g.2.2 98))]) hx hb dX12_comesDown_16 rfl hl (by decide) rfl (fun ls hl => ?_)
  exact tX12_comesDown_17 E X _ h hR (lv_sub hl [2, 1, 0] rfl)

set_option maxHeartbeats 4000000 in
set_option maxRecDepth 100000 in
theorem tX12_heavy_10 {p : Program} {l : Launch} {e : Env} {s : State} {m : MethodId} {args : Array Value} {below : List Frame} {meth : Method} {c : Code} {g : Gl} {zr : Int32} {μ0 : Mem} (E : av_E p s m args meth c cX12_heavy RX12 3 (some .int)) (X : av_X av_wm g s) :
    ∀ {x2 : Int32} {μ : Mem} {H : Heap} {locs : List Loc} {ls : Array Slot} (hμ : μ0 = μ), fX12_heavy_10 x2 μ = some zr → av_R av_wm g μ s H locs → lv_has ls 3 [(2, .int x2)] → W p l e (rmN 1) s m args below meth c H locs 0 0 (MQ below (va_Qi (fun r1 u => r1 = zr ∧ u = μ0) (av_B av_wm g) (av_A av_wm g)) args s 0 0 (av_A av_wm g)) (F0 m 10 ls []) := by
  obtain ⟨hx, hb, hr, hml, hown, hts, hlocks⟩ := id E
  intro x2 μ H locs ls hμ h hR hl
  unfold fX12_heavy_10 at h
  refine lv_iconst (v := 2) hx hb dX12_heavy_10 rfl ?_
  refine lv_iload_n hx hb dX12_heavy_11 rfl (lv_at hl 0 rfl) ?_
  refine lv_imul hx hb dX12_heavy_12 ?_
  refine lv_goto (tgt := 30) hx hb dX12_heavy_13 (by decide) ?_
  exact av_ri E hR ⟨Option.some.inj h, hμ.symm⟩ dX12_heavy_30

set_option maxHeartbeats 4000000 in
set_option maxRecDepth 100000 in
theorem CX12_heavy (l : Launch) (g : Gl) {a1 : Int32} {a2 : Int32} {μ : Mem} {zr : Int32} (h : fX12_heavy a1 a2 μ = some zr) : av_MI l yX12_heavy cX12_heavy 3 1 (some .int) av_wm g [.ref (g.2.2 98), .int a1, .int a2] μ zr μ := by
  refine av_ent (own := RX12) (by decide) (Nat.le_of_ble_eq_true rfl) rfl (fun p e s m args below meth c E X hR ls hl => ?_)
  have hl : lv_has ls 3 [(0, .ref (g.2.2 98)), (1, .int a1), (2, .int a2)] := hl
  obtain ⟨hx, hb, hr, hml, hown, hts, hlocks⟩ := id E
  have hμ : μ = μ := rfl
  unfold fX12_heavy at h
  refine lv_iload_n hx hb dX12_heavy_0 rfl (lv_at hl 1 rfl) ?_
  refine lv_iconst (v := 2) hx hb dX12_heavy_1 rfl ?_
  refine lv_icmp_eq (tgt := 10) hx hb dX12_heavy_2 (by decide) (fun c2 => ?_) (fun c2 => ?_)
  · have h := av_it c2 h
    exact tX12_heavy_10 E X hμ h hR (lv_sub hl [2] rfl)
  · have h := av_if c2 h
    refine lv_iload_n hx hb dX12_heavy_5 rfl (lv_at hl 1 rfl) ?_
    refine lv_iconst (v := 5) hx hb dX12_heavy_6 rfl ?_
    refine lv_icmp_ne (tgt := 16) hx hb dX12_heavy_7 (by decide) (fun c7 => ?_) (fun c7 => ?_)
    · have h := av_if c7 h
      refine lv_iload_n hx hb dX12_heavy_16 rfl (lv_at hl 1 rfl) ?_
      refine lv_iconst (v := 3) hx hb dX12_heavy_17 rfl ?_
      refine lv_icmp_ne (tgt := 29) hx hb dX12_heavy_18 (by decide) (fun c18 => ?_) (fun c18 => ?_)
      · have h := av_if c18 h
        refine lv_iload_n hx hb dX12_heavy_29 rfl (lv_at hl 2 rfl) ?_
        exact av_ri E hR ⟨Option.some.inj h, hμ.symm⟩ dX12_heavy_30
      · have h := av_it c18 h
        refine lv_iload_n hx hb dX12_heavy_21 rfl (lv_at hl 2 rfl) ?_
        refine lv_iconst (v := 1) hx hb dX12_heavy_22 rfl ?_
        refine lv_iadd hx hb dX12_heavy_23 ?_
        refine lv_iconst (v := 2) hx hb dX12_heavy_24 rfl ?_
        refine lv_idiv hx hb dX12_heavy_25 (by decide) ?_
        refine lv_goto (tgt := 30) hx hb dX12_heavy_26 (by decide) ?_
        exact av_ri E hR ⟨Option.some.inj h, hμ.symm⟩ dX12_heavy_30
    · have h := av_it c7 h
      exact tX12_heavy_10 E X hμ h hR (lv_sub hl [2] rfl)

set_option maxHeartbeats 4000000 in
set_option maxRecDepth 100000 in
theorem tX12_byLoad_67 {p : Program} {l : Launch} {e : Env} {s : State} {m : MethodId} {args : Array Value} {below : List Frame} {meth : Method} {c : Code} {g : Gl} {zr : Int32} {μ0 : Mem} (E : av_E p s m args meth c cX12_byLoad RX12 5 (some .int)) (X : av_X av_wm g s) {k4 : Int32 → Int32 → Int32 → Mem → Option (Int32)} (hk4 : ∀ {x1 : Int32} {x2 : Int32} {x3 : Int32} {μ : Mem} {H : Heap} {locs : List Loc} {ls : Array Slot} (hμ : μ0 = μ), k4 x1 x2 x3 μ = some zr → av_R av_wm g μ s H locs → lv_has ls 5 [(0, .ref (g.2.2 98)), (1, .int x1), (2, .int x2), (3, .int x3)] → W p l e (rmN 2) s m args below meth c H locs 0 0 (MQ below (va_Qi (fun r1 u => r1 = zr ∧ u = μ0) (av_B av_wm g) (av_A av_wm g)) args s 0 0 (av_A av_wm g)) (F0 m 4 ls [])) :
    ∀ {x1 : Int32} {x3 : Int32} {y0 : Int32} {μ : Mem} {H : Heap} {locs : List Loc} {ls : Array Slot} (hμ : μ0 = μ), fX12_byLoad_67 k4 x1 x3 y0 μ = some zr → av_R av_wm g μ s H locs → lv_has ls 5 [(0, .ref (g.2.2 98)), (1, .int x1), (3, .int x3)] → W p l e (rmN 2) s m args below meth c H locs 0 0 (MQ below (va_Qi (fun r1 u => r1 = zr ∧ u = μ0) (av_B av_wm g) (av_A av_wm g)) args s 0 0 (av_A av_wm g)) (F0 m 67 ls [.int y0]) := by
  obtain ⟨hx, hb, hr, hml, hown, hts, hlocks⟩ := id E
  intro x1 x3 y0 μ H locs ls hμ h hR hl
  unfold fX12_byLoad_67 at h
  refine lv_istore_n (lv' := [(2, .int y0), (0, .ref (g.2.2 98)), (1, .int x1), (3, .int x3)]) hx hb dX12_byLoad_67 rfl hl (by decide) rfl (fun ls hl => ?_)
  obtain ⟨x3_68, ex3_68, h⟩ := av_bd h
  replace ex3_68 := Option.some.inj ex3_68
  refine lv_iinc (v := x3_68) (lv' := [(3, .int x3_68), (2, .int y0), (0, .ref (g.2.2 98)), (1, .int x1)]) hx hb dX12_byLoad_68 hl (k := 3) rfl ex3_68 (by decide) rfl (fun ls hl => ?_)
  refine lv_goto (tgt := 4) hx hb dX12_byLoad_71 (by decide) ?_
  exact hk4 hμ h hR (lv_sub hl [2, 3, 1, 0] rfl)

set_option maxHeartbeats 4000000 in
set_option maxRecDepth 100000 in
theorem tX12_byLoad_55 {p : Program} {l : Launch} {e : Env} {s : State} {m : MethodId} {args : Array Value} {below : List Frame} {meth : Method} {c : Code} {g : Gl} {zr : Int32} {μ0 : Mem} (E : av_E p s m args meth c cX12_byLoad RX12 5 (some .int)) (X : av_X av_wm g s) {k4 : Int32 → Int32 → Int32 → Mem → Option (Int32)} (hk4 : ∀ {x1 : Int32} {x2 : Int32} {x3 : Int32} {μ : Mem} {H : Heap} {locs : List Loc} {ls : Array Slot} (hμ : μ0 = μ), k4 x1 x2 x3 μ = some zr → av_R av_wm g μ s H locs → lv_has ls 5 [(0, .ref (g.2.2 98)), (1, .int x1), (2, .int x2), (3, .int x3)] → W p l e (rmN 2) s m args below meth c H locs 0 0 (MQ below (va_Qi (fun r1 u => r1 = zr ∧ u = μ0) (av_B av_wm g) (av_A av_wm g)) args s 0 0 (av_A av_wm g)) (F0 m 4 ls [])) :
    ∀ {x1 : Int32} {x2 : Int32} {x3 : Int32} {y0 : Int32} {μ : Mem} {H : Heap} {locs : List Loc} {ls : Array Slot} (hμ : μ0 = μ), fX12_byLoad_55 k4 x1 x2 x3 y0 μ = some zr → av_R av_wm g μ s H locs → lv_has ls 5 [(0, .ref (g.2.2 98)), (1, .int x1), (2, .int x2), (3, .int x3)] → W p l e (rmN 2) s m args below meth c H locs 0 0 (MQ below (va_Qi (fun r1 u => r1 = zr ∧ u = μ0) (av_B av_wm g) (av_A av_wm g)) args s 0 0 (av_A av_wm g)) (F0 m 55 ls [.int y0]) := by
  obtain ⟨hx, hb, hr, hml, hown, hts, hlocks⟩ := id E
  intro x1 x2 x3 y0 μ H locs ls hμ h hR hl
  unfold fX12_byLoad_55 at h
  refine lv_istore (lv' := [(4, .int y0), (0, .ref (g.2.2 98)), (1, .int x1), (2, .int x2), (3, .int x3)]) hx hb dX12_byLoad_55 hl (by decide) rfl (fun ls hl => ?_)
  refine lv_iload hx hb dX12_byLoad_57 (lv_at hl 0 rfl) ?_
  refine lv_if_eq (tgt := 66) hx hb dX12_byLoad_59 (by decide) (fun c59 => ?_) (fun c59 => ?_)
  · have h := av_it c59 h
    refine lv_iload_n hx hb dX12_byLoad_66 rfl (lv_at hl 3 rfl) ?_
    exact tX12_byLoad_67 E X hk4 hμ h hR (lv_sub hl [1, 2, 4] rfl)
  · have h := av_if c59 h
    refine lv_iload_n hx hb dX12_byLoad_62 rfl (lv_at hl 4 rfl) ?_
    refine lv_goto (tgt := 67) hx hb dX12_byLoad_63 (by decide) ?_
    exact tX12_byLoad_67 E X hk4 hμ h hR (lv_sub hl [1, 2, 4] rfl)

set_option maxHeartbeats 4000000 in
set_option maxRecDepth 100000 in
theorem tX12_byLoad_4 {p : Program} {l : Launch} {e : Env} {s : State} {m : MethodId} {args : Array Value} {below : List Frame} {meth : Method} {c : Code} {g : Gl} {zr : Int32} {μ0 : Mem} (E : av_E p s m args meth c cX12_byLoad RX12 5 (some .int)) (X : av_X av_wm g s) :
    ∀ (n : Nat) {x1 : Int32} {x2 : Int32} {x3 : Int32} {μ : Mem} {H : Heap} {locs : List Loc} {ls : Array Slot} (hμ : μ0 = μ), fX12_byLoad_4 n x1 x2 x3 μ = some zr → av_R av_wm g μ s H locs → lv_has ls 5 [(0, .ref (g.2.2 98)), (1, .int x1), (2, .int x2), (3, .int x3)] → W p l e (rmN 2) s m args below meth c H locs 0 0 (MQ below (va_Qi (fun r1 u => r1 = zr ∧ u = μ0) (av_B av_wm g) (av_A av_wm g)) args s 0 0 (av_A av_wm g)) (F0 m 4 ls []) := by
  obtain ⟨hx, hb, hr, hml, hown, hts, hlocks⟩ := id E
  intro n
  induction n with
  | zero =>
    intro x1 x2 x3 μ H locs ls hμ h hR hl
    cases h
  | succ n ih =>
    intro x1 x2 x3 μ H locs ls hμ h hR hl
    unfold fX12_byLoad_4 at h
    refine lv_iload_n hx hb dX12_byLoad_4 rfl (lv_at hl 3 rfl) ?_
    refine lv_aload_n hx hb dX12_byLoad_5 rfl (lv_at hl 0 rfl) ?_
    obtain ⟨r6, er6, h⟩ := av_bd h
    refine av_goI hR (av_cV (As := []) (rest := [.int x3]) E X hR hl.1 (CX12_ledges l g er6) kk_X12_64 (av_room (by omega) (by decide)) av_t98 (by decide) rfl rfl (Nat.le_of_ble_eq_true rfl) ⟨Nat.zero_le _, Nat.zero_le _⟩ dX12_byLoad_6) (fun H locs hR => ?_)
    refine lv_icmp_ge (tgt := 74) hx hb dX12_byLoad_9 (by decide) (fun c9 => ?_) (fun c9 => ?_)
    · have h := av_it c9 h
      refine lv_iload_n hx hb dX12_byLoad_74 rfl (lv_at hl 2 rfl) ?_
      exact av_ri E hR ⟨Option.some.inj h, hμ.symm⟩ dX12_byLoad_75
    · have h := av_if c9 h
      refine lv_iload_n hx hb dX12_byLoad_12 rfl (lv_at hl 1 rfl) ?_
      refine lv_if_eq (tgt := 37) hx hb dX12_byLoad_13 (by decide) (fun c13 => ?_) (fun c13 => ?_)
      · have h := av_it c13 h
        refine lv_aload_n hx hb dX12_byLoad_37 rfl (lv_at hl 0 rfl) ?_
        refine lv_iload_n hx hb dX12_byLoad_38 rfl (lv_at hl 3 rfl) ?_
        obtain ⟨r39, er39, h⟩ := av_bd h
        refine av_goI hR (av_cV (As := [.int x3]) (rest := []) E X hR hl.1 (CX12_load l g er39) kk_X12_117 (av_room (by omega) (by decide)) av_t98 (by decide) rfl rfl (Nat.le_of_ble_eq_true rfl) ⟨Nat.zero_le _, Nat.zero_le _⟩ dX12_byLoad_39) (fun H locs hR => ?_)
        refine lv_aload_n hx hb dX12_byLoad_42 rfl (lv_at hl 0 rfl) ?_
        refine lv_iload_n hx hb dX12_byLoad_43 rfl (lv_at hl 2 rfl) ?_
        obtain ⟨r44, er44, h⟩ := av_bd h
        refine av_goI hR (av_cV (As := [.int x2]) (rest := [.int r39]) E X hR hl.1 (CX12_load l g er44) kk_X12_117 (av_room (by omega) (by decide)) av_t98 (by decide) rfl rfl (Nat.le_of_ble_eq_true rfl) ⟨Nat.zero_le _, Nat.zero_le _⟩ dX12_byLoad_44) (fun H locs hR => ?_)
        refine lv_icmp_le (tgt := 54) hx hb dX12_byLoad_47 (by decide) (fun c47 => ?_) (fun c47 => ?_)
        · have h := av_it c47 h
          refine lv_iconst (v := 0) hx hb dX12_byLoad_54 rfl ?_
          exact tX12_byLoad_55 E X ih hμ h hR (lv_sub hl [0, 1, 2, 3] rfl)
        · have h := av_if c47 h
          refine lv_iconst (v := 1) hx hb dX12_byLoad_50 rfl ?_
          refine lv_goto (tgt := 55) hx hb dX12_byLoad_51 (by decide) ?_
          exact tX12_byLoad_55 E X ih hμ h hR (lv_sub hl [0, 1, 2, 3] rfl)
      · have h := av_if c13 h
        refine lv_aload_n hx hb dX12_byLoad_16 rfl (lv_at hl 0 rfl) ?_
        refine lv_iload_n hx hb dX12_byLoad_17 rfl (lv_at hl 3 rfl) ?_
        obtain ⟨r18, er18, h⟩ := av_bd h
        refine av_goI hR (av_cV (As := [.int x3]) (rest := []) E X hR hl.1 (CX12_load l g er18) kk_X12_117 (av_room (by omega) (by decide)) av_t98 (by decide) rfl rfl (Nat.le_of_ble_eq_true rfl) ⟨Nat.zero_le _, Nat.zero_le _⟩ dX12_byLoad_18) (fun H locs hR => ?_)
        refine lv_aload_n hx hb dX12_byLoad_21 rfl (lv_at hl 0 rfl) ?_
        refine lv_iload_n hx hb dX12_byLoad_22 rfl (lv_at hl 2 rfl) ?_
        obtain ⟨r23, er23, h⟩ := av_bd h
        refine av_goI hR (av_cV (As := [.int x2]) (rest := [.int r18]) E X hR hl.1 (CX12_load l g er23) kk_X12_117 (av_room (by omega) (by decide)) av_t98 (by decide) rfl rfl (Nat.le_of_ble_eq_true rfl) ⟨Nat.zero_le _, Nat.zero_le _⟩ dX12_byLoad_23) (fun H locs hR => ?_)
        refine lv_icmp_ge (tgt := 33) hx hb dX12_byLoad_26 (by decide) (fun c26 => ?_) (fun c26 => ?_)
        · have h := av_it c26 h
          refine lv_iconst (v := 0) hx hb dX12_byLoad_33 rfl ?_
          refine lv_goto (tgt := 55) hx hb dX12_byLoad_34 (by decide) ?_
          exact tX12_byLoad_55 E X ih hμ h hR (lv_sub hl [0, 1, 2, 3] rfl)
        · have h := av_if c26 h
          refine lv_iconst (v := 1) hx hb dX12_byLoad_29 rfl ?_
          refine lv_goto (tgt := 55) hx hb dX12_byLoad_30 (by decide) ?_
          exact tX12_byLoad_55 E X ih hμ h hR (lv_sub hl [0, 1, 2, 3] rfl)

set_option maxHeartbeats 4000000 in
set_option maxRecDepth 100000 in
theorem CX12_byLoad (l : Launch) (g : Gl) {a1 : Int32} {μ : Mem} {zr : Int32} (h : fX12_byLoad a1 μ = some zr) : av_MI l yX12_byLoad cX12_byLoad 5 2 (some .int) av_wm g [.ref (g.2.2 98), .int a1] μ zr μ := by
  refine av_ent (own := RX12) (by decide) (Nat.le_of_ble_eq_true rfl) rfl (fun p e s m args below meth c E X hR ls hl => ?_)
  have hl : lv_has ls 5 [(0, .ref (g.2.2 98)), (1, .int a1)] := hl
  obtain ⟨hx, hb, hr, hml, hown, hts, hlocks⟩ := id E
  have hμ : μ = μ := rfl
  unfold fX12_byLoad at h
  refine lv_iconst (v := 0) hx hb dX12_byLoad_0 rfl ?_
  refine lv_istore_n (lv' := [(2, .int 0), (0, .ref (g.2.2 98)), (1, .int a1)]) hx hb dX12_byLoad_1 rfl hl (by decide) rfl (fun ls hl => ?_)
  refine lv_iconst (v := 1) hx hb dX12_byLoad_2 rfl ?_
  refine lv_istore_n (lv' := [(3, .int 1), (2, .int 0), (0, .ref (g.2.2 98)), (1, .int a1)]) hx hb dX12_byLoad_3 rfl hl (by decide) rfl (fun ls hl => ?_)
  exact tX12_byLoad_4 E X _ hμ h hR (lv_sub hl [2, 3, 1, 0] rfl)

set_option maxHeartbeats 4000000 in
set_option maxRecDepth 100000 in
theorem CX12_where (l : Launch) (g : Gl) {a1 : Int32} {a2 : Int32} {a3 : Int32} {μ : Mem} {zr : Int32} (h : fX12_where a1 a2 a3 μ = some zr) : av_MI l yX12_where cX12_where 4 3 (some .int) av_wm g [.ref (g.2.2 98), .int a1, .int a2, .int a3] μ zr μ := by
  refine av_ent (own := RX12) (by decide) (Nat.le_of_ble_eq_true rfl) rfl (fun p e s m args below meth c E X hR ls hl => ?_)
  have hl : lv_has ls 4 [(0, .ref (g.2.2 98)), (1, .int a1), (2, .int a2), (3, .int a3)] := hl
  obtain ⟨hx, hb, hr, hml, hown, hts, hlocks⟩ := id E
  have hμ : μ = μ := rfl
  unfold fX12_where at h
  refine lv_iload_n hx hb dX12_where_0 rfl (lv_at hl 1 rfl) ?_
  by_cases c1_0 : a1 = 1
  · have h := av_it c1_0 h
    refine lv_tableIn (tgt := 36) (off := 35) hx hb dX12_where_1 (by rw [c1_0]; decide) (by rw [c1_0]; decide) (by rw [c1_0]; decide) (by decide) ?_
    refine lv_aload_n hx hb dX12_where_36 rfl (lv_at hl 0 rfl) ?_
    refine lv_iload_n hx hb dX12_where_37 rfl (lv_at hl 2 rfl) ?_
    obtain ⟨r38, er38, h⟩ := av_bd h
    refine av_goI hR (av_cV (As := [.int a2]) (rest := []) E X hR hl.1 (CX12_load l g er38) kk_X12_117 (av_room (by omega) (by decide)) av_t98 (by decide) rfl rfl (Nat.le_of_ble_eq_true rfl) ⟨Nat.zero_le _, Nat.zero_le _⟩ dX12_where_38) (fun H locs hR => ?_)
    refine lv_aload_n hx hb dX12_where_41 rfl (lv_at hl 0 rfl) ?_
    refine lv_iload_n hx hb dX12_where_42 rfl (lv_at hl 1 rfl) ?_
    refine lv_iload_n hx hb dX12_where_43 rfl (lv_at hl 3 rfl) ?_
    obtain ⟨r44, er44, h⟩ := av_bd h
    refine av_goI hR (av_cV (As := [.int a1, .int a3]) (rest := [.int r38]) E X hR hl.1 (CX12_heavy l g er44) kk_X12_129 (av_room (by omega) (by decide)) av_t98 (by decide) rfl rfl (Nat.le_of_ble_eq_true rfl) ⟨Nat.zero_le _, Nat.zero_le _⟩ dX12_where_44) (fun H locs hR => ?_)
    refine lv_iadd hx hb dX12_where_47 ?_
    refine lv_aload_n hx hb dX12_where_48 rfl (lv_at hl 0 rfl) ?_
    refine lv_iload_n hx hb dX12_where_49 rfl (lv_at hl 2 rfl) ?_
    refine lv_iconst (v := 0) hx hb dX12_where_50 rfl ?_
    obtain ⟨r51, er51, h⟩ := av_bd h
    refine av_goI hR (av_cV (As := [.int a2, .int 0]) (rest := [.int (r38 + r44)]) E X hR hl.1 (CX12_get l g er51) kk_X12_103 (av_room (by omega) (by decide)) av_t98 (by decide) rfl rfl (Nat.le_of_ble_eq_true rfl) ⟨Nat.zero_le _, Nat.zero_le _⟩ dX12_where_51) (fun H locs hR => ?_)
    refine lv_icmp_le (tgt := 65) hx hb dX12_where_54 (by decide) (fun c54 => ?_) (fun c54 => ?_)
    · have h := av_it c54 h
      refine lv_iload_n hx hb dX12_where_65 rfl (lv_at hl 2 rfl) ?_
      exact av_ri E hR ⟨Option.some.inj h, hμ.symm⟩ dX12_where_66
    · have h := av_if c54 h
      refine lv_aload_n hx hb dX12_where_57 rfl (lv_at hl 0 rfl) ?_
      refine lv_iconst (v := 1) hx hb dX12_where_58 rfl ?_
      obtain ⟨r59, er59, h⟩ := av_bd h
      refine av_goI hR (av_cV (As := [.int 1]) (rest := []) E X hR hl.1 (CX12_byLoad l g er59) kk_X12_132 (av_room (by omega) (by decide)) av_t98 (by decide) rfl rfl (Nat.le_of_ble_eq_true rfl) ⟨Nat.zero_le _, Nat.zero_le _⟩ dX12_where_59) (fun H locs hR => ?_)
      refine lv_goto (tgt := 66) hx hb dX12_where_62 (by decide) ?_
      exact av_ri E hR ⟨Option.some.inj h, hμ.symm⟩ dX12_where_66
  have h := av_if c1_0 h
  by_cases c1_1 : a1 = 2
  · have h := av_it c1_1 h
    refine lv_tableIn (tgt := 108) (off := 107) hx hb dX12_where_1 (by rw [c1_1]; decide) (by rw [c1_1]; decide) (by rw [c1_1]; decide) (by decide) ?_
    refine lv_iload_n hx hb dX12_where_108 rfl (lv_at hl 2 rfl) ?_
    exact av_ri E hR ⟨Option.some.inj h, hμ.symm⟩ dX12_where_109
  have h := av_if c1_1 h
  by_cases c1_2 : a1 = 3
  · have h := av_it c1_2 h
    refine lv_tableIn (tgt := 36) (off := 35) hx hb dX12_where_1 (by rw [c1_2]; decide) (by rw [c1_2]; decide) (by rw [c1_2]; decide) (by decide) ?_
    refine lv_aload_n hx hb dX12_where_36 rfl (lv_at hl 0 rfl) ?_
    refine lv_iload_n hx hb dX12_where_37 rfl (lv_at hl 2 rfl) ?_
    obtain ⟨r38, er38, h⟩ := av_bd h
    refine av_goI hR (av_cV (As := [.int a2]) (rest := []) E X hR hl.1 (CX12_load l g er38) kk_X12_117 (av_room (by omega) (by decide)) av_t98 (by decide) rfl rfl (Nat.le_of_ble_eq_true rfl) ⟨Nat.zero_le _, Nat.zero_le _⟩ dX12_where_38) (fun H locs hR => ?_)
    refine lv_aload_n hx hb dX12_where_41 rfl (lv_at hl 0 rfl) ?_
    refine lv_iload_n hx hb dX12_where_42 rfl (lv_at hl 1 rfl) ?_
    refine lv_iload_n hx hb dX12_where_43 rfl (lv_at hl 3 rfl) ?_
    obtain ⟨r44, er44, h⟩ := av_bd h
    refine av_goI hR (av_cV (As := [.int a1, .int a3]) (rest := [.int r38]) E X hR hl.1 (CX12_heavy l g er44) kk_X12_129 (av_room (by omega) (by decide)) av_t98 (by decide) rfl rfl (Nat.le_of_ble_eq_true rfl) ⟨Nat.zero_le _, Nat.zero_le _⟩ dX12_where_44) (fun H locs hR => ?_)
    refine lv_iadd hx hb dX12_where_47 ?_
    refine lv_aload_n hx hb dX12_where_48 rfl (lv_at hl 0 rfl) ?_
    refine lv_iload_n hx hb dX12_where_49 rfl (lv_at hl 2 rfl) ?_
    refine lv_iconst (v := 0) hx hb dX12_where_50 rfl ?_
    obtain ⟨r51, er51, h⟩ := av_bd h
    refine av_goI hR (av_cV (As := [.int a2, .int 0]) (rest := [.int (r38 + r44)]) E X hR hl.1 (CX12_get l g er51) kk_X12_103 (av_room (by omega) (by decide)) av_t98 (by decide) rfl rfl (Nat.le_of_ble_eq_true rfl) ⟨Nat.zero_le _, Nat.zero_le _⟩ dX12_where_51) (fun H locs hR => ?_)
    refine lv_icmp_le (tgt := 65) hx hb dX12_where_54 (by decide) (fun c54 => ?_) (fun c54 => ?_)
    · have h := av_it c54 h
      refine lv_iload_n hx hb dX12_where_65 rfl (lv_at hl 2 rfl) ?_
      exact av_ri E hR ⟨Option.some.inj h, hμ.symm⟩ dX12_where_66
    · have h := av_if c54 h
      refine lv_aload_n hx hb dX12_where_57 rfl (lv_at hl 0 rfl) ?_
      refine lv_iconst (v := 1) hx hb dX12_where_58 rfl ?_
      obtain ⟨r59, er59, h⟩ := av_bd h
      refine av_goI hR (av_cV (As := [.int 1]) (rest := []) E X hR hl.1 (CX12_byLoad l g er59) kk_X12_132 (av_room (by omega) (by decide)) av_t98 (by decide) rfl rfl (Nat.le_of_ble_eq_true rfl) ⟨Nat.zero_le _, Nat.zero_le _⟩ dX12_where_59) (fun H locs hR => ?_)
      refine lv_goto (tgt := 66) hx hb dX12_where_62 (by decide) ?_
      exact av_ri E hR ⟨Option.some.inj h, hμ.symm⟩ dX12_where_66
  have h := av_if c1_2 h
  by_cases c1_3 : a1 = 4
  · have h := av_it c1_3 h
    refine lv_tableIn (tgt := 67) (off := 66) hx hb dX12_where_1 (by rw [c1_3]; decide) (by rw [c1_3]; decide) (by rw [c1_3]; decide) (by decide) ?_
    refine lv_aload_n hx hb dX12_where_67 rfl (lv_at hl 0 rfl) ?_
    refine lv_iload_n hx hb dX12_where_68 rfl (lv_at hl 2 rfl) ?_
    refine lv_iconst (v := 3) hx hb dX12_where_69 rfl ?_
    obtain ⟨r70, er70, h⟩ := av_bd h
    refine av_goI hR (av_cV (As := [.int a2, .int 3]) (rest := []) E X hR hl.1 (CX12_get l g er70) kk_X12_103 (av_room (by omega) (by decide)) av_t98 (by decide) rfl rfl (Nat.le_of_ble_eq_true rfl) ⟨Nat.zero_le _, Nat.zero_le _⟩ dX12_where_70) (fun H locs hR => ?_)
    refine lv_iconst (v := (-1)) hx hb dX12_where_73 rfl ?_
    refine lv_icmp_ne (tgt := 81) hx hb dX12_where_74 (by decide) (fun c74 => ?_) (fun c74 => ?_)
    · have h := av_if c74 h
      refine lv_aload_n hx hb dX12_where_81 rfl (lv_at hl 0 rfl) ?_
      refine lv_iload_n hx hb dX12_where_82 rfl (lv_at hl 2 rfl) ?_
      refine lv_iconst (v := 3) hx hb dX12_where_83 rfl ?_
      obtain ⟨r84, er84, h⟩ := av_bd h
      refine av_goI hR (av_cV (As := [.int a2, .int 3]) (rest := []) E X hR hl.1 (CX12_get l g er84) kk_X12_103 (av_room (by omega) (by decide)) av_t98 (by decide) rfl rfl (Nat.le_of_ble_eq_true rfl) ⟨Nat.zero_le _, Nat.zero_le _⟩ dX12_where_84) (fun H locs hR => ?_)
      exact av_ri E hR ⟨Option.some.inj h, hμ.symm⟩ dX12_where_87
    · have h := av_it c74 h
      refine lv_iload_n hx hb dX12_where_77 rfl (lv_at hl 2 rfl) ?_
      refine lv_goto (tgt := 87) hx hb dX12_where_78 (by decide) ?_
      exact av_ri E hR ⟨Option.some.inj h, hμ.symm⟩ dX12_where_87
  have h := av_if c1_3 h
  by_cases c1_4 : a1 = 5
  · have h := av_it c1_4 h
    refine lv_tableIn (tgt := 88) (off := 87) hx hb dX12_where_1 (by rw [c1_4]; decide) (by rw [c1_4]; decide) (by rw [c1_4]; decide) (by decide) ?_
    refine lv_aload_n hx hb dX12_where_88 rfl (lv_at hl 0 rfl) ?_
    refine gf_X12_107 E X hR av_t98 dX12_where_89 ?_
    refine lv_iconst (v := 2) hx hb dX12_where_92 rfl ?_
    refine lv_irem hx hb dX12_where_93 (by decide) ?_
    refine lv_iconst (v := 1) hx hb dX12_where_94 rfl ?_
    refine lv_icmp_ne (tgt := 106) hx hb dX12_where_95 (by decide) (fun c95 => ?_) (fun c95 => ?_)
    · have h := av_if c95 h
      refine lv_iload_n hx hb dX12_where_106 rfl (lv_at hl 2 rfl) ?_
      exact av_ri E hR ⟨Option.some.inj h, hμ.symm⟩ dX12_where_107
    · have h := av_it c95 h
      refine lv_aload_n hx hb dX12_where_98 rfl (lv_at hl 0 rfl) ?_
      refine lv_iconst (v := 0) hx hb dX12_where_99 rfl ?_
      obtain ⟨r100, er100, h⟩ := av_bd h
      refine av_goI hR (av_cV (As := [.int 0]) (rest := []) E X hR hl.1 (CX12_byLoad l g er100) kk_X12_132 (av_room (by omega) (by decide)) av_t98 (by decide) rfl rfl (Nat.le_of_ble_eq_true rfl) ⟨Nat.zero_le _, Nat.zero_le _⟩ dX12_where_100) (fun H locs hR => ?_)
      refine lv_goto (tgt := 107) hx hb dX12_where_103 (by decide) ?_
      exact av_ri E hR ⟨Option.some.inj h, hμ.symm⟩ dX12_where_107
  have h := av_if c1_4 h
  have n1_0 := lv_neT c1_0 (a := 1) (by decide)
  have n1_1 := lv_neT c1_1 (a := 2) (by decide)
  have n1_2 := lv_neT c1_2 (a := 3) (by decide)
  have n1_3 := lv_neT c1_3 (a := 4) (by decide)
  have n1_4 := lv_neT c1_4 (a := 5) (by decide)
  refine lv_tableOut (tgt := 108) hx hb dX12_where_1 (by omega) (by decide) ?_
  refine lv_iload_n hx hb dX12_where_108 rfl (lv_at hl 2 rfl) ?_
  exact av_ri E hR ⟨Option.some.inj h, hμ.symm⟩ dX12_where_109

set_option maxHeartbeats 4000000 in
set_option maxRecDepth 100000 in
theorem CX12_whereBy (l : Launch) (g : Gl) {a1 : Int32} {μ : Mem} {zr : Int32} (h : fX12_whereBy a1 μ = some zr) : av_MI l yX12_whereBy cX12_whereBy 2 4 (some .int) av_wm g [.ref (g.2.2 98), .int a1] μ zr μ := by
  refine av_ent (own := RX12) (by decide) (Nat.le_of_ble_eq_true rfl) rfl (fun p e s m args below meth c E X hR ls hl => ?_)
  have hl : lv_has ls 2 [(0, .ref (g.2.2 98)), (1, .int a1)] := hl
  obtain ⟨hx, hb, hr, hml, hown, hts, hlocks⟩ := id E
  have hμ : μ = μ := rfl
  unfold fX12_whereBy at h
  refine lv_aload_n hx hb dX12_whereBy_0 rfl (lv_at hl 0 rfl) ?_
  refine lv_aload_n hx hb dX12_whereBy_1 rfl (lv_at hl 0 rfl) ?_
  refine lv_iload_n hx hb dX12_whereBy_2 rfl (lv_at hl 1 rfl) ?_
  refine lv_iconst (v := 0) hx hb dX12_whereBy_3 rfl ?_
  obtain ⟨r4, er4, h⟩ := av_bd h
  refine av_goI hR (av_cV (As := [.int a1, .int 0]) (rest := [.ref (g.2.2 98)]) E X hR hl.1 (CX12_tells l g er4) kk_X12_136 (av_room (by omega) (by decide)) av_t98 (by decide) rfl rfl (Nat.le_of_ble_eq_true rfl) ⟨Nat.zero_le _, Nat.zero_le _⟩ dX12_whereBy_4) (fun H locs hR => ?_)
  refine lv_aload_n hx hb dX12_whereBy_7 rfl (lv_at hl 0 rfl) ?_
  refine lv_iload_n hx hb dX12_whereBy_8 rfl (lv_at hl 1 rfl) ?_
  refine lv_iconst (v := 1) hx hb dX12_whereBy_9 rfl ?_
  obtain ⟨r10, er10, h⟩ := av_bd h
  refine av_goI hR (av_cV (As := [.int a1, .int 1]) (rest := [.int r4, .ref (g.2.2 98)]) E X hR hl.1 (CX12_tells l g er10) kk_X12_136 (av_room (by omega) (by decide)) av_t98 (by decide) rfl rfl (Nat.le_of_ble_eq_true rfl) ⟨Nat.zero_le _, Nat.zero_le _⟩ dX12_whereBy_10) (fun H locs hR => ?_)
  refine lv_aload_n hx hb dX12_whereBy_13 rfl (lv_at hl 0 rfl) ?_
  refine lv_iload_n hx hb dX12_whereBy_14 rfl (lv_at hl 1 rfl) ?_
  refine lv_iconst (v := 2) hx hb dX12_whereBy_15 rfl ?_
  obtain ⟨r16, er16, h⟩ := av_bd h
  refine av_goI hR (av_cV (As := [.int a1, .int 2]) (rest := [.int r10, .int r4, .ref (g.2.2 98)]) E X hR hl.1 (CX12_tells l g er16) kk_X12_136 (av_room (by omega) (by decide)) av_t98 (by decide) rfl rfl (Nat.le_of_ble_eq_true rfl) ⟨Nat.zero_le _, Nat.zero_le _⟩ dX12_whereBy_16) (fun H locs hR => ?_)
  obtain ⟨r19, er19, h⟩ := av_bd h
  refine av_goI hR (av_cV (As := [.int r4, .int r10, .int r16]) (rest := []) E X hR hl.1 (CX12_where l g er19) kk_X12_139 (av_room (by omega) (by decide)) av_t98 (by decide) rfl rfl (Nat.le_of_ble_eq_true rfl) ⟨Nat.zero_le _, Nat.zero_le _⟩ dX12_whereBy_19) (fun H locs hR => ?_)
  exact av_ri E hR ⟨Option.some.inj h, hμ.symm⟩ dX12_whereBy_22

set_option maxHeartbeats 4000000 in
set_option maxRecDepth 100000 in
theorem CX12_heavyBy (l : Launch) (g : Gl) {a1 : Int32} {μ : Mem} {zr : Int32} (h : fX12_heavyBy a1 μ = some zr) : av_MI l yX12_heavyBy cX12_heavyBy 2 2 (some .int) av_wm g [.ref (g.2.2 98), .int a1] μ zr μ := by
  refine av_ent (own := RX12) (by decide) (Nat.le_of_ble_eq_true rfl) rfl (fun p e s m args below meth c E X hR ls hl => ?_)
  have hl : lv_has ls 2 [(0, .ref (g.2.2 98)), (1, .int a1)] := hl
  obtain ⟨hx, hb, hr, hml, hown, hts, hlocks⟩ := id E
  have hμ : μ = μ := rfl
  unfold fX12_heavyBy at h
  refine lv_aload_n hx hb dX12_heavyBy_0 rfl (lv_at hl 0 rfl) ?_
  refine lv_aload_n hx hb dX12_heavyBy_1 rfl (lv_at hl 0 rfl) ?_
  refine lv_iload_n hx hb dX12_heavyBy_2 rfl (lv_at hl 1 rfl) ?_
  refine lv_iconst (v := 0) hx hb dX12_heavyBy_3 rfl ?_
  obtain ⟨r4, er4, h⟩ := av_bd h
  refine av_goI hR (av_cV (As := [.int a1, .int 0]) (rest := [.ref (g.2.2 98)]) E X hR hl.1 (CX12_tells l g er4) kk_X12_136 (av_room (by omega) (by decide)) av_t98 (by decide) rfl rfl (Nat.le_of_ble_eq_true rfl) ⟨Nat.zero_le _, Nat.zero_le _⟩ dX12_heavyBy_4) (fun H locs hR => ?_)
  refine lv_aload_n hx hb dX12_heavyBy_7 rfl (lv_at hl 0 rfl) ?_
  refine lv_iload_n hx hb dX12_heavyBy_8 rfl (lv_at hl 1 rfl) ?_
  refine lv_iconst (v := 2) hx hb dX12_heavyBy_9 rfl ?_
  obtain ⟨r10, er10, h⟩ := av_bd h
  refine av_goI hR (av_cV (As := [.int a1, .int 2]) (rest := [.int r4, .ref (g.2.2 98)]) E X hR hl.1 (CX12_tells l g er10) kk_X12_136 (av_room (by omega) (by decide)) av_t98 (by decide) rfl rfl (Nat.le_of_ble_eq_true rfl) ⟨Nat.zero_le _, Nat.zero_le _⟩ dX12_heavyBy_10) (fun H locs hR => ?_)
  obtain ⟨r13, er13, h⟩ := av_bd h
  refine av_goI hR (av_cV (As := [.int r4, .int r10]) (rest := []) E X hR hl.1 (CX12_heavy l g er13) kk_X12_129 (av_room (by omega) (by decide)) av_t98 (by decide) rfl rfl (Nat.le_of_ble_eq_true rfl) ⟨Nat.zero_le _, Nat.zero_le _⟩ dX12_heavyBy_13) (fun H locs hR => ?_)
  exact av_ri E hR ⟨Option.some.inj h, hμ.symm⟩ dX12_heavyBy_16

set_option maxHeartbeats 4000000 in
set_option maxRecDepth 100000 in
theorem CX12_goStone (l : Launch) (g : Gl) {a1 : Int32} {a2 : Int32} {μ : Mem} {zr : Int32} {zm : Mem} (h : fX12_goStone a1 a2 μ = some (zr, zm)) : av_MI l yX12_goStone cX12_goStone 3 4 (some .int) av_wm g [.ref (g.2.2 98), .int a1, .int a2] μ zr zm := by
  refine av_ent (own := RX12) (by decide) (Nat.le_of_ble_eq_true rfl) rfl (fun p e s m args below meth c E X hR ls hl => ?_)
  have hl : lv_has ls 3 [(0, .ref (g.2.2 98)), (1, .int a1), (2, .int a2)] := hl
  obtain ⟨hx, hb, hr, hml, hown, hts, hlocks⟩ := id E
  unfold fX12_goStone at h
  refine lv_aload_n hx hb dX12_goStone_0 rfl (lv_at hl 0 rfl) ?_
  refine gf_X12_30 E X hR av_t98 dX12_goStone_1 av_r98_7 ?_
  refine lv_iload_n hx hb dX12_goStone_4 rfl (lv_at hl 1 rfl) ?_
  refine lv_dup2_11 hx hb dX12_goStone_5 rfl rfl ?_
  obtain ⟨r6, er6, h⟩ := av_bd h
  refine av_il E X hR av_t104 er6 dX12_goStone_6 ?_
  refine lv_iload_n hx hb dX12_goStone_7 rfl (lv_at hl 2 rfl) ?_
  refine lv_iadd hx hb dX12_goStone_8 ?_
  obtain ⟨μ9, eμ9, h⟩ := av_bd h
  refine av_is E X hR av_t104 eμ9 dX12_goStone_9 (fun H locs hR => ?_)
  refine lv_aload_n hx hb dX12_goStone_10 rfl (lv_at hl 0 rfl) ?_
  obtain ⟨r11, μ11, er11, h⟩ := av_bd2 h
  refine av_goI hR (av_cV (As := []) (rest := []) E X hR hl.1 (CX12_comesDown l g er11) kk_X12_143 (av_room (by omega) (by decide)) av_t98 (by decide) rfl rfl (Nat.le_of_ble_eq_true rfl) ⟨Nat.zero_le _, Nat.zero_le _⟩ dX12_goStone_11) (fun H locs hR => ?_)
  exact av_ri E hR (av_r2 h) dX12_goStone_14

set_option maxHeartbeats 4000000 in
set_option maxRecDepth 100000 in
theorem CX12_goVote (l : Launch) (g : Gl) {a1 : Int32} {μ : Mem} {zr : Int32} {zm : Mem} (h : fX12_goVote a1 μ = some (zr, zm)) : av_MI l yX12_goVote cX12_goVote 3 5 (some .int) av_wm g [.ref (g.2.2 98), .int a1] μ zr zm := by
  refine av_ent (own := RX12) (by decide) (Nat.le_of_ble_eq_true rfl) rfl (fun p e s m args below meth c E X hR ls hl => ?_)
  have hl : lv_has ls 3 [(0, .ref (g.2.2 98)), (1, .int a1)] := hl
  obtain ⟨hx, hb, hr, hml, hown, hts, hlocks⟩ := id E
  unfold fX12_goVote at h
  refine lv_aload_n hx hb dX12_goVote_0 rfl (lv_at hl 0 rfl) ?_
  refine lv_aload_n hx hb dX12_goVote_1 rfl (lv_at hl 0 rfl) ?_
  refine lv_iload_n hx hb dX12_goVote_2 rfl (lv_at hl 1 rfl) ?_
  obtain ⟨r3, er3, h⟩ := av_bd h
  refine av_goI hR (av_cV (As := [.int a1]) (rest := [.ref (g.2.2 98)]) E X hR hl.1 (CX12_whereBy l g er3) kk_X12_146 (av_room (by omega) (by decide)) av_t98 (by decide) rfl rfl (Nat.le_of_ble_eq_true rfl) ⟨Nat.zero_le _, Nat.zero_le _⟩ dX12_goVote_3) (fun H locs hR => ?_)
  refine lv_aload_n hx hb dX12_goVote_6 rfl (lv_at hl 0 rfl) ?_
  refine lv_iload_n hx hb dX12_goVote_7 rfl (lv_at hl 1 rfl) ?_
  obtain ⟨r8, er8, h⟩ := av_bd h
  refine av_goI hR (av_cV (As := [.int a1]) (rest := [.int r3, .ref (g.2.2 98)]) E X hR hl.1 (CX12_heavyBy l g er8) kk_X12_149 (av_room (by omega) (by decide)) av_t98 (by decide) rfl rfl (Nat.le_of_ble_eq_true rfl) ⟨Nat.zero_le _, Nat.zero_le _⟩ dX12_goVote_8) (fun H locs hR => ?_)
  obtain ⟨r11, μ11, er11, h⟩ := av_bd2 h
  refine av_goI hR (av_cV (As := [.int r3, .int r8]) (rest := []) E X hR hl.1 (CX12_goStone l g er11) kk_X12_152 (av_room (by omega) (by decide)) av_t98 (by decide) rfl rfl (Nat.le_of_ble_eq_true rfl) ⟨Nat.zero_le _, Nat.zero_le _⟩ dX12_goVote_11) (fun H locs hR => ?_)
  refine lv_istore_n (lv' := [(2, .int r11), (0, .ref (g.2.2 98)), (1, .int a1)]) hx hb dX12_goVote_14 rfl hl (by decide) rfl (fun ls hl => ?_)
  refine lv_aload_n hx hb dX12_goVote_15 rfl (lv_at hl 1 rfl) ?_
  refine lv_dup hx hb dX12_goVote_16 rfl ?_
  refine gf_X12_107 E X hR av_t98 dX12_goVote_17 ?_
  refine lv_iconst (v := 1) hx hb dX12_goVote_20 rfl ?_
  refine lv_iadd hx hb dX12_goVote_21 ?_
  obtain ⟨μ22, eμ22, h⟩ := av_bd h
  replace eμ22 := Option.some.inj eμ22
  refine pf_X12_107 E X hR av_t98 dX12_goVote_22 eμ22 (fun H locs hR => ?_)
  refine lv_iload_n hx hb dX12_goVote_25 rfl (lv_at hl 0 rfl) ?_
  exact av_ri E hR (av_r2 h) dX12_goVote_26

set_option maxHeartbeats 4000000 in
set_option maxRecDepth 100000 in
theorem tX12_goNight_2 {p : Program} {l : Launch} {e : Env} {s : State} {m : MethodId} {args : Array Value} {below : List Frame} {meth : Method} {c : Code} {g : Gl} {zr : Int32} {zm : Mem} (E : av_E p s m args meth c cX12_goNight RX12 3 (some .int)) (X : av_X av_wm g s) :
    ∀ (n : Nat) {x1 : Int32} {x2 : Int32} {μ : Mem} {H : Heap} {locs : List Loc} {ls : Array Slot}, fX12_goNight_2 n x1 x2 μ = some (zr, zm) → av_R av_wm g μ s H locs → lv_has ls 3 [(0, .ref (g.2.2 98)), (1, .int x1), (2, .int x2)] → W p l e (rmN 4) s m args below meth c H locs 0 0 (MQ below (va_Qi (fun r1 u => r1 = zr ∧ u = zm) (av_B av_wm g) (av_A av_wm g)) args s 0 0 (av_A av_wm g)) (F0 m 2 ls []) := by
  obtain ⟨hx, hb, hr, hml, hown, hts, hlocks⟩ := id E
  intro n
  induction n with
  | zero =>
    intro x1 x2 μ H locs ls h hR hl
    cases h
  | succ n ih =>
    intro x1 x2 μ H locs ls h hR hl
    unfold fX12_goNight_2 at h
    refine lv_iload_n hx hb dX12_goNight_2 rfl (lv_at hl 2 rfl) ?_
    refine lv_aload_n hx hb dX12_goNight_3 rfl (lv_at hl 0 rfl) ?_
    obtain ⟨r4, er4, h⟩ := av_bd h
    refine av_goI hR (av_cV (As := []) (rest := [.int x2]) E X hR hl.1 (CX12_ledges l g er4) kk_X12_64 (av_room (by omega) (by decide)) av_t98 (by decide) rfl rfl (Nat.le_of_ble_eq_true rfl) ⟨Nat.zero_le _, Nat.zero_le _⟩ dX12_goNight_4) (fun H locs hR => ?_)
    refine lv_icmp_ge (tgt := 26) hx hb dX12_goNight_7 (by decide) (fun c7 => ?_) (fun c7 => ?_)
    · have h := av_it c7 h
      refine lv_aload_n hx hb dX12_goNight_26 rfl (lv_at hl 0 rfl) ?_
      obtain ⟨r27, μ27, er27, h⟩ := av_bd2 h
      refine av_goI hR (av_cV (As := []) (rest := []) E X hR hl.1 (CX12_comesDown l g er27) kk_X12_143 (av_room (by omega) (by decide)) av_t98 (by decide) rfl rfl (Nat.le_of_ble_eq_true rfl) ⟨Nat.zero_le _, Nat.zero_le _⟩ dX12_goNight_27) (fun H locs hR => ?_)
      exact av_ri E hR (av_r2 h) dX12_goNight_30
    · have h := av_if c7 h
      refine lv_aload_n hx hb dX12_goNight_10 rfl (lv_at hl 0 rfl) ?_
      refine gf_X12_27 E X hR av_t98 dX12_goNight_11 av_r98_6 ?_
      refine lv_iload_n hx hb dX12_goNight_14 rfl (lv_at hl 2 rfl) ?_
      refine lv_dup2_11 hx hb dX12_goNight_15 rfl rfl ?_
      obtain ⟨r16, er16, h⟩ := av_bd h
      refine av_il E X hR av_t103 er16 dX12_goNight_16 ?_
      refine lv_iload_n hx hb dX12_goNight_17 rfl (lv_at hl 1 rfl) ?_
      refine lv_iadd hx hb dX12_goNight_18 ?_
      obtain ⟨μ19, eμ19, h⟩ := av_bd h
      refine av_is E X hR av_t103 eμ19 dX12_goNight_19 (fun H locs hR => ?_)
      obtain ⟨x2_20, ex2_20, h⟩ := av_bd h
      replace ex2_20 := Option.some.inj ex2_20
      refine lv_iinc (v := x2_20) (lv' := [(2, .int x2_20), (0, .ref (g.2.2 98)), (1, .int x1)]) hx hb dX12_goNight_20 hl (k := 2) rfl ex2_20 (by decide) rfl (fun ls hl => ?_)
      refine lv_goto (tgt := 2) hx hb dX12_goNight_23 (by decide) ?_
      exact ih h hR (lv_sub hl [1, 2, 0] rfl)

set_option maxHeartbeats 4000000 in
set_option maxRecDepth 100000 in
theorem CX12_goNight (l : Launch) (g : Gl) {a1 : Int32} {μ : Mem} {zr : Int32} {zm : Mem} (h : fX12_goNight a1 μ = some (zr, zm)) : av_MI l yX12_goNight cX12_goNight 3 4 (some .int) av_wm g [.ref (g.2.2 98), .int a1] μ zr zm := by
  refine av_ent (own := RX12) (by decide) (Nat.le_of_ble_eq_true rfl) rfl (fun p e s m args below meth c E X hR ls hl => ?_)
  have hl : lv_has ls 3 [(0, .ref (g.2.2 98)), (1, .int a1)] := hl
  obtain ⟨hx, hb, hr, hml, hown, hts, hlocks⟩ := id E
  unfold fX12_goNight at h
  refine lv_iconst (v := 0) hx hb dX12_goNight_0 rfl ?_
  refine lv_istore_n (lv' := [(2, .int 0), (0, .ref (g.2.2 98)), (1, .int a1)]) hx hb dX12_goNight_1 rfl hl (by decide) rfl (fun ls hl => ?_)
  exact tX12_goNight_2 E X _ h hR (lv_sub hl [1, 2, 0] rfl)

set_option maxHeartbeats 4000000 in
set_option maxRecDepth 100000 in
theorem tX12_keep_67 {p : Program} {l : Launch} {e : Env} {s : State} {m : MethodId} {args : Array Value} {below : List Frame} {meth : Method} {c : Code} {g : Gl} {zm : Mem} (E : av_E p s m args meth c cX12_keep RX12 3 none) (X : av_X av_wm g s) :
    ∀ (n : Nat) {x1 : Int32} {x2 : Int32} {μ : Mem} {H : Heap} {locs : List Loc} {ls : Array Slot}, fX12_keep_67 n x1 x2 μ = some zm → av_R av_wm g μ s H locs → lv_has ls 3 [(0, .ref (g.2.2 98)), (1, .int x1), (2, .int x2)] → W p l e (rmN 2) s m args below meth c H locs 0 0 (MQ below (va_Qv (fun u => u = zm) (av_B av_wm g) (av_A av_wm g)) args s 0 0 (av_A av_wm g)) (F0 m 67 ls []) := by
  obtain ⟨hx, hb, hr, hml, hown, hts, hlocks⟩ := id E
  intro n
  induction n with
  | zero =>
    intro x1 x2 μ H locs ls h hR hl
    cases h
  | succ n ih =>
    intro x1 x2 μ H locs ls h hR hl
    unfold fX12_keep_67 at h
    refine lv_iload_n hx hb dX12_keep_67 rfl (lv_at hl 2 rfl) ?_
    refine lv_bipush (v := 8) hx hb dX12_keep_68 rfl ?_
    refine lv_icmp_ge (tgt := 110) hx hb dX12_keep_70 (by decide) (fun c70 => ?_) (fun c70 => ?_)
    · have h := av_it c70 h
      refine lv_aload_n hx hb dX12_keep_110 rfl (lv_at hl 0 rfl) ?_
      refine gf_X12_7 E X hR av_t98 dX12_keep_111 av_r98_0 ?_
      refine lv_iload_n hx hb dX12_keep_114 rfl (lv_at hl 1 rfl) ?_
      refine lv_bipush (v := 16) hx hb dX12_keep_115 rfl ?_
      refine lv_iadd hx hb dX12_keep_117 ?_
      refine lv_aload_n hx hb dX12_keep_118 rfl (lv_at hl 0 rfl) ?_
      refine gf_X12_7 E X hR av_t98 dX12_keep_119 av_r98_0 ?_
      refine lv_iconst (v := 2) hx hb dX12_keep_122 rfl ?_
      obtain ⟨r123, er123, h⟩ := av_bd h
      refine av_il E X hR av_t99 er123 dX12_keep_123 ?_
      obtain ⟨μ124, eμ124, h⟩ := av_bd h
      refine av_is E X hR av_t99 eμ124 dX12_keep_124 (fun H locs hR => ?_)
      refine lv_aload_n hx hb dX12_keep_125 rfl (lv_at hl 0 rfl) ?_
      refine gf_X12_7 E X hR av_t98 dX12_keep_126 av_r98_0 ?_
      refine lv_iload_n hx hb dX12_keep_129 rfl (lv_at hl 1 rfl) ?_
      refine lv_bipush (v := 17) hx hb dX12_keep_130 rfl ?_
      refine lv_iadd hx hb dX12_keep_132 ?_
      refine lv_aload_n hx hb dX12_keep_133 rfl (lv_at hl 0 rfl) ?_
      refine gf_X12_7 E X hR av_t98 dX12_keep_134 av_r98_0 ?_
      refine lv_iconst (v := 5) hx hb dX12_keep_137 rfl ?_
      obtain ⟨r138, er138, h⟩ := av_bd h
      refine av_il E X hR av_t99 er138 dX12_keep_138 ?_
      obtain ⟨μ139, eμ139, h⟩ := av_bd h
      refine av_is E X hR av_t99 eμ139 dX12_keep_139 (fun H locs hR => ?_)
      refine lv_aload_n hx hb dX12_keep_140 rfl (lv_at hl 0 rfl) ?_
      refine gf_X12_7 E X hR av_t98 dX12_keep_141 av_r98_0 ?_
      refine lv_iload_n hx hb dX12_keep_144 rfl (lv_at hl 1 rfl) ?_
      refine lv_bipush (v := 18) hx hb dX12_keep_145 rfl ?_
      refine lv_iadd hx hb dX12_keep_147 ?_
      refine lv_aload_n hx hb dX12_keep_148 rfl (lv_at hl 0 rfl) ?_
      refine gf_X12_7 E X hR av_t98 dX12_keep_149 av_r98_0 ?_
      refine lv_bipush (v := 6) hx hb dX12_keep_152 rfl ?_
      obtain ⟨r154, er154, h⟩ := av_bd h
      refine av_il E X hR av_t99 er154 dX12_keep_154 ?_
      obtain ⟨μ155, eμ155, h⟩ := av_bd h
      refine av_is E X hR av_t99 eμ155 dX12_keep_155 (fun H locs hR => ?_)
      refine lv_aload_n hx hb dX12_keep_156 rfl (lv_at hl 0 rfl) ?_
      refine gf_X12_7 E X hR av_t98 dX12_keep_157 av_r98_0 ?_
      refine lv_iconst (v := 4) hx hb dX12_keep_160 rfl ?_
      refine lv_dup2_11 hx hb dX12_keep_161 rfl rfl ?_
      obtain ⟨r162, er162, h⟩ := av_bd h
      refine av_il E X hR av_t99 er162 dX12_keep_162 ?_
      refine lv_iconst (v := 1) hx hb dX12_keep_163 rfl ?_
      refine lv_iadd hx hb dX12_keep_164 ?_
      obtain ⟨μ165, eμ165, h⟩ := av_bd h
      refine av_is E X hR av_t99 eμ165 dX12_keep_165 (fun H locs hR => ?_)
      exact av_rv E hR (Option.some.inj h) dX12_keep_166
    · have h := av_if c70 h
      refine lv_aload_n hx hb dX12_keep_73 rfl (lv_at hl 0 rfl) ?_
      refine gf_X12_7 E X hR av_t98 dX12_keep_74 av_r98_0 ?_
      refine lv_iload_n hx hb dX12_keep_77 rfl (lv_at hl 1 rfl) ?_
      refine lv_iload_n hx hb dX12_keep_78 rfl (lv_at hl 2 rfl) ?_
      refine lv_iadd hx hb dX12_keep_79 ?_
      refine lv_aload_n hx hb dX12_keep_80 rfl (lv_at hl 0 rfl) ?_
      refine lv_iload_n hx hb dX12_keep_81 rfl (lv_at hl 2 rfl) ?_
      refine lv_iconst (v := 1) hx hb dX12_keep_82 rfl ?_
      obtain ⟨r83, er83, h⟩ := av_bd h
      refine av_goI hR (av_cV (As := [.int x2, .int 1]) (rest := [.int (x1 + x2), .ref (g.2.2 99)]) E X hR hl.1 (CX12_get l g er83) kk_X12_103 (av_room (by omega) (by decide)) av_t98 (by decide) rfl rfl (Nat.le_of_ble_eq_true rfl) ⟨Nat.zero_le _, Nat.zero_le _⟩ dX12_keep_83) (fun H locs hR => ?_)
      obtain ⟨μ86, eμ86, h⟩ := av_bd h
      refine av_is E X hR av_t99 eμ86 dX12_keep_86 (fun H locs hR => ?_)
      refine lv_aload_n hx hb dX12_keep_87 rfl (lv_at hl 0 rfl) ?_
      refine gf_X12_7 E X hR av_t98 dX12_keep_88 av_r98_0 ?_
      refine lv_iload_n hx hb dX12_keep_91 rfl (lv_at hl 1 rfl) ?_
      refine lv_bipush (v := 8) hx hb dX12_keep_92 rfl ?_
      refine lv_iadd hx hb dX12_keep_94 ?_
      refine lv_iload_n hx hb dX12_keep_95 rfl (lv_at hl 2 rfl) ?_
      refine lv_iadd hx hb dX12_keep_96 ?_
      refine lv_aload_n hx hb dX12_keep_97 rfl (lv_at hl 0 rfl) ?_
      refine lv_iload_n hx hb dX12_keep_98 rfl (lv_at hl 2 rfl) ?_
      refine lv_iconst (v := 2) hx hb dX12_keep_99 rfl ?_
      obtain ⟨r100, er100, h⟩ := av_bd h
      refine av_goI hR (av_cV (As := [.int x2, .int 2]) (rest := [.int ((x1 + 8) + x2), .ref (g.2.2 99)]) E X hR hl.1 (CX12_get l g er100) kk_X12_103 (av_room (by omega) (by decide)) av_t98 (by decide) rfl rfl (Nat.le_of_ble_eq_true rfl) ⟨Nat.zero_le _, Nat.zero_le _⟩ dX12_keep_100) (fun H locs hR => ?_)
      obtain ⟨μ103, eμ103, h⟩ := av_bd h
      refine av_is E X hR av_t99 eμ103 dX12_keep_103 (fun H locs hR => ?_)
      obtain ⟨x2_104, ex2_104, h⟩ := av_bd h
      replace ex2_104 := Option.some.inj ex2_104
      refine lv_iinc (v := x2_104) (lv' := [(2, .int x2_104), (0, .ref (g.2.2 98)), (1, .int x1)]) hx hb dX12_keep_104 hl (k := 2) rfl ex2_104 (by decide) rfl (fun ls hl => ?_)
      refine lv_goto (tgt := 67) hx hb dX12_keep_107 (by decide) ?_
      exact ih h hR (lv_sub hl [1, 2, 0] rfl)

set_option maxHeartbeats 4000000 in
set_option maxRecDepth 100000 in
theorem tX12_keep_52 {p : Program} {l : Launch} {e : Env} {s : State} {m : MethodId} {args : Array Value} {below : List Frame} {meth : Method} {c : Code} {g : Gl} {zm : Mem} (E : av_E p s m args meth c cX12_keep RX12 3 none) (X : av_X av_wm g s) :
    ∀ {μ : Mem} {H : Heap} {locs : List Loc} {ls : Array Slot}, fX12_keep_52 μ = some zm → av_R av_wm g μ s H locs → lv_has ls 3 [(0, .ref (g.2.2 98))] → W p l e (rmN 2) s m args below meth c H locs 0 0 (MQ below (va_Qv (fun u => u = zm) (av_B av_wm g) (av_A av_wm g)) args s 0 0 (av_A av_wm g)) (F0 m 52 ls []) := by
  obtain ⟨hx, hb, hr, hml, hown, hts, hlocks⟩ := id E
  intro μ H locs ls h hR hl
  unfold fX12_keep_52 at h
  refine lv_bipush (v := 69) hx hb dX12_keep_52 rfl ?_
  refine lv_bipush (v := 19) hx hb dX12_keep_54 rfl ?_
  refine lv_aload_n hx hb dX12_keep_56 rfl (lv_at hl 0 rfl) ?_
  refine gf_X12_7 E X hR av_t98 dX12_keep_57 av_r98_0 ?_
  refine lv_iconst (v := 4) hx hb dX12_keep_60 rfl ?_
  obtain ⟨r61, er61, h⟩ := av_bd h
  refine av_il E X hR av_t99 er61 dX12_keep_61 ?_
  refine lv_imul hx hb dX12_keep_62 ?_
  refine lv_iadd hx hb dX12_keep_63 ?_
  obtain ⟨x1_64, ex1_64, h⟩ := av_bd h
  replace ex1_64 := Option.some.inj ex1_64
  rw [ex1_64]
  refine lv_istore_n (lv' := [(1, .int x1_64), (0, .ref (g.2.2 98))]) hx hb dX12_keep_64 rfl hl (by decide) rfl (fun ls hl => ?_)
  refine lv_iconst (v := 0) hx hb dX12_keep_65 rfl ?_
  refine lv_istore_n (lv' := [(2, .int 0), (1, .int x1_64), (0, .ref (g.2.2 98))]) hx hb dX12_keep_66 rfl hl (by decide) rfl (fun ls hl => ?_)
  exact tX12_keep_67 E X _ h hR (lv_sub hl [2, 1, 0] rfl)

set_option maxHeartbeats 4000000 in
set_option maxRecDepth 100000 in
theorem tX12_keep_13 {p : Program} {l : Launch} {e : Env} {s : State} {m : MethodId} {args : Array Value} {below : List Frame} {meth : Method} {c : Code} {g : Gl} {zm : Mem} (E : av_E p s m args meth c cX12_keep RX12 3 none) (X : av_X av_wm g s) :
    ∀ (n : Nat) {x1 : Int32} {μ : Mem} {H : Heap} {locs : List Loc} {ls : Array Slot}, fX12_keep_13 n x1 μ = some zm → av_R av_wm g μ s H locs → lv_has ls 3 [(0, .ref (g.2.2 98)), (1, .int x1)] → W p l e (rmN 2) s m args below meth c H locs 0 0 (MQ below (va_Qv (fun u => u = zm) (av_B av_wm g) (av_A av_wm g)) args s 0 0 (av_A av_wm g)) (F0 m 13 ls []) := by
  obtain ⟨hx, hb, hr, hml, hown, hts, hlocks⟩ := id E
  intro n
  induction n with
  | zero =>
    intro x1 μ H locs ls h hR hl
    cases h
  | succ n ih =>
    intro x1 μ H locs ls h hR hl
    unfold fX12_keep_13 at h
    refine lv_iload_n hx hb dX12_keep_13 rfl (lv_at hl 1 rfl) ?_
    refine lv_sipush (v := 133) hx hb dX12_keep_14 rfl ?_
    refine lv_icmp_ge (tgt := 44) hx hb dX12_keep_17 (by decide) (fun c17 => ?_) (fun c17 => ?_)
    · have h := av_it c17 h
      refine lv_aload_n hx hb dX12_keep_44 rfl (lv_at hl 0 rfl) ?_
      refine gf_X12_7 E X hR av_t98 dX12_keep_45 av_r98_0 ?_
      refine lv_iconst (v := 4) hx hb dX12_keep_48 rfl ?_
      refine lv_bipush (v := 7) hx hb dX12_keep_49 rfl ?_
      obtain ⟨μ51, eμ51, h⟩ := av_bd h
      refine av_is E X hR av_t99 eμ51 dX12_keep_51 (fun H locs hR => ?_)
      exact tX12_keep_52 E X h hR (lv_sub hl [0] rfl)
    · have h := av_if c17 h
      refine lv_aload_n hx hb dX12_keep_20 rfl (lv_at hl 0 rfl) ?_
      refine gf_X12_7 E X hR av_t98 dX12_keep_21 av_r98_0 ?_
      refine lv_bipush (v := 69) hx hb dX12_keep_24 rfl ?_
      refine lv_iload_n hx hb dX12_keep_26 rfl (lv_at hl 1 rfl) ?_
      refine lv_iadd hx hb dX12_keep_27 ?_
      refine lv_aload_n hx hb dX12_keep_28 rfl (lv_at hl 0 rfl) ?_
      refine gf_X12_7 E X hR av_t98 dX12_keep_29 av_r98_0 ?_
      refine lv_bipush (v := 88) hx hb dX12_keep_32 rfl ?_
      refine lv_iload_n hx hb dX12_keep_34 rfl (lv_at hl 1 rfl) ?_
      refine lv_iadd hx hb dX12_keep_35 ?_
      obtain ⟨r36, er36, h⟩ := av_bd h
      refine av_il E X hR av_t99 er36 dX12_keep_36 ?_
      obtain ⟨μ37, eμ37, h⟩ := av_bd h
      refine av_is E X hR av_t99 eμ37 dX12_keep_37 (fun H locs hR => ?_)
      obtain ⟨x1_38, ex1_38, h⟩ := av_bd h
      replace ex1_38 := Option.some.inj ex1_38
      refine lv_iinc (v := x1_38) (lv' := [(1, .int x1_38), (0, .ref (g.2.2 98))]) hx hb dX12_keep_38 hl (k := 1) rfl ex1_38 (by decide) rfl (fun ls hl => ?_)
      refine lv_goto (tgt := 13) hx hb dX12_keep_41 (by decide) ?_
      exact ih h hR (lv_sub hl [1, 0] rfl)

set_option maxHeartbeats 4000000 in
set_option maxRecDepth 100000 in
theorem CX12_keep (l : Launch) (g : Gl) {μ : Mem} {zm : Mem} (h : fX12_keep μ = some zm) : av_MV l yX12_keep cX12_keep 3 2 none av_wm g [.ref (g.2.2 98)] μ zm := by
  refine av_ent (own := RX12) (by decide) (Nat.le_of_ble_eq_true rfl) rfl (fun p e s m args below meth c E X hR ls hl => ?_)
  have hl : lv_has ls 3 [(0, .ref (g.2.2 98))] := hl
  obtain ⟨hx, hb, hr, hml, hown, hts, hlocks⟩ := id E
  unfold fX12_keep at h
  refine lv_aload_n hx hb dX12_keep_0 rfl (lv_at hl 0 rfl) ?_
  refine gf_X12_7 E X hR av_t98 dX12_keep_1 av_r98_0 ?_
  refine lv_iconst (v := 4) hx hb dX12_keep_4 rfl ?_
  obtain ⟨r5, er5, h⟩ := av_bd h
  refine av_il E X hR av_t99 er5 dX12_keep_5 ?_
  refine lv_bipush (v := 8) hx hb dX12_keep_6 rfl ?_
  refine lv_icmp_ne (tgt := 52) hx hb dX12_keep_8 (by decide) (fun c8 => ?_) (fun c8 => ?_)
  · have h := av_if c8 h
    exact tX12_keep_52 E X h hR (lv_sub hl [0] rfl)
  · have h := av_it c8 h
    refine lv_iconst (v := 0) hx hb dX12_keep_11 rfl ?_
    refine lv_istore_n (lv' := [(1, .int 0), (0, .ref (g.2.2 98))]) hx hb dX12_keep_12 rfl hl (by decide) rfl (fun ls hl => ?_)
    exact tX12_keep_13 E X _ h hR (lv_sub hl [1, 0] rfl)

set_option maxHeartbeats 4000000 in
set_option maxRecDepth 100000 in
theorem tX12_layNow_2 {p : Program} {l : Launch} {e : Env} {s : State} {m : MethodId} {args : Array Value} {below : List Frame} {meth : Method} {c : Code} {g : Gl} {zm : Mem} (E : av_E p s m args meth c cX12_layNow RX12 2 none) (X : av_X av_wm g s) :
    ∀ (n : Nat) {x1 : Int32} {μ : Mem} {H : Heap} {locs : List Loc} {ls : Array Slot}, fX12_layNow_2 n x1 μ = some zm → av_R av_wm g μ s H locs → lv_has ls 2 [(0, .ref (g.2.2 98)), (1, .int x1)] → W p l e (rmN 2) s m args below meth c H locs 0 0 (MQ below (va_Qv (fun u => u = zm) (av_B av_wm g) (av_A av_wm g)) args s 0 0 (av_A av_wm g)) (F0 m 2 ls []) := by
  obtain ⟨hx, hb, hr, hml, hown, hts, hlocks⟩ := id E
  intro n
  induction n with
  | zero =>
    intro x1 μ H locs ls h hR hl
    cases h
  | succ n ih =>
    intro x1 μ H locs ls h hR hl
    unfold fX12_layNow_2 at h
    refine lv_iload_n hx hb dX12_layNow_2 rfl (lv_at hl 1 rfl) ?_
    refine lv_aload_n hx hb dX12_layNow_3 rfl (lv_at hl 0 rfl) ?_
    obtain ⟨r4, er4, h⟩ := av_bd h
    refine av_goI hR (av_cV (As := []) (rest := [.int x1]) E X hR hl.1 (CX12_ledges l g er4) kk_X12_64 (av_room (by omega) (by decide)) av_t98 (by decide) rfl rfl (Nat.le_of_ble_eq_true rfl) ⟨Nat.zero_le _, Nat.zero_le _⟩ dX12_layNow_4) (fun H locs hR => ?_)
    refine lv_icmp_ge (tgt := 54) hx hb dX12_layNow_7 (by decide) (fun c7 => ?_) (fun c7 => ?_)
    · have h := av_it c7 h
      refine lv_aload_n hx hb dX12_layNow_54 rfl (lv_at hl 0 rfl) ?_
      refine gf_X12_7 E X hR av_t98 dX12_layNow_55 av_r98_0 ?_
      refine lv_iconst (v := 2) hx hb dX12_layNow_58 rfl ?_
      refine lv_aload_n hx hb dX12_layNow_59 rfl (lv_at hl 0 rfl) ?_
      refine gf_X12_107 E X hR av_t98 dX12_layNow_60 ?_
      obtain ⟨μ63, eμ63, h⟩ := av_bd h
      refine av_is E X hR av_t99 eμ63 dX12_layNow_63 (fun H locs hR => ?_)
      refine lv_aload_n hx hb dX12_layNow_64 rfl (lv_at hl 0 rfl) ?_
      refine gf_X12_7 E X hR av_t98 dX12_layNow_65 av_r98_0 ?_
      refine lv_iconst (v := 5) hx hb dX12_layNow_68 rfl ?_
      refine lv_aload_n hx hb dX12_layNow_69 rfl (lv_at hl 0 rfl) ?_
      refine gf_X12_111 E X hR av_t98 dX12_layNow_70 ?_
      obtain ⟨μ73, eμ73, h⟩ := av_bd h
      refine av_is E X hR av_t99 eμ73 dX12_layNow_73 (fun H locs hR => ?_)
      refine lv_aload_n hx hb dX12_layNow_74 rfl (lv_at hl 0 rfl) ?_
      refine gf_X12_7 E X hR av_t98 dX12_layNow_75 av_r98_0 ?_
      refine lv_bipush (v := 6) hx hb dX12_layNow_78 rfl ?_
      refine lv_aload_n hx hb dX12_layNow_80 rfl (lv_at hl 0 rfl) ?_
      refine gf_X12_114 E X hR av_t98 dX12_layNow_81 ?_
      obtain ⟨μ84, eμ84, h⟩ := av_bd h
      refine av_is E X hR av_t99 eμ84 dX12_layNow_84 (fun H locs hR => ?_)
      exact av_rv E hR (Option.some.inj h) dX12_layNow_85
    · have h := av_if c7 h
      refine lv_aload_n hx hb dX12_layNow_10 rfl (lv_at hl 0 rfl) ?_
      refine gf_X12_7 E X hR av_t98 dX12_layNow_11 av_r98_0 ?_
      refine lv_bipush (v := 7) hx hb dX12_layNow_14 rfl ?_
      refine lv_iconst (v := 4) hx hb dX12_layNow_16 rfl ?_
      refine lv_iload_n hx hb dX12_layNow_17 rfl (lv_at hl 1 rfl) ?_
      refine lv_imul hx hb dX12_layNow_18 ?_
      refine lv_iadd hx hb dX12_layNow_19 ?_
      refine lv_iconst (v := 1) hx hb dX12_layNow_20 rfl ?_
      refine lv_iadd hx hb dX12_layNow_21 ?_
      refine lv_aload_n hx hb dX12_layNow_22 rfl (lv_at hl 0 rfl) ?_
      refine gf_X12_27 E X hR av_t98 dX12_layNow_23 av_r98_6 ?_
      refine lv_iload_n hx hb dX12_layNow_26 rfl (lv_at hl 1 rfl) ?_
      obtain ⟨r27, er27, h⟩ := av_bd h
      refine av_il E X hR av_t103 er27 dX12_layNow_27 ?_
      obtain ⟨μ28, eμ28, h⟩ := av_bd h
      refine av_is E X hR av_t99 eμ28 dX12_layNow_28 (fun H locs hR => ?_)
      refine lv_aload_n hx hb dX12_layNow_29 rfl (lv_at hl 0 rfl) ?_
      refine gf_X12_7 E X hR av_t98 dX12_layNow_30 av_r98_0 ?_
      refine lv_bipush (v := 7) hx hb dX12_layNow_33 rfl ?_
      refine lv_iconst (v := 4) hx hb dX12_layNow_35 rfl ?_
      refine lv_iload_n hx hb dX12_layNow_36 rfl (lv_at hl 1 rfl) ?_
      refine lv_imul hx hb dX12_layNow_37 ?_
      refine lv_iadd hx hb dX12_layNow_38 ?_
      refine lv_iconst (v := 2) hx hb dX12_layNow_39 rfl ?_
      refine lv_iadd hx hb dX12_layNow_40 ?_
      refine lv_aload_n hx hb dX12_layNow_41 rfl (lv_at hl 0 rfl) ?_
      refine gf_X12_30 E X hR av_t98 dX12_layNow_42 av_r98_7 ?_
      refine lv_iload_n hx hb dX12_layNow_45 rfl (lv_at hl 1 rfl) ?_
      obtain ⟨r46, er46, h⟩ := av_bd h
      refine av_il E X hR av_t104 er46 dX12_layNow_46 ?_
      obtain ⟨μ47, eμ47, h⟩ := av_bd h
      refine av_is E X hR av_t99 eμ47 dX12_layNow_47 (fun H locs hR => ?_)
      obtain ⟨x1_48, ex1_48, h⟩ := av_bd h
      replace ex1_48 := Option.some.inj ex1_48
      refine lv_iinc (v := x1_48) (lv' := [(1, .int x1_48), (0, .ref (g.2.2 98))]) hx hb dX12_layNow_48 hl (k := 1) rfl ex1_48 (by decide) rfl (fun ls hl => ?_)
      refine lv_goto (tgt := 2) hx hb dX12_layNow_51 (by decide) ?_
      exact ih h hR (lv_sub hl [1, 0] rfl)

set_option maxHeartbeats 4000000 in
set_option maxRecDepth 100000 in
theorem CX12_layNow (l : Launch) (g : Gl) {μ : Mem} {zm : Mem} (h : fX12_layNow μ = some zm) : av_MV l yX12_layNow cX12_layNow 2 2 none av_wm g [.ref (g.2.2 98)] μ zm := by
  refine av_ent (own := RX12) (by decide) (Nat.le_of_ble_eq_true rfl) rfl (fun p e s m args below meth c E X hR ls hl => ?_)
  have hl : lv_has ls 2 [(0, .ref (g.2.2 98))] := hl
  obtain ⟨hx, hb, hr, hml, hown, hts, hlocks⟩ := id E
  unfold fX12_layNow at h
  refine lv_iconst (v := 0) hx hb dX12_layNow_0 rfl ?_
  refine lv_istore_n (lv' := [(1, .int 0), (0, .ref (g.2.2 98))]) hx hb dX12_layNow_1 rfl hl (by decide) rfl (fun ls hl => ?_)
  exact tX12_layNow_2 E X _ h hR (lv_sub hl [1, 0] rfl)

set_option maxHeartbeats 4000000 in
set_option maxRecDepth 100000 in
theorem CX12_vote (l : Launch) (g : Gl) {a1 : Int32} {μ : Mem} {zr : Int32} {zm : Mem} (h : fX12_vote a1 μ = some (zr, zm)) : av_MI l yX12_vote cX12_vote 3 6 (some .int) av_wm g [.ref (g.2.2 98), .int a1] μ zr zm := by
  refine av_ent (own := RX12) (by decide) (Nat.le_of_ble_eq_true rfl) rfl (fun p e s m args below meth c E X hR ls hl => ?_)
  have hl : lv_has ls 3 [(0, .ref (g.2.2 98)), (1, .int a1)] := hl
  obtain ⟨hx, hb, hr, hml, hown, hts, hlocks⟩ := id E
  unfold fX12_vote at h
  refine lv_aload_n hx hb dX12_vote_0 rfl (lv_at hl 0 rfl) ?_
  refine lv_iload_n hx hb dX12_vote_1 rfl (lv_at hl 1 rfl) ?_
  obtain ⟨r2, er2, h⟩ := av_bd h
  refine av_goI hR (av_cV (As := [.int a1]) (rest := []) E X hR hl.1 (CX12_isVoter l g er2) kk_X12_155 (av_room (by omega) (by decide)) av_t98 (by decide) rfl rfl (Nat.le_of_ble_eq_true rfl) ⟨Nat.zero_le _, Nat.zero_le _⟩ dX12_vote_2) (fun H locs hR => ?_)
  refine lv_if_ne (tgt := 15) hx hb dX12_vote_5 (by decide) (fun c5 => ?_) (fun c5 => ?_)
  · have h := av_if c5 h
    refine lv_aload_n hx hb dX12_vote_15 rfl (lv_at hl 0 rfl) ?_
    obtain ⟨μ16, eμ16, h⟩ := av_bd h
    refine av_goV hR (av_cV (As := []) (rest := []) E X hR hl.1 (CX12_keep l g eμ16) kk_X12_158 (av_room (by omega) (by decide)) av_t98 (by decide) rfl rfl (Nat.le_of_ble_eq_true rfl) ⟨Nat.zero_le _, Nat.zero_le _⟩ dX12_vote_16) (fun H locs hR => ?_)
    refine lv_aload_n hx hb dX12_vote_19 rfl (lv_at hl 0 rfl) ?_
    obtain ⟨μ20, eμ20, h⟩ := av_bd h
    refine av_goV hR (av_cV (As := []) (rest := []) E X hR hl.1 (CX12_layHand l g eμ20) kk_X12_161 (av_room (by omega) (by decide)) av_t98 (by decide) rfl rfl (Nat.le_of_ble_eq_true rfl) ⟨Nat.zero_le _, Nat.zero_le _⟩ dX12_vote_20) (fun H locs hR => ?_)
    refine lv_aload_n hx hb dX12_vote_23 rfl (lv_at hl 0 rfl) ?_
    refine lv_iload_n hx hb dX12_vote_24 rfl (lv_at hl 1 rfl) ?_
    obtain ⟨r25, μ25, er25, h⟩ := av_bd2 h
    refine av_goI hR (av_cV (As := [.int a1]) (rest := []) E X hR hl.1 (CX12_goVote l g er25) kk_X12_164 (av_room (by omega) (by decide)) av_t98 (by decide) rfl rfl (Nat.le_of_ble_eq_true rfl) ⟨Nat.zero_le _, Nat.zero_le _⟩ dX12_vote_25) (fun H locs hR => ?_)
    refine lv_istore_n (lv' := [(2, .int r25), (0, .ref (g.2.2 98)), (1, .int a1)]) hx hb dX12_vote_28 rfl hl (by decide) rfl (fun ls hl => ?_)
    refine lv_aload_n hx hb dX12_vote_29 rfl (lv_at hl 1 rfl) ?_
    obtain ⟨μ30, eμ30, h⟩ := av_bd h
    refine av_goV hR (av_cV (As := []) (rest := []) E X hR hl.1 (CX12_layNow l g eμ30) kk_X12_167 (av_room (by omega) (by decide)) av_t98 (by decide) rfl rfl (Nat.le_of_ble_eq_true rfl) ⟨Nat.zero_le _, Nat.zero_le _⟩ dX12_vote_30) (fun H locs hR => ?_)
    refine lv_iload_n hx hb dX12_vote_33 rfl (lv_at hl 0 rfl) ?_
    exact av_ri E hR (av_r2 h) dX12_vote_34
  · have h := av_it c5 h
    refine lv_aload_n hx hb dX12_vote_8 rfl (lv_at hl 0 rfl) ?_
    refine lv_bipush (v := (-2)) hx hb dX12_vote_9 rfl ?_
    obtain ⟨r11, μ11, er11, h⟩ := av_bd2 h
    refine av_goI hR (av_cV (As := [.int (-2)]) (rest := []) E X hR hl.1 (CX12_bad l g er11) kk_X12_81 (av_room (by omega) (by decide)) av_t98 (by decide) rfl rfl (Nat.le_of_ble_eq_true rfl) ⟨Nat.zero_le _, Nat.zero_le _⟩ dX12_vote_11) (fun H locs hR => ?_)
    exact av_ri E hR (av_r2 h) dX12_vote_14

set_option maxHeartbeats 4000000 in
set_option maxRecDepth 100000 in
theorem CX12_night (l : Launch) (g : Gl) {a1 : Int32} {μ : Mem} {zr : Int32} {zm : Mem} (h : fX12_night a1 μ = some (zr, zm)) : av_MI l yX12_night cX12_night 3 5 (some .int) av_wm g [.ref (g.2.2 98), .int a1] μ zr zm := by
  refine av_ent (own := RX12) (by decide) (Nat.le_of_ble_eq_true rfl) rfl (fun p e s m args below meth c E X hR ls hl => ?_)
  have hl : lv_has ls 3 [(0, .ref (g.2.2 98)), (1, .int a1)] := hl
  obtain ⟨hx, hb, hr, hml, hown, hts, hlocks⟩ := id E
  unfold fX12_night at h
  refine lv_iload_n hx hb dX12_night_0 rfl (lv_at hl 1 rfl) ?_
  refine lv_i2l hx hb dX12_night_1 rfl ?_
  refine lv_lconst (v := 1) hx hb dX12_night_2 rfl ?_
  refine lv_ldc2 (v := 9) hx hb hown (hts _ kL_X12_98) dX12_night_3 ?_
  obtain ⟨r6, er6, h⟩ := av_bd h
  refine av_goI hR (av_cS (As := [.long (Int32.toInt64 a1), .long 1, .long 9]) (rest := []) E X hR hl.1 (CX12_in l g er6) kk_X12_68 (av_room (by omega) (by decide)) rfl (Nat.le_of_ble_eq_true rfl) ⟨Nat.zero_le _, Nat.zero_le _⟩ dX12_night_6) (fun H locs hR => ?_)
  refine lv_if_ne (tgt := 19) hx hb dX12_night_9 (by decide) (fun c9 => ?_) (fun c9 => ?_)
  · have h := av_if c9 h
    refine lv_aload_n hx hb dX12_night_19 rfl (lv_at hl 0 rfl) ?_
    obtain ⟨μ20, eμ20, h⟩ := av_bd h
    refine av_goV hR (av_cV (As := []) (rest := []) E X hR hl.1 (CX12_keep l g eμ20) kk_X12_158 (av_room (by omega) (by decide)) av_t98 (by decide) rfl rfl (Nat.le_of_ble_eq_true rfl) ⟨Nat.zero_le _, Nat.zero_le _⟩ dX12_night_20) (fun H locs hR => ?_)
    refine lv_aload_n hx hb dX12_night_23 rfl (lv_at hl 0 rfl) ?_
    obtain ⟨μ24, eμ24, h⟩ := av_bd h
    refine av_goV hR (av_cV (As := []) (rest := []) E X hR hl.1 (CX12_layHand l g eμ24) kk_X12_161 (av_room (by omega) (by decide)) av_t98 (by decide) rfl rfl (Nat.le_of_ble_eq_true rfl) ⟨Nat.zero_le _, Nat.zero_le _⟩ dX12_night_24) (fun H locs hR => ?_)
    refine lv_aload_n hx hb dX12_night_27 rfl (lv_at hl 0 rfl) ?_
    refine lv_iload_n hx hb dX12_night_28 rfl (lv_at hl 1 rfl) ?_
    obtain ⟨r29, μ29, er29, h⟩ := av_bd2 h
    refine av_goI hR (av_cV (As := [.int a1]) (rest := []) E X hR hl.1 (CX12_goNight l g er29) kk_X12_170 (av_room (by omega) (by decide)) av_t98 (by decide) rfl rfl (Nat.le_of_ble_eq_true rfl) ⟨Nat.zero_le _, Nat.zero_le _⟩ dX12_night_29) (fun H locs hR => ?_)
    refine lv_istore_n (lv' := [(2, .int r29), (0, .ref (g.2.2 98)), (1, .int a1)]) hx hb dX12_night_32 rfl hl (by decide) rfl (fun ls hl => ?_)
    refine lv_aload_n hx hb dX12_night_33 rfl (lv_at hl 1 rfl) ?_
    obtain ⟨μ34, eμ34, h⟩ := av_bd h
    refine av_goV hR (av_cV (As := []) (rest := []) E X hR hl.1 (CX12_layNow l g eμ34) kk_X12_167 (av_room (by omega) (by decide)) av_t98 (by decide) rfl rfl (Nat.le_of_ble_eq_true rfl) ⟨Nat.zero_le _, Nat.zero_le _⟩ dX12_night_34) (fun H locs hR => ?_)
    refine lv_iload_n hx hb dX12_night_37 rfl (lv_at hl 0 rfl) ?_
    exact av_ri E hR (av_r2 h) dX12_night_38
  · have h := av_it c9 h
    refine lv_aload_n hx hb dX12_night_12 rfl (lv_at hl 0 rfl) ?_
    refine lv_bipush (v := (-2)) hx hb dX12_night_13 rfl ?_
    obtain ⟨r15, μ15, er15, h⟩ := av_bd2 h
    refine av_goI hR (av_cV (As := [.int (-2)]) (rest := []) E X hR hl.1 (CX12_bad l g er15) kk_X12_81 (av_room (by omega) (by decide)) av_t98 (by decide) rfl rfl (Nat.le_of_ble_eq_true rfl) ⟨Nat.zero_le _, Nat.zero_le _⟩ dX12_night_15) (fun H locs hR => ?_)
    exact av_ri E hR (av_r2 h) dX12_night_18

set_option maxHeartbeats 4000000 in
set_option maxRecDepth 100000 in
theorem tX12_undo_39 {p : Program} {l : Launch} {e : Env} {s : State} {m : MethodId} {args : Array Value} {below : List Frame} {meth : Method} {c : Code} {g : Gl} {zr : Int32} {zm : Mem} (E : av_E p s m args meth c cX12_undo RX12 3 (some .int)) (X : av_X av_wm g s) :
    ∀ (n : Nat) {x1 : Int32} {x2 : Int32} {μ : Mem} {H : Heap} {locs : List Loc} {ls : Array Slot}, fX12_undo_39 n x1 x2 μ = some (zr, zm) → av_R av_wm g μ s H locs → lv_has ls 3 [(0, .ref (g.2.2 98)), (1, .int x1), (2, .int x2)] → W p l e (rmN 2) s m args below meth c H locs 0 0 (MQ below (va_Qi (fun r1 u => r1 = zr ∧ u = zm) (av_B av_wm g) (av_A av_wm g)) args s 0 0 (av_A av_wm g)) (F0 m 39 ls []) := by
  obtain ⟨hx, hb, hr, hml, hown, hts, hlocks⟩ := id E
  intro n
  induction n with
  | zero =>
    intro x1 x2 μ H locs ls h hR hl
    cases h
  | succ n ih =>
    intro x1 x2 μ H locs ls h hR hl
    unfold fX12_undo_39 at h
    refine lv_iload_n hx hb dX12_undo_39 rfl (lv_at hl 2 rfl) ?_
    refine lv_bipush (v := 8) hx hb dX12_undo_40 rfl ?_
    refine lv_icmp_ge (tgt := 96) hx hb dX12_undo_42 (by decide) (fun c42 => ?_) (fun c42 => ?_)
    · have h := av_it c42 h
      refine lv_aload_n hx hb dX12_undo_96 rfl (lv_at hl 0 rfl) ?_
      refine gf_X12_7 E X hR av_t98 dX12_undo_97 av_r98_0 ?_
      refine lv_iconst (v := 2) hx hb dX12_undo_100 rfl ?_
      refine lv_aload_n hx hb dX12_undo_101 rfl (lv_at hl 0 rfl) ?_
      refine gf_X12_7 E X hR av_t98 dX12_undo_102 av_r98_0 ?_
      refine lv_iload_n hx hb dX12_undo_105 rfl (lv_at hl 1 rfl) ?_
      refine lv_bipush (v := 16) hx hb dX12_undo_106 rfl ?_
      refine lv_iadd hx hb dX12_undo_108 ?_
      obtain ⟨r109, er109, h⟩ := av_bd h
      refine av_il E X hR av_t99 er109 dX12_undo_109 ?_
      obtain ⟨μ110, eμ110, h⟩ := av_bd h
      refine av_is E X hR av_t99 eμ110 dX12_undo_110 (fun H locs hR => ?_)
      refine lv_aload_n hx hb dX12_undo_111 rfl (lv_at hl 0 rfl) ?_
      refine gf_X12_7 E X hR av_t98 dX12_undo_112 av_r98_0 ?_
      refine lv_iconst (v := 5) hx hb dX12_undo_115 rfl ?_
      refine lv_aload_n hx hb dX12_undo_116 rfl (lv_at hl 0 rfl) ?_
      refine gf_X12_7 E X hR av_t98 dX12_undo_117 av_r98_0 ?_
      refine lv_iload_n hx hb dX12_undo_120 rfl (lv_at hl 1 rfl) ?_
      refine lv_bipush (v := 17) hx hb dX12_undo_121 rfl ?_
      refine lv_iadd hx hb dX12_undo_123 ?_
      obtain ⟨r124, er124, h⟩ := av_bd h
      refine av_il E X hR av_t99 er124 dX12_undo_124 ?_
      obtain ⟨μ125, eμ125, h⟩ := av_bd h
      refine av_is E X hR av_t99 eμ125 dX12_undo_125 (fun H locs hR => ?_)
      refine lv_aload_n hx hb dX12_undo_126 rfl (lv_at hl 0 rfl) ?_
      refine gf_X12_7 E X hR av_t98 dX12_undo_127 av_r98_0 ?_
      refine lv_bipush (v := 6) hx hb dX12_undo_130 rfl ?_
      refine lv_aload_n hx hb dX12_undo_132 rfl (lv_at hl 0 rfl) ?_
      refine gf_X12_7 E X hR av_t98 dX12_undo_133 av_r98_0 ?_
      refine lv_iload_n hx hb dX12_undo_136 rfl (lv_at hl 1 rfl) ?_
      refine lv_bipush (v := 18) hx hb dX12_undo_137 rfl ?_
      refine lv_iadd hx hb dX12_undo_139 ?_
      obtain ⟨r140, er140, h⟩ := av_bd h
      refine av_il E X hR av_t99 er140 dX12_undo_140 ?_
      obtain ⟨μ141, eμ141, h⟩ := av_bd h
      refine av_is E X hR av_t99 eμ141 dX12_undo_141 (fun H locs hR => ?_)
      refine lv_aload_n hx hb dX12_undo_142 rfl (lv_at hl 0 rfl) ?_
      refine gf_X12_7 E X hR av_t98 dX12_undo_143 av_r98_0 ?_
      refine lv_iconst (v := 2) hx hb dX12_undo_146 rfl ?_
      obtain ⟨r147, er147, h⟩ := av_bd h
      refine av_il E X hR av_t99 er147 dX12_undo_147 ?_
      exact av_ri E hR (av_r2 h) dX12_undo_148
    · have h := av_if c42 h
      refine lv_aload_n hx hb dX12_undo_45 rfl (lv_at hl 0 rfl) ?_
      refine gf_X12_7 E X hR av_t98 dX12_undo_46 av_r98_0 ?_
      refine lv_bipush (v := 7) hx hb dX12_undo_49 rfl ?_
      refine lv_iconst (v := 4) hx hb dX12_undo_51 rfl ?_
      refine lv_iload_n hx hb dX12_undo_52 rfl (lv_at hl 2 rfl) ?_
      refine lv_imul hx hb dX12_undo_53 ?_
      refine lv_iadd hx hb dX12_undo_54 ?_
      refine lv_iconst (v := 1) hx hb dX12_undo_55 rfl ?_
      refine lv_iadd hx hb dX12_undo_56 ?_
      refine lv_aload_n hx hb dX12_undo_57 rfl (lv_at hl 0 rfl) ?_
      refine gf_X12_7 E X hR av_t98 dX12_undo_58 av_r98_0 ?_
      refine lv_iload_n hx hb dX12_undo_61 rfl (lv_at hl 1 rfl) ?_
      refine lv_iload_n hx hb dX12_undo_62 rfl (lv_at hl 2 rfl) ?_
      refine lv_iadd hx hb dX12_undo_63 ?_
      obtain ⟨r64, er64, h⟩ := av_bd h
      refine av_il E X hR av_t99 er64 dX12_undo_64 ?_
      obtain ⟨μ65, eμ65, h⟩ := av_bd h
      refine av_is E X hR av_t99 eμ65 dX12_undo_65 (fun H locs hR => ?_)
      refine lv_aload_n hx hb dX12_undo_66 rfl (lv_at hl 0 rfl) ?_
      refine gf_X12_7 E X hR av_t98 dX12_undo_67 av_r98_0 ?_
      refine lv_bipush (v := 7) hx hb dX12_undo_70 rfl ?_
      refine lv_iconst (v := 4) hx hb dX12_undo_72 rfl ?_
      refine lv_iload_n hx hb dX12_undo_73 rfl (lv_at hl 2 rfl) ?_
      refine lv_imul hx hb dX12_undo_74 ?_
      refine lv_iadd hx hb dX12_undo_75 ?_
      refine lv_iconst (v := 2) hx hb dX12_undo_76 rfl ?_
      refine lv_iadd hx hb dX12_undo_77 ?_
      refine lv_aload_n hx hb dX12_undo_78 rfl (lv_at hl 0 rfl) ?_
      refine gf_X12_7 E X hR av_t98 dX12_undo_79 av_r98_0 ?_
      refine lv_iload_n hx hb dX12_undo_82 rfl (lv_at hl 1 rfl) ?_
      refine lv_bipush (v := 8) hx hb dX12_undo_83 rfl ?_
      refine lv_iadd hx hb dX12_undo_85 ?_
      refine lv_iload_n hx hb dX12_undo_86 rfl (lv_at hl 2 rfl) ?_
      refine lv_iadd hx hb dX12_undo_87 ?_
      obtain ⟨r88, er88, h⟩ := av_bd h
      refine av_il E X hR av_t99 er88 dX12_undo_88 ?_
      obtain ⟨μ89, eμ89, h⟩ := av_bd h
      refine av_is E X hR av_t99 eμ89 dX12_undo_89 (fun H locs hR => ?_)
      obtain ⟨x2_90, ex2_90, h⟩ := av_bd h
      replace ex2_90 := Option.some.inj ex2_90
      refine lv_iinc (v := x2_90) (lv' := [(2, .int x2_90), (0, .ref (g.2.2 98)), (1, .int x1)]) hx hb dX12_undo_90 hl (k := 2) rfl ex2_90 (by decide) rfl (fun ls hl => ?_)
      refine lv_goto (tgt := 39) hx hb dX12_undo_93 (by decide) ?_
      exact ih h hR (lv_sub hl [1, 2, 0] rfl)

set_option maxHeartbeats 4000000 in
set_option maxRecDepth 100000 in
theorem CX12_undo (l : Launch) (g : Gl) {μ : Mem} {zr : Int32} {zm : Mem} (h : fX12_undo μ = some (zr, zm)) : av_MI l yX12_undo cX12_undo 3 2 (some .int) av_wm g [.ref (g.2.2 98)] μ zr zm := by
  refine av_ent (own := RX12) (by decide) (Nat.le_of_ble_eq_true rfl) rfl (fun p e s m args below meth c E X hR ls hl => ?_)
  have hl : lv_has ls 3 [(0, .ref (g.2.2 98))] := hl
  obtain ⟨hx, hb, hr, hml, hown, hts, hlocks⟩ := id E
  unfold fX12_undo at h
  refine lv_aload_n hx hb dX12_undo_0 rfl (lv_at hl 0 rfl) ?_
  refine gf_X12_7 E X hR av_t98 dX12_undo_1 av_r98_0 ?_
  refine lv_iconst (v := 4) hx hb dX12_undo_4 rfl ?_
  obtain ⟨r5, er5, h⟩ := av_bd h
  refine av_il E X hR av_t99 er5 dX12_undo_5 ?_
  refine lv_if_ne (tgt := 14) hx hb dX12_undo_6 (by decide) (fun c6 => ?_) (fun c6 => ?_)
  · have h := av_if c6 h
    refine lv_aload_n hx hb dX12_undo_14 rfl (lv_at hl 0 rfl) ?_
    refine gf_X12_7 E X hR av_t98 dX12_undo_15 av_r98_0 ?_
    refine lv_iconst (v := 4) hx hb dX12_undo_18 rfl ?_
    refine lv_dup2_11 hx hb dX12_undo_19 rfl rfl ?_
    obtain ⟨r20, er20, h⟩ := av_bd h
    refine av_il E X hR av_t99 er20 dX12_undo_20 ?_
    refine lv_iconst (v := 1) hx hb dX12_undo_21 rfl ?_
    refine lv_isub hx hb dX12_undo_22 ?_
    obtain ⟨μ23, eμ23, h⟩ := av_bd h
    refine av_is E X hR av_t99 eμ23 dX12_undo_23 (fun H locs hR => ?_)
    refine lv_bipush (v := 69) hx hb dX12_undo_24 rfl ?_
    refine lv_bipush (v := 19) hx hb dX12_undo_26 rfl ?_
    refine lv_aload_n hx hb dX12_undo_28 rfl (lv_at hl 0 rfl) ?_
    refine gf_X12_7 E X hR av_t98 dX12_undo_29 av_r98_0 ?_
    refine lv_iconst (v := 4) hx hb dX12_undo_32 rfl ?_
    obtain ⟨r33, er33, h⟩ := av_bd h
    refine av_il E X hR av_t99 er33 dX12_undo_33 ?_
    refine lv_imul hx hb dX12_undo_34 ?_
    refine lv_iadd hx hb dX12_undo_35 ?_
    obtain ⟨x1_36, ex1_36, h⟩ := av_bd h
    replace ex1_36 := Option.some.inj ex1_36
    rw [ex1_36]
    refine lv_istore_n (lv' := [(1, .int x1_36), (0, .ref (g.2.2 98))]) hx hb dX12_undo_36 rfl hl (by decide) rfl (fun ls hl => ?_)
    refine lv_iconst (v := 0) hx hb dX12_undo_37 rfl ?_
    refine lv_istore_n (lv' := [(2, .int 0), (1, .int x1_36), (0, .ref (g.2.2 98))]) hx hb dX12_undo_38 rfl hl (by decide) rfl (fun ls hl => ?_)
    exact tX12_undo_39 E X _ h hR (lv_sub hl [2, 1, 0] rfl)
  · have h := av_it c6 h
    refine lv_aload_n hx hb dX12_undo_9 rfl (lv_at hl 0 rfl) ?_
    obtain ⟨r10, μ10, er10, h⟩ := av_bd2 h
    refine av_goI hR (av_cV (As := []) (rest := []) E X hR hl.1 (CX12_no l g er10) kk_X12_173 (av_room (by omega) (by decide)) av_t98 (by decide) rfl rfl (Nat.le_of_ble_eq_true rfl) ⟨Nat.zero_le _, Nat.zero_le _⟩ dX12_undo_10) (fun H locs hR => ?_)
    exact av_ri E hR (av_r2 h) dX12_undo_13

set_option maxHeartbeats 4000000 in
set_option maxRecDepth 100000 in
theorem tX12_of_29 {p : Program} {l : Launch} {e : Env} {s : State} {m : MethodId} {args : Array Value} {below : List Frame} {meth : Method} {c : Code} {g : Gl} {zr : Int32} {zm : Mem} (E : av_E p s m args meth c cX12_of RX12 3 (some .int)) (X : av_X av_wm g s) :
    ∀ {μ : Mem} {H : Heap} {locs : List Loc} {ls : Array Slot}, fX12_of_29 μ = some (zr, zm) → av_R av_wm g μ s H locs → lv_has ls 3 [(0, .ref (g.2.2 98))] → W p l e (rmN 3) s m args below meth c H locs 0 0 (MQ below (va_Qi (fun r1 u => r1 = zr ∧ u = zm) (av_B av_wm g) (av_A av_wm g)) args s 0 0 (av_A av_wm g)) (F0 m 29 ls []) := by
  obtain ⟨hx, hb, hr, hml, hown, hts, hlocks⟩ := id E
  intro μ H locs ls h hR hl
  unfold fX12_of_29 at h
  refine lv_aload_n hx hb dX12_of_29 rfl (lv_at hl 0 rfl) ?_
  refine lv_bipush (v := (-10)) hx hb dX12_of_30 rfl ?_
  obtain ⟨r32, μ32, er32, h⟩ := av_bd2 h
  refine av_goI hR (av_cV (As := [.int (-10)]) (rest := []) E X hR hl.1 (CX12_bad l g er32) kk_X12_81 (av_room (by omega) (by decide)) av_t98 (by decide) rfl rfl (Nat.le_of_ble_eq_true rfl) ⟨Nat.zero_le _, Nat.zero_le _⟩ dX12_of_32) (fun H locs hR => ?_)
  exact av_ri E hR (av_r2 h) dX12_of_35

set_option maxHeartbeats 4000000 in
set_option maxRecDepth 100000 in
theorem CX12_of (l : Launch) (g : Gl) {a1 : Int32} {a2 : Int32} {μ : Mem} {zr : Int32} {zm : Mem} (h : fX12_of a1 a2 μ = some (zr, zm)) : av_MI l yX12_of cX12_of 3 3 (some .int) av_wm g [.ref (g.2.2 98), .int a1, .int a2] μ zr zm := by
  refine av_ent (own := RX12) (by decide) (Nat.le_of_ble_eq_true rfl) rfl (fun p e s m args below meth c E X hR ls hl => ?_)
  have hl : lv_has ls 3 [(0, .ref (g.2.2 98)), (1, .int a1), (2, .int a2)] := hl
  obtain ⟨hx, hb, hr, hml, hown, hts, hlocks⟩ := id E
  unfold fX12_of at h
  refine lv_aload_n hx hb dX12_of_0 rfl (lv_at hl 0 rfl) ?_
  refine lv_iload_n hx hb dX12_of_1 rfl (lv_at hl 1 rfl) ?_
  obtain ⟨r2, er2, h⟩ := av_bd h
  refine av_goI hR (av_cV (As := [.int a1]) (rest := []) E X hR hl.1 (CX12_isLedge l g er2) kk_X12_94 (av_room (by omega) (by decide)) av_t98 (by decide) rfl rfl (Nat.le_of_ble_eq_true rfl) ⟨Nat.zero_le _, Nat.zero_le _⟩ dX12_of_2) (fun H locs hR => ?_)
  refine lv_if_eq (tgt := 29) hx hb dX12_of_5 (by decide) (fun c5 => ?_) (fun c5 => ?_)
  · have h := av_it c5 h
    exact tX12_of_29 E X h hR (lv_sub hl [0] rfl)
  · have h := av_if c5 h
    refine lv_iload_n hx hb dX12_of_8 rfl (lv_at hl 2 rfl) ?_
    refine lv_i2l hx hb dX12_of_9 rfl ?_
    refine lv_lconst (v := 0) hx hb dX12_of_10 rfl ?_
    refine lv_ldc2 (v := 3) hx hb hown (hts _ kL_X12_176) dX12_of_11 ?_
    obtain ⟨r14, er14, h⟩ := av_bd h
    refine av_goI hR (av_cS (As := [.long (Int32.toInt64 a2), .long 0, .long 3]) (rest := []) E X hR hl.1 (CX12_in l g er14) kk_X12_68 (av_room (by omega) (by decide)) rfl (Nat.le_of_ble_eq_true rfl) ⟨Nat.zero_le _, Nat.zero_le _⟩ dX12_of_14) (fun H locs hR => ?_)
    refine lv_if_eq (tgt := 29) hx hb dX12_of_17 (by decide) (fun c17 => ?_) (fun c17 => ?_)
    · have h := av_it c17 h
      exact tX12_of_29 E X h hR (lv_sub hl [0] rfl)
    · have h := av_if c17 h
      refine lv_aload_n hx hb dX12_of_20 rfl (lv_at hl 0 rfl) ?_
      refine lv_iload_n hx hb dX12_of_21 rfl (lv_at hl 1 rfl) ?_
      refine lv_iload_n hx hb dX12_of_22 rfl (lv_at hl 2 rfl) ?_
      obtain ⟨r23, er23, h⟩ := av_bd h
      refine av_goI hR (av_cV (As := [.int a1, .int a2]) (rest := []) E X hR hl.1 (CX12_get l g er23) kk_X12_103 (av_room (by omega) (by decide)) av_t98 (by decide) rfl rfl (Nat.le_of_ble_eq_true rfl) ⟨Nat.zero_le _, Nat.zero_le _⟩ dX12_of_23) (fun H locs hR => ?_)
      refine lv_goto (tgt := 35) hx hb dX12_of_26 (by decide) ?_
      exact av_ri E hR (av_r2 h) dX12_of_35

set_option maxHeartbeats 4000000 in
set_option maxRecDepth 100000 in
theorem tX12_about_20 {p : Program} {l : Launch} {e : Env} {s : State} {m : MethodId} {args : Array Value} {below : List Frame} {meth : Method} {c : Code} {g : Gl} {zr : Int32} {zm : Mem} (E : av_E p s m args meth c cX12_about RX12 3 (some .int)) (X : av_X av_wm g s) :
    ∀ {μ : Mem} {H : Heap} {locs : List Loc} {ls : Array Slot}, fX12_about_20 μ = some (zr, zm) → av_R av_wm g μ s H locs → lv_has ls 3 [(0, .ref (g.2.2 98))] → W p l e (rmN 5) s m args below meth c H locs 0 0 (MQ below (va_Qi (fun r1 u => r1 = zr ∧ u = zm) (av_B av_wm g) (av_A av_wm g)) args s 0 0 (av_A av_wm g)) (F0 m 20 ls []) := by
  obtain ⟨hx, hb, hr, hml, hown, hts, hlocks⟩ := id E
  intro μ H locs ls h hR hl
  unfold fX12_about_20 at h
  refine lv_aload_n hx hb dX12_about_20 rfl (lv_at hl 0 rfl) ?_
  refine lv_bipush (v := (-2)) hx hb dX12_about_21 rfl ?_
  obtain ⟨r23, μ23, er23, h⟩ := av_bd2 h
  refine av_goI hR (av_cV (As := [.int (-2)]) (rest := []) E X hR hl.1 (CX12_bad l g er23) kk_X12_81 (av_room (by omega) (by decide)) av_t98 (by decide) rfl rfl (Nat.le_of_ble_eq_true rfl) ⟨Nat.zero_le _, Nat.zero_le _⟩ dX12_about_23) (fun H locs hR => ?_)
  exact av_ri E hR (av_r2 h) dX12_about_26

set_option maxHeartbeats 4000000 in
set_option maxRecDepth 100000 in
theorem CX12_about (l : Launch) (g : Gl) {a1 : Int32} {a2 : Int32} {μ : Mem} {zr : Int32} {zm : Mem} (h : fX12_about a1 a2 μ = some (zr, zm)) : av_MI l yX12_about cX12_about 3 5 (some .int) av_wm g [.ref (g.2.2 98), .int a1, .int a2] μ zr zm := by
  refine av_ent (own := RX12) (by decide) (Nat.le_of_ble_eq_true rfl) rfl (fun p e s m args below meth c E X hR ls hl => ?_)
  have hl : lv_has ls 3 [(0, .ref (g.2.2 98)), (1, .int a1), (2, .int a2)] := hl
  obtain ⟨hx, hb, hr, hml, hown, hts, hlocks⟩ := id E
  unfold fX12_about at h
  refine lv_aload_n hx hb dX12_about_0 rfl (lv_at hl 0 rfl) ?_
  refine lv_iload_n hx hb dX12_about_1 rfl (lv_at hl 1 rfl) ?_
  obtain ⟨r2, er2, h⟩ := av_bd h
  refine av_goI hR (av_cV (As := [.int a1]) (rest := []) E X hR hl.1 (CX12_isVoter l g er2) kk_X12_155 (av_room (by omega) (by decide)) av_t98 (by decide) rfl rfl (Nat.le_of_ble_eq_true rfl) ⟨Nat.zero_le _, Nat.zero_le _⟩ dX12_about_2) (fun H locs hR => ?_)
  refine lv_if_eq (tgt := 20) hx hb dX12_about_5 (by decide) (fun c5 => ?_) (fun c5 => ?_)
  · have h := av_it c5 h
    exact tX12_about_20 E X h hR (lv_sub hl [0] rfl)
  · have h := av_if c5 h
    refine lv_iload_n hx hb dX12_about_8 rfl (lv_at hl 2 rfl) ?_
    refine lv_i2l hx hb dX12_about_9 rfl ?_
    refine lv_lconst (v := 0) hx hb dX12_about_10 rfl ?_
    refine lv_ldc2 (v := 4) hx hb hown (hts _ kL_X12_178) dX12_about_11 ?_
    obtain ⟨r14, er14, h⟩ := av_bd h
    refine av_goI hR (av_cS (As := [.long (Int32.toInt64 a2), .long 0, .long 4]) (rest := []) E X hR hl.1 (CX12_in l g er14) kk_X12_68 (av_room (by omega) (by decide)) rfl (Nat.le_of_ble_eq_true rfl) ⟨Nat.zero_le _, Nat.zero_le _⟩ dX12_about_14) (fun H locs hR => ?_)
    refine lv_if_ne (tgt := 27) hx hb dX12_about_17 (by decide) (fun c17 => ?_) (fun c17 => ?_)
    · have h := av_if c17 h
      refine lv_aload_n hx hb dX12_about_27 rfl (lv_at hl 0 rfl) ?_
      obtain ⟨μ28, eμ28, h⟩ := av_bd h
      refine av_goV hR (av_cV (As := []) (rest := []) E X hR hl.1 (CX12_layHand l g eμ28) kk_X12_161 (av_room (by omega) (by decide)) av_t98 (by decide) rfl rfl (Nat.le_of_ble_eq_true rfl) ⟨Nat.zero_le _, Nat.zero_le _⟩ dX12_about_28) (fun H locs hR => ?_)
      refine lv_iload_n hx hb dX12_about_31 rfl (lv_at hl 2 rfl) ?_
      refine lv_iconst (v := 3) hx hb dX12_about_32 rfl ?_
      refine lv_icmp_ge (tgt := 45) hx hb dX12_about_33 (by decide) (fun c33 => ?_) (fun c33 => ?_)
      · have h := av_it c33 h
        refine lv_iload_n hx hb dX12_about_45 rfl (lv_at hl 2 rfl) ?_
        refine lv_iconst (v := 3) hx hb dX12_about_46 rfl ?_
        refine lv_icmp_ne (tgt := 58) hx hb dX12_about_47 (by decide) (fun c47 => ?_) (fun c47 => ?_)
        · have h := av_if c47 h
          refine lv_aload_n hx hb dX12_about_58 rfl (lv_at hl 0 rfl) ?_
          refine lv_iload_n hx hb dX12_about_59 rfl (lv_at hl 1 rfl) ?_
          obtain ⟨r60, er60, h⟩ := av_bd h
          refine av_goI hR (av_cV (As := [.int a1]) (rest := []) E X hR hl.1 (CX12_heavyBy l g er60) kk_X12_149 (av_room (by omega) (by decide)) av_t98 (by decide) rfl rfl (Nat.le_of_ble_eq_true rfl) ⟨Nat.zero_le _, Nat.zero_le _⟩ dX12_about_60) (fun H locs hR => ?_)
          exact av_ri E hR (av_r2 h) dX12_about_63
        · have h := av_it c47 h
          refine lv_aload_n hx hb dX12_about_50 rfl (lv_at hl 0 rfl) ?_
          refine lv_iload_n hx hb dX12_about_51 rfl (lv_at hl 1 rfl) ?_
          obtain ⟨r52, er52, h⟩ := av_bd h
          refine av_goI hR (av_cV (As := [.int a1]) (rest := []) E X hR hl.1 (CX12_whereBy l g er52) kk_X12_146 (av_room (by omega) (by decide)) av_t98 (by decide) rfl rfl (Nat.le_of_ble_eq_true rfl) ⟨Nat.zero_le _, Nat.zero_le _⟩ dX12_about_52) (fun H locs hR => ?_)
          refine lv_goto (tgt := 63) hx hb dX12_about_55 (by decide) ?_
          exact av_ri E hR (av_r2 h) dX12_about_63
      · have h := av_if c33 h
        refine lv_aload_n hx hb dX12_about_36 rfl (lv_at hl 0 rfl) ?_
        refine lv_iload_n hx hb dX12_about_37 rfl (lv_at hl 1 rfl) ?_
        refine lv_iload_n hx hb dX12_about_38 rfl (lv_at hl 2 rfl) ?_
        obtain ⟨r39, er39, h⟩ := av_bd h
        refine av_goI hR (av_cV (As := [.int a1, .int a2]) (rest := []) E X hR hl.1 (CX12_tells l g er39) kk_X12_136 (av_room (by omega) (by decide)) av_t98 (by decide) rfl rfl (Nat.le_of_ble_eq_true rfl) ⟨Nat.zero_le _, Nat.zero_le _⟩ dX12_about_39) (fun H locs hR => ?_)
        refine lv_goto (tgt := 63) hx hb dX12_about_42 (by decide) ?_
        exact av_ri E hR (av_r2 h) dX12_about_63
    · have h := av_it c17 h
      exact tX12_about_20 E X h hR (lv_sub hl [0] rfl)

set_option maxHeartbeats 4000000 in
set_option maxRecDepth 100000 in
theorem CX12_winner (l : Launch) (g : Gl) {μ : Mem} {zr : Int32} (h : fX12_winner μ = some zr) : av_MI l yX12_winner cX12_winner 1 1 (some .int) av_wm g [.ref (g.2.2 98)] μ zr μ := by
  refine av_ent (own := RX12) (by decide) (Nat.le_of_ble_eq_true rfl) rfl (fun p e s m args below meth c E X hR ls hl => ?_)
  have hl : lv_has ls 1 [(0, .ref (g.2.2 98))] := hl
  obtain ⟨hx, hb, hr, hml, hown, hts, hlocks⟩ := id E
  have hμ : μ = μ := rfl
  unfold fX12_winner at h
  refine lv_aload_n hx hb dX12_winner_0 rfl (lv_at hl 0 rfl) ?_
  refine gf_X12_7 E X hR av_t98 dX12_winner_1 av_r98_0 ?_
  refine lv_iconst (v := 5) hx hb dX12_winner_4 rfl ?_
  obtain ⟨r5, er5, h⟩ := av_bd h
  refine av_il E X hR av_t99 er5 dX12_winner_5 ?_
  exact av_ri E hR ⟨Option.some.inj h, hμ.symm⟩ dX12_winner_6

set_option maxHeartbeats 4000000 in
set_option maxRecDepth 100000 in
theorem CX12_coalition (l : Launch) (g : Gl) {μ : Mem} {zr : Int32} (h : fX12_coalition μ = some zr) : av_MI l yX12_coalition cX12_coalition 1 1 (some .int) av_wm g [.ref (g.2.2 98)] μ zr μ := by
  refine av_ent (own := RX12) (by decide) (Nat.le_of_ble_eq_true rfl) rfl (fun p e s m args below meth c E X hR ls hl => ?_)
  have hl : lv_has ls 1 [(0, .ref (g.2.2 98))] := hl
  obtain ⟨hx, hb, hr, hml, hown, hts, hlocks⟩ := id E
  have hμ : μ = μ := rfl
  unfold fX12_coalition at h
  refine lv_aload_n hx hb dX12_coalition_0 rfl (lv_at hl 0 rfl) ?_
  refine gf_X12_7 E X hR av_t98 dX12_coalition_1 av_r98_0 ?_
  refine lv_bipush (v := 6) hx hb dX12_coalition_4 rfl ?_
  obtain ⟨r6, er6, h⟩ := av_bd h
  refine av_il E X hR av_t99 er6 dX12_coalition_6 ?_
  exact av_ri E hR ⟨Option.some.inj h, hμ.symm⟩ dX12_coalition_7

set_option maxHeartbeats 4000000 in
set_option maxRecDepth 100000 in
theorem tX12_february_23 {p : Program} {l : Launch} {e : Env} {s : State} {m : MethodId} {args : Array Value} {below : List Frame} {meth : Method} {c : Code} {g : Gl} {zr : Int32} {zm : Mem} (E : av_E p s m args meth c cX12_february RX12 4 (some .int)) (X : av_X av_wm g s) :
    ∀ (n : Nat) {x1 : Int32} {x2 : Int32} {μ : Mem} {H : Heap} {locs : List Loc} {ls : Array Slot}, fX12_february_23 n x1 x2 μ = some (zr, zm) → av_R av_wm g μ s H locs → lv_has ls 4 [(0, .ref (g.2.2 98)), (1, .int x1), (2, .int x2)] → W p l e (rmN 6) s m args below meth c H locs 0 0 (MQ below (va_Qi (fun r1 u => r1 = zr ∧ u = zm) (av_B av_wm g) (av_A av_wm g)) args s 0 0 (av_A av_wm g)) (F0 m 23 ls []) := by
  obtain ⟨hx, hb, hr, hml, hown, hts, hlocks⟩ := id E
  intro n
  induction n with
  | zero =>
    intro x1 x2 μ H locs ls h hR hl
    cases h
  | succ n ih =>
    intro x1 x2 μ H locs ls h hR hl
    unfold fX12_february_23 at h
    refine lv_iload_n hx hb dX12_february_23 rfl (lv_at hl 2 rfl) ?_
    refine lv_aload_n hx hb dX12_february_24 rfl (lv_at hl 0 rfl) ?_
    obtain ⟨r25, er25, h⟩ := av_bd h
    refine av_goI hR (av_cV (As := []) (rest := [.int x2]) E X hR hl.1 (CX12_voters l g er25) kk_X12_72 (av_room (by omega) (by decide)) av_t98 (by decide) rfl rfl (Nat.le_of_ble_eq_true rfl) ⟨Nat.zero_le _, Nat.zero_le _⟩ dX12_february_25) (fun H locs hR => ?_)
    refine lv_icmp_ge (tgt := 43) hx hb dX12_february_28 (by decide) (fun c28 => ?_) (fun c28 => ?_)
    · have h := av_it c28 h
      refine lv_iload_n hx hb dX12_february_43 rfl (lv_at hl 1 rfl) ?_
      refine lv_if_ne (tgt := 54) hx hb dX12_february_44 (by decide) (fun c44 => ?_) (fun c44 => ?_)
      · have h := av_if c44 h
        refine lv_aload_n hx hb dX12_february_54 rfl (lv_at hl 0 rfl) ?_
        refine gf_X12_114 E X hR av_t98 dX12_february_55 ?_
        exact av_ri E hR (av_r2 h) dX12_february_58
      · have h := av_it c44 h
        refine lv_aload_n hx hb dX12_february_47 rfl (lv_at hl 0 rfl) ?_
        refine gf_X12_111 E X hR av_t98 dX12_february_48 ?_
        refine lv_goto (tgt := 58) hx hb dX12_february_51 (by decide) ?_
        exact av_ri E hR (av_r2 h) dX12_february_58
    · have h := av_if c28 h
      refine lv_aload_n hx hb dX12_february_31 rfl (lv_at hl 0 rfl) ?_
      refine lv_iload_n hx hb dX12_february_32 rfl (lv_at hl 2 rfl) ?_
      obtain ⟨r33, μ33, er33, h⟩ := av_bd2 h
      refine av_goI hR (av_cV (As := [.int x2]) (rest := []) E X hR hl.1 (CX12_goVote l g er33) kk_X12_164 (av_room (by omega) (by decide)) av_t98 (by decide) rfl rfl (Nat.le_of_ble_eq_true rfl) ⟨Nat.zero_le _, Nat.zero_le _⟩ dX12_february_33) (fun H locs hR => ?_)
      refine lv_istore_n (lv' := [(3, .int r33), (0, .ref (g.2.2 98)), (1, .int x1), (2, .int x2)]) hx hb dX12_february_36 rfl hl (by decide) rfl (fun ls hl => ?_)
      obtain ⟨x2_37, ex2_37, h⟩ := av_bd h
      replace ex2_37 := Option.some.inj ex2_37
      refine lv_iinc (v := x2_37) (lv' := [(2, .int x2_37), (3, .int r33), (0, .ref (g.2.2 98)), (1, .int x1)]) hx hb dX12_february_37 hl (k := 3) rfl ex2_37 (by decide) rfl (fun ls hl => ?_)
      refine lv_goto (tgt := 23) hx hb dX12_february_40 (by decide) ?_
      exact ih h hR (lv_sub hl [2, 3, 0] rfl)

set_option maxHeartbeats 4000000 in
set_option maxRecDepth 100000 in
theorem CX12_february (l : Launch) (g : Gl) {a1 : Int32} {μ : Mem} {zr : Int32} {zm : Mem} (h : fX12_february a1 μ = some (zr, zm)) : av_MI l yX12_february cX12_february 4 6 (some .int) av_wm g [.ref (g.2.2 98), .int a1] μ zr zm := by
  refine av_ent (own := RX12) (by decide) (Nat.le_of_ble_eq_true rfl) rfl (fun p e s m args below meth c E X hR ls hl => ?_)
  have hl : lv_has ls 4 [(0, .ref (g.2.2 98)), (1, .int a1)] := hl
  obtain ⟨hx, hb, hr, hml, hown, hts, hlocks⟩ := id E
  unfold fX12_february at h
  refine lv_iload_n hx hb dX12_february_0 rfl (lv_at hl 1 rfl) ?_
  refine lv_i2l hx hb dX12_february_1 rfl ?_
  refine lv_lconst (v := 0) hx hb dX12_february_2 rfl ?_
  refine lv_lconst (v := 1) hx hb dX12_february_3 rfl ?_
  obtain ⟨r4, er4, h⟩ := av_bd h
  refine av_goI hR (av_cS (As := [.long (Int32.toInt64 a1), .long 0, .long 1]) (rest := []) E X hR hl.1 (CX12_in l g er4) kk_X12_68 (av_room (by omega) (by decide)) rfl (Nat.le_of_ble_eq_true rfl) ⟨Nat.zero_le _, Nat.zero_le _⟩ dX12_february_4) (fun H locs hR => ?_)
  refine lv_if_ne (tgt := 17) hx hb dX12_february_7 (by decide) (fun c7 => ?_) (fun c7 => ?_)
  · have h := av_if c7 h
    refine lv_aload_n hx hb dX12_february_17 rfl (lv_at hl 0 rfl) ?_
    obtain ⟨μ18, eμ18, h⟩ := av_bd h
    refine av_goV hR (av_cV (As := []) (rest := []) E X hR hl.1 (CX12_layHand l g eμ18) kk_X12_161 (av_room (by omega) (by decide)) av_t98 (by decide) rfl rfl (Nat.le_of_ble_eq_true rfl) ⟨Nat.zero_le _, Nat.zero_le _⟩ dX12_february_18) (fun H locs hR => ?_)
    refine lv_iconst (v := 0) hx hb dX12_february_21 rfl ?_
    refine lv_istore_n (lv' := [(2, .int 0), (0, .ref (g.2.2 98)), (1, .int a1)]) hx hb dX12_february_22 rfl hl (by decide) rfl (fun ls hl => ?_)
    exact tX12_february_23 E X _ h hR (lv_sub hl [1, 2, 0] rfl)
  · have h := av_it c7 h
    refine lv_aload_n hx hb dX12_february_10 rfl (lv_at hl 0 rfl) ?_
    refine lv_bipush (v := (-2)) hx hb dX12_february_11 rfl ?_
    obtain ⟨r13, μ13, er13, h⟩ := av_bd2 h
    refine av_goI hR (av_cV (As := [.int (-2)]) (rest := []) E X hR hl.1 (CX12_bad l g er13) kk_X12_81 (av_room (by omega) (by decide)) av_t98 (by decide) rfl rfl (Nat.le_of_ble_eq_true rfl) ⟨Nat.zero_le _, Nat.zero_le _⟩ dX12_february_13) (fun H locs hR => ?_)
    exact av_ri E hR (av_r2 h) dX12_february_16
