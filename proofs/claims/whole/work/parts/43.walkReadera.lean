set_option maxHeartbeats 4000000 in
set_option maxRecDepth 100000 in
theorem CX5_append (l : Launch) (g : Gl) {a1 : Int32} {μ : Mem} {zm : Mem} (h : fX5_append a1 μ = some zm) : av_MV l yX5_append cX5_append 2 1 none av_wc g [.ref (g.2.2 9), .int a1] μ zm := by
  refine av_ent (own := RX5) (by decide) (Nat.le_of_ble_eq_true rfl) rfl (fun p e s m args below meth c E X hR ls hl => ?_)
  have hl : lv_has ls 2 [(0, .ref (g.2.2 9)), (1, .int a1)] := hl
  obtain ⟨hx, hb, hr, hml, hown, hts, hlocks⟩ := id E
  unfold fX5_append at h
  refine lv_aload_n hx hb dX5_append_0 rfl (lv_at hl 0 rfl) ?_
  refine gf_X5_19 E X hR av_t9 dX5_append_1 ?_
  refine lv_if_lt (tgt := 17) hx hb dX5_append_4 (by decide) (fun c4 => ?_) (fun c4 => ?_)
  · have h := av_it c4 h
    exact av_rv E hR (Option.some.inj h) dX5_append_17
  · have h := av_if c4 h
    refine lv_aload_n hx hb dX5_append_7 rfl (lv_at hl 0 rfl) ?_
    refine gf_X5_19 E X hR av_t9 dX5_append_8 ?_
    refine lv_sipush (v := 150) hx hb dX5_append_11 rfl ?_
    refine lv_icmp_lt (tgt := 18) hx hb dX5_append_14 (by decide) (fun c14 => ?_) (fun c14 => ?_)
    · have h := av_it c14 h
      refine lv_aload_n hx hb dX5_append_18 rfl (lv_at hl 0 rfl) ?_
      refine gf_X5_9 E X hR av_t9 dX5_append_19 av_r9_0 ?_
      refine lv_aload_n hx hb dX5_append_22 rfl (lv_at hl 0 rfl) ?_
      refine gf_X5_19 E X hR av_t9 dX5_append_23 ?_
      refine lv_iload_n hx hb dX5_append_26 rfl (lv_at hl 1 rfl) ?_
      refine lv_i2b hx hb dX5_append_27 rfl ?_
      obtain ⟨μ28, eμ28, h⟩ := av_bd h
      refine av_bs E X hR av_t10 eμ28 dX5_append_28 (fun H locs hR => ?_)
      refine lv_aload_n hx hb dX5_append_29 rfl (lv_at hl 0 rfl) ?_
      refine lv_dup hx hb dX5_append_30 rfl ?_
      refine gf_X5_19 E X hR av_t9 dX5_append_31 ?_
      refine lv_iconst (v := 1) hx hb dX5_append_34 rfl ?_
      refine lv_iadd hx hb dX5_append_35 ?_
      obtain ⟨μ36, eμ36, h⟩ := av_bd h
      replace eμ36 := Option.some.inj eμ36
      refine pf_X5_19 E X hR av_t9 dX5_append_36 eμ36 (fun H locs hR => ?_)
      exact av_rv E hR (Option.some.inj h) dX5_append_39
    · have h := av_if c14 h
      exact av_rv E hR (Option.some.inj h) dX5_append_17

set_option maxHeartbeats 4000000 in
set_option maxRecDepth 100000 in
theorem tX5_isBetween_47 {p : Program} {l : Launch} {e : Env} {s : State} {m : MethodId} {args : Array Value} {below : List Frame} {meth : Method} {c : Code} {g : Gl} {zr : Int32} {μ0 : Mem} (E : av_E p s m args meth c cX5_isBetween RX5 3 (some .boolean)) (X : av_X av_wc g s) :
    ∀ {μ : Mem} {H : Heap} {locs : List Loc} {ls : Array Slot} (hμ : μ0 = μ), fX5_isBetween_47 μ = some zr → av_R av_wc g μ s H locs → lv_has ls 3 [] → W p l e (rmN 1) s m args below meth c H locs 0 0 (MQ below (va_Qi (fun r1 u => r1 = zr ∧ u = μ0) (av_B av_wc g) (av_A av_wc g)) args s 0 0 (av_A av_wc g)) (F0 m 47 ls []) := by
  obtain ⟨hx, hb, hr, hml, hown, hts, hlocks⟩ := id E
  intro μ H locs ls hμ h hR hl
  unfold fX5_isBetween_47 at h
  refine lv_iconst (v := 0) hx hb dX5_isBetween_47 rfl ?_
  exact av_rz E hR rfl ⟨Option.some.inj h, hμ.symm⟩ dX5_isBetween_48

set_option maxHeartbeats 4000000 in
set_option maxRecDepth 100000 in
theorem CX5_isBetween (l : Launch) (g : Gl) {a1 : Int32} {a2 : Int32} {μ : Mem} {zr : Int32} (h : fX5_isBetween a1 a2 μ = some zr) : av_MI l yX5_isBetween cX5_isBetween 3 1 (some .boolean) av_wc g [.ref (g.2.2 9), .int a1, .int a2] μ zr μ := by
  refine av_ent (own := RX5) (by decide) (Nat.le_of_ble_eq_true rfl) rfl (fun p e s m args below meth c E X hR ls hl => ?_)
  have hl : lv_has ls 3 [(0, .ref (g.2.2 9)), (1, .int a1), (2, .int a2)] := hl
  obtain ⟨hx, hb, hr, hml, hown, hts, hlocks⟩ := id E
  have hμ : μ = μ := rfl
  unfold fX5_isBetween at h
  refine lv_aload_n hx hb dX5_isBetween_0 rfl (lv_at hl 0 rfl) ?_
  refine gf_X5_27 E X hR av_t9 dX5_isBetween_1 ?_
  refine lv_if_lt (tgt := 47) hx hb dX5_isBetween_4 (by decide) (fun c4 => ?_) (fun c4 => ?_)
  · have h := av_it c4 h
    exact tX5_isBetween_47 E X hμ h hR (lv_sub hl [] rfl)
  · have h := av_if c4 h
    refine lv_aload_n hx hb dX5_isBetween_7 rfl (lv_at hl 0 rfl) ?_
    refine gf_X5_27 E X hR av_t9 dX5_isBetween_8 ?_
    refine lv_sipush (v := 150) hx hb dX5_isBetween_11 rfl ?_
    refine lv_icmp_ge (tgt := 47) hx hb dX5_isBetween_14 (by decide) (fun c14 => ?_) (fun c14 => ?_)
    · have h := av_it c14 h
      exact tX5_isBetween_47 E X hμ h hR (lv_sub hl [] rfl)
    · have h := av_if c14 h
      refine lv_aload_n hx hb dX5_isBetween_17 rfl (lv_at hl 0 rfl) ?_
      refine gf_X5_9 E X hR av_t9 dX5_isBetween_18 av_r9_0 ?_
      refine lv_aload_n hx hb dX5_isBetween_21 rfl (lv_at hl 0 rfl) ?_
      refine gf_X5_27 E X hR av_t9 dX5_isBetween_22 ?_
      obtain ⟨r25, er25, h⟩ := av_bd h
      refine av_bl E X hR av_t10 er25 dX5_isBetween_25 ?_
      refine lv_iload_n hx hb dX5_isBetween_26 rfl (lv_at hl 1 rfl) ?_
      refine lv_icmp_lt (tgt := 47) hx hb dX5_isBetween_27 (by decide) (fun c27 => ?_) (fun c27 => ?_)
      · have h := av_it c27 h
        exact tX5_isBetween_47 E X hμ h hR (lv_sub hl [] rfl)
      · have h := av_if c27 h
        refine lv_aload_n hx hb dX5_isBetween_30 rfl (lv_at hl 0 rfl) ?_
        refine gf_X5_9 E X hR av_t9 dX5_isBetween_31 av_r9_0 ?_
        refine lv_aload_n hx hb dX5_isBetween_34 rfl (lv_at hl 0 rfl) ?_
        refine gf_X5_27 E X hR av_t9 dX5_isBetween_35 ?_
        obtain ⟨r38, er38, h⟩ := av_bd h
        refine av_bl E X hR av_t10 er38 dX5_isBetween_38 ?_
        refine lv_iload_n hx hb dX5_isBetween_39 rfl (lv_at hl 2 rfl) ?_
        refine lv_icmp_gt (tgt := 47) hx hb dX5_isBetween_40 (by decide) (fun c40 => ?_) (fun c40 => ?_)
        · have h := av_it c40 h
          exact tX5_isBetween_47 E X hμ h hR (lv_sub hl [] rfl)
        · have h := av_if c40 h
          refine lv_iconst (v := 1) hx hb dX5_isBetween_43 rfl ?_
          refine lv_goto (tgt := 48) hx hb dX5_isBetween_44 (by decide) ?_
          exact av_rz E hR rfl ⟨Option.some.inj h, hμ.symm⟩ dX5_isBetween_48

set_option maxHeartbeats 4000000 in
set_option maxRecDepth 100000 in
theorem tX5_skipBlanks_0 {p : Program} {l : Launch} {e : Env} {s : State} {m : MethodId} {args : Array Value} {below : List Frame} {meth : Method} {c : Code} {g : Gl} {zm : Mem} (E : av_E p s m args meth c cX5_skipBlanks RX5 1 none) (X : av_X av_wc g s) :
    ∀ (n : Nat) {μ : Mem} {H : Heap} {locs : List Loc} {ls : Array Slot}, fX5_skipBlanks_0 n μ = some zm → av_R av_wc g μ s H locs → lv_has ls 1 [(0, .ref (g.2.2 9))] → W p l e (rmN 2) s m args below meth c H locs 0 0 (MQ below (va_Qv (fun u => u = zm) (av_B av_wc g) (av_A av_wc g)) args s 0 0 (av_A av_wc g)) (F0 m 0 ls []) := by
  obtain ⟨hx, hb, hr, hml, hown, hts, hlocks⟩ := id E
  intro n
  induction n with
  | zero =>
    intro μ H locs ls h hR hl
    cases h
  | succ n ih =>
    intro μ H locs ls h hR hl
    unfold fX5_skipBlanks_0 at h
    refine lv_aload_n hx hb dX5_skipBlanks_0 rfl (lv_at hl 0 rfl) ?_
    refine gf_X5_27 E X hR av_t9 dX5_skipBlanks_1 ?_
    refine lv_aload_n hx hb dX5_skipBlanks_4 rfl (lv_at hl 0 rfl) ?_
    refine gf_X5_19 E X hR av_t9 dX5_skipBlanks_5 ?_
    refine lv_icmp_ge (tgt := 35) hx hb dX5_skipBlanks_8 (by decide) (fun c8 => ?_) (fun c8 => ?_)
    · have h := av_it c8 h
      exact av_rv E hR (Option.some.inj h) dX5_skipBlanks_35
    · have h := av_if c8 h
      refine lv_aload_n hx hb dX5_skipBlanks_11 rfl (lv_at hl 0 rfl) ?_
      refine lv_bipush (v := 32) hx hb dX5_skipBlanks_12 rfl ?_
      refine lv_bipush (v := 32) hx hb dX5_skipBlanks_14 rfl ?_
      obtain ⟨r16, er16, h⟩ := av_bd h
      refine av_goI hR (av_cV (As := [.int 32, .int 32]) (rest := []) E X hR hl.1 (CX5_isBetween l g er16) kk_X5_88 (av_room (by omega) (by decide)) av_t9 (by decide) rfl rfl (Nat.le_of_ble_eq_true rfl) ⟨Nat.zero_le _, Nat.zero_le _⟩ dX5_skipBlanks_16) (fun H locs hR => ?_)
      refine lv_if_eq (tgt := 35) hx hb dX5_skipBlanks_19 (by decide) (fun c19 => ?_) (fun c19 => ?_)
      · have h := av_it c19 h
        exact av_rv E hR (Option.some.inj h) dX5_skipBlanks_35
      · have h := av_if c19 h
        refine lv_aload_n hx hb dX5_skipBlanks_22 rfl (lv_at hl 0 rfl) ?_
        refine lv_dup hx hb dX5_skipBlanks_23 rfl ?_
        refine gf_X5_27 E X hR av_t9 dX5_skipBlanks_24 ?_
        refine lv_iconst (v := 1) hx hb dX5_skipBlanks_27 rfl ?_
        refine lv_iadd hx hb dX5_skipBlanks_28 ?_
        obtain ⟨μ29, eμ29, h⟩ := av_bd h
        replace eμ29 := Option.some.inj eμ29
        refine pf_X5_27 E X hR av_t9 dX5_skipBlanks_29 eμ29 (fun H locs hR => ?_)
        refine lv_goto (tgt := 0) hx hb dX5_skipBlanks_32 (by decide) ?_
        exact ih h hR (lv_sub hl [0] rfl)

set_option maxHeartbeats 4000000 in
set_option maxRecDepth 100000 in
theorem CX5_skipBlanks (l : Launch) (g : Gl) {μ : Mem} {zm : Mem} (h : fX5_skipBlanks μ = some zm) : av_MV l yX5_skipBlanks cX5_skipBlanks 1 2 none av_wc g [.ref (g.2.2 9)] μ zm := by
  refine av_ent (own := RX5) (by decide) (Nat.le_of_ble_eq_true rfl) rfl (fun p e s m args below meth c E X hR ls hl => ?_)
  have hl : lv_has ls 1 [(0, .ref (g.2.2 9))] := hl
  obtain ⟨hx, hb, hr, hml, hown, hts, hlocks⟩ := id E
  unfold fX5_skipBlanks at h
  exact tX5_skipBlanks_0 E X _ h hR (lv_sub hl [0] rfl)

set_option maxHeartbeats 4000000 in
set_option maxRecDepth 100000 in
theorem tX5_takeWord_12 {p : Program} {l : Launch} {e : Env} {s : State} {m : MethodId} {args : Array Value} {below : List Frame} {meth : Method} {c : Code} {g : Gl} {zm : Mem} (E : av_E p s m args meth c cX5_takeWord RX5 1 none) (X : av_X av_wc g s) :
    ∀ (n : Nat) {μ : Mem} {H : Heap} {locs : List Loc} {ls : Array Slot}, fX5_takeWord_12 n μ = some zm → av_R av_wc g μ s H locs → lv_has ls 1 [(0, .ref (g.2.2 9))] → W p l e (rmN 3) s m args below meth c H locs 0 0 (MQ below (va_Qv (fun u => u = zm) (av_B av_wc g) (av_A av_wc g)) args s 0 0 (av_A av_wc g)) (F0 m 12 ls []) := by
  obtain ⟨hx, hb, hr, hml, hown, hts, hlocks⟩ := id E
  intro n
  induction n with
  | zero =>
    intro μ H locs ls h hR hl
    cases h
  | succ n ih =>
    intro μ H locs ls h hR hl
    unfold fX5_takeWord_12 at h
    refine lv_aload_n hx hb dX5_takeWord_12 rfl (lv_at hl 0 rfl) ?_
    refine gf_X5_27 E X hR av_t9 dX5_takeWord_13 ?_
    refine lv_aload_n hx hb dX5_takeWord_16 rfl (lv_at hl 0 rfl) ?_
    refine gf_X5_19 E X hR av_t9 dX5_takeWord_17 ?_
    refine lv_icmp_ge (tgt := 47) hx hb dX5_takeWord_20 (by decide) (fun c20 => ?_) (fun c20 => ?_)
    · have h := av_it c20 h
      exact av_rv E hR (Option.some.inj h) dX5_takeWord_47
    · have h := av_if c20 h
      refine lv_aload_n hx hb dX5_takeWord_23 rfl (lv_at hl 0 rfl) ?_
      refine lv_bipush (v := 97) hx hb dX5_takeWord_24 rfl ?_
      refine lv_bipush (v := 122) hx hb dX5_takeWord_26 rfl ?_
      obtain ⟨r28, er28, h⟩ := av_bd h
      refine av_goI hR (av_cV (As := [.int 97, .int 122]) (rest := []) E X hR hl.1 (CX5_isBetween l g er28) kk_X5_88 (av_room (by omega) (by decide)) av_t9 (by decide) rfl rfl (Nat.le_of_ble_eq_true rfl) ⟨Nat.zero_le _, Nat.zero_le _⟩ dX5_takeWord_28) (fun H locs hR => ?_)
      refine lv_if_eq (tgt := 47) hx hb dX5_takeWord_31 (by decide) (fun c31 => ?_) (fun c31 => ?_)
      · have h := av_it c31 h
        exact av_rv E hR (Option.some.inj h) dX5_takeWord_47
      · have h := av_if c31 h
        refine lv_aload_n hx hb dX5_takeWord_34 rfl (lv_at hl 0 rfl) ?_
        refine lv_dup hx hb dX5_takeWord_35 rfl ?_
        refine gf_X5_27 E X hR av_t9 dX5_takeWord_36 ?_
        refine lv_iconst (v := 1) hx hb dX5_takeWord_39 rfl ?_
        refine lv_iadd hx hb dX5_takeWord_40 ?_
        obtain ⟨μ41, eμ41, h⟩ := av_bd h
        replace eμ41 := Option.some.inj eμ41
        refine pf_X5_27 E X hR av_t9 dX5_takeWord_41 eμ41 (fun H locs hR => ?_)
        refine lv_goto (tgt := 12) hx hb dX5_takeWord_44 (by decide) ?_
        exact ih h hR (lv_sub hl [0] rfl)

set_option maxHeartbeats 4000000 in
set_option maxRecDepth 100000 in
theorem CX5_takeWord (l : Launch) (g : Gl) {μ : Mem} {zm : Mem} (h : fX5_takeWord μ = some zm) : av_MV l yX5_takeWord cX5_takeWord 1 3 none av_wc g [.ref (g.2.2 9)] μ zm := by
  refine av_ent (own := RX5) (by decide) (Nat.le_of_ble_eq_true rfl) rfl (fun p e s m args below meth c E X hR ls hl => ?_)
  have hl : lv_has ls 1 [(0, .ref (g.2.2 9))] := hl
  obtain ⟨hx, hb, hr, hml, hown, hts, hlocks⟩ := id E
  unfold fX5_takeWord at h
  refine lv_aload_n hx hb dX5_takeWord_0 rfl (lv_at hl 0 rfl) ?_
  obtain ⟨μ1, eμ1, h⟩ := av_bd h
  refine av_goV hR (av_cV (As := []) (rest := []) E X hR hl.1 (CX5_skipBlanks l g eμ1) kk_X5_34 (av_room (by omega) (by decide)) av_t9 (by decide) rfl rfl (Nat.le_of_ble_eq_true rfl) ⟨Nat.zero_le _, Nat.zero_le _⟩ dX5_takeWord_1) (fun H locs hR => ?_)
  refine lv_aload_n hx hb dX5_takeWord_4 rfl (lv_at hl 0 rfl) ?_
  refine lv_aload_n hx hb dX5_takeWord_5 rfl (lv_at hl 0 rfl) ?_
  refine gf_X5_27 E X hR av_t9 dX5_takeWord_6 ?_
  obtain ⟨μ9, eμ9, h⟩ := av_bd h
  replace eμ9 := Option.some.inj eμ9
  refine pf_X5_46 E X hR av_t9 dX5_takeWord_9 eμ9 (fun H locs hR => ?_)
  exact tX5_takeWord_12 E X _ h hR (lv_sub hl [0] rfl)

set_option maxHeartbeats 4000000 in
set_option maxRecDepth 100000 in
theorem tX5_wordIs_20 {p : Program} {l : Launch} {e : Env} {s : State} {m : MethodId} {args : Array Value} {below : List Frame} {meth : Method} {c : Code} {g : Gl} {zr : Int32} {μ0 : Mem} (E : av_E p s m args meth c cX5_wordIs RX5 3 (some .boolean)) (X : av_X av_wc g s) :
    ∀ (n : Nat) {x1 : Nat} {x2 : Int32} (hx1 : x1 < 4) {μ : Mem} {H : Heap} {locs : List Loc} {ls : Array Slot} (hμ : μ0 = μ), fX5_wordIs_20 n x1 x2 μ = some zr → av_R av_wc g μ s H locs → lv_has ls 3 [(0, .ref (g.2.2 9)), (1, .ref (g.2.2 (200 + x1))), (2, .int x2)] → W p l e (rmN 9) s m args below meth c H locs 0 0 (MQ below (va_Qi (fun r1 u => r1 = zr ∧ u = μ0) (av_B av_wc g) (av_A av_wc g)) args s 0 0 (av_A av_wc g)) (F0 m 20 ls []) := by
  obtain ⟨hx, hb, hr, hml, hown, hts, hlocks⟩ := id E
  intro n
  induction n with
  | zero =>
    intro x1 x2 hx1 μ H locs ls hμ h hR hl
    cases h
  | succ n ih =>
    intro x1 x2 hx1 μ H locs ls hμ h hR hl
    unfold fX5_wordIs_20 at h
    refine lv_iload_n hx hb dX5_wordIs_20 rfl (lv_at hl 2 rfl) ?_
    refine lv_aload_n hx hb dX5_wordIs_21 rfl (lv_at hl 1 rfl) ?_
    obtain ⟨r22, er22, h⟩ := av_bd h
    refine av_strlen E X hR hl.1 hx1 er22 kM_X5_92 rfl (av_room (by omega) (by decide)) (Nat.le_of_ble_eq_true rfl) dX5_wordIs_22 (fun H locs hR => ?_)
    refine lv_icmp_ge (tgt := 55) hx hb dX5_wordIs_25 (by decide) (fun c25 => ?_) (fun c25 => ?_)
    · have h := av_it c25 h
      refine lv_iconst (v := 1) hx hb dX5_wordIs_55 rfl ?_
      exact av_rz E hR rfl ⟨Option.some.inj h, hμ.symm⟩ dX5_wordIs_56
    · have h := av_if c25 h
      refine lv_aload_n hx hb dX5_wordIs_28 rfl (lv_at hl 0 rfl) ?_
      refine gf_X5_9 E X hR av_t9 dX5_wordIs_29 av_r9_0 ?_
      refine lv_aload_n hx hb dX5_wordIs_32 rfl (lv_at hl 0 rfl) ?_
      refine gf_X5_46 E X hR av_t9 dX5_wordIs_33 ?_
      refine lv_iload_n hx hb dX5_wordIs_36 rfl (lv_at hl 2 rfl) ?_
      refine lv_iadd hx hb dX5_wordIs_37 ?_
      obtain ⟨r38, er38, h⟩ := av_bd h
      refine av_bl E X hR av_t10 er38 dX5_wordIs_38 ?_
      refine lv_aload_n hx hb dX5_wordIs_39 rfl (lv_at hl 1 rfl) ?_
      refine lv_iload_n hx hb dX5_wordIs_40 rfl (lv_at hl 2 rfl) ?_
      obtain ⟨r41, er41, h⟩ := av_bd h
      refine av_strchar E X hR hl.1 hx1 er41 kM_X5_97 rfl (av_room (by omega) (by decide)) (Nat.le_of_ble_eq_true rfl) dX5_wordIs_41 (fun H locs hR => ?_)
      refine lv_icmp_eq (tgt := 49) hx hb dX5_wordIs_44 (by decide) (fun c44 => ?_) (fun c44 => ?_)
      · have h := av_it c44 h
        obtain ⟨x2_49, ex2_49, h⟩ := av_bd h
        replace ex2_49 := Option.some.inj ex2_49
        refine lv_iinc (v := x2_49) (lv' := [(2, .int x2_49), (0, .ref (g.2.2 9)), (1, .ref (g.2.2 (200 + x1)))]) hx hb dX5_wordIs_49 hl (k := 2) rfl ex2_49 (by decide) rfl (fun ls hl => ?_)
        refine lv_goto (tgt := 20) hx hb dX5_wordIs_52 (by decide) ?_
        exact ih hx1 hμ h hR (lv_sub hl [1, 2, 0] rfl)
      · have h := av_if c44 h
        refine lv_iconst (v := 0) hx hb dX5_wordIs_47 rfl ?_
        exact av_rz E hR rfl ⟨Option.some.inj h, hμ.symm⟩ dX5_wordIs_48

set_option maxHeartbeats 4000000 in
set_option maxRecDepth 100000 in
theorem CX5_wordIs (l : Launch) (g : Gl) {a1 : Nat} (ha1 : a1 < 4) {μ : Mem} {zr : Int32} (h : fX5_wordIs a1 μ = some zr) : av_MI l yX5_wordIs cX5_wordIs 3 9 (some .boolean) av_wc g [.ref (g.2.2 9), .ref (g.2.2 (200 + a1))] μ zr μ := by
  refine av_ent (own := RX5) (by decide) (Nat.le_of_ble_eq_true rfl) rfl (fun p e s m args below meth c E X hR ls hl => ?_)
  have hl : lv_has ls 3 [(0, .ref (g.2.2 9)), (1, .ref (g.2.2 (200 + a1)))] := hl
  obtain ⟨hx, hb, hr, hml, hown, hts, hlocks⟩ := id E
  have hμ : μ = μ := rfl
  unfold fX5_wordIs at h
  refine lv_aload_n hx hb dX5_wordIs_0 rfl (lv_at hl 0 rfl) ?_
  refine gf_X5_27 E X hR av_t9 dX5_wordIs_1 ?_
  refine lv_aload_n hx hb dX5_wordIs_4 rfl (lv_at hl 0 rfl) ?_
  refine gf_X5_46 E X hR av_t9 dX5_wordIs_5 ?_
  refine lv_isub hx hb dX5_wordIs_8 ?_
  refine lv_aload_n hx hb dX5_wordIs_9 rfl (lv_at hl 1 rfl) ?_
  obtain ⟨r10, er10, h⟩ := av_bd h
  refine av_strlen E X hR hl.1 ha1 er10 kM_X5_92 rfl (av_room (by omega) (by decide)) (Nat.le_of_ble_eq_true rfl) dX5_wordIs_10 (fun H locs hR => ?_)
  refine lv_icmp_eq (tgt := 18) hx hb dX5_wordIs_13 (by decide) (fun c13 => ?_) (fun c13 => ?_)
  · have h := av_it c13 h
    refine lv_iconst (v := 0) hx hb dX5_wordIs_18 rfl ?_
    refine lv_istore_n (lv' := [(2, .int 0), (0, .ref (g.2.2 9)), (1, .ref (g.2.2 (200 + a1)))]) hx hb dX5_wordIs_19 rfl hl (by decide) rfl (fun ls hl => ?_)
    exact tX5_wordIs_20 E X _ ha1 hμ h hR (lv_sub hl [1, 2, 0] rfl)
  · have h := av_if c13 h
    refine lv_iconst (v := 0) hx hb dX5_wordIs_16 rfl ?_
    exact av_rz E hR rfl ⟨Option.some.inj h, hμ.symm⟩ dX5_wordIs_17

set_option maxHeartbeats 4000000 in
set_option maxRecDepth 100000 in
theorem tX5_takeNumber_134 {p : Program} {l : Launch} {e : Env} {s : State} {m : MethodId} {args : Array Value} {below : List Frame} {meth : Method} {c : Code} {g : Gl} {zr : Int32} {zm : Mem} (E : av_E p s m args meth c cX5_takeNumber RX5 5 (some .int)) (X : av_X av_wc g s) :
    ∀ {x3 : Int32} {μ : Mem} {H : Heap} {locs : List Loc} {ls : Array Slot}, fX5_takeNumber_134 x3 μ = some (zr, zm) → av_R av_wc g μ s H locs → lv_has ls 5 [(3, .int x3)] → W p l e (rmN 3) s m args below meth c H locs 0 0 (MQ below (va_Qi (fun r1 u => r1 = zr ∧ u = zm) (av_B av_wc g) (av_A av_wc g)) args s 0 0 (av_A av_wc g)) (F0 m 134 ls []) := by
  obtain ⟨hx, hb, hr, hml, hown, hts, hlocks⟩ := id E
  intro x3 μ H locs ls h hR hl
  unfold fX5_takeNumber_134 at h
  refine lv_iload_n hx hb dX5_takeNumber_134 rfl (lv_at hl 0 rfl) ?_
  exact av_ri E hR (av_r2 h) dX5_takeNumber_135

set_option maxHeartbeats 4000000 in
set_option maxRecDepth 100000 in
theorem tX5_takeNumber_126 {p : Program} {l : Launch} {e : Env} {s : State} {m : MethodId} {args : Array Value} {below : List Frame} {meth : Method} {c : Code} {g : Gl} {zr : Int32} {zm : Mem} (E : av_E p s m args meth c cX5_takeNumber RX5 5 (some .int)) (X : av_X av_wc g s) :
    ∀ {x3 : Int32} {μ : Mem} {H : Heap} {locs : List Loc} {ls : Array Slot}, fX5_takeNumber_126 x3 μ = some (zr, zm) → av_R av_wc g μ s H locs → lv_has ls 5 [(0, .ref (g.2.2 9)), (3, .int x3)] → W p l e (rmN 3) s m args below meth c H locs 0 0 (MQ below (va_Qi (fun r1 u => r1 = zr ∧ u = zm) (av_B av_wc g) (av_A av_wc g)) args s 0 0 (av_A av_wc g)) (F0 m 126 ls []) := by
  obtain ⟨hx, hb, hr, hml, hown, hts, hlocks⟩ := id E
  intro x3 μ H locs ls h hR hl
  unfold fX5_takeNumber_126 at h
  refine lv_aload_n hx hb dX5_takeNumber_126 rfl (lv_at hl 0 rfl) ?_
  refine lv_aload_n hx hb dX5_takeNumber_127 rfl (lv_at hl 0 rfl) ?_
  refine gf_X5_46 E X hR av_t9 dX5_takeNumber_128 ?_
  obtain ⟨μ131, eμ131, h⟩ := av_bd h
  replace eμ131 := Option.some.inj eμ131
  refine pf_X5_15 E X hR av_t9 dX5_takeNumber_131 eμ131 (fun H locs hR => ?_)
  exact tX5_takeNumber_134 E X h hR (lv_sub hl [1] rfl)

set_option maxHeartbeats 4000000 in
set_option maxRecDepth 100000 in
theorem tX5_takeNumber_94 {p : Program} {l : Launch} {e : Env} {s : State} {m : MethodId} {args : Array Value} {below : List Frame} {meth : Method} {c : Code} {g : Gl} {zr : Int32} {zm : Mem} (E : av_E p s m args meth c cX5_takeNumber RX5 5 (some .int)) (X : av_X av_wc g s) :
    ∀ {x1 : Int32} {x2 : Int32} {x3 : Int32} {μ : Mem} {H : Heap} {locs : List Loc} {ls : Array Slot}, fX5_takeNumber_94 x1 x2 x3 μ = some (zr, zm) → av_R av_wc g μ s H locs → lv_has ls 5 [(0, .ref (g.2.2 9)), (1, .int x1), (2, .int x2), (3, .int x3)] → W p l e (rmN 3) s m args below meth c H locs 0 0 (MQ below (va_Qi (fun r1 u => r1 = zr ∧ u = zm) (av_B av_wc g) (av_A av_wc g)) args s 0 0 (av_A av_wc g)) (F0 m 94 ls []) := by
  obtain ⟨hx, hb, hr, hml, hown, hts, hlocks⟩ := id E
  intro x1 x2 x3 μ H locs ls h hR hl
  unfold fX5_takeNumber_94 at h
  refine lv_aload_n hx hb dX5_takeNumber_94 rfl (lv_at hl 0 rfl) ?_
  refine gf_X5_27 E X hR av_t9 dX5_takeNumber_95 ?_
  refine lv_aload_n hx hb dX5_takeNumber_98 rfl (lv_at hl 0 rfl) ?_
  refine gf_X5_46 E X hR av_t9 dX5_takeNumber_99 ?_
  refine lv_isub hx hb dX5_takeNumber_102 ?_
  obtain ⟨x4_103, ex4_103, h⟩ := av_bd h
  replace ex4_103 := Option.some.inj ex4_103
  rw [ex4_103]
  refine lv_istore (lv' := [(4, .int x4_103), (0, .ref (g.2.2 9)), (1, .int x1), (2, .int x2), (3, .int x3)]) hx hb dX5_takeNumber_103 hl (by decide) rfl (fun ls hl => ?_)
  refine lv_iload hx hb dX5_takeNumber_105 (lv_at hl 0 rfl) ?_
  refine lv_iconst (v := 1) hx hb dX5_takeNumber_107 rfl ?_
  refine lv_icmp_lt (tgt := 126) hx hb dX5_takeNumber_108 (by decide) (fun c108 => ?_) (fun c108 => ?_)
  · have h := av_it c108 h
    exact tX5_takeNumber_126 E X h hR (lv_sub hl [1, 4] rfl)
  · have h := av_if c108 h
    refine lv_iload hx hb dX5_takeNumber_111 (lv_at hl 0 rfl) ?_
    refine lv_iconst (v := 2) hx hb dX5_takeNumber_113 rfl ?_
    refine lv_icmp_gt (tgt := 126) hx hb dX5_takeNumber_114 (by decide) (fun c114 => ?_) (fun c114 => ?_)
    · have h := av_it c114 h
      exact tX5_takeNumber_126 E X h hR (lv_sub hl [1, 4] rfl)
    · have h := av_if c114 h
      refine lv_iload_n hx hb dX5_takeNumber_117 rfl (lv_at hl 4 rfl) ?_
      refine lv_iload_n hx hb dX5_takeNumber_118 rfl (lv_at hl 2 rfl) ?_
      refine lv_iload_n hx hb dX5_takeNumber_119 rfl (lv_at hl 3 rfl) ?_
      obtain ⟨r120, er120, h⟩ := av_bd h
      refine av_goI hR (av_cSN (As := [.int x3, .int x1, .int x2]) (rest := []) E X hR hl.1 (CX11_within l g er120) kk_X5_101 (av_room (by omega) (by decide)) rfl (Nat.le_of_ble_eq_true rfl) ⟨Nat.zero_le _, Nat.zero_le _⟩ dX5_takeNumber_120) (fun H locs hR => ?_)
      refine lv_if_ne (tgt := 134) hx hb dX5_takeNumber_123 (by decide) (fun c123 => ?_) (fun c123 => ?_)
      · have h := av_if c123 h
        exact tX5_takeNumber_134 E X h hR (lv_sub hl [4] rfl)
      · have h := av_it c123 h
        exact tX5_takeNumber_126 E X h hR (lv_sub hl [1, 4] rfl)

set_option maxHeartbeats 4000000 in
set_option maxRecDepth 100000 in
theorem tX5_takeNumber_80 {p : Program} {l : Launch} {e : Env} {s : State} {m : MethodId} {args : Array Value} {below : List Frame} {meth : Method} {c : Code} {g : Gl} {zr : Int32} {zm : Mem} (E : av_E p s m args meth c cX5_takeNumber RX5 5 (some .int)) (X : av_X av_wc g s) {k24 : Int32 → Int32 → Int32 → Mem → Option (Int32 × Mem)} (hk24 : ∀ {x1 : Int32} {x2 : Int32} {x3 : Int32} {μ : Mem} {H : Heap} {locs : List Loc} {ls : Array Slot}, k24 x1 x2 x3 μ = some (zr, zm) → av_R av_wc g μ s H locs → lv_has ls 5 [(0, .ref (g.2.2 9)), (1, .int x1), (2, .int x2), (3, .int x3)] → W p l e (rmN 3) s m args below meth c H locs 0 0 (MQ below (va_Qi (fun r1 u => r1 = zr ∧ u = zm) (av_B av_wc g) (av_A av_wc g)) args s 0 0 (av_A av_wc g)) (F0 m 24 ls [])) :
    ∀ {x1 : Int32} {x2 : Int32} {y0 : Int32} {μ : Mem} {H : Heap} {locs : List Loc} {ls : Array Slot}, fX5_takeNumber_80 k24 x1 x2 y0 μ = some (zr, zm) → av_R av_wc g μ s H locs → lv_has ls 5 [(0, .ref (g.2.2 9)), (1, .int x1), (2, .int x2)] → W p l e (rmN 3) s m args below meth c H locs 0 0 (MQ below (va_Qi (fun r1 u => r1 = zr ∧ u = zm) (av_B av_wc g) (av_A av_wc g)) args s 0 0 (av_A av_wc g)) (F0 m 80 ls [.int y0]) := by
  obtain ⟨hx, hb, hr, hml, hown, hts, hlocks⟩ := id E
  intro x1 x2 y0 μ H locs ls h hR hl
  unfold fX5_takeNumber_80 at h
  refine lv_istore_n (lv' := [(3, .int y0), (0, .ref (g.2.2 9)), (1, .int x1), (2, .int x2)]) hx hb dX5_takeNumber_80 rfl hl (by decide) rfl (fun ls hl => ?_)
  refine lv_aload_n hx hb dX5_takeNumber_81 rfl (lv_at hl 1 rfl) ?_
  refine lv_dup hx hb dX5_takeNumber_82 rfl ?_
  refine gf_X5_27 E X hR av_t9 dX5_takeNumber_83 ?_
  refine lv_iconst (v := 1) hx hb dX5_takeNumber_86 rfl ?_
  refine lv_iadd hx hb dX5_takeNumber_87 ?_
  obtain ⟨μ88, eμ88, h⟩ := av_bd h
  replace eμ88 := Option.some.inj eμ88
  refine pf_X5_27 E X hR av_t9 dX5_takeNumber_88 eμ88 (fun H locs hR => ?_)
  refine lv_goto (tgt := 24) hx hb dX5_takeNumber_91 (by decide) ?_
  exact hk24 h hR (lv_sub hl [1, 2, 3, 0] rfl)

set_option maxHeartbeats 4000000 in
set_option maxRecDepth 100000 in
theorem tX5_takeNumber_24 {p : Program} {l : Launch} {e : Env} {s : State} {m : MethodId} {args : Array Value} {below : List Frame} {meth : Method} {c : Code} {g : Gl} {zr : Int32} {zm : Mem} (E : av_E p s m args meth c cX5_takeNumber RX5 5 (some .int)) (X : av_X av_wc g s) :
    ∀ (n : Nat) {x1 : Int32} {x2 : Int32} {x3 : Int32} {μ : Mem} {H : Heap} {locs : List Loc} {ls : Array Slot}, fX5_takeNumber_24 n x1 x2 x3 μ = some (zr, zm) → av_R av_wc g μ s H locs → lv_has ls 5 [(0, .ref (g.2.2 9)), (1, .int x1), (2, .int x2), (3, .int x3)] → W p l e (rmN 3) s m args below meth c H locs 0 0 (MQ below (va_Qi (fun r1 u => r1 = zr ∧ u = zm) (av_B av_wc g) (av_A av_wc g)) args s 0 0 (av_A av_wc g)) (F0 m 24 ls []) := by
  obtain ⟨hx, hb, hr, hml, hown, hts, hlocks⟩ := id E
  intro n
  induction n with
  | zero =>
    intro x1 x2 x3 μ H locs ls h hR hl
    cases h
  | succ n ih =>
    intro x1 x2 x3 μ H locs ls h hR hl
    unfold fX5_takeNumber_24 at h
    refine lv_aload_n hx hb dX5_takeNumber_24 rfl (lv_at hl 0 rfl) ?_
    refine gf_X5_27 E X hR av_t9 dX5_takeNumber_25 ?_
    refine lv_aload_n hx hb dX5_takeNumber_28 rfl (lv_at hl 0 rfl) ?_
    refine gf_X5_19 E X hR av_t9 dX5_takeNumber_29 ?_
    refine lv_icmp_ge (tgt := 94) hx hb dX5_takeNumber_32 (by decide) (fun c32 => ?_) (fun c32 => ?_)
    · have h := av_it c32 h
      exact tX5_takeNumber_94 E X h hR (lv_sub hl [0, 1, 2, 3] rfl)
    · have h := av_if c32 h
      refine lv_aload_n hx hb dX5_takeNumber_35 rfl (lv_at hl 0 rfl) ?_
      refine lv_bipush (v := 48) hx hb dX5_takeNumber_36 rfl ?_
      refine lv_bipush (v := 57) hx hb dX5_takeNumber_38 rfl ?_
      obtain ⟨r40, er40, h⟩ := av_bd h
      refine av_goI hR (av_cV (As := [.int 48, .int 57]) (rest := []) E X hR hl.1 (CX5_isBetween l g er40) kk_X5_88 (av_room (by omega) (by decide)) av_t9 (by decide) rfl rfl (Nat.le_of_ble_eq_true rfl) ⟨Nat.zero_le _, Nat.zero_le _⟩ dX5_takeNumber_40) (fun H locs hR => ?_)
      refine lv_if_eq (tgt := 94) hx hb dX5_takeNumber_43 (by decide) (fun c43 => ?_) (fun c43 => ?_)
      · have h := av_it c43 h
        exact tX5_takeNumber_94 E X h hR (lv_sub hl [0, 1, 2, 3] rfl)
      · have h := av_if c43 h
        refine lv_aload_n hx hb dX5_takeNumber_46 rfl (lv_at hl 0 rfl) ?_
        refine gf_X5_27 E X hR av_t9 dX5_takeNumber_47 ?_
        refine lv_aload_n hx hb dX5_takeNumber_50 rfl (lv_at hl 0 rfl) ?_
        refine gf_X5_46 E X hR av_t9 dX5_takeNumber_51 ?_
        refine lv_isub hx hb dX5_takeNumber_54 ?_
        refine lv_iconst (v := 2) hx hb dX5_takeNumber_55 rfl ?_
        refine lv_icmp_ge (tgt := 79) hx hb dX5_takeNumber_56 (by decide) (fun c56 => ?_) (fun c56 => ?_)
        · have h := av_it c56 h
          refine lv_iload_n hx hb dX5_takeNumber_79 rfl (lv_at hl 3 rfl) ?_
          exact tX5_takeNumber_80 E X ih h hR (lv_sub hl [0, 1, 2] rfl)
        · have h := av_if c56 h
          refine lv_bipush (v := 10) hx hb dX5_takeNumber_59 rfl ?_
          refine lv_iload_n hx hb dX5_takeNumber_61 rfl (lv_at hl 3 rfl) ?_
          refine lv_imul hx hb dX5_takeNumber_62 ?_
          refine lv_aload_n hx hb dX5_takeNumber_63 rfl (lv_at hl 0 rfl) ?_
          refine gf_X5_9 E X hR av_t9 dX5_takeNumber_64 av_r9_0 ?_
          refine lv_aload_n hx hb dX5_takeNumber_67 rfl (lv_at hl 0 rfl) ?_
          refine gf_X5_27 E X hR av_t9 dX5_takeNumber_68 ?_
          obtain ⟨r71, er71, h⟩ := av_bd h
          refine av_bl E X hR av_t10 er71 dX5_takeNumber_71 ?_
          refine lv_iadd hx hb dX5_takeNumber_72 ?_
          refine lv_bipush (v := 48) hx hb dX5_takeNumber_73 rfl ?_
          refine lv_isub hx hb dX5_takeNumber_75 ?_
          refine lv_goto (tgt := 80) hx hb dX5_takeNumber_76 (by decide) ?_
          exact tX5_takeNumber_80 E X ih h hR (lv_sub hl [0, 1, 2] rfl)

set_option maxHeartbeats 4000000 in
set_option maxRecDepth 100000 in
theorem CX5_takeNumber (l : Launch) (g : Gl) {a1 : Int32} {a2 : Int32} {μ : Mem} {zr : Int32} {zm : Mem} (h : fX5_takeNumber a1 a2 μ = some (zr, zm)) : av_MI l yX5_takeNumber cX5_takeNumber 5 3 (some .int) av_wc g [.ref (g.2.2 9), .int a1, .int a2] μ zr zm := by
  refine av_ent (own := RX5) (by decide) (Nat.le_of_ble_eq_true rfl) rfl (fun p e s m args below meth c E X hR ls hl => ?_)
  have hl : lv_has ls 5 [(0, .ref (g.2.2 9)), (1, .int a1), (2, .int a2)] := hl
  obtain ⟨hx, hb, hr, hml, hown, hts, hlocks⟩ := id E
  unfold fX5_takeNumber at h
  refine lv_aload_n hx hb dX5_takeNumber_0 rfl (lv_at hl 0 rfl) ?_
  refine gf_X5_15 E X hR av_t9 dX5_takeNumber_1 ?_
  refine lv_iconst (v := (-1)) hx hb dX5_takeNumber_4 rfl ?_
  refine lv_icmp_eq (tgt := 10) hx hb dX5_takeNumber_5 (by decide) (fun c5 => ?_) (fun c5 => ?_)
  · have h := av_it c5 h
    refine lv_aload_n hx hb dX5_takeNumber_10 rfl (lv_at hl 0 rfl) ?_
    obtain ⟨μ11, eμ11, h⟩ := av_bd h
    refine av_goV hR (av_cV (As := []) (rest := []) E X hR hl.1 (CX5_skipBlanks l g eμ11) kk_X5_34 (av_room (by omega) (by decide)) av_t9 (by decide) rfl rfl (Nat.le_of_ble_eq_true rfl) ⟨Nat.zero_le _, Nat.zero_le _⟩ dX5_takeNumber_11) (fun H locs hR => ?_)
    refine lv_aload_n hx hb dX5_takeNumber_14 rfl (lv_at hl 0 rfl) ?_
    refine lv_aload_n hx hb dX5_takeNumber_15 rfl (lv_at hl 0 rfl) ?_
    refine gf_X5_27 E X hR av_t9 dX5_takeNumber_16 ?_
    obtain ⟨μ19, eμ19, h⟩ := av_bd h
    replace eμ19 := Option.some.inj eμ19
    refine pf_X5_46 E X hR av_t9 dX5_takeNumber_19 eμ19 (fun H locs hR => ?_)
    refine lv_iconst (v := 0) hx hb dX5_takeNumber_22 rfl ?_
    refine lv_istore_n (lv' := [(3, .int 0), (0, .ref (g.2.2 9)), (1, .int a1), (2, .int a2)]) hx hb dX5_takeNumber_23 rfl hl (by decide) rfl (fun ls hl => ?_)
    exact tX5_takeNumber_24 E X _ h hR (lv_sub hl [1, 2, 3, 0] rfl)
  · have h := av_if c5 h
    refine lv_iconst (v := 0) hx hb dX5_takeNumber_8 rfl ?_
    exact av_ri E hR (av_r2 h) dX5_takeNumber_9

set_option maxHeartbeats 4000000 in
set_option maxRecDepth 100000 in
theorem tX5_readLedge_60 {p : Program} {l : Launch} {e : Env} {s : State} {m : MethodId} {args : Array Value} {below : List Frame} {meth : Method} {c : Code} {g : Gl} {zm : Mem} (E : av_E p s m args meth c cX5_readLedge RX5 6 none) (X : av_X av_wc g s) :
    ∀ {x1 : Nat} {x3 : Int32} {x4 : Int32} {y0 : Int32} (hx1 : av_t av_wc x1 8) {μ : Mem} {H : Heap} {locs : List Loc} {ls : Array Slot}, fX5_readLedge_60 x1 x3 x4 y0 μ = some zm → av_R av_wc g μ s H locs → lv_has ls 6 [(0, .ref (g.2.2 9)), (1, .ref (g.2.2 x1)), (3, .int x3), (4, .int x4)] → W p l e (rmN 4) s m args below meth c H locs 0 0 (MQ below (va_Qv (fun u => u = zm) (av_B av_wc g) (av_A av_wc g)) args s 0 0 (av_A av_wc g)) (F0 m 60 ls [.int y0]) := by
  obtain ⟨hx, hb, hr, hml, hown, hts, hlocks⟩ := id E
  intro x1 x3 x4 y0 hx1 μ H locs ls h hR hl
  unfold fX5_readLedge_60 at h
  refine lv_istore (lv' := [(5, .int y0), (0, .ref (g.2.2 9)), (1, .ref (g.2.2 x1)), (3, .int x3), (4, .int x4)]) hx hb dX5_readLedge_60 hl (by decide) rfl (fun ls hl => ?_)
  refine lv_aload_n hx hb dX5_readLedge_62 rfl (lv_at hl 1 rfl) ?_
  refine gf_X5_15 E X hR av_t9 dX5_readLedge_63 ?_
  refine lv_iconst (v := (-1)) hx hb dX5_readLedge_66 rfl ?_
  refine lv_icmp_ne (tgt := 80) hx hb dX5_readLedge_67 (by decide) (fun c67 => ?_) (fun c67 => ?_)
  · have h := av_if c67 h
    exact av_rv E hR (Option.some.inj h) dX5_readLedge_80
  · have h := av_it c67 h
    refine lv_aload_n hx hb dX5_readLedge_70 rfl (lv_at hl 2 rfl) ?_
    refine lv_iload_n hx hb dX5_readLedge_71 rfl (lv_at hl 3 rfl) ?_
    refine lv_iload hx hb dX5_readLedge_72 (lv_at hl 4 rfl) ?_
    refine lv_iload hx hb dX5_readLedge_74 (lv_at hl 0 rfl) ?_
    obtain ⟨r76, μ76, er76, h⟩ := av_bd2 h
    refine av_goI hR (av_cV (As := [.int x3, .int x4, .int y0]) (rest := []) E X hR hl.1 (CX8_addLedge l g hx1 er76) kk_X5_78 (av_room (by omega) (by decide)) hx1 (by decide) rfl rfl (Nat.le_of_ble_eq_true rfl) ⟨Nat.zero_le _, Nat.zero_le _⟩ dX5_readLedge_76) (fun H locs hR => ?_)
    refine lv_pop hx hb dX5_readLedge_79 rfl ?_
    exact av_rv E hR (Option.some.inj h) dX5_readLedge_80

set_option maxHeartbeats 4000000 in
set_option maxRecDepth 100000 in
theorem CX5_readLedge (l : Launch) (g : Gl) {a1 : Nat} {a2 : Int32} (ha1 : av_t av_wc a1 8) {μ : Mem} {zm : Mem} (h : fX5_readLedge a1 a2 μ = some zm) : av_MV l yX5_readLedge cX5_readLedge 6 4 none av_wc g [.ref (g.2.2 9), .ref (g.2.2 a1), .int a2] μ zm := by
  refine av_ent (own := RX5) (by decide) (Nat.le_of_ble_eq_true rfl) rfl (fun p e s m args below meth c E X hR ls hl => ?_)
  have hl : lv_has ls 6 [(0, .ref (g.2.2 9)), (1, .ref (g.2.2 a1)), (2, .int a2)] := hl
  obtain ⟨hx, hb, hr, hml, hown, hts, hlocks⟩ := id E
  unfold fX5_readLedge at h
  refine lv_aload_n hx hb dX5_readLedge_0 rfl (lv_at hl 1 rfl) ?_
  refine gf_X5_65 E X hR ha1 dX5_readLedge_1 rfl ?_
  refine gf_X5_69 E X hR (av_ty_8_0 ha1) dX5_readLedge_4 ?_
  refine lv_bipush (v := 8) hx hb dX5_readLedge_7 rfl ?_
  refine lv_icmp_lt (tgt := 21) hx hb dX5_readLedge_9 (by decide) (fun c9 => ?_) (fun c9 => ?_)
  · have h := av_it c9 h
    refine lv_aload_n hx hb dX5_readLedge_21 rfl (lv_at hl 0 rfl) ?_
    refine lv_iconst (v := 1) hx hb dX5_readLedge_22 rfl ?_
    refine lv_bipush (v := 60) hx hb dX5_readLedge_23 rfl ?_
    obtain ⟨r25, μ25, er25, h⟩ := av_bd2 h
    refine av_goI hR (av_cV (As := [.int 1, .int 60]) (rest := []) E X hR hl.1 (CX5_takeNumber l g er25) kk_X5_74 (av_room (by omega) (by decide)) av_t9 (by decide) rfl rfl (Nat.le_of_ble_eq_true rfl) ⟨Nat.zero_le _, Nat.zero_le _⟩ dX5_readLedge_25) (fun H locs hR => ?_)
    refine lv_istore_n (lv' := [(3, .int r25), (0, .ref (g.2.2 9)), (1, .ref (g.2.2 a1)), (2, .int a2)]) hx hb dX5_readLedge_28 rfl hl (by decide) rfl (fun ls hl => ?_)
    refine lv_aload_n hx hb dX5_readLedge_29 rfl (lv_at hl 1 rfl) ?_
    refine lv_iconst (v := 0) hx hb dX5_readLedge_30 rfl ?_
    refine lv_bipush (v := 30) hx hb dX5_readLedge_31 rfl ?_
    obtain ⟨r33, μ33, er33, h⟩ := av_bd2 h
    refine av_goI hR (av_cV (As := [.int 0, .int 30]) (rest := []) E X hR hl.1 (CX5_takeNumber l g er33) kk_X5_74 (av_room (by omega) (by decide)) av_t9 (by decide) rfl rfl (Nat.le_of_ble_eq_true rfl) ⟨Nat.zero_le _, Nat.zero_le _⟩ dX5_readLedge_33) (fun H locs hR => ?_)
    refine lv_istore (lv' := [(4, .int r33), (3, .int r25), (0, .ref (g.2.2 9)), (1, .ref (g.2.2 a1)), (2, .int a2)]) hx hb dX5_readLedge_36 hl (by decide) rfl (fun ls hl => ?_)
    refine lv_iload_n hx hb dX5_readLedge_38 rfl (lv_at hl 4 rfl) ?_
    refine lv_if_eq (tgt := 59) hx hb dX5_readLedge_39 (by decide) (fun c39 => ?_) (fun c39 => ?_)
    · have h := av_it c39 h
      refine lv_iconst (v := (-1)) hx hb dX5_readLedge_59 rfl ?_
      exact tX5_readLedge_60 E X ha1 h hR (lv_sub hl [2, 3, 1, 0] rfl)
    · have h := av_if c39 h
      refine lv_aload_n hx hb dX5_readLedge_42 rfl (lv_at hl 2 rfl) ?_
      refine lv_iconst (v := 0) hx hb dX5_readLedge_43 rfl ?_
      refine lv_aload_n hx hb dX5_readLedge_44 rfl (lv_at hl 3 rfl) ?_
      refine gf_X5_65 E X hR ha1 dX5_readLedge_45 rfl ?_
      refine gf_X5_69 E X hR (av_ty_8_0 ha1) dX5_readLedge_48 ?_
      refine lv_iconst (v := 1) hx hb dX5_readLedge_51 rfl ?_
      refine lv_isub hx hb dX5_readLedge_52 ?_
      obtain ⟨r53, μ53, er53, h⟩ := av_bd2 h
      refine av_goI hR (av_cV (As := [.int 0, .int ((gF μ33 (av_rf a1 0) 1) - 1)]) (rest := []) E X hR hl.1 (CX5_takeNumber l g er53) kk_X5_74 (av_room (by omega) (by decide)) av_t9 (by decide) rfl rfl (Nat.le_of_ble_eq_true rfl) ⟨Nat.zero_le _, Nat.zero_le _⟩ dX5_readLedge_53) (fun H locs hR => ?_)
      refine lv_goto (tgt := 60) hx hb dX5_readLedge_56 (by decide) ?_
      exact tX5_readLedge_60 E X ha1 h hR (lv_sub hl [2, 3, 1, 0] rfl)
  · have h := av_if c9 h
    refine lv_aload_n hx hb dX5_readLedge_12 rfl (lv_at hl 0 rfl) ?_
    refine lv_aload_n hx hb dX5_readLedge_13 rfl (lv_at hl 0 rfl) ?_
    refine gf_X5_46 E X hR av_t9 dX5_readLedge_14 ?_
    obtain ⟨μ17, eμ17, h⟩ := av_bd h
    replace eμ17 := Option.some.inj eμ17
    refine pf_X5_15 E X hR av_t9 dX5_readLedge_17 eμ17 (fun H locs hR => ?_)
    exact av_rv E hR (Option.some.inj h) dX5_readLedge_20

set_option maxHeartbeats 4000000 in
set_option maxRecDepth 100000 in
theorem CX5_readVoter (l : Launch) (g : Gl) {a1 : Nat} (ha1 : av_t av_wc a1 8) {μ : Mem} {zm : Mem} (h : fX5_readVoter a1 μ = some zm) : av_MV l yX5_readVoter cX5_readVoter 5 4 none av_wc g [.ref (g.2.2 9), .ref (g.2.2 a1)] μ zm := by
  refine av_ent (own := RX5) (by decide) (Nat.le_of_ble_eq_true rfl) rfl (fun p e s m args below meth c E X hR ls hl => ?_)
  have hl : lv_has ls 5 [(0, .ref (g.2.2 9)), (1, .ref (g.2.2 a1))] := hl
  obtain ⟨hx, hb, hr, hml, hown, hts, hlocks⟩ := id E
  unfold fX5_readVoter at h
  refine lv_aload_n hx hb dX5_readVoter_0 rfl (lv_at hl 1 rfl) ?_
  refine gf_X5_65 E X hR ha1 dX5_readVoter_1 rfl ?_
  refine gf_X5_82 E X hR (av_ty_8_0 ha1) dX5_readVoter_4 ?_
  refine lv_bipush (v := 6) hx hb dX5_readVoter_7 rfl ?_
  refine lv_icmp_lt (tgt := 21) hx hb dX5_readVoter_9 (by decide) (fun c9 => ?_) (fun c9 => ?_)
  · have h := av_it c9 h
    refine lv_aload_n hx hb dX5_readVoter_21 rfl (lv_at hl 0 rfl) ?_
    refine lv_iconst (v := 0) hx hb dX5_readVoter_22 rfl ?_
    refine lv_iconst (v := 5) hx hb dX5_readVoter_23 rfl ?_
    obtain ⟨r24, μ24, er24, h⟩ := av_bd2 h
    refine av_goI hR (av_cV (As := [.int 0, .int 5]) (rest := []) E X hR hl.1 (CX5_takeNumber l g er24) kk_X5_74 (av_room (by omega) (by decide)) av_t9 (by decide) rfl rfl (Nat.le_of_ble_eq_true rfl) ⟨Nat.zero_le _, Nat.zero_le _⟩ dX5_readVoter_24) (fun H locs hR => ?_)
    refine lv_istore_n (lv' := [(2, .int r24), (0, .ref (g.2.2 9)), (1, .ref (g.2.2 a1))]) hx hb dX5_readVoter_27 rfl hl (by decide) rfl (fun ls hl => ?_)
    refine lv_aload_n hx hb dX5_readVoter_28 rfl (lv_at hl 1 rfl) ?_
    refine lv_iconst (v := 0) hx hb dX5_readVoter_29 rfl ?_
    refine lv_aload_n hx hb dX5_readVoter_30 rfl (lv_at hl 2 rfl) ?_
    refine gf_X5_65 E X hR ha1 dX5_readVoter_31 rfl ?_
    refine gf_X5_69 E X hR (av_ty_8_0 ha1) dX5_readVoter_34 ?_
    refine lv_iconst (v := 1) hx hb dX5_readVoter_37 rfl ?_
    refine lv_isub hx hb dX5_readVoter_38 ?_
    obtain ⟨r39, μ39, er39, h⟩ := av_bd2 h
    refine av_goI hR (av_cV (As := [.int 0, .int ((gF μ24 (av_rf a1 0) 1) - 1)]) (rest := []) E X hR hl.1 (CX5_takeNumber l g er39) kk_X5_74 (av_room (by omega) (by decide)) av_t9 (by decide) rfl rfl (Nat.le_of_ble_eq_true rfl) ⟨Nat.zero_le _, Nat.zero_le _⟩ dX5_readVoter_39) (fun H locs hR => ?_)
    refine lv_istore_n (lv' := [(3, .int r39), (2, .int r24), (0, .ref (g.2.2 9)), (1, .ref (g.2.2 a1))]) hx hb dX5_readVoter_42 rfl hl (by decide) rfl (fun ls hl => ?_)
    refine lv_aload_n hx hb dX5_readVoter_43 rfl (lv_at hl 2 rfl) ?_
    refine lv_iconst (v := 1) hx hb dX5_readVoter_44 rfl ?_
    refine lv_bipush (v := 9) hx hb dX5_readVoter_45 rfl ?_
    obtain ⟨r47, μ47, er47, h⟩ := av_bd2 h
    refine av_goI hR (av_cV (As := [.int 1, .int 9]) (rest := []) E X hR hl.1 (CX5_takeNumber l g er47) kk_X5_74 (av_room (by omega) (by decide)) av_t9 (by decide) rfl rfl (Nat.le_of_ble_eq_true rfl) ⟨Nat.zero_le _, Nat.zero_le _⟩ dX5_readVoter_47) (fun H locs hR => ?_)
    refine lv_istore (lv' := [(4, .int r47), (3, .int r39), (2, .int r24), (0, .ref (g.2.2 9)), (1, .ref (g.2.2 a1))]) hx hb dX5_readVoter_50 hl (by decide) rfl (fun ls hl => ?_)
    refine lv_aload_n hx hb dX5_readVoter_52 rfl (lv_at hl 3 rfl) ?_
    refine gf_X5_15 E X hR av_t9 dX5_readVoter_53 ?_
    refine lv_iconst (v := (-1)) hx hb dX5_readVoter_56 rfl ?_
    refine lv_icmp_ne (tgt := 69) hx hb dX5_readVoter_57 (by decide) (fun c57 => ?_) (fun c57 => ?_)
    · have h := av_if c57 h
      exact av_rv E hR (Option.some.inj h) dX5_readVoter_69
    · have h := av_it c57 h
      refine lv_aload_n hx hb dX5_readVoter_60 rfl (lv_at hl 4 rfl) ?_
      refine lv_iload_n hx hb dX5_readVoter_61 rfl (lv_at hl 2 rfl) ?_
      refine lv_iload_n hx hb dX5_readVoter_62 rfl (lv_at hl 1 rfl) ?_
      refine lv_iload hx hb dX5_readVoter_63 (lv_at hl 0 rfl) ?_
      obtain ⟨r65, μ65, er65, h⟩ := av_bd2 h
      refine av_goI hR (av_cV (As := [.int r24, .int r39, .int r47]) (rest := []) E X hR hl.1 (CX8_addVoter l g ha1 er65) kk_X5_85 (av_room (by omega) (by decide)) ha1 (by decide) rfl rfl (Nat.le_of_ble_eq_true rfl) ⟨Nat.zero_le _, Nat.zero_le _⟩ dX5_readVoter_65) (fun H locs hR => ?_)
      refine lv_pop hx hb dX5_readVoter_68 rfl ?_
      exact av_rv E hR (Option.some.inj h) dX5_readVoter_69
  · have h := av_if c9 h
    refine lv_aload_n hx hb dX5_readVoter_12 rfl (lv_at hl 0 rfl) ?_
    refine lv_aload_n hx hb dX5_readVoter_13 rfl (lv_at hl 0 rfl) ?_
    refine gf_X5_46 E X hR av_t9 dX5_readVoter_14 ?_
    obtain ⟨μ17, eμ17, h⟩ := av_bd h
    replace eμ17 := Option.some.inj eμ17
    refine pf_X5_15 E X hR av_t9 dX5_readVoter_17 eμ17 (fun H locs hR => ?_)
    exact av_rv E hR (Option.some.inj h) dX5_readVoter_20

set_option maxHeartbeats 4000000 in
set_option maxRecDepth 100000 in
theorem tX5_takeEnd_48 {p : Program} {l : Launch} {e : Env} {s : State} {m : MethodId} {args : Array Value} {below : List Frame} {meth : Method} {c : Code} {g : Gl} {zm : Mem} (E : av_E p s m args meth c cX5_takeEnd RX5 1 none) (X : av_X av_wc g s) :
    ∀ {μ : Mem} {H : Heap} {locs : List Loc} {ls : Array Slot}, fX5_takeEnd_48 μ = some zm → av_R av_wc g μ s H locs → lv_has ls 1 [(0, .ref (g.2.2 9))] → W p l e (rmN 3) s m args below meth c H locs 0 0 (MQ below (va_Qv (fun u => u = zm) (av_B av_wc g) (av_A av_wc g)) args s 0 0 (av_A av_wc g)) (F0 m 48 ls []) := by
  obtain ⟨hx, hb, hr, hml, hown, hts, hlocks⟩ := id E
  intro μ H locs ls h hR hl
  unfold fX5_takeEnd_48 at h
  refine lv_aload_n hx hb dX5_takeEnd_48 rfl (lv_at hl 0 rfl) ?_
  refine lv_aload_n hx hb dX5_takeEnd_49 rfl (lv_at hl 0 rfl) ?_
  refine gf_X5_27 E X hR av_t9 dX5_takeEnd_50 ?_
  obtain ⟨μ53, eμ53, h⟩ := av_bd h
  replace eμ53 := Option.some.inj eμ53
  refine pf_X5_15 E X hR av_t9 dX5_takeEnd_53 eμ53 (fun H locs hR => ?_)
  exact av_rv E hR (Option.some.inj h) dX5_takeEnd_56

set_option maxHeartbeats 4000000 in
set_option maxRecDepth 100000 in
theorem CX5_takeEnd (l : Launch) (g : Gl) {μ : Mem} {zm : Mem} (h : fX5_takeEnd μ = some zm) : av_MV l yX5_takeEnd cX5_takeEnd 1 3 none av_wc g [.ref (g.2.2 9)] μ zm := by
  refine av_ent (own := RX5) (by decide) (Nat.le_of_ble_eq_true rfl) rfl (fun p e s m args below meth c E X hR ls hl => ?_)
  have hl : lv_has ls 1 [(0, .ref (g.2.2 9))] := hl
  obtain ⟨hx, hb, hr, hml, hown, hts, hlocks⟩ := id E
  unfold fX5_takeEnd at h
  refine lv_aload_n hx hb dX5_takeEnd_0 rfl (lv_at hl 0 rfl) ?_
  refine gf_X5_15 E X hR av_t9 dX5_takeEnd_1 ?_
  refine lv_iconst (v := (-1)) hx hb dX5_takeEnd_4 rfl ?_
  refine lv_icmp_eq (tgt := 9) hx hb dX5_takeEnd_5 (by decide) (fun c5 => ?_) (fun c5 => ?_)
  · have h := av_it c5 h
    refine lv_aload_n hx hb dX5_takeEnd_9 rfl (lv_at hl 0 rfl) ?_
    obtain ⟨μ10, eμ10, h⟩ := av_bd h
    refine av_goV hR (av_cV (As := []) (rest := []) E X hR hl.1 (CX5_skipBlanks l g eμ10) kk_X5_34 (av_room (by omega) (by decide)) av_t9 (by decide) rfl rfl (Nat.le_of_ble_eq_true rfl) ⟨Nat.zero_le _, Nat.zero_le _⟩ dX5_takeEnd_10) (fun H locs hR => ?_)
    refine lv_aload_n hx hb dX5_takeEnd_13 rfl (lv_at hl 0 rfl) ?_
    refine gf_X5_27 E X hR av_t9 dX5_takeEnd_14 ?_
    refine lv_aload_n hx hb dX5_takeEnd_17 rfl (lv_at hl 0 rfl) ?_
    refine gf_X5_19 E X hR av_t9 dX5_takeEnd_18 ?_
    refine lv_icmp_ge (tgt := 48) hx hb dX5_takeEnd_21 (by decide) (fun c21 => ?_) (fun c21 => ?_)
    · have h := av_it c21 h
      exact tX5_takeEnd_48 E X h hR (lv_sub hl [0] rfl)
    · have h := av_if c21 h
      refine lv_aload_n hx hb dX5_takeEnd_24 rfl (lv_at hl 0 rfl) ?_
      refine lv_bipush (v := 59) hx hb dX5_takeEnd_25 rfl ?_
      refine lv_bipush (v := 59) hx hb dX5_takeEnd_27 rfl ?_
      obtain ⟨r29, er29, h⟩ := av_bd h
      refine av_goI hR (av_cV (As := [.int 59, .int 59]) (rest := []) E X hR hl.1 (CX5_isBetween l g er29) kk_X5_88 (av_room (by omega) (by decide)) av_t9 (by decide) rfl rfl (Nat.le_of_ble_eq_true rfl) ⟨Nat.zero_le _, Nat.zero_le _⟩ dX5_takeEnd_29) (fun H locs hR => ?_)
      refine lv_if_eq (tgt := 48) hx hb dX5_takeEnd_32 (by decide) (fun c32 => ?_) (fun c32 => ?_)
      · have h := av_it c32 h
        exact tX5_takeEnd_48 E X h hR (lv_sub hl [0] rfl)
      · have h := av_if c32 h
        refine lv_aload_n hx hb dX5_takeEnd_35 rfl (lv_at hl 0 rfl) ?_
        refine lv_dup hx hb dX5_takeEnd_36 rfl ?_
        refine gf_X5_27 E X hR av_t9 dX5_takeEnd_37 ?_
        refine lv_iconst (v := 1) hx hb dX5_takeEnd_40 rfl ?_
        refine lv_iadd hx hb dX5_takeEnd_41 ?_
        obtain ⟨μ42, eμ42, h⟩ := av_bd h
        replace eμ42 := Option.some.inj eμ42
        refine pf_X5_27 E X hR av_t9 dX5_takeEnd_42 eμ42 (fun H locs hR => ?_)
        refine lv_goto (tgt := 56) hx hb dX5_takeEnd_45 (by decide) ?_
        exact av_rv E hR (Option.some.inj h) dX5_takeEnd_56
  · have h := av_if c5 h
    exact av_rv E hR (Option.some.inj h) dX5_takeEnd_8

set_option maxHeartbeats 4000000 in
set_option maxRecDepth 100000 in
theorem tX5_readItem_90 {p : Program} {l : Launch} {e : Env} {s : State} {m : MethodId} {args : Array Value} {below : List Frame} {meth : Method} {c : Code} {g : Gl} {zm : Mem} (E : av_E p s m args meth c cX5_readItem RX5 3 none) (X : av_X av_wc g s) :
    ∀ {μ : Mem} {H : Heap} {locs : List Loc} {ls : Array Slot}, fX5_readItem_90 μ = some zm → av_R av_wc g μ s H locs → lv_has ls 3 [(0, .ref (g.2.2 9))] → W p l e (rmN 10) s m args below meth c H locs 0 0 (MQ below (va_Qv (fun u => u = zm) (av_B av_wc g) (av_A av_wc g)) args s 0 0 (av_A av_wc g)) (F0 m 90 ls []) := by
  obtain ⟨hx, hb, hr, hml, hown, hts, hlocks⟩ := id E
  intro μ H locs ls h hR hl
  unfold fX5_readItem_90 at h
  refine lv_aload_n hx hb dX5_readItem_90 rfl (lv_at hl 0 rfl) ?_
  obtain ⟨μ91, eμ91, h⟩ := av_bd h
  refine av_goV hR (av_cV (As := []) (rest := []) E X hR hl.1 (CX5_takeEnd l g eμ91) kk_X5_62 (av_room (by omega) (by decide)) av_t9 (by decide) rfl rfl (Nat.le_of_ble_eq_true rfl) ⟨Nat.zero_le _, Nat.zero_le _⟩ dX5_readItem_91) (fun H locs hR => ?_)
  exact av_rv E hR (Option.some.inj h) dX5_readItem_94

set_option maxHeartbeats 4000000 in
set_option maxRecDepth 100000 in
theorem CX5_readItem (l : Launch) (g : Gl) {a1 : Nat} {a2 : Int32} (ha1 : av_t av_wc a1 8) {μ : Mem} {zm : Mem} (h : fX5_readItem a1 a2 μ = some zm) : av_MV l yX5_readItem cX5_readItem 3 10 none av_wc g [.ref (g.2.2 9), .ref (g.2.2 a1), .int a2] μ zm := by
  refine av_ent (own := RX5) (by decide) (Nat.le_of_ble_eq_true rfl) rfl (fun p e s m args below meth c E X hR ls hl => ?_)
  have hl : lv_has ls 3 [(0, .ref (g.2.2 9)), (1, .ref (g.2.2 a1)), (2, .int a2)] := hl
  obtain ⟨hx, hb, hr, hml, hown, hts, hlocks⟩ := id E
  unfold fX5_readItem at h
  refine lv_aload_n hx hb dX5_readItem_0 rfl (lv_at hl 0 rfl) ?_
  obtain ⟨μ1, eμ1, h⟩ := av_bd h
  refine av_goV hR (av_cV (As := []) (rest := []) E X hR hl.1 (CX5_takeWord l g eμ1) kk_X5_37 (av_room (by omega) (by decide)) av_t9 (by decide) rfl rfl (Nat.le_of_ble_eq_true rfl) ⟨Nat.zero_le _, Nat.zero_le _⟩ dX5_readItem_1) (fun H locs hR => ?_)
  refine lv_aload_n hx hb dX5_readItem_4 rfl (lv_at hl 0 rfl) ?_
  refine va_ldcS (q := g.2.2 (200 + 0)) hx hb hown X.2.2.2.2.1.1 dX5_readItem_5 ?_
  obtain ⟨r7, er7, h⟩ := av_bd h
  refine av_goI hR (av_cV (As := [.ref (g.2.2 (200 + 0))]) (rest := []) E X hR hl.1 (CX5_wordIs l g (a1 := 0) (by decide) er7) kk_X5_42 (av_room (by omega) (by decide)) av_t9 (by decide) rfl rfl (Nat.le_of_ble_eq_true rfl) ⟨Nat.zero_le _, Nat.zero_le _⟩ dX5_readItem_7) (fun H locs hR => ?_)
  refine lv_iload_n hx hb dX5_readItem_10 rfl (lv_at hl 2 rfl) ?_
  refine lv_icmp_eq (tgt := 25) hx hb dX5_readItem_11 (by decide) (fun c11 => ?_) (fun c11 => ?_)
  · have h := av_it c11 h
    refine lv_aload_n hx hb dX5_readItem_25 rfl (lv_at hl 0 rfl) ?_
    refine va_ldcS (q := g.2.2 (200 + 1)) hx hb hown X.2.2.2.2.1.2.1 dX5_readItem_26 ?_
    obtain ⟨r28, er28, h⟩ := av_bd h
    refine av_goI hR (av_cV (As := [.ref (g.2.2 (200 + 1))]) (rest := []) E X hR hl.1 (CX5_wordIs l g (a1 := 1) (by decide) er28) kk_X5_42 (av_room (by omega) (by decide)) av_t9 (by decide) rfl rfl (Nat.le_of_ble_eq_true rfl) ⟨Nat.zero_le _, Nat.zero_le _⟩ dX5_readItem_28) (fun H locs hR => ?_)
    refine lv_if_eq (tgt := 43) hx hb dX5_readItem_31 (by decide) (fun c31 => ?_) (fun c31 => ?_)
    · have h := av_it c31 h
      refine lv_aload_n hx hb dX5_readItem_43 rfl (lv_at hl 0 rfl) ?_
      refine va_ldcS (q := g.2.2 (200 + 2)) hx hb hown X.2.2.2.2.1.2.2.1 dX5_readItem_44 ?_
      obtain ⟨r46, er46, h⟩ := av_bd h
      refine av_goI hR (av_cV (As := [.ref (g.2.2 (200 + 2))]) (rest := []) E X hR hl.1 (CX5_wordIs l g (a1 := 2) (by decide) er46) kk_X5_42 (av_room (by omega) (by decide)) av_t9 (by decide) rfl rfl (Nat.le_of_ble_eq_true rfl) ⟨Nat.zero_le _, Nat.zero_le _⟩ dX5_readItem_46) (fun H locs hR => ?_)
      refine lv_if_eq (tgt := 61) hx hb dX5_readItem_49 (by decide) (fun c49 => ?_) (fun c49 => ?_)
      · have h := av_it c49 h
        refine lv_aload_n hx hb dX5_readItem_61 rfl (lv_at hl 0 rfl) ?_
        refine va_ldcS (q := g.2.2 (200 + 3)) hx hb hown X.2.2.2.2.1.2.2.2 dX5_readItem_62 ?_
        obtain ⟨r64, er64, h⟩ := av_bd h
        refine av_goI hR (av_cV (As := [.ref (g.2.2 (200 + 3))]) (rest := []) E X hR hl.1 (CX5_wordIs l g (a1 := 3) (by decide) er64) kk_X5_42 (av_room (by omega) (by decide)) av_t9 (by decide) rfl rfl (Nat.le_of_ble_eq_true rfl) ⟨Nat.zero_le _, Nat.zero_le _⟩ dX5_readItem_64) (fun H locs hR => ?_)
        refine lv_if_eq (tgt := 78) hx hb dX5_readItem_67 (by decide) (fun c67 => ?_) (fun c67 => ?_)
        · have h := av_it c67 h
          refine lv_iload_n hx hb dX5_readItem_78 rfl (lv_at hl 2 rfl) ?_
          refine lv_if_ne (tgt := 90) hx hb dX5_readItem_79 (by decide) (fun c79 => ?_) (fun c79 => ?_)
          · have h := av_if c79 h
            exact tX5_readItem_90 E X h hR (lv_sub hl [0] rfl)
          · have h := av_it c79 h
            refine lv_aload_n hx hb dX5_readItem_82 rfl (lv_at hl 0 rfl) ?_
            refine lv_aload_n hx hb dX5_readItem_83 rfl (lv_at hl 0 rfl) ?_
            refine gf_X5_46 E X hR av_t9 dX5_readItem_84 ?_
            obtain ⟨μ87, eμ87, h⟩ := av_bd h
            replace eμ87 := Option.some.inj eμ87
            refine pf_X5_15 E X hR av_t9 dX5_readItem_87 eμ87 (fun H locs hR => ?_)
            exact tX5_readItem_90 E X h hR (lv_sub hl [0] rfl)
        · have h := av_if c67 h
          refine lv_aload_n hx hb dX5_readItem_70 rfl (lv_at hl 0 rfl) ?_
          refine lv_aload_n hx hb dX5_readItem_71 rfl (lv_at hl 1 rfl) ?_
          obtain ⟨μ72, eμ72, h⟩ := av_bd h
          refine av_goV hR (av_cV (As := [.ref (g.2.2 a1)]) (rest := []) E X hR hl.1 (CX5_readVoter l g ha1 eμ72) kk_X5_58 (av_room (by omega) (by decide)) av_t9 (by decide) rfl rfl (Nat.le_of_ble_eq_true rfl) ⟨Nat.zero_le _, Nat.zero_le _⟩ dX5_readItem_72) (fun H locs hR => ?_)
          refine lv_goto (tgt := 90) hx hb dX5_readItem_75 (by decide) ?_
          exact tX5_readItem_90 E X h hR (lv_sub hl [0] rfl)
      · have h := av_if c49 h
        refine lv_aload_n hx hb dX5_readItem_52 rfl (lv_at hl 0 rfl) ?_
        refine lv_aload_n hx hb dX5_readItem_53 rfl (lv_at hl 1 rfl) ?_
        refine lv_iconst (v := 1) hx hb dX5_readItem_54 rfl ?_
        obtain ⟨μ55, eμ55, h⟩ := av_bd h
        refine av_goV hR (av_cV (As := [.ref (g.2.2 a1), .int 1]) (rest := []) E X hR hl.1 (CX5_readLedge l g ha1 eμ55) kk_X5_51 (av_room (by omega) (by decide)) av_t9 (by decide) rfl rfl (Nat.le_of_ble_eq_true rfl) ⟨Nat.zero_le _, Nat.zero_le _⟩ dX5_readItem_55) (fun H locs hR => ?_)
        refine lv_goto (tgt := 90) hx hb dX5_readItem_58 (by decide) ?_
        exact tX5_readItem_90 E X h hR (lv_sub hl [0] rfl)
    · have h := av_if c31 h
      refine lv_aload_n hx hb dX5_readItem_34 rfl (lv_at hl 0 rfl) ?_
      refine lv_aload_n hx hb dX5_readItem_35 rfl (lv_at hl 1 rfl) ?_
      refine lv_iconst (v := 0) hx hb dX5_readItem_36 rfl ?_
      obtain ⟨μ37, eμ37, h⟩ := av_bd h
      refine av_goV hR (av_cV (As := [.ref (g.2.2 a1), .int 0]) (rest := []) E X hR hl.1 (CX5_readLedge l g ha1 eμ37) kk_X5_51 (av_room (by omega) (by decide)) av_t9 (by decide) rfl rfl (Nat.le_of_ble_eq_true rfl) ⟨Nat.zero_le _, Nat.zero_le _⟩ dX5_readItem_37) (fun H locs hR => ?_)
      refine lv_goto (tgt := 90) hx hb dX5_readItem_40 (by decide) ?_
      exact tX5_readItem_90 E X h hR (lv_sub hl [0] rfl)
  · have h := av_if c11 h
    refine lv_aload_n hx hb dX5_readItem_14 rfl (lv_at hl 0 rfl) ?_
    refine lv_aload_n hx hb dX5_readItem_15 rfl (lv_at hl 0 rfl) ?_
    refine gf_X5_46 E X hR av_t9 dX5_readItem_16 ?_
    obtain ⟨μ19, eμ19, h⟩ := av_bd h
    replace eμ19 := Option.some.inj eμ19
    refine pf_X5_15 E X hR av_t9 dX5_readItem_19 eμ19 (fun H locs hR => ?_)
    refine lv_goto (tgt := 90) hx hb dX5_readItem_22 (by decide) ?_
    exact tX5_readItem_90 E X h hR (lv_sub hl [0] rfl)

set_option maxHeartbeats 4000000 in
set_option maxRecDepth 100000 in
theorem tX5_readInto_76 {p : Program} {l : Launch} {e : Env} {s : State} {m : MethodId} {args : Array Value} {below : List Frame} {meth : Method} {c : Code} {g : Gl} {zr : Int32} {zm : Mem} (E : av_E p s m args meth c cX5_readInto RX5 4 (some .int)) (X : av_X av_wc g s) :
    ∀ {x2 : Int32} {μ : Mem} {H : Heap} {locs : List Loc} {ls : Array Slot}, fX5_readInto_76 x2 μ = some (zr, zm) → av_R av_wc g μ s H locs → lv_has ls 4 [(2, .int x2)] → W p l e (rmN 11) s m args below meth c H locs 0 0 (MQ below (va_Qi (fun r1 u => r1 = zr ∧ u = zm) (av_B av_wc g) (av_A av_wc g)) args s 0 0 (av_A av_wc g)) (F0 m 76 ls []) := by
  obtain ⟨hx, hb, hr, hml, hown, hts, hlocks⟩ := id E
  intro x2 μ H locs ls h hR hl
  unfold fX5_readInto_76 at h
  refine lv_iload_n hx hb dX5_readInto_76 rfl (lv_at hl 0 rfl) ?_
  exact av_ri E hR (av_r2 h) dX5_readInto_77

set_option maxHeartbeats 4000000 in
set_option maxRecDepth 100000 in
theorem tX5_readInto_60 {p : Program} {l : Launch} {e : Env} {s : State} {m : MethodId} {args : Array Value} {below : List Frame} {meth : Method} {c : Code} {g : Gl} {zr : Int32} {zm : Mem} (E : av_E p s m args meth c cX5_readInto RX5 4 (some .int)) (X : av_X av_wc g s) {k18 : Nat → Int32 → Int32 → Mem → Option (Int32 × Mem)} (hk18 : ∀ {x1 : Nat} {x2 : Int32} {x3 : Int32} (hx1 : av_t av_wc x1 8) {μ : Mem} {H : Heap} {locs : List Loc} {ls : Array Slot}, k18 x1 x2 x3 μ = some (zr, zm) → av_R av_wc g μ s H locs → lv_has ls 4 [(0, .ref (g.2.2 9)), (1, .ref (g.2.2 x1)), (2, .int x2), (3, .int x3)] → W p l e (rmN 11) s m args below meth c H locs 0 0 (MQ below (va_Qi (fun r1 u => r1 = zr ∧ u = zm) (av_B av_wc g) (av_A av_wc g)) args s 0 0 (av_A av_wc g)) (F0 m 18 ls [])) :
    ∀ {x1 : Nat} {x2 : Int32} {x3 : Int32} {y1 : Nat} {y2 : Int32} (hx1 : av_t av_wc x1 8) (hy1 : av_t av_wc y1 8) {μ : Mem} {H : Heap} {locs : List Loc} {ls : Array Slot}, fX5_readInto_60 k18 x1 x2 x3 y1 y2 μ = some (zr, zm) → av_R av_wc g μ s H locs → lv_has ls 4 [(0, .ref (g.2.2 9)), (1, .ref (g.2.2 x1)), (2, .int x2), (3, .int x3)] → W p l e (rmN 11) s m args below meth c H locs 0 0 (MQ below (va_Qi (fun r1 u => r1 = zr ∧ u = zm) (av_B av_wc g) (av_A av_wc g)) args s 0 0 (av_A av_wc g)) (F0 m 60 ls [.int y2, .ref (g.2.2 y1), .ref (g.2.2 9)]) := by
  obtain ⟨hx, hb, hr, hml, hown, hts, hlocks⟩ := id E
  intro x1 x2 x3 y1 y2 hx1 hy1 μ H locs ls h hR hl
  unfold fX5_readInto_60 at h
  obtain ⟨μ60, eμ60, h⟩ := av_bd h
  refine av_goV hR (av_cV (As := [.ref (g.2.2 y1), .int y2]) (rest := []) E X hR hl.1 (CX5_readItem l g hy1 eμ60) kk_X5_30 (av_room (by omega) (by decide)) av_t9 (by decide) rfl rfl (Nat.le_of_ble_eq_true rfl) ⟨Nat.zero_le _, Nat.zero_le _⟩ dX5_readInto_60) (fun H locs hR => ?_)
  obtain ⟨x2_63, ex2_63, h⟩ := av_bd h
  replace ex2_63 := Option.some.inj ex2_63
  refine lv_iinc (v := x2_63) (lv' := [(2, .int x2_63), (0, .ref (g.2.2 9)), (1, .ref (g.2.2 x1)), (3, .int x3)]) hx hb dX5_readInto_63 hl (k := 2) rfl ex2_63 (by decide) rfl (fun ls hl => ?_)
  refine lv_aload_n hx hb dX5_readInto_66 rfl (lv_at hl 1 rfl) ?_
  obtain ⟨μ67, eμ67, h⟩ := av_bd h
  refine av_goV hR (av_cV (As := []) (rest := []) E X hR hl.1 (CX5_skipBlanks l g eμ67) kk_X5_34 (av_room (by omega) (by decide)) av_t9 (by decide) rfl rfl (Nat.le_of_ble_eq_true rfl) ⟨Nat.zero_le _, Nat.zero_le _⟩ dX5_readInto_67) (fun H locs hR => ?_)
  obtain ⟨x3_70, ex3_70, h⟩ := av_bd h
  replace ex3_70 := Option.some.inj ex3_70
  refine lv_iinc (v := x3_70) (lv' := [(3, .int x3_70), (2, .int x2_63), (0, .ref (g.2.2 9)), (1, .ref (g.2.2 x1))]) hx hb dX5_readInto_70 hl (k := 3) rfl ex3_70 (by decide) rfl (fun ls hl => ?_)
  refine lv_goto (tgt := 18) hx hb dX5_readInto_73 (by decide) ?_
  exact hk18 hx1 h hR (lv_sub hl [2, 3, 1, 0] rfl)

set_option maxHeartbeats 4000000 in
set_option maxRecDepth 100000 in
theorem tX5_readInto_49 {p : Program} {l : Launch} {e : Env} {s : State} {m : MethodId} {args : Array Value} {below : List Frame} {meth : Method} {c : Code} {g : Gl} {zr : Int32} {zm : Mem} (E : av_E p s m args meth c cX5_readInto RX5 4 (some .int)) (X : av_X av_wc g s) {k18 : Nat → Int32 → Int32 → Mem → Option (Int32 × Mem)} (hk18 : ∀ {x1 : Nat} {x2 : Int32} {x3 : Int32} (hx1 : av_t av_wc x1 8) {μ : Mem} {H : Heap} {locs : List Loc} {ls : Array Slot}, k18 x1 x2 x3 μ = some (zr, zm) → av_R av_wc g μ s H locs → lv_has ls 4 [(0, .ref (g.2.2 9)), (1, .ref (g.2.2 x1)), (2, .int x2), (3, .int x3)] → W p l e (rmN 11) s m args below meth c H locs 0 0 (MQ below (va_Qi (fun r1 u => r1 = zr ∧ u = zm) (av_B av_wc g) (av_A av_wc g)) args s 0 0 (av_A av_wc g)) (F0 m 18 ls [])) :
    ∀ {x1 : Nat} {x2 : Int32} {x3 : Int32} (hx1 : av_t av_wc x1 8) {μ : Mem} {H : Heap} {locs : List Loc} {ls : Array Slot}, fX5_readInto_49 k18 x1 x2 x3 μ = some (zr, zm) → av_R av_wc g μ s H locs → lv_has ls 4 [(0, .ref (g.2.2 9)), (1, .ref (g.2.2 x1)), (2, .int x2), (3, .int x3)] → W p l e (rmN 11) s m args below meth c H locs 0 0 (MQ below (va_Qi (fun r1 u => r1 = zr ∧ u = zm) (av_B av_wc g) (av_A av_wc g)) args s 0 0 (av_A av_wc g)) (F0 m 49 ls []) := by
  obtain ⟨hx, hb, hr, hml, hown, hts, hlocks⟩ := id E
  intro x1 x2 x3 hx1 μ H locs ls h hR hl
  unfold fX5_readInto_49 at h
  refine lv_aload_n hx hb dX5_readInto_49 rfl (lv_at hl 0 rfl) ?_
  refine lv_aload_n hx hb dX5_readInto_50 rfl (lv_at hl 1 rfl) ?_
  refine lv_iload_n hx hb dX5_readInto_51 rfl (lv_at hl 3 rfl) ?_
  refine lv_if_ne (tgt := 59) hx hb dX5_readInto_52 (by decide) (fun c52 => ?_) (fun c52 => ?_)
  · have h := av_if c52 h
    refine lv_iconst (v := 0) hx hb dX5_readInto_59 rfl ?_
    exact tX5_readInto_60 E X hk18 hx1 hx1 h hR (lv_sub hl [0, 1, 2, 3] rfl)
  · have h := av_it c52 h
    refine lv_iconst (v := 1) hx hb dX5_readInto_55 rfl ?_
    refine lv_goto (tgt := 60) hx hb dX5_readInto_56 (by decide) ?_
    exact tX5_readInto_60 E X hk18 hx1 hx1 h hR (lv_sub hl [0, 1, 2, 3] rfl)

set_option maxHeartbeats 4000000 in
set_option maxRecDepth 100000 in
theorem tX5_readInto_18 {p : Program} {l : Launch} {e : Env} {s : State} {m : MethodId} {args : Array Value} {below : List Frame} {meth : Method} {c : Code} {g : Gl} {zr : Int32} {zm : Mem} (E : av_E p s m args meth c cX5_readInto RX5 4 (some .int)) (X : av_X av_wc g s) :
    ∀ (n : Nat) {x1 : Nat} {x2 : Int32} {x3 : Int32} (hx1 : av_t av_wc x1 8) {μ : Mem} {H : Heap} {locs : List Loc} {ls : Array Slot}, fX5_readInto_18 n x1 x2 x3 μ = some (zr, zm) → av_R av_wc g μ s H locs → lv_has ls 4 [(0, .ref (g.2.2 9)), (1, .ref (g.2.2 x1)), (2, .int x2), (3, .int x3)] → W p l e (rmN 11) s m args below meth c H locs 0 0 (MQ below (va_Qi (fun r1 u => r1 = zr ∧ u = zm) (av_B av_wc g) (av_A av_wc g)) args s 0 0 (av_A av_wc g)) (F0 m 18 ls []) := by
  obtain ⟨hx, hb, hr, hml, hown, hts, hlocks⟩ := id E
  intro n
  induction n with
  | zero =>
    intro x1 x2 x3 hx1 μ H locs ls h hR hl
    cases h
  | succ n ih =>
    intro x1 x2 x3 hx1 μ H locs ls h hR hl
    unfold fX5_readInto_18 at h
    refine lv_iload_n hx hb dX5_readInto_18 rfl (lv_at hl 3 rfl) ?_
    refine lv_aload_n hx hb dX5_readInto_19 rfl (lv_at hl 0 rfl) ?_
    refine gf_X5_19 E X hR av_t9 dX5_readInto_20 ?_
    refine lv_icmp_gt (tgt := 76) hx hb dX5_readInto_23 (by decide) (fun c23 => ?_) (fun c23 => ?_)
    · have h := av_it c23 h
      exact tX5_readInto_76 E X h hR (lv_sub hl [2] rfl)
    · have h := av_if c23 h
      refine lv_aload_n hx hb dX5_readInto_26 rfl (lv_at hl 0 rfl) ?_
      refine gf_X5_15 E X hR av_t9 dX5_readInto_27 ?_
      refine lv_iconst (v := (-1)) hx hb dX5_readInto_30 rfl ?_
      refine lv_icmp_ne (tgt := 76) hx hb dX5_readInto_31 (by decide) (fun c31 => ?_) (fun c31 => ?_)
      · have h := av_if c31 h
        exact tX5_readInto_76 E X h hR (lv_sub hl [2] rfl)
      · have h := av_it c31 h
        refine lv_iload_n hx hb dX5_readInto_34 rfl (lv_at hl 3 rfl) ?_
        refine lv_if_eq (tgt := 49) hx hb dX5_readInto_35 (by decide) (fun c35 => ?_) (fun c35 => ?_)
        · have h := av_it c35 h
          exact tX5_readInto_49 E X ih hx1 h hR (lv_sub hl [0, 1, 2, 3] rfl)
        · have h := av_if c35 h
          refine lv_aload_n hx hb dX5_readInto_38 rfl (lv_at hl 0 rfl) ?_
          refine gf_X5_27 E X hR av_t9 dX5_readInto_39 ?_
          refine lv_aload_n hx hb dX5_readInto_42 rfl (lv_at hl 0 rfl) ?_
          refine gf_X5_19 E X hR av_t9 dX5_readInto_43 ?_
          refine lv_icmp_ge (tgt := 76) hx hb dX5_readInto_46 (by decide) (fun c46 => ?_) (fun c46 => ?_)
          · have h := av_it c46 h
            exact tX5_readInto_76 E X h hR (lv_sub hl [2] rfl)
          · have h := av_if c46 h
            exact tX5_readInto_49 E X ih hx1 h hR (lv_sub hl [0, 1, 2, 3] rfl)

set_option maxHeartbeats 4000000 in
set_option maxRecDepth 100000 in
theorem CX5_readInto (l : Launch) (g : Gl) {a1 : Nat} (ha1 : av_t av_wc a1 8) {μ : Mem} {zr : Int32} {zm : Mem} (h : fX5_readInto a1 μ = some (zr, zm)) : av_MI l yX5_readInto cX5_readInto 4 11 (some .int) av_wc g [.ref (g.2.2 9), .ref (g.2.2 a1)] μ zr zm := by
  refine av_ent (own := RX5) (by decide) (Nat.le_of_ble_eq_true rfl) rfl (fun p e s m args below meth c E X hR ls hl => ?_)
  have hl : lv_has ls 4 [(0, .ref (g.2.2 9)), (1, .ref (g.2.2 a1))] := hl
  obtain ⟨hx, hb, hr, hml, hown, hts, hlocks⟩ := id E
  unfold fX5_readInto at h
  refine lv_aload_n hx hb dX5_readInto_0 rfl (lv_at hl 1 rfl) ?_
  obtain ⟨μ1, eμ1, h⟩ := av_bd h
  refine av_goV hR (av_cV (As := []) (rest := []) E X hR hl.1 (CX8_startAnew l g ha1 eμ1) kk_X5_22 (av_room (by omega) (by decide)) ha1 (by decide) rfl rfl (Nat.le_of_ble_eq_true rfl) ⟨Nat.zero_le _, Nat.zero_le _⟩ dX5_readInto_1) (fun H locs hR => ?_)
  refine lv_aload_n hx hb dX5_readInto_4 rfl (lv_at hl 0 rfl) ?_
  refine lv_iconst (v := 0) hx hb dX5_readInto_5 rfl ?_
  obtain ⟨μ6, eμ6, h⟩ := av_bd h
  replace eμ6 := Option.some.inj eμ6
  refine pf_X5_27 E X hR av_t9 dX5_readInto_6 eμ6 (fun H locs hR => ?_)
  refine lv_aload_n hx hb dX5_readInto_9 rfl (lv_at hl 0 rfl) ?_
  refine lv_iconst (v := (-1)) hx hb dX5_readInto_10 rfl ?_
  obtain ⟨μ11, eμ11, h⟩ := av_bd h
  replace eμ11 := Option.some.inj eμ11
  refine pf_X5_15 E X hR av_t9 dX5_readInto_11 eμ11 (fun H locs hR => ?_)
  refine lv_iconst (v := 0) hx hb dX5_readInto_14 rfl ?_
  refine lv_istore_n (lv' := [(2, .int 0), (0, .ref (g.2.2 9)), (1, .ref (g.2.2 a1))]) hx hb dX5_readInto_15 rfl hl (by decide) rfl (fun ls hl => ?_)
  refine lv_iconst (v := 0) hx hb dX5_readInto_16 rfl ?_
  refine lv_istore_n (lv' := [(3, .int 0), (2, .int 0), (0, .ref (g.2.2 9)), (1, .ref (g.2.2 a1))]) hx hb dX5_readInto_17 rfl hl (by decide) rfl (fun ls hl => ?_)
  exact tX5_readInto_18 E X _ ha1 h hR (lv_sub hl [2, 3, 1, 0] rfl)
