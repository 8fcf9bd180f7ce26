set_option maxHeartbeats 4000000 in
set_option maxRecDepth 100000 in
theorem tX11_digest_6 {p : Program} {l : Launch} {e : Env} {s : State} {m : MethodId} {args : Array Value} {below : List Frame} {meth : Method} {c : Code} {g : Gl} {zr : Int64} {μ0 : Mem} (E : av_E p s m args meth c cX11_digest RX11 4 (some .long)) (X : av_X av_wc g s) :
    ∀ (n : Nat) {x1 : Int64} {x3 : Int32} {μ : Mem} {H : Heap} {locs : List Loc} {ls : Array Slot} (hμ : μ0 = μ), fX11_digest_6 n x1 x3 μ = some zr → av_R av_wc g μ s H locs → lv_has ls 4 [(0, .ref (g.2.2 0)), (1, .long x1), (3, .int x3)] → W p l e (rmN 4) s m args below meth c H locs 0 0 (MQ below (va_Ql (fun r1 u => r1 = zr ∧ u = μ0) (av_B av_wc g) (av_A av_wc g)) args s 0 0 (av_A av_wc g)) (F0 m 6 ls []) := by
  obtain ⟨hx, hb, hr, hml, hown, hts, hlocks⟩ := id E
  intro n
  induction n with
  | zero =>
    intro x1 x3 μ H locs ls hμ h hR hl
    cases h
  | succ n ih =>
    intro x1 x3 μ H locs ls hμ h hR hl
    unfold fX11_digest_6 at h
    refine lv_iload_n hx hb dX11_digest_6 rfl (lv_at hl 2 rfl) ?_
    refine lv_bipush (v := 6) hx hb dX11_digest_7 rfl ?_
    refine lv_icmp_gt (tgt := 31) hx hb dX11_digest_9 (by decide) (fun c9 => ?_) (fun c9 => ?_)
    · have h := av_it c9 h
      refine lv_aload_n hx hb dX11_digest_31 rfl (lv_at hl 0 rfl) ?_
      refine gf_X11_32 E X hR av_t0 dX11_digest_32 av_r0_0 ?_
      refine lv_lload_n hx hb dX11_digest_35 rfl (lv_at hl 1 rfl) ?_
      obtain ⟨r36, er36, h⟩ := av_bd h
      refine av_goL hR (av_cV (As := [.long x1]) (rest := []) E X hR hl.1 (CX8_digestFrom l g av_t14 er36) kk_X11_274 (av_room (by omega) (by decide)) av_t14 (by decide) rfl rfl (Nat.le_of_ble_eq_true rfl) ⟨Nat.zero_le _, Nat.zero_le _⟩ dX11_digest_36) (fun H locs hR => ?_)
      refine lv_lstore_n (lv' := [(1, .long r36), (0, .ref (g.2.2 0)), (3, .int x3)]) hx hb dX11_digest_39 rfl hl (by decide) rfl (fun ls hl => ?_)
      refine lv_ldc2 (v := 31) hx hb hown (hts _ kL_X11_272) dX11_digest_40 ?_
      refine lv_lload_n hx hb dX11_digest_43 rfl (lv_at hl 0 rfl) ?_
      refine lv_lmul hx hb dX11_digest_44 ?_
      refine lv_aload_n hx hb dX11_digest_45 rfl (lv_at hl 1 rfl) ?_
      refine gf_X11_244 E X hR av_t0 dX11_digest_46 ?_
      refine lv_ladd hx hb dX11_digest_49 ?_
      obtain ⟨x1_50, ex1_50, h⟩ := av_bd h
      replace ex1_50 := Option.some.inj ex1_50
      rw [ex1_50]
      refine lv_lstore_n (lv' := [(1, .long x1_50), (0, .ref (g.2.2 0)), (3, .int x3)]) hx hb dX11_digest_50 rfl hl (by decide) rfl (fun ls hl => ?_)
      refine lv_ldc2 (v := 31) hx hb hown (hts _ kL_X11_272) dX11_digest_51 ?_
      refine lv_lload_n hx hb dX11_digest_54 rfl (lv_at hl 0 rfl) ?_
      refine lv_lmul hx hb dX11_digest_55 ?_
      refine lv_aload_n hx hb dX11_digest_56 rfl (lv_at hl 1 rfl) ?_
      refine gf_X11_59 E X hR av_t0 dX11_digest_57 ?_
      refine lv_ladd hx hb dX11_digest_60 ?_
      exact av_rl E hR ⟨Option.some.inj h, hμ.symm⟩ dX11_digest_61
    · have h := av_if c9 h
      refine lv_ldc2 (v := 31) hx hb hown (hts _ kL_X11_272) dX11_digest_12 ?_
      refine lv_lload_n hx hb dX11_digest_15 rfl (lv_at hl 1 rfl) ?_
      refine lv_lmul hx hb dX11_digest_16 ?_
      refine lv_aload_n hx hb dX11_digest_17 rfl (lv_at hl 0 rfl) ?_
      refine lv_iload_n hx hb dX11_digest_18 rfl (lv_at hl 2 rfl) ?_
      obtain ⟨r19, er19, h⟩ := av_bd h
      refine av_goI hR (av_cV (As := [.int x3]) (rest := [.long (31 * x1)]) E X hR hl.1 (CX11_howMany l g er19) kk_X11_267 (av_room (by omega) (by decide)) av_t0 (by decide) rfl rfl (Nat.le_of_ble_eq_true rfl) ⟨Nat.zero_le _, Nat.zero_le _⟩ dX11_digest_19) (fun H locs hR => ?_)
      refine lv_i2l hx hb dX11_digest_22 rfl ?_
      refine lv_ladd hx hb dX11_digest_23 ?_
      obtain ⟨x1_24, ex1_24, h⟩ := av_bd h
      replace ex1_24 := Option.some.inj ex1_24
      rw [ex1_24]
      refine lv_lstore_n (lv' := [(1, .long x1_24), (0, .ref (g.2.2 0)), (3, .int x3)]) hx hb dX11_digest_24 rfl hl (by decide) rfl (fun ls hl => ?_)
      obtain ⟨x3_25, ex3_25, h⟩ := av_bd h
      replace ex3_25 := Option.some.inj ex3_25
      refine lv_iinc (v := x3_25) (lv' := [(3, .int x3_25), (1, .long x1_24), (0, .ref (g.2.2 0))]) hx hb dX11_digest_25 hl (k := 2) rfl ex3_25 (by decide) rfl (fun ls hl => ?_)
      refine lv_goto (tgt := 6) hx hb dX11_digest_28 (by decide) ?_
      exact ih hμ h hR (lv_sub hl [2, 1, 0] rfl)

set_option maxHeartbeats 4000000 in
set_option maxRecDepth 100000 in
theorem CX11_digest (l : Launch) (g : Gl) {μ : Mem} {zr : Int64} (h : fX11_digest μ = some zr) : av_ML l yX11_digest cX11_digest 4 4 (some .long) av_wc g [.ref (g.2.2 0)] μ zr μ := by
  refine av_ent (own := RX11) (by decide) (Nat.le_of_ble_eq_true rfl) rfl (fun p e s m args below meth c E X hR ls hl => ?_)
  have hl : lv_has ls 4 [(0, .ref (g.2.2 0))] := hl
  obtain ⟨hx, hb, hr, hml, hown, hts, hlocks⟩ := id E
  have hμ : μ = μ := rfl
  unfold fX11_digest at h
  refine lv_ldc2 (v := 1151) hx hb hown (hts _ kL_X11_270) dX11_digest_0 ?_
  refine lv_lstore_n (lv' := [(1, .long 1151), (0, .ref (g.2.2 0))]) hx hb dX11_digest_3 rfl hl (by decide) rfl (fun ls hl => ?_)
  refine lv_iconst (v := 0) hx hb dX11_digest_4 rfl ?_
  refine lv_istore_n (lv' := [(3, .int 0), (1, .long 1151), (0, .ref (g.2.2 0))]) hx hb dX11_digest_5 rfl hl (by decide) rfl (fun ls hl => ?_)
  exact tX11_digest_6 E X _ hμ h hR (lv_sub hl [2, 1, 0] rfl)
