/-! The four words of the reader: String.length and charAt, by the JDK's own bytecode -/
section
variable {p : Program} {l : Launch} {e : Env} {R : Room} {s : State} {m : MethodId} {args : Array Value} {below : List Frame} {meth : Method} {c : Code} {H : Heap} {locs : List Loc} {cells slots : Nat} {Q : State → Prop} {cc : ByteArray} {pc : Nat} {ls : Array Slot} {rest : List Value} {w : Nat × Nat} {g : Gl} {μ : Mem} {own : String} {nL : Nat} {ret : Option FieldType} {index : Nat}
theorem av_rt {ty : FieldType} (E : av_E p s m args meth c cc own nL (some ty)) (hR : av_R w g μ s H locs) {v r : Int32} {μ' : Mem} (hn : narrow ty (.int v) = .int v) (hty : ty = .byte ∨ ty = .char ∨ ty = .boolean) (hz : v = r ∧ μ = μ') (hdg : decode cc pc = .ok (.ireturn, 1)) : W p l e R s m args below meth c H locs cells slots (MQ below (va_Qi (fun r1 u => r1 = r ∧ u = μ') (av_B w g) (av_A w g)) args s cells slots (av_A w g)) (F0 m pc ls [.int v]) := by
  rcases hty with rfl | rfl | rfl <;> exact W.zret E.1 E.2.1 E.2.2.1 hn (fun t ht _ => ⟨⟨v, μ, rfl, hz, by unfold av_B; rw [ht]; exact hR.1⟩, hR.2.F ht⟩) hR.2.2.2 hdg (hlocks := E.2.2.2.2.2.2)
theorem av_cStr {y : MethodName} {cy : ByteArray} {nLy N n j : Nat} {retY : Option FieldType} {As : List Value} {Qc : Array Value → State → Outcome → State → Prop} (E : av_E p s m args meth c cc own nL ret) (X : av_X w g s) (hR : av_R w g μ s H locs) (hls : ls.size = nL) (hM : Met l y (.code y cy nLy retY :: av_gw) (rmN N) (va_Pc (.ref (g.2.2 (200 + j)) :: As) (av_Pr w g μ)) Qc 0 0 (av_A w g)) (hk : av_kV own index "java/lang/String" y cy nLy retY n) (hroom : N + 1 ≤ R.frames ∧ 8 + (nLy + 11) + 60 * N ≤ R.locals) (hj : j < 4) (hn : As.length = n) (hrm : (rest.map fun v => v.category).sum ≤ 8) (hf : cells ≤ R.cells ∧ slots ≤ R.slots) (hdg : decode cc pc = .ok (.invokevirtual index, 3)) :
    va_Run p l e R s m args below meth c H locs cells slots 0 0 (F0 m pc ls (As.reverse ++ .ref (g.2.2 (200 + j)) :: rest)) rest (Qc (Value.ref (g.2.2 (200 + j)) :: As).toArray) (av_A w g) := by
  have hts := E.2.2.2.2.2.1
  obtain ⟨k1, k2, k3, k4, k5, k6, k7, k8⟩ := hk
  obtain ⟨⟨adV, hv⟩, -⟩ := X.2.2.2
  have hrecv := vk_recv (i := j) hv hj hR.2
  exact va_runV (Ts := av_gw) (n := n) (C := "java/lang/String") ⟨E.1, E.2.1, E.2.2.2.1, E.2.2.2.2.1, hts⟩ hM ⟨callB_of n hts (av_good k5) rfl rfl rfl (hts _ k4) (hts _ k1) ⟨k6, k7, k8⟩ hroom, hts _ k2, hts _ k3⟩ ⟨av_blind, hrecv, fun U hU hW => ⟨rfl, by rw [hU]; exact hR.1, X.warm hR.2 hU hW⟩⟩ rfl hn hls rfl (lv_room hrm) hdg hf
end
theorem kJ_coder : av_kV RJ0 335 "java/lang/String" yJ0_coder_7d493 cJ0_coder_7d493 1 (some .byte) 0 := ⟨kM_J0_335, kI_J0_coder_7d493, kS_J0_J0_coder_7d493_J0_coder_7d493, kZ_J0, kC_J0_coder_7d493, by decide, by decide, by decide⟩
theorem kJ_isLatin1 : av_kV RJ0 492 "java/lang/String" yJ0_isLatin1_aae02 cJ0_isLatin1_aae02 1 (some .boolean) 0 := ⟨kM_J0_492, kI_J0_isLatin1_aae02, kS_J0_J0_isLatin1_aae02_J0_isLatin1_aae02, kZ_J0, kC_J0_isLatin1_aae02, by decide, by decide, by decide⟩
theorem CJ0_coder (l : Launch) (w : Nat × Nat) (g : Gl) {μ : Mem} {j : Nat} (hj : j < 4) : av_MI l yJ0_coder_7d493 cJ0_coder_7d493 1 1 (some .byte) w g [.ref (g.2.2 (200 + j))] μ 0 μ := by
  refine av_ent (own := RJ0) (by decide) (Nat.le_of_ble_eq_true rfl) rfl (fun p e s m args below meth c E X hR ls hl => ?_)
  have hl : lv_has ls 1 [(0, .ref (g.2.2 (200 + j)))] := hl
  obtain ⟨hx, hb, hr, hml, hown, hts, hlocks⟩ := id E
  obtain ⟨⟨adV, hv⟩, -, hZ, -⟩ := X.2.2.2
  refine va_gets hx hb hZ hR.2 hown (hts _ kF_J0_38) (fun _ h => h) dJ0_coder_7d493_0 ?_
  refine lv_if_eq (tgt := 13) hx hb dJ0_coder_7d493_3 (by decide) (fun cz => absurd cz (by decide)) (fun _ => ?_)
  refine lv_aload_n hx hb dJ0_coder_7d493_6 rfl (lv_at hl 0 rfl) ?_
  refine vk_getf hx hb (hv.1 j hj).2.1 hR.2 hown (hts _ kF_J0_15) (fun _ h => h) dJ0_coder_7d493_7 ?_
  refine lv_goto (tgt := 14) hx hb dJ0_coder_7d493_10 (by decide) ?_
  exact av_rt E hR rfl (Or.inl rfl) ⟨rfl, rfl⟩ dJ0_coder_7d493_14
theorem CJ0_isLatin1 (l : Launch) (w : Nat × Nat) (g : Gl) {μ : Mem} {j : Nat} (hj : j < 4) : av_MI l yJ0_isLatin1_aae02 cJ0_isLatin1_aae02 1 1 (some .boolean) w g [.ref (g.2.2 (200 + j))] μ 1 μ := by
  refine av_ent (own := RJ0) (by decide) (Nat.le_of_ble_eq_true rfl) rfl (fun p e s m args below meth c E X hR ls hl => ?_)
  have hl : lv_has ls 1 [(0, .ref (g.2.2 (200 + j)))] := hl
  obtain ⟨hx, hb, hr, hml, hown, hts, hlocks⟩ := id E
  obtain ⟨⟨adV, hv⟩, -, hZ, -⟩ := X.2.2.2
  refine va_gets hx hb hZ hR.2 hown (hts _ kF_J0_38) (fun _ h => h) dJ0_isLatin1_aae02_0 ?_
  refine lv_if_eq (tgt := 17) hx hb dJ0_isLatin1_aae02_3 (by decide) (fun cz => absurd cz (by decide)) (fun _ => ?_)
  refine lv_aload_n hx hb dJ0_isLatin1_aae02_6 rfl (lv_at hl 0 rfl) ?_
  refine vk_getf hx hb (hv.1 j hj).2.1 hR.2 hown (hts _ kF_J0_15) (fun _ h => h) dJ0_isLatin1_aae02_7 ?_
  refine lv_if_ne (tgt := 17) hx hb dJ0_isLatin1_aae02_10 (by decide) (fun cz => absurd rfl cz) (fun _ => ?_)
  refine lv_iconst (v := 1) hx hb dJ0_isLatin1_aae02_13 rfl ?_
  refine lv_goto (tgt := 18) hx hb dJ0_isLatin1_aae02_14 (by decide) ?_
  exact av_rt E hR rfl (Or.inr (Or.inr rfl)) ⟨rfl, rfl⟩ dJ0_isLatin1_aae02_18
theorem CJ0_length (l : Launch) (w : Nat × Nat) (g : Gl) {μ : Mem} {j : Nat} (hj : j < 4) : av_MI l yJ0_length_8abf5 cJ0_length_8abf5 1 2 (some .int) w g [.ref (g.2.2 (200 + j))] μ (nI (av_lenS.getD j 0)) μ := by
  refine av_ent (own := RJ0) (by decide) (Nat.le_of_ble_eq_true rfl) rfl (fun p e s m args below meth c E X hR ls hl => ?_)
  have hl : lv_has ls 1 [(0, .ref (g.2.2 (200 + j)))] := hl
  obtain ⟨hx, hb, hr, hml, hown, hts, hlocks⟩ := id E
  obtain ⟨⟨adV, hv⟩, -, hZ, -⟩ := id X.2.2.2
  refine lv_aload_n hx hb dJ0_length_8abf5_0 rfl (lv_at hl 0 rfl) ?_
  refine vk_getf hx hb (hv.1 j hj).2.2.1 hR.2 hown (hts _ kF_J0_9) (fun _ h => h) dJ0_length_8abf5_1 ?_
  refine va_tlen (v := nI (av_lenS.getD j 0)) hx hb (hv.1 j hj).2.2.2 hR.2 rfl dJ0_length_8abf5_4 ?_
  refine lv_aload_n hx hb dJ0_length_8abf5_5 rfl (lv_at hl 0 rfl) ?_
  refine av_goI hR (av_cStr (As := []) (rest := [.int (nI (av_lenS.getD j 0))]) E X hR hl.1 (CJ0_coder l w g hj) kJ_coder (av_room (by omega) (by decide)) hj rfl (Nat.le_of_ble_eq_true rfl) ⟨Nat.zero_le _, Nat.zero_le _⟩ dJ0_length_8abf5_6) (fun H locs hR => ?_)
  refine lv_ishr hx hb dJ0_length_8abf5_9 ?_
  refine av_ri E hR ⟨?_, rfl⟩ dJ0_length_8abf5_10
  exact sb_shr0 _
/-- Preconditions.checkIndex with an index in its range -/
theorem CJ3_checkIndex (l : Launch) (w : Nat × Nat) (g : Gl) {μ : Mem} {i n : Int32} {f : Value} (hf : f = .null ∨ ∃ t, f = .ref t) (h0 : ¬ i < 0) (h1 : i < n) : av_MI l yJ3_checkIndex_8e157 cJ3_checkIndex_8e157 3 1 (some .int) w g [.int i, .int n, f] μ i μ := by
  have hlen : (lg_sl [.int i, .int n, f]).length ≤ 3 := by rcases hf with rfl | ⟨t, rfl⟩ <;> exact Nat.le_of_ble_eq_true rfl
  refine av_ent (own := RJ3) (by decide) hlen rfl (fun p e s m args below meth c E X hR ls hl => ?_)
  have hl : lv_has ls 3 [(0, .int i), (1, .int n)] := by rcases hf with rfl | ⟨t, rfl⟩ <;> exact lv_sub hl [0, 1] rfl
  obtain ⟨hx, hb, hr, hml, hown, hts, hlocks⟩ := id E
  refine lv_iload_n hx hb dJ3_checkIndex_8e157_0 rfl (lv_at hl 0 rfl) ?_
  refine lv_if_lt (tgt := 9) hx hb dJ3_checkIndex_8e157_1 (by decide) (fun cz => absurd cz h0) (fun _ => ?_)
  refine lv_iload_n hx hb dJ3_checkIndex_8e157_4 rfl (lv_at hl 0 rfl) ?_
  refine lv_iload_n hx hb dJ3_checkIndex_8e157_5 rfl (lv_at hl 1 rfl) ?_
  refine lv_icmp_lt (tgt := 16) hx hb dJ3_checkIndex_8e157_6 (by decide) (fun _ => ?_) (fun cz => absurd h1 cz)
  refine lv_iload_n hx hb dJ3_checkIndex_8e157_16 rfl (lv_at hl 0 rfl) ?_
  exact av_ri E hR ⟨rfl, rfl⟩ dJ3_checkIndex_8e157_17
theorem kJ_ck3 : av_kS RJ0 1059 yJ3_checkIndex_8e157 cJ3_checkIndex_8e157 3 (some .int) 3 := ⟨kM_J0_1059, kT_J3_checkIndex_8e157, kZ_J3, kC_J3_checkIndex_8e157, by decide, by decide, by decide⟩
theorem kJ_ck0 : av_kS RJ1 9 yJ0_checkIndex_df160 cJ0_checkIndex_df160 2 none 2 := ⟨kM_J1_9, kT_J0_checkIndex_df160, kZ_J0, kC_J0_checkIndex_df160, by decide, by decide, by decide⟩
theorem CJ0_checkIndex (l : Launch) (w : Nat × Nat) (g : Gl) {μ : Mem} {i n : Int32} (h0 : ¬ i < 0) (h1 : i < n) : av_MV l yJ0_checkIndex_df160 cJ0_checkIndex_df160 2 2 none w g [.int i, .int n] μ μ := by
  refine av_ent (own := RJ0) (by decide) (Nat.le_of_ble_eq_true rfl) rfl (fun p e s m args below meth c E X hR ls hl => ?_)
  have hl : lv_has ls 2 [(0, .int i), (1, .int n)] := hl
  obtain ⟨hx, hb, hr, hml, hown, hts, hlocks⟩ := id E
  obtain ⟨-, -, -, hZq⟩ := id X.2.2.2
  refine lv_iload_n hx hb dJ0_checkIndex_df160_0 rfl (lv_at hl 0 rfl) ?_
  refine lv_iload_n hx hb dJ0_checkIndex_df160_1 rfl (lv_at hl 1 rfl) ?_
  obtain ⟨f, hf, hZ⟩ : ∃ f : Value, (f = .null ∨ ∃ t, f = .ref t) ∧ va_Z "jdk/internal/util/Preconditions" "SIOOBE_FORMATTER" "Ljava/util/function/BiFunction;" f (av_A w g) s s.heap := by
    rcases hZq with h | ⟨t, h⟩
    · exact ⟨_, Or.inl rfl, h⟩
    · exact ⟨_, Or.inr ⟨t, rfl⟩, h⟩
  refine va_gets hx hb hZ hR.2 hown (hts _ kF_J0_1053) (fun _ h => h) dJ0_checkIndex_df160_2 ?_
  refine av_goI hR (av_cS (As := [.int i, .int n, f]) (rest := []) E X hR hl.1 (CJ3_checkIndex l w g hf h0 h1) kJ_ck3 (av_room (by omega) (by decide)) rfl (Nat.le_of_ble_eq_true rfl) ⟨Nat.zero_le _, Nat.zero_le _⟩ dJ0_checkIndex_df160_5) (fun H locs hR => ?_)
  refine lv_pop hx hb dJ0_checkIndex_df160_8 rfl ?_
  exact av_rv E hR rfl dJ0_checkIndex_df160_9
/-- StringLatin1.charAt: of a word's bytes -/
theorem CJ1_charAt (l : Launch) (w : Nat × Nat) (g : Gl) {μ : Mem} {t N : Nat} {f : Nat → Int32} {i : Int32} (hin : vp_in i N) (hN : N < 2 ^ 31) {r : Int32} (hr : ((f i.toNatClampNeg &&& 255).toUInt32 % 65536).toInt32 = r) :
    Met l yJ1_charAt_3b067 (.code yJ1_charAt_3b067 cJ1_charAt_3b067 2 (some .char) :: av_gw) (rmN 3) (va_Pc [.ref t, .int i] (fun U => av_Pr w g μ U ∧ va_T .byte t N (fun j => .int (f j)) (av_A w g) U U.heap)) (va_Qi (fun r1 u => r1 = r ∧ u = μ) (av_B w g) (av_A w g)) 0 0 (av_A w g) := by
  refine Met.ofW (cc := cJ1_charAt_3b067) (maxL := 2) (ret := some .char) (by decide) rfl ?_
  intro p e s m args below meth c s₁ B hml hv
  obtain ⟨rfl, ⟨hP, X⟩, hT⟩ := hv
  have hl := lv_entry [.ref t, .int i] (n := 2) (Nat.le_of_ble_eq_true rfl)
  have hts0 := atoms_spec (ws := .code yJ1_charAt_3b067 cJ1_charAt_3b067 2 (some .char) :: av_gw) B.pre
  rw [lg_entry_eq]
  have E : av_E p s m ([.ref t, .int i] : List Value).toArray meth c cJ1_charAt_3b067 RJ1 2 (some .char) := ⟨B.exec, B.bytes, B.returns, hml, findClass_of_methodNamed B.named, fun x hx => hts0 x (List.mem_cons_of_mem _ hx), B.notSynchronized⟩
  have hR : av_R w g μ s s.heap [] := ⟨hP, va_S.rf⟩
  generalize (lg_sl ([.ref t, .int i]) ++ List.replicate (2 - (lg_sl ([.ref t, .int i])).length) Slot.unset).toArray = ls at hl ⊢
  have hl : lv_has ls 2 [(0, .ref t), (1, .int i)] := hl
  obtain ⟨hx, hb, hr2, hml2, hown, hts, hlocks⟩ := id E
  obtain ⟨h0, h1⟩ := vp_in_iff.mp hin
  refine lv_iload_n hx hb dJ1_charAt_3b067_0 rfl (lv_at hl 1 rfl) ?_
  refine lv_aload_n hx hb dJ1_charAt_3b067_1 rfl (lv_at hl 0 rfl) ?_
  refine va_tlen (v := nI N) hx hb hT hR.2 rfl dJ1_charAt_3b067_2 ?_
  refine av_goV hR (av_cS (As := [.int i, .int (nI N)]) (rest := []) E X hR hl.1 (CJ0_checkIndex l w g (by rw [Int32.lt_iff_toInt_lt]; show ¬ i.toInt < 0; omega) (by rw [Int32.lt_iff_toInt_lt, nI_toInt hN]; exact h1)) kJ_ck0 (av_room (by omega) (by decide)) rfl (Nat.le_of_ble_eq_true rfl) ⟨Nat.zero_le _, Nat.zero_le _⟩ dJ1_charAt_3b067_3) (fun H locs hR => ?_)
  refine lv_aload_n hx hb dJ1_charAt_3b067_6 rfl (lv_at hl 0 rfl) ?_
  refine lv_iload_n hx hb dJ1_charAt_3b067_7 rfl (lv_at hl 1 rfl) ?_
  refine va_tb (v := .int (f i.toNatClampNeg)) hx hb hT hR.2 hin rfl dJ1_charAt_3b067_8 ?_
  refine lv_sipush (v := 255) hx hb dJ1_charAt_3b067_9 rfl ?_
  refine lv_iand hx hb dJ1_charAt_3b067_12 ?_
  refine lv_i2c hx hb dJ1_charAt_3b067_13 hr ?_
  exact av_rt E hR (by rw [← hr]; exact pk_nc _) (Or.inr (Or.inl rfl)) ⟨rfl, rfl⟩ dJ1_charAt_3b067_14
theorem kJ_ca1 : av_kS RJ0 495 yJ1_charAt_3b067 cJ1_charAt_3b067 2 (some .char) 2 := ⟨kM_J0_495, kT_J1_charAt_3b067, kZ_J1, kC_J1_charAt_3b067, by decide, by decide, by decide⟩
theorem av_byt {j k : Nat} (hj : j < 4) (hk : k < av_lenS.getD j 0) : ((((av_bytS.getD j []).getD k 0) &&& 255).toUInt32 % 65536).toInt32 = (av_bytS.getD j []).getD k 0 := by
  have h8 : ∀ j, j < 4 → av_lenS.getD j 0 ≤ 8 := by decide
  have hd : ∀ j, j < 4 → ∀ k, k < 8 → ((((av_bytS.getD j []).getD k 0) &&& 255).toUInt32 % 65536).toInt32 = (av_bytS.getD j []).getD k 0 := by decide +kernel
  exact hd j hj k (Nat.lt_of_lt_of_le hk (h8 j hj))
theorem CJ0_charAt (l : Launch) (w : Nat × Nat) (g : Gl) {μ : Mem} {j : Nat} {i r : Int32} (hj : j < 4) (h : av_sc j i = some r) : av_MI l yJ0_charAt_5068e cJ0_charAt_5068e 2 4 (some .char) w g [.ref (g.2.2 (200 + j)), .int i] μ r μ := by
  unfold av_sc at h
  split at h
  · cases h
  rename_i hin
  cases h
  have hin : vp_in i (av_lenS.getD j 0) := hin
  have h8 : ∀ j, j < 4 → av_lenS.getD j 0 ≤ 8 := by decide
  have hk : i.toNatClampNeg < av_lenS.getD j 0 := Nat.not_le.mp fun q => hin (Or.inr q)
  refine av_ent (own := RJ0) (by decide) (Nat.le_of_ble_eq_true rfl) rfl (fun p e s m args below meth c E X hR ls hl => ?_)
  have hl : lv_has ls 2 [(0, .ref (g.2.2 (200 + j))), (1, .int i)] := hl
  obtain ⟨hx, hb, hr, hml, hown, hts, hlocks⟩ := id E
  obtain ⟨⟨adV, hv⟩, -, hZ, -⟩ := id X.2.2.2
  refine lv_aload_n hx hb dJ0_charAt_5068e_0 rfl (lv_at hl 0 rfl) ?_
  refine av_goI hR (av_cStr (As := []) (rest := []) E X hR hl.1 (CJ0_isLatin1 l w g hj) kJ_isLatin1 (av_room (by omega) (by decide)) hj rfl (Nat.le_of_ble_eq_true rfl) ⟨Nat.zero_le _, Nat.zero_le _⟩ dJ0_charAt_5068e_1) (fun H locs hR => ?_)
  refine lv_if_eq (tgt := 16) hx hb dJ0_charAt_5068e_4 (by decide) (fun cz => absurd cz (by decide)) (fun _ => ?_)
  refine lv_aload_n hx hb dJ0_charAt_5068e_7 rfl (lv_at hl 0 rfl) ?_
  refine vk_getf hx hb (hv.1 j hj).2.2.1 hR.2 hown (hts _ kF_J0_9) (fun _ h => h) dJ0_charAt_5068e_8 ?_
  refine lv_iload_n hx hb dJ0_charAt_5068e_11 rfl (lv_at hl 1 rfl) ?_
  have hM := CJ1_charAt l w g (μ := μ) (t := adV j) (N := av_lenS.getD j 0) (f := fun k => (av_bytS.getD j []).getD k 0) hin (by have := h8 j hj; omega) (av_byt hj hk)
  obtain ⟨k1, k2, k4, k5, k6, k7, k8⟩ := kJ_ca1
  have hbl : FrameBlind (va_Pc [.ref (adV j), .int i] (fun U => av_Pr w g μ U ∧ va_T .byte (adV j) (av_lenS.getD j 0) (fun k => .int ((av_bytS.getD j []).getD k 0)) (av_A w g) U U.heap)) := fun a U gg mk hh => ⟨hh.1, (av_blind (vs := [.ref (adV j), .int i]) a U gg mk ⟨hh.1, hh.2.1⟩).2, va_T.moved (u := U) (U := U.calling gg mk a) (Vm.Alike.refl U.vm) hh.2.2⟩
  have hrun := va_runS (Ts := av_gw) (n := 2) (g := F0 m 12 ls [.int i, .ref (adV j)]) (rest := []) (As := [.ref (adV j), .int i]) (cells := 0) (slots := 0) (R := rmN 4) (e := e) (below := below) (meth := meth) (locs := locs) ⟨hx, hb, hml, hown, hts⟩ hM ⟨callB_of 2 hts (av_good k5) rfl rfl rfl (hts _ k4) (hts _ k1) ⟨k6, k7, k8⟩ (av_room (N := 3) (M := 4) (by omega) (by decide)), hts _ k2⟩ ⟨hbl, fun U hU hW => ⟨rfl, ⟨by rw [hU]; exact hR.1, X.warm hR.2 hU hW⟩, by rw [hU]; exact ((hv.1 j hj).2.2.2.kept hR.2.2.1).moved hW.alike⟩⟩ rfl rfl hl.1 rfl (lv_room (Nat.le_of_ble_eq_true rfl)) dJ0_charAt_5068e_12 ⟨Nat.zero_le _, Nat.zero_le _⟩
  refine av_goI hR hrun (fun H locs hR => ?_)
  exact av_rt E hR (by rw [← av_byt hj hk]; exact pk_nc _) (Or.inr (Or.inl rfl)) ⟨rfl, rfl⟩ dJ0_charAt_5068e_15
section
variable {p : Program} {l : Launch} {e : Env} {R : Room} {s : State} {m : MethodId} {args : Array Value} {below : List Frame} {meth : Method} {c : Code} {H : Heap} {locs : List Loc} {Q : State → Prop} {cc : ByteArray} {pc : Nat} {ls : Array Slot} {rest : List Value} {w : Nat × Nat} {g : Gl} {μ : Mem} {nL : Nat} {ret : Option FieldType} {index : Nat}
theorem av_strlen (E : av_E p s m args meth c cc RX5 nL ret) (X : av_X w g s) (hR : av_R w g μ s H locs) (hls : ls.size = nL) {j : Nat} {r : Int32} (hj : j < 4) (h : av_sl j = some r) (hk : Cond.methodLink RX5 index yJ0_length_8abf5 ∈ av_gw) (ho : RX5 = RX5) (hroom : 8 + 1 ≤ R.frames ∧ 8 + (1 + 11) + 60 * 8 ≤ R.locals) (hrm : (rest.map fun v => v.category).sum ≤ 8) (hdg : decode cc pc = .ok (.invokevirtual index, 3)) (kk : ∀ (H : Heap) (locs : List Loc), av_R w g μ s H locs → W p l e R s m args below meth c H locs 0 0 Q (F0 m (pc + 3) ls (.int r :: rest))) : W p l e R s m args below meth c H locs 0 0 Q (F0 m pc ls (.ref (g.2.2 (200 + j)) :: rest)) := by
  cases h
  exact av_goI hR (av_cStr (As := []) (rest := rest) E X hR hls (CJ0_length l w g hj) ⟨hk, kI_J0_length_8abf5, kS_J0_J0_length_8abf5_J0_length_8abf5, kZ_J0, kC_J0_length_8abf5, by decide, by decide, by decide⟩ ⟨by omega, by omega⟩ hj rfl hrm ⟨Nat.zero_le _, Nat.zero_le _⟩ hdg) kk
theorem av_strchar (E : av_E p s m args meth c cc RX5 nL ret) (X : av_X w g s) (hR : av_R w g μ s H locs) (hls : ls.size = nL) {j : Nat} {i r : Int32} (hj : j < 4) (h : av_sc j i = some r) (hk : Cond.methodLink RX5 index yJ0_charAt_5068e ∈ av_gw) (ho : RX5 = RX5) (hroom : 8 + 1 ≤ R.frames ∧ 8 + (2 + 11) + 60 * 8 ≤ R.locals) (hrm : (rest.map fun v => v.category).sum ≤ 8) (hdg : decode cc pc = .ok (.invokevirtual index, 3)) (kk : ∀ (H : Heap) (locs : List Loc), av_R w g μ s H locs → W p l e R s m args below meth c H locs 0 0 Q (F0 m (pc + 3) ls (.int r :: rest))) : W p l e R s m args below meth c H locs 0 0 Q (F0 m pc ls (.int i :: .ref (g.2.2 (200 + j)) :: rest)) := by
  exact av_goI hR (av_cStr (n := 1) (As := [.int i]) (rest := rest) E X hR hls (CJ0_charAt l w g hj h) ⟨hk, kI_J0_charAt_5068e, kS_J0_J0_charAt_5068e_J0_charAt_5068e, kZ_J0, kC_J0_charAt_5068e, by decide, by decide, by decide⟩ ⟨by omega, by omega⟩ hj rfl hrm ⟨Nat.zero_le _, Nat.zero_le _⟩ hdg) kk
end
