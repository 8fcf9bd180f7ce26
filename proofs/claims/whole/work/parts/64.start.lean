/-! The law's entry: what the Statement gives, the two constructors, the loop. -/
def lw_tm (i : Nat) : Term := Term.string "AvalancheVote$Reader" (([40, 49, 54, 56] : List Nat).getD i 0)
theorem lw_strs {args : Array Value} {s : State} {A : Nat → Prop} (h : (Jvm.Cond.and given_1 narrow_1).before args s = true) (hA : ∀ a : Nat, a < s.heap.size → ¬ A a) : ∃ adK adV : Nat → Nat, vk_S 4 av_lenS av_bytS adK adV A s s.heap ∧ ∀ i : Nat, i < 4 → (lw_tm i).eval args s none [] s = some (.ref (adK i)) := by
  have hs := flat_of_before _ h
  have m1 : ∀ i, i < 4 → (Cond.exactly (lw_tm i) "java/lang/String") ∈ flatC (Jvm.Cond.and given_1 narrow_1) := by decide +kernel
  have m2 : ∀ i, i < 4 → (Cond.eq (.field (lw_tm i) "java/lang/String" "coder" "B") (.int 0)) ∈ flatC (Jvm.Cond.and given_1 narrow_1) := by decide +kernel
  have m3 : ∀ i, i < 4 → (Cond.arrayOf (.field (lw_tm i) "java/lang/String" "value" "[B") .byte) ∈ flatC (Jvm.Cond.and given_1 narrow_1) := by decide +kernel
  have m4 : ∀ i, i < 4 → (Cond.eq (.length (.field (lw_tm i) "java/lang/String" "value" "[B")) (.int (Int32.ofNat (av_lenS.getD i 0)))) ∈ flatC (Jvm.Cond.and given_1 narrow_1) := by decide +kernel
  have m5 : ∀ i, i < 4 → ∀ j, j < av_lenS.getD i 0 → (Cond.eq (.elem (.field (lw_tm i) "java/lang/String" "value" "[B") (.int (Int32.ofNat j))) (.int ((av_bytS.getD i []).getD j 0))) ∈ flatC (Jvm.Cond.and given_1 narrow_1) := by decide +kernel
  have m6 : ∀ i, i < 4 → ∀ j, j < 4 → i ≠ j → ((Cond.not (Cond.eq (lw_tm i) (lw_tm j))) ∈ flatC (Jvm.Cond.and given_1 narrow_1) ∨ (Cond.not (Cond.eq (lw_tm j) (lw_tm i))) ∈ flatC (Jvm.Cond.and given_1 narrow_1)) := by decide +kernel
  refine vk_Sof (tm := lw_tm) (by decide) (fun i hi => hs _ (m1 i hi)) (fun i hi => hs _ (m2 i hi)) (fun i hi => hs _ (m3 i hi)) (fun i hi => hs _ (m4 i hi)) (fun i hi j hj => hs _ (m5 i hi j hj)) (fun i j hi hj hij => ?_) hA
  rcases m6 i hi j hj hij with h | h
  · exact Or.inl (hs _ h)
  · exact Or.inr (hs _ h)
theorem lw_K {args : Array Value} {s : State} (hts : ∀ w ∈ lw_tbl, w.before args s = true) : ∃ (D : va_G) (ca : Nat → ClassId), ∀ a0 : Nat → Nat, va_K D vwCl (av_ty (D, ca, a0)) s := by
  have hgw : ∀ x ∈ av_gw, x.before args s = true := fun x hx => hts x (List.mem_filter.mp hx).1
  have h0 : ∀ c : Nat, ∃ x : ClassId × (Nat → Nat), ∀ q : vw_C, vwCl[c]? = some q → u_Kn s q.1 q.2.1 q.2.2 x.1 x.2 := by
    intro c
    rcases Nat.lt_or_ge c 13 with hc | hc
    · have hin : ∀ c, c < 13 → ∀ q : vw_C, vwCl[c]? = some q → (∃ n, Cond.instantiable q.1 n ∈ av_gw) ∧ ∀ w ∈ u_ws q.1 q.2.1 q.2.2, w ∈ av_gw := by
        intro c hc q hq
        rcases (show c = 0 ∨ c = 1 ∨ c = 2 ∨ c = 3 ∨ c = 4 ∨ c = 5 ∨ c = 6 ∨ c = 7 ∨ c = 8 ∨ c = 9 ∨ c = 10 ∨ c = 11 ∨ c = 12 by omega) with rfl | rfl | rfl | rfl | rfl | rfl | rfl | rfl | rfl | rfl | rfl | rfl | rfl <;> cases hq
        · exact ⟨⟨_, kO_X0⟩, kW_X0⟩
        · exact ⟨⟨_, kO_X1⟩, kW_X1⟩
        · exact ⟨⟨_, kO_X2⟩, kW_X2⟩
        · exact ⟨⟨_, kO_X3⟩, kW_X3⟩
        · exact ⟨⟨_, kO_X4⟩, kW_X4⟩
        · exact ⟨⟨_, kO_X5⟩, kW_X5⟩
        · exact ⟨⟨_, kO_X6⟩, kW_X6⟩
        · exact ⟨⟨_, kO_X7⟩, kW_X7⟩
        · exact ⟨⟨_, kO_X8⟩, kW_X8⟩
        · exact ⟨⟨_, kO_X9⟩, kW_X9⟩
        · exact ⟨⟨_, kO_X10⟩, kW_X10⟩
        · exact ⟨⟨_, kO_X11⟩, kW_X11⟩
        · exact ⟨⟨_, kO_X12⟩, kW_X12⟩
      obtain ⟨q, hq⟩ : ∃ q, vwCl[c]? = some q := ⟨_, List.getElem?_eq_getElem (by simpa [vwCl] using hc)⟩
      obtain ⟨⟨n, hi⟩, hw⟩ := hin c hc q hq
      obtain ⟨cC, iS, hk⟩ := u_known hgw hw (hgw _ hi)
      refine ⟨(cC, iS), fun q' hq' => ?_⟩
      cases hq.symm.trans hq'
      exact hk
    · exact ⟨(0, fun _ => 0), fun q hq => absurd (List.getElem?_eq_some_iff.mp hq).1 (by simp [vwCl]; omega)⟩
  obtain ⟨f, hf⟩ := Classical.axiomOfChoice h0
  have ar : ∀ ty : FieldType, Cond.arrayClass ty ∈ lw_tbl → (∀ c : ClassId, s.vm.findClass ("[" ++ ty.toString) = some c → va_RA s c ty) → ∃ c : ClassId, ArrOfT s c ty ∧ va_RA s c ty := by
    intro ty hm hra
    obtain ⟨c, k, comp, h1, h2, h3⟩ := Cond.arrayClass_spec (hts _ hm)
    exact ⟨c, fun n z => ⟨fun k h => (by cases h), k, h2, comp, h3⟩, hra c h1⟩
  have ao : ∀ C : String, Cond.arrayOver (.object C) ∈ lw_tbl → ∃ c : ClassId, ArrOfT s c (.object C) ∧ va_RA s c (.object C) := by
    intro C hm
    obtain ⟨comp, c, k, h1, h2, h3, h4, h5⟩ := Cond.arrayOver_spec (hts _ hm)
    exact ⟨c, fun n z => ⟨fun k h => (by cases h), k, h3, comp, h4⟩, k, comp, h3, h4, h1, h5⟩
  obtain ⟨c13, a13⟩ := ar .int (by decide +kernel) (fun c h => h)
  obtain ⟨c14, a14⟩ := ar .byte (by decide +kernel) (fun c h => h)
  obtain ⟨c15, a15⟩ := ar .boolean (by decide +kernel) (fun c h => h)
  obtain ⟨c16, a16⟩ := ao "AvalancheVote$Plain" (by decide +kernel)
  obtain ⟨c17, a17⟩ := ao "AvalancheVote$State" (by decide +kernel)
  obtain ⟨c18, a18⟩ := ao "AvalancheVote$Slope" (by decide +kernel)
  refine ⟨(fun c => (f c).1, fun c => (f c).2), fun t => match t with | 13 => c13 | 14 => c14 | 15 => c15 | 16 => c16 | 17 => c17 | _ => c18, fun a0 => ⟨fun c q hq => hf c q hq, fun k q hq => ?_⟩⟩
  have hk : k < 6 := (List.getElem?_eq_some_iff.mp hq).1
  rcases (show k = 0 ∨ k = 1 ∨ k = 2 ∨ k = 3 ∨ k = 4 ∨ k = 5 by omega) with rfl | rfl | rfl | rfl | rfl | rfl <;> cases hq
  · exact a13
  · exact a14
  · exact a15
  · exact a16
  · exact a17
  · exact a18
theorem lw_N {args : Array Value} {s : State} (hts : ∀ w ∈ lw_tbl, w.before args s = true) : av_N s := by
  intro x hx
  obtain ⟨h1, h2⟩ := List.mem_filter.mp hx
  refine va_Nw.of ?_ (hts x h1)
  cases x <;> simp only [av_isN] at h2 <;> first | rfl | cases h2
theorem lw_nd98 : va_nd (List.range 98) = true := by decide +kernel
set_option maxHeartbeats 8000000 in
set_option maxRecDepth 100000 in
/-- from the entry, over what the two memories have in common -/
theorem whole_open {Iv : Nat → Mem → Mem → Prop} (hst : lw_step Iv) (hI : Iv 0 ct_mc ct_mm) {p : Program} {e : Env} {s : State} {m : MethodId} {below : List Frame} {meth : Method} {c : Code} (l : Launch) {b L : Nat} {xs : Nat → Int32} (hL : L ≤ 320) (C0 : lw_At p s m meth c b L xs) : W p l e room_1 s m #[Value.ref b] below meth c s.heap [] 0 0 (lw_Z below #[Value.ref b] s) (entryFrame m ([Value.ref b] : List Value).toArray 4) := by
  obtain ⟨hx, hb, hr, hml, hown, hts0, hX, hbl, hlocks, hgv⟩ := C0
  have hgw : ∀ x ∈ av_gw, x.before #[Value.ref b] s = true := fun x hx => hts0 x (List.mem_filter.mp hx).1
  have E : av_E p s m #[Value.ref b] meth c code RL 4 ret := ⟨hx, hb, hr, hml, hown, hgw, hlocks⟩
  obtain ⟨-, -, -, -, -, hts, -⟩ := id E
  obtain ⟨D, ca, hK⟩ := lw_K hts0
  have hN := lw_N hts0
  have hnA : ∀ a : Nat, a < s.heap.size → ¬ (fun q : Nat => s.heap.size ≤ q) a := fun a h1 h2 => by
    have h2 : s.heap.size ≤ a := h2
    omega
  obtain ⟨adK, adV, hvk, htm⟩ := lw_strs (A := fun q : Nat => s.heap.size ≤ q) hgv hnA
  have hs := flat_of_before _ hgv
  have hZ : va_Z "java/lang/String" "COMPACT_STRINGS" "Z" (.int 1) (fun q : Nat => s.heap.size ≤ q) s s.heap := va_Zof (hts0 (.laysStatic "java/lang/String" "COMPACT_STRINGS" "Z") (by decide +kernel)) (hgw _ kZ_J0) (va_eqi (hs _ (by decide +kernel))) hnA
  have hZq : va_Zq "jdk/internal/util/Preconditions" "SIOOBE_FORMATTER" "Ljava/util/function/BiFunction;" (fun q : Nat => s.heap.size ≤ q) s s.heap := va_Zqof (hts0 (.laysStatic "jdk/internal/util/Preconditions" "SIOOBE_FORMATTER" "Ljava/util/function/BiFunction;") (by decide +kernel)) (hgw _ kZ_J3) (hs _ (by decide +kernel)) hnA
  generalize hg : ((D, ca, fun _ => 0) : Gl) = g0
  have hX0 : ct_X g0 s := by
    rw [← hg]
    exact ⟨hK _, hN, va_AO.of (hts0 (.arrayOver (.object "AvalancheVote$Plain")) (by decide +kernel)), va_AO.of (hts0 (.arrayOver (.object "AvalancheVote$State")) (by decide +kernel)), va_AO.of (hts0 (.arrayOver (.object "AvalancheVote$Slope")) (by decide +kernel))⟩
  have hA : ∀ q : Nat, s.heap.size ≤ q → (fun q : Nat => s.heap.size ≤ q) q := fun _ h => h
  have hP : va_P g0.1 vwCl [] s.heap := fun k q hk => by simp at hk
  have hD : va_D (fun q : Nat => s.heap.size ≤ q) [] := ⟨fun i j x y hx => by simp at hx, fun k q hk => by simp at hk⟩
  have hS : va_S (fun q : Nat => s.heap.size ≤ q) s.heap s.heap [] := va_S.rf
  have hl := lv_entry [Value.ref b] (n := 4) (Nat.le_of_ble_eq_true rfl)
  rw [lg_entry_eq]
  generalize (lg_sl ([Value.ref b]) ++ List.replicate (4 - (lg_sl ([Value.ref b])).length) Slot.unset).toArray = ls at hl ⊢
  have hl : lv_has ls 4 [(0, .ref b)] := hl
  have hc1 : 0 + 1 ≤ 600000 := by decide
  have hc2 : 0 + 11 ≤ 7302249 := by decide
  refine va_new (D := g0.1) (cl := vwCl) (ci := 11) (fs := [.null, .null, .null, .int 0, .null, .null, .long 0, .long 0, .int 0, .int 0, .int 0]) (C := RX11) (T := TX11) (N := 11) hx hb hts kW_X11 tyX11 tyX11_ok hown (hts _ kD_L_7) (hts _ kO_X11) (hts _ kZ_X11) hX0.1 hP hD hS hA rfl (fun j hj => by rcases (show j = 0 ∨ j = 1 ∨ j = 2 ∨ j = 3 ∨ j = 4 ∨ j = 5 ∨ j = 6 ∨ j = 7 ∨ j = 8 ∨ j = 9 ∨ j = 10 by omega) with rfl | rfl | rfl | rfl | rfl | rfl | rfl | rfl | rfl | rfl | rfl <;> rfl) hc1 hc2 dL_law_0 (fun q0 H hP hD hS => ?_)
  have hP : va_P g0.1 vwCl [(q0, .inr (11, [.null, .null, .null, .int 0, .null, .null, .long 0, .long 0, .int 0, .int 0, .int 0]))] H := hP
  have hD : va_D (fun q : Nat => s.heap.size ≤ q) [(q0, .inr (11, [.null, .null, .null, .int 0, .null, .null, .long 0, .long 0, .int 0, .int 0, .int 0]))] := hD
  refine lv_dup hx hb dL_law_3 rfl ?_
  refine ct_call (n := 0) (As := []) (rest := [.ref q0]) (wc := [(q0, .inr (11, [.null, .null, .null, .int 0, .null, .null, .long 0, .long 0, .int 0, .int 0, .int 0]))]) (wr := []) (F := ct_FA g0) E hX0 hP hD hS hA hl.1 [0] [] rfl rfl (by decide) (by decide) (by decide) (fun sz => CX11_init l g0) ⟨Or.inl kM_L_9, kI_X11_init, kZ_X11, kC_X11_init, rfl, by decide, by decide, by decide⟩ ⟨by decide, by decide⟩ rfl (Nat.le_of_ble_eq_true rfl) ⟨by decide, by decide⟩ dL_law_4 (fun u H locs eu hP hD hS => ?_)
  have hP : va_P g0.1 vwCl (ct_FA g0 u) H := hP
  have hD : va_D (fun q : Nat => s.heap.size ≤ q) (ct_FA g0 u) := hD
  refine lv_astore_n (lv' := [(1, .ref q0), (0, .ref b)]) hx hb dL_law_7 rfl hl (by decide) rfl (fun ls hl => ?_)
  have hc3 : 0 + 1 + 97 + 1 ≤ 600000 := by decide
  have hc4 : 0 + 11 + 1397 + 29 ≤ 7302249 := by decide
  refine va_new (D := g0.1) (cl := vwCl) (ci := 12) (fs := [.null, .null, .null, .null, .long 0, .long 0, .null, .null, .int 0, .int 0, .int 0, .int 0, .int 0, .null, .null, .null, .null, .null, .null, .int 0, .int 0, .null, .int 0, .int 0, .int 0, .int 0, .int 0, .null, .null]) (C := RX12) (T := TX12) (N := 29) hx hb hts kW_X12 tyX12 tyX12_ok hown (hts _ kD_L_10) (hts _ kO_X12) (hts _ kZ_X12) hX0.1 hP hD hS hA rfl (fun j hj => by rcases (show j = 0 ∨ j = 1 ∨ j = 2 ∨ j = 3 ∨ j = 4 ∨ j = 5 ∨ j = 6 ∨ j = 7 ∨ j = 8 ∨ j = 9 ∨ j = 10 ∨ j = 11 ∨ j = 12 ∨ j = 13 ∨ j = 14 ∨ j = 15 ∨ j = 16 ∨ j = 17 ∨ j = 18 ∨ j = 19 ∨ j = 20 ∨ j = 21 ∨ j = 22 ∨ j = 23 ∨ j = 24 ∨ j = 25 ∨ j = 26 ∨ j = 27 ∨ j = 28 by omega) with rfl | rfl | rfl | rfl | rfl | rfl | rfl | rfl | rfl | rfl | rfl | rfl | rfl | rfl | rfl | rfl | rfl | rfl | rfl | rfl | rfl | rfl | rfl | rfl | rfl | rfl | rfl | rfl | rfl <;> rfl) hc3 hc4 dL_law_8 (fun q8 H hP hD hS => ?_)
  refine lv_dup hx hb dL_law_11 rfl ?_
  refine ct_call (n := 0) (As := []) (rest := [.ref q8]) (wc := [(q8, .inr (12, [.null, .null, .null, .null, .long 0, .long 0, .null, .null, .int 0, .int 0, .int 0, .int 0, .int 0, .null, .null, .null, .null, .null, .null, .int 0, .int 0, .null, .int 0, .int 0, .int 0, .int 0, .int 0, .null, .null]))]) (wr := ct_FA g0 u) (F := ct_FM g0) E hX0 hP hD hS hA hl.1 [98] (List.range 98) (by rfl) (ct_rng _ _ (ct_FA_len g0 u)) (by decide) lw_nd98 (fun i hi hj => by have h1 := List.mem_range.mp hi; have h2 := List.mem_singleton.mp hj; omega) (fun sz => CX12_init l g0) ⟨Or.inl kM_L_12, kI_X12_init, kZ_X12, kC_X12_init, rfl, by decide, by decide, by decide⟩ ⟨by decide, by decide⟩ rfl (Nat.le_of_ble_eq_true rfl) ⟨by decide, by decide⟩ dL_law_12 (fun v H locs ev hP hD hS => ?_)
  refine lv_astore_n (lv' := [(2, .ref q8), (1, .ref q0), (0, .ref b)]) hx hb dL_law_15 rfl hl (by decide) rfl (fun ls hl => ?_)
  refine lv_iconst (v := 0) hx hb dL_law_16 rfl ?_
  refine lv_istore_n (lv' := [(3, .int 0), (2, .ref q8), (1, .ref q0), (0, .ref b)]) hx hb dL_law_17 rfl hl (by decide) rfl (fun ls hl => ?_)
  refine W.widen (k := 600000) (n := 7302249) (by decide) (by decide) ?_
  refine va_forget (fun q hq => hS.2.2 q hq) ?_
  -- the launch's choice
  have atA : ∀ n, n < 98 → (ct_FA g0 u ++ ct_FM g0 v)[n]? = some ((ct_FA g0 u).getD n (0, .inr (0, []))) := fun n hn => by
    rw [List.getElem?_append_left (by rw [ct_FA_len]; exact hn)]
    exact ct_ge (by rw [ct_FA_len]; exact hn)
  have atM : ∀ n, n < 16 → (ct_FA g0 u ++ ct_FM g0 v)[98 + n]? = some ((ct_FM g0 v).getD n (0, .inr (0, []))) := fun n hn => by
    rw [List.getElem?_append_right (by rw [ct_FA_len]; omega), ct_FA_len, show 98 + n - 98 = n by omega]
    exact ct_ge (by rw [ct_FM_len]; exact hn)
  have adA : ∀ n, n < 98 → ct_ad u v adK n = u n := fun n hn => by unfold ct_ad; rw [if_pos hn]
  have adM : ∀ n, n < 16 → ct_ad u v adK (98 + n) = v n := fun n hn => by unfold ct_ad; rw [if_neg (by omega), if_pos (by omega), show 98 + n - 98 = n by omega]
  have cellAt : ∀ n, n < 114 → ∃ x : Nat × va_E, (ct_FA g0 u ++ ct_FM g0 v)[n]? = some x ∧ x.1 = ct_ad u v adK n := by
    intro n hn
    rcases Nat.lt_or_ge n 98 with h | h
    · exact ⟨_, atA n h, by rw [ct_FA_ad g0 u n h, adA n h]⟩
    · obtain ⟨k, rfl⟩ : ∃ k, n = 98 + k := ⟨n - 98, by omega⟩
      exact ⟨_, atM k (by omega), by rw [ct_FM_ad g0 v k (by omega), adM k (by omega)]⟩
  have hlow : lw_low s (D, ca, ct_ad u v adK) := by
    refine ⟨fun q hq => ?_, fun a a' ha ha' haa => ?_⟩
    · obtain ⟨x, h1, h2⟩ := cellAt q hq
      have h3 := hD.2 q x h1
      show s.heap.size ≤ ct_ad u v adK q
      rw [← h2]; exact h3
    · obtain ⟨x, h1, h2⟩ := cellAt a ha
      obtain ⟨x', h1', h2'⟩ := cellAt a' ha'
      exact hD.1 a a' x x' h1 h1' (by rw [h2, h2']; exact haa)
  have ijw : ∀ w : Nat × Nat, w.1 + w.2 ≤ 114 → av_ij w (D, ca, ct_ad u v adK) := fun w hw a a' ha ha' haa => hlow.2 a a' (by omega) (by omega) haa
  have nA : ∀ w : Nat × Nat, w.1 + w.2 ≤ 114 → ∀ q, av_A w (D, ca, ct_ad u v adK) q → s.heap.size ≤ q := by
    rintro w hw q ⟨x, hx, rfl⟩
    exact hlow.1 x (by omega)
  have stw : ∀ w : Nat × Nat, w.1 + w.2 ≤ 114 → av_St (av_A w (D, ca, ct_ad u v adK)) (D, ca, ct_ad u v adK) s s.heap := by
    intro w hw
    have hK4 : (fun i => ct_ad u v adK (200 + i)) = adK := by
      funext i
      unfold ct_ad
      rw [if_neg (by omega), if_neg (by omega), show 200 + i - 200 = i by omega]
    refine ⟨⟨adV, ?_⟩, ⟨?_, ?_, ?_, ?_⟩, hZ.narrow (nA w hw), hZq.narrow (nA w hw)⟩
    · show vk_S 4 av_lenS av_bytS (fun i => ct_ad u v adK (200 + i)) adV _ s s.heap
      rw [hK4]
      exact hvk.narrow (nA w hw)
    · exact vk_R.of (hts0 (.stringRef "AvalancheVote$Reader" 40 "mountain") (by decide +kernel)) (htm 0 (by decide))
    · exact vk_R.of (hts0 (.stringRef "AvalancheVote$Reader" 49 "ledge") (by decide +kernel)) (htm 1 (by decide))
    · exact vk_R.of (hts0 (.stringRef "AvalancheVote$Reader" 54 "below") (by decide +kernel)) (htm 2 (by decide))
    · exact vk_R.of (hts0 (.stringRef "AvalancheVote$Reader" 56 "voter") (by decide +kernel)) (htm 3 (by decide))
  have Xc : av_X av_wc (D, ca, ct_ad u v adK) s := ⟨hK _, hN, ijw av_wc (by decide), stw av_wc (by decide)⟩
  have Xm : av_X av_wm (D, ca, ct_ad u v adK) s := ⟨hK _, hN, ijw av_wm (by decide), stw av_wm (by decide)⟩
  subst hg
  have hPA : va_P D vwCl (ct_FA (D, ca, fun _ => 0) u) H := fun k q hk => hP k q (by rw [List.getElem?_append_left (List.getElem?_eq_some_iff.mp hk).1]; exact hk)
  have hPM : va_P D vwCl (ct_FM (D, ca, fun _ => 0) v) H := fun k q hk => hP (98 + k) q (by rw [List.getElem?_append_right (by rw [ct_FA_len]; omega), ct_FA_len, show 98 + k - 98 = k by omega]; exact hk)
  have low : ∀ w : Nat × Nat, w.1 + w.2 ≤ 114 → va_S (av_A w (D, ca, ct_ad u v adK)) s.heap H [] := fun w hw => ⟨hS.1, fun q h1 _ => hS.2.1 q h1 (hnA q h1), by simp⟩
  have hRc : av_R av_wc (D, ca, ct_ad u v adK) ct_mc s H [] := ⟨ct_PA hPA, low av_wc (by decide)⟩
  have hRm : av_R av_wm (D, ca, ct_ad u v adK) ct_mm s H [] := ⟨ct_PM hPM, low av_wm (by decide)⟩
  have e0 : q0 = ct_ad u v adK 0 := by rw [adA 0 (by decide)]; exact eu.symm
  have e8 : q8 = ct_ad u v adK 98 := by rw [show (98 : Nat) = 98 + 0 from rfl, adM 0 (by decide)]; exact ev.symm
  rw [e0, e8] at hl
  exact lw_loop hL E Xc Xm hX hbl hlow hst (L + 1) 0 (by omega) (by omega) hI hRc hRm (lv_sub hl [3, 2, 1, 0] rfl)
