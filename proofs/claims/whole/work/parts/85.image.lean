/-! Steps: image, from. -/
theorem cp_st (μ : Mem) {x y n lx : Nat} {N : Int32} (hN : N = nI n) (hx : av_ln x = lx) (hy : av_ln y = lx) (hn : n ≤ lx) (h1 : lx ≤ 1000) : ∃ μ', cpy μ x 0 y 0 N = some μ' ∧ (∀ k, k < n → gA μ' y k = gA μ x k) ∧ (∀ a, a ≠ y → gA μ' a = gA μ a) ∧ gF μ' = gF μ ∧ gL μ' = gL μ := by
  refine ⟨_, cpy_n 0 0 N 0 0 n hx hy rfl rfl hN (by omega) (by omega) h1 h1, fun k hk => ?_, fun a ha => gA_sn ha, rfl, rfl⟩
  rw [gA_ss, pk_cpy_in (by omega) (by omega), Nat.zero_add, Nat.sub_zero]
theorem sf_st (μ : Mem) (q k : Nat) (v : Int32) : ∃ μ', sF μ q k v = μ' ∧ gF μ' q k = v ∧ (∀ a j, (a ≠ q ∨ j ≠ k) → gF μ' a j = gF μ a j) ∧ gA μ' = gA μ ∧ gL μ' = gL μ := ⟨_, rfl, by rw [gF_sq, if_pos rfl], fun a j h => gF_sm h, rfl, rfl⟩
theorem c_copyTold {q b : Nat} {μ : Mem} {τ : Td} (hq : SB q) (hb : SB b) (hne : q + 14 ≤ b ∨ b + 14 ≤ q) (hw : WT τ) (hc : CTb b μ τ) : ∃ μ1, fX9_copyFrom (q + 1) (b + 1) μ = some μ1 ∧ BO q μ μ1 ∧ CTb q μ1 τ := by
  obtain ⟨-, ⟨s2, s3, s5, s6, s7⟩, -, l2, l3, l4, l5, l6, -⟩ := SB_f hq
  obtain ⟨-, ⟨S2, S3, S5, S6, S7⟩, -, L2, L3, L4, L5, L6, -⟩ := SB_f hb
  obtain ⟨t1, t2, t3, t4⟩ := hc
  have hL := hw.1
  have hV := hw.2.1
  obtain ⟨μ1, e1, F1, N1, A1, G1⟩ := sf_st μ (q + 1) 1 (gF μ (b + 1) 1)
  obtain ⟨μ2, e2, A2, N2, F2, G2⟩ := cp_st μ1 (n := 8) (N := 8) rfl L2 l2 (by decide) (by decide)
  obtain ⟨μ3, e3, A3, N3, F3, G3⟩ := cp_st μ2 (n := 8) (N := 8) rfl L3 l3 (by decide) (by decide)
  obtain ⟨μ4, e4, F4, N4, A4, G4⟩ := sf_st μ3 (q + 1) 4 (gF μ3 (b + 1) 4)
  obtain ⟨μ5, e5, A5, N5, F5, G5⟩ := cp_st μ4 (n := 6) (N := 6) rfl L4 l4 (by decide) (by decide)
  obtain ⟨μ6, e6, A6, N6, F6, G6⟩ := cp_st μ5 (n := 6) (N := 6) rfl L5 l5 (by decide) (by decide)
  obtain ⟨μ7, e7, A7, N7, F7, G7⟩ := cp_st μ6 (n := 6) (N := 6) rfl L6 l6 (by decide) (by decide)
  refine ⟨μ7, ?_, ⟨fun a k h => ?_, ?_, fun a h => ?_⟩, ?_, ?_, fun k hk => ?_, fun v hv => ?_⟩
  · unfold fX9_copyFrom
    rw [S2, S3, S5, S6, S7, s2, s3, s5, s6, s7, e1, bs, e2, bs, e3, bs, e4, bs, e5, bs, e6, bs, e7, bs]
  · rw [F7, F6, F5, N4 _ _ (by omega), F3, F2, N1 _ _ (by omega)]
  · rw [G7, G6, G5, G4, G3, G2, G1]
  · rw [N7 _ (by omega), N6 _ (by omega), N5 _ (by omega), A4, N3 _ (by omega), N2 _ (by omega), A1]
  · rw [F7, F6, F5, N4 _ _ (by omega), F3, F2, F1]; exact t1
  · rw [F7, F6, F5, F4, F3, F2, N1 _ _ (by omega)]; exact t2
  · rw [N7 _ (by omega), N6 _ (by omega), N5 _ (by omega), A4, N3 _ (by omega), A2 _ (by omega), A1, N7 _ (by omega), N6 _ (by omega), N5 _ (by omega), A4, A3 _ (by omega), N2 _ (by omega), A1]
    exact t3 k hk
  · rw [N7 _ (by omega), N6 _ (by omega), A5 _ (by omega), A4, N3 _ (by omega), N2 _ (by omega), A1, N7 _ (by omega), A6 _ (by omega), N5 _ (by omega), A4, N3 _ (by omega), N2 _ (by omega), A1, A7 _ (by omega), N6 _ (by omega), N5 _ (by omega), A4, N3 _ (by omega), N2 _ (by omega), A1]
    exact t4 v hv
theorem c_copySlope {q b : Nat} {μ : Mem} {τ : Td} {σ : Hd} (hq : SB q) (hb : SB b) (hne : q + 14 ≤ b ∨ b + 14 ≤ q) (hw : WT τ) (hc : CS μ τ (b + 7) σ) (ht : CTb q μ τ) : ∃ μ1, fX7_copyFrom (q + 7) (b + 7) μ = some μ1 ∧ BO q μ μ1 ∧ CTb q μ1 τ ∧ CS μ1 τ (q + 7) σ := by
  obtain ⟨-, -, ⟨q1, q2⟩, -, -, -, -, -, l8, l9, -⟩ := SB_f hq
  obtain ⟨-, -, ⟨Q1, Q2⟩, -, -, -, -, -, L8, L9, -⟩ := SB_f hb
  obtain ⟨h1, h2, h3, h4⟩ := hc
  have hL := hw.1
  obtain ⟨μ1, e1, A1, N1, F1, G1⟩ := cp_st μ (n := 8) (N := 8) rfl L8 l8 (by decide) (by decide)
  obtain ⟨μ2, e2, A2, N2, F2, G2⟩ := cp_st μ1 (n := 8) (N := 8) rfl L9 l9 (by decide) (by decide)
  obtain ⟨μ3, e3, F3, N3, A3, G3⟩ := sf_st μ2 (q + 7) 3 (gF μ2 (b + 7) 3)
  obtain ⟨μ4, e4, F4, N4, A4, G4⟩ := sf_st μ3 (q + 7) 4 (gF μ3 (b + 7) 4)
  obtain ⟨μ5, e5, F5, N5, A5, G5⟩ := sf_st μ4 (q + 7) 5 (gF μ4 (b + 7) 5)
  refine ⟨μ5, ?_, ⟨fun a k h => ?_, ?_, fun a h => ?_⟩, ⟨?_, ?_, fun k hk => ?_, fun v hv => ?_⟩, fun k hk => ?_, ?_, ?_, ?_⟩
  · unfold fX7_copyFrom
    rw [Q1, Q2, q1, q2, e1, bs, e2, bs, e3, bs, e4, bs, e5, bs]
  · rw [N5 _ _ (by omega), N4 _ _ (by omega), N3 _ _ (by omega), F2, F1]
  · rw [G5, G4, G3, G2, G1]
  · rw [A5, A4, A3, N2 _ (by omega), N1 _ (by omega)]
  · rw [N5 _ _ (by omega), N4 _ _ (by omega), N3 _ _ (by omega), F2, F1]; exact ht.1
  · rw [N5 _ _ (by omega), N4 _ _ (by omega), N3 _ _ (by omega), F2, F1]; exact ht.2.1
  · rw [A5, A4, A3, N2 _ (by omega), N1 _ (by omega), N2 _ (by omega), N1 _ (by omega)]; exact ht.2.2.1 k hk
  · rw [A5, A4, A3, N2 _ (by omega), N1 _ (by omega), N2 _ (by omega), N1 _ (by omega), N2 _ (by omega), N1 _ (by omega)]; exact ht.2.2.2 v hv
  · rw [A5, A4, A3, show q + 7 + 1 = q + 8 by omega, show q + 7 + 2 = q + 9 by omega, N2 _ (by omega), A1 _ (by omega), A2 _ (by omega), N1 _ (by omega)]
    exact h1 k hk
  · rw [N5 _ _ (by omega), N4 _ _ (by omega), F3, F2, F1]; exact h2
  · rw [N5 _ _ (by omega), F4, N3 _ _ (by omega), F2, F1]; exact h3
  · rw [F5, N4 _ _ (by omega), N3 _ _ (by omega), F2, F1]; exact h4
theorem c_copyState {q b : Nat} {μ : Mem} {z : Sd} (hq : SB q) (hb : SB b) (hne : q + 14 ≤ b ∨ b + 14 ≤ q) (hw : WT (zT z)) (hN : zN z ≤ 6) (hP : zP z ≤ 8) (hc : CR b μ z) : ∃ μ', fX8_copyFrom q b μ = some μ' ∧ BO q μ μ' ∧ CR q μ' z := by
  obtain ⟨⟨r0, r1, r2, r4, r5⟩, -, -, -, -, -, -, -, -, -, l11, l12, l13⟩ := SB_f hq
  obtain ⟨⟨R0, R1, R2, R4, R5⟩, -, -, -, -, -, -, -, -, -, L11, L12, L13⟩ := SB_f hb
  have hL := hw.1
  obtain ⟨μ1, e1, o1, t1⟩ := c_copyTold hq hb hne hw hc.1
  have hc1 : CR b μ1 z := CR_keep (fun a k x y => o1.1 a k (by omega)) (fun a x y => o1.2.2 a (by omega)) hc
  obtain ⟨μ2, e2, o2, t2, s2⟩ := c_copySlope hq hb hne hw hc1.2.1 t1
  obtain ⟨-, -, ⟨n1, n2⟩, p1, p2⟩ : CR b μ2 z := CR_keep (fun a k x y => o2.1 a k (by omega)) (fun a x y => o2.2.2 a (by omega)) hc1
  obtain ⟨μ3, e3, A3, N3, F3, G3⟩ := cp_st μ2 (n := 152) (N := 152) rfl L11 l11 (by decide) (by decide)
  obtain ⟨μ4, e4, F4, N4, A4, G4⟩ := sf_st μ3 q 3 (gF μ3 b 3)
  obtain ⟨μ5, e5, A5, N5, F5, G5⟩ := cp_st μ4 (n := 6) (N := 6) rfl L12 l12 (by decide) (by decide)
  obtain ⟨μ6, e6, A6, N6, F6, G6⟩ := cp_st μ5 (n := 6) (N := 6) rfl L13 l13 (by decide) (by decide)
  obtain ⟨μ7, e7, F7, N7, A7, G7⟩ := sf_st μ6 q 6 (gF μ6 b 6)
  have AA : ∀ a, a ≠ q + 11 → a ≠ q + 12 → a ≠ q + 13 → gA μ7 a = gA μ2 a := fun a x y w => by rw [A7, N6 _ w, N5 _ y, A4, N3 _ x]
  have FF : ∀ a k, (a ≠ q ∨ (k ≠ 3 ∧ k ≠ 6)) → gF μ7 a k = gF μ2 a k := fun a k x => by rw [N7 _ _ (by omega), F6, F5, N4 _ _ (by omega), F3]
  refine ⟨μ7, ?_, (o1.tr o2).tr ⟨fun a k h => FF a k (by omega), ?_, fun a h => AA a (by omega) (by omega) (by omega)⟩, ⟨?_, ?_, fun k hk => ?_, fun v hv => ?_⟩, ⟨fun k hk => ?_, ?_, ?_, ?_⟩, ⟨?_, fun j hj => ?_⟩, ?_, fun p hp => ?_⟩
  · unfold fX8_copyFrom
    rw [r0, R0, e1, bs, r1, R1, e2, bs, r2, R2, r4, R4, r5, R5, e3, bs, e4, bs, e5, bs, e6, bs, e7, bs]
  · rw [G7, G6, G5, G4, G3]
  · rw [FF _ _ (by omega)]; exact t2.1
  · rw [FF _ _ (by omega)]; exact t2.2.1
  · rw [AA _ (by omega) (by omega) (by omega), AA _ (by omega) (by omega) (by omega)]; exact t2.2.2.1 k hk
  · rw [AA _ (by omega) (by omega) (by omega), AA _ (by omega) (by omega) (by omega), AA _ (by omega) (by omega) (by omega)]; exact t2.2.2.2 v hv
  · rw [AA _ (by omega) (by omega) (by omega), AA _ (by omega) (by omega) (by omega)]; exact s2.1 k hk
  · rw [FF _ _ (by omega)]; exact s2.2.1
  · rw [FF _ _ (by omega)]; exact s2.2.2.1
  · rw [FF _ _ (by omega)]; exact s2.2.2.2
  · rw [F7, F6, F5, N4 _ _ (by omega), F3]; exact n1
  · rw [A7, N6 _ (by omega), A5 _ (by omega), A4, N3 _ (by omega), A6 _ (by omega), N5 _ (by omega), A4, N3 _ (by omega)]; exact n2 j hj
  · rw [N7 _ _ (by omega), F6, F5, F4, F3]; exact p1
  · refine CP_at hL (p2 p hp) (fun k hk => ?_)
    rw [A7, N6 _ (by omega), N5 _ (by omega), A4, A3 _ (by omega)]
theorem m_im {F : Nat → Int32} {j : Nat} (hj : j < 2) : ∀ (d f i : Nat) (ν : Mem), d = 221 - i → i ≤ 221 → d < f → gA ν 99 = F → (∀ k, k < i → gA ν 100 (221 * j + k) = F k) → ∃ g, fX12_image_19 f (nI j) (nI i) ν = some (1, sA (sA ν 100 g) 101 (upd (gA ν 101) j 1)) ∧ (∀ k, k < 221 → g (221 * j + k) = F k) ∧ (∀ k, k < 221 * j ∨ 221 * j + 221 ≤ k → g k = gA ν 100 k)
  | 0, f, i, ν, hd, hi, hf, hF, h1 => by
    obtain ⟨f, rfl⟩ : ∃ g, f = g + 1 := ⟨f - 1, by omega⟩
    obtain rfl : i = 221 := by omega
    refine ⟨gA ν 100, ?_, h1, fun k _ => rfl⟩
    unfold fX12_image_19 wrz
    rw [if_pos (by decide), show vp_nar .boolean 1 = 1 by decide +kernel, wr_nI av_l101 hj (by decide), sA_self]
    rfl
  | d + 1, f, i, ν, hd, hi, hf, hF, h1 => by
    obtain ⟨f, rfl⟩ : ∃ g, f = g + 1 := ⟨f - 1, by omega⟩
    obtain ⟨g, e, g1, g2⟩ := m_im (F := F) hj d f (i + 1) (sA ν 100 (upd (gA ν 100) (221 * j + i) (F i))) (by omega) (by omega) (by omega) (by rw [gA_sn (by decide)]; exact hF) (fun k hk => by
      rw [gA_ss]
      by_cases c : k = i
      · rw [c, pk_us]
      · rw [pk_un (by omega)]; exact h1 k (by omega))
    refine ⟨g, ?_, g1, fun k hk => ?_⟩
    · have c221 : ¬ (221 : Int32) ≤ nI i := nI_ge (a := i) (b := 221) (by omega) (by decide)
      have ix : (221 : Int32) * nI j + nI i = nI (221 * j + i) := by rw [show (221 : Int32) = nI 221 from rfl, pk_mul, nI_add]
      unfold fX12_image_19
      rw [if_neg c221, rd_nI av_l99 (by omega) (by decide), hF, bs, ix, wr_nI av_l100 (by omega) (by decide), bs, bs, nI_1, e, sA_sA, gA_sn (by decide)]
    · rw [g2 k hk, gA_ss, pk_un (by omega)]
theorem m_fr {F : Nat → Int32} {j : Nat} (hj : j < 2) : ∀ (d f i : Nat) (ν : Mem), d = 221 - i → i ≤ 221 → d < f → gA ν 100 = F → (∀ k, k < i → gA ν 99 k = F (221 * j + k)) → ∃ g, fX12_from_33 f (nI j) (nI i) ν = some (1, sA ν 99 g) ∧ (∀ k, k < 221 → g k = F (221 * j + k))
  | 0, f, i, ν, hd, hi, hf, hF, h1 => by
    obtain ⟨f, rfl⟩ : ∃ g, f = g + 1 := ⟨f - 1, by omega⟩
    obtain rfl : i = 221 := by omega
    refine ⟨gA ν 99, ?_, h1⟩
    unfold fX12_from_33
    rw [if_pos (by decide), sA_self]
  | d + 1, f, i, ν, hd, hi, hf, hF, h1 => by
    obtain ⟨f, rfl⟩ : ∃ g, f = g + 1 := ⟨f - 1, by omega⟩
    obtain ⟨g, e, g1⟩ := m_fr (F := F) hj d f (i + 1) (sA ν 99 (upd (gA ν 99) i (F (221 * j + i)))) (by omega) (by omega) (by omega) (by rw [gA_sn (by decide)]; exact hF) (fun k hk => by
      rw [gA_ss]
      by_cases c : k = i
      · rw [c, pk_us]
      · rw [pk_un (by omega)]; exact h1 k (by omega))
    refine ⟨g, ?_, g1⟩
    have c221 : ¬ (221 : Int32) ≤ nI i := nI_ge (a := i) (b := 221) (by omega) (by decide)
    have ix : (221 : Int32) * nI j + nI i = nI (221 * j + i) := by rw [show (221 : Int32) = nI 221 from rfl, pk_mul, nI_add]
    unfold fX12_from_33
    rw [if_neg c221, ix, rd_nI av_l100 (by omega) (by decide), hF, bs, wr_nI av_l99 (by omega) (by decide), bs, bs, nI_1, e, sA_sA]
theorem rdr_im {j : Nat} (hj : j < 2) : rdr 8 (nI j) = some (42 + 14 * j) := by
  have hd : ∀ j, j < 2 → rdr 8 (nI j) = some (42 + 14 * j) := by decide +kernel
  exact hd j hj
theorem SB_im {j : Nat} (hj : j < 2) : SB (42 + 14 * j) := by
  unfold SB; omega
theorem bit4 {m j : Nat} (hm : m < 4) (hj : j < 2) : nI m ||| ((1 : Int32) <<< (nI j &&& 31)) = nI (m ||| 2 ^ j) ∧ m ||| 2 ^ j < 4 ∧ (m ||| 2 ^ j).testBit j = true ∧ ∀ k, k < 2 → k ≠ j → (m ||| 2 ^ j).testBit k = m.testBit k := by
  have hd : ∀ m, m < 4 → ∀ j, j < 2 → nI m ||| ((1 : Int32) <<< (nI j &&& 31)) = nI (m ||| 2 ^ j) ∧ m ||| 2 ^ j < 4 ∧ (m ||| 2 ^ j).testBit j = true ∧ ∀ k, k < 2 → k ≠ j → (m ||| 2 ^ j).testBit k = m.testBit k := by decide +kernel
  exact hd m hm j hj
theorem st_image : lw_st_image Iv := by
  intro i hi a μ ν h
  obtain ⟨z, wz, cz, mz⟩ := h.1
  unfold fX11_image fX12_image
  rw [m_inN 0 1 0 1 rfl rfl, w_eq, bs, bs]
  by_cases c : (0 : Int32) ≤ a ∧ a ≤ 1
  · obtain ⟨j, hj, rfl⟩ := ix_out (a := a) (n := 2) (by decide) ⟨c.1, c.2⟩
    rw [if_pos c, if_neg n10, if_neg n10, rdr_im hj, bs]
    obtain ⟨μ1, e1, o1, c1⟩ := c_copyState (q := 42 + 14 * j) (b := 14) (SB_im hj) (Or.inl rfl) (by omega) wz.1 wz.2.2.2.1.1 wz.2.2.2.2.1 cz
    obtain ⟨g, e2, g1, g2⟩ := m_im (F := gA ν 99) hj 221 av_big 0 ν rfl (by decide) (by decide) rfl (fun k hk => absurd hk (Nat.not_lt_zero k))
    rw [nI_0] at e2
    obtain ⟨m, m4, k1, k2⟩ := h.2.1
    obtain ⟨b1, b2, b3, b4⟩ := bit4 m4 hj
    have f3 : gF μ1 0 3 = nI m := by rw [o1.1 0 3 (by omega)]; exact k1
    rw [e1, bs, f3, b1, bs, e2]
    refine ⟨1, _, _, rfl, rfl, ?_⟩
    have hF : ∀ a k, a ≠ 0 → a < 42 + 14 * j ∨ 42 + 14 * j + 14 ≤ a → gF (sF μ1 0 3 (nI (m ||| 2 ^ j))) a k = gF μ a k := fun a k x y => by rw [gF_sm (Or.inl x), o1.1 a k y]
    have hA : ∀ a, a < 42 + 14 * j ∨ 42 + 14 * j + 14 ≤ a → gA (sF μ1 0 3 (nI (m ||| 2 ^ j))) a = gA μ a := fun a y => by rw [gA_sF, o1.2.2 a y]
    have hB : ∀ a, a ≠ 100 → a ≠ 101 → gA (sA (sA ν 100 g) 101 (upd (gA ν 101) j 1)) a = gA ν a := fun a x y => by rw [gA_sn y, gA_sn x]
    obtain ⟨i1, -, i3, i4, i5⟩ := h
    refine ⟨IZ_mono (by omega) (IZ_keep (fun a k x y => hF a k (by omega) (by omega)) (fun a x y => hA a (by omega)) (hB 99 (by decide) (by decide)) i1), ?_, IX_keep (hF 9 1 (by decide) (by omega)) rfl (hA 10 (by omega)) (hB 111 (by decide) (by decide)) i3, IF_keep o1.2.1 rfl i4, ?_⟩
    · refine ⟨m ||| 2 ^ j, b2, by rw [gF_sq, if_pos rfl], fun t ht => ?_⟩
      rw [gA_ss, gA_sn (by decide), gA_ss, upd_if]
      by_cases ct : t = j
      · subst ct
        rw [if_pos rfl, b3]
        refine ⟨rfl, fun _ => ⟨z, WZ_mono (by omega) wz, CR_keep (fun a k x y => gF_sm (by omega)) (fun a x y => rfl) c1, MR_ext mz (fun k hk => g1 k hk) wz.1 wz.2.2.2.1.1 wz.2.2.2.2.1⟩⟩
      · rw [if_neg ct, b4 t ht ct]
        refine ⟨(k2 t ht).1, fun hb => ?_⟩
        obtain ⟨z2, w2, y2, x2⟩ := (k2 t ht).2 hb
        exact ⟨z2, WZ_mono (by omega) w2, CR_keep (fun a k x y => hF a k (by omega) (by omega)) (fun a x y => hA a (by omega)) y2, MR_ext x2 (fun k hk => g2 _ (by omega)) w2.1 w2.2.2.2.1.1 w2.2.2.2.2.1⟩
    · obtain ⟨r0, r1, r2⟩ := i5
      refine ⟨?_, ?_, ?_⟩
      · rw [gF_sm (by omega), o1.1 0 8 (by omega), hB 102 (by decide) (by decide)]; exact r0
      · rw [gF_sm (by omega), o1.1 0 9 (by omega), hB 102 (by decide) (by decide)]; exact r1
      · rw [gF_sm (by omega), o1.1 0 10 (by omega), hB 102 (by decide) (by decide)]; exact r2
  · exact bad2_ok (-2) h (by rw [if_neg c, if_pos rfl]) (by rw [if_neg c, if_pos rfl])
theorem has4 {m j : Nat} (hm : m < 4) (hj : j < 2) (μ : Mem) : fX11_hasBit (nI m) (nI j) μ = some (if m.testBit j then 1 else 0) := by
  have hd : ∀ m, m < 4 → ∀ j, j < 2 → (if ((nI m >>> (nI j &&& 31)) &&& 1) = 0 then some (0 : Int32) else some 1) = some (if m.testBit j then 1 else 0) := by decide +kernel
  exact hd m hm j hj
theorem st_from : lw_st_from Iv := by
  intro i hi a μ ν h
  obtain ⟨z, wz, cz, mz⟩ := h.1
  unfold fX11_from fX12_from
  rw [m_inN 0 1 0 1 rfl rfl, w_eq, bs, bs]
  by_cases c : (0 : Int32) ≤ a ∧ a ≤ 1
  · obtain ⟨j, hj, rfl⟩ := ix_out (a := a) (n := 2) (by decide) ⟨c.1, c.2⟩
    obtain ⟨m, m4, k1, k2⟩ := h.2.1
    rw [if_pos c, if_neg n10, if_neg n10, k1, has4 m4 hj, bs, rd_nI av_l101 hj (by decide), bs, (k2 j hj).1]
    by_cases cb : m.testBit j = true
    · rw [if_pos cb, if_neg n10, if_neg n10, rdr_im hj, bs]
      obtain ⟨z2, w2, y2, x2⟩ := (k2 j hj).2 cb
      obtain ⟨μ1, e1, o1, c1⟩ := c_copyState (q := 14) (b := 42 + 14 * j) (Or.inl rfl) (SB_im hj) (by omega) w2.1 w2.2.2.2.1.1 w2.2.2.2.2.1 y2
      obtain ⟨g, e2, g1⟩ := m_fr (F := gA ν 100) hj 221 av_big 0 ν rfl (by decide) (by decide) rfl (fun k hk => absurd hk (Nat.not_lt_zero k))
      rw [nI_0] at e2
      rw [e1, bs, e2]
      exact ⟨1, _, _, rfl, rfl, Iv_now h (by omega) o1.kd (KN.sA (by decide)) ⟨z2, WZ_mono (by omega) w2, c1, by rw [gA_ss]; exact MR_ext x2 (fun k hk => g1 k hk) w2.1 w2.2.2.2.1.1 w2.2.2.2.2.1⟩⟩
    · rw [if_neg cb]
      exact no2_ok h (by rw [if_pos rfl]) (by rw [if_pos rfl])
  · exact bad2_ok (-2) h (by rw [if_neg c, if_pos rfl]) (by rw [if_neg c, if_pos rfl])
