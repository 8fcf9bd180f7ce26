/-! Steps: vote, night, undo. -/
theorem CR_so {μ μ' : Mem} {z : Sd} {σ : Hd} (h : CR 14 μ z) (o : SO 21 μ μ') (hs : CS μ' (zT z) 21 σ) : CR 14 μ' (zT z, σ, zN z, zV z, zB z, zP z, zQ z) := by
  obtain ⟨⟨t1, t2, t3, t4⟩, -, ⟨n1, n2⟩, p1, p2⟩ := h
  have hF : ∀ a k, a ≠ 21 → gF μ' a k = gF μ a k := o.1
  have hA : ∀ a, a ≠ 22 → a ≠ 23 → a ≠ 24 → gA μ' a = gA μ a := o.2.2
  refine ⟨⟨?_, ?_, fun k hk => ?_, fun v hv => ?_⟩, hs, ⟨?_, fun i hi => ?_⟩, ?_, fun p hp => ?_⟩
  · rw [hF _ _ (by decide)]; exact t1
  · rw [hF _ _ (by decide)]; exact t2
  · rw [hA _ (by decide) (by decide) (by decide), hA _ (by decide) (by decide) (by decide)]; exact t3 k hk
  · rw [hA _ (by decide) (by decide) (by decide), hA _ (by decide) (by decide) (by decide), hA _ (by decide) (by decide) (by decide)]; exact t4 v hv
  · rw [hF _ _ (by decide)]; exact n1
  · rw [hA _ (by decide) (by decide) (by decide), hA _ (by decide) (by decide) (by decide)]; exact n2 i hi
  · rw [hF _ _ (by decide)]; exact p1
  · rw [hA _ (by decide) (by decide) (by decide)]; exact p2 p hp
theorem WZ_kp {i : Nat} {z : Sd} {σ : Hd} (h : WZ i z) (hW : HW σ) (hv : σ.2.2.1 ≤ i + 5) : WZ (i + 5) (zkp z σ) := ⟨h.1, hW, hv, h.2.2.2.1, zPk_le h.2.2.2.2.1, fun p hp => ⟨(zQk_ok h p hp).1, by have := (zQk_ok h p hp).2; show (zQk z p).2.2.1 ≤ i + 5; omega⟩⟩
theorem st_vote : lw_st_vote Iv := by
  intro i hi a μ ν h
  obtain ⟨z, wz, cz, mz⟩ := h.1
  have v6 := wz.1.2.1
  have hn : (zH z).2.2.1 < 2 ^ 31 := by have := wz.2.2.1; omega
  unfold fX11_vote fX12_vote
  rw [c_isVoter (CTb_CT cz.1), m_isVoter mz.1]
  simp only [Option.bind_some]
  by_cases c : (0 : Int32) ≤ a ∧ a ≤ nI (tV (zT z)) - 1
  · obtain ⟨v, hv, rfl⟩ := ix_out (by omega) c
    rw [if_pos c, if_neg n10, if_neg n10]
    obtain ⟨μ1, e1, o1, c1⟩ := c_keep wz.1 wz.2.2.2.2.1 cz
    obtain ⟨μ2, e2, o2, c2, m2⟩ := c_cast (q := 21) (σ := zH z) (Or.inl rfl) wz.1 (CTb_CT c1.1) c1.2.1 hv hn
    obtain ⟨g1, f1, k1⟩ := m_keep wz.1 wz.2.2.2.1.1 wz.2.2.2.2.1 mz
    have k1' : MR (gA (sA ν 99 g1) 99) (zkp z (zH z)) := by rw [gA_ss]; exact k1
    obtain ⟨ν2, f2, q2, hH⟩ := m_layHand (τ := zT z) wz.1 k1'.1 k1'.2.1
    obtain ⟨ν3, f3, q3, hH3⟩ := m_goVote wz.1 (by rw [HO_99 q2]; exact k1'.1) hH wz.2.1 hn hv
    obtain ⟨g4, f4, k4⟩ := m_layNow (ν := ν3) (z := zkp z (zH z)) wz.1 (by rw [HO_99 q3, HO_99 q2]; exact k1') hH3
    rw [e1, f1]
    simp only [Option.bind_some]
    rw [e2, f2]
    simp only [Option.bind_some]
    rw [f3, b2_some, f4, m2.1]
    refine ⟨_, _, _, rfl, rfl, ?_⟩
    exact Iv_now h (by omega) (o1.kd.tr (KD.so (Or.inl rfl) o2)) ((KN.sA (by decide)).tr ((KN.ho q2).tr ((KN.ho q3).tr (KN.sA (by decide))))) ⟨zkp z (vot (zT z) (zH z) v), WZ_kp wz (HW_vot wz.1) (by have := wz.2.2.1; show (zH z).2.2.1 + 1 ≤ i + 5; omega), CR_so c1 o2 c2, by rw [gA_ss]; exact k4⟩
  · exact bad2_ok (-2) h (by rw [if_neg c, if_pos rfl]) (by rw [if_neg c, if_pos rfl])
theorem st_night : lw_st_night Iv := by
  intro i hi a μ ν h
  obtain ⟨z, wz, cz, mz⟩ := h.1
  unfold fX11_night fX12_night
  rw [m_inN 1 9 1 9 rfl rfl, w_eq]
  simp only [Option.bind_some]
  by_cases c : (1 : Int32) ≤ a ∧ a ≤ 9
  · rw [if_pos c, if_neg n10, if_neg n10]
    obtain ⟨μ1, e1, o1, c1⟩ := c_keep wz.1 wz.2.2.2.2.1 cz
    obtain ⟨μ2, e2, o2, c2, m2⟩ := c_snowOver (q := 21) (σ := zH z) (n := a) (Or.inl rfl) wz.1 (CTb_CT c1.1) c1.2.1
    obtain ⟨g1, f1, k1⟩ := m_keep wz.1 wz.2.2.2.1.1 wz.2.2.2.2.1 mz
    have k1' : MR (gA (sA ν 99 g1) 99) (zkp z (zH z)) := by rw [gA_ss]; exact k1
    obtain ⟨ν2, f2, q2, hH⟩ := m_layHand (τ := zT z) wz.1 k1'.1 k1'.2.1
    obtain ⟨ν3, f3, q3, hH3⟩ := m_goNight (n := a) wz.1 (by rw [HO_99 q2]; exact k1'.1) hH wz.2.1
    obtain ⟨g4, f4, k4⟩ := m_layNow (ν := ν3) (z := zkp z (zH z)) wz.1 (by rw [HO_99 q3, HO_99 q2]; exact k1') hH3
    rw [e1, f1]
    simp only [Option.bind_some]
    rw [e2, f2]
    simp only [Option.bind_some]
    rw [f3, b2_some, f4, m2.1]
    refine ⟨_, _, _, rfl, rfl, ?_⟩
    exact Iv_now h (by omega) (o1.kd.tr (KD.so (Or.inl rfl) o2)) ((KN.sA (by decide)).tr ((KN.ho q2).tr ((KN.ho q3).tr (KN.sA (by decide))))) ⟨zkp z (cds (zT z) (sno (zT z) (zH z) a)), WZ_kp wz (HW_cds wz.1) (by have := wz.2.2.1; show (zH z).2.2.1 ≤ i + 5; omega), CR_so c1 o2 c2, by rw [gA_ss]; exact k4⟩
  · exact bad2_ok (-2) h (by rw [if_neg c, if_pos rfl]) (by rw [if_neg c, if_pos rfl])
def zun (z : Sd) : Sd := (zT z, zQ z (zP z - 1), zN z, zV z, zB z, zP z - 1, zQ z)
theorem c_undo {μ : Mem} {z : Sd} (hw : WT (zT z)) (h0 : 0 < zP z) (h8 : zP z ≤ 8) (hc : CR 14 μ z) : ∃ μ', fX8_goBack 14 μ = some μ' ∧ BO 14 μ μ' ∧ CR 14 μ' (zun z) := by
  have hL := hw.1
  obtain ⟨t, s, n, p1, p2⟩ := hc
  obtain ⟨x1, x2, x3, x4⟩ := p2 (zP z - 1) (by omega)
  have i0 : nI (zP z) - 1 = nI (zP z - 1) := by
    have := nI_pred (zP z - 1)
    rw [show zP z - 1 + 1 = zP z by omega] at this
    exact this
  have e19 : nI (zP z - 1) * 19 = nI (19 * (zP z - 1)) := by rw [Nat.mul_comm]; exact pk_mul (zP z - 1) 19
  have x1' : ∀ k, k < tL (zT z) → gA μ 25 (19 * (zP z - 1) + k) = (zQ z (zP z - 1)).1 k ∧ gA μ 25 (19 * (zP z - 1) + 8 + k) = (zQ z (zP z - 1)).2.1 k := x1
  have x2' : gA μ 25 (19 * (zP z - 1) + 16) = nI (zQ z (zP z - 1)).2.2.1 := x2
  have x3' : gA μ 25 (19 * (zP z - 1) + 17) = (zQ z (zP z - 1)).2.2.2.1 := x3
  have x4' : gA μ 25 (19 * (zP z - 1) + 18) = (zQ z (zP z - 1)).2.2.2.2 := x4
  refine ⟨sF (sF (sF (sA (sA (sF μ 14 3 (nI (zP z - 1))) 22 (va_cpy (gA μ 25) (gA μ 22) (19 * (zP z - 1)) 0 8)) 23 (va_cpy (gA μ 25) (gA μ 23) (19 * (zP z - 1) + 8) 0 8)) 21 3 (nI (zQ z (zP z - 1)).2.2.1)) 21 4 (zQ z (zP z - 1)).2.2.2.1) 21 5 (zQ z (zP z - 1)).2.2.2.2, ?_, ?_, ?_⟩
  · unfold fX8_goBack
    rw [p1, if_neg (nI_nle h0 (by omega)), av_r14_1, av_r14_2, i0]
    simp only [Option.bind_some]
    rw [gF_sq, if_pos rfl, e19]
    unfold fX7_loadFrom
    rw [if_neg (nI_pos (by omega)), av_l25, show nI (19 * (zP z - 1)) + 19 = nI (19 * (zP z - 1) + 19) from nI_add _ 19, if_pos (nI_le (by omega) (by omega)), av_r21_1, av_r21_2, cpy_n (nI (19 * (zP z - 1))) 0 8 (19 * (zP z - 1)) 0 8 av_l25 av_l22 rfl rfl rfl (by omega) (by omega) (by decide) (by decide)]
    simp only [Option.bind_some]
    rw [show nI (19 * (zP z - 1)) + 8 = nI (19 * (zP z - 1) + 8) from nI_add _ 8, show nI (19 * (zP z - 1)) + 16 = nI (19 * (zP z - 1) + 16) from nI_add _ 16, show nI (19 * (zP z - 1) + 16) + 1 = nI (19 * (zP z - 1) + 17) from nI_add _ 1, show nI (19 * (zP z - 1) + 16) + 2 = nI (19 * (zP z - 1) + 18) from nI_add _ 2]
    rw [cpy_n (nI (19 * (zP z - 1) + 8)) 0 8 (19 * (zP z - 1) + 8) 0 8 av_l25 av_l23 rfl rfl rfl (by omega) (by omega) (by decide) (by decide)]
    simp only [Option.bind_some]
    have er : ∀ (μ1 : Mem) (k : Nat), k < 152 → rd μ1 25 (nI k) = some (gA μ1 25 k) := fun μ1 k hk => rd_nI av_l25 hk (by decide)
    rw [er _ _ (by omega)]
    simp only [Option.bind_some]
    rw [er _ _ (by omega)]
    simp only [Option.bind_some]
    rw [er _ _ (by omega)]
    simp only [Option.bind_some, gA_sF, gA_sn (show (25 : Nat) ≠ 23 by decide), gA_sn (show (25 : Nat) ≠ 22 by decide), gA_sn (show (23 : Nat) ≠ 22 by decide)]
    rw [x2', x3', x4']
  · exact ((((((BO.sF (by omega)).tr (BO.sA (by omega))).tr (BO.sA (by omega))).tr (BO.sF (by omega))).tr (BO.sF (by omega))).tr (BO.sF (by omega)))
  · refine ⟨t, ⟨fun k hk => ?_, rfl, rfl, rfl⟩, n, rfl, fun p hp => ?_⟩
    · have hk : k < tL (zT z) := hk
      show va_cpy (gA μ 25) (gA μ 22) (19 * (zP z - 1)) 0 8 k = (zQ z (zP z - 1)).1 k ∧ va_cpy (gA μ 25) (gA μ 23) (19 * (zP z - 1) + 8) 0 8 k = (zQ z (zP z - 1)).2.1 k
      rw [pk_cpy_in (by omega) (by omega), pk_cpy_in (by omega) (by omega), Nat.sub_zero]
      exact x1' k hk
    · have hp : p < zP z - 1 := hp
      exact p2 p (by omega)
theorem m_un39 {F : Nat → Int32} {o p : Nat} (ho : o = 69 + 19 * p) (hp : p < 8) : ∀ (d f i : Nat) (ν : Mem), d = 8 - i → i ≤ 8 → d < f → (∀ k, k < i → gA ν 99 (7 + 4 * k + 1) = F (o + k) ∧ gA ν 99 (7 + 4 * k + 2) = F (o + 8 + k)) → (∀ k, ¬ layw k → gA ν 99 k = F k) → ∃ g, fX12_undo_39 f (nI o) (nI i) ν = some (F (o + 16), sA ν 99 g) ∧ (∀ k, k < 8 → g (7 + 4 * k + 1) = F (o + k) ∧ g (7 + 4 * k + 2) = F (o + 8 + k)) ∧ (g 2 = F (o + 16) ∧ g 5 = F (o + 17) ∧ g 6 = F (o + 18)) ∧ (∀ k, ¬ layw k → g k = F k)
  | 0, f, i, ν, hd, hi, hf, h1, h2 => by
    obtain ⟨f, rfl⟩ : ∃ g, f = g + 1 := ⟨f - 1, by omega⟩
    obtain rfl : i = 8 := by omega
    have hh : ∀ j, j < 19 → gA ν 99 (o + j) = F (o + j) := fun j hj => h2 _ (by unfold layw; omega)
    refine ⟨upd (upd (upd (gA ν 99) 2 (F (o + 16))) 5 (F (o + 17))) 6 (F (o + 18)), ?_, fun k hk => ?_, ⟨?_, ?_, ?_⟩, fun k hk => ?_⟩
    · unfold fX12_undo_39
      rw [if_pos (by decide), r99 (o + 16) (nI o + 16) (nI_add o 16) (by omega), hh 16 (by decide)]
      simp only [Option.bind_some]
      rw [w99 2 2 rfl (by decide)]
      simp only [Option.bind_some]
      rw [r99 (o + 17) (nI o + 17) (nI_add o 17) (by omega), gA_ss, pk_un (by omega), hh 17 (by decide)]
      simp only [Option.bind_some]
      rw [w99 5 5 rfl (by decide)]
      simp only [Option.bind_some, sA_sA, gA_ss]
      rw [r99 (o + 18) (nI o + 18) (nI_add o 18) (by omega), gA_ss, pk_un (by omega), pk_un (by omega), hh 18 (by decide)]
      simp only [Option.bind_some]
      rw [w99 6 6 rfl (by decide)]
      simp only [Option.bind_some, sA_sA, gA_ss]
      rw [r99 2 2 rfl (by decide), gA_ss, pk_un (by omega), pk_un (by omega), pk_us]
      rfl
    · rw [pk_un (by omega), pk_un (by omega), pk_un (by omega), pk_un (by omega), pk_un (by omega), pk_un (by omega)]; exact h1 k hk
    · rw [pk_un (by omega), pk_un (by omega), pk_us]
    · rw [pk_un (by omega), pk_us]
    · rw [pk_us]
    · have hk' := hk
      unfold layw at hk'
      rw [pk_un (by omega), pk_un (by omega), pk_un (by omega)]; exact h2 k hk
  | d + 1, f, i, ν, hd, hi, hf, h1, h2 => by
    obtain ⟨f, rfl⟩ : ∃ g, f = g + 1 := ⟨f - 1, by omega⟩
    have hh : ∀ j, j < 19 → gA ν 99 (o + j) = F (o + j) := fun j hj => h2 _ (by unfold layw; omega)
    obtain ⟨g, e, hg⟩ := m_un39 (F := F) ho hp d f (i + 1) (sA ν 99 (upd (upd (gA ν 99) (7 + 4 * i + 1) (F (o + i))) (7 + 4 * i + 2) (F (o + 8 + i)))) (by omega) (by omega) (by omega) (fun k hk => by
      rw [gA_ss]
      by_cases c : k = i
      · subst c
        rw [pk_un (by omega), pk_us, pk_us]; exact ⟨rfl, rfl⟩
      · rw [pk_un (by omega), pk_un (by omega), pk_un (by omega), pk_un (by omega)]; exact h1 k (by omega)) (fun k hk => by
      have hk' := hk
      unfold layw at hk'
      rw [gA_ss, pk_un (by omega), pk_un (by omega)]; exact h2 k hk)
    refine ⟨g, ?_, hg⟩
    have c8 : ¬ (8 : Int32) ≤ nI i := nI_ge (a := i) (b := 8) (by omega) (by decide)
    have i8 : nI o + 8 + nI i = nI (o + 8 + i) := by rw [show (8 : Int32) = nI 8 from rfl, nI_add, nI_add]
    unfold fX12_undo_39
    rw [if_neg c8, r99 (o + i) _ (nI_add o i) (by omega), hh i (by omega)]
    simp only [Option.bind_some]
    rw [w99 (7 + 4 * i + 1) (7 + 4 * nI i + 1) (ix_get i 1) (by omega)]
    simp only [Option.bind_some]
    rw [r99 (o + 8 + i) _ i8 (by omega), gA_ss, pk_un (by omega), show o + 8 + i = o + (8 + i) by omega, hh (8 + i) (by omega)]
    simp only [Option.bind_some]
    rw [w99 (7 + 4 * i + 2) (7 + 4 * nI i + 2) (ix_get i 2) (by omega)]
    simp only [Option.bind_some, sA_sA, gA_ss]
    rw [nI_1, show o + (8 + i) = o + 8 + i by omega, e, sA_sA]
theorem st_undo : lw_st_undo Iv := by
  intro i hi μ ν h
  obtain ⟨z, wz, cz, mz⟩ := h.1
  have hL := wz.1.1
  have h8 := wz.2.2.2.2.1
  unfold fX11_undo fX12_undo
  rw [r99 4 4 rfl (by decide), mz.2.2.2.1, cz.2.2.2.1]
  simp only [bs]
  by_cases c : zP z = 0
  · exact no2_ok h (by rw [c, if_neg (by decide)]) (by rw [c, if_pos (by decide)])
  · have i0 : nI (zP z) - 1 = nI (zP z - 1) := by
      have := nI_pred (zP z - 1)
      rw [show zP z - 1 + 1 = zP z by omega] at this
      exact this
    have c0 : (0 : Int32) < nI (zP z) := nI_lt (a := 0) (by omega) (by omega)
    rw [if_pos c0, if_neg (nI_ne0 (by omega) (by omega)), i0, w99 4 4 rfl (by decide)]
    simp only [bs]
    rw [r99 4 4 rfl (by decide), gA_ss, pk_us]
    have i1 : (69 : Int32) + 19 * nI (zP z - 1) = nI (69 + 19 * (zP z - 1)) := by rw [show (69 : Int32) = nI 69 from rfl, show (19 : Int32) = nI 19 from rfl, pk_mul, nI_add]
    obtain ⟨μ', e1, o1, c1⟩ := c_undo wz.1 (by omega) h8 cz
    obtain ⟨x1, x2, x3, x4⟩ := mz.2.2.2.2 (zP z - 1) (by omega)
    obtain ⟨g, e2, g1, ⟨g2, g3, g4⟩, g5⟩ := m_un39 (F := upd (gA ν 99) 4 (nI (zP z - 1))) (o := 69 + 19 * (zP z - 1)) rfl (by omega) 8 av_big 0 (sA ν 99 (upd (gA ν 99) 4 (nI (zP z - 1)))) rfl (by decide) (by decide) (fun k hk => absurd hk (Nat.not_lt_zero k)) (fun k _ => by rw [gA_ss])
    rw [nI_0] at e2
    rw [bs, i1, e2, e1]
    simp only [bs]
    rw [show gF μ' 21 3 = _ from c1.2.1.2.1, sA_sA, pk_un (by omega), x2]
    refine ⟨_, _, _, rfl, rfl, ?_⟩
    refine Iv_now h (by omega) o1.kd (KN.sA (by decide)) ⟨zun z, ?_, c1, ?_⟩
    · obtain ⟨w1, w2, w3, w4, w5, w6⟩ := wz
      exact ⟨w1, (w6 _ (by omega)).1, by have := (w6 (zP z - 1) (by omega)).2; show (zQ z (zP z - 1)).2.2.1 ≤ i + 5; omega, w4, by show zP z - 1 ≤ 8; omega, fun p hp => by
        have hp : p < zP z - 1 := hp
        exact ⟨(w6 p (by omega)).1, by have := (w6 p (by omega)).2; show (zQ z p).2.2.1 ≤ i + 5; omega⟩⟩
    · rw [gA_ss]
      have hms : MS g (zT z) (zQ z (zP z - 1)) := by
        refine ⟨fun k hk => ?_, ?_, ?_, ?_⟩
        · obtain ⟨y1, y2⟩ := g1 k (by omega)
          rw [y1, y2, pk_un (by omega), pk_un (by omega)]; exact x1 k hk
        · rw [g2, pk_un (by omega)]; exact x2
        · rw [g3, pk_un (by omega)]; exact x3
        · rw [g4, pk_un (by omega)]; exact x4
      have hmr : MR (upd (gA ν 99) 4 (nI (zP z - 1))) (zT z, zH z, zN z, zV z, zB z, zP z - 1, zQ z) := by
        obtain ⟨⟨t1, t2, t3, t4⟩, ⟨s1, s2, s3, s4⟩, ⟨n1, n2⟩, p1, p2⟩ := mz
        refine ⟨⟨?_, ?_, fun k hk => ?_, fun v hv => ?_⟩, ⟨fun k hk => ?_, ?_, ?_, ?_⟩, ⟨?_, fun j hj => ?_⟩, ?_, fun p hp => ⟨fun k hk => ?_, ?_, ?_, ?_⟩⟩
        · rw [pk_un (by omega)]; exact t1
        · rw [pk_un (by omega)]; exact t2
        · rw [pk_un (by omega), pk_un (by omega)]; exact t3 k hk
        · rw [pk_un (by omega), pk_un (by omega), pk_un (by omega)]; exact t4 v hv
        · rw [pk_un (by omega), pk_un (by omega)]; exact s1 k hk
        · rw [pk_un (by omega)]; exact s2
        · rw [pk_un (by omega)]; exact s3
        · rw [pk_un (by omega)]; exact s4
        · rw [pk_un (by omega)]; exact n1
        · rw [pk_un (by omega), pk_un (by omega)]; exact n2 j hj
        · exact pk_us
        · have hp : p < zP z - 1 := hp
          rw [pk_un (by omega), pk_un (by omega)]; exact (p2 p (by omega)).1 k hk
        · have hp : p < zP z - 1 := hp
          rw [pk_un (by omega)]; exact (p2 p (by omega)).2.1
        · have hp : p < zP z - 1 := hp
          rw [pk_un (by omega)]; exact (p2 p (by omega)).2.2.1
        · have hp : p < zP z - 1 := hp
          rw [pk_un (by omega)]; exact (p2 p (by omega)).2.2.2
      exact MR_lay (z := (zT z, zH z, zN z, zV z, zB z, zP z - 1, zQ z)) wz.1 hmr hms g5
