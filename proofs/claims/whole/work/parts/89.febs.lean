/-! Step: februaries. -/
theorem lcg {x : Nat} (hx : x < 2147483648) : (lN x * 1103515245 + 12345) - (lN x * 1103515245 + 12345) / 2147483648 * 2147483648 = lN ((x * 1103515245 + 12345) % 2147483648) := by
  rw [show (1103515245 : Int64) = lN 1103515245 by decide, show (12345 : Int64) = lN 12345 by decide, show (2147483648 : Int64) = lN 2147483648 by decide, lN_mul, lN_add]
  exact pk_lRem (by omega) (by decide) (by decide)
theorem lcv {x V : Nat} (hx : x < 2147483648) (h0 : 0 < V) (h6 : V ≤ 6) : Int64.toInt32 ((lN x / 65536) - (lN x / 65536) / (Int32.toInt64 (nI V)) * (Int32.toInt64 (nI V))) = nI (x / 65536 % V) := by
  rw [nI_l (by omega), show (65536 : Int64) = lN 65536 by decide, pk_lDiv (by omega) (by decide) (by decide), pk_lRem (by omega) h0 (by omega), lN_i]
theorem lV_ne {V : Nat} (h0 : 0 < V) (h6 : V ≤ 6) : ¬ Int32.toInt64 (nI V) = 0 := by
  rw [nI_l (by omega), show (0 : Int64) = lN 0 by decide, pk_lEQ (by omega) (by decide)]
  omega
theorem m_fsum {ν : Mem} {τ : Td} {σ : Hd} (hw : WT τ) (hT : MT (gA ν 99) τ) (hS : HL ν τ σ) : ∀ (d f i : Nat), d = tL τ - i → i ≤ tL τ → d < f → fX12_februaries_110 f (sml σ i) (nI i) ν = some (sml σ (tL τ), ν)
  | 0, f, i, hd, hi, hf => by
    obtain ⟨f, rfl⟩ : ∃ g, f = g + 1 := ⟨f - 1, by omega⟩
    have h8 := hw.1
    obtain rfl : i = tL τ := by omega
    unfold fX12_februaries_110
    rw [m_ledges hT, bs, if_pos (nI_le (by omega) (by omega))]
  | d + 1, f, i, hd, hi, hf => by
    obtain ⟨f, rfl⟩ : ∃ g, f = g + 1 := ⟨f - 1, by omega⟩
    have h8 := hw.1
    have ih := m_fsum hw hT hS d f (i + 1) (by omega) (by omega) (by omega)
    unfold fX12_februaries_110
    rw [m_ledges hT, bs, if_neg (nI_ge (by omega) (by omega)), m_load hw hS (by omega), bs, bs, bs, nI_1]
    exact ih
theorem febs_loop {τ : Td} {n : Nat} (hw : WT τ) (hV : 0 < tV τ) (hn : n ≤ 60) : ∀ (d f g i : Nat) (x : Nat) (σ : Hd) (μ ν : Mem), d = n - i → i ≤ n → d < f → d < g → x < 2147483648 → HW σ → σ.2.2.1 + d < 2 ^ 30 → CT μ τ → CS μ τ 70 σ → MT (gA ν 99) τ → HS ν τ σ → ∃ r μ' ν', fX1_loadAfter_12 f (nI n) 70 (lN x) (nI i) μ = some (r, μ') ∧ fX12_februaries_60 g (nI n) (lN x) (nI i) ν = some (r, ν') ∧ SO 70 μ μ' ∧ HO ν ν'
  | 0, f, g, i, x, σ, μ, ν, hd, hi, hf, hg, hx, hW, hs, hT, hS, hT1, hH => by
    obtain ⟨f, rfl⟩ : ∃ t, f = t + 1 := ⟨f - 1, by omega⟩
    obtain ⟨g, rfl⟩ : ∃ t, g = t + 1 := ⟨g - 1, by omega⟩
    obtain rfl : i = n := by omega
    have hq : SQ 70 := Or.inr (Or.inl rfl)
    refine ⟨sml σ (tL τ), μ, ν, ?_, ?_, SO.rf, HO.rf⟩
    · unfold fX1_loadAfter_12 fX1_loadAfter_70
      rw [if_pos (nI_le (by omega) (by omega)), c_loadOfAll hq hw hT hS.1, bs]
    · have e := m_fsum hw hT1 hH.1 (tL τ) av_big 0 (by omega) (by omega) (by have := hw.1; show _ < 1000000; omega)
      rw [nI_0, show sml σ 0 = 0 from rfl] at e
      unfold fX12_februaries_60
      rw [if_pos (nI_le (by omega) (by omega))]
      exact e
  | d + 1, f, g, i, x, σ, μ, ν, hd, hi, hf, hg, hx, hW, hs, hT, hS, hT1, hH => by
    obtain ⟨f, rfl⟩ : ∃ t, f = t + 1 := ⟨f - 1, by omega⟩
    obtain ⟨g, rfl⟩ : ∃ t, g = t + 1 := ⟨g - 1, by omega⟩
    have v6 := hw.2.1
    have hq : SQ 70 := Or.inr (Or.inl rfl)
    have hy : (x * 1103515245 + 12345) % 2147483648 < 2147483648 := Nat.mod_lt _ (by decide)
    generalize hyy : (x * 1103515245 + 12345) % 2147483648 = y at hy
    have hv : y / 65536 % tV τ < tV τ := Nat.mod_lt _ hV
    obtain ⟨μ1, e1, s1, h1, -⟩ := c_cast hq hw hT hS hv (by omega)
    obtain ⟨ν1, f1, o1, g1⟩ := m_goVote hw hT1 hH hW (by omega) hv
    obtain ⟨r, μ2, ν2, x1, x2, x3, x4⟩ := febs_loop hw hV hn d f g (i + 1) y (vot τ σ (y / 65536 % tV τ)) μ1 ν1 (by omega) (by omega) (by omega) (by omega) hy (HW_vot hw) (by rw [vot_v]; omega) (SO_CT hq s1 hT) h1 (by rw [HO_99 o1]; exact hT1) g1
    refine ⟨r, μ2, ν2, ?_, ?_, s1.tr x3, o1.tr x4⟩
    · unfold fX1_loadAfter_12
      rw [if_neg (nI_ge (by omega) (by omega)), hT.2.1, if_neg (nI_nle hV (by omega)), lcg hx, hyy, bs, if_neg (lV_ne hV v6), lcv hy hV v6, e1, bs, bs, nI_1]
      exact x1
    · unfold fX12_februaries_60
      rw [if_neg (nI_ge (by omega) (by omega)), lcg hx, hyy, bs, m_voters hT1, bs, if_neg (lV_ne hV v6), lcv hy hV v6, f1, b2_some, bs, nI_1]
      exact x2
theorem st_februaries : lw_st_februaries Iv := by
  intro i hi a w μ ν h
  obtain ⟨z, wz, cz, mz⟩ := h.1
  have l8 := wz.1.1
  have v6 := wz.1.2.1
  unfold fX11_februaries fX12_februaries fX11_februaries_20 fX12_februaries_24 fX11_februaries_53 fX12_februaries_45
  rw [m_inN 0 999999 0 999999 rfl rfl, w_eq, m_inN 0 60 0 60 rfl rfl, w_eq, m_voters mz.1, m_ledges mz.1, show gF μ 15 4 = _ from cz.1.2.1, show gF μ 15 1 = _ from cz.1.1]
  simp only [bs]
  by_cases c1 : (0 : Int32) ≤ a ∧ a ≤ 999999
  · rw [if_pos c1, if_neg n10, if_neg n10]
    by_cases c2 : (0 : Int32) ≤ w ∧ w ≤ 60
    · obtain ⟨n, hn, rfl⟩ := ix_out (a := w) (n := 61) (by decide) ⟨c2.1, c2.2⟩
      rw [if_pos c2, if_neg n10, if_neg n10]
      by_cases c3 : tV (zT z) = 0
      · exact no2_ok h (by rw [c3, if_pos (by decide)]) (by rw [c3, if_pos (by decide)])
      · rw [if_neg (nI_nle (by omega) (by omega)), if_neg (nI_ne0 (by omega) (by omega))]
        by_cases c4 : tL (zT z) = 0
        · exact no2_ok h (by rw [c4, if_neg (by decide)]) (by rw [c4, if_pos (by decide)])
        · have c5 : (0 : Int32) < nI (tL (zT z)) := nI_lt (a := 0) (by omega) (by omega)
          rw [if_pos c5, if_neg (nI_ne0 (by omega) (by omega))]
          obtain ⟨x, hx, rfl⟩ : ∃ x, x < 2147483648 ∧ a = nI x := by
            obtain ⟨j, hj, e⟩ := nI_of2 (n := 999999) (M := 999999) (by decide) (Int32.not_lt.mpr c1.1) c1.2
            exact ⟨j, by omega, e⟩
          obtain ⟨μ1, e1, s1, h1⟩ := c_fresh wz.1 cz.2.1
          obtain ⟨ν1, f1, o1, hH⟩ := m_layHand wz.1 mz.1 mz.2.1
          obtain ⟨r, μ2, ν2, x1, x2, x3, x4⟩ := febs_loop (n := n) wz.1 (by omega) (by omega) n av_big av_big 0 x (zH z) μ1 ν1 (by omega) (by omega) (by show _ < 1000000; omega) (by show _ < 1000000; omega) hx wz.2.1 (by have := wz.2.2.1; omega) (SO_CT (Or.inr (Or.inl rfl)) s1 (CTb_CT cz.1)) h1 (by rw [HO_99 o1]; exact mz.1) hH
          rw [nI_0] at x1 x2
          unfold fX1_loadAfter
          rw [e1, b2_some, bs, f1, bs, nI_l (by omega), x1, b2_some, x2]
          exact ⟨r, μ2, ν2, rfl, rfl, Iv_5 (Iv_keep ((KC.so (by omega) s1).tr (KC.so (by omega) x3)) (KM.ho (o1.tr x4)) h)⟩
    · exact bad2_ok (-2) h (by rw [if_neg c2, if_pos rfl]) (by rw [if_neg c2, if_pos rfl])
  · exact bad2_ok (-2) h (by rw [if_neg c1, if_pos rfl]) (by rw [if_neg c1, if_pos rfl])
