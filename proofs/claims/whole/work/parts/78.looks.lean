/-! Steps: of, about, is, february, buried, nights. -/
theorem bad2_ok {i : Nat} {μ ν : Mem} {A B : Option (Int32 × Mem)} (r : Int32) (h : Iv i μ ν) (hA : A = av_b2 (fX11_bad r μ) fun a b => some (a, b)) (hB : B = av_b2 (fX12_bad r ν) fun a b => some (a, b)) : ∃ (r : Int32) (μ' ν' : Mem), A = some (r, μ') ∧ B = some (r, ν') ∧ Iv (i + 5) μ' ν' := by
  obtain ⟨μ', ν', e1, e2, hI⟩ := bad_ok r h
  exact ⟨r, μ', ν', by rw [hA, e1]; rfl, by rw [hB, e2]; rfl, hI⟩
theorem no2_ok {i : Nat} {μ ν : Mem} {A B : Option (Int32 × Mem)} (h : Iv i μ ν) (hA : A = av_b2 (fX11_no μ) fun a b => some (a, b)) (hB : B = av_b2 (fX12_no ν) fun a b => some (a, b)) : ∃ (r : Int32) (μ' ν' : Mem), A = some (r, μ') ∧ B = some (r, ν') ∧ Iv (i + 5) μ' ν' := by
  obtain ⟨μ', ν', e1, e2, hI⟩ := no_ok h
  exact ⟨_, μ', ν', by rw [hA, e1]; rfl, by rw [hB, e2]; rfl, hI⟩
theorem full2_ok {i : Nat} {μ ν : Mem} {A B : Option (Int32 × Mem)} (h : Iv i μ ν) (hA : A = av_b2 (fX11_full μ) fun a b => some (a, b)) (hB : B = av_b2 (fX12_full ν) fun a b => some (a, b)) : ∃ (r : Int32) (μ' ν' : Mem), A = some (r, μ') ∧ B = some (r, ν') ∧ Iv (i + 5) μ' ν' := by
  obtain ⟨μ', ν', e1, e2, hI⟩ := full_ok h
  exact ⟨_, μ', ν', by rw [hA, e1]; rfl, by rw [hB, e2]; rfl, hI⟩
theorem st_of : lw_st_of Iv := by
  intro i hi a w μ ν h
  obtain ⟨z, wz, cz, mz⟩ := h.1
  have h8 := wz.1.1
  unfold fX11_of fX12_of fX12_of_29
  rw [c_isLedge (CTb_CT cz.1), m_isLedge mz.1, m_inN 0 3 0 3 rfl rfl]
  simp only [Option.bind_some]
  by_cases c : (0 : Int32) ≤ a ∧ a ≤ nI (tL (zT z)) - 1
  · obtain ⟨k, hk, rfl⟩ := ix_out (by omega) c
    rw [if_pos c, if_neg n10, if_neg n10]
    by_cases c2 : (0 : Int32) ≤ w ∧ w ≤ 3
    · obtain ⟨j, hj, rfl⟩ := ix_out (a := w) (n := 4) (by decide) ⟨c2.1, c2.2⟩
      rw [if_pos c2, if_neg n10, m_get (by omega) hj]
      simp only [Option.bind_some]
      obtain ⟨b1, b2⟩ := mz.1.2.2.1 k hk
      obtain ⟨b3, b4⟩ := mz.2.1.1 k hk
      obtain ⟨d1, d2⟩ := cz.1.2.2.1 k hk
      obtain ⟨d3, d4⟩ := cz.2.1.1 k hk
      have : j = 0 ∨ j = 1 ∨ j = 2 ∨ j = 3 := by omega
      rcases this with rfl | rfl | rfl | rfl
      · exact ⟨nI (tH (zT z) k), μ, ν, by rw [if_pos (by decide), rd_nI av_l16 (by omega) (by omega), show gA μ 16 k = _ from d1]; rfl, by rw [Nat.add_zero, b1], Iv_5 h⟩
      · exact ⟨(zH z).1 k, μ, ν, by rw [if_neg (by decide), if_pos (by decide), rd_nI av_l22 (by omega) (by omega), show gA μ 22 k = _ from d3]; rfl, by rw [b3], Iv_5 h⟩
      · exact ⟨(zH z).2.1 k, μ, ν, by rw [if_neg (by decide), if_neg (by decide), if_pos (by decide), rd_nI av_l23 (by omega) (by omega), show gA μ 23 k = _ from d4]; rfl, by rw [b4], Iv_5 h⟩
      · exact ⟨bI (tB (zT z) k), μ, ν, by rw [if_neg (by decide), if_neg (by decide), if_neg (by decide), if_pos (by decide), rd_nI av_l17 (by omega) (by omega), show gA μ 17 k = _ from d2]; rfl, by rw [b2], Iv_5 h⟩
    · refine bad2_ok (-10) h ?_ ?_
      · rw [if_neg (fun e => c2 (by rw [e]; decide)), if_neg (fun e => c2 (by rw [e]; decide)), if_neg (fun e => c2 (by rw [e]; decide)), if_neg (fun e => c2 (by rw [e]; decide))]
      · rw [if_neg c2, if_pos rfl]
  · exact bad2_ok (-10) h (by rw [if_neg c, if_pos rfl]) (by rw [if_neg c, if_pos rfl])
theorem c_placeAs {μ : Mem} {τ : Td} {σ : Hd} {kd v : Nat} (hw : WT τ) (hT : CT μ τ) (hS : CS μ τ 21 σ) (hn : σ.2.2.1 < 2 ^ 31) (hk : kd < 6) (hv : v < tV τ) : fX11_placeAs (nI kd) (nI v) μ = some (nI (wh τ σ kd (tG τ v) (tS τ v))) := by
  have h6 := hw.2.1
  obtain ⟨hK, hG, -, hS9⟩ := hw.2.2.2.2 v hv
  obtain ⟨eK, eG, eS⟩ := hT.2.2.2 v hv
  unfold fX11_placeAs
  rw [c_kindOf hk, rd_nI av_l19 (by omega) (by omega), rd_nI av_l20 (by omega) (by omega), eG, eS]
  simp only [Option.bind_some]
  have := c_place (Or.inl rfl) hw hT hS.1 hS.2.1 hn hk hG hS9
  rw [show dv_X11_285 (2 + kd) 21 (nI (tG τ v)) (nI (tS τ v)) μ = dv_X7_69 (2 + kd) 21 (nI (tG τ v)) (nI (tS τ v)) μ from rfl, this]
  rfl
theorem c_heftAs {μ : Mem} {τ : Td} {kd v : Nat} (hw : WT τ) (hT : CT μ τ) (hk : kd < 6) (hv : v < tV τ) : fX11_heftAs (nI kd) (nI v) μ = some (nI (hf kd (tS τ v))) := by
  have h6 := hw.2.1
  obtain ⟨hK, hG, -, hS9⟩ := hw.2.2.2.2 v hv
  obtain ⟨eK, eG, eS⟩ := hT.2.2.2 v hv
  unfold fX11_heftAs
  rw [c_kindOf hk, rd_nI av_l20 (by omega) (by omega), eS]
  simp only [Option.bind_some]
  rw [show dv_X11_289 (2 + kd) (nI (tS τ v)) μ = dv_X7_75 (2 + kd) (nI (tS τ v)) μ from rfl, c_heft hk hS9]
  rfl
theorem st_about : lw_st_about Iv := by
  intro i hi a w μ ν h
  obtain ⟨z, wz, cz, mz⟩ := h.1
  have h6 := wz.1.2.1
  have hn : (zH z).2.2.1 < 2 ^ 31 := by have := wz.2.2.1; omega
  unfold fX11_about fX12_about fX12_about_20
  rw [c_isVoter (CTb_CT cz.1), m_isVoter mz.1, m_inN 0 4 0 4 rfl rfl]
  simp only [Option.bind_some]
  by_cases c : (0 : Int32) ≤ a ∧ a ≤ nI (tV (zT z)) - 1
  · obtain ⟨v, hv, rfl⟩ := ix_out (by omega) c
    rw [if_pos c, if_neg n10, if_neg n10]
    by_cases c2 : (0 : Int32) ≤ w ∧ w ≤ 4
    · obtain ⟨j, hj, rfl⟩ := ix_out (a := w) (n := 5) (by decide) ⟨c2.1, c2.2⟩
      rw [if_pos c2, if_neg n10]
      obtain ⟨ν1, e1, o1, hH⟩ := m_layHand wz.1 mz.1 mz.2.1
      have hT1 : MT (gA ν1 99) (zT z) := by rw [HO_99 o1]; exact mz.1
      have hI : Iv (i + 5) μ ν1 := Iv_5 (Iv_keep KC.rf (KM.ho o1) h)
      rw [e1]
      simp only [Option.bind_some]
      obtain ⟨eK, eG, eS⟩ := (CTb_CT cz.1).2.2.2 v hv
      obtain ⟨f0, f1, f2⟩ := m_tell3 wz.1 hT1 hv
      obtain ⟨hK, hG, -, hS9⟩ := wz.1.2.2.2.2 v hv
      have : j = 0 ∨ j = 1 ∨ j = 2 ∨ j = 3 ∨ j = 4 := by omega
      rcases this with rfl | rfl | rfl | rfl | rfl
      · exact ⟨nI (tK (zT z) v), μ, ν1, by rw [if_pos (by decide), rd_nI av_l18 (by omega) (by omega), eK]; rfl, by rw [if_neg (by decide), show nI 0 = 0 from rfl, f0]; rfl, hI⟩
      · exact ⟨nI (tG (zT z) v), μ, ν1, by rw [if_neg (by decide), if_pos (by decide), rd_nI av_l19 (by omega) (by omega), eG]; rfl, by rw [if_neg (by decide), show nI 1 = 1 from rfl, f1]; rfl, hI⟩
      · exact ⟨nI (tS (zT z) v), μ, ν1, by rw [if_neg (by decide), if_neg (by decide), if_pos (by decide), rd_nI av_l20 (by omega) (by omega), eS]; rfl, by rw [if_neg (by decide), show nI 2 = 2 from rfl, f2]; rfl, hI⟩
      · refine ⟨nI (wh (zT z) (zH z) (tK (zT z) v) (tG (zT z) v) (tS (zT z) v)), μ, ν1, ?_, ?_, hI⟩
        · rw [if_neg (by decide), if_neg (by decide), if_neg (by decide), if_pos (by decide), rd_nI av_l18 (by omega) (by omega), eK]
          simp only [Option.bind_some]
          rw [c_placeAs wz.1 (CTb_CT cz.1) cz.2.1 hn hK hv]
          rfl
        · rw [if_pos (by decide), if_pos (by decide), m_whereBy wz.1 hT1 hH.1 hH.2.1 hn hv]
          rfl
      · refine ⟨nI (hf (tK (zT z) v) (tS (zT z) v)), μ, ν1, ?_, ?_, hI⟩
        · rw [if_neg (by decide), if_neg (by decide), if_neg (by decide), if_neg (by decide), if_pos (by decide), rd_nI av_l18 (by omega) (by omega), eK]
          simp only [Option.bind_some]
          rw [c_heftAs wz.1 (CTb_CT cz.1) hK hv]
          rfl
        · rw [if_pos (by decide), if_neg (by decide), m_heavyBy wz.1 hT1 hv]
          rfl
    · refine bad2_ok (-2) h ?_ ?_
      · rw [if_neg (fun e => c2 (by rw [e]; decide)), if_neg (fun e => c2 (by rw [e]; decide)), if_neg (fun e => c2 (by rw [e]; decide)), if_neg (fun e => c2 (by rw [e]; decide)), if_neg (fun e => c2 (by rw [e]; decide))]
      · rw [if_neg c2, if_pos rfl]
  · exact bad2_ok (-2) h (by rw [if_neg c, if_pos rfl]) (by rw [if_neg c, if_pos rfl])
theorem is_loop {μ ν : Mem} {τ : Td} {σ : Hd} {v : Nat} (hw : WT τ) (hT : CT μ τ) (hS : CS μ τ 21 σ) (hT1 : MT (gA ν 99) τ) (hH : HS ν τ σ) (hn : σ.2.2.1 < 2 ^ 31) (hv : v < tV τ) (x2 x3 : Int32) : ∀ (d f g j : Nat) (x4 : Int32), d = 6 - j → j ≤ 6 → d < f → d < g → ∃ r, fX11_is_39 f (nI v) x2 x3 x4 (nI j) μ = some (r, μ) ∧ fX12_is_45 g (nI v) x2 x3 x4 (nI j) ν = some (r, ν)
  | 0, f, g, j, x4, hd, hj, hff, hg => by
    obtain ⟨f, rfl⟩ : ∃ t, f = t + 1 := ⟨f - 1, by omega⟩
    obtain ⟨g, rfl⟩ : ∃ t, g = t + 1 := ⟨g - 1, by omega⟩
    obtain rfl : j = 6 := by omega
    refine ⟨x4, ?_, ?_⟩
    · unfold fX11_is_39; rw [if_pos (by decide)]
    · unfold fX12_is_45; rw [if_pos (by decide)]
  | d + 1, f, g, j, x4, hd, hj, hff, hg => by
    obtain ⟨f, rfl⟩ : ∃ t, f = t + 1 := ⟨f - 1, by omega⟩
    obtain ⟨g, rfl⟩ : ∃ t, g = t + 1 := ⟨g - 1, by omega⟩
    obtain ⟨f0, f1, f2⟩ := m_tell3 hw hT1 hv
    obtain ⟨hK, hG, -, hS9⟩ := hw.2.2.2.2 v hv
    have j5 : ¬ (5 : Int32) < nI j := nI_nlt (a := 5) (b := j) (by omega) (by omega)
    have j6 : ¬ (6 : Int32) ≤ nI j := nI_ge (a := j) (b := 6) (by omega) (by omega)
    unfold fX11_is_39 fX12_is_45
    rw [if_neg j5, if_neg j6, c_placeAs hw hT hS hn (by omega) hv, f1, f2, c_heftAs hw hT (by omega) hv]
    simp only [Option.bind_some]
    rw [m_where hw hT1 hH.1 hH.2.1 hn (by omega) hG hS9, m_heavy (by omega) hS9]
    simp only [Option.bind_some]
    unfold fX11_is_76 fX12_is_94 fX12_is_95 fX12_is_112
    simp only [Option.bind_some]
    rw [nI_1]
    by_cases c1 : nI (wh τ σ j (tG τ v) (tS τ v)) = x2
    · rw [if_pos c1, if_pos c1]
      by_cases c2 : nI (hf j (tS τ v)) = x3
      · rw [if_pos c2, if_pos c2, if_neg n10]
        exact is_loop hw hT hS hT1 hH hn hv x2 x3 d f g (j + 1) _ (by omega) (by omega) (by omega) (by omega)
      · rw [if_neg c2, if_neg c2, if_pos trivial, show x4 ||| 0 = x4 from Int32.or_zero]
        exact is_loop hw hT hS hT1 hH hn hv x2 x3 d f g (j + 1) _ (by omega) (by omega) (by omega) (by omega)
    · rw [if_neg c1, if_neg c1, if_pos trivial, show x4 ||| 0 = x4 from Int32.or_zero]
      exact is_loop hw hT hS hT1 hH hn hv x2 x3 d f g (j + 1) _ (by omega) (by omega) (by omega) (by omega)
theorem st_is : lw_st_is Iv := by
  intro i hi a b w μ ν h
  obtain ⟨z, wz, cz, mz⟩ := h.1
  have h6 := wz.1.2.1
  have h8 := wz.1.1
  have hn : (zH z).2.2.1 < 2 ^ 31 := by have := wz.2.2.1; omega
  unfold fX11_is fX12_is fX11_is_26 fX12_is_28
  rw [c_isVoter (CTb_CT cz.1), m_isVoter mz.1, c_isLedge (CTb_CT cz.1), m_isLedge mz.1, m_inN 1 20 1 20 rfl rfl, w_eq]
  simp only [Option.bind_some]
  by_cases c : (0 : Int32) ≤ a ∧ a ≤ nI (tV (zT z)) - 1
  · obtain ⟨v, hv, rfl⟩ := ix_out (by omega) c
    rw [if_pos c, if_neg n10, if_neg n10]
    by_cases c2 : (0 : Int32) ≤ b ∧ b ≤ nI (tL (zT z)) - 1
    · rw [if_pos c2, if_neg n10, if_neg n10]
      by_cases c3 : (1 : Int32) ≤ w ∧ w ≤ 20
      · rw [if_pos c3, if_neg n10, if_neg n10]
        obtain ⟨ν1, e1, o1, hH⟩ := m_layHand wz.1 mz.1 mz.2.1
        have hT1 : MT (gA ν1 99) (zT z) := by rw [HO_99 o1]; exact mz.1
        have hI : Iv (i + 5) μ ν1 := Iv_5 (Iv_keep KC.rf (KM.ho o1) h)
        rw [e1]
        simp only [Option.bind_some]
        obtain ⟨r, x1, x2⟩ := is_loop wz.1 (CTb_CT cz.1) cz.2.1 hT1 hH hn hv b w 6 av_big av_big 0 0 rfl (by decide) (by decide) (by decide)
        exact ⟨r, μ, ν1, x1, x2, hI⟩
      · exact bad2_ok (-2) h (by rw [if_neg c3, if_pos rfl]) (by rw [if_neg c3, if_pos rfl])
    · exact bad2_ok (-2) h (by rw [if_neg c2, if_pos rfl]) (by rw [if_neg c2, if_pos rfl])
  · exact bad2_ok (-2) h (by rw [if_neg c, if_pos rfl]) (by rw [if_neg c, if_pos rfl])
/-- all votes from v on -/
def vts (τ : Td) (σ : Hd) : Nat → Hd
  | 0 => σ
  | n + 1 => vot τ (vts τ σ n) n
theorem cds_v {τ : Td} {σ : Hd} : (cds τ σ).2.2.1 = σ.2.2.1 := rfl
theorem vot_v {τ : Td} {σ : Hd} {v : Nat} : (vot τ σ v).2.2.1 = σ.2.2.1 + 1 := rfl
theorem vts_v {τ : Td} {σ : Hd} : ∀ n, (vts τ σ n).2.2.1 = σ.2.2.1 + n
  | 0 => rfl
  | n + 1 => by rw [vts, vot_v, vts_v n]; omega
theorem HW_vts {τ : Td} {σ : Hd} (hw : WT τ) (h : HW σ) : ∀ n, HW (vts τ σ n)
  | 0 => h
  | n + 1 => HW_vot hw
theorem c_feb {τ : Td} {σ : Hd} (hw : WT τ) (hn : σ.2.2.1 < 2 ^ 30) : ∀ (d f i : Nat) (μ : Mem), d = tV τ - i → i ≤ tV τ → d < f → CT μ τ → CS μ τ 70 (vts τ σ i) → ∃ μ', fX1_afterFebruary_7 f 70 (nI i) μ = some (70, μ') ∧ SO 70 μ μ' ∧ CS μ' τ 70 (vts τ σ (tV τ))
  | 0, f, i, μ, hd, hi, hf, hT, hS => by
    obtain ⟨f, rfl⟩ : ∃ g, f = g + 1 := ⟨f - 1, by omega⟩
    have h6 := hw.2.1
    obtain rfl : i = tV τ := by omega
    refine ⟨μ, ?_, SO.rf, hS⟩
    unfold fX1_afterFebruary_7
    rw [hT.2.1, if_pos (nI_le (by omega) (by omega))]
  | d + 1, f, i, μ, hd, hi, hf, hT, hS => by
    obtain ⟨f, rfl⟩ : ∃ g, f = g + 1 := ⟨f - 1, by omega⟩
    have h6 := hw.2.1
    have hq : SQ 70 := Or.inr (Or.inl rfl)
    obtain ⟨μ1, e1, s1, h1, -⟩ := c_cast hq hw hT hS (show i < tV τ by omega) (by rw [vts_v]; omega)
    obtain ⟨μ2, e2, s2, h2⟩ := c_feb hw hn d f (i + 1) μ1 (by omega) (by omega) (by omega) (SO_CT hq s1 hT) h1
    refine ⟨μ2, ?_, s1.tr s2, h2⟩
    unfold fX1_afterFebruary_7
    rw [hT.2.1, if_neg (nI_ge (by omega) (by omega)), e1]
    simp only [Option.bind_some]
    rw [nI_1]
    exact e2
theorem m_feb {τ : Td} {σ : Hd} (hw : WT τ) (hW : HW σ) (hn : σ.2.2.1 < 2 ^ 30) (x : Int32) : ∀ (d f i : Nat) (ν : Mem), d = tV τ - i → i ≤ tV τ → d < f → MT (gA ν 99) τ → HS ν τ (vts τ σ i) → ∃ ν', fX12_february_23 f x (nI i) ν = some (if x = 0 then (vts τ σ (tV τ)).2.2.2.1 else (vts τ σ (tV τ)).2.2.2.2, ν') ∧ HO ν ν'
  | 0, f, i, ν, hd, hi, hf, hT, hS => by
    obtain ⟨f, rfl⟩ : ∃ g, f = g + 1 := ⟨f - 1, by omega⟩
    have h6 := hw.2.1
    obtain rfl : i = tV τ := by omega
    refine ⟨ν, ?_, HO.rf⟩
    unfold fX12_february_23
    rw [m_voters hT]
    simp only [Option.bind_some]
    rw [if_pos (nI_le (by omega) (by omega)), hS.2.2.1, hS.2.2.2]
    split <;> rfl
  | d + 1, f, i, ν, hd, hi, hf, hT, hS => by
    obtain ⟨f, rfl⟩ : ∃ g, f = g + 1 := ⟨f - 1, by omega⟩
    have h6 := hw.2.1
    obtain ⟨ν1, e1, s1, h1⟩ := m_goVote hw hT hS (HW_vts hw hW i) (by rw [vts_v]; omega) (show i < tV τ by omega)
    obtain ⟨ν2, e2, s2⟩ := m_feb hw hW hn x d f (i + 1) ν1 (by omega) (by omega) (by omega) (by rw [HO_99 s1]; exact hT) h1
    refine ⟨ν2, ?_, s1.tr s2⟩
    unfold fX12_february_23
    rw [m_voters hT]
    simp only [Option.bind_some]
    rw [if_neg (nI_ge (by omega) (by omega)), e1, b2_some, nI_1]
    exact e2
theorem st_february : lw_st_february Iv := by
  intro i hi a μ ν h
  obtain ⟨z, wz, cz, mz⟩ := h.1
  have h6 := wz.1.2.1
  have hn : (zH z).2.2.1 < 2 ^ 30 := by have := wz.2.2.1; omega
  unfold fX11_february fX12_february fX1_afterFebruary
  rw [m_inN 0 1 0 1 rfl rfl, w_eq]
  simp only [Option.bind_some]
  by_cases c : (0 : Int32) ≤ a ∧ a ≤ 1
  · rw [if_pos c, if_neg n10, if_neg n10]
    obtain ⟨μ1, e1, s1, h1⟩ := c_fresh wz.1 cz.2.1
    obtain ⟨μ2, e2, s2, h2⟩ := c_feb wz.1 hn (tV (zT z)) av_big 0 μ1 (by omega) (by omega) (by show _ < 1000000; omega) (SO_CT (Or.inr (Or.inl rfl)) s1 (CTb_CT cz.1)) h1
    obtain ⟨ν1, f1, o1, hH⟩ := m_layHand wz.1 mz.1 mz.2.1
    obtain ⟨ν2, f2, o2⟩ := m_feb wz.1 wz.2.1 hn a (tV (zT z)) av_big 0 ν1 (by omega) (by omega) (by show _ < 1000000; omega) (by rw [HO_99 o1]; exact mz.1) hH
    have e2' : fX1_afterFebruary_7 av_big 70 0 μ1 = some (70, μ2) := e2
    rw [e1, b2_some, e2', b2_some, f1]
    simp only [Option.bind_some]
    refine ⟨_, μ2, ν2, ?_, f2, Iv_5 (Iv_keep ((KC.so (by omega) s1).tr (KC.so (by omega) s2)) (KM.ho (o1.tr o2)) h)⟩
    rw [show gF μ2 70 4 = _ from h2.2.2.1, show gF μ2 70 5 = _ from h2.2.2.2]
    by_cases c0 : a = 0
    · rw [if_pos c0, if_pos c0]
    · rw [if_neg c0, if_neg c0]
  · exact bad2_ok (-2) h (by rw [if_neg c, if_pos rfl]) (by rw [if_neg c, if_pos rfl])
theorem st_buried : lw_st_buried Iv := by
  intro i hi a w μ ν h
  obtain ⟨z, wz, cz, mz⟩ := h.1
  have h8 := wz.1.1
  unfold fX11_buried fX12_buried fX11_buried_18 fX12_buried_20 fX1_buriedBy
  rw [c_isLedge (CTb_CT cz.1), m_isLedge mz.1, m_inN 1 20 1 20 rfl rfl, w_eq]
  simp only [Option.bind_some]
  by_cases c : (0 : Int32) ≤ a ∧ a ≤ nI (tL (zT z)) - 1
  · obtain ⟨k, hk, rfl⟩ := ix_out (by omega) c
    rw [if_pos c, if_neg n10, if_neg n10]
    by_cases c3 : (1 : Int32) ≤ w ∧ w ≤ 20
    · rw [if_pos c3, if_neg n10, if_neg n10]
      have hq : SQ 70 := Or.inr (Or.inl rfl)
      obtain ⟨μ1, e1, s1, h1⟩ := c_fresh wz.1 cz.2.1
      obtain ⟨μ2, e2, s2, h2⟩ := c_lay (n := w) hq wz.1 (SO_CT hq s1 (CTb_CT cz.1)) h1 hk
      obtain ⟨μ3, e3, s3, h3, m3⟩ := f_comeDown hq wz.1 (SO_CT hq s2 (SO_CT hq s1 (CTb_CT cz.1))) h2
      obtain ⟨ν1, f1, o1, hH⟩ := m_layHand wz.1 mz.1 mz.2.1
      obtain ⟨ν2, f2, o2, -, k2⟩ := m_goStone (n := w) wz.1 (by rw [HO_99 o1]; exact mz.1) hH wz.2.1 hk
      rw [e1, b2_some, e2]
      simp only [Option.bind_some]
      rw [e3, f1]
      simp only [Option.bind_some]
      rw [f2, b2_some, b2_some, m3.2.1, k2]
      exact ⟨_, μ3, ν2, rfl, rfl, Iv_5 (Iv_keep ((KC.so (by omega) s1).tr ((KC.so (by omega) s2).tr (KC.so (by omega) s3))) (KM.ho (o1.tr o2)) h)⟩
    · exact bad2_ok (-2) h (by rw [if_neg c3, if_pos rfl]) (by rw [if_neg c3, if_pos rfl])
  · exact bad2_ok (-2) h (by rw [if_neg c, if_pos rfl]) (by rw [if_neg c, if_pos rfl])
theorem m_bit {l : List Nat} {k : Nat} (hl : ∀ k, k ∈ l → k < 8) (hk : k < 8) : ((nI (bmk 0 l) >>> (nI k &&& 31)) &&& 1) = 1 ↔ k ∈ l := by
  have hm := bmk_lt (l := l) (s := 0) (by decide) hl
  have hb : (bmk 0 l).testBit k = decide (k ∈ l) := by rw [bmk_mem]; simp
  rw [(has_bit hm hk).2, hb]
  simp
theorem nights_loop {τ : Td} {k : Nat} {n : Int32} (hw : WT τ) (hk : k < tL τ) : ∀ (d f g j : Nat) (σ : Hd) (μ ν : Mem), d = 61 - j → j ≤ 61 → d < f → d < g → HW σ → CT μ τ → CS μ τ 70 σ → MT (gA ν 99) τ → HS ν τ σ → ∃ r μ' ν', fX1_nightsTill_8 f (nI k) n 70 (nI j) μ = some (r, μ') ∧ fX12_nights_33 g (nI k) n (nI j) ν = some (r, ν') ∧ SO 70 μ μ' ∧ HO ν ν'
  | 0, f, g, j, σ, μ, ν, hd, hj, hf, hg, hW, hT, hS, hT1, hH => by
    obtain ⟨f, rfl⟩ : ∃ t, f = t + 1 := ⟨f - 1, by omega⟩
    obtain ⟨g, rfl⟩ : ∃ t, g = t + 1 := ⟨g - 1, by omega⟩
    obtain rfl : j = 61 := by omega
    refine ⟨-1, μ, ν, ?_, ?_, SO.rf, HO.rf⟩
    · unfold fX1_nightsTill_8; rw [if_pos (by decide)]
    · unfold fX12_nights_33; rw [if_pos (by decide)]
  | d + 1, f, g, j, σ, μ, ν, hd, hj, hf, hg, hW, hT, hS, hT1, hH => by
    obtain ⟨f, rfl⟩ : ∃ t, f = t + 1 := ⟨f - 1, by omega⟩
    obtain ⟨g, rfl⟩ : ∃ t, g = t + 1 := ⟨g - 1, by omega⟩
    have h8 := hw.1
    have hq : SQ 70 := Or.inr (Or.inl rfl)
    have hl8 : ∀ k, k ∈ cdl τ (sno τ σ n) → k < 8 := fun k hk => by have := cdl_lt hw k hk; omega
    have j60 : ¬ (60 : Int32) < nI j := nI_nlt (a := 60) (b := j) (by omega) (by omega)
    obtain ⟨μ1, e1, s1, h1, m1⟩ := c_snowOver (n := n) hq hw hT hS
    obtain ⟨ν1, f1, o1, g1⟩ := m_goNight (n := n) hw hT1 hH hW
    unfold fX1_nightsTill_8 fX12_nights_33
    rw [if_neg j60, if_neg j60, e1, f1, b2_some]
    simp only [Option.bind_some]
    rw [m1.1, c_hasbit hl8 (by omega)]
    simp only [Option.bind_some]
    have mb := m_bit hl8 (show k < 8 by omega)
    by_cases c : k ∈ cdl τ (sno τ σ n)
    · rw [if_pos c, if_neg n10, if_pos (mb.mpr c)]
      exact ⟨nI j, μ1, ν1, rfl, rfl, s1, o1⟩
    · rw [if_neg c, if_pos rfl, if_neg (fun h => c (mb.mp h)), nI_1]
      obtain ⟨r, μ2, ν2, x1, x2, x3, x4⟩ := nights_loop (n := n) hw hk d f g (j + 1) _ μ1 ν1 (by omega) (by omega) (by omega) (by omega) (HW_cds hw) (SO_CT hq s1 hT) h1 (by rw [HO_99 o1]; exact hT1) g1
      exact ⟨r, μ2, ν2, x1, x2, s1.tr x3, o1.tr x4⟩
theorem st_nights : lw_st_nights Iv := by
  intro i hi a w μ ν h
  obtain ⟨z, wz, cz, mz⟩ := h.1
  have h8 := wz.1.1
  unfold fX11_nights fX12_nights fX11_nights_18 fX12_nights_20 fX1_nightsTill
  rw [c_isLedge (CTb_CT cz.1), m_isLedge mz.1, m_inN 1 9 1 9 rfl rfl, w_eq]
  simp only [Option.bind_some]
  by_cases c : (0 : Int32) ≤ a ∧ a ≤ nI (tL (zT z)) - 1
  · obtain ⟨k, hk, rfl⟩ := ix_out (by omega) c
    rw [if_pos c, if_neg n10, if_neg n10]
    by_cases c3 : (1 : Int32) ≤ w ∧ w ≤ 9
    · rw [if_pos c3, if_neg n10, if_neg n10]
      have hq : SQ 70 := Or.inr (Or.inl rfl)
      obtain ⟨μ1, e1, s1, h1⟩ := c_fresh wz.1 cz.2.1
      obtain ⟨ν1, f1, o1, hH⟩ := m_layHand wz.1 mz.1 mz.2.1
      obtain ⟨r, μ2, ν2, x1, x2, x3, x4⟩ := nights_loop (n := w) wz.1 hk 60 av_big av_big 1 _ μ1 ν1 rfl (by decide) (by decide) (by decide) wz.2.1 (SO_CT hq s1 (CTb_CT cz.1)) h1 (by rw [HO_99 o1]; exact mz.1) hH
      rw [e1, b2_some, f1]
      simp only [Option.bind_some]
      have x1' : fX1_nightsTill_8 av_big (nI k) w 70 1 μ1 = some (r, μ2) := x1
      rw [x1', b2_some]
      exact ⟨r, μ2, ν2, rfl, x2, Iv_5 (Iv_keep ((KC.so (by omega) s1).tr (KC.so (by omega) x3)) (KM.ho (o1.tr x4)) h)⟩
    · exact bad2_ok (-2) h (by rw [if_neg c3, if_pos rfl]) (by rw [if_neg c3, if_pos rfl])
  · exact bad2_ok (-2) h (by rw [if_neg c, if_pos rfl]) (by rw [if_neg c, if_pos rfl])
