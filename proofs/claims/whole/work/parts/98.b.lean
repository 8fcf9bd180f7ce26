/-! stones: both sides; the step. -/
theorem pow_L {L m : Nat} (h : L ≤ 8) (hm : m ≤ 5) : L ^ m ≤ 32768 := by
  have h1 : L ^ m ≤ 8 ^ m := Nat.pow_le_pow_left h m
  have h2 : 8 ^ m ≤ 8 ^ 5 := Nat.pow_le_pow_right (by decide) hm
  have h3 : (8 : Nat) ^ 5 = 32768 := by decide
  omega
theorem m_st70 {τ : Td} {k n e : Nat} {x2 : Int32} {r : Nat → Nat} (k27 : Int32 → Int32 → Int32 → Mem → Option (Int32 × Mem)) (k36 : Int32 → Int32 → Int32 → Int32 → Mem → Option (Int32 × Mem)) (hw : WT τ) (hk : k < tL τ) (hn : n ≤ 5) (hr : ∀ i, i < n → r i < tL τ) : ∀ (m f s : Nat) (σ : Hd) (x5 : Int32) (ν : Mem), s + 1 + m = n → m + 1 < f → HW σ → MT (gA ν 99) τ → (∀ i, i < n → gA ν 105 i = nI (r i)) → HS ν τ σ → ∃ ν', HO ν ν' ∧ (LF τ k m σ (fun i => r (i + s)) → fX12_stones_70 k27 k36 f (nI k) x2 (nI n) (nI e) x5 (nI s) ν = if x2 = 0 then some (nI n, ν') else (rd ν' 105 0).bind fun r119 => some (r119, ν')) ∧ (¬ LF τ k m σ (fun i => r (i + s)) → fX12_stones_70 k27 k36 f (nI k) x2 (nI n) (nI e) x5 (nI s) ν = k36 (nI k) x2 (nI n) (nI (e + 1)) ν')
  | 0, f, s, σ, x5, ν, hs, hf, hW, hT, h5, hS => by
    obtain ⟨f, rfl⟩ : ∃ g, f = g + 1 + 1 := ⟨f - 2, by omega⟩
    have l8 := hw.1
    obtain ⟨ν1, e1, o1, h1, -⟩ := m_goStone (n := 1) hw hT hS hW (hr s (by omega))
    have hl8 : ∀ j, j ∈ cdl τ (lyt σ (r s) 1) → j < 8 := fun j hj => by have := cdl_lt hw j hj; omega
    have hm := bmk_lt (l := cdl τ (lyt σ (r s) 1)) (s := 0) (by decide) hl8
    have hb : (bmk 0 (cdl τ (lyt σ (r s) 1))).testBit k = decide (k ∈ cdl τ (lyt σ (r s) 1)) := by rw [bmk_mem]; simp
    have hi := (has_bit hm (show k < 8 by omega)).2
    refine ⟨ν1, o1, fun h => ?_, fun h => ?_⟩
    · rw [LF, Nat.zero_add] at h
      rw [fX12_stones_70]
      dsimp only
      rw [if_neg (nI_ge (by omega) (by omega)), rd_nI av_l105 (by omega) (by omega), h5 s (by omega), bs, e1, b2_some, bs, nI_1, fX12_stones_70]
      dsimp only
      rw [if_pos (nI_le (by omega) (by omega)), if_pos (hi.mpr (by rw [hb]; simpa using h))]
    · rw [LF, Nat.zero_add] at h
      rw [fX12_stones_70]
      dsimp only
      rw [if_neg (nI_ge (by omega) (by omega)), rd_nI av_l105 (by omega) (by omega), h5 s (by omega), bs, e1, b2_some, bs, nI_1, fX12_stones_70]
      dsimp only
      rw [if_pos (nI_le (by omega) (by omega)), if_neg (fun x => by rw [hi, hb] at x; simp [h] at x), bs, nI_1]
  | m + 1, f, s, σ, x5, ν, hs, hf, hW, hT, h5, hS => by
    obtain ⟨f, rfl⟩ : ∃ g, f = g + 1 := ⟨f - 1, by omega⟩
    have l8 := hw.1
    obtain ⟨ν1, e1, o1, h1, -⟩ := m_goStone (n := 1) hw hT hS hW (hr s (by omega))
    obtain ⟨ν2, o2, p2, q2⟩ := m_st70 (k := k) (e := e) (x2 := x2) (r := r) k27 k36 hw hk hn hr m f (s + 1) (stn τ σ (r s)) (nI (bmk 0 (cdl τ (lyt σ (r s) 1)))) ν1 (by omega) (by omega) (HW_cds hw) (by rw [HO_99 o1]; exact hT) (by rw [o1.2.2 105 (by decide) (by decide)]; exact h5) h1
    have er : (fun i => r (i + 1 + s)) = fun i => r (i + (s + 1)) := by
      funext i
      rw [show i + 1 + s = i + (s + 1) by omega]
    have st : fX12_stones_70 k27 k36 (f + 1) (nI k) x2 (nI n) (nI e) x5 (nI s) ν = fX12_stones_70 k27 k36 f (nI k) x2 (nI n) (nI e) (nI (bmk 0 (cdl τ (lyt σ (r s) 1)))) (nI (s + 1)) ν1 := by
      rw [fX12_stones_70]
      dsimp only
      rw [if_neg (nI_ge (by omega) (by omega)), rd_nI av_l105 (by omega) (by omega), h5 s (by omega), bs, e1, b2_some, bs, nI_1]
    refine ⟨ν2, o1.tr o2, fun h => ?_, fun h => ?_⟩
    · rw [LF, Nat.zero_add, er] at h
      rw [st]; exact p2 h
    · rw [LF, Nat.zero_add, er] at h
      rw [st]; exact q2 h
theorem m_st36 {τ : Td} {σ : Hd} {k m : Nat} {x2 : Int32} (k27 : Int32 → Int32 → Int32 → Mem → Option (Int32 × Mem)) (hw : WT τ) (hk : k < tL τ) (hW : HW σ) (hm : m ≤ 4) : ∀ (d f e : Nat) (ν : Mem), d = tL τ ^ (m + 1) - e → e ≤ tL τ ^ (m + 1) → d < f → MT (gA ν 99) τ → MS (gA ν 99) τ σ → ∃ ν', KM ν ν' ∧ ((∃ c, e ≤ c ∧ c < tL τ ^ (m + 1) ∧ LF τ k m σ (rwo (tL τ) (m + 1) c) ∧ (∀ c', e ≤ c' → c' < c → ¬ LF τ k m σ (rwo (tL τ) (m + 1) c')) ∧ fX12_stones_36 k27 f (nI k) x2 (nI (m + 1)) (nI e) ν = some (if x2 = 0 then nI (m + 1) else nI (rwo (tL τ) (m + 1) c 0), ν')) ∨ ((∀ c', e ≤ c' → c' < tL τ ^ (m + 1) → ¬ LF τ k m σ (rwo (tL τ) (m + 1) c')) ∧ fX12_stones_36 k27 f (nI k) x2 (nI (m + 1)) (nI e) ν = k27 (nI k) x2 (nI (m + 1 + 1)) ν'))
  | 0, f, e, ν, hd, he, hf, hT, hM => by
    obtain ⟨f, rfl⟩ : ∃ g, f = g + 1 := ⟨f - 1, by omega⟩
    have l8 := hw.1
    have pl := pow_L (m := m + 1) l8 (by omega)
    refine ⟨ν, KM.rf, Or.inr ⟨fun c' h1 h2 => by omega, ?_⟩⟩
    rw [fX12_stones_36]
    dsimp only
    rw [m_ledges hT, bs, m_power (by omega), bs, if_pos (nI_le (by omega) (by omega)), bs, nI_1]
  | d + 1, f, e, ν, hd, he, hf, hT, hM => by
    obtain ⟨f, rfl⟩ : ∃ g, f = g + 1 := ⟨f - 1, by omega⟩
    have l8 := hw.1
    have pl := pow_L (m := m + 1) l8 (by omega)
    obtain ⟨ν1, e1, w1, r1⟩ := m_layRow (b := tL τ) (n := m + 1) (c := e) (ν := ν) (by omega) (by omega) (fun _ => by omega) (by omega)
    have hT1 : MT (gA ν1 99) τ := by rw [w1.2.2 99 (by decide)]; exact hT
    have hM1 : MS (gA ν1 99) τ σ := by rw [w1.2.2 99 (by decide)]; exact hM
    obtain ⟨ν2, e2, o2, h2⟩ := m_layHand hw hT1 hM1
    have rl : ∀ i, i < m + 1 → rwo (tL τ) (m + 1) e i < tL τ := fun i hi => rwo_lt (by omega) _ _ _ hi
    have h5 : ∀ i, i < m + 1 → gA ν2 105 i = nI (rwo (tL τ) (m + 1) e i) := by rw [o2.2.2 105 (by decide) (by decide)]; exact r1
    obtain ⟨ν3, o3, p3, q3⟩ := m_st70 (k := k) (e := e) (x2 := x2) (r := rwo (tL τ) (m + 1) e) k27 (fX12_stones_36 k27 f) hw hk (by omega) rl m av_big 0 σ 0 ν2 (by omega) (by show _ < 1000000; omega) hW (by rw [HO_99 o2]; exact hT1) h5 h2
    have km3 : KM ν ν3 := w1.km.tr ((KM.ho o2).tr (KM.ho o3))
    have st : fX12_stones_36 k27 (f + 1) (nI k) x2 (nI (m + 1)) (nI e) ν = fX12_stones_70 k27 (fX12_stones_36 k27 f) av_big (nI k) x2 (nI (m + 1)) (nI e) 0 (nI 0) ν2 := by
      rw [fX12_stones_36]
      dsimp only
      rw [m_ledges hT, bs, m_power (by omega), bs, if_neg (nI_ge (by omega) (by omega)), bs, e1, bs, e2, bs, nI_0]
    have ex : (LF τ k m σ fun i => rwo (tL τ) (m + 1) e (i + 0)) = LF τ k m σ (rwo (tL τ) (m + 1) e) := rfl
    rw [ex] at p3 q3
    by_cases c : LF τ k m σ (rwo (tL τ) (m + 1) e)
    · refine ⟨ν3, km3, Or.inl ⟨e, Nat.le_refl _, by omega, c, fun c' h1 h2 => by omega, ?_⟩⟩
      rw [st, p3 c]
      by_cases x : x2 = 0
      · rw [if_pos x, if_pos x]
      · rw [if_neg x, if_neg x, show (0 : Int32) = nI 0 from rfl, rd_nI av_l105 (by decide) (by decide), o3.2.2 105 (by decide) (by decide), h5 0 (by omega), bs]
    · obtain ⟨ν4, km4, res⟩ := m_st36 (x2 := x2) k27 hw hk hW hm d f (e + 1) ν3 (by omega) (by omega) (by omega) (by rw [km3.2.2 99 (by omega)]; exact hT) (by rw [km3.2.2 99 (by omega)]; exact hM)
      have ne : ∀ c', e ≤ c' → ¬ e + 1 ≤ c' → ¬ LF τ k m σ (rwo (tL τ) (m + 1) c') := fun c' h1 h2 => by
        obtain rfl : c' = e := by omega
        exact c
      refine ⟨ν4, km3.tr km4, ?_⟩
      rw [st, q3 c]
      rcases res with ⟨c1, g1, g2, g3, g4, g5⟩ | ⟨g1, g2⟩
      · refine Or.inl ⟨c1, by omega, g2, g3, fun c' h1 h2 => ?_, g5⟩
        by_cases x : e + 1 ≤ c'
        · exact g4 c' x h2
        · exact ne c' h1 x
      · refine Or.inr ⟨fun c' h1 h2 => ?_, g2⟩
        by_cases x : e + 1 ≤ c'
        · exact g1 c' x h2
        · exact ne c' h1 x
theorem m_stn {τ : Td} {σ : Hd} {k m : Nat} {x2 : Int32} {ν : Mem} (k27 : Int32 → Int32 → Int32 → Mem → Option (Int32 × Mem)) (hw : WT τ) (hk : k < tL τ) (hW : HW σ) (hm : m ≤ 4) (hT : MT (gA ν 99) τ) (hM : MS (gA ν 99) τ σ) : ∃ ν', KM ν ν' ∧ ((∃ on, on < tL τ ∧ Yk τ k m σ on ∧ (∀ o, o < on → ¬ Yk τ k m σ o) ∧ fX12_stones_36 k27 av_big (nI k) x2 (nI (m + 1)) 0 ν = some (if x2 = 0 then nI (m + 1) else nI on, ν')) ∨ ((∀ o, o < tL τ → ¬ Yk τ k m σ o) ∧ fX12_stones_36 k27 av_big (nI k) x2 (nI (m + 1)) 0 ν = k27 (nI k) x2 (nI (m + 1 + 1)) ν')) := by
  have l8 := hw.1
  have pl := pow_L (m := m + 1) l8 (by omega)
  obtain ⟨ν1, km, res⟩ := m_st36 (x2 := x2) k27 hw hk hW hm (tL τ ^ (m + 1)) av_big 0 ν (Nat.sub_zero _).symm (Nat.zero_le _) (by show _ < 1000000; omega) hT hM
  rw [nI_0] at res
  have back : ∀ o, o < tL τ → Yk τ k m σ o → ∃ c, c < tL τ ^ (m + 1) ∧ c / tL τ ^ m = o ∧ LF τ k m σ (rwo (tL τ) (m + 1) c) := by
    intro o ho hy
    obtain ⟨r, r0, r1, r2⟩ := Yk_LF m σ o ho hy
    have r1' : ∀ i, i < m + 1 → r i < tL τ := fun i hi => r1 i (by omega)
    have hc := cdo_lt (m + 1) r1'
    have hr := cdo_rwo (m + 1) r1'
    refine ⟨cdo (tL τ) r (m + 1), hc, ?_, ?_⟩
    · rw [← rwo_first m _ hc, hr 0 (by omega), r0]
    · exact (LF_ext m σ _ _ (fun i hi => hr i (by omega))).mpr r2
  refine ⟨ν1, km, ?_⟩
  rcases res with ⟨c, -, g2, g3, g4, g5⟩ | ⟨g1, g2⟩
  · have rl : ∀ i, i ≤ m → rwo (tL τ) (m + 1) c i < tL τ := fun i hi => rwo_lt (by omega) _ _ _ (by omega)
    refine Or.inl ⟨rwo (tL τ) (m + 1) c 0, rl 0 (by omega), LF_Yk m σ _ rl g3, fun o ho hy => ?_, g5⟩
    have ro := rl 0 (by omega)
    obtain ⟨c', k1, k2, k3⟩ := back o (by omega) hy
    refine g4 c' (by omega) ?_ k3
    rw [rwo_first m c g2] at ho
    rcases Nat.lt_or_ge c' c with x | x
    · exact x
    · have := Nat.div_le_div_right (c := tL τ ^ m) x
      omega
  · refine Or.inr ⟨fun o ho hy => ?_, g2⟩
    obtain ⟨c', k1, k2, k3⟩ := back o ho hy
    exact g1 c' (by omega) k1 k3
/-! the side of the component -/
theorem c_may2 {μ : Mem} {τ : Td} {q mk m : Nat} {σ : Hd} (hq : SQ q) (hw : WT τ) (hT : CT μ τ) (hS : CLd μ τ q σ) (hm : mk < 256) : ∀ (d f i : Nat), d = tL τ - i → i ≤ tL τ → d < f → (∀ b, b < i → mk.testBit b = true → ¬ nI (tH τ b) < ld σ b + nI m) → ∃ r, fX7_mayStart_2 f q (nI mk) (nI m) (nI i) μ = some r ∧ ((r = 0 ∧ MB τ mk.testBit σ m) ∨ (r = 1 ∧ ¬ MB τ mk.testBit σ m))
  | 0, f, i, hd, hi, hf, hb => by
    obtain ⟨f, rfl⟩ : ∃ g, f = g + 1 := ⟨f - 1, by omega⟩
    have l8 := hw.1
    obtain rfl : i = tL τ := by omega
    refine ⟨0, ?_, Or.inl ⟨rfl, hb⟩⟩
    unfold fX7_mayStart_2
    rw [(SQ_f hq).1.1, hT.1, if_pos (nI_le (by omega) (by omega))]
  | d + 1, f, i, hd, hi, hf, hb => by
    obtain ⟨f, rfl⟩ : ∃ g, f = g + 1 := ⟨f - 1, by omega⟩
    have l8 := hw.1
    rw [fX7_mayStart_2]
    dsimp only
    unfold fX7_mayStart_32
    rw [(SQ_f hq).1.1, hT.1, if_neg (nI_ge (by omega) (by omega)), c_hb hm (by omega), bs]
    by_cases b : mk.testBit i = true
    · rw [if_pos b, if_neg n10, c_bears hq hw hT hS (by omega), bs]
      by_cases c : nI (tH τ i) < ld σ i + nI m
      · refine ⟨1, by rw [if_pos c, if_pos rfl], Or.inr ⟨rfl, fun h => h i (by omega) b c⟩⟩
      · rw [if_neg c, if_neg n10, bs, nI_1]
        exact c_may2 hq hw hT hS hm d f (i + 1) (by omega) (by omega) (by omega) (fun j hj hjb => by
          by_cases e : j = i
          · rw [e]; exact c
          · exact hb j (by omega) hjb)
    · rw [if_neg b]
      simp only [if_true]
      rw [bs, nI_1]
      exact c_may2 hq hw hT hS hm d f (i + 1) (by omega) (by omega) (by omega) (fun j hj hjb => by
        by_cases e : j = i
        · rw [e] at hjb; exact absurd hjb b
        · exact hb j (by omega) hjb)
theorem c_may {μ : Mem} {τ : Td} {q mk m : Nat} {σ : Hd} (hq : SQ q) (hw : WT τ) (hT : CT μ τ) (hS : CLd μ τ q σ) (hm : mk < 256) : ∃ r, fX7_mayStart q (nI mk) (nI m) μ = some r ∧ ((r = 0 ∧ MB τ mk.testBit σ m) ∨ (r = 1 ∧ ¬ MB τ mk.testBit σ m)) := by
  have l8 := hw.1
  obtain ⟨r, e, h⟩ := c_may2 (m := m) hq hw hT hS hm (tL τ) av_big 0 (by omega) (by omega) (by show _ < 1000000; omega) (fun b hb => by omega)
  rw [nI_0] at e
  exact ⟨r, e, h⟩
theorem c_after {μ : Mem} {τ : Td} {j on : Nat} {σ : Hd} (hj : j < 6) (hw : WT τ) (hT : CT μ τ) (hS : CS μ τ (70 + 4 * j) σ) (ho : on < tL τ) : ∃ μ', fX1_afterStone (nI on) (nI j) μ = some (70 + 4 * (j + 1), μ') ∧ RO j μ μ' ∧ CS μ' τ (70 + 4 * (j + 1)) (stn τ σ on) ∧ CM μ' τ (70 + 4 * (j + 1)) (cdl τ (lyt σ on 1)) := by
  obtain ⟨μ1, e1, o1, h1⟩ := c_next hj hw hS
  have hq := SQ_r (p := j + 1) (by omega)
  have hT1 := RO_CT o1 hT
  obtain ⟨μ2, e2, s2, h2⟩ := c_lay (n := 1) hq hw hT1 h1 ho
  obtain ⟨μ3, e3, s3, h3, m3⟩ := f_comeDown hq hw (SO_CT hq s2 hT1) h2
  refine ⟨μ3, ?_, o1.tr (RO.so (by rw [show 74 + 4 * j = 70 + 4 * (j + 1) by omega]; exact s2.tr s3)), h3, m3⟩
  unfold fX1_afterStone
  rw [nI_1, rdr_r (by omega), bs, rdr_r (by omega), bs, e1, bs, e2, bs, e3, bs]
theorem c_ab8 {μ : Mem} {τ : Td} {k : Nat} (hw : WT τ) (hT : CT μ τ) : ∀ (m f d : Nat), m = tL τ - (k + 1 + d) → k + 1 + d ≤ tL τ → m < f → fX9_bitsAbove_8 f 15 (nI (abm τ k d)) (nI (k + 1 + d)) μ = some (nI (abm τ k (tL τ - (k + 1))))
  | 0, f, d, hm, hd, hf => by
    obtain ⟨f, rfl⟩ : ∃ g, f = g + 1 := ⟨f - 1, by omega⟩
    have l8 := hw.1
    obtain rfl : d = tL τ - (k + 1) := by omega
    unfold fX9_bitsAbove_8
    rw [hT.1, if_pos (nI_le (by omega) (by omega))]
  | m + 1, f, d, hm, hd, hf => by
    obtain ⟨f, rfl⟩ : ∃ g, f = g + 1 := ⟨f - 1, by omega⟩
    have l8 := hw.1
    have lt := abm_lt (τ := τ) (k := k) d (by omega)
    have ih := c_ab8 (k := k) hw hT m f (d + 1) (by omega) (by omega) (by omega)
    have hB := (hT.2.2.1 (k + 1 + d) (by omega)).2
    rw [fX9_bitsAbove_8]
    dsimp only
    unfold fX9_bitsAbove_45
    rw [hT.1, if_neg (nI_ge (by omega) (by omega)), av_r15_3, rd_nI av_l17 (by omega) (by omega), hB]
    simp only [bs]
    cases hu : tB τ (k + 1 + d) with
    | none =>
      rw [show abm τ k (d + 1) = abm τ k d by rw [abm, hu]] at ih
      rw [if_pos (show bI none = -1 from rfl), nI_1]
      exact ih
    | some u =>
      have := hw.2.2.2.1 _ (by omega) u hu
      rw [show bI (some u) = nI u from rfl, if_neg (m1_ne (by omega)), c_hb lt (by omega), bs]
      by_cases b : (abm τ k d).testBit u = true
      · rw [show abm τ k (d + 1) = abm τ k d ||| 2 ^ (k + 1 + d) by rw [abm, hu]; dsimp only; rw [if_pos b]] at ih
        rw [if_pos b, if_neg n10, nI_1, nI_bit lt (by omega)]
        exact ih
      · rw [show abm τ k (d + 1) = abm τ k d by rw [abm, hu]; dsimp only; rw [if_neg b]] at ih
        rw [if_neg b]
        simp only [if_true]
        rw [nI_1]
        exact ih
theorem sh_k {k : Nat} (hk : k < 8) : (1 : Int32) <<< (nI k &&& 31) = nI (2 ^ k) := by
  have hd : ∀ k, k < 8 → (1 : Int32) <<< (nI k &&& 31) = nI (2 ^ k) := by decide +kernel
  exact hd k hk
theorem c_above {μ : Mem} {τ : Td} {k : Nat} (hw : WT τ) (hT : CT μ τ) (hk : k < tL τ) : fX9_bitsAbove 15 (nI k) μ = some (nI (abv τ k)) := by
  have l8 := hw.1
  have e := c_ab8 (k := k) hw hT (tL τ - (k + 1)) av_big 0 (by omega) (by omega) (by show _ < 1000000; omega)
  rw [Nat.add_zero, show abm τ k 0 = 2 ^ k from rfl] at e
  unfold fX9_bitsAbove
  rw [bs, bs, sh_k (by omega), nI_1]
  exact e
theorem c_falls {τ : Td} {k mk : Nat} (hw : WT τ) (hk : k < tL τ) (hmk : mk < 256) : ∀ (m f j on : Nat) (σ : Hd) (μ : Mem), m + j ≤ 5 → m < f → on < tL τ → CT μ τ → CS μ τ (70 + 4 * j) σ → ∃ r μ', fX1_fallsBy f (nI on) (nI k) (nI mk) (nI m) (nI j) μ = some (r, μ') ∧ RO j μ μ' ∧ ((r = 1 ∧ cfb τ k mk.testBit m σ on) ∨ (r = 0 ∧ ¬ cfb τ k mk.testBit m σ on)) := by
  intro m
  induction m with
  | zero =>
    intro f j on σ μ hj hf ho hT hS
    obtain ⟨f, rfl⟩ : ∃ g, f = g + 1 := ⟨f - 1, by omega⟩
    have l8 := hw.1
    obtain ⟨μ1, e1, o1, h1, m1⟩ := c_after (by omega) hw hT hS ho
    have dp : fX1_isDeepest (nI j) μ = some 0 := by
      have c6 : nI j < 6 := nI_lt (b := 6) (by omega) (by decide)
      unfold fX1_isDeepest
      rw [if_neg (nI_pos (by omega)), if_pos c6]
    have hl8 : ∀ j, j ∈ cdl τ (lyt σ on 1) → j < 8 := fun j hj => by have := cdl_lt hw j hj; omega
    rw [fX1_fallsBy]
    unfold fX1_fallsBy_b fX1_fallsWithin fX1_fallsWithin_19 fX1_fallsBy_47
    rw [dp, bs, if_pos rfl, e1, b2_some, m1.1, c_hasbit hl8 (by omega), bs]
    by_cases c : k ∈ cdl τ (lyt σ on 1)
    · rw [if_pos c, if_neg n10]
      exact ⟨1, μ1, rfl, o1, Or.inl ⟨rfl, c⟩⟩
    · rw [if_neg c, if_pos rfl, if_pos (show nI 0 ≤ 0 by decide), b2_some, if_pos rfl]
      exact ⟨0, μ1, rfl, o1, Or.inr ⟨rfl, c⟩⟩
  | succ m ih =>
    intro f j on σ μ hj hf ho hT hS
    obtain ⟨f, rfl⟩ : ∃ g, f = g + 1 := ⟨f - 1, by omega⟩
    have l8 := hw.1
    obtain ⟨μ1, e1, o1, h1, m1⟩ := c_after (by omega) hw hT hS ho
    have hT1 := RO_CT o1 hT
    have dp : fX1_isDeepest (nI j) μ = some 0 := by
      have c6 : nI j < 6 := nI_lt (b := 6) (by omega) (by decide)
      unfold fX1_isDeepest
      rw [if_neg (nI_pos (by omega)), if_pos c6]
    have hl8 : ∀ j, j ∈ cdl τ (lyt σ on 1) → j < 8 := fun j hj => by have := cdl_lt hw j hj; omega
    rw [fX1_fallsBy]
    unfold fX1_fallsBy_b fX1_fallsWithin fX1_fallsWithin_19 fX1_fallsBy_47
    rw [dp, bs, if_pos rfl, e1, b2_some, m1.1, c_hasbit hl8 (by omega), bs]
    by_cases c : k ∈ cdl τ (lyt σ on 1)
    · rw [if_pos c, if_neg n10]
      exact ⟨1, μ1, rfl, o1, Or.inl ⟨rfl, Or.inl c⟩⟩
    · obtain ⟨r2, e2, h2⟩ := c_may (m := m + 1) (SQ_r (p := j + 1) (by omega)) hw hT1 h1.1 hmk
      rw [if_neg c, if_pos rfl, if_neg (nI_nle (by omega) (by omega)), nI_1, rdr_r (by omega), bs, e2, bs]
      rcases h2 with ⟨rfl, hM⟩ | ⟨rfl, hM⟩
      · rw [if_pos rfl, b2_some, if_pos rfl]
        refine ⟨0, μ1, rfl, o1, Or.inr ⟨rfl, ?_⟩⟩
        rintro (x | ⟨x, -⟩)
        · exact c x
        · exact x hM
      · rw [if_neg n10]
        have lp : ∀ (d g i : Nat) (μ2 : Mem), d = tL τ - i → i ≤ tL τ → d < g → RO (j + 1) μ1 μ2 → (∀ o, o < i → ¬ (mk.testBit o = true ∧ cfb τ k mk.testBit m (stn τ σ on) o)) → ∃ r μ', fX1_fallsWithin_24 (fX1_fallsBy f) g (nI k) (nI mk) (nI (m + 1)) (nI (j + 1)) (nI i) μ2 = some (r, μ') ∧ RO (j + 1) μ1 μ' ∧ ((r = 1 ∧ ∃ o, o < tL τ ∧ mk.testBit o = true ∧ cfb τ k mk.testBit m (stn τ σ on) o) ∨ (r = 0 ∧ ¬ ∃ o, o < tL τ ∧ mk.testBit o = true ∧ cfb τ k mk.testBit m (stn τ σ on) o)) := by
          intro d
          induction d with
          | zero =>
            intro g i μ2 hd hi hg hR hno
            obtain ⟨g, rfl⟩ : ∃ t, g = t + 1 := ⟨g - 1, by omega⟩
            obtain rfl : i = tL τ := by omega
            have hT2 := RO_CT hR hT1
            refine ⟨0, μ2, ?_, hR, Or.inr ⟨rfl, fun ⟨o, x1, x2, x3⟩ => hno o x1 ⟨x2, x3⟩⟩⟩
            rw [fX1_fallsWithin_24]
            dsimp only
            rw [hT2.1, if_pos (nI_le (by omega) (by omega))]
          | succ d ihd =>
            intro g i μ2 hd hi hg hR hno
            obtain ⟨g, rfl⟩ : ∃ t, g = t + 1 := ⟨g - 1, by omega⟩
            have hT2 := RO_CT hR hT1
            have hS2 := RO_CS hR h1
            rw [fX1_fallsWithin_24]
            dsimp only
            unfold fX1_fallsWithin_63
            rw [hT2.1, if_neg (nI_ge (by omega) (by omega)), c_hb hmk (by omega), bs]
            by_cases b : mk.testBit i = true
            · obtain ⟨r3, μ3, e3, o3, h3⟩ := ih f (j + 1) i (stn τ σ on) μ2 (by omega) (by omega) (by omega) hT2 hS2
              rw [if_pos b, if_neg n10, nI_pred, e3, b2_some]
              rcases h3 with ⟨rfl, x⟩ | ⟨rfl, x⟩
              · rw [if_neg n10]
                exact ⟨1, μ3, rfl, hR.tr o3, Or.inl ⟨rfl, i, by omega, b, x⟩⟩
              · rw [if_pos rfl, bs, nI_1]
                exact ihd g (i + 1) μ3 (by omega) (by omega) (by omega) (hR.tr o3) (fun o ho' y => by
                  by_cases e : o = i
                  · rw [e] at y; exact x y.2
                  · exact hno o (by omega) y)
            · rw [if_neg b]
              simp only [if_true]
              rw [bs, nI_1]
              exact ihd g (i + 1) μ2 (by omega) (by omega) (by omega) hR (fun o ho' y => by
                by_cases e : o = i
                · rw [e] at y; exact b y.1
                · exact hno o (by omega) y)
        obtain ⟨r3, μ3, e3, o3, h3⟩ := lp (tL τ) av_big 0 μ1 (by omega) (by omega) (by show _ < 1000000; omega) RO.rf (fun o ho' => by omega)
        rw [nI_0] at e3
        rw [e3, b2_some]
        rcases h3 with ⟨rfl, x⟩ | ⟨rfl, x⟩
        · rw [if_neg n10]
          exact ⟨1, μ3, rfl, o1.tr o3.up, Or.inl ⟨rfl, Or.inr ⟨hM, x⟩⟩⟩
        · rw [if_pos rfl]
          refine ⟨0, μ3, rfl, o1.tr o3.up, Or.inr ⟨rfl, ?_⟩⟩
          rintro (y | ⟨-, y⟩)
          · exact c y
          · exact x y
theorem c_few {τ : Td} {k mk m : Nat} {σ : Hd} (k16 : Int32 → Int32 → Int32 → Mem → Option (Int32 × Mem)) (hw : WT τ) (hk : k < tL τ) (hmk : mk < 256) (hm : m ≤ 4) : ∀ (d f i : Nat) (μ : Mem), d = tL τ - i → i ≤ tL τ → d < f → CT μ τ → CS μ τ 70 σ → (∀ o, o < i → ¬ cfb τ k mk.testBit m σ o) → ∃ μ', RO 0 μ μ' ∧ ((∃ on, on < tL τ ∧ cfb τ k mk.testBit m σ on ∧ (∀ o, o < on → ¬ cfb τ k mk.testBit m σ o) ∧ fX1_fewestStones_24 k16 f (nI k) (nI mk) (nI (m + 1)) (nI i) μ = some (nI (m + 1), sF μ' 11 5 (nI on))) ∨ ((∀ o, o < tL τ → ¬ cfb τ k mk.testBit m σ o) ∧ fX1_fewestStones_24 k16 f (nI k) (nI mk) (nI (m + 1)) (nI i) μ = k16 (nI k) (nI mk) (nI (m + 1 + 1)) μ'))
  | 0, f, i, μ, hd, hi, hf, hT, hS, hno => by
    obtain ⟨f, rfl⟩ : ∃ g, f = g + 1 := ⟨f - 1, by omega⟩
    have l8 := hw.1
    obtain rfl : i = tL τ := by omega
    refine ⟨μ, RO.rf, Or.inr ⟨hno, ?_⟩⟩
    rw [fX1_fewestStones_24]
    dsimp only
    rw [hT.1, if_pos (nI_le (by omega) (by omega)), bs, nI_1]
  | d + 1, f, i, μ, hd, hi, hf, hT, hS, hno => by
    obtain ⟨f, rfl⟩ : ∃ g, f = g + 1 := ⟨f - 1, by omega⟩
    have l8 := hw.1
    obtain ⟨r1, μ1, e1, o1, h1⟩ := c_falls hw hk hmk m 8 0 i σ μ (by omega) (by omega) (by omega) hT hS
    rw [nI_0] at e1
    rw [fX1_fewestStones_24]
    dsimp only
    rw [hT.1, if_neg (nI_ge (by omega) (by omega)), nI_pred, e1, b2_some]
    rcases h1 with ⟨rfl, x⟩ | ⟨rfl, x⟩
    · rw [if_neg n10, bs]
      exact ⟨μ1, o1, Or.inl ⟨i, by omega, x, hno, rfl⟩⟩
    · rw [if_pos rfl, bs, nI_1]
      obtain ⟨μ2, o2, res⟩ := c_few k16 hw hk hmk hm d f (i + 1) μ1 (by omega) (by omega) (by omega) (RO_CT o1 hT) (RO_CS (p := 0) o1 hS) (fun o ho => by
        by_cases e : o = i
        · rw [e]; exact x
        · exact hno o (by omega))
      exact ⟨μ2, o1.tr o2, res⟩
theorem KC.s11 {μ : Mem} {k : Nat} {v : Int32} : KC μ (sF μ 11 k v) := ⟨fun a b _ _ h _ => by rw [gF_sF, if_neg h], rfl, fun _ _ _ _ => rfl⟩
theorem st_loop {τ : Td} {k mk : Nat} {σ : Hd} {x2 : Int32} (hw : WT τ) (hk : k < tL τ) (hmk : mk < 256) (hkB : mk.testBit k = true) (hB : CB τ mk.testBit) (hW : HW σ) : ∀ (d f g m : Nat) (μ ν : Mem), d = 5 - m → m ≤ 5 → d < f → d < g → CT μ τ → CS μ τ 70 σ → MT (gA ν 99) τ → MS (gA ν 99) τ σ → (∀ i, i < m → ∀ o, o < tL τ → ¬ Yk τ k i σ o) → ∃ v μ' ν', fX1_fewestStones_16 f (nI k) (nI mk) (nI (m + 1)) μ = some (v, μ') ∧ fX12_stones_27 g (nI k) x2 (nI (m + 1)) ν = some (if x2 = 0 then v else gF μ' 11 5, ν') ∧ KC μ μ' ∧ KM ν ν'
  | 0, f, g, m, μ, ν, hd, hm, hf, hg, hT, hS, hT1, hM, hno => by
    obtain ⟨f, rfl⟩ : ∃ t, f = t + 1 := ⟨f - 1, by omega⟩
    obtain ⟨g, rfl⟩ : ∃ t, g = t + 1 := ⟨g - 1, by omega⟩
    obtain rfl : m = 5 := by omega
    refine ⟨-1, sF μ 11 5 (-1), ν, ?_, ?_, KC.s11, KM.rf⟩
    · rw [fX1_fewestStones_16]
      dsimp only
      rw [if_pos (by decide), bs]
    · rw [fX12_stones_27]
      dsimp only
      rw [if_pos (by decide), gF_sF, if_pos rfl, if_pos rfl, ite_self]
  | d + 1, f, g, m, μ, ν, hd, hm, hf, hg, hT, hS, hT1, hM, hno => by
    obtain ⟨f, rfl⟩ : ∃ t, f = t + 1 := ⟨f - 1, by omega⟩
    obtain ⟨g, rfl⟩ : ∃ t, g = t + 1 := ⟨g - 1, by omega⟩
    have l8 := hw.1
    have x5 : ¬ (5 : Int32) < nI (m + 1) := nI_nlt (a := 5) (by omega) (by decide)
    have x6 : ¬ (6 : Int32) ≤ nI (m + 1) := nI_ge (b := 6) (by omega) (by decide)
    have iff := fun on (h : on < tL τ) => cfb_iff (σ := σ) hw hB hkB (show m ≤ 50 by omega) h hno
    obtain ⟨μ1, o1, c1⟩ := c_few (σ := σ) (fX1_fewestStones_16 f) hw hk hmk (show m ≤ 4 by omega) (tL τ) av_big 0 μ (by omega) (by omega) (by show _ < 1000000; omega) hT hS (fun o ho => by omega)
    obtain ⟨ν1, km1, d1⟩ := m_stn (x2 := x2) (fX12_stones_27 g) hw hk hW (show m ≤ 4 by omega) hT1 hM
    rw [nI_0] at c1
    rw [fX1_fewestStones_16, fX12_stones_27]
    dsimp only
    rw [if_neg x5, if_neg x6]
    rcases c1 with ⟨on, a1, a2, a3, a4⟩ | ⟨a1, a2⟩
    · rcases d1 with ⟨on', b1, b2, b3, b4⟩ | ⟨b1, b2⟩
      · have e : on = on' := by
          rcases Nat.lt_trichotomy on on' with x | x | x
          · exact absurd ((iff on a1).mp a2) (b3 on x)
          · exact x
          · exact absurd ((iff on' b1).mpr b2) (a3 on' x)
        subst e
        refine ⟨_, _, ν1, a4, ?_, (RO.kc o1).tr KC.s11, km1⟩
        rw [b4, gF_sF, if_pos rfl, if_pos rfl]
      · exact absurd ((iff on a1).mp a2) (b1 on a1)
    · rcases d1 with ⟨on', b1, b2, b3, b4⟩ | ⟨b1, b2⟩
      · exact absurd ((iff on' b1).mpr b2) (a1 on' b1)
      · obtain ⟨v, μ2, ν2, r1, r2, r3, r4⟩ := st_loop (x2 := x2) hw hk hmk hkB hB hW d f g (m + 1) μ1 ν1 (by omega) (by omega) (by omega) (by omega) (RO_CT o1 hT) (RO_CS (p := 0) o1 hS) (by rw [km1.2.2 99 (by omega)]; exact hT1) (by rw [km1.2.2 99 (by omega)]; exact hM) (fun i hi o ho => by
          by_cases e : i = m
          · rw [e]; exact b1 o ho
          · exact hno i (by omega) o ho)
        exact ⟨v, μ2, ν2, by rw [a2]; exact r1, by rw [b2]; exact r2, (RO.kc o1).tr r3, km1.tr r4⟩
theorem st_stones : lw_st_stones Iv := by
  intro i hi a w μ ν h
  obtain ⟨z, wz, cz, mz⟩ := h.1
  have l8 := wz.1.1
  unfold fX11_stones fX12_stones fX11_stones_17 fX12_stones_18
  rw [c_isLedge (CTb_CT cz.1), m_isLedge mz.1, m_inN 0 1 0 1 rfl rfl, w_eq]
  simp only [bs]
  by_cases c1 : (0 : Int32) ≤ a ∧ a ≤ nI (tL (zT z)) - 1
  · obtain ⟨k, hk, rfl⟩ := ix_out (by omega) c1
    rw [if_pos c1, if_neg n10, if_neg n10]
    by_cases c2 : (0 : Int32) ≤ w ∧ w ≤ 1
    · rw [if_pos c2, if_neg n10, if_neg n10]
      obtain ⟨μ1, e1, s1, h1⟩ := c_fresh wz.1 cz.2.1
      have hT1 := SO_CT (Or.inr (Or.inl rfl)) s1 (CTb_CT cz.1)
      obtain ⟨b1, b2, b3⟩ := abv_ok wz.1 hk
      obtain ⟨v, μ2, ν2, r1, r2, r3, r4⟩ := st_loop (x2 := w) wz.1 hk b1 b2 b3 wz.2.1 5 av_big av_big 0 μ1 ν (by omega) (by omega) (by show _ < 1000000; omega) (by show _ < 1000000; omega) hT1 h1 mz.1 mz.2.1 (fun i hi => by omega)
      have fs : fX1_fewestStones (nI k) μ = some (v, μ2) := by
        unfold fX1_fewestStones
        rw [e1, b2_some, c_above wz.1 hT1 hk, bs]
        exact r1
      have ms : fX12_stones_27 av_big (nI k) w 1 ν = some (if w = 0 then v else gF μ2 11 5, ν2) := r2
      rw [fs, b2_some, ms]
      refine ⟨if w = 0 then v else gF μ2 11 5, μ2, ν2, ?_, rfl, Iv_5 (Iv_keep ((KC.so (by omega) s1).tr r3) r4 h)⟩
      by_cases x : w = 0
      · rw [if_pos x, if_pos x]
      · rw [if_neg x, if_neg x]
    · exact bad2_ok (-2) h (by rw [if_neg c2, if_pos rfl]) (by rw [if_neg c2, if_pos rfl])
  · exact bad2_ok (-2) h (by rw [if_neg c1, if_pos rfl]) (by rw [if_neg c1, if_pos rfl])
