/-! The reference's holds; steps: hold, stick. -/
theorem m_can {ν : Mem} {z : Sd} {h : Nat} (mz : MR (gA ν 99) z) (h6 : zN z ≤ 6) (hb : ∀ j, j < zN z → zV z j ≤ 99 ∧ zB z j ≤ 1) (h1 : 1 ≤ h) (h60 : h ≤ 60) : ∀ (d f i : Nat), d = zN z - i → i ≤ zN z → d < f → fX12_canHold_4 f (nI h) (if lof z i ≤ h ∧ h < upf z i then 1 else 0) (nI i) ν = some (if lof z (zN z) ≤ h ∧ h < upf z (zN z) then 1 else 0)
  | 0, f, i, hd, hi, hf => by
    obtain ⟨f, rfl⟩ : ∃ g, f = g + 1 := ⟨f - 1, by omega⟩
    obtain rfl : i = zN z := by omega
    unfold fX12_canHold_4
    rw [r99 3 3 rfl (by decide), mz.2.2.1.1, bs, if_pos (nI_le (by omega) (by omega)), z_ite, bs]
  | d + 1, f, i, hd, hi, hf => by
    obtain ⟨f, rfl⟩ : ∃ g, f = g + 1 := ⟨f - 1, by omega⟩
    have ih := m_can mz h6 hb h1 h60 d f (i + 1) (by omega) (by omega) (by omega)
    obtain ⟨y1, y2⟩ := mz.2.2.1.2 i (by omega)
    obtain ⟨b1, b2⟩ := hb i (by omega)
    have i1 : (57 : Int32) + 2 * nI i = nI (57 + 2 * i) := by rw [show (57 : Int32) = nI 57 from rfl, show (2 : Int32) = nI 2 from rfl, pk_mul, nI_add]
    unfold fX12_canHold_4 fX12_canHold_34 fX12_canHold_64 fX12_canHold_71 fX12_canHold_72
    rw [r99 3 3 rfl (by decide), mz.2.2.1.1, bs, if_neg (nI_ge (by omega) (by omega)), i1, r99 (57 + 2 * i) _ rfl (by omega), bs, y1, nI_1 (57 + 2 * i), r99 (57 + 2 * i + 1) _ rfl (by omega), y2]
    simp only [bs]
    rw [nI_1]
    have hL : lof z (i + 1) = if zB z i = 1 then max (lof z i) (zV z i) else lof z i := by rw [lof]
    have hU : upf z (i + 1) = if zB z i = 0 then min (upf z i) (zV z i) else upf z i := by rw [upf]
    have hB : zB z i = 0 ∨ zB z i = 1 := by omega
    by_cases c0 : lof z i ≤ h ∧ h < upf z i
    · rw [if_pos c0, if_neg n10, if_neg n10]
      by_cases cv : h < zV z i
      · rw [if_pos (nI_lt cv (by omega))]
        rcases hB with e | e
        · rw [e] at hL hU ⊢
          rw [if_neg (by decide)] at hL
          rw [if_pos rfl] at hU
          rw [if_neg (by decide)]
          first | rw [if_pos rfl] | rw [if_pos trivial]
          rw [if_pos (show lof z (i + 1) ≤ h ∧ h < upf z (i + 1) by omega)] at ih
          exact ih
        · rw [e] at hL hU ⊢
          rw [if_pos rfl] at hL
          rw [if_pos (by decide), if_neg (by decide)]
          rw [if_neg (show ¬ (lof z (i + 1) ≤ h ∧ h < upf z (i + 1)) by omega)] at ih
          exact ih
      · rw [if_neg (nI_nlt (by omega) (by omega))]
        rcases hB with e | e
        · rw [e] at hL hU ⊢
          rw [if_pos rfl] at hU
          rw [if_neg (by decide), if_neg (by decide)]
          rw [if_neg (show ¬ (lof z (i + 1) ≤ h ∧ h < upf z (i + 1)) by omega)] at ih
          exact ih
        · rw [e] at hL hU ⊢
          rw [if_pos rfl] at hL
          rw [if_neg (by decide)] at hU
          rw [if_pos (by decide)]
          first | rw [if_pos rfl] | rw [if_pos trivial]
          rw [if_pos (show lof z (i + 1) ≤ h ∧ h < upf z (i + 1) by omega)] at ih
          exact ih
    · rw [if_neg c0]
      simp only [if_true]
      rw [if_neg (show ¬ (lof z (i + 1) ≤ h ∧ h < upf z (i + 1)) by
        rcases hB with e | e
        · rw [e] at hL hU
          rw [if_neg (by decide)] at hL
          rw [if_pos rfl] at hU
          omega
        · rw [e] at hL hU
          rw [if_pos rfl] at hL
          rw [if_neg (by decide)] at hU
          omega)] at ih
      rw [ih, ite_self]
theorem m_canHold {ν : Mem} {z : Sd} {h : Nat} (mz : MR (gA ν 99) z) (h6 : zN z ≤ 6) (hb : ∀ j, j < zN z → zV z j ≤ 99 ∧ zB z j ≤ 1) (h1 : 1 ≤ h) (h60 : h ≤ 60) : fX12_canHold (nI h) ν = some (if lof z (zN z) ≤ h ∧ h < upf z (zN z) then 1 else 0) := by
  have e := m_can mz h6 hb h1 h60 (zN z) av_big 0 (by omega) (by omega) (by show _ < 1000000; omega)
  rw [nI_0, if_pos (show lof z 0 ≤ h ∧ h < upf z 0 from ⟨h1, by show h < 61; omega⟩)] at e
  exact e
theorem m_many {ν : Mem} {z : Sd} {v : Nat} (mz : MR (gA ν 99) z) (h6 : zN z ≤ 6) (hb : ∀ j, j < zN z → zV z j ≤ 99 ∧ zB z j ≤ 1) (hv : v ≤ 60) : ∀ (d f i : Nat), d = 61 - i → 1 ≤ i → i ≤ 61 → d < f → fX12_manyFrom_4 f (nI v) (nI (min i (upf z (zN z)) - max (lof z (zN z)) v)) (nI i) ν = some (nI (upf z (zN z) - max (lof z (zN z)) v))
  | 0, f, i, hd, h1, hi, hf => by
    obtain ⟨f, rfl⟩ : ∃ g, f = g + 1 := ⟨f - 1, by omega⟩
    obtain rfl : i = 61 := by omega
    have u1 := @upf_b z (zN z)
    unfold fX12_manyFrom_4
    rw [if_pos (by decide), Nat.min_eq_right u1]
  | d + 1, f, i, hd, h1, hi, hf => by
    obtain ⟨f, rfl⟩ : ∃ g, f = g + 1 := ⟨f - 1, by omega⟩
    have ih := m_many mz h6 hb hv d f (i + 1) (by omega) (by omega) (by omega) (by omega)
    have j60 : ¬ (60 : Int32) < nI i := nI_nlt (a := 60) (b := i) (by omega) (by omega)
    unfold fX12_manyFrom_4 fX12_manyFrom_28 fX12_manyFrom_29
    rw [if_neg j60, m_canHold mz h6 hb h1 (by omega), bs, bs, bs, bs, bs, nI_1]
    have z0 : ∀ x : Int32, x + 0 = x := fun x => Int32.add_zero x
    by_cases c1 : i < v
    · rw [if_pos (nI_lt c1 (by omega)), z0]
      rw [show min (i + 1) (upf z (zN z)) - max (lof z (zN z)) v = min i (upf z (zN z)) - max (lof z (zN z)) v by omega] at ih
      exact ih
    · rw [if_neg (nI_nlt (by omega) (by omega))]
      by_cases c2 : lof z (zN z) ≤ i ∧ i < upf z (zN z)
      · rw [if_pos c2, if_neg n10, nI_1]
        rw [show min (i + 1) (upf z (zN z)) - max (lof z (zN z)) v = min i (upf z (zN z)) - max (lof z (zN z)) v + 1 by omega] at ih
        exact ih
      · rw [if_neg c2, if_pos rfl, z0]
        rw [show min (i + 1) (upf z (zN z)) - max (lof z (zN z)) v = min i (upf z (zN z)) - max (lof z (zN z)) v by omega] at ih
        exact ih
theorem m_manyFrom {ν : Mem} {z : Sd} {v : Nat} (mz : MR (gA ν 99) z) (h6 : zN z ≤ 6) (hb : ∀ j, j < zN z → zV z j ≤ 99 ∧ zB z j ≤ 1) (hv : v ≤ 60) : fX12_manyFrom (nI v) ν = some (nI (upf z (zN z) - max (lof z (zN z)) v)) := by
  have e := m_many (v := v) mz h6 hb hv 60 av_big 1 rfl (by decide) (by decide) (by decide)
  have l1 := lof_b hb (zN z) (Nat.le_refl _)
  rw [show min 1 (upf z (zN z)) - max (lof z (zN z)) v = 0 by omega, nI_0] at e
  exact e
theorem m_leastH {ν : Mem} {z : Sd} (mz : MR (gA ν 99) z) (h6 : zN z ≤ 6) (hb : ∀ j, j < zN z → zV z j ≤ 99 ∧ zB z j ≤ 1) : ∀ (d f i : Nat), d = 61 - i → 1 ≤ i → i ≤ 61 → d < f → (lof z (zN z) < upf z (zN z) → i ≤ lof z (zN z)) → fX12_leastHold_2 f (nI i) ν = some (if lof z (zN z) < upf z (zN z) then nI (lof z (zN z)) else -1)
  | 0, f, i, hd, h1, hi, hf, hh => by
    obtain ⟨f, rfl⟩ : ∃ g, f = g + 1 := ⟨f - 1, by omega⟩
    obtain rfl : i = 61 := by omega
    have u1 := @upf_b z (zN z)
    unfold fX12_leastHold_2
    rw [if_pos (by decide), if_neg (fun c => by have := hh c; omega)]
  | d + 1, f, i, hd, h1, hi, hf, hh => by
    obtain ⟨f, rfl⟩ : ∃ g, f = g + 1 := ⟨f - 1, by omega⟩
    have j60 : ¬ (60 : Int32) < nI i := nI_nlt (a := 60) (b := i) (by omega) (by omega)
    unfold fX12_leastHold_2
    rw [if_neg j60, m_canHold mz h6 hb h1 (by omega), bs, bs, nI_1]
    by_cases c2 : lof z (zN z) ≤ i ∧ i < upf z (zN z)
    · rw [if_pos c2, if_neg n10, if_pos (by omega)]
      have := hh (by omega)
      rw [show i = lof z (zN z) by omega]
    · rw [if_neg c2, if_pos rfl]
      exact m_leastH mz h6 hb d f (i + 1) (by omega) (by omega) (by omega) (by omega) (fun c => by have := hh c; omega)
theorem c_holds {μ : Mem} {z : Sd} (cz : CR 14 μ z) (h6 : zN z ≤ 6) (hb : ∀ j, j < zN z → zV z j ≤ 99 ∧ zB z j ≤ 1) : fX8_leastHold 14 μ = some (nI (lof z (zN z))) ∧ fX8_greatestHold 14 μ = some (nI (upf z (zN z)) - 1) := by
  have e1 := c_least cz h6 hb (zN z) av_big 0 (by omega) (by omega) (by show _ < 1000000; omega)
  have e2 := c_greatest cz h6 hb (zN z) av_big 0 (by omega) (by omega) (by show _ < 1000000; omega)
  rw [nI_0, show lof z 0 = 1 from rfl, show nI 1 = 1 from rfl] at e1
  rw [nI_0, show upf z 0 = 61 from rfl, show nI 61 - 1 = 60 by decide] at e2
  unfold fX8_leastHold fX8_greatestHold
  exact ⟨e1, e2⟩
theorem st_hold : lw_st_hold Iv := by
  intro i hi a μ ν h
  obtain ⟨z, wz, cz, mz⟩ := h.1
  obtain ⟨h6, hb⟩ := wz.2.2.2.1
  obtain ⟨e1, e2⟩ := c_holds cz h6 hb
  have l1 := lof_b hb (zN z) (Nat.le_refl _)
  have u1 := @upf_b z (zN z)
  unfold fX11_hold fX12_hold
  rw [m_inN 0 1 0 1 rfl rfl, w_eq, bs, bs]
  by_cases c : (0 : Int32) ≤ a ∧ a ≤ 1
  · rw [if_pos c, if_neg n10, if_neg n10, e1, bs, e2, bs, spread_nI (by omega) (by omega), bs]
    by_cases c0 : a = 0
    · have e3 := m_manyFrom (v := 0) mz h6 hb (by decide)
      rw [nI_0, show max (lof z (zN z)) 0 = lof z (zN z) by omega] at e3
      rw [if_pos c0, if_pos c0, e3, bs]
      exact ⟨_, μ, ν, rfl, rfl, Iv_5 h⟩
    · have e3 := m_leastH mz h6 hb 60 av_big 1 rfl (by decide) (by decide) (by decide) (fun _ => l1.1)
      have e4 : fX12_leastHold ν = some (if lof z (zN z) < upf z (zN z) then nI (lof z (zN z)) else -1) := by
        rw [show nI 1 = 1 from rfl] at e3
        unfold fX12_leastHold
        exact e3
      rw [if_neg c0, if_neg c0, e4, bs]
      by_cases c1 : lof z (zN z) < upf z (zN z)
      · rw [if_pos c1, if_neg (nI_nle (by omega) (by omega))]
        exact ⟨_, μ, ν, rfl, rfl, Iv_5 h⟩
      · rw [if_neg c1, show upf z (zN z) - lof z (zN z) = 0 by omega, if_pos (by decide)]
        exact ⟨_, μ, ν, rfl, rfl, Iv_5 h⟩
  · exact bad2_ok (-10) h (by rw [if_neg c, if_pos rfl]) (by rw [if_neg c, if_pos rfl])
theorem stick_loop {μ ν : Mem} {z : Sd} (mz : MR (gA ν 99) z) (h6 : zN z ≤ 6) (hb : ∀ j, j < zN z → zV z j ≤ 99 ∧ zB z j ≤ 1) (hpos : lof z (zN z) < upf z (zN z)) : ∀ (d f g v : Nat) (best : Int32) (p : Nat), d = 61 - v → v ≤ 61 → d < f → d < g → p ≤ 100 → ∃ r, fX11_stick_37 f (nI (lof z (zN z))) (nI (upf z (zN z)) - 1) (nI (upf z (zN z) - lof z (zN z))) best (nI p) (nI v) μ = some r ∧ fX12_stick_14 g (nI (upf z (zN z) - lof z (zN z))) best (nI p) (nI v) ν = some r
  | 0, f, g, v, best, p, hd, hv, hf, hg, hp => by
    obtain ⟨f, rfl⟩ : ∃ t, f = t + 1 := ⟨f - 1, by omega⟩
    obtain ⟨g, rfl⟩ : ∃ t, g = t + 1 := ⟨g - 1, by omega⟩
    obtain rfl : v = 61 := by omega
    refine ⟨best, ?_, ?_⟩
    · unfold fX11_stick_37; rw [if_pos (by decide)]
    · unfold fX12_stick_14 fX12_stick_85; rw [if_pos (by decide)]
  | d + 1, f, g, v, best, p, hd, hv, hf, hg, hp => by
    obtain ⟨f, rfl⟩ : ∃ t, f = t + 1 := ⟨f - 1, by omega⟩
    obtain ⟨g, rfl⟩ : ∃ t, g = t + 1 := ⟨g - 1, by omega⟩
    have l1 := lof_b hb (zN z) (Nat.le_refl _)
    have u1 := @upf_b z (zN z)
    have j60 : ¬ (60 : Int32) < nI v := nI_nlt (a := 60) (b := v) (by omega) (by omega)
    generalize hl : lof z (zN z) = l at *
    generalize hu : upf z (zN z) = u at *
    have e3 := m_manyFrom (v := v) mz h6 hb (by omega)
    rw [hl, hu] at e3
    unfold fX11_stick_37 fX12_stick_14 fX12_stick_51 fX12_stick_65 fX12_stick_78 fX11_stick_82
    rw [if_neg j60, if_neg j60, if_neg (nI_nle (by omega) (by omega)), max_nI (by omega) (by omega), spread_nI (by omega) (by omega), e3]
    simp only [bs]
    simp only [pk_sub (show u - max l v ≤ u - l by omega)]
    rw [max_nI (by omega) (by omega), nI_1]
    have hq : ∀ q : Nat, q ≤ 100 → q = max (u - max l v) (u - l - (u - max l v)) → ∃ r, (if nI p ≤ nI (max (u - max l v) (u - l - (u - max l v))) then fX11_stick_37 f (nI l) (nI u - 1) (nI (u - l)) best (nI p) (nI (v + 1)) μ else fX11_stick_37 f (nI l) (nI u - 1) (nI (u - l)) (nI v) (nI (max (u - max l v) (u - l - (u - max l v)))) (nI (v + 1)) μ) = some r ∧ (if nI p ≤ nI q then (if nI p ≤ nI q then fX12_stick_14 g (nI (u - l)) best (nI p) (nI (v + 1)) ν else fX12_stick_14 g (nI (u - l)) best (nI q) (nI (v + 1)) ν) else (if nI p ≤ nI q then fX12_stick_14 g (nI (u - l)) (nI v) (nI p) (nI (v + 1)) ν else fX12_stick_14 g (nI (u - l)) (nI v) (nI q) (nI (v + 1)) ν)) = some r := by
      intro q hq1 hq2
      have ih := stick_loop (μ := μ) mz h6 hb (by rw [hl, hu]; exact hpos) d f g (v + 1)
      rw [hl, hu] at ih
      rw [← hq2]
      by_cases c : p ≤ q
      · rw [if_pos (nI_le c (by omega)), if_pos (nI_le c (by omega)), if_pos (nI_le c (by omega))]
        exact ih best p (by omega) (by omega) (by omega) (by omega) hp
      · have c' : ¬ nI p ≤ nI q := nI_ge (by omega) (by omega)
        rw [if_neg c', if_neg c', if_neg c']
        exact ih (nI v) q (by omega) (by omega) (by omega) (by omega) (by omega)
    by_cases c : u - max l v ≤ u - l - (u - max l v)
    · rw [if_pos (nI_le c (by omega))]
      exact hq _ (by omega) (by omega)
    · have c' : ¬ nI (u - max l v) ≤ nI (u - l - (u - max l v)) := nI_ge (by omega) (by omega)
      rw [if_neg c']
      exact hq _ (by omega) (by omega)
theorem st_stick : lw_st_stick Iv := by
  intro i hi μ ν h
  obtain ⟨z, wz, cz, mz⟩ := h.1
  obtain ⟨h6, hb⟩ := wz.2.2.2.1
  obtain ⟨e1, e2⟩ := c_holds cz h6 hb
  have l1 := lof_b hb (zN z) (Nat.le_refl _)
  have u1 := @upf_b z (zN z)
  have e3 := m_manyFrom (v := 0) mz h6 hb (by decide)
  rw [nI_0, show max (lof z (zN z)) 0 = lof z (zN z) by omega] at e3
  unfold fX11_stick fX12_stick
  rw [e1, bs, e2, bs, spread_nI (by omega) (by omega), bs, e3, bs]
  by_cases c1 : lof z (zN z) < upf z (zN z)
  · rw [if_neg (nI_ne0 (by omega) (by omega))]
    obtain ⟨r, x1, x2⟩ := stick_loop (μ := μ) mz h6 hb c1 60 999999 999999 1 0 (upf z (zN z) - lof z (zN z)) rfl (by decide) (by decide) (by decide) (by omega)
    refine ⟨r, ?_, ?_, Iv_5 h⟩
    · rw [show av_big = 999999 + 1 from rfl, fX11_stick_37]
      dsimp only
      rw [if_neg (by decide), ← nI_0, max_nI (by omega) (by decide), spread_nI (by omega) (by omega), bs, bs, show max (lof z (zN z)) 0 = lof z (zN z) by omega, pk_sub (Nat.le_refl _), max_nI (by omega) (by omega), if_pos (nI_le (by omega) (by omega))]
      unfold fX11_stick_82
      rw [bs, nI_1, nI_0]
      exact x1
    · rw [show av_big = 999999 + 1 from rfl, fX12_stick_14]
      dsimp only
      unfold fX12_stick_51 fX12_stick_65 fX12_stick_78
      rw [if_neg (by decide), if_neg (nI_nle (by omega) (by omega)), e3, bs, pk_sub (Nat.le_refl _), if_neg (nI_ge (by omega) (by omega))]
      have c6 : ¬ (1000000 : Int32) ≤ nI (upf z (zN z) - lof z (zN z)) := nI_ge (a := upf z (zN z) - lof z (zN z)) (b := 1000000) (by omega) (by decide)
      rw [if_neg c6, if_neg c6, bs, show (0 : Int32) + 1 = nI 1 by decide]
      exact x2
  · rw [show upf z (zN z) - lof z (zN z) = 0 by omega, if_pos (by decide)]
    refine ⟨-1, rfl, ?_, Iv_5 h⟩
    rw [show av_big = 999999 + 1 from rfl, fX12_stick_14]
    dsimp only
    unfold fX12_stick_85
    rw [if_neg (by decide), if_pos (by decide)]
