/-! orders: the reference's side. -/
theorem m1e (x : Int32) : x + (-1) = x - 1 := by rw [Int32.sub_eq_add_neg]
/-- all but the row stays -/
def WR (ν ν' : Mem) : Prop := (∀ a k, gF ν' a k = gF ν a k) ∧ gL ν' = gL ν ∧ (∀ a, a ≠ 105 → gA ν' a = gA ν a)
theorem WR.rf {ν : Mem} : WR ν ν := ⟨fun _ _ => rfl, rfl, fun _ _ => rfl⟩
theorem WR.tr {ν ν1 ν2 : Mem} (h1 : WR ν ν1) (h2 : WR ν1 ν2) : WR ν ν2 := ⟨fun a k => (h2.1 a k).trans (h1.1 a k), h2.2.1.trans h1.2.1, fun a h => (h2.2.2 a h).trans (h1.2.2 a h)⟩
theorem WR.sA {ν : Mem} {f : Nat → Int32} : WR ν (sA ν 105 f) := ⟨fun _ _ => rfl, rfl, fun a h => by rw [gA_sA, if_neg h]⟩
theorem WR.km {ν ν' : Mem} (h : WR ν ν') : KM ν ν' := ⟨h.1 98 22, h.2.1, fun a ha => h.2.2 a (by omega)⟩
theorem m_lay8 {b : Nat} (hb : b < 2 ^ 31) : ∀ (j f c : Nat) (ν : Mem), j < f → j ≤ 6 → (0 < j → 0 < b) → c < 2 ^ 31 → ∃ ν', fX12_layRow_8 f (nI b) (nI c) (nI j - 1) ν = some ν' ∧ WR ν ν' ∧ (∀ i, i < j → gA ν' 105 i = nI (rwo b j c i)) ∧ ∀ i, j ≤ i → gA ν' 105 i = gA ν 105 i
  | 0, f, c, ν, hf, h6, h0, hc => by
    obtain ⟨f, rfl⟩ : ∃ g, f = g + 1 := ⟨f - 1, by omega⟩
    refine ⟨ν, ?_, WR.rf, fun i hi => by omega, fun _ _ => rfl⟩
    unfold fX12_layRow_8
    rw [if_pos (by decide)]
  | j + 1, f, c, ν, hf, h6, h0, hc => by
    obtain ⟨f, rfl⟩ : ∃ g, f = g + 1 := ⟨f - 1, by omega⟩
    have b0 : 0 < b := h0 (by omega)
    have hdiv : c / b ≤ c := Nat.div_le_self c b
    obtain ⟨ν1, e1, w1, r1, s1⟩ := m_lay8 hb j f (c / b) (sA ν 105 (upd (gA ν 105) j (nI (c % b)))) (by omega) (by omega) (fun _ => b0) (by omega)
    refine ⟨ν1, ?_, WR.sA.tr w1, fun i hi => ?_, fun i hi => ?_⟩
    · unfold fX12_layRow_8
      rw [nI_pred, if_neg (nI_pos (by omega)), if_neg (nI_ne0 b0 hb), pk_rem hc b0 hb, wr_nI av_l105 (by omega) (by omega), bs, if_neg (nI_ne0 b0 hb), pk_div hc b0 hb, bs, bs, m1e]
      exact e1
    · by_cases e : i = j
      · rw [s1 i (by omega), gA_ss, e, pk_us, rwo, if_pos rfl]
      · rw [r1 i (by omega), rwo, if_neg e]
    · rw [s1 i (by omega), gA_ss, pk_un (by omega)]
theorem m_layRow {b n c : Nat} {ν : Mem} (hb : b < 2 ^ 31) (h6 : n ≤ 6) (h0 : 0 < n → 0 < b) (hc : c < 2 ^ 31) : ∃ ν', fX12_layRow (nI c) (nI n) (nI b) ν = some ν' ∧ WR ν ν' ∧ (∀ i, i < n → gA ν' 105 i = nI (rwo b n c i)) := by
  obtain ⟨ν1, e1, w1, r1, -⟩ := m_lay8 hb n av_big c ν (by show _ < 1000000; omega) h6 h0 hc
  refine ⟨ν1, ?_, w1, r1⟩
  unfold fX12_layRow
  rw [bs]
  exact e1
theorem m_pow4 {a n : Nat} {ν : Mem} (hn : n ≤ 10) : ∀ (d f i : Nat), d = n - i → i ≤ n → d < f → fX12_power_4 f (nI a) (nI n) (nI (a ^ i)) (nI i) ν = some (nI (a ^ n))
  | 0, f, i, hd, hi, hf => by
    obtain ⟨f, rfl⟩ : ∃ g, f = g + 1 := ⟨f - 1, by omega⟩
    obtain rfl : i = n := by omega
    unfold fX12_power_4
    rw [if_pos (nI_le (by omega) (by omega))]
  | d + 1, f, i, hd, hi, hf => by
    obtain ⟨f, rfl⟩ : ∃ g, f = g + 1 := ⟨f - 1, by omega⟩
    have ih := m_pow4 (a := a) (ν := ν) hn d f (i + 1) (by omega) (by omega) (by omega)
    unfold fX12_power_4
    rw [if_neg (nI_ge (by omega) (by omega)), bs, bs, nI_1, pk_mul, ← Nat.pow_succ]
    exact ih
theorem m_power {a n : Nat} {ν : Mem} (hn : n ≤ 10) : fX12_power (nI a) (nI n) ν = some (nI (a ^ n)) := by
  have e := m_pow4 (a := a) (ν := ν) hn n av_big 0 (by omega) (by omega) (by show _ < 1000000; omega)
  rw [nI_0, Nat.pow_zero, show nI 1 = 1 from rfl] at e
  exact e
/-- votes in turn, by a row -/
def vs (τ : Td) (σ : Hd) (r : Nat → Nat) : Nat → Hd
  | 0 => σ
  | j + 1 => vot τ (vs τ σ r j) (r j)
def ms (r : Nat → Nat) : Nat → Nat
  | 0 => 0
  | j + 1 => ms r j ||| 2 ^ r j
theorem vs_ext {τ : Td} {σ : Hd} {r s : Nat → Nat} : ∀ j, (∀ i, i < j → r i = s i) → vs τ σ r j = vs τ σ s j
  | 0, _ => rfl
  | j + 1, h => by rw [vs, vs, vs_ext j (fun i hi => h i (by omega)), h j (by omega)]
theorem ms_ext {r s : Nat → Nat} : ∀ j, (∀ i, i < j → r i = s i) → ms r j = ms s j
  | 0, _ => rfl
  | j + 1, h => by rw [ms, ms, ms_ext j (fun i hi => h i (by omega)), h j (by omega)]
theorem vs_pst {τ : Td} {σ : Hd} : ∀ j c, vs τ σ (rwo (tV τ) j c) j = pst τ σ j c
  | 0, _ => rfl
  | j + 1, c => by
    rw [vs, pst, ← vs_pst j (c / tV τ), vs_ext (s := rwo (tV τ) j (c / tV τ)) j (fun i hi => by rw [rwo, if_neg (by omega)]), rwo, if_pos rfl]
theorem ms_pmk {n : Nat} : ∀ j c, ms (rwo n j c) j = pmk n j c
  | 0, _ => rfl
  | j + 1, c => by
    rw [ms, pmk, ← ms_pmk j (c / n), ms_ext (s := rwo n j (c / n)) j (fun i hi => by rw [rwo, if_neg (by omega)]), rwo, if_pos rfl]
theorem ms_lt {r : Nat → Nat} : ∀ j, (∀ i, i < j → r i < 8) → ms r j < 256
  | 0, _ => by show 0 < 256; omega
  | j + 1, h => or_lt256 (ms_lt j (fun i hi => h i (by omega))) (pow_lt256 (h j (by omega)))
theorem vs_v {τ : Td} {σ : Hd} {r : Nat → Nat} : ∀ j, (vs τ σ r j).2.2.1 = σ.2.2.1 + j
  | 0 => rfl
  | j + 1 => by rw [vs, vot_v, vs_v j]; omega
theorem vs_HW {τ : Td} {σ : Hd} {r : Nat → Nat} (hw : WT τ) (h : HW σ) : ∀ j, HW (vs τ σ r j)
  | 0 => h
  | j + 1 => HW_vot hw
theorem m_unl {τ : Td} {r : Nat → Nat} {ν : Mem} (hw : WT τ) (hT : MT (gA ν 99) τ) (hr : ∀ i, i < tV τ → gA ν 105 i = nI (r i) ∧ r i < 8) : ∀ (d f i : Nat), d = tV τ - i → i ≤ tV τ → d < f → fX12_areUnlike_4 f (nI (ms r i)) (nI i) ν = some (if ms r (tV τ) = 2 ^ tV τ - 1 then 1 else 0)
  | 0, f, i, hd, hi, hf => by
    obtain ⟨f, rfl⟩ : ∃ g, f = g + 1 := ⟨f - 1, by omega⟩
    have v6 := hw.2.1
    obtain ⟨t1, t2, -, -⟩ := two_V hw.2.1
    obtain rfl : i = tV τ := by omega
    have hm := ms_lt (r := r) (tV τ) (fun i hi => (hr i hi).2)
    have hp : 0 < 2 ^ tV τ := Nat.two_pow_pos _
    have e1 : nI (2 ^ tV τ) - 1 = nI (2 ^ tV τ - 1) := pk_sub (b := 1) hp
    unfold fX12_areUnlike_4
    rw [m_voters hT, bs, if_pos (nI_le (by omega) (by omega)), bs, t1, e1]
    by_cases e : ms r (tV τ) = 2 ^ tV τ - 1
    · rw [if_pos (by rw [e]), if_pos e]
    · rw [if_neg (fun h => e ((nI_eq (by omega) (by omega)).mp h)), if_neg e]
  | d + 1, f, i, hd, hi, hf => by
    obtain ⟨f, rfl⟩ : ∃ g, f = g + 1 := ⟨f - 1, by omega⟩
    have v6 := hw.2.1
    have ih := m_unl hw hT hr d f (i + 1) (by omega) (by omega) (by omega)
    have hm := ms_lt (r := r) i (fun j hj => (hr j (by omega)).2)
    unfold fX12_areUnlike_4
    rw [m_voters hT, bs, if_neg (nI_ge (by omega) (by omega)), rd_nI av_l105 (by omega) (by omega), (hr i (by omega)).1, bs, bs, bs, nI_1, nI_bit hm (hr i (by omega)).2]
    exact ih
theorem m_unlike {τ : Td} {r : Nat → Nat} {ν : Mem} (hw : WT τ) (hT : MT (gA ν 99) τ) (hr : ∀ i, i < tV τ → gA ν 105 i = nI (r i) ∧ r i < 8) : fX12_areUnlike ν = some (if ms r (tV τ) = 2 ^ tV τ - 1 then 1 else 0) := by
  have v6 := hw.2.1
  have e := m_unl hw hT hr (tV τ) av_big 0 (by omega) (by omega) (by show _ < 1000000; omega)
  rw [nI_0, show nI (ms r 0) = 0 from rfl] at e
  exact e
theorem m_o78 {τ : Td} {σ : Hd} {r : Nat → Nat} {x1 x2 x4 x5 : Int32} (k46 : Int32 → Int32 → Int32 → Int32 → Int32 → Mem → Option (Int32 × Mem)) (hw : WT τ) (hW : HW σ) (hn : σ.2.2.1 + 6 < 2 ^ 30) (hr : ∀ i, i < tV τ → r i < tV τ) : ∀ (d f i : Nat) (ν : Mem), d = tV τ - i → i ≤ tV τ → d < f → MT (gA ν 99) τ → (∀ i, i < tV τ → gA ν 105 i = nI (r i)) → HS ν τ (vs τ σ r i) → ∃ ν', fX12_orders_78 k46 f x1 x2 (nI (tV τ)) x4 x5 (nI i) ν = fX12_orders_106 k46 av_big x1 x2 (nI (tV τ)) x4 x5 0 ν' ∧ HO ν ν' ∧ HS ν' τ (vs τ σ r (tV τ))
  | 0, f, i, ν, hd, hi, hf, hT, h5, hS => by
    obtain ⟨f, rfl⟩ : ∃ g, f = g + 1 := ⟨f - 1, by omega⟩
    have v6 := hw.2.1
    obtain rfl : i = tV τ := by omega
    refine ⟨ν, ?_, HO.rf, hS⟩
    rw [fX12_orders_78]
    dsimp only
    rw [if_pos (nI_le (by omega) (by omega))]
  | d + 1, f, i, ν, hd, hi, hf, hT, h5, hS => by
    obtain ⟨f, rfl⟩ : ∃ g, f = g + 1 := ⟨f - 1, by omega⟩
    have v6 := hw.2.1
    obtain ⟨ν1, e1, o1, h1⟩ := m_goVote hw hT hS (vs_HW hw hW i) (by rw [vs_v]; omega) (hr i (by omega))
    obtain ⟨ν2, e2, o2, h2⟩ := m_o78 (x1 := x1) (x2 := x2) (x4 := x4) (x5 := x5) k46 hw hW hn hr d f (i + 1) ν1 (by omega) (by omega) (by omega) (by rw [HO_99 o1]; exact hT) (by rw [o1.2.2 105 (by decide) (by decide)]; exact h5) h1
    refine ⟨ν2, ?_, o1.tr o2, h2⟩
    rw [fX12_orders_78]
    dsimp only
    rw [if_neg (nI_ge (by omega) (by omega)), rd_nI av_l105 (by omega) (by omega), h5 i (by omega), bs, e1, b2_some, bs, nI_1]
    exact e2
/-- all but the first row stays -/
def WF (ν ν' : Mem) : Prop := (∀ a k, gF ν' a k = gF ν a k) ∧ gL ν' = gL ν ∧ (∀ a, a ≠ 106 → gA ν' a = gA ν a)
theorem WF.rf {ν : Mem} : WF ν ν := ⟨fun _ _ => rfl, rfl, fun _ _ => rfl⟩
theorem WF.tr {ν ν1 ν2 : Mem} (h1 : WF ν ν1) (h2 : WF ν1 ν2) : WF ν ν2 := ⟨fun a k => (h2.1 a k).trans (h1.1 a k), h2.2.1.trans h1.2.1, fun a h => (h2.2.2 a h).trans (h1.2.2 a h)⟩
theorem WF.sA {ν : Mem} {f : Nat → Int32} : WF ν (sA ν 106 f) := ⟨fun _ _ => rfl, rfl, fun a h => by rw [gA_sA, if_neg h]⟩
theorem WF.km {ν ν' : Mem} (h : WF ν ν') : KM ν ν' := ⟨h.1 98 22, h.2.1, fun a ha => h.2.2 a (by omega)⟩
theorem m_o106 {n : Nat} {r : Nat → Nat} {x1 x2 x5 : Int32} (k46 : Int32 → Int32 → Int32 → Int32 → Int32 → Mem → Option (Int32 × Mem)) (h6 : n ≤ 6) : ∀ (d f i : Nat) (ν : Mem), d = n - i → i ≤ n → d < f → (∀ i, i < n → gA ν 105 i = nI (r i)) → (∀ j, j < i → gA ν 106 j = nI (r j)) → gF ν 98 9 = x1 → ∃ ν', fX12_orders_106 k46 f x1 x2 (nI n) 0 x5 (nI i) ν = fX12_orders_145 k46 x1 x2 (nI n) 0 x5 ν' ∧ WF ν ν' ∧ ∀ j, j < n → gA ν' 106 j = nI (r j)
  | 0, f, i, ν, hd, hi, hf, h5, hj, h9 => by
    obtain ⟨f, rfl⟩ : ∃ g, f = g + 1 := ⟨f - 1, by omega⟩
    obtain rfl : i = n := by omega
    refine ⟨ν, ?_, WF.rf, hj⟩
    rw [fX12_orders_106]
    dsimp only
    rw [if_pos (nI_le (by omega) (by omega))]
  | d + 1, f, i, ν, hd, hi, hf, h5, hj, h9 => by
    obtain ⟨f, rfl⟩ : ∃ g, f = g + 1 := ⟨f - 1, by omega⟩
    obtain ⟨ν2, e2, o2, h2⟩ := m_o106 (r := r) (x1 := x1) (x2 := x2) (x5 := x5) k46 h6 d f (i + 1) (sA ν 106 (upd (gA ν 106) i (nI (r i)))) (by omega) (by omega) (by omega) (by rw [gA_sA, if_neg (by decide)]; exact h5) (fun j hj' => by
      rw [gA_ss]
      by_cases e : j = i
      · rw [e, pk_us]
      · rw [pk_un e]; exact hj j (by omega)) h9
    refine ⟨ν2, ?_, WF.sA.tr o2, h2⟩
    rw [fX12_orders_106]
    dsimp only
    rw [if_neg (nI_ge (by omega) (by omega)), if_pos h9, if_pos rfl, rd_nI av_l105 (by omega) (by omega), h5 i (by omega), bs, wr_nI av_l106 (by omega) (by omega), bs, bs, nI_1]
    exact e2
theorem m_o106n {n : Nat} {x1 x2 x4 x5 : Int32} {ν : Mem} (k46 : Int32 → Int32 → Int32 → Int32 → Int32 → Mem → Option (Int32 × Mem)) (f : Nat) (h : ¬ (gF ν 98 9 = x1 ∧ x4 = 0)) : fX12_orders_106 k46 (f + 1) x1 x2 (nI n) x4 x5 0 ν = fX12_orders_145 k46 x1 x2 (nI n) x4 x5 ν := by
  rw [fX12_orders_106]
  dsimp only
  by_cases e : nI n ≤ 0
  · rw [if_pos e]
  · rw [if_neg e]
    by_cases e9 : gF ν 98 9 = x1
    · rw [if_pos e9, if_neg (fun h4 => h ⟨e9, h4⟩)]
    · rw [if_neg e9]
/-- the first row that was kept -/
def FK (ν : Mem) (n : Nat) (a : Ac) : Prop := a.1 ≠ 0 → ∀ i, i < n → gA ν 106 i = nI (rwo n n a.2 i)
theorem m_code {τ : Td} {σ : Hd} {k e : Nat} {x2 : Int32} {ν : Mem} {a : Ac} {P : Nat} (k46 : Int32 → Int32 → Int32 → Int32 → Int32 → Mem → Option (Int32 × Mem)) (hw : WT τ) (hW : HW σ) (hn : σ.2.2.1 + 6 < 2 ^ 30) (hT : MT (gA ν 99) τ) (hM : MS (gA ν 99) τ σ) (hK : FK ν (tV τ) a) (ha : a.1 < 2 ^ 30) (he : e < 2 ^ 30) : ∃ ν' a', ((fX12_layRow (nI e) (nI (tV τ)) (nI (tV τ)) ν).bind fun μ61 => (fX12_areUnlike μ61).bind fun r65 => if r65 = 0 then (fX12_orders_163 k46 (nI k) x2 (nI (tV τ)) (nI a.1) (nI e) μ61) else ((fX12_layHand μ61).bind fun μ72 => fX12_orders_78 k46 av_big (nI k) x2 (nI (tV τ)) (nI a.1) (nI e) 0 μ72)) = k46 (nI k) x2 (nI (tV τ)) (nI a'.1) (nI (e + 1)) ν' ∧ KM ν ν' ∧ FK ν' (tV τ) a' ∧ a' = lef (tV τ) k e (pst τ σ (tV τ) e) (pmk (tV τ) (tV τ) e) a := by
  have v6 := hw.2.1
  obtain ⟨ν1, e1, w1, r1⟩ := m_layRow (b := tV τ) (n := tV τ) (c := e) (ν := ν) (by omega) v6 (fun h => h) (by omega)
  have hT1 : MT (gA ν1 99) τ := by rw [w1.2.2 99 (by decide)]; exact hT
  have hM1 : MS (gA ν1 99) τ σ := by rw [w1.2.2 99 (by decide)]; exact hM
  have rl : ∀ i, i < tV τ → rwo (tV τ) (tV τ) e i < tV τ := fun i hi => rwo_lt (by omega) _ _ _ hi
  rw [e1, bs, m_unlike hw hT1 (r := rwo (tV τ) (tV τ) e) (fun i hi => ⟨r1 i hi, by have := rl i hi; omega⟩), bs, ms_pmk]
  have K1 : FK ν1 (tV τ) a := by
    intro h i hi
    rw [w1.2.2 106 (by decide)]
    exact hK h i hi
  by_cases u : pmk (tV τ) (tV τ) e = 2 ^ tV τ - 1
  · rw [if_pos u, if_neg n10]
    obtain ⟨ν2, e2, o2, h2⟩ := m_layHand hw hT1 hM1
    obtain ⟨ν3, e3, o3, h3⟩ := m_o78 (σ := σ) (r := rwo (tV τ) (tV τ) e) (x1 := nI k) (x2 := x2) (x4 := nI a.1) (x5 := nI e) k46 hw hW hn rl (tV τ) av_big 0 ν2 (by omega) (by omega) (by show _ < 1000000; omega) (by rw [HO_99 o2]; exact hT1) (by rw [o2.2.2 105 (by decide) (by decide)]; exact r1) h2
    rw [vs_pst] at h3
    rw [nI_0] at e3
    rw [e2, bs, e3]
    have o23 := o2.tr o3
    have r3 : ∀ i, i < tV τ → gA ν3 105 i = nI (rwo (tV τ) (tV τ) e i) := by rw [o23.2.2 105 (by decide) (by decide)]; exact r1
    have K3 : FK ν3 (tV τ) a := by
      intro h i hi
      rw [o23.2.2 106 (by decide) (by decide)]
      exact K1 h i hi
    have km3 : KM ν ν3 := w1.km.tr (KM.ho o23)
    by_cases won : (pst τ σ (tV τ) e).2.2.2.1 = nI k
    · by_cases a0 : a.1 = 0
      · obtain ⟨ν4, e4, o4, h4⟩ := m_o106 (r := rwo (tV τ) (tV τ) e) (x1 := nI k) (x2 := x2) (x5 := nI e) k46 v6 (tV τ) av_big 0 ν3 (by omega) (by omega) (by show _ < 1000000; omega) r3 (fun j hj => by omega) (by rw [h3.2.2.1, won])
        rw [nI_0] at e4
        refine ⟨ν4, lef (tV τ) k e (pst τ σ (tV τ) e) (pmk (tV τ) (tV τ) e) a, ?_, km3.tr o4.km, ?_, rfl⟩
        · rw [a0, nI_0, e4]
          unfold fX12_orders_145 fX12_orders_160 fX12_orders_163
          rw [o4.1, h3.2.2.1, if_pos won, bs, bs, nI_1, lef, if_pos ⟨u, won⟩, a0]
          rfl
        · intro _ i hi
          rw [lef, if_pos ⟨u, won⟩, a0]
          exact h4 i hi
      · refine ⟨ν3, lef (tV τ) k e (pst τ σ (tV τ) e) (pmk (tV τ) (tV τ) e) a, ?_, km3, ?_, rfl⟩
        · rw [show av_big = 999999 + 1 from rfl, m_o106n k46 999999 (fun h => a0 (by have := (nI_eq (a := a.1) (b := 0) (by omega) (by decide)).mp h.2; exact this))]
          unfold fX12_orders_145 fX12_orders_160 fX12_orders_163
          rw [h3.2.2.1, if_pos won, bs, bs, nI_1, nI_1, lef, if_pos ⟨u, won⟩]
        · intro _ i hi
          rw [lef, if_pos ⟨u, won⟩, if_neg a0]
          exact K3 a0 i hi
    · refine ⟨ν3, lef (tV τ) k e (pst τ σ (tV τ) e) (pmk (tV τ) (tV τ) e) a, ?_, km3, ?_, rfl⟩
      · rw [show av_big = 999999 + 1 from rfl, m_o106n k46 999999 (fun h => won (by rw [← h3.2.2.1]; exact h.1))]
        unfold fX12_orders_145 fX12_orders_160 fX12_orders_163
        rw [h3.2.2.1, if_neg won, bs, bs, nI_1, lef, if_neg (fun h => won h.2), Int32.add_zero]
      · rw [lef, if_neg (fun h => won h.2)]
        exact K3
  · rw [if_neg u, if_pos rfl]
    refine ⟨ν1, lef (tV τ) k e (pst τ σ (tV τ) e) (pmk (tV τ) (tV τ) e) a, ?_, w1.km, ?_, rfl⟩
    · unfold fX12_orders_163
      rw [bs, nI_1, lef, if_neg (fun h => u h.1)]
    · rw [lef, if_neg (fun h => u h.1)]
      exact K1
theorem pow_nn {n : Nat} (h : n ≤ 6) : n ^ n ≤ 46656 := by
  have hd : ∀ n, n ≤ 6 → n ^ n ≤ 46656 := by decide +kernel
  exact hd n h
theorem m_o46 {τ : Td} {σ : Hd} {k : Nat} {x2 : Int32} (hw : WT τ) (hW : HW σ) (hn : σ.2.2.1 + 6 < 2 ^ 30) : ∀ (d f e : Nat) (a : Ac) (ν : Mem), d = tV τ ^ tV τ - e → e ≤ tV τ ^ tV τ → d < f → MT (gA ν 99) τ → MS (gA ν 99) τ σ → FK ν (tV τ) a → a.1 ≤ e → ∃ ν' a', fX12_orders_46 f (nI k) x2 (nI (tV τ)) (nI a.1) (nI e) ν = (if x2 = (-1) then (some (nI a'.1, ν')) else (if nI a'.1 = 0 then (some ((-1), ν')) else (if nI (tV τ) ≤ x2 then (some ((-5), ν')) else ((rd ν' 106 x2).bind fun r198 => some (r198, ν'))))) ∧ KM ν ν' ∧ FK ν' (tV τ) a' ∧ a' = flt (fun e b => lef (tV τ) k e (pst τ σ (tV τ) e) (pmk (tV τ) (tV τ) e) b) e d a
  | 0, f, e, a, ν, hd, he, hf, hT, hM, hK, ha => by
    obtain ⟨f, rfl⟩ : ∃ g, f = g + 1 := ⟨f - 1, by omega⟩
    have v6 := hw.2.1
    have pn := pow_nn v6
    refine ⟨ν, a, ?_, KM.rf, hK, rfl⟩
    rw [fX12_orders_46]
    dsimp only
    rw [m_power (by omega), bs, if_pos (nI_le (by omega) (by omega))]
  | d + 1, f, e, a, ν, hd, he, hf, hT, hM, hK, ha => by
    obtain ⟨f, rfl⟩ : ∃ g, f = g + 1 := ⟨f - 1, by omega⟩
    have v6 := hw.2.1
    have pn := pow_nn v6
    obtain ⟨ν1, a1, e1, m1, K1, q1⟩ := m_code (P := 0) (k := k) (e := e) (x2 := x2) (fX12_orders_46 f) hw hW hn hT hM hK (by omega) (by omega)
    have l1 : a1.1 ≤ e + 1 := by
      rw [q1, lef]
      split
      · show a.1 + 1 ≤ _; omega
      · omega
    obtain ⟨ν2, a2, e2, m2, K2, q2⟩ := m_o46 (k := k) (x2 := x2) hw hW hn d f (e + 1) a1 ν1 (by omega) (by omega) (by omega) (by rw [m1.2.2 99 (by omega)]; exact hT) (by rw [m1.2.2 99 (by omega)]; exact hM) K1 l1
    refine ⟨ν2, a2, ?_, m1.tr m2, K2, ?_⟩
    · rw [fX12_orders_46]
      dsimp only
      rw [m_power (by omega), bs, if_neg (nI_ge (by omega) (by omega)), e1]
      exact e2
    · rw [q2, flt_suc, q1]
