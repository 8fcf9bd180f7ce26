/-! The reference: what comes down, votes, nights. -/
theorem wide_lt (a b : Int32) : a.toInt64 < b.toInt64 ↔ a < b := by
  rw [Int64.lt_iff_toInt_lt, Int32.lt_iff_toInt_lt, Int32.toInt_toInt64, Int32.toInt_toInt64]
theorem m_inL (a b c : Int64) (μ : Mem) : fX12_in a b c μ = some (if b ≤ a ∧ a ≤ c then 1 else 0) := by
  unfold fX12_in fX12_in_17
  by_cases h1 : a < b
  · rw [if_pos (by rw [lg_cmp_lt]; exact h1), if_neg (fun h => absurd h1 (Int64.not_lt.mpr h.1))]
  · rw [if_neg (by rw [lg_cmp_lt]; exact h1)]
    by_cases h2 : c < a
    · rw [if_pos (by rw [lg_cmp_gt]; exact h2), if_neg (fun h => absurd h2 (Int64.not_lt.mpr h.2))]
    · rw [if_neg (by rw [lg_cmp_gt]; exact h2), if_pos ⟨Int64.not_lt.mp h1, Int64.not_lt.mp h2⟩]
theorem m_in (a b c : Int32) (μ : Mem) : fX12_in a.toInt64 b.toInt64 c.toInt64 μ = some (if b ≤ a ∧ a ≤ c then 1 else 0) := by
  rw [m_inL]
  have e : ∀ x y : Int32, (x.toInt64 ≤ y.toInt64) = (x ≤ y) := fun x y => by
    rw [Int64.le_iff_toInt_le, Int32.le_iff_toInt_le, Int32.toInt_toInt64, Int32.toInt_toInt64]
  simp only [e]
theorem z_ite {P : Prop} [Decidable P] : av_z (if P then 1 else 0) = some (if P then 1 else 0) := by
  split <;> rfl
/-- what is told, in the reference's row -/
def MT (f : Nat → Int32) (τ : Td) : Prop := f 0 = nI (tL τ) ∧ f 1 = nI (tV τ) ∧ (∀ k, k < tL τ → f (7 + 4 * k) = nI (tH τ k) ∧ f (7 + 4 * k + 3) = bI (tB τ k)) ∧ (∀ v, v < tV τ → f (39 + 3 * v) = nI (tK τ v) ∧ f (39 + 3 * v + 1) = nI (tG τ v) ∧ f (39 + 3 * v + 2) = nI (tS τ v))
def HL (ν : Mem) (τ : Td) (σ : Hd) : Prop := ∀ k, k < tL τ → gA ν 103 k = σ.1 k ∧ gA ν 104 k = σ.2.1 k
def HS (ν : Mem) (τ : Td) (σ : Hd) : Prop := HL ν τ σ ∧ gF ν 98 8 = nI σ.2.2.1 ∧ gF ν 98 9 = σ.2.2.2.1 ∧ gF ν 98 10 = σ.2.2.2.2
def HO (ν ν' : Mem) : Prop := (∀ a k, (a ≠ 98 ∨ k < 8 ∨ 12 < k) → gF ν' a k = gF ν a k) ∧ gL ν' = gL ν ∧ (∀ a, a ≠ 103 → a ≠ 104 → gA ν' a = gA ν a)
theorem HO.rf {ν : Mem} : HO ν ν := ⟨fun _ _ _ => rfl, rfl, fun _ _ _ => rfl⟩
theorem HO.tr {ν ν1 ν2 : Mem} (h1 : HO ν ν1) (h2 : HO ν1 ν2) : HO ν ν2 := ⟨fun a k h => (h2.1 a k h).trans (h1.1 a k h), h2.2.1.trans h1.2.1, fun a g1 g2 => (h2.2.2 a g1 g2).trans (h1.2.2 a g1 g2)⟩
theorem HO.sF {k : Nat} {ν : Mem} {v : Int32} (hk : 8 ≤ k ∧ k ≤ 12) : HO ν (sF ν 98 k v) := ⟨fun a b h => by
  rw [gF_sF]
  split
  · split
    · omega
    · rfl
  · rfl, rfl, fun _ _ _ => rfl⟩
theorem HO.sA {ν : Mem} {f : Nat → Int32} {b : Nat} (hb : b = 103 ∨ b = 104) : HO ν (sA ν b f) := ⟨fun _ _ _ => rfl, rfl, fun a h1 h2 => by rw [gA_sA, if_neg (by omega)]⟩
theorem HO_99 {ν ν' : Mem} (h : HO ν ν') : gA ν' 99 = gA ν 99 := h.2.2 99 (by decide) (by decide)
theorem m_ledges {ν : Mem} {τ : Td} (hT : MT (gA ν 99) τ) : fX12_ledges ν = some (nI (tL τ)) := by
  unfold fX12_ledges
  rw [show (0 : Int32) = nI 0 from rfl, rd_nI av_l99 (by omega) (by omega), hT.1]
  rfl
theorem m_voters {ν : Mem} {τ : Td} (hT : MT (gA ν 99) τ) : fX12_voters ν = some (nI (tV τ)) := by
  unfold fX12_voters
  rw [show (1 : Int32) = nI 1 from rfl, rd_nI av_l99 (by omega) (by omega), hT.2.1]
  rfl
theorem ix_get (k j : Nat) : ((7 : Int32) + (4 * nI k)) + nI j = nI (7 + 4 * k + j) := by
  rw [show (7 : Int32) = nI 7 from rfl, show (4 : Int32) = nI 4 from rfl, pk_mul, nI_add, nI_add]
theorem ix_tel (k j : Nat) : ((39 : Int32) + (3 * nI k)) + nI j = nI (39 + 3 * k + j) := by
  rw [show (39 : Int32) = nI 39 from rfl, show (3 : Int32) = nI 3 from rfl, pk_mul, nI_add, nI_add]
theorem m_get {ν : Mem} {k j : Nat} (hk : k < 8) (hj : j < 4) : fX12_get (nI k) (nI j) ν = some (gA ν 99 (7 + 4 * k + j)) := by
  unfold fX12_get
  rw [ix_get, rd_nI av_l99 (by omega) (by omega)]
  rfl
theorem m_tells {ν : Mem} {v j : Nat} (hv : v < 6) (hj : j < 3) : fX12_tells (nI v) (nI j) ν = some (gA ν 99 (39 + 3 * v + j)) := by
  unfold fX12_tells
  rw [ix_tel, rd_nI av_l99 (by omega) (by omega)]
  rfl
theorem m_hold {ν : Mem} {τ : Td} {k : Nat} (hw : WT τ) (hT : MT (gA ν 99) τ) (hk : k < tL τ) : fX12_get (nI k) 0 ν = some (nI (tH τ k)) := by
  have h8 := hw.1
  rw [show (0 : Int32) = nI 0 from rfl, m_get (by omega) (by omega), Nat.add_zero, (hT.2.2.1 k hk).1]
theorem m_below {ν : Mem} {τ : Td} {k : Nat} (hw : WT τ) (hT : MT (gA ν 99) τ) (hk : k < tL τ) : fX12_get (nI k) 3 ν = some (bI (tB τ k)) := by
  have h8 := hw.1
  rw [show (3 : Int32) = nI 3 from rfl, m_get (by omega) (by omega), (hT.2.2.1 k hk).2]
theorem m_isLedge {ν : Mem} {τ : Td} (hT : MT (gA ν 99) τ) (a : Int32) : fX12_isLedge a ν = some (if (0 : Int32) ≤ a ∧ a ≤ nI (tL τ) - 1 then 1 else 0) := by
  unfold fX12_isLedge
  rw [m_ledges hT]
  simp only [Option.bind_some]
  rw [show (0 : Int64) = Int32.toInt64 0 from rfl, m_in]
  simp only [Option.bind_some]
  rw [z_ite]
  rfl
theorem m_isVoter {ν : Mem} {τ : Td} (hT : MT (gA ν 99) τ) (a : Int32) : fX12_isVoter a ν = some (if (0 : Int32) ≤ a ∧ a ≤ nI (tV τ) - 1 then 1 else 0) := by
  unfold fX12_isVoter
  rw [m_voters hT]
  simp only [Option.bind_some]
  rw [show (0 : Int64) = Int32.toInt64 0 from rfl, m_in]
  simp only [Option.bind_some]
  rw [z_ite]
  rfl
theorem m_load {ν : Mem} {τ : Td} {k : Nat} {σ : Hd} (hw : WT τ) (hS : HL ν τ σ) (hk : k < tL τ) : fX12_load (nI k) ν = some (ld σ k) := by
  have h8 := hw.1
  unfold fX12_load
  rw [rd_nI av_l103 (by omega) (by omega), rd_nI av_l104 (by omega) (by omega), (hS k hk).1, (hS k hk).2]
  rfl
/-- the first that is over, if one is -/
def hdI : List Nat → Int32
  | [] => -1
  | k :: _ => nI k
theorem m_first {ν : Mem} {τ : Td} {σ : Hd} (hw : WT τ) (hT : MT (gA ν 99) τ) (hS : HL ν τ σ) (x : Option Nat) (hx : match x with | none => ∀ j, j < tL τ → ov τ σ j = false | some k => fov τ σ k) : ∀ (d f i : Nat), d = tL τ - i → i ≤ tL τ → d < f → (∀ k, x = some k → i ≤ k) → fX12_firstOver_2 f (nI i) ν = some (bI x)
  | 0, f, i, hd, hi, hf, hik => by
    obtain ⟨f, rfl⟩ : ∃ g, f = g + 1 := ⟨f - 1, by omega⟩
    have h8 := hw.1
    obtain rfl : i = tL τ := by omega
    unfold fX12_firstOver_2
    rw [m_ledges hT]
    simp only [Option.bind_some]
    rw [if_pos (nI_le (by omega) (by omega))]
    cases x with
    | none => rfl
    | some k => have := hik k rfl; have : k < tL τ := hx.1; omega
  | d + 1, f, i, hd, hi, hf, hik => by
    obtain ⟨f, rfl⟩ : ∃ g, f = g + 1 := ⟨f - 1, by omega⟩
    have h8 := hw.1
    unfold fX12_firstOver_2
    rw [m_ledges hT]
    simp only [Option.bind_some]
    rw [if_neg (nI_ge (by omega) (by omega)), m_load hw hS (by omega), m_hold hw hT (by omega)]
    simp only [Option.bind_some]
    by_cases c : x = some i
    · subst c
      have h2 : ov τ σ i = true := hx.2.1
      unfold ov at h2
      rw [if_neg (Int32.not_le.mpr (by simpa using h2))]
      rfl
    · have h2 : ov τ σ i = false := by
        cases x with
        | none => exact hx i (by omega)
        | some k =>
          have h3 := hik k rfl
          have h4 : i ≠ k := fun e => c (by rw [e])
          exact hx.2.2 i (by omega)
      unfold ov at h2
      rw [if_pos (Int32.not_lt.mp (by simpa using h2)), nI_1]
      refine m_first hw hT hS x hx d f (i + 1) (by omega) (by omega) (by omega) (fun k hk => ?_)
      have h3 := hik k hk
      have h4 : i ≠ k := fun e => c (by rw [hk, e])
      omega
theorem m_firstOver {ν : Mem} {τ : Td} {σ : Hd} (hw : WT τ) (hT : MT (gA ν 99) τ) (hS : HL ν τ σ) (x : Option Nat) (hx : match x with | none => ∀ j, j < tL τ → ov τ σ j = false | some k => fov τ σ k) : fX12_firstOver ν = some (bI x) :=
  m_first hw hT hS x hx (tL τ) av_big 0 (by omega) (by omega) (by have := hw.1; show _ < 1000000; omega) (fun _ _ => by omega)
theorem m_hd {ν : Mem} {τ : Td} {σ σ' : Hd} {l : List Nat} (hw : WT τ) (hT : MT (gA ν 99) τ) (hS : HL ν τ σ) (hR : Rp τ σ l σ') (hE : ∀ j, j < tL τ → ov τ σ' j = false) : fX12_firstOver ν = some (hdI l) := by
  cases l with
  | nil =>
    have hR : σ' = σ := hR
    subst hR
    exact m_firstOver hw hT hS none hE
  | cons k l => exact m_firstOver hw hT hS (some k) hR.1
theorem bmk_ne0 {l : List Nat} (hl : ∀ k, k ∈ l → k < 8) (h : l ≠ []) : ¬ nI (bmk 0 l) = 0 := by
  have hm := bmk_lt (l := l) (s := 0) (by decide) hl
  cases l with
  | nil => exact absurd rfl h
  | cons k l =>
    have hb : (bmk 0 (k :: l)).testBit k = true := by rw [bmk_mem]; simp
    refine nI_ne0 ?_ (by omega)
    rcases Nat.eq_zero_or_pos (bmk 0 (k :: l)) with h0 | h0
    · rw [h0] at hb; simp at hb
    · exact h0
/-- the drop itself -/
theorem m_drop {τ : Td} {σ : Hd} {ν : Mem} {l0 : List Nat} {k : Nat} (hw : WT τ) (hT : MT (gA ν 99) τ) (hS : HL ν τ σ) (hl : ∀ k, k ∈ l0 → k < tL τ) (hk : k < tL τ) (h11 : gF ν 98 11 = wst (-1) l0) (h12 : gF ν 98 12 = nI (bmu τ 0 l0)) (k17 : Nat) :
    ∃ ν', fX12_comesDown_17 (k17 + 1) (nI (bmk 0 l0)) (nI k) ν = ((fX12_firstOver ν').bind fun r => fX12_comesDown_17 k17 (nI (bmk 0 (l0 ++ [k]))) r ν') ∧ HO ν ν' ∧ (∀ j, j < 11 → gF ν' 98 j = gF ν 98 j) ∧ HL ν' τ (drp τ σ k) ∧ gF ν' 98 11 = wst (-1) (l0 ++ [k]) ∧ gF ν' 98 12 = nI (bmu τ 0 (l0 ++ [k])) := by
  have h8 := hw.1
  have hl8 : ∀ k, k ∈ l0 → k < 8 := fun k h => by have := hl k h; omega
  have hm := bmk_lt (l := l0) (s := 0) (by decide) hl8
  have hcv := bmu_lt (l := l0) (s := 0) hw (by decide) hl
  have e60 : ∀ ν1 : Mem, gF ν1 98 11 = wst (-1) l0 → fX12_comesDown_60 (fX12_comesDown_17 k17) (nI (bmk 0 l0)) (nI k) ν1 = ((fX12_firstOver (sF (sA (sA ν1 103 (upd (gA ν1 103) k 0)) 104 (upd (gA ν1 104) k 0)) 98 11 (wst (-1) (l0 ++ [k])))).bind fun r => fX12_comesDown_17 k17 (nI (bmk 0 (l0 ++ [k]))) r (sF (sA (sA ν1 103 (upd (gA ν1 103) k 0)) 104 (upd (gA ν1 104) k 0)) 98 11 (wst (-1) (l0 ++ [k])))) := by
    intro ν1 hf
    unfold fX12_comesDown_60
    rw [wr_nI av_l103 (by omega) (by omega)]
    simp only [Option.bind_some]
    rw [wr_nI av_l104 (by omega) (by omega)]
    simp only [Option.bind_some]
    rw [gF_sA, gF_sA, hf, show gA (sA ν1 103 (upd (gA ν1 103) k 0)) 104 = gA ν1 104 by rw [gA_sA, if_neg (by decide)]]
    unfold fX12_comesDown_91
    simp only [Option.bind_some]
    rw [nI_bit hm (by omega), ← bmk_snoc, wst_snoc hl8]
    by_cases c : wst (-1) l0 = -1
    · rw [if_pos c]
      rw [show wst (wst (-1) l0) [k] = nI k by unfold wst; unfold wst at c; rw [if_pos c]]
    · rw [if_neg c]
      rw [show wst (wst (-1) l0) [k] = wst (-1) l0 by rw [wst, if_neg c]]
  have ge : ∀ (ν1 : Mem) (w : Int32), gA (sF (sA (sA ν1 103 (upd (gA ν1 103) k 0)) 104 (upd (gA ν1 104) k 0)) 98 11 w) 103 = upd (gA ν1 103) k 0 := fun ν1 w => by rw [gA_sF, gA_sA, if_neg (by decide), gA_sA, if_pos rfl]
  have gf : ∀ (ν1 : Mem) (w : Int32), gA (sF (sA (sA ν1 103 (upd (gA ν1 103) k 0)) 104 (upd (gA ν1 104) k 0)) 98 11 w) 104 = upd (gA ν1 104) k 0 := fun ν1 w => by rw [gA_sF, gA_sA, if_pos rfl]
  rw [fX12_comesDown_17]
  dsimp only
  rw [if_neg (m1_ne (by omega)), m_below hw hT hk]
  simp only [Option.bind_some]
  cases hu : tB τ k with
  | none =>
    rw [if_pos (show bI none = -1 from rfl)]
    refine ⟨_, e60 ν h11, ((HO.sA (Or.inl rfl)).tr (HO.sA (Or.inr rfl))).tr (HO.sF (by omega)), fun j hj => ?_, ?_, ?_, ?_⟩
    · rw [gF_sn (by omega), gF_sA, gF_sA]
    · intro j hj
      rw [ge, gf]
      unfold drp
      rw [hu]
      dsimp only
      unfold upd
      split
      · exact ⟨rfl, rfl⟩
      · exact hS j hj
    · rw [gF_sq, if_pos rfl]
    · rw [gF_sn (by decide), gF_sA, gF_sA, h12, bmu_snoc]
      simp [bmu, hu]
  | some u =>
    have huk := hw.2.2.2.1 k hk u hu
    rw [show bI (some u) = nI u from rfl, if_neg (m1_ne (by omega)), rd_nI av_l103 (by omega) (by omega), m_load hw hS hk]
    simp only [Option.bind_some]
    rw [wr_nI av_l103 (by omega) (by omega)]
    simp only [Option.bind_some]
    rw [gF_sA, h12, nI_bit hcv (by omega), (hS u (by omega)).1]
    refine ⟨_, e60 _ (by rw [gF_sn (by decide), gF_sA]; exact h11), ((((HO.sA (Or.inl rfl)).tr (HO.sF (by omega))).tr (HO.sA (Or.inl rfl))).tr (HO.sA (Or.inr rfl))).tr (HO.sF (by omega)), fun j hj => ?_, ?_, ?_, ?_⟩
    · rw [gF_sn (by omega), gF_sA, gF_sA, gF_sn (by omega), gF_sA]
    · intro j hj
      rw [ge, gf, gA_sF, gA_sA, if_pos rfl, gA_sA, if_neg (by decide)]
      unfold drp
      rw [hu]
      dsimp only
      unfold upd
      by_cases c1 : j = k
      · rw [if_pos c1, if_pos c1, if_pos c1, if_pos c1]; exact ⟨rfl, rfl⟩
      · rw [if_neg c1, if_neg c1, if_neg c1, if_neg c1]
        refine ⟨?_, (hS j hj).2⟩
        by_cases c2 : j = u
        · rw [if_pos c2, if_pos c2]
        · rw [if_neg c2, if_neg c2]; exact (hS j hj).1
    · rw [gF_sq, if_pos rfl]
    · rw [gF_sn (by decide), gF_sA, gF_sA, gF_sq, if_pos rfl, bmu_snoc]
      simp [bmu, hu]
theorem m_run {τ : Td} (hw : WT τ) : ∀ (l : List Nat) (f : Nat) (σ σ' : Hd) (ν : Mem) (l0 : List Nat), l.length < f → MT (gA ν 99) τ → HL ν τ σ → Rp τ σ l σ' → (∀ j, j < tL τ → ov τ σ' j = false) → (∀ k, k ∈ l0 → k < tL τ) → gF ν 98 11 = wst (-1) l0 → gF ν 98 12 = nI (bmu τ 0 l0) →
    ∃ ν', fX12_comesDown_17 f (nI (bmk 0 l0)) (hdI l) ν = fX12_comesDown_17 (f - l.length) (nI (bmk 0 (l0 ++ l))) (-1) ν' ∧ HO ν ν' ∧ (∀ j, j < 11 → gF ν' 98 j = gF ν 98 j) ∧ HL ν' τ σ' ∧ gF ν' 98 11 = wst (-1) (l0 ++ l) ∧ gF ν' 98 12 = nI (bmu τ 0 (l0 ++ l)) ∧ (∀ k, k ∈ l0 ++ l → k < tL τ)
  | [], f, σ, σ', ν, l0, hf, hT, hS, hR, hE, hl, h11, h12 => by
    have hR : σ' = σ := hR
    subst hR
    refine ⟨ν, ?_, HO.rf, fun _ _ => rfl, hS, ?_, ?_, ?_⟩
    · simp [hdI]
    · simpa using h11
    · simpa using h12
    · simpa using hl
  | k :: l, f, σ, σ', ν, l0, hf, hT, hS, hR, hE, hl, h11, h12 => by
    obtain ⟨f, rfl⟩ : ∃ g, f = g + 1 := ⟨f - 1, by omega⟩
    have hk : k < tL τ := hR.1.1
    simp only [List.length_cons] at hf
    obtain ⟨ν1, e1, o1, g1, hS1, a11, a12⟩ := m_drop hw hT hS hl hk h11 h12 f
    have hT1 : MT (gA ν1 99) τ := by rw [HO_99 o1]; exact hT
    obtain ⟨ν2, e2, o2, g2, r2⟩ := m_run hw l f (drp τ σ k) σ' ν1 (l0 ++ [k]) (by omega) hT1 hS1 hR.2 hE (fun j hj => by
      rcases List.mem_append.mp hj with h | h
      · exact hl j h
      · rw [List.mem_singleton] at h; omega) a11 a12
    refine ⟨ν2, ?_, o1.tr o2, fun j hj => (g2 j hj).trans (g1 j hj), ?_⟩
    · show fX12_comesDown_17 (f + 1) _ (nI k) ν = _
      rw [e1, m_hd hw hT1 hS1 hR.2 hE]
      simp only [Option.bind_some]
      rw [e2]
      simp only [List.length_cons, List.append_assoc, List.singleton_append]
      rw [show f + 1 - (l.length + 1) = f - l.length by omega]
    · simpa using r2
/-- while nobody has won there is no coalition -/
def HW (σ : Hd) : Prop := σ.2.2.2.1 = -1 → σ.2.2.2.2 = 0
theorem cdl_lt {τ : Td} {σ : Hd} (hw : WT τ) : ∀ k, k ∈ cdl τ σ → k < tL τ := (pas_run hw σ (tL τ) (Nat.le_refl _)).2.2.1
theorem wst_m1 {w : Int32} {l : List Nat} (hl : ∀ k, k ∈ l → k < 8) (h : wst w l = -1) : w = -1 ∧ l = [] := by
  unfold wst at h
  by_cases c : w = -1
  · rw [if_pos c] at h
    cases l with
    | nil => exact ⟨c, rfl⟩
    | cons k l => exact absurd h (m1_ne (by have := hl k (by simp); omega))
  · rw [if_neg c] at h; exact absurd h c
theorem HW_cds {τ : Td} {σ : Hd} (hw : WT τ) : HW (cds τ σ) := by
  intro h
  have h8 := hw.1
  have h2 := wst_m1 (fun k hk => by have := cdl_lt hw k hk; omega) h
  show (if _ then _ else _) = _
  rw [if_pos h2.1, h2.2]
  rfl
theorem HW_vot {τ : Td} {σ : Hd} {v : Nat} (hw : WT τ) : HW (vot τ σ v) := HW_cds (σ := vth τ σ v) hw
theorem m_comesDown {τ : Td} {σ : Hd} {ν : Mem} (hw : WT τ) (hT : MT (gA ν 99) τ) (hS : HS ν τ σ) (hW : HW σ) : ∃ ν', fX12_comesDown ν = some (nI (bmk 0 (cdl τ σ)), ν') ∧ HO ν ν' ∧ HS ν' τ (cds τ σ) ∧ gF ν' 98 12 = nI (bmu τ 0 (cdl τ σ)) := by
  have h8 := hw.1
  obtain ⟨hR, hE, hl, hn⟩ := pas_run hw σ (tL τ) (Nat.le_refl _)
  obtain ⟨h1, s8, s9, s10⟩ := hS
  have o0 : HO ν (sF (sF ν 98 11 (-1)) 98 12 0) := (HO.sF (by omega)).tr (HO.sF (by omega))
  have hT0 : MT (gA (sF (sF ν 98 11 (-1)) 98 12 0) 99) τ := hT
  have hS0 : HL (sF (sF ν 98 11 (-1)) 98 12 0) τ σ := h1
  obtain ⟨ν1, e1, o1, g1, hS1, a11, a12, hl1⟩ := m_run hw (pas τ (tL τ) σ).1 av_big σ (pas τ (tL τ) σ).2 _ [] (by show _ < 1000000; omega) hT0 hS0 hR hE (by simp) (by rfl) (by rfl)
  rw [List.nil_append] at e1 a11 a12
  have hl8 : ∀ k, k ∈ cdl τ σ → k < 8 := fun k hk => by have := cdl_lt hw k hk; omega
  have e : fX12_comesDown ν = fX12_comesDown_17 (av_big - (cdl τ σ).length) (nI (bmk 0 (cdl τ σ))) (-1) ν1 := by
    unfold fX12_comesDown
    simp only [Option.bind_some]
    rw [m_hd hw hT0 hS0 hR hE]
    simp only [Option.bind_some]
    exact e1
  obtain ⟨g, hg⟩ : ∃ g, av_big - (cdl τ σ).length = g + 1 := ⟨av_big - (cdl τ σ).length - 1, by
    have : (cdl τ σ).length ≤ 8 * tL τ := hn
    show 1000000 - _ = 1000000 - _ - 1 + 1
    omega⟩
  have k8 : gF ν1 98 8 = nI σ.2.2.1 := by rw [g1 8 (by omega), gF_sn (by decide), gF_sn (by decide), s8]
  have k9 : gF ν1 98 9 = σ.2.2.2.1 := by rw [g1 9 (by omega), gF_sn (by decide), gF_sn (by decide), s9]
  have k10 : gF ν1 98 10 = σ.2.2.2.2 := by rw [g1 10 (by omega), gF_sn (by decide), gF_sn (by decide), s10]
  rw [e, hg]
  unfold fX12_comesDown_17 fX12_comesDown_133
  rw [if_pos rfl, k9]
  by_cases c : σ.2.2.2.1 = -1
  · rw [if_pos c]
    by_cases c2 : cdl τ σ = []
    · rw [if_pos (by rw [c2]; rfl)]
      refine ⟨ν1, rfl, o0.tr o1, ⟨hS1, k8, ?_, ?_⟩, a12⟩
      · show _ = wst σ.2.2.2.1 (cdl τ σ)
        rw [c2, wst, if_pos c, k9, c]
      · show _ = (if _ then _ else _)
        rw [if_pos c, c2, k10, hW c]; rfl
    · rw [if_neg (bmk_ne0 hl8 c2)]
      simp only [Option.bind_some]
      refine ⟨_, rfl, o0.tr (o1.tr ((HO.sF (by omega)).tr (HO.sF (by omega)))), ⟨hS1, ?_, ?_, ?_⟩, ?_⟩
      · rw [gF_sn (by decide), gF_sn (by decide), k8]; rfl
      · rw [gF_sn (by decide), gF_sq, if_pos rfl, a11]
        show _ = wst σ.2.2.2.1 (cdl τ σ)
        rw [c]; rfl
      · rw [gF_sq, if_pos rfl]
        show _ = (if _ then _ else _)
        rw [if_pos c]
      · rw [gF_sn (by decide), gF_sn (by decide), a12]; rfl
  · rw [if_neg c]
    refine ⟨ν1, rfl, o0.tr o1, ⟨hS1, k8, ?_, ?_⟩, a12⟩
    · show _ = wst σ.2.2.2.1 (cdl τ σ)
      unfold wst; rw [if_neg c, k9]
    · show _ = (if _ then _ else _)
      rw [if_neg c, k10]
