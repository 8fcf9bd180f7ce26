/-! sneeze: how many of ten to the number of voters. -/
def Pn (τ : Td) (c k : Nat) : Nat → Hd → Nat → Nat
  | 0, σ, _ => if σ.2.2.2.1 = nI k then 1 else 0
  | d + 1, σ, v => c * Pn τ c k d σ (v + 1) + (10 - c) * Pn τ c k d (vot τ σ v) (v + 1)
theorem vot_won {τ : Td} {σ : Hd} {v : Nat} (h : σ.2.2.2.1 ≠ -1) : (vot τ σ v).2.2.2.1 = σ.2.2.2.1 := by
  show wst σ.2.2.2.1 _ = _
  unfold wst
  rw [if_neg h]
theorem Pn_won {τ : Td} {c k : Nat} (hc : c ≤ 10) : ∀ (d : Nat) (σ : Hd) (v : Nat), σ.2.2.2.1 ≠ -1 → Pn τ c k d σ v = if σ.2.2.2.1 = nI k then 10 ^ d else 0
  | 0, σ, v, h => rfl
  | d + 1, σ, v, h => by
    rw [Pn, Pn_won hc d σ (v + 1) h, Pn_won hc d (vot τ σ v) (v + 1) (by rw [vot_won h]; exact h), vot_won h]
    by_cases e : σ.2.2.2.1 = nI k
    · rw [if_pos e, if_pos e, ← Nat.add_mul, show c + (10 - c) = 10 by omega, Nat.pow_succ, Nat.mul_comm]
    · rw [if_neg e, if_neg e]; simp
theorem Pn_le {τ : Td} {c k : Nat} (hc : c ≤ 10) : ∀ (d : Nat) (σ : Hd) (v : Nat), Pn τ c k d σ v ≤ 10 ^ d
  | 0, σ, v => by rw [Pn]; split <;> simp
  | d + 1, σ, v => by
    rw [Pn]
    have h1 := Nat.mul_le_mul_left c (Pn_le (τ := τ) (k := k) hc d σ (v + 1))
    have h2 := Nat.mul_le_mul_left (10 - c) (Pn_le (τ := τ) (k := k) hc d (vot τ σ v) (v + 1))
    have h3 : c * 10 ^ d + (10 - c) * 10 ^ d = 10 ^ (d + 1) := by rw [← Nat.add_mul, show c + (10 - c) = 10 by omega, Nat.pow_succ, Nat.mul_comm]
    omega
theorem c_ten {μ : Mem} {n : Nat} (hn : n ≤ 6) : ∀ (d f i : Nat), d = n - i → i ≤ n → d < f → fX11_tenTo_4 f (nI n) (lN (10 ^ i)) (nI i) μ = some (lN (10 ^ n))
  | 0, f, i, hd, hi, hf => by
    obtain ⟨f, rfl⟩ : ∃ g, f = g + 1 := ⟨f - 1, by omega⟩
    obtain rfl : i = n := by omega
    unfold fX11_tenTo_4
    rw [if_pos (nI_le (by omega) (by omega))]
  | d + 1, f, i, hd, hi, hf => by
    obtain ⟨f, rfl⟩ : ∃ g, f = g + 1 := ⟨f - 1, by omega⟩
    have ih := c_ten (μ := μ) hn d f (i + 1) (by omega) (by omega) (by omega)
    unfold fX11_tenTo_4
    rw [if_neg (nI_ge (by omega) (by omega)), bs, bs, nI_1, show (10 : Int64) = lN 10 by decide, lN_mul, ← Nat.pow_succ]
    exact ih
theorem c_tenTo {μ : Mem} {n : Nat} (hn : n ≤ 6) : fX11_tenTo (nI n) μ = some (lN (10 ^ n)) := by
  have e := c_ten (μ := μ) hn n av_big 0 (by omega) (by omega) (by show _ < 1000000; omega)
  rw [nI_0, show lN (10 ^ 0) = 1 by decide] at e
  exact e
/-- what lies in the rows up to p stays -/
def RO (p : Nat) (μ μ' : Mem) : Prop := (∀ a k, a < 74 + 4 * p → gF μ' a k = gF μ a k) ∧ gL μ' = gL μ ∧ (∀ a, a < 74 + 4 * p → gA μ' a = gA μ a)
theorem RO.rf {p : Nat} {μ : Mem} : RO p μ μ := ⟨fun _ _ _ => rfl, rfl, fun _ _ => rfl⟩
theorem RO.tr {p : Nat} {μ μ1 μ2 : Mem} (h1 : RO p μ μ1) (h2 : RO p μ1 μ2) : RO p μ μ2 := ⟨fun a k h => (h2.1 a k h).trans (h1.1 a k h), h2.2.1.trans h1.2.1, fun a h => (h2.2.2 a h).trans (h1.2.2 a h)⟩
theorem RO.up {p : Nat} {μ μ' : Mem} (h : RO (p + 1) μ μ') : RO p μ μ' := ⟨fun a k x => h.1 a k (by omega), h.2.1, fun a x => h.2.2 a (by omega)⟩
theorem RO.so {p : Nat} {μ μ' : Mem} (h : SO (74 + 4 * p) μ μ') : RO p μ μ' := ⟨fun a k x => h.1 a k (by omega), h.2.1, fun a x => h.2.2 a (by omega) (by omega) (by omega)⟩
theorem RO.kc {p : Nat} {μ μ' : Mem} (h : RO p μ μ') : KC μ μ' := ⟨fun a k _ x _ _ => h.1 a k (by omega), h.2.1, fun a _ x _ => h.2.2 a (by omega)⟩
theorem RO_CT {p : Nat} {μ μ' : Mem} {τ : Td} (h : RO p μ μ') (hT : CT μ τ) : CT μ' τ := by
  unfold CT at hT ⊢
  rw [h.1 15 1 (by omega), h.1 15 4 (by omega), h.2.2 16 (by omega), h.2.2 17 (by omega), h.2.2 18 (by omega), h.2.2 19 (by omega), h.2.2 20 (by omega)]
  exact hT
theorem RO_CS {p : Nat} {μ μ' : Mem} {τ : Td} {σ : Hd} (h : RO p μ μ') (hS : CS μ τ (70 + 4 * p) σ) : CS μ' τ (70 + 4 * p) σ := by
  obtain ⟨h1, h2, h3, h4⟩ := hS
  refine ⟨fun k hk => ?_, ?_, ?_, ?_⟩
  · rw [h.2.2 _ (by omega), h.2.2 _ (by omega)]; exact h1 k hk
  · rw [h.1 _ _ (by omega)]; exact h2
  · rw [h.1 _ _ (by omega)]; exact h3
  · rw [h.1 _ _ (by omega)]; exact h4
theorem SQ_r {p : Nat} (hp : p ≤ 6) : SQ (70 + 4 * p) := by unfold SQ; omega
theorem rdr_r {p : Nat} (hp : p ≤ 6) : rdr 12 (nI p) = some (70 + 4 * p) := by
  have hd : ∀ p, p ≤ 6 → rdr 12 (nI p) = some (70 + 4 * p) := by decide +kernel
  exact hd p hp
/-- the next row, a copy of this one -/
theorem c_next {p : Nat} {μ : Mem} {τ : Td} {σ : Hd} (hp : p < 6) (hw : WT τ) (hS : CS μ τ (70 + 4 * p) σ) : ∃ μ', fX7_copyFrom (70 + 4 * (p + 1)) (70 + 4 * p) μ = some μ' ∧ RO p μ μ' ∧ CS μ' τ (70 + 4 * (p + 1)) σ := by
  obtain ⟨μ', e, s, h⟩ := c_copy (q := 70 + 4 * (p + 1)) (p := 70 + 4 * p) (SQ_r (by omega)) (SQ_r (by omega)) hw (by omega) hS
  exact ⟨μ', e, RO.so (by rw [show 74 + 4 * p = 70 + 4 * (p + 1) by omega]; exact s), h⟩
