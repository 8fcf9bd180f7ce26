/-! sneeze: Euclid's steps; the step. -/
theorem gcd_st (a b : Nat) : Nat.gcd a b = Nat.gcd b (a % b) := by
  rw [Nat.gcd_comm a b, Nat.gcd_rec b a, Nat.gcd_comm]
theorem lN0 {b : Nat} (hb : b < 2 ^ 62) : (lN b = 0) ↔ b = 0 := by
  rw [show (0 : Int64) = lN 0 by decide, pk_lEQ (by omega) (by decide)]
theorem c_gcd {μ : Mem} : ∀ (m a b s f : Nat), b < 2 ^ m → s + 2 * m ≤ 100 → 2 * m < f → a < 2 ^ 62 → b < 2 ^ 62 → fX11_commonDivisor_9 f (lN a) (lN b) (nI s) μ = some (lN (Nat.gcd a b))
  | 0, a, b, s, f, h1, h2, h3, ha, hb => by
    obtain ⟨f, rfl⟩ : ∃ g, f = g + 1 := ⟨f - 1, by omega⟩
    obtain rfl : b = 0 := by have : b < 1 := h1; omega
    unfold fX11_commonDivisor_9 fX11_commonDivisor_44
    rw [Nat.gcd_zero_right, if_pos (show lg_cmp (lN 0) 0 = 0 by decide), ite_self]
  | m + 1, a, b, s, f, h1, h2, h3, ha, hb => by
    obtain ⟨f, rfl⟩ : ∃ g, f = g + 1 := ⟨f - 1, by omega⟩
    have s1 : ¬ (100 : Int32) ≤ nI s := nI_ge (a := s) (b := 100) (by omega) (by decide)
    by_cases c : b = 0
    · subst c
      unfold fX11_commonDivisor_9 fX11_commonDivisor_44
      rw [Nat.gcd_zero_right, if_pos (show lg_cmp (lN 0) 0 = 0 by decide), ite_self]
    · have c' : ¬ lN b = 0 := fun h => c ((lN0 hb).mp h)
      have hr : a % b < b := Nat.mod_lt _ (by omega)
      unfold fX11_commonDivisor_9
      rw [if_neg s1, if_neg (fun h => c' ((lg_cmp_eq _ _).mp h)), if_neg c', pk_lRem (by omega) (by omega) (by omega), bs, bs, nI_1, gcd_st a b]
      generalize a % b = r at hr
      obtain ⟨f, rfl⟩ : ∃ g, f = g + 1 := ⟨f - 1, by omega⟩
      have s2 : ¬ (100 : Int32) ≤ nI (s + 1) := nI_ge (a := s + 1) (b := 100) (by omega) (by decide)
      by_cases d : r = 0
      · subst d
        unfold fX11_commonDivisor_9 fX11_commonDivisor_44
        rw [Nat.gcd_zero_right, if_pos (show lg_cmp (lN 0) 0 = 0 by decide), ite_self]
      · have d' : ¬ lN r = 0 := fun h => d ((lN0 (by omega)).mp h)
        have hq : b % r < r := Nat.mod_lt _ (by omega)
        have hh : b % r < 2 ^ m := by
          have e := Nat.div_add_mod b r
          have : 1 ≤ b / r := (Nat.le_div_iff_mul_le (by omega)).mpr (by omega)
          have : r * 1 ≤ r * (b / r) := Nat.mul_le_mul_left r this
          rw [Nat.pow_succ] at h1
          omega
        rw [fX11_commonDivisor_9]
        dsimp only
        rw [if_neg s2, if_neg (fun h => d' ((lg_cmp_eq _ _).mp h)), if_neg d', pk_lRem (by omega) (by omega) (by omega), bs, bs, nI_1, gcd_st b r]
        exact c_gcd m r (b % r) (s + 1 + 1) f hh (by omega) (by omega) (by omega) (by omega)
theorem m_gcd {ν : Mem} {x1 x3 : Int64} : ∀ (m a b f : Nat), b < 2 ^ m → 2 * m < f → a < 2 ^ 62 → b < 2 ^ 62 → 0 < Nat.gcd a b → fX12_fraction_6 f x1 x3 (lN a) (lN b) ν = some (sL (sL ν 98 4 (x1 / lN (Nat.gcd a b))) 98 5 (x3 / lN (Nat.gcd a b)))
  | 0, a, b, f, h1, h3, ha, hb, hg => by
    obtain ⟨f, rfl⟩ : ∃ g, f = g + 1 := ⟨f - 1, by omega⟩
    obtain rfl : b = 0 := by have : b < 1 := h1; omega
    rw [Nat.gcd_zero_right] at hg ⊢
    unfold fX12_fraction_6
    rw [if_pos (show lg_cmp (lN 0) 0 = 0 by decide), if_neg (fun h => by rw [lN0 ha] at h; omega), bs, if_neg (fun h => by rw [lN0 ha] at h; omega), bs]
  | m + 1, a, b, f, h1, h3, ha, hb, hg => by
    obtain ⟨f, rfl⟩ : ∃ g, f = g + 1 := ⟨f - 1, by omega⟩
    by_cases c : b = 0
    · subst c
      rw [Nat.gcd_zero_right] at hg ⊢
      unfold fX12_fraction_6
      rw [if_pos (show lg_cmp (lN 0) 0 = 0 by decide), if_neg (fun h => by rw [lN0 ha] at h; omega), bs, if_neg (fun h => by rw [lN0 ha] at h; omega), bs]
    · have c' : ¬ lN b = 0 := fun h => c ((lN0 hb).mp h)
      have hr : a % b < b := Nat.mod_lt _ (by omega)
      rw [gcd_st a b] at hg ⊢
      rw [fX12_fraction_6]
      dsimp only
      rw [if_neg (fun h => c' ((lg_cmp_eq _ _).mp h)), if_neg c', pk_lRem (by omega) (by omega) (by omega), bs]
      generalize a % b = r at hr hg
      obtain ⟨f, rfl⟩ : ∃ g, f = g + 1 := ⟨f - 1, by omega⟩
      by_cases d : r = 0
      · subst d
        rw [Nat.gcd_zero_right] at hg ⊢
        unfold fX12_fraction_6
        rw [if_pos (show lg_cmp (lN 0) 0 = 0 by decide), if_neg c', bs, if_neg c', bs]
      · have d' : ¬ lN r = 0 := fun h => d ((lN0 (by omega)).mp h)
        have hq : b % r < r := Nat.mod_lt _ (by omega)
        have hh : b % r < 2 ^ m := by
          have e := Nat.div_add_mod b r
          have : 1 ≤ b / r := (Nat.le_div_iff_mul_le (by omega)).mpr (by omega)
          have : r * 1 ≤ r * (b / r) := Nat.mul_le_mul_left r this
          rw [Nat.pow_succ] at h1
          omega
        rw [gcd_st b r] at hg ⊢
        rw [fX12_fraction_6]
        dsimp only
        rw [if_neg (fun h => d' ((lg_cmp_eq _ _).mp h)), if_neg d', pk_lRem (by omega) (by omega) (by omega), bs]
        exact m_gcd m r (b % r) f hh (by omega) (by omega) (by omega) hg
