/-! sneeze: the sum over all subsets. -/
def sm (g : Nat → Nat) : Nat → Nat
  | 0 => 0
  | n + 1 => sm g n + g n
theorem sm_two (g : Nat → Nat) : ∀ n, sm g (2 * n) = sm (fun u => g (2 * u)) n + sm (fun u => g (2 * u + 1)) n
  | 0 => rfl
  | n + 1 => by
    rw [show 2 * (n + 1) = 2 * n + 1 + 1 by omega]
    simp only [sm]
    rw [sm_two g n]
    omega
theorem sm_ext {f g : Nat → Nat} : ∀ n, (∀ u, u < n → f u = g u) → sm f n = sm g n
  | 0, _ => rfl
  | n + 1, h => by
    simp only [sm]
    rw [sm_ext n (fun u hu => h u (by omega)), h n (by omega)]
theorem bit_at {w v u b : Nat} (hw : w < 2 ^ v) (hb : b < 2) : (w + 2 ^ v * (2 * u + b)).testBit v = decide (b = 1) := by
  rw [Nat.testBit_eq_decide_div_mod_eq, Nat.add_mul_div_left _ _ (Nat.two_pow_pos v), Nat.div_eq_of_lt hw]
  congr 1
  have : (0 + (2 * u + b)) % 2 = b := by omega
  rw [this]
theorem W_sum {τ : Td} {c k : Nat} : ∀ (d v w x : Nat) (σ : Hd), w < 2 ^ v → sm (fun u => Wn τ c k (w + 2 ^ v * u) d σ v x) (2 ^ d) = x * Pn τ c k d σ v
  | 0, v, w, x, σ, hw => by
    show 0 + Wn τ c k (w + 2 ^ v * 0) 0 σ v x = _
    rw [Nat.zero_add, Wn, Pn]
    split <;> simp
  | d + 1, v, w, x, σ, hw => by
    rw [Nat.pow_succ, Nat.mul_comm, sm_two, Pn, Nat.mul_add, ← Nat.mul_assoc, ← Nat.mul_assoc]
    have h1 := W_sum (τ := τ) (c := c) (k := k) d (v + 1) w (x * c) σ (by rw [Nat.pow_succ]; omega)
    have h2 := W_sum (τ := τ) (c := c) (k := k) d (v + 1) (w + 2 ^ v) (x * (10 - c)) (vot τ σ v) (by rw [Nat.pow_succ]; omega)
    rw [← h1, ← h2]
    congr 1
    · refine sm_ext _ (fun u _ => ?_)
      have hb := bit_at (u := u) (b := 0) hw (by decide)
      rw [Nat.add_zero] at hb
      rw [Wn, hb, show w + 2 ^ v * (2 * u) = w + 2 ^ (v + 1) * u by rw [Nat.pow_succ, Nat.mul_assoc]]
      simp
    · refine sm_ext _ (fun u _ => ?_)
      have hb := bit_at (u := u) (b := 1) hw (by decide)
      rw [Wn, hb, show w + 2 ^ v * (2 * u + 1) = w + 2 ^ v + 2 ^ (v + 1) * u by rw [Nat.pow_succ, Nat.mul_assoc, Nat.mul_add]; omega]
      simp
