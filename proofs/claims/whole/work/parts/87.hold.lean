/-! Steps: hold, stick. -/
def lof (z : Sd) : Nat → Nat
  | 0 => 1
  | n + 1 => if zB z n = 1 then max (lof z n) (zV z n) else lof z n
def upf (z : Sd) : Nat → Nat
  | 0 => 61
  | n + 1 => if zB z n = 0 then min (upf z n) (zV z n) else upf z n
theorem lof_b {z : Sd} (h : ∀ j, j < zN z → zV z j ≤ 99 ∧ zB z j ≤ 1) : ∀ n, n ≤ zN z → 1 ≤ lof z n ∧ lof z n ≤ 99
  | 0, _ => ⟨Nat.le_refl 1, (by decide : 1 ≤ 99)⟩
  | n + 1, hn => by
    have ih := lof_b h n (by omega)
    have := (h n (by omega)).1
    rw [lof]
    split
    · omega
    · exact ih
theorem upf_b {z : Sd} : ∀ n, upf z n ≤ 61
  | 0 => Nat.le_refl 61
  | n + 1 => by
    have ih := @upf_b z n
    rw [upf]
    split
    · omega
    · exact ih
theorem max_nI {a b : Nat} (ha : a ≤ 1000) (hb : b ≤ 1000) : av_max (nI a) (nI b) = nI (max a b) := by
  unfold av_max
  by_cases c : b ≤ a
  · rw [if_neg (nI_nlt c (by omega)), Nat.max_eq_left c]
  · rw [if_pos (nI_lt (by omega) (by omega)), Nat.max_eq_right (by omega)]
theorem nIm_lt {a b : Nat} (ha : a ≤ 1000) (hb : b ≤ 1000) : nI a - 1 < nI b - 1 ↔ a < b := by
  rw [Int32.lt_iff_toInt_lt, sub1_toInt (by omega), sub1_toInt (by omega)]
  omega
theorem min_nI {a b : Nat} (ha : a ≤ 1000) (hb : b ≤ 1000) : av_min (nI a - 1) (nI b - 1) = nI (min a b) - 1 := by
  unfold av_min
  by_cases c : a ≤ b
  · rw [if_neg (fun h => by rw [nIm_lt hb ha] at h; omega), Nat.min_eq_left c]
  · rw [if_pos ((nIm_lt hb ha).mpr (by omega)), Nat.min_eq_right (by omega)]
theorem c_least {μ : Mem} {z : Sd} (cz : CR 14 μ z) (h6 : zN z ≤ 6) (hb : ∀ j, j < zN z → zV z j ≤ 99 ∧ zB z j ≤ 1) : ∀ (d f i : Nat), d = zN z - i → i ≤ zN z → d < f → fX8_leastHold_4 f 14 (nI (lof z i)) (nI i) μ = some (nI (lof z (zN z)))
  | 0, f, i, hd, hi, hf => by
    obtain ⟨f, rfl⟩ : ∃ g, f = g + 1 := ⟨f - 1, by omega⟩
    obtain rfl : i = zN z := by omega
    unfold fX8_leastHold_4
    rw [cz.2.2.1.1, if_pos (nI_le (by omega) (by omega))]
  | d + 1, f, i, hd, hi, hf => by
    obtain ⟨f, rfl⟩ : ∃ g, f = g + 1 := ⟨f - 1, by omega⟩
    have ih := c_least cz h6 hb d f (i + 1) (by omega) (by omega) (by omega)
    obtain ⟨x1, x2⟩ := cz.2.2.1.2 i (by omega)
    obtain ⟨b1, b2⟩ := hb i (by omega)
    obtain ⟨l1, l2⟩ := lof_b hb i (by omega)
    unfold fX8_leastHold_4 fX8_leastHold_33
    rw [cz.2.2.1.1, if_neg (nI_ge (by omega) (by omega)), av_r14_4, av_r14_5, rd_nI av_l27 (by omega) (by decide), bs, show gA μ 27 i = _ from x2, rd_nI av_l26 (by omega) (by decide), bs, show gA μ 26 i = _ from x1, bs, bs, nI_1]
    rw [lof] at ih
    by_cases c : zB z i = 1
    · rw [if_pos (by rw [c]; rfl), max_nI (by omega) (by omega)]
      rw [if_pos c] at ih
      exact ih
    · rw [if_neg (fun e => by rw [show (1 : Int32) = nI 1 from rfl, nI_eq (by omega) (by decide)] at e; exact c e)]
      rw [if_neg c] at ih
      exact ih
theorem c_greatest {μ : Mem} {z : Sd} (cz : CR 14 μ z) (h6 : zN z ≤ 6) (hb : ∀ j, j < zN z → zV z j ≤ 99 ∧ zB z j ≤ 1) : ∀ (d f i : Nat), d = zN z - i → i ≤ zN z → d < f → fX8_greatestHold_5 f 14 (nI (upf z i) - 1) (nI i) μ = some (nI (upf z (zN z)) - 1)
  | 0, f, i, hd, hi, hf => by
    obtain ⟨f, rfl⟩ : ∃ g, f = g + 1 := ⟨f - 1, by omega⟩
    obtain rfl : i = zN z := by omega
    unfold fX8_greatestHold_5
    rw [cz.2.2.1.1, if_pos (nI_le (by omega) (by omega))]
  | d + 1, f, i, hd, hi, hf => by
    obtain ⟨f, rfl⟩ : ∃ g, f = g + 1 := ⟨f - 1, by omega⟩
    have ih := c_greatest cz h6 hb d f (i + 1) (by omega) (by omega) (by omega)
    obtain ⟨x1, x2⟩ := cz.2.2.1.2 i (by omega)
    obtain ⟨b1, b2⟩ := hb i (by omega)
    have u1 := @upf_b z i
    unfold fX8_greatestHold_5 fX8_greatestHold_35
    rw [cz.2.2.1.1, if_neg (nI_ge (by omega) (by omega)), av_r14_4, av_r14_5, rd_nI av_l27 (by omega) (by decide), bs, show gA μ 27 i = _ from x2, rd_nI av_l26 (by omega) (by decide), bs, show gA μ 26 i = _ from x1, bs, bs, nI_1]
    rw [upf] at ih
    by_cases c : zB z i = 0
    · rw [if_pos (by rw [c]; rfl), min_nI (by omega) (by omega)]
      rw [if_pos c] at ih
      exact ih
    · rw [if_neg (nI_ne0 (by omega) (by omega))]
      rw [if_neg c] at ih
      exact ih
theorem spread_nI {l u : Nat} (hl : l ≤ 1000) (hu : u ≤ 1000) (μ : Mem) : fX11_spread (nI l) (nI u - 1) μ = some (nI (u - l)) := by
  unfold fX11_spread
  have e : nI u - 1 - nI l + 1 = nI u - nI l := by
    have : ∀ x y : Int32, x - 1 - y + 1 = x - y := fun x y => by
      rw [Int32.sub_eq_add_neg, Int32.sub_eq_add_neg, Int32.sub_eq_add_neg]
      rw [Int32.add_assoc (x + -1), Int32.add_comm (-y) 1, ← Int32.add_assoc (x + -1), Int32.add_assoc x, show (-1 : Int32) + 1 = 0 by decide, Int32.add_zero]
    exact this _ _
  rw [e]
  unfold av_max
  by_cases c : u ≤ l
  · rw [if_neg, show u - l = 0 by omega]
    · rfl
    · rw [Int32.lt_iff_toInt_lt, pk_sub_toInt (by omega) (by omega), show (0 : Int32).toInt = 0 by decide]; omega
  · rw [if_pos, pk_sub (by omega)]
    rw [Int32.lt_iff_toInt_lt, pk_sub_toInt (by omega) (by omega), show (0 : Int32).toInt = 0 by decide]; omega
