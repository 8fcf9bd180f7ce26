/-! Steps: vote, night, undo. -/
/-- z with the slope kept as a past, then with the slope s -/
def zQk (z : Sd) : Nat → Hd := if zP z = 8 then (fun p => if p = 7 then zH z else zQ z (p + 1)) else (fun p => if p = zP z then zH z else zQ z p)
def zPk (z : Sd) : Nat := if zP z = 8 then 8 else zP z + 1
def zkp (z : Sd) (σ : Hd) : Sd := (zT z, σ, zN z, zV z, zB z, zPk z, zQk z)
theorem zPk_le {z : Sd} (h : zP z ≤ 8) : zPk z ≤ 8 := by unfold zPk; split <;> omega
theorem zQk_ok {i : Nat} {z : Sd} (h : WZ i z) : ∀ p, p < zPk z → HW (zQk z p) ∧ (zQk z p).2.2.1 ≤ i := by
  intro p hp
  unfold zPk at hp
  unfold zQk
  by_cases c : zP z = 8
  · rw [if_pos c] at hp ⊢
    by_cases c2 : p = 7
    · rw [if_pos c2]; exact ⟨h.2.1, h.2.2.1⟩
    · rw [if_neg c2]; exact h.2.2.2.2.2 (p + 1) (by omega)
  · rw [if_neg c] at hp ⊢
    by_cases c2 : p = zP z
    · rw [if_pos c2]; exact ⟨h.2.1, h.2.2.1⟩
    · rw [if_neg c2]; exact h.2.2.2.2.2 p (by omega)
theorem CP_at {f g : Nat → Int32} {o o' : Nat} {τ : Td} {σ : Hd} (hw : tL τ ≤ 8) (h : CP f o τ σ) (e : ∀ k, k < 19 → g (o' + k) = f (o + k)) : CP g o' τ σ := by
  obtain ⟨h1, h2, h3, h4⟩ := h
  refine ⟨fun k hk => ?_, ?_, ?_, ?_⟩
  · rw [e k (by omega), show o' + 8 + k = o' + (8 + k) by omega, e (8 + k) (by omega), show o + (8 + k) = o + 8 + k by omega]; exact h1 k hk
  · rw [e 16 (by decide)]; exact h2
  · rw [e 17 (by decide)]; exact h3
  · rw [e 18 (by decide)]; exact h4
theorem cpy_n {μ : Mem} {a b : Nat} {la lb : Nat} (S D N : Int32) (sp dp n : Nat) (ha : av_ln a = la) (hb : av_ln b = lb) (hS : S = nI sp) (hD : D = nI dp) (hN : N = nI n) (h1 : sp + n ≤ la) (h2 : dp + n ≤ lb) (h3 : la ≤ 1000) (h4 : lb ≤ 1000) : cpy μ a S b D N = some (sA μ b (va_cpy (gA μ a) (gA μ b) sp dp n)) := by
  unfold cpy
  rw [hS, hD, hN, ha, hb, nI_clamp (by omega), nI_clamp (by omega), nI_clamp (by omega), if_neg]
  rintro ((h | h) | h | h | h)
  · exact nI_pos (by omega) h
  · exact nI_pos (by omega) h
  · exact nI_pos (by omega) h
  · omega
  · omega
theorem c_save {μ : Mem} {b p : Nat} {τ : Td} {σ : Hd} (hb : SB b) (hL : tL τ ≤ 8) (hp : p < 8) (hS : CS μ τ (b + 7) σ) : ∃ g, fX7_saveTo (b + 7) (b + 11) (nI p * 19) μ = some (sA μ (b + 11) g) ∧ CP g (19 * p) τ σ ∧ ∀ k, (k < 19 * p ∨ 19 * p + 19 ≤ k) → g k = gA μ (b + 11) k := by
  obtain ⟨-, -, ⟨q1, q2⟩, -, -, -, -, -, l8, l9, l11, -⟩ := SB_f hb
  have e19 : nI p * 19 = nI (19 * p) := by rw [Nat.mul_comm]; exact pk_mul p 19
  have i8 : nI (19 * p) + 8 = nI (19 * p + 8) := nI_add (19 * p) 8
  have i16 : nI (19 * p) + 16 = nI (19 * p + 16) := nI_add (19 * p) 16
  have i17 : nI (19 * p + 16) + 1 = nI (19 * p + 17) := nI_add (19 * p + 16) 1
  have i18 : nI (19 * p + 16) + 2 = nI (19 * p + 18) := nI_add (19 * p + 16) 2
  have i19 : nI (19 * p) + 19 = nI (19 * p + 19) := nI_add (19 * p) 19
  obtain ⟨h1, h2, h3, h4⟩ := hS
  refine ⟨upd (upd (upd (va_cpy (gA μ (b + 9)) (va_cpy (gA μ (b + 8)) (gA μ (b + 11)) 0 (19 * p) 8) 0 (19 * p + 8) 8) (19 * p + 16) (nI σ.2.2.1)) (19 * p + 17) σ.2.2.2.1) (19 * p + 18) σ.2.2.2.2, ?_, ⟨fun k hk => ?_, ?_, ?_, ?_⟩, fun k hk => ?_⟩
  · unfold fX7_saveTo
    rw [e19, q1, q2, l11, if_neg (nI_pos (by omega)), i19, if_pos (nI_le (by omega) (by omega)), cpy_n 0 (nI (19 * p)) 8 0 (19 * p) 8 l8 l11 rfl rfl rfl (by omega) (by omega) (by decide) (by decide)]
    simp only [Option.bind_some]
    rw [i8, cpy_n 0 (nI (19 * p + 8)) 8 0 (19 * p + 8) 8 l9 l11 rfl rfl rfl (by omega) (by omega) (by decide) (by decide)]
    simp only [Option.bind_some, sA_sA, gA_ss]
    rw [i16, wr_nI l11 (by omega) (by decide)]
    simp only [Option.bind_some, sA_sA, gA_ss]
    rw [i17, wr_nI l11 (by omega) (by decide)]
    simp only [Option.bind_some, sA_sA, gA_ss]
    rw [i18, wr_nI l11 (by omega) (by decide)]
    simp only [Option.bind_some, sA_sA, gA_ss, gF_sA]
    rw [h2, h3, h4, gA_sn (by omega)]
  · rw [pk_un (by omega), pk_un (by omega), pk_un (by omega), pk_cpy_out (by omega), pk_cpy_in (by omega) (by omega), pk_un (by omega), pk_un (by omega), pk_un (by omega), pk_cpy_in (by omega) (by omega), Nat.zero_add, Nat.zero_add, show 19 * p + k - 19 * p = k by omega, show 19 * p + 8 + k - (19 * p + 8) = k by omega]
    exact h1 k hk
  · rw [pk_un (by omega), pk_un (by omega), pk_us]
  · rw [pk_un (by omega), pk_us]
  · rw [pk_us]
  · rw [pk_un (by omega), pk_un (by omega), pk_un (by omega), pk_cpy_out (by omega), pk_cpy_out (by omega)]
theorem c_keep {μ : Mem} {z : Sd} (hw : WT (zT z)) (h8 : zP z ≤ 8) (hc : CR 14 μ z) : ∃ μ', fX8_keepPast 14 μ = some μ' ∧ BO 14 μ μ' ∧ CR 14 μ' (zkp z (zH z)) := by
  have hL := hw.1
  have hS := hc.2.1
  have p1 := hc.2.2.2.1
  have p2 := hc.2.2.2.2
  unfold fX8_keepPast fX8_keepPast_32
  rw [av_r14_1, av_r14_2, p1]
  by_cases c : zP z = 8
  · have c8 : ¬ nI (zP z) < 8 := nI_nlt (a := zP z) (b := 8) (by omega) (by omega)
    rw [if_neg c8, cpy_n 19 0 133 19 0 133 av_l25 av_l25 rfl rfl rfl (by decide) (by decide) (by decide) (by decide)]
    simp only [Option.bind_some]
    have hS' : CS (sF (sA μ 25 (va_cpy (gA μ 25) (gA μ 25) 19 0 133)) 14 3 7) (zT z) (14 + 7) (zH z) := hS
    obtain ⟨g, e1, cp, hg⟩ := c_save (b := 14) (p := 7) (Or.inl rfl) hL (by decide) hS'
    have e1' : fX7_saveTo 21 25 ((gF (sF (sA μ 25 (va_cpy (gA μ 25) (gA μ 25) 19 0 133)) 14 3 7) 14 3) * 19) (sF (sA μ 25 (va_cpy (gA μ 25) (gA μ 25) 19 0 133)) 14 3 7) = some (sA (sF (sA μ 25 (va_cpy (gA μ 25) (gA μ 25) 19 0 133)) 14 3 7) 25 g) := e1
    rw [e1']
    refine ⟨_, rfl, ((((BO.sA (by omega)).tr (BO.sF (by omega))).tr (BO.sA (by omega))).tr (BO.sF (by omega))), ?_⟩
    refine ⟨hc.1, hS, hc.2.2.1, ?_, fun p hp => ?_⟩
    · show (7 : Int32) + 1 = nI (zPk z)
      unfold zPk; rw [if_pos c]; rfl
    · show CP g (19 * p) (zT z) (zQk z p)
      have hp : p < zPk z := hp
      unfold zPk at hp
      unfold zQk
      rw [if_pos c] at hp ⊢
      by_cases c2 : p = 7
      · rw [if_pos c2, c2]; exact cp
      · rw [if_neg c2]
        refine CP_at hL (p2 (p + 1) (by omega)) (fun k hk => ?_)
        rw [hg _ (by omega)]
        show va_cpy (gA μ 25) (gA μ 25) 19 0 133 (19 * p + k) = _
        rw [pk_cpy_in (by omega) (by omega), show 19 + (19 * p + k - 0) = 19 * (p + 1) + k by omega]
  · have c8 : nI (zP z) < 8 := nI_lt (b := 8) (by omega) (by decide)
    rw [if_pos c8]
    obtain ⟨g, e1, cp, hg⟩ := c_save (b := 14) (p := zP z) (Or.inl rfl) hL (by omega) hS
    have e1' : fX7_saveTo 21 25 (nI (zP z) * 19) μ = some (sA μ 25 g) := e1
    rw [e1']
    simp only [Option.bind_some]
    rw [gF_sA, p1, nI_1]
    refine ⟨_, rfl, (BO.sA (by omega)).tr (BO.sF (by omega)), ?_⟩
    refine ⟨hc.1, hS, hc.2.2.1, ?_, fun p hp => ?_⟩
    · show nI (zP z + 1) = nI (zPk z)
      unfold zPk; rw [if_neg c]
    · show CP g (19 * p) (zT z) (zQk z p)
      have hp : p < zPk z := hp
      unfold zPk at hp
      unfold zQk
      rw [if_neg c] at hp ⊢
      by_cases c2 : p = zP z
      · rw [if_pos c2, c2]; exact cp
      · rw [if_neg c2]
        exact CP_at hL (p2 p (by omega)) (fun k hk => hg _ (by omega))
