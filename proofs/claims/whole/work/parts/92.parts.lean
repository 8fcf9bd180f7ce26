/-! sneeze: the class's side. -/
theorem c_parts {τ : Td} {c k : Nat} (hw : WT τ) (hc : c ≤ 10) (hk : k < tL τ) : ∀ (d f v p : Nat) (σ : Hd) (μ : Mem), d = tV τ - v → v ≤ tV τ → d < f → p ≤ v → σ.2.2.1 + d < 2 ^ 30 → CT μ τ → CS μ τ (70 + 4 * p) σ → ∃ μ', fX1_partsFrom f (nI v) (nI k) (nI c) (nI p) μ = some (lN (Pn τ c k d σ v), μ') ∧ RO p μ μ' := by
  intro d
  induction d with
  | zero =>
    intro f v p σ μ hd hv hf hp hn hT hS
    obtain ⟨f, rfl⟩ : ∃ g, f = g + 1 := ⟨f - 1, by omega⟩
    have v6 := hw.2.1
    obtain rfl : v = tV τ := by omega
    refine ⟨μ, ?_, RO.rf⟩
    have e43 : fX1_partsFrom_43 (fX1_partsFrom f) (nI k) (70 + 4 * p) (nI 0) μ = some (lN (Pn τ c k 0 σ (tV τ)), μ) := by
      unfold fX1_partsFrom_43
      rw [hS.2.2.1, c_tenTo (by decide), bs, Pn]
      by_cases e : σ.2.2.2.1 = nI k
      · rw [if_pos e, if_pos e]
      · rw [if_neg e, if_neg e]; rfl
    have e0 : nI (tV τ) - nI (tV τ) = nI 0 := by rw [pk_sub (Nat.le_refl _), Nat.sub_self]
    rw [fX1_partsFrom]
    unfold fX1_partsFrom_b
    rw [rdr_r (by omega), bs, hT.2.1, bs, e0, if_pos (show nI 0 ≤ 0 by decide), e43, ite_self]
  | succ d ih =>
    intro f v p σ μ hd hv hf hp hn hT hS
    obtain ⟨f, rfl⟩ : ∃ g, f = g + 1 := ⟨f - 1, by omega⟩
    have v6 := hw.2.1
    have l8 := hw.1
    have e0 : nI (tV τ) - nI v = nI (d + 1) := by rw [pk_sub (by omega), show tV τ - v = d + 1 by omega]
    have dp : fX1_isDeepest (nI p) μ = some 0 := by
      have c6 : nI p < 6 := nI_lt (b := 6) (by omega) (by decide)
      unfold fX1_isDeepest
      rw [if_neg (nI_pos (by omega)), if_pos c6]
    by_cases w : σ.2.2.2.1 = -1
    · obtain ⟨μ1, e1, o1⟩ : ∃ μ1, (if nI c ≤ 0 then fX1_partsFrom_88 (fX1_partsFrom f) (nI v) (nI k) (nI c) (nI p) (70 + 4 * p) 0 μ else av_b2 (fX1_partsFrom f (nI v + 1) (nI k) (nI c) (nI p) μ) fun r81 μ81 => (some (0 + ((Int32.toInt64 (nI c)) * r81))).bind fun x7_86 => fX1_partsFrom_88 (fX1_partsFrom f) (nI v) (nI k) (nI c) (nI p) (70 + 4 * p) x7_86 μ81) = fX1_partsFrom_88 (fX1_partsFrom f) (nI v) (nI k) (nI c) (nI p) (70 + 4 * p) (lN (c * Pn τ c k d σ (v + 1))) μ1 ∧ RO p μ μ1 := by
        by_cases c0 : c = 0
        · subst c0
          refine ⟨μ, ?_, RO.rf⟩
          rw [if_pos (by decide), Nat.zero_mul]; rfl
        · obtain ⟨μ1, e1, o1⟩ := ih f (v + 1) p σ μ (by omega) (by omega) (by omega) (by omega) (by omega) hT hS
          refine ⟨μ1, ?_, o1⟩
          rw [if_neg (nI_nle (by omega) (by omega)), nI_1, e1, b2_some, bs, nI_l (by omega), lN_mul, show (0 : Int64) = lN 0 by decide, lN_add, Nat.zero_add]
      have hT1 := RO_CT o1 hT
      have hS1 := RO_CS o1 hS
      obtain ⟨μ2, e2, o2⟩ : ∃ μ2, fX1_partsFrom_88 (fX1_partsFrom f) (nI v) (nI k) (nI c) (nI p) (70 + 4 * p) (lN (c * Pn τ c k d σ (v + 1))) μ1 = some (lN (Pn τ c k (d + 1) σ v), μ2) ∧ RO p μ1 μ2 := by
        unfold fX1_partsFrom_88 fX1_partsFrom_145
        by_cases c10 : c = 10
        · refine ⟨μ1, ?_, RO.rf⟩
          rw [c10, if_pos (by decide), Pn, Nat.sub_self, Nat.zero_mul]
          rfl
        · have c9 : ¬ (10 : Int32) ≤ nI c := nI_ge (a := c) (b := 10) (by omega) (by decide)
          obtain ⟨μ2, e2, o2, h2⟩ := c_next (by omega) hw hS1
          obtain ⟨μ3, e3, s3, h3, -⟩ := c_cast (SQ_r (p := p + 1) (by omega)) hw (RO_CT o2 hT1) h2 (show v < tV τ by omega) (by omega)
          have o3 : RO p μ2 μ3 := RO.so (by rw [show 74 + 4 * p = 70 + 4 * (p + 1) by omega]; exact s3)
          obtain ⟨μ4, e4, o4⟩ := ih f (v + 1) (p + 1) (vot τ σ v) μ3 (by omega) (by omega) (by omega) (by omega) (by rw [vot_v]; omega) (RO_CT o3 (RO_CT o2 hT1)) h3
          refine ⟨μ4, ?_, (o2.tr o3).tr o4.up⟩
          rw [if_neg c9, nI_1, rdr_r (by omega), bs, e2, bs, bs, e3, bs, nI_1, e4, b2_some, bs, show (10 : Int32) - nI c = nI (10 - c) from pk_sub (a := 10) (by omega), nI_l (by omega), lN_mul, lN_add, Pn]
      refine ⟨μ2, ?_, o1.tr o2⟩
      rw [fX1_partsFrom]
      unfold fX1_partsFrom_b
      rw [rdr_r (by omega), bs, hT.2.1, bs, e0, hS.2.2.1, if_pos w, if_neg (nI_nle (by omega) (by omega)), dp, bs, if_pos rfl, e1, e2]
    · refine ⟨μ, ?_, RO.rf⟩
      rw [fX1_partsFrom]
      unfold fX1_partsFrom_b fX1_partsFrom_43
      rw [rdr_r (by omega), bs, hT.2.1, bs, e0, hS.2.2.1, if_neg w, c_tenTo (by omega), bs, Pn_won hc _ _ _ w]
      by_cases e : σ.2.2.2.1 = nI k
      · rw [if_pos e, if_pos e]
      · rw [if_neg e, if_neg e]; rfl
