/-! sneeze: the reference's side. -/
/-- what the choice who makes of voters v.. -/
def Wn (τ : Td) (c k who : Nat) : Nat → Hd → Nat → Nat → Nat
  | 0, σ, _, x => if σ.2.2.2.1 = nI k then x else 0
  | d + 1, σ, v, x => if who.testBit v then Wn τ c k who d (vot τ σ v) (v + 1) (x * (10 - c)) else Wn τ c k who d σ (v + 1) (x * c)
theorem has_b {who v : Nat} (hw : who < 64) (hv : v < 6) (μ : Mem) : fX12_has (nI who) (nI v) μ = some (if who.testBit v then 1 else 0) := by
  have hd : ∀ w, w < 64 → ∀ v, v < 6 → (if ((nI w >>> (nI v &&& 31)) &&& 1) = 1 then some (1 : Int32) else some 0) = some (if w.testBit v then 1 else 0) := by decide +kernel
  have := hd who hw v hv
  unfold fX12_has
  exact this
theorem m_s82 {τ : Td} {c k who : Nat} {x3 x5 : Int64} (k61 : Int32 → Int32 → Int64 → Int64 → Int32 → Mem → Option (Int32 × Mem)) (hw : WT τ) (hc : c ≤ 10) (hwho : who < 64) : ∀ (d f v x : Nat) (σ : Hd) (ν : Mem), d = tV τ - v → v ≤ tV τ → d < f → HW σ → σ.2.2.1 + d < 2 ^ 30 → MT (gA ν 99) τ → HS ν τ σ → ∃ ν', fX12_sneeze_82 k61 f (nI k) (nI c) x3 x5 (nI who) (lN x) (nI v) ν = k61 (nI k) (nI c) (x3 + lN (Wn τ c k who d σ v x)) x5 (nI (who + 1)) ν' ∧ HO ν ν'
  | 0, f, v, x, σ, ν, hd, hv, hf, hW, hn, hT, hS => by
    obtain ⟨f, rfl⟩ : ∃ g, f = g + 1 := ⟨f - 1, by omega⟩
    have v6 := hw.2.1
    obtain rfl : v = tV τ := by omega
    refine ⟨ν, ?_, HO.rf⟩
    unfold fX12_sneeze_82 fX12_sneeze_155
    rw [m_voters hT, bs, if_pos (nI_le (by omega) (by omega)), hS.2.2.1, Wn]
    simp only [bs]
    rw [nI_1]
    by_cases e : σ.2.2.2.1 = nI k
    · rw [if_pos e, if_pos e]
    · rw [if_neg e, if_neg e]; rfl
  | d + 1, f, v, x, σ, ν, hd, hv, hf, hW, hn, hT, hS => by
    obtain ⟨f, rfl⟩ : ∃ g, f = g + 1 := ⟨f - 1, by omega⟩
    have v6 := hw.2.1
    have e10 : (10 : Int32) - nI c = nI (10 - c) := pk_sub (a := 10) (by omega)
    unfold fX12_sneeze_82 fX12_sneeze_113 fX12_sneeze_134
    rw [m_voters hT, bs, if_neg (nI_ge (by omega) (by omega)), has_b hwho (by omega), bs, e10, nI_l (by omega), nI_l (by omega), lN_mul, lN_mul]
    simp only [bs]
    rw [nI_1]
    by_cases b : who.testBit v = true
    · obtain ⟨ν1, e1, o1, h1⟩ := m_goVote hw hT hS hW (by omega) (show v < tV τ by omega)
      obtain ⟨ν2, e2, o2⟩ := m_s82 (x3 := x3) (x5 := x5) (k := k) k61 hw hc hwho d f (v + 1) (x * (10 - c)) (vot τ σ v) ν1 (by omega) (by omega) (by omega) (HW_vot hw) (by rw [vot_v]; omega) (by rw [HO_99 o1]; exact hT) h1
      refine ⟨ν2, ?_, o1.tr o2⟩
      rw [if_pos b, if_neg n10, if_neg n10, e1, b2_some, e2, Wn, if_pos b]
    · obtain ⟨ν2, e2, o2⟩ := m_s82 (x3 := x3) (x5 := x5) (k := k) k61 hw hc hwho d f (v + 1) (x * c) σ ν (by omega) (by omega) (by omega) hW (by omega) hT hS
      refine ⟨ν2, ?_, o2⟩
      rw [if_neg b]
      simp only [if_true]
      rw [e2, Wn, if_neg b]
