/-! Step: sneeze. -/
theorem two_V {V : Nat} (h : V ≤ 6) : (1 : Int32) <<< (nI V &&& 31) = nI (2 ^ V) ∧ 2 ^ V ≤ 64 ∧ 10 ^ V ≤ 1000000 ∧ 1 ≤ 10 ^ V := by
  have hd : ∀ V, V ≤ 6 → (1 : Int32) <<< (nI V &&& 31) = nI (2 ^ V) ∧ 2 ^ V ≤ 64 ∧ 10 ^ V ≤ 1000000 ∧ 1 ≤ 10 ^ V := by decide +kernel
  exact hd V h
theorem m_s61 {τ : Td} {σ : Hd} {c k : Nat} {x5 : Int64} (hw : WT τ) (hc : c ≤ 10) (hW : HW σ) (hn : σ.2.2.1 < 2 ^ 29) : ∀ (d f i : Nat) (ν : Mem), d = 2 ^ tV τ - i → i ≤ 2 ^ tV τ → d < f → MT (gA ν 99) τ → MS (gA ν 99) τ σ → ∃ ν', fX12_sneeze_61 f (nI k) (nI c) (lN (sm (fun u => Wn τ c k u (tV τ) σ 0 1) i)) x5 (nI i) ν = ((fX12_fraction (lN (sm (fun u => Wn τ c k u (tV τ) σ 0 1) (2 ^ tV τ))) x5 ν').bind fun μ => some (1, μ)) ∧ HO ν ν'
  | 0, f, i, ν, hd, hi, hf, hT, hM => by
    obtain ⟨f, rfl⟩ : ∃ g, f = g + 1 := ⟨f - 1, by omega⟩
    obtain ⟨t1, t2, -, -⟩ := two_V hw.2.1
    obtain rfl : i = 2 ^ tV τ := by omega
    refine ⟨ν, ?_, HO.rf⟩
    unfold fX12_sneeze_61
    rw [m_voters hT, bs, t1, if_pos (nI_le (by omega) (by omega))]
  | d + 1, f, i, ν, hd, hi, hf, hT, hM => by
    obtain ⟨f, rfl⟩ : ∃ g, f = g + 1 := ⟨f - 1, by omega⟩
    have v6 := hw.2.1
    obtain ⟨t1, t2, -, -⟩ := two_V hw.2.1
    obtain ⟨ν1, e1, o1, h1⟩ := m_layHand hw hT hM
    obtain ⟨ν2, e2, o2⟩ := m_s82 (k := k) (x3 := lN (sm (fun u => Wn τ c k u (tV τ) σ 0 1) i)) (x5 := x5) (fX12_sneeze_61 f) hw hc (show i < 64 by omega) (tV τ) av_big 0 1 σ ν1 (by omega) (by omega) (by show _ < 1000000; omega) hW (by omega) (by rw [HO_99 o1]; exact hT) h1
    have o12 := o1.tr o2
    obtain ⟨ν3, e3, o3⟩ := m_s61 (k := k) (x5 := x5) hw hc hW hn d f (i + 1) ν2 (by omega) (by omega) (by omega) (by rw [HO_99 o12]; exact hT) (by rw [HO_99 o12]; exact hM)
    refine ⟨ν3, ?_, o12.tr o3⟩
    rw [nI_0, show lN 1 = 1 by decide, lN_add] at e2
    rw [fX12_sneeze_61]
    dsimp only
    rw [m_voters hT, bs, t1, if_neg (nI_ge (by omega) (by omega)), e1, bs, e2]
    exact e3
theorem m_s35 {τ : Td} {x1 x2 : Int32} {ν : Mem} (hw : WT τ) (hT : MT (gA ν 99) τ) : ∀ (d f i : Nat), d = tV τ - i → i ≤ tV τ → d < f → fX12_sneeze_35 f x1 x2 0 (lN (10 ^ i)) (nI i) ν = fX12_sneeze_61 av_big x1 x2 0 (lN (10 ^ tV τ)) 0 ν
  | 0, f, i, hd, hi, hf => by
    obtain ⟨f, rfl⟩ : ∃ g, f = g + 1 := ⟨f - 1, by omega⟩
    have v6 := hw.2.1
    obtain rfl : i = tV τ := by omega
    rw [fX12_sneeze_35]
    dsimp only
    rw [m_voters hT, bs, if_pos (nI_le (by omega) (by omega))]
  | d + 1, f, i, hd, hi, hf => by
    obtain ⟨f, rfl⟩ : ∃ g, f = g + 1 := ⟨f - 1, by omega⟩
    have v6 := hw.2.1
    have ih := m_s35 (x1 := x1) (x2 := x2) hw hT d f (i + 1) (by omega) (by omega) (by omega)
    rw [fX12_sneeze_35]
    dsimp only
    rw [m_voters hT, bs, if_neg (nI_ge (by omega) (by omega)), bs, bs, nI_1, show (10 : Int64) = lN 10 by decide, lN_mul, ← Nat.pow_succ]
    exact ih
theorem st_sneeze : lw_st_sneeze Iv := by
  intro i hi a w μ ν h
  obtain ⟨z, wz, cz, mz⟩ := h.1
  have l8 := wz.1.1
  have v6 := wz.1.2.1
  unfold fX11_sneeze fX12_sneeze fX11_sneeze_18 fX12_sneeze_20
  rw [c_isLedge (CTb_CT cz.1), m_isLedge mz.1, m_inN 0 10 0 10 rfl rfl, w_eq]
  simp only [bs]
  by_cases c1 : (0 : Int32) ≤ a ∧ a ≤ nI (tL (zT z)) - 1
  · obtain ⟨k, hk, rfl⟩ := ix_out (by omega) c1
    rw [if_pos c1, if_neg n10, if_neg n10]
    by_cases c2 : (0 : Int32) ≤ w ∧ w ≤ 10
    · obtain ⟨c, hc, rfl⟩ := ix_out (a := w) (n := 11) (by decide) ⟨c2.1, c2.2⟩
      rw [if_pos c2, if_neg n10, if_neg n10]
      have hv := wz.2.2.1
      obtain ⟨t1, t2, t3, t4⟩ := two_V v6
      obtain ⟨μ1, e1, s1, h1⟩ := c_fresh wz.1 cz.2.1
      have hT1 := SO_CT (Or.inr (Or.inl rfl)) s1 (CTb_CT cz.1)
      obtain ⟨μ2, e2, o2⟩ := c_parts (c := c) wz.1 (by omega) hk (tV (zT z)) 8 0 0 (zH z) μ1 (by omega) (by omega) (by omega) (by omega) (by omega) hT1 h1
      rw [nI_0] at e2
      have hT2 := RO_CT o2 hT1
      have hP := Pn_le (τ := zT z) (c := c) (k := k) (by omega) (tV (zT z)) (zH z) 0
      have hsum := W_sum (τ := zT z) (c := c) (k := k) (tV (zT z)) 0 0 1 (zH z) (by decide)
      simp only [Nat.pow_zero, Nat.one_mul, Nat.zero_add] at hsum
      obtain ⟨ν1, f1, q1⟩ := m_s61 (k := k) (c := c) (σ := zH z) (x5 := lN (10 ^ tV (zT z))) wz.1 (by omega) wz.2.1 (by omega) (2 ^ tV (zT z)) av_big 0 ν (Nat.sub_zero _).symm (Nat.zero_le _) (by show _ < 1000000; omega) mz.1 mz.2.1
      have f0 := m_s35 (x1 := nI k) (x2 := nI c) wz.1 mz.1 (tV (zT z)) av_big 0 (by omega) (by omega) (by show _ < 1000000; omega)
      rw [nI_0, show lN (10 ^ 0) = 1 by decide] at f0
      rw [nI_0, show lN (sm (fun u => Wn (zT z) c k u (tV (zT z)) (zH z) 0 1) 0) = 0 from (by decide : lN 0 = 0), hsum] at f1
      have e3 := c_tenTo (μ := μ2) v6
      generalize Pn (zT z) c k (tV (zT z)) (zH z) 0 = P at *
      generalize 10 ^ tV (zT z) = T at *
      have hg : 0 < Nat.gcd P T := Nat.gcd_pos_of_pos_right P (by omega)
      have hgT : Nat.gcd P T ≤ T := Nat.gcd_le_right P (by omega)
      have g1 : fX11_commonDivisor (lN P) (lN T) μ2 = some (lN (Nat.gcd P T)) := by
        have e := c_gcd (μ := μ2) 20 P T 0 av_big (by omega) (by decide) (by decide) (by omega) (by omega)
        rw [nI_0] at e
        exact e
      have g2 : fX12_fraction (lN P) (lN T) ν1 = some (sL (sL ν1 98 4 (lN P / lN (Nat.gcd P T))) 98 5 (lN T / lN (Nat.gcd P T))) := m_gcd (ν := ν1) (x1 := lN P) (x3 := lN T) 20 P T av_big (by omega) (by decide) (by omega) (by omega) hg
      have gn : ¬ lN (Nat.gcd P T) = 0 := fun e => by rw [lN0 (by omega)] at e; omega
      have gp : ¬ lg_cmp (lN (Nat.gcd P T)) 0 ≤ 0 := by
        rw [lg_cmp_le, show (0 : Int64) = lN 0 by decide, pk_lLE (by omega) (by decide)]; omega
      have pw : fX1_partsWon (nI k) (nI c) μ = some (lN P, μ2) := by
        unfold fX1_partsWon
        rw [e1, b2_some, e2, b2_some]
      have hI : Iv (i + 5) μ2 ν1 := Iv_5 (Iv_keep ((KC.so (by omega) s1).tr o2.kc) (KM.ho q1) h)
      unfold fX11_sneeze_82
      rw [pw, b2_some, show gF μ2 15 4 = _ from hT2.2.1, e3, bs, g1, bs, if_neg gp, if_neg gn, if_neg gn, f0, f1, g2, bs]
      refine ⟨1, _, _, rfl, rfl, ?_⟩
      obtain ⟨i1, i2, i3, -, i5⟩ := hI
      exact ⟨i1, i2, i3, ⟨rfl, rfl⟩, i5⟩
    · exact bad2_ok (-2) h (by rw [if_neg c2, if_pos rfl]) (by rw [if_neg c2, if_pos rfl])
  · exact bad2_ok (-2) h (by rw [if_neg c1, if_pos rfl]) (by rw [if_neg c1, if_pos rfl])
