/-! Steps: ledge, voter, mountain. -/
theorem below_cases {a : Int32} {n : Nat} (hn : n ≤ 1000) (h : (-1 : Int32) ≤ a ∧ a ≤ nI n - 1) : ∃ d : Option Nat, a = bI d ∧ ∀ u, d = some u → u < n := by
  by_cases c : (0 : Int32) ≤ a
  · obtain ⟨j, hj, rfl⟩ := ix_out hn ⟨c, h.2⟩
    exact ⟨some j, rfl, fun u hu => by cases hu; exact hj⟩
  · refine ⟨none, ?_, fun u hu => by cases hu⟩
    apply Int32.toInt_inj.mp
    have h1 := h.1
    rw [Int32.le_iff_toInt_le] at h1 c
    have e0 : (0 : Int32).toInt = 0 := by decide
    have e1 : (-1 : Int32).toInt = -1 := by decide
    have e2 : (bI none).toInt = -1 := e1
    omega
theorem st_ledge : lw_st_ledge Iv := by
  intro i hi a s d μ ν h
  obtain ⟨z, wz, cz, mz⟩ := h.1
  have l8 := wz.1.1
  unfold fX11_ledge fX12_ledge fX11_ledge_40 fX12_ledge_42
  rw [m_inN 1 60 1 60 rfl rfl, m_inN 0 30 0 30 rfl rfl, w_eq, w_eq, m_ledges mz.1, w_eq, show gF μ 15 1 = _ from cz.1.1]
  simp only [Option.bind_some]
  rw [m_inN (-1) (nI (tL (zT z)) - 1) (-1) _ rfl rfl]
  simp only [Option.bind_some]
  by_cases c1 : (1 : Int32) ≤ a ∧ a ≤ 60
  · obtain ⟨H, hH, rfl⟩ := ix_out (a := a) (n := 61) (by decide) ⟨Int32.le_trans (by decide) c1.1, c1.2⟩
    have hH1 : 1 ≤ H := by
      have := c1.1
      rw [show (1 : Int32) = nI 1 from rfl, nI_leI (by decide) (by omega)] at this
      exact this
    rw [if_pos c1, if_neg n10, if_neg n10]
    by_cases c2 : (0 : Int32) ≤ s ∧ s ≤ 30
    · obtain ⟨S, hS, rfl⟩ := ix_out (a := s) (n := 31) (by decide) ⟨c2.1, c2.2⟩
      rw [if_pos c2, if_neg n10, if_neg n10]
      by_cases c3 : (-1 : Int32) ≤ d ∧ d ≤ nI (tL (zT z)) - 1
      · obtain ⟨D, rfl, hD⟩ := below_cases (by omega) c3
        rw [if_pos c3, if_neg n10, if_neg n10]
        by_cases c4 : tL (zT z) < 8
        · have c5 : nI (tL (zT z)) < 8 := nI_lt (b := 8) c4 (by decide)
          obtain ⟨μ', x1, o1, x2⟩ := c_addLedge (H := H) (S := S) (d := D) (Or.inl rfl) cz c4
          rw [if_pos c5, if_neg (fun e => by rw [show (8 : Int32) = nI 8 from rfl, nI_eq (by omega) (by decide)] at e; omega), x1, b2_some, m_layLedge av_l99 (by decide) (by decide) mz.1.1 c4]
          simp only [Option.bind_some]
          rw [w99 4 4 rfl (by decide)]
          simp only [Option.bind_some, sA_sA, gA_ss]
          have wz' := WZ_led (S := S) wz c4 ⟨hH1, by omega⟩ hD
          have mz' := MR_led (H := H) (S := S) (d := D) mz c4 wz.1.2.1 wz.2.2.2.1.1
          have e9 : fX12_ledges (sA ν 99 (upd (rled (gA ν 99) (tL (zT z)) (nI H) (nI S) (bI D)) 4 0)) = some (nI (tL (zT z) + 1)) := m_ledges (τ := zT (zled z H S D)) (by rw [gA_ss]; exact mz'.1)
          rw [e9]
          simp only [Option.bind_some]
          rw [nI_pred]
          refine ⟨_, _, _, rfl, rfl, ?_⟩
          exact Iv_now h (by omega) o1.kd (KN.sA (by decide)) ⟨_, WZ_mono (by omega) wz', x2, by rw [gA_ss]; exact mz'⟩
        · have c5 : tL (zT z) = 8 := by omega
          exact full2_ok h (by rw [c5, if_neg (by decide)]) (by rw [c5, if_pos (by decide)])
      · exact bad2_ok (-2) h (by rw [if_neg c3, if_pos rfl]) (by rw [if_neg c3, if_pos rfl])
    · exact bad2_ok (-2) h (by rw [if_neg c2, if_pos rfl]) (by rw [if_neg c2, if_pos rfl])
  · exact bad2_ok (-2) h (by rw [if_neg c1, if_pos rfl]) (by rw [if_neg c1, if_pos rfl])
theorem st_voter : lw_st_voter Iv := by
  intro i hi a g s μ ν h
  obtain ⟨z, wz, cz, mz⟩ := h.1
  have l8 := wz.1.1
  have v6 := wz.1.2.1
  unfold fX11_voter fX12_voter fX11_voter_27 fX12_voter_32
  rw [m_inN 0 5 0 5 rfl rfl, m_inN 1 9 1 9 rfl rfl, w_eq, w_eq, m_voters mz.1, c_isLedge (CTb_CT cz.1), m_isLedge mz.1, show gF μ 15 4 = _ from cz.1.2.1]
  simp only [Option.bind_some]
  by_cases c1 : (0 : Int32) ≤ a ∧ a ≤ 5
  · obtain ⟨K, hK, rfl⟩ := ix_out (a := a) (n := 6) (by decide) ⟨c1.1, c1.2⟩
    rw [if_pos c1, if_neg n10, if_neg n10]
    by_cases c2 : (0 : Int32) ≤ g ∧ g ≤ nI (tL (zT z)) - 1
    · obtain ⟨G, hG, rfl⟩ := ix_out (by omega) c2
      rw [if_pos c2, if_neg n10, if_neg n10]
      by_cases c3 : (1 : Int32) ≤ s ∧ s ≤ 9
      · obtain ⟨S, hS, rfl⟩ := ix_out (a := s) (n := 10) (by decide) ⟨Int32.le_trans (by decide) c3.1, c3.2⟩
        have hS1 : 1 ≤ S := by
          have := c3.1
          rw [show (1 : Int32) = nI 1 from rfl, nI_leI (by decide) (by omega)] at this
          exact this
        rw [if_pos c3, if_neg n10, if_neg n10]
        by_cases c4 : tV (zT z) < 6
        · have c5 : nI (tV (zT z)) < 6 := nI_lt (b := 6) c4 (by decide)
          obtain ⟨μ', x1, o1, x2⟩ := c_addVoter (K := K) (G := G) (S := S) (Or.inl rfl) cz c4
          rw [if_pos c5, if_neg (fun e => by rw [show (6 : Int32) = nI 6 from rfl, nI_eq (by omega) (by decide)] at e; omega), x1, b2_some, m_layVoter av_l99 (by decide) (by decide) mz.1.2.1 c4]
          simp only [Option.bind_some]
          rw [w99 4 4 rfl (by decide)]
          simp only [Option.bind_some, sA_sA, gA_ss]
          have wz' := WZ_vot (S := S) wz c4 hK hG ⟨hS1, by omega⟩
          have mz' := MR_vot (K := K) (G := G) (S := S) mz l8 c4 wz.2.2.2.1.1
          have e9 : fX12_voters (sA ν 99 (upd (rvot (gA ν 99) (tV (zT z)) (nI K) (nI G) (nI S)) 4 0)) = some (nI (tV (zT z) + 1)) := m_voters (τ := zT (zvot z K G S)) (by rw [gA_ss]; exact mz'.1)
          rw [e9]
          simp only [Option.bind_some]
          rw [nI_pred]
          refine ⟨_, _, _, rfl, rfl, ?_⟩
          exact Iv_now h (by omega) o1.kd (KN.sA (by decide)) ⟨_, WZ_mono (by omega) wz', x2, by rw [gA_ss]; exact mz'⟩
        · have c5 : tV (zT z) = 6 := by omega
          exact full2_ok h (by rw [c5, if_neg (by decide)]) (by rw [c5, if_pos (by decide)])
      · exact bad2_ok (-2) h (by rw [if_neg c3, if_pos rfl]) (by rw [if_neg c3, if_pos rfl])
    · exact bad2_ok (-2) h (by rw [if_neg c2, if_pos rfl]) (by rw [if_neg c2, if_pos rfl])
  · exact bad2_ok (-2) h (by rw [if_neg c1, if_pos rfl]) (by rw [if_neg c1, if_pos rfl])
/-- an empty mountain -/
def zNew : Sd := ((0, 0, (fun _ => 0), (fun _ => none), (fun _ => 0), (fun _ => 0), (fun _ => 0)), ((fun _ => 0), (fun _ => 0), 0, -1, 0), 0, (fun _ => 0), (fun _ => 0), 0, (fun _ => ((fun _ => 0), (fun _ => 0), 0, -1, 0)))
theorem WZ_new {i : Nat} : WZ i zNew := ⟨⟨Nat.zero_le 8, Nat.zero_le 6, fun k hk => absurd hk (Nat.not_lt_zero k), fun k hk => absurd hk (Nat.not_lt_zero k), fun k hk => absurd hk (Nat.not_lt_zero k)⟩, fun _ => rfl, Nat.zero_le i, ⟨Nat.zero_le 6, fun k hk => absurd hk (Nat.not_lt_zero k)⟩, Nat.zero_le 8, fun k hk => absurd hk (Nat.not_lt_zero k)⟩
theorem sA_self {μ : Mem} {q : Nat} : sA μ q (gA μ q) = μ := by
  obtain ⟨x, y, w⟩ := μ
  show (x, y, fun a => if a = q then w q else w a) = (x, y, w)
  congr 2
  funext a
  by_cases h : a = q <;> simp [h]
theorem c_fill {q n : Nat} (hn : av_ln q = n) (h1000 : n ≤ 1000) (v : Int32) : ∀ (d f i : Nat) (μ : Mem), d = n - i → i ≤ n → d < f → ∃ g, fJ7_fill_53178_5 f q v (nI i) (nI n) μ = some (sA μ q g)
  | 0, f, i, μ, hd, hi, hf => by
    obtain ⟨f, rfl⟩ : ∃ g, f = g + 1 := ⟨f - 1, by omega⟩
    obtain rfl : i = n := by omega
    refine ⟨gA μ q, ?_⟩
    unfold fJ7_fill_53178_5
    rw [if_pos (nI_le (by omega) (by omega))]
    rw [sA_self]
  | d + 1, f, i, μ, hd, hi, hf => by
    obtain ⟨f, rfl⟩ : ∃ g, f = g + 1 := ⟨f - 1, by omega⟩
    obtain ⟨g, hg⟩ := c_fill hn h1000 v d f (i + 1) (sA μ q (upd (gA μ q) i v)) (by omega) (by omega) (by omega)
    refine ⟨g, ?_⟩
    unfold fJ7_fill_53178_5
    rw [if_neg (nI_ge (by omega) (by omega)), wr_nI hn (by omega) h1000]
    simp only [Option.bind_some]
    rw [nI_1, hg, sA_sA]
theorem c_anew {b : Nat} {μ : Mem} (hb : SB b) : ∃ μ', fX8_startAnew b μ = some μ' ∧ BO b μ μ' ∧ CR b μ' zNew := by
  obtain ⟨⟨r0, r1, -⟩, -, ⟨q1, q2⟩, -, -, -, -, -, l8, l9, -⟩ := SB_f hb
  obtain ⟨g1, e1⟩ := c_fill l8 (by decide) 0 8 av_big 0 (sF (sF μ (b + 1) 1 0) (b + 1) 4 0) rfl (by decide) (by decide)
  obtain ⟨g2, e2⟩ := c_fill l9 (by decide) 0 8 av_big 0 (sA (sF (sF μ (b + 1) 1 0) (b + 1) 4 0) (b + 8) g1) rfl (by decide) (by decide)
  refine ⟨sF (sF (sF (sF (sF (sA (sA (sF (sF μ (b + 1) 1 0) (b + 1) 4 0) (b + 8) g1) (b + 9) g2) (b + 7) 3 0) (b + 7) 4 (-1)) (b + 7) 5 0) b 3 0) b 6 0, ?_, ?_, ?_⟩
  · unfold fX8_startAnew fX7_startAnew fJ7_fill_53178
    rw [r0, r1, q1, q2, l8, l9]
    simp only [Option.bind_some]
    rw [show (0 : Int32) = nI 0 from rfl] at *
    rw [e1]
    simp only [Option.bind_some]
    rw [e2]
    rfl
  · exact ((((((((BO.sF (by omega)).tr (BO.sF (by omega))).tr (BO.sA (by omega))).tr (BO.sA (by omega))).tr (BO.sF (by omega))).tr (BO.sF (by omega))).tr (BO.sF (by omega))).tr (BO.sF (by omega))).tr (BO.sF (by omega))
  · refine ⟨⟨?_, ?_, fun k hk => absurd hk (Nat.not_lt_zero k), fun k hk => absurd hk (Nat.not_lt_zero k)⟩, ⟨fun k hk => absurd hk (Nat.not_lt_zero k), ?_, ?_, ?_⟩, ⟨?_, fun k hk => absurd hk (Nat.not_lt_zero k)⟩, ?_, fun k hk => absurd hk (Nat.not_lt_zero k)⟩
    · rw [gF_sm (by omega), gF_sm (by omega), gF_sm (by omega), gF_sm (by omega), gF_sm (by omega), gF_sA, gF_sA, gF_sm (by omega), gF_sq, if_pos rfl]; rfl
    · rw [gF_sm (by omega), gF_sm (by omega), gF_sm (by omega), gF_sm (by omega), gF_sm (by omega), gF_sA, gF_sA, gF_sq, if_pos rfl]; rfl
    · rw [gF_sm (by omega), gF_sm (by omega), gF_sm (by omega), gF_sm (by omega), gF_sq, if_pos rfl]; rfl
    · rw [gF_sm (by omega), gF_sm (by omega), gF_sm (by omega), gF_sq, if_pos rfl]; rfl
    · rw [gF_sm (by omega), gF_sm (by omega), gF_sq, if_pos rfl]; rfl
    · rw [gF_sq, if_pos rfl]; rfl
    · rw [gF_sm (by omega), gF_sq, if_pos rfl]; rfl
theorem m_beg {q n : Nat} (hn : av_ln q = n) (h69 : 69 ≤ n) (h1000 : n ≤ 1000) : ∀ (d f i : Nat) (ν : Mem), d = 69 - i → i ≤ 69 → d < f → (∀ k, k < i → gA ν q k = 0) → ∃ g, fX12_begin_2 f q (nI i) ν = some (sA ν q g) ∧ (∀ k, k < 69 → g k = if k = 5 then -1 else 0)
  | 0, f, i, ν, hd, hi, hf, hz => by
    obtain ⟨f, rfl⟩ : ∃ g, f = g + 1 := ⟨f - 1, by omega⟩
    obtain rfl : i = 69 := by omega
    refine ⟨upd (gA ν q) 5 (-1), ?_, fun k hk => ?_⟩
    · unfold fX12_begin_2
      rw [if_pos (by decide), show (5 : Int32) = nI 5 from rfl, wr_nI hn (by omega) h1000]
      rfl
    · rw [upd_if]
      by_cases c : k = 5
      · rw [if_pos c, if_pos c]
      · rw [if_neg c, if_neg c]; exact hz k hk
  | d + 1, f, i, ν, hd, hi, hf, hz => by
    obtain ⟨f, rfl⟩ : ∃ g, f = g + 1 := ⟨f - 1, by omega⟩
    obtain ⟨g, hg, hg2⟩ := m_beg hn h69 h1000 d f (i + 1) (sA ν q (upd (gA ν q) i 0)) (by omega) (by omega) (by omega) (fun k hk => by
      rw [gA_ss, upd_if]
      by_cases c : k = i
      · rw [if_pos c]
      · rw [if_neg c]; exact hz k (by omega))
    refine ⟨g, ?_, hg2⟩
    have c69 : ¬ (69 : Int32) ≤ nI i := nI_ge (a := i) (b := 69) (by omega) (by decide)
    unfold fX12_begin_2
    rw [if_neg c69, wr_nI hn (by omega) h1000]
    simp only [Option.bind_some]
    rw [nI_1, hg, sA_sA]
theorem MR_new {g : Nat → Int32} (h : ∀ k, k < 69 → g k = if k = 5 then -1 else 0) : MR g zNew := by
  refine ⟨⟨?_, ?_, fun k hk => absurd hk (Nat.not_lt_zero k), fun k hk => absurd hk (Nat.not_lt_zero k)⟩, ⟨fun k hk => absurd hk (Nat.not_lt_zero k), ?_, ?_, ?_⟩, ⟨?_, fun k hk => absurd hk (Nat.not_lt_zero k)⟩, ?_, fun k hk => absurd hk (Nat.not_lt_zero k)⟩
  · rw [h 0 (by decide)]; rfl
  · rw [h 1 (by decide)]; rfl
  · rw [h 2 (by decide)]; rfl
  · rw [h 5 (by decide)]; rfl
  · rw [h 6 (by decide)]; rfl
  · rw [h 3 (by decide)]; rfl
  · rw [h 4 (by decide)]; rfl
theorem m_begin {q n : Nat} {ν : Mem} (hn : av_ln q = n) (h69 : 69 ≤ n) (h1000 : n ≤ 1000) : ∃ g, fX12_begin q ν = some (sA ν q g) ∧ MR g zNew := by
  obtain ⟨g, e, hg⟩ := m_beg hn h69 h1000 69 av_big 0 ν rfl (by decide) (by decide) (fun k hk => absurd hk (Nat.not_lt_zero k))
  exact ⟨g, e, MR_new hg⟩
theorem st_mountain : lw_st_mountain Iv := by
  intro i hi μ ν h
  obtain ⟨z, wz, cz, mz⟩ := h.1
  obtain ⟨μ', e1, o1, c1⟩ := c_anew (μ := μ) (b := 14) (Or.inl rfl)
  obtain ⟨g, e2, m1⟩ := m_begin (ν := ν) av_l99 (by decide) (by decide)
  unfold fX11_mountain fX12_mountain
  rw [m_ledges mz.1, show gF μ 15 1 = _ from cz.1.1, e1, e2]
  exact ⟨_, _, _, rfl, rfl, Iv_now h (by omega) o1.kd (KN.sA (by decide)) ⟨_, WZ_new, c1, by rw [gA_ss]; exact m1⟩⟩
