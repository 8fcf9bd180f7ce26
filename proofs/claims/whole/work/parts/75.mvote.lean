/-! The reference: where voters set, votes, nights, the hand. -/
theorem m_byL {ν : Mem} {τ : Td} {σ : Hd} (le : Bool) (hw : WT τ) (hT : MT (gA ν 99) τ) (hS : HL ν τ σ) : ∀ (d f i : Nat), d = tL τ - i → 1 ≤ i → i ≤ tL τ → d < f → fX12_byLoad_4 f (if le then 1 else 0) (nI (bl le σ i)) (nI i) ν = some (nI (bl le σ (tL τ)))
  | 0, f, i, hd, h1, hi, hf => by
    obtain ⟨f, rfl⟩ : ∃ g, f = g + 1 := ⟨f - 1, by omega⟩
    have h8 := hw.1
    obtain rfl : i = tL τ := by omega
    unfold fX12_byLoad_4
    rw [m_ledges hT]
    simp only [Option.bind_some]
    rw [if_pos (nI_le (by omega) (by omega))]
  | d + 1, f, i, hd, h1, hi, hf => by
    obtain ⟨f, rfl⟩ : ∃ g, f = g + 1 := ⟨f - 1, by omega⟩
    have h8 := hw.1
    have hb := @bl_lt le σ (i - 1)
    rw [show i - 1 + 1 = i by omega] at hb
    have ih := m_byL le hw hT hS d f (i + 1) (by omega) (by omega) (by omega) (by omega)
    unfold fX12_byLoad_4
    rw [m_ledges hT]
    simp only [Option.bind_some]
    rw [if_neg (nI_ge (by omega) (by omega)), m_load hw hS (by omega), m_load hw hS (by omega)]
    simp only [Option.bind_some]
    unfold fX12_byLoad_55 fX12_byLoad_67
    simp only [Option.bind_some]
    rw [nI_1]
    cases le with
    | true =>
      have e : bl true σ (i + 1) = if ld σ i < ld σ (bl true σ i) then i else bl true σ i := by rw [bl]; simp
      rw [e] at ih
      rw [if_neg (by decide)]
      by_cases c : ld σ i < ld σ (bl true σ i)
      · rw [if_neg (Int32.not_le.mpr c), if_neg (by decide)]; rw [if_pos c] at ih; exact ih
      · rw [if_pos (Int32.not_lt.mp c), if_pos rfl]; rw [if_neg c] at ih; exact ih
    | false =>
      have e : bl false σ (i + 1) = if ld σ (bl false σ i) < ld σ i then i else bl false σ i := by rw [bl]; simp
      rw [e] at ih
      rw [if_pos (by decide)]
      by_cases c : ld σ (bl false σ i) < ld σ i
      · rw [if_neg (Int32.not_le.mpr c), if_neg (by decide)]; rw [if_pos c] at ih; exact ih
      · rw [if_pos (Int32.not_lt.mp c), if_pos trivial]; rw [if_neg c] at ih; exact ih
theorem m_byLoad {ν : Mem} {τ : Td} {σ : Hd} (le : Bool) (hw : WT τ) (hT : MT (gA ν 99) τ) (hS : HL ν τ σ) (h0 : 0 < tL τ) : fX12_byLoad (if le then 1 else 0) ν = some (nI (bl le σ (tL τ))) := by
  have h := m_byL le hw hT hS (tL τ - 1) av_big 1 rfl (by omega) (by omega) (by have := hw.1; show _ < 1000000; omega)
  rw [bl_1] at h
  exact h
theorem m_heavy {ν : Mem} {kd s : Nat} (hk : kd < 6) (hs : s ≤ 9) : fX12_heavy (nI kd) (nI s) ν = some (nI (hf kd s)) := by
  refine k_six (P := fun kd => fX12_heavy (nI kd) (nI s) ν = some (nI (hf kd s))) hk ?_ ?_ ?_ ?_ ?_ ?_ <;> unfold fX12_heavy fX12_heavy_10
  · rfl
  · rfl
  · exact congrArg some (two_nI s)
  · exact congrArg some (half_nI hs)
  · rfl
  · exact congrArg some (two_nI s)
theorem m_where {ν : Mem} {τ : Td} {σ : Hd} {kd g s : Nat} (hw : WT τ) (hT : MT (gA ν 99) τ) (hS : HL ν τ σ) (h8v : gF ν 98 8 = nI σ.2.2.1) (hv : σ.2.2.1 < 2 ^ 31) (hk : kd < 6) (hg : g < tL τ) (hs : s ≤ 9) : fX12_where (nI kd) (nI g) (nI s) ν = some (nI (wh τ σ kd g s)) := by
  have h8 := hw.1
  have hh := fun kd (h : kd < 6) => m_heavy (ν := ν) (s := s) h hs
  have b1 := m_byLoad true hw hT hS (by omega)
  have b0 := m_byLoad false hw hT hS (by omega)
  simp only [if_true, Bool.false_eq_true, if_false] at b1 b0
  refine k_six (P := fun kd => fX12_where (nI kd) (nI g) (nI s) ν = some (nI (wh τ σ kd g s))) hk ?_ ?_ ?_ ?_ ?_ ?_ <;> unfold fX12_where wh
  · rfl
  · rw [if_pos (by decide), if_pos (by decide), m_load hw hS hg, hh 1 (by omega), m_hold hw hT hg]
    simp only [Option.bind_some]
    by_cases c : nI (tH τ g) < ld σ g + nI (hf 1 s)
    · rw [if_neg (Int32.not_le.mpr c), if_pos c, b1]; rfl
    · rw [if_pos (Int32.not_lt.mp c), if_neg c]
  · rfl
  · rw [if_neg (by decide), if_neg (by decide), if_pos (by decide), if_pos (by decide), m_load hw hS hg, hh 3 (by omega), m_hold hw hT hg]
    simp only [Option.bind_some]
    by_cases c : nI (tH τ g) < ld σ g + nI (hf 3 s)
    · rw [if_neg (Int32.not_le.mpr c), if_pos c, b1]; rfl
    · rw [if_pos (Int32.not_lt.mp c), if_neg c]
  · rw [if_neg (by decide), if_neg (by decide), if_neg (by decide), if_pos (by decide), if_neg (by decide), if_pos (by decide), m_below hw hT hg]
    simp only [Option.bind_some]
    cases hu : tB τ g with
    | none => rw [if_pos (show bI none = -1 from rfl)]
    | some u =>
      have := hw.2.2.2.1 g hg u hu
      rw [show bI (some u) = nI u from rfl, if_neg (m1_ne (by omega))]
  · rw [if_neg (by decide), if_neg (by decide), if_neg (by decide), if_neg (by decide), if_pos (by decide), h8v, odd_nI hv, if_neg (show ¬ (5 = 1 ∨ 5 = 3) by decide), if_neg (show ¬ 5 = 4 by decide), if_pos (show 5 = 5 from rfl)]
    have h2 : σ.2.2.1 % 2 = 0 ∨ σ.2.2.1 % 2 = 1 := by omega
    rcases h2 with h2 | h2
    · rw [h2, if_neg (by decide), if_neg (by decide)]
    · rw [h2, if_pos (by decide), if_pos rfl, b0]; rfl
theorem m_tell3 {ν : Mem} {τ : Td} {v : Nat} (hw : WT τ) (hT : MT (gA ν 99) τ) (hv : v < tV τ) : fX12_tells (nI v) 0 ν = some (nI (tK τ v)) ∧ fX12_tells (nI v) 1 ν = some (nI (tG τ v)) ∧ fX12_tells (nI v) 2 ν = some (nI (tS τ v)) := by
  have h6 := hw.2.1
  obtain ⟨e0, e1, e2⟩ := hT.2.2.2 v hv
  refine ⟨?_, ?_, ?_⟩
  · rw [show (0 : Int32) = nI 0 from rfl, m_tells (by omega) (by omega), Nat.add_zero, e0]
  · rw [show (1 : Int32) = nI 1 from rfl, m_tells (by omega) (by omega), e1]
  · rw [show (2 : Int32) = nI 2 from rfl, m_tells (by omega) (by omega), e2]
theorem m_whereBy {ν : Mem} {τ : Td} {σ : Hd} {v : Nat} (hw : WT τ) (hT : MT (gA ν 99) τ) (hS : HL ν τ σ) (h8v : gF ν 98 8 = nI σ.2.2.1) (hn : σ.2.2.1 < 2 ^ 31) (hv : v < tV τ) : fX12_whereBy (nI v) ν = some (nI (wh τ σ (tK τ v) (tG τ v) (tS τ v))) := by
  obtain ⟨e0, e1, e2⟩ := m_tell3 hw hT hv
  obtain ⟨hK, hG, -, hS9⟩ := hw.2.2.2.2 v hv
  unfold fX12_whereBy
  rw [e0, e1, e2]
  simp only [Option.bind_some]
  rw [m_where hw hT hS h8v hn hK hG hS9]
  rfl
theorem m_heavyBy {ν : Mem} {τ : Td} {v : Nat} (hw : WT τ) (hT : MT (gA ν 99) τ) (hv : v < tV τ) : fX12_heavyBy (nI v) ν = some (nI (hf (tK τ v) (tS τ v))) := by
  obtain ⟨e0, e1, e2⟩ := m_tell3 hw hT hv
  obtain ⟨hK, hG, -, hS9⟩ := hw.2.2.2.2 v hv
  unfold fX12_heavyBy
  rw [e0, e2]
  simp only [Option.bind_some]
  rw [m_heavy hK hS9]
  rfl
theorem m_goStone {ν : Mem} {τ : Td} {σ : Hd} {k : Nat} {n : Int32} (hw : WT τ) (hT : MT (gA ν 99) τ) (hS : HS ν τ σ) (hW : HW σ) (hk : k < tL τ) : ∃ ν', fX12_goStone (nI k) n ν = some (nI (bmk 0 (cdl τ (lyt σ k n))), ν') ∧ HO ν ν' ∧ HS ν' τ (cds τ (lyt σ k n)) ∧ gF ν' 98 12 = nI (bmu τ 0 (cdl τ (lyt σ k n))) := by
  have h8 := hw.1
  have o1 : HO ν (sA ν 104 (upd (gA ν 104) k (gA ν 104 k + n))) := HO.sA (Or.inr rfl)
  obtain ⟨ν2, e2, o2, h2⟩ := m_comesDown (σ := lyt σ k n) (ν := sA ν 104 (upd (gA ν 104) k (gA ν 104 k + n))) hw (by rw [HO_99 o1]; exact hT) (by
    refine ⟨fun j hj => ?_, hS.2⟩
    rw [gA_sA, if_neg (by decide), gA_sA, if_pos rfl, (hS.1 k hk).2]
    refine ⟨(hS.1 j hj).1, ?_⟩
    show _ = upd σ.2.1 k _ j
    unfold upd
    split
    · rfl
    · exact (hS.1 j hj).2) hW
  refine ⟨ν2, ?_, o1.tr o2, h2⟩
  unfold fX12_goStone
  rw [rd_nI av_l104 (by omega) (by omega)]
  simp only [Option.bind_some]
  rw [wr_nI av_l104 (by omega) (by omega)]
  simp only [Option.bind_some]
  rw [e2]
  rfl
theorem m_goVote {ν : Mem} {τ : Td} {σ : Hd} {v : Nat} (hw : WT τ) (hT : MT (gA ν 99) τ) (hS : HS ν τ σ) (hW : HW σ) (hn : σ.2.2.1 < 2 ^ 31) (hv : v < tV τ) : ∃ ν', fX12_goVote (nI v) ν = some (nI (bmk 0 (cdl τ (vth τ σ v))), ν') ∧ HO ν ν' ∧ HS ν' τ (vot τ σ v) := by
  obtain ⟨hK, hG, -, hS9⟩ := hw.2.2.2.2 v hv
  obtain ⟨ν1, e1, o1, h1, -⟩ := m_goStone (n := nI (hf (tK τ v) (tS τ v))) hw hT hS hW (wh_lt (σ := σ) (kd := tK τ v) (s := tS τ v) hw hG)
  refine ⟨sF ν1 98 8 (gF ν1 98 8 + 1), ?_, o1.tr (HO.sF (by omega)), h1.1, ?_, ?_, ?_⟩
  · unfold fX12_goVote
    rw [m_whereBy hw hT hS.1 hS.2.1 hn hv, m_heavyBy hw hT hv]
    simp only [Option.bind_some]
    rw [e1]
    rfl
  · rw [gF_sq, if_pos rfl, h1.2.1]; exact nI_1 _
  · rw [gF_sn (by decide)]; exact h1.2.2.1
  · rw [gF_sn (by decide)]; exact h1.2.2.2
theorem m_goN {τ : Td} {σ : Hd} {n : Int32} (hw : WT τ) (hW : HW σ) : ∀ (d f i : Nat) (ν : Mem), d = tL τ - i → i ≤ tL τ → d < f → MT (gA ν 99) τ → HS ν τ (snk τ σ n i) → ∃ ν', fX12_goNight_2 f n (nI i) ν = some (nI (bmk 0 (cdl τ (sno τ σ n))), ν') ∧ HO ν ν' ∧ HS ν' τ (cds τ (sno τ σ n))
  | 0, f, i, ν, hd, hi, hf, hT, hS => by
    obtain ⟨f, rfl⟩ : ∃ g, f = g + 1 := ⟨f - 1, by omega⟩
    have h8 := hw.1
    obtain rfl : i = tL τ := by omega
    obtain ⟨ν2, e2, s2, h2, -⟩ := m_comesDown (σ := sno τ σ n) hw hT hS hW
    refine ⟨ν2, ?_, s2, h2⟩
    unfold fX12_goNight_2
    rw [m_ledges hT]
    simp only [Option.bind_some]
    rw [if_pos (nI_le (by omega) (by omega)), e2]
    rfl
  | d + 1, f, i, ν, hd, hi, hf, hT, hS => by
    obtain ⟨f, rfl⟩ : ∃ g, f = g + 1 := ⟨f - 1, by omega⟩
    have h8 := hw.1
    have o1 : HO ν (sA ν 103 (upd (gA ν 103) i (gA ν 103 i + n))) := HO.sA (Or.inl rfl)
    obtain ⟨ν2, e2, s2, h2⟩ := m_goN (σ := σ) (n := n) hw hW d f (i + 1) _ (by omega) (by omega) (by omega) (by rw [HO_99 o1]; exact hT) (by
      refine ⟨fun k hk => ?_, hS.2⟩
      have hh := hS.1 k hk
      rw [gA_sA, if_pos rfl, gA_sA, if_neg (by omega)]
      refine ⟨?_, hh.2⟩
      unfold upd
      by_cases c : k = i
      · subst c
        rw [if_pos rfl, hh.1]
        show (if k < k then _ else _) + n = (if k < k + 1 then _ else _)
        rw [if_neg (by omega), if_pos (by omega)]
      · rw [if_neg c, hh.1]
        show (if k < i then _ else _) = (if k < i + 1 then _ else _)
        by_cases c2 : k < i
        · rw [if_pos c2, if_pos (by omega)]
        · rw [if_neg c2, if_neg (by omega)])
    refine ⟨ν2, ?_, o1.tr s2, h2⟩
    unfold fX12_goNight_2
    rw [m_ledges hT]
    simp only [Option.bind_some]
    rw [if_neg (nI_ge (by omega) (by omega)), rd_nI av_l103 (by omega) (by omega)]
    simp only [Option.bind_some]
    rw [wr_nI av_l103 (by omega) (by omega)]
    simp only [Option.bind_some]
    rw [nI_1]
    exact e2
theorem m_goNight {τ : Td} {σ : Hd} {n : Int32} {ν : Mem} (hw : WT τ) (hT : MT (gA ν 99) τ) (hS : HS ν τ σ) (hW : HW σ) : ∃ ν', fX12_goNight n ν = some (nI (bmk 0 (cdl τ (sno τ σ n))), ν') ∧ HO ν ν' ∧ HS ν' τ (cds τ (sno τ σ n)) := by
  refine m_goN (σ := σ) (n := n) hw hW (tL τ) av_big 0 ν (by omega) (by omega) (by have := hw.1; show _ < 1000000; omega) hT ?_
  exact ⟨fun k hk => hS.1 k hk, hS.2⟩
/-- what lies, in the reference's row -/
def MS (f : Nat → Int32) (τ : Td) (σ : Hd) : Prop := (∀ k, k < tL τ → f (7 + 4 * k + 1) = σ.1 k ∧ f (7 + 4 * k + 2) = σ.2.1 k) ∧ f 2 = nI σ.2.2.1 ∧ f 5 = σ.2.2.2.1 ∧ f 6 = σ.2.2.2.2
theorem m_layH {τ : Td} {σ : Hd} (hw : WT τ) : ∀ (d f i : Nat) (ν : Mem), d = tL τ - i → i ≤ tL τ → d < f → MT (gA ν 99) τ → MS (gA ν 99) τ σ → (∀ k, k < i → gA ν 103 k = σ.1 k ∧ gA ν 104 k = σ.2.1 k) → ∃ ν', fX12_layHand_2 f (nI i) ν = some ν' ∧ HO ν ν' ∧ HS ν' τ σ
  | 0, f, i, ν, hd, hi, hf, hT, hM, hS => by
    obtain ⟨f, rfl⟩ : ∃ g, f = g + 1 := ⟨f - 1, by omega⟩
    have h8 := hw.1
    obtain rfl : i = tL τ := by omega
    refine ⟨sF (sF (sF ν 98 8 (nI σ.2.2.1)) 98 9 σ.2.2.2.1) 98 10 σ.2.2.2.2, ?_, ((HO.sF (by omega)).tr (HO.sF (by omega))).tr (HO.sF (by omega)), hS, ?_, ?_, ?_⟩
    · unfold fX12_layHand_2
      rw [m_ledges hT]
      simp only [Option.bind_some]
      rw [if_pos (nI_le (by omega) (by omega))]
      have r : ∀ (ν1 : Mem) (k : Nat), k < 221 → rd ν1 99 (nI k) = some (gA ν1 99 k) := fun ν1 k hk => rd_nI av_l99 hk (by omega)
      rw [show (2 : Int32) = nI 2 from rfl, show (5 : Int32) = nI 5 from rfl, show (6 : Int32) = nI 6 from rfl]
      simp only [r _ 2 (by omega), r _ 5 (by omega), r _ 6 (by omega), Option.bind_some, gA_sF]
      rw [hM.2.1, hM.2.2.1, hM.2.2.2]
    · rw [gF_sn (by decide), gF_sn (by decide), gF_sq, if_pos rfl]
    · rw [gF_sn (by decide), gF_sq, if_pos rfl]
    · rw [gF_sq, if_pos rfl]
  | d + 1, f, i, ν, hd, hi, hf, hT, hM, hS => by
    obtain ⟨f, rfl⟩ : ∃ g, f = g + 1 := ⟨f - 1, by omega⟩
    have h8 := hw.1
    have o1 : HO ν (sA (sA ν 103 (upd (gA ν 103) i (σ.1 i))) 104 (upd (gA ν 104) i (σ.2.1 i))) := (HO.sA (Or.inl rfl)).tr (HO.sA (Or.inr rfl))
    obtain ⟨ν2, e2, s2, h2⟩ := m_layH (σ := σ) hw d f (i + 1) _ (by omega) (by omega) (by omega) (by rw [HO_99 o1]; exact hT) (by rw [HO_99 o1]; exact hM) (fun k hk => by
      rw [gA_sA, if_neg (by decide), gA_sA, if_pos rfl, gA_sA, if_pos rfl]
      unfold upd
      by_cases c : k = i
      · rw [if_pos c, if_pos c, c]; exact ⟨rfl, rfl⟩
      · rw [if_neg c, if_neg c]; exact hS k (by omega))
    refine ⟨ν2, ?_, o1.tr s2, h2⟩
    unfold fX12_layHand_2
    rw [m_ledges hT]
    simp only [Option.bind_some]
    rw [if_neg (nI_ge (by omega) (by omega)), show (1 : Int32) = nI 1 from rfl, show (2 : Int32) = nI 2 from rfl, m_get (by omega) (by omega), (hM.1 i (by omega)).1]
    simp only [Option.bind_some]
    rw [wr_nI av_l103 (by omega) (by omega)]
    simp only [Option.bind_some]
    rw [m_get (by omega) (by omega), gA_sA, if_neg (by decide), (hM.1 i (by omega)).2]
    simp only [Option.bind_some]
    rw [wr_nI av_l104 (by omega) (by omega)]
    simp only [Option.bind_some]
    rw [gA_sA, if_neg (by decide), nI_add]
    exact e2
theorem m_layHand {τ : Td} {σ : Hd} {ν : Mem} (hw : WT τ) (hT : MT (gA ν 99) τ) (hM : MS (gA ν 99) τ σ) : ∃ ν', fX12_layHand ν = some ν' ∧ HO ν ν' ∧ HS ν' τ σ :=
  m_layH (σ := σ) hw (tL τ) av_big 0 ν (by omega) (by omega) (by have := hw.1; show _ < 1000000; omega) hT hM (fun k hk => by omega)
