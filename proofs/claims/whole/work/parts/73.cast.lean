/-! The class's slopes: where voters set, votes, nights. -/
theorem gF_sn {μ : Mem} {q k a b : Nat} {v : Int32} (h : b ≠ k) : gF (sF μ q k v) a b = gF μ a b := by
  rw [gF_sF, if_neg h, ite_self]
/-- the least or greatest load among the first k, the first of them -/
def bl (le : Bool) (σ : Hd) : Nat → Nat
  | 0 => 0
  | k + 1 => if (match le with | true => decide (ld σ k < ld σ (bl le σ k)) | false => decide (ld σ (bl le σ k) < ld σ k)) = true then k else bl le σ k
theorem bl_lt {le : Bool} {σ : Hd} : ∀ {k : Nat}, bl le σ (k + 1) ≤ k
  | 0 => by unfold bl; split <;> simp [bl]
  | k + 1 => by
    have := @bl_lt le σ k
    cases le
    · rw [bl]; split <;> omega
    · rw [bl]; split <;> omega
theorem bl_1 {le : Bool} {σ : Hd} : bl le σ 1 = 0 := by
  have : bl le σ 1 ≤ 0 := bl_lt
  omega
def hf (kd s : Nat) : Nat := if kd = 2 ∨ kd = 5 then 2 * s else if kd = 3 then (s + 1) / 2 else s
def wh (τ : Td) (σ : Hd) (kd g s : Nat) : Nat :=
  if kd = 1 ∨ kd = 3 then (if nI (tH τ g) < ld σ g + nI (hf kd s) then bl true σ (tL τ) else g)
  else if kd = 4 then (match tB τ g with | none => g | some u => u)
  else if kd = 5 then (if σ.2.2.1 % 2 = 1 then bl false σ (tL τ) else g)
  else g
theorem wh_lt {τ : Td} {σ : Hd} {kd g s : Nat} (hw : WT τ) (hg : g < tL τ) : wh τ σ kd g s < tL τ := by
  have hb : ∀ le, bl le σ (tL τ) < tL τ := fun le => by
    have := @bl_lt le σ (tL τ - 1)
    rw [show tL τ - 1 + 1 = tL τ by omega] at this
    omega
  unfold wh
  split
  · split
    · exact hb _
    · exact hg
  · split
    · split
      · exact hg
      · rename_i u e; have := hw.2.2.2.1 g hg u e; omega
    · split
      · split
        · exact hb _
        · exact hg
      · exact hg
def lyt (σ : Hd) (k : Nat) (n : Int32) : Hd := (σ.1, upd σ.2.1 k (σ.2.1 k + n), σ.2.2)
def vth (τ : Td) (σ : Hd) (v : Nat) : Hd := lyt σ (wh τ σ (tK τ v) (tG τ v) (tS τ v)) (nI (hf (tK τ v) (tS τ v)))
def vup (σ : Hd) : Hd := (σ.1, σ.2.1, σ.2.2.1 + 1, σ.2.2.2)
def vot (τ : Td) (σ : Hd) (v : Nat) : Hd := vup (cds τ (vth τ σ v))
def sno (τ : Td) (σ : Hd) (n : Int32) : Hd := (fun k => if k < tL τ then σ.1 k + n else σ.1 k, σ.2)
theorem c_light {μ : Mem} {τ : Td} {q : Nat} {σ : Hd} (hq : SQ q) (hw : WT τ) (hT : CT μ τ) (hS : CLd μ τ q σ) : ∀ (d f i : Nat), d = tL τ - i → 1 ≤ i → i ≤ tL τ → d < f → fX7_lightest_4 f q (nI (bl true σ i)) (nI i) μ = some (nI (bl true σ (tL τ)))
  | 0, f, i, hd, h1, hi, hf => by
    obtain ⟨f, rfl⟩ : ∃ g, f = g + 1 := ⟨f - 1, by omega⟩
    have h8 := hw.1
    obtain rfl : i = tL τ := by omega
    unfold fX7_lightest_4
    rw [(SQ_f hq).1.1, hT.1, if_pos (nI_le (by omega) (by omega))]
  | d + 1, f, i, hd, h1, hi, hf => by
    obtain ⟨f, rfl⟩ : ∃ g, f = g + 1 := ⟨f - 1, by omega⟩
    have h8 := hw.1
    have hb := @bl_lt true σ (i - 1)
    rw [show i - 1 + 1 = i by omega] at hb
    have ih := c_light hq hw hT hS d f (i + 1) (by omega) (by omega) (by omega) (by omega)
    unfold fX7_lightest_4
    rw [(SQ_f hq).1.1, hT.1, if_neg (nI_ge (by omega) (by omega)), c_load hq hw hS (by omega), c_load hq hw hS (by omega)]
    simp only [Option.bind_some]
    unfold fX7_lightest_30
    simp only [Option.bind_some]
    rw [nI_1]
    have e : bl true σ (i + 1) = if ld σ i < ld σ (bl true σ i) then i else bl true σ i := by rw [bl]; simp
    rw [e] at ih
    by_cases c : ld σ i < ld σ (bl true σ i)
    · rw [if_neg (Int32.not_le.mpr c)]; rw [if_pos c] at ih; exact ih
    · rw [if_pos (Int32.not_lt.mp c)]; rw [if_neg c] at ih; exact ih
theorem c_heavi {μ : Mem} {τ : Td} {q : Nat} {σ : Hd} (hq : SQ q) (hw : WT τ) (hT : CT μ τ) (hS : CLd μ τ q σ) : ∀ (d f i : Nat), d = tL τ - i → 1 ≤ i → i ≤ tL τ → d < f → fX7_heaviest_4 f q (nI (bl false σ i)) (nI i) μ = some (nI (bl false σ (tL τ)))
  | 0, f, i, hd, h1, hi, hf => by
    obtain ⟨f, rfl⟩ : ∃ g, f = g + 1 := ⟨f - 1, by omega⟩
    have h8 := hw.1
    obtain rfl : i = tL τ := by omega
    unfold fX7_heaviest_4
    rw [(SQ_f hq).1.1, hT.1, if_pos (nI_le (by omega) (by omega))]
  | d + 1, f, i, hd, h1, hi, hf => by
    obtain ⟨f, rfl⟩ : ∃ g, f = g + 1 := ⟨f - 1, by omega⟩
    have h8 := hw.1
    have hb := @bl_lt false σ (i - 1)
    rw [show i - 1 + 1 = i by omega] at hb
    have ih := c_heavi hq hw hT hS d f (i + 1) (by omega) (by omega) (by omega) (by omega)
    unfold fX7_heaviest_4
    rw [(SQ_f hq).1.1, hT.1, if_neg (nI_ge (by omega) (by omega)), c_load hq hw hS (by omega), c_load hq hw hS (by omega)]
    simp only [Option.bind_some]
    unfold fX7_heaviest_30
    simp only [Option.bind_some]
    rw [nI_1]
    have e : bl false σ (i + 1) = if ld σ (bl false σ i) < ld σ i then i else bl false σ i := by rw [bl]; simp
    rw [e] at ih
    by_cases c : ld σ (bl false σ i) < ld σ i
    · rw [if_neg (Int32.not_le.mpr c)]; rw [if_pos c] at ih; exact ih
    · rw [if_pos (Int32.not_lt.mp c)]; rw [if_neg c] at ih; exact ih
theorem c_lightest {μ : Mem} {τ : Td} {q : Nat} {σ : Hd} (hq : SQ q) (hw : WT τ) (hT : CT μ τ) (hS : CLd μ τ q σ) (h0 : 0 < tL τ) : fX7_lightest q μ = some (nI (bl true σ (tL τ))) := by
  have h := c_light hq hw hT hS (tL τ - 1) av_big 1 rfl (by omega) (by omega) (by have := hw.1; show _ < 1000000; omega)
  rw [bl_1] at h
  exact h
theorem c_heaviest {μ : Mem} {τ : Td} {q : Nat} {σ : Hd} (hq : SQ q) (hw : WT τ) (hT : CT μ τ) (hS : CLd μ τ q σ) (h0 : 0 < tL τ) : fX7_heaviest q μ = some (nI (bl false σ (tL τ))) := by
  have h := c_heavi hq hw hT hS (tL τ - 1) av_big 1 rfl (by omega) (by omega) (by have := hw.1; show _ < 1000000; omega)
  rw [bl_1] at h
  exact h
theorem cls_k : av_cls 2 = 4 ∧ av_cls 3 = 0 ∧ av_cls 4 = 3 ∧ av_cls 5 = 6 ∧ av_cls 6 = 2 ∧ av_cls 7 = 10 := by decide +kernel
theorem k_six {P : Nat → Prop} {kd : Nat} (h : kd < 6) (h0 : P 0) (h1 : P 1) (h2 : P 2) (h3 : P 3) (h4 : P 4) (h5 : P 5) : P kd := by
  have : kd = 0 ∨ kd = 1 ∨ kd = 2 ∨ kd = 3 ∨ kd = 4 ∨ kd = 5 := by omega
  rcases this with rfl | rfl | rfl | rfl | rfl | rfl <;> assumption
theorem half_nI {s : Nat} (h : s ≤ 9) : (nI s + 1) / 2 = nI ((s + 1) / 2) := by
  rw [nI_1]; exact pk_div (a := s + 1) (d := 2) (by omega) (by omega) (by omega)
theorem two_nI (s : Nat) : 2 * nI s = nI (2 * s) := pk_mul 2 s
theorem c_heft {μ : Mem} {kd s : Nat} (hk : kd < 6) (hs : s ≤ 9) : dv_X7_75 (2 + kd) (nI s) μ = some (nI (hf kd s)) := by
  obtain ⟨k0, k1, k2, k3, k4, k5⟩ := cls_k
  refine k_six (P := fun kd => dv_X7_75 (2 + kd) (nI s) μ = some (nI (hf kd s))) hk ?_ ?_ ?_ ?_ ?_ ?_ <;> unfold dv_X7_75
  · rw [k0]; rfl
  · rw [k1]; rfl
  · rw [k2]; exact congrArg some (two_nI s)
  · rw [k3]; exact congrArg some (half_nI hs)
  · rw [k4]; rfl
  · rw [k5]; exact congrArg some (two_nI s)
theorem c_goalie {μ : Mem} {τ : Td} {q : Nat} {σ : Hd} {g : Nat} (hq : SQ q) (hw : WT τ) (hT : CT μ τ) (hg : g < tL τ) : fX9_ledgeBelow (av_rf q 0) (nI g) μ = some (bI (tB τ g)) := by
  have h8 := hw.1
  unfold fX9_ledgeBelow
  rw [(SQ_f hq).1.1, w_eq, hT.1, if_pos (ix_in hg (by omega))]
  simp only [Option.bind_some]
  rw [if_neg (by decide), av_r15_3, rd_nI av_l17 (by omega) (by omega), (hT.2.2.1 g hg).2]
  rfl
theorem odd_nI {n : Nat} (h : n < 2 ^ 31) : nI n - nI n / 2 * 2 = nI (n % 2) := pk_rem (d := 2) h (by omega) (by omega)
theorem c_place {μ : Mem} {τ : Td} {q : Nat} {σ : Hd} {kd g s : Nat} (hq : SQ q) (hw : WT τ) (hT : CT μ τ) (hS : CLd μ τ q σ) (h3 : gF μ q 3 = nI σ.2.2.1) (hv : σ.2.2.1 < 2 ^ 31) (hk : kd < 6) (hg : g < tL τ) (hs : s ≤ 9) : dv_X7_69 (2 + kd) q (nI g) (nI s) μ = some (nI (wh τ σ kd g s)) := by
  obtain ⟨k0, k1, k2, k3, k4, k5⟩ := cls_k
  have h8 := hw.1
  refine k_six (P := fun kd => dv_X7_69 (2 + kd) q (nI g) (nI s) μ = some (nI (wh τ σ kd g s))) hk ?_ ?_ ?_ ?_ ?_ ?_ <;> unfold dv_X7_69 wh
  · rw [k0]; rfl
  · rw [k1, if_neg (by decide), if_pos rfl, if_pos (by decide)]
    unfold fX0_place fX4_place dv_X0_11
    rw [k1, if_pos rfl]
    unfold fX4_heft
    simp only [Option.bind_some]
    rw [c_bears hq hw hT hS hg]
    simp only [Option.bind_some]
    rw [show hf 1 s = s from rfl]
    by_cases c : nI (tH τ g) < ld σ g + nI s
    · rw [if_pos c, if_pos rfl, if_pos c, c_lightest hq hw hT hS (by omega)]; rfl
    · rw [if_neg c, if_neg (by decide), if_neg c]
  · rw [k2]; rfl
  · rw [k3, if_neg (by decide), if_neg (by decide), if_neg (by decide), if_pos rfl, if_pos (by decide)]
    unfold fX0_place fX4_place dv_X0_11
    rw [k3, if_neg (by decide), if_pos rfl]
    unfold fX6_heft
    simp only [Option.bind_some]
    rw [half_nI hs, c_bears hq hw hT hS hg]
    simp only [Option.bind_some]
    rw [show hf 3 s = (s + 1) / 2 from rfl]
    by_cases c : nI (tH τ g) < ld σ g + nI ((s + 1) / 2)
    · rw [if_pos c, if_pos rfl, if_pos c, c_lightest hq hw hT hS (by omega)]; rfl
    · rw [if_neg c, if_neg (by decide), if_neg c]
  · rw [k4, if_neg (by decide), if_neg (by decide), if_neg (by decide), if_neg (by decide), if_pos rfl, if_neg (by decide), if_pos rfl]
    unfold fX2_place fX4_place
    simp only [Option.bind_some]
    rw [c_goalie (σ := σ) hq hw hT hg]
    simp only [Option.bind_some]
    cases hu : tB τ g with
    | none => rw [if_pos (show bI none = -1 from rfl)]
    | some u =>
      have := hw.2.2.2.1 g hg u hu
      rw [show bI (some u) = nI u from rfl, if_neg (m1_ne (by omega))]
  · rw [k5, if_neg (by decide), if_neg (by decide), if_neg (by decide), if_neg (by decide), if_neg (by decide), if_pos rfl, if_neg (by decide), if_neg (by decide), if_pos rfl]
    unfold fX10_place fX4_place
    rw [h3, odd_nI hv]
    have h2 : σ.2.2.1 % 2 = 0 ∨ σ.2.2.1 % 2 = 1 := by omega
    rcases h2 with h2 | h2
    · rw [h2, if_pos (by decide), if_neg (by decide)]; rfl
    · rw [h2, if_neg (by decide), if_pos rfl, c_heaviest hq hw hT hS (by omega)]; rfl
theorem c_kindOf {μ : Mem} {kd : Nat} (hk : kd < 6) : fX9_kindOf 15 (nI kd) μ = some (2 + kd) := by
  unfold fX9_kindOf fX9_kindOf_24
  rw [av_r15_0, av_l1, w_eq, if_pos (ix_in hk (by omega))]
  simp only [Option.bind_some]
  rw [if_neg (by decide), rdr_nI av_l1 hk (by omega)]
  simp only [Option.bind_some]
  refine k_six (P := fun kd => some (av_rf 1 kd) = some (2 + kd)) hk ?_ ?_ ?_ ?_ ?_ ?_ <;> decide +kernel
theorem c_lay {μ : Mem} {τ : Td} {q k : Nat} {σ : Hd} {n : Int32} (hq : SQ q) (hw : WT τ) (hT : CT μ τ) (hS : CS μ τ q σ) (hk : k < tL τ) : ∃ μ', fX7_lay q (nI k) n μ = some μ' ∧ SO q μ μ' ∧ CS μ' τ q (lyt σ k n) := by
  obtain ⟨⟨r0, r1, r2, -⟩, l1, l2, -, -⟩ := SQ_f hq
  have h8 := hw.1
  obtain ⟨h1, h3⟩ := hS
  unfold fX7_lay
  rw [r0, r2, w_eq, hT.1, if_pos (ix_in hk (by omega))]
  simp only [Option.bind_some]
  rw [if_neg (by decide), rd_nI l2 (by omega) (by omega)]
  simp only [Option.bind_some]
  rw [wr_nI l2 (by omega) (by omega)]
  refine ⟨_, rfl, SO.sA (Or.inr (Or.inl rfl)), ?_, h3⟩
  intro j hj
  rw [gA_sA, gA_sA, if_neg (by omega), if_pos rfl, (h1 k hk).2]
  refine ⟨(h1 j hj).1, ?_⟩
  show _ = upd σ.2.1 k _ j
  unfold upd
  split
  · rfl
  · exact (h1 j hj).2
theorem c_stone {μ : Mem} {τ : Td} {q k : Nat} {σ : Hd} {n : Int32} (hq : SQ q) (hw : WT τ) (hT : CT μ τ) (hS : CS μ τ q σ) (hk : k < tL τ) : ∃ μ', ((fX7_lay q (nI k) n μ).bind fun μ1 => fX7_comeDown q μ1) = some μ' ∧ SO q μ μ' ∧ CS μ' τ q (cds τ (lyt σ k n)) ∧ CM μ' τ q (cdl τ (lyt σ k n)) := by
  obtain ⟨μ1, e1, s1, h1⟩ := c_lay (n := n) hq hw hT hS hk
  obtain ⟨μ2, e2, s2, h2, h3⟩ := f_comeDown hq hw (SO_CT hq s1 hT) h1
  exact ⟨μ2, by rw [e1]; exact e2, s1.tr s2, h2, h3⟩
theorem c_cast {μ : Mem} {τ : Td} {q v : Nat} {σ : Hd} (hq : SQ q) (hw : WT τ) (hT : CT μ τ) (hS : CS μ τ q σ) (hv : v < tV τ) (hn : σ.2.2.1 < 2 ^ 31) : ∃ μ', fX7_cast q (nI v) μ = some μ' ∧ SO q μ μ' ∧ CS μ' τ q (vot τ σ v) ∧ CM μ' τ q (cdl τ (vth τ σ v)) := by
  obtain ⟨⟨r0, r1, r2, -⟩, l1, l2, -, -⟩ := SQ_f hq
  have h8 := hw.1
  have h6 := hw.2.1
  obtain ⟨hK, hG, hS1, hS9⟩ := hw.2.2.2.2 v hv
  obtain ⟨eK, eG, eS⟩ := hT.2.2.2 v hv
  obtain ⟨μ1, e1, s1, h1⟩ := c_lay (n := nI (hf (tK τ v) (tS τ v))) hq hw hT hS (wh_lt (σ := σ) (kd := tK τ v) (s := tS τ v) hw hG)
  obtain ⟨μ2, e2, s2, h2, h3⟩ := f_comeDown hq hw (SO_CT hq s1 hT) h1
  refine ⟨sF μ2 q 3 (gF μ2 q 3 + 1), ?_, s1.tr (s2.tr SO.sF), ⟨h2.1, ?_, ?_, ?_⟩, ?_, ?_, h3.2.2⟩
  · unfold fX7_cast
    rw [r0, w_eq, hT.2.1, if_pos (ix_in hv (by omega))]
    simp only [Option.bind_some]
    rw [if_neg (by decide), av_r15_5, av_r15_6, av_r15_7, rd_nI av_l18 (by omega) (by omega), rd_nI av_l19 (by omega) (by omega), rd_nI av_l20 (by omega) (by omega), eK, eG, eS]
    simp only [Option.bind_some]
    rw [c_kindOf hK]
    simp only [Option.bind_some]
    rw [c_place hq hw hT hS.1 hS.2.1 hn hK hG hS9, c_heft hK hS9]
    simp only [Option.bind_some]
    rw [e1]
    simp only [Option.bind_some]
    rw [e2]
    rfl
  · rw [gF_sq, if_pos rfl, h2.2.1]; exact nI_1 _
  · rw [gF_sq, if_neg (by decide)]; exact h2.2.2.1
  · rw [gF_sq, if_neg (by decide)]; exact h2.2.2.2
  · rw [gF_sq, if_neg (by decide)]; exact h3.1
  · rw [gF_sq, if_neg (by decide)]; exact h3.2.1
def snk (τ : Td) (σ : Hd) (n : Int32) (i : Nat) : Hd := (fun k => if k < i then σ.1 k + n else σ.1 k, σ.2)
theorem c_snow {τ : Td} {q : Nat} {σ : Hd} {n : Int32} (hq : SQ q) (hw : WT τ) : ∀ (d f i : Nat) (μ : Mem), d = tL τ - i → i ≤ tL τ → d < f → CT μ τ → CS μ τ q (snk τ σ n i) → ∃ μ', fX7_snowOver_2 f q n (nI i) μ = some μ' ∧ SO q μ μ' ∧ CS μ' τ q (cds τ (sno τ σ n)) ∧ CM μ' τ q (cdl τ (sno τ σ n))
  | 0, f, i, μ, hd, hi, hf, hT, hS => by
    obtain ⟨f, rfl⟩ : ∃ g, f = g + 1 := ⟨f - 1, by omega⟩
    have h8 := hw.1
    obtain rfl : i = tL τ := by omega
    obtain ⟨μ2, e2, s2, h2, h3⟩ := f_comeDown hq hw hT hS
    refine ⟨μ2, ?_, s2, h2, h3⟩
    unfold fX7_snowOver_2
    rw [(SQ_f hq).1.1, hT.1, if_pos (nI_le (by omega) (by omega)), e2]
    rfl
  | d + 1, f, i, μ, hd, hi, hf, hT, hS => by
    obtain ⟨f, rfl⟩ : ∃ g, f = g + 1 := ⟨f - 1, by omega⟩
    have h8 := hw.1
    obtain ⟨⟨r0, r1, r2, -⟩, l1, l2, -, -⟩ := SQ_f hq
    have s1 : SO q μ (sA μ (q + 1) (upd (gA μ (q + 1)) i (gA μ (q + 1) i + n))) := SO.sA (Or.inl rfl)
    obtain ⟨μ2, e2, s2, h2⟩ := c_snow (σ := σ) (n := n) hq hw d f (i + 1) _ (by omega) (by omega) (by omega) (SO_CT hq s1 hT) (by
      refine ⟨fun k hk => ?_, hS.2⟩
      have hh := hS.1 k hk
      rw [gA_sA, if_pos rfl, gA_sA, if_neg (by omega)]
      refine ⟨?_, hh.2⟩
      unfold upd
      by_cases c : k = i
      · subst c
        rw [if_pos rfl, hh.1]
        show (if k < k then _ else _) + n = (if k < k + 1 then _ else _)
        rw [if_neg (by omega), if_pos (by omega)]
      · rw [if_neg c, hh.1]
        show (if k < i then _ else _) = (if k < i + 1 then _ else _)
        by_cases c2 : k < i
        · rw [if_pos c2, if_pos (by omega)]
        · rw [if_neg c2, if_neg (by omega)])
    refine ⟨μ2, ?_, s1.tr s2, h2⟩
    unfold fX7_snowOver_2
    rw [r0, r1, hT.1, if_neg (nI_ge (by omega) (by omega)), rd_nI l1 (by omega) (by omega)]
    simp only [Option.bind_some]
    rw [wr_nI l1 (by omega) (by omega)]
    simp only [Option.bind_some]
    rw [nI_1]
    exact e2
theorem c_snowOver {τ : Td} {q : Nat} {σ : Hd} {n : Int32} {μ : Mem} (hq : SQ q) (hw : WT τ) (hT : CT μ τ) (hS : CS μ τ q σ) : ∃ μ', fX7_snowOver q n μ = some μ' ∧ SO q μ μ' ∧ CS μ' τ q (cds τ (sno τ σ n)) ∧ CM μ' τ q (cdl τ (sno τ σ n)) := by
  refine c_snow (σ := σ) (n := n) hq hw (tL τ) av_big 0 μ (by omega) (by omega) (by have := hw.1; show _ < 1000000; omega) hT ?_
  refine ⟨fun k hk => ?_, hS.2⟩
  exact hS.1 k hk
theorem cpy_8 {μ : Mem} {a b : Nat} (ha : av_ln a = 8) (hb : av_ln b = 8) : cpy μ a 0 b 0 8 = some (sA μ b (va_cpy (gA μ a) (gA μ b) 0 0 8)) := by
  unfold cpy
  rw [ha, hb]
  rfl
theorem c_copy {μ : Mem} {τ : Td} {q p : Nat} {σ : Hd} (hq : SQ q) (hp : SQ p) (hw : WT τ) (hqp : q = p ∨ q + 4 ≤ p ∨ p + 4 ≤ q) (hS : CS μ τ p σ) : ∃ μ', fX7_copyFrom q p μ = some μ' ∧ SO q μ μ' ∧ CS μ' τ q σ := by
  obtain ⟨⟨r0, r1, r2, -⟩, l1, l2, -, -⟩ := SQ_f hq
  obtain ⟨⟨p0, p1, p2, -⟩, m1, m2, -, -⟩ := SQ_f hp
  have h8 := hw.1
  obtain ⟨h1, h3, h4, h5⟩ := hS
  unfold fX7_copyFrom
  rw [p1, p2, r1, r2, cpy_8 m1 l1]
  simp only [Option.bind_some]
  rw [cpy_8 m2 l2]
  simp only [Option.bind_some]
  refine ⟨_, rfl, ((((SO.sA (Or.inl rfl)).tr (SO.sA (Or.inr (Or.inl rfl)))).tr SO.sF).tr SO.sF).tr SO.sF, ?_, ?_, ?_, ?_⟩
  · intro k hk
    rw [gA_sF, gA_sF, gA_sF, gA_sA, if_neg (by omega), gA_sA, if_pos rfl, gA_sA, if_pos rfl, gA_sA, if_neg (by omega), gA_sA, if_neg (by omega)]
    rw [pk_cpy_in (by omega) (by omega), pk_cpy_in (by omega) (by omega), Nat.zero_add, Nat.sub_zero]
    exact h1 k hk
  · rw [gF_sq, if_neg (by decide), gF_sq, if_neg (by decide), gF_sq, if_pos rfl]; exact h3
  · rw [gF_sn (by decide), gF_sq, if_pos rfl, gF_sn (by decide), gF_sA, gF_sA]; exact h4
  · rw [gF_sq, if_pos rfl, gF_sn (by decide), gF_sn (by decide), gF_sA, gF_sA]; exact h5
theorem c_fresh {μ : Mem} {τ : Td} {σ : Hd} (hw : WT τ) (hS : CS μ τ 21 σ) : ∃ μ', fX1_fresh μ = some (70, μ') ∧ SO 70 μ μ' ∧ CS μ' τ 70 σ := by
  obtain ⟨μ', e, s, h⟩ := c_copy (q := 70) (p := 21) (Or.inr (Or.inl rfl)) (Or.inl rfl) hw (by omega) hS
  refine ⟨μ', ?_, s, h⟩
  unfold fX1_fresh
  have e0 : rdr 12 0 = some 70 := by decide +kernel
  rw [e0]
  simp only [Option.bind_some]
  rw [e]
  rfl
theorem c_hasbit {μ : Mem} {l : List Nat} {k : Nat} (hl : ∀ k, k ∈ l → k < 8) (hk : k < 8) : fX11_hasBit (nI (bmk 0 l)) (nI k) μ = some (if k ∈ l then 1 else 0) := by
  have hm := bmk_lt (l := l) (s := 0) (by decide) hl
  have hb : (bmk 0 l).testBit k = decide (k ∈ l) := by rw [bmk_mem]; simp
  unfold fX11_hasBit
  by_cases c : k ∈ l
  · rw [if_neg (fun h => by rw [(has_bit hm hk).1, hb] at h; simp [c] at h), if_pos c]
  · rw [if_pos ((has_bit hm hk).1.mpr (by rw [hb]; simpa using c)), if_neg c]
theorem c_ahead {μ : Mem} {τ : Td} {q : Nat} {l : List Nat} {k j : Nat} (hq : SQ q) (hl : ∀ k, k ∈ l → k < 8) (hM : CM μ τ q l) (hk : k < 8) (hj : j < 8) (hkj : k ≠ j) : fX7_fellAhead q (nI k) (nI j) μ = some (if fa l k j then 1 else 0) := by
  obtain ⟨⟨r0, r1, r2, r8⟩, l1, l2, l3, -⟩ := SQ_f hq
  obtain ⟨h6, -, tn, ⟨t1, t2⟩, ht⟩ := hM
  have hp := pc_le (bmk_lt (l := l) (s := 0) (by decide) hl)
  have hiff := t2 k j hk hj hkj
  unfold fX7_fellAhead fX7_fellAhead_41 fX7_fellAhead_37
  rw [h6, c_hasbit hl hk, c_hasbit hl hj]
  simp only [Option.bind_some]
  by_cases c1 : k ∈ l
  · rw [if_pos c1, if_neg (by decide)]
    by_cases c2 : j ∈ l
    · rw [if_pos c2, if_neg (by decide), r8, rd_nI l3 hk (by omega), rd_nI l3 hj (by omega)]
      simp only [Option.bind_some]
      have a1 := t1 k hk c1
      have a2 := t1 j hj c2
      rw [ht k hk c1, ht j hj c2]
      by_cases c3 : tn k < tn j
      · rw [if_neg (nI_ge c3 (by omega)), if_pos (hiff.mpr ⟨c1, fun _ => c3⟩)]
      · rw [if_pos (nI_le (by omega) (by omega)), if_neg (fun h => c3 ((hiff.mp h).2 c2))]
    · rw [if_neg c2, if_pos rfl, if_pos (hiff.mpr ⟨c1, fun h => absurd h c2⟩)]
  · rw [if_neg c1, if_pos rfl, if_neg (fun h => c1 (hiff.mp h).1)]
