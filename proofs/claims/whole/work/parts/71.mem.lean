/-! Memory, and the class's slopes: what comes down there. -/
theorem gF_sF (μ : Mem) (q k : Nat) (v : Int32) (a b : Nat) : gF (sF μ q k v) a b = if a = q then (if b = k then v else gF μ a b) else gF μ a b := rfl
theorem gF_sq (μ : Mem) (q k : Nat) (v : Int32) (b : Nat) : gF (sF μ q k v) q b = if b = k then v else gF μ q b := by
  rw [gF_sF, if_pos rfl]
theorem gA_sF (μ : Mem) (q k : Nat) (v : Int32) : gA (sF μ q k v) = gA μ := rfl
theorem gL_sF (μ : Mem) (q k : Nat) (v : Int32) : gL (sF μ q k v) = gL μ := rfl
theorem gA_sA (μ : Mem) (q : Nat) (f : Nat → Int32) (a : Nat) : gA (sA μ q f) a = if a = q then f else gA μ a := rfl
theorem gF_sA (μ : Mem) (q : Nat) (f : Nat → Int32) : gF (sA μ q f) = gF μ := rfl
theorem gL_sA (μ : Mem) (q : Nat) (f : Nat → Int32) : gL (sA μ q f) = gL μ := rfl
theorem gF_sL (μ : Mem) (q k : Nat) (v : Int64) : gF (sL μ q k v) = gF μ := rfl
theorem gA_sL (μ : Mem) (q k : Nat) (v : Int64) : gA (sL μ q k v) = gA μ := rfl
theorem gL_sL (μ : Mem) (q k : Nat) (v : Int64) (a b : Nat) : gL (sL μ q k v) a b = if a = q then (if b = k then v else gL μ a b) else gL μ a b := rfl
theorem nI_in_not {k n : Nat} (h : k < n) (hn : n < 2 ^ 31) : ¬ (nI k < 0 ∨ n ≤ (nI k).toNatClampNeg) := nI_in h hn
theorem rd_nI {μ : Mem} {q k n : Nat} (hn : av_ln q = n) (h : k < n) (hb : n ≤ 1000) : rd μ q (nI k) = some (gA μ q k) := by
  unfold rd
  rw [hn, if_neg (nI_in_not h (by omega)), nI_clamp (by omega)]
theorem wr_nI {μ : Mem} {q k n : Nat} {v : Int32} (hn : av_ln q = n) (h : k < n) (hb : n ≤ 1000) : wr μ q (nI k) v = some (sA μ q (upd (gA μ q) k v)) := by
  unfold wr
  rw [hn, if_neg (nI_in_not h (by omega)), nI_clamp (by omega)]
theorem rdr_nI {q k n : Nat} (hn : av_ln q = n) (h : k < n) (hb : n ≤ 1000) : rdr q (nI k) = some (av_rf q k) := by
  unfold rdr
  rw [hn, if_neg (nI_in_not h (by omega)), nI_clamp (by omega)]
theorem m1_ne {k : Nat} (h : k < 1000) : ¬ nI k = -1 := by
  intro e
  have h1 := congrArg Int32.toInt e
  rw [nI_toInt (by omega)] at h1
  have h2 : (-1 : Int32).toInt = -1 := by decide
  omega
theorem w_eq (a b c : Int32) (μ : Mem) : fX11_within a b c μ = some (if b ≤ a ∧ a ≤ c then 1 else 0) := by
  unfold fX11_within fX11_within_14
  by_cases h1 : a < b
  · rw [if_pos h1, if_neg (fun h => absurd h1 (Int32.not_lt.mpr h.1))]
  · rw [if_neg h1]
    by_cases h2 : c < a
    · rw [if_pos h2, if_neg (fun h => absurd h2 (Int32.not_lt.mpr h.2))]
    · rw [if_neg h2, if_pos ⟨Int32.not_lt.mp h1, Int32.not_lt.mp h2⟩]
theorem sub1_toInt {n : Nat} (h : n < 2 ^ 30) : (nI n - 1 : Int32).toInt = (n : Int) - 1 := pk_sub_toInt (a := n) (b := 1) h (by decide)
theorem ix_in {j n : Nat} (h : j < n) (hn : n ≤ 1000) : (0 : Int32) ≤ nI j ∧ nI j ≤ nI n - 1 := by
  refine ⟨nI_pos' (by omega), ?_⟩
  rw [Int32.le_iff_toInt_le, sub1_toInt (by omega), nI_toInt (by omega)]
  omega
theorem ix_out {a : Int32} {n : Nat} (hn : n ≤ 1000) (h : (0 : Int32) ≤ a ∧ a ≤ nI n - 1) : ∃ j, j < n ∧ a = nI j := by
  obtain ⟨h1, h2⟩ := h
  rw [Int32.le_iff_toInt_le] at h1 h2
  rw [sub1_toInt (by omega)] at h2
  have h0 : (0 : Int32).toInt = 0 := by decide
  rw [h0] at h1
  refine ⟨a.toInt.toNat, by omega, ?_⟩
  apply Int32.toInt_inj.mp
  rw [nI_toInt (by omega)]
  omega
theorem ix_m1 {n : Nat} : ¬ ((0 : Int32) ≤ -1 ∧ (-1 : Int32) ≤ nI n - 1) := fun h => absurd h.1 (by decide)
def bI : Option Nat → Int32
  | none => -1
  | some j => nI j
def SQ (q : Nat) : Prop := q = 21 ∨ q = 70 ∨ q = 74 ∨ q = 78 ∨ q = 82 ∨ q = 86 ∨ q = 90 ∨ q = 94
theorem SQ_f {q : Nat} (h : SQ q) : (av_rf q 0 = 15 ∧ av_rf q 1 = q + 1 ∧ av_rf q 2 = q + 2 ∧ av_rf q 8 = q + 3) ∧ av_ln (q + 1) = 8 ∧ av_ln (q + 2) = 8 ∧ av_ln (q + 3) = 8 ∧ 21 ≤ q := by
  rcases h with rfl | rfl | rfl | rfl | rfl | rfl | rfl | rfl <;> decide +kernel
def CT (μ : Mem) (τ : Td) : Prop := gF μ 15 1 = nI (tL τ) ∧ gF μ 15 4 = nI (tV τ) ∧ (∀ k, k < tL τ → gA μ 16 k = nI (tH τ k) ∧ gA μ 17 k = bI (tB τ k)) ∧ (∀ v, v < tV τ → gA μ 18 v = nI (tK τ v) ∧ gA μ 19 v = nI (tG τ v) ∧ gA μ 20 v = nI (tS τ v))
def CLd (μ : Mem) (τ : Td) (q : Nat) (σ : Hd) : Prop := ∀ k, k < tL τ → gA μ (q + 1) k = σ.1 k ∧ gA μ (q + 2) k = σ.2.1 k
/-- all but the slope q stays -/
def SO (q : Nat) (μ μ' : Mem) : Prop := (∀ a k, a ≠ q → gF μ' a k = gF μ a k) ∧ gL μ' = gL μ ∧ (∀ a, a ≠ q + 1 → a ≠ q + 2 → a ≠ q + 3 → gA μ' a = gA μ a)
theorem SO.rf {q : Nat} {μ : Mem} : SO q μ μ := ⟨fun _ _ _ => rfl, rfl, fun _ _ _ _ => rfl⟩
theorem SO.tr {q : Nat} {μ μ1 μ2 : Mem} (h1 : SO q μ μ1) (h2 : SO q μ1 μ2) : SO q μ μ2 := ⟨fun a k h => (h2.1 a k h).trans (h1.1 a k h), h2.2.1.trans h1.2.1, fun a g1 g2 g3 => (h2.2.2 a g1 g2 g3).trans (h1.2.2 a g1 g2 g3)⟩
theorem SO_CT {q : Nat} {μ μ' : Mem} {τ : Td} (hq : SQ q) (h : SO q μ μ') (hT : CT μ τ) : CT μ' τ := by
  have h21 := (SQ_f hq).2.2.2.2
  have e1 : ∀ k, gF μ' 15 k = gF μ 15 k := fun k => h.1 15 k (by omega)
  have e2 : ∀ a, a ≤ 20 → gA μ' a = gA μ a := fun a ha => h.2.2 a (by omega) (by omega) (by omega)
  unfold CT at hT ⊢
  rw [e1, e1, e2 16 (by omega), e2 17 (by omega), e2 18 (by omega), e2 19 (by omega), e2 20 (by omega)]
  exact hT
theorem SO.sF {q k : Nat} {μ : Mem} {v : Int32} : SO q μ (sF μ q k v) := ⟨fun a b h => by rw [gF_sF, if_neg h], rfl, fun _ _ _ _ => rfl⟩
theorem SO.sA {q : Nat} {μ : Mem} {f : Nat → Int32} {b : Nat} (hb : b = q + 1 ∨ b = q + 2 ∨ b = q + 3) : SO q μ (sA μ b f) := ⟨fun _ _ _ => rfl, rfl, fun a h1 h2 h3 => by rw [gA_sA, if_neg (by omega)]⟩
def CE (μ : Mem) (τ : Td) (q : Nat) (σ : Hd) (w : Int32) (m cv : Nat) (tn : Nat → Nat) : Prop := CLd μ τ q σ ∧ gF μ q 4 = w ∧ gF μ q 6 = nI m ∧ gF μ q 7 = nI cv ∧ ∀ k, k < 8 → m.testBit k = true → gA μ (q + 3) k = nI (tn k)
def pc8 (m : Nat) : Nat := (if m.testBit 0 then 1 else 0) + (if m.testBit 1 then 1 else 0) + (if m.testBit 2 then 1 else 0) + (if m.testBit 3 then 1 else 0) + (if m.testBit 4 then 1 else 0) + (if m.testBit 5 then 1 else 0) + (if m.testBit 6 then 1 else 0) + (if m.testBit 7 then 1 else 0)
theorem bc_eq {m : Nat} (hm : m < 256) (μ : Mem) : fJ6_bitCount_0f7a4 (nI m) μ = some (nI (pc8 m)) := by
  have hd : ∀ m, m < 256 → fJ6_bitCount_0f7a4 (nI m) ct_mc = some (nI (pc8 m)) := by decide +kernel
  exact hd m hm
def wst (w : Int32) (l : List Nat) : Int32 := if w = -1 then (match l with | [] => -1 | k :: _ => nI k) else w
def tnx (m : Nat) (tn : Nat → Nat) (k : Nat) : Nat → Nat := if m.testBit k then tn else fun j => if j = k then pc8 m else tn j
theorem c_load {μ : Mem} {τ : Td} {q k : Nat} {σ : Hd} (hq : SQ q) (hw : WT τ) (hS : CLd μ τ q σ) (hk : k < tL τ) : fX7_loadOf q (nI k) μ = some (ld σ k) := by
  obtain ⟨⟨-, r1, r2, -⟩, l1, l2, -⟩ := SQ_f hq
  have h8 := hw.1
  unfold fX7_loadOf
  rw [r1, r2, rd_nI l1 (by omega) (by omega), rd_nI l2 (by omega) (by omega)]
  simp only [Option.bind_some]
  rw [(hS k hk).1, (hS k hk).2]
  rfl
theorem c_bears {μ : Mem} {τ : Td} {q k : Nat} {σ : Hd} (hq : SQ q) (hw : WT τ) (hT : CT μ τ) (hS : CLd μ τ q σ) (hk : k < tL τ) (n : Int32) : fX7_bears q (nI k) n μ = some (if nI (tH τ k) < ld σ k + n then 0 else 1) := by
  obtain ⟨⟨r0, -⟩, -⟩ := SQ_f hq
  have h8 := hw.1
  unfold fX7_bears fX7_bears_36
  rw [r0, w_eq, hT.1, if_pos (ix_in hk (by omega))]
  simp only [Option.bind_some]
  rw [if_neg (by decide), c_load hq hw hS hk]
  simp only [Option.bind_some]
  rw [av_r15_2, rd_nI av_l16 (by omega) (by omega), (hT.2.2.1 k hk).1]
  simp only [Option.bind_some]
  split <;> rfl
theorem c_bears_none {μ : Mem} {q : Nat} (n : Int32) : fX7_bears q (-1) n μ = some 1 := by
  unfold fX7_bears fX7_bears_36
  rw [w_eq, if_neg (fun h => absurd h.1 (by decide))]
  rfl
theorem c_drop {μ : Mem} {τ : Td} {q k m cv : Nat} {σ : Hd} {w : Int32} {tn : Nat → Nat} (hq : SQ q) (hw : WT τ) (hT : CT μ τ) (hE : CE μ τ q σ w m cv tn) (hk : k < tL τ) (hm : m < 256) (hcv : cv < 256) :
    ∃ μ', fX7_drop q (nI k) μ = some (bI (tB τ k), μ') ∧ SO q μ μ' ∧ gF μ' q 3 = gF μ q 3 ∧ gF μ' q 5 = gF μ q 5 ∧ CE μ' τ q (drp τ σ k) (wst w [k]) (m ||| 2 ^ k) (bmu τ cv [k]) (tnx m tn k) := by
  obtain ⟨⟨r0, r1, r2, r8⟩, l1, l2, l3, h21⟩ := SQ_f hq
  have h8 := hw.1
  obtain ⟨hL, hwn, hf, hc, htn⟩ := hE
  -- the winner
  obtain ⟨μ1, e1, s1, f3, f5, hE1⟩ : ∃ μ1, fX7_drop q (nI k) μ = fX7_drop_13 q (nI k) μ1 ∧ SO q μ μ1 ∧ gF μ1 q 3 = gF μ q 3 ∧ gF μ1 q 5 = gF μ q 5 ∧ CE μ1 τ q σ (wst w [k]) m cv tn := by
    unfold fX7_drop
    by_cases cw : gF μ q 4 = -1
    · rw [if_pos cw]
      refine ⟨sF μ q 4 (nI k), rfl, SO.sF, by rw [gF_sF]; simp, by rw [gF_sF]; simp, hL, ?_, ?_, ?_, htn⟩
      · rw [gF_sF]; simp only [if_pos]; unfold wst; rw [if_pos (by rw [← hwn]; exact cw)]
      · rw [gF_sF]; simpa using hf
      · rw [gF_sF]; simpa using hc
    · rw [if_neg cw]
      refine ⟨μ, rfl, SO.rf, rfl, rfl, hL, ?_, hf, hc, htn⟩
      unfold wst
      rw [if_neg (by rw [← hwn]; exact cw)]
      exact hwn
  obtain ⟨hL1, hw1, hf1, hc1, ht1⟩ := hE1
  have hT1 := SO_CT hq s1 hT
  -- the turn
  obtain ⟨μ2, e2, s2, g3, g5, hE2⟩ : ∃ μ2, fX7_drop_13 q (nI k) μ1 = fX7_drop_49 q (nI k) μ2 ∧ SO q μ1 μ2 ∧ gF μ2 q 3 = gF μ1 q 3 ∧ gF μ2 q 5 = gF μ1 q 5 ∧ CE μ2 τ q σ (wst w [k]) (m ||| 2 ^ k) cv (tnx m tn k) := by
    unfold fX7_drop_13 fX11_hasBit
    rw [hf1]
    have hb := (has_bit hm (show k < 8 by omega)).1
    by_cases cb : m.testBit k = true
    · rw [if_neg (fun h => by rw [hb.mp h] at cb; cases cb)]
      simp only [Option.bind_some]
      rw [if_neg (by decide)]
      refine ⟨μ1, rfl, SO.rf, rfl, rfl, hL1, hw1, ?_, hc1, ?_⟩
      · rw [or_has hm (by omega) cb]; exact hf1
      · rw [or_has hm (by omega) cb]; unfold tnx; rw [if_pos cb]; exact ht1
    · have cf : m.testBit k = false := by simpa using cb
      rw [if_pos (hb.mpr cf)]
      simp only [Option.bind_some, if_true]
      rw [bc_eq hm, r8]
      simp only [Option.bind_some]
      rw [wr_nI l3 (by omega) (by omega)]
      simp only [Option.bind_some]
      refine ⟨_, rfl, (SO.sA (Or.inr (Or.inr rfl))).tr SO.sF, by rw [gF_sF]; simp [gF_sA], by rw [gF_sF]; simp [gF_sA], ?_, ?_, ?_, ?_, ?_⟩
      · intro j hj
        rw [gA_sF, gA_sA, gA_sA, if_neg (by omega), if_neg (by omega)]
        exact hL1 j hj
      · rw [gF_sF, gF_sA]; simpa using hw1
      · rw [gF_sF, gF_sA, hf1]; simp only [if_pos]; exact nI_bit hm (by omega)
      · rw [gF_sF, gF_sA]; simpa using hc1
      · intro j hj hjb
        rw [gA_sF, gA_sA, if_pos rfl]
        unfold tnx
        rw [if_neg cb]
        unfold upd
        by_cases hjk : j = k
        · simp only [if_pos hjk]
        · simp only [if_neg hjk]
          refine ht1 j hj ?_
          have hx : ∀ m, m < 256 → ∀ k, k < 8 → ∀ j, j < 8 → j ≠ k → (m ||| 2 ^ k).testBit j = m.testBit j := by decide +kernel
          rw [hx m hm k (by omega) j hj hjk] at hjb
          exact hjb
  obtain ⟨hL2, hw2, hf2, hc2, ht2⟩ := hE2
  have hT2 := SO_CT hq s2 hT1
  -- what lies
  have hB := (hT2.2.2.1 k hk).2
  have fin : ∀ μ3 : Mem, CLd μ3 τ q (match tB τ k with | none => σ | some u => (upd σ.1 u (σ.1 u + ld σ k), σ.2)) → SO q μ2 μ3 → gF μ3 q 3 = gF μ2 q 3 → gF μ3 q 5 = gF μ2 q 5 → gF μ3 q 4 = wst w [k] → gF μ3 q 6 = nI (m ||| 2 ^ k) → gF μ3 q 7 = nI (bmu τ cv [k]) → gA μ3 (q + 3) = gA μ2 (q + 3) → fX7_drop_49 q (nI k) μ2 = fX7_drop_90 q (nI k) (bI (tB τ k)) μ3 → ∃ μ', fX7_drop q (nI k) μ = some (bI (tB τ k), μ') ∧ SO q μ μ' ∧ gF μ' q 3 = gF μ q 3 ∧ gF μ' q 5 = gF μ q 5 ∧ CE μ' τ q (drp τ σ k) (wst w [k]) (m ||| 2 ^ k) (bmu τ cv [k]) (tnx m tn k) := by
    intro μ3 hL3 s3 k3 k5 k4 k6 k7 kt e3
    rw [e1, e2, e3]
    unfold fX7_drop_90
    rw [r1, r2, wr_nI l1 (by omega) (by omega)]
    simp only [Option.bind_some]
    rw [wr_nI l2 (by omega) (by omega)]
    simp only [Option.bind_some]
    refine ⟨_, rfl, s1.tr (s2.tr (s3.tr ((SO.sA (Or.inl rfl)).tr (SO.sA (Or.inr (Or.inl rfl)))))), ?_, ?_, ?_, ?_, ?_, ?_, ?_⟩
    · rw [gF_sA, gF_sA, k3, g3, f3]
    · rw [gF_sA, gF_sA, k5, g5, f5]
    · intro j hj
      have z1 : ∀ (ν : Mem) (f g : Nat → Int32), gA (sA (sA ν (q + 1) f) (q + 2) g) (q + 1) = f := fun ν f g => by rw [gA_sA, if_neg (by omega), gA_sA, if_pos rfl]
      have z2 : ∀ (ν : Mem) (f g : Nat → Int32), gA (sA (sA ν (q + 1) f) (q + 2) g) (q + 2) = g := fun ν f g => by rw [gA_sA, if_pos rfl]
      have z3 : ∀ (ν : Mem) (f : Nat → Int32), gA (sA ν (q + 1) f) (q + 2) = gA ν (q + 2) := fun ν f => by rw [gA_sA, if_neg (by omega)]
      rw [z1, z2, z3]
      have hj3 := hL3 j hj
      unfold drp
      split at hj3
      · rename_i e; rw [e]; dsimp only; unfold upd; split
        · exact ⟨rfl, rfl⟩
        · exact hj3
      · rename_i u e; rw [e]; dsimp only; unfold upd; unfold upd at hj3; split
        · exact ⟨rfl, rfl⟩
        · exact hj3
    · rw [gF_sA, gF_sA]; exact k4
    · rw [gF_sA, gF_sA]; exact k6
    · rw [gF_sA, gF_sA]; exact k7
    · intro j hj hjb
      rw [gA_sA, if_neg (by omega), gA_sA, if_neg (by omega), kt]
      exact ht2 j hj hjb
  have e49 : fX7_drop_49 q (nI k) μ2 = if bI (tB τ k) = -1 then fX7_drop_90 q (nI k) (bI (tB τ k)) μ2 else (rd μ2 (q + 1) (bI (tB τ k))).bind fun r70 => (fX7_loadOf q (nI k) μ2).bind fun r73 => (wr μ2 (q + 1) (bI (tB τ k)) (r70 + r73)).bind fun μ77 => fX7_drop_90 q (nI k) (bI (tB τ k)) (sF μ77 q 7 ((gF μ77 q 7) ||| (1 <<< ((bI (tB τ k)) &&& 31)))) := by
    unfold fX7_drop_49
    rw [r0, r1, av_r15_3, rd_nI av_l17 (by omega) (by omega), hB]
    rfl
  cases hu : tB τ k with
  | none =>
    rw [hu] at fin e49
    refine fin μ2 hL2 SO.rf rfl rfl hw2 hf2 ?_ rfl ?_
    · unfold bmu; simp only [List.foldl_cons, List.foldl_nil, hu]; exact hc2
    · rw [e49, if_pos (show bI none = -1 from rfl)]
  | some u =>
    have huk := hw.2.2.2.1 k hk u hu
    rw [hu] at fin e49
    have eL : fX7_loadOf q (nI k) μ2 = some (ld σ k) := c_load hq hw hL2 hk
    have e3 : fX7_drop_49 q (nI k) μ2 = fX7_drop_90 q (nI k) (nI u) (sF (sA μ2 (q + 1) (upd (gA μ2 (q + 1)) u (σ.1 u + ld σ k))) q 7 (nI cv ||| (1 <<< (nI u &&& 31)))) := by
      rw [e49, show bI (some u) = nI u from rfl, if_neg (m1_ne (by omega)), rd_nI l1 (by omega) (by omega)]
      simp only [Option.bind_some]
      rw [eL]
      simp only [Option.bind_some]
      rw [wr_nI l1 (by omega) (by omega)]
      simp only [Option.bind_some]
      rw [(hL2 u (by omega)).1, gF_sA, hc2]
    refine fin _ ?_ ((SO.sA (Or.inl rfl)).tr SO.sF) (by rw [gF_sF, gF_sA]; simp) (by rw [gF_sF, gF_sA]; simp) (by rw [gF_sF, gF_sA]; simpa using hw2) (by rw [gF_sF, gF_sA]; simpa using hf2) ?_ (by rw [gA_sF, gA_sA, if_neg (by omega)]) e3
    · intro j hj
      rw [gA_sF, gA_sA, gA_sA, if_pos rfl, if_neg (by omega)]
      dsimp only
      unfold upd
      split
      · rename_i hju; exact ⟨rfl, (hL2 j hj).2⟩
      · exact hL2 j hj
    · rw [gF_sF]; simp only [if_pos]
      unfold bmu; simp only [List.foldl_cons, List.foldl_nil, hu]
      exact nI_bit hcv (by omega)
