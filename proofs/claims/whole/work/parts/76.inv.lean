/-! The invariant of both worlds. -/
abbrev Sd : Type := Td × Hd × Nat × (Nat → Nat) × (Nat → Nat) × Nat × (Nat → Hd)
def zT (z : Sd) : Td := z.1
def zH (z : Sd) : Hd := z.2.1
def zN (z : Sd) : Nat := z.2.2.1
def zV (z : Sd) : Nat → Nat := z.2.2.2.1
def zB (z : Sd) : Nat → Nat := z.2.2.2.2.1
def zP (z : Sd) : Nat := z.2.2.2.2.2.1
def zQ (z : Sd) : Nat → Hd := z.2.2.2.2.2.2
def CTb (b : Nat) (μ : Mem) (τ : Td) : Prop := gF μ (b + 1) 1 = nI (tL τ) ∧ gF μ (b + 1) 4 = nI (tV τ) ∧ (∀ k, k < tL τ → gA μ (b + 2) k = nI (tH τ k) ∧ gA μ (b + 3) k = bI (tB τ k)) ∧ (∀ v, v < tV τ → gA μ (b + 4) v = nI (tK τ v) ∧ gA μ (b + 5) v = nI (tG τ v) ∧ gA μ (b + 6) v = nI (tS τ v))
/-- a kept slope in a row -/
def CP (f : Nat → Int32) (o : Nat) (τ : Td) (σ : Hd) : Prop := (∀ k, k < tL τ → f (o + k) = σ.1 k ∧ f (o + 8 + k) = σ.2.1 k) ∧ f (o + 16) = nI σ.2.2.1 ∧ f (o + 17) = σ.2.2.2.1 ∧ f (o + 18) = σ.2.2.2.2
def CR (b : Nat) (μ : Mem) (z : Sd) : Prop := CTb b μ (zT z) ∧ CS μ (zT z) (b + 7) (zH z) ∧ (gF μ b 6 = nI (zN z) ∧ ∀ i, i < zN z → gA μ (b + 12) i = nI (zV z i) ∧ gA μ (b + 13) i = nI (zB z i)) ∧ gF μ b 3 = nI (zP z) ∧ ∀ p, p < zP z → CP (gA μ (b + 11)) (19 * p) (zT z) (zQ z p)
def MR (f : Nat → Int32) (z : Sd) : Prop := MT f (zT z) ∧ MS f (zT z) (zH z) ∧ (f 3 = nI (zN z) ∧ ∀ i, i < zN z → f (57 + 2 * i) = nI (zV z i) ∧ f (57 + 2 * i + 1) = nI (zB z i)) ∧ f 4 = nI (zP z) ∧ ∀ p, p < zP z → CP f (69 + 19 * p) (zT z) (zQ z p)
def WZ (i : Nat) (z : Sd) : Prop := WT (zT z) ∧ HW (zH z) ∧ (zH z).2.2.1 ≤ i ∧ (zN z ≤ 6 ∧ ∀ j, j < zN z → zV z j ≤ 99 ∧ zB z j ≤ 1) ∧ zP z ≤ 8 ∧ ∀ p, p < zP z → HW (zQ z p) ∧ (zQ z p).2.2.1 ≤ i
def IZ (i : Nat) (μ ν : Mem) : Prop := ∃ z, WZ i z ∧ CR 14 μ z ∧ MR (gA ν 99) z
def II (i : Nat) (μ ν : Mem) : Prop := ∃ m, m < 4 ∧ gF μ 0 3 = nI m ∧ ∀ j, j < 2 → gA ν 101 j = (if m.testBit j then 1 else 0) ∧ (m.testBit j = true → ∃ z, WZ i z ∧ CR (42 + 14 * j) μ z ∧ MR (fun k => gA ν 100 (221 * j + k)) z)
def IX (μ ν : Mem) : Prop := ∃ n, n ≤ 150 ∧ gF μ 9 1 = nI n ∧ gF ν 98 22 = nI n ∧ ∀ k, k < n → ∃ c, c < 128 ∧ gA μ 10 k = nI c ∧ gA ν 111 k = nI c
def IF (μ ν : Mem) : Prop := gL μ 0 6 = gL ν 98 4 ∧ gL μ 0 7 = gL ν 98 5
def IR (μ ν : Mem) : Prop := gF μ 0 8 = gA ν 102 0 ∧ gF μ 0 9 = gA ν 102 1 ∧ gF μ 0 10 = gA ν 102 2
def Iv (i : Nat) (μ ν : Mem) : Prop := IZ i μ ν ∧ II i μ ν ∧ IX μ ν ∧ IF μ ν ∧ IR μ ν
theorem WZ_mono {i j : Nat} {z : Sd} (h : i ≤ j) (hz : WZ i z) : WZ j z := ⟨hz.1, hz.2.1, by have := hz.2.2.1; omega, hz.2.2.2.1, hz.2.2.2.2.1, fun p hp => ⟨(hz.2.2.2.2.2 p hp).1, by have := (hz.2.2.2.2.2 p hp).2; omega⟩⟩
theorem IZ_mono {i j : Nat} {μ ν : Mem} (h : i ≤ j) (hz : IZ i μ ν) : IZ j μ ν := by
  obtain ⟨z, h1, h2⟩ := hz
  exact ⟨z, WZ_mono h h1, h2⟩
theorem II_mono {i j : Nat} {μ ν : Mem} (h : i ≤ j) (hz : II i μ ν) : II j μ ν := by
  obtain ⟨m, h1, h2, h3⟩ := hz
  refine ⟨m, h1, h2, fun k hk => ⟨(h3 k hk).1, fun hb => ?_⟩⟩
  obtain ⟨z, g1, g2⟩ := (h3 k hk).2 hb
  exact ⟨z, WZ_mono h g1, g2⟩
theorem Iv_mono {i j : Nat} {μ ν : Mem} (h : i ≤ j) (hz : Iv i μ ν) : Iv j μ ν := ⟨IZ_mono h hz.1, II_mono h hz.2.1, hz.2.2⟩
theorem Iv_5 {i : Nat} {μ ν : Mem} (hz : Iv i μ ν) : Iv (i + 5) μ ν := Iv_mono (by omega) hz
theorem CR_keep {b : Nat} {μ μ' : Mem} {z : Sd} (hF : ∀ a k, b ≤ a → a ≤ b + 13 → gF μ' a k = gF μ a k) (hA : ∀ a, b ≤ a → a ≤ b + 13 → gA μ' a = gA μ a) (h : CR b μ z) : CR b μ' z := by
  obtain ⟨⟨t1, t2, t3, t4⟩, ⟨s1, s2, s3, s4⟩, ⟨n1, n2⟩, p1, p2⟩ := h
  refine ⟨⟨?_, ?_, fun k hk => ?_, fun v hv => ?_⟩, ⟨fun k hk => ?_, ?_, ?_, ?_⟩, ⟨?_, fun i hi => ?_⟩, ?_, fun p hp => ?_⟩
  · rw [hF _ _ (by omega) (by omega)]; exact t1
  · rw [hF _ _ (by omega) (by omega)]; exact t2
  · rw [hA _ (by omega) (by omega), hA _ (by omega) (by omega)]; exact t3 k hk
  · rw [hA _ (by omega) (by omega), hA _ (by omega) (by omega), hA _ (by omega) (by omega)]; exact t4 v hv
  · rw [hA _ (by omega) (by omega), hA _ (by omega) (by omega)]; exact s1 k hk
  · rw [hF _ _ (by omega) (by omega)]; exact s2
  · rw [hF _ _ (by omega) (by omega)]; exact s3
  · rw [hF _ _ (by omega) (by omega)]; exact s4
  · rw [hF _ _ (by omega) (by omega)]; exact n1
  · rw [hA _ (by omega) (by omega), hA _ (by omega) (by omega)]; exact n2 i hi
  · rw [hF _ _ (by omega) (by omega)]; exact p1
  · rw [hA _ (by omega) (by omega)]; exact p2 p hp
def KC (μ μ' : Mem) : Prop := (∀ a k, (a < 28 ∨ 42 ≤ a) → a < 70 → a ≠ 11 → (a = 9 → k = 1) → gF μ' a k = gF μ a k) ∧ gL μ' = gL μ ∧ (∀ a, (a < 28 ∨ 42 ≤ a) → a < 70 → a ≠ 13 → gA μ' a = gA μ a)
def KM (ν ν' : Mem) : Prop := gF ν' 98 22 = gF ν 98 22 ∧ gL ν' = gL ν ∧ (∀ a, a = 99 ∨ a = 100 ∨ a = 101 ∨ a = 102 ∨ a = 111 → gA ν' a = gA ν a)
theorem KC.rf {μ : Mem} : KC μ μ := ⟨fun _ _ _ _ _ _ => rfl, rfl, fun _ _ _ _ => rfl⟩
theorem KC.tr {μ μ1 μ2 : Mem} (h1 : KC μ μ1) (h2 : KC μ1 μ2) : KC μ μ2 := ⟨fun a k x y z w => (h2.1 a k x y z w).trans (h1.1 a k x y z w), h2.2.1.trans h1.2.1, fun a x y z => (h2.2.2 a x y z).trans (h1.2.2 a x y z)⟩
theorem KC.so {q : Nat} {μ μ' : Mem} (hq : 70 ≤ q) (h : SO q μ μ') : KC μ μ' := ⟨fun a k _ h1 _ _ => h.1 a k (by omega), h.2.1, fun a _ h1 _ => h.2.2 a (by omega) (by omega) (by omega)⟩
theorem KM.rf {ν : Mem} : KM ν ν := ⟨rfl, rfl, fun _ _ => rfl⟩
theorem KM.tr {ν ν1 ν2 : Mem} (h1 : KM ν ν1) (h2 : KM ν1 ν2) : KM ν ν2 := ⟨h2.1.trans h1.1, h2.2.1.trans h1.2.1, fun a x => (h2.2.2 a x).trans (h1.2.2 a x)⟩
theorem KM.ho {ν ν' : Mem} (h : HO ν ν') : KM ν ν' := ⟨h.1 98 22 (by omega), h.2.1, fun a ha => h.2.2 a (by omega) (by omega)⟩
theorem KM.sA {ν : Mem} {b : Nat} {f : Nat → Int32} (hb : b ≠ 99 ∧ b ≠ 100 ∧ b ≠ 101 ∧ b ≠ 102 ∧ b ≠ 111) : KM ν (sA ν b f) := ⟨rfl, rfl, fun a ha => by rw [gA_sA, if_neg (by omega)]⟩
theorem KM.sF {ν : Mem} {k : Nat} {v : Int32} (hk : k ≠ 22) : KM ν (sF ν 98 k v) := ⟨by rw [gF_sn (by omega)], rfl, fun a ha => rfl⟩
theorem II_keep {i : Nat} {μ μ' ν ν' : Mem} (hF0 : gF μ' 0 3 = gF μ 0 3) (hF : ∀ a k, 42 ≤ a → a < 70 → gF μ' a k = gF μ a k) (hA : ∀ a, 42 ≤ a → a < 70 → gA μ' a = gA μ a) (h0 : gA ν' 100 = gA ν 100) (h1 : gA ν' 101 = gA ν 101) (h : II i μ ν) : II i μ' ν' := by
  obtain ⟨m, g1, g2, g3⟩ := h
  refine ⟨m, g1, by rw [hF0]; exact g2, fun j hj => ?_⟩
  rw [h0, h1]
  refine ⟨(g3 j hj).1, fun hb => ?_⟩
  obtain ⟨z, w1, w2, w3⟩ := (g3 j hj).2 hb
  exact ⟨z, w1, CR_keep (fun a k x y => hF a k (by omega) (by omega)) (fun a x y => hA a (by omega) (by omega)) w2, w3⟩
theorem IZ_keep {i : Nat} {μ μ' ν ν' : Mem} (hF : ∀ a k, 14 ≤ a → a < 28 → gF μ' a k = gF μ a k) (hA : ∀ a, 14 ≤ a → a < 28 → gA μ' a = gA μ a) (h0 : gA ν' 99 = gA ν 99) (h : IZ i μ ν) : IZ i μ' ν' := by
  obtain ⟨z, w1, w2, w3⟩ := h
  exact ⟨z, w1, CR_keep (fun a k x y => hF a k (by omega) (by omega)) (fun a x y => hA a (by omega) (by omega)) w2, by rw [h0]; exact w3⟩
theorem IX_keep {μ μ' ν ν' : Mem} (h1 : gF μ' 9 1 = gF μ 9 1) (h2 : gF ν' 98 22 = gF ν 98 22) (h3 : gA μ' 10 = gA μ 10) (h4 : gA ν' 111 = gA ν 111) (h : IX μ ν) : IX μ' ν' := by
  obtain ⟨n, g1, g2, g3, g4⟩ := h
  refine ⟨n, g1, h1.trans g2, h2.trans g3, ?_⟩
  rw [h3, h4]
  exact g4
theorem IR_keep {μ μ' ν ν' : Mem} (h1 : ∀ k, gF μ' 0 k = gF μ 0 k) (h2 : gA ν' 102 = gA ν 102) (h : IR μ ν) : IR μ' ν' := by
  unfold IR
  rw [h1, h1, h1, h2]
  exact h
theorem IF_keep {μ μ' ν ν' : Mem} (h1 : gL μ' = gL μ) (h2 : gL ν' = gL ν) (h : IF μ ν) : IF μ' ν' := by
  unfold IF
  rw [h1, h2]
  exact h
theorem Iv_keep {i : Nat} {μ μ' ν ν' : Mem} (hc : KC μ μ') (hm : KM ν ν') (h : Iv i μ ν) : Iv i μ' ν' := by
  obtain ⟨h1, h2, h3, h4, h5⟩ := h
  refine ⟨IZ_keep (fun a k x y => hc.1 a k (by omega) (by omega) (by omega) (by omega)) (fun a x y => hc.2.2 a (by omega) (by omega) (by omega)) (hm.2.2 99 (by omega)) h1, II_keep (hc.1 0 3 (by omega) (by omega) (by omega) (by omega)) (fun a k x y => hc.1 a k (by omega) (by omega) (by omega) (by omega)) (fun a x y => hc.2.2 a (by omega) (by omega) (by omega)) (hm.2.2 100 (by omega)) (hm.2.2 101 (by omega)) h2, IX_keep (hc.1 9 1 (by omega) (by omega) (by omega) (by omega)) hm.1 (hc.2.2 10 (by omega) (by omega) (by omega)) (hm.2.2 111 (by omega)) h3, IF_keep hc.2.1 hm.2.1 h4, IR_keep (fun k => hc.1 0 k (by omega) (by omega) (by omega) (by omega)) (hm.2.2 102 (by omega)) h5⟩
theorem ref_keep {i j : Nat} {μ ν : Mem} {v w : Int32} (hj : j < 3) (h : Iv i μ ν) (hv : v = gF μ 0 (8 + j) + 1) (hw : w = gA ν 102 j + 1) : Iv i (sF μ 0 (8 + j) v) (sA ν 102 (upd (gA ν 102) j w)) := by
  obtain ⟨h1, h2, h3, h4, h5⟩ := h
  have hF : ∀ a k, a ≠ 0 → gF (sF μ 0 (8 + j) v) a k = gF μ a k := fun a k ha => by rw [gF_sF, if_neg ha]
  have hA : ∀ a, a ≠ 102 → gA (sA ν 102 (upd (gA ν 102) j w)) a = gA ν a := fun a ha => by rw [gA_sA, if_neg ha]
  refine ⟨IZ_keep (fun a k x y => hF a k (by omega)) (fun _ _ _ => rfl) (hA 99 (by decide)) h1, II_keep (gF_sn (by omega)) (fun a k x y => hF a k (by omega)) (fun _ _ _ => rfl) (hA 100 (by decide)) (hA 101 (by decide)) h2, IX_keep (hF 9 1 (by decide)) rfl rfl (hA 111 (by decide)) h3, h4, ?_⟩
  obtain ⟨r0, r1, r2⟩ := h5
  unfold IR
  rw [gF_sq, gF_sq, gF_sq, gA_sA, if_pos rfl]
  have hj3 : j = 0 ∨ j = 1 ∨ j = 2 := by omega
  rcases hj3 with rfl | rfl | rfl
  · exact ⟨by rw [if_pos rfl, hv, hw, r0]; rfl, r1, r2⟩
  · exact ⟨r0, by rw [if_pos rfl, hv, hw, r1]; rfl, r2⟩
  · exact ⟨r0, r1, by rw [if_pos rfl, hv, hw, r2]; rfl⟩
theorem bad_ok {i : Nat} {μ ν : Mem} (r : Int32) (h : Iv i μ ν) : ∃ μ' ν', fX11_bad r μ = some (r, μ') ∧ fX12_bad r ν = some (r, ν') ∧ Iv (i + 5) μ' ν' := by
  refine ⟨_, _, rfl, ?_, Iv_5 (ref_keep (j := 0) (by decide) h rfl rfl)⟩
  unfold fX12_bad
  rw [show (0 : Int32) = nI 0 from rfl, rd_nI av_l102 (by decide) (by decide)]
  simp only [Option.bind_some]
  rw [wr_nI av_l102 (by decide) (by decide)]
  rfl
theorem no_ok {i : Nat} {μ ν : Mem} (h : Iv i μ ν) : ∃ μ' ν', fX11_no μ = some (-3, μ') ∧ fX12_no ν = some (-3, ν') ∧ Iv (i + 5) μ' ν' := by
  refine ⟨_, _, rfl, ?_, Iv_5 (ref_keep (j := 1) (by decide) h rfl rfl)⟩
  unfold fX12_no
  rw [show (1 : Int32) = nI 1 from rfl, rd_nI av_l102 (by decide) (by decide)]
  simp only [Option.bind_some]
  rw [wr_nI av_l102 (by decide) (by decide)]
  rfl
theorem full_ok {i : Nat} {μ ν : Mem} (h : Iv i μ ν) : ∃ μ' ν', fX11_full μ = some (-4, μ') ∧ fX12_full ν = some (-4, ν') ∧ Iv (i + 5) μ' ν' := by
  refine ⟨_, _, rfl, ?_, Iv_5 (ref_keep (j := 2) (by decide) h rfl rfl)⟩
  unfold fX12_full
  rw [show (2 : Int32) = nI 2 from rfl, rd_nI av_l102 (by decide) (by decide)]
  simp only [Option.bind_some]
  rw [wr_nI av_l102 (by decide) (by decide)]
  rfl
theorem c_isLedge {μ : Mem} {τ : Td} (hT : CT μ τ) (a : Int32) : fX11_isLedge a μ = some (if (0 : Int32) ≤ a ∧ a ≤ nI (tL τ) - 1 then 1 else 0) := by
  unfold fX11_isLedge
  rw [w_eq, hT.1]
  simp only [Option.bind_some]
  rw [z_ite]
  rfl
theorem c_isVoter {μ : Mem} {τ : Td} (hT : CT μ τ) (a : Int32) : fX11_isVoter a μ = some (if (0 : Int32) ≤ a ∧ a ≤ nI (tV τ) - 1 then 1 else 0) := by
  unfold fX11_isVoter
  rw [w_eq, hT.2.1]
  simp only [Option.bind_some]
  rw [z_ite]
  rfl
theorem CTb_CT {μ : Mem} {τ : Td} (h : CTb 14 μ τ) : CT μ τ := h
