/-! The class's slopes: a chain, a pass, all that comes down. -/
def fa : List Nat → Nat → Nat → Bool
  | [], _, _ => false
  | x :: l, k, j => if x = k then true else if x = j then false else fa l k j
theorem fa_snoc {x k j : Nat} : ∀ {l : List Nat}, fa (l ++ [x]) k j = (fa l k j || (decide (k ∉ l) && decide (j ∉ l) && decide (x = k)))
  | [] => by
    simp only [List.nil_append, fa]
    by_cases h : x = k <;> simp [h]
  | y :: l => by
    simp only [List.cons_append, fa]
    by_cases h : y = k
    · simp [h]
    · rw [if_neg h, if_neg h]
      by_cases h2 : y = j
      · simp [h2]
      · rw [if_neg h2, if_neg h2, fa_snoc (l := l)]
        have h' : ¬ k = y := fun e => h e.symm
        have h2' : ¬ j = y := fun e => h2 e.symm
        simp [h', h2']
theorem fa_mem {k j : Nat} : ∀ {l : List Nat}, fa l k j = true → k ∈ l
  | [], h => by simp [fa] at h
  | y :: l, h => by
    simp only [fa] at h
    by_cases e : y = k
    · simp [e]
    · rw [if_neg e] at h
      by_cases e2 : y = j
      · rw [if_pos e2] at h; cases h
      · rw [if_neg e2] at h; exact List.mem_cons_of_mem _ (fa_mem h)
theorem bmk_mem {k : Nat} : ∀ {l : List Nat} {s : Nat}, (bmk s l).testBit k = (s.testBit k || decide (k ∈ l))
  | [], s => by simp [bmk]
  | x :: l, s => by
    show (bmk (s ||| 2 ^ x) l).testBit k = _
    rw [bmk_mem (l := l), Nat.testBit_or, Nat.testBit_two_pow]
    by_cases h : x = k
    · simp [h]
    · have h' : ¬ k = x := fun e => h e.symm
      simp [h, h']
theorem bmk_snoc {l : List Nat} {s x : Nat} : bmk s (l ++ [x]) = bmk s l ||| 2 ^ x := by simp [bmk]
theorem bmu_snoc {τ : Td} {l : List Nat} {s x : Nat} : bmu τ s (l ++ [x]) = bmu τ (bmu τ s l) [x] := by simp [bmu]
theorem bmu_lt {τ : Td} (hw : WT τ) : ∀ {l : List Nat} {s : Nat}, s < 256 → (∀ k, k ∈ l → k < tL τ) → bmu τ s l < 256
  | [], _, h, _ => h
  | k :: l, s, h, hl => by
    have h8 := hw.1
    have hk := hl k (by simp)
    show bmu τ (match tB τ k with | none => s | some u => s ||| 2 ^ u) l < 256
    refine bmu_lt hw (l := l) ?_ (fun j hj => hl j (by simp [hj]))
    split
    · exact h
    · rename_i u e
      have := hw.2.2.2.1 k hk u e
      exact or_lt256 h (pow_lt256 (by omega))
theorem wst_snoc {w : Int32} {l : List Nat} {x : Nat} (hl : ∀ k, k ∈ l → k < 8) : wst w (l ++ [x]) = wst (wst w l) [x] := by
  unfold wst
  by_cases h : w = -1
  · rw [if_pos h, if_pos h]
    cases l with
    | nil => simp
    | cons y l =>
      simp only [List.cons_append]
      rw [if_neg (m1_ne (by have := hl y (by simp); omega))]
  · rw [if_neg h, if_neg h, if_neg h]
theorem pc_or {m k : Nat} (hm : m < 256) (hk : k < 8) (h : m.testBit k = false) : pc8 (m ||| 2 ^ k) = pc8 m + 1 := by
  have hd : ∀ m, m < 256 → ∀ k, k < 8 → m.testBit k = false → pc8 (m ||| 2 ^ k) = pc8 m + 1 := by decide +kernel
  exact hd m hm k hk h
theorem pc_le {m : Nat} (hm : m < 256) : pc8 m ≤ 8 := by
  have hd : ∀ m, m < 256 → pc8 m ≤ 8 := by decide +kernel
  exact hd m hm
def TN (l : List Nat) (tn : Nat → Nat) : Prop := (∀ k, k < 8 → k ∈ l → tn k < pc8 (bmk 0 l)) ∧ ∀ k j, k < 8 → j < 8 → k ≠ j → (fa l k j = true ↔ k ∈ l ∧ (j ∈ l → tn k < tn j))
theorem TN_snoc {l : List Nat} {tn : Nat → Nat} {x : Nat} (hl : ∀ k, k ∈ l → k < 8) (hx : x < 8) (h : TN l tn) : TN (l ++ [x]) (tnx (bmk 0 l) tn x) := by
  have hm := bmk_lt (l := l) (s := 0) (by decide) hl
  have hb : (bmk 0 l).testBit x = decide (x ∈ l) := by rw [bmk_mem]; simp
  unfold tnx
  by_cases c : x ∈ l
  · rw [hb, decide_eq_true c]
    simp only [if_true]
    have e : bmk 0 (l ++ [x]) = bmk 0 l := by rw [bmk_snoc]; exact or_has hm hx (by rw [hb]; simpa using c)
    have hmem : ∀ k, k ∈ l ++ [x] ↔ k ∈ l := fun k => by
      rw [List.mem_append]; constructor
      · rintro (h | h)
        · exact h
        · rw [List.mem_singleton] at h; rw [h]; exact c
      · exact Or.inl
    refine ⟨fun k hk hkl => by rw [e]; exact h.1 k hk ((hmem k).mp hkl), fun k j hk hj hkj => ?_⟩
    rw [hmem, hmem, fa_snoc, ← h.2 k j hk hj hkj]
    by_cases hkx : x = k
    · subst hkx; simp [c]
    · simp [hkx]
  · rw [hb, decide_eq_false c]
    simp only [Bool.false_eq_true, if_false]
    have e : pc8 (bmk 0 (l ++ [x])) = pc8 (bmk 0 l) + 1 := by rw [bmk_snoc]; exact pc_or hm hx (by rw [hb]; simpa using c)
    refine ⟨fun k hk hkl => ?_, fun k j hk hj hkj => ?_⟩
    · rw [e]
      show (if k = x then pc8 (bmk 0 l) else tn k) < _
      by_cases hkx : k = x
      · rw [if_pos hkx]; omega
      · rw [if_neg hkx]
        have : k ∈ l := by
          rcases List.mem_append.mp hkl with h | h
          · exact h
          · exact absurd (List.mem_singleton.mp h) hkx
        have := h.1 k hk this
        omega
    · rw [fa_snoc]
      show _ ↔ _ ∧ (_ → (if k = x then pc8 (bmk 0 l) else tn k) < (if j = x then pc8 (bmk 0 l) else tn j))
      have hh := h.2 k j hk hj hkj
      by_cases hkx : k = x
      · subst hkx
        have hjk : ¬ j = k := fun e => hkj e.symm
        rw [if_pos rfl, if_neg hjk]
        have hf : fa l k j = false := by
          cases hfa : fa l k j with
          | false => rfl
          | true => exact absurd (fa_mem hfa) c
        rw [hf]
        simp only [Bool.false_or, List.mem_append, List.mem_singleton]
        constructor
        · intro h1
          simp [c] at h1
          exact ⟨Or.inr trivial, fun h2 => by
            rcases h2 with h2 | h2
            · exact absurd h2 h1
            · exact absurd h2 hjk⟩
        · intro h1
          by_cases hj2 : j ∈ l
          · have := h1.2 (Or.inl hj2)
            have := h.1 j hj hj2
            omega
          · simp [c, hj2]
      · rw [if_neg hkx]
        have hxk : ¬ x = k := fun e => hkx e.symm
        by_cases hjx : j = x
        · subst hjx
          rw [if_pos rfl]
          simp only [List.mem_append, List.mem_singleton, hkx, or_false, hxk, decide_false, Bool.and_false, Bool.or_false]
          rw [hh]
          constructor
          · intro h1; exact ⟨h1.1, fun _ => h.1 k hk h1.1⟩
          · intro h1; exact ⟨h1.1, fun h2 => absurd h2 c⟩
        · rw [if_neg hjx]
          simp only [List.mem_append, List.mem_singleton, hkx, or_false, hjx, hxk, decide_false, Bool.and_false, Bool.or_false]
          exact hh
/-- what the slope shows after l came down, from winner w -/
def CF (μ : Mem) (τ : Td) (q : Nat) (σ : Hd) (w : Int32) (l : List Nat) : Prop := CLd μ τ q σ ∧ gF μ q 4 = wst w l ∧ gF μ q 6 = nI (bmk 0 l) ∧ gF μ q 7 = nI (bmu τ 0 l) ∧ ∃ tn, TN l tn ∧ ∀ k, k < 8 → k ∈ l → gA μ (q + 3) k = nI (tn k)
theorem f_drop {μ : Mem} {τ : Td} {q k : Nat} {σ : Hd} {w : Int32} {l : List Nat} (hq : SQ q) (hw : WT τ) (hT : CT μ τ) (hl : ∀ k, k ∈ l → k < tL τ) (hE : CF μ τ q σ w l) (hk : k < tL τ) :
    ∃ μ', fX7_drop q (nI k) μ = some (bI (tB τ k), μ') ∧ SO q μ μ' ∧ gF μ' q 3 = gF μ q 3 ∧ gF μ' q 5 = gF μ q 5 ∧ CF μ' τ q (drp τ σ k) w (l ++ [k]) := by
  have h8 := hw.1
  have hl8 : ∀ k, k ∈ l → k < 8 := fun k h => by have := hl k h; omega
  have hm := bmk_lt (l := l) (s := 0) (by decide) hl8
  obtain ⟨h1, h2, h3, h4, tn, h5, h6⟩ := hE
  have hb : ∀ k, (bmk 0 l).testBit k = decide (k ∈ l) := fun k => by rw [bmk_mem]; simp
  obtain ⟨μ', e, s, g3, g5, c1, c2, c3, c4, c5⟩ := c_drop (tn := tn) hq hw hT ⟨h1, h2, h3, h4, fun k hk hkb => h6 k hk (by rw [hb] at hkb; simpa using hkb)⟩ hk hm (bmu_lt hw (by decide) hl)
  refine ⟨μ', e, s, g3, g5, c1, ?_, ?_, ?_, _, TN_snoc hl8 (by omega) h5, fun j hj hjl => ?_⟩
  · rw [c2, wst_snoc hl8]
  · rw [c3, bmk_snoc]
  · rw [c4, bmu_snoc]
  · refine c5 j hj ?_
    rw [← bmk_snoc, bmk_mem]
    simpa using hjl
theorem nI_le' {a b : Nat} (ha : a < 2 ^ 31) (hb : b < 2 ^ 31) : (nI a ≤ nI b) ↔ a ≤ b := by
  rw [Int32.le_iff_toInt_le, nI_toInt ha, nI_toInt hb]; omega
theorem nI_lt' {a b : Nat} (ha : a < 2 ^ 31) (hb : b < 2 ^ 31) : (nI a < nI b) ↔ a < b := by
  rw [Int32.lt_iff_toInt_lt, nI_toInt ha, nI_toInt hb]; omega
theorem nI_suc (a : Nat) : nI a + 1 = nI (a + 1) := nI_1 a
theorem f_chain {τ : Td} {q : Nat} {w : Int32} (hq : SQ q) (hw : WT τ) (k26 : Nat → Int32 → Int32 → Mem → Option Mem) (x1 x2 : Int32) : ∀ (n : Nat) (f : Nat) (a : Option Nat) (μ : Mem) (σ : Hd) (l : List Nat), n ≤ 8 → n < f → (∀ b, a = some b → b < tL τ) → CT μ τ → (∀ k, k ∈ l → k < tL τ) → CF μ τ q σ w l →
    ∃ μ', fX7_comeDown_42 k26 f q x1 x2 (bI a) (nI (8 - n)) μ = k26 q x1 (x2 + 1) μ' ∧ SO q μ μ' ∧ gF μ' q 3 = gF μ q 3 ∧ gF μ' q 5 = gF μ q 5 ∧ (match a with | none => CF μ' τ q σ w l | some b => CF μ' τ q (chn τ n σ b).2 w (l ++ (chn τ n σ b).1))
  | 0, f, a, μ, σ, l, _, hf, ha, hT, hl, hE => by
    obtain ⟨f, rfl⟩ : ∃ g, f = g + 1 := ⟨f - 1, by omega⟩
    refine ⟨μ, ?_, SO.rf, rfl, rfl, ?_⟩
    · unfold fX7_comeDown_42
      rw [if_pos (by decide)]
      rfl
    · cases a with
      | none => exact hE
      | some b => simpa [chn] using hE
  | n + 1, f, a, μ, σ, l, hn, hf, ha, hT, hl, hE => by
    obtain ⟨f, rfl⟩ : ∃ g, f = g + 1 := ⟨f - 1, by omega⟩
    unfold fX7_comeDown_42
    rw [if_neg (by show ¬ nI 8 ≤ _; rw [nI_le' (by omega) (by omega)]; omega)]
    cases a with
    | none =>
      refine ⟨μ, ?_, SO.rf, rfl, rfl, hE⟩
      rw [show bI none = -1 from rfl, c_bears_none]
      rfl
    | some b =>
      have hb := ha b rfl
      rw [show bI (some b) = nI b from rfl, c_bears hq hw hT hE.1 hb]
      simp only [Option.bind_some]
      have ez : ld σ b + 0 = ld σ b := by simp
      rw [ez]
      by_cases c : nI (tH τ b) < ld σ b
      · rw [if_pos c, if_pos rfl]
        obtain ⟨μ1, e1, s1, g3, g5, hE1⟩ := f_drop hq hw hT hl hE hb
        rw [e1]
        unfold av_b2
        simp only [Option.bind_some]
        rw [nI_suc, show 8 - (n + 1) + 1 = 8 - n by omega]
        have hc : ov τ σ b = true := by unfold ov; simpa using c
        obtain ⟨μ2, e2, s2, k3, k5, hE2⟩ := f_chain hq hw k26 x1 x2 n f (tB τ b) μ1 (drp τ σ b) (l ++ [b]) (by omega) (by omega) (fun u hu => by have := hw.2.2.2.1 b hb u hu; omega) (SO_CT hq s1 hT) (fun k hk => by
          rcases List.mem_append.mp hk with h | h
          · exact hl k h
          · rw [List.mem_singleton] at h; omega) hE1
        refine ⟨μ2, e2, s1.tr s2, k3.trans g3, k5.trans g5, ?_⟩
        unfold chn
        rw [if_pos hc]
        cases hu : tB τ b with
        | none => rw [hu] at hE2; exact hE2
        | some u =>
          rw [hu] at hE2
          simp only [List.append_assoc, List.singleton_append] at hE2 ⊢
          exact hE2
      · rw [if_neg c, if_neg (by decide)]
        have hc : ¬ ov τ σ b = true := by unfold ov; simpa using c
        refine ⟨μ, rfl, SO.rf, rfl, rfl, ?_⟩
        unfold chn
        rw [if_neg hc]
        simpa using hE
theorem f_pass {τ : Td} {q : Nat} {w : Int32} (hq : SQ q) (hw : WT τ) (x1 : Int32) (σ : Hd) : ∀ (d : Nat) (f : Nat) (i : Nat) (μ : Mem), d = tL τ - i → i ≤ tL τ → d < f → CT μ τ → CF μ τ q (pas τ i σ).2 w (pas τ i σ).1 →
    ∃ μ', fX7_comeDown_26 f q x1 (nI i) μ = (if x1 = 0 then some μ' else some (sF μ' q 5 (gF μ' q 6))) ∧ SO q μ μ' ∧ gF μ' q 3 = gF μ q 3 ∧ gF μ' q 5 = gF μ q 5 ∧ CF μ' τ q (pas τ (tL τ) σ).2 w (pas τ (tL τ) σ).1
  | 0, f, i, μ, hd, hi, hf, hT, hE => by
    obtain ⟨f, rfl⟩ : ∃ g, f = g + 1 := ⟨f - 1, by omega⟩
    have : i = tL τ := by omega
    subst this
    have h8 := hw.1
    refine ⟨μ, ?_, SO.rf, rfl, rfl, hE⟩
    unfold fX7_comeDown_26
    rw [(SQ_f hq).1.1, hT.1, if_pos (by rw [nI_le' (by omega) (by omega)]; omega)]
    rfl
  | d + 1, f, i, μ, hd, hi, hf, hT, hE => by
    obtain ⟨f, rfl⟩ : ∃ g, f = g + 1 := ⟨f - 1, by omega⟩
    have h8 := hw.1
    have hr := pas_run hw σ i hi
    obtain ⟨μ1, e1, s1, g3, g5, hE1⟩ := f_chain hq hw (fX7_comeDown_26 f) x1 (nI i) 8 av_big (some i) μ (pas τ i σ).2 (pas τ i σ).1 (by omega) (by decide) (fun b hb => by cases hb; omega) hT (fun k hk => by have := hr.2.2.1 k hk; omega) hE
    obtain ⟨μ2, e2, s2, k3, k5, hE2⟩ := f_pass hq hw x1 σ d f (i + 1) μ1 (by omega) (by omega) (by omega) (SO_CT hq s1 hT) hE1
    refine ⟨μ2, ?_, s1.tr s2, k3.trans g3, k5.trans g5, hE2⟩
    unfold fX7_comeDown_26
    rw [(SQ_f hq).1.1, hT.1, if_neg (by rw [nI_le' (by omega) (by omega)]; omega)]
    rw [show (0 : Int32) = nI (8 - 8) from rfl, show bI (some i) = nI i from rfl] at *
    rw [e1, nI_suc]
    exact e2
/-- what comes down from σ, and what is left -/
def cdl (τ : Td) (σ : Hd) : List Nat := (pas τ (tL τ) σ).1
def cds (τ : Td) (σ : Hd) : Hd := ((pas τ (tL τ) σ).2.1, (pas τ (tL τ) σ).2.2.1, σ.2.2.1, wst σ.2.2.2.1 (cdl τ σ), if σ.2.2.2.1 = -1 then nI (bmk 0 (cdl τ σ)) else σ.2.2.2.2)
/-- the slope holds σ -/
def CS (μ : Mem) (τ : Td) (q : Nat) (σ : Hd) : Prop := CLd μ τ q σ ∧ gF μ q 3 = nI σ.2.2.1 ∧ gF μ q 4 = σ.2.2.2.1 ∧ gF μ q 5 = σ.2.2.2.2
/-- the slope's marks after l came down -/
def CM (μ : Mem) (τ : Td) (q : Nat) (l : List Nat) : Prop := gF μ q 6 = nI (bmk 0 l) ∧ gF μ q 7 = nI (bmu τ 0 l) ∧ ∃ tn, TN l tn ∧ ∀ k, k < 8 → k ∈ l → gA μ (q + 3) k = nI (tn k)
theorem f_comeDown {τ : Td} {q : Nat} {μ : Mem} {σ : Hd} (hq : SQ q) (hw : WT τ) (hT : CT μ τ) (hS : CS μ τ q σ) :
    ∃ μ', fX7_comeDown q μ = some μ' ∧ SO q μ μ' ∧ CS μ' τ q (cds τ σ) ∧ CM μ' τ q (cdl τ σ) := by
  obtain ⟨h1, h3, h4, h5⟩ := hS
  have e : fX7_comeDown q μ = fX7_comeDown_26 av_big q (if σ.2.2.2.1 = -1 then 1 else 0) (nI 0) (sF (sF μ q 6 0) q 7 0) := by
    unfold fX7_comeDown fX7_comeDown_13
    rw [h4]
    split <;> rfl
  have s0 : SO q μ (sF (sF μ q 6 0) q 7 0) := SO.sF.tr SO.sF
  have h8 := hw.1
  obtain ⟨μ', e1, s1, g3, g5, c1, c2, c3, c4, c5⟩ := f_pass (w := σ.2.2.2.1) hq hw (if σ.2.2.2.1 = -1 then 1 else 0) σ (tL τ) av_big 0 (sF (sF μ q 6 0) q 7 0) (by omega) (by omega) (by show _ < 1000000; omega) (SO_CT hq s0 hT) (by
    refine ⟨h1, ?_, ?_, ?_, fun _ => 0, ⟨fun k _ h => by simp [pas] at h, fun k j _ _ _ => by simp [pas, fa]⟩, fun k _ h => by simp [pas] at h⟩
    · rw [gF_sq, gF_sq, if_neg (by decide), if_neg (by decide), h4]
      unfold wst; simp only [pas]
      split
      · rename_i h; exact h
      · rfl
    · rw [gF_sq, gF_sq, if_neg (by decide), if_pos rfl]; rfl
    · rw [gF_sq, if_pos rfl]; rfl)
  have g3' : gF μ' q 3 = nI σ.2.2.1 := by rw [g3, gF_sq, gF_sq, if_neg (by decide), if_neg (by decide), h3]
  have g5' : gF μ' q 5 = σ.2.2.2.2 := by rw [g5, gF_sq, gF_sq, if_neg (by decide), if_neg (by decide), h5]
  rw [e, e1]
  by_cases c : σ.2.2.2.1 = -1
  · rw [if_pos c, if_neg (by decide)]
    refine ⟨_, rfl, s0.tr (s1.tr SO.sF), ⟨c1, ?_, ?_, ?_⟩, ?_, ?_, c5⟩
    · rw [gF_sq, if_neg (by decide)]; exact g3'
    · rw [gF_sq, if_neg (by decide)]; exact c2
    · rw [gF_sq, if_pos rfl, c3]
      show _ = (if _ then _ else _)
      rw [if_pos c]; rfl
    · rw [gF_sq, if_neg (by decide)]; exact c3
    · rw [gF_sq, if_neg (by decide)]; exact c4
  · rw [if_neg c, if_pos rfl]
    refine ⟨_, rfl, s0.tr s1, ⟨c1, g3', c2, ?_⟩, c3, c4, c5⟩
    rw [g5']
    show _ = (if _ then _ else _)
    rw [if_neg c]
