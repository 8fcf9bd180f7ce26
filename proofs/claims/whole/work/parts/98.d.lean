/-! parties: the reference's side; the step. -/
def PO (ν ν' : Mem) : Prop := (∀ a k, (a ≠ 98 ∨ k ≠ 20) → gF ν' a k = gF ν a k) ∧ gL ν' = gL ν ∧ (∀ a, a ≠ 103 → a ≠ 104 → gA ν' a = gA ν a)
theorem PO.rf {ν : Mem} : PO ν ν := ⟨fun _ _ _ => rfl, rfl, fun _ _ _ => rfl⟩
theorem PO.tr {ν ν1 ν2 : Mem} (h1 : PO ν ν1) (h2 : PO ν1 ν2) : PO ν ν2 := ⟨fun a k h => (h2.1 a k h).trans (h1.1 a k h), h2.2.1.trans h1.2.1, fun a g1 g2 => (h2.2.2 a g1 g2).trans (h1.2.2 a g1 g2)⟩
theorem PO.sF {ν : Mem} {v : Int32} : PO ν (sF ν 98 20 v) := ⟨fun a b h => by
  rw [gF_sF]
  split
  · split
    · omega
    · rfl
  · rfl, rfl, fun _ _ _ => rfl⟩
theorem PO.sA {ν : Mem} {f : Nat → Int32} {b : Nat} (hb : b = 103 ∨ b = 104) : PO ν (sA ν b f) := ⟨fun _ _ _ => rfl, rfl, fun a h1 h2 => by rw [gA_sA, if_neg (by omega)]⟩
theorem PO.km {ν ν' : Mem} (h : PO ν ν') : KM ν ν' := ⟨h.1 98 22 (by omega), h.2.1, fun a ha => h.2.2 a (by omega) (by omega)⟩
theorem m_pdrop {τ : Td} {σ : Hd} {ν : Mem} {x : Nat} {x2 x3 : Int32} (f : Nat) (hw : WT τ) (hT : MT (gA ν 99) τ) (hS : HL ν τ σ) (hx : x < tL τ) (h20 : gF ν 98 20 = -1) : ∃ ν', fX12_goParty_21 (f + 1) x2 x3 (nI x) ν = (if nI x = x2 then fX12_goParty_101 (fX12_goParty_21 f) x2 x3 (nI x) ν' else if nI x = x3 then fX12_goParty_101 (fX12_goParty_21 f) x2 x3 (nI x) ν' else fX12_goParty_101 (fX12_goParty_21 f) x2 x3 (-1) ν') ∧ PO ν ν' ∧ HL ν' τ (drp τ σ x) := by
  have h8 := hw.1
  have e66 : ∀ ν1 : Mem, fX12_goParty_66 (fX12_goParty_21 f) x2 x3 (nI x) ν1 = (if nI x = x2 then fX12_goParty_101 (fX12_goParty_21 f) x2 x3 (nI x) (sA (sA ν1 103 (upd (gA ν1 103) x 0)) 104 (upd (gA ν1 104) x 0)) else if nI x = x3 then fX12_goParty_101 (fX12_goParty_21 f) x2 x3 (nI x) (sA (sA ν1 103 (upd (gA ν1 103) x 0)) 104 (upd (gA ν1 104) x 0)) else fX12_goParty_101 (fX12_goParty_21 f) x2 x3 (-1) (sA (sA ν1 103 (upd (gA ν1 103) x 0)) 104 (upd (gA ν1 104) x 0))) := by
    intro ν1
    unfold fX12_goParty_66 fX12_goParty_95
    rw [wr_nI av_l103 (by omega) (by omega), bs, wr_nI av_l104 (by omega) (by omega), bs, show gA (sA ν1 103 (upd (gA ν1 103) x 0)) 104 = gA ν1 104 by rw [gA_sA, if_neg (by decide)]]
  have ge : ∀ ν1 : Mem, gA (sA (sA ν1 103 (upd (gA ν1 103) x 0)) 104 (upd (gA ν1 104) x 0)) 103 = upd (gA ν1 103) x 0 := fun ν1 => by rw [gA_sA, if_neg (by decide), gA_sA, if_pos rfl]
  have gf : ∀ ν1 : Mem, gA (sA (sA ν1 103 (upd (gA ν1 103) x 0)) 104 (upd (gA ν1 104) x 0)) 104 = upd (gA ν1 104) x 0 := fun ν1 => by rw [gA_sA, if_pos rfl]
  rw [fX12_goParty_21]
  dsimp only
  rw [if_neg (m1_ne (by omega)), if_pos h20, m_below hw hT hx, bs]
  cases hu : tB τ x with
  | none =>
    rw [if_pos (show bI none = -1 from rfl)]
    refine ⟨_, e66 ν, (PO.sA (Or.inl rfl)).tr (PO.sA (Or.inr rfl)), ?_⟩
    intro j hj
    rw [ge, gf]
    unfold drp
    rw [hu]
    dsimp only
    unfold upd
    split
    · exact ⟨rfl, rfl⟩
    · exact hS j hj
  | some u =>
    have huk := hw.2.2.2.1 x hx u hu
    rw [show bI (some u) = nI u from rfl, if_neg (m1_ne (by omega)), rd_nI av_l103 (by omega) (by omega), bs, m_load hw hS hx, bs, wr_nI av_l103 (by omega) (by omega), bs, (hS u (by omega)).1]
    refine ⟨_, e66 _, ((PO.sA (Or.inl rfl)).tr (PO.sA (Or.inl rfl))).tr (PO.sA (Or.inr rfl)), ?_⟩
    intro j hj
    rw [ge, gf, gA_sA, if_pos rfl, gA_sA, if_neg (by decide)]
    unfold drp
    rw [hu]
    dsimp only
    unfold upd
    by_cases c1 : j = x
    · rw [if_pos c1, if_pos c1, if_pos c1, if_pos c1]; exact ⟨rfl, rfl⟩
    · rw [if_neg c1, if_neg c1, if_neg c1, if_neg c1]
      refine ⟨?_, (hS j hj).2⟩
      by_cases c2 : j = u
      · rw [if_pos c2, if_pos c2]
      · rw [if_neg c2, if_neg c2]; exact (hS j hj).1
theorem m_stop {k : Nat} {x2 x3 r : Int32} {ν : Mem} (f : Nat) (hk : k < 8) (h : gF ν 98 20 = nI k) : fX12_goParty_21 (f + 1) x2 x3 r ν = some ν := by
  rw [fX12_goParty_21]
  dsimp only
  rw [h, if_neg (m1_ne (by omega)), ite_self]
theorem m_pty {τ : Td} {k j : Nat} (hw : WT τ) (hk : k < tL τ) (hj : j < tL τ) (hkj : k ≠ j) : ∀ (l : List Nat) (f : Nat) (σ σ' : Hd) (ν : Mem), l.length + 1 < f → MT (gA ν 99) τ → HL ν τ σ → Rp τ σ l σ' → AH τ σ' → gF ν 98 20 = -1 → ∃ ν', fX12_goParty_21 f (nI k) (nI j) (hdI l) ν = some ν' ∧ PO ν ν' ∧ (fa l k j = true → gF ν' 98 20 = nI k) ∧ (fa l j k = true → gF ν' 98 20 = nI j) ∧ (fa l k j = false → fa l j k = false → gF ν' 98 20 = -1 ∧ HL ν' τ σ')
  | [], f, σ, σ', ν, hf, hT, hS, hR, hE, h20 => by
    obtain ⟨f, rfl⟩ : ∃ g, f = g + 1 := ⟨f - 1, by omega⟩
    have hR : σ' = σ := hR
    subst hR
    refine ⟨ν, ?_, PO.rf, fun h => by simp [fa] at h, fun h => by simp [fa] at h, fun _ _ => ⟨h20, hS⟩⟩
    rw [fX12_goParty_21]
    dsimp only
    rw [if_pos (show hdI [] = -1 from rfl)]
  | x :: l, f, σ, σ', ν, hf, hT, hS, hR, hE, h20 => by
    simp only [List.length_cons] at hf
    obtain ⟨f, rfl⟩ : ∃ g, f = g + 1 + 1 := ⟨f - 2, by omega⟩
    have h8 := hw.1
    have hx : x < tL τ := hR.1.1
    obtain ⟨ν1, e1, o1, h1⟩ := m_pdrop (x2 := nI k) (x3 := nI j) (f + 1) hw hT hS hx h20
    have hT1 : MT (gA ν1 99) τ := by rw [o1.2.2 99 (by decide) (by decide)]; exact hT
    have hd : ∀ v, fX12_firstOver (sF ν1 98 20 v) = some (hdI l) := fun v => m_hd (ν := sF ν1 98 20 v) hw hT1 h1 hR.2 hE
    show ∃ ν', fX12_goParty_21 (f + 1 + 1) (nI k) (nI j) (nI x) ν = some ν' ∧ _
    rw [e1]
    unfold fX12_goParty_101
    rw [bs, bs, hd, hd, bs, bs]
    by_cases c1 : x = k
    · subst c1
      rw [if_pos rfl, m_stop (k := x) f (by omega) (by rw [gF_sF, if_pos rfl, if_pos rfl])]
      refine ⟨_, rfl, o1.tr PO.sF, fun _ => by rw [gF_sF, if_pos rfl, if_pos rfl], fun h => ?_, fun h => ?_⟩
      · rw [fa, if_neg hkj, if_pos rfl] at h; cases h
      · rw [fa, if_pos rfl] at h; cases h
    · rw [if_neg (fun e => c1 ((nI_eq (by omega) (by omega)).mp e))]
      by_cases c2 : x = j
      · subst c2
        rw [if_pos rfl, m_stop (k := x) f (by omega) (by rw [gF_sF, if_pos rfl, if_pos rfl])]
        refine ⟨_, rfl, o1.tr PO.sF, fun h => ?_, fun _ => by rw [gF_sF, if_pos rfl, if_pos rfl], fun _ h => ?_⟩
        · rw [fa, if_neg c1, if_pos rfl] at h; cases h
        · rw [fa, if_pos rfl] at h; cases h
      · rw [if_neg (fun e => c2 ((nI_eq (by omega) (by omega)).mp e))]
        obtain ⟨ν2, e2, o2, a2, b2, d2⟩ := m_pty hw hk hj hkj l (f + 1) (drp τ σ x) σ' (sF ν1 98 20 (-1)) (by omega) hT1 h1 hR.2 hE (by rw [gF_sF, if_pos rfl, if_pos rfl])
        rw [fa, if_neg c1, if_neg c2, fa, if_neg c2, if_neg c1]
        exact ⟨ν2, e2, (o1.tr PO.sF).tr o2, a2, b2, d2⟩
theorem m_goParty {τ : Td} {σ : Hd} {ν : Mem} {k j on : Nat} (hw : WT τ) (hk : k < tL τ) (hj : j < tL τ) (hkj : k ≠ j) (ho : on < tL τ) (hT : MT (gA ν 99) τ) (hS : HL ν τ σ) : ∃ ν', fX12_goParty (nI on) (nI k) (nI j) ν = some ν' ∧ PO ν ν' ∧ (fa (cdl τ (lyt σ on 1)) k j = true → gF ν' 98 20 = nI k) ∧ (fa (cdl τ (lyt σ on 1)) j k = true → gF ν' 98 20 = nI j) ∧ (fa (cdl τ (lyt σ on 1)) k j = false → fa (cdl τ (lyt σ on 1)) j k = false → gF ν' 98 20 = -1 ∧ HL ν' τ (stn τ σ on)) := by
  have h8 := hw.1
  obtain ⟨hR, hE, hl, hn⟩ := pas_run hw (lyt σ on 1) (tL τ) (Nat.le_refl _)
  have hS1 : HL (sF (sA ν 104 (upd (gA ν 104) on (gA ν 104 on + 1))) 98 20 (-1)) τ (lyt σ on 1) := by
    intro x hx
    rw [gA_sF, gA_sA, if_neg (by decide), gA_sA, if_pos rfl, (hS on ho).2]
    refine ⟨(hS x hx).1, ?_⟩
    show _ = upd σ.2.1 on _ x
    unfold upd
    split
    · rfl
    · exact (hS x hx).2
  have hT1 : MT (gA (sF (sA ν 104 (upd (gA ν 104) on (gA ν 104 on + 1))) 98 20 (-1)) 99) τ := by rw [gA_sF, gA_sA, if_neg (by decide)]; exact hT
  obtain ⟨ν1, e1, o1, a1, b1, d1⟩ := m_pty hw hk hj hkj (pas τ (tL τ) (lyt σ on 1)).1 av_big (lyt σ on 1) (pas τ (tL τ) (lyt σ on 1)).2 _ (by show _ < 1000000; omega) hT1 hS1 hR hE (by rw [gF_sF, if_pos rfl, if_pos rfl])
  refine ⟨ν1, ?_, ((PO.sA (Or.inr rfl)).tr PO.sF).tr o1, a1, b1, fun x y => ⟨(d1 x y).1, (d1 x y).2⟩⟩
  unfold fX12_goParty
  rw [rd_nI av_l104 (by omega) (by omega), bs, wr_nI av_l104 (by omega) (by omega), bs, bs, m_hd hw hT1 hS1 hR hE, bs]
  exact e1
/-- what was laid by for turn t -/
def SV (ν : Mem) (τ : Td) (t : Nat) (σ : Hd) : Prop := ∀ i, i < tL τ → gA ν 109 (8 * t + i) = σ.1 i ∧ gA ν 110 (8 * t + i) = σ.2.1 i
theorem ix_t (t i : Nat) : ((8 : Int32) * nI t) + nI i = nI (8 * t + i) := by
  rw [show (8 : Int32) = nI 8 from rfl, pk_mul, nI_add]
theorem m_lt16 {t : Nat} (ht : t ≤ 4) : ∀ (d f i : Nat) (ν : Mem), d = 8 - i → i ≤ 8 → d < f → (∀ x, x < i → gA ν 109 (8 * t + x) = gA ν 103 x ∧ gA ν 110 (8 * t + x) = gA ν 104 x) → ∃ ν', fX12_layTurn_16 f (nI t) (nI i) ν = some ν' ∧ (∀ a k, gF ν' a k = gF ν a k) ∧ gL ν' = gL ν ∧ (∀ a, a ≠ 109 → a ≠ 110 → gA ν' a = gA ν a) ∧ (∀ x, x < 8 → gA ν' 109 (8 * t + x) = gA ν 103 x ∧ gA ν' 110 (8 * t + x) = gA ν 104 x) ∧ (∀ x, x < 8 * t → gA ν' 109 x = gA ν 109 x ∧ gA ν' 110 x = gA ν 110 x)
  | 0, f, i, ν, hd, hi, hf, hx => by
    obtain ⟨f, rfl⟩ : ∃ g, f = g + 1 := ⟨f - 1, by omega⟩
    obtain rfl : i = 8 := by omega
    refine ⟨ν, ?_, fun _ _ => rfl, rfl, fun _ _ _ => rfl, hx, fun _ _ => ⟨rfl, rfl⟩⟩
    rw [fX12_layTurn_16]
    dsimp only
    rw [if_pos (by decide)]
  | d + 1, f, i, ν, hd, hi, hf, hx => by
    obtain ⟨f, rfl⟩ : ∃ g, f = g + 1 := ⟨f - 1, by omega⟩
    have i8 : ¬ (8 : Int32) ≤ nI i := nI_ge (b := 8) (by omega) (by decide)
    have ga : ∀ a, a ≠ 109 → a ≠ 110 → gA (sA (sA ν 109 (upd (gA ν 109) (8 * t + i) (gA ν 103 i))) 110 (upd (gA ν 110) (8 * t + i) (gA ν 104 i))) a = gA ν a := fun a h1 h2 => by rw [gA_sA, if_neg h2, gA_sA, if_neg h1]
    have g9 : gA (sA (sA ν 109 (upd (gA ν 109) (8 * t + i) (gA ν 103 i))) 110 (upd (gA ν 110) (8 * t + i) (gA ν 104 i))) 109 = upd (gA ν 109) (8 * t + i) (gA ν 103 i) := by rw [gA_sA, if_neg (by decide), gA_sA, if_pos rfl]
    have g10 : gA (sA (sA ν 109 (upd (gA ν 109) (8 * t + i) (gA ν 103 i))) 110 (upd (gA ν 110) (8 * t + i) (gA ν 104 i))) 110 = upd (gA ν 110) (8 * t + i) (gA ν 104 i) := by rw [gA_sA, if_pos rfl]
    obtain ⟨ν2, e2, f2, l2, a2, b2, d2⟩ := m_lt16 ht d f (i + 1) (sA (sA ν 109 (upd (gA ν 109) (8 * t + i) (gA ν 103 i))) 110 (upd (gA ν 110) (8 * t + i) (gA ν 104 i))) (by omega) (by omega) (by omega) (fun x hx' => by
      rw [g9, g10, ga 103 (by decide) (by decide), ga 104 (by decide) (by decide)]
      by_cases e : x = i
      · rw [e, pk_us, pk_us]; exact ⟨rfl, rfl⟩
      · rw [pk_un (by omega), pk_un (by omega)]; exact hx x (by omega))
    refine ⟨ν2, ?_, f2, l2, fun a h1 h2 => (a2 a h1 h2).trans (ga a h1 h2), ?_, fun x hx' => ?_⟩
    · rw [fX12_layTurn_16]
      dsimp only
      rw [if_neg i8, ix_t, rd_nI av_l103 (by omega) (by omega), bs, wr_nI av_l109 (by omega) (by omega), bs, rd_nI av_l104 (by omega) (by omega), bs, gA_sA, if_neg (by decide), wr_nI av_l110 (by omega) (by omega), bs, bs, nI_1, gA_sA, if_neg (by decide)]
      exact e2
    · rw [ga 103 (by decide) (by decide), ga 104 (by decide) (by decide)] at b2
      exact b2
    · have := d2 x hx'
      rw [g9, g10, pk_un (by omega), pk_un (by omega)] at this
      exact this
theorem m_layTurn {t : Nat} {ν : Mem} {τ : Td} {σ : Hd} (ht : t ≤ 4) (hw : WT τ) (hS : HL ν τ σ) : ∃ ν', fX12_layTurn (nI t) ν = some ν' ∧ (∀ a k, gF ν' a k = gF ν a k) ∧ KM ν ν' ∧ (∀ a, a < 107 ∨ 110 < a → gA ν' a = gA ν a) ∧ gA ν' 107 t = 0 ∧ gA ν' 108 t = -1 ∧ SV ν' τ t σ ∧ (∀ y, y ≠ t → gA ν' 107 y = gA ν 107 y ∧ gA ν' 108 y = gA ν 108 y) ∧ (∀ x, x < 8 * t → gA ν' 109 x = gA ν 109 x ∧ gA ν' 110 x = gA ν 110 x) := by
  have l8 := hw.1
  have ga : ∀ a, a ≠ 107 → a ≠ 108 → gA (sA (sA ν 107 (upd (gA ν 107) t 0)) 108 (upd (gA ν 108) t (-1))) a = gA ν a := fun a h1 h2 => by rw [gA_sA, if_neg h2, gA_sA, if_neg h1]
  have g7 : gA (sA (sA ν 107 (upd (gA ν 107) t 0)) 108 (upd (gA ν 108) t (-1))) 107 = upd (gA ν 107) t 0 := by rw [gA_sA, if_neg (by decide), gA_sA, if_pos rfl]
  have g8 : gA (sA (sA ν 107 (upd (gA ν 107) t 0)) 108 (upd (gA ν 108) t (-1))) 108 = upd (gA ν 108) t (-1) := by rw [gA_sA, if_pos rfl]
  obtain ⟨ν2, e2, f2, l2, a2, b2, d2⟩ := m_lt16 ht 8 av_big 0 (sA (sA ν 107 (upd (gA ν 107) t 0)) 108 (upd (gA ν 108) t (-1))) (by omega) (by omega) (by show _ < 1000000; omega) (fun x hx => by omega)
  rw [ga 103 (by decide) (by decide), ga 104 (by decide) (by decide)] at b2
  rw [ga 109 (by decide) (by decide), ga 110 (by decide) (by decide)] at d2
  rw [nI_0] at e2
  have aa : ∀ a, a < 107 ∨ 110 < a → gA ν2 a = gA ν a := fun a h => (a2 a (by omega) (by omega)).trans (ga a (by omega) (by omega))
  refine ⟨ν2, ?_, f2, ⟨f2 98 22, l2, fun a ha => aa a (by omega)⟩, aa, ?_, ?_, fun i hi => ?_, fun y hy => ?_, d2⟩
  · unfold fX12_layTurn
    rw [wr_nI av_l107 (by omega) (by omega), bs, wr_nI av_l108 (by omega) (by omega), bs, gA_sA, if_neg (by decide)]
    exact e2
  · rw [a2 107 (by decide) (by decide), g7, pk_us]
  · rw [a2 108 (by decide) (by decide), g8, pk_us]
  · rw [(b2 i (by omega)).1, (b2 i (by omega)).2]; exact hS i hi
  · rw [a2 107 (by decide) (by decide), g7, pk_un hy, a2 108 (by decide) (by decide), g8, pk_un hy]
    exact ⟨rfl, rfl⟩
theorem m_bk2 {t : Nat} (ht : t ≤ 4) : ∀ (d f i : Nat) (ν : Mem), d = 8 - i → i ≤ 8 → d < f → (∀ x, x < i → gA ν 103 x = gA ν 109 (8 * t + x) ∧ gA ν 104 x = gA ν 110 (8 * t + x)) → ∃ ν', fX12_backTo_2 f (nI t) (nI i) ν = some ν' ∧ (∀ a k, gF ν' a k = gF ν a k) ∧ gL ν' = gL ν ∧ (∀ a, a ≠ 103 → a ≠ 104 → gA ν' a = gA ν a) ∧ (∀ x, x < 8 → gA ν' 103 x = gA ν 109 (8 * t + x) ∧ gA ν' 104 x = gA ν 110 (8 * t + x))
  | 0, f, i, ν, hd, hi, hf, hx => by
    obtain ⟨f, rfl⟩ : ∃ g, f = g + 1 := ⟨f - 1, by omega⟩
    obtain rfl : i = 8 := by omega
    refine ⟨ν, ?_, fun _ _ => rfl, rfl, fun _ _ _ => rfl, hx⟩
    rw [fX12_backTo_2]
    dsimp only
    rw [if_pos (by decide)]
  | d + 1, f, i, ν, hd, hi, hf, hx => by
    obtain ⟨f, rfl⟩ : ∃ g, f = g + 1 := ⟨f - 1, by omega⟩
    have i8 : ¬ (8 : Int32) ≤ nI i := nI_ge (b := 8) (by omega) (by decide)
    have ga : ∀ a, a ≠ 103 → a ≠ 104 → gA (sA (sA ν 103 (upd (gA ν 103) i (gA ν 109 (8 * t + i)))) 104 (upd (gA ν 104) i (gA ν 110 (8 * t + i)))) a = gA ν a := fun a h1 h2 => by rw [gA_sA, if_neg h2, gA_sA, if_neg h1]
    have g3 : gA (sA (sA ν 103 (upd (gA ν 103) i (gA ν 109 (8 * t + i)))) 104 (upd (gA ν 104) i (gA ν 110 (8 * t + i)))) 103 = upd (gA ν 103) i (gA ν 109 (8 * t + i)) := by rw [gA_sA, if_neg (by decide), gA_sA, if_pos rfl]
    have g4 : gA (sA (sA ν 103 (upd (gA ν 103) i (gA ν 109 (8 * t + i)))) 104 (upd (gA ν 104) i (gA ν 110 (8 * t + i)))) 104 = upd (gA ν 104) i (gA ν 110 (8 * t + i)) := by rw [gA_sA, if_pos rfl]
    obtain ⟨ν2, e2, f2, l2, a2, b2⟩ := m_bk2 ht d f (i + 1) (sA (sA ν 103 (upd (gA ν 103) i (gA ν 109 (8 * t + i)))) 104 (upd (gA ν 104) i (gA ν 110 (8 * t + i)))) (by omega) (by omega) (by omega) (fun x hx' => by
      rw [g3, g4, ga 109 (by decide) (by decide), ga 110 (by decide) (by decide)]
      by_cases e : x = i
      · rw [e, pk_us, pk_us]; exact ⟨rfl, rfl⟩
      · rw [pk_un e, pk_un e]; exact hx x (by omega))
    refine ⟨ν2, ?_, f2, l2, fun a h1 h2 => (a2 a h1 h2).trans (ga a h1 h2), ?_⟩
    · rw [fX12_backTo_2]
      dsimp only
      rw [if_neg i8, ix_t, rd_nI av_l109 (by omega) (by omega), bs, wr_nI av_l103 (by omega) (by omega), bs, rd_nI av_l110 (by omega) (by omega), bs, gA_sA, if_neg (by decide), wr_nI av_l104 (by omega) (by omega), bs, bs, nI_1, gA_sA, if_neg (by decide)]
      exact e2
    · rw [ga 109 (by decide) (by decide), ga 110 (by decide) (by decide)] at b2
      exact b2
theorem m_backTo {t : Nat} {ν : Mem} {τ : Td} {σ : Hd} (ht : t ≤ 4) (hw : WT τ) (hV : SV ν τ t σ) : ∃ ν', fX12_backTo (nI t) ν = some ν' ∧ (∀ a k, gF ν' a k = gF ν a k) ∧ gL ν' = gL ν ∧ (∀ a, a ≠ 103 → a ≠ 104 → gA ν' a = gA ν a) ∧ HL ν' τ σ := by
  have l8 := hw.1
  obtain ⟨ν2, e2, f2, l2, a2, b2⟩ := m_bk2 ht 8 av_big 0 ν (by omega) (by omega) (by show _ < 1000000; omega) (fun x hx => by omega)
  rw [nI_0] at e2
  refine ⟨ν2, e2, f2, l2, a2, fun i hi => ?_⟩
  rw [(b2 i (by omega)).1, (b2 i (by omega)).2]
  exact hV i hi
theorem m_judge {t i x : Nat} {b : Option Nat} {ν : Mem} (ht : t ≤ 4) (hx : x ≤ 2) (hb : ∀ y, b = some y → y ≤ 2) (h7 : gA ν 107 t = nI i) (h8 : gA ν 108 t = bI b) : ∃ ν', fX12_judge (nI t) (nI x) ν = some ν' ∧ (∀ a k, (a ≠ 98 ∨ k ≠ 19) → gF ν' a k = gF ν a k) ∧ gL ν' = gL ν ∧ (∀ a, a ≠ 107 → a ≠ 108 → gA ν' a = gA ν a) ∧ (∀ y, y ≠ t → gA ν' 107 y = gA ν 107 y ∧ gA ν' 108 y = gA ν 108 y) ∧ gA ν' 107 t = nI (i + 1) ∧ gA ν' 108 t = bI (jd (ev t) b x) ∧ gF ν' 98 19 = if t = 0 ∧ bt (ev t) b x = true then nI i else gF ν 98 19 := by
  have r8 : rd ν 108 (nI t) = some (bI b) := by rw [rd_nI av_l108 (by omega) (by omega), h8]
  have e44 : fX12_judge (nI t) (nI x) ν = fX12_judge_44 (nI t) (nI x) (if bt (ev t) b x = true then 1 else 0) ν := by
    unfold fX12_judge fX12_judge_43 fX12_judge_39
    rw [r8, odd_nI (by omega)]
    simp only [bs]
    cases b with
    | none => rw [if_pos (show bI none = -1 from rfl), if_pos (show bt (ev t) none x = true from rfl)]
    | some y =>
      have hy := hb y rfl
      rw [show bI (some y) = nI y from rfl, if_neg (m1_ne (by omega))]
      have h2 : t % 2 = 0 ∨ t % 2 = 1 := by omega
      rcases h2 with h2 | h2
      · rw [h2, if_pos (by decide), show ev t = true from decide_eq_true h2]
        unfold bt
        simp only [if_true, decide_eq_true_eq]
        by_cases c : y < x
        · rw [if_neg (nI_ge c (by omega)), if_pos c]
        · rw [if_pos (nI_le (by omega) (by omega)), if_neg c]
      · rw [h2, if_neg (by decide), show ev t = false from decide_eq_false (by omega)]
        unfold bt
        simp only [Bool.false_eq_true, if_false, decide_eq_true_eq]
        by_cases c : x < y
        · rw [if_neg (nI_ge c (by omega)), if_pos c]
        · rw [if_pos (nI_le (by omega) (by omega)), if_neg c]
  have e64 : fX12_judge_44 (nI t) (nI x) (if bt (ev t) b x = true then 1 else 0) ν = fX12_judge_64 (nI t) (if bt (ev t) b x = true then 1 else 0) 108 (nI t) (bI (jd (ev t) b x)) ν := by
    unfold fX12_judge_44 jd
    by_cases c : bt (ev t) b x = true
    · rw [if_pos c, if_neg n10, if_pos c]; rfl
    · rw [if_neg c, if_pos rfl, r8, bs, if_neg c]
  have g8 : gA (sA ν 108 (upd (gA ν 108) t (bI (jd (ev t) b x)))) 108 = upd (gA ν 108) t (bI (jd (ev t) b x)) := by rw [gA_sA, if_pos rfl]
  have g7 : gA (sA ν 108 (upd (gA ν 108) t (bI (jd (ev t) b x)))) 107 = gA ν 107 := by rw [gA_sA, if_neg (by decide)]
  have e87 : fX12_judge (nI t) (nI x) ν = fX12_judge_87 (nI t) (if t = 0 ∧ bt (ev t) b x = true then nI i else gF ν 98 19) (sA ν 108 (upd (gA ν 108) t (bI (jd (ev t) b x)))) := by
    rw [e44, e64]
    unfold fX12_judge_64 fX12_judge_83
    rw [wr_nI av_l108 (by omega) (by omega), bs, gF_sA]
    by_cases c : bt (ev t) b x = true
    · rw [if_pos c, if_neg n10]
      by_cases c0 : t = 0
      · rw [if_pos (show nI t = 0 by rw [c0]; rfl), if_pos ⟨c0, c⟩, show (0 : Int32) = nI 0 from rfl, rd_nI av_l107 (by decide) (by decide), bs, g7]
        rw [c0] at h7
        rw [h7]
      · rw [if_neg (nI_ne0 (by omega) (by omega)), if_neg (fun h => c0 h.1)]
    · rw [if_neg c, if_pos rfl, if_neg (fun h => c h.2)]
  generalize (if t = 0 ∧ bt (ev t) b x = true then nI i else gF ν 98 19) = w at *
  refine ⟨sA (sF (sA ν 108 (upd (gA ν 108) t (bI (jd (ev t) b x)))) 98 19 w) 107 (upd (gA ν 107) t (nI (i + 1))), ?_, fun a k h => ?_, rfl, fun a h1 h2 => ?_, fun y hy => ?_, ?_, ?_, ?_⟩
  · rw [e87]
    unfold fX12_judge_87
    rw [bs, rd_nI av_l107 (by omega) (by omega), bs, gA_sF, g7, h7, nI_1, wr_nI av_l107 (by omega) (by omega), bs, gA_sF, g7]
  · rw [gF_sA, gF_sF]
    split
    · split
      · omega
      · rfl
    · rfl
  · rw [gA_sA, if_neg h1, gA_sF, gA_sA, if_neg h2]
  · rw [gA_sA, if_pos rfl, pk_un hy, gA_sA, if_neg (by decide), gA_sF, g8, pk_un hy]
    exact ⟨rfl, rfl⟩
  · rw [gA_sA, if_pos rfl, pk_us]
  · rw [gA_sA, if_neg (by decide), gA_sF, g8, pk_us]
  · rw [gF_sA, gF_sF, if_pos rfl, if_pos rfl]
/-- what lies by for the turns ahead of t stays -/
def PG (t : Nat) (ν ν' : Mem) : Prop := KM ν ν' ∧ (∀ i, i < t → gA ν' 107 i = gA ν 107 i ∧ gA ν' 108 i = gA ν 108 i) ∧ (∀ i, i < 8 * t → gA ν' 109 i = gA ν 109 i ∧ gA ν' 110 i = gA ν 110 i)
theorem PG.rf {t : Nat} {ν : Mem} : PG t ν ν := ⟨KM.rf, fun _ _ => ⟨rfl, rfl⟩, fun _ _ => ⟨rfl, rfl⟩⟩
theorem PG.tr {t : Nat} {ν ν1 ν2 : Mem} (h1 : PG t ν ν1) (h2 : PG t ν1 ν2) : PG t ν ν2 := ⟨h1.1.tr h2.1, fun i hi => ⟨(h2.2.1 i hi).1.trans (h1.2.1 i hi).1, (h2.2.1 i hi).2.trans (h1.2.1 i hi).2⟩, fun i hi => ⟨(h2.2.2 i hi).1.trans (h1.2.2 i hi).1, (h2.2.2 i hi).2.trans (h1.2.2 i hi).2⟩⟩
theorem PG.up {t : Nat} {ν ν' : Mem} (h : PG (t + 1) ν ν') : PG t ν ν' := ⟨h.1, fun i hi => h.2.1 i (by omega), fun i hi => h.2.2 i (by omega)⟩
theorem PG.ar {t : Nat} {ν ν' : Mem} (h0 : KM ν ν') (h : ∀ a, a = 107 ∨ a = 108 ∨ a = 109 ∨ a = 110 → gA ν' a = gA ν a) : PG t ν ν' := ⟨h0, fun i _ => by rw [h 107 (by omega), h 108 (by omega)]; exact ⟨rfl, rfl⟩, fun i _ => by rw [h 109 (by omega), h 110 (by omega)]; exact ⟨rfl, rfl⟩⟩
theorem SV_keep {ν ν' : Mem} {τ : Td} {t : Nat} {σ : Hd} (hw : WT τ) (h : PG (t + 1) ν ν') (hV : SV ν τ t σ) : SV ν' τ t σ := by
  have l8 := hw.1
  intro i hi
  rw [(h.2.2 (8 * t + i) (by omega)).1, (h.2.2 (8 * t + i) (by omega)).2]
  exact hV i hi
def kst : Nat → Nat
  | 0 => 1
  | m + 1 => 8 * (1 + kst m) + 1
def SubP (τ : Td) (k j N m : Nat) : Prop := ∀ (t F : Nat) (σ : Hd) (ν : Mem), t + m = N → 1 ≤ t → kst m ≤ F → MT (gA ν 99) τ → HL ν τ σ → SV ν τ t σ → gA ν 107 t = 0 → gA ν 108 t = -1 → ∃ F' ν', F ≤ F' + kst m ∧ fX12_layParties_12 F (nI k) (nI j) (nI N) (nI t) ν = fX12_layParties_67 (fX12_layParties_12 F') (nI k) (nI j) (nI N) (nI t) (nI (mm τ k j m (ev t) σ)) ν' ∧ PG t ν ν' ∧ gF ν' 98 19 = gF ν 98 19
theorem m_try {τ : Td} {k j N m t : Nat} (hw : WT τ) (hk : k < tL τ) (hj : j < tL τ) (hkj : k ≠ j) (hN : N ≤ 4) (hsub : SubP τ k j N m) (ht : t + (m + 1) = N) {F i : Nat} {σ : Hd} {ν : Mem} {b : Option Nat} (hF : kst m ≤ F) (hi : i < tL τ) (hT : MT (gA ν 99) τ) (hS : HL ν τ σ) (hV : SV ν τ t σ) (h7 : gA ν 107 t = nI i) (h8 : gA ν 108 t = bI b) (hb : ∀ y, b = some y → y ≤ 2) : ∃ F' ν', F ≤ F' + kst m ∧ fX12_layParties_30 (fX12_layParties_12 F) (nI k) (nI j) (nI N) (nI t) ν = fX12_layParties_12 F' (nI k) (nI j) (nI N) (nI t) ν' ∧ PG t ν ν' ∧ HL ν' τ σ ∧ SV ν' τ t σ ∧ gA ν' 107 t = nI (i + 1) ∧ gA ν' 108 t = bI (jd (ev t) b (oco τ k j (mm τ k j m (ev (t + 1))) σ i)) ∧ gF ν' 98 19 = if t = 0 ∧ bt (ev t) b (oco τ k j (mm τ k j m (ev (t + 1))) σ i) = true then nI i else gF ν 98 19 := by
  have l8 := hw.1
  obtain ⟨ν1, e1, o1, a1, b1, d1⟩ := m_goParty hw hk hj hkj hi hT hS
  have r7 : rd ν 107 (nI t) = some (nI i) := by rw [rd_nI av_l107 (by omega) (by omega), h7]
  have st : fX12_layParties_30 (fX12_layParties_12 F) (nI k) (nI j) (nI N) (nI t) ν = if (gF ν1 98 20) = (-1) then ((fX12_layTurn (nI (t + 1)) ν1).bind fun μ144 => fX12_layParties_12 F (nI k) (nI j) (nI N) (nI (t + 1)) μ144) else ((fX12_backTo (nI t) ν1).bind fun μ113 => if (gF μ113 98 20) = nI k then (fX12_layParties_132 (fX12_layParties_12 F) (nI k) (nI j) (nI N) (nI t) (nI t) 2 μ113) else (fX12_layParties_132 (fX12_layParties_12 F) (nI k) (nI j) (nI N) (nI t) (nI t) 0 μ113)) := by
    unfold fX12_layParties_30
    rw [if_neg (fun e => by have := (nI_eq (by omega) (by omega)).mp e; omega), r7, m_ledges hT, bs, bs, if_neg (fun e => by have := (nI_eq (by omega) (by omega)).mp e; omega), bs, e1, bs, bs, nI_1]
  have A1 : ∀ a, a ≠ 103 → a ≠ 104 → gA ν1 a = gA ν a := o1.2.2
  have V1 : SV ν1 τ t σ := by
    intro x hx
    rw [A1 109 (by decide) (by decide), A1 110 (by decide) (by decide)]
    exact hV x hx
  -- the end of a try
  have fin : ∀ (x : Nat) (c : Nat) (ν2 : Mem), x ≤ 2 → c < 8 → gF ν1 98 20 = nI c → x = oco τ k j (mm τ k j m (ev (t + 1))) σ i → ∃ F' ν', F ≤ F' + kst m ∧ ((fX12_backTo (nI t) ν1).bind fun μ113 => fX12_layParties_132 (fX12_layParties_12 F) (nI k) (nI j) (nI N) (nI t) (nI t) (nI x) μ113) = fX12_layParties_12 F' (nI k) (nI j) (nI N) (nI t) ν' ∧ PG t ν ν' ∧ HL ν' τ σ ∧ SV ν' τ t σ ∧ gA ν' 107 t = nI (i + 1) ∧ gA ν' 108 t = bI (jd (ev t) b (oco τ k j (mm τ k j m (ev (t + 1))) σ i)) ∧ gF ν' 98 19 = if t = 0 ∧ bt (ev t) b (oco τ k j (mm τ k j m (ev (t + 1))) σ i) = true then nI i else gF ν 98 19 := by
    intro x c _ hx hc hg ex
    obtain ⟨ν2, e2, f2, l2, a2, h2⟩ := m_backTo (by omega) hw V1
    obtain ⟨ν3, e3, f3, l3, a3, y3, p3, q3, z3⟩ := m_judge (t := t) (i := i) (x := x) (b := b) (ν := ν2) (by omega) hx hb (by rw [a2 107 (by decide) (by decide), A1 107 (by decide) (by decide)]; exact h7) (by rw [a2 108 (by decide) (by decide), A1 108 (by decide) (by decide)]; exact h8)
    have aa : ∀ a, a ≠ 103 → a ≠ 104 → a ≠ 107 → a ≠ 108 → gA ν3 a = gA ν a := fun a x1 x2 x3 x4 => (a3 a x3 x4).trans ((a2 a x1 x2).trans (A1 a x1 x2))
    refine ⟨F, ν3, by omega, ?_, ⟨⟨?_, ?_, fun a ha => aa a (by omega) (by omega) (by omega) (by omega)⟩, fun y hy => ?_, fun y _ => ?_⟩, fun x hx => ?_, fun x hx => ?_, p3, ?_, ?_⟩
    · unfold fX12_layParties_132
      rw [e2, bs, e3, bs]
    · rw [f3 98 22 (by omega), f2, o1.1 98 22 (by omega)]
    · rw [l3, l2, o1.2.1]
    · rw [(y3 y (by omega)).1, (y3 y (by omega)).2, a2 107 (by decide) (by decide), a2 108 (by decide) (by decide), A1 107 (by decide) (by decide), A1 108 (by decide) (by decide)]
      exact ⟨rfl, rfl⟩
    · rw [aa 109 (by decide) (by decide) (by decide) (by decide), aa 110 (by decide) (by decide) (by decide) (by decide)]
      exact ⟨rfl, rfl⟩
    · rw [a3 103 (by decide) (by decide), a3 104 (by decide) (by decide)]
      exact h2 x hx
    · rw [aa 109 (by decide) (by decide) (by decide) (by decide), aa 110 (by decide) (by decide) (by decide) (by decide)]
      exact hV x hx
    · rw [q3, ex]
    · rw [z3, ex, f2, o1.1 98 19 (by omega)]
  rw [st]
  by_cases c1 : fa (cdl τ (lyt σ i 1)) k j = true
  · obtain ⟨ν2, e2, f2, -⟩ := m_backTo (by omega) hw V1
    have hf := fin 2 k ν1 (by omega) (by omega) (a1 c1) (by unfold oco; rw [if_pos c1])
    rw [e2, bs] at hf
    rw [a1 c1, if_neg (m1_ne (by omega)), e2, bs, f2, a1 c1, if_pos rfl]
    exact hf
  · by_cases c2 : fa (cdl τ (lyt σ i 1)) j k = true
    · obtain ⟨ν2, e2, f2, -⟩ := m_backTo (by omega) hw V1
      have hf := fin 0 j ν1 (by omega) (by omega) (b1 c2) (by unfold oco; rw [if_neg c1, if_pos c2])
      rw [e2, bs] at hf
      rw [b1 c2, if_neg (m1_ne (by omega)), e2, bs, f2, b1 c2, if_neg (fun e => hkj ((nI_eq (by omega) (by omega)).mp e).symm)]
      exact hf
    · obtain ⟨g20, h1⟩ := d1 (by simpa using c1) (by simpa using c2)
      obtain ⟨ν2, e2, f2, k2, a2, p2, q2, v2, y2, x2⟩ := m_layTurn (t := t + 1) (by omega) hw h1
      have T2 : MT (gA ν2 99) τ := by rw [a2 99 (by omega), A1 99 (by decide) (by decide)]; exact hT
      have H2 : HL ν2 τ (stn τ σ i) := by
        intro x hx
        rw [a2 103 (by omega), a2 104 (by omega)]
        exact h1 x hx
      obtain ⟨F', ν3, hF', e3, g3, z3⟩ := hsub (t + 1) F (stn τ σ i) ν2 (by omega) (by omega) hF T2 H2 v2 p2 q2
      have G1 : PG (t + 1) ν ν1 := PG.ar o1.km (fun a ha => A1 a (by omega) (by omega))
      have G2 : PG (t + 1) ν1 ν2 := ⟨k2, fun y hy => y2 y (by omega), x2⟩
      have G3 : PG (t + 1) ν ν3 := (G1.tr G2).tr g3
      have V3 := SV_keep hw G3 hV
      obtain ⟨ν4, e4, f4, l4, a4, h4⟩ := m_backTo (by omega) hw V3
      obtain ⟨ν5, e5, f5, l5, a5, y5, p5, q5, z5⟩ := m_judge (t := t) (i := i) (x := mm τ k j m (ev (t + 1)) (stn τ σ i)) (b := b) (ν := ν4) (by omega) (mm_le _ _ _) hb (by rw [a4 107 (by decide) (by decide), (G3.2.1 t (by omega)).1]; exact h7) (by rw [a4 108 (by decide) (by decide), (G3.2.1 t (by omega)).2]; exact h8)
      have eo : oco τ k j (mm τ k j m (ev (t + 1))) σ i = mm τ k j m (ev (t + 1)) (stn τ σ i) := by unfold oco; rw [if_neg c1, if_neg c2]
      refine ⟨F', ν5, hF', ?_, ⟨⟨?_, ?_, fun a ha => ?_⟩, fun y hy => ?_, fun y hy => ?_⟩, fun x hx => ?_, fun x hx => ?_, p5, ?_, ?_⟩
      · rw [g20, if_pos rfl, e2, bs, e3]
        unfold fX12_layParties_67
        rw [pk_m1, bs, e4, bs, e5, bs]
      · rw [f5 98 22 (by omega), f4]; exact G3.1.1
      · rw [l5, l4]; exact G3.1.2.1
      · rw [a5 a (by omega) (by omega), a4 a (by omega) (by omega)]; exact G3.1.2.2 a ha
      · rw [(y5 y (by omega)).1, (y5 y (by omega)).2, a4 107 (by decide) (by decide), a4 108 (by decide) (by decide)]
        exact G3.2.1 y (by omega)
      · rw [a5 109 (by decide) (by decide), a5 110 (by decide) (by decide), a4 109 (by decide) (by decide), a4 110 (by decide) (by decide)]
        exact G3.2.2 y (by omega)
      · rw [a5 103 (by decide) (by decide), a5 104 (by decide) (by decide)]; exact h4 x hx
      · rw [a5 109 (by decide) (by decide), a5 110 (by decide) (by decide), a4 109 (by decide) (by decide), a4 110 (by decide) (by decide)]
        exact V3 x hx
      · rw [q5, eo]
      · rw [z5, eo, f4, z3, f2, o1.1 98 19 (by omega)]
theorem m_sub {τ : Td} {k j N : Nat} (hw : WT τ) (hk : k < tL τ) (hj : j < tL τ) (hkj : k ≠ j) (hN : N ≤ 4) : ∀ m, SubP τ k j N m
  | 0 => by
    intro t F σ ν ht h1 hF hT hS hV h7 h8
    have k0 : kst 0 = 1 := rfl
    obtain ⟨F, rfl⟩ : ∃ g, F = g + 1 := ⟨F - 1, by omega⟩
    obtain rfl : t = N := by omega
    have p0 : (0 : Int32) < nI t := nI_lt (a := 0) (by omega) (by omega)
    refine ⟨F, ν, by omega, ?_, PG.rf, rfl⟩
    rw [fX12_layParties_12]
    dsimp only
    unfold fX12_layParties_30 fX12_layParties_50
    rw [if_pos p0, if_pos rfl, if_pos rfl]
    rfl
  | m + 1 => by
    intro t F σ ν ht h1 hF hT hS hV h7 h8
    have l8 := hw.1
    have hs := m_sub hw hk hj hkj hN m
    have p0 : (0 : Int32) < nI t := nI_lt (a := 0) (by omega) (by omega)
    have tN : ¬ nI t = nI N := fun e => by have := (nI_eq (by omega) (by omega)).mp e; omega
    have og : ∀ o, oco τ k j (mm τ k j m (ev (t + 1))) σ o ≤ 2 := fun o => oco_le
    have lp : ∀ (d F i : Nat) (ν1 : Mem), d = tL τ - i → i ≤ tL τ → d * (1 + kst m) + 1 ≤ F → MT (gA ν1 99) τ → HL ν1 τ σ → SV ν1 τ t σ → gA ν1 107 t = nI i → gA ν1 108 t = bI (fo (ev t) (oco τ k j (mm τ k j m (ev (t + 1))) σ) i) → ∃ F' ν', F ≤ F' + (d * (1 + kst m) + 1) ∧ fX12_layParties_12 F (nI k) (nI j) (nI N) (nI t) ν1 = fX12_layParties_67 (fX12_layParties_12 F') (nI k) (nI j) (nI N) (nI t) (bI (fo (ev t) (oco τ k j (mm τ k j m (ev (t + 1))) σ) (tL τ))) ν' ∧ PG t ν1 ν' ∧ gF ν' 98 19 = gF ν1 98 19 := by
      intro d
      induction d with
      | zero =>
        intro F i ν1 hd hi hF hT hS hV h7 h8
        obtain ⟨F, rfl⟩ : ∃ g, F = g + 1 := ⟨F - 1, by omega⟩
        obtain rfl : i = tL τ := by omega
        refine ⟨F, ν1, by omega, ?_, PG.rf, rfl⟩
        rw [fX12_layParties_12]
        dsimp only
        unfold fX12_layParties_30 fX12_layParties_50
        rw [if_pos p0, if_neg tN, rd_nI av_l107 (by omega) (by omega), h7, bs, m_ledges hT, bs, if_pos rfl, if_neg tN, rd_nI av_l108 (by omega) (by omega), h8, bs]
      | succ d ihd =>
        intro F i ν1 hd hi hF hT hS hV h7 h8
        rw [Nat.add_mul, Nat.one_mul] at hF
        obtain ⟨F, rfl⟩ : ∃ g, F = g + 1 := ⟨F - 1, by omega⟩
        obtain ⟨F1, ν2, hF1, e2, g2, s2, v2, p2, q2, z2⟩ := m_try (F := F) (i := i) hw hk hj hkj hN hs ht (by omega) (by omega) hT hS hV h7 h8 (fo_le og i)
        obtain ⟨F2, ν3, hF2, e3, g3, z3⟩ := ihd F1 (i + 1) ν2 (by omega) (by omega) (by omega) (by rw [g2.1.2.2 99 (by omega)]; exact hT) s2 v2 p2 q2
        refine ⟨F2, ν3, by rw [Nat.add_mul, Nat.one_mul]; omega, ?_, g2.tr g3, ?_⟩
        · rw [fX12_layParties_12]
          dsimp only
          rw [if_pos p0, e2]
          exact e3
        · rw [z3, z2, if_neg (fun h => by omega)]
    have hL : tL τ * (1 + kst m) ≤ 8 * (1 + kst m) := Nat.mul_le_mul_right _ l8
    have hK : kst (m + 1) = 8 * (1 + kst m) + 1 := rfl
    obtain ⟨F', ν', hF', e', g', z'⟩ := lp (tL τ) F 0 ν (by omega) (by omega) (by omega) hT hS hV (by rw [h7]; rfl) h8
    obtain ⟨y, hy⟩ := fo_some (A := ev t) (g := oco τ k j (mm τ k j m (ev (t + 1))) σ) (n := tL τ) (by omega)
    refine ⟨F', ν', by omega, ?_, g', z'⟩
    rw [e', mm, ← ev_suc, hy]
    rfl
theorem m_top {τ : Td} {k j m : Nat} {σ : Hd} (hw : WT τ) (hk : k < tL τ) (hj : j < tL τ) (hkj : k ≠ j) (hm : m ≤ 3) : ∀ (d F i : Nat) (ν : Mem), d = tL τ - i → i ≤ tL τ → d * (1 + kst m) + 1 ≤ F → MT (gA ν 99) τ → HL ν τ σ → SV ν τ 0 σ → gA ν 107 0 = nI i → gA ν 108 0 = bI (tp (oco τ k j (mm τ k j m false) σ) i).1 → ((tp (oco τ k j (mm τ k j m false) σ) i).1 ≠ none → gF ν 98 19 = nI (tp (oco τ k j (mm τ k j m false) σ) i).2) → ∃ ν', fX12_layParties_12 F (nI k) (nI j) (nI (m + 1)) (nI 0) ν = some (bI (tp (oco τ k j (mm τ k j m false) σ) (tL τ)).1, ν') ∧ KM ν ν' ∧ ((tp (oco τ k j (mm τ k j m false) σ) (tL τ)).1 ≠ none → gF ν' 98 19 = nI (tp (oco τ k j (mm τ k j m false) σ) (tL τ)).2)
  | 0, F, i, ν, hd, hi, hF, hT, hS, hV, h7, h8, h9 => by
    obtain ⟨F, rfl⟩ : ∃ g, F = g + 1 := ⟨F - 1, by omega⟩
    have l8 := hw.1
    obtain rfl : i = tL τ := by omega
    refine ⟨ν, ?_, KM.rf, h9⟩
    rw [fX12_layParties_12]
    dsimp only
    rw [if_neg (by decide), show (0 : Int32) = nI 0 from rfl, rd_nI av_l107 (by decide) (by decide), h7, bs, m_ledges hT, bs, if_pos (nI_le (by omega) (by omega)), rd_nI av_l108 (by decide) (by decide), h8, bs]
  | d + 1, F, i, ν, hd, hi, hF, hT, hS, hV, h7, h8, h9 => by
    rw [Nat.add_mul, Nat.one_mul] at hF
    obtain ⟨F, rfl⟩ : ∃ g, F = g + 1 := ⟨F - 1, by omega⟩
    have l8 := hw.1
    have og : ∀ o, oco τ k j (mm τ k j m false) σ o ≤ 2 := fun o => oco_le
    have fl := fo_le (A := true) og i
    rw [← tp_fo] at fl
    obtain ⟨F1, ν2, hF1, e2, g2, s2, v2, p2, q2, z2⟩ := m_try (t := 0) (N := m + 1) (F := F) (i := i) hw hk hj hkj (by omega) (m_sub hw hk hj hkj (by omega) m) (by omega) (by omega) (by omega) hT hS hV h7 h8 fl
    rw [show ev (0 + 1) = false from rfl, show ev 0 = true from rfl] at q2 z2
    have hts := tp_suc (g := oco τ k j (mm τ k j m false) σ) (n := i)
    obtain ⟨ν3, e3, k3, h3⟩ := m_top (m := m) hw hk hj hkj hm d F1 (i + 1) ν2 (by omega) (by omega) (by omega) (by rw [g2.1.2.2 99 (by omega)]; exact hT) s2 v2 p2 (by rw [hts]; exact q2) (fun _ => by
      rw [z2, hts]
      by_cases c : bt true (tp (oco τ k j (mm τ k j m false) σ) i).1 (oco τ k j (mm τ k j m false) σ i) = true
      · rw [if_pos ⟨rfl, c⟩]
        show _ = nI (if _ then _ else _)
        rw [if_pos c]
      · rw [if_neg (fun h => c h.2)]
        show _ = nI (if _ then _ else _)
        rw [if_neg c]
        refine h9 (fun e => c ?_)
        rw [e]; rfl)
    refine ⟨ν3, ?_, g2.1.tr k3, h3⟩
    rw [fX12_layParties_12]
    dsimp only
    rw [if_neg (by decide), show (0 : Int32) = nI 0 from rfl, rd_nI av_l107 (by decide) (by decide), h7, bs, m_ledges hT, bs, if_neg (nI_ge (by omega) (by omega)), e2]
    exact e3
theorem kst_le {m : Nat} (h : m ≤ 3) : 8 * (1 + kst m) + 1 ≤ 9361 := by
  have hd : ∀ m, m ≤ 3 → 8 * (1 + kst m) + 1 ≤ 9361 := by decide +kernel
  exact hd m h
theorem st_parties : lw_st_parties Iv := by
  intro i hi a b n w μ ν h
  obtain ⟨z, wz, cz, mz⟩ := h.1
  have l8 := wz.1.1
  unfold fX11_parties fX12_parties fX11_parties_40 fX12_parties_44
  rw [c_isLedge (CTb_CT cz.1), m_isLedge mz.1, c_isLedge (CTb_CT cz.1), m_isLedge mz.1, m_inN 0 1 0 1 rfl rfl, m_inN 1 4 1 4 rfl rfl, w_eq, w_eq]
  simp only [bs]
  by_cases c1 : (0 : Int32) ≤ a ∧ a ≤ nI (tL (zT z)) - 1
  · obtain ⟨k, hk, rfl⟩ := ix_out (by omega) c1
    rw [if_pos c1, if_neg n10, if_neg n10]
    by_cases c2 : (0 : Int32) ≤ b ∧ b ≤ nI (tL (zT z)) - 1
    · obtain ⟨j, hj, rfl⟩ := ix_out (by omega) c2
      rw [if_pos c2, if_neg n10, if_neg n10]
      by_cases c3 : k = j
      · exact bad2_ok (-10) h (by rw [c3, if_pos rfl]) (by rw [c3, if_pos rfl])
      · have c3' : ¬ nI k = nI j := fun e => c3 ((nI_eq (by omega) (by omega)).mp e)
        rw [if_neg c3', if_neg c3']
        by_cases c4 : (1 : Int32) ≤ n ∧ n ≤ 4
        · rw [if_pos c4, if_neg n10, if_neg n10]
          by_cases c5 : (0 : Int32) ≤ w ∧ w ≤ 1
          · rw [if_pos c5, if_neg n10, if_neg n10]
            obtain ⟨m, hm, rfl⟩ : ∃ m, m ≤ 3 ∧ n = nI (m + 1) := by
              have c0 : (0 : Int32) ≤ n := Int32.le_trans (by decide) c4.1
              obtain ⟨t, ht, rfl⟩ := nI_of2 (n := 4) (M := 4) (by decide) (Int32.not_lt.mpr c0) c4.2
              have : t ≠ 0 := fun e => by rw [e] at c4; exact absurd c4.1 (by decide)
              exact ⟨t - 1, by omega, by rw [show t - 1 + 1 = t by omega]⟩
            obtain ⟨μ1, e1, s1, h1⟩ := c_fresh wz.1 cz.2.1
            have hT1 := SO_CT (Or.inr (Or.inl rfl)) s1 (CTb_CT cz.1)
            obtain ⟨μ2, e2, o2, h2⟩ := c_play (m := m) (σ := zH z) wz.1 hk hj c3 hm (tL (zT z)) av_big 0 μ1 (by omega) (by omega) (by show _ < 1000000; omega) hT1 h1 (fun e => absurd rfl e)
            obtain ⟨ν1, f1, q1, g1⟩ := m_layHand wz.1 mz.1 mz.2.1
            have hM1 : MT (gA ν1 99) (zT z) := by rw [HO_99 q1]; exact mz.1
            obtain ⟨ν2, f2, k2, m2, a2, p2, r2, v2, -, -⟩ := m_layTurn (t := 0) (by omega) wz.1 g1.1
            have hM2 : MT (gA ν2 99) (zT z) := by rw [a2 99 (by omega)]; exact hM1
            have kl := kst_le hm
            have hL : tL (zT z) * (1 + kst m) ≤ 8 * (1 + kst m) := Nat.mul_le_mul_right _ l8
            obtain ⟨ν3, f3, k3, g3⟩ := m_top (m := m) (σ := zH z) wz.1 hk hj c3 hm (tL (zT z)) av_big 0 ν2 (by omega) (by omega) (by show _ ≤ 1000000; omega) hM2 (fun x hx => by rw [a2 103 (by omega), a2 104 (by omega)]; exact g1.1 x hx) v2 (by rw [p2]; rfl) r2 (fun e => absurd rfl e)
            have nn : (tp (oco (zT z) k j (mm (zT z) k j m false) (zH z)) (tL (zT z))).1 ≠ none := by
              rw [tp_fo]
              obtain ⟨y, hy⟩ := fo_some (A := true) (g := oco (zT z) k j (mm (zT z) k j m false) (zH z)) (n := tL (zT z)) (by omega)
              rw [hy]; simp
            have pl : fX1_play (nI k) (nI j) (nI (m + 1)) μ = some (bI (tp (oco (zT z) k j (mm (zT z) k j m false) (zH z)) (tL (zT z))).1, μ2) := by
              unfold fX1_play
              rw [e1, b2_some]
              rw [nI_0] at e2
              exact e2
            have lp : fX12_layParties (nI k) (nI j) (nI (m + 1)) ν = some (bI (tp (oco (zT z) k j (mm (zT z) k j m false) (zH z)) (tL (zT z))).1, ν3) := by
              unfold fX12_layParties
              rw [nI_0] at f2 f3
              rw [f1, bs, f2, bs]
              exact f3
            have hI : Iv (i + 5) μ2 ν3 := Iv_5 (Iv_keep ((KC.so (by omega) s1).tr o2.kc) ((KM.ho q1).tr (m2.tr k3)) h)
            rw [pl, lp, b2_some, b2_some, h2 nn, g3 nn]
            by_cases x : w = 0
            · exact ⟨_, μ2, ν3, by rw [if_pos x], by rw [if_pos x], hI⟩
            · exact ⟨_, μ2, ν3, by rw [if_neg x], by rw [if_neg x], hI⟩
          · exact bad2_ok (-10) h (by rw [if_neg c5, if_pos rfl]) (by rw [if_neg c5, if_pos rfl])
        · exact bad2_ok (-10) h (by rw [if_neg c4, if_pos rfl]) (by rw [if_neg c4, if_pos rfl])
    · exact bad2_ok (-10) h (by rw [if_neg c2, if_pos rfl]) (by rw [if_neg c2, if_pos rfl])
  · exact bad2_ok (-10) h (by rw [if_neg c1, if_pos rfl]) (by rw [if_neg c1, if_pos rfl])
