/-! The reference keeps its past; steps: vote, night. -/
theorem bs {α β : Type} (a : α) (f : α → Option β) : (some a).bind f = f a := by rw [Option.bind_some]
theorem m_k13 {F : Nat → Int32} : ∀ (d f i : Nat) (ν : Mem), d = 133 - i → i ≤ 133 → d < f → (∀ k, 69 ≤ k → k < 69 + i → gA ν 99 k = F (k + 19)) → (∀ k, k < 69 ∨ 69 + i ≤ k → gA ν 99 k = F k) → ∃ g, fX12_keep_13 f (nI i) ν = fX12_keep_52 (sA ν 99 g) ∧ g 4 = 7 ∧ (∀ k, 69 ≤ k → k < 202 → g k = F (k + 19)) ∧ (∀ k, k < 69 → k ≠ 4 → g k = F k)
  | 0, f, i, ν, hd, hi, hf, h1, h2 => by
    obtain ⟨f, rfl⟩ : ∃ g, f = g + 1 := ⟨f - 1, by omega⟩
    obtain rfl : i = 133 := by omega
    refine ⟨upd (gA ν 99) 4 7, ?_, pk_us, fun k k1 k2 => ?_, fun k k1 k2 => ?_⟩
    · unfold fX12_keep_13
      rw [if_pos (by decide), w99 4 4 rfl (by decide), bs]
    · rw [pk_un (by omega)]; exact h1 k k1 k2
    · rw [pk_un k2]; exact h2 k (Or.inl k1)
  | d + 1, f, i, ν, hd, hi, hf, h1, h2 => by
    obtain ⟨f, rfl⟩ : ∃ g, f = g + 1 := ⟨f - 1, by omega⟩
    obtain ⟨g, e, hg⟩ := m_k13 (F := F) d f (i + 1) (sA ν 99 (upd (gA ν 99) (69 + i) (gA ν 99 (88 + i)))) (by omega) (by omega) (by omega) (fun k k1 k2 => by
      rw [gA_ss, upd_if]
      by_cases c : k = 69 + i
      · rw [if_pos c, h2 _ (by omega), c, show 69 + i + 19 = 88 + i by omega]
      · rw [if_neg c]; exact h1 k k1 (by omega)) (fun k k1 => by
      rw [gA_ss, pk_un (by omega)]; exact h2 k (by omega))
    refine ⟨g, ?_, hg⟩
    have c133 : ¬ (133 : Int32) ≤ nI i := nI_ge (a := i) (b := 133) (by omega) (by decide)
    unfold fX12_keep_13
    rw [if_neg c133, r99 (88 + i) (88 + nI i) (nI_add 88 i) (by omega)]
    simp only [Option.bind_some]
    rw [w99 (69 + i) (69 + nI i) (nI_add 69 i) (by omega)]
    simp only [Option.bind_some]
    rw [nI_1, e, sA_sA]
theorem m_k67 {F : Nat → Int32} {o p : Nat} (ho : o = 69 + 19 * p) (hp : p < 8) : ∀ (d f i : Nat) (ν : Mem), d = 8 - i → i ≤ 8 → d < f → (∀ k, k < i → gA ν 99 (o + k) = F (7 + 4 * k + 1) ∧ gA ν 99 (o + 8 + k) = F (7 + 4 * k + 2)) → (∀ k, k < o ∨ o + 19 ≤ k → gA ν 99 k = F k) → ∃ g, fX12_keep_67 f (nI o) (nI i) ν = some (sA ν 99 g) ∧ (∀ k, k < 8 → g (o + k) = F (7 + 4 * k + 1) ∧ g (o + 8 + k) = F (7 + 4 * k + 2)) ∧ (g (o + 16) = F 2 ∧ g (o + 17) = F 5 ∧ g (o + 18) = F 6 ∧ g 4 = F 4 + 1) ∧ (∀ k, k ≠ 4 → (k < o ∨ o + 19 ≤ k) → g k = F k)
  | 0, f, i, ν, hd, hi, hf, h1, h2 => by
    obtain ⟨f, rfl⟩ : ∃ g, f = g + 1 := ⟨f - 1, by omega⟩
    obtain rfl : i = 8 := by omega
    refine ⟨upd (upd (upd (upd (gA ν 99) (o + 16) (F 2)) (o + 17) (F 5)) (o + 18) (F 6)) 4 (F 4 + 1), ?_, fun k hk => ?_, ⟨?_, ?_, ?_, pk_us⟩, fun k k1 k2 => ?_⟩
    · unfold fX12_keep_67
      have e : ∀ (ν1 : Mem) (k : Nat) (x : Int32), x = nI k → k < 221 → rd ν1 99 x = some (gA ν1 99 k) := fun ν1 k x hx hk => r99 k x hx hk
      rw [if_pos (by decide), e ν 2 2 rfl (by decide), h2 2 (by omega)]
      simp only [Option.bind_some]
      rw [w99 (o + 16) (nI o + 16) (nI_add o 16) (by omega)]
      simp only [Option.bind_some]
      rw [e _ 5 5 rfl (by decide), gA_ss, pk_un (by omega), h2 5 (by omega)]
      simp only [Option.bind_some]
      rw [w99 (o + 17) (nI o + 17) (nI_add o 17) (by omega)]
      simp only [Option.bind_some, sA_sA, gA_ss]
      rw [e _ 6 6 rfl (by decide), gA_ss, pk_un (by omega), pk_un (by omega), h2 6 (by omega)]
      simp only [Option.bind_some]
      rw [w99 (o + 18) (nI o + 18) (nI_add o 18) (by omega)]
      simp only [Option.bind_some, sA_sA, gA_ss]
      rw [e _ 4 4 rfl (by decide), gA_ss, pk_un (by omega), pk_un (by omega), pk_un (by omega), h2 4 (by omega)]
      simp only [Option.bind_some]
      rw [w99 4 4 rfl (by decide)]
      simp only [Option.bind_some, sA_sA, gA_ss]
    · rw [pk_un (by omega), pk_un (by omega), pk_un (by omega), pk_un (by omega), pk_un (by omega), pk_un (by omega), pk_un (by omega), pk_un (by omega)]; exact h1 k hk
    · rw [pk_un (by omega), pk_un (by omega), pk_un (by omega), pk_us]
    · rw [pk_un (by omega), pk_un (by omega), pk_us]
    · rw [pk_un (by omega), pk_us]
    · rw [pk_un k1, pk_un (by omega), pk_un (by omega), pk_un (by omega)]; exact h2 k k2
  | d + 1, f, i, ν, hd, hi, hf, h1, h2 => by
    obtain ⟨f, rfl⟩ : ∃ g, f = g + 1 := ⟨f - 1, by omega⟩
    obtain ⟨g, e, hg⟩ := m_k67 (F := F) ho hp d f (i + 1) (sA ν 99 (upd (upd (gA ν 99) (o + i) (F (7 + 4 * i + 1))) (o + 8 + i) (F (7 + 4 * i + 2)))) (by omega) (by omega) (by omega) (fun k hk => by
      rw [gA_ss]
      by_cases c : k = i
      · subst c
        rw [pk_un (by omega), pk_us, pk_us]; exact ⟨rfl, rfl⟩
      · rw [pk_un (by omega), pk_un (by omega), pk_un (by omega), pk_un (by omega)]; exact h1 k (by omega)) (fun k k1 => by
      rw [gA_ss, pk_un (by omega), pk_un (by omega)]; exact h2 k k1)
    refine ⟨g, ?_, hg⟩
    have c8 : ¬ (8 : Int32) ≤ nI i := nI_ge (a := i) (b := 8) (by omega) (by decide)
    have i8 : nI o + 8 + nI i = nI (o + 8 + i) := by rw [show (8 : Int32) = nI 8 from rfl, nI_add, nI_add]
    unfold fX12_keep_67
    rw [if_neg c8, show fX12_get (nI i) 1 ν = _ from m_get (j := 1) (by omega) (by decide), h2 _ (by omega)]
    simp only [Option.bind_some]
    rw [w99 (o + i) _ (nI_add o i) (by omega)]
    simp only [Option.bind_some]
    rw [show ∀ ν1 : Mem, fX12_get (nI i) 2 ν1 = some (gA ν1 99 (7 + 4 * i + 2)) from fun ν1 => m_get (j := 2) (by omega) (by decide), gA_ss, pk_un (by omega), h2 _ (by omega)]
    simp only [Option.bind_some]
    rw [w99 (o + 8 + i) _ i8 (by omega)]
    simp only [Option.bind_some, sA_sA, gA_ss]
    rw [nI_1, e, sA_sA]
theorem m_k52 {F : Nat → Int32} {p : Nat} {ν : Mem} (hp : p < 8) (hF : gA ν 99 = F) (h4 : F 4 = nI p) : ∃ g, fX12_keep_52 ν = some (sA ν 99 g) ∧ (∀ k, k < 8 → g (69 + 19 * p + k) = F (7 + 4 * k + 1) ∧ g (69 + 19 * p + 8 + k) = F (7 + 4 * k + 2)) ∧ (g (69 + 19 * p + 16) = F 2 ∧ g (69 + 19 * p + 17) = F 5 ∧ g (69 + 19 * p + 18) = F 6 ∧ g 4 = F 4 + 1) ∧ (∀ k, k ≠ 4 → (k < 69 + 19 * p ∨ 69 + 19 * p + 19 ≤ k) → g k = F k) := by
  obtain ⟨g, e, hg⟩ := m_k67 (F := F) (o := 69 + 19 * p) rfl hp 8 av_big 0 ν rfl (by decide) (by decide) (fun k hk => absurd hk (Nat.not_lt_zero k)) (fun k _ => by rw [hF])
  rw [nI_0] at e
  refine ⟨g, ?_, hg⟩
  have i1 : (69 : Int32) + 19 * nI p = nI (69 + 19 * p) := by rw [show (69 : Int32) = nI 69 from rfl, show (19 : Int32) = nI 19 from rfl, pk_mul, nI_add]
  unfold fX12_keep_52
  rw [r99 4 4 rfl (by decide), hF, h4, bs, bs, i1]
  exact e
theorem m_keep {ν : Mem} {z : Sd} (hw : WT (zT z)) (h6 : zN z ≤ 6) (h8 : zP z ≤ 8) (hm : MR (gA ν 99) z) : ∃ g, fX12_keep ν = some (sA ν 99 g) ∧ MR g (zkp z (zH z)) := by
  have hL := hw.1
  have hV := hw.2.1
  obtain ⟨⟨t1, t2, t3, t4⟩, ⟨s1, s2, s3, s4⟩, ⟨n1, n2⟩, p1, p2⟩ := hm
  unfold fX12_keep
  rw [r99 4 4 rfl (by decide), p1]
  simp only [Option.bind_some]
  by_cases c : zP z = 8
  · rw [if_pos (by rw [c]; rfl)]
    obtain ⟨g1, e1, a1, a2, a3⟩ := m_k13 (F := gA ν 99) 133 av_big 0 ν rfl (by decide) (by decide) (fun k k1 k2 => by omega) (fun k _ => rfl)
    obtain ⟨g, e2, b1, ⟨b2, b3, b4, b5⟩, b6⟩ := m_k52 (F := g1) (p := 7) (ν := sA ν 99 g1) (by decide) gA_ss a1
    rw [nI_0] at e1
    have hu : ∀ k, k < 69 → k ≠ 4 → g k = gA ν 99 k := fun k k1 k2 => by rw [b6 k k2 (by omega), a3 k k1 k2]
    refine ⟨g, by rw [e1, e2, sA_sA], ⟨?_, ?_, fun k hk => ?_, fun v hv => ?_⟩, ⟨fun k hk => ?_, ?_, ?_, ?_⟩, ⟨?_, fun j hj => ?_⟩, ?_, fun p hp => ?_⟩
    · rw [hu _ (by omega) (by omega)]; exact t1
    · rw [hu _ (by omega) (by omega)]; exact t2
    · have hk : k < tL (zT z) := hk
      rw [hu _ (by omega) (by omega), hu _ (by omega) (by omega)]; exact t3 k hk
    · have hv : v < tV (zT z) := hv
      rw [hu _ (by omega) (by omega), hu _ (by omega) (by omega), hu _ (by omega) (by omega)]; exact t4 v hv
    · have hk : k < tL (zT z) := hk
      rw [hu _ (by omega) (by omega), hu _ (by omega) (by omega)]; exact s1 k hk
    · rw [hu _ (by omega) (by omega)]; exact s2
    · rw [hu _ (by omega) (by omega)]; exact s3
    · rw [hu _ (by omega) (by omega)]; exact s4
    · rw [hu _ (by omega) (by omega)]; exact n1
    · have hj : j < zN z := hj
      rw [hu _ (by omega) (by omega), hu _ (by omega) (by omega)]; exact n2 j hj
    · rw [b5, a1]
      show _ = nI (zPk z)
      unfold zPk; rw [if_pos c]; rfl
    · show CP g (69 + 19 * p) (zT z) (zQk z p)
      have hp : p < zPk z := hp
      unfold zPk at hp
      unfold zQk
      rw [if_pos c] at hp ⊢
      by_cases c2 : p = 7
      · rw [if_pos c2, c2]
        refine ⟨fun k hk => ?_, ?_, ?_, ?_⟩
        · obtain ⟨x1, x2⟩ := b1 k (by omega)
          rw [x1, x2, a3 _ (by omega) (by omega), a3 _ (by omega) (by omega)]; exact s1 k hk
        · rw [b2, a3 _ (by omega) (by omega)]; exact s2
        · rw [b3, a3 _ (by omega) (by omega)]; exact s3
        · rw [b4, a3 _ (by omega) (by omega)]; exact s4
      · rw [if_neg c2]
        refine CP_at hL (p2 (p + 1) (by omega)) (fun k hk => ?_)
        rw [b6 _ (by omega) (by omega), a2 _ (by omega) (by omega), show 69 + 19 * p + k + 19 = 69 + 19 * (p + 1) + k by omega]
  · rw [if_neg (fun e => by rw [show (8 : Int32) = nI 8 from rfl, nI_eq (by omega) (by decide)] at e; omega)]
    obtain ⟨g, e2, b1, ⟨b2, b3, b4, b5⟩, b6⟩ := m_k52 (F := gA ν 99) (p := zP z) (ν := ν) (by omega) rfl p1
    have hu : ∀ k, k < 69 → k ≠ 4 → g k = gA ν 99 k := fun k k1 k2 => b6 k k2 (by omega)
    refine ⟨g, e2, ⟨?_, ?_, fun k hk => ?_, fun v hv => ?_⟩, ⟨fun k hk => ?_, ?_, ?_, ?_⟩, ⟨?_, fun j hj => ?_⟩, ?_, fun p hp => ?_⟩
    · rw [hu _ (by omega) (by omega)]; exact t1
    · rw [hu _ (by omega) (by omega)]; exact t2
    · have hk : k < tL (zT z) := hk
      rw [hu _ (by omega) (by omega), hu _ (by omega) (by omega)]; exact t3 k hk
    · have hv : v < tV (zT z) := hv
      rw [hu _ (by omega) (by omega), hu _ (by omega) (by omega), hu _ (by omega) (by omega)]; exact t4 v hv
    · have hk : k < tL (zT z) := hk
      rw [hu _ (by omega) (by omega), hu _ (by omega) (by omega)]; exact s1 k hk
    · rw [hu _ (by omega) (by omega)]; exact s2
    · rw [hu _ (by omega) (by omega)]; exact s3
    · rw [hu _ (by omega) (by omega)]; exact s4
    · rw [hu _ (by omega) (by omega)]; exact n1
    · have hj : j < zN z := hj
      rw [hu _ (by omega) (by omega), hu _ (by omega) (by omega)]; exact n2 j hj
    · rw [b5, p1, nI_1]
      show _ = nI (zPk z)
      unfold zPk; rw [if_neg c]
    · show CP g (69 + 19 * p) (zT z) (zQk z p)
      have hp : p < zPk z := hp
      unfold zPk at hp
      unfold zQk
      rw [if_neg c] at hp ⊢
      by_cases c2 : p = zP z
      · rw [if_pos c2, c2]
        refine ⟨fun k hk => ?_, ?_, ?_, ?_⟩
        · obtain ⟨x1, x2⟩ := b1 k (by omega)
          rw [x1, x2]; exact s1 k hk
        · rw [b2]; exact s2
        · rw [b3]; exact s3
        · rw [b4]; exact s4
      · rw [if_neg c2]
        exact CP_at hL (p2 p (by omega)) (fun k hk => b6 _ (by omega) (by omega))
/-- what layNow writes -/
def layw (k : Nat) : Prop := k = 2 ∨ k = 5 ∨ k = 6 ∨ (7 ≤ k ∧ k < 39 ∧ ((k - 7) % 4 = 1 ∨ (k - 7) % 4 = 2))
theorem m_layN {F : Nat → Int32} {τ : Td} {σ : Hd} (hw : WT τ) (hF : MT F τ) : ∀ (d f i : Nat) (ν : Mem), d = tL τ - i → i ≤ tL τ → d < f → HS ν τ σ → (∀ k, k < i → gA ν 99 (7 + 4 * k + 1) = σ.1 k ∧ gA ν 99 (7 + 4 * k + 2) = σ.2.1 k) → (∀ k, ¬ layw k → gA ν 99 k = F k) → ∃ g, fX12_layNow_2 f (nI i) ν = some (sA ν 99 g) ∧ MS g τ σ ∧ (∀ k, ¬ layw k → g k = F k)
  | 0, f, i, ν, hd, hi, hf, hS, h1, h2 => by
    obtain ⟨f, rfl⟩ : ∃ g, f = g + 1 := ⟨f - 1, by omega⟩
    have h8 := hw.1
    obtain rfl : i = tL τ := by omega
    have hl : fX12_ledges ν = some (nI (tL τ)) := by
      unfold fX12_ledges
      rw [r99 0 0 rfl (by decide), h2 0 (by unfold layw; omega), hF.1]; rfl
    refine ⟨upd (upd (upd (gA ν 99) 2 (nI σ.2.2.1)) 5 σ.2.2.2.1) 6 σ.2.2.2.2, ?_, ⟨fun k hk => ?_, ?_, ?_, ?_⟩, fun k hk => ?_⟩
    · unfold fX12_layNow_2
      rw [hl]
      simp only [Option.bind_some]
      rw [if_pos (nI_le (by omega) (by omega)), w99 2 2 rfl (by decide), hS.2.1]
      simp only [Option.bind_some]
      rw [w99 5 5 rfl (by decide), gF_sA, hS.2.2.1]
      simp only [Option.bind_some, sA_sA, gA_ss]
      rw [w99 6 6 rfl (by decide), gF_sA, hS.2.2.2]
      simp only [Option.bind_some, sA_sA, gA_ss]
    · rw [pk_un (by omega), pk_un (by omega), pk_un (by omega), pk_un (by omega), pk_un (by omega), pk_un (by omega)]; exact h1 k hk
    · rw [pk_un (by omega), pk_un (by omega), pk_us]
    · rw [pk_un (by omega), pk_us]
    · rw [pk_us]
    · have hk' := hk
      unfold layw at hk'
      rw [pk_un (by omega), pk_un (by omega), pk_un (by omega)]; exact h2 k hk
  | d + 1, f, i, ν, hd, hi, hf, hS, h1, h2 => by
    obtain ⟨f, rfl⟩ : ∃ g, f = g + 1 := ⟨f - 1, by omega⟩
    have h8 := hw.1
    have hl : fX12_ledges ν = some (nI (tL τ)) := by
      unfold fX12_ledges
      rw [r99 0 0 rfl (by decide), h2 0 (by unfold layw; omega), hF.1]; rfl
    obtain ⟨g, e, hg⟩ := m_layN (F := F) (σ := σ) hw hF d f (i + 1) (sA ν 99 (upd (upd (gA ν 99) (7 + 4 * i + 1) (σ.1 i)) (7 + 4 * i + 2) (σ.2.1 i))) (by omega) (by omega) (by omega) hS (fun k hk => by
      rw [gA_ss]
      by_cases c : k = i
      · subst c
        rw [pk_un (by omega), pk_us, pk_us]; exact ⟨rfl, rfl⟩
      · rw [pk_un (by omega), pk_un (by omega), pk_un (by omega), pk_un (by omega)]; exact h1 k (by omega)) (fun k hk => by
      have hk' := hk
      unfold layw at hk'
      rw [gA_ss, pk_un (by omega), pk_un (by omega)]; exact h2 k hk)
    refine ⟨g, ?_, hg⟩
    unfold fX12_layNow_2
    rw [hl]
    simp only [Option.bind_some]
    rw [if_neg (nI_ge (by omega) (by omega)), rd_nI av_l103 (by omega) (by decide), (hS.1 i (by omega)).1]
    simp only [Option.bind_some]
    rw [w99 (7 + 4 * i + 1) (7 + 4 * nI i + 1) (ix_get i 1) (by omega)]
    simp only [Option.bind_some]
    rw [rd_nI av_l104 (by omega) (by decide), gA_sn (by decide), (hS.1 i (by omega)).2]
    simp only [Option.bind_some]
    rw [w99 (7 + 4 * i + 2) (7 + 4 * nI i + 2) (ix_get i 2) (by omega)]
    simp only [Option.bind_some, sA_sA, gA_ss]
    rw [nI_1, e, sA_sA]
theorem MR_lay {F g : Nat → Int32} {z : Sd} {σ : Hd} (hw : WT (zT z)) (h : MR F z) (hs : MS g (zT z) σ) (hg : ∀ k, ¬ layw k → g k = F k) : MR g (zT z, σ, zN z, zV z, zB z, zP z, zQ z) := by
  have hL := hw.1
  obtain ⟨⟨t1, t2, t3, t4⟩, -, ⟨n1, n2⟩, p1, p2⟩ := h
  have hu : ∀ k, ¬ (k = 2 ∨ k = 5 ∨ k = 6 ∨ (7 ≤ k ∧ k < 39 ∧ ((k - 7) % 4 = 1 ∨ (k - 7) % 4 = 2))) → g k = F k := hg
  refine ⟨⟨?_, ?_, fun k hk => ?_, fun v hv => ?_⟩, hs, ⟨?_, fun j hj => ?_⟩, ?_, fun p hp => ⟨fun k hk => ?_, ?_, ?_, ?_⟩⟩
  · rw [hu _ (by omega)]; exact t1
  · rw [hu _ (by omega)]; exact t2
  · have hk : k < tL (zT z) := hk
    rw [hu _ (by omega), hu _ (by omega)]; exact t3 k hk
  · rw [hu _ (by omega), hu _ (by omega), hu _ (by omega)]; exact t4 v hv
  · rw [hu _ (by omega)]; exact n1
  · rw [hu _ (by omega), hu _ (by omega)]; exact n2 j hj
  · rw [hu _ (by omega)]; exact p1
  · rw [hu _ (by omega), hu _ (by omega)]; exact (p2 p hp).1 k hk
  · rw [hu _ (by omega)]; exact (p2 p hp).2.1
  · rw [hu _ (by omega)]; exact (p2 p hp).2.2.1
  · rw [hu _ (by omega)]; exact (p2 p hp).2.2.2
theorem m_layNow {ν : Mem} {z : Sd} {σ : Hd} (hw : WT (zT z)) (hm : MR (gA ν 99) z) (hS : HS ν (zT z) σ) : ∃ g, fX12_layNow ν = some (sA ν 99 g) ∧ MR g (zT z, σ, zN z, zV z, zB z, zP z, zQ z) := by
  obtain ⟨g, e, h1, h2⟩ := m_layN (F := gA ν 99) (σ := σ) hw hm.1 (tL (zT z)) av_big 0 ν (by omega) (by omega) (by have := hw.1; show _ < 1000000; omega) hS (fun k hk => absurd hk (Nat.not_lt_zero k)) (fun k _ => rfl)
  rw [nI_0] at e
  exact ⟨g, e, MR_lay hw hm h1 h2⟩
