/-! read: the reference's tokens. -/
def LO (ν ν' : Mem) : Prop := (∀ a k, (a ≠ 98 ∨ k < 23 ∨ 26 < k) → gF ν' a k = gF ν a k) ∧ gL ν' = gL ν ∧ gA ν' = gA ν
theorem LO.rf {ν : Mem} : LO ν ν := ⟨fun _ _ _ => rfl, rfl, rfl⟩
theorem LO.tr {ν ν1 ν2 : Mem} (h1 : LO ν ν1) (h2 : LO ν1 ν2) : LO ν ν2 := ⟨fun a k h => (h2.1 a k h).trans (h1.1 a k h), h2.2.1.trans h1.2.1, h2.2.2.trans h1.2.2⟩
theorem LO.sF {ν : Mem} {k : Nat} {v : Int32} (hk : 23 ≤ k ∧ k ≤ 26) : LO ν (sF ν 98 k v) := ⟨fun a b h => gF_sm (by omega), rfl, rfl⟩
theorem LO.km {ν ν' : Mem} (h : LO ν ν') : KM ν ν' := ⟨h.1 98 22 (by omega), h.2.1, fun a _ => by rw [h.2.2]⟩
def MX (ν : Mem) (n : Nat) (tx : Nat → Nat) : Prop := gF ν 98 22 = nI n ∧ ∀ k, k < n → gA ν 111 k = nI (tx k)
theorem MX.lo {ν ν' : Mem} {n : Nat} {tx : Nat → Nat} (h : LO ν ν') (hX : MX ν n tx) : MX ν' n tx := ⟨by rw [h.1 98 22 (by omega)]; exact hX.1, by rw [h.2.2]; exact hX.2⟩
theorem MX.km {ν ν' : Mem} {n : Nat} {tx : Nat → Nat} (h : KM ν ν') (hX : MX ν n tx) : MX ν' n tx := ⟨by rw [h.1]; exact hX.1, by rw [h.2.2 111 (by omega)]; exact hX.2⟩
def LK (n : Nat) (tx : Nat → Nat) (ν : Mem) (p : Nat) : Prop := gF ν 98 23 = nI (ta n tx p) ∧ gF ν 98 24 = nI (tE n tx p - ta n tx p) ∧ gF ν 98 25 = nI (tk n tx p) ∧ gF ν 98 26 = nI (vl n tx p)
theorem gF_s8 {ν : Mem} {k : Nat} {v : Int32} : gF (sF ν 98 k v) 98 k = v := by rw [gF_sF, if_pos rfl, if_pos rfl]
theorem m_small {c : Nat} {ν : Mem} (hc : c < 128) : fX12_isSmall (nI c) ν = some (if btw 97 122 c = true then 1 else 0) := by
  unfold fX12_isSmall btw
  rw [m_inN 97 122 97 122 rfl rfl, bs, z_ite, bs]
  have e : ((97 : Int32) ≤ nI c ∧ nI c ≤ 122) ↔ (decide (97 ≤ c ∧ c ≤ 122) = true) := by
    rw [decide_eq_true_eq, show (97 : Int32) = nI 97 from rfl, show (122 : Int32) = nI 122 from rfl, nI_leI (by omega) (by omega), nI_leI (by omega) (by omega)]
  by_cases x : (97 : Int32) ≤ nI c ∧ nI c ≤ 122
  · rw [if_pos x, if_pos (e.mp x)]
  · rw [if_neg x, if_neg (fun h => x (e.mpr h))]
theorem m_figure {c : Nat} {ν : Mem} (hc : c < 128) : fX12_isFigure (nI c) ν = some (if btw 48 57 c = true then 1 else 0) := by
  unfold fX12_isFigure btw
  rw [m_inN 48 57 48 57 rfl rfl, bs, z_ite, bs]
  have e : ((48 : Int32) ≤ nI c ∧ nI c ≤ 57) ↔ (decide (48 ≤ c ∧ c ≤ 57) = true) := by
    rw [decide_eq_true_eq, show (48 : Int32) = nI 48 from rfl, show (57 : Int32) = nI 57 from rfl, nI_leI (by omega) (by omega), nI_leI (by omega) (by omega)]
  by_cases x : (48 : Int32) ≤ nI c ∧ nI c ≤ 57
  · rw [if_pos x, if_pos (e.mp x)]
  · rw [if_neg x, if_neg (fun h => x (e.mpr h))]
theorem m_look5 {n : Nat} {tx : Nat → Nat} (hn : n ≤ 150) (htx : ∀ k, k < n → tx k < 128) : ∀ (d f p : Nat) (ν : Mem), d = n - p → p ≤ n → d < f → MX ν n tx → gF ν 98 23 = nI p → ∃ ν', fX12_lookAt_5 f ν = fX12_lookAt_43 ν' ∧ LO ν ν' ∧ gF ν' 98 23 = nI (ta n tx p)
  | 0, f, p, ν, hd, hp, hf, hX, h3 => by
    obtain ⟨f, rfl⟩ : ∃ g, f = g + 1 := ⟨f - 1, by omega⟩
    refine ⟨ν, ?_, LO.rf, ?_⟩
    · rw [fX12_lookAt_5]
      dsimp only
      rw [hX.1, h3, if_pos (nI_le (by omega) (by omega))]
    · unfold ta; rw [ad_end (by omega)]; exact h3
  | d + 1, f, p, ν, hd, hp, hf, hX, h3 => by
    obtain ⟨f, rfl⟩ : ∃ g, f = g + 1 := ⟨f - 1, by omega⟩
    have t := htx p (by omega)
    rw [fX12_lookAt_5]
    dsimp only
    rw [hX.1, h3, if_neg (nI_ge (by omega) (by omega)), rd_nI av_l111 (by omega) (by decide), hX.2 p (by omega), bs]
    by_cases c : btw 32 32 (tx p) = true
    · have c32 : tx p = 32 := by unfold btw at c; simp only [decide_eq_true_eq] at c; omega
      obtain ⟨ν1, e1, o1, h1⟩ := m_look5 hn htx d f (p + 1) (sF ν 98 23 (nI (p + 1))) (by omega) (by omega) (by omega) (MX.lo (LO.sF (by omega)) hX) gF_s8
      refine ⟨ν1, ?_, (LO.sF (by omega)).tr o1, ?_⟩
      · rw [if_pos (by rw [c32]; rfl), bs, nI_1]; exact e1
      · rw [h1]; unfold ta; rw [ad_yes (i := p) (by omega) c]
    · refine ⟨ν, ?_, LO.rf, ?_⟩
      · rw [if_neg (fun e => c (by
          have e : nI (tx p) = nI 32 := e
          have := (nI_eq (by omega) (by omega)).mp e
          unfold btw; simp only [decide_eq_true_eq]; omega))]
      · unfold ta; rw [ad_no (by omega) c]; exact h3
/-- as far as it goes: letters, or figures -/
theorem m_look136 {n t : Nat} {tx : Nat → Nat} {P : Nat → Bool} {y : Int32} (hn : n ≤ 150) (htx : ∀ k, k < n → tx k < 128) (hP : (y = 1 ∧ P = btw 97 122) ∨ (y = 2 ∧ P = btw 48 57)) : ∀ (d f x : Nat) (ν : Mem), d = n - x → t < x → x ≤ n → d + 1 < f → MX ν n tx → gF ν 98 23 = nI t → gF ν 98 24 = nI (x - t) → gF ν 98 25 = y → ∃ ν', fX12_lookAt_136 f 1 ν = fX12_lookAt_215 ν' ∧ LO ν ν' ∧ gF ν' 98 24 = nI (ad P n tx x - t) ∧ (∀ k, k ≠ 24 → gF ν' 98 k = gF ν 98 k)
  | 0, f, x, ν, hd, ht, hx, hf, hX, h3, h4, h5 => by
    obtain ⟨f, rfl⟩ : ∃ g, f = g + 1 := ⟨f - 1, by omega⟩
    refine ⟨ν, ?_, LO.rf, ?_, fun _ _ => rfl⟩
    · rw [fX12_lookAt_136]
      dsimp only
      rw [if_neg n10, hX.1, h3, h4, nI_add, if_pos (nI_le (by omega) (by omega))]
    · rw [ad_end (by omega)]; exact h4
  | d + 1, f, x, ν, hd, ht, hx, hf, hX, h3, h4, h5 => by
    obtain ⟨f, rfl⟩ : ∃ g, f = g + 1 := ⟨f - 1, by omega⟩
    have c := htx x (by omega)
    have ex : t + (x - t) = x := by omega
    have st : fX12_lookAt_136 (f + 1) 1 ν = fX12_lookAt_193 (fX12_lookAt_136 f) (if P (tx x) = true then 1 else 0) ν := by
      rw [fX12_lookAt_136]
      dsimp only
      rw [if_neg n10, hX.1, h3, h4, nI_add, ex, if_neg (nI_ge (by omega) (by omega)), rd_nI av_l111 (by omega) (by decide), hX.2 x (by omega), bs, h5]
      rcases hP with ⟨rfl, rfl⟩ | ⟨rfl, rfl⟩
      · rw [if_pos rfl, m_small c, bs]
      · rw [if_neg (by decide), m_figure c, bs]
    rw [st]
    unfold fX12_lookAt_193 fX12_lookAt_208
    by_cases p : P (tx x) = true
    · obtain ⟨ν1, e1, o1, h1, k1⟩ := m_look136 (t := t) (P := P) (y := y) hn htx hP d f (x + 1) (sF ν 98 24 (nI (x + 1 - t))) (by omega) (by omega) (by omega) (by omega) (MX.lo (LO.sF (by omega)) hX) (by rw [gF_sm (by omega)]; exact h3) gF_s8 (by rw [gF_sm (by omega)]; exact h5)
      refine ⟨ν1, ?_, (LO.sF (by omega)).tr o1, by rw [h1, ad_yes (i := x) (by omega) p], fun k hk => by rw [k1 k hk, gF_sm (by omega)]⟩
      rw [if_pos p, if_neg n10, h4, bs, nI_1, show x - t + 1 = x + 1 - t by omega]
      exact e1
    · obtain ⟨f, rfl⟩ : ∃ g, f = g + 1 := ⟨f - 1, by omega⟩
      refine ⟨sF ν 98 24 (nI (x - t)), ?_, LO.sF (by omega), by rw [gF_s8, ad_no (by omega) p], fun k hk => gF_sm (by omega)⟩
      rw [if_neg p, if_pos rfl, h4, bs, Int32.add_zero, fX12_lookAt_136]
      dsimp only
      rw [if_pos rfl]
theorem m_look274 {ν : Mem} {k l : Nat} (hl : l ≤ 150) (hk : k ≤ 4) (h4 : gF ν 98 24 = nI l) (h5 : gF ν 98 25 = nI k) : ∃ ν', fX12_lookAt_274 ν = some ν' ∧ LO ν ν' ∧ gF ν' 98 25 = nI (if k = 2 ∧ 2 < l then 4 else k) ∧ (∀ j, j ≠ 25 → gF ν' 98 j = gF ν 98 j) := by
  unfold fX12_lookAt_274 fX12_lookAt_295 fX12_lookAt_299
  rw [h4, h5, bs, bs]
  by_cases c : k = 2
  · rw [if_pos (show nI k = 2 by rw [c]; rfl)]
    by_cases d : 2 < l
    · have x : ¬ nI l ≤ 2 := nI_ge (a := 2) d (by omega)
      rw [if_neg x, if_pos ⟨c, d⟩]
      exact ⟨_, rfl, LO.sF (by omega), by rw [gF_s8]; rfl, fun j hj => gF_sm (by omega)⟩
    · have x : nI l ≤ 2 := nI_le (b := 2) (by omega) (by decide)
      rw [if_pos x, if_neg (fun h => d h.2)]
      exact ⟨_, rfl, LO.sF (by omega), gF_s8, fun j hj => gF_sm (by omega)⟩
  · have x : ¬ nI k = 2 := fun e => c ((nI_eq (b := 2) (by omega) (by decide)).mp e)
    rw [if_neg x, if_neg (fun h => c h.1)]
    exact ⟨_, rfl, LO.sF (by omega), gF_s8, fun j hj => gF_sm (by omega)⟩
theorem m_look218 {n t l : Nat} {tx : Nat → Nat} {ν : Mem} (f : Nat) (hn : n ≤ 150) (htx : ∀ k, k < n → tx k < 128) (hl : t + l ≤ n) (h1 : 1 ≤ l) (hX : MX ν n tx) (h3 : gF ν 98 23 = nI t) (h4 : gF ν 98 24 = nI l) (h5 : gF ν 98 25 = 2) (h6 : gF ν 98 26 = 0) (hd : ∀ x, t ≤ x → x < t + l → 48 ≤ tx x) : ∃ ν', fX12_lookAt_218 (f + 3) 0 ν = fX12_lookAt_274 ν' ∧ LO ν ν' ∧ gF ν' 98 26 = nI (dv tx t l) ∧ (∀ j, j ≠ 26 → gF ν' 98 j = gF ν 98 j) := by
  have c0 := htx t (by omega)
  have d0 := hd t (by omega) (by omega)
  have s0 : fX12_lookAt_218 (f + 3) 0 ν = fX12_lookAt_218 (f + 2) 1 (sF ν 98 26 (nI (tx t - 48))) := by
    have e0 : ((10 : Int32) * 0 + nI (tx t)) - 48 = nI (tx t - 48) := by
      rw [show (10 : Int32) * 0 = nI 0 from rfl, nI_add, show (48 : Int32) = nI 48 from rfl, pk_sub (by omega), Nat.zero_add]
    rw [fX12_lookAt_218]
    dsimp only
    rw [h4, if_neg (nI_nle (by omega) (by omega)), if_neg (by decide), h5, if_pos rfl, h3, Int32.add_zero, rd_nI av_l111 (by omega) (by decide), hX.2 t (by omega), bs, h6, bs, e0, bs]
    rfl
  have g4 : gF (sF ν 98 26 (nI (tx t - 48))) 98 24 = nI l := by rw [gF_sm (by omega)]; exact h4
  have g5 : gF (sF ν 98 26 (nI (tx t - 48))) 98 25 = 2 := by rw [gF_sm (by omega)]; exact h5
  have g3 : gF (sF ν 98 26 (nI (tx t - 48))) 98 23 = nI t := by rw [gF_sm (by omega)]; exact h3
  by_cases c : l = 1
  · refine ⟨sF ν 98 26 (nI (tx t - 48)), ?_, LO.sF (by omega), by rw [gF_s8, c]; rfl, fun j hj => gF_sm (by omega)⟩
    rw [s0, fX12_lookAt_218]
    dsimp only
    rw [g4, c, if_pos (by decide)]
  · have c1 := htx (t + 1) (by omega)
    have d1 := hd (t + 1) (by omega) (by omega)
    have x1 : ¬ nI l ≤ 1 := nI_ge (a := 1) (by omega) (by omega)
    have e1 : ((10 : Int32) * nI (tx t - 48) + nI (tx (t + 1))) - 48 = nI (10 * (tx t - 48) + (tx (t + 1) - 48)) := by
      rw [show (10 : Int32) = nI 10 from rfl, pk_mul, nI_add, show (48 : Int32) = nI 48 from rfl, pk_sub (by omega), show 10 * (tx t - 48) + tx (t + 1) - 48 = 10 * (tx t - 48) + (tx (t + 1) - 48) by omega]
    obtain ⟨m, rfl⟩ : ∃ m, l = m + 2 := ⟨l - 2, by omega⟩
    refine ⟨sF (sF ν 98 26 (nI (tx t - 48))) 98 26 (nI (10 * (tx t - 48) + (tx (t + 1) - 48))), ?_, (LO.sF (by omega)).tr (LO.sF (by omega)), by rw [gF_s8]; rfl, fun j hj => by rw [gF_sm (by omega), gF_sm (by omega)]⟩
    have s1 : fX12_lookAt_218 (f + 2) 1 (sF ν 98 26 (nI (tx t - 48))) = fX12_lookAt_218 (f + 1) 2 (sF (sF ν 98 26 (nI (tx t - 48))) 98 26 (nI (10 * (tx t - 48) + (tx (t + 1) - 48)))) := by
      rw [fX12_lookAt_218]
      dsimp only
      rw [g4, if_neg x1, if_neg (by decide), g5, if_pos rfl, g3, nI_1, rd_nI av_l111 (by omega) (by decide), gA_sF, hX.2 (t + 1) (by omega), bs, gF_s8, bs, e1, bs]
      rfl
    rw [s0, s1, fX12_lookAt_218]
    dsimp only
    rw [if_pos (show (2 : Int32) ≤ 2 by decide), ite_self]
theorem m_lookAt {n p : Nat} {tx : Nat → Nat} {ν : Mem} (hn : n ≤ 150) (htx : ∀ k, k < n → tx k < 128) (hp : p ≤ n) (hX : MX ν n tx) : ∃ ν', fX12_lookAt (nI p) ν = some ν' ∧ LO ν ν' ∧ LK n tx ν' p := by
  have t := ta_le (tx := tx) hp
  have ee := tE_le (tx := tx) hp
  obtain ⟨ν1, e1, o1, h1⟩ := m_look5 hn htx (n - p) av_big p (sF ν 98 23 (nI p)) rfl hp (by show _ < 1000000; omega) (MX.lo (LO.sF (by omega)) hX) gF_s8
  have o01 : LO ν ν1 := (LO.sF (by omega)).tr o1
  have st : fX12_lookAt (nI p) ν = fX12_lookAt_43 ν1 := by
    unfold fX12_lookAt
    rw [bs]
    exact e1
  have X1 := MX.lo o01 hX
  -- the token begins
  have o2 : LO ν1 (sF (sF (sF ν1 98 24 0) 98 25 0) 98 26 0) := ((LO.sF (by omega)).tr (LO.sF (by omega))).tr (LO.sF (by omega))
  have k23 : gF (sF (sF (sF ν1 98 24 0) 98 25 0) 98 26 0) 98 23 = nI (ta n tx p) := by rw [gF_sm (by omega), gF_sm (by omega), gF_sm (by omega)]; exact h1
  have k24 : gF (sF (sF (sF ν1 98 24 0) 98 25 0) 98 26 0) 98 24 = 0 := by rw [gF_sm (by omega), gF_sm (by omega), gF_s8]
  have k25 : gF (sF (sF (sF ν1 98 24 0) 98 25 0) 98 26 0) 98 25 = 0 := by rw [gF_sm (by omega), gF_s8]
  have k26 : gF (sF (sF (sF ν1 98 24 0) 98 25 0) 98 26 0) 98 26 = 0 := gF_s8
  have X2 := MX.lo o2 X1
  have st2 : fX12_lookAt_43 ν1 = if nI (ta n tx p) = nI n then some (sF (sF (sF ν1 98 24 0) 98 25 0) 98 26 0) else ((rd (sF (sF (sF ν1 98 24 0) 98 25 0) 98 26 0) 111 (nI (ta n tx p))).bind fun r78 => (fX12_isSmall r78 (sF (sF (sF ν1 98 24 0) 98 25 0) 98 26 0)).bind fun r82 => if r82 = 0 then ((fX12_isFigure r78 (sF (sF (sF ν1 98 24 0) 98 25 0) 98 26 0)).bind fun r93 => if r93 = 0 then (if r78 = 59 then (fX12_lookAt_114 3 (sF (sF (sF ν1 98 24 0) 98 25 0) 98 26 0)) else (fX12_lookAt_114 4 (sF (sF (sF ν1 98 24 0) 98 25 0) 98 26 0))) else (fX12_lookAt_114 2 (sF (sF (sF ν1 98 24 0) 98 25 0) 98 26 0))) else (fX12_lookAt_114 1 (sF (sF (sF ν1 98 24 0) 98 25 0) 98 26 0))) := by
    unfold fX12_lookAt_43
    rw [bs, bs, bs, k23, X2.1]
  rw [st, st2]
  generalize sF (sF (sF ν1 98 24 0) 98 25 0) 98 26 0 = ν2 at *
  have o12 := o01.tr o2
  by_cases cn : ta n tx p = n
  · rw [if_pos (by rw [cn])]
    have z : kd n tx p = 0 := kd0.mpr (by omega)
    have et : tE n tx p = ta n tx p := by unfold tE; rw [if_pos z]
    refine ⟨ν2, rfl, o12, k23, ?_, ?_, ?_⟩
    · rw [et, Nat.sub_self]; exact k24
    · unfold tk; rw [z, if_neg (by omega)]; exact k25
    · unfold vl; rw [z, if_neg (by decide)]; exact k26
  · have c : ta n tx p < n := by omega
    have tc := htx _ c
    rw [if_neg (fun e => cn ((nI_eq (by omega) (by omega)).mp e)), rd_nI av_l111 (by omega) (by decide), X2.2 _ c, bs, m_small tc, bs]
    have nz : kd n tx p ≠ 0 := fun e => by have := kd0.mp e; omega
    have lt := tE_lt (tx := tx) hp nz
    -- a mark by itself
    have mark : ∀ k, (k = 3 ∨ k = 4) → kd n tx p = k → ∃ ν', fX12_lookAt_114 (nI k) ν2 = some ν' ∧ LO ν ν' ∧ LK n tx ν' p := by
      intro k hk ek
      have et : tE n tx p = ta n tx p + 1 := by unfold tE; rw [ek, if_neg (by omega), if_neg (by omega), if_neg (by omega)]
      have g5 : gF (sF (sF ν2 98 25 (nI k)) 98 24 1) 98 25 = nI k := by rw [gF_sm (by omega), gF_s8]
      have g4 : gF (sF (sF ν2 98 25 (nI k)) 98 24 1) 98 24 = nI 1 := gF_s8
      have k3 : (3 : Int32) ≤ nI k := nI_le (a := 3) (by omega) (by omega)
      have k2 : ¬ nI k = 2 := fun e => by have := (nI_eq (b := 2) (by omega) (by decide)).mp e; omega
      obtain ⟨ν3, e3, o3, h3, j3⟩ := m_look274 (k := k) (l := 1) (by omega) (by omega) g4 g5
      refine ⟨ν3, ?_, o12.tr (((LO.sF (by omega)).tr (LO.sF (by omega))).tr o3), ?_, ?_, ?_, ?_⟩
      · unfold fX12_lookAt_114 fX12_lookAt_135
        rw [bs, bs, g5, if_pos k3, show av_big = 999999 + 1 from rfl, fX12_lookAt_136]
        dsimp only
        rw [if_pos rfl]
        unfold fX12_lookAt_215
        rw [show av_big = 999999 + 1 from rfl, fX12_lookAt_218]
        dsimp only
        rw [g4, if_neg (by decide), if_neg (by decide), g5, if_neg k2]
        exact e3
      · rw [j3 23 (by decide), gF_sm (by omega), gF_sm (by omega)]; exact k23
      · rw [j3 24 (by decide), g4, et, Nat.add_sub_cancel_left]
      · rw [h3]; unfold tk; rw [ek, if_neg (by omega), if_neg (by omega)]
      · rw [j3 26 (by decide), gF_sm (by omega), gF_sm (by omega), k26]; unfold vl; rw [ek, if_neg (by omega)]; rfl
    -- letters, figures
    have run : ∀ (k : Nat) (P : Nat → Bool), (k = 1 ∧ P = btw 97 122) ∨ (k = 2 ∧ P = btw 48 57) → kd n tx p = k → P (tx (ta n tx p)) = true → ad P n tx (ta n tx p) = tE n tx p → ∃ ν', fX12_lookAt_114 (nI k) ν2 = some ν' ∧ LO ν ν' ∧ LK n tx ν' p := by
      intro k P hk ek hP eE
      have g5 : gF (sF (sF ν2 98 25 (nI k)) 98 24 1) 98 25 = nI k := by rw [gF_sm (by omega), gF_s8]
      have g4 : gF (sF (sF ν2 98 25 (nI k)) 98 24 1) 98 24 = nI (ta n tx p + 1 - ta n tx p) := by rw [Nat.add_sub_cancel_left]; exact gF_s8
      have g3 : gF (sF (sF ν2 98 25 (nI k)) 98 24 1) 98 23 = nI (ta n tx p) := by rw [gF_sm (by omega), gF_sm (by omega)]; exact k23
      have k3 : ¬ (3 : Int32) ≤ nI k := nI_ge (b := 3) (by omega) (by decide)
      have o3 : LO ν2 (sF (sF ν2 98 25 (nI k)) 98 24 1) := (LO.sF (by omega)).tr (LO.sF (by omega))
      obtain ⟨ν4, e4, o4, h4, j4⟩ := m_look136 (t := ta n tx p) (P := P) (y := nI k) hn htx (by
        rcases hk with ⟨x, y⟩ | ⟨x, y⟩
        · exact Or.inl ⟨by rw [x]; rfl, y⟩
        · exact Or.inr ⟨by rw [x]; rfl, y⟩) (n - (ta n tx p + 1)) av_big (ta n tx p + 1) _ rfl (by omega) (by omega) (by show _ < 1000000; omega) (MX.lo o3 X2) g3 g4 g5
      rw [← ad_yes c hP, eE] at h4
      have st4 : fX12_lookAt_114 (nI k) ν2 = fX12_lookAt_218 av_big 0 ν4 := by
        unfold fX12_lookAt_114 fX12_lookAt_135
        rw [bs, bs, g5, if_neg k3, e4]
        rfl
      have q5 : gF ν4 98 25 = nI k := by rw [j4 25 (by decide)]; exact g5
      have q3 : gF ν4 98 23 = nI (ta n tx p) := by rw [j4 23 (by decide)]; exact g3
      have q6 : gF ν4 98 26 = 0 := by rw [j4 26 (by decide), gF_sm (by omega), gF_sm (by omega)]; exact k26
      have o24 := o12.tr (o3.tr o4)
      rcases hk with ⟨rfl, rfl⟩ | ⟨rfl, rfl⟩
      · obtain ⟨ν5, e5, o5, h5, j5⟩ := m_look274 (k := 1) (l := tE n tx p - ta n tx p) (by omega) (by omega) h4 q5
        refine ⟨ν5, ?_, o24.tr o5, ?_, ?_, ?_, ?_⟩
        · rw [st4, show av_big = 999999 + 1 from rfl, fX12_lookAt_218]
          dsimp only
          rw [h4, if_neg (nI_nle (by omega) (by omega)), if_neg (by decide), q5, if_neg (by decide)]
          exact e5
        · rw [j5 23 (by decide)]; exact q3
        · rw [j5 24 (by decide)]; exact h4
        · rw [h5]; unfold tk; rw [ek]
        · rw [j5 26 (by decide), q6]; unfold vl; rw [ek, if_neg (by decide)]; rfl
      · obtain ⟨ν5, e5, o5, h5, j5⟩ := m_look218 (t := ta n tx p) (l := tE n tx p - ta n tx p) 999997 hn htx (by omega) (by omega) (MX.lo (o3.tr o4) X2) q3 h4 q5 q6 (fun x h1 h2 => by
          have := ad_all (P := btw 48 57) (tx := tx) (n - ta n tx p) (ta n tx p) x rfl t.2 h1 (by omega)
          unfold btw at this; simp only [decide_eq_true_eq] at this; omega)
        obtain ⟨ν6, e6, o6, h6, j6⟩ := m_look274 (ν := ν5) (k := 2) (l := tE n tx p - ta n tx p) (by omega) (by omega) (by rw [j5 24 (by decide)]; exact h4) (by rw [j5 25 (by decide)]; exact q5)
        refine ⟨ν6, ?_, (o24.tr o5).tr o6, ?_, ?_, ?_, ?_⟩
        · rw [st4, show av_big = 999997 + 3 from rfl, e5, e6]
        · rw [j6 23 (by decide), j5 23 (by decide)]; exact q3
        · rw [j6 24 (by decide), j5 24 (by decide)]; exact h4
        · rw [h6]; unfold tk; rw [ek]
        · rw [j6 26 (by decide), h5]; unfold vl; rw [ek, if_pos rfl]
    by_cases c1 : btw 97 122 (tx (ta n tx p)) = true
    · rw [if_pos c1, if_neg n10]
      have ek := (kd1 c).mpr c1
      exact run 1 _ (Or.inl ⟨rfl, rfl⟩) ek c1 (wE_1 ek)
    · rw [if_neg c1, if_pos rfl, m_figure tc, bs]
      by_cases c2 : btw 48 57 (tx (ta n tx p)) = true
      · rw [if_pos c2, if_neg n10]
        have ek := (kd2 c).mpr c2
        exact run 2 _ (Or.inr ⟨rfl, rfl⟩) ek c2 (dE_2 ek)
      · rw [if_neg c2, if_pos rfl]
        by_cases c3 : tx (ta n tx p) = 59
        · rw [if_pos (by rw [c3]; rfl)]
          exact mark 3 (Or.inl rfl) ((kd3 c).mpr c3)
        · rw [if_neg (fun e => c3 (by
            have e : nI (tx (ta n tx p)) = nI 59 := e
            exact (nI_eq (by omega) (by omega)).mp e))]
          refine mark 4 (Or.inr rfl) ?_
          unfold kd
          rw [if_neg (by omega), if_neg c1, if_neg c2, if_neg c3]
theorem m_behind {n p : Nat} {tx : Nat → Nat} {ν : Mem} (hn : n ≤ 150) (htx : ∀ k, k < n → tx k < 128) (hp : p ≤ n) (hX : MX ν n tx) (hK : LK n tx ν p) : ∃ ν', fX12_goBehind ν = some ν' ∧ LO ν ν' ∧ LK n tx ν' (tE n tx p) := by
  have ee := tE_le (tx := tx) hp
  obtain ⟨ν1, e1, o1, h1⟩ := m_lookAt (p := tE n tx p) hn htx ee.2 hX
  refine ⟨ν1, ?_, o1, h1⟩
  unfold fX12_goBehind
  rw [hK.1, hK.2.1, nI_add, show ta n tx p + (tE n tx p - ta n tx p) = tE n tx p by omega, e1, bs]
/-- the letters of a word, as they are told to the check -/
def wsl (x2 x3 x4 x5 x6 x7 x8 x10 : Int32) : Int32 := if x10 = 0 then x2 else if x10 = 1 then x3 else if x10 = 2 then x4 else if x10 = 3 then x5 else if x10 = 4 then x6 else if x10 = 5 then x7 else if x10 = 6 then x8 / 128 else x8 - x8 / 128 * 128
theorem m_iw26 {n p w : Nat} {tx : Nat → Nat} {ν : Mem} {x2 x3 x4 x5 x6 x7 x8 : Int32} (hn : n ≤ 150) (htx : ∀ k, k < n → tx k < 128) (hw : w < 4) (hX : MX ν n tx) (h3 : gF ν 98 23 = nI (ta n tx p)) (hs : ta n tx p + wn w ≤ n) (hl : ∀ i, i < wn w → wsl x2 x3 x4 x5 x6 x7 x8 (nI i) = nI (wb w i)) : ∀ (d f i : Nat) (r : Int32), d = wn w - i → i ≤ wn w → d < f → ((r = 1 ∧ ∀ x, x < i → tx (ta n tx p + x) = wb w x) ∨ (r = 0 ∧ ¬ ∀ x, x < i → tx (ta n tx p + x) = wb w x)) → ∃ r', fX12_isWord_26 f (nI (wn w)) x2 x3 x4 x5 x6 x7 x8 r (nI i) ν = some r' ∧ ((r' = 1 ∧ ∀ x, x < wn w → tx (ta n tx p + x) = wb w x) ∨ (r' = 0 ∧ ¬ ∀ x, x < wn w → tx (ta n tx p + x) = wb w x))
  | 0, f, i, r, hd, hi, hf, hr => by
    obtain ⟨f, rfl⟩ : ∃ g, f = g + 1 := ⟨f - 1, by omega⟩
    have w8 := wn_4 hw
    obtain rfl : i = wn w := by omega
    refine ⟨r, ?_, hr⟩
    rw [fX12_isWord_26]
    dsimp only
    unfold fX12_isWord_154
    rw [if_pos (nI_le (by omega) (by omega))]
    rcases hr with ⟨rfl, -⟩ | ⟨rfl, -⟩ <;> rfl
  | d + 1, f, i, r, hd, hi, hf, hr => by
    obtain ⟨f, rfl⟩ : ∃ g, f = g + 1 := ⟨f - 1, by omega⟩
    have w8 := wn_4 hw
    have t := htx (ta n tx p + i) (by omega)
    have w128 := (av_sc_w hw (show i < wn w by omega)).2
    rcases hr with ⟨rfl, hr⟩ | ⟨rfl, hr⟩
    · have st : fX12_isWord_26 (f + 1) (nI (wn w)) x2 x3 x4 x5 x6 x7 x8 1 (nI i) ν = fX12_isWord_122 (fX12_isWord_26 f) (nI (wn w)) x2 x3 x4 x5 x6 x7 x8 (nI i) (wsl x2 x3 x4 x5 x6 x7 x8 (nI i)) ν := by
        rw [fX12_isWord_26]
        dsimp only
        rw [if_neg (nI_ge (by omega) (by omega)), if_neg n10]
        unfold wsl
        split
        · rfl
        · split
          · rfl
          · split
            · rfl
            · split
              · rfl
              · split
                · rfl
                · split
                  · rfl
                  · split <;> rfl
      rw [st, hl i (by omega)]
      unfold fX12_isWord_122 fX12_isWord_146
      rw [h3, nI_add, rd_nI av_l111 (by omega) (by decide), hX.2 _ (by omega), bs, bs, nI_1]
      by_cases c : tx (ta n tx p + i) = wb w i
      · rw [if_pos (by rw [c])]
        exact m_iw26 hn htx hw hX h3 hs hl d f (i + 1) 1 (by omega) (by omega) (by omega) (Or.inl ⟨rfl, fun x hx => by
          by_cases e : x = i
          · rw [e]; exact c
          · exact hr x (by omega)⟩)
      · rw [if_neg (fun e => c ((nI_eq (by omega) (by omega)).mp e)), bs]
        exact m_iw26 hn htx hw hX h3 hs hl d f (i + 1) 0 (by omega) (by omega) (by omega) (Or.inr ⟨rfl, fun h => c (h i (by omega))⟩)
    · refine ⟨0, ?_, Or.inr ⟨rfl, fun h => hr (fun x hx => h x (by omega))⟩⟩
      rw [fX12_isWord_26]
      dsimp only
      unfold fX12_isWord_154
      rw [if_neg (nI_ge (by omega) (by omega)), if_pos rfl]
      rfl
theorem m_isWord {n p w : Nat} {tx : Nat → Nat} {ν : Mem} {x2 x3 x4 x5 x6 x7 x8 : Int32} (hn : n ≤ 150) (htx : ∀ k, k < n → tx k < 128) (hp : p ≤ n) (hw : w < 4) (hX : MX ν n tx) (hK : LK n tx ν p) (hl : ∀ i, i < wn w → wsl x2 x3 x4 x5 x6 x7 x8 (nI i) = nI (wb w i)) : ∃ r, fX12_isWord (nI (wn w)) x2 x3 x4 x5 x6 x7 x8 ν = some r ∧ ((r = 1 ∧ WI n tx p w) ∨ (r = 0 ∧ ¬ WI n tx p w)) := by
  have w8 := wn_4 hw
  have t := ta_le (tx := tx) hp
  have ee := tE_le (tx := tx) hp
  have no : fX12_isWord_20 (nI (wn w)) x2 x3 x4 x5 x6 x7 x8 ν = some 0 := by
    unfold fX12_isWord_20 fX12_isWord_21
    rw [show av_big = 999999 + 1 from rfl, fX12_isWord_26]
    dsimp only
    unfold fX12_isWord_154
    rw [if_neg (nI_nle (by omega) (by omega)), if_pos rfl]
    rfl
  have tk1 : tk n tx p = 1 ↔ kd n tx p = 1 := by
    unfold tk
    constructor
    · intro h
      split at h
      · cases h
      · exact h
    · intro h; rw [if_neg (by omega)]; exact h
  have tk4 : tk n tx p ≤ 4 := by
    unfold tk
    split
    · omega
    · unfold kd
      split
      · omega
      · split
        · omega
        · split
          · omega
          · split <;> omega
  unfold fX12_isWord
  rw [hK.2.2.1, hK.2.1]
  by_cases c : kd n tx p = 1
  · rw [tk1.mpr c, if_pos (show nI 1 = 1 from rfl)]
    by_cases d : tE n tx p - ta n tx p = wn w
    · rw [if_pos (by rw [d])]
      obtain ⟨r, e, h⟩ := m_iw26 (x2 := x2) (x3 := x3) (x4 := x4) (x5 := x5) (x6 := x6) (x7 := x7) (x8 := x8) hn htx hw hX hK.1 (by omega) hl (wn w) av_big 0 1 (by omega) (by omega) (by show _ < 1000000; omega) (Or.inl ⟨rfl, fun x hx => by omega⟩)
      rw [nI_0] at e
      refine ⟨r, e, ?_⟩
      rcases h with ⟨x, y⟩ | ⟨x, y⟩
      · exact Or.inl ⟨x, c, d, y⟩
      · exact Or.inr ⟨x, fun h => y h.2.2⟩
    · rw [if_neg (fun e => d ((nI_eq (by omega) (by omega)).mp e)), no]
      exact ⟨0, rfl, Or.inr ⟨rfl, fun h => d h.2.1⟩⟩
  · have x : ¬ nI (tk n tx p) = 1 := fun e => c (tk1.mp ((nI_eq (b := 1) (by omega) (by decide)).mp e))
    rw [if_neg x, no]
    exact ⟨0, rfl, Or.inr ⟨rfl, fun h => c h.1⟩⟩
theorem m_takes {n p j : Nat} {tx : Nat → Nat} {ν : Mem} {lo hi : Int32} (hn : n ≤ 150) (htx : ∀ k, k < n → tx k < 128) (hp : p ≤ n) (hj : j < 3) (hX : MX ν n tx) (hK : LK n tx ν p) : (NK n tx p lo hi → ∃ ν', fX12_takes (nI j) lo hi ν = some (1, ν') ∧ KM ν ν' ∧ LK n tx ν' (tE n tx p) ∧ (∀ a, a ≠ 113 → gA ν' a = gA ν a) ∧ gA ν' 113 = upd (gA ν 113) j (nI (vl n tx p))) ∧ (¬ NK n tx p lo hi → fX12_takes (nI j) lo hi ν = some (0, ν)) := by
  have tk4 : tk n tx p ≤ 4 := by
    unfold tk
    split
    · omega
    · unfold kd
      split
      · omega
      · split
        · omega
        · split
          · omega
          · split <;> omega
  refine ⟨fun h => ?_, fun h => ?_⟩
  · have o1 : KM ν (sA ν 113 (upd (gA ν 113) j (nI (vl n tx p)))) := KM.sA (by decide)
    obtain ⟨ν2, e2, o2, h2⟩ := m_behind (ν := sA ν 113 (upd (gA ν 113) j (nI (vl n tx p)))) hn htx hp (MX.km o1 hX) hK
    refine ⟨ν2, ?_, o1.tr o2.km, h2, fun a ha => by rw [o2.2.2, gA_sn ha], by rw [o2.2.2, gA_ss]⟩
    unfold fX12_takes
    rw [hK.2.2.1, h.1, if_pos (show nI 2 = 2 from rfl), hK.2.2.2, m_in, bs, if_pos h.2, if_neg n10, wr_nI av_l113 hj (by decide), bs, e2, bs]
  · unfold fX12_takes fX12_takes_23
    rw [hK.2.2.1, hK.2.2.2, m_in, bs]
    by_cases c : tk n tx p = 2
    · rw [c, if_pos (show nI 2 = 2 from rfl), if_neg (fun x => h ⟨c, x⟩), if_pos rfl]
    · rw [if_neg (show ¬ nI (tk n tx p) = 2 from fun e => c ((nI_eq (b := 2) (by omega) (by decide)).mp e))]
