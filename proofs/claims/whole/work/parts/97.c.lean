/-! orders: the side of the component; the step. -/
theorem c_oo {d : Nat} {μ : Mem} (hd : d ≤ 6) : ∀ (m f i : Nat), m = d + 1 - (i + 1) → i ≤ d → m < f → 1 ≤ i → fX1_ordersOf_4 f (nI d) (nI (fct i)) (nI (i + 1)) μ = some (nI (fct d))
  | 0, f, i, hm, hi, hf, h1 => by
    obtain ⟨f, rfl⟩ : ∃ g, f = g + 1 := ⟨f - 1, by omega⟩
    obtain rfl : i = d := by omega
    unfold fX1_ordersOf_4
    rw [if_pos (nI_lt (by omega) (by omega))]
  | m + 1, f, i, hm, hi, hf, h1 => by
    obtain ⟨f, rfl⟩ : ∃ g, f = g + 1 := ⟨f - 1, by omega⟩
    have ih := c_oo (μ := μ) hd m f (i + 1) (by omega) (by omega) (by omega) (by omega)
    unfold fX1_ordersOf_4
    rw [if_neg (nI_nlt (by omega) (by omega)), bs, bs, nI_1, pk_mul, Nat.mul_comm]
    exact ih
theorem c_ordersOf {d : Nat} {μ : Mem} (hd : d ≤ 6) : fX1_ordersOf (nI d) μ = some (nI (fct d)) := by
  by_cases h : d = 0
  · subst h
    unfold fX1_ordersOf
    rw [show av_big = 999999 + 1 from rfl, fX1_ordersOf_4]
    dsimp only
    rw [if_pos (by decide)]
    rfl
  · exact c_oo (μ := μ) hd (d - 1) av_big 1 (by omega) (by omega) (by show _ < 1000000; omega) (by omega)
/-- all but the order's row stays -/
def WO (μ μ' : Mem) : Prop := (∀ a k, gF μ' a k = gF μ a k) ∧ gL μ' = gL μ ∧ (∀ a, a ≠ 13 → gA μ' a = gA μ a)
theorem WO.rf {μ : Mem} : WO μ μ := ⟨fun _ _ => rfl, rfl, fun _ _ => rfl⟩
theorem WO.tr {μ μ1 μ2 : Mem} (h1 : WO μ μ1) (h2 : WO μ1 μ2) : WO μ μ2 := ⟨fun a k => (h2.1 a k).trans (h1.1 a k), h2.2.1.trans h1.2.1, fun a h => (h2.2.2 a h).trans (h1.2.2 a h)⟩
theorem WO.sA {μ : Mem} {f : Nat → Int32} : WO μ (sA μ 13 f) := ⟨fun _ _ => rfl, rfl, fun a h => by rw [gA_sA, if_neg h]⟩
theorem c_hb {u v : Nat} {μ : Mem} (hu : u < 256) (hv : v < 8) : fX11_hasBit (nI u) (nI v) μ = some (if u.testBit v then 1 else 0) := by
  unfold fX11_hasBit
  cases h : u.testBit v with
  | true => rw [if_neg (fun e => by rw [(has_bit hu hv).1, h] at e; cases e)]; rfl
  | false => rw [if_pos ((has_bit hu hv).1.mpr h)]; rfl
theorem c_filo {n u c j : Nat} (h6 : j + nub u n ≤ 6) (hn : n ≤ 6) (hu : u < 256) : ∀ (m f v : Nat) (μ : Mem), m = n - v → v ≤ n → m < f → gF μ 15 4 = nI n → gF μ 11 4 = 0 → (∀ i, i < j + nub u v → gA μ 13 i = nI (rwo n (j + nub u v) (fcd n u c v) i)) → ∃ μ', fX1_fillOrder_5 f (nI u) (nI (j + nub u v)) (nI v) μ = some μ' ∧ WO μ μ' ∧ ∀ i, i < j + nub u n → gA μ' 13 i = nI (rwo n (j + nub u n) (fcd n u c n) i)
  | 0, f, v, μ, hm, hv, hf, g4, g11, hr => by
    obtain ⟨f, rfl⟩ : ∃ g, f = g + 1 := ⟨f - 1, by omega⟩
    obtain rfl : v = n := by omega
    refine ⟨μ, ?_, WO.rf, hr⟩
    unfold fX1_fillOrder_5
    rw [g4, if_pos (nI_le (by omega) (by omega))]
  | m + 1, f, v, μ, hm, hv, hf, g4, g11, hr => by
    obtain ⟨f, rfl⟩ : ∃ g, f = g + 1 := ⟨f - 1, by omega⟩
    have mo := nub_mono (u := u) (v := v + 1) (w := n) (by omega)
    rw [fX1_fillOrder_5]
    dsimp only
    rw [g4, if_neg (nI_ge (by omega) (by omega)), if_pos g11, c_hb hu (by omega), bs]
    unfold fX1_fillOrder_50
    by_cases b : u.testBit v = true
    · have eb : nub u (v + 1) = nub u v := by rw [nub, if_pos b, Nat.add_zero]
      have ec : fcd n u c (v + 1) = fcd n u c v := by rw [fcd_suc, if_pos b]
      obtain ⟨μ1, e1, o1, r1⟩ := c_filo (c := c) h6 hn hu m f (v + 1) μ (by omega) (by omega) (by omega) g4 g11 (by rw [eb, ec]; exact hr)
      rw [eb] at e1
      refine ⟨μ1, ?_, o1, r1⟩
      rw [if_pos b, if_neg n10, bs, nI_1]
      exact e1
    · have eb : nub u (v + 1) = nub u v + 1 := by rw [nub, if_neg b]
      have ec : fcd n u c (v + 1) = fcd n u c v * n + v := by rw [fcd_suc, if_neg b]
      have n6 : ¬ (6 : Int32) ≤ nI (j + nub u v) := nI_ge (b := 6) (by omega) (by decide)
      obtain ⟨μ1, e1, o1, r1⟩ := c_filo (c := c) h6 hn hu m f (v + 1) (sA μ 13 (upd (gA μ 13) (j + nub u v) (nI v))) (by omega) (by omega) (by omega) g4 g11 (by
        rw [eb, ec]
        intro i hi
        rw [gA_ss, show j + (nub u v + 1) = j + nub u v + 1 by omega]
        by_cases e : i = j + nub u v
        · rw [e, pk_us, rwo_last (by omega)]
        · rw [pk_un e, rwo_fore (by omega) (by omega)]
          exact hr i (by omega))
      rw [eb] at e1
      refine ⟨μ1, ?_, WO.sA.tr o1, r1⟩
      rw [if_neg b]
      simp only [if_true]
      rw [if_neg n6, wr_nI av_l13 (by omega) (by omega), bs, bs, bs, nI_1, nI_1, Nat.add_assoc]
      exact e1
/-- what lies in the rows up to p stays, but for the order and how many -/
def RP (p : Nat) (μ μ' : Mem) : Prop := (∀ a k, a < 74 + 4 * p → a ≠ 11 → gF μ' a k = gF μ a k) ∧ gL μ' = gL μ ∧ (∀ a, a < 74 + 4 * p → a ≠ 13 → gA μ' a = gA μ a)
theorem RP.rf {p : Nat} {μ : Mem} : RP p μ μ := ⟨fun _ _ _ _ => rfl, rfl, fun _ _ _ => rfl⟩
theorem RP.tr {p : Nat} {μ μ1 μ2 : Mem} (h1 : RP p μ μ1) (h2 : RP p μ1 μ2) : RP p μ μ2 := ⟨fun a k h g => (h2.1 a k h g).trans (h1.1 a k h g), h2.2.1.trans h1.2.1, fun a h g => (h2.2.2 a h g).trans (h1.2.2 a h g)⟩
theorem RP.up {p : Nat} {μ μ' : Mem} (h : RP (p + 1) μ μ') : RP p μ μ' := ⟨fun a k x y => h.1 a k (by omega) y, h.2.1, fun a x y => h.2.2 a (by omega) y⟩
theorem RP.ro {p : Nat} {μ μ' : Mem} (h : RO p μ μ') : RP p μ μ' := ⟨fun a k x _ => h.1 a k x, h.2.1, fun a x _ => h.2.2 a x⟩
theorem RP.wo {p : Nat} {μ μ' : Mem} (h : WO μ μ') : RP p μ μ' := ⟨fun a k _ _ => h.1 a k, h.2.1, fun a _ y => h.2.2 a y⟩
theorem RP.sF {p k : Nat} {μ : Mem} {v : Int32} : RP p μ (sF μ 11 k v) := ⟨fun a b _ y => by rw [gF_sF, if_neg y], rfl, fun _ _ _ => rfl⟩
theorem RP.kc {p : Nat} {μ μ' : Mem} (h : RP p μ μ') : KC μ μ' := ⟨fun a k _ x y _ => h.1 a k (by omega) y, h.2.1, fun a _ x y => h.2.2 a (by omega) y⟩
theorem RP_CT {p : Nat} {μ μ' : Mem} {τ : Td} (h : RP p μ μ') (hT : CT μ τ) : CT μ' τ := by
  unfold CT at hT ⊢
  rw [h.1 15 1 (by omega) (by omega), h.1 15 4 (by omega) (by omega), h.2.2 16 (by omega) (by omega), h.2.2 17 (by omega) (by omega), h.2.2 18 (by omega) (by omega), h.2.2 19 (by omega) (by omega), h.2.2 20 (by omega) (by omega)]
  exact hT
theorem RP_CS {p : Nat} {μ μ' : Mem} {τ : Td} {σ : Hd} (h : RP p μ μ') (hS : CS μ τ (70 + 4 * p) σ) : CS μ' τ (70 + 4 * p) σ := by
  obtain ⟨h1, h2, h3, h4⟩ := hS
  refine ⟨fun k hk => ?_, ?_, ?_, ?_⟩
  · rw [h.2.2 _ (by omega) (by omega), h.2.2 _ (by omega) (by omega)]; exact h1 k hk
  · rw [h.1 _ _ (by omega) (by omega)]; exact h2
  · rw [h.1 _ _ (by omega) (by omega)]; exact h3
  · rw [h.1 _ _ (by omega) (by omega)]; exact h4
/-- how many so far, and the order: of the first, or as far as it goes -/
def OR (μ : Mem) (n : Nat) (a : Ac) (j c : Nat) : Prop := gF μ 11 4 = nI a.1 ∧ (a.1 = 0 → ∀ i, i < j → gA μ 13 i = nI (rwo n j c i)) ∧ (a.1 ≠ 0 → ∀ i, i < n → gA μ 13 i = nI (rwo n n a.2 i))
theorem OR.keep {p : Nat} {μ μ' : Mem} {n : Nat} {a : Ac} {j c : Nat} (h : RO p μ μ') (hO : OR μ n a j c) : OR μ' n a j c := by
  unfold OR at hO ⊢
  rw [h.1 11 4 (by omega), h.2.2 13 (by omega)]
  exact hO
theorem c_cnt {τ : Td} {k : Nat} (hw : WT τ) (hk : k < tL τ) : ∀ (d f j c : Nat) (σ : Hd) (u : Nat) (a : Ac) (μ : Mem), j + d = tV τ → d < f → u < 2 ^ tV τ → nub u (tV τ) = d → σ.2.2.1 + d < 2 ^ 30 → a.1 + tV τ ^ d < 2 ^ 30 → CT μ τ → CS μ τ (70 + 4 * j) σ → OR μ (tV τ) a j c → ∃ μ', fX1_countOrders f (nI j) (nI k) (nI u) μ = some μ' ∧ RP j μ μ' ∧ OR μ' (tV τ) (tre τ k d c σ u a) j c := by
  intro d
  induction d with
  | zero =>
    intro f j c σ u a μ hj hf hu hnu hn ha hT hS hO
    obtain ⟨f, rfl⟩ : ∃ g, f = g + 1 := ⟨f - 1, by omega⟩
    have v6 := hw.2.1
    have l8 := hw.1
    obtain rfl : j = tV τ := by omega
    have u64 : u < 256 := Nat.lt_of_lt_of_le hu (by have := (two_V hw.2.1).2.1; omega)
    have e0 : nI (tV τ) - nI (tV τ) = nI 0 := by rw [pk_sub (Nat.le_refl _), Nat.sub_self]
    have e37 : fX1_countOrders_b (fX1_countOrders f) (nI (tV τ)) (nI k) (nI u) μ = fX1_countOrders_37 (fX1_countOrders f) (nI (tV τ)) (nI k) (nI u) (nI 0) μ := by
      unfold fX1_countOrders_b
      rw [hT.2.1, bs, e0, rdr_r (by omega), bs, if_pos (show nI 0 ≤ 0 by decide), ite_self]
    rw [fX1_countOrders, e37]
    unfold fX1_countOrders_37
    rw [rdr_r (by omega), bs, hS.2.2.1]
    have eu := full_of hu hnu
    by_cases won : σ.2.2.2.1 = nI k
    · rw [if_pos won, tre, lef, if_pos ⟨eu, won⟩]
      have p0 : a.1 + 1 < 2 ^ 30 := by rw [Nat.pow_zero] at ha; exact ha
      obtain ⟨μ1, e1, o1, r1⟩ : ∃ μ1, fX1_fillOrder (nI (tV τ)) (nI u) μ = some μ1 ∧ WO μ μ1 ∧ gA μ1 13 = gA μ 13 := by
        refine ⟨μ, ?_, WO.rf, rfl⟩
        unfold fX1_fillOrder
        by_cases a0 : a.1 = 0
        · have lp : ∀ (m f v : Nat), m = tV τ - v → v ≤ tV τ → m < f → fX1_fillOrder_5 f (nI u) (nI (tV τ)) (nI v) μ = some μ := by
            intro m
            induction m with
            | zero =>
              intro f v hm hv hf
              obtain ⟨f, rfl⟩ : ∃ g, f = g + 1 := ⟨f - 1, by omega⟩
              unfold fX1_fillOrder_5
              rw [hT.2.1, if_pos (nI_le (by omega) (by omega))]
            | succ m ih =>
              intro f v hm hv hf
              obtain ⟨f, rfl⟩ : ∃ g, f = g + 1 := ⟨f - 1, by omega⟩
              have bv := nub_bits (u := u) (tV τ) hnu v (by omega)
              rw [fX1_fillOrder_5]
              dsimp only
              unfold fX1_fillOrder_50
              rw [hT.2.1, if_neg (nI_ge (by omega) (by omega)), c_hb u64 (by omega), bs, bv, hO.1, a0, nI_0, if_pos rfl, if_pos rfl, if_neg n10, bs, nI_1]
              exact ih f (v + 1) (by omega) (by omega) (by omega)
          have e := lp (tV τ) av_big 0 (by omega) (by omega) (by show _ < 1000000; omega)
          rw [nI_0] at e
          exact e
        · rw [show av_big = 999999 + 1 from rfl, fX1_fillOrder_5]
          dsimp only
          rw [hO.1, if_neg (nI_ne0 (n := a.1) (by omega) (by omega)), ite_self]
      rw [e1, bs, c_ordersOf (by omega), bs, bs]
      refine ⟨_, rfl, (RP.wo o1).tr RP.sF, ?_, ?_, ?_⟩
      · rw [gF_sF, if_pos rfl, if_pos rfl, o1.1, hO.1]; exact nI_1 _
      · intro h; exact absurd h (by show a.1 + 1 ≠ 0; omega)
      · intro _ i hi
        rw [gA_sF, r1]
        by_cases a0 : a.1 = 0
        · show _ = nI (rwo _ _ (if a.1 = 0 then c else a.2) i)
          rw [if_pos a0]; exact hO.2.1 a0 i hi
        · show _ = nI (rwo _ _ (if a.1 = 0 then c else a.2) i)
          rw [if_neg a0]; exact hO.2.2 a0 i hi
    · rw [if_neg won, tre, lef, if_neg (fun h => won h.2)]
      exact ⟨μ, rfl, RP.rf, hO⟩
  | succ d ih =>
    intro f j c σ u a μ hj hf hu hnu hn ha hT hS hO
    obtain ⟨f, rfl⟩ : ∃ g, f = g + 1 := ⟨f - 1, by omega⟩
    have v6 := hw.2.1
    have l8 := hw.1
    have u64 : u < 256 := Nat.lt_of_lt_of_le hu (by have := (two_V hw.2.1).2.1; omega)
    have e0 : nI (tV τ) - nI j = nI (d + 1) := by rw [pk_sub (by omega), show tV τ - j = d + 1 by omega]
    have dp : fX1_isDeepest (nI j) μ = some 0 := by
      have c6 : nI j < 6 := nI_lt (b := 6) (by omega) (by decide)
      unfold fX1_isDeepest
      rw [if_neg (nI_pos (by omega)), if_pos c6]
    by_cases w : σ.2.2.2.1 = -1
    · have lp : ∀ (m g v : Nat) (μ1 : Mem), m = tV τ - v → v ≤ tV τ → m < g → RP j μ μ1 → OR μ1 (tV τ) (tl (fun v b => tre τ k d (c * tV τ + v) (vot τ σ v) (u ||| 2 ^ v) b) v a) j c → ∃ μ', fX1_countOrders_74 (fX1_countOrders f) g (nI j) (nI k) (nI u) (nI v) μ1 = some μ' ∧ RP j μ1 μ' ∧ OR μ' (tV τ) (tl (fun v b => tre τ k d (c * tV τ + v) (vot τ σ v) (u ||| 2 ^ v) b) (tV τ) a) j c := by
        intro m
        induction m with
        | zero =>
          intro g v μ1 hm hv hg hR hO1
          obtain ⟨g, rfl⟩ : ∃ t, g = t + 1 := ⟨g - 1, by omega⟩
          obtain rfl : v = tV τ := by omega
          refine ⟨μ1, ?_, RP.rf, hO1⟩
          have hT1 := RP_CT hR hT
          rw [fX1_countOrders_74]
          dsimp only
          rw [hT1.2.1, if_pos (nI_le (by omega) (by omega))]
        | succ m ihm =>
          intro g v μ1 hm hv hg hR hO1
          obtain ⟨g, rfl⟩ : ∃ t, g = t + 1 := ⟨g - 1, by omega⟩
          have hT1 := RP_CT hR hT
          have hS1 := RP_CS hR hS
          have hb := tl_le (τ := τ) (k := k) (d := d) (c := c) (u := u) (σ := σ) (a := a) v
          have hv1 : (v + 1) * tV τ ^ d ≤ tV τ ^ (d + 1) := by
            rw [Nat.pow_succ, Nat.mul_comm (tV τ ^ d)]
            exact Nat.mul_le_mul_right _ (by omega)
          rw [Nat.add_mul, Nat.one_mul] at hv1
          generalize hA : tl (fun v b => tre τ k d (c * tV τ + v) (vot τ σ v) (u ||| 2 ^ v) b) v a = A at hO1 hb
          have step : tl (fun v b => tre τ k d (c * tV τ + v) (vot τ σ v) (u ||| 2 ^ v) b) (v + 1) a = tre τ k d (c * tV τ + v) (vot τ σ v) (u ||| 2 ^ v) A := by rw [tl, hA]
          by_cases b : u.testBit v = true
          · rw [tre_dead d _ _ _ _ (by rw [nub_has b]; omega)] at step
            obtain ⟨μ2, e2, o2, h2⟩ := ihm g (v + 1) μ1 (by omega) (by omega) (by omega) hR (by rw [step]; exact hO1)
            refine ⟨μ2, ?_, o2, h2⟩
            rw [fX1_countOrders_74]
            dsimp only
            unfold fX1_countOrders_154
            rw [hT1.2.1, if_neg (nI_ge (by omega) (by omega)), c_hb u64 (by omega), bs, if_pos b, if_neg n10, bs, nI_1]
            exact e2
          · have b' : u.testBit v = false := by simpa using b
            obtain ⟨μ2, e2, o2, h2⟩ : ∃ μ2, (if gF μ1 11 4 = 0 then ((wr μ1 13 (nI j) (nI v)).bind fun μ109 => fX1_countOrders_110 (fX1_countOrders f) (fX1_countOrders_74 (fX1_countOrders f) g) (nI j) (nI k) (nI u) (nI v) μ109) else (fX1_countOrders_110 (fX1_countOrders f) (fX1_countOrders_74 (fX1_countOrders f) g) (nI j) (nI k) (nI u) (nI v) μ1)) = fX1_countOrders_110 (fX1_countOrders f) (fX1_countOrders_74 (fX1_countOrders f) g) (nI j) (nI k) (nI u) (nI v) μ2 ∧ WO μ1 μ2 ∧ OR μ2 (tV τ) A (j + 1) (c * tV τ + v) := by
              by_cases a0 : A.1 = 0
              · refine ⟨_, by rw [hO1.1, a0, nI_0, if_pos rfl, wr_nI av_l13 (by omega) (by omega), bs], WO.sA, hO1.1, fun _ i hi => ?_, fun h => absurd a0 h⟩
                rw [gA_ss]
                by_cases e : i = j
                · rw [e, pk_us, rwo_last (by omega)]
                · rw [pk_un e, rwo_fore (by omega) (by omega)]
                  exact hO1.2.1 a0 i (by omega)
              · refine ⟨μ1, by rw [hO1.1, if_neg (nI_ne0 (by omega) (by omega))], WO.rf, hO1.1, fun h => absurd h a0, hO1.2.2⟩
            have R2 : RP j μ1 μ2 := RP.wo o2
            have hT2 := RP_CT R2 hT1
            have hS2 := RP_CS R2 hS1
            obtain ⟨μ3, e3, o3, h3⟩ := c_next (by omega) hw hS2
            have hT3 := RO_CT o3 hT2
            obtain ⟨μ4, e4, s4, h4, -⟩ := c_cast (SQ_r (p := j + 1) (by omega)) hw hT3 h3 (show v < tV τ by omega) (by omega)
            have o4 : RO j μ3 μ4 := RO.so (by rw [show 74 + 4 * j = 70 + 4 * (j + 1) by omega]; exact s4)
            have hn' := nub_set b' (tV τ) (by omega)
            obtain ⟨μ5, e5, o5, h5⟩ := ih f (j + 1) (c * tV τ + v) (vot τ σ v) (u ||| 2 ^ v) A μ4 (by omega) (by omega) (or_lt hu (by omega)) (by omega) (by rw [vot_v]; omega) (by omega) (RO_CT o4 hT3) h4 ((h2.keep o3).keep o4)
            have R5 : RP j μ1 μ5 := R2.tr ((RP.ro (o3.tr o4)).tr o5.up)
            obtain ⟨μ6, e6, o6, h6⟩ := ihm g (v + 1) μ5 (by omega) (by omega) (by omega) (hR.tr R5) (by
              rw [step]
              refine ⟨h5.1, fun h i hi => ?_, h5.2.2⟩
              rw [h5.2.1 h i (by omega), rwo_fore (by omega) hi])
            refine ⟨μ6, ?_, R5.tr o6, h6⟩
            rw [fX1_countOrders_74]
            dsimp only
            rw [hT1.2.1, if_neg (nI_ge (by omega) (by omega)), c_hb u64 (by omega), bs, if_neg b]
            simp only [if_true]
            rw [e2]
            unfold fX1_countOrders_110 fX1_countOrders_154
            rw [nI_1, rdr_r (by omega), bs, rdr_r (by omega), bs, e3, bs, bs, e4, bs, nI_bit u64 (by omega), e5, bs, bs, nI_1]
            exact e6
      obtain ⟨μ1, e1, o1, h1⟩ := lp (tV τ) av_big 0 μ (by omega) (by omega) (by show _ < 1000000; omega) RP.rf hO
      rw [nI_0] at e1
      refine ⟨μ1, ?_, o1, h1⟩
      rw [fX1_countOrders]
      unfold fX1_countOrders_b
      rw [hT.2.1, bs, e0, rdr_r (by omega), bs, hS.2.2.1, if_pos w, if_neg (nI_nle (by omega) (by omega)), dp, bs, if_pos rfl, e1]
    · rw [tre_won (d + 1) c σ u a hu hnu w]
      have e37 : fX1_countOrders_b (fX1_countOrders f) (nI j) (nI k) (nI u) μ = fX1_countOrders_37 (fX1_countOrders f) (nI j) (nI k) (nI u) (nI (d + 1)) μ := by
        unfold fX1_countOrders_b
        rw [hT.2.1, bs, e0, rdr_r (by omega), bs, hS.2.2.1, if_neg w]
      rw [fX1_countOrders, e37]
      unfold fX1_countOrders_37
      rw [rdr_r (by omega), bs, hS.2.2.1]
      by_cases won : σ.2.2.2.1 = nI k
      · rw [if_pos won, if_pos won]
        by_cases a0 : a.1 = 0
        · obtain ⟨μ1, e1, o1, r1⟩ := c_filo (n := tV τ) (u := u) (c := c) (j := j) (by omega) v6 u64 (tV τ) av_big 0 μ (by omega) (by omega) (by show _ < 1000000; omega) hT.2.1 (by rw [hO.1, a0]; rfl) (fun i hi => hO.2.1 a0 i hi)
          rw [nI_0, show j + nub u 0 = j from rfl] at e1
          rw [show j + nub u (tV τ) = tV τ by omega] at r1
          unfold fX1_fillOrder
          rw [e1, bs, c_ordersOf (by omega), bs, bs]
          refine ⟨_, rfl, (RP.wo o1).tr RP.sF, ?_, ?_, ?_⟩
          · rw [gF_sF, if_pos rfl, if_pos rfl, o1.1, hO.1]; exact nI_add _ _
          · intro h; have := fct_pos (d + 1); exact absurd h (by show a.1 + fct (d + 1) ≠ 0; omega)
          · intro _ i hi
            show _ = nI (rwo _ _ (if a.1 = 0 then _ else a.2) i)
            rw [gA_sF, if_pos a0]
            exact r1 i hi
        · have e1 : fX1_fillOrder (nI j) (nI u) μ = some μ := by
            unfold fX1_fillOrder
            rw [show av_big = 999999 + 1 from rfl, fX1_fillOrder_5]
            dsimp only
            rw [hO.1, if_neg (nI_ne0 (n := a.1) (by omega) (by omega)), ite_self]
          rw [e1, bs, c_ordersOf (by omega), bs, bs]
          refine ⟨_, rfl, RP.sF, ?_, ?_, ?_⟩
          · rw [gF_sF, if_pos rfl, if_pos rfl, hO.1]; exact nI_add _ _
          · intro h; exact absurd h (by show a.1 + fct (d + 1) ≠ 0; omega)
          · intro _ i hi
            show _ = nI (rwo _ _ (if a.1 = 0 then _ else a.2) i)
            rw [gA_sF, if_neg a0]
            exact hO.2.2 a0 i hi
      · rw [if_neg won, if_neg won]
        exact ⟨μ, rfl, RP.rf, hO⟩
theorem st_orders : lw_st_orders Iv := by
  intro i hi a w μ ν h
  obtain ⟨z, wz, cz, mz⟩ := h.1
  have l8 := wz.1.1
  have v6 := wz.1.2.1
  have pn := pow_nn v6
  unfold fX11_orders fX12_orders fX11_orders_13 fX12_orders_13 fX11_orders_93
  rw [c_isLedge (CTb_CT cz.1), m_isLedge mz.1, bs, bs]
  by_cases c1 : (0 : Int32) ≤ a ∧ a ≤ nI (tL (zT z)) - 1
  · obtain ⟨k, hk, rfl⟩ := ix_out (by omega) c1
    rw [if_pos c1, if_neg n10, if_neg n10]
    by_cases c2 : (-1 : Int32) ≤ w
    · rw [if_pos c2, if_pos c2, show gF μ 21 4 = _ from cz.2.1.2.2.1, r99 5 5 rfl (by decide), mz.2.1.2.2.1, bs]
      by_cases c3 : (zH z).2.2.2.1 = -1
      · rw [if_pos c3, if_pos c3, m_voters mz.1, bs]
        have hv := wz.2.2.1
        obtain ⟨μ1, e1, s1, h1⟩ := c_fresh wz.1 cz.2.1
        have hT1 := SO_CT (Or.inr (Or.inl rfl)) s1 (CTb_CT cz.1)
        have nv : ∀ m, nub 0 m = m := by
          intro m
          induction m with
          | zero => rfl
          | succ m ih => rw [nub, ih]; simp
        obtain ⟨μ2, e2, o2, h2⟩ := c_cnt wz.1 hk (tV (zT z)) 8 0 0 (zH z) 0 (0, 0) (sF μ1 11 4 0) (by omega) (by omega) (Nat.two_pow_pos _) (nv _) (by omega) (by show 0 + _ < _; omega) hT1 h1 ⟨by rw [gF_sF, if_pos rfl, if_pos rfl]; rfl, fun _ i hi => by omega, fun h => absurd rfl h⟩
        obtain ⟨ν1, A, f1, q1, K1, x1⟩ := m_o46 (k := k) (x2 := w) wz.1 wz.2.1 (by omega) (tV (zT z) ^ tV (zT z)) av_big 0 (0, 0) ν (by omega) (by omega) (by show _ < 1000000; omega) mz.1 mz.2.1 (fun h => absurd rfl h) (by show 0 ≤ 0; omega)
        have tf := tre_flt (τ := zT z) (k := k) (σ := zH z) (tV (zT z)) 0 0 (0, 0)
        rw [Nat.zero_mul, Nat.zero_add] at tf
        rw [← tf, show pst (zT z) (zH z) 0 0 = zH z from rfl, show pmk (tV (zT z)) 0 0 = 0 from rfl] at x1
        rw [← x1] at h2
        have bA : A.1 ≤ 46656 := by
          have := tre_le (τ := zT z) (k := k) (tV (zT z)) 0 (zH z) 0 (0, 0)
          rw [← x1] at this
          have h0 : ((0, 0) : Ac).1 = 0 := rfl
          omega
        have hT2 := RP_CT o2 (show CT (sF μ1 11 4 0) (zT z) from hT1)
        have hI : Iv (i + 5) μ2 ν1 := Iv_5 (Iv_keep ((KC.so (by omega) s1).tr ((RP.kc (p := 0) RP.sF).tr o2.kc)) q1 h)
        rw [nI_0] at e2 f1
        have ow : fX1_ordersWon (nI k) μ = some (nI A.1, μ2) := by
          unfold fX1_ordersWon
          rw [e1, b2_some, bs, e2, bs, h2.1]
        rw [ow, b2_some, f1]
        by_cases i1 : w = -1
        · exact ⟨nI A.1, μ2, ν1, by rw [if_pos i1], by rw [if_pos i1], hI⟩
        · rw [if_neg i1, if_neg i1]
          by_cases a0 : nI A.1 = 0
          · exact ⟨-1, μ2, ν1, by rw [if_pos a0], by rw [if_pos a0], hI⟩
          · rw [if_neg a0, if_neg a0, hT2.2.1]
            by_cases i2 : nI (tV (zT z)) ≤ w
            · exact ⟨-5, μ2, ν1, by rw [if_pos i2], by rw [if_pos i2], hI⟩
            · rw [if_neg i2, if_neg i2]
              have w0 : (0 : Int32) ≤ w := by
                rw [Int32.le_iff_toInt_le] at c2 ⊢
                have e1 : (-1 : Int32).toInt = -1 := by decide
                have e0 : (0 : Int32).toInt = 0 := by decide
                have : w.toInt ≠ -1 := fun e => i1 (Int32.toInt_inj.mp (by rw [e, e1]))
                omega
              obtain ⟨t, ht, rfl⟩ := nI_of (Int32.not_lt.mpr w0)
              have tv : t < tV (zT z) := by
                rw [nI_leI (by omega) ht] at i2
                omega
              have n6 : ¬ (6 : Int32) ≤ nI t := nI_ge (b := 6) (by omega) (by decide)
              have A0 : A.1 ≠ 0 := fun e => a0 (by rw [e]; rfl)
              refine ⟨nI (rwo (tV (zT z)) (tV (zT z)) A.2 t), μ2, ν1, ?_, ?_, hI⟩
              · rw [if_neg n6, rd_nI av_l13 (by omega) (by omega), h2.2.2 A0 t tv, bs]
              · rw [rd_nI av_l106 (by omega) (by omega), K1 A0 t tv, bs]
      · exact no2_ok h (by rw [if_neg c3]) (by rw [if_neg c3])
    · exact bad2_ok (-10) h (by rw [if_neg c2]) (by rw [if_neg c2])
  · exact bad2_ok (-10) h (by rw [if_neg c1, if_pos rfl]) (by rw [if_neg c1, if_pos rfl])
