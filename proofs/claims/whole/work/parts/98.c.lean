/-! parties: how it ends if both do as well as they can; no machine here. -/
def bt (A : Bool) : Option Nat → Nat → Bool
  | none, _ => true
  | some y, x => if A then decide (y < x) else decide (x < y)
def jd (A : Bool) (b : Option Nat) (x : Nat) : Option Nat := if bt A b x then some x else b
def oco (τ : Td) (k j : Nat) (nx : Hd → Nat) (σ : Hd) (on : Nat) : Nat := if fa (cdl τ (lyt σ on 1)) k j then 2 else if fa (cdl τ (lyt σ on 1)) j k then 0 else nx (stn τ σ on)
def fo (A : Bool) (g : Nat → Nat) (n : Nat) : Option Nat := tl (fun on b => jd A b (g on)) n none
theorem fo_suc {A : Bool} {g : Nat → Nat} {n : Nat} : fo A g (n + 1) = jd A (fo A g n) (g n) := rfl
def mm (τ : Td) (k j : Nat) : Nat → Bool → Hd → Nat
  | 0, _, _ => 1
  | m + 1, A, σ => (fo A (oco τ k j (mm τ k j m (!A)) σ) (tL τ)).getD 1
theorem jd_some {A : Bool} {b : Option Nat} {x : Nat} : ∃ y, jd A b x = some y ∧ (y = x ∨ b = some y) := by
  unfold jd
  cases b with
  | none => exact ⟨x, by simp [bt], Or.inl rfl⟩
  | some y =>
    by_cases c : bt A (some y) x = true
    · exact ⟨x, by rw [if_pos c], Or.inl rfl⟩
    · exact ⟨y, by rw [if_neg c], Or.inr rfl⟩
theorem fo_le {A : Bool} {g : Nat → Nat} (hg : ∀ on, g on ≤ 2) : ∀ n y, fo A g n = some y → y ≤ 2
  | 0, y, h => by cases h
  | n + 1, y, h => by
    rw [fo_suc] at h
    obtain ⟨z, e, c⟩ := jd_some (A := A) (b := fo A g n) (x := g n)
    rw [e] at h
    cases h
    rcases c with c | c
    · rw [c]; exact hg n
    · exact fo_le hg n _ c
theorem fo_some {A : Bool} {g : Nat → Nat} {n : Nat} (h : 0 < n) : ∃ y, fo A g n = some y := by
  obtain ⟨m, rfl⟩ : ∃ m, n = m + 1 := ⟨n - 1, by omega⟩
  rw [fo_suc]
  obtain ⟨y, e, -⟩ := jd_some (A := A) (b := fo A g m) (x := g m)
  exact ⟨y, e⟩
theorem mm_le {τ : Td} {k j : Nat} : ∀ (m : Nat) (A : Bool) (σ : Hd), mm τ k j m A σ ≤ 2
  | 0, A, σ => by rw [mm]; omega
  | m + 1, A, σ => by
    rw [mm]
    cases h : fo A (oco τ k j (mm τ k j m (!A)) σ) (tL τ) with
    | none => show 1 ≤ 2; omega
    | some y =>
      refine fo_le (fun on => ?_) _ y h
      unfold oco
      split
      · omega
      · split
        · omega
        · exact mm_le m _ _
theorem oco_le {τ : Td} {k j m on : Nat} {A : Bool} {σ : Hd} : oco τ k j (mm τ k j m A) σ on ≤ 2 := by
  unfold oco
  split
  · omega
  · split
    · omega
    · exact mm_le m _ _
theorem fo_one {A : Bool} {g : Nat → Nat} : ∀ n, 0 < n → (∀ on, on < n → g on = 1) → fo A g n = some 1
  | 0, h, _ => by omega
  | n + 1, h, hg => by
    rw [fo_suc, hg n (by omega)]
    cases n with
    | zero => rfl
    | succ n =>
      rw [fo_one (n + 1) (by omega) (fun on ho => hg on (by omega))]
      unfold jd bt
      cases A <;> simp
theorem fa_no {l : List Nat} {k j : Nat} {B : Nat → Bool} (h : ∀ x, x ∈ l → B x = false) (hk : B k = true) : fa l k j = false := by
  cases e : fa l k j with
  | false => rfl
  | true =>
    have := h k (fa_mem e)
    rw [hk] at this; cases this
theorem mm_one {τ : Td} {k j : Nat} {B : Nat → Bool} (hw : WT τ) (hL : 0 < tL τ) (hB : CB τ B) (hk : B k = true) (hj : B j = true) : ∀ (m : Nat) (A : Bool) (σ : Hd), m ≤ 50 → AH τ σ → MB τ B σ m → mm τ k j m A σ = 1
  | 0, A, σ, _, _, _ => rfl
  | m + 1, A, σ, hm, hA, hM => by
    rw [mm, fo_one (tL τ) hL (fun on ho => ?_)]
    · rfl
    · obtain ⟨x1, x2⟩ := stn_none hw hB hA ho (by omega) hM
      unfold oco
      rw [fa_no x1 hk, fa_no x1 hj, if_neg (by decide), if_neg (by decide)]
      exact mm_one hw hL hB hk hj m _ _ (by omega) (AH_stn hw) x2
/-- what is best so far, and on which -/
def tp (g : Nat → Nat) (n : Nat) : Option Nat × Nat := tl (fun on (q : Option Nat × Nat) => (jd true q.1 (g on), if bt true q.1 (g on) then on else q.2)) n (none, 0)
theorem tp_suc {g : Nat → Nat} {n : Nat} : tp g (n + 1) = (jd true (tp g n).1 (g n), if bt true (tp g n).1 (g n) then n else (tp g n).2) := rfl
theorem tp_fo {g : Nat → Nat} : ∀ n, (tp g n).1 = fo true g n
  | 0 => rfl
  | n + 1 => by rw [tp_suc, fo_suc, tp_fo n]
theorem jd_two {x : Nat} (hx : x ≤ 2) : jd true (some 2) x = some 2 ∧ bt true (some 2) x = false := by
  have h : bt true (some 2) x = false := by
    unfold bt
    simp only [if_true]
    exact decide_eq_false (by omega)
  exact ⟨by unfold jd; rw [h]; rfl, h⟩
theorem jd_zero {x : Nat} : jd false (some 0) x = some 0 := by
  unfold jd bt
  simp
theorem fo_stay {A : Bool} {g : Nat → Nat} {n m y : Nat} (hs : ∀ x, x ≤ 2 → jd A (some y) x = some y) (hg : ∀ on, g on ≤ 2) (hn : fo A g n = some y) (h : n ≤ m) : fo A g m = some y := by
  induction m with
  | zero => obtain rfl : n = 0 := by omega
            exact hn
  | succ m ih =>
    by_cases e : n = m + 1
    · rw [← e]; exact hn
    · rw [fo_suc, ih (by omega), hs _ (hg m)]
theorem tp_stay {g : Nat → Nat} {n m : Nat} (hg : ∀ on, g on ≤ 2) (hn : (tp g n).1 = some 2) (h : n ≤ m) : tp g m = tp g n := by
  induction m with
  | zero => obtain rfl : n = 0 := by omega
            rfl
  | succ m ih =>
    by_cases e : n = m + 1
    · rw [← e]
    · have i := ih (by omega)
      rw [tp_suc, i, hn, (jd_two (hg m)).1, (jd_two (hg m)).2]
      show (some 2, (tp g n).2) = tp g n
      rw [← hn]
/-! parties: the side of the component -/
theorem nI_or (a b : Nat) (ha : a < 256) (hb : b < 256) : nI a ||| nI b = nI (a ||| b) := by
  have h := or_lt256 ha hb
  apply Int32.toBitVec_inj.mp
  apply BitVec.eq_of_toNat_eq
  rw [Int32.toBitVec_or, BitVec.toNat_or, pk_tn (by omega), pk_tn (by omega), pk_tn (by omega)]
def ev (p : Nat) : Bool := decide (p % 2 = 0)
theorem ev_suc (p : Nat) : ev (p + 1) = !ev p := by
  unfold ev
  have : p % 2 = 0 ∨ p % 2 = 1 := by omega
  rcases this with h | h
  · have : (p + 1) % 2 = 1 := by omega
    simp [h, this]
  · have : (p + 1) % 2 = 0 := by omega
    simp [h, this]
def dfl (A : Bool) : Nat := if A then 0 else 2
theorem mx_jd {b : Option Nat} {x : Nat} (hx : x ≤ 2) (hb : ∀ y, b = some y → y ≤ 2) : av_max (nI (b.getD 0)) (nI x) = nI ((jd true b x).getD 0) := by
  unfold av_max jd
  cases b with
  | none =>
    simp only [bt, if_true, Option.getD_none, Option.getD_some]
    by_cases c : x = 0
    · subst c; rfl
    · rw [if_pos (nI_lt (by omega) (by omega))]
  | some y =>
    have := hb y rfl
    simp only [bt, if_true, Option.getD_some, decide_eq_true_eq]
    by_cases c : y < x
    · rw [if_pos (nI_lt c (by omega)), if_pos c, Option.getD_some]
    · rw [if_neg (nI_nlt (by omega) (by omega)), if_neg c, Option.getD_some]
theorem mn_jd {b : Option Nat} {x : Nat} (hx : x ≤ 2) (hb : ∀ y, b = some y → y ≤ 2) : av_min (nI (b.getD 2)) (nI x) = nI ((jd false b x).getD 2) := by
  unfold av_min jd
  cases b with
  | none =>
    simp only [bt, if_true, Option.getD_none, Option.getD_some]
    by_cases c : x = 2
    · subst c; rfl
    · rw [if_pos (nI_lt (by omega) (by omega))]
  | some y =>
    have := hb y rfl
    simp only [bt, Bool.false_eq_true, if_false, Option.getD_some, decide_eq_true_eq]
    by_cases c : x < y
    · rw [if_pos (nI_lt c (by omega)), if_pos c, Option.getD_some]
    · rw [if_neg (nI_nlt (by omega) (by omega)), if_neg c, Option.getD_some]
theorem cb_or {τ : Td} {a b : Nat} (ha : CB τ a.testBit) (hb : CB τ b.testBit) : CB τ (a ||| b).testBit := by
  intro x hx u hu h
  rw [Nat.testBit_or] at h ⊢
  rcases Bool.or_eq_true_iff.mp h with h | h
  · rw [ha x hx u hu h]; rfl
  · rw [hb x hx u hu h, Bool.or_true]
theorem c_out {τ : Td} {k j : Nat} (hw : WT τ) (hk : k < tL τ) (hj : j < tL τ) (hkj : k ≠ j) : ∀ (m f p on : Nat) (σ : Hd) (μ : Mem), m + p ≤ 3 → m < f → on < tL τ → CT μ τ → CS μ τ (70 + 4 * p) σ → ∃ μ', fX1_outcomeOf f (nI on) (nI k) (nI j) (nI m) (nI p) μ = some (nI (oco τ k j (mm τ k j m (ev (p + 1))) σ on), μ') ∧ RO p μ μ' := by
  intro m
  induction m with
  | zero =>
    intro f p on σ μ hp hf ho hT hS
    obtain ⟨f, rfl⟩ : ∃ g, f = g + 1 := ⟨f - 1, by omega⟩
    have l8 := hw.1
    obtain ⟨μ1, e1, o1, h1, m1⟩ := c_after (by omega) hw hT hS ho
    have dp : fX1_isDeepest (nI p) μ = some 0 := by
      have c6 : nI p < 6 := nI_lt (b := 6) (by omega) (by decide)
      unfold fX1_isDeepest
      rw [if_neg (nI_pos (by omega)), if_pos c6]
    have hl8 : ∀ j, j ∈ cdl τ (lyt σ on 1) → j < 8 := fun j hj => by have := cdl_lt hw j hj; omega
    have hq := SQ_r (p := p + 1) (by omega)
    rw [fX1_outcomeOf]
    unfold fX1_outcomeOf_b fX1_bestOutcome fX1_bestOutcome_35 oco
    rw [dp, bs, if_pos rfl, e1, b2_some, c_ahead hq hl8 m1 (by omega) (by omega) hkj, bs, c_ahead hq hl8 m1 (by omega) (by omega) (fun e => hkj e.symm), bs]
    by_cases c1 : fa (cdl τ (lyt σ on 1)) k j = true
    · rw [if_pos c1, if_neg n10, if_pos c1]
      exact ⟨μ1, rfl, o1⟩
    · rw [if_neg c1, if_pos rfl, if_neg c1]
      by_cases c2 : fa (cdl τ (lyt σ on 1)) j k = true
      · rw [if_pos c2, if_neg n10, if_pos c2]
        exact ⟨μ1, rfl, o1⟩
      · rw [if_neg c2, if_pos rfl, if_neg c2, if_pos (show nI 0 ≤ 0 by decide), b2_some]
        exact ⟨μ1, rfl, o1⟩
  | succ m ih =>
    intro f p on σ μ hp hf ho hT hS
    obtain ⟨f, rfl⟩ : ∃ g, f = g + 1 := ⟨f - 1, by omega⟩
    have l8 := hw.1
    obtain ⟨μ1, e1, o1, h1, m1⟩ := c_after (by omega) hw hT hS ho
    have hT1 := RO_CT o1 hT
    have dp : fX1_isDeepest (nI p) μ = some 0 := by
      have c6 : nI p < 6 := nI_lt (b := 6) (by omega) (by decide)
      unfold fX1_isDeepest
      rw [if_neg (nI_pos (by omega)), if_pos c6]
    have hl8 : ∀ j, j ∈ cdl τ (lyt σ on 1) → j < 8 := fun j hj => by have := cdl_lt hw j hj; omega
    have hq := SQ_r (p := p + 1) (by omega)
    obtain ⟨b1, b2, b3⟩ := abv_ok hw hk
    obtain ⟨d1, d2, d3⟩ := abv_ok hw hj
    obtain ⟨r2, e2, h2⟩ := c_may (m := m + 1) hq hw hT1 h1.1 (or_lt256 b1 d1)
    have hA := AH_stn (σ := σ) (on := on) hw
    have bestE : ∃ μ', fX1_bestOutcome (fX1_outcomeOf f) (nI k) (nI j) (nI (m + 1)) (nI (p + 1)) μ1 = some (nI (mm τ k j (m + 1) (ev (p + 1)) (stn τ σ on)), μ') ∧ RO (p + 1) μ1 μ' := by
      unfold fX1_bestOutcome fX1_bestOutcome_35
      rw [if_neg (nI_nle (by omega) (by omega)), rdr_r (by omega), bs, c_above hw hT1 hk, bs, c_above hw hT1 hj, bs, nI_or _ _ b1 d1, e2, bs]
      rcases h2 with ⟨rfl, hM⟩ | ⟨rfl, -⟩
      · rw [if_pos rfl, mm_one hw (by omega) (cb_or b3 d3) (by rw [Nat.testBit_or, b2]; rfl) (by rw [Nat.testBit_or, d2, Bool.or_true]) (m + 1) _ _ (by omega) hA hM]
        exact ⟨μ1, rfl, RO.rf⟩
      · rw [if_neg n10, odd_nI (by omega)]
        have og : ∀ o, oco τ k j (mm τ k j m (!ev (p + 1))) (stn τ σ on) o ≤ 2 := fun o => oco_le
        have lp : ∀ (A : Bool) (x5 : Int32), ev (p + 1) = A → x5 = (if A then 1 else 0) → ∀ (d g i : Nat) (μ2 : Mem), d = tL τ - i → i ≤ tL τ → d < g → RO (p + 1) μ1 μ2 → ∃ μ', fX1_bestOutcome_78 (fX1_outcomeOf f) g (nI k) (nI j) (nI (m + 1)) (nI (p + 1)) x5 (nI (2 - dfl A)) (nI ((fo A (oco τ k j (mm τ k j m (!ev (p + 1))) (stn τ σ on)) i).getD (dfl A))) (nI i) μ2 = some (nI ((fo A (oco τ k j (mm τ k j m (!ev (p + 1))) (stn τ σ on)) (tL τ)).getD (dfl A)), μ') ∧ RO (p + 1) μ1 μ' := by
          intro A x5 hA1 hx5 d
          induction d with
          | zero =>
            intro g i μ2 hd hi hg hR
            obtain ⟨g, rfl⟩ : ∃ t, g = t + 1 := ⟨g - 1, by omega⟩
            obtain rfl : i = tL τ := by omega
            have hT2 := RO_CT hR hT1
            refine ⟨μ2, ?_, hR⟩
            rw [fX1_bestOutcome_78]
            dsimp only
            unfold fX1_bestOutcome_142
            rw [hT2.1, if_pos (nI_le (by omega) (by omega))]
          | succ d ihd =>
            intro g i μ2 hd hi hg hR
            obtain ⟨g, rfl⟩ : ∃ t, g = t + 1 := ⟨g - 1, by omega⟩
            have hT2 := RO_CT hR hT1
            have hS2 := RO_CS hR h1
            have fl := fo_le (A := A) og i
            have bd : (fo A (oco τ k j (mm τ k j m (!ev (p + 1))) (stn τ σ on)) i).getD (dfl A) ≤ 2 := by
              cases h : fo A (oco τ k j (mm τ k j m (!ev (p + 1))) (stn τ σ on)) i with
              | none => show dfl A ≤ 2; unfold dfl; split <;> omega
              | some y => exact fl y h
            rw [fX1_bestOutcome_78]
            dsimp only
            unfold fX1_bestOutcome_142 fX1_bestOutcome_134
            rw [hT2.1, if_neg (nI_ge (by omega) (by omega))]
            by_cases c : (fo A (oco τ k j (mm τ k j m (!ev (p + 1))) (stn τ σ on)) i).getD (dfl A) = 2 - dfl A
            · rw [if_pos (by rw [c])]
              have hs : fo A (oco τ k j (mm τ k j m (!ev (p + 1))) (stn τ σ on)) i = some (2 - dfl A) := by
                cases h : fo A (oco τ k j (mm τ k j m (!ev (p + 1))) (stn τ σ on)) i with
                | none =>
                  rw [h] at c
                  have c : dfl A = 2 - dfl A := c
                  unfold dfl at c
                  cases A <;> simp at c
                | some y =>
                  rw [h] at c
                  have c : y = 2 - dfl A := c
                  rw [c]
              have st := fo_stay (m := tL τ) (fun x hx => by
                cases A with
                | true => exact (jd_two hx).1
                | false => exact jd_zero) og hs hi
              exact ⟨μ2, by rw [hs, st], hR⟩
            · rw [if_neg (fun e => c ((nI_eq (by omega) (by omega)).mp e))]
              obtain ⟨μ3, e3, o3⟩ := ih f (p + 1) i (stn τ σ on) μ2 (by omega) (by omega) (by omega) hT2 hS2
              rw [ev_suc (p + 1)] at e3
              obtain ⟨μ4, e4, o4⟩ := ihd g (i + 1) μ3 (by omega) (by omega) (by omega) (hR.tr o3)
              refine ⟨μ4, ?_, o4⟩
              rw [nI_pred, e3, b2_some]
              rw [fo_suc] at e4
              cases A with
              | true =>
                rw [show x5 = 1 from hx5, if_neg n10, bs, nI_1, show dfl true = 0 from rfl, mx_jd (og i) (fun y hy => fl y hy)]
                rw [show x5 = 1 from hx5, show dfl true = 0 from rfl] at e4
                exact e4
              | false =>
                rw [show x5 = 0 from hx5, if_pos rfl, bs, nI_1, show dfl false = 2 from rfl, mn_jd (og i) (fun y hy => fl y hy)]
                rw [show x5 = 0 from hx5, show dfl false = 2 from rfl] at e4
                exact e4
        have fin : ∀ A, ev (p + 1) = A → (fo A (oco τ k j (mm τ k j m (!ev (p + 1))) (stn τ σ on)) (tL τ)).getD (dfl A) = mm τ k j (m + 1) (ev (p + 1)) (stn τ σ on) := by
          intro A hA1
          obtain ⟨y, hy⟩ := fo_some (A := A) (g := oco τ k j (mm τ k j m (!ev (p + 1))) (stn τ σ on)) (n := tL τ) (by omega)
          rw [mm, hy]
          rw [← hA1] at hy
          rw [hy]
          rfl
        by_cases c : (p + 1) % 2 = 0
        · have hA1 : ev (p + 1) = true := decide_eq_true c
          obtain ⟨μ2, e3, o3⟩ := lp true 1 hA1 rfl (tL τ) av_big 0 μ1 (by omega) (by omega) (by show _ < 1000000; omega) RO.rf
          rw [fin true hA1, nI_0] at e3
          refine ⟨μ2, ?_, o3⟩
          rw [c, if_pos (by decide)]
          unfold fX1_bestOutcome_49 fX1_bestOutcome_61 fX1_bestOutcome_73
          rw [if_neg n10, if_neg n10]
          exact e3
        · have c' : (p + 1) % 2 = 1 := by omega
          have hA1 : ev (p + 1) = false := decide_eq_false c
          obtain ⟨μ2, e3, o3⟩ := lp false 0 hA1 rfl (tL τ) av_big 0 μ1 (by omega) (by omega) (by show _ < 1000000; omega) RO.rf
          rw [fin false hA1, nI_0] at e3
          refine ⟨μ2, ?_, o3⟩
          rw [c', if_neg (by decide)]
          unfold fX1_bestOutcome_49 fX1_bestOutcome_61 fX1_bestOutcome_73
          rw [if_pos rfl, if_pos rfl]
          exact e3
    obtain ⟨μ5, e5, o5⟩ := bestE
    rw [fX1_outcomeOf]
    unfold fX1_outcomeOf_b oco
    rw [dp, bs, if_pos rfl, e1, b2_some, c_ahead hq hl8 m1 (by omega) (by omega) hkj, bs, c_ahead hq hl8 m1 (by omega) (by omega) (fun e => hkj e.symm), bs]
    by_cases c1 : fa (cdl τ (lyt σ on 1)) k j = true
    · rw [if_pos c1, if_neg n10, if_pos c1]
      exact ⟨μ1, rfl, o1⟩
    · rw [if_neg c1, if_pos rfl, if_neg c1]
      by_cases c2 : fa (cdl τ (lyt σ on 1)) j k = true
      · rw [if_pos c2, if_neg n10, if_pos c2]
        exact ⟨μ1, rfl, o1⟩
      · rw [if_neg c2, if_pos rfl, if_neg c2, nI_1, e5, b2_some]
        exact ⟨μ5, rfl, o1.tr o5.up⟩
theorem c_play {τ : Td} {k j m : Nat} {σ : Hd} (hw : WT τ) (hk : k < tL τ) (hj : j < tL τ) (hkj : k ≠ j) (hm : m ≤ 3) : ∀ (d f i : Nat) (μ : Mem), d = tL τ - i → i ≤ tL τ → d < f → CT μ τ → CS μ τ 70 σ → ((tp (oco τ k j (mm τ k j m false) σ) i).1 ≠ none → gF μ 11 5 = nI (tp (oco τ k j (mm τ k j m false) σ) i).2) → ∃ μ', fX1_play_11 f (nI k) (nI j) (nI (m + 1)) (bI (tp (oco τ k j (mm τ k j m false) σ) i).1) (nI i) μ = some (bI (tp (oco τ k j (mm τ k j m false) σ) (tL τ)).1, μ') ∧ RP 0 μ μ' ∧ ((tp (oco τ k j (mm τ k j m false) σ) (tL τ)).1 ≠ none → gF μ' 11 5 = nI (tp (oco τ k j (mm τ k j m false) σ) (tL τ)).2)
  | 0, f, i, μ, hd, hi, hf, hT, hS, h5 => by
    obtain ⟨f, rfl⟩ : ∃ g, f = g + 1 := ⟨f - 1, by omega⟩
    have l8 := hw.1
    obtain rfl : i = tL τ := by omega
    refine ⟨μ, ?_, RP.rf, h5⟩
    rw [fX1_play_11]
    dsimp only
    unfold fX1_play_66
    rw [hT.1, if_pos (nI_le (by omega) (by omega))]
  | d + 1, f, i, μ, hd, hi, hf, hT, hS, h5 => by
    obtain ⟨f, rfl⟩ : ∃ g, f = g + 1 := ⟨f - 1, by omega⟩
    have l8 := hw.1
    have og : ∀ o, oco τ k j (mm τ k j m false) σ o ≤ 2 := fun o => oco_le
    have fl := fo_le (A := true) og i
    rw [← tp_fo] at fl
    rw [fX1_play_11]
    dsimp only
    unfold fX1_play_66 fX1_play_60
    rw [hT.1, if_neg (nI_ge (by omega) (by omega))]
    by_cases c : (tp (oco τ k j (mm τ k j m false) σ) i).1 = some 2
    · rw [if_pos (by rw [c]; decide)]
      have st := tp_stay (m := tL τ) og c hi
      exact ⟨μ, by rw [st], RP.rf, by rw [st]; exact h5⟩
    · have n2 : ¬ (2 : Int32) ≤ bI (tp (oco τ k j (mm τ k j m false) σ) i).1 := by
        cases h : (tp (oco τ k j (mm τ k j m false) σ) i).1 with
        | none => decide
        | some y =>
          have := fl y h
          have : y ≠ 2 := fun e => c (by rw [h, e])
          exact nI_ge (b := 2) (by omega) (by decide)
      obtain ⟨μ1, e1, o1⟩ := c_out hw hk hj hkj m 8 0 i σ μ (by omega) (by omega) (by omega) hT hS
      rw [nI_0, show ev (0 + 1) = false from rfl] at e1
      rw [if_neg n2, nI_pred, e1, b2_some]
      have g5 : gF μ1 11 5 = gF μ 11 5 := o1.1 11 5 (by omega)
      have hts := tp_suc (g := oco τ k j (mm τ k j m false) σ) (n := i)
      have oi := og i
      generalize hx : oco τ k j (mm τ k j m false) σ i = x at *
      by_cases b : bt true (tp (oco τ k j (mm τ k j m false) σ) i).1 x = true
      · rw [jd, if_pos b, if_pos b] at hts
        have nle : ¬ nI x ≤ bI (tp (oco τ k j (mm τ k j m false) σ) i).1 := by
          cases h : (tp (oco τ k j (mm τ k j m false) σ) i).1 with
          | none =>
            show ¬ nI x ≤ -1
            rw [Int32.le_iff_toInt_le, nI_toInt (by omega)]
            have : (-1 : Int32).toInt = -1 := by decide
            omega
          | some y =>
            rw [h] at b
            unfold bt at b
            simp only [if_true, decide_eq_true_eq] at b
            exact nI_ge b (by omega)
        rw [if_neg nle, bs, bs, nI_1]
        obtain ⟨μ2, e2, o2, h2⟩ := c_play (m := m) hw hk hj hkj hm d f (i + 1) (sF μ1 11 5 (nI i)) (by omega) (by omega) (by omega) (RP_CT (p := 0) ((RP.ro o1).tr RP.sF) hT) (RP_CS (p := 0) ((RP.ro o1).tr RP.sF) hS) (fun _ => by rw [hts, gF_sF, if_pos rfl, if_pos rfl])
        rw [hts] at e2
        exact ⟨μ2, e2, (RP.ro o1).tr (RP.sF.tr o2), h2⟩
      · rw [jd, if_neg b, if_neg b] at hts
        have le : nI x ≤ bI (tp (oco τ k j (mm τ k j m false) σ) i).1 := by
          cases h : (tp (oco τ k j (mm τ k j m false) σ) i).1 with
          | none => rw [h] at b; exact absurd rfl b
          | some y =>
            have := fl y h
            rw [h] at b
            unfold bt at b
            simp only [if_true, decide_eq_true_eq] at b
            exact nI_le (by omega) (by omega)
        rw [if_pos le, bs, nI_1]
        obtain ⟨μ2, e2, o2, h2⟩ := c_play (m := m) hw hk hj hkj hm d f (i + 1) μ1 (by omega) (by omega) (by omega) (RO_CT o1 hT) (RO_CS (p := 0) o1 hS) (by rw [hts, g5]; exact h5)
        rw [hts] at e2
        exact ⟨μ2, e2, (RP.ro o1).tr o2, h2⟩
