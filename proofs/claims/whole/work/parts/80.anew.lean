/-! A ledge, a voter, a mountain anew: in a state of the class, in a row of the reference. -/
theorem gA_sn {μ : Mem} {q a : Nat} {f : Nat → Int32} (h : a ≠ q) : gA (sA μ q f) a = gA μ a := by rw [gA_sA, if_neg h]
theorem gF_sm {μ : Mem} {q k a b : Nat} {v : Int32} (h : a ≠ q ∨ b ≠ k) : gF (sF μ q k v) a b = gF μ a b := by
  rw [gF_sF]
  split
  · split
    · omega
    · rfl
  · rfl
def BO (b : Nat) (μ μ' : Mem) : Prop := (∀ a k, a < b ∨ b + 14 ≤ a → gF μ' a k = gF μ a k) ∧ gL μ' = gL μ ∧ (∀ a, a < b ∨ b + 14 ≤ a → gA μ' a = gA μ a)
theorem BO.rf {b : Nat} {μ : Mem} : BO b μ μ := ⟨fun _ _ _ => rfl, rfl, fun _ _ => rfl⟩
theorem BO.tr {b : Nat} {μ μ1 μ2 : Mem} (h1 : BO b μ μ1) (h2 : BO b μ1 μ2) : BO b μ μ2 := ⟨fun a k h => (h2.1 a k h).trans (h1.1 a k h), h2.2.1.trans h1.2.1, fun a h => (h2.2.2 a h).trans (h1.2.2 a h)⟩
theorem BO.sF {b q k : Nat} {μ : Mem} {v : Int32} (hq : b ≤ q ∧ q < b + 14) : BO b μ (sF μ q k v) := ⟨fun a j h => gF_sm (by omega), rfl, fun _ _ => rfl⟩
theorem BO.sA {b q : Nat} {μ : Mem} {f : Nat → Int32} (hq : b ≤ q ∧ q < b + 14) : BO b μ (sA μ q f) := ⟨fun _ _ _ => rfl, rfl, fun a h => gA_sn (by omega)⟩
theorem BO.kd {μ μ' : Mem} (h : BO 14 μ μ') : KD μ μ' := ⟨fun a k x y _ _ => h.1 a k (by omega), h.2.1, fun a x y _ => h.2.2 a (by omega)⟩
theorem BO.kc {μ μ' : Mem} (h : BO 28 μ μ') : KC μ μ' := ⟨fun a k x y _ _ => h.1 a k (by omega), h.2.1, fun a x y _ => h.2.2 a (by omega)⟩
def SB (b : Nat) : Prop := b = 14 ∨ b = 28 ∨ b = 42 ∨ b = 56
theorem SB_f {b : Nat} (h : SB b) : (av_rf b 0 = b + 1 ∧ av_rf b 1 = b + 7 ∧ av_rf b 2 = b + 11 ∧ av_rf b 4 = b + 12 ∧ av_rf b 5 = b + 13) ∧ (av_rf (b + 1) 2 = b + 2 ∧ av_rf (b + 1) 3 = b + 3 ∧ av_rf (b + 1) 5 = b + 4 ∧ av_rf (b + 1) 6 = b + 5 ∧ av_rf (b + 1) 7 = b + 6) ∧ (av_rf (b + 7) 1 = b + 8 ∧ av_rf (b + 7) 2 = b + 9) ∧ (av_ln (b + 2) = 8 ∧ av_ln (b + 3) = 8 ∧ av_ln (b + 4) = 6 ∧ av_ln (b + 5) = 6 ∧ av_ln (b + 6) = 6 ∧ av_ln (b + 8) = 8 ∧ av_ln (b + 9) = 8 ∧ av_ln (b + 11) = 152 ∧ av_ln (b + 12) = 6 ∧ av_ln (b + 13) = 6) := by
  rcases h with rfl | rfl | rfl | rfl <;> decide +kernel
/-- z with a ledge more, with a voter more -/
def zled (z : Sd) (H S : Nat) (d : Option Nat) : Sd := ((tL (zT z) + 1, tV (zT z), (fun k => if k = tL (zT z) then H else tH (zT z) k), (fun k => if k = tL (zT z) then d else tB (zT z) k), tK (zT z), tG (zT z), tS (zT z)), (upd (zH z).1 (tL (zT z)) (nI S), upd (zH z).2.1 (tL (zT z)) 0, (zH z).2.2), zN z, zV z, zB z, 0, zQ z)
def zvot (z : Sd) (K G S : Nat) : Sd := ((tL (zT z), tV (zT z) + 1, tH (zT z), tB (zT z), (fun k => if k = tV (zT z) then K else tK (zT z) k), (fun k => if k = tV (zT z) then G else tG (zT z) k), (fun k => if k = tV (zT z) then S else tS (zT z) k)), zH z, zN z, zV z, zB z, 0, zQ z)
theorem WZ_led {i : Nat} {z : Sd} {H S : Nat} {d : Option Nat} (h : WZ i z) (hL : tL (zT z) < 8) (hH : 1 ≤ H ∧ H ≤ 60) (hd : ∀ u, d = some u → u < tL (zT z)) : WZ i (zled z H S d) := by
  obtain ⟨⟨w1, w2, w3, w4, w5⟩, x2, x3, x4, x5, x6⟩ := h
  refine ⟨⟨by show tL (zT z) + 1 ≤ 8; omega, w2, fun k hk => ?_, fun k hk u hu => ?_, fun v hv => ?_⟩, x2, x3, x4, Nat.zero_le 8, fun p hp => absurd hp (Nat.not_lt_zero p)⟩
  · show 1 ≤ (if k = tL (zT z) then H else tH (zT z) k) ∧ (if k = tL (zT z) then H else tH (zT z) k) ≤ 60
    have hk : k < tL (zT z) + 1 := hk
    by_cases c : k = tL (zT z)
    · rw [if_pos c]; exact hH
    · rw [if_neg c]; exact w3 k (by omega)
  · have hk : k < tL (zT z) + 1 := hk
    have hu : (if k = tL (zT z) then d else tB (zT z) k) = some u := hu
    by_cases c : k = tL (zT z)
    · rw [if_pos c] at hu; have := hd u hu; omega
    · rw [if_neg c] at hu; exact w4 k (by omega) u hu
  · obtain ⟨v1, v2, v3⟩ := w5 v hv
    exact ⟨v1, by show tG (zT z) v < tL (zT z) + 1; omega, v3⟩
theorem WZ_vot {i : Nat} {z : Sd} {K G S : Nat} (h : WZ i z) (hV : tV (zT z) < 6) (hK : K < 6) (hG : G < tL (zT z)) (hS : 1 ≤ S ∧ S ≤ 9) : WZ i (zvot z K G S) := by
  obtain ⟨⟨w1, w2, w3, w4, w5⟩, x2, x3, x4, x5, x6⟩ := h
  refine ⟨⟨w1, by show tV (zT z) + 1 ≤ 6; omega, w3, w4, fun v hv => ?_⟩, x2, x3, x4, Nat.zero_le 8, fun p hp => absurd hp (Nat.not_lt_zero p)⟩
  show (if v = tV (zT z) then K else tK (zT z) v) < 6 ∧ (if v = tV (zT z) then G else tG (zT z) v) < tL (zT z) ∧ 1 ≤ (if v = tV (zT z) then S else tS (zT z) v) ∧ (if v = tV (zT z) then S else tS (zT z) v) ≤ 9
  have hv : v < tV (zT z) + 1 := hv
  by_cases c : v = tV (zT z)
  · rw [if_pos c, if_pos c, if_pos c]; exact ⟨hK, hG, hS⟩
  · rw [if_neg c, if_neg c, if_neg c]; exact w5 v (by omega)
theorem upd_if {f : Nat → Int32} {k j : Nat} {v : Int32} : upd f k v j = if j = k then v else f j := rfl
theorem nI_ifN {c : Prop} [Decidable c] {a b : Nat} : nI (if c then a else b) = if c then nI a else nI b := by split <;> rfl
theorem bI_ifN {c : Prop} [Decidable c] {a b : Option Nat} : bI (if c then a else b) = if c then bI a else bI b := by split <;> rfl
theorem c_addLedge {b : Nat} {μ : Mem} {z : Sd} {H S : Nat} {d : Option Nat} (hb : SB b) (hc : CR b μ z) (hL : tL (zT z) < 8) : ∃ μ', fX8_addLedge b (nI H) (nI S) (bI d) μ = some (nI (tL (zT z)), μ') ∧ BO b μ μ' ∧ CR b μ' (zled z H S d) := by
  obtain ⟨⟨r0, r1, -⟩, ⟨s2, s3, -⟩, ⟨q1, q2⟩, l2, l3, -, -, -, l8, l9, -⟩ := SB_f hb
  obtain ⟨⟨t1, t2, t3, t4⟩, ⟨h1, h2, h3, h4⟩, ⟨n1, n2⟩, p1, p2⟩ := hc
  have c8 : nI (tL (zT z)) < 8 := nI_lt (b := 8) hL (by decide)
  refine ⟨sF (sF (sA (sA (sA (sA μ (b + 2) (upd (gA μ (b + 2)) (tL (zT z)) (nI H))) (b + 3) (upd (gA μ (b + 3)) (tL (zT z)) (bI d))) (b + 8) (upd (gA μ (b + 8)) (tL (zT z)) (nI S))) (b + 9) (upd (gA μ (b + 9)) (tL (zT z)) 0)) (b + 1) 1 (nI (tL (zT z) + 1))) b 3 0, ?_, ?_, ?_⟩
  · unfold fX8_addLedge
    rw [r0, r1, s2, s3, q1, q2, t1]
    simp only [Option.bind_some]
    rw [if_neg (nI_pos (by omega)), if_pos c8, wr_nI l2 (by omega) (by decide)]
    simp only [Option.bind_some]
    rw [wr_nI l3 (by omega) (by decide), gA_sn (by omega)]
    simp only [Option.bind_some]
    rw [wr_nI l8 (by omega) (by decide), gA_sn (by omega), gA_sn (by omega)]
    simp only [Option.bind_some]
    rw [wr_nI l9 (by omega) (by decide), gA_sn (by omega), gA_sn (by omega), gA_sn (by omega)]
    simp only [Option.bind_some]
    rw [nI_1]
  · exact (((((BO.sA (by omega)).tr (BO.sA (by omega))).tr (BO.sA (by omega))).tr (BO.sA (by omega))).tr (BO.sF (by omega))).tr (BO.sF (by omega))
  · have F0 : ∀ a k, (a ≠ b ∨ k ≠ 3) → (a ≠ b + 1 ∨ k ≠ 1) → gF (sF (sF (sA (sA (sA (sA μ (b + 2) (upd (gA μ (b + 2)) (tL (zT z)) (nI H))) (b + 3) (upd (gA μ (b + 3)) (tL (zT z)) (bI d))) (b + 8) (upd (gA μ (b + 8)) (tL (zT z)) (nI S))) (b + 9) (upd (gA μ (b + 9)) (tL (zT z)) 0)) (b + 1) 1 (nI (tL (zT z) + 1))) b 3 0) a k = gF μ a k := fun a k x y => by
      rw [gF_sm x, gF_sm y, gF_sA, gF_sA, gF_sA, gF_sA]
    refine ⟨⟨?_, ?_, fun k hk => ?_, fun v hv => ?_⟩, ⟨fun k hk => ?_, ?_, ?_, ?_⟩, ⟨?_, fun j hj => ?_⟩, ?_, fun p hp => absurd hp (Nat.not_lt_zero p)⟩
    · rw [gF_sm (by omega), gF_sq, if_pos rfl]; rfl
    · rw [F0 _ _ (by omega) (by omega)]; exact t2
    · have hk : k < tL (zT z) + 1 := hk
      show _ = nI (if k = tL (zT z) then H else tH (zT z) k) ∧ _ = bI (if k = tL (zT z) then d else tB (zT z) k)
      rw [gA_sF, gA_sF, gA_sn (by omega), gA_sn (by omega), gA_sn (by omega), gA_ss, gA_sn (by omega), gA_sn (by omega), gA_ss, upd_if, upd_if, nI_ifN, bI_ifN]
      by_cases c : k = tL (zT z)
      · rw [if_pos c, if_pos c, if_pos c, if_pos c]; exact ⟨rfl, rfl⟩
      · rw [if_neg c, if_neg c, if_neg c, if_neg c]; exact t3 k (by omega)
    · rw [gA_sF, gA_sF, gA_sn (by omega), gA_sn (by omega), gA_sn (by omega), gA_sn (by omega), gA_sn (by omega), gA_sn (by omega), gA_sn (by omega), gA_sn (by omega), gA_sn (by omega), gA_sn (by omega), gA_sn (by omega), gA_sn (by omega)]
      exact t4 v hv
    · have hk : k < tL (zT z) + 1 := hk
      show _ = upd (zH z).1 (tL (zT z)) (nI S) k ∧ _ = upd (zH z).2.1 (tL (zT z)) 0 k
      rw [gA_sF, gA_sF, gA_sn (by omega), show b + 7 + 1 = b + 8 by omega, gA_ss, show b + 7 + 2 = b + 9 by omega, gA_ss, upd_if, upd_if, upd_if, upd_if]
      by_cases c : k = tL (zT z)
      · rw [if_pos c, if_pos c, if_pos c, if_pos c]; exact ⟨rfl, rfl⟩
      · rw [if_neg c, if_neg c, if_neg c, if_neg c]; exact h1 k (by omega)
    · rw [F0 _ _ (by omega) (by omega)]; exact h2
    · rw [F0 _ _ (by omega) (by omega)]; exact h3
    · rw [F0 _ _ (by omega) (by omega)]; exact h4
    · rw [F0 _ _ (by omega) (by omega)]; exact n1
    · rw [gA_sF, gA_sF, gA_sn (by omega), gA_sn (by omega), gA_sn (by omega), gA_sn (by omega), gA_sn (by omega), gA_sn (by omega), gA_sn (by omega), gA_sn (by omega)]
      exact n2 j hj
    · rw [gF_sq, if_pos rfl]; rfl
theorem c_addVoter {b : Nat} {μ : Mem} {z : Sd} {K G S : Nat} (hb : SB b) (hc : CR b μ z) (hV : tV (zT z) < 6) : ∃ μ', fX8_addVoter b (nI K) (nI G) (nI S) μ = some (nI (tV (zT z)), μ') ∧ BO b μ μ' ∧ CR b μ' (zvot z K G S) := by
  obtain ⟨⟨r0, r1, -⟩, ⟨-, -, s5, s6, s7⟩, -, -, -, l4, l5, l6, -⟩ := SB_f hb
  obtain ⟨⟨t1, t2, t3, t4⟩, ⟨h1, h2, h3, h4⟩, ⟨n1, n2⟩, p1, p2⟩ := hc
  have c8 : nI (tV (zT z)) < 6 := nI_lt (b := 6) hV (by decide)
  refine ⟨sF (sF (sA (sA (sA μ (b + 4) (upd (gA μ (b + 4)) (tV (zT z)) (nI K))) (b + 5) (upd (gA μ (b + 5)) (tV (zT z)) (nI G))) (b + 6) (upd (gA μ (b + 6)) (tV (zT z)) (nI S))) (b + 1) 4 (nI (tV (zT z) + 1))) b 3 0, ?_, ?_, ?_⟩
  · unfold fX8_addVoter
    rw [r0, s5, s6, s7, t2]
    simp only [Option.bind_some]
    rw [if_neg (nI_pos (by omega)), if_pos c8, wr_nI l4 (by omega) (by decide)]
    simp only [Option.bind_some]
    rw [wr_nI l5 (by omega) (by decide), gA_sn (by omega)]
    simp only [Option.bind_some]
    rw [wr_nI l6 (by omega) (by decide), gA_sn (by omega), gA_sn (by omega)]
    simp only [Option.bind_some]
    rw [nI_1]
  · exact ((((BO.sA (by omega)).tr (BO.sA (by omega))).tr (BO.sA (by omega))).tr (BO.sF (by omega))).tr (BO.sF (by omega))
  · have F0 : ∀ a k, (a ≠ b ∨ k ≠ 3) → (a ≠ b + 1 ∨ k ≠ 4) → gF (sF (sF (sA (sA (sA μ (b + 4) (upd (gA μ (b + 4)) (tV (zT z)) (nI K))) (b + 5) (upd (gA μ (b + 5)) (tV (zT z)) (nI G))) (b + 6) (upd (gA μ (b + 6)) (tV (zT z)) (nI S))) (b + 1) 4 (nI (tV (zT z) + 1))) b 3 0) a k = gF μ a k := fun a k x y => by
      rw [gF_sm x, gF_sm y, gF_sA, gF_sA, gF_sA]
    refine ⟨⟨?_, ?_, fun k hk => ?_, fun v hv => ?_⟩, ⟨fun k hk => ?_, ?_, ?_, ?_⟩, ⟨?_, fun j hj => ?_⟩, ?_, fun p hp => absurd hp (Nat.not_lt_zero p)⟩
    · rw [F0 _ _ (by omega) (by omega)]; exact t1
    · rw [gF_sm (by omega), gF_sq, if_pos rfl]; rfl
    · rw [gA_sF, gA_sF, gA_sn (by omega), gA_sn (by omega), gA_sn (by omega), gA_sn (by omega), gA_sn (by omega), gA_sn (by omega)]
      exact t3 k hk
    · have hv : v < tV (zT z) + 1 := hv
      show _ = nI (if v = tV (zT z) then K else tK (zT z) v) ∧ _ = nI (if v = tV (zT z) then G else tG (zT z) v) ∧ _ = nI (if v = tV (zT z) then S else tS (zT z) v)
      rw [gA_sF, gA_sF, gA_sn (by omega), gA_sn (by omega), gA_ss, gA_sn (by omega), gA_ss, gA_ss, upd_if, upd_if, upd_if, nI_ifN, nI_ifN, nI_ifN]
      by_cases c : v = tV (zT z)
      · rw [if_pos c, if_pos c, if_pos c, if_pos c, if_pos c, if_pos c]; exact ⟨rfl, rfl, rfl⟩
      · rw [if_neg c, if_neg c, if_neg c, if_neg c, if_neg c, if_neg c]; exact t4 v (by omega)
    · rw [gA_sF, gA_sF, gA_sn (by omega), gA_sn (by omega), gA_sn (by omega), gA_sn (by omega), gA_sn (by omega), gA_sn (by omega)]
      exact h1 k hk
    · rw [F0 _ _ (by omega) (by omega)]; exact h2
    · rw [F0 _ _ (by omega) (by omega)]; exact h3
    · rw [F0 _ _ (by omega) (by omega)]; exact h4
    · rw [F0 _ _ (by omega) (by omega)]; exact n1
    · rw [gA_sF, gA_sF, gA_sn (by omega), gA_sn (by omega), gA_sn (by omega), gA_sn (by omega), gA_sn (by omega), gA_sn (by omega)]
      exact n2 j hj
    · rw [gF_sq, if_pos rfl]; rfl
/-- the reference's rows -/
def rled (f : Nat → Int32) (L : Nat) (h s d : Int32) : Nat → Int32 := upd (upd (upd (upd (upd f (7 + 4 * L) h) (7 + 4 * L + 1) s) (7 + 4 * L + 2) 0) (7 + 4 * L + 3) d) 0 (nI (L + 1))
def rvot (f : Nat → Int32) (V : Nat) (k g s : Int32) : Nat → Int32 := upd (upd (upd (upd f (39 + 3 * V) k) (39 + 3 * V + 1) g) (39 + 3 * V + 2) s) 1 (nI (V + 1))
theorem m_layLedge {ν : Mem} {q n L : Nat} {h s d : Int32} (hn : av_ln q = n) (h69 : 69 ≤ n) (hb : n ≤ 1000) (hL : gA ν q 0 = nI L) (h8 : L < 8) : fX12_layLedge q h s d ν = some (sA ν q (rled (gA ν q) L h s d)) := by
  have i1 : (7 : Int32) + 4 * nI L = nI (7 + 4 * L) := by rw [show (7 : Int32) = nI 7 from rfl, show (4 : Int32) = nI 4 from rfl, pk_mul, nI_add]
  have e0 : ∀ ν1 : Mem, rd ν1 q 0 = some (gA ν1 q 0) := fun ν1 => rd_nI (k := 0) hn (by omega) hb
  have ew : ∀ (ν1 : Mem) (j : Nat) (x v : Int32), x = nI (7 + 4 * L + j) → j < 4 → wr ν1 q x v = some (sA ν1 q (upd (gA ν1 q) (7 + 4 * L + j) v)) := fun ν1 j x v hx hj => by rw [hx]; exact wr_nI hn (by omega) hb
  have ew0 : ∀ (ν1 : Mem) (v : Int32), wr ν1 q 0 v = some (sA ν1 q (upd (gA ν1 q) 0 v)) := fun ν1 v => wr_nI (k := 0) hn (by omega) hb
  unfold fX12_layLedge
  rw [e0, hL]
  simp only [Option.bind_some]
  rw [i1, ew _ 0 (nI (7 + 4 * L) + 0) _ (nI_add _ 0) (by decide)]
  simp only [Option.bind_some]
  rw [ew _ 1 (nI (7 + 4 * L) + 1) _ (nI_add _ 1) (by decide)]
  simp only [Option.bind_some, sA_sA, gA_ss]
  rw [ew _ 2 (nI (7 + 4 * L) + 2) _ (nI_add _ 2) (by decide)]
  simp only [Option.bind_some, sA_sA, gA_ss]
  rw [ew _ 3 (nI (7 + 4 * L) + 3) _ (nI_add _ 3) (by decide)]
  simp only [Option.bind_some, sA_sA, gA_ss]
  rw [e0]
  simp only [Option.bind_some, sA_sA, gA_ss]
  rw [ew0]
  simp only [Option.bind_some, sA_sA, gA_ss]
  rw [pk_un (by omega), pk_un (by omega), pk_un (by omega), pk_un (by omega), hL, nI_1]
  rfl
theorem m_layVoter {ν : Mem} {q n V : Nat} {k g s : Int32} (hn : av_ln q = n) (h69 : 69 ≤ n) (hb : n ≤ 1000) (hV : gA ν q 1 = nI V) (h6 : V < 6) : fX12_layVoter q k g s ν = some (sA ν q (rvot (gA ν q) V k g s)) := by
  have i1 : (39 : Int32) + 3 * nI V = nI (39 + 3 * V) := by rw [show (39 : Int32) = nI 39 from rfl, show (3 : Int32) = nI 3 from rfl, pk_mul, nI_add]
  have e0 : ∀ ν1 : Mem, rd ν1 q 1 = some (gA ν1 q 1) := fun ν1 => rd_nI (k := 1) hn (by omega) hb
  have ew : ∀ (ν1 : Mem) (j : Nat) (x v : Int32), x = nI (39 + 3 * V + j) → j < 3 → wr ν1 q x v = some (sA ν1 q (upd (gA ν1 q) (39 + 3 * V + j) v)) := fun ν1 j x v hx hj => by rw [hx]; exact wr_nI hn (by omega) hb
  have ew0 : ∀ (ν1 : Mem) (v : Int32), wr ν1 q 1 v = some (sA ν1 q (upd (gA ν1 q) 1 v)) := fun ν1 v => wr_nI (k := 1) hn (by omega) hb
  unfold fX12_layVoter
  rw [e0, hV]
  simp only [Option.bind_some]
  rw [i1, ew _ 0 (nI (39 + 3 * V) + 0) _ (nI_add _ 0) (by decide)]
  simp only [Option.bind_some]
  rw [ew _ 1 (nI (39 + 3 * V) + 1) _ (nI_add _ 1) (by decide)]
  simp only [Option.bind_some, sA_sA, gA_ss]
  rw [ew _ 2 (nI (39 + 3 * V) + 2) _ (nI_add _ 2) (by decide)]
  simp only [Option.bind_some, sA_sA, gA_ss]
  rw [e0]
  simp only [Option.bind_some, sA_sA, gA_ss]
  rw [ew0]
  simp only [Option.bind_some, sA_sA, gA_ss]
  rw [pk_un (by omega), pk_un (by omega), pk_un (by omega), hV, nI_1]
  rfl
theorem MR_led {f : Nat → Int32} {z : Sd} {H S : Nat} {d : Option Nat} (h : MR f z) (hL : tL (zT z) < 8) (hV : tV (zT z) ≤ 6) (hN : zN z ≤ 6) : MR (upd (rled f (tL (zT z)) (nI H) (nI S) (bI d)) 4 0) (zled z H S d) := by
  have hu : ∀ k, k ≠ 4 → k ≠ 0 → (k < 7 + 4 * tL (zT z) ∨ 7 + 4 * tL (zT z) + 3 < k) → upd (rled f (tL (zT z)) (nI H) (nI S) (bI d)) 4 0 k = f k := fun k h1 h2 h3 => by
    unfold rled; rw [pk_un h1, pk_un h2, pk_un (by omega), pk_un (by omega), pk_un (by omega), pk_un (by omega)]
  obtain ⟨⟨t1, t2, t3, t4⟩, ⟨s1, s2, s3, s4⟩, ⟨n1, n2⟩, p1, p2⟩ := h
  refine ⟨⟨?_, ?_, fun k hk => ?_, fun v hv => ?_⟩, ⟨fun k hk => ?_, ?_, ?_, ?_⟩, ⟨?_, fun j hj => ?_⟩, ?_, fun p hp => absurd hp (Nat.not_lt_zero p)⟩
  · unfold rled; rw [pk_un (by omega), pk_us]; rfl
  · rw [hu _ (by omega) (by omega) (by omega)]; exact t2
  · have hk : k < tL (zT z) + 1 := hk
    show _ = nI (if k = tL (zT z) then H else tH (zT z) k) ∧ _ = bI (if k = tL (zT z) then d else tB (zT z) k)
    by_cases c : k = tL (zT z)
    · rw [if_pos c, if_pos c, c]; unfold rled
      rw [pk_un (by omega), pk_un (by omega), pk_un (by omega), pk_un (by omega), pk_un (by omega), pk_us, pk_un (by omega), pk_un (by omega), pk_us]; exact ⟨rfl, rfl⟩
    · rw [if_neg c, if_neg c, hu _ (by omega) (by omega) (by omega), hu _ (by omega) (by omega) (by omega)]; exact t3 k (by omega)
  · have hv : v < tV (zT z) := hv
    rw [hu _ (by omega) (by omega) (by omega), hu _ (by omega) (by omega) (by omega), hu _ (by omega) (by omega) (by omega)]; exact t4 v hv
  · have hk : k < tL (zT z) + 1 := hk
    show _ = upd (zH z).1 (tL (zT z)) (nI S) k ∧ _ = upd (zH z).2.1 (tL (zT z)) 0 k
    by_cases c : k = tL (zT z)
    · rw [c, pk_us, pk_us]; unfold rled
      rw [pk_un (by omega), pk_un (by omega), pk_un (by omega), pk_un (by omega), pk_us, pk_un (by omega), pk_un (by omega), pk_un (by omega), pk_us]; exact ⟨rfl, rfl⟩
    · rw [hu _ (by omega) (by omega) (by omega), hu _ (by omega) (by omega) (by omega), pk_un c, pk_un c]; exact s1 k (by omega)
  · rw [hu _ (by omega) (by omega) (by omega)]; exact s2
  · rw [hu _ (by omega) (by omega) (by omega)]; exact s3
  · rw [hu _ (by omega) (by omega) (by omega)]; exact s4
  · rw [hu _ (by omega) (by omega) (by omega)]; exact n1
  · have hj : j < zN z := hj
    rw [hu _ (by omega) (by omega) (by omega), hu _ (by omega) (by omega) (by omega)]; exact n2 j hj
  · exact pk_us
theorem MR_vot {f : Nat → Int32} {z : Sd} {K G S : Nat} (h : MR f z) (hL : tL (zT z) ≤ 8) (hV : tV (zT z) < 6) (hN : zN z ≤ 6) : MR (upd (rvot f (tV (zT z)) (nI K) (nI G) (nI S)) 4 0) (zvot z K G S) := by
  have hu : ∀ k, k ≠ 4 → k ≠ 1 → (k < 39 + 3 * tV (zT z) ∨ 39 + 3 * tV (zT z) + 2 < k) → upd (rvot f (tV (zT z)) (nI K) (nI G) (nI S)) 4 0 k = f k := fun k h1 h2 h3 => by
    unfold rvot; rw [pk_un h1, pk_un h2, pk_un (by omega), pk_un (by omega), pk_un (by omega)]
  obtain ⟨⟨t1, t2, t3, t4⟩, ⟨s1, s2, s3, s4⟩, ⟨n1, n2⟩, p1, p2⟩ := h
  refine ⟨⟨?_, ?_, fun k hk => ?_, fun v hv => ?_⟩, ⟨fun k hk => ?_, ?_, ?_, ?_⟩, ⟨?_, fun j hj => ?_⟩, ?_, fun p hp => absurd hp (Nat.not_lt_zero p)⟩
  · rw [hu _ (by omega) (by omega) (by omega)]; exact t1
  · unfold rvot; rw [pk_un (by omega), pk_us]; rfl
  · have hk : k < tL (zT z) := hk
    rw [hu _ (by omega) (by omega) (by omega), hu _ (by omega) (by omega) (by omega)]; exact t3 k hk
  · have hv : v < tV (zT z) + 1 := hv
    show _ = nI (if v = tV (zT z) then K else tK (zT z) v) ∧ _ = nI (if v = tV (zT z) then G else tG (zT z) v) ∧ _ = nI (if v = tV (zT z) then S else tS (zT z) v)
    by_cases c : v = tV (zT z)
    · rw [if_pos c, if_pos c, if_pos c, c]; unfold rvot
      rw [pk_un (by omega), pk_un (by omega), pk_un (by omega), pk_un (by omega), pk_us, pk_un (by omega), pk_un (by omega), pk_un (by omega), pk_us, pk_un (by omega), pk_un (by omega), pk_us]; exact ⟨rfl, rfl, rfl⟩
    · rw [if_neg c, if_neg c, if_neg c, hu _ (by omega) (by omega) (by omega), hu _ (by omega) (by omega) (by omega), hu _ (by omega) (by omega) (by omega)]; exact t4 v (by omega)
  · have hk : k < tL (zT z) := hk
    rw [hu _ (by omega) (by omega) (by omega), hu _ (by omega) (by omega) (by omega)]; exact s1 k hk
  · rw [hu _ (by omega) (by omega) (by omega)]; exact s2
  · rw [hu _ (by omega) (by omega) (by omega)]; exact s3
  · rw [hu _ (by omega) (by omega) (by omega)]; exact s4
  · rw [hu _ (by omega) (by omega) (by omega)]; exact n1
  · have hj : j < zN z := hj
    rw [hu _ (by omega) (by omega) (by omega), hu _ (by omega) (by omega) (by omega)]; exact n2 j hj
  · exact pk_us
