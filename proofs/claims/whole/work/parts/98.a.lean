/-! stones, parties: what stones above a ledge do; no machine here. -/
def AH (τ : Td) (σ : Hd) : Prop := ∀ j, j < tL τ → ov τ σ j = false
theorem fov_det {τ : Td} {σ : Hd} {k k' : Nat} (h : fov τ σ k) (h' : fov τ σ k') : k = k' := by
  rcases Nat.lt_trichotomy k k' with c | c | c
  · have := h'.2.2 k c; rw [h.2.1] at this; cases this
  · exact c
  · have := h.2.2 k' c; rw [h'.2.1] at this; cases this
theorem Rp_det {τ : Td} : ∀ {l1 l2 : List Nat} {σ σ1 σ2 : Hd}, Rp τ σ l1 σ1 → Rp τ σ l2 σ2 → AH τ σ1 → AH τ σ2 → l1 = l2 ∧ σ1 = σ2
  | [], [], _, _, _, h1, h2, _, _ => ⟨rfl, by
    have e1 : _ = _ := h1
    have e2 : _ = _ := h2
    rw [e1, e2]⟩
  | [], k :: l, σ, _, _, h1, h2, a1, _ => by
    have e1 : _ = _ := h1
    subst e1
    have := a1 k h2.1.1
    rw [h2.1.2.1] at this; cases this
  | k :: l, [], σ, _, _, h1, h2, _, a2 => by
    have e2 : _ = _ := h2
    subst e2
    have := a2 k h1.1.1
    rw [h1.1.2.1] at this; cases this
  | k :: l, k' :: l', σ, _, _, h1, h2, a1, a2 => by
    have e := fov_det h1.1 h2.1
    subst e
    obtain ⟨x, y⟩ := Rp_det h1.2 h2.2 a1 a2
    exact ⟨by rw [x], y⟩
def stn (τ : Td) (σ : Hd) (on : Nat) : Hd := cds τ (lyt σ on 1)
theorem AH_cds {τ : Td} {σ : Hd} (hw : WT τ) : AH τ (cds τ σ) := fun j hj => (pas_run hw σ (tL τ) (Nat.le_refl _)).2.1 j hj
theorem AH_stn {τ : Td} {σ : Hd} {on : Nat} (hw : WT τ) : AH τ (stn τ σ on) := AH_cds hw
theorem ld_lyt_s {σ : Hd} {k : Nat} {n : Int32} : ld (lyt σ k n) k = ld σ k + n := by
  show σ.1 k + upd σ.2.1 k (σ.2.1 k + n) k = σ.1 k + σ.2.1 k + n
  rw [pk_us, Int32.add_assoc]
theorem ld_lyt_o {σ : Hd} {k j : Nat} {n : Int32} (h : j ≠ k) : ld (lyt σ k n) j = ld σ j := by
  show σ.1 j + upd σ.2.1 k (σ.2.1 k + n) j = σ.1 j + σ.2.1 j
  rw [pk_un h]
theorem ov_ld {τ : Td} {σ σ' : Hd} {j : Nat} (h : ld σ j = ld σ' j) : ov τ σ j = ov τ σ' j := by
  unfold ov; rw [h]
theorem stn_chn {τ : Td} {σ : Hd} {on : Nat} (hw : WT τ) (hA : AH τ σ) (ho : on < tL τ) : cdl τ (lyt σ on 1) = (chn τ 8 (lyt σ on 1) on).1 ∧ ∀ j, ld (stn τ σ on) j = ld (chn τ 8 (lyt σ on 1) on).2 j := by
  have h8 := hw.1
  obtain ⟨r1, a1, -, -⟩ := chn_run hw (K := tL τ) (Nat.le_refl _) 8 (lyt σ on 1) on (by omega) ho (fun j hj hjo => by
    rw [ov_ld (ld_lyt_o hjo)]; exact hA j hj)
  obtain ⟨r2, a2, -, -⟩ := pas_run hw (lyt σ on 1) (tL τ) (Nat.le_refl _)
  obtain ⟨x, y⟩ := Rp_det r2 r1 a2 a1
  refine ⟨x, fun j => ?_⟩
  show ld (pas τ (tL τ) (lyt σ on 1)).2 j = _
  rw [y]
/-- what lies over one of B is in B -/
def CB (τ : Td) (B : Nat → Bool) : Prop := ∀ a, a < tL τ → ∀ u, tB τ a = some u → B u = true → B a = true
def EB (B : Nat → Bool) (σ σ' : Hd) : Prop := ∀ j, B j = true → ld σ j = ld σ' j
theorem chn_out {τ : Td} {B : Nat → Bool} (hw : WT τ) (hB : CB τ B) : ∀ (n : Nat) (σ : Hd) (a : Nat), a < tL τ → B a = false → (∀ j, B j = true → ld (chn τ n σ a).2 j = ld σ j) ∧ ∀ j, j ∈ (chn τ n σ a).1 → B j = false
  | 0, σ, a, ha, hb => ⟨fun _ _ => rfl, fun j hj => by simp [chn] at hj⟩
  | n + 1, σ, a, ha, hb => by
    have ne : ∀ j, B j = true → j ≠ a := fun j hj e => by rw [e, hb] at hj; cases hj
    unfold chn
    by_cases c : ov τ σ a = true
    · rw [if_pos c]
      split
      · rename_i e
        refine ⟨fun j hj => ld_drp_other (ne j hj) (by rw [e]; simp), fun j hj => ?_⟩
        simp only [List.mem_singleton] at hj
        rw [hj]; exact hb
      · rename_i u e
        have hu := hw.2.2.2.1 a ha u e
        have bu : B u = false := by
          cases x : B u with
          | false => rfl
          | true => rw [hB a ha u e x] at hb; cases hb
        obtain ⟨i1, i2⟩ := chn_out hw hB n (drp τ σ a) u (by omega) bu
        refine ⟨fun j hj => ?_, fun j hj => ?_⟩
        · rw [i1 j hj]
          exact ld_drp_other (ne j hj) (by rw [e]; intro h; cases h; rw [bu] at hj; cases hj)
        · rcases List.mem_cons.mp hj with h | h
          · rw [h]; exact hb
          · exact i2 j h
    · rw [if_neg c]
      exact ⟨fun _ _ => rfl, fun j hj => by simp at hj⟩
theorem chn_eq {τ : Td} {B : Nat → Bool} (hw : WT τ) (hB : CB τ B) : ∀ (n : Nat) (σ σ' : Hd) (a : Nat), a < tL τ → EB B σ σ' → EB B (chn τ n σ a).2 (chn τ n σ' a).2 ∧ ∀ j, B j = true → (j ∈ (chn τ n σ a).1 ↔ j ∈ (chn τ n σ' a).1)
  | 0, σ, σ', a, ha, hE => ⟨hE, fun j _ => by simp [chn]⟩
  | n + 1, σ, σ', a, ha, hE => by
    cases hb : B a with
    | false =>
      obtain ⟨x1, x2⟩ := chn_out hw hB (n + 1) σ a ha hb
      obtain ⟨y1, y2⟩ := chn_out hw hB (n + 1) σ' a ha hb
      refine ⟨fun j hj => by rw [x1 j hj, y1 j hj]; exact hE j hj, fun j hj => ⟨fun h => ?_, fun h => ?_⟩⟩
      · have := x2 j h; rw [hj] at this; cases this
      · have := y2 j h; rw [hj] at this; cases this
    | true =>
      have eo : ov τ σ a = ov τ σ' a := ov_ld (hE a hb)
      have ed : EB B (drp τ σ a) (drp τ σ' a) := by
        intro j hj
        by_cases e : j = a
        · rw [e, ld_drp_self (hw.2.2.2.1 a ha), ld_drp_self (hw.2.2.2.1 a ha)]
        · by_cases e2 : tB τ a = some j
          · have := hw.2.2.2.1 a ha j e2
            rw [ld_drp_below e2 (by omega), ld_drp_below e2 (by omega), hE a hb, hE j hj]
          · rw [ld_drp_other e e2, ld_drp_other e e2]; exact hE j hj
      unfold chn
      by_cases c : ov τ σ a = true
      · rw [if_pos c, if_pos (by rw [← eo]; exact c)]
        cases e : tB τ a with
        | none => exact ⟨ed, fun _ _ => Iff.rfl⟩
        | some u =>
          have hu := hw.2.2.2.1 a ha u e
          obtain ⟨i1, i2⟩ := chn_eq hw hB n (drp τ σ a) (drp τ σ' a) u (by omega) ed
          refine ⟨i1, fun j hj => ?_⟩
          dsimp only
          rw [List.mem_cons, List.mem_cons, i2 j hj]
      · rw [if_neg c, if_neg (by rw [← eo]; exact c)]
        exact ⟨hE, fun _ _ => Iff.rfl⟩
theorem EB_lyt {B : Nat → Bool} {σ σ' : Hd} {on : Nat} {n : Int32} (h : EB B σ σ') : EB B (lyt σ on n) (lyt σ' on n) := by
  intro j hj
  by_cases e : j = on
  · subst e; rw [ld_lyt_s, ld_lyt_s, h j hj]
  · rw [ld_lyt_o e, ld_lyt_o e]; exact h j hj
theorem stn_eq {τ : Td} {B : Nat → Bool} {σ σ' : Hd} {on : Nat} (hw : WT τ) (hB : CB τ B) (hA : AH τ σ) (hA' : AH τ σ') (ho : on < tL τ) (h : EB B σ σ') : EB B (stn τ σ on) (stn τ σ' on) ∧ ∀ j, B j = true → (j ∈ cdl τ (lyt σ on 1) ↔ j ∈ cdl τ (lyt σ' on 1)) := by
  obtain ⟨x1, x2⟩ := stn_chn hw hA ho
  obtain ⟨y1, y2⟩ := stn_chn hw hA' ho
  obtain ⟨i1, i2⟩ := chn_eq hw hB 8 (lyt σ on 1) (lyt σ' on 1) on ho (EB_lyt h)
  refine ⟨fun j hj => by rw [x2, y2]; exact i1 j hj, fun j hj => ?_⟩
  rw [x1, y1]; exact i2 j hj
theorem stn_out {τ : Td} {B : Nat → Bool} {σ : Hd} {on : Nat} (hw : WT τ) (hB : CB τ B) (hA : AH τ σ) (ho : on < tL τ) (hb : B on = false) : EB B (stn τ σ on) σ ∧ ∀ j, j ∈ cdl τ (lyt σ on 1) → B j = false := by
  obtain ⟨x1, x2⟩ := stn_chn hw hA ho
  obtain ⟨i1, i2⟩ := chn_out hw hB 8 (lyt σ on 1) on ho hb
  refine ⟨fun j hj => ?_, fun j hj => i2 j (by rw [← x1]; exact hj)⟩
  rw [x2, i1 j hj, ld_lyt_o (fun e => by rw [e, hb] at hj; cases hj)]
theorem add_toInt {x : Int32} {m : Nat} (h : x.toInt ≤ 60) (hm : m ≤ 100) : (x + nI m).toInt = x.toInt + m := by
  rw [Int32.toInt_add, nI_toInt (by omega)]
  have := Int32.le_toInt x
  exact Int.bmod_eq_of_le (by omega) (by omega)
/-- those of B bear m more -/
def MB (τ : Td) (B : Nat → Bool) (σ : Hd) (m : Nat) : Prop := ∀ b, b < tL τ → B b = true → ¬ nI (tH τ b) < ld σ b + nI m
theorem AH_le {τ : Td} {σ : Hd} {b : Nat} (hw : WT τ) (hA : AH τ σ) (hb : b < tL τ) : (ld σ b).toInt ≤ tH τ b ∧ tH τ b ≤ 60 := by
  have h := hA b hb
  have h2 := hw.2.2.1 b hb
  unfold ov at h
  have h3 : ¬ nI (tH τ b) < ld σ b := by simpa using h
  rw [Int32.lt_iff_toInt_lt, nI_toInt (by omega)] at h3
  omega
theorem MB_iff {τ : Td} {σ : Hd} {b m : Nat} (hw : WT τ) (hA : AH τ σ) (hb : b < tL τ) (hm : m ≤ 100) : (¬ nI (tH τ b) < ld σ b + nI m) ↔ (ld σ b).toInt + m ≤ tH τ b := by
  obtain ⟨h1, h2⟩ := AH_le hw hA hb
  rw [Int32.lt_iff_toInt_lt, nI_toInt (by omega), add_toInt (by omega) hm]
  omega
theorem stn_none {τ : Td} {B : Nat → Bool} {σ : Hd} {on m : Nat} (hw : WT τ) (hB : CB τ B) (hA : AH τ σ) (ho : on < tL τ) (hm : m ≤ 50) (h : MB τ B σ (m + 1)) : (∀ j, j ∈ cdl τ (lyt σ on 1) → B j = false) ∧ MB τ B (stn τ σ on) m := by
  have hA' := AH_stn (σ := σ) (on := on) hw
  cases hb : B on with
  | false =>
    obtain ⟨i1, i2⟩ := stn_out hw hB hA ho hb
    refine ⟨i2, fun b hbl hbB => ?_⟩
    have := (MB_iff hw hA hbl (by omega)).mp (h b hbl hbB)
    rw [MB_iff hw hA' hbl (by omega), i1 b hbB]
    omega
  | true =>
    obtain ⟨x1, x2⟩ := stn_chn hw hA ho
    have h1 := (MB_iff hw hA ho (by omega)).mp (h on ho hb)
    obtain ⟨g1, g2⟩ := AH_le hw hA ho
    have e1 : (1 : Int32) = nI 1 := rfl
    have no : ¬ ov τ (lyt σ on 1) on = true := by
      unfold ov
      rw [ld_lyt_s, decide_eq_true_eq, Int32.lt_iff_toInt_lt, nI_toInt (by omega), e1, add_toInt (by omega) (by omega)]
      omega
    have ec : chn τ 8 (lyt σ on 1) on = ([], lyt σ on 1) := by unfold chn; rw [if_neg no]
    rw [ec] at x1 x2
    refine ⟨fun j hj => by rw [x1] at hj; simp at hj, fun b hbl hbB => ?_⟩
    have := (MB_iff hw hA hbl (by omega)).mp (h b hbl hbB)
    rw [MB_iff hw hA' hbl (by omega), x2]
    show (ld (lyt σ on 1) b).toInt + _ ≤ _
    by_cases e : b = on
    · subst e
      rw [ld_lyt_s, e1, add_toInt (by omega) (by omega)]
      omega
    · rw [ld_lyt_o e]; omega
/-- k comes down by the last of m + 1 stones, the first on a told one -/
def Yk (τ : Td) (k : Nat) : Nat → Hd → Nat → Prop
  | 0, σ, on => k ∈ cdl τ (lyt σ on 1)
  | m + 1, σ, on => ∃ o, o < tL τ ∧ Yk τ k m (stn τ σ on) o
/-- as the search sees it -/
def cfb (τ : Td) (k : Nat) (B : Nat → Bool) : Nat → Hd → Nat → Prop
  | 0, σ, on => k ∈ cdl τ (lyt σ on 1)
  | m + 1, σ, on => k ∈ cdl τ (lyt σ on 1) ∨ (¬ MB τ B (stn τ σ on) (m + 1) ∧ ∃ o, o < tL τ ∧ B o = true ∧ cfb τ k B m (stn τ σ on) o)
theorem cfb_Yk {τ : Td} {k : Nat} {B : Nat → Bool} : ∀ (m : Nat) (σ : Hd) (on : Nat), cfb τ k B m σ on → ∃ i, i ≤ m ∧ Yk τ k i σ on
  | 0, σ, on, h => ⟨0, Nat.le_refl _, h⟩
  | m + 1, σ, on, h => by
    rcases h with h | ⟨-, o, ho, -, h⟩
    · exact ⟨0, by omega, h⟩
    · obtain ⟨i, hi, hy⟩ := cfb_Yk m _ o h
      exact ⟨i + 1, by omega, o, ho, hy⟩
theorem Yk_none {τ : Td} {k : Nat} {B : Nat → Bool} (hw : WT τ) (hB : CB τ B) (hk : B k = true) : ∀ (m : Nat) (σ : Hd) (on : Nat), m ≤ 50 → on < tL τ → AH τ σ → MB τ B σ (m + 1) → ¬ Yk τ k m σ on
  | 0, σ, on, hm, ho, hA, h, hy => by
    have := (stn_none hw hB hA ho (by omega) h).1 k hy
    rw [hk] at this; cases this
  | m + 1, σ, on, hm, ho, hA, h, hy => by
    obtain ⟨o, ho', hy⟩ := hy
    exact Yk_none hw hB hk m (stn τ σ on) o (by omega) ho' (AH_stn hw) (stn_none hw hB hA ho (by omega) h).2 hy
theorem Yk_eq {τ : Td} {k : Nat} {B : Nat → Bool} (hw : WT τ) (hB : CB τ B) (hk : B k = true) : ∀ (m : Nat) (σ σ' : Hd) (on : Nat), on < tL τ → AH τ σ → AH τ σ' → EB B σ σ' → Yk τ k m σ on → Yk τ k m σ' on
  | 0, σ, σ', on, ho, hA, hA', hE, hy => ((stn_eq hw hB hA hA' ho hE).2 k hk).mp hy
  | m + 1, σ, σ', on, ho, hA, hA', hE, hy => by
    obtain ⟨o, ho', hy⟩ := hy
    exact ⟨o, ho', Yk_eq hw hB hk m _ _ o ho' (AH_stn hw) (AH_stn hw) (stn_eq hw hB hA hA' ho hE).1 hy⟩
theorem Yk_cfb {τ : Td} {k : Nat} {B : Nat → Bool} (hw : WT τ) (hB : CB τ B) (hk : B k = true) : ∀ (m : Nat) (σ : Hd) (on : Nat), m ≤ 50 → on < tL τ → (∀ i, i < m → ∀ o, o < tL τ → ¬ Yk τ k i σ o) → Yk τ k m σ on → cfb τ k B m σ on
  | 0, σ, on, hm, ho, hn, hy => hy
  | m + 1, σ, on, hm, ho, hn, hy => by
    have hA := AH_stn (σ := σ) (on := on) hw
    obtain ⟨o, ho', hy⟩ := hy
    have hn' : ∀ i, i < m → ∀ o, o < tL τ → ¬ Yk τ k i (stn τ σ on) o := fun i hi o ho2 h => hn (i + 1) (by omega) on ho ⟨o, ho2, h⟩
    refine Or.inr ⟨fun h => Yk_none hw hB hk m _ o (by omega) ho' hA h hy, o, ho', ?_, Yk_cfb hw hB hk m _ o (by omega) ho' hn' hy⟩
    cases hb : B o with
    | true => rfl
    | false =>
      exfalso
      obtain ⟨e1, e2⟩ := stn_out hw hB hA ho' hb
      cases m with
      | zero =>
        have := e2 k hy
        rw [hk] at this; cases this
      | succ m =>
        obtain ⟨o2, ho2, hy⟩ := hy
        exact hn' m (by omega) o2 ho2 (Yk_eq hw hB hk m _ _ o2 ho2 (AH_stn hw) hA e1 hy)
theorem cfb_iff {τ : Td} {k m on : Nat} {B : Nat → Bool} {σ : Hd} (hw : WT τ) (hB : CB τ B) (hk : B k = true) (hm : m ≤ 50) (ho : on < tL τ) (hn : ∀ i, i < m → ∀ o, o < tL τ → ¬ Yk τ k i σ o) : cfb τ k B m σ on ↔ Yk τ k m σ on := by
  refine ⟨fun h => ?_, Yk_cfb hw hB hk m σ on hm ho hn⟩
  obtain ⟨i, hi, hy⟩ := cfb_Yk m σ on h
  by_cases e : i = m
  · rw [← e]; exact hy
  · exact absurd hy (hn i (by omega) on ho)
/-- the ledges above k, and k, looked at as far as k + d -/
def abm (τ : Td) (k : Nat) : Nat → Nat
  | 0 => 2 ^ k
  | d + 1 => match tB τ (k + 1 + d) with
    | none => abm τ k d
    | some u => if (abm τ k d).testBit u then abm τ k d ||| 2 ^ (k + 1 + d) else abm τ k d
theorem abm_suc {τ : Td} {k d : Nat} : abm τ k (d + 1) = abm τ k d ∨ abm τ k (d + 1) = abm τ k d ||| 2 ^ (k + 1 + d) := by
  rw [abm]
  split
  · exact Or.inl rfl
  · split
    · exact Or.inr rfl
    · exact Or.inl rfl
theorem abm_k {τ : Td} {k : Nat} : ∀ d, (abm τ k d).testBit k = true
  | 0 => by rw [abm, Nat.testBit_two_pow]; simp
  | d + 1 => by
    rcases abm_suc (τ := τ) (k := k) (d := d) with h | h
    · rw [h]; exact abm_k d
    · rw [h, tb_or, abm_k d]; rfl
theorem abm_in {τ : Td} {k j : Nat} : ∀ d, (abm τ k d).testBit j = true → k ≤ j ∧ j ≤ k + d
  | 0, h => by
    rw [abm, Nat.testBit_two_pow] at h
    have : k = j := by simpa using h
    omega
  | d + 1, h => by
    rcases abm_suc (τ := τ) (k := k) (d := d) with e | e
    · rw [e] at h; have := abm_in d h; omega
    · rw [e, tb_or] at h
      by_cases c : k + 1 + d = j
      · omega
      · have := abm_in (τ := τ) (k := k) (j := j) d (by simpa [c] using h)
        omega
theorem abm_lt {τ : Td} {k : Nat} : ∀ d, k + d < 8 → abm τ k d < 256
  | 0, h => pow_lt256 h
  | d + 1, h => by
    rcases abm_suc (τ := τ) (k := k) (d := d) with e | e
    · rw [e]; exact abm_lt d (by omega)
    · rw [e]; exact or_lt256 (abm_lt d (by omega)) (pow_lt256 (by omega))
theorem abm_cl {τ : Td} {k : Nat} (hw : WT τ) : ∀ d, k + d < tL τ → ∀ a, a ≤ k + d → ∀ u, tB τ a = some u → (abm τ k d).testBit u = true → (abm τ k d).testBit a = true
  | 0, hd, a, ha, u, hu, h => by
    have h1 := abm_in 0 h
    have := hw.2.2.2.1 a (by omega) u hu
    omega
  | d + 1, hd, a, ha, u, hu, h => by
    have hua := hw.2.2.2.1 a (by omega) u hu
    have hu' : (abm τ k d).testBit u = true := by
      rcases abm_suc (τ := τ) (k := k) (d := d) with e | e
      · rw [e] at h; exact h
      · rw [e, tb_or] at h
        have : ¬ k + 1 + d = u := by omega
        simpa [this] using h
    by_cases c : a = k + 1 + d
    · subst c
      rw [abm, hu]
      dsimp only
      rw [if_pos hu', tb_or]
      simp
    · have ih := abm_cl hw d (by omega) a (by omega) u hu hu'
      rcases abm_suc (τ := τ) (k := k) (d := d) with e | e
      · rw [e]; exact ih
      · rw [e, tb_or, ih]; rfl
def abv (τ : Td) (k : Nat) : Nat := abm τ k (tL τ - (k + 1))
theorem abv_ok {τ : Td} {k : Nat} (hw : WT τ) (hk : k < tL τ) : abv τ k < 256 ∧ (abv τ k).testBit k = true ∧ CB τ (abv τ k).testBit := by
  have h8 := hw.1
  exact ⟨abm_lt _ (by omega), abm_k _, fun a ha u hu h => abm_cl hw _ (by omega) a (by omega) u hu h⟩
/-! rows of stones -/
def LF (τ : Td) (k : Nat) : Nat → Hd → (Nat → Nat) → Prop
  | 0, σ, r => k ∈ cdl τ (lyt σ (r 0) 1)
  | m + 1, σ, r => LF τ k m (stn τ σ (r 0)) (fun i => r (i + 1))
theorem LF_ext {τ : Td} {k : Nat} : ∀ (m : Nat) (σ : Hd) (r s : Nat → Nat), (∀ i, i ≤ m → r i = s i) → (LF τ k m σ r ↔ LF τ k m σ s)
  | 0, σ, r, s, h => by rw [LF, LF, h 0 (by omega)]
  | m + 1, σ, r, s, h => by
    rw [LF, LF, h 0 (by omega)]
    exact LF_ext m _ _ _ (fun i hi => h (i + 1) (by omega))
theorem LF_Yk {τ : Td} {k : Nat} : ∀ (m : Nat) (σ : Hd) (r : Nat → Nat), (∀ i, i ≤ m → r i < tL τ) → LF τ k m σ r → Yk τ k m σ (r 0)
  | 0, σ, r, _, h => h
  | m + 1, σ, r, hr, h => ⟨r 1, hr 1 (by omega), LF_Yk m _ (fun i => r (i + 1)) (fun i hi => hr (i + 1) (by omega)) h⟩
theorem Yk_LF {τ : Td} {k : Nat} : ∀ (m : Nat) (σ : Hd) (on : Nat), on < tL τ → Yk τ k m σ on → ∃ r : Nat → Nat, r 0 = on ∧ (∀ i, i ≤ m → r i < tL τ) ∧ LF τ k m σ r
  | 0, σ, on, ho, h => ⟨fun _ => on, rfl, fun _ _ => ho, h⟩
  | m + 1, σ, on, ho, h => by
    obtain ⟨o, ho', h⟩ := h
    obtain ⟨r, r0, r1, r2⟩ := Yk_LF m _ o ho' h
    refine ⟨fun i => match i with | 0 => on | i + 1 => r i, rfl, fun i hi => ?_, r2⟩
    cases i with
    | zero => exact ho
    | succ i => exact r1 i (by omega)
def cdo (n : Nat) (r : Nat → Nat) : Nat → Nat
  | 0 => 0
  | m + 1 => cdo n r m * n + r m
theorem cdo_rwo {n : Nat} {r : Nat → Nat} : ∀ (m : Nat), (∀ i, i < m → r i < n) → ∀ i, i < m → rwo n m (cdo n r m) i = r i
  | 0, _, i, hi => by omega
  | m + 1, h, i, hi => by
    rw [cdo]
    by_cases e : i = m
    · subst e; exact rwo_last (h i (by omega))
    · rw [rwo_fore (h m (by omega)) (by omega)]
      exact cdo_rwo m (fun i hi => h i (by omega)) i (by omega)
theorem cdo_lt {n : Nat} {r : Nat → Nat} : ∀ (m : Nat), (∀ i, i < m → r i < n) → cdo n r m < n ^ m
  | 0, _ => by show 0 < 1; omega
  | m + 1, h => by
    have h1 := cdo_lt (n := n) (r := r) m (fun i hi => h i (by omega))
    have h2 := h m (by omega)
    rw [cdo, Nat.pow_succ]
    have h3 : (cdo n r m + 1) * n ≤ n ^ m * n := Nat.mul_le_mul_right _ (by omega)
    rw [Nat.add_mul, Nat.one_mul] at h3
    omega
theorem rwo_first {n : Nat} : ∀ (m c : Nat), c < n ^ (m + 1) → rwo n (m + 1) c 0 = c / n ^ m
  | 0, c, h => by
    rw [rwo, if_pos rfl, Nat.pow_zero, Nat.div_one]
    exact Nat.mod_eq_of_lt (by simpa using h)
  | m + 1, c, h => by
    have hc : c / n < n ^ (m + 1) := Nat.div_lt_of_lt_mul (by rw [Nat.mul_comm, ← Nat.pow_succ]; exact h)
    rw [rwo, if_neg (by omega), rwo_first m (c / n) hc, Nat.div_div_eq_div_mul, Nat.pow_succ, Nat.mul_comm n]
