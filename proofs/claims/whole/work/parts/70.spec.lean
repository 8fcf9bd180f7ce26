/-! What comes down: the one mathematical picture of both sides. -/
/-- what is told: ledges, voters, holds, below, kind, goal, stone -/
abbrev Td : Type := Nat × Nat × (Nat → Nat) × (Nat → Option Nat) × (Nat → Nat) × (Nat → Nat) × (Nat → Nat)
def tL (τ : Td) : Nat := τ.1
def tV (τ : Td) : Nat := τ.2.1
def tH (τ : Td) : Nat → Nat := τ.2.2.1
def tB (τ : Td) : Nat → Option Nat := τ.2.2.2.1
def tK (τ : Td) : Nat → Nat := τ.2.2.2.2.1
def tG (τ : Td) : Nat → Nat := τ.2.2.2.2.2.1
def tS (τ : Td) : Nat → Nat := τ.2.2.2.2.2.2
def WT (τ : Td) : Prop := tL τ ≤ 8 ∧ tV τ ≤ 6 ∧ (∀ k, k < tL τ → 1 ≤ tH τ k ∧ tH τ k ≤ 60) ∧ (∀ k, k < tL τ → ∀ u, tB τ k = some u → u < k) ∧ (∀ v, v < tV τ → tK τ v < 6 ∧ tG τ v < tL τ ∧ 1 ≤ tS τ v ∧ tS τ v ≤ 9)
/-- what lies: snow, stones, votes, winner, coalition -/
abbrev Hd : Type := (Nat → Int32) × (Nat → Int32) × Nat × Int32 × Int32
def ld (σ : Hd) (k : Nat) : Int32 := σ.1 k + σ.2.1 k
def ov (τ : Td) (σ : Hd) (k : Nat) : Bool := decide (nI (tH τ k) < ld σ k)
def drp (τ : Td) (σ : Hd) (k : Nat) : Hd := match tB τ k with
  | none => (upd σ.1 k 0, upd σ.2.1 k 0, σ.2.2)
  | some u => (upd (upd σ.1 u (σ.1 u + ld σ k)) k 0, upd σ.2.1 k 0, σ.2.2)
def chn (τ : Td) : Nat → Hd → Nat → List Nat × Hd
  | 0, σ, _ => ([], σ)
  | n + 1, σ, a => if ov τ σ a then (match tB τ a with
      | none => ([a], drp τ σ a)
      | some u => (a :: (chn τ n (drp τ σ a) u).1, (chn τ n (drp τ σ a) u).2)) else ([], σ)
def pas (τ : Td) : Nat → Hd → List Nat × Hd
  | 0, σ => ([], σ)
  | k + 1, σ => ((pas τ k σ).1 ++ (chn τ 8 (pas τ k σ).2 k).1, (chn τ 8 (pas τ k σ).2 k).2)
/-- k is the first that doesn't hold -/
def fov (τ : Td) (σ : Hd) (k : Nat) : Prop := k < tL τ ∧ ov τ σ k = true ∧ ∀ j, j < k → ov τ σ j = false
def Rp (τ : Td) : Hd → List Nat → Hd → Prop
  | σ, [], σ' => σ' = σ
  | σ, k :: l, σ' => fov τ σ k ∧ Rp τ (drp τ σ k) l σ'
theorem Rp_app {τ : Td} : ∀ {l1 l2 : List Nat} {σ σ1 σ2 : Hd}, Rp τ σ l1 σ1 → Rp τ σ1 l2 σ2 → Rp τ σ (l1 ++ l2) σ2
  | [], _, _, _, _, h1, h2 => by
    have h1 : _ = _ := h1
    subst h1
    exact h2
  | _ :: _, _, _, _, _, h1, h2 => ⟨h1.1, Rp_app h1.2 h2⟩
theorem ld_drp_self {τ : Td} {σ : Hd} {k : Nat} (h : ∀ u, tB τ k = some u → u < k) : ld (drp τ σ k) k = 0 := by
  unfold drp ld
  split <;> simp [upd]
theorem ld_drp_other {τ : Td} {σ : Hd} {k j : Nat} (hj : j ≠ k) (hu : tB τ k ≠ some j) : ld (drp τ σ k) j = ld σ j := by
  unfold drp ld
  split
  · simp [upd, hj]
  · rename_i u e
    have : j ≠ u := fun h => hu (by rw [e, h])
    simp [upd, hj, this]
theorem ld_drp_below {τ : Td} {σ : Hd} {k u : Nat} (e : tB τ k = some u) (h : u ≠ k) : ld (drp τ σ k) u = ld σ u + ld σ k := by
  unfold drp
  rw [e]
  show (upd (upd σ.1 u (σ.1 u + ld σ k)) k 0) u + (upd σ.2.1 k 0) u = _
  simp only [upd, if_neg h, if_pos]
  unfold ld
  ac_rfl
theorem ov_drp_self {τ : Td} {σ : Hd} {k : Nat} (hw : WT τ) (hk : k < tL τ) : ov τ (drp τ σ k) k = false := by
  unfold ov
  rw [ld_drp_self (hw.2.2.2.1 k hk)]
  have h := hw.2.2.1 k hk
  have : ¬ nI (tH τ k) < 0 := nI_pos (by omega)
  simp [this]
theorem ov_drp_other {τ : Td} {σ : Hd} {k j : Nat} (hj : j ≠ k) (hu : tB τ k ≠ some j) : ov τ (drp τ σ k) j = ov τ σ j := by
  unfold ov
  rw [ld_drp_other hj hu]
theorem chn_run {τ : Td} (hw : WT τ) {K : Nat} (hK : K ≤ tL τ) : ∀ (n : Nat) (σ : Hd) (a : Nat), a < n → a < K → (∀ j, j < K → j ≠ a → ov τ σ j = false) → Rp τ σ (chn τ n σ a).1 (chn τ n σ a).2 ∧ (∀ j, j < K → ov τ (chn τ n σ a).2 j = false) ∧ (∀ k, k ∈ (chn τ n σ a).1 → k ≤ a) ∧ (chn τ n σ a).1.length ≤ n
  | 0, σ, a, h, _, _ => by omega
  | n + 1, σ, a, h, ha, hh => by
    unfold chn
    by_cases c : ov τ σ a = true
    · rw [if_pos c]
      have hf : fov τ σ a := ⟨by omega, c, fun j hj => hh j (by omega) (by omega)⟩
      split
      · rename_i e
        refine ⟨⟨hf, rfl⟩, fun j hj => ?_, fun k hk => ?_, by simp⟩
        · by_cases hja : j = a
          · subst hja; exact ov_drp_self hw (by omega)
          · rw [ov_drp_other hja (by rw [e]; simp)]; exact hh j hj hja
        · simp only [List.mem_singleton] at hk; omega
      · rename_i u e
        have hu := hw.2.2.2.1 a (by omega) u e
        have ih := chn_run hw hK n (drp τ σ a) u (by omega) (by omega) (fun j hj hju => by
          by_cases hja : j = a
          · subst hja; exact ov_drp_self hw (by omega)
          · rw [ov_drp_other hja (by rw [e]; intro h; cases h; exact hju rfl)]; exact hh j hj hja)
        refine ⟨⟨hf, ih.1⟩, ih.2.1, fun k hk => ?_, by simpa using ih.2.2.2⟩
        rcases List.mem_cons.mp hk with h | h
        · omega
        · have := ih.2.2.1 k h; omega
    · rw [if_neg c]
      refine ⟨rfl, fun j hj => ?_, fun k hk => by simp at hk, by simp⟩
      by_cases hja : j = a
      · subst hja; simpa using c
      · exact hh j hj hja
theorem pas_run {τ : Td} (hw : WT τ) (σ : Hd) : ∀ k, k ≤ tL τ → Rp τ σ (pas τ k σ).1 (pas τ k σ).2 ∧ (∀ j, j < k → ov τ (pas τ k σ).2 j = false) ∧ (∀ j, j ∈ (pas τ k σ).1 → j < k) ∧ (pas τ k σ).1.length ≤ 8 * k
  | 0, _ => ⟨rfl, fun j hj => by omega, fun j hj => by simp [pas] at hj, by simp [pas]⟩
  | k + 1, hk => by
    have ih := pas_run hw σ k (by omega)
    have h8 := hw.1
    have hc := chn_run hw (K := k + 1) hk 8 (pas τ k σ).2 k (by omega) (by omega) (fun j hj hjk => ih.2.1 j (by omega))
    unfold pas
    refine ⟨Rp_app ih.1 hc.1, hc.2.1, fun j hj => ?_, ?_⟩
    · rcases List.mem_append.mp hj with h | h
      · have := ih.2.2.1 j h; omega
      · have := hc.2.2.1 j h; omega
    · rw [List.length_append]
      have := ih.2.2.2
      have := hc.2.2.2
      omega
/-- rest of the hand stays -/
theorem drp_rest {τ : Td} {σ : Hd} {k : Nat} : (drp τ σ k).2.2 = σ.2.2 := by
  unfold drp
  split <;> rfl
theorem Rp_rest {τ : Td} : ∀ {l : List Nat} {σ σ' : Hd}, Rp τ σ l σ' → σ'.2.2 = σ.2.2
  | [], _, _, h => by
    have h : _ = _ := h
    rw [h]
  | _ :: _, _, _, h => by rw [Rp_rest h.2, drp_rest]
/-- masks of ledges -/
def bmk (s : Nat) (l : List Nat) : Nat := l.foldl (fun s k => s ||| 2 ^ k) s
def bmu (τ : Td) (s : Nat) (l : List Nat) : Nat := l.foldl (fun s k => match tB τ k with | none => s | some u => s ||| 2 ^ u) s
theorem or_lt256 {a b : Nat} (ha : a < 256) (hb : b < 256) : a ||| b < 256 := Nat.or_lt_two_pow (n := 8) ha hb
theorem pow_lt256 {k : Nat} (h : k < 8) : 2 ^ k < 256 := by
  have hd : ∀ k, k < 8 → 2 ^ k < 256 := by decide
  exact hd k h
theorem bmk_lt : ∀ {l : List Nat} {s : Nat}, s < 256 → (∀ k, k ∈ l → k < 8) → bmk s l < 256
  | [], _, h, _ => h
  | k :: l, s, h, hl => bmk_lt (l := l) (or_lt256 h (pow_lt256 (hl k (by simp)))) (fun j hj => hl j (by simp [hj]))
theorem nI_bit {m k : Nat} (hm : m < 256) (hk : k < 8) : nI m ||| ((1 : Int32) <<< (nI k &&& 31)) = nI (m ||| 2 ^ k) := by
  have hd : ∀ m, m < 256 → ∀ k, k < 8 → nI m ||| ((1 : Int32) <<< (nI k &&& 31)) = nI (m ||| 2 ^ k) := by decide +kernel
  exact hd m hm k hk
theorem has_bit {m k : Nat} (hm : m < 256) (hk : k < 8) : (((nI m >>> (nI k &&& 31)) &&& 1) = 0 ↔ m.testBit k = false) ∧ (((nI m >>> (nI k &&& 31)) &&& 1) = 1 ↔ m.testBit k = true) := by
  have hd : ∀ m, m < 256 → ∀ k, k < 8 → (((nI m >>> (nI k &&& 31)) &&& 1) = 0 ↔ m.testBit k = false) ∧ (((nI m >>> (nI k &&& 31)) &&& 1) = 1 ↔ m.testBit k = true) := by decide +kernel
  exact hd m hm k hk
theorem or_has {m k : Nat} (hm : m < 256) (hk : k < 8) (h : m.testBit k = true) : m ||| 2 ^ k = m := by
  have hd : ∀ m, m < 256 → ∀ k, k < 8 → m.testBit k = true → m ||| 2 ^ k = m := by decide +kernel
  exact hd m hm k hk h
