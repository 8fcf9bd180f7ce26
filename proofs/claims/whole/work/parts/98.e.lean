/-! read: tokens; the component's reader. -/
def btw (lo hi c : Nat) : Bool := decide (lo ≤ c ∧ c ≤ hi)
def adv (P : Nat → Bool) (tx : Nat → Nat) : Nat → Nat → Nat
  | 0, i => i
  | d + 1, i => if P (tx i) then adv P tx d (i + 1) else i
def ad (P : Nat → Bool) (n : Nat) (tx : Nat → Nat) (i : Nat) : Nat := adv P tx (n - i) i
theorem ad_end {P : Nat → Bool} {n i : Nat} {tx : Nat → Nat} (h : n ≤ i) : ad P n tx i = i := by
  unfold ad
  rw [show n - i = 0 by omega]
  rfl
theorem ad_eq {P : Nat → Bool} {n i : Nat} {tx : Nat → Nat} (h : i < n) : ad P n tx i = if P (tx i) then ad P n tx (i + 1) else i := by
  unfold ad
  rw [show n - i = (n - (i + 1)) + 1 by omega]
  rfl
theorem ad_yes {P : Nat → Bool} {n i : Nat} {tx : Nat → Nat} (h : i < n) (hp : P (tx i) = true) : ad P n tx i = ad P n tx (i + 1) := by rw [ad_eq h, if_pos hp]
theorem ad_no {P : Nat → Bool} {n i : Nat} {tx : Nat → Nat} (h : i < n) (hp : ¬ P (tx i) = true) : ad P n tx i = i := by rw [ad_eq h, if_neg hp]
theorem ad_b {P : Nat → Bool} {n : Nat} {tx : Nat → Nat} : ∀ (d i : Nat), d = n - i → i ≤ n → i ≤ ad P n tx i ∧ ad P n tx i ≤ n
  | 0, i, hd, hi => by rw [ad_end (by omega)]; omega
  | d + 1, i, hd, hi => by
    have ih := ad_b (P := P) (n := n) (tx := tx) d (i + 1) (by omega) (by omega)
    rw [ad_eq (by omega)]
    split <;> omega
theorem ad_le {P : Nat → Bool} {n i : Nat} {tx : Nat → Nat} (h : i ≤ n) : i ≤ ad P n tx i ∧ ad P n tx i ≤ n := ad_b (n - i) i rfl h
theorem ad_stop {P : Nat → Bool} {n : Nat} {tx : Nat → Nat} : ∀ (d i : Nat), d = n - i → i ≤ n → ad P n tx i < n → ¬ P (tx (ad P n tx i)) = true
  | 0, i, hd, hi, h => by rw [ad_end (by omega)] at h; omega
  | d + 1, i, hd, hi, h => by
    have ih := ad_stop (P := P) (n := n) (tx := tx) d (i + 1) (by omega) (by omega)
    by_cases c : P (tx i) = true
    · rw [ad_yes (by omega) c] at h ⊢; exact ih h
    · rw [ad_no (by omega) c]; exact c
theorem ad_all {P : Nat → Bool} {n : Nat} {tx : Nat → Nat} : ∀ (d i x : Nat), d = n - i → i ≤ n → i ≤ x → x < ad P n tx i → P (tx x) = true
  | 0, i, x, hd, hi, h1, h2 => by rw [ad_end (by omega)] at h2; omega
  | d + 1, i, x, hd, hi, h1, h2 => by
    by_cases c : P (tx i) = true
    · by_cases e : x = i
      · rw [e]; exact c
      · rw [ad_yes (by omega) c] at h2
        exact ad_all d (i + 1) x (by omega) (by omega) (by omega) h2
    · rw [ad_no (by omega) c] at h2; omega
/-- where the token begins, what it is, where it ends, its number -/
def ta (n : Nat) (tx : Nat → Nat) (p : Nat) : Nat := ad (btw 32 32) n tx p
def kd (n : Nat) (tx : Nat → Nat) (p : Nat) : Nat := if n ≤ ta n tx p then 0 else if btw 97 122 (tx (ta n tx p)) then 1 else if btw 48 57 (tx (ta n tx p)) then 2 else if tx (ta n tx p) = 59 then 3 else 4
def tE (n : Nat) (tx : Nat → Nat) (p : Nat) : Nat := if kd n tx p = 0 then ta n tx p else if kd n tx p = 1 then ad (btw 97 122) n tx (ta n tx p) else if kd n tx p = 2 then ad (btw 48 57) n tx (ta n tx p) else ta n tx p + 1
def dv (tx : Nat → Nat) (s : Nat) : Nat → Nat
  | 0 => 0
  | 1 => tx s - 48
  | _ => 10 * (tx s - 48) + (tx (s + 1) - 48)
def vl (n : Nat) (tx : Nat → Nat) (p : Nat) : Nat := if kd n tx p = 2 then dv tx (ta n tx p) (tE n tx p - ta n tx p) else 0
def tk (n : Nat) (tx : Nat → Nat) (p : Nat) : Nat := if kd n tx p = 2 ∧ 2 < tE n tx p - ta n tx p then 4 else kd n tx p
theorem ta_le {n p : Nat} {tx : Nat → Nat} (h : p ≤ n) : p ≤ ta n tx p ∧ ta n tx p ≤ n := ad_le h
theorem ta_ta {n p : Nat} {tx : Nat → Nat} (h : p ≤ n) : ta n tx (ta n tx p) = ta n tx p := by
  have h1 := ta_le (tx := tx) h
  by_cases c : ta n tx p < n
  · exact ad_no c (ad_stop (n - p) p rfl h c)
  · exact ad_end (by omega)
theorem kd_ta {n p : Nat} {tx : Nat → Nat} (h : p ≤ n) : kd n tx (ta n tx p) = kd n tx p := by
  unfold kd; rw [ta_ta h]
theorem tE_ta {n p : Nat} {tx : Nat → Nat} (h : p ≤ n) : tE n tx (ta n tx p) = tE n tx p := by
  unfold tE; rw [ta_ta h, kd_ta h]
theorem vl_ta {n p : Nat} {tx : Nat → Nat} (h : p ≤ n) : vl n tx (ta n tx p) = vl n tx p := by
  unfold vl; rw [ta_ta h, kd_ta h, tE_ta h]
theorem tk_ta {n p : Nat} {tx : Nat → Nat} (h : p ≤ n) : tk n tx (ta n tx p) = tk n tx p := by
  unfold tk; rw [ta_ta h, kd_ta h, tE_ta h]
theorem kd0 {n p : Nat} {tx : Nat → Nat} : kd n tx p = 0 ↔ n ≤ ta n tx p := by
  unfold kd
  constructor
  · intro h
    by_cases c : n ≤ ta n tx p
    · exact c
    · rw [if_neg c] at h
      split at h
      · cases h
      · split at h
        · cases h
        · split at h <;> cases h
  · intro h; rw [if_pos h]
theorem kd1 {n p : Nat} {tx : Nat → Nat} (h : ta n tx p < n) : kd n tx p = 1 ↔ btw 97 122 (tx (ta n tx p)) = true := by
  unfold kd
  rw [if_neg (by omega)]
  constructor
  · intro h
    by_cases c : btw 97 122 (tx (ta n tx p)) = true
    · exact c
    · rw [if_neg c] at h
      split at h
      · cases h
      · split at h <;> cases h
  · intro h; rw [if_pos h]
theorem btw_x {c : Nat} (h1 : btw 97 122 c = true) (h2 : btw 48 57 c = true) : False := by
  unfold btw at h1 h2
  simp only [decide_eq_true_eq] at h1 h2
  omega
theorem kd2 {n p : Nat} {tx : Nat → Nat} (h : ta n tx p < n) : kd n tx p = 2 ↔ btw 48 57 (tx (ta n tx p)) = true := by
  unfold kd
  rw [if_neg (by omega)]
  constructor
  · intro h
    by_cases c : btw 97 122 (tx (ta n tx p)) = true
    · rw [if_pos c] at h; cases h
    · rw [if_neg c] at h
      by_cases d : btw 48 57 (tx (ta n tx p)) = true
      · exact d
      · rw [if_neg d] at h
        split at h <;> cases h
  · intro h
    rw [if_neg (fun c => btw_x c h), if_pos h]
theorem kd3 {n p : Nat} {tx : Nat → Nat} (h : ta n tx p < n) : kd n tx p = 3 ↔ tx (ta n tx p) = 59 := by
  unfold kd
  rw [if_neg (by omega)]
  constructor
  · intro h
    split at h
    · cases h
    · split at h
      · cases h
      · split at h
        · assumption
        · cases h
  · intro h
    rw [h, if_neg (by decide), if_neg (by decide), if_pos rfl]
theorem tE_le {n p : Nat} {tx : Nat → Nat} (h : p ≤ n) : ta n tx p ≤ tE n tx p ∧ tE n tx p ≤ n := by
  have h1 := ta_le (tx := tx) h
  unfold tE
  split
  · omega
  · rename_i c0
    have c : ta n tx p < n := by
      rcases Nat.lt_or_ge (ta n tx p) n with x | x
      · exact x
      · exact absurd (kd0.mpr x) c0
    split
    · exact ad_le (by omega)
    · split
      · exact ad_le (by omega)
      · omega
theorem tE_lt {n p : Nat} {tx : Nat → Nat} (h : p ≤ n) (hk : kd n tx p ≠ 0) : ta n tx p < tE n tx p := by
  have c : ta n tx p < n := by
    rcases Nat.lt_or_ge (ta n tx p) n with x | x
    · exact x
    · exact absurd (kd0.mpr x) hk
  unfold tE
  rw [if_neg hk]
  split
  · rename_i c1
    rw [ad_yes c ((kd1 c).mp c1)]
    have := ad_le (P := btw 97 122) (tx := tx) (show ta n tx p + 1 ≤ n by omega)
    omega
  · split
    · rename_i c2
      rw [ad_yes c ((kd2 c).mp c2)]
      have := ad_le (P := btw 48 57) (tx := tx) (show ta n tx p + 1 ≤ n by omega)
      omega
    · omega
/-- the end of the word that begins there -/
def wE (n : Nat) (tx : Nat → Nat) (p : Nat) : Nat := ad (btw 97 122) n tx (ta n tx p)
theorem wE_1 {n p : Nat} {tx : Nat → Nat} (h : kd n tx p = 1) : wE n tx p = tE n tx p := by
  unfold wE tE
  rw [h, if_neg (by decide), if_pos rfl]
theorem wE_0 {n p : Nat} {tx : Nat → Nat} (h : kd n tx p ≠ 1) : wE n tx p = ta n tx p := by
  unfold wE
  rcases Nat.lt_or_ge (ta n tx p) n with x | x
  · exact ad_no x (fun c => h ((kd1 x).mpr c))
  · exact ad_end x
/-- the four words -/
def wl (w : Nat) : List Nat := [[109, 111, 117, 110, 116, 97, 105, 110], [108, 101, 100, 103, 101], [98, 101, 108, 111, 119], [118, 111, 116, 101, 114]].getD w []
def wn (w : Nat) : Nat := [8, 5, 5, 5].getD w 0
def wb (w i : Nat) : Nat := (wl w).getD i 0
def WI (n : Nat) (tx : Nat → Nat) (p w : Nat) : Prop := kd n tx p = 1 ∧ tE n tx p - ta n tx p = wn w ∧ ∀ i, i < wn w → tx (ta n tx p + i) = wb w i
theorem wn_4 {w : Nat} (h : w < 4) : 0 < wn w ∧ wn w ≤ 8 := by
  have hd : ∀ w, w < 4 → 0 < wn w ∧ wn w ≤ 8 := by decide
  exact hd w h
theorem av_sl_w {w : Nat} (h : w < 4) : av_sl w = some (nI (wn w)) := by
  have hd : ∀ w, w < 4 → av_sl w = some (nI (wn w)) := by decide +kernel
  exact hd w h
theorem av_sc_w {w i : Nat} (h : w < 4) (hi : i < wn w) : av_sc w (nI i) = some (nI (wb w i)) ∧ wb w i < 128 := by
  have hd : ∀ w, w < 4 → ∀ i, i < wn w → av_sc w (nI i) = some (nI (wb w i)) ∧ wb w i < 128 := by decide +kernel
  exact hd w h i hi
/-- the reader stands at p -/
def RS (μ : Mem) (n : Nat) (tx : Nat → Nat) (p : Nat) : Prop := gF μ 9 1 = nI n ∧ gF μ 9 2 = nI p ∧ ∀ k, k < n → gA μ 10 k = nI (tx k)
def RF (μ μ' : Mem) : Prop := (∀ a k, (a ≠ 9 ∨ k = 1) → gF μ' a k = gF μ a k) ∧ gL μ' = gL μ ∧ gA μ' = gA μ
theorem RF.rf {μ : Mem} : RF μ μ := ⟨fun _ _ _ => rfl, rfl, rfl⟩
theorem RF.tr {μ μ1 μ2 : Mem} (h1 : RF μ μ1) (h2 : RF μ1 μ2) : RF μ μ2 := ⟨fun a k h => (h2.1 a k h).trans (h1.1 a k h), h2.2.1.trans h1.2.1, h2.2.2.trans h1.2.2⟩
theorem RF.sF {μ : Mem} {k : Nat} {v : Int32} (hk : k ≠ 1) : RF μ (sF μ 9 k v) := ⟨fun a b h => gF_sm (by omega), rfl, rfl⟩
theorem RF.kc {μ μ' : Mem} (h : RF μ μ') : KC μ μ' := ⟨fun a k _ _ _ x => h.1 a k (by omega), h.2.1, fun a _ _ _ => by rw [h.2.2]⟩
theorem RF.cr {b : Nat} {μ μ' : Mem} {z : Sd} (hb : 14 ≤ b) (h : RF μ μ') (hc : CR b μ z) : CR b μ' z := CR_keep (fun a k x y => h.1 a k (by omega)) (fun a x y => by rw [h.2.2]) hc
theorem RS.to {μ μ' : Mem} {n p q : Nat} {tx : Nat → Nat} (h : RF μ μ') (hS : RS μ n tx p) (hq : gF μ' 9 2 = nI q) : RS μ' n tx q := ⟨by rw [h.1 9 1 (by omega)]; exact hS.1, hq, by rw [h.2.2]; exact hS.2.2⟩
theorem c_isb {μ : Mem} {n p lo hi : Nat} {tx : Nat → Nat} (hn : n ≤ 150) (htx : ∀ k, k < n → tx k < 128) (hS : RS μ n tx p) (hp : p < n) (hl : lo < 128) (hh : hi < 128) : fX5_isBetween (nI lo) (nI hi) μ = some (if btw lo hi (tx p) = true then 1 else 0) := by
  obtain ⟨-, h2, h3⟩ := hS
  have t := htx p hp
  have c150 : ¬ (150 : Int32) ≤ nI p := nI_ge (b := 150) (by omega) (by decide)
  have r : rd μ 10 (nI p) = some (nI (tx p)) := by rw [rd_nI av_l10 (by omega) (by decide), h3 p hp]
  unfold fX5_isBetween fX5_isBetween_47 btw
  rw [h2, if_neg (nI_pos (by omega)), if_neg c150, r, bs, bs]
  by_cases c1 : tx p < lo
  · rw [if_pos (nI_lt c1 (by omega)), if_neg (by simp only [decide_eq_true_eq]; omega)]
  · rw [if_neg (nI_nlt (by omega) (by omega))]
    by_cases c2 : hi < tx p
    · rw [if_pos (nI_lt c2 (by omega)), if_neg (by simp only [decide_eq_true_eq]; omega)]
    · rw [if_neg (nI_nlt (by omega) (by omega)), if_pos (by simp only [decide_eq_true_eq]; omega)]
theorem c_skip0 {n : Nat} {tx : Nat → Nat} (hn : n ≤ 150) (htx : ∀ k, k < n → tx k < 128) : ∀ (d f p : Nat) (μ : Mem), d = n - p → p ≤ n → d < f → RS μ n tx p → ∃ μ', fX5_skipBlanks_0 f μ = some μ' ∧ RF μ μ' ∧ gF μ' 9 2 = nI (ta n tx p) ∧ (∀ k, k ≠ 2 → gF μ' 9 k = gF μ 9 k)
  | 0, f, p, μ, hd, hp, hf, hS => by
    obtain ⟨f, rfl⟩ : ∃ g, f = g + 1 := ⟨f - 1, by omega⟩
    refine ⟨μ, ?_, RF.rf, ?_, fun _ _ => rfl⟩
    · rw [fX5_skipBlanks_0]
      dsimp only
      rw [hS.1, hS.2.1, if_pos (nI_le (by omega) (by omega))]
    · unfold ta; rw [ad_end (by omega)]; exact hS.2.1
  | d + 1, f, p, μ, hd, hp, hf, hS => by
    obtain ⟨f, rfl⟩ : ∃ g, f = g + 1 := ⟨f - 1, by omega⟩
    have ib := c_isb hn htx hS (by omega) (show 32 < 128 by decide) (show 32 < 128 by decide)
    rw [fX5_skipBlanks_0]
    dsimp only
    rw [hS.1, hS.2.1, if_neg (nI_ge (by omega) (by omega)), show (32 : Int32) = nI 32 from rfl, ib, bs]
    by_cases c : btw 32 32 (tx p) = true
    · obtain ⟨μ1, e1, o1, h1, k1⟩ := c_skip0 hn htx d f (p + 1) (sF μ 9 2 (nI (p + 1))) (by omega) (by omega) (by omega) (RS.to (RF.sF (by decide)) hS (by rw [gF_sF, if_pos rfl, if_pos rfl]))
      refine ⟨μ1, ?_, (RF.sF (by decide)).tr o1, ?_, fun k hk => ?_⟩
      · rw [if_pos c, if_neg n10, bs, nI_1]; exact e1
      · rw [h1]; unfold ta; rw [ad_yes (i := p) (by omega) c]
      · rw [k1 k hk, gF_sm (by omega)]
    · refine ⟨μ, ?_, RF.rf, ?_, fun _ _ => rfl⟩
      · rw [if_neg c, if_pos rfl]
      · unfold ta; rw [ad_no (by omega) c]; exact hS.2.1
theorem c_skip {n p : Nat} {tx : Nat → Nat} {μ : Mem} (hn : n ≤ 150) (htx : ∀ k, k < n → tx k < 128) (hp : p ≤ n) (hS : RS μ n tx p) : ∃ μ', fX5_skipBlanks μ = some μ' ∧ RF μ μ' ∧ gF μ' 9 2 = nI (ta n tx p) ∧ (∀ k, k ≠ 2 → gF μ' 9 k = gF μ 9 k) :=
  c_skip0 hn htx (n - p) av_big p μ rfl hp (by show _ < 1000000; omega) hS
theorem c_word12 {n : Nat} {tx : Nat → Nat} (hn : n ≤ 150) (htx : ∀ k, k < n → tx k < 128) : ∀ (d f p : Nat) (μ : Mem), d = n - p → p ≤ n → d < f → RS μ n tx p → ∃ μ', fX5_takeWord_12 f μ = some μ' ∧ RF μ μ' ∧ gF μ' 9 2 = nI (ad (btw 97 122) n tx p) ∧ (∀ k, k ≠ 2 → gF μ' 9 k = gF μ 9 k)
  | 0, f, p, μ, hd, hp, hf, hS => by
    obtain ⟨f, rfl⟩ : ∃ g, f = g + 1 := ⟨f - 1, by omega⟩
    refine ⟨μ, ?_, RF.rf, ?_, fun _ _ => rfl⟩
    · rw [fX5_takeWord_12]
      dsimp only
      rw [hS.1, hS.2.1, if_pos (nI_le (by omega) (by omega))]
    · rw [ad_end (by omega)]; exact hS.2.1
  | d + 1, f, p, μ, hd, hp, hf, hS => by
    obtain ⟨f, rfl⟩ : ∃ g, f = g + 1 := ⟨f - 1, by omega⟩
    have ib := c_isb hn htx hS (by omega) (show 97 < 128 by decide) (show 122 < 128 by decide)
    rw [fX5_takeWord_12]
    dsimp only
    rw [hS.1, hS.2.1, if_neg (nI_ge (by omega) (by omega)), show (97 : Int32) = nI 97 from rfl, show (122 : Int32) = nI 122 from rfl, ib, bs]
    by_cases c : btw 97 122 (tx p) = true
    · obtain ⟨μ1, e1, o1, h1, k1⟩ := c_word12 hn htx d f (p + 1) (sF μ 9 2 (nI (p + 1))) (by omega) (by omega) (by omega) (RS.to (RF.sF (by decide)) hS (by rw [gF_sF, if_pos rfl, if_pos rfl]))
      refine ⟨μ1, ?_, (RF.sF (by decide)).tr o1, ?_, fun k hk => ?_⟩
      · rw [if_pos c, if_neg n10, bs, nI_1]; exact e1
      · rw [h1, ad_yes (i := p) (by omega) c]
      · rw [k1 k hk, gF_sm (by omega)]
    · refine ⟨μ, ?_, RF.rf, ?_, fun _ _ => rfl⟩
      · rw [if_neg c, if_pos rfl]
      · rw [ad_no (by omega) c]; exact hS.2.1
theorem c_takeWord {n p : Nat} {tx : Nat → Nat} {μ : Mem} (hn : n ≤ 150) (htx : ∀ k, k < n → tx k < 128) (hp : p ≤ n) (hS : RS μ n tx p) : ∃ μ', fX5_takeWord μ = some μ' ∧ RF μ μ' ∧ gF μ' 9 2 = nI (wE n tx p) ∧ gF μ' 9 3 = nI (ta n tx p) ∧ gF μ' 9 4 = gF μ 9 4 := by
  obtain ⟨μ1, e1, o1, h1, k1⟩ := c_skip hn htx hp hS
  have hS1 := RS.to o1 hS h1
  have t := ta_le (tx := tx) hp
  have o2 : RF μ1 (sF μ1 9 3 (nI (ta n tx p))) := RF.sF (by decide)
  obtain ⟨μ2, e2, o3, h2, k2⟩ := c_word12 hn htx (n - ta n tx p) av_big (ta n tx p) (sF μ1 9 3 (nI (ta n tx p))) rfl t.2 (by show _ < 1000000; omega) (RS.to o2 hS1 (by rw [gF_sm (by omega)]; exact h1))
  refine ⟨μ2, ?_, (o1.tr o2).tr o3, h2, ?_, ?_⟩
  · unfold fX5_takeWord
    rw [e1, bs, bs, h1]
    exact e2
  · rw [k2 3 (by decide), gF_sF, if_pos rfl, if_pos rfl]
  · rw [k2 4 (by decide), gF_sm (by omega), k1 4 (by decide)]
theorem c_wi20 {n s w : Nat} {tx : Nat → Nat} {μ : Mem} (hn : n ≤ 150) (htx : ∀ k, k < n → tx k < 128) (hw : w < 4) (h3 : gF μ 9 3 = nI s) (hT : ∀ k, k < n → gA μ 10 k = nI (tx k)) (hs : s + wn w ≤ n) : ∀ (d f i : Nat), d = wn w - i → i ≤ wn w → d < f → (∀ x, x < i → tx (s + x) = wb w x) → ∃ r, fX5_wordIs_20 f w (nI i) μ = some r ∧ ((r = 1 ∧ ∀ x, x < wn w → tx (s + x) = wb w x) ∨ (r = 0 ∧ ¬ ∀ x, x < wn w → tx (s + x) = wb w x))
  | 0, f, i, hd, hi, hf, hx => by
    obtain ⟨f, rfl⟩ : ∃ g, f = g + 1 := ⟨f - 1, by omega⟩
    have w8 := wn_4 hw
    obtain rfl : i = wn w := by omega
    refine ⟨1, ?_, Or.inl ⟨rfl, hx⟩⟩
    rw [fX5_wordIs_20]
    dsimp only
    rw [av_sl_w hw, bs, if_pos (nI_le (by omega) (by omega))]
  | d + 1, f, i, hd, hi, hf, hx => by
    obtain ⟨f, rfl⟩ : ∃ g, f = g + 1 := ⟨f - 1, by omega⟩
    have w8 := wn_4 hw
    obtain ⟨s1, s2⟩ := av_sc_w hw (show i < wn w by omega)
    have t := htx (s + i) (by omega)
    rw [fX5_wordIs_20]
    dsimp only
    rw [av_sl_w hw, bs, if_neg (nI_ge (by omega) (by omega)), h3, nI_add, rd_nI av_l10 (by omega) (by decide), hT (s + i) (by omega), bs, s1, bs]
    by_cases c : tx (s + i) = wb w i
    · rw [if_pos (by rw [c]), bs, nI_1]
      exact c_wi20 hn htx hw h3 hT hs d f (i + 1) (by omega) (by omega) (by omega) (fun x hx' => by
        by_cases e : x = i
        · rw [e]; exact c
        · exact hx x (by omega))
    · rw [if_neg (fun e => c ((nI_eq (by omega) (by omega)).mp e))]
      exact ⟨0, rfl, Or.inr ⟨rfl, fun h => c (h i (by omega))⟩⟩
theorem c_wordIs {n p w : Nat} {tx : Nat → Nat} {μ : Mem} (hn : n ≤ 150) (htx : ∀ k, k < n → tx k < 128) (hp : p ≤ n) (hw : w < 4) (h2 : gF μ 9 2 = nI (wE n tx p)) (h3 : gF μ 9 3 = nI (ta n tx p)) (hT : ∀ k, k < n → gA μ 10 k = nI (tx k)) : ∃ r, fX5_wordIs w μ = some r ∧ ((r = 1 ∧ WI n tx p w) ∨ (r = 0 ∧ ¬ WI n tx p w)) := by
  have w8 := wn_4 hw
  have t := ta_le (tx := tx) hp
  have e := ad_le (P := btw 97 122) (tx := tx) t.2
  have e : ta n tx p ≤ wE n tx p ∧ wE n tx p ≤ n := e
  unfold fX5_wordIs
  rw [av_sl_w hw, bs, h2, h3, pk_sub e.1]
  by_cases c : wE n tx p - ta n tx p = wn w
  · rw [if_pos (by rw [c])]
    have k1 : kd n tx p = 1 := by
      by_cases x : kd n tx p = 1
      · exact x
      · rw [wE_0 x] at c; omega
    obtain ⟨r, e1, h1⟩ := c_wi20 hn htx hw h3 hT (by omega) (wn w) av_big 0 (by omega) (by omega) (by show _ < 1000000; omega) (fun x hx => by omega)
    rw [nI_0] at e1
    refine ⟨r, e1, ?_⟩
    rw [wE_1 k1] at c
    rcases h1 with ⟨x, y⟩ | ⟨x, y⟩
    · exact Or.inl ⟨x, k1, c, y⟩
    · exact Or.inr ⟨x, fun h => y h.2.2⟩
  · rw [if_neg (fun x => c ((nI_eq (by omega) (by omega)).mp x))]
    exact ⟨0, rfl, Or.inr ⟨rfl, fun h => c (by rw [wE_1 h.1]; exact h.2.1)⟩⟩
/-- a number as told stands at p -/
def NK (n : Nat) (tx : Nat → Nat) (p : Nat) (lo hi : Int32) : Prop := tk n tx p = 2 ∧ lo ≤ nI (vl n tx p) ∧ nI (vl n tx p) ≤ hi
theorem tk2 {n p : Nat} {tx : Nat → Nat} : tk n tx p = 2 ↔ kd n tx p = 2 ∧ tE n tx p - ta n tx p ≤ 2 := by
  unfold tk
  constructor
  · intro h
    by_cases c : kd n tx p = 2 ∧ 2 < tE n tx p - ta n tx p
    · rw [if_pos c] at h; cases h
    · rw [if_neg c] at h
      exact ⟨h, by omega⟩
  · intro h
    rw [if_neg (by omega)]; exact h.1
theorem dv_b {n s : Nat} {tx : Nat → Nat} (htx : ∀ k, k < n → tx k < 128) (j : Nat) (h : s + j ≤ n) : dv tx s j < 1000 := by
  by_cases h0 : j = 0
  · have e : dv tx s 0 = 0 := rfl
    rw [h0, e]; omega
  · by_cases h1 : j = 1
    · have e : dv tx s 1 = tx s - 48 := rfl
      have := htx s (by omega)
      rw [h1, e]; omega
    · obtain ⟨i, rfl⟩ : ∃ i, j = i + 2 := ⟨j - 2, by omega⟩
      have e : dv tx s (i + 2) = 10 * (tx s - 48) + (tx (s + 1) - 48) := rfl
      have := htx s (by omega)
      have := htx (s + 1) (by omega)
      rw [e]; omega
theorem c_num24 {n s : Nat} {tx : Nat → Nat} {lo hi : Int32} (hn : n ≤ 150) (htx : ∀ k, k < n → tx k < 128) : ∀ (d f p : Nat) (μ : Mem), d = n - p → s ≤ p → p ≤ n → d < f → RS μ n tx p → gF μ 9 3 = nI s → ∃ μ', fX5_takeNumber_24 f lo hi (nI (dv tx s (p - s))) μ = fX5_takeNumber_94 lo hi (nI (dv tx s (ad (btw 48 57) n tx p - s))) μ' ∧ RF μ μ' ∧ gF μ' 9 2 = nI (ad (btw 48 57) n tx p) ∧ (∀ k, k ≠ 2 → gF μ' 9 k = gF μ 9 k)
  | 0, f, p, μ, hd, hs, hp, hf, hS, h3 => by
    obtain ⟨f, rfl⟩ : ∃ g, f = g + 1 := ⟨f - 1, by omega⟩
    refine ⟨μ, ?_, RF.rf, ?_, fun _ _ => rfl⟩
    · rw [fX5_takeNumber_24]
      dsimp only
      rw [hS.1, hS.2.1, if_pos (nI_le (by omega) (by omega)), ad_end (by omega)]
    · rw [ad_end (by omega)]; exact hS.2.1
  | d + 1, f, p, μ, hd, hs, hp, hf, hS, h3 => by
    obtain ⟨f, rfl⟩ : ∃ g, f = g + 1 := ⟨f - 1, by omega⟩
    have ib := c_isb hn htx hS (by omega) (show 48 < 128 by decide) (show 57 < 128 by decide)
    have t := htx p (by omega)
    rw [fX5_takeNumber_24]
    dsimp only
    unfold fX5_takeNumber_80
    rw [hS.1, hS.2.1, if_neg (nI_ge (by omega) (by omega)), show (48 : Int32) = nI 48 from rfl, show (57 : Int32) = nI 57 from rfl, ib, bs]
    by_cases c : btw 48 57 (tx p) = true
    · have c48 : 48 ≤ tx p := by unfold btw at c; simp only [decide_eq_true_eq] at c; omega
      obtain ⟨μ1, e1, o1, h1, k1⟩ := c_num24 (s := s) (lo := lo) (hi := hi) hn htx d f (p + 1) (sF μ 9 2 (nI (p + 1))) (by omega) (by omega) (by omega) (by omega) (RS.to (RF.sF (by decide)) hS (by rw [gF_sF, if_pos rfl, if_pos rfl])) (by rw [gF_sm (by omega)]; exact h3)
      rw [ad_yes (i := p) (by omega) c]
      refine ⟨μ1, ?_, (RF.sF (by decide)).tr o1, h1, fun k hk => by rw [k1 k hk, gF_sm (by omega)]⟩
      rw [if_pos c, if_neg n10, h3, pk_sub hs]
      by_cases c2 : 2 ≤ p - s
      · have x2 : (2 : Int32) ≤ nI (p - s) := nI_le (a := 2) c2 (by omega)
        have ed : dv tx s (p + 1 - s) = dv tx s (p - s) := by
          obtain ⟨j, hj⟩ : ∃ j, p - s = j + 2 := ⟨p - s - 2, by omega⟩
          rw [show p + 1 - s = (j + 1) + 2 by omega, hj]
          rfl
        rw [ed] at e1
        rw [if_pos x2, bs, nI_1]
        exact e1
      · have x2 : ¬ (2 : Int32) ≤ nI (p - s) := nI_ge (b := 2) (by omega) (by decide)
        have ed : dv tx s (p + 1 - s) = 10 * dv tx s (p - s) + tx p - 48 := by
          have : p - s = 0 ∨ p - s = 1 := by omega
          rcases this with h | h
          · rw [show p + 1 - s = 1 by omega, h]
            obtain rfl : p = s := by omega
            show tx p - 48 = 10 * 0 + tx p - 48
            omega
          · rw [show p + 1 - s = 0 + 2 by omega, h]
            obtain rfl : p = s + 1 := by omega
            show 10 * (tx s - 48) + (tx (s + 1) - 48) = 10 * (tx s - 48) + tx (s + 1) - 48
            omega
        rw [ed] at e1
        rw [if_neg x2, rd_nI av_l10 (by omega) (by decide), hS.2.2 p (by omega), bs, bs, nI_1, show (10 : Int32) = nI 10 from rfl, pk_mul, nI_add, pk_sub (by omega)]
        exact e1
    · refine ⟨μ, ?_, RF.rf, ?_, fun _ _ => rfl⟩
      · rw [if_neg c, if_pos rfl, ad_no (by omega) c]
      · rw [ad_no (by omega) c]; exact hS.2.1
theorem dE_2 {n p : Nat} {tx : Nat → Nat} (h : kd n tx p = 2) : ad (btw 48 57) n tx (ta n tx p) = tE n tx p := by
  unfold tE
  rw [h, if_neg (by decide), if_neg (by decide), if_pos rfl]
theorem dE_0 {n p : Nat} {tx : Nat → Nat} (h : kd n tx p ≠ 2) : ad (btw 48 57) n tx (ta n tx p) = ta n tx p := by
  rcases Nat.lt_or_ge (ta n tx p) n with x | x
  · exact ad_no x (fun c => h ((kd2 x).mpr c))
  · exact ad_end x
theorem c_num {n p : Nat} {tx : Nat → Nat} {μ : Mem} {lo hi : Int32} (hn : n ≤ 150) (htx : ∀ k, k < n → tx k < 128) (hp : p ≤ n) (hS : RS μ n tx p) (h4 : gF μ 9 4 = -1) : (NK n tx p lo hi → ∃ μ', fX5_takeNumber lo hi μ = some (nI (vl n tx p), μ') ∧ RF μ μ' ∧ gF μ' 9 2 = nI (tE n tx p) ∧ gF μ' 9 4 = -1) ∧ (¬ NK n tx p lo hi → ∃ r μ', fX5_takeNumber lo hi μ = some (r, μ') ∧ RF μ μ' ∧ gF μ' 9 4 = nI (ta n tx p) ∧ ∃ e, e ≤ n ∧ gF μ' 9 2 = nI e) := by
  obtain ⟨μ1, e1, o1, h1, k1⟩ := c_skip hn htx hp hS
  have hS1 := RS.to o1 hS h1
  have t := ta_le (tx := tx) hp
  have o2 : RF μ1 (sF μ1 9 3 (nI (ta n tx p))) := RF.sF (by decide)
  obtain ⟨μ2, e2, o3, h2, k2⟩ := c_num24 (s := ta n tx p) (lo := lo) (hi := hi) hn htx (n - ta n tx p) av_big (ta n tx p) (sF μ1 9 3 (nI (ta n tx p))) rfl (Nat.le_refl _) t.2 (by show _ < 1000000; omega) (RS.to o2 hS1 (by rw [gF_sm (by omega)]; exact h1)) (by rw [gF_sF, if_pos rfl, if_pos rfl])
  rw [Nat.sub_self, show nI (dv tx (ta n tx p) 0) = 0 from rfl] at e2
  have g3 : gF μ2 9 3 = nI (ta n tx p) := by rw [k2 3 (by decide), gF_sF, if_pos rfl, if_pos rfl]
  have g4 : gF μ2 9 4 = -1 := by rw [k2 4 (by decide), gF_sm (by omega), k1 4 (by decide)]; exact h4
  have st : fX5_takeNumber lo hi μ = fX5_takeNumber_94 lo hi (nI (dv tx (ta n tx p) (ad (btw 48 57) n tx (ta n tx p) - ta n tx p))) μ2 := by
    unfold fX5_takeNumber
    rw [if_pos h4, e1, bs, bs, h1]
    exact e2
  have o123 := (o1.tr o2).tr o3
  have ee := tE_le (tx := tx) hp
  refine ⟨fun h => ?_, fun h => ?_⟩
  · obtain ⟨hk, hle⟩ := tk2.mp h.1
    have lt := tE_lt (tx := tx) hp (by omega)
    refine ⟨μ2, ?_, o123, by rw [h2, dE_2 hk], g4⟩
    have ev : vl n tx p = dv tx (ta n tx p) (tE n tx p - ta n tx p) := by unfold vl; rw [if_pos hk]
    have a1 : ¬ nI (tE n tx p - ta n tx p) < 1 := nI_nlt (b := 1) (by omega) (by omega)
    have a2 : ¬ (2 : Int32) < nI (tE n tx p - ta n tx p) := nI_nlt (a := 2) hle (by decide)
    rw [st, dE_2 hk, ← ev]
    unfold fX5_takeNumber_94 fX5_takeNumber_134
    rw [h2, g3, dE_2 hk, pk_sub ee.1, bs, if_neg a1, if_neg a2, w_eq, bs, if_pos h.2, if_neg n10]
  · have fin : ∀ x, ∃ r μ', fX5_takeNumber_126 x μ2 = some (r, μ') ∧ RF μ μ' ∧ gF μ' 9 4 = nI (ta n tx p) ∧ ∃ e, e ≤ n ∧ gF μ' 9 2 = nI e := fun x => by
      unfold fX5_takeNumber_126 fX5_takeNumber_134
      rw [bs, g3]
      exact ⟨x, _, rfl, o123.tr (RF.sF (by decide)), by rw [gF_sF, if_pos rfl, if_pos rfl], _, (ad_le t.2).2, by rw [gF_sm (by omega)]; exact h2⟩
    rw [st]
    unfold fX5_takeNumber_94 fX5_takeNumber_134
    rw [h2, g3]
    by_cases hk : kd n tx p = 2
    · have lt := tE_lt (tx := tx) hp (by omega)
      have ev : vl n tx p = dv tx (ta n tx p) (tE n tx p - ta n tx p) := by unfold vl; rw [if_pos hk]
      have a1 : ¬ nI (tE n tx p - ta n tx p) < 1 := nI_nlt (b := 1) (by omega) (by omega)
      rw [dE_2 hk, pk_sub ee.1, bs, if_neg a1, ← ev]
      by_cases hle : tE n tx p - ta n tx p ≤ 2
      · have a2 : ¬ (2 : Int32) < nI (tE n tx p - ta n tx p) := nI_nlt (a := 2) hle (by decide)
        rw [if_neg a2, w_eq, bs, if_neg (fun x => h ⟨tk2.mpr ⟨hk, hle⟩, x⟩), if_pos rfl]
        exact fin _
      · have a2 : (2 : Int32) < nI (tE n tx p - ta n tx p) := nI_lt (a := 2) (by omega) (by omega)
        rw [if_pos a2]
        exact fin _
    · rw [dE_0 hk, pk_sub (Nat.le_refl _), Nat.sub_self, bs, if_pos (by decide)]
      exact fin _
theorem c_numX {μ : Mem} {q : Nat} {lo hi : Int32} (hq : q ≤ 150) (h : gF μ 9 4 = nI q) : fX5_takeNumber lo hi μ = some (0, μ) := by
  unfold fX5_takeNumber
  rw [h, if_neg (m1_ne (by omega))]
theorem c_end {n p : Nat} {tx : Nat → Nat} {μ : Mem} (hn : n ≤ 150) (htx : ∀ k, k < n → tx k < 128) (hp : p ≤ n) (hS : RS μ n tx p) (h4 : gF μ 9 4 = -1) : (kd n tx p = 3 → ∃ μ', fX5_takeEnd μ = some μ' ∧ RF μ μ' ∧ gF μ' 9 2 = nI (tE n tx p) ∧ gF μ' 9 4 = -1) ∧ (kd n tx p ≠ 3 → ∃ μ', fX5_takeEnd μ = some μ' ∧ RF μ μ' ∧ gF μ' 9 4 = nI (ta n tx p) ∧ ∃ e, e ≤ n ∧ gF μ' 9 2 = nI e) := by
  obtain ⟨μ1, e1, o1, h1, k1⟩ := c_skip hn htx hp hS
  have hS1 := RS.to o1 hS h1
  have t := ta_le (tx := tx) hp
  have g4 : gF μ1 9 4 = -1 := by rw [k1 4 (by decide)]; exact h4
  refine ⟨fun h => ?_, fun h => ?_⟩
  · have c : ta n tx p < n := by
      rcases Nat.lt_or_ge (ta n tx p) n with x | x
      · exact x
      · have := kd0.mpr x; omega
    have ib := c_isb hn htx hS1 c (show 59 < 128 by decide) (show 59 < 128 by decide)
    have e59 := (kd3 c).mp h
    refine ⟨sF μ1 9 2 (nI (tE n tx p)), ?_, o1.tr (RF.sF (by decide)), by rw [gF_sF, if_pos rfl, if_pos rfl], by rw [gF_sm (by omega)]; exact g4⟩
    have et : tE n tx p = ta n tx p + 1 := by unfold tE; rw [h]; rfl
    unfold fX5_takeEnd
    rw [if_pos h4, e1, bs, hS1.1, h1, if_neg (nI_ge c (by omega)), show (59 : Int32) = nI 59 from rfl, ib, bs, e59, if_pos (show btw 59 59 59 = true by decide), if_neg n10, bs, nI_1, et]
  · have fin : fX5_takeEnd μ = fX5_takeEnd_48 μ1 := by
      unfold fX5_takeEnd
      rw [if_pos h4, e1, bs, hS1.1, h1]
      rcases Nat.lt_or_ge (ta n tx p) n with c | c
      · have ib := c_isb hn htx hS1 c (show 59 < 128 by decide) (show 59 < 128 by decide)
        rw [if_neg (nI_ge c (by omega)), show (59 : Int32) = nI 59 from rfl, ib, bs, if_neg (show ¬ btw 59 59 (tx (ta n tx p)) = true from fun x => h ((kd3 c).mpr (by unfold btw at x; simp only [decide_eq_true_eq] at x; omega))), if_pos rfl]
      · rw [if_pos (nI_le c (by omega))]
    refine ⟨sF μ1 9 4 (nI (ta n tx p)), ?_, o1.tr (RF.sF (by decide)), by rw [gF_sF, if_pos rfl, if_pos rfl], _, t.2, by rw [gF_sm (by omega)]; exact h1⟩
    rw [fin]
    unfold fX5_takeEnd_48
    rw [bs, h1]
theorem c_endX {μ : Mem} {q : Nat} (hq : q ≤ 150) (h : gF μ 9 4 = nI q) : fX5_takeEnd μ = some μ := by
  unfold fX5_takeEnd
  rw [h, if_neg (m1_ne (by omega))]
