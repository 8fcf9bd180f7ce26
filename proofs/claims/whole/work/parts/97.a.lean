/-! orders: rows as codes, the tree of all rows; no machine here. -/
/-- the place i of the row of j places that the code c is, by n -/
def rwo (n : Nat) : Nat → Nat → Nat → Nat
  | 0, _, _ => 0
  | j + 1, c, i => if i = j then c % n else rwo n j (c / n) i
theorem cn_mod {c n v : Nat} (h : v < n) : (c * n + v) % n = v := by
  rw [Nat.mul_comm, Nat.mul_add_mod, Nat.mod_eq_of_lt h]
theorem cn_div {c n v : Nat} (h : v < n) : (c * n + v) / n = c := by
  rw [Nat.mul_comm, Nat.mul_add_div (by omega), Nat.div_eq_of_lt h, Nat.add_zero]
theorem rwo_lt {n : Nat} (hn : 0 < n) : ∀ (j c i : Nat), i < j → rwo n j c i < n
  | 0, c, i, h => by omega
  | j + 1, c, i, h => by
    rw [rwo]
    split
    · exact Nat.mod_lt _ hn
    · exact rwo_lt hn j (c / n) i (by omega)
theorem rwo_last {n j c v : Nat} (h : v < n) : rwo n (j + 1) (c * n + v) j = v := by
  rw [rwo, if_pos rfl, cn_mod h]
theorem rwo_fore {n j c v i : Nat} (h : v < n) (hi : i < j) : rwo n (j + 1) (c * n + v) i = rwo n j c i := by
  rw [rwo, if_neg (by omega), cn_div h]
/-- in turn for 0 .. below v -/
def tl {A : Type} (g : Nat → A → A) : Nat → A → A
  | 0, a => a
  | v + 1, a => g v (tl g v a)
theorem tl_ext {A : Type} {g h : Nat → A → A} : ∀ (n : Nat) (a : A), (∀ v, v < n → ∀ b, g v b = h v b) → tl g n a = tl h n a
  | 0, _, _ => rfl
  | n + 1, a, e => by
    rw [tl, tl, tl_ext n a (fun v hv b => e v (by omega) b), e n (by omega)]
theorem tl_id {A : Type} {g : Nat → A → A} : ∀ (n : Nat) (a : A), (∀ v, v < n → ∀ b, g v b = b) → tl g n a = a
  | 0, _, _ => rfl
  | n + 1, a, e => by
    rw [tl, tl_id n a (fun v hv b => e v (by omega) b), e n (by omega)]
def flt {A : Type} (g : Nat → A → A) (s : Nat) : Nat → A → A
  | 0, a => a
  | m + 1, a => g (s + m) (flt g s m a)
theorem flt_add {A : Type} {g : Nat → A → A} {s : Nat} : ∀ (m p : Nat) (a : A), flt g s (m + p) a = flt g (s + m) p (flt g s m a)
  | m, 0, a => rfl
  | m, p + 1, a => by
    show g (s + (m + p)) (flt g s (m + p) a) = g (s + m + p) (flt g (s + m) p (flt g s m a))
    rw [flt_add m p a, Nat.add_assoc]
theorem flt_suc {A : Type} {g : Nat → A → A} {s m : Nat} {a : A} : flt g s (m + 1) a = flt g (s + 1) m (g s a) := by
  rw [Nat.add_comm m 1, flt_add]
  rfl
theorem flt_blk {A : Type} {g : Nat → A → A} {s w : Nat} : ∀ (m : Nat) (a : A), flt g s (m * w) a = tl (fun v b => flt g (s + v * w) w b) m a
  | 0, a => by rw [Nat.zero_mul]; rfl
  | m + 1, a => by
    rw [Nat.add_mul, Nat.one_mul, flt_add, flt_blk m a]
    rfl
/-- how many so far, and the code of the first -/
abbrev Ac : Type := Nat × Nat
def lef (n k c : Nat) (σ : Hd) (u : Nat) (a : Ac) : Ac := if u = 2 ^ n - 1 ∧ σ.2.2.2.1 = nI k then (a.1 + 1, if a.1 = 0 then c else a.2) else a
def tre (τ : Td) (k : Nat) : Nat → Nat → Hd → Nat → Ac → Ac
  | 0, c, σ, u, a => lef (tV τ) k c σ u a
  | d + 1, c, σ, u, a => tl (fun v b => tre τ k d (c * tV τ + v) (vot τ σ v) (u ||| 2 ^ v) b) (tV τ) a
def pst (τ : Td) (σ : Hd) : Nat → Nat → Hd
  | 0, _ => σ
  | j + 1, c => vot τ (pst τ σ j (c / tV τ)) (c % tV τ)
def pmk (n : Nat) : Nat → Nat → Nat
  | 0, _ => 0
  | j + 1, c => pmk n j (c / n) ||| 2 ^ (c % n)
theorem tre_flt {τ : Td} {k : Nat} {σ : Hd} : ∀ (d j c : Nat) (a : Ac), tre τ k d c (pst τ σ j c) (pmk (tV τ) j c) a = flt (fun e b => lef (tV τ) k e (pst τ σ (j + d) e) (pmk (tV τ) (j + d) e) b) (c * tV τ ^ d) (tV τ ^ d) a
  | 0, j, c, a => by
    rw [Nat.pow_zero, Nat.mul_one]
    rfl
  | d + 1, j, c, a => by
    rw [tre, Nat.pow_succ, Nat.mul_comm (tV τ ^ d) (tV τ), flt_blk]
    refine tl_ext _ _ (fun v hv b => ?_)
    have h := tre_flt (τ := τ) (k := k) (σ := σ) d (j + 1) (c * tV τ + v) b
    rw [show pst τ σ (j + 1) (c * tV τ + v) = vot τ (pst τ σ j c) v by rw [pst, cn_mod hv, cn_div hv], show pmk (tV τ) (j + 1) (c * tV τ + v) = pmk (tV τ) j c ||| 2 ^ v by rw [pmk, cn_mod hv, cn_div hv]] at h
    rw [h, show j + 1 + d = j + (d + 1) by omega, show (c * tV τ + v) * tV τ ^ d = c * (tV τ * tV τ ^ d) + v * tV τ ^ d by rw [Nat.add_mul, Nat.mul_assoc]]
/-- of those below v how many aren't in u -/
def nub (u : Nat) : Nat → Nat
  | 0 => 0
  | v + 1 => nub u v + if u.testBit v then 0 else 1
theorem nub_le (u : Nat) : ∀ v, nub u v ≤ v
  | 0 => Nat.le_refl _
  | v + 1 => by
    rw [nub]
    have := nub_le u v
    split <;> omega
theorem nub_mono {u v : Nat} : ∀ {w : Nat}, v ≤ w → nub u v ≤ nub u w
  | 0, h => by obtain rfl : v = 0 := by omega
               exact Nat.le_refl _
  | w + 1, h => by
    by_cases e : v = w + 1
    · rw [e]; exact Nat.le_refl _
    · have := nub_mono (u := u) (v := v) (w := w) (by omega)
      rw [nub]; omega
theorem nub_ext {u u' : Nat} : ∀ n, (∀ w, w < n → u.testBit w = u'.testBit w) → nub u n = nub u' n
  | 0, _ => rfl
  | n + 1, h => by rw [nub, nub, nub_ext n (fun w hw => h w (by omega)), h n (by omega)]
theorem tb_or {u v w : Nat} : (u ||| 2 ^ v).testBit w = (u.testBit w || decide (v = w)) := by
  rw [Nat.testBit_or, Nat.testBit_two_pow]
theorem nub_has {u v n : Nat} (h : u.testBit v = true) : nub (u ||| 2 ^ v) n = nub u n := by
  refine nub_ext n (fun w _ => ?_)
  rw [tb_or]
  by_cases e : v = w
  · subst e; simp [h]
  · simp [e]
theorem nub_set {u v : Nat} (h : u.testBit v = false) : ∀ n, v < n → nub (u ||| 2 ^ v) n + 1 = nub u n
  | 0, hv => by omega
  | n + 1, hv => by
    rw [nub, nub, tb_or]
    by_cases e : v = n
    · subst e
      rw [nub_ext (u := u ||| 2 ^ v) (u' := u) v (fun w hw => by rw [tb_or]; have : ¬ v = w := by omega
                                                                 simp [this]), h]
      simp
    · have := nub_set h n (by omega)
      simp only [e, decide_false, Bool.or_false]
      omega
theorem nub_full {n : Nat} : nub (2 ^ n - 1) n = 0 := by
  have h : ∀ m, m ≤ n → nub (2 ^ n - 1) m = 0 := by
    intro m
    induction m with
    | zero => intro _; rfl
    | succ m ih =>
      intro hm
      rw [nub, ih (by omega), Nat.testBit_two_pow_sub_one]
      have : m < n := by omega
      simp [this]
  exact h n (Nat.le_refl _)
theorem nub_bits {u : Nat} : ∀ n, nub u n = 0 → ∀ w, w < n → u.testBit w = true
  | 0, _, w, hw => by omega
  | n + 1, h, w, hw => by
    rw [nub] at h
    by_cases e : w = n
    · subst e
      cases hb : u.testBit w with
      | true => rfl
      | false => rw [hb] at h; simp at h
    · exact nub_bits n (by omega) w (by omega)
theorem full_of {u n : Nat} (hu : u < 2 ^ n) (h : nub u n = 0) : u = 2 ^ n - 1 := by
  apply Nat.eq_of_testBit_eq
  intro w
  rw [Nat.testBit_two_pow_sub_one]
  by_cases e : w < n
  · rw [nub_bits n h w e]; simp [e]
  · rw [Nat.testBit_lt_two_pow (Nat.lt_of_lt_of_le hu (Nat.pow_le_pow_right (by decide) (by omega)))]
    simp [e]
theorem tre_dead {τ : Td} {k : Nat} : ∀ (d c : Nat) (σ : Hd) (u : Nat) (a : Ac), d < nub u (tV τ) → tre τ k d c σ u a = a
  | 0, c, σ, u, a, h => by
    rw [tre, lef, if_neg]
    rintro ⟨e, -⟩
    rw [e, nub_full] at h
    omega
  | d + 1, c, σ, u, a, h => by
    rw [tre]
    refine tl_id _ _ (fun v hv b => ?_)
    refine tre_dead d _ _ _ _ ?_
    by_cases e : u.testBit v = true
    · rw [nub_has e]; omega
    · have := nub_set (u := u) (v := v) (by simpa using e) (tV τ) hv
      omega
def fct : Nat → Nat
  | 0 => 1
  | d + 1 => (d + 1) * fct d
theorem fct_pos : ∀ d, 0 < fct d
  | 0 => by decide
  | d + 1 => Nat.mul_pos (by omega) (fct_pos d)
/-- the row goes on with those that aren't in u, rising -/
def fcd (n u c v : Nat) : Nat := tl (fun w e => if u.testBit w then e else e * n + w) v c
theorem fcd_suc {n u c v : Nat} : fcd n u c (v + 1) = if u.testBit v then fcd n u c v else fcd n u c v * n + v := rfl
theorem fcd_full {n u c : Nat} : ∀ v, nub u v = 0 → fcd n u c v = c
  | 0, _ => rfl
  | v + 1, h => by
    rw [fcd_suc, nub_bits (v + 1) h v (by omega), if_pos rfl]
    exact fcd_full v (by rw [nub] at h; omega)
theorem fcd_set {n u c v : Nat} (h0 : nub u v = 0) (hb : u.testBit v = false) : ∀ m, v < m → fcd n (u ||| 2 ^ v) (c * n + v) m = fcd n u c m
  | 0, h => by omega
  | m + 1, h => by
    rw [fcd_suc, fcd_suc, tb_or]
    by_cases e : v = m
    · subst e
      rw [fcd_full v h0, hb, fcd_full v (by rw [nub_ext (u' := u) v (fun w hw => by rw [tb_or]; have : ¬ v = w := by omega
                                                                                    simp [this])]; exact h0)]
      simp
    · rw [fcd_set h0 hb m (by omega)]
      simp [e]
theorem or_lt {u v n : Nat} (hu : u < 2 ^ n) (hv : v < n) : u ||| 2 ^ v < 2 ^ n := Nat.or_lt_two_pow hu (Nat.pow_lt_pow_right (by decide) hv)
theorem tre_won {τ : Td} {k : Nat} : ∀ (d c : Nat) (σ : Hd) (u : Nat) (a : Ac), u < 2 ^ tV τ → nub u (tV τ) = d → σ.2.2.2.1 ≠ -1 → tre τ k d c σ u a = if σ.2.2.2.1 = nI k then (a.1 + fct d, if a.1 = 0 then fcd (tV τ) u c (tV τ) else a.2) else a
  | 0, c, σ, u, a, hu, hd, hw => by
    rw [tre, lef, fcd_full _ hd]
    have e := full_of hu hd
    by_cases x : σ.2.2.2.1 = nI k
    · rw [if_pos ⟨e, x⟩, if_pos x]; rfl
    · rw [if_neg (fun h => x h.2), if_neg x]
  | d + 1, c, σ, u, a, hu, hd, hw => by
    have hs : ∀ v, v ≤ tV τ → tl (fun v b => tre τ k d (c * tV τ + v) (vot τ σ v) (u ||| 2 ^ v) b) v a = if σ.2.2.2.1 = nI k then (a.1 + nub u v * fct d, if a.1 = 0 ∧ nub u v ≠ 0 then fcd (tV τ) u c (tV τ) else a.2) else a := by
      intro v
      induction v with
      | zero =>
        intro _
        rw [tl, nub, Nat.zero_mul]
        split <;> simp
      | succ v ih =>
        intro hv
        rw [tl, ih (by omega)]
        by_cases b : u.testBit v = true
        · rw [tre_dead d _ _ _ _ (by rw [nub_has b]; omega), nub, if_pos b, Nat.add_zero]
        · have b' : u.testBit v = false := by simpa using b
          have hn := nub_set b' (tV τ) (by omega)
          have hp := fct_pos d
          rw [tre_won d _ _ _ _ (or_lt hu (by omega)) (by omega) (by rw [vot_won hw]; exact hw), vot_won hw, nub, if_neg b]
          by_cases x : σ.2.2.2.1 = nI k
          · rw [if_pos x, if_pos x, if_pos x]
            have e1 : a.1 + nub u v * fct d + fct d = a.1 + (nub u v + 1) * fct d := by rw [Nat.add_mul, Nat.one_mul, Nat.add_assoc]
            show (a.1 + nub u v * fct d + fct d, if a.1 + nub u v * fct d = 0 then _ else _) = _
            rw [e1]
            by_cases a0 : a.1 = 0
            · by_cases n0 : nub u v = 0
              · rw [if_pos (by rw [a0, n0, Nat.zero_mul]), if_pos ⟨a0, by omega⟩, fcd_set n0 b' (tV τ) (by omega)]
              · have : 0 < nub u v * fct d := Nat.mul_pos (by omega) hp
                rw [if_neg (by omega), if_pos ⟨a0, n0⟩, if_pos ⟨a0, by omega⟩]
            · rw [if_neg (by omega), if_neg (fun h => a0 h.1), if_neg (fun h => a0 h.1)]
          · rw [if_neg x, if_neg x, if_neg x]
    rw [tre, hs (tV τ) (Nat.le_refl _), hd, fct]
    by_cases x : σ.2.2.2.1 = nI k
    · rw [if_pos x, if_pos x]
      by_cases a0 : a.1 = 0
      · rw [if_pos ⟨a0, by omega⟩, if_pos a0]
      · rw [if_neg (fun h => a0 h.1), if_neg a0]
    · rw [if_neg x, if_neg x]
theorem tre_le {τ : Td} {k : Nat} : ∀ (d c : Nat) (σ : Hd) (u : Nat) (a : Ac), (tre τ k d c σ u a).1 ≤ a.1 + tV τ ^ d
  | 0, c, σ, u, a => by
    rw [tre, lef, Nat.pow_zero]
    split
    · exact Nat.le_refl _
    · omega
  | d + 1, c, σ, u, a => by
    have hs : ∀ v, (tl (fun v b => tre τ k d (c * tV τ + v) (vot τ σ v) (u ||| 2 ^ v) b) v a).1 ≤ a.1 + v * tV τ ^ d := by
      intro v
      induction v with
      | zero => rw [tl]; omega
      | succ v ih =>
        rw [tl, Nat.add_mul, Nat.one_mul]
        have := tre_le (τ := τ) (k := k) d (c * tV τ + v) (vot τ σ v) (u ||| 2 ^ v) (tl (fun v b => tre τ k d (c * tV τ + v) (vot τ σ v) (u ||| 2 ^ v) b) v a)
        omega
    have := hs (tV τ)
    rw [tre, Nat.pow_succ, Nat.mul_comm (tV τ ^ d)]
    exact this
theorem tl_le {τ : Td} {k d c u : Nat} {σ : Hd} {a : Ac} : ∀ v, (tl (fun v b => tre τ k d (c * tV τ + v) (vot τ σ v) (u ||| 2 ^ v) b) v a).1 ≤ a.1 + v * tV τ ^ d
  | 0 => by rw [tl]; omega
  | v + 1 => by
    rw [tl, Nat.add_mul, Nat.one_mul]
    have := tl_le (τ := τ) (k := k) (d := d) (c := c) (u := u) (σ := σ) (a := a) v
    have := tre_le (τ := τ) (k := k) d (c * tV τ + v) (vot τ σ v) (u ||| 2 ^ v) (tl (fun v b => tre τ k d (c * tV τ + v) (vot τ σ v) (u ||| 2 ^ v) b) v a)
    omega
