/-! Steps: what only looks, and the small changes. -/
theorem m_inN {a : Int32} {μ : Mem} (b c : Int32) (B C : Int64) (hb : B = b.toInt64) (hc : C = c.toInt64) : fX12_in a.toInt64 B C μ = some (if b ≤ a ∧ a ≤ c then 1 else 0) := by
  rw [hb, hc, m_in]
theorem r99 {ν : Mem} (k : Nat) (x : Int32) (hx : x = nI k) (hk : k < 221) : rd ν 99 x = some (gA ν 99 k) := by
  rw [hx]; exact rd_nI av_l99 hk (by decide)
theorem w99 {ν : Mem} {v : Int32} (k : Nat) (x : Int32) (hx : x = nI k) (hk : k < 221) : wr ν 99 x v = some (sA ν 99 (upd (gA ν 99) k v)) := by
  rw [hx]; exact wr_nI av_l99 hk (by decide)
theorem gA_ss {μ : Mem} {q : Nat} {f : Nat → Int32} : gA (sA μ q f) q = f := by rw [gA_sA, if_pos rfl]
theorem sA_sA {μ : Mem} {q : Nat} {f g : Nat → Int32} : sA (sA μ q f) q g = sA μ q g := by
  unfold sA
  dsimp only
  congr 2
  funext a
  by_cases h : a = q <;> simp [h]
theorem n10 : ¬ (1 : Int32) = 0 := by decide
def KD (μ μ' : Mem) : Prop := (∀ a k, (a < 14 ∨ 42 ≤ a) → a < 70 → a ≠ 11 → (a = 9 → k = 1) → gF μ' a k = gF μ a k) ∧ gL μ' = gL μ ∧ (∀ a, (a < 14 ∨ 42 ≤ a) → a < 70 → a ≠ 13 → gA μ' a = gA μ a)
def KN (ν ν' : Mem) : Prop := gF ν' 98 22 = gF ν 98 22 ∧ gL ν' = gL ν ∧ (∀ a, a = 100 ∨ a = 101 ∨ a = 102 ∨ a = 111 → gA ν' a = gA ν a)
theorem KD.rf {μ : Mem} : KD μ μ := ⟨fun _ _ _ _ _ _ => rfl, rfl, fun _ _ _ _ => rfl⟩
theorem KD.tr {μ μ1 μ2 : Mem} (h1 : KD μ μ1) (h2 : KD μ1 μ2) : KD μ μ2 := ⟨fun a k x y z w => (h2.1 a k x y z w).trans (h1.1 a k x y z w), h2.2.1.trans h1.2.1, fun a x y z => (h2.2.2 a x y z).trans (h1.2.2 a x y z)⟩
theorem KD.so {q : Nat} {μ μ' : Mem} (hq : q = 21 ∨ 70 ≤ q) (h : SO q μ μ') : KD μ μ' := ⟨fun a k _ h1 _ _ => h.1 a k (by omega), h.2.1, fun a _ h1 _ => h.2.2 a (by omega) (by omega) (by omega)⟩
theorem KD.sF {q k : Nat} {μ : Mem} {v : Int32} (hq : 14 ≤ q ∧ q < 42) : KD μ (sF μ q k v) := ⟨fun a b _ _ _ _ => by rw [gF_sF, if_neg (by omega)], rfl, fun _ _ _ _ => rfl⟩
theorem KD.sA {q : Nat} {μ : Mem} {f : Nat → Int32} (hq : 14 ≤ q ∧ q < 42) : KD μ (sA μ q f) := ⟨fun _ _ _ _ _ _ => rfl, rfl, fun a _ _ _ => by rw [gA_sA, if_neg (by omega)]⟩
theorem KN.rf {ν : Mem} : KN ν ν := ⟨rfl, rfl, fun _ _ => rfl⟩
theorem KN.tr {ν ν1 ν2 : Mem} (h1 : KN ν ν1) (h2 : KN ν1 ν2) : KN ν ν2 := ⟨h2.1.trans h1.1, h2.2.1.trans h1.2.1, fun a x => (h2.2.2 a x).trans (h1.2.2 a x)⟩
theorem KN.ho {ν ν' : Mem} (h : HO ν ν') : KN ν ν' := ⟨h.1 98 22 (by omega), h.2.1, fun a ha => h.2.2 a (by omega) (by omega)⟩
theorem KN.sA {ν : Mem} {b : Nat} {f : Nat → Int32} (hb : b ≠ 100 ∧ b ≠ 101 ∧ b ≠ 102 ∧ b ≠ 111) : KN ν (sA ν b f) := ⟨rfl, rfl, fun a ha => by rw [gA_sA, if_neg (by omega)]⟩
theorem KN.sF {ν : Mem} {k : Nat} {v : Int32} (hk : k ≠ 22) : KN ν (sF ν 98 k v) := ⟨by rw [gF_sn (by omega)], rfl, fun a ha => rfl⟩
theorem Iv_now {i j : Nat} {μ ν μ' ν' : Mem} (h : Iv i μ ν) (hij : i ≤ j) (hc : KD μ μ') (hm : KN ν ν') (hz : IZ j μ' ν') : Iv j μ' ν' := by
  obtain ⟨-, h2, h3, h4, h5⟩ := h
  refine ⟨hz, II_mono hij (II_keep (hc.1 0 3 (by omega) (by omega) (by omega) (by omega)) (fun a k x y => hc.1 a k (by omega) (by omega) (by omega) (by omega)) (fun a x y => hc.2.2 a (by omega) (by omega) (by omega)) (hm.2.2 100 (by omega)) (hm.2.2 101 (by omega)) h2), IX_keep (hc.1 9 1 (by omega) (by omega) (by omega) (by omega)) hm.1 (hc.2.2 10 (by omega) (by omega) (by omega)) (hm.2.2 111 (by omega)) h3, IF_keep hc.2.1 hm.2.1 h4, IR_keep (fun k => hc.1 0 k (by omega) (by omega) (by omega) (by omega)) (hm.2.2 102 (by omega)) h5⟩
theorem b2_some {α β γ : Type} {a : α} {b : β} {f : α → β → Option γ} : av_b2 (some (a, b)) f = f a b := rfl
theorem st_winner : lw_st_winner Iv := by
  intro i hi μ ν h
  obtain ⟨z, wz, cz, mz⟩ := h.1
  refine ⟨(zH z).2.2.2.1, ?_, ?_, Iv_5 h⟩
  · unfold fX11_winner; rw [show gF μ 21 4 = _ from cz.2.1.2.2.1]
  · unfold fX12_winner; rw [r99 5 5 rfl (by decide), mz.2.1.2.2.1]; rfl
theorem st_coalition : lw_st_coalition Iv := by
  intro i hi μ ν h
  obtain ⟨z, wz, cz, mz⟩ := h.1
  refine ⟨(zH z).2.2.2.2, ?_, ?_, Iv_5 h⟩
  · unfold fX11_coalition; rw [show gF μ 21 5 = _ from cz.2.1.2.2.2]
  · unfold fX12_coalition; rw [r99 6 6 rfl (by decide), mz.2.1.2.2.2]; rfl
theorem two_cases {a : Int32} (h : (0 : Int32) ≤ a ∧ a ≤ 1) : a = 0 ∨ a = 1 := by
  obtain ⟨j, hj, rfl⟩ := ix_out (a := a) (n := 2) (by decide) ⟨h.1, h.2⟩
  have : j = 0 ∨ j = 1 := by omega
  rcases this with rfl | rfl
  · exact Or.inl rfl
  · exact Or.inr rfl
theorem st_part : lw_st_part Iv := by
  intro i hi a μ ν h
  unfold fX11_part fX12_part
  rw [w_eq]
  simp only [Option.bind_some]
  by_cases c : (0 : Int32) ≤ a ∧ a ≤ 1
  · rw [if_pos c, if_neg (by decide)]
    rcases two_cases c with rfl | rfl
    · exact ⟨_, _, _, by rw [if_pos rfl], by rw [if_pos rfl, ← h.2.2.2.1.1], Iv_5 h⟩
    · exact ⟨_, _, _, by rw [if_neg (by decide)], by rw [if_neg (by decide), if_pos rfl, ← h.2.2.2.1.2], Iv_5 h⟩
  · rw [if_neg c, if_pos rfl, if_neg (fun e => c (by rw [e]; decide)), if_neg (fun e => c (by rw [e]; decide))]
    obtain ⟨μ', ν', e1, e2, hI⟩ := bad_ok (-2) h
    exact ⟨_, μ', ν', by rw [e1]; rfl, by rw [e2]; rfl, hI⟩
theorem st_status : lw_st_status Iv := by
  intro i hi a μ ν h
  unfold fX11_status fX12_status
  rw [m_inN 0 2 0 2 rfl rfl]
  simp only [Option.bind_some]
  by_cases c : (0 : Int32) ≤ a ∧ a ≤ 2
  · obtain ⟨j, hj, rfl⟩ := ix_out (a := a) (n := 3) (by decide) ⟨c.1, c.2⟩
    rw [if_pos c, if_neg n10, rd_nI av_l102 hj (by decide)]
    simp only [Option.bind_some]
    have : j = 0 ∨ j = 1 ∨ j = 2 := by omega
    obtain ⟨r0, r1, r2⟩ := h.2.2.2.2
    rcases this with rfl | rfl | rfl
    · exact ⟨gF μ 0 8, μ, ν, by rw [if_pos (by decide)], by rw [← r0], Iv_5 h⟩
    · exact ⟨gF μ 0 9, μ, ν, by rw [if_neg (by decide), if_pos (by decide)], by rw [← r1], Iv_5 h⟩
    · exact ⟨gF μ 0 10, μ, ν, by rw [if_neg (by decide), if_neg (by decide), if_pos (by decide)], by rw [← r2], Iv_5 h⟩
  · rw [if_neg c, if_pos rfl, if_neg (fun e => c (by rw [e]; decide)), if_neg (fun e => c (by rw [e]; decide)), if_neg (fun e => c (by rw [e]; decide))]
    obtain ⟨μ', ν', e1, e2, hI⟩ := bad_ok (-1) h
    exact ⟨_, μ', ν', by rw [e1]; rfl, by rw [e2]; rfl, hI⟩
theorem IX_len {i : Nat} {μ ν μ' ν' : Mem} (h : Iv i μ ν) (hF : ∀ a k, a ≠ 9 → gF μ' a k = gF μ a k) (hA : ∀ a, a ≠ 10 → gA μ' a = gA μ a) (hL : gL μ' = gL μ) (hB : ∀ a, a ≠ 111 → gA ν' a = gA ν a) (hM : gL ν' = gL ν) (hx : IX μ' ν') : Iv i μ' ν' := by
  obtain ⟨h1, h2, h3, h4, h5⟩ := h
  exact ⟨IZ_keep (fun a k x y => hF a k (by omega)) (fun a x y => hA a (by omega)) (hB 99 (by decide)) h1, II_keep (hF 0 3 (by decide)) (fun a k x y => hF a k (by omega)) (fun a x y => hA a (by omega)) (hB 100 (by decide)) (hB 101 (by decide)) h2, hx, IF_keep hL hM h4, IR_keep (fun k => hF 0 k (by decide)) (hB 102 (by decide)) h5⟩
theorem st_clear : lw_st_clear Iv := by
  intro i hi μ ν h
  obtain ⟨n, n1, n2, n3, n4⟩ := h.2.2.1
  refine ⟨nI n, sF μ 9 1 0, sF ν 98 22 0, by unfold fX11_clear; rw [n2]; rfl, by unfold fX12_clear; rw [n3]; rfl, ?_⟩
  refine Iv_5 (IX_len h (fun a k ha => by rw [gF_sF, if_neg ha]) (fun _ _ => rfl) rfl (fun _ _ => rfl) rfl ?_)
  exact ⟨0, by decide, rfl, rfl, fun k hk => absurd hk (Nat.not_lt_zero k)⟩
theorem byte_nar {c : Nat} (hc : c < 128) : vp_nar .byte ((nI c).toInt8.toInt32) = nI c := by
  have hd : ∀ c, c < 128 → vp_nar .byte ((nI c).toInt8.toInt32) = nI c := by decide +kernel
  exact hd c hc
theorem st_type : lw_st_type Iv := by
  intro i hi a μ ν h
  obtain ⟨n, n1, n2, n3, n4⟩ := h.2.2.1
  unfold fX11_type fX12_type
  rw [w_eq, m_inN 0 127 0 127 rfl rfl]
  simp only [Option.bind_some]
  by_cases c : (0 : Int32) ≤ a ∧ a ≤ 127
  · obtain ⟨b, hb, rfl⟩ := ix_out (a := a) (n := 128) (by decide) ⟨c.1, c.2⟩
    rw [if_pos c, if_neg n10, if_neg n10, n2, n3]
    by_cases c2 : n < 150
    · have c150 : nI n < 150 := nI_lt (b := 150) c2 (by decide)
      rw [if_pos c150, if_neg (fun e => by rw [show (150 : Int32) = nI 150 from rfl, nI_eq (by omega) (by decide)] at e; omega)]
      have e1 : fX5_append (nI b) μ = some (sF (sA μ 10 (upd (gA μ 10) n (nI b))) 9 1 (nI n + 1)) := by
        unfold fX5_append
        rw [n2, if_neg (nI_pos (by omega)), if_pos c150]
        unfold wrb
        rw [byte_nar hb, wr_nI av_l10 c2 (by decide)]
        simp only [Option.bind_some]
        rw [gF_sA, n2]
      rw [e1, wr_nI av_l111 c2 (by decide)]
      simp only [Option.bind_some]
      refine ⟨nI n + 1, _, _, rfl, by rw [gF_sA, n3]; rfl, ?_⟩
      refine Iv_5 (IX_len h (fun a k ha => by rw [gF_sF, if_neg ha]; rfl) (fun a ha => by rw [gA_sF, gA_sA, if_neg ha]) rfl (fun a ha => by rw [gA_sF, gA_sA, if_neg ha]) rfl ?_)
      refine ⟨n + 1, by omega, nI_1 n, ?_, fun k hk => ?_⟩
      · rw [gF_sq, if_pos rfl]; exact nI_1 n
      · rw [gA_sF, gA_sF, gA_ss, gA_ss]
        unfold upd
        by_cases c3 : k = n
        · rw [if_pos c3, if_pos c3]; exact ⟨b, hb, rfl, rfl⟩
        · rw [if_neg c3, if_neg c3]; exact n4 k (by omega)
    · obtain rfl : n = 150 := by omega
      rw [if_neg (by decide), if_pos (by decide)]
      obtain ⟨μ', ν', e1, e2, hI⟩ := full_ok h
      exact ⟨_, μ', ν', by rw [e1]; rfl, by rw [e2]; rfl, hI⟩
  · rw [if_neg c, if_pos rfl, if_pos rfl]
    obtain ⟨μ', ν', e1, e2, hI⟩ := bad_ok (-2) h
    exact ⟨_, μ', ν', by rw [e1]; rfl, by rw [e2]; rfl, hI⟩
theorem st_forget : lw_st_forget Iv := by
  intro i hi μ ν h
  obtain ⟨z, wz, cz, mz⟩ := h.1
  refine ⟨nI (zN z), sF μ 14 6 0, sA ν 99 (upd (gA ν 99) 3 0), by unfold fX11_forget; rw [cz.2.2.1.1]; rfl, ?_, ?_⟩
  · unfold fX12_forget
    rw [r99 3 3 rfl (by decide), w99 3 3 rfl (by decide), mz.2.2.1.1]; rfl
  · refine Iv_now h (by omega) (KD.sF (by decide)) (KN.sA (by decide)) ⟨(zT z, zH z, 0, zV z, zB z, zP z, zQ z), ?_, ?_, ?_⟩
    · exact ⟨wz.1, wz.2.1, Nat.le_trans wz.2.2.1 (by omega), ⟨Nat.zero_le 6, fun j hj => absurd hj (Nat.not_lt_zero j)⟩, wz.2.2.2.2.1, fun p hp => ⟨(wz.2.2.2.2.2 p hp).1, Nat.le_trans (wz.2.2.2.2.2 p hp).2 (by omega)⟩⟩
    · exact ⟨cz.1, cz.2.1, ⟨rfl, fun j hj => absurd hj (Nat.not_lt_zero j)⟩, cz.2.2.2.1, cz.2.2.2.2⟩
    · rw [gA_ss]
      have hu : ∀ k, k ≠ 3 → upd (gA ν 99) 3 0 k = gA ν 99 k := fun k hk => pk_un hk
      obtain ⟨⟨t1, t2, t3, t4⟩, ⟨s1, s2, s3, s4⟩, -, p1, p2⟩ := mz
      refine ⟨⟨?_, ?_, fun k hk => ?_, fun v hv => ?_⟩, ⟨fun k hk => ?_, ?_, ?_, ?_⟩, ⟨rfl, fun j hj => absurd hj (Nat.not_lt_zero j)⟩, ?_, fun p hp => ⟨fun k hk => ?_, ?_, ?_, ?_⟩⟩
      · exact t1
      · exact t2
      · rw [hu _ (by omega), hu _ (by omega)]; exact t3 k hk
      · rw [hu _ (by omega), hu _ (by omega), hu _ (by omega)]; exact t4 v hv
      · rw [hu _ (by omega), hu _ (by omega)]; exact s1 k hk
      · exact s2
      · exact s3
      · exact s4
      · exact p1
      · rw [hu _ (by omega), hu _ (by omega)]; exact (p2 p hp).1 k hk
      · rw [hu _ (by omega)]; exact (p2 p hp).2.1
      · rw [hu _ (by omega)]; exact (p2 p hp).2.2.1
      · rw [hu _ (by omega)]; exact (p2 p hp).2.2.2
