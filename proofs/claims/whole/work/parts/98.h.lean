/-! read: the loop over the items; the step. -/
theorem LK_ta {n p : Nat} {tx : Nat → Nat} {ν : Mem} (hp : p ≤ n) (h : LK n tx ν p) : LK n tx ν (ta n tx p) := by
  unfold LK
  rw [ta_ta hp, tE_ta hp, tk_ta hp, vl_ta hp]
  exact h
theorem c_over {μ : Mem} {q : Nat} {x2 x3 : Int32} (f : Nat) (hq : q ≤ 150) (h : gF μ 9 4 = nI q) : fX5_readInto_18 (f + 1) 28 x2 x3 μ = some (x2, μ) := by
  rw [fX5_readInto_18]
  dsimp only
  unfold fX5_readInto_76
  rw [h, if_neg (m1_ne (by omega)), ite_self]
theorem j_loop {n i : Nat} {tx : Nat → Nat} (hn : n ≤ 150) (htx : ∀ k, k < n → tx k < 128) : ∀ (d f g c p : Nat) (z : Sd) (μ ν : Mem), n - p ≤ d → p ≤ n → 1 ≤ c → c ≤ p → ta n tx p = p → d + 1 < f → d < g → RS μ n tx p → MX ν n tx → gF μ 9 4 = -1 → LK n tx ν p → JZ i μ ν z → ∃ r μ' ν', KC μ μ' ∧ KM ν ν' ∧ fX5_readInto_18 f 28 (nI c) (nI c) μ = some (r, μ') ∧ ((gF μ' 9 4 = -1 ∧ ∃ z', JZ i μ' ν' z' ∧ fX12_read_70 g (nI c) ν = fX12_read_112 av_big r 0 ν') ∨ (∃ q, q ≤ n ∧ gF μ' 9 4 = nI q ∧ fX12_read_70 g (nI c) ν = some (-10 - nI q, ν'))) := by
  intro d
  induction d with
  | zero =>
    intro f g c p z μ ν hd hp hc hcp ht hf hg hS hX h4 hK hJ
    obtain ⟨f, rfl⟩ : ∃ t, f = t + 1 := ⟨f - 1, by omega⟩
    obtain ⟨g, rfl⟩ : ∃ t, g = t + 1 := ⟨g - 1, by omega⟩
    have k0 : kd n tx p = 0 := kd0.mpr (by omega)
    refine ⟨nI c, μ, ν, KC.rf, KM.rf, ?_, Or.inl ⟨h4, z, hJ, ?_⟩⟩
    · rw [fX5_readInto_18]
      dsimp only
      unfold fX5_readInto_76
      rw [hS.1, if_neg (nI_nlt (by omega) (by omega)), if_pos h4, if_neg (nI_ne0 (by omega) (by omega)), hS.2.1, if_pos (nI_le (by omega) (by omega))]
    · rw [fX12_read_70]
      dsimp only
      rw [hK.2.2.1, tk_0.mpr k0, if_pos (show nI 0 = 0 from rfl)]
  | succ d ih =>
    intro f g c p z μ ν hd hp hc hcp ht hf hg hS hX h4 hK hJ
    obtain ⟨f, rfl⟩ : ∃ t, f = t + 1 := ⟨f - 1, by omega⟩
    obtain ⟨g, rfl⟩ : ∃ t, g = t + 1 := ⟨g - 1, by omega⟩
    have c0 : ¬ nI c = 0 := nI_ne0 (by omega) (by omega)
    by_cases e : n ≤ p
    · have k0 : kd n tx p = 0 := kd0.mpr (by omega)
      refine ⟨nI c, μ, ν, KC.rf, KM.rf, ?_, Or.inl ⟨h4, z, hJ, ?_⟩⟩
      · rw [fX5_readInto_18]
        dsimp only
        unfold fX5_readInto_76
        rw [hS.1, if_neg (nI_nlt (by omega) (by omega)), if_pos h4, if_neg c0, hS.2.1, if_pos (nI_le (by omega) (by omega))]
      · rw [fX12_read_70]
        dsimp only
        rw [hK.2.2.1, tk_0.mpr k0, if_pos (show nI 0 = 0 from rfl)]
    · have k0 : kd n tx p ≠ 0 := fun x => by have := kd0.mp x; omega
      have t4 := tk_le (n := n) (p := p) (tx := tx)
      have n0 : ¬ nI (tk n tx p) = 0 := fun x => k0 (tk_0.mp ((nI_eq (b := 0) (by omega) (by decide)).mp x))
      obtain ⟨μ1, e1, ν1, kc1, km1, res⟩ := j_item (g := g) (x1 := nI c) hn htx hp hS h4 hX hK hJ
      have st : ∀ μ2, fX5_skipBlanks μ1 = some μ2 → fX5_readInto_18 (f + 1) 28 (nI c) (nI c) μ = fX5_readInto_18 f 28 (nI (c + 1)) (nI (c + 1)) μ2 := by
        intro μ2 h2
        rw [fX5_readInto_18]
        dsimp only
        unfold fX5_readInto_49 fX5_readInto_60
        rw [hS.1, if_neg (nI_nlt (by omega) (by omega)), if_pos h4, if_neg c0, hS.2.1, if_neg (nI_ge (by omega) (by omega)), if_neg c0, e1, bs, bs, h2, bs, bs, nI_1]
      have sm : fX12_read_70 (g + 1) (nI c) ν = rdc g (nI c) (fX12_takesItem ν) := by
        rw [fX12_read_70]
        dsimp only
        rw [hK.2.2.1, if_neg n0]
        rfl
      rcases res with ⟨z1, q, pq, qn, a1, g1, K1, J1, M1⟩ | ⟨⟨q, qn, g1, M1⟩, e2, he2, a1⟩
      · have S1 := RS_kc kc1 hS a1
        have X1 := MX.km km1 hX
        obtain ⟨μ2, h2, o2, a2, b2⟩ := c_skip hn htx qn S1
        have tq := ta_le (tx := tx) qn
        obtain ⟨r, μ3, ν3, kc3, km3, e3, res3⟩ := ih f g (c + 1) (ta n tx q) z1 μ2 ν1 (by omega) tq.2 (by omega) (by omega) (ta_ta qn) (by omega) (by omega) (RS.to o2 S1 a2) X1 (by rw [b2 4 (by decide)]; exact g1) (LK_ta qn K1) (JZ.keep o2 rfl J1)
        refine ⟨r, μ3, ν3, kc1.tr (o2.kc.tr kc3), km1.tr km3, by rw [st μ2 h2]; exact e3, ?_⟩
        rw [sm, M1, nI_1]
        exact res3
      · have S1 := RS_kc kc1 hS a1
        obtain ⟨μ2, h2, o2, a2, b2⟩ := c_skip hn htx he2 S1
        obtain ⟨f, rfl⟩ : ∃ t, f = t + 1 := ⟨f - 1, by omega⟩
        have g2 : gF μ2 9 4 = nI q := by rw [b2 4 (by decide)]; exact g1
        refine ⟨nI (c + 1), μ2, ν1, kc1.tr o2.kc, km1, by rw [st μ2 h2]; exact c_over f (by omega) g2, Or.inr ⟨q, qn, g2, ?_⟩⟩
        rw [sm]; exact M1
theorem m_r112 {F : Nat → Int32} {r : Int32} : ∀ (d f i : Nat) (ν : Mem), d = 69 - i → i ≤ 69 → d < f → gA ν 112 = F → (∀ k, k < i → gA ν 99 k = F k) → ∃ g, fX12_read_112 f r (nI i) ν = some (r, sA ν 99 g) ∧ (∀ k, k < 69 → g k = F k)
  | 0, f, i, ν, hd, hi, hf, hF, h1 => by
    obtain ⟨f, rfl⟩ : ∃ g, f = g + 1 := ⟨f - 1, by omega⟩
    obtain rfl : i = 69 := by omega
    refine ⟨gA ν 99, ?_, h1⟩
    rw [fX12_read_112]
    dsimp only
    rw [if_pos (by decide), sA_self]
  | d + 1, f, i, ν, hd, hi, hf, hF, h1 => by
    obtain ⟨f, rfl⟩ : ∃ g, f = g + 1 := ⟨f - 1, by omega⟩
    obtain ⟨g, e, g1⟩ := m_r112 (F := F) (r := r) d f (i + 1) (sA ν 99 (upd (gA ν 99) i (F i))) (by omega) (by omega) (by omega) (by rw [gA_sn (by decide)]; exact hF) (fun k hk => by
      rw [gA_ss]
      by_cases c : k = i
      · rw [c, pk_us]
      · rw [pk_un (by omega)]; exact h1 k (by omega))
    refine ⟨g, ?_, g1⟩
    have c69 : ¬ (69 : Int32) ≤ nI i := nI_ge (a := i) (b := 69) (by omega) (by decide)
    rw [fX12_read_112]
    dsimp only
    rw [if_neg c69, rd_nI av_l112 (by omega) (by decide), hF, bs, wr_nI av_l99 (by omega) (by decide), bs, bs, nI_1, e, sA_sA]
theorem st_read : lw_st_read Iv := by
  intro i hi μ ν h
  obtain ⟨n, hn, x1, x2, x3⟩ := h.2.2.1
  obtain ⟨tx, htx, hc, hm⟩ : ∃ tx : Nat → Nat, (∀ k, k < n → tx k < 128) ∧ (∀ k, k < n → gA μ 10 k = nI (tx k)) ∧ (∀ k, k < n → gA ν 111 k = nI (tx k)) := by
    refine ⟨fun k => (gA μ 10 k).toNatClampNeg, fun k hk => ?_, fun k hk => ?_, fun k hk => ?_⟩
    · obtain ⟨c, h1, h2, h3⟩ := x3 k hk
      show (gA μ 10 k).toNatClampNeg < 128
      rw [h2, nI_clamp (by omega)]; exact h1
    · obtain ⟨c, h1, h2, h3⟩ := x3 k hk
      show gA μ 10 k = nI (gA μ 10 k).toNatClampNeg
      rw [h2, nI_clamp (by omega)]
    · obtain ⟨c, h1, h2, h3⟩ := x3 k hk
      show gA ν 111 k = nI (gA μ 10 k).toNatClampNeg
      rw [h2, nI_clamp (by omega)]; exact h3
  -- the draft anew
  obtain ⟨μ1, e1, o1, c1⟩ := c_anew (μ := μ) (b := 28) (Or.inr (Or.inl rfl))
  have S0 : RS (sF (sF μ1 9 2 0) 9 4 (-1)) n tx 0 := ⟨by rw [gF_sm (by omega), gF_sm (by omega), o1.1 9 1 (by omega)]; exact x1, by rw [gF_sm (by omega), gF_sF, if_pos rfl, if_pos rfl]; rfl, by rw [gA_sF, gA_sF, o1.2.2 10 (by omega)]; exact hc⟩
  have F0 : gF (sF (sF μ1 9 2 0) 9 4 (-1)) 9 4 = -1 := by rw [gF_sF, if_pos rfl, if_pos rfl]
  have R0 : RF μ1 (sF (sF μ1 9 2 0) 9 4 (-1)) := (RF.sF (by decide)).tr (RF.sF (by decide))
  have C0 : CR 28 (sF (sF μ1 9 2 0) 9 4 (-1)) zNew := RF.cr (by decide) R0 c1
  have kc0 : KC μ (sF (sF μ1 9 2 0) 9 4 (-1)) := o1.kc.tr R0.kc
  have in0 : fX5_readInto 28 μ = fX5_readInto_18 av_big 28 0 0 (sF (sF μ1 9 2 0) 9 4 (-1)) := by
    unfold fX5_readInto
    rw [e1, bs, bs, bs]
  generalize sF (sF μ1 9 2 0) 9 4 (-1) = μ2 at *
  have X0 : MX ν n tx := ⟨x2, hm⟩
  obtain ⟨ν1, f1, q1, K1⟩ := m_lookAt (p := 0) hn htx (Nat.zero_le _) X0
  rw [nI_0] at f1
  have X1 := MX.lo q1 X0
  have t0 := ta_le (tx := tx) (Nat.zero_le n)
  have E0 := tE_le (tx := tx) (Nat.zero_le n)
  -- the first word
  obtain ⟨μ3, e3, o3, a3, b3, g3⟩ := c_takeWord hn htx (Nat.zero_le n) S0
  rw [F0] at g3
  have S3 := RS.to o3 S0 a3
  have wEn : wE n tx 0 ≤ n := (ad_le t0.2).2
  obtain ⟨r0, u0, w0⟩ := c_wordIs (w := 0) hn htx (Nat.zero_le n) (by decide) a3 b3 S3.2.2
  obtain ⟨r1, u1, w1⟩ := c_wordIs (w := 1) hn htx (Nat.zero_le n) (by decide) a3 b3 S3.2.2
  obtain ⟨r2, u2, w2⟩ := c_wordIs (w := 2) hn htx (Nat.zero_le n) (by decide) a3 b3 S3.2.2
  obtain ⟨r3, u3, w3⟩ := c_wordIs (w := 3) hn htx (Nat.zero_le n) (by decide) a3 b3 S3.2.2
  obtain ⟨s0, v0, y0⟩ := m_isWord (w := 0) hn htx (Nat.zero_le n) (by decide) X1 K1 wd0
  rw [show nI (wn 0) = 8 from rfl] at v0
  have first : ∀ μ4 μ5, fX5_readItem 28 1 μ2 = some μ4 → fX5_skipBlanks μ4 = some μ5 → fX5_readInto 28 μ = fX5_readInto_18 999999 28 (nI 1) (nI 1) μ5 := by
    intro μ4 μ5 h4 h5
    rw [in0, show av_big = 999999 + 1 from rfl, fX5_readInto_18]
    dsimp only
    unfold fX5_readInto_49 fX5_readInto_60
    rw [S0.1, if_neg (nI_pos (by omega)), if_pos F0, if_pos rfl, if_pos rfl, h4, bs, bs, h5, bs, bs]
    rfl
  -- a fault
  have bad : ∀ (μ4 ν4 : Mem) (q e : Nat), fX5_readItem 28 1 μ2 = some μ4 → RF μ2 μ4 → KM ν ν4 → q ≤ n → gF μ4 9 4 = nI q → e ≤ n → gF μ4 9 2 = nI e → fX12_read ν = some (-10 - nI q, ν4) → ∃ (r : Int32) (μ' : Mem) (ν' : Mem), fX11_read μ = some (r, μ') ∧ fX12_read ν = some (r, ν') ∧ Iv (i + 5) μ' ν' := by
    intro μ4 ν4 q e h4 o4 km4 qn g4 en a4 hr
    obtain ⟨μ5, h5, o5, -, b5⟩ := c_skip hn htx en (RS.to o4 S0 a4)
    have g5 : gF μ5 9 4 = nI q := by rw [b5 4 (by decide)]; exact g4
    have ri : fX5_readInto 28 μ = some (nI 1, μ5) := by
      rw [first μ4 μ5 h4 h5, show 999999 = 999998 + 1 from rfl]
      exact c_over 999998 (by omega) g5
    refine ⟨-10 - nI q, μ5, ν4, ?_, hr, Iv_5 (Iv_keep (kc0.tr (o4.tr o5).kc) km4 h)⟩
    unfold fX11_read
    rw [ri, b2_some, g5, if_neg (m1_ne (by omega))]
  by_cases W0 : WI n tx 0 0
  · have z0 : r0 = 1 ∧ s0 = 1 := by
      refine ⟨?_, ?_⟩
      · rcases w0 with ⟨x, -⟩ | ⟨-, x⟩
        · exact x
        · exact absurd W0 x
      · rcases y0 with ⟨x, -⟩ | ⟨-, x⟩
        · exact x
        · exact absurd W0 x
    have z1 : r1 = 0 := by
      rcases w1 with ⟨-, x⟩ | ⟨x, -⟩
      · exact absurd x (WI_x W0 (by omega))
      · exact x
    have z2 : r2 = 0 := by
      rcases w2 with ⟨-, x⟩ | ⟨x, -⟩
      · exact absurd x (WI_x W0 (by omega))
      · exact x
    have z3 : r3 = 0 := by
      rcases w3 with ⟨-, x⟩ | ⟨x, -⟩
      · exact absurd x (WI_x W0 (by omega))
      · exact x
    have it : fX5_readItem 28 1 μ2 = fX5_readItem_90 μ3 := by
      unfold fX5_readItem
      rw [e3, bs, u0, bs, z0.1, if_pos rfl, u1, bs, z1, if_pos rfl, u2, bs, z2, if_pos rfl, u3, bs, z3, if_pos rfl, if_neg n10]
    rw [wE_1 W0.1] at a3 S3
    obtain ⟨c3, c4⟩ := c_end hn htx E0.2 S3 g3
    obtain ⟨ν2, f2, q2, K2⟩ := m_behind hn htx (Nat.zero_le n) X1 K1
    have X2 := MX.lo q2 X1
    have t1 := ta_le (tx := tx) E0.2
    have E1 := tE_le (tx := tx) E0.2
    have t4 := tk_le (n := n) (p := tE n tx 0) (tx := tx)
    by_cases k3 : kd n tx (tE n tx 0) = 3
    · obtain ⟨μ4, e4, o4, a4, g4⟩ := c3 k3
      obtain ⟨ν3, f3, q3, K3⟩ := m_behind hn htx E0.2 X2 K2
      have lt := tE_lt (tx := tx) E0.2 (by omega)
      obtain ⟨gg, f4, m4⟩ := m_begin (ν := ν3) av_l112 (by decide) (by decide)
      have it4 : fX5_readItem 28 1 μ2 = some μ4 := by
        rw [it]; unfold fX5_readItem_90; rw [e4, bs]
      have S4 := RS.to o4 S3 a4
      obtain ⟨μ5, h5, o5, a5, b5⟩ := c_skip hn htx E1.2 S4
      have t5 := ta_le (tx := tx) E1.2
      have X4 : MX (sA ν3 112 gg) n tx := MX.km (KM.sA (by decide)) (MX.lo q3 X2)
      have J5 : JZ i μ5 (sA ν3 112 gg) zNew := ⟨WZ_new, rfl, RF.cr (by decide) ((o3.tr o4).tr o5) C0, by rw [gA_ss]; exact m4⟩
      obtain ⟨r, μ6, ν6, kc6, km6, e6, res⟩ := j_loop (i := i) hn htx 150 999999 av_big 1 (ta n tx (tE n tx (tE n tx 0))) zNew μ5 (sA ν3 112 gg) (by omega) t5.2 (by omega) (by omega) (ta_ta E1.2) (by omega) (by show _ < 1000000; omega) (RS.to o5 S4 a5) X4 (by rw [b5 4 (by decide)]; exact g4) (LK_ta E1.2 K3) J5
      rw [← first μ4 μ5 it4 h5] at e6
      have km : KM ν ν6 := q1.km.tr (q2.km.tr (q3.km.tr ((KM.sA (by decide)).tr km6)))
      have kc : KC μ μ6 := kc0.tr (((o3.tr o4).tr o5).kc.tr kc6)
      have mr : fX12_read ν = fX12_read_70 av_big (nI 1) (sA ν3 112 gg) := by
        unfold fX12_read
        rw [f1, bs, v0, bs, z0.2, if_neg n10, f2, bs, K2.2.2.1, tk_3.mpr k3, if_pos (show nI 3 = 3 from rfl), f3, bs, f4, bs]
        rfl
      unfold fX11_read
      rw [e6, b2_some]
      rcases res with ⟨g6, z', J6, M6⟩ | ⟨q, qn, g6, M6⟩
      · obtain ⟨w6, p6, cr6, mr6⟩ := J6
        obtain ⟨μ7, e7, o7, c7⟩ := c_copyState (q := 14) (b := 28) (Or.inl rfl) (Or.inr (Or.inl rfl)) (by omega) w6.1 w6.2.2.2.1.1 w6.2.2.2.2.1 cr6
        obtain ⟨g7, f7, k7⟩ := m_r112 (F := gA ν6 112) (r := r) 69 av_big 0 ν6 rfl (by decide) (by decide) rfl (fun k hk => by omega)
        rw [nI_0] at f7
        rw [if_pos g6, e7, bs, mr, M6, f7]
        refine ⟨r, μ7, _, rfl, rfl, ?_⟩
        have h6 : Iv i μ6 ν6 := Iv_keep kc km h
        exact Iv_now h6 (by omega) o7.kd (KN.sA (by decide)) ⟨z', WZ_mono (by omega) w6, c7, by rw [gA_ss]; exact MR_69 mr6 k7 w6.1 w6.2.2.2.1.1 p6⟩
      · rw [g6, if_neg (m1_ne (by omega)), mr, M6]
        exact ⟨_, μ6, ν6, rfl, rfl, Iv_5 (Iv_keep kc km h)⟩
    · obtain ⟨μ4, e4, o4, g4, e, he, a4⟩ := c4 k3
      refine bad μ4 ν2 (ta n tx (tE n tx 0)) e ?_ (o3.tr o4) (q1.km.tr q2.km) t1.2 g4 he a4 ?_
      · rw [it]; unfold fX5_readItem_90; rw [e4, bs]
      · have n3 : ¬ nI (tk n tx (tE n tx 0)) = 3 := fun x => k3 (tk_3.mp ((nI_eq (b := 3) (by omega) (by decide)).mp x))
        unfold fX12_read
        rw [f1, bs, v0, bs, z0.2, if_neg n10, f2, bs, K2.2.2.1, if_neg n3, K2.1]
  · have z0 : r0 = 0 ∧ s0 = 0 := by
      refine ⟨?_, ?_⟩
      · rcases w0 with ⟨-, x⟩ | ⟨x, -⟩
        · exact absurd x W0
        · exact x
      · rcases y0 with ⟨-, x⟩ | ⟨x, -⟩
        · exact absurd x W0
        · exact x
    refine bad (sF μ3 9 4 (nI (ta n tx 0))) ν1 (ta n tx 0) (wE n tx 0) ?_ (o3.tr (RF.sF (by decide))) q1.km t0.2 (by rw [gF_sF, if_pos rfl, if_pos rfl]) wEn (by rw [gF_sm (by omega)]; exact a3) ?_
    · unfold fX5_readItem
      rw [e3, bs, u0, bs, z0.1, if_neg (show ¬ (0 : Int32) = 1 by decide), b3, bs]
      unfold fX5_readItem_90
      rw [c_endX (q := ta n tx 0) (by omega) (by rw [gF_sF, if_pos rfl, if_pos rfl]), bs]
    · unfold fX12_read
      rw [f1, bs, v0, bs, z0.2, if_pos rfl, K1.1]
