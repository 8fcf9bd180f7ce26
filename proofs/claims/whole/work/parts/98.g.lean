/-! read: items, both sides; the step. -/
theorem vl_b {n p : Nat} {tx : Nat → Nat} (htx : ∀ k, k < n → tx k < 128) (hp : p ≤ n) : vl n tx p < 1000 := by
  have ee := tE_le (tx := tx) hp
  unfold vl
  split
  · exact dv_b htx _ (by omega)
  · omega
theorem nk_b {n p lo hi : Nat} {tx : Nat → Nat} (htx : ∀ k, k < n → tx k < 128) (hp : p ≤ n) (hl : lo < 1000) (hh : hi < 1000) (h : NK n tx p (nI lo) (nI hi)) : lo ≤ vl n tx p ∧ vl n tx p ≤ hi := by
  have v := vl_b htx hp
  obtain ⟨-, h1, h2⟩ := h
  rw [nI_leI (by omega) (by omega)] at h1 h2
  exact ⟨h1, h2⟩
theorem MR_69 {f g : Nat → Int32} {z : Sd} (h : MR f z) (e : ∀ k, k < 69 → g k = f k) (hw : WT (zT z)) (h6 : zN z ≤ 6) (h0 : zP z = 0) : MR g z := by
  have l8 := hw.1
  have v6 := hw.2.1
  obtain ⟨⟨t1, t2, t3, t4⟩, ⟨s1, s2, s3, s4⟩, ⟨n1, n2⟩, p1, p2⟩ := h
  refine ⟨⟨?_, ?_, fun k hk => ?_, fun v hv => ?_⟩, ⟨fun k hk => ?_, ?_, ?_, ?_⟩, ⟨?_, fun j hj => ?_⟩, ?_, fun p hp => by omega⟩
  · rw [e 0 (by omega)]; exact t1
  · rw [e 1 (by omega)]; exact t2
  · rw [e _ (by omega), e _ (by omega)]; exact t3 k hk
  · rw [e _ (by omega), e _ (by omega), e _ (by omega)]; exact t4 v hv
  · rw [e _ (by omega), e _ (by omega)]; exact s1 k hk
  · rw [e 2 (by omega)]; exact s2
  · rw [e 5 (by omega)]; exact s3
  · rw [e 6 (by omega)]; exact s4
  · rw [e 3 (by omega)]; exact n1
  · rw [e _ (by omega), e _ (by omega)]; exact n2 j hj
  · rw [e 4 (by omega)]; exact p1
/-- the draft of both -/
def JZ (i : Nat) (μ ν : Mem) (z : Sd) : Prop := WZ i z ∧ zP z = 0 ∧ CR 28 μ z ∧ MR (gA ν 112) z
theorem JZ.keep {i : Nat} {μ μ' ν ν' : Mem} {z : Sd} (h1 : RF μ μ') (h2 : gA ν' 112 = gA ν 112) (h : JZ i μ ν z) : JZ i μ' ν' z := ⟨h.1, h.2.1, RF.cr (by decide) h1 h.2.2.1, by rw [h2]; exact h.2.2.2⟩
theorem j_addL {i : Nat} {μ ν : Mem} {z : Sd} {H S : Nat} {d : Option Nat} (hJ : JZ i μ ν z) (hL : tL (zT z) < 8) (hH : 1 ≤ H ∧ H ≤ 60) (hd : ∀ u, d = some u → u < tL (zT z)) : ∃ r μ' g, fX8_addLedge 28 (nI H) (nI S) (bI d) μ = some (r, μ') ∧ BO 28 μ μ' ∧ fX12_layLedge 112 (nI H) (nI S) (bI d) ν = some (sA ν 112 g) ∧ JZ i μ' (sA ν 112 g) (zled z H S d) := by
  obtain ⟨w, p0, c, m⟩ := hJ
  obtain ⟨μ', e1, o1, c1⟩ := c_addLedge (H := H) (S := S) (d := d) (show SB 28 from Or.inr (Or.inl rfl)) c hL
  have e2 := m_layLedge (ν := ν) (h := nI H) (s := nI S) (d := bI d) av_l112 (by decide) (by decide) m.1.1 hL
  have m1 := MR_led (H := H) (S := S) (d := d) m hL w.1.2.1 w.2.2.2.1.1
  have eu : upd (rled (gA ν 112) (tL (zT z)) (nI H) (nI S) (bI d)) 4 0 = rled (gA ν 112) (tL (zT z)) (nI H) (nI S) (bI d) := by
    funext k
    by_cases e : k = 4
    · rw [e, pk_us]
      unfold rled
      rw [pk_un (by omega), pk_un (by omega), pk_un (by omega), pk_un (by omega), pk_un (by omega), m.2.2.2.1, p0]
      rfl
    · rw [pk_un e]
  rw [eu] at m1
  exact ⟨_, μ', _, e1, o1, e2, WZ_led w hL hH hd, rfl, c1, by rw [gA_ss]; exact m1⟩
theorem j_addV {i : Nat} {μ ν : Mem} {z : Sd} {K G S : Nat} (hJ : JZ i μ ν z) (hV : tV (zT z) < 6) (hK : K < 6) (hG : G < tL (zT z)) (hS : 1 ≤ S ∧ S ≤ 9) : ∃ r μ' g, fX8_addVoter 28 (nI K) (nI G) (nI S) μ = some (r, μ') ∧ BO 28 μ μ' ∧ fX12_layVoter 112 (nI K) (nI G) (nI S) ν = some (sA ν 112 g) ∧ JZ i μ' (sA ν 112 g) (zvot z K G S) := by
  obtain ⟨w, p0, c, m⟩ := hJ
  obtain ⟨μ', e1, o1, c1⟩ := c_addVoter (K := K) (G := G) (S := S) (show SB 28 from Or.inr (Or.inl rfl)) c hV
  have e2 := m_layVoter (ν := ν) (k := nI K) (g := nI G) (s := nI S) av_l112 (by decide) (by decide) m.1.2.1 hV
  have m1 := MR_vot (K := K) (G := G) (S := S) m w.1.1 hV w.2.2.2.1.1
  have eu : upd (rvot (gA ν 112) (tV (zT z)) (nI K) (nI G) (nI S)) 4 0 = rvot (gA ν 112) (tV (zT z)) (nI K) (nI G) (nI S) := by
    funext k
    by_cases e : k = 4
    · rw [e, pk_us]
      unfold rvot
      rw [pk_un (by omega), pk_un (by omega), pk_un (by omega), pk_un (by omega), m.2.2.2.1, p0]
      rfl
    · rw [pk_un e]
  rw [eu] at m1
  exact ⟨_, μ', _, e1, o1, e2, WZ_vot w hV hK hG hS, rfl, c1, by rw [gA_ss]; exact m1⟩
/-- behind the numbers of an item -/
def Jmid (n : Nat) (tx : Nat → Nat) (i p : Nat) (μ ν : Mem) (r : Int32) (μ' ν' : Mem) : Prop := KC μ μ' ∧ KM ν ν' ∧ ((r = 1 ∧ ∃ z' q, p ≤ q ∧ q ≤ n ∧ gF μ' 9 2 = nI q ∧ gF μ' 9 4 = -1 ∧ LK n tx ν' q ∧ JZ i μ' ν' z') ∨ (r = 0 ∧ (∃ q, q ≤ n ∧ gF μ' 9 4 = nI q ∧ gF ν' 98 23 = nI q) ∧ ∃ e, e ≤ n ∧ gF μ' 9 2 = nI e))
theorem c28 {μ : Mem} {z : Sd} (h : CR 28 μ z) : gF μ (av_rf 28 0) 1 = nI (tL (zT z)) ∧ gF μ (av_rf 28 0) 4 = nI (tV (zT z)) := by
  rw [(SB_f (show SB 28 from Or.inr (Or.inl rfl))).1.1]
  exact ⟨h.1.1, h.1.2.1⟩
theorem rd3 {ν : Mem} {j : Nat} {x : Int32} (hx : x = nI j) (hj : j < 3) : rd ν 113 x = some (gA ν 113 j) := by rw [hx]; exact rd_nI av_l113 hj (by decide)
theorem j_ledge {n p i b : Nat} {tx : Nat → Nat} {μ ν : Mem} {z : Sd} (hn : n ≤ 150) (htx : ∀ k, k < n → tx k < 128) (hp : p ≤ n) (hb : b = 0 ∨ b = 1) (hS : RS μ n tx (tE n tx p)) (h3 : gF μ 9 3 = nI (ta n tx p)) (h4 : gF μ 9 4 = -1) (hX : MX ν n tx) (hK : LK n tx ν p) (hJ : JZ i μ ν z) : ∃ r μ' ν', fX5_readLedge 28 (nI b) μ = some μ' ∧ fX12_takesLedge (nI b) ν = some (r, ν') ∧ Jmid n tx i (tE n tx p) μ ν r μ' ν' := by
  have t0 := ta_le (tx := tx) hp
  have E0 := tE_le (tx := tx) hp
  have l8 := hJ.1.1.1
  have r0 : rd ν 112 0 = some (nI (tL (zT z))) := by rw [show (0 : Int32) = nI 0 from rfl, rd_nI av_l112 (by decide) (by decide), hJ.2.2.2.1.1]
  unfold fX5_readLedge fX12_takesLedge
  rw [(c28 hJ.2.2.1).1, r0]
  simp only [bs]
  by_cases cL : tL (zT z) < 8
  · have c8 : nI (tL (zT z)) < 8 := nI_lt (b := 8) cL (by decide)
    have c8' : ¬ nI (tL (zT z)) = 8 := fun e => by rw [show (8 : Int32) = nI 8 from rfl, nI_eq (by omega) (by decide)] at e; omega
    rw [if_pos c8, if_neg c8']
    obtain ⟨ν1, f1, q1, K1⟩ := m_behind hn htx hp hX hK
    have X1 := MX.lo q1 hX
    rw [f1, bs]
    generalize hp1 : tE n tx p = p1 at *
    have t1 := ta_le (tx := tx) E0.2
    have E1 := tE_le (tx := tx) E0.2
    obtain ⟨n1a, n1b⟩ := c_num (lo := 1) (hi := 60) hn htx E0.2 hS h4
    obtain ⟨m1a, m1b⟩ := m_takes (j := 0) (lo := 1) (hi := 60) hn htx E0.2 (by decide) X1 K1
    rw [nI_0] at m1a m1b
    by_cases N1 : NK n tx p1 1 60
    · obtain ⟨μ1, e1, o1, a1, g1⟩ := n1a N1
      obtain ⟨ν2, f2, q2, K2, A2, B2⟩ := m1a N1
      have S1 := RS.to o1 hS a1
      have X2 := MX.km q2 X1
      have v1 := nk_b (lo := 1) (hi := 60) htx E0.2 (by decide) (by decide) N1
      rw [e1, b2_some, f2, b2_some, if_neg n10]
      have t2 := ta_le (tx := tx) E1.2
      have E2 := tE_le (tx := tx) E1.2
      obtain ⟨n2a, n2b⟩ := c_num (lo := 0) (hi := 30) hn htx E1.2 S1 g1
      obtain ⟨m2a, m2b⟩ := m_takes (j := 1) (lo := 0) (hi := 30) hn htx E1.2 (by decide) X2 K2
      rw [show nI 1 = 1 from rfl] at m2a m2b
      by_cases N2 : NK n tx (tE n tx p1) 0 30
      · obtain ⟨μ2, e2, o2, a2, g2⟩ := n2a N2
        obtain ⟨ν3, f3, q3, K3, A3, B3⟩ := m2a N2
        have S2 := RS.to o2 S1 a2
        have X3 := MX.km q3 X2
        have J3 : JZ i μ2 ν3 z := JZ.keep (o1.tr o2) (by rw [A3 112 (by decide), A2 112 (by decide), q1.2.2]) hJ
        have w0 : gA ν3 113 0 = nI (vl n tx p1) := by rw [B3, pk_un (by decide), B2, pk_us]
        have w1 : gA ν3 113 1 = nI (vl n tx (tE n tx p1)) := by rw [B3, pk_us]
        have km3 : KM ν ν3 := q1.km.tr (q2.tr q3)
        rw [e2, b2_some, f3, b2_some, if_neg n10]
        have t3 := ta_le (tx := tx) E2.2
        have E3 := tE_le (tx := tx) E2.2
        unfold fX5_readLedge_60 fX12_takesLedge_62 fX12_takesLedge_92
        rcases hb with rfl | rfl
        · rw [nI_0, if_pos rfl, if_pos rfl, if_pos g2, rd3 (j := 0) (x := 0) rfl (by decide), w0, bs, rd3 (j := 1) (x := 1) rfl (by decide), w1, bs, if_pos rfl]
          obtain ⟨r, μ3, g, x1, x2, x3, x4⟩ := j_addL (H := vl n tx p1) (S := vl n tx (tE n tx p1)) (d := none) J3 cL v1 (fun u hu => by cases hu)
          rw [show bI none = -1 from rfl] at x1 x3
          rw [x1, b2_some, x3, bs]
          refine ⟨1, μ3, _, rfl, rfl, (o1.tr o2).kc.tr x2.kc, km3.tr (KM.sA (by decide)), Or.inl ⟨rfl, _, tE n tx (tE n tx p1), by omega, E2.2, ?_, ?_, K3, x4⟩⟩
          · rw [x2.1 9 2 (by omega)]; exact a2
          · rw [x2.1 9 4 (by omega)]; exact g2
        · have b10 : ¬ nI 1 = 0 := by decide
          have r1 : rd ν3 112 0 = some (nI (tL (zT z))) := by rw [show (0 : Int32) = nI 0 from rfl, rd_nI av_l112 (by decide) (by decide), J3.2.2.2.1.1]
          rw [if_neg b10, if_neg b10, (c28 J3.2.2.1).1, r1, bs]
          obtain ⟨n3a, n3b⟩ := c_num (lo := 0) (hi := nI (tL (zT z)) - 1) hn htx E2.2 S2 g2
          obtain ⟨m3a, m3b⟩ := m_takes (j := 2) (lo := 0) (hi := nI (tL (zT z)) - 1) hn htx E2.2 (by decide) X3 K3
          rw [show nI 2 = 2 from rfl] at m3a m3b
          by_cases N3 : NK n tx (tE n tx (tE n tx p1)) 0 (nI (tL (zT z)) - 1)
          · obtain ⟨μ3, e3, o3, a3, g3⟩ := n3a N3
            obtain ⟨ν4, f4, q4, K4, A4, B4⟩ := m3a N3
            have J4 : JZ i μ3 ν4 z := JZ.keep o3 (A4 112 (by decide)) J3
            obtain ⟨u, hu, eu⟩ := ix_out (a := nI (vl n tx (tE n tx (tE n tx p1)))) (n := tL (zT z)) (by omega) N3.2
            have vb := vl_b htx E2.2
            have evu : vl n tx (tE n tx (tE n tx p1)) = u := (nI_eq (by omega) (by omega)).mp eu
            have y0 : gA ν4 113 0 = nI (vl n tx p1) := by rw [B4, pk_un (by decide)]; exact w0
            have y1 : gA ν4 113 1 = nI (vl n tx (tE n tx p1)) := by rw [B4, pk_un (by decide)]; exact w1
            have y2 : gA ν4 113 2 = nI (vl n tx (tE n tx (tE n tx p1))) := by rw [B4, pk_us]
            rw [e3, b2_some, if_pos g3, f4, b2_some, if_neg n10, rd3 (j := 0) (x := 0) rfl (by decide), y0, bs, rd3 (j := 1) (x := 1) rfl (by decide), y1, bs, if_neg b10, rd3 (j := 2) (x := 2) rfl (by decide), y2, bs]
            obtain ⟨r, μ4, g, x1, x2, x3, x4⟩ := j_addL (H := vl n tx p1) (S := vl n tx (tE n tx p1)) (d := some (vl n tx (tE n tx (tE n tx p1)))) J4 cL v1 (fun u' hu' => by cases hu'; omega)
            rw [show bI (some (vl n tx (tE n tx (tE n tx p1)))) = nI (vl n tx (tE n tx (tE n tx p1))) from rfl] at x1 x3
            rw [x1, b2_some, x3, bs]
            refine ⟨1, μ4, _, rfl, rfl, (o1.tr (o2.tr o3)).kc.tr x2.kc, (km3.tr q4).tr (KM.sA (by decide)), Or.inl ⟨rfl, _, tE n tx (tE n tx (tE n tx p1)), by omega, E3.2, ?_, ?_, K4, x4⟩⟩
            · rw [x2.1 9 2 (by omega)]; exact a3
            · rw [x2.1 9 4 (by omega)]; exact g3
          · obtain ⟨r3, μ3, e3, o3, g3, a3⟩ := n3b N3
            have f4 := m3b N3
            have nf : ¬ gF μ3 9 4 = -1 := by rw [g3]; exact m1_ne (by omega)
            unfold fX12_takesLedge_60
            rw [e3, b2_some, if_neg nf, f4, b2_some, if_pos rfl]
            exact ⟨0, μ3, ν3, rfl, rfl, (o1.tr (o2.tr o3)).kc, km3, Or.inr ⟨rfl, ⟨_, by omega, g3, K3.1⟩, a3⟩⟩
      · obtain ⟨r2, μ2, e2, o2, g2, a2⟩ := n2b N2
        have f3 := m2b N2
        have nf : ¬ gF μ2 9 4 = -1 := by rw [g2]; exact m1_ne (by omega)
        unfold fX5_readLedge_60 fX12_takesLedge_60
        rw [e2, b2_some, if_neg nf, f3, b2_some, if_pos rfl, c_numX (by omega) g2, b2_some, if_neg nf, ite_self]
        exact ⟨0, μ2, ν2, rfl, rfl, (o1.tr o2).kc, q1.km.tr q2, Or.inr ⟨rfl, ⟨_, by omega, g2, K2.1⟩, a2⟩⟩
    · obtain ⟨r1, μ1, e1, o1, g1, a1⟩ := n1b N1
      have f2 := m1b N1
      have nf : ¬ gF μ1 9 4 = -1 := by rw [g1]; exact m1_ne (by omega)
      unfold fX5_readLedge_60 fX12_takesLedge_60
      rw [e1, b2_some, f2, b2_some, if_pos rfl, c_numX (by omega) g1, b2_some, if_neg nf, c_numX (by omega) g1, b2_some, if_neg nf, ite_self]
      exact ⟨0, μ1, ν1, rfl, rfl, o1.kc, q1.km, Or.inr ⟨rfl, ⟨_, by omega, g1, K1.1⟩, a1⟩⟩
  · have e8 : tL (zT z) = 8 := by omega
    rw [e8, if_neg (by decide), if_pos (by decide), h3]
    exact ⟨0, _, ν, rfl, rfl, (RF.sF (k := 4) (by decide)).kc, KM.rf, Or.inr ⟨rfl, ⟨_, t0.2, by rw [gF_sF, if_pos rfl, if_pos rfl], hK.1⟩, _, E0.2, by rw [gF_sm (by omega)]; exact hS.2.1⟩⟩
theorem j_voter {n p i : Nat} {tx : Nat → Nat} {μ ν : Mem} {z : Sd} (hn : n ≤ 150) (htx : ∀ k, k < n → tx k < 128) (hp : p ≤ n) (hS : RS μ n tx (tE n tx p)) (h3 : gF μ 9 3 = nI (ta n tx p)) (h4 : gF μ 9 4 = -1) (hX : MX ν n tx) (hK : LK n tx ν p) (hJ : JZ i μ ν z) : ∃ r μ' ν', fX5_readVoter 28 μ = some μ' ∧ fX12_takesVoter ν = some (r, ν') ∧ Jmid n tx i (tE n tx p) μ ν r μ' ν' := by
  have t0 := ta_le (tx := tx) hp
  have E0 := tE_le (tx := tx) hp
  have l8 := hJ.1.1.1
  have v6 := hJ.1.1.2.1
  have r0 : rd ν 112 1 = some (nI (tV (zT z))) := by rw [show (1 : Int32) = nI 1 from rfl, rd_nI av_l112 (by decide) (by decide), hJ.2.2.2.1.2.1]
  unfold fX5_readVoter fX12_takesVoter
  rw [(c28 hJ.2.2.1).2, r0]
  simp only [bs]
  by_cases cV : tV (zT z) < 6
  · have c6 : nI (tV (zT z)) < 6 := nI_lt (b := 6) cV (by decide)
    have c6' : ¬ nI (tV (zT z)) = 6 := fun e => by rw [show (6 : Int32) = nI 6 from rfl, nI_eq (by omega) (by decide)] at e; omega
    rw [if_pos c6, if_neg c6']
    obtain ⟨ν1, f1, q1, K1⟩ := m_behind hn htx hp hX hK
    have X1 := MX.lo q1 hX
    rw [f1, bs]
    generalize hp1 : tE n tx p = p1 at *
    have t1 := ta_le (tx := tx) E0.2
    have E1 := tE_le (tx := tx) E0.2
    obtain ⟨n1a, n1b⟩ := c_num (lo := 0) (hi := 5) hn htx E0.2 hS h4
    obtain ⟨m1a, m1b⟩ := m_takes (j := 0) (lo := 0) (hi := 5) hn htx E0.2 (by decide) X1 K1
    rw [nI_0] at m1a m1b
    unfold fX12_takesVoter_55
    by_cases N1 : NK n tx p1 0 5
    · obtain ⟨μ1, e1, o1, a1, g1⟩ := n1a N1
      obtain ⟨ν2, f2, q2, K2, A2, B2⟩ := m1a N1
      have S1 := RS.to o1 hS a1
      have X2 := MX.km q2 X1
      have J2 : JZ i μ1 ν2 z := JZ.keep o1 (by rw [A2 112 (by decide), q1.2.2]) hJ
      have v1 := nk_b (lo := 0) (hi := 5) htx E0.2 (by decide) (by decide) N1
      have r1 : rd ν2 112 0 = some (nI (tL (zT z))) := by rw [show (0 : Int32) = nI 0 from rfl, rd_nI av_l112 (by decide) (by decide), J2.2.2.2.1.1]
      rw [e1, b2_some, f2, b2_some, if_neg n10, (c28 J2.2.2.1).1, r1, bs]
      have t2 := ta_le (tx := tx) E1.2
      have E2 := tE_le (tx := tx) E1.2
      obtain ⟨n2a, n2b⟩ := c_num (lo := 0) (hi := nI (tL (zT z)) - 1) hn htx E1.2 S1 g1
      obtain ⟨m2a, m2b⟩ := m_takes (j := 1) (lo := 0) (hi := nI (tL (zT z)) - 1) hn htx E1.2 (by decide) X2 K2
      rw [show nI 1 = 1 from rfl] at m2a m2b
      by_cases N2 : NK n tx (tE n tx p1) 0 (nI (tL (zT z)) - 1)
      · obtain ⟨μ2, e2, o2, a2, g2⟩ := n2a N2
        obtain ⟨ν3, f3, q3, K3, A3, B3⟩ := m2a N2
        have S2 := RS.to o2 S1 a2
        have X3 := MX.km q3 X2
        have km3 : KM ν ν3 := q1.km.tr (q2.tr q3)
        obtain ⟨u, hu, eu⟩ := ix_out (a := nI (vl n tx (tE n tx p1))) (n := tL (zT z)) (by omega) N2.2
        have vb := vl_b htx E1.2
        have evu : vl n tx (tE n tx p1) = u := (nI_eq (by omega) (by omega)).mp eu
        rw [e2, b2_some, f3, b2_some, if_neg n10]
        have t3 := ta_le (tx := tx) E2.2
        have E3 := tE_le (tx := tx) E2.2
        obtain ⟨n3a, n3b⟩ := c_num (lo := 1) (hi := 9) hn htx E2.2 S2 g2
        obtain ⟨m3a, m3b⟩ := m_takes (j := 2) (lo := 1) (hi := 9) hn htx E2.2 (by decide) X3 K3
        rw [show nI 2 = 2 from rfl] at m3a m3b
        by_cases N3 : NK n tx (tE n tx (tE n tx p1)) 1 9
        · obtain ⟨μ3, e3, o3, a3, g3⟩ := n3a N3
          obtain ⟨ν4, f4, q4, K4, A4, B4⟩ := m3a N3
          have J4 : JZ i μ3 ν4 z := JZ.keep (o2.tr o3) (by rw [A4 112 (by decide), A3 112 (by decide)]) J2
          have v3 := nk_b (lo := 1) (hi := 9) htx E2.2 (by decide) (by decide) N3
          have y0 : gA ν4 113 0 = nI (vl n tx p1) := by rw [B4, pk_un (by decide), B3, pk_un (by decide), B2, pk_us]
          have y1 : gA ν4 113 1 = nI (vl n tx (tE n tx p1)) := by rw [B4, pk_un (by decide), B3, pk_us]
          have y2 : gA ν4 113 2 = nI (vl n tx (tE n tx (tE n tx p1))) := by rw [B4, pk_us]
          obtain ⟨r, μ4, g, x1, x2, x3, x4⟩ := j_addV (K := vl n tx p1) (G := vl n tx (tE n tx p1)) (S := vl n tx (tE n tx (tE n tx p1))) J4 cV (by omega) (by omega) v3
          rw [e3, b2_some, if_pos g3, f4, b2_some, if_neg n10, rd3 (j := 0) (x := 0) rfl (by decide), y0, bs, rd3 (j := 1) (x := 1) rfl (by decide), y1, bs, rd3 (j := 2) (x := 2) rfl (by decide), y2, bs, x1, b2_some, x3, bs]
          refine ⟨1, μ4, _, rfl, rfl, (o1.tr (o2.tr o3)).kc.tr x2.kc, (km3.tr q4).tr (KM.sA (by decide)), Or.inl ⟨rfl, _, tE n tx (tE n tx (tE n tx p1)), by omega, E3.2, ?_, ?_, K4, x4⟩⟩
          · rw [x2.1 9 2 (by omega)]; exact a3
          · rw [x2.1 9 4 (by omega)]; exact g3
        · obtain ⟨r3, μ3, e3, o3, g3, a3⟩ := n3b N3
          have f4 := m3b N3
          have nf : ¬ gF μ3 9 4 = -1 := by rw [g3]; exact m1_ne (by omega)
          rw [e3, b2_some, if_neg nf, f4, b2_some, if_pos rfl]
          exact ⟨0, μ3, ν3, rfl, rfl, (o1.tr (o2.tr o3)).kc, km3, Or.inr ⟨rfl, ⟨_, by omega, g3, K3.1⟩, a3⟩⟩
      · obtain ⟨r2, μ2, e2, o2, g2, a2⟩ := n2b N2
        have f3 := m2b N2
        have nf : ¬ gF μ2 9 4 = -1 := by rw [g2]; exact m1_ne (by omega)
        rw [e2, b2_some, c_numX (by omega) g2, b2_some, if_neg nf, f3, b2_some, if_pos rfl]
        exact ⟨0, μ2, ν2, rfl, rfl, (o1.tr o2).kc, q1.km.tr q2, Or.inr ⟨rfl, ⟨_, by omega, g2, K2.1⟩, a2⟩⟩
    · obtain ⟨r1, μ1, e1, o1, g1, a1⟩ := n1b N1
      have f2 := m1b N1
      have nf : ¬ gF μ1 9 4 = -1 := by rw [g1]; exact m1_ne (by omega)
      rw [e1, b2_some, c_numX (by omega) g1, b2_some, c_numX (by omega) g1, b2_some, if_neg nf, f2, b2_some, if_pos rfl]
      exact ⟨0, μ1, ν1, rfl, rfl, o1.kc, q1.km, Or.inr ⟨rfl, ⟨_, by omega, g1, K1.1⟩, a1⟩⟩
  · have e6 : tV (zT z) = 6 := by omega
    rw [e6, if_neg (by decide), if_pos (by decide), h3]
    exact ⟨0, _, ν, rfl, rfl, (RF.sF (k := 4) (by decide)).kc, KM.rf, Or.inr ⟨rfl, ⟨_, t0.2, by rw [gF_sF, if_pos rfl, if_pos rfl], hK.1⟩, _, E0.2, by rw [gF_sm (by omega)]; exact hS.2.1⟩⟩
/-- what the reference does with an item's answer -/
def rdc (g : Nat) (x1 : Int32) (o : Option (Int32 × Mem)) : Option (Int32 × Mem) := av_b2 o fun r78 μ78 => if r78 = 0 then (fX12_read_92 μ78) else (if (gF μ78 98 25) = 3 then ((fX12_goBehind μ78).bind fun μ101 => (some (x1 + 1)).bind fun x1_104 => fX12_read_70 g x1_104 μ101) else (fX12_read_92 μ78))
def Jout (n : Nat) (tx : Nat → Nat) (i g : Nat) (x1 : Int32) (p : Nat) (μ ν μ' : Mem) (M : Option (Int32 × Mem)) : Prop := ∃ ν', KC μ μ' ∧ KM ν ν' ∧ ((∃ z' q, p < q ∧ q ≤ n ∧ gF μ' 9 2 = nI q ∧ gF μ' 9 4 = -1 ∧ LK n tx ν' q ∧ JZ i μ' ν' z' ∧ M = fX12_read_70 g (x1 + 1) ν') ∨ ((∃ q, q ≤ n ∧ gF μ' 9 4 = nI q ∧ M = some (-10 - nI q, ν')) ∧ ∃ e, e ≤ n ∧ gF μ' 9 2 = nI e))
theorem tk_le {n p : Nat} {tx : Nat → Nat} : tk n tx p ≤ 4 := by
  unfold tk
  split
  · omega
  · unfold kd
    split
    · omega
    · split
      · omega
      · split
        · omega
        · split <;> omega
theorem tk_3 {n p : Nat} {tx : Nat → Nat} : tk n tx p = 3 ↔ kd n tx p = 3 := by
  unfold tk
  constructor
  · intro h
    split at h
    · cases h
    · exact h
  · intro h; rw [if_neg (by omega)]; exact h
theorem tk_0 {n p : Nat} {tx : Nat → Nat} : tk n tx p = 0 ↔ kd n tx p = 0 := by
  unfold tk
  constructor
  · intro h
    split at h
    · cases h
    · exact h
  · intro h; rw [if_neg (by omega)]; exact h
theorem RS_kc {μ μ' : Mem} {n p q : Nat} {tx : Nat → Nat} (h : KC μ μ') (hS : RS μ n tx p) (hq : gF μ' 9 2 = nI q) : RS μ' n tx q := ⟨by rw [h.1 9 1 (by omega) (by omega) (by omega) (fun _ => rfl)]; exact hS.1, hq, by rw [h.2.2 10 (by omega) (by omega) (by omega)]; exact hS.2.2⟩
theorem j_fin {n i g p p0 : Nat} {tx : Nat → Nat} {x1 r : Int32} {μ ν μ2 ν2 : Mem} (hn : n ≤ 150) (htx : ∀ k, k < n → tx k < 128) (hS : RS μ n tx p0) (hX : MX ν n tx) (h : Jmid n tx i p μ ν r μ2 ν2) : ∃ μ', fX5_readItem_90 μ2 = some μ' ∧ Jout n tx i g x1 p μ ν μ' (rdc g x1 (some (r, ν2))) := by
  obtain ⟨kc, km, h⟩ := h
  unfold fX5_readItem_90 rdc
  rw [b2_some]
  rcases h with ⟨rfl, z, q, pq, qn, a2, g4, K, J⟩ | ⟨rfl, ⟨q, qn, g4, k23⟩, e, he, a2⟩
  · have S2 := RS_kc kc hS a2
    have X2 := MX.km km hX
    have tq := ta_le (tx := tx) qn
    obtain ⟨c3, c4⟩ := c_end hn htx qn S2 g4
    rw [if_neg n10, K.2.2.1]
    by_cases c : kd n tx q = 3
    · obtain ⟨μ3, e3, o3, a3, g3⟩ := c3 c
      obtain ⟨ν3, f3, q3, K3⟩ := m_behind hn htx qn X2 K
      have lt := tE_lt (tx := tx) qn (by omega)
      have E := tE_le (tx := tx) qn
      refine ⟨μ3, by rw [e3, bs], ν3, kc.tr o3.kc, km.tr q3.km, Or.inl ⟨z, tE n tx q, by omega, E.2, a3, g3, K3, JZ.keep o3 (by rw [q3.2.2]) J, ?_⟩⟩
      rw [tk_3.mpr c, if_pos (show nI 3 = 3 from rfl), f3, bs, bs]
    · obtain ⟨μ3, e3, o3, g3, a3⟩ := c4 c
      have t4 := tk_le (n := n) (p := q) (tx := tx)
      have n3 : ¬ nI (tk n tx q) = 3 := fun e => c (tk_3.mp ((nI_eq (b := 3) (by omega) (by decide)).mp e))
      refine ⟨μ3, by rw [e3, bs], ν2, kc.tr o3.kc, km, Or.inr ⟨⟨ta n tx q, tq.2, g3, ?_⟩, a3⟩⟩
      unfold fX12_read_92
      rw [if_neg n3, K.1]
  · rw [c_endX (by omega) g4, bs, if_pos rfl]
    refine ⟨μ2, rfl, ν2, kc, km, Or.inr ⟨⟨q, qn, g4, ?_⟩, e, he, a2⟩⟩
    unfold fX12_read_92
    rw [k23]
theorem wd1 : ∀ i, i < wn 1 → wsl 108 101 100 103 101 0 0 (nI i) = nI (wb 1 i) := by decide +kernel
theorem wd2 : ∀ i, i < wn 2 → wsl 98 101 108 111 119 0 0 (nI i) = nI (wb 2 i) := by decide +kernel
theorem wd3 : ∀ i, i < wn 3 → wsl 118 111 116 101 114 0 0 (nI i) = nI (wb 3 i) := by decide +kernel
theorem wd0 : ∀ i, i < wn 0 → wsl 109 111 117 110 116 97 13550 (nI i) = nI (wb 0 i) := by decide +kernel
theorem WI_x {n p w : Nat} {tx : Nat → Nat} (h : WI n tx p 0) (hw : w = 1 ∨ w = 2 ∨ w = 3) : ¬ WI n tx p w := by
  intro h2
  have h3 := h.2.1
  have h4 := h2.2.1
  rw [h3] at h4
  rcases hw with rfl | rfl | rfl <;> exact absurd h4 (by decide)
theorem z01 {r : Int32} {P : Prop} (h : (r = 1 ∧ P) ∨ (r = 0 ∧ ¬ P)) : av_z r = some r := by
  rcases h with ⟨rfl, -⟩ | ⟨rfl, -⟩ <;> rfl
theorem mid_z {n i p : Nat} {tx : Nat → Nat} {μ ν μ' ν' : Mem} {r : Int32} (h : Jmid n tx i p μ ν r μ' ν') : r = 1 ∨ r = 0 := by
  rcases h.2.2 with ⟨x, -⟩ | ⟨x, -⟩
  · exact Or.inl x
  · exact Or.inr x
theorem Jout_le {n i g p p' : Nat} {tx : Nat → Nat} {x1 : Int32} {μ ν μ1 μ' : Mem} {M : Option (Int32 × Mem)} (hp : p ≤ p') (hk : KC μ μ1) (h : Jout n tx i g x1 p' μ1 ν μ' M) : Jout n tx i g x1 p μ ν μ' M := by
  obtain ⟨ν', k1, k2, h⟩ := h
  refine ⟨ν', hk.tr k1, k2, ?_⟩
  rcases h with ⟨z, q, x1, x2⟩ | h
  · exact Or.inl ⟨z, q, by omega, x2⟩
  · exact Or.inr h
theorem j_item {n p i g : Nat} {tx : Nat → Nat} {x1 : Int32} {μ ν : Mem} {z : Sd} (hn : n ≤ 150) (htx : ∀ k, k < n → tx k < 128) (hp : p ≤ n) (hS : RS μ n tx p) (h4 : gF μ 9 4 = -1) (hX : MX ν n tx) (hK : LK n tx ν p) (hJ : JZ i μ ν z) : ∃ μ', fX5_readItem 28 0 μ = some μ' ∧ Jout n tx i g x1 p μ ν μ' (rdc g x1 (fX12_takesItem ν)) := by
  have t := ta_le (tx := tx) hp
  have E := tE_le (tx := tx) hp
  obtain ⟨μ1, e1, o1, a1, b1, g1⟩ := c_takeWord hn htx hp hS
  have S1 := RS.to o1 hS a1
  rw [h4] at g1
  have J1 : JZ i μ1 ν z := JZ.keep o1 rfl hJ
  have wEn : wE n tx p ≤ n := (ad_le t.2).2
  obtain ⟨r0, u0, w0⟩ := c_wordIs (w := 0) hn htx hp (by decide) a1 b1 S1.2.2
  obtain ⟨r1, u1, w1⟩ := c_wordIs (w := 1) hn htx hp (by decide) a1 b1 S1.2.2
  obtain ⟨r2, u2, w2⟩ := c_wordIs (w := 2) hn htx hp (by decide) a1 b1 S1.2.2
  obtain ⟨r3, u3, w3⟩ := c_wordIs (w := 3) hn htx hp (by decide) a1 b1 S1.2.2
  obtain ⟨s1, v1, y1⟩ := m_isWord (w := 1) hn htx hp (by decide) hX hK wd1
  obtain ⟨s2, v2, y2⟩ := m_isWord (w := 2) hn htx hp (by decide) hX hK wd2
  obtain ⟨s3, v3, y3⟩ := m_isWord (w := 3) hn htx hp (by decide) hX hK wd3
  rw [show nI (wn 1) = 5 from rfl] at v1
  rw [show nI (wn 2) = 5 from rfl] at v2
  rw [show nI (wn 3) = 5 from rfl] at v3
  -- no item at all
  have none : ∀ (_ : fX5_readItem 28 0 μ = fX5_readItem_90 (sF μ1 9 4 (gF μ1 9 3))) (_ : fX12_takesItem ν = some (0, ν)), ∃ μ', fX5_readItem 28 0 μ = some μ' ∧ Jout n tx i g x1 p μ ν μ' (rdc g x1 (fX12_takesItem ν)) := by
    intro q1 q2
    rw [q1, q2]
    refine j_fin hn htx hS hX ⟨(o1.tr (RF.sF (k := 4) (by decide))).kc, KM.rf, Or.inr ⟨rfl, ⟨ta n tx p, t.2, ?_, hK.1⟩, _, wEn, ?_⟩⟩
    · rw [gF_sF, if_pos rfl, if_pos rfl]; exact b1
    · rw [gF_sm (by omega)]; exact a1
  unfold fX5_readItem fX12_takesItem fX12_takesItem_83 at none
  unfold fX5_readItem fX12_takesItem fX12_takesItem_83
  rw [e1, bs, u0, bs, u1, bs, u2, bs, u3, bs, v1, bs, v2, bs, v3, bs, bs] at none
  rw [e1, bs, u0, bs, u1, bs, u2, bs, u3, bs, v1, bs, v2, bs, v3, bs, bs]
  by_cases W0 : WI n tx p 0
  · have z1 : s1 = 0 := by
      rcases y1 with ⟨-, x⟩ | ⟨x, -⟩
      · exact absurd x (WI_x W0 (by omega))
      · exact x
    have z2 : s2 = 0 := by
      rcases y2 with ⟨-, x⟩ | ⟨x, -⟩
      · exact absurd x (WI_x W0 (by omega))
      · exact x
    have z3 : s3 = 0 := by
      rcases y3 with ⟨-, x⟩ | ⟨x, -⟩
      · exact absurd x (WI_x W0 (by omega))
      · exact x
    have z0 : r0 = 1 := by
      rcases w0 with ⟨x, -⟩ | ⟨-, x⟩
      · exact x
      · exact absurd W0 x
    refine none ?_ ?_
    · rw [z0, if_neg n10]
    · rw [z1, z2, z3, if_pos rfl, if_pos rfl, if_pos rfl]
  · have z0 : r0 = 0 := by
      rcases w0 with ⟨-, x⟩ | ⟨x, -⟩
      · exact absurd x W0
      · exact x
    by_cases W1 : WI n tx p 1
    · have z1 : r1 = 1 ∧ s1 = 1 := by
        refine ⟨?_, ?_⟩
        · rcases w1 with ⟨x, -⟩ | ⟨-, x⟩
          · exact x
          · exact absurd W1 x
        · rcases y1 with ⟨x, -⟩ | ⟨-, x⟩
          · exact x
          · exact absurd W1 x
      obtain ⟨r, μ2, ν2, f1, f2, f3⟩ := j_ledge (b := 0) hn htx hp (Or.inl rfl) (by rw [← wE_1 W1.1]; exact S1) b1 g1 hX hK J1
      obtain ⟨μ3, f4, f5⟩ := j_fin (g := g) (x1 := x1) hn htx S1 hX f3
      rw [show nI 0 = 0 from rfl] at f1 f2
      refine ⟨μ3, ?_, ?_⟩
      · rw [z0, if_pos rfl, z1.1, if_neg n10, f1, bs]; exact f4
      · rw [z1.2, if_neg n10, f2, b2_some]
        rcases mid_z f3 with rfl | rfl
        · exact Jout_le (by omega) o1.kc f5
        · exact Jout_le (by omega) o1.kc f5
    · have z1 : r1 = 0 ∧ s1 = 0 := by
        refine ⟨?_, ?_⟩
        · rcases w1 with ⟨-, x⟩ | ⟨x, -⟩
          · exact absurd x W1
          · exact x
        · rcases y1 with ⟨-, x⟩ | ⟨x, -⟩
          · exact absurd x W1
          · exact x
      by_cases W2 : WI n tx p 2
      · have z2 : r2 = 1 ∧ s2 = 1 := by
          refine ⟨?_, ?_⟩
          · rcases w2 with ⟨x, -⟩ | ⟨-, x⟩
            · exact x
            · exact absurd W2 x
          · rcases y2 with ⟨x, -⟩ | ⟨-, x⟩
            · exact x
            · exact absurd W2 x
        obtain ⟨r, μ2, ν2, f1, f2, f3⟩ := j_ledge (b := 1) hn htx hp (Or.inr rfl) (by rw [← wE_1 W2.1]; exact S1) b1 g1 hX hK J1
        obtain ⟨μ3, f4, f5⟩ := j_fin (g := g) (x1 := x1) hn htx S1 hX f3
        rw [show nI 1 = 1 from rfl] at f1 f2
        refine ⟨μ3, ?_, ?_⟩
        · rw [z0, if_pos rfl, z1.1, if_pos rfl, z2.1, if_neg n10, f1, bs]; exact f4
        · rw [z1.2, if_pos rfl, z2.2, if_neg n10, f2, b2_some]
          rcases mid_z f3 with rfl | rfl
          · exact Jout_le (by omega) o1.kc f5
          · exact Jout_le (by omega) o1.kc f5
      · have z2 : r2 = 0 ∧ s2 = 0 := by
          refine ⟨?_, ?_⟩
          · rcases w2 with ⟨-, x⟩ | ⟨x, -⟩
            · exact absurd x W2
            · exact x
          · rcases y2 with ⟨-, x⟩ | ⟨x, -⟩
            · exact absurd x W2
            · exact x
        by_cases W3 : WI n tx p 3
        · have z3 : r3 = 1 ∧ s3 = 1 := by
            refine ⟨?_, ?_⟩
            · rcases w3 with ⟨x, -⟩ | ⟨-, x⟩
              · exact x
              · exact absurd W3 x
            · rcases y3 with ⟨x, -⟩ | ⟨-, x⟩
              · exact x
              · exact absurd W3 x
          obtain ⟨r, μ2, ν2, f1, f2, f3⟩ := j_voter hn htx hp (by rw [← wE_1 W3.1]; exact S1) b1 g1 hX hK J1
          obtain ⟨μ3, f4, f5⟩ := j_fin (g := g) (x1 := x1) hn htx S1 hX f3
          refine ⟨μ3, ?_, ?_⟩
          · rw [z0, if_pos rfl, z1.1, if_pos rfl, z2.1, if_pos rfl, z3.1, if_neg n10, f1, bs]; exact f4
          · rw [z1.2, if_pos rfl, z2.2, if_pos rfl, z3.2, if_neg n10, f2, b2_some]
            rcases mid_z f3 with rfl | rfl
            · rw [if_neg n10]; exact Jout_le (by omega) o1.kc f5
            · rw [if_pos rfl]; exact Jout_le (by omega) o1.kc f5
        · have z3 : r3 = 0 ∧ s3 = 0 := by
            refine ⟨?_, ?_⟩
            · rcases w3 with ⟨-, x⟩ | ⟨x, -⟩
              · exact absurd x W3
              · exact x
            · rcases y3 with ⟨-, x⟩ | ⟨x, -⟩
              · exact absurd x W3
              · exact x
          refine none ?_ ?_
          · rw [z0, if_pos rfl, z1.1, if_pos rfl, z2.1, if_pos rfl, z3.1, if_pos rfl, if_pos rfl]
          · rw [z1.2, if_pos rfl, z2.2, if_pos rfl, z3.2, if_pos rfl]
