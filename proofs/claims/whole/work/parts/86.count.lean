/-! Steps: count, digest, februaries. -/
def sml (σ : Hd) : Nat → Int32
  | 0 => 0
  | n + 1 => sml σ n + ld σ n
theorem c_sml {μ : Mem} {τ : Td} {q : Nat} {σ : Hd} (hq : SQ q) (hw : WT τ) (hT : CT μ τ) (hS : CLd μ τ q σ) : ∀ (d f i : Nat), d = tL τ - i → i ≤ tL τ → d < f → fX7_loadOfAll_4 f q (sml σ i) (nI i) μ = some (sml σ (tL τ))
  | 0, f, i, hd, hi, hf => by
    obtain ⟨f, rfl⟩ : ∃ g, f = g + 1 := ⟨f - 1, by omega⟩
    have h8 := hw.1
    obtain rfl : i = tL τ := by omega
    unfold fX7_loadOfAll_4
    rw [(SQ_f hq).1.1, hT.1, if_pos (nI_le (by omega) (by omega))]
  | d + 1, f, i, hd, hi, hf => by
    obtain ⟨f, rfl⟩ : ∃ g, f = g + 1 := ⟨f - 1, by omega⟩
    have h8 := hw.1
    have ih := c_sml hq hw hT hS d f (i + 1) (by omega) (by omega) (by omega)
    unfold fX7_loadOfAll_4
    rw [(SQ_f hq).1.1, hT.1, if_neg (nI_ge (by omega) (by omega)), c_load hq hw hS (by omega), bs, bs, bs, nI_1]
    exact ih
theorem c_loadOfAll {μ : Mem} {τ : Td} {q : Nat} {σ : Hd} (hq : SQ q) (hw : WT τ) (hT : CT μ τ) (hS : CLd μ τ q σ) : fX7_loadOfAll q μ = some (sml σ (tL τ)) := by
  have h := c_sml hq hw hT hS (tL τ) av_big 0 (by omega) (by omega) (by have := hw.1; show _ < 1000000; omega)
  rw [nI_0] at h
  exact h
theorem m_sml {ν : Mem} {τ : Td} {σ : Hd} (hw : WT τ) (hT : MT (gA ν 99) τ) (hS : MS (gA ν 99) τ σ) : ∀ (d f i : Nat), d = tL τ - i → i ≤ tL τ → d < f → fX12_allLoads_4 f (sml σ i) (nI i) ν = some (sml σ (tL τ))
  | 0, f, i, hd, hi, hf => by
    obtain ⟨f, rfl⟩ : ∃ g, f = g + 1 := ⟨f - 1, by omega⟩
    have h8 := hw.1
    obtain rfl : i = tL τ := by omega
    unfold fX12_allLoads_4
    rw [m_ledges hT, bs, if_pos (nI_le (by omega) (by omega))]
  | d + 1, f, i, hd, hi, hf => by
    obtain ⟨f, rfl⟩ : ∃ g, f = g + 1 := ⟨f - 1, by omega⟩
    have h8 := hw.1
    have ih := m_sml hw hT hS d f (i + 1) (by omega) (by omega) (by omega)
    have g1 : fX12_get (nI i) 1 ν = some (gA ν 99 (7 + 4 * i + 1)) := m_get (j := 1) (by omega) (by decide)
    have g2 : fX12_get (nI i) 2 ν = some (gA ν 99 (7 + 4 * i + 2)) := m_get (j := 2) (by omega) (by decide)
    unfold fX12_allLoads_4
    rw [m_ledges hT, bs, if_neg (nI_ge (by omega) (by omega)), g1, bs, g2, bs, bs, bs, nI_1, (hS.1 i (by omega)).1, (hS.1 i (by omega)).2]
    exact ih
theorem m_allLoads {ν : Mem} {τ : Td} {σ : Hd} (hw : WT τ) (hT : MT (gA ν 99) τ) (hS : MS (gA ν 99) τ σ) : fX12_allLoads ν = some (sml σ (tL τ)) := by
  have h := m_sml hw hT hS (tL τ) av_big 0 (by omega) (by omega) (by have := hw.1; show _ < 1000000; omega)
  rw [nI_0] at h
  exact h
def cnt (z : Sd) (n j : Nat) : Int32 := if j = 0 then nI (tL (zT z)) else if j = 1 then nI (tV (zT z)) else if j = 2 then nI (zH z).2.2.1 else if j = 3 then sml (zH z) (tL (zT z)) else if j = 4 then nI (zN z) else if j = 5 then nI (zP z) else nI n
theorem seven {P : Nat → Prop} {j : Nat} (h : j < 7) (h0 : P 0) (h1 : P 1) (h2 : P 2) (h3 : P 3) (h4 : P 4) (h5 : P 5) (h6 : P 6) : P j := by
  have : j = 0 ∨ j = 1 ∨ j = 2 ∨ j = 3 ∨ j = 4 ∨ j = 5 ∨ j = 6 := by omega
  rcases this with rfl | rfl | rfl | rfl | rfl | rfl | rfl <;> assumption
theorem c_howMany {μ : Mem} {z : Sd} {n j : Nat} (hw : WT (zT z)) (cz : CR 14 μ z) (hn : gF μ 9 1 = nI n) (hj : j < 7) : fX11_howMany (nI j) μ = some (cnt z n j) := by
  refine seven (P := fun j => fX11_howMany (nI j) μ = some (cnt z n j)) hj ?_ ?_ ?_ ?_ ?_ ?_ ?_ <;> unfold fX11_howMany cnt
  · rw [if_pos (by decide), if_pos rfl, show gF μ 15 1 = _ from cz.1.1]
  · rw [if_neg (by decide), if_pos (by decide), if_neg (by decide), if_pos rfl, show gF μ 15 4 = _ from cz.1.2.1]
  · rw [if_neg (by decide), if_neg (by decide), if_pos (by decide), if_neg (by decide), if_neg (by decide), if_pos rfl, show gF μ 21 3 = _ from cz.2.1.2.1]
  · rw [if_neg (by decide), if_neg (by decide), if_neg (by decide), if_pos (by decide), if_neg (by decide), if_neg (by decide), if_neg (by decide), if_pos rfl, c_loadOfAll (Or.inl rfl) hw (CTb_CT cz.1) cz.2.1.1, bs]
  · rw [if_neg (by decide), if_neg (by decide), if_neg (by decide), if_neg (by decide), if_pos (by decide), if_neg (by decide), if_neg (by decide), if_neg (by decide), if_neg (by decide), if_pos rfl, cz.2.2.1.1]
  · rw [if_neg (by decide), if_neg (by decide), if_neg (by decide), if_neg (by decide), if_neg (by decide), if_pos (by decide), if_neg (by decide), if_neg (by decide), if_neg (by decide), if_neg (by decide), if_neg (by decide), if_pos rfl, cz.2.2.2.1]
  · rw [if_neg (by decide), if_neg (by decide), if_neg (by decide), if_neg (by decide), if_neg (by decide), if_neg (by decide), if_neg (by decide), if_neg (by decide), if_neg (by decide), if_neg (by decide), if_neg (by decide), if_neg (by decide), hn]
theorem m_counted {ν : Mem} {z : Sd} {n j : Nat} (hw : WT (zT z)) (mz : MR (gA ν 99) z) (hn : gF ν 98 22 = nI n) (hj : j < 7) : fX12_counted (nI j) ν = some (cnt z n j) := by
  refine seven (P := fun j => fX12_counted (nI j) ν = some (cnt z n j)) hj ?_ ?_ ?_ ?_ ?_ ?_ ?_ <;> unfold fX12_counted cnt
  · rw [if_pos (by decide), if_pos rfl, m_ledges mz.1, bs]
  · rw [if_neg (by decide), if_pos (by decide), if_neg (by decide), if_pos rfl, m_voters mz.1, bs]
  · rw [if_neg (by decide), if_neg (by decide), if_pos (by decide), if_neg (by decide), if_neg (by decide), if_pos rfl, r99 2 2 rfl (by decide), bs, mz.2.1.2.1]
  · rw [if_neg (by decide), if_neg (by decide), if_neg (by decide), if_pos (by decide), if_neg (by decide), if_neg (by decide), if_neg (by decide), if_pos rfl, m_allLoads hw mz.1 mz.2.1, bs]
  · rw [if_neg (by decide), if_neg (by decide), if_neg (by decide), if_neg (by decide), if_pos (by decide), if_neg (by decide), if_neg (by decide), if_neg (by decide), if_neg (by decide), if_pos rfl, r99 3 3 rfl (by decide), bs, mz.2.2.1.1]
  · rw [if_neg (by decide), if_neg (by decide), if_neg (by decide), if_neg (by decide), if_neg (by decide), if_pos (by decide), if_neg (by decide), if_neg (by decide), if_neg (by decide), if_neg (by decide), if_neg (by decide), if_pos rfl, r99 4 4 rfl (by decide), bs, mz.2.2.2.1]
  · rw [if_neg (by decide), if_neg (by decide), if_neg (by decide), if_neg (by decide), if_neg (by decide), if_neg (by decide), if_neg (by decide), if_neg (by decide), if_neg (by decide), if_neg (by decide), if_neg (by decide), if_neg (by decide), hn]
theorem st_count : lw_st_count Iv := by
  intro i hi a μ ν h
  obtain ⟨z, wz, cz, mz⟩ := h.1
  obtain ⟨n, n1, n2, n3, n4⟩ := h.2.2.1
  unfold fX11_count fX12_count
  rw [m_inN 0 6 0 6 rfl rfl, w_eq, bs, bs]
  by_cases c : (0 : Int32) ≤ a ∧ a ≤ 6
  · obtain ⟨j, hj, rfl⟩ := ix_out (a := a) (n := 7) (by decide) ⟨c.1, c.2⟩
    rw [if_pos c, if_neg n10, if_neg n10, c_howMany wz.1 cz n2 hj, m_counted wz.1 mz n3 hj, bs, bs]
    exact ⟨_, μ, ν, rfl, rfl, Iv_5 h⟩
  · exact bad2_ok (-2) h (by rw [if_neg c, if_pos rfl]) (by rw [if_neg c, if_pos rfl])
/-- the digest of n values -/
def dgl (h : Int64) (f : Nat → Int32) : Nat → Int64
  | 0 => h
  | n + 1 => 31 * dgl h f n + (f n).toInt64
theorem m_sums {ν : Mem} {o n : Nat} {h : Int64} (ho : o + n ≤ 221) : ∀ (d f i : Nat), d = n - i → i ≤ n → d < f → fX12_sums_6 f (nI o) (nI n) (dgl h (fun k => gA ν 99 (o + k)) i) (nI i) ν = some (dgl h (fun k => gA ν 99 (o + k)) n)
  | 0, f, i, hd, hi, hf => by
    obtain ⟨f, rfl⟩ : ∃ g, f = g + 1 := ⟨f - 1, by omega⟩
    obtain rfl : i = n := by omega
    unfold fX12_sums_6
    rw [if_pos (nI_le (by omega) (by omega))]
  | d + 1, f, i, hd, hi, hf => by
    obtain ⟨f, rfl⟩ : ∃ g, f = g + 1 := ⟨f - 1, by omega⟩
    have ih := m_sums (ν := ν) (h := h) ho d f (i + 1) (by omega) (by omega) (by omega)
    unfold fX12_sums_6
    rw [if_neg (nI_ge (by omega) (by omega)), r99 (o + i) _ (nI_add o i) (by omega), bs, bs, bs, nI_1]
    exact ih
theorem m_sum {ν : Mem} {h : Int64} (o n : Nat) (O N : Int32) (hO : O = nI o) (hN : N = nI n) (ho : o + n ≤ 221) : fX12_sums h O N ν = some (dgl h (fun k => gA ν 99 (o + k)) n) := by
  have e := m_sums (ν := ν) (h := h) ho n av_big 0 (by omega) (by omega) (by show _ < 1000000; omega)
  rw [nI_0] at e
  rw [hO, hN]
  exact e
theorem c_dig1 {μ : Mem} {z : Sd} {F : Nat → Int32} {h : Int64} (hw : WT (zT z)) (cz : CR 14 μ z) (mz : MR F z) (h6 : zN z ≤ 6) : ∀ (d f i : Nat), d = zN z - i → i ≤ zN z → d < f → fX8_digestFrom_201 f 14 (dgl h (fun k => F (57 + k)) (2 * i)) (nI i) μ = some (dgl h (fun k => F (57 + k)) (2 * zN z))
  | 0, f, i, hd, hi, hf => by
    obtain ⟨f, rfl⟩ : ∃ g, f = g + 1 := ⟨f - 1, by omega⟩
    obtain rfl : i = zN z := by omega
    unfold fX8_digestFrom_201
    rw [cz.2.2.1.1, if_pos (nI_le (by omega) (by omega))]
  | d + 1, f, i, hd, hi, hf => by
    obtain ⟨f, rfl⟩ : ∃ g, f = g + 1 := ⟨f - 1, by omega⟩
    have ih := c_dig1 (h := h) hw cz mz h6 d f (i + 1) (by omega) (by omega) (by omega)
    obtain ⟨x1, x2⟩ := cz.2.2.1.2 i (by omega)
    obtain ⟨y1, y2⟩ := mz.2.2.1.2 i (by omega)
    unfold fX8_digestFrom_201
    rw [cz.2.2.1.1, if_neg (nI_ge (by omega) (by omega)), av_r14_4, av_r14_5, rd_nI av_l26 (by omega) (by decide), bs, bs, rd_nI av_l27 (by omega) (by decide), bs, bs, bs, nI_1, show gA μ 26 i = _ from x1, show gA μ 27 i = _ from x2]
    rw [show 2 * (i + 1) = 2 * i + 1 + 1 by omega] at ih
    simp only [dgl] at ih
    rw [y1, show 57 + (2 * i + 1) = 57 + 2 * i + 1 by omega, y2] at ih
    exact ih
theorem c_dig2 {μ : Mem} {z : Sd} {F : Nat → Int32} {h : Int64} (hw : WT (zT z)) (cz : CR 14 μ z) (mz : MR F z) (h6 : zN z ≤ 6) : ∀ (d f i : Nat), d = tV (zT z) - i → i ≤ tV (zT z) → d < f → fX8_digestFrom_126 f 14 (dgl h (fun k => F (39 + k)) (3 * i)) (nI i) μ = some (dgl (dgl h (fun k => F (39 + k)) (3 * tV (zT z))) (fun k => F (57 + k)) (2 * zN z))
  | 0, f, i, hd, hi, hf => by
    obtain ⟨f, rfl⟩ : ∃ g, f = g + 1 := ⟨f - 1, by omega⟩
    have v6 := hw.2.1
    obtain rfl : i = tV (zT z) := by omega
    unfold fX8_digestFrom_126
    rw [av_r14_0, show gF μ 15 4 = _ from cz.1.2.1, if_pos (nI_le (by omega) (by omega))]
    have e := c_dig1 (h := dgl h (fun k => F (39 + k)) (3 * tV (zT z))) hw cz mz h6 (zN z) av_big 0 (by omega) (by omega) (by show _ < 1000000; omega)
    rw [nI_0] at e
    exact e
  | d + 1, f, i, hd, hi, hf => by
    obtain ⟨f, rfl⟩ : ∃ g, f = g + 1 := ⟨f - 1, by omega⟩
    have v6 := hw.2.1
    have ih := c_dig2 (h := h) hw cz mz h6 d f (i + 1) (by omega) (by omega) (by omega)
    obtain ⟨x1, x2, x3⟩ := cz.1.2.2.2 i (by omega)
    obtain ⟨y1, y2, y3⟩ := mz.1.2.2.2 i (by omega)
    unfold fX8_digestFrom_126
    rw [av_r14_0, show gF μ 15 4 = _ from cz.1.2.1, if_neg (nI_ge (by omega) (by omega)), av_r15_5, av_r15_6, av_r15_7, rd_nI av_l18 (by omega) (by decide), bs, bs, rd_nI av_l19 (by omega) (by decide), bs, bs, rd_nI av_l20 (by omega) (by decide), bs, bs, bs, nI_1, show gA μ 18 i = _ from x1, show gA μ 19 i = _ from x2, show gA μ 20 i = _ from x3]
    rw [show 3 * (i + 1) = 3 * i + 1 + 1 + 1 by omega] at ih
    simp only [dgl] at ih
    rw [y1, show 39 + (3 * i + 1) = 39 + 3 * i + 1 by omega, y2, show 39 + (3 * i + 1 + 1) = 39 + 3 * i + 2 by omega, y3] at ih
    exact ih
theorem c_dig3 {μ : Mem} {z : Sd} {F : Nat → Int32} {h : Int64} (hw : WT (zT z)) (cz : CR 14 μ z) (mz : MR F z) (h6 : zN z ≤ 6) : ∀ (d f i : Nat), d = tL (zT z) - i → i ≤ tL (zT z) → d < f → fX8_digestFrom_33 f 14 (dgl h (fun k => F (7 + k)) (4 * i)) (nI i) μ = some (dgl (dgl (dgl h (fun k => F (7 + k)) (4 * tL (zT z))) (fun k => F (39 + k)) (3 * tV (zT z))) (fun k => F (57 + k)) (2 * zN z))
  | 0, f, i, hd, hi, hf => by
    obtain ⟨f, rfl⟩ : ∃ g, f = g + 1 := ⟨f - 1, by omega⟩
    have l8 := hw.1
    have v6 := hw.2.1
    obtain rfl : i = tL (zT z) := by omega
    unfold fX8_digestFrom_33
    rw [av_r14_0, show gF μ 15 1 = _ from cz.1.1, if_pos (nI_le (by omega) (by omega))]
    have e := c_dig2 (h := dgl h (fun k => F (7 + k)) (4 * tL (zT z))) hw cz mz h6 (tV (zT z)) av_big 0 (by omega) (by omega) (by show _ < 1000000; omega)
    rw [nI_0] at e
    exact e
  | d + 1, f, i, hd, hi, hf => by
    obtain ⟨f, rfl⟩ : ∃ g, f = g + 1 := ⟨f - 1, by omega⟩
    have l8 := hw.1
    have ih := c_dig3 (h := h) hw cz mz h6 d f (i + 1) (by omega) (by omega) (by omega)
    obtain ⟨x1, x4⟩ := cz.1.2.2.1 i (by omega)
    obtain ⟨x2, x3⟩ := cz.2.1.1 i (by omega)
    obtain ⟨y1, y4⟩ := mz.1.2.2.1 i (by omega)
    obtain ⟨y2, y3⟩ := mz.2.1.1 i (by omega)
    unfold fX8_digestFrom_33
    rw [av_r14_0, av_r14_1, show gF μ 15 1 = _ from cz.1.1, if_neg (nI_ge (by omega) (by omega)), av_r15_2, av_r15_3, av_r21_1, av_r21_2, rd_nI av_l16 (by omega) (by decide), bs, bs, rd_nI av_l22 (by omega) (by decide), bs, bs, rd_nI av_l23 (by omega) (by decide), bs, bs, rd_nI av_l17 (by omega) (by decide), bs, bs, bs, nI_1, show gA μ 16 i = _ from x1, show gA μ 22 i = _ from x2, show gA μ 23 i = _ from x3, show gA μ 17 i = _ from x4]
    rw [show 4 * (i + 1) = 4 * i + 1 + 1 + 1 + 1 by omega] at ih
    simp only [dgl] at ih
    rw [y1, show 7 + (4 * i + 1) = 7 + 4 * i + 1 by omega, y2, show 7 + (4 * i + 1 + 1) = 7 + 4 * i + 2 by omega, y3, show 7 + (4 * i + 1 + 1 + 1) = 7 + 4 * i + 3 by omega, y4] at ih
    exact ih
theorem dig_both {μ ν : Mem} {z : Sd} {n : Nat} (hw : WT (zT z)) (cz : CR 14 μ z) (mz : MR (gA ν 99) z) (h6 : zN z ≤ 6) (n2 : gF μ 9 1 = nI n) (n3 : gF ν 98 22 = nI n) (hf : IF μ ν) : ∀ (d f g i : Nat) (h : Int64), d = 7 - i → i ≤ 7 → d < f → d < g → ∃ r, fX11_digest_6 f h (nI i) μ = some r ∧ fX12_digest_6 g h (nI i) ν = some r
  | 0, f, g, i, h, hd, hi, hff, hg => by
    obtain ⟨f, rfl⟩ : ∃ t, f = t + 1 := ⟨f - 1, by omega⟩
    obtain ⟨g, rfl⟩ : ∃ t, g = t + 1 := ⟨g - 1, by omega⟩
    have l8 := hw.1
    have v6 := hw.2.1
    obtain rfl : i = 7 := by omega
    have i4 : ∀ n : Nat, (4 : Int32) * nI n = nI (4 * n) := fun n => pk_mul 4 n
    have i3 : ∀ n : Nat, (3 : Int32) * nI n = nI (3 * n) := fun n => pk_mul 3 n
    have i2 : ∀ n : Nat, (2 : Int32) * nI n = nI (2 * n) := fun n => pk_mul 2 n
    have e := c_dig3 (h := dgl h (fun k => gA ν 99 (5 + k)) 2) hw cz mz h6 (tL (zT z)) av_big 0 (by omega) (by omega) (by show _ < 1000000; omega)
    rw [nI_0] at e
    have eD : fX8_digestFrom 14 h μ = some (dgl (dgl (dgl (dgl h (fun k => gA ν 99 (5 + k)) 2) (fun k => gA ν 99 (7 + k)) (4 * tL (zT z))) (fun k => gA ν 99 (39 + k)) (3 * tV (zT z))) (fun k => gA ν 99 (57 + k)) (2 * zN z)) := by
      unfold fX8_digestFrom
      rw [bs, bs, av_r14_1, show gF μ 21 4 = _ from cz.2.1.2.2.1, show gF μ 21 5 = _ from cz.2.1.2.2.2, ← mz.2.1.2.2.1, ← mz.2.1.2.2.2]
      exact e
    unfold fX11_digest_6 fX12_digest_6
    rw [if_pos (by decide), if_pos (by decide), eD, bs, bs, m_sum 5 2 5 2 rfl rfl (by decide), bs, m_ledges mz.1, bs, m_sum 7 (4 * tL (zT z)) 7 _ rfl (i4 _) (by omega), bs, m_voters mz.1, bs, m_sum 39 (3 * tV (zT z)) 39 _ rfl (i3 _) (by omega), bs, r99 3 3 rfl (by decide), bs, mz.2.2.1.1, m_sum 57 (2 * zN z) 57 _ rfl (i2 _) (by omega), bs, hf.1, hf.2]
    exact ⟨_, rfl, rfl⟩
  | d + 1, f, g, i, h, hd, hi, hff, hg => by
    obtain ⟨f, rfl⟩ : ∃ t, f = t + 1 := ⟨f - 1, by omega⟩
    obtain ⟨g, rfl⟩ : ∃ t, g = t + 1 := ⟨g - 1, by omega⟩
    have j6 : ¬ (6 : Int32) < nI i := nI_nlt (a := 6) (b := i) (by omega) (by omega)
    have j7 : ¬ (7 : Int32) ≤ nI i := nI_ge (a := i) (b := 7) (by omega) (by omega)
    unfold fX11_digest_6 fX12_digest_6
    rw [if_neg j6, if_neg j7, c_howMany hw cz n2 (by omega), m_counted hw mz n3 (by omega), bs, bs, bs, bs, bs, bs, nI_1]
    exact dig_both hw cz mz h6 n2 n3 hf d f g (i + 1) _ (by omega) (by omega) (by omega) (by omega)
theorem st_digest : lw_st_digest Iv := by
  intro i hi μ ν h
  obtain ⟨z, wz, cz, mz⟩ := h.1
  obtain ⟨n, n1, n2, n3, n4⟩ := h.2.2.1
  obtain ⟨r, e1, e2⟩ := dig_both wz.1 cz mz wz.2.2.2.1.1 n2 n3 h.2.2.2.1 7 av_big av_big 0 1151 rfl (by decide) (by decide) (by decide)
  rw [nI_0] at e1 e2
  exact ⟨r, e1, e2, Iv_5 h⟩
