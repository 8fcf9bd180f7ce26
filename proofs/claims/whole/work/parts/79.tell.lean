/-! Steps: seen, mountain, ledge, voter. -/
theorem MR_ext {f g : Nat → Int32} {z : Sd} (h : MR f z) (e : ∀ k, k < 221 → g k = f k) (hw : WT (zT z)) (h6 : zN z ≤ 6) (h8 : zP z ≤ 8) : MR g z := by
  have l8 := hw.1
  have v6 := hw.2.1
  obtain ⟨⟨t1, t2, t3, t4⟩, ⟨s1, s2, s3, s4⟩, ⟨n1, n2⟩, p1, p2⟩ := h
  refine ⟨⟨?_, ?_, fun k hk => ?_, fun v hv => ?_⟩, ⟨fun k hk => ?_, ?_, ?_, ?_⟩, ⟨?_, fun j hj => ?_⟩, ?_, fun p hp => ⟨fun k hk => ?_, ?_, ?_, ?_⟩⟩
  · rw [e _ (by omega)]; exact t1
  · rw [e _ (by omega)]; exact t2
  · rw [e _ (by omega), e _ (by omega)]; exact t3 k hk
  · rw [e _ (by omega), e _ (by omega), e _ (by omega)]; exact t4 v hv
  · rw [e _ (by omega), e _ (by omega)]; exact s1 k hk
  · rw [e _ (by omega)]; exact s2
  · rw [e _ (by omega)]; exact s3
  · rw [e _ (by omega)]; exact s4
  · rw [e _ (by omega)]; exact n1
  · rw [e _ (by omega), e _ (by omega)]; exact n2 j hj
  · rw [e _ (by omega)]; exact p1
  · rw [e _ (by omega), e _ (by omega)]; exact (p2 p hp).1 k hk
  · rw [e _ (by omega)]; exact (p2 p hp).2.1
  · rw [e _ (by omega)]; exact (p2 p hp).2.2.1
  · rw [e _ (by omega)]; exact (p2 p hp).2.2.2
theorem st_seen : lw_st_seen Iv := by
  intro i hi a w μ ν h
  obtain ⟨z, wz, cz, mz⟩ := h.1
  have h6 := wz.2.2.2.1.1
  unfold fX11_seen fX12_seen fX11_seen_19 fX12_seen_22
  rw [m_inN 0 99 0 99 rfl rfl, m_inN 0 1 0 1 rfl rfl, w_eq, w_eq]
  simp only [Option.bind_some]
  by_cases c : (0 : Int32) ≤ a ∧ a ≤ 99
  · obtain ⟨A, hA, rfl⟩ := ix_out (a := a) (n := 100) (by decide) ⟨c.1, c.2⟩
    rw [if_pos c, if_neg n10, if_neg n10]
    by_cases c3 : (0 : Int32) ≤ w ∧ w ≤ 1
    · obtain ⟨B, hB, rfl⟩ := ix_out (a := w) (n := 2) (by decide) ⟨c3.1, c3.2⟩
      have e3 : ∀ ν1 : Mem, rd ν1 99 3 = some (gA ν1 99 3) := fun ν1 => r99 3 3 rfl (by decide)
      rw [if_pos c3, if_neg n10, if_neg n10, e3, mz.2.2.1.1, cz.2.2.1.1]
      simp only [Option.bind_some]
      by_cases c4 : zN z < 6
      · have c5 : nI (zN z) < 6 := nI_lt (b := 6) c4 (by decide)
        rw [if_pos c5, if_neg (fun e => by rw [show (6 : Int32) = nI 6 from rfl, nI_eq (by omega) (by decide)] at e; omega)]
        have x1 : fX8_addSeen 14 (nI A) (nI B) μ = some (nI (zN z + 1), sF (sA (sA μ 26 (upd (gA μ 26) (zN z) (nI A))) 27 (upd (gA μ 27) (zN z) (nI B))) 14 6 (nI (zN z + 1))) := by
          unfold fX8_addSeen
          rw [cz.2.2.1.1, if_neg (nI_pos (by omega)), if_pos c5, av_r14_4, av_r14_5, wr_nI av_l26 (by omega) (by decide)]
          simp only [Option.bind_some]
          rw [gF_sA, cz.2.2.1.1, wr_nI av_l27 (by omega) (by decide)]
          simp only [Option.bind_some]
          rw [gF_sA, gF_sA, cz.2.2.1.1, gF_sq, if_pos rfl, nI_1]
          rfl
        rw [x1, b2_some]
        have i1 : ∀ n : Nat, (57 : Int32) + 2 * nI n = nI (57 + 2 * n) := fun n => by rw [show (57 : Int32) = nI 57 from rfl, show (2 : Int32) = nI 2 from rfl, pk_mul, nI_add]
        rw [i1, w99 (57 + 2 * zN z) _ rfl (by omega)]
        simp only [Option.bind_some, e3]
        rw [gA_ss, pk_un (by omega), mz.2.2.1.1, i1, nI_1, w99 (57 + 2 * zN z + 1) _ rfl (by omega)]
        simp only [Option.bind_some, e3]
        simp only [sA_sA, gA_ss]
        rw [pk_un (by omega), pk_un (by omega), mz.2.2.1.1, nI_1, w99 3 3 rfl (by decide)]
        simp only [Option.bind_some, e3]
        simp only [sA_sA, gA_ss]
        rw [pk_us]
        refine ⟨_, _, _, rfl, rfl, ?_⟩
        refine Iv_now h (by omega) ((KD.sA (by decide)).tr ((KD.sA (by decide)).tr (KD.sF (by decide)))) (KN.sA (by decide)) ⟨(zT z, zH z, zN z + 1, (fun k => if k = zN z then A else zV z k), (fun k => if k = zN z then B else zB z k), zP z, zQ z), ?_, ?_, ?_⟩
        · refine ⟨wz.1, wz.2.1, Nat.le_trans wz.2.2.1 (by omega), ⟨by show zN z + 1 ≤ 6; omega, fun j hj => ?_⟩, wz.2.2.2.2.1, fun p hp => ⟨(wz.2.2.2.2.2 p hp).1, Nat.le_trans (wz.2.2.2.2.2 p hp).2 (by omega)⟩⟩
          show (if j = zN z then A else zV z j) ≤ 99 ∧ (if j = zN z then B else zB z j) ≤ 1
          by_cases cj : j = zN z
          · rw [if_pos cj, if_pos cj]; omega
          · rw [if_neg cj, if_neg cj]
            have hj : j < zN z + 1 := hj
            exact wz.2.2.2.1.2 j (by omega)
        · refine ⟨cz.1, cz.2.1, ⟨rfl, fun j hj => ?_⟩, cz.2.2.2.1, cz.2.2.2.2⟩
          show upd (gA μ 26) (zN z) (nI A) j = nI (if j = zN z then A else zV z j) ∧ upd (gA μ 27) (zN z) (nI B) j = nI (if j = zN z then B else zB z j)
          unfold upd
          by_cases cj : j = zN z
          · rw [if_pos cj, if_pos cj, if_pos cj, if_pos cj]; exact ⟨rfl, rfl⟩
          · rw [if_neg cj, if_neg cj, if_neg cj, if_neg cj]
            have hj : j < zN z + 1 := hj
            exact cz.2.2.1.2 j (by omega)
        · rw [gA_ss]
          have hu : ∀ k, k ≠ 3 → k ≠ 57 + 2 * zN z → k ≠ 57 + 2 * zN z + 1 → upd (upd (upd (gA ν 99) (57 + 2 * zN z) (nI A)) (57 + 2 * zN z + 1) (nI B)) 3 (nI (zN z + 1)) k = gA ν 99 k := fun k h1 h2 h3 => by rw [pk_un h1, pk_un h3, pk_un h2]
          have l8 := wz.1.1
          have v6 := wz.1.2.1
          obtain ⟨⟨t1, t2, t3, t4⟩, ⟨s1, s2, s3, s4⟩, ⟨n1, n2⟩, p1, p2⟩ := mz
          refine ⟨⟨?_, ?_, fun k hk => ?_, fun v hv => ?_⟩, ⟨fun k hk => ?_, ?_, ?_, ?_⟩, ⟨?_, fun j hj => ?_⟩, ?_, fun p hp => ⟨fun k hk => ?_, ?_, ?_, ?_⟩⟩
          · rw [hu _ (by omega) (by omega) (by omega)]; exact t1
          · rw [hu _ (by omega) (by omega) (by omega)]; exact t2
          · have hk : k < tL (zT z) := hk
            rw [hu _ (by omega) (by omega) (by omega), hu _ (by omega) (by omega) (by omega)]; exact t3 k hk
          · have hv : v < tV (zT z) := hv
            rw [hu _ (by omega) (by omega) (by omega), hu _ (by omega) (by omega) (by omega), hu _ (by omega) (by omega) (by omega)]; exact t4 v hv
          · have hk : k < tL (zT z) := hk
            rw [hu _ (by omega) (by omega) (by omega), hu _ (by omega) (by omega) (by omega)]; exact s1 k hk
          · rw [hu _ (by omega) (by omega) (by omega)]; exact s2
          · rw [hu _ (by omega) (by omega) (by omega)]; exact s3
          · rw [hu _ (by omega) (by omega) (by omega)]; exact s4
          · exact pk_us
          · show _ = nI (if j = zN z then A else zV z j) ∧ _ = nI (if j = zN z then B else zB z j)
            by_cases cj : j = zN z
            · rw [if_pos cj, if_pos cj, cj, pk_un (by omega), pk_un (by omega), pk_us, pk_un (by omega), pk_us]
              exact ⟨rfl, rfl⟩
            · rw [if_neg cj, if_neg cj, hu _ (by omega) (by omega) (by omega), hu _ (by omega) (by omega) (by omega)]
              have hj : j < zN z + 1 := hj
              exact n2 j (by omega)
          · rw [hu _ (by omega) (by omega) (by omega)]; exact p1
          · have hk : k < tL (zT z) := hk
            rw [hu _ (by omega) (by omega) (by omega), hu _ (by omega) (by omega) (by omega)]; exact (p2 p hp).1 k hk
          · rw [hu _ (by omega) (by omega) (by omega)]; exact (p2 p hp).2.1
          · rw [hu _ (by omega) (by omega) (by omega)]; exact (p2 p hp).2.2.1
          · rw [hu _ (by omega) (by omega) (by omega)]; exact (p2 p hp).2.2.2
      · have c5 : zN z = 6 := by omega
        exact full2_ok h (by rw [c5, if_neg (by decide)]) (by rw [c5, if_pos (by decide)])
    · exact bad2_ok (-2) h (by rw [if_neg c3, if_pos rfl]) (by rw [if_neg c3, if_pos rfl])
  · exact bad2_ok (-2) h (by rw [if_neg c, if_pos rfl]) (by rw [if_neg c, if_pos rfl])
