/-! The invariant at the start. -/
theorem iv_start : Iv 0 ct_mc ct_mm := by
  refine ⟨⟨zNew, WZ_new, ?_, ?_⟩, ⟨0, by decide, rfl, fun j hj => ⟨?_, fun h => ?_⟩⟩, ⟨0, by decide, rfl, rfl, fun k hk => absurd hk (Nat.not_lt_zero k)⟩, ⟨rfl, rfl⟩, ⟨rfl, rfl, rfl⟩⟩
  · have c15 : av_cls 15 = 9 := by decide +kernel
    have c21 : av_cls 21 = 7 := by decide +kernel
    refine ⟨⟨rfl, ?_, fun k hk => absurd hk (Nat.not_lt_zero k), fun k hk => absurd hk (Nat.not_lt_zero k)⟩, ⟨fun k hk => absurd hk (Nat.not_lt_zero k), rfl, ?_, rfl⟩, ⟨rfl, fun k hk => absurd hk (Nat.not_lt_zero k)⟩, rfl, fun k hk => absurd hk (Nat.not_lt_zero k)⟩
    · show (if av_cls 15 = 7 then -1 else if 15 = 9 then -1 else (0 : Int32)) = 0
      rw [c15]; rfl
    · show (if av_cls 21 = 7 then -1 else if 21 = 9 then -1 else (0 : Int32)) = -1
      rw [c21]; rfl
  · refine MR_new (fun k hk => ?_)
    show upd (fun _ => 0) 5 (-1) k = _
    rw [upd_if]
  · rw [Nat.zero_testBit]; rfl
  · rw [Nat.zero_testBit] at h; cases h
