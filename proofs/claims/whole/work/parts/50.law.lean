/-! The law's loop, over what the two memories have in common. -/
def lw_low (s : State) (g : Gl) : Prop := (∀ q, q < 114 → s.heap.size ≤ g.2.2 q) ∧ ∀ a b, a < 114 → b < 114 → g.2.2 a = g.2.2 b → a = b
section
variable {p : Program} {l : Launch} {e : Env} {R : Room} {s : State} {m : MethodId} {args : Array Value} {below : List Frame} {meth : Method} {c : Code} {H : Heap} {cells slots : Nat} {Q : State → Prop} {pc : Nat} {ls : Array Slot} {rest st0 : List Value} {w w2 : Nat × Nat} {g : Gl} {μ μ' ν : Mem} {a : Array Value}
theorem lw_keep {H1 : Heap} (hR2 : av_R w2 g ν s H []) (hw : w.1 + w.2 ≤ 114) (hw2 : w2.1 + w2.2 ≤ 114) (hlow : lw_low s g) (hdis : ∀ q q', (w.1 ≤ q ∧ q < w.1 + w.2) → (w2.1 ≤ q' ∧ q' < w2.1 + w2.2) → q ≠ q') (hz : s.heap.size ≤ H1.size) (hk : ∀ q : Nat, q < H.size → ¬ av_A w g q → H1[q]? = H[q]?) (hS : ∀ q : Nat, q < s.heap.size → ¬ av_A w g q → H1[q]? = s.heap[q]?) : av_R w2 g ν s H1 [] := by
  refine ⟨hR2.1.kept (fun k q hq => ?_), hz, fun q h1 _ => ?_, by simp⟩
  · have hl := (hR2.1 k q hq).lt
    obtain ⟨h1, rfl⟩ := av_W_get hq
    refine hk _ hl (fun ⟨x, hx, ex⟩ => ?_)
    exact hdis x (w2.1 + k) hx ⟨by omega, by omega⟩ (hlow.2 _ _ (by omega) (by omega) ex.symm)
  · refine hS q h1 (fun ⟨x, hx, ex⟩ => ?_)
    have := hlow.1 x (by omega)
    omega
theorem lw_goI (hR : av_R w g μ s H []) (hR2 : av_R w2 g ν s H []) (hw : w.1 + w.2 ≤ 114) (hw2 : w2.1 + w2.2 ≤ 114) (hlow : lw_low s g) (hdis : ∀ q q', (w.1 ≤ q ∧ q < w.1 + w.2) → (w2.1 ≤ q' ∧ q' < w2.1 + w2.2) → q ≠ q') {r : Int32} (hr : va_Run p l e R s m args below meth c H [] cells slots 0 0 (F0 m pc ls st0) rest (va_Qi (fun r1 u => r1 = r ∧ u = μ') (av_B w g) (av_A w g) a) (av_A w g))
    (kk : ∀ (H : Heap), av_R w g μ' s H [] → av_R w2 g ν s H [] → W p l e R s m args below meth c H [] cells slots Q (F0 m (pc + 3) ls (.int r :: rest))) : W p l e R s m args below meth c H [] cells slots Q (F0 m pc ls st0) := by
  refine va_calli hr hR.2 (fun q _ h => h) (fun q h => h) (fun r1 u t H1 locs1 ht hvm hw1 hB hz hk hS => ?_)
  obtain ⟨rfl, rfl⟩ := hw1
  refine va_forget (fun q hq => ?_) (kk H1 ⟨by rw [← ht]; exact hB, hS.1, hS.2.1, by simp⟩ (lw_keep hR2 hw hw2 hlow hdis hS.1 hk hS.2.1))
  obtain ⟨x, hx, e⟩ := hS.2.2 q hq
  rw [e]
  exact hlow.1 x (by omega)
theorem lw_goL (hR : av_R w g μ s H []) (hR2 : av_R w2 g ν s H []) (hw : w.1 + w.2 ≤ 114) (hw2 : w2.1 + w2.2 ≤ 114) (hlow : lw_low s g) (hdis : ∀ q q', (w.1 ≤ q ∧ q < w.1 + w.2) → (w2.1 ≤ q' ∧ q' < w2.1 + w2.2) → q ≠ q') {r : Int64} (hr : va_Run p l e R s m args below meth c H [] cells slots 0 0 (F0 m pc ls st0) rest (va_Ql (fun r1 u => r1 = r ∧ u = μ') (av_B w g) (av_A w g) a) (av_A w g))
    (kk : ∀ (H : Heap), av_R w g μ' s H [] → av_R w2 g ν s H [] → W p l e R s m args below meth c H [] cells slots Q (F0 m (pc + 3) ls (.long r :: rest))) : W p l e R s m args below meth c H [] cells slots Q (F0 m pc ls st0) := by
  refine va_calll hr hR.2 (fun q _ h => h) (fun q h => h) (fun r1 u t H1 locs1 ht hvm hw1 hB hz hk hS => ?_)
  obtain ⟨rfl, rfl⟩ := hw1
  refine va_forget (fun q hq => ?_) (kk H1 ⟨by rw [← ht]; exact hB, hS.1, hS.2.1, by simp⟩ (lw_keep hR2 hw hw2 hlow hdis hS.1 hk hS.2.1))
  obtain ⟨x, hx, e⟩ := hS.2.2 q hq
  rw [e]
  exact hlow.1 x (by omega)
end
def lw_st_mountain (Iv : Nat → Mem → Mem → Prop) : Prop := ∀ (i : Nat) (_ : i ≤ 320) (μ ν : Mem), Iv i μ ν → ∃ (r : Int32) (μ' : Mem)(ν' : Mem), fX11_mountain μ = some (r, μ') ∧ fX12_mountain ν = some (r, ν') ∧ Iv (i + 5) μ' ν'
def lw_st_ledge (Iv : Nat → Mem → Mem → Prop) : Prop := ∀ (i : Nat) (_ : i ≤ 320) (a1 a2 a3 : Int32) (μ ν : Mem), Iv i μ ν → ∃ (r : Int32) (μ' : Mem)(ν' : Mem), fX11_ledge a1 a2 a3 μ = some (r, μ') ∧ fX12_ledge a1 a2 a3 ν = some (r, ν') ∧ Iv (i + 5) μ' ν'
def lw_st_voter (Iv : Nat → Mem → Mem → Prop) : Prop := ∀ (i : Nat) (_ : i ≤ 320) (a1 a2 a3 : Int32) (μ ν : Mem), Iv i μ ν → ∃ (r : Int32) (μ' : Mem)(ν' : Mem), fX11_voter a1 a2 a3 μ = some (r, μ') ∧ fX12_voter a1 a2 a3 ν = some (r, ν') ∧ Iv (i + 5) μ' ν'
def lw_st_type (Iv : Nat → Mem → Mem → Prop) : Prop := ∀ (i : Nat) (_ : i ≤ 320) (a1 : Int32) (μ ν : Mem), Iv i μ ν → ∃ (r : Int32) (μ' : Mem)(ν' : Mem), fX11_type a1 μ = some (r, μ') ∧ fX12_type a1 ν = some (r, ν') ∧ Iv (i + 5) μ' ν'
def lw_st_clear (Iv : Nat → Mem → Mem → Prop) : Prop := ∀ (i : Nat) (_ : i ≤ 320) (μ ν : Mem), Iv i μ ν → ∃ (r : Int32) (μ' : Mem)(ν' : Mem), fX11_clear μ = some (r, μ') ∧ fX12_clear ν = some (r, ν') ∧ Iv (i + 5) μ' ν'
def lw_st_read (Iv : Nat → Mem → Mem → Prop) : Prop := ∀ (i : Nat) (_ : i ≤ 320) (μ ν : Mem), Iv i μ ν → ∃ (r : Int32) (μ' : Mem)(ν' : Mem), fX11_read μ = some (r, μ') ∧ fX12_read ν = some (r, ν') ∧ Iv (i + 5) μ' ν'
def lw_st_vote (Iv : Nat → Mem → Mem → Prop) : Prop := ∀ (i : Nat) (_ : i ≤ 320) (a1 : Int32) (μ ν : Mem), Iv i μ ν → ∃ (r : Int32) (μ' : Mem)(ν' : Mem), fX11_vote a1 μ = some (r, μ') ∧ fX12_vote a1 ν = some (r, ν') ∧ Iv (i + 5) μ' ν'
def lw_st_night (Iv : Nat → Mem → Mem → Prop) : Prop := ∀ (i : Nat) (_ : i ≤ 320) (a1 : Int32) (μ ν : Mem), Iv i μ ν → ∃ (r : Int32) (μ' : Mem)(ν' : Mem), fX11_night a1 μ = some (r, μ') ∧ fX12_night a1 ν = some (r, ν') ∧ Iv (i + 5) μ' ν'
def lw_st_undo (Iv : Nat → Mem → Mem → Prop) : Prop := ∀ (i : Nat) (_ : i ≤ 320) (μ ν : Mem), Iv i μ ν → ∃ (r : Int32) (μ' : Mem)(ν' : Mem), fX11_undo μ = some (r, μ') ∧ fX12_undo ν = some (r, ν') ∧ Iv (i + 5) μ' ν'
def lw_st_of (Iv : Nat → Mem → Mem → Prop) : Prop := ∀ (i : Nat) (_ : i ≤ 320) (a1 a2 : Int32) (μ ν : Mem), Iv i μ ν → ∃ (r : Int32) (μ' : Mem)(ν' : Mem), fX11_of a1 a2 μ = some (r, μ') ∧ fX12_of a1 a2 ν = some (r, ν') ∧ Iv (i + 5) μ' ν'
def lw_st_about (Iv : Nat → Mem → Mem → Prop) : Prop := ∀ (i : Nat) (_ : i ≤ 320) (a1 a2 : Int32) (μ ν : Mem), Iv i μ ν → ∃ (r : Int32) (μ' : Mem)(ν' : Mem), fX11_about a1 a2 μ = some (r, μ') ∧ fX12_about a1 a2 ν = some (r, ν') ∧ Iv (i + 5) μ' ν'
def lw_st_winner (Iv : Nat → Mem → Mem → Prop) : Prop := ∀ (i : Nat) (_ : i ≤ 320) (μ ν : Mem), Iv i μ ν → ∃ (r : Int32), fX11_winner μ = some r ∧ fX12_winner ν = some r ∧ Iv (i + 5) μ ν
def lw_st_coalition (Iv : Nat → Mem → Mem → Prop) : Prop := ∀ (i : Nat) (_ : i ≤ 320) (μ ν : Mem), Iv i μ ν → ∃ (r : Int32), fX11_coalition μ = some r ∧ fX12_coalition ν = some r ∧ Iv (i + 5) μ ν
def lw_st_february (Iv : Nat → Mem → Mem → Prop) : Prop := ∀ (i : Nat) (_ : i ≤ 320) (a1 : Int32) (μ ν : Mem), Iv i μ ν → ∃ (r : Int32) (μ' : Mem)(ν' : Mem), fX11_february a1 μ = some (r, μ') ∧ fX12_february a1 ν = some (r, ν') ∧ Iv (i + 5) μ' ν'
def lw_st_orders (Iv : Nat → Mem → Mem → Prop) : Prop := ∀ (i : Nat) (_ : i ≤ 320) (a1 a2 : Int32) (μ ν : Mem), Iv i μ ν → ∃ (r : Int32) (μ' : Mem)(ν' : Mem), fX11_orders a1 a2 μ = some (r, μ') ∧ fX12_orders a1 a2 ν = some (r, ν') ∧ Iv (i + 5) μ' ν'
def lw_st_stones (Iv : Nat → Mem → Mem → Prop) : Prop := ∀ (i : Nat) (_ : i ≤ 320) (a1 a2 : Int32) (μ ν : Mem), Iv i μ ν → ∃ (r : Int32) (μ' : Mem)(ν' : Mem), fX11_stones a1 a2 μ = some (r, μ') ∧ fX12_stones a1 a2 ν = some (r, ν') ∧ Iv (i + 5) μ' ν'
def lw_st_buried (Iv : Nat → Mem → Mem → Prop) : Prop := ∀ (i : Nat) (_ : i ≤ 320) (a1 a2 : Int32) (μ ν : Mem), Iv i μ ν → ∃ (r : Int32) (μ' : Mem)(ν' : Mem), fX11_buried a1 a2 μ = some (r, μ') ∧ fX12_buried a1 a2 ν = some (r, ν') ∧ Iv (i + 5) μ' ν'
def lw_st_nights (Iv : Nat → Mem → Mem → Prop) : Prop := ∀ (i : Nat) (_ : i ≤ 320) (a1 a2 : Int32) (μ ν : Mem), Iv i μ ν → ∃ (r : Int32) (μ' : Mem)(ν' : Mem), fX11_nights a1 a2 μ = some (r, μ') ∧ fX12_nights a1 a2 ν = some (r, ν') ∧ Iv (i + 5) μ' ν'
def lw_st_parties (Iv : Nat → Mem → Mem → Prop) : Prop := ∀ (i : Nat) (_ : i ≤ 320) (a1 a2 a3 a4 : Int32) (μ ν : Mem), Iv i μ ν → ∃ (r : Int32) (μ' : Mem)(ν' : Mem), fX11_parties a1 a2 a3 a4 μ = some (r, μ') ∧ fX12_parties a1 a2 a3 a4 ν = some (r, ν') ∧ Iv (i + 5) μ' ν'
def lw_st_seen (Iv : Nat → Mem → Mem → Prop) : Prop := ∀ (i : Nat) (_ : i ≤ 320) (a1 a2 : Int32) (μ ν : Mem), Iv i μ ν → ∃ (r : Int32) (μ' : Mem)(ν' : Mem), fX11_seen a1 a2 μ = some (r, μ') ∧ fX12_seen a1 a2 ν = some (r, ν') ∧ Iv (i + 5) μ' ν'
def lw_st_forget (Iv : Nat → Mem → Mem → Prop) : Prop := ∀ (i : Nat) (_ : i ≤ 320) (μ ν : Mem), Iv i μ ν → ∃ (r : Int32) (μ' : Mem)(ν' : Mem), fX11_forget μ = some (r, μ') ∧ fX12_forget ν = some (r, ν') ∧ Iv (i + 5) μ' ν'
def lw_st_hold (Iv : Nat → Mem → Mem → Prop) : Prop := ∀ (i : Nat) (_ : i ≤ 320) (a1 : Int32) (μ ν : Mem), Iv i μ ν → ∃ (r : Int32) (μ' : Mem)(ν' : Mem), fX11_hold a1 μ = some (r, μ') ∧ fX12_hold a1 ν = some (r, ν') ∧ Iv (i + 5) μ' ν'
def lw_st_stick (Iv : Nat → Mem → Mem → Prop) : Prop := ∀ (i : Nat) (_ : i ≤ 320) (μ ν : Mem), Iv i μ ν → ∃ (r : Int32), fX11_stick μ = some r ∧ fX12_stick ν = some r ∧ Iv (i + 5) μ ν
def lw_st_is (Iv : Nat → Mem → Mem → Prop) : Prop := ∀ (i : Nat) (_ : i ≤ 320) (a1 a2 a3 : Int32) (μ ν : Mem), Iv i μ ν → ∃ (r : Int32) (μ' : Mem)(ν' : Mem), fX11_is a1 a2 a3 μ = some (r, μ') ∧ fX12_is a1 a2 a3 ν = some (r, ν') ∧ Iv (i + 5) μ' ν'
def lw_st_sneeze (Iv : Nat → Mem → Mem → Prop) : Prop := ∀ (i : Nat) (_ : i ≤ 320) (a1 a2 : Int32) (μ ν : Mem), Iv i μ ν → ∃ (r : Int32) (μ' : Mem)(ν' : Mem), fX11_sneeze a1 a2 μ = some (r, μ') ∧ fX12_sneeze a1 a2 ν = some (r, ν') ∧ Iv (i + 5) μ' ν'
def lw_st_februaries (Iv : Nat → Mem → Mem → Prop) : Prop := ∀ (i : Nat) (_ : i ≤ 320) (a1 a2 : Int32) (μ ν : Mem), Iv i μ ν → ∃ (r : Int32) (μ' : Mem)(ν' : Mem), fX11_februaries a1 a2 μ = some (r, μ') ∧ fX12_februaries a1 a2 ν = some (r, ν') ∧ Iv (i + 5) μ' ν'
def lw_st_part (Iv : Nat → Mem → Mem → Prop) : Prop := ∀ (i : Nat) (_ : i ≤ 320) (a1 : Int32) (μ ν : Mem), Iv i μ ν → ∃ (r : Int64) (μ' : Mem)(ν' : Mem), fX11_part a1 μ = some (r, μ') ∧ fX12_part a1 ν = some (r, ν') ∧ Iv (i + 5) μ' ν'
def lw_st_image (Iv : Nat → Mem → Mem → Prop) : Prop := ∀ (i : Nat) (_ : i ≤ 320) (a1 : Int32) (μ ν : Mem), Iv i μ ν → ∃ (r : Int32) (μ' : Mem)(ν' : Mem), fX11_image a1 μ = some (r, μ') ∧ fX12_image a1 ν = some (r, ν') ∧ Iv (i + 5) μ' ν'
def lw_st_from (Iv : Nat → Mem → Mem → Prop) : Prop := ∀ (i : Nat) (_ : i ≤ 320) (a1 : Int32) (μ ν : Mem), Iv i μ ν → ∃ (r : Int32) (μ' : Mem)(ν' : Mem), fX11_from a1 μ = some (r, μ') ∧ fX12_from a1 ν = some (r, ν') ∧ Iv (i + 5) μ' ν'
def lw_st_status (Iv : Nat → Mem → Mem → Prop) : Prop := ∀ (i : Nat) (_ : i ≤ 320) (a1 : Int32) (μ ν : Mem), Iv i μ ν → ∃ (r : Int32) (μ' : Mem)(ν' : Mem), fX11_status a1 μ = some (r, μ') ∧ fX12_status a1 ν = some (r, ν') ∧ Iv (i + 5) μ' ν'
def lw_st_count (Iv : Nat → Mem → Mem → Prop) : Prop := ∀ (i : Nat) (_ : i ≤ 320) (a1 : Int32) (μ ν : Mem), Iv i μ ν → ∃ (r : Int32) (μ' : Mem)(ν' : Mem), fX11_count a1 μ = some (r, μ') ∧ fX12_count a1 ν = some (r, ν') ∧ Iv (i + 5) μ' ν'
def lw_st_digest (Iv : Nat → Mem → Mem → Prop) : Prop := ∀ (i : Nat) (_ : i ≤ 320) (μ ν : Mem), Iv i μ ν → ∃ (r : Int64), fX11_digest μ = some r ∧ fX12_digest ν = some r ∧ Iv (i + 5) μ ν
def lw_step (Iv : Nat → Mem → Mem → Prop) : Prop := lw_st_mountain Iv ∧ lw_st_ledge Iv ∧ lw_st_voter Iv ∧ lw_st_type Iv ∧ lw_st_clear Iv ∧ lw_st_read Iv ∧ lw_st_vote Iv ∧ lw_st_night Iv ∧ lw_st_undo Iv ∧ lw_st_of Iv ∧ lw_st_about Iv ∧ lw_st_winner Iv ∧ lw_st_coalition Iv ∧ lw_st_february Iv ∧ lw_st_orders Iv ∧ lw_st_stones Iv ∧ lw_st_buried Iv ∧ lw_st_nights Iv ∧ lw_st_parties Iv ∧ lw_st_seen Iv ∧ lw_st_forget Iv ∧ lw_st_hold Iv ∧ lw_st_stick Iv ∧ lw_st_is Iv ∧ lw_st_sneeze Iv ∧ lw_st_februaries Iv ∧ lw_st_part Iv ∧ lw_st_image Iv ∧ lw_st_from Iv ∧ lw_st_status Iv ∧ lw_st_count Iv ∧ lw_st_digest Iv
theorem kk_L_13 : av_kV RL 13 RX11 yX11_mountain cX11_mountain 2 (some .int) 0 := ⟨kM_L_13, kI_X11_mountain, kS_X11_X11_mountain_X11_mountain, kZ_X11, kC_X11_mountain, by decide, by decide, by decide⟩
theorem kk_L_17 : av_kV RL 17 RX12 yX12_mountain cX12_mountain 2 (some .int) 0 := ⟨kM_L_17, kI_X12_mountain, kS_X12_X12_mountain_X12_mountain, kZ_X12, kC_X12_mountain, by decide, by decide, by decide⟩
theorem kk_L_18 : av_kV RL 18 RX11 yX11_ledge cX11_ledge 4 (some .int) 3 := ⟨kM_L_18, kI_X11_ledge, kS_X11_X11_ledge_X11_ledge, kZ_X11, kC_X11_ledge, by decide, by decide, by decide⟩
theorem kk_L_22 : av_kV RL 22 RX12 yX12_ledge cX12_ledge 4 (some .int) 3 := ⟨kM_L_22, kI_X12_ledge, kS_X12_X12_ledge_X12_ledge, kZ_X12, kC_X12_ledge, by decide, by decide, by decide⟩
theorem kk_L_23 : av_kV RL 23 RX11 yX11_voter cX11_voter 4 (some .int) 3 := ⟨kM_L_23, kI_X11_voter, kS_X11_X11_voter_X11_voter, kZ_X11, kC_X11_voter, by decide, by decide, by decide⟩
theorem kk_L_26 : av_kV RL 26 RX12 yX12_voter cX12_voter 4 (some .int) 3 := ⟨kM_L_26, kI_X12_voter, kS_X12_X12_voter_X12_voter, kZ_X12, kC_X12_voter, by decide, by decide, by decide⟩
theorem kk_L_27 : av_kV RL 27 RX11 yX11_type cX11_type 2 (some .int) 1 := ⟨kM_L_27, kI_X11_type, kS_X11_X11_type_X11_type, kZ_X11, kC_X11_type, by decide, by decide, by decide⟩
theorem kk_L_31 : av_kV RL 31 RX12 yX12_type cX12_type 2 (some .int) 1 := ⟨kM_L_31, kI_X12_type, kS_X12_X12_type_X12_type, kZ_X12, kC_X12_type, by decide, by decide, by decide⟩
theorem kk_L_32 : av_kV RL 32 RX11 yX11_clear cX11_clear 2 (some .int) 0 := ⟨kM_L_32, kI_X11_clear, kS_X11_X11_clear_X11_clear, kZ_X11, kC_X11_clear, by decide, by decide, by decide⟩
theorem kk_L_35 : av_kV RL 35 RX12 yX12_clear cX12_clear 2 (some .int) 0 := ⟨kM_L_35, kI_X12_clear, kS_X12_X12_clear_X12_clear, kZ_X12, kC_X12_clear, by decide, by decide, by decide⟩
theorem kk_L_36 : av_kV RL 36 RX11 yX11_read cX11_read 2 (some .int) 0 := ⟨kM_L_36, kI_X11_read, kS_X11_X11_read_X11_read, kZ_X11, kC_X11_read, by decide, by decide, by decide⟩
theorem kk_L_39 : av_kV RL 39 RX12 yX12_read cX12_read 3 (some .int) 0 := ⟨kM_L_39, kI_X12_read, kS_X12_X12_read_X12_read, kZ_X12, kC_X12_read, by decide, by decide, by decide⟩
theorem kk_L_40 : av_kV RL 40 RX11 yX11_vote cX11_vote 2 (some .int) 1 := ⟨kM_L_40, kI_X11_vote, kS_X11_X11_vote_X11_vote, kZ_X11, kC_X11_vote, by decide, by decide, by decide⟩
theorem kk_L_43 : av_kV RL 43 RX12 yX12_vote cX12_vote 3 (some .int) 1 := ⟨kM_L_43, kI_X12_vote, kS_X12_X12_vote_X12_vote, kZ_X12, kC_X12_vote, by decide, by decide, by decide⟩
theorem kk_L_44 : av_kV RL 44 RX11 yX11_night cX11_night 2 (some .int) 1 := ⟨kM_L_44, kI_X11_night, kS_X11_X11_night_X11_night, kZ_X11, kC_X11_night, by decide, by decide, by decide⟩
theorem kk_L_47 : av_kV RL 47 RX12 yX12_night cX12_night 3 (some .int) 1 := ⟨kM_L_47, kI_X12_night, kS_X12_X12_night_X12_night, kZ_X12, kC_X12_night, by decide, by decide, by decide⟩
theorem kk_L_48 : av_kV RL 48 RX11 yX11_undo cX11_undo 1 (some .int) 0 := ⟨kM_L_48, kI_X11_undo, kS_X11_X11_undo_X11_undo, kZ_X11, kC_X11_undo, by decide, by decide, by decide⟩
theorem kk_L_51 : av_kV RL 51 RX12 yX12_undo cX12_undo 3 (some .int) 0 := ⟨kM_L_51, kI_X12_undo, kS_X12_X12_undo_X12_undo, kZ_X12, kC_X12_undo, by decide, by decide, by decide⟩
theorem kk_L_52 : av_kV RL 52 RX11 yX11_of cX11_of 3 (some .int) 2 := ⟨kM_L_52, kI_X11_of, kS_X11_X11_of_X11_of, kZ_X11, kC_X11_of, by decide, by decide, by decide⟩
theorem kk_L_56 : av_kV RL 56 RX12 yX12_of cX12_of 3 (some .int) 2 := ⟨kM_L_56, kI_X12_of, kS_X12_X12_of_X12_of, kZ_X12, kC_X12_of, by decide, by decide, by decide⟩
theorem kk_L_57 : av_kV RL 57 RX11 yX11_about cX11_about 3 (some .int) 2 := ⟨kM_L_57, kI_X11_about, kS_X11_X11_about_X11_about, kZ_X11, kC_X11_about, by decide, by decide, by decide⟩
theorem kk_L_60 : av_kV RL 60 RX12 yX12_about cX12_about 3 (some .int) 2 := ⟨kM_L_60, kI_X12_about, kS_X12_X12_about_X12_about, kZ_X12, kC_X12_about, by decide, by decide, by decide⟩
theorem kk_L_61 : av_kV RL 61 RX11 yX11_winner cX11_winner 1 (some .int) 0 := ⟨kM_L_61, kI_X11_winner, kS_X11_X11_winner_X11_winner, kZ_X11, kC_X11_winner, by decide, by decide, by decide⟩
theorem kk_L_64 : av_kV RL 64 RX12 yX12_winner cX12_winner 1 (some .int) 0 := ⟨kM_L_64, kI_X12_winner, kS_X12_X12_winner_X12_winner, kZ_X12, kC_X12_winner, by decide, by decide, by decide⟩
theorem kk_L_65 : av_kV RL 65 RX11 yX11_coalition cX11_coalition 1 (some .int) 0 := ⟨kM_L_65, kI_X11_coalition, kS_X11_X11_coalition_X11_coalition, kZ_X11, kC_X11_coalition, by decide, by decide, by decide⟩
theorem kk_L_68 : av_kV RL 68 RX12 yX12_coalition cX12_coalition 1 (some .int) 0 := ⟨kM_L_68, kI_X12_coalition, kS_X12_X12_coalition_X12_coalition, kZ_X12, kC_X12_coalition, by decide, by decide, by decide⟩
theorem kk_L_69 : av_kV RL 69 RX11 yX11_february cX11_february 3 (some .int) 1 := ⟨kM_L_69, kI_X11_february, kS_X11_X11_february_X11_february, kZ_X11, kC_X11_february, by decide, by decide, by decide⟩
theorem kk_L_72 : av_kV RL 72 RX12 yX12_february cX12_february 4 (some .int) 1 := ⟨kM_L_72, kI_X12_february, kS_X12_X12_february_X12_february, kZ_X12, kC_X12_february, by decide, by decide, by decide⟩
theorem kk_L_73 : av_kV RL 73 RX11 yX11_orders cX11_orders 4 (some .int) 2 := ⟨kM_L_73, kI_X11_orders, kS_X11_X11_orders_X11_orders, kZ_X11, kC_X11_orders, by decide, by decide, by decide⟩
theorem kk_L_76 : av_kV RL 76 RX12 yX12_orders cX12_orders 8 (some .int) 2 := ⟨kM_L_76, kI_X12_orders, kS_X12_X12_orders_X12_orders, kZ_X12, kC_X12_orders, by decide, by decide, by decide⟩
theorem kk_L_77 : av_kV RL 77 RX11 yX11_stones cX11_stones 4 (some .int) 2 := ⟨kM_L_77, kI_X11_stones, kS_X11_X11_stones_X11_stones, kZ_X11, kC_X11_stones, by decide, by decide, by decide⟩
theorem kk_L_80 : av_kV RL 80 RX12 yX12_stones cX12_stones 7 (some .int) 2 := ⟨kM_L_80, kI_X12_stones, kS_X12_X12_stones_X12_stones, kZ_X12, kC_X12_stones, by decide, by decide, by decide⟩
theorem kk_L_81 : av_kV RL 81 RX11 yX11_buried cX11_buried 3 (some .int) 2 := ⟨kM_L_81, kI_X11_buried, kS_X11_X11_buried_X11_buried, kZ_X11, kC_X11_buried, by decide, by decide, by decide⟩
theorem kk_L_84 : av_kV RL 84 RX12 yX12_buried cX12_buried 4 (some .int) 2 := ⟨kM_L_84, kI_X12_buried, kS_X12_X12_buried_X12_buried, kZ_X12, kC_X12_buried, by decide, by decide, by decide⟩
theorem kk_L_85 : av_kV RL 85 RX11 yX11_nights cX11_nights 3 (some .int) 2 := ⟨kM_L_85, kI_X11_nights, kS_X11_X11_nights_X11_nights, kZ_X11, kC_X11_nights, by decide, by decide, by decide⟩
theorem kk_L_88 : av_kV RL 88 RX12 yX12_nights cX12_nights 4 (some .int) 2 := ⟨kM_L_88, kI_X12_nights, kS_X12_X12_nights_X12_nights, kZ_X12, kC_X12_nights, by decide, by decide, by decide⟩
theorem kk_L_89 : av_kV RL 89 RX11 yX11_parties cX11_parties 6 (some .int) 4 := ⟨kM_L_89, kI_X11_parties, kS_X11_X11_parties_X11_parties, kZ_X11, kC_X11_parties, by decide, by decide, by decide⟩
theorem kk_L_93 : av_kV RL 93 RX12 yX12_parties cX12_parties 6 (some .int) 4 := ⟨kM_L_93, kI_X12_parties, kS_X12_X12_parties_X12_parties, kZ_X12, kC_X12_parties, by decide, by decide, by decide⟩
theorem kk_L_94 : av_kV RL 94 RX11 yX11_seen cX11_seen 3 (some .int) 2 := ⟨kM_L_94, kI_X11_seen, kS_X11_X11_seen_X11_seen, kZ_X11, kC_X11_seen, by decide, by decide, by decide⟩
theorem kk_L_97 : av_kV RL 97 RX12 yX12_seen cX12_seen 3 (some .int) 2 := ⟨kM_L_97, kI_X12_seen, kS_X12_X12_seen_X12_seen, kZ_X12, kC_X12_seen, by decide, by decide, by decide⟩
theorem kk_L_98 : av_kV RL 98 RX11 yX11_forget cX11_forget 2 (some .int) 0 := ⟨kM_L_98, kI_X11_forget, kS_X11_X11_forget_X11_forget, kZ_X11, kC_X11_forget, by decide, by decide, by decide⟩
theorem kk_L_101 : av_kV RL 101 RX12 yX12_forget cX12_forget 2 (some .int) 0 := ⟨kM_L_101, kI_X12_forget, kS_X12_X12_forget_X12_forget, kZ_X12, kC_X12_forget, by decide, by decide, by decide⟩
theorem kk_L_102 : av_kV RL 102 RX11 yX11_hold cX11_hold 4 (some .int) 1 := ⟨kM_L_102, kI_X11_hold, kS_X11_X11_hold_X11_hold, kZ_X11, kC_X11_hold, by decide, by decide, by decide⟩
theorem kk_L_105 : av_kV RL 105 RX12 yX12_hold cX12_hold 2 (some .int) 1 := ⟨kM_L_105, kI_X12_hold, kS_X12_X12_hold_X12_hold, kZ_X12, kC_X12_hold, by decide, by decide, by decide⟩
theorem kk_L_106 : av_kV RL 106 RX11 yX11_stick cX11_stick 9 (some .int) 0 := ⟨kM_L_106, kI_X11_stick, kS_X11_X11_stick_X11_stick, kZ_X11, kC_X11_stick, by decide, by decide, by decide⟩
theorem kk_L_109 : av_kV RL 109 RX12 yX12_stick cX12_stick 7 (some .int) 0 := ⟨kM_L_109, kI_X12_stick, kS_X12_X12_stick_X12_stick, kZ_X12, kC_X12_stick, by decide, by decide, by decide⟩
theorem kk_L_110 : av_kV RL 110 RX11 yX11_is cX11_is 6 (some .int) 3 := ⟨kM_L_110, kI_X11_is, kS_X11_X11_is_X11_is, kZ_X11, kC_X11_is, by decide, by decide, by decide⟩
theorem kk_L_113 : av_kV RL 113 RX12 yX12_is cX12_is 7 (some .int) 3 := ⟨kM_L_113, kI_X12_is, kS_X12_X12_is_X12_is, kZ_X12, kC_X12_is, by decide, by decide, by decide⟩
theorem kk_L_114 : av_kV RL 114 RX11 yX11_sneeze cX11_sneeze 9 (some .int) 2 := ⟨kM_L_114, kI_X11_sneeze, kS_X11_X11_sneeze_X11_sneeze, kZ_X11, kC_X11_sneeze, by decide, by decide, by decide⟩
theorem kk_L_117 : av_kV RL 117 RX12 yX12_sneeze cX12_sneeze 12 (some .int) 2 := ⟨kM_L_117, kI_X12_sneeze, kS_X12_X12_sneeze_X12_sneeze, kZ_X12, kC_X12_sneeze, by decide, by decide, by decide⟩
theorem kk_L_118 : av_kV RL 118 RX11 yX11_februaries cX11_februaries 3 (some .int) 2 := ⟨kM_L_118, kI_X11_februaries, kS_X11_X11_februaries_X11_februaries, kZ_X11, kC_X11_februaries, by decide, by decide, by decide⟩
theorem kk_L_121 : av_kV RL 121 RX12 yX12_februaries cX12_februaries 7 (some .int) 2 := ⟨kM_L_121, kI_X12_februaries, kS_X12_X12_februaries_X12_februaries, kZ_X12, kC_X12_februaries, by decide, by decide, by decide⟩
theorem kk_L_122 : av_kV RL 122 RX11 yX11_part cX11_part 2 (some .long) 1 := ⟨kM_L_122, kI_X11_part, kS_X11_X11_part_X11_part, kZ_X11, kC_X11_part, by decide, by decide, by decide⟩
theorem kk_L_126 : av_kV RL 126 RX12 yX12_part cX12_part 2 (some .long) 1 := ⟨kM_L_126, kI_X12_part, kS_X12_X12_part_X12_part, kZ_X12, kC_X12_part, by decide, by decide, by decide⟩
theorem kk_L_127 : av_kV RL 127 RX11 yX11_image cX11_image 2 (some .int) 1 := ⟨kM_L_127, kI_X11_image, kS_X11_X11_image_X11_image, kZ_X11, kC_X11_image, by decide, by decide, by decide⟩
theorem kk_L_130 : av_kV RL 130 RX12 yX12_image cX12_image 3 (some .int) 1 := ⟨kM_L_130, kI_X12_image, kS_X12_X12_image_X12_image, kZ_X12, kC_X12_image, by decide, by decide, by decide⟩
theorem kk_L_131 : av_kV RL 131 RX11 yX11_from cX11_from 2 (some .int) 1 := ⟨kM_L_131, kI_X11_from, kS_X11_X11_from_X11_from, kZ_X11, kC_X11_from, by decide, by decide, by decide⟩
theorem kk_L_134 : av_kV RL 134 RX12 yX12_from cX12_from 3 (some .int) 1 := ⟨kM_L_134, kI_X12_from, kS_X12_X12_from_X12_from, kZ_X12, kC_X12_from, by decide, by decide, by decide⟩
theorem kk_L_135 : av_kV RL 135 RX11 yX11_status cX11_status 2 (some .int) 1 := ⟨kM_L_135, kI_X11_status, kS_X11_X11_status_X11_status, kZ_X11, kC_X11_status, by decide, by decide, by decide⟩
theorem kk_L_138 : av_kV RL 138 RX12 yX12_status cX12_status 2 (some .int) 1 := ⟨kM_L_138, kI_X12_status, kS_X12_X12_status_X12_status, kZ_X12, kC_X12_status, by decide, by decide, by decide⟩
theorem kk_L_139 : av_kV RL 139 RX11 yX11_count cX11_count 2 (some .int) 1 := ⟨kM_L_139, kI_X11_count, kS_X11_X11_count_X11_count, kZ_X11, kC_X11_count, by decide, by decide, by decide⟩
theorem kk_L_142 : av_kV RL 142 RX12 yX12_count cX12_count 2 (some .int) 1 := ⟨kM_L_142, kI_X12_count, kS_X12_X12_count_X12_count, kZ_X12, kC_X12_count, by decide, by decide, by decide⟩
theorem kk_L_143 : av_kV RL 143 RX11 yX11_digest cX11_digest 4 (some .long) 0 := ⟨kM_L_143, kI_X11_digest, kS_X11_X11_digest_X11_digest, kZ_X11, kC_X11_digest, by decide, by decide, by decide⟩
theorem kk_L_147 : av_kV RL 147 RX12 yX12_digest cX12_digest 4 (some .long) 0 := ⟨kM_L_147, kI_X12_digest, kS_X12_X12_digest_X12_digest, kZ_X12, kC_X12_digest, by decide, by decide, by decide⟩
theorem lw_rm {N M : Nat} (h1 : N ≤ 1000) (h2 : M ≤ 41) : N + 1 ≤ room_1.frames ∧ 8 + (M + 11) + 60 * N ≤ room_1.locals := by
  show N + 1 ≤ 2048 ∧ 8 + (M + 11) + 60 * N ≤ 84000
  omega
theorem lw_dcm : ∀ q q', (av_wc.1 ≤ q ∧ q < av_wc.1 + av_wc.2) → (av_wm.1 ≤ q' ∧ q' < av_wm.1 + av_wm.2) → q ≠ q' := by
  intro q q' h1 h2
  have := h1.2; have := h2.1
  simp only [av_wc, av_wm] at *
  omega
theorem lw_dmc : ∀ q q', (av_wm.1 ≤ q ∧ q < av_wm.1 + av_wm.2) → (av_wc.1 ≤ q' ∧ q' < av_wc.1 + av_wc.2) → q ≠ q' := fun q q' h1 h2 h => lw_dcm q' q h2 h1 h.symm
theorem lw_nb {s : State} {g : Gl} {b : Nat} {w : Nat × Nat} (hw : w.1 + w.2 ≤ 114) (hbl : b < s.heap.size) (hlow : lw_low s g) : ¬ av_A w g b := by
  rintro ⟨x, hx, rfl⟩
  have := hlow.1 x (by omega)
  omega
theorem lw_ix {i L k : Nat} (h : i + k < L) (hL : L ≤ 320) : vp_in (nI i + nI k) L := by
  rw [nI_add]
  exact vp_in_nI h (by omega)
set_option maxHeartbeats 4000000 in
set_option maxRecDepth 100000 in
theorem lw_c0 {p : Program} {l : Launch} {e : Env} {s : State} {m : MethodId} {below : List Frame} {meth : Method} {c : Code} {b L : Nat} {xs : Nat → Int32} {g : Gl} {Iv : Nat → Mem → Mem → Prop} (hL : L ≤ 320) (E : av_E p s m #[Value.ref b] meth c code RL 4 ret) (Xc : av_X av_wc g s) (Xm : av_X av_wm g s) (hX : va_X b L xs s s.heap) (hbl : b < s.heap.size) (hlow : lw_low s g) {i : Nat} (hi : i + 5 ≤ L) {μ ν : Mem} (hI : Iv i μ ν) {H : Heap} {ls : Array Slot} (hRc : av_R av_wc g μ s H []) (hRm : av_R av_wm g ν s H []) (hl : lv_has ls 4 [(0, .ref b), (1, .ref (g.2.2 0)), (2, .ref (g.2.2 98)), (3, .int (nI i))]) (hs : lw_st_mountain Iv) (kn : ∀ (μ ν : Mem) (H : Heap), Iv (i + 5) μ ν → av_R av_wc g μ s H [] → av_R av_wm g ν s H [] → W p l e room_1 s m #[Value.ref b] below meth c H [] 600000 7302249 (lw_Z below #[Value.ref b] s) (F0 m 1004 ls [])) : W p l e room_1 s m #[Value.ref b] below meth c H [] 600000 7302249 (lw_Z below #[Value.ref b] s) (F0 m 176 ls []) := by
  obtain ⟨hx, hb, hr, hml, hown, hts, hlocks⟩ := id E
  have hnb : ¬ av_A av_wc g b := lw_nb (by decide) hbl hlow
  obtain ⟨r, μ2, ν2, e1, e2, hI2⟩ := hs i (by omega)  μ ν hI
  refine lv_aload_n hx hb dL_law_176 rfl (lv_at hl 1 rfl) ?_
  refine lw_goI hRc hRm (by decide) (by decide) hlow lw_dcm (av_cV (As := []) (rest := []) E Xc hRc hl.1 (CX11_mountain l g e1) kk_L_13 (lw_rm (by omega) (by decide)) av_t0 (by decide) rfl rfl (Nat.le_of_ble_eq_true rfl) ⟨Nat.le_refl _, Nat.le_refl _⟩ dL_law_177) (fun H hRc hRm => ?_)
  refine lv_aload_n hx hb dL_law_180 rfl (lv_at hl 2 rfl) ?_
  refine lw_goI hRm hRc (by decide) (by decide) hlow lw_dmc (av_cV (As := []) (rest := [.int r]) E Xm hRm hl.1 (CX12_mountain l g e2) kk_L_17 (lw_rm (by omega) (by decide)) av_t98 (by decide) rfl rfl (Nat.le_of_ble_eq_true rfl) ⟨Nat.le_refl _, Nat.le_refl _⟩ dL_law_181) (fun H hRm hRc => ?_)
  refine lv_icmp_eq (tgt := 1004) hx hb dL_law_184 (by decide) (fun _ => ?_) (fun cc => absurd rfl cc)
  exact kn μ2 ν2 H hI2 hRc hRm
set_option maxHeartbeats 4000000 in
set_option maxRecDepth 100000 in
theorem lw_c1 {p : Program} {l : Launch} {e : Env} {s : State} {m : MethodId} {below : List Frame} {meth : Method} {c : Code} {b L : Nat} {xs : Nat → Int32} {g : Gl} {Iv : Nat → Mem → Mem → Prop} (hL : L ≤ 320) (E : av_E p s m #[Value.ref b] meth c code RL 4 ret) (Xc : av_X av_wc g s) (Xm : av_X av_wm g s) (hX : va_X b L xs s s.heap) (hbl : b < s.heap.size) (hlow : lw_low s g) {i : Nat} (hi : i + 5 ≤ L) {μ ν : Mem} (hI : Iv i μ ν) {H : Heap} {ls : Array Slot} (hRc : av_R av_wc g μ s H []) (hRm : av_R av_wm g ν s H []) (hl : lv_has ls 4 [(0, .ref b), (1, .ref (g.2.2 0)), (2, .ref (g.2.2 98)), (3, .int (nI i))]) (hs : lw_st_ledge Iv) (kn : ∀ (μ ν : Mem) (H : Heap), Iv (i + 5) μ ν → av_R av_wc g μ s H [] → av_R av_wm g ν s H [] → W p l e room_1 s m #[Value.ref b] below meth c H [] 600000 7302249 (lw_Z below #[Value.ref b] s) (F0 m 1004 ls [])) : W p l e room_1 s m #[Value.ref b] below meth c H [] 600000 7302249 (lw_Z below #[Value.ref b] s) (F0 m 189 ls []) := by
  obtain ⟨hx, hb, hr, hml, hown, hts, hlocks⟩ := id E
  have hnb : ¬ av_A av_wc g b := lw_nb (by decide) hbl hlow
  have hin1 : vp_in (nI i + 1) L := lw_ix (k := 1) (by omega) hL
  have hin2 : vp_in (nI i + 2) L := lw_ix (k := 2) (by omega) hL
  have hin3 : vp_in (nI i + 3) L := lw_ix (k := 3) (by omega) hL
  obtain ⟨r, μ2, ν2, e1, e2, hI2⟩ := hs i (by omega) (xs (nI i + 1).toNatClampNeg) (xs (nI i + 2).toNatClampNeg) (xs (nI i + 3).toNatClampNeg) μ ν hI
  refine lv_aload_n hx hb dL_law_189 rfl (lv_at hl 1 rfl) ?_
  refine lv_aload_n hx hb dL_law_190 rfl (lv_at hl 0 rfl) ?_
  refine lv_iload_n hx hb dL_law_191 rfl (lv_at hl 3 rfl) ?_
  refine lv_iconst (v := 1) hx hb dL_law_192 rfl ?_
  refine lv_iadd hx hb dL_law_193 ?_
  refine va_sld hx hb hX hbl hnb hRc.2 hin1 dL_law_194 ?_
  refine lv_aload_n hx hb dL_law_195 rfl (lv_at hl 0 rfl) ?_
  refine lv_iload_n hx hb dL_law_196 rfl (lv_at hl 3 rfl) ?_
  refine lv_iconst (v := 2) hx hb dL_law_197 rfl ?_
  refine lv_iadd hx hb dL_law_198 ?_
  refine va_sld hx hb hX hbl hnb hRc.2 hin2 dL_law_199 ?_
  refine lv_aload_n hx hb dL_law_200 rfl (lv_at hl 0 rfl) ?_
  refine lv_iload_n hx hb dL_law_201 rfl (lv_at hl 3 rfl) ?_
  refine lv_iconst (v := 3) hx hb dL_law_202 rfl ?_
  refine lv_iadd hx hb dL_law_203 ?_
  refine va_sld hx hb hX hbl hnb hRc.2 hin3 dL_law_204 ?_
  refine lw_goI hRc hRm (by decide) (by decide) hlow lw_dcm (av_cV (As := [.int (xs (nI i + 1).toNatClampNeg), .int (xs (nI i + 2).toNatClampNeg), .int (xs (nI i + 3).toNatClampNeg)]) (rest := []) E Xc hRc hl.1 (CX11_ledge l g e1) kk_L_18 (lw_rm (by omega) (by decide)) av_t0 (by decide) rfl rfl (Nat.le_of_ble_eq_true rfl) ⟨Nat.le_refl _, Nat.le_refl _⟩ dL_law_205) (fun H hRc hRm => ?_)
  refine lv_aload_n hx hb dL_law_208 rfl (lv_at hl 2 rfl) ?_
  refine lv_aload_n hx hb dL_law_209 rfl (lv_at hl 0 rfl) ?_
  refine lv_iload_n hx hb dL_law_210 rfl (lv_at hl 3 rfl) ?_
  refine lv_iconst (v := 1) hx hb dL_law_211 rfl ?_
  refine lv_iadd hx hb dL_law_212 ?_
  refine va_sld hx hb hX hbl hnb hRc.2 hin1 dL_law_213 ?_
  refine lv_aload_n hx hb dL_law_214 rfl (lv_at hl 0 rfl) ?_
  refine lv_iload_n hx hb dL_law_215 rfl (lv_at hl 3 rfl) ?_
  refine lv_iconst (v := 2) hx hb dL_law_216 rfl ?_
  refine lv_iadd hx hb dL_law_217 ?_
  refine va_sld hx hb hX hbl hnb hRc.2 hin2 dL_law_218 ?_
  refine lv_aload_n hx hb dL_law_219 rfl (lv_at hl 0 rfl) ?_
  refine lv_iload_n hx hb dL_law_220 rfl (lv_at hl 3 rfl) ?_
  refine lv_iconst (v := 3) hx hb dL_law_221 rfl ?_
  refine lv_iadd hx hb dL_law_222 ?_
  refine va_sld hx hb hX hbl hnb hRc.2 hin3 dL_law_223 ?_
  refine lw_goI hRm hRc (by decide) (by decide) hlow lw_dmc (av_cV (As := [.int (xs (nI i + 1).toNatClampNeg), .int (xs (nI i + 2).toNatClampNeg), .int (xs (nI i + 3).toNatClampNeg)]) (rest := [.int r]) E Xm hRm hl.1 (CX12_ledge l g e2) kk_L_22 (lw_rm (by omega) (by decide)) av_t98 (by decide) rfl rfl (Nat.le_of_ble_eq_true rfl) ⟨Nat.le_refl _, Nat.le_refl _⟩ dL_law_224) (fun H hRm hRc => ?_)
  refine lv_icmp_eq (tgt := 1004) hx hb dL_law_227 (by decide) (fun _ => ?_) (fun cc => absurd rfl cc)
  exact kn μ2 ν2 H hI2 hRc hRm
set_option maxHeartbeats 4000000 in
set_option maxRecDepth 100000 in
theorem lw_c2 {p : Program} {l : Launch} {e : Env} {s : State} {m : MethodId} {below : List Frame} {meth : Method} {c : Code} {b L : Nat} {xs : Nat → Int32} {g : Gl} {Iv : Nat → Mem → Mem → Prop} (hL : L ≤ 320) (E : av_E p s m #[Value.ref b] meth c code RL 4 ret) (Xc : av_X av_wc g s) (Xm : av_X av_wm g s) (hX : va_X b L xs s s.heap) (hbl : b < s.heap.size) (hlow : lw_low s g) {i : Nat} (hi : i + 5 ≤ L) {μ ν : Mem} (hI : Iv i μ ν) {H : Heap} {ls : Array Slot} (hRc : av_R av_wc g μ s H []) (hRm : av_R av_wm g ν s H []) (hl : lv_has ls 4 [(0, .ref b), (1, .ref (g.2.2 0)), (2, .ref (g.2.2 98)), (3, .int (nI i))]) (hs : lw_st_voter Iv) (kn : ∀ (μ ν : Mem) (H : Heap), Iv (i + 5) μ ν → av_R av_wc g μ s H [] → av_R av_wm g ν s H [] → W p l e room_1 s m #[Value.ref b] below meth c H [] 600000 7302249 (lw_Z below #[Value.ref b] s) (F0 m 1004 ls [])) : W p l e room_1 s m #[Value.ref b] below meth c H [] 600000 7302249 (lw_Z below #[Value.ref b] s) (F0 m 232 ls []) := by
  obtain ⟨hx, hb, hr, hml, hown, hts, hlocks⟩ := id E
  have hnb : ¬ av_A av_wc g b := lw_nb (by decide) hbl hlow
  have hin1 : vp_in (nI i + 1) L := lw_ix (k := 1) (by omega) hL
  have hin2 : vp_in (nI i + 2) L := lw_ix (k := 2) (by omega) hL
  have hin3 : vp_in (nI i + 3) L := lw_ix (k := 3) (by omega) hL
  obtain ⟨r, μ2, ν2, e1, e2, hI2⟩ := hs i (by omega) (xs (nI i + 1).toNatClampNeg) (xs (nI i + 2).toNatClampNeg) (xs (nI i + 3).toNatClampNeg) μ ν hI
  refine lv_aload_n hx hb dL_law_232 rfl (lv_at hl 1 rfl) ?_
  refine lv_aload_n hx hb dL_law_233 rfl (lv_at hl 0 rfl) ?_
  refine lv_iload_n hx hb dL_law_234 rfl (lv_at hl 3 rfl) ?_
  refine lv_iconst (v := 1) hx hb dL_law_235 rfl ?_
  refine lv_iadd hx hb dL_law_236 ?_
  refine va_sld hx hb hX hbl hnb hRc.2 hin1 dL_law_237 ?_
  refine lv_aload_n hx hb dL_law_238 rfl (lv_at hl 0 rfl) ?_
  refine lv_iload_n hx hb dL_law_239 rfl (lv_at hl 3 rfl) ?_
  refine lv_iconst (v := 2) hx hb dL_law_240 rfl ?_
  refine lv_iadd hx hb dL_law_241 ?_
  refine va_sld hx hb hX hbl hnb hRc.2 hin2 dL_law_242 ?_
  refine lv_aload_n hx hb dL_law_243 rfl (lv_at hl 0 rfl) ?_
  refine lv_iload_n hx hb dL_law_244 rfl (lv_at hl 3 rfl) ?_
  refine lv_iconst (v := 3) hx hb dL_law_245 rfl ?_
  refine lv_iadd hx hb dL_law_246 ?_
  refine va_sld hx hb hX hbl hnb hRc.2 hin3 dL_law_247 ?_
  refine lw_goI hRc hRm (by decide) (by decide) hlow lw_dcm (av_cV (As := [.int (xs (nI i + 1).toNatClampNeg), .int (xs (nI i + 2).toNatClampNeg), .int (xs (nI i + 3).toNatClampNeg)]) (rest := []) E Xc hRc hl.1 (CX11_voter l g e1) kk_L_23 (lw_rm (by omega) (by decide)) av_t0 (by decide) rfl rfl (Nat.le_of_ble_eq_true rfl) ⟨Nat.le_refl _, Nat.le_refl _⟩ dL_law_248) (fun H hRc hRm => ?_)
  refine lv_aload_n hx hb dL_law_251 rfl (lv_at hl 2 rfl) ?_
  refine lv_aload_n hx hb dL_law_252 rfl (lv_at hl 0 rfl) ?_
  refine lv_iload_n hx hb dL_law_253 rfl (lv_at hl 3 rfl) ?_
  refine lv_iconst (v := 1) hx hb dL_law_254 rfl ?_
  refine lv_iadd hx hb dL_law_255 ?_
  refine va_sld hx hb hX hbl hnb hRc.2 hin1 dL_law_256 ?_
  refine lv_aload_n hx hb dL_law_257 rfl (lv_at hl 0 rfl) ?_
  refine lv_iload_n hx hb dL_law_258 rfl (lv_at hl 3 rfl) ?_
  refine lv_iconst (v := 2) hx hb dL_law_259 rfl ?_
  refine lv_iadd hx hb dL_law_260 ?_
  refine va_sld hx hb hX hbl hnb hRc.2 hin2 dL_law_261 ?_
  refine lv_aload_n hx hb dL_law_262 rfl (lv_at hl 0 rfl) ?_
  refine lv_iload_n hx hb dL_law_263 rfl (lv_at hl 3 rfl) ?_
  refine lv_iconst (v := 3) hx hb dL_law_264 rfl ?_
  refine lv_iadd hx hb dL_law_265 ?_
  refine va_sld hx hb hX hbl hnb hRc.2 hin3 dL_law_266 ?_
  refine lw_goI hRm hRc (by decide) (by decide) hlow lw_dmc (av_cV (As := [.int (xs (nI i + 1).toNatClampNeg), .int (xs (nI i + 2).toNatClampNeg), .int (xs (nI i + 3).toNatClampNeg)]) (rest := [.int r]) E Xm hRm hl.1 (CX12_voter l g e2) kk_L_26 (lw_rm (by omega) (by decide)) av_t98 (by decide) rfl rfl (Nat.le_of_ble_eq_true rfl) ⟨Nat.le_refl _, Nat.le_refl _⟩ dL_law_267) (fun H hRm hRc => ?_)
  refine lv_icmp_eq (tgt := 1004) hx hb dL_law_270 (by decide) (fun _ => ?_) (fun cc => absurd rfl cc)
  exact kn μ2 ν2 H hI2 hRc hRm
set_option maxHeartbeats 4000000 in
set_option maxRecDepth 100000 in
theorem lw_c3 {p : Program} {l : Launch} {e : Env} {s : State} {m : MethodId} {below : List Frame} {meth : Method} {c : Code} {b L : Nat} {xs : Nat → Int32} {g : Gl} {Iv : Nat → Mem → Mem → Prop} (hL : L ≤ 320) (E : av_E p s m #[Value.ref b] meth c code RL 4 ret) (Xc : av_X av_wc g s) (Xm : av_X av_wm g s) (hX : va_X b L xs s s.heap) (hbl : b < s.heap.size) (hlow : lw_low s g) {i : Nat} (hi : i + 5 ≤ L) {μ ν : Mem} (hI : Iv i μ ν) {H : Heap} {ls : Array Slot} (hRc : av_R av_wc g μ s H []) (hRm : av_R av_wm g ν s H []) (hl : lv_has ls 4 [(0, .ref b), (1, .ref (g.2.2 0)), (2, .ref (g.2.2 98)), (3, .int (nI i))]) (hs : lw_st_type Iv) (kn : ∀ (μ ν : Mem) (H : Heap), Iv (i + 5) μ ν → av_R av_wc g μ s H [] → av_R av_wm g ν s H [] → W p l e room_1 s m #[Value.ref b] below meth c H [] 600000 7302249 (lw_Z below #[Value.ref b] s) (F0 m 1004 ls [])) : W p l e room_1 s m #[Value.ref b] below meth c H [] 600000 7302249 (lw_Z below #[Value.ref b] s) (F0 m 275 ls []) := by
  obtain ⟨hx, hb, hr, hml, hown, hts, hlocks⟩ := id E
  have hnb : ¬ av_A av_wc g b := lw_nb (by decide) hbl hlow
  have hin1 : vp_in (nI i + 1) L := lw_ix (k := 1) (by omega) hL
  obtain ⟨r, μ2, ν2, e1, e2, hI2⟩ := hs i (by omega) (xs (nI i + 1).toNatClampNeg) μ ν hI
  refine lv_aload_n hx hb dL_law_275 rfl (lv_at hl 1 rfl) ?_
  refine lv_aload_n hx hb dL_law_276 rfl (lv_at hl 0 rfl) ?_
  refine lv_iload_n hx hb dL_law_277 rfl (lv_at hl 3 rfl) ?_
  refine lv_iconst (v := 1) hx hb dL_law_278 rfl ?_
  refine lv_iadd hx hb dL_law_279 ?_
  refine va_sld hx hb hX hbl hnb hRc.2 hin1 dL_law_280 ?_
  refine lw_goI hRc hRm (by decide) (by decide) hlow lw_dcm (av_cV (As := [.int (xs (nI i + 1).toNatClampNeg)]) (rest := []) E Xc hRc hl.1 (CX11_type l g e1) kk_L_27 (lw_rm (by omega) (by decide)) av_t0 (by decide) rfl rfl (Nat.le_of_ble_eq_true rfl) ⟨Nat.le_refl _, Nat.le_refl _⟩ dL_law_281) (fun H hRc hRm => ?_)
  refine lv_aload_n hx hb dL_law_284 rfl (lv_at hl 2 rfl) ?_
  refine lv_aload_n hx hb dL_law_285 rfl (lv_at hl 0 rfl) ?_
  refine lv_iload_n hx hb dL_law_286 rfl (lv_at hl 3 rfl) ?_
  refine lv_iconst (v := 1) hx hb dL_law_287 rfl ?_
  refine lv_iadd hx hb dL_law_288 ?_
  refine va_sld hx hb hX hbl hnb hRc.2 hin1 dL_law_289 ?_
  refine lw_goI hRm hRc (by decide) (by decide) hlow lw_dmc (av_cV (As := [.int (xs (nI i + 1).toNatClampNeg)]) (rest := [.int r]) E Xm hRm hl.1 (CX12_type l g e2) kk_L_31 (lw_rm (by omega) (by decide)) av_t98 (by decide) rfl rfl (Nat.le_of_ble_eq_true rfl) ⟨Nat.le_refl _, Nat.le_refl _⟩ dL_law_290) (fun H hRm hRc => ?_)
  refine lv_icmp_eq (tgt := 1004) hx hb dL_law_293 (by decide) (fun _ => ?_) (fun cc => absurd rfl cc)
  exact kn μ2 ν2 H hI2 hRc hRm
set_option maxHeartbeats 4000000 in
set_option maxRecDepth 100000 in
theorem lw_c4 {p : Program} {l : Launch} {e : Env} {s : State} {m : MethodId} {below : List Frame} {meth : Method} {c : Code} {b L : Nat} {xs : Nat → Int32} {g : Gl} {Iv : Nat → Mem → Mem → Prop} (hL : L ≤ 320) (E : av_E p s m #[Value.ref b] meth c code RL 4 ret) (Xc : av_X av_wc g s) (Xm : av_X av_wm g s) (hX : va_X b L xs s s.heap) (hbl : b < s.heap.size) (hlow : lw_low s g) {i : Nat} (hi : i + 5 ≤ L) {μ ν : Mem} (hI : Iv i μ ν) {H : Heap} {ls : Array Slot} (hRc : av_R av_wc g μ s H []) (hRm : av_R av_wm g ν s H []) (hl : lv_has ls 4 [(0, .ref b), (1, .ref (g.2.2 0)), (2, .ref (g.2.2 98)), (3, .int (nI i))]) (hs : lw_st_clear Iv) (kn : ∀ (μ ν : Mem) (H : Heap), Iv (i + 5) μ ν → av_R av_wc g μ s H [] → av_R av_wm g ν s H [] → W p l e room_1 s m #[Value.ref b] below meth c H [] 600000 7302249 (lw_Z below #[Value.ref b] s) (F0 m 1004 ls [])) : W p l e room_1 s m #[Value.ref b] below meth c H [] 600000 7302249 (lw_Z below #[Value.ref b] s) (F0 m 298 ls []) := by
  obtain ⟨hx, hb, hr, hml, hown, hts, hlocks⟩ := id E
  have hnb : ¬ av_A av_wc g b := lw_nb (by decide) hbl hlow
  obtain ⟨r, μ2, ν2, e1, e2, hI2⟩ := hs i (by omega)  μ ν hI
  refine lv_aload_n hx hb dL_law_298 rfl (lv_at hl 1 rfl) ?_
  refine lw_goI hRc hRm (by decide) (by decide) hlow lw_dcm (av_cV (As := []) (rest := []) E Xc hRc hl.1 (CX11_clear l g e1) kk_L_32 (lw_rm (by omega) (by decide)) av_t0 (by decide) rfl rfl (Nat.le_of_ble_eq_true rfl) ⟨Nat.le_refl _, Nat.le_refl _⟩ dL_law_299) (fun H hRc hRm => ?_)
  refine lv_aload_n hx hb dL_law_302 rfl (lv_at hl 2 rfl) ?_
  refine lw_goI hRm hRc (by decide) (by decide) hlow lw_dmc (av_cV (As := []) (rest := [.int r]) E Xm hRm hl.1 (CX12_clear l g e2) kk_L_35 (lw_rm (by omega) (by decide)) av_t98 (by decide) rfl rfl (Nat.le_of_ble_eq_true rfl) ⟨Nat.le_refl _, Nat.le_refl _⟩ dL_law_303) (fun H hRm hRc => ?_)
  refine lv_icmp_eq (tgt := 1004) hx hb dL_law_306 (by decide) (fun _ => ?_) (fun cc => absurd rfl cc)
  exact kn μ2 ν2 H hI2 hRc hRm
set_option maxHeartbeats 4000000 in
set_option maxRecDepth 100000 in
theorem lw_c5 {p : Program} {l : Launch} {e : Env} {s : State} {m : MethodId} {below : List Frame} {meth : Method} {c : Code} {b L : Nat} {xs : Nat → Int32} {g : Gl} {Iv : Nat → Mem → Mem → Prop} (hL : L ≤ 320) (E : av_E p s m #[Value.ref b] meth c code RL 4 ret) (Xc : av_X av_wc g s) (Xm : av_X av_wm g s) (hX : va_X b L xs s s.heap) (hbl : b < s.heap.size) (hlow : lw_low s g) {i : Nat} (hi : i + 5 ≤ L) {μ ν : Mem} (hI : Iv i μ ν) {H : Heap} {ls : Array Slot} (hRc : av_R av_wc g μ s H []) (hRm : av_R av_wm g ν s H []) (hl : lv_has ls 4 [(0, .ref b), (1, .ref (g.2.2 0)), (2, .ref (g.2.2 98)), (3, .int (nI i))]) (hs : lw_st_read Iv) (kn : ∀ (μ ν : Mem) (H : Heap), Iv (i + 5) μ ν → av_R av_wc g μ s H [] → av_R av_wm g ν s H [] → W p l e room_1 s m #[Value.ref b] below meth c H [] 600000 7302249 (lw_Z below #[Value.ref b] s) (F0 m 1004 ls [])) : W p l e room_1 s m #[Value.ref b] below meth c H [] 600000 7302249 (lw_Z below #[Value.ref b] s) (F0 m 311 ls []) := by
  obtain ⟨hx, hb, hr, hml, hown, hts, hlocks⟩ := id E
  have hnb : ¬ av_A av_wc g b := lw_nb (by decide) hbl hlow
  obtain ⟨r, μ2, ν2, e1, e2, hI2⟩ := hs i (by omega)  μ ν hI
  refine lv_aload_n hx hb dL_law_311 rfl (lv_at hl 1 rfl) ?_
  refine lw_goI hRc hRm (by decide) (by decide) hlow lw_dcm (av_cV (As := []) (rest := []) E Xc hRc hl.1 (CX11_read l g e1) kk_L_36 (lw_rm (by omega) (by decide)) av_t0 (by decide) rfl rfl (Nat.le_of_ble_eq_true rfl) ⟨Nat.le_refl _, Nat.le_refl _⟩ dL_law_312) (fun H hRc hRm => ?_)
  refine lv_aload_n hx hb dL_law_315 rfl (lv_at hl 2 rfl) ?_
  refine lw_goI hRm hRc (by decide) (by decide) hlow lw_dmc (av_cV (As := []) (rest := [.int r]) E Xm hRm hl.1 (CX12_read l g e2) kk_L_39 (lw_rm (by omega) (by decide)) av_t98 (by decide) rfl rfl (Nat.le_of_ble_eq_true rfl) ⟨Nat.le_refl _, Nat.le_refl _⟩ dL_law_316) (fun H hRm hRc => ?_)
  refine lv_icmp_eq (tgt := 1004) hx hb dL_law_319 (by decide) (fun _ => ?_) (fun cc => absurd rfl cc)
  exact kn μ2 ν2 H hI2 hRc hRm
set_option maxHeartbeats 4000000 in
set_option maxRecDepth 100000 in
theorem lw_c6 {p : Program} {l : Launch} {e : Env} {s : State} {m : MethodId} {below : List Frame} {meth : Method} {c : Code} {b L : Nat} {xs : Nat → Int32} {g : Gl} {Iv : Nat → Mem → Mem → Prop} (hL : L ≤ 320) (E : av_E p s m #[Value.ref b] meth c code RL 4 ret) (Xc : av_X av_wc g s) (Xm : av_X av_wm g s) (hX : va_X b L xs s s.heap) (hbl : b < s.heap.size) (hlow : lw_low s g) {i : Nat} (hi : i + 5 ≤ L) {μ ν : Mem} (hI : Iv i μ ν) {H : Heap} {ls : Array Slot} (hRc : av_R av_wc g μ s H []) (hRm : av_R av_wm g ν s H []) (hl : lv_has ls 4 [(0, .ref b), (1, .ref (g.2.2 0)), (2, .ref (g.2.2 98)), (3, .int (nI i))]) (hs : lw_st_vote Iv) (kn : ∀ (μ ν : Mem) (H : Heap), Iv (i + 5) μ ν → av_R av_wc g μ s H [] → av_R av_wm g ν s H [] → W p l e room_1 s m #[Value.ref b] below meth c H [] 600000 7302249 (lw_Z below #[Value.ref b] s) (F0 m 1004 ls [])) : W p l e room_1 s m #[Value.ref b] below meth c H [] 600000 7302249 (lw_Z below #[Value.ref b] s) (F0 m 324 ls []) := by
  obtain ⟨hx, hb, hr, hml, hown, hts, hlocks⟩ := id E
  have hnb : ¬ av_A av_wc g b := lw_nb (by decide) hbl hlow
  have hin1 : vp_in (nI i + 1) L := lw_ix (k := 1) (by omega) hL
  obtain ⟨r, μ2, ν2, e1, e2, hI2⟩ := hs i (by omega) (xs (nI i + 1).toNatClampNeg) μ ν hI
  refine lv_aload_n hx hb dL_law_324 rfl (lv_at hl 1 rfl) ?_
  refine lv_aload_n hx hb dL_law_325 rfl (lv_at hl 0 rfl) ?_
  refine lv_iload_n hx hb dL_law_326 rfl (lv_at hl 3 rfl) ?_
  refine lv_iconst (v := 1) hx hb dL_law_327 rfl ?_
  refine lv_iadd hx hb dL_law_328 ?_
  refine va_sld hx hb hX hbl hnb hRc.2 hin1 dL_law_329 ?_
  refine lw_goI hRc hRm (by decide) (by decide) hlow lw_dcm (av_cV (As := [.int (xs (nI i + 1).toNatClampNeg)]) (rest := []) E Xc hRc hl.1 (CX11_vote l g e1) kk_L_40 (lw_rm (by omega) (by decide)) av_t0 (by decide) rfl rfl (Nat.le_of_ble_eq_true rfl) ⟨Nat.le_refl _, Nat.le_refl _⟩ dL_law_330) (fun H hRc hRm => ?_)
  refine lv_aload_n hx hb dL_law_333 rfl (lv_at hl 2 rfl) ?_
  refine lv_aload_n hx hb dL_law_334 rfl (lv_at hl 0 rfl) ?_
  refine lv_iload_n hx hb dL_law_335 rfl (lv_at hl 3 rfl) ?_
  refine lv_iconst (v := 1) hx hb dL_law_336 rfl ?_
  refine lv_iadd hx hb dL_law_337 ?_
  refine va_sld hx hb hX hbl hnb hRc.2 hin1 dL_law_338 ?_
  refine lw_goI hRm hRc (by decide) (by decide) hlow lw_dmc (av_cV (As := [.int (xs (nI i + 1).toNatClampNeg)]) (rest := [.int r]) E Xm hRm hl.1 (CX12_vote l g e2) kk_L_43 (lw_rm (by omega) (by decide)) av_t98 (by decide) rfl rfl (Nat.le_of_ble_eq_true rfl) ⟨Nat.le_refl _, Nat.le_refl _⟩ dL_law_339) (fun H hRm hRc => ?_)
  refine lv_icmp_eq (tgt := 1004) hx hb dL_law_342 (by decide) (fun _ => ?_) (fun cc => absurd rfl cc)
  exact kn μ2 ν2 H hI2 hRc hRm
set_option maxHeartbeats 4000000 in
set_option maxRecDepth 100000 in
theorem lw_c7 {p : Program} {l : Launch} {e : Env} {s : State} {m : MethodId} {below : List Frame} {meth : Method} {c : Code} {b L : Nat} {xs : Nat → Int32} {g : Gl} {Iv : Nat → Mem → Mem → Prop} (hL : L ≤ 320) (E : av_E p s m #[Value.ref b] meth c code RL 4 ret) (Xc : av_X av_wc g s) (Xm : av_X av_wm g s) (hX : va_X b L xs s s.heap) (hbl : b < s.heap.size) (hlow : lw_low s g) {i : Nat} (hi : i + 5 ≤ L) {μ ν : Mem} (hI : Iv i μ ν) {H : Heap} {ls : Array Slot} (hRc : av_R av_wc g μ s H []) (hRm : av_R av_wm g ν s H []) (hl : lv_has ls 4 [(0, .ref b), (1, .ref (g.2.2 0)), (2, .ref (g.2.2 98)), (3, .int (nI i))]) (hs : lw_st_night Iv) (kn : ∀ (μ ν : Mem) (H : Heap), Iv (i + 5) μ ν → av_R av_wc g μ s H [] → av_R av_wm g ν s H [] → W p l e room_1 s m #[Value.ref b] below meth c H [] 600000 7302249 (lw_Z below #[Value.ref b] s) (F0 m 1004 ls [])) : W p l e room_1 s m #[Value.ref b] below meth c H [] 600000 7302249 (lw_Z below #[Value.ref b] s) (F0 m 347 ls []) := by
  obtain ⟨hx, hb, hr, hml, hown, hts, hlocks⟩ := id E
  have hnb : ¬ av_A av_wc g b := lw_nb (by decide) hbl hlow
  have hin1 : vp_in (nI i + 1) L := lw_ix (k := 1) (by omega) hL
  obtain ⟨r, μ2, ν2, e1, e2, hI2⟩ := hs i (by omega) (xs (nI i + 1).toNatClampNeg) μ ν hI
  refine lv_aload_n hx hb dL_law_347 rfl (lv_at hl 1 rfl) ?_
  refine lv_aload_n hx hb dL_law_348 rfl (lv_at hl 0 rfl) ?_
  refine lv_iload_n hx hb dL_law_349 rfl (lv_at hl 3 rfl) ?_
  refine lv_iconst (v := 1) hx hb dL_law_350 rfl ?_
  refine lv_iadd hx hb dL_law_351 ?_
  refine va_sld hx hb hX hbl hnb hRc.2 hin1 dL_law_352 ?_
  refine lw_goI hRc hRm (by decide) (by decide) hlow lw_dcm (av_cV (As := [.int (xs (nI i + 1).toNatClampNeg)]) (rest := []) E Xc hRc hl.1 (CX11_night l g e1) kk_L_44 (lw_rm (by omega) (by decide)) av_t0 (by decide) rfl rfl (Nat.le_of_ble_eq_true rfl) ⟨Nat.le_refl _, Nat.le_refl _⟩ dL_law_353) (fun H hRc hRm => ?_)
  refine lv_aload_n hx hb dL_law_356 rfl (lv_at hl 2 rfl) ?_
  refine lv_aload_n hx hb dL_law_357 rfl (lv_at hl 0 rfl) ?_
  refine lv_iload_n hx hb dL_law_358 rfl (lv_at hl 3 rfl) ?_
  refine lv_iconst (v := 1) hx hb dL_law_359 rfl ?_
  refine lv_iadd hx hb dL_law_360 ?_
  refine va_sld hx hb hX hbl hnb hRc.2 hin1 dL_law_361 ?_
  refine lw_goI hRm hRc (by decide) (by decide) hlow lw_dmc (av_cV (As := [.int (xs (nI i + 1).toNatClampNeg)]) (rest := [.int r]) E Xm hRm hl.1 (CX12_night l g e2) kk_L_47 (lw_rm (by omega) (by decide)) av_t98 (by decide) rfl rfl (Nat.le_of_ble_eq_true rfl) ⟨Nat.le_refl _, Nat.le_refl _⟩ dL_law_362) (fun H hRm hRc => ?_)
  refine lv_icmp_eq (tgt := 1004) hx hb dL_law_365 (by decide) (fun _ => ?_) (fun cc => absurd rfl cc)
  exact kn μ2 ν2 H hI2 hRc hRm
set_option maxHeartbeats 4000000 in
set_option maxRecDepth 100000 in
theorem lw_c8 {p : Program} {l : Launch} {e : Env} {s : State} {m : MethodId} {below : List Frame} {meth : Method} {c : Code} {b L : Nat} {xs : Nat → Int32} {g : Gl} {Iv : Nat → Mem → Mem → Prop} (hL : L ≤ 320) (E : av_E p s m #[Value.ref b] meth c code RL 4 ret) (Xc : av_X av_wc g s) (Xm : av_X av_wm g s) (hX : va_X b L xs s s.heap) (hbl : b < s.heap.size) (hlow : lw_low s g) {i : Nat} (hi : i + 5 ≤ L) {μ ν : Mem} (hI : Iv i μ ν) {H : Heap} {ls : Array Slot} (hRc : av_R av_wc g μ s H []) (hRm : av_R av_wm g ν s H []) (hl : lv_has ls 4 [(0, .ref b), (1, .ref (g.2.2 0)), (2, .ref (g.2.2 98)), (3, .int (nI i))]) (hs : lw_st_undo Iv) (kn : ∀ (μ ν : Mem) (H : Heap), Iv (i + 5) μ ν → av_R av_wc g μ s H [] → av_R av_wm g ν s H [] → W p l e room_1 s m #[Value.ref b] below meth c H [] 600000 7302249 (lw_Z below #[Value.ref b] s) (F0 m 1004 ls [])) : W p l e room_1 s m #[Value.ref b] below meth c H [] 600000 7302249 (lw_Z below #[Value.ref b] s) (F0 m 370 ls []) := by
  obtain ⟨hx, hb, hr, hml, hown, hts, hlocks⟩ := id E
  have hnb : ¬ av_A av_wc g b := lw_nb (by decide) hbl hlow
  obtain ⟨r, μ2, ν2, e1, e2, hI2⟩ := hs i (by omega)  μ ν hI
  refine lv_aload_n hx hb dL_law_370 rfl (lv_at hl 1 rfl) ?_
  refine lw_goI hRc hRm (by decide) (by decide) hlow lw_dcm (av_cV (As := []) (rest := []) E Xc hRc hl.1 (CX11_undo l g e1) kk_L_48 (lw_rm (by omega) (by decide)) av_t0 (by decide) rfl rfl (Nat.le_of_ble_eq_true rfl) ⟨Nat.le_refl _, Nat.le_refl _⟩ dL_law_371) (fun H hRc hRm => ?_)
  refine lv_aload_n hx hb dL_law_374 rfl (lv_at hl 2 rfl) ?_
  refine lw_goI hRm hRc (by decide) (by decide) hlow lw_dmc (av_cV (As := []) (rest := [.int r]) E Xm hRm hl.1 (CX12_undo l g e2) kk_L_51 (lw_rm (by omega) (by decide)) av_t98 (by decide) rfl rfl (Nat.le_of_ble_eq_true rfl) ⟨Nat.le_refl _, Nat.le_refl _⟩ dL_law_375) (fun H hRm hRc => ?_)
  refine lv_icmp_eq (tgt := 1004) hx hb dL_law_378 (by decide) (fun _ => ?_) (fun cc => absurd rfl cc)
  exact kn μ2 ν2 H hI2 hRc hRm
set_option maxHeartbeats 4000000 in
set_option maxRecDepth 100000 in
theorem lw_c9 {p : Program} {l : Launch} {e : Env} {s : State} {m : MethodId} {below : List Frame} {meth : Method} {c : Code} {b L : Nat} {xs : Nat → Int32} {g : Gl} {Iv : Nat → Mem → Mem → Prop} (hL : L ≤ 320) (E : av_E p s m #[Value.ref b] meth c code RL 4 ret) (Xc : av_X av_wc g s) (Xm : av_X av_wm g s) (hX : va_X b L xs s s.heap) (hbl : b < s.heap.size) (hlow : lw_low s g) {i : Nat} (hi : i + 5 ≤ L) {μ ν : Mem} (hI : Iv i μ ν) {H : Heap} {ls : Array Slot} (hRc : av_R av_wc g μ s H []) (hRm : av_R av_wm g ν s H []) (hl : lv_has ls 4 [(0, .ref b), (1, .ref (g.2.2 0)), (2, .ref (g.2.2 98)), (3, .int (nI i))]) (hs : lw_st_of Iv) (kn : ∀ (μ ν : Mem) (H : Heap), Iv (i + 5) μ ν → av_R av_wc g μ s H [] → av_R av_wm g ν s H [] → W p l e room_1 s m #[Value.ref b] below meth c H [] 600000 7302249 (lw_Z below #[Value.ref b] s) (F0 m 1004 ls [])) : W p l e room_1 s m #[Value.ref b] below meth c H [] 600000 7302249 (lw_Z below #[Value.ref b] s) (F0 m 383 ls []) := by
  obtain ⟨hx, hb, hr, hml, hown, hts, hlocks⟩ := id E
  have hnb : ¬ av_A av_wc g b := lw_nb (by decide) hbl hlow
  have hin1 : vp_in (nI i + 1) L := lw_ix (k := 1) (by omega) hL
  have hin2 : vp_in (nI i + 2) L := lw_ix (k := 2) (by omega) hL
  obtain ⟨r, μ2, ν2, e1, e2, hI2⟩ := hs i (by omega) (xs (nI i + 1).toNatClampNeg) (xs (nI i + 2).toNatClampNeg) μ ν hI
  refine lv_aload_n hx hb dL_law_383 rfl (lv_at hl 1 rfl) ?_
  refine lv_aload_n hx hb dL_law_384 rfl (lv_at hl 0 rfl) ?_
  refine lv_iload_n hx hb dL_law_385 rfl (lv_at hl 3 rfl) ?_
  refine lv_iconst (v := 1) hx hb dL_law_386 rfl ?_
  refine lv_iadd hx hb dL_law_387 ?_
  refine va_sld hx hb hX hbl hnb hRc.2 hin1 dL_law_388 ?_
  refine lv_aload_n hx hb dL_law_389 rfl (lv_at hl 0 rfl) ?_
  refine lv_iload_n hx hb dL_law_390 rfl (lv_at hl 3 rfl) ?_
  refine lv_iconst (v := 2) hx hb dL_law_391 rfl ?_
  refine lv_iadd hx hb dL_law_392 ?_
  refine va_sld hx hb hX hbl hnb hRc.2 hin2 dL_law_393 ?_
  refine lw_goI hRc hRm (by decide) (by decide) hlow lw_dcm (av_cV (As := [.int (xs (nI i + 1).toNatClampNeg), .int (xs (nI i + 2).toNatClampNeg)]) (rest := []) E Xc hRc hl.1 (CX11_of l g e1) kk_L_52 (lw_rm (by omega) (by decide)) av_t0 (by decide) rfl rfl (Nat.le_of_ble_eq_true rfl) ⟨Nat.le_refl _, Nat.le_refl _⟩ dL_law_394) (fun H hRc hRm => ?_)
  refine lv_aload_n hx hb dL_law_397 rfl (lv_at hl 2 rfl) ?_
  refine lv_aload_n hx hb dL_law_398 rfl (lv_at hl 0 rfl) ?_
  refine lv_iload_n hx hb dL_law_399 rfl (lv_at hl 3 rfl) ?_
  refine lv_iconst (v := 1) hx hb dL_law_400 rfl ?_
  refine lv_iadd hx hb dL_law_401 ?_
  refine va_sld hx hb hX hbl hnb hRc.2 hin1 dL_law_402 ?_
  refine lv_aload_n hx hb dL_law_403 rfl (lv_at hl 0 rfl) ?_
  refine lv_iload_n hx hb dL_law_404 rfl (lv_at hl 3 rfl) ?_
  refine lv_iconst (v := 2) hx hb dL_law_405 rfl ?_
  refine lv_iadd hx hb dL_law_406 ?_
  refine va_sld hx hb hX hbl hnb hRc.2 hin2 dL_law_407 ?_
  refine lw_goI hRm hRc (by decide) (by decide) hlow lw_dmc (av_cV (As := [.int (xs (nI i + 1).toNatClampNeg), .int (xs (nI i + 2).toNatClampNeg)]) (rest := [.int r]) E Xm hRm hl.1 (CX12_of l g e2) kk_L_56 (lw_rm (by omega) (by decide)) av_t98 (by decide) rfl rfl (Nat.le_of_ble_eq_true rfl) ⟨Nat.le_refl _, Nat.le_refl _⟩ dL_law_408) (fun H hRm hRc => ?_)
  refine lv_icmp_eq (tgt := 1004) hx hb dL_law_411 (by decide) (fun _ => ?_) (fun cc => absurd rfl cc)
  exact kn μ2 ν2 H hI2 hRc hRm
set_option maxHeartbeats 4000000 in
set_option maxRecDepth 100000 in
theorem lw_c10 {p : Program} {l : Launch} {e : Env} {s : State} {m : MethodId} {below : List Frame} {meth : Method} {c : Code} {b L : Nat} {xs : Nat → Int32} {g : Gl} {Iv : Nat → Mem → Mem → Prop} (hL : L ≤ 320) (E : av_E p s m #[Value.ref b] meth c code RL 4 ret) (Xc : av_X av_wc g s) (Xm : av_X av_wm g s) (hX : va_X b L xs s s.heap) (hbl : b < s.heap.size) (hlow : lw_low s g) {i : Nat} (hi : i + 5 ≤ L) {μ ν : Mem} (hI : Iv i μ ν) {H : Heap} {ls : Array Slot} (hRc : av_R av_wc g μ s H []) (hRm : av_R av_wm g ν s H []) (hl : lv_has ls 4 [(0, .ref b), (1, .ref (g.2.2 0)), (2, .ref (g.2.2 98)), (3, .int (nI i))]) (hs : lw_st_about Iv) (kn : ∀ (μ ν : Mem) (H : Heap), Iv (i + 5) μ ν → av_R av_wc g μ s H [] → av_R av_wm g ν s H [] → W p l e room_1 s m #[Value.ref b] below meth c H [] 600000 7302249 (lw_Z below #[Value.ref b] s) (F0 m 1004 ls [])) : W p l e room_1 s m #[Value.ref b] below meth c H [] 600000 7302249 (lw_Z below #[Value.ref b] s) (F0 m 416 ls []) := by
  obtain ⟨hx, hb, hr, hml, hown, hts, hlocks⟩ := id E
  have hnb : ¬ av_A av_wc g b := lw_nb (by decide) hbl hlow
  have hin1 : vp_in (nI i + 1) L := lw_ix (k := 1) (by omega) hL
  have hin2 : vp_in (nI i + 2) L := lw_ix (k := 2) (by omega) hL
  obtain ⟨r, μ2, ν2, e1, e2, hI2⟩ := hs i (by omega) (xs (nI i + 1).toNatClampNeg) (xs (nI i + 2).toNatClampNeg) μ ν hI
  refine lv_aload_n hx hb dL_law_416 rfl (lv_at hl 1 rfl) ?_
  refine lv_aload_n hx hb dL_law_417 rfl (lv_at hl 0 rfl) ?_
  refine lv_iload_n hx hb dL_law_418 rfl (lv_at hl 3 rfl) ?_
  refine lv_iconst (v := 1) hx hb dL_law_419 rfl ?_
  refine lv_iadd hx hb dL_law_420 ?_
  refine va_sld hx hb hX hbl hnb hRc.2 hin1 dL_law_421 ?_
  refine lv_aload_n hx hb dL_law_422 rfl (lv_at hl 0 rfl) ?_
  refine lv_iload_n hx hb dL_law_423 rfl (lv_at hl 3 rfl) ?_
  refine lv_iconst (v := 2) hx hb dL_law_424 rfl ?_
  refine lv_iadd hx hb dL_law_425 ?_
  refine va_sld hx hb hX hbl hnb hRc.2 hin2 dL_law_426 ?_
  refine lw_goI hRc hRm (by decide) (by decide) hlow lw_dcm (av_cV (As := [.int (xs (nI i + 1).toNatClampNeg), .int (xs (nI i + 2).toNatClampNeg)]) (rest := []) E Xc hRc hl.1 (CX11_about l g e1) kk_L_57 (lw_rm (by omega) (by decide)) av_t0 (by decide) rfl rfl (Nat.le_of_ble_eq_true rfl) ⟨Nat.le_refl _, Nat.le_refl _⟩ dL_law_427) (fun H hRc hRm => ?_)
  refine lv_aload_n hx hb dL_law_430 rfl (lv_at hl 2 rfl) ?_
  refine lv_aload_n hx hb dL_law_431 rfl (lv_at hl 0 rfl) ?_
  refine lv_iload_n hx hb dL_law_432 rfl (lv_at hl 3 rfl) ?_
  refine lv_iconst (v := 1) hx hb dL_law_433 rfl ?_
  refine lv_iadd hx hb dL_law_434 ?_
  refine va_sld hx hb hX hbl hnb hRc.2 hin1 dL_law_435 ?_
  refine lv_aload_n hx hb dL_law_436 rfl (lv_at hl 0 rfl) ?_
  refine lv_iload_n hx hb dL_law_437 rfl (lv_at hl 3 rfl) ?_
  refine lv_iconst (v := 2) hx hb dL_law_438 rfl ?_
  refine lv_iadd hx hb dL_law_439 ?_
  refine va_sld hx hb hX hbl hnb hRc.2 hin2 dL_law_440 ?_
  refine lw_goI hRm hRc (by decide) (by decide) hlow lw_dmc (av_cV (As := [.int (xs (nI i + 1).toNatClampNeg), .int (xs (nI i + 2).toNatClampNeg)]) (rest := [.int r]) E Xm hRm hl.1 (CX12_about l g e2) kk_L_60 (lw_rm (by omega) (by decide)) av_t98 (by decide) rfl rfl (Nat.le_of_ble_eq_true rfl) ⟨Nat.le_refl _, Nat.le_refl _⟩ dL_law_441) (fun H hRm hRc => ?_)
  refine lv_icmp_eq (tgt := 1004) hx hb dL_law_444 (by decide) (fun _ => ?_) (fun cc => absurd rfl cc)
  exact kn μ2 ν2 H hI2 hRc hRm
set_option maxHeartbeats 4000000 in
set_option maxRecDepth 100000 in
theorem lw_c11 {p : Program} {l : Launch} {e : Env} {s : State} {m : MethodId} {below : List Frame} {meth : Method} {c : Code} {b L : Nat} {xs : Nat → Int32} {g : Gl} {Iv : Nat → Mem → Mem → Prop} (hL : L ≤ 320) (E : av_E p s m #[Value.ref b] meth c code RL 4 ret) (Xc : av_X av_wc g s) (Xm : av_X av_wm g s) (hX : va_X b L xs s s.heap) (hbl : b < s.heap.size) (hlow : lw_low s g) {i : Nat} (hi : i + 5 ≤ L) {μ ν : Mem} (hI : Iv i μ ν) {H : Heap} {ls : Array Slot} (hRc : av_R av_wc g μ s H []) (hRm : av_R av_wm g ν s H []) (hl : lv_has ls 4 [(0, .ref b), (1, .ref (g.2.2 0)), (2, .ref (g.2.2 98)), (3, .int (nI i))]) (hs : lw_st_winner Iv) (kn : ∀ (μ ν : Mem) (H : Heap), Iv (i + 5) μ ν → av_R av_wc g μ s H [] → av_R av_wm g ν s H [] → W p l e room_1 s m #[Value.ref b] below meth c H [] 600000 7302249 (lw_Z below #[Value.ref b] s) (F0 m 1004 ls [])) : W p l e room_1 s m #[Value.ref b] below meth c H [] 600000 7302249 (lw_Z below #[Value.ref b] s) (F0 m 449 ls []) := by
  obtain ⟨hx, hb, hr, hml, hown, hts, hlocks⟩ := id E
  have hnb : ¬ av_A av_wc g b := lw_nb (by decide) hbl hlow
  obtain ⟨r, e1, e2, hI2⟩ := hs i (by omega)  μ ν hI
  refine lv_aload_n hx hb dL_law_449 rfl (lv_at hl 1 rfl) ?_
  refine lw_goI hRc hRm (by decide) (by decide) hlow lw_dcm (av_cV (As := []) (rest := []) E Xc hRc hl.1 (CX11_winner l g e1) kk_L_61 (lw_rm (by omega) (by decide)) av_t0 (by decide) rfl rfl (Nat.le_of_ble_eq_true rfl) ⟨Nat.le_refl _, Nat.le_refl _⟩ dL_law_450) (fun H hRc hRm => ?_)
  refine lv_aload_n hx hb dL_law_453 rfl (lv_at hl 2 rfl) ?_
  refine lw_goI hRm hRc (by decide) (by decide) hlow lw_dmc (av_cV (As := []) (rest := [.int r]) E Xm hRm hl.1 (CX12_winner l g e2) kk_L_64 (lw_rm (by omega) (by decide)) av_t98 (by decide) rfl rfl (Nat.le_of_ble_eq_true rfl) ⟨Nat.le_refl _, Nat.le_refl _⟩ dL_law_454) (fun H hRm hRc => ?_)
  refine lv_icmp_eq (tgt := 1004) hx hb dL_law_457 (by decide) (fun _ => ?_) (fun cc => absurd rfl cc)
  exact kn μ ν H hI2 hRc hRm
set_option maxHeartbeats 4000000 in
set_option maxRecDepth 100000 in
theorem lw_c12 {p : Program} {l : Launch} {e : Env} {s : State} {m : MethodId} {below : List Frame} {meth : Method} {c : Code} {b L : Nat} {xs : Nat → Int32} {g : Gl} {Iv : Nat → Mem → Mem → Prop} (hL : L ≤ 320) (E : av_E p s m #[Value.ref b] meth c code RL 4 ret) (Xc : av_X av_wc g s) (Xm : av_X av_wm g s) (hX : va_X b L xs s s.heap) (hbl : b < s.heap.size) (hlow : lw_low s g) {i : Nat} (hi : i + 5 ≤ L) {μ ν : Mem} (hI : Iv i μ ν) {H : Heap} {ls : Array Slot} (hRc : av_R av_wc g μ s H []) (hRm : av_R av_wm g ν s H []) (hl : lv_has ls 4 [(0, .ref b), (1, .ref (g.2.2 0)), (2, .ref (g.2.2 98)), (3, .int (nI i))]) (hs : lw_st_coalition Iv) (kn : ∀ (μ ν : Mem) (H : Heap), Iv (i + 5) μ ν → av_R av_wc g μ s H [] → av_R av_wm g ν s H [] → W p l e room_1 s m #[Value.ref b] below meth c H [] 600000 7302249 (lw_Z below #[Value.ref b] s) (F0 m 1004 ls [])) : W p l e room_1 s m #[Value.ref b] below meth c H [] 600000 7302249 (lw_Z below #[Value.ref b] s) (F0 m 462 ls []) := by
  obtain ⟨hx, hb, hr, hml, hown, hts, hlocks⟩ := id E
  have hnb : ¬ av_A av_wc g b := lw_nb (by decide) hbl hlow
  obtain ⟨r, e1, e2, hI2⟩ := hs i (by omega)  μ ν hI
  refine lv_aload_n hx hb dL_law_462 rfl (lv_at hl 1 rfl) ?_
  refine lw_goI hRc hRm (by decide) (by decide) hlow lw_dcm (av_cV (As := []) (rest := []) E Xc hRc hl.1 (CX11_coalition l g e1) kk_L_65 (lw_rm (by omega) (by decide)) av_t0 (by decide) rfl rfl (Nat.le_of_ble_eq_true rfl) ⟨Nat.le_refl _, Nat.le_refl _⟩ dL_law_463) (fun H hRc hRm => ?_)
  refine lv_aload_n hx hb dL_law_466 rfl (lv_at hl 2 rfl) ?_
  refine lw_goI hRm hRc (by decide) (by decide) hlow lw_dmc (av_cV (As := []) (rest := [.int r]) E Xm hRm hl.1 (CX12_coalition l g e2) kk_L_68 (lw_rm (by omega) (by decide)) av_t98 (by decide) rfl rfl (Nat.le_of_ble_eq_true rfl) ⟨Nat.le_refl _, Nat.le_refl _⟩ dL_law_467) (fun H hRm hRc => ?_)
  refine lv_icmp_eq (tgt := 1004) hx hb dL_law_470 (by decide) (fun _ => ?_) (fun cc => absurd rfl cc)
  exact kn μ ν H hI2 hRc hRm
set_option maxHeartbeats 4000000 in
set_option maxRecDepth 100000 in
theorem lw_c13 {p : Program} {l : Launch} {e : Env} {s : State} {m : MethodId} {below : List Frame} {meth : Method} {c : Code} {b L : Nat} {xs : Nat → Int32} {g : Gl} {Iv : Nat → Mem → Mem → Prop} (hL : L ≤ 320) (E : av_E p s m #[Value.ref b] meth c code RL 4 ret) (Xc : av_X av_wc g s) (Xm : av_X av_wm g s) (hX : va_X b L xs s s.heap) (hbl : b < s.heap.size) (hlow : lw_low s g) {i : Nat} (hi : i + 5 ≤ L) {μ ν : Mem} (hI : Iv i μ ν) {H : Heap} {ls : Array Slot} (hRc : av_R av_wc g μ s H []) (hRm : av_R av_wm g ν s H []) (hl : lv_has ls 4 [(0, .ref b), (1, .ref (g.2.2 0)), (2, .ref (g.2.2 98)), (3, .int (nI i))]) (hs : lw_st_february Iv) (kn : ∀ (μ ν : Mem) (H : Heap), Iv (i + 5) μ ν → av_R av_wc g μ s H [] → av_R av_wm g ν s H [] → W p l e room_1 s m #[Value.ref b] below meth c H [] 600000 7302249 (lw_Z below #[Value.ref b] s) (F0 m 1004 ls [])) : W p l e room_1 s m #[Value.ref b] below meth c H [] 600000 7302249 (lw_Z below #[Value.ref b] s) (F0 m 475 ls []) := by
  obtain ⟨hx, hb, hr, hml, hown, hts, hlocks⟩ := id E
  have hnb : ¬ av_A av_wc g b := lw_nb (by decide) hbl hlow
  have hin1 : vp_in (nI i + 1) L := lw_ix (k := 1) (by omega) hL
  obtain ⟨r, μ2, ν2, e1, e2, hI2⟩ := hs i (by omega) (xs (nI i + 1).toNatClampNeg) μ ν hI
  refine lv_aload_n hx hb dL_law_475 rfl (lv_at hl 1 rfl) ?_
  refine lv_aload_n hx hb dL_law_476 rfl (lv_at hl 0 rfl) ?_
  refine lv_iload_n hx hb dL_law_477 rfl (lv_at hl 3 rfl) ?_
  refine lv_iconst (v := 1) hx hb dL_law_478 rfl ?_
  refine lv_iadd hx hb dL_law_479 ?_
  refine va_sld hx hb hX hbl hnb hRc.2 hin1 dL_law_480 ?_
  refine lw_goI hRc hRm (by decide) (by decide) hlow lw_dcm (av_cV (As := [.int (xs (nI i + 1).toNatClampNeg)]) (rest := []) E Xc hRc hl.1 (CX11_february l g e1) kk_L_69 (lw_rm (by omega) (by decide)) av_t0 (by decide) rfl rfl (Nat.le_of_ble_eq_true rfl) ⟨Nat.le_refl _, Nat.le_refl _⟩ dL_law_481) (fun H hRc hRm => ?_)
  refine lv_aload_n hx hb dL_law_484 rfl (lv_at hl 2 rfl) ?_
  refine lv_aload_n hx hb dL_law_485 rfl (lv_at hl 0 rfl) ?_
  refine lv_iload_n hx hb dL_law_486 rfl (lv_at hl 3 rfl) ?_
  refine lv_iconst (v := 1) hx hb dL_law_487 rfl ?_
  refine lv_iadd hx hb dL_law_488 ?_
  refine va_sld hx hb hX hbl hnb hRc.2 hin1 dL_law_489 ?_
  refine lw_goI hRm hRc (by decide) (by decide) hlow lw_dmc (av_cV (As := [.int (xs (nI i + 1).toNatClampNeg)]) (rest := [.int r]) E Xm hRm hl.1 (CX12_february l g e2) kk_L_72 (lw_rm (by omega) (by decide)) av_t98 (by decide) rfl rfl (Nat.le_of_ble_eq_true rfl) ⟨Nat.le_refl _, Nat.le_refl _⟩ dL_law_490) (fun H hRm hRc => ?_)
  refine lv_icmp_eq (tgt := 1004) hx hb dL_law_493 (by decide) (fun _ => ?_) (fun cc => absurd rfl cc)
  exact kn μ2 ν2 H hI2 hRc hRm
set_option maxHeartbeats 4000000 in
set_option maxRecDepth 100000 in
theorem lw_c14 {p : Program} {l : Launch} {e : Env} {s : State} {m : MethodId} {below : List Frame} {meth : Method} {c : Code} {b L : Nat} {xs : Nat → Int32} {g : Gl} {Iv : Nat → Mem → Mem → Prop} (hL : L ≤ 320) (E : av_E p s m #[Value.ref b] meth c code RL 4 ret) (Xc : av_X av_wc g s) (Xm : av_X av_wm g s) (hX : va_X b L xs s s.heap) (hbl : b < s.heap.size) (hlow : lw_low s g) {i : Nat} (hi : i + 5 ≤ L) {μ ν : Mem} (hI : Iv i μ ν) {H : Heap} {ls : Array Slot} (hRc : av_R av_wc g μ s H []) (hRm : av_R av_wm g ν s H []) (hl : lv_has ls 4 [(0, .ref b), (1, .ref (g.2.2 0)), (2, .ref (g.2.2 98)), (3, .int (nI i))]) (hs : lw_st_orders Iv) (kn : ∀ (μ ν : Mem) (H : Heap), Iv (i + 5) μ ν → av_R av_wc g μ s H [] → av_R av_wm g ν s H [] → W p l e room_1 s m #[Value.ref b] below meth c H [] 600000 7302249 (lw_Z below #[Value.ref b] s) (F0 m 1004 ls [])) : W p l e room_1 s m #[Value.ref b] below meth c H [] 600000 7302249 (lw_Z below #[Value.ref b] s) (F0 m 498 ls []) := by
  obtain ⟨hx, hb, hr, hml, hown, hts, hlocks⟩ := id E
  have hnb : ¬ av_A av_wc g b := lw_nb (by decide) hbl hlow
  have hin1 : vp_in (nI i + 1) L := lw_ix (k := 1) (by omega) hL
  have hin2 : vp_in (nI i + 2) L := lw_ix (k := 2) (by omega) hL
  obtain ⟨r, μ2, ν2, e1, e2, hI2⟩ := hs i (by omega) (xs (nI i + 1).toNatClampNeg) (xs (nI i + 2).toNatClampNeg) μ ν hI
  refine lv_aload_n hx hb dL_law_498 rfl (lv_at hl 1 rfl) ?_
  refine lv_aload_n hx hb dL_law_499 rfl (lv_at hl 0 rfl) ?_
  refine lv_iload_n hx hb dL_law_500 rfl (lv_at hl 3 rfl) ?_
  refine lv_iconst (v := 1) hx hb dL_law_501 rfl ?_
  refine lv_iadd hx hb dL_law_502 ?_
  refine va_sld hx hb hX hbl hnb hRc.2 hin1 dL_law_503 ?_
  refine lv_aload_n hx hb dL_law_504 rfl (lv_at hl 0 rfl) ?_
  refine lv_iload_n hx hb dL_law_505 rfl (lv_at hl 3 rfl) ?_
  refine lv_iconst (v := 2) hx hb dL_law_506 rfl ?_
  refine lv_iadd hx hb dL_law_507 ?_
  refine va_sld hx hb hX hbl hnb hRc.2 hin2 dL_law_508 ?_
  refine lw_goI hRc hRm (by decide) (by decide) hlow lw_dcm (av_cV (As := [.int (xs (nI i + 1).toNatClampNeg), .int (xs (nI i + 2).toNatClampNeg)]) (rest := []) E Xc hRc hl.1 (CX11_orders l g e1) kk_L_73 (lw_rm (by omega) (by decide)) av_t0 (by decide) rfl rfl (Nat.le_of_ble_eq_true rfl) ⟨Nat.le_refl _, Nat.le_refl _⟩ dL_law_509) (fun H hRc hRm => ?_)
  refine lv_aload_n hx hb dL_law_512 rfl (lv_at hl 2 rfl) ?_
  refine lv_aload_n hx hb dL_law_513 rfl (lv_at hl 0 rfl) ?_
  refine lv_iload_n hx hb dL_law_514 rfl (lv_at hl 3 rfl) ?_
  refine lv_iconst (v := 1) hx hb dL_law_515 rfl ?_
  refine lv_iadd hx hb dL_law_516 ?_
  refine va_sld hx hb hX hbl hnb hRc.2 hin1 dL_law_517 ?_
  refine lv_aload_n hx hb dL_law_518 rfl (lv_at hl 0 rfl) ?_
  refine lv_iload_n hx hb dL_law_519 rfl (lv_at hl 3 rfl) ?_
  refine lv_iconst (v := 2) hx hb dL_law_520 rfl ?_
  refine lv_iadd hx hb dL_law_521 ?_
  refine va_sld hx hb hX hbl hnb hRc.2 hin2 dL_law_522 ?_
  refine lw_goI hRm hRc (by decide) (by decide) hlow lw_dmc (av_cV (As := [.int (xs (nI i + 1).toNatClampNeg), .int (xs (nI i + 2).toNatClampNeg)]) (rest := [.int r]) E Xm hRm hl.1 (CX12_orders l g e2) kk_L_76 (lw_rm (by omega) (by decide)) av_t98 (by decide) rfl rfl (Nat.le_of_ble_eq_true rfl) ⟨Nat.le_refl _, Nat.le_refl _⟩ dL_law_523) (fun H hRm hRc => ?_)
  refine lv_icmp_eq (tgt := 1004) hx hb dL_law_526 (by decide) (fun _ => ?_) (fun cc => absurd rfl cc)
  exact kn μ2 ν2 H hI2 hRc hRm
set_option maxHeartbeats 4000000 in
set_option maxRecDepth 100000 in
theorem lw_c15 {p : Program} {l : Launch} {e : Env} {s : State} {m : MethodId} {below : List Frame} {meth : Method} {c : Code} {b L : Nat} {xs : Nat → Int32} {g : Gl} {Iv : Nat → Mem → Mem → Prop} (hL : L ≤ 320) (E : av_E p s m #[Value.ref b] meth c code RL 4 ret) (Xc : av_X av_wc g s) (Xm : av_X av_wm g s) (hX : va_X b L xs s s.heap) (hbl : b < s.heap.size) (hlow : lw_low s g) {i : Nat} (hi : i + 5 ≤ L) {μ ν : Mem} (hI : Iv i μ ν) {H : Heap} {ls : Array Slot} (hRc : av_R av_wc g μ s H []) (hRm : av_R av_wm g ν s H []) (hl : lv_has ls 4 [(0, .ref b), (1, .ref (g.2.2 0)), (2, .ref (g.2.2 98)), (3, .int (nI i))]) (hs : lw_st_stones Iv) (kn : ∀ (μ ν : Mem) (H : Heap), Iv (i + 5) μ ν → av_R av_wc g μ s H [] → av_R av_wm g ν s H [] → W p l e room_1 s m #[Value.ref b] below meth c H [] 600000 7302249 (lw_Z below #[Value.ref b] s) (F0 m 1004 ls [])) : W p l e room_1 s m #[Value.ref b] below meth c H [] 600000 7302249 (lw_Z below #[Value.ref b] s) (F0 m 531 ls []) := by
  obtain ⟨hx, hb, hr, hml, hown, hts, hlocks⟩ := id E
  have hnb : ¬ av_A av_wc g b := lw_nb (by decide) hbl hlow
  have hin1 : vp_in (nI i + 1) L := lw_ix (k := 1) (by omega) hL
  have hin2 : vp_in (nI i + 2) L := lw_ix (k := 2) (by omega) hL
  obtain ⟨r, μ2, ν2, e1, e2, hI2⟩ := hs i (by omega) (xs (nI i + 1).toNatClampNeg) (xs (nI i + 2).toNatClampNeg) μ ν hI
  refine lv_aload_n hx hb dL_law_531 rfl (lv_at hl 1 rfl) ?_
  refine lv_aload_n hx hb dL_law_532 rfl (lv_at hl 0 rfl) ?_
  refine lv_iload_n hx hb dL_law_533 rfl (lv_at hl 3 rfl) ?_
  refine lv_iconst (v := 1) hx hb dL_law_534 rfl ?_
  refine lv_iadd hx hb dL_law_535 ?_
  refine va_sld hx hb hX hbl hnb hRc.2 hin1 dL_law_536 ?_
  refine lv_aload_n hx hb dL_law_537 rfl (lv_at hl 0 rfl) ?_
  refine lv_iload_n hx hb dL_law_538 rfl (lv_at hl 3 rfl) ?_
  refine lv_iconst (v := 2) hx hb dL_law_539 rfl ?_
  refine lv_iadd hx hb dL_law_540 ?_
  refine va_sld hx hb hX hbl hnb hRc.2 hin2 dL_law_541 ?_
  refine lw_goI hRc hRm (by decide) (by decide) hlow lw_dcm (av_cV (As := [.int (xs (nI i + 1).toNatClampNeg), .int (xs (nI i + 2).toNatClampNeg)]) (rest := []) E Xc hRc hl.1 (CX11_stones l g e1) kk_L_77 (lw_rm (by omega) (by decide)) av_t0 (by decide) rfl rfl (Nat.le_of_ble_eq_true rfl) ⟨Nat.le_refl _, Nat.le_refl _⟩ dL_law_542) (fun H hRc hRm => ?_)
  refine lv_aload_n hx hb dL_law_545 rfl (lv_at hl 2 rfl) ?_
  refine lv_aload_n hx hb dL_law_546 rfl (lv_at hl 0 rfl) ?_
  refine lv_iload_n hx hb dL_law_547 rfl (lv_at hl 3 rfl) ?_
  refine lv_iconst (v := 1) hx hb dL_law_548 rfl ?_
  refine lv_iadd hx hb dL_law_549 ?_
  refine va_sld hx hb hX hbl hnb hRc.2 hin1 dL_law_550 ?_
  refine lv_aload_n hx hb dL_law_551 rfl (lv_at hl 0 rfl) ?_
  refine lv_iload_n hx hb dL_law_552 rfl (lv_at hl 3 rfl) ?_
  refine lv_iconst (v := 2) hx hb dL_law_553 rfl ?_
  refine lv_iadd hx hb dL_law_554 ?_
  refine va_sld hx hb hX hbl hnb hRc.2 hin2 dL_law_555 ?_
  refine lw_goI hRm hRc (by decide) (by decide) hlow lw_dmc (av_cV (As := [.int (xs (nI i + 1).toNatClampNeg), .int (xs (nI i + 2).toNatClampNeg)]) (rest := [.int r]) E Xm hRm hl.1 (CX12_stones l g e2) kk_L_80 (lw_rm (by omega) (by decide)) av_t98 (by decide) rfl rfl (Nat.le_of_ble_eq_true rfl) ⟨Nat.le_refl _, Nat.le_refl _⟩ dL_law_556) (fun H hRm hRc => ?_)
  refine lv_icmp_eq (tgt := 1004) hx hb dL_law_559 (by decide) (fun _ => ?_) (fun cc => absurd rfl cc)
  exact kn μ2 ν2 H hI2 hRc hRm
set_option maxHeartbeats 4000000 in
set_option maxRecDepth 100000 in
theorem lw_c16 {p : Program} {l : Launch} {e : Env} {s : State} {m : MethodId} {below : List Frame} {meth : Method} {c : Code} {b L : Nat} {xs : Nat → Int32} {g : Gl} {Iv : Nat → Mem → Mem → Prop} (hL : L ≤ 320) (E : av_E p s m #[Value.ref b] meth c code RL 4 ret) (Xc : av_X av_wc g s) (Xm : av_X av_wm g s) (hX : va_X b L xs s s.heap) (hbl : b < s.heap.size) (hlow : lw_low s g) {i : Nat} (hi : i + 5 ≤ L) {μ ν : Mem} (hI : Iv i μ ν) {H : Heap} {ls : Array Slot} (hRc : av_R av_wc g μ s H []) (hRm : av_R av_wm g ν s H []) (hl : lv_has ls 4 [(0, .ref b), (1, .ref (g.2.2 0)), (2, .ref (g.2.2 98)), (3, .int (nI i))]) (hs : lw_st_buried Iv) (kn : ∀ (μ ν : Mem) (H : Heap), Iv (i + 5) μ ν → av_R av_wc g μ s H [] → av_R av_wm g ν s H [] → W p l e room_1 s m #[Value.ref b] below meth c H [] 600000 7302249 (lw_Z below #[Value.ref b] s) (F0 m 1004 ls [])) : W p l e room_1 s m #[Value.ref b] below meth c H [] 600000 7302249 (lw_Z below #[Value.ref b] s) (F0 m 564 ls []) := by
  obtain ⟨hx, hb, hr, hml, hown, hts, hlocks⟩ := id E
  have hnb : ¬ av_A av_wc g b := lw_nb (by decide) hbl hlow
  have hin1 : vp_in (nI i + 1) L := lw_ix (k := 1) (by omega) hL
  have hin2 : vp_in (nI i + 2) L := lw_ix (k := 2) (by omega) hL
  obtain ⟨r, μ2, ν2, e1, e2, hI2⟩ := hs i (by omega) (xs (nI i + 1).toNatClampNeg) (xs (nI i + 2).toNatClampNeg) μ ν hI
  refine lv_aload_n hx hb dL_law_564 rfl (lv_at hl 1 rfl) ?_
  refine lv_aload_n hx hb dL_law_565 rfl (lv_at hl 0 rfl) ?_
  refine lv_iload_n hx hb dL_law_566 rfl (lv_at hl 3 rfl) ?_
  refine lv_iconst (v := 1) hx hb dL_law_567 rfl ?_
  refine lv_iadd hx hb dL_law_568 ?_
  refine va_sld hx hb hX hbl hnb hRc.2 hin1 dL_law_569 ?_
  refine lv_aload_n hx hb dL_law_570 rfl (lv_at hl 0 rfl) ?_
  refine lv_iload_n hx hb dL_law_571 rfl (lv_at hl 3 rfl) ?_
  refine lv_iconst (v := 2) hx hb dL_law_572 rfl ?_
  refine lv_iadd hx hb dL_law_573 ?_
  refine va_sld hx hb hX hbl hnb hRc.2 hin2 dL_law_574 ?_
  refine lw_goI hRc hRm (by decide) (by decide) hlow lw_dcm (av_cV (As := [.int (xs (nI i + 1).toNatClampNeg), .int (xs (nI i + 2).toNatClampNeg)]) (rest := []) E Xc hRc hl.1 (CX11_buried l g e1) kk_L_81 (lw_rm (by omega) (by decide)) av_t0 (by decide) rfl rfl (Nat.le_of_ble_eq_true rfl) ⟨Nat.le_refl _, Nat.le_refl _⟩ dL_law_575) (fun H hRc hRm => ?_)
  refine lv_aload_n hx hb dL_law_578 rfl (lv_at hl 2 rfl) ?_
  refine lv_aload_n hx hb dL_law_579 rfl (lv_at hl 0 rfl) ?_
  refine lv_iload_n hx hb dL_law_580 rfl (lv_at hl 3 rfl) ?_
  refine lv_iconst (v := 1) hx hb dL_law_581 rfl ?_
  refine lv_iadd hx hb dL_law_582 ?_
  refine va_sld hx hb hX hbl hnb hRc.2 hin1 dL_law_583 ?_
  refine lv_aload_n hx hb dL_law_584 rfl (lv_at hl 0 rfl) ?_
  refine lv_iload_n hx hb dL_law_585 rfl (lv_at hl 3 rfl) ?_
  refine lv_iconst (v := 2) hx hb dL_law_586 rfl ?_
  refine lv_iadd hx hb dL_law_587 ?_
  refine va_sld hx hb hX hbl hnb hRc.2 hin2 dL_law_588 ?_
  refine lw_goI hRm hRc (by decide) (by decide) hlow lw_dmc (av_cV (As := [.int (xs (nI i + 1).toNatClampNeg), .int (xs (nI i + 2).toNatClampNeg)]) (rest := [.int r]) E Xm hRm hl.1 (CX12_buried l g e2) kk_L_84 (lw_rm (by omega) (by decide)) av_t98 (by decide) rfl rfl (Nat.le_of_ble_eq_true rfl) ⟨Nat.le_refl _, Nat.le_refl _⟩ dL_law_589) (fun H hRm hRc => ?_)
  refine lv_icmp_eq (tgt := 1004) hx hb dL_law_592 (by decide) (fun _ => ?_) (fun cc => absurd rfl cc)
  exact kn μ2 ν2 H hI2 hRc hRm
set_option maxHeartbeats 4000000 in
set_option maxRecDepth 100000 in
theorem lw_c17 {p : Program} {l : Launch} {e : Env} {s : State} {m : MethodId} {below : List Frame} {meth : Method} {c : Code} {b L : Nat} {xs : Nat → Int32} {g : Gl} {Iv : Nat → Mem → Mem → Prop} (hL : L ≤ 320) (E : av_E p s m #[Value.ref b] meth c code RL 4 ret) (Xc : av_X av_wc g s) (Xm : av_X av_wm g s) (hX : va_X b L xs s s.heap) (hbl : b < s.heap.size) (hlow : lw_low s g) {i : Nat} (hi : i + 5 ≤ L) {μ ν : Mem} (hI : Iv i μ ν) {H : Heap} {ls : Array Slot} (hRc : av_R av_wc g μ s H []) (hRm : av_R av_wm g ν s H []) (hl : lv_has ls 4 [(0, .ref b), (1, .ref (g.2.2 0)), (2, .ref (g.2.2 98)), (3, .int (nI i))]) (hs : lw_st_nights Iv) (kn : ∀ (μ ν : Mem) (H : Heap), Iv (i + 5) μ ν → av_R av_wc g μ s H [] → av_R av_wm g ν s H [] → W p l e room_1 s m #[Value.ref b] below meth c H [] 600000 7302249 (lw_Z below #[Value.ref b] s) (F0 m 1004 ls [])) : W p l e room_1 s m #[Value.ref b] below meth c H [] 600000 7302249 (lw_Z below #[Value.ref b] s) (F0 m 597 ls []) := by
  obtain ⟨hx, hb, hr, hml, hown, hts, hlocks⟩ := id E
  have hnb : ¬ av_A av_wc g b := lw_nb (by decide) hbl hlow
  have hin1 : vp_in (nI i + 1) L := lw_ix (k := 1) (by omega) hL
  have hin2 : vp_in (nI i + 2) L := lw_ix (k := 2) (by omega) hL
  obtain ⟨r, μ2, ν2, e1, e2, hI2⟩ := hs i (by omega) (xs (nI i + 1).toNatClampNeg) (xs (nI i + 2).toNatClampNeg) μ ν hI
  refine lv_aload_n hx hb dL_law_597 rfl (lv_at hl 1 rfl) ?_
  refine lv_aload_n hx hb dL_law_598 rfl (lv_at hl 0 rfl) ?_
  refine lv_iload_n hx hb dL_law_599 rfl (lv_at hl 3 rfl) ?_
  refine lv_iconst (v := 1) hx hb dL_law_600 rfl ?_
  refine lv_iadd hx hb dL_law_601 ?_
  refine va_sld hx hb hX hbl hnb hRc.2 hin1 dL_law_602 ?_
  refine lv_aload_n hx hb dL_law_603 rfl (lv_at hl 0 rfl) ?_
  refine lv_iload_n hx hb dL_law_604 rfl (lv_at hl 3 rfl) ?_
  refine lv_iconst (v := 2) hx hb dL_law_605 rfl ?_
  refine lv_iadd hx hb dL_law_606 ?_
  refine va_sld hx hb hX hbl hnb hRc.2 hin2 dL_law_607 ?_
  refine lw_goI hRc hRm (by decide) (by decide) hlow lw_dcm (av_cV (As := [.int (xs (nI i + 1).toNatClampNeg), .int (xs (nI i + 2).toNatClampNeg)]) (rest := []) E Xc hRc hl.1 (CX11_nights l g e1) kk_L_85 (lw_rm (by omega) (by decide)) av_t0 (by decide) rfl rfl (Nat.le_of_ble_eq_true rfl) ⟨Nat.le_refl _, Nat.le_refl _⟩ dL_law_608) (fun H hRc hRm => ?_)
  refine lv_aload_n hx hb dL_law_611 rfl (lv_at hl 2 rfl) ?_
  refine lv_aload_n hx hb dL_law_612 rfl (lv_at hl 0 rfl) ?_
  refine lv_iload_n hx hb dL_law_613 rfl (lv_at hl 3 rfl) ?_
  refine lv_iconst (v := 1) hx hb dL_law_614 rfl ?_
  refine lv_iadd hx hb dL_law_615 ?_
  refine va_sld hx hb hX hbl hnb hRc.2 hin1 dL_law_616 ?_
  refine lv_aload_n hx hb dL_law_617 rfl (lv_at hl 0 rfl) ?_
  refine lv_iload_n hx hb dL_law_618 rfl (lv_at hl 3 rfl) ?_
  refine lv_iconst (v := 2) hx hb dL_law_619 rfl ?_
  refine lv_iadd hx hb dL_law_620 ?_
  refine va_sld hx hb hX hbl hnb hRc.2 hin2 dL_law_621 ?_
  refine lw_goI hRm hRc (by decide) (by decide) hlow lw_dmc (av_cV (As := [.int (xs (nI i + 1).toNatClampNeg), .int (xs (nI i + 2).toNatClampNeg)]) (rest := [.int r]) E Xm hRm hl.1 (CX12_nights l g e2) kk_L_88 (lw_rm (by omega) (by decide)) av_t98 (by decide) rfl rfl (Nat.le_of_ble_eq_true rfl) ⟨Nat.le_refl _, Nat.le_refl _⟩ dL_law_622) (fun H hRm hRc => ?_)
  refine lv_icmp_eq (tgt := 1004) hx hb dL_law_625 (by decide) (fun _ => ?_) (fun cc => absurd rfl cc)
  exact kn μ2 ν2 H hI2 hRc hRm
set_option maxHeartbeats 4000000 in
set_option maxRecDepth 100000 in
theorem lw_c18 {p : Program} {l : Launch} {e : Env} {s : State} {m : MethodId} {below : List Frame} {meth : Method} {c : Code} {b L : Nat} {xs : Nat → Int32} {g : Gl} {Iv : Nat → Mem → Mem → Prop} (hL : L ≤ 320) (E : av_E p s m #[Value.ref b] meth c code RL 4 ret) (Xc : av_X av_wc g s) (Xm : av_X av_wm g s) (hX : va_X b L xs s s.heap) (hbl : b < s.heap.size) (hlow : lw_low s g) {i : Nat} (hi : i + 5 ≤ L) {μ ν : Mem} (hI : Iv i μ ν) {H : Heap} {ls : Array Slot} (hRc : av_R av_wc g μ s H []) (hRm : av_R av_wm g ν s H []) (hl : lv_has ls 4 [(0, .ref b), (1, .ref (g.2.2 0)), (2, .ref (g.2.2 98)), (3, .int (nI i))]) (hs : lw_st_parties Iv) (kn : ∀ (μ ν : Mem) (H : Heap), Iv (i + 5) μ ν → av_R av_wc g μ s H [] → av_R av_wm g ν s H [] → W p l e room_1 s m #[Value.ref b] below meth c H [] 600000 7302249 (lw_Z below #[Value.ref b] s) (F0 m 1004 ls [])) : W p l e room_1 s m #[Value.ref b] below meth c H [] 600000 7302249 (lw_Z below #[Value.ref b] s) (F0 m 630 ls []) := by
  obtain ⟨hx, hb, hr, hml, hown, hts, hlocks⟩ := id E
  have hnb : ¬ av_A av_wc g b := lw_nb (by decide) hbl hlow
  have hin1 : vp_in (nI i + 1) L := lw_ix (k := 1) (by omega) hL
  have hin2 : vp_in (nI i + 2) L := lw_ix (k := 2) (by omega) hL
  have hin3 : vp_in (nI i + 3) L := lw_ix (k := 3) (by omega) hL
  have hin4 : vp_in (nI i + 4) L := lw_ix (k := 4) (by omega) hL
  obtain ⟨r, μ2, ν2, e1, e2, hI2⟩ := hs i (by omega) (xs (nI i + 1).toNatClampNeg) (xs (nI i + 2).toNatClampNeg) (xs (nI i + 3).toNatClampNeg) (xs (nI i + 4).toNatClampNeg) μ ν hI
  refine lv_aload_n hx hb dL_law_630 rfl (lv_at hl 1 rfl) ?_
  refine lv_aload_n hx hb dL_law_631 rfl (lv_at hl 0 rfl) ?_
  refine lv_iload_n hx hb dL_law_632 rfl (lv_at hl 3 rfl) ?_
  refine lv_iconst (v := 1) hx hb dL_law_633 rfl ?_
  refine lv_iadd hx hb dL_law_634 ?_
  refine va_sld hx hb hX hbl hnb hRc.2 hin1 dL_law_635 ?_
  refine lv_aload_n hx hb dL_law_636 rfl (lv_at hl 0 rfl) ?_
  refine lv_iload_n hx hb dL_law_637 rfl (lv_at hl 3 rfl) ?_
  refine lv_iconst (v := 2) hx hb dL_law_638 rfl ?_
  refine lv_iadd hx hb dL_law_639 ?_
  refine va_sld hx hb hX hbl hnb hRc.2 hin2 dL_law_640 ?_
  refine lv_aload_n hx hb dL_law_641 rfl (lv_at hl 0 rfl) ?_
  refine lv_iload_n hx hb dL_law_642 rfl (lv_at hl 3 rfl) ?_
  refine lv_iconst (v := 3) hx hb dL_law_643 rfl ?_
  refine lv_iadd hx hb dL_law_644 ?_
  refine va_sld hx hb hX hbl hnb hRc.2 hin3 dL_law_645 ?_
  refine lv_aload_n hx hb dL_law_646 rfl (lv_at hl 0 rfl) ?_
  refine lv_iload_n hx hb dL_law_647 rfl (lv_at hl 3 rfl) ?_
  refine lv_iconst (v := 4) hx hb dL_law_648 rfl ?_
  refine lv_iadd hx hb dL_law_649 ?_
  refine va_sld hx hb hX hbl hnb hRc.2 hin4 dL_law_650 ?_
  refine lw_goI hRc hRm (by decide) (by decide) hlow lw_dcm (av_cV (As := [.int (xs (nI i + 1).toNatClampNeg), .int (xs (nI i + 2).toNatClampNeg), .int (xs (nI i + 3).toNatClampNeg), .int (xs (nI i + 4).toNatClampNeg)]) (rest := []) E Xc hRc hl.1 (CX11_parties l g e1) kk_L_89 (lw_rm (by omega) (by decide)) av_t0 (by decide) rfl rfl (Nat.le_of_ble_eq_true rfl) ⟨Nat.le_refl _, Nat.le_refl _⟩ dL_law_651) (fun H hRc hRm => ?_)
  refine lv_aload_n hx hb dL_law_654 rfl (lv_at hl 2 rfl) ?_
  refine lv_aload_n hx hb dL_law_655 rfl (lv_at hl 0 rfl) ?_
  refine lv_iload_n hx hb dL_law_656 rfl (lv_at hl 3 rfl) ?_
  refine lv_iconst (v := 1) hx hb dL_law_657 rfl ?_
  refine lv_iadd hx hb dL_law_658 ?_
  refine va_sld hx hb hX hbl hnb hRc.2 hin1 dL_law_659 ?_
  refine lv_aload_n hx hb dL_law_660 rfl (lv_at hl 0 rfl) ?_
  refine lv_iload_n hx hb dL_law_661 rfl (lv_at hl 3 rfl) ?_
  refine lv_iconst (v := 2) hx hb dL_law_662 rfl ?_
  refine lv_iadd hx hb dL_law_663 ?_
  refine va_sld hx hb hX hbl hnb hRc.2 hin2 dL_law_664 ?_
  refine lv_aload_n hx hb dL_law_665 rfl (lv_at hl 0 rfl) ?_
  refine lv_iload_n hx hb dL_law_666 rfl (lv_at hl 3 rfl) ?_
  refine lv_iconst (v := 3) hx hb dL_law_667 rfl ?_
  refine lv_iadd hx hb dL_law_668 ?_
  refine va_sld hx hb hX hbl hnb hRc.2 hin3 dL_law_669 ?_
  refine lv_aload_n hx hb dL_law_670 rfl (lv_at hl 0 rfl) ?_
  refine lv_iload_n hx hb dL_law_671 rfl (lv_at hl 3 rfl) ?_
  refine lv_iconst (v := 4) hx hb dL_law_672 rfl ?_
  refine lv_iadd hx hb dL_law_673 ?_
  refine va_sld hx hb hX hbl hnb hRc.2 hin4 dL_law_674 ?_
  refine lw_goI hRm hRc (by decide) (by decide) hlow lw_dmc (av_cV (As := [.int (xs (nI i + 1).toNatClampNeg), .int (xs (nI i + 2).toNatClampNeg), .int (xs (nI i + 3).toNatClampNeg), .int (xs (nI i + 4).toNatClampNeg)]) (rest := [.int r]) E Xm hRm hl.1 (CX12_parties l g e2) kk_L_93 (lw_rm (by omega) (by decide)) av_t98 (by decide) rfl rfl (Nat.le_of_ble_eq_true rfl) ⟨Nat.le_refl _, Nat.le_refl _⟩ dL_law_675) (fun H hRm hRc => ?_)
  refine lv_icmp_eq (tgt := 1004) hx hb dL_law_678 (by decide) (fun _ => ?_) (fun cc => absurd rfl cc)
  exact kn μ2 ν2 H hI2 hRc hRm
set_option maxHeartbeats 4000000 in
set_option maxRecDepth 100000 in
theorem lw_c19 {p : Program} {l : Launch} {e : Env} {s : State} {m : MethodId} {below : List Frame} {meth : Method} {c : Code} {b L : Nat} {xs : Nat → Int32} {g : Gl} {Iv : Nat → Mem → Mem → Prop} (hL : L ≤ 320) (E : av_E p s m #[Value.ref b] meth c code RL 4 ret) (Xc : av_X av_wc g s) (Xm : av_X av_wm g s) (hX : va_X b L xs s s.heap) (hbl : b < s.heap.size) (hlow : lw_low s g) {i : Nat} (hi : i + 5 ≤ L) {μ ν : Mem} (hI : Iv i μ ν) {H : Heap} {ls : Array Slot} (hRc : av_R av_wc g μ s H []) (hRm : av_R av_wm g ν s H []) (hl : lv_has ls 4 [(0, .ref b), (1, .ref (g.2.2 0)), (2, .ref (g.2.2 98)), (3, .int (nI i))]) (hs : lw_st_seen Iv) (kn : ∀ (μ ν : Mem) (H : Heap), Iv (i + 5) μ ν → av_R av_wc g μ s H [] → av_R av_wm g ν s H [] → W p l e room_1 s m #[Value.ref b] below meth c H [] 600000 7302249 (lw_Z below #[Value.ref b] s) (F0 m 1004 ls [])) : W p l e room_1 s m #[Value.ref b] below meth c H [] 600000 7302249 (lw_Z below #[Value.ref b] s) (F0 m 683 ls []) := by
  obtain ⟨hx, hb, hr, hml, hown, hts, hlocks⟩ := id E
  have hnb : ¬ av_A av_wc g b := lw_nb (by decide) hbl hlow
  have hin1 : vp_in (nI i + 1) L := lw_ix (k := 1) (by omega) hL
  have hin2 : vp_in (nI i + 2) L := lw_ix (k := 2) (by omega) hL
  obtain ⟨r, μ2, ν2, e1, e2, hI2⟩ := hs i (by omega) (xs (nI i + 1).toNatClampNeg) (xs (nI i + 2).toNatClampNeg) μ ν hI
  refine lv_aload_n hx hb dL_law_683 rfl (lv_at hl 1 rfl) ?_
  refine lv_aload_n hx hb dL_law_684 rfl (lv_at hl 0 rfl) ?_
  refine lv_iload_n hx hb dL_law_685 rfl (lv_at hl 3 rfl) ?_
  refine lv_iconst (v := 1) hx hb dL_law_686 rfl ?_
  refine lv_iadd hx hb dL_law_687 ?_
  refine va_sld hx hb hX hbl hnb hRc.2 hin1 dL_law_688 ?_
  refine lv_aload_n hx hb dL_law_689 rfl (lv_at hl 0 rfl) ?_
  refine lv_iload_n hx hb dL_law_690 rfl (lv_at hl 3 rfl) ?_
  refine lv_iconst (v := 2) hx hb dL_law_691 rfl ?_
  refine lv_iadd hx hb dL_law_692 ?_
  refine va_sld hx hb hX hbl hnb hRc.2 hin2 dL_law_693 ?_
  refine lw_goI hRc hRm (by decide) (by decide) hlow lw_dcm (av_cV (As := [.int (xs (nI i + 1).toNatClampNeg), .int (xs (nI i + 2).toNatClampNeg)]) (rest := []) E Xc hRc hl.1 (CX11_seen l g e1) kk_L_94 (lw_rm (by omega) (by decide)) av_t0 (by decide) rfl rfl (Nat.le_of_ble_eq_true rfl) ⟨Nat.le_refl _, Nat.le_refl _⟩ dL_law_694) (fun H hRc hRm => ?_)
  refine lv_aload_n hx hb dL_law_697 rfl (lv_at hl 2 rfl) ?_
  refine lv_aload_n hx hb dL_law_698 rfl (lv_at hl 0 rfl) ?_
  refine lv_iload_n hx hb dL_law_699 rfl (lv_at hl 3 rfl) ?_
  refine lv_iconst (v := 1) hx hb dL_law_700 rfl ?_
  refine lv_iadd hx hb dL_law_701 ?_
  refine va_sld hx hb hX hbl hnb hRc.2 hin1 dL_law_702 ?_
  refine lv_aload_n hx hb dL_law_703 rfl (lv_at hl 0 rfl) ?_
  refine lv_iload_n hx hb dL_law_704 rfl (lv_at hl 3 rfl) ?_
  refine lv_iconst (v := 2) hx hb dL_law_705 rfl ?_
  refine lv_iadd hx hb dL_law_706 ?_
  refine va_sld hx hb hX hbl hnb hRc.2 hin2 dL_law_707 ?_
  refine lw_goI hRm hRc (by decide) (by decide) hlow lw_dmc (av_cV (As := [.int (xs (nI i + 1).toNatClampNeg), .int (xs (nI i + 2).toNatClampNeg)]) (rest := [.int r]) E Xm hRm hl.1 (CX12_seen l g e2) kk_L_97 (lw_rm (by omega) (by decide)) av_t98 (by decide) rfl rfl (Nat.le_of_ble_eq_true rfl) ⟨Nat.le_refl _, Nat.le_refl _⟩ dL_law_708) (fun H hRm hRc => ?_)
  refine lv_icmp_eq (tgt := 1004) hx hb dL_law_711 (by decide) (fun _ => ?_) (fun cc => absurd rfl cc)
  exact kn μ2 ν2 H hI2 hRc hRm
set_option maxHeartbeats 4000000 in
set_option maxRecDepth 100000 in
theorem lw_c20 {p : Program} {l : Launch} {e : Env} {s : State} {m : MethodId} {below : List Frame} {meth : Method} {c : Code} {b L : Nat} {xs : Nat → Int32} {g : Gl} {Iv : Nat → Mem → Mem → Prop} (hL : L ≤ 320) (E : av_E p s m #[Value.ref b] meth c code RL 4 ret) (Xc : av_X av_wc g s) (Xm : av_X av_wm g s) (hX : va_X b L xs s s.heap) (hbl : b < s.heap.size) (hlow : lw_low s g) {i : Nat} (hi : i + 5 ≤ L) {μ ν : Mem} (hI : Iv i μ ν) {H : Heap} {ls : Array Slot} (hRc : av_R av_wc g μ s H []) (hRm : av_R av_wm g ν s H []) (hl : lv_has ls 4 [(0, .ref b), (1, .ref (g.2.2 0)), (2, .ref (g.2.2 98)), (3, .int (nI i))]) (hs : lw_st_forget Iv) (kn : ∀ (μ ν : Mem) (H : Heap), Iv (i + 5) μ ν → av_R av_wc g μ s H [] → av_R av_wm g ν s H [] → W p l e room_1 s m #[Value.ref b] below meth c H [] 600000 7302249 (lw_Z below #[Value.ref b] s) (F0 m 1004 ls [])) : W p l e room_1 s m #[Value.ref b] below meth c H [] 600000 7302249 (lw_Z below #[Value.ref b] s) (F0 m 716 ls []) := by
  obtain ⟨hx, hb, hr, hml, hown, hts, hlocks⟩ := id E
  have hnb : ¬ av_A av_wc g b := lw_nb (by decide) hbl hlow
  obtain ⟨r, μ2, ν2, e1, e2, hI2⟩ := hs i (by omega)  μ ν hI
  refine lv_aload_n hx hb dL_law_716 rfl (lv_at hl 1 rfl) ?_
  refine lw_goI hRc hRm (by decide) (by decide) hlow lw_dcm (av_cV (As := []) (rest := []) E Xc hRc hl.1 (CX11_forget l g e1) kk_L_98 (lw_rm (by omega) (by decide)) av_t0 (by decide) rfl rfl (Nat.le_of_ble_eq_true rfl) ⟨Nat.le_refl _, Nat.le_refl _⟩ dL_law_717) (fun H hRc hRm => ?_)
  refine lv_aload_n hx hb dL_law_720 rfl (lv_at hl 2 rfl) ?_
  refine lw_goI hRm hRc (by decide) (by decide) hlow lw_dmc (av_cV (As := []) (rest := [.int r]) E Xm hRm hl.1 (CX12_forget l g e2) kk_L_101 (lw_rm (by omega) (by decide)) av_t98 (by decide) rfl rfl (Nat.le_of_ble_eq_true rfl) ⟨Nat.le_refl _, Nat.le_refl _⟩ dL_law_721) (fun H hRm hRc => ?_)
  refine lv_icmp_eq (tgt := 1004) hx hb dL_law_724 (by decide) (fun _ => ?_) (fun cc => absurd rfl cc)
  exact kn μ2 ν2 H hI2 hRc hRm
set_option maxHeartbeats 4000000 in
set_option maxRecDepth 100000 in
theorem lw_c21 {p : Program} {l : Launch} {e : Env} {s : State} {m : MethodId} {below : List Frame} {meth : Method} {c : Code} {b L : Nat} {xs : Nat → Int32} {g : Gl} {Iv : Nat → Mem → Mem → Prop} (hL : L ≤ 320) (E : av_E p s m #[Value.ref b] meth c code RL 4 ret) (Xc : av_X av_wc g s) (Xm : av_X av_wm g s) (hX : va_X b L xs s s.heap) (hbl : b < s.heap.size) (hlow : lw_low s g) {i : Nat} (hi : i + 5 ≤ L) {μ ν : Mem} (hI : Iv i μ ν) {H : Heap} {ls : Array Slot} (hRc : av_R av_wc g μ s H []) (hRm : av_R av_wm g ν s H []) (hl : lv_has ls 4 [(0, .ref b), (1, .ref (g.2.2 0)), (2, .ref (g.2.2 98)), (3, .int (nI i))]) (hs : lw_st_hold Iv) (kn : ∀ (μ ν : Mem) (H : Heap), Iv (i + 5) μ ν → av_R av_wc g μ s H [] → av_R av_wm g ν s H [] → W p l e room_1 s m #[Value.ref b] below meth c H [] 600000 7302249 (lw_Z below #[Value.ref b] s) (F0 m 1004 ls [])) : W p l e room_1 s m #[Value.ref b] below meth c H [] 600000 7302249 (lw_Z below #[Value.ref b] s) (F0 m 729 ls []) := by
  obtain ⟨hx, hb, hr, hml, hown, hts, hlocks⟩ := id E
  have hnb : ¬ av_A av_wc g b := lw_nb (by decide) hbl hlow
  have hin1 : vp_in (nI i + 1) L := lw_ix (k := 1) (by omega) hL
  obtain ⟨r, μ2, ν2, e1, e2, hI2⟩ := hs i (by omega) (xs (nI i + 1).toNatClampNeg) μ ν hI
  refine lv_aload_n hx hb dL_law_729 rfl (lv_at hl 1 rfl) ?_
  refine lv_aload_n hx hb dL_law_730 rfl (lv_at hl 0 rfl) ?_
  refine lv_iload_n hx hb dL_law_731 rfl (lv_at hl 3 rfl) ?_
  refine lv_iconst (v := 1) hx hb dL_law_732 rfl ?_
  refine lv_iadd hx hb dL_law_733 ?_
  refine va_sld hx hb hX hbl hnb hRc.2 hin1 dL_law_734 ?_
  refine lw_goI hRc hRm (by decide) (by decide) hlow lw_dcm (av_cV (As := [.int (xs (nI i + 1).toNatClampNeg)]) (rest := []) E Xc hRc hl.1 (CX11_hold l g e1) kk_L_102 (lw_rm (by omega) (by decide)) av_t0 (by decide) rfl rfl (Nat.le_of_ble_eq_true rfl) ⟨Nat.le_refl _, Nat.le_refl _⟩ dL_law_735) (fun H hRc hRm => ?_)
  refine lv_aload_n hx hb dL_law_738 rfl (lv_at hl 2 rfl) ?_
  refine lv_aload_n hx hb dL_law_739 rfl (lv_at hl 0 rfl) ?_
  refine lv_iload_n hx hb dL_law_740 rfl (lv_at hl 3 rfl) ?_
  refine lv_iconst (v := 1) hx hb dL_law_741 rfl ?_
  refine lv_iadd hx hb dL_law_742 ?_
  refine va_sld hx hb hX hbl hnb hRc.2 hin1 dL_law_743 ?_
  refine lw_goI hRm hRc (by decide) (by decide) hlow lw_dmc (av_cV (As := [.int (xs (nI i + 1).toNatClampNeg)]) (rest := [.int r]) E Xm hRm hl.1 (CX12_hold l g e2) kk_L_105 (lw_rm (by omega) (by decide)) av_t98 (by decide) rfl rfl (Nat.le_of_ble_eq_true rfl) ⟨Nat.le_refl _, Nat.le_refl _⟩ dL_law_744) (fun H hRm hRc => ?_)
  refine lv_icmp_eq (tgt := 1004) hx hb dL_law_747 (by decide) (fun _ => ?_) (fun cc => absurd rfl cc)
  exact kn μ2 ν2 H hI2 hRc hRm
set_option maxHeartbeats 4000000 in
set_option maxRecDepth 100000 in
theorem lw_c22 {p : Program} {l : Launch} {e : Env} {s : State} {m : MethodId} {below : List Frame} {meth : Method} {c : Code} {b L : Nat} {xs : Nat → Int32} {g : Gl} {Iv : Nat → Mem → Mem → Prop} (hL : L ≤ 320) (E : av_E p s m #[Value.ref b] meth c code RL 4 ret) (Xc : av_X av_wc g s) (Xm : av_X av_wm g s) (hX : va_X b L xs s s.heap) (hbl : b < s.heap.size) (hlow : lw_low s g) {i : Nat} (hi : i + 5 ≤ L) {μ ν : Mem} (hI : Iv i μ ν) {H : Heap} {ls : Array Slot} (hRc : av_R av_wc g μ s H []) (hRm : av_R av_wm g ν s H []) (hl : lv_has ls 4 [(0, .ref b), (1, .ref (g.2.2 0)), (2, .ref (g.2.2 98)), (3, .int (nI i))]) (hs : lw_st_stick Iv) (kn : ∀ (μ ν : Mem) (H : Heap), Iv (i + 5) μ ν → av_R av_wc g μ s H [] → av_R av_wm g ν s H [] → W p l e room_1 s m #[Value.ref b] below meth c H [] 600000 7302249 (lw_Z below #[Value.ref b] s) (F0 m 1004 ls [])) : W p l e room_1 s m #[Value.ref b] below meth c H [] 600000 7302249 (lw_Z below #[Value.ref b] s) (F0 m 752 ls []) := by
  obtain ⟨hx, hb, hr, hml, hown, hts, hlocks⟩ := id E
  have hnb : ¬ av_A av_wc g b := lw_nb (by decide) hbl hlow
  obtain ⟨r, e1, e2, hI2⟩ := hs i (by omega)  μ ν hI
  refine lv_aload_n hx hb dL_law_752 rfl (lv_at hl 1 rfl) ?_
  refine lw_goI hRc hRm (by decide) (by decide) hlow lw_dcm (av_cV (As := []) (rest := []) E Xc hRc hl.1 (CX11_stick l g e1) kk_L_106 (lw_rm (by omega) (by decide)) av_t0 (by decide) rfl rfl (Nat.le_of_ble_eq_true rfl) ⟨Nat.le_refl _, Nat.le_refl _⟩ dL_law_753) (fun H hRc hRm => ?_)
  refine lv_aload_n hx hb dL_law_756 rfl (lv_at hl 2 rfl) ?_
  refine lw_goI hRm hRc (by decide) (by decide) hlow lw_dmc (av_cV (As := []) (rest := [.int r]) E Xm hRm hl.1 (CX12_stick l g e2) kk_L_109 (lw_rm (by omega) (by decide)) av_t98 (by decide) rfl rfl (Nat.le_of_ble_eq_true rfl) ⟨Nat.le_refl _, Nat.le_refl _⟩ dL_law_757) (fun H hRm hRc => ?_)
  refine lv_icmp_eq (tgt := 1004) hx hb dL_law_760 (by decide) (fun _ => ?_) (fun cc => absurd rfl cc)
  exact kn μ ν H hI2 hRc hRm
set_option maxHeartbeats 4000000 in
set_option maxRecDepth 100000 in
theorem lw_c23 {p : Program} {l : Launch} {e : Env} {s : State} {m : MethodId} {below : List Frame} {meth : Method} {c : Code} {b L : Nat} {xs : Nat → Int32} {g : Gl} {Iv : Nat → Mem → Mem → Prop} (hL : L ≤ 320) (E : av_E p s m #[Value.ref b] meth c code RL 4 ret) (Xc : av_X av_wc g s) (Xm : av_X av_wm g s) (hX : va_X b L xs s s.heap) (hbl : b < s.heap.size) (hlow : lw_low s g) {i : Nat} (hi : i + 5 ≤ L) {μ ν : Mem} (hI : Iv i μ ν) {H : Heap} {ls : Array Slot} (hRc : av_R av_wc g μ s H []) (hRm : av_R av_wm g ν s H []) (hl : lv_has ls 4 [(0, .ref b), (1, .ref (g.2.2 0)), (2, .ref (g.2.2 98)), (3, .int (nI i))]) (hs : lw_st_is Iv) (kn : ∀ (μ ν : Mem) (H : Heap), Iv (i + 5) μ ν → av_R av_wc g μ s H [] → av_R av_wm g ν s H [] → W p l e room_1 s m #[Value.ref b] below meth c H [] 600000 7302249 (lw_Z below #[Value.ref b] s) (F0 m 1004 ls [])) : W p l e room_1 s m #[Value.ref b] below meth c H [] 600000 7302249 (lw_Z below #[Value.ref b] s) (F0 m 765 ls []) := by
  obtain ⟨hx, hb, hr, hml, hown, hts, hlocks⟩ := id E
  have hnb : ¬ av_A av_wc g b := lw_nb (by decide) hbl hlow
  have hin1 : vp_in (nI i + 1) L := lw_ix (k := 1) (by omega) hL
  have hin2 : vp_in (nI i + 2) L := lw_ix (k := 2) (by omega) hL
  have hin3 : vp_in (nI i + 3) L := lw_ix (k := 3) (by omega) hL
  obtain ⟨r, μ2, ν2, e1, e2, hI2⟩ := hs i (by omega) (xs (nI i + 1).toNatClampNeg) (xs (nI i + 2).toNatClampNeg) (xs (nI i + 3).toNatClampNeg) μ ν hI
  refine lv_aload_n hx hb dL_law_765 rfl (lv_at hl 1 rfl) ?_
  refine lv_aload_n hx hb dL_law_766 rfl (lv_at hl 0 rfl) ?_
  refine lv_iload_n hx hb dL_law_767 rfl (lv_at hl 3 rfl) ?_
  refine lv_iconst (v := 1) hx hb dL_law_768 rfl ?_
  refine lv_iadd hx hb dL_law_769 ?_
  refine va_sld hx hb hX hbl hnb hRc.2 hin1 dL_law_770 ?_
  refine lv_aload_n hx hb dL_law_771 rfl (lv_at hl 0 rfl) ?_
  refine lv_iload_n hx hb dL_law_772 rfl (lv_at hl 3 rfl) ?_
  refine lv_iconst (v := 2) hx hb dL_law_773 rfl ?_
  refine lv_iadd hx hb dL_law_774 ?_
  refine va_sld hx hb hX hbl hnb hRc.2 hin2 dL_law_775 ?_
  refine lv_aload_n hx hb dL_law_776 rfl (lv_at hl 0 rfl) ?_
  refine lv_iload_n hx hb dL_law_777 rfl (lv_at hl 3 rfl) ?_
  refine lv_iconst (v := 3) hx hb dL_law_778 rfl ?_
  refine lv_iadd hx hb dL_law_779 ?_
  refine va_sld hx hb hX hbl hnb hRc.2 hin3 dL_law_780 ?_
  refine lw_goI hRc hRm (by decide) (by decide) hlow lw_dcm (av_cV (As := [.int (xs (nI i + 1).toNatClampNeg), .int (xs (nI i + 2).toNatClampNeg), .int (xs (nI i + 3).toNatClampNeg)]) (rest := []) E Xc hRc hl.1 (CX11_is l g e1) kk_L_110 (lw_rm (by omega) (by decide)) av_t0 (by decide) rfl rfl (Nat.le_of_ble_eq_true rfl) ⟨Nat.le_refl _, Nat.le_refl _⟩ dL_law_781) (fun H hRc hRm => ?_)
  refine lv_aload_n hx hb dL_law_784 rfl (lv_at hl 2 rfl) ?_
  refine lv_aload_n hx hb dL_law_785 rfl (lv_at hl 0 rfl) ?_
  refine lv_iload_n hx hb dL_law_786 rfl (lv_at hl 3 rfl) ?_
  refine lv_iconst (v := 1) hx hb dL_law_787 rfl ?_
  refine lv_iadd hx hb dL_law_788 ?_
  refine va_sld hx hb hX hbl hnb hRc.2 hin1 dL_law_789 ?_
  refine lv_aload_n hx hb dL_law_790 rfl (lv_at hl 0 rfl) ?_
  refine lv_iload_n hx hb dL_law_791 rfl (lv_at hl 3 rfl) ?_
  refine lv_iconst (v := 2) hx hb dL_law_792 rfl ?_
  refine lv_iadd hx hb dL_law_793 ?_
  refine va_sld hx hb hX hbl hnb hRc.2 hin2 dL_law_794 ?_
  refine lv_aload_n hx hb dL_law_795 rfl (lv_at hl 0 rfl) ?_
  refine lv_iload_n hx hb dL_law_796 rfl (lv_at hl 3 rfl) ?_
  refine lv_iconst (v := 3) hx hb dL_law_797 rfl ?_
  refine lv_iadd hx hb dL_law_798 ?_
  refine va_sld hx hb hX hbl hnb hRc.2 hin3 dL_law_799 ?_
  refine lw_goI hRm hRc (by decide) (by decide) hlow lw_dmc (av_cV (As := [.int (xs (nI i + 1).toNatClampNeg), .int (xs (nI i + 2).toNatClampNeg), .int (xs (nI i + 3).toNatClampNeg)]) (rest := [.int r]) E Xm hRm hl.1 (CX12_is l g e2) kk_L_113 (lw_rm (by omega) (by decide)) av_t98 (by decide) rfl rfl (Nat.le_of_ble_eq_true rfl) ⟨Nat.le_refl _, Nat.le_refl _⟩ dL_law_800) (fun H hRm hRc => ?_)
  refine lv_icmp_eq (tgt := 1004) hx hb dL_law_803 (by decide) (fun _ => ?_) (fun cc => absurd rfl cc)
  exact kn μ2 ν2 H hI2 hRc hRm
set_option maxHeartbeats 4000000 in
set_option maxRecDepth 100000 in
theorem lw_c24 {p : Program} {l : Launch} {e : Env} {s : State} {m : MethodId} {below : List Frame} {meth : Method} {c : Code} {b L : Nat} {xs : Nat → Int32} {g : Gl} {Iv : Nat → Mem → Mem → Prop} (hL : L ≤ 320) (E : av_E p s m #[Value.ref b] meth c code RL 4 ret) (Xc : av_X av_wc g s) (Xm : av_X av_wm g s) (hX : va_X b L xs s s.heap) (hbl : b < s.heap.size) (hlow : lw_low s g) {i : Nat} (hi : i + 5 ≤ L) {μ ν : Mem} (hI : Iv i μ ν) {H : Heap} {ls : Array Slot} (hRc : av_R av_wc g μ s H []) (hRm : av_R av_wm g ν s H []) (hl : lv_has ls 4 [(0, .ref b), (1, .ref (g.2.2 0)), (2, .ref (g.2.2 98)), (3, .int (nI i))]) (hs : lw_st_sneeze Iv) (kn : ∀ (μ ν : Mem) (H : Heap), Iv (i + 5) μ ν → av_R av_wc g μ s H [] → av_R av_wm g ν s H [] → W p l e room_1 s m #[Value.ref b] below meth c H [] 600000 7302249 (lw_Z below #[Value.ref b] s) (F0 m 1004 ls [])) : W p l e room_1 s m #[Value.ref b] below meth c H [] 600000 7302249 (lw_Z below #[Value.ref b] s) (F0 m 808 ls []) := by
  obtain ⟨hx, hb, hr, hml, hown, hts, hlocks⟩ := id E
  have hnb : ¬ av_A av_wc g b := lw_nb (by decide) hbl hlow
  have hin1 : vp_in (nI i + 1) L := lw_ix (k := 1) (by omega) hL
  have hin2 : vp_in (nI i + 2) L := lw_ix (k := 2) (by omega) hL
  obtain ⟨r, μ2, ν2, e1, e2, hI2⟩ := hs i (by omega) (xs (nI i + 1).toNatClampNeg) (xs (nI i + 2).toNatClampNeg) μ ν hI
  refine lv_aload_n hx hb dL_law_808 rfl (lv_at hl 1 rfl) ?_
  refine lv_aload_n hx hb dL_law_809 rfl (lv_at hl 0 rfl) ?_
  refine lv_iload_n hx hb dL_law_810 rfl (lv_at hl 3 rfl) ?_
  refine lv_iconst (v := 1) hx hb dL_law_811 rfl ?_
  refine lv_iadd hx hb dL_law_812 ?_
  refine va_sld hx hb hX hbl hnb hRc.2 hin1 dL_law_813 ?_
  refine lv_aload_n hx hb dL_law_814 rfl (lv_at hl 0 rfl) ?_
  refine lv_iload_n hx hb dL_law_815 rfl (lv_at hl 3 rfl) ?_
  refine lv_iconst (v := 2) hx hb dL_law_816 rfl ?_
  refine lv_iadd hx hb dL_law_817 ?_
  refine va_sld hx hb hX hbl hnb hRc.2 hin2 dL_law_818 ?_
  refine lw_goI hRc hRm (by decide) (by decide) hlow lw_dcm (av_cV (As := [.int (xs (nI i + 1).toNatClampNeg), .int (xs (nI i + 2).toNatClampNeg)]) (rest := []) E Xc hRc hl.1 (CX11_sneeze l g e1) kk_L_114 (lw_rm (by omega) (by decide)) av_t0 (by decide) rfl rfl (Nat.le_of_ble_eq_true rfl) ⟨Nat.le_refl _, Nat.le_refl _⟩ dL_law_819) (fun H hRc hRm => ?_)
  refine lv_aload_n hx hb dL_law_822 rfl (lv_at hl 2 rfl) ?_
  refine lv_aload_n hx hb dL_law_823 rfl (lv_at hl 0 rfl) ?_
  refine lv_iload_n hx hb dL_law_824 rfl (lv_at hl 3 rfl) ?_
  refine lv_iconst (v := 1) hx hb dL_law_825 rfl ?_
  refine lv_iadd hx hb dL_law_826 ?_
  refine va_sld hx hb hX hbl hnb hRc.2 hin1 dL_law_827 ?_
  refine lv_aload_n hx hb dL_law_828 rfl (lv_at hl 0 rfl) ?_
  refine lv_iload_n hx hb dL_law_829 rfl (lv_at hl 3 rfl) ?_
  refine lv_iconst (v := 2) hx hb dL_law_830 rfl ?_
  refine lv_iadd hx hb dL_law_831 ?_
  refine va_sld hx hb hX hbl hnb hRc.2 hin2 dL_law_832 ?_
  refine lw_goI hRm hRc (by decide) (by decide) hlow lw_dmc (av_cV (As := [.int (xs (nI i + 1).toNatClampNeg), .int (xs (nI i + 2).toNatClampNeg)]) (rest := [.int r]) E Xm hRm hl.1 (CX12_sneeze l g e2) kk_L_117 (lw_rm (by omega) (by decide)) av_t98 (by decide) rfl rfl (Nat.le_of_ble_eq_true rfl) ⟨Nat.le_refl _, Nat.le_refl _⟩ dL_law_833) (fun H hRm hRc => ?_)
  refine lv_icmp_eq (tgt := 1004) hx hb dL_law_836 (by decide) (fun _ => ?_) (fun cc => absurd rfl cc)
  exact kn μ2 ν2 H hI2 hRc hRm
set_option maxHeartbeats 4000000 in
set_option maxRecDepth 100000 in
theorem lw_c25 {p : Program} {l : Launch} {e : Env} {s : State} {m : MethodId} {below : List Frame} {meth : Method} {c : Code} {b L : Nat} {xs : Nat → Int32} {g : Gl} {Iv : Nat → Mem → Mem → Prop} (hL : L ≤ 320) (E : av_E p s m #[Value.ref b] meth c code RL 4 ret) (Xc : av_X av_wc g s) (Xm : av_X av_wm g s) (hX : va_X b L xs s s.heap) (hbl : b < s.heap.size) (hlow : lw_low s g) {i : Nat} (hi : i + 5 ≤ L) {μ ν : Mem} (hI : Iv i μ ν) {H : Heap} {ls : Array Slot} (hRc : av_R av_wc g μ s H []) (hRm : av_R av_wm g ν s H []) (hl : lv_has ls 4 [(0, .ref b), (1, .ref (g.2.2 0)), (2, .ref (g.2.2 98)), (3, .int (nI i))]) (hs : lw_st_februaries Iv) (kn : ∀ (μ ν : Mem) (H : Heap), Iv (i + 5) μ ν → av_R av_wc g μ s H [] → av_R av_wm g ν s H [] → W p l e room_1 s m #[Value.ref b] below meth c H [] 600000 7302249 (lw_Z below #[Value.ref b] s) (F0 m 1004 ls [])) : W p l e room_1 s m #[Value.ref b] below meth c H [] 600000 7302249 (lw_Z below #[Value.ref b] s) (F0 m 841 ls []) := by
  obtain ⟨hx, hb, hr, hml, hown, hts, hlocks⟩ := id E
  have hnb : ¬ av_A av_wc g b := lw_nb (by decide) hbl hlow
  have hin1 : vp_in (nI i + 1) L := lw_ix (k := 1) (by omega) hL
  have hin2 : vp_in (nI i + 2) L := lw_ix (k := 2) (by omega) hL
  obtain ⟨r, μ2, ν2, e1, e2, hI2⟩ := hs i (by omega) (xs (nI i + 1).toNatClampNeg) (xs (nI i + 2).toNatClampNeg) μ ν hI
  refine lv_aload_n hx hb dL_law_841 rfl (lv_at hl 1 rfl) ?_
  refine lv_aload_n hx hb dL_law_842 rfl (lv_at hl 0 rfl) ?_
  refine lv_iload_n hx hb dL_law_843 rfl (lv_at hl 3 rfl) ?_
  refine lv_iconst (v := 1) hx hb dL_law_844 rfl ?_
  refine lv_iadd hx hb dL_law_845 ?_
  refine va_sld hx hb hX hbl hnb hRc.2 hin1 dL_law_846 ?_
  refine lv_aload_n hx hb dL_law_847 rfl (lv_at hl 0 rfl) ?_
  refine lv_iload_n hx hb dL_law_848 rfl (lv_at hl 3 rfl) ?_
  refine lv_iconst (v := 2) hx hb dL_law_849 rfl ?_
  refine lv_iadd hx hb dL_law_850 ?_
  refine va_sld hx hb hX hbl hnb hRc.2 hin2 dL_law_851 ?_
  refine lw_goI hRc hRm (by decide) (by decide) hlow lw_dcm (av_cV (As := [.int (xs (nI i + 1).toNatClampNeg), .int (xs (nI i + 2).toNatClampNeg)]) (rest := []) E Xc hRc hl.1 (CX11_februaries l g e1) kk_L_118 (lw_rm (by omega) (by decide)) av_t0 (by decide) rfl rfl (Nat.le_of_ble_eq_true rfl) ⟨Nat.le_refl _, Nat.le_refl _⟩ dL_law_852) (fun H hRc hRm => ?_)
  refine lv_aload_n hx hb dL_law_855 rfl (lv_at hl 2 rfl) ?_
  refine lv_aload_n hx hb dL_law_856 rfl (lv_at hl 0 rfl) ?_
  refine lv_iload_n hx hb dL_law_857 rfl (lv_at hl 3 rfl) ?_
  refine lv_iconst (v := 1) hx hb dL_law_858 rfl ?_
  refine lv_iadd hx hb dL_law_859 ?_
  refine va_sld hx hb hX hbl hnb hRc.2 hin1 dL_law_860 ?_
  refine lv_aload_n hx hb dL_law_861 rfl (lv_at hl 0 rfl) ?_
  refine lv_iload_n hx hb dL_law_862 rfl (lv_at hl 3 rfl) ?_
  refine lv_iconst (v := 2) hx hb dL_law_863 rfl ?_
  refine lv_iadd hx hb dL_law_864 ?_
  refine va_sld hx hb hX hbl hnb hRc.2 hin2 dL_law_865 ?_
  refine lw_goI hRm hRc (by decide) (by decide) hlow lw_dmc (av_cV (As := [.int (xs (nI i + 1).toNatClampNeg), .int (xs (nI i + 2).toNatClampNeg)]) (rest := [.int r]) E Xm hRm hl.1 (CX12_februaries l g e2) kk_L_121 (lw_rm (by omega) (by decide)) av_t98 (by decide) rfl rfl (Nat.le_of_ble_eq_true rfl) ⟨Nat.le_refl _, Nat.le_refl _⟩ dL_law_866) (fun H hRm hRc => ?_)
  refine lv_icmp_eq (tgt := 1004) hx hb dL_law_869 (by decide) (fun _ => ?_) (fun cc => absurd rfl cc)
  exact kn μ2 ν2 H hI2 hRc hRm
set_option maxHeartbeats 4000000 in
set_option maxRecDepth 100000 in
theorem lw_c26 {p : Program} {l : Launch} {e : Env} {s : State} {m : MethodId} {below : List Frame} {meth : Method} {c : Code} {b L : Nat} {xs : Nat → Int32} {g : Gl} {Iv : Nat → Mem → Mem → Prop} (hL : L ≤ 320) (E : av_E p s m #[Value.ref b] meth c code RL 4 ret) (Xc : av_X av_wc g s) (Xm : av_X av_wm g s) (hX : va_X b L xs s s.heap) (hbl : b < s.heap.size) (hlow : lw_low s g) {i : Nat} (hi : i + 5 ≤ L) {μ ν : Mem} (hI : Iv i μ ν) {H : Heap} {ls : Array Slot} (hRc : av_R av_wc g μ s H []) (hRm : av_R av_wm g ν s H []) (hl : lv_has ls 4 [(0, .ref b), (1, .ref (g.2.2 0)), (2, .ref (g.2.2 98)), (3, .int (nI i))]) (hs : lw_st_part Iv) (kn : ∀ (μ ν : Mem) (H : Heap), Iv (i + 5) μ ν → av_R av_wc g μ s H [] → av_R av_wm g ν s H [] → W p l e room_1 s m #[Value.ref b] below meth c H [] 600000 7302249 (lw_Z below #[Value.ref b] s) (F0 m 1004 ls [])) : W p l e room_1 s m #[Value.ref b] below meth c H [] 600000 7302249 (lw_Z below #[Value.ref b] s) (F0 m 874 ls []) := by
  obtain ⟨hx, hb, hr, hml, hown, hts, hlocks⟩ := id E
  have hnb : ¬ av_A av_wc g b := lw_nb (by decide) hbl hlow
  have hin1 : vp_in (nI i + 1) L := lw_ix (k := 1) (by omega) hL
  obtain ⟨r, μ2, ν2, e1, e2, hI2⟩ := hs i (by omega) (xs (nI i + 1).toNatClampNeg) μ ν hI
  refine lv_aload_n hx hb dL_law_874 rfl (lv_at hl 1 rfl) ?_
  refine lv_aload_n hx hb dL_law_875 rfl (lv_at hl 0 rfl) ?_
  refine lv_iload_n hx hb dL_law_876 rfl (lv_at hl 3 rfl) ?_
  refine lv_iconst (v := 1) hx hb dL_law_877 rfl ?_
  refine lv_iadd hx hb dL_law_878 ?_
  refine va_sld hx hb hX hbl hnb hRc.2 hin1 dL_law_879 ?_
  refine lw_goL hRc hRm (by decide) (by decide) hlow lw_dcm (av_cV (As := [.int (xs (nI i + 1).toNatClampNeg)]) (rest := []) E Xc hRc hl.1 (CX11_part l g e1) kk_L_122 (lw_rm (by omega) (by decide)) av_t0 (by decide) rfl rfl (Nat.le_of_ble_eq_true rfl) ⟨Nat.le_refl _, Nat.le_refl _⟩ dL_law_880) (fun H hRc hRm => ?_)
  refine lv_aload_n hx hb dL_law_883 rfl (lv_at hl 2 rfl) ?_
  refine lv_aload_n hx hb dL_law_884 rfl (lv_at hl 0 rfl) ?_
  refine lv_iload_n hx hb dL_law_885 rfl (lv_at hl 3 rfl) ?_
  refine lv_iconst (v := 1) hx hb dL_law_886 rfl ?_
  refine lv_iadd hx hb dL_law_887 ?_
  refine va_sld hx hb hX hbl hnb hRc.2 hin1 dL_law_888 ?_
  refine lw_goL hRm hRc (by decide) (by decide) hlow lw_dmc (av_cV (As := [.int (xs (nI i + 1).toNatClampNeg)]) (rest := [.long r]) E Xm hRm hl.1 (CX12_part l g e2) kk_L_126 (lw_rm (by omega) (by decide)) av_t98 (by decide) rfl rfl (Nat.le_of_ble_eq_true rfl) ⟨Nat.le_refl _, Nat.le_refl _⟩ dL_law_889) (fun H hRm hRc => ?_)
  refine W.lcmp hx hb dL_law_892 ?_
  refine lv_if_eq (tgt := 1004) hx hb dL_law_893 (by decide) (fun _ => ?_) (fun cc => absurd (lw_cmp r) cc)
  exact kn μ2 ν2 H hI2 hRc hRm
set_option maxHeartbeats 4000000 in
set_option maxRecDepth 100000 in
theorem lw_c27 {p : Program} {l : Launch} {e : Env} {s : State} {m : MethodId} {below : List Frame} {meth : Method} {c : Code} {b L : Nat} {xs : Nat → Int32} {g : Gl} {Iv : Nat → Mem → Mem → Prop} (hL : L ≤ 320) (E : av_E p s m #[Value.ref b] meth c code RL 4 ret) (Xc : av_X av_wc g s) (Xm : av_X av_wm g s) (hX : va_X b L xs s s.heap) (hbl : b < s.heap.size) (hlow : lw_low s g) {i : Nat} (hi : i + 5 ≤ L) {μ ν : Mem} (hI : Iv i μ ν) {H : Heap} {ls : Array Slot} (hRc : av_R av_wc g μ s H []) (hRm : av_R av_wm g ν s H []) (hl : lv_has ls 4 [(0, .ref b), (1, .ref (g.2.2 0)), (2, .ref (g.2.2 98)), (3, .int (nI i))]) (hs : lw_st_image Iv) (kn : ∀ (μ ν : Mem) (H : Heap), Iv (i + 5) μ ν → av_R av_wc g μ s H [] → av_R av_wm g ν s H [] → W p l e room_1 s m #[Value.ref b] below meth c H [] 600000 7302249 (lw_Z below #[Value.ref b] s) (F0 m 1004 ls [])) : W p l e room_1 s m #[Value.ref b] below meth c H [] 600000 7302249 (lw_Z below #[Value.ref b] s) (F0 m 898 ls []) := by
  obtain ⟨hx, hb, hr, hml, hown, hts, hlocks⟩ := id E
  have hnb : ¬ av_A av_wc g b := lw_nb (by decide) hbl hlow
  have hin1 : vp_in (nI i + 1) L := lw_ix (k := 1) (by omega) hL
  obtain ⟨r, μ2, ν2, e1, e2, hI2⟩ := hs i (by omega) (xs (nI i + 1).toNatClampNeg) μ ν hI
  refine lv_aload_n hx hb dL_law_898 rfl (lv_at hl 1 rfl) ?_
  refine lv_aload_n hx hb dL_law_899 rfl (lv_at hl 0 rfl) ?_
  refine lv_iload_n hx hb dL_law_900 rfl (lv_at hl 3 rfl) ?_
  refine lv_iconst (v := 1) hx hb dL_law_901 rfl ?_
  refine lv_iadd hx hb dL_law_902 ?_
  refine va_sld hx hb hX hbl hnb hRc.2 hin1 dL_law_903 ?_
  refine lw_goI hRc hRm (by decide) (by decide) hlow lw_dcm (av_cV (As := [.int (xs (nI i + 1).toNatClampNeg)]) (rest := []) E Xc hRc hl.1 (CX11_image l g e1) kk_L_127 (lw_rm (by omega) (by decide)) av_t0 (by decide) rfl rfl (Nat.le_of_ble_eq_true rfl) ⟨Nat.le_refl _, Nat.le_refl _⟩ dL_law_904) (fun H hRc hRm => ?_)
  refine lv_aload_n hx hb dL_law_907 rfl (lv_at hl 2 rfl) ?_
  refine lv_aload_n hx hb dL_law_908 rfl (lv_at hl 0 rfl) ?_
  refine lv_iload_n hx hb dL_law_909 rfl (lv_at hl 3 rfl) ?_
  refine lv_iconst (v := 1) hx hb dL_law_910 rfl ?_
  refine lv_iadd hx hb dL_law_911 ?_
  refine va_sld hx hb hX hbl hnb hRc.2 hin1 dL_law_912 ?_
  refine lw_goI hRm hRc (by decide) (by decide) hlow lw_dmc (av_cV (As := [.int (xs (nI i + 1).toNatClampNeg)]) (rest := [.int r]) E Xm hRm hl.1 (CX12_image l g e2) kk_L_130 (lw_rm (by omega) (by decide)) av_t98 (by decide) rfl rfl (Nat.le_of_ble_eq_true rfl) ⟨Nat.le_refl _, Nat.le_refl _⟩ dL_law_913) (fun H hRm hRc => ?_)
  refine lv_icmp_eq (tgt := 1004) hx hb dL_law_916 (by decide) (fun _ => ?_) (fun cc => absurd rfl cc)
  exact kn μ2 ν2 H hI2 hRc hRm
set_option maxHeartbeats 4000000 in
set_option maxRecDepth 100000 in
theorem lw_c28 {p : Program} {l : Launch} {e : Env} {s : State} {m : MethodId} {below : List Frame} {meth : Method} {c : Code} {b L : Nat} {xs : Nat → Int32} {g : Gl} {Iv : Nat → Mem → Mem → Prop} (hL : L ≤ 320) (E : av_E p s m #[Value.ref b] meth c code RL 4 ret) (Xc : av_X av_wc g s) (Xm : av_X av_wm g s) (hX : va_X b L xs s s.heap) (hbl : b < s.heap.size) (hlow : lw_low s g) {i : Nat} (hi : i + 5 ≤ L) {μ ν : Mem} (hI : Iv i μ ν) {H : Heap} {ls : Array Slot} (hRc : av_R av_wc g μ s H []) (hRm : av_R av_wm g ν s H []) (hl : lv_has ls 4 [(0, .ref b), (1, .ref (g.2.2 0)), (2, .ref (g.2.2 98)), (3, .int (nI i))]) (hs : lw_st_from Iv) (kn : ∀ (μ ν : Mem) (H : Heap), Iv (i + 5) μ ν → av_R av_wc g μ s H [] → av_R av_wm g ν s H [] → W p l e room_1 s m #[Value.ref b] below meth c H [] 600000 7302249 (lw_Z below #[Value.ref b] s) (F0 m 1004 ls [])) : W p l e room_1 s m #[Value.ref b] below meth c H [] 600000 7302249 (lw_Z below #[Value.ref b] s) (F0 m 921 ls []) := by
  obtain ⟨hx, hb, hr, hml, hown, hts, hlocks⟩ := id E
  have hnb : ¬ av_A av_wc g b := lw_nb (by decide) hbl hlow
  have hin1 : vp_in (nI i + 1) L := lw_ix (k := 1) (by omega) hL
  obtain ⟨r, μ2, ν2, e1, e2, hI2⟩ := hs i (by omega) (xs (nI i + 1).toNatClampNeg) μ ν hI
  refine lv_aload_n hx hb dL_law_921 rfl (lv_at hl 1 rfl) ?_
  refine lv_aload_n hx hb dL_law_922 rfl (lv_at hl 0 rfl) ?_
  refine lv_iload_n hx hb dL_law_923 rfl (lv_at hl 3 rfl) ?_
  refine lv_iconst (v := 1) hx hb dL_law_924 rfl ?_
  refine lv_iadd hx hb dL_law_925 ?_
  refine va_sld hx hb hX hbl hnb hRc.2 hin1 dL_law_926 ?_
  refine lw_goI hRc hRm (by decide) (by decide) hlow lw_dcm (av_cV (As := [.int (xs (nI i + 1).toNatClampNeg)]) (rest := []) E Xc hRc hl.1 (CX11_from l g e1) kk_L_131 (lw_rm (by omega) (by decide)) av_t0 (by decide) rfl rfl (Nat.le_of_ble_eq_true rfl) ⟨Nat.le_refl _, Nat.le_refl _⟩ dL_law_927) (fun H hRc hRm => ?_)
  refine lv_aload_n hx hb dL_law_930 rfl (lv_at hl 2 rfl) ?_
  refine lv_aload_n hx hb dL_law_931 rfl (lv_at hl 0 rfl) ?_
  refine lv_iload_n hx hb dL_law_932 rfl (lv_at hl 3 rfl) ?_
  refine lv_iconst (v := 1) hx hb dL_law_933 rfl ?_
  refine lv_iadd hx hb dL_law_934 ?_
  refine va_sld hx hb hX hbl hnb hRc.2 hin1 dL_law_935 ?_
  refine lw_goI hRm hRc (by decide) (by decide) hlow lw_dmc (av_cV (As := [.int (xs (nI i + 1).toNatClampNeg)]) (rest := [.int r]) E Xm hRm hl.1 (CX12_from l g e2) kk_L_134 (lw_rm (by omega) (by decide)) av_t98 (by decide) rfl rfl (Nat.le_of_ble_eq_true rfl) ⟨Nat.le_refl _, Nat.le_refl _⟩ dL_law_936) (fun H hRm hRc => ?_)
  refine lv_icmp_eq (tgt := 1004) hx hb dL_law_939 (by decide) (fun _ => ?_) (fun cc => absurd rfl cc)
  exact kn μ2 ν2 H hI2 hRc hRm
set_option maxHeartbeats 4000000 in
set_option maxRecDepth 100000 in
theorem lw_c29 {p : Program} {l : Launch} {e : Env} {s : State} {m : MethodId} {below : List Frame} {meth : Method} {c : Code} {b L : Nat} {xs : Nat → Int32} {g : Gl} {Iv : Nat → Mem → Mem → Prop} (hL : L ≤ 320) (E : av_E p s m #[Value.ref b] meth c code RL 4 ret) (Xc : av_X av_wc g s) (Xm : av_X av_wm g s) (hX : va_X b L xs s s.heap) (hbl : b < s.heap.size) (hlow : lw_low s g) {i : Nat} (hi : i + 5 ≤ L) {μ ν : Mem} (hI : Iv i μ ν) {H : Heap} {ls : Array Slot} (hRc : av_R av_wc g μ s H []) (hRm : av_R av_wm g ν s H []) (hl : lv_has ls 4 [(0, .ref b), (1, .ref (g.2.2 0)), (2, .ref (g.2.2 98)), (3, .int (nI i))]) (hs : lw_st_status Iv) (kn : ∀ (μ ν : Mem) (H : Heap), Iv (i + 5) μ ν → av_R av_wc g μ s H [] → av_R av_wm g ν s H [] → W p l e room_1 s m #[Value.ref b] below meth c H [] 600000 7302249 (lw_Z below #[Value.ref b] s) (F0 m 1004 ls [])) : W p l e room_1 s m #[Value.ref b] below meth c H [] 600000 7302249 (lw_Z below #[Value.ref b] s) (F0 m 944 ls []) := by
  obtain ⟨hx, hb, hr, hml, hown, hts, hlocks⟩ := id E
  have hnb : ¬ av_A av_wc g b := lw_nb (by decide) hbl hlow
  have hin1 : vp_in (nI i + 1) L := lw_ix (k := 1) (by omega) hL
  obtain ⟨r, μ2, ν2, e1, e2, hI2⟩ := hs i (by omega) (xs (nI i + 1).toNatClampNeg) μ ν hI
  refine lv_aload_n hx hb dL_law_944 rfl (lv_at hl 1 rfl) ?_
  refine lv_aload_n hx hb dL_law_945 rfl (lv_at hl 0 rfl) ?_
  refine lv_iload_n hx hb dL_law_946 rfl (lv_at hl 3 rfl) ?_
  refine lv_iconst (v := 1) hx hb dL_law_947 rfl ?_
  refine lv_iadd hx hb dL_law_948 ?_
  refine va_sld hx hb hX hbl hnb hRc.2 hin1 dL_law_949 ?_
  refine lw_goI hRc hRm (by decide) (by decide) hlow lw_dcm (av_cV (As := [.int (xs (nI i + 1).toNatClampNeg)]) (rest := []) E Xc hRc hl.1 (CX11_status l g e1) kk_L_135 (lw_rm (by omega) (by decide)) av_t0 (by decide) rfl rfl (Nat.le_of_ble_eq_true rfl) ⟨Nat.le_refl _, Nat.le_refl _⟩ dL_law_950) (fun H hRc hRm => ?_)
  refine lv_aload_n hx hb dL_law_953 rfl (lv_at hl 2 rfl) ?_
  refine lv_aload_n hx hb dL_law_954 rfl (lv_at hl 0 rfl) ?_
  refine lv_iload_n hx hb dL_law_955 rfl (lv_at hl 3 rfl) ?_
  refine lv_iconst (v := 1) hx hb dL_law_956 rfl ?_
  refine lv_iadd hx hb dL_law_957 ?_
  refine va_sld hx hb hX hbl hnb hRc.2 hin1 dL_law_958 ?_
  refine lw_goI hRm hRc (by decide) (by decide) hlow lw_dmc (av_cV (As := [.int (xs (nI i + 1).toNatClampNeg)]) (rest := [.int r]) E Xm hRm hl.1 (CX12_status l g e2) kk_L_138 (lw_rm (by omega) (by decide)) av_t98 (by decide) rfl rfl (Nat.le_of_ble_eq_true rfl) ⟨Nat.le_refl _, Nat.le_refl _⟩ dL_law_959) (fun H hRm hRc => ?_)
  refine lv_icmp_eq (tgt := 1004) hx hb dL_law_962 (by decide) (fun _ => ?_) (fun cc => absurd rfl cc)
  exact kn μ2 ν2 H hI2 hRc hRm
set_option maxHeartbeats 4000000 in
set_option maxRecDepth 100000 in
theorem lw_c30 {p : Program} {l : Launch} {e : Env} {s : State} {m : MethodId} {below : List Frame} {meth : Method} {c : Code} {b L : Nat} {xs : Nat → Int32} {g : Gl} {Iv : Nat → Mem → Mem → Prop} (hL : L ≤ 320) (E : av_E p s m #[Value.ref b] meth c code RL 4 ret) (Xc : av_X av_wc g s) (Xm : av_X av_wm g s) (hX : va_X b L xs s s.heap) (hbl : b < s.heap.size) (hlow : lw_low s g) {i : Nat} (hi : i + 5 ≤ L) {μ ν : Mem} (hI : Iv i μ ν) {H : Heap} {ls : Array Slot} (hRc : av_R av_wc g μ s H []) (hRm : av_R av_wm g ν s H []) (hl : lv_has ls 4 [(0, .ref b), (1, .ref (g.2.2 0)), (2, .ref (g.2.2 98)), (3, .int (nI i))]) (hs : lw_st_count Iv) (kn : ∀ (μ ν : Mem) (H : Heap), Iv (i + 5) μ ν → av_R av_wc g μ s H [] → av_R av_wm g ν s H [] → W p l e room_1 s m #[Value.ref b] below meth c H [] 600000 7302249 (lw_Z below #[Value.ref b] s) (F0 m 1004 ls [])) : W p l e room_1 s m #[Value.ref b] below meth c H [] 600000 7302249 (lw_Z below #[Value.ref b] s) (F0 m 967 ls []) := by
  obtain ⟨hx, hb, hr, hml, hown, hts, hlocks⟩ := id E
  have hnb : ¬ av_A av_wc g b := lw_nb (by decide) hbl hlow
  have hin1 : vp_in (nI i + 1) L := lw_ix (k := 1) (by omega) hL
  obtain ⟨r, μ2, ν2, e1, e2, hI2⟩ := hs i (by omega) (xs (nI i + 1).toNatClampNeg) μ ν hI
  refine lv_aload_n hx hb dL_law_967 rfl (lv_at hl 1 rfl) ?_
  refine lv_aload_n hx hb dL_law_968 rfl (lv_at hl 0 rfl) ?_
  refine lv_iload_n hx hb dL_law_969 rfl (lv_at hl 3 rfl) ?_
  refine lv_iconst (v := 1) hx hb dL_law_970 rfl ?_
  refine lv_iadd hx hb dL_law_971 ?_
  refine va_sld hx hb hX hbl hnb hRc.2 hin1 dL_law_972 ?_
  refine lw_goI hRc hRm (by decide) (by decide) hlow lw_dcm (av_cV (As := [.int (xs (nI i + 1).toNatClampNeg)]) (rest := []) E Xc hRc hl.1 (CX11_count l g e1) kk_L_139 (lw_rm (by omega) (by decide)) av_t0 (by decide) rfl rfl (Nat.le_of_ble_eq_true rfl) ⟨Nat.le_refl _, Nat.le_refl _⟩ dL_law_973) (fun H hRc hRm => ?_)
  refine lv_aload_n hx hb dL_law_976 rfl (lv_at hl 2 rfl) ?_
  refine lv_aload_n hx hb dL_law_977 rfl (lv_at hl 0 rfl) ?_
  refine lv_iload_n hx hb dL_law_978 rfl (lv_at hl 3 rfl) ?_
  refine lv_iconst (v := 1) hx hb dL_law_979 rfl ?_
  refine lv_iadd hx hb dL_law_980 ?_
  refine va_sld hx hb hX hbl hnb hRc.2 hin1 dL_law_981 ?_
  refine lw_goI hRm hRc (by decide) (by decide) hlow lw_dmc (av_cV (As := [.int (xs (nI i + 1).toNatClampNeg)]) (rest := [.int r]) E Xm hRm hl.1 (CX12_count l g e2) kk_L_142 (lw_rm (by omega) (by decide)) av_t98 (by decide) rfl rfl (Nat.le_of_ble_eq_true rfl) ⟨Nat.le_refl _, Nat.le_refl _⟩ dL_law_982) (fun H hRm hRc => ?_)
  refine lv_icmp_eq (tgt := 1004) hx hb dL_law_985 (by decide) (fun _ => ?_) (fun cc => absurd rfl cc)
  exact kn μ2 ν2 H hI2 hRc hRm
set_option maxHeartbeats 4000000 in
set_option maxRecDepth 100000 in
theorem lw_c31 {p : Program} {l : Launch} {e : Env} {s : State} {m : MethodId} {below : List Frame} {meth : Method} {c : Code} {b L : Nat} {xs : Nat → Int32} {g : Gl} {Iv : Nat → Mem → Mem → Prop} (hL : L ≤ 320) (E : av_E p s m #[Value.ref b] meth c code RL 4 ret) (Xc : av_X av_wc g s) (Xm : av_X av_wm g s) (hX : va_X b L xs s s.heap) (hbl : b < s.heap.size) (hlow : lw_low s g) {i : Nat} (hi : i + 5 ≤ L) {μ ν : Mem} (hI : Iv i μ ν) {H : Heap} {ls : Array Slot} (hRc : av_R av_wc g μ s H []) (hRm : av_R av_wm g ν s H []) (hl : lv_has ls 4 [(0, .ref b), (1, .ref (g.2.2 0)), (2, .ref (g.2.2 98)), (3, .int (nI i))]) (hs : lw_st_digest Iv) (kn : ∀ (μ ν : Mem) (H : Heap), Iv (i + 5) μ ν → av_R av_wc g μ s H [] → av_R av_wm g ν s H [] → W p l e room_1 s m #[Value.ref b] below meth c H [] 600000 7302249 (lw_Z below #[Value.ref b] s) (F0 m 1004 ls [])) : W p l e room_1 s m #[Value.ref b] below meth c H [] 600000 7302249 (lw_Z below #[Value.ref b] s) (F0 m 990 ls []) := by
  obtain ⟨hx, hb, hr, hml, hown, hts, hlocks⟩ := id E
  have hnb : ¬ av_A av_wc g b := lw_nb (by decide) hbl hlow
  obtain ⟨r, e1, e2, hI2⟩ := hs i (by omega)  μ ν hI
  refine lv_aload_n hx hb dL_law_990 rfl (lv_at hl 1 rfl) ?_
  refine lw_goL hRc hRm (by decide) (by decide) hlow lw_dcm (av_cV (As := []) (rest := []) E Xc hRc hl.1 (CX11_digest l g e1) kk_L_143 (lw_rm (by omega) (by decide)) av_t0 (by decide) rfl rfl (Nat.le_of_ble_eq_true rfl) ⟨Nat.le_refl _, Nat.le_refl _⟩ dL_law_991) (fun H hRc hRm => ?_)
  refine lv_aload_n hx hb dL_law_994 rfl (lv_at hl 2 rfl) ?_
  refine lw_goL hRm hRc (by decide) (by decide) hlow lw_dmc (av_cV (As := []) (rest := [.long r]) E Xm hRm hl.1 (CX12_digest l g e2) kk_L_147 (lw_rm (by omega) (by decide)) av_t98 (by decide) rfl rfl (Nat.le_of_ble_eq_true rfl) ⟨Nat.le_refl _, Nat.le_refl _⟩ dL_law_995) (fun H hRm hRc => ?_)
  refine W.lcmp hx hb dL_law_998 ?_
  refine lv_if_eq (tgt := 1004) hx hb dL_law_999 (by decide) (fun _ => ?_) (fun cc => absurd (lw_cmp r) cc)
  exact kn μ ν H hI2 hRc hRm
