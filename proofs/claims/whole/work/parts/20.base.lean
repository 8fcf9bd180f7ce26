/-! The rows of the two worlds: one memory, every method speaks of the whole of it. -/
def av_cell (g : Gl) (μ : Mem) (q : Nat) : Nat × va_E :=
  (g.2.2 q, if av_cls q < 13 then .inr (av_cls q, av_fl g μ q (av_cls q)) else if av_cls q < 16 then .inl (g.2.1 (av_cls q), av_ln q, .inl (gA μ q)) else .inl (g.2.1 (av_cls q), av_ln q, .inr (.inr (.inr (.inr (fun i => some (g.2.2 (av_rf q i))))))))
theorem av_cell_o {g : Gl} {μ : Mem} {q ci : Nat} (h : av_cls q = ci) (hl : ci < 13) : av_cell g μ q = (g.2.2 q, .inr (ci, av_fl g μ q ci)) := by
  unfold av_cell; rw [h, if_pos hl]
theorem av_cell_a {g : Gl} {μ : Mem} {q t : Nat} (h : av_cls q = t) (h1 : 13 ≤ t) (h2 : t < 16) : av_cell g μ q = (g.2.2 q, .inl (g.2.1 t, av_ln q, .inl (gA μ q))) := by
  unfold av_cell; rw [h, if_neg (by omega), if_pos h2]
theorem av_cell_r {g : Gl} {μ : Mem} {q t : Nat} (h : av_cls q = t) (h1 : 16 ≤ t) : av_cell g μ q = (g.2.2 q, .inl (g.2.1 t, av_ln q, .inr (.inr (.inr (.inr (fun i => some (g.2.2 (av_rf q i)))))))) := by
  unfold av_cell; rw [h, if_neg (by omega), if_neg (by omega)]
theorem av_fl_off {g : Gl} {μ μ' : Mem} {j ci : Nat} (h1 : ∀ k, gF μ' j k = gF μ j k) (h2 : ∀ k, gL μ' j k = gL μ j k) : av_fl g μ' j ci = av_fl g μ j ci := by
  unfold av_fl; split <;> simp only [h1, h2]
theorem av_cell_off {g : Gl} {μ μ' : Mem} {j : Nat} (h1 : ∀ k, gF μ' j k = gF μ j k) (h2 : ∀ k, gL μ' j k = gL μ j k) (h3 : gA μ' j = gA μ j) : av_cell g μ' j = av_cell g μ j := by
  unfold av_cell; rw [av_fl_off h1 h2, h3]
theorem av_off_F {g : Gl} {μ : Mem} {q k : Nat} {v : Int32} : ∀ j, j ≠ q → av_cell g (sF μ q k v) j = av_cell g μ j := fun j h => av_cell_off (fun k => by simp [gF, sF, h]) (fun k => rfl) rfl
theorem av_off_L {g : Gl} {μ : Mem} {q k : Nat} {v : Int64} : ∀ j, j ≠ q → av_cell g (sL μ q k v) j = av_cell g μ j := fun j h => av_cell_off (fun k => rfl) (fun k => by simp [gL, sL, h]) rfl
theorem av_off_A {g : Gl} {μ : Mem} {q : Nat} {f : Nat → Int32} : ∀ j, j ≠ q → av_cell g (sA μ q f) j = av_cell g μ j := fun j h => av_cell_off (fun k => rfl) (fun k => rfl) (by simp [gA, sA, h])
def av_W (w : Nat × Nat) (g : Gl) (μ : Mem) : va_W := (List.range w.2).map (fun i => av_cell g μ (w.1 + i))
theorem av_W_at {w : Nat × Nat} {g : Gl} {μ : Mem} {q : Nat} (h : w.1 ≤ q ∧ q < w.1 + w.2) : (av_W w g μ)[q - w.1]? = some (av_cell g μ q) := by
  unfold av_W
  rw [List.getElem?_map, List.getElem?_range (by omega)]
  simp only [Option.map_some]
  congr 2
  omega
theorem av_W_set {w : Nat × Nat} {g : Gl} {μ μ' : Mem} {q : Nat} {x : Nat × va_E} (hq : w.1 ≤ q ∧ q < w.1 + w.2) (h1 : av_cell g μ' q = x) (h2 : ∀ j, j ≠ q → av_cell g μ' j = av_cell g μ j) : (av_W w g μ).set (q - w.1) x = av_W w g μ' := by
  apply List.ext_getElem?
  intro i
  rw [List.getElem?_set]
  unfold av_W
  simp only [List.length_map, List.length_range, List.getElem?_map]
  by_cases hi : q - w.1 = i
  · subst hi
    rw [if_pos rfl, if_pos (by omega), List.getElem?_range (by omega)]
    simp only [Option.map_some]
    rw [← h1]
    congr 2
    omega
  · rw [if_neg hi]
    by_cases h3 : i < w.2
    · rw [List.getElem?_range h3]
      simp only [Option.map_some]
      rw [h2 (w.1 + i) (by omega)]
    · rw [List.getElem?_eq_none (by simpa using h3)]
      rfl
def av_ty (g : Gl) : List (ClassId × FieldType) := [(g.2.1 13, .int), (g.2.1 14, .byte), (g.2.1 15, .boolean), (g.2.1 16, .object "AvalancheVote$Plain"), (g.2.1 17, .object "AvalancheVote$State"), (g.2.1 18, .object "AvalancheVote$Slope")]
def av_ij (w : Nat × Nat) (g : Gl) : Prop := ∀ a b, (w.1 ≤ a ∧ a < w.1 + w.2) → (w.1 ≤ b ∧ b < w.1 + w.2) → g.2.2 a = g.2.2 b → a = b
def av_A (w : Nat × Nat) (g : Gl) : Nat → Prop := fun x => ∃ q, (w.1 ≤ q ∧ q < w.1 + w.2) ∧ x = g.2.2 q
theorem av_W_get {w : Nat × Nat} {g : Gl} {μ : Mem} {i : Nat} {x : Nat × va_E} (h : (av_W w g μ)[i]? = some x) : i < w.2 ∧ x = av_cell g μ (w.1 + i) := by
  unfold av_W at h
  rw [List.getElem?_map] at h
  by_cases hi : i < w.2
  · rw [List.getElem?_range hi] at h
    exact ⟨hi, (Option.some.inj h).symm⟩
  · rw [List.getElem?_eq_none (by simpa using hi)] at h
    cases h
theorem av_D {w : Nat × Nat} {g : Gl} (h : av_ij w g) (μ : Mem) : va_D (av_A w g) (av_W w g μ) := by
  refine ⟨fun i j x y hx hy hxy => ?_, fun k q hk => ?_⟩
  · obtain ⟨h1, rfl⟩ := av_W_get hx
    obtain ⟨h2, rfl⟩ := av_W_get hy
    have := h (w.1 + i) (w.1 + j) ⟨by omega, by omega⟩ ⟨by omega, by omega⟩ hxy
    omega
  · obtain ⟨h1, rfl⟩ := av_W_get hk
    exact ⟨w.1 + k, ⟨by omega, by omega⟩, rfl⟩
def av_N (s : State) : Prop := ∀ x ∈ av_nw, va_Nw x s
/-- the four words of the reader: cells 200 .. 203, and what the JDK's own methods read -/
def av_lenS : List Nat := [8, 5, 5, 5]
def av_bytS : List (List Int32) := [[109, 111, 117, 110, 116, 97, 105, 110], [108, 101, 100, 103, 101], [98, 101, 108, 111, 119], [118, 111, 116, 101, 114]]
def av_St (A : Nat → Prop) (g : Gl) (U : State) (H : Heap) : Prop := (∃ adV : Nat → Nat, vk_S 4 av_lenS av_bytS (fun i => g.2.2 (200 + i)) adV A U H) ∧ (vk_R RX5 40 "mountain" (g.2.2 200) U ∧ vk_R RX5 49 "ledge" (g.2.2 201) U ∧ vk_R RX5 54 "below" (g.2.2 202) U ∧ vk_R RX5 56 "voter" (g.2.2 203) U) ∧ va_Z "java/lang/String" "COMPACT_STRINGS" "Z" (.int 1) A U H ∧ va_Zq "jdk/internal/util/Preconditions" "SIOOBE_FORMATTER" "Ljava/util/function/BiFunction;" A U H
theorem av_St.at {A : Nat → Prop} {g : Gl} {s U : State} {H : Heap} (h : av_St A g s s.heap) (hq : ∀ a : Nat, a < s.heap.size → ¬ A a → H[a]? = s.heap[a]?) (hU : U.heap = H) (hW : s.WarmedH U.vm) : av_St A g U U.heap := by
  obtain ⟨⟨adV, h1⟩, ⟨r1, r2, r3, r4⟩, h2, h3⟩ := h
  rw [hU]
  exact ⟨⟨adV, (h1.kept hq).moved hW.alike⟩, ⟨r1.warm hW, r2.warm hW, r3.warm hW, r4.warm hW⟩, (h2.kept hq).moved hW.alike, (h3.kept hq).moved hW.alike⟩
theorem av_St.same {A : Nat → Prop} {g : Gl} {s U : State} (h : av_St A g s s.heap) (hU : U.heap = s.heap) (hv : U.vm = s.vm) : av_St A g U U.heap := by
  obtain ⟨⟨adV, h1⟩, ⟨r1, r2, r3, r4⟩, h2, h3⟩ := h
  rw [hU]
  have ha : s.vm.Alike U.vm := by rw [hv]; exact Vm.Alike.refl _
  exact ⟨⟨adV, h1.moved ha⟩, ⟨r1.same hv, r2.same hv, r3.same hv, r4.same hv⟩, h2.moved ha, h3.moved ha⟩
def av_X (w : Nat × Nat) (g : Gl) (s : State) : Prop := va_K g.1 vwCl (av_ty g) s ∧ av_N s ∧ av_ij w g ∧ av_St (av_A w g) g s s.heap
def av_R (w : Nat × Nat) (g : Gl) (μ : Mem) (s : State) (H : Heap) (locs : List Loc) : Prop := va_P g.1 vwCl (av_W w g μ) H ∧ va_S (av_A w g) s.heap H locs
def av_E (p : Program) (s : State) (m : MethodId) (args : Array Value) (meth : Method) (c : Code) (cc : ByteArray) (own : String) (nL : Nat) (ret : Option FieldType) : Prop :=
  p.tables.exec = Jvm.exec ∧ c.code = cc ∧ meth.sig.returnType = ret ∧ c.maxLocals = nL ∧ s.vm.findClass own = some m.cls ∧ (∀ x ∈ av_gw, x.before args s = true) ∧ meth.locks = false
def av_Pr (w : Nat × Nat) (g : Gl) (μ : Mem) (U : State) : Prop := va_P g.1 vwCl (av_W w g μ) U.heap ∧ av_X w g U
def av_B (w : Nat × Nat) (g : Gl) (u : Mem) (t : State) : Prop := va_P g.1 vwCl (av_W w g u) t.heap
def rmN (n : Nat) : Room := { frames := n, cells := 0, slots := 0, locals := 60 * n }
theorem av_N.warm {s U : State} (hW : s.WarmedH U.vm) (h : av_N s) : av_N U := by
  intro x hx
  have h1 := h x hx
  have h2 := (List.mem_filter.mp hx).2
  cases x <;> simp only [av_isN] at h2 <;> first | exact va_Nw.warmF hW h1 | exact va_Nw.warmM hW h1 | exact va_Nw.warmC hW h1 | cases h2
theorem av_N.same {s U : State} (hv : s.vm = U.vm) (h : av_N s) : av_N U := by
  intro x hx
  have h1 := h x hx
  have h2 := (List.mem_filter.mp hx).2
  refine va_Nw.same ?_ hv h1
  cases x <;> simp only [av_isN] at h2 <;> first | rfl | cases h2
theorem av_X.warm {w : Nat × Nat} {g : Gl} {s U : State} {H : Heap} {locs : List Loc} (h : av_X w g s) (hS : va_S (av_A w g) s.heap H locs) (hU : U.heap = H) (hW : s.WarmedH U.vm) : av_X w g U := ⟨va_K.moved hW.alike h.1, av_N.warm hW h.2.1, h.2.2.1, h.2.2.2.at hS.2.1 hU hW⟩
theorem av_blind {w : Nat × Nat} {g : Gl} {μ : Mem} {vs : List Value} : FrameBlind (va_Pc vs (av_Pr w g μ)) := fun a U gg mk h => ⟨h.1, h.2.1, va_K.moved (u := U) (U := U.calling gg mk a) (Vm.Alike.refl U.vm) h.2.2.1, av_N.same (s := U) rfl h.2.2.2.1, h.2.2.2.2.1, h.2.2.2.2.2.same rfl rfl⟩
theorem av_good {y : MethodName} {cy : ByteArray} {n : Nat} {r : Option FieldType} (h : Cond.code y cy n r ∈ av_gw) : GoodIn av_gw (.code y cy n r :: av_gw) := by
  intro x hx
  have hx2 : x ∈ av_gw := by
    rcases List.mem_cons.mp hx with e | e
    · rw [e]; exact h
    · exact e
  exact ⟨hx2, good_of_word (List.mem_filter.mp hx2).2⟩
section
variable {p : Program} {l : Launch} {e : Env} {R : Room} {s : State} {m : MethodId} {args : Array Value} {below : List Frame} {meth : Method} {c : Code} {H : Heap} {locs : List Loc} {cells slots : Nat} {Q : State → Prop}
variable {cc : ByteArray} {pc : Nat} {ls : Array Slot} {rest : List Value} {w : Nat × Nat} {g : Gl} {μ : Mem} {own : String} {nL : Nat} {ret : Option FieldType}
theorem av_g (E : av_E p s m args meth c cc own nL ret) (X : av_X w g s) (hR : av_R w g μ s H locs) {q ci k N index : Nat} {C ref : String} {Tt : u_T} (ht : av_t w q ci) (hl : ci < 13) (hcl : vwCl[ci]? = some (C, Tt, N)) (hin : ∀ x ∈ u_ws C Tt N, x ∈ av_gw) (hk : k < N) (hlink : Cond.fieldLink own index ref (Tt k).2.1 (Tt k).2.2.1 ∈ av_gw) (hrf : (Tt k).1 = ref) {v : Value} (hv : (av_fl g μ q ci)[k]? = some v) (hdg : decode cc pc = .ok (.getfield index, 3))
    (kk : W p l e R s m args below meth c H locs cells slots Q (F0 m (pc + 3) ls (v :: rest))) : W p l e R s m args below meth c H locs cells slots Q (F0 m pc ls (.ref (g.2.2 q) :: rest)) :=
  va_get E.1 E.2.1 E.2.2.2.2.2.1 hin E.2.2.2.2.1 X.1 hR.1 (q - w.1) (by rw [av_W_at ht.2, av_cell_o ht.1 hl]) hcl k hk (E.2.2.2.2.2.1 _ hlink) (fun _ h => by rw [← hrf]; exact h) hv hdg kk
theorem av_gn (E : av_E p s m args meth c cc own nL ret) (X : av_X w g s) (hR : av_R w g μ s H locs) {q ci k N index : Nat} {C ref host : String} {Tt : u_T} (ht : av_t w q ci) (hl : ci < 13) (hcl : vwCl[ci]? = some (C, Tt, N)) (hin : ∀ x ∈ u_ws C Tt N, x ∈ av_gw) (hk : k < N) (hlink : Cond.fieldLinkNest own index ref (Tt k).2.1 (Tt k).2.2.1 host ∈ av_nw) (hrf : (Tt k).1 = ref) {v : Value} (hv : (av_fl g μ q ci)[k]? = some v) (hdg : decode cc pc = .ok (.getfield index, 3))
    (kk : W p l e R s m args below meth c H locs cells slots Q (F0 m (pc + 3) ls (v :: rest))) : W p l e R s m args below meth c H locs cells slots Q (F0 m pc ls (.ref (g.2.2 q) :: rest)) :=
  va_getN E.1 E.2.1 E.2.2.2.2.2.1 hin E.2.2.2.2.1 X.1 hR.1 (q - w.1) (by rw [av_W_at ht.2, av_cell_o ht.1 hl]) hcl k hk (va_Nw.use rfl (X.2.1 _ hlink)) (fun _ h => by rw [← hrf]; exact h) hv hdg kk
theorem av_p (E : av_E p s m args meth c cc own nL ret) (X : av_X w g s) (hR : av_R w g μ s H locs) {μ' : Mem} {q ci k N index : Nat} {C ref : String} {Tt : u_T} (ht : av_t w q ci) (hl : ci < 13) (hcl : vwCl[ci]? = some (C, Tt, N)) (hin : ∀ x ∈ u_ws C Tt N, x ∈ av_gw) (ty0 : Nat → FieldType) (hty : ∀ k, k < N → parseFieldDescriptor (Tt k).2.2.1 = some (ty0 k)) (hnm : ∀ a, a < N → ∀ b, b < N → a ≠ b → (Tt a).2.1 ≠ (Tt b).2.1) (hk : k < N) (hlink : Cond.fieldLink own index ref (Tt k).2.1 (Tt k).2.2.1 ∈ av_gw) (hrf : (Tt k).1 = ref) (hfin : (Tt k).2.2.2 = false) {ty : FieldType} {v : Value} (hd : parseFieldDescriptor (Tt k).2.2.1 = some ty) (hn : narrow ty v = v) (hfit : fits ty v = true) (hlen : k < (av_fl g μ q ci).length) (hset : av_fl g μ' q ci = (av_fl g μ q ci).set k v) (hoff : ∀ j, j ≠ q → av_cell g μ' j = av_cell g μ j) (hdg : decode cc pc = .ok (.putfield index, 3))
    (kk : ∀ (H : Heap) (locs : List Loc), av_R w g μ' s H locs → W p l e R s m args below meth c H locs cells slots Q (F0 m (pc + 3) ls rest)) : W p l e R s m args below meth c H locs cells slots Q (F0 m pc ls (v :: .ref (g.2.2 q) :: rest)) :=
  va_put E.1 E.2.1 E.2.2.2.2.2.1 hin ty0 hty hnm E.2.2.2.2.1 X.1 hR.1 (av_D X.2.2.1 μ) hR.2 (q - w.1) (by rw [av_W_at ht.2, av_cell_o ht.1 hl]) hcl k hk (E.2.2.2.2.2.1 _ hlink) (fun _ h => by rw [← hrf]; exact h) hfin hd hn hfit hlen hdg (fun H1 locs1 hP _ hS => kk H1 locs1 ⟨by rw [av_W_set ht.2 (by rw [av_cell_o ht.1 hl, hset]) hoff] at hP; exact hP, hS⟩)
theorem av_pn (E : av_E p s m args meth c cc own nL ret) (X : av_X w g s) (hR : av_R w g μ s H locs) {μ' : Mem} {q ci k N index : Nat} {C ref host : String} {Tt : u_T} (ht : av_t w q ci) (hl : ci < 13) (hcl : vwCl[ci]? = some (C, Tt, N)) (hin : ∀ x ∈ u_ws C Tt N, x ∈ av_gw) (ty0 : Nat → FieldType) (hty : ∀ k, k < N → parseFieldDescriptor (Tt k).2.2.1 = some (ty0 k)) (hnm : ∀ a, a < N → ∀ b, b < N → a ≠ b → (Tt a).2.1 ≠ (Tt b).2.1) (hk : k < N) (hlink : Cond.fieldLinkNest own index ref (Tt k).2.1 (Tt k).2.2.1 host ∈ av_nw) (hrf : (Tt k).1 = ref) (hfin : (Tt k).2.2.2 = false) {ty : FieldType} {v : Value} (hd : parseFieldDescriptor (Tt k).2.2.1 = some ty) (hn : narrow ty v = v) (hfit : fits ty v = true) (hlen : k < (av_fl g μ q ci).length) (hset : av_fl g μ' q ci = (av_fl g μ q ci).set k v) (hoff : ∀ j, j ≠ q → av_cell g μ' j = av_cell g μ j) (hdg : decode cc pc = .ok (.putfield index, 3))
    (kk : ∀ (H : Heap) (locs : List Loc), av_R w g μ' s H locs → W p l e R s m args below meth c H locs cells slots Q (F0 m (pc + 3) ls rest)) : W p l e R s m args below meth c H locs cells slots Q (F0 m pc ls (v :: .ref (g.2.2 q) :: rest)) :=
  va_putN E.1 E.2.1 E.2.2.2.2.2.1 hin ty0 hty hnm E.2.2.2.2.1 X.1 hR.1 (av_D X.2.2.1 μ) hR.2 (q - w.1) (by rw [av_W_at ht.2, av_cell_o ht.1 hl]) hcl k hk (va_Nw.use rfl (X.2.1 _ hlink)) (fun _ h => by rw [← hrf]; exact h) hfin hd hn hfit hlen hdg (fun H1 locs1 hP _ hS => kk H1 locs1 ⟨by rw [av_W_set ht.2 (by rw [av_cell_o ht.1 hl, hset]) hoff] at hP; exact hP, hS⟩)
/-- reading and writing arrays: none where the machine would throw -/
def rd (μ : Mem) (q : Nat) (i : Int32) : Option Int32 := if i < 0 ∨ av_ln q ≤ i.toNatClampNeg then none else some (gA μ q i.toNatClampNeg)
def wr (μ : Mem) (q : Nat) (i v : Int32) : Option Mem := if i < 0 ∨ av_ln q ≤ i.toNatClampNeg then none else some (sA μ q (upd (gA μ q) i.toNatClampNeg v))
def rdr (q : Nat) (i : Int32) : Option Nat := if i < 0 ∨ av_ln q ≤ i.toNatClampNeg then none else some (av_rf q i.toNatClampNeg)
def wrb (μ : Mem) (q : Nat) (i v : Int32) : Option Mem := wr μ q i (vp_nar .byte v)
def wrz (μ : Mem) (q : Nat) (i v : Int32) : Option Mem := wr μ q i (vp_nar .boolean v)
def cpy (μ : Mem) (a : Nat) (sp : Int32) (b : Nat) (dp n : Int32) : Option Mem := if (sp < 0 ∨ dp < 0) ∨ n < 0 ∨ av_ln a < sp.toNatClampNeg + n.toNatClampNeg ∨ av_ln b < dp.toNatClampNeg + n.toNatClampNeg then none else some (sA μ b (va_cpy (gA μ a) (gA μ b) sp.toNatClampNeg dp.toNatClampNeg n.toNatClampNeg))
theorem av_il (E : av_E p s m args meth c cc own nL ret) (X : av_X w g s) (hR : av_R w g μ s H locs) {q : Nat} {i x : Int32} (ht : av_t w q 13) (h : rd μ q i = some x) (hdg : decode cc pc = .ok (.iaload, 1))
    (kk : W p l e R s m args below meth c H locs cells slots Q (F0 m (pc + 1) ls (.int x :: rest))) : W p l e R s m args below meth c H locs cells slots Q (F0 m pc ls (.int i :: .ref (g.2.2 q) :: rest)) := by
  unfold rd at h
  split at h
  · cases h
  · rename_i hin
    cases h
    exact va_iald E.1 E.2.1 X.1 hR.1 (q - w.1) 0 (by rw [av_W_at ht.2, av_cell_a ht.1 (by decide) (by decide)]) rfl hin hdg kk
theorem av_bl (E : av_E p s m args meth c cc own nL ret) (X : av_X w g s) (hR : av_R w g μ s H locs) {q : Nat} {i x : Int32} (ht : av_t w q 14) (h : rd μ q i = some x) (hdg : decode cc pc = .ok (.baload, 1))
    (kk : W p l e R s m args below meth c H locs cells slots Q (F0 m (pc + 1) ls (.int x :: rest))) : W p l e R s m args below meth c H locs cells slots Q (F0 m pc ls (.int i :: .ref (g.2.2 q) :: rest)) := by
  unfold rd at h
  split at h
  · cases h
  · rename_i hin
    cases h
    exact va_bald E.1 E.2.1 X.1 hR.1 (q - w.1) 1 (by rw [av_W_at ht.2, av_cell_a ht.1 (by decide) (by decide)]) rfl hin hdg kk
theorem av_zl (E : av_E p s m args meth c cc own nL ret) (X : av_X w g s) (hR : av_R w g μ s H locs) {q : Nat} {i x : Int32} (ht : av_t w q 15) (h : rd μ q i = some x) (hdg : decode cc pc = .ok (.baload, 1))
    (kk : W p l e R s m args below meth c H locs cells slots Q (F0 m (pc + 1) ls (.int x :: rest))) : W p l e R s m args below meth c H locs cells slots Q (F0 m pc ls (.int i :: .ref (g.2.2 q) :: rest)) := by
  unfold rd at h
  split at h
  · cases h
  · rename_i hin
    cases h
    exact va_zald E.1 E.2.1 X.1 hR.1 (q - w.1) 2 (by rw [av_W_at ht.2, av_cell_a ht.1 (by decide) (by decide)]) rfl hin hdg kk
theorem av_is (E : av_E p s m args meth c cc own nL ret) (X : av_X w g s) (hR : av_R w g μ s H locs) {q : Nat} {i x : Int32} {μ' : Mem} (ht : av_t w q 13) (h : wr μ q i x = some μ') (hdg : decode cc pc = .ok (.iastore, 1))
    (kk : ∀ (H : Heap) (locs : List Loc), av_R w g μ' s H locs → W p l e R s m args below meth c H locs cells slots Q (F0 m (pc + 1) ls rest)) : W p l e R s m args below meth c H locs cells slots Q (F0 m pc ls (.int x :: .int i :: .ref (g.2.2 q) :: rest)) := by
  unfold wr at h
  split at h
  · cases h
  · rename_i hin
    cases h
    refine va_iast E.1 E.2.1 X.1 hR.1 (av_D X.2.2.1 μ) hR.2 (q - w.1) 0 (by rw [av_W_at ht.2, av_cell_a ht.1 (by decide) (by decide)]) rfl hin hdg (fun H1 locs1 hP _ hS => kk H1 locs1 ⟨?_, hS⟩)
    rw [av_W_set ht.2 (by rw [av_cell_a ht.1 (by decide) (by decide)]; simp [gA, sA]) (av_off_A (f := upd (gA μ q) i.toNatClampNeg x))] at hP
    exact hP
theorem av_bs (E : av_E p s m args meth c cc own nL ret) (X : av_X w g s) (hR : av_R w g μ s H locs) {q : Nat} {i x : Int32} {μ' : Mem} (ht : av_t w q 14) (h : wrb μ q i x = some μ') (hdg : decode cc pc = .ok (.bastore, 1))
    (kk : ∀ (H : Heap) (locs : List Loc), av_R w g μ' s H locs → W p l e R s m args below meth c H locs cells slots Q (F0 m (pc + 1) ls rest)) : W p l e R s m args below meth c H locs cells slots Q (F0 m pc ls (.int x :: .int i :: .ref (g.2.2 q) :: rest)) := by
  unfold wrb wr at h
  split at h
  · cases h
  · rename_i hin
    cases h
    refine va_bast E.1 E.2.1 X.1 hR.1 (av_D X.2.2.1 μ) hR.2 (q - w.1) 1 (by rw [av_W_at ht.2, av_cell_a ht.1 (by decide) (by decide)]) rfl hin hdg (fun H1 locs1 hP _ hS => kk H1 locs1 ⟨?_, hS⟩)
    rw [av_W_set ht.2 (by rw [av_cell_a ht.1 (by decide) (by decide)]; simp [gA, sA]) (av_off_A (f := upd (gA μ q) i.toNatClampNeg (vp_nar .byte x)))] at hP
    exact hP
theorem av_zs (E : av_E p s m args meth c cc own nL ret) (X : av_X w g s) (hR : av_R w g μ s H locs) {q : Nat} {i x : Int32} {μ' : Mem} (ht : av_t w q 15) (h : wrz μ q i x = some μ') (hdg : decode cc pc = .ok (.bastore, 1))
    (kk : ∀ (H : Heap) (locs : List Loc), av_R w g μ' s H locs → W p l e R s m args below meth c H locs cells slots Q (F0 m (pc + 1) ls rest)) : W p l e R s m args below meth c H locs cells slots Q (F0 m pc ls (.int x :: .int i :: .ref (g.2.2 q) :: rest)) := by
  unfold wrz wr at h
  split at h
  · cases h
  · rename_i hin
    cases h
    refine va_zast E.1 E.2.1 X.1 hR.1 (av_D X.2.2.1 μ) hR.2 (q - w.1) 2 (by rw [av_W_at ht.2, av_cell_a ht.1 (by decide) (by decide)]) rfl hin hdg (fun H1 locs1 hP _ hS => kk H1 locs1 ⟨?_, hS⟩)
    rw [av_W_set ht.2 (by rw [av_cell_a ht.1 (by decide) (by decide)]; simp [gA, sA]) (av_off_A (f := upd (gA μ q) i.toNatClampNeg (vp_nar .boolean x)))] at hP
    exact hP
theorem av_al (E : av_E p s m args meth c cc own nL ret) (X : av_X w g s) (hR : av_R w g μ s H locs) {q t t0 q' : Nat} {C : String} {i : Int32} (ht : av_t w q t) (h16 : 16 ≤ t) (hty : (av_ty g)[t0]? = some (g.2.1 t, .object C)) (h : rdr q i = some q') (hdg : decode cc pc = .ok (.aaload, 1))
    (kk : W p l e R s m args below meth c H locs cells slots Q (F0 m (pc + 1) ls (.ref (g.2.2 q') :: rest))) : W p l e R s m args below meth c H locs cells slots Q (F0 m pc ls (.int i :: .ref (g.2.2 q) :: rest)) := by
  unfold rdr at h
  split at h
  · cases h
  · rename_i hin
    cases h
    exact va_aldq (f := fun i => some (g.2.2 (av_rf q i))) E.1 E.2.1 X.1 hR.1 (q - w.1) t0 (by rw [av_W_at ht.2, av_cell_r ht.1 h16]) hty hin hdg kk
theorem av_len (E : av_E p s m args meth c cc own nL ret) (X : av_X w g s) (hR : av_R w g μ s H locs) {q t t0 : Nat} {ty : FieldType} (ht : av_t w q t) (h13 : 13 ≤ t) (hty : (av_ty g)[t0]? = some (g.2.1 t, ty)) (hdg : decode cc pc = .ok (.arraylength, 1))
    (kk : W p l e R s m args below meth c H locs cells slots Q (F0 m (pc + 1) ls (.int (nI (av_ln q)) :: rest))) : W p l e R s m args below meth c H locs cells slots Q (F0 m pc ls (.ref (g.2.2 q) :: rest)) := by
  by_cases h16 : t < 16
  · exact va_alen (x := (av_ln q, .inl (gA μ q))) E.1 E.2.1 X.1 hR.1 (q - w.1) t0 (by rw [av_W_at ht.2, av_cell_a ht.1 h13 h16]) hty rfl hdg kk
  · exact va_alen (x := (av_ln q, .inr (.inr (.inr (.inr (fun i => some (g.2.2 (av_rf q i)))))))) E.1 E.2.1 X.1 hR.1 (q - w.1) t0 (by rw [av_W_at ht.2, av_cell_r ht.1 (by omega)]) hty rfl hdg kk
theorem av_cp (E : av_E p s m args meth c cc own nL ret) (X : av_X w g s) (hR : av_R w g μ s H locs) (hls : ls.size = nL) {a b index : Nat} {sp dp n : Int32} {μ' : Mem} (hlink : Cond.methodLink own index arraycopyName ∈ av_gw) (hta : av_t w a 13) (htb : av_t w b 13) (h : cpy μ a sp b dp n = some μ') (hframes : 1 ≤ R.frames) (hlocals : (rest.map fun v => v.category).sum + (nativeFrameWords "java/lang/System" "arraycopy" 5 + 11) ≤ R.locals) (hdg : decode cc pc = .ok (.invokestatic index, 3))
    (kk : ∀ (H : Heap) (locs : List Loc), av_R w g μ' s H locs → W p l e R s m args below meth c H locs cells slots Q (F0 m (pc + 3) ls rest)) : W p l e R s m args below meth c H locs cells slots Q (F0 m pc ls (.int n :: .int dp :: .ref (g.2.2 b) :: .int sp :: .ref (g.2.2 a) :: rest)) := by
  unfold cpy at h
  split at h
  · cases h
  · rename_i hin
    cases h
    simp only [not_or, Nat.not_lt] at hin
    obtain ⟨⟨h1, h2⟩, h3, h4, h5⟩ := hin
    refine va_copyi E.1 E.2.1 (by rw [E.2.2.2.1, hls]) E.2.2.2.2.1 (E.2.2.2.2.2.1 _ hlink) (E.2.2.2.2.2.1 _ kA_java_lang_Systemarraycopy) (E.2.2.2.2.2.1 _ kT_arraycopyName) (E.2.2.2.2.2.1 _ kZ_J10) X.1 hR.1 (av_D X.2.2.1 μ) hR.2 (a - w.1) (b - w.1) 0 0 (by rw [av_W_at hta.2, av_cell_a hta.1 (by decide) (by decide)]) (by rw [av_W_at htb.2, av_cell_a htb.1 (by decide) (by decide)]) rfl rfl rfl h1 h2 h3 h4 h5 (fun _ _ => rfl) hframes hlocals hdg (fun H1 locs1 hP _ hS => kk H1 locs1 ⟨?_, hS⟩)
    rw [av_W_set htb.2 (by rw [av_cell_a htb.1 (by decide) (by decide)]; simp [gA, sA]) (av_off_A (f := va_cpy (gA μ a) (gA μ b) sp.toNatClampNeg dp.toNatClampNeg n.toNatClampNeg))] at hP
    exact hP
/-- returns -/
theorem av_ri (E : av_E p s m args meth c cc own nL (some .int)) (hR : av_R w g μ s H locs) {v r : Int32} {μ' : Mem} (hz : v = r ∧ μ = μ') (hdg : decode cc pc = .ok (.ireturn, 1)) : W p l e R s m args below meth c H locs cells slots (MQ below (va_Qi (fun r1 u => r1 = r ∧ u = μ') (av_B w g) (av_A w g)) args s cells slots (av_A w g)) (F0 m pc ls [.int v]) :=
  W.iret E.1 E.2.1 E.2.2.1 (fun t ht _ => ⟨⟨v, μ, rfl, hz, by unfold av_B; rw [ht]; exact hR.1⟩, hR.2.F ht⟩) hR.2.2.2 hdg (hlocks := E.2.2.2.2.2.2)
theorem av_rz (E : av_E p s m args meth c cc own nL (some .boolean)) (hR : av_R w g μ s H locs) {v r : Int32} {μ' : Mem} (hn : narrow .boolean (.int v) = .int v) (hz : v = r ∧ μ = μ') (hdg : decode cc pc = .ok (.ireturn, 1)) : W p l e R s m args below meth c H locs cells slots (MQ below (va_Qi (fun r1 u => r1 = r ∧ u = μ') (av_B w g) (av_A w g)) args s cells slots (av_A w g)) (F0 m pc ls [.int v]) :=
  W.zret E.1 E.2.1 E.2.2.1 hn (fun t ht _ => ⟨⟨v, μ, rfl, hz, by unfold av_B; rw [ht]; exact hR.1⟩, hR.2.F ht⟩) hR.2.2.2 hdg (hlocks := E.2.2.2.2.2.2)
theorem av_rl (E : av_E p s m args meth c cc own nL (some .long)) (hR : av_R w g μ s H locs) {v r : Int64} {μ' : Mem} (hz : v = r ∧ μ = μ') (hdg : decode cc pc = .ok (.lreturn, 1)) : W p l e R s m args below meth c H locs cells slots (MQ below (va_Ql (fun r1 u => r1 = r ∧ u = μ') (av_B w g) (av_A w g)) args s cells slots (av_A w g)) (F0 m pc ls [.long v]) :=
  W.lret E.1 E.2.1 E.2.2.1 (fun t ht _ => ⟨⟨v, μ, rfl, hz, by unfold av_B; rw [ht]; exact hR.1⟩, hR.2.F ht⟩) hR.2.2.2 hdg (hlocks := E.2.2.2.2.2.2)
theorem av_rv (E : av_E p s m args meth c cc own nL none) (hR : av_R w g μ s H locs) {μ' : Mem} (hz : μ = μ') (hdg : decode cc pc = .ok (.return_, 1)) : W p l e R s m args below meth c H locs cells slots (MQ below (va_Qv (fun u => u = μ') (av_B w g) (av_A w g)) args s cells slots (av_A w g)) (F0 m pc ls []) :=
  W.vret E.1 E.2.1 E.2.2.1 (fun t ht _ => ⟨⟨μ, rfl, hz, by unfold av_B; rw [ht]; exact hR.1⟩, hR.2.F ht⟩) hR.2.2.2 hdg (hlocks := E.2.2.2.2.2.2)
end
