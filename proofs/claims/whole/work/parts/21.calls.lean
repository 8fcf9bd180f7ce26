/-! Calls, entries: contracts over a world. -/
abbrev av_MI (l : Launch) (y : MethodName) (cy : ByteArray) (nL N : Nat) (ret : Option FieldType) (w : Nat × Nat) (g : Gl) (vs : List Value) (μ : Mem) (r : Int32) (μ' : Mem) : Prop :=
  Met l y (.code y cy nL ret :: av_gw) (rmN N) (va_Pc vs (av_Pr w g μ)) (va_Qi (fun r1 u => r1 = r ∧ u = μ') (av_B w g) (av_A w g)) 0 0 (av_A w g)
abbrev av_ML (l : Launch) (y : MethodName) (cy : ByteArray) (nL N : Nat) (ret : Option FieldType) (w : Nat × Nat) (g : Gl) (vs : List Value) (μ : Mem) (r : Int64) (μ' : Mem) : Prop :=
  Met l y (.code y cy nL ret :: av_gw) (rmN N) (va_Pc vs (av_Pr w g μ)) (va_Ql (fun r1 u => r1 = r ∧ u = μ') (av_B w g) (av_A w g)) 0 0 (av_A w g)
abbrev av_MV (l : Launch) (y : MethodName) (cy : ByteArray) (nL N : Nat) (ret : Option FieldType) (w : Nat × Nat) (g : Gl) (vs : List Value) (μ : Mem) (μ' : Mem) : Prop :=
  Met l y (.code y cy nL ret :: av_gw) (rmN N) (va_Pc vs (av_Pr w g μ)) (va_Qv (fun u => u = μ') (av_B w g) (av_A w g)) 0 0 (av_A w g)
abbrev av_MR (l : Launch) (y : MethodName) (cy : ByteArray) (nL N : Nat) (ret : Option FieldType) (w : Nat × Nat) (g : Gl) (vs : List Value) (μ : Mem) (r : Nat) (μ' : Mem) : Prop :=
  Met l y (.code y cy nL ret :: av_gw) (rmN N) (va_Pc vs (av_Pr w g μ)) (va_Qr (fun u => u = μ') (fun u a t => a = g.2.2 r ∧ av_B w g u t) (av_A w g)) 0 0 (av_A w g)
/-- what a call's instruction and the tables say of the callee, by words -/
def av_kV (own : String) (index : Nat) (C : String) (y : MethodName) (cy : ByteArray) (nLy : Nat) (retY : Option FieldType) (n : Nat) : Prop :=
  Cond.methodLink own index y ∈ av_gw ∧ Cond.instanceMethod y ∈ av_gw ∧ Cond.selects C y y ∈ av_gw ∧ Cond.initialized y.cls ∈ av_gw ∧ Cond.code y cy nLy retY ∈ av_gw ∧ y.cls ≠ "java/lang/invoke/MethodHandle" ∧ y.cls ≠ "java/lang/invoke/VarHandle" ∧ (parseMethodDescriptor y.desc).map (fun d => d.parameters.length) = some n
def av_kVN (own : String) (index : Nat) (C host : String) (y : MethodName) (cy : ByteArray) (nLy : Nat) (retY : Option FieldType) (n : Nat) : Prop :=
  Cond.methodLinkNest own index y host ∈ av_nw ∧ Cond.instanceMethod y ∈ av_gw ∧ Cond.selects C y y ∈ av_gw ∧ Cond.initialized y.cls ∈ av_gw ∧ Cond.code y cy nLy retY ∈ av_gw ∧ y.cls ≠ "java/lang/invoke/MethodHandle" ∧ y.cls ≠ "java/lang/invoke/VarHandle" ∧ (parseMethodDescriptor y.desc).map (fun d => d.parameters.length) = some n
def av_kS (own : String) (index : Nat) (y : MethodName) (cy : ByteArray) (nLy : Nat) (retY : Option FieldType) (n : Nat) : Prop :=
  Cond.methodLink own index y ∈ av_gw ∧ Cond.static y ∈ av_gw ∧ Cond.initialized y.cls ∈ av_gw ∧ Cond.code y cy nLy retY ∈ av_gw ∧ y.cls ≠ "java/lang/invoke/MethodHandle" ∧ y.cls ≠ "java/lang/invoke/VarHandle" ∧ (parseMethodDescriptor y.desc).map (fun d => d.parameters.length) = some n
def av_kSN (own : String) (index : Nat) (host : String) (y : MethodName) (cy : ByteArray) (nLy : Nat) (retY : Option FieldType) (n : Nat) : Prop :=
  Cond.methodLinkNest own index y host ∈ av_nw ∧ Cond.static y ∈ av_gw ∧ Cond.initialized y.cls ∈ av_gw ∧ Cond.code y cy nLy retY ∈ av_gw ∧ y.cls ≠ "java/lang/invoke/MethodHandle" ∧ y.cls ≠ "java/lang/invoke/VarHandle" ∧ (parseMethodDescriptor y.desc).map (fun d => d.parameters.length) = some n
/-- inherited or overridden: the instruction names x, found in owner; an object of C runs y -/
def av_kU (own : String) (index : Nat) (C owner : String) (x y : MethodName) (cy : ByteArray) (nLy : Nat) (retY : Option FieldType) (n : Nat) : Prop :=
  (Cond.methodLink own index x ∈ av_gw ∧ Cond.sameMethod x.cls owner x.name x.desc ∈ av_gw ∧ Cond.selects C x y ∈ av_gw ∧ Cond.instanceMethod y ∈ av_gw ∧ Cond.initialized y.cls ∈ av_gw ∧ Cond.code y cy nLy retY ∈ av_gw) ∧ (∃ b0 m0 r0, Cond.code ⟨owner, x.name, x.desc⟩ b0 m0 r0 ∈ av_gw ∧ Cond.instanceMethod ⟨owner, x.name, x.desc⟩ ∈ av_gw) ∧ owner ≠ "java/lang/invoke/MethodHandle" ∧ owner ≠ "java/lang/invoke/VarHandle" ∧ (parseMethodDescriptor x.desc).map (fun d => d.parameters.length) = some n
def av_kSU (own : String) (index : Nat) (y : MethodName) (cy : ByteArray) (nLy : Nat) (retY : Option FieldType) (n : Nat) : Prop :=
  Cond.methodLink own index y ∈ av_gw ∧ Cond.sameMethod y.cls y.cls y.name y.desc ∈ av_gw ∧ Cond.superclass own y.cls ∈ av_gw ∧ Cond.instanceMethod y ∈ av_gw ∧ Cond.initialized y.cls ∈ av_gw ∧ Cond.code y cy nLy retY ∈ av_gw ∧ y.name ≠ "<init>" ∧ (parseMethodDescriptor y.desc).map (fun d => d.parameters.length) = some n
theorem av_len_of {d : String} {n : Nat} (h : (parseMethodDescriptor d).map (fun d => d.parameters.length) = some n) : ∀ sig, parseMethodDescriptor d = some sig → n = sig.parameters.length := by
  intro sig hs
  rw [hs] at h
  exact (Option.some.inj h).symm
section
variable {p : Program} {l : Launch} {e : Env} {R : Room} {s : State} {m : MethodId} {args : Array Value} {below : List Frame} {meth : Method} {c : Code} {H : Heap} {locs : List Loc} {cells slots : Nat} {Q : State → Prop}
variable {cc : ByteArray} {pc : Nat} {ls : Array Slot} {rest : List Value} {w : Nat × Nat} {g : Gl} {μ : Mem} {own : String} {nL : Nat} {ret : Option FieldType}
variable {y x : MethodName} {cy : ByteArray} {nLy N n index : Nat} {retY : Option FieldType} {As : List Value} {Qc : Array Value → State → Outcome → State → Prop} {q ci : Nat} {C host owner : String} {Tt : u_T} {NN : Nat}
theorem av_preV (X : av_X w g s) (hR : av_R w g μ s H locs) (ht : av_t w q ci) (hl : ci < 13) (hcl : vwCl[ci]? = some (C, Tt, NN)) : PreV s H C (g.2.2 q) (va_Pc (.ref (g.2.2 q) :: As) (av_Pr w g μ)) As :=
  ⟨av_blind, va_recv (q := (C, Tt, NN)) (fs := av_fl g μ q ci) X.1 hR.1 hcl (q0 := q - w.1) (by rw [av_W_at ht.2, av_cell_o ht.1 hl]), fun U hU hW => ⟨rfl, by rw [hU]; exact hR.1, X.warm hR.2 hU hW⟩⟩
theorem av_preS (X : av_X w g s) (hR : av_R w g μ s H locs) : PreS s H (va_Pc As (av_Pr w g μ)) As :=
  ⟨av_blind, fun U hU hW => ⟨rfl, by rw [hU]; exact hR.1, X.warm hR.2 hU hW⟩⟩
theorem av_cV (E : av_E p s m args meth c cc own nL ret) (X : av_X w g s) (hR : av_R w g μ s H locs) (hls : ls.size = nL) (hM : Met l y (.code y cy nLy retY :: av_gw) (rmN N) (va_Pc (.ref (g.2.2 q) :: As) (av_Pr w g μ)) Qc 0 0 (av_A w g)) (hk : av_kV own index C y cy nLy retY n) (hroom : N + 1 ≤ R.frames ∧ 8 + (nLy + 11) + 60 * N ≤ R.locals) (ht : av_t w q ci) (hl : ci < 13) (hcl : vwCl[ci]? = some (C, Tt, NN)) (hn : As.length = n) (hrm : (rest.map fun v => v.category).sum ≤ 8) (hf : cells ≤ R.cells ∧ slots ≤ R.slots) (hdg : decode cc pc = .ok (.invokevirtual index, 3)) :
    va_Run p l e R s m args below meth c H locs cells slots 0 0 (F0 m pc ls (As.reverse ++ .ref (g.2.2 q) :: rest)) rest (Qc (Value.ref (g.2.2 q) :: As).toArray) (av_A w g) := by
  have hts := E.2.2.2.2.2.1
  obtain ⟨k1, k2, k3, k4, k5, k6, k7, k8⟩ := hk
  exact va_runV (Ts := av_gw) (n := n) ⟨E.1, E.2.1, E.2.2.2.1, E.2.2.2.2.1, hts⟩ hM ⟨callB_of n hts (av_good k5) rfl rfl rfl (hts _ k4) (hts _ k1) ⟨k6, k7, k8⟩ hroom, hts _ k2, hts _ k3⟩ (av_preV X hR ht hl hcl) rfl hn hls rfl (lv_room hrm) hdg hf
theorem av_cVN (E : av_E p s m args meth c cc own nL ret) (X : av_X w g s) (hR : av_R w g μ s H locs) (hls : ls.size = nL) (hM : Met l y (.code y cy nLy retY :: av_gw) (rmN N) (va_Pc (.ref (g.2.2 q) :: As) (av_Pr w g μ)) Qc 0 0 (av_A w g)) (hk : av_kVN own index C host y cy nLy retY n) (hroom : N + 1 ≤ R.frames ∧ 8 + (nLy + 11) + 60 * N ≤ R.locals) (ht : av_t w q ci) (hl : ci < 13) (hcl : vwCl[ci]? = some (C, Tt, NN)) (hn : As.length = n) (hrm : (rest.map fun v => v.category).sum ≤ 8) (hf : cells ≤ R.cells ∧ slots ≤ R.slots) (hdg : decode cc pc = .ok (.invokevirtual index, 3)) :
    va_Run p l e R s m args below meth c H locs cells slots 0 0 (F0 m pc ls (As.reverse ++ .ref (g.2.2 q) :: rest)) rest (Qc (Value.ref (g.2.2 q) :: As).toArray) (av_A w g) := by
  have hts := E.2.2.2.2.2.1
  obtain ⟨k1, k2, k3, k4, k5, k6, k7, k8⟩ := hk
  exact va_runVN (Ts := av_gw) (n := n) ⟨E.1, E.2.1, E.2.2.2.1, E.2.2.2.2.1, hts⟩ hM ⟨va_cnB n hts (av_good k5) rfl rfl rfl (X.2.1 _ k1) (hts _ k4) ⟨k6, k7, k8⟩ hroom, hts _ k2, hts _ k3⟩ (av_preV X hR ht hl hcl) rfl hn hls rfl (lv_room hrm) hdg hf
theorem av_cS (E : av_E p s m args meth c cc own nL ret) (X : av_X w g s) (hR : av_R w g μ s H locs) (hls : ls.size = nL) (hM : Met l y (.code y cy nLy retY :: av_gw) (rmN N) (va_Pc As (av_Pr w g μ)) Qc 0 0 (av_A w g)) (hk : av_kS own index y cy nLy retY n) (hroom : N + 1 ≤ R.frames ∧ 8 + (nLy + 11) + 60 * N ≤ R.locals) (hn : As.length = n) (hrm : (rest.map fun v => v.category).sum ≤ 8) (hf : cells ≤ R.cells ∧ slots ≤ R.slots) (hdg : decode cc pc = .ok (.invokestatic index, 3)) :
    va_Run p l e R s m args below meth c H locs cells slots 0 0 (F0 m pc ls (As.reverse ++ rest)) rest (Qc As.toArray) (av_A w g) := by
  have hts := E.2.2.2.2.2.1
  obtain ⟨k1, k2, k4, k5, k6, k7, k8⟩ := hk
  exact va_runS (Ts := av_gw) (n := n) ⟨E.1, E.2.1, E.2.2.2.1, E.2.2.2.2.1, hts⟩ hM ⟨callB_of n hts (av_good k5) rfl rfl rfl (hts _ k4) (hts _ k1) ⟨k6, k7, k8⟩ hroom, hts _ k2⟩ (av_preS X hR) rfl hn hls rfl (lv_room hrm) hdg hf
theorem av_cSN (E : av_E p s m args meth c cc own nL ret) (X : av_X w g s) (hR : av_R w g μ s H locs) (hls : ls.size = nL) (hM : Met l y (.code y cy nLy retY :: av_gw) (rmN N) (va_Pc As (av_Pr w g μ)) Qc 0 0 (av_A w g)) (hk : av_kSN own index host y cy nLy retY n) (hroom : N + 1 ≤ R.frames ∧ 8 + (nLy + 11) + 60 * N ≤ R.locals) (hn : As.length = n) (hrm : (rest.map fun v => v.category).sum ≤ 8) (hf : cells ≤ R.cells ∧ slots ≤ R.slots) (hdg : decode cc pc = .ok (.invokestatic index, 3)) :
    va_Run p l e R s m args below meth c H locs cells slots 0 0 (F0 m pc ls (As.reverse ++ rest)) rest (Qc As.toArray) (av_A w g) := by
  have hts := E.2.2.2.2.2.1
  obtain ⟨k1, k2, k4, k5, k6, k7, k8⟩ := hk
  exact va_runSN (Ts := av_gw) (n := n) ⟨E.1, E.2.1, E.2.2.2.1, E.2.2.2.2.1, hts⟩ hM ⟨va_cnB n hts (av_good k5) rfl rfl rfl (X.2.1 _ k1) (hts _ k4) ⟨k6, k7, k8⟩ hroom, hts _ k2, trivial⟩ (av_preS X hR) rfl hn hls rfl (lv_room hrm) hdg hf
theorem av_cU (E : av_E p s m args meth c cc own nL ret) (X : av_X w g s) (hR : av_R w g μ s H locs) (hls : ls.size = nL) (hM : Met l y (.code y cy nLy retY :: av_gw) (rmN N) (va_Pc (.ref (g.2.2 q) :: As) (av_Pr w g μ)) Qc 0 0 (av_A w g)) (hk : av_kU own index C owner x y cy nLy retY n) (hroom : N + 1 ≤ R.frames ∧ 8 + (nLy + 11) + 60 * N ≤ R.locals) (ht : av_t w q ci) (hl : ci < 13) (hcl : vwCl[ci]? = some (C, Tt, NN)) (hn : As.length = n) (hrm : (rest.map fun v => v.category).sum ≤ 8) (hf : cells ≤ R.cells ∧ slots ≤ R.slots) (hdg : decode cc pc = .ok (.invokevirtual index, 3)) :
    va_Run p l e R s m args below meth c H locs cells slots 0 0 (F0 m pc ls (As.reverse ++ .ref (g.2.2 q) :: rest)) rest (Qc (Value.ref (g.2.2 q) :: As).toArray) (av_A w g) := by
  have hts := E.2.2.2.2.2.1
  obtain ⟨⟨k1, k2, k3, k4, k5, k6⟩, ⟨b0, m0, r0, k7, k8⟩, k9, k10, k11⟩ := hk
  refine va_runU (Ts := av_gw) (n := n) (x := x) (owner := owner) ⟨E.1, E.2.1, E.2.2.2.1, E.2.2.2.2.1, hts⟩ hM ⟨⟨rfl, rfl, hroom.1, hroom.2, pay_in hts (av_good k6), List.mem_cons_self⟩, hts _ k6, hts _ k5, ⟨k9, k10⟩, av_len_of k11, hts _ k1, hts _ k2, va_Decl.of (hts _ k8) (hts _ k7), hts _ k3, hts _ k4⟩ (av_preV X hR ht hl hcl) rfl hn hls rfl (lv_room hrm) hdg hf
theorem av_cSU (E : av_E p s m args meth c cc own nL ret) (X : av_X w g s) (hR : av_R w g μ s H locs) (hls : ls.size = nL) (hM : Met l y (.code y cy nLy retY :: av_gw) (rmN N) (va_Pc (.ref (g.2.2 q) :: As) (av_Pr w g μ)) Qc 0 0 (av_A w g)) (hk : av_kSU own index y cy nLy retY n) (hroom : N + 1 ≤ R.frames ∧ 8 + (nLy + 11) + 60 * N ≤ R.locals) (ht : av_t w q ci) (hl : ci < 13) (hcl : vwCl[ci]? = some (C, Tt, NN)) (hn : As.length = n) (hrm : (rest.map fun v => v.category).sum ≤ 8) (hf : cells ≤ R.cells ∧ slots ≤ R.slots) (hdg : decode cc pc = .ok (.invokespecial index, 3)) :
    va_Run p l e R s m args below meth c H locs cells slots 0 0 (F0 m pc ls (As.reverse ++ .ref (g.2.2 q) :: rest)) rest (Qc (Value.ref (g.2.2 q) :: As).toArray) (av_A w g) := by
  have hts := E.2.2.2.2.2.1
  obtain ⟨k1, k2, k3, k4, k5, k6, k7, k8⟩ := hk
  exact va_runSU (Ts := av_gw) (n := n) (C := C) (X.1.1 ci _ hcl).2 ⟨E.1, E.2.1, E.2.2.2.1, E.2.2.2.2.1, hts⟩ hM ⟨⟨rfl, rfl, hroom.1, hroom.2, pay_in hts (av_good k6), List.mem_cons_self⟩, hts _ k1, hts _ k2, hts _ k3, hts _ k4, hts _ k5, hts _ k6, k7, av_len_of k8⟩ (av_preV X hR ht hl hcl) rfl hn hls rfl (lv_room hrm) hdg hf
variable {a : Array Value} {st0 : List Value} {μ' : Mem}
theorem av_goI (hR : av_R w g μ s H locs) {r : Int32} (hr : va_Run p l e R s m args below meth c H locs cells slots 0 0 (F0 m pc ls st0) rest (va_Qi (fun r1 u => r1 = r ∧ u = μ') (av_B w g) (av_A w g) a) (av_A w g))
    (kk : ∀ (H : Heap) (locs : List Loc), av_R w g μ' s H locs → W p l e R s m args below meth c H locs cells slots Q (F0 m (pc + 3) ls (.int r :: rest))) : W p l e R s m args below meth c H locs cells slots Q (F0 m pc ls st0) := by
  refine va_calli hr hR.2 (fun q _ h => h) (fun q h => h) (fun r1 u t H1 locs1 ht hvm hw hB hz hk hS => ?_)
  obtain ⟨rfl, rfl⟩ := hw
  exact kk H1 locs1 ⟨by rw [← ht]; exact hB, hS⟩
theorem av_goL (hR : av_R w g μ s H locs) {r : Int64} (hr : va_Run p l e R s m args below meth c H locs cells slots 0 0 (F0 m pc ls st0) rest (va_Ql (fun r1 u => r1 = r ∧ u = μ') (av_B w g) (av_A w g) a) (av_A w g))
    (kk : ∀ (H : Heap) (locs : List Loc), av_R w g μ' s H locs → W p l e R s m args below meth c H locs cells slots Q (F0 m (pc + 3) ls (.long r :: rest))) : W p l e R s m args below meth c H locs cells slots Q (F0 m pc ls st0) := by
  refine va_calll hr hR.2 (fun q _ h => h) (fun q h => h) (fun r1 u t H1 locs1 ht hvm hw hB hz hk hS => ?_)
  obtain ⟨rfl, rfl⟩ := hw
  exact kk H1 locs1 ⟨by rw [← ht]; exact hB, hS⟩
theorem av_goV (hR : av_R w g μ s H locs) (hr : va_Run p l e R s m args below meth c H locs cells slots 0 0 (F0 m pc ls st0) rest (va_Qv (fun u => u = μ') (av_B w g) (av_A w g) a) (av_A w g))
    (kk : ∀ (H : Heap) (locs : List Loc), av_R w g μ' s H locs → W p l e R s m args below meth c H locs cells slots Q (F0 m (pc + 3) ls rest)) : W p l e R s m args below meth c H locs cells slots Q (F0 m pc ls st0) := by
  refine va_callv hr hR.2 (fun q _ h => h) (fun q h => h) (fun u t H1 locs1 ht hvm hw hB hz hk hS => ?_)
  subst hw
  exact kk H1 locs1 ⟨by rw [← ht]; exact hB, hS⟩
theorem av_goR (hR : av_R w g μ s H locs) {r : Nat} (hr : va_Run p l e R s m args below meth c H locs cells slots 0 0 (F0 m pc ls st0) rest (va_Qr (fun u => u = μ') (fun u a t => a = g.2.2 r ∧ av_B w g u t) (av_A w g) a) (av_A w g))
    (kk : ∀ (H : Heap) (locs : List Loc), av_R w g μ' s H locs → W p l e R s m args below meth c H locs cells slots Q (F0 m (pc + 3) ls (.ref (g.2.2 r) :: rest))) : W p l e R s m args below meth c H locs cells slots Q (F0 m pc ls st0) := by
  refine va_callr hr hR.2 (fun q _ h => h) (fun q h => h) (fun u ra t H1 locs1 ht hvm hw hB hz hk hS => ?_)
  subst hw
  obtain ⟨rfl, hB⟩ := hB
  exact kk H1 locs1 ⟨by rw [← ht]; exact hB, hS⟩
theorem av_rr (E : av_E p s m args meth c cc own nL (some (.object C))) (hR : av_R w g μ s H locs) {v r : Nat} (hz : v = r ∧ μ = μ') (hdg : decode cc pc = .ok (.areturn, 1)) : W p l e R s m args below meth c H locs cells slots (MQ below (va_Qr (fun u => u = μ') (fun u a t => a = g.2.2 r ∧ av_B w g u t) (av_A w g)) args s cells slots (av_A w g)) (F0 m pc ls [.ref (g.2.2 v)]) :=
  W.aret E.1 E.2.1 E.2.2.1 (Or.inl ⟨C, rfl⟩) (Or.inr ⟨_, rfl⟩) (fun t ht _ => ⟨⟨μ, g.2.2 v, rfl, hz.2, by rw [hz.1], by unfold av_B; rw [ht]; exact hR.1⟩, hR.2.F ht⟩) hR.2.2.2 hdg (hlocks := E.2.2.2.2.2.2)
theorem av_ent {vs : List Value} (hy : plainName y.cls = true) (hlen : (lg_sl vs).length ≤ nLy) (hown : y.cls = own)
    (body : ∀ (p : Program) (e : Env) (s : State) (m : MethodId) (args : Array Value) (below : List Frame) (meth : Method) (c : Code), av_E p s m args meth c cy own nLy ret → av_X w g s → av_R w g μ s s.heap [] → ∀ ls : Array Slot, lv_has ls nLy (lv_args 0 vs) → W p l e (rmN N) s m args below meth c s.heap [] 0 0 (MQ below Qc args s 0 0 (av_A w g)) (F0 m 0 ls [])) : Met l y (.code y cy nLy ret :: av_gw) (rmN N) (va_Pc vs (av_Pr w g μ)) Qc 0 0 (av_A w g) := by
  refine Met.ofW (cc := cy) (maxL := nLy) (ret := ret) hy rfl ?_
  intro p e s m args below meth c s₁ B hml hv
  obtain ⟨rfl, hP, hX⟩ := hv
  have hl := lv_entry vs (n := nLy) hlen
  have hts := atoms_spec (ws := .code y cy nLy ret :: av_gw) B.pre
  rw [lg_entry_eq]
  exact body _ _ _ _ _ _ _ _ ⟨B.exec, B.bytes, B.returns, hml, hown ▸ findClass_of_methodNamed B.named, fun x hx => hts x (List.mem_cons_of_mem _ hx), B.notSynchronized⟩ hX ⟨hP, va_S.rf⟩ _ hl
end
/-- taking apart what a definition says -/
theorem av_bd {α β : Type} {o : Option α} {f : α → Option β} {z : β} (h : o.bind f = some z) : ∃ x, o = some x ∧ f x = some z := by
  cases o with
  | none => cases h
  | some x => exact ⟨x, rfl, h⟩
theorem av_it {α : Type} {c : Prop} {_ : Decidable c} {a b z : α} (hc : c) (h : (if c then a else b) = z) : a = z := by rw [if_pos hc] at h; exact h
theorem av_if {α : Type} {c : Prop} {_ : Decidable c} {a b z : α} (hc : ¬ c) (h : (if c then a else b) = z) : b = z := by rw [if_neg hc] at h; exact h
/-- a bind whose answer is a value and a memory -/
def av_b2 {α β γ : Type} (o : Option (α × β)) (f : α → β → Option γ) : Option γ := match o with
  | none => none
  | some q => f q.1 q.2
theorem av_bd2 {α β γ : Type} {o : Option (α × β)} {f : α → β → Option γ} {z : γ} (h : av_b2 o f = some z) : ∃ x y, o = some (x, y) ∧ f x y = some z := by
  cases o with
  | none => cases h
  | some x => exact ⟨x.1, x.2, rfl, h⟩
theorem av_r2 {α β : Type} {a c : α} {b d : β} (h : some (a, b) = some (c, d)) : a = c ∧ b = d := by cases h; exact ⟨rfl, rfl⟩
theorem av_r1 {α : Type} {a c : α} {μ : Mem} (h : some a = some c) : a = c ∧ μ = μ := ⟨Option.some.inj h, rfl⟩
def av_big : Nat := 1000000
/-- a boolean on its way out -/
def av_z (v : Int32) : Option Int32 := if v = 0 then some v else if v = 1 then some v else none
theorem av_z_e {v x : Int32} (h : av_z v = some x) : v = x ∧ narrow .boolean (.int v) = .int v := by
  unfold av_z at h
  split at h
  · rename_i hv; subst hv; cases h; exact ⟨rfl, rfl⟩
  · split at h
    · rename_i hv; subst hv; cases h; exact ⟨rfl, rfl⟩
    · cases h
def av_pl (q : Nat) : Prop := av_t av_wc q 4 ∨ av_t av_wc q 0 ∨ av_t av_wc q 3 ∨ av_t av_wc q 6 ∨ av_t av_wc q 2 ∨ av_t av_wc q 10
theorem av_rd_dec {q q' : Nat} {i : Int32} (h : rdr q i = some q') : i.toNatClampNeg < av_ln q ∧ q' = av_rf q i.toNatClampNeg := by
  unfold rdr at h
  split at h
  · cases h
  · rename_i hin; cases h; exact ⟨Nat.not_le.mp fun z => hin (Or.inr z), rfl⟩
theorem av_ty16 {q q' : Nat} {i : Int32} (ht : av_t av_wc q 16) (h : rdr q i = some q') : av_pl q' := by
  obtain ⟨h1, rfl⟩ := av_rd_dec h
  have hd : ∀ x, x < 98 → av_cls x = 16 → ∀ j, j < 6 → (av_ln x ≤ j ∨ (av_cls (av_rf x j) ∈ [4, 0, 3, 6, 2, 10] ∧ av_rf x j < 98)) := by decide +kernel
  have h6 : ∀ x, x < 98 → av_cls x = 16 → av_ln x ≤ 6 := by decide +kernel
  have hq : q < 98 := by have := ht.2.2; simpa using this
  have hj := Nat.lt_of_lt_of_le h1 (h6 q hq ht.1)
  rcases hd q hq ht.1 _ hj with h | ⟨h, h3⟩
  · omega
  · simp only [List.mem_cons, List.not_mem_nil, or_false] at h
    rcases h with h | h | h | h | h | h
    · exact Or.inl ⟨h, Nat.zero_le _, by simpa using h3⟩
    · exact Or.inr (Or.inl ⟨h, Nat.zero_le _, by simpa using h3⟩)
    · exact Or.inr (Or.inr (Or.inl ⟨h, Nat.zero_le _, by simpa using h3⟩))
    · exact Or.inr (Or.inr (Or.inr (Or.inl ⟨h, Nat.zero_le _, by simpa using h3⟩)))
    · exact Or.inr (Or.inr (Or.inr (Or.inr (Or.inl ⟨h, Nat.zero_le _, by simpa using h3⟩))))
    · exact Or.inr (Or.inr (Or.inr (Or.inr (Or.inr ⟨h, Nat.zero_le _, by simpa using h3⟩))))
theorem av_ty17 {q q' : Nat} {i : Int32} (ht : av_t av_wc q 17) (h : rdr q i = some q') : av_t av_wc q' 8 := by
  obtain ⟨h1, rfl⟩ := av_rd_dec h
  have hd : ∀ x, x < 98 → av_cls x = 17 → ∀ j, j < 2 → (av_ln x ≤ j ∨ (av_cls (av_rf x j) = 8 ∧ av_rf x j < 98)) := by decide +kernel
  have h6 : ∀ x, x < 98 → av_cls x = 17 → av_ln x ≤ 2 := by decide +kernel
  have hq : q < 98 := by have := ht.2.2; simpa using this
  have hj := Nat.lt_of_lt_of_le h1 (h6 q hq ht.1)
  rcases hd q hq ht.1 _ hj with h | ⟨h, h3⟩
  · omega
  · exact ⟨h, Nat.zero_le _, by simpa using h3⟩
theorem av_ty18 {q q' : Nat} {i : Int32} (ht : av_t av_wc q 18) (h : rdr q i = some q') : av_t av_wc q' 7 := by
  obtain ⟨h1, rfl⟩ := av_rd_dec h
  have hd : ∀ x, x < 98 → av_cls x = 18 → ∀ j, j < 7 → (av_ln x ≤ j ∨ (av_cls (av_rf x j) = 7 ∧ av_rf x j < 98)) := by decide +kernel
  have h6 : ∀ x, x < 98 → av_cls x = 18 → av_ln x ≤ 7 := by decide +kernel
  have hq : q < 98 := by have := ht.2.2; simpa using this
  have hj := Nat.lt_of_lt_of_le h1 (h6 q hq ht.1)
  rcases hd q hq ht.1 _ hj with h | ⟨h, h3⟩
  · omega
  · exact ⟨h, Nat.zero_le _, by simpa using h3⟩
theorem av_room {N M k : Nat} (h1 : N + 1 ≤ M) (h2 : k ≤ 41) : N + 1 ≤ (rmN M).frames ∧ 8 + (k + 11) + 60 * N ≤ (rmN M).locals := by
  refine ⟨h1, ?_⟩
  show 8 + (k + 11) + 60 * N ≤ 60 * M
  omega
