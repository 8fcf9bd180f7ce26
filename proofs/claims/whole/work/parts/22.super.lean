/-! super.m(..) where the superclass has m from its own superclass -/
section
variable {p : Program} {l : Launch} {e : Env} {R : Room} {s : State} {m : MethodId} {args : Array Value} {below : List Frame} {meth : Method} {c : Code}
theorem av_callSUo {T : State} {locs : List Loc} {cells slots : Nat} (X : Stand p l e R s m args below meth c T locs cells slots) (hexec : p.tables.exec = Jvm.exec) {own : String} {index : Nat} {x y : MethodName} {bytes : ByteArray} {maxL : Nat} {ret : Option FieldType}
    (hown : s.vm.findClass own = some m.cls) (hlink : (Cond.methodLink own index x).before args s = true) (hyx : y = ⟨y.cls, x.name, x.desc⟩) (hsame : (Cond.sameMethod x.cls y.cls x.name x.desc).before args s = true) (hsup : (Cond.superclass own x.cls).before args s = true) (hsup2 : (Cond.superclass x.cls y.cls).before args s = true)
    (hinst : (Cond.instanceMethod y).before args s = true) (hcode : (Cond.code y bytes maxL ret).before args s = true) (hno : x.name ≠ "<init>")
    {W : Nat} {Pre : Pt → Array Value → Prop} {Post : Pt → Array Value → Option Value → Pt → Prop} (hK : Back l R p e below s args y 3 W Pre Post)
    {b : Addr} {cellB : Cell} {kB : Class} (hcell : T.heap[b]? = some cellB) (hobj : cellB.vm.isStatics = false) (hkB : s.vm.classes[cellB.cls]? = some kB)
    {g : JFrame} (hg : g.method = m) (hsize : g.locals.size = c.maxLocals) {argsL rest : List Value} (hlen : ∀ sig, parseMethodDescriptor y.desc = some sig → argsL.length = sig.parameters.length)
    (hstack : g.stack = argsL.reverse ++ .ref b :: rest) (hW : 2 * g.monitorRoom + (rest.map fun v => v.category).sum ≤ W) (hdg : decode c.code g.pc = .ok (.invokespecial index, 3))
    (hpre : ∀ vm₁, s.WarmedH vm₁ → Pre ⟨T.setVm vm₁, locs, cells, slots⟩ (Value.ref b :: argsL).toArray) :
    ∃ (v : Option Value) (vm₁ : Vm) (B : Pt), s.WarmedH vm₁ ∧ Stand p l e R s m args below meth c B.U B.locs B.cells B.slots ∧ Post ⟨T.setVm vm₁, locs, cells, slots⟩ (Value.ref b :: argsL).toArray v B ∧
      ∀ target, Steps p.tables e below (B.U.setTop { g with pc := g.pc + 3, stack := v.toList ++ rest }) target → Steps p.tables e below (T.setTop g) target := by
  obtain ⟨mk, methM, hnamed, hmethM, hstM, habM⟩ := Cond.instanceMethod_spec hinst
  obtain ⟨methM', cM, hmethM', -, -, -, -, -, -, hsigM⟩ := Cond.code_spec hnamed hcode
  cases hmethM.symm.trans hmethM'
  obtain ⟨ps, dk, kp, hps, hdk, hkp, hsuper, -, -, hnid⟩ := Cond.superclass_spec hown hsup
  obtain ⟨ps2, dk2, kp2, hps2, hdk2, hkp2, hsuper2, -, -, -⟩ := Cond.superclass_spec hps hsup2
  have hn : s.methodNamed? ⟨y.cls, x.name, x.desc⟩ = some mk := by rw [← hyx]; exact hnamed
  have hpm : ps2 = mk.cls := Option.some.inj (hps2.symm.trans (findClass_of_methodNamed hnamed))
  have hsz : 0 < s.vm.classes.size := by
    have := (Array.getElem?_eq_some_iff.mp hdk2).1
    omega
  have hsub : s.vm.isSubclass ps mk.cls = true := by
    rw [← hpm]
    obtain ⟨k, hk⟩ : ∃ k, s.vm.classes.size = k + 1 := ⟨s.vm.classes.size - 1, by omega⟩
    simp [Vm.isSubclass, Vm.isSubclassAux, hk, hdk2, hsuper2]
  obtain ⟨vm₁, X₁, hstep₁⟩ := X.invokespecialUp hexec hown hlink hsame hn hmethM hstM habM hno hdk hnid hps hsuper hsub (a := b) (cell := cellB) hcell
    (fun z h => by rw [h] at hobj; cases hobj) hkB (g := g) hg (argsL := argsL) (rest := rest) (hlen _ hsigM) hstack hdg
  obtain ⟨v, B, X', hpost, hsteps⟩ := hK m meth c ⟨T.setVm vm₁, locs, cells, slots⟩ { g with stack := rest } (.invokespecial index) mk (Value.ref b :: argsL).toArray X₁ hg hsize hdg hW (X₁.named hnamed) (hpre vm₁ X₁.warmed)
  exact ⟨v, vm₁, B, X₁.warmed, X', hpost, fun target h => hstep₁ _ (by rw [doInvoke_state]; exact hsteps.trans h)⟩
end
def av_kSo (own : String) (index : Nat) (x y : MethodName) (cy : ByteArray) (nLy : Nat) (retY : Option FieldType) (n : Nat) : Prop :=
  (Cond.methodLink own index x ∈ av_gw ∧ Cond.sameMethod x.cls y.cls x.name x.desc ∈ av_gw ∧ Cond.superclass own x.cls ∈ av_gw ∧ Cond.superclass x.cls y.cls ∈ av_gw ∧ Cond.instanceMethod y ∈ av_gw ∧ Cond.initialized y.cls ∈ av_gw ∧ Cond.code y cy nLy retY ∈ av_gw) ∧ y = ⟨y.cls, x.name, x.desc⟩ ∧ x.name ≠ "<init>" ∧ (parseMethodDescriptor y.desc).map (fun d => d.parameters.length) = some n
section
variable {p : Program} {l : Launch} {e : Env} {R : Room} {s : State} {m : MethodId} {args : Array Value} {below : List Frame} {meth : Method} {c : Code} {H : Heap} {locs : List Loc} {cells slots : Nat} {Q : State → Prop} {cc : ByteArray} {pc : Nat} {ls : Array Slot} {rest : List Value} {w : Nat × Nat} {g : Gl} {μ : Mem} {own : String} {nL : Nat} {ret : Option FieldType} {y x : MethodName} {cy : ByteArray} {nLy N n index : Nat} {retY : Option FieldType} {As : List Value} {Qc : Array Value → State → Outcome → State → Prop} {q ci : Nat} {C : String} {Tt : u_T} {NN : Nat}
theorem av_cSo (E : av_E p s m args meth c cc own nL ret) (X : av_X w g s) (hR : av_R w g μ s H locs) (hls : ls.size = nL) (hM : Met l y (.code y cy nLy retY :: av_gw) (rmN N) (va_Pc (.ref (g.2.2 q) :: As) (av_Pr w g μ)) Qc 0 0 (av_A w g)) (hk : av_kSo own index x y cy nLy retY n) (hroom : N + 1 ≤ R.frames ∧ 8 + (nLy + 11) + 60 * N ≤ R.locals) (ht : av_t w q ci) (hl : ci < 13) (hcl : vwCl[ci]? = some (C, Tt, NN)) (hn : As.length = n) (hrm : (rest.map fun v => v.category).sum ≤ 8) (hf : cells ≤ R.cells ∧ slots ≤ R.slots) (hdg : decode cc pc = .ok (.invokespecial index, 3)) :
    va_Run p l e R s m args below meth c H locs cells slots 0 0 (F0 m pc ls (As.reverse ++ .ref (g.2.2 q) :: rest)) rest (Qc (Value.ref (g.2.2 q) :: As).toArray) (av_A w g) := by
  have hts := E.2.2.2.2.2.1
  obtain ⟨⟨k1, k2, k3, k4, k5, k6, k7⟩, k8, k9, k10⟩ := hk
  have hp := av_preV (As := As) X hR ht hl hcl
  have hK : Back l R p e below s args y 3 8 (PreOf R 0 0 (va_Pc (.ref (g.2.2 q) :: As) (av_Pr w g μ))) (PostOf Qc 0 0 (av_A w g)) := back_of (bytes := cy) (maxL := nLy) (ret := retY) hM hp.1 rfl rfl hroom.1 hroom.2 (pay_in hts (av_good k7)) List.mem_cons_self (fun a' U hW => word_at hW (Or.inl (by first | rfl | simp [Cond.onTables, Cond.keeps, Cond.steady])) (hts _ k6))
  obtain ⟨-, ⟨cellB, hcB, hoB, hclB⟩, hPc⟩ := hp
  obtain ⟨hfc, kB, hkB, -⟩ := (X.1.1 ci _ hcl).2
  have hce : cellB.cls = g.1.1 ci := Option.some.inj (hclB.symm.trans hfc)
  have hkB : s.vm.classes[cellB.cls]? = some kB := by rw [hce]; exact hkB
  intro T hT X2
  obtain ⟨v, vm₁, ⟨U', l2, c2, s2⟩, hW₁, X', ⟨g', mk, t, L, e1, e2, hq, h1, hL, h2, h3⟩, st⟩ := av_callSUo X2 E.1 (bytes := cy) (maxL := nLy) (ret := retY) E.2.2.2.2.1 (hts _ k1) k8 (hts _ k2) (hts _ k3) (hts _ k4) (hts _ k5) (hts _ k7) k9 hK (by rw [hT]; exact hcB) hoB hkB (g := F0 m pc ls (As.reverse ++ .ref (g.2.2 q) :: rest)) rfl (hls.trans E.2.2.2.1.symm) (argsL := As) (rest := rest) (fun sig h => hn.trans (av_len_of k10 sig h)) rfl (lv_room hrm) (by rw [E.2.1]; exact hdg)
    (fun vm₁ hW₁ => ⟨hf.1, hf.2, hPc (T.setVm vm₁) hT hW₁⟩)
  dsimp only [Pt.U, Pt.locs, Pt.cells, Pt.slots] at X' e1 e2 h1 h2 h3 st
  subst h1; subst h2; subst h3
  exact ⟨v, (T.setVm vm₁).calling g' mk (Value.ref (g.2.2 q) :: As).toArray, t, U', L, hT, X', hL, e1, e2, hq, st⟩
theorem av_cSop (E : av_E p s m args meth c cc own nL ret) (X : av_X av_wc g s) (hR : av_R av_wc g μ s H locs) (hls : ls.size = nL) (hM : Met l y (.code y cy nLy retY :: av_gw) (rmN N) (va_Pc (.ref (g.2.2 q) :: As) (av_Pr av_wc g μ)) Qc 0 0 (av_A av_wc g)) (hk : av_kSo own index x y cy nLy retY n) (hroom : N + 1 ≤ R.frames ∧ 8 + (nLy + 11) + 60 * N ≤ R.locals) (hq : av_pl q) (hn : As.length = n) (hrm : (rest.map fun v => v.category).sum ≤ 8) (hf : cells ≤ R.cells ∧ slots ≤ R.slots) (hdg : decode cc pc = .ok (.invokespecial index, 3)) :
    va_Run p l e R s m args below meth c H locs cells slots 0 0 (F0 m pc ls (As.reverse ++ .ref (g.2.2 q) :: rest)) rest (Qc (Value.ref (g.2.2 q) :: As).toArray) (av_A av_wc g) := by
  rcases hq with h | h | h | h | h | h <;> exact av_cSo E X hR hls hM hk hroom h (by decide) rfl hn hrm hf hdg
end
