/-! ===== super, where the superclass has the method from its own superclass ===== -/
theorem sub_one {args : Array Value} {s : State} {a b : String} {ca cb : ClassId} (ha : s.vm.findClass a = some ca) (hb : s.vm.findClass b = some cb) (h : (Cond.superclass a b).before args s = true) : s.vm.isSubclass ca cb = true := by
  obtain ⟨p, k, kp, h1, h2, h3, h4, -, -, -⟩ := Cond.superclass_spec ha h
  cases hb.symm.trans h1
  have hs : 0 < s.vm.classes.size := Nat.lt_of_le_of_lt (Nat.zero_le _) (Array.getElem?_eq_some_iff.mp h2).1
  obtain ⟨m, hm⟩ : ∃ m, s.vm.classes.size = m + 1 := ⟨s.vm.classes.size - 1, by omega⟩
  unfold Vm.isSubclass
  rw [hm]
  simp [Vm.isSubclassAux, h2, h4]
section VSU2
variable {p : Program} {l : Launch} {e : Env} {R : Room} {s : State} {m : MethodId} {args : Array Value} {below : List Frame} {meth : Method} {c : Code}
theorem callSU2 {T : State} {locs : List Loc} {cells slots : Nat} (X : Stand p l e R s m args below meth c T locs cells slots) (hexec : p.tables.exec = Jvm.exec) {own : String} {index : Nat} {x y : MethodName} {bytes : ByteArray} {maxL : Nat} {ret : Option FieldType}
    (hown : s.vm.findClass own = some m.cls) (hlink : (Cond.methodLink own index x).before args s = true) (hxy : y = ⟨y.cls, x.name, x.desc⟩) (hsame : (Cond.sameMethod x.cls y.cls x.name x.desc).before args s = true) (hsup : (Cond.superclass own x.cls).before args s = true) (hsup2 : (Cond.superclass x.cls y.cls).before args s = true)
    (hinst : (Cond.instanceMethod y).before args s = true) (hcode : (Cond.code y bytes maxL ret).before args s = true) (hno : x.name ≠ "<init>")
    {W : Nat} {Pre : Pt → Array Value → Prop} {Post : Pt → Array Value → Option Value → Pt → Prop} (hK : Back l R p e below s args y 3 W Pre Post)
    {b : Addr} {cellB : Cell} {kB : Class} (hcell : T.heap[b]? = some cellB) (hobj : cellB.vm.isStatics = false) (hkB : s.vm.classes[cellB.cls]? = some kB)
    {g : JFrame} (hg : g.method = m) (hsize : g.locals.size = c.maxLocals) {argsL rest : List Value} (hlen : ∀ sig, parseMethodDescriptor y.desc = some sig → argsL.length = sig.parameters.length)
    (hstack : g.stack = argsL.reverse ++ .ref b :: rest) (hW : 2 * g.monitorRoom + (rest.map fun v => v.category).sum ≤ W) (hdg : decode c.code g.pc = .ok (.invokespecial index, 3))
    (hpre : ∀ vm₁, s.WarmedH vm₁ → Pre ⟨T.setVm vm₁, locs, cells, slots⟩ (Value.ref b :: argsL).toArray) :
    ∃ (v : Option Value) (vm₁ : Vm) (B : Pt), s.WarmedH vm₁ ∧ Stand p l e R s m args below meth c B.U B.locs B.cells B.slots ∧ Post ⟨T.setVm vm₁, locs, cells, slots⟩ (Value.ref b :: argsL).toArray v B ∧
      ∀ target, Steps p.tables e below (B.U.setTop { g with pc := g.pc + 3, stack := v.toList ++ rest }) target → Steps p.tables e below (T.setTop g) target := by
  obtain ⟨mk, methM, hnamed, hmethM, hstM, habM⟩ := Cond.instanceMethod_spec hinst
  obtain ⟨methM', cM, hmethM', -, -, -, -, -, -, hsigM⟩ := Cond.code_spec hnamed hcode
  cases hmethM.symm.trans hmethM'
  obtain ⟨ps, dk, kp, hps, hdk, hkp, hsuper, -, -, hnid⟩ := Cond.superclass_spec hown hsup
  have hn : s.methodNamed? ⟨y.cls, x.name, x.desc⟩ = some mk := by rw [← hxy]; exact hnamed
  have hsub : s.vm.isSubclass ps mk.cls = true := sub_one hps (findClass_of_methodNamed hnamed) hsup2
  obtain ⟨vm₁, X₁, hstep₁⟩ := X.invokespecialUp hexec hown hlink hsame hn hmethM hstM habM hno hdk hnid hps hsuper hsub (a := b) (cell := cellB) hcell
    (fun z h => by rw [h] at hobj; cases hobj) hkB (g := g) hg (argsL := argsL) (rest := rest) (hlen _ hsigM) hstack hdg
  obtain ⟨v, B, X', hpost, hsteps⟩ := hK m meth c ⟨T.setVm vm₁, locs, cells, slots⟩ { g with stack := rest } (.invokespecial index) mk (Value.ref b :: argsL).toArray X₁ hg hsize hdg hW (X₁.named hnamed) (hpre vm₁ X₁.warmed)
  exact ⟨v, vm₁, B, X₁.warmed, X', hpost, fun target h => hstep₁ _ (by rw [doInvoke_state]; exact hsteps.trans h)⟩
end VSU2
section CR3
variable {X : Cx} {cc : ByteArray} {own : String} {f n : Nat} {pc : Nat} {lv : List (Nat × Value)} {Wf : Ev → Mem → va_W} {x y : MethodName} {bytes : ByteArray} {maxL f2 n2 np idx : Nat} {ret : FieldType} {M M2 : Mem} {st As rest : List Value} {b : Nat}
def KY (own : String) (idx : Nat) (x y : MethodName) (bytes : ByteArray) (maxL : Nat) (ret : Option FieldType) (np : Nat) : Prop := Cond.methodLink own idx x ∈ gw ∧ Cond.sameMethod x.cls y.cls x.name x.desc ∈ gw ∧ Cond.superclass own x.cls ∈ gw ∧ Cond.superclass x.cls y.cls ∈ gw ∧ Cond.instanceMethod y ∈ gw ∧ Cond.initialized y.cls ∈ gw ∧ Cond.code y bytes maxL ret ∈ gw ∧ x.name ≠ "<init>" ∧ y = ⟨y.cls, x.name, x.desc⟩ ∧ (parseMethodDescriptor y.desc).map (fun d => d.parameters.length) = some np
set_option maxHeartbeats 4000000 in
theorem g_yI {r : Int32} (F : Fx X cc own f n) (hC : CtI (xl X) (xE X) (Wf (xE X)) y bytes maxL ret f2 n2 (.ref b :: As) M r M2) (hk : KY own idx x y bytes maxL (some ret) np) {ci : Nat} {C : vw_C} (q0 : Nat) {fs : List Value} (hc : vwCl[ci]? = some C) (he : (Wf (xE X) M)[q0]? = some (b, .inr (ci, fs)))
    (hn : As.length = np) (hst : st = As.reverse ++ .ref b :: rest) (hrm : f2 + 1 ≤ f ∧ 8 + (maxL + 11) + n2 ≤ n) (hro : (rest.map fun v => v.category).sum ≤ 8) (d : decode cc pc = .ok (.invokespecial idx, 3)) (k : G X (Wf (xE X) M2) (pc + 3) lv (.int r :: rest)) : G X (Wf (xE X) M) pc lv st := by
  intro H locs ls hP hD hS hl9
  subst hst
  have hFc := hFc_of F.2.2.2.2.2.2.1 hD hS
  obtain ⟨cellB, hcB, hoB, hclB⟩ := va_recv F.2.2.2.2.2.1 hP hc he
  obtain ⟨hfc, kB, hkB, -⟩ := (F.2.2.2.2.2.1.1 ci C hc).2
  rw [Option.some.inj (hfc.symm.trans hclB)] at hkB
  have hts := F.2.2.2.2.1
  have hrm2 := rm_le F.2.2.2.2.2.2.2.2.2 hrm
  have hpr := pre_of (av := .ref b :: As) F hP hD hS
  have hKb : Back (xl X) (xR X) (xp X) (xe X) (xb X) (xs X) (xa X) y 3 8 (PreOf (xR X) 0 0 (va_Pc (.ref b :: As) (Pr (xE X) (Wf (xE X) M) H.size))) (PostOf (va_Qi (fun (r' : Int32) (u : Mem) => r' = r ∧ u = M2) (Po (xE X) (Wf (xE X)) (va_A (Wf (xE X) M) H.size)) (va_A (Wf (xE X) M) H.size)) 0 0 (va_A (Wf (xE X) M) H.size)) :=
    back_of (bytes := bytes) (maxL := maxL) (ret := some ret) (hC H.size) blind rfl rfl hrm2.1 hrm2.2 (pay_in hts (gi_cons hk.2.2.2.2.2.2.1)) List.mem_cons_self (fun a' U hW => word_at hW (Or.inl (by first | rfl | simp [Cond.onTables, Cond.keeps, Cond.steady])) (hts _ hk.2.2.2.2.2.1))
  have hrun : va_Run (xp X) (xl X) (xe X) (xR X) (xs X) (xm X) (xa X) (xb X) (xM X) (xc X) H locs 0 0 0 0 (F0 (xm X) pc ls (As.reverse ++ .ref b :: rest)) rest (va_Qi (fun (r' : Int32) (u : Mem) => r' = r ∧ u = M2) (Po (xE X) (Wf (xE X)) (va_A (Wf (xE X) M) H.size)) (va_A (Wf (xE X) M) H.size) (Value.ref b :: As).toArray) (va_A (Wf (xE X) M) H.size) := by
    intro T hT XX
    obtain ⟨v, vm₁, ⟨U', l2, c2, s2⟩, hW₁, X', ⟨g', mk, t, L, e1, e2, hq, h1, hL, h2, h3⟩, stp⟩ := callSU2 XX F.1 (bytes := bytes) (maxL := maxL) (ret := some ret) F.2.2.2.1 (hts _ hk.1) hk.2.2.2.2.2.2.2.2.1 (hts _ hk.2.1) (hts _ hk.2.2.1) (hts _ hk.2.2.2.1) (hts _ hk.2.2.2.2.1) (hts _ hk.2.2.2.2.2.2.1) hk.2.2.2.2.2.2.2.1 hKb (by rw [hT]; exact hcB) hoB hkB (g := F0 (xm X) pc ls (As.reverse ++ .ref b :: rest)) rfl (hl9.1.trans F.2.2.1.symm) (argsL := As) (rest := rest) (fun sig h => by
        have h2 := hk.2.2.2.2.2.2.2.2.2
        rw [h] at h2
        rw [hn]
        exact (Option.some.inj h2).symm) rfl (lv_room hro) (by rw [F.2.1]; exact d)
      (fun vm₁ hW₁ => ⟨(rm_cs F.2.2.2.2.2.2.2.2.2).1, (rm_cs F.2.2.2.2.2.2.2.2.2).2, hpr (T.setVm vm₁) hT hW₁⟩)
    dsimp only [Pt.U, Pt.locs, Pt.cells, Pt.slots] at X' e1 e2 h1 h2 h3 stp
    subst h1; subst h2; subst h3
    exact ⟨v, (T.setVm vm₁).calling g' mk (Value.ref b :: As).toArray, t, U', L, hT, X', hL, e1, e2, hq, stp⟩
  refine va_calli hrun hS (fun q _ h => hFc q h) hFc (fun r' u t H1 locs1 ht hvm hw hB hz1 hk1 hS1 => ?_)
  obtain ⟨rfl, rfl⟩ := hw
  exact k H1 locs1 ls (by rw [← ht]; exact hB.1) (hB.2.weaken (fun _ q _ h => hFc q.1 h)) hS1 hl9
end CR3
theorem kcl_ok {k : Nat} (hk : k < 6) : ∃ C, vwCl[kcl k]? = some C := by
  match k, hk with
  | 0, _ => exact ⟨_, rfl⟩
  | 1, _ => exact ⟨_, rfl⟩
  | 2, _ => exact ⟨_, rfl⟩
  | 3, _ => exact ⟨_, rfl⟩
  | 4, _ => exact ⟨_, rfl⟩
  | 5, _ => exact ⟨_, rfl⟩
  | k + 6, hk => exact absurd hk (by omega)
