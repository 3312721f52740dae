/-! ===== the abstract memory, the judgement G, contracts over a whole world ===== -/
abbrev Mem : Type := (Nat → Nat → Int32) × (Nat → Nat → Int64)
def sI (M : Mem) (r i : Nat) (v : Int32) : Mem := (fun r' => if r' = r then upd (M.1 r) i v else M.1 r', M.2)
def sJ (M : Mem) (r i : Nat) (v : Int64) : Mem := (M.1, fun r' => if r' = r then vp_updL (M.2 r) i v else M.2 r')
/-- the surroundings: class numbers and slots; array classes; addresses of the class's cells, of the model's; of the texts, of their bytes -/
abbrev Ev : Type := va_G × (Nat → ClassId) × (Nat → Nat) × (Nat → Nat) × (Nat → Nat) × (Nat → Nat)
abbrev eD (E : Ev) : va_G := E.1
abbrev eA (E : Ev) : Nat → ClassId := E.2.1
abbrev ec (E : Ev) : Nat → Nat := E.2.2.1
abbrev em (E : Ev) : Nat → Nat := E.2.2.2.1
abbrev eK (E : Ev) : Nat → Nat := E.2.2.2.2.1
abbrev eV (E : Ev) : Nat → Nat := E.2.2.2.2.2
def tysE (E : Ev) : List (ClassId × FieldType) := [(eA E 0, .int), (eA E 1, .long), (eA E 2, .byte), (eA E 3, .object "TowerWarns$Vessel"), (eA E 4, .object "TowerWarns$Ship"), (eA E 5, .object "TowerWarns$Sheet")]
/-- the texts of the class: 0 to 5 the kinds' names, 6 at, 7 tower, 8 burns, 9 dark, 10 reach -/
def sLen : List Nat := [4, 7, 4, 7, 4, 3, 2, 5, 5, 4, 5]
def sByt : List (List Int32) := [[115, 104, 105, 112], [115, 116, 101, 97, 109, 101, 114], [98, 111, 97, 116], [100, 114, 105, 102, 116, 101, 114], [109, 97, 105, 108], [103, 105, 103], [97, 116], [116, 111, 119, 101, 114], [98, 117, 114, 110, 115], [100, 97, 114, 107], [114, 101, 97, 99, 104]]
def sRefs : List (String × Nat × String × Nat) := [("TowerWarns$Ship", 7, "ship", 0), ("TowerWarns$Steamer", 7, "steamer", 1), ("TowerWarns$Boat", 7, "boat", 2), ("TowerWarns$Drifter", 7, "drifter", 3), ("TowerWarns$Mail", 7, "mail", 4), ("TowerWarns$Gig", 7, "gig", 5), ("TowerWarns$SeaText", 81, "at", 6), ("TowerWarns$SeaText", 50, "tower", 7), ("TowerWarns$SeaText", 55, "burns", 8), ("TowerWarns$SeaText", 61, "dark", 9), ("TowerWarns$SeaText", 63, "reach", 10)]
/-- what the start gives beside the words -/
def Zx (E : Ev) (A : Nat → Prop) (U : State) (H : Heap) : Prop :=
  va_Nw (.methodLinkNest "TowerWarns$Sea" 102 ⟨"TowerWarns", "asNumber", "(Z)I"⟩ "TowerWarns") U ∧ va_Nw (.methodLinkNest "TowerWarns$Vessel" 35 ⟨"TowerWarns", "asNumber", "(Z)I"⟩ "TowerWarns") U ∧ vk_S 11 sLen sByt (eK E) (eV E) A U H ∧ (va_Z "java/lang/String" "COMPACT_STRINGS" "Z" (.int 1) A U H ∧ va_Zq "jdk/internal/util/Preconditions" "SIOOBE_FORMATTER" "Ljava/util/function/BiFunction;" A U H) ∧ ∀ q ∈ sRefs, vk_R q.1 q.2.1 q.2.2.1 (eK E q.2.2.2) U
theorem Zx.warm {E : Ev} {A : Nat → Prop} {s U : State} {H : Heap} (hW : s.WarmedH U.vm) (h : Zx E A s H) : Zx E A U H := ⟨va_Nw.warmM hW h.1, va_Nw.warmM hW h.2.1, h.2.2.1.moved hW.alike, ⟨h.2.2.2.1.1.moved hW.alike, h.2.2.2.1.2.moved hW.alike⟩, fun q hq => (h.2.2.2.2 q hq).warm hW⟩
theorem Zx.same {E : Ev} {A : Nat → Prop} {s U : State} {H : Heap} (hv : U.vm = s.vm) (h : Zx E A s H) : Zx E A U H := ⟨va_Nw.same rfl hv.symm h.1, va_Nw.same rfl hv.symm h.2.1, h.2.2.1.moved (by rw [hv]; exact Vm.Alike.refl _), ⟨h.2.2.2.1.1.moved (by rw [hv]; exact Vm.Alike.refl _), h.2.2.2.1.2.moved (by rw [hv]; exact Vm.Alike.refl _)⟩, fun q hq => (h.2.2.2.2 q hq).same hv⟩
theorem Zx.kept {E : Ev} {A : Nat → Prop} {s : State} {H H1 : Heap} (h : Zx E A s H) (hq : ∀ a : Nat, a < H.size → ¬ A a → H1[a]? = H[a]?) : Zx E A s H1 := ⟨h.1, h.2.1, h.2.2.1.kept hq, ⟨h.2.2.2.1.1.kept hq, h.2.2.2.1.2.kept hq⟩, h.2.2.2.2⟩
theorem Zx.narrow {E : Ev} {A B : Nat → Prop} {s : State} {H : Heap} (h : Zx E A s H) (hAB : ∀ q, B q → A q) : Zx E B s H := ⟨h.1, h.2.1, h.2.2.1.narrow hAB, ⟨h.2.2.2.1.1.narrow hAB, h.2.2.2.1.2.narrow hAB⟩, h.2.2.2.2⟩
/-- one bundle: p l e R s m args below meth c nL E A Q -/
abbrev Cx : Type := Program × Launch × Env × Room × State × MethodId × Array Value × List Frame × Method × Code × Nat × Ev × (Nat → Prop) × (State → Prop)
abbrev xp (X : Cx) : Program := X.1
abbrev xl (X : Cx) : Launch := X.2.1
abbrev xe (X : Cx) : Env := X.2.2.1
abbrev xR (X : Cx) : Room := X.2.2.2.1
abbrev xs (X : Cx) : State := X.2.2.2.2.1
abbrev xm (X : Cx) : MethodId := X.2.2.2.2.2.1
abbrev xa (X : Cx) : Array Value := X.2.2.2.2.2.2.1
abbrev xb (X : Cx) : List Frame := X.2.2.2.2.2.2.2.1
abbrev xM (X : Cx) : Method := X.2.2.2.2.2.2.2.2.1
abbrev xc (X : Cx) : Code := X.2.2.2.2.2.2.2.2.2.1
abbrev xn (X : Cx) : Nat := X.2.2.2.2.2.2.2.2.2.2.1
abbrev xE (X : Cx) : Ev := X.2.2.2.2.2.2.2.2.2.2.2.1
abbrev xA (X : Cx) : Nat → Prop := X.2.2.2.2.2.2.2.2.2.2.2.2.1
abbrev xQ (X : Cx) : State → Prop := X.2.2.2.2.2.2.2.2.2.2.2.2.2
/-- the machine at pc, with these locals and this stack, over any heap that holds the world ws -/
def G (X : Cx) (ws : va_W) (pc : Nat) (lv : List (Nat × Value)) (st : List Value) : Prop :=
  ∀ (H : Heap) (locs : List Loc) (ls : Array Slot), va_P (eD (xE X)) vwCl ws H → va_D (xA X) ws → va_S (xA X) (xs X).heap H locs → lv_has ls (xn X) lv → W (xp X) (xl X) (xe X) (xR X) (xs X) (xm X) (xa X) (xb X) (xM X) (xc X) H locs 0 0 (xQ X) (F0 (xm X) pc ls st)
def Rm (f n : Nat) : Room := { frames := f, cells := 0, slots := 0, locals := n }
def Fx (X : Cx) (cc : ByteArray) (own : String) (f n : Nat) : Prop :=
  (xp X).tables.exec = Jvm.exec ∧ (xc X).code = cc ∧ (xc X).maxLocals = xn X ∧ (xs X).vm.findClass own = some (xm X).cls ∧ (∀ w ∈ gw, w.before (xa X) (xs X) = true) ∧ va_K (eD (xE X)) vwCl (tysE (xE X)) (xs X) ∧ (∀ q, (xs X).heap.size ≤ q → xA X q) ∧ (xM X).locks = false ∧ Zx (xE X) (xA X) (xs X) (xs X).heap ∧ xR X = Rm f n
/-- a method's start and end over a world given by a memory -/
def Pr (E : Ev) (ws : va_W) (sz : Nat) : State → Prop := fun U => U.heap.size = sz ∧ va_P (eD E) vwCl ws U.heap ∧ va_K (eD E) vwCl (tysE E) U ∧ va_D (fun _ => True) ws ∧ Zx E (va_A ws sz) U U.heap
def Po (E : Ev) (Wf : Mem → va_W) (A : Nat → Prop) : Mem → State → Prop := fun u t => va_P (eD E) vwCl (Wf u) t.heap ∧ va_D A (Wf u)
/-- contracts: 'from memory M the call with these arguments answers r, and the memory is M2' -/
def CtI (l : Launch) (E : Ev) (Wf : Mem → va_W) (y : MethodName) (bytes : ByteArray) (maxL : Nat) (ret : FieldType) (f n : Nat) (av : List Value) (M : Mem) (r : Int32) (M2 : Mem) : Prop :=
  ∀ sz : Nat, Met l y (.code y bytes maxL (some ret) :: gw) (Rm f n) (va_Pc av (Pr E (Wf M) sz)) (va_Qi (fun (r' : Int32) (u : Mem) => r' = r ∧ u = M2) (Po E Wf (va_A (Wf M) sz)) (va_A (Wf M) sz)) 0 0 (va_A (Wf M) sz)
def CtL (l : Launch) (E : Ev) (Wf : Mem → va_W) (y : MethodName) (bytes : ByteArray) (maxL : Nat) (f n : Nat) (av : List Value) (M : Mem) (r : Int64) (M2 : Mem) : Prop :=
  ∀ sz : Nat, Met l y (.code y bytes maxL (some .long) :: gw) (Rm f n) (va_Pc av (Pr E (Wf M) sz)) (va_Ql (fun (r' : Int64) (u : Mem) => r' = r ∧ u = M2) (Po E Wf (va_A (Wf M) sz)) (va_A (Wf M) sz)) 0 0 (va_A (Wf M) sz)
def CtV (l : Launch) (E : Ev) (Wf : Mem → va_W) (y : MethodName) (bytes : ByteArray) (maxL : Nat) (f n : Nat) (av : List Value) (M M2 : Mem) : Prop :=
  ∀ sz : Nat, Met l y (.code y bytes maxL none :: gw) (Rm f n) (va_Pc av (Pr E (Wf M) sz)) (va_Qv (fun (u : Mem) => u = M2) (Po E Wf (va_A (Wf M) sz)) (va_A (Wf M) sz)) 0 0 (va_A (Wf M) sz)
theorem g_iconst {X : Cx} {cc : ByteArray} {own : String} {f n : Nat} {ws : va_W} {pc : Nat} {lv : List (Nat × Value)} {st : List Value} {z : Int} {v : Int32} (F : Fx X cc own f n) (d : decode cc pc = .ok (.iconst z, 1)) (hv : Int32.ofInt z = v) (k : G X ws (pc + 1) lv (.int v :: st)) : G X ws pc lv (st) :=
  fun H locs ls hP hD hS hl => lv_iconst F.1 F.2.1 d hv (k H locs ls hP hD hS hl)
theorem g_bipush {X : Cx} {cc : ByteArray} {own : String} {f n : Nat} {ws : va_W} {pc : Nat} {lv : List (Nat × Value)} {st : List Value} {z : Int} {v : Int32} (F : Fx X cc own f n) (d : decode cc pc = .ok (.bipush z, 2)) (hv : (Int8.ofInt z).toInt32 = v) (k : G X ws (pc + 2) lv (.int v :: st)) : G X ws pc lv (st) :=
  fun H locs ls hP hD hS hl => lv_bipush F.1 F.2.1 d hv (k H locs ls hP hD hS hl)
theorem g_sipush {X : Cx} {cc : ByteArray} {own : String} {f n : Nat} {ws : va_W} {pc : Nat} {lv : List (Nat × Value)} {st : List Value} {z : Int} {v : Int32} (F : Fx X cc own f n) (d : decode cc pc = .ok (.sipush z, 3)) (hv : (Int16.ofInt z).toInt32 = v) (k : G X ws (pc + 3) lv (.int v :: st)) : G X ws pc lv (st) :=
  fun H locs ls hP hD hS hl => lv_sipush F.1 F.2.1 d hv (k H locs ls hP hD hS hl)
theorem g_lconst {X : Cx} {cc : ByteArray} {own : String} {f n : Nat} {ws : va_W} {pc : Nat} {lv : List (Nat × Value)} {st : List Value} {z : Fin 2} {v : Int64} (F : Fx X cc own f n) (d : decode cc pc = .ok (.lconst z, 1)) (hv : Int64.ofNat (z : Nat) = v) (k : G X ws (pc + 1) lv (.long v :: st)) : G X ws pc lv (st) :=
  fun H locs ls hP hD hS hl => lv_lconst F.1 F.2.1 d hv (k H locs ls hP hD hS hl)
theorem g_iload_n {X : Cx} {cc : ByteArray} {own : String} {f n : Nat} {ws : va_W} {pc : Nat} {lv : List (Nat × Value)} {st : List Value} {z : Fin 4} {i : Nat} {x : Int32} (F : Fx X cc own f n) (d : decode cc pc = .ok (.iload_n z, 1)) (hi : (z : Nat) = i) (q : Nat) (hq : lv[q]? = some (i, .int x)) (k : G X ws (pc + 1) lv (.int x :: st)) : G X ws pc lv (st) :=
  fun H locs ls hP hD hS hl => lv_iload_n F.1 F.2.1 d hi (lv_at hl q hq) (k H locs ls hP hD hS hl)
theorem g_iload {X : Cx} {cc : ByteArray} {own : String} {f n : Nat} {ws : va_W} {pc : Nat} {lv : List (Nat × Value)} {st : List Value} {i : Nat} {x : Int32} (F : Fx X cc own f n) (d : decode cc pc = .ok (.iload i, 2)) (q : Nat) (hq : lv[q]? = some (i, .int x)) (k : G X ws (pc + 2) lv (.int x :: st)) : G X ws pc lv (st) :=
  fun H locs ls hP hD hS hl => lv_iload F.1 F.2.1 d (lv_at hl q hq) (k H locs ls hP hD hS hl)
theorem g_lload_n {X : Cx} {cc : ByteArray} {own : String} {f n : Nat} {ws : va_W} {pc : Nat} {lv : List (Nat × Value)} {st : List Value} {z : Fin 4} {i : Nat} {x : Int64} (F : Fx X cc own f n) (d : decode cc pc = .ok (.lload_n z, 1)) (hi : (z : Nat) = i) (q : Nat) (hq : lv[q]? = some (i, .long x)) (k : G X ws (pc + 1) lv (.long x :: st)) : G X ws pc lv (st) :=
  fun H locs ls hP hD hS hl => lv_lload_n F.1 F.2.1 d hi (lv_at hl q hq) (k H locs ls hP hD hS hl)
theorem g_lload {X : Cx} {cc : ByteArray} {own : String} {f n : Nat} {ws : va_W} {pc : Nat} {lv : List (Nat × Value)} {st : List Value} {i : Nat} {x : Int64} (F : Fx X cc own f n) (d : decode cc pc = .ok (.lload i, 2)) (q : Nat) (hq : lv[q]? = some (i, .long x)) (k : G X ws (pc + 2) lv (.long x :: st)) : G X ws pc lv (st) :=
  fun H locs ls hP hD hS hl => lv_lload F.1 F.2.1 d (lv_at hl q hq) (k H locs ls hP hD hS hl)
theorem g_aload_n {X : Cx} {cc : ByteArray} {own : String} {f n : Nat} {ws : va_W} {pc : Nat} {lv : List (Nat × Value)} {st : List Value} {z : Fin 4} {i : Nat} {x : Nat} (F : Fx X cc own f n) (d : decode cc pc = .ok (.aload_n z, 1)) (hi : (z : Nat) = i) (q : Nat) (hq : lv[q]? = some (i, .ref x)) (k : G X ws (pc + 1) lv (.ref x :: st)) : G X ws pc lv (st) :=
  fun H locs ls hP hD hS hl => lv_aload_n F.1 F.2.1 d hi (lv_at hl q hq) (k H locs ls hP hD hS hl)
theorem g_aload {X : Cx} {cc : ByteArray} {own : String} {f n : Nat} {ws : va_W} {pc : Nat} {lv : List (Nat × Value)} {st : List Value} {i : Nat} {x : Nat} (F : Fx X cc own f n) (d : decode cc pc = .ok (.aload i, 2)) (q : Nat) (hq : lv[q]? = some (i, .ref x)) (k : G X ws (pc + 2) lv (.ref x :: st)) : G X ws pc lv (st) :=
  fun H locs ls hP hD hS hl => lv_aload F.1 F.2.1 d (lv_at hl q hq) (k H locs ls hP hD hS hl)
theorem g_istore_n {X : Cx} {cc : ByteArray} {own : String} {f n : Nat} {ws : va_W} {pc : Nat} {lv : List (Nat × Value)} {st : List Value} {lv2 : List (Nat × Value)} {z : Fin 4} {i : Nat} {x : Int32} (F : Fx X cc own f n) (d : decode cc pc = .ok (.istore_n z, 1)) (hi : (z : Nat) = i) (hn : i < xn X) (ks : List Nat) (hk : lv_pick ((i, .int x) :: lv.filter (fun q => !(q.1 == i) && !(q.1 + 1 == i && q.2.category == 2))) ks = lv2) (k : G X ws (pc + 1) lv2 st) : G X ws pc lv (.int x :: st) :=
  fun H locs ls hP hD hS hl => lv_istore_n F.1 F.2.1 d hi hl hn rfl (fun ls2 hl2 => k H locs ls2 hP hD hS (lv_sub hl2 ks hk))
theorem g_istore {X : Cx} {cc : ByteArray} {own : String} {f n : Nat} {ws : va_W} {pc : Nat} {lv : List (Nat × Value)} {st : List Value} {lv2 : List (Nat × Value)} {i : Nat} {x : Int32} (F : Fx X cc own f n) (d : decode cc pc = .ok (.istore i, 2)) (hn : i < xn X) (ks : List Nat) (hk : lv_pick ((i, .int x) :: lv.filter (fun q => !(q.1 == i) && !(q.1 + 1 == i && q.2.category == 2))) ks = lv2) (k : G X ws (pc + 2) lv2 st) : G X ws pc lv (.int x :: st) :=
  fun H locs ls hP hD hS hl => lv_istore F.1 F.2.1 d hl hn rfl (fun ls2 hl2 => k H locs ls2 hP hD hS (lv_sub hl2 ks hk))
theorem g_lstore_n {X : Cx} {cc : ByteArray} {own : String} {f n : Nat} {ws : va_W} {pc : Nat} {lv : List (Nat × Value)} {st : List Value} {lv2 : List (Nat × Value)} {z : Fin 4} {i : Nat} {x : Int64} (F : Fx X cc own f n) (d : decode cc pc = .ok (.lstore_n z, 1)) (hi : (z : Nat) = i) (hn : i + 1 < xn X) (ks : List Nat) (hk : lv_pick ((i, .long x) :: lv.filter (fun q => !(q.1 == i) && (!(q.1 == i + 1) && !(q.1 + 1 == i && q.2.category == 2)))) ks = lv2) (k : G X ws (pc + 1) lv2 st) : G X ws pc lv (.long x :: st) :=
  fun H locs ls hP hD hS hl => lv_lstore_n F.1 F.2.1 d hi hl hn rfl (fun ls2 hl2 => k H locs ls2 hP hD hS (lv_sub hl2 ks hk))
theorem g_lstore {X : Cx} {cc : ByteArray} {own : String} {f n : Nat} {ws : va_W} {pc : Nat} {lv : List (Nat × Value)} {st : List Value} {lv2 : List (Nat × Value)} {i : Nat} {x : Int64} (F : Fx X cc own f n) (d : decode cc pc = .ok (.lstore i, 2)) (hn : i + 1 < xn X) (ks : List Nat) (hk : lv_pick ((i, .long x) :: lv.filter (fun q => !(q.1 == i) && (!(q.1 == i + 1) && !(q.1 + 1 == i && q.2.category == 2)))) ks = lv2) (k : G X ws (pc + 2) lv2 st) : G X ws pc lv (.long x :: st) :=
  fun H locs ls hP hD hS hl => lv_lstore F.1 F.2.1 d hl hn rfl (fun ls2 hl2 => k H locs ls2 hP hD hS (lv_sub hl2 ks hk))
theorem g_astore_n {X : Cx} {cc : ByteArray} {own : String} {f n : Nat} {ws : va_W} {pc : Nat} {lv : List (Nat × Value)} {st : List Value} {lv2 : List (Nat × Value)} {z : Fin 4} {i : Nat} {x : Nat} (F : Fx X cc own f n) (d : decode cc pc = .ok (.astore_n z, 1)) (hi : (z : Nat) = i) (hn : i < xn X) (ks : List Nat) (hk : lv_pick ((i, .ref x) :: lv.filter (fun q => !(q.1 == i) && !(q.1 + 1 == i && q.2.category == 2))) ks = lv2) (k : G X ws (pc + 1) lv2 st) : G X ws pc lv (.ref x :: st) :=
  fun H locs ls hP hD hS hl => lv_astore_n F.1 F.2.1 d hi hl hn rfl (fun ls2 hl2 => k H locs ls2 hP hD hS (lv_sub hl2 ks hk))
theorem g_astore {X : Cx} {cc : ByteArray} {own : String} {f n : Nat} {ws : va_W} {pc : Nat} {lv : List (Nat × Value)} {st : List Value} {lv2 : List (Nat × Value)} {i : Nat} {x : Nat} (F : Fx X cc own f n) (d : decode cc pc = .ok (.astore i, 2)) (hn : i < xn X) (ks : List Nat) (hk : lv_pick ((i, .ref x) :: lv.filter (fun q => !(q.1 == i) && !(q.1 + 1 == i && q.2.category == 2))) ks = lv2) (k : G X ws (pc + 2) lv2 st) : G X ws pc lv (.ref x :: st) :=
  fun H locs ls hP hD hS hl => lv_astore F.1 F.2.1 d hl hn rfl (fun ls2 hl2 => k H locs ls2 hP hD hS (lv_sub hl2 ks hk))
theorem g_iinc {X : Cx} {cc : ByteArray} {own : String} {f n : Nat} {ws : va_W} {pc : Nat} {lv : List (Nat × Value)} {st : List Value} {lv2 : List (Nat × Value)} {i : Nat} {z : Int} {x v : Int32} (F : Fx X cc own f n) (d : decode cc pc = .ok (.iinc i z, 3)) (q : Nat) (hq : lv[q]? = some (i, .int x)) (hv : x + Int32.ofInt z = v) (hn : i < xn X) (ks : List Nat) (hk : lv_pick ((i, .int v) :: lv.filter (fun q => !(q.1 == i) && !(q.1 + 1 == i && q.2.category == 2))) ks = lv2) (k : G X ws (pc + 3) lv2 st) : G X ws pc lv st :=
  fun H locs ls hP hD hS hl => lv_iinc F.1 F.2.1 d hl hq hv hn rfl (fun ls2 hl2 => k H locs ls2 hP hD hS (lv_sub hl2 ks hk))
theorem g_iadd {X : Cx} {cc : ByteArray} {own : String} {f n : Nat} {ws : va_W} {pc : Nat} {lv : List (Nat × Value)} {st : List Value} {x y : Int32} (F : Fx X cc own f n) (d : decode cc pc = .ok (.iadd, 1)) (k : G X ws (pc + 1) lv (.int (x + y) :: st)) : G X ws pc lv (.int y :: .int x :: st) :=
  fun H locs ls hP hD hS hl => lv_iadd F.1 F.2.1 d (k H locs ls hP hD hS hl)
theorem g_isub {X : Cx} {cc : ByteArray} {own : String} {f n : Nat} {ws : va_W} {pc : Nat} {lv : List (Nat × Value)} {st : List Value} {x y : Int32} (F : Fx X cc own f n) (d : decode cc pc = .ok (.isub, 1)) (k : G X ws (pc + 1) lv (.int (x - y) :: st)) : G X ws pc lv (.int y :: .int x :: st) :=
  fun H locs ls hP hD hS hl => lv_isub F.1 F.2.1 d (k H locs ls hP hD hS hl)
theorem g_imul {X : Cx} {cc : ByteArray} {own : String} {f n : Nat} {ws : va_W} {pc : Nat} {lv : List (Nat × Value)} {st : List Value} {x y : Int32} (F : Fx X cc own f n) (d : decode cc pc = .ok (.imul, 1)) (k : G X ws (pc + 1) lv (.int (x * y) :: st)) : G X ws pc lv (.int y :: .int x :: st) :=
  fun H locs ls hP hD hS hl => lv_imul F.1 F.2.1 d (k H locs ls hP hD hS hl)
theorem g_iand {X : Cx} {cc : ByteArray} {own : String} {f n : Nat} {ws : va_W} {pc : Nat} {lv : List (Nat × Value)} {st : List Value} {x y : Int32} (F : Fx X cc own f n) (d : decode cc pc = .ok (.iand, 1)) (k : G X ws (pc + 1) lv (.int (x &&& y) :: st)) : G X ws pc lv (.int y :: .int x :: st) :=
  fun H locs ls hP hD hS hl => lv_iand F.1 F.2.1 d (k H locs ls hP hD hS hl)
theorem g_ior {X : Cx} {cc : ByteArray} {own : String} {f n : Nat} {ws : va_W} {pc : Nat} {lv : List (Nat × Value)} {st : List Value} {x y : Int32} (F : Fx X cc own f n) (d : decode cc pc = .ok (.ior, 1)) (k : G X ws (pc + 1) lv (.int (x ||| y) :: st)) : G X ws pc lv (.int y :: .int x :: st) :=
  fun H locs ls hP hD hS hl => lv_ior F.1 F.2.1 d (k H locs ls hP hD hS hl)
theorem g_ixor {X : Cx} {cc : ByteArray} {own : String} {f n : Nat} {ws : va_W} {pc : Nat} {lv : List (Nat × Value)} {st : List Value} {x y : Int32} (F : Fx X cc own f n) (d : decode cc pc = .ok (.ixor, 1)) (k : G X ws (pc + 1) lv (.int (x ^^^ y) :: st)) : G X ws pc lv (.int y :: .int x :: st) :=
  fun H locs ls hP hD hS hl => lv_ixor F.1 F.2.1 d (k H locs ls hP hD hS hl)
theorem g_ishl {X : Cx} {cc : ByteArray} {own : String} {f n : Nat} {ws : va_W} {pc : Nat} {lv : List (Nat × Value)} {st : List Value} {x y : Int32} (F : Fx X cc own f n) (d : decode cc pc = .ok (.ishl, 1)) (k : G X ws (pc + 1) lv (.int (x <<< (y &&& 31)) :: st)) : G X ws pc lv (.int y :: .int x :: st) :=
  fun H locs ls hP hD hS hl => lv_ishl F.1 F.2.1 d (k H locs ls hP hD hS hl)
theorem g_ishr {X : Cx} {cc : ByteArray} {own : String} {f n : Nat} {ws : va_W} {pc : Nat} {lv : List (Nat × Value)} {st : List Value} {x y : Int32} (F : Fx X cc own f n) (d : decode cc pc = .ok (.ishr, 1)) (k : G X ws (pc + 1) lv (.int (x >>> (y &&& 31)) :: st)) : G X ws pc lv (.int y :: .int x :: st) :=
  fun H locs ls hP hD hS hl => lv_ishr F.1 F.2.1 d (k H locs ls hP hD hS hl)
theorem g_idiv {X : Cx} {cc : ByteArray} {own : String} {f n : Nat} {ws : va_W} {pc : Nat} {lv : List (Nat × Value)} {st : List Value} {x y : Int32} (F : Fx X cc own f n) (d : decode cc pc = .ok (.idiv, 1)) (hy : ¬ y = 0) (k : G X ws (pc + 1) lv (.int (x / y) :: st)) : G X ws pc lv (.int y :: .int x :: st) :=
  fun H locs ls hP hD hS hl => lv_idiv F.1 F.2.1 d hy (k H locs ls hP hD hS hl)
theorem g_irem {X : Cx} {cc : ByteArray} {own : String} {f n : Nat} {ws : va_W} {pc : Nat} {lv : List (Nat × Value)} {st : List Value} {x y : Int32} (F : Fx X cc own f n) (d : decode cc pc = .ok (.irem, 1)) (hy : ¬ y = 0) (k : G X ws (pc + 1) lv (.int (x - x / y * y) :: st)) : G X ws pc lv (.int y :: .int x :: st) :=
  fun H locs ls hP hD hS hl => lv_irem F.1 F.2.1 d hy (k H locs ls hP hD hS hl)
theorem g_ladd {X : Cx} {cc : ByteArray} {own : String} {f n : Nat} {ws : va_W} {pc : Nat} {lv : List (Nat × Value)} {st : List Value} {x y : Int64} (F : Fx X cc own f n) (d : decode cc pc = .ok (.ladd, 1)) (k : G X ws (pc + 1) lv (.long (x + y) :: st)) : G X ws pc lv (.long y :: .long x :: st) :=
  fun H locs ls hP hD hS hl => lv_ladd F.1 F.2.1 d (k H locs ls hP hD hS hl)
theorem g_lsub {X : Cx} {cc : ByteArray} {own : String} {f n : Nat} {ws : va_W} {pc : Nat} {lv : List (Nat × Value)} {st : List Value} {x y : Int64} (F : Fx X cc own f n) (d : decode cc pc = .ok (.lsub, 1)) (k : G X ws (pc + 1) lv (.long (x - y) :: st)) : G X ws pc lv (.long y :: .long x :: st) :=
  fun H locs ls hP hD hS hl => lv_lsub F.1 F.2.1 d (k H locs ls hP hD hS hl)
theorem g_lmul {X : Cx} {cc : ByteArray} {own : String} {f n : Nat} {ws : va_W} {pc : Nat} {lv : List (Nat × Value)} {st : List Value} {x y : Int64} (F : Fx X cc own f n) (d : decode cc pc = .ok (.lmul, 1)) (k : G X ws (pc + 1) lv (.long (x * y) :: st)) : G X ws pc lv (.long y :: .long x :: st) :=
  fun H locs ls hP hD hS hl => lv_lmul F.1 F.2.1 d (k H locs ls hP hD hS hl)
theorem g_land {X : Cx} {cc : ByteArray} {own : String} {f n : Nat} {ws : va_W} {pc : Nat} {lv : List (Nat × Value)} {st : List Value} {x y : Int64} (F : Fx X cc own f n) (d : decode cc pc = .ok (.land, 1)) (k : G X ws (pc + 1) lv (.long (x &&& y) :: st)) : G X ws pc lv (.long y :: .long x :: st) :=
  fun H locs ls hP hD hS hl => lv_land F.1 F.2.1 d (k H locs ls hP hD hS hl)
theorem g_lor {X : Cx} {cc : ByteArray} {own : String} {f n : Nat} {ws : va_W} {pc : Nat} {lv : List (Nat × Value)} {st : List Value} {x y : Int64} (F : Fx X cc own f n) (d : decode cc pc = .ok (.lor, 1)) (k : G X ws (pc + 1) lv (.long (x ||| y) :: st)) : G X ws pc lv (.long y :: .long x :: st) :=
  fun H locs ls hP hD hS hl => lv_lor F.1 F.2.1 d (k H locs ls hP hD hS hl)
theorem g_lshl {X : Cx} {cc : ByteArray} {own : String} {f n : Nat} {ws : va_W} {pc : Nat} {lv : List (Nat × Value)} {st : List Value} {x : Int64} {y : Int32} (F : Fx X cc own f n) (d : decode cc pc = .ok (.lshl, 1)) (k : G X ws (pc + 1) lv (.long (x <<< (y.toInt64 &&& 63)) :: st)) : G X ws pc lv (.int y :: .long x :: st) :=
  fun H locs ls hP hD hS hl => lv_lshl F.1 F.2.1 d rfl (k H locs ls hP hD hS hl)
theorem g_lshr {X : Cx} {cc : ByteArray} {own : String} {f n : Nat} {ws : va_W} {pc : Nat} {lv : List (Nat × Value)} {st : List Value} {x : Int64} {y : Int32} (F : Fx X cc own f n) (d : decode cc pc = .ok (.lshr, 1)) (k : G X ws (pc + 1) lv (.long (x >>> (y.toInt64 &&& 63)) :: st)) : G X ws pc lv (.int y :: .long x :: st) :=
  fun H locs ls hP hD hS hl => lv_lshr F.1 F.2.1 d rfl (k H locs ls hP hD hS hl)
theorem g_iushr {X : Cx} {cc : ByteArray} {own : String} {f n : Nat} {ws : va_W} {pc : Nat} {lv : List (Nat × Value)} {st : List Value} {x y : Int32} (F : Fx X cc own f n) (d : decode cc pc = .ok (.iushr, 1)) (k : G X ws (pc + 1) lv (.int ((x.toUInt32 >>> (y.toUInt32 &&& Int32.toUInt32 31)).toInt32) :: st)) : G X ws pc lv (.int y :: .int x :: st) :=
  fun H locs ls hP hD hS hl => lv_iushr F.1 F.2.1 d rfl (k H locs ls hP hD hS hl)
theorem g_i2l {X : Cx} {cc : ByteArray} {own : String} {f n : Nat} {ws : va_W} {pc : Nat} {lv : List (Nat × Value)} {st : List Value} {x : Int32} (F : Fx X cc own f n) (d : decode cc pc = .ok (.i2l, 1)) (k : G X ws (pc + 1) lv (.long x.toInt64 :: st)) : G X ws pc lv (.int x :: st) :=
  fun H locs ls hP hD hS hl => lv_i2l F.1 F.2.1 d rfl (k H locs ls hP hD hS hl)
theorem g_l2i {X : Cx} {cc : ByteArray} {own : String} {f n : Nat} {ws : va_W} {pc : Nat} {lv : List (Nat × Value)} {st : List Value} {x : Int64} (F : Fx X cc own f n) (d : decode cc pc = .ok (.l2i, 1)) (k : G X ws (pc + 1) lv (.int x.toInt32 :: st)) : G X ws pc lv (.long x :: st) :=
  fun H locs ls hP hD hS hl => lv_l2i F.1 F.2.1 d rfl (k H locs ls hP hD hS hl)
theorem g_i2b {X : Cx} {cc : ByteArray} {own : String} {f n : Nat} {ws : va_W} {pc : Nat} {lv : List (Nat × Value)} {st : List Value} {x : Int32} (F : Fx X cc own f n) (d : decode cc pc = .ok (.i2b, 1)) (k : G X ws (pc + 1) lv (.int x.toInt8.toInt32 :: st)) : G X ws pc lv (.int x :: st) :=
  fun H locs ls hP hD hS hl => lv_i2b F.1 F.2.1 d rfl (k H locs ls hP hD hS hl)
theorem g_i2s {X : Cx} {cc : ByteArray} {own : String} {f n : Nat} {ws : va_W} {pc : Nat} {lv : List (Nat × Value)} {st : List Value} {x : Int32} (F : Fx X cc own f n) (d : decode cc pc = .ok (.i2s, 1)) (k : G X ws (pc + 1) lv (.int x.toInt16.toInt32 :: st)) : G X ws pc lv (.int x :: st) :=
  fun H locs ls hP hD hS hl => lv_i2s F.1 F.2.1 d rfl (k H locs ls hP hD hS hl)
theorem g_lcmp {X : Cx} {cc : ByteArray} {own : String} {f n : Nat} {ws : va_W} {pc : Nat} {lv : List (Nat × Value)} {st : List Value} {x y : Int64} (F : Fx X cc own f n) (d : decode cc pc = .ok (.lcmp, 1)) (k : G X ws (pc + 1) lv (.int (lg_cmp x y) :: st)) : G X ws pc lv (.long y :: .long x :: st) :=
  fun H locs ls hP hD hS hl => W.lcmp F.1 F.2.1 d (k H locs ls hP hD hS hl)
theorem g_dup {X : Cx} {cc : ByteArray} {own : String} {f n : Nat} {ws : va_W} {pc : Nat} {lv : List (Nat × Value)} {st : List Value} {v : Value} (F : Fx X cc own f n) (d : decode cc pc = .ok (.dup, 1)) (hv : v.category = 1) (k : G X ws (pc + 1) lv (v :: v :: st)) : G X ws pc lv (v :: st) :=
  fun H locs ls hP hD hS hl => lv_dup F.1 F.2.1 d hv (k H locs ls hP hD hS hl)
theorem g_pop {X : Cx} {cc : ByteArray} {own : String} {f n : Nat} {ws : va_W} {pc : Nat} {lv : List (Nat × Value)} {st : List Value} {v : Value} (F : Fx X cc own f n) (d : decode cc pc = .ok (.pop, 1)) (hv : v.category = 1) (k : G X ws (pc + 1) lv (st)) : G X ws pc lv (v :: st) :=
  fun H locs ls hP hD hS hl => lv_pop F.1 F.2.1 d hv (k H locs ls hP hD hS hl)
theorem g_dup2 {X : Cx} {cc : ByteArray} {own : String} {f n : Nat} {ws : va_W} {pc : Nat} {lv : List (Nat × Value)} {st : List Value} {v w : Value} (F : Fx X cc own f n) (d : decode cc pc = .ok (.dup2, 1)) (hv : v.category = 1) (hw : w.category = 1) (k : G X ws (pc + 1) lv (v :: w :: v :: w :: st)) : G X ws pc lv (v :: w :: st) :=
  fun H locs ls hP hD hS hl => lv_dup2_11 F.1 F.2.1 d hv hw (k H locs ls hP hD hS hl)
theorem g_goto {X : Cx} {cc : ByteArray} {own : String} {f n : Nat} {ws : va_W} {pc : Nat} {lv : List (Nat × Value)} {st : List Value} {off : Int} {tgt : Nat} (F : Fx X cc own f n) (d : decode cc pc = .ok (.goto off, 3)) (ht : (pc : Int) + off = (tgt : Int)) (k : G X ws tgt lv st) : G X ws pc lv st :=
  fun H locs ls hP hD hS hl => lv_goto F.1 F.2.1 d ht (k H locs ls hP hD hS hl)
theorem g_if_eq {X : Cx} {cc : ByteArray} {own : String} {f n : Nat} {ws : va_W} {pc : Nat} {lv : List (Nat × Value)} {st : List Value} {x : Int32} {off : Int} {tgt : Nat} (F : Fx X cc own f n) (d : decode cc pc = .ok (.ifCond .eq off, 3)) (ht : (pc : Int) + off = (tgt : Int)) (kt : x = 0 → G X ws tgt lv st) (kf : ¬ (x = 0) → G X ws (pc + 3) lv st) : G X ws pc lv (.int x :: st) :=
  fun H locs ls hP hD hS hl => lv_if_eq F.1 F.2.1 d ht (fun c => kt c H locs ls hP hD hS hl) (fun c => kf c H locs ls hP hD hS hl)
theorem g_icmp_eq {X : Cx} {cc : ByteArray} {own : String} {f n : Nat} {ws : va_W} {pc : Nat} {lv : List (Nat × Value)} {st : List Value} {x y : Int32} {off : Int} {tgt : Nat} (F : Fx X cc own f n) (d : decode cc pc = .ok (.if_icmp .eq off, 3)) (ht : (pc : Int) + off = (tgt : Int)) (kt : x = y → G X ws tgt lv st) (kf : ¬ (x = y) → G X ws (pc + 3) lv st) : G X ws pc lv (.int y :: .int x :: st) :=
  fun H locs ls hP hD hS hl => lv_icmp_eq F.1 F.2.1 d ht (fun c => kt c H locs ls hP hD hS hl) (fun c => kf c H locs ls hP hD hS hl)
theorem g_if_ne {X : Cx} {cc : ByteArray} {own : String} {f n : Nat} {ws : va_W} {pc : Nat} {lv : List (Nat × Value)} {st : List Value} {x : Int32} {off : Int} {tgt : Nat} (F : Fx X cc own f n) (d : decode cc pc = .ok (.ifCond .ne off, 3)) (ht : (pc : Int) + off = (tgt : Int)) (kt : ¬ x = 0 → G X ws tgt lv st) (kf : x = 0 → G X ws (pc + 3) lv st) : G X ws pc lv (.int x :: st) :=
  fun H locs ls hP hD hS hl => lv_if_ne F.1 F.2.1 d ht (fun c => kt c H locs ls hP hD hS hl) (fun c => kf c H locs ls hP hD hS hl)
theorem g_icmp_ne {X : Cx} {cc : ByteArray} {own : String} {f n : Nat} {ws : va_W} {pc : Nat} {lv : List (Nat × Value)} {st : List Value} {x y : Int32} {off : Int} {tgt : Nat} (F : Fx X cc own f n) (d : decode cc pc = .ok (.if_icmp .ne off, 3)) (ht : (pc : Int) + off = (tgt : Int)) (kt : ¬ x = y → G X ws tgt lv st) (kf : x = y → G X ws (pc + 3) lv st) : G X ws pc lv (.int y :: .int x :: st) :=
  fun H locs ls hP hD hS hl => lv_icmp_ne F.1 F.2.1 d ht (fun c => kt c H locs ls hP hD hS hl) (fun c => kf c H locs ls hP hD hS hl)
theorem g_if_lt {X : Cx} {cc : ByteArray} {own : String} {f n : Nat} {ws : va_W} {pc : Nat} {lv : List (Nat × Value)} {st : List Value} {x : Int32} {off : Int} {tgt : Nat} (F : Fx X cc own f n) (d : decode cc pc = .ok (.ifCond .lt off, 3)) (ht : (pc : Int) + off = (tgt : Int)) (kt : x < 0 → G X ws tgt lv st) (kf : ¬ (x < 0) → G X ws (pc + 3) lv st) : G X ws pc lv (.int x :: st) :=
  fun H locs ls hP hD hS hl => lv_if_lt F.1 F.2.1 d ht (fun c => kt c H locs ls hP hD hS hl) (fun c => kf c H locs ls hP hD hS hl)
theorem g_icmp_lt {X : Cx} {cc : ByteArray} {own : String} {f n : Nat} {ws : va_W} {pc : Nat} {lv : List (Nat × Value)} {st : List Value} {x y : Int32} {off : Int} {tgt : Nat} (F : Fx X cc own f n) (d : decode cc pc = .ok (.if_icmp .lt off, 3)) (ht : (pc : Int) + off = (tgt : Int)) (kt : x < y → G X ws tgt lv st) (kf : ¬ (x < y) → G X ws (pc + 3) lv st) : G X ws pc lv (.int y :: .int x :: st) :=
  fun H locs ls hP hD hS hl => lv_icmp_lt F.1 F.2.1 d ht (fun c => kt c H locs ls hP hD hS hl) (fun c => kf c H locs ls hP hD hS hl)
theorem g_if_ge {X : Cx} {cc : ByteArray} {own : String} {f n : Nat} {ws : va_W} {pc : Nat} {lv : List (Nat × Value)} {st : List Value} {x : Int32} {off : Int} {tgt : Nat} (F : Fx X cc own f n) (d : decode cc pc = .ok (.ifCond .ge off, 3)) (ht : (pc : Int) + off = (tgt : Int)) (kt : 0 ≤ x → G X ws tgt lv st) (kf : ¬ (0 ≤ x) → G X ws (pc + 3) lv st) : G X ws pc lv (.int x :: st) :=
  fun H locs ls hP hD hS hl => lv_if_ge F.1 F.2.1 d ht (fun c => kt c H locs ls hP hD hS hl) (fun c => kf c H locs ls hP hD hS hl)
theorem g_icmp_ge {X : Cx} {cc : ByteArray} {own : String} {f n : Nat} {ws : va_W} {pc : Nat} {lv : List (Nat × Value)} {st : List Value} {x y : Int32} {off : Int} {tgt : Nat} (F : Fx X cc own f n) (d : decode cc pc = .ok (.if_icmp .ge off, 3)) (ht : (pc : Int) + off = (tgt : Int)) (kt : y ≤ x → G X ws tgt lv st) (kf : ¬ (y ≤ x) → G X ws (pc + 3) lv st) : G X ws pc lv (.int y :: .int x :: st) :=
  fun H locs ls hP hD hS hl => lv_icmp_ge F.1 F.2.1 d ht (fun c => kt c H locs ls hP hD hS hl) (fun c => kf c H locs ls hP hD hS hl)
theorem g_if_gt {X : Cx} {cc : ByteArray} {own : String} {f n : Nat} {ws : va_W} {pc : Nat} {lv : List (Nat × Value)} {st : List Value} {x : Int32} {off : Int} {tgt : Nat} (F : Fx X cc own f n) (d : decode cc pc = .ok (.ifCond .gt off, 3)) (ht : (pc : Int) + off = (tgt : Int)) (kt : 0 < x → G X ws tgt lv st) (kf : ¬ (0 < x) → G X ws (pc + 3) lv st) : G X ws pc lv (.int x :: st) :=
  fun H locs ls hP hD hS hl => lv_if_gt F.1 F.2.1 d ht (fun c => kt c H locs ls hP hD hS hl) (fun c => kf c H locs ls hP hD hS hl)
theorem g_icmp_gt {X : Cx} {cc : ByteArray} {own : String} {f n : Nat} {ws : va_W} {pc : Nat} {lv : List (Nat × Value)} {st : List Value} {x y : Int32} {off : Int} {tgt : Nat} (F : Fx X cc own f n) (d : decode cc pc = .ok (.if_icmp .gt off, 3)) (ht : (pc : Int) + off = (tgt : Int)) (kt : y < x → G X ws tgt lv st) (kf : ¬ (y < x) → G X ws (pc + 3) lv st) : G X ws pc lv (.int y :: .int x :: st) :=
  fun H locs ls hP hD hS hl => lv_icmp_gt F.1 F.2.1 d ht (fun c => kt c H locs ls hP hD hS hl) (fun c => kf c H locs ls hP hD hS hl)
theorem g_if_le {X : Cx} {cc : ByteArray} {own : String} {f n : Nat} {ws : va_W} {pc : Nat} {lv : List (Nat × Value)} {st : List Value} {x : Int32} {off : Int} {tgt : Nat} (F : Fx X cc own f n) (d : decode cc pc = .ok (.ifCond .le off, 3)) (ht : (pc : Int) + off = (tgt : Int)) (kt : x ≤ 0 → G X ws tgt lv st) (kf : ¬ (x ≤ 0) → G X ws (pc + 3) lv st) : G X ws pc lv (.int x :: st) :=
  fun H locs ls hP hD hS hl => lv_if_le F.1 F.2.1 d ht (fun c => kt c H locs ls hP hD hS hl) (fun c => kf c H locs ls hP hD hS hl)
theorem g_icmp_le {X : Cx} {cc : ByteArray} {own : String} {f n : Nat} {ws : va_W} {pc : Nat} {lv : List (Nat × Value)} {st : List Value} {x y : Int32} {off : Int} {tgt : Nat} (F : Fx X cc own f n) (d : decode cc pc = .ok (.if_icmp .le off, 3)) (ht : (pc : Int) + off = (tgt : Int)) (kt : x ≤ y → G X ws tgt lv st) (kf : ¬ (x ≤ y) → G X ws (pc + 3) lv st) : G X ws pc lv (.int y :: .int x :: st) :=
  fun H locs ls hP hD hS hl => lv_icmp_le F.1 F.2.1 d ht (fun c => kt c H locs ls hP hD hS hl) (fun c => kf c H locs ls hP hD hS hl)
theorem g_tswOut {X : Cx} {cc : ByteArray} {own : String} {f n : Nat} {ws : va_W} {pc : Nat} {lv : List (Nat × Value)} {st : List Value} {dflt lo hi : Int} {offs : Array Int} {len : Nat} {x : Int32} {tgt : Nat} (F : Fx X cc own f n) (d : decode cc pc = .ok (.tableswitch dflt lo hi offs, len)) (h : x.toInt < lo ∨ hi < x.toInt) (ht : (pc : Int) + dflt = (tgt : Int)) (k : G X ws tgt lv st) : G X ws pc lv (.int x :: st) :=
  fun H locs ls hP hD hS hl => lv_tableOut F.1 F.2.1 d h ht (k H locs ls hP hD hS hl)
theorem g_tswIn {X : Cx} {cc : ByteArray} {own : String} {f n : Nat} {ws : va_W} {pc : Nat} {lv : List (Nat × Value)} {st : List Value} {dflt lo hi : Int} {offs : Array Int} {len : Nat} {x : Int32} {off : Int} {tgt : Nat} (F : Fx X cc own f n) (d : decode cc pc = .ok (.tableswitch dflt lo hi offs, len)) {v : Int} (hv : x.toInt = v) (h1 : ¬ v < lo) (h2 : ¬ hi < v) (ho : offs[(v - lo).toNat]? = some off) (ht : (pc : Int) + off = (tgt : Int)) (k : G X ws tgt lv st) : G X ws pc lv (.int x :: st) :=
  fun H locs ls hP hD hS hl => lv_tableIn F.1 F.2.1 d (by rw [hv]; exact h1) (by rw [hv]; exact h2) (by rw [hv]; exact ho) ht (k H locs ls hP hD hS hl)
theorem g_ldc {X : Cx} {cc : ByteArray} {own : String} {f n : Nat} {ws : va_W} {pc : Nat} {lv : List (Nat × Value)} {st : List Value} {idx : Nat} {v : Int32} (F : Fx X cc own f n) (hw : Cond.constant own idx v ∈ gw) (d : decode cc pc = .ok (.ldc idx, 2)) (k : G X ws (pc + 2) lv (.int v :: st)) : G X ws pc lv st :=
  fun H locs ls hP hD hS hl => lv_ldc F.1 F.2.1 F.2.2.2.1 (F.2.2.2.2.1 _ hw) d (k H locs ls hP hD hS hl)
theorem g_ldcw {X : Cx} {cc : ByteArray} {own : String} {f n : Nat} {ws : va_W} {pc : Nat} {lv : List (Nat × Value)} {st : List Value} {idx : Nat} {v : Int32} (F : Fx X cc own f n) (hw : Cond.constant own idx v ∈ gw) (d : decode cc pc = .ok (.ldc_w idx, 3)) (k : G X ws (pc + 3) lv (.int v :: st)) : G X ws pc lv st :=
  fun H locs ls hP hD hS hl => lv_ldcw F.1 F.2.1 F.2.2.2.1 (F.2.2.2.2.1 _ hw) d (k H locs ls hP hD hS hl)
theorem g_ldc2 {X : Cx} {cc : ByteArray} {own : String} {f n : Nat} {ws : va_W} {pc : Nat} {lv : List (Nat × Value)} {st : List Value} {idx : Nat} {v : Int64} (F : Fx X cc own f n) (hw : Cond.constantLong own idx v ∈ gw) (d : decode cc pc = .ok (.ldc2_w idx, 3)) (k : G X ws (pc + 3) lv (.long v :: st)) : G X ws pc lv st :=
  fun H locs ls hP hD hS hl => lv_ldc2 F.1 F.2.1 F.2.2.2.1 (F.2.2.2.2.1 _ hw) d (k H locs ls hP hD hS hl)
def FLd (own : String) (idx ci : Nat) (C : String) (T : u_T) (N k : Nat) : Prop := vwCl[ci]? = some (C, T, N) ∧ (∀ w ∈ u_ws C T N, w ∈ gw) ∧ k < N ∧ Cond.fieldLink own idx (T k).1 (T k).2.1 (T k).2.2.1 ∈ gw
def PFd (own : String) (idx ci : Nat) (C : String) (T : u_T) (N k : Nat) (ty : FieldType) : Prop := FLd own idx ci C T N k ∧ (T k).2.2.2 = false ∧ parseFieldDescriptor (T k).2.2.1 = some ty ∧ (∃ ty0 : Nat → FieldType, ∀ k, k < N → parseFieldDescriptor (T k).2.2.1 = some (ty0 k)) ∧ ∀ a, a < N → ∀ b, b < N → a ≠ b → (T a).2.1 ≠ (T b).2.1
theorem g_get {X : Cx} {cc : ByteArray} {own : String} {f n : Nat} {ws : va_W} {pc : Nat} {lv : List (Nat × Value)} {st : List Value} {idx ci : Nat} {C : String} {T : u_T} {N k : Nat} {a : Nat} {fs : List Value} {v : Value} (F : Fx X cc own f n) (hf : FLd own idx ci C T N k) (q0 : Nat) (he : ws[q0]? = some (a, .inr (ci, fs))) (hv : fs[k]? = some v) (d : decode cc pc = .ok (.getfield idx, 3)) (kk : G X ws (pc + 3) lv (v :: st)) : G X ws pc lv (.ref a :: st) :=
  fun H locs ls hP hD hS hl => va_get F.1 F.2.1 F.2.2.2.2.1 hf.2.1 F.2.2.2.1 F.2.2.2.2.2.1 hP q0 he hf.1 k hf.2.2.1 (F.2.2.2.2.1 _ hf.2.2.2) (fun _ h => h) hv d (kk H locs ls hP hD hS hl)
theorem g_put {X : Cx} {cc : ByteArray} {own : String} {f n : Nat} {ws : va_W} {pc : Nat} {lv : List (Nat × Value)} {st : List Value} {ws2 : va_W} {idx ci : Nat} {C : String} {T : u_T} {N k : Nat} {ty : FieldType} {a : Nat} {fs : List Value} {v : Value} (F : Fx X cc own f n) (hf : PFd own idx ci C T N k ty) (q0 : Nat) (he : ws[q0]? = some (a, .inr (ci, fs))) (hn : narrow ty v = v) (hfit : fits ty v = true) (hl9 : k < fs.length) (hw : ws.set q0 (a, .inr (ci, fs.set k v)) = ws2) (d : decode cc pc = .ok (.putfield idx, 3)) (kk : G X ws2 (pc + 3) lv st) : G X ws pc lv (v :: .ref a :: st) :=
  fun H locs ls hP hD hS hl => by
    obtain ⟨⟨h1, h2, h3, h4⟩, h5, h6, ⟨ty0, h7⟩, h8⟩ := hf
    exact va_put F.1 F.2.1 F.2.2.2.2.1 h2 ty0 h7 h8 F.2.2.2.1 F.2.2.2.2.2.1 hP hD hS q0 he h1 k h3 (F.2.2.2.2.1 _ h4) (fun _ h => h) h5 h6 hn hfit hl9 d (fun H1 locs1 hP1 hD1 hS1 => kk H1 locs1 ls (by rw [← hw]; exact hP1) (by rw [← hw]; exact hD1) hS1 hl)
theorem g_iald {X : Cx} {cc : ByteArray} {own : String} {f n : Nat} {ws : va_W} {pc : Nat} {lv : List (Nat × Value)} {st : List Value} {a : Nat} {cA : ClassId} {N j : Nat} {fn : Nat → Int32} {i : Int32} (F : Fx X cc own f n) (q0 t0 : Nat) (ha : ws[q0]? = some (a, .inl (cA, N, .inl fn))) (ht : (tysE (xE X))[t0]? = some (cA, .int)) (hin : vp_in i N) (hj : i.toNatClampNeg = j) (d : decode cc pc = .ok (.iaload, 1)) (k : G X ws (pc + 1) lv (.int (fn j) :: st)) : G X ws pc lv (.int i :: .ref a :: st) :=
  fun H locs ls hP hD hS hl => va_iald F.1 F.2.1 F.2.2.2.2.2.1 hP q0 t0 ha ht hin d (by rw [hj]; exact k H locs ls hP hD hS hl)
theorem g_bald {X : Cx} {cc : ByteArray} {own : String} {f n : Nat} {ws : va_W} {pc : Nat} {lv : List (Nat × Value)} {st : List Value} {a : Nat} {cA : ClassId} {N j : Nat} {fn : Nat → Int32} {i : Int32} (F : Fx X cc own f n) (q0 t0 : Nat) (ha : ws[q0]? = some (a, .inl (cA, N, .inl fn))) (ht : (tysE (xE X))[t0]? = some (cA, .byte)) (hin : vp_in i N) (hj : i.toNatClampNeg = j) (d : decode cc pc = .ok (.baload, 1)) (k : G X ws (pc + 1) lv (.int (fn j) :: st)) : G X ws pc lv (.int i :: .ref a :: st) :=
  fun H locs ls hP hD hS hl => va_bald F.1 F.2.1 F.2.2.2.2.2.1 hP q0 t0 ha ht hin d (by rw [hj]; exact k H locs ls hP hD hS hl)
theorem g_lald {X : Cx} {cc : ByteArray} {own : String} {f n : Nat} {ws : va_W} {pc : Nat} {lv : List (Nat × Value)} {st : List Value} {a : Nat} {cA : ClassId} {N j : Nat} {fn : Nat → Int64} {i : Int32} (F : Fx X cc own f n) (q0 t0 : Nat) (ha : ws[q0]? = some (a, .inl (cA, N, .inr (.inl fn)))) (ht : (tysE (xE X))[t0]? = some (cA, .long)) (hin : vp_in i N) (hj : i.toNatClampNeg = j) (d : decode cc pc = .ok (.laload, 1)) (k : G X ws (pc + 1) lv (.long (fn j) :: st)) : G X ws pc lv (.int i :: .ref a :: st) :=
  fun H locs ls hP hD hS hl => va_lald F.1 F.2.1 F.2.2.2.2.2.1 hP q0 t0 ha ht hin d (by rw [hj]; exact k H locs ls hP hD hS hl)
theorem g_iast {X : Cx} {cc : ByteArray} {own : String} {f n : Nat} {ws : va_W} {pc : Nat} {lv : List (Nat × Value)} {st : List Value} {ws2 : va_W} {a : Nat} {cA : ClassId} {N j : Nat} {fn : Nat → Int32} {i x : Int32} (F : Fx X cc own f n) (q0 t0 : Nat) (ha : ws[q0]? = some (a, .inl (cA, N, .inl fn))) (ht : (tysE (xE X))[t0]? = some (cA, .int)) (hin : vp_in i N) (hj : i.toNatClampNeg = j) (hw : ws.set q0 (a, .inl (cA, N, .inl (upd fn j x))) = ws2) (d : decode cc pc = .ok (.iastore, 1)) (k : G X ws2 (pc + 1) lv st) : G X ws pc lv (.int x :: .int i :: .ref a :: st) :=
  fun H locs ls hP hD hS hl => va_iast F.1 F.2.1 F.2.2.2.2.2.1 hP hD hS q0 t0 ha ht hin d (fun H1 locs1 hP1 hD1 hS1 => k H1 locs1 ls (by rw [← hw, ← hj]; exact hP1) (by rw [← hw, ← hj]; exact hD1) hS1 hl)
theorem g_bast {X : Cx} {cc : ByteArray} {own : String} {f n : Nat} {ws : va_W} {pc : Nat} {lv : List (Nat × Value)} {st : List Value} {ws2 : va_W} {a : Nat} {cA : ClassId} {N j : Nat} {fn : Nat → Int32} {i x : Int32} (F : Fx X cc own f n) (q0 t0 : Nat) (ha : ws[q0]? = some (a, .inl (cA, N, .inl fn))) (ht : (tysE (xE X))[t0]? = some (cA, .byte)) (hin : vp_in i N) (hj : i.toNatClampNeg = j) (hw : ws.set q0 (a, .inl (cA, N, .inl (upd fn j (vp_nar .byte x)))) = ws2) (d : decode cc pc = .ok (.bastore, 1)) (k : G X ws2 (pc + 1) lv st) : G X ws pc lv (.int x :: .int i :: .ref a :: st) :=
  fun H locs ls hP hD hS hl => va_bast F.1 F.2.1 F.2.2.2.2.2.1 hP hD hS q0 t0 ha ht hin d (fun H1 locs1 hP1 hD1 hS1 => k H1 locs1 ls (by rw [← hw, ← hj]; exact hP1) (by rw [← hw, ← hj]; exact hD1) hS1 hl)
theorem g_last {X : Cx} {cc : ByteArray} {own : String} {f n : Nat} {ws : va_W} {pc : Nat} {lv : List (Nat × Value)} {st : List Value} {ws2 : va_W} {a : Nat} {cA : ClassId} {N j : Nat} {fn : Nat → Int64} {i : Int32} {x : Int64} (F : Fx X cc own f n) (q0 t0 : Nat) (ha : ws[q0]? = some (a, .inl (cA, N, .inr (.inl fn)))) (ht : (tysE (xE X))[t0]? = some (cA, .long)) (hin : vp_in i N) (hj : i.toNatClampNeg = j) (hw : ws.set q0 (a, .inl (cA, N, .inr (.inl (vp_updL fn j x)))) = ws2) (d : decode cc pc = .ok (.lastore, 1)) (k : G X ws2 (pc + 1) lv st) : G X ws pc lv (.long x :: .int i :: .ref a :: st) :=
  fun H locs ls hP hD hS hl => va_last F.1 F.2.1 F.2.2.2.2.2.1 hP hD hS q0 t0 ha ht hin d (fun H1 locs1 hP1 hD1 hS1 => k H1 locs1 ls (by rw [← hw, ← hj]; exact hP1) (by rw [← hw, ← hj]; exact hD1) hS1 hl)
theorem g_alen {X : Cx} {cc : ByteArray} {own : String} {f n : Nat} {ws : va_W} {pc : Nat} {lv : List (Nat × Value)} {st : List Value} {a : Nat} {cA : ClassId} {x : vp_A} {ty : FieldType} {v : Int32} (F : Fx X cc own f n) (q0 t0 : Nat) (ha : ws[q0]? = some (a, .inl (cA, x))) (ht : (tysE (xE X))[t0]? = some (cA, ty)) (hv : Int32.ofNat x.1 = v) (d : decode cc pc = .ok (.arraylength, 1)) (k : G X ws (pc + 1) lv (.int v :: st)) : G X ws pc lv (.ref a :: st) :=
  fun H locs ls hP hD hS hl => va_alen F.1 F.2.1 F.2.2.2.2.2.1 hP q0 t0 ha ht hv d (k H locs ls hP hD hS hl)
theorem g_sub {X : Cx} {ws : va_W} {pc : Nat} {lv lv2 : List (Nat × Value)} {st : List Value} (ks : List Nat) (hk : lv_pick lv ks = lv2) (k : G X ws pc lv2 st) : G X ws pc lv st :=
  fun H locs ls hP hD hS hl => k H locs ls hP hD hS (lv_sub hl ks hk)
/-! ===== ends ===== -/
def RI (X : Cx) (Wf : Ev → Mem → va_W) (ret : FieldType) (r : Int32) (M2 : Mem) : Prop := (xM X).sig.returnType = some ret ∧ xQ X = MQ (xb X) (va_Qi (fun (r' : Int32) (u : Mem) => r' = r ∧ u = M2) (Po (xE X) (Wf (xE X)) (xA X)) (xA X)) (xa X) (xs X) 0 0 (xA X)
def RJ (X : Cx) (Wf : Ev → Mem → va_W) (r : Int64) (M2 : Mem) : Prop := (xM X).sig.returnType = some .long ∧ xQ X = MQ (xb X) (va_Ql (fun (r' : Int64) (u : Mem) => r' = r ∧ u = M2) (Po (xE X) (Wf (xE X)) (xA X)) (xA X)) (xa X) (xs X) 0 0 (xA X)
def RV (X : Cx) (Wf : Ev → Mem → va_W) (M2 : Mem) : Prop := (xM X).sig.returnType = none ∧ xQ X = MQ (xb X) (va_Qv (fun (u : Mem) => u = M2) (Po (xE X) (Wf (xE X)) (xA X)) (xA X)) (xa X) (xs X) 0 0 (xA X)
theorem g_iret {X : Cx} {cc : ByteArray} {own : String} {f n pc : Nat} {lv : List (Nat × Value)} {Wf : Ev → Mem → va_W} {ret : FieldType} {r : Int32} {M2 : Mem} (F : Fx X cc own f n) (Rt : RI X Wf ret r M2) (hn : narrow ret (.int r) = .int r) (d : decode cc pc = .ok (.ireturn, 1)) : G X (Wf (xE X) M2) pc lv [.int r] := by
  intro H locs ls hP hD hS hl
  rw [Rt.2]
  exact W.zret F.1 F.2.1 Rt.1 hn (fun t ht hW => ⟨⟨r, M2, rfl, ⟨rfl, rfl⟩, by rw [ht]; exact hP, hD⟩, hS.F ht⟩) hS.2.2 d F.2.2.2.2.2.2.2.1
theorem g_lret {X : Cx} {cc : ByteArray} {own : String} {f n pc : Nat} {lv : List (Nat × Value)} {Wf : Ev → Mem → va_W} {r : Int64} {M2 : Mem} (F : Fx X cc own f n) (Rt : RJ X Wf r M2) (d : decode cc pc = .ok (.lreturn, 1)) : G X (Wf (xE X) M2) pc lv [.long r] := by
  intro H locs ls hP hD hS hl
  rw [Rt.2]
  exact W.lret F.1 F.2.1 Rt.1 (fun t ht hW => ⟨⟨r, M2, rfl, ⟨rfl, rfl⟩, by rw [ht]; exact hP, hD⟩, hS.F ht⟩) hS.2.2 d F.2.2.2.2.2.2.2.1
theorem g_vret {X : Cx} {cc : ByteArray} {own : String} {f n pc : Nat} {lv : List (Nat × Value)} {Wf : Ev → Mem → va_W} {M2 : Mem} (F : Fx X cc own f n) (Rt : RV X Wf M2) (d : decode cc pc = .ok (.return_, 1)) : G X (Wf (xE X) M2) pc lv [] := by
  intro H locs ls hP hD hS hl
  rw [Rt.2]
  exact W.vret F.1 F.2.1 Rt.1 (fun t ht hW => ⟨⟨M2, rfl, rfl, by rw [ht]; exact hP, hD⟩, hS.F ht⟩) hS.2.2 d F.2.2.2.2.2.2.2.1
/-! ===== a contract out of its walk ===== -/
theorem hts_gw {y : MethodName} {bytes : ByteArray} {maxL : Nat} {ret : Option FieldType} {args : Array Value} {s : State} (h : ∀ w ∈ (Cond.code y bytes maxL ret :: gw), w.before args s = true) : ∀ w ∈ gw, w.before args s = true := fun w hw => h w (List.mem_cons_of_mem _ hw)
set_option maxHeartbeats 4000000 in
theorem ctI_of {Wf : Ev → Mem → va_W} {y : MethodName} {bytes : ByteArray} {maxL : Nat} {ret : FieldType} {f n : Nat} {av : Ev → List Value} {lv : Ev → List (Nat × Value)} {M : Mem} {r : Int32} {M2 : Mem} (hy : plainName y.cls = true) (hlv : ∀ E, lv_args 0 (av E) = lv E) (hlen : ∀ E, (lg_sl (av E)).length ≤ maxL)
    (body : ∀ X : Cx, Fx X bytes y.cls f n → xn X = maxL → RI X Wf ret r M2 → G X (Wf (xE X) M) 0 (lv (xE X)) []) (l : Launch) (E : Ev) : CtI l E (Wf E) y bytes maxL ret f n (av E) M r M2 := by
  intro sz
  refine Met.ofW (cc := bytes) (maxL := maxL) (ret := some ret) hy rfl ?_
  intro p e s m args below meth c s₁ B hml hv
  obtain ⟨rfl, hsz, hP, hK, hD0, hZ⟩ := hv
  subst hsz
  have hD := hD0.self (sz := s.heap.size)
  have hl := lv_entry (av E) (n := maxL) (hlen E)
  rw [hlv E] at hl
  rw [lg_entry_eq]
  exact body (p, l, e, _, s, m, _, below, meth, c, maxL, E, va_A (Wf E M) s.heap.size, _) ⟨B.exec, B.bytes, hml, findClass_of_methodNamed B.named, hts_gw (atoms_spec (ws := Cond.code y bytes maxL (some ret) :: gw) B.pre), hK, fun q h => Or.inr h, B.notSynchronized, hZ, rfl⟩ rfl ⟨B.returns, rfl⟩ s.heap [] _ hP hD va_S.rf hl
set_option maxHeartbeats 4000000 in
theorem ctL_of {Wf : Ev → Mem → va_W} {y : MethodName} {bytes : ByteArray} {maxL : Nat} {f n : Nat} {av : Ev → List Value} {lv : Ev → List (Nat × Value)} {M : Mem} {r : Int64} {M2 : Mem} (hy : plainName y.cls = true) (hlv : ∀ E, lv_args 0 (av E) = lv E) (hlen : ∀ E, (lg_sl (av E)).length ≤ maxL)
    (body : ∀ X : Cx, Fx X bytes y.cls f n → xn X = maxL → RJ X Wf r M2 → G X (Wf (xE X) M) 0 (lv (xE X)) []) (l : Launch) (E : Ev) : CtL l E (Wf E) y bytes maxL f n (av E) M r M2 := by
  intro sz
  refine Met.ofW (cc := bytes) (maxL := maxL) (ret := some .long) hy rfl ?_
  intro p e s m args below meth c s₁ B hml hv
  obtain ⟨rfl, hsz, hP, hK, hD0, hZ⟩ := hv
  subst hsz
  have hD := hD0.self (sz := s.heap.size)
  have hl := lv_entry (av E) (n := maxL) (hlen E)
  rw [hlv E] at hl
  rw [lg_entry_eq]
  exact body (p, l, e, _, s, m, _, below, meth, c, maxL, E, va_A (Wf E M) s.heap.size, _) ⟨B.exec, B.bytes, hml, findClass_of_methodNamed B.named, hts_gw (atoms_spec (ws := Cond.code y bytes maxL (some .long) :: gw) B.pre), hK, fun q h => Or.inr h, B.notSynchronized, hZ, rfl⟩ rfl ⟨B.returns, rfl⟩ s.heap [] _ hP hD va_S.rf hl
set_option maxHeartbeats 4000000 in
theorem ctV_of {Wf : Ev → Mem → va_W} {y : MethodName} {bytes : ByteArray} {maxL : Nat} {f n : Nat} {av : Ev → List Value} {lv : Ev → List (Nat × Value)} {M M2 : Mem} (hy : plainName y.cls = true) (hlv : ∀ E, lv_args 0 (av E) = lv E) (hlen : ∀ E, (lg_sl (av E)).length ≤ maxL)
    (body : ∀ X : Cx, Fx X bytes y.cls f n → xn X = maxL → RV X Wf M2 → G X (Wf (xE X) M) 0 (lv (xE X)) []) (l : Launch) (E : Ev) : CtV l E (Wf E) y bytes maxL f n (av E) M M2 := by
  intro sz
  refine Met.ofW (cc := bytes) (maxL := maxL) (ret := none) hy rfl ?_
  intro p e s m args below meth c s₁ B hml hv
  obtain ⟨rfl, hsz, hP, hK, hD0, hZ⟩ := hv
  subst hsz
  have hD := hD0.self (sz := s.heap.size)
  have hl := lv_entry (av E) (n := maxL) (hlen E)
  rw [hlv E] at hl
  rw [lg_entry_eq]
  exact body (p, l, e, _, s, m, _, below, meth, c, maxL, E, va_A (Wf E M) s.heap.size, _) ⟨B.exec, B.bytes, hml, findClass_of_methodNamed B.named, hts_gw (atoms_spec (ws := Cond.code y bytes maxL none :: gw) B.pre), hK, fun q h => Or.inr h, B.notSynchronized, hZ, rfl⟩ rfl ⟨B.returns, rfl⟩ s.heap [] _ hP hD va_S.rf hl
/-! ===== calls ===== -/
theorem gi_cons {y : MethodName} {bytes : ByteArray} {maxL : Nat} {ret : Option FieldType} (h : Cond.code y bytes maxL ret ∈ gw) : GoodIn gw (.code y bytes maxL ret :: gw) := fun w hw => (List.mem_cons.mp hw).elim (fun e => by rw [e]; exact gw_good _ h) (fun h => gw_good w h)
theorem gi_app {a b : List Cond} (h : ∀ w ∈ a, w ∈ gw) (hb : GoodIn gw b) : GoodIn gw (a ++ b) := fun w hw => (List.mem_append.mp hw).elim (fun h1 => gw_good w (h w h1)) (hb w)
def KV (y : MethodName) (bytes : ByteArray) (maxL : Nat) (ret : Option FieldType) (np : Nat) : Prop := Cond.instanceMethod y ∈ gw ∧ Cond.selects y.cls y y ∈ gw ∧ Cond.initialized y.cls ∈ gw ∧ Cond.code y bytes maxL ret ∈ gw ∧ y.cls ≠ "java/lang/invoke/MethodHandle" ∧ y.cls ≠ "java/lang/invoke/VarHandle" ∧ (parseMethodDescriptor y.desc).map (fun d => d.parameters.length) = some np
def KS (y : MethodName) (bytes : ByteArray) (maxL : Nat) (ret : Option FieldType) (np : Nat) : Prop := Cond.static y ∈ gw ∧ Cond.initialized y.cls ∈ gw ∧ Cond.code y bytes maxL ret ∈ gw ∧ y.cls ≠ "java/lang/invoke/MethodHandle" ∧ y.cls ≠ "java/lang/invoke/VarHandle" ∧ (parseMethodDescriptor y.desc).map (fun d => d.parameters.length) = some np
theorem gi_V {own : String} {idx : Nat} {y : MethodName} {bytes : ByteArray} {maxL np : Nat} {ret : Option FieldType} (hk : KV y bytes maxL ret np) (hl : Cond.methodLink own idx y ∈ gw) : GoodIn gw (wsV own idx y.cls y (.code y bytes maxL ret :: gw)) := by
  refine gi_app (fun w hw => ?_) (gi_cons hk.2.2.2.1)
  simp only [List.mem_cons, List.not_mem_nil, or_false] at hw
  rcases hw with rfl | rfl | rfl | rfl
  · exact hl
  · exact hk.1
  · exact hk.2.1
  · exact hk.2.2.1
theorem hFc_of {X : Cx} {ws : va_W} {H : Heap} {locs : List Loc} (hA : ∀ q, (xs X).heap.size ≤ q → xA X q) (hD : va_D (xA X) ws) (hS : va_S (xA X) (xs X).heap H locs) : ∀ q, va_A ws H.size q → xA X q := fun q h => h.elim (fun ⟨k, e, hk⟩ => hD.2 k (q, e) hk) (fun h => hA q (Nat.le_trans hS.1 h))
theorem blind {av : List Value} {E : Ev} {ws : va_W} {sz : Nat} : FrameBlind (va_Pc av (Pr E ws sz)) := fun a U g mk q => by
  obtain ⟨h1, hsz, hP, hK, hD, hZ⟩ := q
  exact ⟨h1, hsz, hP, va_K.moved (u := U) (U := U.calling g mk a) (Vm.Alike.refl U.vm) hK, hD, Zx.same (s := U) rfl hZ⟩
theorem pre_of {X : Cx} {cc : ByteArray} {own : String} {f n : Nat} (F : Fx X cc own f n) {ws : va_W} {H : Heap} {locs : List Loc} {av : List Value} (hP : va_P (eD (xE X)) vwCl ws H) (hD : va_D (xA X) ws) (hS : va_S (xA X) (xs X).heap H locs) : ∀ U : State, U.heap = H → (xs X).WarmedH U.vm → va_Pc av (Pr (xE X) ws H.size) av.toArray U := fun U hU hW =>
  ⟨rfl, by rw [hU], by rw [hU]; exact hP, va_K.moved hW.alike F.2.2.2.2.2.1, hD.weaken (fun _ _ _ _ => trivial), by rw [hU]; exact ((F.2.2.2.2.2.2.2.2.1.kept hS.2.1).narrow (hFc_of F.2.2.2.2.2.2.1 hD hS)).warm hW⟩
section CR
variable {X : Cx} {cc : ByteArray} {own : String} {f n : Nat} {pc : Nat} {lv : List (Nat × Value)} {Wf : Ev → Mem → va_W} {y : MethodName} {bytes : ByteArray} {maxL f2 n2 np idx : Nat} {ret : FieldType} {M M2 : Mem} {st As rest : List Value} {b : Nat}
theorem rm_le (hR : xR X = Rm f n) (h : f2 + 1 ≤ f ∧ 8 + (maxL + 11) + n2 ≤ n) : (Rm f2 n2).frames + 1 ≤ (xR X).frames ∧ 8 + (maxL + 11) + (Rm f2 n2).locals ≤ (xR X).locals := by
  rw [hR]; exact h
theorem rm_cs (hR : xR X = Rm f n) : 0 + 0 ≤ (xR X).cells ∧ 0 + 0 ≤ (xR X).slots := by
  rw [hR]; exact ⟨Nat.le_refl _, Nat.le_refl _⟩
set_option maxHeartbeats 4000000 in
theorem g_vI {r : Int32} (F : Fx X cc own f n) (hC : CtI (xl X) (xE X) (Wf (xE X)) y bytes maxL ret f2 n2 (.ref b :: As) M r M2) (hk : KV y bytes maxL (some ret) np) (hl : Cond.methodLink own idx y ∈ gw) {ci : Nat} {C : vw_C} (q0 : Nat) {fs : List Value} (hc : vwCl[ci]? = some C) (he : (Wf (xE X) M)[q0]? = some (b, .inr (ci, fs))) (hcl : C.1 = y.cls)
    (hn : As.length = np) (hst : st = As.reverse ++ .ref b :: rest) (hrm : f2 + 1 ≤ f ∧ 8 + (maxL + 11) + n2 ≤ n) (hro : (rest.map fun v => v.category).sum ≤ 8) (d : decode cc pc = .ok (.invokevirtual idx, 3)) (k : G X (Wf (xE X) M2) (pc + 3) lv (.int r :: rest)) : G X (Wf (xE X) M) pc lv st := by
  intro H locs ls hP hD hS hl9
  subst hst
  have hFc := hFc_of F.2.2.2.2.2.2.1 hD hS
  have hrec := va_recv F.2.2.2.2.2.1 hP hc he
  rw [hcl] at hrec
  refine va_calli (va_runV (As := As) (rest := rest) ⟨F.1, F.2.1, F.2.2.1, F.2.2.2.1, F.2.2.2.2.1⟩ (hC H.size) (cwV np F.2.2.2.2.1 (gi_V hk hl) rfl rfl rfl ⟨rfl, hk.2.2.2.2⟩ (rm_le F.2.2.2.2.2.2.2.2.2 hrm)) ⟨blind, hrec, pre_of F hP hD hS⟩ rfl hn hl9.1 rfl (lv_room hro) d (rm_cs F.2.2.2.2.2.2.2.2.2)) hS (fun q _ h => hFc q h) hFc (fun r' u t H1 locs1 ht hvm hw hB hz1 hk1 hS1 => ?_)
  obtain ⟨rfl, rfl⟩ := hw
  exact k H1 locs1 ls (by rw [← ht]; exact hB.1) (hB.2.weaken (fun _ q _ h => hFc q.1 h)) hS1 hl9
set_option maxHeartbeats 4000000 in
theorem g_vL {r : Int64} (F : Fx X cc own f n) (hC : CtL (xl X) (xE X) (Wf (xE X)) y bytes maxL f2 n2 (.ref b :: As) M r M2) (hk : KV y bytes maxL (some .long) np) (hl : Cond.methodLink own idx y ∈ gw) {ci : Nat} {C : vw_C} (q0 : Nat) {fs : List Value} (hc : vwCl[ci]? = some C) (he : (Wf (xE X) M)[q0]? = some (b, .inr (ci, fs))) (hcl : C.1 = y.cls)
    (hn : As.length = np) (hst : st = As.reverse ++ .ref b :: rest) (hrm : f2 + 1 ≤ f ∧ 8 + (maxL + 11) + n2 ≤ n) (hro : (rest.map fun v => v.category).sum ≤ 8) (d : decode cc pc = .ok (.invokevirtual idx, 3)) (k : G X (Wf (xE X) M2) (pc + 3) lv (.long r :: rest)) : G X (Wf (xE X) M) pc lv st := by
  intro H locs ls hP hD hS hl9
  subst hst
  have hFc := hFc_of F.2.2.2.2.2.2.1 hD hS
  have hrec := va_recv F.2.2.2.2.2.1 hP hc he
  rw [hcl] at hrec
  refine va_calll (va_runV (As := As) (rest := rest) ⟨F.1, F.2.1, F.2.2.1, F.2.2.2.1, F.2.2.2.2.1⟩ (hC H.size) (cwV np F.2.2.2.2.1 (gi_V hk hl) rfl rfl rfl ⟨rfl, hk.2.2.2.2⟩ (rm_le F.2.2.2.2.2.2.2.2.2 hrm)) ⟨blind, hrec, pre_of F hP hD hS⟩ rfl hn hl9.1 rfl (lv_room hro) d (rm_cs F.2.2.2.2.2.2.2.2.2)) hS (fun q _ h => hFc q h) hFc (fun r' u t H1 locs1 ht hvm hw hB hz1 hk1 hS1 => ?_)
  obtain ⟨rfl, rfl⟩ := hw
  exact k H1 locs1 ls (by rw [← ht]; exact hB.1) (hB.2.weaken (fun _ q _ h => hFc q.1 h)) hS1 hl9
set_option maxHeartbeats 4000000 in
theorem g_vV (F : Fx X cc own f n) (hC : CtV (xl X) (xE X) (Wf (xE X)) y bytes maxL f2 n2 (.ref b :: As) M M2) (hk : KV y bytes maxL none np) (hl : Cond.methodLink own idx y ∈ gw) {ci : Nat} {C : vw_C} (q0 : Nat) {fs : List Value} (hc : vwCl[ci]? = some C) (he : (Wf (xE X) M)[q0]? = some (b, .inr (ci, fs))) (hcl : C.1 = y.cls)
    (hn : As.length = np) (hst : st = As.reverse ++ .ref b :: rest) (hrm : f2 + 1 ≤ f ∧ 8 + (maxL + 11) + n2 ≤ n) (hro : (rest.map fun v => v.category).sum ≤ 8) (d : decode cc pc = .ok (.invokevirtual idx, 3)) (k : G X (Wf (xE X) M2) (pc + 3) lv rest) : G X (Wf (xE X) M) pc lv st := by
  intro H locs ls hP hD hS hl9
  subst hst
  have hFc := hFc_of F.2.2.2.2.2.2.1 hD hS
  have hrec := va_recv F.2.2.2.2.2.1 hP hc he
  rw [hcl] at hrec
  refine va_callv (va_runV (As := As) (rest := rest) ⟨F.1, F.2.1, F.2.2.1, F.2.2.2.1, F.2.2.2.2.1⟩ (hC H.size) (cwV np F.2.2.2.2.1 (gi_V hk hl) rfl rfl rfl ⟨rfl, hk.2.2.2.2⟩ (rm_le F.2.2.2.2.2.2.2.2.2 hrm)) ⟨blind, hrec, pre_of F hP hD hS⟩ rfl hn hl9.1 rfl (lv_room hro) d (rm_cs F.2.2.2.2.2.2.2.2.2)) hS (fun q _ h => hFc q h) hFc (fun u t H1 locs1 ht hvm hw hB hz1 hk1 hS1 => ?_)
  obtain rfl := hw
  exact k H1 locs1 ls (by rw [← ht]; exact hB.1) (hB.2.weaken (fun _ q _ h => hFc q.1 h)) hS1 hl9
theorem cb_S (F : Fx X cc own f n) {rt : Option FieldType} (hk : KS y bytes maxL rt np) (hl : Cond.methodLink own idx y ∈ gw) (hrm : f2 + 1 ≤ f ∧ 8 + (maxL + 11) + n2 ≤ n) : CallB (xR X) (xs X) (xa X) own idx y bytes maxL rt (.code y bytes maxL rt :: gw) (Rm f2 n2) 0 0 np ∧ (Cond.static y).before (xa X) (xs X) = true :=
  ⟨callB_of np F.2.2.2.2.1 (gi_cons hk.2.2.1) rfl rfl rfl (F.2.2.2.2.1 _ hk.2.1) (F.2.2.2.2.1 _ hl) hk.2.2.2 (rm_le F.2.2.2.2.2.2.2.2.2 hrm), F.2.2.2.2.1 _ hk.1⟩
set_option maxHeartbeats 4000000 in
theorem g_sI {r : Int32} (F : Fx X cc own f n) (hC : CtI (xl X) (xE X) (Wf (xE X)) y bytes maxL ret f2 n2 As M r M2) (hk : KS y bytes maxL (some ret) np) (hl : Cond.methodLink own idx y ∈ gw)
    (hn : As.length = np) (hst : st = As.reverse ++ rest) (hrm : f2 + 1 ≤ f ∧ 8 + (maxL + 11) + n2 ≤ n) (hro : (rest.map fun v => v.category).sum ≤ 8) (d : decode cc pc = .ok (.invokestatic idx, 3)) (k : G X (Wf (xE X) M2) (pc + 3) lv (.int r :: rest)) : G X (Wf (xE X) M) pc lv st := by
  intro H locs ls hP hD hS hl9
  subst hst
  have hFc := hFc_of F.2.2.2.2.2.2.1 hD hS
  refine va_calli (va_runS (As := As) (rest := rest) ⟨F.1, F.2.1, F.2.2.1, F.2.2.2.1, F.2.2.2.2.1⟩ (hC H.size) (cb_S F hk hl hrm) ⟨blind, pre_of F hP hD hS⟩ rfl hn hl9.1 rfl (lv_room hro) d (rm_cs F.2.2.2.2.2.2.2.2.2)) hS (fun q _ h => hFc q h) hFc (fun r' u t H1 locs1 ht hvm hw hB hz1 hk1 hS1 => ?_)
  obtain ⟨rfl, rfl⟩ := hw
  exact k H1 locs1 ls (by rw [← ht]; exact hB.1) (hB.2.weaken (fun _ q _ h => hFc q.1 h)) hS1 hl9
set_option maxHeartbeats 4000000 in
theorem g_sL {r : Int64} (F : Fx X cc own f n) (hC : CtL (xl X) (xE X) (Wf (xE X)) y bytes maxL f2 n2 As M r M2) (hk : KS y bytes maxL (some .long) np) (hl : Cond.methodLink own idx y ∈ gw)
    (hn : As.length = np) (hst : st = As.reverse ++ rest) (hrm : f2 + 1 ≤ f ∧ 8 + (maxL + 11) + n2 ≤ n) (hro : (rest.map fun v => v.category).sum ≤ 8) (d : decode cc pc = .ok (.invokestatic idx, 3)) (k : G X (Wf (xE X) M2) (pc + 3) lv (.long r :: rest)) : G X (Wf (xE X) M) pc lv st := by
  intro H locs ls hP hD hS hl9
  subst hst
  have hFc := hFc_of F.2.2.2.2.2.2.1 hD hS
  refine va_calll (va_runS (As := As) (rest := rest) ⟨F.1, F.2.1, F.2.2.1, F.2.2.2.1, F.2.2.2.2.1⟩ (hC H.size) (cb_S F hk hl hrm) ⟨blind, pre_of F hP hD hS⟩ rfl hn hl9.1 rfl (lv_room hro) d (rm_cs F.2.2.2.2.2.2.2.2.2)) hS (fun q _ h => hFc q h) hFc (fun r' u t H1 locs1 ht hvm hw hB hz1 hk1 hS1 => ?_)
  obtain ⟨rfl, rfl⟩ := hw
  exact k H1 locs1 ls (by rw [← ht]; exact hB.1) (hB.2.weaken (fun _ q _ h => hFc q.1 h)) hS1 hl9
end CR
/-! ===== taking a partial answer apart ===== -/
theorem ite_t {c : Prop} [Decidable c] {α : Type} {a b x : α} (hc : c) (h : (if c then a else b) = x) : a = x := by rw [if_pos hc] at h; exact h
theorem ite_f {c : Prop} [Decidable c] {α : Type} {a b x : α} (hc : ¬ c) (h : (if c then a else b) = x) : b = x := by rw [if_neg hc] at h; exact h
theorem ck_some {c : Prop} [Decidable c] {α : Type} {a : Option α} {x : α} (h : (if c then a else none) = some x) : c ∧ a = some x := by
  by_cases hc : c
  · rw [if_pos hc] at h; exact ⟨hc, h⟩
  · rw [if_neg hc] at h; cases h
theorem bd_some {α β : Type} {a : Option α} {K : α → Option β} {x : β} (h : a.bind K = some x) : ∃ y, a = some y ∧ K y = some x := by
  cases a with
  | none => cases h
  | some y => exact ⟨y, rfl, h⟩
/-- an index of a row of n places -/
abbrev ok (i : Int32) (n : Nat) : Prop := ¬ (i < 0 ∨ n ≤ i.toNatClampNeg)
abbrev b01 (x : Int32) : Prop := x = 0 ∨ x = 1
theorem nb01 {x : Int32} (h : b01 x) : narrow .boolean (.int x) = .int x ∧ fits .boolean (.int x) = true := by
  rcases h with rfl | rfl <;> decide
