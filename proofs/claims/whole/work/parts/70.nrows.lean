/-! ===== worlds that grow: the judgement with its count of cells and slots ===== -/
def nLinks : List (String × Nat × MethodName) := [(RX11, 11, yX7_init), (RX11, 14, yX8_init), (RX11, 17, yX0_init), (RX11, 20, yX1_init), (RX11, 23, yX3_init), (RX11, 26, yX2_init), (RX0, 1, yX7_init), (RX1, 1, yX7_init), (RX2, 1, yX0_init), (RX3, 1, yX8_init), (RX8, 1, yX7_init)]
def nKids : List String := [RX8, RX0, RX1, RX3, RX2]
/-- what constructors need of the start beside the words -/
def Zn (U : State) : Prop := (∀ q ∈ nLinks, va_Nw (.methodLinkNest q.1 q.2.1 q.2.2 "TowerWarns") U) ∧ (va_AO RX10 U ∧ va_AO RX7 U ∧ va_AO RX6 U) ∧ ∀ C ∈ nKids, va_Nw (.castable C RX7) U
theorem Zn.warm {s U : State} (hW : s.WarmedH U.vm) (h : Zn s) : Zn U := ⟨fun q hq => va_Nw.warmM hW (h.1 q hq), ⟨h.2.1.1.moved hW.alike, h.2.1.2.1.moved hW.alike, h.2.1.2.2.moved hW.alike⟩, fun C hC => va_Nw.warmC hW (h.2.2 C hC)⟩
theorem Zn.same {s U : State} (hv : U.vm = s.vm) (h : Zn s) : Zn U := ⟨fun q hq => va_Nw.same rfl hv.symm (h.1 q hq), ⟨h.2.1.1.moved (by rw [hv]; exact Vm.Alike.refl _), h.2.1.2.1.moved (by rw [hv]; exact Vm.Alike.refl _), h.2.1.2.2.moved (by rw [hv]; exact Vm.Alike.refl _)⟩, fun C hC => va_Nw.same rfl hv.symm (h.2.2 C hC)⟩
def GN (X : Cx) (kc kn : Nat) (ws : va_W) (pc : Nat) (lv : List (Nat × Value)) (st : List Value) : Prop :=
  ∀ (H : Heap) (locs : List Loc) (ls : Array Slot), va_P (eD (xE X)) vwCl ws H → va_D (xA X) ws → va_S (xA X) (xs X).heap H locs → lv_has ls (xn X) lv → W (xp X) (xl X) (xe X) (xR X) (xs X) (xm X) (xa X) (xb X) (xM X) (xc X) H locs kc kn (xQ X) (F0 (xm X) pc ls st)
def FN (X : Cx) (cc : ByteArray) (own : String) (R : Room) : Prop :=
  (xp X).tables.exec = Jvm.exec ∧ (xc X).code = cc ∧ (xc X).maxLocals = xn X ∧ (xs X).vm.findClass own = some (xm X).cls ∧ (∀ w ∈ gw, w.before (xa X) (xs X) = true) ∧ va_K (eD (xE X)) vwCl (tysE (xE X)) (xs X) ∧ (∀ q, (xs X).heap.size ≤ q → xA X q) ∧ (xM X).locks = false ∧ xR X = R
/-- a new cell to the front -/
theorem P_rot {D : va_G} {cl : List vw_C} {ws : va_W} {x : Nat × va_E} {H : Heap} (h : va_P D cl (ws ++ [x]) H) : va_P D cl (x :: ws) H := by
  intro k q hk
  match k, hk with
  | 0, hk => exact h ws.length q (by rw [List.getElem?_append_right (Nat.le_refl _), Nat.sub_self]; exact hk)
  | k + 1, hk =>
    have hk2 : ws[k]? = some q := hk
    have hl : k < ws.length := (List.getElem?_eq_some_iff.mp hk2).1
    exact h k q (by rw [List.getElem?_append_left hl]; exact hk2)
theorem D_rot {A : Nat → Prop} {ws : va_W} {x : Nat × va_E} (h : va_D A (ws ++ [x])) : va_D A (x :: ws) := by
  have key : ∀ (k : Nat) (q : Nat × va_E), (x :: ws)[k]? = some q → ∃ j : Nat, (ws ++ [x])[j]? = some q ∧ ((k = 0 ∧ j = ws.length) ∨ (k = j + 1 ∧ j < ws.length)) := by
    intro k q hk
    match k, hk with
    | 0, hk => exact ⟨ws.length, by rw [List.getElem?_append_right (Nat.le_refl _), Nat.sub_self]; exact hk, Or.inl ⟨rfl, rfl⟩⟩
    | k + 1, hk =>
      have hk2 : ws[k]? = some q := hk
      have hl : k < ws.length := (List.getElem?_eq_some_iff.mp hk2).1
      exact ⟨k, by rw [List.getElem?_append_left hl]; exact hk2, Or.inr ⟨rfl, hl⟩⟩
  refine ⟨fun i j p q hi hj hpq => ?_, fun k q hk => ?_⟩
  · obtain ⟨i2, a1, a2⟩ := key i p hi
    obtain ⟨j2, b1, b2⟩ := key j q hj
    have := h.1 i2 j2 p q a1 b1 hpq
    omega
  · obtain ⟨j2, b1, -⟩ := key k q hk
    exact h.2 j2 q b1
theorem RA_name {U : State} {cA : ClassId} {ty : FieldType} (h : va_RA U cA ty) : U.vm.findClass ("[" ++ ty.toString) = some cA := by
  cases ty with
  | object C =>
    obtain ⟨kA, comp, h1, h2, h3, h4⟩ := h
    exact h4
  | _ => exact h
theorem arr_one {E : Ev} {s : State} {cA cB : ClassId} {ty : FieldType} {t0 : Nat} (hK : va_K (eD E) vwCl (tysE E) s) (ht : (tysE E)[t0]? = some (cA, ty)) (hK2 : va_K (eD E) vwCl (tysE E ++ [(cB, ty)]) s) : cB = cA := by
  have h1 := RA_name (hK.2 t0 _ ht).2
  have h2 := RA_name (hK2.2 (tysE E).length (cB, ty) (by rw [List.getElem?_append_right (Nat.le_refl _), Nat.sub_self]; rfl)).2
  exact Option.some.inj (h2.symm.trans h1)
/-- a row of references is what its places hold -/
theorem arrV_ext {cA : ClassId} {n : Nat} {f g : Nat → Value} (h : ∀ i, i < n → f i = g i) : arrV cA n f = arrV cA n g := by
  unfold arrV
  congr 1
  apply Array.ext
  · simp
  · intro i h1 h2
    simp only [Array.getElem_ofFn]
    exact h i (by simpa using h1)
theorem at_rf {D : va_G} {cl : List vw_C} {a n : Nat} {cA : ClassId} {f g : Nat → Option Nat} {H : Heap} (h : ∀ i, i < n → f i = g i) (hq : va_at D cl (a, .inl (cA, n, .inr (.inr (.inr (.inr f))))) H) : va_at D cl (a, .inl (cA, n, .inr (.inr (.inr (.inr g))))) H := by
  have hq2 : H[a]? = some (vp_cell cA (n, .inr (.inr (.inr (.inr f))))) := hq
  show H[a]? = some (vp_cell cA (n, .inr (.inr (.inr (.inr g)))))
  rw [hq2, vp_cell_q, vp_cell_q]
  exact congrArg some (arrV_ext (fun i hi => by rw [h i hi]))
section NR
variable {X : Cx} {cc : ByteArray} {own : String} {R : Room} {kc kn : Nat} {ws : va_W} {pc : Nat} {lv : List (Nat × Value)} {st : List Value}
theorem n_iconst {z : Int} {v : Int32} (F : FN X cc own R) (d : decode cc pc = .ok (.iconst z, 1)) (hv : Int32.ofInt z = v) (k : GN X kc kn ws (pc + 1) lv (.int v :: st)) : GN X kc kn ws pc lv (st) :=
  fun H locs ls hP hD hS hl => lv_iconst F.1 F.2.1 d hv (k H locs ls hP hD hS hl)
theorem n_bipush {z : Int} {v : Int32} (F : FN X cc own R) (d : decode cc pc = .ok (.bipush z, 2)) (hv : (Int8.ofInt z).toInt32 = v) (k : GN X kc kn ws (pc + 2) lv (.int v :: st)) : GN X kc kn ws pc lv (st) :=
  fun H locs ls hP hD hS hl => lv_bipush F.1 F.2.1 d hv (k H locs ls hP hD hS hl)
theorem n_sipush {z : Int} {v : Int32} (F : FN X cc own R) (d : decode cc pc = .ok (.sipush z, 3)) (hv : (Int16.ofInt z).toInt32 = v) (k : GN X kc kn ws (pc + 3) lv (.int v :: st)) : GN X kc kn ws pc lv (st) :=
  fun H locs ls hP hD hS hl => lv_sipush F.1 F.2.1 d hv (k H locs ls hP hD hS hl)
theorem n_aload_n {z : Fin 4} {i : Nat} {x : Nat} (F : FN X cc own R) (d : decode cc pc = .ok (.aload_n z, 1)) (hi : (z : Nat) = i) (q : Nat) (hq : lv[q]? = some (i, .ref x)) (k : GN X kc kn ws (pc + 1) lv (.ref x :: st)) : GN X kc kn ws pc lv (st) :=
  fun H locs ls hP hD hS hl => lv_aload_n F.1 F.2.1 d hi (lv_at hl q hq) (k H locs ls hP hD hS hl)
theorem n_iload_n {z : Fin 4} {i : Nat} {x : Int32} (F : FN X cc own R) (d : decode cc pc = .ok (.iload_n z, 1)) (hi : (z : Nat) = i) (q : Nat) (hq : lv[q]? = some (i, .int x)) (k : GN X kc kn ws (pc + 1) lv (.int x :: st)) : GN X kc kn ws pc lv (st) :=
  fun H locs ls hP hD hS hl => lv_iload_n F.1 F.2.1 d hi (lv_at hl q hq) (k H locs ls hP hD hS hl)
theorem n_istore_n {lv2 : List (Nat × Value)} {z : Fin 4} {i : Nat} {x : Int32} (F : FN X cc own R) (d : decode cc pc = .ok (.istore_n z, 1)) (hi : (z : Nat) = i) (hn : i < xn X) (ks : List Nat) (hk : lv_pick ((i, .int x) :: lv.filter (fun q => !(q.1 == i) && !(q.1 + 1 == i && q.2.category == 2))) ks = lv2) (k : GN X kc kn ws (pc + 1) lv2 st) : GN X kc kn ws pc lv (.int x :: st) :=
  fun H locs ls hP hD hS hl => lv_istore_n F.1 F.2.1 d hi hl hn rfl (fun ls2 hl2 => k H locs ls2 hP hD hS (lv_sub hl2 ks hk))
theorem n_astore_n {lv2 : List (Nat × Value)} {z : Fin 4} {i : Nat} {x : Nat} (F : FN X cc own R) (d : decode cc pc = .ok (.astore_n z, 1)) (hi : (z : Nat) = i) (hn : i < xn X) (ks : List Nat) (hk : lv_pick ((i, .ref x) :: lv.filter (fun q => !(q.1 == i) && !(q.1 + 1 == i && q.2.category == 2))) ks = lv2) (k : GN X kc kn ws (pc + 1) lv2 st) : GN X kc kn ws pc lv (.ref x :: st) :=
  fun H locs ls hP hD hS hl => lv_astore_n F.1 F.2.1 d hi hl hn rfl (fun ls2 hl2 => k H locs ls2 hP hD hS (lv_sub hl2 ks hk))
theorem n_iinc {lv2 : List (Nat × Value)} {i : Nat} {z : Int} {x v : Int32} (F : FN X cc own R) (d : decode cc pc = .ok (.iinc i z, 3)) (q : Nat) (hq : lv[q]? = some (i, .int x)) (hv : x + Int32.ofInt z = v) (hn : i < xn X) (ks : List Nat) (hk : lv_pick ((i, .int v) :: lv.filter (fun q => !(q.1 == i) && !(q.1 + 1 == i && q.2.category == 2))) ks = lv2) (k : GN X kc kn ws (pc + 3) lv2 st) : GN X kc kn ws pc lv st :=
  fun H locs ls hP hD hS hl => lv_iinc F.1 F.2.1 d hl hq hv hn rfl (fun ls2 hl2 => k H locs ls2 hP hD hS (lv_sub hl2 ks hk))
theorem n_iadd {x y : Int32} (F : FN X cc own R) (d : decode cc pc = .ok (.iadd, 1)) (k : GN X kc kn ws (pc + 1) lv (.int (x + y) :: st)) : GN X kc kn ws pc lv (.int y :: .int x :: st) :=
  fun H locs ls hP hD hS hl => lv_iadd F.1 F.2.1 d (k H locs ls hP hD hS hl)
theorem n_isub {x y : Int32} (F : FN X cc own R) (d : decode cc pc = .ok (.isub, 1)) (k : GN X kc kn ws (pc + 1) lv (.int (x - y) :: st)) : GN X kc kn ws pc lv (.int y :: .int x :: st) :=
  fun H locs ls hP hD hS hl => lv_isub F.1 F.2.1 d (k H locs ls hP hD hS hl)
theorem n_iand {x y : Int32} (F : FN X cc own R) (d : decode cc pc = .ok (.iand, 1)) (k : GN X kc kn ws (pc + 1) lv (.int (x &&& y) :: st)) : GN X kc kn ws pc lv (.int y :: .int x :: st) :=
  fun H locs ls hP hD hS hl => lv_iand F.1 F.2.1 d (k H locs ls hP hD hS hl)
theorem n_land {x y : Int64} (F : FN X cc own R) (d : decode cc pc = .ok (.land, 1)) (k : GN X kc kn ws (pc + 1) lv (.long (x &&& y) :: st)) : GN X kc kn ws pc lv (.long y :: .long x :: st) :=
  fun H locs ls hP hD hS hl => lv_land F.1 F.2.1 d (k H locs ls hP hD hS hl)
theorem n_lor {x y : Int64} (F : FN X cc own R) (d : decode cc pc = .ok (.lor, 1)) (k : GN X kc kn ws (pc + 1) lv (.long (x ||| y) :: st)) : GN X kc kn ws pc lv (.long y :: .long x :: st) :=
  fun H locs ls hP hD hS hl => lv_lor F.1 F.2.1 d (k H locs ls hP hD hS hl)
theorem n_lshl {x : Int64} {y : Int32} (F : FN X cc own R) (d : decode cc pc = .ok (.lshl, 1)) (k : GN X kc kn ws (pc + 1) lv (.long (x <<< (y.toInt64 &&& 63)) :: st)) : GN X kc kn ws pc lv (.int y :: .long x :: st) :=
  fun H locs ls hP hD hS hl => lv_lshl F.1 F.2.1 d rfl (k H locs ls hP hD hS hl)
theorem n_i2l {x : Int32} (F : FN X cc own R) (d : decode cc pc = .ok (.i2l, 1)) (k : GN X kc kn ws (pc + 1) lv (.long x.toInt64 :: st)) : GN X kc kn ws pc lv (.int x :: st) :=
  fun H locs ls hP hD hS hl => lv_i2l F.1 F.2.1 d rfl (k H locs ls hP hD hS hl)
theorem n_lcmp {x y : Int64} (F : FN X cc own R) (d : decode cc pc = .ok (.lcmp, 1)) (k : GN X kc kn ws (pc + 1) lv (.int (lg_cmp x y) :: st)) : GN X kc kn ws pc lv (.long y :: .long x :: st) :=
  fun H locs ls hP hD hS hl => W.lcmp F.1 F.2.1 d (k H locs ls hP hD hS hl)
theorem n_dup {v : Value} (F : FN X cc own R) (d : decode cc pc = .ok (.dup, 1)) (hv : v.category = 1) (k : GN X kc kn ws (pc + 1) lv (v :: v :: st)) : GN X kc kn ws pc lv (v :: st) :=
  fun H locs ls hP hD hS hl => lv_dup F.1 F.2.1 d hv (k H locs ls hP hD hS hl)
theorem n_goto {off : Int} {tgt : Nat} (F : FN X cc own R) (d : decode cc pc = .ok (.goto off, 3)) (ht : (pc : Int) + off = (tgt : Int)) (k : GN X kc kn ws tgt lv st) : GN X kc kn ws pc lv st :=
  fun H locs ls hP hD hS hl => lv_goto F.1 F.2.1 d ht (k H locs ls hP hD hS hl)
theorem n_icmp_ge {x y : Int32} {off : Int} {tgt : Nat} (F : FN X cc own R) (d : decode cc pc = .ok (.if_icmp .ge off, 3)) (ht : (pc : Int) + off = (tgt : Int)) (kt : y ≤ x → GN X kc kn ws tgt lv st) (kf : ¬ (y ≤ x) → GN X kc kn ws (pc + 3) lv st) : GN X kc kn ws pc lv (.int y :: .int x :: st) :=
  fun H locs ls hP hD hS hl => lv_icmp_ge F.1 F.2.1 d ht (fun c => kt c H locs ls hP hD hS hl) (fun c => kf c H locs ls hP hD hS hl)
theorem n_icmp_gt {x y : Int32} {off : Int} {tgt : Nat} (F : FN X cc own R) (d : decode cc pc = .ok (.if_icmp .gt off, 3)) (ht : (pc : Int) + off = (tgt : Int)) (kt : y < x → GN X kc kn ws tgt lv st) (kf : ¬ (y < x) → GN X kc kn ws (pc + 3) lv st) : GN X kc kn ws pc lv (.int y :: .int x :: st) :=
  fun H locs ls hP hD hS hl => lv_icmp_gt F.1 F.2.1 d ht (fun c => kt c H locs ls hP hD hS hl) (fun c => kf c H locs ls hP hD hS hl)
theorem n_icmp_eq {x y : Int32} {off : Int} {tgt : Nat} (F : FN X cc own R) (d : decode cc pc = .ok (.if_icmp .eq off, 3)) (ht : (pc : Int) + off = (tgt : Int)) (kt : x = y → GN X kc kn ws tgt lv st) (kf : ¬ (x = y) → GN X kc kn ws (pc + 3) lv st) : GN X kc kn ws pc lv (.int y :: .int x :: st) :=
  fun H locs ls hP hD hS hl => lv_icmp_eq F.1 F.2.1 d ht (fun c => kt c H locs ls hP hD hS hl) (fun c => kf c H locs ls hP hD hS hl)
theorem n_if_eq {x : Int32} {off : Int} {tgt : Nat} (F : FN X cc own R) (d : decode cc pc = .ok (.ifCond .eq off, 3)) (ht : (pc : Int) + off = (tgt : Int)) (kt : x = 0 → GN X kc kn ws tgt lv st) (kf : ¬ (x = 0) → GN X kc kn ws (pc + 3) lv st) : GN X kc kn ws pc lv (.int x :: st) :=
  fun H locs ls hP hD hS hl => lv_if_eq F.1 F.2.1 d ht (fun c => kt c H locs ls hP hD hS hl) (fun c => kf c H locs ls hP hD hS hl)
theorem n_tswOut {dflt lo hi : Int} {offs : Array Int} {len : Nat} {x : Int32} {tgt : Nat} (F : FN X cc own R) (d : decode cc pc = .ok (.tableswitch dflt lo hi offs, len)) (h : x.toInt < lo ∨ hi < x.toInt) (ht : (pc : Int) + dflt = (tgt : Int)) (k : GN X kc kn ws tgt lv st) : GN X kc kn ws pc lv (.int x :: st) :=
  fun H locs ls hP hD hS hl => lv_tableOut F.1 F.2.1 d h ht (k H locs ls hP hD hS hl)
theorem n_tswIn {dflt lo hi : Int} {offs : Array Int} {len : Nat} {x : Int32} {off : Int} {tgt : Nat} (F : FN X cc own R) (d : decode cc pc = .ok (.tableswitch dflt lo hi offs, len)) {v : Int} (hv : x.toInt = v) (h1 : ¬ v < lo) (h2 : ¬ hi < v) (ho : offs[(v - lo).toNat]? = some off) (ht : (pc : Int) + off = (tgt : Int)) (k : GN X kc kn ws tgt lv st) : GN X kc kn ws pc lv (.int x :: st) :=
  fun H locs ls hP hD hS hl => lv_tableIn F.1 F.2.1 d (by rw [hv]; exact h1) (by rw [hv]; exact h2) (by rw [hv]; exact ho) ht (k H locs ls hP hD hS hl)
theorem n_ldc2 {idx : Nat} {v : Int64} (F : FN X cc own R) (hw : Cond.constantLong own idx v ∈ gw) (d : decode cc pc = .ok (.ldc2_w idx, 3)) (k : GN X kc kn ws (pc + 3) lv (.long v :: st)) : GN X kc kn ws pc lv st :=
  fun H locs ls hP hD hS hl => lv_ldc2 F.1 F.2.1 F.2.2.2.1 (F.2.2.2.2.1 _ hw) d (k H locs ls hP hD hS hl)
theorem n_get {idx ci : Nat} {C : String} {T : u_T} {N k : Nat} {a : Nat} {fs : List Value} {v : Value} (F : FN X cc own R) (hf : FLd own idx ci C T N k) (q0 : Nat) (he : ws[q0]? = some (a, .inr (ci, fs))) (hv : fs[k]? = some v) (d : decode cc pc = .ok (.getfield idx, 3)) (kk : GN X kc kn ws (pc + 3) lv (v :: st)) : GN X kc kn ws pc lv (.ref a :: st) :=
  fun H locs ls hP hD hS hl => va_get F.1 F.2.1 F.2.2.2.2.1 hf.2.1 F.2.2.2.1 F.2.2.2.2.2.1 hP q0 he hf.1 k hf.2.2.1 (F.2.2.2.2.1 _ hf.2.2.2) (fun _ h => h) hv d (kk H locs ls hP hD hS hl)
theorem n_put {ws2 : va_W} {idx ci : Nat} {C : String} {T : u_T} {N k : Nat} {ty : FieldType} {a : Nat} {fs : List Value} {v : Value} (F : FN X cc own R) (hf : PFd own idx ci C T N k ty) (q0 : Nat) (he : ws[q0]? = some (a, .inr (ci, fs))) (hn : narrow ty v = v) (hfit : fits ty v = true) (hl9 : k < fs.length) (hw : ws.set q0 (a, .inr (ci, fs.set k v)) = ws2) (d : decode cc pc = .ok (.putfield idx, 3)) (kk : GN X kc kn ws2 (pc + 3) lv st) : GN X kc kn ws pc lv (v :: .ref a :: st) :=
  fun H locs ls hP hD hS hl => by
    obtain ⟨⟨h1, h2, h3, h4⟩, h5, h6, ⟨ty0, h7⟩, h8⟩ := hf
    exact va_put F.1 F.2.1 F.2.2.2.2.1 h2 ty0 h7 h8 F.2.2.2.1 F.2.2.2.2.2.1 hP hD hS q0 he h1 k h3 (F.2.2.2.2.1 _ h4) (fun _ h => h) h5 h6 hn hfit hl9 d (fun H1 locs1 hP1 hD1 hS1 => kk H1 locs1 ls (by rw [← hw]; exact hP1) (by rw [← hw]; exact hD1) hS1 hl)
theorem n_iald {a : Nat} {cA : ClassId} {N j : Nat} {fn : Nat → Int32} {i : Int32} (F : FN X cc own R) (q0 t0 : Nat) (ha : ws[q0]? = some (a, .inl (cA, N, .inl fn))) (ht : (tysE (xE X))[t0]? = some (cA, .int)) (hin : vp_in i N) (hj : i.toNatClampNeg = j) (d : decode cc pc = .ok (.iaload, 1)) (k : GN X kc kn ws (pc + 1) lv (.int (fn j) :: st)) : GN X kc kn ws pc lv (.int i :: .ref a :: st) :=
  fun H locs ls hP hD hS hl => va_iald F.1 F.2.1 F.2.2.2.2.2.1 hP q0 t0 ha ht hin d (by rw [hj]; exact k H locs ls hP hD hS hl)
theorem n_iast {ws2 : va_W} {a : Nat} {cA : ClassId} {N j : Nat} {fn : Nat → Int32} {i x : Int32} (F : FN X cc own R) (q0 t0 : Nat) (ha : ws[q0]? = some (a, .inl (cA, N, .inl fn))) (ht : (tysE (xE X))[t0]? = some (cA, .int)) (hin : vp_in i N) (hj : i.toNatClampNeg = j) (hw : ws.set q0 (a, .inl (cA, N, .inl (upd fn j x))) = ws2) (d : decode cc pc = .ok (.iastore, 1)) (k : GN X kc kn ws2 (pc + 1) lv st) : GN X kc kn ws pc lv (.int x :: .int i :: .ref a :: st) :=
  fun H locs ls hP hD hS hl => va_iast F.1 F.2.1 F.2.2.2.2.2.1 hP hD hS q0 t0 ha ht hin d (fun H1 locs1 hP1 hD1 hS1 => k H1 locs1 ls (by rw [← hw, ← hj]; exact hP1) (by rw [← hw, ← hj]; exact hD1) hS1 hl)
theorem n_alen {a : Nat} {cA : ClassId} {x : vp_A} {ty : FieldType} {v : Int32} (F : FN X cc own R) (q0 t0 : Nat) (ha : ws[q0]? = some (a, .inl (cA, x))) (ht : (tysE (xE X))[t0]? = some (cA, ty)) (hv : Int32.ofNat x.1 = v) (d : decode cc pc = .ok (.arraylength, 1)) (k : GN X kc kn ws (pc + 1) lv (.int v :: st)) : GN X kc kn ws pc lv (.ref a :: st) :=
  fun H locs ls hP hD hS hl => va_alen F.1 F.2.1 F.2.2.2.2.2.1 hP q0 t0 ha ht hv d (k H locs ls hP hD hS hl)
theorem n_aald {a b : Nat} {cA : ClassId} {N : Nat} {C : String} {fn : Nat → Option Nat} {i : Int32} (F : FN X cc own R) (q0 t0 : Nat) (ha : ws[q0]? = some (a, .inl (cA, N, .inr (.inr (.inr (.inr fn)))))) (ht : (tysE (xE X))[t0]? = some (cA, .object C)) (hin : vp_in i N) (hv : fn i.toNatClampNeg = some b) (d : decode cc pc = .ok (.aaload, 1)) (k : GN X kc kn ws (pc + 1) lv (.ref b :: st)) : GN X kc kn ws pc lv (.int i :: .ref a :: st) :=
  fun H locs ls hP hD hS hl => va_aldq F.1 F.2.1 F.2.2.2.2.2.1 hP q0 t0 ha ht hin d (by rw [hv]; exact k H locs ls hP hD hS hl)
/-- a new object -/
theorem n_new {idx ci : Nat} {C : String} {T : u_T} {N : Nat} {fs : List Value} (F : FN X cc own R) (ty : Nat → FieldType) (hty : ∀ k, k < N → parseFieldDescriptor (T k).2.2.1 = some (ty k)) (hin : ∀ w ∈ u_ws C T N, w ∈ gw) (hcl : Cond.classLink own idx C ∈ gw) (hinst : Cond.instantiable C N ∈ gw) (hini : Cond.initialized C ∈ gw) (hc : vwCl[ci]? = some (C, T, N)) (hfs : ∀ j, j < N → defaultValue (ty j) = vp_V fs j) (hr : kc + 1 ≤ R.cells ∧ kn + N ≤ R.slots) (d : decode cc pc = .ok (.new idx, 3)) (k : ∀ q : Nat, GN X (kc + 1) (kn + N) ((q, .inr (ci, fs)) :: ws) (pc + 3) lv (.ref q :: st)) : GN X kc kn ws pc lv st := by
  intro H locs ls hP hD hS hl
  obtain ⟨h1, h2, h3, h4, h5, h6, h7, h8, h9⟩ := F
  exact va_new h1 h2 h5 hin ty hty h4 (h5 _ hcl) (h5 _ hinst) (h5 _ hini) h6 hP hD hS h7 hc hfs (by rw [h9]; exact hr.1) (by rw [h9]; exact hr.2) d (fun q H1 hP1 hD1 hS1 => k q H1 locs ls (P_rot hP1) (D_rot hD1) hS1 hl)
/-- a new row of numbers -/
theorem n_newa {atype : ArrayType} {ty : FieldType} {n0 : Int32} {N : Nat} {a0 : vp_A} {cA : ClassId} (F : FN X cc own R) (t0 : Nat) (ht : (tysE (xE X))[t0]? = some (cA, ty)) (harr : Cond.arrayClass (newarray.typeOf atype) ∈ gw) (hty : newarray.typeOf atype = ty) (ha : ∀ cA : ClassId, vp_cell cA a0 = arrV cA N (fun _ => defaultValue ty)) (hn : ¬ n0 < 0) (hN : n0.toNatClampNeg = N) (hb : N * componentBytes ty ≤ 536870912) (hr : kc + 1 ≤ R.cells ∧ kn + N ≤ R.slots) (d : decode cc pc = .ok (.newarray atype, 2)) (k : ∀ q : Nat, GN X (kc + 1) (kn + N) ((q, .inl (cA, a0)) :: ws) (pc + 2) lv (.ref q :: st)) : GN X kc kn ws pc lv (.int n0 :: st) := by
  intro H locs ls hP hD hS hl
  obtain ⟨h1, h2, h3, h4, h5, h6, h7, h8, h9⟩ := F
  refine va_newa h1 h2 (h5 _ harr) hty h6 hP hD hS h7 ha hn hN hb (by rw [h9]; exact hr.1) (by rw [h9]; exact hr.2) d (fun q cB H1 hK1 hP1 hD1 hS1 => ?_)
  have e : cB = cA := arr_one h6 ht hK1
  subst e
  exact k q H1 locs ls (P_rot hP1) (D_rot hD1) hS1 hl
/-- a new row of references -/
theorem n_newq {idx : Nat} {C : String} {n0 : Int32} {N : Nat} {cA : ClassId} (F : FN X cc own R) (t0 : Nat) (ht : (tysE (xE X))[t0]? = some (cA, .object C)) (hcl : Cond.classLink own idx C ∈ gw) (hov : va_AO C (xs X)) (hn : ¬ n0 < 0) (hN : n0.toNatClampNeg = N) (hb : N * 4 ≤ 536870912) (hr : kc + 1 ≤ R.cells ∧ kn + N ≤ R.slots) (d : decode cc pc = .ok (.anewarray idx, 3)) (k : ∀ q : Nat, GN X (kc + 1) (kn + N) ((q, .inl (cA, N, .inr (.inr (.inr (.inr (fun _ => none)))))) :: ws) (pc + 3) lv (.ref q :: st)) : GN X kc kn ws pc lv (.int n0 :: st) := by
  intro H locs ls hP hD hS hl
  obtain ⟨h1, h2, h3, h4, h5, h6, h7, h8, h9⟩ := F
  refine va_newq h1 h2 h4 (h5 _ hcl) hov h6 hP hD hS h7 hn hN hb (by rw [h9]; exact hr.1) (by rw [h9]; exact hr.2) d (fun q cB H1 hK1 hP1 hD1 hS1 => ?_)
  have e : cB = cA := arr_one h6 ht hK1
  subst e
  exact k q H1 locs ls (P_rot hP1) (D_rot hD1) hS1 hl
/-- a reference into a row: of its own class, of a class under it -/
theorem n_aast {a v N ci j : Nat} {cA : ClassId} {r : vw_C} {vs : List Value} {fn : Nat → Option Nat} {i : Int32} {ws2 : va_W} (F : FN X cc own R) (q0 t0 qk : Nat) (ha : ws[q0]? = some (a, .inl (cA, N, .inr (.inr (.inr (.inr fn)))))) (ht : (tysE (xE X))[t0]? = some (cA, .object r.1)) (hv : ws[qk]? = some (v, .inr (ci, vs))) (hc : vwCl[ci]? = some r) (hin : vp_in i N) (hj : i.toNatClampNeg = j) (hw : ws.set q0 (a, .inl (cA, N, .inr (.inr (.inr (.inr (va_up fn j (some v))))))) = ws2) (d : decode cc pc = .ok (.aastore, 1)) (k : GN X kc kn ws2 (pc + 1) lv st) : GN X kc kn ws pc lv (.ref v :: .int i :: .ref a :: st) :=
  fun H locs ls hP hD hS hl => va_astq F.1 F.2.1 F.2.2.2.2.2.1 hP hD hS q0 t0 qk ci ha ht hv hc hin d (fun H1 locs1 hP1 hD1 hS1 => k H1 locs1 ls (by rw [← hw, ← hj]; exact hP1) (by rw [← hw, ← hj]; exact hD1) hS1 hl)
theorem n_aastO {a v N ci j : Nat} {cA : ClassId} {C : String} {r : vw_C} {vs : List Value} {fn : Nat → Option Nat} {i : Int32} {ws2 : va_W} (F : FN X cc own R) (q0 t0 qk : Nat) (ha : ws[q0]? = some (a, .inl (cA, N, .inr (.inr (.inr (.inr fn)))))) (ht : (tysE (xE X))[t0]? = some (cA, .object C)) (hca : va_Nw (.castable r.1 C) (xs X)) (hv : ws[qk]? = some (v, .inr (ci, vs))) (hc : vwCl[ci]? = some r) (hin : vp_in i N) (hj : i.toNatClampNeg = j) (hw : ws.set q0 (a, .inl (cA, N, .inr (.inr (.inr (.inr (va_up fn j (some v))))))) = ws2) (d : decode cc pc = .ok (.aastore, 1)) (k : GN X kc kn ws2 (pc + 1) lv st) : GN X kc kn ws pc lv (.ref v :: .int i :: .ref a :: st) :=
  fun H locs ls hP hD hS hl => va_astqO F.1 F.2.1 F.2.2.2.2.2.1 hP hD hS q0 t0 qk ci ha ht hca hv hc hin d (fun H1 locs1 hP1 hD1 hS1 => k H1 locs1 ls (by rw [← hw, ← hj]; exact hP1) (by rw [← hw, ← hj]; exact hD1) hS1 hl)
/-- a final field, in its class's constructor -/
def QFd (own : String) (idx ci : Nat) (C : String) (T : u_T) (N k : Nat) (ty : FieldType) : Prop := FLd own idx ci C T N k ∧ (T k).2.2.2 = true ∧ (T k).1 = own ∧ parseFieldDescriptor (T k).2.2.1 = some ty ∧ (∃ ty0 : Nat → FieldType, ∀ k, k < N → parseFieldDescriptor (T k).2.2.1 = some (ty0 k)) ∧ ∀ a, a < N → ∀ b, b < N → a ≠ b → (T a).2.1 ≠ (T b).2.1
theorem n_putF {ws2 : va_W} {idx ci : Nat} {C : String} {T : u_T} {N k : Nat} {ty : FieldType} {a : Nat} {fs : List Value} {v : Value} (F : FN X cc own R) (hin2 : (xM X).name = "<init>") (hf : QFd own idx ci C T N k ty) (q0 : Nat) (he : ws[q0]? = some (a, .inr (ci, fs))) (hn : narrow ty v = v) (hfit : fits ty v = true) (hl9 : k < fs.length) (hw : ws.set q0 (a, .inr (ci, fs.set k v)) = ws2) (d : decode cc pc = .ok (.putfield idx, 3)) (kk : GN X kc kn ws2 (pc + 3) lv st) : GN X kc kn ws pc lv (v :: .ref a :: st) :=
  fun H locs ls hP hD hS hl => by
    obtain ⟨⟨h1, h2, h3, h4⟩, h5, h5b, h6, ⟨ty0, h7⟩, h8⟩ := hf
    exact va_putF F.1 F.2.1 F.2.2.2.2.1 h2 ty0 h7 h8 F.2.2.2.1 F.2.2.2.2.2.1 hP hD hS q0 he h1 k h3 (F.2.2.2.2.1 _ h4) (fun _ h => h) h5 hin2 h5b h6 hn hfit hl9 d (fun H1 locs1 hP1 hD1 hS1 => kk H1 locs1 ls (by rw [← hw]; exact hP1) (by rw [← hw]; exact hD1) hS1 hl)
theorem n_obj {idx a : Nat} (F : FN X cc own R) (hl0 : Cond.methodLink own idx Lib.objectInit ∈ gw) (h1 : Cond.instanceMethod Lib.objectInit ∈ gw) (h2 : Cond.code Lib.objectInit ⟨#[0xb1]⟩ 1 none ∈ gw) (hrm : 1 ≤ R.frames ∧ 20 ≤ R.locals) (hro : (st.map fun v => v.category).sum ≤ 8) (d : decode cc pc = .ok (.invokespecial idx, 3)) (k : GN X kc kn ws (pc + 3) lv st) : GN X kc kn ws pc lv (.ref a :: st) :=
  fun H locs ls hP hD hS hl => W.objInit F.1 F.2.1 F.2.2.2.1 (F.2.2.2.2.1 _ hl0) (F.2.2.2.2.1 _ h1) (F.2.2.2.2.1 _ h2) rfl (by rw [F.2.2.1]; exact hl.1) rfl d (by rw [F.2.2.2.2.2.2.2.2]; exact hrm.1) (by rw [F.2.2.2.2.2.2.2.2]; have := lv_room (m := xm X) (pc := pc) (ls := ls) (rest := st) hro; have h3 := hrm.2; show 2 * (F0 (xm X) pc ls _).monitorRoom + _ + 12 ≤ _; exact Nat.le_trans (Nat.add_le_add_right this 12) h3) (k H locs ls hP hD hS hl)
end NR
/-! ===== constructors' contracts ===== -/
def PrN (E : Ev) (ws : va_W) (sz : Nat) : State → Prop := fun U => U.heap.size = sz ∧ va_P (eD E) vwCl ws U.heap ∧ va_K (eD E) vwCl (tysE E) U ∧ va_D (fun _ => True) ws ∧ Zn U
def PoN (E : Ev) (out : (Nat → Nat) → va_W) (A : Nat → Prop) : (Nat → Nat) → State → Prop := fun u t => va_P (eD E) vwCl (out u) t.heap ∧ va_D A (out u)
def Rk (f kc kn n : Nat) : Room := { frames := f, cells := kc, slots := kn, locals := n }
/-- 'from world ws the constructor comes to world out u, for some addresses u' -/
def CtN (l : Launch) (E : Ev) (y : MethodName) (bytes : ByteArray) (maxL f mc ms n : Nat) (av : List Value) (ws : va_W) (out : (Nat → Nat) → va_W) : Prop :=
  ∀ sz : Nat, Met l y (.code y bytes maxL none :: gw) (Rk f mc ms n) (va_Pc av (PrN E ws sz)) (va_Qv (fun (_ : Nat → Nat) => True) (PoN E out (va_A ws sz)) (va_A ws sz)) mc ms (va_A ws sz)
def RN (X : Cx) (mc ms : Nat) (out : Ev → (Nat → Nat) → va_W) : Prop := (xM X).sig.returnType = none ∧ xQ X = MQ (xb X) (va_Qv (fun (_ : Nat → Nat) => True) (PoN (xE X) (out (xE X)) (xA X)) (xA X)) (xa X) (xs X) mc ms (xA X)
def FI (X : Cx) (cc : ByteArray) (own : String) (R : Room) : Prop := FN X cc own R ∧ Zn (xs X) ∧ (xM X).name = "<init>"
theorem n_ret {X : Cx} {cc : ByteArray} {own : String} {R : Room} {pc mc ms : Nat} {lv : List (Nat × Value)} {ws : va_W} {out : Ev → (Nat → Nat) → va_W} (F : FI X cc own R) (Rt : RN X mc ms out) (u : Nat → Nat) (hw : ws = out (xE X) u) (d : decode cc pc = .ok (.return_, 1)) : GN X mc ms ws pc lv [] := by
  intro H locs ls hP hD hS hl
  subst hw
  rw [Rt.2]
  exact W.vret F.1.1 F.1.2.1 Rt.1 (fun t ht hW => ⟨⟨u, rfl, trivial, by rw [ht]; exact hP, hD⟩, hS.F ht⟩) hS.2.2 d F.1.2.2.2.2.2.2.2.1
set_option maxHeartbeats 4000000 in
theorem ctN_of {y : MethodName} {bytes : ByteArray} {maxL f mc ms n : Nat} {av : List Value} {lv : List (Nat × Value)} {ws : Ev → va_W} {out : Ev → (Nat → Nat) → va_W} (hy : plainName y.cls = true) (hy2 : y.name = "<init>") (hlv : lv_args 0 av = lv) (hlen : (lg_sl av).length ≤ maxL)
    (body : ∀ X : Cx, FI X bytes y.cls (Rk f mc ms n) → xn X = maxL → RN X mc ms out → GN X 0 0 (ws (xE X)) 0 lv []) (l : Launch) (E : Ev) : CtN l E y bytes maxL f mc ms n av (ws E) (out E) := by
  intro sz
  refine Met.ofW (cc := bytes) (maxL := maxL) (ret := none) hy rfl ?_
  intro p e s m args below meth c s₁ B hml hv
  obtain ⟨rfl, hsz, hP, hK, hD0, hZ⟩ := hv
  subst hsz
  have hD := hD0.self (sz := s.heap.size)
  have hl := lv_entry av (n := maxL) hlen
  rw [hlv] at hl
  rw [lg_entry_eq]
  exact body (p, l, e, _, s, m, _, below, meth, c, maxL, E, va_A (ws E) s.heap.size, _) ⟨⟨B.exec, B.bytes, hml, findClass_of_methodNamed B.named, hts_gw (atoms_spec (ws := Cond.code y bytes maxL none :: gw) B.pre), hK, fun q h => Or.inr h, B.notSynchronized, rfl⟩, hZ, by rw [(name_of_methodNamed B.named B.method).1]; exact hy2⟩ rfl ⟨B.returns, rfl⟩ s.heap [] _ hP hD va_S.rf hl
theorem blindN {av : List Value} {E : Ev} {ws : va_W} {sz : Nat} : FrameBlind (va_Pc av (PrN E ws sz)) := fun a U g mk q => by
  obtain ⟨h1, hsz, hP, hK, hD, hZ⟩ := q
  exact ⟨h1, hsz, hP, va_K.moved (u := U) (U := U.calling g mk a) (Vm.Alike.refl U.vm) hK, hD, Zn.same (s := U) rfl hZ⟩
theorem pre_ofN {X : Cx} {cc : ByteArray} {own : String} {R : Room} (F : FN X cc own R) (hZ : Zn (xs X)) {ws : va_W} {H : Heap} {av : List Value} (hP : va_P (eD (xE X)) vwCl ws H) (hD : va_D (xA X) ws) : ∀ U : State, U.heap = H → (xs X).WarmedH U.vm → va_Pc av (PrN (xE X) ws H.size) av.toArray U := fun U hU hW =>
  ⟨rfl, by rw [hU], by rw [hU]; exact hP, va_K.moved hW.alike F.2.2.2.2.2.1, hD.weaken (fun _ _ _ _ => trivial), hZ.warm hW⟩
def KI (y : MethodName) (bytes : ByteArray) (maxL np : Nat) : Prop := Cond.instanceMethod y ∈ gw ∧ Cond.initialized y.cls ∈ gw ∧ Cond.code y bytes maxL none ∈ gw ∧ (y.cls ≠ "java/lang/invoke/MethodHandle" ∧ y.cls ≠ "java/lang/invoke/VarHandle" ∧ (parseMethodDescriptor y.desc).map (fun d => d.parameters.length) = some np) ∧ y.name = "<init>"
section NC
variable {X : Cx} {cc : ByteArray} {own : String} {R : Room} {kc kn : Nat} {pc : Nat} {lv : List (Nat × Value)} {y : MethodName} {bytes : ByteArray} {maxL f2 mc ms n2 np idx : Nat} {st As rest : List Value} {b : Nat} {ws : va_W} {out : (Nat → Nat) → va_W}
theorem rk_le (hR : xR X = R) (h : f2 + 1 ≤ R.frames ∧ 8 + (maxL + 11) + n2 ≤ R.locals) : (Rk f2 mc ms n2).frames + 1 ≤ (xR X).frames ∧ 8 + (maxL + 11) + (Rk f2 mc ms n2).locals ≤ (xR X).locals := by
  rw [hR]; exact h
set_option maxHeartbeats 4000000 in
theorem n_init (F : FN X cc own R) (hZ : Zn (xs X)) (hC : CtN (xl X) (xE X) y bytes maxL f2 mc ms n2 (.ref b :: As) ws out) (hk : KI y bytes maxL np) (hl : Cond.methodLink own idx y ∈ gw)
    (hn : As.length = np) (hst : st = As.reverse ++ .ref b :: rest) (hrm : f2 + 1 ≤ R.frames ∧ 8 + (maxL + 11) + n2 ≤ R.locals) (hcs : kc + mc ≤ R.cells ∧ kn + ms ≤ R.slots) (hro : (rest.map fun v => v.category).sum ≤ 8) (d : decode cc pc = .ok (.invokespecial idx, 3)) (k : ∀ u : Nat → Nat, GN X (kc + mc) (kn + ms) (out u) (pc + 3) lv rest) : GN X kc kn ws pc lv st := by
  intro H locs ls hP hD hS hl9
  subst hst
  have hFc := hFc_of F.2.2.2.2.2.2.1 hD hS
  refine va_callv (va_runI (As := As) (rest := rest) ⟨F.1, F.2.1, F.2.2.1, F.2.2.2.1, F.2.2.2.2.1⟩ (hC H.size) (cwI np F.2.2.2.2.1 (gi_cons hk.2.2.1) rfl rfl rfl (F.2.2.2.2.1 _ hk.2.1) (F.2.2.2.2.1 _ hl) (F.2.2.2.2.1 _ hk.1) hk.2.2.2.2 hk.2.2.2.1 (rk_le F.2.2.2.2.2.2.2.2 hrm)) ⟨blindN, pre_ofN F hZ hP hD⟩ rfl hn hl9.1 rfl (lv_room hro) d (by rw [F.2.2.2.2.2.2.2.2]; exact hcs)) hS (fun q _ h => hFc q h) hFc (fun u t H1 locs1 ht hvm hw hB hz1 hk1 hS1 => ?_)
  exact k u H1 locs1 ls (by rw [← ht]; exact hB.1) (hB.2.weaken (fun _ q _ h => hFc q.1 h)) hS1 hl9
set_option maxHeartbeats 4000000 in
theorem n_initN (F : FN X cc own R) (hZ : Zn (xs X)) (hC : CtN (xl X) (xE X) y bytes maxL f2 mc ms n2 (.ref b :: As) ws out) (hk : KI y bytes maxL np) (hl : (own, idx, y) ∈ nLinks)
    (hn : As.length = np) (hst : st = As.reverse ++ .ref b :: rest) (hrm : f2 + 1 ≤ R.frames ∧ 8 + (maxL + 11) + n2 ≤ R.locals) (hcs : kc + mc ≤ R.cells ∧ kn + ms ≤ R.slots) (hro : (rest.map fun v => v.category).sum ≤ 8) (d : decode cc pc = .ok (.invokespecial idx, 3)) (k : ∀ u : Nat → Nat, GN X (kc + mc) (kn + ms) (out u) (pc + 3) lv rest) : GN X kc kn ws pc lv st := by
  intro H locs ls hP hD hS hl9
  subst hst
  have hFc := hFc_of F.2.2.2.2.2.2.1 hD hS
  refine va_callv (va_runIN (As := As) (rest := rest) (host := "TowerWarns") ⟨F.1, F.2.1, F.2.2.1, F.2.2.2.1, F.2.2.2.2.1⟩ (hC H.size) ⟨va_cnB np F.2.2.2.2.1 (gi_cons hk.2.2.1) rfl rfl rfl (hZ.1 _ hl) (F.2.2.2.2.1 _ hk.2.1) hk.2.2.2.1 (rk_le F.2.2.2.2.2.2.2.2 hrm), hk.2.2.2.2, F.2.2.2.2.1 _ hk.1⟩ ⟨blindN, pre_ofN F hZ hP hD⟩ rfl hn hl9.1 rfl (lv_room hro) d (by rw [F.2.2.2.2.2.2.2.2]; exact hcs)) hS (fun q _ h => hFc q h) hFc (fun u t H1 locs1 ht hvm hw hB hz1 hk1 hS1 => ?_)
  exact k u H1 locs1 ls (by rw [← ht]; exact hB.1) (hB.2.weaken (fun _ q _ h => hFc q.1 h)) hS1 hl9
end NC
