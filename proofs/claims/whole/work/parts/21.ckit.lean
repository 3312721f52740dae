/-! ===== more rows: rows of references, Math, other calls, texts ===== -/
theorem ok_lt {i : Int32} {n : Nat} (h : ok i n) : i.toNatClampNeg < n := Nat.not_le.mp fun q => h (Or.inr q)
section CK
variable {X : Cx} {cc : ByteArray} {own : String} {f n : Nat} {ws : va_W} {pc : Nat} {lv : List (Nat × Value)} {st : List Value}
theorem g_aald {a b : Nat} {cA : ClassId} {N : Nat} {C : String} {fn : Nat → Option Nat} {i : Int32} (F : Fx X cc own f n) (q0 t0 : Nat) (ha : ws[q0]? = some (a, .inl (cA, N, .inr (.inr (.inr (.inr fn)))))) (ht : (tysE (xE X))[t0]? = some (cA, .object C)) (hin : vp_in i N) (hv : fn i.toNatClampNeg = some b) (d : decode cc pc = .ok (.aaload, 1)) (k : G X ws (pc + 1) lv (.ref b :: st)) : G X ws pc lv (.int i :: .ref a :: st) :=
  fun H locs ls hP hD hS hl => va_aldq F.1 F.2.1 F.2.2.2.2.2.1 hP q0 t0 ha ht hin d (by rw [hv]; exact k H locs ls hP hD hS hl)
theorem g_mmax {idx : Nat} {x y : Int32} (F : Fx X cc own f n) (hl0 : Cond.methodLink own idx Lib.Math.max.name ∈ gw) (h1 : Cond.static Lib.Math.max.name ∈ gw) (h2 : Cond.initialized "java/lang/Math" ∈ gw) (h3 : Cond.code Lib.Math.max.name Lib.Math.max.code 2 (some .int) ∈ gw) (hrm : 1 ≤ f ∧ 21 ≤ n) (hro : (st.map fun v => v.category).sum ≤ 8) (d : decode cc pc = .ok (.invokestatic idx, 3)) (k : G X ws (pc + 3) lv (.int (if x < y then y else x) :: st)) : G X ws pc lv (.int y :: .int x :: st) :=
  fun H locs ls hP hD hS hl => va_mmax F.1 F.2.1 (by rw [F.2.2.1, hl.1]) F.2.2.2.1 (F.2.2.2.2.1 _ hl0) (F.2.2.2.2.1 _ h1) (F.2.2.2.2.1 _ h2) (F.2.2.2.2.1 _ h3) (by rw [F.2.2.2.2.2.2.2.2.2]; exact hrm.1) (by rw [F.2.2.2.2.2.2.2.2.2]; show _ ≤ n; omega) (Nat.zero_le _) (Nat.zero_le _) d (k H locs ls hP hD hS hl)
theorem g_mmin {idx : Nat} {x y : Int32} (F : Fx X cc own f n) (hl0 : Cond.methodLink own idx Lib.Math.min.name ∈ gw) (h1 : Cond.static Lib.Math.min.name ∈ gw) (h2 : Cond.initialized "java/lang/Math" ∈ gw) (h3 : Cond.code Lib.Math.min.name Lib.Math.min.code 2 (some .int) ∈ gw) (hrm : 1 ≤ f ∧ 21 ≤ n) (hro : (st.map fun v => v.category).sum ≤ 8) (d : decode cc pc = .ok (.invokestatic idx, 3)) (k : G X ws (pc + 3) lv (.int (if y < x then y else x) :: st)) : G X ws pc lv (.int y :: .int x :: st) :=
  fun H locs ls hP hD hS hl => va_mmin F.1 F.2.1 (by rw [F.2.2.1, hl.1]) F.2.2.2.1 (F.2.2.2.2.1 _ hl0) (F.2.2.2.2.1 _ h1) (F.2.2.2.2.1 _ h2) (F.2.2.2.2.1 _ h3) (by rw [F.2.2.2.2.2.2.2.2.2]; exact hrm.1) (by rw [F.2.2.2.2.2.2.2.2.2]; show _ ≤ n; omega) (Nat.zero_le _) (Nat.zero_le _) d (k H locs ls hP hD hS hl)
theorem g_mabs {idx : Nat} {x : Int32} (F : Fx X cc own f n) (hl0 : Cond.methodLink own idx Lib.Math.abs.name ∈ gw) (h1 : Cond.static Lib.Math.abs.name ∈ gw) (h2 : Cond.initialized "java/lang/Math" ∈ gw) (h3 : Cond.code Lib.Math.abs.name Lib.Math.abs.code 1 (some .int) ∈ gw) (hrm : 1 ≤ f ∧ 21 ≤ n) (hro : (st.map fun v => v.category).sum ≤ 8) (d : decode cc pc = .ok (.invokestatic idx, 3)) (k : G X ws (pc + 3) lv (.int (if 0 ≤ x then x else 0 - x) :: st)) : G X ws pc lv (.int x :: st) :=
  fun H locs ls hP hD hS hl => va_mabs F.1 F.2.1 (by rw [F.2.2.1, hl.1]) F.2.2.2.1 (F.2.2.2.2.1 _ hl0) (F.2.2.2.2.1 _ h1) (F.2.2.2.2.1 _ h2) (F.2.2.2.2.1 _ h3) (by rw [F.2.2.2.2.2.2.2.2.2]; exact hrm.1) (by rw [F.2.2.2.2.2.2.2.2.2]; show _ ≤ n; omega) (Nat.zero_le _) (Nat.zero_le _) d (k H locs ls hP hD hS hl)
theorem g_i2c {x : Int32} (F : Fx X cc own f n) (d : decode cc pc = .ok (.i2c, 1)) (k : G X ws (pc + 1) lv (.int (x.toUInt32 % 65536).toInt32 :: st)) : G X ws pc lv (.int x :: st) :=
  fun H locs ls hP hD hS hl => lv_i2c F.1 F.2.1 d rfl (k H locs ls hP hD hS hl)
abbrev cpyOk (sp dp m : Int32) : Prop := ¬ sp < 0 ∧ ¬ dp < 0 ∧ ¬ m < 0 ∧ sp.toNatClampNeg + m.toNatClampNeg ≤ 40 ∧ dp.toNatClampNeg + m.toNatClampNeg ≤ 40
theorem g_copy {ws2 : va_W} {idx a0 a1 : Nat} {g0 g1 : Nat → Int64} {sp dp m : Int32} (F : Fx X cc own f n) (hl0 : Cond.methodLink own idx arraycopyName ∈ gw) (h1 : Cond.native arraycopyName ∈ gw) (h2 : Cond.static arraycopyName ∈ gw) (h3 : Cond.initialized "java/lang/System" ∈ gw) (q0 q1 : Nat) (ha0 : ws[q0]? = some (a0, .inl (eA (xE X) 1, 40, .inr (.inl g0)))) (ha1 : ws[q1]? = some (a1, .inl (eA (xE X) 1, 40, .inr (.inl g1)))) (hok : cpyOk sp dp m)
    (hw : ws.set q1 (a1, .inl (eA (xE X) 1, 40, .inr (.inl (va_cpy g0 g1 sp.toNatClampNeg dp.toNatClampNeg m.toNatClampNeg)))) = ws2) (hrm : 1 ≤ f ∧ 8 + (nativeFrameWords "java/lang/System" "arraycopy" 5 + 11) ≤ n) (hro : (st.map fun v => v.category).sum ≤ 8) (d : decode cc pc = .ok (.invokestatic idx, 3)) (k : G X ws2 (pc + 3) lv st) : G X ws pc lv (.int m :: .int dp :: .ref a1 :: .int sp :: .ref a0 :: st) :=
  fun H locs ls hP hD hS hl => va_copyl F.1 F.2.1 (by rw [F.2.2.1, hl.1]) F.2.2.2.1 (F.2.2.2.2.1 _ hl0) (F.2.2.2.2.1 _ h1) (F.2.2.2.2.1 _ h2) (F.2.2.2.2.1 _ h3) F.2.2.2.2.2.1 hP hD hS q0 q1 1 1 ha0 ha1 rfl rfl (by decide) hok.1 hok.2.1 hok.2.2.1 hok.2.2.2.1 hok.2.2.2.2 (fun _ _ => rfl) (by rw [F.2.2.2.2.2.2.2.2.2]; exact hrm.1) (by rw [F.2.2.2.2.2.2.2.2.2]; have := hrm.2; show _ ≤ n; omega) d (fun H1 locs1 hP1 hD1 hS1 => k H1 locs1 ls (by rw [← hw]; exact hP1) (by rw [← hw]; exact hD1) hS1 hl)
/-! texts -/
theorem g_ldcS {idx : Nat} {tx : String} {i : Nat} (F : Fx X cc own f n) (hq : (own, idx, tx, i) ∈ sRefs) (d : decode cc pc = .ok (.ldc idx, 2)) (k : G X ws (pc + 2) lv (.ref (eK (xE X) i) :: st)) : G X ws pc lv st :=
  fun H locs ls hP hD hS hl => va_ldcS F.1 F.2.1 F.2.2.2.1 (F.2.2.2.2.2.2.2.2.1.2.2.2.2 _ hq) d (k H locs ls hP hD hS hl)
theorem g_sval {idx i : Nat} (F : Fx X cc own f n) (hi : i < 11) (hl0 : Cond.fieldLink own idx "java/lang/String" "value" "[B" ∈ gw) (d : decode cc pc = .ok (.getfield idx, 3)) (k : G X ws (pc + 3) lv (.ref (eV (xE X) i) :: st)) : G X ws pc lv (.ref (eK (xE X) i) :: st) :=
  fun H locs ls hP hD hS hl => vk_getf F.1 F.2.1 (F.2.2.2.2.2.2.2.2.1.2.2.1.1 i hi).2.2.1 hS F.2.2.2.1 (F.2.2.2.2.1 _ hl0) (fun _ h => h) d (k H locs ls hP hD hS hl)
theorem g_scod {idx i : Nat} (F : Fx X cc own f n) (hi : i < 11) (hl0 : Cond.fieldLink own idx "java/lang/String" "coder" "B" ∈ gw) (d : decode cc pc = .ok (.getfield idx, 3)) (k : G X ws (pc + 3) lv (.int 0 :: st)) : G X ws pc lv (.ref (eK (xE X) i) :: st) :=
  fun H locs ls hP hD hS hl => vk_getf F.1 F.2.1 (F.2.2.2.2.2.2.2.2.1.2.2.1.1 i hi).2.1 hS F.2.2.2.1 (F.2.2.2.2.1 _ hl0) (fun _ h => h) d (k H locs ls hP hD hS hl)
theorem g_sln {i : Nat} (F : Fx X cc own f n) (hi : i < 11) (d : decode cc pc = .ok (.arraylength, 1)) (k : G X ws (pc + 1) lv (.int (nI (sLen.getD i 0)) :: st)) : G X ws pc lv (.ref (eV (xE X) i) :: st) :=
  fun H locs ls hP hD hS hl => va_tlen F.1 F.2.1 (F.2.2.2.2.2.2.2.2.1.2.2.1.1 i hi).2.2.2 hS rfl d (k H locs ls hP hD hS hl)
theorem g_sba {i : Nat} {j : Int32} (F : Fx X cc own f n) (hi : i < 11) (hin : vp_in j (sLen.getD i 0)) (d : decode cc pc = .ok (.baload, 1)) (k : G X ws (pc + 1) lv (.int ((sByt.getD i []).getD j.toNatClampNeg 0) :: st)) : G X ws pc lv (.int j :: .ref (eV (xE X) i) :: st) :=
  fun H locs ls hP hD hS hl => va_tb F.1 F.2.1 (F.2.2.2.2.2.2.2.2.1.2.2.1.1 i hi).2.2.2 hS hin rfl d (k H locs ls hP hD hS hl)
theorem g_compact {idx : Nat} (F : Fx X cc own f n) (hl0 : Cond.fieldLink own idx "java/lang/String" "COMPACT_STRINGS" "Z" ∈ gw) (d : decode cc pc = .ok (.getstatic idx, 3)) (k : G X ws (pc + 3) lv (.int 1 :: st)) : G X ws pc lv st :=
  fun H locs ls hP hD hS hl => va_gets F.1 F.2.1 F.2.2.2.2.2.2.2.2.1.2.2.2.1.1 hS F.2.2.2.1 (F.2.2.2.2.1 _ hl0) (fun _ h => h) d (k H locs ls hP hD hS hl)
theorem g_sioobe {idx : Nat} (F : Fx X cc own f n) (hl0 : Cond.fieldLink own idx "jdk/internal/util/Preconditions" "SIOOBE_FORMATTER" "Ljava/util/function/BiFunction;" ∈ gw) (d : decode cc pc = .ok (.getstatic idx, 3)) (k0 : G X ws (pc + 3) lv (.null :: st)) (k1 : ∀ t : Nat, G X ws (pc + 3) lv (.ref t :: st)) : G X ws pc lv st :=
  fun H locs ls hP hD hS hl => by
    rcases F.2.2.2.2.2.2.2.2.1.2.2.2.1.2 with h | ⟨t, h⟩
    · exact va_gets F.1 F.2.1 h hS F.2.2.2.1 (F.2.2.2.2.1 _ hl0) (fun _ h => h) d (k0 H locs ls hP hD hS hl)
    · exact va_gets F.1 F.2.1 h hS F.2.2.2.1 (F.2.2.2.2.1 _ hl0) (fun _ h => h) d (k1 t H locs ls hP hD hS hl)
end CK
/-- a contract that answers a reference -/
def CtR (l : Launch) (E : Ev) (Wf : Mem → va_W) (y : MethodName) (bytes : ByteArray) (maxL : Nat) (rt : String) (f n : Nat) (av : List Value) (M : Mem) (a : Nat) : Prop :=
  ∀ sz : Nat, Met l y (.code y bytes maxL (some (.object rt)) :: gw) (Rm f n) (va_Pc av (Pr E (Wf M) sz)) (va_Qr (fun (u : Mem) => u = M) (fun u ra t => ra = a ∧ Po E Wf (va_A (Wf M) sz) u t) (va_A (Wf M) sz)) 0 0 (va_A (Wf M) sz)
def RR (X : Cx) (Wf : Ev → Mem → va_W) (rt : String) (a : Nat) (M : Mem) : Prop := (xM X).sig.returnType = some (.object rt) ∧ xQ X = MQ (xb X) (va_Qr (fun (u : Mem) => u = M) (fun u ra t => ra = a ∧ Po (xE X) (Wf (xE X)) (xA X) u t) (xA X)) (xa X) (xs X) 0 0 (xA X)
theorem g_aret {X : Cx} {cc : ByteArray} {own : String} {f n pc : Nat} {lv : List (Nat × Value)} {Wf : Ev → Mem → va_W} {rt : String} {a : Nat} {M : Mem} (F : Fx X cc own f n) (Rt : RR X Wf rt a M) (d : decode cc pc = .ok (.areturn, 1)) : G X (Wf (xE X) M) pc lv [.ref a] := by
  intro H locs ls hP hD hS hl
  rw [Rt.2]
  exact W.aret F.1 F.2.1 Rt.1 (Or.inl ⟨_, rfl⟩) (Or.inr ⟨_, rfl⟩) (fun t ht hW => ⟨⟨M, a, rfl, rfl, rfl, by rw [ht]; exact hP, hD⟩, hS.F ht⟩) hS.2.2 d F.2.2.2.2.2.2.2.1
set_option maxHeartbeats 4000000 in
theorem ctR_of {Wf : Ev → Mem → va_W} {y : MethodName} {bytes : ByteArray} {maxL : Nat} {rt : String} {f n : Nat} {av : Ev → List Value} {lv : Ev → List (Nat × Value)} {M : Mem} {a : Ev → Nat} (hy : plainName y.cls = true) (hlv : ∀ E, lv_args 0 (av E) = lv E) (hlen : ∀ E, (lg_sl (av E)).length ≤ maxL)
    (body : ∀ X : Cx, Fx X bytes y.cls f n → xn X = maxL → RR X Wf rt (a (xE X)) M → G X (Wf (xE X) M) 0 (lv (xE X)) []) (l : Launch) (E : Ev) : CtR l E (Wf E) y bytes maxL rt f n (av E) M (a E) := by
  intro sz
  refine Met.ofW (cc := bytes) (maxL := maxL) (ret := some (.object rt)) hy rfl ?_
  intro p e s m args below meth c s₁ B hml hv
  obtain ⟨rfl, hsz, hP, hK, hD0, hZ⟩ := hv
  subst hsz
  have hD := hD0.self (sz := s.heap.size)
  have hl := lv_entry (av E) (n := maxL) (hlen E)
  rw [hlv E] at hl
  rw [lg_entry_eq]
  exact body (p, l, e, _, s, m, _, below, meth, c, maxL, E, va_A (Wf E M) s.heap.size, _) ⟨B.exec, B.bytes, hml, findClass_of_methodNamed B.named, hts_gw (atoms_spec (ws := Cond.code y bytes maxL (some (.object rt)) :: gw) B.pre), hK, fun q h => Or.inr h, B.notSynchronized, hZ, rfl⟩ rfl ⟨B.returns, rfl⟩ s.heap [] _ hP hD va_S.rf hl
section CR2
variable {X : Cx} {cc : ByteArray} {own : String} {f n : Nat} {pc : Nat} {lv : List (Nat × Value)} {Wf : Ev → Mem → va_W} {x y : MethodName} {bytes b0 : ByteArray} {maxL m0 f2 n2 np idx : Nat} {r0 : Option FieldType} {ret : FieldType} {M M2 : Mem} {st As rest : List Value} {b : Nat}
/-- a method of a kind's, picked by what the receiver is -/
def KU (C : String) (x y : MethodName) (bytes : ByteArray) (maxL : Nat) (ret : Option FieldType) (np : Nat) (b0 : ByteArray) (m0 : Nat) (r0 : Option FieldType) : Prop := Cond.sameMethod x.cls x.cls x.name x.desc ∈ gw ∧ Cond.instanceMethod x ∈ gw ∧ Cond.selects C x y ∈ gw ∧ Cond.instanceMethod y ∈ gw ∧ Cond.initialized y.cls ∈ gw ∧ Cond.code y bytes maxL ret ∈ gw ∧ Cond.code x b0 m0 r0 ∈ gw ∧ x.cls ≠ "java/lang/invoke/MethodHandle" ∧ x.cls ≠ "java/lang/invoke/VarHandle" ∧ (parseMethodDescriptor x.desc).map (fun d => d.parameters.length) = some np
theorem gi_O {C : String} {ret : Option FieldType} (hk : KU C x y bytes maxL ret np b0 m0 r0) (hl : Cond.methodLink own idx x ∈ gw) : GoodIn gw (va_wsO own idx C x.cls x y (.code y bytes maxL ret :: gw)) := by
  refine gi_app (fun w hw => ?_) (gi_cons hk.2.2.2.2.2.1)
  simp only [List.mem_cons, List.not_mem_nil, or_false] at hw
  rcases hw with rfl | rfl | rfl | rfl | rfl | rfl
  · exact hl
  · exact hk.1
  · exact hk.2.1
  · exact hk.2.2.1
  · exact hk.2.2.2.1
  · exact hk.2.2.2.2.1
set_option maxHeartbeats 4000000 in
theorem g_uI {r : Int32} (F : Fx X cc own f n) (hC : CtI (xl X) (xE X) (Wf (xE X)) y bytes maxL ret f2 n2 (.ref b :: As) M r M2) {ci : Nat} {C : vw_C} (hk : KU C.1 x y bytes maxL (some ret) np b0 m0 r0) (hl : Cond.methodLink own idx x ∈ gw) (q0 : Nat) {fs : List Value} (hc : vwCl[ci]? = some C) (he : (Wf (xE X) M)[q0]? = some (b, .inr (ci, fs)))
    (hn : As.length = np) (hst : st = As.reverse ++ .ref b :: rest) (hrm : f2 + 1 ≤ f ∧ 8 + (maxL + 11) + n2 ≤ n) (hro : (rest.map fun v => v.category).sum ≤ 8) (d : decode cc pc = .ok (.invokevirtual idx, 3)) (k : G X (Wf (xE X) M2) (pc + 3) lv (.int r :: rest)) : G X (Wf (xE X) M) pc lv st := by
  intro H locs ls hP hD hS hl9
  subst hst
  have hFc := hFc_of F.2.2.2.2.2.2.1 hD hS
  have hrec := va_recv F.2.2.2.2.2.1 hP hc he
  refine va_calli (va_runU (As := As) (rest := rest) ⟨F.1, F.2.1, F.2.2.1, F.2.2.2.1, F.2.2.2.2.1⟩ (hC H.size) (va_cwO np F.2.2.2.2.1 (gi_O hk hl) rfl rfl rfl hk.2.2.2.2.2.2.1 hk.2.2.2.2.2.2.2 (rm_le F.2.2.2.2.2.2.2.2.2 hrm)) ⟨blind, hrec, pre_of F hP hD hS⟩ rfl hn hl9.1 rfl (lv_room hro) d (rm_cs F.2.2.2.2.2.2.2.2.2)) hS (fun q _ h => hFc q h) hFc (fun r' u t H1 locs1 ht hvm hw hB hz1 hk1 hS1 => ?_)
  obtain ⟨rfl, rfl⟩ := hw
  exact k H1 locs1 ls (by rw [← ht]; exact hB.1) (hB.2.weaken (fun _ q _ h => hFc q.1 h)) hS1 hl9
set_option maxHeartbeats 4000000 in
theorem g_uR {rt : String} {a : Nat} (F : Fx X cc own f n) (hC : CtR (xl X) (xE X) (Wf (xE X)) y bytes maxL rt f2 n2 (.ref b :: As) M a) {ci : Nat} {C : vw_C} (hk : KU C.1 x y bytes maxL (some (.object rt)) np b0 m0 r0) (hl : Cond.methodLink own idx x ∈ gw) (q0 : Nat) {fs : List Value} (hc : vwCl[ci]? = some C) (he : (Wf (xE X) M)[q0]? = some (b, .inr (ci, fs)))
    (hn : As.length = np) (hst : st = As.reverse ++ .ref b :: rest) (hrm : f2 + 1 ≤ f ∧ 8 + (maxL + 11) + n2 ≤ n) (hro : (rest.map fun v => v.category).sum ≤ 8) (d : decode cc pc = .ok (.invokevirtual idx, 3)) (k : G X (Wf (xE X) M) (pc + 3) lv (.ref a :: rest)) : G X (Wf (xE X) M) pc lv st := by
  intro H locs ls hP hD hS hl9
  subst hst
  have hFc := hFc_of F.2.2.2.2.2.2.1 hD hS
  have hrec := va_recv F.2.2.2.2.2.1 hP hc he
  refine va_callr (va_runU (As := As) (rest := rest) ⟨F.1, F.2.1, F.2.2.1, F.2.2.2.1, F.2.2.2.2.1⟩ (hC H.size) (va_cwO np F.2.2.2.2.1 (gi_O hk hl) rfl rfl rfl hk.2.2.2.2.2.2.1 hk.2.2.2.2.2.2.2 (rm_le F.2.2.2.2.2.2.2.2.2 hrm)) ⟨blind, hrec, pre_of F hP hD hS⟩ rfl hn hl9.1 rfl (lv_room hro) d (rm_cs F.2.2.2.2.2.2.2.2.2)) hS (fun q _ h => hFc q h) hFc (fun u ra t H1 locs1 ht hvm hw hB hz1 hk1 hS1 => ?_)
  obtain rfl := hw
  obtain ⟨rfl, hB⟩ := hB
  exact k H1 locs1 ls (by rw [← ht]; exact hB.1) (hB.2.weaken (fun _ q _ h => hFc q.1 h)) hS1 hl9
/-- super -/
def KZ (own : String) (idx : Nat) (y : MethodName) (bytes : ByteArray) (maxL : Nat) (ret : Option FieldType) (np : Nat) : Prop := Cond.methodLink own idx y ∈ gw ∧ Cond.sameMethod y.cls y.cls y.name y.desc ∈ gw ∧ Cond.superclass own y.cls ∈ gw ∧ Cond.instanceMethod y ∈ gw ∧ Cond.initialized y.cls ∈ gw ∧ Cond.code y bytes maxL ret ∈ gw ∧ y.name ≠ "<init>" ∧ (parseMethodDescriptor y.desc).map (fun d => d.parameters.length) = some np
theorem gi_Z {ret : Option FieldType} (hk : KZ own idx y bytes maxL ret np) : GoodIn gw (va_wsSU own idx y (.code y bytes maxL ret :: gw)) := by
  refine gi_app (fun w hw => ?_) (gi_cons hk.2.2.2.2.2.1)
  simp only [List.mem_cons, List.not_mem_nil, or_false] at hw
  rcases hw with rfl | rfl | rfl | rfl | rfl
  · exact hk.1
  · exact hk.2.1
  · exact hk.2.2.1
  · exact hk.2.2.2.1
  · exact hk.2.2.2.2.1
set_option maxHeartbeats 4000000 in
theorem g_zI {r : Int32} (F : Fx X cc own f n) (hC : CtI (xl X) (xE X) (Wf (xE X)) y bytes maxL ret f2 n2 (.ref b :: As) M r M2) (hk : KZ own idx y bytes maxL (some ret) np) {ci : Nat} {C : vw_C} (q0 : Nat) {fs : List Value} (hc : vwCl[ci]? = some C) (he : (Wf (xE X) M)[q0]? = some (b, .inr (ci, fs)))
    (hn : As.length = np) (hst : st = As.reverse ++ .ref b :: rest) (hrm : f2 + 1 ≤ f ∧ 8 + (maxL + 11) + n2 ≤ n) (hro : (rest.map fun v => v.category).sum ≤ 8) (d : decode cc pc = .ok (.invokespecial idx, 3)) (k : G X (Wf (xE X) M2) (pc + 3) lv (.int r :: rest)) : G X (Wf (xE X) M) pc lv st := by
  intro H locs ls hP hD hS hl9
  subst hst
  have hFc := hFc_of F.2.2.2.2.2.2.1 hD hS
  have hrec := va_recv F.2.2.2.2.2.1 hP hc he
  refine va_calli (va_runSU (As := As) (rest := rest) (F.2.2.2.2.2.1.1 ci C hc).2 ⟨F.1, F.2.1, F.2.2.1, F.2.2.2.1, F.2.2.2.2.1⟩ (hC H.size) (va_cwSU np F.2.2.2.2.1 (gi_Z hk) rfl rfl rfl hk.2.2.2.2.2.2 (rm_le F.2.2.2.2.2.2.2.2.2 hrm)) ⟨blind, hrec, pre_of F hP hD hS⟩ rfl hn hl9.1 rfl (lv_room hro) d (rm_cs F.2.2.2.2.2.2.2.2.2)) hS (fun q _ h => hFc q h) hFc (fun r' u t H1 locs1 ht hvm hw hB hz1 hk1 hS1 => ?_)
  obtain ⟨rfl, rfl⟩ := hw
  exact k H1 locs1 ls (by rw [← ht]; exact hB.1) (hB.2.weaken (fun _ q _ h => hFc q.1 h)) hS1 hl9
set_option maxHeartbeats 4000000 in
/-- a private static method of a nest mate -/
theorem g_nI {r : Int32} {host : String} (F : Fx X cc own f n) (hC : CtI (xl X) (xE X) (Wf (xE X)) y bytes maxL ret f2 n2 As M r M2) (hk : KS y bytes maxL (some ret) np) (hl : va_Nw (.methodLinkNest own idx y host) (xs X))
    (hn : As.length = np) (hst : st = As.reverse ++ rest) (hrm : f2 + 1 ≤ f ∧ 8 + (maxL + 11) + n2 ≤ n) (hro : (rest.map fun v => v.category).sum ≤ 8) (d : decode cc pc = .ok (.invokestatic idx, 3)) (k : G X (Wf (xE X) M2) (pc + 3) lv (.int r :: rest)) : G X (Wf (xE X) M) pc lv st := by
  intro H locs ls hP hD hS hl9
  subst hst
  have hFc := hFc_of F.2.2.2.2.2.2.1 hD hS
  refine va_calli (va_runSN (As := As) (rest := rest) ⟨F.1, F.2.1, F.2.2.1, F.2.2.2.1, F.2.2.2.2.1⟩ (hC H.size) ⟨va_cnB np F.2.2.2.2.1 (gi_cons hk.2.2.1) rfl rfl rfl hl (F.2.2.2.2.1 _ hk.2.1) hk.2.2.2 (rm_le F.2.2.2.2.2.2.2.2.2 hrm), F.2.2.2.2.1 _ hk.1, trivial⟩ ⟨blind, pre_of F hP hD hS⟩ rfl hn hl9.1 rfl (lv_room hro) d (rm_cs F.2.2.2.2.2.2.2.2.2)) hS (fun q _ h => hFc q h) hFc (fun r' u t H1 locs1 ht hvm hw hB hz1 hk1 hS1 => ?_)
  obtain ⟨rfl, rfl⟩ := hw
  exact k H1 locs1 ls (by rw [← ht]; exact hB.1) (hB.2.weaken (fun _ q _ h => hFc q.1 h)) hS1 hl9
set_option maxHeartbeats 4000000 in
/-- a method of a text -/
theorem g_tI {r : Int32} {i : Nat} (F : Fx X cc own f n) (hi : i < 11) (hC : CtI (xl X) (xE X) (Wf (xE X)) y bytes maxL ret f2 n2 (.ref (eK (xE X) i) :: As) M r M2) (hk : KV y bytes maxL (some ret) np) (hl : Cond.methodLink own idx y ∈ gw) (hcl : "java/lang/String" = y.cls)
    (hn : As.length = np) (hst : st = As.reverse ++ .ref (eK (xE X) i) :: rest) (hrm : f2 + 1 ≤ f ∧ 8 + (maxL + 11) + n2 ≤ n) (hro : (rest.map fun v => v.category).sum ≤ 8) (d : decode cc pc = .ok (.invokevirtual idx, 3)) (k : G X (Wf (xE X) M2) (pc + 3) lv (.int r :: rest)) : G X (Wf (xE X) M) pc lv st := by
  intro H locs ls hP hD hS hl9
  subst hst
  have hFc := hFc_of F.2.2.2.2.2.2.1 hD hS
  have hrec := vk_recv F.2.2.2.2.2.2.2.2.1.2.2.1 hi hS
  rw [hcl] at hrec
  refine va_calli (va_runV (As := As) (rest := rest) ⟨F.1, F.2.1, F.2.2.1, F.2.2.2.1, F.2.2.2.2.1⟩ (hC H.size) (cwV np F.2.2.2.2.1 (gi_V hk hl) rfl rfl rfl ⟨rfl, hk.2.2.2.2⟩ (rm_le F.2.2.2.2.2.2.2.2.2 hrm)) ⟨blind, hrec, pre_of F hP hD hS⟩ rfl hn hl9.1 rfl (lv_room hro) d (rm_cs F.2.2.2.2.2.2.2.2.2)) hS (fun q _ h => hFc q h) hFc (fun r' u t H1 locs1 ht hvm hw hB hz1 hk1 hS1 => ?_)
  obtain ⟨rfl, rfl⟩ := hw
  exact k H1 locs1 ls (by rw [← ht]; exact hB.1) (hB.2.weaken (fun _ q _ h => hFc q.1 h)) hS1 hl9
set_option maxHeartbeats 4000000 in
theorem g_sV (F : Fx X cc own f n) (hC : CtV (xl X) (xE X) (Wf (xE X)) y bytes maxL f2 n2 As M M2) (hk : KS y bytes maxL none np) (hl : Cond.methodLink own idx y ∈ gw)
    (hn : As.length = np) (hst : st = As.reverse ++ rest) (hrm : f2 + 1 ≤ f ∧ 8 + (maxL + 11) + n2 ≤ n) (hro : (rest.map fun v => v.category).sum ≤ 8) (d : decode cc pc = .ok (.invokestatic idx, 3)) (k : G X (Wf (xE X) M2) (pc + 3) lv rest) : G X (Wf (xE X) M) pc lv st := by
  intro H locs ls hP hD hS hl9
  subst hst
  have hFc := hFc_of F.2.2.2.2.2.2.1 hD hS
  refine va_callv (va_runS (As := As) (rest := rest) ⟨F.1, F.2.1, F.2.2.1, F.2.2.2.1, F.2.2.2.2.1⟩ (hC H.size) (cb_S F hk hl hrm) ⟨blind, pre_of F hP hD hS⟩ rfl hn hl9.1 rfl (lv_room hro) d (rm_cs F.2.2.2.2.2.2.2.2.2)) hS (fun q _ h => hFc q h) hFc (fun u t H1 locs1 ht hvm hw hB hz1 hk1 hS1 => ?_)
  obtain rfl := hw
  exact k H1 locs1 ls (by rw [← ht]; exact hB.1) (hB.2.weaken (fun _ q _ h => hFc q.1 h)) hS1 hl9
end CR2
