/-! ===== worlds side by side ===== -/
section WW
variable {D : va_G} {cl : List vw_C} {A : Nat → Prop} {a b : va_W} {H H1 : Heap}
theorem g_l {k : Nat} {q : Nat × va_E} (h : a[k]? = some q) : (a ++ b)[k]? = some q := by
  rw [List.getElem?_append_left (List.getElem?_eq_some_iff.mp h).1]; exact h
theorem g_r {k : Nat} {q : Nat × va_E} (h : b[k]? = some q) : (a ++ b)[a.length + k]? = some q := by
  rw [List.getElem?_append_right (Nat.le_add_right _ _), Nat.add_sub_cancel_left]; exact h
theorem P_l (h : va_P D cl (a ++ b) H) : va_P D cl a H := fun k q hk => h k q (g_l hk)
theorem P_r (h : va_P D cl (a ++ b) H) : va_P D cl b H := fun k q hk => h _ q (g_r hk)
theorem D_l (h : va_D A (a ++ b)) : va_D A a := ⟨fun i j p q hi hj e => h.1 i j p q (g_l hi) (g_l hj) e, fun k q hk => h.2 k q (g_l hk)⟩
theorem D_r (h : va_D A (a ++ b)) : va_D A b := ⟨fun i j p q hi hj e => by have := h.1 _ _ p q (g_r (a := a) hi) (g_r (a := a) hj) e; omega, fun k q hk => h.2 _ q (g_r hk)⟩
theorem join_app {w1 : va_W} (hP : va_P D cl (a ++ b) H) (hD : va_D A (a ++ b)) (hk : ∀ q : Nat, q < H.size → ¬ va_A a H.size q → H1[q]? = H[q]?) (hF : ∀ q, va_A a H.size q → A q) (hP1 : va_P D cl w1 H1) (hD1 : va_D (va_A a H.size) w1) : va_P D cl (b ++ w1) H1 ∧ va_D A (b ++ w1) := by
  have apart : ∀ (k : Nat) (q : Nat × va_E), b[k]? = some q → q.1 < H.size ∧ ¬ va_A a H.size q.1 := by
    intro k q hq
    have hl := (hP _ q (g_r hq)).lt
    refine ⟨hl, fun h => ?_⟩
    rcases h with ⟨k2, e, h⟩ | h
    · have h5 := hD.1 _ _ q (q.1, e) (g_r hq) (g_l h) rfl
      have h6 : k2 < a.length := (List.getElem?_eq_some_iff.mp h).1
      omega
    · omega
  refine ⟨va_P.app (fun k q hq => ?_) hP1, va_D.app (D_r hD) (hD1.weaken (fun k q _ h => hF q.1 h)) (fun i j x y hx hy hxy => ?_)⟩
  · obtain ⟨g1, g2⟩ := apart k q hq
    exact (hP _ q (g_r hq)).kept (hk q.1 g1 g2)
  · exact (apart i x hx).2 (by rw [hxy]; exact hD1.2 j y hy)
end WW
/-! ===== the law's rows ===== -/
def LawF (X : Cx) (b L : Nat) (ys : Nat → Int32) : Prop := FN X cL_law RL room_1 ∧ xn X = 4 ∧ (va_X b L ys (xs X) (xs X).heap ∧ b < (xs X).heap.size ∧ ¬ xA X b ∧ L ≤ 3072) ∧ Zx (xE X) (xA X) (xs X) (xs X).heap
abbrev lvL (X : Cx) (b i : Nat) : List (Nat × Value) := [(0, .ref b), (1, .ref (ec (xE X) 0)), (2, .ref (em (xE X) 0)), (3, .int (nI i))]
section LR
variable {X : Cx} {kc kn : Nat} {ws : va_W} {pc : Nat} {lv : List (Nat × Value)} {st : List Value} {b L i : Nat} {ys : Nat → Int32}
theorem n_sld {z : Int32} {j : Nat} (F : LawF X b L ys) (hin : vp_in z L) (hj : z.toNatClampNeg = j) (d : decode cL_law pc = .ok (.iaload, 1)) (k : GN X kc kn ws (pc + 1) lv (.int (ys j) :: st)) : GN X kc kn ws pc lv (.int z :: .ref b :: st) :=
  fun H locs ls hP hD hS hl => va_sld F.1.1 F.1.2.1 F.2.2.1.1 F.2.2.1.2.1 F.2.2.1.2.2.1 hS hin d (by rw [hj]; exact k H locs ls hP hD hS hl)
theorem n_slen (F : LawF X b L ys) (d : decode cL_law pc = .ok (.arraylength, 1)) (k : GN X kc kn ws (pc + 1) lv (.int (nI L) :: st)) : GN X kc kn ws pc lv (.ref b :: st) :=
  fun H locs ls hP hD hS hl => va_slen F.1.1 F.1.2.1 F.2.2.1.1 F.2.2.1.2.1 F.2.2.1.2.2.1 hS d (k H locs ls hP hD hS hl)
/-- a number of the script, from the call's place -/
theorem n_arg {a : Nat} {z : Int} (F : LawF X b L ys) (ha : i + a < L) (hz : Int32.ofInt z = nI a) (d0 : decode cL_law pc = .ok (.aload_n 0, 1)) (d1 : decode cL_law (pc + 1) = .ok (.iload_n 3, 1)) (d2 : decode cL_law (pc + 2) = .ok (.iconst z, 1)) (d3 : decode cL_law (pc + 3) = .ok (.iadd, 1)) (d4 : decode cL_law (pc + 4) = .ok (.iaload, 1)) (k : GN X kc kn ws (pc + 5) (lvL X b i) (.int (ys (i + a)) :: st)) : GN X kc kn ws pc (lvL X b i) st := by
  have hL := F.2.2.1.2.2.2
  refine n_aload_n F.1 d0 rfl 0 rfl ?_
  refine n_iload_n F.1 d1 rfl 3 rfl ?_
  refine n_iconst (v := nI a) F.1 d2 hz ?_
  refine n_iadd F.1 d3 ?_
  rw [nI_add]
  exact n_sld F (vp_in_nI ha (by omega)) (nI_clamp (by omega)) d4 k
theorem pre_ofL (F : LawF X b L ys) {H : Heap} {locs : List Loc} {av : List Value} (hP : va_P (eD (xE X)) vwCl ws H) (hD : va_D (xA X) ws) (hS : va_S (xA X) (xs X).heap H locs) : ∀ U : State, U.heap = H → (xs X).WarmedH U.vm → va_Pc av (Pr (xE X) ws H.size) av.toArray U := fun U hU hW =>
  ⟨rfl, by rw [hU], by rw [hU]; exact hP, va_K.moved hW.alike F.1.2.2.2.2.2.1, hD.weaken (fun _ _ _ _ => trivial), by rw [hU]; exact ((F.2.2.2.kept hS.2.1).narrow (hFc_of F.1.2.2.2.2.2.2.1 hD hS)).warm hW⟩
theorem rl_le {f2 n2 maxL : Nat} (hR : xR X = room_1) (h : f2 + 1 ≤ room_1.frames ∧ 8 + (maxL + 11) + n2 ≤ room_1.locals) : (Rm f2 n2).frames + 1 ≤ (xR X).frames ∧ 8 + (maxL + 11) + (Rm f2 n2).locals ≤ (xR X).locals := by
  rw [hR]; exact h
set_option maxHeartbeats 4000000 in
theorem n_callI {Wf : Mem → va_W} {wr : va_W} {y : MethodName} {bytes : ByteArray} {maxL f2 n2 np idx a : Nat} {ret : FieldType} {M M2 : Mem} {As rest : List Value} {r : Int32} (F : LawF X b L ys) (hC : CtI (xl X) (xE X) Wf y bytes maxL ret f2 n2 (.ref a :: As) M r M2) (hk : KV y bytes maxL (some ret) np) (hl : Cond.methodLink RL idx y ∈ gw) {ci : Nat} {C : vw_C} (q0 : Nat) {fs : List Value} (hc : vwCl[ci]? = some C) (he : (Wf M)[q0]? = some (a, .inr (ci, fs))) (hcl : C.1 = y.cls)
    (hn : As.length = np) (hst : st = As.reverse ++ .ref a :: rest) (hrm : f2 + 1 ≤ room_1.frames ∧ 8 + (maxL + 11) + n2 ≤ room_1.locals) (hcs : kc ≤ room_1.cells ∧ kn ≤ room_1.slots) (hro : (rest.map fun v => v.category).sum ≤ 8) (d : decode cL_law pc = .ok (.invokevirtual idx, 3)) (k : GN X kc kn (wr ++ Wf M2) (pc + 3) lv (.int r :: rest)) : GN X kc kn (Wf M ++ wr) pc lv st := by
  intro H locs ls hP hD hS hl9
  subst hst
  have hPc := P_l hP
  have hDc := D_l hD
  have F1 := F.1
  have hFc := hFc_of F1.2.2.2.2.2.2.1 hDc hS
  have hrec := va_recv F1.2.2.2.2.2.1 hPc hc he
  rw [hcl] at hrec
  refine va_calli (va_runV (As := As) (rest := rest) ⟨F1.1, F1.2.1, F1.2.2.1, F1.2.2.2.1, F1.2.2.2.2.1⟩ (hC H.size) (cwV np F1.2.2.2.2.1 (gi_V hk hl) rfl rfl rfl ⟨rfl, hk.2.2.2.2⟩ (rl_le F1.2.2.2.2.2.2.2.2 hrm)) ⟨blind, hrec, pre_ofL F hPc hDc hS⟩ rfl hn hl9.1 rfl (lv_room hro) d (by rw [F1.2.2.2.2.2.2.2.2]; exact hcs)) hS (fun q _ h => hFc q h) hFc (fun r' u t H1 locs1 ht hvm hw hB hz1 hk1 hS1 => ?_)
  obtain ⟨rfl, rfl⟩ := hw
  obtain ⟨hP2, hD2⟩ := join_app hP hD hk1 hFc (by rw [← ht]; exact hB.1) hB.2
  exact k H1 locs1 ls hP2 hD2 hS1 hl9
set_option maxHeartbeats 4000000 in
theorem n_callL {Wf : Mem → va_W} {wr : va_W} {y : MethodName} {bytes : ByteArray} {maxL f2 n2 np idx a : Nat} {M M2 : Mem} {As rest : List Value} {r : Int64} (F : LawF X b L ys) (hC : CtL (xl X) (xE X) Wf y bytes maxL f2 n2 (.ref a :: As) M r M2) (hk : KV y bytes maxL (some .long) np) (hl : Cond.methodLink RL idx y ∈ gw) {ci : Nat} {C : vw_C} (q0 : Nat) {fs : List Value} (hc : vwCl[ci]? = some C) (he : (Wf M)[q0]? = some (a, .inr (ci, fs))) (hcl : C.1 = y.cls)
    (hn : As.length = np) (hst : st = As.reverse ++ .ref a :: rest) (hrm : f2 + 1 ≤ room_1.frames ∧ 8 + (maxL + 11) + n2 ≤ room_1.locals) (hcs : kc ≤ room_1.cells ∧ kn ≤ room_1.slots) (hro : (rest.map fun v => v.category).sum ≤ 8) (d : decode cL_law pc = .ok (.invokevirtual idx, 3)) (k : GN X kc kn (wr ++ Wf M2) (pc + 3) lv (.long r :: rest)) : GN X kc kn (Wf M ++ wr) pc lv st := by
  intro H locs ls hP hD hS hl9
  subst hst
  have hPc := P_l hP
  have hDc := D_l hD
  have F1 := F.1
  have hFc := hFc_of F1.2.2.2.2.2.2.1 hDc hS
  have hrec := va_recv F1.2.2.2.2.2.1 hPc hc he
  rw [hcl] at hrec
  refine va_calll (va_runV (As := As) (rest := rest) ⟨F1.1, F1.2.1, F1.2.2.1, F1.2.2.2.1, F1.2.2.2.2.1⟩ (hC H.size) (cwV np F1.2.2.2.2.1 (gi_V hk hl) rfl rfl rfl ⟨rfl, hk.2.2.2.2⟩ (rl_le F1.2.2.2.2.2.2.2.2 hrm)) ⟨blind, hrec, pre_ofL F hPc hDc hS⟩ rfl hn hl9.1 rfl (lv_room hro) d (by rw [F1.2.2.2.2.2.2.2.2]; exact hcs)) hS (fun q _ h => hFc q h) hFc (fun r' u t H1 locs1 ht hvm hw hB hz1 hk1 hS1 => ?_)
  obtain ⟨rfl, rfl⟩ := hw
  obtain ⟨hP2, hD2⟩ := join_app hP hD hk1 hFc (by rw [← ht]; exact hB.1) hB.2
  exact k H1 locs1 ls hP2 hD2 hS1 hl9
end LR
/-! ===== where it begins ===== -/
theorem sea0_2 : Sea2 sea0 sea0 := ⟨0, ⟨by decide, by decide, ⟨by decide, by decide, by decide⟩, fun k hk => absurd hk (Nat.not_lt_zero k)⟩, ⟨fun i _ => rfl, fun k _ => rfl⟩, ⟨4032, by decide, by decide⟩⟩
theorem rel0 : Rel C0 D0 := ⟨sea0_2, ⟨rfl, Or.inl rfl, fun h => absurd h (by decide)⟩, fun k _ => rfl, ⟨0, by decide, by decide, by decide, fun k hk => absurd hk (Nat.not_lt_zero k)⟩, fun s _ => ⟨rfl, Or.inl rfl, ⟨0, by decide, nI_0.symm, nI_0.symm⟩, fun i _ => rfl⟩⟩
theorem head_le {i L : Nat} (hL : L ≤ 3072) (hi : i ≤ 4000) (h : ¬ nI L - 6 < nI i) : i + 6 ≤ L := by
  rcases Nat.lt_or_ge L 6 with q | q
  · exfalso
    apply h
    have h0 : 0 ≤ nI i := nI_pos' (by omega)
    have hz : nI L - 6 < 0 := by
      rcases (show L = 0 ∨ L = 1 ∨ L = 2 ∨ L = 3 ∨ L = 4 ∨ L = 5 by omega) with rfl | rfl | rfl | rfl | rfl | rfl <;> decide
    exact Int32.lt_of_lt_of_le hz h0
  · obtain ⟨l, rfl⟩ : ∃ l, L = l + 6 := ⟨L - 6, by omega⟩
    have e : nI (l + 6) - 6 = nI l := by
      rw [← nI_add, show nI 6 = (6 : Int32) by decide, Int32.add_sub_cancel]
    rw [e] at h
    rcases Nat.lt_or_ge l i with w | w
    · exact absurd (nI_lt w (by omega)) h
    · omega
