/-! ===== what the start gives ===== -/
theorem zn_l : ∀ q ∈ nLinks, Cond.methodLinkNest q.1 q.2.1 q.2.2 "TowerWarns" ∈ lw_tbl := by
  intro q hq
  simp only [nLinks, List.mem_cons, List.not_mem_nil, or_false] at hq
  rcases hq with rfl | rfl | rfl | rfl | rfl | rfl | rfl | rfl | rfl | rfl | rfl
  · exact List.mem_of_getElem? (i := 93) (by decide +kernel)
  · exact List.mem_of_getElem? (i := 100) (by decide +kernel)
  · exact List.mem_of_getElem? (i := 107) (by decide +kernel)
  · exact List.mem_of_getElem? (i := 114) (by decide +kernel)
  · exact List.mem_of_getElem? (i := 121) (by decide +kernel)
  · exact List.mem_of_getElem? (i := 128) (by decide +kernel)
  · exact List.mem_of_getElem? (i := 110) (by decide +kernel)
  · exact List.mem_of_getElem? (i := 117) (by decide +kernel)
  · exact List.mem_of_getElem? (i := 131) (by decide +kernel)
  · exact List.mem_of_getElem? (i := 124) (by decide +kernel)
  · exact List.mem_of_getElem? (i := 103) (by decide +kernel)
theorem zn_c : ∀ C ∈ nKids, Cond.castable C RX7 ∈ lw_tbl := by
  intro q hq
  simp only [nKids, List.mem_cons, List.not_mem_nil, or_false] at hq
  rcases hq with rfl | rfl | rfl | rfl | rfl
  · exact List.mem_of_getElem? (i := 1346) (by decide +kernel)
  · exact List.mem_of_getElem? (i := 1347) (by decide +kernel)
  · exact List.mem_of_getElem? (i := 1348) (by decide +kernel)
  · exact List.mem_of_getElem? (i := 1349) (by decide +kernel)
  · exact List.mem_of_getElem? (i := 1350) (by decide +kernel)
theorem zs_r : ∀ q ∈ sRefs, Cond.stringRef q.1 q.2.1 q.2.2.1 ∈ lw_tbl := by
  intro q hq
  simp only [sRefs, List.mem_cons, List.not_mem_nil, or_false] at hq
  rcases hq with rfl | rfl | rfl | rfl | rfl | rfl | rfl | rfl | rfl | rfl | rfl
  · exact List.mem_of_getElem? (i := 756) (by decide +kernel)
  · exact List.mem_of_getElem? (i := 754) (by decide +kernel)
  · exact List.mem_of_getElem? (i := 738) (by decide +kernel)
  · exact List.mem_of_getElem? (i := 742) (by decide +kernel)
  · exact List.mem_of_getElem? (i := 750) (by decide +kernel)
  · exact List.mem_of_getElem? (i := 746) (by decide +kernel)
  · exact List.mem_of_getElem? (i := 818) (by decide +kernel)
  · exact List.mem_of_getElem? (i := 820) (by decide +kernel)
  · exact List.mem_of_getElem? (i := 825) (by decide +kernel)
  · exact List.mem_of_getElem? (i := 830) (by decide +kernel)
  · exact List.mem_of_getElem? (i := 831) (by decide +kernel)
/-- the texts' terms -/
def tmS (i : Nat) : Term := .string (sRefs.getD i ("", 0, "", 0)).1 (sRefs.getD i ("", 0, "", 0)).2.1
theorem ts_ex : ∀ i, i < 11 → Cond.exactly (tmS i) "java/lang/String" ∈ flatC (Jvm.Cond.and given_1 narrow_1) := by decide +kernel
theorem ts_co : ∀ i, i < 11 → Cond.eq (.field (tmS i) "java/lang/String" "coder" "B") (.int 0) ∈ flatC (Jvm.Cond.and given_1 narrow_1) := by decide +kernel
theorem ts_ar : ∀ i, i < 11 → Cond.arrayOf (.field (tmS i) "java/lang/String" "value" "[B") .byte ∈ flatC (Jvm.Cond.and given_1 narrow_1) := by decide +kernel
theorem ts_le : ∀ i, i < 11 → Cond.eq (.length (.field (tmS i) "java/lang/String" "value" "[B")) (.int (Int32.ofNat (sLen.getD i 0))) ∈ flatC (Jvm.Cond.and given_1 narrow_1) := by decide +kernel
theorem ts_el : ∀ i, i < 11 → ∀ j, j < sLen.getD i 0 → Cond.eq (.elem (.field (tmS i) "java/lang/String" "value" "[B") (.int (Int32.ofNat j))) (.int ((sByt.getD i []).getD j 0)) ∈ flatC (Jvm.Cond.and given_1 narrow_1) := by decide +kernel
theorem ts_ne : ∀ i, i < 11 → ∀ j, j < 11 → i ≠ j → Cond.not (Cond.eq (tmS i) (tmS j)) ∈ flatC (Jvm.Cond.and given_1 narrow_1) ∨ Cond.not (Cond.eq (tmS j) (tmS i)) ∈ flatC (Jvm.Cond.and given_1 narrow_1) := by decide +kernel
theorem arr_int {args : Array Value} {s : State} (h : (Cond.arrayClass .int).before args s = true) : ∃ cA, ArrOfT s cA .int ∧ va_RA s cA .int := by
  obtain ⟨c, k, comp, h1, h2, h3⟩ := Cond.arrayClass_spec h
  exact ⟨c, fun n z => ⟨fun k h => (by cases h), k, h2, comp, h3⟩, h1⟩
theorem arr_long {args : Array Value} {s : State} (h : (Cond.arrayClass .long).before args s = true) : ∃ cA, ArrOfT s cA .long ∧ va_RA s cA .long := by
  obtain ⟨c, k, comp, h1, h2, h3⟩ := Cond.arrayClass_spec h
  exact ⟨c, fun n z => ⟨fun k h => (by cases h), k, h2, comp, h3⟩, h1⟩
theorem arr_byte {args : Array Value} {s : State} (h : (Cond.arrayClass .byte).before args s = true) : ∃ cA, ArrOfT s cA .byte ∧ va_RA s cA .byte := by
  obtain ⟨c, k, comp, h1, h2, h3⟩ := Cond.arrayClass_spec h
  exact ⟨c, fun n z => ⟨fun k h => (by cases h), k, h2, comp, h3⟩, h1⟩
theorem arr_obj {C : String} {s : State} (h : va_AO C s) : ∃ cA, ArrOfT s cA (.object C) ∧ va_RA s cA (.object C) := by
  obtain ⟨comp, cA, kA, h1, h2, h3, h4, h5⟩ := Cond.arrayOver_spec h
  exact ⟨cA, fun n z => ⟨fun k h => (by cases h), kA, h3, comp, h4⟩, kA, comp, h3, h4, h1, h5⟩
set_option maxHeartbeats 4000000 in
set_option maxRecDepth 100000 in
/-- the surroundings -/
theorem start_E {s : State} {b : Nat} (hts : ∀ w ∈ lw_tbl, w.before #[Value.ref b] s = true) (hgv : (Jvm.Cond.and given_1 narrow_1).before #[Value.ref b] s = true) : ∃ E : Ev, va_K (eD E) vwCl (tysE E) s ∧ Zn s ∧ Zx E (fun q => s.heap.size ≤ q) s s.heap := by
  have hgw : ∀ w ∈ gw, w.before #[Value.ref b] s = true := fun w h => hts w (gw_in h)
  have hfl := flat_of_before _ hgv
  have hA : ∀ a : Nat, a < s.heap.size → ¬ (fun q : Nat => s.heap.size ≤ q) a := fun a h => Nat.not_le.mpr h
  obtain ⟨c0, i0, k0⟩ := u_known (C := RX0) (T := TX0) (N := 0) (n := 0) hgw ig0 (hgw _ wis_0)
  obtain ⟨c1, i1, k1⟩ := u_known (C := RX1) (T := TX1) (N := 0) (n := 0) hgw ig1 (hgw _ wis_1)
  obtain ⟨c2, i2, k2⟩ := u_known (C := RX2) (T := TX2) (N := 0) (n := 0) hgw ig2 (hgw _ wis_2)
  obtain ⟨c3, i3, k3⟩ := u_known (C := RX3) (T := TX3) (N := 0) (n := 0) hgw ig3 (hgw _ wis_3)
  obtain ⟨c4, i4, k4⟩ := u_known (C := RX4) (T := TX4) (N := 7) (n := 7) hgw ig4 (hgw _ wis_4)
  obtain ⟨c5, i5, k5⟩ := u_known (C := RX5) (T := TX5) (N := 7) (n := 7) hgw ig5 (hgw _ wis_5)
  obtain ⟨c6, i6, k6⟩ := u_known (C := RX6) (T := TX6) (N := 3) (n := 3) hgw ig6 (hgw _ wis_6)
  obtain ⟨c7, i7, k7⟩ := u_known (C := RX7) (T := TX7) (N := 0) (n := 0) hgw ig7 (hgw _ wis_7)
  obtain ⟨c8, i8, k8⟩ := u_known (C := RX8) (T := TX8) (N := 0) (n := 0) hgw ig8 (hgw _ wis_8)
  obtain ⟨c9, i9, k9⟩ := u_known (C := RX9) (T := TX9) (N := 2) (n := 2) hgw ig9 (hgw _ wis_9)
  obtain ⟨c10, i10, k10⟩ := u_known (C := RX10) (T := TX10) (N := 7) (n := 7) hgw ig10 (hgw _ wis_10)
  obtain ⟨c11, i11, k11⟩ := u_known (C := RX11) (T := TX11) (N := 9) (n := 9) hgw ig11 (hgw _ wis_11)
  obtain ⟨c12, i12, k12⟩ := u_known (C := RX12) (T := TX12) (N := 19) (n := 19) hgw ig12 (hgw _ wis_12)
  obtain ⟨dC, dI, hKc⟩ : ∃ (dC : Nat → ClassId) (dI : Nat → Nat → Nat), ∀ (k : Nat) (q : vw_C), vwCl[k]? = some q → u_Kn s q.1 q.2.1 q.2.2 (dC k) (dI k) := by
    refine ⟨fun k => [c0, c1, c2, c3, c4, c5, c6, c7, c8, c9, c10, c11, c12].getD k c0, fun k => [i0, i1, i2, i3, i4, i5, i6, i7, i8, i9, i10, i11, i12].getD k i0, ?_⟩
    intro k q hq
    match k, hq with
    | 0, hq => cases hq; exact k0
    | 1, hq => cases hq; exact k1
    | 2, hq => cases hq; exact k2
    | 3, hq => cases hq; exact k3
    | 4, hq => cases hq; exact k4
    | 5, hq => cases hq; exact k5
    | 6, hq => cases hq; exact k6
    | 7, hq => cases hq; exact k7
    | 8, hq => cases hq; exact k8
    | 9, hq => cases hq; exact k9
    | 10, hq => cases hq; exact k10
    | 11, hq => cases hq; exact k11
    | 12, hq => cases hq; exact k12
    | k + 13, hq => simp [vwCl] at hq
  have o1 : va_AO RX10 s := va_AO.of (hts (.arrayOver (.object RX10)) (List.mem_of_getElem? (i := 140) (by decide +kernel)))
  have o2 : va_AO RX7 s := va_AO.of (hts (.arrayOver (.object RX7)) (List.mem_of_getElem? (i := 91) (by decide +kernel)))
  have o3 : va_AO RX6 s := va_AO.of (hts (.arrayOver (.object RX6)) (List.mem_of_getElem? (i := 258) (by decide +kernel)))
  have hZn : Zn s := ⟨fun q hq => va_Nw.of rfl (hts _ (zn_l q hq)), ⟨o1, o2, o3⟩, fun C hC => va_Nw.of rfl (hts _ (zn_c C hC))⟩
  obtain ⟨a0, p0⟩ := arr_int (hgw _ war_int)
  obtain ⟨a1, p1⟩ := arr_long (hgw _ war_long)
  obtain ⟨a2, p2⟩ := arr_byte (hgw _ war_byte)
  obtain ⟨a3, p3⟩ := arr_obj o1
  obtain ⟨a4, p4⟩ := arr_obj o2
  obtain ⟨a5, p5⟩ := arr_obj o3
  obtain ⟨adK, adV, hS0, hev⟩ := vk_Sof (args := #[Value.ref b]) (s := s) (N := 11) (tm := tmS) (len := sLen) (byt := sByt) (A := fun q => s.heap.size ≤ q) (by decide) (fun i hi => hfl _ (ts_ex i hi)) (fun i hi => hfl _ (ts_co i hi)) (fun i hi => hfl _ (ts_ar i hi)) (fun i hi => hfl _ (ts_le i hi)) (fun i hi j hj => hfl _ (ts_el i hi j hj)) (fun i j hi hj hij => (ts_ne i hi j hj hij).imp (hfl _) (hfl _)) hA
  refine ⟨((dC, dI), (fun k => [a0, a1, a2, a3, a4, a5].getD k a0), (fun _ => 0), (fun _ => 0), adK, adV), ⟨hKc, fun k q hk => ?_⟩, hZn, ?_, ?_, hS0, ⟨?_, ?_⟩, ?_⟩
  · match k, hk with
    | 0, hk => cases hk; exact p0
    | 1, hk => cases hk; exact p1
    | 2, hk => cases hk; exact p2
    | 3, hk => cases hk; exact p3
    | 4, hk => cases hk; exact p4
    | 5, hk => cases hk; exact p5
    | k + 6, hk => simp [tysE] at hk
  · exact va_Nw.of rfl (hts _ (List.mem_of_getElem? (i := 362) (by decide +kernel)))
  · exact va_Nw.of rfl (hts _ (List.mem_of_getElem? (i := 400) (by decide +kernel)))
  · exact va_Zof (hts (.laysStatic "java/lang/String" "COMPACT_STRINGS" "Z") (List.mem_of_getElem? (i := 770) (by decide +kernel))) (hts (.initialized "java/lang/String") (List.mem_of_getElem? (i := 77) (by decide +kernel))) (va_eqt (hfl _ (List.mem_of_getElem? (i := 4) (by decide +kernel)))) hA
  · exact va_Zqof (hts (.laysStatic "jdk/internal/util/Preconditions" "SIOOBE_FORMATTER" "Ljava/util/function/BiFunction;") (List.mem_of_getElem? (i := 786) (by decide +kernel))) (hts (.initialized "jdk/internal/util/Preconditions") (List.mem_of_getElem? (i := 79) (by decide +kernel))) (hfl _ (List.mem_of_getElem? (i := 5) (by decide +kernel))) hA
  · intro q hq
    have hr := hts _ (zs_r q hq)
    have hv : (Term.string q.1 q.2.1).eval #[Value.ref b] s none [] s = some (.ref (adK q.2.2.2)) := by
      simp only [sRefs, List.mem_cons, List.not_mem_nil, or_false] at hq
      rcases hq with rfl | rfl | rfl | rfl | rfl | rfl | rfl | rfl | rfl | rfl | rfl
      · exact hev 0 (by decide)
      · exact hev 1 (by decide)
      · exact hev 2 (by decide)
      · exact hev 3 (by decide)
      · exact hev 4 (by decide)
      · exact hev 5 (by decide)
      · exact hev 6 (by decide)
      · exact hev 7 (by decide)
      · exact hev 8 (by decide)
      · exact hev 9 (by decide)
      · exact hev 10 (by decide)
    exact vk_R.of hr hv
