set_option maxHeartbeats 4000000 in
set_option maxRecDepth 100000 in
theorem hX12_in {M : Mem} {a0 : Int32} {a1 : Int32} {a2 : Int32} {res : Int32} (h : mX12_in a0 a1 a2 = some res) (l : Launch) (E : Ev) : CtI l E (Wm E) yX12_in cX12_in 3 .boolean 0 0 [.int a0, .int a1, .int a2] M res M :=
  ctI_of (Wf := Wm) (av := fun E => [.int a0, .int a1, .int a2]) (lv := fun E => [(0, .int a0), (1, .int a1), (2, .int a2)]) (by decide) (fun _ => rfl) (fun _ => (Nat.le_of_ble_eq_true rfl)) (fun X F hx Rt => by
    have F : Fx X cX12_in RX12 0 0 := F
    unfold mX12_in at h
    refine g_iload_n (pc := 0) (x := a0) F dX12_in_0 rfl 0 rfl ?_
    refine g_iload_n (pc := 1) (x := a1) F dX12_in_1 rfl 1 rfl ?_
    refine g_icmp_lt (pc := 2) (tgt := 14) F dX12_in_2 (by decide) (fun c1 => ?_) (fun c1 => ?_)
    · have h := ite_t c1 h
      refine g_iconst (pc := 14) F dX12_in_14 ic_0 ?_
      obtain rfl := Option.some.inj h
      exact g_iret (pc := 15) (Wf := Wm) F Rt (by decide) dX12_in_15
    · have h := ite_f c1 h
      refine g_iload_n (pc := 5) (x := a0) F dX12_in_5 rfl 0 rfl ?_
      refine g_iload_n (pc := 6) (x := a2) F dX12_in_6 rfl 2 rfl ?_
      refine g_icmp_gt (pc := 7) (tgt := 14) F dX12_in_7 (by decide) (fun c2 => ?_) (fun c2 => ?_)
      · have h := ite_t c2 h
        refine g_iconst (pc := 14) F dX12_in_14 ic_0 ?_
        obtain rfl := Option.some.inj h
        exact g_iret (pc := 15) (Wf := Wm) F Rt (by decide) dX12_in_15
      · have h := ite_f c2 h
        refine g_iconst (pc := 10) F dX12_in_10 ic_1 ?_
        refine g_goto (pc := 11) (tgt := 15) F dX12_in_11 (by decide) ?_
        obtain rfl := Option.some.inj h
        exact g_iret (pc := 15) (Wf := Wm) F Rt (by decide) dX12_in_15) l E
set_option maxHeartbeats 4000000 in
set_option maxRecDepth 100000 in
theorem hX12_finds {M : Mem} {a1 : Int32} {res : Int32 × Mem} (h : mX12_finds M a1 = some res) (l : Launch) (E : Ev) : CtI l E (Wm E) yX12_finds cX12_finds 2 .int 0 0 [.ref (em E 0), .int a1] M res.1 res.2 :=
  ctI_of (Wf := Wm) (av := fun E => [.ref (em E 0), .int a1]) (lv := fun E => [(0, .ref (em E 0)), (1, .int a1)]) (by decide) (fun _ => rfl) (fun _ => (Nat.le_of_ble_eq_true rfl)) (fun X F hx Rt => by
    have F : Fx X cX12_finds RX12 0 0 := F
    unfold mX12_finds at h
    refine g_aload_n (pc := 0) (x := em (xE X) 0) F dX12_finds_0 rfl 0 rfl ?_
    refine g_get (pc := 1) (v := .ref (em (xE X) 2)) F fX12_13 0 rfl rfl dX12_finds_1 ?_
    refine g_ldc (pc := 4) F oX12_44 dX12_finds_4 ?_
    refine g_iload_n (pc := 6) (x := a1) F dX12_finds_6 rfl 1 rfl ?_
    refine g_isub (pc := 7) F dX12_finds_7 ?_
    refine g_dup2 (pc := 8) F dX12_finds_8 rfl rfl ?_
    obtain ⟨i1, h⟩ := ck_some h
    refine g_iald (pc := 9) (N := 7) (fn := M.1 1) (j := ((-1000000001 : Int32) - a1).toNatClampNeg) F 2 0 rfl rfl i1 rfl dX12_finds_9 ?_
    refine g_iconst (pc := 10) F dX12_finds_10 ic_1 ?_
    refine g_iadd (pc := 11) F dX12_finds_11 ?_
    obtain ⟨i2, h⟩ := ck_some h
    refine g_iast (pc := 12) (N := 7) (fn := M.1 1) (j := ((-1000000001 : Int32) - a1).toNatClampNeg) (ws2 := Wm (xE X) (sI M 1 (((-1000000001 : Int32) - a1).toNatClampNeg) ((M.1 1 (((-1000000001 : Int32) - a1).toNatClampNeg)) + (1 : Int32)))) F 2 0 rfl rfl i2 rfl (wma_1 _ _ _ _) dX12_finds_12 ?_
    refine g_iload_n (pc := 13) (x := a1) F dX12_finds_13 rfl 1 rfl ?_
    obtain rfl := Option.some.inj h
    exact g_iret (pc := 14) (Wf := Wm) F Rt rfl dX12_finds_14) l E
set_option maxHeartbeats 4000000 in
set_option maxRecDepth 100000 in
theorem hX12_held {M : Mem} {a0 : Int32} {a1 : Int32} {a2 : Int32} {res : Int32} (h : mX12_held a0 a1 a2 = some res) (l : Launch) (E : Ev) : CtI l E (Wm E) yX12_held cX12_held 3 .int 0 0 [.int a0, .int a1, .int a2] M res M :=
  ctI_of (Wf := Wm) (av := fun E => [.int a0, .int a1, .int a2]) (lv := fun E => [(0, .int a0), (1, .int a1), (2, .int a2)]) (by decide) (fun _ => rfl) (fun _ => (Nat.le_of_ble_eq_true rfl)) (fun X F hx Rt => by
    have F : Fx X cX12_held RX12 0 0 := F
    unfold mX12_held at h
    refine g_iload_n (pc := 0) (x := a0) F dX12_held_0 rfl 0 rfl ?_
    refine g_iload_n (pc := 1) (x := a1) F dX12_held_1 rfl 1 rfl ?_
    refine g_icmp_ge (pc := 2) (tgt := 9) F dX12_held_2 (by decide) (fun c1 => ?_) (fun c1 => ?_)
    · have h := ite_t c1 h
      refine g_iload_n (pc := 9) (x := a0) F dX12_held_9 rfl 0 rfl ?_
      refine g_iload_n (pc := 10) (x := a2) F dX12_held_10 rfl 2 rfl ?_
      refine g_icmp_le (pc := 11) (tgt := 18) F dX12_held_11 (by decide) (fun c2 => ?_) (fun c2 => ?_)
      · have h := ite_t c2 h
        refine g_iload_n (pc := 18) (x := a0) F dX12_held_18 rfl 0 rfl ?_
        obtain rfl := Option.some.inj h
        exact g_iret (pc := 19) (Wf := Wm) F Rt rfl dX12_held_19
      · have h := ite_f c2 h
        refine g_iload_n (pc := 14) (x := a2) F dX12_held_14 rfl 2 rfl ?_
        refine g_goto (pc := 15) (tgt := 19) F dX12_held_15 (by decide) ?_
        obtain rfl := Option.some.inj h
        exact g_iret (pc := 19) (Wf := Wm) F Rt rfl dX12_held_19
    · have h := ite_f c1 h
      refine g_iload_n (pc := 5) (x := a1) F dX12_held_5 rfl 1 rfl ?_
      refine g_goto (pc := 6) (tgt := 19) F dX12_held_6 (by decide) ?_
      obtain rfl := Option.some.inj h
      exact g_iret (pc := 19) (Wf := Wm) F Rt rfl dX12_held_19) l E
set_option maxHeartbeats 4000000 in
set_option maxRecDepth 100000 in
theorem hX12_its {M : Mem} {a1 : Int32} {a2 : Int32} {res : Int32} (h : mX12_its M a1 a2 = some res) (l : Launch) (E : Ev) : CtI l E (Wm E) yX12_its cX12_its 3 .int 0 0 [.ref (em E 0), .int a1, .int a2] M res M :=
  ctI_of (Wf := Wm) (av := fun E => [.ref (em E 0), .int a1, .int a2]) (lv := fun E => [(0, .ref (em E 0)), (1, .int a1), (2, .int a2)]) (by decide) (fun _ => rfl) (fun _ => (Nat.le_of_ble_eq_true rfl)) (fun X F hx Rt => by
    have F : Fx X cX12_its RX12 0 0 := F
    unfold mX12_its at h
    refine g_aload_n (pc := 0) (x := em (xE X) 0) F dX12_its_0 rfl 0 rfl ?_
    refine g_get (pc := 1) (v := .ref (em (xE X) 1)) F fX12_7 0 rfl rfl dX12_its_1 ?_
    refine g_bipush (pc := 4) F dX12_its_4 bp_6 ?_
    refine g_bipush (pc := 6) F dX12_its_6 bp_7 ?_
    refine g_iload_n (pc := 8) (x := a1) F dX12_its_8 rfl 1 rfl ?_
    refine g_imul (pc := 9) F dX12_its_9 ?_
    refine g_iadd (pc := 10) F dX12_its_10 ?_
    refine g_iload_n (pc := 11) (x := a2) F dX12_its_11 rfl 2 rfl ?_
    refine g_iadd (pc := 12) F dX12_its_12 ?_
    obtain ⟨i1, h⟩ := ck_some h
    refine g_iald (pc := 13) (N := 48) (fn := M.1 0) (j := (((6 : Int32) + ((7 : Int32) * a1)) + a2).toNatClampNeg) F 1 0 rfl rfl i1 rfl dX12_its_13 ?_
    obtain rfl := Option.some.inj h
    exact g_iret (pc := 14) (Wf := Wm) F Rt rfl dX12_its_14) l E
set_option maxHeartbeats 4000000 in
set_option maxRecDepth 100000 in
theorem hX12_puts {M : Mem} {a1 : Int32} {a2 : Int32} {a3 : Int32} {res : Mem} (h : mX12_puts M a1 a2 a3 = some res) (l : Launch) (E : Ev) : CtV l E (Wm E) yX12_puts cX12_puts 4 0 0 [.ref (em E 0), .int a1, .int a2, .int a3] M res :=
  ctV_of (Wf := Wm) (av := fun E => [.ref (em E 0), .int a1, .int a2, .int a3]) (lv := fun E => [(0, .ref (em E 0)), (1, .int a1), (2, .int a2), (3, .int a3)]) (by decide) (fun _ => rfl) (fun _ => (Nat.le_of_ble_eq_true rfl)) (fun X F hx Rt => by
    have F : Fx X cX12_puts RX12 0 0 := F
    unfold mX12_puts at h
    refine g_aload_n (pc := 0) (x := em (xE X) 0) F dX12_puts_0 rfl 0 rfl ?_
    refine g_get (pc := 1) (v := .ref (em (xE X) 1)) F fX12_7 0 rfl rfl dX12_puts_1 ?_
    refine g_bipush (pc := 4) F dX12_puts_4 bp_6 ?_
    refine g_bipush (pc := 6) F dX12_puts_6 bp_7 ?_
    refine g_iload_n (pc := 8) (x := a1) F dX12_puts_8 rfl 1 rfl ?_
    refine g_imul (pc := 9) F dX12_puts_9 ?_
    refine g_iadd (pc := 10) F dX12_puts_10 ?_
    refine g_iload_n (pc := 11) (x := a2) F dX12_puts_11 rfl 2 rfl ?_
    refine g_iadd (pc := 12) F dX12_puts_12 ?_
    refine g_iload_n (pc := 13) (x := a3) F dX12_puts_13 rfl 3 rfl ?_
    obtain ⟨i1, h⟩ := ck_some h
    refine g_iast (pc := 14) (N := 48) (fn := M.1 0) (j := (((6 : Int32) + ((7 : Int32) * a1)) + a2).toNatClampNeg) (ws2 := Wm (xE X) (sI M 0 ((((6 : Int32) + ((7 : Int32) * a1)) + a2).toNatClampNeg) a3)) F 1 0 rfl rfl i1 rfl (wma_0 _ _ _ _) dX12_puts_14 ?_
    obtain rfl := Option.some.inj h
    exact g_vret (pc := 15) (Wf := Wm) F Rt dX12_puts_15) l E
set_option maxHeartbeats 4000000 in
set_option maxRecDepth 100000 in
theorem hX12_becomes {M : Mem} {a1 : Int32} {a2 : Int32} {res : Int32 × Mem} (h : mX12_becomes M a1 a2 = some res) (l : Launch) (E : Ev) : CtI l E (Wm E) yX12_becomes cX12_becomes 4 .int 0 0 [.ref (em E 0), .int a1, .int a2] M res.1 res.2 :=
  ctI_of (Wf := Wm) (av := fun E => [.ref (em E 0), .int a1, .int a2]) (lv := fun E => [(0, .ref (em E 0)), (1, .int a1), (2, .int a2)]) (by decide) (fun _ => rfl) (fun _ => (Nat.le_of_ble_eq_true rfl)) (fun X F hx Rt => by
    have F : Fx X cX12_becomes RX12 0 0 := F
    unfold mX12_becomes at h
    refine g_aload_n (pc := 0) (x := em (xE X) 0) F dX12_becomes_0 rfl 0 rfl ?_
    refine g_get (pc := 1) (v := .ref (em (xE X) 1)) F fX12_7 0 rfl rfl dX12_becomes_1 ?_
    refine g_iload_n (pc := 4) (x := a1) F dX12_becomes_4 rfl 1 rfl ?_
    obtain ⟨i1, h⟩ := ck_some h
    refine g_iald (pc := 5) (N := 48) (fn := M.1 0) (j := a1.toNatClampNeg) F 1 0 rfl rfl i1 rfl dX12_becomes_5 ?_
    refine g_istore_n (pc := 6) (lv2 := [(0, .ref (em (xE X) 0)), (1, .int a1), (2, .int a2), (3, .int (M.1 0 a1.toNatClampNeg))]) F dX12_becomes_6 rfl (by rw [hx]; decide) [1, 2, 3, 0] rfl ?_
    refine g_aload_n (pc := 7) (x := em (xE X) 0) F dX12_becomes_7 rfl 0 rfl ?_
    refine g_get (pc := 8) (v := .ref (em (xE X) 1)) F fX12_7 0 rfl rfl dX12_becomes_8 ?_
    refine g_iload_n (pc := 11) (x := a1) F dX12_becomes_11 rfl 1 rfl ?_
    refine g_iload_n (pc := 12) (x := a2) F dX12_becomes_12 rfl 2 rfl ?_
    obtain ⟨i2, h⟩ := ck_some h
    refine g_iast (pc := 13) (N := 48) (fn := M.1 0) (j := a1.toNatClampNeg) (ws2 := Wm (xE X) (sI M 0 a1.toNatClampNeg a2)) F 1 0 rfl rfl i2 rfl (wma_0 _ _ _ _) dX12_becomes_13 ?_
    refine g_iload_n (pc := 14) (x := M.1 0 a1.toNatClampNeg) F dX12_becomes_14 rfl 3 rfl ?_
    obtain rfl := Option.some.inj h
    exact g_iret (pc := 15) (Wf := Wm) F Rt rfl dX12_becomes_15) l E
set_option maxHeartbeats 4000000 in
set_option maxRecDepth 100000 in
theorem hX12_isOne {M : Mem} {a1 : Int32} {res : Int32} (h : mX12_isOne M a1 = some res) (l : Launch) (E : Ev) : CtI l E (Wm E) yX12_isOne cX12_isOne 2 .boolean 1 22 [.ref (em E 0), .int a1] M res M :=
  ctI_of (Wf := Wm) (av := fun E => [.ref (em E 0), .int a1]) (lv := fun E => [(0, .ref (em E 0)), (1, .int a1)]) (by decide) (fun _ => rfl) (fun _ => (Nat.le_of_ble_eq_true rfl)) (fun X F hx Rt => by
    have F : Fx X cX12_isOne RX12 1 22 := F
    unfold mX12_isOne at h
    refine g_iload_n (pc := 0) (x := a1) F dX12_isOne_0 rfl 1 rfl ?_
    refine g_iconst (pc := 1) F dX12_isOne_1 ic_0 ?_
    refine g_aload_n (pc := 2) (x := em (xE X) 0) F dX12_isOne_2 rfl 0 rfl ?_
    refine g_get (pc := 3) (v := .ref (em (xE X) 1)) F fX12_7 0 rfl rfl dX12_isOne_3 ?_
    refine g_iconst (pc := 6) F dX12_isOne_6 ic_5 ?_
    refine g_iald (pc := 7) (N := 48) (fn := M.1 0) (j := 5) F 1 0 rfl rfl vi_5_48 cl_5 dX12_isOne_7 ?_
    refine g_iconst (pc := 8) F dX12_isOne_8 ic_1 ?_
    refine g_isub (pc := 9) F dX12_isOne_9 ?_
    obtain ⟨r1, e2, h⟩ := bd_some h
    refine g_sI (pc := 10) (Wf := Wm) (As := [.int a1, .int (0 : Int32), .int ((M.1 0 5) - (1 : Int32))]) (rest := []) F (hX12_in (M := M) e2 (xl X) (xE X)) kX12_in lX12_45 rfl rfl ⟨(Nat.le_of_ble_eq_true rfl), (Nat.le_of_ble_eq_true rfl)⟩ (Nat.le_of_ble_eq_true rfl) dX12_isOne_10 ?_
    obtain ⟨b3, h⟩ := ck_some h
    obtain rfl := Option.some.inj h
    exact g_iret (pc := 13) (Wf := Wm) F Rt (nb01 b3).1 dX12_isOne_13) l E
set_option maxHeartbeats 4000000 in
set_option maxRecDepth 100000 in
theorem hX12_isKind {M : Mem} {a0 : Int32} {res : Int32} (h : mX12_isKind a0 = some res) (l : Launch) (E : Ev) : CtI l E (Wm E) yX12_isKind cX12_isKind 1 .boolean 1 22 [.int a0] M res M :=
  ctI_of (Wf := Wm) (av := fun E => [.int a0]) (lv := fun E => [(0, .int a0)]) (by decide) (fun _ => rfl) (fun _ => (Nat.le_of_ble_eq_true rfl)) (fun X F hx Rt => by
    have F : Fx X cX12_isKind RX12 1 22 := F
    unfold mX12_isKind at h
    refine g_iload_n (pc := 0) (x := a0) F dX12_isKind_0 rfl 0 rfl ?_
    refine g_iconst (pc := 1) F dX12_isKind_1 ic_0 ?_
    refine g_iconst (pc := 2) F dX12_isKind_2 ic_5 ?_
    obtain ⟨r1, e2, h⟩ := bd_some h
    refine g_sI (pc := 3) (Wf := Wm) (As := [.int a0, .int (0 : Int32), .int (5 : Int32)]) (rest := []) F (hX12_in (M := M) e2 (xl X) (xE X)) kX12_in lX12_45 rfl rfl ⟨(Nat.le_of_ble_eq_true rfl), (Nat.le_of_ble_eq_true rfl)⟩ (Nat.le_of_ble_eq_true rfl) dX12_isKind_3 ?_
    obtain ⟨b3, h⟩ := ck_some h
    obtain rfl := Option.some.inj h
    exact g_iret (pc := 6) (Wf := Wm) F Rt (nb01 b3).1 dX12_isKind_6) l E
set_option maxHeartbeats 4000000 in
set_option maxRecDepth 100000 in
theorem hX12_isRow {M : Mem} {a0 : Int32} {res : Int32} (h : mX12_isRow a0 = some res) (l : Launch) (E : Ev) : CtI l E (Wm E) yX12_isRow cX12_isRow 1 .boolean 1 22 [.int a0] M res M :=
  ctI_of (Wf := Wm) (av := fun E => [.int a0]) (lv := fun E => [(0, .int a0)]) (by decide) (fun _ => rfl) (fun _ => (Nat.le_of_ble_eq_true rfl)) (fun X F hx Rt => by
    have F : Fx X cX12_isRow RX12 1 22 := F
    unfold mX12_isRow at h
    refine g_iload_n (pc := 0) (x := a0) F dX12_isRow_0 rfl 0 rfl ?_
    refine g_iconst (pc := 1) F dX12_isRow_1 ic_0 ?_
    refine g_bipush (pc := 2) F dX12_isRow_2 bp_9 ?_
    obtain ⟨r1, e2, h⟩ := bd_some h
    refine g_sI (pc := 4) (Wf := Wm) (As := [.int a0, .int (0 : Int32), .int (9 : Int32)]) (rest := []) F (hX12_in (M := M) e2 (xl X) (xE X)) kX12_in lX12_45 rfl rfl ⟨(Nat.le_of_ble_eq_true rfl), (Nat.le_of_ble_eq_true rfl)⟩ (Nat.le_of_ble_eq_true rfl) dX12_isRow_4 ?_
    obtain ⟨b3, h⟩ := ck_some h
    obtain rfl := Option.some.inj h
    exact g_iret (pc := 7) (Wf := Wm) F Rt (nb01 b3).1 dX12_isRow_7) l E
set_option maxHeartbeats 4000000 in
set_option maxRecDepth 100000 in
theorem wX12_bits_b4 {X : Cx} (F : Fx X cX12_bits RX12 0 0) (hx : xn X = 3) {N : Nat} {M : Mem} {res : Int32} (Rt : RI X Wm .int res M) : ∀ (n : Nat) (a1 : Int32) (a2 : Int32), mX12_bits_b4 N n a1 a2 = some res → G X (Wm (xE X) M) 4 [(1, .int a1), (2, .int a2)] [] := by
  intro n
  induction n with
  | zero =>
    intro a1 a2 h
    have h : none = some res := h
    cases h
  | succ n ih =>
    intro a1 a2 h
    rw [mX12_bits_b4] at h
    refine g_iload_n (pc := 4) (x := a2) F dX12_bits_4 rfl 1 rfl ?_
    refine g_if_eq (pc := 5) (tgt := 20) F dX12_bits_5 (by decide) (fun c1 => ?_) (fun c1 => ?_)
    · have h := ite_t c1 h
      refine g_iload_n (pc := 20) (x := a1) F dX12_bits_20 rfl 0 rfl ?_
      obtain rfl := Option.some.inj h
      exact g_iret (pc := 21) (Wf := Wm) F Rt rfl dX12_bits_21
    · have h := ite_f c1 h
      refine g_iinc (pc := 8) (lv2 := [(1, .int (a1 + (1 : Int32))), (2, .int a2)]) F dX12_bits_8 0 rfl (ii_1 _) (by rw [hx]; decide) [0, 1] rfl ?_
      refine g_iload_n (pc := 11) (x := a2) F dX12_bits_11 rfl 1 rfl ?_
      refine g_iload_n (pc := 12) (x := a2) F dX12_bits_12 rfl 1 rfl ?_
      refine g_iconst (pc := 13) F dX12_bits_13 ic_1 ?_
      refine g_isub (pc := 14) F dX12_bits_14 ?_
      refine g_iand (pc := 15) F dX12_bits_15 ?_
      refine g_istore_n (pc := 16) (lv2 := [(1, .int (a1 + (1 : Int32))), (2, .int (a2 &&& (a2 - (1 : Int32))))]) F dX12_bits_16 rfl (by rw [hx]; decide) [1, 0] rfl ?_
      refine g_goto (pc := 17) (tgt := 4) F dX12_bits_17 (by decide) ?_
      refine g_sub [0, 1] rfl ?_
      exact ih (a1 + (1 : Int32)) (a2 &&& (a2 - (1 : Int32))) h
set_option maxHeartbeats 4000000 in
set_option maxRecDepth 100000 in
theorem hX12_bits {N : Nat} {M : Mem} {a0 : Int32} {res : Int32} (h : mX12_bits N a0 = some res) (l : Launch) (E : Ev) : CtI l E (Wm E) yX12_bits cX12_bits 3 .int 0 0 [.int a0] M res M :=
  ctI_of (Wf := Wm) (av := fun E => [.int a0]) (lv := fun E => [(0, .int a0)]) (by decide) (fun _ => rfl) (fun _ => (Nat.le_of_ble_eq_true rfl)) (fun X F hx Rt => by
    have F : Fx X cX12_bits RX12 0 0 := F
    unfold mX12_bits at h
    refine g_iconst (pc := 0) F dX12_bits_0 ic_0 ?_
    refine g_istore_n (pc := 1) (lv2 := [(0, .int a0), (1, .int (0 : Int32))]) F dX12_bits_1 rfl (by rw [hx]; decide) [1, 0] rfl ?_
    refine g_iload_n (pc := 2) (x := a0) F dX12_bits_2 rfl 0 rfl ?_
    refine g_istore_n (pc := 3) (lv2 := [(0, .int a0), (1, .int (0 : Int32)), (2, .int a0)]) F dX12_bits_3 rfl (by rw [hx]; decide) [1, 2, 0] rfl ?_
    refine g_sub [1, 2] rfl ?_
    exact wX12_bits_b4 F hx Rt N (0 : Int32) a0 h) l E
set_option maxHeartbeats 4000000 in
set_option maxRecDepth 100000 in
theorem hX12_isNight {M : Mem} {res : Int32} (h : mX12_isNight M = some res) (l : Launch) (E : Ev) : CtI l E (Wm E) yX12_isNight cX12_isNight 1 .boolean 0 0 [.ref (em E 0)] M res M :=
  ctI_of (Wf := Wm) (av := fun E => [.ref (em E 0)]) (lv := fun E => [(0, .ref (em E 0))]) (by decide) (fun _ => rfl) (fun _ => (Nat.le_of_ble_eq_true rfl)) (fun X F hx Rt => by
    have F : Fx X cX12_isNight RX12 0 0 := F
    unfold mX12_isNight at h
    refine g_aload_n (pc := 0) (x := em (xE X) 0) F dX12_isNight_0 rfl 0 rfl ?_
    refine g_get (pc := 1) (v := .ref (em (xE X) 1)) F fX12_7 0 rfl rfl dX12_isNight_1 ?_
    refine g_iconst (pc := 4) F dX12_isNight_4 ic_0 ?_
    refine g_iald (pc := 5) (N := 48) (fn := M.1 0) (j := 0) F 1 0 rfl rfl vi_0_48 cl_0 dX12_isNight_5 ?_
    refine g_bipush (pc := 6) F dX12_isNight_6 bp_12 ?_
    refine g_irem (pc := 8) F dX12_isNight_8 (by decide) ?_
    refine g_bipush (pc := 9) F dX12_isNight_9 bp_6 ?_
    refine g_icmp_lt (pc := 11) (tgt := 18) F dX12_isNight_11 (by decide) (fun c1 => ?_) (fun c1 => ?_)
    · have h := ite_t c1 h
      refine g_iconst (pc := 18) F dX12_isNight_18 ic_0 ?_
      obtain rfl := Option.some.inj h
      exact g_iret (pc := 19) (Wf := Wm) F Rt (by decide) dX12_isNight_19
    · have h := ite_f c1 h
      refine g_iconst (pc := 14) F dX12_isNight_14 ic_1 ?_
      refine g_goto (pc := 15) (tgt := 19) F dX12_isNight_15 (by decide) ?_
      obtain rfl := Option.some.inj h
      exact g_iret (pc := 19) (Wf := Wm) F Rt (by decide) dX12_isNight_19) l E
set_option maxHeartbeats 4000000 in
set_option maxRecDepth 100000 in
theorem hX12_isBurning {M : Mem} {res : Int32} (h : mX12_isBurning M = some res) (l : Launch) (E : Ev) : CtI l E (Wm E) yX12_isBurning cX12_isBurning 1 .boolean 0 0 [.ref (em E 0)] M res M :=
  ctI_of (Wf := Wm) (av := fun E => [.ref (em E 0)]) (lv := fun E => [(0, .ref (em E 0))]) (by decide) (fun _ => rfl) (fun _ => (Nat.le_of_ble_eq_true rfl)) (fun X F hx Rt => by
    have F : Fx X cX12_isBurning RX12 0 0 := F
    unfold mX12_isBurning at h
    refine g_aload_n (pc := 0) (x := em (xE X) 0) F dX12_isBurning_0 rfl 0 rfl ?_
    refine g_get (pc := 1) (v := .ref (em (xE X) 1)) F fX12_7 0 rfl rfl dX12_isBurning_1 ?_
    refine g_iconst (pc := 4) F dX12_isBurning_4 ic_3 ?_
    refine g_iald (pc := 5) (N := 48) (fn := M.1 0) (j := 3) F 1 0 rfl rfl vi_3_48 cl_3 dX12_isBurning_5 ?_
    refine g_aload_n (pc := 6) (x := em (xE X) 0) F dX12_isBurning_6 rfl 0 rfl ?_
    refine g_get (pc := 7) (v := .ref (em (xE X) 1)) F fX12_7 0 rfl rfl dX12_isBurning_7 ?_
    refine g_iconst (pc := 10) F dX12_isBurning_10 ic_0 ?_
    refine g_iald (pc := 11) (N := 48) (fn := M.1 0) (j := 0) F 1 0 rfl rfl vi_0_48 cl_0 dX12_isBurning_11 ?_
    refine g_bipush (pc := 12) F dX12_isBurning_12 bp_12 ?_
    refine g_irem (pc := 14) F dX12_isBurning_14 (by decide) ?_
    refine g_ishr (pc := 15) F dX12_isBurning_15 ?_
    refine g_iconst (pc := 16) F dX12_isBurning_16 ic_1 ?_
    refine g_iand (pc := 17) F dX12_isBurning_17 ?_
    refine g_iconst (pc := 18) F dX12_isBurning_18 ic_1 ?_
    refine g_icmp_ne (pc := 19) (tgt := 26) F dX12_isBurning_19 (by decide) (fun c1 => ?_) (fun c1 => ?_)
    · have h := ite_f c1 h
      refine g_iconst (pc := 26) F dX12_isBurning_26 ic_0 ?_
      obtain rfl := Option.some.inj h
      exact g_iret (pc := 27) (Wf := Wm) F Rt (by decide) dX12_isBurning_27
    · have h := ite_t c1 h
      refine g_iconst (pc := 22) F dX12_isBurning_22 ic_1 ?_
      refine g_goto (pc := 23) (tgt := 27) F dX12_isBurning_23 (by decide) ?_
      obtain rfl := Option.some.inj h
      exact g_iret (pc := 27) (Wf := Wm) F Rt (by decide) dX12_isBurning_27) l E
set_option maxHeartbeats 4000000 in
set_option maxRecDepth 100000 in
theorem hX12_place {M : Mem} {res : Int32} (h : mX12_place M = some res) (l : Launch) (E : Ev) : CtI l E (Wm E) yX12_place cX12_place 1 .int 0 0 [.ref (em E 0)] M res M :=
  ctI_of (Wf := Wm) (av := fun E => [.ref (em E 0)]) (lv := fun E => [(0, .ref (em E 0))]) (by decide) (fun _ => rfl) (fun _ => (Nat.le_of_ble_eq_true rfl)) (fun X F hx Rt => by
    have F : Fx X cX12_place RX12 0 0 := F
    unfold mX12_place at h
    refine g_bipush (pc := 0) F dX12_place_0 bp_10 ?_
    refine g_aload_n (pc := 2) (x := em (xE X) 0) F dX12_place_2 rfl 0 rfl ?_
    refine g_get (pc := 3) (v := .ref (em (xE X) 1)) F fX12_7 0 rfl rfl dX12_place_3 ?_
    refine g_iconst (pc := 6) F dX12_place_6 ic_1 ?_
    refine g_iald (pc := 7) (N := 48) (fn := M.1 0) (j := 1) F 1 0 rfl rfl vi_1_48 cl_1 dX12_place_7 ?_
    refine g_imul (pc := 8) F dX12_place_8 ?_
    refine g_aload_n (pc := 9) (x := em (xE X) 0) F dX12_place_9 rfl 0 rfl ?_
    refine g_get (pc := 10) (v := .ref (em (xE X) 1)) F fX12_7 0 rfl rfl dX12_place_10 ?_
    refine g_iconst (pc := 13) F dX12_place_13 ic_2 ?_
    refine g_iald (pc := 14) (N := 48) (fn := M.1 0) (j := 2) F 1 0 rfl rfl vi_2_48 cl_2 dX12_place_14 ?_
    refine g_iadd (pc := 15) F dX12_place_15 ?_
    obtain rfl := Option.some.inj h
    exact g_iret (pc := 16) (Wf := Wm) F Rt rfl dX12_place_16) l E
set_option maxHeartbeats 4000000 in
set_option maxRecDepth 100000 in
theorem hX12_stands {M : Mem} {a1 : Int32} {res : Mem} (h : mX12_stands M a1 = some res) (l : Launch) (E : Ev) : CtV l E (Wm E) yX12_stands cX12_stands 2 0 0 [.ref (em E 0), .int a1] M res :=
  ctV_of (Wf := Wm) (av := fun E => [.ref (em E 0), .int a1]) (lv := fun E => [(0, .ref (em E 0)), (1, .int a1)]) (by decide) (fun _ => rfl) (fun _ => (Nat.le_of_ble_eq_true rfl)) (fun X F hx Rt => by
    have F : Fx X cX12_stands RX12 0 0 := F
    unfold mX12_stands at h
    refine g_aload_n (pc := 0) (x := em (xE X) 0) F dX12_stands_0 rfl 0 rfl ?_
    refine g_get (pc := 1) (v := .ref (em (xE X) 1)) F fX12_7 0 rfl rfl dX12_stands_1 ?_
    refine g_iconst (pc := 4) F dX12_stands_4 ic_1 ?_
    refine g_iload_n (pc := 5) (x := a1) F dX12_stands_5 rfl 1 rfl ?_
    refine g_bipush (pc := 6) F dX12_stands_6 bp_10 ?_
    refine g_idiv (pc := 8) F dX12_stands_8 (by decide) ?_
    refine g_iast (pc := 9) (N := 48) (fn := M.1 0) (j := 1) (ws2 := Wm (xE X) (sI M 0 1 (a1 / (10 : Int32)))) F 1 0 rfl rfl vi_1_48 cl_1 (wma_0 _ _ _ _) dX12_stands_9 ?_
    refine g_aload_n (pc := 10) (x := em (xE X) 0) F dX12_stands_10 rfl 0 rfl ?_
    refine g_get (pc := 11) (v := .ref (em (xE X) 1)) F fX12_7 0 rfl rfl dX12_stands_11 ?_
    refine g_iconst (pc := 14) F dX12_stands_14 ic_2 ?_
    refine g_iload_n (pc := 15) (x := a1) F dX12_stands_15 rfl 1 rfl ?_
    refine g_bipush (pc := 16) F dX12_stands_16 bp_10 ?_
    refine g_irem (pc := 18) F dX12_stands_18 (by decide) ?_
    refine g_iast (pc := 19) (N := 48) (fn := (sI M 0 1 (a1 / (10 : Int32))).1 0) (j := 2) (ws2 := Wm (xE X) (sI (sI M 0 1 (a1 / (10 : Int32))) 0 2 (a1 - a1 / (10 : Int32) * (10 : Int32)))) F 1 0 rfl rfl vi_2_48 cl_2 (wma_0 _ _ _ _) dX12_stands_19 ?_
    obtain rfl := Option.some.inj h
    exact g_vret (pc := 20) (Wf := Wm) F Rt dX12_stands_20) l E
set_option maxHeartbeats 4000000 in
set_option maxRecDepth 100000 in
theorem hX12_tower {M : Mem} {a1 : Int32} {a2 : Int32} {res : Int32 × Mem} (h : mX12_tower M a1 a2 = some res) (l : Launch) (E : Ev) : CtI l E (Wm E) yX12_tower cX12_tower 4 .int 2 42 [.ref (em E 0), .int a1, .int a2] M res.1 res.2 :=
  ctI_of (Wf := Wm) (av := fun E => [.ref (em E 0), .int a1, .int a2]) (lv := fun E => [(0, .ref (em E 0)), (1, .int a1), (2, .int a2)]) (by decide) (fun _ => rfl) (fun _ => (Nat.le_of_ble_eq_true rfl)) (fun X F hx Rt => by
    have F : Fx X cX12_tower RX12 2 42 := F
    unfold mX12_tower at h
    refine g_iload_n (pc := 0) (x := a1) F dX12_tower_0 rfl 1 rfl ?_
    refine g_iconst (pc := 1) F dX12_tower_1 ic_0 ?_
    refine g_bipush (pc := 2) F dX12_tower_2 bp_19 ?_
    obtain ⟨r1, e2, h⟩ := bd_some h
    refine g_sI (pc := 4) (Wf := Wm) (As := [.int a1, .int (0 : Int32), .int (19 : Int32)]) (rest := []) F (hX12_in (M := M) e2 (xl X) (xE X)) kX12_in lX12_45 rfl rfl ⟨(Nat.le_of_ble_eq_true rfl), (Nat.le_of_ble_eq_true rfl)⟩ (Nat.le_of_ble_eq_true rfl) dX12_tower_4 ?_
    refine g_if_eq (pc := 7) (tgt := 17) F dX12_tower_7 (by decide) (fun c3 => ?_) (fun c3 => ?_)
    · have h := ite_t c3 h
      refine g_aload_n (pc := 17) (x := em (xE X) 0) F dX12_tower_17 rfl 0 rfl ?_
      refine g_ldc (pc := 18) F oX12_44 dX12_tower_18 ?_
      obtain ⟨q4, e5, h⟩ := bd_some h
      refine g_vI (pc := 20) (Wf := Wm) (As := [.int (-1000000001 : Int32)]) (rest := []) F (hX12_finds e5 (xl X) (xE X)) kX12_finds lX12_53 0 rfl rfl rfl rfl rfl ⟨(Nat.le_of_ble_eq_true rfl), (Nat.le_of_ble_eq_true rfl)⟩ (Nat.le_of_ble_eq_true rfl) dX12_tower_20 ?_
      obtain rfl := Option.some.inj h
      exact g_iret (pc := 23) (Wf := Wm) F Rt rfl dX12_tower_23
    · have h := ite_f c3 h
      refine g_iload_n (pc := 10) (x := a2) F dX12_tower_10 rfl 2 rfl ?_
      obtain ⟨r6, e7, h⟩ := bd_some h
      refine g_sI (pc := 11) (Wf := Wm) (As := [.int a2]) (rest := []) F (hX12_isRow (M := M) e7 (xl X) (xE X)) kX12_isRow lX12_49 rfl rfl ⟨(Nat.le_of_ble_eq_true rfl), (Nat.le_of_ble_eq_true rfl)⟩ (Nat.le_of_ble_eq_true rfl) dX12_tower_11 ?_
      refine g_if_ne (pc := 14) (tgt := 24) F dX12_tower_14 (by decide) (fun c8 => ?_) (fun c8 => ?_)
      · have h := ite_f c8 h
        refine g_aload_n (pc := 24) (x := em (xE X) 0) F dX12_tower_24 rfl 0 rfl ?_
        obtain ⟨r9, e10, h⟩ := bd_some h
        refine g_vI (pc := 25) (Wf := Wm) (As := []) (rest := []) F (hX12_place e10 (xl X) (xE X)) kX12_place lX12_57 0 rfl rfl rfl rfl rfl ⟨(Nat.le_of_ble_eq_true rfl), (Nat.le_of_ble_eq_true rfl)⟩ (Nat.le_of_ble_eq_true rfl) dX12_tower_25 ?_
        refine g_istore_n (pc := 28) (lv2 := [(0, .ref (em (xE X) 0)), (1, .int a1), (2, .int a2), (3, .int r9)]) F dX12_tower_28 rfl (by rw [hx]; decide) [1, 2, 3, 0] rfl ?_
        refine g_aload_n (pc := 29) (x := em (xE X) 0) F dX12_tower_29 rfl 0 rfl ?_
        refine g_bipush (pc := 30) F dX12_tower_30 bp_10 ?_
        refine g_iload_n (pc := 32) (x := a1) F dX12_tower_32 rfl 1 rfl ?_
        refine g_imul (pc := 33) F dX12_tower_33 ?_
        refine g_iload_n (pc := 34) (x := a2) F dX12_tower_34 rfl 2 rfl ?_
        refine g_iadd (pc := 35) F dX12_tower_35 ?_
        obtain ⟨M11, e12, h⟩ := bd_some h
        refine g_vV (pc := 36) (Wf := Wm) (As := [.int (((10 : Int32) * a1) + a2)]) (rest := []) F (hX12_stands e12 (xl X) (xE X)) kX12_stands lX12_61 0 rfl rfl rfl rfl rfl ⟨(Nat.le_of_ble_eq_true rfl), (Nat.le_of_ble_eq_true rfl)⟩ (Nat.le_of_ble_eq_true rfl) dX12_tower_36 ?_
        refine g_iload_n (pc := 39) (x := r9) F dX12_tower_39 rfl 3 rfl ?_
        obtain rfl := Option.some.inj h
        exact g_iret (pc := 40) (Wf := Wm) F Rt rfl dX12_tower_40
      · have h := ite_t c8 h
        refine g_aload_n (pc := 17) (x := em (xE X) 0) F dX12_tower_17 rfl 0 rfl ?_
        refine g_ldc (pc := 18) F oX12_44 dX12_tower_18 ?_
        obtain ⟨q13, e14, h⟩ := bd_some h
        refine g_vI (pc := 20) (Wf := Wm) (As := [.int (-1000000001 : Int32)]) (rest := []) F (hX12_finds e14 (xl X) (xE X)) kX12_finds lX12_53 0 rfl rfl rfl rfl rfl ⟨(Nat.le_of_ble_eq_true rfl), (Nat.le_of_ble_eq_true rfl)⟩ (Nat.le_of_ble_eq_true rfl) dX12_tower_20 ?_
        obtain rfl := Option.some.inj h
        exact g_iret (pc := 23) (Wf := Wm) F Rt rfl dX12_tower_23) l E
set_option maxHeartbeats 4000000 in
set_option maxRecDepth 100000 in
theorem hX12_lamp {M : Mem} {a1 : Int32} {res : Int32 × Mem} (h : mX12_lamp M a1 = some res) (l : Launch) (E : Ev) : CtI l E (Wm E) yX12_lamp cX12_lamp 2 .int 1 23 [.ref (em E 0), .int a1] M res.1 res.2 :=
  ctI_of (Wf := Wm) (av := fun E => [.ref (em E 0), .int a1]) (lv := fun E => [(0, .ref (em E 0)), (1, .int a1)]) (by decide) (fun _ => rfl) (fun _ => (Nat.le_of_ble_eq_true rfl)) (fun X F hx Rt => by
    have F : Fx X cX12_lamp RX12 1 23 := F
    unfold mX12_lamp at h
    refine g_iload_n (pc := 0) (x := a1) F dX12_lamp_0 rfl 1 rfl ?_
    refine g_iconst (pc := 1) F dX12_lamp_1 ic_0 ?_
    refine g_sipush (pc := 2) F dX12_lamp_2 sp_4095 ?_
    obtain ⟨r1, e2, h⟩ := bd_some h
    refine g_sI (pc := 5) (Wf := Wm) (As := [.int a1, .int (0 : Int32), .int (4095 : Int32)]) (rest := []) F (hX12_in (M := M) e2 (xl X) (xE X)) kX12_in lX12_45 rfl rfl ⟨(Nat.le_of_ble_eq_true rfl), (Nat.le_of_ble_eq_true rfl)⟩ (Nat.le_of_ble_eq_true rfl) dX12_lamp_5 ?_
    refine g_if_eq (pc := 8) (tgt := 20) F dX12_lamp_8 (by decide) (fun c3 => ?_) (fun c3 => ?_)
    · have h := ite_t c3 h
      refine g_aload_n (pc := 20) (x := em (xE X) 0) F dX12_lamp_20 rfl 0 rfl ?_
      refine g_ldc (pc := 21) F oX12_44 dX12_lamp_21 ?_
      obtain ⟨q4, e5, h⟩ := bd_some h
      refine g_vI (pc := 23) (Wf := Wm) (As := [.int (-1000000001 : Int32)]) (rest := []) F (hX12_finds e5 (xl X) (xE X)) kX12_finds lX12_53 0 rfl rfl rfl rfl rfl ⟨(Nat.le_of_ble_eq_true rfl), (Nat.le_of_ble_eq_true rfl)⟩ (Nat.le_of_ble_eq_true rfl) dX12_lamp_23 ?_
      obtain rfl := Option.some.inj h
      exact g_iret (pc := 26) (Wf := Wm) F Rt rfl dX12_lamp_26
    · have h := ite_f c3 h
      refine g_aload_n (pc := 11) (x := em (xE X) 0) F dX12_lamp_11 rfl 0 rfl ?_
      refine g_iconst (pc := 12) F dX12_lamp_12 ic_3 ?_
      refine g_iload_n (pc := 13) (x := a1) F dX12_lamp_13 rfl 1 rfl ?_
      obtain ⟨q6, e7, h⟩ := bd_some h
      refine g_vI (pc := 14) (Wf := Wm) (As := [.int (3 : Int32), .int a1]) (rest := []) F (hX12_becomes e7 (xl X) (xE X)) kX12_becomes lX12_65 0 rfl rfl rfl rfl rfl ⟨(Nat.le_of_ble_eq_true rfl), (Nat.le_of_ble_eq_true rfl)⟩ (Nat.le_of_ble_eq_true rfl) dX12_lamp_14 ?_
      refine g_goto (pc := 17) (tgt := 26) F dX12_lamp_17 (by decide) ?_
      obtain rfl := Option.some.inj h
      exact g_iret (pc := 26) (Wf := Wm) F Rt rfl dX12_lamp_26) l E
set_option maxHeartbeats 4000000 in
set_option maxRecDepth 100000 in
theorem hX12_reach {M : Mem} {a1 : Int32} {res : Int32 × Mem} (h : mX12_reach M a1 = some res) (l : Launch) (E : Ev) : CtI l E (Wm E) yX12_reach cX12_reach 2 .int 1 23 [.ref (em E 0), .int a1] M res.1 res.2 :=
  ctI_of (Wf := Wm) (av := fun E => [.ref (em E 0), .int a1]) (lv := fun E => [(0, .ref (em E 0)), (1, .int a1)]) (by decide) (fun _ => rfl) (fun _ => (Nat.le_of_ble_eq_true rfl)) (fun X F hx Rt => by
    have F : Fx X cX12_reach RX12 1 23 := F
    unfold mX12_reach at h
    refine g_iload_n (pc := 0) (x := a1) F dX12_reach_0 rfl 1 rfl ?_
    refine g_iconst (pc := 1) F dX12_reach_1 ic_0 ?_
    refine g_bipush (pc := 2) F dX12_reach_2 bp_9 ?_
    obtain ⟨r1, e2, h⟩ := bd_some h
    refine g_sI (pc := 4) (Wf := Wm) (As := [.int a1, .int (0 : Int32), .int (9 : Int32)]) (rest := []) F (hX12_in (M := M) e2 (xl X) (xE X)) kX12_in lX12_45 rfl rfl ⟨(Nat.le_of_ble_eq_true rfl), (Nat.le_of_ble_eq_true rfl)⟩ (Nat.le_of_ble_eq_true rfl) dX12_reach_4 ?_
    refine g_if_eq (pc := 7) (tgt := 19) F dX12_reach_7 (by decide) (fun c3 => ?_) (fun c3 => ?_)
    · have h := ite_t c3 h
      refine g_aload_n (pc := 19) (x := em (xE X) 0) F dX12_reach_19 rfl 0 rfl ?_
      refine g_ldc (pc := 20) F oX12_44 dX12_reach_20 ?_
      obtain ⟨q4, e5, h⟩ := bd_some h
      refine g_vI (pc := 22) (Wf := Wm) (As := [.int (-1000000001 : Int32)]) (rest := []) F (hX12_finds e5 (xl X) (xE X)) kX12_finds lX12_53 0 rfl rfl rfl rfl rfl ⟨(Nat.le_of_ble_eq_true rfl), (Nat.le_of_ble_eq_true rfl)⟩ (Nat.le_of_ble_eq_true rfl) dX12_reach_22 ?_
      obtain rfl := Option.some.inj h
      exact g_iret (pc := 25) (Wf := Wm) F Rt rfl dX12_reach_25
    · have h := ite_f c3 h
      refine g_aload_n (pc := 10) (x := em (xE X) 0) F dX12_reach_10 rfl 0 rfl ?_
      refine g_iconst (pc := 11) F dX12_reach_11 ic_4 ?_
      refine g_iload_n (pc := 12) (x := a1) F dX12_reach_12 rfl 1 rfl ?_
      obtain ⟨q6, e7, h⟩ := bd_some h
      refine g_vI (pc := 13) (Wf := Wm) (As := [.int (4 : Int32), .int a1]) (rest := []) F (hX12_becomes e7 (xl X) (xE X)) kX12_becomes lX12_65 0 rfl rfl rfl rfl rfl ⟨(Nat.le_of_ble_eq_true rfl), (Nat.le_of_ble_eq_true rfl)⟩ (Nat.le_of_ble_eq_true rfl) dX12_reach_13 ?_
      refine g_goto (pc := 16) (tgt := 25) F dX12_reach_16 (by decide) ?_
      obtain rfl := Option.some.inj h
      exact g_iret (pc := 25) (Wf := Wm) F Rt rfl dX12_reach_25) l E
set_option maxHeartbeats 4000000 in
set_option maxRecDepth 100000 in
theorem wX12_setOf_b4 {X : Cx} (F : Fx X cX12_setOf RX12 1 22) (hx : xn X = 4) {N : Nat} {M : Mem} {res : Int32} (Rt : RI X Wm .int res M) : ∀ (n : Nat) (a1 : Int32) (a2 : Int32) (a3 : Int32), mX12_setOf_b4 N M n a1 a2 a3 = some res → G X (Wm (xE X) M) 4 [(0, .ref (em (xE X) 0)), (1, .int a1), (2, .int a2), (3, .int a3)] [] := by
  intro n
  induction n with
  | zero =>
    intro a1 a2 a3 h
    have h : none = some res := h
    cases h
  | succ n ih =>
    intro a1 a2 a3 h
    rw [mX12_setOf_b4] at h
    refine g_iload_n (pc := 4) (x := a3) F dX12_setOf_4 rfl 3 rfl ?_
    refine g_aload_n (pc := 5) (x := em (xE X) 0) F dX12_setOf_5 rfl 0 rfl ?_
    refine g_get (pc := 6) (v := .ref (em (xE X) 1)) F fX12_7 0 rfl rfl dX12_setOf_6 ?_
    refine g_iconst (pc := 9) F dX12_setOf_9 ic_5 ?_
    refine g_iald (pc := 10) (N := 48) (fn := M.1 0) (j := 5) F 1 0 rfl rfl vi_5_48 cl_5 dX12_setOf_10 ?_
    refine g_icmp_ge (pc := 11) (tgt := 31) F dX12_setOf_11 (by decide) (fun c1 => ?_) (fun c1 => ?_)
    · have h := ite_t c1 h
      refine g_iload_n (pc := 31) (x := a2) F dX12_setOf_31 rfl 2 rfl ?_
      obtain rfl := Option.some.inj h
      exact g_iret (pc := 32) (Wf := Wm) F Rt rfl dX12_setOf_32
    · have h := ite_f c1 h
      refine g_iload_n (pc := 14) (x := a2) F dX12_setOf_14 rfl 2 rfl ?_
      refine g_aload_n (pc := 15) (x := em (xE X) 0) F dX12_setOf_15 rfl 0 rfl ?_
      refine g_iload_n (pc := 16) (x := a3) F dX12_setOf_16 rfl 3 rfl ?_
      refine g_iload_n (pc := 17) (x := a1) F dX12_setOf_17 rfl 1 rfl ?_
      obtain ⟨r2, e3, h⟩ := bd_some h
      refine g_vI (pc := 18) (Wf := Wm) (As := [.int a3, .int a1]) (rest := [.int a2]) F (hX12_its e3 (xl X) (xE X)) kX12_its lX12_69 0 rfl rfl rfl rfl rfl ⟨(Nat.le_of_ble_eq_true rfl), (Nat.le_of_ble_eq_true rfl)⟩ (Nat.le_of_ble_eq_true rfl) dX12_setOf_18 ?_
      refine g_iload_n (pc := 21) (x := a3) F dX12_setOf_21 rfl 3 rfl ?_
      refine g_ishl (pc := 22) F dX12_setOf_22 ?_
      refine g_ior (pc := 23) F dX12_setOf_23 ?_
      refine g_istore_n (pc := 24) (lv2 := [(0, .ref (em (xE X) 0)), (1, .int a1), (2, .int (a2 ||| (r2 <<< (a3 &&& 31)))), (3, .int a3)]) F dX12_setOf_24 rfl (by rw [hx]; decide) [1, 2, 0, 3] rfl ?_
      refine g_iinc (pc := 25) (lv2 := [(0, .ref (em (xE X) 0)), (1, .int a1), (2, .int (a2 ||| (r2 <<< (a3 &&& 31)))), (3, .int (a3 + (1 : Int32)))]) F dX12_setOf_25 3 rfl (ii_1 _) (by rw [hx]; decide) [1, 2, 3, 0] rfl ?_
      refine g_goto (pc := 28) (tgt := 4) F dX12_setOf_28 (by decide) ?_
      refine g_sub [0, 1, 2, 3] rfl ?_
      exact ih a1 (a2 ||| (r2 <<< (a3 &&& 31))) (a3 + (1 : Int32)) h
set_option maxHeartbeats 4000000 in
set_option maxRecDepth 100000 in
theorem hX12_setOf {N : Nat} {M : Mem} {a1 : Int32} {res : Int32} (h : mX12_setOf N M a1 = some res) (l : Launch) (E : Ev) : CtI l E (Wm E) yX12_setOf cX12_setOf 4 .int 1 22 [.ref (em E 0), .int a1] M res M :=
  ctI_of (Wf := Wm) (av := fun E => [.ref (em E 0), .int a1]) (lv := fun E => [(0, .ref (em E 0)), (1, .int a1)]) (by decide) (fun _ => rfl) (fun _ => (Nat.le_of_ble_eq_true rfl)) (fun X F hx Rt => by
    have F : Fx X cX12_setOf RX12 1 22 := F
    unfold mX12_setOf at h
    refine g_iconst (pc := 0) F dX12_setOf_0 ic_0 ?_
    refine g_istore_n (pc := 1) (lv2 := [(0, .ref (em (xE X) 0)), (1, .int a1), (2, .int (0 : Int32))]) F dX12_setOf_1 rfl (by rw [hx]; decide) [1, 2, 0] rfl ?_
    refine g_iconst (pc := 2) F dX12_setOf_2 ic_0 ?_
    refine g_istore_n (pc := 3) (lv2 := [(0, .ref (em (xE X) 0)), (1, .int a1), (2, .int (0 : Int32)), (3, .int (0 : Int32))]) F dX12_setOf_3 rfl (by rw [hx]; decide) [1, 2, 3, 0] rfl ?_
    refine g_sub [0, 1, 2, 3] rfl ?_
    exact wX12_setOf_b4 F hx Rt N a1 (0 : Int32) (0 : Int32) h) l E
set_option maxHeartbeats 4000000 in
set_option maxRecDepth 100000 in
theorem wX12_costOfAll_b4 {X : Cx} (F : Fx X cX12_costOfAll RX12 1 22) (hx : xn X = 3) {N : Nat} {M : Mem} {res : Int32} (Rt : RI X Wm .int res M) : ∀ (n : Nat) (a1 : Int32) (a2 : Int32), mX12_costOfAll_b4 N M n a1 a2 = some res → G X (Wm (xE X) M) 4 [(0, .ref (em (xE X) 0)), (1, .int a1), (2, .int a2)] [] := by
  intro n
  induction n with
  | zero =>
    intro a1 a2 h
    have h : none = some res := h
    cases h
  | succ n ih =>
    intro a1 a2 h
    rw [mX12_costOfAll_b4] at h
    refine g_iload_n (pc := 4) (x := a2) F dX12_costOfAll_4 rfl 2 rfl ?_
    refine g_aload_n (pc := 5) (x := em (xE X) 0) F dX12_costOfAll_5 rfl 0 rfl ?_
    refine g_get (pc := 6) (v := .ref (em (xE X) 1)) F fX12_7 0 rfl rfl dX12_costOfAll_6 ?_
    refine g_iconst (pc := 9) F dX12_costOfAll_9 ic_5 ?_
    refine g_iald (pc := 10) (N := 48) (fn := M.1 0) (j := 5) F 1 0 rfl rfl vi_5_48 cl_5 dX12_costOfAll_10 ?_
    refine g_icmp_ge (pc := 11) (tgt := 29) F dX12_costOfAll_11 (by decide) (fun c1 => ?_) (fun c1 => ?_)
    · have h := ite_t c1 h
      refine g_iload_n (pc := 29) (x := a1) F dX12_costOfAll_29 rfl 1 rfl ?_
      obtain rfl := Option.some.inj h
      exact g_iret (pc := 30) (Wf := Wm) F Rt rfl dX12_costOfAll_30
    · have h := ite_f c1 h
      refine g_iload_n (pc := 14) (x := a1) F dX12_costOfAll_14 rfl 1 rfl ?_
      refine g_aload_n (pc := 15) (x := em (xE X) 0) F dX12_costOfAll_15 rfl 0 rfl ?_
      refine g_iload_n (pc := 16) (x := a2) F dX12_costOfAll_16 rfl 2 rfl ?_
      refine g_iconst (pc := 17) F dX12_costOfAll_17 ic_3 ?_
      obtain ⟨r2, e3, h⟩ := bd_some h
      refine g_vI (pc := 18) (Wf := Wm) (As := [.int a2, .int (3 : Int32)]) (rest := [.int a1]) F (hX12_its e3 (xl X) (xE X)) kX12_its lX12_69 0 rfl rfl rfl rfl rfl ⟨(Nat.le_of_ble_eq_true rfl), (Nat.le_of_ble_eq_true rfl)⟩ (Nat.le_of_ble_eq_true rfl) dX12_costOfAll_18 ?_
      refine g_iadd (pc := 21) F dX12_costOfAll_21 ?_
      refine g_istore_n (pc := 22) (lv2 := [(0, .ref (em (xE X) 0)), (1, .int (a1 + r2)), (2, .int a2)]) F dX12_costOfAll_22 rfl (by rw [hx]; decide) [1, 0, 2] rfl ?_
      refine g_iinc (pc := 23) (lv2 := [(0, .ref (em (xE X) 0)), (1, .int (a1 + r2)), (2, .int (a2 + (1 : Int32)))]) F dX12_costOfAll_23 2 rfl (ii_1 _) (by rw [hx]; decide) [1, 2, 0] rfl ?_
      refine g_goto (pc := 26) (tgt := 4) F dX12_costOfAll_26 (by decide) ?_
      refine g_sub [0, 1, 2] rfl ?_
      exact ih (a1 + r2) (a2 + (1 : Int32)) h
set_option maxHeartbeats 4000000 in
set_option maxRecDepth 100000 in
theorem hX12_costOfAll {N : Nat} {M : Mem} {res : Int32} (h : mX12_costOfAll N M = some res) (l : Launch) (E : Ev) : CtI l E (Wm E) yX12_costOfAll cX12_costOfAll 3 .int 1 22 [.ref (em E 0)] M res M :=
  ctI_of (Wf := Wm) (av := fun E => [.ref (em E 0)]) (lv := fun E => [(0, .ref (em E 0))]) (by decide) (fun _ => rfl) (fun _ => (Nat.le_of_ble_eq_true rfl)) (fun X F hx Rt => by
    have F : Fx X cX12_costOfAll RX12 1 22 := F
    unfold mX12_costOfAll at h
    refine g_iconst (pc := 0) F dX12_costOfAll_0 ic_0 ?_
    refine g_istore_n (pc := 1) (lv2 := [(0, .ref (em (xE X) 0)), (1, .int (0 : Int32))]) F dX12_costOfAll_1 rfl (by rw [hx]; decide) [1, 0] rfl ?_
    refine g_iconst (pc := 2) F dX12_costOfAll_2 ic_0 ?_
    refine g_istore_n (pc := 3) (lv2 := [(0, .ref (em (xE X) 0)), (1, .int (0 : Int32)), (2, .int (0 : Int32))]) F dX12_costOfAll_3 rfl (by rw [hx]; decide) [1, 2, 0] rfl ?_
    refine g_sub [0, 1, 2] rfl ?_
    exact wX12_costOfAll_b4 F hx Rt N (0 : Int32) (0 : Int32) h) l E
set_option maxHeartbeats 4000000 in
set_option maxRecDepth 100000 in
theorem hX12_now {N : Nat} {M : Mem} {a1 : Int32} {res : Int32 × Mem} (h : mX12_now N M a1 = some res) (l : Launch) (E : Ev) : CtI l E (Wm E) yX12_now cX12_now 2 .int 2 45 [.ref (em E 0), .int a1] M res.1 res.2 :=
  ctI_of (Wf := Wm) (av := fun E => [.ref (em E 0), .int a1]) (lv := fun E => [(0, .ref (em E 0)), (1, .int a1)]) (by decide) (fun _ => rfl) (fun _ => (Nat.le_of_ble_eq_true rfl)) (fun X F hx Rt => by
    have F : Fx X cX12_now RX12 2 45 := F
    unfold mX12_now at h
    refine g_iload_n (pc := 0) (x := a1) F dX12_now_0 rfl 1 rfl ?_
    by_cases c1 : a1 = (0 : Int32)
    · have h := ite_t c1 h
      refine g_tswIn (pc := 1) (tgt := 48) (v := 0) F dX12_now_1 (by rw [c1]; decide) (by decide) (by decide) rfl (by decide) ?_
      refine g_aload_n (pc := 48) (x := em (xE X) 0) F dX12_now_48 rfl 0 rfl ?_
      refine g_get (pc := 49) (v := .ref (em (xE X) 1)) F fX12_7 0 rfl rfl dX12_now_49 ?_
      refine g_iconst (pc := 52) F dX12_now_52 ic_0 ?_
      refine g_iald (pc := 53) (N := 48) (fn := M.1 0) (j := 0) F 1 0 rfl rfl vi_0_48 cl_0 dX12_now_53 ?_
      obtain rfl := Option.some.inj h
      exact g_iret (pc := 54) (Wf := Wm) F Rt rfl dX12_now_54
    · have h := ite_f c1 h
      by_cases c2 : a1 = (1 : Int32)
      · have h := ite_t c2 h
        refine g_tswIn (pc := 1) (tgt := 55) (v := 1) F dX12_now_1 (by rw [c2]; decide) (by decide) (by decide) rfl (by decide) ?_
        refine g_aload_n (pc := 55) (x := em (xE X) 0) F dX12_now_55 rfl 0 rfl ?_
        refine g_get (pc := 56) (v := .ref (em (xE X) 1)) F fX12_7 0 rfl rfl dX12_now_56 ?_
        refine g_iconst (pc := 59) F dX12_now_59 ic_0 ?_
        refine g_iald (pc := 60) (N := 48) (fn := M.1 0) (j := 0) F 1 0 rfl rfl vi_0_48 cl_0 dX12_now_60 ?_
        refine g_bipush (pc := 61) F dX12_now_61 bp_12 ?_
        refine g_irem (pc := 63) F dX12_now_63 (by decide) ?_
        obtain rfl := Option.some.inj h
        exact g_iret (pc := 64) (Wf := Wm) F Rt rfl dX12_now_64
      · have h := ite_f c2 h
        by_cases c3 : a1 = (2 : Int32)
        · have h := ite_t c3 h
          refine g_tswIn (pc := 1) (tgt := 65) (v := 2) F dX12_now_1 (by rw [c3]; decide) (by decide) (by decide) rfl (by decide) ?_
          refine g_aload_n (pc := 65) (x := em (xE X) 0) F dX12_now_65 rfl 0 rfl ?_
          obtain ⟨r9, e10, h⟩ := bd_some h
          refine g_vI (pc := 66) (Wf := Wm) (As := []) (rest := []) F (hX12_isNight e10 (xl X) (xE X)) kX12_isNight lX12_72 0 rfl rfl rfl rfl rfl ⟨(Nat.le_of_ble_eq_true rfl), (Nat.le_of_ble_eq_true rfl)⟩ (Nat.le_of_ble_eq_true rfl) dX12_now_66 ?_
          refine g_if_eq (pc := 69) (tgt := 76) F dX12_now_69 (by decide) (fun c11 => ?_) (fun c11 => ?_)
          · have h := ite_t c11 h
            refine g_iconst (pc := 76) F dX12_now_76 ic_0 ?_
            obtain rfl := Option.some.inj h
            exact g_iret (pc := 77) (Wf := Wm) F Rt rfl dX12_now_77
          · have h := ite_f c11 h
            refine g_iconst (pc := 72) F dX12_now_72 ic_1 ?_
            refine g_goto (pc := 73) (tgt := 77) F dX12_now_73 (by decide) ?_
            obtain rfl := Option.some.inj h
            exact g_iret (pc := 77) (Wf := Wm) F Rt rfl dX12_now_77
        · have h := ite_f c3 h
          by_cases c4 : a1 = (3 : Int32)
          · have h := ite_t c4 h
            refine g_tswIn (pc := 1) (tgt := 78) (v := 3) F dX12_now_1 (by rw [c4]; decide) (by decide) (by decide) rfl (by decide) ?_
            refine g_aload_n (pc := 78) (x := em (xE X) 0) F dX12_now_78 rfl 0 rfl ?_
            obtain ⟨r12, e13, h⟩ := bd_some h
            refine g_vI (pc := 79) (Wf := Wm) (As := []) (rest := []) F (hX12_isBurning e13 (xl X) (xE X)) kX12_isBurning lX12_76 0 rfl rfl rfl rfl rfl ⟨(Nat.le_of_ble_eq_true rfl), (Nat.le_of_ble_eq_true rfl)⟩ (Nat.le_of_ble_eq_true rfl) dX12_now_79 ?_
            refine g_if_eq (pc := 82) (tgt := 89) F dX12_now_82 (by decide) (fun c14 => ?_) (fun c14 => ?_)
            · have h := ite_t c14 h
              refine g_iconst (pc := 89) F dX12_now_89 ic_0 ?_
              obtain rfl := Option.some.inj h
              exact g_iret (pc := 90) (Wf := Wm) F Rt rfl dX12_now_90
            · have h := ite_f c14 h
              refine g_iconst (pc := 85) F dX12_now_85 ic_1 ?_
              refine g_goto (pc := 86) (tgt := 90) F dX12_now_86 (by decide) ?_
              obtain rfl := Option.some.inj h
              exact g_iret (pc := 90) (Wf := Wm) F Rt rfl dX12_now_90
          · have h := ite_f c4 h
            by_cases c5 : a1 = (4 : Int32)
            · have h := ite_t c5 h
              refine g_tswIn (pc := 1) (tgt := 91) (v := 4) F dX12_now_1 (by rw [c5]; decide) (by decide) (by decide) rfl (by decide) ?_
              refine g_aload_n (pc := 91) (x := em (xE X) 0) F dX12_now_91 rfl 0 rfl ?_
              obtain ⟨r15, e16, h⟩ := bd_some h
              refine g_vI (pc := 92) (Wf := Wm) (As := []) (rest := []) F (hX12_place e16 (xl X) (xE X)) kX12_place lX12_57 0 rfl rfl rfl rfl rfl ⟨(Nat.le_of_ble_eq_true rfl), (Nat.le_of_ble_eq_true rfl)⟩ (Nat.le_of_ble_eq_true rfl) dX12_now_92 ?_
              obtain rfl := Option.some.inj h
              exact g_iret (pc := 95) (Wf := Wm) F Rt rfl dX12_now_95
            · have h := ite_f c5 h
              by_cases c6 : a1 = (5 : Int32)
              · have h := ite_t c6 h
                refine g_tswIn (pc := 1) (tgt := 96) (v := 5) F dX12_now_1 (by rw [c6]; decide) (by decide) (by decide) rfl (by decide) ?_
                refine g_aload_n (pc := 96) (x := em (xE X) 0) F dX12_now_96 rfl 0 rfl ?_
                refine g_get (pc := 97) (v := .ref (em (xE X) 1)) F fX12_7 0 rfl rfl dX12_now_97 ?_
                refine g_iconst (pc := 100) F dX12_now_100 ic_4 ?_
                refine g_iald (pc := 101) (N := 48) (fn := M.1 0) (j := 4) F 1 0 rfl rfl vi_4_48 cl_4 dX12_now_101 ?_
                obtain rfl := Option.some.inj h
                exact g_iret (pc := 102) (Wf := Wm) F Rt rfl dX12_now_102
              · have h := ite_f c6 h
                by_cases c7 : a1 = (6 : Int32)
                · have h := ite_t c7 h
                  refine g_tswIn (pc := 1) (tgt := 103) (v := 6) F dX12_now_1 (by rw [c7]; decide) (by decide) (by decide) rfl (by decide) ?_
                  refine g_aload_n (pc := 103) (x := em (xE X) 0) F dX12_now_103 rfl 0 rfl ?_
                  refine g_iconst (pc := 104) F dX12_now_104 ic_5 ?_
                  obtain ⟨r17, e18, h⟩ := bd_some h
                  refine g_vI (pc := 105) (Wf := Wm) (As := [.int (5 : Int32)]) (rest := []) F (hX12_setOf e18 (xl X) (xE X)) kX12_setOf lX12_79 0 rfl rfl rfl rfl rfl ⟨(Nat.le_of_ble_eq_true rfl), (Nat.le_of_ble_eq_true rfl)⟩ (Nat.le_of_ble_eq_true rfl) dX12_now_105 ?_
                  obtain rfl := Option.some.inj h
                  exact g_iret (pc := 108) (Wf := Wm) F Rt rfl dX12_now_108
                · have h := ite_f c7 h
                  by_cases c8 : a1 = (7 : Int32)
                  · have h := ite_t c8 h
                    refine g_tswIn (pc := 1) (tgt := 109) (v := 7) F dX12_now_1 (by rw [c8]; decide) (by decide) (by decide) rfl (by decide) ?_
                    refine g_aload_n (pc := 109) (x := em (xE X) 0) F dX12_now_109 rfl 0 rfl ?_
                    refine g_bipush (pc := 110) F dX12_now_110 bp_6 ?_
                    obtain ⟨r19, e20, h⟩ := bd_some h
                    refine g_vI (pc := 112) (Wf := Wm) (As := [.int (6 : Int32)]) (rest := []) F (hX12_setOf e20 (xl X) (xE X)) kX12_setOf lX12_79 0 rfl rfl rfl rfl rfl ⟨(Nat.le_of_ble_eq_true rfl), (Nat.le_of_ble_eq_true rfl)⟩ (Nat.le_of_ble_eq_true rfl) dX12_now_112 ?_
                    obtain rfl := Option.some.inj h
                    exact g_iret (pc := 115) (Wf := Wm) F Rt rfl dX12_now_115
                  · have h := ite_f c8 h
                    refine g_tswOut (pc := 1) (tgt := 116) F dX12_now_1 (by have z0 := lv_neT (a := 0) c1 (by decide); have z1 := lv_neT (a := 1) c2 (by decide); have z2 := lv_neT (a := 2) c3 (by decide); have z3 := lv_neT (a := 3) c4 (by decide); have z4 := lv_neT (a := 4) c5 (by decide); have z5 := lv_neT (a := 5) c6 (by decide); have z6 := lv_neT (a := 6) c7 (by decide); have z7 := lv_neT (a := 7) c8 (by decide); omega) (by decide) ?_
                    refine g_aload_n (pc := 116) (x := em (xE X) 0) F dX12_now_116 rfl 0 rfl ?_
                    refine g_ldc (pc := 117) F oX12_44 dX12_now_117 ?_
                    obtain ⟨q21, e22, h⟩ := bd_some h
                    refine g_vI (pc := 119) (Wf := Wm) (As := [.int (-1000000001 : Int32)]) (rest := []) F (hX12_finds e22 (xl X) (xE X)) kX12_finds lX12_53 0 rfl rfl rfl rfl rfl ⟨(Nat.le_of_ble_eq_true rfl), (Nat.le_of_ble_eq_true rfl)⟩ (Nat.le_of_ble_eq_true rfl) dX12_now_119 ?_
                    obtain rfl := Option.some.inj h
                    exact g_iret (pc := 122) (Wf := Wm) F Rt rfl dX12_now_122) l E
set_option maxHeartbeats 4000000 in
set_option maxRecDepth 100000 in
theorem hX12_apart {M : Mem} {a0 : Int32} {a1 : Int32} {res : Int32} (h : mX12_apart a0 a1 = some res) (l : Launch) (E : Ev) : CtI l E (Wm E) yX12_apart cX12_apart 2 .int 0 0 [.int a0, .int a1] M res M :=
  ctI_of (Wf := Wm) (av := fun E => [.int a0, .int a1]) (lv := fun E => [(0, .int a0), (1, .int a1)]) (by decide) (fun _ => rfl) (fun _ => (Nat.le_of_ble_eq_true rfl)) (fun X F hx Rt => by
    have F : Fx X cX12_apart RX12 0 0 := F
    unfold mX12_apart at h
    refine g_iload_n (pc := 0) (x := a0) F dX12_apart_0 rfl 0 rfl ?_
    refine g_iload_n (pc := 1) (x := a1) F dX12_apart_1 rfl 1 rfl ?_
    refine g_icmp_le (pc := 2) (tgt := 11) F dX12_apart_2 (by decide) (fun c1 => ?_) (fun c1 => ?_)
    · have h := ite_t c1 h
      refine g_iload_n (pc := 11) (x := a1) F dX12_apart_11 rfl 1 rfl ?_
      refine g_iload_n (pc := 12) (x := a0) F dX12_apart_12 rfl 0 rfl ?_
      refine g_isub (pc := 13) F dX12_apart_13 ?_
      obtain rfl := Option.some.inj h
      exact g_iret (pc := 14) (Wf := Wm) F Rt rfl dX12_apart_14
    · have h := ite_f c1 h
      refine g_iload_n (pc := 5) (x := a0) F dX12_apart_5 rfl 0 rfl ?_
      refine g_iload_n (pc := 6) (x := a1) F dX12_apart_6 rfl 1 rfl ?_
      refine g_isub (pc := 7) F dX12_apart_7 ?_
      refine g_goto (pc := 8) (tgt := 14) F dX12_apart_8 (by decide) ?_
      obtain rfl := Option.some.inj h
      exact g_iret (pc := 14) (Wf := Wm) F Rt rfl dX12_apart_14) l E
set_option maxHeartbeats 4000000 in
set_option maxRecDepth 100000 in
theorem hX12_distance {M : Mem} {a1 : Int32} {res : Int32} (h : mX12_distance M a1 = some res) (l : Launch) (E : Ev) : CtI l E (Wm E) yX12_distance cX12_distance 4 .int 1 22 [.ref (em E 0), .int a1] M res M :=
  ctI_of (Wf := Wm) (av := fun E => [.ref (em E 0), .int a1]) (lv := fun E => [(0, .ref (em E 0)), (1, .int a1)]) (by decide) (fun _ => rfl) (fun _ => (Nat.le_of_ble_eq_true rfl)) (fun X F hx Rt => by
    have F : Fx X cX12_distance RX12 1 22 := F
    unfold mX12_distance at h
    refine g_aload_n (pc := 0) (x := em (xE X) 0) F dX12_distance_0 rfl 0 rfl ?_
    refine g_iload_n (pc := 1) (x := a1) F dX12_distance_1 rfl 1 rfl ?_
    refine g_iconst (pc := 2) F dX12_distance_2 ic_1 ?_
    obtain ⟨r1, e2, h⟩ := bd_some h
    refine g_vI (pc := 3) (Wf := Wm) (As := [.int a1, .int (1 : Int32)]) (rest := []) F (hX12_its e2 (xl X) (xE X)) kX12_its lX12_69 0 rfl rfl rfl rfl rfl ⟨(Nat.le_of_ble_eq_true rfl), (Nat.le_of_ble_eq_true rfl)⟩ (Nat.le_of_ble_eq_true rfl) dX12_distance_3 ?_
    refine g_aload_n (pc := 6) (x := em (xE X) 0) F dX12_distance_6 rfl 0 rfl ?_
    refine g_get (pc := 7) (v := .ref (em (xE X) 1)) F fX12_7 0 rfl rfl dX12_distance_7 ?_
    refine g_iconst (pc := 10) F dX12_distance_10 ic_1 ?_
    refine g_iald (pc := 11) (N := 48) (fn := M.1 0) (j := 1) F 1 0 rfl rfl vi_1_48 cl_1 dX12_distance_11 ?_
    obtain ⟨r3, e4, h⟩ := bd_some h
    refine g_sI (pc := 12) (Wf := Wm) (As := [.int r1, .int (M.1 0 1)]) (rest := []) F (hX12_apart (M := M) e4 (xl X) (xE X)) kX12_apart lX12_82 rfl rfl ⟨(Nat.le_of_ble_eq_true rfl), (Nat.le_of_ble_eq_true rfl)⟩ (Nat.le_of_ble_eq_true rfl) dX12_distance_12 ?_
    refine g_istore_n (pc := 15) (lv2 := [(0, .ref (em (xE X) 0)), (1, .int a1), (2, .int r3)]) F dX12_distance_15 rfl (by rw [hx]; decide) [1, 2, 0] rfl ?_
    refine g_aload_n (pc := 16) (x := em (xE X) 0) F dX12_distance_16 rfl 0 rfl ?_
    refine g_iload_n (pc := 17) (x := a1) F dX12_distance_17 rfl 1 rfl ?_
    refine g_iconst (pc := 18) F dX12_distance_18 ic_2 ?_
    obtain ⟨r5, e6, h⟩ := bd_some h
    refine g_vI (pc := 19) (Wf := Wm) (As := [.int a1, .int (2 : Int32)]) (rest := []) F (hX12_its e6 (xl X) (xE X)) kX12_its lX12_69 0 rfl rfl rfl rfl rfl ⟨(Nat.le_of_ble_eq_true rfl), (Nat.le_of_ble_eq_true rfl)⟩ (Nat.le_of_ble_eq_true rfl) dX12_distance_19 ?_
    refine g_aload_n (pc := 22) (x := em (xE X) 0) F dX12_distance_22 rfl 0 rfl ?_
    refine g_get (pc := 23) (v := .ref (em (xE X) 1)) F fX12_7 0 rfl rfl dX12_distance_23 ?_
    refine g_iconst (pc := 26) F dX12_distance_26 ic_2 ?_
    refine g_iald (pc := 27) (N := 48) (fn := M.1 0) (j := 2) F 1 0 rfl rfl vi_2_48 cl_2 dX12_distance_27 ?_
    obtain ⟨r7, e8, h⟩ := bd_some h
    refine g_sI (pc := 28) (Wf := Wm) (As := [.int r5, .int (M.1 0 2)]) (rest := []) F (hX12_apart (M := M) e8 (xl X) (xE X)) kX12_apart lX12_82 rfl rfl ⟨(Nat.le_of_ble_eq_true rfl), (Nat.le_of_ble_eq_true rfl)⟩ (Nat.le_of_ble_eq_true rfl) dX12_distance_28 ?_
    refine g_istore_n (pc := 31) (lv2 := [(0, .ref (em (xE X) 0)), (1, .int a1), (2, .int r3), (3, .int r7)]) F dX12_distance_31 rfl (by rw [hx]; decide) [1, 2, 3, 0] rfl ?_
    refine g_iload_n (pc := 32) (x := r3) F dX12_distance_32 rfl 2 rfl ?_
    refine g_iload_n (pc := 33) (x := r7) F dX12_distance_33 rfl 3 rfl ?_
    refine g_icmp_le (pc := 34) (tgt := 41) F dX12_distance_34 (by decide) (fun c9 => ?_) (fun c9 => ?_)
    · have h := ite_t c9 h
      refine g_iload_n (pc := 41) (x := r7) F dX12_distance_41 rfl 3 rfl ?_
      obtain rfl := Option.some.inj h
      exact g_iret (pc := 42) (Wf := Wm) F Rt rfl dX12_distance_42
    · have h := ite_f c9 h
      refine g_iload_n (pc := 37) (x := r3) F dX12_distance_37 rfl 2 rfl ?_
      refine g_goto (pc := 38) (tgt := 42) F dX12_distance_38 (by decide) ?_
      obtain rfl := Option.some.inj h
      exact g_iret (pc := 42) (Wf := Wm) F Rt rfl dX12_distance_42) l E
set_option maxHeartbeats 4000000 in
set_option maxRecDepth 100000 in
theorem hX12_isSeeing {M : Mem} {a1 : Int32} {res : Int32} (h : mX12_isSeeing M a1 = some res) (l : Launch) (E : Ev) : CtI l E (Wm E) yX12_isSeeing cX12_isSeeing 5 .boolean 2 45 [.ref (em E 0), .int a1] M res M :=
  ctI_of (Wf := Wm) (av := fun E => [.ref (em E 0), .int a1]) (lv := fun E => [(0, .ref (em E 0)), (1, .int a1)]) (by decide) (fun _ => rfl) (fun _ => (Nat.le_of_ble_eq_true rfl)) (fun X F hx Rt => by
    have F : Fx X cX12_isSeeing RX12 2 45 := F
    unfold mX12_isSeeing at h
    refine g_aload_n (pc := 0) (x := em (xE X) 0) F dX12_isSeeing_0 rfl 0 rfl ?_
    refine g_iload_n (pc := 1) (x := a1) F dX12_isSeeing_1 rfl 1 rfl ?_
    obtain ⟨r1, e2, h⟩ := bd_some h
    refine g_vI (pc := 2) (Wf := Wm) (As := [.int a1]) (rest := []) F (hX12_distance e2 (xl X) (xE X)) kX12_distance lX12_85 0 rfl rfl rfl rfl rfl ⟨(Nat.le_of_ble_eq_true rfl), (Nat.le_of_ble_eq_true rfl)⟩ (Nat.le_of_ble_eq_true rfl) dX12_isSeeing_2 ?_
    refine g_istore_n (pc := 5) (lv2 := [(0, .ref (em (xE X) 0)), (1, .int a1), (2, .int r1)]) F dX12_isSeeing_5 rfl (by rw [hx]; decide) [1, 2, 0] rfl ?_
    refine g_aload_n (pc := 6) (x := em (xE X) 0) F dX12_isSeeing_6 rfl 0 rfl ?_
    obtain ⟨r3, e4, h⟩ := bd_some h
    refine g_vI (pc := 7) (Wf := Wm) (As := []) (rest := []) F (hX12_isNight e4 (xl X) (xE X)) kX12_isNight lX12_72 0 rfl rfl rfl rfl rfl ⟨(Nat.le_of_ble_eq_true rfl), (Nat.le_of_ble_eq_true rfl)⟩ (Nat.le_of_ble_eq_true rfl) dX12_isSeeing_7 ?_
    refine g_istore_n (pc := 10) (lv2 := [(0, .ref (em (xE X) 0)), (1, .int a1), (2, .int r1), (3, .int r3)]) F dX12_isSeeing_10 rfl (by rw [hx]; decide) [1, 2, 3, 0] rfl ?_
    refine g_aload_n (pc := 11) (x := em (xE X) 0) F dX12_isSeeing_11 rfl 0 rfl ?_
    obtain ⟨r5, e6, h⟩ := bd_some h
    refine g_vI (pc := 12) (Wf := Wm) (As := []) (rest := []) F (hX12_isBurning e6 (xl X) (xE X)) kX12_isBurning lX12_76 0 rfl rfl rfl rfl rfl ⟨(Nat.le_of_ble_eq_true rfl), (Nat.le_of_ble_eq_true rfl)⟩ (Nat.le_of_ble_eq_true rfl) dX12_isSeeing_12 ?_
    refine g_istore (pc := 15) (lv2 := [(0, .ref (em (xE X) 0)), (1, .int a1), (2, .int r1), (3, .int r3), (4, .int r5)]) F dX12_isSeeing_15 (by rw [hx]; decide) [1, 2, 3, 4, 0] rfl ?_
    refine g_aload_n (pc := 17) (x := em (xE X) 0) F dX12_isSeeing_17 rfl 0 rfl ?_
    refine g_iload_n (pc := 18) (x := a1) F dX12_isSeeing_18 rfl 1 rfl ?_
    refine g_iconst (pc := 19) F dX12_isSeeing_19 ic_0 ?_
    obtain ⟨r7, e8, h⟩ := bd_some h
    refine g_vI (pc := 20) (Wf := Wm) (As := [.int a1, .int (0 : Int32)]) (rest := []) F (hX12_its e8 (xl X) (xE X)) kX12_its lX12_69 0 rfl rfl rfl rfl rfl ⟨(Nat.le_of_ble_eq_true rfl), (Nat.le_of_ble_eq_true rfl)⟩ (Nat.le_of_ble_eq_true rfl) dX12_isSeeing_20 ?_
    by_cases c9 : r7 = (1 : Int32)
    · have h := ite_t c9 h
      refine g_tswIn (pc := 23) (tgt := 56) (v := 1) F dX12_isSeeing_23 (by rw [c9]; decide) (by decide) (by decide) rfl (by decide) ?_
      refine g_iload_n (pc := 56) (x := r1) F dX12_isSeeing_56 rfl 2 rfl ?_
      refine g_iconst (pc := 57) F dX12_isSeeing_57 ic_1 ?_
      refine g_icmp_eq (pc := 58) (tgt := 88) F dX12_isSeeing_58 (by decide) (fun c14 => ?_) (fun c14 => ?_)
      · have h := ite_t c14 h
        refine g_iconst (pc := 88) F dX12_isSeeing_88 ic_1 ?_
        refine g_goto (pc := 89) (tgt := 93) F dX12_isSeeing_89 (by decide) ?_
        obtain rfl := Option.some.inj h
        exact g_iret (pc := 93) (Wf := Wm) F Rt (by decide) dX12_isSeeing_93
      · have h := ite_f c14 h
        refine g_iload_n (pc := 61) (x := r3) F dX12_isSeeing_61 rfl 3 rfl ?_
        refine g_if_eq (pc := 62) (tgt := 83) F dX12_isSeeing_62 (by decide) (fun c15 => ?_) (fun c15 => ?_)
        · have h := ite_t c15 h
          refine g_iload_n (pc := 83) (x := r1) F dX12_isSeeing_83 rfl 2 rfl ?_
          refine g_iconst (pc := 84) F dX12_isSeeing_84 ic_3 ?_
          refine g_icmp_gt (pc := 85) (tgt := 92) F dX12_isSeeing_85 (by decide) (fun c16 => ?_) (fun c16 => ?_)
          · have h := ite_t c16 h
            refine g_iconst (pc := 92) F dX12_isSeeing_92 ic_0 ?_
            obtain rfl := Option.some.inj h
            exact g_iret (pc := 93) (Wf := Wm) F Rt (by decide) dX12_isSeeing_93
          · have h := ite_f c16 h
            refine g_iconst (pc := 88) F dX12_isSeeing_88 ic_1 ?_
            refine g_goto (pc := 89) (tgt := 93) F dX12_isSeeing_89 (by decide) ?_
            obtain rfl := Option.some.inj h
            exact g_iret (pc := 93) (Wf := Wm) F Rt (by decide) dX12_isSeeing_93
        · have h := ite_f c15 h
          refine g_iload (pc := 65) (x := r5) F dX12_isSeeing_65 4 rfl ?_
          refine g_if_eq (pc := 67) (tgt := 92) F dX12_isSeeing_67 (by decide) (fun c17 => ?_) (fun c17 => ?_)
          · have h := ite_t c17 h
            refine g_iconst (pc := 92) F dX12_isSeeing_92 ic_0 ?_
            obtain rfl := Option.some.inj h
            exact g_iret (pc := 93) (Wf := Wm) F Rt (by decide) dX12_isSeeing_93
          · have h := ite_f c17 h
            refine g_iload_n (pc := 70) (x := r1) F dX12_isSeeing_70 rfl 2 rfl ?_
            refine g_aload_n (pc := 71) (x := em (xE X) 0) F dX12_isSeeing_71 rfl 0 rfl ?_
            refine g_get (pc := 72) (v := .ref (em (xE X) 1)) F fX12_7 0 rfl rfl dX12_isSeeing_72 ?_
            refine g_iconst (pc := 75) F dX12_isSeeing_75 ic_4 ?_
            refine g_iald (pc := 76) (N := 48) (fn := M.1 0) (j := 4) F 1 0 rfl rfl vi_4_48 cl_4 dX12_isSeeing_76 ?_
            refine g_icmp_gt (pc := 77) (tgt := 92) F dX12_isSeeing_77 (by decide) (fun c18 => ?_) (fun c18 => ?_)
            · have h := ite_t c18 h
              refine g_iconst (pc := 92) F dX12_isSeeing_92 ic_0 ?_
              obtain rfl := Option.some.inj h
              exact g_iret (pc := 93) (Wf := Wm) F Rt (by decide) dX12_isSeeing_93
            · have h := ite_f c18 h
              refine g_goto (pc := 80) (tgt := 88) F dX12_isSeeing_80 (by decide) ?_
              refine g_iconst (pc := 88) F dX12_isSeeing_88 ic_1 ?_
              refine g_goto (pc := 89) (tgt := 93) F dX12_isSeeing_89 (by decide) ?_
              obtain rfl := Option.some.inj h
              exact g_iret (pc := 93) (Wf := Wm) F Rt (by decide) dX12_isSeeing_93
    · have h := ite_f c9 h
      by_cases c10 : r7 = (2 : Int32)
      · have h := ite_t c10 h
        refine g_tswIn (pc := 23) (tgt := 134) (v := 2) F dX12_isSeeing_23 (by rw [c10]; decide) (by decide) (by decide) rfl (by decide) ?_
        refine g_iload_n (pc := 134) (x := r3) F dX12_isSeeing_134 rfl 3 rfl ?_
        refine g_if_eq (pc := 135) (tgt := 151) F dX12_isSeeing_135 (by decide) (fun c19 => ?_) (fun c19 => ?_)
        · have h := ite_t c19 h
          refine g_iload_n (pc := 151) (x := r1) F dX12_isSeeing_151 rfl 2 rfl ?_
          refine g_iconst (pc := 152) F dX12_isSeeing_152 ic_3 ?_
          refine g_icmp_gt (pc := 153) (tgt := 160) F dX12_isSeeing_153 (by decide) (fun c20 => ?_) (fun c20 => ?_)
          · have h := ite_t c20 h
            refine g_iconst (pc := 160) F dX12_isSeeing_160 ic_0 ?_
            obtain rfl := Option.some.inj h
            exact g_iret (pc := 161) (Wf := Wm) F Rt (by decide) dX12_isSeeing_161
          · have h := ite_f c20 h
            refine g_iconst (pc := 156) F dX12_isSeeing_156 ic_1 ?_
            refine g_goto (pc := 157) (tgt := 161) F dX12_isSeeing_157 (by decide) ?_
            obtain rfl := Option.some.inj h
            exact g_iret (pc := 161) (Wf := Wm) F Rt (by decide) dX12_isSeeing_161
        · have h := ite_f c19 h
          refine g_iload_n (pc := 138) (x := r1) F dX12_isSeeing_138 rfl 2 rfl ?_
          refine g_iconst (pc := 139) F dX12_isSeeing_139 ic_2 ?_
          refine g_icmp_gt (pc := 140) (tgt := 147) F dX12_isSeeing_140 (by decide) (fun c21 => ?_) (fun c21 => ?_)
          · have h := ite_t c21 h
            refine g_iconst (pc := 147) F dX12_isSeeing_147 ic_0 ?_
            refine g_goto (pc := 148) (tgt := 161) F dX12_isSeeing_148 (by decide) ?_
            obtain rfl := Option.some.inj h
            exact g_iret (pc := 161) (Wf := Wm) F Rt (by decide) dX12_isSeeing_161
          · have h := ite_f c21 h
            refine g_iconst (pc := 143) F dX12_isSeeing_143 ic_1 ?_
            refine g_goto (pc := 144) (tgt := 161) F dX12_isSeeing_144 (by decide) ?_
            obtain rfl := Option.some.inj h
            exact g_iret (pc := 161) (Wf := Wm) F Rt (by decide) dX12_isSeeing_161
      · have h := ite_f c10 h
        by_cases c11 : r7 = (3 : Int32)
        · have h := ite_t c11 h
          refine g_tswIn (pc := 23) (tgt := 177) (v := 3) F dX12_isSeeing_23 (by rw [c11]; decide) (by decide) (by decide) rfl (by decide) ?_
          refine g_iconst (pc := 177) F dX12_isSeeing_177 ic_0 ?_
          obtain rfl := Option.some.inj h
          exact g_iret (pc := 178) (Wf := Wm) F Rt (by decide) dX12_isSeeing_178
        · have h := ite_f c11 h
          by_cases c12 : r7 = (4 : Int32)
          · have h := ite_t c12 h
            refine g_tswIn (pc := 23) (tgt := 94) (v := 4) F dX12_isSeeing_23 (by rw [c12]; decide) (by decide) (by decide) rfl (by decide) ?_
            refine g_iload_n (pc := 94) (x := r1) F dX12_isSeeing_94 rfl 2 rfl ?_
            refine g_iconst (pc := 95) F dX12_isSeeing_95 ic_1 ?_
            refine g_icmp_eq (pc := 96) (tgt := 128) F dX12_isSeeing_96 (by decide) (fun c22 => ?_) (fun c22 => ?_)
            · have h := ite_t c22 h
              refine g_iconst (pc := 128) F dX12_isSeeing_128 ic_1 ?_
              refine g_goto (pc := 129) (tgt := 133) F dX12_isSeeing_129 (by decide) ?_
              obtain rfl := Option.some.inj h
              exact g_iret (pc := 133) (Wf := Wm) F Rt (by decide) dX12_isSeeing_133
            · have h := ite_f c22 h
              refine g_iload_n (pc := 99) (x := r3) F dX12_isSeeing_99 rfl 3 rfl ?_
              refine g_if_eq (pc := 100) (tgt := 123) F dX12_isSeeing_100 (by decide) (fun c23 => ?_) (fun c23 => ?_)
              · have h := ite_t c23 h
                refine g_iload_n (pc := 123) (x := r1) F dX12_isSeeing_123 rfl 2 rfl ?_
                refine g_iconst (pc := 124) F dX12_isSeeing_124 ic_3 ?_
                refine g_icmp_gt (pc := 125) (tgt := 132) F dX12_isSeeing_125 (by decide) (fun c24 => ?_) (fun c24 => ?_)
                · have h := ite_t c24 h
                  refine g_iconst (pc := 132) F dX12_isSeeing_132 ic_0 ?_
                  obtain rfl := Option.some.inj h
                  exact g_iret (pc := 133) (Wf := Wm) F Rt (by decide) dX12_isSeeing_133
                · have h := ite_f c24 h
                  refine g_iconst (pc := 128) F dX12_isSeeing_128 ic_1 ?_
                  refine g_goto (pc := 129) (tgt := 133) F dX12_isSeeing_129 (by decide) ?_
                  obtain rfl := Option.some.inj h
                  exact g_iret (pc := 133) (Wf := Wm) F Rt (by decide) dX12_isSeeing_133
              · have h := ite_f c23 h
                refine g_iload (pc := 103) (x := r5) F dX12_isSeeing_103 4 rfl ?_
                refine g_if_eq (pc := 105) (tgt := 132) F dX12_isSeeing_105 (by decide) (fun c25 => ?_) (fun c25 => ?_)
                · have h := ite_t c25 h
                  refine g_iconst (pc := 132) F dX12_isSeeing_132 ic_0 ?_
                  obtain rfl := Option.some.inj h
                  exact g_iret (pc := 133) (Wf := Wm) F Rt (by decide) dX12_isSeeing_133
                · have h := ite_f c25 h
                  refine g_iload_n (pc := 108) (x := r1) F dX12_isSeeing_108 rfl 2 rfl ?_
                  refine g_aload_n (pc := 109) (x := em (xE X) 0) F dX12_isSeeing_109 rfl 0 rfl ?_
                  refine g_get (pc := 110) (v := .ref (em (xE X) 1)) F fX12_7 0 rfl rfl dX12_isSeeing_110 ?_
                  refine g_iconst (pc := 113) F dX12_isSeeing_113 ic_4 ?_
                  refine g_iald (pc := 114) (N := 48) (fn := M.1 0) (j := 4) F 1 0 rfl rfl vi_4_48 cl_4 dX12_isSeeing_114 ?_
                  refine g_iconst (pc := 115) F dX12_isSeeing_115 ic_2 ?_
                  refine g_iadd (pc := 116) F dX12_isSeeing_116 ?_
                  refine g_icmp_gt (pc := 117) (tgt := 132) F dX12_isSeeing_117 (by decide) (fun c26 => ?_) (fun c26 => ?_)
                  · have h := ite_t c26 h
                    refine g_iconst (pc := 132) F dX12_isSeeing_132 ic_0 ?_
                    obtain rfl := Option.some.inj h
                    exact g_iret (pc := 133) (Wf := Wm) F Rt (by decide) dX12_isSeeing_133
                  · have h := ite_f c26 h
                    refine g_goto (pc := 120) (tgt := 128) F dX12_isSeeing_120 (by decide) ?_
                    refine g_iconst (pc := 128) F dX12_isSeeing_128 ic_1 ?_
                    refine g_goto (pc := 129) (tgt := 133) F dX12_isSeeing_129 (by decide) ?_
                    obtain rfl := Option.some.inj h
                    exact g_iret (pc := 133) (Wf := Wm) F Rt (by decide) dX12_isSeeing_133
          · have h := ite_f c12 h
            by_cases c13 : r7 = (5 : Int32)
            · have h := ite_t c13 h
              refine g_tswIn (pc := 23) (tgt := 162) (v := 5) F dX12_isSeeing_23 (by rw [c13]; decide) (by decide) (by decide) rfl (by decide) ?_
              refine g_iload_n (pc := 162) (x := r3) F dX12_isSeeing_162 rfl 3 rfl ?_
              refine g_if_eq (pc := 163) (tgt := 171) F dX12_isSeeing_163 (by decide) (fun c27 => ?_) (fun c27 => ?_)
              · have h := ite_t c27 h
                refine g_iconst (pc := 171) F dX12_isSeeing_171 ic_1 ?_
                refine g_goto (pc := 172) (tgt := 176) F dX12_isSeeing_172 (by decide) ?_
                obtain rfl := Option.some.inj h
                exact g_iret (pc := 176) (Wf := Wm) F Rt (by decide) dX12_isSeeing_176
              · have h := ite_f c27 h
                refine g_iload_n (pc := 166) (x := r1) F dX12_isSeeing_166 rfl 2 rfl ?_
                refine g_iconst (pc := 167) F dX12_isSeeing_167 ic_2 ?_
                refine g_icmp_gt (pc := 168) (tgt := 175) F dX12_isSeeing_168 (by decide) (fun c28 => ?_) (fun c28 => ?_)
                · have h := ite_t c28 h
                  refine g_iconst (pc := 175) F dX12_isSeeing_175 ic_0 ?_
                  obtain rfl := Option.some.inj h
                  exact g_iret (pc := 176) (Wf := Wm) F Rt (by decide) dX12_isSeeing_176
                · have h := ite_f c28 h
                  refine g_iconst (pc := 171) F dX12_isSeeing_171 ic_1 ?_
                  refine g_goto (pc := 172) (tgt := 176) F dX12_isSeeing_172 (by decide) ?_
                  obtain rfl := Option.some.inj h
                  exact g_iret (pc := 176) (Wf := Wm) F Rt (by decide) dX12_isSeeing_176
            · have h := ite_f c13 h
              refine g_tswOut (pc := 23) (tgt := 179) F dX12_isSeeing_23 (by have z0 := lv_neT (a := 1) c9 (by decide); have z1 := lv_neT (a := 2) c10 (by decide); have z2 := lv_neT (a := 3) c11 (by decide); have z3 := lv_neT (a := 4) c12 (by decide); have z4 := lv_neT (a := 5) c13 (by decide); omega) (by decide) ?_
              refine g_iload_n (pc := 179) (x := r3) F dX12_isSeeing_179 rfl 3 rfl ?_
              refine g_if_eq (pc := 180) (tgt := 206) F dX12_isSeeing_180 (by decide) (fun c29 => ?_) (fun c29 => ?_)
              · have h := ite_t c29 h
                refine g_iload_n (pc := 206) (x := r1) F dX12_isSeeing_206 rfl 2 rfl ?_
                refine g_iconst (pc := 207) F dX12_isSeeing_207 ic_3 ?_
                refine g_icmp_gt (pc := 208) (tgt := 215) F dX12_isSeeing_208 (by decide) (fun c30 => ?_) (fun c30 => ?_)
                · have h := ite_t c30 h
                  refine g_iconst (pc := 215) F dX12_isSeeing_215 ic_0 ?_
                  obtain rfl := Option.some.inj h
                  exact g_iret (pc := 216) (Wf := Wm) F Rt (by decide) dX12_isSeeing_216
                · have h := ite_f c30 h
                  refine g_iconst (pc := 211) F dX12_isSeeing_211 ic_1 ?_
                  refine g_goto (pc := 212) (tgt := 216) F dX12_isSeeing_212 (by decide) ?_
                  obtain rfl := Option.some.inj h
                  exact g_iret (pc := 216) (Wf := Wm) F Rt (by decide) dX12_isSeeing_216
              · have h := ite_f c29 h
                refine g_iload (pc := 183) (x := r5) F dX12_isSeeing_183 4 rfl ?_
                refine g_if_eq (pc := 185) (tgt := 202) F dX12_isSeeing_185 (by decide) (fun c31 => ?_) (fun c31 => ?_)
                · have h := ite_t c31 h
                  refine g_iconst (pc := 202) F dX12_isSeeing_202 ic_0 ?_
                  refine g_goto (pc := 203) (tgt := 216) F dX12_isSeeing_203 (by decide) ?_
                  obtain rfl := Option.some.inj h
                  exact g_iret (pc := 216) (Wf := Wm) F Rt (by decide) dX12_isSeeing_216
                · have h := ite_f c31 h
                  refine g_iload_n (pc := 188) (x := r1) F dX12_isSeeing_188 rfl 2 rfl ?_
                  refine g_aload_n (pc := 189) (x := em (xE X) 0) F dX12_isSeeing_189 rfl 0 rfl ?_
                  refine g_get (pc := 190) (v := .ref (em (xE X) 1)) F fX12_7 0 rfl rfl dX12_isSeeing_190 ?_
                  refine g_iconst (pc := 193) F dX12_isSeeing_193 ic_4 ?_
                  refine g_iald (pc := 194) (N := 48) (fn := M.1 0) (j := 4) F 1 0 rfl rfl vi_4_48 cl_4 dX12_isSeeing_194 ?_
                  refine g_icmp_gt (pc := 195) (tgt := 202) F dX12_isSeeing_195 (by decide) (fun c32 => ?_) (fun c32 => ?_)
                  · have h := ite_t c32 h
                    refine g_iconst (pc := 202) F dX12_isSeeing_202 ic_0 ?_
                    refine g_goto (pc := 203) (tgt := 216) F dX12_isSeeing_203 (by decide) ?_
                    obtain rfl := Option.some.inj h
                    exact g_iret (pc := 216) (Wf := Wm) F Rt (by decide) dX12_isSeeing_216
                  · have h := ite_f c32 h
                    refine g_iconst (pc := 198) F dX12_isSeeing_198 ic_1 ?_
                    refine g_goto (pc := 199) (tgt := 216) F dX12_isSeeing_199 (by decide) ?_
                    obtain rfl := Option.some.inj h
                    exact g_iret (pc := 216) (Wf := Wm) F Rt (by decide) dX12_isSeeing_216) l E
set_option maxHeartbeats 4000000 in
set_option maxRecDepth 100000 in
theorem hX12_speed {M : Mem} {a1 : Int32} {res : Int32} (h : mX12_speed M a1 = some res) (l : Launch) (E : Ev) : CtI l E (Wm E) yX12_speed cX12_speed 2 .int 1 22 [.ref (em E 0), .int a1] M res M :=
  ctI_of (Wf := Wm) (av := fun E => [.ref (em E 0), .int a1]) (lv := fun E => [(0, .ref (em E 0)), (1, .int a1)]) (by decide) (fun _ => rfl) (fun _ => (Nat.le_of_ble_eq_true rfl)) (fun X F hx Rt => by
    have F : Fx X cX12_speed RX12 1 22 := F
    unfold mX12_speed at h
    refine g_aload_n (pc := 0) (x := em (xE X) 0) F dX12_speed_0 rfl 0 rfl ?_
    refine g_iload_n (pc := 1) (x := a1) F dX12_speed_1 rfl 1 rfl ?_
    refine g_iconst (pc := 2) F dX12_speed_2 ic_0 ?_
    obtain ⟨r1, e2, h⟩ := bd_some h
    refine g_vI (pc := 3) (Wf := Wm) (As := [.int a1, .int (0 : Int32)]) (rest := []) F (hX12_its e2 (xl X) (xE X)) kX12_its lX12_69 0 rfl rfl rfl rfl rfl ⟨(Nat.le_of_ble_eq_true rfl), (Nat.le_of_ble_eq_true rfl)⟩ (Nat.le_of_ble_eq_true rfl) dX12_speed_3 ?_
    by_cases c3 : r1 = (1 : Int32)
    · have h := ite_t c3 h
      refine g_tswIn (pc := 6) (tgt := 40) (v := 1) F dX12_speed_6 (by rw [c3]; decide) (by decide) (by decide) rfl (by decide) ?_
      refine g_iconst (pc := 40) F dX12_speed_40 ic_2 ?_
      obtain rfl := Option.some.inj h
      exact g_iret (pc := 41) (Wf := Wm) F Rt rfl dX12_speed_41
    · have h := ite_f c3 h
      by_cases c4 : r1 = (2 : Int32)
      · have h := ite_t c4 h
        refine g_tswIn (pc := 6) (tgt := 77) (v := 2) F dX12_speed_6 (by rw [c4]; decide) (by decide) (by decide) rfl (by decide) ?_
        refine g_iconst (pc := 77) F dX12_speed_77 ic_1 ?_
        obtain rfl := Option.some.inj h
        exact g_iret (pc := 78) (Wf := Wm) F Rt rfl dX12_speed_78
      · have h := ite_f c4 h
        by_cases c5 : r1 = (3 : Int32)
        · have h := ite_t c5 h
          refine g_tswIn (pc := 6) (tgt := 44) (v := 3) F dX12_speed_6 (by rw [c5]; decide) (by decide) (by decide) rfl (by decide) ?_
          refine g_aload_n (pc := 44) (x := em (xE X) 0) F dX12_speed_44 rfl 0 rfl ?_
          refine g_get (pc := 45) (v := .ref (em (xE X) 1)) F fX12_7 0 rfl rfl dX12_speed_45 ?_
          refine g_iconst (pc := 48) F dX12_speed_48 ic_0 ?_
          refine g_iald (pc := 49) (N := 48) (fn := M.1 0) (j := 0) F 1 0 rfl rfl vi_0_48 cl_0 dX12_speed_49 ?_
          refine g_bipush (pc := 50) F dX12_speed_50 bp_12 ?_
          refine g_irem (pc := 52) F dX12_speed_52 (by decide) ?_
          refine g_iconst (pc := 53) F dX12_speed_53 ic_2 ?_
          refine g_irem (pc := 54) F dX12_speed_54 (by decide) ?_
          refine g_if_ne (pc := 55) (tgt := 62) F dX12_speed_55 (by decide) (fun c8 => ?_) (fun c8 => ?_)
          · have h := ite_f c8 h
            refine g_iconst (pc := 62) F dX12_speed_62 ic_0 ?_
            obtain rfl := Option.some.inj h
            exact g_iret (pc := 63) (Wf := Wm) F Rt rfl dX12_speed_63
          · have h := ite_t c8 h
            refine g_iconst (pc := 58) F dX12_speed_58 ic_1 ?_
            refine g_goto (pc := 59) (tgt := 63) F dX12_speed_59 (by decide) ?_
            obtain rfl := Option.some.inj h
            exact g_iret (pc := 63) (Wf := Wm) F Rt rfl dX12_speed_63
        · have h := ite_f c5 h
          by_cases c6 : r1 = (4 : Int32)
          · have h := ite_t c6 h
            refine g_tswIn (pc := 6) (tgt := 42) (v := 4) F dX12_speed_6 (by rw [c6]; decide) (by decide) (by decide) rfl (by decide) ?_
            refine g_iconst (pc := 42) F dX12_speed_42 ic_3 ?_
            obtain rfl := Option.some.inj h
            exact g_iret (pc := 43) (Wf := Wm) F Rt rfl dX12_speed_43
          · have h := ite_f c6 h
            by_cases c7 : r1 = (5 : Int32)
            · have h := ite_t c7 h
              refine g_tswIn (pc := 6) (tgt := 64) (v := 5) F dX12_speed_6 (by rw [c7]; decide) (by decide) (by decide) rfl (by decide) ?_
              refine g_aload_n (pc := 64) (x := em (xE X) 0) F dX12_speed_64 rfl 0 rfl ?_
              obtain ⟨r9, e10, h⟩ := bd_some h
              refine g_vI (pc := 65) (Wf := Wm) (As := []) (rest := []) F (hX12_isNight e10 (xl X) (xE X)) kX12_isNight lX12_72 0 rfl rfl rfl rfl rfl ⟨(Nat.le_of_ble_eq_true rfl), (Nat.le_of_ble_eq_true rfl)⟩ (Nat.le_of_ble_eq_true rfl) dX12_speed_65 ?_
              refine g_if_eq (pc := 68) (tgt := 75) F dX12_speed_68 (by decide) (fun c11 => ?_) (fun c11 => ?_)
              · have h := ite_t c11 h
                refine g_iconst (pc := 75) F dX12_speed_75 ic_2 ?_
                obtain rfl := Option.some.inj h
                exact g_iret (pc := 76) (Wf := Wm) F Rt rfl dX12_speed_76
              · have h := ite_f c11 h
                refine g_iconst (pc := 71) F dX12_speed_71 ic_1 ?_
                refine g_goto (pc := 72) (tgt := 76) F dX12_speed_72 (by decide) ?_
                obtain rfl := Option.some.inj h
                exact g_iret (pc := 76) (Wf := Wm) F Rt rfl dX12_speed_76
            · have h := ite_f c7 h
              refine g_tswOut (pc := 6) (tgt := 77) F dX12_speed_6 (by have z0 := lv_neT (a := 1) c3 (by decide); have z1 := lv_neT (a := 2) c4 (by decide); have z2 := lv_neT (a := 3) c5 (by decide); have z3 := lv_neT (a := 4) c6 (by decide); have z4 := lv_neT (a := 5) c7 (by decide); omega) (by decide) ?_
              refine g_iconst (pc := 77) F dX12_speed_77 ic_1 ?_
              obtain rfl := Option.some.inj h
              exact g_iret (pc := 78) (Wf := Wm) F Rt rfl dX12_speed_78) l E
set_option maxHeartbeats 4000000 in
set_option maxRecDepth 100000 in
theorem hX12_keepsOff {M : Mem} {a1 : Int32} {res : Int32} (h : mX12_keepsOff M a1 = some res) (l : Launch) (E : Ev) : CtI l E (Wm E) yX12_keepsOff cX12_keepsOff 2 .int 2 45 [.ref (em E 0), .int a1] M res M :=
  ctI_of (Wf := Wm) (av := fun E => [.ref (em E 0), .int a1]) (lv := fun E => [(0, .ref (em E 0)), (1, .int a1)]) (by decide) (fun _ => rfl) (fun _ => (Nat.le_of_ble_eq_true rfl)) (fun X F hx Rt => by
    have F : Fx X cX12_keepsOff RX12 2 45 := F
    unfold mX12_keepsOff at h
    refine g_aload_n (pc := 0) (x := em (xE X) 0) F dX12_keepsOff_0 rfl 0 rfl ?_
    refine g_iload_n (pc := 1) (x := a1) F dX12_keepsOff_1 rfl 1 rfl ?_
    refine g_iconst (pc := 2) F dX12_keepsOff_2 ic_0 ?_
    obtain ⟨r1, e2, h⟩ := bd_some h
    refine g_vI (pc := 3) (Wf := Wm) (As := [.int a1, .int (0 : Int32)]) (rest := []) F (hX12_its e2 (xl X) (xE X)) kX12_its lX12_69 0 rfl rfl rfl rfl rfl ⟨(Nat.le_of_ble_eq_true rfl), (Nat.le_of_ble_eq_true rfl)⟩ (Nat.le_of_ble_eq_true rfl) dX12_keepsOff_3 ?_
    by_cases c3 : r1 = (2 : Int32)
    · have h := ite_t c3 h
      refine g_tswIn (pc := 6) (tgt := 36) (v := 2) F dX12_keepsOff_6 (by rw [c3]; decide) (by decide) (by decide) rfl (by decide) ?_
      refine g_iconst (pc := 36) F dX12_keepsOff_36 ic_2 ?_
      obtain rfl := Option.some.inj h
      exact g_iret (pc := 37) (Wf := Wm) F Rt rfl dX12_keepsOff_37
    · have h := ite_f c3 h
      by_cases c4 : r1 = (3 : Int32)
      · have h := ite_t c4 h
        refine g_tswIn (pc := 6) (tgt := 38) (v := 3) F dX12_keepsOff_6 (by rw [c4]; decide) (by decide) (by decide) rfl (by decide) ?_
        refine g_iconst (pc := 38) F dX12_keepsOff_38 ic_0 ?_
        obtain rfl := Option.some.inj h
        exact g_iret (pc := 39) (Wf := Wm) F Rt rfl dX12_keepsOff_39
      · have h := ite_f c4 h
        by_cases c5 : r1 = (4 : Int32)
        · have h := ite_t c5 h
          refine g_tswIn (pc := 6) (tgt := 40) (v := 4) F dX12_keepsOff_6 (by rw [c5]; decide) (by decide) (by decide) rfl (by decide) ?_
          refine g_aload_n (pc := 40) (x := em (xE X) 0) F dX12_keepsOff_40 rfl 0 rfl ?_
          refine g_iload_n (pc := 41) (x := a1) F dX12_keepsOff_41 rfl 1 rfl ?_
          obtain ⟨r7, e8, h⟩ := bd_some h
          refine g_vI (pc := 42) (Wf := Wm) (As := [.int a1]) (rest := []) F (hX12_distance e8 (xl X) (xE X)) kX12_distance lX12_85 0 rfl rfl rfl rfl rfl ⟨(Nat.le_of_ble_eq_true rfl), (Nat.le_of_ble_eq_true rfl)⟩ (Nat.le_of_ble_eq_true rfl) dX12_keepsOff_42 ?_
          refine g_iconst (pc := 45) F dX12_keepsOff_45 ic_3 ?_
          refine g_icmp_le (pc := 46) (tgt := 53) F dX12_keepsOff_46 (by decide) (fun c9 => ?_) (fun c9 => ?_)
          · have h := ite_t c9 h
            refine g_iconst (pc := 53) F dX12_keepsOff_53 ic_1 ?_
            obtain rfl := Option.some.inj h
            exact g_iret (pc := 54) (Wf := Wm) F Rt rfl dX12_keepsOff_54
          · have h := ite_f c9 h
            refine g_iconst (pc := 49) F dX12_keepsOff_49 ic_0 ?_
            refine g_goto (pc := 50) (tgt := 54) F dX12_keepsOff_50 (by decide) ?_
            obtain rfl := Option.some.inj h
            exact g_iret (pc := 54) (Wf := Wm) F Rt rfl dX12_keepsOff_54
        · have h := ite_f c5 h
          by_cases c6 : r1 = (5 : Int32)
          · have h := ite_t c6 h
            refine g_tswIn (pc := 6) (tgt := 55) (v := 5) F dX12_keepsOff_6 (by rw [c6]; decide) (by decide) (by decide) rfl (by decide) ?_
            refine g_iconst (pc := 55) F dX12_keepsOff_55 ic_m1 ?_
            obtain rfl := Option.some.inj h
            exact g_iret (pc := 56) (Wf := Wm) F Rt rfl dX12_keepsOff_56
          · have h := ite_f c6 h
            refine g_tswOut (pc := 6) (tgt := 57) F dX12_keepsOff_6 (by have z0 := lv_neT (a := 2) c3 (by decide); have z1 := lv_neT (a := 3) c4 (by decide); have z2 := lv_neT (a := 4) c5 (by decide); have z3 := lv_neT (a := 5) c6 (by decide); omega) (by decide) ?_
            refine g_iconst (pc := 57) F dX12_keepsOff_57 ic_1 ?_
            obtain rfl := Option.some.inj h
            exact g_iret (pc := 58) (Wf := Wm) F Rt rfl dX12_keepsOff_58) l E
set_option maxHeartbeats 4000000 in
set_option maxRecDepth 100000 in
theorem wX12_isStanding_b32 {X : Cx} (F : Fx X cX12_isStanding RX12 2 45) (hx : xn X = 4) {M : Mem} {res : Int32} (Rt : RI X Wm .boolean res M) : ∀ (a1 : Int32) (s0 : Int32), mX12_isStanding_b32 M a1 s0 = some res → G X (Wm (xE X) M) 32 [(0, .ref (em (xE X) 0)), (1, .int a1)] [.int s0] := by
  intro a1 s0 h
  unfold mX12_isStanding_b32 at h
  refine g_istore_n (pc := 32) (lv2 := [(0, .ref (em (xE X) 0)), (1, .int a1), (3, .int s0)]) F dX12_isStanding_32 rfl (by rw [hx]; decide) [1, 2, 0] rfl ?_
  refine g_iload_n (pc := 33) (x := s0) F dX12_isStanding_33 rfl 2 rfl ?_
  refine g_if_eq (pc := 34) (tgt := 57) F dX12_isStanding_34 (by decide) (fun c4 => ?_) (fun c4 => ?_)
  · have h := ite_t c4 h
    refine g_iconst (pc := 57) F dX12_isStanding_57 ic_0 ?_
    obtain rfl := Option.some.inj h
    exact g_iret (pc := 58) (Wf := Wm) F Rt (by decide) dX12_isStanding_58
  · have h := ite_f c4 h
    refine g_aload_n (pc := 37) (x := em (xE X) 0) F dX12_isStanding_37 rfl 0 rfl ?_
    obtain ⟨r5, e6, h⟩ := bd_some h
    refine g_vI (pc := 38) (Wf := Wm) (As := []) (rest := []) F (hX12_isNight e6 (xl X) (xE X)) kX12_isNight lX12_72 0 rfl rfl rfl rfl rfl ⟨(Nat.le_of_ble_eq_true rfl), (Nat.le_of_ble_eq_true rfl)⟩ (Nat.le_of_ble_eq_true rfl) dX12_isStanding_38 ?_
    refine g_if_eq (pc := 41) (tgt := 57) F dX12_isStanding_41 (by decide) (fun c7 => ?_) (fun c7 => ?_)
    · have h := ite_t c7 h
      refine g_iconst (pc := 57) F dX12_isStanding_57 ic_0 ?_
      obtain rfl := Option.some.inj h
      exact g_iret (pc := 58) (Wf := Wm) F Rt (by decide) dX12_isStanding_58
    · have h := ite_f c7 h
      refine g_aload_n (pc := 44) (x := em (xE X) 0) F dX12_isStanding_44 rfl 0 rfl ?_
      refine g_iload_n (pc := 45) (x := a1) F dX12_isStanding_45 rfl 1 rfl ?_
      obtain ⟨r8, e9, h⟩ := bd_some h
      refine g_vI (pc := 46) (Wf := Wm) (As := [.int a1]) (rest := []) F (hX12_distance e9 (xl X) (xE X)) kX12_distance lX12_85 0 rfl rfl rfl rfl rfl ⟨(Nat.le_of_ble_eq_true rfl), (Nat.le_of_ble_eq_true rfl)⟩ (Nat.le_of_ble_eq_true rfl) dX12_isStanding_46 ?_
      refine g_iconst (pc := 49) F dX12_isStanding_49 ic_1 ?_
      refine g_icmp_ne (pc := 50) (tgt := 57) F dX12_isStanding_50 (by decide) (fun c10 => ?_) (fun c10 => ?_)
      · have h := ite_f c10 h
        refine g_iconst (pc := 57) F dX12_isStanding_57 ic_0 ?_
        obtain rfl := Option.some.inj h
        exact g_iret (pc := 58) (Wf := Wm) F Rt (by decide) dX12_isStanding_58
      · have h := ite_t c10 h
        refine g_iconst (pc := 53) F dX12_isStanding_53 ic_1 ?_
        refine g_goto (pc := 54) (tgt := 58) F dX12_isStanding_54 (by decide) ?_
        obtain rfl := Option.some.inj h
        exact g_iret (pc := 58) (Wf := Wm) F Rt (by decide) dX12_isStanding_58
set_option maxHeartbeats 4000000 in
set_option maxRecDepth 100000 in
theorem wX12_isStanding_b27 {X : Cx} (F : Fx X cX12_isStanding RX12 2 45) (hx : xn X = 4) {M : Mem} {res : Int32} (Rt : RI X Wm .boolean res M) : ∀ (a1 : Int32), mX12_isStanding_b27 M a1 = some res → G X (Wm (xE X) M) 27 [(0, .ref (em (xE X) 0)), (1, .int a1)] [] := by
  intro a1 h
  unfold mX12_isStanding_b27 at h
  refine g_iconst (pc := 27) F dX12_isStanding_27 ic_1 ?_
  refine g_goto (pc := 28) (tgt := 32) F dX12_isStanding_28 (by decide) ?_
  refine g_sub [0, 1] rfl ?_
  exact wX12_isStanding_b32 F hx Rt a1 (1 : Int32) h
set_option maxHeartbeats 4000000 in
set_option maxRecDepth 100000 in
theorem wX12_isStanding_b31 {X : Cx} (F : Fx X cX12_isStanding RX12 2 45) (hx : xn X = 4) {M : Mem} {res : Int32} (Rt : RI X Wm .boolean res M) : ∀ (a1 : Int32), mX12_isStanding_b31 M a1 = some res → G X (Wm (xE X) M) 31 [(0, .ref (em (xE X) 0)), (1, .int a1)] [] := by
  intro a1 h
  unfold mX12_isStanding_b31 at h
  refine g_iconst (pc := 31) F dX12_isStanding_31 ic_0 ?_
  refine g_sub [0, 1] rfl ?_
  exact wX12_isStanding_b32 F hx Rt a1 (0 : Int32) h
set_option maxHeartbeats 4000000 in
set_option maxRecDepth 100000 in
theorem hX12_isStanding {M : Mem} {a1 : Int32} {res : Int32} (h : mX12_isStanding M a1 = some res) (l : Launch) (E : Ev) : CtI l E (Wm E) yX12_isStanding cX12_isStanding 4 .boolean 2 45 [.ref (em E 0), .int a1] M res M :=
  ctI_of (Wf := Wm) (av := fun E => [.ref (em E 0), .int a1]) (lv := fun E => [(0, .ref (em E 0)), (1, .int a1)]) (by decide) (fun _ => rfl) (fun _ => (Nat.le_of_ble_eq_true rfl)) (fun X F hx Rt => by
    have F : Fx X cX12_isStanding RX12 2 45 := F
    unfold mX12_isStanding at h
    refine g_aload_n (pc := 0) (x := em (xE X) 0) F dX12_isStanding_0 rfl 0 rfl ?_
    refine g_iload_n (pc := 1) (x := a1) F dX12_isStanding_1 rfl 1 rfl ?_
    refine g_iconst (pc := 2) F dX12_isStanding_2 ic_0 ?_
    obtain ⟨r1, e2, h⟩ := bd_some h
    refine g_vI (pc := 3) (Wf := Wm) (As := [.int a1, .int (0 : Int32)]) (rest := []) F (hX12_its e2 (xl X) (xE X)) kX12_its lX12_69 0 rfl rfl rfl rfl rfl ⟨(Nat.le_of_ble_eq_true rfl), (Nat.le_of_ble_eq_true rfl)⟩ (Nat.le_of_ble_eq_true rfl) dX12_isStanding_3 ?_
    refine g_istore_n (pc := 6) (lv2 := [(0, .ref (em (xE X) 0)), (1, .int a1), (2, .int r1)]) F dX12_isStanding_6 rfl (by rw [hx]; decide) [1, 2, 0] rfl ?_
    refine g_iload_n (pc := 7) (x := r1) F dX12_isStanding_7 rfl 2 rfl ?_
    refine g_iconst (pc := 8) F dX12_isStanding_8 ic_1 ?_
    refine g_icmp_eq (pc := 9) (tgt := 27) F dX12_isStanding_9 (by decide) (fun c3 => ?_) (fun c3 => ?_)
    · have h := ite_t c3 h
      refine g_sub [0, 1] rfl ?_
      exact wX12_isStanding_b27 F hx Rt a1 h
    · have h := ite_f c3 h
      refine g_iload_n (pc := 12) (x := r1) F dX12_isStanding_12 rfl 2 rfl ?_
      refine g_iconst (pc := 13) F dX12_isStanding_13 ic_4 ?_
      refine g_icmp_ne (pc := 14) (tgt := 31) F dX12_isStanding_14 (by decide) (fun c11 => ?_) (fun c11 => ?_)
      · have h := ite_f c11 h
        refine g_sub [0, 1] rfl ?_
        exact wX12_isStanding_b31 F hx Rt a1 h
      · have h := ite_t c11 h
        refine g_aload_n (pc := 17) (x := em (xE X) 0) F dX12_isStanding_17 rfl 0 rfl ?_
        refine g_iload_n (pc := 18) (x := a1) F dX12_isStanding_18 rfl 1 rfl ?_
        refine g_iconst (pc := 19) F dX12_isStanding_19 ic_3 ?_
        obtain ⟨r12, e13, h⟩ := bd_some h
        refine g_vI (pc := 20) (Wf := Wm) (As := [.int a1, .int (3 : Int32)]) (rest := []) F (hX12_its e13 (xl X) (xE X)) kX12_its lX12_69 0 rfl rfl rfl rfl rfl ⟨(Nat.le_of_ble_eq_true rfl), (Nat.le_of_ble_eq_true rfl)⟩ (Nat.le_of_ble_eq_true rfl) dX12_isStanding_20 ?_
        refine g_iconst (pc := 23) F dX12_isStanding_23 ic_5 ?_
        refine g_icmp_ge (pc := 24) (tgt := 31) F dX12_isStanding_24 (by decide) (fun c14 => ?_) (fun c14 => ?_)
        · have h := ite_t c14 h
          refine g_sub [0, 1] rfl ?_
          exact wX12_isStanding_b31 F hx Rt a1 h
        · have h := ite_f c14 h
          refine g_sub [0, 1] rfl ?_
          exact wX12_isStanding_b27 F hx Rt a1 h) l E
