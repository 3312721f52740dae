set_option maxHeartbeats 4000000 in
set_option maxRecDepth 100000 in
theorem hX12_on {N : Nat} {M : Mem} {a1 : Int32} {a2 : Int32} {a3 : Int32} {res : Int32 × Mem} (h : mX12_on N M a1 a2 a3 = some res) (l : Launch) (E : Ev) : CtI l E (Wm E) yX12_on cX12_on 5 .int 7 155 [.ref (em E 0), .int a1, .int a2, .int a3] M res.1 res.2 :=
  ctI_of (Wf := Wm) (av := fun E => [.ref (em E 0), .int a1, .int a2, .int a3]) (lv := fun E => [(0, .ref (em E 0)), (1, .int a1), (2, .int a2), (3, .int a3)]) (by decide) (fun _ => rfl) (fun _ => (Nat.le_of_ble_eq_true rfl)) (fun X F hx Rt => by
    have F : Fx X cX12_on RX12 7 155 := F
    unfold mX12_on at h
    refine g_aload_n (pc := 0) (x := em (xE X) 0) F dX12_on_0 rfl 0 rfl ?_
    refine g_iload_n (pc := 1) (x := a1) F dX12_on_1 rfl 1 rfl ?_
    obtain ⟨r1, e2, h⟩ := bd_some h
    refine g_vI (pc := 2) (Wf := Wm) (As := [.int a1]) (rest := []) F (hX12_isOne e2 (xl X) (xE X)) kX12_isOne lX12_99 0 rfl rfl rfl rfl rfl ⟨(Nat.le_of_ble_eq_true rfl), (Nat.le_of_ble_eq_true rfl)⟩ (Nat.le_of_ble_eq_true rfl) dX12_on_2 ?_
    refine g_if_eq (pc := 5) (tgt := 27) F dX12_on_5 (by decide) (fun c3 => ?_) (fun c3 => ?_)
    · have h := ite_t c3 h
      refine g_aload_n (pc := 27) (x := em (xE X) 0) F dX12_on_27 rfl 0 rfl ?_
      refine g_ldc (pc := 28) F oX12_44 dX12_on_28 ?_
      obtain ⟨q4, e5, h⟩ := bd_some h
      refine g_vI (pc := 30) (Wf := Wm) (As := [.int (-1000000001 : Int32)]) (rest := []) F (hX12_finds e5 (xl X) (xE X)) kX12_finds lX12_53 0 rfl rfl rfl rfl rfl ⟨(Nat.le_of_ble_eq_true rfl), (Nat.le_of_ble_eq_true rfl)⟩ (Nat.le_of_ble_eq_true rfl) dX12_on_30 ?_
      obtain rfl := Option.some.inj h
      exact g_iret (pc := 33) (Wf := Wm) F Rt rfl dX12_on_33
    · have h := ite_f c3 h
      refine g_iload_n (pc := 8) (x := a2) F dX12_on_8 rfl 2 rfl ?_
      refine g_iconst (pc := 9) F dX12_on_9 ic_0 ?_
      refine g_bipush (pc := 10) F dX12_on_10 bp_100 ?_
      obtain ⟨r6, e7, h⟩ := bd_some h
      refine g_sI (pc := 12) (Wf := Wm) (As := [.int a2, .int (0 : Int32), .int (100 : Int32)]) (rest := []) F (hX12_in (M := M) e7 (xl X) (xE X)) kX12_in lX12_45 rfl rfl ⟨(Nat.le_of_ble_eq_true rfl), (Nat.le_of_ble_eq_true rfl)⟩ (Nat.le_of_ble_eq_true rfl) dX12_on_12 ?_
      refine g_if_eq (pc := 15) (tgt := 27) F dX12_on_15 (by decide) (fun c8 => ?_) (fun c8 => ?_)
      · have h := ite_t c8 h
        refine g_aload_n (pc := 27) (x := em (xE X) 0) F dX12_on_27 rfl 0 rfl ?_
        refine g_ldc (pc := 28) F oX12_44 dX12_on_28 ?_
        obtain ⟨q9, e10, h⟩ := bd_some h
        refine g_vI (pc := 30) (Wf := Wm) (As := [.int (-1000000001 : Int32)]) (rest := []) F (hX12_finds e10 (xl X) (xE X)) kX12_finds lX12_53 0 rfl rfl rfl rfl rfl ⟨(Nat.le_of_ble_eq_true rfl), (Nat.le_of_ble_eq_true rfl)⟩ (Nat.le_of_ble_eq_true rfl) dX12_on_30 ?_
        obtain rfl := Option.some.inj h
        exact g_iret (pc := 33) (Wf := Wm) F Rt rfl dX12_on_33
      · have h := ite_f c8 h
        refine g_iload_n (pc := 18) (x := a3) F dX12_on_18 rfl 3 rfl ?_
        refine g_iconst (pc := 19) F dX12_on_19 ic_0 ?_
        refine g_iconst (pc := 20) F dX12_on_20 ic_3 ?_
        obtain ⟨r11, e12, h⟩ := bd_some h
        refine g_sI (pc := 21) (Wf := Wm) (As := [.int a3, .int (0 : Int32), .int (3 : Int32)]) (rest := []) F (hX12_in (M := M) e12 (xl X) (xE X)) kX12_in lX12_45 rfl rfl ⟨(Nat.le_of_ble_eq_true rfl), (Nat.le_of_ble_eq_true rfl)⟩ (Nat.le_of_ble_eq_true rfl) dX12_on_21 ?_
        refine g_if_ne (pc := 24) (tgt := 34) F dX12_on_24 (by decide) (fun c13 => ?_) (fun c13 => ?_)
        · have h := ite_f c13 h
          refine g_aload_n (pc := 34) (x := em (xE X) 0) F dX12_on_34 rfl 0 rfl ?_
          refine g_iconst (pc := 35) F dX12_on_35 ic_1 ?_
          refine g_aload_n (pc := 36) (x := em (xE X) 0) F dX12_on_36 rfl 0 rfl ?_
          refine g_get (pc := 37) (v := .ref (em (xE X) 3)) F fX12_16 0 rfl rfl dX12_on_37 ?_
          obtain ⟨M14, e15, h⟩ := bd_some h
          refine g_vV (pc := 40) (Wf := Wm) (As := [.int (1 : Int32), .ref (em (xE X) 3)]) (rest := []) F (hX12_moveAll_2 e15 (xl X) (xE X)) kX12_moveAll lX12_143 0 rfl rfl rfl rfl rfl ⟨(Nat.le_of_ble_eq_true rfl), (Nat.le_of_ble_eq_true rfl)⟩ (Nat.le_of_ble_eq_true rfl) dX12_on_40 ?_
          refine g_aload_n (pc := 43) (x := em (xE X) 0) F dX12_on_43 rfl 0 rfl ?_
          refine g_iload_n (pc := 44) (x := a2) F dX12_on_44 rfl 2 rfl ?_
          obtain ⟨M16, e17, h⟩ := bd_some h
          refine g_vV (pc := 45) (Wf := Wm) (As := [.int a2]) (rest := []) F (hX12_passes e17 (xl X) (xE X)) kX12_passes lX12_140 0 rfl rfl rfl rfl rfl ⟨(Nat.le_of_ble_eq_true rfl), (Nat.le_of_ble_eq_true rfl)⟩ (Nat.le_of_ble_eq_true rfl) dX12_on_45 ?_
          refine g_aload_n (pc := 48) (x := em (xE X) 0) F dX12_on_48 rfl 0 rfl ?_
          refine g_iload_n (pc := 49) (x := a1) F dX12_on_49 rfl 1 rfl ?_
          refine g_iconst (pc := 50) F dX12_on_50 ic_1 ?_
          refine g_iload_n (pc := 51) (x := a3) F dX12_on_51 rfl 3 rfl ?_
          refine g_iadd (pc := 52) F dX12_on_52 ?_
          obtain ⟨r18, e19, h⟩ := bd_some h
          refine g_vI (pc := 53) (Wf := Wm) (As := [.int a1, .int ((1 : Int32) + a3)]) (rest := []) F (hX12_its e19 (xl X) (xE X)) kX12_its lX12_69 0 rfl rfl rfl rfl rfl ⟨(Nat.le_of_ble_eq_true rfl), (Nat.le_of_ble_eq_true rfl)⟩ (Nat.le_of_ble_eq_true rfl) dX12_on_53 ?_
          refine g_istore (pc := 56) (lv2 := [(0, .ref (em (xE X) 0)), (1, .int a1), (2, .int a2), (3, .int a3), (4, .int r18)]) F dX12_on_56 (by rw [hx]; decide) [1, 2, 3, 4, 0] rfl ?_
          refine g_aload_n (pc := 58) (x := em (xE X) 0) F dX12_on_58 rfl 0 rfl ?_
          refine g_iconst (pc := 59) F dX12_on_59 ic_0 ?_
          refine g_aload_n (pc := 60) (x := em (xE X) 0) F dX12_on_60 rfl 0 rfl ?_
          refine g_get (pc := 61) (v := .ref (em (xE X) 3)) F fX12_16 0 rfl rfl dX12_on_61 ?_
          obtain ⟨M20, e21, h⟩ := bd_some h
          refine g_vV (pc := 64) (Wf := Wm) (As := [.int (0 : Int32), .ref (em (xE X) 3)]) (rest := []) F (hX12_moveAll_2 e21 (xl X) (xE X)) kX12_moveAll lX12_143 0 rfl rfl rfl rfl rfl ⟨(Nat.le_of_ble_eq_true rfl), (Nat.le_of_ble_eq_true rfl)⟩ (Nat.le_of_ble_eq_true rfl) dX12_on_64 ?_
          refine g_iload (pc := 67) (x := r18) F dX12_on_67 4 rfl ?_
          obtain rfl := Option.some.inj h
          exact g_iret (pc := 69) (Wf := Wm) F Rt rfl dX12_on_69
        · have h := ite_t c13 h
          refine g_aload_n (pc := 27) (x := em (xE X) 0) F dX12_on_27 rfl 0 rfl ?_
          refine g_ldc (pc := 28) F oX12_44 dX12_on_28 ?_
          obtain ⟨q22, e23, h⟩ := bd_some h
          refine g_vI (pc := 30) (Wf := Wm) (As := [.int (-1000000001 : Int32)]) (rest := []) F (hX12_finds e23 (xl X) (xE X)) kX12_finds lX12_53 0 rfl rfl rfl rfl rfl ⟨(Nat.le_of_ble_eq_true rfl), (Nat.le_of_ble_eq_true rfl)⟩ (Nat.le_of_ble_eq_true rfl) dX12_on_30 ?_
          obtain rfl := Option.some.inj h
          exact g_iret (pc := 33) (Wf := Wm) F Rt rfl dX12_on_33) l E
set_option maxHeartbeats 4000000 in
set_option maxRecDepth 100000 in
theorem hX12_then {N : Nat} {M : Mem} {a1 : Int32} {a2 : Int32} {res : Int32 × Mem} (h : mX12_then N M a1 a2 = some res) (l : Launch) (E : Ev) : CtI l E (Wm E) yX12_then cX12_then 4 .int 7 155 [.ref (em E 0), .int a1, .int a2] M res.1 res.2 :=
  ctI_of (Wf := Wm) (av := fun E => [.ref (em E 0), .int a1, .int a2]) (lv := fun E => [(0, .ref (em E 0)), (1, .int a1), (2, .int a2)]) (by decide) (fun _ => rfl) (fun _ => (Nat.le_of_ble_eq_true rfl)) (fun X F hx Rt => by
    have F : Fx X cX12_then RX12 7 155 := F
    unfold mX12_then at h
    refine g_iload_n (pc := 0) (x := a1) F dX12_then_0 rfl 1 rfl ?_
    refine g_iconst (pc := 1) F dX12_then_1 ic_0 ?_
    refine g_bipush (pc := 2) F dX12_then_2 bp_100 ?_
    obtain ⟨r1, e2, h⟩ := bd_some h
    refine g_sI (pc := 4) (Wf := Wm) (As := [.int a1, .int (0 : Int32), .int (100 : Int32)]) (rest := []) F (hX12_in (M := M) e2 (xl X) (xE X)) kX12_in lX12_45 rfl rfl ⟨(Nat.le_of_ble_eq_true rfl), (Nat.le_of_ble_eq_true rfl)⟩ (Nat.le_of_ble_eq_true rfl) dX12_then_4 ?_
    refine g_if_eq (pc := 7) (tgt := 19) F dX12_then_7 (by decide) (fun c3 => ?_) (fun c3 => ?_)
    · have h := ite_t c3 h
      refine g_aload_n (pc := 19) (x := em (xE X) 0) F dX12_then_19 rfl 0 rfl ?_
      refine g_ldc (pc := 20) F oX12_44 dX12_then_20 ?_
      obtain ⟨q4, e5, h⟩ := bd_some h
      refine g_vI (pc := 22) (Wf := Wm) (As := [.int (-1000000001 : Int32)]) (rest := []) F (hX12_finds e5 (xl X) (xE X)) kX12_finds lX12_53 0 rfl rfl rfl rfl rfl ⟨(Nat.le_of_ble_eq_true rfl), (Nat.le_of_ble_eq_true rfl)⟩ (Nat.le_of_ble_eq_true rfl) dX12_then_22 ?_
      obtain rfl := Option.some.inj h
      exact g_iret (pc := 25) (Wf := Wm) F Rt rfl dX12_then_25
    · have h := ite_f c3 h
      refine g_iload_n (pc := 10) (x := a2) F dX12_then_10 rfl 2 rfl ?_
      refine g_iconst (pc := 11) F dX12_then_11 ic_0 ?_
      refine g_iconst (pc := 12) F dX12_then_12 ic_1 ?_
      obtain ⟨r6, e7, h⟩ := bd_some h
      refine g_sI (pc := 13) (Wf := Wm) (As := [.int a2, .int (0 : Int32), .int (1 : Int32)]) (rest := []) F (hX12_in (M := M) e7 (xl X) (xE X)) kX12_in lX12_45 rfl rfl ⟨(Nat.le_of_ble_eq_true rfl), (Nat.le_of_ble_eq_true rfl)⟩ (Nat.le_of_ble_eq_true rfl) dX12_then_13 ?_
      refine g_if_ne (pc := 16) (tgt := 26) F dX12_then_16 (by decide) (fun c8 => ?_) (fun c8 => ?_)
      · have h := ite_f c8 h
        refine g_aload_n (pc := 26) (x := em (xE X) 0) F dX12_then_26 rfl 0 rfl ?_
        refine g_iconst (pc := 27) F dX12_then_27 ic_1 ?_
        refine g_aload_n (pc := 28) (x := em (xE X) 0) F dX12_then_28 rfl 0 rfl ?_
        refine g_get (pc := 29) (v := .ref (em (xE X) 3)) F fX12_16 0 rfl rfl dX12_then_29 ?_
        obtain ⟨M9, e10, h⟩ := bd_some h
        refine g_vV (pc := 32) (Wf := Wm) (As := [.int (1 : Int32), .ref (em (xE X) 3)]) (rest := []) F (hX12_moveAll_2 e10 (xl X) (xE X)) kX12_moveAll lX12_143 0 rfl rfl rfl rfl rfl ⟨(Nat.le_of_ble_eq_true rfl), (Nat.le_of_ble_eq_true rfl)⟩ (Nat.le_of_ble_eq_true rfl) dX12_then_32 ?_
        refine g_aload_n (pc := 35) (x := em (xE X) 0) F dX12_then_35 rfl 0 rfl ?_
        refine g_iload_n (pc := 36) (x := a1) F dX12_then_36 rfl 1 rfl ?_
        obtain ⟨M11, e12, h⟩ := bd_some h
        refine g_vV (pc := 37) (Wf := Wm) (As := [.int a1]) (rest := []) F (hX12_passes e12 (xl X) (xE X)) kX12_passes lX12_140 0 rfl rfl rfl rfl rfl ⟨(Nat.le_of_ble_eq_true rfl), (Nat.le_of_ble_eq_true rfl)⟩ (Nat.le_of_ble_eq_true rfl) dX12_then_37 ?_
        refine g_aload_n (pc := 40) (x := em (xE X) 0) F dX12_then_40 rfl 0 rfl ?_
        refine g_iconst (pc := 41) F dX12_then_41 ic_5 ?_
        refine g_iload_n (pc := 42) (x := a2) F dX12_then_42 rfl 2 rfl ?_
        refine g_iadd (pc := 43) F dX12_then_43 ?_
        obtain ⟨r13, e14, h⟩ := bd_some h
        refine g_vI (pc := 44) (Wf := Wm) (As := [.int ((5 : Int32) + a2)]) (rest := []) F (hX12_setOf e14 (xl X) (xE X)) kX12_setOf lX12_79 0 rfl rfl rfl rfl rfl ⟨(Nat.le_of_ble_eq_true rfl), (Nat.le_of_ble_eq_true rfl)⟩ (Nat.le_of_ble_eq_true rfl) dX12_then_44 ?_
        refine g_istore_n (pc := 47) (lv2 := [(0, .ref (em (xE X) 0)), (1, .int a1), (2, .int a2), (3, .int r13)]) F dX12_then_47 rfl (by rw [hx]; decide) [1, 2, 3, 0] rfl ?_
        refine g_aload_n (pc := 48) (x := em (xE X) 0) F dX12_then_48 rfl 0 rfl ?_
        refine g_iconst (pc := 49) F dX12_then_49 ic_0 ?_
        refine g_aload_n (pc := 50) (x := em (xE X) 0) F dX12_then_50 rfl 0 rfl ?_
        refine g_get (pc := 51) (v := .ref (em (xE X) 3)) F fX12_16 0 rfl rfl dX12_then_51 ?_
        obtain ⟨M15, e16, h⟩ := bd_some h
        refine g_vV (pc := 54) (Wf := Wm) (As := [.int (0 : Int32), .ref (em (xE X) 3)]) (rest := []) F (hX12_moveAll_2 e16 (xl X) (xE X)) kX12_moveAll lX12_143 0 rfl rfl rfl rfl rfl ⟨(Nat.le_of_ble_eq_true rfl), (Nat.le_of_ble_eq_true rfl)⟩ (Nat.le_of_ble_eq_true rfl) dX12_then_54 ?_
        refine g_iload_n (pc := 57) (x := r13) F dX12_then_57 rfl 3 rfl ?_
        obtain rfl := Option.some.inj h
        exact g_iret (pc := 58) (Wf := Wm) F Rt rfl dX12_then_58
      · have h := ite_t c8 h
        refine g_aload_n (pc := 19) (x := em (xE X) 0) F dX12_then_19 rfl 0 rfl ?_
        refine g_ldc (pc := 20) F oX12_44 dX12_then_20 ?_
        obtain ⟨q17, e18, h⟩ := bd_some h
        refine g_vI (pc := 22) (Wf := Wm) (As := [.int (-1000000001 : Int32)]) (rest := []) F (hX12_finds e18 (xl X) (xE X)) kX12_finds lX12_53 0 rfl rfl rfl rfl rfl ⟨(Nat.le_of_ble_eq_true rfl), (Nat.le_of_ble_eq_true rfl)⟩ (Nat.le_of_ble_eq_true rfl) dX12_then_22 ?_
        obtain rfl := Option.some.inj h
        exact g_iret (pc := 25) (Wf := Wm) F Rt rfl dX12_then_25) l E
set_option maxHeartbeats 4000000 in
set_option maxRecDepth 100000 in
theorem wX12_soonest_b2 {X : Cx} (F : Fx X cX12_soonest RX12 6 133) (hx : xn X = 4) {N : Nat} {res : Int32 × Mem} (Rt : RI X Wm .int res.1 res.2) : ∀ (n : Nat) (M : Mem) (a1 : Int32) (a2 : Int32) (a3 : Int32), mX12_soonest_b2 N n M a1 a2 a3 = some res → G X (Wm (xE X) M) 2 [(0, .ref (em (xE X) 0)), (1, .int a1), (2, .int a2), (3, .int a3)] [] := by
  intro n
  induction n with
  | zero =>
    intro M a1 a2 a3 h
    have h : none = some res := h
    cases h
  | succ n ih =>
    intro M a1 a2 a3 h
    rw [mX12_soonest_b2] at h
    refine g_iload_n (pc := 2) (x := a3) F dX12_soonest_2 rfl 3 rfl ?_
    refine g_bipush (pc := 3) F dX12_soonest_3 bp_100 ?_
    refine g_icmp_gt (pc := 5) (tgt := 27) F dX12_soonest_5 (by decide) (fun c1 => ?_) (fun c1 => ?_)
    · have h := ite_t c1 h
      refine g_aload_n (pc := 27) (x := em (xE X) 0) F dX12_soonest_27 rfl 0 rfl ?_
      refine g_iconst (pc := 28) F dX12_soonest_28 ic_0 ?_
      refine g_aload_n (pc := 29) (x := em (xE X) 0) F dX12_soonest_29 rfl 0 rfl ?_
      refine g_get (pc := 30) (v := .ref (em (xE X) 3)) F fX12_16 0 rfl rfl dX12_soonest_30 ?_
      obtain ⟨M2, e3, h⟩ := bd_some h
      refine g_vV (pc := 33) (Wf := Wm) (As := [.int (0 : Int32), .ref (em (xE X) 3)]) (rest := []) F (hX12_moveAll_2 e3 (xl X) (xE X)) kX12_moveAll lX12_143 0 rfl rfl rfl rfl rfl ⟨(Nat.le_of_ble_eq_true rfl), (Nat.le_of_ble_eq_true rfl)⟩ (Nat.le_of_ble_eq_true rfl) dX12_soonest_33 ?_
      refine g_iload_n (pc := 36) (x := a3) F dX12_soonest_36 rfl 3 rfl ?_
      obtain rfl := Option.some.inj h
      exact g_iret (pc := 37) (Wf := Wm) F Rt rfl dX12_soonest_37
    · have h := ite_f c1 h
      refine g_aload_n (pc := 8) (x := em (xE X) 0) F dX12_soonest_8 rfl 0 rfl ?_
      refine g_iload_n (pc := 9) (x := a1) F dX12_soonest_9 rfl 1 rfl ?_
      refine g_iload_n (pc := 10) (x := a2) F dX12_soonest_10 rfl 2 rfl ?_
      obtain ⟨r4, e5, h⟩ := bd_some h
      refine g_vI (pc := 11) (Wf := Wm) (As := [.int a1, .int a2]) (rest := []) F (hX12_its e5 (xl X) (xE X)) kX12_its lX12_69 0 rfl rfl rfl rfl rfl ⟨(Nat.le_of_ble_eq_true rfl), (Nat.le_of_ble_eq_true rfl)⟩ (Nat.le_of_ble_eq_true rfl) dX12_soonest_11 ?_
      refine g_if_ne (pc := 14) (tgt := 27) F dX12_soonest_14 (by decide) (fun c6 => ?_) (fun c6 => ?_)
      · have h := ite_f c6 h
        refine g_aload_n (pc := 27) (x := em (xE X) 0) F dX12_soonest_27 rfl 0 rfl ?_
        refine g_iconst (pc := 28) F dX12_soonest_28 ic_0 ?_
        refine g_aload_n (pc := 29) (x := em (xE X) 0) F dX12_soonest_29 rfl 0 rfl ?_
        refine g_get (pc := 30) (v := .ref (em (xE X) 3)) F fX12_16 0 rfl rfl dX12_soonest_30 ?_
        obtain ⟨M7, e8, h⟩ := bd_some h
        refine g_vV (pc := 33) (Wf := Wm) (As := [.int (0 : Int32), .ref (em (xE X) 3)]) (rest := []) F (hX12_moveAll_2 e8 (xl X) (xE X)) kX12_moveAll lX12_143 0 rfl rfl rfl rfl rfl ⟨(Nat.le_of_ble_eq_true rfl), (Nat.le_of_ble_eq_true rfl)⟩ (Nat.le_of_ble_eq_true rfl) dX12_soonest_33 ?_
        refine g_iload_n (pc := 36) (x := a3) F dX12_soonest_36 rfl 3 rfl ?_
        obtain rfl := Option.some.inj h
        exact g_iret (pc := 37) (Wf := Wm) F Rt rfl dX12_soonest_37
      · have h := ite_t c6 h
        refine g_aload_n (pc := 17) (x := em (xE X) 0) F dX12_soonest_17 rfl 0 rfl ?_
        obtain ⟨M9, e10, h⟩ := bd_some h
        refine g_vV (pc := 18) (Wf := Wm) (As := []) (rest := []) F (hX12_oneHour e10 (xl X) (xE X)) kX12_oneHour lX12_135 0 rfl rfl rfl rfl rfl ⟨(Nat.le_of_ble_eq_true rfl), (Nat.le_of_ble_eq_true rfl)⟩ (Nat.le_of_ble_eq_true rfl) dX12_soonest_18 ?_
        refine g_iinc (pc := 21) (lv2 := [(0, .ref (em (xE X) 0)), (1, .int a1), (2, .int a2), (3, .int (a3 + (1 : Int32)))]) F dX12_soonest_21 3 rfl (ii_1 _) (by rw [hx]; decide) [1, 2, 3, 0] rfl ?_
        refine g_goto (pc := 24) (tgt := 2) F dX12_soonest_24 (by decide) ?_
        refine g_sub [0, 1, 2, 3] rfl ?_
        exact ih M9 a1 a2 (a3 + (1 : Int32)) h
set_option maxHeartbeats 4000000 in
set_option maxRecDepth 100000 in
theorem hX12_soonest {N : Nat} {M : Mem} {a1 : Int32} {a2 : Int32} {res : Int32 × Mem} (h : mX12_soonest N M a1 a2 = some res) (l : Launch) (E : Ev) : CtI l E (Wm E) yX12_soonest cX12_soonest 4 .int 6 133 [.ref (em E 0), .int a1, .int a2] M res.1 res.2 :=
  ctI_of (Wf := Wm) (av := fun E => [.ref (em E 0), .int a1, .int a2]) (lv := fun E => [(0, .ref (em E 0)), (1, .int a1), (2, .int a2)]) (by decide) (fun _ => rfl) (fun _ => (Nat.le_of_ble_eq_true rfl)) (fun X F hx Rt => by
    have F : Fx X cX12_soonest RX12 6 133 := F
    unfold mX12_soonest at h
    refine g_iconst (pc := 0) F dX12_soonest_0 ic_0 ?_
    refine g_istore_n (pc := 1) (lv2 := [(0, .ref (em (xE X) 0)), (1, .int a1), (2, .int a2), (3, .int (0 : Int32))]) F dX12_soonest_1 rfl (by rw [hx]; decide) [1, 2, 3, 0] rfl ?_
    refine g_sub [0, 1, 2, 3] rfl ?_
    exact wX12_soonest_b2 F hx Rt N M a1 a2 (0 : Int32) h) l E
set_option maxHeartbeats 4000000 in
set_option maxRecDepth 100000 in
theorem hX12_whenFirst {N : Nat} {M : Mem} {a1 : Int32} {a2 : Int32} {res : Int32 × Mem} (h : mX12_whenFirst N M a1 a2 = some res) (l : Launch) (E : Ev) : CtI l E (Wm E) yX12_whenFirst cX12_whenFirst 4 .int 7 156 [.ref (em E 0), .int a1, .int a2] M res.1 res.2 :=
  ctI_of (Wf := Wm) (av := fun E => [.ref (em E 0), .int a1, .int a2]) (lv := fun E => [(0, .ref (em E 0)), (1, .int a1), (2, .int a2)]) (by decide) (fun _ => rfl) (fun _ => (Nat.le_of_ble_eq_true rfl)) (fun X F hx Rt => by
    have F : Fx X cX12_whenFirst RX12 7 156 := F
    unfold mX12_whenFirst at h
    refine g_aload_n (pc := 0) (x := em (xE X) 0) F dX12_whenFirst_0 rfl 0 rfl ?_
    refine g_iconst (pc := 1) F dX12_whenFirst_1 ic_1 ?_
    refine g_aload_n (pc := 2) (x := em (xE X) 0) F dX12_whenFirst_2 rfl 0 rfl ?_
    refine g_get (pc := 3) (v := .ref (em (xE X) 3)) F fX12_16 0 rfl rfl dX12_whenFirst_3 ?_
    obtain ⟨M1, e2, h⟩ := bd_some h
    refine g_vV (pc := 6) (Wf := Wm) (As := [.int (1 : Int32), .ref (em (xE X) 3)]) (rest := []) F (hX12_moveAll_2 e2 (xl X) (xE X)) kX12_moveAll lX12_143 0 rfl rfl rfl rfl rfl ⟨(Nat.le_of_ble_eq_true rfl), (Nat.le_of_ble_eq_true rfl)⟩ (Nat.le_of_ble_eq_true rfl) dX12_whenFirst_6 ?_
    refine g_aload_n (pc := 9) (x := em (xE X) 0) F dX12_whenFirst_9 rfl 0 rfl ?_
    refine g_iload_n (pc := 10) (x := a1) F dX12_whenFirst_10 rfl 1 rfl ?_
    refine g_iload_n (pc := 11) (x := a2) F dX12_whenFirst_11 rfl 2 rfl ?_
    obtain ⟨q3, e4, h⟩ := bd_some h
    refine g_vI (pc := 12) (Wf := Wm) (As := [.int a1, .int a2]) (rest := []) F (hX12_soonest e4 (xl X) (xE X)) kX12_soonest lX12_147 0 rfl rfl rfl rfl rfl ⟨(Nat.le_of_ble_eq_true rfl), (Nat.le_of_ble_eq_true rfl)⟩ (Nat.le_of_ble_eq_true rfl) dX12_whenFirst_12 ?_
    refine g_istore_n (pc := 15) (lv2 := [(0, .ref (em (xE X) 0)), (1, .int a1), (2, .int a2), (3, .int q3.1)]) F dX12_whenFirst_15 rfl (by rw [hx]; decide) [1, 2, 3, 0] rfl ?_
    refine g_iload_n (pc := 16) (x := q3.1) F dX12_whenFirst_16 rfl 3 rfl ?_
    refine g_bipush (pc := 17) F dX12_whenFirst_17 bp_100 ?_
    refine g_icmp_le (pc := 19) (tgt := 31) F dX12_whenFirst_19 (by decide) (fun c5 => ?_) (fun c5 => ?_)
    · have h := ite_t c5 h
      refine g_iload_n (pc := 31) (x := q3.1) F dX12_whenFirst_31 rfl 3 rfl ?_
      obtain rfl := Option.some.inj h
      exact g_iret (pc := 32) (Wf := Wm) F Rt rfl dX12_whenFirst_32
    · have h := ite_f c5 h
      refine g_aload_n (pc := 22) (x := em (xE X) 0) F dX12_whenFirst_22 rfl 0 rfl ?_
      refine g_ldc (pc := 23) F oX12_150 dX12_whenFirst_23 ?_
      obtain ⟨q6, e7, h⟩ := bd_some h
      refine g_vI (pc := 25) (Wf := Wm) (As := [.int (-1000000004 : Int32)]) (rest := []) F (hX12_finds e7 (xl X) (xE X)) kX12_finds lX12_53 0 rfl rfl rfl rfl rfl ⟨(Nat.le_of_ble_eq_true rfl), (Nat.le_of_ble_eq_true rfl)⟩ (Nat.le_of_ble_eq_true rfl) dX12_whenFirst_25 ?_
      refine g_goto (pc := 28) (tgt := 32) F dX12_whenFirst_28 (by decide) ?_
      obtain rfl := Option.some.inj h
      exact g_iret (pc := 32) (Wf := Wm) F Rt rfl dX12_whenFirst_32) l E
set_option maxHeartbeats 4000000 in
set_option maxRecDepth 100000 in
theorem hX12_comes {N : Nat} {M : Mem} {a1 : Int32} {res : Int32 × Mem} (h : mX12_comes N M a1 = some res) (l : Launch) (E : Ev) : CtI l E (Wm E) yX12_comes cX12_comes 2 .int 8 179 [.ref (em E 0), .int a1] M res.1 res.2 :=
  ctI_of (Wf := Wm) (av := fun E => [.ref (em E 0), .int a1]) (lv := fun E => [(0, .ref (em E 0)), (1, .int a1)]) (by decide) (fun _ => rfl) (fun _ => (Nat.le_of_ble_eq_true rfl)) (fun X F hx Rt => by
    have F : Fx X cX12_comes RX12 8 179 := F
    unfold mX12_comes at h
    refine g_aload_n (pc := 0) (x := em (xE X) 0) F dX12_comes_0 rfl 0 rfl ?_
    refine g_iload_n (pc := 1) (x := a1) F dX12_comes_1 rfl 1 rfl ?_
    obtain ⟨r1, e2, h⟩ := bd_some h
    refine g_vI (pc := 2) (Wf := Wm) (As := [.int a1]) (rest := []) F (hX12_isOne e2 (xl X) (xE X)) kX12_isOne lX12_99 0 rfl rfl rfl rfl rfl ⟨(Nat.le_of_ble_eq_true rfl), (Nat.le_of_ble_eq_true rfl)⟩ (Nat.le_of_ble_eq_true rfl) dX12_comes_2 ?_
    refine g_if_eq (pc := 5) (tgt := 18) F dX12_comes_5 (by decide) (fun c3 => ?_) (fun c3 => ?_)
    · have h := ite_t c3 h
      refine g_aload_n (pc := 18) (x := em (xE X) 0) F dX12_comes_18 rfl 0 rfl ?_
      refine g_ldc (pc := 19) F oX12_44 dX12_comes_19 ?_
      obtain ⟨q4, e5, h⟩ := bd_some h
      refine g_vI (pc := 21) (Wf := Wm) (As := [.int (-1000000001 : Int32)]) (rest := []) F (hX12_finds e5 (xl X) (xE X)) kX12_finds lX12_53 0 rfl rfl rfl rfl rfl ⟨(Nat.le_of_ble_eq_true rfl), (Nat.le_of_ble_eq_true rfl)⟩ (Nat.le_of_ble_eq_true rfl) dX12_comes_21 ?_
      obtain rfl := Option.some.inj h
      exact g_iret (pc := 24) (Wf := Wm) F Rt rfl dX12_comes_24
    · have h := ite_f c3 h
      refine g_aload_n (pc := 8) (x := em (xE X) 0) F dX12_comes_8 rfl 0 rfl ?_
      refine g_iload_n (pc := 9) (x := a1) F dX12_comes_9 rfl 1 rfl ?_
      refine g_bipush (pc := 10) F dX12_comes_10 bp_6 ?_
      obtain ⟨q6, e7, h⟩ := bd_some h
      refine g_vI (pc := 12) (Wf := Wm) (As := [.int a1, .int (6 : Int32)]) (rest := []) F (hX12_whenFirst e7 (xl X) (xE X)) kX12_whenFirst lX12_151 0 rfl rfl rfl rfl rfl ⟨(Nat.le_of_ble_eq_true rfl), (Nat.le_of_ble_eq_true rfl)⟩ (Nat.le_of_ble_eq_true rfl) dX12_comes_12 ?_
      refine g_goto (pc := 15) (tgt := 24) F dX12_comes_15 (by decide) ?_
      obtain rfl := Option.some.inj h
      exact g_iret (pc := 24) (Wf := Wm) F Rt rfl dX12_comes_24) l E
set_option maxHeartbeats 4000000 in
set_option maxRecDepth 100000 in
theorem hX12_wrecks {N : Nat} {M : Mem} {a1 : Int32} {res : Int32 × Mem} (h : mX12_wrecks N M a1 = some res) (l : Launch) (E : Ev) : CtI l E (Wm E) yX12_wrecks cX12_wrecks 2 .int 8 179 [.ref (em E 0), .int a1] M res.1 res.2 :=
  ctI_of (Wf := Wm) (av := fun E => [.ref (em E 0), .int a1]) (lv := fun E => [(0, .ref (em E 0)), (1, .int a1)]) (by decide) (fun _ => rfl) (fun _ => (Nat.le_of_ble_eq_true rfl)) (fun X F hx Rt => by
    have F : Fx X cX12_wrecks RX12 8 179 := F
    unfold mX12_wrecks at h
    refine g_aload_n (pc := 0) (x := em (xE X) 0) F dX12_wrecks_0 rfl 0 rfl ?_
    refine g_iload_n (pc := 1) (x := a1) F dX12_wrecks_1 rfl 1 rfl ?_
    obtain ⟨r1, e2, h⟩ := bd_some h
    refine g_vI (pc := 2) (Wf := Wm) (As := [.int a1]) (rest := []) F (hX12_isOne e2 (xl X) (xE X)) kX12_isOne lX12_99 0 rfl rfl rfl rfl rfl ⟨(Nat.le_of_ble_eq_true rfl), (Nat.le_of_ble_eq_true rfl)⟩ (Nat.le_of_ble_eq_true rfl) dX12_wrecks_2 ?_
    refine g_if_eq (pc := 5) (tgt := 17) F dX12_wrecks_5 (by decide) (fun c3 => ?_) (fun c3 => ?_)
    · have h := ite_t c3 h
      refine g_aload_n (pc := 17) (x := em (xE X) 0) F dX12_wrecks_17 rfl 0 rfl ?_
      refine g_ldc (pc := 18) F oX12_44 dX12_wrecks_18 ?_
      obtain ⟨q4, e5, h⟩ := bd_some h
      refine g_vI (pc := 20) (Wf := Wm) (As := [.int (-1000000001 : Int32)]) (rest := []) F (hX12_finds e5 (xl X) (xE X)) kX12_finds lX12_53 0 rfl rfl rfl rfl rfl ⟨(Nat.le_of_ble_eq_true rfl), (Nat.le_of_ble_eq_true rfl)⟩ (Nat.le_of_ble_eq_true rfl) dX12_wrecks_20 ?_
      obtain rfl := Option.some.inj h
      exact g_iret (pc := 23) (Wf := Wm) F Rt rfl dX12_wrecks_23
    · have h := ite_f c3 h
      refine g_aload_n (pc := 8) (x := em (xE X) 0) F dX12_wrecks_8 rfl 0 rfl ?_
      refine g_iload_n (pc := 9) (x := a1) F dX12_wrecks_9 rfl 1 rfl ?_
      refine g_iconst (pc := 10) F dX12_wrecks_10 ic_5 ?_
      obtain ⟨q6, e7, h⟩ := bd_some h
      refine g_vI (pc := 11) (Wf := Wm) (As := [.int a1, .int (5 : Int32)]) (rest := []) F (hX12_whenFirst e7 (xl X) (xE X)) kX12_whenFirst lX12_151 0 rfl rfl rfl rfl rfl ⟨(Nat.le_of_ble_eq_true rfl), (Nat.le_of_ble_eq_true rfl)⟩ (Nat.le_of_ble_eq_true rfl) dX12_wrecks_11 ?_
      refine g_goto (pc := 14) (tgt := 23) F dX12_wrecks_14 (by decide) ?_
      obtain rfl := Option.some.inj h
      exact g_iret (pc := 23) (Wf := Wm) F Rt rfl dX12_wrecks_23) l E
set_option maxHeartbeats 4000000 in
set_option maxRecDepth 100000 in
theorem wX12_bestOf_b95 {X : Cx} (F : Fx X cX12_bestOf RX12 7 156) (hx : xn X = 8) {N : Nat} {res : Int32 × Mem} (Rt : RI X Wm .int res.1 res.2) {K58 : Mem → Int32 → Int32 → Int32 → Int32 → Int32 → Int32 → Option (Int32 × Mem)} (hK58 : ∀ (M : Mem) (a1 : Int32) (a2 : Int32) (a3 : Int32) (a4 : Int32) (a5 : Int32) (a6 : Int32), K58 M a1 a2 a3 a4 a5 a6 = some res → G X (Wm (xE X) M) 58 [(0, .ref (em (xE X) 0)), (1, .int a1), (2, .int a2), (3, .int a3), (4, .int a4), (5, .int a5), (6, .int a6)] []) : ∀ (M : Mem) (a1 : Int32) (a2 : Int32) (a3 : Int32) (a5 : Int32) (a6 : Int32) (a7 : Int32) (s0 : Int32), mX12_bestOf_b95 N K58 M a1 a2 a3 a5 a6 a7 s0 = some res → G X (Wm (xE X) M) 95 [(0, .ref (em (xE X) 0)), (1, .int a1), (2, .int a2), (3, .int a3), (5, .int a5), (6, .int a6), (7, .int a7)] [.int s0] := by
  intro M a1 a2 a3 a5 a6 a7 s0 h
  unfold mX12_bestOf_b95 at h
  refine g_istore (pc := 95) (lv2 := [(0, .ref (em (xE X) 0)), (1, .int a1), (2, .int a2), (3, .int a3), (4, .int s0), (5, .int a5), (6, .int a6), (7, .int a7)]) F dX12_bestOf_95 (by rw [hx]; decide) [1, 2, 3, 4, 0, 5, 6, 7] rfl ?_
  refine g_iload (pc := 97) (x := a7) F dX12_bestOf_97 7 rfl ?_
  refine g_iload (pc := 99) (x := a5) F dX12_bestOf_99 5 rfl ?_
  refine g_icmp_ge (pc := 101) (tgt := 109) F dX12_bestOf_101 (by decide) (fun c20 => ?_) (fun c20 => ?_)
  · have h := ite_t c20 h
    refine g_iload (pc := 109) (x := a5) F dX12_bestOf_109 5 rfl ?_
    refine g_istore (pc := 111) (lv2 := [(0, .ref (em (xE X) 0)), (1, .int a1), (2, .int a2), (3, .int a3), (4, .int s0), (5, .int a5), (6, .int a6), (7, .int a7)]) F dX12_bestOf_111 (by rw [hx]; decide) [1, 2, 3, 4, 5, 0, 6, 7] rfl ?_
    refine g_iinc (pc := 113) (lv2 := [(0, .ref (em (xE X) 0)), (1, .int a1), (2, .int a2), (3, .int a3), (4, .int s0), (5, .int a5), (6, .int (a6 + (1 : Int32))), (7, .int a7)]) F dX12_bestOf_113 6 rfl (ii_1 _) (by rw [hx]; decide) [1, 2, 3, 4, 5, 6, 0, 7] rfl ?_
    refine g_goto (pc := 116) (tgt := 58) F dX12_bestOf_116 (by decide) ?_
    refine g_sub [0, 1, 2, 3, 4, 5, 6] rfl ?_
    exact hK58 M a1 a2 a3 s0 a5 (a6 + (1 : Int32)) h
  · have h := ite_f c20 h
    refine g_iload (pc := 104) (x := a7) F dX12_bestOf_104 7 rfl ?_
    refine g_goto (pc := 106) (tgt := 111) F dX12_bestOf_106 (by decide) ?_
    refine g_istore (pc := 111) (lv2 := [(0, .ref (em (xE X) 0)), (1, .int a1), (2, .int a2), (3, .int a3), (4, .int s0), (5, .int a7), (6, .int a6), (7, .int a7)]) F dX12_bestOf_111 (by rw [hx]; decide) [1, 2, 3, 4, 5, 0, 6, 7] rfl ?_
    refine g_iinc (pc := 113) (lv2 := [(0, .ref (em (xE X) 0)), (1, .int a1), (2, .int a2), (3, .int a3), (4, .int s0), (5, .int a7), (6, .int (a6 + (1 : Int32))), (7, .int a7)]) F dX12_bestOf_113 6 rfl (ii_1 _) (by rw [hx]; decide) [1, 2, 3, 4, 5, 6, 0, 7] rfl ?_
    refine g_goto (pc := 116) (tgt := 58) F dX12_bestOf_116 (by decide) ?_
    refine g_sub [0, 1, 2, 3, 4, 5, 6] rfl ?_
    exact hK58 M a1 a2 a3 s0 a7 (a6 + (1 : Int32)) h
set_option maxHeartbeats 4000000 in
set_option maxRecDepth 100000 in
theorem wX12_bestOf_b58 {X : Cx} (F : Fx X cX12_bestOf RX12 7 156) (hx : xn X = 8) {N : Nat} {res : Int32 × Mem} (Rt : RI X Wm .int res.1 res.2) : ∀ (n : Nat) (M : Mem) (a1 : Int32) (a2 : Int32) (a3 : Int32) (a4 : Int32) (a5 : Int32) (a6 : Int32), mX12_bestOf_b58 N n M a1 a2 a3 a4 a5 a6 = some res → G X (Wm (xE X) M) 58 [(0, .ref (em (xE X) 0)), (1, .int a1), (2, .int a2), (3, .int a3), (4, .int a4), (5, .int a5), (6, .int a6)] [] := by
  intro n
  induction n with
  | zero =>
    intro M a1 a2 a3 a4 a5 a6 h
    have h : none = some res := h
    cases h
  | succ n ih =>
    intro M a1 a2 a3 a4 a5 a6 h
    rw [mX12_bestOf_b58] at h
    refine g_iload (pc := 58) (x := a6) F dX12_bestOf_58 6 rfl ?_
    refine g_iload_n (pc := 60) (x := a3) F dX12_bestOf_60 rfl 3 rfl ?_
    refine g_icmp_gt (pc := 61) (tgt := 119) F dX12_bestOf_61 (by decide) (fun c11 => ?_) (fun c11 => ?_)
    · have h := ite_t c11 h
      refine g_iload (pc := 119) (x := a4) F dX12_bestOf_119 4 rfl ?_
      refine g_if_ge (pc := 121) (tgt := 133) F dX12_bestOf_121 (by decide) (fun c12 => ?_) (fun c12 => ?_)
      · have h := ite_t c12 h
        refine g_iload (pc := 133) (x := a4) F dX12_bestOf_133 4 rfl ?_
        obtain rfl := Option.some.inj h
        exact g_iret (pc := 135) (Wf := Wm) F Rt rfl dX12_bestOf_135
      · have h := ite_f c12 h
        refine g_aload_n (pc := 124) (x := em (xE X) 0) F dX12_bestOf_124 rfl 0 rfl ?_
        refine g_ldc (pc := 125) F oX12_150 dX12_bestOf_125 ?_
        obtain ⟨q13, e14, h⟩ := bd_some h
        refine g_vI (pc := 127) (Wf := Wm) (As := [.int (-1000000004 : Int32)]) (rest := []) F (hX12_finds e14 (xl X) (xE X)) kX12_finds lX12_53 0 rfl rfl rfl rfl rfl ⟨(Nat.le_of_ble_eq_true rfl), (Nat.le_of_ble_eq_true rfl)⟩ (Nat.le_of_ble_eq_true rfl) dX12_bestOf_127 ?_
        refine g_goto (pc := 130) (tgt := 135) F dX12_bestOf_130 (by decide) ?_
        obtain rfl := Option.some.inj h
        exact g_iret (pc := 135) (Wf := Wm) F Rt rfl dX12_bestOf_135
    · have h := ite_f c11 h
      refine g_aload_n (pc := 64) (x := em (xE X) 0) F dX12_bestOf_64 rfl 0 rfl ?_
      refine g_iload_n (pc := 65) (x := a1) F dX12_bestOf_65 rfl 1 rfl ?_
      refine g_iload_n (pc := 66) (x := a2) F dX12_bestOf_66 rfl 2 rfl ?_
      refine g_iload (pc := 67) (x := a6) F dX12_bestOf_67 6 rfl ?_
      obtain ⟨M15, e16, h⟩ := bd_some h
      refine g_vV (pc := 69) (Wf := Wm) (As := [.int a1, .int a2, .int a6]) (rest := []) F (hX12_puts e16 (xl X) (xE X)) kX12_puts lX12_88 0 rfl rfl rfl rfl rfl ⟨(Nat.le_of_ble_eq_true rfl), (Nat.le_of_ble_eq_true rfl)⟩ (Nat.le_of_ble_eq_true rfl) dX12_bestOf_69 ?_
      refine g_aload_n (pc := 72) (x := em (xE X) 0) F dX12_bestOf_72 rfl 0 rfl ?_
      refine g_iload_n (pc := 73) (x := a1) F dX12_bestOf_73 rfl 1 rfl ?_
      refine g_bipush (pc := 74) F dX12_bestOf_74 bp_6 ?_
      obtain ⟨q17, e18, h⟩ := bd_some h
      refine g_vI (pc := 76) (Wf := Wm) (As := [.int a1, .int (6 : Int32)]) (rest := []) F (hX12_soonest e18 (xl X) (xE X)) kX12_soonest lX12_147 0 rfl rfl rfl rfl rfl ⟨(Nat.le_of_ble_eq_true rfl), (Nat.le_of_ble_eq_true rfl)⟩ (Nat.le_of_ble_eq_true rfl) dX12_bestOf_76 ?_
      refine g_istore (pc := 79) (lv2 := [(0, .ref (em (xE X) 0)), (1, .int a1), (2, .int a2), (3, .int a3), (4, .int a4), (5, .int a5), (6, .int a6), (7, .int q17.1)]) F dX12_bestOf_79 (by rw [hx]; decide) [1, 2, 3, 4, 5, 6, 7, 0] rfl ?_
      refine g_iload (pc := 81) (x := q17.1) F dX12_bestOf_81 7 rfl ?_
      refine g_iload (pc := 83) (x := a5) F dX12_bestOf_83 5 rfl ?_
      refine g_icmp_ge (pc := 85) (tgt := 93) F dX12_bestOf_85 (by decide) (fun c19 => ?_) (fun c19 => ?_)
      · have h := ite_t c19 h
        refine g_iload (pc := 93) (x := a4) F dX12_bestOf_93 4 rfl ?_
        refine g_sub [0, 1, 2, 3, 5, 6, 7] rfl ?_
        exact wX12_bestOf_b95 F hx Rt ih q17.2 a1 a2 a3 a5 a6 q17.1 a4 h
      · have h := ite_f c19 h
        refine g_iload (pc := 88) (x := a6) F dX12_bestOf_88 6 rfl ?_
        refine g_goto (pc := 90) (tgt := 95) F dX12_bestOf_90 (by decide) ?_
        refine g_sub [0, 1, 2, 3, 5, 6, 7] rfl ?_
        exact wX12_bestOf_b95 F hx Rt ih q17.2 a1 a2 a3 a5 a6 q17.1 a6 h
set_option maxHeartbeats 4000000 in
set_option maxRecDepth 100000 in
theorem hX12_bestOf {N : Nat} {M : Mem} {a1 : Int32} {a2 : Int32} {a3 : Int32} {res : Int32 × Mem} (h : mX12_bestOf N M a1 a2 a3 = some res) (l : Launch) (E : Ev) : CtI l E (Wm E) yX12_bestOf cX12_bestOf 8 .int 7 156 [.ref (em E 0), .int a1, .int a2, .int a3] M res.1 res.2 :=
  ctI_of (Wf := Wm) (av := fun E => [.ref (em E 0), .int a1, .int a2, .int a3]) (lv := fun E => [(0, .ref (em E 0)), (1, .int a1), (2, .int a2), (3, .int a3)]) (by decide) (fun _ => rfl) (fun _ => (Nat.le_of_ble_eq_true rfl)) (fun X F hx Rt => by
    have F : Fx X cX12_bestOf RX12 7 156 := F
    unfold mX12_bestOf at h
    refine g_aload_n (pc := 0) (x := em (xE X) 0) F dX12_bestOf_0 rfl 0 rfl ?_
    refine g_iload_n (pc := 1) (x := a1) F dX12_bestOf_1 rfl 1 rfl ?_
    obtain ⟨r1, e2, h⟩ := bd_some h
    refine g_vI (pc := 2) (Wf := Wm) (As := [.int a1]) (rest := []) F (hX12_isOne e2 (xl X) (xE X)) kX12_isOne lX12_99 0 rfl rfl rfl rfl rfl ⟨(Nat.le_of_ble_eq_true rfl), (Nat.le_of_ble_eq_true rfl)⟩ (Nat.le_of_ble_eq_true rfl) dX12_bestOf_2 ?_
    refine g_if_ne (pc := 5) (tgt := 15) F dX12_bestOf_5 (by decide) (fun c3 => ?_) (fun c3 => ?_)
    · have h := ite_f c3 h
      refine g_aload_n (pc := 15) (x := em (xE X) 0) F dX12_bestOf_15 rfl 0 rfl ?_
      refine g_iload_n (pc := 16) (x := a1) F dX12_bestOf_16 rfl 1 rfl ?_
      refine g_iconst (pc := 17) F dX12_bestOf_17 ic_5 ?_
      obtain ⟨r4, e5, h⟩ := bd_some h
      refine g_vI (pc := 18) (Wf := Wm) (As := [.int a1, .int (5 : Int32)]) (rest := []) F (hX12_its e5 (xl X) (xE X)) kX12_its lX12_69 0 rfl rfl rfl rfl rfl ⟨(Nat.le_of_ble_eq_true rfl), (Nat.le_of_ble_eq_true rfl)⟩ (Nat.le_of_ble_eq_true rfl) dX12_bestOf_18 ?_
      refine g_aload_n (pc := 21) (x := em (xE X) 0) F dX12_bestOf_21 rfl 0 rfl ?_
      refine g_iload_n (pc := 22) (x := a1) F dX12_bestOf_22 rfl 1 rfl ?_
      refine g_bipush (pc := 23) F dX12_bestOf_23 bp_6 ?_
      obtain ⟨r6, e7, h⟩ := bd_some h
      refine g_vI (pc := 25) (Wf := Wm) (As := [.int a1, .int (6 : Int32)]) (rest := [.int r4]) F (hX12_its e7 (xl X) (xE X)) kX12_its lX12_69 0 rfl rfl rfl rfl rfl ⟨(Nat.le_of_ble_eq_true rfl), (Nat.le_of_ble_eq_true rfl)⟩ (Nat.le_of_ble_eq_true rfl) dX12_bestOf_25 ?_
      refine g_iadd (pc := 28) F dX12_bestOf_28 ?_
      refine g_if_le (pc := 29) (tgt := 39) F dX12_bestOf_29 (by decide) (fun c8 => ?_) (fun c8 => ?_)
      · have h := ite_t c8 h
        refine g_aload_n (pc := 39) (x := em (xE X) 0) F dX12_bestOf_39 rfl 0 rfl ?_
        refine g_iconst (pc := 40) F dX12_bestOf_40 ic_1 ?_
        refine g_aload_n (pc := 41) (x := em (xE X) 0) F dX12_bestOf_41 rfl 0 rfl ?_
        refine g_get (pc := 42) (v := .ref (em (xE X) 3)) F fX12_16 0 rfl rfl dX12_bestOf_42 ?_
        obtain ⟨M9, e10, h⟩ := bd_some h
        refine g_vV (pc := 45) (Wf := Wm) (As := [.int (1 : Int32), .ref (em (xE X) 3)]) (rest := []) F (hX12_moveAll_2 e10 (xl X) (xE X)) kX12_moveAll lX12_143 0 rfl rfl rfl rfl rfl ⟨(Nat.le_of_ble_eq_true rfl), (Nat.le_of_ble_eq_true rfl)⟩ (Nat.le_of_ble_eq_true rfl) dX12_bestOf_45 ?_
        refine g_iconst (pc := 48) F dX12_bestOf_48 ic_m1 ?_
        refine g_istore (pc := 49) (lv2 := [(0, .ref (em (xE X) 0)), (1, .int a1), (2, .int a2), (3, .int a3), (4, .int (-1 : Int32))]) F dX12_bestOf_49 (by rw [hx]; decide) [1, 2, 3, 4, 0] rfl ?_
        refine g_bipush (pc := 51) F dX12_bestOf_51 bp_101 ?_
        refine g_istore (pc := 53) (lv2 := [(0, .ref (em (xE X) 0)), (1, .int a1), (2, .int a2), (3, .int a3), (4, .int (-1 : Int32)), (5, .int (101 : Int32))]) F dX12_bestOf_53 (by rw [hx]; decide) [1, 2, 3, 4, 5, 0] rfl ?_
        refine g_iconst (pc := 55) F dX12_bestOf_55 ic_0 ?_
        refine g_istore (pc := 56) (lv2 := [(0, .ref (em (xE X) 0)), (1, .int a1), (2, .int a2), (3, .int a3), (4, .int (-1 : Int32)), (5, .int (101 : Int32)), (6, .int (0 : Int32))]) F dX12_bestOf_56 (by rw [hx]; decide) [1, 2, 3, 4, 5, 6, 0] rfl ?_
        refine g_sub [0, 1, 2, 3, 4, 5, 6] rfl ?_
        exact wX12_bestOf_b58 F hx Rt N M9 a1 a2 a3 (-1 : Int32) (101 : Int32) (0 : Int32) h
      · have h := ite_f c8 h
        refine g_aload_n (pc := 32) (x := em (xE X) 0) F dX12_bestOf_32 rfl 0 rfl ?_
        refine g_ldc (pc := 33) F oX12_139 dX12_bestOf_33 ?_
        obtain ⟨q21, e22, h⟩ := bd_some h
        refine g_vI (pc := 35) (Wf := Wm) (As := [.int (-1000000005 : Int32)]) (rest := []) F (hX12_finds e22 (xl X) (xE X)) kX12_finds lX12_53 0 rfl rfl rfl rfl rfl ⟨(Nat.le_of_ble_eq_true rfl), (Nat.le_of_ble_eq_true rfl)⟩ (Nat.le_of_ble_eq_true rfl) dX12_bestOf_35 ?_
        obtain rfl := Option.some.inj h
        exact g_iret (pc := 38) (Wf := Wm) F Rt rfl dX12_bestOf_38
    · have h := ite_t c3 h
      refine g_aload_n (pc := 8) (x := em (xE X) 0) F dX12_bestOf_8 rfl 0 rfl ?_
      refine g_ldc (pc := 9) F oX12_44 dX12_bestOf_9 ?_
      obtain ⟨q23, e24, h⟩ := bd_some h
      refine g_vI (pc := 11) (Wf := Wm) (As := [.int (-1000000001 : Int32)]) (rest := []) F (hX12_finds e24 (xl X) (xE X)) kX12_finds lX12_53 0 rfl rfl rfl rfl rfl ⟨(Nat.le_of_ble_eq_true rfl), (Nat.le_of_ble_eq_true rfl)⟩ (Nat.le_of_ble_eq_true rfl) dX12_bestOf_11 ?_
      obtain rfl := Option.some.inj h
      exact g_iret (pc := 14) (Wf := Wm) F Rt rfl dX12_bestOf_14) l E
set_option maxHeartbeats 4000000 in
set_option maxRecDepth 100000 in
theorem hX12_row {N : Nat} {M : Mem} {a1 : Int32} {res : Int32 × Mem} (h : mX12_row N M a1 = some res) (l : Launch) (E : Ev) : CtI l E (Wm E) yX12_row cX12_row 2 .int 8 183 [.ref (em E 0), .int a1] M res.1 res.2 :=
  ctI_of (Wf := Wm) (av := fun E => [.ref (em E 0), .int a1]) (lv := fun E => [(0, .ref (em E 0)), (1, .int a1)]) (by decide) (fun _ => rfl) (fun _ => (Nat.le_of_ble_eq_true rfl)) (fun X F hx Rt => by
    have F : Fx X cX12_row RX12 8 183 := F
    unfold mX12_row at h
    refine g_aload_n (pc := 0) (x := em (xE X) 0) F dX12_row_0 rfl 0 rfl ?_
    refine g_iload_n (pc := 1) (x := a1) F dX12_row_1 rfl 1 rfl ?_
    refine g_iconst (pc := 2) F dX12_row_2 ic_2 ?_
    refine g_bipush (pc := 3) F dX12_row_3 bp_9 ?_
    obtain ⟨q1, e2, h⟩ := bd_some h
    refine g_vI (pc := 5) (Wf := Wm) (As := [.int a1, .int (2 : Int32), .int (9 : Int32)]) (rest := []) F (hX12_bestOf e2 (xl X) (xE X)) kX12_bestOf lX12_154 0 rfl rfl rfl rfl rfl ⟨(Nat.le_of_ble_eq_true rfl), (Nat.le_of_ble_eq_true rfl)⟩ (Nat.le_of_ble_eq_true rfl) dX12_row_5 ?_
    obtain rfl := Option.some.inj h
    exact g_iret (pc := 8) (Wf := Wm) F Rt rfl dX12_row_8) l E
set_option maxHeartbeats 4000000 in
set_option maxRecDepth 100000 in
theorem hX12_kind {N : Nat} {M : Mem} {a1 : Int32} {res : Int32 × Mem} (h : mX12_kind N M a1 = some res) (l : Launch) (E : Ev) : CtI l E (Wm E) yX12_kind cX12_kind 2 .int 8 183 [.ref (em E 0), .int a1] M res.1 res.2 :=
  ctI_of (Wf := Wm) (av := fun E => [.ref (em E 0), .int a1]) (lv := fun E => [(0, .ref (em E 0)), (1, .int a1)]) (by decide) (fun _ => rfl) (fun _ => (Nat.le_of_ble_eq_true rfl)) (fun X F hx Rt => by
    have F : Fx X cX12_kind RX12 8 183 := F
    unfold mX12_kind at h
    refine g_aload_n (pc := 0) (x := em (xE X) 0) F dX12_kind_0 rfl 0 rfl ?_
    refine g_iload_n (pc := 1) (x := a1) F dX12_kind_1 rfl 1 rfl ?_
    refine g_iconst (pc := 2) F dX12_kind_2 ic_0 ?_
    refine g_iconst (pc := 3) F dX12_kind_3 ic_5 ?_
    obtain ⟨q1, e2, h⟩ := bd_some h
    refine g_vI (pc := 4) (Wf := Wm) (As := [.int a1, .int (0 : Int32), .int (5 : Int32)]) (rest := []) F (hX12_bestOf e2 (xl X) (xE X)) kX12_bestOf lX12_154 0 rfl rfl rfl rfl rfl ⟨(Nat.le_of_ble_eq_true rfl), (Nat.le_of_ble_eq_true rfl)⟩ (Nat.le_of_ble_eq_true rfl) dX12_kind_4 ?_
    obtain rfl := Option.some.inj h
    exact g_iret (pc := 7) (Wf := Wm) F Rt rfl dX12_kind_7) l E
set_option maxHeartbeats 4000000 in
set_option maxRecDepth 100000 in
theorem wX12_shine_b85 {X : Cx} (F : Fx X cX12_shine RX12 7 155) (hx : xn X = 6) {N : Nat} {res : Int32 × Mem} (Rt : RI X Wm .int res.1 res.2) {K34 : Mem → Int32 → Int32 → Int32 → Int32 → Option (Int32 × Mem)} (hK34 : ∀ (M : Mem) (a1 : Int32) (a2 : Int32) (a3 : Int32) (a4 : Int32), K34 M a1 a2 a3 a4 = some res → G X (Wm (xE X) M) 34 [(0, .ref (em (xE X) 0)), (1, .int a1), (2, .int a2), (3, .int a3), (4, .int a4)] []) : ∀ (M : Mem) (a1 : Int32) (a3 : Int32) (a4 : Int32) (a5 : Int32) (s0 : Int32), mX12_shine_b85 N K34 M a1 a3 a4 a5 s0 = some res → G X (Wm (xE X) M) 85 [(0, .ref (em (xE X) 0)), (1, .int a1), (3, .int a3), (4, .int a4), (5, .int a5)] [.int s0] := by
  intro M a1 a3 a4 a5 s0 h
  unfold mX12_shine_b85 at h
  refine g_istore_n (pc := 85) (lv2 := [(0, .ref (em (xE X) 0)), (1, .int a1), (2, .int s0), (3, .int a3), (4, .int a4), (5, .int a5)]) F dX12_shine_85 rfl (by rw [hx]; decide) [1, 2, 0, 3, 4, 5] rfl ?_
  refine g_iload (pc := 86) (x := a5) F dX12_shine_86 5 rfl ?_
  refine g_iload_n (pc := 88) (x := a3) F dX12_shine_88 rfl 3 rfl ?_
  refine g_icmp_ge (pc := 89) (tgt := 97) F dX12_shine_89 (by decide) (fun c16 => ?_) (fun c16 => ?_)
  · have h := ite_t c16 h
    refine g_iload_n (pc := 97) (x := a3) F dX12_shine_97 rfl 3 rfl ?_
    refine g_istore_n (pc := 98) (lv2 := [(0, .ref (em (xE X) 0)), (1, .int a1), (2, .int s0), (3, .int a3), (4, .int a4), (5, .int a5)]) F dX12_shine_98 rfl (by rw [hx]; decide) [1, 2, 3, 0, 4, 5] rfl ?_
    refine g_iinc (pc := 99) (lv2 := [(0, .ref (em (xE X) 0)), (1, .int a1), (2, .int s0), (3, .int a3), (4, .int (a4 + (1 : Int32))), (5, .int a5)]) F dX12_shine_99 4 rfl (ii_1 _) (by rw [hx]; decide) [1, 2, 3, 4, 0, 5] rfl ?_
    refine g_goto (pc := 102) (tgt := 34) F dX12_shine_102 (by decide) ?_
    refine g_sub [0, 1, 2, 3, 4] rfl ?_
    exact hK34 M a1 s0 a3 (a4 + (1 : Int32)) h
  · have h := ite_f c16 h
    refine g_iload (pc := 92) (x := a5) F dX12_shine_92 5 rfl ?_
    refine g_goto (pc := 94) (tgt := 98) F dX12_shine_94 (by decide) ?_
    refine g_istore_n (pc := 98) (lv2 := [(0, .ref (em (xE X) 0)), (1, .int a1), (2, .int s0), (3, .int a5), (4, .int a4), (5, .int a5)]) F dX12_shine_98 rfl (by rw [hx]; decide) [1, 2, 3, 0, 4, 5] rfl ?_
    refine g_iinc (pc := 99) (lv2 := [(0, .ref (em (xE X) 0)), (1, .int a1), (2, .int s0), (3, .int a5), (4, .int (a4 + (1 : Int32))), (5, .int a5)]) F dX12_shine_99 4 rfl (ii_1 _) (by rw [hx]; decide) [1, 2, 3, 4, 0, 5] rfl ?_
    refine g_goto (pc := 102) (tgt := 34) F dX12_shine_102 (by decide) ?_
    refine g_sub [0, 1, 2, 3, 4] rfl ?_
    exact hK34 M a1 s0 a5 (a4 + (1 : Int32)) h
set_option maxHeartbeats 4000000 in
set_option maxRecDepth 100000 in
theorem wX12_shine_b34 {X : Cx} (F : Fx X cX12_shine RX12 7 155) (hx : xn X = 6) {N : Nat} {res : Int32 × Mem} (Rt : RI X Wm .int res.1 res.2) : ∀ (n : Nat) (M : Mem) (a1 : Int32) (a2 : Int32) (a3 : Int32) (a4 : Int32), mX12_shine_b34 N n M a1 a2 a3 a4 = some res → G X (Wm (xE X) M) 34 [(0, .ref (em (xE X) 0)), (1, .int a1), (2, .int a2), (3, .int a3), (4, .int a4)] [] := by
  intro n
  induction n with
  | zero =>
    intro M a1 a2 a3 a4 h
    have h : none = some res := h
    cases h
  | succ n ih =>
    intro M a1 a2 a3 a4 h
    rw [mX12_shine_b34] at h
    refine g_iload (pc := 34) (x := a4) F dX12_shine_34 4 rfl ?_
    refine g_bipush (pc := 36) F dX12_shine_36 bp_10 ?_
    refine g_icmp_ge (pc := 38) (tgt := 105) F dX12_shine_38 (by decide) (fun c6 => ?_) (fun c6 => ?_)
    · have h := ite_t c6 h
      refine g_iload_n (pc := 105) (x := a2) F dX12_shine_105 rfl 2 rfl ?_
      obtain rfl := Option.some.inj h
      exact g_iret (pc := 106) (Wf := Wm) F Rt rfl dX12_shine_106
    · have h := ite_f c6 h
      refine g_aload_n (pc := 41) (x := em (xE X) 0) F dX12_shine_41 rfl 0 rfl ?_
      refine g_get (pc := 42) (v := .ref (em (xE X) 1)) F fX12_7 0 rfl rfl dX12_shine_42 ?_
      refine g_iconst (pc := 45) F dX12_shine_45 ic_4 ?_
      refine g_iload (pc := 46) (x := a4) F dX12_shine_46 4 rfl ?_
      refine g_iast (pc := 48) (N := 48) (fn := M.1 0) (j := 4) (ws2 := Wm (xE X) (sI M 0 4 a4)) F 1 0 rfl rfl vi_4_48 cl_4 (wma_0 _ _ _ _) dX12_shine_48 ?_
      refine g_aload_n (pc := 49) (x := em (xE X) 0) F dX12_shine_49 rfl 0 rfl ?_
      refine g_iload_n (pc := 50) (x := a1) F dX12_shine_50 rfl 1 rfl ?_
      obtain ⟨M7, e8, h⟩ := bd_some h
      refine g_vV (pc := 51) (Wf := Wm) (As := [.int a1]) (rest := []) F (hX12_passes e8 (xl X) (xE X)) kX12_passes lX12_140 0 rfl rfl rfl rfl rfl ⟨(Nat.le_of_ble_eq_true rfl), (Nat.le_of_ble_eq_true rfl)⟩ (Nat.le_of_ble_eq_true rfl) dX12_shine_51 ?_
      refine g_aload_n (pc := 54) (x := em (xE X) 0) F dX12_shine_54 rfl 0 rfl ?_
      refine g_iconst (pc := 55) F dX12_shine_55 ic_5 ?_
      obtain ⟨r9, e10, h⟩ := bd_some h
      refine g_vI (pc := 56) (Wf := Wm) (As := [.int (5 : Int32)]) (rest := []) F (hX12_setOf e10 (xl X) (xE X)) kX12_setOf lX12_79 0 rfl rfl rfl rfl rfl ⟨(Nat.le_of_ble_eq_true rfl), (Nat.le_of_ble_eq_true rfl)⟩ (Nat.le_of_ble_eq_true rfl) dX12_shine_56 ?_
      obtain ⟨r11, e12, h⟩ := bd_some h
      refine g_sI (pc := 59) (Wf := Wm) (As := [.int r9]) (rest := []) F (hX12_bits (M := M7) e12 (xl X) (xE X)) kX12_bits lX12_157 rfl rfl ⟨(Nat.le_of_ble_eq_true rfl), (Nat.le_of_ble_eq_true rfl)⟩ (Nat.le_of_ble_eq_true rfl) dX12_shine_59 ?_
      refine g_istore (pc := 62) (lv2 := [(0, .ref (em (xE X) 0)), (1, .int a1), (2, .int a2), (3, .int a3), (4, .int a4), (5, .int r11)]) F dX12_shine_62 (by rw [hx]; decide) [1, 2, 3, 4, 5, 0] rfl ?_
      refine g_aload_n (pc := 64) (x := em (xE X) 0) F dX12_shine_64 rfl 0 rfl ?_
      refine g_iconst (pc := 65) F dX12_shine_65 ic_0 ?_
      refine g_aload_n (pc := 66) (x := em (xE X) 0) F dX12_shine_66 rfl 0 rfl ?_
      refine g_get (pc := 67) (v := .ref (em (xE X) 3)) F fX12_16 0 rfl rfl dX12_shine_67 ?_
      obtain ⟨M13, e14, h⟩ := bd_some h
      refine g_vV (pc := 70) (Wf := Wm) (As := [.int (0 : Int32), .ref (em (xE X) 3)]) (rest := []) F (hX12_moveAll_2 e14 (xl X) (xE X)) kX12_moveAll lX12_143 0 rfl rfl rfl rfl rfl ⟨(Nat.le_of_ble_eq_true rfl), (Nat.le_of_ble_eq_true rfl)⟩ (Nat.le_of_ble_eq_true rfl) dX12_shine_70 ?_
      refine g_iload (pc := 73) (x := r11) F dX12_shine_73 5 rfl ?_
      refine g_iload_n (pc := 75) (x := a3) F dX12_shine_75 rfl 3 rfl ?_
      refine g_icmp_ge (pc := 76) (tgt := 84) F dX12_shine_76 (by decide) (fun c15 => ?_) (fun c15 => ?_)
      · have h := ite_t c15 h
        refine g_iload_n (pc := 84) (x := a2) F dX12_shine_84 rfl 2 rfl ?_
        refine g_sub [0, 1, 3, 4, 5] rfl ?_
        exact wX12_shine_b85 F hx Rt ih M13 a1 a3 a4 r11 a2 h
      · have h := ite_f c15 h
        refine g_iload (pc := 79) (x := a4) F dX12_shine_79 4 rfl ?_
        refine g_goto (pc := 81) (tgt := 85) F dX12_shine_81 (by decide) ?_
        refine g_sub [0, 1, 3, 4, 5] rfl ?_
        exact wX12_shine_b85 F hx Rt ih M13 a1 a3 a4 r11 a4 h
set_option maxHeartbeats 4000000 in
set_option maxRecDepth 100000 in
theorem hX12_shine {N : Nat} {M : Mem} {a1 : Int32} {res : Int32 × Mem} (h : mX12_shine N M a1 = some res) (l : Launch) (E : Ev) : CtI l E (Wm E) yX12_shine cX12_shine 6 .int 7 155 [.ref (em E 0), .int a1] M res.1 res.2 :=
  ctI_of (Wf := Wm) (av := fun E => [.ref (em E 0), .int a1]) (lv := fun E => [(0, .ref (em E 0)), (1, .int a1)]) (by decide) (fun _ => rfl) (fun _ => (Nat.le_of_ble_eq_true rfl)) (fun X F hx Rt => by
    have F : Fx X cX12_shine RX12 7 155 := F
    unfold mX12_shine at h
    refine g_iload_n (pc := 0) (x := a1) F dX12_shine_0 rfl 1 rfl ?_
    refine g_iconst (pc := 1) F dX12_shine_1 ic_1 ?_
    refine g_bipush (pc := 2) F dX12_shine_2 bp_60 ?_
    obtain ⟨r1, e2, h⟩ := bd_some h
    refine g_sI (pc := 4) (Wf := Wm) (As := [.int a1, .int (1 : Int32), .int (60 : Int32)]) (rest := []) F (hX12_in (M := M) e2 (xl X) (xE X)) kX12_in lX12_45 rfl rfl ⟨(Nat.le_of_ble_eq_true rfl), (Nat.le_of_ble_eq_true rfl)⟩ (Nat.le_of_ble_eq_true rfl) dX12_shine_4 ?_
    refine g_if_ne (pc := 7) (tgt := 17) F dX12_shine_7 (by decide) (fun c3 => ?_) (fun c3 => ?_)
    · have h := ite_f c3 h
      refine g_aload_n (pc := 17) (x := em (xE X) 0) F dX12_shine_17 rfl 0 rfl ?_
      refine g_iconst (pc := 18) F dX12_shine_18 ic_1 ?_
      refine g_aload_n (pc := 19) (x := em (xE X) 0) F dX12_shine_19 rfl 0 rfl ?_
      refine g_get (pc := 20) (v := .ref (em (xE X) 3)) F fX12_16 0 rfl rfl dX12_shine_20 ?_
      obtain ⟨M4, e5, h⟩ := bd_some h
      refine g_vV (pc := 23) (Wf := Wm) (As := [.int (1 : Int32), .ref (em (xE X) 3)]) (rest := []) F (hX12_moveAll_2 e5 (xl X) (xE X)) kX12_moveAll lX12_143 0 rfl rfl rfl rfl rfl ⟨(Nat.le_of_ble_eq_true rfl), (Nat.le_of_ble_eq_true rfl)⟩ (Nat.le_of_ble_eq_true rfl) dX12_shine_23 ?_
      refine g_iconst (pc := 26) F dX12_shine_26 ic_0 ?_
      refine g_istore_n (pc := 27) (lv2 := [(0, .ref (em (xE X) 0)), (1, .int a1), (2, .int (0 : Int32))]) F dX12_shine_27 rfl (by rw [hx]; decide) [1, 2, 0] rfl ?_
      refine g_bipush (pc := 28) F dX12_shine_28 bp_7 ?_
      refine g_istore_n (pc := 30) (lv2 := [(0, .ref (em (xE X) 0)), (1, .int a1), (2, .int (0 : Int32)), (3, .int (7 : Int32))]) F dX12_shine_30 rfl (by rw [hx]; decide) [1, 2, 3, 0] rfl ?_
      refine g_iconst (pc := 31) F dX12_shine_31 ic_0 ?_
      refine g_istore (pc := 32) (lv2 := [(0, .ref (em (xE X) 0)), (1, .int a1), (2, .int (0 : Int32)), (3, .int (7 : Int32)), (4, .int (0 : Int32))]) F dX12_shine_32 (by rw [hx]; decide) [1, 2, 3, 4, 0] rfl ?_
      refine g_sub [0, 1, 2, 3, 4] rfl ?_
      exact wX12_shine_b34 F hx Rt N M4 a1 (0 : Int32) (7 : Int32) (0 : Int32) h
    · have h := ite_t c3 h
      refine g_aload_n (pc := 10) (x := em (xE X) 0) F dX12_shine_10 rfl 0 rfl ?_
      refine g_ldc (pc := 11) F oX12_44 dX12_shine_11 ?_
      obtain ⟨q17, e18, h⟩ := bd_some h
      refine g_vI (pc := 13) (Wf := Wm) (As := [.int (-1000000001 : Int32)]) (rest := []) F (hX12_finds e18 (xl X) (xE X)) kX12_finds lX12_53 0 rfl rfl rfl rfl rfl ⟨(Nat.le_of_ble_eq_true rfl), (Nat.le_of_ble_eq_true rfl)⟩ (Nat.le_of_ble_eq_true rfl) dX12_shine_13 ?_
      obtain rfl := Option.some.inj h
      exact g_iret (pc := 16) (Wf := Wm) F Rt rfl dX12_shine_16) l E
set_option maxHeartbeats 4000000 in
set_option maxRecDepth 100000 in
theorem wX12_hour_b101 {X : Cx} (F : Fx X cX12_hour RX12 7 155) (hx : xn X = 7) {N : Nat} {res : Int32 × Mem} (Rt : RI X Wm .int res.1 res.2) {K33 : Mem → Int32 → Int32 → Int32 → Int32 → Option (Int32 × Mem)} (hK33 : ∀ (M : Mem) (a1 : Int32) (a2 : Int32) (a3 : Int32) (a4 : Int32), K33 M a1 a2 a3 a4 = some res → G X (Wm (xE X) M) 33 [(0, .ref (em (xE X) 0)), (1, .int a1), (2, .int a2), (3, .int a3), (4, .int a4)] []) : ∀ (M : Mem) (a1 : Int32) (a3 : Int32) (a4 : Int32) (a5 : Int32) (a6 : Int32) (s0 : Int32), mX12_hour_b101 N K33 M a1 a3 a4 a5 a6 s0 = some res → G X (Wm (xE X) M) 101 [(0, .ref (em (xE X) 0)), (1, .int a1), (3, .int a3), (4, .int a4), (5, .int a5), (6, .int a6)] [.int s0] := by
  intro M a1 a3 a4 a5 a6 s0 h
  unfold mX12_hour_b101 at h
  refine g_istore_n (pc := 101) (lv2 := [(0, .ref (em (xE X) 0)), (1, .int a1), (2, .int s0), (3, .int a3), (4, .int a4), (5, .int a5), (6, .int a6)]) F dX12_hour_101 rfl (by rw [hx]; decide) [1, 2, 0, 3, 4, 5, 6] rfl ?_
  refine g_iload (pc := 102) (x := a6) F dX12_hour_102 6 rfl ?_
  refine g_if_eq (pc := 104) (tgt := 112) F dX12_hour_104 (by decide) (fun c15 => ?_) (fun c15 => ?_)
  · have h := ite_t c15 h
    refine g_iload_n (pc := 112) (x := a3) F dX12_hour_112 rfl 3 rfl ?_
    refine g_istore_n (pc := 113) (lv2 := [(0, .ref (em (xE X) 0)), (1, .int a1), (2, .int s0), (3, .int a3), (4, .int a4), (5, .int a5), (6, .int a6)]) F dX12_hour_113 rfl (by rw [hx]; decide) [1, 2, 3, 0, 4, 5, 6] rfl ?_
    refine g_iinc (pc := 114) (lv2 := [(0, .ref (em (xE X) 0)), (1, .int a1), (2, .int s0), (3, .int a3), (4, .int (a4 + (1 : Int32))), (5, .int a5), (6, .int a6)]) F dX12_hour_114 4 rfl (ii_1 _) (by rw [hx]; decide) [1, 2, 3, 4, 0, 5, 6] rfl ?_
    refine g_goto (pc := 117) (tgt := 33) F dX12_hour_117 (by decide) ?_
    refine g_sub [0, 1, 2, 3, 4] rfl ?_
    exact hK33 M a1 s0 a3 (a4 + (1 : Int32)) h
  · have h := ite_f c15 h
    refine g_iload (pc := 107) (x := a5) F dX12_hour_107 5 rfl ?_
    refine g_goto (pc := 109) (tgt := 113) F dX12_hour_109 (by decide) ?_
    refine g_istore_n (pc := 113) (lv2 := [(0, .ref (em (xE X) 0)), (1, .int a1), (2, .int s0), (3, .int a5), (4, .int a4), (5, .int a5), (6, .int a6)]) F dX12_hour_113 rfl (by rw [hx]; decide) [1, 2, 3, 0, 4, 5, 6] rfl ?_
    refine g_iinc (pc := 114) (lv2 := [(0, .ref (em (xE X) 0)), (1, .int a1), (2, .int s0), (3, .int a5), (4, .int (a4 + (1 : Int32))), (5, .int a5), (6, .int a6)]) F dX12_hour_114 4 rfl (ii_1 _) (by rw [hx]; decide) [1, 2, 3, 4, 0, 5, 6] rfl ?_
    refine g_goto (pc := 117) (tgt := 33) F dX12_hour_117 (by decide) ?_
    refine g_sub [0, 1, 2, 3, 4] rfl ?_
    exact hK33 M a1 s0 a5 (a4 + (1 : Int32)) h
set_option maxHeartbeats 4000000 in
set_option maxRecDepth 100000 in
theorem wX12_hour_b88 {X : Cx} (F : Fx X cX12_hour RX12 7 155) (hx : xn X = 7) {N : Nat} {res : Int32 × Mem} (Rt : RI X Wm .int res.1 res.2) {K33 : Mem → Int32 → Int32 → Int32 → Int32 → Option (Int32 × Mem)} (hK33 : ∀ (M : Mem) (a1 : Int32) (a2 : Int32) (a3 : Int32) (a4 : Int32), K33 M a1 a2 a3 a4 = some res → G X (Wm (xE X) M) 33 [(0, .ref (em (xE X) 0)), (1, .int a1), (2, .int a2), (3, .int a3), (4, .int a4)] []) : ∀ (M : Mem) (a1 : Int32) (a2 : Int32) (a3 : Int32) (a4 : Int32) (a5 : Int32) (s0 : Int32), mX12_hour_b88 N K33 M a1 a2 a3 a4 a5 s0 = some res → G X (Wm (xE X) M) 88 [(0, .ref (em (xE X) 0)), (1, .int a1), (2, .int a2), (3, .int a3), (4, .int a4), (5, .int a5)] [.int s0] := by
  intro M a1 a2 a3 a4 a5 s0 h
  unfold mX12_hour_b88 at h
  refine g_istore (pc := 88) (lv2 := [(0, .ref (em (xE X) 0)), (1, .int a1), (2, .int a2), (3, .int a3), (4, .int a4), (5, .int a5), (6, .int s0)]) F dX12_hour_88 (by rw [hx]; decide) [1, 2, 3, 4, 5, 6, 0] rfl ?_
  refine g_iload (pc := 90) (x := s0) F dX12_hour_90 6 rfl ?_
  refine g_if_eq (pc := 92) (tgt := 100) F dX12_hour_92 (by decide) (fun c14 => ?_) (fun c14 => ?_)
  · have h := ite_t c14 h
    refine g_iload_n (pc := 100) (x := a2) F dX12_hour_100 rfl 2 rfl ?_
    refine g_sub [0, 1, 3, 4, 5, 6] rfl ?_
    exact wX12_hour_b101 F hx Rt hK33 M a1 a3 a4 a5 s0 a2 h
  · have h := ite_f c14 h
    refine g_iload (pc := 95) (x := a4) F dX12_hour_95 4 rfl ?_
    refine g_goto (pc := 97) (tgt := 101) F dX12_hour_97 (by decide) ?_
    refine g_sub [0, 1, 3, 4, 5, 6] rfl ?_
    exact wX12_hour_b101 F hx Rt hK33 M a1 a3 a4 a5 s0 a4 h
set_option maxHeartbeats 4000000 in
set_option maxRecDepth 100000 in
theorem wX12_hour_b83 {X : Cx} (F : Fx X cX12_hour RX12 7 155) (hx : xn X = 7) {N : Nat} {res : Int32 × Mem} (Rt : RI X Wm .int res.1 res.2) {K33 : Mem → Int32 → Int32 → Int32 → Int32 → Option (Int32 × Mem)} (hK33 : ∀ (M : Mem) (a1 : Int32) (a2 : Int32) (a3 : Int32) (a4 : Int32), K33 M a1 a2 a3 a4 = some res → G X (Wm (xE X) M) 33 [(0, .ref (em (xE X) 0)), (1, .int a1), (2, .int a2), (3, .int a3), (4, .int a4)] []) : ∀ (M : Mem) (a1 : Int32) (a2 : Int32) (a3 : Int32) (a4 : Int32) (a5 : Int32), mX12_hour_b83 N K33 M a1 a2 a3 a4 a5 = some res → G X (Wm (xE X) M) 83 [(0, .ref (em (xE X) 0)), (1, .int a1), (2, .int a2), (3, .int a3), (4, .int a4), (5, .int a5)] [] := by
  intro M a1 a2 a3 a4 a5 h
  unfold mX12_hour_b83 at h
  refine g_iconst (pc := 83) F dX12_hour_83 ic_1 ?_
  refine g_goto (pc := 84) (tgt := 88) F dX12_hour_84 (by decide) ?_
  refine g_sub [0, 1, 2, 3, 4, 5] rfl ?_
  exact wX12_hour_b88 F hx Rt hK33 M a1 a2 a3 a4 a5 (1 : Int32) h
set_option maxHeartbeats 4000000 in
set_option maxRecDepth 100000 in
theorem wX12_hour_b33 {X : Cx} (F : Fx X cX12_hour RX12 7 155) (hx : xn X = 7) {N : Nat} {res : Int32 × Mem} (Rt : RI X Wm .int res.1 res.2) : ∀ (n : Nat) (M : Mem) (a1 : Int32) (a2 : Int32) (a3 : Int32) (a4 : Int32), mX12_hour_b33 N n M a1 a2 a3 a4 = some res → G X (Wm (xE X) M) 33 [(0, .ref (em (xE X) 0)), (1, .int a1), (2, .int a2), (3, .int a3), (4, .int a4)] [] := by
  intro n
  induction n with
  | zero =>
    intro M a1 a2 a3 a4 h
    have h : none = some res := h
    cases h
  | succ n ih =>
    intro M a1 a2 a3 a4 h
    rw [mX12_hour_b33] at h
    refine g_iload (pc := 33) (x := a4) F dX12_hour_33 4 rfl ?_
    refine g_bipush (pc := 35) F dX12_hour_35 bp_12 ?_
    refine g_icmp_ge (pc := 37) (tgt := 120) F dX12_hour_37 (by decide) (fun c6 => ?_) (fun c6 => ?_)
    · have h := ite_t c6 h
      refine g_iload_n (pc := 120) (x := a2) F dX12_hour_120 rfl 2 rfl ?_
      obtain rfl := Option.some.inj h
      exact g_iret (pc := 121) (Wf := Wm) F Rt rfl dX12_hour_121
    · have h := ite_f c6 h
      refine g_aload_n (pc := 40) (x := em (xE X) 0) F dX12_hour_40 rfl 0 rfl ?_
      refine g_get (pc := 41) (v := .ref (em (xE X) 1)) F fX12_7 0 rfl rfl dX12_hour_41 ?_
      refine g_iconst (pc := 44) F dX12_hour_44 ic_3 ?_
      refine g_dup2 (pc := 45) F dX12_hour_45 rfl rfl ?_
      refine g_iald (pc := 46) (N := 48) (fn := M.1 0) (j := 3) F 1 0 rfl rfl vi_3_48 cl_3 dX12_hour_46 ?_
      refine g_iconst (pc := 47) F dX12_hour_47 ic_1 ?_
      refine g_iload (pc := 48) (x := a4) F dX12_hour_48 4 rfl ?_
      refine g_ishl (pc := 50) F dX12_hour_50 ?_
      refine g_ixor (pc := 51) F dX12_hour_51 ?_
      refine g_iast (pc := 52) (N := 48) (fn := M.1 0) (j := 3) (ws2 := Wm (xE X) (sI M 0 3 ((M.1 0 3) ^^^ ((1 : Int32) <<< (a4 &&& 31))))) F 1 0 rfl rfl vi_3_48 cl_3 (wma_0 _ _ _ _) dX12_hour_52 ?_
      refine g_aload_n (pc := 53) (x := em (xE X) 0) F dX12_hour_53 rfl 0 rfl ?_
      refine g_iload_n (pc := 54) (x := a1) F dX12_hour_54 rfl 1 rfl ?_
      obtain ⟨M7, e8, h⟩ := bd_some h
      refine g_vV (pc := 55) (Wf := Wm) (As := [.int a1]) (rest := []) F (hX12_passes e8 (xl X) (xE X)) kX12_passes lX12_140 0 rfl rfl rfl rfl rfl ⟨(Nat.le_of_ble_eq_true rfl), (Nat.le_of_ble_eq_true rfl)⟩ (Nat.le_of_ble_eq_true rfl) dX12_hour_55 ?_
      refine g_aload_n (pc := 58) (x := em (xE X) 0) F dX12_hour_58 rfl 0 rfl ?_
      obtain ⟨r9, e10, h⟩ := bd_some h
      refine g_vI (pc := 59) (Wf := Wm) (As := []) (rest := []) F (hX12_costOfAll e10 (xl X) (xE X)) kX12_costOfAll lX12_160 0 rfl rfl rfl rfl rfl ⟨(Nat.le_of_ble_eq_true rfl), (Nat.le_of_ble_eq_true rfl)⟩ (Nat.le_of_ble_eq_true rfl) dX12_hour_59 ?_
      refine g_istore (pc := 62) (lv2 := [(0, .ref (em (xE X) 0)), (1, .int a1), (2, .int a2), (3, .int a3), (4, .int a4), (5, .int r9)]) F dX12_hour_62 (by rw [hx]; decide) [1, 2, 3, 4, 5, 0] rfl ?_
      refine g_aload_n (pc := 64) (x := em (xE X) 0) F dX12_hour_64 rfl 0 rfl ?_
      refine g_iconst (pc := 65) F dX12_hour_65 ic_0 ?_
      refine g_aload_n (pc := 66) (x := em (xE X) 0) F dX12_hour_66 rfl 0 rfl ?_
      refine g_get (pc := 67) (v := .ref (em (xE X) 3)) F fX12_16 0 rfl rfl dX12_hour_67 ?_
      obtain ⟨M11, e12, h⟩ := bd_some h
      refine g_vV (pc := 70) (Wf := Wm) (As := [.int (0 : Int32), .ref (em (xE X) 3)]) (rest := []) F (hX12_moveAll_2 e12 (xl X) (xE X)) kX12_moveAll lX12_143 0 rfl rfl rfl rfl rfl ⟨(Nat.le_of_ble_eq_true rfl), (Nat.le_of_ble_eq_true rfl)⟩ (Nat.le_of_ble_eq_true rfl) dX12_hour_70 ?_
      refine g_iload_n (pc := 73) (x := a2) F dX12_hour_73 rfl 2 rfl ?_
      refine g_if_lt (pc := 74) (tgt := 83) F dX12_hour_74 (by decide) (fun c13 => ?_) (fun c13 => ?_)
      · have h := ite_t c13 h
        refine g_sub [0, 1, 2, 3, 4, 5] rfl ?_
        exact wX12_hour_b83 F hx Rt ih M11 a1 a2 a3 a4 r9 h
      · have h := ite_f c13 h
        refine g_iload (pc := 77) (x := r9) F dX12_hour_77 5 rfl ?_
        refine g_iload_n (pc := 79) (x := a3) F dX12_hour_79 rfl 3 rfl ?_
        refine g_icmp_ge (pc := 80) (tgt := 87) F dX12_hour_80 (by decide) (fun c16 => ?_) (fun c16 => ?_)
        · have h := ite_t c16 h
          refine g_iconst (pc := 87) F dX12_hour_87 ic_0 ?_
          refine g_sub [0, 1, 2, 3, 4, 5] rfl ?_
          exact wX12_hour_b88 F hx Rt ih M11 a1 a2 a3 a4 r9 (0 : Int32) h
        · have h := ite_f c16 h
          refine g_sub [0, 1, 2, 3, 4, 5] rfl ?_
          exact wX12_hour_b83 F hx Rt ih M11 a1 a2 a3 a4 r9 h
set_option maxHeartbeats 4000000 in
set_option maxRecDepth 100000 in
theorem hX12_hour {N : Nat} {M : Mem} {a1 : Int32} {res : Int32 × Mem} (h : mX12_hour N M a1 = some res) (l : Launch) (E : Ev) : CtI l E (Wm E) yX12_hour cX12_hour 7 .int 7 155 [.ref (em E 0), .int a1] M res.1 res.2 :=
  ctI_of (Wf := Wm) (av := fun E => [.ref (em E 0), .int a1]) (lv := fun E => [(0, .ref (em E 0)), (1, .int a1)]) (by decide) (fun _ => rfl) (fun _ => (Nat.le_of_ble_eq_true rfl)) (fun X F hx Rt => by
    have F : Fx X cX12_hour RX12 7 155 := F
    unfold mX12_hour at h
    refine g_iload_n (pc := 0) (x := a1) F dX12_hour_0 rfl 1 rfl ?_
    refine g_iconst (pc := 1) F dX12_hour_1 ic_1 ?_
    refine g_bipush (pc := 2) F dX12_hour_2 bp_60 ?_
    obtain ⟨r1, e2, h⟩ := bd_some h
    refine g_sI (pc := 4) (Wf := Wm) (As := [.int a1, .int (1 : Int32), .int (60 : Int32)]) (rest := []) F (hX12_in (M := M) e2 (xl X) (xE X)) kX12_in lX12_45 rfl rfl ⟨(Nat.le_of_ble_eq_true rfl), (Nat.le_of_ble_eq_true rfl)⟩ (Nat.le_of_ble_eq_true rfl) dX12_hour_4 ?_
    refine g_if_ne (pc := 7) (tgt := 17) F dX12_hour_7 (by decide) (fun c3 => ?_) (fun c3 => ?_)
    · have h := ite_f c3 h
      refine g_aload_n (pc := 17) (x := em (xE X) 0) F dX12_hour_17 rfl 0 rfl ?_
      refine g_iconst (pc := 18) F dX12_hour_18 ic_1 ?_
      refine g_aload_n (pc := 19) (x := em (xE X) 0) F dX12_hour_19 rfl 0 rfl ?_
      refine g_get (pc := 20) (v := .ref (em (xE X) 3)) F fX12_16 0 rfl rfl dX12_hour_20 ?_
      obtain ⟨M4, e5, h⟩ := bd_some h
      refine g_vV (pc := 23) (Wf := Wm) (As := [.int (1 : Int32), .ref (em (xE X) 3)]) (rest := []) F (hX12_moveAll_2 e5 (xl X) (xE X)) kX12_moveAll lX12_143 0 rfl rfl rfl rfl rfl ⟨(Nat.le_of_ble_eq_true rfl), (Nat.le_of_ble_eq_true rfl)⟩ (Nat.le_of_ble_eq_true rfl) dX12_hour_23 ?_
      refine g_iconst (pc := 26) F dX12_hour_26 ic_m1 ?_
      refine g_istore_n (pc := 27) (lv2 := [(0, .ref (em (xE X) 0)), (1, .int a1), (2, .int (-1 : Int32))]) F dX12_hour_27 rfl (by rw [hx]; decide) [1, 2, 0] rfl ?_
      refine g_iconst (pc := 28) F dX12_hour_28 ic_0 ?_
      refine g_istore_n (pc := 29) (lv2 := [(0, .ref (em (xE X) 0)), (1, .int a1), (2, .int (-1 : Int32)), (3, .int (0 : Int32))]) F dX12_hour_29 rfl (by rw [hx]; decide) [1, 2, 3, 0] rfl ?_
      refine g_iconst (pc := 30) F dX12_hour_30 ic_0 ?_
      refine g_istore (pc := 31) (lv2 := [(0, .ref (em (xE X) 0)), (1, .int a1), (2, .int (-1 : Int32)), (3, .int (0 : Int32)), (4, .int (0 : Int32))]) F dX12_hour_31 (by rw [hx]; decide) [1, 2, 3, 4, 0] rfl ?_
      refine g_sub [0, 1, 2, 3, 4] rfl ?_
      exact wX12_hour_b33 F hx Rt N M4 a1 (-1 : Int32) (0 : Int32) (0 : Int32) h
    · have h := ite_t c3 h
      refine g_aload_n (pc := 10) (x := em (xE X) 0) F dX12_hour_10 rfl 0 rfl ?_
      refine g_ldc (pc := 11) F oX12_44 dX12_hour_11 ?_
      obtain ⟨q17, e18, h⟩ := bd_some h
      refine g_vI (pc := 13) (Wf := Wm) (As := [.int (-1000000001 : Int32)]) (rest := []) F (hX12_finds e18 (xl X) (xE X)) kX12_finds lX12_53 0 rfl rfl rfl rfl rfl ⟨(Nat.le_of_ble_eq_true rfl), (Nat.le_of_ble_eq_true rfl)⟩ (Nat.le_of_ble_eq_true rfl) dX12_hour_13 ?_
      obtain rfl := Option.some.inj h
      exact g_iret (pc := 16) (Wf := Wm) F Rt rfl dX12_hour_16) l E
set_option maxHeartbeats 4000000 in
set_option maxRecDepth 100000 in
theorem wX12_site_b107 {X : Cx} (F : Fx X cX12_site RX12 7 155) (hx : xn X = 7) {N : Nat} {res : Int32 × Mem} (Rt : RI X Wm .int res.1 res.2) {K33 : Mem → Int32 → Int32 → Int32 → Int32 → Option (Int32 × Mem)} (hK33 : ∀ (M : Mem) (a1 : Int32) (a2 : Int32) (a3 : Int32) (a4 : Int32), K33 M a1 a2 a3 a4 = some res → G X (Wm (xE X) M) 33 [(0, .ref (em (xE X) 0)), (1, .int a1), (2, .int a2), (3, .int a3), (4, .int a4)] []) : ∀ (M : Mem) (a1 : Int32) (a3 : Int32) (a4 : Int32) (a5 : Int32) (a6 : Int32) (s0 : Int32), mX12_site_b107 N K33 M a1 a3 a4 a5 a6 s0 = some res → G X (Wm (xE X) M) 107 [(0, .ref (em (xE X) 0)), (1, .int a1), (3, .int a3), (4, .int a4), (5, .int a5), (6, .int a6)] [.int s0] := by
  intro M a1 a3 a4 a5 a6 s0 h
  unfold mX12_site_b107 at h
  refine g_istore_n (pc := 107) (lv2 := [(0, .ref (em (xE X) 0)), (1, .int a1), (2, .int s0), (3, .int a3), (4, .int a4), (5, .int a5), (6, .int a6)]) F dX12_site_107 rfl (by rw [hx]; decide) [1, 2, 0, 3, 4, 5, 6] rfl ?_
  refine g_iload (pc := 108) (x := a6) F dX12_site_108 6 rfl ?_
  refine g_if_eq (pc := 110) (tgt := 118) F dX12_site_110 (by decide) (fun c21 => ?_) (fun c21 => ?_)
  · have h := ite_t c21 h
    refine g_iload_n (pc := 118) (x := a3) F dX12_site_118 rfl 3 rfl ?_
    refine g_istore_n (pc := 119) (lv2 := [(0, .ref (em (xE X) 0)), (1, .int a1), (2, .int s0), (3, .int a3), (4, .int a4), (5, .int a5), (6, .int a6)]) F dX12_site_119 rfl (by rw [hx]; decide) [1, 2, 3, 0, 4, 5, 6] rfl ?_
    refine g_iinc (pc := 120) (lv2 := [(0, .ref (em (xE X) 0)), (1, .int a1), (2, .int s0), (3, .int a3), (4, .int (a4 + (1 : Int32))), (5, .int a5), (6, .int a6)]) F dX12_site_120 4 rfl (ii_1 _) (by rw [hx]; decide) [1, 2, 3, 4, 0, 5, 6] rfl ?_
    refine g_goto (pc := 123) (tgt := 33) F dX12_site_123 (by decide) ?_
    refine g_sub [0, 1, 2, 3, 4] rfl ?_
    exact hK33 M a1 s0 a3 (a4 + (1 : Int32)) h
  · have h := ite_f c21 h
    refine g_iload (pc := 113) (x := a5) F dX12_site_113 5 rfl ?_
    refine g_goto (pc := 115) (tgt := 119) F dX12_site_115 (by decide) ?_
    refine g_istore_n (pc := 119) (lv2 := [(0, .ref (em (xE X) 0)), (1, .int a1), (2, .int s0), (3, .int a5), (4, .int a4), (5, .int a5), (6, .int a6)]) F dX12_site_119 rfl (by rw [hx]; decide) [1, 2, 3, 0, 4, 5, 6] rfl ?_
    refine g_iinc (pc := 120) (lv2 := [(0, .ref (em (xE X) 0)), (1, .int a1), (2, .int s0), (3, .int a5), (4, .int (a4 + (1 : Int32))), (5, .int a5), (6, .int a6)]) F dX12_site_120 4 rfl (ii_1 _) (by rw [hx]; decide) [1, 2, 3, 4, 0, 5, 6] rfl ?_
    refine g_goto (pc := 123) (tgt := 33) F dX12_site_123 (by decide) ?_
    refine g_sub [0, 1, 2, 3, 4] rfl ?_
    exact hK33 M a1 s0 a5 (a4 + (1 : Int32)) h
set_option maxHeartbeats 4000000 in
set_option maxRecDepth 100000 in
theorem wX12_site_b94 {X : Cx} (F : Fx X cX12_site RX12 7 155) (hx : xn X = 7) {N : Nat} {res : Int32 × Mem} (Rt : RI X Wm .int res.1 res.2) {K33 : Mem → Int32 → Int32 → Int32 → Int32 → Option (Int32 × Mem)} (hK33 : ∀ (M : Mem) (a1 : Int32) (a2 : Int32) (a3 : Int32) (a4 : Int32), K33 M a1 a2 a3 a4 = some res → G X (Wm (xE X) M) 33 [(0, .ref (em (xE X) 0)), (1, .int a1), (2, .int a2), (3, .int a3), (4, .int a4)] []) : ∀ (M : Mem) (a1 : Int32) (a2 : Int32) (a3 : Int32) (a4 : Int32) (a5 : Int32) (s0 : Int32), mX12_site_b94 N K33 M a1 a2 a3 a4 a5 s0 = some res → G X (Wm (xE X) M) 94 [(0, .ref (em (xE X) 0)), (1, .int a1), (2, .int a2), (3, .int a3), (4, .int a4), (5, .int a5)] [.int s0] := by
  intro M a1 a2 a3 a4 a5 s0 h
  unfold mX12_site_b94 at h
  refine g_istore (pc := 94) (lv2 := [(0, .ref (em (xE X) 0)), (1, .int a1), (2, .int a2), (3, .int a3), (4, .int a4), (5, .int a5), (6, .int s0)]) F dX12_site_94 (by rw [hx]; decide) [1, 2, 3, 4, 5, 6, 0] rfl ?_
  refine g_iload (pc := 96) (x := s0) F dX12_site_96 6 rfl ?_
  refine g_if_eq (pc := 98) (tgt := 106) F dX12_site_98 (by decide) (fun c20 => ?_) (fun c20 => ?_)
  · have h := ite_t c20 h
    refine g_iload_n (pc := 106) (x := a2) F dX12_site_106 rfl 2 rfl ?_
    refine g_sub [0, 1, 3, 4, 5, 6] rfl ?_
    exact wX12_site_b107 F hx Rt hK33 M a1 a3 a4 a5 s0 a2 h
  · have h := ite_f c20 h
    refine g_iload (pc := 101) (x := a4) F dX12_site_101 4 rfl ?_
    refine g_goto (pc := 103) (tgt := 107) F dX12_site_103 (by decide) ?_
    refine g_sub [0, 1, 3, 4, 5, 6] rfl ?_
    exact wX12_site_b107 F hx Rt hK33 M a1 a3 a4 a5 s0 a4 h
set_option maxHeartbeats 4000000 in
set_option maxRecDepth 100000 in
theorem wX12_site_b89 {X : Cx} (F : Fx X cX12_site RX12 7 155) (hx : xn X = 7) {N : Nat} {res : Int32 × Mem} (Rt : RI X Wm .int res.1 res.2) {K33 : Mem → Int32 → Int32 → Int32 → Int32 → Option (Int32 × Mem)} (hK33 : ∀ (M : Mem) (a1 : Int32) (a2 : Int32) (a3 : Int32) (a4 : Int32), K33 M a1 a2 a3 a4 = some res → G X (Wm (xE X) M) 33 [(0, .ref (em (xE X) 0)), (1, .int a1), (2, .int a2), (3, .int a3), (4, .int a4)] []) : ∀ (M : Mem) (a1 : Int32) (a2 : Int32) (a3 : Int32) (a4 : Int32) (a5 : Int32), mX12_site_b89 N K33 M a1 a2 a3 a4 a5 = some res → G X (Wm (xE X) M) 89 [(0, .ref (em (xE X) 0)), (1, .int a1), (2, .int a2), (3, .int a3), (4, .int a4), (5, .int a5)] [] := by
  intro M a1 a2 a3 a4 a5 h
  unfold mX12_site_b89 at h
  refine g_iconst (pc := 89) F dX12_site_89 ic_1 ?_
  refine g_goto (pc := 90) (tgt := 94) F dX12_site_90 (by decide) ?_
  refine g_sub [0, 1, 2, 3, 4, 5] rfl ?_
  exact wX12_site_b94 F hx Rt hK33 M a1 a2 a3 a4 a5 (1 : Int32) h
set_option maxHeartbeats 4000000 in
set_option maxRecDepth 100000 in
theorem wX12_site_b33 {X : Cx} (F : Fx X cX12_site RX12 7 155) (hx : xn X = 7) {N : Nat} {res : Int32 × Mem} (Rt : RI X Wm .int res.1 res.2) : ∀ (n : Nat) (M : Mem) (a1 : Int32) (a2 : Int32) (a3 : Int32) (a4 : Int32), mX12_site_b33 N n M a1 a2 a3 a4 = some res → G X (Wm (xE X) M) 33 [(0, .ref (em (xE X) 0)), (1, .int a1), (2, .int a2), (3, .int a3), (4, .int a4)] [] := by
  intro n
  induction n with
  | zero =>
    intro M a1 a2 a3 a4 h
    have h : none = some res := h
    cases h
  | succ n ih =>
    intro M a1 a2 a3 a4 h
    rw [mX12_site_b33] at h
    refine g_iload (pc := 33) (x := a4) F dX12_site_33 4 rfl ?_
    refine g_sipush (pc := 35) F dX12_site_35 sp_200 ?_
    refine g_icmp_ge (pc := 38) (tgt := 126) F dX12_site_38 (by decide) (fun c6 => ?_) (fun c6 => ?_)
    · have h := ite_t c6 h
      refine g_iload_n (pc := 126) (x := a2) F dX12_site_126 rfl 2 rfl ?_
      obtain rfl := Option.some.inj h
      exact g_iret (pc := 127) (Wf := Wm) F Rt rfl dX12_site_127
    · have h := ite_f c6 h
      refine g_aload_n (pc := 41) (x := em (xE X) 0) F dX12_site_41 rfl 0 rfl ?_
      refine g_iload (pc := 42) (x := a4) F dX12_site_42 4 rfl ?_
      obtain ⟨M7, e8, h⟩ := bd_some h
      refine g_vV (pc := 44) (Wf := Wm) (As := [.int a4]) (rest := []) F (hX12_stands e8 (xl X) (xE X)) kX12_stands lX12_61 0 rfl rfl rfl rfl rfl ⟨(Nat.le_of_ble_eq_true rfl), (Nat.le_of_ble_eq_true rfl)⟩ (Nat.le_of_ble_eq_true rfl) dX12_site_44 ?_
      refine g_aload_n (pc := 47) (x := em (xE X) 0) F dX12_site_47 rfl 0 rfl ?_
      refine g_iload_n (pc := 48) (x := a1) F dX12_site_48 rfl 1 rfl ?_
      obtain ⟨M9, e10, h⟩ := bd_some h
      refine g_vV (pc := 49) (Wf := Wm) (As := [.int a1]) (rest := []) F (hX12_passes e10 (xl X) (xE X)) kX12_passes lX12_140 0 rfl rfl rfl rfl rfl ⟨(Nat.le_of_ble_eq_true rfl), (Nat.le_of_ble_eq_true rfl)⟩ (Nat.le_of_ble_eq_true rfl) dX12_site_49 ?_
      refine g_ldc (pc := 52) F oX12_163 dX12_site_52 ?_
      refine g_aload_n (pc := 54) (x := em (xE X) 0) F dX12_site_54 rfl 0 rfl ?_
      refine g_iconst (pc := 55) F dX12_site_55 ic_5 ?_
      obtain ⟨r11, e12, h⟩ := bd_some h
      refine g_vI (pc := 56) (Wf := Wm) (As := [.int (5 : Int32)]) (rest := [.int (100000 : Int32)]) F (hX12_setOf e12 (xl X) (xE X)) kX12_setOf lX12_79 0 rfl rfl rfl rfl rfl ⟨(Nat.le_of_ble_eq_true rfl), (Nat.le_of_ble_eq_true rfl)⟩ (Nat.le_of_ble_eq_true rfl) dX12_site_56 ?_
      obtain ⟨r13, e14, h⟩ := bd_some h
      refine g_sI (pc := 59) (Wf := Wm) (As := [.int r11]) (rest := [.int (100000 : Int32)]) F (hX12_bits (M := M9) e14 (xl X) (xE X)) kX12_bits lX12_157 rfl rfl ⟨(Nat.le_of_ble_eq_true rfl), (Nat.le_of_ble_eq_true rfl)⟩ (Nat.le_of_ble_eq_true rfl) dX12_site_59 ?_
      refine g_imul (pc := 62) F dX12_site_62 ?_
      refine g_aload_n (pc := 63) (x := em (xE X) 0) F dX12_site_63 rfl 0 rfl ?_
      obtain ⟨r15, e16, h⟩ := bd_some h
      refine g_vI (pc := 64) (Wf := Wm) (As := []) (rest := [.int ((100000 : Int32) * r13)]) F (hX12_costOfAll e16 (xl X) (xE X)) kX12_costOfAll lX12_160 0 rfl rfl rfl rfl rfl ⟨(Nat.le_of_ble_eq_true rfl), (Nat.le_of_ble_eq_true rfl)⟩ (Nat.le_of_ble_eq_true rfl) dX12_site_64 ?_
      refine g_iadd (pc := 67) F dX12_site_67 ?_
      refine g_istore (pc := 68) (lv2 := [(0, .ref (em (xE X) 0)), (1, .int a1), (2, .int a2), (3, .int a3), (4, .int a4), (5, .int (((100000 : Int32) * r13) + r15))]) F dX12_site_68 (by rw [hx]; decide) [1, 2, 3, 4, 5, 0] rfl ?_
      refine g_aload_n (pc := 70) (x := em (xE X) 0) F dX12_site_70 rfl 0 rfl ?_
      refine g_iconst (pc := 71) F dX12_site_71 ic_0 ?_
      refine g_aload_n (pc := 72) (x := em (xE X) 0) F dX12_site_72 rfl 0 rfl ?_
      refine g_get (pc := 73) (v := .ref (em (xE X) 3)) F fX12_16 0 rfl rfl dX12_site_73 ?_
      obtain ⟨M17, e18, h⟩ := bd_some h
      refine g_vV (pc := 76) (Wf := Wm) (As := [.int (0 : Int32), .ref (em (xE X) 3)]) (rest := []) F (hX12_moveAll_2 e18 (xl X) (xE X)) kX12_moveAll lX12_143 0 rfl rfl rfl rfl rfl ⟨(Nat.le_of_ble_eq_true rfl), (Nat.le_of_ble_eq_true rfl)⟩ (Nat.le_of_ble_eq_true rfl) dX12_site_76 ?_
      refine g_iload_n (pc := 79) (x := a2) F dX12_site_79 rfl 2 rfl ?_
      refine g_if_lt (pc := 80) (tgt := 89) F dX12_site_80 (by decide) (fun c19 => ?_) (fun c19 => ?_)
      · have h := ite_t c19 h
        refine g_sub [0, 1, 2, 3, 4, 5] rfl ?_
        exact wX12_site_b89 F hx Rt ih M17 a1 a2 a3 a4 (((100000 : Int32) * r13) + r15) h
      · have h := ite_f c19 h
        refine g_iload (pc := 83) (x := ((100000 : Int32) * r13) + r15) F dX12_site_83 5 rfl ?_
        refine g_iload_n (pc := 85) (x := a3) F dX12_site_85 rfl 3 rfl ?_
        refine g_icmp_ge (pc := 86) (tgt := 93) F dX12_site_86 (by decide) (fun c22 => ?_) (fun c22 => ?_)
        · have h := ite_t c22 h
          refine g_iconst (pc := 93) F dX12_site_93 ic_0 ?_
          refine g_sub [0, 1, 2, 3, 4, 5] rfl ?_
          exact wX12_site_b94 F hx Rt ih M17 a1 a2 a3 a4 (((100000 : Int32) * r13) + r15) (0 : Int32) h
        · have h := ite_f c22 h
          refine g_sub [0, 1, 2, 3, 4, 5] rfl ?_
          exact wX12_site_b89 F hx Rt ih M17 a1 a2 a3 a4 (((100000 : Int32) * r13) + r15) h
set_option maxHeartbeats 4000000 in
set_option maxRecDepth 100000 in
theorem hX12_site {N : Nat} {M : Mem} {a1 : Int32} {res : Int32 × Mem} (h : mX12_site N M a1 = some res) (l : Launch) (E : Ev) : CtI l E (Wm E) yX12_site cX12_site 7 .int 7 155 [.ref (em E 0), .int a1] M res.1 res.2 :=
  ctI_of (Wf := Wm) (av := fun E => [.ref (em E 0), .int a1]) (lv := fun E => [(0, .ref (em E 0)), (1, .int a1)]) (by decide) (fun _ => rfl) (fun _ => (Nat.le_of_ble_eq_true rfl)) (fun X F hx Rt => by
    have F : Fx X cX12_site RX12 7 155 := F
    unfold mX12_site at h
    refine g_iload_n (pc := 0) (x := a1) F dX12_site_0 rfl 1 rfl ?_
    refine g_iconst (pc := 1) F dX12_site_1 ic_1 ?_
    refine g_bipush (pc := 2) F dX12_site_2 bp_40 ?_
    obtain ⟨r1, e2, h⟩ := bd_some h
    refine g_sI (pc := 4) (Wf := Wm) (As := [.int a1, .int (1 : Int32), .int (40 : Int32)]) (rest := []) F (hX12_in (M := M) e2 (xl X) (xE X)) kX12_in lX12_45 rfl rfl ⟨(Nat.le_of_ble_eq_true rfl), (Nat.le_of_ble_eq_true rfl)⟩ (Nat.le_of_ble_eq_true rfl) dX12_site_4 ?_
    refine g_if_ne (pc := 7) (tgt := 17) F dX12_site_7 (by decide) (fun c3 => ?_) (fun c3 => ?_)
    · have h := ite_f c3 h
      refine g_aload_n (pc := 17) (x := em (xE X) 0) F dX12_site_17 rfl 0 rfl ?_
      refine g_iconst (pc := 18) F dX12_site_18 ic_1 ?_
      refine g_aload_n (pc := 19) (x := em (xE X) 0) F dX12_site_19 rfl 0 rfl ?_
      refine g_get (pc := 20) (v := .ref (em (xE X) 3)) F fX12_16 0 rfl rfl dX12_site_20 ?_
      obtain ⟨M4, e5, h⟩ := bd_some h
      refine g_vV (pc := 23) (Wf := Wm) (As := [.int (1 : Int32), .ref (em (xE X) 3)]) (rest := []) F (hX12_moveAll_2 e5 (xl X) (xE X)) kX12_moveAll lX12_143 0 rfl rfl rfl rfl rfl ⟨(Nat.le_of_ble_eq_true rfl), (Nat.le_of_ble_eq_true rfl)⟩ (Nat.le_of_ble_eq_true rfl) dX12_site_23 ?_
      refine g_iconst (pc := 26) F dX12_site_26 ic_m1 ?_
      refine g_istore_n (pc := 27) (lv2 := [(0, .ref (em (xE X) 0)), (1, .int a1), (2, .int (-1 : Int32))]) F dX12_site_27 rfl (by rw [hx]; decide) [1, 2, 0] rfl ?_
      refine g_iconst (pc := 28) F dX12_site_28 ic_0 ?_
      refine g_istore_n (pc := 29) (lv2 := [(0, .ref (em (xE X) 0)), (1, .int a1), (2, .int (-1 : Int32)), (3, .int (0 : Int32))]) F dX12_site_29 rfl (by rw [hx]; decide) [1, 2, 3, 0] rfl ?_
      refine g_iconst (pc := 30) F dX12_site_30 ic_0 ?_
      refine g_istore (pc := 31) (lv2 := [(0, .ref (em (xE X) 0)), (1, .int a1), (2, .int (-1 : Int32)), (3, .int (0 : Int32)), (4, .int (0 : Int32))]) F dX12_site_31 (by rw [hx]; decide) [1, 2, 3, 4, 0] rfl ?_
      refine g_sub [0, 1, 2, 3, 4] rfl ?_
      exact wX12_site_b33 F hx Rt N M4 a1 (-1 : Int32) (0 : Int32) (0 : Int32) h
    · have h := ite_t c3 h
      refine g_aload_n (pc := 10) (x := em (xE X) 0) F dX12_site_10 rfl 0 rfl ?_
      refine g_ldc (pc := 11) F oX12_44 dX12_site_11 ?_
      obtain ⟨q23, e24, h⟩ := bd_some h
      refine g_vI (pc := 13) (Wf := Wm) (As := [.int (-1000000001 : Int32)]) (rest := []) F (hX12_finds e24 (xl X) (xE X)) kX12_finds lX12_53 0 rfl rfl rfl rfl rfl ⟨(Nat.le_of_ble_eq_true rfl), (Nat.le_of_ble_eq_true rfl)⟩ (Nat.le_of_ble_eq_true rfl) dX12_site_13 ?_
      obtain rfl := Option.some.inj h
      exact g_iret (pc := 16) (Wf := Wm) F Rt rfl dX12_site_16) l E
set_option maxHeartbeats 4000000 in
set_option maxRecDepth 100000 in
theorem wX12_nearest_b35 {X : Cx} (F : Fx X cX12_nearest RX12 7 155) (hx : xn X = 4) {N : Nat} {res : Int32 × Mem} (Rt : RI X Wm .int res.1 res.2) : ∀ (n : Nat) (M : Mem) (a2 : Int32) (a3 : Int32), mX12_nearest_b35 N n M a2 a3 = some res → G X (Wm (xE X) M) 35 [(0, .ref (em (xE X) 0)), (2, .int a2), (3, .int a3)] [] := by
  intro n
  induction n with
  | zero =>
    intro M a2 a3 h
    have h : none = some res := h
    cases h
  | succ n ih =>
    intro M a2 a3 h
    rw [mX12_nearest_b35] at h
    refine g_iload_n (pc := 35) (x := a3) F dX12_nearest_35 rfl 2 rfl ?_
    refine g_aload_n (pc := 36) (x := em (xE X) 0) F dX12_nearest_36 rfl 0 rfl ?_
    refine g_get (pc := 37) (v := .ref (em (xE X) 1)) F fX12_7 0 rfl rfl dX12_nearest_37 ?_
    refine g_iconst (pc := 40) F dX12_nearest_40 ic_5 ?_
    refine g_iald (pc := 41) (N := 48) (fn := M.1 0) (j := 5) F 1 0 rfl rfl vi_5_48 cl_5 dX12_nearest_41 ?_
    refine g_icmp_ge (pc := 42) (tgt := 76) F dX12_nearest_42 (by decide) (fun c8 => ?_) (fun c8 => ?_)
    · have h := ite_t c8 h
      refine g_aload_n (pc := 76) (x := em (xE X) 0) F dX12_nearest_76 rfl 0 rfl ?_
      refine g_iconst (pc := 77) F dX12_nearest_77 ic_0 ?_
      refine g_aload_n (pc := 78) (x := em (xE X) 0) F dX12_nearest_78 rfl 0 rfl ?_
      refine g_get (pc := 79) (v := .ref (em (xE X) 3)) F fX12_16 0 rfl rfl dX12_nearest_79 ?_
      obtain ⟨M9, e10, h⟩ := bd_some h
      refine g_vV (pc := 82) (Wf := Wm) (As := [.int (0 : Int32), .ref (em (xE X) 3)]) (rest := []) F (hX12_moveAll_2 e10 (xl X) (xE X)) kX12_moveAll lX12_143 0 rfl rfl rfl rfl rfl ⟨(Nat.le_of_ble_eq_true rfl), (Nat.le_of_ble_eq_true rfl)⟩ (Nat.le_of_ble_eq_true rfl) dX12_nearest_82 ?_
      refine g_iload_n (pc := 85) (x := a2) F dX12_nearest_85 rfl 1 rfl ?_
      refine g_if_ge (pc := 86) (tgt := 98) F dX12_nearest_86 (by decide) (fun c11 => ?_) (fun c11 => ?_)
      · have h := ite_t c11 h
        refine g_iload_n (pc := 98) (x := a2) F dX12_nearest_98 rfl 1 rfl ?_
        obtain rfl := Option.some.inj h
        exact g_iret (pc := 99) (Wf := Wm) F Rt rfl dX12_nearest_99
      · have h := ite_f c11 h
        refine g_aload_n (pc := 89) (x := em (xE X) 0) F dX12_nearest_89 rfl 0 rfl ?_
        refine g_ldc (pc := 90) F oX12_150 dX12_nearest_90 ?_
        obtain ⟨q12, e13, h⟩ := bd_some h
        refine g_vI (pc := 92) (Wf := Wm) (As := [.int (-1000000004 : Int32)]) (rest := []) F (hX12_finds e13 (xl X) (xE X)) kX12_finds lX12_53 0 rfl rfl rfl rfl rfl ⟨(Nat.le_of_ble_eq_true rfl), (Nat.le_of_ble_eq_true rfl)⟩ (Nat.le_of_ble_eq_true rfl) dX12_nearest_92 ?_
        refine g_goto (pc := 95) (tgt := 99) F dX12_nearest_95 (by decide) ?_
        obtain rfl := Option.some.inj h
        exact g_iret (pc := 99) (Wf := Wm) F Rt rfl dX12_nearest_99
    · have h := ite_f c8 h
      refine g_iload_n (pc := 45) (x := a2) F dX12_nearest_45 rfl 1 rfl ?_
      refine g_if_lt (pc := 46) (tgt := 64) F dX12_nearest_46 (by decide) (fun c14 => ?_) (fun c14 => ?_)
      · have h := ite_t c14 h
        refine g_iload_n (pc := 64) (x := a3) F dX12_nearest_64 rfl 2 rfl ?_
        refine g_goto (pc := 65) (tgt := 69) F dX12_nearest_65 (by decide) ?_
        refine g_istore_n (pc := 69) (lv2 := [(0, .ref (em (xE X) 0)), (2, .int a3), (3, .int a3)]) F dX12_nearest_69 rfl (by rw [hx]; decide) [1, 0, 2] rfl ?_
        refine g_iinc (pc := 70) (lv2 := [(0, .ref (em (xE X) 0)), (2, .int a3), (3, .int (a3 + (1 : Int32)))]) F dX12_nearest_70 2 rfl (ii_1 _) (by rw [hx]; decide) [1, 2, 0] rfl ?_
        refine g_goto (pc := 73) (tgt := 35) F dX12_nearest_73 (by decide) ?_
        refine g_sub [0, 1, 2] rfl ?_
        exact ih M a3 (a3 + (1 : Int32)) h
      · have h := ite_f c14 h
        refine g_aload_n (pc := 49) (x := em (xE X) 0) F dX12_nearest_49 rfl 0 rfl ?_
        refine g_iload_n (pc := 50) (x := a3) F dX12_nearest_50 rfl 2 rfl ?_
        refine g_iconst (pc := 51) F dX12_nearest_51 ic_4 ?_
        obtain ⟨r15, e16, h⟩ := bd_some h
        refine g_vI (pc := 52) (Wf := Wm) (As := [.int a3, .int (4 : Int32)]) (rest := []) F (hX12_its e16 (xl X) (xE X)) kX12_its lX12_69 0 rfl rfl rfl rfl rfl ⟨(Nat.le_of_ble_eq_true rfl), (Nat.le_of_ble_eq_true rfl)⟩ (Nat.le_of_ble_eq_true rfl) dX12_nearest_52 ?_
        refine g_aload_n (pc := 55) (x := em (xE X) 0) F dX12_nearest_55 rfl 0 rfl ?_
        refine g_iload_n (pc := 56) (x := a2) F dX12_nearest_56 rfl 1 rfl ?_
        refine g_iconst (pc := 57) F dX12_nearest_57 ic_4 ?_
        obtain ⟨r17, e18, h⟩ := bd_some h
        refine g_vI (pc := 58) (Wf := Wm) (As := [.int a2, .int (4 : Int32)]) (rest := [.int r15]) F (hX12_its e18 (xl X) (xE X)) kX12_its lX12_69 0 rfl rfl rfl rfl rfl ⟨(Nat.le_of_ble_eq_true rfl), (Nat.le_of_ble_eq_true rfl)⟩ (Nat.le_of_ble_eq_true rfl) dX12_nearest_58 ?_
        refine g_icmp_ge (pc := 61) (tgt := 68) F dX12_nearest_61 (by decide) (fun c19 => ?_) (fun c19 => ?_)
        · have h := ite_t c19 h
          refine g_iload_n (pc := 68) (x := a2) F dX12_nearest_68 rfl 1 rfl ?_
          refine g_istore_n (pc := 69) (lv2 := [(0, .ref (em (xE X) 0)), (2, .int a2), (3, .int a3)]) F dX12_nearest_69 rfl (by rw [hx]; decide) [1, 0, 2] rfl ?_
          refine g_iinc (pc := 70) (lv2 := [(0, .ref (em (xE X) 0)), (2, .int a2), (3, .int (a3 + (1 : Int32)))]) F dX12_nearest_70 2 rfl (ii_1 _) (by rw [hx]; decide) [1, 2, 0] rfl ?_
          refine g_goto (pc := 73) (tgt := 35) F dX12_nearest_73 (by decide) ?_
          refine g_sub [0, 1, 2] rfl ?_
          exact ih M a2 (a3 + (1 : Int32)) h
        · have h := ite_f c19 h
          refine g_iload_n (pc := 64) (x := a3) F dX12_nearest_64 rfl 2 rfl ?_
          refine g_goto (pc := 65) (tgt := 69) F dX12_nearest_65 (by decide) ?_
          refine g_istore_n (pc := 69) (lv2 := [(0, .ref (em (xE X) 0)), (2, .int a3), (3, .int a3)]) F dX12_nearest_69 rfl (by rw [hx]; decide) [1, 0, 2] rfl ?_
          refine g_iinc (pc := 70) (lv2 := [(0, .ref (em (xE X) 0)), (2, .int a3), (3, .int (a3 + (1 : Int32)))]) F dX12_nearest_70 2 rfl (ii_1 _) (by rw [hx]; decide) [1, 2, 0] rfl ?_
          refine g_goto (pc := 73) (tgt := 35) F dX12_nearest_73 (by decide) ?_
          refine g_sub [0, 1, 2] rfl ?_
          exact ih M a3 (a3 + (1 : Int32)) h
set_option maxHeartbeats 4000000 in
set_option maxRecDepth 100000 in
theorem hX12_nearest {N : Nat} {M : Mem} {a1 : Int32} {res : Int32 × Mem} (h : mX12_nearest N M a1 = some res) (l : Launch) (E : Ev) : CtI l E (Wm E) yX12_nearest cX12_nearest 4 .int 7 155 [.ref (em E 0), .int a1] M res.1 res.2 :=
  ctI_of (Wf := Wm) (av := fun E => [.ref (em E 0), .int a1]) (lv := fun E => [(0, .ref (em E 0)), (1, .int a1)]) (by decide) (fun _ => rfl) (fun _ => (Nat.le_of_ble_eq_true rfl)) (fun X F hx Rt => by
    have F : Fx X cX12_nearest RX12 7 155 := F
    unfold mX12_nearest at h
    refine g_iload_n (pc := 0) (x := a1) F dX12_nearest_0 rfl 1 rfl ?_
    refine g_iconst (pc := 1) F dX12_nearest_1 ic_0 ?_
    refine g_bipush (pc := 2) F dX12_nearest_2 bp_100 ?_
    obtain ⟨r1, e2, h⟩ := bd_some h
    refine g_sI (pc := 4) (Wf := Wm) (As := [.int a1, .int (0 : Int32), .int (100 : Int32)]) (rest := []) F (hX12_in (M := M) e2 (xl X) (xE X)) kX12_in lX12_45 rfl rfl ⟨(Nat.le_of_ble_eq_true rfl), (Nat.le_of_ble_eq_true rfl)⟩ (Nat.le_of_ble_eq_true rfl) dX12_nearest_4 ?_
    refine g_if_ne (pc := 7) (tgt := 17) F dX12_nearest_7 (by decide) (fun c3 => ?_) (fun c3 => ?_)
    · have h := ite_f c3 h
      refine g_aload_n (pc := 17) (x := em (xE X) 0) F dX12_nearest_17 rfl 0 rfl ?_
      refine g_iconst (pc := 18) F dX12_nearest_18 ic_1 ?_
      refine g_aload_n (pc := 19) (x := em (xE X) 0) F dX12_nearest_19 rfl 0 rfl ?_
      refine g_get (pc := 20) (v := .ref (em (xE X) 3)) F fX12_16 0 rfl rfl dX12_nearest_20 ?_
      obtain ⟨M4, e5, h⟩ := bd_some h
      refine g_vV (pc := 23) (Wf := Wm) (As := [.int (1 : Int32), .ref (em (xE X) 3)]) (rest := []) F (hX12_moveAll_2 e5 (xl X) (xE X)) kX12_moveAll lX12_143 0 rfl rfl rfl rfl rfl ⟨(Nat.le_of_ble_eq_true rfl), (Nat.le_of_ble_eq_true rfl)⟩ (Nat.le_of_ble_eq_true rfl) dX12_nearest_23 ?_
      refine g_aload_n (pc := 26) (x := em (xE X) 0) F dX12_nearest_26 rfl 0 rfl ?_
      refine g_iload_n (pc := 27) (x := a1) F dX12_nearest_27 rfl 1 rfl ?_
      obtain ⟨M6, e7, h⟩ := bd_some h
      refine g_vV (pc := 28) (Wf := Wm) (As := [.int a1]) (rest := []) F (hX12_passes e7 (xl X) (xE X)) kX12_passes lX12_140 0 rfl rfl rfl rfl rfl ⟨(Nat.le_of_ble_eq_true rfl), (Nat.le_of_ble_eq_true rfl)⟩ (Nat.le_of_ble_eq_true rfl) dX12_nearest_28 ?_
      refine g_iconst (pc := 31) F dX12_nearest_31 ic_m1 ?_
      refine g_istore_n (pc := 32) (lv2 := [(0, .ref (em (xE X) 0)), (1, .int a1), (2, .int (-1 : Int32))]) F dX12_nearest_32 rfl (by rw [hx]; decide) [1, 2, 0] rfl ?_
      refine g_iconst (pc := 33) F dX12_nearest_33 ic_0 ?_
      refine g_istore_n (pc := 34) (lv2 := [(0, .ref (em (xE X) 0)), (1, .int a1), (2, .int (-1 : Int32)), (3, .int (0 : Int32))]) F dX12_nearest_34 rfl (by rw [hx]; decide) [1, 2, 3, 0] rfl ?_
      refine g_sub [0, 2, 3] rfl ?_
      exact wX12_nearest_b35 F hx Rt N M6 (-1 : Int32) (0 : Int32) h
    · have h := ite_t c3 h
      refine g_aload_n (pc := 10) (x := em (xE X) 0) F dX12_nearest_10 rfl 0 rfl ?_
      refine g_ldc (pc := 11) F oX12_44 dX12_nearest_11 ?_
      obtain ⟨q20, e21, h⟩ := bd_some h
      refine g_vI (pc := 13) (Wf := Wm) (As := [.int (-1000000001 : Int32)]) (rest := []) F (hX12_finds e21 (xl X) (xE X)) kX12_finds lX12_53 0 rfl rfl rfl rfl rfl ⟨(Nat.le_of_ble_eq_true rfl), (Nat.le_of_ble_eq_true rfl)⟩ (Nat.le_of_ble_eq_true rfl) dX12_nearest_13 ?_
      obtain rfl := Option.some.inj h
      exact g_iret (pc := 16) (Wf := Wm) F Rt rfl dX12_nearest_16) l E
set_option maxHeartbeats 4000000 in
set_option maxRecDepth 100000 in
theorem wX12_feed_b38 {X : Cx} (F : Fx X cX12_feed RX12 1 22) (hx : xn X = 4) {N : Nat} {res : Int32 × Mem} (Rt : RI X Wm .int res.1 res.2) : ∀ (n : Nat) (M : Mem) (a1 : Int32) (a3 : Int32), mX12_feed_b38 N n M a1 a3 = some res → G X (Wm (xE X) M) 38 [(0, .ref (em (xE X) 0)), (1, .int a1), (3, .int a3)] [] := by
  intro n
  induction n with
  | zero =>
    intro M a1 a3 h
    have h : none = some res := h
    cases h
  | succ n ih =>
    intro M a1 a3 h
    rw [mX12_feed_b38] at h
    refine g_iload_n (pc := 38) (x := a3) F dX12_feed_38 rfl 2 rfl ?_
    refine g_if_lt (pc := 39) (tgt := 77) F dX12_feed_39 (by decide) (fun c5 => ?_) (fun c5 => ?_)
    · have h := ite_t c5 h
      refine g_aload_n (pc := 77) (x := em (xE X) 0) F dX12_feed_77 rfl 0 rfl ?_
      refine g_get (pc := 78) (v := .int (M.1 9 5)) F fX12_164 0 rfl rfl dX12_feed_78 ?_
      obtain rfl := Option.some.inj h
      exact g_iret (pc := 81) (Wf := Wm) F Rt rfl dX12_feed_81
    · have h := ite_f c5 h
      refine g_aload_n (pc := 42) (x := em (xE X) 0) F dX12_feed_42 rfl 0 rfl ?_
      refine g_get (pc := 43) (v := .ref (em (xE X) 5)) F fX12_22 0 rfl rfl dX12_feed_43 ?_
      refine g_aload_n (pc := 46) (x := em (xE X) 0) F dX12_feed_46 rfl 0 rfl ?_
      refine g_get (pc := 47) (v := .int (M.1 9 5)) F fX12_164 0 rfl rfl dX12_feed_47 ?_
      refine g_iload_n (pc := 50) (x := a1) F dX12_feed_50 rfl 1 rfl ?_
      refine g_bipush (pc := 51) F dX12_feed_51 bp_8 ?_
      refine g_iload_n (pc := 53) (x := a3) F dX12_feed_53 rfl 2 rfl ?_
      refine g_imul (pc := 54) F dX12_feed_54 ?_
      refine g_ishr (pc := 55) F dX12_feed_55 ?_
      refine g_sipush (pc := 56) F dX12_feed_56 sp_255 ?_
      refine g_iand (pc := 59) F dX12_feed_59 ?_
      obtain ⟨i6, h⟩ := ck_some h
      refine g_iast (pc := 60) (N := 120) (fn := M.1 4) (j := (M.1 9 5).toNatClampNeg) (ws2 := Wm (xE X) (sI M 4 ((M.1 9 5).toNatClampNeg) ((a1 >>> (((8 : Int32) * a3) &&& 31)) &&& (255 : Int32)))) F 5 0 rfl rfl i6 rfl (wma_4 _ _ _ _) dX12_feed_60 ?_
      refine g_aload_n (pc := 61) (x := em (xE X) 0) F dX12_feed_61 rfl 0 rfl ?_
      refine g_dup (pc := 62) F dX12_feed_62 rfl ?_
      refine g_get (pc := 63) (v := .int ((sI M 4 ((M.1 9 5).toNatClampNeg) ((a1 >>> (((8 : Int32) * a3) &&& 31)) &&& (255 : Int32))).1 9 5)) F fX12_164 0 rfl rfl dX12_feed_63 ?_
      refine g_iconst (pc := 66) F dX12_feed_66 ic_1 ?_
      refine g_iadd (pc := 67) F dX12_feed_67 ?_
      refine g_put (pc := 68) (ws2 := Wm (xE X) (sI (sI M 4 ((M.1 9 5).toNatClampNeg) ((a1 >>> (((8 : Int32) * a3) &&& 31)) &&& (255 : Int32))) 9 5 (((sI M 4 ((M.1 9 5).toNatClampNeg) ((a1 >>> (((8 : Int32) * a3) &&& 31)) &&& (255 : Int32))).1 9 5) + (1 : Int32)))) F pX12_164 0 rfl rfl rfl (Nat.le_of_ble_eq_true rfl) (wmp_5 _ _ _) dX12_feed_68 ?_
      refine g_iinc (pc := 71) (lv2 := [(0, .ref (em (xE X) 0)), (1, .int a1), (3, .int (a3 + (-1 : Int32)))]) F dX12_feed_71 2 rfl (ii_m1 _) (by rw [hx]; decide) [1, 2, 0] rfl ?_
      refine g_goto (pc := 74) (tgt := 38) F dX12_feed_74 (by decide) ?_
      refine g_sub [0, 1, 2] rfl ?_
      exact ih (sI (sI M 4 ((M.1 9 5).toNatClampNeg) ((a1 >>> (((8 : Int32) * a3) &&& 31)) &&& (255 : Int32))) 9 5 (((sI M 4 ((M.1 9 5).toNatClampNeg) ((a1 >>> (((8 : Int32) * a3) &&& 31)) &&& (255 : Int32))).1 9 5) + (1 : Int32))) a1 (a3 + (-1 : Int32)) h
set_option maxHeartbeats 4000000 in
set_option maxRecDepth 100000 in
theorem hX12_feed {N : Nat} {M : Mem} {a1 : Int32} {a2 : Int32} {res : Int32 × Mem} (h : mX12_feed N M a1 a2 = some res) (l : Launch) (E : Ev) : CtI l E (Wm E) yX12_feed cX12_feed 4 .int 1 22 [.ref (em E 0), .int a1, .int a2] M res.1 res.2 :=
  ctI_of (Wf := Wm) (av := fun E => [.ref (em E 0), .int a1, .int a2]) (lv := fun E => [(0, .ref (em E 0)), (1, .int a1), (2, .int a2)]) (by decide) (fun _ => rfl) (fun _ => (Nat.le_of_ble_eq_true rfl)) (fun X F hx Rt => by
    have F : Fx X cX12_feed RX12 1 22 := F
    unfold mX12_feed at h
    refine g_iload_n (pc := 0) (x := a2) F dX12_feed_0 rfl 2 rfl ?_
    refine g_iconst (pc := 1) F dX12_feed_1 ic_1 ?_
    refine g_iconst (pc := 2) F dX12_feed_2 ic_4 ?_
    obtain ⟨r1, e2, h⟩ := bd_some h
    refine g_sI (pc := 3) (Wf := Wm) (As := [.int a2, .int (1 : Int32), .int (4 : Int32)]) (rest := []) F (hX12_in (M := M) e2 (xl X) (xE X)) kX12_in lX12_45 rfl rfl ⟨(Nat.le_of_ble_eq_true rfl), (Nat.le_of_ble_eq_true rfl)⟩ (Nat.le_of_ble_eq_true rfl) dX12_feed_3 ?_
    refine g_if_ne (pc := 6) (tgt := 16) F dX12_feed_6 (by decide) (fun c3 => ?_) (fun c3 => ?_)
    · have h := ite_f c3 h
      refine g_aload_n (pc := 16) (x := em (xE X) 0) F dX12_feed_16 rfl 0 rfl ?_
      refine g_get (pc := 17) (v := .int (M.1 9 5)) F fX12_164 0 rfl rfl dX12_feed_17 ?_
      refine g_iload_n (pc := 20) (x := a2) F dX12_feed_20 rfl 2 rfl ?_
      refine g_iadd (pc := 21) F dX12_feed_21 ?_
      refine g_bipush (pc := 22) F dX12_feed_22 bp_120 ?_
      refine g_icmp_le (pc := 24) (tgt := 34) F dX12_feed_24 (by decide) (fun c4 => ?_) (fun c4 => ?_)
      · have h := ite_t c4 h
        refine g_iload_n (pc := 34) (x := a2) F dX12_feed_34 rfl 2 rfl ?_
        refine g_iconst (pc := 35) F dX12_feed_35 ic_1 ?_
        refine g_isub (pc := 36) F dX12_feed_36 ?_
        refine g_istore_n (pc := 37) (lv2 := [(0, .ref (em (xE X) 0)), (1, .int a1), (2, .int a2), (3, .int (a2 - (1 : Int32)))]) F dX12_feed_37 rfl (by rw [hx]; decide) [1, 2, 3, 0] rfl ?_
        refine g_sub [0, 1, 3] rfl ?_
        exact wX12_feed_b38 F hx Rt N M a1 (a2 - (1 : Int32)) h
      · have h := ite_f c4 h
        refine g_aload_n (pc := 27) (x := em (xE X) 0) F dX12_feed_27 rfl 0 rfl ?_
        refine g_ldc (pc := 28) F oX12_95 dX12_feed_28 ?_
        obtain ⟨q7, e8, h⟩ := bd_some h
        refine g_vI (pc := 30) (Wf := Wm) (As := [.int (-1000000002 : Int32)]) (rest := []) F (hX12_finds e8 (xl X) (xE X)) kX12_finds lX12_53 0 rfl rfl rfl rfl rfl ⟨(Nat.le_of_ble_eq_true rfl), (Nat.le_of_ble_eq_true rfl)⟩ (Nat.le_of_ble_eq_true rfl) dX12_feed_30 ?_
        obtain rfl := Option.some.inj h
        exact g_iret (pc := 33) (Wf := Wm) F Rt rfl dX12_feed_33
    · have h := ite_t c3 h
      refine g_aload_n (pc := 9) (x := em (xE X) 0) F dX12_feed_9 rfl 0 rfl ?_
      refine g_ldc (pc := 10) F oX12_44 dX12_feed_10 ?_
      obtain ⟨q9, e10, h⟩ := bd_some h
      refine g_vI (pc := 12) (Wf := Wm) (As := [.int (-1000000001 : Int32)]) (rest := []) F (hX12_finds e10 (xl X) (xE X)) kX12_finds lX12_53 0 rfl rfl rfl rfl rfl ⟨(Nat.le_of_ble_eq_true rfl), (Nat.le_of_ble_eq_true rfl)⟩ (Nat.le_of_ble_eq_true rfl) dX12_feed_12 ?_
      obtain rfl := Option.some.inj h
      exact g_iret (pc := 15) (Wf := Wm) F Rt rfl dX12_feed_15) l E
set_option maxHeartbeats 4000000 in
set_option maxRecDepth 100000 in
theorem hX12_wipe {M : Mem} {res : Int32 × Mem} (h : mX12_wipe M = some res) (l : Launch) (E : Ev) : CtI l E (Wm E) yX12_wipe cX12_wipe 2 .int 0 0 [.ref (em E 0)] M res.1 res.2 :=
  ctI_of (Wf := Wm) (av := fun E => [.ref (em E 0)]) (lv := fun E => [(0, .ref (em E 0))]) (by decide) (fun _ => rfl) (fun _ => (Nat.le_of_ble_eq_true rfl)) (fun X F hx Rt => by
    have F : Fx X cX12_wipe RX12 0 0 := F
    unfold mX12_wipe at h
    refine g_aload_n (pc := 0) (x := em (xE X) 0) F dX12_wipe_0 rfl 0 rfl ?_
    refine g_get (pc := 1) (v := .int (M.1 9 5)) F fX12_164 0 rfl rfl dX12_wipe_1 ?_
    refine g_istore_n (pc := 4) (lv2 := [(0, .ref (em (xE X) 0)), (1, .int (M.1 9 5))]) F dX12_wipe_4 rfl (by rw [hx]; decide) [1, 0] rfl ?_
    refine g_aload_n (pc := 5) (x := em (xE X) 0) F dX12_wipe_5 rfl 0 rfl ?_
    refine g_iconst (pc := 6) F dX12_wipe_6 ic_0 ?_
    refine g_put (pc := 7) (ws2 := Wm (xE X) (sI M 9 5 (0 : Int32))) F pX12_164 0 rfl rfl rfl (Nat.le_of_ble_eq_true rfl) (wmp_5 _ _ _) dX12_wipe_7 ?_
    refine g_iload_n (pc := 10) (x := M.1 9 5) F dX12_wipe_10 rfl 1 rfl ?_
    obtain rfl := Option.some.inj h
    exact g_iret (pc := 11) (Wf := Wm) F Rt rfl dX12_wipe_11) l E
set_option maxHeartbeats 4000000 in
set_option maxRecDepth 100000 in
theorem hX12_byteAt {M : Mem} {a1 : Int32} {res : Int32} (h : mX12_byteAt M a1 = some res) (l : Launch) (E : Ev) : CtI l E (Wm E) yX12_byteAt cX12_byteAt 2 .int 0 0 [.ref (em E 0), .int a1] M res M :=
  ctI_of (Wf := Wm) (av := fun E => [.ref (em E 0), .int a1]) (lv := fun E => [(0, .ref (em E 0)), (1, .int a1)]) (by decide) (fun _ => rfl) (fun _ => (Nat.le_of_ble_eq_true rfl)) (fun X F hx Rt => by
    have F : Fx X cX12_byteAt RX12 0 0 := F
    unfold mX12_byteAt at h
    refine g_iload_n (pc := 0) (x := a1) F dX12_byteAt_0 rfl 1 rfl ?_
    refine g_aload_n (pc := 1) (x := em (xE X) 0) F dX12_byteAt_1 rfl 0 rfl ?_
    refine g_get (pc := 2) (v := .int (M.1 9 5)) F fX12_164 0 rfl rfl dX12_byteAt_2 ?_
    refine g_icmp_ge (pc := 5) (tgt := 17) F dX12_byteAt_5 (by decide) (fun c1 => ?_) (fun c1 => ?_)
    · have h := ite_t c1 h
      refine g_iconst (pc := 17) F dX12_byteAt_17 ic_m1 ?_
      obtain rfl := Option.some.inj h
      exact g_iret (pc := 18) (Wf := Wm) F Rt rfl dX12_byteAt_18
    · have h := ite_f c1 h
      refine g_aload_n (pc := 8) (x := em (xE X) 0) F dX12_byteAt_8 rfl 0 rfl ?_
      refine g_get (pc := 9) (v := .ref (em (xE X) 5)) F fX12_22 0 rfl rfl dX12_byteAt_9 ?_
      refine g_iload_n (pc := 12) (x := a1) F dX12_byteAt_12 rfl 1 rfl ?_
      obtain ⟨i2, h⟩ := ck_some h
      refine g_iald (pc := 13) (N := 120) (fn := M.1 4) (j := a1.toNatClampNeg) F 5 0 rfl rfl i2 rfl dX12_byteAt_13 ?_
      refine g_goto (pc := 14) (tgt := 18) F dX12_byteAt_14 (by decide) ?_
      obtain rfl := Option.some.inj h
      exact g_iret (pc := 18) (Wf := Wm) F Rt rfl dX12_byteAt_18) l E
set_option maxHeartbeats 4000000 in
set_option maxRecDepth 100000 in
theorem hX12_isLetter {M : Mem} {a0 : Int32} {res : Int32} (h : mX12_isLetter a0 = some res) (l : Launch) (E : Ev) : CtI l E (Wm E) yX12_isLetter cX12_isLetter 1 .boolean 1 22 [.int a0] M res M :=
  ctI_of (Wf := Wm) (av := fun E => [.int a0]) (lv := fun E => [(0, .int a0)]) (by decide) (fun _ => rfl) (fun _ => (Nat.le_of_ble_eq_true rfl)) (fun X F hx Rt => by
    have F : Fx X cX12_isLetter RX12 1 22 := F
    unfold mX12_isLetter at h
    refine g_iload_n (pc := 0) (x := a0) F dX12_isLetter_0 rfl 0 rfl ?_
    refine g_bipush (pc := 1) F dX12_isLetter_1 bp_97 ?_
    refine g_bipush (pc := 3) F dX12_isLetter_3 bp_122 ?_
    obtain ⟨r1, e2, h⟩ := bd_some h
    refine g_sI (pc := 5) (Wf := Wm) (As := [.int a0, .int (97 : Int32), .int (122 : Int32)]) (rest := []) F (hX12_in (M := M) e2 (xl X) (xE X)) kX12_in lX12_45 rfl rfl ⟨(Nat.le_of_ble_eq_true rfl), (Nat.le_of_ble_eq_true rfl)⟩ (Nat.le_of_ble_eq_true rfl) dX12_isLetter_5 ?_
    obtain ⟨b3, h⟩ := ck_some h
    obtain rfl := Option.some.inj h
    exact g_iret (pc := 8) (Wf := Wm) F Rt (nb01 b3).1 dX12_isLetter_8) l E
set_option maxHeartbeats 4000000 in
set_option maxRecDepth 100000 in
theorem hX12_isDigit {M : Mem} {a0 : Int32} {res : Int32} (h : mX12_isDigit a0 = some res) (l : Launch) (E : Ev) : CtI l E (Wm E) yX12_isDigit cX12_isDigit 1 .boolean 1 22 [.int a0] M res M :=
  ctI_of (Wf := Wm) (av := fun E => [.int a0]) (lv := fun E => [(0, .int a0)]) (by decide) (fun _ => rfl) (fun _ => (Nat.le_of_ble_eq_true rfl)) (fun X F hx Rt => by
    have F : Fx X cX12_isDigit RX12 1 22 := F
    unfold mX12_isDigit at h
    refine g_iload_n (pc := 0) (x := a0) F dX12_isDigit_0 rfl 0 rfl ?_
    refine g_bipush (pc := 1) F dX12_isDigit_1 bp_48 ?_
    refine g_bipush (pc := 3) F dX12_isDigit_3 bp_57 ?_
    obtain ⟨r1, e2, h⟩ := bd_some h
    refine g_sI (pc := 5) (Wf := Wm) (As := [.int a0, .int (48 : Int32), .int (57 : Int32)]) (rest := []) F (hX12_in (M := M) e2 (xl X) (xE X)) kX12_in lX12_45 rfl rfl ⟨(Nat.le_of_ble_eq_true rfl), (Nat.le_of_ble_eq_true rfl)⟩ (Nat.le_of_ble_eq_true rfl) dX12_isDigit_5 ?_
    obtain ⟨b3, h⟩ := ck_some h
    obtain rfl := Option.some.inj h
    exact g_iret (pc := 8) (Wf := Wm) F Rt (nb01 b3).1 dX12_isDigit_8) l E
set_option maxHeartbeats 4000000 in
set_option maxRecDepth 100000 in
theorem wX12_advance_b207 {X : Cx} (F : Fx X cX12_advance RX12 2 42) (hx : xn X = 2) {N : Nat} {res : Mem} (Rt : RV X Wm res) : ∀ (n : Nat) (M : Mem), mX12_advance_b207 N n M = some res → G X (Wm (xE X) M) 207 [(0, .ref (em (xE X) 0))] [] := by
  intro n
  induction n with
  | zero =>
    intro M h
    have h : none = some res := h
    cases h
  | succ n ih =>
    intro M h
    rw [mX12_advance_b207] at h
    refine g_aload_n (pc := 207) (x := em (xE X) 0) F dX12_advance_207 rfl 0 rfl ?_
    refine g_get (pc := 208) (v := .int (M.1 9 6)) F fX12_183 0 rfl rfl dX12_advance_208 ?_
    refine g_iconst (pc := 211) F dX12_advance_211 ic_2 ?_
    refine g_icmp_ne (pc := 212) (tgt := 281) F dX12_advance_212 (by decide) (fun c16 => ?_) (fun c16 => ?_)
    · have h := ite_f c16 h
      obtain rfl := Option.some.inj h
      exact g_vret (pc := 281) (Wf := Wm) F Rt dX12_advance_281
    · have h := ite_t c16 h
      refine g_aload_n (pc := 215) (x := em (xE X) 0) F dX12_advance_215 rfl 0 rfl ?_
      refine g_aload_n (pc := 216) (x := em (xE X) 0) F dX12_advance_216 rfl 0 rfl ?_
      refine g_get (pc := 217) (v := .int (M.1 9 8)) F fX12_168 0 rfl rfl dX12_advance_217 ?_
      obtain ⟨r17, e18, h⟩ := bd_some h
      refine g_vI (pc := 220) (Wf := Wm) (As := [.int (M.1 9 8)]) (rest := []) F (hX12_byteAt e18 (xl X) (xE X)) kX12_byteAt lX12_174 0 rfl rfl rfl rfl rfl ⟨(Nat.le_of_ble_eq_true rfl), (Nat.le_of_ble_eq_true rfl)⟩ (Nat.le_of_ble_eq_true rfl) dX12_advance_220 ?_
      obtain ⟨r19, e20, h⟩ := bd_some h
      refine g_sI (pc := 223) (Wf := Wm) (As := [.int r17]) (rest := []) F (hX12_isDigit (M := M) e20 (xl X) (xE X)) kX12_isDigit lX12_180 rfl rfl ⟨(Nat.le_of_ble_eq_true rfl), (Nat.le_of_ble_eq_true rfl)⟩ (Nat.le_of_ble_eq_true rfl) dX12_advance_223 ?_
      refine g_if_eq (pc := 226) (tgt := 281) F dX12_advance_226 (by decide) (fun c21 => ?_) (fun c21 => ?_)
      · have h := ite_t c21 h
        obtain rfl := Option.some.inj h
        exact g_vret (pc := 281) (Wf := Wm) F Rt dX12_advance_281
      · have h := ite_f c21 h
        refine g_aload_n (pc := 229) (x := em (xE X) 0) F dX12_advance_229 rfl 0 rfl ?_
        refine g_aload_n (pc := 230) (x := em (xE X) 0) F dX12_advance_230 rfl 0 rfl ?_
        refine g_get (pc := 231) (v := .int (M.1 9 10)) F fX12_190 0 rfl rfl dX12_advance_231 ?_
        refine g_sipush (pc := 234) F dX12_advance_234 sp_999 ?_
        refine g_icmp_le (pc := 237) (tgt := 246) F dX12_advance_237 (by decide) (fun c22 => ?_) (fun c22 => ?_)
        · have h := ite_t c22 h
          refine g_bipush (pc := 246) F dX12_advance_246 bp_10 ?_
          refine g_aload_n (pc := 248) (x := em (xE X) 0) F dX12_advance_248 rfl 0 rfl ?_
          refine g_get (pc := 249) (v := .int (M.1 9 10)) F fX12_190 0 rfl rfl dX12_advance_249 ?_
          refine g_imul (pc := 252) F dX12_advance_252 ?_
          refine g_aload_n (pc := 253) (x := em (xE X) 0) F dX12_advance_253 rfl 0 rfl ?_
          refine g_aload_n (pc := 254) (x := em (xE X) 0) F dX12_advance_254 rfl 0 rfl ?_
          refine g_get (pc := 255) (v := .int (M.1 9 8)) F fX12_168 0 rfl rfl dX12_advance_255 ?_
          obtain ⟨r23, e24, h⟩ := bd_some h
          refine g_vI (pc := 258) (Wf := Wm) (As := [.int (M.1 9 8)]) (rest := [.int ((10 : Int32) * (M.1 9 10)), .ref (em (xE X) 0)]) F (hX12_byteAt e24 (xl X) (xE X)) kX12_byteAt lX12_174 0 rfl rfl rfl rfl rfl ⟨(Nat.le_of_ble_eq_true rfl), (Nat.le_of_ble_eq_true rfl)⟩ (Nat.le_of_ble_eq_true rfl) dX12_advance_258 ?_
          refine g_iadd (pc := 261) F dX12_advance_261 ?_
          refine g_bipush (pc := 262) F dX12_advance_262 bp_48 ?_
          refine g_isub (pc := 264) F dX12_advance_264 ?_
          refine g_put (pc := 265) (ws2 := Wm (xE X) (sI M 9 10 ((((10 : Int32) * (M.1 9 10)) + r23) - (48 : Int32)))) F pX12_190 0 rfl rfl rfl (Nat.le_of_ble_eq_true rfl) (wmp_10 _ _ _) dX12_advance_265 ?_
          refine g_aload_n (pc := 268) (x := em (xE X) 0) F dX12_advance_268 rfl 0 rfl ?_
          refine g_dup (pc := 269) F dX12_advance_269 rfl ?_
          refine g_get (pc := 270) (v := .int ((sI M 9 10 ((((10 : Int32) * (M.1 9 10)) + r23) - (48 : Int32))).1 9 8)) F fX12_168 0 rfl rfl dX12_advance_270 ?_
          refine g_iconst (pc := 273) F dX12_advance_273 ic_1 ?_
          refine g_iadd (pc := 274) F dX12_advance_274 ?_
          refine g_put (pc := 275) (ws2 := Wm (xE X) (sI (sI M 9 10 ((((10 : Int32) * (M.1 9 10)) + r23) - (48 : Int32))) 9 8 (((sI M 9 10 ((((10 : Int32) * (M.1 9 10)) + r23) - (48 : Int32))).1 9 8) + (1 : Int32)))) F pX12_168 0 rfl rfl rfl (Nat.le_of_ble_eq_true rfl) (wmp_8 _ _ _) dX12_advance_275 ?_
          refine g_goto (pc := 278) (tgt := 207) F dX12_advance_278 (by decide) ?_
          refine g_sub [0] rfl ?_
          exact ih (sI (sI M 9 10 ((((10 : Int32) * (M.1 9 10)) + r23) - (48 : Int32))) 9 8 (((sI M 9 10 ((((10 : Int32) * (M.1 9 10)) + r23) - (48 : Int32))).1 9 8) + (1 : Int32))) h
        · have h := ite_f c22 h
          refine g_sipush (pc := 240) F dX12_advance_240 sp_10000 ?_
          refine g_goto (pc := 243) (tgt := 265) F dX12_advance_243 (by decide) ?_
          refine g_put (pc := 265) (ws2 := Wm (xE X) (sI M 9 10 (10000 : Int32))) F pX12_190 0 rfl rfl rfl (Nat.le_of_ble_eq_true rfl) (wmp_10 _ _ _) dX12_advance_265 ?_
          refine g_aload_n (pc := 268) (x := em (xE X) 0) F dX12_advance_268 rfl 0 rfl ?_
          refine g_dup (pc := 269) F dX12_advance_269 rfl ?_
          refine g_get (pc := 270) (v := .int ((sI M 9 10 (10000 : Int32)).1 9 8)) F fX12_168 0 rfl rfl dX12_advance_270 ?_
          refine g_iconst (pc := 273) F dX12_advance_273 ic_1 ?_
          refine g_iadd (pc := 274) F dX12_advance_274 ?_
          refine g_put (pc := 275) (ws2 := Wm (xE X) (sI (sI M 9 10 (10000 : Int32)) 9 8 (((sI M 9 10 (10000 : Int32)).1 9 8) + (1 : Int32)))) F pX12_168 0 rfl rfl rfl (Nat.le_of_ble_eq_true rfl) (wmp_8 _ _ _) dX12_advance_275 ?_
          refine g_goto (pc := 278) (tgt := 207) F dX12_advance_278 (by decide) ?_
          refine g_sub [0] rfl ?_
          exact ih (sI (sI M 9 10 (10000 : Int32)) 9 8 (((sI M 9 10 (10000 : Int32)).1 9 8) + (1 : Int32))) h
set_option maxHeartbeats 4000000 in
set_option maxRecDepth 100000 in
theorem wX12_advance_b126 {X : Cx} (F : Fx X cX12_advance RX12 2 42) (hx : xn X = 2) {N : Nat} {res : Mem} (Rt : RV X Wm res) : ∀ (n : Nat) (M : Mem), mX12_advance_b126 N n M = some res → G X (Wm (xE X) M) 126 [(0, .ref (em (xE X) 0))] [] := by
  intro n
  induction n with
  | zero =>
    intro M h
    have h : none = some res := h
    cases h
  | succ n ih =>
    intro M h
    rw [mX12_advance_b126] at h
    refine g_aload_n (pc := 126) (x := em (xE X) 0) F dX12_advance_126 rfl 0 rfl ?_
    refine g_get (pc := 127) (v := .int (M.1 9 6)) F fX12_183 0 rfl rfl dX12_advance_127 ?_
    refine g_iconst (pc := 130) F dX12_advance_130 ic_1 ?_
    refine g_icmp_ne (pc := 131) (tgt := 207) F dX12_advance_131 (by decide) (fun c15 => ?_) (fun c15 => ?_)
    · have h := ite_f c15 h
      refine g_sub [0] rfl ?_
      exact wX12_advance_b207 F hx Rt N M h
    · have h := ite_t c15 h
      refine g_aload_n (pc := 134) (x := em (xE X) 0) F dX12_advance_134 rfl 0 rfl ?_
      refine g_aload_n (pc := 135) (x := em (xE X) 0) F dX12_advance_135 rfl 0 rfl ?_
      refine g_get (pc := 136) (v := .int (M.1 9 8)) F fX12_168 0 rfl rfl dX12_advance_136 ?_
      obtain ⟨r25, e26, h⟩ := bd_some h
      refine g_vI (pc := 139) (Wf := Wm) (As := [.int (M.1 9 8)]) (rest := []) F (hX12_byteAt e26 (xl X) (xE X)) kX12_byteAt lX12_174 0 rfl rfl rfl rfl rfl ⟨(Nat.le_of_ble_eq_true rfl), (Nat.le_of_ble_eq_true rfl)⟩ (Nat.le_of_ble_eq_true rfl) dX12_advance_139 ?_
      obtain ⟨r27, e28, h⟩ := bd_some h
      refine g_sI (pc := 142) (Wf := Wm) (As := [.int r25]) (rest := []) F (hX12_isLetter (M := M) e28 (xl X) (xE X)) kX12_isLetter lX12_177 rfl rfl ⟨(Nat.le_of_ble_eq_true rfl), (Nat.le_of_ble_eq_true rfl)⟩ (Nat.le_of_ble_eq_true rfl) dX12_advance_142 ?_
      refine g_if_eq (pc := 145) (tgt := 207) F dX12_advance_145 (by decide) (fun c29 => ?_) (fun c29 => ?_)
      · have h := ite_t c29 h
        refine g_sub [0] rfl ?_
        exact wX12_advance_b207 F hx Rt N M h
      · have h := ite_f c29 h
        refine g_aload_n (pc := 148) (x := em (xE X) 0) F dX12_advance_148 rfl 0 rfl ?_
        refine g_aload_n (pc := 149) (x := em (xE X) 0) F dX12_advance_149 rfl 0 rfl ?_
        refine g_get (pc := 150) (v := .int (M.1 9 8)) F fX12_168 0 rfl rfl dX12_advance_150 ?_
        refine g_aload_n (pc := 153) (x := em (xE X) 0) F dX12_advance_153 rfl 0 rfl ?_
        refine g_get (pc := 154) (v := .int (M.1 9 7)) F fX12_171 0 rfl rfl dX12_advance_154 ?_
        refine g_isub (pc := 157) F dX12_advance_157 ?_
        refine g_bipush (pc := 158) F dX12_advance_158 bp_12 ?_
        refine g_icmp_ge (pc := 160) (tgt := 188) F dX12_advance_160 (by decide) (fun c30 => ?_) (fun c30 => ?_)
        · have h := ite_t c30 h
          refine g_ldc2 (pc := 188) F oX12_197 dX12_advance_188 ?_
          refine g_put (pc := 191) (ws2 := Wm (xE X) (sJ M 2 9 (-1 : Int64))) F pX12_186 0 rfl rfl rfl (Nat.le_of_ble_eq_true rfl) (wmp_9 _ _ _) dX12_advance_191 ?_
          refine g_aload_n (pc := 194) (x := em (xE X) 0) F dX12_advance_194 rfl 0 rfl ?_
          refine g_dup (pc := 195) F dX12_advance_195 rfl ?_
          refine g_get (pc := 196) (v := .int ((sJ M 2 9 (-1 : Int64)).1 9 8)) F fX12_168 0 rfl rfl dX12_advance_196 ?_
          refine g_iconst (pc := 199) F dX12_advance_199 ic_1 ?_
          refine g_iadd (pc := 200) F dX12_advance_200 ?_
          refine g_put (pc := 201) (ws2 := Wm (xE X) (sI (sJ M 2 9 (-1 : Int64)) 9 8 (((sJ M 2 9 (-1 : Int64)).1 9 8) + (1 : Int32)))) F pX12_168 0 rfl rfl rfl (Nat.le_of_ble_eq_true rfl) (wmp_8 _ _ _) dX12_advance_201 ?_
          refine g_goto (pc := 204) (tgt := 126) F dX12_advance_204 (by decide) ?_
          refine g_sub [0] rfl ?_
          exact ih (sI (sJ M 2 9 (-1 : Int64)) 9 8 (((sJ M 2 9 (-1 : Int64)).1 9 8) + (1 : Int32))) h
        · have h := ite_f c30 h
          refine g_ldc2 (pc := 163) F oX12_193 dX12_advance_163 ?_
          refine g_aload_n (pc := 166) (x := em (xE X) 0) F dX12_advance_166 rfl 0 rfl ?_
          refine g_get (pc := 167) (v := .long (M.2 2 9)) F fX12_186 0 rfl rfl dX12_advance_167 ?_
          refine g_lmul (pc := 170) F dX12_advance_170 ?_
          refine g_aload_n (pc := 171) (x := em (xE X) 0) F dX12_advance_171 rfl 0 rfl ?_
          refine g_aload_n (pc := 172) (x := em (xE X) 0) F dX12_advance_172 rfl 0 rfl ?_
          refine g_get (pc := 173) (v := .int (M.1 9 8)) F fX12_168 0 rfl rfl dX12_advance_173 ?_
          obtain ⟨r31, e32, h⟩ := bd_some h
          refine g_vI (pc := 176) (Wf := Wm) (As := [.int (M.1 9 8)]) (rest := [.long ((27 : Int64) * (M.2 2 9)), .ref (em (xE X) 0)]) F (hX12_byteAt e32 (xl X) (xE X)) kX12_byteAt lX12_174 0 rfl rfl rfl rfl rfl ⟨(Nat.le_of_ble_eq_true rfl), (Nat.le_of_ble_eq_true rfl)⟩ (Nat.le_of_ble_eq_true rfl) dX12_advance_176 ?_
          refine g_i2l (pc := 179) F dX12_advance_179 ?_
          refine g_ladd (pc := 180) F dX12_advance_180 ?_
          refine g_ldc2 (pc := 181) F oX12_195 dX12_advance_181 ?_
          refine g_lsub (pc := 184) F dX12_advance_184 ?_
          refine g_goto (pc := 185) (tgt := 191) F dX12_advance_185 (by decide) ?_
          refine g_put (pc := 191) (ws2 := Wm (xE X) (sJ M 2 9 ((((27 : Int64) * (M.2 2 9)) + r31.toInt64) - (96 : Int64)))) F pX12_186 0 rfl rfl rfl (Nat.le_of_ble_eq_true rfl) (wmp_9 _ _ _) dX12_advance_191 ?_
          refine g_aload_n (pc := 194) (x := em (xE X) 0) F dX12_advance_194 rfl 0 rfl ?_
          refine g_dup (pc := 195) F dX12_advance_195 rfl ?_
          refine g_get (pc := 196) (v := .int ((sJ M 2 9 ((((27 : Int64) * (M.2 2 9)) + r31.toInt64) - (96 : Int64))).1 9 8)) F fX12_168 0 rfl rfl dX12_advance_196 ?_
          refine g_iconst (pc := 199) F dX12_advance_199 ic_1 ?_
          refine g_iadd (pc := 200) F dX12_advance_200 ?_
          refine g_put (pc := 201) (ws2 := Wm (xE X) (sI (sJ M 2 9 ((((27 : Int64) * (M.2 2 9)) + r31.toInt64) - (96 : Int64))) 9 8 (((sJ M 2 9 ((((27 : Int64) * (M.2 2 9)) + r31.toInt64) - (96 : Int64))).1 9 8) + (1 : Int32)))) F pX12_168 0 rfl rfl rfl (Nat.le_of_ble_eq_true rfl) (wmp_8 _ _ _) dX12_advance_201 ?_
          refine g_goto (pc := 204) (tgt := 126) F dX12_advance_204 (by decide) ?_
          refine g_sub [0] rfl ?_
          exact ih (sI (sJ M 2 9 ((((27 : Int64) * (M.2 2 9)) + r31.toInt64) - (96 : Int64))) 9 8 (((sJ M 2 9 ((((27 : Int64) * (M.2 2 9)) + r31.toInt64) - (96 : Int64))).1 9 8) + (1 : Int32))) h
set_option maxHeartbeats 4000000 in
set_option maxRecDepth 100000 in
theorem wX12_advance_b105 {X : Cx} (F : Fx X cX12_advance RX12 2 42) (hx : xn X = 2) {N : Nat} {res : Mem} (Rt : RV X Wm res) : ∀ (M : Mem) (s1 : Int32), mX12_advance_b105 N M s1 = some res → G X (Wm (xE X) M) 105 [(0, .ref (em (xE X) 0))] [.int s1, .ref (em (xE X) 0)] := by
  intro M s1 h
  unfold mX12_advance_b105 at h
  refine g_put (pc := 105) (ws2 := Wm (xE X) (sI M 9 10 s1)) F pX12_190 0 rfl rfl rfl (Nat.le_of_ble_eq_true rfl) (wmp_10 _ _ _) dX12_advance_105 ?_
  refine g_aload_n (pc := 108) (x := em (xE X) 0) F dX12_advance_108 rfl 0 rfl ?_
  refine g_get (pc := 109) (v := .int ((sI M 9 10 s1).1 9 6)) F fX12_183 0 rfl rfl dX12_advance_109 ?_
  refine g_iconst (pc := 112) F dX12_advance_112 ic_3 ?_
  refine g_icmp_ne (pc := 113) (tgt := 126) F dX12_advance_113 (by decide) (fun c14 => ?_) (fun c14 => ?_)
  · have h := ite_f c14 h
    refine g_sub [0] rfl ?_
    exact wX12_advance_b126 F hx Rt N (sI M 9 10 s1) h
  · have h := ite_t c14 h
    refine g_aload_n (pc := 116) (x := em (xE X) 0) F dX12_advance_116 rfl 0 rfl ?_
    refine g_dup (pc := 117) F dX12_advance_117 rfl ?_
    refine g_get (pc := 118) (v := .int ((sI M 9 10 s1).1 9 8)) F fX12_168 0 rfl rfl dX12_advance_118 ?_
    refine g_iconst (pc := 121) F dX12_advance_121 ic_1 ?_
    refine g_iadd (pc := 122) F dX12_advance_122 ?_
    refine g_put (pc := 123) (ws2 := Wm (xE X) (sI (sI M 9 10 s1) 9 8 (((sI M 9 10 s1).1 9 8) + (1 : Int32)))) F pX12_168 0 rfl rfl rfl (Nat.le_of_ble_eq_true rfl) (wmp_8 _ _ _) dX12_advance_123 ?_
    refine g_sub [0] rfl ?_
    exact wX12_advance_b126 F hx Rt N (sI (sI M 9 10 s1) 9 8 (((sI M 9 10 s1).1 9 8) + (1 : Int32))) h
set_option maxHeartbeats 4000000 in
set_option maxRecDepth 100000 in
theorem wX12_advance_b83 {X : Cx} (F : Fx X cX12_advance RX12 2 42) (hx : xn X = 2) {N : Nat} {res : Mem} (Rt : RV X Wm res) : ∀ (M : Mem) (a1 : Int32) (s1 : Int32), mX12_advance_b83 N M a1 s1 = some res → G X (Wm (xE X) M) 83 [(0, .ref (em (xE X) 0)), (1, .int a1)] [.int s1, .ref (em (xE X) 0)] := by
  intro M a1 s1 h
  unfold mX12_advance_b83 at h
  refine g_put (pc := 83) (ws2 := Wm (xE X) (sI M 9 6 s1)) F pX12_183 0 rfl rfl rfl (Nat.le_of_ble_eq_true rfl) (wmp_6 _ _ _) dX12_advance_83 ?_
  refine g_aload_n (pc := 86) (x := em (xE X) 0) F dX12_advance_86 rfl 0 rfl ?_
  refine g_lconst (pc := 87) (v := (0 : Int64)) F dX12_advance_87 (by decide) ?_
  refine g_put (pc := 88) (ws2 := Wm (xE X) (sJ (sI M 9 6 s1) 2 9 (0 : Int64))) F pX12_186 0 rfl rfl rfl (Nat.le_of_ble_eq_true rfl) (wmp_9 _ _ _) dX12_advance_88 ?_
  refine g_aload_n (pc := 91) (x := em (xE X) 0) F dX12_advance_91 rfl 0 rfl ?_
  refine g_aload_n (pc := 92) (x := em (xE X) 0) F dX12_advance_92 rfl 0 rfl ?_
  refine g_get (pc := 93) (v := .int ((sJ (sI M 9 6 s1) 2 9 (0 : Int64)).1 9 6)) F fX12_183 0 rfl rfl dX12_advance_93 ?_
  refine g_iconst (pc := 96) F dX12_advance_96 ic_2 ?_
  refine g_icmp_ne (pc := 97) (tgt := 104) F dX12_advance_97 (by decide) (fun c13 => ?_) (fun c13 => ?_)
  · have h := ite_f c13 h
    refine g_iload_n (pc := 104) (x := a1) F dX12_advance_104 rfl 1 rfl ?_
    refine g_sub [0] rfl ?_
    exact wX12_advance_b105 F hx Rt (sJ (sI M 9 6 s1) 2 9 (0 : Int64)) a1 h
  · have h := ite_t c13 h
    refine g_iconst (pc := 100) F dX12_advance_100 ic_0 ?_
    refine g_goto (pc := 101) (tgt := 105) F dX12_advance_101 (by decide) ?_
    refine g_sub [0] rfl ?_
    exact wX12_advance_b105 F hx Rt (sJ (sI M 9 6 s1) 2 9 (0 : Int64)) (0 : Int32) h
set_option maxHeartbeats 4000000 in
set_option maxRecDepth 100000 in
theorem wX12_advance_b8 {X : Cx} (F : Fx X cX12_advance RX12 2 42) (hx : xn X = 2) {N : Nat} {res : Mem} (Rt : RV X Wm res) : ∀ (n : Nat) (M : Mem), mX12_advance_b8 N n M = some res → G X (Wm (xE X) M) 8 [(0, .ref (em (xE X) 0))] [] := by
  intro n
  induction n with
  | zero =>
    intro M h
    have h : none = some res := h
    cases h
  | succ n ih =>
    intro M h
    rw [mX12_advance_b8] at h
    refine g_aload_n (pc := 8) (x := em (xE X) 0) F dX12_advance_8 rfl 0 rfl ?_
    refine g_aload_n (pc := 9) (x := em (xE X) 0) F dX12_advance_9 rfl 0 rfl ?_
    refine g_get (pc := 10) (v := .int (M.1 9 7)) F fX12_171 0 rfl rfl dX12_advance_10 ?_
    obtain ⟨r1, e2, h⟩ := bd_some h
    refine g_vI (pc := 13) (Wf := Wm) (As := [.int (M.1 9 7)]) (rest := []) F (hX12_byteAt e2 (xl X) (xE X)) kX12_byteAt lX12_174 0 rfl rfl rfl rfl rfl ⟨(Nat.le_of_ble_eq_true rfl), (Nat.le_of_ble_eq_true rfl)⟩ (Nat.le_of_ble_eq_true rfl) dX12_advance_13 ?_
    refine g_bipush (pc := 16) F dX12_advance_16 bp_32 ?_
    refine g_icmp_ne (pc := 18) (tgt := 34) F dX12_advance_18 (by decide) (fun c3 => ?_) (fun c3 => ?_)
    · have h := ite_f c3 h
      refine g_aload_n (pc := 34) (x := em (xE X) 0) F dX12_advance_34 rfl 0 rfl ?_
      refine g_aload_n (pc := 35) (x := em (xE X) 0) F dX12_advance_35 rfl 0 rfl ?_
      refine g_get (pc := 36) (v := .int (M.1 9 7)) F fX12_171 0 rfl rfl dX12_advance_36 ?_
      refine g_put (pc := 39) (ws2 := Wm (xE X) (sI M 9 8 (M.1 9 7))) F pX12_168 0 rfl rfl rfl (Nat.le_of_ble_eq_true rfl) (wmp_8 _ _ _) dX12_advance_39 ?_
      refine g_aload_n (pc := 42) (x := em (xE X) 0) F dX12_advance_42 rfl 0 rfl ?_
      refine g_aload_n (pc := 43) (x := em (xE X) 0) F dX12_advance_43 rfl 0 rfl ?_
      refine g_get (pc := 44) (v := .int ((sI M 9 8 (M.1 9 7)).1 9 7)) F fX12_171 0 rfl rfl dX12_advance_44 ?_
      obtain ⟨r4, e5, h⟩ := bd_some h
      refine g_vI (pc := 47) (Wf := Wm) (As := [.int ((sI M 9 8 (M.1 9 7)).1 9 7)]) (rest := []) F (hX12_byteAt e5 (xl X) (xE X)) kX12_byteAt lX12_174 0 rfl rfl rfl rfl rfl ⟨(Nat.le_of_ble_eq_true rfl), (Nat.le_of_ble_eq_true rfl)⟩ (Nat.le_of_ble_eq_true rfl) dX12_advance_47 ?_
      refine g_istore_n (pc := 50) (lv2 := [(0, .ref (em (xE X) 0)), (1, .int r4)]) F dX12_advance_50 rfl (by rw [hx]; decide) [1, 0] rfl ?_
      refine g_aload_n (pc := 51) (x := em (xE X) 0) F dX12_advance_51 rfl 0 rfl ?_
      refine g_iload_n (pc := 52) (x := r4) F dX12_advance_52 rfl 1 rfl ?_
      refine g_if_ge (pc := 53) (tgt := 60) F dX12_advance_53 (by decide) (fun c6 => ?_) (fun c6 => ?_)
      · have h := ite_t c6 h
        refine g_iload_n (pc := 60) (x := r4) F dX12_advance_60 rfl 1 rfl ?_
        obtain ⟨r7, e8, h⟩ := bd_some h
        refine g_sI (pc := 61) (Wf := Wm) (As := [.int r4]) (rest := [.ref (em (xE X) 0)]) F (hX12_isLetter (M := sI M 9 8 (M.1 9 7)) e8 (xl X) (xE X)) kX12_isLetter lX12_177 rfl rfl ⟨(Nat.le_of_ble_eq_true rfl), (Nat.le_of_ble_eq_true rfl)⟩ (Nat.le_of_ble_eq_true rfl) dX12_advance_61 ?_
        refine g_if_eq (pc := 64) (tgt := 71) F dX12_advance_64 (by decide) (fun c9 => ?_) (fun c9 => ?_)
        · have h := ite_t c9 h
          refine g_iload_n (pc := 71) (x := r4) F dX12_advance_71 rfl 1 rfl ?_
          obtain ⟨r10, e11, h⟩ := bd_some h
          refine g_sI (pc := 72) (Wf := Wm) (As := [.int r4]) (rest := [.ref (em (xE X) 0)]) F (hX12_isDigit (M := sI M 9 8 (M.1 9 7)) e11 (xl X) (xE X)) kX12_isDigit lX12_180 rfl rfl ⟨(Nat.le_of_ble_eq_true rfl), (Nat.le_of_ble_eq_true rfl)⟩ (Nat.le_of_ble_eq_true rfl) dX12_advance_72 ?_
          refine g_if_eq (pc := 75) (tgt := 82) F dX12_advance_75 (by decide) (fun c12 => ?_) (fun c12 => ?_)
          · have h := ite_t c12 h
            refine g_iconst (pc := 82) F dX12_advance_82 ic_3 ?_
            refine g_sub [0, 1] rfl ?_
            exact wX12_advance_b83 F hx Rt (sI M 9 8 (M.1 9 7)) r4 (3 : Int32) h
          · have h := ite_f c12 h
            refine g_iconst (pc := 78) F dX12_advance_78 ic_2 ?_
            refine g_goto (pc := 79) (tgt := 83) F dX12_advance_79 (by decide) ?_
            refine g_sub [0, 1] rfl ?_
            exact wX12_advance_b83 F hx Rt (sI M 9 8 (M.1 9 7)) r4 (2 : Int32) h
        · have h := ite_f c9 h
          refine g_iconst (pc := 67) F dX12_advance_67 ic_1 ?_
          refine g_goto (pc := 68) (tgt := 83) F dX12_advance_68 (by decide) ?_
          refine g_sub [0, 1] rfl ?_
          exact wX12_advance_b83 F hx Rt (sI M 9 8 (M.1 9 7)) r4 (1 : Int32) h
      · have h := ite_f c6 h
        refine g_iconst (pc := 56) F dX12_advance_56 ic_0 ?_
        refine g_goto (pc := 57) (tgt := 83) F dX12_advance_57 (by decide) ?_
        refine g_sub [0, 1] rfl ?_
        exact wX12_advance_b83 F hx Rt (sI M 9 8 (M.1 9 7)) r4 (0 : Int32) h
    · have h := ite_t c3 h
      refine g_aload_n (pc := 21) (x := em (xE X) 0) F dX12_advance_21 rfl 0 rfl ?_
      refine g_dup (pc := 22) F dX12_advance_22 rfl ?_
      refine g_get (pc := 23) (v := .int (M.1 9 7)) F fX12_171 0 rfl rfl dX12_advance_23 ?_
      refine g_iconst (pc := 26) F dX12_advance_26 ic_1 ?_
      refine g_iadd (pc := 27) F dX12_advance_27 ?_
      refine g_put (pc := 28) (ws2 := Wm (xE X) (sI M 9 7 ((M.1 9 7) + (1 : Int32)))) F pX12_171 0 rfl rfl rfl (Nat.le_of_ble_eq_true rfl) (wmp_7 _ _ _) dX12_advance_28 ?_
      refine g_goto (pc := 31) (tgt := 8) F dX12_advance_31 (by decide) ?_
      refine g_sub [0] rfl ?_
      exact ih (sI M 9 7 ((M.1 9 7) + (1 : Int32))) h
set_option maxHeartbeats 4000000 in
set_option maxRecDepth 100000 in
theorem hX12_advance {N : Nat} {M : Mem} {res : Mem} (h : mX12_advance N M = some res) (l : Launch) (E : Ev) : CtV l E (Wm E) yX12_advance cX12_advance 2 2 42 [.ref (em E 0)] M res :=
  ctV_of (Wf := Wm) (av := fun E => [.ref (em E 0)]) (lv := fun E => [(0, .ref (em E 0))]) (by decide) (fun _ => rfl) (fun _ => (Nat.le_of_ble_eq_true rfl)) (fun X F hx Rt => by
    have F : Fx X cX12_advance RX12 2 42 := F
    unfold mX12_advance at h
    refine g_aload_n (pc := 0) (x := em (xE X) 0) F dX12_advance_0 rfl 0 rfl ?_
    refine g_aload_n (pc := 1) (x := em (xE X) 0) F dX12_advance_1 rfl 0 rfl ?_
    refine g_get (pc := 2) (v := .int (M.1 9 8)) F fX12_168 0 rfl rfl dX12_advance_2 ?_
    refine g_put (pc := 5) (ws2 := Wm (xE X) (sI M 9 7 (M.1 9 8))) F pX12_171 0 rfl rfl rfl (Nat.le_of_ble_eq_true rfl) (wmp_7 _ _ _) dX12_advance_5 ?_
    refine g_sub [0] rfl ?_
    exact wX12_advance_b8 F hx Rt N (sI M 9 7 (M.1 9 8)) h) l E
