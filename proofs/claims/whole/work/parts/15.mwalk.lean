set_option maxHeartbeats 4000000 in
set_option maxRecDepth 100000 in
theorem hX12_adds {M : Mem} {a1 : Int32} {a2 : Int32} {a3 : Int32} {res : Mem} (h : mX12_adds M a1 a2 a3 = some res) (l : Launch) (E : Ev) : CtV l E (Wm E) yX12_adds cX12_adds 5 1 23 [.ref (em E 0), .int a1, .int a2, .int a3] M res :=
  ctV_of (Wf := Wm) (av := fun E => [.ref (em E 0), .int a1, .int a2, .int a3]) (lv := fun E => [(0, .ref (em E 0)), (1, .int a1), (2, .int a2), (3, .int a3)]) (by decide) (fun _ => rfl) (fun _ => (Nat.le_of_ble_eq_true rfl)) (fun X F hx Rt => by
    have F : Fx X cX12_adds RX12 1 23 := F
    unfold mX12_adds at h
    refine g_aload_n (pc := 0) (x := em (xE X) 0) F dX12_adds_0 rfl 0 rfl ?_
    refine g_get (pc := 1) (v := .ref (em (xE X) 1)) F fX12_7 0 rfl rfl dX12_adds_1 ?_
    refine g_iconst (pc := 4) F dX12_adds_4 ic_5 ?_
    refine g_iald (pc := 5) (N := 48) (fn := M.1 0) (j := 5) F 1 0 rfl rfl vi_5_48 cl_5 dX12_adds_5 ?_
    refine g_istore (pc := 6) (lv2 := [(0, .ref (em (xE X) 0)), (1, .int a1), (2, .int a2), (3, .int a3), (4, .int (M.1 0 5))]) F dX12_adds_6 (by rw [hx]; decide) [1, 2, 3, 4, 0] rfl ?_
    refine g_aload_n (pc := 8) (x := em (xE X) 0) F dX12_adds_8 rfl 0 rfl ?_
    refine g_iload (pc := 9) (x := M.1 0 5) F dX12_adds_9 4 rfl ?_
    refine g_iconst (pc := 11) F dX12_adds_11 ic_0 ?_
    refine g_iload_n (pc := 12) (x := a1) F dX12_adds_12 rfl 1 rfl ?_
    obtain ⟨M1, e2, h⟩ := bd_some h
    refine g_vV (pc := 13) (Wf := Wm) (As := [.int (M.1 0 5), .int (0 : Int32), .int a1]) (rest := []) F (hX12_puts e2 (xl X) (xE X)) kX12_puts lX12_88 0 rfl rfl rfl rfl rfl ⟨(Nat.le_of_ble_eq_true rfl), (Nat.le_of_ble_eq_true rfl)⟩ (Nat.le_of_ble_eq_true rfl) dX12_adds_13 ?_
    refine g_aload_n (pc := 16) (x := em (xE X) 0) F dX12_adds_16 rfl 0 rfl ?_
    refine g_iload (pc := 17) (x := M.1 0 5) F dX12_adds_17 4 rfl ?_
    refine g_iconst (pc := 19) F dX12_adds_19 ic_1 ?_
    refine g_iload_n (pc := 20) (x := a2) F dX12_adds_20 rfl 2 rfl ?_
    obtain ⟨M3, e4, h⟩ := bd_some h
    refine g_vV (pc := 21) (Wf := Wm) (As := [.int (M.1 0 5), .int (1 : Int32), .int a2]) (rest := []) F (hX12_puts e4 (xl X) (xE X)) kX12_puts lX12_88 0 rfl rfl rfl rfl rfl ⟨(Nat.le_of_ble_eq_true rfl), (Nat.le_of_ble_eq_true rfl)⟩ (Nat.le_of_ble_eq_true rfl) dX12_adds_21 ?_
    refine g_aload_n (pc := 24) (x := em (xE X) 0) F dX12_adds_24 rfl 0 rfl ?_
    refine g_iload (pc := 25) (x := M.1 0 5) F dX12_adds_25 4 rfl ?_
    refine g_iconst (pc := 27) F dX12_adds_27 ic_2 ?_
    refine g_iload_n (pc := 28) (x := a3) F dX12_adds_28 rfl 3 rfl ?_
    obtain ⟨M5, e6, h⟩ := bd_some h
    refine g_vV (pc := 29) (Wf := Wm) (As := [.int (M.1 0 5), .int (2 : Int32), .int a3]) (rest := []) F (hX12_puts e6 (xl X) (xE X)) kX12_puts lX12_88 0 rfl rfl rfl rfl rfl ⟨(Nat.le_of_ble_eq_true rfl), (Nat.le_of_ble_eq_true rfl)⟩ (Nat.le_of_ble_eq_true rfl) dX12_adds_29 ?_
    refine g_aload_n (pc := 32) (x := em (xE X) 0) F dX12_adds_32 rfl 0 rfl ?_
    refine g_iload (pc := 33) (x := M.1 0 5) F dX12_adds_33 4 rfl ?_
    refine g_iconst (pc := 35) F dX12_adds_35 ic_3 ?_
    refine g_iconst (pc := 36) F dX12_adds_36 ic_0 ?_
    obtain ⟨M7, e8, h⟩ := bd_some h
    refine g_vV (pc := 37) (Wf := Wm) (As := [.int (M.1 0 5), .int (3 : Int32), .int (0 : Int32)]) (rest := []) F (hX12_puts e8 (xl X) (xE X)) kX12_puts lX12_88 0 rfl rfl rfl rfl rfl ⟨(Nat.le_of_ble_eq_true rfl), (Nat.le_of_ble_eq_true rfl)⟩ (Nat.le_of_ble_eq_true rfl) dX12_adds_37 ?_
    refine g_aload_n (pc := 40) (x := em (xE X) 0) F dX12_adds_40 rfl 0 rfl ?_
    refine g_iload (pc := 41) (x := M.1 0 5) F dX12_adds_41 4 rfl ?_
    refine g_iconst (pc := 43) F dX12_adds_43 ic_4 ?_
    refine g_bipush (pc := 44) F dX12_adds_44 bp_99 ?_
    obtain ⟨M9, e10, h⟩ := bd_some h
    refine g_vV (pc := 46) (Wf := Wm) (As := [.int (M.1 0 5), .int (4 : Int32), .int (99 : Int32)]) (rest := []) F (hX12_puts e10 (xl X) (xE X)) kX12_puts lX12_88 0 rfl rfl rfl rfl rfl ⟨(Nat.le_of_ble_eq_true rfl), (Nat.le_of_ble_eq_true rfl)⟩ (Nat.le_of_ble_eq_true rfl) dX12_adds_46 ?_
    refine g_aload_n (pc := 49) (x := em (xE X) 0) F dX12_adds_49 rfl 0 rfl ?_
    refine g_iload (pc := 50) (x := M.1 0 5) F dX12_adds_50 4 rfl ?_
    refine g_iconst (pc := 52) F dX12_adds_52 ic_5 ?_
    refine g_iconst (pc := 53) F dX12_adds_53 ic_0 ?_
    obtain ⟨M11, e12, h⟩ := bd_some h
    refine g_vV (pc := 54) (Wf := Wm) (As := [.int (M.1 0 5), .int (5 : Int32), .int (0 : Int32)]) (rest := []) F (hX12_puts e12 (xl X) (xE X)) kX12_puts lX12_88 0 rfl rfl rfl rfl rfl ⟨(Nat.le_of_ble_eq_true rfl), (Nat.le_of_ble_eq_true rfl)⟩ (Nat.le_of_ble_eq_true rfl) dX12_adds_54 ?_
    refine g_aload_n (pc := 57) (x := em (xE X) 0) F dX12_adds_57 rfl 0 rfl ?_
    refine g_iload (pc := 58) (x := M.1 0 5) F dX12_adds_58 4 rfl ?_
    refine g_bipush (pc := 60) F dX12_adds_60 bp_6 ?_
    refine g_iconst (pc := 62) F dX12_adds_62 ic_0 ?_
    obtain ⟨M13, e14, h⟩ := bd_some h
    refine g_vV (pc := 63) (Wf := Wm) (As := [.int (M.1 0 5), .int (6 : Int32), .int (0 : Int32)]) (rest := []) F (hX12_puts e14 (xl X) (xE X)) kX12_puts lX12_88 0 rfl rfl rfl rfl rfl ⟨(Nat.le_of_ble_eq_true rfl), (Nat.le_of_ble_eq_true rfl)⟩ (Nat.le_of_ble_eq_true rfl) dX12_adds_63 ?_
    refine g_aload_n (pc := 66) (x := em (xE X) 0) F dX12_adds_66 rfl 0 rfl ?_
    refine g_get (pc := 67) (v := .ref (em (xE X) 1)) F fX12_7 0 rfl rfl dX12_adds_67 ?_
    refine g_iconst (pc := 70) F dX12_adds_70 ic_5 ?_
    refine g_dup2 (pc := 71) F dX12_adds_71 rfl rfl ?_
    refine g_iald (pc := 72) (N := 48) (fn := M13.1 0) (j := 5) F 1 0 rfl rfl vi_5_48 cl_5 dX12_adds_72 ?_
    refine g_iconst (pc := 73) F dX12_adds_73 ic_1 ?_
    refine g_iadd (pc := 74) F dX12_adds_74 ?_
    refine g_iast (pc := 75) (N := 48) (fn := M13.1 0) (j := 5) (ws2 := Wm (xE X) (sI M13 0 5 ((M13.1 0 5) + (1 : Int32)))) F 1 0 rfl rfl vi_5_48 cl_5 (wma_0 _ _ _ _) dX12_adds_75 ?_
    obtain rfl := Option.some.inj h
    exact g_vret (pc := 76) (Wf := Wm) F Rt dX12_adds_76) l E
set_option maxHeartbeats 4000000 in
set_option maxRecDepth 100000 in
theorem hX12_ship {M : Mem} {a1 : Int32} {a2 : Int32} {res : Int32 × Mem} (h : mX12_ship M a1 a2 = some res) (l : Launch) (E : Ev) : CtI l E (Wm E) yX12_ship cX12_ship 3 .int 2 47 [.ref (em E 0), .int a1, .int a2] M res.1 res.2 :=
  ctI_of (Wf := Wm) (av := fun E => [.ref (em E 0), .int a1, .int a2]) (lv := fun E => [(0, .ref (em E 0)), (1, .int a1), (2, .int a2)]) (by decide) (fun _ => rfl) (fun _ => (Nat.le_of_ble_eq_true rfl)) (fun X F hx Rt => by
    have F : Fx X cX12_ship RX12 2 47 := F
    unfold mX12_ship at h
    refine g_iload_n (pc := 0) (x := a1) F dX12_ship_0 rfl 1 rfl ?_
    obtain ⟨r1, e2, h⟩ := bd_some h
    refine g_sI (pc := 1) (Wf := Wm) (As := [.int a1]) (rest := []) F (hX12_isKind (M := M) e2 (xl X) (xE X)) kX12_isKind lX12_92 rfl rfl ⟨(Nat.le_of_ble_eq_true rfl), (Nat.le_of_ble_eq_true rfl)⟩ (Nat.le_of_ble_eq_true rfl) dX12_ship_1 ?_
    refine g_if_eq (pc := 4) (tgt := 14) F dX12_ship_4 (by decide) (fun c3 => ?_) (fun c3 => ?_)
    · have h := ite_t c3 h
      refine g_aload_n (pc := 14) (x := em (xE X) 0) F dX12_ship_14 rfl 0 rfl ?_
      refine g_ldc (pc := 15) F oX12_44 dX12_ship_15 ?_
      obtain ⟨q4, e5, h⟩ := bd_some h
      refine g_vI (pc := 17) (Wf := Wm) (As := [.int (-1000000001 : Int32)]) (rest := []) F (hX12_finds e5 (xl X) (xE X)) kX12_finds lX12_53 0 rfl rfl rfl rfl rfl ⟨(Nat.le_of_ble_eq_true rfl), (Nat.le_of_ble_eq_true rfl)⟩ (Nat.le_of_ble_eq_true rfl) dX12_ship_17 ?_
      obtain rfl := Option.some.inj h
      exact g_iret (pc := 20) (Wf := Wm) F Rt rfl dX12_ship_20
    · have h := ite_f c3 h
      refine g_iload_n (pc := 7) (x := a2) F dX12_ship_7 rfl 2 rfl ?_
      obtain ⟨r6, e7, h⟩ := bd_some h
      refine g_sI (pc := 8) (Wf := Wm) (As := [.int a2]) (rest := []) F (hX12_isRow (M := M) e7 (xl X) (xE X)) kX12_isRow lX12_49 rfl rfl ⟨(Nat.le_of_ble_eq_true rfl), (Nat.le_of_ble_eq_true rfl)⟩ (Nat.le_of_ble_eq_true rfl) dX12_ship_8 ?_
      refine g_if_ne (pc := 11) (tgt := 21) F dX12_ship_11 (by decide) (fun c8 => ?_) (fun c8 => ?_)
      · have h := ite_f c8 h
        refine g_aload_n (pc := 21) (x := em (xE X) 0) F dX12_ship_21 rfl 0 rfl ?_
        refine g_get (pc := 22) (v := .ref (em (xE X) 1)) F fX12_7 0 rfl rfl dX12_ship_22 ?_
        refine g_iconst (pc := 25) F dX12_ship_25 ic_5 ?_
        refine g_iald (pc := 26) (N := 48) (fn := M.1 0) (j := 5) F 1 0 rfl rfl vi_5_48 cl_5 dX12_ship_26 ?_
        refine g_bipush (pc := 27) F dX12_ship_27 bp_6 ?_
        refine g_icmp_ne (pc := 29) (tgt := 39) F dX12_ship_29 (by decide) (fun c9 => ?_) (fun c9 => ?_)
        · have h := ite_f c9 h
          refine g_aload_n (pc := 39) (x := em (xE X) 0) F dX12_ship_39 rfl 0 rfl ?_
          refine g_iload_n (pc := 40) (x := a1) F dX12_ship_40 rfl 1 rfl ?_
          refine g_iconst (pc := 41) F dX12_ship_41 ic_0 ?_
          refine g_iload_n (pc := 42) (x := a2) F dX12_ship_42 rfl 2 rfl ?_
          obtain ⟨M10, e11, h⟩ := bd_some h
          refine g_vV (pc := 43) (Wf := Wm) (As := [.int a1, .int (0 : Int32), .int a2]) (rest := []) F (hX12_adds e11 (xl X) (xE X)) kX12_adds lX12_96 0 rfl rfl rfl rfl rfl ⟨(Nat.le_of_ble_eq_true rfl), (Nat.le_of_ble_eq_true rfl)⟩ (Nat.le_of_ble_eq_true rfl) dX12_ship_43 ?_
          refine g_aload_n (pc := 46) (x := em (xE X) 0) F dX12_ship_46 rfl 0 rfl ?_
          refine g_get (pc := 47) (v := .ref (em (xE X) 1)) F fX12_7 0 rfl rfl dX12_ship_47 ?_
          refine g_iconst (pc := 50) F dX12_ship_50 ic_5 ?_
          refine g_iald (pc := 51) (N := 48) (fn := M10.1 0) (j := 5) F 1 0 rfl rfl vi_5_48 cl_5 dX12_ship_51 ?_
          refine g_iconst (pc := 52) F dX12_ship_52 ic_1 ?_
          refine g_isub (pc := 53) F dX12_ship_53 ?_
          obtain rfl := Option.some.inj h
          exact g_iret (pc := 54) (Wf := Wm) F Rt rfl dX12_ship_54
        · have h := ite_t c9 h
          refine g_aload_n (pc := 32) (x := em (xE X) 0) F dX12_ship_32 rfl 0 rfl ?_
          refine g_ldc (pc := 33) F oX12_95 dX12_ship_33 ?_
          obtain ⟨q12, e13, h⟩ := bd_some h
          refine g_vI (pc := 35) (Wf := Wm) (As := [.int (-1000000002 : Int32)]) (rest := []) F (hX12_finds e13 (xl X) (xE X)) kX12_finds lX12_53 0 rfl rfl rfl rfl rfl ⟨(Nat.le_of_ble_eq_true rfl), (Nat.le_of_ble_eq_true rfl)⟩ (Nat.le_of_ble_eq_true rfl) dX12_ship_35 ?_
          obtain rfl := Option.some.inj h
          exact g_iret (pc := 38) (Wf := Wm) F Rt rfl dX12_ship_38
      · have h := ite_t c8 h
        refine g_aload_n (pc := 14) (x := em (xE X) 0) F dX12_ship_14 rfl 0 rfl ?_
        refine g_ldc (pc := 15) F oX12_44 dX12_ship_15 ?_
        obtain ⟨q14, e15, h⟩ := bd_some h
        refine g_vI (pc := 17) (Wf := Wm) (As := [.int (-1000000001 : Int32)]) (rest := []) F (hX12_finds e15 (xl X) (xE X)) kX12_finds lX12_53 0 rfl rfl rfl rfl rfl ⟨(Nat.le_of_ble_eq_true rfl), (Nat.le_of_ble_eq_true rfl)⟩ (Nat.le_of_ble_eq_true rfl) dX12_ship_17 ?_
        obtain rfl := Option.some.inj h
        exact g_iret (pc := 20) (Wf := Wm) F Rt rfl dX12_ship_20) l E
set_option maxHeartbeats 4000000 in
set_option maxRecDepth 100000 in
theorem hX12_of {M : Mem} {a1 : Int32} {a2 : Int32} {res : Int32 × Mem} (h : mX12_of M a1 a2 = some res) (l : Launch) (E : Ev) : CtI l E (Wm E) yX12_of cX12_of 3 .int 3 69 [.ref (em E 0), .int a1, .int a2] M res.1 res.2 :=
  ctI_of (Wf := Wm) (av := fun E => [.ref (em E 0), .int a1, .int a2]) (lv := fun E => [(0, .ref (em E 0)), (1, .int a1), (2, .int a2)]) (by decide) (fun _ => rfl) (fun _ => (Nat.le_of_ble_eq_true rfl)) (fun X F hx Rt => by
    have F : Fx X cX12_of RX12 3 69 := F
    unfold mX12_of at h
    refine g_aload_n (pc := 0) (x := em (xE X) 0) F dX12_of_0 rfl 0 rfl ?_
    refine g_iload_n (pc := 1) (x := a1) F dX12_of_1 rfl 1 rfl ?_
    obtain ⟨r1, e2, h⟩ := bd_some h
    refine g_vI (pc := 2) (Wf := Wm) (As := [.int a1]) (rest := []) F (hX12_isOne e2 (xl X) (xE X)) kX12_isOne lX12_99 0 rfl rfl rfl rfl rfl ⟨(Nat.le_of_ble_eq_true rfl), (Nat.le_of_ble_eq_true rfl)⟩ (Nat.le_of_ble_eq_true rfl) dX12_of_2 ?_
    refine g_if_eq (pc := 5) (tgt := 18) F dX12_of_5 (by decide) (fun c3 => ?_) (fun c3 => ?_)
    · have h := ite_t c3 h
      refine g_aload_n (pc := 18) (x := em (xE X) 0) F dX12_of_18 rfl 0 rfl ?_
      refine g_ldc (pc := 19) F oX12_44 dX12_of_19 ?_
      obtain ⟨q4, e5, h⟩ := bd_some h
      refine g_vI (pc := 21) (Wf := Wm) (As := [.int (-1000000001 : Int32)]) (rest := []) F (hX12_finds e5 (xl X) (xE X)) kX12_finds lX12_53 0 rfl rfl rfl rfl rfl ⟨(Nat.le_of_ble_eq_true rfl), (Nat.le_of_ble_eq_true rfl)⟩ (Nat.le_of_ble_eq_true rfl) dX12_of_21 ?_
      obtain rfl := Option.some.inj h
      exact g_iret (pc := 24) (Wf := Wm) F Rt rfl dX12_of_24
    · have h := ite_f c3 h
      refine g_iload_n (pc := 8) (x := a2) F dX12_of_8 rfl 2 rfl ?_
      refine g_iconst (pc := 9) F dX12_of_9 ic_0 ?_
      refine g_bipush (pc := 10) F dX12_of_10 bp_11 ?_
      obtain ⟨r6, e7, h⟩ := bd_some h
      refine g_sI (pc := 12) (Wf := Wm) (As := [.int a2, .int (0 : Int32), .int (11 : Int32)]) (rest := []) F (hX12_in (M := M) e7 (xl X) (xE X)) kX12_in lX12_45 rfl rfl ⟨(Nat.le_of_ble_eq_true rfl), (Nat.le_of_ble_eq_true rfl)⟩ (Nat.le_of_ble_eq_true rfl) dX12_of_12 ?_
      refine g_if_ne (pc := 15) (tgt := 25) F dX12_of_15 (by decide) (fun c8 => ?_) (fun c8 => ?_)
      · have h := ite_f c8 h
        refine g_iload_n (pc := 25) (x := a2) F dX12_of_25 rfl 2 rfl ?_
        by_cases c9 : a2 = (7 : Int32)
        · have h := ite_t c9 h
          refine g_tswIn (pc := 26) (tgt := 60) (v := 7) F dX12_of_26 (by rw [c9]; decide) (by decide) (by decide) rfl (by decide) ?_
          refine g_aload_n (pc := 60) (x := em (xE X) 0) F dX12_of_60 rfl 0 rfl ?_
          refine g_iload_n (pc := 61) (x := a1) F dX12_of_61 rfl 1 rfl ?_
          obtain ⟨r14, e15, h⟩ := bd_some h
          refine g_vI (pc := 62) (Wf := Wm) (As := [.int a1]) (rest := []) F (hX12_distance e15 (xl X) (xE X)) kX12_distance lX12_85 0 rfl rfl rfl rfl rfl ⟨(Nat.le_of_ble_eq_true rfl), (Nat.le_of_ble_eq_true rfl)⟩ (Nat.le_of_ble_eq_true rfl) dX12_of_62 ?_
          obtain rfl := Option.some.inj h
          exact g_iret (pc := 65) (Wf := Wm) F Rt rfl dX12_of_65
        · have h := ite_f c9 h
          by_cases c10 : a2 = (8 : Int32)
          · have h := ite_t c10 h
            refine g_tswIn (pc := 26) (tgt := 66) (v := 8) F dX12_of_26 (by rw [c10]; decide) (by decide) (by decide) rfl (by decide) ?_
            refine g_aload_n (pc := 66) (x := em (xE X) 0) F dX12_of_66 rfl 0 rfl ?_
            refine g_iload_n (pc := 67) (x := a1) F dX12_of_67 rfl 1 rfl ?_
            obtain ⟨r16, e17, h⟩ := bd_some h
            refine g_vI (pc := 68) (Wf := Wm) (As := [.int a1]) (rest := []) F (hX12_isSeeing e17 (xl X) (xE X)) kX12_isSeeing lX12_102 0 rfl rfl rfl rfl rfl ⟨(Nat.le_of_ble_eq_true rfl), (Nat.le_of_ble_eq_true rfl)⟩ (Nat.le_of_ble_eq_true rfl) dX12_of_68 ?_
            refine g_if_eq (pc := 71) (tgt := 78) F dX12_of_71 (by decide) (fun c18 => ?_) (fun c18 => ?_)
            · have h := ite_t c18 h
              refine g_iconst (pc := 78) F dX12_of_78 ic_0 ?_
              obtain rfl := Option.some.inj h
              exact g_iret (pc := 79) (Wf := Wm) F Rt rfl dX12_of_79
            · have h := ite_f c18 h
              refine g_iconst (pc := 74) F dX12_of_74 ic_1 ?_
              refine g_goto (pc := 75) (tgt := 79) F dX12_of_75 (by decide) ?_
              obtain rfl := Option.some.inj h
              exact g_iret (pc := 79) (Wf := Wm) F Rt rfl dX12_of_79
          · have h := ite_f c10 h
            by_cases c11 : a2 = (9 : Int32)
            · have h := ite_t c11 h
              refine g_tswIn (pc := 26) (tgt := 80) (v := 9) F dX12_of_26 (by rw [c11]; decide) (by decide) (by decide) rfl (by decide) ?_
              refine g_aload_n (pc := 80) (x := em (xE X) 0) F dX12_of_80 rfl 0 rfl ?_
              refine g_iload_n (pc := 81) (x := a1) F dX12_of_81 rfl 1 rfl ?_
              obtain ⟨r19, e20, h⟩ := bd_some h
              refine g_vI (pc := 82) (Wf := Wm) (As := [.int a1]) (rest := []) F (hX12_speed e20 (xl X) (xE X)) kX12_speed lX12_105 0 rfl rfl rfl rfl rfl ⟨(Nat.le_of_ble_eq_true rfl), (Nat.le_of_ble_eq_true rfl)⟩ (Nat.le_of_ble_eq_true rfl) dX12_of_82 ?_
              obtain rfl := Option.some.inj h
              exact g_iret (pc := 85) (Wf := Wm) F Rt rfl dX12_of_85
            · have h := ite_f c11 h
              by_cases c12 : a2 = (10 : Int32)
              · have h := ite_t c12 h
                refine g_tswIn (pc := 26) (tgt := 86) (v := 10) F dX12_of_26 (by rw [c12]; decide) (by decide) (by decide) rfl (by decide) ?_
                refine g_bipush (pc := 86) F dX12_of_86 bp_100 ?_
                refine g_aload_n (pc := 88) (x := em (xE X) 0) F dX12_of_88 rfl 0 rfl ?_
                refine g_iload_n (pc := 89) (x := a1) F dX12_of_89 rfl 1 rfl ?_
                obtain ⟨r21, e22, h⟩ := bd_some h
                refine g_vI (pc := 90) (Wf := Wm) (As := [.int a1]) (rest := [.int (100 : Int32)]) F (hX12_keepsOff e22 (xl X) (xE X)) kX12_keepsOff lX12_108 0 rfl rfl rfl rfl rfl ⟨(Nat.le_of_ble_eq_true rfl), (Nat.le_of_ble_eq_true rfl)⟩ (Nat.le_of_ble_eq_true rfl) dX12_of_90 ?_
                refine g_iadd (pc := 93) F dX12_of_93 ?_
                obtain rfl := Option.some.inj h
                exact g_iret (pc := 94) (Wf := Wm) F Rt rfl dX12_of_94
              · have h := ite_f c12 h
                by_cases c13 : a2 = (11 : Int32)
                · have h := ite_t c13 h
                  refine g_tswIn (pc := 26) (tgt := 95) (v := 11) F dX12_of_26 (by rw [c13]; decide) (by decide) (by decide) rfl (by decide) ?_
                  refine g_aload_n (pc := 95) (x := em (xE X) 0) F dX12_of_95 rfl 0 rfl ?_
                  refine g_iload_n (pc := 96) (x := a1) F dX12_of_96 rfl 1 rfl ?_
                  obtain ⟨r23, e24, h⟩ := bd_some h
                  refine g_vI (pc := 97) (Wf := Wm) (As := [.int a1]) (rest := []) F (hX12_isStanding e24 (xl X) (xE X)) kX12_isStanding lX12_111 0 rfl rfl rfl rfl rfl ⟨(Nat.le_of_ble_eq_true rfl), (Nat.le_of_ble_eq_true rfl)⟩ (Nat.le_of_ble_eq_true rfl) dX12_of_97 ?_
                  refine g_if_eq (pc := 100) (tgt := 107) F dX12_of_100 (by decide) (fun c25 => ?_) (fun c25 => ?_)
                  · have h := ite_t c25 h
                    refine g_iconst (pc := 107) F dX12_of_107 ic_0 ?_
                    obtain rfl := Option.some.inj h
                    exact g_iret (pc := 108) (Wf := Wm) F Rt rfl dX12_of_108
                  · have h := ite_f c25 h
                    refine g_iconst (pc := 103) F dX12_of_103 ic_1 ?_
                    refine g_goto (pc := 104) (tgt := 108) F dX12_of_104 (by decide) ?_
                    obtain rfl := Option.some.inj h
                    exact g_iret (pc := 108) (Wf := Wm) F Rt rfl dX12_of_108
                · have h := ite_f c13 h
                  refine g_tswOut (pc := 26) (tgt := 109) F dX12_of_26 (by have z0 := lv_neT (a := 7) c9 (by decide); have z1 := lv_neT (a := 8) c10 (by decide); have z2 := lv_neT (a := 9) c11 (by decide); have z3 := lv_neT (a := 10) c12 (by decide); have z4 := lv_neT (a := 11) c13 (by decide); omega) (by decide) ?_
                  refine g_aload_n (pc := 109) (x := em (xE X) 0) F dX12_of_109 rfl 0 rfl ?_
                  refine g_iload_n (pc := 110) (x := a1) F dX12_of_110 rfl 1 rfl ?_
                  refine g_iload_n (pc := 111) (x := a2) F dX12_of_111 rfl 2 rfl ?_
                  obtain ⟨r26, e27, h⟩ := bd_some h
                  refine g_vI (pc := 112) (Wf := Wm) (As := [.int a1, .int a2]) (rest := []) F (hX12_its e27 (xl X) (xE X)) kX12_its lX12_69 0 rfl rfl rfl rfl rfl ⟨(Nat.le_of_ble_eq_true rfl), (Nat.le_of_ble_eq_true rfl)⟩ (Nat.le_of_ble_eq_true rfl) dX12_of_112 ?_
                  obtain rfl := Option.some.inj h
                  exact g_iret (pc := 115) (Wf := Wm) F Rt rfl dX12_of_115
      · have h := ite_t c8 h
        refine g_aload_n (pc := 18) (x := em (xE X) 0) F dX12_of_18 rfl 0 rfl ?_
        refine g_ldc (pc := 19) F oX12_44 dX12_of_19 ?_
        obtain ⟨q28, e29, h⟩ := bd_some h
        refine g_vI (pc := 21) (Wf := Wm) (As := [.int (-1000000001 : Int32)]) (rest := []) F (hX12_finds e29 (xl X) (xE X)) kX12_finds lX12_53 0 rfl rfl rfl rfl rfl ⟨(Nat.le_of_ble_eq_true rfl), (Nat.le_of_ble_eq_true rfl)⟩ (Nat.le_of_ble_eq_true rfl) dX12_of_21 ?_
        obtain rfl := Option.some.inj h
        exact g_iret (pc := 24) (Wf := Wm) F Rt rfl dX12_of_24) l E
set_option maxHeartbeats 4000000 in
set_option maxRecDepth 100000 in
theorem hX12_isPart {M : Mem} {a0 : Int32} {a1 : Int32} {res : Int32} (h : mX12_isPart a0 a1 = some res) (l : Launch) (E : Ev) : CtI l E (Wm E) yX12_isPart cX12_isPart 2 .boolean 2 42 [.int a0, .int a1] M res M :=
  ctI_of (Wf := Wm) (av := fun E => [.int a0, .int a1]) (lv := fun E => [(0, .int a0), (1, .int a1)]) (by decide) (fun _ => rfl) (fun _ => (Nat.le_of_ble_eq_true rfl)) (fun X F hx Rt => by
    have F : Fx X cX12_isPart RX12 2 42 := F
    unfold mX12_isPart at h
    refine g_iload_n (pc := 0) (x := a0) F dX12_isPart_0 rfl 0 rfl ?_
    by_cases c1 : a0 = (1 : Int32)
    · have h := ite_t c1 h
      refine g_tswIn (pc := 1) (tgt := 28) (v := 1) F dX12_isPart_1 (by rw [c1]; decide) (by decide) (by decide) rfl (by decide) ?_
      refine g_iload_n (pc := 28) (x := a1) F dX12_isPart_28 rfl 1 rfl ?_
      refine g_iconst (pc := 29) F dX12_isPart_29 ic_0 ?_
      refine g_bipush (pc := 30) F dX12_isPart_30 bp_19 ?_
      obtain ⟨r4, e5, h⟩ := bd_some h
      refine g_sI (pc := 32) (Wf := Wm) (As := [.int a1, .int (0 : Int32), .int (19 : Int32)]) (rest := []) F (hX12_in (M := M) e5 (xl X) (xE X)) kX12_in lX12_45 rfl rfl ⟨(Nat.le_of_ble_eq_true rfl), (Nat.le_of_ble_eq_true rfl)⟩ (Nat.le_of_ble_eq_true rfl) dX12_isPart_32 ?_
      obtain ⟨b6, h⟩ := ck_some h
      obtain rfl := Option.some.inj h
      exact g_iret (pc := 35) (Wf := Wm) F Rt (nb01 b6).1 dX12_isPart_35
    · have h := ite_f c1 h
      by_cases c2 : a0 = (2 : Int32)
      · have h := ite_t c2 h
        refine g_tswIn (pc := 1) (tgt := 36) (v := 2) F dX12_isPart_1 (by rw [c2]; decide) (by decide) (by decide) rfl (by decide) ?_
        refine g_iload_n (pc := 36) (x := a1) F dX12_isPart_36 rfl 1 rfl ?_
        obtain ⟨r7, e8, h⟩ := bd_some h
        refine g_sI (pc := 37) (Wf := Wm) (As := [.int a1]) (rest := []) F (hX12_isRow (M := M) e8 (xl X) (xE X)) kX12_isRow lX12_49 rfl rfl ⟨(Nat.le_of_ble_eq_true rfl), (Nat.le_of_ble_eq_true rfl)⟩ (Nat.le_of_ble_eq_true rfl) dX12_isPart_37 ?_
        obtain ⟨b9, h⟩ := ck_some h
        obtain rfl := Option.some.inj h
        exact g_iret (pc := 40) (Wf := Wm) F Rt (nb01 b9).1 dX12_isPart_40
      · have h := ite_f c2 h
        by_cases c3 : a0 = (3 : Int32)
        · have h := ite_t c3 h
          refine g_tswIn (pc := 1) (tgt := 41) (v := 3) F dX12_isPart_1 (by rw [c3]; decide) (by decide) (by decide) rfl (by decide) ?_
          refine g_iload_n (pc := 41) (x := a1) F dX12_isPart_41 rfl 1 rfl ?_
          refine g_iconst (pc := 42) F dX12_isPart_42 ic_0 ?_
          refine g_sipush (pc := 43) F dX12_isPart_43 sp_9999 ?_
          obtain ⟨r10, e11, h⟩ := bd_some h
          refine g_sI (pc := 46) (Wf := Wm) (As := [.int a1, .int (0 : Int32), .int (9999 : Int32)]) (rest := []) F (hX12_in (M := M) e11 (xl X) (xE X)) kX12_in lX12_45 rfl rfl ⟨(Nat.le_of_ble_eq_true rfl), (Nat.le_of_ble_eq_true rfl)⟩ (Nat.le_of_ble_eq_true rfl) dX12_isPart_46 ?_
          obtain ⟨b12, h⟩ := ck_some h
          obtain rfl := Option.some.inj h
          exact g_iret (pc := 49) (Wf := Wm) F Rt (nb01 b12).1 dX12_isPart_49
        · have h := ite_f c3 h
          refine g_tswOut (pc := 1) (tgt := 50) F dX12_isPart_1 (by have z0 := lv_neT (a := 1) c1 (by decide); have z1 := lv_neT (a := 2) c2 (by decide); have z2 := lv_neT (a := 3) c3 (by decide); omega) (by decide) ?_
          refine g_iload_n (pc := 50) (x := a0) F dX12_isPart_50 rfl 0 rfl ?_
          refine g_iconst (pc := 51) F dX12_isPart_51 ic_4 ?_
          refine g_icmp_ne (pc := 52) (tgt := 69) F dX12_isPart_52 (by decide) (fun c13 => ?_) (fun c13 => ?_)
          · have h := ite_f c13 h
            refine g_iconst (pc := 69) F dX12_isPart_69 ic_0 ?_
            obtain rfl := Option.some.inj h
            exact g_iret (pc := 70) (Wf := Wm) F Rt (by decide) dX12_isPart_70
          · have h := ite_t c13 h
            refine g_iload_n (pc := 55) (x := a1) F dX12_isPart_55 rfl 1 rfl ?_
            refine g_iconst (pc := 56) F dX12_isPart_56 ic_0 ?_
            refine g_bipush (pc := 57) F dX12_isPart_57 bp_99 ?_
            obtain ⟨r14, e15, h⟩ := bd_some h
            refine g_sI (pc := 59) (Wf := Wm) (As := [.int a1, .int (0 : Int32), .int (99 : Int32)]) (rest := []) F (hX12_in (M := M) e15 (xl X) (xE X)) kX12_in lX12_45 rfl rfl ⟨(Nat.le_of_ble_eq_true rfl), (Nat.le_of_ble_eq_true rfl)⟩ (Nat.le_of_ble_eq_true rfl) dX12_isPart_59 ?_
            refine g_if_eq (pc := 62) (tgt := 69) F dX12_isPart_62 (by decide) (fun c16 => ?_) (fun c16 => ?_)
            · have h := ite_t c16 h
              refine g_iconst (pc := 69) F dX12_isPart_69 ic_0 ?_
              obtain rfl := Option.some.inj h
              exact g_iret (pc := 70) (Wf := Wm) F Rt (by decide) dX12_isPart_70
            · have h := ite_f c16 h
              refine g_iconst (pc := 65) F dX12_isPart_65 ic_1 ?_
              refine g_goto (pc := 66) (tgt := 70) F dX12_isPart_66 (by decide) ?_
              obtain rfl := Option.some.inj h
              exact g_iret (pc := 70) (Wf := Wm) F Rt (by decide) dX12_isPart_70) l E
set_option maxHeartbeats 4000000 in
set_option maxRecDepth 100000 in
theorem wX12_set_b43 {X : Cx} (F : Fx X cX12_set RX12 3 63) (hx : xn X = 4) {res : Int32 × Mem} (Rt : RI X Wm .int res.1 res.2) : ∀ (M : Mem) (a1 : Int32) (a2 : Int32) (a3 : Int32), mX12_set_b43 M a1 a2 a3 = some res → G X (Wm (xE X) M) 43 [(0, .ref (em (xE X) 0)), (1, .int a1), (2, .int a2), (3, .int a3)] [] := by
  intro M a1 a2 a3 h
  unfold mX12_set_b43 at h
  refine g_aload_n (pc := 43) (x := em (xE X) 0) F dX12_set_43 rfl 0 rfl ?_
  refine g_bipush (pc := 44) F dX12_set_44 bp_6 ?_
  refine g_bipush (pc := 46) F dX12_set_46 bp_7 ?_
  refine g_iload_n (pc := 48) (x := a1) F dX12_set_48 rfl 1 rfl ?_
  refine g_imul (pc := 49) F dX12_set_49 ?_
  refine g_iadd (pc := 50) F dX12_set_50 ?_
  refine g_iload_n (pc := 51) (x := a2) F dX12_set_51 rfl 2 rfl ?_
  refine g_iadd (pc := 52) F dX12_set_52 ?_
  refine g_iload_n (pc := 53) (x := a3) F dX12_set_53 rfl 3 rfl ?_
  obtain ⟨q10, e11, h⟩ := bd_some h
  refine g_vI (pc := 54) (Wf := Wm) (As := [.int (((6 : Int32) + ((7 : Int32) * a1)) + a2), .int a3]) (rest := []) F (hX12_becomes e11 (xl X) (xE X)) kX12_becomes lX12_65 0 rfl rfl rfl rfl rfl ⟨(Nat.le_of_ble_eq_true rfl), (Nat.le_of_ble_eq_true rfl)⟩ (Nat.le_of_ble_eq_true rfl) dX12_set_54 ?_
  obtain rfl := Option.some.inj h
  exact g_iret (pc := 57) (Wf := Wm) F Rt rfl dX12_set_57
set_option maxHeartbeats 4000000 in
set_option maxRecDepth 100000 in
theorem hX12_set {M : Mem} {a1 : Int32} {a2 : Int32} {a3 : Int32} {res : Int32 × Mem} (h : mX12_set M a1 a2 a3 = some res) (l : Launch) (E : Ev) : CtI l E (Wm E) yX12_set cX12_set 4 .int 3 63 [.ref (em E 0), .int a1, .int a2, .int a3] M res.1 res.2 :=
  ctI_of (Wf := Wm) (av := fun E => [.ref (em E 0), .int a1, .int a2, .int a3]) (lv := fun E => [(0, .ref (em E 0)), (1, .int a1), (2, .int a2), (3, .int a3)]) (by decide) (fun _ => rfl) (fun _ => (Nat.le_of_ble_eq_true rfl)) (fun X F hx Rt => by
    have F : Fx X cX12_set RX12 3 63 := F
    unfold mX12_set at h
    refine g_aload_n (pc := 0) (x := em (xE X) 0) F dX12_set_0 rfl 0 rfl ?_
    refine g_iload_n (pc := 1) (x := a1) F dX12_set_1 rfl 1 rfl ?_
    obtain ⟨r1, e2, h⟩ := bd_some h
    refine g_vI (pc := 2) (Wf := Wm) (As := [.int a1]) (rest := []) F (hX12_isOne e2 (xl X) (xE X)) kX12_isOne lX12_99 0 rfl rfl rfl rfl rfl ⟨(Nat.le_of_ble_eq_true rfl), (Nat.le_of_ble_eq_true rfl)⟩ (Nat.le_of_ble_eq_true rfl) dX12_set_2 ?_
    refine g_if_eq (pc := 5) (tgt := 16) F dX12_set_5 (by decide) (fun c3 => ?_) (fun c3 => ?_)
    · have h := ite_t c3 h
      refine g_aload_n (pc := 16) (x := em (xE X) 0) F dX12_set_16 rfl 0 rfl ?_
      refine g_ldc (pc := 17) F oX12_44 dX12_set_17 ?_
      obtain ⟨q4, e5, h⟩ := bd_some h
      refine g_vI (pc := 19) (Wf := Wm) (As := [.int (-1000000001 : Int32)]) (rest := []) F (hX12_finds e5 (xl X) (xE X)) kX12_finds lX12_53 0 rfl rfl rfl rfl rfl ⟨(Nat.le_of_ble_eq_true rfl), (Nat.le_of_ble_eq_true rfl)⟩ (Nat.le_of_ble_eq_true rfl) dX12_set_19 ?_
      obtain rfl := Option.some.inj h
      exact g_iret (pc := 22) (Wf := Wm) F Rt rfl dX12_set_22
    · have h := ite_f c3 h
      refine g_iload_n (pc := 8) (x := a2) F dX12_set_8 rfl 2 rfl ?_
      refine g_iload_n (pc := 9) (x := a3) F dX12_set_9 rfl 3 rfl ?_
      obtain ⟨r6, e7, h⟩ := bd_some h
      refine g_sI (pc := 10) (Wf := Wm) (As := [.int a2, .int a3]) (rest := []) F (hX12_isPart (M := M) e7 (xl X) (xE X)) kX12_isPart lX12_114 rfl rfl ⟨(Nat.le_of_ble_eq_true rfl), (Nat.le_of_ble_eq_true rfl)⟩ (Nat.le_of_ble_eq_true rfl) dX12_set_10 ?_
      refine g_if_ne (pc := 13) (tgt := 23) F dX12_set_13 (by decide) (fun c8 => ?_) (fun c8 => ?_)
      · have h := ite_f c8 h
        refine g_iload_n (pc := 23) (x := a2) F dX12_set_23 rfl 2 rfl ?_
        refine g_iconst (pc := 24) F dX12_set_24 ic_1 ?_
        refine g_icmp_ne (pc := 25) (tgt := 43) F dX12_set_25 (by decide) (fun c9 => ?_) (fun c9 => ?_)
        · have h := ite_f c9 h
          refine g_sub [0, 1, 2, 3] rfl ?_
          exact wX12_set_b43 F hx Rt M a1 a2 a3 h
        · have h := ite_t c9 h
          refine g_aload_n (pc := 28) (x := em (xE X) 0) F dX12_set_28 rfl 0 rfl ?_
          refine g_iload_n (pc := 29) (x := a1) F dX12_set_29 rfl 1 rfl ?_
          refine g_iconst (pc := 30) F dX12_set_30 ic_5 ?_
          refine g_iconst (pc := 31) F dX12_set_31 ic_0 ?_
          obtain ⟨M12, e13, h⟩ := bd_some h
          refine g_vV (pc := 32) (Wf := Wm) (As := [.int a1, .int (5 : Int32), .int (0 : Int32)]) (rest := []) F (hX12_puts e13 (xl X) (xE X)) kX12_puts lX12_88 0 rfl rfl rfl rfl rfl ⟨(Nat.le_of_ble_eq_true rfl), (Nat.le_of_ble_eq_true rfl)⟩ (Nat.le_of_ble_eq_true rfl) dX12_set_32 ?_
          refine g_aload_n (pc := 35) (x := em (xE X) 0) F dX12_set_35 rfl 0 rfl ?_
          refine g_iload_n (pc := 36) (x := a1) F dX12_set_36 rfl 1 rfl ?_
          refine g_bipush (pc := 37) F dX12_set_37 bp_6 ?_
          refine g_iconst (pc := 39) F dX12_set_39 ic_0 ?_
          obtain ⟨M14, e15, h⟩ := bd_some h
          refine g_vV (pc := 40) (Wf := Wm) (As := [.int a1, .int (6 : Int32), .int (0 : Int32)]) (rest := []) F (hX12_puts e15 (xl X) (xE X)) kX12_puts lX12_88 0 rfl rfl rfl rfl rfl ⟨(Nat.le_of_ble_eq_true rfl), (Nat.le_of_ble_eq_true rfl)⟩ (Nat.le_of_ble_eq_true rfl) dX12_set_40 ?_
          refine g_sub [0, 1, 2, 3] rfl ?_
          exact wX12_set_b43 F hx Rt M14 a1 a2 a3 h
      · have h := ite_t c8 h
        refine g_aload_n (pc := 16) (x := em (xE X) 0) F dX12_set_16 rfl 0 rfl ?_
        refine g_ldc (pc := 17) F oX12_44 dX12_set_17 ?_
        obtain ⟨q16, e17, h⟩ := bd_some h
        refine g_vI (pc := 19) (Wf := Wm) (As := [.int (-1000000001 : Int32)]) (rest := []) F (hX12_finds e17 (xl X) (xE X)) kX12_finds lX12_53 0 rfl rfl rfl rfl rfl ⟨(Nat.le_of_ble_eq_true rfl), (Nat.le_of_ble_eq_true rfl)⟩ (Nat.le_of_ble_eq_true rfl) dX12_set_19 ?_
        obtain rfl := Option.some.inj h
        exact g_iret (pc := 22) (Wf := Wm) F Rt rfl dX12_set_22) l E
set_option maxHeartbeats 4000000 in
set_option maxRecDepth 100000 in
theorem hX12_turn {M : Mem} {a1 : Int32} {a2 : Int32} {res : Int32 × Mem} (h : mX12_turn M a1 a2 = some res) (l : Launch) (E : Ev) : CtI l E (Wm E) yX12_turn cX12_turn 3 .int 2 43 [.ref (em E 0), .int a1, .int a2] M res.1 res.2 :=
  ctI_of (Wf := Wm) (av := fun E => [.ref (em E 0), .int a1, .int a2]) (lv := fun E => [(0, .ref (em E 0)), (1, .int a1), (2, .int a2)]) (by decide) (fun _ => rfl) (fun _ => (Nat.le_of_ble_eq_true rfl)) (fun X F hx Rt => by
    have F : Fx X cX12_turn RX12 2 43 := F
    unfold mX12_turn at h
    refine g_aload_n (pc := 0) (x := em (xE X) 0) F dX12_turn_0 rfl 0 rfl ?_
    refine g_iload_n (pc := 1) (x := a1) F dX12_turn_1 rfl 1 rfl ?_
    obtain ⟨r1, e2, h⟩ := bd_some h
    refine g_vI (pc := 2) (Wf := Wm) (As := [.int a1]) (rest := []) F (hX12_isOne e2 (xl X) (xE X)) kX12_isOne lX12_99 0 rfl rfl rfl rfl rfl ⟨(Nat.le_of_ble_eq_true rfl), (Nat.le_of_ble_eq_true rfl)⟩ (Nat.le_of_ble_eq_true rfl) dX12_turn_2 ?_
    refine g_if_eq (pc := 5) (tgt := 30) F dX12_turn_5 (by decide) (fun c3 => ?_) (fun c3 => ?_)
    · have h := ite_t c3 h
      refine g_aload_n (pc := 30) (x := em (xE X) 0) F dX12_turn_30 rfl 0 rfl ?_
      refine g_ldc (pc := 31) F oX12_44 dX12_turn_31 ?_
      obtain ⟨q4, e5, h⟩ := bd_some h
      refine g_vI (pc := 33) (Wf := Wm) (As := [.int (-1000000001 : Int32)]) (rest := []) F (hX12_finds e5 (xl X) (xE X)) kX12_finds lX12_53 0 rfl rfl rfl rfl rfl ⟨(Nat.le_of_ble_eq_true rfl), (Nat.le_of_ble_eq_true rfl)⟩ (Nat.le_of_ble_eq_true rfl) dX12_turn_33 ?_
      obtain rfl := Option.some.inj h
      exact g_iret (pc := 36) (Wf := Wm) F Rt rfl dX12_turn_36
    · have h := ite_f c3 h
      refine g_iload_n (pc := 8) (x := a2) F dX12_turn_8 rfl 2 rfl ?_
      obtain ⟨r6, e7, h⟩ := bd_some h
      refine g_sI (pc := 9) (Wf := Wm) (As := [.int a2]) (rest := []) F (hX12_isKind (M := M) e7 (xl X) (xE X)) kX12_isKind lX12_92 rfl rfl ⟨(Nat.le_of_ble_eq_true rfl), (Nat.le_of_ble_eq_true rfl)⟩ (Nat.le_of_ble_eq_true rfl) dX12_turn_9 ?_
      refine g_if_eq (pc := 12) (tgt := 30) F dX12_turn_12 (by decide) (fun c8 => ?_) (fun c8 => ?_)
      · have h := ite_t c8 h
        refine g_aload_n (pc := 30) (x := em (xE X) 0) F dX12_turn_30 rfl 0 rfl ?_
        refine g_ldc (pc := 31) F oX12_44 dX12_turn_31 ?_
        obtain ⟨q9, e10, h⟩ := bd_some h
        refine g_vI (pc := 33) (Wf := Wm) (As := [.int (-1000000001 : Int32)]) (rest := []) F (hX12_finds e10 (xl X) (xE X)) kX12_finds lX12_53 0 rfl rfl rfl rfl rfl ⟨(Nat.le_of_ble_eq_true rfl), (Nat.le_of_ble_eq_true rfl)⟩ (Nat.le_of_ble_eq_true rfl) dX12_turn_33 ?_
        obtain rfl := Option.some.inj h
        exact g_iret (pc := 36) (Wf := Wm) F Rt rfl dX12_turn_36
      · have h := ite_f c8 h
        refine g_aload_n (pc := 15) (x := em (xE X) 0) F dX12_turn_15 rfl 0 rfl ?_
        refine g_bipush (pc := 16) F dX12_turn_16 bp_6 ?_
        refine g_bipush (pc := 18) F dX12_turn_18 bp_7 ?_
        refine g_iload_n (pc := 20) (x := a1) F dX12_turn_20 rfl 1 rfl ?_
        refine g_imul (pc := 21) F dX12_turn_21 ?_
        refine g_iadd (pc := 22) F dX12_turn_22 ?_
        refine g_iload_n (pc := 23) (x := a2) F dX12_turn_23 rfl 2 rfl ?_
        obtain ⟨q11, e12, h⟩ := bd_some h
        refine g_vI (pc := 24) (Wf := Wm) (As := [.int ((6 : Int32) + ((7 : Int32) * a1)), .int a2]) (rest := []) F (hX12_becomes e12 (xl X) (xE X)) kX12_becomes lX12_65 0 rfl rfl rfl rfl rfl ⟨(Nat.le_of_ble_eq_true rfl), (Nat.le_of_ble_eq_true rfl)⟩ (Nat.le_of_ble_eq_true rfl) dX12_turn_24 ?_
        refine g_goto (pc := 27) (tgt := 36) F dX12_turn_27 (by decide) ?_
        obtain rfl := Option.some.inj h
        exact g_iret (pc := 36) (Wf := Wm) F Rt rfl dX12_turn_36) l E
set_option maxHeartbeats 4000000 in
set_option maxRecDepth 100000 in
theorem wX12_as_b63 {X : Cx} (F : Fx X cX12_as RX12 2 43) (hx : xn X = 5) {res : Int32 × Mem} (Rt : RI X Wm .int res.1 res.2) : ∀ (M : Mem) (a1 : Int32) (s0 : Int32), mX12_as_b63 M a1 s0 = some res → G X (Wm (xE X) M) 63 [(0, .ref (em (xE X) 0)), (1, .int a1)] [.int s0] := by
  intro M a1 s0 h
  unfold mX12_as_b63 at h
  refine g_istore (pc := 63) (lv2 := [(0, .ref (em (xE X) 0)), (1, .int a1), (4, .int s0)]) F dX12_as_63 (by rw [hx]; decide) [1, 2, 0] rfl ?_
  refine g_iload (pc := 65) (x := s0) F dX12_as_65 2 rfl ?_
  refine g_if_eq (pc := 67) (tgt := 79) F dX12_as_67 (by decide) (fun c12 => ?_) (fun c12 => ?_)
  · have h := ite_t c12 h
    refine g_aload_n (pc := 79) (x := em (xE X) 0) F dX12_as_79 rfl 0 rfl ?_
    refine g_ldc (pc := 80) F oX12_118 dX12_as_80 ?_
    obtain ⟨q13, e14, h⟩ := bd_some h
    refine g_vI (pc := 82) (Wf := Wm) (As := [.int (-1000000003 : Int32)]) (rest := []) F (hX12_finds e14 (xl X) (xE X)) kX12_finds lX12_53 0 rfl rfl rfl rfl rfl ⟨(Nat.le_of_ble_eq_true rfl), (Nat.le_of_ble_eq_true rfl)⟩ (Nat.le_of_ble_eq_true rfl) dX12_as_82 ?_
    obtain rfl := Option.some.inj h
    exact g_iret (pc := 85) (Wf := Wm) F Rt rfl dX12_as_85
  · have h := ite_f c12 h
    refine g_aload_n (pc := 70) (x := em (xE X) 0) F dX12_as_70 rfl 0 rfl ?_
    refine g_iload_n (pc := 71) (x := a1) F dX12_as_71 rfl 1 rfl ?_
    refine g_iconst (pc := 72) F dX12_as_72 ic_3 ?_
    obtain ⟨r15, e16, h⟩ := bd_some h
    refine g_vI (pc := 73) (Wf := Wm) (As := [.int a1, .int (3 : Int32)]) (rest := []) F (hX12_its e16 (xl X) (xE X)) kX12_its lX12_69 0 rfl rfl rfl rfl rfl ⟨(Nat.le_of_ble_eq_true rfl), (Nat.le_of_ble_eq_true rfl)⟩ (Nat.le_of_ble_eq_true rfl) dX12_as_73 ?_
    refine g_goto (pc := 76) (tgt := 85) F dX12_as_76 (by decide) ?_
    obtain rfl := Option.some.inj h
    exact g_iret (pc := 85) (Wf := Wm) F Rt rfl dX12_as_85
set_option maxHeartbeats 4000000 in
set_option maxRecDepth 100000 in
theorem wX12_as_b58 {X : Cx} (F : Fx X cX12_as RX12 2 43) (hx : xn X = 5) {res : Int32 × Mem} (Rt : RI X Wm .int res.1 res.2) : ∀ (M : Mem) (a1 : Int32), mX12_as_b58 M a1 = some res → G X (Wm (xE X) M) 58 [(0, .ref (em (xE X) 0)), (1, .int a1)] [] := by
  intro M a1 h
  unfold mX12_as_b58 at h
  refine g_iconst (pc := 58) F dX12_as_58 ic_1 ?_
  refine g_goto (pc := 59) (tgt := 63) F dX12_as_59 (by decide) ?_
  refine g_sub [0, 1] rfl ?_
  exact wX12_as_b63 F hx Rt M a1 (1 : Int32) h
set_option maxHeartbeats 4000000 in
set_option maxRecDepth 100000 in
theorem wX12_as_b62 {X : Cx} (F : Fx X cX12_as RX12 2 43) (hx : xn X = 5) {res : Int32 × Mem} (Rt : RI X Wm .int res.1 res.2) : ∀ (M : Mem) (a1 : Int32), mX12_as_b62 M a1 = some res → G X (Wm (xE X) M) 62 [(0, .ref (em (xE X) 0)), (1, .int a1)] [] := by
  intro M a1 h
  unfold mX12_as_b62 at h
  refine g_iconst (pc := 62) F dX12_as_62 ic_0 ?_
  refine g_sub [0, 1] rfl ?_
  exact wX12_as_b63 F hx Rt M a1 (0 : Int32) h
set_option maxHeartbeats 4000000 in
set_option maxRecDepth 100000 in
theorem wX12_as_b48 {X : Cx} (F : Fx X cX12_as RX12 2 43) (hx : xn X = 5) {res : Int32 × Mem} (Rt : RI X Wm .int res.1 res.2) : ∀ (M : Mem) (a1 : Int32) (a2 : Int32) (a3 : Int32), mX12_as_b48 M a1 a2 a3 = some res → G X (Wm (xE X) M) 48 [(0, .ref (em (xE X) 0)), (1, .int a1), (2, .int a2), (3, .int a3)] [] := by
  intro M a1 a2 a3 h
  unfold mX12_as_b48 at h
  refine g_iload_n (pc := 48) (x := a2) F dX12_as_48 rfl 2 rfl ?_
  refine g_iconst (pc := 49) F dX12_as_49 ic_2 ?_
  refine g_icmp_ne (pc := 50) (tgt := 62) F dX12_as_50 (by decide) (fun c19 => ?_) (fun c19 => ?_)
  · have h := ite_f c19 h
    refine g_sub [0, 1] rfl ?_
    exact wX12_as_b62 F hx Rt M a1 h
  · have h := ite_t c19 h
    refine g_iload_n (pc := 53) (x := a3) F dX12_as_53 rfl 3 rfl ?_
    refine g_iconst (pc := 54) F dX12_as_54 ic_5 ?_
    refine g_icmp_ne (pc := 55) (tgt := 62) F dX12_as_55 (by decide) (fun c20 => ?_) (fun c20 => ?_)
    · have h := ite_f c20 h
      refine g_sub [0, 1] rfl ?_
      exact wX12_as_b62 F hx Rt M a1 h
    · have h := ite_t c20 h
      refine g_sub [0, 1] rfl ?_
      exact wX12_as_b58 F hx Rt M a1 h
set_option maxHeartbeats 4000000 in
set_option maxRecDepth 100000 in
theorem hX12_as {M : Mem} {a1 : Int32} {a2 : Int32} {res : Int32 × Mem} (h : mX12_as M a1 a2 = some res) (l : Launch) (E : Ev) : CtI l E (Wm E) yX12_as cX12_as 5 .int 2 43 [.ref (em E 0), .int a1, .int a2] M res.1 res.2 :=
  ctI_of (Wf := Wm) (av := fun E => [.ref (em E 0), .int a1, .int a2]) (lv := fun E => [(0, .ref (em E 0)), (1, .int a1), (2, .int a2)]) (by decide) (fun _ => rfl) (fun _ => (Nat.le_of_ble_eq_true rfl)) (fun X F hx Rt => by
    have F : Fx X cX12_as RX12 2 43 := F
    unfold mX12_as at h
    refine g_aload_n (pc := 0) (x := em (xE X) 0) F dX12_as_0 rfl 0 rfl ?_
    refine g_iload_n (pc := 1) (x := a1) F dX12_as_1 rfl 1 rfl ?_
    obtain ⟨r1, e2, h⟩ := bd_some h
    refine g_vI (pc := 2) (Wf := Wm) (As := [.int a1]) (rest := []) F (hX12_isOne e2 (xl X) (xE X)) kX12_isOne lX12_99 0 rfl rfl rfl rfl rfl ⟨(Nat.le_of_ble_eq_true rfl), (Nat.le_of_ble_eq_true rfl)⟩ (Nat.le_of_ble_eq_true rfl) dX12_as_2 ?_
    refine g_if_eq (pc := 5) (tgt := 15) F dX12_as_5 (by decide) (fun c3 => ?_) (fun c3 => ?_)
    · have h := ite_t c3 h
      refine g_aload_n (pc := 15) (x := em (xE X) 0) F dX12_as_15 rfl 0 rfl ?_
      refine g_ldc (pc := 16) F oX12_44 dX12_as_16 ?_
      obtain ⟨q4, e5, h⟩ := bd_some h
      refine g_vI (pc := 18) (Wf := Wm) (As := [.int (-1000000001 : Int32)]) (rest := []) F (hX12_finds e5 (xl X) (xE X)) kX12_finds lX12_53 0 rfl rfl rfl rfl rfl ⟨(Nat.le_of_ble_eq_true rfl), (Nat.le_of_ble_eq_true rfl)⟩ (Nat.le_of_ble_eq_true rfl) dX12_as_18 ?_
      obtain rfl := Option.some.inj h
      exact g_iret (pc := 21) (Wf := Wm) F Rt rfl dX12_as_21
    · have h := ite_f c3 h
      refine g_iload_n (pc := 8) (x := a2) F dX12_as_8 rfl 2 rfl ?_
      obtain ⟨r6, e7, h⟩ := bd_some h
      refine g_sI (pc := 9) (Wf := Wm) (As := [.int a2]) (rest := []) F (hX12_isKind (M := M) e7 (xl X) (xE X)) kX12_isKind lX12_92 rfl rfl ⟨(Nat.le_of_ble_eq_true rfl), (Nat.le_of_ble_eq_true rfl)⟩ (Nat.le_of_ble_eq_true rfl) dX12_as_9 ?_
      refine g_if_ne (pc := 12) (tgt := 22) F dX12_as_12 (by decide) (fun c8 => ?_) (fun c8 => ?_)
      · have h := ite_f c8 h
        refine g_aload_n (pc := 22) (x := em (xE X) 0) F dX12_as_22 rfl 0 rfl ?_
        refine g_iload_n (pc := 23) (x := a1) F dX12_as_23 rfl 1 rfl ?_
        refine g_iconst (pc := 24) F dX12_as_24 ic_0 ?_
        obtain ⟨r9, e10, h⟩ := bd_some h
        refine g_vI (pc := 25) (Wf := Wm) (As := [.int a1, .int (0 : Int32)]) (rest := []) F (hX12_its e10 (xl X) (xE X)) kX12_its lX12_69 0 rfl rfl rfl rfl rfl ⟨(Nat.le_of_ble_eq_true rfl), (Nat.le_of_ble_eq_true rfl)⟩ (Nat.le_of_ble_eq_true rfl) dX12_as_25 ?_
        refine g_istore_n (pc := 28) (lv2 := [(0, .ref (em (xE X) 0)), (1, .int a1), (2, .int a2), (3, .int r9)]) F dX12_as_28 rfl (by rw [hx]; decide) [1, 2, 3, 0] rfl ?_
        refine g_iload_n (pc := 29) (x := a2) F dX12_as_29 rfl 2 rfl ?_
        refine g_if_eq (pc := 30) (tgt := 58) F dX12_as_30 (by decide) (fun c11 => ?_) (fun c11 => ?_)
        · have h := ite_t c11 h
          refine g_sub [0, 1] rfl ?_
          exact wX12_as_b58 F hx Rt M a1 h
        · have h := ite_f c11 h
          refine g_iload_n (pc := 33) (x := a2) F dX12_as_33 rfl 2 rfl ?_
          refine g_iload_n (pc := 34) (x := r9) F dX12_as_34 rfl 3 rfl ?_
          refine g_icmp_eq (pc := 35) (tgt := 58) F dX12_as_35 (by decide) (fun c17 => ?_) (fun c17 => ?_)
          · have h := ite_t c17 h
            refine g_sub [0, 1] rfl ?_
            exact wX12_as_b58 F hx Rt M a1 h
          · have h := ite_f c17 h
            refine g_iload_n (pc := 38) (x := a2) F dX12_as_38 rfl 2 rfl ?_
            refine g_iconst (pc := 39) F dX12_as_39 ic_1 ?_
            refine g_icmp_ne (pc := 40) (tgt := 48) F dX12_as_40 (by decide) (fun c18 => ?_) (fun c18 => ?_)
            · have h := ite_f c18 h
              refine g_sub [0, 1, 2, 3] rfl ?_
              exact wX12_as_b48 F hx Rt M a1 a2 r9 h
            · have h := ite_t c18 h
              refine g_iload_n (pc := 43) (x := r9) F dX12_as_43 rfl 3 rfl ?_
              refine g_iconst (pc := 44) F dX12_as_44 ic_4 ?_
              refine g_icmp_eq (pc := 45) (tgt := 58) F dX12_as_45 (by decide) (fun c21 => ?_) (fun c21 => ?_)
              · have h := ite_t c21 h
                refine g_sub [0, 1] rfl ?_
                exact wX12_as_b58 F hx Rt M a1 h
              · have h := ite_f c21 h
                refine g_sub [0, 1, 2, 3] rfl ?_
                exact wX12_as_b48 F hx Rt M a1 a2 r9 h
      · have h := ite_t c8 h
        refine g_aload_n (pc := 15) (x := em (xE X) 0) F dX12_as_15 rfl 0 rfl ?_
        refine g_ldc (pc := 16) F oX12_44 dX12_as_16 ?_
        obtain ⟨q22, e23, h⟩ := bd_some h
        refine g_vI (pc := 18) (Wf := Wm) (As := [.int (-1000000001 : Int32)]) (rest := []) F (hX12_finds e23 (xl X) (xE X)) kX12_finds lX12_53 0 rfl rfl rfl rfl rfl ⟨(Nat.le_of_ble_eq_true rfl), (Nat.le_of_ble_eq_true rfl)⟩ (Nat.le_of_ble_eq_true rfl) dX12_as_18 ?_
        obtain rfl := Option.some.inj h
        exact g_iret (pc := 21) (Wf := Wm) F Rt rfl dX12_as_21) l E
set_option maxHeartbeats 4000000 in
set_option maxRecDepth 100000 in
theorem hX12_costs {M : Mem} {a1 : Int32} {res : Mem} (h : mX12_costs M a1 = some res) (l : Launch) (E : Ev) : CtV l E (Wm E) yX12_costs cX12_costs 2 1 23 [.ref (em E 0), .int a1] M res :=
  ctV_of (Wf := Wm) (av := fun E => [.ref (em E 0), .int a1]) (lv := fun E => [(0, .ref (em E 0)), (1, .int a1)]) (by decide) (fun _ => rfl) (fun _ => (Nat.le_of_ble_eq_true rfl)) (fun X F hx Rt => by
    have F : Fx X cX12_costs RX12 1 23 := F
    unfold mX12_costs at h
    refine g_aload_n (pc := 0) (x := em (xE X) 0) F dX12_costs_0 rfl 0 rfl ?_
    refine g_iload_n (pc := 1) (x := a1) F dX12_costs_1 rfl 1 rfl ?_
    refine g_iconst (pc := 2) F dX12_costs_2 ic_3 ?_
    refine g_aload_n (pc := 3) (x := em (xE X) 0) F dX12_costs_3 rfl 0 rfl ?_
    refine g_iload_n (pc := 4) (x := a1) F dX12_costs_4 rfl 1 rfl ?_
    refine g_iconst (pc := 5) F dX12_costs_5 ic_3 ?_
    obtain ⟨r1, e2, h⟩ := bd_some h
    refine g_vI (pc := 6) (Wf := Wm) (As := [.int a1, .int (3 : Int32)]) (rest := [.int (3 : Int32), .int a1, .ref (em (xE X) 0)]) F (hX12_its e2 (xl X) (xE X)) kX12_its lX12_69 0 rfl rfl rfl rfl rfl ⟨(Nat.le_of_ble_eq_true rfl), (Nat.le_of_ble_eq_true rfl)⟩ (Nat.le_of_ble_eq_true rfl) dX12_costs_6 ?_
    refine g_iconst (pc := 9) F dX12_costs_9 ic_1 ?_
    refine g_iadd (pc := 10) F dX12_costs_10 ?_
    refine g_iconst (pc := 11) F dX12_costs_11 ic_0 ?_
    refine g_sipush (pc := 12) F dX12_costs_12 sp_9999 ?_
    obtain ⟨r3, e4, h⟩ := bd_some h
    refine g_sI (pc := 15) (Wf := Wm) (As := [.int (r1 + (1 : Int32)), .int (0 : Int32), .int (9999 : Int32)]) (rest := [.int (3 : Int32), .int a1, .ref (em (xE X) 0)]) F (hX12_held (M := M) e4 (xl X) (xE X)) kX12_held lX12_119 rfl rfl ⟨(Nat.le_of_ble_eq_true rfl), (Nat.le_of_ble_eq_true rfl)⟩ (Nat.le_of_ble_eq_true rfl) dX12_costs_15 ?_
    obtain ⟨M5, e6, h⟩ := bd_some h
    refine g_vV (pc := 18) (Wf := Wm) (As := [.int a1, .int (3 : Int32), .int r3]) (rest := []) F (hX12_puts e6 (xl X) (xE X)) kX12_puts lX12_88 0 rfl rfl rfl rfl rfl ⟨(Nat.le_of_ble_eq_true rfl), (Nat.le_of_ble_eq_true rfl)⟩ (Nat.le_of_ble_eq_true rfl) dX12_costs_18 ?_
    obtain rfl := Option.some.inj h
    exact g_vret (pc := 21) (Wf := Wm) F Rt dX12_costs_21) l E
set_option maxHeartbeats 4000000 in
set_option maxRecDepth 100000 in
theorem wX12_turnsOff_b52 {X : Cx} (F : Fx X cX12_turnsOff RX12 3 66) (hx : xn X = 5) {res : Mem} (Rt : RV X Wm res) : ∀ (M : Mem) (a1 : Int32) (a3 : Int32) (s1 : Int32) (s2 : Int32) (s3 : Int32), mX12_turnsOff_b52 M a1 a3 s1 s2 s3 = some res → G X (Wm (xE X) M) 52 [(0, .ref (em (xE X) 0)), (1, .int a1), (3, .int a3)] [.int s3, .int s2, .int s1, .ref (em (xE X) 0)] := by
  intro M a1 a3 s1 s2 s3 h
  unfold mX12_turnsOff_b52 at h
  obtain ⟨M8, e9, h⟩ := bd_some h
  refine g_vV (pc := 52) (Wf := Wm) (As := [.int s1, .int s2, .int s3]) (rest := []) F (hX12_puts e9 (xl X) (xE X)) kX12_puts lX12_88 0 rfl rfl rfl rfl rfl ⟨(Nat.le_of_ble_eq_true rfl), (Nat.le_of_ble_eq_true rfl)⟩ (Nat.le_of_ble_eq_true rfl) dX12_turnsOff_52 ?_
  refine g_aload_n (pc := 55) (x := em (xE X) 0) F dX12_turnsOff_55 rfl 0 rfl ?_
  refine g_iload_n (pc := 56) (x := a1) F dX12_turnsOff_56 rfl 1 rfl ?_
  refine g_iconst (pc := 57) F dX12_turnsOff_57 ic_2 ?_
  obtain ⟨r10, e11, h⟩ := bd_some h
  refine g_vI (pc := 58) (Wf := Wm) (As := [.int a1, .int (2 : Int32)]) (rest := []) F (hX12_its e11 (xl X) (xE X)) kX12_its lX12_69 0 rfl rfl rfl rfl rfl ⟨(Nat.le_of_ble_eq_true rfl), (Nat.le_of_ble_eq_true rfl)⟩ (Nat.le_of_ble_eq_true rfl) dX12_turnsOff_58 ?_
  refine g_iload_n (pc := 61) (x := a3) F dX12_turnsOff_61 rfl 2 rfl ?_
  refine g_icmp_eq (pc := 62) (tgt := 70) F dX12_turnsOff_62 (by decide) (fun c12 => ?_) (fun c12 => ?_)
  · have h := ite_t c12 h
    obtain rfl := Option.some.inj h
    exact g_vret (pc := 70) (Wf := Wm) F Rt dX12_turnsOff_70
  · have h := ite_f c12 h
    refine g_aload_n (pc := 65) (x := em (xE X) 0) F dX12_turnsOff_65 rfl 0 rfl ?_
    refine g_iload_n (pc := 66) (x := a1) F dX12_turnsOff_66 rfl 1 rfl ?_
    obtain ⟨M13, e14, h⟩ := bd_some h
    refine g_vV (pc := 67) (Wf := Wm) (As := [.int a1]) (rest := []) F (hX12_costs e14 (xl X) (xE X)) kX12_costs lX12_123 0 rfl rfl rfl rfl rfl ⟨(Nat.le_of_ble_eq_true rfl), (Nat.le_of_ble_eq_true rfl)⟩ (Nat.le_of_ble_eq_true rfl) dX12_turnsOff_67 ?_
    obtain rfl := Option.some.inj h
    exact g_vret (pc := 70) (Wf := Wm) F Rt dX12_turnsOff_70
set_option maxHeartbeats 4000000 in
set_option maxRecDepth 100000 in
theorem hX12_turnsOff {M : Mem} {a1 : Int32} {res : Mem} (h : mX12_turnsOff M a1 = some res) (l : Launch) (E : Ev) : CtV l E (Wm E) yX12_turnsOff cX12_turnsOff 5 3 66 [.ref (em E 0), .int a1] M res :=
  ctV_of (Wf := Wm) (av := fun E => [.ref (em E 0), .int a1]) (lv := fun E => [(0, .ref (em E 0)), (1, .int a1)]) (by decide) (fun _ => rfl) (fun _ => (Nat.le_of_ble_eq_true rfl)) (fun X F hx Rt => by
    have F : Fx X cX12_turnsOff RX12 3 66 := F
    unfold mX12_turnsOff at h
    refine g_aload_n (pc := 0) (x := em (xE X) 0) F dX12_turnsOff_0 rfl 0 rfl ?_
    refine g_iload_n (pc := 1) (x := a1) F dX12_turnsOff_1 rfl 1 rfl ?_
    obtain ⟨r1, e2, h⟩ := bd_some h
    refine g_vI (pc := 2) (Wf := Wm) (As := [.int a1]) (rest := []) F (hX12_keepsOff e2 (xl X) (xE X)) kX12_keepsOff lX12_108 0 rfl rfl rfl rfl rfl ⟨(Nat.le_of_ble_eq_true rfl), (Nat.le_of_ble_eq_true rfl)⟩ (Nat.le_of_ble_eq_true rfl) dX12_turnsOff_2 ?_
    refine g_istore_n (pc := 5) (lv2 := [(0, .ref (em (xE X) 0)), (1, .int a1), (2, .int r1)]) F dX12_turnsOff_5 rfl (by rw [hx]; decide) [1, 2, 0] rfl ?_
    refine g_aload_n (pc := 6) (x := em (xE X) 0) F dX12_turnsOff_6 rfl 0 rfl ?_
    refine g_iload_n (pc := 7) (x := a1) F dX12_turnsOff_7 rfl 1 rfl ?_
    refine g_iconst (pc := 8) F dX12_turnsOff_8 ic_2 ?_
    obtain ⟨r3, e4, h⟩ := bd_some h
    refine g_vI (pc := 9) (Wf := Wm) (As := [.int a1, .int (2 : Int32)]) (rest := []) F (hX12_its e4 (xl X) (xE X)) kX12_its lX12_69 0 rfl rfl rfl rfl rfl ⟨(Nat.le_of_ble_eq_true rfl), (Nat.le_of_ble_eq_true rfl)⟩ (Nat.le_of_ble_eq_true rfl) dX12_turnsOff_9 ?_
    refine g_istore_n (pc := 12) (lv2 := [(0, .ref (em (xE X) 0)), (1, .int a1), (2, .int r1), (3, .int r3)]) F dX12_turnsOff_12 rfl (by rw [hx]; decide) [1, 2, 3, 0] rfl ?_
    refine g_aload_n (pc := 13) (x := em (xE X) 0) F dX12_turnsOff_13 rfl 0 rfl ?_
    refine g_get (pc := 14) (v := .ref (em (xE X) 1)) F fX12_7 0 rfl rfl dX12_turnsOff_14 ?_
    refine g_iconst (pc := 17) F dX12_turnsOff_17 ic_2 ?_
    refine g_iald (pc := 18) (N := 48) (fn := M.1 0) (j := 2) F 1 0 rfl rfl vi_2_48 cl_2 dX12_turnsOff_18 ?_
    refine g_istore (pc := 19) (lv2 := [(0, .ref (em (xE X) 0)), (1, .int a1), (2, .int r1), (3, .int r3), (4, .int (M.1 0 2))]) F dX12_turnsOff_19 (by rw [hx]; decide) [1, 2, 3, 4, 0] rfl ?_
    refine g_aload_n (pc := 21) (x := em (xE X) 0) F dX12_turnsOff_21 rfl 0 rfl ?_
    refine g_iload_n (pc := 22) (x := a1) F dX12_turnsOff_22 rfl 1 rfl ?_
    refine g_iconst (pc := 23) F dX12_turnsOff_23 ic_2 ?_
    refine g_iload_n (pc := 24) (x := r3) F dX12_turnsOff_24 rfl 3 rfl ?_
    refine g_iload (pc := 25) (x := M.1 0 2) F dX12_turnsOff_25 4 rfl ?_
    refine g_icmp_gt (pc := 27) (tgt := 42) F dX12_turnsOff_27 (by decide) (fun c5 => ?_) (fun c5 => ?_)
    · have h := ite_t c5 h
      refine g_iload_n (pc := 42) (x := r3) F dX12_turnsOff_42 rfl 3 rfl ?_
      refine g_iload_n (pc := 43) (x := r1) F dX12_turnsOff_43 rfl 2 rfl ?_
      refine g_iadd (pc := 44) F dX12_turnsOff_44 ?_
      refine g_iload (pc := 45) (x := M.1 0 2) F dX12_turnsOff_45 4 rfl ?_
      refine g_bipush (pc := 47) F dX12_turnsOff_47 bp_9 ?_
      obtain ⟨r6, e7, h⟩ := bd_some h
      refine g_sI (pc := 49) (Wf := Wm) (As := [.int (r3 + r1), .int (M.1 0 2), .int (9 : Int32)]) (rest := [.int (2 : Int32), .int a1, .ref (em (xE X) 0)]) F (hX12_held (M := M) e7 (xl X) (xE X)) kX12_held lX12_119 rfl rfl ⟨(Nat.le_of_ble_eq_true rfl), (Nat.le_of_ble_eq_true rfl)⟩ (Nat.le_of_ble_eq_true rfl) dX12_turnsOff_49 ?_
      refine g_sub [0, 1, 3] rfl ?_
      exact wX12_turnsOff_b52 F hx Rt M a1 r3 a1 (2 : Int32) r6 h
    · have h := ite_f c5 h
      refine g_iload_n (pc := 30) (x := r3) F dX12_turnsOff_30 rfl 3 rfl ?_
      refine g_iload_n (pc := 31) (x := r1) F dX12_turnsOff_31 rfl 2 rfl ?_
      refine g_isub (pc := 32) F dX12_turnsOff_32 ?_
      refine g_iconst (pc := 33) F dX12_turnsOff_33 ic_0 ?_
      refine g_iload (pc := 34) (x := M.1 0 2) F dX12_turnsOff_34 4 rfl ?_
      obtain ⟨r15, e16, h⟩ := bd_some h
      refine g_sI (pc := 36) (Wf := Wm) (As := [.int (r3 - r1), .int (0 : Int32), .int (M.1 0 2)]) (rest := [.int (2 : Int32), .int a1, .ref (em (xE X) 0)]) F (hX12_held (M := M) e16 (xl X) (xE X)) kX12_held lX12_119 rfl rfl ⟨(Nat.le_of_ble_eq_true rfl), (Nat.le_of_ble_eq_true rfl)⟩ (Nat.le_of_ble_eq_true rfl) dX12_turnsOff_36 ?_
      refine g_goto (pc := 39) (tgt := 52) F dX12_turnsOff_39 (by decide) ?_
      refine g_sub [0, 1, 3] rfl ?_
      exact wX12_turnsOff_b52 F hx Rt M a1 r3 a1 (2 : Int32) r15 h) l E
set_option maxHeartbeats 4000000 in
set_option maxRecDepth 100000 in
theorem wX12_goesOn_b92 {X : Cx} (F : Fx X cX12_goesOn RX12 2 45) (hx : xn X = 4) {N : Nat} {res : Mem} (Rt : RV X Wm res) {K6 : Mem → Int32 → Int32 → Option Mem} (hK6 : ∀ (M : Mem) (a1 : Int32) (a2 : Int32), K6 M a1 a2 = some res → G X (Wm (xE X) M) 6 [(0, .ref (em (xE X) 0)), (1, .int a1), (2, .int a2)] []) : ∀ (M : Mem) (a1 : Int32) (a2 : Int32) (a3 : Int32) (s1 : Int32) (s2 : Int32) (s3 : Int32), mX12_goesOn_b92 N K6 M a1 a2 a3 s1 s2 s3 = some res → G X (Wm (xE X) M) 92 [(0, .ref (em (xE X) 0)), (1, .int a1), (2, .int a2), (3, .int a3)] [.int s3, .int s2, .int s1, .ref (em (xE X) 0)] := by
  intro M a1 a2 a3 s1 s2 s3 h
  unfold mX12_goesOn_b92 at h
  obtain ⟨M23, e24, h⟩ := bd_some h
  refine g_vV (pc := 92) (Wf := Wm) (As := [.int s1, .int s2, .int s3]) (rest := []) F (hX12_puts e24 (xl X) (xE X)) kX12_puts lX12_88 0 rfl rfl rfl rfl rfl ⟨(Nat.le_of_ble_eq_true rfl), (Nat.le_of_ble_eq_true rfl)⟩ (Nat.le_of_ble_eq_true rfl) dX12_goesOn_92 ?_
  refine g_aload_n (pc := 95) (x := em (xE X) 0) F dX12_goesOn_95 rfl 0 rfl ?_
  refine g_iload_n (pc := 96) (x := a1) F dX12_goesOn_96 rfl 1 rfl ?_
  refine g_iconst (pc := 97) F dX12_goesOn_97 ic_5 ?_
  refine g_iload_n (pc := 98) (x := a3) F dX12_goesOn_98 rfl 3 rfl ?_
  refine g_if_ne (pc := 99) (tgt := 106) F dX12_goesOn_99 (by decide) (fun c25 => ?_) (fun c25 => ?_)
  · have h := ite_f c25 h
    refine g_iconst (pc := 106) F dX12_goesOn_106 ic_0 ?_
    obtain ⟨M26, e27, h⟩ := bd_some h
    refine g_vV (pc := 107) (Wf := Wm) (As := [.int a1, .int (5 : Int32), .int (0 : Int32)]) (rest := []) F (hX12_puts e27 (xl X) (xE X)) kX12_puts lX12_88 0 rfl rfl rfl rfl rfl ⟨(Nat.le_of_ble_eq_true rfl), (Nat.le_of_ble_eq_true rfl)⟩ (Nat.le_of_ble_eq_true rfl) dX12_goesOn_107 ?_
    refine g_iinc (pc := 110) (lv2 := [(0, .ref (em (xE X) 0)), (1, .int a1), (2, .int (a2 + (-1 : Int32))), (3, .int a3)]) F dX12_goesOn_110 2 rfl (ii_m1 _) (by rw [hx]; decide) [1, 2, 0, 3] rfl ?_
    refine g_goto (pc := 113) (tgt := 6) F dX12_goesOn_113 (by decide) ?_
    refine g_sub [0, 1, 2] rfl ?_
    exact hK6 M26 a1 (a2 + (-1 : Int32)) h
  · have h := ite_t c25 h
    refine g_iconst (pc := 102) F dX12_goesOn_102 ic_1 ?_
    refine g_goto (pc := 103) (tgt := 107) F dX12_goesOn_103 (by decide) ?_
    obtain ⟨M28, e29, h⟩ := bd_some h
    refine g_vV (pc := 107) (Wf := Wm) (As := [.int a1, .int (5 : Int32), .int (1 : Int32)]) (rest := []) F (hX12_puts e29 (xl X) (xE X)) kX12_puts lX12_88 0 rfl rfl rfl rfl rfl ⟨(Nat.le_of_ble_eq_true rfl), (Nat.le_of_ble_eq_true rfl)⟩ (Nat.le_of_ble_eq_true rfl) dX12_goesOn_107 ?_
    refine g_iinc (pc := 110) (lv2 := [(0, .ref (em (xE X) 0)), (1, .int a1), (2, .int (a2 + (-1 : Int32))), (3, .int a3)]) F dX12_goesOn_110 2 rfl (ii_m1 _) (by rw [hx]; decide) [1, 2, 0, 3] rfl ?_
    refine g_goto (pc := 113) (tgt := 6) F dX12_goesOn_113 (by decide) ?_
    refine g_sub [0, 1, 2] rfl ?_
    exact hK6 M28 a1 (a2 + (-1 : Int32)) h
set_option maxHeartbeats 4000000 in
set_option maxRecDepth 100000 in
theorem wX12_goesOn_b6 {X : Cx} (F : Fx X cX12_goesOn RX12 2 45) (hx : xn X = 4) {N : Nat} {res : Mem} (Rt : RV X Wm res) : ∀ (n : Nat) (M : Mem) (a1 : Int32) (a2 : Int32), mX12_goesOn_b6 N n M a1 a2 = some res → G X (Wm (xE X) M) 6 [(0, .ref (em (xE X) 0)), (1, .int a1), (2, .int a2)] [] := by
  intro n
  induction n with
  | zero =>
    intro M a1 a2 h
    have h : none = some res := h
    cases h
  | succ n ih =>
    intro M a1 a2 h
    rw [mX12_goesOn_b6] at h
    refine g_iload_n (pc := 6) (x := a2) F dX12_goesOn_6 rfl 2 rfl ?_
    refine g_if_le (pc := 7) (tgt := 116) F dX12_goesOn_7 (by decide) (fun c3 => ?_) (fun c3 => ?_)
    · have h := ite_t c3 h
      obtain rfl := Option.some.inj h
      exact g_vret (pc := 116) (Wf := Wm) F Rt dX12_goesOn_116
    · have h := ite_f c3 h
      refine g_aload_n (pc := 10) (x := em (xE X) 0) F dX12_goesOn_10 rfl 0 rfl ?_
      refine g_iload_n (pc := 11) (x := a1) F dX12_goesOn_11 rfl 1 rfl ?_
      refine g_iconst (pc := 12) F dX12_goesOn_12 ic_5 ?_
      obtain ⟨r4, e5, h⟩ := bd_some h
      refine g_vI (pc := 13) (Wf := Wm) (As := [.int a1, .int (5 : Int32)]) (rest := []) F (hX12_its e5 (xl X) (xE X)) kX12_its lX12_69 0 rfl rfl rfl rfl rfl ⟨(Nat.le_of_ble_eq_true rfl), (Nat.le_of_ble_eq_true rfl)⟩ (Nat.le_of_ble_eq_true rfl) dX12_goesOn_13 ?_
      refine g_aload_n (pc := 16) (x := em (xE X) 0) F dX12_goesOn_16 rfl 0 rfl ?_
      refine g_iload_n (pc := 17) (x := a1) F dX12_goesOn_17 rfl 1 rfl ?_
      refine g_bipush (pc := 18) F dX12_goesOn_18 bp_6 ?_
      obtain ⟨r6, e7, h⟩ := bd_some h
      refine g_vI (pc := 20) (Wf := Wm) (As := [.int a1, .int (6 : Int32)]) (rest := [.int r4]) F (hX12_its e7 (xl X) (xE X)) kX12_its lX12_69 0 rfl rfl rfl rfl rfl ⟨(Nat.le_of_ble_eq_true rfl), (Nat.le_of_ble_eq_true rfl)⟩ (Nat.le_of_ble_eq_true rfl) dX12_goesOn_20 ?_
      refine g_iadd (pc := 23) F dX12_goesOn_23 ?_
      refine g_if_ne (pc := 24) (tgt := 116) F dX12_goesOn_24 (by decide) (fun c8 => ?_) (fun c8 => ?_)
      · have h := ite_f c8 h
        obtain rfl := Option.some.inj h
        exact g_vret (pc := 116) (Wf := Wm) F Rt dX12_goesOn_116
      · have h := ite_t c8 h
        refine g_aload_n (pc := 27) (x := em (xE X) 0) F dX12_goesOn_27 rfl 0 rfl ?_
        refine g_iload_n (pc := 28) (x := a1) F dX12_goesOn_28 rfl 1 rfl ?_
        refine g_iconst (pc := 29) F dX12_goesOn_29 ic_1 ?_
        refine g_aload_n (pc := 30) (x := em (xE X) 0) F dX12_goesOn_30 rfl 0 rfl ?_
        refine g_iload_n (pc := 31) (x := a1) F dX12_goesOn_31 rfl 1 rfl ?_
        refine g_iconst (pc := 32) F dX12_goesOn_32 ic_1 ?_
        obtain ⟨r9, e10, h⟩ := bd_some h
        refine g_vI (pc := 33) (Wf := Wm) (As := [.int a1, .int (1 : Int32)]) (rest := [.int (1 : Int32), .int a1, .ref (em (xE X) 0)]) F (hX12_its e10 (xl X) (xE X)) kX12_its lX12_69 0 rfl rfl rfl rfl rfl ⟨(Nat.le_of_ble_eq_true rfl), (Nat.le_of_ble_eq_true rfl)⟩ (Nat.le_of_ble_eq_true rfl) dX12_goesOn_33 ?_
        refine g_iconst (pc := 36) F dX12_goesOn_36 ic_1 ?_
        refine g_iadd (pc := 37) F dX12_goesOn_37 ?_
        obtain ⟨M11, e12, h⟩ := bd_some h
        refine g_vV (pc := 38) (Wf := Wm) (As := [.int a1, .int (1 : Int32), .int (r9 + (1 : Int32))]) (rest := []) F (hX12_puts e12 (xl X) (xE X)) kX12_puts lX12_88 0 rfl rfl rfl rfl rfl ⟨(Nat.le_of_ble_eq_true rfl), (Nat.le_of_ble_eq_true rfl)⟩ (Nat.le_of_ble_eq_true rfl) dX12_goesOn_38 ?_
        refine g_aload_n (pc := 41) (x := em (xE X) 0) F dX12_goesOn_41 rfl 0 rfl ?_
        refine g_iload_n (pc := 42) (x := a1) F dX12_goesOn_42 rfl 1 rfl ?_
        refine g_iconst (pc := 43) F dX12_goesOn_43 ic_1 ?_
        obtain ⟨r13, e14, h⟩ := bd_some h
        refine g_vI (pc := 44) (Wf := Wm) (As := [.int a1, .int (1 : Int32)]) (rest := []) F (hX12_its e14 (xl X) (xE X)) kX12_its lX12_69 0 rfl rfl rfl rfl rfl ⟨(Nat.le_of_ble_eq_true rfl), (Nat.le_of_ble_eq_true rfl)⟩ (Nat.le_of_ble_eq_true rfl) dX12_goesOn_44 ?_
        refine g_bipush (pc := 47) F dX12_goesOn_47 bp_20 ?_
        refine g_icmp_ne (pc := 49) (tgt := 63) F dX12_goesOn_49 (by decide) (fun c15 => ?_) (fun c15 => ?_)
        · have h := ite_f c15 h
          refine g_aload_n (pc := 63) (x := em (xE X) 0) F dX12_goesOn_63 rfl 0 rfl ?_
          refine g_iload_n (pc := 64) (x := a1) F dX12_goesOn_64 rfl 1 rfl ?_
          obtain ⟨r16, e17, h⟩ := bd_some h
          refine g_vI (pc := 65) (Wf := Wm) (As := [.int a1]) (rest := []) F (hX12_distance e17 (xl X) (xE X)) kX12_distance lX12_85 0 rfl rfl rfl rfl rfl ⟨(Nat.le_of_ble_eq_true rfl), (Nat.le_of_ble_eq_true rfl)⟩ (Nat.le_of_ble_eq_true rfl) dX12_goesOn_65 ?_
          refine g_istore_n (pc := 68) (lv2 := [(0, .ref (em (xE X) 0)), (1, .int a1), (2, .int a2), (3, .int r16)]) F dX12_goesOn_68 rfl (by rw [hx]; decide) [1, 2, 3, 0] rfl ?_
          refine g_aload_n (pc := 69) (x := em (xE X) 0) F dX12_goesOn_69 rfl 0 rfl ?_
          refine g_iload_n (pc := 70) (x := a1) F dX12_goesOn_70 rfl 1 rfl ?_
          refine g_iconst (pc := 71) F dX12_goesOn_71 ic_4 ?_
          refine g_iload_n (pc := 72) (x := r16) F dX12_goesOn_72 rfl 3 rfl ?_
          refine g_aload_n (pc := 73) (x := em (xE X) 0) F dX12_goesOn_73 rfl 0 rfl ?_
          refine g_iload_n (pc := 74) (x := a1) F dX12_goesOn_74 rfl 1 rfl ?_
          refine g_iconst (pc := 75) F dX12_goesOn_75 ic_4 ?_
          obtain ⟨r18, e19, h⟩ := bd_some h
          refine g_vI (pc := 76) (Wf := Wm) (As := [.int a1, .int (4 : Int32)]) (rest := [.int r16, .int (4 : Int32), .int a1, .ref (em (xE X) 0)]) F (hX12_its e19 (xl X) (xE X)) kX12_its lX12_69 0 rfl rfl rfl rfl rfl ⟨(Nat.le_of_ble_eq_true rfl), (Nat.le_of_ble_eq_true rfl)⟩ (Nat.le_of_ble_eq_true rfl) dX12_goesOn_76 ?_
          refine g_icmp_ge (pc := 79) (tgt := 86) F dX12_goesOn_79 (by decide) (fun c20 => ?_) (fun c20 => ?_)
          · have h := ite_t c20 h
            refine g_aload_n (pc := 86) (x := em (xE X) 0) F dX12_goesOn_86 rfl 0 rfl ?_
            refine g_iload_n (pc := 87) (x := a1) F dX12_goesOn_87 rfl 1 rfl ?_
            refine g_iconst (pc := 88) F dX12_goesOn_88 ic_4 ?_
            obtain ⟨r21, e22, h⟩ := bd_some h
            refine g_vI (pc := 89) (Wf := Wm) (As := [.int a1, .int (4 : Int32)]) (rest := [.int (4 : Int32), .int a1, .ref (em (xE X) 0)]) F (hX12_its e22 (xl X) (xE X)) kX12_its lX12_69 0 rfl rfl rfl rfl rfl ⟨(Nat.le_of_ble_eq_true rfl), (Nat.le_of_ble_eq_true rfl)⟩ (Nat.le_of_ble_eq_true rfl) dX12_goesOn_89 ?_
            refine g_sub [0, 1, 2, 3] rfl ?_
            exact wX12_goesOn_b92 F hx Rt ih M11 a1 a2 r16 a1 (4 : Int32) r21 h
          · have h := ite_f c20 h
            refine g_iload_n (pc := 82) (x := r16) F dX12_goesOn_82 rfl 3 rfl ?_
            refine g_goto (pc := 83) (tgt := 92) F dX12_goesOn_83 (by decide) ?_
            refine g_sub [0, 1, 2, 3] rfl ?_
            exact wX12_goesOn_b92 F hx Rt ih M11 a1 a2 r16 a1 (4 : Int32) r16 h
        · have h := ite_t c15 h
          refine g_aload_n (pc := 52) (x := em (xE X) 0) F dX12_goesOn_52 rfl 0 rfl ?_
          refine g_iload_n (pc := 53) (x := a1) F dX12_goesOn_53 rfl 1 rfl ?_
          refine g_bipush (pc := 54) F dX12_goesOn_54 bp_6 ?_
          refine g_iconst (pc := 56) F dX12_goesOn_56 ic_1 ?_
          obtain ⟨M30, e31, h⟩ := bd_some h
          refine g_vV (pc := 57) (Wf := Wm) (As := [.int a1, .int (6 : Int32), .int (1 : Int32)]) (rest := []) F (hX12_puts e31 (xl X) (xE X)) kX12_puts lX12_88 0 rfl rfl rfl rfl rfl ⟨(Nat.le_of_ble_eq_true rfl), (Nat.le_of_ble_eq_true rfl)⟩ (Nat.le_of_ble_eq_true rfl) dX12_goesOn_57 ?_
          refine g_goto (pc := 60) (tgt := 110) F dX12_goesOn_60 (by decide) ?_
          refine g_iinc (pc := 110) (lv2 := [(0, .ref (em (xE X) 0)), (1, .int a1), (2, .int (a2 + (-1 : Int32)))]) F dX12_goesOn_110 2 rfl (ii_m1 _) (by rw [hx]; decide) [1, 2, 0] rfl ?_
          refine g_goto (pc := 113) (tgt := 6) F dX12_goesOn_113 (by decide) ?_
          refine g_sub [0, 1, 2] rfl ?_
          exact ih M30 a1 (a2 + (-1 : Int32)) h
set_option maxHeartbeats 4000000 in
set_option maxRecDepth 100000 in
theorem hX12_goesOn {N : Nat} {M : Mem} {a1 : Int32} {res : Mem} (h : mX12_goesOn N M a1 = some res) (l : Launch) (E : Ev) : CtV l E (Wm E) yX12_goesOn cX12_goesOn 4 2 45 [.ref (em E 0), .int a1] M res :=
  ctV_of (Wf := Wm) (av := fun E => [.ref (em E 0), .int a1]) (lv := fun E => [(0, .ref (em E 0)), (1, .int a1)]) (by decide) (fun _ => rfl) (fun _ => (Nat.le_of_ble_eq_true rfl)) (fun X F hx Rt => by
    have F : Fx X cX12_goesOn RX12 2 45 := F
    unfold mX12_goesOn at h
    refine g_aload_n (pc := 0) (x := em (xE X) 0) F dX12_goesOn_0 rfl 0 rfl ?_
    refine g_iload_n (pc := 1) (x := a1) F dX12_goesOn_1 rfl 1 rfl ?_
    obtain ⟨r1, e2, h⟩ := bd_some h
    refine g_vI (pc := 2) (Wf := Wm) (As := [.int a1]) (rest := []) F (hX12_speed e2 (xl X) (xE X)) kX12_speed lX12_105 0 rfl rfl rfl rfl rfl ⟨(Nat.le_of_ble_eq_true rfl), (Nat.le_of_ble_eq_true rfl)⟩ (Nat.le_of_ble_eq_true rfl) dX12_goesOn_2 ?_
    refine g_istore_n (pc := 5) (lv2 := [(0, .ref (em (xE X) 0)), (1, .int a1), (2, .int r1)]) F dX12_goesOn_5 rfl (by rw [hx]; decide) [1, 2, 0] rfl ?_
    refine g_sub [0, 1, 2] rfl ?_
    exact wX12_goesOn_b6 F hx Rt N M a1 r1 h) l E
set_option maxHeartbeats 4000000 in
set_option maxRecDepth 100000 in
theorem wX12_sails_b47 {X : Cx} (F : Fx X cX12_sails RX12 4 90) (hx : xn X = 3) {N : Nat} {res : Mem} (Rt : RV X Wm res) : ∀ (M : Mem) (a1 : Int32) (a2 : Int32), mX12_sails_b47 N M a1 a2 = some res → G X (Wm (xE X) M) 47 [(0, .ref (em (xE X) 0)), (1, .int a1), (2, .int a2)] [] := by
  intro M a1 a2 h
  unfold mX12_sails_b47 at h
  refine g_iload_n (pc := 47) (x := a2) F dX12_sails_47 rfl 2 rfl ?_
  refine g_if_eq (pc := 48) (tgt := 56) F dX12_sails_48 (by decide) (fun c5 => ?_) (fun c5 => ?_)
  · have h := ite_t c5 h
    refine g_aload_n (pc := 56) (x := em (xE X) 0) F dX12_sails_56 rfl 0 rfl ?_
    refine g_iload_n (pc := 57) (x := a1) F dX12_sails_57 rfl 1 rfl ?_
    obtain ⟨M6, e7, h⟩ := bd_some h
    refine g_vV (pc := 58) (Wf := Wm) (As := [.int a1]) (rest := []) F (hX12_goesOn e7 (xl X) (xE X)) kX12_goesOn lX12_129 0 rfl rfl rfl rfl rfl ⟨(Nat.le_of_ble_eq_true rfl), (Nat.le_of_ble_eq_true rfl)⟩ (Nat.le_of_ble_eq_true rfl) dX12_sails_58 ?_
    obtain rfl := Option.some.inj h
    exact g_vret (pc := 61) (Wf := Wm) F Rt dX12_sails_61
  · have h := ite_f c5 h
    refine g_aload_n (pc := 51) (x := em (xE X) 0) F dX12_sails_51 rfl 0 rfl ?_
    refine g_iload_n (pc := 52) (x := a1) F dX12_sails_52 rfl 1 rfl ?_
    obtain ⟨M8, e9, h⟩ := bd_some h
    refine g_vV (pc := 53) (Wf := Wm) (As := [.int a1]) (rest := []) F (hX12_turnsOff e9 (xl X) (xE X)) kX12_turnsOff lX12_126 0 rfl rfl rfl rfl rfl ⟨(Nat.le_of_ble_eq_true rfl), (Nat.le_of_ble_eq_true rfl)⟩ (Nat.le_of_ble_eq_true rfl) dX12_sails_53 ?_
    refine g_aload_n (pc := 56) (x := em (xE X) 0) F dX12_sails_56 rfl 0 rfl ?_
    refine g_iload_n (pc := 57) (x := a1) F dX12_sails_57 rfl 1 rfl ?_
    obtain ⟨M10, e11, h⟩ := bd_some h
    refine g_vV (pc := 58) (Wf := Wm) (As := [.int a1]) (rest := []) F (hX12_goesOn e11 (xl X) (xE X)) kX12_goesOn lX12_129 0 rfl rfl rfl rfl rfl ⟨(Nat.le_of_ble_eq_true rfl), (Nat.le_of_ble_eq_true rfl)⟩ (Nat.le_of_ble_eq_true rfl) dX12_sails_58 ?_
    obtain rfl := Option.some.inj h
    exact g_vret (pc := 61) (Wf := Wm) F Rt dX12_sails_61
set_option maxHeartbeats 4000000 in
set_option maxRecDepth 100000 in
theorem wX12_sails_b28 {X : Cx} (F : Fx X cX12_sails RX12 4 90) (hx : xn X = 3) {N : Nat} {res : Mem} (Rt : RV X Wm res) : ∀ (M : Mem) (a1 : Int32) (s0 : Int32), mX12_sails_b28 N M a1 s0 = some res → G X (Wm (xE X) M) 28 [(0, .ref (em (xE X) 0)), (1, .int a1)] [.int s0] := by
  intro M a1 s0 h
  unfold mX12_sails_b28 at h
  refine g_istore_n (pc := 28) (lv2 := [(0, .ref (em (xE X) 0)), (1, .int a1), (2, .int s0)]) F dX12_sails_28 rfl (by rw [hx]; decide) [1, 2, 0] rfl ?_
  refine g_iload_n (pc := 29) (x := s0) F dX12_sails_29 rfl 2 rfl ?_
  refine g_if_eq (pc := 30) (tgt := 47) F dX12_sails_30 (by decide) (fun c4 => ?_) (fun c4 => ?_)
  · have h := ite_t c4 h
    refine g_sub [0, 1, 2] rfl ?_
    exact wX12_sails_b47 F hx Rt M a1 s0 h
  · have h := ite_f c4 h
    refine g_aload_n (pc := 33) (x := em (xE X) 0) F dX12_sails_33 rfl 0 rfl ?_
    refine g_iload_n (pc := 34) (x := a1) F dX12_sails_34 rfl 1 rfl ?_
    obtain ⟨r12, e13, h⟩ := bd_some h
    refine g_vI (pc := 35) (Wf := Wm) (As := [.int a1]) (rest := []) F (hX12_isStanding e13 (xl X) (xE X)) kX12_isStanding lX12_111 0 rfl rfl rfl rfl rfl ⟨(Nat.le_of_ble_eq_true rfl), (Nat.le_of_ble_eq_true rfl)⟩ (Nat.le_of_ble_eq_true rfl) dX12_sails_35 ?_
    refine g_if_eq (pc := 38) (tgt := 47) F dX12_sails_38 (by decide) (fun c14 => ?_) (fun c14 => ?_)
    · have h := ite_t c14 h
      refine g_sub [0, 1, 2] rfl ?_
      exact wX12_sails_b47 F hx Rt M a1 s0 h
    · have h := ite_f c14 h
      refine g_aload_n (pc := 41) (x := em (xE X) 0) F dX12_sails_41 rfl 0 rfl ?_
      refine g_iload_n (pc := 42) (x := a1) F dX12_sails_42 rfl 1 rfl ?_
      obtain ⟨M15, e16, h⟩ := bd_some h
      refine g_vV (pc := 43) (Wf := Wm) (As := [.int a1]) (rest := []) F (hX12_costs e16 (xl X) (xE X)) kX12_costs lX12_123 0 rfl rfl rfl rfl rfl ⟨(Nat.le_of_ble_eq_true rfl), (Nat.le_of_ble_eq_true rfl)⟩ (Nat.le_of_ble_eq_true rfl) dX12_sails_43 ?_
      obtain rfl := Option.some.inj h
      exact g_vret (pc := 46) (Wf := Wm) F Rt dX12_sails_46
set_option maxHeartbeats 4000000 in
set_option maxRecDepth 100000 in
theorem wX12_sails_b27 {X : Cx} (F : Fx X cX12_sails RX12 4 90) (hx : xn X = 3) {N : Nat} {res : Mem} (Rt : RV X Wm res) : ∀ (M : Mem) (a1 : Int32), mX12_sails_b27 N M a1 = some res → G X (Wm (xE X) M) 27 [(0, .ref (em (xE X) 0)), (1, .int a1)] [] := by
  intro M a1 h
  unfold mX12_sails_b27 at h
  refine g_iconst (pc := 27) F dX12_sails_27 ic_0 ?_
  refine g_sub [0, 1] rfl ?_
  exact wX12_sails_b28 F hx Rt M a1 (0 : Int32) h
set_option maxHeartbeats 4000000 in
set_option maxRecDepth 100000 in
theorem hX12_sails {N : Nat} {M : Mem} {a1 : Int32} {res : Mem} (h : mX12_sails N M a1 = some res) (l : Launch) (E : Ev) : CtV l E (Wm E) yX12_sails cX12_sails 3 4 90 [.ref (em E 0), .int a1] M res :=
  ctV_of (Wf := Wm) (av := fun E => [.ref (em E 0), .int a1]) (lv := fun E => [(0, .ref (em E 0)), (1, .int a1)]) (by decide) (fun _ => rfl) (fun _ => (Nat.le_of_ble_eq_true rfl)) (fun X F hx Rt => by
    have F : Fx X cX12_sails RX12 4 90 := F
    unfold mX12_sails at h
    refine g_aload_n (pc := 0) (x := em (xE X) 0) F dX12_sails_0 rfl 0 rfl ?_
    refine g_iload_n (pc := 1) (x := a1) F dX12_sails_1 rfl 1 rfl ?_
    obtain ⟨r1, e2, h⟩ := bd_some h
    refine g_vI (pc := 2) (Wf := Wm) (As := [.int a1]) (rest := []) F (hX12_isSeeing e2 (xl X) (xE X)) kX12_isSeeing lX12_102 0 rfl rfl rfl rfl rfl ⟨(Nat.le_of_ble_eq_true rfl), (Nat.le_of_ble_eq_true rfl)⟩ (Nat.le_of_ble_eq_true rfl) dX12_sails_2 ?_
    refine g_if_eq (pc := 5) (tgt := 27) F dX12_sails_5 (by decide) (fun c3 => ?_) (fun c3 => ?_)
    · have h := ite_t c3 h
      refine g_sub [0, 1] rfl ?_
      exact wX12_sails_b27 F hx Rt M a1 h
    · have h := ite_f c3 h
      refine g_aload_n (pc := 8) (x := em (xE X) 0) F dX12_sails_8 rfl 0 rfl ?_
      refine g_get (pc := 9) (v := .ref (em (xE X) 1)) F fX12_7 0 rfl rfl dX12_sails_9 ?_
      refine g_iconst (pc := 12) F dX12_sails_12 ic_1 ?_
      refine g_iald (pc := 13) (N := 48) (fn := M.1 0) (j := 1) F 1 0 rfl rfl vi_1_48 cl_1 dX12_sails_13 ?_
      refine g_aload_n (pc := 14) (x := em (xE X) 0) F dX12_sails_14 rfl 0 rfl ?_
      refine g_iload_n (pc := 15) (x := a1) F dX12_sails_15 rfl 1 rfl ?_
      refine g_iconst (pc := 16) F dX12_sails_16 ic_1 ?_
      obtain ⟨r17, e18, h⟩ := bd_some h
      refine g_vI (pc := 17) (Wf := Wm) (As := [.int a1, .int (1 : Int32)]) (rest := [.int (M.1 0 1)]) F (hX12_its e18 (xl X) (xE X)) kX12_its lX12_69 0 rfl rfl rfl rfl rfl ⟨(Nat.le_of_ble_eq_true rfl), (Nat.le_of_ble_eq_true rfl)⟩ (Nat.le_of_ble_eq_true rfl) dX12_sails_17 ?_
      refine g_icmp_lt (pc := 20) (tgt := 27) F dX12_sails_20 (by decide) (fun c19 => ?_) (fun c19 => ?_)
      · have h := ite_t c19 h
        refine g_sub [0, 1] rfl ?_
        exact wX12_sails_b27 F hx Rt M a1 h
      · have h := ite_f c19 h
        refine g_iconst (pc := 23) F dX12_sails_23 ic_1 ?_
        refine g_goto (pc := 24) (tgt := 28) F dX12_sails_24 (by decide) ?_
        refine g_sub [0, 1] rfl ?_
        exact wX12_sails_b28 F hx Rt M a1 (1 : Int32) h) l E
set_option maxHeartbeats 4000000 in
set_option maxRecDepth 100000 in
theorem wX12_oneHour_b2 {X : Cx} (F : Fx X cX12_oneHour RX12 5 112) (hx : xn X = 2) {N : Nat} {res : Mem} (Rt : RV X Wm res) : ∀ (n : Nat) (M : Mem) (a1 : Int32), mX12_oneHour_b2 N n M a1 = some res → G X (Wm (xE X) M) 2 [(0, .ref (em (xE X) 0)), (1, .int a1)] [] := by
  intro n
  induction n with
  | zero =>
    intro M a1 h
    have h : none = some res := h
    cases h
  | succ n ih =>
    intro M a1 h
    rw [mX12_oneHour_b2] at h
    refine g_iload_n (pc := 2) (x := a1) F dX12_oneHour_2 rfl 1 rfl ?_
    refine g_aload_n (pc := 3) (x := em (xE X) 0) F dX12_oneHour_3 rfl 0 rfl ?_
    refine g_get (pc := 4) (v := .ref (em (xE X) 1)) F fX12_7 0 rfl rfl dX12_oneHour_4 ?_
    refine g_iconst (pc := 7) F dX12_oneHour_7 ic_5 ?_
    refine g_iald (pc := 8) (N := 48) (fn := M.1 0) (j := 5) F 1 0 rfl rfl vi_5_48 cl_5 dX12_oneHour_8 ?_
    refine g_icmp_ge (pc := 9) (tgt := 40) F dX12_oneHour_9 (by decide) (fun c1 => ?_) (fun c1 => ?_)
    · have h := ite_t c1 h
      refine g_aload_n (pc := 40) (x := em (xE X) 0) F dX12_oneHour_40 rfl 0 rfl ?_
      refine g_get (pc := 41) (v := .ref (em (xE X) 1)) F fX12_7 0 rfl rfl dX12_oneHour_41 ?_
      refine g_iconst (pc := 44) F dX12_oneHour_44 ic_0 ?_
      refine g_dup2 (pc := 45) F dX12_oneHour_45 rfl rfl ?_
      refine g_iald (pc := 46) (N := 48) (fn := M.1 0) (j := 0) F 1 0 rfl rfl vi_0_48 cl_0 dX12_oneHour_46 ?_
      refine g_iconst (pc := 47) F dX12_oneHour_47 ic_1 ?_
      refine g_iadd (pc := 48) F dX12_oneHour_48 ?_
      refine g_iast (pc := 49) (N := 48) (fn := M.1 0) (j := 0) (ws2 := Wm (xE X) (sI M 0 0 ((M.1 0 0) + (1 : Int32)))) F 1 0 rfl rfl vi_0_48 cl_0 (wma_0 _ _ _ _) dX12_oneHour_49 ?_
      obtain rfl := Option.some.inj h
      exact g_vret (pc := 50) (Wf := Wm) F Rt dX12_oneHour_50
    · have h := ite_f c1 h
      refine g_aload_n (pc := 12) (x := em (xE X) 0) F dX12_oneHour_12 rfl 0 rfl ?_
      refine g_iload_n (pc := 13) (x := a1) F dX12_oneHour_13 rfl 1 rfl ?_
      refine g_iconst (pc := 14) F dX12_oneHour_14 ic_5 ?_
      obtain ⟨r2, e3, h⟩ := bd_some h
      refine g_vI (pc := 15) (Wf := Wm) (As := [.int a1, .int (5 : Int32)]) (rest := []) F (hX12_its e3 (xl X) (xE X)) kX12_its lX12_69 0 rfl rfl rfl rfl rfl ⟨(Nat.le_of_ble_eq_true rfl), (Nat.le_of_ble_eq_true rfl)⟩ (Nat.le_of_ble_eq_true rfl) dX12_oneHour_15 ?_
      refine g_aload_n (pc := 18) (x := em (xE X) 0) F dX12_oneHour_18 rfl 0 rfl ?_
      refine g_iload_n (pc := 19) (x := a1) F dX12_oneHour_19 rfl 1 rfl ?_
      refine g_bipush (pc := 20) F dX12_oneHour_20 bp_6 ?_
      obtain ⟨r4, e5, h⟩ := bd_some h
      refine g_vI (pc := 22) (Wf := Wm) (As := [.int a1, .int (6 : Int32)]) (rest := [.int r2]) F (hX12_its e5 (xl X) (xE X)) kX12_its lX12_69 0 rfl rfl rfl rfl rfl ⟨(Nat.le_of_ble_eq_true rfl), (Nat.le_of_ble_eq_true rfl)⟩ (Nat.le_of_ble_eq_true rfl) dX12_oneHour_22 ?_
      refine g_iadd (pc := 25) F dX12_oneHour_25 ?_
      refine g_if_ne (pc := 26) (tgt := 34) F dX12_oneHour_26 (by decide) (fun c6 => ?_) (fun c6 => ?_)
      · have h := ite_f c6 h
        refine g_iinc (pc := 34) (lv2 := [(0, .ref (em (xE X) 0)), (1, .int (a1 + (1 : Int32)))]) F dX12_oneHour_34 1 rfl (ii_1 _) (by rw [hx]; decide) [1, 0] rfl ?_
        refine g_goto (pc := 37) (tgt := 2) F dX12_oneHour_37 (by decide) ?_
        refine g_sub [0, 1] rfl ?_
        exact ih M (a1 + (1 : Int32)) h
      · have h := ite_t c6 h
        refine g_aload_n (pc := 29) (x := em (xE X) 0) F dX12_oneHour_29 rfl 0 rfl ?_
        refine g_iload_n (pc := 30) (x := a1) F dX12_oneHour_30 rfl 1 rfl ?_
        obtain ⟨M7, e8, h⟩ := bd_some h
        refine g_vV (pc := 31) (Wf := Wm) (As := [.int a1]) (rest := []) F (hX12_sails e8 (xl X) (xE X)) kX12_sails lX12_132 0 rfl rfl rfl rfl rfl ⟨(Nat.le_of_ble_eq_true rfl), (Nat.le_of_ble_eq_true rfl)⟩ (Nat.le_of_ble_eq_true rfl) dX12_oneHour_31 ?_
        refine g_iinc (pc := 34) (lv2 := [(0, .ref (em (xE X) 0)), (1, .int (a1 + (1 : Int32)))]) F dX12_oneHour_34 1 rfl (ii_1 _) (by rw [hx]; decide) [1, 0] rfl ?_
        refine g_goto (pc := 37) (tgt := 2) F dX12_oneHour_37 (by decide) ?_
        refine g_sub [0, 1] rfl ?_
        exact ih M7 (a1 + (1 : Int32)) h
set_option maxHeartbeats 4000000 in
set_option maxRecDepth 100000 in
theorem hX12_oneHour {N : Nat} {M : Mem} {res : Mem} (h : mX12_oneHour N M = some res) (l : Launch) (E : Ev) : CtV l E (Wm E) yX12_oneHour cX12_oneHour 2 5 112 [.ref (em E 0)] M res :=
  ctV_of (Wf := Wm) (av := fun E => [.ref (em E 0)]) (lv := fun E => [(0, .ref (em E 0))]) (by decide) (fun _ => rfl) (fun _ => (Nat.le_of_ble_eq_true rfl)) (fun X F hx Rt => by
    have F : Fx X cX12_oneHour RX12 5 112 := F
    unfold mX12_oneHour at h
    refine g_iconst (pc := 0) F dX12_oneHour_0 ic_0 ?_
    refine g_istore_n (pc := 1) (lv2 := [(0, .ref (em (xE X) 0)), (1, .int (0 : Int32))]) F dX12_oneHour_1 rfl (by rw [hx]; decide) [1, 0] rfl ?_
    refine g_sub [0, 1] rfl ?_
    exact wX12_oneHour_b2 F hx Rt N M (0 : Int32) h) l E
set_option maxHeartbeats 4000000 in
set_option maxRecDepth 100000 in
theorem wX12_passes_b2 {X : Cx} (F : Fx X cX12_passes RX12 6 133) (hx : xn X = 3) {N : Nat} {res : Mem} (Rt : RV X Wm res) : ∀ (n : Nat) (M : Mem) (a1 : Int32) (a2 : Int32), mX12_passes_b2 N n M a1 a2 = some res → G X (Wm (xE X) M) 2 [(0, .ref (em (xE X) 0)), (1, .int a1), (2, .int a2)] [] := by
  intro n
  induction n with
  | zero =>
    intro M a1 a2 h
    have h : none = some res := h
    cases h
  | succ n ih =>
    intro M a1 a2 h
    rw [mX12_passes_b2] at h
    refine g_iload_n (pc := 2) (x := a2) F dX12_passes_2 rfl 2 rfl ?_
    refine g_iload_n (pc := 3) (x := a1) F dX12_passes_3 rfl 1 rfl ?_
    refine g_icmp_ge (pc := 4) (tgt := 17) F dX12_passes_4 (by decide) (fun c1 => ?_) (fun c1 => ?_)
    · have h := ite_t c1 h
      obtain rfl := Option.some.inj h
      exact g_vret (pc := 17) (Wf := Wm) F Rt dX12_passes_17
    · have h := ite_f c1 h
      refine g_aload_n (pc := 7) (x := em (xE X) 0) F dX12_passes_7 rfl 0 rfl ?_
      obtain ⟨M2, e3, h⟩ := bd_some h
      refine g_vV (pc := 8) (Wf := Wm) (As := []) (rest := []) F (hX12_oneHour e3 (xl X) (xE X)) kX12_oneHour lX12_135 0 rfl rfl rfl rfl rfl ⟨(Nat.le_of_ble_eq_true rfl), (Nat.le_of_ble_eq_true rfl)⟩ (Nat.le_of_ble_eq_true rfl) dX12_passes_8 ?_
      refine g_iinc (pc := 11) (lv2 := [(0, .ref (em (xE X) 0)), (1, .int a1), (2, .int (a2 + (1 : Int32)))]) F dX12_passes_11 2 rfl (ii_1 _) (by rw [hx]; decide) [1, 2, 0] rfl ?_
      refine g_goto (pc := 14) (tgt := 2) F dX12_passes_14 (by decide) ?_
      refine g_sub [0, 1, 2] rfl ?_
      exact ih M2 a1 (a2 + (1 : Int32)) h
set_option maxHeartbeats 4000000 in
set_option maxRecDepth 100000 in
theorem hX12_passes {N : Nat} {M : Mem} {a1 : Int32} {res : Mem} (h : mX12_passes N M a1 = some res) (l : Launch) (E : Ev) : CtV l E (Wm E) yX12_passes cX12_passes 3 6 133 [.ref (em E 0), .int a1] M res :=
  ctV_of (Wf := Wm) (av := fun E => [.ref (em E 0), .int a1]) (lv := fun E => [(0, .ref (em E 0)), (1, .int a1)]) (by decide) (fun _ => rfl) (fun _ => (Nat.le_of_ble_eq_true rfl)) (fun X F hx Rt => by
    have F : Fx X cX12_passes RX12 6 133 := F
    unfold mX12_passes at h
    refine g_iconst (pc := 0) F dX12_passes_0 ic_0 ?_
    refine g_istore_n (pc := 1) (lv2 := [(0, .ref (em (xE X) 0)), (1, .int a1), (2, .int (0 : Int32))]) F dX12_passes_1 rfl (by rw [hx]; decide) [1, 2, 0] rfl ?_
    refine g_sub [0, 1, 2] rfl ?_
    exact wX12_passes_b2 F hx Rt N M a1 (0 : Int32) h) l E
set_option maxHeartbeats 4000000 in
set_option maxRecDepth 100000 in
theorem hX12_hours {N : Nat} {M : Mem} {a1 : Int32} {res : Int32 × Mem} (h : mX12_hours N M a1 = some res) (l : Launch) (E : Ev) : CtI l E (Wm E) yX12_hours cX12_hours 2 .int 7 155 [.ref (em E 0), .int a1] M res.1 res.2 :=
  ctI_of (Wf := Wm) (av := fun E => [.ref (em E 0), .int a1]) (lv := fun E => [(0, .ref (em E 0)), (1, .int a1)]) (by decide) (fun _ => rfl) (fun _ => (Nat.le_of_ble_eq_true rfl)) (fun X F hx Rt => by
    have F : Fx X cX12_hours RX12 7 155 := F
    unfold mX12_hours at h
    refine g_iload_n (pc := 0) (x := a1) F dX12_hours_0 rfl 1 rfl ?_
    refine g_iconst (pc := 1) F dX12_hours_1 ic_1 ?_
    refine g_bipush (pc := 2) F dX12_hours_2 bp_100 ?_
    obtain ⟨r1, e2, h⟩ := bd_some h
    refine g_sI (pc := 4) (Wf := Wm) (As := [.int a1, .int (1 : Int32), .int (100 : Int32)]) (rest := []) F (hX12_in (M := M) e2 (xl X) (xE X)) kX12_in lX12_45 rfl rfl ⟨(Nat.le_of_ble_eq_true rfl), (Nat.le_of_ble_eq_true rfl)⟩ (Nat.le_of_ble_eq_true rfl) dX12_hours_4 ?_
    refine g_if_ne (pc := 7) (tgt := 17) F dX12_hours_7 (by decide) (fun c3 => ?_) (fun c3 => ?_)
    · have h := ite_f c3 h
      refine g_aload_n (pc := 17) (x := em (xE X) 0) F dX12_hours_17 rfl 0 rfl ?_
      refine g_get (pc := 18) (v := .ref (em (xE X) 1)) F fX12_7 0 rfl rfl dX12_hours_18 ?_
      refine g_iconst (pc := 21) F dX12_hours_21 ic_0 ?_
      refine g_iald (pc := 22) (N := 48) (fn := M.1 0) (j := 0) F 1 0 rfl rfl vi_0_48 cl_0 dX12_hours_22 ?_
      refine g_iload_n (pc := 23) (x := a1) F dX12_hours_23 rfl 1 rfl ?_
      refine g_iadd (pc := 24) F dX12_hours_24 ?_
      refine g_ldc (pc := 25) F oX12_138 dX12_hours_25 ?_
      refine g_icmp_le (pc := 27) (tgt := 37) F dX12_hours_27 (by decide) (fun c4 => ?_) (fun c4 => ?_)
      · have h := ite_t c4 h
        refine g_aload_n (pc := 37) (x := em (xE X) 0) F dX12_hours_37 rfl 0 rfl ?_
        refine g_iload_n (pc := 38) (x := a1) F dX12_hours_38 rfl 1 rfl ?_
        obtain ⟨M5, e6, h⟩ := bd_some h
        refine g_vV (pc := 39) (Wf := Wm) (As := [.int a1]) (rest := []) F (hX12_passes e6 (xl X) (xE X)) kX12_passes lX12_140 0 rfl rfl rfl rfl rfl ⟨(Nat.le_of_ble_eq_true rfl), (Nat.le_of_ble_eq_true rfl)⟩ (Nat.le_of_ble_eq_true rfl) dX12_hours_39 ?_
        refine g_aload_n (pc := 42) (x := em (xE X) 0) F dX12_hours_42 rfl 0 rfl ?_
        refine g_bipush (pc := 43) F dX12_hours_43 bp_6 ?_
        obtain ⟨r7, e8, h⟩ := bd_some h
        refine g_vI (pc := 45) (Wf := Wm) (As := [.int (6 : Int32)]) (rest := []) F (hX12_setOf e8 (xl X) (xE X)) kX12_setOf lX12_79 0 rfl rfl rfl rfl rfl ⟨(Nat.le_of_ble_eq_true rfl), (Nat.le_of_ble_eq_true rfl)⟩ (Nat.le_of_ble_eq_true rfl) dX12_hours_45 ?_
        obtain rfl := Option.some.inj h
        exact g_iret (pc := 48) (Wf := Wm) F Rt rfl dX12_hours_48
      · have h := ite_f c4 h
        refine g_aload_n (pc := 30) (x := em (xE X) 0) F dX12_hours_30 rfl 0 rfl ?_
        refine g_ldc (pc := 31) F oX12_139 dX12_hours_31 ?_
        obtain ⟨q9, e10, h⟩ := bd_some h
        refine g_vI (pc := 33) (Wf := Wm) (As := [.int (-1000000005 : Int32)]) (rest := []) F (hX12_finds e10 (xl X) (xE X)) kX12_finds lX12_53 0 rfl rfl rfl rfl rfl ⟨(Nat.le_of_ble_eq_true rfl), (Nat.le_of_ble_eq_true rfl)⟩ (Nat.le_of_ble_eq_true rfl) dX12_hours_33 ?_
        obtain rfl := Option.some.inj h
        exact g_iret (pc := 36) (Wf := Wm) F Rt rfl dX12_hours_36
    · have h := ite_t c3 h
      refine g_aload_n (pc := 10) (x := em (xE X) 0) F dX12_hours_10 rfl 0 rfl ?_
      refine g_ldc (pc := 11) F oX12_44 dX12_hours_11 ?_
      obtain ⟨q11, e12, h⟩ := bd_some h
      refine g_vI (pc := 13) (Wf := Wm) (As := [.int (-1000000001 : Int32)]) (rest := []) F (hX12_finds e12 (xl X) (xE X)) kX12_finds lX12_53 0 rfl rfl rfl rfl rfl ⟨(Nat.le_of_ble_eq_true rfl), (Nat.le_of_ble_eq_true rfl)⟩ (Nat.le_of_ble_eq_true rfl) dX12_hours_13 ?_
      obtain rfl := Option.some.inj h
      exact g_iret (pc := 16) (Wf := Wm) F Rt rfl dX12_hours_16) l E
set_option maxHeartbeats 4000000 in
set_option maxRecDepth 100000 in
theorem wX12_moveAll_b2_2 {X : Cx} (F : Fx X cX12_moveAll RX12 0 0) (hx : xn X = 4) {N : Nat} {res : Mem} (Rt : RV X Wm res) : ∀ (n : Nat) (M : Mem) (a1 : Int32) (a3 : Int32), mX12_moveAll_b2 N 2 n M a1 a3 = some res → G X (Wm (xE X) M) 2 [(0, .ref (em (xE X) 0)), (1, .int a1), (2, .ref (em (xE X) 3)), (3, .int a3)] [] := by
  intro n
  induction n with
  | zero =>
    intro M a1 a3 h
    have h : none = some res := h
    cases h
  | succ n ih =>
    intro M a1 a3 h
    rw [mX12_moveAll_b2] at h
    refine g_iload_n (pc := 2) (x := a3) F dX12_moveAll_2 rfl 3 rfl ?_
    refine g_bipush (pc := 3) F dX12_moveAll_3 bp_48 ?_
    refine g_icmp_ge (pc := 5) (tgt := 39) F dX12_moveAll_5 (by decide) (fun c1 => ?_) (fun c1 => ?_)
    · have h := ite_t c1 h
      obtain rfl := Option.some.inj h
      exact g_vret (pc := 39) (Wf := Wm) F Rt dX12_moveAll_39
    · have h := ite_f c1 h
      refine g_iload_n (pc := 8) (x := a1) F dX12_moveAll_8 rfl 1 rfl ?_
      refine g_if_eq (pc := 9) (tgt := 24) F dX12_moveAll_9 (by decide) (fun c2 => ?_) (fun c2 => ?_)
      · have h := ite_t c2 h
        refine g_aload_n (pc := 24) (x := em (xE X) 0) F dX12_moveAll_24 rfl 0 rfl ?_
        refine g_get (pc := 25) (v := .ref (em (xE X) 1)) F fX12_7 0 rfl rfl dX12_moveAll_25 ?_
        refine g_iload_n (pc := 28) (x := a3) F dX12_moveAll_28 rfl 3 rfl ?_
        refine g_aload_n (pc := 29) (x := em (xE X) 3) F dX12_moveAll_29 rfl 2 rfl ?_
        refine g_iload_n (pc := 30) (x := a3) F dX12_moveAll_30 rfl 3 rfl ?_
        obtain ⟨i3, h⟩ := ck_some h
        refine g_iald (pc := 31) (N := 48) (fn := M.1 2) (j := a3.toNatClampNeg) F 3 0 rfl rfl i3 rfl dX12_moveAll_31 ?_
        obtain ⟨i4, h⟩ := ck_some h
        refine g_iast (pc := 32) (N := 48) (fn := M.1 0) (j := a3.toNatClampNeg) (ws2 := Wm (xE X) (sI M 0 a3.toNatClampNeg (M.1 2 a3.toNatClampNeg))) F 1 0 rfl rfl i4 rfl (wma_0 _ _ _ _) dX12_moveAll_32 ?_
        refine g_iinc (pc := 33) (lv2 := [(0, .ref (em (xE X) 0)), (1, .int a1), (2, .ref (em (xE X) 3)), (3, .int (a3 + (1 : Int32)))]) F dX12_moveAll_33 3 rfl (ii_1 _) (by rw [hx]; decide) [1, 2, 3, 0] rfl ?_
        refine g_goto (pc := 36) (tgt := 2) F dX12_moveAll_36 (by decide) ?_
        refine g_sub [0, 1, 2, 3] rfl ?_
        exact ih (sI M 0 a3.toNatClampNeg (M.1 2 a3.toNatClampNeg)) a1 (a3 + (1 : Int32)) h
      · have h := ite_f c2 h
        refine g_aload_n (pc := 12) (x := em (xE X) 3) F dX12_moveAll_12 rfl 2 rfl ?_
        refine g_iload_n (pc := 13) (x := a3) F dX12_moveAll_13 rfl 3 rfl ?_
        refine g_aload_n (pc := 14) (x := em (xE X) 0) F dX12_moveAll_14 rfl 0 rfl ?_
        refine g_get (pc := 15) (v := .ref (em (xE X) 1)) F fX12_7 0 rfl rfl dX12_moveAll_15 ?_
        refine g_iload_n (pc := 18) (x := a3) F dX12_moveAll_18 rfl 3 rfl ?_
        obtain ⟨i5, h⟩ := ck_some h
        refine g_iald (pc := 19) (N := 48) (fn := M.1 0) (j := a3.toNatClampNeg) F 1 0 rfl rfl i5 rfl dX12_moveAll_19 ?_
        obtain ⟨i6, h⟩ := ck_some h
        refine g_iast (pc := 20) (N := 48) (fn := M.1 2) (j := a3.toNatClampNeg) (ws2 := Wm (xE X) (sI M 2 a3.toNatClampNeg (M.1 0 a3.toNatClampNeg))) F 3 0 rfl rfl i6 rfl (wma_2 _ _ _ _) dX12_moveAll_20 ?_
        refine g_goto (pc := 21) (tgt := 33) F dX12_moveAll_21 (by decide) ?_
        refine g_iinc (pc := 33) (lv2 := [(0, .ref (em (xE X) 0)), (1, .int a1), (2, .ref (em (xE X) 3)), (3, .int (a3 + (1 : Int32)))]) F dX12_moveAll_33 3 rfl (ii_1 _) (by rw [hx]; decide) [1, 2, 3, 0] rfl ?_
        refine g_goto (pc := 36) (tgt := 2) F dX12_moveAll_36 (by decide) ?_
        refine g_sub [0, 1, 2, 3] rfl ?_
        exact ih (sI M 2 a3.toNatClampNeg (M.1 0 a3.toNatClampNeg)) a1 (a3 + (1 : Int32)) h
set_option maxHeartbeats 4000000 in
set_option maxRecDepth 100000 in
theorem hX12_moveAll_2 {N : Nat} {M : Mem} {a1 : Int32} {res : Mem} (h : mX12_moveAll N 2 M a1 = some res) (l : Launch) (E : Ev) : CtV l E (Wm E) yX12_moveAll cX12_moveAll 4 0 0 [.ref (em E 0), .int a1, .ref (em E 3)] M res :=
  ctV_of (Wf := Wm) (av := fun E => [.ref (em E 0), .int a1, .ref (em E 3)]) (lv := fun E => [(0, .ref (em E 0)), (1, .int a1), (2, .ref (em E 3))]) (by decide) (fun _ => rfl) (fun _ => (Nat.le_of_ble_eq_true rfl)) (fun X F hx Rt => by
    have F : Fx X cX12_moveAll RX12 0 0 := F
    unfold mX12_moveAll at h
    refine g_iconst (pc := 0) F dX12_moveAll_0 ic_0 ?_
    refine g_istore_n (pc := 1) (lv2 := [(0, .ref (em (xE X) 0)), (1, .int a1), (2, .ref (em (xE X) 3)), (3, .int (0 : Int32))]) F dX12_moveAll_1 rfl (by rw [hx]; decide) [1, 2, 3, 0] rfl ?_
    refine g_sub [0, 1, 2, 3] rfl ?_
    exact wX12_moveAll_b2_2 F hx Rt N M a1 (0 : Int32) h) l E
set_option maxHeartbeats 4000000 in
set_option maxRecDepth 100000 in
theorem wX12_moveAll_b2_3 {X : Cx} (F : Fx X cX12_moveAll RX12 0 0) (hx : xn X = 4) {N : Nat} {res : Mem} (Rt : RV X Wm res) : ∀ (n : Nat) (M : Mem) (a1 : Int32) (a3 : Int32), mX12_moveAll_b2 N 3 n M a1 a3 = some res → G X (Wm (xE X) M) 2 [(0, .ref (em (xE X) 0)), (1, .int a1), (2, .ref (em (xE X) 4)), (3, .int a3)] [] := by
  intro n
  induction n with
  | zero =>
    intro M a1 a3 h
    have h : none = some res := h
    cases h
  | succ n ih =>
    intro M a1 a3 h
    rw [mX12_moveAll_b2] at h
    refine g_iload_n (pc := 2) (x := a3) F dX12_moveAll_2 rfl 3 rfl ?_
    refine g_bipush (pc := 3) F dX12_moveAll_3 bp_48 ?_
    refine g_icmp_ge (pc := 5) (tgt := 39) F dX12_moveAll_5 (by decide) (fun c1 => ?_) (fun c1 => ?_)
    · have h := ite_t c1 h
      obtain rfl := Option.some.inj h
      exact g_vret (pc := 39) (Wf := Wm) F Rt dX12_moveAll_39
    · have h := ite_f c1 h
      refine g_iload_n (pc := 8) (x := a1) F dX12_moveAll_8 rfl 1 rfl ?_
      refine g_if_eq (pc := 9) (tgt := 24) F dX12_moveAll_9 (by decide) (fun c2 => ?_) (fun c2 => ?_)
      · have h := ite_t c2 h
        refine g_aload_n (pc := 24) (x := em (xE X) 0) F dX12_moveAll_24 rfl 0 rfl ?_
        refine g_get (pc := 25) (v := .ref (em (xE X) 1)) F fX12_7 0 rfl rfl dX12_moveAll_25 ?_
        refine g_iload_n (pc := 28) (x := a3) F dX12_moveAll_28 rfl 3 rfl ?_
        refine g_aload_n (pc := 29) (x := em (xE X) 4) F dX12_moveAll_29 rfl 2 rfl ?_
        refine g_iload_n (pc := 30) (x := a3) F dX12_moveAll_30 rfl 3 rfl ?_
        obtain ⟨i3, h⟩ := ck_some h
        refine g_iald (pc := 31) (N := 48) (fn := M.1 3) (j := a3.toNatClampNeg) F 4 0 rfl rfl i3 rfl dX12_moveAll_31 ?_
        obtain ⟨i4, h⟩ := ck_some h
        refine g_iast (pc := 32) (N := 48) (fn := M.1 0) (j := a3.toNatClampNeg) (ws2 := Wm (xE X) (sI M 0 a3.toNatClampNeg (M.1 3 a3.toNatClampNeg))) F 1 0 rfl rfl i4 rfl (wma_0 _ _ _ _) dX12_moveAll_32 ?_
        refine g_iinc (pc := 33) (lv2 := [(0, .ref (em (xE X) 0)), (1, .int a1), (2, .ref (em (xE X) 4)), (3, .int (a3 + (1 : Int32)))]) F dX12_moveAll_33 3 rfl (ii_1 _) (by rw [hx]; decide) [1, 2, 3, 0] rfl ?_
        refine g_goto (pc := 36) (tgt := 2) F dX12_moveAll_36 (by decide) ?_
        refine g_sub [0, 1, 2, 3] rfl ?_
        exact ih (sI M 0 a3.toNatClampNeg (M.1 3 a3.toNatClampNeg)) a1 (a3 + (1 : Int32)) h
      · have h := ite_f c2 h
        refine g_aload_n (pc := 12) (x := em (xE X) 4) F dX12_moveAll_12 rfl 2 rfl ?_
        refine g_iload_n (pc := 13) (x := a3) F dX12_moveAll_13 rfl 3 rfl ?_
        refine g_aload_n (pc := 14) (x := em (xE X) 0) F dX12_moveAll_14 rfl 0 rfl ?_
        refine g_get (pc := 15) (v := .ref (em (xE X) 1)) F fX12_7 0 rfl rfl dX12_moveAll_15 ?_
        refine g_iload_n (pc := 18) (x := a3) F dX12_moveAll_18 rfl 3 rfl ?_
        obtain ⟨i5, h⟩ := ck_some h
        refine g_iald (pc := 19) (N := 48) (fn := M.1 0) (j := a3.toNatClampNeg) F 1 0 rfl rfl i5 rfl dX12_moveAll_19 ?_
        obtain ⟨i6, h⟩ := ck_some h
        refine g_iast (pc := 20) (N := 48) (fn := M.1 3) (j := a3.toNatClampNeg) (ws2 := Wm (xE X) (sI M 3 a3.toNatClampNeg (M.1 0 a3.toNatClampNeg))) F 4 0 rfl rfl i6 rfl (wma_3 _ _ _ _) dX12_moveAll_20 ?_
        refine g_goto (pc := 21) (tgt := 33) F dX12_moveAll_21 (by decide) ?_
        refine g_iinc (pc := 33) (lv2 := [(0, .ref (em (xE X) 0)), (1, .int a1), (2, .ref (em (xE X) 4)), (3, .int (a3 + (1 : Int32)))]) F dX12_moveAll_33 3 rfl (ii_1 _) (by rw [hx]; decide) [1, 2, 3, 0] rfl ?_
        refine g_goto (pc := 36) (tgt := 2) F dX12_moveAll_36 (by decide) ?_
        refine g_sub [0, 1, 2, 3] rfl ?_
        exact ih (sI M 3 a3.toNatClampNeg (M.1 0 a3.toNatClampNeg)) a1 (a3 + (1 : Int32)) h
set_option maxHeartbeats 4000000 in
set_option maxRecDepth 100000 in
theorem hX12_moveAll_3 {N : Nat} {M : Mem} {a1 : Int32} {res : Mem} (h : mX12_moveAll N 3 M a1 = some res) (l : Launch) (E : Ev) : CtV l E (Wm E) yX12_moveAll cX12_moveAll 4 0 0 [.ref (em E 0), .int a1, .ref (em E 4)] M res :=
  ctV_of (Wf := Wm) (av := fun E => [.ref (em E 0), .int a1, .ref (em E 4)]) (lv := fun E => [(0, .ref (em E 0)), (1, .int a1), (2, .ref (em E 4))]) (by decide) (fun _ => rfl) (fun _ => (Nat.le_of_ble_eq_true rfl)) (fun X F hx Rt => by
    have F : Fx X cX12_moveAll RX12 0 0 := F
    unfold mX12_moveAll at h
    refine g_iconst (pc := 0) F dX12_moveAll_0 ic_0 ?_
    refine g_istore_n (pc := 1) (lv2 := [(0, .ref (em (xE X) 0)), (1, .int a1), (2, .ref (em (xE X) 4)), (3, .int (0 : Int32))]) F dX12_moveAll_1 rfl (by rw [hx]; decide) [1, 2, 3, 0] rfl ?_
    refine g_sub [0, 1, 2, 3] rfl ?_
    exact wX12_moveAll_b2_3 F hx Rt N M a1 (0 : Int32) h) l E
set_option maxHeartbeats 4000000 in
set_option maxRecDepth 100000 in
theorem wX12_moveAll_b2_7 {X : Cx} (F : Fx X cX12_moveAll RX12 0 0) (hx : xn X = 4) {N : Nat} {res : Mem} (Rt : RV X Wm res) : ∀ (n : Nat) (M : Mem) (a1 : Int32) (a3 : Int32), mX12_moveAll_b2 N 7 n M a1 a3 = some res → G X (Wm (xE X) M) 2 [(0, .ref (em (xE X) 0)), (1, .int a1), (2, .ref (em (xE X) 10)), (3, .int a3)] [] := by
  intro n
  induction n with
  | zero =>
    intro M a1 a3 h
    have h : none = some res := h
    cases h
  | succ n ih =>
    intro M a1 a3 h
    rw [mX12_moveAll_b2] at h
    refine g_iload_n (pc := 2) (x := a3) F dX12_moveAll_2 rfl 3 rfl ?_
    refine g_bipush (pc := 3) F dX12_moveAll_3 bp_48 ?_
    refine g_icmp_ge (pc := 5) (tgt := 39) F dX12_moveAll_5 (by decide) (fun c1 => ?_) (fun c1 => ?_)
    · have h := ite_t c1 h
      obtain rfl := Option.some.inj h
      exact g_vret (pc := 39) (Wf := Wm) F Rt dX12_moveAll_39
    · have h := ite_f c1 h
      refine g_iload_n (pc := 8) (x := a1) F dX12_moveAll_8 rfl 1 rfl ?_
      refine g_if_eq (pc := 9) (tgt := 24) F dX12_moveAll_9 (by decide) (fun c2 => ?_) (fun c2 => ?_)
      · have h := ite_t c2 h
        refine g_aload_n (pc := 24) (x := em (xE X) 0) F dX12_moveAll_24 rfl 0 rfl ?_
        refine g_get (pc := 25) (v := .ref (em (xE X) 1)) F fX12_7 0 rfl rfl dX12_moveAll_25 ?_
        refine g_iload_n (pc := 28) (x := a3) F dX12_moveAll_28 rfl 3 rfl ?_
        refine g_aload_n (pc := 29) (x := em (xE X) 10) F dX12_moveAll_29 rfl 2 rfl ?_
        refine g_iload_n (pc := 30) (x := a3) F dX12_moveAll_30 rfl 3 rfl ?_
        obtain ⟨i3, h⟩ := ck_some h
        refine g_iald (pc := 31) (N := 48) (fn := M.1 7) (j := a3.toNatClampNeg) F 10 0 rfl rfl i3 rfl dX12_moveAll_31 ?_
        obtain ⟨i4, h⟩ := ck_some h
        refine g_iast (pc := 32) (N := 48) (fn := M.1 0) (j := a3.toNatClampNeg) (ws2 := Wm (xE X) (sI M 0 a3.toNatClampNeg (M.1 7 a3.toNatClampNeg))) F 1 0 rfl rfl i4 rfl (wma_0 _ _ _ _) dX12_moveAll_32 ?_
        refine g_iinc (pc := 33) (lv2 := [(0, .ref (em (xE X) 0)), (1, .int a1), (2, .ref (em (xE X) 10)), (3, .int (a3 + (1 : Int32)))]) F dX12_moveAll_33 3 rfl (ii_1 _) (by rw [hx]; decide) [1, 2, 3, 0] rfl ?_
        refine g_goto (pc := 36) (tgt := 2) F dX12_moveAll_36 (by decide) ?_
        refine g_sub [0, 1, 2, 3] rfl ?_
        exact ih (sI M 0 a3.toNatClampNeg (M.1 7 a3.toNatClampNeg)) a1 (a3 + (1 : Int32)) h
      · have h := ite_f c2 h
        refine g_aload_n (pc := 12) (x := em (xE X) 10) F dX12_moveAll_12 rfl 2 rfl ?_
        refine g_iload_n (pc := 13) (x := a3) F dX12_moveAll_13 rfl 3 rfl ?_
        refine g_aload_n (pc := 14) (x := em (xE X) 0) F dX12_moveAll_14 rfl 0 rfl ?_
        refine g_get (pc := 15) (v := .ref (em (xE X) 1)) F fX12_7 0 rfl rfl dX12_moveAll_15 ?_
        refine g_iload_n (pc := 18) (x := a3) F dX12_moveAll_18 rfl 3 rfl ?_
        obtain ⟨i5, h⟩ := ck_some h
        refine g_iald (pc := 19) (N := 48) (fn := M.1 0) (j := a3.toNatClampNeg) F 1 0 rfl rfl i5 rfl dX12_moveAll_19 ?_
        obtain ⟨i6, h⟩ := ck_some h
        refine g_iast (pc := 20) (N := 48) (fn := M.1 7) (j := a3.toNatClampNeg) (ws2 := Wm (xE X) (sI M 7 a3.toNatClampNeg (M.1 0 a3.toNatClampNeg))) F 10 0 rfl rfl i6 rfl (wma_7 _ _ _ _) dX12_moveAll_20 ?_
        refine g_goto (pc := 21) (tgt := 33) F dX12_moveAll_21 (by decide) ?_
        refine g_iinc (pc := 33) (lv2 := [(0, .ref (em (xE X) 0)), (1, .int a1), (2, .ref (em (xE X) 10)), (3, .int (a3 + (1 : Int32)))]) F dX12_moveAll_33 3 rfl (ii_1 _) (by rw [hx]; decide) [1, 2, 3, 0] rfl ?_
        refine g_goto (pc := 36) (tgt := 2) F dX12_moveAll_36 (by decide) ?_
        refine g_sub [0, 1, 2, 3] rfl ?_
        exact ih (sI M 7 a3.toNatClampNeg (M.1 0 a3.toNatClampNeg)) a1 (a3 + (1 : Int32)) h
set_option maxHeartbeats 4000000 in
set_option maxRecDepth 100000 in
theorem hX12_moveAll_7 {N : Nat} {M : Mem} {a1 : Int32} {res : Mem} (h : mX12_moveAll N 7 M a1 = some res) (l : Launch) (E : Ev) : CtV l E (Wm E) yX12_moveAll cX12_moveAll 4 0 0 [.ref (em E 0), .int a1, .ref (em E 10)] M res :=
  ctV_of (Wf := Wm) (av := fun E => [.ref (em E 0), .int a1, .ref (em E 10)]) (lv := fun E => [(0, .ref (em E 0)), (1, .int a1), (2, .ref (em E 10))]) (by decide) (fun _ => rfl) (fun _ => (Nat.le_of_ble_eq_true rfl)) (fun X F hx Rt => by
    have F : Fx X cX12_moveAll RX12 0 0 := F
    unfold mX12_moveAll at h
    refine g_iconst (pc := 0) F dX12_moveAll_0 ic_0 ?_
    refine g_istore_n (pc := 1) (lv2 := [(0, .ref (em (xE X) 0)), (1, .int a1), (2, .ref (em (xE X) 10)), (3, .int (0 : Int32))]) F dX12_moveAll_1 rfl (by rw [hx]; decide) [1, 2, 3, 0] rfl ?_
    refine g_sub [0, 1, 2, 3] rfl ?_
    exact wX12_moveAll_b2_7 F hx Rt N M a1 (0 : Int32) h) l E
set_option maxHeartbeats 4000000 in
set_option maxRecDepth 100000 in
theorem wX12_moveAll_b2_8 {X : Cx} (F : Fx X cX12_moveAll RX12 0 0) (hx : xn X = 4) {N : Nat} {res : Mem} (Rt : RV X Wm res) : ∀ (n : Nat) (M : Mem) (a1 : Int32) (a3 : Int32), mX12_moveAll_b2 N 8 n M a1 a3 = some res → G X (Wm (xE X) M) 2 [(0, .ref (em (xE X) 0)), (1, .int a1), (2, .ref (em (xE X) 11)), (3, .int a3)] [] := by
  intro n
  induction n with
  | zero =>
    intro M a1 a3 h
    have h : none = some res := h
    cases h
  | succ n ih =>
    intro M a1 a3 h
    rw [mX12_moveAll_b2] at h
    refine g_iload_n (pc := 2) (x := a3) F dX12_moveAll_2 rfl 3 rfl ?_
    refine g_bipush (pc := 3) F dX12_moveAll_3 bp_48 ?_
    refine g_icmp_ge (pc := 5) (tgt := 39) F dX12_moveAll_5 (by decide) (fun c1 => ?_) (fun c1 => ?_)
    · have h := ite_t c1 h
      obtain rfl := Option.some.inj h
      exact g_vret (pc := 39) (Wf := Wm) F Rt dX12_moveAll_39
    · have h := ite_f c1 h
      refine g_iload_n (pc := 8) (x := a1) F dX12_moveAll_8 rfl 1 rfl ?_
      refine g_if_eq (pc := 9) (tgt := 24) F dX12_moveAll_9 (by decide) (fun c2 => ?_) (fun c2 => ?_)
      · have h := ite_t c2 h
        refine g_aload_n (pc := 24) (x := em (xE X) 0) F dX12_moveAll_24 rfl 0 rfl ?_
        refine g_get (pc := 25) (v := .ref (em (xE X) 1)) F fX12_7 0 rfl rfl dX12_moveAll_25 ?_
        refine g_iload_n (pc := 28) (x := a3) F dX12_moveAll_28 rfl 3 rfl ?_
        refine g_aload_n (pc := 29) (x := em (xE X) 11) F dX12_moveAll_29 rfl 2 rfl ?_
        refine g_iload_n (pc := 30) (x := a3) F dX12_moveAll_30 rfl 3 rfl ?_
        obtain ⟨i3, h⟩ := ck_some h
        refine g_iald (pc := 31) (N := 48) (fn := M.1 8) (j := a3.toNatClampNeg) F 11 0 rfl rfl i3 rfl dX12_moveAll_31 ?_
        obtain ⟨i4, h⟩ := ck_some h
        refine g_iast (pc := 32) (N := 48) (fn := M.1 0) (j := a3.toNatClampNeg) (ws2 := Wm (xE X) (sI M 0 a3.toNatClampNeg (M.1 8 a3.toNatClampNeg))) F 1 0 rfl rfl i4 rfl (wma_0 _ _ _ _) dX12_moveAll_32 ?_
        refine g_iinc (pc := 33) (lv2 := [(0, .ref (em (xE X) 0)), (1, .int a1), (2, .ref (em (xE X) 11)), (3, .int (a3 + (1 : Int32)))]) F dX12_moveAll_33 3 rfl (ii_1 _) (by rw [hx]; decide) [1, 2, 3, 0] rfl ?_
        refine g_goto (pc := 36) (tgt := 2) F dX12_moveAll_36 (by decide) ?_
        refine g_sub [0, 1, 2, 3] rfl ?_
        exact ih (sI M 0 a3.toNatClampNeg (M.1 8 a3.toNatClampNeg)) a1 (a3 + (1 : Int32)) h
      · have h := ite_f c2 h
        refine g_aload_n (pc := 12) (x := em (xE X) 11) F dX12_moveAll_12 rfl 2 rfl ?_
        refine g_iload_n (pc := 13) (x := a3) F dX12_moveAll_13 rfl 3 rfl ?_
        refine g_aload_n (pc := 14) (x := em (xE X) 0) F dX12_moveAll_14 rfl 0 rfl ?_
        refine g_get (pc := 15) (v := .ref (em (xE X) 1)) F fX12_7 0 rfl rfl dX12_moveAll_15 ?_
        refine g_iload_n (pc := 18) (x := a3) F dX12_moveAll_18 rfl 3 rfl ?_
        obtain ⟨i5, h⟩ := ck_some h
        refine g_iald (pc := 19) (N := 48) (fn := M.1 0) (j := a3.toNatClampNeg) F 1 0 rfl rfl i5 rfl dX12_moveAll_19 ?_
        obtain ⟨i6, h⟩ := ck_some h
        refine g_iast (pc := 20) (N := 48) (fn := M.1 8) (j := a3.toNatClampNeg) (ws2 := Wm (xE X) (sI M 8 a3.toNatClampNeg (M.1 0 a3.toNatClampNeg))) F 11 0 rfl rfl i6 rfl (wma_8 _ _ _ _) dX12_moveAll_20 ?_
        refine g_goto (pc := 21) (tgt := 33) F dX12_moveAll_21 (by decide) ?_
        refine g_iinc (pc := 33) (lv2 := [(0, .ref (em (xE X) 0)), (1, .int a1), (2, .ref (em (xE X) 11)), (3, .int (a3 + (1 : Int32)))]) F dX12_moveAll_33 3 rfl (ii_1 _) (by rw [hx]; decide) [1, 2, 3, 0] rfl ?_
        refine g_goto (pc := 36) (tgt := 2) F dX12_moveAll_36 (by decide) ?_
        refine g_sub [0, 1, 2, 3] rfl ?_
        exact ih (sI M 8 a3.toNatClampNeg (M.1 0 a3.toNatClampNeg)) a1 (a3 + (1 : Int32)) h
set_option maxHeartbeats 4000000 in
set_option maxRecDepth 100000 in
theorem hX12_moveAll_8 {N : Nat} {M : Mem} {a1 : Int32} {res : Mem} (h : mX12_moveAll N 8 M a1 = some res) (l : Launch) (E : Ev) : CtV l E (Wm E) yX12_moveAll cX12_moveAll 4 0 0 [.ref (em E 0), .int a1, .ref (em E 11)] M res :=
  ctV_of (Wf := Wm) (av := fun E => [.ref (em E 0), .int a1, .ref (em E 11)]) (lv := fun E => [(0, .ref (em E 0)), (1, .int a1), (2, .ref (em E 11))]) (by decide) (fun _ => rfl) (fun _ => (Nat.le_of_ble_eq_true rfl)) (fun X F hx Rt => by
    have F : Fx X cX12_moveAll RX12 0 0 := F
    unfold mX12_moveAll at h
    refine g_iconst (pc := 0) F dX12_moveAll_0 ic_0 ?_
    refine g_istore_n (pc := 1) (lv2 := [(0, .ref (em (xE X) 0)), (1, .int a1), (2, .ref (em (xE X) 11)), (3, .int (0 : Int32))]) F dX12_moveAll_1 rfl (by rw [hx]; decide) [1, 2, 3, 0] rfl ?_
    refine g_sub [0, 1, 2, 3] rfl ?_
    exact wX12_moveAll_b2_8 F hx Rt N M a1 (0 : Int32) h) l E
