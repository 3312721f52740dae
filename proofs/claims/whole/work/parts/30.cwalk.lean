set_option maxHeartbeats 4000000 in
set_option maxRecDepth 100000 in
theorem hX11_as {M : Mem} {a1 : Int32} {a2 : Int32} {res : Int32 × Mem} (h : mX11_as M a1 a2 = some res) (l : Launch) (E : Ev) : CtI l E (Wc E) yX11_as cX11_as 4 .int 3 63 [.ref (ec E 0), .int a1, .int a2] M res.1 res.2 :=
  ctI_of (Wf := Wc) (av := fun E => [.ref (ec E 0), .int a1, .int a2]) (lv := fun E => [(0, .ref (ec E 0)), (1, .int a1), (2, .int a2)]) (by decide) (fun _ => rfl) (fun _ => (Nat.le_of_ble_eq_true rfl)) (fun X F hx Rt => by
    have F : Fx X cX11_as RX11 3 63 := F
    unfold mX11_as at h
    refine g_aload_n (pc := 0) (x := ec (xE X) 0) F dX11_as_0 rfl 0 rfl ?_
    refine g_iload_n (pc := 1) (x := a1) F dX11_as_1 rfl 1 rfl ?_
    obtain ⟨r1, e2, h⟩ := bd_some h
    refine g_vI (pc := 2) (Wf := Wc) (As := [.int a1]) (rest := []) F (hX11_isShip e2 (xl X) (xE X)) kX11_isShip lX11_141 0 rfl (wc_T _ _) rfl rfl rfl ⟨(Nat.le_of_ble_eq_true rfl), (Nat.le_of_ble_eq_true rfl)⟩ (Nat.le_of_ble_eq_true rfl) dX11_as_2 ?_
    refine g_if_eq (pc := 5) (tgt := 15) F dX11_as_5 (by decide) (fun c3 => ?_) (fun c3 => ?_)
    · have h := ite_t c3 h
      refine g_aload_n (pc := 15) (x := ec (xE X) 0) F dX11_as_15 rfl 0 rfl ?_
      refine g_ldc (pc := 16) F oX11_81 dX11_as_16 ?_
      obtain ⟨q4, e5, h⟩ := bd_some h
      refine g_vI (pc := 18) (Wf := Wc) (As := [.int (-1000000001 : Int32)]) (rest := []) F (hX11_found e5 (xl X) (xE X)) kX11_found lX11_82 0 rfl (wc_T _ _) rfl rfl rfl ⟨(Nat.le_of_ble_eq_true rfl), (Nat.le_of_ble_eq_true rfl)⟩ (Nat.le_of_ble_eq_true rfl) dX11_as_18 ?_
      obtain rfl := Option.some.inj h
      exact g_iret (pc := 21) (Wf := Wc) F Rt rfl dX11_as_21
    · have h := ite_f c3 h
      refine g_iload_n (pc := 8) (x := a2) F dX11_as_8 rfl 2 rfl ?_
      obtain ⟨r6, e7, h⟩ := bd_some h
      refine g_sI (pc := 9) (Wf := Wc) (As := [.int a2]) (rest := []) F (hX11_isKind (M := M) e7 (xl X) (xE X)) kX11_isKind lX11_126 rfl rfl ⟨(Nat.le_of_ble_eq_true rfl), (Nat.le_of_ble_eq_true rfl)⟩ (Nat.le_of_ble_eq_true rfl) dX11_as_9 ?_
      refine g_if_ne (pc := 12) (tgt := 22) F dX11_as_12 (by decide) (fun c8 => ?_) (fun c8 => ?_)
      · have h := ite_f c8 h
        refine g_aload_n (pc := 22) (x := ec (xE X) 0) F dX11_as_22 rfl 0 rfl ?_
        refine g_get (pc := 23) (v := .ref (ec (xE X) (8 + 0))) F fX11_36 0 (wc_T _ _) rfl dX11_as_23 ?_
        refine g_get (pc := 26) (v := .ref (ec (xE X) (11 + 0))) F fX11_144 (8 + 0) (wc_S _ _ (by decide)) rfl dX11_as_26 ?_
        refine g_iload_n (pc := 29) (x := a1) F dX11_as_29 rfl 1 rfl ?_
        obtain ⟨i9, h⟩ := ck_some h
        refine g_aald (pc := 30) (C := "TowerWarns$Vessel") (b := ec (xE X) (14 + 6 * 0 + a1.toNatClampNeg)) F (11 + 0) 3 (wc_A _ _ (by decide)) rfl i9 rfl dX11_as_30 ?_
        refine g_astore_n (pc := 31) (lv2 := [(0, .ref (ec (xE X) 0)), (1, .int a1), (2, .int a2), (3, .ref (ec (xE X) (14 + 6 * 0 + a1.toNatClampNeg)))]) F dX11_as_31 rfl (by rw [hx]; decide) [1, 2, 3, 0] rfl ?_
        refine g_aload_n (pc := 32) (x := ec (xE X) (14 + 6 * 0 + a1.toNatClampNeg)) F dX11_as_32 rfl 3 rfl ?_
        refine g_get (pc := 33) (v := .ref (ec (xE X) (2 + (M.1 0 (6 + 7 * a1.toNatClampNeg + 0)).toNatClampNeg))) F fX11_164 (14 + 6 * 0 + a1.toNatClampNeg) (wc_V _ _ (by decide) (ok_lt i9)) rfl dX11_as_33 ?_
        refine g_iload_n (pc := 36) (x := a2) F dX11_as_36 rfl 2 rfl ?_
        obtain ⟨r10, e11, h⟩ := bd_some h
        refine gd_isUnder (pc := 37) (rest := []) F e11 lX11_171 rfl ⟨(Nat.le_of_ble_eq_true rfl), (Nat.le_of_ble_eq_true rfl)⟩ (Nat.le_of_ble_eq_true rfl) dX11_as_37 ?_
        refine g_if_eq (pc := 40) (tgt := 50) F dX11_as_40 (by decide) (fun c12 => ?_) (fun c12 => ?_)
        · have h := ite_t c12 h
          refine g_aload_n (pc := 50) (x := ec (xE X) 0) F dX11_as_50 rfl 0 rfl ?_
          refine g_ldc (pc := 51) F oX11_177 dX11_as_51 ?_
          obtain ⟨q13, e14, h⟩ := bd_some h
          refine g_vI (pc := 53) (Wf := Wc) (As := [.int (-1000000003 : Int32)]) (rest := []) F (hX11_found e14 (xl X) (xE X)) kX11_found lX11_82 0 rfl (wc_T _ _) rfl rfl rfl ⟨(Nat.le_of_ble_eq_true rfl), (Nat.le_of_ble_eq_true rfl)⟩ (Nat.le_of_ble_eq_true rfl) dX11_as_53 ?_
          obtain rfl := Option.some.inj h
          exact g_iret (pc := 56) (Wf := Wc) F Rt rfl dX11_as_56
        · have h := ite_f c12 h
          refine g_aload_n (pc := 43) (x := ec (xE X) (14 + 6 * 0 + a1.toNatClampNeg)) F dX11_as_43 rfl 3 rfl ?_
          refine g_get (pc := 44) (v := .int (M.1 0 (6 + 7 * a1.toNatClampNeg + 3))) F fX11_174 (14 + 6 * 0 + a1.toNatClampNeg) (wc_V _ _ (by decide) (ok_lt i9)) rfl dX11_as_44 ?_
          refine g_goto (pc := 47) (tgt := 56) F dX11_as_47 (by decide) ?_
          obtain rfl := Option.some.inj h
          exact g_iret (pc := 56) (Wf := Wc) F Rt rfl dX11_as_56
      · have h := ite_t c8 h
        refine g_aload_n (pc := 15) (x := ec (xE X) 0) F dX11_as_15 rfl 0 rfl ?_
        refine g_ldc (pc := 16) F oX11_81 dX11_as_16 ?_
        obtain ⟨q15, e16, h⟩ := bd_some h
        refine g_vI (pc := 18) (Wf := Wc) (As := [.int (-1000000001 : Int32)]) (rest := []) F (hX11_found e16 (xl X) (xE X)) kX11_found lX11_82 0 rfl (wc_T _ _) rfl rfl rfl ⟨(Nat.le_of_ble_eq_true rfl), (Nat.le_of_ble_eq_true rfl)⟩ (Nat.le_of_ble_eq_true rfl) dX11_as_18 ?_
        obtain rfl := Option.some.inj h
        exact g_iret (pc := 21) (Wf := Wc) F Rt rfl dX11_as_21) l E
set_option maxHeartbeats 4000000 in
set_option maxRecDepth 100000 in
theorem hX11_hours {N : Nat} {M : Mem} {a1 : Int32} {res : Int32 × Mem} (h : mX11_hours N M a1 = some res) (l : Launch) (E : Ev) : CtI l E (Wc E) yX11_hours cX11_hours 2 .int 5 121 [.ref (ec E 0), .int a1] M res.1 res.2 :=
  ctI_of (Wf := Wc) (av := fun E => [.ref (ec E 0), .int a1]) (lv := fun E => [(0, .ref (ec E 0)), (1, .int a1)]) (by decide) (fun _ => rfl) (fun _ => (Nat.le_of_ble_eq_true rfl)) (fun X F hx Rt => by
    have F : Fx X cX11_hours RX11 5 121 := F
    unfold mX11_hours at h
    refine g_iload_n (pc := 0) (x := a1) F dX11_hours_0 rfl 1 rfl ?_
    refine g_iconst (pc := 1) F dX11_hours_1 ic_1 ?_
    refine g_bipush (pc := 2) F dX11_hours_2 bp_100 ?_
    obtain ⟨r1, e2, h⟩ := bd_some h
    refine g_sI (pc := 4) (Wf := Wc) (As := [.int a1, .int (1 : Int32), .int (100 : Int32)]) (rest := []) F (hX11_isWithin (M := M) e2 (xl X) (xE X)) kX11_isWithin lX11_77 rfl rfl ⟨(Nat.le_of_ble_eq_true rfl), (Nat.le_of_ble_eq_true rfl)⟩ (Nat.le_of_ble_eq_true rfl) dX11_hours_4 ?_
    refine g_if_ne (pc := 7) (tgt := 17) F dX11_hours_7 (by decide) (fun c3 => ?_) (fun c3 => ?_)
    · have h := ite_f c3 h
      refine g_aload_n (pc := 17) (x := ec (xE X) 0) F dX11_hours_17 rfl 0 rfl ?_
      refine g_get (pc := 18) (v := .ref (ec (xE X) (8 + 0))) F fX11_36 0 (wc_T _ _) rfl dX11_hours_18 ?_
      refine g_get (pc := 21) (v := .int (M.1 0 0)) F fX11_103 (8 + 0) (wc_S _ _ (by decide)) rfl dX11_hours_21 ?_
      refine g_iload_n (pc := 24) (x := a1) F dX11_hours_24 rfl 1 rfl ?_
      refine g_iadd (pc := 25) F dX11_hours_25 ?_
      refine g_ldc (pc := 26) F oX11_178 dX11_hours_26 ?_
      refine g_icmp_le (pc := 28) (tgt := 38) F dX11_hours_28 (by decide) (fun c4 => ?_) (fun c4 => ?_)
      · have h := ite_t c4 h
        refine g_aload_n (pc := 38) (x := ec (xE X) 0) F dX11_hours_38 rfl 0 rfl ?_
        refine g_get (pc := 39) (v := .ref (ec (xE X) (8 + 0))) F fX11_36 0 (wc_T _ _) rfl dX11_hours_39 ?_
        refine g_iload_n (pc := 42) (x := a1) F dX11_hours_42 rfl 1 rfl ?_
        obtain ⟨M5, e6, h⟩ := bd_some h
        refine g_vV (pc := 43) (Wf := Wc) (As := [.int a1]) (rest := []) F (hX4_pass (by decide) e6 (xl X) (xE X)) kX4_pass lX11_180 (8 + 0) rfl (wc_S _ _ (by decide)) rfl rfl rfl ⟨(Nat.le_of_ble_eq_true rfl), (Nat.le_of_ble_eq_true rfl)⟩ (Nat.le_of_ble_eq_true rfl) dX11_hours_43 ?_
        refine g_aload_n (pc := 46) (x := ec (xE X) 0) F dX11_hours_46 rfl 0 rfl ?_
        refine g_get (pc := 47) (v := .ref (ec (xE X) (8 + 0))) F fX11_36 0 (wc_T _ _) rfl dX11_hours_47 ?_
        obtain ⟨r7, e8, h⟩ := bd_some h
        refine g_vI (pc := 50) (Wf := Wc) (As := []) (rest := []) F (hX4_onesBy (by decide) e8 (xl X) (xE X)) kX4_onesBy lX11_123 (8 + 0) rfl (wc_S _ _ (by decide)) rfl rfl rfl ⟨(Nat.le_of_ble_eq_true rfl), (Nat.le_of_ble_eq_true rfl)⟩ (Nat.le_of_ble_eq_true rfl) dX11_hours_50 ?_
        obtain rfl := Option.some.inj h
        exact g_iret (pc := 53) (Wf := Wc) F Rt rfl dX11_hours_53
      · have h := ite_f c4 h
        refine g_aload_n (pc := 31) (x := ec (xE X) 0) F dX11_hours_31 rfl 0 rfl ?_
        refine g_ldc (pc := 32) F oX11_179 dX11_hours_32 ?_
        obtain ⟨q9, e10, h⟩ := bd_some h
        refine g_vI (pc := 34) (Wf := Wc) (As := [.int (-1000000005 : Int32)]) (rest := []) F (hX11_found e10 (xl X) (xE X)) kX11_found lX11_82 0 rfl (wc_T _ _) rfl rfl rfl ⟨(Nat.le_of_ble_eq_true rfl), (Nat.le_of_ble_eq_true rfl)⟩ (Nat.le_of_ble_eq_true rfl) dX11_hours_34 ?_
        obtain rfl := Option.some.inj h
        exact g_iret (pc := 37) (Wf := Wc) F Rt rfl dX11_hours_37
    · have h := ite_t c3 h
      refine g_aload_n (pc := 10) (x := ec (xE X) 0) F dX11_hours_10 rfl 0 rfl ?_
      refine g_ldc (pc := 11) F oX11_81 dX11_hours_11 ?_
      obtain ⟨q11, e12, h⟩ := bd_some h
      refine g_vI (pc := 13) (Wf := Wc) (As := [.int (-1000000001 : Int32)]) (rest := []) F (hX11_found e12 (xl X) (xE X)) kX11_found lX11_82 0 rfl (wc_T _ _) rfl rfl rfl ⟨(Nat.le_of_ble_eq_true rfl), (Nat.le_of_ble_eq_true rfl)⟩ (Nat.le_of_ble_eq_true rfl) dX11_hours_13 ?_
      obtain rfl := Option.some.inj h
      exact g_iret (pc := 16) (Wf := Wc) F Rt rfl dX11_hours_16) l E
set_option maxHeartbeats 4000000 in
set_option maxRecDepth 100000 in
theorem hX11_tryAlone {M : Mem} {a1 : Int32} {res : Mem} (h : mX11_tryAlone M a1 = some res) (l : Launch) (E : Ev) : CtV l E (Wc E) yX11_tryAlone cX11_tryAlone 2 2 43 [.ref (ec E 0), .int a1] M res :=
  ctV_of (Wf := Wc) (av := fun E => [.ref (ec E 0), .int a1]) (lv := fun E => [(0, .ref (ec E 0)), (1, .int a1)]) (by decide) (fun _ => rfl) (fun _ => (Nat.le_of_ble_eq_true rfl)) (fun X F hx Rt => by
    have F : Fx X cX11_tryAlone RX11 2 43 := F
    unfold mX11_tryAlone at h
    refine g_aload_n (pc := 0) (x := ec (xE X) 0) F dX11_tryAlone_0 rfl 0 rfl ?_
    refine g_get (pc := 1) (v := .ref (ec (xE X) (8 + 2))) F fX11_43 0 (wc_T _ _) rfl dX11_tryAlone_1 ?_
    refine g_aload_n (pc := 4) (x := ec (xE X) 0) F dX11_tryAlone_4 rfl 0 rfl ?_
    refine g_get (pc := 5) (v := .ref (ec (xE X) (8 + 0))) F fX11_36 0 (wc_T _ _) rfl dX11_tryAlone_5 ?_
    refine g_iload_n (pc := 8) (x := a1) F dX11_tryAlone_8 rfl 1 rfl ?_
    obtain ⟨M1, e2, h⟩ := bd_some h
    refine g_vV (pc := 9) (Wf := Wc) (As := [.ref (ec (xE X) (8 + 0)), .int a1]) (rest := []) F (hX4_becomeWithOne (by decide) (by decide) e2 (xl X) (xE X)) kX4_becomeWithOne lX11_281 (8 + 2) rfl (wc_S _ _ (by decide)) rfl rfl rfl ⟨(Nat.le_of_ble_eq_true rfl), (Nat.le_of_ble_eq_true rfl)⟩ (Nat.le_of_ble_eq_true rfl) dX11_tryAlone_9 ?_
    obtain rfl := Option.some.inj h
    exact g_vret (pc := 12) (Wf := Wc) F Rt dX11_tryAlone_12) l E
set_option maxHeartbeats 4000000 in
set_option maxRecDepth 100000 in
theorem hX11_on {N : Nat} {M : Mem} {a1 : Int32} {a2 : Int32} {a3 : Int32} {res : Int32 × Mem} (h : mX11_on N M a1 a2 a3 = some res) (l : Launch) (E : Ev) : CtI l E (Wc E) yX11_on cX11_on 4 .int 5 121 [.ref (ec E 0), .int a1, .int a2, .int a3] M res.1 res.2 :=
  ctI_of (Wf := Wc) (av := fun E => [.ref (ec E 0), .int a1, .int a2, .int a3]) (lv := fun E => [(0, .ref (ec E 0)), (1, .int a1), (2, .int a2), (3, .int a3)]) (by decide) (fun _ => rfl) (fun _ => (Nat.le_of_ble_eq_true rfl)) (fun X F hx Rt => by
    have F : Fx X cX11_on RX11 5 121 := F
    unfold mX11_on at h
    refine g_aload_n (pc := 0) (x := ec (xE X) 0) F dX11_on_0 rfl 0 rfl ?_
    refine g_iload_n (pc := 1) (x := a1) F dX11_on_1 rfl 1 rfl ?_
    obtain ⟨r1, e2, h⟩ := bd_some h
    refine g_vI (pc := 2) (Wf := Wc) (As := [.int a1]) (rest := []) F (hX11_isShip e2 (xl X) (xE X)) kX11_isShip lX11_141 0 rfl (wc_T _ _) rfl rfl rfl ⟨(Nat.le_of_ble_eq_true rfl), (Nat.le_of_ble_eq_true rfl)⟩ (Nat.le_of_ble_eq_true rfl) dX11_on_2 ?_
    refine g_if_eq (pc := 5) (tgt := 27) F dX11_on_5 (by decide) (fun c3 => ?_) (fun c3 => ?_)
    · have h := ite_t c3 h
      refine g_aload_n (pc := 27) (x := ec (xE X) 0) F dX11_on_27 rfl 0 rfl ?_
      refine g_ldc (pc := 28) F oX11_81 dX11_on_28 ?_
      obtain ⟨q4, e5, h⟩ := bd_some h
      refine g_vI (pc := 30) (Wf := Wc) (As := [.int (-1000000001 : Int32)]) (rest := []) F (hX11_found e5 (xl X) (xE X)) kX11_found lX11_82 0 rfl (wc_T _ _) rfl rfl rfl ⟨(Nat.le_of_ble_eq_true rfl), (Nat.le_of_ble_eq_true rfl)⟩ (Nat.le_of_ble_eq_true rfl) dX11_on_30 ?_
      obtain rfl := Option.some.inj h
      exact g_iret (pc := 33) (Wf := Wc) F Rt rfl dX11_on_33
    · have h := ite_f c3 h
      refine g_iload_n (pc := 8) (x := a2) F dX11_on_8 rfl 2 rfl ?_
      refine g_iconst (pc := 9) F dX11_on_9 ic_0 ?_
      refine g_bipush (pc := 10) F dX11_on_10 bp_100 ?_
      obtain ⟨r6, e7, h⟩ := bd_some h
      refine g_sI (pc := 12) (Wf := Wc) (As := [.int a2, .int (0 : Int32), .int (100 : Int32)]) (rest := []) F (hX11_isWithin (M := M) e7 (xl X) (xE X)) kX11_isWithin lX11_77 rfl rfl ⟨(Nat.le_of_ble_eq_true rfl), (Nat.le_of_ble_eq_true rfl)⟩ (Nat.le_of_ble_eq_true rfl) dX11_on_12 ?_
      refine g_if_eq (pc := 15) (tgt := 27) F dX11_on_15 (by decide) (fun c8 => ?_) (fun c8 => ?_)
      · have h := ite_t c8 h
        refine g_aload_n (pc := 27) (x := ec (xE X) 0) F dX11_on_27 rfl 0 rfl ?_
        refine g_ldc (pc := 28) F oX11_81 dX11_on_28 ?_
        obtain ⟨q9, e10, h⟩ := bd_some h
        refine g_vI (pc := 30) (Wf := Wc) (As := [.int (-1000000001 : Int32)]) (rest := []) F (hX11_found e10 (xl X) (xE X)) kX11_found lX11_82 0 rfl (wc_T _ _) rfl rfl rfl ⟨(Nat.le_of_ble_eq_true rfl), (Nat.le_of_ble_eq_true rfl)⟩ (Nat.le_of_ble_eq_true rfl) dX11_on_30 ?_
        obtain rfl := Option.some.inj h
        exact g_iret (pc := 33) (Wf := Wc) F Rt rfl dX11_on_33
      · have h := ite_f c8 h
        refine g_iload_n (pc := 18) (x := a3) F dX11_on_18 rfl 3 rfl ?_
        refine g_iconst (pc := 19) F dX11_on_19 ic_0 ?_
        refine g_iconst (pc := 20) F dX11_on_20 ic_3 ?_
        obtain ⟨r11, e12, h⟩ := bd_some h
        refine g_sI (pc := 21) (Wf := Wc) (As := [.int a3, .int (0 : Int32), .int (3 : Int32)]) (rest := []) F (hX11_isWithin (M := M) e12 (xl X) (xE X)) kX11_isWithin lX11_77 rfl rfl ⟨(Nat.le_of_ble_eq_true rfl), (Nat.le_of_ble_eq_true rfl)⟩ (Nat.le_of_ble_eq_true rfl) dX11_on_21 ?_
        refine g_if_ne (pc := 24) (tgt := 34) F dX11_on_24 (by decide) (fun c13 => ?_) (fun c13 => ?_)
        · have h := ite_f c13 h
          refine g_aload_n (pc := 34) (x := ec (xE X) 0) F dX11_on_34 rfl 0 rfl ?_
          refine g_iload_n (pc := 35) (x := a1) F dX11_on_35 rfl 1 rfl ?_
          obtain ⟨M14, e15, h⟩ := bd_some h
          refine g_vV (pc := 36) (Wf := Wc) (As := [.int a1]) (rest := []) F (hX11_tryAlone e15 (xl X) (xE X)) kX11_tryAlone lX11_184 0 rfl (wc_T _ _) rfl rfl rfl ⟨(Nat.le_of_ble_eq_true rfl), (Nat.le_of_ble_eq_true rfl)⟩ (Nat.le_of_ble_eq_true rfl) dX11_on_36 ?_
          refine g_aload_n (pc := 39) (x := ec (xE X) 0) F dX11_on_39 rfl 0 rfl ?_
          refine g_get (pc := 40) (v := .ref (ec (xE X) (8 + 2))) F fX11_43 0 (wc_T _ _) rfl dX11_on_40 ?_
          refine g_iload_n (pc := 43) (x := a2) F dX11_on_43 rfl 2 rfl ?_
          obtain ⟨M16, e17, h⟩ := bd_some h
          refine g_vV (pc := 44) (Wf := Wc) (As := [.int a2]) (rest := []) F (hX4_pass (by decide) e17 (xl X) (xE X)) kX4_pass lX11_180 (8 + 2) rfl (wc_S _ _ (by decide)) rfl rfl rfl ⟨(Nat.le_of_ble_eq_true rfl), (Nat.le_of_ble_eq_true rfl)⟩ (Nat.le_of_ble_eq_true rfl) dX11_on_44 ?_
          refine g_aload_n (pc := 47) (x := ec (xE X) 0) F dX11_on_47 rfl 0 rfl ?_
          refine g_get (pc := 48) (v := .ref (ec (xE X) (8 + 2))) F fX11_43 0 (wc_T _ _) rfl dX11_on_48 ?_
          refine g_get (pc := 51) (v := .ref (ec (xE X) (11 + 2))) F fX11_144 (8 + 2) (wc_S _ _ (by decide)) rfl dX11_on_51 ?_
          refine g_iconst (pc := 54) F dX11_on_54 ic_0 ?_
          refine g_aald (pc := 55) (C := "TowerWarns$Vessel") (b := ec (xE X) (14 + 6 * 2 + 0)) F (11 + 2) 3 (wc_A _ _ (by decide)) rfl vi_0_6 rfl dX11_on_55 ?_
          refine g_iconst (pc := 56) F dX11_on_56 ic_1 ?_
          refine g_iload_n (pc := 57) (x := a3) F dX11_on_57 rfl 3 rfl ?_
          refine g_iadd (pc := 58) F dX11_on_58 ?_
          obtain ⟨r18, e19, h⟩ := bd_some h
          refine g_vI (pc := 59) (Wf := Wc) (As := [.int ((1 : Int32) + a3)]) (rest := []) F (hX10_figure (by decide) (by decide) e19 (xl X) (xE X)) kX10_figure lX11_150 (14 + 6 * 2 + 0) rfl (wc_V _ _ (by decide) (by decide)) rfl rfl rfl ⟨(Nat.le_of_ble_eq_true rfl), (Nat.le_of_ble_eq_true rfl)⟩ (Nat.le_of_ble_eq_true rfl) dX11_on_59 ?_
          obtain rfl := Option.some.inj h
          exact g_iret (pc := 62) (Wf := Wc) F Rt rfl dX11_on_62
        · have h := ite_t c13 h
          refine g_aload_n (pc := 27) (x := ec (xE X) 0) F dX11_on_27 rfl 0 rfl ?_
          refine g_ldc (pc := 28) F oX11_81 dX11_on_28 ?_
          obtain ⟨q20, e21, h⟩ := bd_some h
          refine g_vI (pc := 30) (Wf := Wc) (As := [.int (-1000000001 : Int32)]) (rest := []) F (hX11_found e21 (xl X) (xE X)) kX11_found lX11_82 0 rfl (wc_T _ _) rfl rfl rfl ⟨(Nat.le_of_ble_eq_true rfl), (Nat.le_of_ble_eq_true rfl)⟩ (Nat.le_of_ble_eq_true rfl) dX11_on_30 ?_
          obtain rfl := Option.some.inj h
          exact g_iret (pc := 33) (Wf := Wc) F Rt rfl dX11_on_33) l E
set_option maxHeartbeats 4000000 in
set_option maxRecDepth 100000 in
theorem hX11_then {N : Nat} {M : Mem} {a1 : Int32} {a2 : Int32} {res : Int32 × Mem} (h : mX11_then N M a1 a2 = some res) (l : Launch) (E : Ev) : CtI l E (Wc E) yX11_then cX11_then 3 .int 5 121 [.ref (ec E 0), .int a1, .int a2] M res.1 res.2 :=
  ctI_of (Wf := Wc) (av := fun E => [.ref (ec E 0), .int a1, .int a2]) (lv := fun E => [(0, .ref (ec E 0)), (1, .int a1), (2, .int a2)]) (by decide) (fun _ => rfl) (fun _ => (Nat.le_of_ble_eq_true rfl)) (fun X F hx Rt => by
    have F : Fx X cX11_then RX11 5 121 := F
    unfold mX11_then at h
    refine g_iload_n (pc := 0) (x := a1) F dX11_then_0 rfl 1 rfl ?_
    refine g_iconst (pc := 1) F dX11_then_1 ic_0 ?_
    refine g_bipush (pc := 2) F dX11_then_2 bp_100 ?_
    obtain ⟨r1, e2, h⟩ := bd_some h
    refine g_sI (pc := 4) (Wf := Wc) (As := [.int a1, .int (0 : Int32), .int (100 : Int32)]) (rest := []) F (hX11_isWithin (M := M) e2 (xl X) (xE X)) kX11_isWithin lX11_77 rfl rfl ⟨(Nat.le_of_ble_eq_true rfl), (Nat.le_of_ble_eq_true rfl)⟩ (Nat.le_of_ble_eq_true rfl) dX11_then_4 ?_
    refine g_if_eq (pc := 7) (tgt := 19) F dX11_then_7 (by decide) (fun c3 => ?_) (fun c3 => ?_)
    · have h := ite_t c3 h
      refine g_aload_n (pc := 19) (x := ec (xE X) 0) F dX11_then_19 rfl 0 rfl ?_
      refine g_ldc (pc := 20) F oX11_81 dX11_then_20 ?_
      obtain ⟨q4, e5, h⟩ := bd_some h
      refine g_vI (pc := 22) (Wf := Wc) (As := [.int (-1000000001 : Int32)]) (rest := []) F (hX11_found e5 (xl X) (xE X)) kX11_found lX11_82 0 rfl (wc_T _ _) rfl rfl rfl ⟨(Nat.le_of_ble_eq_true rfl), (Nat.le_of_ble_eq_true rfl)⟩ (Nat.le_of_ble_eq_true rfl) dX11_then_22 ?_
      obtain rfl := Option.some.inj h
      exact g_iret (pc := 25) (Wf := Wc) F Rt rfl dX11_then_25
    · have h := ite_f c3 h
      refine g_iload_n (pc := 10) (x := a2) F dX11_then_10 rfl 2 rfl ?_
      refine g_iconst (pc := 11) F dX11_then_11 ic_0 ?_
      refine g_iconst (pc := 12) F dX11_then_12 ic_1 ?_
      obtain ⟨r6, e7, h⟩ := bd_some h
      refine g_sI (pc := 13) (Wf := Wc) (As := [.int a2, .int (0 : Int32), .int (1 : Int32)]) (rest := []) F (hX11_isWithin (M := M) e7 (xl X) (xE X)) kX11_isWithin lX11_77 rfl rfl ⟨(Nat.le_of_ble_eq_true rfl), (Nat.le_of_ble_eq_true rfl)⟩ (Nat.le_of_ble_eq_true rfl) dX11_then_13 ?_
      refine g_if_ne (pc := 16) (tgt := 26) F dX11_then_16 (by decide) (fun c8 => ?_) (fun c8 => ?_)
      · have h := ite_f c8 h
        refine g_aload_n (pc := 26) (x := ec (xE X) 0) F dX11_then_26 rfl 0 rfl ?_
        refine g_get (pc := 27) (v := .ref (ec (xE X) (8 + 2))) F fX11_43 0 (wc_T _ _) rfl dX11_then_27 ?_
        refine g_aload_n (pc := 30) (x := ec (xE X) 0) F dX11_then_30 rfl 0 rfl ?_
        refine g_get (pc := 31) (v := .ref (ec (xE X) (8 + 0))) F fX11_36 0 (wc_T _ _) rfl dX11_then_31 ?_
        obtain ⟨M9, e10, h⟩ := bd_some h
        refine g_vV (pc := 34) (Wf := Wc) (As := [.ref (ec (xE X) (8 + 0))]) (rest := []) F (hX4_become (by decide) (by decide) e10 (xl X) (xE X)) kX4_become lX11_187 (8 + 2) rfl (wc_S _ _ (by decide)) rfl rfl rfl ⟨(Nat.le_of_ble_eq_true rfl), (Nat.le_of_ble_eq_true rfl)⟩ (Nat.le_of_ble_eq_true rfl) dX11_then_34 ?_
        refine g_aload_n (pc := 37) (x := ec (xE X) 0) F dX11_then_37 rfl 0 rfl ?_
        refine g_get (pc := 38) (v := .ref (ec (xE X) (8 + 2))) F fX11_43 0 (wc_T _ _) rfl dX11_then_38 ?_
        refine g_iload_n (pc := 41) (x := a1) F dX11_then_41 rfl 1 rfl ?_
        obtain ⟨M11, e12, h⟩ := bd_some h
        refine g_vV (pc := 42) (Wf := Wc) (As := [.int a1]) (rest := []) F (hX4_pass (by decide) e12 (xl X) (xE X)) kX4_pass lX11_180 (8 + 2) rfl (wc_S _ _ (by decide)) rfl rfl rfl ⟨(Nat.le_of_ble_eq_true rfl), (Nat.le_of_ble_eq_true rfl)⟩ (Nat.le_of_ble_eq_true rfl) dX11_then_42 ?_
        refine g_iload_n (pc := 45) (x := a2) F dX11_then_45 rfl 2 rfl ?_
        refine g_if_ne (pc := 46) (tgt := 59) F dX11_then_46 (by decide) (fun c13 => ?_) (fun c13 => ?_)
        · have h := ite_f c13 h
          refine g_aload_n (pc := 59) (x := ec (xE X) 0) F dX11_then_59 rfl 0 rfl ?_
          refine g_get (pc := 60) (v := .ref (ec (xE X) (8 + 2))) F fX11_43 0 (wc_T _ _) rfl dX11_then_60 ?_
          obtain ⟨r14, e15, h⟩ := bd_some h
          refine g_vI (pc := 63) (Wf := Wc) (As := []) (rest := []) F (hX4_onesBy (by decide) e15 (xl X) (xE X)) kX4_onesBy lX11_123 (8 + 2) rfl (wc_S _ _ (by decide)) rfl rfl rfl ⟨(Nat.le_of_ble_eq_true rfl), (Nat.le_of_ble_eq_true rfl)⟩ (Nat.le_of_ble_eq_true rfl) dX11_then_63 ?_
          obtain rfl := Option.some.inj h
          exact g_iret (pc := 66) (Wf := Wc) F Rt rfl dX11_then_66
        · have h := ite_t c13 h
          refine g_aload_n (pc := 49) (x := ec (xE X) 0) F dX11_then_49 rfl 0 rfl ?_
          refine g_get (pc := 50) (v := .ref (ec (xE X) (8 + 2))) F fX11_43 0 (wc_T _ _) rfl dX11_then_50 ?_
          obtain ⟨r16, e17, h⟩ := bd_some h
          refine g_vI (pc := 53) (Wf := Wc) (As := []) (rest := []) F (hX4_lostOnes (by decide) e17 (xl X) (xE X)) kX4_lostOnes lX11_120 (8 + 2) rfl (wc_S _ _ (by decide)) rfl rfl rfl ⟨(Nat.le_of_ble_eq_true rfl), (Nat.le_of_ble_eq_true rfl)⟩ (Nat.le_of_ble_eq_true rfl) dX11_then_53 ?_
          refine g_goto (pc := 56) (tgt := 66) F dX11_then_56 (by decide) ?_
          obtain rfl := Option.some.inj h
          exact g_iret (pc := 66) (Wf := Wc) F Rt rfl dX11_then_66
      · have h := ite_t c8 h
        refine g_aload_n (pc := 19) (x := ec (xE X) 0) F dX11_then_19 rfl 0 rfl ?_
        refine g_ldc (pc := 20) F oX11_81 dX11_then_20 ?_
        obtain ⟨q18, e19, h⟩ := bd_some h
        refine g_vI (pc := 22) (Wf := Wc) (As := [.int (-1000000001 : Int32)]) (rest := []) F (hX11_found e19 (xl X) (xE X)) kX11_found lX11_82 0 rfl (wc_T _ _) rfl rfl rfl ⟨(Nat.le_of_ble_eq_true rfl), (Nat.le_of_ble_eq_true rfl)⟩ (Nat.le_of_ble_eq_true rfl) dX11_then_22 ?_
        obtain rfl := Option.some.inj h
        exact g_iret (pc := 25) (Wf := Wc) F Rt rfl dX11_then_25) l E
set_option maxHeartbeats 4000000 in
set_option maxRecDepth 100000 in
theorem wX11_hoursUntilEnd_b2 {X : Cx} (F : Fx X cX11_hoursUntilEnd RX11 5 121) (hx : xn X = 2) {N : Nat} {res : Int32 × Mem} (Rt : RI X Wc .int res.1 res.2) : ∀ (n : Nat) (M : Mem) (a1 : Int32), mX11_hoursUntilEnd_b2 N n M a1 = some res → G X (Wc (xE X) M) 2 [(0, .ref (ec (xE X) 0)), (1, .int a1)] [] := by
  intro n
  induction n with
  | zero =>
    intro M a1 h
    have h : none = some res := h
    cases h
  | succ n ih =>
    intro M a1 h
    rw [mX11_hoursUntilEnd_b2] at h
    refine g_iload_n (pc := 2) (x := a1) F dX11_hoursUntilEnd_2 rfl 1 rfl ?_
    refine g_bipush (pc := 3) F dX11_hoursUntilEnd_3 bp_100 ?_
    refine g_icmp_ge (pc := 5) (tgt := 37) F dX11_hoursUntilEnd_5 (by decide) (fun c1 => ?_) (fun c1 => ?_)
    · have h := ite_t c1 h
      refine g_iload_n (pc := 37) (x := a1) F dX11_hoursUntilEnd_37 rfl 1 rfl ?_
      obtain rfl := Option.some.inj h
      exact g_iret (pc := 38) (Wf := Wc) F Rt rfl dX11_hoursUntilEnd_38
    · have h := ite_f c1 h
      refine g_aload_n (pc := 8) (x := ec (xE X) 0) F dX11_hoursUntilEnd_8 rfl 0 rfl ?_
      refine g_get (pc := 9) (v := .ref (ec (xE X) (8 + 2))) F fX11_43 0 (wc_T _ _) rfl dX11_hoursUntilEnd_9 ?_
      refine g_get (pc := 12) (v := .ref (ec (xE X) (11 + 2))) F fX11_144 (8 + 2) (wc_S _ _ (by decide)) rfl dX11_hoursUntilEnd_12 ?_
      refine g_iconst (pc := 15) F dX11_hoursUntilEnd_15 ic_0 ?_
      refine g_aald (pc := 16) (C := "TowerWarns$Vessel") (b := ec (xE X) (14 + 6 * 2 + 0)) F (11 + 2) 3 (wc_A _ _ (by decide)) rfl vi_0_6 rfl dX11_hoursUntilEnd_16 ?_
      obtain ⟨r2, e3, h⟩ := bd_some h
      refine g_vI (pc := 17) (Wf := Wc) (As := []) (rest := []) F (hX10_isUnderWay (by decide) (by decide) e3 (xl X) (xE X)) kX10_isUnderWay lX11_278 (14 + 6 * 2 + 0) rfl (wc_V _ _ (by decide) (by decide)) rfl rfl rfl ⟨(Nat.le_of_ble_eq_true rfl), (Nat.le_of_ble_eq_true rfl)⟩ (Nat.le_of_ble_eq_true rfl) dX11_hoursUntilEnd_17 ?_
      refine g_if_eq (pc := 20) (tgt := 37) F dX11_hoursUntilEnd_20 (by decide) (fun c4 => ?_) (fun c4 => ?_)
      · have h := ite_t c4 h
        refine g_iload_n (pc := 37) (x := a1) F dX11_hoursUntilEnd_37 rfl 1 rfl ?_
        obtain rfl := Option.some.inj h
        exact g_iret (pc := 38) (Wf := Wc) F Rt rfl dX11_hoursUntilEnd_38
      · have h := ite_f c4 h
        refine g_aload_n (pc := 23) (x := ec (xE X) 0) F dX11_hoursUntilEnd_23 rfl 0 rfl ?_
        refine g_get (pc := 24) (v := .ref (ec (xE X) (8 + 2))) F fX11_43 0 (wc_T _ _) rfl dX11_hoursUntilEnd_24 ?_
        refine g_iconst (pc := 27) F dX11_hoursUntilEnd_27 ic_1 ?_
        obtain ⟨M5, e6, h⟩ := bd_some h
        refine g_vV (pc := 28) (Wf := Wc) (As := [.int (1 : Int32)]) (rest := []) F (hX4_pass (by decide) e6 (xl X) (xE X)) kX4_pass lX11_180 (8 + 2) rfl (wc_S _ _ (by decide)) rfl rfl rfl ⟨(Nat.le_of_ble_eq_true rfl), (Nat.le_of_ble_eq_true rfl)⟩ (Nat.le_of_ble_eq_true rfl) dX11_hoursUntilEnd_28 ?_
        refine g_iinc (pc := 31) (lv2 := [(0, .ref (ec (xE X) 0)), (1, .int (a1 + (1 : Int32)))]) F dX11_hoursUntilEnd_31 1 rfl (ii_1 _) (by rw [hx]; decide) [1, 0] rfl ?_
        refine g_goto (pc := 34) (tgt := 2) F dX11_hoursUntilEnd_34 (by decide) ?_
        refine g_sub [0, 1] rfl ?_
        exact ih M5 (a1 + (1 : Int32)) h
set_option maxHeartbeats 4000000 in
set_option maxRecDepth 100000 in
theorem hX11_hoursUntilEnd {N : Nat} {M : Mem} {res : Int32 × Mem} (h : mX11_hoursUntilEnd N M = some res) (l : Launch) (E : Ev) : CtI l E (Wc E) yX11_hoursUntilEnd cX11_hoursUntilEnd 2 .int 5 121 [.ref (ec E 0)] M res.1 res.2 :=
  ctI_of (Wf := Wc) (av := fun E => [.ref (ec E 0)]) (lv := fun E => [(0, .ref (ec E 0))]) (by decide) (fun _ => rfl) (fun _ => (Nat.le_of_ble_eq_true rfl)) (fun X F hx Rt => by
    have F : Fx X cX11_hoursUntilEnd RX11 5 121 := F
    unfold mX11_hoursUntilEnd at h
    refine g_iconst (pc := 0) F dX11_hoursUntilEnd_0 ic_0 ?_
    refine g_istore_n (pc := 1) (lv2 := [(0, .ref (ec (xE X) 0)), (1, .int (0 : Int32))]) F dX11_hoursUntilEnd_1 rfl (by rw [hx]; decide) [1, 0] rfl ?_
    refine g_sub [0, 1] rfl ?_
    exact wX11_hoursUntilEnd_b2 F hx Rt N M (0 : Int32) h) l E
set_option maxHeartbeats 4000000 in
set_option maxRecDepth 100000 in
theorem hX11_hoursUntilBy {N : Nat} {M : Mem} {res : Int32 × Mem} (h : mX11_hoursUntilBy N M = some res) (l : Launch) (E : Ev) : CtI l E (Wc E) yX11_hoursUntilBy cX11_hoursUntilBy 2 .int 6 142 [.ref (ec E 0)] M res.1 res.2 :=
  ctI_of (Wf := Wc) (av := fun E => [.ref (ec E 0)]) (lv := fun E => [(0, .ref (ec E 0))]) (by decide) (fun _ => rfl) (fun _ => (Nat.le_of_ble_eq_true rfl)) (fun X F hx Rt => by
    have F : Fx X cX11_hoursUntilBy RX11 6 142 := F
    unfold mX11_hoursUntilBy at h
    refine g_aload_n (pc := 0) (x := ec (xE X) 0) F dX11_hoursUntilBy_0 rfl 0 rfl ?_
    obtain ⟨q1, e2, h⟩ := bd_some h
    refine g_vI (pc := 1) (Wf := Wc) (As := []) (rest := []) F (hX11_hoursUntilEnd e2 (xl X) (xE X)) kX11_hoursUntilEnd lX11_195 0 rfl (wc_T _ _) rfl rfl rfl ⟨(Nat.le_of_ble_eq_true rfl), (Nat.le_of_ble_eq_true rfl)⟩ (Nat.le_of_ble_eq_true rfl) dX11_hoursUntilBy_1 ?_
    refine g_istore_n (pc := 4) (lv2 := [(0, .ref (ec (xE X) 0)), (1, .int q1.1)]) F dX11_hoursUntilBy_4 rfl (by rw [hx]; decide) [1, 0] rfl ?_
    refine g_aload_n (pc := 5) (x := ec (xE X) 0) F dX11_hoursUntilBy_5 rfl 0 rfl ?_
    refine g_get (pc := 6) (v := .ref (ec (xE X) (8 + 2))) F fX11_43 0 (wc_T _ _) rfl dX11_hoursUntilBy_6 ?_
    refine g_get (pc := 9) (v := .ref (ec (xE X) (11 + 2))) F fX11_144 (8 + 2) (wc_S _ _ (by decide)) rfl dX11_hoursUntilBy_9 ?_
    refine g_iconst (pc := 12) F dX11_hoursUntilBy_12 ic_0 ?_
    refine g_aald (pc := 13) (C := "TowerWarns$Vessel") (b := ec (xE X) (14 + 6 * 2 + 0)) F (11 + 2) 3 (wc_A _ _ (by decide)) rfl vi_0_6 rfl dX11_hoursUntilBy_13 ?_
    refine g_get (pc := 14) (v := .int (q1.2.1 2 (6 + 7 * 0 + 6))) F fX11_285 (14 + 6 * 2 + 0) (wc_V _ _ (by decide) (by decide)) rfl dX11_hoursUntilBy_14 ?_
    refine g_if_eq (pc := 17) (tgt := 24) F dX11_hoursUntilBy_17 (by decide) (fun c3 => ?_) (fun c3 => ?_)
    · have h := ite_t c3 h
      refine g_bipush (pc := 24) F dX11_hoursUntilBy_24 bp_101 ?_
      obtain rfl := Option.some.inj h
      exact g_iret (pc := 26) (Wf := Wc) F Rt rfl dX11_hoursUntilBy_26
    · have h := ite_f c3 h
      refine g_iload_n (pc := 20) (x := q1.1) F dX11_hoursUntilBy_20 rfl 1 rfl ?_
      refine g_goto (pc := 21) (tgt := 26) F dX11_hoursUntilBy_21 (by decide) ?_
      obtain rfl := Option.some.inj h
      exact g_iret (pc := 26) (Wf := Wc) F Rt rfl dX11_hoursUntilBy_26) l E
set_option maxHeartbeats 4000000 in
set_option maxRecDepth 100000 in
theorem hX11_comes {N : Nat} {M : Mem} {a1 : Int32} {res : Int32 × Mem} (h : mX11_comes N M a1 = some res) (l : Launch) (E : Ev) : CtI l E (Wc E) yX11_comes cX11_comes 3 .int 7 163 [.ref (ec E 0), .int a1] M res.1 res.2 :=
  ctI_of (Wf := Wc) (av := fun E => [.ref (ec E 0), .int a1]) (lv := fun E => [(0, .ref (ec E 0)), (1, .int a1)]) (by decide) (fun _ => rfl) (fun _ => (Nat.le_of_ble_eq_true rfl)) (fun X F hx Rt => by
    have F : Fx X cX11_comes RX11 7 163 := F
    unfold mX11_comes at h
    refine g_aload_n (pc := 0) (x := ec (xE X) 0) F dX11_comes_0 rfl 0 rfl ?_
    refine g_iload_n (pc := 1) (x := a1) F dX11_comes_1 rfl 1 rfl ?_
    obtain ⟨r1, e2, h⟩ := bd_some h
    refine g_vI (pc := 2) (Wf := Wc) (As := [.int a1]) (rest := []) F (hX11_isShip e2 (xl X) (xE X)) kX11_isShip lX11_141 0 rfl (wc_T _ _) rfl rfl rfl ⟨(Nat.le_of_ble_eq_true rfl), (Nat.le_of_ble_eq_true rfl)⟩ (Nat.le_of_ble_eq_true rfl) dX11_comes_2 ?_
    refine g_if_ne (pc := 5) (tgt := 15) F dX11_comes_5 (by decide) (fun c3 => ?_) (fun c3 => ?_)
    · have h := ite_f c3 h
      refine g_aload_n (pc := 15) (x := ec (xE X) 0) F dX11_comes_15 rfl 0 rfl ?_
      refine g_iload_n (pc := 16) (x := a1) F dX11_comes_16 rfl 1 rfl ?_
      obtain ⟨M4, e5, h⟩ := bd_some h
      refine g_vV (pc := 17) (Wf := Wc) (As := [.int a1]) (rest := []) F (hX11_tryAlone e5 (xl X) (xE X)) kX11_tryAlone lX11_184 0 rfl (wc_T _ _) rfl rfl rfl ⟨(Nat.le_of_ble_eq_true rfl), (Nat.le_of_ble_eq_true rfl)⟩ (Nat.le_of_ble_eq_true rfl) dX11_comes_17 ?_
      refine g_aload_n (pc := 20) (x := ec (xE X) 0) F dX11_comes_20 rfl 0 rfl ?_
      obtain ⟨q6, e7, h⟩ := bd_some h
      refine g_vI (pc := 21) (Wf := Wc) (As := []) (rest := []) F (hX11_hoursUntilBy e7 (xl X) (xE X)) kX11_hoursUntilBy lX11_191 0 rfl (wc_T _ _) rfl rfl rfl ⟨(Nat.le_of_ble_eq_true rfl), (Nat.le_of_ble_eq_true rfl)⟩ (Nat.le_of_ble_eq_true rfl) dX11_comes_21 ?_
      refine g_istore_n (pc := 24) (lv2 := [(0, .ref (ec (xE X) 0)), (1, .int a1), (2, .int q6.1)]) F dX11_comes_24 rfl (by rw [hx]; decide) [1, 2, 0] rfl ?_
      refine g_iload_n (pc := 25) (x := q6.1) F dX11_comes_25 rfl 2 rfl ?_
      refine g_bipush (pc := 26) F dX11_comes_26 bp_101 ?_
      refine g_icmp_ne (pc := 28) (tgt := 40) F dX11_comes_28 (by decide) (fun c8 => ?_) (fun c8 => ?_)
      · have h := ite_f c8 h
        refine g_iload_n (pc := 40) (x := q6.1) F dX11_comes_40 rfl 2 rfl ?_
        obtain rfl := Option.some.inj h
        exact g_iret (pc := 41) (Wf := Wc) F Rt rfl dX11_comes_41
      · have h := ite_t c8 h
        refine g_aload_n (pc := 31) (x := ec (xE X) 0) F dX11_comes_31 rfl 0 rfl ?_
        refine g_ldc (pc := 32) F oX11_194 dX11_comes_32 ?_
        obtain ⟨q9, e10, h⟩ := bd_some h
        refine g_vI (pc := 34) (Wf := Wc) (As := [.int (-1000000004 : Int32)]) (rest := []) F (hX11_found e10 (xl X) (xE X)) kX11_found lX11_82 0 rfl (wc_T _ _) rfl rfl rfl ⟨(Nat.le_of_ble_eq_true rfl), (Nat.le_of_ble_eq_true rfl)⟩ (Nat.le_of_ble_eq_true rfl) dX11_comes_34 ?_
        refine g_goto (pc := 37) (tgt := 41) F dX11_comes_37 (by decide) ?_
        obtain rfl := Option.some.inj h
        exact g_iret (pc := 41) (Wf := Wc) F Rt rfl dX11_comes_41
    · have h := ite_t c3 h
      refine g_aload_n (pc := 8) (x := ec (xE X) 0) F dX11_comes_8 rfl 0 rfl ?_
      refine g_ldc (pc := 9) F oX11_81 dX11_comes_9 ?_
      obtain ⟨q11, e12, h⟩ := bd_some h
      refine g_vI (pc := 11) (Wf := Wc) (As := [.int (-1000000001 : Int32)]) (rest := []) F (hX11_found e12 (xl X) (xE X)) kX11_found lX11_82 0 rfl (wc_T _ _) rfl rfl rfl ⟨(Nat.le_of_ble_eq_true rfl), (Nat.le_of_ble_eq_true rfl)⟩ (Nat.le_of_ble_eq_true rfl) dX11_comes_11 ?_
      obtain rfl := Option.some.inj h
      exact g_iret (pc := 14) (Wf := Wc) F Rt rfl dX11_comes_14) l E
set_option maxHeartbeats 4000000 in
set_option maxRecDepth 100000 in
theorem hX11_wrecks {N : Nat} {M : Mem} {a1 : Int32} {res : Int32 × Mem} (h : mX11_wrecks N M a1 = some res) (l : Launch) (E : Ev) : CtI l E (Wc E) yX11_wrecks cX11_wrecks 3 .int 6 142 [.ref (ec E 0), .int a1] M res.1 res.2 :=
  ctI_of (Wf := Wc) (av := fun E => [.ref (ec E 0), .int a1]) (lv := fun E => [(0, .ref (ec E 0)), (1, .int a1)]) (by decide) (fun _ => rfl) (fun _ => (Nat.le_of_ble_eq_true rfl)) (fun X F hx Rt => by
    have F : Fx X cX11_wrecks RX11 6 142 := F
    unfold mX11_wrecks at h
    refine g_aload_n (pc := 0) (x := ec (xE X) 0) F dX11_wrecks_0 rfl 0 rfl ?_
    refine g_iload_n (pc := 1) (x := a1) F dX11_wrecks_1 rfl 1 rfl ?_
    obtain ⟨r1, e2, h⟩ := bd_some h
    refine g_vI (pc := 2) (Wf := Wc) (As := [.int a1]) (rest := []) F (hX11_isShip e2 (xl X) (xE X)) kX11_isShip lX11_141 0 rfl (wc_T _ _) rfl rfl rfl ⟨(Nat.le_of_ble_eq_true rfl), (Nat.le_of_ble_eq_true rfl)⟩ (Nat.le_of_ble_eq_true rfl) dX11_wrecks_2 ?_
    refine g_if_ne (pc := 5) (tgt := 15) F dX11_wrecks_5 (by decide) (fun c3 => ?_) (fun c3 => ?_)
    · have h := ite_f c3 h
      refine g_aload_n (pc := 15) (x := ec (xE X) 0) F dX11_wrecks_15 rfl 0 rfl ?_
      refine g_iload_n (pc := 16) (x := a1) F dX11_wrecks_16 rfl 1 rfl ?_
      obtain ⟨M4, e5, h⟩ := bd_some h
      refine g_vV (pc := 17) (Wf := Wc) (As := [.int a1]) (rest := []) F (hX11_tryAlone e5 (xl X) (xE X)) kX11_tryAlone lX11_184 0 rfl (wc_T _ _) rfl rfl rfl ⟨(Nat.le_of_ble_eq_true rfl), (Nat.le_of_ble_eq_true rfl)⟩ (Nat.le_of_ble_eq_true rfl) dX11_wrecks_17 ?_
      refine g_aload_n (pc := 20) (x := ec (xE X) 0) F dX11_wrecks_20 rfl 0 rfl ?_
      obtain ⟨q6, e7, h⟩ := bd_some h
      refine g_vI (pc := 21) (Wf := Wc) (As := []) (rest := []) F (hX11_hoursUntilEnd e7 (xl X) (xE X)) kX11_hoursUntilEnd lX11_195 0 rfl (wc_T _ _) rfl rfl rfl ⟨(Nat.le_of_ble_eq_true rfl), (Nat.le_of_ble_eq_true rfl)⟩ (Nat.le_of_ble_eq_true rfl) dX11_wrecks_21 ?_
      refine g_istore_n (pc := 24) (lv2 := [(0, .ref (ec (xE X) 0)), (1, .int a1), (2, .int q6.1)]) F dX11_wrecks_24 rfl (by rw [hx]; decide) [1, 2, 0] rfl ?_
      refine g_aload_n (pc := 25) (x := ec (xE X) 0) F dX11_wrecks_25 rfl 0 rfl ?_
      refine g_get (pc := 26) (v := .ref (ec (xE X) (8 + 2))) F fX11_43 0 (wc_T _ _) rfl dX11_wrecks_26 ?_
      refine g_get (pc := 29) (v := .ref (ec (xE X) (11 + 2))) F fX11_144 (8 + 2) (wc_S _ _ (by decide)) rfl dX11_wrecks_29 ?_
      refine g_iconst (pc := 32) F dX11_wrecks_32 ic_0 ?_
      refine g_aald (pc := 33) (C := "TowerWarns$Vessel") (b := ec (xE X) (14 + 6 * 2 + 0)) F (11 + 2) 3 (wc_A _ _ (by decide)) rfl vi_0_6 rfl dX11_wrecks_33 ?_
      refine g_get (pc := 34) (v := .int (q6.2.1 2 (6 + 7 * 0 + 5))) F fX11_198 (14 + 6 * 2 + 0) (wc_V _ _ (by decide) (by decide)) rfl dX11_wrecks_34 ?_
      refine g_if_eq (pc := 37) (tgt := 44) F dX11_wrecks_37 (by decide) (fun c8 => ?_) (fun c8 => ?_)
      · have h := ite_t c8 h
        refine g_aload_n (pc := 44) (x := ec (xE X) 0) F dX11_wrecks_44 rfl 0 rfl ?_
        refine g_ldc (pc := 45) F oX11_194 dX11_wrecks_45 ?_
        obtain ⟨q9, e10, h⟩ := bd_some h
        refine g_vI (pc := 47) (Wf := Wc) (As := [.int (-1000000004 : Int32)]) (rest := []) F (hX11_found e10 (xl X) (xE X)) kX11_found lX11_82 0 rfl (wc_T _ _) rfl rfl rfl ⟨(Nat.le_of_ble_eq_true rfl), (Nat.le_of_ble_eq_true rfl)⟩ (Nat.le_of_ble_eq_true rfl) dX11_wrecks_47 ?_
        obtain rfl := Option.some.inj h
        exact g_iret (pc := 50) (Wf := Wc) F Rt rfl dX11_wrecks_50
      · have h := ite_f c8 h
        refine g_iload_n (pc := 40) (x := q6.1) F dX11_wrecks_40 rfl 2 rfl ?_
        refine g_goto (pc := 41) (tgt := 50) F dX11_wrecks_41 (by decide) ?_
        obtain rfl := Option.some.inj h
        exact g_iret (pc := 50) (Wf := Wc) F Rt rfl dX11_wrecks_50
    · have h := ite_t c3 h
      refine g_aload_n (pc := 8) (x := ec (xE X) 0) F dX11_wrecks_8 rfl 0 rfl ?_
      refine g_ldc (pc := 9) F oX11_81 dX11_wrecks_9 ?_
      obtain ⟨q11, e12, h⟩ := bd_some h
      refine g_vI (pc := 11) (Wf := Wc) (As := [.int (-1000000001 : Int32)]) (rest := []) F (hX11_found e12 (xl X) (xE X)) kX11_found lX11_82 0 rfl (wc_T _ _) rfl rfl rfl ⟨(Nat.le_of_ble_eq_true rfl), (Nat.le_of_ble_eq_true rfl)⟩ (Nat.le_of_ble_eq_true rfl) dX11_wrecks_11 ?_
      obtain rfl := Option.some.inj h
      exact g_iret (pc := 14) (Wf := Wc) F Rt rfl dX11_wrecks_14) l E
set_option maxHeartbeats 4000000 in
set_option maxRecDepth 100000 in
theorem hX11_amissUnderWay {M : Mem} {a1 : Int32} {res : Int32} (h : mX11_amissUnderWay M a1 = some res) (l : Launch) (E : Ev) : CtI l E (Wc E) yX11_amissUnderWay cX11_amissUnderWay 2 .int 1 21 [.ref (ec E 0), .int a1] M res M :=
  ctI_of (Wf := Wc) (av := fun E => [.ref (ec E 0), .int a1]) (lv := fun E => [(0, .ref (ec E 0)), (1, .int a1)]) (by decide) (fun _ => rfl) (fun _ => (Nat.le_of_ble_eq_true rfl)) (fun X F hx Rt => by
    have F : Fx X cX11_amissUnderWay RX11 1 21 := F
    unfold mX11_amissUnderWay at h
    refine g_aload_n (pc := 0) (x := ec (xE X) 0) F dX11_amissUnderWay_0 rfl 0 rfl ?_
    refine g_iload_n (pc := 1) (x := a1) F dX11_amissUnderWay_1 rfl 1 rfl ?_
    obtain ⟨r1, e2, h⟩ := bd_some h
    refine g_vI (pc := 2) (Wf := Wc) (As := [.int a1]) (rest := []) F (hX11_isShip e2 (xl X) (xE X)) kX11_isShip lX11_141 0 rfl (wc_T _ _) rfl rfl rfl ⟨(Nat.le_of_ble_eq_true rfl), (Nat.le_of_ble_eq_true rfl)⟩ (Nat.le_of_ble_eq_true rfl) dX11_amissUnderWay_2 ?_
    refine g_if_ne (pc := 5) (tgt := 11) F dX11_amissUnderWay_5 (by decide) (fun c3 => ?_) (fun c3 => ?_)
    · have h := ite_f c3 h
      refine g_aload_n (pc := 11) (x := ec (xE X) 0) F dX11_amissUnderWay_11 rfl 0 rfl ?_
      refine g_get (pc := 12) (v := .ref (ec (xE X) (8 + 0))) F fX11_36 0 (wc_T _ _) rfl dX11_amissUnderWay_12 ?_
      refine g_get (pc := 15) (v := .ref (ec (xE X) (11 + 0))) F fX11_144 (8 + 0) (wc_S _ _ (by decide)) rfl dX11_amissUnderWay_15 ?_
      refine g_iload_n (pc := 18) (x := a1) F dX11_amissUnderWay_18 rfl 1 rfl ?_
      obtain ⟨i4, h⟩ := ck_some h
      refine g_aald (pc := 19) (C := "TowerWarns$Vessel") (b := ec (xE X) (14 + 6 * 0 + a1.toNatClampNeg)) F (11 + 0) 3 (wc_A _ _ (by decide)) rfl i4 rfl dX11_amissUnderWay_19 ?_
      obtain ⟨r5, e6, h⟩ := bd_some h
      refine g_vI (pc := 20) (Wf := Wc) (As := []) (rest := []) F (hX10_isUnderWay (by decide) (ok_lt i4) e6 (xl X) (xE X)) kX10_isUnderWay lX11_278 (14 + 6 * 0 + a1.toNatClampNeg) rfl (wc_V _ _ (by decide) (ok_lt i4)) rfl rfl rfl ⟨(Nat.le_of_ble_eq_true rfl), (Nat.le_of_ble_eq_true rfl)⟩ (Nat.le_of_ble_eq_true rfl) dX11_amissUnderWay_20 ?_
      refine g_if_eq (pc := 23) (tgt := 30) F dX11_amissUnderWay_23 (by decide) (fun c7 => ?_) (fun c7 => ?_)
      · have h := ite_t c7 h
        refine g_ldc (pc := 30) F oX11_179 dX11_amissUnderWay_30 ?_
        obtain rfl := Option.some.inj h
        exact g_iret (pc := 32) (Wf := Wc) F Rt rfl dX11_amissUnderWay_32
      · have h := ite_f c7 h
        refine g_iconst (pc := 26) F dX11_amissUnderWay_26 ic_0 ?_
        refine g_goto (pc := 27) (tgt := 32) F dX11_amissUnderWay_27 (by decide) ?_
        obtain rfl := Option.some.inj h
        exact g_iret (pc := 32) (Wf := Wc) F Rt rfl dX11_amissUnderWay_32
    · have h := ite_t c3 h
      refine g_ldc (pc := 8) F oX11_81 dX11_amissUnderWay_8 ?_
      obtain rfl := Option.some.inj h
      exact g_iret (pc := 10) (Wf := Wc) F Rt rfl dX11_amissUnderWay_10) l E
set_option maxHeartbeats 4000000 in
set_option maxRecDepth 100000 in
theorem wX11_row_b26 {X : Cx} (F : Fx X cX11_row RX11 7 163) (hx : xn X = 7) {N : Nat} {res : Int32 × Mem} (Rt : RI X Wc .int res.1 res.2) : ∀ (n : Nat) (M : Mem) (a1 : Int32) (a3 : Int32) (a4 : Int32) (a5 : Int32), mX11_row_b26 N n M a1 a3 a4 a5 = some res → G X (Wc (xE X) M) 26 [(0, .ref (ec (xE X) 0)), (1, .int a1), (3, .int a3), (4, .int a4), (5, .int a5)] [] := by
  intro n
  induction n with
  | zero =>
    intro M a1 a3 a4 a5 h
    have h : none = some res := h
    cases h
  | succ n ih =>
    intro M a1 a3 a4 a5 h
    rw [mX11_row_b26] at h
    refine g_iload (pc := 26) (x := a5) F dX11_row_26 4 rfl ?_
    refine g_bipush (pc := 28) F dX11_row_28 bp_9 ?_
    refine g_icmp_gt (pc := 30) (tgt := 78) F dX11_row_30 (by decide) (fun c4 => ?_) (fun c4 => ?_)
    · have h := ite_t c4 h
      refine g_iload_n (pc := 78) (x := a3) F dX11_row_78 rfl 2 rfl ?_
      refine g_ldc (pc := 79) F oX11_194 dX11_row_79 ?_
      refine g_icmp_ne (pc := 81) (tgt := 93) F dX11_row_81 (by decide) (fun c5 => ?_) (fun c5 => ?_)
      · have h := ite_f c5 h
        refine g_iload_n (pc := 93) (x := a3) F dX11_row_93 rfl 2 rfl ?_
        obtain rfl := Option.some.inj h
        exact g_iret (pc := 94) (Wf := Wc) F Rt rfl dX11_row_94
      · have h := ite_t c5 h
        refine g_aload_n (pc := 84) (x := ec (xE X) 0) F dX11_row_84 rfl 0 rfl ?_
        refine g_ldc (pc := 85) F oX11_194 dX11_row_85 ?_
        obtain ⟨q6, e7, h⟩ := bd_some h
        refine g_vI (pc := 87) (Wf := Wc) (As := [.int (-1000000004 : Int32)]) (rest := []) F (hX11_found e7 (xl X) (xE X)) kX11_found lX11_82 0 rfl (wc_T _ _) rfl rfl rfl ⟨(Nat.le_of_ble_eq_true rfl), (Nat.le_of_ble_eq_true rfl)⟩ (Nat.le_of_ble_eq_true rfl) dX11_row_87 ?_
        refine g_goto (pc := 90) (tgt := 94) F dX11_row_90 (by decide) ?_
        obtain rfl := Option.some.inj h
        exact g_iret (pc := 94) (Wf := Wc) F Rt rfl dX11_row_94
    · have h := ite_f c4 h
      refine g_aload_n (pc := 33) (x := ec (xE X) 0) F dX11_row_33 rfl 0 rfl ?_
      refine g_iload_n (pc := 34) (x := a1) F dX11_row_34 rfl 1 rfl ?_
      obtain ⟨M8, e9, h⟩ := bd_some h
      refine g_vV (pc := 35) (Wf := Wc) (As := [.int a1]) (rest := []) F (hX11_tryAlone e9 (xl X) (xE X)) kX11_tryAlone lX11_184 0 rfl (wc_T _ _) rfl rfl rfl ⟨(Nat.le_of_ble_eq_true rfl), (Nat.le_of_ble_eq_true rfl)⟩ (Nat.le_of_ble_eq_true rfl) dX11_row_35 ?_
      refine g_aload_n (pc := 38) (x := ec (xE X) 0) F dX11_row_38 rfl 0 rfl ?_
      refine g_get (pc := 39) (v := .ref (ec (xE X) (8 + 2))) F fX11_43 0 (wc_T _ _) rfl dX11_row_39 ?_
      refine g_get (pc := 42) (v := .ref (ec (xE X) (11 + 2))) F fX11_144 (8 + 2) (wc_S _ _ (by decide)) rfl dX11_row_42 ?_
      refine g_iconst (pc := 45) F dX11_row_45 ic_0 ?_
      refine g_aald (pc := 46) (C := "TowerWarns$Vessel") (b := ec (xE X) (14 + 6 * 2 + 0)) F (11 + 2) 3 (wc_A _ _ (by decide)) rfl vi_0_6 rfl dX11_row_46 ?_
      refine g_iload (pc := 47) (x := a5) F dX11_row_47 4 rfl ?_
      refine g_put (pc := 49) (ws2 := Wc (xE X) (sI M8 2 (6 + 7 * 0 + 2) a5)) F pX11_204 (14 + 6 * 2 + 0) (wc_V _ _ (by decide) (by decide)) rfl rfl (Nat.le_of_ble_eq_true rfl) (wcp_V2 _ _ (by decide) (by decide) _) dX11_row_49 ?_
      refine g_aload_n (pc := 52) (x := ec (xE X) 0) F dX11_row_52 rfl 0 rfl ?_
      obtain ⟨q10, e11, h⟩ := bd_some h
      refine g_vI (pc := 53) (Wf := Wc) (As := []) (rest := []) F (hX11_hoursUntilBy e11 (xl X) (xE X)) kX11_hoursUntilBy lX11_191 0 rfl (wc_T _ _) rfl rfl rfl ⟨(Nat.le_of_ble_eq_true rfl), (Nat.le_of_ble_eq_true rfl)⟩ (Nat.le_of_ble_eq_true rfl) dX11_row_53 ?_
      refine g_istore (pc := 56) (lv2 := [(0, .ref (ec (xE X) 0)), (1, .int a1), (3, .int a3), (4, .int a4), (5, .int a5), (6, .int q10.1)]) F dX11_row_56 (by rw [hx]; decide) [1, 2, 3, 4, 5, 0] rfl ?_
      refine g_iload (pc := 58) (x := q10.1) F dX11_row_58 5 rfl ?_
      refine g_iload (pc := 60) (x := a4) F dX11_row_60 3 rfl ?_
      refine g_icmp_ge (pc := 62) (tgt := 72) F dX11_row_62 (by decide) (fun c12 => ?_) (fun c12 => ?_)
      · have h := ite_t c12 h
        refine g_iinc (pc := 72) (lv2 := [(0, .ref (ec (xE X) 0)), (1, .int a1), (3, .int a3), (4, .int a4), (5, .int (a5 + (1 : Int32))), (6, .int q10.1)]) F dX11_row_72 4 rfl (ii_1 _) (by rw [hx]; decide) [1, 2, 3, 4, 0, 5] rfl ?_
        refine g_goto (pc := 75) (tgt := 26) F dX11_row_75 (by decide) ?_
        refine g_sub [0, 1, 2, 3, 4] rfl ?_
        exact ih q10.2 a1 a3 a4 (a5 + (1 : Int32)) h
      · have h := ite_f c12 h
        refine g_iload (pc := 65) (x := q10.1) F dX11_row_65 5 rfl ?_
        refine g_istore (pc := 67) (lv2 := [(0, .ref (ec (xE X) 0)), (1, .int a1), (3, .int a3), (4, .int q10.1), (5, .int a5), (6, .int q10.1)]) F dX11_row_67 (by rw [hx]; decide) [1, 2, 3, 0, 4, 5] rfl ?_
        refine g_iload (pc := 69) (x := a5) F dX11_row_69 4 rfl ?_
        refine g_istore_n (pc := 71) (lv2 := [(0, .ref (ec (xE X) 0)), (1, .int a1), (3, .int a5), (4, .int q10.1), (5, .int a5), (6, .int q10.1)]) F dX11_row_71 rfl (by rw [hx]; decide) [1, 2, 0, 3, 4, 5] rfl ?_
        refine g_iinc (pc := 72) (lv2 := [(0, .ref (ec (xE X) 0)), (1, .int a1), (3, .int a5), (4, .int q10.1), (5, .int (a5 + (1 : Int32))), (6, .int q10.1)]) F dX11_row_72 4 rfl (ii_1 _) (by rw [hx]; decide) [1, 2, 3, 4, 0, 5] rfl ?_
        refine g_goto (pc := 75) (tgt := 26) F dX11_row_75 (by decide) ?_
        refine g_sub [0, 1, 2, 3, 4] rfl ?_
        exact ih q10.2 a1 a5 q10.1 (a5 + (1 : Int32)) h
set_option maxHeartbeats 4000000 in
set_option maxRecDepth 100000 in
theorem hX11_row {N : Nat} {M : Mem} {a1 : Int32} {res : Int32 × Mem} (h : mX11_row N M a1 = some res) (l : Launch) (E : Ev) : CtI l E (Wc E) yX11_row cX11_row 7 .int 7 163 [.ref (ec E 0), .int a1] M res.1 res.2 :=
  ctI_of (Wf := Wc) (av := fun E => [.ref (ec E 0), .int a1]) (lv := fun E => [(0, .ref (ec E 0)), (1, .int a1)]) (by decide) (fun _ => rfl) (fun _ => (Nat.le_of_ble_eq_true rfl)) (fun X F hx Rt => by
    have F : Fx X cX11_row RX11 7 163 := F
    unfold mX11_row at h
    refine g_aload_n (pc := 0) (x := ec (xE X) 0) F dX11_row_0 rfl 0 rfl ?_
    refine g_iload_n (pc := 1) (x := a1) F dX11_row_1 rfl 1 rfl ?_
    obtain ⟨r1, e2, h⟩ := bd_some h
    refine g_vI (pc := 2) (Wf := Wc) (As := [.int a1]) (rest := []) F (hX11_amissUnderWay e2 (xl X) (xE X)) kX11_amissUnderWay lX11_201 0 rfl (wc_T _ _) rfl rfl rfl ⟨(Nat.le_of_ble_eq_true rfl), (Nat.le_of_ble_eq_true rfl)⟩ (Nat.le_of_ble_eq_true rfl) dX11_row_2 ?_
    refine g_istore_n (pc := 5) (lv2 := [(0, .ref (ec (xE X) 0)), (1, .int a1), (2, .int r1)]) F dX11_row_5 rfl (by rw [hx]; decide) [1, 2, 0] rfl ?_
    refine g_iload_n (pc := 6) (x := r1) F dX11_row_6 rfl 2 rfl ?_
    refine g_if_eq (pc := 7) (tgt := 16) F dX11_row_7 (by decide) (fun c3 => ?_) (fun c3 => ?_)
    · have h := ite_t c3 h
      refine g_ldc (pc := 16) F oX11_194 dX11_row_16 ?_
      refine g_istore_n (pc := 18) (lv2 := [(0, .ref (ec (xE X) 0)), (1, .int a1), (2, .int r1), (3, .int (-1000000004 : Int32))]) F dX11_row_18 rfl (by rw [hx]; decide) [1, 2, 3, 0] rfl ?_
      refine g_bipush (pc := 19) F dX11_row_19 bp_101 ?_
      refine g_istore (pc := 21) (lv2 := [(0, .ref (ec (xE X) 0)), (1, .int a1), (2, .int r1), (3, .int (-1000000004 : Int32)), (4, .int (101 : Int32))]) F dX11_row_21 (by rw [hx]; decide) [1, 2, 3, 4, 0] rfl ?_
      refine g_iconst (pc := 23) F dX11_row_23 ic_0 ?_
      refine g_istore (pc := 24) (lv2 := [(0, .ref (ec (xE X) 0)), (1, .int a1), (2, .int r1), (3, .int (-1000000004 : Int32)), (4, .int (101 : Int32)), (5, .int (0 : Int32))]) F dX11_row_24 (by rw [hx]; decide) [1, 2, 3, 4, 5, 0] rfl ?_
      refine g_sub [0, 1, 3, 4, 5] rfl ?_
      exact wX11_row_b26 F hx Rt N M a1 (-1000000004 : Int32) (101 : Int32) (0 : Int32) h
    · have h := ite_f c3 h
      refine g_aload_n (pc := 10) (x := ec (xE X) 0) F dX11_row_10 rfl 0 rfl ?_
      refine g_iload_n (pc := 11) (x := r1) F dX11_row_11 rfl 2 rfl ?_
      obtain ⟨q13, e14, h⟩ := bd_some h
      refine g_vI (pc := 12) (Wf := Wc) (As := [.int r1]) (rest := []) F (hX11_found e14 (xl X) (xE X)) kX11_found lX11_82 0 rfl (wc_T _ _) rfl rfl rfl ⟨(Nat.le_of_ble_eq_true rfl), (Nat.le_of_ble_eq_true rfl)⟩ (Nat.le_of_ble_eq_true rfl) dX11_row_12 ?_
      obtain rfl := Option.some.inj h
      exact g_iret (pc := 15) (Wf := Wc) F Rt rfl dX11_row_15) l E
set_option maxHeartbeats 4000000 in
set_option maxRecDepth 100000 in
theorem wX11_kind_b26 {X : Cx} (F : Fx X cX11_kind RX11 7 163) (hx : xn X = 7) {N : Nat} {res : Int32 × Mem} (Rt : RI X Wc .int res.1 res.2) : ∀ (n : Nat) (M : Mem) (a1 : Int32) (a3 : Int32) (a4 : Int32) (a5 : Int32), mX11_kind_b26 N n M a1 a3 a4 a5 = some res → G X (Wc (xE X) M) 26 [(0, .ref (ec (xE X) 0)), (1, .int a1), (3, .int a3), (4, .int a4), (5, .int a5)] [] := by
  intro n
  induction n with
  | zero =>
    intro M a1 a3 a4 a5 h
    have h : none = some res := h
    cases h
  | succ n ih =>
    intro M a1 a3 a4 a5 h
    rw [mX11_kind_b26] at h
    refine g_iload (pc := 26) (x := a5) F dX11_kind_26 4 rfl ?_
    refine g_iconst (pc := 28) F dX11_kind_28 ic_5 ?_
    refine g_icmp_gt (pc := 29) (tgt := 82) F dX11_kind_29 (by decide) (fun c4 => ?_) (fun c4 => ?_)
    · have h := ite_t c4 h
      refine g_iload_n (pc := 82) (x := a3) F dX11_kind_82 rfl 2 rfl ?_
      refine g_ldc (pc := 83) F oX11_194 dX11_kind_83 ?_
      refine g_icmp_ne (pc := 85) (tgt := 97) F dX11_kind_85 (by decide) (fun c5 => ?_) (fun c5 => ?_)
      · have h := ite_f c5 h
        refine g_iload_n (pc := 97) (x := a3) F dX11_kind_97 rfl 2 rfl ?_
        obtain rfl := Option.some.inj h
        exact g_iret (pc := 98) (Wf := Wc) F Rt rfl dX11_kind_98
      · have h := ite_t c5 h
        refine g_aload_n (pc := 88) (x := ec (xE X) 0) F dX11_kind_88 rfl 0 rfl ?_
        refine g_ldc (pc := 89) F oX11_194 dX11_kind_89 ?_
        obtain ⟨q6, e7, h⟩ := bd_some h
        refine g_vI (pc := 91) (Wf := Wc) (As := [.int (-1000000004 : Int32)]) (rest := []) F (hX11_found e7 (xl X) (xE X)) kX11_found lX11_82 0 rfl (wc_T _ _) rfl rfl rfl ⟨(Nat.le_of_ble_eq_true rfl), (Nat.le_of_ble_eq_true rfl)⟩ (Nat.le_of_ble_eq_true rfl) dX11_kind_91 ?_
        refine g_goto (pc := 94) (tgt := 98) F dX11_kind_94 (by decide) ?_
        obtain rfl := Option.some.inj h
        exact g_iret (pc := 98) (Wf := Wc) F Rt rfl dX11_kind_98
    · have h := ite_f c4 h
      refine g_aload_n (pc := 32) (x := ec (xE X) 0) F dX11_kind_32 rfl 0 rfl ?_
      refine g_iload_n (pc := 33) (x := a1) F dX11_kind_33 rfl 1 rfl ?_
      obtain ⟨M8, e9, h⟩ := bd_some h
      refine g_vV (pc := 34) (Wf := Wc) (As := [.int a1]) (rest := []) F (hX11_tryAlone e9 (xl X) (xE X)) kX11_tryAlone lX11_184 0 rfl (wc_T _ _) rfl rfl rfl ⟨(Nat.le_of_ble_eq_true rfl), (Nat.le_of_ble_eq_true rfl)⟩ (Nat.le_of_ble_eq_true rfl) dX11_kind_34 ?_
      refine g_aload_n (pc := 37) (x := ec (xE X) 0) F dX11_kind_37 rfl 0 rfl ?_
      refine g_get (pc := 38) (v := .ref (ec (xE X) (8 + 2))) F fX11_43 0 (wc_T _ _) rfl dX11_kind_38 ?_
      refine g_get (pc := 41) (v := .ref (ec (xE X) (11 + 2))) F fX11_144 (8 + 2) (wc_S _ _ (by decide)) rfl dX11_kind_41 ?_
      refine g_iconst (pc := 44) F dX11_kind_44 ic_0 ?_
      refine g_aald (pc := 45) (C := "TowerWarns$Vessel") (b := ec (xE X) (14 + 6 * 2 + 0)) F (11 + 2) 3 (wc_A _ _ (by decide)) rfl vi_0_6 rfl dX11_kind_45 ?_
      refine g_aload_n (pc := 46) (x := ec (xE X) 0) F dX11_kind_46 rfl 0 rfl ?_
      refine g_get (pc := 47) (v := .ref (ec (xE X) 1)) F fX11_27 0 (wc_T _ _) rfl dX11_kind_47 ?_
      refine g_iload (pc := 50) (x := a5) F dX11_kind_50 4 rfl ?_
      obtain ⟨i10, h⟩ := ck_some h
      refine g_aald (pc := 52) (C := "TowerWarns$Ship") (b := ec (xE X) (2 + a5.toNatClampNeg)) F 1 4 (wc_Ks _ _) rfl i10 rfl dX11_kind_52 ?_
      refine g_put (pc := 53) (ws2 := Wc (xE X) (sI M8 2 (6 + 7 * 0 + 0) a5)) F pX11_164 (14 + 6 * 2 + 0) (wc_V _ _ (by decide) (by decide)) rfl rfl (Nat.le_of_ble_eq_true rfl) (wcp_V0 _ _ (by decide) (by decide) _) dX11_kind_53 ?_
      refine g_aload_n (pc := 56) (x := ec (xE X) 0) F dX11_kind_56 rfl 0 rfl ?_
      obtain ⟨q11, e12, h⟩ := bd_some h
      refine g_vI (pc := 57) (Wf := Wc) (As := []) (rest := []) F (hX11_hoursUntilBy e12 (xl X) (xE X)) kX11_hoursUntilBy lX11_191 0 rfl (wc_T _ _) rfl rfl rfl ⟨(Nat.le_of_ble_eq_true rfl), (Nat.le_of_ble_eq_true rfl)⟩ (Nat.le_of_ble_eq_true rfl) dX11_kind_57 ?_
      refine g_istore (pc := 60) (lv2 := [(0, .ref (ec (xE X) 0)), (1, .int a1), (3, .int a3), (4, .int a4), (5, .int a5), (6, .int q11.1)]) F dX11_kind_60 (by rw [hx]; decide) [1, 2, 3, 4, 5, 0] rfl ?_
      refine g_iload (pc := 62) (x := q11.1) F dX11_kind_62 5 rfl ?_
      refine g_iload (pc := 64) (x := a4) F dX11_kind_64 3 rfl ?_
      refine g_icmp_ge (pc := 66) (tgt := 76) F dX11_kind_66 (by decide) (fun c13 => ?_) (fun c13 => ?_)
      · have h := ite_t c13 h
        refine g_iinc (pc := 76) (lv2 := [(0, .ref (ec (xE X) 0)), (1, .int a1), (3, .int a3), (4, .int a4), (5, .int (a5 + (1 : Int32))), (6, .int q11.1)]) F dX11_kind_76 4 rfl (ii_1 _) (by rw [hx]; decide) [1, 2, 3, 4, 0, 5] rfl ?_
        refine g_goto (pc := 79) (tgt := 26) F dX11_kind_79 (by decide) ?_
        refine g_sub [0, 1, 2, 3, 4] rfl ?_
        exact ih q11.2 a1 a3 a4 (a5 + (1 : Int32)) h
      · have h := ite_f c13 h
        refine g_iload (pc := 69) (x := q11.1) F dX11_kind_69 5 rfl ?_
        refine g_istore (pc := 71) (lv2 := [(0, .ref (ec (xE X) 0)), (1, .int a1), (3, .int a3), (4, .int q11.1), (5, .int a5), (6, .int q11.1)]) F dX11_kind_71 (by rw [hx]; decide) [1, 2, 3, 0, 4, 5] rfl ?_
        refine g_iload (pc := 73) (x := a5) F dX11_kind_73 4 rfl ?_
        refine g_istore_n (pc := 75) (lv2 := [(0, .ref (ec (xE X) 0)), (1, .int a1), (3, .int a5), (4, .int q11.1), (5, .int a5), (6, .int q11.1)]) F dX11_kind_75 rfl (by rw [hx]; decide) [1, 2, 0, 3, 4, 5] rfl ?_
        refine g_iinc (pc := 76) (lv2 := [(0, .ref (ec (xE X) 0)), (1, .int a1), (3, .int a5), (4, .int q11.1), (5, .int (a5 + (1 : Int32))), (6, .int q11.1)]) F dX11_kind_76 4 rfl (ii_1 _) (by rw [hx]; decide) [1, 2, 3, 4, 0, 5] rfl ?_
        refine g_goto (pc := 79) (tgt := 26) F dX11_kind_79 (by decide) ?_
        refine g_sub [0, 1, 2, 3, 4] rfl ?_
        exact ih q11.2 a1 a5 q11.1 (a5 + (1 : Int32)) h
set_option maxHeartbeats 4000000 in
set_option maxRecDepth 100000 in
theorem hX11_kind {N : Nat} {M : Mem} {a1 : Int32} {res : Int32 × Mem} (h : mX11_kind N M a1 = some res) (l : Launch) (E : Ev) : CtI l E (Wc E) yX11_kind cX11_kind 7 .int 7 163 [.ref (ec E 0), .int a1] M res.1 res.2 :=
  ctI_of (Wf := Wc) (av := fun E => [.ref (ec E 0), .int a1]) (lv := fun E => [(0, .ref (ec E 0)), (1, .int a1)]) (by decide) (fun _ => rfl) (fun _ => (Nat.le_of_ble_eq_true rfl)) (fun X F hx Rt => by
    have F : Fx X cX11_kind RX11 7 163 := F
    unfold mX11_kind at h
    refine g_aload_n (pc := 0) (x := ec (xE X) 0) F dX11_kind_0 rfl 0 rfl ?_
    refine g_iload_n (pc := 1) (x := a1) F dX11_kind_1 rfl 1 rfl ?_
    obtain ⟨r1, e2, h⟩ := bd_some h
    refine g_vI (pc := 2) (Wf := Wc) (As := [.int a1]) (rest := []) F (hX11_amissUnderWay e2 (xl X) (xE X)) kX11_amissUnderWay lX11_201 0 rfl (wc_T _ _) rfl rfl rfl ⟨(Nat.le_of_ble_eq_true rfl), (Nat.le_of_ble_eq_true rfl)⟩ (Nat.le_of_ble_eq_true rfl) dX11_kind_2 ?_
    refine g_istore_n (pc := 5) (lv2 := [(0, .ref (ec (xE X) 0)), (1, .int a1), (2, .int r1)]) F dX11_kind_5 rfl (by rw [hx]; decide) [1, 2, 0] rfl ?_
    refine g_iload_n (pc := 6) (x := r1) F dX11_kind_6 rfl 2 rfl ?_
    refine g_if_eq (pc := 7) (tgt := 16) F dX11_kind_7 (by decide) (fun c3 => ?_) (fun c3 => ?_)
    · have h := ite_t c3 h
      refine g_ldc (pc := 16) F oX11_194 dX11_kind_16 ?_
      refine g_istore_n (pc := 18) (lv2 := [(0, .ref (ec (xE X) 0)), (1, .int a1), (2, .int r1), (3, .int (-1000000004 : Int32))]) F dX11_kind_18 rfl (by rw [hx]; decide) [1, 2, 3, 0] rfl ?_
      refine g_bipush (pc := 19) F dX11_kind_19 bp_101 ?_
      refine g_istore (pc := 21) (lv2 := [(0, .ref (ec (xE X) 0)), (1, .int a1), (2, .int r1), (3, .int (-1000000004 : Int32)), (4, .int (101 : Int32))]) F dX11_kind_21 (by rw [hx]; decide) [1, 2, 3, 4, 0] rfl ?_
      refine g_iconst (pc := 23) F dX11_kind_23 ic_0 ?_
      refine g_istore (pc := 24) (lv2 := [(0, .ref (ec (xE X) 0)), (1, .int a1), (2, .int r1), (3, .int (-1000000004 : Int32)), (4, .int (101 : Int32)), (5, .int (0 : Int32))]) F dX11_kind_24 (by rw [hx]; decide) [1, 2, 3, 4, 5, 0] rfl ?_
      refine g_sub [0, 1, 3, 4, 5] rfl ?_
      exact wX11_kind_b26 F hx Rt N M a1 (-1000000004 : Int32) (101 : Int32) (0 : Int32) h
    · have h := ite_f c3 h
      refine g_aload_n (pc := 10) (x := ec (xE X) 0) F dX11_kind_10 rfl 0 rfl ?_
      refine g_iload_n (pc := 11) (x := r1) F dX11_kind_11 rfl 2 rfl ?_
      obtain ⟨q14, e15, h⟩ := bd_some h
      refine g_vI (pc := 12) (Wf := Wc) (As := [.int r1]) (rest := []) F (hX11_found e15 (xl X) (xE X)) kX11_found lX11_82 0 rfl (wc_T _ _) rfl rfl rfl ⟨(Nat.le_of_ble_eq_true rfl), (Nat.le_of_ble_eq_true rfl)⟩ (Nat.le_of_ble_eq_true rfl) dX11_kind_12 ?_
      obtain rfl := Option.some.inj h
      exact g_iret (pc := 15) (Wf := Wc) F Rt rfl dX11_kind_15) l E
set_option maxHeartbeats 4000000 in
set_option maxRecDepth 100000 in
theorem hJ6_bitCount_0f7a4 {M : Mem} {a0 : Int32} {res : Int32} (h : mJ6_bitCount_0f7a4 a0 = some res) (l : Launch) (E : Ev) : CtI l E (Wc E) yJ6_bitCount_0f7a4 cJ6_bitCount_0f7a4 1 .int 0 0 [.int a0] M res M :=
  ctI_of (Wf := Wc) (av := fun E => [.int a0]) (lv := fun E => [(0, .int a0)]) (by decide) (fun _ => rfl) (fun _ => (Nat.le_of_ble_eq_true rfl)) (fun X F hx Rt => by
    have F : Fx X cJ6_bitCount_0f7a4 RJ6 0 0 := F
    unfold mJ6_bitCount_0f7a4 at h
    refine g_iload_n (pc := 0) (x := a0) F dJ6_bitCount_0f7a4_0 rfl 0 rfl ?_
    refine g_iload_n (pc := 1) (x := a0) F dJ6_bitCount_0f7a4_1 rfl 0 rfl ?_
    refine g_iconst (pc := 2) F dJ6_bitCount_0f7a4_2 ic_1 ?_
    refine g_iushr (pc := 3) F dJ6_bitCount_0f7a4_3 ?_
    refine g_ldcw (pc := 4) F oJ6_265 dJ6_bitCount_0f7a4_4 ?_
    refine g_iand (pc := 7) F dJ6_bitCount_0f7a4_7 ?_
    refine g_isub (pc := 8) F dJ6_bitCount_0f7a4_8 ?_
    refine g_istore_n (pc := 9) (lv2 := [(0, .int (a0 - (((a0.toUInt32 >>> ((1 : Int32).toUInt32 &&& Int32.toUInt32 31)).toInt32) &&& (1431655765 : Int32))))]) F dJ6_bitCount_0f7a4_9 rfl (by rw [hx]; decide) [0] rfl ?_
    refine g_iload_n (pc := 10) (x := a0 - (((a0.toUInt32 >>> ((1 : Int32).toUInt32 &&& Int32.toUInt32 31)).toInt32) &&& (1431655765 : Int32))) F dJ6_bitCount_0f7a4_10 rfl 0 rfl ?_
    refine g_ldcw (pc := 11) F oJ6_266 dJ6_bitCount_0f7a4_11 ?_
    refine g_iand (pc := 14) F dJ6_bitCount_0f7a4_14 ?_
    refine g_iload_n (pc := 15) (x := a0 - (((a0.toUInt32 >>> ((1 : Int32).toUInt32 &&& Int32.toUInt32 31)).toInt32) &&& (1431655765 : Int32))) F dJ6_bitCount_0f7a4_15 rfl 0 rfl ?_
    refine g_iconst (pc := 16) F dJ6_bitCount_0f7a4_16 ic_2 ?_
    refine g_iushr (pc := 17) F dJ6_bitCount_0f7a4_17 ?_
    refine g_ldcw (pc := 18) F oJ6_266 dJ6_bitCount_0f7a4_18 ?_
    refine g_iand (pc := 21) F dJ6_bitCount_0f7a4_21 ?_
    refine g_iadd (pc := 22) F dJ6_bitCount_0f7a4_22 ?_
    refine g_istore_n (pc := 23) (lv2 := [(0, .int (((a0 - (((a0.toUInt32 >>> ((1 : Int32).toUInt32 &&& Int32.toUInt32 31)).toInt32) &&& (1431655765 : Int32))) &&& (858993459 : Int32)) + ((((a0 - (((a0.toUInt32 >>> ((1 : Int32).toUInt32 &&& Int32.toUInt32 31)).toInt32) &&& (1431655765 : Int32))).toUInt32 >>> ((2 : Int32).toUInt32 &&& Int32.toUInt32 31)).toInt32) &&& (858993459 : Int32))))]) F dJ6_bitCount_0f7a4_23 rfl (by rw [hx]; decide) [0] rfl ?_
    refine g_iload_n (pc := 24) (x := ((a0 - (((a0.toUInt32 >>> ((1 : Int32).toUInt32 &&& Int32.toUInt32 31)).toInt32) &&& (1431655765 : Int32))) &&& (858993459 : Int32)) + ((((a0 - (((a0.toUInt32 >>> ((1 : Int32).toUInt32 &&& Int32.toUInt32 31)).toInt32) &&& (1431655765 : Int32))).toUInt32 >>> ((2 : Int32).toUInt32 &&& Int32.toUInt32 31)).toInt32) &&& (858993459 : Int32))) F dJ6_bitCount_0f7a4_24 rfl 0 rfl ?_
    refine g_iload_n (pc := 25) (x := ((a0 - (((a0.toUInt32 >>> ((1 : Int32).toUInt32 &&& Int32.toUInt32 31)).toInt32) &&& (1431655765 : Int32))) &&& (858993459 : Int32)) + ((((a0 - (((a0.toUInt32 >>> ((1 : Int32).toUInt32 &&& Int32.toUInt32 31)).toInt32) &&& (1431655765 : Int32))).toUInt32 >>> ((2 : Int32).toUInt32 &&& Int32.toUInt32 31)).toInt32) &&& (858993459 : Int32))) F dJ6_bitCount_0f7a4_25 rfl 0 rfl ?_
    refine g_iconst (pc := 26) F dJ6_bitCount_0f7a4_26 ic_4 ?_
    refine g_iushr (pc := 27) F dJ6_bitCount_0f7a4_27 ?_
    refine g_iadd (pc := 28) F dJ6_bitCount_0f7a4_28 ?_
    refine g_ldcw (pc := 29) F oJ6_267 dJ6_bitCount_0f7a4_29 ?_
    refine g_iand (pc := 32) F dJ6_bitCount_0f7a4_32 ?_
    refine g_istore_n (pc := 33) (lv2 := [(0, .int (((((a0 - (((a0.toUInt32 >>> ((1 : Int32).toUInt32 &&& Int32.toUInt32 31)).toInt32) &&& (1431655765 : Int32))) &&& (858993459 : Int32)) + ((((a0 - (((a0.toUInt32 >>> ((1 : Int32).toUInt32 &&& Int32.toUInt32 31)).toInt32) &&& (1431655765 : Int32))).toUInt32 >>> ((2 : Int32).toUInt32 &&& Int32.toUInt32 31)).toInt32) &&& (858993459 : Int32))) + (((((a0 - (((a0.toUInt32 >>> ((1 : Int32).toUInt32 &&& Int32.toUInt32 31)).toInt32) &&& (1431655765 : Int32))) &&& (858993459 : Int32)) + ((((a0 - (((a0.toUInt32 >>> ((1 : Int32).toUInt32 &&& Int32.toUInt32 31)).toInt32) &&& (1431655765 : Int32))).toUInt32 >>> ((2 : Int32).toUInt32 &&& Int32.toUInt32 31)).toInt32) &&& (858993459 : Int32))).toUInt32 >>> ((4 : Int32).toUInt32 &&& Int32.toUInt32 31)).toInt32)) &&& (252645135 : Int32)))]) F dJ6_bitCount_0f7a4_33 rfl (by rw [hx]; decide) [0] rfl ?_
    refine g_iload_n (pc := 34) (x := ((((a0 - (((a0.toUInt32 >>> ((1 : Int32).toUInt32 &&& Int32.toUInt32 31)).toInt32) &&& (1431655765 : Int32))) &&& (858993459 : Int32)) + ((((a0 - (((a0.toUInt32 >>> ((1 : Int32).toUInt32 &&& Int32.toUInt32 31)).toInt32) &&& (1431655765 : Int32))).toUInt32 >>> ((2 : Int32).toUInt32 &&& Int32.toUInt32 31)).toInt32) &&& (858993459 : Int32))) + (((((a0 - (((a0.toUInt32 >>> ((1 : Int32).toUInt32 &&& Int32.toUInt32 31)).toInt32) &&& (1431655765 : Int32))) &&& (858993459 : Int32)) + ((((a0 - (((a0.toUInt32 >>> ((1 : Int32).toUInt32 &&& Int32.toUInt32 31)).toInt32) &&& (1431655765 : Int32))).toUInt32 >>> ((2 : Int32).toUInt32 &&& Int32.toUInt32 31)).toInt32) &&& (858993459 : Int32))).toUInt32 >>> ((4 : Int32).toUInt32 &&& Int32.toUInt32 31)).toInt32)) &&& (252645135 : Int32)) F dJ6_bitCount_0f7a4_34 rfl 0 rfl ?_
    refine g_iload_n (pc := 35) (x := ((((a0 - (((a0.toUInt32 >>> ((1 : Int32).toUInt32 &&& Int32.toUInt32 31)).toInt32) &&& (1431655765 : Int32))) &&& (858993459 : Int32)) + ((((a0 - (((a0.toUInt32 >>> ((1 : Int32).toUInt32 &&& Int32.toUInt32 31)).toInt32) &&& (1431655765 : Int32))).toUInt32 >>> ((2 : Int32).toUInt32 &&& Int32.toUInt32 31)).toInt32) &&& (858993459 : Int32))) + (((((a0 - (((a0.toUInt32 >>> ((1 : Int32).toUInt32 &&& Int32.toUInt32 31)).toInt32) &&& (1431655765 : Int32))) &&& (858993459 : Int32)) + ((((a0 - (((a0.toUInt32 >>> ((1 : Int32).toUInt32 &&& Int32.toUInt32 31)).toInt32) &&& (1431655765 : Int32))).toUInt32 >>> ((2 : Int32).toUInt32 &&& Int32.toUInt32 31)).toInt32) &&& (858993459 : Int32))).toUInt32 >>> ((4 : Int32).toUInt32 &&& Int32.toUInt32 31)).toInt32)) &&& (252645135 : Int32)) F dJ6_bitCount_0f7a4_35 rfl 0 rfl ?_
    refine g_bipush (pc := 36) F dJ6_bitCount_0f7a4_36 bp_8 ?_
    refine g_iushr (pc := 38) F dJ6_bitCount_0f7a4_38 ?_
    refine g_iadd (pc := 39) F dJ6_bitCount_0f7a4_39 ?_
    refine g_istore_n (pc := 40) (lv2 := [(0, .int ((((((a0 - (((a0.toUInt32 >>> ((1 : Int32).toUInt32 &&& Int32.toUInt32 31)).toInt32) &&& (1431655765 : Int32))) &&& (858993459 : Int32)) + ((((a0 - (((a0.toUInt32 >>> ((1 : Int32).toUInt32 &&& Int32.toUInt32 31)).toInt32) &&& (1431655765 : Int32))).toUInt32 >>> ((2 : Int32).toUInt32 &&& Int32.toUInt32 31)).toInt32) &&& (858993459 : Int32))) + (((((a0 - (((a0.toUInt32 >>> ((1 : Int32).toUInt32 &&& Int32.toUInt32 31)).toInt32) &&& (1431655765 : Int32))) &&& (858993459 : Int32)) + ((((a0 - (((a0.toUInt32 >>> ((1 : Int32).toUInt32 &&& Int32.toUInt32 31)).toInt32) &&& (1431655765 : Int32))).toUInt32 >>> ((2 : Int32).toUInt32 &&& Int32.toUInt32 31)).toInt32) &&& (858993459 : Int32))).toUInt32 >>> ((4 : Int32).toUInt32 &&& Int32.toUInt32 31)).toInt32)) &&& (252645135 : Int32)) + (((((((a0 - (((a0.toUInt32 >>> ((1 : Int32).toUInt32 &&& Int32.toUInt32 31)).toInt32) &&& (1431655765 : Int32))) &&& (858993459 : Int32)) + ((((a0 - (((a0.toUInt32 >>> ((1 : Int32).toUInt32 &&& Int32.toUInt32 31)).toInt32) &&& (1431655765 : Int32))).toUInt32 >>> ((2 : Int32).toUInt32 &&& Int32.toUInt32 31)).toInt32) &&& (858993459 : Int32))) + (((((a0 - (((a0.toUInt32 >>> ((1 : Int32).toUInt32 &&& Int32.toUInt32 31)).toInt32) &&& (1431655765 : Int32))) &&& (858993459 : Int32)) + ((((a0 - (((a0.toUInt32 >>> ((1 : Int32).toUInt32 &&& Int32.toUInt32 31)).toInt32) &&& (1431655765 : Int32))).toUInt32 >>> ((2 : Int32).toUInt32 &&& Int32.toUInt32 31)).toInt32) &&& (858993459 : Int32))).toUInt32 >>> ((4 : Int32).toUInt32 &&& Int32.toUInt32 31)).toInt32)) &&& (252645135 : Int32)).toUInt32 >>> ((8 : Int32).toUInt32 &&& Int32.toUInt32 31)).toInt32)))]) F dJ6_bitCount_0f7a4_40 rfl (by rw [hx]; decide) [0] rfl ?_
    refine g_iload_n (pc := 41) (x := (((((a0 - (((a0.toUInt32 >>> ((1 : Int32).toUInt32 &&& Int32.toUInt32 31)).toInt32) &&& (1431655765 : Int32))) &&& (858993459 : Int32)) + ((((a0 - (((a0.toUInt32 >>> ((1 : Int32).toUInt32 &&& Int32.toUInt32 31)).toInt32) &&& (1431655765 : Int32))).toUInt32 >>> ((2 : Int32).toUInt32 &&& Int32.toUInt32 31)).toInt32) &&& (858993459 : Int32))) + (((((a0 - (((a0.toUInt32 >>> ((1 : Int32).toUInt32 &&& Int32.toUInt32 31)).toInt32) &&& (1431655765 : Int32))) &&& (858993459 : Int32)) + ((((a0 - (((a0.toUInt32 >>> ((1 : Int32).toUInt32 &&& Int32.toUInt32 31)).toInt32) &&& (1431655765 : Int32))).toUInt32 >>> ((2 : Int32).toUInt32 &&& Int32.toUInt32 31)).toInt32) &&& (858993459 : Int32))).toUInt32 >>> ((4 : Int32).toUInt32 &&& Int32.toUInt32 31)).toInt32)) &&& (252645135 : Int32)) + (((((((a0 - (((a0.toUInt32 >>> ((1 : Int32).toUInt32 &&& Int32.toUInt32 31)).toInt32) &&& (1431655765 : Int32))) &&& (858993459 : Int32)) + ((((a0 - (((a0.toUInt32 >>> ((1 : Int32).toUInt32 &&& Int32.toUInt32 31)).toInt32) &&& (1431655765 : Int32))).toUInt32 >>> ((2 : Int32).toUInt32 &&& Int32.toUInt32 31)).toInt32) &&& (858993459 : Int32))) + (((((a0 - (((a0.toUInt32 >>> ((1 : Int32).toUInt32 &&& Int32.toUInt32 31)).toInt32) &&& (1431655765 : Int32))) &&& (858993459 : Int32)) + ((((a0 - (((a0.toUInt32 >>> ((1 : Int32).toUInt32 &&& Int32.toUInt32 31)).toInt32) &&& (1431655765 : Int32))).toUInt32 >>> ((2 : Int32).toUInt32 &&& Int32.toUInt32 31)).toInt32) &&& (858993459 : Int32))).toUInt32 >>> ((4 : Int32).toUInt32 &&& Int32.toUInt32 31)).toInt32)) &&& (252645135 : Int32)).toUInt32 >>> ((8 : Int32).toUInt32 &&& Int32.toUInt32 31)).toInt32)) F dJ6_bitCount_0f7a4_41 rfl 0 rfl ?_
    refine g_iload_n (pc := 42) (x := (((((a0 - (((a0.toUInt32 >>> ((1 : Int32).toUInt32 &&& Int32.toUInt32 31)).toInt32) &&& (1431655765 : Int32))) &&& (858993459 : Int32)) + ((((a0 - (((a0.toUInt32 >>> ((1 : Int32).toUInt32 &&& Int32.toUInt32 31)).toInt32) &&& (1431655765 : Int32))).toUInt32 >>> ((2 : Int32).toUInt32 &&& Int32.toUInt32 31)).toInt32) &&& (858993459 : Int32))) + (((((a0 - (((a0.toUInt32 >>> ((1 : Int32).toUInt32 &&& Int32.toUInt32 31)).toInt32) &&& (1431655765 : Int32))) &&& (858993459 : Int32)) + ((((a0 - (((a0.toUInt32 >>> ((1 : Int32).toUInt32 &&& Int32.toUInt32 31)).toInt32) &&& (1431655765 : Int32))).toUInt32 >>> ((2 : Int32).toUInt32 &&& Int32.toUInt32 31)).toInt32) &&& (858993459 : Int32))).toUInt32 >>> ((4 : Int32).toUInt32 &&& Int32.toUInt32 31)).toInt32)) &&& (252645135 : Int32)) + (((((((a0 - (((a0.toUInt32 >>> ((1 : Int32).toUInt32 &&& Int32.toUInt32 31)).toInt32) &&& (1431655765 : Int32))) &&& (858993459 : Int32)) + ((((a0 - (((a0.toUInt32 >>> ((1 : Int32).toUInt32 &&& Int32.toUInt32 31)).toInt32) &&& (1431655765 : Int32))).toUInt32 >>> ((2 : Int32).toUInt32 &&& Int32.toUInt32 31)).toInt32) &&& (858993459 : Int32))) + (((((a0 - (((a0.toUInt32 >>> ((1 : Int32).toUInt32 &&& Int32.toUInt32 31)).toInt32) &&& (1431655765 : Int32))) &&& (858993459 : Int32)) + ((((a0 - (((a0.toUInt32 >>> ((1 : Int32).toUInt32 &&& Int32.toUInt32 31)).toInt32) &&& (1431655765 : Int32))).toUInt32 >>> ((2 : Int32).toUInt32 &&& Int32.toUInt32 31)).toInt32) &&& (858993459 : Int32))).toUInt32 >>> ((4 : Int32).toUInt32 &&& Int32.toUInt32 31)).toInt32)) &&& (252645135 : Int32)).toUInt32 >>> ((8 : Int32).toUInt32 &&& Int32.toUInt32 31)).toInt32)) F dJ6_bitCount_0f7a4_42 rfl 0 rfl ?_
    refine g_bipush (pc := 43) F dJ6_bitCount_0f7a4_43 bp_16 ?_
    refine g_iushr (pc := 45) F dJ6_bitCount_0f7a4_45 ?_
    refine g_iadd (pc := 46) F dJ6_bitCount_0f7a4_46 ?_
    refine g_istore_n (pc := 47) (lv2 := [(0, .int (((((((a0 - (((a0.toUInt32 >>> ((1 : Int32).toUInt32 &&& Int32.toUInt32 31)).toInt32) &&& (1431655765 : Int32))) &&& (858993459 : Int32)) + ((((a0 - (((a0.toUInt32 >>> ((1 : Int32).toUInt32 &&& Int32.toUInt32 31)).toInt32) &&& (1431655765 : Int32))).toUInt32 >>> ((2 : Int32).toUInt32 &&& Int32.toUInt32 31)).toInt32) &&& (858993459 : Int32))) + (((((a0 - (((a0.toUInt32 >>> ((1 : Int32).toUInt32 &&& Int32.toUInt32 31)).toInt32) &&& (1431655765 : Int32))) &&& (858993459 : Int32)) + ((((a0 - (((a0.toUInt32 >>> ((1 : Int32).toUInt32 &&& Int32.toUInt32 31)).toInt32) &&& (1431655765 : Int32))).toUInt32 >>> ((2 : Int32).toUInt32 &&& Int32.toUInt32 31)).toInt32) &&& (858993459 : Int32))).toUInt32 >>> ((4 : Int32).toUInt32 &&& Int32.toUInt32 31)).toInt32)) &&& (252645135 : Int32)) + (((((((a0 - (((a0.toUInt32 >>> ((1 : Int32).toUInt32 &&& Int32.toUInt32 31)).toInt32) &&& (1431655765 : Int32))) &&& (858993459 : Int32)) + ((((a0 - (((a0.toUInt32 >>> ((1 : Int32).toUInt32 &&& Int32.toUInt32 31)).toInt32) &&& (1431655765 : Int32))).toUInt32 >>> ((2 : Int32).toUInt32 &&& Int32.toUInt32 31)).toInt32) &&& (858993459 : Int32))) + (((((a0 - (((a0.toUInt32 >>> ((1 : Int32).toUInt32 &&& Int32.toUInt32 31)).toInt32) &&& (1431655765 : Int32))) &&& (858993459 : Int32)) + ((((a0 - (((a0.toUInt32 >>> ((1 : Int32).toUInt32 &&& Int32.toUInt32 31)).toInt32) &&& (1431655765 : Int32))).toUInt32 >>> ((2 : Int32).toUInt32 &&& Int32.toUInt32 31)).toInt32) &&& (858993459 : Int32))).toUInt32 >>> ((4 : Int32).toUInt32 &&& Int32.toUInt32 31)).toInt32)) &&& (252645135 : Int32)).toUInt32 >>> ((8 : Int32).toUInt32 &&& Int32.toUInt32 31)).toInt32)) + ((((((((a0 - (((a0.toUInt32 >>> ((1 : Int32).toUInt32 &&& Int32.toUInt32 31)).toInt32) &&& (1431655765 : Int32))) &&& (858993459 : Int32)) + ((((a0 - (((a0.toUInt32 >>> ((1 : Int32).toUInt32 &&& Int32.toUInt32 31)).toInt32) &&& (1431655765 : Int32))).toUInt32 >>> ((2 : Int32).toUInt32 &&& Int32.toUInt32 31)).toInt32) &&& (858993459 : Int32))) + (((((a0 - (((a0.toUInt32 >>> ((1 : Int32).toUInt32 &&& Int32.toUInt32 31)).toInt32) &&& (1431655765 : Int32))) &&& (858993459 : Int32)) + ((((a0 - (((a0.toUInt32 >>> ((1 : Int32).toUInt32 &&& Int32.toUInt32 31)).toInt32) &&& (1431655765 : Int32))).toUInt32 >>> ((2 : Int32).toUInt32 &&& Int32.toUInt32 31)).toInt32) &&& (858993459 : Int32))).toUInt32 >>> ((4 : Int32).toUInt32 &&& Int32.toUInt32 31)).toInt32)) &&& (252645135 : Int32)) + (((((((a0 - (((a0.toUInt32 >>> ((1 : Int32).toUInt32 &&& Int32.toUInt32 31)).toInt32) &&& (1431655765 : Int32))) &&& (858993459 : Int32)) + ((((a0 - (((a0.toUInt32 >>> ((1 : Int32).toUInt32 &&& Int32.toUInt32 31)).toInt32) &&& (1431655765 : Int32))).toUInt32 >>> ((2 : Int32).toUInt32 &&& Int32.toUInt32 31)).toInt32) &&& (858993459 : Int32))) + (((((a0 - (((a0.toUInt32 >>> ((1 : Int32).toUInt32 &&& Int32.toUInt32 31)).toInt32) &&& (1431655765 : Int32))) &&& (858993459 : Int32)) + ((((a0 - (((a0.toUInt32 >>> ((1 : Int32).toUInt32 &&& Int32.toUInt32 31)).toInt32) &&& (1431655765 : Int32))).toUInt32 >>> ((2 : Int32).toUInt32 &&& Int32.toUInt32 31)).toInt32) &&& (858993459 : Int32))).toUInt32 >>> ((4 : Int32).toUInt32 &&& Int32.toUInt32 31)).toInt32)) &&& (252645135 : Int32)).toUInt32 >>> ((8 : Int32).toUInt32 &&& Int32.toUInt32 31)).toInt32)).toUInt32 >>> ((16 : Int32).toUInt32 &&& Int32.toUInt32 31)).toInt32)))]) F dJ6_bitCount_0f7a4_47 rfl (by rw [hx]; decide) [0] rfl ?_
    refine g_iload_n (pc := 48) (x := ((((((a0 - (((a0.toUInt32 >>> ((1 : Int32).toUInt32 &&& Int32.toUInt32 31)).toInt32) &&& (1431655765 : Int32))) &&& (858993459 : Int32)) + ((((a0 - (((a0.toUInt32 >>> ((1 : Int32).toUInt32 &&& Int32.toUInt32 31)).toInt32) &&& (1431655765 : Int32))).toUInt32 >>> ((2 : Int32).toUInt32 &&& Int32.toUInt32 31)).toInt32) &&& (858993459 : Int32))) + (((((a0 - (((a0.toUInt32 >>> ((1 : Int32).toUInt32 &&& Int32.toUInt32 31)).toInt32) &&& (1431655765 : Int32))) &&& (858993459 : Int32)) + ((((a0 - (((a0.toUInt32 >>> ((1 : Int32).toUInt32 &&& Int32.toUInt32 31)).toInt32) &&& (1431655765 : Int32))).toUInt32 >>> ((2 : Int32).toUInt32 &&& Int32.toUInt32 31)).toInt32) &&& (858993459 : Int32))).toUInt32 >>> ((4 : Int32).toUInt32 &&& Int32.toUInt32 31)).toInt32)) &&& (252645135 : Int32)) + (((((((a0 - (((a0.toUInt32 >>> ((1 : Int32).toUInt32 &&& Int32.toUInt32 31)).toInt32) &&& (1431655765 : Int32))) &&& (858993459 : Int32)) + ((((a0 - (((a0.toUInt32 >>> ((1 : Int32).toUInt32 &&& Int32.toUInt32 31)).toInt32) &&& (1431655765 : Int32))).toUInt32 >>> ((2 : Int32).toUInt32 &&& Int32.toUInt32 31)).toInt32) &&& (858993459 : Int32))) + (((((a0 - (((a0.toUInt32 >>> ((1 : Int32).toUInt32 &&& Int32.toUInt32 31)).toInt32) &&& (1431655765 : Int32))) &&& (858993459 : Int32)) + ((((a0 - (((a0.toUInt32 >>> ((1 : Int32).toUInt32 &&& Int32.toUInt32 31)).toInt32) &&& (1431655765 : Int32))).toUInt32 >>> ((2 : Int32).toUInt32 &&& Int32.toUInt32 31)).toInt32) &&& (858993459 : Int32))).toUInt32 >>> ((4 : Int32).toUInt32 &&& Int32.toUInt32 31)).toInt32)) &&& (252645135 : Int32)).toUInt32 >>> ((8 : Int32).toUInt32 &&& Int32.toUInt32 31)).toInt32)) + ((((((((a0 - (((a0.toUInt32 >>> ((1 : Int32).toUInt32 &&& Int32.toUInt32 31)).toInt32) &&& (1431655765 : Int32))) &&& (858993459 : Int32)) + ((((a0 - (((a0.toUInt32 >>> ((1 : Int32).toUInt32 &&& Int32.toUInt32 31)).toInt32) &&& (1431655765 : Int32))).toUInt32 >>> ((2 : Int32).toUInt32 &&& Int32.toUInt32 31)).toInt32) &&& (858993459 : Int32))) + (((((a0 - (((a0.toUInt32 >>> ((1 : Int32).toUInt32 &&& Int32.toUInt32 31)).toInt32) &&& (1431655765 : Int32))) &&& (858993459 : Int32)) + ((((a0 - (((a0.toUInt32 >>> ((1 : Int32).toUInt32 &&& Int32.toUInt32 31)).toInt32) &&& (1431655765 : Int32))).toUInt32 >>> ((2 : Int32).toUInt32 &&& Int32.toUInt32 31)).toInt32) &&& (858993459 : Int32))).toUInt32 >>> ((4 : Int32).toUInt32 &&& Int32.toUInt32 31)).toInt32)) &&& (252645135 : Int32)) + (((((((a0 - (((a0.toUInt32 >>> ((1 : Int32).toUInt32 &&& Int32.toUInt32 31)).toInt32) &&& (1431655765 : Int32))) &&& (858993459 : Int32)) + ((((a0 - (((a0.toUInt32 >>> ((1 : Int32).toUInt32 &&& Int32.toUInt32 31)).toInt32) &&& (1431655765 : Int32))).toUInt32 >>> ((2 : Int32).toUInt32 &&& Int32.toUInt32 31)).toInt32) &&& (858993459 : Int32))) + (((((a0 - (((a0.toUInt32 >>> ((1 : Int32).toUInt32 &&& Int32.toUInt32 31)).toInt32) &&& (1431655765 : Int32))) &&& (858993459 : Int32)) + ((((a0 - (((a0.toUInt32 >>> ((1 : Int32).toUInt32 &&& Int32.toUInt32 31)).toInt32) &&& (1431655765 : Int32))).toUInt32 >>> ((2 : Int32).toUInt32 &&& Int32.toUInt32 31)).toInt32) &&& (858993459 : Int32))).toUInt32 >>> ((4 : Int32).toUInt32 &&& Int32.toUInt32 31)).toInt32)) &&& (252645135 : Int32)).toUInt32 >>> ((8 : Int32).toUInt32 &&& Int32.toUInt32 31)).toInt32)).toUInt32 >>> ((16 : Int32).toUInt32 &&& Int32.toUInt32 31)).toInt32)) F dJ6_bitCount_0f7a4_48 rfl 0 rfl ?_
    refine g_bipush (pc := 49) F dJ6_bitCount_0f7a4_49 bp_63 ?_
    refine g_iand (pc := 51) F dJ6_bitCount_0f7a4_51 ?_
    obtain rfl := Option.some.inj h
    exact g_iret (pc := 52) (Wf := Wc) F Rt rfl dJ6_bitCount_0f7a4_52) l E
set_option maxHeartbeats 4000000 in
set_option maxRecDepth 100000 in
theorem wX11_shine_b25 {X : Cx} (F : Fx X cX11_shine RX11 5 121) (hx : xn X = 6) {N : Nat} {res : Int32 × Mem} (Rt : RI X Wc .int res.1 res.2) : ∀ (n : Nat) (M : Mem) (a1 : Int32) (a2 : Int32) (a3 : Int32) (a4 : Int32), mX11_shine_b25 N n M a1 a2 a3 a4 = some res → G X (Wc (xE X) M) 25 [(0, .ref (ec (xE X) 0)), (1, .int a1), (2, .int a2), (3, .int a3), (4, .int a4)] [] := by
  intro n
  induction n with
  | zero =>
    intro M a1 a2 a3 a4 h
    have h : none = some res := h
    cases h
  | succ n ih =>
    intro M a1 a2 a3 a4 h
    rw [mX11_shine_b25] at h
    refine g_iload (pc := 25) (x := a4) F dX11_shine_25 4 rfl ?_
    refine g_bipush (pc := 27) F dX11_shine_27 bp_9 ?_
    refine g_icmp_gt (pc := 29) (tgt := 90) F dX11_shine_29 (by decide) (fun c4 => ?_) (fun c4 => ?_)
    · have h := ite_t c4 h
      refine g_iload_n (pc := 90) (x := a2) F dX11_shine_90 rfl 2 rfl ?_
      obtain rfl := Option.some.inj h
      exact g_iret (pc := 91) (Wf := Wc) F Rt rfl dX11_shine_91
    · have h := ite_f c4 h
      refine g_aload_n (pc := 32) (x := ec (xE X) 0) F dX11_shine_32 rfl 0 rfl ?_
      refine g_get (pc := 33) (v := .ref (ec (xE X) (8 + 2))) F fX11_43 0 (wc_T _ _) rfl dX11_shine_33 ?_
      refine g_aload_n (pc := 36) (x := ec (xE X) 0) F dX11_shine_36 rfl 0 rfl ?_
      refine g_get (pc := 37) (v := .ref (ec (xE X) (8 + 0))) F fX11_36 0 (wc_T _ _) rfl dX11_shine_37 ?_
      obtain ⟨M5, e6, h⟩ := bd_some h
      refine g_vV (pc := 40) (Wf := Wc) (As := [.ref (ec (xE X) (8 + 0))]) (rest := []) F (hX4_become (by decide) (by decide) e6 (xl X) (xE X)) kX4_become lX11_187 (8 + 2) rfl (wc_S _ _ (by decide)) rfl rfl rfl ⟨(Nat.le_of_ble_eq_true rfl), (Nat.le_of_ble_eq_true rfl)⟩ (Nat.le_of_ble_eq_true rfl) dX11_shine_40 ?_
      refine g_aload_n (pc := 43) (x := ec (xE X) 0) F dX11_shine_43 rfl 0 rfl ?_
      refine g_get (pc := 44) (v := .ref (ec (xE X) (8 + 2))) F fX11_43 0 (wc_T _ _) rfl dX11_shine_44 ?_
      refine g_iload (pc := 47) (x := a4) F dX11_shine_47 4 rfl ?_
      refine g_put (pc := 49) (ws2 := Wc (xE X) (sI M5 2 4 a4)) F pX11_100 (8 + 2) (wc_S _ _ (by decide)) rfl rfl (Nat.le_of_ble_eq_true rfl) (wcp_S4 _ _ (by decide) _) dX11_shine_49 ?_
      refine g_aload_n (pc := 52) (x := ec (xE X) 0) F dX11_shine_52 rfl 0 rfl ?_
      refine g_get (pc := 53) (v := .ref (ec (xE X) (8 + 2))) F fX11_43 0 (wc_T _ _) rfl dX11_shine_53 ?_
      refine g_iload_n (pc := 56) (x := a1) F dX11_shine_56 rfl 1 rfl ?_
      obtain ⟨M7, e8, h⟩ := bd_some h
      refine g_vV (pc := 57) (Wf := Wc) (As := [.int a1]) (rest := []) F (hX4_pass (by decide) e8 (xl X) (xE X)) kX4_pass lX11_180 (8 + 2) rfl (wc_S _ _ (by decide)) rfl rfl rfl ⟨(Nat.le_of_ble_eq_true rfl), (Nat.le_of_ble_eq_true rfl)⟩ (Nat.le_of_ble_eq_true rfl) dX11_shine_57 ?_
      refine g_aload_n (pc := 60) (x := ec (xE X) 0) F dX11_shine_60 rfl 0 rfl ?_
      refine g_get (pc := 61) (v := .ref (ec (xE X) (8 + 2))) F fX11_43 0 (wc_T _ _) rfl dX11_shine_61 ?_
      obtain ⟨r9, e10, h⟩ := bd_some h
      refine g_vI (pc := 64) (Wf := Wc) (As := []) (rest := []) F (hX4_lostOnes (by decide) e10 (xl X) (xE X)) kX4_lostOnes lX11_120 (8 + 2) rfl (wc_S _ _ (by decide)) rfl rfl rfl ⟨(Nat.le_of_ble_eq_true rfl), (Nat.le_of_ble_eq_true rfl)⟩ (Nat.le_of_ble_eq_true rfl) dX11_shine_64 ?_
      obtain ⟨r11, e12, h⟩ := bd_some h
      refine g_sI (pc := 67) (Wf := Wc) (As := [.int r9]) (rest := []) F (hJ6_bitCount_0f7a4 (M := M7) e12 (xl X) (xE X)) kJ6_bitCount_0f7a4 lX11_207 rfl rfl ⟨(Nat.le_of_ble_eq_true rfl), (Nat.le_of_ble_eq_true rfl)⟩ (Nat.le_of_ble_eq_true rfl) dX11_shine_67 ?_
      refine g_istore (pc := 70) (lv2 := [(0, .ref (ec (xE X) 0)), (1, .int a1), (2, .int a2), (3, .int a3), (4, .int a4), (5, .int r11)]) F dX11_shine_70 (by rw [hx]; decide) [1, 2, 3, 4, 5, 0] rfl ?_
      refine g_iload (pc := 72) (x := r11) F dX11_shine_72 5 rfl ?_
      refine g_iload_n (pc := 74) (x := a3) F dX11_shine_74 rfl 3 rfl ?_
      refine g_icmp_ge (pc := 75) (tgt := 84) F dX11_shine_75 (by decide) (fun c13 => ?_) (fun c13 => ?_)
      · have h := ite_t c13 h
        refine g_iinc (pc := 84) (lv2 := [(0, .ref (ec (xE X) 0)), (1, .int a1), (2, .int a2), (3, .int a3), (4, .int (a4 + (1 : Int32))), (5, .int r11)]) F dX11_shine_84 4 rfl (ii_1 _) (by rw [hx]; decide) [1, 2, 3, 4, 0, 5] rfl ?_
        refine g_goto (pc := 87) (tgt := 25) F dX11_shine_87 (by decide) ?_
        refine g_sub [0, 1, 2, 3, 4] rfl ?_
        exact ih M7 a1 a2 a3 (a4 + (1 : Int32)) h
      · have h := ite_f c13 h
        refine g_iload (pc := 78) (x := r11) F dX11_shine_78 5 rfl ?_
        refine g_istore_n (pc := 80) (lv2 := [(0, .ref (ec (xE X) 0)), (1, .int a1), (2, .int a2), (3, .int r11), (4, .int a4), (5, .int r11)]) F dX11_shine_80 rfl (by rw [hx]; decide) [1, 2, 3, 0, 4, 5] rfl ?_
        refine g_iload (pc := 81) (x := a4) F dX11_shine_81 4 rfl ?_
        refine g_istore_n (pc := 83) (lv2 := [(0, .ref (ec (xE X) 0)), (1, .int a1), (2, .int a4), (3, .int r11), (4, .int a4), (5, .int r11)]) F dX11_shine_83 rfl (by rw [hx]; decide) [1, 2, 0, 3, 4, 5] rfl ?_
        refine g_iinc (pc := 84) (lv2 := [(0, .ref (ec (xE X) 0)), (1, .int a1), (2, .int a4), (3, .int r11), (4, .int (a4 + (1 : Int32))), (5, .int r11)]) F dX11_shine_84 4 rfl (ii_1 _) (by rw [hx]; decide) [1, 2, 3, 4, 0, 5] rfl ?_
        refine g_goto (pc := 87) (tgt := 25) F dX11_shine_87 (by decide) ?_
        refine g_sub [0, 1, 2, 3, 4] rfl ?_
        exact ih M7 a1 a4 r11 (a4 + (1 : Int32)) h
set_option maxHeartbeats 4000000 in
set_option maxRecDepth 100000 in
theorem hX11_shine {N : Nat} {M : Mem} {a1 : Int32} {res : Int32 × Mem} (h : mX11_shine N M a1 = some res) (l : Launch) (E : Ev) : CtI l E (Wc E) yX11_shine cX11_shine 6 .int 5 121 [.ref (ec E 0), .int a1] M res.1 res.2 :=
  ctI_of (Wf := Wc) (av := fun E => [.ref (ec E 0), .int a1]) (lv := fun E => [(0, .ref (ec E 0)), (1, .int a1)]) (by decide) (fun _ => rfl) (fun _ => (Nat.le_of_ble_eq_true rfl)) (fun X F hx Rt => by
    have F : Fx X cX11_shine RX11 5 121 := F
    unfold mX11_shine at h
    refine g_iload_n (pc := 0) (x := a1) F dX11_shine_0 rfl 1 rfl ?_
    refine g_iconst (pc := 1) F dX11_shine_1 ic_1 ?_
    refine g_bipush (pc := 2) F dX11_shine_2 bp_60 ?_
    obtain ⟨r1, e2, h⟩ := bd_some h
    refine g_sI (pc := 4) (Wf := Wc) (As := [.int a1, .int (1 : Int32), .int (60 : Int32)]) (rest := []) F (hX11_isWithin (M := M) e2 (xl X) (xE X)) kX11_isWithin lX11_77 rfl rfl ⟨(Nat.le_of_ble_eq_true rfl), (Nat.le_of_ble_eq_true rfl)⟩ (Nat.le_of_ble_eq_true rfl) dX11_shine_4 ?_
    refine g_if_ne (pc := 7) (tgt := 17) F dX11_shine_7 (by decide) (fun c3 => ?_) (fun c3 => ?_)
    · have h := ite_f c3 h
      refine g_iconst (pc := 17) F dX11_shine_17 ic_0 ?_
      refine g_istore_n (pc := 18) (lv2 := [(0, .ref (ec (xE X) 0)), (1, .int a1), (2, .int (0 : Int32))]) F dX11_shine_18 rfl (by rw [hx]; decide) [1, 2, 0] rfl ?_
      refine g_bipush (pc := 19) F dX11_shine_19 bp_7 ?_
      refine g_istore_n (pc := 21) (lv2 := [(0, .ref (ec (xE X) 0)), (1, .int a1), (2, .int (0 : Int32)), (3, .int (7 : Int32))]) F dX11_shine_21 rfl (by rw [hx]; decide) [1, 2, 3, 0] rfl ?_
      refine g_iconst (pc := 22) F dX11_shine_22 ic_0 ?_
      refine g_istore (pc := 23) (lv2 := [(0, .ref (ec (xE X) 0)), (1, .int a1), (2, .int (0 : Int32)), (3, .int (7 : Int32)), (4, .int (0 : Int32))]) F dX11_shine_23 (by rw [hx]; decide) [1, 2, 3, 4, 0] rfl ?_
      refine g_sub [0, 1, 2, 3, 4] rfl ?_
      exact wX11_shine_b25 F hx Rt N M a1 (0 : Int32) (7 : Int32) (0 : Int32) h
    · have h := ite_t c3 h
      refine g_aload_n (pc := 10) (x := ec (xE X) 0) F dX11_shine_10 rfl 0 rfl ?_
      refine g_ldc (pc := 11) F oX11_81 dX11_shine_11 ?_
      obtain ⟨q14, e15, h⟩ := bd_some h
      refine g_vI (pc := 13) (Wf := Wc) (As := [.int (-1000000001 : Int32)]) (rest := []) F (hX11_found e15 (xl X) (xE X)) kX11_found lX11_82 0 rfl (wc_T _ _) rfl rfl rfl ⟨(Nat.le_of_ble_eq_true rfl), (Nat.le_of_ble_eq_true rfl)⟩ (Nat.le_of_ble_eq_true rfl) dX11_shine_13 ?_
      obtain rfl := Option.some.inj h
      exact g_iret (pc := 16) (Wf := Wc) F Rt rfl dX11_shine_16) l E
set_option maxHeartbeats 4000000 in
set_option maxRecDepth 100000 in
theorem wX11_hour_b25 {X : Cx} (F : Fx X cX11_hour RX11 5 121) (hx : xn X = 6) {N : Nat} {res : Int32 × Mem} (Rt : RI X Wc .int res.1 res.2) : ∀ (n : Nat) (M : Mem) (a1 : Int32) (a2 : Int32) (a3 : Int32) (a4 : Int32), mX11_hour_b25 N n M a1 a2 a3 a4 = some res → G X (Wc (xE X) M) 25 [(0, .ref (ec (xE X) 0)), (1, .int a1), (2, .int a2), (3, .int a3), (4, .int a4)] [] := by
  intro n
  induction n with
  | zero =>
    intro M a1 a2 a3 a4 h
    have h : none = some res := h
    cases h
  | succ n ih =>
    intro M a1 a2 a3 a4 h
    rw [mX11_hour_b25] at h
    refine g_iload (pc := 25) (x := a4) F dX11_hour_25 4 rfl ?_
    refine g_bipush (pc := 27) F dX11_hour_27 bp_12 ?_
    refine g_icmp_ge (pc := 29) (tgt := 97) F dX11_hour_29 (by decide) (fun c4 => ?_) (fun c4 => ?_)
    · have h := ite_t c4 h
      refine g_iload_n (pc := 97) (x := a2) F dX11_hour_97 rfl 2 rfl ?_
      obtain rfl := Option.some.inj h
      exact g_iret (pc := 98) (Wf := Wc) F Rt rfl dX11_hour_98
    · have h := ite_f c4 h
      refine g_aload_n (pc := 32) (x := ec (xE X) 0) F dX11_hour_32 rfl 0 rfl ?_
      refine g_get (pc := 33) (v := .ref (ec (xE X) (8 + 2))) F fX11_43 0 (wc_T _ _) rfl dX11_hour_33 ?_
      refine g_aload_n (pc := 36) (x := ec (xE X) 0) F dX11_hour_36 rfl 0 rfl ?_
      refine g_get (pc := 37) (v := .ref (ec (xE X) (8 + 0))) F fX11_36 0 (wc_T _ _) rfl dX11_hour_37 ?_
      obtain ⟨M5, e6, h⟩ := bd_some h
      refine g_vV (pc := 40) (Wf := Wc) (As := [.ref (ec (xE X) (8 + 0))]) (rest := []) F (hX4_become (by decide) (by decide) e6 (xl X) (xE X)) kX4_become lX11_187 (8 + 2) rfl (wc_S _ _ (by decide)) rfl rfl rfl ⟨(Nat.le_of_ble_eq_true rfl), (Nat.le_of_ble_eq_true rfl)⟩ (Nat.le_of_ble_eq_true rfl) dX11_hour_40 ?_
      refine g_aload_n (pc := 43) (x := ec (xE X) 0) F dX11_hour_43 rfl 0 rfl ?_
      refine g_get (pc := 44) (v := .ref (ec (xE X) (8 + 2))) F fX11_43 0 (wc_T _ _) rfl dX11_hour_44 ?_
      refine g_aload_n (pc := 47) (x := ec (xE X) 0) F dX11_hour_47 rfl 0 rfl ?_
      refine g_get (pc := 48) (v := .ref (ec (xE X) (8 + 0))) F fX11_36 0 (wc_T _ _) rfl dX11_hour_48 ?_
      refine g_get (pc := 51) (v := .int (M5.1 0 3)) F fX11_97 (8 + 0) (wc_S _ _ (by decide)) rfl dX11_hour_51 ?_
      refine g_iconst (pc := 54) F dX11_hour_54 ic_1 ?_
      refine g_iload (pc := 55) (x := a4) F dX11_hour_55 4 rfl ?_
      refine g_ishl (pc := 57) F dX11_hour_57 ?_
      refine g_ixor (pc := 58) F dX11_hour_58 ?_
      refine g_put (pc := 59) (ws2 := Wc (xE X) (sI M5 2 3 ((M5.1 0 3) ^^^ ((1 : Int32) <<< (a4 &&& 31))))) F pX11_97 (8 + 2) (wc_S _ _ (by decide)) rfl rfl (Nat.le_of_ble_eq_true rfl) (wcp_S3 _ _ (by decide) _) dX11_hour_59 ?_
      refine g_aload_n (pc := 62) (x := ec (xE X) 0) F dX11_hour_62 rfl 0 rfl ?_
      refine g_get (pc := 63) (v := .ref (ec (xE X) (8 + 2))) F fX11_43 0 (wc_T _ _) rfl dX11_hour_63 ?_
      refine g_iload_n (pc := 66) (x := a1) F dX11_hour_66 rfl 1 rfl ?_
      obtain ⟨M7, e8, h⟩ := bd_some h
      refine g_vV (pc := 67) (Wf := Wc) (As := [.int a1]) (rest := []) F (hX4_pass (by decide) e8 (xl X) (xE X)) kX4_pass lX11_180 (8 + 2) rfl (wc_S _ _ (by decide)) rfl rfl rfl ⟨(Nat.le_of_ble_eq_true rfl), (Nat.le_of_ble_eq_true rfl)⟩ (Nat.le_of_ble_eq_true rfl) dX11_hour_67 ?_
      refine g_aload_n (pc := 70) (x := ec (xE X) 0) F dX11_hour_70 rfl 0 rfl ?_
      refine g_get (pc := 71) (v := .ref (ec (xE X) (8 + 2))) F fX11_43 0 (wc_T _ _) rfl dX11_hour_71 ?_
      obtain ⟨r9, e10, h⟩ := bd_some h
      refine g_vI (pc := 74) (Wf := Wc) (As := []) (rest := []) F (hX4_costOfAll (by decide) e10 (xl X) (xE X)) kX4_costOfAll lX11_213 (8 + 2) rfl (wc_S _ _ (by decide)) rfl rfl rfl ⟨(Nat.le_of_ble_eq_true rfl), (Nat.le_of_ble_eq_true rfl)⟩ (Nat.le_of_ble_eq_true rfl) dX11_hour_74 ?_
      refine g_istore (pc := 77) (lv2 := [(0, .ref (ec (xE X) 0)), (1, .int a1), (2, .int a2), (3, .int a3), (4, .int a4), (5, .int r9)]) F dX11_hour_77 (by rw [hx]; decide) [1, 2, 3, 4, 5, 0] rfl ?_
      refine g_iload (pc := 79) (x := r9) F dX11_hour_79 5 rfl ?_
      refine g_iload_n (pc := 81) (x := a3) F dX11_hour_81 rfl 3 rfl ?_
      refine g_icmp_ge (pc := 82) (tgt := 91) F dX11_hour_82 (by decide) (fun c11 => ?_) (fun c11 => ?_)
      · have h := ite_t c11 h
        refine g_iinc (pc := 91) (lv2 := [(0, .ref (ec (xE X) 0)), (1, .int a1), (2, .int a2), (3, .int a3), (4, .int (a4 + (1 : Int32))), (5, .int r9)]) F dX11_hour_91 4 rfl (ii_1 _) (by rw [hx]; decide) [1, 2, 3, 4, 0, 5] rfl ?_
        refine g_goto (pc := 94) (tgt := 25) F dX11_hour_94 (by decide) ?_
        refine g_sub [0, 1, 2, 3, 4] rfl ?_
        exact ih M7 a1 a2 a3 (a4 + (1 : Int32)) h
      · have h := ite_f c11 h
        refine g_iload (pc := 85) (x := r9) F dX11_hour_85 5 rfl ?_
        refine g_istore_n (pc := 87) (lv2 := [(0, .ref (ec (xE X) 0)), (1, .int a1), (2, .int a2), (3, .int r9), (4, .int a4), (5, .int r9)]) F dX11_hour_87 rfl (by rw [hx]; decide) [1, 2, 3, 0, 4, 5] rfl ?_
        refine g_iload (pc := 88) (x := a4) F dX11_hour_88 4 rfl ?_
        refine g_istore_n (pc := 90) (lv2 := [(0, .ref (ec (xE X) 0)), (1, .int a1), (2, .int a4), (3, .int r9), (4, .int a4), (5, .int r9)]) F dX11_hour_90 rfl (by rw [hx]; decide) [1, 2, 0, 3, 4, 5] rfl ?_
        refine g_iinc (pc := 91) (lv2 := [(0, .ref (ec (xE X) 0)), (1, .int a1), (2, .int a4), (3, .int r9), (4, .int (a4 + (1 : Int32))), (5, .int r9)]) F dX11_hour_91 4 rfl (ii_1 _) (by rw [hx]; decide) [1, 2, 3, 4, 0, 5] rfl ?_
        refine g_goto (pc := 94) (tgt := 25) F dX11_hour_94 (by decide) ?_
        refine g_sub [0, 1, 2, 3, 4] rfl ?_
        exact ih M7 a1 a4 r9 (a4 + (1 : Int32)) h
set_option maxHeartbeats 4000000 in
set_option maxRecDepth 100000 in
theorem hX11_hour {N : Nat} {M : Mem} {a1 : Int32} {res : Int32 × Mem} (h : mX11_hour N M a1 = some res) (l : Launch) (E : Ev) : CtI l E (Wc E) yX11_hour cX11_hour 6 .int 5 121 [.ref (ec E 0), .int a1] M res.1 res.2 :=
  ctI_of (Wf := Wc) (av := fun E => [.ref (ec E 0), .int a1]) (lv := fun E => [(0, .ref (ec E 0)), (1, .int a1)]) (by decide) (fun _ => rfl) (fun _ => (Nat.le_of_ble_eq_true rfl)) (fun X F hx Rt => by
    have F : Fx X cX11_hour RX11 5 121 := F
    unfold mX11_hour at h
    refine g_iload_n (pc := 0) (x := a1) F dX11_hour_0 rfl 1 rfl ?_
    refine g_iconst (pc := 1) F dX11_hour_1 ic_1 ?_
    refine g_bipush (pc := 2) F dX11_hour_2 bp_60 ?_
    obtain ⟨r1, e2, h⟩ := bd_some h
    refine g_sI (pc := 4) (Wf := Wc) (As := [.int a1, .int (1 : Int32), .int (60 : Int32)]) (rest := []) F (hX11_isWithin (M := M) e2 (xl X) (xE X)) kX11_isWithin lX11_77 rfl rfl ⟨(Nat.le_of_ble_eq_true rfl), (Nat.le_of_ble_eq_true rfl)⟩ (Nat.le_of_ble_eq_true rfl) dX11_hour_4 ?_
    refine g_if_ne (pc := 7) (tgt := 17) F dX11_hour_7 (by decide) (fun c3 => ?_) (fun c3 => ?_)
    · have h := ite_f c3 h
      refine g_iconst (pc := 17) F dX11_hour_17 ic_0 ?_
      refine g_istore_n (pc := 18) (lv2 := [(0, .ref (ec (xE X) 0)), (1, .int a1), (2, .int (0 : Int32))]) F dX11_hour_18 rfl (by rw [hx]; decide) [1, 2, 0] rfl ?_
      refine g_ldc (pc := 19) F oX11_212 dX11_hour_19 ?_
      refine g_istore_n (pc := 21) (lv2 := [(0, .ref (ec (xE X) 0)), (1, .int a1), (2, .int (0 : Int32)), (3, .int (59995 : Int32))]) F dX11_hour_21 rfl (by rw [hx]; decide) [1, 2, 3, 0] rfl ?_
      refine g_iconst (pc := 22) F dX11_hour_22 ic_0 ?_
      refine g_istore (pc := 23) (lv2 := [(0, .ref (ec (xE X) 0)), (1, .int a1), (2, .int (0 : Int32)), (3, .int (59995 : Int32)), (4, .int (0 : Int32))]) F dX11_hour_23 (by rw [hx]; decide) [1, 2, 3, 4, 0] rfl ?_
      refine g_sub [0, 1, 2, 3, 4] rfl ?_
      exact wX11_hour_b25 F hx Rt N M a1 (0 : Int32) (59995 : Int32) (0 : Int32) h
    · have h := ite_t c3 h
      refine g_aload_n (pc := 10) (x := ec (xE X) 0) F dX11_hour_10 rfl 0 rfl ?_
      refine g_ldc (pc := 11) F oX11_81 dX11_hour_11 ?_
      obtain ⟨q12, e13, h⟩ := bd_some h
      refine g_vI (pc := 13) (Wf := Wc) (As := [.int (-1000000001 : Int32)]) (rest := []) F (hX11_found e13 (xl X) (xE X)) kX11_found lX11_82 0 rfl (wc_T _ _) rfl rfl rfl ⟨(Nat.le_of_ble_eq_true rfl), (Nat.le_of_ble_eq_true rfl)⟩ (Nat.le_of_ble_eq_true rfl) dX11_hour_13 ?_
      obtain rfl := Option.some.inj h
      exact g_iret (pc := 16) (Wf := Wc) F Rt rfl dX11_hour_16) l E
set_option maxHeartbeats 4000000 in
set_option maxRecDepth 100000 in
theorem wX11_site_b29 {X : Cx} (F : Fx X cX11_site RX11 5 121) (hx : xn X = 8) {N : Nat} {res : Int32 × Mem} (Rt : RI X Wc .int res.1 res.2) : ∀ (n : Nat) (M : Mem) (a1 : Int32) (a2 : Int32) (a3 : Int32) (a4 : Int32) (a5 : Int32), mX11_site_b29 N n M a1 a2 a3 a4 a5 = some res → G X (Wc (xE X) M) 29 [(0, .ref (ec (xE X) 0)), (1, .int a1), (2, .int a2), (3, .int a3), (4, .int a4), (5, .int a5)] [] := by
  intro n
  induction n with
  | zero =>
    intro M a1 a2 a3 a4 a5 h
    have h : none = some res := h
    cases h
  | succ n ih =>
    intro M a1 a2 a3 a4 a5 h
    rw [mX11_site_b29] at h
    refine g_iload (pc := 29) (x := a5) F dX11_site_29 5 rfl ?_
    refine g_sipush (pc := 31) F dX11_site_31 sp_199 ?_
    refine g_icmp_gt (pc := 34) (tgt := 136) F dX11_site_34 (by decide) (fun c4 => ?_) (fun c4 => ?_)
    · have h := ite_t c4 h
      refine g_iload_n (pc := 136) (x := a2) F dX11_site_136 rfl 2 rfl ?_
      obtain rfl := Option.some.inj h
      exact g_iret (pc := 137) (Wf := Wc) F Rt rfl dX11_site_137
    · have h := ite_f c4 h
      refine g_aload_n (pc := 37) (x := ec (xE X) 0) F dX11_site_37 rfl 0 rfl ?_
      refine g_get (pc := 38) (v := .ref (ec (xE X) (8 + 2))) F fX11_43 0 (wc_T _ _) rfl dX11_site_38 ?_
      refine g_aload_n (pc := 41) (x := ec (xE X) 0) F dX11_site_41 rfl 0 rfl ?_
      refine g_get (pc := 42) (v := .ref (ec (xE X) (8 + 0))) F fX11_36 0 (wc_T _ _) rfl dX11_site_42 ?_
      obtain ⟨M5, e6, h⟩ := bd_some h
      refine g_vV (pc := 45) (Wf := Wc) (As := [.ref (ec (xE X) (8 + 0))]) (rest := []) F (hX4_become (by decide) (by decide) e6 (xl X) (xE X)) kX4_become lX11_187 (8 + 2) rfl (wc_S _ _ (by decide)) rfl rfl rfl ⟨(Nat.le_of_ble_eq_true rfl), (Nat.le_of_ble_eq_true rfl)⟩ (Nat.le_of_ble_eq_true rfl) dX11_site_45 ?_
      refine g_aload_n (pc := 48) (x := ec (xE X) 0) F dX11_site_48 rfl 0 rfl ?_
      refine g_get (pc := 49) (v := .ref (ec (xE X) (8 + 2))) F fX11_43 0 (wc_T _ _) rfl dX11_site_49 ?_
      refine g_iload (pc := 52) (x := a5) F dX11_site_52 5 rfl ?_
      refine g_bipush (pc := 54) F dX11_site_54 bp_10 ?_
      refine g_idiv (pc := 56) F dX11_site_56 (by decide) ?_
      refine g_put (pc := 57) (ws2 := Wc (xE X) (sI M5 2 1 (a5 / (10 : Int32)))) F pX11_90 (8 + 2) (wc_S _ _ (by decide)) rfl rfl (Nat.le_of_ble_eq_true rfl) (wcp_S1 _ _ (by decide) _) dX11_site_57 ?_
      refine g_aload_n (pc := 60) (x := ec (xE X) 0) F dX11_site_60 rfl 0 rfl ?_
      refine g_get (pc := 61) (v := .ref (ec (xE X) (8 + 2))) F fX11_43 0 (wc_T _ _) rfl dX11_site_61 ?_
      refine g_iload (pc := 64) (x := a5) F dX11_site_64 5 rfl ?_
      refine g_bipush (pc := 66) F dX11_site_66 bp_10 ?_
      refine g_irem (pc := 68) F dX11_site_68 (by decide) ?_
      obtain ⟨M7, e8, h⟩ := bd_some h
      refine g_put (pc := 69) (ws2 := Wc (xE X) (M7)) F pX11_94 (8 + 2) (wc_S _ _ (by decide)) rfl rfl (Nat.le_of_ble_eq_true rfl) (Eq.trans (wcp_S2 _ _ (by decide) _) (congrArg (Wc (xE X)) (Option.some.inj e8))) dX11_site_69 ?_
      refine g_aload_n (pc := 72) (x := ec (xE X) 0) F dX11_site_72 rfl 0 rfl ?_
      refine g_get (pc := 73) (v := .ref (ec (xE X) (8 + 2))) F fX11_43 0 (wc_T _ _) rfl dX11_site_73 ?_
      refine g_iload_n (pc := 76) (x := a1) F dX11_site_76 rfl 1 rfl ?_
      obtain ⟨M9, e10, h⟩ := bd_some h
      refine g_vV (pc := 77) (Wf := Wc) (As := [.int a1]) (rest := []) F (hX4_pass (by decide) e10 (xl X) (xE X)) kX4_pass lX11_180 (8 + 2) rfl (wc_S _ _ (by decide)) rfl rfl rfl ⟨(Nat.le_of_ble_eq_true rfl), (Nat.le_of_ble_eq_true rfl)⟩ (Nat.le_of_ble_eq_true rfl) dX11_site_77 ?_
      refine g_aload_n (pc := 80) (x := ec (xE X) 0) F dX11_site_80 rfl 0 rfl ?_
      refine g_get (pc := 81) (v := .ref (ec (xE X) (8 + 2))) F fX11_43 0 (wc_T _ _) rfl dX11_site_81 ?_
      obtain ⟨r11, e12, h⟩ := bd_some h
      refine g_vI (pc := 84) (Wf := Wc) (As := []) (rest := []) F (hX4_lostOnes (by decide) e12 (xl X) (xE X)) kX4_lostOnes lX11_120 (8 + 2) rfl (wc_S _ _ (by decide)) rfl rfl rfl ⟨(Nat.le_of_ble_eq_true rfl), (Nat.le_of_ble_eq_true rfl)⟩ (Nat.le_of_ble_eq_true rfl) dX11_site_84 ?_
      obtain ⟨r13, e14, h⟩ := bd_some h
      refine g_sI (pc := 87) (Wf := Wc) (As := [.int r11]) (rest := []) F (hJ6_bitCount_0f7a4 (M := M9) e14 (xl X) (xE X)) kJ6_bitCount_0f7a4 lX11_207 rfl rfl ⟨(Nat.le_of_ble_eq_true rfl), (Nat.le_of_ble_eq_true rfl)⟩ (Nat.le_of_ble_eq_true rfl) dX11_site_87 ?_
      refine g_istore (pc := 90) (lv2 := [(0, .ref (ec (xE X) 0)), (1, .int a1), (2, .int a2), (3, .int a3), (4, .int a4), (5, .int a5), (6, .int r13)]) F dX11_site_90 (by rw [hx]; decide) [1, 2, 3, 4, 5, 6, 0] rfl ?_
      refine g_aload_n (pc := 92) (x := ec (xE X) 0) F dX11_site_92 rfl 0 rfl ?_
      refine g_get (pc := 93) (v := .ref (ec (xE X) (8 + 2))) F fX11_43 0 (wc_T _ _) rfl dX11_site_93 ?_
      obtain ⟨r15, e16, h⟩ := bd_some h
      refine g_vI (pc := 96) (Wf := Wc) (As := []) (rest := []) F (hX4_costOfAll (by decide) e16 (xl X) (xE X)) kX4_costOfAll lX11_213 (8 + 2) rfl (wc_S _ _ (by decide)) rfl rfl rfl ⟨(Nat.le_of_ble_eq_true rfl), (Nat.le_of_ble_eq_true rfl)⟩ (Nat.le_of_ble_eq_true rfl) dX11_site_96 ?_
      refine g_istore (pc := 99) (lv2 := [(0, .ref (ec (xE X) 0)), (1, .int a1), (2, .int a2), (3, .int a3), (4, .int a4), (5, .int a5), (6, .int r13), (7, .int r15)]) F dX11_site_99 (by rw [hx]; decide) [1, 2, 3, 4, 5, 6, 7, 0] rfl ?_
      refine g_iload (pc := 101) (x := r13) F dX11_site_101 6 rfl ?_
      refine g_iload_n (pc := 103) (x := a3) F dX11_site_103 rfl 3 rfl ?_
      refine g_icmp_lt (pc := 104) (tgt := 120) F dX11_site_104 (by decide) (fun c17 => ?_) (fun c17 => ?_)
      · have h := ite_t c17 h
        refine g_iload (pc := 120) (x := r13) F dX11_site_120 6 rfl ?_
        refine g_istore_n (pc := 122) (lv2 := [(0, .ref (ec (xE X) 0)), (1, .int a1), (2, .int a2), (3, .int r13), (4, .int a4), (5, .int a5), (6, .int r13), (7, .int r15)]) F dX11_site_122 rfl (by rw [hx]; decide) [1, 2, 3, 0, 4, 5, 6, 7] rfl ?_
        refine g_iload (pc := 123) (x := r15) F dX11_site_123 7 rfl ?_
        refine g_istore (pc := 125) (lv2 := [(0, .ref (ec (xE X) 0)), (1, .int a1), (2, .int a2), (3, .int r13), (4, .int r15), (5, .int a5), (6, .int r13), (7, .int r15)]) F dX11_site_125 (by rw [hx]; decide) [1, 2, 3, 4, 0, 5, 6, 7] rfl ?_
        refine g_iload (pc := 127) (x := a5) F dX11_site_127 5 rfl ?_
        refine g_istore_n (pc := 129) (lv2 := [(0, .ref (ec (xE X) 0)), (1, .int a1), (2, .int a5), (3, .int r13), (4, .int r15), (5, .int a5), (6, .int r13), (7, .int r15)]) F dX11_site_129 rfl (by rw [hx]; decide) [1, 2, 0, 3, 4, 5, 6, 7] rfl ?_
        refine g_iinc (pc := 130) (lv2 := [(0, .ref (ec (xE X) 0)), (1, .int a1), (2, .int a5), (3, .int r13), (4, .int r15), (5, .int (a5 + (1 : Int32))), (6, .int r13), (7, .int r15)]) F dX11_site_130 5 rfl (ii_1 _) (by rw [hx]; decide) [1, 2, 3, 4, 5, 0, 6, 7] rfl ?_
        refine g_goto (pc := 133) (tgt := 29) F dX11_site_133 (by decide) ?_
        refine g_sub [0, 1, 2, 3, 4, 5] rfl ?_
        exact ih M9 a1 a5 r13 r15 (a5 + (1 : Int32)) h
      · have h := ite_f c17 h
        refine g_iload (pc := 107) (x := r13) F dX11_site_107 6 rfl ?_
        refine g_iload_n (pc := 109) (x := a3) F dX11_site_109 rfl 3 rfl ?_
        refine g_icmp_ne (pc := 110) (tgt := 130) F dX11_site_110 (by decide) (fun c18 => ?_) (fun c18 => ?_)
        · have h := ite_f c18 h
          refine g_iinc (pc := 130) (lv2 := [(0, .ref (ec (xE X) 0)), (1, .int a1), (2, .int a2), (3, .int a3), (4, .int a4), (5, .int (a5 + (1 : Int32))), (6, .int r13), (7, .int r15)]) F dX11_site_130 5 rfl (ii_1 _) (by rw [hx]; decide) [1, 2, 3, 4, 5, 0, 6, 7] rfl ?_
          refine g_goto (pc := 133) (tgt := 29) F dX11_site_133 (by decide) ?_
          refine g_sub [0, 1, 2, 3, 4, 5] rfl ?_
          exact ih M9 a1 a2 a3 a4 (a5 + (1 : Int32)) h
        · have h := ite_t c18 h
          refine g_iload (pc := 113) (x := r15) F dX11_site_113 7 rfl ?_
          refine g_iload (pc := 115) (x := a4) F dX11_site_115 4 rfl ?_
          refine g_icmp_ge (pc := 117) (tgt := 130) F dX11_site_117 (by decide) (fun c19 => ?_) (fun c19 => ?_)
          · have h := ite_t c19 h
            refine g_iinc (pc := 130) (lv2 := [(0, .ref (ec (xE X) 0)), (1, .int a1), (2, .int a2), (3, .int a3), (4, .int a4), (5, .int (a5 + (1 : Int32))), (6, .int r13), (7, .int r15)]) F dX11_site_130 5 rfl (ii_1 _) (by rw [hx]; decide) [1, 2, 3, 4, 5, 0, 6, 7] rfl ?_
            refine g_goto (pc := 133) (tgt := 29) F dX11_site_133 (by decide) ?_
            refine g_sub [0, 1, 2, 3, 4, 5] rfl ?_
            exact ih M9 a1 a2 a3 a4 (a5 + (1 : Int32)) h
          · have h := ite_f c19 h
            refine g_iload (pc := 120) (x := r13) F dX11_site_120 6 rfl ?_
            refine g_istore_n (pc := 122) (lv2 := [(0, .ref (ec (xE X) 0)), (1, .int a1), (2, .int a2), (3, .int r13), (4, .int a4), (5, .int a5), (6, .int r13), (7, .int r15)]) F dX11_site_122 rfl (by rw [hx]; decide) [1, 2, 3, 0, 4, 5, 6, 7] rfl ?_
            refine g_iload (pc := 123) (x := r15) F dX11_site_123 7 rfl ?_
            refine g_istore (pc := 125) (lv2 := [(0, .ref (ec (xE X) 0)), (1, .int a1), (2, .int a2), (3, .int r13), (4, .int r15), (5, .int a5), (6, .int r13), (7, .int r15)]) F dX11_site_125 (by rw [hx]; decide) [1, 2, 3, 4, 0, 5, 6, 7] rfl ?_
            refine g_iload (pc := 127) (x := a5) F dX11_site_127 5 rfl ?_
            refine g_istore_n (pc := 129) (lv2 := [(0, .ref (ec (xE X) 0)), (1, .int a1), (2, .int a5), (3, .int r13), (4, .int r15), (5, .int a5), (6, .int r13), (7, .int r15)]) F dX11_site_129 rfl (by rw [hx]; decide) [1, 2, 0, 3, 4, 5, 6, 7] rfl ?_
            refine g_iinc (pc := 130) (lv2 := [(0, .ref (ec (xE X) 0)), (1, .int a1), (2, .int a5), (3, .int r13), (4, .int r15), (5, .int (a5 + (1 : Int32))), (6, .int r13), (7, .int r15)]) F dX11_site_130 5 rfl (ii_1 _) (by rw [hx]; decide) [1, 2, 3, 4, 5, 0, 6, 7] rfl ?_
            refine g_goto (pc := 133) (tgt := 29) F dX11_site_133 (by decide) ?_
            refine g_sub [0, 1, 2, 3, 4, 5] rfl ?_
            exact ih M9 a1 a5 r13 r15 (a5 + (1 : Int32)) h
set_option maxHeartbeats 4000000 in
set_option maxRecDepth 100000 in
theorem hX11_site {N : Nat} {M : Mem} {a1 : Int32} {res : Int32 × Mem} (h : mX11_site N M a1 = some res) (l : Launch) (E : Ev) : CtI l E (Wc E) yX11_site cX11_site 8 .int 5 121 [.ref (ec E 0), .int a1] M res.1 res.2 :=
  ctI_of (Wf := Wc) (av := fun E => [.ref (ec E 0), .int a1]) (lv := fun E => [(0, .ref (ec E 0)), (1, .int a1)]) (by decide) (fun _ => rfl) (fun _ => (Nat.le_of_ble_eq_true rfl)) (fun X F hx Rt => by
    have F : Fx X cX11_site RX11 5 121 := F
    unfold mX11_site at h
    refine g_iload_n (pc := 0) (x := a1) F dX11_site_0 rfl 1 rfl ?_
    refine g_iconst (pc := 1) F dX11_site_1 ic_1 ?_
    refine g_bipush (pc := 2) F dX11_site_2 bp_40 ?_
    obtain ⟨r1, e2, h⟩ := bd_some h
    refine g_sI (pc := 4) (Wf := Wc) (As := [.int a1, .int (1 : Int32), .int (40 : Int32)]) (rest := []) F (hX11_isWithin (M := M) e2 (xl X) (xE X)) kX11_isWithin lX11_77 rfl rfl ⟨(Nat.le_of_ble_eq_true rfl), (Nat.le_of_ble_eq_true rfl)⟩ (Nat.le_of_ble_eq_true rfl) dX11_site_4 ?_
    refine g_if_ne (pc := 7) (tgt := 17) F dX11_site_7 (by decide) (fun c3 => ?_) (fun c3 => ?_)
    · have h := ite_f c3 h
      refine g_iconst (pc := 17) F dX11_site_17 ic_0 ?_
      refine g_istore_n (pc := 18) (lv2 := [(0, .ref (ec (xE X) 0)), (1, .int a1), (2, .int (0 : Int32))]) F dX11_site_18 rfl (by rw [hx]; decide) [1, 2, 0] rfl ?_
      refine g_bipush (pc := 19) F dX11_site_19 bp_7 ?_
      refine g_istore_n (pc := 21) (lv2 := [(0, .ref (ec (xE X) 0)), (1, .int a1), (2, .int (0 : Int32)), (3, .int (7 : Int32))]) F dX11_site_21 rfl (by rw [hx]; decide) [1, 2, 3, 0] rfl ?_
      refine g_ldc (pc := 22) F oX11_212 dX11_site_22 ?_
      refine g_istore (pc := 24) (lv2 := [(0, .ref (ec (xE X) 0)), (1, .int a1), (2, .int (0 : Int32)), (3, .int (7 : Int32)), (4, .int (59995 : Int32))]) F dX11_site_24 (by rw [hx]; decide) [1, 2, 3, 4, 0] rfl ?_
      refine g_iconst (pc := 26) F dX11_site_26 ic_0 ?_
      refine g_istore (pc := 27) (lv2 := [(0, .ref (ec (xE X) 0)), (1, .int a1), (2, .int (0 : Int32)), (3, .int (7 : Int32)), (4, .int (59995 : Int32)), (5, .int (0 : Int32))]) F dX11_site_27 (by rw [hx]; decide) [1, 2, 3, 4, 5, 0] rfl ?_
      refine g_sub [0, 1, 2, 3, 4, 5] rfl ?_
      exact wX11_site_b29 F hx Rt N M a1 (0 : Int32) (7 : Int32) (59995 : Int32) (0 : Int32) h
    · have h := ite_t c3 h
      refine g_aload_n (pc := 10) (x := ec (xE X) 0) F dX11_site_10 rfl 0 rfl ?_
      refine g_ldc (pc := 11) F oX11_81 dX11_site_11 ?_
      obtain ⟨q20, e21, h⟩ := bd_some h
      refine g_vI (pc := 13) (Wf := Wc) (As := [.int (-1000000001 : Int32)]) (rest := []) F (hX11_found e21 (xl X) (xE X)) kX11_found lX11_82 0 rfl (wc_T _ _) rfl rfl rfl ⟨(Nat.le_of_ble_eq_true rfl), (Nat.le_of_ble_eq_true rfl)⟩ (Nat.le_of_ble_eq_true rfl) dX11_site_13 ?_
      obtain rfl := Option.some.inj h
      exact g_iret (pc := 16) (Wf := Wc) F Rt rfl dX11_site_16) l E
