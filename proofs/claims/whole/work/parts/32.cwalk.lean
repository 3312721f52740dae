set_option maxHeartbeats 4000000 in
set_option maxRecDepth 100000 in
theorem hX11_tear {M : Mem} {res : Int32 × Mem} (h : mX11_tear M = some res) (l : Launch) (E : Ev) : CtI l E (Wc E) yX11_tear cX11_tear 2 .int 1 20 [.ref (ec E 0)] M res.1 res.2 :=
  ctI_of (Wf := Wc) (av := fun E => [.ref (ec E 0)]) (lv := fun E => [(0, .ref (ec E 0))]) (by decide) (fun _ => rfl) (fun _ => (Nat.le_of_ble_eq_true rfl)) (fun X F hx Rt => by
    have F : Fx X cX11_tear RX11 1 20 := F
    unfold mX11_tear at h
    refine g_aload_n (pc := 0) (x := ec (xE X) 0) F dX11_tear_0 rfl 0 rfl ?_
    refine g_get (pc := 1) (v := .int (M.1 3 0)) F fX11_46 0 (wc_T _ _) rfl dX11_tear_1 ?_
    obtain ⟨r1, e2, h⟩ := bd_some h
    refine g_sI (pc := 4) (Wf := Wc) (As := [.int (M.1 3 0)]) (rest := []) F (hX11_asNumber (M := M) e2 (xl X) (xE X)) kX11_asNumber lX11_113 rfl rfl ⟨(Nat.le_of_ble_eq_true rfl), (Nat.le_of_ble_eq_true rfl)⟩ (Nat.le_of_ble_eq_true rfl) dX11_tear_4 ?_
    refine g_istore_n (pc := 7) (lv2 := [(0, .ref (ec (xE X) 0)), (1, .int r1)]) F dX11_tear_7 rfl (by rw [hx]; decide) [1, 0] rfl ?_
    refine g_aload_n (pc := 8) (x := ec (xE X) 0) F dX11_tear_8 rfl 0 rfl ?_
    refine g_iconst (pc := 9) F dX11_tear_9 ic_0 ?_
    refine g_put (pc := 10) (ws2 := Wc (xE X) (sI M 3 0 (0 : Int32))) F pX11_46 0 (wc_T _ _) (by decide) (by decide) (Nat.le_of_ble_eq_true rfl) (wcp_T4 _ _ _) dX11_tear_10 ?_
    refine g_iload_n (pc := 13) (x := r1) F dX11_tear_13 rfl 1 rfl ?_
    obtain rfl := Option.some.inj h
    exact g_iret (pc := 14) (Wf := Wc) F Rt rfl dX11_tear_14) l E
set_option maxHeartbeats 4000000 in
set_option maxRecDepth 100000 in
theorem hX11_count {N : Nat} {M : Mem} {a1 : Int32} {res : Int32 × Mem} (h : mX11_count N M a1 = some res) (l : Launch) (E : Ev) : CtI l E (Wc E) yX11_count cX11_count 2 .int 2 44 [.ref (ec E 0), .int a1] M res.1 res.2 :=
  ctI_of (Wf := Wc) (av := fun E => [.ref (ec E 0), .int a1]) (lv := fun E => [(0, .ref (ec E 0)), (1, .int a1)]) (by decide) (fun _ => rfl) (fun _ => (Nat.le_of_ble_eq_true rfl)) (fun X F hx Rt => by
    have F : Fx X cX11_count RX11 2 44 := F
    unfold mX11_count at h
    refine g_iload_n (pc := 0) (x := a1) F dX11_count_0 rfl 1 rfl ?_
    by_cases c1 : a1 = (0 : Int32)
    · have h := ite_t c1 h
      refine g_tswIn (pc := 1) (tgt := 32) (v := 0) F dX11_count_1 (by rw [c1]; decide) (by decide) (by decide) rfl (by decide) ?_
      refine g_aload_n (pc := 32) (x := ec (xE X) 0) F dX11_count_32 rfl 0 rfl ?_
      refine g_get (pc := 33) (v := .ref (ec (xE X) (8 + 0))) F fX11_36 0 (wc_T _ _) rfl dX11_count_33 ?_
      refine g_get (pc := 36) (v := .int (M.1 0 5)) F fX11_138 (8 + 0) (wc_S _ _ (by decide)) rfl dX11_count_36 ?_
      obtain rfl := Option.some.inj h
      exact g_iret (pc := 39) (Wf := Wc) F Rt rfl dX11_count_39
    · have h := ite_f c1 h
      by_cases c2 : a1 = (1 : Int32)
      · have h := ite_t c2 h
        refine g_tswIn (pc := 1) (tgt := 40) (v := 1) F dX11_count_1 (by rw [c2]; decide) (by decide) (by decide) rfl (by decide) ?_
        refine g_aload_n (pc := 40) (x := ec (xE X) 0) F dX11_count_40 rfl 0 rfl ?_
        refine g_get (pc := 41) (v := .ref (ec (xE X) 32)) F fX11_53 0 (wc_T _ _) rfl dX11_count_41 ?_
        refine g_get (pc := 44) (v := .int (M.1 3 1)) F fX11_219 32 (wc_Tp _ _) rfl dX11_count_44 ?_
        obtain rfl := Option.some.inj h
        exact g_iret (pc := 47) (Wf := Wc) F Rt rfl dX11_count_47
      · have h := ite_f c2 h
        by_cases c3 : a1 = (2 : Int32)
        · have h := ite_t c3 h
          refine g_tswIn (pc := 1) (tgt := 48) (v := 2) F dX11_count_1 (by rw [c3]; decide) (by decide) (by decide) rfl (by decide) ?_
          refine g_aload_n (pc := 48) (x := ec (xE X) 0) F dX11_count_48 rfl 0 rfl ?_
          refine g_get (pc := 49) (v := .ref (ec (xE X) (8 + 0))) F fX11_36 0 (wc_T _ _) rfl dX11_count_49 ?_
          refine g_get (pc := 52) (v := .int (M.1 0 3)) F fX11_97 (8 + 0) (wc_S _ _ (by decide)) rfl dX11_count_52 ?_
          obtain ⟨r5, e6, h⟩ := bd_some h
          refine g_sI (pc := 55) (Wf := Wc) (As := [.int (M.1 0 3)]) (rest := []) F (hJ6_bitCount_0f7a4 (M := M) e6 (xl X) (xE X)) kJ6_bitCount_0f7a4 lX11_207 rfl rfl ⟨(Nat.le_of_ble_eq_true rfl), (Nat.le_of_ble_eq_true rfl)⟩ (Nat.le_of_ble_eq_true rfl) dX11_count_55 ?_
          obtain rfl := Option.some.inj h
          exact g_iret (pc := 58) (Wf := Wc) F Rt rfl dX11_count_58
        · have h := ite_f c3 h
          by_cases c4 : a1 = (3 : Int32)
          · have h := ite_t c4 h
            refine g_tswIn (pc := 1) (tgt := 59) (v := 3) F dX11_count_1 (by rw [c4]; decide) (by decide) (by decide) rfl (by decide) ?_
            refine g_aload_n (pc := 59) (x := ec (xE X) 0) F dX11_count_59 rfl 0 rfl ?_
            refine g_get (pc := 60) (v := .ref (ec (xE X) (8 + 0))) F fX11_36 0 (wc_T _ _) rfl dX11_count_60 ?_
            obtain ⟨r7, e8, h⟩ := bd_some h
            refine g_vI (pc := 63) (Wf := Wc) (As := []) (rest := []) F (hX4_costOfAll (by decide) e8 (xl X) (xE X)) kX4_costOfAll lX11_213 (8 + 0) rfl (wc_S _ _ (by decide)) rfl rfl rfl ⟨(Nat.le_of_ble_eq_true rfl), (Nat.le_of_ble_eq_true rfl)⟩ (Nat.le_of_ble_eq_true rfl) dX11_count_63 ?_
            obtain rfl := Option.some.inj h
            exact g_iret (pc := 66) (Wf := Wc) F Rt rfl dX11_count_66
          · have h := ite_f c4 h
            refine g_tswOut (pc := 1) (tgt := 67) F dX11_count_1 (by have z0 := lv_neT (a := 0) c1 (by decide); have z1 := lv_neT (a := 1) c2 (by decide); have z2 := lv_neT (a := 2) c3 (by decide); have z3 := lv_neT (a := 3) c4 (by decide); omega) (by decide) ?_
            refine g_aload_n (pc := 67) (x := ec (xE X) 0) F dX11_count_67 rfl 0 rfl ?_
            refine g_ldc (pc := 68) F oX11_81 dX11_count_68 ?_
            obtain ⟨q9, e10, h⟩ := bd_some h
            refine g_vI (pc := 70) (Wf := Wc) (As := [.int (-1000000001 : Int32)]) (rest := []) F (hX11_found e10 (xl X) (xE X)) kX11_found lX11_82 0 rfl (wc_T _ _) rfl rfl rfl ⟨(Nat.le_of_ble_eq_true rfl), (Nat.le_of_ble_eq_true rfl)⟩ (Nat.le_of_ble_eq_true rfl) dX11_count_70 ?_
            obtain rfl := Option.some.inj h
            exact g_iret (pc := 73) (Wf := Wc) F Rt rfl dX11_count_73) l E
set_option maxHeartbeats 4000000 in
set_option maxRecDepth 100000 in
theorem wX11_status_b32 {X : Cx} (F : Fx X cX11_status RX11 2 44) (hx : xn X = 4) {N : Nat} {res : Int32 × Mem} (Rt : RI X Wc .int res.1 res.2) : ∀ (n : Nat) (M : Mem) (a2 : Int32) (a3 : Int32), mX11_status_b32 N n M a2 a3 = some res → G X (Wc (xE X) M) 32 [(0, .ref (ec (xE X) 0)), (2, .int a2), (3, .int a3)] [] := by
  intro n
  induction n with
  | zero =>
    intro M a2 a3 h
    have h : none = some res := h
    cases h
  | succ n ih =>
    intro M a2 a3 h
    rw [mX11_status_b32] at h
    refine g_iload_n (pc := 32) (x := a3) F dX11_status_32 rfl 2 rfl ?_
    refine g_bipush (pc := 33) F dX11_status_33 bp_7 ?_
    refine g_icmp_ge (pc := 35) (tgt := 53) F dX11_status_35 (by decide) (fun c5 => ?_) (fun c5 => ?_)
    · have h := ite_t c5 h
      refine g_iload_n (pc := 53) (x := a2) F dX11_status_53 rfl 1 rfl ?_
      obtain rfl := Option.some.inj h
      exact g_iret (pc := 54) (Wf := Wc) F Rt rfl dX11_status_54
    · have h := ite_f c5 h
      refine g_iload_n (pc := 38) (x := a2) F dX11_status_38 rfl 1 rfl ?_
      refine g_aload_n (pc := 39) (x := ec (xE X) 0) F dX11_status_39 rfl 0 rfl ?_
      refine g_get (pc := 40) (v := .ref (ec (xE X) 44)) F fX11_73 0 (wc_T _ _) rfl dX11_status_40 ?_
      refine g_iload_n (pc := 43) (x := a3) F dX11_status_43 rfl 2 rfl ?_
      obtain ⟨i6, h⟩ := ck_some h
      refine g_iald (pc := 44) (N := 7) (fn := M.1 7) (j := a3.toNatClampNeg) F 44 0 (wc_F _ _) rfl i6 rfl dX11_status_44 ?_
      refine g_iadd (pc := 45) F dX11_status_45 ?_
      refine g_istore_n (pc := 46) (lv2 := [(0, .ref (ec (xE X) 0)), (2, .int (a2 + (M.1 7 a3.toNatClampNeg))), (3, .int a3)]) F dX11_status_46 rfl (by rw [hx]; decide) [1, 0, 2] rfl ?_
      refine g_iinc (pc := 47) (lv2 := [(0, .ref (ec (xE X) 0)), (2, .int (a2 + (M.1 7 a3.toNatClampNeg))), (3, .int (a3 + (1 : Int32)))]) F dX11_status_47 2 rfl (ii_1 _) (by rw [hx]; decide) [1, 2, 0] rfl ?_
      refine g_goto (pc := 50) (tgt := 32) F dX11_status_50 (by decide) ?_
      refine g_sub [0, 1, 2] rfl ?_
      exact ih M (a2 + (M.1 7 a3.toNatClampNeg)) (a3 + (1 : Int32)) h
set_option maxHeartbeats 4000000 in
set_option maxRecDepth 100000 in
theorem hX11_status {N : Nat} {M : Mem} {a1 : Int32} {res : Int32 × Mem} (h : mX11_status N M a1 = some res) (l : Launch) (E : Ev) : CtI l E (Wc E) yX11_status cX11_status 4 .int 2 44 [.ref (ec E 0), .int a1] M res.1 res.2 :=
  ctI_of (Wf := Wc) (av := fun E => [.ref (ec E 0), .int a1]) (lv := fun E => [(0, .ref (ec E 0)), (1, .int a1)]) (by decide) (fun _ => rfl) (fun _ => (Nat.le_of_ble_eq_true rfl)) (fun X F hx Rt => by
    have F : Fx X cX11_status RX11 2 44 := F
    unfold mX11_status at h
    refine g_iload_n (pc := 0) (x := a1) F dX11_status_0 rfl 1 rfl ?_
    refine g_iconst (pc := 1) F dX11_status_1 ic_m1 ?_
    refine g_bipush (pc := 2) F dX11_status_2 bp_6 ?_
    obtain ⟨r1, e2, h⟩ := bd_some h
    refine g_sI (pc := 4) (Wf := Wc) (As := [.int a1, .int (-1 : Int32), .int (6 : Int32)]) (rest := []) F (hX11_isWithin (M := M) e2 (xl X) (xE X)) kX11_isWithin lX11_77 rfl rfl ⟨(Nat.le_of_ble_eq_true rfl), (Nat.le_of_ble_eq_true rfl)⟩ (Nat.le_of_ble_eq_true rfl) dX11_status_4 ?_
    refine g_if_ne (pc := 7) (tgt := 17) F dX11_status_7 (by decide) (fun c3 => ?_) (fun c3 => ?_)
    · have h := ite_f c3 h
      refine g_iload_n (pc := 17) (x := a1) F dX11_status_17 rfl 1 rfl ?_
      refine g_if_lt (pc := 18) (tgt := 28) F dX11_status_18 (by decide) (fun c4 => ?_) (fun c4 => ?_)
      · have h := ite_t c4 h
        refine g_iconst (pc := 28) F dX11_status_28 ic_0 ?_
        refine g_istore_n (pc := 29) (lv2 := [(0, .ref (ec (xE X) 0)), (1, .int a1), (2, .int (0 : Int32))]) F dX11_status_29 rfl (by rw [hx]; decide) [1, 2, 0] rfl ?_
        refine g_iconst (pc := 30) F dX11_status_30 ic_0 ?_
        refine g_istore_n (pc := 31) (lv2 := [(0, .ref (ec (xE X) 0)), (1, .int a1), (2, .int (0 : Int32)), (3, .int (0 : Int32))]) F dX11_status_31 rfl (by rw [hx]; decide) [1, 2, 3, 0] rfl ?_
        refine g_sub [0, 2, 3] rfl ?_
        exact wX11_status_b32 F hx Rt N M (0 : Int32) (0 : Int32) h
      · have h := ite_f c4 h
        refine g_aload_n (pc := 21) (x := ec (xE X) 0) F dX11_status_21 rfl 0 rfl ?_
        refine g_get (pc := 22) (v := .ref (ec (xE X) 44)) F fX11_73 0 (wc_T _ _) rfl dX11_status_22 ?_
        refine g_iload_n (pc := 25) (x := a1) F dX11_status_25 rfl 1 rfl ?_
        obtain ⟨i7, h⟩ := ck_some h
        refine g_iald (pc := 26) (N := 7) (fn := M.1 7) (j := a1.toNatClampNeg) F 44 0 (wc_F _ _) rfl i7 rfl dX11_status_26 ?_
        obtain rfl := Option.some.inj h
        exact g_iret (pc := 27) (Wf := Wc) F Rt rfl dX11_status_27
    · have h := ite_t c3 h
      refine g_aload_n (pc := 10) (x := ec (xE X) 0) F dX11_status_10 rfl 0 rfl ?_
      refine g_ldc (pc := 11) F oX11_81 dX11_status_11 ?_
      obtain ⟨q8, e9, h⟩ := bd_some h
      refine g_vI (pc := 13) (Wf := Wc) (As := [.int (-1000000001 : Int32)]) (rest := []) F (hX11_found e9 (xl X) (xE X)) kX11_found lX11_82 0 rfl (wc_T _ _) rfl rfl rfl ⟨(Nat.le_of_ble_eq_true rfl), (Nat.le_of_ble_eq_true rfl)⟩ (Nat.le_of_ble_eq_true rfl) dX11_status_13 ?_
      obtain rfl := Option.some.inj h
      exact g_iret (pc := 16) (Wf := Wc) F Rt rfl dX11_status_16) l E
