set_option maxHeartbeats 4000000 in
set_option maxRecDepth 100000 in
theorem hX4_becomeEmptied {M : Mem} {j1 : Nat} {j0 : Nat} (hj0 : j0 < 3) (hj1 : j1 < 3) {res : Mem} (h : mX4_becomeEmptied j0 M j1 = some res) (l : Launch) (E : Ev) : CtV l E (Wc E) yX4_becomeEmptied cX4_becomeEmptied 2 0 0 [.ref (ec E (8 + j0)), .ref (ec E (8 + j1))] M res :=
  ctV_of (Wf := Wc) (av := fun E => [.ref (ec E (8 + j0)), .ref (ec E (8 + j1))]) (lv := fun E => [(0, .ref (ec E (8 + j0))), (1, .ref (ec E (8 + j1)))]) (by decide) (fun _ => rfl) (fun _ => (Nat.le_of_ble_eq_true rfl)) (fun X F hx Rt => by
    have F : Fx X cX4_becomeEmptied RX4 0 0 := F
    unfold mX4_becomeEmptied at h
    refine g_aload_n (pc := 0) (x := ec (xE X) (8 + j0)) F dX4_becomeEmptied_0 rfl 0 rfl ?_
    refine g_aload_n (pc := 1) (x := ec (xE X) (8 + j1)) F dX4_becomeEmptied_1 rfl 1 rfl ?_
    refine g_get (pc := 2) (v := .int (M.1 j1 0)) F fX4_9 (8 + j1) (wc_S _ _ hj1) rfl dX4_becomeEmptied_2 ?_
    refine g_put (pc := 5) (ws2 := Wc (xE X) (sI M j0 0 (M.1 j1 0))) F pX4_9 (8 + j0) (wc_S _ _ hj0) rfl rfl (Nat.le_of_ble_eq_true rfl) (wcp_S0 _ _ hj0 _) dX4_becomeEmptied_5 ?_
    refine g_aload_n (pc := 8) (x := ec (xE X) (8 + j0)) F dX4_becomeEmptied_8 rfl 0 rfl ?_
    refine g_aload_n (pc := 9) (x := ec (xE X) (8 + j1)) F dX4_becomeEmptied_9 rfl 1 rfl ?_
    refine g_get (pc := 10) (v := .int ((sI M j0 0 (M.1 j1 0)).1 j1 1)) F fX4_15 (8 + j1) (wc_S _ _ hj1) rfl dX4_becomeEmptied_10 ?_
    obtain ⟨M1, e2, h⟩ := bd_some h
    refine g_put (pc := 13) (ws2 := Wc (xE X) (M1)) F pX4_15 (8 + j0) (wc_S _ _ hj0) rfl rfl (Nat.le_of_ble_eq_true rfl) (Eq.trans (wcp_S1 _ _ hj0 _) (congrArg (Wc (xE X)) (Option.some.inj e2))) dX4_becomeEmptied_13 ?_
    refine g_aload_n (pc := 16) (x := ec (xE X) (8 + j0)) F dX4_becomeEmptied_16 rfl 0 rfl ?_
    refine g_aload_n (pc := 17) (x := ec (xE X) (8 + j1)) F dX4_becomeEmptied_17 rfl 1 rfl ?_
    refine g_get (pc := 18) (v := .int (M1.1 j1 2)) F fX4_18 (8 + j1) (wc_S _ _ hj1) rfl dX4_becomeEmptied_18 ?_
    refine g_put (pc := 21) (ws2 := Wc (xE X) (sI M1 j0 2 (M1.1 j1 2))) F pX4_18 (8 + j0) (wc_S _ _ hj0) rfl rfl (Nat.le_of_ble_eq_true rfl) (wcp_S2 _ _ hj0 _) dX4_becomeEmptied_21 ?_
    refine g_aload_n (pc := 24) (x := ec (xE X) (8 + j0)) F dX4_becomeEmptied_24 rfl 0 rfl ?_
    refine g_aload_n (pc := 25) (x := ec (xE X) (8 + j1)) F dX4_becomeEmptied_25 rfl 1 rfl ?_
    refine g_get (pc := 26) (v := .int ((sI M1 j0 2 (M1.1 j1 2)).1 j1 3)) F fX4_21 (8 + j1) (wc_S _ _ hj1) rfl dX4_becomeEmptied_26 ?_
    obtain ⟨M3, e4, h⟩ := bd_some h
    refine g_put (pc := 29) (ws2 := Wc (xE X) (M3)) F pX4_21 (8 + j0) (wc_S _ _ hj0) rfl rfl (Nat.le_of_ble_eq_true rfl) (Eq.trans (wcp_S3 _ _ hj0 _) (congrArg (Wc (xE X)) (Option.some.inj e4))) dX4_becomeEmptied_29 ?_
    refine g_aload_n (pc := 32) (x := ec (xE X) (8 + j0)) F dX4_becomeEmptied_32 rfl 0 rfl ?_
    refine g_aload_n (pc := 33) (x := ec (xE X) (8 + j1)) F dX4_becomeEmptied_33 rfl 1 rfl ?_
    refine g_get (pc := 34) (v := .int (M3.1 j1 4)) F fX4_24 (8 + j1) (wc_S _ _ hj1) rfl dX4_becomeEmptied_34 ?_
    refine g_put (pc := 37) (ws2 := Wc (xE X) (sI M3 j0 4 (M3.1 j1 4))) F pX4_24 (8 + j0) (wc_S _ _ hj0) rfl rfl (Nat.le_of_ble_eq_true rfl) (wcp_S4 _ _ hj0 _) dX4_becomeEmptied_37 ?_
    refine g_aload_n (pc := 40) (x := ec (xE X) (8 + j0)) F dX4_becomeEmptied_40 rfl 0 rfl ?_
    refine g_iconst (pc := 41) F dX4_becomeEmptied_41 ic_0 ?_
    obtain ⟨M5, e6, h⟩ := bd_some h
    refine g_put (pc := 42) (ws2 := Wc (xE X) (M5)) F pX4_27 (8 + j0) (wc_S _ _ hj0) rfl rfl (Nat.le_of_ble_eq_true rfl) (Eq.trans (wcp_S6 _ _ hj0 _) (congrArg (Wc (xE X)) (Option.some.inj e6))) dX4_becomeEmptied_42 ?_
    obtain rfl := Option.some.inj h
    exact g_vret (pc := 45) (Wf := Wc) F Rt dX4_becomeEmptied_45) l E
set_option maxHeartbeats 4000000 in
set_option maxRecDepth 100000 in
theorem hX10_become {M : Mem} {j1 : Nat} {i1 : Nat} {j0 : Nat} {i0 : Nat} (hj0 : j0 < 3) (hi0 : i0 < 6) (hj1 : j1 < 3) (hi1 : i1 < 6) {res : Mem} (h : mX10_become j0 i0 M j1 i1 = some res) (l : Launch) (E : Ev) : CtV l E (Wc E) yX10_become cX10_become 2 0 0 [.ref (ec E (14 + 6 * j0 + i0)), .ref (ec E (14 + 6 * j1 + i1))] M res :=
  ctV_of (Wf := Wc) (av := fun E => [.ref (ec E (14 + 6 * j0 + i0)), .ref (ec E (14 + 6 * j1 + i1))]) (lv := fun E => [(0, .ref (ec E (14 + 6 * j0 + i0))), (1, .ref (ec E (14 + 6 * j1 + i1)))]) (by decide) (fun _ => rfl) (fun _ => (Nat.le_of_ble_eq_true rfl)) (fun X F hx Rt => by
    have F : Fx X cX10_become RX10 0 0 := F
    unfold mX10_become at h
    refine g_aload_n (pc := 0) (x := ec (xE X) (14 + 6 * j0 + i0)) F dX10_become_0 rfl 0 rfl ?_
    refine g_aload_n (pc := 1) (x := ec (xE X) (14 + 6 * j1 + i1)) F dX10_become_1 rfl 1 rfl ?_
    refine g_get (pc := 2) (v := .ref (ec (xE X) (2 + (M.1 j1 (6 + 7 * i1 + 0)).toNatClampNeg))) F fX10_9 (14 + 6 * j1 + i1) (wc_V _ _ hj1 hi1) rfl dX10_become_2 ?_
    refine g_put (pc := 5) (ws2 := Wc (xE X) (sI M j0 (6 + 7 * i0 + 0) (M.1 j1 (6 + 7 * i1 + 0)))) F pX10_9 (14 + 6 * j0 + i0) (wc_V _ _ hj0 hi0) rfl rfl (Nat.le_of_ble_eq_true rfl) (wcp_V0 _ _ hj0 hi0 _) dX10_become_5 ?_
    refine g_aload_n (pc := 8) (x := ec (xE X) (14 + 6 * j0 + i0)) F dX10_become_8 rfl 0 rfl ?_
    refine g_aload_n (pc := 9) (x := ec (xE X) (14 + 6 * j1 + i1)) F dX10_become_9 rfl 1 rfl ?_
    refine g_get (pc := 10) (v := .int ((sI M j0 (6 + 7 * i0 + 0) (M.1 j1 (6 + 7 * i1 + 0))).1 j1 (6 + 7 * i1 + 1))) F fX10_15 (14 + 6 * j1 + i1) (wc_V _ _ hj1 hi1) rfl dX10_become_10 ?_
    obtain ⟨M1, e2, h⟩ := bd_some h
    refine g_put (pc := 13) (ws2 := Wc (xE X) (M1)) F pX10_15 (14 + 6 * j0 + i0) (wc_V _ _ hj0 hi0) rfl rfl (Nat.le_of_ble_eq_true rfl) (Eq.trans (wcp_V1 _ _ hj0 hi0 _) (congrArg (Wc (xE X)) (Option.some.inj e2))) dX10_become_13 ?_
    refine g_aload_n (pc := 16) (x := ec (xE X) (14 + 6 * j0 + i0)) F dX10_become_16 rfl 0 rfl ?_
    refine g_aload_n (pc := 17) (x := ec (xE X) (14 + 6 * j1 + i1)) F dX10_become_17 rfl 1 rfl ?_
    refine g_get (pc := 18) (v := .int (M1.1 j1 (6 + 7 * i1 + 2))) F fX10_19 (14 + 6 * j1 + i1) (wc_V _ _ hj1 hi1) rfl dX10_become_18 ?_
    refine g_put (pc := 21) (ws2 := Wc (xE X) (sI M1 j0 (6 + 7 * i0 + 2) (M1.1 j1 (6 + 7 * i1 + 2)))) F pX10_19 (14 + 6 * j0 + i0) (wc_V _ _ hj0 hi0) rfl rfl (Nat.le_of_ble_eq_true rfl) (wcp_V2 _ _ hj0 hi0 _) dX10_become_21 ?_
    refine g_aload_n (pc := 24) (x := ec (xE X) (14 + 6 * j0 + i0)) F dX10_become_24 rfl 0 rfl ?_
    refine g_aload_n (pc := 25) (x := ec (xE X) (14 + 6 * j1 + i1)) F dX10_become_25 rfl 1 rfl ?_
    refine g_get (pc := 26) (v := .int ((sI M1 j0 (6 + 7 * i0 + 2) (M1.1 j1 (6 + 7 * i1 + 2))).1 j1 (6 + 7 * i1 + 3))) F fX10_22 (14 + 6 * j1 + i1) (wc_V _ _ hj1 hi1) rfl dX10_become_26 ?_
    obtain ⟨M3, e4, h⟩ := bd_some h
    refine g_put (pc := 29) (ws2 := Wc (xE X) (M3)) F pX10_22 (14 + 6 * j0 + i0) (wc_V _ _ hj0 hi0) rfl rfl (Nat.le_of_ble_eq_true rfl) (Eq.trans (wcp_V3 _ _ hj0 hi0 _) (congrArg (Wc (xE X)) (Option.some.inj e4))) dX10_become_29 ?_
    refine g_aload_n (pc := 32) (x := ec (xE X) (14 + 6 * j0 + i0)) F dX10_become_32 rfl 0 rfl ?_
    refine g_aload_n (pc := 33) (x := ec (xE X) (14 + 6 * j1 + i1)) F dX10_become_33 rfl 1 rfl ?_
    refine g_get (pc := 34) (v := .int (M3.1 j1 (6 + 7 * i1 + 4))) F fX10_25 (14 + 6 * j1 + i1) (wc_V _ _ hj1 hi1) rfl dX10_become_34 ?_
    refine g_put (pc := 37) (ws2 := Wc (xE X) (sI M3 j0 (6 + 7 * i0 + 4) (M3.1 j1 (6 + 7 * i1 + 4)))) F pX10_25 (14 + 6 * j0 + i0) (wc_V _ _ hj0 hi0) rfl rfl (Nat.le_of_ble_eq_true rfl) (wcp_V4 _ _ hj0 hi0 _) dX10_become_37 ?_
    refine g_aload_n (pc := 40) (x := ec (xE X) (14 + 6 * j0 + i0)) F dX10_become_40 rfl 0 rfl ?_
    refine g_aload_n (pc := 41) (x := ec (xE X) (14 + 6 * j1 + i1)) F dX10_become_41 rfl 1 rfl ?_
    refine g_get (pc := 42) (v := .int ((sI M3 j0 (6 + 7 * i0 + 4) (M3.1 j1 (6 + 7 * i1 + 4))).1 j1 (6 + 7 * i1 + 5))) F fX10_28 (14 + 6 * j1 + i1) (wc_V _ _ hj1 hi1) rfl dX10_become_42 ?_
    obtain ⟨i5, h⟩ := ck_some h
    obtain ⟨M6, e7, h⟩ := bd_some h
    refine g_put (pc := 45) (ws2 := Wc (xE X) (M6)) F pX10_28 (14 + 6 * j0 + i0) (wc_V _ _ hj0 hi0) (nb01 i5).1 (nb01 i5).2 (Nat.le_of_ble_eq_true rfl) (Eq.trans (wcp_V5 _ _ hj0 hi0 _) (congrArg (Wc (xE X)) (Option.some.inj e7))) dX10_become_45 ?_
    refine g_aload_n (pc := 48) (x := ec (xE X) (14 + 6 * j0 + i0)) F dX10_become_48 rfl 0 rfl ?_
    refine g_aload_n (pc := 49) (x := ec (xE X) (14 + 6 * j1 + i1)) F dX10_become_49 rfl 1 rfl ?_
    refine g_get (pc := 50) (v := .int (M6.1 j1 (6 + 7 * i1 + 6))) F fX10_32 (14 + 6 * j1 + i1) (wc_V _ _ hj1 hi1) rfl dX10_become_50 ?_
    obtain ⟨i8, h⟩ := ck_some h
    refine g_put (pc := 53) (ws2 := Wc (xE X) (sI M6 j0 (6 + 7 * i0 + 6) (M6.1 j1 (6 + 7 * i1 + 6)))) F pX10_32 (14 + 6 * j0 + i0) (wc_V _ _ hj0 hi0) (nb01 i8).1 (nb01 i8).2 (Nat.le_of_ble_eq_true rfl) (wcp_V6 _ _ hj0 hi0 _) dX10_become_53 ?_
    obtain rfl := Option.some.inj h
    exact g_vret (pc := 56) (Wf := Wc) F Rt dX10_become_56) l E
set_option maxHeartbeats 4000000 in
set_option maxRecDepth 100000 in
theorem wX4_become_b7 {X : Cx} (F : Fx X cX4_become RX4 1 21) (hx : xn X = 3) {N : Nat} {j0 : Nat} (hj0 : j0 < 3) {res : Mem} (Rt : RV X Wc res) : ∀ (n : Nat) (M : Mem) (j1 : Nat) (hj1 : j1 < 3) (a2 : Int32), mX4_become_b7 N j0 n M j1 a2 = some res → G X (Wc (xE X) M) 7 [(0, .ref (ec (xE X) (8 + j0))), (1, .ref (ec (xE X) (8 + j1))), (2, .int a2)] [] := by
  intro n
  induction n with
  | zero =>
    intro M j1 hj1 a2 h
    have h : none = some res := h
    cases h
  | succ n ih =>
    intro M j1 hj1 a2 h
    rw [mX4_become_b7] at h
    refine g_iload_n (pc := 7) (x := a2) F dX4_become_7 rfl 2 rfl ?_
    refine g_aload_n (pc := 8) (x := ec (xE X) (8 + j1)) F dX4_become_8 rfl 1 rfl ?_
    refine g_get (pc := 9) (v := .int (M.1 j1 5)) F fX4_27 (8 + j1) (wc_S _ _ hj1) rfl dX4_become_9 ?_
    refine g_icmp_ge (pc := 12) (tgt := 42) F dX4_become_12 (by decide) (fun c3 => ?_) (fun c3 => ?_)
    · have h := ite_t c3 h
      refine g_aload_n (pc := 42) (x := ec (xE X) (8 + j0)) F dX4_become_42 rfl 0 rfl ?_
      refine g_aload_n (pc := 43) (x := ec (xE X) (8 + j1)) F dX4_become_43 rfl 1 rfl ?_
      refine g_get (pc := 44) (v := .int (M.1 j1 5)) F fX4_27 (8 + j1) (wc_S _ _ hj1) rfl dX4_become_44 ?_
      refine g_put (pc := 47) (ws2 := Wc (xE X) (sI M j0 5 (M.1 j1 5))) F pX4_27 (8 + j0) (wc_S _ _ hj0) rfl rfl (Nat.le_of_ble_eq_true rfl) (wcp_S6 _ _ hj0 _) dX4_become_47 ?_
      obtain rfl := Option.some.inj h
      exact g_vret (pc := 50) (Wf := Wc) F Rt dX4_become_50
    · have h := ite_f c3 h
      refine g_iload_n (pc := 15) (x := a2) F dX4_become_15 rfl 2 rfl ?_
      refine g_bipush (pc := 16) F dX4_become_16 bp_6 ?_
      refine g_icmp_ge (pc := 18) (tgt := 42) F dX4_become_18 (by decide) (fun c4 => ?_) (fun c4 => ?_)
      · have h := ite_t c4 h
        refine g_aload_n (pc := 42) (x := ec (xE X) (8 + j0)) F dX4_become_42 rfl 0 rfl ?_
        refine g_aload_n (pc := 43) (x := ec (xE X) (8 + j1)) F dX4_become_43 rfl 1 rfl ?_
        refine g_get (pc := 44) (v := .int (M.1 j1 5)) F fX4_27 (8 + j1) (wc_S _ _ hj1) rfl dX4_become_44 ?_
        refine g_put (pc := 47) (ws2 := Wc (xE X) (sI M j0 5 (M.1 j1 5))) F pX4_27 (8 + j0) (wc_S _ _ hj0) rfl rfl (Nat.le_of_ble_eq_true rfl) (wcp_S6 _ _ hj0 _) dX4_become_47 ?_
        obtain rfl := Option.some.inj h
        exact g_vret (pc := 50) (Wf := Wc) F Rt dX4_become_50
      · have h := ite_f c4 h
        refine g_aload_n (pc := 21) (x := ec (xE X) (8 + j0)) F dX4_become_21 rfl 0 rfl ?_
        refine g_get (pc := 22) (v := .ref (ec (xE X) (11 + j0))) F fX4_32 (8 + j0) (wc_S _ _ hj0) rfl dX4_become_22 ?_
        refine g_iload_n (pc := 25) (x := a2) F dX4_become_25 rfl 2 rfl ?_
        obtain ⟨i5, h⟩ := ck_some h
        refine g_aald (pc := 26) (C := "TowerWarns$Vessel") (b := ec (xE X) (14 + 6 * j0 + a2.toNatClampNeg)) F (11 + j0) 3 (wc_A _ _ hj0) rfl i5 rfl dX4_become_26 ?_
        refine g_aload_n (pc := 27) (x := ec (xE X) (8 + j1)) F dX4_become_27 rfl 1 rfl ?_
        refine g_get (pc := 28) (v := .ref (ec (xE X) (11 + j1))) F fX4_32 (8 + j1) (wc_S _ _ hj1) rfl dX4_become_28 ?_
        refine g_iload_n (pc := 31) (x := a2) F dX4_become_31 rfl 2 rfl ?_
        obtain ⟨i6, h⟩ := ck_some h
        refine g_aald (pc := 32) (C := "TowerWarns$Vessel") (b := ec (xE X) (14 + 6 * j1 + a2.toNatClampNeg)) F (11 + j1) 3 (wc_A _ _ hj1) rfl i6 rfl dX4_become_32 ?_
        obtain ⟨M7, e8, h⟩ := bd_some h
        refine g_vV (pc := 33) (Wf := Wc) (As := [.ref (ec (xE X) (14 + 6 * j1 + a2.toNatClampNeg))]) (rest := []) F (hX10_become hj0 (ok_lt i5) hj1 (ok_lt i6) e8 (xl X) (xE X)) kX10_become lX4_43 (14 + 6 * j0 + a2.toNatClampNeg) rfl (wc_V _ _ hj0 (ok_lt i5)) rfl rfl rfl ⟨(Nat.le_of_ble_eq_true rfl), (Nat.le_of_ble_eq_true rfl)⟩ (Nat.le_of_ble_eq_true rfl) dX4_become_33 ?_
        refine g_iinc (pc := 36) (lv2 := [(0, .ref (ec (xE X) (8 + j0))), (1, .ref (ec (xE X) (8 + j1))), (2, .int (a2 + (1 : Int32)))]) F dX4_become_36 2 rfl (ii_1 _) (by rw [hx]; decide) [1, 2, 0] rfl ?_
        refine g_goto (pc := 39) (tgt := 7) F dX4_become_39 (by decide) ?_
        refine g_sub [0, 1, 2] rfl ?_
        exact ih M7 j1 hj1 (a2 + (1 : Int32)) h
set_option maxHeartbeats 4000000 in
set_option maxRecDepth 100000 in
theorem hX4_become {N : Nat} {M : Mem} {j1 : Nat} {j0 : Nat} (hj0 : j0 < 3) (hj1 : j1 < 3) {res : Mem} (h : mX4_become N j0 M j1 = some res) (l : Launch) (E : Ev) : CtV l E (Wc E) yX4_become cX4_become 3 1 21 [.ref (ec E (8 + j0)), .ref (ec E (8 + j1))] M res :=
  ctV_of (Wf := Wc) (av := fun E => [.ref (ec E (8 + j0)), .ref (ec E (8 + j1))]) (lv := fun E => [(0, .ref (ec E (8 + j0))), (1, .ref (ec E (8 + j1)))]) (by decide) (fun _ => rfl) (fun _ => (Nat.le_of_ble_eq_true rfl)) (fun X F hx Rt => by
    have F : Fx X cX4_become RX4 1 21 := F
    unfold mX4_become at h
    refine g_aload_n (pc := 0) (x := ec (xE X) (8 + j0)) F dX4_become_0 rfl 0 rfl ?_
    refine g_aload_n (pc := 1) (x := ec (xE X) (8 + j1)) F dX4_become_1 rfl 1 rfl ?_
    obtain ⟨M1, e2, h⟩ := bd_some h
    refine g_vV (pc := 2) (Wf := Wc) (As := [.ref (ec (xE X) (8 + j1))]) (rest := []) F (hX4_becomeEmptied hj0 hj1 e2 (xl X) (xE X)) kX4_becomeEmptied lX4_39 (8 + j0) rfl (wc_S _ _ hj0) rfl rfl rfl ⟨(Nat.le_of_ble_eq_true rfl), (Nat.le_of_ble_eq_true rfl)⟩ (Nat.le_of_ble_eq_true rfl) dX4_become_2 ?_
    refine g_iconst (pc := 5) F dX4_become_5 ic_0 ?_
    refine g_istore_n (pc := 6) (lv2 := [(0, .ref (ec (xE X) (8 + j0))), (1, .ref (ec (xE X) (8 + j1))), (2, .int (0 : Int32))]) F dX4_become_6 rfl (by rw [hx]; decide) [1, 2, 0] rfl ?_
    refine g_sub [0, 1, 2] rfl ?_
    exact wX4_become_b7 F hx hj0 Rt N M1 j1 hj1 (0 : Int32) h) l E
set_option maxHeartbeats 4000000 in
set_option maxRecDepth 100000 in
theorem hX4_becomeWithOne {M : Mem} {j1 : Nat} {a2 : Int32} {j0 : Nat} (hj0 : j0 < 3) (hj1 : j1 < 3) {res : Mem} (h : mX4_becomeWithOne j0 M j1 a2 = some res) (l : Launch) (E : Ev) : CtV l E (Wc E) yX4_becomeWithOne cX4_becomeWithOne 3 1 21 [.ref (ec E (8 + j0)), .ref (ec E (8 + j1)), .int a2] M res :=
  ctV_of (Wf := Wc) (av := fun E => [.ref (ec E (8 + j0)), .ref (ec E (8 + j1)), .int a2]) (lv := fun E => [(0, .ref (ec E (8 + j0))), (1, .ref (ec E (8 + j1))), (2, .int a2)]) (by decide) (fun _ => rfl) (fun _ => (Nat.le_of_ble_eq_true rfl)) (fun X F hx Rt => by
    have F : Fx X cX4_becomeWithOne RX4 1 21 := F
    unfold mX4_becomeWithOne at h
    refine g_aload_n (pc := 0) (x := ec (xE X) (8 + j0)) F dX4_becomeWithOne_0 rfl 0 rfl ?_
    refine g_aload_n (pc := 1) (x := ec (xE X) (8 + j1)) F dX4_becomeWithOne_1 rfl 1 rfl ?_
    obtain ⟨M1, e2, h⟩ := bd_some h
    refine g_vV (pc := 2) (Wf := Wc) (As := [.ref (ec (xE X) (8 + j1))]) (rest := []) F (hX4_becomeEmptied hj0 hj1 e2 (xl X) (xE X)) kX4_becomeEmptied lX4_39 (8 + j0) rfl (wc_S _ _ hj0) rfl rfl rfl ⟨(Nat.le_of_ble_eq_true rfl), (Nat.le_of_ble_eq_true rfl)⟩ (Nat.le_of_ble_eq_true rfl) dX4_becomeWithOne_2 ?_
    refine g_iload_n (pc := 5) (x := a2) F dX4_becomeWithOne_5 rfl 2 rfl ?_
    refine g_if_lt (pc := 6) (tgt := 37) F dX4_becomeWithOne_6 (by decide) (fun c3 => ?_) (fun c3 => ?_)
    · have h := ite_t c3 h
      obtain rfl := Option.some.inj h
      exact g_vret (pc := 37) (Wf := Wc) F Rt dX4_becomeWithOne_37
    · have h := ite_f c3 h
      refine g_iload_n (pc := 9) (x := a2) F dX4_becomeWithOne_9 rfl 2 rfl ?_
      refine g_aload_n (pc := 10) (x := ec (xE X) (8 + j1)) F dX4_becomeWithOne_10 rfl 1 rfl ?_
      refine g_get (pc := 11) (v := .int (M1.1 j1 5)) F fX4_27 (8 + j1) (wc_S _ _ hj1) rfl dX4_becomeWithOne_11 ?_
      refine g_icmp_ge (pc := 14) (tgt := 37) F dX4_becomeWithOne_14 (by decide) (fun c4 => ?_) (fun c4 => ?_)
      · have h := ite_t c4 h
        obtain rfl := Option.some.inj h
        exact g_vret (pc := 37) (Wf := Wc) F Rt dX4_becomeWithOne_37
      · have h := ite_f c4 h
        refine g_aload_n (pc := 17) (x := ec (xE X) (8 + j0)) F dX4_becomeWithOne_17 rfl 0 rfl ?_
        refine g_get (pc := 18) (v := .ref (ec (xE X) (11 + j0))) F fX4_32 (8 + j0) (wc_S _ _ hj0) rfl dX4_becomeWithOne_18 ?_
        refine g_iconst (pc := 21) F dX4_becomeWithOne_21 ic_0 ?_
        refine g_aald (pc := 22) (C := "TowerWarns$Vessel") (b := ec (xE X) (14 + 6 * j0 + 0)) F (11 + j0) 3 (wc_A _ _ hj0) rfl vi_0_6 rfl dX4_becomeWithOne_22 ?_
        refine g_aload_n (pc := 23) (x := ec (xE X) (8 + j1)) F dX4_becomeWithOne_23 rfl 1 rfl ?_
        refine g_get (pc := 24) (v := .ref (ec (xE X) (11 + j1))) F fX4_32 (8 + j1) (wc_S _ _ hj1) rfl dX4_becomeWithOne_24 ?_
        refine g_iload_n (pc := 27) (x := a2) F dX4_becomeWithOne_27 rfl 2 rfl ?_
        obtain ⟨i5, h⟩ := ck_some h
        refine g_aald (pc := 28) (C := "TowerWarns$Vessel") (b := ec (xE X) (14 + 6 * j1 + a2.toNatClampNeg)) F (11 + j1) 3 (wc_A _ _ hj1) rfl i5 rfl dX4_becomeWithOne_28 ?_
        obtain ⟨M6, e7, h⟩ := bd_some h
        refine g_vV (pc := 29) (Wf := Wc) (As := [.ref (ec (xE X) (14 + 6 * j1 + a2.toNatClampNeg))]) (rest := []) F (hX10_become hj0 (by decide) hj1 (ok_lt i5) e7 (xl X) (xE X)) kX10_become lX4_43 (14 + 6 * j0 + 0) rfl (wc_V _ _ hj0 (by decide)) rfl rfl rfl ⟨(Nat.le_of_ble_eq_true rfl), (Nat.le_of_ble_eq_true rfl)⟩ (Nat.le_of_ble_eq_true rfl) dX4_becomeWithOne_29 ?_
        refine g_aload_n (pc := 32) (x := ec (xE X) (8 + j0)) F dX4_becomeWithOne_32 rfl 0 rfl ?_
        refine g_iconst (pc := 33) F dX4_becomeWithOne_33 ic_1 ?_
        refine g_put (pc := 34) (ws2 := Wc (xE X) (sI M6 j0 5 (1 : Int32))) F pX4_27 (8 + j0) (wc_S _ _ hj0) rfl rfl (Nat.le_of_ble_eq_true rfl) (wcp_S6 _ _ hj0 _) dX4_becomeWithOne_34 ?_
        obtain rfl := Option.some.inj h
        exact g_vret (pc := 37) (Wf := Wc) F Rt dX4_becomeWithOne_37) l E
set_option maxHeartbeats 4000000 in
set_option maxRecDepth 100000 in
theorem hX4_isFull {M : Mem} {j0 : Nat} (hj0 : j0 < 3) {res : Int32} (h : mX4_isFull j0 M = some res) (l : Launch) (E : Ev) : CtI l E (Wc E) yX4_isFull cX4_isFull 1 .boolean 0 0 [.ref (ec E (8 + j0))] M res M :=
  ctI_of (Wf := Wc) (av := fun E => [.ref (ec E (8 + j0))]) (lv := fun E => [(0, .ref (ec E (8 + j0)))]) (by decide) (fun _ => rfl) (fun _ => (Nat.le_of_ble_eq_true rfl)) (fun X F hx Rt => by
    have F : Fx X cX4_isFull RX4 0 0 := F
    unfold mX4_isFull at h
    refine g_aload_n (pc := 0) (x := ec (xE X) (8 + j0)) F dX4_isFull_0 rfl 0 rfl ?_
    refine g_get (pc := 1) (v := .int (M.1 j0 5)) F fX4_27 (8 + j0) (wc_S _ _ hj0) rfl dX4_isFull_1 ?_
    refine g_bipush (pc := 4) F dX4_isFull_4 bp_6 ?_
    refine g_icmp_lt (pc := 6) (tgt := 13) F dX4_isFull_6 (by decide) (fun c1 => ?_) (fun c1 => ?_)
    · have h := ite_t c1 h
      refine g_iconst (pc := 13) F dX4_isFull_13 ic_0 ?_
      obtain rfl := Option.some.inj h
      exact g_iret (pc := 14) (Wf := Wc) F Rt (by decide) dX4_isFull_14
    · have h := ite_f c1 h
      refine g_iconst (pc := 9) F dX4_isFull_9 ic_1 ?_
      refine g_goto (pc := 10) (tgt := 14) F dX4_isFull_10 (by decide) ?_
      obtain rfl := Option.some.inj h
      exact g_iret (pc := 14) (Wf := Wc) F Rt (by decide) dX4_isFull_14) l E
set_option maxHeartbeats 4000000 in
set_option maxRecDepth 100000 in
theorem hX10_begin {M : Mem} {a1 : Int32} {a2 : Int32} {a3 : Int32} {j0 : Nat} {i0 : Nat} (hj0 : j0 < 3) (hi0 : i0 < 6) {res : Mem} (h : mX10_begin j0 i0 M a1 a2 a3 = some res) (l : Launch) (E : Ev) : CtV l E (Wc E) yX10_begin cX10_begin 4 0 0 [.ref (ec E (14 + 6 * j0 + i0)), .ref (ec E (2 + a1.toNatClampNeg)), .int a2, .int a3] M res :=
  ctV_of (Wf := Wc) (av := fun E => [.ref (ec E (14 + 6 * j0 + i0)), .ref (ec E (2 + a1.toNatClampNeg)), .int a2, .int a3]) (lv := fun E => [(0, .ref (ec E (14 + 6 * j0 + i0))), (1, .ref (ec E (2 + a1.toNatClampNeg))), (2, .int a2), (3, .int a3)]) (by decide) (fun _ => rfl) (fun _ => (Nat.le_of_ble_eq_true rfl)) (fun X F hx Rt => by
    have F : Fx X cX10_begin RX10 0 0 := F
    unfold mX10_begin at h
    refine g_aload_n (pc := 0) (x := ec (xE X) (14 + 6 * j0 + i0)) F dX10_begin_0 rfl 0 rfl ?_
    refine g_aload_n (pc := 1) (x := ec (xE X) (2 + a1.toNatClampNeg)) F dX10_begin_1 rfl 1 rfl ?_
    refine g_put (pc := 2) (ws2 := Wc (xE X) (sI M j0 (6 + 7 * i0 + 0) a1)) F pX10_9 (14 + 6 * j0 + i0) (wc_V _ _ hj0 hi0) rfl rfl (Nat.le_of_ble_eq_true rfl) (wcp_V0 _ _ hj0 hi0 _) dX10_begin_2 ?_
    refine g_aload_n (pc := 5) (x := ec (xE X) (14 + 6 * j0 + i0)) F dX10_begin_5 rfl 0 rfl ?_
    refine g_iload_n (pc := 6) (x := a2) F dX10_begin_6 rfl 2 rfl ?_
    obtain ⟨M1, e2, h⟩ := bd_some h
    refine g_put (pc := 7) (ws2 := Wc (xE X) (M1)) F pX10_15 (14 + 6 * j0 + i0) (wc_V _ _ hj0 hi0) rfl rfl (Nat.le_of_ble_eq_true rfl) (Eq.trans (wcp_V1 _ _ hj0 hi0 _) (congrArg (Wc (xE X)) (Option.some.inj e2))) dX10_begin_7 ?_
    refine g_aload_n (pc := 10) (x := ec (xE X) (14 + 6 * j0 + i0)) F dX10_begin_10 rfl 0 rfl ?_
    refine g_iload_n (pc := 11) (x := a3) F dX10_begin_11 rfl 3 rfl ?_
    refine g_put (pc := 12) (ws2 := Wc (xE X) (sI M1 j0 (6 + 7 * i0 + 2) a3)) F pX10_19 (14 + 6 * j0 + i0) (wc_V _ _ hj0 hi0) rfl rfl (Nat.le_of_ble_eq_true rfl) (wcp_V2 _ _ hj0 hi0 _) dX10_begin_12 ?_
    refine g_aload_n (pc := 15) (x := ec (xE X) (14 + 6 * j0 + i0)) F dX10_begin_15 rfl 0 rfl ?_
    refine g_iconst (pc := 16) F dX10_begin_16 ic_0 ?_
    obtain ⟨M3, e4, h⟩ := bd_some h
    refine g_put (pc := 17) (ws2 := Wc (xE X) (M3)) F pX10_22 (14 + 6 * j0 + i0) (wc_V _ _ hj0 hi0) rfl rfl (Nat.le_of_ble_eq_true rfl) (Eq.trans (wcp_V3 _ _ hj0 hi0 _) (congrArg (Wc (xE X)) (Option.some.inj e4))) dX10_begin_17 ?_
    refine g_aload_n (pc := 20) (x := ec (xE X) (14 + 6 * j0 + i0)) F dX10_begin_20 rfl 0 rfl ?_
    refine g_bipush (pc := 21) F dX10_begin_21 bp_99 ?_
    refine g_put (pc := 23) (ws2 := Wc (xE X) (sI M3 j0 (6 + 7 * i0 + 4) (99 : Int32))) F pX10_25 (14 + 6 * j0 + i0) (wc_V _ _ hj0 hi0) rfl rfl (Nat.le_of_ble_eq_true rfl) (wcp_V4 _ _ hj0 hi0 _) dX10_begin_23 ?_
    refine g_aload_n (pc := 26) (x := ec (xE X) (14 + 6 * j0 + i0)) F dX10_begin_26 rfl 0 rfl ?_
    refine g_iconst (pc := 27) F dX10_begin_27 ic_0 ?_
    obtain ⟨M5, e6, h⟩ := bd_some h
    refine g_put (pc := 28) (ws2 := Wc (xE X) (M5)) F pX10_28 (14 + 6 * j0 + i0) (wc_V _ _ hj0 hi0) (by decide) (by decide) (Nat.le_of_ble_eq_true rfl) (Eq.trans (wcp_V5 _ _ hj0 hi0 _) (congrArg (Wc (xE X)) (Option.some.inj e6))) dX10_begin_28 ?_
    refine g_aload_n (pc := 31) (x := ec (xE X) (14 + 6 * j0 + i0)) F dX10_begin_31 rfl 0 rfl ?_
    refine g_iconst (pc := 32) F dX10_begin_32 ic_0 ?_
    refine g_put (pc := 33) (ws2 := Wc (xE X) (sI M5 j0 (6 + 7 * i0 + 6) (0 : Int32))) F pX10_32 (14 + 6 * j0 + i0) (wc_V _ _ hj0 hi0) (by decide) (by decide) (Nat.le_of_ble_eq_true rfl) (wcp_V6 _ _ hj0 hi0 _) dX10_begin_33 ?_
    obtain rfl := Option.some.inj h
    exact g_vret (pc := 36) (Wf := Wc) F Rt dX10_begin_36) l E
set_option maxHeartbeats 4000000 in
set_option maxRecDepth 100000 in
theorem hX4_launch {M : Mem} {a1 : Int32} {a2 : Int32} {a3 : Int32} {j0 : Nat} (hj0 : j0 < 3) {res : Mem} (h : mX4_launch j0 M a1 a2 a3 = some res) (l : Launch) (E : Ev) : CtV l E (Wc E) yX4_launch cX4_launch 4 1 23 [.ref (ec E (8 + j0)), .ref (ec E (2 + a1.toNatClampNeg)), .int a2, .int a3] M res :=
  ctV_of (Wf := Wc) (av := fun E => [.ref (ec E (8 + j0)), .ref (ec E (2 + a1.toNatClampNeg)), .int a2, .int a3]) (lv := fun E => [(0, .ref (ec E (8 + j0))), (1, .ref (ec E (2 + a1.toNatClampNeg))), (2, .int a2), (3, .int a3)]) (by decide) (fun _ => rfl) (fun _ => (Nat.le_of_ble_eq_true rfl)) (fun X F hx Rt => by
    have F : Fx X cX4_launch RX4 1 23 := F
    unfold mX4_launch at h
    refine g_aload_n (pc := 0) (x := ec (xE X) (8 + j0)) F dX4_launch_0 rfl 0 rfl ?_
    obtain ⟨r1, e2, h⟩ := bd_some h
    refine g_vI (pc := 1) (Wf := Wc) (As := []) (rest := []) F (hX4_isFull hj0 e2 (xl X) (xE X)) kX4_isFull lX4_47 (8 + j0) rfl (wc_S _ _ hj0) rfl rfl rfl ⟨(Nat.le_of_ble_eq_true rfl), (Nat.le_of_ble_eq_true rfl)⟩ (Nat.le_of_ble_eq_true rfl) dX4_launch_1 ?_
    refine g_if_ne (pc := 4) (tgt := 32) F dX4_launch_4 (by decide) (fun c3 => ?_) (fun c3 => ?_)
    · have h := ite_f c3 h
      obtain rfl := Option.some.inj h
      exact g_vret (pc := 32) (Wf := Wc) F Rt dX4_launch_32
    · have h := ite_t c3 h
      refine g_aload_n (pc := 7) (x := ec (xE X) (8 + j0)) F dX4_launch_7 rfl 0 rfl ?_
      refine g_get (pc := 8) (v := .ref (ec (xE X) (11 + j0))) F fX4_32 (8 + j0) (wc_S _ _ hj0) rfl dX4_launch_8 ?_
      refine g_aload_n (pc := 11) (x := ec (xE X) (8 + j0)) F dX4_launch_11 rfl 0 rfl ?_
      refine g_get (pc := 12) (v := .int (M.1 j0 5)) F fX4_27 (8 + j0) (wc_S _ _ hj0) rfl dX4_launch_12 ?_
      obtain ⟨i4, h⟩ := ck_some h
      refine g_aald (pc := 15) (C := "TowerWarns$Vessel") (b := ec (xE X) (14 + 6 * j0 + ((M.1 j0 5).toNatClampNeg))) F (11 + j0) 3 (wc_A _ _ hj0) rfl i4 rfl dX4_launch_15 ?_
      refine g_aload_n (pc := 16) (x := ec (xE X) (2 + a1.toNatClampNeg)) F dX4_launch_16 rfl 1 rfl ?_
      refine g_iload_n (pc := 17) (x := a2) F dX4_launch_17 rfl 2 rfl ?_
      refine g_iload_n (pc := 18) (x := a3) F dX4_launch_18 rfl 3 rfl ?_
      obtain ⟨M5, e6, h⟩ := bd_some h
      refine g_vV (pc := 19) (Wf := Wc) (As := [.ref (ec (xE X) (2 + a1.toNatClampNeg)), .int a2, .int a3]) (rest := []) F (hX10_begin hj0 (ok_lt i4) e6 (xl X) (xE X)) kX10_begin lX4_51 (14 + 6 * j0 + ((M.1 j0 5).toNatClampNeg)) rfl (wc_V _ _ hj0 (ok_lt i4)) rfl rfl rfl ⟨(Nat.le_of_ble_eq_true rfl), (Nat.le_of_ble_eq_true rfl)⟩ (Nat.le_of_ble_eq_true rfl) dX4_launch_19 ?_
      refine g_aload_n (pc := 22) (x := ec (xE X) (8 + j0)) F dX4_launch_22 rfl 0 rfl ?_
      refine g_dup (pc := 23) F dX4_launch_23 rfl ?_
      refine g_get (pc := 24) (v := .int (M5.1 j0 5)) F fX4_27 (8 + j0) (wc_S _ _ hj0) rfl dX4_launch_24 ?_
      refine g_iconst (pc := 27) F dX4_launch_27 ic_1 ?_
      refine g_iadd (pc := 28) F dX4_launch_28 ?_
      refine g_put (pc := 29) (ws2 := Wc (xE X) (sI M5 j0 5 ((M5.1 j0 5) + (1 : Int32)))) F pX4_27 (8 + j0) (wc_S _ _ hj0) rfl rfl (Nat.le_of_ble_eq_true rfl) (wcp_S6 _ _ hj0 _) dX4_launch_29 ?_
      obtain rfl := Option.some.inj h
      exact g_vret (pc := 32) (Wf := Wc) F Rt dX4_launch_32) l E
set_option maxHeartbeats 4000000 in
set_option maxRecDepth 100000 in
theorem hX4_hourOfDay {M : Mem} {j0 : Nat} (hj0 : j0 < 3) {res : Int32} (h : mX4_hourOfDay j0 M = some res) (l : Launch) (E : Ev) : CtI l E (Wc E) yX4_hourOfDay cX4_hourOfDay 1 .int 0 0 [.ref (ec E (8 + j0))] M res M :=
  ctI_of (Wf := Wc) (av := fun E => [.ref (ec E (8 + j0))]) (lv := fun E => [(0, .ref (ec E (8 + j0)))]) (by decide) (fun _ => rfl) (fun _ => (Nat.le_of_ble_eq_true rfl)) (fun X F hx Rt => by
    have F : Fx X cX4_hourOfDay RX4 0 0 := F
    unfold mX4_hourOfDay at h
    refine g_aload_n (pc := 0) (x := ec (xE X) (8 + j0)) F dX4_hourOfDay_0 rfl 0 rfl ?_
    refine g_get (pc := 1) (v := .int (M.1 j0 0)) F fX4_9 (8 + j0) (wc_S _ _ hj0) rfl dX4_hourOfDay_1 ?_
    refine g_bipush (pc := 4) F dX4_hourOfDay_4 bp_12 ?_
    refine g_irem (pc := 6) F dX4_hourOfDay_6 (by decide) ?_
    obtain rfl := Option.some.inj h
    exact g_iret (pc := 7) (Wf := Wc) F Rt rfl dX4_hourOfDay_7) l E
set_option maxHeartbeats 4000000 in
set_option maxRecDepth 100000 in
theorem hX4_isNightAt {M : Mem} {a0 : Int32} {res : Int32} (h : mX4_isNightAt a0 = some res) (l : Launch) (E : Ev) : CtI l E (Wc E) yX4_isNightAt cX4_isNightAt 1 .boolean 0 0 [.int a0] M res M :=
  ctI_of (Wf := Wc) (av := fun E => [.int a0]) (lv := fun E => [(0, .int a0)]) (by decide) (fun _ => rfl) (fun _ => (Nat.le_of_ble_eq_true rfl)) (fun X F hx Rt => by
    have F : Fx X cX4_isNightAt RX4 0 0 := F
    unfold mX4_isNightAt at h
    refine g_iload_n (pc := 0) (x := a0) F dX4_isNightAt_0 rfl 0 rfl ?_
    refine g_bipush (pc := 1) F dX4_isNightAt_1 bp_6 ?_
    refine g_icmp_lt (pc := 3) (tgt := 10) F dX4_isNightAt_3 (by decide) (fun c1 => ?_) (fun c1 => ?_)
    · have h := ite_t c1 h
      refine g_iconst (pc := 10) F dX4_isNightAt_10 ic_0 ?_
      obtain rfl := Option.some.inj h
      exact g_iret (pc := 11) (Wf := Wc) F Rt (by decide) dX4_isNightAt_11
    · have h := ite_f c1 h
      refine g_iconst (pc := 6) F dX4_isNightAt_6 ic_1 ?_
      refine g_goto (pc := 7) (tgt := 11) F dX4_isNightAt_7 (by decide) ?_
      obtain rfl := Option.some.inj h
      exact g_iret (pc := 11) (Wf := Wc) F Rt (by decide) dX4_isNightAt_11) l E
set_option maxHeartbeats 4000000 in
set_option maxRecDepth 100000 in
theorem hX4_isNight {M : Mem} {j0 : Nat} (hj0 : j0 < 3) {res : Int32} (h : mX4_isNight j0 M = some res) (l : Launch) (E : Ev) : CtI l E (Wc E) yX4_isNight cX4_isNight 1 .boolean 1 20 [.ref (ec E (8 + j0))] M res M :=
  ctI_of (Wf := Wc) (av := fun E => [.ref (ec E (8 + j0))]) (lv := fun E => [(0, .ref (ec E (8 + j0)))]) (by decide) (fun _ => rfl) (fun _ => (Nat.le_of_ble_eq_true rfl)) (fun X F hx Rt => by
    have F : Fx X cX4_isNight RX4 1 20 := F
    unfold mX4_isNight at h
    refine g_aload_n (pc := 0) (x := ec (xE X) (8 + j0)) F dX4_isNight_0 rfl 0 rfl ?_
    obtain ⟨r1, e2, h⟩ := bd_some h
    refine g_vI (pc := 1) (Wf := Wc) (As := []) (rest := []) F (hX4_hourOfDay hj0 e2 (xl X) (xE X)) kX4_hourOfDay lX4_55 (8 + j0) rfl (wc_S _ _ hj0) rfl rfl rfl ⟨(Nat.le_of_ble_eq_true rfl), (Nat.le_of_ble_eq_true rfl)⟩ (Nat.le_of_ble_eq_true rfl) dX4_isNight_1 ?_
    obtain ⟨r3, e4, h⟩ := bd_some h
    refine g_sI (pc := 4) (Wf := Wc) (As := [.int r1]) (rest := []) F (hX4_isNightAt (M := M) e4 (xl X) (xE X)) kX4_isNightAt lX4_59 rfl rfl ⟨(Nat.le_of_ble_eq_true rfl), (Nat.le_of_ble_eq_true rfl)⟩ (Nat.le_of_ble_eq_true rfl) dX4_isNight_4 ?_
    obtain ⟨b5, h⟩ := ck_some h
    obtain rfl := Option.some.inj h
    exact g_iret (pc := 7) (Wf := Wc) F Rt (nb01 b5).1 dX4_isNight_7) l E
set_option maxHeartbeats 4000000 in
set_option maxRecDepth 100000 in
theorem hX4_burnsAt {M : Mem} {a1 : Int32} {j0 : Nat} (hj0 : j0 < 3) {res : Int32} (h : mX4_burnsAt j0 M a1 = some res) (l : Launch) (E : Ev) : CtI l E (Wc E) yX4_burnsAt cX4_burnsAt 2 .boolean 0 0 [.ref (ec E (8 + j0)), .int a1] M res M :=
  ctI_of (Wf := Wc) (av := fun E => [.ref (ec E (8 + j0)), .int a1]) (lv := fun E => [(0, .ref (ec E (8 + j0))), (1, .int a1)]) (by decide) (fun _ => rfl) (fun _ => (Nat.le_of_ble_eq_true rfl)) (fun X F hx Rt => by
    have F : Fx X cX4_burnsAt RX4 0 0 := F
    unfold mX4_burnsAt at h
    refine g_aload_n (pc := 0) (x := ec (xE X) (8 + j0)) F dX4_burnsAt_0 rfl 0 rfl ?_
    refine g_get (pc := 1) (v := .int (M.1 j0 3)) F fX4_21 (8 + j0) (wc_S _ _ hj0) rfl dX4_burnsAt_1 ?_
    refine g_iload_n (pc := 4) (x := a1) F dX4_burnsAt_4 rfl 1 rfl ?_
    refine g_ishr (pc := 5) F dX4_burnsAt_5 ?_
    refine g_iconst (pc := 6) F dX4_burnsAt_6 ic_1 ?_
    refine g_iand (pc := 7) F dX4_burnsAt_7 ?_
    refine g_iconst (pc := 8) F dX4_burnsAt_8 ic_1 ?_
    refine g_icmp_ne (pc := 9) (tgt := 16) F dX4_burnsAt_9 (by decide) (fun c1 => ?_) (fun c1 => ?_)
    · have h := ite_f c1 h
      refine g_iconst (pc := 16) F dX4_burnsAt_16 ic_0 ?_
      obtain rfl := Option.some.inj h
      exact g_iret (pc := 17) (Wf := Wc) F Rt (by decide) dX4_burnsAt_17
    · have h := ite_t c1 h
      refine g_iconst (pc := 12) F dX4_burnsAt_12 ic_1 ?_
      refine g_goto (pc := 13) (tgt := 17) F dX4_burnsAt_13 (by decide) ?_
      obtain rfl := Option.some.inj h
      exact g_iret (pc := 17) (Wf := Wc) F Rt (by decide) dX4_burnsAt_17) l E
set_option maxHeartbeats 4000000 in
set_option maxRecDepth 100000 in
theorem hX4_burns {M : Mem} {j0 : Nat} (hj0 : j0 < 3) {res : Int32} (h : mX4_burns j0 M = some res) (l : Launch) (E : Ev) : CtI l E (Wc E) yX4_burns cX4_burns 1 .boolean 1 21 [.ref (ec E (8 + j0))] M res M :=
  ctI_of (Wf := Wc) (av := fun E => [.ref (ec E (8 + j0))]) (lv := fun E => [(0, .ref (ec E (8 + j0)))]) (by decide) (fun _ => rfl) (fun _ => (Nat.le_of_ble_eq_true rfl)) (fun X F hx Rt => by
    have F : Fx X cX4_burns RX4 1 21 := F
    unfold mX4_burns at h
    refine g_aload_n (pc := 0) (x := ec (xE X) (8 + j0)) F dX4_burns_0 rfl 0 rfl ?_
    refine g_aload_n (pc := 1) (x := ec (xE X) (8 + j0)) F dX4_burns_1 rfl 0 rfl ?_
    obtain ⟨r1, e2, h⟩ := bd_some h
    refine g_vI (pc := 2) (Wf := Wc) (As := []) (rest := [.ref (ec (xE X) (8 + j0))]) F (hX4_hourOfDay hj0 e2 (xl X) (xE X)) kX4_hourOfDay lX4_55 (8 + j0) rfl (wc_S _ _ hj0) rfl rfl rfl ⟨(Nat.le_of_ble_eq_true rfl), (Nat.le_of_ble_eq_true rfl)⟩ (Nat.le_of_ble_eq_true rfl) dX4_burns_2 ?_
    obtain ⟨r3, e4, h⟩ := bd_some h
    refine g_vI (pc := 5) (Wf := Wc) (As := [.int r1]) (rest := []) F (hX4_burnsAt hj0 e4 (xl X) (xE X)) kX4_burnsAt lX4_63 (8 + j0) rfl (wc_S _ _ hj0) rfl rfl rfl ⟨(Nat.le_of_ble_eq_true rfl), (Nat.le_of_ble_eq_true rfl)⟩ (Nat.le_of_ble_eq_true rfl) dX4_burns_5 ?_
    obtain ⟨b5, h⟩ := ck_some h
    obtain rfl := Option.some.inj h
    exact g_iret (pc := 8) (Wf := Wc) F Rt (nb01 b5).1 dX4_burns_8) l E
set_option maxHeartbeats 4000000 in
set_option maxRecDepth 100000 in
theorem hX4_towerPlace {M : Mem} {j0 : Nat} (hj0 : j0 < 3) {res : Int32} (h : mX4_towerPlace j0 M = some res) (l : Launch) (E : Ev) : CtI l E (Wc E) yX4_towerPlace cX4_towerPlace 1 .int 0 0 [.ref (ec E (8 + j0))] M res M :=
  ctI_of (Wf := Wc) (av := fun E => [.ref (ec E (8 + j0))]) (lv := fun E => [(0, .ref (ec E (8 + j0)))]) (by decide) (fun _ => rfl) (fun _ => (Nat.le_of_ble_eq_true rfl)) (fun X F hx Rt => by
    have F : Fx X cX4_towerPlace RX4 0 0 := F
    unfold mX4_towerPlace at h
    refine g_bipush (pc := 0) F dX4_towerPlace_0 bp_10 ?_
    refine g_aload_n (pc := 2) (x := ec (xE X) (8 + j0)) F dX4_towerPlace_2 rfl 0 rfl ?_
    refine g_get (pc := 3) (v := .int (M.1 j0 1)) F fX4_15 (8 + j0) (wc_S _ _ hj0) rfl dX4_towerPlace_3 ?_
    refine g_imul (pc := 6) F dX4_towerPlace_6 ?_
    refine g_aload_n (pc := 7) (x := ec (xE X) (8 + j0)) F dX4_towerPlace_7 rfl 0 rfl ?_
    refine g_get (pc := 8) (v := .int (M.1 j0 2)) F fX4_18 (8 + j0) (wc_S _ _ hj0) rfl dX4_towerPlace_8 ?_
    refine g_iadd (pc := 11) F dX4_towerPlace_11 ?_
    obtain rfl := Option.some.inj h
    exact g_iret (pc := 12) (Wf := Wc) F Rt rfl dX4_towerPlace_12) l E
set_option maxHeartbeats 4000000 in
set_option maxRecDepth 100000 in
theorem hX4_distanceOf {M : Mem} {i1 : Nat} {j0 : Nat} (hj0 : j0 < 3) (hi1 : i1 < 6) {res : Int32} (h : mX4_distanceOf j0 M i1 = some res) (l : Launch) (E : Ev) : CtI l E (Wc E) yX4_distanceOf cX4_distanceOf 2 .int 1 21 [.ref (ec E (8 + j0)), .ref (ec E (14 + 6 * j0 + i1))] M res M :=
  ctI_of (Wf := Wc) (av := fun E => [.ref (ec E (8 + j0)), .ref (ec E (14 + 6 * j0 + i1))]) (lv := fun E => [(0, .ref (ec E (8 + j0))), (1, .ref (ec E (14 + 6 * j0 + i1)))]) (by decide) (fun _ => rfl) (fun _ => (Nat.le_of_ble_eq_true rfl)) (fun X F hx Rt => by
    have F : Fx X cX4_distanceOf RX4 1 21 := F
    unfold mX4_distanceOf at h
    refine g_aload_n (pc := 0) (x := ec (xE X) (14 + 6 * j0 + i1)) F dX4_distanceOf_0 rfl 1 rfl ?_
    refine g_get (pc := 1) (v := .int (M.1 j0 (6 + 7 * i1 + 1))) F fX4_66 (14 + 6 * j0 + i1) (wc_V _ _ hj0 hi1) rfl dX4_distanceOf_1 ?_
    refine g_aload_n (pc := 4) (x := ec (xE X) (8 + j0)) F dX4_distanceOf_4 rfl 0 rfl ?_
    refine g_get (pc := 5) (v := .int (M.1 j0 1)) F fX4_15 (8 + j0) (wc_S _ _ hj0) rfl dX4_distanceOf_5 ?_
    refine g_isub (pc := 8) F dX4_distanceOf_8 ?_
    refine g_mabs (pc := 9) F lX4_69 mt1_abs mt2 mt3_abs ⟨(Nat.le_of_ble_eq_true rfl), (Nat.le_of_ble_eq_true rfl)⟩ (Nat.le_of_ble_eq_true rfl) dX4_distanceOf_9 ?_
    refine g_aload_n (pc := 12) (x := ec (xE X) (14 + 6 * j0 + i1)) F dX4_distanceOf_12 rfl 1 rfl ?_
    refine g_get (pc := 13) (v := .int (M.1 j0 (6 + 7 * i1 + 2))) F fX4_75 (14 + 6 * j0 + i1) (wc_V _ _ hj0 hi1) rfl dX4_distanceOf_13 ?_
    refine g_aload_n (pc := 16) (x := ec (xE X) (8 + j0)) F dX4_distanceOf_16 rfl 0 rfl ?_
    refine g_get (pc := 17) (v := .int (M.1 j0 2)) F fX4_18 (8 + j0) (wc_S _ _ hj0) rfl dX4_distanceOf_17 ?_
    refine g_isub (pc := 20) F dX4_distanceOf_20 ?_
    refine g_mabs (pc := 21) F lX4_69 mt1_abs mt2 mt3_abs ⟨(Nat.le_of_ble_eq_true rfl), (Nat.le_of_ble_eq_true rfl)⟩ (Nat.le_of_ble_eq_true rfl) dX4_distanceOf_21 ?_
    refine g_mmax (pc := 24) F lX4_78 mt1_max mt2 mt3_max ⟨(Nat.le_of_ble_eq_true rfl), (Nat.le_of_ble_eq_true rfl)⟩ (Nat.le_of_ble_eq_true rfl) dX4_distanceOf_24 ?_
    obtain rfl := Option.some.inj h
    exact g_iret (pc := 27) (Wf := Wc) F Rt rfl dX4_distanceOf_27) l E
set_option maxHeartbeats 4000000 in
set_option maxRecDepth 100000 in
theorem hX11_asNumber {M : Mem} {a0 : Int32} {res : Int32} (h : mX11_asNumber a0 = some res) (l : Launch) (E : Ev) : CtI l E (Wc E) yX11_asNumber cX11_asNumber 1 .int 0 0 [.int a0] M res M :=
  ctI_of (Wf := Wc) (av := fun E => [.int a0]) (lv := fun E => [(0, .int a0)]) (by decide) (fun _ => rfl) (fun _ => (Nat.le_of_ble_eq_true rfl)) (fun X F hx Rt => by
    have F : Fx X cX11_asNumber RX11 0 0 := F
    unfold mX11_asNumber at h
    refine g_iload_n (pc := 0) (x := a0) F dX11_asNumber_0 rfl 0 rfl ?_
    refine g_if_eq (pc := 1) (tgt := 8) F dX11_asNumber_1 (by decide) (fun c1 => ?_) (fun c1 => ?_)
    · have h := ite_t c1 h
      refine g_iconst (pc := 8) F dX11_asNumber_8 ic_0 ?_
      obtain rfl := Option.some.inj h
      exact g_iret (pc := 9) (Wf := Wc) F Rt rfl dX11_asNumber_9
    · have h := ite_f c1 h
      refine g_iconst (pc := 4) F dX11_asNumber_4 ic_1 ?_
      refine g_goto (pc := 5) (tgt := 9) F dX11_asNumber_5 (by decide) ?_
      obtain rfl := Option.some.inj h
      exact g_iret (pc := 9) (Wf := Wc) F Rt rfl dX11_asNumber_9) l E
set_option maxHeartbeats 4000000 in
set_option maxRecDepth 100000 in
theorem hX4_bearing {M : Mem} {i1 : Nat} {a2 : Int32} {j0 : Nat} (hj0 : j0 < 3) (hi1 : i1 < 6) {res : Int32} (h : mX4_bearing j0 M i1 a2 = some res) (l : Launch) (E : Ev) : CtI l E (Wc E) yX4_bearing cX4_bearing 5 .int 3 72 [.ref (ec E (8 + j0)), .ref (ec E (14 + 6 * j0 + i1)), .int a2] M res M :=
  ctI_of (Wf := Wc) (av := fun E => [.ref (ec E (8 + j0)), .ref (ec E (14 + 6 * j0 + i1)), .int a2]) (lv := fun E => [(0, .ref (ec E (8 + j0))), (1, .ref (ec E (14 + 6 * j0 + i1))), (2, .int a2)]) (by decide) (fun _ => rfl) (fun _ => (Nat.le_of_ble_eq_true rfl)) (fun X F hx Rt => by
    have F : Fx X cX4_bearing RX4 3 72 := F
    unfold mX4_bearing at h
    refine g_aload_n (pc := 0) (x := ec (xE X) (8 + j0)) F dX4_bearing_0 rfl 0 rfl ?_
    refine g_aload_n (pc := 1) (x := ec (xE X) (14 + 6 * j0 + i1)) F dX4_bearing_1 rfl 1 rfl ?_
    obtain ⟨r1, e2, h⟩ := bd_some h
    refine g_vI (pc := 2) (Wf := Wc) (As := [.ref (ec (xE X) (14 + 6 * j0 + i1))]) (rest := []) F (hX4_distanceOf hj0 hi1 e2 (xl X) (xE X)) kX4_distanceOf lX4_82 (8 + j0) rfl (wc_S _ _ hj0) rfl rfl rfl ⟨(Nat.le_of_ble_eq_true rfl), (Nat.le_of_ble_eq_true rfl)⟩ (Nat.le_of_ble_eq_true rfl) dX4_bearing_2 ?_
    refine g_istore_n (pc := 5) (lv2 := [(0, .ref (ec (xE X) (8 + j0))), (1, .ref (ec (xE X) (14 + 6 * j0 + i1))), (2, .int a2), (3, .int r1)]) F dX4_bearing_5 rfl (by rw [hx]; decide) [1, 2, 3, 0] rfl ?_
    refine g_aload_n (pc := 6) (x := ec (xE X) (8 + j0)) F dX4_bearing_6 rfl 0 rfl ?_
    obtain ⟨r3, e4, h⟩ := bd_some h
    refine g_vI (pc := 7) (Wf := Wc) (As := []) (rest := []) F (hX4_isNight hj0 e4 (xl X) (xE X)) kX4_isNight lX4_86 (8 + j0) rfl (wc_S _ _ hj0) rfl rfl rfl ⟨(Nat.le_of_ble_eq_true rfl), (Nat.le_of_ble_eq_true rfl)⟩ (Nat.le_of_ble_eq_true rfl) dX4_bearing_7 ?_
    refine g_istore (pc := 10) (lv2 := [(0, .ref (ec (xE X) (8 + j0))), (1, .ref (ec (xE X) (14 + 6 * j0 + i1))), (2, .int a2), (3, .int r1), (4, .int r3)]) F dX4_bearing_10 (by rw [hx]; decide) [1, 2, 3, 4, 0] rfl ?_
    refine g_iload_n (pc := 12) (x := a2) F dX4_bearing_12 rfl 2 rfl ?_
    by_cases c5 : a2 = (7 : Int32)
    · have h := ite_t c5 h
      refine g_tswIn (pc := 13) (tgt := 44) (v := 7) F dX4_bearing_13 (by rw [c5]; decide) (by decide) (by decide) rfl (by decide) ?_
      refine g_iload_n (pc := 44) (x := r1) F dX4_bearing_44 rfl 3 rfl ?_
      obtain rfl := Option.some.inj h
      exact g_iret (pc := 45) (Wf := Wc) F Rt rfl dX4_bearing_45
    · have h := ite_f c5 h
      by_cases c6 : a2 = (8 : Int32)
      · have h := ite_t c6 h
        refine g_tswIn (pc := 13) (tgt := 46) (v := 8) F dX4_bearing_13 (by rw [c6]; decide) (by decide) (by decide) rfl (by decide) ?_
        refine g_aload_n (pc := 46) (x := ec (xE X) (14 + 6 * j0 + i1)) F dX4_bearing_46 rfl 1 rfl ?_
        refine g_get (pc := 47) (v := .ref (ec (xE X) (2 + (M.1 j0 (6 + 7 * i1 + 0)).toNatClampNeg))) F fX4_89 (14 + 6 * j0 + i1) (wc_V _ _ hj0 hi1) rfl dX4_bearing_47 ?_
        refine g_iload_n (pc := 50) (x := r1) F dX4_bearing_50 rfl 3 rfl ?_
        refine g_iload (pc := 51) (x := r3) F dX4_bearing_51 4 rfl ?_
        refine g_aload_n (pc := 53) (x := ec (xE X) (8 + j0)) F dX4_bearing_53 rfl 0 rfl ?_
        obtain ⟨r9, e10, h⟩ := bd_some h
        refine g_vI (pc := 54) (Wf := Wc) (As := []) (rest := [.int r3, .int r1, .ref (ec (xE X) (2 + (M.1 j0 (6 + 7 * i1 + 0)).toNatClampNeg))]) F (hX4_burns hj0 e10 (xl X) (xE X)) kX4_burns lX4_93 (8 + j0) rfl (wc_S _ _ hj0) rfl rfl rfl ⟨(Nat.le_of_ble_eq_true rfl), (Nat.le_of_ble_eq_true rfl)⟩ (Nat.le_of_ble_eq_true rfl) dX4_bearing_54 ?_
        refine g_aload_n (pc := 57) (x := ec (xE X) (8 + j0)) F dX4_bearing_57 rfl 0 rfl ?_
        refine g_get (pc := 58) (v := .int (M.1 j0 4)) F fX4_24 (8 + j0) (wc_S _ _ hj0) rfl dX4_bearing_58 ?_
        obtain ⟨r11, e12, h⟩ := bd_some h
        refine gd_sees (pc := 61) (rest := []) F e12 lX4_96 rfl ⟨(Nat.le_of_ble_eq_true rfl), (Nat.le_of_ble_eq_true rfl)⟩ (Nat.le_of_ble_eq_true rfl) dX4_bearing_61 ?_
        obtain ⟨r13, e14, h⟩ := bd_some h
        refine g_nI (pc := 64) (Wf := Wc) (As := [.int r11]) (rest := []) F (hX11_asNumber (M := M) e14 (xl X) (xE X)) kX11_asNumber F.2.2.2.2.2.2.2.2.1.1 rfl rfl ⟨(Nat.le_of_ble_eq_true rfl), (Nat.le_of_ble_eq_true rfl)⟩ (Nat.le_of_ble_eq_true rfl) dX4_bearing_64 ?_
        obtain rfl := Option.some.inj h
        exact g_iret (pc := 67) (Wf := Wc) F Rt rfl dX4_bearing_67
      · have h := ite_f c6 h
        by_cases c7 : a2 = (9 : Int32)
        · have h := ite_t c7 h
          refine g_tswIn (pc := 13) (tgt := 68) (v := 9) F dX4_bearing_13 (by rw [c7]; decide) (by decide) (by decide) rfl (by decide) ?_
          refine g_aload_n (pc := 68) (x := ec (xE X) (14 + 6 * j0 + i1)) F dX4_bearing_68 rfl 1 rfl ?_
          refine g_get (pc := 69) (v := .ref (ec (xE X) (2 + (M.1 j0 (6 + 7 * i1 + 0)).toNatClampNeg))) F fX4_89 (14 + 6 * j0 + i1) (wc_V _ _ hj0 hi1) rfl dX4_bearing_69 ?_
          refine g_aload_n (pc := 72) (x := ec (xE X) (8 + j0)) F dX4_bearing_72 rfl 0 rfl ?_
          obtain ⟨r15, e16, h⟩ := bd_some h
          refine g_vI (pc := 73) (Wf := Wc) (As := []) (rest := [.ref (ec (xE X) (2 + (M.1 j0 (6 + 7 * i1 + 0)).toNatClampNeg))]) F (hX4_hourOfDay hj0 e16 (xl X) (xE X)) kX4_hourOfDay lX4_55 (8 + j0) rfl (wc_S _ _ hj0) rfl rfl rfl ⟨(Nat.le_of_ble_eq_true rfl), (Nat.le_of_ble_eq_true rfl)⟩ (Nat.le_of_ble_eq_true rfl) dX4_bearing_73 ?_
          refine g_iload (pc := 76) (x := r3) F dX4_bearing_76 4 rfl ?_
          obtain ⟨r17, e18, h⟩ := bd_some h
          refine gd_speed (pc := 78) (rest := []) F e18 lX4_106 rfl ⟨(Nat.le_of_ble_eq_true rfl), (Nat.le_of_ble_eq_true rfl)⟩ (Nat.le_of_ble_eq_true rfl) dX4_bearing_78 ?_
          obtain rfl := Option.some.inj h
          exact g_iret (pc := 81) (Wf := Wc) F Rt rfl dX4_bearing_81
        · have h := ite_f c7 h
          by_cases c8 : a2 = (10 : Int32)
          · have h := ite_t c8 h
            refine g_tswIn (pc := 13) (tgt := 82) (v := 10) F dX4_bearing_13 (by rw [c8]; decide) (by decide) (by decide) rfl (by decide) ?_
            refine g_bipush (pc := 82) F dX4_bearing_82 bp_100 ?_
            refine g_aload_n (pc := 84) (x := ec (xE X) (14 + 6 * j0 + i1)) F dX4_bearing_84 rfl 1 rfl ?_
            refine g_get (pc := 85) (v := .ref (ec (xE X) (2 + (M.1 j0 (6 + 7 * i1 + 0)).toNatClampNeg))) F fX4_89 (14 + 6 * j0 + i1) (wc_V _ _ hj0 hi1) rfl dX4_bearing_85 ?_
            refine g_iload_n (pc := 88) (x := r1) F dX4_bearing_88 rfl 3 rfl ?_
            obtain ⟨r19, e20, h⟩ := bd_some h
            refine gd_keepsOff (pc := 89) (rest := [.int (100 : Int32)]) F e20 lX4_110 rfl ⟨(Nat.le_of_ble_eq_true rfl), (Nat.le_of_ble_eq_true rfl)⟩ (Nat.le_of_ble_eq_true rfl) dX4_bearing_89 ?_
            refine g_iadd (pc := 92) F dX4_bearing_92 ?_
            obtain rfl := Option.some.inj h
            exact g_iret (pc := 93) (Wf := Wc) F Rt rfl dX4_bearing_93
          · have h := ite_f c8 h
            refine g_tswOut (pc := 13) (tgt := 94) F dX4_bearing_13 (by have z0 := lv_neT (a := 7) c5 (by decide); have z1 := lv_neT (a := 8) c6 (by decide); have z2 := lv_neT (a := 9) c7 (by decide); have z3 := lv_neT (a := 10) c8 (by decide); omega) (by decide) ?_
            refine g_aload_n (pc := 94) (x := ec (xE X) (14 + 6 * j0 + i1)) F dX4_bearing_94 rfl 1 rfl ?_
            refine g_get (pc := 95) (v := .ref (ec (xE X) (2 + (M.1 j0 (6 + 7 * i1 + 0)).toNatClampNeg))) F fX4_89 (14 + 6 * j0 + i1) (wc_V _ _ hj0 hi1) rfl dX4_bearing_95 ?_
            refine g_iload_n (pc := 98) (x := r1) F dX4_bearing_98 rfl 3 rfl ?_
            refine g_iload (pc := 99) (x := r3) F dX4_bearing_99 4 rfl ?_
            refine g_aload_n (pc := 101) (x := ec (xE X) (14 + 6 * j0 + i1)) F dX4_bearing_101 rfl 1 rfl ?_
            refine g_get (pc := 102) (v := .int (M.1 j0 (6 + 7 * i1 + 3))) F fX4_113 (14 + 6 * j0 + i1) (wc_V _ _ hj0 hi1) rfl dX4_bearing_102 ?_
            obtain ⟨r21, e22, h⟩ := bd_some h
            refine gd_stands (pc := 105) (rest := []) F e22 lX4_116 rfl ⟨(Nat.le_of_ble_eq_true rfl), (Nat.le_of_ble_eq_true rfl)⟩ (Nat.le_of_ble_eq_true rfl) dX4_bearing_105 ?_
            obtain ⟨r23, e24, h⟩ := bd_some h
            refine g_nI (pc := 108) (Wf := Wc) (As := [.int r21]) (rest := []) F (hX11_asNumber (M := M) e24 (xl X) (xE X)) kX11_asNumber F.2.2.2.2.2.2.2.2.1.1 rfl rfl ⟨(Nat.le_of_ble_eq_true rfl), (Nat.le_of_ble_eq_true rfl)⟩ (Nat.le_of_ble_eq_true rfl) dX4_bearing_108 ?_
            obtain rfl := Option.some.inj h
            exact g_iret (pc := 111) (Wf := Wc) F Rt rfl dX4_bearing_111) l E
set_option maxHeartbeats 4000000 in
set_option maxRecDepth 100000 in
theorem hX10_isUnderWay {M : Mem} {j0 : Nat} {i0 : Nat} (hj0 : j0 < 3) (hi0 : i0 < 6) {res : Int32} (h : mX10_isUnderWay j0 i0 M = some res) (l : Launch) (E : Ev) : CtI l E (Wc E) yX10_isUnderWay cX10_isUnderWay 1 .boolean 0 0 [.ref (ec E (14 + 6 * j0 + i0))] M res M :=
  ctI_of (Wf := Wc) (av := fun E => [.ref (ec E (14 + 6 * j0 + i0))]) (lv := fun E => [(0, .ref (ec E (14 + 6 * j0 + i0)))]) (by decide) (fun _ => rfl) (fun _ => (Nat.le_of_ble_eq_true rfl)) (fun X F hx Rt => by
    have F : Fx X cX10_isUnderWay RX10 0 0 := F
    unfold mX10_isUnderWay at h
    refine g_aload_n (pc := 0) (x := ec (xE X) (14 + 6 * j0 + i0)) F dX10_isUnderWay_0 rfl 0 rfl ?_
    refine g_get (pc := 1) (v := .int (M.1 j0 (6 + 7 * i0 + 5))) F fX10_28 (14 + 6 * j0 + i0) (wc_V _ _ hj0 hi0) rfl dX10_isUnderWay_1 ?_
    refine g_if_ne (pc := 4) (tgt := 18) F dX10_isUnderWay_4 (by decide) (fun c1 => ?_) (fun c1 => ?_)
    · have h := ite_f c1 h
      refine g_iconst (pc := 18) F dX10_isUnderWay_18 ic_0 ?_
      obtain rfl := Option.some.inj h
      exact g_iret (pc := 19) (Wf := Wc) F Rt (by decide) dX10_isUnderWay_19
    · have h := ite_t c1 h
      refine g_aload_n (pc := 7) (x := ec (xE X) (14 + 6 * j0 + i0)) F dX10_isUnderWay_7 rfl 0 rfl ?_
      refine g_get (pc := 8) (v := .int (M.1 j0 (6 + 7 * i0 + 6))) F fX10_32 (14 + 6 * j0 + i0) (wc_V _ _ hj0 hi0) rfl dX10_isUnderWay_8 ?_
      refine g_if_ne (pc := 11) (tgt := 18) F dX10_isUnderWay_11 (by decide) (fun c2 => ?_) (fun c2 => ?_)
      · have h := ite_f c2 h
        refine g_iconst (pc := 18) F dX10_isUnderWay_18 ic_0 ?_
        obtain rfl := Option.some.inj h
        exact g_iret (pc := 19) (Wf := Wc) F Rt (by decide) dX10_isUnderWay_19
      · have h := ite_t c2 h
        refine g_iconst (pc := 14) F dX10_isUnderWay_14 ic_1 ?_
        refine g_goto (pc := 15) (tgt := 19) F dX10_isUnderWay_15 (by decide) ?_
        obtain rfl := Option.some.inj h
        exact g_iret (pc := 19) (Wf := Wc) F Rt (by decide) dX10_isUnderWay_19) l E
set_option maxHeartbeats 4000000 in
set_option maxRecDepth 100000 in
theorem hX10_pay {M : Mem} {j0 : Nat} {i0 : Nat} (hj0 : j0 < 3) (hi0 : i0 < 6) {res : Mem} (h : mX10_pay j0 i0 M = some res) (l : Launch) (E : Ev) : CtV l E (Wc E) yX10_pay cX10_pay 1 1 21 [.ref (ec E (14 + 6 * j0 + i0))] M res :=
  ctV_of (Wf := Wc) (av := fun E => [.ref (ec E (14 + 6 * j0 + i0))]) (lv := fun E => [(0, .ref (ec E (14 + 6 * j0 + i0)))]) (by decide) (fun _ => rfl) (fun _ => (Nat.le_of_ble_eq_true rfl)) (fun X F hx Rt => by
    have F : Fx X cX10_pay RX10 1 21 := F
    unfold mX10_pay at h
    refine g_aload_n (pc := 0) (x := ec (xE X) (14 + 6 * j0 + i0)) F dX10_pay_0 rfl 0 rfl ?_
    refine g_aload_n (pc := 1) (x := ec (xE X) (14 + 6 * j0 + i0)) F dX10_pay_1 rfl 0 rfl ?_
    refine g_get (pc := 2) (v := .int (M.1 j0 (6 + 7 * i0 + 3))) F fX10_22 (14 + 6 * j0 + i0) (wc_V _ _ hj0 hi0) rfl dX10_pay_2 ?_
    refine g_iconst (pc := 5) F dX10_pay_5 ic_1 ?_
    refine g_iadd (pc := 6) F dX10_pay_6 ?_
    refine g_sipush (pc := 7) F dX10_pay_7 sp_9999 ?_
    refine g_mmin (pc := 10) F lX10_45 mt1_min mt2 mt3_min ⟨(Nat.le_of_ble_eq_true rfl), (Nat.le_of_ble_eq_true rfl)⟩ (Nat.le_of_ble_eq_true rfl) dX10_pay_10 ?_
    refine g_put (pc := 13) (ws2 := Wc (xE X) (sI M j0 (6 + 7 * i0 + 3) (if (9999 : Int32) < ((M.1 j0 (6 + 7 * i0 + 3)) + (1 : Int32)) then (9999 : Int32) else ((M.1 j0 (6 + 7 * i0 + 3)) + (1 : Int32))))) F pX10_22 (14 + 6 * j0 + i0) (wc_V _ _ hj0 hi0) rfl rfl (Nat.le_of_ble_eq_true rfl) (wcp_V3 _ _ hj0 hi0 _) dX10_pay_13 ?_
    obtain rfl := Option.some.inj h
    exact g_vret (pc := 16) (Wf := Wc) F Rt dX10_pay_16) l E
set_option maxHeartbeats 4000000 in
set_option maxRecDepth 100000 in
theorem wX4_turnAway_b53 {X : Cx} (F : Fx X cX4_turnAway RX4 2 41) (hx : xn X = 4) {j0 : Nat} (hj0 : j0 < 3) {res : Mem} (Rt : RV X Wc res) : ∀ (M : Mem) (i1 : Nat) (hi1 : i1 < 6) (a3 : Int32), mX4_turnAway_b53 j0 M i1 a3 = some res → G X (Wc (xE X) M) 53 [(1, .ref (ec (xE X) (14 + 6 * j0 + i1))), (3, .int a3)] [] := by
  intro M i1 hi1 a3 h
  unfold mX4_turnAway_b53 at h
  refine g_aload_n (pc := 53) (x := ec (xE X) (14 + 6 * j0 + i1)) F dX4_turnAway_53 rfl 0 rfl ?_
  refine g_get (pc := 54) (v := .int (M.1 j0 (6 + 7 * i1 + 2))) F fX4_75 (14 + 6 * j0 + i1) (wc_V _ _ hj0 hi1) rfl dX4_turnAway_54 ?_
  refine g_iload_n (pc := 57) (x := a3) F dX4_turnAway_57 rfl 1 rfl ?_
  refine g_icmp_eq (pc := 58) (tgt := 65) F dX4_turnAway_58 (by decide) (fun c2 => ?_) (fun c2 => ?_)
  · have h := ite_t c2 h
    obtain rfl := Option.some.inj h
    exact g_vret (pc := 65) (Wf := Wc) F Rt dX4_turnAway_65
  · have h := ite_f c2 h
    refine g_aload_n (pc := 61) (x := ec (xE X) (14 + 6 * j0 + i1)) F dX4_turnAway_61 rfl 0 rfl ?_
    obtain ⟨M3, e4, h⟩ := bd_some h
    refine g_vV (pc := 62) (Wf := Wc) (As := []) (rest := []) F (hX10_pay hj0 hi1 e4 (xl X) (xE X)) kX10_pay lX4_127 (14 + 6 * j0 + i1) rfl (wc_V _ _ hj0 hi1) rfl rfl rfl ⟨(Nat.le_of_ble_eq_true rfl), (Nat.le_of_ble_eq_true rfl)⟩ (Nat.le_of_ble_eq_true rfl) dX4_turnAway_62 ?_
    obtain rfl := Option.some.inj h
    exact g_vret (pc := 65) (Wf := Wc) F Rt dX4_turnAway_65
set_option maxHeartbeats 4000000 in
set_option maxRecDepth 100000 in
theorem hX4_turnAway {M : Mem} {i1 : Nat} {a2 : Int32} {j0 : Nat} (hj0 : j0 < 3) (hi1 : i1 < 6) {res : Mem} (h : mX4_turnAway j0 M i1 a2 = some res) (l : Launch) (E : Ev) : CtV l E (Wc E) yX4_turnAway cX4_turnAway 4 2 41 [.ref (ec E (8 + j0)), .ref (ec E (14 + 6 * j0 + i1)), .int a2] M res :=
  ctV_of (Wf := Wc) (av := fun E => [.ref (ec E (8 + j0)), .ref (ec E (14 + 6 * j0 + i1)), .int a2]) (lv := fun E => [(0, .ref (ec E (8 + j0))), (1, .ref (ec E (14 + 6 * j0 + i1))), (2, .int a2)]) (by decide) (fun _ => rfl) (fun _ => (Nat.le_of_ble_eq_true rfl)) (fun X F hx Rt => by
    have F : Fx X cX4_turnAway RX4 2 41 := F
    unfold mX4_turnAway at h
    refine g_aload_n (pc := 0) (x := ec (xE X) (14 + 6 * j0 + i1)) F dX4_turnAway_0 rfl 1 rfl ?_
    refine g_get (pc := 1) (v := .int (M.1 j0 (6 + 7 * i1 + 2))) F fX4_75 (14 + 6 * j0 + i1) (wc_V _ _ hj0 hi1) rfl dX4_turnAway_1 ?_
    refine g_istore_n (pc := 4) (lv2 := [(0, .ref (ec (xE X) (8 + j0))), (1, .ref (ec (xE X) (14 + 6 * j0 + i1))), (2, .int a2), (3, .int (M.1 j0 (6 + 7 * i1 + 2)))]) F dX4_turnAway_4 rfl (by rw [hx]; decide) [1, 2, 3, 0] rfl ?_
    refine g_iload_n (pc := 5) (x := M.1 j0 (6 + 7 * i1 + 2)) F dX4_turnAway_5 rfl 3 rfl ?_
    refine g_aload_n (pc := 6) (x := ec (xE X) (8 + j0)) F dX4_turnAway_6 rfl 0 rfl ?_
    refine g_get (pc := 7) (v := .int (M.1 j0 2)) F fX4_18 (8 + j0) (wc_S _ _ hj0) rfl dX4_turnAway_7 ?_
    refine g_icmp_gt (pc := 10) (tgt := 34) F dX4_turnAway_10 (by decide) (fun c1 => ?_) (fun c1 => ?_)
    · have h := ite_t c1 h
      refine g_aload_n (pc := 34) (x := ec (xE X) (14 + 6 * j0 + i1)) F dX4_turnAway_34 rfl 1 rfl ?_
      refine g_bipush (pc := 35) F dX4_turnAway_35 bp_9 ?_
      refine g_aload_n (pc := 37) (x := ec (xE X) (8 + j0)) F dX4_turnAway_37 rfl 0 rfl ?_
      refine g_get (pc := 38) (v := .int (M.1 j0 2)) F fX4_18 (8 + j0) (wc_S _ _ hj0) rfl dX4_turnAway_38 ?_
      refine g_iload_n (pc := 41) (x := M.1 j0 (6 + 7 * i1 + 2)) F dX4_turnAway_41 rfl 3 rfl ?_
      refine g_iload_n (pc := 42) (x := a2) F dX4_turnAway_42 rfl 2 rfl ?_
      refine g_iadd (pc := 43) F dX4_turnAway_43 ?_
      refine g_mmax (pc := 44) F lX4_78 mt1_max mt2 mt3_max ⟨(Nat.le_of_ble_eq_true rfl), (Nat.le_of_ble_eq_true rfl)⟩ (Nat.le_of_ble_eq_true rfl) dX4_turnAway_44 ?_
      refine g_mmin (pc := 47) F lX4_136 mt1_min mt2 mt3_min ⟨(Nat.le_of_ble_eq_true rfl), (Nat.le_of_ble_eq_true rfl)⟩ (Nat.le_of_ble_eq_true rfl) dX4_turnAway_47 ?_
      refine g_put (pc := 50) (ws2 := Wc (xE X) (sI M j0 (6 + 7 * i1 + 2) (if (if (M.1 j0 2) < ((M.1 j0 (6 + 7 * i1 + 2)) + a2) then ((M.1 j0 (6 + 7 * i1 + 2)) + a2) else (M.1 j0 2)) < (9 : Int32) then (if (M.1 j0 2) < ((M.1 j0 (6 + 7 * i1 + 2)) + a2) then ((M.1 j0 (6 + 7 * i1 + 2)) + a2) else (M.1 j0 2)) else (9 : Int32)))) F pX4_75 (14 + 6 * j0 + i1) (wc_V _ _ hj0 hi1) rfl rfl (Nat.le_of_ble_eq_true rfl) (wcp_V2 _ _ hj0 hi1 _) dX4_turnAway_50 ?_
      refine g_sub [1, 3] rfl ?_
      exact wX4_turnAway_b53 F hx hj0 Rt (sI M j0 (6 + 7 * i1 + 2) (if (if (M.1 j0 2) < ((M.1 j0 (6 + 7 * i1 + 2)) + a2) then ((M.1 j0 (6 + 7 * i1 + 2)) + a2) else (M.1 j0 2)) < (9 : Int32) then (if (M.1 j0 2) < ((M.1 j0 (6 + 7 * i1 + 2)) + a2) then ((M.1 j0 (6 + 7 * i1 + 2)) + a2) else (M.1 j0 2)) else (9 : Int32))) i1 hi1 (M.1 j0 (6 + 7 * i1 + 2)) h
    · have h := ite_f c1 h
      refine g_aload_n (pc := 13) (x := ec (xE X) (14 + 6 * j0 + i1)) F dX4_turnAway_13 rfl 1 rfl ?_
      refine g_iconst (pc := 14) F dX4_turnAway_14 ic_0 ?_
      refine g_aload_n (pc := 15) (x := ec (xE X) (8 + j0)) F dX4_turnAway_15 rfl 0 rfl ?_
      refine g_get (pc := 16) (v := .int (M.1 j0 2)) F fX4_18 (8 + j0) (wc_S _ _ hj0) rfl dX4_turnAway_16 ?_
      refine g_iload_n (pc := 19) (x := M.1 j0 (6 + 7 * i1 + 2)) F dX4_turnAway_19 rfl 3 rfl ?_
      refine g_iload_n (pc := 20) (x := a2) F dX4_turnAway_20 rfl 2 rfl ?_
      refine g_isub (pc := 21) F dX4_turnAway_21 ?_
      refine g_mmin (pc := 22) F lX4_136 mt1_min mt2 mt3_min ⟨(Nat.le_of_ble_eq_true rfl), (Nat.le_of_ble_eq_true rfl)⟩ (Nat.le_of_ble_eq_true rfl) dX4_turnAway_22 ?_
      refine g_mmax (pc := 25) F lX4_78 mt1_max mt2 mt3_max ⟨(Nat.le_of_ble_eq_true rfl), (Nat.le_of_ble_eq_true rfl)⟩ (Nat.le_of_ble_eq_true rfl) dX4_turnAway_25 ?_
      refine g_put (pc := 28) (ws2 := Wc (xE X) (sI M j0 (6 + 7 * i1 + 2) (if (0 : Int32) < (if ((M.1 j0 (6 + 7 * i1 + 2)) - a2) < (M.1 j0 2) then ((M.1 j0 (6 + 7 * i1 + 2)) - a2) else (M.1 j0 2)) then (if ((M.1 j0 (6 + 7 * i1 + 2)) - a2) < (M.1 j0 2) then ((M.1 j0 (6 + 7 * i1 + 2)) - a2) else (M.1 j0 2)) else (0 : Int32)))) F pX4_75 (14 + 6 * j0 + i1) (wc_V _ _ hj0 hi1) rfl rfl (Nat.le_of_ble_eq_true rfl) (wcp_V2 _ _ hj0 hi1 _) dX4_turnAway_28 ?_
      refine g_goto (pc := 31) (tgt := 53) F dX4_turnAway_31 (by decide) ?_
      refine g_sub [1, 3] rfl ?_
      exact wX4_turnAway_b53 F hx hj0 Rt (sI M j0 (6 + 7 * i1 + 2) (if (0 : Int32) < (if ((M.1 j0 (6 + 7 * i1 + 2)) - a2) < (M.1 j0 2) then ((M.1 j0 (6 + 7 * i1 + 2)) - a2) else (M.1 j0 2)) then (if ((M.1 j0 (6 + 7 * i1 + 2)) - a2) < (M.1 j0 2) then ((M.1 j0 (6 + 7 * i1 + 2)) - a2) else (M.1 j0 2)) else (0 : Int32))) i1 hi1 (M.1 j0 (6 + 7 * i1 + 2)) h) l E
set_option maxHeartbeats 4000000 in
set_option maxRecDepth 100000 in
theorem wX4_advance_b2 {X : Cx} (F : Fx X cX4_advance RX4 2 42) (hx : xn X = 5) {N : Nat} {j0 : Nat} (hj0 : j0 < 3) {res : Mem} (Rt : RV X Wc res) : ∀ (n : Nat) (M : Mem) (i1 : Nat) (hi1 : i1 < 6) (a2 : Int32) (a3 : Int32), mX4_advance_b2 N j0 n M i1 a2 a3 = some res → G X (Wc (xE X) M) 2 [(0, .ref (ec (xE X) (8 + j0))), (1, .ref (ec (xE X) (14 + 6 * j0 + i1))), (2, .int a2), (3, .int a3)] [] := by
  intro n
  induction n with
  | zero =>
    intro M i1 hi1 a2 a3 h
    have h : none = some res := h
    cases h
  | succ n ih =>
    intro M i1 hi1 a2 a3 h
    rw [mX4_advance_b2] at h
    refine g_iload_n (pc := 2) (x := a3) F dX4_advance_2 rfl 3 rfl ?_
    refine g_iload_n (pc := 3) (x := a2) F dX4_advance_3 rfl 2 rfl ?_
    refine g_icmp_ge (pc := 4) (tgt := 81) F dX4_advance_4 (by decide) (fun c1 => ?_) (fun c1 => ?_)
    · have h := ite_t c1 h
      obtain rfl := Option.some.inj h
      exact g_vret (pc := 81) (Wf := Wc) F Rt dX4_advance_81
    · have h := ite_f c1 h
      refine g_aload_n (pc := 7) (x := ec (xE X) (14 + 6 * j0 + i1)) F dX4_advance_7 rfl 1 rfl ?_
      obtain ⟨r2, e3, h⟩ := bd_some h
      refine g_vI (pc := 8) (Wf := Wc) (As := []) (rest := []) F (hX10_isUnderWay hj0 hi1 e3 (xl X) (xE X)) kX10_isUnderWay lX4_120 (14 + 6 * j0 + i1) rfl (wc_V _ _ hj0 hi1) rfl rfl rfl ⟨(Nat.le_of_ble_eq_true rfl), (Nat.le_of_ble_eq_true rfl)⟩ (Nat.le_of_ble_eq_true rfl) dX4_advance_8 ?_
      refine g_if_eq (pc := 11) (tgt := 81) F dX4_advance_11 (by decide) (fun c4 => ?_) (fun c4 => ?_)
      · have h := ite_t c4 h
        obtain rfl := Option.some.inj h
        exact g_vret (pc := 81) (Wf := Wc) F Rt dX4_advance_81
      · have h := ite_f c4 h
        refine g_aload_n (pc := 14) (x := ec (xE X) (14 + 6 * j0 + i1)) F dX4_advance_14 rfl 1 rfl ?_
        refine g_dup (pc := 15) F dX4_advance_15 rfl ?_
        refine g_get (pc := 16) (v := .int (M.1 j0 (6 + 7 * i1 + 1))) F fX4_66 (14 + 6 * j0 + i1) (wc_V _ _ hj0 hi1) rfl dX4_advance_16 ?_
        refine g_iconst (pc := 19) F dX4_advance_19 ic_1 ?_
        refine g_iadd (pc := 20) F dX4_advance_20 ?_
        refine g_put (pc := 21) (ws2 := Wc (xE X) (sI M j0 (6 + 7 * i1 + 1) ((M.1 j0 (6 + 7 * i1 + 1)) + (1 : Int32)))) F pX4_66 (14 + 6 * j0 + i1) (wc_V _ _ hj0 hi1) rfl rfl (Nat.le_of_ble_eq_true rfl) (wcp_V1 _ _ hj0 hi1 _) dX4_advance_21 ?_
        refine g_aload_n (pc := 24) (x := ec (xE X) (14 + 6 * j0 + i1)) F dX4_advance_24 rfl 1 rfl ?_
        refine g_get (pc := 25) (v := .int ((sI M j0 (6 + 7 * i1 + 1) ((M.1 j0 (6 + 7 * i1 + 1)) + (1 : Int32))).1 j0 (6 + 7 * i1 + 1))) F fX4_66 (14 + 6 * j0 + i1) (wc_V _ _ hj0 hi1) rfl dX4_advance_25 ?_
        refine g_bipush (pc := 28) F dX4_advance_28 bp_19 ?_
        refine g_icmp_le (pc := 30) (tgt := 41) F dX4_advance_30 (by decide) (fun c5 => ?_) (fun c5 => ?_)
        · have h := ite_t c5 h
          refine g_aload_n (pc := 41) (x := ec (xE X) (8 + j0)) F dX4_advance_41 rfl 0 rfl ?_
          refine g_aload_n (pc := 42) (x := ec (xE X) (14 + 6 * j0 + i1)) F dX4_advance_42 rfl 1 rfl ?_
          obtain ⟨r6, e7, h⟩ := bd_some h
          refine g_vI (pc := 43) (Wf := Wc) (As := [.ref (ec (xE X) (14 + 6 * j0 + i1))]) (rest := []) F (hX4_distanceOf hj0 hi1 e7 (xl X) (xE X)) kX4_distanceOf lX4_82 (8 + j0) rfl (wc_S _ _ hj0) rfl rfl rfl ⟨(Nat.le_of_ble_eq_true rfl), (Nat.le_of_ble_eq_true rfl)⟩ (Nat.le_of_ble_eq_true rfl) dX4_advance_43 ?_
          refine g_istore (pc := 46) (lv2 := [(0, .ref (ec (xE X) (8 + j0))), (1, .ref (ec (xE X) (14 + 6 * j0 + i1))), (2, .int a2), (3, .int a3), (4, .int r6)]) F dX4_advance_46 (by rw [hx]; decide) [1, 2, 3, 4, 0] rfl ?_
          refine g_aload_n (pc := 48) (x := ec (xE X) (14 + 6 * j0 + i1)) F dX4_advance_48 rfl 1 rfl ?_
          refine g_aload_n (pc := 49) (x := ec (xE X) (14 + 6 * j0 + i1)) F dX4_advance_49 rfl 1 rfl ?_
          refine g_get (pc := 50) (v := .int ((sI M j0 (6 + 7 * i1 + 1) ((M.1 j0 (6 + 7 * i1 + 1)) + (1 : Int32))).1 j0 (6 + 7 * i1 + 4))) F fX4_143 (14 + 6 * j0 + i1) (wc_V _ _ hj0 hi1) rfl dX4_advance_50 ?_
          refine g_iload (pc := 53) (x := r6) F dX4_advance_53 4 rfl ?_
          refine g_mmin (pc := 55) F lX4_136 mt1_min mt2 mt3_min ⟨(Nat.le_of_ble_eq_true rfl), (Nat.le_of_ble_eq_true rfl)⟩ (Nat.le_of_ble_eq_true rfl) dX4_advance_55 ?_
          obtain ⟨M8, e9, h⟩ := bd_some h
          refine g_put (pc := 58) (ws2 := Wc (xE X) (M8)) F pX4_143 (14 + 6 * j0 + i1) (wc_V _ _ hj0 hi1) rfl rfl (Nat.le_of_ble_eq_true rfl) (Eq.trans (wcp_V4 _ _ hj0 hi1 _) (congrArg (Wc (xE X)) (Option.some.inj e9))) dX4_advance_58 ?_
          refine g_aload_n (pc := 61) (x := ec (xE X) (14 + 6 * j0 + i1)) F dX4_advance_61 rfl 1 rfl ?_
          refine g_iload (pc := 62) (x := r6) F dX4_advance_62 4 rfl ?_
          refine g_if_ne (pc := 64) (tgt := 71) F dX4_advance_64 (by decide) (fun c10 => ?_) (fun c10 => ?_)
          · have h := ite_f c10 h
            refine g_iconst (pc := 71) F dX4_advance_71 ic_0 ?_
            refine g_put (pc := 72) (ws2 := Wc (xE X) (sI M8 j0 (6 + 7 * i1 + 5) (0 : Int32))) F pX4_146 (14 + 6 * j0 + i1) (wc_V _ _ hj0 hi1) (by decide) (by decide) (Nat.le_of_ble_eq_true rfl) (wcp_V5 _ _ hj0 hi1 _) dX4_advance_72 ?_
            refine g_iinc (pc := 75) (lv2 := [(0, .ref (ec (xE X) (8 + j0))), (1, .ref (ec (xE X) (14 + 6 * j0 + i1))), (2, .int a2), (3, .int (a3 + (1 : Int32))), (4, .int r6)]) F dX4_advance_75 3 rfl (ii_1 _) (by rw [hx]; decide) [1, 2, 3, 0, 4] rfl ?_
            refine g_goto (pc := 78) (tgt := 2) F dX4_advance_78 (by decide) ?_
            refine g_sub [0, 1, 2, 3] rfl ?_
            exact ih (sI M8 j0 (6 + 7 * i1 + 5) (0 : Int32)) i1 hi1 a2 (a3 + (1 : Int32)) h
          · have h := ite_t c10 h
            refine g_iconst (pc := 67) F dX4_advance_67 ic_1 ?_
            refine g_goto (pc := 68) (tgt := 72) F dX4_advance_68 (by decide) ?_
            refine g_put (pc := 72) (ws2 := Wc (xE X) (sI M8 j0 (6 + 7 * i1 + 5) (1 : Int32))) F pX4_146 (14 + 6 * j0 + i1) (wc_V _ _ hj0 hi1) (by decide) (by decide) (Nat.le_of_ble_eq_true rfl) (wcp_V5 _ _ hj0 hi1 _) dX4_advance_72 ?_
            refine g_iinc (pc := 75) (lv2 := [(0, .ref (ec (xE X) (8 + j0))), (1, .ref (ec (xE X) (14 + 6 * j0 + i1))), (2, .int a2), (3, .int (a3 + (1 : Int32))), (4, .int r6)]) F dX4_advance_75 3 rfl (ii_1 _) (by rw [hx]; decide) [1, 2, 3, 0, 4] rfl ?_
            refine g_goto (pc := 78) (tgt := 2) F dX4_advance_78 (by decide) ?_
            refine g_sub [0, 1, 2, 3] rfl ?_
            exact ih (sI M8 j0 (6 + 7 * i1 + 5) (1 : Int32)) i1 hi1 a2 (a3 + (1 : Int32)) h
        · have h := ite_f c5 h
          refine g_aload_n (pc := 33) (x := ec (xE X) (14 + 6 * j0 + i1)) F dX4_advance_33 rfl 1 rfl ?_
          refine g_iconst (pc := 34) F dX4_advance_34 ic_1 ?_
          obtain ⟨M11, e12, h⟩ := bd_some h
          refine g_put (pc := 35) (ws2 := Wc (xE X) (M11)) F pX4_139 (14 + 6 * j0 + i1) (wc_V _ _ hj0 hi1) (by decide) (by decide) (Nat.le_of_ble_eq_true rfl) (Eq.trans (wcp_V6 _ _ hj0 hi1 _) (congrArg (Wc (xE X)) (Option.some.inj e12))) dX4_advance_35 ?_
          refine g_goto (pc := 38) (tgt := 75) F dX4_advance_38 (by decide) ?_
          refine g_iinc (pc := 75) (lv2 := [(0, .ref (ec (xE X) (8 + j0))), (1, .ref (ec (xE X) (14 + 6 * j0 + i1))), (2, .int a2), (3, .int (a3 + (1 : Int32)))]) F dX4_advance_75 3 rfl (ii_1 _) (by rw [hx]; decide) [1, 2, 3, 0] rfl ?_
          refine g_goto (pc := 78) (tgt := 2) F dX4_advance_78 (by decide) ?_
          refine g_sub [0, 1, 2, 3] rfl ?_
          exact ih M11 i1 hi1 a2 (a3 + (1 : Int32)) h
set_option maxHeartbeats 4000000 in
set_option maxRecDepth 100000 in
theorem hX4_advance {N : Nat} {M : Mem} {i1 : Nat} {a2 : Int32} {j0 : Nat} (hj0 : j0 < 3) (hi1 : i1 < 6) {res : Mem} (h : mX4_advance N j0 M i1 a2 = some res) (l : Launch) (E : Ev) : CtV l E (Wc E) yX4_advance cX4_advance 5 2 42 [.ref (ec E (8 + j0)), .ref (ec E (14 + 6 * j0 + i1)), .int a2] M res :=
  ctV_of (Wf := Wc) (av := fun E => [.ref (ec E (8 + j0)), .ref (ec E (14 + 6 * j0 + i1)), .int a2]) (lv := fun E => [(0, .ref (ec E (8 + j0))), (1, .ref (ec E (14 + 6 * j0 + i1))), (2, .int a2)]) (by decide) (fun _ => rfl) (fun _ => (Nat.le_of_ble_eq_true rfl)) (fun X F hx Rt => by
    have F : Fx X cX4_advance RX4 2 42 := F
    unfold mX4_advance at h
    refine g_iconst (pc := 0) F dX4_advance_0 ic_0 ?_
    refine g_istore_n (pc := 1) (lv2 := [(0, .ref (ec (xE X) (8 + j0))), (1, .ref (ec (xE X) (14 + 6 * j0 + i1))), (2, .int a2), (3, .int (0 : Int32))]) F dX4_advance_1 rfl (by rw [hx]; decide) [1, 2, 3, 0] rfl ?_
    refine g_sub [0, 1, 2, 3] rfl ?_
    exact wX4_advance_b2 F hx hj0 Rt N M i1 hi1 a2 (0 : Int32) h) l E
set_option maxHeartbeats 4000000 in
set_option maxRecDepth 100000 in
theorem hX4_passHour {N : Nat} {M : Mem} {i1 : Nat} {a2 : Int32} {j0 : Nat} (hj0 : j0 < 3) (hi1 : i1 < 6) {res : Mem} (h : mX4_passHour N j0 M i1 a2 = some res) (l : Launch) (E : Ev) : CtV l E (Wc E) yX4_passHour cX4_passHour 6 3 72 [.ref (ec E (8 + j0)), .ref (ec E (14 + 6 * j0 + i1)), .int a2] M res :=
  ctV_of (Wf := Wc) (av := fun E => [.ref (ec E (8 + j0)), .ref (ec E (14 + 6 * j0 + i1)), .int a2]) (lv := fun E => [(0, .ref (ec E (8 + j0))), (1, .ref (ec E (14 + 6 * j0 + i1))), (2, .int a2)]) (by decide) (fun _ => rfl) (fun _ => (Nat.le_of_ble_eq_true rfl)) (fun X F hx Rt => by
    have F : Fx X cX4_passHour RX4 3 72 := F
    unfold mX4_passHour at h
    refine g_aload_n (pc := 0) (x := ec (xE X) (14 + 6 * j0 + i1)) F dX4_passHour_0 rfl 1 rfl ?_
    refine g_get (pc := 1) (v := .ref (ec (xE X) (2 + (M.1 j0 (6 + 7 * i1 + 0)).toNatClampNeg))) F fX4_89 (14 + 6 * j0 + i1) (wc_V _ _ hj0 hi1) rfl dX4_passHour_1 ?_
    refine g_astore_n (pc := 4) (lv2 := [(0, .ref (ec (xE X) (8 + j0))), (1, .ref (ec (xE X) (14 + 6 * j0 + i1))), (2, .int a2), (3, .ref (ec (xE X) (2 + (M.1 j0 (6 + 7 * i1 + 0)).toNatClampNeg)))]) F dX4_passHour_4 rfl (by rw [hx]; decide) [1, 2, 3, 0] rfl ?_
    refine g_aload_n (pc := 5) (x := ec (xE X) (8 + j0)) F dX4_passHour_5 rfl 0 rfl ?_
    refine g_aload_n (pc := 6) (x := ec (xE X) (14 + 6 * j0 + i1)) F dX4_passHour_6 rfl 1 rfl ?_
    obtain ⟨r1, e2, h⟩ := bd_some h
    refine g_vI (pc := 7) (Wf := Wc) (As := [.ref (ec (xE X) (14 + 6 * j0 + i1))]) (rest := []) F (hX4_distanceOf hj0 hi1 e2 (xl X) (xE X)) kX4_distanceOf lX4_82 (8 + j0) rfl (wc_S _ _ hj0) rfl rfl rfl ⟨(Nat.le_of_ble_eq_true rfl), (Nat.le_of_ble_eq_true rfl)⟩ (Nat.le_of_ble_eq_true rfl) dX4_passHour_7 ?_
    refine g_istore (pc := 10) (lv2 := [(0, .ref (ec (xE X) (8 + j0))), (1, .ref (ec (xE X) (14 + 6 * j0 + i1))), (2, .int a2), (3, .ref (ec (xE X) (2 + (M.1 j0 (6 + 7 * i1 + 0)).toNatClampNeg))), (4, .int r1)]) F dX4_passHour_10 (by rw [hx]; decide) [1, 2, 3, 4, 0] rfl ?_
    refine g_iload_n (pc := 12) (x := a2) F dX4_passHour_12 rfl 2 rfl ?_
    obtain ⟨r3, e4, h⟩ := bd_some h
    refine g_sI (pc := 13) (Wf := Wc) (As := [.int a2]) (rest := []) F (hX4_isNightAt (M := M) e4 (xl X) (xE X)) kX4_isNightAt lX4_59 rfl rfl ⟨(Nat.le_of_ble_eq_true rfl), (Nat.le_of_ble_eq_true rfl)⟩ (Nat.le_of_ble_eq_true rfl) dX4_passHour_13 ?_
    refine g_istore (pc := 16) (lv2 := [(0, .ref (ec (xE X) (8 + j0))), (1, .ref (ec (xE X) (14 + 6 * j0 + i1))), (2, .int a2), (3, .ref (ec (xE X) (2 + (M.1 j0 (6 + 7 * i1 + 0)).toNatClampNeg))), (4, .int r1), (5, .int r3)]) F dX4_passHour_16 (by rw [hx]; decide) [1, 2, 3, 4, 5, 0] rfl ?_
    refine g_aload_n (pc := 18) (x := ec (xE X) (8 + j0)) F dX4_passHour_18 rfl 0 rfl ?_
    refine g_get (pc := 19) (v := .int (M.1 j0 1)) F fX4_15 (8 + j0) (wc_S _ _ hj0) rfl dX4_passHour_19 ?_
    refine g_aload_n (pc := 22) (x := ec (xE X) (14 + 6 * j0 + i1)) F dX4_passHour_22 rfl 1 rfl ?_
    refine g_get (pc := 23) (v := .int (M.1 j0 (6 + 7 * i1 + 1))) F fX4_66 (14 + 6 * j0 + i1) (wc_V _ _ hj0 hi1) rfl dX4_passHour_23 ?_
    refine g_icmp_lt (pc := 26) (tgt := 80) F dX4_passHour_26 (by decide) (fun c5 => ?_) (fun c5 => ?_)
    · have h := ite_t c5 h
      refine g_aload_n (pc := 80) (x := ec (xE X) (8 + j0)) F dX4_passHour_80 rfl 0 rfl ?_
      refine g_aload_n (pc := 81) (x := ec (xE X) (14 + 6 * j0 + i1)) F dX4_passHour_81 rfl 1 rfl ?_
      refine g_aload_n (pc := 82) (x := ec (xE X) (2 + (M.1 j0 (6 + 7 * i1 + 0)).toNatClampNeg)) F dX4_passHour_82 rfl 3 rfl ?_
      refine g_iload_n (pc := 83) (x := a2) F dX4_passHour_83 rfl 2 rfl ?_
      refine g_iload (pc := 84) (x := r3) F dX4_passHour_84 5 rfl ?_
      obtain ⟨r6, e7, h⟩ := bd_some h
      refine gd_speed (pc := 86) (rest := [.ref (ec (xE X) (14 + 6 * j0 + i1)), .ref (ec (xE X) (8 + j0))]) F e7 lX4_106 rfl ⟨(Nat.le_of_ble_eq_true rfl), (Nat.le_of_ble_eq_true rfl)⟩ (Nat.le_of_ble_eq_true rfl) dX4_passHour_86 ?_
      obtain ⟨M8, e9, h⟩ := bd_some h
      refine g_vV (pc := 89) (Wf := Wc) (As := [.ref (ec (xE X) (14 + 6 * j0 + i1)), .int r6]) (rest := []) F (hX4_advance hj0 hi1 e9 (xl X) (xE X)) kX4_advance lX4_133 (8 + j0) rfl (wc_S _ _ hj0) rfl rfl rfl ⟨(Nat.le_of_ble_eq_true rfl), (Nat.le_of_ble_eq_true rfl)⟩ (Nat.le_of_ble_eq_true rfl) dX4_passHour_89 ?_
      obtain rfl := Option.some.inj h
      exact g_vret (pc := 92) (Wf := Wc) F Rt dX4_passHour_92
    · have h := ite_f c5 h
      refine g_aload_n (pc := 29) (x := ec (xE X) (2 + (M.1 j0 (6 + 7 * i1 + 0)).toNatClampNeg)) F dX4_passHour_29 rfl 3 rfl ?_
      refine g_iload (pc := 30) (x := r1) F dX4_passHour_30 4 rfl ?_
      refine g_iload (pc := 32) (x := r3) F dX4_passHour_32 5 rfl ?_
      refine g_aload_n (pc := 34) (x := ec (xE X) (8 + j0)) F dX4_passHour_34 rfl 0 rfl ?_
      refine g_iload_n (pc := 35) (x := a2) F dX4_passHour_35 rfl 2 rfl ?_
      obtain ⟨r10, e11, h⟩ := bd_some h
      refine g_vI (pc := 36) (Wf := Wc) (As := [.int a2]) (rest := [.int r3, .int r1, .ref (ec (xE X) (2 + (M.1 j0 (6 + 7 * i1 + 0)).toNatClampNeg))]) F (hX4_burnsAt hj0 e11 (xl X) (xE X)) kX4_burnsAt lX4_63 (8 + j0) rfl (wc_S _ _ hj0) rfl rfl rfl ⟨(Nat.le_of_ble_eq_true rfl), (Nat.le_of_ble_eq_true rfl)⟩ (Nat.le_of_ble_eq_true rfl) dX4_passHour_36 ?_
      refine g_aload_n (pc := 39) (x := ec (xE X) (8 + j0)) F dX4_passHour_39 rfl 0 rfl ?_
      refine g_get (pc := 40) (v := .int (M.1 j0 4)) F fX4_24 (8 + j0) (wc_S _ _ hj0) rfl dX4_passHour_40 ?_
      obtain ⟨r12, e13, h⟩ := bd_some h
      refine gd_sees (pc := 43) (rest := []) F e13 lX4_96 rfl ⟨(Nat.le_of_ble_eq_true rfl), (Nat.le_of_ble_eq_true rfl)⟩ (Nat.le_of_ble_eq_true rfl) dX4_passHour_43 ?_
      refine g_if_eq (pc := 46) (tgt := 80) F dX4_passHour_46 (by decide) (fun c14 => ?_) (fun c14 => ?_)
      · have h := ite_t c14 h
        refine g_aload_n (pc := 80) (x := ec (xE X) (8 + j0)) F dX4_passHour_80 rfl 0 rfl ?_
        refine g_aload_n (pc := 81) (x := ec (xE X) (14 + 6 * j0 + i1)) F dX4_passHour_81 rfl 1 rfl ?_
        refine g_aload_n (pc := 82) (x := ec (xE X) (2 + (M.1 j0 (6 + 7 * i1 + 0)).toNatClampNeg)) F dX4_passHour_82 rfl 3 rfl ?_
        refine g_iload_n (pc := 83) (x := a2) F dX4_passHour_83 rfl 2 rfl ?_
        refine g_iload (pc := 84) (x := r3) F dX4_passHour_84 5 rfl ?_
        obtain ⟨r15, e16, h⟩ := bd_some h
        refine gd_speed (pc := 86) (rest := [.ref (ec (xE X) (14 + 6 * j0 + i1)), .ref (ec (xE X) (8 + j0))]) F e16 lX4_106 rfl ⟨(Nat.le_of_ble_eq_true rfl), (Nat.le_of_ble_eq_true rfl)⟩ (Nat.le_of_ble_eq_true rfl) dX4_passHour_86 ?_
        obtain ⟨M17, e18, h⟩ := bd_some h
        refine g_vV (pc := 89) (Wf := Wc) (As := [.ref (ec (xE X) (14 + 6 * j0 + i1)), .int r15]) (rest := []) F (hX4_advance hj0 hi1 e18 (xl X) (xE X)) kX4_advance lX4_133 (8 + j0) rfl (wc_S _ _ hj0) rfl rfl rfl ⟨(Nat.le_of_ble_eq_true rfl), (Nat.le_of_ble_eq_true rfl)⟩ (Nat.le_of_ble_eq_true rfl) dX4_passHour_89 ?_
        obtain rfl := Option.some.inj h
        exact g_vret (pc := 92) (Wf := Wc) F Rt dX4_passHour_92
      · have h := ite_f c14 h
        refine g_aload_n (pc := 49) (x := ec (xE X) (2 + (M.1 j0 (6 + 7 * i1 + 0)).toNatClampNeg)) F dX4_passHour_49 rfl 3 rfl ?_
        refine g_iload (pc := 50) (x := r1) F dX4_passHour_50 4 rfl ?_
        refine g_iload (pc := 52) (x := r3) F dX4_passHour_52 5 rfl ?_
        refine g_aload_n (pc := 54) (x := ec (xE X) (14 + 6 * j0 + i1)) F dX4_passHour_54 rfl 1 rfl ?_
        refine g_get (pc := 55) (v := .int (M.1 j0 (6 + 7 * i1 + 3))) F fX4_113 (14 + 6 * j0 + i1) (wc_V _ _ hj0 hi1) rfl dX4_passHour_55 ?_
        obtain ⟨r19, e20, h⟩ := bd_some h
        refine gd_stands (pc := 58) (rest := []) F e20 lX4_116 rfl ⟨(Nat.le_of_ble_eq_true rfl), (Nat.le_of_ble_eq_true rfl)⟩ (Nat.le_of_ble_eq_true rfl) dX4_passHour_58 ?_
        refine g_if_eq (pc := 61) (tgt := 69) F dX4_passHour_61 (by decide) (fun c21 => ?_) (fun c21 => ?_)
        · have h := ite_t c21 h
          refine g_aload_n (pc := 69) (x := ec (xE X) (8 + j0)) F dX4_passHour_69 rfl 0 rfl ?_
          refine g_aload_n (pc := 70) (x := ec (xE X) (14 + 6 * j0 + i1)) F dX4_passHour_70 rfl 1 rfl ?_
          refine g_aload_n (pc := 71) (x := ec (xE X) (2 + (M.1 j0 (6 + 7 * i1 + 0)).toNatClampNeg)) F dX4_passHour_71 rfl 3 rfl ?_
          refine g_iload (pc := 72) (x := r1) F dX4_passHour_72 4 rfl ?_
          obtain ⟨r22, e23, h⟩ := bd_some h
          refine gd_keepsOff (pc := 74) (rest := [.ref (ec (xE X) (14 + 6 * j0 + i1)), .ref (ec (xE X) (8 + j0))]) F e23 lX4_110 rfl ⟨(Nat.le_of_ble_eq_true rfl), (Nat.le_of_ble_eq_true rfl)⟩ (Nat.le_of_ble_eq_true rfl) dX4_passHour_74 ?_
          obtain ⟨M24, e25, h⟩ := bd_some h
          refine g_vV (pc := 77) (Wf := Wc) (As := [.ref (ec (xE X) (14 + 6 * j0 + i1)), .int r22]) (rest := []) F (hX4_turnAway hj0 hi1 e25 (xl X) (xE X)) kX4_turnAway lX4_130 (8 + j0) rfl (wc_S _ _ hj0) rfl rfl rfl ⟨(Nat.le_of_ble_eq_true rfl), (Nat.le_of_ble_eq_true rfl)⟩ (Nat.le_of_ble_eq_true rfl) dX4_passHour_77 ?_
          refine g_aload_n (pc := 80) (x := ec (xE X) (8 + j0)) F dX4_passHour_80 rfl 0 rfl ?_
          refine g_aload_n (pc := 81) (x := ec (xE X) (14 + 6 * j0 + i1)) F dX4_passHour_81 rfl 1 rfl ?_
          refine g_aload_n (pc := 82) (x := ec (xE X) (2 + (M.1 j0 (6 + 7 * i1 + 0)).toNatClampNeg)) F dX4_passHour_82 rfl 3 rfl ?_
          refine g_iload_n (pc := 83) (x := a2) F dX4_passHour_83 rfl 2 rfl ?_
          refine g_iload (pc := 84) (x := r3) F dX4_passHour_84 5 rfl ?_
          obtain ⟨r26, e27, h⟩ := bd_some h
          refine gd_speed (pc := 86) (rest := [.ref (ec (xE X) (14 + 6 * j0 + i1)), .ref (ec (xE X) (8 + j0))]) F e27 lX4_106 rfl ⟨(Nat.le_of_ble_eq_true rfl), (Nat.le_of_ble_eq_true rfl)⟩ (Nat.le_of_ble_eq_true rfl) dX4_passHour_86 ?_
          obtain ⟨M28, e29, h⟩ := bd_some h
          refine g_vV (pc := 89) (Wf := Wc) (As := [.ref (ec (xE X) (14 + 6 * j0 + i1)), .int r26]) (rest := []) F (hX4_advance hj0 hi1 e29 (xl X) (xE X)) kX4_advance lX4_133 (8 + j0) rfl (wc_S _ _ hj0) rfl rfl rfl ⟨(Nat.le_of_ble_eq_true rfl), (Nat.le_of_ble_eq_true rfl)⟩ (Nat.le_of_ble_eq_true rfl) dX4_passHour_89 ?_
          obtain rfl := Option.some.inj h
          exact g_vret (pc := 92) (Wf := Wc) F Rt dX4_passHour_92
        · have h := ite_f c21 h
          refine g_aload_n (pc := 64) (x := ec (xE X) (14 + 6 * j0 + i1)) F dX4_passHour_64 rfl 1 rfl ?_
          obtain ⟨M30, e31, h⟩ := bd_some h
          refine g_vV (pc := 65) (Wf := Wc) (As := []) (rest := []) F (hX10_pay hj0 hi1 e31 (xl X) (xE X)) kX10_pay lX4_127 (14 + 6 * j0 + i1) rfl (wc_V _ _ hj0 hi1) rfl rfl rfl ⟨(Nat.le_of_ble_eq_true rfl), (Nat.le_of_ble_eq_true rfl)⟩ (Nat.le_of_ble_eq_true rfl) dX4_passHour_65 ?_
          obtain rfl := Option.some.inj h
          exact g_vret (pc := 68) (Wf := Wc) F Rt dX4_passHour_68) l E
set_option maxHeartbeats 4000000 in
set_option maxRecDepth 100000 in
theorem wX4_pass_b26 {X : Cx} (F : Fx X cX4_pass RX4 4 97) (hx : xn X = 5) {N : Nat} {j0 : Nat} (hj0 : j0 < 3) {res : Mem} (Rt : RV X Wc res) {K2 : Mem → Int32 → Int32 → Option Mem} (hK2 : ∀ (M : Mem) (a1 : Int32) (a2 : Int32), K2 M a1 a2 = some res → G X (Wc (xE X) M) 2 [(0, .ref (ec (xE X) (8 + j0))), (1, .int a1), (2, .int a2)] []) : ∀ (n : Nat) (M : Mem) (a1 : Int32) (a2 : Int32) (i3 : Nat) (hi3 : i3 < 6) (a4 : Int32), mX4_pass_b26 N j0 K2 n M a1 a2 i3 a4 = some res → G X (Wc (xE X) M) 26 [(0, .ref (ec (xE X) (8 + j0))), (1, .int a1), (2, .int a2), (3, .ref (ec (xE X) (14 + 6 * j0 + i3))), (4, .int a4)] [] := by
  intro n
  induction n with
  | zero =>
    intro M a1 a2 i3 hi3 a4 h
    have h : none = some res := h
    cases h
  | succ n ih =>
    intro M a1 a2 i3 hi3 a4 h
    rw [mX4_pass_b26] at h
    refine g_iload (pc := 26) (x := a4) F dX4_pass_26 4 rfl ?_
    refine g_iload_n (pc := 28) (x := a1) F dX4_pass_28 rfl 1 rfl ?_
    refine g_icmp_ge (pc := 29) (tgt := 60) F dX4_pass_29 (by decide) (fun c4 => ?_) (fun c4 => ?_)
    · have h := ite_t c4 h
      refine g_iinc (pc := 60) (lv2 := [(0, .ref (ec (xE X) (8 + j0))), (1, .int a1), (2, .int (a2 + (1 : Int32))), (3, .ref (ec (xE X) (14 + 6 * j0 + i3))), (4, .int a4)]) F dX4_pass_60 2 rfl (ii_1 _) (by rw [hx]; decide) [1, 2, 0, 3, 4] rfl ?_
      refine g_goto (pc := 63) (tgt := 2) F dX4_pass_63 (by decide) ?_
      refine g_sub [0, 1, 2] rfl ?_
      exact hK2 M a1 (a2 + (1 : Int32)) h
    · have h := ite_f c4 h
      refine g_aload_n (pc := 32) (x := ec (xE X) (14 + 6 * j0 + i3)) F dX4_pass_32 rfl 3 rfl ?_
      obtain ⟨r5, e6, h⟩ := bd_some h
      refine g_vI (pc := 33) (Wf := Wc) (As := []) (rest := []) F (hX10_isUnderWay hj0 hi3 e6 (xl X) (xE X)) kX10_isUnderWay lX4_120 (14 + 6 * j0 + i3) rfl (wc_V _ _ hj0 hi3) rfl rfl rfl ⟨(Nat.le_of_ble_eq_true rfl), (Nat.le_of_ble_eq_true rfl)⟩ (Nat.le_of_ble_eq_true rfl) dX4_pass_33 ?_
      refine g_if_eq (pc := 36) (tgt := 60) F dX4_pass_36 (by decide) (fun c7 => ?_) (fun c7 => ?_)
      · have h := ite_t c7 h
        refine g_iinc (pc := 60) (lv2 := [(0, .ref (ec (xE X) (8 + j0))), (1, .int a1), (2, .int (a2 + (1 : Int32))), (3, .ref (ec (xE X) (14 + 6 * j0 + i3))), (4, .int a4)]) F dX4_pass_60 2 rfl (ii_1 _) (by rw [hx]; decide) [1, 2, 0, 3, 4] rfl ?_
        refine g_goto (pc := 63) (tgt := 2) F dX4_pass_63 (by decide) ?_
        refine g_sub [0, 1, 2] rfl ?_
        exact hK2 M a1 (a2 + (1 : Int32)) h
      · have h := ite_f c7 h
        refine g_aload_n (pc := 39) (x := ec (xE X) (8 + j0)) F dX4_pass_39 rfl 0 rfl ?_
        refine g_aload_n (pc := 40) (x := ec (xE X) (14 + 6 * j0 + i3)) F dX4_pass_40 rfl 3 rfl ?_
        refine g_aload_n (pc := 41) (x := ec (xE X) (8 + j0)) F dX4_pass_41 rfl 0 rfl ?_
        refine g_get (pc := 42) (v := .int (M.1 j0 0)) F fX4_9 (8 + j0) (wc_S _ _ hj0) rfl dX4_pass_42 ?_
        refine g_iload (pc := 45) (x := a4) F dX4_pass_45 4 rfl ?_
        refine g_iadd (pc := 47) F dX4_pass_47 ?_
        refine g_bipush (pc := 48) F dX4_pass_48 bp_12 ?_
        refine g_irem (pc := 50) F dX4_pass_50 (by decide) ?_
        obtain ⟨M8, e9, h⟩ := bd_some h
        refine g_vV (pc := 51) (Wf := Wc) (As := [.ref (ec (xE X) (14 + 6 * j0 + i3)), .int (((M.1 j0 0) + a4) - ((M.1 j0 0) + a4) / (12 : Int32) * (12 : Int32))]) (rest := []) F (hX4_passHour hj0 hi3 e9 (xl X) (xE X)) kX4_passHour lX4_123 (8 + j0) rfl (wc_S _ _ hj0) rfl rfl rfl ⟨(Nat.le_of_ble_eq_true rfl), (Nat.le_of_ble_eq_true rfl)⟩ (Nat.le_of_ble_eq_true rfl) dX4_pass_51 ?_
        refine g_iinc (pc := 54) (lv2 := [(0, .ref (ec (xE X) (8 + j0))), (1, .int a1), (2, .int a2), (3, .ref (ec (xE X) (14 + 6 * j0 + i3))), (4, .int (a4 + (1 : Int32)))]) F dX4_pass_54 4 rfl (ii_1 _) (by rw [hx]; decide) [1, 2, 3, 4, 0] rfl ?_
        refine g_goto (pc := 57) (tgt := 26) F dX4_pass_57 (by decide) ?_
        refine g_sub [0, 1, 2, 3, 4] rfl ?_
        exact ih M8 a1 a2 i3 hi3 (a4 + (1 : Int32)) h
set_option maxHeartbeats 4000000 in
set_option maxRecDepth 100000 in
theorem wX4_pass_b2 {X : Cx} (F : Fx X cX4_pass RX4 4 97) (hx : xn X = 5) {N : Nat} {j0 : Nat} (hj0 : j0 < 3) {res : Mem} (Rt : RV X Wc res) : ∀ (n : Nat) (M : Mem) (a1 : Int32) (a2 : Int32), mX4_pass_b2 N j0 n M a1 a2 = some res → G X (Wc (xE X) M) 2 [(0, .ref (ec (xE X) (8 + j0))), (1, .int a1), (2, .int a2)] [] := by
  intro n
  induction n with
  | zero =>
    intro M a1 a2 h
    have h : none = some res := h
    cases h
  | succ n ih =>
    intro M a1 a2 h
    rw [mX4_pass_b2] at h
    refine g_iload_n (pc := 2) (x := a2) F dX4_pass_2 rfl 2 rfl ?_
    refine g_aload_n (pc := 3) (x := ec (xE X) (8 + j0)) F dX4_pass_3 rfl 0 rfl ?_
    refine g_get (pc := 4) (v := .int (M.1 j0 5)) F fX4_27 (8 + j0) (wc_S _ _ hj0) rfl dX4_pass_4 ?_
    refine g_icmp_ge (pc := 7) (tgt := 66) F dX4_pass_7 (by decide) (fun c1 => ?_) (fun c1 => ?_)
    · have h := ite_t c1 h
      refine g_aload_n (pc := 66) (x := ec (xE X) (8 + j0)) F dX4_pass_66 rfl 0 rfl ?_
      refine g_dup (pc := 67) F dX4_pass_67 rfl ?_
      refine g_get (pc := 68) (v := .int (M.1 j0 0)) F fX4_9 (8 + j0) (wc_S _ _ hj0) rfl dX4_pass_68 ?_
      refine g_iload_n (pc := 71) (x := a1) F dX4_pass_71 rfl 1 rfl ?_
      refine g_iadd (pc := 72) F dX4_pass_72 ?_
      refine g_put (pc := 73) (ws2 := Wc (xE X) (sI M j0 0 ((M.1 j0 0) + a1))) F pX4_9 (8 + j0) (wc_S _ _ hj0) rfl rfl (Nat.le_of_ble_eq_true rfl) (wcp_S0 _ _ hj0 _) dX4_pass_73 ?_
      obtain rfl := Option.some.inj h
      exact g_vret (pc := 76) (Wf := Wc) F Rt dX4_pass_76
    · have h := ite_f c1 h
      refine g_iload_n (pc := 10) (x := a2) F dX4_pass_10 rfl 2 rfl ?_
      refine g_bipush (pc := 11) F dX4_pass_11 bp_6 ?_
      refine g_icmp_ge (pc := 13) (tgt := 66) F dX4_pass_13 (by decide) (fun c2 => ?_) (fun c2 => ?_)
      · have h := ite_t c2 h
        refine g_aload_n (pc := 66) (x := ec (xE X) (8 + j0)) F dX4_pass_66 rfl 0 rfl ?_
        refine g_dup (pc := 67) F dX4_pass_67 rfl ?_
        refine g_get (pc := 68) (v := .int (M.1 j0 0)) F fX4_9 (8 + j0) (wc_S _ _ hj0) rfl dX4_pass_68 ?_
        refine g_iload_n (pc := 71) (x := a1) F dX4_pass_71 rfl 1 rfl ?_
        refine g_iadd (pc := 72) F dX4_pass_72 ?_
        refine g_put (pc := 73) (ws2 := Wc (xE X) (sI M j0 0 ((M.1 j0 0) + a1))) F pX4_9 (8 + j0) (wc_S _ _ hj0) rfl rfl (Nat.le_of_ble_eq_true rfl) (wcp_S0 _ _ hj0 _) dX4_pass_73 ?_
        obtain rfl := Option.some.inj h
        exact g_vret (pc := 76) (Wf := Wc) F Rt dX4_pass_76
      · have h := ite_f c2 h
        refine g_aload_n (pc := 16) (x := ec (xE X) (8 + j0)) F dX4_pass_16 rfl 0 rfl ?_
        refine g_get (pc := 17) (v := .ref (ec (xE X) (11 + j0))) F fX4_32 (8 + j0) (wc_S _ _ hj0) rfl dX4_pass_17 ?_
        refine g_iload_n (pc := 20) (x := a2) F dX4_pass_20 rfl 2 rfl ?_
        obtain ⟨i3, h⟩ := ck_some h
        refine g_aald (pc := 21) (C := "TowerWarns$Vessel") (b := ec (xE X) (14 + 6 * j0 + a2.toNatClampNeg)) F (11 + j0) 3 (wc_A _ _ hj0) rfl i3 rfl dX4_pass_21 ?_
        refine g_astore_n (pc := 22) (lv2 := [(0, .ref (ec (xE X) (8 + j0))), (1, .int a1), (2, .int a2), (3, .ref (ec (xE X) (14 + 6 * j0 + a2.toNatClampNeg)))]) F dX4_pass_22 rfl (by rw [hx]; decide) [1, 2, 3, 0] rfl ?_
        refine g_iconst (pc := 23) F dX4_pass_23 ic_0 ?_
        refine g_istore (pc := 24) (lv2 := [(0, .ref (ec (xE X) (8 + j0))), (1, .int a1), (2, .int a2), (3, .ref (ec (xE X) (14 + 6 * j0 + a2.toNatClampNeg))), (4, .int (0 : Int32))]) F dX4_pass_24 (by rw [hx]; decide) [1, 2, 3, 4, 0] rfl ?_
        refine g_sub [0, 1, 2, 3, 4] rfl ?_
        exact wX4_pass_b26 F hx hj0 Rt ih N M a1 a2 a2.toNatClampNeg (ok_lt i3) (0 : Int32) h
set_option maxHeartbeats 4000000 in
set_option maxRecDepth 100000 in
theorem hX4_pass {N : Nat} {M : Mem} {a1 : Int32} {j0 : Nat} (hj0 : j0 < 3) {res : Mem} (h : mX4_pass N j0 M a1 = some res) (l : Launch) (E : Ev) : CtV l E (Wc E) yX4_pass cX4_pass 5 4 97 [.ref (ec E (8 + j0)), .int a1] M res :=
  ctV_of (Wf := Wc) (av := fun E => [.ref (ec E (8 + j0)), .int a1]) (lv := fun E => [(0, .ref (ec E (8 + j0))), (1, .int a1)]) (by decide) (fun _ => rfl) (fun _ => (Nat.le_of_ble_eq_true rfl)) (fun X F hx Rt => by
    have F : Fx X cX4_pass RX4 4 97 := F
    unfold mX4_pass at h
    refine g_iconst (pc := 0) F dX4_pass_0 ic_0 ?_
    refine g_istore_n (pc := 1) (lv2 := [(0, .ref (ec (xE X) (8 + j0))), (1, .int a1), (2, .int (0 : Int32))]) F dX4_pass_1 rfl (by rw [hx]; decide) [1, 2, 0] rfl ?_
    refine g_sub [0, 1, 2] rfl ?_
    exact wX4_pass_b2 F hx hj0 Rt N M a1 (0 : Int32) h) l E
set_option maxHeartbeats 4000000 in
set_option maxRecDepth 100000 in
theorem wX4_lostOnes_b4 {X : Cx} (F : Fx X cX4_lostOnes RX4 1 20) (hx : xn X = 3) {N : Nat} {M : Mem} {j0 : Nat} (hj0 : j0 < 3) {res : Int32} (Rt : RI X Wc .int res M) : ∀ (n : Nat) (a1 : Int32) (a2 : Int32), mX4_lostOnes_b4 N j0 M n a1 a2 = some res → G X (Wc (xE X) M) 4 [(0, .ref (ec (xE X) (8 + j0))), (1, .int a1), (2, .int a2)] [] := by
  intro n
  induction n with
  | zero =>
    intro a1 a2 h
    have h : none = some res := h
    cases h
  | succ n ih =>
    intro a1 a2 h
    rw [mX4_lostOnes_b4] at h
    refine g_iload_n (pc := 4) (x := a2) F dX4_lostOnes_4 rfl 2 rfl ?_
    refine g_aload_n (pc := 5) (x := ec (xE X) (8 + j0)) F dX4_lostOnes_5 rfl 0 rfl ?_
    refine g_get (pc := 6) (v := .int (M.1 j0 5)) F fX4_27 (8 + j0) (wc_S _ _ hj0) rfl dX4_lostOnes_6 ?_
    refine g_icmp_ge (pc := 9) (tgt := 41) F dX4_lostOnes_9 (by decide) (fun c1 => ?_) (fun c1 => ?_)
    · have h := ite_t c1 h
      refine g_iload_n (pc := 41) (x := a1) F dX4_lostOnes_41 rfl 1 rfl ?_
      obtain rfl := Option.some.inj h
      exact g_iret (pc := 42) (Wf := Wc) F Rt rfl dX4_lostOnes_42
    · have h := ite_f c1 h
      refine g_iload_n (pc := 12) (x := a2) F dX4_lostOnes_12 rfl 2 rfl ?_
      refine g_bipush (pc := 13) F dX4_lostOnes_13 bp_6 ?_
      refine g_icmp_ge (pc := 15) (tgt := 41) F dX4_lostOnes_15 (by decide) (fun c2 => ?_) (fun c2 => ?_)
      · have h := ite_t c2 h
        refine g_iload_n (pc := 41) (x := a1) F dX4_lostOnes_41 rfl 1 rfl ?_
        obtain rfl := Option.some.inj h
        exact g_iret (pc := 42) (Wf := Wc) F Rt rfl dX4_lostOnes_42
      · have h := ite_f c2 h
        refine g_iload_n (pc := 18) (x := a1) F dX4_lostOnes_18 rfl 1 rfl ?_
        refine g_aload_n (pc := 19) (x := ec (xE X) (8 + j0)) F dX4_lostOnes_19 rfl 0 rfl ?_
        refine g_get (pc := 20) (v := .ref (ec (xE X) (11 + j0))) F fX4_32 (8 + j0) (wc_S _ _ hj0) rfl dX4_lostOnes_20 ?_
        refine g_iload_n (pc := 23) (x := a2) F dX4_lostOnes_23 rfl 2 rfl ?_
        obtain ⟨i3, h⟩ := ck_some h
        refine g_aald (pc := 24) (C := "TowerWarns$Vessel") (b := ec (xE X) (14 + 6 * j0 + a2.toNatClampNeg)) F (11 + j0) 3 (wc_A _ _ hj0) rfl i3 rfl dX4_lostOnes_24 ?_
        refine g_get (pc := 25) (v := .int (M.1 j0 (6 + 7 * a2.toNatClampNeg + 5))) F fX4_146 (14 + 6 * j0 + a2.toNatClampNeg) (wc_V _ _ hj0 (ok_lt i3)) rfl dX4_lostOnes_25 ?_
        obtain ⟨r4, e5, h⟩ := bd_some h
        refine g_nI (pc := 28) (Wf := Wc) (As := [.int (M.1 j0 (6 + 7 * a2.toNatClampNeg + 5))]) (rest := [.int a1]) F (hX11_asNumber (M := M) e5 (xl X) (xE X)) kX11_asNumber F.2.2.2.2.2.2.2.2.1.1 rfl rfl ⟨(Nat.le_of_ble_eq_true rfl), (Nat.le_of_ble_eq_true rfl)⟩ (Nat.le_of_ble_eq_true rfl) dX4_lostOnes_28 ?_
        refine g_iload_n (pc := 31) (x := a2) F dX4_lostOnes_31 rfl 2 rfl ?_
        refine g_ishl (pc := 32) F dX4_lostOnes_32 ?_
        refine g_ior (pc := 33) F dX4_lostOnes_33 ?_
        refine g_istore_n (pc := 34) (lv2 := [(0, .ref (ec (xE X) (8 + j0))), (1, .int (a1 ||| (r4 <<< (a2 &&& 31)))), (2, .int a2)]) F dX4_lostOnes_34 rfl (by rw [hx]; decide) [1, 0, 2] rfl ?_
        refine g_iinc (pc := 35) (lv2 := [(0, .ref (ec (xE X) (8 + j0))), (1, .int (a1 ||| (r4 <<< (a2 &&& 31)))), (2, .int (a2 + (1 : Int32)))]) F dX4_lostOnes_35 2 rfl (ii_1 _) (by rw [hx]; decide) [1, 2, 0] rfl ?_
        refine g_goto (pc := 38) (tgt := 4) F dX4_lostOnes_38 (by decide) ?_
        refine g_sub [0, 1, 2] rfl ?_
        exact ih (a1 ||| (r4 <<< (a2 &&& 31))) (a2 + (1 : Int32)) h
set_option maxHeartbeats 4000000 in
set_option maxRecDepth 100000 in
theorem hX4_lostOnes {N : Nat} {M : Mem} {j0 : Nat} (hj0 : j0 < 3) {res : Int32} (h : mX4_lostOnes N j0 M = some res) (l : Launch) (E : Ev) : CtI l E (Wc E) yX4_lostOnes cX4_lostOnes 3 .int 1 20 [.ref (ec E (8 + j0))] M res M :=
  ctI_of (Wf := Wc) (av := fun E => [.ref (ec E (8 + j0))]) (lv := fun E => [(0, .ref (ec E (8 + j0)))]) (by decide) (fun _ => rfl) (fun _ => (Nat.le_of_ble_eq_true rfl)) (fun X F hx Rt => by
    have F : Fx X cX4_lostOnes RX4 1 20 := F
    unfold mX4_lostOnes at h
    refine g_iconst (pc := 0) F dX4_lostOnes_0 ic_0 ?_
    refine g_istore_n (pc := 1) (lv2 := [(0, .ref (ec (xE X) (8 + j0))), (1, .int (0 : Int32))]) F dX4_lostOnes_1 rfl (by rw [hx]; decide) [1, 0] rfl ?_
    refine g_iconst (pc := 2) F dX4_lostOnes_2 ic_0 ?_
    refine g_istore_n (pc := 3) (lv2 := [(0, .ref (ec (xE X) (8 + j0))), (1, .int (0 : Int32)), (2, .int (0 : Int32))]) F dX4_lostOnes_3 rfl (by rw [hx]; decide) [1, 2, 0] rfl ?_
    refine g_sub [0, 1, 2] rfl ?_
    exact wX4_lostOnes_b4 F hx hj0 Rt N (0 : Int32) (0 : Int32) h) l E
set_option maxHeartbeats 4000000 in
set_option maxRecDepth 100000 in
theorem wX4_onesBy_b4 {X : Cx} (F : Fx X cX4_onesBy RX4 1 20) (hx : xn X = 3) {N : Nat} {M : Mem} {j0 : Nat} (hj0 : j0 < 3) {res : Int32} (Rt : RI X Wc .int res M) : ∀ (n : Nat) (a1 : Int32) (a2 : Int32), mX4_onesBy_b4 N j0 M n a1 a2 = some res → G X (Wc (xE X) M) 4 [(0, .ref (ec (xE X) (8 + j0))), (1, .int a1), (2, .int a2)] [] := by
  intro n
  induction n with
  | zero =>
    intro a1 a2 h
    have h : none = some res := h
    cases h
  | succ n ih =>
    intro a1 a2 h
    rw [mX4_onesBy_b4] at h
    refine g_iload_n (pc := 4) (x := a2) F dX4_onesBy_4 rfl 2 rfl ?_
    refine g_aload_n (pc := 5) (x := ec (xE X) (8 + j0)) F dX4_onesBy_5 rfl 0 rfl ?_
    refine g_get (pc := 6) (v := .int (M.1 j0 5)) F fX4_27 (8 + j0) (wc_S _ _ hj0) rfl dX4_onesBy_6 ?_
    refine g_icmp_ge (pc := 9) (tgt := 41) F dX4_onesBy_9 (by decide) (fun c1 => ?_) (fun c1 => ?_)
    · have h := ite_t c1 h
      refine g_iload_n (pc := 41) (x := a1) F dX4_onesBy_41 rfl 1 rfl ?_
      obtain rfl := Option.some.inj h
      exact g_iret (pc := 42) (Wf := Wc) F Rt rfl dX4_onesBy_42
    · have h := ite_f c1 h
      refine g_iload_n (pc := 12) (x := a2) F dX4_onesBy_12 rfl 2 rfl ?_
      refine g_bipush (pc := 13) F dX4_onesBy_13 bp_6 ?_
      refine g_icmp_ge (pc := 15) (tgt := 41) F dX4_onesBy_15 (by decide) (fun c2 => ?_) (fun c2 => ?_)
      · have h := ite_t c2 h
        refine g_iload_n (pc := 41) (x := a1) F dX4_onesBy_41 rfl 1 rfl ?_
        obtain rfl := Option.some.inj h
        exact g_iret (pc := 42) (Wf := Wc) F Rt rfl dX4_onesBy_42
      · have h := ite_f c2 h
        refine g_iload_n (pc := 18) (x := a1) F dX4_onesBy_18 rfl 1 rfl ?_
        refine g_aload_n (pc := 19) (x := ec (xE X) (8 + j0)) F dX4_onesBy_19 rfl 0 rfl ?_
        refine g_get (pc := 20) (v := .ref (ec (xE X) (11 + j0))) F fX4_32 (8 + j0) (wc_S _ _ hj0) rfl dX4_onesBy_20 ?_
        refine g_iload_n (pc := 23) (x := a2) F dX4_onesBy_23 rfl 2 rfl ?_
        obtain ⟨i3, h⟩ := ck_some h
        refine g_aald (pc := 24) (C := "TowerWarns$Vessel") (b := ec (xE X) (14 + 6 * j0 + a2.toNatClampNeg)) F (11 + j0) 3 (wc_A _ _ hj0) rfl i3 rfl dX4_onesBy_24 ?_
        refine g_get (pc := 25) (v := .int (M.1 j0 (6 + 7 * a2.toNatClampNeg + 6))) F fX4_139 (14 + 6 * j0 + a2.toNatClampNeg) (wc_V _ _ hj0 (ok_lt i3)) rfl dX4_onesBy_25 ?_
        obtain ⟨r4, e5, h⟩ := bd_some h
        refine g_nI (pc := 28) (Wf := Wc) (As := [.int (M.1 j0 (6 + 7 * a2.toNatClampNeg + 6))]) (rest := [.int a1]) F (hX11_asNumber (M := M) e5 (xl X) (xE X)) kX11_asNumber F.2.2.2.2.2.2.2.2.1.1 rfl rfl ⟨(Nat.le_of_ble_eq_true rfl), (Nat.le_of_ble_eq_true rfl)⟩ (Nat.le_of_ble_eq_true rfl) dX4_onesBy_28 ?_
        refine g_iload_n (pc := 31) (x := a2) F dX4_onesBy_31 rfl 2 rfl ?_
        refine g_ishl (pc := 32) F dX4_onesBy_32 ?_
        refine g_ior (pc := 33) F dX4_onesBy_33 ?_
        refine g_istore_n (pc := 34) (lv2 := [(0, .ref (ec (xE X) (8 + j0))), (1, .int (a1 ||| (r4 <<< (a2 &&& 31)))), (2, .int a2)]) F dX4_onesBy_34 rfl (by rw [hx]; decide) [1, 0, 2] rfl ?_
        refine g_iinc (pc := 35) (lv2 := [(0, .ref (ec (xE X) (8 + j0))), (1, .int (a1 ||| (r4 <<< (a2 &&& 31)))), (2, .int (a2 + (1 : Int32)))]) F dX4_onesBy_35 2 rfl (ii_1 _) (by rw [hx]; decide) [1, 2, 0] rfl ?_
        refine g_goto (pc := 38) (tgt := 4) F dX4_onesBy_38 (by decide) ?_
        refine g_sub [0, 1, 2] rfl ?_
        exact ih (a1 ||| (r4 <<< (a2 &&& 31))) (a2 + (1 : Int32)) h
set_option maxHeartbeats 4000000 in
set_option maxRecDepth 100000 in
theorem hX4_onesBy {N : Nat} {M : Mem} {j0 : Nat} (hj0 : j0 < 3) {res : Int32} (h : mX4_onesBy N j0 M = some res) (l : Launch) (E : Ev) : CtI l E (Wc E) yX4_onesBy cX4_onesBy 3 .int 1 20 [.ref (ec E (8 + j0))] M res M :=
  ctI_of (Wf := Wc) (av := fun E => [.ref (ec E (8 + j0))]) (lv := fun E => [(0, .ref (ec E (8 + j0)))]) (by decide) (fun _ => rfl) (fun _ => (Nat.le_of_ble_eq_true rfl)) (fun X F hx Rt => by
    have F : Fx X cX4_onesBy RX4 1 20 := F
    unfold mX4_onesBy at h
    refine g_iconst (pc := 0) F dX4_onesBy_0 ic_0 ?_
    refine g_istore_n (pc := 1) (lv2 := [(0, .ref (ec (xE X) (8 + j0))), (1, .int (0 : Int32))]) F dX4_onesBy_1 rfl (by rw [hx]; decide) [1, 0] rfl ?_
    refine g_iconst (pc := 2) F dX4_onesBy_2 ic_0 ?_
    refine g_istore_n (pc := 3) (lv2 := [(0, .ref (ec (xE X) (8 + j0))), (1, .int (0 : Int32)), (2, .int (0 : Int32))]) F dX4_onesBy_3 rfl (by rw [hx]; decide) [1, 2, 0] rfl ?_
    refine g_sub [0, 1, 2] rfl ?_
    exact wX4_onesBy_b4 F hx hj0 Rt N (0 : Int32) (0 : Int32) h) l E
