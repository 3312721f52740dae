set_option maxHeartbeats 4000000 in
set_option maxRecDepth 100000 in
theorem wX4_costOfAll_b4 {X : Cx} (F : Fx X cX4_costOfAll RX4 0 0) (hx : xn X = 3) {N : Nat} {M : Mem} {j0 : Nat} (hj0 : j0 < 3) {res : Int32} (Rt : RI X Wc .int res M) : ∀ (n : Nat) (a1 : Int32) (a2 : Int32), mX4_costOfAll_b4 N j0 M n a1 a2 = some res → G X (Wc (xE X) M) 4 [(0, .ref (ec (xE X) (8 + j0))), (1, .int a1), (2, .int a2)] [] := by
  intro n
  induction n with
  | zero =>
    intro a1 a2 h
    have h : none = some res := h
    cases h
  | succ n ih =>
    intro a1 a2 h
    rw [mX4_costOfAll_b4] at h
    refine g_iload_n (pc := 4) (x := a2) F dX4_costOfAll_4 rfl 2 rfl ?_
    refine g_aload_n (pc := 5) (x := ec (xE X) (8 + j0)) F dX4_costOfAll_5 rfl 0 rfl ?_
    refine g_get (pc := 6) (v := .int (M.1 j0 5)) F fX4_27 (8 + j0) (wc_S _ _ hj0) rfl dX4_costOfAll_6 ?_
    refine g_icmp_ge (pc := 9) (tgt := 36) F dX4_costOfAll_9 (by decide) (fun c1 => ?_) (fun c1 => ?_)
    · have h := ite_t c1 h
      refine g_iload_n (pc := 36) (x := a1) F dX4_costOfAll_36 rfl 1 rfl ?_
      obtain rfl := Option.some.inj h
      exact g_iret (pc := 37) (Wf := Wc) F Rt rfl dX4_costOfAll_37
    · have h := ite_f c1 h
      refine g_iload_n (pc := 12) (x := a2) F dX4_costOfAll_12 rfl 2 rfl ?_
      refine g_bipush (pc := 13) F dX4_costOfAll_13 bp_6 ?_
      refine g_icmp_ge (pc := 15) (tgt := 36) F dX4_costOfAll_15 (by decide) (fun c2 => ?_) (fun c2 => ?_)
      · have h := ite_t c2 h
        refine g_iload_n (pc := 36) (x := a1) F dX4_costOfAll_36 rfl 1 rfl ?_
        obtain rfl := Option.some.inj h
        exact g_iret (pc := 37) (Wf := Wc) F Rt rfl dX4_costOfAll_37
      · have h := ite_f c2 h
        refine g_iload_n (pc := 18) (x := a1) F dX4_costOfAll_18 rfl 1 rfl ?_
        refine g_aload_n (pc := 19) (x := ec (xE X) (8 + j0)) F dX4_costOfAll_19 rfl 0 rfl ?_
        refine g_get (pc := 20) (v := .ref (ec (xE X) (11 + j0))) F fX4_32 (8 + j0) (wc_S _ _ hj0) rfl dX4_costOfAll_20 ?_
        refine g_iload_n (pc := 23) (x := a2) F dX4_costOfAll_23 rfl 2 rfl ?_
        obtain ⟨i3, h⟩ := ck_some h
        refine g_aald (pc := 24) (C := "TowerWarns$Vessel") (b := ec (xE X) (14 + 6 * j0 + a2.toNatClampNeg)) F (11 + j0) 3 (wc_A _ _ hj0) rfl i3 rfl dX4_costOfAll_24 ?_
        refine g_get (pc := 25) (v := .int (M.1 j0 (6 + 7 * a2.toNatClampNeg + 3))) F fX4_113 (14 + 6 * j0 + a2.toNatClampNeg) (wc_V _ _ hj0 (ok_lt i3)) rfl dX4_costOfAll_25 ?_
        refine g_iadd (pc := 28) F dX4_costOfAll_28 ?_
        refine g_istore_n (pc := 29) (lv2 := [(0, .ref (ec (xE X) (8 + j0))), (1, .int (a1 + (M.1 j0 (6 + 7 * a2.toNatClampNeg + 3)))), (2, .int a2)]) F dX4_costOfAll_29 rfl (by rw [hx]; decide) [1, 0, 2] rfl ?_
        refine g_iinc (pc := 30) (lv2 := [(0, .ref (ec (xE X) (8 + j0))), (1, .int (a1 + (M.1 j0 (6 + 7 * a2.toNatClampNeg + 3)))), (2, .int (a2 + (1 : Int32)))]) F dX4_costOfAll_30 2 rfl (ii_1 _) (by rw [hx]; decide) [1, 2, 0] rfl ?_
        refine g_goto (pc := 33) (tgt := 4) F dX4_costOfAll_33 (by decide) ?_
        refine g_sub [0, 1, 2] rfl ?_
        exact ih (a1 + (M.1 j0 (6 + 7 * a2.toNatClampNeg + 3))) (a2 + (1 : Int32)) h
set_option maxHeartbeats 4000000 in
set_option maxRecDepth 100000 in
theorem hX4_costOfAll {N : Nat} {M : Mem} {j0 : Nat} (hj0 : j0 < 3) {res : Int32} (h : mX4_costOfAll N j0 M = some res) (l : Launch) (E : Ev) : CtI l E (Wc E) yX4_costOfAll cX4_costOfAll 3 .int 0 0 [.ref (ec E (8 + j0))] M res M :=
  ctI_of (Wf := Wc) (av := fun E => [.ref (ec E (8 + j0))]) (lv := fun E => [(0, .ref (ec E (8 + j0)))]) (by decide) (fun _ => rfl) (fun _ => (Nat.le_of_ble_eq_true rfl)) (fun X F hx Rt => by
    have F : Fx X cX4_costOfAll RX4 0 0 := F
    unfold mX4_costOfAll at h
    refine g_iconst (pc := 0) F dX4_costOfAll_0 ic_0 ?_
    refine g_istore_n (pc := 1) (lv2 := [(0, .ref (ec (xE X) (8 + j0))), (1, .int (0 : Int32))]) F dX4_costOfAll_1 rfl (by rw [hx]; decide) [1, 0] rfl ?_
    refine g_iconst (pc := 2) F dX4_costOfAll_2 ic_0 ?_
    refine g_istore_n (pc := 3) (lv2 := [(0, .ref (ec (xE X) (8 + j0))), (1, .int (0 : Int32)), (2, .int (0 : Int32))]) F dX4_costOfAll_3 rfl (by rw [hx]; decide) [1, 2, 0] rfl ?_
    refine g_sub [0, 1, 2] rfl ?_
    exact wX4_costOfAll_b4 F hx hj0 Rt N (0 : Int32) (0 : Int32) h) l E
set_option maxHeartbeats 4000000 in
set_option maxRecDepth 100000 in
theorem wX4_nearestOne_b4 {X : Cx} (F : Fx X cX4_nearestOne RX4 0 0) (hx : xn X = 3) {N : Nat} {M : Mem} {j0 : Nat} (hj0 : j0 < 3) {res : Int32} (Rt : RI X Wc .int res M) : ∀ (n : Nat) (a1 : Int32) (a2 : Int32), mX4_nearestOne_b4 N j0 M n a1 a2 = some res → G X (Wc (xE X) M) 4 [(0, .ref (ec (xE X) (8 + j0))), (1, .int a1), (2, .int a2)] [] := by
  intro n
  induction n with
  | zero =>
    intro a1 a2 h
    have h : none = some res := h
    cases h
  | succ n ih =>
    intro a1 a2 h
    rw [mX4_nearestOne_b4] at h
    refine g_iload_n (pc := 4) (x := a2) F dX4_nearestOne_4 rfl 2 rfl ?_
    refine g_aload_n (pc := 5) (x := ec (xE X) (8 + j0)) F dX4_nearestOne_5 rfl 0 rfl ?_
    refine g_get (pc := 6) (v := .int (M.1 j0 5)) F fX4_27 (8 + j0) (wc_S _ _ hj0) rfl dX4_nearestOne_6 ?_
    refine g_icmp_ge (pc := 9) (tgt := 47) F dX4_nearestOne_9 (by decide) (fun c1 => ?_) (fun c1 => ?_)
    · have h := ite_t c1 h
      refine g_iload_n (pc := 47) (x := a1) F dX4_nearestOne_47 rfl 1 rfl ?_
      obtain rfl := Option.some.inj h
      exact g_iret (pc := 48) (Wf := Wc) F Rt rfl dX4_nearestOne_48
    · have h := ite_f c1 h
      refine g_iload_n (pc := 12) (x := a2) F dX4_nearestOne_12 rfl 2 rfl ?_
      refine g_bipush (pc := 13) F dX4_nearestOne_13 bp_6 ?_
      refine g_icmp_ge (pc := 15) (tgt := 47) F dX4_nearestOne_15 (by decide) (fun c2 => ?_) (fun c2 => ?_)
      · have h := ite_t c2 h
        refine g_iload_n (pc := 47) (x := a1) F dX4_nearestOne_47 rfl 1 rfl ?_
        obtain rfl := Option.some.inj h
        exact g_iret (pc := 48) (Wf := Wc) F Rt rfl dX4_nearestOne_48
      · have h := ite_f c2 h
        refine g_aload_n (pc := 18) (x := ec (xE X) (8 + j0)) F dX4_nearestOne_18 rfl 0 rfl ?_
        refine g_get (pc := 19) (v := .ref (ec (xE X) (11 + j0))) F fX4_32 (8 + j0) (wc_S _ _ hj0) rfl dX4_nearestOne_19 ?_
        refine g_iload_n (pc := 22) (x := a2) F dX4_nearestOne_22 rfl 2 rfl ?_
        obtain ⟨i3, h⟩ := ck_some h
        refine g_aald (pc := 23) (C := "TowerWarns$Vessel") (b := ec (xE X) (14 + 6 * j0 + a2.toNatClampNeg)) F (11 + j0) 3 (wc_A _ _ hj0) rfl i3 rfl dX4_nearestOne_23 ?_
        refine g_get (pc := 24) (v := .int (M.1 j0 (6 + 7 * a2.toNatClampNeg + 4))) F fX4_143 (14 + 6 * j0 + a2.toNatClampNeg) (wc_V _ _ hj0 (ok_lt i3)) rfl dX4_nearestOne_24 ?_
        refine g_aload_n (pc := 27) (x := ec (xE X) (8 + j0)) F dX4_nearestOne_27 rfl 0 rfl ?_
        refine g_get (pc := 28) (v := .ref (ec (xE X) (11 + j0))) F fX4_32 (8 + j0) (wc_S _ _ hj0) rfl dX4_nearestOne_28 ?_
        refine g_iload_n (pc := 31) (x := a1) F dX4_nearestOne_31 rfl 1 rfl ?_
        obtain ⟨i4, h⟩ := ck_some h
        refine g_aald (pc := 32) (C := "TowerWarns$Vessel") (b := ec (xE X) (14 + 6 * j0 + a1.toNatClampNeg)) F (11 + j0) 3 (wc_A _ _ hj0) rfl i4 rfl dX4_nearestOne_32 ?_
        refine g_get (pc := 33) (v := .int (M.1 j0 (6 + 7 * a1.toNatClampNeg + 4))) F fX4_143 (14 + 6 * j0 + a1.toNatClampNeg) (wc_V _ _ hj0 (ok_lt i4)) rfl dX4_nearestOne_33 ?_
        refine g_icmp_ge (pc := 36) (tgt := 41) F dX4_nearestOne_36 (by decide) (fun c5 => ?_) (fun c5 => ?_)
        · have h := ite_t c5 h
          refine g_iinc (pc := 41) (lv2 := [(0, .ref (ec (xE X) (8 + j0))), (1, .int a1), (2, .int (a2 + (1 : Int32)))]) F dX4_nearestOne_41 2 rfl (ii_1 _) (by rw [hx]; decide) [1, 2, 0] rfl ?_
          refine g_goto (pc := 44) (tgt := 4) F dX4_nearestOne_44 (by decide) ?_
          refine g_sub [0, 1, 2] rfl ?_
          exact ih a1 (a2 + (1 : Int32)) h
        · have h := ite_f c5 h
          refine g_iload_n (pc := 39) (x := a2) F dX4_nearestOne_39 rfl 2 rfl ?_
          refine g_istore_n (pc := 40) (lv2 := [(0, .ref (ec (xE X) (8 + j0))), (1, .int a2), (2, .int a2)]) F dX4_nearestOne_40 rfl (by rw [hx]; decide) [1, 0, 2] rfl ?_
          refine g_iinc (pc := 41) (lv2 := [(0, .ref (ec (xE X) (8 + j0))), (1, .int a2), (2, .int (a2 + (1 : Int32)))]) F dX4_nearestOne_41 2 rfl (ii_1 _) (by rw [hx]; decide) [1, 2, 0] rfl ?_
          refine g_goto (pc := 44) (tgt := 4) F dX4_nearestOne_44 (by decide) ?_
          refine g_sub [0, 1, 2] rfl ?_
          exact ih a2 (a2 + (1 : Int32)) h
set_option maxHeartbeats 4000000 in
set_option maxRecDepth 100000 in
theorem hX4_nearestOne {N : Nat} {M : Mem} {j0 : Nat} (hj0 : j0 < 3) {res : Int32} (h : mX4_nearestOne N j0 M = some res) (l : Launch) (E : Ev) : CtI l E (Wc E) yX4_nearestOne cX4_nearestOne 3 .int 0 0 [.ref (ec E (8 + j0))] M res M :=
  ctI_of (Wf := Wc) (av := fun E => [.ref (ec E (8 + j0))]) (lv := fun E => [(0, .ref (ec E (8 + j0)))]) (by decide) (fun _ => rfl) (fun _ => (Nat.le_of_ble_eq_true rfl)) (fun X F hx Rt => by
    have F : Fx X cX4_nearestOne RX4 0 0 := F
    unfold mX4_nearestOne at h
    refine g_iconst (pc := 0) F dX4_nearestOne_0 ic_0 ?_
    refine g_istore_n (pc := 1) (lv2 := [(0, .ref (ec (xE X) (8 + j0))), (1, .int (0 : Int32))]) F dX4_nearestOne_1 rfl (by rw [hx]; decide) [1, 0] rfl ?_
    refine g_iconst (pc := 2) F dX4_nearestOne_2 ic_1 ?_
    refine g_istore_n (pc := 3) (lv2 := [(0, .ref (ec (xE X) (8 + j0))), (1, .int (0 : Int32)), (2, .int (1 : Int32))]) F dX4_nearestOne_3 rfl (by rw [hx]; decide) [1, 2, 0] rfl ?_
    refine g_sub [0, 1, 2] rfl ?_
    exact wX4_nearestOne_b4 F hx hj0 Rt N (0 : Int32) (1 : Int32) h) l E
set_option maxHeartbeats 4000000 in
set_option maxRecDepth 100000 in
theorem hX9_at {M : Mem} {a1 : Int32} {res : Int32} (h : mX9_at M a1 = some res) (l : Launch) (E : Ev) : CtI l E (Wc E) yX9_at cX9_at 2 .int 0 0 [.ref (ec E 32), .int a1] M res M :=
  ctI_of (Wf := Wc) (av := fun E => [.ref (ec E 32), .int a1]) (lv := fun E => [(0, .ref (ec E 32)), (1, .int a1)]) (by decide) (fun _ => rfl) (fun _ => (Nat.le_of_ble_eq_true rfl)) (fun X F hx Rt => by
    have F : Fx X cX9_at RX9 0 0 := F
    unfold mX9_at at h
    refine g_iload_n (pc := 0) (x := a1) F dX9_at_0 rfl 1 rfl ?_
    refine g_if_lt (pc := 1) (tgt := 31) F dX9_at_1 (by decide) (fun c1 => ?_) (fun c1 => ?_)
    · have h := ite_t c1 h
      refine g_iconst (pc := 31) F dX9_at_31 ic_0 ?_
      obtain rfl := Option.some.inj h
      exact g_iret (pc := 32) (Wf := Wc) F Rt rfl dX9_at_32
    · have h := ite_f c1 h
      refine g_iload_n (pc := 4) (x := a1) F dX9_at_4 rfl 1 rfl ?_
      refine g_aload_n (pc := 5) (x := ec (xE X) 32) F dX9_at_5 rfl 0 rfl ?_
      refine g_get (pc := 6) (v := .int (M.1 3 1)) F fX9_15 32 (wc_Tp _ _) rfl dX9_at_6 ?_
      refine g_icmp_ge (pc := 9) (tgt := 31) F dX9_at_9 (by decide) (fun c2 => ?_) (fun c2 => ?_)
      · have h := ite_t c2 h
        refine g_iconst (pc := 31) F dX9_at_31 ic_0 ?_
        obtain rfl := Option.some.inj h
        exact g_iret (pc := 32) (Wf := Wc) F Rt rfl dX9_at_32
      · have h := ite_f c2 h
        refine g_iload_n (pc := 12) (x := a1) F dX9_at_12 rfl 1 rfl ?_
        refine g_bipush (pc := 13) F dX9_at_13 bp_120 ?_
        refine g_icmp_ge (pc := 15) (tgt := 31) F dX9_at_15 (by decide) (fun c3 => ?_) (fun c3 => ?_)
        · have h := ite_t c3 h
          refine g_iconst (pc := 31) F dX9_at_31 ic_0 ?_
          obtain rfl := Option.some.inj h
          exact g_iret (pc := 32) (Wf := Wc) F Rt rfl dX9_at_32
        · have h := ite_f c3 h
          refine g_aload_n (pc := 18) (x := ec (xE X) 32) F dX9_at_18 rfl 0 rfl ?_
          refine g_get (pc := 19) (v := .ref (ec (xE X) 33)) F fX9_9 32 (wc_Tp _ _) rfl dX9_at_19 ?_
          refine g_iload_n (pc := 22) (x := a1) F dX9_at_22 rfl 1 rfl ?_
          obtain ⟨i4, h⟩ := ck_some h
          refine g_bald (pc := 23) (N := 120) (fn := M.1 4) (j := a1.toNatClampNeg) F 33 2 (wc_By _ _) rfl i4 rfl dX9_at_23 ?_
          refine g_sipush (pc := 24) F dX9_at_24 sp_255 ?_
          refine g_iand (pc := 27) F dX9_at_27 ?_
          refine g_goto (pc := 28) (tgt := 32) F dX9_at_28 (by decide) ?_
          obtain rfl := Option.some.inj h
          exact g_iret (pc := 32) (Wf := Wc) F Rt rfl dX9_at_32) l E
set_option maxHeartbeats 4000000 in
set_option maxRecDepth 100000 in
theorem wX5_sortOf_b28 {X : Cx} (F : Fx X cX5_sortOf RX5 0 0) (hx : xn X = 1) {M : Mem} {res : Int32} (Rt : RI X Wc .int res M) : ∀ (a0 : Int32), mX5_sortOf_b28 a0 = some res → G X (Wc (xE X) M) 28 [(0, .int a0)] [] := by
  intro a0 h
  unfold mX5_sortOf_b28 at h
  refine g_iload_n (pc := 28) (x := a0) F dX5_sortOf_28 rfl 0 rfl ?_
  refine g_bipush (pc := 29) F dX5_sortOf_29 bp_59 ?_
  refine g_icmp_ne (pc := 31) (tgt := 38) F dX5_sortOf_31 (by decide) (fun c3 => ?_) (fun c3 => ?_)
  · have h := ite_f c3 h
    refine g_iconst (pc := 38) F dX5_sortOf_38 ic_4 ?_
    obtain rfl := Option.some.inj h
    exact g_iret (pc := 39) (Wf := Wc) F Rt rfl dX5_sortOf_39
  · have h := ite_t c3 h
    refine g_iconst (pc := 34) F dX5_sortOf_34 ic_3 ?_
    refine g_goto (pc := 35) (tgt := 39) F dX5_sortOf_35 (by decide) ?_
    obtain rfl := Option.some.inj h
    exact g_iret (pc := 39) (Wf := Wc) F Rt rfl dX5_sortOf_39
set_option maxHeartbeats 4000000 in
set_option maxRecDepth 100000 in
theorem wX5_sortOf_b14 {X : Cx} (F : Fx X cX5_sortOf RX5 0 0) (hx : xn X = 1) {M : Mem} {res : Int32} (Rt : RI X Wc .int res M) : ∀ (a0 : Int32), mX5_sortOf_b14 a0 = some res → G X (Wc (xE X) M) 14 [(0, .int a0)] [] := by
  intro a0 h
  unfold mX5_sortOf_b14 at h
  refine g_iload_n (pc := 14) (x := a0) F dX5_sortOf_14 rfl 0 rfl ?_
  refine g_bipush (pc := 15) F dX5_sortOf_15 bp_48 ?_
  refine g_icmp_lt (pc := 17) (tgt := 28) F dX5_sortOf_17 (by decide) (fun c2 => ?_) (fun c2 => ?_)
  · have h := ite_t c2 h
    refine g_sub [0] rfl ?_
    exact wX5_sortOf_b28 F hx Rt a0 h
  · have h := ite_f c2 h
    refine g_iload_n (pc := 20) (x := a0) F dX5_sortOf_20 rfl 0 rfl ?_
    refine g_bipush (pc := 21) F dX5_sortOf_21 bp_57 ?_
    refine g_icmp_gt (pc := 23) (tgt := 28) F dX5_sortOf_23 (by decide) (fun c4 => ?_) (fun c4 => ?_)
    · have h := ite_t c4 h
      refine g_sub [0] rfl ?_
      exact wX5_sortOf_b28 F hx Rt a0 h
    · have h := ite_f c4 h
      refine g_iconst (pc := 26) F dX5_sortOf_26 ic_2 ?_
      obtain rfl := Option.some.inj h
      exact g_iret (pc := 27) (Wf := Wc) F Rt rfl dX5_sortOf_27
set_option maxHeartbeats 4000000 in
set_option maxRecDepth 100000 in
theorem hX5_sortOf {M : Mem} {a0 : Int32} {res : Int32} (h : mX5_sortOf a0 = some res) (l : Launch) (E : Ev) : CtI l E (Wc E) yX5_sortOf cX5_sortOf 1 .int 0 0 [.int a0] M res M :=
  ctI_of (Wf := Wc) (av := fun E => [.int a0]) (lv := fun E => [(0, .int a0)]) (by decide) (fun _ => rfl) (fun _ => (Nat.le_of_ble_eq_true rfl)) (fun X F hx Rt => by
    have F : Fx X cX5_sortOf RX5 0 0 := F
    unfold mX5_sortOf at h
    refine g_iload_n (pc := 0) (x := a0) F dX5_sortOf_0 rfl 0 rfl ?_
    refine g_bipush (pc := 1) F dX5_sortOf_1 bp_97 ?_
    refine g_icmp_lt (pc := 3) (tgt := 14) F dX5_sortOf_3 (by decide) (fun c1 => ?_) (fun c1 => ?_)
    · have h := ite_t c1 h
      refine g_sub [0] rfl ?_
      exact wX5_sortOf_b14 F hx Rt a0 h
    · have h := ite_f c1 h
      refine g_iload_n (pc := 6) (x := a0) F dX5_sortOf_6 rfl 0 rfl ?_
      refine g_bipush (pc := 7) F dX5_sortOf_7 bp_122 ?_
      refine g_icmp_gt (pc := 9) (tgt := 14) F dX5_sortOf_9 (by decide) (fun c5 => ?_) (fun c5 => ?_)
      · have h := ite_t c5 h
        refine g_sub [0] rfl ?_
        exact wX5_sortOf_b14 F hx Rt a0 h
      · have h := ite_f c5 h
        refine g_iconst (pc := 12) F dX5_sortOf_12 ic_1 ?_
        obtain rfl := Option.some.inj h
        exact g_iret (pc := 13) (Wf := Wc) F Rt rfl dX5_sortOf_13) l E
set_option maxHeartbeats 4000000 in
set_option maxRecDepth 100000 in
theorem wX5_next_b127 {X : Cx} (F : Fx X cX5_next RX5 1 21) (hx : xn X = 1) {N : Nat} {res : Mem} (Rt : RV X Wc res) : ∀ (n : Nat) (M : Mem), mX5_next_b127 N n M = some res → G X (Wc (xE X) M) 127 [(0, .ref (ec (xE X) 34))] [] := by
  intro n
  induction n with
  | zero =>
    intro M h
    have h : none = some res := h
    cases h
  | succ n ih =>
    intro M h
    rw [mX5_next_b127] at h
    refine g_aload_n (pc := 127) (x := ec (xE X) 34) F dX5_next_127 rfl 0 rfl ?_
    refine g_get (pc := 128) (v := .int (M.1 3 4)) F fX5_19 34 (wc_Tx _ _) rfl dX5_next_128 ?_
    refine g_aload_n (pc := 131) (x := ec (xE X) 34) F dX5_next_131 rfl 0 rfl ?_
    refine g_get (pc := 132) (v := .ref (ec (xE X) 32)) F fX5_9 34 (wc_Tx _ _) rfl dX5_next_132 ?_
    refine g_get (pc := 135) (v := .int (M.1 3 1)) F fX5_101 32 (wc_Tp _ _) rfl dX5_next_135 ?_
    refine g_icmp_ge (pc := 138) (tgt := 215) F dX5_next_138 (by decide) (fun c9 => ?_) (fun c9 => ?_)
    · have h := ite_t c9 h
      obtain rfl := Option.some.inj h
      exact g_vret (pc := 215) (Wf := Wc) F Rt dX5_next_215
    · have h := ite_f c9 h
      refine g_aload_n (pc := 141) (x := ec (xE X) 34) F dX5_next_141 rfl 0 rfl ?_
      refine g_get (pc := 142) (v := .ref (ec (xE X) 32)) F fX5_9 34 (wc_Tx _ _) rfl dX5_next_142 ?_
      refine g_aload_n (pc := 145) (x := ec (xE X) 34) F dX5_next_145 rfl 0 rfl ?_
      refine g_get (pc := 146) (v := .int (M.1 3 4)) F fX5_19 34 (wc_Tx _ _) rfl dX5_next_146 ?_
      obtain ⟨r10, e11, h⟩ := bd_some h
      refine g_vI (pc := 149) (Wf := Wc) (As := [.int (M.1 3 4)]) (rest := []) F (hX9_at e11 (xl X) (xE X)) kX9_at lX5_106 32 rfl (wc_Tp _ _) rfl rfl rfl ⟨(Nat.le_of_ble_eq_true rfl), (Nat.le_of_ble_eq_true rfl)⟩ (Nat.le_of_ble_eq_true rfl) dX5_next_149 ?_
      obtain ⟨r12, e13, h⟩ := bd_some h
      refine g_sI (pc := 152) (Wf := Wc) (As := [.int r10]) (rest := []) F (hX5_sortOf (M := M) e13 (xl X) (xE X)) kX5_sortOf lX5_109 rfl rfl ⟨(Nat.le_of_ble_eq_true rfl), (Nat.le_of_ble_eq_true rfl)⟩ (Nat.le_of_ble_eq_true rfl) dX5_next_152 ?_
      refine g_aload_n (pc := 155) (x := ec (xE X) 34) F dX5_next_155 rfl 0 rfl ?_
      refine g_get (pc := 156) (v := .int (M.1 3 2)) F fX5_33 34 (wc_Tx _ _) rfl dX5_next_156 ?_
      refine g_icmp_ne (pc := 159) (tgt := 215) F dX5_next_159 (by decide) (fun c14 => ?_) (fun c14 => ?_)
      · have h := ite_f c14 h
        obtain rfl := Option.some.inj h
        exact g_vret (pc := 215) (Wf := Wc) F Rt dX5_next_215
      · have h := ite_t c14 h
        refine g_aload_n (pc := 162) (x := ec (xE X) 34) F dX5_next_162 rfl 0 rfl ?_
        refine g_get (pc := 163) (v := .int (M.1 3 2)) F fX5_33 34 (wc_Tx _ _) rfl dX5_next_163 ?_
        refine g_iconst (pc := 166) F dX5_next_166 ic_2 ?_
        refine g_icmp_ne (pc := 167) (tgt := 202) F dX5_next_167 (by decide) (fun c15 => ?_) (fun c15 => ?_)
        · have h := ite_f c15 h
          refine g_aload_n (pc := 202) (x := ec (xE X) 34) F dX5_next_202 rfl 0 rfl ?_
          refine g_dup (pc := 203) F dX5_next_203 rfl ?_
          refine g_get (pc := 204) (v := .int (M.1 3 4)) F fX5_19 34 (wc_Tx _ _) rfl dX5_next_204 ?_
          refine g_iconst (pc := 207) F dX5_next_207 ic_1 ?_
          refine g_iadd (pc := 208) F dX5_next_208 ?_
          refine g_put (pc := 209) (ws2 := Wc (xE X) (sI M 3 4 ((M.1 3 4) + (1 : Int32)))) F pX5_19 34 (wc_Tx _ _) rfl rfl (Nat.le_of_ble_eq_true rfl) (wcp_Tx4 _ _ _) dX5_next_209 ?_
          refine g_goto (pc := 212) (tgt := 127) F dX5_next_212 (by decide) ?_
          refine g_sub [0] rfl ?_
          exact ih (sI M 3 4 ((M.1 3 4) + (1 : Int32))) h
        · have h := ite_t c15 h
          refine g_aload_n (pc := 170) (x := ec (xE X) 34) F dX5_next_170 rfl 0 rfl ?_
          refine g_bipush (pc := 171) F dX5_next_171 bp_10 ?_
          refine g_aload_n (pc := 173) (x := ec (xE X) 34) F dX5_next_173 rfl 0 rfl ?_
          refine g_get (pc := 174) (v := .int (M.1 3 5)) F fX5_98 34 (wc_Tx _ _) rfl dX5_next_174 ?_
          refine g_imul (pc := 177) F dX5_next_177 ?_
          refine g_aload_n (pc := 178) (x := ec (xE X) 34) F dX5_next_178 rfl 0 rfl ?_
          refine g_get (pc := 179) (v := .ref (ec (xE X) 32)) F fX5_9 34 (wc_Tx _ _) rfl dX5_next_179 ?_
          refine g_aload_n (pc := 182) (x := ec (xE X) 34) F dX5_next_182 rfl 0 rfl ?_
          refine g_get (pc := 183) (v := .int (M.1 3 4)) F fX5_19 34 (wc_Tx _ _) rfl dX5_next_183 ?_
          obtain ⟨r16, e17, h⟩ := bd_some h
          refine g_vI (pc := 186) (Wf := Wc) (As := [.int (M.1 3 4)]) (rest := [.int ((10 : Int32) * (M.1 3 5)), .ref (ec (xE X) 34)]) F (hX9_at e17 (xl X) (xE X)) kX9_at lX5_106 32 rfl (wc_Tp _ _) rfl rfl rfl ⟨(Nat.le_of_ble_eq_true rfl), (Nat.le_of_ble_eq_true rfl)⟩ (Nat.le_of_ble_eq_true rfl) dX5_next_186 ?_
          refine g_bipush (pc := 189) F dX5_next_189 bp_48 ?_
          refine g_isub (pc := 191) F dX5_next_191 ?_
          refine g_iadd (pc := 192) F dX5_next_192 ?_
          refine g_sipush (pc := 193) F dX5_next_193 sp_1000 ?_
          refine g_mmin (pc := 196) F lX5_112 mt1_min mt2 mt3_min ⟨(Nat.le_of_ble_eq_true rfl), (Nat.le_of_ble_eq_true rfl)⟩ (Nat.le_of_ble_eq_true rfl) dX5_next_196 ?_
          refine g_put (pc := 199) (ws2 := Wc (xE X) (sI M 3 5 (if (1000 : Int32) < (((10 : Int32) * (M.1 3 5)) + (r16 - (48 : Int32))) then (1000 : Int32) else (((10 : Int32) * (M.1 3 5)) + (r16 - (48 : Int32)))))) F pX5_98 34 (wc_Tx _ _) rfl rfl (Nat.le_of_ble_eq_true rfl) (wcp_Tx5 _ _ _) dX5_next_199 ?_
          refine g_aload_n (pc := 202) (x := ec (xE X) 34) F dX5_next_202 rfl 0 rfl ?_
          refine g_dup (pc := 203) F dX5_next_203 rfl ?_
          refine g_get (pc := 204) (v := .int ((sI M 3 5 (if (1000 : Int32) < (((10 : Int32) * (M.1 3 5)) + (r16 - (48 : Int32))) then (1000 : Int32) else (((10 : Int32) * (M.1 3 5)) + (r16 - (48 : Int32))))).1 3 4)) F fX5_19 34 (wc_Tx _ _) rfl dX5_next_204 ?_
          refine g_iconst (pc := 207) F dX5_next_207 ic_1 ?_
          refine g_iadd (pc := 208) F dX5_next_208 ?_
          obtain ⟨M18, e19, h⟩ := bd_some h
          refine g_put (pc := 209) (ws2 := Wc (xE X) (M18)) F pX5_19 34 (wc_Tx _ _) rfl rfl (Nat.le_of_ble_eq_true rfl) (Eq.trans (wcp_Tx4 _ _ _) (congrArg (Wc (xE X)) (Option.some.inj e19))) dX5_next_209 ?_
          refine g_goto (pc := 212) (tgt := 127) F dX5_next_212 (by decide) ?_
          refine g_sub [0] rfl ?_
          exact ih M18 h
set_option maxHeartbeats 4000000 in
set_option maxRecDepth 100000 in
theorem wX5_next_b97 {X : Cx} (F : Fx X cX5_next RX5 1 21) (hx : xn X = 1) {N : Nat} {res : Mem} (Rt : RV X Wc res) : ∀ (M : Mem) (s1 : Int32), mX5_next_b97 N M s1 = some res → G X (Wc (xE X) M) 97 [(0, .ref (ec (xE X) 34))] [.int s1, .ref (ec (xE X) 34)] := by
  intro M s1 h
  unfold mX5_next_b97 at h
  refine g_put (pc := 97) (ws2 := Wc (xE X) (sI M 3 2 s1)) F pX5_33 34 (wc_Tx _ _) rfl rfl (Nat.le_of_ble_eq_true rfl) (wcp_Tx2 _ _ _) dX5_next_97 ?_
  refine g_aload_n (pc := 100) (x := ec (xE X) 34) F dX5_next_100 rfl 0 rfl ?_
  refine g_get (pc := 101) (v := .int ((sI M 3 2 s1).1 3 2)) F fX5_33 34 (wc_Tx _ _) rfl dX5_next_101 ?_
  refine g_iconst (pc := 104) F dX5_next_104 ic_3 ?_
  refine g_icmp_eq (pc := 105) (tgt := 116) F dX5_next_105 (by decide) (fun c5 => ?_) (fun c5 => ?_)
  · have h := ite_t c5 h
    refine g_aload_n (pc := 116) (x := ec (xE X) 34) F dX5_next_116 rfl 0 rfl ?_
    refine g_dup (pc := 117) F dX5_next_117 rfl ?_
    refine g_get (pc := 118) (v := .int ((sI M 3 2 s1).1 3 4)) F fX5_19 34 (wc_Tx _ _) rfl dX5_next_118 ?_
    refine g_iconst (pc := 121) F dX5_next_121 ic_1 ?_
    refine g_iadd (pc := 122) F dX5_next_122 ?_
    obtain ⟨M6, e7, h⟩ := bd_some h
    refine g_put (pc := 123) (ws2 := Wc (xE X) (M6)) F pX5_19 34 (wc_Tx _ _) rfl rfl (Nat.le_of_ble_eq_true rfl) (Eq.trans (wcp_Tx4 _ _ _) (congrArg (Wc (xE X)) (Option.some.inj e7))) dX5_next_123 ?_
    obtain rfl := Option.some.inj h
    exact g_vret (pc := 126) (Wf := Wc) F Rt dX5_next_126
  · have h := ite_f c5 h
    refine g_aload_n (pc := 108) (x := ec (xE X) 34) F dX5_next_108 rfl 0 rfl ?_
    refine g_get (pc := 109) (v := .int ((sI M 3 2 s1).1 3 2)) F fX5_33 34 (wc_Tx _ _) rfl dX5_next_109 ?_
    refine g_iconst (pc := 112) F dX5_next_112 ic_4 ?_
    refine g_icmp_ne (pc := 113) (tgt := 127) F dX5_next_113 (by decide) (fun c8 => ?_) (fun c8 => ?_)
    · have h := ite_f c8 h
      refine g_sub [0] rfl ?_
      exact wX5_next_b127 F hx Rt N (sI M 3 2 s1) h
    · have h := ite_t c8 h
      refine g_aload_n (pc := 116) (x := ec (xE X) 34) F dX5_next_116 rfl 0 rfl ?_
      refine g_dup (pc := 117) F dX5_next_117 rfl ?_
      refine g_get (pc := 118) (v := .int ((sI M 3 2 s1).1 3 4)) F fX5_19 34 (wc_Tx _ _) rfl dX5_next_118 ?_
      refine g_iconst (pc := 121) F dX5_next_121 ic_1 ?_
      refine g_iadd (pc := 122) F dX5_next_122 ?_
      obtain ⟨M20, e21, h⟩ := bd_some h
      refine g_put (pc := 123) (ws2 := Wc (xE X) (M20)) F pX5_19 34 (wc_Tx _ _) rfl rfl (Nat.le_of_ble_eq_true rfl) (Eq.trans (wcp_Tx4 _ _ _) (congrArg (Wc (xE X)) (Option.some.inj e21))) dX5_next_123 ?_
      obtain rfl := Option.some.inj h
      exact g_vret (pc := 126) (Wf := Wc) F Rt dX5_next_126
set_option maxHeartbeats 4000000 in
set_option maxRecDepth 100000 in
theorem wX5_next_b51 {X : Cx} (F : Fx X cX5_next RX5 1 21) (hx : xn X = 1) {N : Nat} {res : Mem} (Rt : RV X Wc res) : ∀ (M : Mem), mX5_next_b51 N M = some res → G X (Wc (xE X) M) 51 [(0, .ref (ec (xE X) 34))] [] := by
  intro M h
  unfold mX5_next_b51 at h
  refine g_aload_n (pc := 51) (x := ec (xE X) 34) F dX5_next_51 rfl 0 rfl ?_
  refine g_aload_n (pc := 52) (x := ec (xE X) 34) F dX5_next_52 rfl 0 rfl ?_
  refine g_get (pc := 53) (v := .int (M.1 3 3)) F fX5_30 34 (wc_Tx _ _) rfl dX5_next_53 ?_
  refine g_put (pc := 56) (ws2 := Wc (xE X) (sI M 3 4 (M.1 3 3))) F pX5_19 34 (wc_Tx _ _) rfl rfl (Nat.le_of_ble_eq_true rfl) (wcp_Tx4 _ _ _) dX5_next_56 ?_
  refine g_aload_n (pc := 59) (x := ec (xE X) 34) F dX5_next_59 rfl 0 rfl ?_
  refine g_iconst (pc := 60) F dX5_next_60 ic_0 ?_
  obtain ⟨M2, e3, h⟩ := bd_some h
  refine g_put (pc := 61) (ws2 := Wc (xE X) (M2)) F pX5_98 34 (wc_Tx _ _) rfl rfl (Nat.le_of_ble_eq_true rfl) (Eq.trans (wcp_Tx5 _ _ _) (congrArg (Wc (xE X)) (Option.some.inj e3))) dX5_next_61 ?_
  refine g_aload_n (pc := 64) (x := ec (xE X) 34) F dX5_next_64 rfl 0 rfl ?_
  refine g_aload_n (pc := 65) (x := ec (xE X) 34) F dX5_next_65 rfl 0 rfl ?_
  refine g_get (pc := 66) (v := .int (M2.1 3 3)) F fX5_30 34 (wc_Tx _ _) rfl dX5_next_66 ?_
  refine g_aload_n (pc := 69) (x := ec (xE X) 34) F dX5_next_69 rfl 0 rfl ?_
  refine g_get (pc := 70) (v := .ref (ec (xE X) 32)) F fX5_9 34 (wc_Tx _ _) rfl dX5_next_70 ?_
  refine g_get (pc := 73) (v := .int (M2.1 3 1)) F fX5_101 32 (wc_Tp _ _) rfl dX5_next_73 ?_
  refine g_icmp_ge (pc := 76) (tgt := 96) F dX5_next_76 (by decide) (fun c4 => ?_) (fun c4 => ?_)
  · have h := ite_t c4 h
    refine g_iconst (pc := 96) F dX5_next_96 ic_0 ?_
    refine g_sub [0] rfl ?_
    exact wX5_next_b97 F hx Rt M2 (0 : Int32) h
  · have h := ite_f c4 h
    refine g_aload_n (pc := 79) (x := ec (xE X) 34) F dX5_next_79 rfl 0 rfl ?_
    refine g_get (pc := 80) (v := .ref (ec (xE X) 32)) F fX5_9 34 (wc_Tx _ _) rfl dX5_next_80 ?_
    refine g_aload_n (pc := 83) (x := ec (xE X) 34) F dX5_next_83 rfl 0 rfl ?_
    refine g_get (pc := 84) (v := .int (M2.1 3 3)) F fX5_30 34 (wc_Tx _ _) rfl dX5_next_84 ?_
    obtain ⟨r22, e23, h⟩ := bd_some h
    refine g_vI (pc := 87) (Wf := Wc) (As := [.int (M2.1 3 3)]) (rest := [.ref (ec (xE X) 34)]) F (hX9_at e23 (xl X) (xE X)) kX9_at lX5_106 32 rfl (wc_Tp _ _) rfl rfl rfl ⟨(Nat.le_of_ble_eq_true rfl), (Nat.le_of_ble_eq_true rfl)⟩ (Nat.le_of_ble_eq_true rfl) dX5_next_87 ?_
    obtain ⟨r24, e25, h⟩ := bd_some h
    refine g_sI (pc := 90) (Wf := Wc) (As := [.int r22]) (rest := [.ref (ec (xE X) 34)]) F (hX5_sortOf (M := M2) e25 (xl X) (xE X)) kX5_sortOf lX5_109 rfl rfl ⟨(Nat.le_of_ble_eq_true rfl), (Nat.le_of_ble_eq_true rfl)⟩ (Nat.le_of_ble_eq_true rfl) dX5_next_90 ?_
    refine g_goto (pc := 93) (tgt := 97) F dX5_next_93 (by decide) ?_
    refine g_sub [0] rfl ?_
    exact wX5_next_b97 F hx Rt M2 r24 h
set_option maxHeartbeats 4000000 in
set_option maxRecDepth 100000 in
theorem wX5_next_b8 {X : Cx} (F : Fx X cX5_next RX5 1 21) (hx : xn X = 1) {N : Nat} {res : Mem} (Rt : RV X Wc res) : ∀ (n : Nat) (M : Mem), mX5_next_b8 N n M = some res → G X (Wc (xE X) M) 8 [(0, .ref (ec (xE X) 34))] [] := by
  intro n
  induction n with
  | zero =>
    intro M h
    have h : none = some res := h
    cases h
  | succ n ih =>
    intro M h
    rw [mX5_next_b8] at h
    refine g_aload_n (pc := 8) (x := ec (xE X) 34) F dX5_next_8 rfl 0 rfl ?_
    refine g_get (pc := 9) (v := .int (M.1 3 3)) F fX5_30 34 (wc_Tx _ _) rfl dX5_next_9 ?_
    refine g_aload_n (pc := 12) (x := ec (xE X) 34) F dX5_next_12 rfl 0 rfl ?_
    refine g_get (pc := 13) (v := .ref (ec (xE X) 32)) F fX5_9 34 (wc_Tx _ _) rfl dX5_next_13 ?_
    refine g_get (pc := 16) (v := .int (M.1 3 1)) F fX5_101 32 (wc_Tp _ _) rfl dX5_next_16 ?_
    refine g_icmp_ge (pc := 19) (tgt := 51) F dX5_next_19 (by decide) (fun c1 => ?_) (fun c1 => ?_)
    · have h := ite_t c1 h
      refine g_sub [0] rfl ?_
      exact wX5_next_b51 F hx Rt M h
    · have h := ite_f c1 h
      refine g_aload_n (pc := 22) (x := ec (xE X) 34) F dX5_next_22 rfl 0 rfl ?_
      refine g_get (pc := 23) (v := .ref (ec (xE X) 32)) F fX5_9 34 (wc_Tx _ _) rfl dX5_next_23 ?_
      refine g_aload_n (pc := 26) (x := ec (xE X) 34) F dX5_next_26 rfl 0 rfl ?_
      refine g_get (pc := 27) (v := .int (M.1 3 3)) F fX5_30 34 (wc_Tx _ _) rfl dX5_next_27 ?_
      obtain ⟨r26, e27, h⟩ := bd_some h
      refine g_vI (pc := 30) (Wf := Wc) (As := [.int (M.1 3 3)]) (rest := []) F (hX9_at e27 (xl X) (xE X)) kX9_at lX5_106 32 rfl (wc_Tp _ _) rfl rfl rfl ⟨(Nat.le_of_ble_eq_true rfl), (Nat.le_of_ble_eq_true rfl)⟩ (Nat.le_of_ble_eq_true rfl) dX5_next_30 ?_
      refine g_bipush (pc := 33) F dX5_next_33 bp_32 ?_
      refine g_icmp_ne (pc := 35) (tgt := 51) F dX5_next_35 (by decide) (fun c28 => ?_) (fun c28 => ?_)
      · have h := ite_f c28 h
        refine g_sub [0] rfl ?_
        exact wX5_next_b51 F hx Rt M h
      · have h := ite_t c28 h
        refine g_aload_n (pc := 38) (x := ec (xE X) 34) F dX5_next_38 rfl 0 rfl ?_
        refine g_dup (pc := 39) F dX5_next_39 rfl ?_
        refine g_get (pc := 40) (v := .int (M.1 3 3)) F fX5_30 34 (wc_Tx _ _) rfl dX5_next_40 ?_
        refine g_iconst (pc := 43) F dX5_next_43 ic_1 ?_
        refine g_iadd (pc := 44) F dX5_next_44 ?_
        refine g_put (pc := 45) (ws2 := Wc (xE X) (sI M 3 3 ((M.1 3 3) + (1 : Int32)))) F pX5_30 34 (wc_Tx _ _) rfl rfl (Nat.le_of_ble_eq_true rfl) (wcp_Tx3 _ _ _) dX5_next_45 ?_
        refine g_goto (pc := 48) (tgt := 8) F dX5_next_48 (by decide) ?_
        refine g_sub [0] rfl ?_
        exact ih (sI M 3 3 ((M.1 3 3) + (1 : Int32))) h
set_option maxHeartbeats 4000000 in
set_option maxRecDepth 100000 in
theorem hX5_next {N : Nat} {M : Mem} {res : Mem} (h : mX5_next N M = some res) (l : Launch) (E : Ev) : CtV l E (Wc E) yX5_next cX5_next 1 1 21 [.ref (ec E 34)] M res :=
  ctV_of (Wf := Wc) (av := fun E => [.ref (ec E 34)]) (lv := fun E => [(0, .ref (ec E 34))]) (by decide) (fun _ => rfl) (fun _ => (Nat.le_of_ble_eq_true rfl)) (fun X F hx Rt => by
    have F : Fx X cX5_next RX5 1 21 := F
    unfold mX5_next at h
    refine g_aload_n (pc := 0) (x := ec (xE X) 34) F dX5_next_0 rfl 0 rfl ?_
    refine g_aload_n (pc := 1) (x := ec (xE X) 34) F dX5_next_1 rfl 0 rfl ?_
    refine g_get (pc := 2) (v := .int (M.1 3 4)) F fX5_19 34 (wc_Tx _ _) rfl dX5_next_2 ?_
    refine g_put (pc := 5) (ws2 := Wc (xE X) (sI M 3 3 (M.1 3 4))) F pX5_30 34 (wc_Tx _ _) rfl rfl (Nat.le_of_ble_eq_true rfl) (wcp_Tx3 _ _ _) dX5_next_5 ?_
    refine g_sub [0] rfl ?_
    exact wX5_next_b8 F hx Rt N (sI M 3 3 (M.1 3 4)) h) l E
set_option maxHeartbeats 4000000 in
set_option maxRecDepth 100000 in
theorem wX5_isWord_b20 {X : Cx} (F : Fx X cX5_isWord RX5 4 100) (hx : xn X = 3) {N : Nat} {M : Mem} {res : Int32} (Rt : RI X Wc .boolean res M) : ∀ (n : Nat) (w1 : Nat) (hw1 : w1 < 11) (a2 : Int32), mX5_isWord_b20 N M n w1 a2 = some res → G X (Wc (xE X) M) 20 [(0, .ref (ec (xE X) 34)), (1, .ref (eK (xE X) w1)), (2, .int a2)] [] := by
  intro n
  induction n with
  | zero =>
    intro w1 hw1 a2 h
    have h : none = some res := h
    cases h
  | succ n ih =>
    intro w1 hw1 a2 h
    rw [mX5_isWord_b20] at h
    refine g_iload_n (pc := 20) (x := a2) F dX5_isWord_20 rfl 2 rfl ?_
    refine g_aload_n (pc := 21) (x := eK (xE X) w1) F dX5_isWord_21 rfl 1 rfl ?_
    refine g_tI (pc := 22) (Wf := Wc) (As := []) (rest := [.int a2]) F hw1 (hJ0_length (M := M) hw1 (xl X) (xE X)) kJ0_length_8abf5 lX5_118 rfl rfl rfl ⟨(Nat.le_of_ble_eq_true rfl), (Nat.le_of_ble_eq_true rfl)⟩ (Nat.le_of_ble_eq_true rfl) dX5_isWord_22 ?_
    refine g_icmp_ge (pc := 25) (tgt := 57) F dX5_isWord_25 (by decide) (fun c2 => ?_) (fun c2 => ?_)
    · have h := ite_t c2 h
      refine g_iconst (pc := 57) F dX5_isWord_57 ic_1 ?_
      obtain rfl := Option.some.inj h
      exact g_iret (pc := 58) (Wf := Wc) F Rt (by decide) dX5_isWord_58
    · have h := ite_f c2 h
      refine g_aload_n (pc := 28) (x := eK (xE X) w1) F dX5_isWord_28 rfl 1 rfl ?_
      refine g_iload_n (pc := 29) (x := a2) F dX5_isWord_29 rfl 2 rfl ?_
      obtain ⟨i3, h⟩ := ck_some h
      refine g_tI (pc := 30) (Wf := Wc) (As := [.int a2]) (rest := []) F hw1 (hJ0_charAt (M := M) hw1 i3 (xl X) (xE X)) kJ0_charAt_5068e lX5_123 rfl rfl rfl ⟨(Nat.le_of_ble_eq_true rfl), (Nat.le_of_ble_eq_true rfl)⟩ (Nat.le_of_ble_eq_true rfl) dX5_isWord_30 ?_
      refine g_aload_n (pc := 33) (x := ec (xE X) 34) F dX5_isWord_33 rfl 0 rfl ?_
      refine g_get (pc := 34) (v := .ref (ec (xE X) 32)) F fX5_9 34 (wc_Tx _ _) rfl dX5_isWord_34 ?_
      refine g_aload_n (pc := 37) (x := ec (xE X) 34) F dX5_isWord_37 rfl 0 rfl ?_
      refine g_get (pc := 38) (v := .int (M.1 3 3)) F fX5_30 34 (wc_Tx _ _) rfl dX5_isWord_38 ?_
      refine g_iload_n (pc := 41) (x := a2) F dX5_isWord_41 rfl 2 rfl ?_
      refine g_iadd (pc := 42) F dX5_isWord_42 ?_
      obtain ⟨r4, e5, h⟩ := bd_some h
      refine g_vI (pc := 43) (Wf := Wc) (As := [.int ((M.1 3 3) + a2)]) (rest := [.int ((sByt.getD w1 []).getD a2.toNatClampNeg 0 &&& 255)]) F (hX9_at e5 (xl X) (xE X)) kX9_at lX5_106 32 rfl (wc_Tp _ _) rfl rfl rfl ⟨(Nat.le_of_ble_eq_true rfl), (Nat.le_of_ble_eq_true rfl)⟩ (Nat.le_of_ble_eq_true rfl) dX5_isWord_43 ?_
      refine g_icmp_eq (pc := 46) (tgt := 51) F dX5_isWord_46 (by decide) (fun c6 => ?_) (fun c6 => ?_)
      · have h := ite_t c6 h
        refine g_iinc (pc := 51) (lv2 := [(0, .ref (ec (xE X) 34)), (1, .ref (eK (xE X) w1)), (2, .int (a2 + (1 : Int32)))]) F dX5_isWord_51 2 rfl (ii_1 _) (by rw [hx]; decide) [1, 2, 0] rfl ?_
        refine g_goto (pc := 54) (tgt := 20) F dX5_isWord_54 (by decide) ?_
        refine g_sub [0, 1, 2] rfl ?_
        exact ih w1 hw1 (a2 + (1 : Int32)) h
      · have h := ite_f c6 h
        refine g_iconst (pc := 49) F dX5_isWord_49 ic_0 ?_
        obtain rfl := Option.some.inj h
        exact g_iret (pc := 50) (Wf := Wc) F Rt (by decide) dX5_isWord_50
set_option maxHeartbeats 4000000 in
set_option maxRecDepth 100000 in
theorem hX5_isWord {N : Nat} {M : Mem} {w1 : Nat} (hw1 : w1 < 11) {res : Int32} (h : mX5_isWord N M w1 = some res) (l : Launch) (E : Ev) : CtI l E (Wc E) yX5_isWord cX5_isWord 3 .boolean 4 100 [.ref (ec E 34), .ref (eK E w1)] M res M :=
  ctI_of (Wf := Wc) (av := fun E => [.ref (ec E 34), .ref (eK E w1)]) (lv := fun E => [(0, .ref (ec E 34)), (1, .ref (eK E w1))]) (by decide) (fun _ => rfl) (fun _ => (Nat.le_of_ble_eq_true rfl)) (fun X F hx Rt => by
    have F : Fx X cX5_isWord RX5 4 100 := F
    unfold mX5_isWord at h
    refine g_aload_n (pc := 0) (x := eK (xE X) w1) F dX5_isWord_0 rfl 1 rfl ?_
    refine g_tI (pc := 1) (Wf := Wc) (As := []) (rest := []) F hw1 (hJ0_length (M := M) hw1 (xl X) (xE X)) kJ0_length_8abf5 lX5_118 rfl rfl rfl ⟨(Nat.le_of_ble_eq_true rfl), (Nat.le_of_ble_eq_true rfl)⟩ (Nat.le_of_ble_eq_true rfl) dX5_isWord_1 ?_
    refine g_aload_n (pc := 4) (x := ec (xE X) 34) F dX5_isWord_4 rfl 0 rfl ?_
    refine g_get (pc := 5) (v := .int (M.1 3 4)) F fX5_19 34 (wc_Tx _ _) rfl dX5_isWord_5 ?_
    refine g_aload_n (pc := 8) (x := ec (xE X) 34) F dX5_isWord_8 rfl 0 rfl ?_
    refine g_get (pc := 9) (v := .int (M.1 3 3)) F fX5_30 34 (wc_Tx _ _) rfl dX5_isWord_9 ?_
    refine g_isub (pc := 12) F dX5_isWord_12 ?_
    refine g_icmp_eq (pc := 13) (tgt := 18) F dX5_isWord_13 (by decide) (fun c1 => ?_) (fun c1 => ?_)
    · have h := ite_t c1 h
      refine g_iconst (pc := 18) F dX5_isWord_18 ic_0 ?_
      refine g_istore_n (pc := 19) (lv2 := [(0, .ref (ec (xE X) 34)), (1, .ref (eK (xE X) w1)), (2, .int (0 : Int32))]) F dX5_isWord_19 rfl (by rw [hx]; decide) [1, 2, 0] rfl ?_
      refine g_sub [0, 1, 2] rfl ?_
      exact wX5_isWord_b20 F hx Rt N w1 hw1 (0 : Int32) h
    · have h := ite_f c1 h
      refine g_iconst (pc := 16) F dX5_isWord_16 ic_0 ?_
      obtain rfl := Option.some.inj h
      exact g_iret (pc := 17) (Wf := Wc) F Rt (by decide) dX5_isWord_17) l E
set_option maxHeartbeats 4000000 in
set_option maxRecDepth 100000 in
theorem hX5_takeNumber {N : Nat} {M : Mem} {a1 : Int32} {res : Int32 × Mem} (h : mX5_takeNumber N M a1 = some res) (l : Launch) (E : Ev) : CtI l E (Wc E) yX5_takeNumber cX5_takeNumber 2 .boolean 2 41 [.ref (ec E 34), .int a1] M res.1 res.2 :=
  ctI_of (Wf := Wc) (av := fun E => [.ref (ec E 34), .int a1]) (lv := fun E => [(0, .ref (ec E 34)), (1, .int a1)]) (by decide) (fun _ => rfl) (fun _ => (Nat.le_of_ble_eq_true rfl)) (fun X F hx Rt => by
    have F : Fx X cX5_takeNumber RX5 2 41 := F
    unfold mX5_takeNumber at h
    refine g_aload_n (pc := 0) (x := ec (xE X) 34) F dX5_takeNumber_0 rfl 0 rfl ?_
    refine g_get (pc := 1) (v := .int (M.1 3 2)) F fX5_33 34 (wc_Tx _ _) rfl dX5_takeNumber_1 ?_
    refine g_iconst (pc := 4) F dX5_takeNumber_4 ic_2 ?_
    refine g_icmp_ne (pc := 5) (tgt := 16) F dX5_takeNumber_5 (by decide) (fun c1 => ?_) (fun c1 => ?_)
    · have h := ite_f c1 h
      refine g_iconst (pc := 16) F dX5_takeNumber_16 ic_0 ?_
      obtain rfl := Option.some.inj h
      exact g_iret (pc := 17) (Wf := Wc) F Rt (by decide) dX5_takeNumber_17
    · have h := ite_t c1 h
      refine g_aload_n (pc := 8) (x := ec (xE X) 34) F dX5_takeNumber_8 rfl 0 rfl ?_
      refine g_get (pc := 9) (v := .int (M.1 3 5)) F fX5_98 34 (wc_Tx _ _) rfl dX5_takeNumber_9 ?_
      refine g_iload_n (pc := 12) (x := a1) F dX5_takeNumber_12 rfl 1 rfl ?_
      refine g_icmp_le (pc := 13) (tgt := 18) F dX5_takeNumber_13 (by decide) (fun c2 => ?_) (fun c2 => ?_)
      · have h := ite_t c2 h
        refine g_aload_n (pc := 18) (x := ec (xE X) 34) F dX5_takeNumber_18 rfl 0 rfl ?_
        refine g_aload_n (pc := 19) (x := ec (xE X) 34) F dX5_takeNumber_19 rfl 0 rfl ?_
        refine g_get (pc := 20) (v := .int (M.1 3 5)) F fX5_98 34 (wc_Tx _ _) rfl dX5_takeNumber_20 ?_
        refine g_put (pc := 23) (ws2 := Wc (xE X) (sI M 3 6 (M.1 3 5))) F pX5_78 34 (wc_Tx _ _) rfl rfl (Nat.le_of_ble_eq_true rfl) (wcp_Tx6 _ _ _) dX5_takeNumber_23 ?_
        refine g_aload_n (pc := 26) (x := ec (xE X) 34) F dX5_takeNumber_26 rfl 0 rfl ?_
        obtain ⟨M3, e4, h⟩ := bd_some h
        refine g_vV (pc := 27) (Wf := Wc) (As := []) (rest := []) F (hX5_next e4 (xl X) (xE X)) kX5_next lX5_23 34 rfl (wc_Tx _ _) rfl rfl rfl ⟨(Nat.le_of_ble_eq_true rfl), (Nat.le_of_ble_eq_true rfl)⟩ (Nat.le_of_ble_eq_true rfl) dX5_takeNumber_27 ?_
        refine g_iconst (pc := 30) F dX5_takeNumber_30 ic_1 ?_
        obtain rfl := Option.some.inj h
        exact g_iret (pc := 31) (Wf := Wc) F Rt (by decide) dX5_takeNumber_31
      · have h := ite_f c2 h
        refine g_iconst (pc := 16) F dX5_takeNumber_16 ic_0 ?_
        obtain rfl := Option.some.inj h
        exact g_iret (pc := 17) (Wf := Wc) F Rt (by decide) dX5_takeNumber_17) l E
set_option maxHeartbeats 4000000 in
set_option maxRecDepth 100000 in
theorem hX5_takeShip {N : Nat} {M : Mem} {j1 : Nat} {a2 : Int32} (hj1 : j1 < 3) {res : Int32 × Mem} (h : mX5_takeShip N M j1 a2 = some res) (l : Launch) (E : Ev) : CtI l E (Wc E) yX5_takeShip cX5_takeShip 5 .boolean 5 122 [.ref (ec E 34), .ref (ec E (8 + j1)), .ref (ec E (2 + a2.toNatClampNeg))] M res.1 res.2 :=
  ctI_of (Wf := Wc) (av := fun E => [.ref (ec E 34), .ref (ec E (8 + j1)), .ref (ec E (2 + a2.toNatClampNeg))]) (lv := fun E => [(0, .ref (ec E 34)), (1, .ref (ec E (8 + j1))), (2, .ref (ec E (2 + a2.toNatClampNeg)))]) (by decide) (fun _ => rfl) (fun _ => (Nat.le_of_ble_eq_true rfl)) (fun X F hx Rt => by
    have F : Fx X cX5_takeShip RX5 5 122 := F
    unfold mX5_takeShip at h
    refine g_aload_n (pc := 0) (x := ec (xE X) (8 + j1)) F dX5_takeShip_0 rfl 1 rfl ?_
    obtain ⟨r1, e2, h⟩ := bd_some h
    refine g_vI (pc := 1) (Wf := Wc) (As := []) (rest := []) F (hX4_isFull hj1 e2 (xl X) (xE X)) kX4_isFull lX5_68 (8 + j1) rfl (wc_S _ _ hj1) rfl rfl rfl ⟨(Nat.le_of_ble_eq_true rfl), (Nat.le_of_ble_eq_true rfl)⟩ (Nat.le_of_ble_eq_true rfl) dX5_takeShip_1 ?_
    refine g_if_eq (pc := 4) (tgt := 9) F dX5_takeShip_4 (by decide) (fun c3 => ?_) (fun c3 => ?_)
    · have h := ite_t c3 h
      refine g_aload_n (pc := 9) (x := ec (xE X) 34) F dX5_takeShip_9 rfl 0 rfl ?_
      obtain ⟨M4, e5, h⟩ := bd_some h
      refine g_vV (pc := 10) (Wf := Wc) (As := []) (rest := []) F (hX5_next e5 (xl X) (xE X)) kX5_next lX5_23 34 rfl (wc_Tx _ _) rfl rfl rfl ⟨(Nat.le_of_ble_eq_true rfl), (Nat.le_of_ble_eq_true rfl)⟩ (Nat.le_of_ble_eq_true rfl) dX5_takeShip_10 ?_
      refine g_aload_n (pc := 13) (x := ec (xE X) 34) F dX5_takeShip_13 rfl 0 rfl ?_
      refine g_bipush (pc := 14) F dX5_takeShip_14 bp_9 ?_
      obtain ⟨q6, e7, h⟩ := bd_some h
      refine g_vI (pc := 16) (Wf := Wc) (As := [.int (9 : Int32)]) (rest := []) F (hX5_takeNumber e7 (xl X) (xE X)) kX5_takeNumber lX5_74 34 rfl (wc_Tx _ _) rfl rfl rfl ⟨(Nat.le_of_ble_eq_true rfl), (Nat.le_of_ble_eq_true rfl)⟩ (Nat.le_of_ble_eq_true rfl) dX5_takeShip_16 ?_
      refine g_if_ne (pc := 19) (tgt := 24) F dX5_takeShip_19 (by decide) (fun c8 => ?_) (fun c8 => ?_)
      · have h := ite_f c8 h
        refine g_aload_n (pc := 24) (x := ec (xE X) 34) F dX5_takeShip_24 rfl 0 rfl ?_
        refine g_get (pc := 25) (v := .int (q6.2.1 3 6)) F fX5_78 34 (wc_Tx _ _) rfl dX5_takeShip_25 ?_
        refine g_istore_n (pc := 28) (lv2 := [(0, .ref (ec (xE X) 34)), (1, .ref (ec (xE X) (8 + j1))), (2, .ref (ec (xE X) (2 + a2.toNatClampNeg))), (3, .int (q6.2.1 3 6))]) F dX5_takeShip_28 rfl (by rw [hx]; decide) [1, 2, 3, 0] rfl ?_
        refine g_iconst (pc := 29) F dX5_takeShip_29 ic_0 ?_
        refine g_istore (pc := 30) (lv2 := [(0, .ref (ec (xE X) 34)), (1, .ref (ec (xE X) (8 + j1))), (2, .ref (ec (xE X) (2 + a2.toNatClampNeg))), (3, .int (q6.2.1 3 6)), (4, .int (0 : Int32))]) F dX5_takeShip_30 (by rw [hx]; decide) [1, 2, 3, 4, 0] rfl ?_
        refine g_aload_n (pc := 32) (x := ec (xE X) 34) F dX5_takeShip_32 rfl 0 rfl ?_
        refine g_get (pc := 33) (v := .int (q6.2.1 3 2)) F fX5_33 34 (wc_Tx _ _) rfl dX5_takeShip_33 ?_
        refine g_iconst (pc := 36) F dX5_takeShip_36 ic_1 ?_
        refine g_icmp_ne (pc := 37) (tgt := 70) F dX5_takeShip_37 (by decide) (fun c9 => ?_) (fun c9 => ?_)
        · have h := ite_f c9 h
          refine g_aload_n (pc := 70) (x := ec (xE X) (8 + j1)) F dX5_takeShip_70 rfl 1 rfl ?_
          refine g_aload_n (pc := 71) (x := ec (xE X) (2 + a2.toNatClampNeg)) F dX5_takeShip_71 rfl 2 rfl ?_
          refine g_iload (pc := 72) (x := (0 : Int32)) F dX5_takeShip_72 4 rfl ?_
          refine g_iload_n (pc := 74) (x := q6.2.1 3 6) F dX5_takeShip_74 rfl 3 rfl ?_
          obtain ⟨M10, e11, h⟩ := bd_some h
          refine g_vV (pc := 75) (Wf := Wc) (As := [.ref (ec (xE X) (2 + a2.toNatClampNeg)), .int (0 : Int32), .int (q6.2.1 3 6)]) (rest := []) F (hX4_launch hj1 e11 (xl X) (xE X)) kX4_launch lX5_83 (8 + j1) rfl (wc_S _ _ hj1) rfl rfl rfl ⟨(Nat.le_of_ble_eq_true rfl), (Nat.le_of_ble_eq_true rfl)⟩ (Nat.le_of_ble_eq_true rfl) dX5_takeShip_75 ?_
          refine g_iconst (pc := 78) F dX5_takeShip_78 ic_1 ?_
          obtain rfl := Option.some.inj h
          exact g_iret (pc := 79) (Wf := Wc) F Rt (by decide) dX5_takeShip_79
        · have h := ite_t c9 h
          refine g_aload_n (pc := 40) (x := ec (xE X) 34) F dX5_takeShip_40 rfl 0 rfl ?_
          refine g_ldcS (pc := 41) F (tx := "at") (i := 6) (List.mem_of_getElem? (i := 6) rfl) dX5_takeShip_41 ?_
          obtain ⟨r12, e13, h⟩ := bd_some h
          refine g_vI (pc := 43) (Wf := Wc) (As := [.ref (eK (xE X) 6)]) (rest := []) F (hX5_isWord (by decide) e13 (xl X) (xE X)) kX5_isWord lX5_42 34 rfl (wc_Tx _ _) rfl rfl rfl ⟨(Nat.le_of_ble_eq_true rfl), (Nat.le_of_ble_eq_true rfl)⟩ (Nat.le_of_ble_eq_true rfl) dX5_takeShip_43 ?_
          refine g_if_eq (pc := 46) (tgt := 70) F dX5_takeShip_46 (by decide) (fun c14 => ?_) (fun c14 => ?_)
          · have h := ite_t c14 h
            refine g_aload_n (pc := 70) (x := ec (xE X) (8 + j1)) F dX5_takeShip_70 rfl 1 rfl ?_
            refine g_aload_n (pc := 71) (x := ec (xE X) (2 + a2.toNatClampNeg)) F dX5_takeShip_71 rfl 2 rfl ?_
            refine g_iload (pc := 72) (x := (0 : Int32)) F dX5_takeShip_72 4 rfl ?_
            refine g_iload_n (pc := 74) (x := q6.2.1 3 6) F dX5_takeShip_74 rfl 3 rfl ?_
            obtain ⟨M15, e16, h⟩ := bd_some h
            refine g_vV (pc := 75) (Wf := Wc) (As := [.ref (ec (xE X) (2 + a2.toNatClampNeg)), .int (0 : Int32), .int (q6.2.1 3 6)]) (rest := []) F (hX4_launch hj1 e16 (xl X) (xE X)) kX4_launch lX5_83 (8 + j1) rfl (wc_S _ _ hj1) rfl rfl rfl ⟨(Nat.le_of_ble_eq_true rfl), (Nat.le_of_ble_eq_true rfl)⟩ (Nat.le_of_ble_eq_true rfl) dX5_takeShip_75 ?_
            refine g_iconst (pc := 78) F dX5_takeShip_78 ic_1 ?_
            obtain rfl := Option.some.inj h
            exact g_iret (pc := 79) (Wf := Wc) F Rt (by decide) dX5_takeShip_79
          · have h := ite_f c14 h
            refine g_aload_n (pc := 49) (x := ec (xE X) 34) F dX5_takeShip_49 rfl 0 rfl ?_
            obtain ⟨M17, e18, h⟩ := bd_some h
            refine g_vV (pc := 50) (Wf := Wc) (As := []) (rest := []) F (hX5_next e18 (xl X) (xE X)) kX5_next lX5_23 34 rfl (wc_Tx _ _) rfl rfl rfl ⟨(Nat.le_of_ble_eq_true rfl), (Nat.le_of_ble_eq_true rfl)⟩ (Nat.le_of_ble_eq_true rfl) dX5_takeShip_50 ?_
            refine g_aload_n (pc := 53) (x := ec (xE X) 34) F dX5_takeShip_53 rfl 0 rfl ?_
            refine g_bipush (pc := 54) F dX5_takeShip_54 bp_19 ?_
            obtain ⟨q19, e20, h⟩ := bd_some h
            refine g_vI (pc := 56) (Wf := Wc) (As := [.int (19 : Int32)]) (rest := []) F (hX5_takeNumber e20 (xl X) (xE X)) kX5_takeNumber lX5_74 34 rfl (wc_Tx _ _) rfl rfl rfl ⟨(Nat.le_of_ble_eq_true rfl), (Nat.le_of_ble_eq_true rfl)⟩ (Nat.le_of_ble_eq_true rfl) dX5_takeShip_56 ?_
            refine g_if_ne (pc := 59) (tgt := 64) F dX5_takeShip_59 (by decide) (fun c21 => ?_) (fun c21 => ?_)
            · have h := ite_f c21 h
              refine g_aload_n (pc := 64) (x := ec (xE X) 34) F dX5_takeShip_64 rfl 0 rfl ?_
              refine g_get (pc := 65) (v := .int (q19.2.1 3 6)) F fX5_78 34 (wc_Tx _ _) rfl dX5_takeShip_65 ?_
              refine g_istore (pc := 68) (lv2 := [(0, .ref (ec (xE X) 34)), (1, .ref (ec (xE X) (8 + j1))), (2, .ref (ec (xE X) (2 + a2.toNatClampNeg))), (3, .int (q6.2.1 3 6)), (4, .int (q19.2.1 3 6))]) F dX5_takeShip_68 (by rw [hx]; decide) [1, 2, 3, 4, 0] rfl ?_
              refine g_aload_n (pc := 70) (x := ec (xE X) (8 + j1)) F dX5_takeShip_70 rfl 1 rfl ?_
              refine g_aload_n (pc := 71) (x := ec (xE X) (2 + a2.toNatClampNeg)) F dX5_takeShip_71 rfl 2 rfl ?_
              refine g_iload (pc := 72) (x := q19.2.1 3 6) F dX5_takeShip_72 4 rfl ?_
              refine g_iload_n (pc := 74) (x := q6.2.1 3 6) F dX5_takeShip_74 rfl 3 rfl ?_
              obtain ⟨M22, e23, h⟩ := bd_some h
              refine g_vV (pc := 75) (Wf := Wc) (As := [.ref (ec (xE X) (2 + a2.toNatClampNeg)), .int (q19.2.1 3 6), .int (q6.2.1 3 6)]) (rest := []) F (hX4_launch hj1 e23 (xl X) (xE X)) kX4_launch lX5_83 (8 + j1) rfl (wc_S _ _ hj1) rfl rfl rfl ⟨(Nat.le_of_ble_eq_true rfl), (Nat.le_of_ble_eq_true rfl)⟩ (Nat.le_of_ble_eq_true rfl) dX5_takeShip_75 ?_
              refine g_iconst (pc := 78) F dX5_takeShip_78 ic_1 ?_
              obtain rfl := Option.some.inj h
              exact g_iret (pc := 79) (Wf := Wc) F Rt (by decide) dX5_takeShip_79
            · have h := ite_t c21 h
              refine g_iconst (pc := 62) F dX5_takeShip_62 ic_0 ?_
              obtain rfl := Option.some.inj h
              exact g_iret (pc := 63) (Wf := Wc) F Rt (by decide) dX5_takeShip_63
      · have h := ite_t c8 h
        refine g_iconst (pc := 22) F dX5_takeShip_22 ic_0 ?_
        obtain rfl := Option.some.inj h
        exact g_iret (pc := 23) (Wf := Wc) F Rt (by decide) dX5_takeShip_23
    · have h := ite_f c3 h
      refine g_iconst (pc := 7) F dX5_takeShip_7 ic_0 ?_
      obtain rfl := Option.some.inj h
      exact g_iret (pc := 8) (Wf := Wc) F Rt (by decide) dX5_takeShip_8) l E
set_option maxHeartbeats 4000000 in
set_option maxRecDepth 100000 in
theorem hX5_takeTower {N : Nat} {M : Mem} {j1 : Nat} (hj1 : j1 < 3) {res : Int32 × Mem} (h : mX5_takeTower N M j1 = some res) (l : Launch) (E : Ev) : CtI l E (Wc E) yX5_takeTower cX5_takeTower 2 .boolean 3 62 [.ref (ec E 34), .ref (ec E (8 + j1))] M res.1 res.2 :=
  ctI_of (Wf := Wc) (av := fun E => [.ref (ec E 34), .ref (ec E (8 + j1))]) (lv := fun E => [(0, .ref (ec E 34)), (1, .ref (ec E (8 + j1)))]) (by decide) (fun _ => rfl) (fun _ => (Nat.le_of_ble_eq_true rfl)) (fun X F hx Rt => by
    have F : Fx X cX5_takeTower RX5 3 62 := F
    unfold mX5_takeTower at h
    refine g_aload_n (pc := 0) (x := ec (xE X) 34) F dX5_takeTower_0 rfl 0 rfl ?_
    obtain ⟨M1, e2, h⟩ := bd_some h
    refine g_vV (pc := 1) (Wf := Wc) (As := []) (rest := []) F (hX5_next e2 (xl X) (xE X)) kX5_next lX5_23 34 rfl (wc_Tx _ _) rfl rfl rfl ⟨(Nat.le_of_ble_eq_true rfl), (Nat.le_of_ble_eq_true rfl)⟩ (Nat.le_of_ble_eq_true rfl) dX5_takeTower_1 ?_
    refine g_aload_n (pc := 4) (x := ec (xE X) 34) F dX5_takeTower_4 rfl 0 rfl ?_
    refine g_bipush (pc := 5) F dX5_takeTower_5 bp_19 ?_
    obtain ⟨q3, e4, h⟩ := bd_some h
    refine g_vI (pc := 7) (Wf := Wc) (As := [.int (19 : Int32)]) (rest := []) F (hX5_takeNumber e4 (xl X) (xE X)) kX5_takeNumber lX5_74 34 rfl (wc_Tx _ _) rfl rfl rfl ⟨(Nat.le_of_ble_eq_true rfl), (Nat.le_of_ble_eq_true rfl)⟩ (Nat.le_of_ble_eq_true rfl) dX5_takeTower_7 ?_
    refine g_if_ne (pc := 10) (tgt := 15) F dX5_takeTower_10 (by decide) (fun c5 => ?_) (fun c5 => ?_)
    · have h := ite_f c5 h
      refine g_aload_n (pc := 15) (x := ec (xE X) (8 + j1)) F dX5_takeTower_15 rfl 1 rfl ?_
      refine g_aload_n (pc := 16) (x := ec (xE X) 34) F dX5_takeTower_16 rfl 0 rfl ?_
      refine g_get (pc := 17) (v := .int (q3.2.1 3 6)) F fX5_78 34 (wc_Tx _ _) rfl dX5_takeTower_17 ?_
      refine g_put (pc := 20) (ws2 := Wc (xE X) (sI q3.2 j1 1 (q3.2.1 3 6))) F pX5_87 (8 + j1) (wc_S _ _ hj1) rfl rfl (Nat.le_of_ble_eq_true rfl) (wcp_S1 _ _ hj1 _) dX5_takeTower_20 ?_
      refine g_aload_n (pc := 23) (x := ec (xE X) 34) F dX5_takeTower_23 rfl 0 rfl ?_
      refine g_bipush (pc := 24) F dX5_takeTower_24 bp_9 ?_
      obtain ⟨q6, e7, h⟩ := bd_some h
      refine g_vI (pc := 26) (Wf := Wc) (As := [.int (9 : Int32)]) (rest := []) F (hX5_takeNumber e7 (xl X) (xE X)) kX5_takeNumber lX5_74 34 rfl (wc_Tx _ _) rfl rfl rfl ⟨(Nat.le_of_ble_eq_true rfl), (Nat.le_of_ble_eq_true rfl)⟩ (Nat.le_of_ble_eq_true rfl) dX5_takeTower_26 ?_
      refine g_if_ne (pc := 29) (tgt := 34) F dX5_takeTower_29 (by decide) (fun c8 => ?_) (fun c8 => ?_)
      · have h := ite_f c8 h
        refine g_aload_n (pc := 34) (x := ec (xE X) (8 + j1)) F dX5_takeTower_34 rfl 1 rfl ?_
        refine g_aload_n (pc := 35) (x := ec (xE X) 34) F dX5_takeTower_35 rfl 0 rfl ?_
        refine g_get (pc := 36) (v := .int (q6.2.1 3 6)) F fX5_78 34 (wc_Tx _ _) rfl dX5_takeTower_36 ?_
        refine g_put (pc := 39) (ws2 := Wc (xE X) (sI q6.2 j1 2 (q6.2.1 3 6))) F pX5_90 (8 + j1) (wc_S _ _ hj1) rfl rfl (Nat.le_of_ble_eq_true rfl) (wcp_S2 _ _ hj1 _) dX5_takeTower_39 ?_
        refine g_iconst (pc := 42) F dX5_takeTower_42 ic_1 ?_
        obtain rfl := Option.some.inj h
        exact g_iret (pc := 43) (Wf := Wc) F Rt (by decide) dX5_takeTower_43
      · have h := ite_t c8 h
        refine g_iconst (pc := 32) F dX5_takeTower_32 ic_0 ?_
        obtain rfl := Option.some.inj h
        exact g_iret (pc := 33) (Wf := Wc) F Rt (by decide) dX5_takeTower_33
    · have h := ite_t c5 h
      refine g_iconst (pc := 13) F dX5_takeTower_13 ic_0 ?_
      obtain rfl := Option.some.inj h
      exact g_iret (pc := 14) (Wf := Wc) F Rt (by decide) dX5_takeTower_14) l E
set_option maxHeartbeats 4000000 in
set_option maxRecDepth 100000 in
theorem hX5_takeLamp {N : Nat} {M : Mem} {j1 : Nat} {a2 : Int32} (hj1 : j1 < 3) {res : Int32 × Mem} (h : mX5_takeLamp N M j1 a2 = some res) (l : Launch) (E : Ev) : CtI l E (Wc E) yX5_takeLamp cX5_takeLamp 4 .boolean 3 62 [.ref (ec E 34), .ref (ec E (8 + j1)), .int a2] M res.1 res.2 :=
  ctI_of (Wf := Wc) (av := fun E => [.ref (ec E 34), .ref (ec E (8 + j1)), .int a2]) (lv := fun E => [(0, .ref (ec E 34)), (1, .ref (ec E (8 + j1))), (2, .int a2)]) (by decide) (fun _ => rfl) (fun _ => (Nat.le_of_ble_eq_true rfl)) (fun X F hx Rt => by
    have F : Fx X cX5_takeLamp RX5 3 62 := F
    unfold mX5_takeLamp at h
    refine g_aload_n (pc := 0) (x := ec (xE X) 34) F dX5_takeLamp_0 rfl 0 rfl ?_
    obtain ⟨M1, e2, h⟩ := bd_some h
    refine g_vV (pc := 1) (Wf := Wc) (As := []) (rest := []) F (hX5_next e2 (xl X) (xE X)) kX5_next lX5_23 34 rfl (wc_Tx _ _) rfl rfl rfl ⟨(Nat.le_of_ble_eq_true rfl), (Nat.le_of_ble_eq_true rfl)⟩ (Nat.le_of_ble_eq_true rfl) dX5_takeLamp_1 ?_
    refine g_aload_n (pc := 4) (x := ec (xE X) 34) F dX5_takeLamp_4 rfl 0 rfl ?_
    refine g_bipush (pc := 5) F dX5_takeLamp_5 bp_11 ?_
    obtain ⟨q3, e4, h⟩ := bd_some h
    refine g_vI (pc := 7) (Wf := Wc) (As := [.int (11 : Int32)]) (rest := []) F (hX5_takeNumber e4 (xl X) (xE X)) kX5_takeNumber lX5_74 34 rfl (wc_Tx _ _) rfl rfl rfl ⟨(Nat.le_of_ble_eq_true rfl), (Nat.le_of_ble_eq_true rfl)⟩ (Nat.le_of_ble_eq_true rfl) dX5_takeLamp_7 ?_
    refine g_if_ne (pc := 10) (tgt := 15) F dX5_takeLamp_10 (by decide) (fun c5 => ?_) (fun c5 => ?_)
    · have h := ite_f c5 h
      refine g_iconst (pc := 15) F dX5_takeLamp_15 ic_1 ?_
      refine g_aload_n (pc := 16) (x := ec (xE X) 34) F dX5_takeLamp_16 rfl 0 rfl ?_
      refine g_get (pc := 17) (v := .int (q3.2.1 3 6)) F fX5_78 34 (wc_Tx _ _) rfl dX5_takeLamp_17 ?_
      refine g_ishl (pc := 20) F dX5_takeLamp_20 ?_
      refine g_istore_n (pc := 21) (lv2 := [(0, .ref (ec (xE X) 34)), (1, .ref (ec (xE X) (8 + j1))), (2, .int a2), (3, .int ((1 : Int32) <<< ((q3.2.1 3 6) &&& 31)))]) F dX5_takeLamp_21 rfl (by rw [hx]; decide) [1, 2, 3, 0] rfl ?_
      refine g_aload_n (pc := 22) (x := ec (xE X) (8 + j1)) F dX5_takeLamp_22 rfl 1 rfl ?_
      refine g_iload_n (pc := 23) (x := a2) F dX5_takeLamp_23 rfl 2 rfl ?_
      refine g_if_eq (pc := 24) (tgt := 36) F dX5_takeLamp_24 (by decide) (fun c6 => ?_) (fun c6 => ?_)
      · have h := ite_t c6 h
        refine g_aload_n (pc := 36) (x := ec (xE X) (8 + j1)) F dX5_takeLamp_36 rfl 1 rfl ?_
        refine g_get (pc := 37) (v := .int (q3.2.1 j1 3)) F fX5_93 (8 + j1) (wc_S _ _ hj1) rfl dX5_takeLamp_37 ?_
        refine g_iload_n (pc := 40) (x := (1 : Int32) <<< ((q3.2.1 3 6) &&& 31)) F dX5_takeLamp_40 rfl 3 rfl ?_
        refine g_iconst (pc := 41) F dX5_takeLamp_41 ic_m1 ?_
        refine g_ixor (pc := 42) F dX5_takeLamp_42 ?_
        refine g_iand (pc := 43) F dX5_takeLamp_43 ?_
        refine g_put (pc := 44) (ws2 := Wc (xE X) (sI q3.2 j1 3 ((q3.2.1 j1 3) &&& (((1 : Int32) <<< ((q3.2.1 3 6) &&& 31)) ^^^ (-1 : Int32))))) F pX5_93 (8 + j1) (wc_S _ _ hj1) rfl rfl (Nat.le_of_ble_eq_true rfl) (wcp_S3 _ _ hj1 _) dX5_takeLamp_44 ?_
        refine g_iconst (pc := 47) F dX5_takeLamp_47 ic_1 ?_
        obtain rfl := Option.some.inj h
        exact g_iret (pc := 48) (Wf := Wc) F Rt (by decide) dX5_takeLamp_48
      · have h := ite_f c6 h
        refine g_aload_n (pc := 27) (x := ec (xE X) (8 + j1)) F dX5_takeLamp_27 rfl 1 rfl ?_
        refine g_get (pc := 28) (v := .int (q3.2.1 j1 3)) F fX5_93 (8 + j1) (wc_S _ _ hj1) rfl dX5_takeLamp_28 ?_
        refine g_iload_n (pc := 31) (x := (1 : Int32) <<< ((q3.2.1 3 6) &&& 31)) F dX5_takeLamp_31 rfl 3 rfl ?_
        refine g_ior (pc := 32) F dX5_takeLamp_32 ?_
        refine g_goto (pc := 33) (tgt := 44) F dX5_takeLamp_33 (by decide) ?_
        refine g_put (pc := 44) (ws2 := Wc (xE X) (sI q3.2 j1 3 ((q3.2.1 j1 3) ||| ((1 : Int32) <<< ((q3.2.1 3 6) &&& 31))))) F pX5_93 (8 + j1) (wc_S _ _ hj1) rfl rfl (Nat.le_of_ble_eq_true rfl) (wcp_S3 _ _ hj1 _) dX5_takeLamp_44 ?_
        refine g_iconst (pc := 47) F dX5_takeLamp_47 ic_1 ?_
        obtain rfl := Option.some.inj h
        exact g_iret (pc := 48) (Wf := Wc) F Rt (by decide) dX5_takeLamp_48
    · have h := ite_t c5 h
      refine g_iconst (pc := 13) F dX5_takeLamp_13 ic_0 ?_
      obtain rfl := Option.some.inj h
      exact g_iret (pc := 14) (Wf := Wc) F Rt (by decide) dX5_takeLamp_14) l E
set_option maxHeartbeats 4000000 in
set_option maxRecDepth 100000 in
theorem hX5_takeReach {N : Nat} {M : Mem} {j1 : Nat} (hj1 : j1 < 3) {res : Int32 × Mem} (h : mX5_takeReach N M j1 = some res) (l : Launch) (E : Ev) : CtI l E (Wc E) yX5_takeReach cX5_takeReach 2 .boolean 3 62 [.ref (ec E 34), .ref (ec E (8 + j1))] M res.1 res.2 :=
  ctI_of (Wf := Wc) (av := fun E => [.ref (ec E 34), .ref (ec E (8 + j1))]) (lv := fun E => [(0, .ref (ec E 34)), (1, .ref (ec E (8 + j1)))]) (by decide) (fun _ => rfl) (fun _ => (Nat.le_of_ble_eq_true rfl)) (fun X F hx Rt => by
    have F : Fx X cX5_takeReach RX5 3 62 := F
    unfold mX5_takeReach at h
    refine g_aload_n (pc := 0) (x := ec (xE X) 34) F dX5_takeReach_0 rfl 0 rfl ?_
    obtain ⟨M1, e2, h⟩ := bd_some h
    refine g_vV (pc := 1) (Wf := Wc) (As := []) (rest := []) F (hX5_next e2 (xl X) (xE X)) kX5_next lX5_23 34 rfl (wc_Tx _ _) rfl rfl rfl ⟨(Nat.le_of_ble_eq_true rfl), (Nat.le_of_ble_eq_true rfl)⟩ (Nat.le_of_ble_eq_true rfl) dX5_takeReach_1 ?_
    refine g_aload_n (pc := 4) (x := ec (xE X) 34) F dX5_takeReach_4 rfl 0 rfl ?_
    refine g_bipush (pc := 5) F dX5_takeReach_5 bp_9 ?_
    obtain ⟨q3, e4, h⟩ := bd_some h
    refine g_vI (pc := 7) (Wf := Wc) (As := [.int (9 : Int32)]) (rest := []) F (hX5_takeNumber e4 (xl X) (xE X)) kX5_takeNumber lX5_74 34 rfl (wc_Tx _ _) rfl rfl rfl ⟨(Nat.le_of_ble_eq_true rfl), (Nat.le_of_ble_eq_true rfl)⟩ (Nat.le_of_ble_eq_true rfl) dX5_takeReach_7 ?_
    refine g_if_ne (pc := 10) (tgt := 15) F dX5_takeReach_10 (by decide) (fun c5 => ?_) (fun c5 => ?_)
    · have h := ite_f c5 h
      refine g_aload_n (pc := 15) (x := ec (xE X) (8 + j1)) F dX5_takeReach_15 rfl 1 rfl ?_
      refine g_aload_n (pc := 16) (x := ec (xE X) 34) F dX5_takeReach_16 rfl 0 rfl ?_
      refine g_get (pc := 17) (v := .int (q3.2.1 3 6)) F fX5_78 34 (wc_Tx _ _) rfl dX5_takeReach_17 ?_
      refine g_put (pc := 20) (ws2 := Wc (xE X) (sI q3.2 j1 4 (q3.2.1 3 6))) F pX5_96 (8 + j1) (wc_S _ _ hj1) rfl rfl (Nat.le_of_ble_eq_true rfl) (wcp_S4 _ _ hj1 _) dX5_takeReach_20 ?_
      refine g_iconst (pc := 23) F dX5_takeReach_23 ic_1 ?_
      obtain rfl := Option.some.inj h
      exact g_iret (pc := 24) (Wf := Wc) F Rt (by decide) dX5_takeReach_24
    · have h := ite_t c5 h
      refine g_iconst (pc := 13) F dX5_takeReach_13 ic_0 ?_
      obtain rfl := Option.some.inj h
      exact g_iret (pc := 14) (Wf := Wc) F Rt (by decide) dX5_takeReach_14) l E
set_option maxHeartbeats 4000000 in
set_option maxRecDepth 100000 in
theorem wX5_takeItem_b12 {X : Cx} (F : Fx X cX5_takeItem RX5 6 146) (hx : xn X = 3) {N : Nat} {res : Int32 × Mem} (Rt : RI X Wc .boolean res.1 res.2) : ∀ (n : Nat) (M : Mem) (j1 : Nat) (hj1 : j1 < 3) (a2 : Int32), mX5_takeItem_b12 N n M j1 a2 = some res → G X (Wc (xE X) M) 12 [(0, .ref (ec (xE X) 34)), (1, .ref (ec (xE X) (8 + j1))), (2, .int a2)] [] := by
  intro n
  induction n with
  | zero =>
    intro M j1 hj1 a2 h
    have h : none = some res := h
    cases h
  | succ n ih =>
    intro M j1 hj1 a2 h
    rw [mX5_takeItem_b12] at h
    refine g_iload_n (pc := 12) (x := a2) F dX5_takeItem_12 rfl 2 rfl ?_
    refine g_aload_n (pc := 13) (x := ec (xE X) 34) F dX5_takeItem_13 rfl 0 rfl ?_
    refine g_get (pc := 14) (v := .ref (ec (xE X) 1)) F fX5_15 34 (wc_Tx _ _) rfl dX5_takeItem_14 ?_
    refine g_alen (pc := 17) (v := (6 : Int32)) F 1 4 (wc_Ks _ _) rfl (show Int32.ofNat 6 = 6 by decide) dX5_takeItem_17 ?_
    refine g_icmp_ge (pc := 18) (tgt := 55) F dX5_takeItem_18 (by decide) (fun c2 => ?_) (fun c2 => ?_)
    · have h := ite_t c2 h
      refine g_aload_n (pc := 55) (x := ec (xE X) 34) F dX5_takeItem_55 rfl 0 rfl ?_
      refine g_ldcS (pc := 56) F (tx := "tower") (i := 7) (List.mem_of_getElem? (i := 7) rfl) dX5_takeItem_56 ?_
      obtain ⟨r3, e4, h⟩ := bd_some h
      refine g_vI (pc := 58) (Wf := Wc) (As := [.ref (eK (xE X) 7)]) (rest := []) F (hX5_isWord (by decide) e4 (xl X) (xE X)) kX5_isWord lX5_42 34 rfl (wc_Tx _ _) rfl rfl rfl ⟨(Nat.le_of_ble_eq_true rfl), (Nat.le_of_ble_eq_true rfl)⟩ (Nat.le_of_ble_eq_true rfl) dX5_takeItem_58 ?_
      refine g_if_eq (pc := 61) (tgt := 70) F dX5_takeItem_61 (by decide) (fun c5 => ?_) (fun c5 => ?_)
      · have h := ite_t c5 h
        refine g_aload_n (pc := 70) (x := ec (xE X) 34) F dX5_takeItem_70 rfl 0 rfl ?_
        refine g_ldcS (pc := 71) F (tx := "burns") (i := 8) (List.mem_of_getElem? (i := 8) rfl) dX5_takeItem_71 ?_
        obtain ⟨r6, e7, h⟩ := bd_some h
        refine g_vI (pc := 73) (Wf := Wc) (As := [.ref (eK (xE X) 8)]) (rest := []) F (hX5_isWord (by decide) e7 (xl X) (xE X)) kX5_isWord lX5_42 34 rfl (wc_Tx _ _) rfl rfl rfl ⟨(Nat.le_of_ble_eq_true rfl), (Nat.le_of_ble_eq_true rfl)⟩ (Nat.le_of_ble_eq_true rfl) dX5_takeItem_73 ?_
        refine g_if_eq (pc := 76) (tgt := 86) F dX5_takeItem_76 (by decide) (fun c8 => ?_) (fun c8 => ?_)
        · have h := ite_t c8 h
          refine g_aload_n (pc := 86) (x := ec (xE X) 34) F dX5_takeItem_86 rfl 0 rfl ?_
          refine g_ldcS (pc := 87) F (tx := "dark") (i := 9) (List.mem_of_getElem? (i := 9) rfl) dX5_takeItem_87 ?_
          obtain ⟨r9, e10, h⟩ := bd_some h
          refine g_vI (pc := 89) (Wf := Wc) (As := [.ref (eK (xE X) 9)]) (rest := []) F (hX5_isWord (by decide) e10 (xl X) (xE X)) kX5_isWord lX5_42 34 rfl (wc_Tx _ _) rfl rfl rfl ⟨(Nat.le_of_ble_eq_true rfl), (Nat.le_of_ble_eq_true rfl)⟩ (Nat.le_of_ble_eq_true rfl) dX5_takeItem_89 ?_
          refine g_if_eq (pc := 92) (tgt := 102) F dX5_takeItem_92 (by decide) (fun c11 => ?_) (fun c11 => ?_)
          · have h := ite_t c11 h
            refine g_aload_n (pc := 102) (x := ec (xE X) 34) F dX5_takeItem_102 rfl 0 rfl ?_
            refine g_ldcS (pc := 103) F (tx := "reach") (i := 10) (List.mem_of_getElem? (i := 10) rfl) dX5_takeItem_103 ?_
            obtain ⟨r12, e13, h⟩ := bd_some h
            refine g_vI (pc := 105) (Wf := Wc) (As := [.ref (eK (xE X) 10)]) (rest := []) F (hX5_isWord (by decide) e13 (xl X) (xE X)) kX5_isWord lX5_42 34 rfl (wc_Tx _ _) rfl rfl rfl ⟨(Nat.le_of_ble_eq_true rfl), (Nat.le_of_ble_eq_true rfl)⟩ (Nat.le_of_ble_eq_true rfl) dX5_takeItem_105 ?_
            refine g_if_eq (pc := 108) (tgt := 123) F dX5_takeItem_108 (by decide) (fun c14 => ?_) (fun c14 => ?_)
            · have h := ite_t c14 h
              refine g_iconst (pc := 123) F dX5_takeItem_123 ic_0 ?_
              obtain rfl := Option.some.inj h
              exact g_iret (pc := 124) (Wf := Wc) F Rt (by decide) dX5_takeItem_124
            · have h := ite_f c14 h
              refine g_aload_n (pc := 111) (x := ec (xE X) 34) F dX5_takeItem_111 rfl 0 rfl ?_
              refine g_aload_n (pc := 112) (x := ec (xE X) (8 + j1)) F dX5_takeItem_112 rfl 1 rfl ?_
              obtain ⟨q15, e16, h⟩ := bd_some h
              refine g_vI (pc := 113) (Wf := Wc) (As := [.ref (ec (xE X) (8 + j1))]) (rest := []) F (hX5_takeReach hj1 e16 (xl X) (xE X)) kX5_takeReach lX5_65 34 rfl (wc_Tx _ _) rfl rfl rfl ⟨(Nat.le_of_ble_eq_true rfl), (Nat.le_of_ble_eq_true rfl)⟩ (Nat.le_of_ble_eq_true rfl) dX5_takeItem_113 ?_
              refine g_if_eq (pc := 116) (tgt := 123) F dX5_takeItem_116 (by decide) (fun c17 => ?_) (fun c17 => ?_)
              · have h := ite_t c17 h
                refine g_iconst (pc := 123) F dX5_takeItem_123 ic_0 ?_
                obtain rfl := Option.some.inj h
                exact g_iret (pc := 124) (Wf := Wc) F Rt (by decide) dX5_takeItem_124
              · have h := ite_f c17 h
                refine g_iconst (pc := 119) F dX5_takeItem_119 ic_1 ?_
                refine g_goto (pc := 120) (tgt := 124) F dX5_takeItem_120 (by decide) ?_
                obtain rfl := Option.some.inj h
                exact g_iret (pc := 124) (Wf := Wc) F Rt (by decide) dX5_takeItem_124
          · have h := ite_f c11 h
            refine g_aload_n (pc := 95) (x := ec (xE X) 34) F dX5_takeItem_95 rfl 0 rfl ?_
            refine g_aload_n (pc := 96) (x := ec (xE X) (8 + j1)) F dX5_takeItem_96 rfl 1 rfl ?_
            refine g_iconst (pc := 97) F dX5_takeItem_97 ic_0 ?_
            obtain ⟨q18, e19, h⟩ := bd_some h
            refine g_vI (pc := 98) (Wf := Wc) (As := [.ref (ec (xE X) (8 + j1)), .int (0 : Int32)]) (rest := []) F (hX5_takeLamp hj1 e19 (xl X) (xE X)) kX5_takeLamp lX5_57 34 rfl (wc_Tx _ _) rfl rfl rfl ⟨(Nat.le_of_ble_eq_true rfl), (Nat.le_of_ble_eq_true rfl)⟩ (Nat.le_of_ble_eq_true rfl) dX5_takeItem_98 ?_
            obtain ⟨b20, h⟩ := ck_some h
            obtain rfl := Option.some.inj h
            exact g_iret (pc := 101) (Wf := Wc) F Rt (nb01 b20).1 dX5_takeItem_101
        · have h := ite_f c8 h
          refine g_aload_n (pc := 79) (x := ec (xE X) 34) F dX5_takeItem_79 rfl 0 rfl ?_
          refine g_aload_n (pc := 80) (x := ec (xE X) (8 + j1)) F dX5_takeItem_80 rfl 1 rfl ?_
          refine g_iconst (pc := 81) F dX5_takeItem_81 ic_1 ?_
          obtain ⟨q21, e22, h⟩ := bd_some h
          refine g_vI (pc := 82) (Wf := Wc) (As := [.ref (ec (xE X) (8 + j1)), .int (1 : Int32)]) (rest := []) F (hX5_takeLamp hj1 e22 (xl X) (xE X)) kX5_takeLamp lX5_57 34 rfl (wc_Tx _ _) rfl rfl rfl ⟨(Nat.le_of_ble_eq_true rfl), (Nat.le_of_ble_eq_true rfl)⟩ (Nat.le_of_ble_eq_true rfl) dX5_takeItem_82 ?_
          obtain ⟨b23, h⟩ := ck_some h
          obtain rfl := Option.some.inj h
          exact g_iret (pc := 85) (Wf := Wc) F Rt (nb01 b23).1 dX5_takeItem_85
      · have h := ite_f c5 h
        refine g_aload_n (pc := 64) (x := ec (xE X) 34) F dX5_takeItem_64 rfl 0 rfl ?_
        refine g_aload_n (pc := 65) (x := ec (xE X) (8 + j1)) F dX5_takeItem_65 rfl 1 rfl ?_
        obtain ⟨q24, e25, h⟩ := bd_some h
        refine g_vI (pc := 66) (Wf := Wc) (As := [.ref (ec (xE X) (8 + j1))]) (rest := []) F (hX5_takeTower hj1 e25 (xl X) (xE X)) kX5_takeTower lX5_52 34 rfl (wc_Tx _ _) rfl rfl rfl ⟨(Nat.le_of_ble_eq_true rfl), (Nat.le_of_ble_eq_true rfl)⟩ (Nat.le_of_ble_eq_true rfl) dX5_takeItem_66 ?_
        obtain ⟨b26, h⟩ := ck_some h
        obtain rfl := Option.some.inj h
        exact g_iret (pc := 69) (Wf := Wc) F Rt (nb01 b26).1 dX5_takeItem_69
    · have h := ite_f c2 h
      refine g_aload_n (pc := 21) (x := ec (xE X) 34) F dX5_takeItem_21 rfl 0 rfl ?_
      refine g_aload_n (pc := 22) (x := ec (xE X) 34) F dX5_takeItem_22 rfl 0 rfl ?_
      refine g_get (pc := 23) (v := .ref (ec (xE X) 1)) F fX5_15 34 (wc_Tx _ _) rfl dX5_takeItem_23 ?_
      refine g_iload_n (pc := 26) (x := a2) F dX5_takeItem_26 rfl 2 rfl ?_
      obtain ⟨i27, h⟩ := ck_some h
      refine g_aald (pc := 27) (C := "TowerWarns$Ship") (b := ec (xE X) (2 + a2.toNatClampNeg)) F 1 4 (wc_Ks _ _) rfl i27 rfl dX5_takeItem_27 ?_
      obtain ⟨i28, h⟩ := ck_some h
      refine gd_title (pc := 28) (rest := [.ref (ec (xE X) 34)]) F i28 lX5_36 rfl ⟨(Nat.le_of_ble_eq_true rfl), (Nat.le_of_ble_eq_true rfl)⟩ (Nat.le_of_ble_eq_true rfl) dX5_takeItem_28 ?_
      obtain ⟨r29, e30, h⟩ := bd_some h
      refine g_vI (pc := 31) (Wf := Wc) (As := [.ref (eK (xE X) a2.toNatClampNeg)]) (rest := []) F (hX5_isWord (Nat.lt_of_lt_of_le (ok_lt i28) (by decide)) e30 (xl X) (xE X)) kX5_isWord lX5_42 34 rfl (wc_Tx _ _) rfl rfl rfl ⟨(Nat.le_of_ble_eq_true rfl), (Nat.le_of_ble_eq_true rfl)⟩ (Nat.le_of_ble_eq_true rfl) dX5_takeItem_31 ?_
      refine g_if_eq (pc := 34) (tgt := 49) F dX5_takeItem_34 (by decide) (fun c31 => ?_) (fun c31 => ?_)
      · have h := ite_t c31 h
        refine g_iinc (pc := 49) (lv2 := [(0, .ref (ec (xE X) 34)), (1, .ref (ec (xE X) (8 + j1))), (2, .int (a2 + (1 : Int32)))]) F dX5_takeItem_49 2 rfl (ii_1 _) (by rw [hx]; decide) [1, 2, 0] rfl ?_
        refine g_goto (pc := 52) (tgt := 12) F dX5_takeItem_52 (by decide) ?_
        refine g_sub [0, 1, 2] rfl ?_
        exact ih M j1 hj1 (a2 + (1 : Int32)) h
      · have h := ite_f c31 h
        refine g_aload_n (pc := 37) (x := ec (xE X) 34) F dX5_takeItem_37 rfl 0 rfl ?_
        refine g_aload_n (pc := 38) (x := ec (xE X) (8 + j1)) F dX5_takeItem_38 rfl 1 rfl ?_
        refine g_aload_n (pc := 39) (x := ec (xE X) 34) F dX5_takeItem_39 rfl 0 rfl ?_
        refine g_get (pc := 40) (v := .ref (ec (xE X) 1)) F fX5_15 34 (wc_Tx _ _) rfl dX5_takeItem_40 ?_
        refine g_iload_n (pc := 43) (x := a2) F dX5_takeItem_43 rfl 2 rfl ?_
        obtain ⟨i32, h⟩ := ck_some h
        refine g_aald (pc := 44) (C := "TowerWarns$Ship") (b := ec (xE X) (2 + a2.toNatClampNeg)) F 1 4 (wc_Ks _ _) rfl i32 rfl dX5_takeItem_44 ?_
        obtain ⟨q33, e34, h⟩ := bd_some h
        refine g_vI (pc := 45) (Wf := Wc) (As := [.ref (ec (xE X) (8 + j1)), .ref (ec (xE X) (2 + a2.toNatClampNeg))]) (rest := []) F (hX5_takeShip hj1 e34 (xl X) (xE X)) kX5_takeShip lX5_46 34 rfl (wc_Tx _ _) rfl rfl rfl ⟨(Nat.le_of_ble_eq_true rfl), (Nat.le_of_ble_eq_true rfl)⟩ (Nat.le_of_ble_eq_true rfl) dX5_takeItem_45 ?_
        obtain ⟨b35, h⟩ := ck_some h
        obtain rfl := Option.some.inj h
        exact g_iret (pc := 48) (Wf := Wc) F Rt (nb01 b35).1 dX5_takeItem_48
set_option maxHeartbeats 4000000 in
set_option maxRecDepth 100000 in
theorem hX5_takeItem {N : Nat} {M : Mem} {j1 : Nat} (hj1 : j1 < 3) {res : Int32 × Mem} (h : mX5_takeItem N M j1 = some res) (l : Launch) (E : Ev) : CtI l E (Wc E) yX5_takeItem cX5_takeItem 3 .boolean 6 146 [.ref (ec E 34), .ref (ec E (8 + j1))] M res.1 res.2 :=
  ctI_of (Wf := Wc) (av := fun E => [.ref (ec E 34), .ref (ec E (8 + j1))]) (lv := fun E => [(0, .ref (ec E 34)), (1, .ref (ec E (8 + j1)))]) (by decide) (fun _ => rfl) (fun _ => (Nat.le_of_ble_eq_true rfl)) (fun X F hx Rt => by
    have F : Fx X cX5_takeItem RX5 6 146 := F
    unfold mX5_takeItem at h
    refine g_aload_n (pc := 0) (x := ec (xE X) 34) F dX5_takeItem_0 rfl 0 rfl ?_
    refine g_get (pc := 1) (v := .int (M.1 3 2)) F fX5_33 34 (wc_Tx _ _) rfl dX5_takeItem_1 ?_
    refine g_iconst (pc := 4) F dX5_takeItem_4 ic_1 ?_
    refine g_icmp_eq (pc := 5) (tgt := 10) F dX5_takeItem_5 (by decide) (fun c1 => ?_) (fun c1 => ?_)
    · have h := ite_t c1 h
      refine g_iconst (pc := 10) F dX5_takeItem_10 ic_0 ?_
      refine g_istore_n (pc := 11) (lv2 := [(0, .ref (ec (xE X) 34)), (1, .ref (ec (xE X) (8 + j1))), (2, .int (0 : Int32))]) F dX5_takeItem_11 rfl (by rw [hx]; decide) [1, 2, 0] rfl ?_
      refine g_sub [0, 1, 2] rfl ?_
      exact wX5_takeItem_b12 F hx Rt N M j1 hj1 (0 : Int32) h
    · have h := ite_f c1 h
      refine g_iconst (pc := 8) F dX5_takeItem_8 ic_0 ?_
      obtain rfl := Option.some.inj h
      exact g_iret (pc := 9) (Wf := Wc) F Rt (by decide) dX5_takeItem_9) l E
set_option maxHeartbeats 4000000 in
set_option maxRecDepth 100000 in
theorem wX5_tell_b7 {X : Cx} (F : Fx X cX5_tell RX5 7 168) (hx : xn X = 3) {N : Nat} {res : Int32 × Mem} (Rt : RI X Wc .int res.1 res.2) : ∀ (n : Nat) (M : Mem) (j1 : Nat) (hj1 : j1 < 3) (a2 : Int32), mX5_tell_b7 N n M j1 a2 = some res → G X (Wc (xE X) M) 7 [(0, .ref (ec (xE X) 34)), (1, .ref (ec (xE X) (8 + j1))), (2, .int a2)] [] := by
  intro n
  induction n with
  | zero =>
    intro M j1 hj1 a2 h
    have h : none = some res := h
    cases h
  | succ n ih =>
    intro M j1 hj1 a2 h
    rw [mX5_tell_b7] at h
    refine g_iload_n (pc := 7) (x := a2) F dX5_tell_7 rfl 2 rfl ?_
    refine g_bipush (pc := 8) F dX5_tell_8 bp_120 ?_
    refine g_icmp_gt (pc := 10) (tgt := 62) F dX5_tell_10 (by decide) (fun c1 => ?_) (fun c1 => ?_)
    · have h := ite_t c1 h
      refine g_iconst (pc := 62) F dX5_tell_62 ic_m1 ?_
      refine g_aload_n (pc := 63) (x := ec (xE X) 34) F dX5_tell_63 rfl 0 rfl ?_
      refine g_get (pc := 64) (v := .int (M.1 3 3)) F fX5_30 34 (wc_Tx _ _) rfl dX5_tell_64 ?_
      refine g_isub (pc := 67) F dX5_tell_67 ?_
      obtain rfl := Option.some.inj h
      exact g_iret (pc := 68) (Wf := Wc) F Rt rfl dX5_tell_68
    · have h := ite_f c1 h
      refine g_aload_n (pc := 13) (x := ec (xE X) 34) F dX5_tell_13 rfl 0 rfl ?_
      obtain ⟨M2, e3, h⟩ := bd_some h
      refine g_vV (pc := 14) (Wf := Wc) (As := []) (rest := []) F (hX5_next e3 (xl X) (xE X)) kX5_next lX5_23 34 rfl (wc_Tx _ _) rfl rfl rfl ⟨(Nat.le_of_ble_eq_true rfl), (Nat.le_of_ble_eq_true rfl)⟩ (Nat.le_of_ble_eq_true rfl) dX5_tell_14 ?_
      refine g_aload_n (pc := 17) (x := ec (xE X) 34) F dX5_tell_17 rfl 0 rfl ?_
      refine g_aload_n (pc := 18) (x := ec (xE X) (8 + j1)) F dX5_tell_18 rfl 1 rfl ?_
      obtain ⟨q4, e5, h⟩ := bd_some h
      refine g_vI (pc := 19) (Wf := Wc) (As := [.ref (ec (xE X) (8 + j1))]) (rest := []) F (hX5_takeItem hj1 e5 (xl X) (xE X)) kX5_takeItem lX5_26 34 rfl (wc_Tx _ _) rfl rfl rfl ⟨(Nat.le_of_ble_eq_true rfl), (Nat.le_of_ble_eq_true rfl)⟩ (Nat.le_of_ble_eq_true rfl) dX5_tell_19 ?_
      refine g_if_ne (pc := 22) (tgt := 32) F dX5_tell_22 (by decide) (fun c6 => ?_) (fun c6 => ?_)
      · have h := ite_f c6 h
        refine g_aload_n (pc := 32) (x := ec (xE X) 34) F dX5_tell_32 rfl 0 rfl ?_
        refine g_get (pc := 33) (v := .int (q4.2.1 3 2)) F fX5_33 34 (wc_Tx _ _) rfl dX5_tell_33 ?_
        refine g_if_ne (pc := 36) (tgt := 41) F dX5_tell_36 (by decide) (fun c7 => ?_) (fun c7 => ?_)
        · have h := ite_f c7 h
          refine g_aload_n (pc := 41) (x := ec (xE X) 34) F dX5_tell_41 rfl 0 rfl ?_
          refine g_get (pc := 42) (v := .int (q4.2.1 3 2)) F fX5_33 34 (wc_Tx _ _) rfl dX5_tell_42 ?_
          refine g_iconst (pc := 45) F dX5_tell_45 ic_3 ?_
          refine g_icmp_eq (pc := 46) (tgt := 56) F dX5_tell_46 (by decide) (fun c8 => ?_) (fun c8 => ?_)
          · have h := ite_t c8 h
            refine g_iinc (pc := 56) (lv2 := [(0, .ref (ec (xE X) 34)), (1, .ref (ec (xE X) (8 + j1))), (2, .int (a2 + (1 : Int32)))]) F dX5_tell_56 2 rfl (ii_1 _) (by rw [hx]; decide) [1, 2, 0] rfl ?_
            refine g_goto (pc := 59) (tgt := 7) F dX5_tell_59 (by decide) ?_
            refine g_sub [0, 1, 2] rfl ?_
            exact ih q4.2 j1 hj1 (a2 + (1 : Int32)) h
          · have h := ite_f c8 h
            refine g_iconst (pc := 49) F dX5_tell_49 ic_m1 ?_
            refine g_aload_n (pc := 50) (x := ec (xE X) 34) F dX5_tell_50 rfl 0 rfl ?_
            refine g_get (pc := 51) (v := .int (q4.2.1 3 3)) F fX5_30 34 (wc_Tx _ _) rfl dX5_tell_51 ?_
            refine g_isub (pc := 54) F dX5_tell_54 ?_
            obtain rfl := Option.some.inj h
            exact g_iret (pc := 55) (Wf := Wc) F Rt rfl dX5_tell_55
        · have h := ite_t c7 h
          refine g_iload_n (pc := 39) (x := a2) F dX5_tell_39 rfl 2 rfl ?_
          obtain rfl := Option.some.inj h
          exact g_iret (pc := 40) (Wf := Wc) F Rt rfl dX5_tell_40
      · have h := ite_t c6 h
        refine g_iconst (pc := 25) F dX5_tell_25 ic_m1 ?_
        refine g_aload_n (pc := 26) (x := ec (xE X) 34) F dX5_tell_26 rfl 0 rfl ?_
        refine g_get (pc := 27) (v := .int (q4.2.1 3 3)) F fX5_30 34 (wc_Tx _ _) rfl dX5_tell_27 ?_
        refine g_isub (pc := 30) F dX5_tell_30 ?_
        obtain rfl := Option.some.inj h
        exact g_iret (pc := 31) (Wf := Wc) F Rt rfl dX5_tell_31
set_option maxHeartbeats 4000000 in
set_option maxRecDepth 100000 in
theorem hX5_tell {N : Nat} {M : Mem} {j1 : Nat} (hj1 : j1 < 3) {res : Int32 × Mem} (h : mX5_tell N M j1 = some res) (l : Launch) (E : Ev) : CtI l E (Wc E) yX5_tell cX5_tell 3 .int 7 168 [.ref (ec E 34), .ref (ec E (8 + j1))] M res.1 res.2 :=
  ctI_of (Wf := Wc) (av := fun E => [.ref (ec E 34), .ref (ec E (8 + j1))]) (lv := fun E => [(0, .ref (ec E 34)), (1, .ref (ec E (8 + j1)))]) (by decide) (fun _ => rfl) (fun _ => (Nat.le_of_ble_eq_true rfl)) (fun X F hx Rt => by
    have F : Fx X cX5_tell RX5 7 168 := F
    unfold mX5_tell at h
    refine g_aload_n (pc := 0) (x := ec (xE X) 34) F dX5_tell_0 rfl 0 rfl ?_
    refine g_iconst (pc := 1) F dX5_tell_1 ic_0 ?_
    refine g_put (pc := 2) (ws2 := Wc (xE X) (sI M 3 4 (0 : Int32))) F pX5_19 34 (wc_Tx _ _) rfl rfl (Nat.le_of_ble_eq_true rfl) (wcp_Tx4 _ _ _) dX5_tell_2 ?_
    refine g_iconst (pc := 5) F dX5_tell_5 ic_1 ?_
    refine g_istore_n (pc := 6) (lv2 := [(0, .ref (ec (xE X) 34)), (1, .ref (ec (xE X) (8 + j1))), (2, .int (1 : Int32))]) F dX5_tell_6 rfl (by rw [hx]; decide) [1, 2, 0] rfl ?_
    refine g_sub [0, 1, 2] rfl ?_
    exact wX5_tell_b7 F hx Rt N (sI M 3 4 (0 : Int32)) j1 hj1 (1 : Int32) h) l E
