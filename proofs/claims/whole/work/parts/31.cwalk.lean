set_option maxHeartbeats 4000000 in
set_option maxRecDepth 100000 in
theorem hX11_nearest {N : Nat} {M : Mem} {a1 : Int32} {res : Int32 × Mem} (h : mX11_nearest N M a1 = some res) (l : Launch) (E : Ev) : CtI l E (Wc E) yX11_nearest cX11_nearest 2 .int 5 121 [.ref (ec E 0), .int a1] M res.1 res.2 :=
  ctI_of (Wf := Wc) (av := fun E => [.ref (ec E 0), .int a1]) (lv := fun E => [(0, .ref (ec E 0)), (1, .int a1)]) (by decide) (fun _ => rfl) (fun _ => (Nat.le_of_ble_eq_true rfl)) (fun X F hx Rt => by
    have F : Fx X cX11_nearest RX11 5 121 := F
    unfold mX11_nearest at h
    refine g_iload_n (pc := 0) (x := a1) F dX11_nearest_0 rfl 1 rfl ?_
    refine g_iconst (pc := 1) F dX11_nearest_1 ic_0 ?_
    refine g_bipush (pc := 2) F dX11_nearest_2 bp_100 ?_
    obtain ⟨r1, e2, h⟩ := bd_some h
    refine g_sI (pc := 4) (Wf := Wc) (As := [.int a1, .int (0 : Int32), .int (100 : Int32)]) (rest := []) F (hX11_isWithin (M := M) e2 (xl X) (xE X)) kX11_isWithin lX11_77 rfl rfl ⟨(Nat.le_of_ble_eq_true rfl), (Nat.le_of_ble_eq_true rfl)⟩ (Nat.le_of_ble_eq_true rfl) dX11_nearest_4 ?_
    refine g_if_ne (pc := 7) (tgt := 17) F dX11_nearest_7 (by decide) (fun c3 => ?_) (fun c3 => ?_)
    · have h := ite_f c3 h
      refine g_aload_n (pc := 17) (x := ec (xE X) 0) F dX11_nearest_17 rfl 0 rfl ?_
      refine g_get (pc := 18) (v := .ref (ec (xE X) (8 + 0))) F fX11_36 0 (wc_T _ _) rfl dX11_nearest_18 ?_
      refine g_get (pc := 21) (v := .int (M.1 0 5)) F fX11_138 (8 + 0) (wc_S _ _ (by decide)) rfl dX11_nearest_21 ?_
      refine g_if_ne (pc := 24) (tgt := 34) F dX11_nearest_24 (by decide) (fun c4 => ?_) (fun c4 => ?_)
      · have h := ite_f c4 h
        refine g_aload_n (pc := 34) (x := ec (xE X) 0) F dX11_nearest_34 rfl 0 rfl ?_
        refine g_get (pc := 35) (v := .ref (ec (xE X) (8 + 2))) F fX11_43 0 (wc_T _ _) rfl dX11_nearest_35 ?_
        refine g_aload_n (pc := 38) (x := ec (xE X) 0) F dX11_nearest_38 rfl 0 rfl ?_
        refine g_get (pc := 39) (v := .ref (ec (xE X) (8 + 0))) F fX11_36 0 (wc_T _ _) rfl dX11_nearest_39 ?_
        obtain ⟨M5, e6, h⟩ := bd_some h
        refine g_vV (pc := 42) (Wf := Wc) (As := [.ref (ec (xE X) (8 + 0))]) (rest := []) F (hX4_become (by decide) (by decide) e6 (xl X) (xE X)) kX4_become lX11_187 (8 + 2) rfl (wc_S _ _ (by decide)) rfl rfl rfl ⟨(Nat.le_of_ble_eq_true rfl), (Nat.le_of_ble_eq_true rfl)⟩ (Nat.le_of_ble_eq_true rfl) dX11_nearest_42 ?_
        refine g_aload_n (pc := 45) (x := ec (xE X) 0) F dX11_nearest_45 rfl 0 rfl ?_
        refine g_get (pc := 46) (v := .ref (ec (xE X) (8 + 2))) F fX11_43 0 (wc_T _ _) rfl dX11_nearest_46 ?_
        refine g_iload_n (pc := 49) (x := a1) F dX11_nearest_49 rfl 1 rfl ?_
        obtain ⟨M7, e8, h⟩ := bd_some h
        refine g_vV (pc := 50) (Wf := Wc) (As := [.int a1]) (rest := []) F (hX4_pass (by decide) e8 (xl X) (xE X)) kX4_pass lX11_180 (8 + 2) rfl (wc_S _ _ (by decide)) rfl rfl rfl ⟨(Nat.le_of_ble_eq_true rfl), (Nat.le_of_ble_eq_true rfl)⟩ (Nat.le_of_ble_eq_true rfl) dX11_nearest_50 ?_
        refine g_aload_n (pc := 53) (x := ec (xE X) 0) F dX11_nearest_53 rfl 0 rfl ?_
        refine g_get (pc := 54) (v := .ref (ec (xE X) (8 + 2))) F fX11_43 0 (wc_T _ _) rfl dX11_nearest_54 ?_
        obtain ⟨r9, e10, h⟩ := bd_some h
        refine g_vI (pc := 57) (Wf := Wc) (As := []) (rest := []) F (hX4_nearestOne (by decide) e10 (xl X) (xE X)) kX4_nearestOne lX11_216 (8 + 2) rfl (wc_S _ _ (by decide)) rfl rfl rfl ⟨(Nat.le_of_ble_eq_true rfl), (Nat.le_of_ble_eq_true rfl)⟩ (Nat.le_of_ble_eq_true rfl) dX11_nearest_57 ?_
        obtain rfl := Option.some.inj h
        exact g_iret (pc := 60) (Wf := Wc) F Rt rfl dX11_nearest_60
      · have h := ite_t c4 h
        refine g_aload_n (pc := 27) (x := ec (xE X) 0) F dX11_nearest_27 rfl 0 rfl ?_
        refine g_ldc (pc := 28) F oX11_194 dX11_nearest_28 ?_
        obtain ⟨q11, e12, h⟩ := bd_some h
        refine g_vI (pc := 30) (Wf := Wc) (As := [.int (-1000000004 : Int32)]) (rest := []) F (hX11_found e12 (xl X) (xE X)) kX11_found lX11_82 0 rfl (wc_T _ _) rfl rfl rfl ⟨(Nat.le_of_ble_eq_true rfl), (Nat.le_of_ble_eq_true rfl)⟩ (Nat.le_of_ble_eq_true rfl) dX11_nearest_30 ?_
        obtain rfl := Option.some.inj h
        exact g_iret (pc := 33) (Wf := Wc) F Rt rfl dX11_nearest_33
    · have h := ite_t c3 h
      refine g_aload_n (pc := 10) (x := ec (xE X) 0) F dX11_nearest_10 rfl 0 rfl ?_
      refine g_ldc (pc := 11) F oX11_81 dX11_nearest_11 ?_
      obtain ⟨q13, e14, h⟩ := bd_some h
      refine g_vI (pc := 13) (Wf := Wc) (As := [.int (-1000000001 : Int32)]) (rest := []) F (hX11_found e14 (xl X) (xE X)) kX11_found lX11_82 0 rfl (wc_T _ _) rfl rfl rfl ⟨(Nat.le_of_ble_eq_true rfl), (Nat.le_of_ble_eq_true rfl)⟩ (Nat.le_of_ble_eq_true rfl) dX11_nearest_13 ?_
      obtain rfl := Option.some.inj h
      exact g_iret (pc := 16) (Wf := Wc) F Rt rfl dX11_nearest_16) l E
set_option maxHeartbeats 4000000 in
set_option maxRecDepth 100000 in
theorem wX11_feed_b41 {X : Cx} (F : Fx X cX11_feed RX11 2 44) (hx : xn X = 4) {N : Nat} {res : Int32 × Mem} (Rt : RI X Wc .int res.1 res.2) : ∀ (n : Nat) (M : Mem) (a1 : Int32) (a3 : Int32), mX11_feed_b41 N n M a1 a3 = some res → G X (Wc (xE X) M) 41 [(0, .ref (ec (xE X) 0)), (1, .int a1), (3, .int a3)] [] := by
  intro n
  induction n with
  | zero =>
    intro M a1 a3 h
    have h : none = some res := h
    cases h
  | succ n ih =>
    intro M a1 a3 h
    rw [mX11_feed_b41] at h
    refine g_iload_n (pc := 41) (x := a3) F dX11_feed_41 rfl 2 rfl ?_
    refine g_if_lt (pc := 42) (tgt := 65) F dX11_feed_42 (by decide) (fun c5 => ?_) (fun c5 => ?_)
    · have h := ite_t c5 h
      refine g_aload_n (pc := 65) (x := ec (xE X) 0) F dX11_feed_65 rfl 0 rfl ?_
      refine g_get (pc := 66) (v := .ref (ec (xE X) 32)) F fX11_53 0 (wc_T _ _) rfl dX11_feed_66 ?_
      refine g_get (pc := 69) (v := .int (M.1 3 1)) F fX11_219 32 (wc_Tp _ _) rfl dX11_feed_69 ?_
      obtain rfl := Option.some.inj h
      exact g_iret (pc := 72) (Wf := Wc) F Rt rfl dX11_feed_72
    · have h := ite_f c5 h
      refine g_aload_n (pc := 45) (x := ec (xE X) 0) F dX11_feed_45 rfl 0 rfl ?_
      refine g_get (pc := 46) (v := .ref (ec (xE X) 32)) F fX11_53 0 (wc_T _ _) rfl dX11_feed_46 ?_
      refine g_iload_n (pc := 49) (x := a1) F dX11_feed_49 rfl 1 rfl ?_
      refine g_bipush (pc := 50) F dX11_feed_50 bp_8 ?_
      refine g_iload_n (pc := 52) (x := a3) F dX11_feed_52 rfl 2 rfl ?_
      refine g_imul (pc := 53) F dX11_feed_53 ?_
      refine g_iushr (pc := 54) F dX11_feed_54 ?_
      refine g_i2b (pc := 55) F dX11_feed_55 ?_
      obtain ⟨M6, e7, h⟩ := bd_some h
      refine g_vV (pc := 56) (Wf := Wc) (As := [.int (((a1.toUInt32 >>> (((8 : Int32) * a3).toUInt32 &&& Int32.toUInt32 31)).toInt32).toInt8.toInt32)]) (rest := []) F (hX9_add e7 (xl X) (xE X)) kX9_add lX11_222 32 rfl (wc_Tp _ _) rfl rfl rfl ⟨(Nat.le_of_ble_eq_true rfl), (Nat.le_of_ble_eq_true rfl)⟩ (Nat.le_of_ble_eq_true rfl) dX11_feed_56 ?_
      refine g_iinc (pc := 59) (lv2 := [(0, .ref (ec (xE X) 0)), (1, .int a1), (3, .int (a3 + (-1 : Int32)))]) F dX11_feed_59 2 rfl (ii_m1 _) (by rw [hx]; decide) [1, 2, 0] rfl ?_
      refine g_goto (pc := 62) (tgt := 41) F dX11_feed_62 (by decide) ?_
      refine g_sub [0, 1, 2] rfl ?_
      exact ih M6 a1 (a3 + (-1 : Int32)) h
set_option maxHeartbeats 4000000 in
set_option maxRecDepth 100000 in
theorem hX11_feed {N : Nat} {M : Mem} {a1 : Int32} {a2 : Int32} {res : Int32 × Mem} (h : mX11_feed N M a1 a2 = some res) (l : Launch) (E : Ev) : CtI l E (Wc E) yX11_feed cX11_feed 4 .int 2 44 [.ref (ec E 0), .int a1, .int a2] M res.1 res.2 :=
  ctI_of (Wf := Wc) (av := fun E => [.ref (ec E 0), .int a1, .int a2]) (lv := fun E => [(0, .ref (ec E 0)), (1, .int a1), (2, .int a2)]) (by decide) (fun _ => rfl) (fun _ => (Nat.le_of_ble_eq_true rfl)) (fun X F hx Rt => by
    have F : Fx X cX11_feed RX11 2 44 := F
    unfold mX11_feed at h
    refine g_iload_n (pc := 0) (x := a2) F dX11_feed_0 rfl 2 rfl ?_
    refine g_iconst (pc := 1) F dX11_feed_1 ic_1 ?_
    refine g_iconst (pc := 2) F dX11_feed_2 ic_4 ?_
    obtain ⟨r1, e2, h⟩ := bd_some h
    refine g_sI (pc := 3) (Wf := Wc) (As := [.int a2, .int (1 : Int32), .int (4 : Int32)]) (rest := []) F (hX11_isWithin (M := M) e2 (xl X) (xE X)) kX11_isWithin lX11_77 rfl rfl ⟨(Nat.le_of_ble_eq_true rfl), (Nat.le_of_ble_eq_true rfl)⟩ (Nat.le_of_ble_eq_true rfl) dX11_feed_3 ?_
    refine g_if_ne (pc := 6) (tgt := 16) F dX11_feed_6 (by decide) (fun c3 => ?_) (fun c3 => ?_)
    · have h := ite_f c3 h
      refine g_aload_n (pc := 16) (x := ec (xE X) 0) F dX11_feed_16 rfl 0 rfl ?_
      refine g_get (pc := 17) (v := .ref (ec (xE X) 32)) F fX11_53 0 (wc_T _ _) rfl dX11_feed_17 ?_
      refine g_get (pc := 20) (v := .int (M.1 3 1)) F fX11_219 32 (wc_Tp _ _) rfl dX11_feed_20 ?_
      refine g_iload_n (pc := 23) (x := a2) F dX11_feed_23 rfl 2 rfl ?_
      refine g_iadd (pc := 24) F dX11_feed_24 ?_
      refine g_bipush (pc := 25) F dX11_feed_25 bp_120 ?_
      refine g_icmp_le (pc := 27) (tgt := 37) F dX11_feed_27 (by decide) (fun c4 => ?_) (fun c4 => ?_)
      · have h := ite_t c4 h
        refine g_iload_n (pc := 37) (x := a2) F dX11_feed_37 rfl 2 rfl ?_
        refine g_iconst (pc := 38) F dX11_feed_38 ic_1 ?_
        refine g_isub (pc := 39) F dX11_feed_39 ?_
        refine g_istore_n (pc := 40) (lv2 := [(0, .ref (ec (xE X) 0)), (1, .int a1), (2, .int a2), (3, .int (a2 - (1 : Int32)))]) F dX11_feed_40 rfl (by rw [hx]; decide) [1, 2, 3, 0] rfl ?_
        refine g_sub [0, 1, 3] rfl ?_
        exact wX11_feed_b41 F hx Rt N M a1 (a2 - (1 : Int32)) h
      · have h := ite_f c4 h
        refine g_aload_n (pc := 30) (x := ec (xE X) 0) F dX11_feed_30 rfl 0 rfl ?_
        refine g_ldc (pc := 31) F oX11_133 dX11_feed_31 ?_
        obtain ⟨q8, e9, h⟩ := bd_some h
        refine g_vI (pc := 33) (Wf := Wc) (As := [.int (-1000000002 : Int32)]) (rest := []) F (hX11_found e9 (xl X) (xE X)) kX11_found lX11_82 0 rfl (wc_T _ _) rfl rfl rfl ⟨(Nat.le_of_ble_eq_true rfl), (Nat.le_of_ble_eq_true rfl)⟩ (Nat.le_of_ble_eq_true rfl) dX11_feed_33 ?_
        obtain rfl := Option.some.inj h
        exact g_iret (pc := 36) (Wf := Wc) F Rt rfl dX11_feed_36
    · have h := ite_t c3 h
      refine g_aload_n (pc := 9) (x := ec (xE X) 0) F dX11_feed_9 rfl 0 rfl ?_
      refine g_ldc (pc := 10) F oX11_81 dX11_feed_10 ?_
      obtain ⟨q10, e11, h⟩ := bd_some h
      refine g_vI (pc := 12) (Wf := Wc) (As := [.int (-1000000001 : Int32)]) (rest := []) F (hX11_found e11 (xl X) (xE X)) kX11_found lX11_82 0 rfl (wc_T _ _) rfl rfl rfl ⟨(Nat.le_of_ble_eq_true rfl), (Nat.le_of_ble_eq_true rfl)⟩ (Nat.le_of_ble_eq_true rfl) dX11_feed_12 ?_
      obtain rfl := Option.some.inj h
      exact g_iret (pc := 15) (Wf := Wc) F Rt rfl dX11_feed_15) l E
set_option maxHeartbeats 4000000 in
set_option maxRecDepth 100000 in
theorem hX11_wipe {M : Mem} {res : Int32 × Mem} (h : mX11_wipe M = some res) (l : Launch) (E : Ev) : CtI l E (Wc E) yX11_wipe cX11_wipe 1 .int 1 21 [.ref (ec E 0)] M res.1 res.2 :=
  ctI_of (Wf := Wc) (av := fun E => [.ref (ec E 0)]) (lv := fun E => [(0, .ref (ec E 0))]) (by decide) (fun _ => rfl) (fun _ => (Nat.le_of_ble_eq_true rfl)) (fun X F hx Rt => by
    have F : Fx X cX11_wipe RX11 1 21 := F
    unfold mX11_wipe at h
    refine g_aload_n (pc := 0) (x := ec (xE X) 0) F dX11_wipe_0 rfl 0 rfl ?_
    refine g_get (pc := 1) (v := .ref (ec (xE X) 32)) F fX11_53 0 (wc_T _ _) rfl dX11_wipe_1 ?_
    obtain ⟨q1, e2, h⟩ := bd_some h
    refine g_vI (pc := 4) (Wf := Wc) (As := []) (rest := []) F (hX9_empty e2 (xl X) (xE X)) kX9_empty lX11_226 32 rfl (wc_Tp _ _) rfl rfl rfl ⟨(Nat.le_of_ble_eq_true rfl), (Nat.le_of_ble_eq_true rfl)⟩ (Nat.le_of_ble_eq_true rfl) dX11_wipe_4 ?_
    obtain rfl := Option.some.inj h
    exact g_iret (pc := 7) (Wf := Wc) F Rt rfl dX11_wipe_7) l E
set_option maxHeartbeats 4000000 in
set_option maxRecDepth 100000 in
theorem hX11_sea {N : Nat} {M : Mem} {res : Int32 × Mem} (h : mX11_sea N M = some res) (l : Launch) (E : Ev) : CtI l E (Wc E) yX11_sea cX11_sea 2 .int 8 190 [.ref (ec E 0)] M res.1 res.2 :=
  ctI_of (Wf := Wc) (av := fun E => [.ref (ec E 0)]) (lv := fun E => [(0, .ref (ec E 0))]) (by decide) (fun _ => rfl) (fun _ => (Nat.le_of_ble_eq_true rfl)) (fun X F hx Rt => by
    have F : Fx X cX11_sea RX11 8 190 := F
    unfold mX11_sea at h
    refine g_aload_n (pc := 0) (x := ec (xE X) 0) F dX11_sea_0 rfl 0 rfl ?_
    refine g_get (pc := 1) (v := .ref (ec (xE X) (8 + 2))) F fX11_43 0 (wc_T _ _) rfl dX11_sea_1 ?_
    refine g_aload_n (pc := 4) (x := ec (xE X) 0) F dX11_sea_4 rfl 0 rfl ?_
    refine g_get (pc := 5) (v := .ref (ec (xE X) (8 + 0))) F fX11_36 0 (wc_T _ _) rfl dX11_sea_5 ?_
    obtain ⟨M1, e2, h⟩ := bd_some h
    refine g_vV (pc := 8) (Wf := Wc) (As := [.ref (ec (xE X) (8 + 0))]) (rest := []) F (hX4_become (by decide) (by decide) e2 (xl X) (xE X)) kX4_become lX11_187 (8 + 2) rfl (wc_S _ _ (by decide)) rfl rfl rfl ⟨(Nat.le_of_ble_eq_true rfl), (Nat.le_of_ble_eq_true rfl)⟩ (Nat.le_of_ble_eq_true rfl) dX11_sea_8 ?_
    refine g_aload_n (pc := 11) (x := ec (xE X) 0) F dX11_sea_11 rfl 0 rfl ?_
    refine g_get (pc := 12) (v := .ref (ec (xE X) 34)) F fX11_62 0 (wc_T _ _) rfl dX11_sea_12 ?_
    refine g_aload_n (pc := 15) (x := ec (xE X) 0) F dX11_sea_15 rfl 0 rfl ?_
    refine g_get (pc := 16) (v := .ref (ec (xE X) (8 + 2))) F fX11_43 0 (wc_T _ _) rfl dX11_sea_16 ?_
    obtain ⟨q3, e4, h⟩ := bd_some h
    refine g_vI (pc := 19) (Wf := Wc) (As := [.ref (ec (xE X) (8 + 2))]) (rest := []) F (hX5_tell (by decide) e4 (xl X) (xE X)) kX5_tell lX11_229 34 rfl (wc_Tx _ _) rfl rfl rfl ⟨(Nat.le_of_ble_eq_true rfl), (Nat.le_of_ble_eq_true rfl)⟩ (Nat.le_of_ble_eq_true rfl) dX11_sea_19 ?_
    refine g_istore_n (pc := 22) (lv2 := [(0, .ref (ec (xE X) 0)), (1, .int q3.1)]) F dX11_sea_22 rfl (by rw [hx]; decide) [1, 0] rfl ?_
    refine g_iload_n (pc := 23) (x := q3.1) F dX11_sea_23 rfl 1 rfl ?_
    refine g_if_lt (pc := 24) (tgt := 38) F dX11_sea_24 (by decide) (fun c5 => ?_) (fun c5 => ?_)
    · have h := ite_t c5 h
      refine g_aload_n (pc := 38) (x := ec (xE X) 0) F dX11_sea_38 rfl 0 rfl ?_
      refine g_get (pc := 39) (v := .ref (ec (xE X) 32)) F fX11_53 0 (wc_T _ _) rfl dX11_sea_39 ?_
      obtain ⟨q6, e7, h⟩ := bd_some h
      refine g_vI (pc := 42) (Wf := Wc) (As := []) (rest := []) F (hX9_empty e7 (xl X) (xE X)) kX9_empty lX11_226 32 rfl (wc_Tp _ _) rfl rfl rfl ⟨(Nat.le_of_ble_eq_true rfl), (Nat.le_of_ble_eq_true rfl)⟩ (Nat.le_of_ble_eq_true rfl) dX11_sea_42 ?_
      refine g_pop (pc := 45) F dX11_sea_45 rfl ?_
      refine g_iload_n (pc := 46) (x := q3.1) F dX11_sea_46 rfl 1 rfl ?_
      obtain rfl := Option.some.inj h
      exact g_iret (pc := 47) (Wf := Wc) F Rt rfl dX11_sea_47
    · have h := ite_f c5 h
      refine g_aload_n (pc := 27) (x := ec (xE X) 0) F dX11_sea_27 rfl 0 rfl ?_
      refine g_get (pc := 28) (v := .ref (ec (xE X) (8 + 0))) F fX11_36 0 (wc_T _ _) rfl dX11_sea_28 ?_
      refine g_aload_n (pc := 31) (x := ec (xE X) 0) F dX11_sea_31 rfl 0 rfl ?_
      refine g_get (pc := 32) (v := .ref (ec (xE X) (8 + 2))) F fX11_43 0 (wc_T _ _) rfl dX11_sea_32 ?_
      obtain ⟨M8, e9, h⟩ := bd_some h
      refine g_vV (pc := 35) (Wf := Wc) (As := [.ref (ec (xE X) (8 + 2))]) (rest := []) F (hX4_become (by decide) (by decide) e9 (xl X) (xE X)) kX4_become lX11_187 (8 + 0) rfl (wc_S _ _ (by decide)) rfl rfl rfl ⟨(Nat.le_of_ble_eq_true rfl), (Nat.le_of_ble_eq_true rfl)⟩ (Nat.le_of_ble_eq_true rfl) dX11_sea_35 ?_
      refine g_aload_n (pc := 38) (x := ec (xE X) 0) F dX11_sea_38 rfl 0 rfl ?_
      refine g_get (pc := 39) (v := .ref (ec (xE X) 32)) F fX11_53 0 (wc_T _ _) rfl dX11_sea_39 ?_
      obtain ⟨q10, e11, h⟩ := bd_some h
      refine g_vI (pc := 42) (Wf := Wc) (As := []) (rest := []) F (hX9_empty e11 (xl X) (xE X)) kX9_empty lX11_226 32 rfl (wc_Tp _ _) rfl rfl rfl ⟨(Nat.le_of_ble_eq_true rfl), (Nat.le_of_ble_eq_true rfl)⟩ (Nat.le_of_ble_eq_true rfl) dX11_sea_42 ?_
      refine g_pop (pc := 45) F dX11_sea_45 rfl ?_
      refine g_iload_n (pc := 46) (x := q3.1) F dX11_sea_46 rfl 1 rfl ?_
      obtain rfl := Option.some.inj h
      exact g_iret (pc := 47) (Wf := Wc) F Rt rfl dX11_sea_47) l E
set_option maxHeartbeats 4000000 in
set_option maxRecDepth 100000 in
theorem hX11_isSheet {M : Mem} {a0 : Int32} {res : Int32} (h : mX11_isSheet a0 = some res) (l : Launch) (E : Ev) : CtI l E (Wc E) yX11_isSheet cX11_isSheet 1 .boolean 1 22 [.int a0] M res M :=
  ctI_of (Wf := Wc) (av := fun E => [.int a0]) (lv := fun E => [(0, .int a0)]) (by decide) (fun _ => rfl) (fun _ => (Nat.le_of_ble_eq_true rfl)) (fun X F hx Rt => by
    have F : Fx X cX11_isSheet RX11 1 22 := F
    unfold mX11_isSheet at h
    refine g_iload_n (pc := 0) (x := a0) F dX11_isSheet_0 rfl 0 rfl ?_
    refine g_iconst (pc := 1) F dX11_isSheet_1 ic_0 ?_
    refine g_iconst (pc := 2) F dX11_isSheet_2 ic_3 ?_
    obtain ⟨r1, e2, h⟩ := bd_some h
    refine g_sI (pc := 3) (Wf := Wc) (As := [.int a0, .int (0 : Int32), .int (3 : Int32)]) (rest := []) F (hX11_isWithin (M := M) e2 (xl X) (xE X)) kX11_isWithin lX11_77 rfl rfl ⟨(Nat.le_of_ble_eq_true rfl), (Nat.le_of_ble_eq_true rfl)⟩ (Nat.le_of_ble_eq_true rfl) dX11_isSheet_3 ?_
    obtain ⟨b3, h⟩ := ck_some h
    obtain rfl := Option.some.inj h
    exact g_iret (pc := 6) (Wf := Wc) F Rt (nb01 b3).1 dX11_isSheet_6) l E
set_option maxHeartbeats 4000000 in
set_option maxRecDepth 100000 in
theorem wX11_sheet_b36 {X : Cx} (F : Fx X cX11_sheet RX11 2 44) (hx : xn X = 4) {N : Nat} {res : Int32 × Mem} (Rt : RI X Wc .int res.1 res.2) : ∀ (M : Mem) (a1 : Int32) (a2 : Int32) (a3 : Int32), mX11_sheet_b36 N M a1 a2 a3 = some res → G X (Wc (xE X) M) 36 [(0, .ref (ec (xE X) 0)), (1, .int a1), (2, .int a2), (3, .int a3)] [] := by
  intro M a1 a2 a3 h
  unfold mX11_sheet_b36 at h
  refine g_iload_n (pc := 36) (x := a3) F dX11_sheet_36 rfl 3 rfl ?_
  refine g_if_ge (pc := 37) (tgt := 47) F dX11_sheet_37 (by decide) (fun c7 => ?_) (fun c7 => ?_)
  · have h := ite_t c7 h
    refine g_iload_n (pc := 47) (x := a3) F dX11_sheet_47 rfl 3 rfl ?_
    refine g_bipush (pc := 48) F dX11_sheet_48 bp_40 ?_
    refine g_icmp_le (pc := 50) (tgt := 60) F dX11_sheet_50 (by decide) (fun c8 => ?_) (fun c8 => ?_)
    · have h := ite_t c8 h
      refine g_aload_n (pc := 60) (x := ec (xE X) 0) F dX11_sheet_60 rfl 0 rfl ?_
      refine g_get (pc := 61) (v := .ref (ec (xE X) 35)) F fX11_69 0 (wc_T _ _) rfl dX11_sheet_61 ?_
      refine g_iload_n (pc := 64) (x := a1) F dX11_sheet_64 rfl 1 rfl ?_
      obtain ⟨i9, h⟩ := ck_some h
      refine g_aald (pc := 65) (C := "TowerWarns$Sheet") (b := ec (xE X) (36 + a1.toNatClampNeg)) F 35 5 (wc_Sa _ _) rfl i9 rfl dX11_sheet_65 ?_
      refine g_iload_n (pc := 66) (x := a2) F dX11_sheet_66 rfl 2 rfl ?_
      refine g_iload_n (pc := 67) (x := a2) F dX11_sheet_67 rfl 2 rfl ?_
      refine g_if_ne (pc := 68) (tgt := 75) F dX11_sheet_68 (by decide) (fun c10 => ?_) (fun c10 => ?_)
      · have h := ite_f c10 h
        refine g_iload_n (pc := 75) (x := a3) F dX11_sheet_75 rfl 3 rfl ?_
        obtain ⟨M11, e12, h⟩ := bd_some h
        refine g_vV (pc := 76) (Wf := Wc) (As := [.int a2, .int a3]) (rest := []) F (hX6_lay (ok_lt i9) e12 (xl X) (xE X)) kX6_lay lX11_237 (36 + a1.toNatClampNeg) rfl (wc_Sh _ _ (ok_lt i9)) rfl rfl rfl ⟨(Nat.le_of_ble_eq_true rfl), (Nat.le_of_ble_eq_true rfl)⟩ (Nat.le_of_ble_eq_true rfl) dX11_sheet_76 ?_
        refine g_aload_n (pc := 79) (x := ec (xE X) 0) F dX11_sheet_79 rfl 0 rfl ?_
        refine g_get (pc := 80) (v := .ref (ec (xE X) 35)) F fX11_69 0 (wc_T _ _) rfl dX11_sheet_80 ?_
        refine g_iload_n (pc := 83) (x := a1) F dX11_sheet_83 rfl 1 rfl ?_
        obtain ⟨i13, h⟩ := ck_some h
        refine g_aald (pc := 84) (C := "TowerWarns$Sheet") (b := ec (xE X) (36 + a1.toNatClampNeg)) F 35 5 (wc_Sa _ _) rfl i13 rfl dX11_sheet_84 ?_
        refine g_get (pc := 85) (v := .int (M11.1 6 a1.toNatClampNeg)) F fX11_240 (36 + a1.toNatClampNeg) (wc_Sh _ _ (ok_lt i13)) rfl dX11_sheet_85 ?_
        obtain rfl := Option.some.inj h
        exact g_iret (pc := 88) (Wf := Wc) F Rt rfl dX11_sheet_88
      · have h := ite_t c10 h
        refine g_iconst (pc := 71) F dX11_sheet_71 ic_0 ?_
        refine g_goto (pc := 72) (tgt := 76) F dX11_sheet_72 (by decide) ?_
        obtain ⟨M14, e15, h⟩ := bd_some h
        refine g_vV (pc := 76) (Wf := Wc) (As := [.int a2, .int (0 : Int32)]) (rest := []) F (hX6_lay (ok_lt i9) e15 (xl X) (xE X)) kX6_lay lX11_237 (36 + a1.toNatClampNeg) rfl (wc_Sh _ _ (ok_lt i9)) rfl rfl rfl ⟨(Nat.le_of_ble_eq_true rfl), (Nat.le_of_ble_eq_true rfl)⟩ (Nat.le_of_ble_eq_true rfl) dX11_sheet_76 ?_
        refine g_aload_n (pc := 79) (x := ec (xE X) 0) F dX11_sheet_79 rfl 0 rfl ?_
        refine g_get (pc := 80) (v := .ref (ec (xE X) 35)) F fX11_69 0 (wc_T _ _) rfl dX11_sheet_80 ?_
        refine g_iload_n (pc := 83) (x := a1) F dX11_sheet_83 rfl 1 rfl ?_
        obtain ⟨i16, h⟩ := ck_some h
        refine g_aald (pc := 84) (C := "TowerWarns$Sheet") (b := ec (xE X) (36 + a1.toNatClampNeg)) F 35 5 (wc_Sa _ _) rfl i16 rfl dX11_sheet_84 ?_
        refine g_get (pc := 85) (v := .int (M14.1 6 a1.toNatClampNeg)) F fX11_240 (36 + a1.toNatClampNeg) (wc_Sh _ _ (ok_lt i16)) rfl dX11_sheet_85 ?_
        obtain rfl := Option.some.inj h
        exact g_iret (pc := 88) (Wf := Wc) F Rt rfl dX11_sheet_88
    · have h := ite_f c8 h
      refine g_aload_n (pc := 53) (x := ec (xE X) 0) F dX11_sheet_53 rfl 0 rfl ?_
      refine g_ldc (pc := 54) F oX11_81 dX11_sheet_54 ?_
      obtain ⟨q17, e18, h⟩ := bd_some h
      refine g_vI (pc := 56) (Wf := Wc) (As := [.int (-1000000001 : Int32)]) (rest := []) F (hX11_found e18 (xl X) (xE X)) kX11_found lX11_82 0 rfl (wc_T _ _) rfl rfl rfl ⟨(Nat.le_of_ble_eq_true rfl), (Nat.le_of_ble_eq_true rfl)⟩ (Nat.le_of_ble_eq_true rfl) dX11_sheet_56 ?_
      obtain rfl := Option.some.inj h
      exact g_iret (pc := 59) (Wf := Wc) F Rt rfl dX11_sheet_59
  · have h := ite_f c7 h
    refine g_aload_n (pc := 40) (x := ec (xE X) 0) F dX11_sheet_40 rfl 0 rfl ?_
    refine g_ldc (pc := 41) F oX11_236 dX11_sheet_41 ?_
    obtain ⟨q19, e20, h⟩ := bd_some h
    refine g_vI (pc := 43) (Wf := Wc) (As := [.int (-1000000007 : Int32)]) (rest := []) F (hX11_found e20 (xl X) (xE X)) kX11_found lX11_82 0 rfl (wc_T _ _) rfl rfl rfl ⟨(Nat.le_of_ble_eq_true rfl), (Nat.le_of_ble_eq_true rfl)⟩ (Nat.le_of_ble_eq_true rfl) dX11_sheet_43 ?_
    obtain rfl := Option.some.inj h
    exact g_iret (pc := 46) (Wf := Wc) F Rt rfl dX11_sheet_46
set_option maxHeartbeats 4000000 in
set_option maxRecDepth 100000 in
theorem hX11_sheet {N : Nat} {M : Mem} {a1 : Int32} {a2 : Int32} {a3 : Int32} {res : Int32 × Mem} (h : mX11_sheet N M a1 a2 a3 = some res) (l : Launch) (E : Ev) : CtI l E (Wc E) yX11_sheet cX11_sheet 4 .int 2 44 [.ref (ec E 0), .int a1, .int a2, .int a3] M res.1 res.2 :=
  ctI_of (Wf := Wc) (av := fun E => [.ref (ec E 0), .int a1, .int a2, .int a3]) (lv := fun E => [(0, .ref (ec E 0)), (1, .int a1), (2, .int a2), (3, .int a3)]) (by decide) (fun _ => rfl) (fun _ => (Nat.le_of_ble_eq_true rfl)) (fun X F hx Rt => by
    have F : Fx X cX11_sheet RX11 2 44 := F
    unfold mX11_sheet at h
    refine g_iload_n (pc := 0) (x := a1) F dX11_sheet_0 rfl 1 rfl ?_
    obtain ⟨r1, e2, h⟩ := bd_some h
    refine g_sI (pc := 1) (Wf := Wc) (As := [.int a1]) (rest := []) F (hX11_isSheet (M := M) e2 (xl X) (xE X)) kX11_isSheet lX11_233 rfl rfl ⟨(Nat.le_of_ble_eq_true rfl), (Nat.le_of_ble_eq_true rfl)⟩ (Nat.le_of_ble_eq_true rfl) dX11_sheet_1 ?_
    refine g_if_eq (pc := 4) (tgt := 29) F dX11_sheet_4 (by decide) (fun c3 => ?_) (fun c3 => ?_)
    · have h := ite_t c3 h
      refine g_aload_n (pc := 29) (x := ec (xE X) 0) F dX11_sheet_29 rfl 0 rfl ?_
      refine g_ldc (pc := 30) F oX11_81 dX11_sheet_30 ?_
      obtain ⟨q4, e5, h⟩ := bd_some h
      refine g_vI (pc := 32) (Wf := Wc) (As := [.int (-1000000001 : Int32)]) (rest := []) F (hX11_found e5 (xl X) (xE X)) kX11_found lX11_82 0 rfl (wc_T _ _) rfl rfl rfl ⟨(Nat.le_of_ble_eq_true rfl), (Nat.le_of_ble_eq_true rfl)⟩ (Nat.le_of_ble_eq_true rfl) dX11_sheet_32 ?_
      obtain rfl := Option.some.inj h
      exact g_iret (pc := 35) (Wf := Wc) F Rt rfl dX11_sheet_35
    · have h := ite_f c3 h
      refine g_iload_n (pc := 7) (x := a2) F dX11_sheet_7 rfl 2 rfl ?_
      refine g_if_eq (pc := 8) (tgt := 36) F dX11_sheet_8 (by decide) (fun c6 => ?_) (fun c6 => ?_)
      · have h := ite_t c6 h
        refine g_sub [0, 1, 2, 3] rfl ?_
        exact wX11_sheet_b36 F hx Rt M a1 a2 a3 h
      · have h := ite_f c6 h
        refine g_iload_n (pc := 11) (x := a2) F dX11_sheet_11 rfl 2 rfl ?_
        refine g_bipush (pc := 12) F dX11_sheet_12 bp_8 ?_
        refine g_icmp_eq (pc := 14) (tgt := 36) F dX11_sheet_14 (by decide) (fun c21 => ?_) (fun c21 => ?_)
        · have h := ite_t c21 h
          refine g_sub [0, 1, 2, 3] rfl ?_
          exact wX11_sheet_b36 F hx Rt M a1 a2 a3 h
        · have h := ite_f c21 h
          refine g_iload_n (pc := 17) (x := a2) F dX11_sheet_17 rfl 2 rfl ?_
          refine g_bipush (pc := 18) F dX11_sheet_18 bp_16 ?_
          refine g_icmp_eq (pc := 20) (tgt := 36) F dX11_sheet_20 (by decide) (fun c22 => ?_) (fun c22 => ?_)
          · have h := ite_t c22 h
            refine g_sub [0, 1, 2, 3] rfl ?_
            exact wX11_sheet_b36 F hx Rt M a1 a2 a3 h
          · have h := ite_f c22 h
            refine g_iload_n (pc := 23) (x := a2) F dX11_sheet_23 rfl 2 rfl ?_
            refine g_bipush (pc := 24) F dX11_sheet_24 bp_64 ?_
            refine g_icmp_eq (pc := 26) (tgt := 36) F dX11_sheet_26 (by decide) (fun c23 => ?_) (fun c23 => ?_)
            · have h := ite_t c23 h
              refine g_sub [0, 1, 2, 3] rfl ?_
              exact wX11_sheet_b36 F hx Rt M a1 a2 a3 h
            · have h := ite_f c23 h
              refine g_aload_n (pc := 29) (x := ec (xE X) 0) F dX11_sheet_29 rfl 0 rfl ?_
              refine g_ldc (pc := 30) F oX11_81 dX11_sheet_30 ?_
              obtain ⟨q24, e25, h⟩ := bd_some h
              refine g_vI (pc := 32) (Wf := Wc) (As := [.int (-1000000001 : Int32)]) (rest := []) F (hX11_found e25 (xl X) (xE X)) kX11_found lX11_82 0 rfl (wc_T _ _) rfl rfl rfl ⟨(Nat.le_of_ble_eq_true rfl), (Nat.le_of_ble_eq_true rfl)⟩ (Nat.le_of_ble_eq_true rfl) dX11_sheet_32 ?_
              obtain rfl := Option.some.inj h
              exact g_iret (pc := 35) (Wf := Wc) F Rt rfl dX11_sheet_35) l E
set_option maxHeartbeats 4000000 in
set_option maxRecDepth 100000 in
theorem hX11_amissInSheet {M : Mem} {a1 : Int32} {res : Int32} (h : mX11_amissInSheet M a1 = some res) (l : Launch) (E : Ev) : CtI l E (Wc E) yX11_amissInSheet cX11_amissInSheet 2 .int 2 42 [.ref (ec E 0), .int a1] M res M :=
  ctI_of (Wf := Wc) (av := fun E => [.ref (ec E 0), .int a1]) (lv := fun E => [(0, .ref (ec E 0)), (1, .int a1)]) (by decide) (fun _ => rfl) (fun _ => (Nat.le_of_ble_eq_true rfl)) (fun X F hx Rt => by
    have F : Fx X cX11_amissInSheet RX11 2 42 := F
    unfold mX11_amissInSheet at h
    refine g_iload_n (pc := 0) (x := a1) F dX11_amissInSheet_0 rfl 1 rfl ?_
    obtain ⟨r1, e2, h⟩ := bd_some h
    refine g_sI (pc := 1) (Wf := Wc) (As := [.int a1]) (rest := []) F (hX11_isSheet (M := M) e2 (xl X) (xE X)) kX11_isSheet lX11_233 rfl rfl ⟨(Nat.le_of_ble_eq_true rfl), (Nat.le_of_ble_eq_true rfl)⟩ (Nat.le_of_ble_eq_true rfl) dX11_amissInSheet_1 ?_
    refine g_if_ne (pc := 4) (tgt := 10) F dX11_amissInSheet_4 (by decide) (fun c3 => ?_) (fun c3 => ?_)
    · have h := ite_f c3 h
      refine g_aload_n (pc := 10) (x := ec (xE X) 0) F dX11_amissInSheet_10 rfl 0 rfl ?_
      refine g_get (pc := 11) (v := .ref (ec (xE X) 35)) F fX11_69 0 (wc_T _ _) rfl dX11_amissInSheet_11 ?_
      refine g_iload_n (pc := 14) (x := a1) F dX11_amissInSheet_14 rfl 1 rfl ?_
      obtain ⟨i4, h⟩ := ck_some h
      refine g_aald (pc := 15) (C := "TowerWarns$Sheet") (b := ec (xE X) (36 + a1.toNatClampNeg)) F 35 5 (wc_Sa _ _) rfl i4 rfl dX11_amissInSheet_15 ?_
      obtain ⟨r5, e6, h⟩ := bd_some h
      refine g_vI (pc := 16) (Wf := Wc) (As := []) (rest := []) F (hX6_isMissing (ok_lt i4) e6 (xl X) (xE X)) kX6_isMissing lX11_251 (36 + a1.toNatClampNeg) rfl (wc_Sh _ _ (ok_lt i4)) rfl rfl rfl ⟨(Nat.le_of_ble_eq_true rfl), (Nat.le_of_ble_eq_true rfl)⟩ (Nat.le_of_ble_eq_true rfl) dX11_amissInSheet_16 ?_
      refine g_if_eq (pc := 19) (tgt := 27) F dX11_amissInSheet_19 (by decide) (fun c7 => ?_) (fun c7 => ?_)
      · have h := ite_t c7 h
        refine g_iconst (pc := 27) F dX11_amissInSheet_27 ic_0 ?_
        obtain rfl := Option.some.inj h
        exact g_iret (pc := 28) (Wf := Wc) F Rt rfl dX11_amissInSheet_28
      · have h := ite_f c7 h
        refine g_ldc (pc := 22) F oX11_254 dX11_amissInSheet_22 ?_
        refine g_goto (pc := 24) (tgt := 28) F dX11_amissInSheet_24 (by decide) ?_
        obtain rfl := Option.some.inj h
        exact g_iret (pc := 28) (Wf := Wc) F Rt rfl dX11_amissInSheet_28
    · have h := ite_t c3 h
      refine g_ldc (pc := 7) F oX11_81 dX11_amissInSheet_7 ?_
      obtain rfl := Option.some.inj h
      exact g_iret (pc := 9) (Wf := Wc) F Rt rfl dX11_amissInSheet_9) l E
set_option maxHeartbeats 4000000 in
set_option maxRecDepth 100000 in
theorem hX11_write {M : Mem} {a1 : Int32} {a2 : Int32} {a3 : Int64} {res : Int64 × Mem} (h : mX11_write M a1 a2 a3 = some res) (l : Launch) (E : Ev) : CtL l E (Wc E) yX11_write cX11_write 9 3 63 [.ref (ec E 0), .int a1, .int a2, .long a3] M res.1 res.2 :=
  ctL_of (Wf := Wc) (av := fun E => [.ref (ec E 0), .int a1, .int a2, .long a3]) (lv := fun E => [(0, .ref (ec E 0)), (1, .int a1), (2, .int a2), (3, .long a3)]) (by decide) (fun _ => rfl) (fun _ => (Nat.le_of_ble_eq_true rfl)) (fun X F hx Rt => by
    have F : Fx X cX11_write RX11 3 63 := F
    unfold mX11_write at h
    refine g_aload_n (pc := 0) (x := ec (xE X) 0) F dX11_write_0 rfl 0 rfl ?_
    refine g_iload_n (pc := 1) (x := a1) F dX11_write_1 rfl 1 rfl ?_
    obtain ⟨r1, e2, h⟩ := bd_some h
    refine g_vI (pc := 2) (Wf := Wc) (As := [.int a1]) (rest := []) F (hX11_amissInSheet e2 (xl X) (xE X)) kX11_amissInSheet lX11_241 0 rfl (wc_T _ _) rfl rfl rfl ⟨(Nat.le_of_ble_eq_true rfl), (Nat.le_of_ble_eq_true rfl)⟩ (Nat.le_of_ble_eq_true rfl) dX11_write_2 ?_
    refine g_istore (pc := 5) (lv2 := [(0, .ref (ec (xE X) 0)), (1, .int a1), (2, .int a2), (3, .long a3), (5, .int r1)]) F dX11_write_5 (by rw [hx]; decide) [1, 2, 3, 4, 0] rfl ?_
    refine g_iload (pc := 7) (x := r1) F dX11_write_7 4 rfl ?_
    refine g_if_eq (pc := 9) (tgt := 20) F dX11_write_9 (by decide) (fun c3 => ?_) (fun c3 => ?_)
    · have h := ite_t c3 h
      refine g_aload_n (pc := 20) (x := ec (xE X) 0) F dX11_write_20 rfl 0 rfl ?_
      refine g_get (pc := 21) (v := .ref (ec (xE X) 35)) F fX11_69 0 (wc_T _ _) rfl dX11_write_21 ?_
      refine g_iload_n (pc := 24) (x := a1) F dX11_write_24 rfl 1 rfl ?_
      obtain ⟨i4, h⟩ := ck_some h
      refine g_aald (pc := 25) (C := "TowerWarns$Sheet") (b := ec (xE X) (36 + a1.toNatClampNeg)) F 35 5 (wc_Sa _ _) rfl i4 rfl dX11_write_25 ?_
      refine g_astore (pc := 26) (lv2 := [(0, .ref (ec (xE X) 0)), (1, .int a1), (2, .int a2), (3, .long a3), (5, .int r1), (6, .ref (ec (xE X) (36 + a1.toNatClampNeg)))]) F dX11_write_26 (by rw [hx]; decide) [1, 2, 3, 4, 5, 0] rfl ?_
      refine g_iload_n (pc := 28) (x := a2) F dX11_write_28 rfl 2 rfl ?_
      refine g_iconst (pc := 29) F dX11_write_29 ic_0 ?_
      refine g_aload (pc := 30) (x := ec (xE X) (36 + a1.toNatClampNeg)) F dX11_write_30 5 rfl ?_
      refine g_get (pc := 32) (v := .int (M.1 6 a1.toNatClampNeg)) F fX11_240 (36 + a1.toNatClampNeg) (wc_Sh _ _ (ok_lt i4)) rfl dX11_write_32 ?_
      refine g_iconst (pc := 35) F dX11_write_35 ic_1 ?_
      refine g_isub (pc := 36) F dX11_write_36 ?_
      obtain ⟨r5, e6, h⟩ := bd_some h
      refine g_sI (pc := 37) (Wf := Wc) (As := [.int a2, .int (0 : Int32), .int ((M.1 6 a1.toNatClampNeg) - (1 : Int32))]) (rest := []) F (hX11_isWithin (M := M) e6 (xl X) (xE X)) kX11_isWithin lX11_77 rfl rfl ⟨(Nat.le_of_ble_eq_true rfl), (Nat.le_of_ble_eq_true rfl)⟩ (Nat.le_of_ble_eq_true rfl) dX11_write_37 ?_
      refine g_if_ne (pc := 40) (tgt := 51) F dX11_write_40 (by decide) (fun c7 => ?_) (fun c7 => ?_)
      · have h := ite_f c7 h
        refine g_aload (pc := 51) (x := ec (xE X) (36 + a1.toNatClampNeg)) F dX11_write_51 5 rfl ?_
        refine g_iload_n (pc := 53) (x := a2) F dX11_write_53 rfl 2 rfl ?_
        obtain ⟨r8, e9, h⟩ := bd_some h
        refine g_vL (pc := 54) (Wf := Wc) (As := [.int a2]) (rest := []) F (hX6_at (ok_lt i4) e9 (xl X) (xE X)) kX6_at lX11_244 (36 + a1.toNatClampNeg) rfl (wc_Sh _ _ (ok_lt i4)) rfl rfl rfl ⟨(Nat.le_of_ble_eq_true rfl), (Nat.le_of_ble_eq_true rfl)⟩ (Nat.le_of_ble_eq_true rfl) dX11_write_54 ?_
        refine g_lstore (pc := 57) (lv2 := [(0, .ref (ec (xE X) 0)), (1, .int a1), (2, .int a2), (3, .long a3), (5, .int r1), (6, .ref (ec (xE X) (36 + a1.toNatClampNeg))), (7, .long r8)]) F dX11_write_57 (by rw [hx]; decide) [1, 2, 3, 4, 5, 6, 0] rfl ?_
        refine g_aload (pc := 59) (x := ec (xE X) (36 + a1.toNatClampNeg)) F dX11_write_59 5 rfl ?_
        refine g_iload_n (pc := 61) (x := a2) F dX11_write_61 rfl 2 rfl ?_
        refine g_lload_n (pc := 62) (x := a3) F dX11_write_62 rfl 3 rfl ?_
        obtain ⟨M10, e11, h⟩ := bd_some h
        refine g_vV (pc := 63) (Wf := Wc) (As := [.int a2, .long a3]) (rest := []) F (hX6_put (ok_lt i4) e11 (xl X) (xE X)) kX6_put lX11_248 (36 + a1.toNatClampNeg) rfl (wc_Sh _ _ (ok_lt i4)) rfl rfl rfl ⟨(Nat.le_of_ble_eq_true rfl), (Nat.le_of_ble_eq_true rfl)⟩ (Nat.le_of_ble_eq_true rfl) dX11_write_63 ?_
        refine g_lload (pc := 66) (x := r8) F dX11_write_66 6 rfl ?_
        obtain rfl := Option.some.inj h
        exact g_lret (pc := 68) (Wf := Wc) F Rt dX11_write_68
      · have h := ite_t c7 h
        refine g_aload_n (pc := 43) (x := ec (xE X) 0) F dX11_write_43 rfl 0 rfl ?_
        refine g_ldc (pc := 44) F oX11_81 dX11_write_44 ?_
        obtain ⟨q12, e13, h⟩ := bd_some h
        refine g_vI (pc := 46) (Wf := Wc) (As := [.int (-1000000001 : Int32)]) (rest := []) F (hX11_found e13 (xl X) (xE X)) kX11_found lX11_82 0 rfl (wc_T _ _) rfl rfl rfl ⟨(Nat.le_of_ble_eq_true rfl), (Nat.le_of_ble_eq_true rfl)⟩ (Nat.le_of_ble_eq_true rfl) dX11_write_46 ?_
        refine g_i2l (pc := 49) F dX11_write_49 ?_
        obtain rfl := Option.some.inj h
        exact g_lret (pc := 50) (Wf := Wc) F Rt dX11_write_50
    · have h := ite_f c3 h
      refine g_aload_n (pc := 12) (x := ec (xE X) 0) F dX11_write_12 rfl 0 rfl ?_
      refine g_iload (pc := 13) (x := r1) F dX11_write_13 4 rfl ?_
      obtain ⟨q14, e15, h⟩ := bd_some h
      refine g_vI (pc := 15) (Wf := Wc) (As := [.int r1]) (rest := []) F (hX11_found e15 (xl X) (xE X)) kX11_found lX11_82 0 rfl (wc_T _ _) rfl rfl rfl ⟨(Nat.le_of_ble_eq_true rfl), (Nat.le_of_ble_eq_true rfl)⟩ (Nat.le_of_ble_eq_true rfl) dX11_write_15 ?_
      refine g_i2l (pc := 18) F dX11_write_18 ?_
      obtain rfl := Option.some.inj h
      exact g_lret (pc := 19) (Wf := Wc) F Rt dX11_write_19) l E
set_option maxHeartbeats 4000000 in
set_option maxRecDepth 100000 in
theorem hX11_copy {M : Mem} {a1 : Int32} {a2 : Int32} {a3 : Int32} {a4 : Int32} {a5 : Int32} {res : Int32 × Mem} (h : mX11_copy M a1 a2 a3 a4 a5 = some res) (l : Launch) (E : Ev) : CtI l E (Wc E) yX11_copy cX11_copy 8 .int 2 60 [.ref (ec E 0), .int a1, .int a2, .int a3, .int a4, .int a5] M res.1 res.2 :=
  ctI_of (Wf := Wc) (av := fun E => [.ref (ec E 0), .int a1, .int a2, .int a3, .int a4, .int a5]) (lv := fun E => [(0, .ref (ec E 0)), (1, .int a1), (2, .int a2), (3, .int a3), (4, .int a4), (5, .int a5)]) (by decide) (fun _ => rfl) (fun _ => (Nat.le_of_ble_eq_true rfl)) (fun X F hx Rt => by
    have F : Fx X cX11_copy RX11 2 60 := F
    unfold mX11_copy at h
    refine g_iload_n (pc := 0) (x := a1) F dX11_copy_0 rfl 1 rfl ?_
    obtain ⟨r1, e2, h⟩ := bd_some h
    refine g_sI (pc := 1) (Wf := Wc) (As := [.int a1]) (rest := []) F (hX11_isSheet (M := M) e2 (xl X) (xE X)) kX11_isSheet lX11_233 rfl rfl ⟨(Nat.le_of_ble_eq_true rfl), (Nat.le_of_ble_eq_true rfl)⟩ (Nat.le_of_ble_eq_true rfl) dX11_copy_1 ?_
    refine g_if_eq (pc := 4) (tgt := 14) F dX11_copy_4 (by decide) (fun c3 => ?_) (fun c3 => ?_)
    · have h := ite_t c3 h
      refine g_aload_n (pc := 14) (x := ec (xE X) 0) F dX11_copy_14 rfl 0 rfl ?_
      refine g_ldc (pc := 15) F oX11_81 dX11_copy_15 ?_
      obtain ⟨q4, e5, h⟩ := bd_some h
      refine g_vI (pc := 17) (Wf := Wc) (As := [.int (-1000000001 : Int32)]) (rest := []) F (hX11_found e5 (xl X) (xE X)) kX11_found lX11_82 0 rfl (wc_T _ _) rfl rfl rfl ⟨(Nat.le_of_ble_eq_true rfl), (Nat.le_of_ble_eq_true rfl)⟩ (Nat.le_of_ble_eq_true rfl) dX11_copy_17 ?_
      obtain rfl := Option.some.inj h
      exact g_iret (pc := 20) (Wf := Wc) F Rt rfl dX11_copy_20
    · have h := ite_f c3 h
      refine g_iload_n (pc := 7) (x := a3) F dX11_copy_7 rfl 3 rfl ?_
      obtain ⟨r6, e7, h⟩ := bd_some h
      refine g_sI (pc := 8) (Wf := Wc) (As := [.int a3]) (rest := []) F (hX11_isSheet (M := M) e7 (xl X) (xE X)) kX11_isSheet lX11_233 rfl rfl ⟨(Nat.le_of_ble_eq_true rfl), (Nat.le_of_ble_eq_true rfl)⟩ (Nat.le_of_ble_eq_true rfl) dX11_copy_8 ?_
      refine g_if_ne (pc := 11) (tgt := 21) F dX11_copy_11 (by decide) (fun c8 => ?_) (fun c8 => ?_)
      · have h := ite_f c8 h
        refine g_aload_n (pc := 21) (x := ec (xE X) 0) F dX11_copy_21 rfl 0 rfl ?_
        refine g_get (pc := 22) (v := .ref (ec (xE X) 35)) F fX11_69 0 (wc_T _ _) rfl dX11_copy_22 ?_
        refine g_iload_n (pc := 25) (x := a1) F dX11_copy_25 rfl 1 rfl ?_
        obtain ⟨i9, h⟩ := ck_some h
        refine g_aald (pc := 26) (C := "TowerWarns$Sheet") (b := ec (xE X) (36 + a1.toNatClampNeg)) F 35 5 (wc_Sa _ _) rfl i9 rfl dX11_copy_26 ?_
        refine g_astore (pc := 27) (lv2 := [(0, .ref (ec (xE X) 0)), (1, .int a1), (2, .int a2), (3, .int a3), (4, .int a4), (5, .int a5), (6, .ref (ec (xE X) (36 + a1.toNatClampNeg)))]) F dX11_copy_27 (by rw [hx]; decide) [1, 2, 3, 4, 5, 6, 0] rfl ?_
        refine g_aload_n (pc := 29) (x := ec (xE X) 0) F dX11_copy_29 rfl 0 rfl ?_
        refine g_get (pc := 30) (v := .ref (ec (xE X) 35)) F fX11_69 0 (wc_T _ _) rfl dX11_copy_30 ?_
        refine g_iload_n (pc := 33) (x := a3) F dX11_copy_33 rfl 3 rfl ?_
        obtain ⟨i10, h⟩ := ck_some h
        refine g_aald (pc := 34) (C := "TowerWarns$Sheet") (b := ec (xE X) (36 + a3.toNatClampNeg)) F 35 5 (wc_Sa _ _) rfl i10 rfl dX11_copy_34 ?_
        refine g_astore (pc := 35) (lv2 := [(0, .ref (ec (xE X) 0)), (1, .int a1), (2, .int a2), (3, .int a3), (4, .int a4), (5, .int a5), (6, .ref (ec (xE X) (36 + a1.toNatClampNeg))), (7, .ref (ec (xE X) (36 + a3.toNatClampNeg)))]) F dX11_copy_35 (by rw [hx]; decide) [1, 2, 3, 4, 5, 6, 7, 0] rfl ?_
        refine g_aload (pc := 37) (x := ec (xE X) (36 + a1.toNatClampNeg)) F dX11_copy_37 6 rfl ?_
        obtain ⟨r11, e12, h⟩ := bd_some h
        refine g_vI (pc := 39) (Wf := Wc) (As := []) (rest := []) F (hX6_isMissing (ok_lt i9) e12 (xl X) (xE X)) kX6_isMissing lX11_251 (36 + a1.toNatClampNeg) rfl (wc_Sh _ _ (ok_lt i9)) rfl rfl rfl ⟨(Nat.le_of_ble_eq_true rfl), (Nat.le_of_ble_eq_true rfl)⟩ (Nat.le_of_ble_eq_true rfl) dX11_copy_39 ?_
        refine g_if_ne (pc := 42) (tgt := 53) F dX11_copy_42 (by decide) (fun c13 => ?_) (fun c13 => ?_)
        · have h := ite_f c13 h
          refine g_aload_n (pc := 53) (x := ec (xE X) 0) F dX11_copy_53 rfl 0 rfl ?_
          refine g_ldc (pc := 54) F oX11_254 dX11_copy_54 ?_
          obtain ⟨q14, e15, h⟩ := bd_some h
          refine g_vI (pc := 56) (Wf := Wc) (As := [.int (-1000000006 : Int32)]) (rest := []) F (hX11_found e15 (xl X) (xE X)) kX11_found lX11_82 0 rfl (wc_T _ _) rfl rfl rfl ⟨(Nat.le_of_ble_eq_true rfl), (Nat.le_of_ble_eq_true rfl)⟩ (Nat.le_of_ble_eq_true rfl) dX11_copy_56 ?_
          obtain rfl := Option.some.inj h
          exact g_iret (pc := 59) (Wf := Wc) F Rt rfl dX11_copy_59
        · have h := ite_t c13 h
          refine g_aload (pc := 45) (x := ec (xE X) (36 + a3.toNatClampNeg)) F dX11_copy_45 7 rfl ?_
          obtain ⟨r16, e17, h⟩ := bd_some h
          refine g_vI (pc := 47) (Wf := Wc) (As := []) (rest := []) F (hX6_isMissing (ok_lt i10) e17 (xl X) (xE X)) kX6_isMissing lX11_251 (36 + a3.toNatClampNeg) rfl (wc_Sh _ _ (ok_lt i10)) rfl rfl rfl ⟨(Nat.le_of_ble_eq_true rfl), (Nat.le_of_ble_eq_true rfl)⟩ (Nat.le_of_ble_eq_true rfl) dX11_copy_47 ?_
          refine g_if_eq (pc := 50) (tgt := 60) F dX11_copy_50 (by decide) (fun c18 => ?_) (fun c18 => ?_)
          · have h := ite_t c18 h
            refine g_aload (pc := 60) (x := ec (xE X) (36 + a1.toNatClampNeg)) F dX11_copy_60 6 rfl ?_
            refine g_get (pc := 62) (v := .int (M.1 5 a1.toNatClampNeg)) F fX11_255 (36 + a1.toNatClampNeg) (wc_Sh _ _ (ok_lt i9)) rfl dX11_copy_62 ?_
            refine g_aload (pc := 65) (x := ec (xE X) (36 + a3.toNatClampNeg)) F dX11_copy_65 7 rfl ?_
            refine g_get (pc := 67) (v := .int (M.1 5 a3.toNatClampNeg)) F fX11_255 (36 + a3.toNatClampNeg) (wc_Sh _ _ (ok_lt i10)) rfl dX11_copy_67 ?_
            refine g_icmp_eq (pc := 70) (tgt := 80) F dX11_copy_70 (by decide) (fun c19 => ?_) (fun c19 => ?_)
            · have h := ite_t c19 h
              refine g_aload (pc := 80) (x := ec (xE X) (36 + a1.toNatClampNeg)) F dX11_copy_80 6 rfl ?_
              refine g_iload_n (pc := 82) (x := a2) F dX11_copy_82 rfl 2 rfl ?_
              refine g_iload (pc := 83) (x := a5) F dX11_copy_83 5 rfl ?_
              obtain ⟨r20, e21, h⟩ := bd_some h
              refine g_vI (pc := 85) (Wf := Wc) (As := [.int a2, .int a5]) (rest := []) F (hX6_hasRange (ok_lt i9) e21 (xl X) (xE X)) kX6_hasRange lX11_258 (36 + a1.toNatClampNeg) rfl (wc_Sh _ _ (ok_lt i9)) rfl rfl rfl ⟨(Nat.le_of_ble_eq_true rfl), (Nat.le_of_ble_eq_true rfl)⟩ (Nat.le_of_ble_eq_true rfl) dX11_copy_85 ?_
              refine g_if_eq (pc := 88) (tgt := 103) F dX11_copy_88 (by decide) (fun c22 => ?_) (fun c22 => ?_)
              · have h := ite_t c22 h
                refine g_aload_n (pc := 103) (x := ec (xE X) 0) F dX11_copy_103 rfl 0 rfl ?_
                refine g_ldc (pc := 104) F oX11_81 dX11_copy_104 ?_
                obtain ⟨q23, e24, h⟩ := bd_some h
                refine g_vI (pc := 106) (Wf := Wc) (As := [.int (-1000000001 : Int32)]) (rest := []) F (hX11_found e24 (xl X) (xE X)) kX11_found lX11_82 0 rfl (wc_T _ _) rfl rfl rfl ⟨(Nat.le_of_ble_eq_true rfl), (Nat.le_of_ble_eq_true rfl)⟩ (Nat.le_of_ble_eq_true rfl) dX11_copy_106 ?_
                obtain rfl := Option.some.inj h
                exact g_iret (pc := 109) (Wf := Wc) F Rt rfl dX11_copy_109
              · have h := ite_f c22 h
                refine g_aload (pc := 91) (x := ec (xE X) (36 + a3.toNatClampNeg)) F dX11_copy_91 7 rfl ?_
                refine g_iload (pc := 93) (x := a4) F dX11_copy_93 4 rfl ?_
                refine g_iload (pc := 95) (x := a5) F dX11_copy_95 5 rfl ?_
                obtain ⟨r25, e26, h⟩ := bd_some h
                refine g_vI (pc := 97) (Wf := Wc) (As := [.int a4, .int a5]) (rest := []) F (hX6_hasRange (ok_lt i10) e26 (xl X) (xE X)) kX6_hasRange lX11_258 (36 + a3.toNatClampNeg) rfl (wc_Sh _ _ (ok_lt i10)) rfl rfl rfl ⟨(Nat.le_of_ble_eq_true rfl), (Nat.le_of_ble_eq_true rfl)⟩ (Nat.le_of_ble_eq_true rfl) dX11_copy_97 ?_
                refine g_if_ne (pc := 100) (tgt := 110) F dX11_copy_100 (by decide) (fun c27 => ?_) (fun c27 => ?_)
                · have h := ite_f c27 h
                  refine g_aload (pc := 110) (x := ec (xE X) (36 + a1.toNatClampNeg)) F dX11_copy_110 6 rfl ?_
                  refine g_get (pc := 112) (v := .ref (ec (xE X) (40 + a1.toNatClampNeg))) F fX11_262 (36 + a1.toNatClampNeg) (wc_Sh _ _ (ok_lt i9)) rfl dX11_copy_112 ?_
                  refine g_iload_n (pc := 115) (x := a2) F dX11_copy_115 rfl 2 rfl ?_
                  refine g_aload (pc := 116) (x := ec (xE X) (36 + a3.toNatClampNeg)) F dX11_copy_116 7 rfl ?_
                  refine g_get (pc := 118) (v := .ref (ec (xE X) (40 + a3.toNatClampNeg))) F fX11_262 (36 + a3.toNatClampNeg) (wc_Sh _ _ (ok_lt i10)) rfl dX11_copy_118 ?_
                  refine g_iload (pc := 121) (x := a4) F dX11_copy_121 4 rfl ?_
                  refine g_iload (pc := 123) (x := a5) F dX11_copy_123 5 rfl ?_
                  obtain ⟨i28, h⟩ := ck_some h
                  refine g_copy (pc := 125) (ws2 := Wc (xE X) (sJf M a3.toNatClampNeg (va_cpy (M.2 a1.toNatClampNeg) (M.2 a3.toNatClampNeg) a2.toNatClampNeg a4.toNatClampNeg a5.toNatClampNeg))) F lX11_266 ac1 ac2 ac3 (40 + a1.toNatClampNeg) (40 + a3.toNatClampNeg) (wc_Nu _ _ (ok_lt i9)) (wc_Nu _ _ (ok_lt i10)) i28 (wcf_Nu _ _ (ok_lt i10) _) ⟨by decide, by decide⟩ (Nat.le_of_ble_eq_true rfl) dX11_copy_125 ?_
                  refine g_iload (pc := 128) (x := a5) F dX11_copy_128 5 rfl ?_
                  obtain rfl := Option.some.inj h
                  exact g_iret (pc := 130) (Wf := Wc) F Rt rfl dX11_copy_130
                · have h := ite_t c27 h
                  refine g_aload_n (pc := 103) (x := ec (xE X) 0) F dX11_copy_103 rfl 0 rfl ?_
                  refine g_ldc (pc := 104) F oX11_81 dX11_copy_104 ?_
                  obtain ⟨q29, e30, h⟩ := bd_some h
                  refine g_vI (pc := 106) (Wf := Wc) (As := [.int (-1000000001 : Int32)]) (rest := []) F (hX11_found e30 (xl X) (xE X)) kX11_found lX11_82 0 rfl (wc_T _ _) rfl rfl rfl ⟨(Nat.le_of_ble_eq_true rfl), (Nat.le_of_ble_eq_true rfl)⟩ (Nat.le_of_ble_eq_true rfl) dX11_copy_106 ?_
                  obtain rfl := Option.some.inj h
                  exact g_iret (pc := 109) (Wf := Wc) F Rt rfl dX11_copy_109
            · have h := ite_f c19 h
              refine g_aload_n (pc := 73) (x := ec (xE X) 0) F dX11_copy_73 rfl 0 rfl ?_
              refine g_ldc (pc := 74) F oX11_177 dX11_copy_74 ?_
              obtain ⟨q31, e32, h⟩ := bd_some h
              refine g_vI (pc := 76) (Wf := Wc) (As := [.int (-1000000003 : Int32)]) (rest := []) F (hX11_found e32 (xl X) (xE X)) kX11_found lX11_82 0 rfl (wc_T _ _) rfl rfl rfl ⟨(Nat.le_of_ble_eq_true rfl), (Nat.le_of_ble_eq_true rfl)⟩ (Nat.le_of_ble_eq_true rfl) dX11_copy_76 ?_
              obtain rfl := Option.some.inj h
              exact g_iret (pc := 79) (Wf := Wc) F Rt rfl dX11_copy_79
          · have h := ite_f c18 h
            refine g_aload_n (pc := 53) (x := ec (xE X) 0) F dX11_copy_53 rfl 0 rfl ?_
            refine g_ldc (pc := 54) F oX11_254 dX11_copy_54 ?_
            obtain ⟨q33, e34, h⟩ := bd_some h
            refine g_vI (pc := 56) (Wf := Wc) (As := [.int (-1000000006 : Int32)]) (rest := []) F (hX11_found e34 (xl X) (xE X)) kX11_found lX11_82 0 rfl (wc_T _ _) rfl rfl rfl ⟨(Nat.le_of_ble_eq_true rfl), (Nat.le_of_ble_eq_true rfl)⟩ (Nat.le_of_ble_eq_true rfl) dX11_copy_56 ?_
            obtain rfl := Option.some.inj h
            exact g_iret (pc := 59) (Wf := Wc) F Rt rfl dX11_copy_59
      · have h := ite_t c8 h
        refine g_aload_n (pc := 14) (x := ec (xE X) 0) F dX11_copy_14 rfl 0 rfl ?_
        refine g_ldc (pc := 15) F oX11_81 dX11_copy_15 ?_
        obtain ⟨q35, e36, h⟩ := bd_some h
        refine g_vI (pc := 17) (Wf := Wc) (As := [.int (-1000000001 : Int32)]) (rest := []) F (hX11_found e36 (xl X) (xE X)) kX11_found lX11_82 0 rfl (wc_T _ _) rfl rfl rfl ⟨(Nat.le_of_ble_eq_true rfl), (Nat.le_of_ble_eq_true rfl)⟩ (Nat.le_of_ble_eq_true rfl) dX11_copy_17 ?_
        obtain rfl := Option.some.inj h
        exact g_iret (pc := 20) (Wf := Wc) F Rt rfl dX11_copy_20) l E
set_option maxHeartbeats 4000000 in
set_option maxRecDepth 100000 in
theorem wX11_lays_b29 {X : Cx} (F : Fx X cX11_lays RX11 3 63) (hx : xn X = 8) {N : Nat} {res : Int32 × Mem} (Rt : RI X Wc .int res.1 res.2) : ∀ (n : Nat) (M : Mem) (s3 : Nat) (hs3 : s3 < 4) (a4 : Int32) (a5 : Int32), mX11_lays_b29 N n M s3 a4 a5 = some res → G X (Wc (xE X) M) 29 [(0, .ref (ec (xE X) 0)), (3, .ref (ec (xE X) (36 + s3))), (4, .int a4), (5, .int a5)] [] := by
  intro n
  induction n with
  | zero =>
    intro M s3 hs3 a4 a5 h
    have h : none = some res := h
    cases h
  | succ n ih =>
    intro M s3 hs3 a4 a5 h
    rw [mX11_lays_b29] at h
    refine g_iload (pc := 29) (x := a5) F dX11_lays_29 3 rfl ?_
    refine g_aload_n (pc := 31) (x := ec (xE X) (36 + s3)) F dX11_lays_31 rfl 1 rfl ?_
    refine g_get (pc := 32) (v := .int (M.1 6 s3)) F fX11_240 (36 + s3) (wc_Sh _ _ hs3) rfl dX11_lays_32 ?_
    refine g_icmp_ge (pc := 35) (tgt := 96) F dX11_lays_35 (by decide) (fun c5 => ?_) (fun c5 => ?_)
    · have h := ite_t c5 h
      refine g_iload (pc := 96) (x := a4) F dX11_lays_96 2 rfl ?_
      obtain rfl := Option.some.inj h
      exact g_iret (pc := 98) (Wf := Wc) F Rt rfl dX11_lays_98
    · have h := ite_f c5 h
      refine g_aload_n (pc := 38) (x := ec (xE X) 0) F dX11_lays_38 rfl 0 rfl ?_
      refine g_iload (pc := 39) (x := a5) F dX11_lays_39 3 rfl ?_
      obtain ⟨r6, e7, h⟩ := bd_some h
      refine g_vI (pc := 41) (Wf := Wc) (As := [.int a5]) (rest := []) F (hX11_isShip e7 (xl X) (xE X)) kX11_isShip lX11_141 0 rfl (wc_T _ _) rfl rfl rfl ⟨(Nat.le_of_ble_eq_true rfl), (Nat.le_of_ble_eq_true rfl)⟩ (Nat.le_of_ble_eq_true rfl) dX11_lays_41 ?_
      refine g_if_eq (pc := 44) (tgt := 96) F dX11_lays_44 (by decide) (fun c8 => ?_) (fun c8 => ?_)
      · have h := ite_t c8 h
        refine g_iload (pc := 96) (x := a4) F dX11_lays_96 2 rfl ?_
        obtain rfl := Option.some.inj h
        exact g_iret (pc := 98) (Wf := Wc) F Rt rfl dX11_lays_98
      · have h := ite_f c8 h
        refine g_aload_n (pc := 47) (x := ec (xE X) (36 + s3)) F dX11_lays_47 rfl 1 rfl ?_
        refine g_iload (pc := 48) (x := a5) F dX11_lays_48 3 rfl ?_
        obtain ⟨r9, e10, h⟩ := bd_some h
        refine g_vL (pc := 50) (Wf := Wc) (As := [.int a5]) (rest := []) F (hX6_at hs3 e10 (xl X) (xE X)) kX6_at lX11_244 (36 + s3) rfl (wc_Sh _ _ hs3) rfl rfl rfl ⟨(Nat.le_of_ble_eq_true rfl), (Nat.le_of_ble_eq_true rfl)⟩ (Nat.le_of_ble_eq_true rfl) dX11_lays_50 ?_
        refine g_lstore (pc := 53) (lv2 := [(0, .ref (ec (xE X) 0)), (3, .ref (ec (xE X) (36 + s3))), (4, .int a4), (5, .int a5), (6, .long r9)]) F dX11_lays_53 (by rw [hx]; decide) [1, 2, 3, 4, 0] rfl ?_
        refine g_lload (pc := 55) (x := r9) F dX11_lays_55 4 rfl ?_
        refine g_lconst (pc := 57) (v := (0 : Int64)) F dX11_lays_57 (by decide) ?_
        refine g_lcmp (pc := 58) F dX11_lays_58 ?_
        refine g_if_lt (pc := 59) (tgt := 90) F dX11_lays_59 (by decide) (fun c11 => ?_) (fun c11 => ?_)
        · have h := ite_t c11 h
          refine g_iinc (pc := 90) (lv2 := [(0, .ref (ec (xE X) 0)), (3, .ref (ec (xE X) (36 + s3))), (4, .int a4), (5, .int (a5 + (1 : Int32))), (6, .long r9)]) F dX11_lays_90 3 rfl (ii_1 _) (by rw [hx]; decide) [1, 2, 3, 0, 4] rfl ?_
          refine g_goto (pc := 93) (tgt := 29) F dX11_lays_93 (by decide) ?_
          refine g_sub [0, 1, 2, 3] rfl ?_
          exact ih M s3 hs3 a4 (a5 + (1 : Int32)) h
        · have h := ite_f c11 h
          refine g_lload (pc := 62) (x := r9) F dX11_lays_62 4 rfl ?_
          refine g_ldc2 (pc := 64) F oX11_272 dX11_lays_64 ?_
          refine g_lcmp (pc := 67) F dX11_lays_67 ?_
          refine g_if_gt (pc := 68) (tgt := 90) F dX11_lays_68 (by decide) (fun c12 => ?_) (fun c12 => ?_)
          · have h := ite_t c12 h
            refine g_iinc (pc := 90) (lv2 := [(0, .ref (ec (xE X) 0)), (3, .ref (ec (xE X) (36 + s3))), (4, .int a4), (5, .int (a5 + (1 : Int32))), (6, .long r9)]) F dX11_lays_90 3 rfl (ii_1 _) (by rw [hx]; decide) [1, 2, 3, 0, 4] rfl ?_
            refine g_goto (pc := 93) (tgt := 29) F dX11_lays_93 (by decide) ?_
            refine g_sub [0, 1, 2, 3] rfl ?_
            exact ih M s3 hs3 a4 (a5 + (1 : Int32)) h
          · have h := ite_f c12 h
            refine g_aload_n (pc := 71) (x := ec (xE X) 0) F dX11_lays_71 rfl 0 rfl ?_
            refine g_get (pc := 72) (v := .ref (ec (xE X) (8 + 0))) F fX11_36 0 (wc_T _ _) rfl dX11_lays_72 ?_
            refine g_get (pc := 75) (v := .ref (ec (xE X) (11 + 0))) F fX11_144 (8 + 0) (wc_S _ _ (by decide)) rfl dX11_lays_75 ?_
            refine g_iload (pc := 78) (x := a5) F dX11_lays_78 3 rfl ?_
            obtain ⟨i13, h⟩ := ck_some h
            refine g_aald (pc := 80) (C := "TowerWarns$Vessel") (b := ec (xE X) (14 + 6 * 0 + a5.toNatClampNeg)) F (11 + 0) 3 (wc_A _ _ (by decide)) rfl i13 rfl dX11_lays_80 ?_
            refine g_lload (pc := 81) (x := r9) F dX11_lays_81 4 rfl ?_
            refine g_l2i (pc := 83) F dX11_lays_83 ?_
            refine g_put (pc := 84) (ws2 := Wc (xE X) (sI M 0 (6 + 7 * a5.toNatClampNeg + 2) r9.toInt32)) F pX11_204 (14 + 6 * 0 + a5.toNatClampNeg) (wc_V _ _ (by decide) (ok_lt i13)) rfl rfl (Nat.le_of_ble_eq_true rfl) (wcp_V2 _ _ (by decide) (ok_lt i13) _) dX11_lays_84 ?_
            refine g_iinc (pc := 87) (lv2 := [(0, .ref (ec (xE X) 0)), (3, .ref (ec (xE X) (36 + s3))), (4, .int (a4 + (1 : Int32))), (5, .int a5), (6, .long r9)]) F dX11_lays_87 2 rfl (ii_1 _) (by rw [hx]; decide) [1, 2, 0, 3, 4] rfl ?_
            refine g_iinc (pc := 90) (lv2 := [(0, .ref (ec (xE X) 0)), (3, .ref (ec (xE X) (36 + s3))), (4, .int (a4 + (1 : Int32))), (5, .int (a5 + (1 : Int32))), (6, .long r9)]) F dX11_lays_90 3 rfl (ii_1 _) (by rw [hx]; decide) [1, 2, 3, 0, 4] rfl ?_
            refine g_goto (pc := 93) (tgt := 29) F dX11_lays_93 (by decide) ?_
            refine g_sub [0, 1, 2, 3] rfl ?_
            exact ih (sI M 0 (6 + 7 * a5.toNatClampNeg + 2) r9.toInt32) s3 hs3 (a4 + (1 : Int32)) (a5 + (1 : Int32)) h
set_option maxHeartbeats 4000000 in
set_option maxRecDepth 100000 in
theorem hX11_lays {N : Nat} {M : Mem} {a1 : Int32} {res : Int32 × Mem} (h : mX11_lays N M a1 = some res) (l : Launch) (E : Ev) : CtI l E (Wc E) yX11_lays cX11_lays 8 .int 3 63 [.ref (ec E 0), .int a1] M res.1 res.2 :=
  ctI_of (Wf := Wc) (av := fun E => [.ref (ec E 0), .int a1]) (lv := fun E => [(0, .ref (ec E 0)), (1, .int a1)]) (by decide) (fun _ => rfl) (fun _ => (Nat.le_of_ble_eq_true rfl)) (fun X F hx Rt => by
    have F : Fx X cX11_lays RX11 3 63 := F
    unfold mX11_lays at h
    refine g_aload_n (pc := 0) (x := ec (xE X) 0) F dX11_lays_0 rfl 0 rfl ?_
    refine g_iload_n (pc := 1) (x := a1) F dX11_lays_1 rfl 1 rfl ?_
    obtain ⟨r1, e2, h⟩ := bd_some h
    refine g_vI (pc := 2) (Wf := Wc) (As := [.int a1]) (rest := []) F (hX11_amissInSheet e2 (xl X) (xE X)) kX11_amissInSheet lX11_241 0 rfl (wc_T _ _) rfl rfl rfl ⟨(Nat.le_of_ble_eq_true rfl), (Nat.le_of_ble_eq_true rfl)⟩ (Nat.le_of_ble_eq_true rfl) dX11_lays_2 ?_
    refine g_istore_n (pc := 5) (lv2 := [(0, .ref (ec (xE X) 0)), (1, .int a1), (2, .int r1)]) F dX11_lays_5 rfl (by rw [hx]; decide) [1, 2, 0] rfl ?_
    refine g_iload_n (pc := 6) (x := r1) F dX11_lays_6 rfl 2 rfl ?_
    refine g_if_eq (pc := 7) (tgt := 16) F dX11_lays_7 (by decide) (fun c3 => ?_) (fun c3 => ?_)
    · have h := ite_t c3 h
      refine g_aload_n (pc := 16) (x := ec (xE X) 0) F dX11_lays_16 rfl 0 rfl ?_
      refine g_get (pc := 17) (v := .ref (ec (xE X) 35)) F fX11_69 0 (wc_T _ _) rfl dX11_lays_17 ?_
      refine g_iload_n (pc := 20) (x := a1) F dX11_lays_20 rfl 1 rfl ?_
      obtain ⟨i4, h⟩ := ck_some h
      refine g_aald (pc := 21) (C := "TowerWarns$Sheet") (b := ec (xE X) (36 + a1.toNatClampNeg)) F 35 5 (wc_Sa _ _) rfl i4 rfl dX11_lays_21 ?_
      refine g_astore_n (pc := 22) (lv2 := [(0, .ref (ec (xE X) 0)), (1, .int a1), (2, .int r1), (3, .ref (ec (xE X) (36 + a1.toNatClampNeg)))]) F dX11_lays_22 rfl (by rw [hx]; decide) [1, 2, 3, 0] rfl ?_
      refine g_iconst (pc := 23) F dX11_lays_23 ic_0 ?_
      refine g_istore (pc := 24) (lv2 := [(0, .ref (ec (xE X) 0)), (1, .int a1), (2, .int r1), (3, .ref (ec (xE X) (36 + a1.toNatClampNeg))), (4, .int (0 : Int32))]) F dX11_lays_24 (by rw [hx]; decide) [1, 2, 3, 4, 0] rfl ?_
      refine g_iconst (pc := 26) F dX11_lays_26 ic_0 ?_
      refine g_istore (pc := 27) (lv2 := [(0, .ref (ec (xE X) 0)), (1, .int a1), (2, .int r1), (3, .ref (ec (xE X) (36 + a1.toNatClampNeg))), (4, .int (0 : Int32)), (5, .int (0 : Int32))]) F dX11_lays_27 (by rw [hx]; decide) [1, 2, 3, 4, 5, 0] rfl ?_
      refine g_sub [0, 3, 4, 5] rfl ?_
      exact wX11_lays_b29 F hx Rt N M a1.toNatClampNeg (ok_lt i4) (0 : Int32) (0 : Int32) h
    · have h := ite_f c3 h
      refine g_aload_n (pc := 10) (x := ec (xE X) 0) F dX11_lays_10 rfl 0 rfl ?_
      refine g_iload_n (pc := 11) (x := r1) F dX11_lays_11 rfl 2 rfl ?_
      obtain ⟨q14, e15, h⟩ := bd_some h
      refine g_vI (pc := 12) (Wf := Wc) (As := [.int r1]) (rest := []) F (hX11_found e15 (xl X) (xE X)) kX11_found lX11_82 0 rfl (wc_T _ _) rfl rfl rfl ⟨(Nat.le_of_ble_eq_true rfl), (Nat.le_of_ble_eq_true rfl)⟩ (Nat.le_of_ble_eq_true rfl) dX11_lays_12 ?_
      obtain rfl := Option.some.inj h
      exact g_iret (pc := 15) (Wf := Wc) F Rt rfl dX11_lays_15) l E
set_option maxHeartbeats 4000000 in
set_option maxRecDepth 100000 in
theorem wX11_book_b47 {X : Cx} (F : Fx X cX11_book RX11 5 121) (hx : xn X = 6) {N : Nat} {res : Int32 × Mem} (Rt : RI X Wc .int res.1 res.2) : ∀ (n : Nat) (M : Mem) (s4 : Nat) (hs4 : s4 < 4) (a5 : Int32), mX11_book_b47 N n M s4 a5 = some res → G X (Wc (xE X) M) 47 [(0, .ref (ec (xE X) 0)), (4, .ref (ec (xE X) (36 + s4))), (5, .int a5)] [] := by
  intro n
  induction n with
  | zero =>
    intro M s4 hs4 a5 h
    have h : none = some res := h
    cases h
  | succ n ih =>
    intro M s4 hs4 a5 h
    rw [mX11_book_b47] at h
    refine g_iload (pc := 47) (x := a5) F dX11_book_47 2 rfl ?_
    refine g_aload (pc := 49) (x := ec (xE X) (36 + s4)) F dX11_book_49 1 rfl ?_
    refine g_get (pc := 51) (v := .int (M.1 6 s4)) F fX11_240 (36 + s4) (wc_Sh _ _ hs4) rfl dX11_book_51 ?_
    refine g_icmp_ge (pc := 54) (tgt := 91) F dX11_book_54 (by decide) (fun c10 => ?_) (fun c10 => ?_)
    · have h := ite_t c10 h
      refine g_aload (pc := 91) (x := ec (xE X) (36 + s4)) F dX11_book_91 1 rfl ?_
      refine g_get (pc := 93) (v := .int (M.1 6 s4)) F fX11_240 (36 + s4) (wc_Sh _ _ hs4) rfl dX11_book_93 ?_
      obtain rfl := Option.some.inj h
      exact g_iret (pc := 96) (Wf := Wc) F Rt rfl dX11_book_96
    · have h := ite_f c10 h
      refine g_aload (pc := 57) (x := ec (xE X) (36 + s4)) F dX11_book_57 1 rfl ?_
      refine g_iload (pc := 59) (x := a5) F dX11_book_59 2 rfl ?_
      refine g_aload_n (pc := 61) (x := ec (xE X) 0) F dX11_book_61 rfl 0 rfl ?_
      refine g_get (pc := 62) (v := .ref (ec (xE X) (8 + 2))) F fX11_43 0 (wc_T _ _) rfl dX11_book_62 ?_
      refine g_get (pc := 65) (v := .ref (ec (xE X) (11 + 2))) F fX11_144 (8 + 2) (wc_S _ _ (by decide)) rfl dX11_book_65 ?_
      refine g_iconst (pc := 68) F dX11_book_68 ic_0 ?_
      refine g_aald (pc := 69) (C := "TowerWarns$Vessel") (b := ec (xE X) (14 + 6 * 2 + 0)) F (11 + 2) 3 (wc_A _ _ (by decide)) rfl vi_0_6 rfl dX11_book_69 ?_
      refine g_get (pc := 70) (v := .int (M.1 2 (6 + 7 * 0 + 2))) F fX11_204 (14 + 6 * 2 + 0) (wc_V _ _ (by decide) (by decide)) rfl dX11_book_70 ?_
      refine g_i2l (pc := 73) F dX11_book_73 ?_
      obtain ⟨M11, e12, h⟩ := bd_some h
      refine g_vV (pc := 74) (Wf := Wc) (As := [.int a5, .long ((M.1 2 (6 + 7 * 0 + 2)).toInt64)]) (rest := []) F (hX6_put hs4 e12 (xl X) (xE X)) kX6_put lX11_248 (36 + s4) rfl (wc_Sh _ _ hs4) rfl rfl rfl ⟨(Nat.le_of_ble_eq_true rfl), (Nat.le_of_ble_eq_true rfl)⟩ (Nat.le_of_ble_eq_true rfl) dX11_book_74 ?_
      refine g_aload_n (pc := 77) (x := ec (xE X) 0) F dX11_book_77 rfl 0 rfl ?_
      refine g_get (pc := 78) (v := .ref (ec (xE X) (8 + 2))) F fX11_43 0 (wc_T _ _) rfl dX11_book_78 ?_
      refine g_iconst (pc := 81) F dX11_book_81 ic_1 ?_
      obtain ⟨M13, e14, h⟩ := bd_some h
      refine g_vV (pc := 82) (Wf := Wc) (As := [.int (1 : Int32)]) (rest := []) F (hX4_pass (by decide) e14 (xl X) (xE X)) kX4_pass lX11_180 (8 + 2) rfl (wc_S _ _ (by decide)) rfl rfl rfl ⟨(Nat.le_of_ble_eq_true rfl), (Nat.le_of_ble_eq_true rfl)⟩ (Nat.le_of_ble_eq_true rfl) dX11_book_82 ?_
      refine g_iinc (pc := 85) (lv2 := [(0, .ref (ec (xE X) 0)), (4, .ref (ec (xE X) (36 + s4))), (5, .int (a5 + (1 : Int32)))]) F dX11_book_85 2 rfl (ii_1 _) (by rw [hx]; decide) [1, 2, 0] rfl ?_
      refine g_goto (pc := 88) (tgt := 47) F dX11_book_88 (by decide) ?_
      refine g_sub [0, 1, 2] rfl ?_
      exact ih M13 s4 hs4 (a5 + (1 : Int32)) h
set_option maxHeartbeats 4000000 in
set_option maxRecDepth 100000 in
theorem hX11_book {N : Nat} {M : Mem} {a1 : Int32} {a2 : Int32} {res : Int32 × Mem} (h : mX11_book N M a1 a2 = some res) (l : Launch) (E : Ev) : CtI l E (Wc E) yX11_book cX11_book 6 .int 5 121 [.ref (ec E 0), .int a1, .int a2] M res.1 res.2 :=
  ctI_of (Wf := Wc) (av := fun E => [.ref (ec E 0), .int a1, .int a2]) (lv := fun E => [(0, .ref (ec E 0)), (1, .int a1), (2, .int a2)]) (by decide) (fun _ => rfl) (fun _ => (Nat.le_of_ble_eq_true rfl)) (fun X F hx Rt => by
    have F : Fx X cX11_book RX11 5 121 := F
    unfold mX11_book at h
    refine g_aload_n (pc := 0) (x := ec (xE X) 0) F dX11_book_0 rfl 0 rfl ?_
    refine g_iload_n (pc := 1) (x := a1) F dX11_book_1 rfl 1 rfl ?_
    obtain ⟨r1, e2, h⟩ := bd_some h
    refine g_vI (pc := 2) (Wf := Wc) (As := [.int a1]) (rest := []) F (hX11_amissInSheet e2 (xl X) (xE X)) kX11_amissInSheet lX11_241 0 rfl (wc_T _ _) rfl rfl rfl ⟨(Nat.le_of_ble_eq_true rfl), (Nat.le_of_ble_eq_true rfl)⟩ (Nat.le_of_ble_eq_true rfl) dX11_book_2 ?_
    refine g_istore_n (pc := 5) (lv2 := [(0, .ref (ec (xE X) 0)), (1, .int a1), (2, .int a2), (3, .int r1)]) F dX11_book_5 rfl (by rw [hx]; decide) [1, 2, 3, 0] rfl ?_
    refine g_iload_n (pc := 6) (x := r1) F dX11_book_6 rfl 3 rfl ?_
    refine g_if_eq (pc := 7) (tgt := 16) F dX11_book_7 (by decide) (fun c3 => ?_) (fun c3 => ?_)
    · have h := ite_t c3 h
      refine g_aload_n (pc := 16) (x := ec (xE X) 0) F dX11_book_16 rfl 0 rfl ?_
      refine g_get (pc := 17) (v := .ref (ec (xE X) 35)) F fX11_69 0 (wc_T _ _) rfl dX11_book_17 ?_
      refine g_iload_n (pc := 20) (x := a1) F dX11_book_20 rfl 1 rfl ?_
      obtain ⟨i4, h⟩ := ck_some h
      refine g_aald (pc := 21) (C := "TowerWarns$Sheet") (b := ec (xE X) (36 + a1.toNatClampNeg)) F 35 5 (wc_Sa _ _) rfl i4 rfl dX11_book_21 ?_
      refine g_astore (pc := 22) (lv2 := [(0, .ref (ec (xE X) 0)), (1, .int a1), (2, .int a2), (3, .int r1), (4, .ref (ec (xE X) (36 + a1.toNatClampNeg)))]) F dX11_book_22 (by rw [hx]; decide) [1, 2, 3, 4, 0] rfl ?_
      refine g_aload_n (pc := 24) (x := ec (xE X) 0) F dX11_book_24 rfl 0 rfl ?_
      refine g_iload_n (pc := 25) (x := a2) F dX11_book_25 rfl 2 rfl ?_
      obtain ⟨r5, e6, h⟩ := bd_some h
      refine g_vI (pc := 26) (Wf := Wc) (As := [.int a2]) (rest := []) F (hX11_isShip e6 (xl X) (xE X)) kX11_isShip lX11_141 0 rfl (wc_T _ _) rfl rfl rfl ⟨(Nat.le_of_ble_eq_true rfl), (Nat.le_of_ble_eq_true rfl)⟩ (Nat.le_of_ble_eq_true rfl) dX11_book_26 ?_
      refine g_if_ne (pc := 29) (tgt := 39) F dX11_book_29 (by decide) (fun c7 => ?_) (fun c7 => ?_)
      · have h := ite_f c7 h
        refine g_aload_n (pc := 39) (x := ec (xE X) 0) F dX11_book_39 rfl 0 rfl ?_
        refine g_iload_n (pc := 40) (x := a2) F dX11_book_40 rfl 2 rfl ?_
        obtain ⟨M8, e9, h⟩ := bd_some h
        refine g_vV (pc := 41) (Wf := Wc) (As := [.int a2]) (rest := []) F (hX11_tryAlone e9 (xl X) (xE X)) kX11_tryAlone lX11_184 0 rfl (wc_T _ _) rfl rfl rfl ⟨(Nat.le_of_ble_eq_true rfl), (Nat.le_of_ble_eq_true rfl)⟩ (Nat.le_of_ble_eq_true rfl) dX11_book_41 ?_
        refine g_iconst (pc := 44) F dX11_book_44 ic_0 ?_
        refine g_istore (pc := 45) (lv2 := [(0, .ref (ec (xE X) 0)), (1, .int a1), (2, .int a2), (3, .int r1), (4, .ref (ec (xE X) (36 + a1.toNatClampNeg))), (5, .int (0 : Int32))]) F dX11_book_45 (by rw [hx]; decide) [1, 2, 3, 4, 5, 0] rfl ?_
        refine g_sub [0, 4, 5] rfl ?_
        exact wX11_book_b47 F hx Rt N M8 a1.toNatClampNeg (ok_lt i4) (0 : Int32) h
      · have h := ite_t c7 h
        refine g_aload_n (pc := 32) (x := ec (xE X) 0) F dX11_book_32 rfl 0 rfl ?_
        refine g_ldc (pc := 33) F oX11_81 dX11_book_33 ?_
        obtain ⟨q15, e16, h⟩ := bd_some h
        refine g_vI (pc := 35) (Wf := Wc) (As := [.int (-1000000001 : Int32)]) (rest := []) F (hX11_found e16 (xl X) (xE X)) kX11_found lX11_82 0 rfl (wc_T _ _) rfl rfl rfl ⟨(Nat.le_of_ble_eq_true rfl), (Nat.le_of_ble_eq_true rfl)⟩ (Nat.le_of_ble_eq_true rfl) dX11_book_35 ?_
        obtain rfl := Option.some.inj h
        exact g_iret (pc := 38) (Wf := Wc) F Rt rfl dX11_book_38
    · have h := ite_f c3 h
      refine g_aload_n (pc := 10) (x := ec (xE X) 0) F dX11_book_10 rfl 0 rfl ?_
      refine g_iload_n (pc := 11) (x := r1) F dX11_book_11 rfl 3 rfl ?_
      obtain ⟨q17, e18, h⟩ := bd_some h
      refine g_vI (pc := 12) (Wf := Wc) (As := [.int r1]) (rest := []) F (hX11_found e18 (xl X) (xE X)) kX11_found lX11_82 0 rfl (wc_T _ _) rfl rfl rfl ⟨(Nat.le_of_ble_eq_true rfl), (Nat.le_of_ble_eq_true rfl)⟩ (Nat.le_of_ble_eq_true rfl) dX11_book_12 ?_
      obtain rfl := Option.some.inj h
      exact g_iret (pc := 15) (Wf := Wc) F Rt rfl dX11_book_15) l E
set_option maxHeartbeats 4000000 in
set_option maxRecDepth 100000 in
theorem wX11_goesAsTold_b2 {X : Cx} (F : Fx X cX11_goesAsTold RX11 5 121) (hx : xn X = 3) {N : Nat} {res : Int32 × Mem} (Rt : RI X Wc .boolean res.1 res.2) : ∀ (n : Nat) (M : Mem) (s1 : Nat) (hs1 : s1 < 4) (a2 : Int32), mX11_goesAsTold_b2 N n M s1 a2 = some res → G X (Wc (xE X) M) 2 [(0, .ref (ec (xE X) 0)), (1, .ref (ec (xE X) (36 + s1))), (2, .int a2)] [] := by
  intro n
  induction n with
  | zero =>
    intro M s1 hs1 a2 h
    have h : none = some res := h
    cases h
  | succ n ih =>
    intro M s1 hs1 a2 h
    rw [mX11_goesAsTold_b2] at h
    refine g_iload_n (pc := 2) (x := a2) F dX11_goesAsTold_2 rfl 2 rfl ?_
    refine g_aload_n (pc := 3) (x := ec (xE X) (36 + s1)) F dX11_goesAsTold_3 rfl 1 rfl ?_
    refine g_get (pc := 4) (v := .int (M.1 6 s1)) F fX11_240 (36 + s1) (wc_Sh _ _ hs1) rfl dX11_goesAsTold_4 ?_
    refine g_icmp_ge (pc := 7) (tgt := 48) F dX11_goesAsTold_7 (by decide) (fun c1 => ?_) (fun c1 => ?_)
    · have h := ite_t c1 h
      refine g_iconst (pc := 48) F dX11_goesAsTold_48 ic_1 ?_
      obtain rfl := Option.some.inj h
      exact g_iret (pc := 49) (Wf := Wc) F Rt (by decide) dX11_goesAsTold_49
    · have h := ite_f c1 h
      refine g_aload_n (pc := 10) (x := ec (xE X) (36 + s1)) F dX11_goesAsTold_10 rfl 1 rfl ?_
      refine g_iload_n (pc := 11) (x := a2) F dX11_goesAsTold_11 rfl 2 rfl ?_
      obtain ⟨r2, e3, h⟩ := bd_some h
      refine g_vL (pc := 12) (Wf := Wc) (As := [.int a2]) (rest := []) F (hX6_at hs1 e3 (xl X) (xE X)) kX6_at lX11_244 (36 + s1) rfl (wc_Sh _ _ hs1) rfl rfl rfl ⟨(Nat.le_of_ble_eq_true rfl), (Nat.le_of_ble_eq_true rfl)⟩ (Nat.le_of_ble_eq_true rfl) dX11_goesAsTold_12 ?_
      refine g_aload_n (pc := 15) (x := ec (xE X) 0) F dX11_goesAsTold_15 rfl 0 rfl ?_
      refine g_get (pc := 16) (v := .ref (ec (xE X) (8 + 2))) F fX11_43 0 (wc_T _ _) rfl dX11_goesAsTold_16 ?_
      refine g_get (pc := 19) (v := .ref (ec (xE X) (11 + 2))) F fX11_144 (8 + 2) (wc_S _ _ (by decide)) rfl dX11_goesAsTold_19 ?_
      refine g_iconst (pc := 22) F dX11_goesAsTold_22 ic_0 ?_
      refine g_aald (pc := 23) (C := "TowerWarns$Vessel") (b := ec (xE X) (14 + 6 * 2 + 0)) F (11 + 2) 3 (wc_A _ _ (by decide)) rfl vi_0_6 rfl dX11_goesAsTold_23 ?_
      refine g_get (pc := 24) (v := .int (M.1 2 (6 + 7 * 0 + 2))) F fX11_204 (14 + 6 * 2 + 0) (wc_V _ _ (by decide) (by decide)) rfl dX11_goesAsTold_24 ?_
      refine g_i2l (pc := 27) F dX11_goesAsTold_27 ?_
      refine g_lcmp (pc := 28) F dX11_goesAsTold_28 ?_
      refine g_if_eq (pc := 29) (tgt := 34) F dX11_goesAsTold_29 (by decide) (fun c4 => ?_) (fun c4 => ?_)
      · have h := ite_t c4 h
        refine g_aload_n (pc := 34) (x := ec (xE X) 0) F dX11_goesAsTold_34 rfl 0 rfl ?_
        refine g_get (pc := 35) (v := .ref (ec (xE X) (8 + 2))) F fX11_43 0 (wc_T _ _) rfl dX11_goesAsTold_35 ?_
        refine g_iconst (pc := 38) F dX11_goesAsTold_38 ic_1 ?_
        obtain ⟨M5, e6, h⟩ := bd_some h
        refine g_vV (pc := 39) (Wf := Wc) (As := [.int (1 : Int32)]) (rest := []) F (hX4_pass (by decide) e6 (xl X) (xE X)) kX4_pass lX11_180 (8 + 2) rfl (wc_S _ _ (by decide)) rfl rfl rfl ⟨(Nat.le_of_ble_eq_true rfl), (Nat.le_of_ble_eq_true rfl)⟩ (Nat.le_of_ble_eq_true rfl) dX11_goesAsTold_39 ?_
        refine g_iinc (pc := 42) (lv2 := [(0, .ref (ec (xE X) 0)), (1, .ref (ec (xE X) (36 + s1))), (2, .int (a2 + (1 : Int32)))]) F dX11_goesAsTold_42 2 rfl (ii_1 _) (by rw [hx]; decide) [1, 2, 0] rfl ?_
        refine g_goto (pc := 45) (tgt := 2) F dX11_goesAsTold_45 (by decide) ?_
        refine g_sub [0, 1, 2] rfl ?_
        exact ih M5 s1 hs1 (a2 + (1 : Int32)) h
      · have h := ite_f c4 h
        refine g_iconst (pc := 32) F dX11_goesAsTold_32 ic_0 ?_
        obtain rfl := Option.some.inj h
        exact g_iret (pc := 33) (Wf := Wc) F Rt (by decide) dX11_goesAsTold_33
set_option maxHeartbeats 4000000 in
set_option maxRecDepth 100000 in
theorem hX11_goesAsTold {N : Nat} {M : Mem} {s1 : Nat} (hs1 : s1 < 4) {res : Int32 × Mem} (h : mX11_goesAsTold N M s1 = some res) (l : Launch) (E : Ev) : CtI l E (Wc E) yX11_goesAsTold cX11_goesAsTold 3 .boolean 5 121 [.ref (ec E 0), .ref (ec E (36 + s1))] M res.1 res.2 :=
  ctI_of (Wf := Wc) (av := fun E => [.ref (ec E 0), .ref (ec E (36 + s1))]) (lv := fun E => [(0, .ref (ec E 0)), (1, .ref (ec E (36 + s1)))]) (by decide) (fun _ => rfl) (fun _ => (Nat.le_of_ble_eq_true rfl)) (fun X F hx Rt => by
    have F : Fx X cX11_goesAsTold RX11 5 121 := F
    unfold mX11_goesAsTold at h
    refine g_iconst (pc := 0) F dX11_goesAsTold_0 ic_0 ?_
    refine g_istore_n (pc := 1) (lv2 := [(0, .ref (ec (xE X) 0)), (1, .ref (ec (xE X) (36 + s1))), (2, .int (0 : Int32))]) F dX11_goesAsTold_1 rfl (by rw [hx]; decide) [1, 2, 0] rfl ?_
    refine g_sub [0, 1, 2] rfl ?_
    exact wX11_goesAsTold_b2 F hx Rt N M s1 hs1 (0 : Int32) h) l E
set_option maxHeartbeats 4000000 in
set_option maxRecDepth 100000 in
theorem wX11_read_b54 {X : Cx} (F : Fx X cX11_read RX11 6 143) (hx : xn X = 8) {N : Nat} {res : Int32 × Mem} (Rt : RI X Wc .int res.1 res.2) {K45 : Mem → Int32 → Nat → Int32 → Int32 → Option (Int32 × Mem)} (hK45 : ∀ (M : Mem) (a2 : Int32) (s4 : Nat) (hs4 : s4 < 4) (a5 : Int32) (a6 : Int32), K45 M a2 s4 a5 a6 = some res → G X (Wc (xE X) M) 45 [(0, .ref (ec (xE X) 0)), (2, .int a2), (4, .ref (ec (xE X) (36 + s4))), (5, .int a5), (6, .int a6)] []) : ∀ (n : Nat) (M : Mem) (a2 : Int32) (s4 : Nat) (hs4 : s4 < 4) (a5 : Int32) (a6 : Int32) (a7 : Int32), mX11_read_b54 N K45 n M a2 s4 a5 a6 a7 = some res → G X (Wc (xE X) M) 54 [(0, .ref (ec (xE X) 0)), (2, .int a2), (4, .ref (ec (xE X) (36 + s4))), (5, .int a5), (6, .int a6), (7, .int a7)] [] := by
  intro n
  induction n with
  | zero =>
    intro M a2 s4 hs4 a5 a6 a7 h
    have h : none = some res := h
    cases h
  | succ n ih =>
    intro M a2 s4 hs4 a5 a6 a7 h
    rw [mX11_read_b54] at h
    refine g_iload (pc := 54) (x := a7) F dX11_read_54 5 rfl ?_
    refine g_bipush (pc := 56) F dX11_read_56 bp_9 ?_
    refine g_icmp_gt (pc := 58) (tgt := 112) F dX11_read_58 (by decide) (fun c9 => ?_) (fun c9 => ?_)
    · have h := ite_t c9 h
      refine g_iinc (pc := 112) (lv2 := [(0, .ref (ec (xE X) 0)), (2, .int a2), (4, .ref (ec (xE X) (36 + s4))), (5, .int a5), (6, .int (a6 + (1 : Int32))), (7, .int a7)]) F dX11_read_112 4 rfl (ii_1 _) (by rw [hx]; decide) [1, 2, 3, 4, 0, 5] rfl ?_
      refine g_goto (pc := 115) (tgt := 45) F dX11_read_115 (by decide) ?_
      refine g_sub [0, 1, 2, 3, 4] rfl ?_
      exact hK45 M a2 s4 hs4 a5 (a6 + (1 : Int32)) h
    · have h := ite_f c9 h
      refine g_aload_n (pc := 61) (x := ec (xE X) 0) F dX11_read_61 rfl 0 rfl ?_
      refine g_iload_n (pc := 62) (x := a2) F dX11_read_62 rfl 1 rfl ?_
      obtain ⟨M10, e11, h⟩ := bd_some h
      refine g_vV (pc := 63) (Wf := Wc) (As := [.int a2]) (rest := []) F (hX11_tryAlone e11 (xl X) (xE X)) kX11_tryAlone lX11_184 0 rfl (wc_T _ _) rfl rfl rfl ⟨(Nat.le_of_ble_eq_true rfl), (Nat.le_of_ble_eq_true rfl)⟩ (Nat.le_of_ble_eq_true rfl) dX11_read_63 ?_
      refine g_aload_n (pc := 66) (x := ec (xE X) 0) F dX11_read_66 rfl 0 rfl ?_
      refine g_get (pc := 67) (v := .ref (ec (xE X) (8 + 2))) F fX11_43 0 (wc_T _ _) rfl dX11_read_67 ?_
      refine g_get (pc := 70) (v := .ref (ec (xE X) (11 + 2))) F fX11_144 (8 + 2) (wc_S _ _ (by decide)) rfl dX11_read_70 ?_
      refine g_iconst (pc := 73) F dX11_read_73 ic_0 ?_
      refine g_aald (pc := 74) (C := "TowerWarns$Vessel") (b := ec (xE X) (14 + 6 * 2 + 0)) F (11 + 2) 3 (wc_A _ _ (by decide)) rfl vi_0_6 rfl dX11_read_74 ?_
      refine g_aload_n (pc := 75) (x := ec (xE X) 0) F dX11_read_75 rfl 0 rfl ?_
      refine g_get (pc := 76) (v := .ref (ec (xE X) 1)) F fX11_27 0 (wc_T _ _) rfl dX11_read_76 ?_
      refine g_iload (pc := 79) (x := a6) F dX11_read_79 4 rfl ?_
      obtain ⟨i12, h⟩ := ck_some h
      refine g_aald (pc := 81) (C := "TowerWarns$Ship") (b := ec (xE X) (2 + a6.toNatClampNeg)) F 1 4 (wc_Ks _ _) rfl i12 rfl dX11_read_81 ?_
      refine g_put (pc := 82) (ws2 := Wc (xE X) (sI M10 2 (6 + 7 * 0 + 0) a6)) F pX11_164 (14 + 6 * 2 + 0) (wc_V _ _ (by decide) (by decide)) rfl rfl (Nat.le_of_ble_eq_true rfl) (wcp_V0 _ _ (by decide) (by decide) _) dX11_read_82 ?_
      refine g_aload_n (pc := 85) (x := ec (xE X) 0) F dX11_read_85 rfl 0 rfl ?_
      refine g_get (pc := 86) (v := .ref (ec (xE X) (8 + 2))) F fX11_43 0 (wc_T _ _) rfl dX11_read_86 ?_
      refine g_iload (pc := 89) (x := a7) F dX11_read_89 5 rfl ?_
      obtain ⟨M13, e14, h⟩ := bd_some h
      refine g_put (pc := 91) (ws2 := Wc (xE X) (M13)) F pX11_100 (8 + 2) (wc_S _ _ (by decide)) rfl rfl (Nat.le_of_ble_eq_true rfl) (Eq.trans (wcp_S4 _ _ (by decide) _) (congrArg (Wc (xE X)) (Option.some.inj e14))) dX11_read_91 ?_
      refine g_aload_n (pc := 94) (x := ec (xE X) 0) F dX11_read_94 rfl 0 rfl ?_
      refine g_aload (pc := 95) (x := ec (xE X) (36 + s4)) F dX11_read_95 2 rfl ?_
      obtain ⟨q15, e16, h⟩ := bd_some h
      refine g_vI (pc := 97) (Wf := Wc) (As := [.ref (ec (xE X) (36 + s4))]) (rest := []) F (hX11_goesAsTold hs4 e16 (xl X) (xE X)) kX11_goesAsTold lX11_274 0 rfl (wc_T _ _) rfl rfl rfl ⟨(Nat.le_of_ble_eq_true rfl), (Nat.le_of_ble_eq_true rfl)⟩ (Nat.le_of_ble_eq_true rfl) dX11_read_97 ?_
      refine g_if_eq (pc := 100) (tgt := 106) F dX11_read_100 (by decide) (fun c17 => ?_) (fun c17 => ?_)
      · have h := ite_t c17 h
        refine g_iinc (pc := 106) (lv2 := [(0, .ref (ec (xE X) 0)), (2, .int a2), (4, .ref (ec (xE X) (36 + s4))), (5, .int a5), (6, .int a6), (7, .int (a7 + (1 : Int32)))]) F dX11_read_106 5 rfl (ii_1 _) (by rw [hx]; decide) [1, 2, 3, 4, 5, 0] rfl ?_
        refine g_goto (pc := 109) (tgt := 54) F dX11_read_109 (by decide) ?_
        refine g_sub [0, 1, 2, 3, 4, 5] rfl ?_
        exact ih q15.2 a2 s4 hs4 a5 a6 (a7 + (1 : Int32)) h
      · have h := ite_f c17 h
        refine g_iinc (pc := 103) (lv2 := [(0, .ref (ec (xE X) 0)), (2, .int a2), (4, .ref (ec (xE X) (36 + s4))), (5, .int (a5 + (1 : Int32))), (6, .int a6), (7, .int a7)]) F dX11_read_103 3 rfl (ii_1 _) (by rw [hx]; decide) [1, 2, 3, 0, 4, 5] rfl ?_
        refine g_iinc (pc := 106) (lv2 := [(0, .ref (ec (xE X) 0)), (2, .int a2), (4, .ref (ec (xE X) (36 + s4))), (5, .int (a5 + (1 : Int32))), (6, .int a6), (7, .int (a7 + (1 : Int32)))]) F dX11_read_106 5 rfl (ii_1 _) (by rw [hx]; decide) [1, 2, 3, 4, 5, 0] rfl ?_
        refine g_goto (pc := 109) (tgt := 54) F dX11_read_109 (by decide) ?_
        refine g_sub [0, 1, 2, 3, 4, 5] rfl ?_
        exact ih q15.2 a2 s4 hs4 (a5 + (1 : Int32)) a6 (a7 + (1 : Int32)) h
set_option maxHeartbeats 4000000 in
set_option maxRecDepth 100000 in
theorem wX11_read_b45 {X : Cx} (F : Fx X cX11_read RX11 6 143) (hx : xn X = 8) {N : Nat} {res : Int32 × Mem} (Rt : RI X Wc .int res.1 res.2) : ∀ (n : Nat) (M : Mem) (a2 : Int32) (s4 : Nat) (hs4 : s4 < 4) (a5 : Int32) (a6 : Int32), mX11_read_b45 N n M a2 s4 a5 a6 = some res → G X (Wc (xE X) M) 45 [(0, .ref (ec (xE X) 0)), (2, .int a2), (4, .ref (ec (xE X) (36 + s4))), (5, .int a5), (6, .int a6)] [] := by
  intro n
  induction n with
  | zero =>
    intro M a2 s4 hs4 a5 a6 h
    have h : none = some res := h
    cases h
  | succ n ih =>
    intro M a2 s4 hs4 a5 a6 h
    rw [mX11_read_b45] at h
    refine g_iload (pc := 45) (x := a6) F dX11_read_45 4 rfl ?_
    refine g_iconst (pc := 47) F dX11_read_47 ic_5 ?_
    refine g_icmp_gt (pc := 48) (tgt := 118) F dX11_read_48 (by decide) (fun c8 => ?_) (fun c8 => ?_)
    · have h := ite_t c8 h
      refine g_iload (pc := 118) (x := a5) F dX11_read_118 3 rfl ?_
      obtain rfl := Option.some.inj h
      exact g_iret (pc := 120) (Wf := Wc) F Rt rfl dX11_read_120
    · have h := ite_f c8 h
      refine g_iconst (pc := 51) F dX11_read_51 ic_0 ?_
      refine g_istore (pc := 52) (lv2 := [(0, .ref (ec (xE X) 0)), (2, .int a2), (4, .ref (ec (xE X) (36 + s4))), (5, .int a5), (6, .int a6), (7, .int (0 : Int32))]) F dX11_read_52 (by rw [hx]; decide) [1, 2, 3, 4, 5, 0] rfl ?_
      refine g_sub [0, 1, 2, 3, 4, 5] rfl ?_
      exact wX11_read_b54 F hx Rt ih N M a2 s4 hs4 a5 a6 (0 : Int32) h
set_option maxHeartbeats 4000000 in
set_option maxRecDepth 100000 in
theorem hX11_read {N : Nat} {M : Mem} {a1 : Int32} {a2 : Int32} {res : Int32 × Mem} (h : mX11_read N M a1 a2 = some res) (l : Launch) (E : Ev) : CtI l E (Wc E) yX11_read cX11_read 8 .int 6 143 [.ref (ec E 0), .int a1, .int a2] M res.1 res.2 :=
  ctI_of (Wf := Wc) (av := fun E => [.ref (ec E 0), .int a1, .int a2]) (lv := fun E => [(0, .ref (ec E 0)), (1, .int a1), (2, .int a2)]) (by decide) (fun _ => rfl) (fun _ => (Nat.le_of_ble_eq_true rfl)) (fun X F hx Rt => by
    have F : Fx X cX11_read RX11 6 143 := F
    unfold mX11_read at h
    refine g_aload_n (pc := 0) (x := ec (xE X) 0) F dX11_read_0 rfl 0 rfl ?_
    refine g_iload_n (pc := 1) (x := a1) F dX11_read_1 rfl 1 rfl ?_
    obtain ⟨r1, e2, h⟩ := bd_some h
    refine g_vI (pc := 2) (Wf := Wc) (As := [.int a1]) (rest := []) F (hX11_amissInSheet e2 (xl X) (xE X)) kX11_amissInSheet lX11_241 0 rfl (wc_T _ _) rfl rfl rfl ⟨(Nat.le_of_ble_eq_true rfl), (Nat.le_of_ble_eq_true rfl)⟩ (Nat.le_of_ble_eq_true rfl) dX11_read_2 ?_
    refine g_istore_n (pc := 5) (lv2 := [(0, .ref (ec (xE X) 0)), (1, .int a1), (2, .int a2), (3, .int r1)]) F dX11_read_5 rfl (by rw [hx]; decide) [1, 2, 3, 0] rfl ?_
    refine g_iload_n (pc := 6) (x := r1) F dX11_read_6 rfl 3 rfl ?_
    refine g_if_eq (pc := 7) (tgt := 16) F dX11_read_7 (by decide) (fun c3 => ?_) (fun c3 => ?_)
    · have h := ite_t c3 h
      refine g_aload_n (pc := 16) (x := ec (xE X) 0) F dX11_read_16 rfl 0 rfl ?_
      refine g_get (pc := 17) (v := .ref (ec (xE X) 35)) F fX11_69 0 (wc_T _ _) rfl dX11_read_17 ?_
      refine g_iload_n (pc := 20) (x := a1) F dX11_read_20 rfl 1 rfl ?_
      obtain ⟨i4, h⟩ := ck_some h
      refine g_aald (pc := 21) (C := "TowerWarns$Sheet") (b := ec (xE X) (36 + a1.toNatClampNeg)) F 35 5 (wc_Sa _ _) rfl i4 rfl dX11_read_21 ?_
      refine g_astore (pc := 22) (lv2 := [(0, .ref (ec (xE X) 0)), (1, .int a1), (2, .int a2), (3, .int r1), (4, .ref (ec (xE X) (36 + a1.toNatClampNeg)))]) F dX11_read_22 (by rw [hx]; decide) [1, 2, 3, 4, 0] rfl ?_
      refine g_aload_n (pc := 24) (x := ec (xE X) 0) F dX11_read_24 rfl 0 rfl ?_
      refine g_iload_n (pc := 25) (x := a2) F dX11_read_25 rfl 2 rfl ?_
      obtain ⟨r5, e6, h⟩ := bd_some h
      refine g_vI (pc := 26) (Wf := Wc) (As := [.int a2]) (rest := []) F (hX11_isShip e6 (xl X) (xE X)) kX11_isShip lX11_141 0 rfl (wc_T _ _) rfl rfl rfl ⟨(Nat.le_of_ble_eq_true rfl), (Nat.le_of_ble_eq_true rfl)⟩ (Nat.le_of_ble_eq_true rfl) dX11_read_26 ?_
      refine g_if_ne (pc := 29) (tgt := 39) F dX11_read_29 (by decide) (fun c7 => ?_) (fun c7 => ?_)
      · have h := ite_f c7 h
        refine g_iconst (pc := 39) F dX11_read_39 ic_0 ?_
        refine g_istore (pc := 40) (lv2 := [(0, .ref (ec (xE X) 0)), (1, .int a1), (2, .int a2), (3, .int r1), (4, .ref (ec (xE X) (36 + a1.toNatClampNeg))), (5, .int (0 : Int32))]) F dX11_read_40 (by rw [hx]; decide) [1, 2, 3, 4, 5, 0] rfl ?_
        refine g_iconst (pc := 42) F dX11_read_42 ic_0 ?_
        refine g_istore (pc := 43) (lv2 := [(0, .ref (ec (xE X) 0)), (1, .int a1), (2, .int a2), (3, .int r1), (4, .ref (ec (xE X) (36 + a1.toNatClampNeg))), (5, .int (0 : Int32)), (6, .int (0 : Int32))]) F dX11_read_43 (by rw [hx]; decide) [1, 2, 3, 4, 5, 6, 0] rfl ?_
        refine g_sub [0, 2, 4, 5, 6] rfl ?_
        exact wX11_read_b45 F hx Rt N M a2 a1.toNatClampNeg (ok_lt i4) (0 : Int32) (0 : Int32) h
      · have h := ite_t c7 h
        refine g_aload_n (pc := 32) (x := ec (xE X) 0) F dX11_read_32 rfl 0 rfl ?_
        refine g_ldc (pc := 33) F oX11_81 dX11_read_33 ?_
        obtain ⟨q18, e19, h⟩ := bd_some h
        refine g_vI (pc := 35) (Wf := Wc) (As := [.int (-1000000001 : Int32)]) (rest := []) F (hX11_found e19 (xl X) (xE X)) kX11_found lX11_82 0 rfl (wc_T _ _) rfl rfl rfl ⟨(Nat.le_of_ble_eq_true rfl), (Nat.le_of_ble_eq_true rfl)⟩ (Nat.le_of_ble_eq_true rfl) dX11_read_35 ?_
        obtain rfl := Option.some.inj h
        exact g_iret (pc := 38) (Wf := Wc) F Rt rfl dX11_read_38
    · have h := ite_f c3 h
      refine g_aload_n (pc := 10) (x := ec (xE X) 0) F dX11_read_10 rfl 0 rfl ?_
      refine g_iload_n (pc := 11) (x := r1) F dX11_read_11 rfl 3 rfl ?_
      obtain ⟨q20, e21, h⟩ := bd_some h
      refine g_vI (pc := 12) (Wf := Wc) (As := [.int r1]) (rest := []) F (hX11_found e21 (xl X) (xE X)) kX11_found lX11_82 0 rfl (wc_T _ _) rfl rfl rfl ⟨(Nat.le_of_ble_eq_true rfl), (Nat.le_of_ble_eq_true rfl)⟩ (Nat.le_of_ble_eq_true rfl) dX11_read_12 ?_
      obtain rfl := Option.some.inj h
      exact g_iret (pc := 15) (Wf := Wc) F Rt rfl dX11_read_15) l E
set_option maxHeartbeats 4000000 in
set_option maxRecDepth 100000 in
theorem hX11_image {N : Nat} {M : Mem} {res : Int32 × Mem} (h : mX11_image N M = some res) (l : Launch) (E : Ev) : CtI l E (Wc E) yX11_image cX11_image 1 .int 2 43 [.ref (ec E 0)] M res.1 res.2 :=
  ctI_of (Wf := Wc) (av := fun E => [.ref (ec E 0)]) (lv := fun E => [(0, .ref (ec E 0))]) (by decide) (fun _ => rfl) (fun _ => (Nat.le_of_ble_eq_true rfl)) (fun X F hx Rt => by
    have F : Fx X cX11_image RX11 2 43 := F
    unfold mX11_image at h
    refine g_aload_n (pc := 0) (x := ec (xE X) 0) F dX11_image_0 rfl 0 rfl ?_
    refine g_get (pc := 1) (v := .ref (ec (xE X) (8 + 1))) F fX11_40 0 (wc_T _ _) rfl dX11_image_1 ?_
    refine g_aload_n (pc := 4) (x := ec (xE X) 0) F dX11_image_4 rfl 0 rfl ?_
    refine g_get (pc := 5) (v := .ref (ec (xE X) (8 + 0))) F fX11_36 0 (wc_T _ _) rfl dX11_image_5 ?_
    obtain ⟨M1, e2, h⟩ := bd_some h
    refine g_vV (pc := 8) (Wf := Wc) (As := [.ref (ec (xE X) (8 + 0))]) (rest := []) F (hX4_become (by decide) (by decide) e2 (xl X) (xE X)) kX4_become lX11_187 (8 + 1) rfl (wc_S _ _ (by decide)) rfl rfl rfl ⟨(Nat.le_of_ble_eq_true rfl), (Nat.le_of_ble_eq_true rfl)⟩ (Nat.le_of_ble_eq_true rfl) dX11_image_8 ?_
    refine g_aload_n (pc := 11) (x := ec (xE X) 0) F dX11_image_11 rfl 0 rfl ?_
    refine g_iconst (pc := 12) F dX11_image_12 ic_1 ?_
    refine g_put (pc := 13) (ws2 := Wc (xE X) (sI M1 3 0 (1 : Int32))) F pX11_46 0 (wc_T _ _) (by decide) (by decide) (Nat.le_of_ble_eq_true rfl) (wcp_T4 _ _ _) dX11_image_13 ?_
    refine g_iconst (pc := 16) F dX11_image_16 ic_1 ?_
    obtain rfl := Option.some.inj h
    exact g_iret (pc := 17) (Wf := Wc) F Rt rfl dX11_image_17) l E
set_option maxHeartbeats 4000000 in
set_option maxRecDepth 100000 in
theorem hX11_undo {N : Nat} {M : Mem} {res : Int32 × Mem} (h : mX11_undo N M = some res) (l : Launch) (E : Ev) : CtI l E (Wc E) yX11_undo cX11_undo 1 .int 2 44 [.ref (ec E 0)] M res.1 res.2 :=
  ctI_of (Wf := Wc) (av := fun E => [.ref (ec E 0)]) (lv := fun E => [(0, .ref (ec E 0))]) (by decide) (fun _ => rfl) (fun _ => (Nat.le_of_ble_eq_true rfl)) (fun X F hx Rt => by
    have F : Fx X cX11_undo RX11 2 44 := F
    unfold mX11_undo at h
    refine g_aload_n (pc := 0) (x := ec (xE X) 0) F dX11_undo_0 rfl 0 rfl ?_
    refine g_get (pc := 1) (v := .int (M.1 3 0)) F fX11_46 0 (wc_T _ _) rfl dX11_undo_1 ?_
    refine g_if_ne (pc := 4) (tgt := 14) F dX11_undo_4 (by decide) (fun c1 => ?_) (fun c1 => ?_)
    · have h := ite_f c1 h
      refine g_aload_n (pc := 14) (x := ec (xE X) 0) F dX11_undo_14 rfl 0 rfl ?_
      refine g_get (pc := 15) (v := .ref (ec (xE X) (8 + 0))) F fX11_36 0 (wc_T _ _) rfl dX11_undo_15 ?_
      refine g_aload_n (pc := 18) (x := ec (xE X) 0) F dX11_undo_18 rfl 0 rfl ?_
      refine g_get (pc := 19) (v := .ref (ec (xE X) (8 + 1))) F fX11_40 0 (wc_T _ _) rfl dX11_undo_19 ?_
      obtain ⟨M2, e3, h⟩ := bd_some h
      refine g_vV (pc := 22) (Wf := Wc) (As := [.ref (ec (xE X) (8 + 1))]) (rest := []) F (hX4_become (by decide) (by decide) e3 (xl X) (xE X)) kX4_become lX11_187 (8 + 0) rfl (wc_S _ _ (by decide)) rfl rfl rfl ⟨(Nat.le_of_ble_eq_true rfl), (Nat.le_of_ble_eq_true rfl)⟩ (Nat.le_of_ble_eq_true rfl) dX11_undo_22 ?_
      refine g_aload_n (pc := 25) (x := ec (xE X) 0) F dX11_undo_25 rfl 0 rfl ?_
      refine g_get (pc := 26) (v := .ref (ec (xE X) (8 + 0))) F fX11_36 0 (wc_T _ _) rfl dX11_undo_26 ?_
      refine g_get (pc := 29) (v := .int (M2.1 0 5)) F fX11_138 (8 + 0) (wc_S _ _ (by decide)) rfl dX11_undo_29 ?_
      obtain rfl := Option.some.inj h
      exact g_iret (pc := 32) (Wf := Wc) F Rt rfl dX11_undo_32
    · have h := ite_t c1 h
      refine g_aload_n (pc := 7) (x := ec (xE X) 0) F dX11_undo_7 rfl 0 rfl ?_
      refine g_ldc (pc := 8) F oX11_194 dX11_undo_8 ?_
      obtain ⟨q4, e5, h⟩ := bd_some h
      refine g_vI (pc := 10) (Wf := Wc) (As := [.int (-1000000004 : Int32)]) (rest := []) F (hX11_found e5 (xl X) (xE X)) kX11_found lX11_82 0 rfl (wc_T _ _) rfl rfl rfl ⟨(Nat.le_of_ble_eq_true rfl), (Nat.le_of_ble_eq_true rfl)⟩ (Nat.le_of_ble_eq_true rfl) dX11_undo_10 ?_
      obtain rfl := Option.some.inj h
      exact g_iret (pc := 13) (Wf := Wc) F Rt rfl dX11_undo_13) l E
