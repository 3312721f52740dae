set_option maxHeartbeats 4000000 in
set_option maxRecDepth 100000 in
theorem hX6_isMissing {M : Mem} {s0 : Nat} (hs0 : s0 < 4) {res : Int32} (h : mX6_isMissing s0 M = some res) (l : Launch) (E : Ev) : CtI l E (Wc E) yX6_isMissing cX6_isMissing 1 .boolean 0 0 [.ref (ec E (36 + s0))] M res M :=
  ctI_of (Wf := Wc) (av := fun E => [.ref (ec E (36 + s0))]) (lv := fun E => [(0, .ref (ec E (36 + s0)))]) (by decide) (fun _ => rfl) (fun _ => (Nat.le_of_ble_eq_true rfl)) (fun X F hx Rt => by
    have F : Fx X cX6_isMissing RX6 0 0 := F
    unfold mX6_isMissing at h
    refine g_aload_n (pc := 0) (x := ec (xE X) (36 + s0)) F dX6_isMissing_0 rfl 0 rfl ?_
    refine g_get (pc := 1) (v := .int (M.1 5 s0)) F fX6_9 (36 + s0) (wc_Sh _ _ hs0) rfl dX6_isMissing_1 ?_
    refine g_if_ne (pc := 4) (tgt := 11) F dX6_isMissing_4 (by decide) (fun c1 => ?_) (fun c1 => ?_)
    · have h := ite_f c1 h
      refine g_iconst (pc := 11) F dX6_isMissing_11 ic_0 ?_
      obtain rfl := Option.some.inj h
      exact g_iret (pc := 12) (Wf := Wc) F Rt (by decide) dX6_isMissing_12
    · have h := ite_t c1 h
      refine g_iconst (pc := 7) F dX6_isMissing_7 ic_1 ?_
      refine g_goto (pc := 8) (tgt := 12) F dX6_isMissing_8 (by decide) ?_
      obtain rfl := Option.some.inj h
      exact g_iret (pc := 12) (Wf := Wc) F Rt (by decide) dX6_isMissing_12) l E
set_option maxHeartbeats 4000000 in
set_option maxRecDepth 100000 in
theorem wX6_lay_b12 {X : Cx} (F : Fx X cX6_lay RX6 0 0) (hx : xn X = 4) {N : Nat} {s0 : Nat} (hs0 : s0 < 4) {res : Mem} (Rt : RV X Wc res) : ∀ (n : Nat) (M : Mem) (a3 : Int32), mX6_lay_b12 N s0 n M a3 = some res → G X (Wc (xE X) M) 12 [(0, .ref (ec (xE X) (36 + s0))), (3, .int a3)] [] := by
  intro n
  induction n with
  | zero =>
    intro M a3 h
    have h : none = some res := h
    cases h
  | succ n ih =>
    intro M a3 h
    rw [mX6_lay_b12] at h
    refine g_iload_n (pc := 12) (x := a3) F dX6_lay_12 rfl 1 rfl ?_
    refine g_bipush (pc := 13) F dX6_lay_13 bp_40 ?_
    refine g_icmp_ge (pc := 15) (tgt := 31) F dX6_lay_15 (by decide) (fun c3 => ?_) (fun c3 => ?_)
    · have h := ite_t c3 h
      obtain rfl := Option.some.inj h
      exact g_vret (pc := 31) (Wf := Wc) F Rt dX6_lay_31
    · have h := ite_f c3 h
      refine g_aload_n (pc := 18) (x := ec (xE X) (36 + s0)) F dX6_lay_18 rfl 0 rfl ?_
      refine g_get (pc := 19) (v := .ref (ec (xE X) (40 + s0))) F fX6_18 (36 + s0) (wc_Sh _ _ hs0) rfl dX6_lay_19 ?_
      refine g_iload_n (pc := 22) (x := a3) F dX6_lay_22 rfl 1 rfl ?_
      refine g_lconst (pc := 23) (v := (0 : Int64)) F dX6_lay_23 (by decide) ?_
      obtain ⟨i4, h⟩ := ck_some h
      refine g_last (pc := 24) (N := 40) (fn := M.2 s0) (j := a3.toNatClampNeg) (ws2 := Wc (xE X) (sJ M s0 a3.toNatClampNeg (0 : Int64))) F (40 + s0) 1 (wc_Nu _ _ hs0) rfl i4 rfl (wcl_Nu _ _ hs0 _ _) dX6_lay_24 ?_
      refine g_iinc (pc := 25) (lv2 := [(0, .ref (ec (xE X) (36 + s0))), (3, .int (a3 + (1 : Int32)))]) F dX6_lay_25 1 rfl (ii_1 _) (by rw [hx]; decide) [1, 0] rfl ?_
      refine g_goto (pc := 28) (tgt := 12) F dX6_lay_28 (by decide) ?_
      refine g_sub [0, 1] rfl ?_
      exact ih (sJ M s0 a3.toNatClampNeg (0 : Int64)) (a3 + (1 : Int32)) h
set_option maxHeartbeats 4000000 in
set_option maxRecDepth 100000 in
theorem hX6_lay {N : Nat} {M : Mem} {a1 : Int32} {a2 : Int32} {s0 : Nat} (hs0 : s0 < 4) {res : Mem} (h : mX6_lay N s0 M a1 a2 = some res) (l : Launch) (E : Ev) : CtV l E (Wc E) yX6_lay cX6_lay 4 0 0 [.ref (ec E (36 + s0)), .int a1, .int a2] M res :=
  ctV_of (Wf := Wc) (av := fun E => [.ref (ec E (36 + s0)), .int a1, .int a2]) (lv := fun E => [(0, .ref (ec E (36 + s0))), (1, .int a1), (2, .int a2)]) (by decide) (fun _ => rfl) (fun _ => (Nat.le_of_ble_eq_true rfl)) (fun X F hx Rt => by
    have F : Fx X cX6_lay RX6 0 0 := F
    unfold mX6_lay at h
    refine g_aload_n (pc := 0) (x := ec (xE X) (36 + s0)) F dX6_lay_0 rfl 0 rfl ?_
    refine g_iload_n (pc := 1) (x := a1) F dX6_lay_1 rfl 1 rfl ?_
    refine g_put (pc := 2) (ws2 := Wc (xE X) (sI M 5 s0 a1)) F pX6_9 (36 + s0) (wc_Sh _ _ hs0) rfl rfl (Nat.le_of_ble_eq_true rfl) (wcp_Sh0 _ _ hs0 _) dX6_lay_2 ?_
    refine g_aload_n (pc := 5) (x := ec (xE X) (36 + s0)) F dX6_lay_5 rfl 0 rfl ?_
    refine g_iload_n (pc := 6) (x := a2) F dX6_lay_6 rfl 2 rfl ?_
    obtain ⟨M1, e2, h⟩ := bd_some h
    refine g_put (pc := 7) (ws2 := Wc (xE X) (M1)) F pX6_15 (36 + s0) (wc_Sh _ _ hs0) rfl rfl (Nat.le_of_ble_eq_true rfl) (Eq.trans (wcp_Sh1 _ _ hs0 _) (congrArg (Wc (xE X)) (Option.some.inj e2))) dX6_lay_7 ?_
    refine g_iconst (pc := 10) F dX6_lay_10 ic_0 ?_
    refine g_istore_n (pc := 11) (lv2 := [(0, .ref (ec (xE X) (36 + s0))), (1, .int a1), (2, .int a2), (3, .int (0 : Int32))]) F dX6_lay_11 rfl (by rw [hx]; decide) [1, 2, 3, 0] rfl ?_
    refine g_sub [0, 3] rfl ?_
    exact wX6_lay_b12 F hx hs0 Rt N M1 (0 : Int32) h) l E
set_option maxHeartbeats 4000000 in
set_option maxRecDepth 100000 in
theorem hX6_has {M : Mem} {a1 : Int32} {s0 : Nat} (hs0 : s0 < 4) {res : Int32} (h : mX6_has s0 M a1 = some res) (l : Launch) (E : Ev) : CtI l E (Wc E) yX6_has cX6_has 2 .boolean 0 0 [.ref (ec E (36 + s0)), .int a1] M res M :=
  ctI_of (Wf := Wc) (av := fun E => [.ref (ec E (36 + s0)), .int a1]) (lv := fun E => [(0, .ref (ec E (36 + s0))), (1, .int a1)]) (by decide) (fun _ => rfl) (fun _ => (Nat.le_of_ble_eq_true rfl)) (fun X F hx Rt => by
    have F : Fx X cX6_has RX6 0 0 := F
    unfold mX6_has at h
    refine g_iload_n (pc := 0) (x := a1) F dX6_has_0 rfl 1 rfl ?_
    refine g_if_lt (pc := 1) (tgt := 22) F dX6_has_1 (by decide) (fun c1 => ?_) (fun c1 => ?_)
    · have h := ite_t c1 h
      refine g_iconst (pc := 22) F dX6_has_22 ic_0 ?_
      obtain rfl := Option.some.inj h
      exact g_iret (pc := 23) (Wf := Wc) F Rt (by decide) dX6_has_23
    · have h := ite_f c1 h
      refine g_iload_n (pc := 4) (x := a1) F dX6_has_4 rfl 1 rfl ?_
      refine g_aload_n (pc := 5) (x := ec (xE X) (36 + s0)) F dX6_has_5 rfl 0 rfl ?_
      refine g_get (pc := 6) (v := .int (M.1 6 s0)) F fX6_15 (36 + s0) (wc_Sh _ _ hs0) rfl dX6_has_6 ?_
      refine g_icmp_ge (pc := 9) (tgt := 22) F dX6_has_9 (by decide) (fun c2 => ?_) (fun c2 => ?_)
      · have h := ite_t c2 h
        refine g_iconst (pc := 22) F dX6_has_22 ic_0 ?_
        obtain rfl := Option.some.inj h
        exact g_iret (pc := 23) (Wf := Wc) F Rt (by decide) dX6_has_23
      · have h := ite_f c2 h
        refine g_iload_n (pc := 12) (x := a1) F dX6_has_12 rfl 1 rfl ?_
        refine g_bipush (pc := 13) F dX6_has_13 bp_40 ?_
        refine g_icmp_ge (pc := 15) (tgt := 22) F dX6_has_15 (by decide) (fun c3 => ?_) (fun c3 => ?_)
        · have h := ite_t c3 h
          refine g_iconst (pc := 22) F dX6_has_22 ic_0 ?_
          obtain rfl := Option.some.inj h
          exact g_iret (pc := 23) (Wf := Wc) F Rt (by decide) dX6_has_23
        · have h := ite_f c3 h
          refine g_iconst (pc := 18) F dX6_has_18 ic_1 ?_
          refine g_goto (pc := 19) (tgt := 23) F dX6_has_19 (by decide) ?_
          obtain rfl := Option.some.inj h
          exact g_iret (pc := 23) (Wf := Wc) F Rt (by decide) dX6_has_23) l E
set_option maxHeartbeats 4000000 in
set_option maxRecDepth 100000 in
theorem hX6_hasRange {M : Mem} {a1 : Int32} {a2 : Int32} {s0 : Nat} (hs0 : s0 < 4) {res : Int32} (h : mX6_hasRange s0 M a1 a2 = some res) (l : Launch) (E : Ev) : CtI l E (Wc E) yX6_hasRange cX6_hasRange 3 .boolean 0 0 [.ref (ec E (36 + s0)), .int a1, .int a2] M res M :=
  ctI_of (Wf := Wc) (av := fun E => [.ref (ec E (36 + s0)), .int a1, .int a2]) (lv := fun E => [(0, .ref (ec E (36 + s0))), (1, .int a1), (2, .int a2)]) (by decide) (fun _ => rfl) (fun _ => (Nat.le_of_ble_eq_true rfl)) (fun X F hx Rt => by
    have F : Fx X cX6_hasRange RX6 0 0 := F
    unfold mX6_hasRange at h
    refine g_iload_n (pc := 0) (x := a1) F dX6_hasRange_0 rfl 1 rfl ?_
    refine g_if_lt (pc := 1) (tgt := 30) F dX6_hasRange_1 (by decide) (fun c1 => ?_) (fun c1 => ?_)
    · have h := ite_t c1 h
      refine g_iconst (pc := 30) F dX6_hasRange_30 ic_0 ?_
      obtain rfl := Option.some.inj h
      exact g_iret (pc := 31) (Wf := Wc) F Rt (by decide) dX6_hasRange_31
    · have h := ite_f c1 h
      refine g_iload_n (pc := 4) (x := a2) F dX6_hasRange_4 rfl 2 rfl ?_
      refine g_if_lt (pc := 5) (tgt := 30) F dX6_hasRange_5 (by decide) (fun c2 => ?_) (fun c2 => ?_)
      · have h := ite_t c2 h
        refine g_iconst (pc := 30) F dX6_hasRange_30 ic_0 ?_
        obtain rfl := Option.some.inj h
        exact g_iret (pc := 31) (Wf := Wc) F Rt (by decide) dX6_hasRange_31
      · have h := ite_f c2 h
        refine g_iload_n (pc := 8) (x := a2) F dX6_hasRange_8 rfl 2 rfl ?_
        refine g_aload_n (pc := 9) (x := ec (xE X) (36 + s0)) F dX6_hasRange_9 rfl 0 rfl ?_
        refine g_get (pc := 10) (v := .int (M.1 6 s0)) F fX6_15 (36 + s0) (wc_Sh _ _ hs0) rfl dX6_hasRange_10 ?_
        refine g_icmp_gt (pc := 13) (tgt := 30) F dX6_hasRange_13 (by decide) (fun c3 => ?_) (fun c3 => ?_)
        · have h := ite_t c3 h
          refine g_iconst (pc := 30) F dX6_hasRange_30 ic_0 ?_
          obtain rfl := Option.some.inj h
          exact g_iret (pc := 31) (Wf := Wc) F Rt (by decide) dX6_hasRange_31
        · have h := ite_f c3 h
          refine g_iload_n (pc := 16) (x := a1) F dX6_hasRange_16 rfl 1 rfl ?_
          refine g_aload_n (pc := 17) (x := ec (xE X) (36 + s0)) F dX6_hasRange_17 rfl 0 rfl ?_
          refine g_get (pc := 18) (v := .int (M.1 6 s0)) F fX6_15 (36 + s0) (wc_Sh _ _ hs0) rfl dX6_hasRange_18 ?_
          refine g_iload_n (pc := 21) (x := a2) F dX6_hasRange_21 rfl 2 rfl ?_
          refine g_isub (pc := 22) F dX6_hasRange_22 ?_
          refine g_icmp_gt (pc := 23) (tgt := 30) F dX6_hasRange_23 (by decide) (fun c4 => ?_) (fun c4 => ?_)
          · have h := ite_t c4 h
            refine g_iconst (pc := 30) F dX6_hasRange_30 ic_0 ?_
            obtain rfl := Option.some.inj h
            exact g_iret (pc := 31) (Wf := Wc) F Rt (by decide) dX6_hasRange_31
          · have h := ite_f c4 h
            refine g_iconst (pc := 26) F dX6_hasRange_26 ic_1 ?_
            refine g_goto (pc := 27) (tgt := 31) F dX6_hasRange_27 (by decide) ?_
            obtain rfl := Option.some.inj h
            exact g_iret (pc := 31) (Wf := Wc) F Rt (by decide) dX6_hasRange_31) l E
set_option maxHeartbeats 4000000 in
set_option maxRecDepth 100000 in
theorem hX6_at {M : Mem} {a1 : Int32} {s0 : Nat} (hs0 : s0 < 4) {res : Int64} (h : mX6_at s0 M a1 = some res) (l : Launch) (E : Ev) : CtL l E (Wc E) yX6_at cX6_at 2 1 21 [.ref (ec E (36 + s0)), .int a1] M res M :=
  ctL_of (Wf := Wc) (av := fun E => [.ref (ec E (36 + s0)), .int a1]) (lv := fun E => [(0, .ref (ec E (36 + s0))), (1, .int a1)]) (by decide) (fun _ => rfl) (fun _ => (Nat.le_of_ble_eq_true rfl)) (fun X F hx Rt => by
    have F : Fx X cX6_at RX6 1 21 := F
    unfold mX6_at at h
    refine g_aload_n (pc := 0) (x := ec (xE X) (36 + s0)) F dX6_at_0 rfl 0 rfl ?_
    refine g_iload_n (pc := 1) (x := a1) F dX6_at_1 rfl 1 rfl ?_
    obtain ⟨r1, e2, h⟩ := bd_some h
    refine g_vI (pc := 2) (Wf := Wc) (As := [.int a1]) (rest := []) F (hX6_has hs0 e2 (xl X) (xE X)) kX6_has lX6_22 (36 + s0) rfl (wc_Sh _ _ hs0) rfl rfl rfl ⟨(Nat.le_of_ble_eq_true rfl), (Nat.le_of_ble_eq_true rfl)⟩ (Nat.le_of_ble_eq_true rfl) dX6_at_2 ?_
    refine g_if_eq (pc := 5) (tgt := 17) F dX6_at_5 (by decide) (fun c3 => ?_) (fun c3 => ?_)
    · have h := ite_t c3 h
      refine g_lconst (pc := 17) (v := (0 : Int64)) F dX6_at_17 (by decide) ?_
      obtain rfl := Option.some.inj h
      exact g_lret (pc := 18) (Wf := Wc) F Rt dX6_at_18
    · have h := ite_f c3 h
      refine g_aload_n (pc := 8) (x := ec (xE X) (36 + s0)) F dX6_at_8 rfl 0 rfl ?_
      refine g_get (pc := 9) (v := .ref (ec (xE X) (40 + s0))) F fX6_18 (36 + s0) (wc_Sh _ _ hs0) rfl dX6_at_9 ?_
      refine g_iload_n (pc := 12) (x := a1) F dX6_at_12 rfl 1 rfl ?_
      obtain ⟨i4, h⟩ := ck_some h
      refine g_lald (pc := 13) (N := 40) (fn := M.2 s0) (j := a1.toNatClampNeg) F (40 + s0) 1 (wc_Nu _ _ hs0) rfl i4 rfl dX6_at_13 ?_
      refine g_goto (pc := 14) (tgt := 18) F dX6_at_14 (by decide) ?_
      obtain rfl := Option.some.inj h
      exact g_lret (pc := 18) (Wf := Wc) F Rt dX6_at_18) l E
set_option maxHeartbeats 4000000 in
set_option maxRecDepth 100000 in
theorem hX6_put {M : Mem} {a1 : Int32} {a2 : Int64} {s0 : Nat} (hs0 : s0 < 4) {res : Mem} (h : mX6_put s0 M a1 a2 = some res) (l : Launch) (E : Ev) : CtV l E (Wc E) yX6_put cX6_put 4 1 21 [.ref (ec E (36 + s0)), .int a1, .long a2] M res :=
  ctV_of (Wf := Wc) (av := fun E => [.ref (ec E (36 + s0)), .int a1, .long a2]) (lv := fun E => [(0, .ref (ec E (36 + s0))), (1, .int a1), (2, .long a2)]) (by decide) (fun _ => rfl) (fun _ => (Nat.le_of_ble_eq_true rfl)) (fun X F hx Rt => by
    have F : Fx X cX6_put RX6 1 21 := F
    unfold mX6_put at h
    refine g_aload_n (pc := 0) (x := ec (xE X) (36 + s0)) F dX6_put_0 rfl 0 rfl ?_
    refine g_iload_n (pc := 1) (x := a1) F dX6_put_1 rfl 1 rfl ?_
    obtain ⟨r1, e2, h⟩ := bd_some h
    refine g_vI (pc := 2) (Wf := Wc) (As := [.int a1]) (rest := []) F (hX6_has hs0 e2 (xl X) (xE X)) kX6_has lX6_22 (36 + s0) rfl (wc_Sh _ _ hs0) rfl rfl rfl ⟨(Nat.le_of_ble_eq_true rfl), (Nat.le_of_ble_eq_true rfl)⟩ (Nat.le_of_ble_eq_true rfl) dX6_put_2 ?_
    refine g_if_eq (pc := 5) (tgt := 47) F dX6_put_5 (by decide) (fun c3 => ?_) (fun c3 => ?_)
    · have h := ite_t c3 h
      obtain rfl := Option.some.inj h
      exact g_vret (pc := 47) (Wf := Wc) F Rt dX6_put_47
    · have h := ite_f c3 h
      refine g_aload_n (pc := 8) (x := ec (xE X) (36 + s0)) F dX6_put_8 rfl 0 rfl ?_
      refine g_get (pc := 9) (v := .ref (ec (xE X) (40 + s0))) F fX6_18 (36 + s0) (wc_Sh _ _ hs0) rfl dX6_put_9 ?_
      refine g_iload_n (pc := 12) (x := a1) F dX6_put_12 rfl 1 rfl ?_
      refine g_aload_n (pc := 13) (x := ec (xE X) (36 + s0)) F dX6_put_13 rfl 0 rfl ?_
      refine g_get (pc := 14) (v := .int (M.1 5 s0)) F fX6_9 (36 + s0) (wc_Sh _ _ hs0) rfl dX6_put_14 ?_
      refine g_bipush (pc := 17) F dX6_put_17 bp_8 ?_
      refine g_icmp_ne (pc := 19) (tgt := 29) F dX6_put_19 (by decide) (fun c4 => ?_) (fun c4 => ?_)
      · have h := ite_f c4 h
        refine g_aload_n (pc := 29) (x := ec (xE X) (36 + s0)) F dX6_put_29 rfl 0 rfl ?_
        refine g_get (pc := 30) (v := .int (M.1 5 s0)) F fX6_9 (36 + s0) (wc_Sh _ _ hs0) rfl dX6_put_30 ?_
        refine g_bipush (pc := 33) F dX6_put_33 bp_16 ?_
        refine g_icmp_ne (pc := 35) (tgt := 45) F dX6_put_35 (by decide) (fun c5 => ?_) (fun c5 => ?_)
        · have h := ite_f c5 h
          refine g_lload_n (pc := 45) (x := a2) F dX6_put_45 rfl 2 rfl ?_
          obtain ⟨i6, h⟩ := ck_some h
          refine g_last (pc := 46) (N := 40) (fn := M.2 s0) (j := a1.toNatClampNeg) (ws2 := Wc (xE X) (sJ M s0 a1.toNatClampNeg a2)) F (40 + s0) 1 (wc_Nu _ _ hs0) rfl i6 rfl (wcl_Nu _ _ hs0 _ _) dX6_put_46 ?_
          obtain rfl := Option.some.inj h
          exact g_vret (pc := 47) (Wf := Wc) F Rt dX6_put_47
        · have h := ite_t c5 h
          refine g_lload_n (pc := 38) (x := a2) F dX6_put_38 rfl 2 rfl ?_
          refine g_l2i (pc := 39) F dX6_put_39 ?_
          refine g_i2s (pc := 40) F dX6_put_40 ?_
          refine g_i2l (pc := 41) F dX6_put_41 ?_
          refine g_goto (pc := 42) (tgt := 46) F dX6_put_42 (by decide) ?_
          obtain ⟨i7, h⟩ := ck_some h
          refine g_last (pc := 46) (N := 40) (fn := M.2 s0) (j := a1.toNatClampNeg) (ws2 := Wc (xE X) (sJ M s0 a1.toNatClampNeg a2.toInt32.toInt16.toInt32.toInt64)) F (40 + s0) 1 (wc_Nu _ _ hs0) rfl i7 rfl (wcl_Nu _ _ hs0 _ _) dX6_put_46 ?_
          obtain rfl := Option.some.inj h
          exact g_vret (pc := 47) (Wf := Wc) F Rt dX6_put_47
      · have h := ite_t c4 h
        refine g_lload_n (pc := 22) (x := a2) F dX6_put_22 rfl 2 rfl ?_
        refine g_l2i (pc := 23) F dX6_put_23 ?_
        refine g_i2b (pc := 24) F dX6_put_24 ?_
        refine g_i2l (pc := 25) F dX6_put_25 ?_
        refine g_goto (pc := 26) (tgt := 46) F dX6_put_26 (by decide) ?_
        obtain ⟨i8, h⟩ := ck_some h
        refine g_last (pc := 46) (N := 40) (fn := M.2 s0) (j := a1.toNatClampNeg) (ws2 := Wc (xE X) (sJ M s0 a1.toNatClampNeg a2.toInt32.toInt8.toInt32.toInt64)) F (40 + s0) 1 (wc_Nu _ _ hs0) rfl i8 rfl (wcl_Nu _ _ hs0 _ _) dX6_put_46 ?_
        obtain rfl := Option.some.inj h
        exact g_vret (pc := 47) (Wf := Wc) F Rt dX6_put_47) l E
set_option maxHeartbeats 4000000 in
set_option maxRecDepth 100000 in
theorem hX9_add {M : Mem} {a1 : Int32} {res : Mem} (h : mX9_add M a1 = some res) (l : Launch) (E : Ev) : CtV l E (Wc E) yX9_add cX9_add 2 0 0 [.ref (ec E 32), .int a1] M res :=
  ctV_of (Wf := Wc) (av := fun E => [.ref (ec E 32), .int a1]) (lv := fun E => [(0, .ref (ec E 32)), (1, .int a1)]) (by decide) (fun _ => rfl) (fun _ => (Nat.le_of_ble_eq_true rfl)) (fun X F hx Rt => by
    have F : Fx X cX9_add RX9 0 0 := F
    unfold mX9_add at h
    refine g_aload_n (pc := 0) (x := ec (xE X) 32) F dX9_add_0 rfl 0 rfl ?_
    refine g_get (pc := 1) (v := .int (M.1 3 1)) F fX9_15 32 (wc_Tp _ _) rfl dX9_add_1 ?_
    refine g_bipush (pc := 4) F dX9_add_4 bp_120 ?_
    refine g_icmp_ge (pc := 6) (tgt := 29) F dX9_add_6 (by decide) (fun c1 => ?_) (fun c1 => ?_)
    · have h := ite_t c1 h
      obtain rfl := Option.some.inj h
      exact g_vret (pc := 29) (Wf := Wc) F Rt dX9_add_29
    · have h := ite_f c1 h
      refine g_aload_n (pc := 9) (x := ec (xE X) 32) F dX9_add_9 rfl 0 rfl ?_
      refine g_get (pc := 10) (v := .ref (ec (xE X) 33)) F fX9_9 32 (wc_Tp _ _) rfl dX9_add_10 ?_
      refine g_aload_n (pc := 13) (x := ec (xE X) 32) F dX9_add_13 rfl 0 rfl ?_
      refine g_get (pc := 14) (v := .int (M.1 3 1)) F fX9_15 32 (wc_Tp _ _) rfl dX9_add_14 ?_
      refine g_iload_n (pc := 17) (x := a1) F dX9_add_17 rfl 1 rfl ?_
      obtain ⟨i2, h⟩ := ck_some h
      refine g_bast (pc := 18) (N := 120) (fn := M.1 4) (j := (M.1 3 1).toNatClampNeg) (ws2 := Wc (xE X) (sI M 4 ((M.1 3 1).toNatClampNeg) (vp_nar .byte a1))) F 33 2 (wc_By _ _) rfl i2 rfl (wca_By _ _ _ _) dX9_add_18 ?_
      refine g_aload_n (pc := 19) (x := ec (xE X) 32) F dX9_add_19 rfl 0 rfl ?_
      refine g_dup (pc := 20) F dX9_add_20 rfl ?_
      refine g_get (pc := 21) (v := .int ((sI M 4 ((M.1 3 1).toNatClampNeg) (vp_nar .byte a1)).1 3 1)) F fX9_15 32 (wc_Tp _ _) rfl dX9_add_21 ?_
      refine g_iconst (pc := 24) F dX9_add_24 ic_1 ?_
      refine g_iadd (pc := 25) F dX9_add_25 ?_
      obtain ⟨M3, e4, h⟩ := bd_some h
      refine g_put (pc := 26) (ws2 := Wc (xE X) (M3)) F pX9_15 32 (wc_Tp _ _) rfl rfl (Nat.le_of_ble_eq_true rfl) (Eq.trans (wcp_Tp1 _ _ _) (congrArg (Wc (xE X)) (Option.some.inj e4))) dX9_add_26 ?_
      obtain rfl := Option.some.inj h
      exact g_vret (pc := 29) (Wf := Wc) F Rt dX9_add_29) l E
set_option maxHeartbeats 4000000 in
set_option maxRecDepth 100000 in
theorem hX9_empty {M : Mem} {res : Int32 × Mem} (h : mX9_empty M = some res) (l : Launch) (E : Ev) : CtI l E (Wc E) yX9_empty cX9_empty 2 .int 0 0 [.ref (ec E 32)] M res.1 res.2 :=
  ctI_of (Wf := Wc) (av := fun E => [.ref (ec E 32)]) (lv := fun E => [(0, .ref (ec E 32))]) (by decide) (fun _ => rfl) (fun _ => (Nat.le_of_ble_eq_true rfl)) (fun X F hx Rt => by
    have F : Fx X cX9_empty RX9 0 0 := F
    unfold mX9_empty at h
    refine g_aload_n (pc := 0) (x := ec (xE X) 32) F dX9_empty_0 rfl 0 rfl ?_
    refine g_get (pc := 1) (v := .int (M.1 3 1)) F fX9_15 32 (wc_Tp _ _) rfl dX9_empty_1 ?_
    refine g_istore_n (pc := 4) (lv2 := [(0, .ref (ec (xE X) 32)), (1, .int (M.1 3 1))]) F dX9_empty_4 rfl (by rw [hx]; decide) [1, 0] rfl ?_
    refine g_aload_n (pc := 5) (x := ec (xE X) 32) F dX9_empty_5 rfl 0 rfl ?_
    refine g_iconst (pc := 6) F dX9_empty_6 ic_0 ?_
    refine g_put (pc := 7) (ws2 := Wc (xE X) (sI M 3 1 (0 : Int32))) F pX9_15 32 (wc_Tp _ _) rfl rfl (Nat.le_of_ble_eq_true rfl) (wcp_Tp1 _ _ _) dX9_empty_7 ?_
    refine g_iload_n (pc := 10) (x := M.1 3 1) F dX9_empty_10 rfl 1 rfl ?_
    obtain rfl := Option.some.inj h
    exact g_iret (pc := 11) (Wf := Wc) F Rt rfl dX9_empty_11) l E
set_option maxHeartbeats 4000000 in
set_option maxRecDepth 100000 in
theorem hX10_figure {M : Mem} {a1 : Int32} {j0 : Nat} {i0 : Nat} (hj0 : j0 < 3) (hi0 : i0 < 6) {res : Int32} (h : mX10_figure j0 i0 M a1 = some res) (l : Launch) (E : Ev) : CtI l E (Wc E) yX10_figure cX10_figure 2 .int 1 20 [.ref (ec E (14 + 6 * j0 + i0)), .int a1] M res M :=
  ctI_of (Wf := Wc) (av := fun E => [.ref (ec E (14 + 6 * j0 + i0)), .int a1]) (lv := fun E => [(0, .ref (ec E (14 + 6 * j0 + i0))), (1, .int a1)]) (by decide) (fun _ => rfl) (fun _ => (Nat.le_of_ble_eq_true rfl)) (fun X F hx Rt => by
    have F : Fx X cX10_figure RX10 1 20 := F
    unfold mX10_figure at h
    refine g_iload_n (pc := 0) (x := a1) F dX10_figure_0 rfl 1 rfl ?_
    by_cases c1 : a1 = (1 : Int32)
    · have h := ite_t c1 h
      refine g_tswIn (pc := 1) (tgt := 40) (v := 1) F dX10_figure_1 (by rw [c1]; decide) (by decide) (by decide) rfl (by decide) ?_
      refine g_aload_n (pc := 40) (x := ec (xE X) (14 + 6 * j0 + i0)) F dX10_figure_40 rfl 0 rfl ?_
      refine g_get (pc := 41) (v := .int (M.1 j0 (6 + 7 * i0 + 1))) F fX10_15 (14 + 6 * j0 + i0) (wc_V _ _ hj0 hi0) rfl dX10_figure_41 ?_
      obtain rfl := Option.some.inj h
      exact g_iret (pc := 44) (Wf := Wc) F Rt rfl dX10_figure_44
    · have h := ite_f c1 h
      by_cases c2 : a1 = (2 : Int32)
      · have h := ite_t c2 h
        refine g_tswIn (pc := 1) (tgt := 45) (v := 2) F dX10_figure_1 (by rw [c2]; decide) (by decide) (by decide) rfl (by decide) ?_
        refine g_aload_n (pc := 45) (x := ec (xE X) (14 + 6 * j0 + i0)) F dX10_figure_45 rfl 0 rfl ?_
        refine g_get (pc := 46) (v := .int (M.1 j0 (6 + 7 * i0 + 2))) F fX10_19 (14 + 6 * j0 + i0) (wc_V _ _ hj0 hi0) rfl dX10_figure_46 ?_
        obtain rfl := Option.some.inj h
        exact g_iret (pc := 49) (Wf := Wc) F Rt rfl dX10_figure_49
      · have h := ite_f c2 h
        by_cases c3 : a1 = (3 : Int32)
        · have h := ite_t c3 h
          refine g_tswIn (pc := 1) (tgt := 50) (v := 3) F dX10_figure_1 (by rw [c3]; decide) (by decide) (by decide) rfl (by decide) ?_
          refine g_aload_n (pc := 50) (x := ec (xE X) (14 + 6 * j0 + i0)) F dX10_figure_50 rfl 0 rfl ?_
          refine g_get (pc := 51) (v := .int (M.1 j0 (6 + 7 * i0 + 3))) F fX10_22 (14 + 6 * j0 + i0) (wc_V _ _ hj0 hi0) rfl dX10_figure_51 ?_
          obtain rfl := Option.some.inj h
          exact g_iret (pc := 54) (Wf := Wc) F Rt rfl dX10_figure_54
        · have h := ite_f c3 h
          by_cases c4 : a1 = (4 : Int32)
          · have h := ite_t c4 h
            refine g_tswIn (pc := 1) (tgt := 55) (v := 4) F dX10_figure_1 (by rw [c4]; decide) (by decide) (by decide) rfl (by decide) ?_
            refine g_aload_n (pc := 55) (x := ec (xE X) (14 + 6 * j0 + i0)) F dX10_figure_55 rfl 0 rfl ?_
            refine g_get (pc := 56) (v := .int (M.1 j0 (6 + 7 * i0 + 4))) F fX10_25 (14 + 6 * j0 + i0) (wc_V _ _ hj0 hi0) rfl dX10_figure_56 ?_
            obtain rfl := Option.some.inj h
            exact g_iret (pc := 59) (Wf := Wc) F Rt rfl dX10_figure_59
          · have h := ite_f c4 h
            by_cases c5 : a1 = (5 : Int32)
            · have h := ite_t c5 h
              refine g_tswIn (pc := 1) (tgt := 60) (v := 5) F dX10_figure_1 (by rw [c5]; decide) (by decide) (by decide) rfl (by decide) ?_
              refine g_aload_n (pc := 60) (x := ec (xE X) (14 + 6 * j0 + i0)) F dX10_figure_60 rfl 0 rfl ?_
              refine g_get (pc := 61) (v := .int (M.1 j0 (6 + 7 * i0 + 5))) F fX10_28 (14 + 6 * j0 + i0) (wc_V _ _ hj0 hi0) rfl dX10_figure_61 ?_
              obtain ⟨r7, e8, h⟩ := bd_some h
              refine g_nI (pc := 64) (Wf := Wc) (As := [.int (M.1 j0 (6 + 7 * i0 + 5))]) (rest := []) F (hX11_asNumber (M := M) e8 (xl X) (xE X)) kX11_asNumber F.2.2.2.2.2.2.2.2.1.2.1 rfl rfl ⟨(Nat.le_of_ble_eq_true rfl), (Nat.le_of_ble_eq_true rfl)⟩ (Nat.le_of_ble_eq_true rfl) dX10_figure_64 ?_
              obtain rfl := Option.some.inj h
              exact g_iret (pc := 67) (Wf := Wc) F Rt rfl dX10_figure_67
            · have h := ite_f c5 h
              by_cases c6 : a1 = (6 : Int32)
              · have h := ite_t c6 h
                refine g_tswIn (pc := 1) (tgt := 68) (v := 6) F dX10_figure_1 (by rw [c6]; decide) (by decide) (by decide) rfl (by decide) ?_
                refine g_aload_n (pc := 68) (x := ec (xE X) (14 + 6 * j0 + i0)) F dX10_figure_68 rfl 0 rfl ?_
                refine g_get (pc := 69) (v := .int (M.1 j0 (6 + 7 * i0 + 6))) F fX10_32 (14 + 6 * j0 + i0) (wc_V _ _ hj0 hi0) rfl dX10_figure_69 ?_
                obtain ⟨r9, e10, h⟩ := bd_some h
                refine g_nI (pc := 72) (Wf := Wc) (As := [.int (M.1 j0 (6 + 7 * i0 + 6))]) (rest := []) F (hX11_asNumber (M := M) e10 (xl X) (xE X)) kX11_asNumber F.2.2.2.2.2.2.2.2.1.2.1 rfl rfl ⟨(Nat.le_of_ble_eq_true rfl), (Nat.le_of_ble_eq_true rfl)⟩ (Nat.le_of_ble_eq_true rfl) dX10_figure_72 ?_
                obtain rfl := Option.some.inj h
                exact g_iret (pc := 75) (Wf := Wc) F Rt rfl dX10_figure_75
              · have h := ite_f c6 h
                refine g_tswOut (pc := 1) (tgt := 76) F dX10_figure_1 (by have z0 := lv_neT (a := 1) c1 (by decide); have z1 := lv_neT (a := 2) c2 (by decide); have z2 := lv_neT (a := 3) c3 (by decide); have z3 := lv_neT (a := 4) c4 (by decide); have z4 := lv_neT (a := 5) c5 (by decide); have z5 := lv_neT (a := 6) c6 (by decide); omega) (by decide) ?_
                refine g_aload_n (pc := 76) (x := ec (xE X) (14 + 6 * j0 + i0)) F dX10_figure_76 rfl 0 rfl ?_
                refine g_get (pc := 77) (v := .ref (ec (xE X) (2 + (M.1 j0 (6 + 7 * i0 + 0)).toNatClampNeg))) F fX10_9 (14 + 6 * j0 + i0) (wc_V _ _ hj0 hi0) rfl dX10_figure_77 ?_
                obtain ⟨r11, e12, h⟩ := bd_some h
                refine gd_number (pc := 80) (rest := []) F e12 lX10_39 rfl ⟨(Nat.le_of_ble_eq_true rfl), (Nat.le_of_ble_eq_true rfl)⟩ (Nat.le_of_ble_eq_true rfl) dX10_figure_80 ?_
                obtain rfl := Option.some.inj h
                exact g_iret (pc := 83) (Wf := Wc) F Rt rfl dX10_figure_83) l E
set_option maxHeartbeats 4000000 in
set_option maxRecDepth 100000 in
theorem hX10_mostOf {M : Mem} {a0 : Int32} {res : Int32} (h : mX10_mostOf a0 = some res) (l : Launch) (E : Ev) : CtI l E (Wc E) yX10_mostOf cX10_mostOf 1 .int 0 0 [.int a0] M res M :=
  ctI_of (Wf := Wc) (av := fun E => [.int a0]) (lv := fun E => [(0, .int a0)]) (by decide) (fun _ => rfl) (fun _ => (Nat.le_of_ble_eq_true rfl)) (fun X F hx Rt => by
    have F : Fx X cX10_mostOf RX10 0 0 := F
    unfold mX10_mostOf at h
    refine g_iload_n (pc := 0) (x := a0) F dX10_mostOf_0 rfl 0 rfl ?_
    by_cases c1 : a0 = (1 : Int32)
    · have h := ite_t c1 h
      refine g_tswIn (pc := 1) (tgt := 28) (v := 1) F dX10_mostOf_1 (by rw [c1]; decide) (by decide) (by decide) rfl (by decide) ?_
      refine g_bipush (pc := 28) F dX10_mostOf_28 bp_19 ?_
      obtain rfl := Option.some.inj h
      exact g_iret (pc := 30) (Wf := Wc) F Rt rfl dX10_mostOf_30
    · have h := ite_f c1 h
      by_cases c2 : a0 = (2 : Int32)
      · have h := ite_t c2 h
        refine g_tswIn (pc := 1) (tgt := 31) (v := 2) F dX10_mostOf_1 (by rw [c2]; decide) (by decide) (by decide) rfl (by decide) ?_
        refine g_bipush (pc := 31) F dX10_mostOf_31 bp_9 ?_
        obtain rfl := Option.some.inj h
        exact g_iret (pc := 33) (Wf := Wc) F Rt rfl dX10_mostOf_33
      · have h := ite_f c2 h
        by_cases c3 : a0 = (3 : Int32)
        · have h := ite_t c3 h
          refine g_tswIn (pc := 1) (tgt := 34) (v := 3) F dX10_mostOf_1 (by rw [c3]; decide) (by decide) (by decide) rfl (by decide) ?_
          refine g_sipush (pc := 34) F dX10_mostOf_34 sp_9999 ?_
          obtain rfl := Option.some.inj h
          exact g_iret (pc := 37) (Wf := Wc) F Rt rfl dX10_mostOf_37
        · have h := ite_f c3 h
          refine g_tswOut (pc := 1) (tgt := 38) F dX10_mostOf_1 (by have z0 := lv_neT (a := 1) c1 (by decide); have z1 := lv_neT (a := 2) c2 (by decide); have z2 := lv_neT (a := 3) c3 (by decide); omega) (by decide) ?_
          refine g_bipush (pc := 38) F dX10_mostOf_38 bp_99 ?_
          obtain rfl := Option.some.inj h
          exact g_iret (pc := 40) (Wf := Wc) F Rt rfl dX10_mostOf_40) l E
set_option maxHeartbeats 4000000 in
set_option maxRecDepth 100000 in
theorem hX10_put {M : Mem} {a1 : Int32} {a2 : Int32} {j0 : Nat} {i0 : Nat} (hj0 : j0 < 3) (hi0 : i0 < 6) {res : Mem} (h : mX10_put j0 i0 M a1 a2 = some res) (l : Launch) (E : Ev) : CtV l E (Wc E) yX10_put cX10_put 3 0 0 [.ref (ec E (14 + 6 * j0 + i0)), .int a1, .int a2] M res :=
  ctV_of (Wf := Wc) (av := fun E => [.ref (ec E (14 + 6 * j0 + i0)), .int a1, .int a2]) (lv := fun E => [(0, .ref (ec E (14 + 6 * j0 + i0))), (1, .int a1), (2, .int a2)]) (by decide) (fun _ => rfl) (fun _ => (Nat.le_of_ble_eq_true rfl)) (fun X F hx Rt => by
    have F : Fx X cX10_put RX10 0 0 := F
    unfold mX10_put at h
    refine g_iload_n (pc := 0) (x := a1) F dX10_put_0 rfl 1 rfl ?_
    by_cases c1 : a1 = (1 : Int32)
    · have h := ite_t c1 h
      refine g_tswIn (pc := 1) (tgt := 28) (v := 1) F dX10_put_1 (by rw [c1]; decide) (by decide) (by decide) rfl (by decide) ?_
      refine g_aload_n (pc := 28) (x := ec (xE X) (14 + 6 * j0 + i0)) F dX10_put_28 rfl 0 rfl ?_
      refine g_iload_n (pc := 29) (x := a2) F dX10_put_29 rfl 2 rfl ?_
      refine g_put (pc := 30) (ws2 := Wc (xE X) (sI M j0 (6 + 7 * i0 + 1) a2)) F pX10_15 (14 + 6 * j0 + i0) (wc_V _ _ hj0 hi0) rfl rfl (Nat.le_of_ble_eq_true rfl) (wcp_V1 _ _ hj0 hi0 _) dX10_put_30 ?_
      refine g_aload_n (pc := 33) (x := ec (xE X) (14 + 6 * j0 + i0)) F dX10_put_33 rfl 0 rfl ?_
      refine g_iconst (pc := 34) F dX10_put_34 ic_0 ?_
      obtain ⟨M4, e5, h⟩ := bd_some h
      refine g_put (pc := 35) (ws2 := Wc (xE X) (M4)) F pX10_28 (14 + 6 * j0 + i0) (wc_V _ _ hj0 hi0) (by decide) (by decide) (Nat.le_of_ble_eq_true rfl) (Eq.trans (wcp_V5 _ _ hj0 hi0 _) (congrArg (Wc (xE X)) (Option.some.inj e5))) dX10_put_35 ?_
      refine g_aload_n (pc := 38) (x := ec (xE X) (14 + 6 * j0 + i0)) F dX10_put_38 rfl 0 rfl ?_
      refine g_iconst (pc := 39) F dX10_put_39 ic_0 ?_
      refine g_put (pc := 40) (ws2 := Wc (xE X) (sI M4 j0 (6 + 7 * i0 + 6) (0 : Int32))) F pX10_32 (14 + 6 * j0 + i0) (wc_V _ _ hj0 hi0) (by decide) (by decide) (Nat.le_of_ble_eq_true rfl) (wcp_V6 _ _ hj0 hi0 _) dX10_put_40 ?_
      refine g_goto (pc := 43) (tgt := 67) F dX10_put_43 (by decide) ?_
      obtain rfl := Option.some.inj h
      exact g_vret (pc := 67) (Wf := Wc) F Rt dX10_put_67
    · have h := ite_f c1 h
      by_cases c2 : a1 = (2 : Int32)
      · have h := ite_t c2 h
        refine g_tswIn (pc := 1) (tgt := 46) (v := 2) F dX10_put_1 (by rw [c2]; decide) (by decide) (by decide) rfl (by decide) ?_
        refine g_aload_n (pc := 46) (x := ec (xE X) (14 + 6 * j0 + i0)) F dX10_put_46 rfl 0 rfl ?_
        refine g_iload_n (pc := 47) (x := a2) F dX10_put_47 rfl 2 rfl ?_
        refine g_put (pc := 48) (ws2 := Wc (xE X) (sI M j0 (6 + 7 * i0 + 2) a2)) F pX10_19 (14 + 6 * j0 + i0) (wc_V _ _ hj0 hi0) rfl rfl (Nat.le_of_ble_eq_true rfl) (wcp_V2 _ _ hj0 hi0 _) dX10_put_48 ?_
        refine g_goto (pc := 51) (tgt := 67) F dX10_put_51 (by decide) ?_
        obtain rfl := Option.some.inj h
        exact g_vret (pc := 67) (Wf := Wc) F Rt dX10_put_67
      · have h := ite_f c2 h
        by_cases c3 : a1 = (3 : Int32)
        · have h := ite_t c3 h
          refine g_tswIn (pc := 1) (tgt := 54) (v := 3) F dX10_put_1 (by rw [c3]; decide) (by decide) (by decide) rfl (by decide) ?_
          refine g_aload_n (pc := 54) (x := ec (xE X) (14 + 6 * j0 + i0)) F dX10_put_54 rfl 0 rfl ?_
          refine g_iload_n (pc := 55) (x := a2) F dX10_put_55 rfl 2 rfl ?_
          refine g_put (pc := 56) (ws2 := Wc (xE X) (sI M j0 (6 + 7 * i0 + 3) a2)) F pX10_22 (14 + 6 * j0 + i0) (wc_V _ _ hj0 hi0) rfl rfl (Nat.le_of_ble_eq_true rfl) (wcp_V3 _ _ hj0 hi0 _) dX10_put_56 ?_
          refine g_goto (pc := 59) (tgt := 67) F dX10_put_59 (by decide) ?_
          obtain rfl := Option.some.inj h
          exact g_vret (pc := 67) (Wf := Wc) F Rt dX10_put_67
        · have h := ite_f c3 h
          refine g_tswOut (pc := 1) (tgt := 62) F dX10_put_1 (by have z0 := lv_neT (a := 1) c1 (by decide); have z1 := lv_neT (a := 2) c2 (by decide); have z2 := lv_neT (a := 3) c3 (by decide); omega) (by decide) ?_
          refine g_aload_n (pc := 62) (x := ec (xE X) (14 + 6 * j0 + i0)) F dX10_put_62 rfl 0 rfl ?_
          refine g_iload_n (pc := 63) (x := a2) F dX10_put_63 rfl 2 rfl ?_
          refine g_put (pc := 64) (ws2 := Wc (xE X) (sI M j0 (6 + 7 * i0 + 4) a2)) F pX10_25 (14 + 6 * j0 + i0) (wc_V _ _ hj0 hi0) rfl rfl (Nat.le_of_ble_eq_true rfl) (wcp_V4 _ _ hj0 hi0 _) dX10_put_64 ?_
          obtain rfl := Option.some.inj h
          exact g_vret (pc := 67) (Wf := Wc) F Rt dX10_put_67) l E
set_option maxHeartbeats 4000000 in
set_option maxRecDepth 100000 in
theorem hX11_isWithin {M : Mem} {a0 : Int32} {a1 : Int32} {a2 : Int32} {res : Int32} (h : mX11_isWithin a0 a1 a2 = some res) (l : Launch) (E : Ev) : CtI l E (Wc E) yX11_isWithin cX11_isWithin 3 .boolean 0 0 [.int a0, .int a1, .int a2] M res M :=
  ctI_of (Wf := Wc) (av := fun E => [.int a0, .int a1, .int a2]) (lv := fun E => [(0, .int a0), (1, .int a1), (2, .int a2)]) (by decide) (fun _ => rfl) (fun _ => (Nat.le_of_ble_eq_true rfl)) (fun X F hx Rt => by
    have F : Fx X cX11_isWithin RX11 0 0 := F
    unfold mX11_isWithin at h
    refine g_iload_n (pc := 0) (x := a0) F dX11_isWithin_0 rfl 0 rfl ?_
    refine g_iload_n (pc := 1) (x := a1) F dX11_isWithin_1 rfl 1 rfl ?_
    refine g_icmp_lt (pc := 2) (tgt := 14) F dX11_isWithin_2 (by decide) (fun c1 => ?_) (fun c1 => ?_)
    · have h := ite_t c1 h
      refine g_iconst (pc := 14) F dX11_isWithin_14 ic_0 ?_
      obtain rfl := Option.some.inj h
      exact g_iret (pc := 15) (Wf := Wc) F Rt (by decide) dX11_isWithin_15
    · have h := ite_f c1 h
      refine g_iload_n (pc := 5) (x := a0) F dX11_isWithin_5 rfl 0 rfl ?_
      refine g_iload_n (pc := 6) (x := a2) F dX11_isWithin_6 rfl 2 rfl ?_
      refine g_icmp_gt (pc := 7) (tgt := 14) F dX11_isWithin_7 (by decide) (fun c2 => ?_) (fun c2 => ?_)
      · have h := ite_t c2 h
        refine g_iconst (pc := 14) F dX11_isWithin_14 ic_0 ?_
        obtain rfl := Option.some.inj h
        exact g_iret (pc := 15) (Wf := Wc) F Rt (by decide) dX11_isWithin_15
      · have h := ite_f c2 h
        refine g_iconst (pc := 10) F dX11_isWithin_10 ic_1 ?_
        refine g_goto (pc := 11) (tgt := 15) F dX11_isWithin_11 (by decide) ?_
        obtain rfl := Option.some.inj h
        exact g_iret (pc := 15) (Wf := Wc) F Rt (by decide) dX11_isWithin_15) l E
set_option maxHeartbeats 4000000 in
set_option maxRecDepth 100000 in
theorem hX11_found {M : Mem} {a1 : Int32} {res : Int32 × Mem} (h : mX11_found M a1 = some res) (l : Launch) (E : Ev) : CtI l E (Wc E) yX11_found cX11_found 3 .int 1 22 [.ref (ec E 0), .int a1] M res.1 res.2 :=
  ctI_of (Wf := Wc) (av := fun E => [.ref (ec E 0), .int a1]) (lv := fun E => [(0, .ref (ec E 0)), (1, .int a1)]) (by decide) (fun _ => rfl) (fun _ => (Nat.le_of_ble_eq_true rfl)) (fun X F hx Rt => by
    have F : Fx X cX11_found RX11 1 22 := F
    unfold mX11_found at h
    refine g_ldc (pc := 0) F oX11_81 dX11_found_0 ?_
    refine g_iload_n (pc := 2) (x := a1) F dX11_found_2 rfl 1 rfl ?_
    refine g_isub (pc := 3) F dX11_found_3 ?_
    refine g_istore_n (pc := 4) (lv2 := [(0, .ref (ec (xE X) 0)), (1, .int a1), (2, .int ((-1000000001 : Int32) - a1))]) F dX11_found_4 rfl (by rw [hx]; decide) [1, 2, 0] rfl ?_
    refine g_iload_n (pc := 5) (x := (-1000000001 : Int32) - a1) F dX11_found_5 rfl 2 rfl ?_
    refine g_iconst (pc := 6) F dX11_found_6 ic_0 ?_
    refine g_bipush (pc := 7) F dX11_found_7 bp_6 ?_
    obtain ⟨r1, e2, h⟩ := bd_some h
    refine g_sI (pc := 9) (Wf := Wc) (As := [.int ((-1000000001 : Int32) - a1), .int (0 : Int32), .int (6 : Int32)]) (rest := []) F (hX11_isWithin (M := M) e2 (xl X) (xE X)) kX11_isWithin lX11_77 rfl rfl ⟨(Nat.le_of_ble_eq_true rfl), (Nat.le_of_ble_eq_true rfl)⟩ (Nat.le_of_ble_eq_true rfl) dX11_found_9 ?_
    refine g_if_eq (pc := 12) (tgt := 25) F dX11_found_12 (by decide) (fun c3 => ?_) (fun c3 => ?_)
    · have h := ite_t c3 h
      refine g_iload_n (pc := 25) (x := a1) F dX11_found_25 rfl 1 rfl ?_
      obtain rfl := Option.some.inj h
      exact g_iret (pc := 26) (Wf := Wc) F Rt rfl dX11_found_26
    · have h := ite_f c3 h
      refine g_aload_n (pc := 15) (x := ec (xE X) 0) F dX11_found_15 rfl 0 rfl ?_
      refine g_get (pc := 16) (v := .ref (ec (xE X) 44)) F fX11_73 0 (wc_T _ _) rfl dX11_found_16 ?_
      refine g_iload_n (pc := 19) (x := (-1000000001 : Int32) - a1) F dX11_found_19 rfl 2 rfl ?_
      refine g_dup2 (pc := 20) F dX11_found_20 rfl rfl ?_
      obtain ⟨i4, h⟩ := ck_some h
      refine g_iald (pc := 21) (N := 7) (fn := M.1 7) (j := ((-1000000001 : Int32) - a1).toNatClampNeg) F 44 0 (wc_F _ _) rfl i4 rfl dX11_found_21 ?_
      refine g_iconst (pc := 22) F dX11_found_22 ic_1 ?_
      refine g_iadd (pc := 23) F dX11_found_23 ?_
      obtain ⟨i5, h⟩ := ck_some h
      refine g_iast (pc := 24) (N := 7) (fn := M.1 7) (j := ((-1000000001 : Int32) - a1).toNatClampNeg) (ws2 := Wc (xE X) (sI M 7 (((-1000000001 : Int32) - a1).toNatClampNeg) ((M.1 7 (((-1000000001 : Int32) - a1).toNatClampNeg)) + (1 : Int32)))) F 44 0 (wc_F _ _) rfl i5 rfl (wca_F _ _ _ _) dX11_found_24 ?_
      refine g_iload_n (pc := 25) (x := a1) F dX11_found_25 rfl 1 rfl ?_
      obtain rfl := Option.some.inj h
      exact g_iret (pc := 26) (Wf := Wc) F Rt rfl dX11_found_26) l E
set_option maxHeartbeats 4000000 in
set_option maxRecDepth 100000 in
theorem hX11_tower {M : Mem} {a1 : Int32} {a2 : Int32} {res : Int32 × Mem} (h : mX11_tower M a1 a2 = some res) (l : Launch) (E : Ev) : CtI l E (Wc E) yX11_tower cX11_tower 4 .int 2 44 [.ref (ec E 0), .int a1, .int a2] M res.1 res.2 :=
  ctI_of (Wf := Wc) (av := fun E => [.ref (ec E 0), .int a1, .int a2]) (lv := fun E => [(0, .ref (ec E 0)), (1, .int a1), (2, .int a2)]) (by decide) (fun _ => rfl) (fun _ => (Nat.le_of_ble_eq_true rfl)) (fun X F hx Rt => by
    have F : Fx X cX11_tower RX11 2 44 := F
    unfold mX11_tower at h
    refine g_iload_n (pc := 0) (x := a1) F dX11_tower_0 rfl 1 rfl ?_
    refine g_iconst (pc := 1) F dX11_tower_1 ic_0 ?_
    refine g_bipush (pc := 2) F dX11_tower_2 bp_19 ?_
    obtain ⟨r1, e2, h⟩ := bd_some h
    refine g_sI (pc := 4) (Wf := Wc) (As := [.int a1, .int (0 : Int32), .int (19 : Int32)]) (rest := []) F (hX11_isWithin (M := M) e2 (xl X) (xE X)) kX11_isWithin lX11_77 rfl rfl ⟨(Nat.le_of_ble_eq_true rfl), (Nat.le_of_ble_eq_true rfl)⟩ (Nat.le_of_ble_eq_true rfl) dX11_tower_4 ?_
    refine g_if_eq (pc := 7) (tgt := 20) F dX11_tower_7 (by decide) (fun c3 => ?_) (fun c3 => ?_)
    · have h := ite_t c3 h
      refine g_aload_n (pc := 20) (x := ec (xE X) 0) F dX11_tower_20 rfl 0 rfl ?_
      refine g_ldc (pc := 21) F oX11_81 dX11_tower_21 ?_
      obtain ⟨q4, e5, h⟩ := bd_some h
      refine g_vI (pc := 23) (Wf := Wc) (As := [.int (-1000000001 : Int32)]) (rest := []) F (hX11_found e5 (xl X) (xE X)) kX11_found lX11_82 0 rfl (wc_T _ _) rfl rfl rfl ⟨(Nat.le_of_ble_eq_true rfl), (Nat.le_of_ble_eq_true rfl)⟩ (Nat.le_of_ble_eq_true rfl) dX11_tower_23 ?_
      obtain rfl := Option.some.inj h
      exact g_iret (pc := 26) (Wf := Wc) F Rt rfl dX11_tower_26
    · have h := ite_f c3 h
      refine g_iload_n (pc := 10) (x := a2) F dX11_tower_10 rfl 2 rfl ?_
      refine g_iconst (pc := 11) F dX11_tower_11 ic_0 ?_
      refine g_bipush (pc := 12) F dX11_tower_12 bp_9 ?_
      obtain ⟨r6, e7, h⟩ := bd_some h
      refine g_sI (pc := 14) (Wf := Wc) (As := [.int a2, .int (0 : Int32), .int (9 : Int32)]) (rest := []) F (hX11_isWithin (M := M) e7 (xl X) (xE X)) kX11_isWithin lX11_77 rfl rfl ⟨(Nat.le_of_ble_eq_true rfl), (Nat.le_of_ble_eq_true rfl)⟩ (Nat.le_of_ble_eq_true rfl) dX11_tower_14 ?_
      refine g_if_ne (pc := 17) (tgt := 27) F dX11_tower_17 (by decide) (fun c8 => ?_) (fun c8 => ?_)
      · have h := ite_f c8 h
        refine g_aload_n (pc := 27) (x := ec (xE X) 0) F dX11_tower_27 rfl 0 rfl ?_
        refine g_get (pc := 28) (v := .ref (ec (xE X) (8 + 0))) F fX11_36 0 (wc_T _ _) rfl dX11_tower_28 ?_
        obtain ⟨r9, e10, h⟩ := bd_some h
        refine g_vI (pc := 31) (Wf := Wc) (As := []) (rest := []) F (hX4_towerPlace (by decide) e10 (xl X) (xE X)) kX4_towerPlace lX11_86 (8 + 0) rfl (wc_S _ _ (by decide)) rfl rfl rfl ⟨(Nat.le_of_ble_eq_true rfl), (Nat.le_of_ble_eq_true rfl)⟩ (Nat.le_of_ble_eq_true rfl) dX11_tower_31 ?_
        refine g_istore_n (pc := 34) (lv2 := [(0, .ref (ec (xE X) 0)), (1, .int a1), (2, .int a2), (3, .int r9)]) F dX11_tower_34 rfl (by rw [hx]; decide) [1, 2, 3, 0] rfl ?_
        refine g_aload_n (pc := 35) (x := ec (xE X) 0) F dX11_tower_35 rfl 0 rfl ?_
        refine g_get (pc := 36) (v := .ref (ec (xE X) (8 + 0))) F fX11_36 0 (wc_T _ _) rfl dX11_tower_36 ?_
        refine g_iload_n (pc := 39) (x := a1) F dX11_tower_39 rfl 1 rfl ?_
        refine g_put (pc := 40) (ws2 := Wc (xE X) (sI M 0 1 a1)) F pX11_90 (8 + 0) (wc_S _ _ (by decide)) rfl rfl (Nat.le_of_ble_eq_true rfl) (wcp_S1 _ _ (by decide) _) dX11_tower_40 ?_
        refine g_aload_n (pc := 43) (x := ec (xE X) 0) F dX11_tower_43 rfl 0 rfl ?_
        refine g_get (pc := 44) (v := .ref (ec (xE X) (8 + 0))) F fX11_36 0 (wc_T _ _) rfl dX11_tower_44 ?_
        refine g_iload_n (pc := 47) (x := a2) F dX11_tower_47 rfl 2 rfl ?_
        obtain ⟨M11, e12, h⟩ := bd_some h
        refine g_put (pc := 48) (ws2 := Wc (xE X) (M11)) F pX11_94 (8 + 0) (wc_S _ _ (by decide)) rfl rfl (Nat.le_of_ble_eq_true rfl) (Eq.trans (wcp_S2 _ _ (by decide) _) (congrArg (Wc (xE X)) (Option.some.inj e12))) dX11_tower_48 ?_
        refine g_iload_n (pc := 51) (x := r9) F dX11_tower_51 rfl 3 rfl ?_
        obtain rfl := Option.some.inj h
        exact g_iret (pc := 52) (Wf := Wc) F Rt rfl dX11_tower_52
      · have h := ite_t c8 h
        refine g_aload_n (pc := 20) (x := ec (xE X) 0) F dX11_tower_20 rfl 0 rfl ?_
        refine g_ldc (pc := 21) F oX11_81 dX11_tower_21 ?_
        obtain ⟨q13, e14, h⟩ := bd_some h
        refine g_vI (pc := 23) (Wf := Wc) (As := [.int (-1000000001 : Int32)]) (rest := []) F (hX11_found e14 (xl X) (xE X)) kX11_found lX11_82 0 rfl (wc_T _ _) rfl rfl rfl ⟨(Nat.le_of_ble_eq_true rfl), (Nat.le_of_ble_eq_true rfl)⟩ (Nat.le_of_ble_eq_true rfl) dX11_tower_23 ?_
        obtain rfl := Option.some.inj h
        exact g_iret (pc := 26) (Wf := Wc) F Rt rfl dX11_tower_26) l E
set_option maxHeartbeats 4000000 in
set_option maxRecDepth 100000 in
theorem hX11_lamp {M : Mem} {a1 : Int32} {res : Int32 × Mem} (h : mX11_lamp M a1 = some res) (l : Launch) (E : Ev) : CtI l E (Wc E) yX11_lamp cX11_lamp 3 .int 2 44 [.ref (ec E 0), .int a1] M res.1 res.2 :=
  ctI_of (Wf := Wc) (av := fun E => [.ref (ec E 0), .int a1]) (lv := fun E => [(0, .ref (ec E 0)), (1, .int a1)]) (by decide) (fun _ => rfl) (fun _ => (Nat.le_of_ble_eq_true rfl)) (fun X F hx Rt => by
    have F : Fx X cX11_lamp RX11 2 44 := F
    unfold mX11_lamp at h
    refine g_iload_n (pc := 0) (x := a1) F dX11_lamp_0 rfl 1 rfl ?_
    refine g_iconst (pc := 1) F dX11_lamp_1 ic_0 ?_
    refine g_sipush (pc := 2) F dX11_lamp_2 sp_4095 ?_
    obtain ⟨r1, e2, h⟩ := bd_some h
    refine g_sI (pc := 5) (Wf := Wc) (As := [.int a1, .int (0 : Int32), .int (4095 : Int32)]) (rest := []) F (hX11_isWithin (M := M) e2 (xl X) (xE X)) kX11_isWithin lX11_77 rfl rfl ⟨(Nat.le_of_ble_eq_true rfl), (Nat.le_of_ble_eq_true rfl)⟩ (Nat.le_of_ble_eq_true rfl) dX11_lamp_5 ?_
    refine g_if_ne (pc := 8) (tgt := 18) F dX11_lamp_8 (by decide) (fun c3 => ?_) (fun c3 => ?_)
    · have h := ite_f c3 h
      refine g_aload_n (pc := 18) (x := ec (xE X) 0) F dX11_lamp_18 rfl 0 rfl ?_
      refine g_get (pc := 19) (v := .ref (ec (xE X) (8 + 0))) F fX11_36 0 (wc_T _ _) rfl dX11_lamp_19 ?_
      refine g_get (pc := 22) (v := .int (M.1 0 3)) F fX11_97 (8 + 0) (wc_S _ _ (by decide)) rfl dX11_lamp_22 ?_
      refine g_istore_n (pc := 25) (lv2 := [(0, .ref (ec (xE X) 0)), (1, .int a1), (2, .int (M.1 0 3))]) F dX11_lamp_25 rfl (by rw [hx]; decide) [1, 2, 0] rfl ?_
      refine g_aload_n (pc := 26) (x := ec (xE X) 0) F dX11_lamp_26 rfl 0 rfl ?_
      refine g_get (pc := 27) (v := .ref (ec (xE X) (8 + 0))) F fX11_36 0 (wc_T _ _) rfl dX11_lamp_27 ?_
      refine g_iload_n (pc := 30) (x := a1) F dX11_lamp_30 rfl 1 rfl ?_
      refine g_put (pc := 31) (ws2 := Wc (xE X) (sI M 0 3 a1)) F pX11_97 (8 + 0) (wc_S _ _ (by decide)) rfl rfl (Nat.le_of_ble_eq_true rfl) (wcp_S3 _ _ (by decide) _) dX11_lamp_31 ?_
      refine g_iload_n (pc := 34) (x := M.1 0 3) F dX11_lamp_34 rfl 2 rfl ?_
      obtain rfl := Option.some.inj h
      exact g_iret (pc := 35) (Wf := Wc) F Rt rfl dX11_lamp_35
    · have h := ite_t c3 h
      refine g_aload_n (pc := 11) (x := ec (xE X) 0) F dX11_lamp_11 rfl 0 rfl ?_
      refine g_ldc (pc := 12) F oX11_81 dX11_lamp_12 ?_
      obtain ⟨q4, e5, h⟩ := bd_some h
      refine g_vI (pc := 14) (Wf := Wc) (As := [.int (-1000000001 : Int32)]) (rest := []) F (hX11_found e5 (xl X) (xE X)) kX11_found lX11_82 0 rfl (wc_T _ _) rfl rfl rfl ⟨(Nat.le_of_ble_eq_true rfl), (Nat.le_of_ble_eq_true rfl)⟩ (Nat.le_of_ble_eq_true rfl) dX11_lamp_14 ?_
      obtain rfl := Option.some.inj h
      exact g_iret (pc := 17) (Wf := Wc) F Rt rfl dX11_lamp_17) l E
set_option maxHeartbeats 4000000 in
set_option maxRecDepth 100000 in
theorem hX11_reach {M : Mem} {a1 : Int32} {res : Int32 × Mem} (h : mX11_reach M a1 = some res) (l : Launch) (E : Ev) : CtI l E (Wc E) yX11_reach cX11_reach 3 .int 2 44 [.ref (ec E 0), .int a1] M res.1 res.2 :=
  ctI_of (Wf := Wc) (av := fun E => [.ref (ec E 0), .int a1]) (lv := fun E => [(0, .ref (ec E 0)), (1, .int a1)]) (by decide) (fun _ => rfl) (fun _ => (Nat.le_of_ble_eq_true rfl)) (fun X F hx Rt => by
    have F : Fx X cX11_reach RX11 2 44 := F
    unfold mX11_reach at h
    refine g_iload_n (pc := 0) (x := a1) F dX11_reach_0 rfl 1 rfl ?_
    refine g_iconst (pc := 1) F dX11_reach_1 ic_0 ?_
    refine g_bipush (pc := 2) F dX11_reach_2 bp_9 ?_
    obtain ⟨r1, e2, h⟩ := bd_some h
    refine g_sI (pc := 4) (Wf := Wc) (As := [.int a1, .int (0 : Int32), .int (9 : Int32)]) (rest := []) F (hX11_isWithin (M := M) e2 (xl X) (xE X)) kX11_isWithin lX11_77 rfl rfl ⟨(Nat.le_of_ble_eq_true rfl), (Nat.le_of_ble_eq_true rfl)⟩ (Nat.le_of_ble_eq_true rfl) dX11_reach_4 ?_
    refine g_if_ne (pc := 7) (tgt := 17) F dX11_reach_7 (by decide) (fun c3 => ?_) (fun c3 => ?_)
    · have h := ite_f c3 h
      refine g_aload_n (pc := 17) (x := ec (xE X) 0) F dX11_reach_17 rfl 0 rfl ?_
      refine g_get (pc := 18) (v := .ref (ec (xE X) (8 + 0))) F fX11_36 0 (wc_T _ _) rfl dX11_reach_18 ?_
      refine g_get (pc := 21) (v := .int (M.1 0 4)) F fX11_100 (8 + 0) (wc_S _ _ (by decide)) rfl dX11_reach_21 ?_
      refine g_istore_n (pc := 24) (lv2 := [(0, .ref (ec (xE X) 0)), (1, .int a1), (2, .int (M.1 0 4))]) F dX11_reach_24 rfl (by rw [hx]; decide) [1, 2, 0] rfl ?_
      refine g_aload_n (pc := 25) (x := ec (xE X) 0) F dX11_reach_25 rfl 0 rfl ?_
      refine g_get (pc := 26) (v := .ref (ec (xE X) (8 + 0))) F fX11_36 0 (wc_T _ _) rfl dX11_reach_26 ?_
      refine g_iload_n (pc := 29) (x := a1) F dX11_reach_29 rfl 1 rfl ?_
      refine g_put (pc := 30) (ws2 := Wc (xE X) (sI M 0 4 a1)) F pX11_100 (8 + 0) (wc_S _ _ (by decide)) rfl rfl (Nat.le_of_ble_eq_true rfl) (wcp_S4 _ _ (by decide) _) dX11_reach_30 ?_
      refine g_iload_n (pc := 33) (x := M.1 0 4) F dX11_reach_33 rfl 2 rfl ?_
      obtain rfl := Option.some.inj h
      exact g_iret (pc := 34) (Wf := Wc) F Rt rfl dX11_reach_34
    · have h := ite_t c3 h
      refine g_aload_n (pc := 10) (x := ec (xE X) 0) F dX11_reach_10 rfl 0 rfl ?_
      refine g_ldc (pc := 11) F oX11_81 dX11_reach_11 ?_
      obtain ⟨q4, e5, h⟩ := bd_some h
      refine g_vI (pc := 13) (Wf := Wc) (As := [.int (-1000000001 : Int32)]) (rest := []) F (hX11_found e5 (xl X) (xE X)) kX11_found lX11_82 0 rfl (wc_T _ _) rfl rfl rfl ⟨(Nat.le_of_ble_eq_true rfl), (Nat.le_of_ble_eq_true rfl)⟩ (Nat.le_of_ble_eq_true rfl) dX11_reach_13 ?_
      obtain rfl := Option.some.inj h
      exact g_iret (pc := 16) (Wf := Wc) F Rt rfl dX11_reach_16) l E
set_option maxHeartbeats 4000000 in
set_option maxRecDepth 100000 in
theorem hX11_now {N : Nat} {M : Mem} {a1 : Int32} {res : Int32 × Mem} (h : mX11_now N M a1 = some res) (l : Launch) (E : Ev) : CtI l E (Wc E) yX11_now cX11_now 2 .int 2 44 [.ref (ec E 0), .int a1] M res.1 res.2 :=
  ctI_of (Wf := Wc) (av := fun E => [.ref (ec E 0), .int a1]) (lv := fun E => [(0, .ref (ec E 0)), (1, .int a1)]) (by decide) (fun _ => rfl) (fun _ => (Nat.le_of_ble_eq_true rfl)) (fun X F hx Rt => by
    have F : Fx X cX11_now RX11 2 44 := F
    unfold mX11_now at h
    refine g_iload_n (pc := 0) (x := a1) F dX11_now_0 rfl 1 rfl ?_
    by_cases c1 : a1 = (0 : Int32)
    · have h := ite_t c1 h
      refine g_tswIn (pc := 1) (tgt := 48) (v := 0) F dX11_now_1 (by rw [c1]; decide) (by decide) (by decide) rfl (by decide) ?_
      refine g_aload_n (pc := 48) (x := ec (xE X) 0) F dX11_now_48 rfl 0 rfl ?_
      refine g_get (pc := 49) (v := .ref (ec (xE X) (8 + 0))) F fX11_36 0 (wc_T _ _) rfl dX11_now_49 ?_
      refine g_get (pc := 52) (v := .int (M.1 0 0)) F fX11_103 (8 + 0) (wc_S _ _ (by decide)) rfl dX11_now_52 ?_
      obtain rfl := Option.some.inj h
      exact g_iret (pc := 55) (Wf := Wc) F Rt rfl dX11_now_55
    · have h := ite_f c1 h
      by_cases c2 : a1 = (1 : Int32)
      · have h := ite_t c2 h
        refine g_tswIn (pc := 1) (tgt := 56) (v := 1) F dX11_now_1 (by rw [c2]; decide) (by decide) (by decide) rfl (by decide) ?_
        refine g_aload_n (pc := 56) (x := ec (xE X) 0) F dX11_now_56 rfl 0 rfl ?_
        refine g_get (pc := 57) (v := .ref (ec (xE X) (8 + 0))) F fX11_36 0 (wc_T _ _) rfl dX11_now_57 ?_
        obtain ⟨r9, e10, h⟩ := bd_some h
        refine g_vI (pc := 60) (Wf := Wc) (As := []) (rest := []) F (hX4_hourOfDay (by decide) e10 (xl X) (xE X)) kX4_hourOfDay lX11_106 (8 + 0) rfl (wc_S _ _ (by decide)) rfl rfl rfl ⟨(Nat.le_of_ble_eq_true rfl), (Nat.le_of_ble_eq_true rfl)⟩ (Nat.le_of_ble_eq_true rfl) dX11_now_60 ?_
        obtain rfl := Option.some.inj h
        exact g_iret (pc := 63) (Wf := Wc) F Rt rfl dX11_now_63
      · have h := ite_f c2 h
        by_cases c3 : a1 = (2 : Int32)
        · have h := ite_t c3 h
          refine g_tswIn (pc := 1) (tgt := 64) (v := 2) F dX11_now_1 (by rw [c3]; decide) (by decide) (by decide) rfl (by decide) ?_
          refine g_aload_n (pc := 64) (x := ec (xE X) 0) F dX11_now_64 rfl 0 rfl ?_
          refine g_get (pc := 65) (v := .ref (ec (xE X) (8 + 0))) F fX11_36 0 (wc_T _ _) rfl dX11_now_65 ?_
          obtain ⟨r11, e12, h⟩ := bd_some h
          refine g_vI (pc := 68) (Wf := Wc) (As := []) (rest := []) F (hX4_isNight (by decide) e12 (xl X) (xE X)) kX4_isNight lX11_109 (8 + 0) rfl (wc_S _ _ (by decide)) rfl rfl rfl ⟨(Nat.le_of_ble_eq_true rfl), (Nat.le_of_ble_eq_true rfl)⟩ (Nat.le_of_ble_eq_true rfl) dX11_now_68 ?_
          obtain ⟨r13, e14, h⟩ := bd_some h
          refine g_sI (pc := 71) (Wf := Wc) (As := [.int r11]) (rest := []) F (hX11_asNumber (M := M) e14 (xl X) (xE X)) kX11_asNumber lX11_113 rfl rfl ⟨(Nat.le_of_ble_eq_true rfl), (Nat.le_of_ble_eq_true rfl)⟩ (Nat.le_of_ble_eq_true rfl) dX11_now_71 ?_
          obtain rfl := Option.some.inj h
          exact g_iret (pc := 74) (Wf := Wc) F Rt rfl dX11_now_74
        · have h := ite_f c3 h
          by_cases c4 : a1 = (3 : Int32)
          · have h := ite_t c4 h
            refine g_tswIn (pc := 1) (tgt := 75) (v := 3) F dX11_now_1 (by rw [c4]; decide) (by decide) (by decide) rfl (by decide) ?_
            refine g_aload_n (pc := 75) (x := ec (xE X) 0) F dX11_now_75 rfl 0 rfl ?_
            refine g_get (pc := 76) (v := .ref (ec (xE X) (8 + 0))) F fX11_36 0 (wc_T _ _) rfl dX11_now_76 ?_
            obtain ⟨r15, e16, h⟩ := bd_some h
            refine g_vI (pc := 79) (Wf := Wc) (As := []) (rest := []) F (hX4_burns (by decide) e16 (xl X) (xE X)) kX4_burns lX11_117 (8 + 0) rfl (wc_S _ _ (by decide)) rfl rfl rfl ⟨(Nat.le_of_ble_eq_true rfl), (Nat.le_of_ble_eq_true rfl)⟩ (Nat.le_of_ble_eq_true rfl) dX11_now_79 ?_
            obtain ⟨r17, e18, h⟩ := bd_some h
            refine g_sI (pc := 82) (Wf := Wc) (As := [.int r15]) (rest := []) F (hX11_asNumber (M := M) e18 (xl X) (xE X)) kX11_asNumber lX11_113 rfl rfl ⟨(Nat.le_of_ble_eq_true rfl), (Nat.le_of_ble_eq_true rfl)⟩ (Nat.le_of_ble_eq_true rfl) dX11_now_82 ?_
            obtain rfl := Option.some.inj h
            exact g_iret (pc := 85) (Wf := Wc) F Rt rfl dX11_now_85
          · have h := ite_f c4 h
            by_cases c5 : a1 = (4 : Int32)
            · have h := ite_t c5 h
              refine g_tswIn (pc := 1) (tgt := 86) (v := 4) F dX11_now_1 (by rw [c5]; decide) (by decide) (by decide) rfl (by decide) ?_
              refine g_aload_n (pc := 86) (x := ec (xE X) 0) F dX11_now_86 rfl 0 rfl ?_
              refine g_get (pc := 87) (v := .ref (ec (xE X) (8 + 0))) F fX11_36 0 (wc_T _ _) rfl dX11_now_87 ?_
              obtain ⟨r19, e20, h⟩ := bd_some h
              refine g_vI (pc := 90) (Wf := Wc) (As := []) (rest := []) F (hX4_towerPlace (by decide) e20 (xl X) (xE X)) kX4_towerPlace lX11_86 (8 + 0) rfl (wc_S _ _ (by decide)) rfl rfl rfl ⟨(Nat.le_of_ble_eq_true rfl), (Nat.le_of_ble_eq_true rfl)⟩ (Nat.le_of_ble_eq_true rfl) dX11_now_90 ?_
              obtain rfl := Option.some.inj h
              exact g_iret (pc := 93) (Wf := Wc) F Rt rfl dX11_now_93
            · have h := ite_f c5 h
              by_cases c6 : a1 = (5 : Int32)
              · have h := ite_t c6 h
                refine g_tswIn (pc := 1) (tgt := 94) (v := 5) F dX11_now_1 (by rw [c6]; decide) (by decide) (by decide) rfl (by decide) ?_
                refine g_aload_n (pc := 94) (x := ec (xE X) 0) F dX11_now_94 rfl 0 rfl ?_
                refine g_get (pc := 95) (v := .ref (ec (xE X) (8 + 0))) F fX11_36 0 (wc_T _ _) rfl dX11_now_95 ?_
                refine g_get (pc := 98) (v := .int (M.1 0 4)) F fX11_100 (8 + 0) (wc_S _ _ (by decide)) rfl dX11_now_98 ?_
                obtain rfl := Option.some.inj h
                exact g_iret (pc := 101) (Wf := Wc) F Rt rfl dX11_now_101
              · have h := ite_f c6 h
                by_cases c7 : a1 = (6 : Int32)
                · have h := ite_t c7 h
                  refine g_tswIn (pc := 1) (tgt := 102) (v := 6) F dX11_now_1 (by rw [c7]; decide) (by decide) (by decide) rfl (by decide) ?_
                  refine g_aload_n (pc := 102) (x := ec (xE X) 0) F dX11_now_102 rfl 0 rfl ?_
                  refine g_get (pc := 103) (v := .ref (ec (xE X) (8 + 0))) F fX11_36 0 (wc_T _ _) rfl dX11_now_103 ?_
                  obtain ⟨r21, e22, h⟩ := bd_some h
                  refine g_vI (pc := 106) (Wf := Wc) (As := []) (rest := []) F (hX4_lostOnes (by decide) e22 (xl X) (xE X)) kX4_lostOnes lX11_120 (8 + 0) rfl (wc_S _ _ (by decide)) rfl rfl rfl ⟨(Nat.le_of_ble_eq_true rfl), (Nat.le_of_ble_eq_true rfl)⟩ (Nat.le_of_ble_eq_true rfl) dX11_now_106 ?_
                  obtain rfl := Option.some.inj h
                  exact g_iret (pc := 109) (Wf := Wc) F Rt rfl dX11_now_109
                · have h := ite_f c7 h
                  by_cases c8 : a1 = (7 : Int32)
                  · have h := ite_t c8 h
                    refine g_tswIn (pc := 1) (tgt := 110) (v := 7) F dX11_now_1 (by rw [c8]; decide) (by decide) (by decide) rfl (by decide) ?_
                    refine g_aload_n (pc := 110) (x := ec (xE X) 0) F dX11_now_110 rfl 0 rfl ?_
                    refine g_get (pc := 111) (v := .ref (ec (xE X) (8 + 0))) F fX11_36 0 (wc_T _ _) rfl dX11_now_111 ?_
                    obtain ⟨r23, e24, h⟩ := bd_some h
                    refine g_vI (pc := 114) (Wf := Wc) (As := []) (rest := []) F (hX4_onesBy (by decide) e24 (xl X) (xE X)) kX4_onesBy lX11_123 (8 + 0) rfl (wc_S _ _ (by decide)) rfl rfl rfl ⟨(Nat.le_of_ble_eq_true rfl), (Nat.le_of_ble_eq_true rfl)⟩ (Nat.le_of_ble_eq_true rfl) dX11_now_114 ?_
                    obtain rfl := Option.some.inj h
                    exact g_iret (pc := 117) (Wf := Wc) F Rt rfl dX11_now_117
                  · have h := ite_f c8 h
                    refine g_tswOut (pc := 1) (tgt := 118) F dX11_now_1 (by have z0 := lv_neT (a := 0) c1 (by decide); have z1 := lv_neT (a := 1) c2 (by decide); have z2 := lv_neT (a := 2) c3 (by decide); have z3 := lv_neT (a := 3) c4 (by decide); have z4 := lv_neT (a := 4) c5 (by decide); have z5 := lv_neT (a := 5) c6 (by decide); have z6 := lv_neT (a := 6) c7 (by decide); have z7 := lv_neT (a := 7) c8 (by decide); omega) (by decide) ?_
                    refine g_aload_n (pc := 118) (x := ec (xE X) 0) F dX11_now_118 rfl 0 rfl ?_
                    refine g_ldc (pc := 119) F oX11_81 dX11_now_119 ?_
                    obtain ⟨q25, e26, h⟩ := bd_some h
                    refine g_vI (pc := 121) (Wf := Wc) (As := [.int (-1000000001 : Int32)]) (rest := []) F (hX11_found e26 (xl X) (xE X)) kX11_found lX11_82 0 rfl (wc_T _ _) rfl rfl rfl ⟨(Nat.le_of_ble_eq_true rfl), (Nat.le_of_ble_eq_true rfl)⟩ (Nat.le_of_ble_eq_true rfl) dX11_now_121 ?_
                    obtain rfl := Option.some.inj h
                    exact g_iret (pc := 124) (Wf := Wc) F Rt rfl dX11_now_124) l E
set_option maxHeartbeats 4000000 in
set_option maxRecDepth 100000 in
theorem hX11_isKind {M : Mem} {a0 : Int32} {res : Int32} (h : mX11_isKind a0 = some res) (l : Launch) (E : Ev) : CtI l E (Wc E) yX11_isKind cX11_isKind 1 .boolean 1 22 [.int a0] M res M :=
  ctI_of (Wf := Wc) (av := fun E => [.int a0]) (lv := fun E => [(0, .int a0)]) (by decide) (fun _ => rfl) (fun _ => (Nat.le_of_ble_eq_true rfl)) (fun X F hx Rt => by
    have F : Fx X cX11_isKind RX11 1 22 := F
    unfold mX11_isKind at h
    refine g_iload_n (pc := 0) (x := a0) F dX11_isKind_0 rfl 0 rfl ?_
    refine g_iconst (pc := 1) F dX11_isKind_1 ic_0 ?_
    refine g_iconst (pc := 2) F dX11_isKind_2 ic_5 ?_
    obtain ⟨r1, e2, h⟩ := bd_some h
    refine g_sI (pc := 3) (Wf := Wc) (As := [.int a0, .int (0 : Int32), .int (5 : Int32)]) (rest := []) F (hX11_isWithin (M := M) e2 (xl X) (xE X)) kX11_isWithin lX11_77 rfl rfl ⟨(Nat.le_of_ble_eq_true rfl), (Nat.le_of_ble_eq_true rfl)⟩ (Nat.le_of_ble_eq_true rfl) dX11_isKind_3 ?_
    obtain ⟨b3, h⟩ := ck_some h
    obtain rfl := Option.some.inj h
    exact g_iret (pc := 6) (Wf := Wc) F Rt (nb01 b3).1 dX11_isKind_6) l E
set_option maxHeartbeats 4000000 in
set_option maxRecDepth 100000 in
theorem hX11_ship {M : Mem} {a1 : Int32} {a2 : Int32} {res : Int32 × Mem} (h : mX11_ship M a1 a2 = some res) (l : Launch) (E : Ev) : CtI l E (Wc E) yX11_ship cX11_ship 3 .int 2 46 [.ref (ec E 0), .int a1, .int a2] M res.1 res.2 :=
  ctI_of (Wf := Wc) (av := fun E => [.ref (ec E 0), .int a1, .int a2]) (lv := fun E => [(0, .ref (ec E 0)), (1, .int a1), (2, .int a2)]) (by decide) (fun _ => rfl) (fun _ => (Nat.le_of_ble_eq_true rfl)) (fun X F hx Rt => by
    have F : Fx X cX11_ship RX11 2 46 := F
    unfold mX11_ship at h
    refine g_iload_n (pc := 0) (x := a1) F dX11_ship_0 rfl 1 rfl ?_
    obtain ⟨r1, e2, h⟩ := bd_some h
    refine g_sI (pc := 1) (Wf := Wc) (As := [.int a1]) (rest := []) F (hX11_isKind (M := M) e2 (xl X) (xE X)) kX11_isKind lX11_126 rfl rfl ⟨(Nat.le_of_ble_eq_true rfl), (Nat.le_of_ble_eq_true rfl)⟩ (Nat.le_of_ble_eq_true rfl) dX11_ship_1 ?_
    refine g_if_eq (pc := 4) (tgt := 17) F dX11_ship_4 (by decide) (fun c3 => ?_) (fun c3 => ?_)
    · have h := ite_t c3 h
      refine g_aload_n (pc := 17) (x := ec (xE X) 0) F dX11_ship_17 rfl 0 rfl ?_
      refine g_ldc (pc := 18) F oX11_81 dX11_ship_18 ?_
      obtain ⟨q4, e5, h⟩ := bd_some h
      refine g_vI (pc := 20) (Wf := Wc) (As := [.int (-1000000001 : Int32)]) (rest := []) F (hX11_found e5 (xl X) (xE X)) kX11_found lX11_82 0 rfl (wc_T _ _) rfl rfl rfl ⟨(Nat.le_of_ble_eq_true rfl), (Nat.le_of_ble_eq_true rfl)⟩ (Nat.le_of_ble_eq_true rfl) dX11_ship_20 ?_
      obtain rfl := Option.some.inj h
      exact g_iret (pc := 23) (Wf := Wc) F Rt rfl dX11_ship_23
    · have h := ite_f c3 h
      refine g_iload_n (pc := 7) (x := a2) F dX11_ship_7 rfl 2 rfl ?_
      refine g_iconst (pc := 8) F dX11_ship_8 ic_0 ?_
      refine g_bipush (pc := 9) F dX11_ship_9 bp_9 ?_
      obtain ⟨r6, e7, h⟩ := bd_some h
      refine g_sI (pc := 11) (Wf := Wc) (As := [.int a2, .int (0 : Int32), .int (9 : Int32)]) (rest := []) F (hX11_isWithin (M := M) e7 (xl X) (xE X)) kX11_isWithin lX11_77 rfl rfl ⟨(Nat.le_of_ble_eq_true rfl), (Nat.le_of_ble_eq_true rfl)⟩ (Nat.le_of_ble_eq_true rfl) dX11_ship_11 ?_
      refine g_if_ne (pc := 14) (tgt := 24) F dX11_ship_14 (by decide) (fun c8 => ?_) (fun c8 => ?_)
      · have h := ite_f c8 h
        refine g_aload_n (pc := 24) (x := ec (xE X) 0) F dX11_ship_24 rfl 0 rfl ?_
        refine g_get (pc := 25) (v := .ref (ec (xE X) (8 + 0))) F fX11_36 0 (wc_T _ _) rfl dX11_ship_25 ?_
        obtain ⟨r9, e10, h⟩ := bd_some h
        refine g_vI (pc := 28) (Wf := Wc) (As := []) (rest := []) F (hX4_isFull (by decide) e10 (xl X) (xE X)) kX4_isFull lX11_130 (8 + 0) rfl (wc_S _ _ (by decide)) rfl rfl rfl ⟨(Nat.le_of_ble_eq_true rfl), (Nat.le_of_ble_eq_true rfl)⟩ (Nat.le_of_ble_eq_true rfl) dX11_ship_28 ?_
        refine g_if_eq (pc := 31) (tgt := 41) F dX11_ship_31 (by decide) (fun c11 => ?_) (fun c11 => ?_)
        · have h := ite_t c11 h
          refine g_aload_n (pc := 41) (x := ec (xE X) 0) F dX11_ship_41 rfl 0 rfl ?_
          refine g_get (pc := 42) (v := .ref (ec (xE X) (8 + 0))) F fX11_36 0 (wc_T _ _) rfl dX11_ship_42 ?_
          refine g_aload_n (pc := 45) (x := ec (xE X) 0) F dX11_ship_45 rfl 0 rfl ?_
          refine g_get (pc := 46) (v := .ref (ec (xE X) 1)) F fX11_27 0 (wc_T _ _) rfl dX11_ship_46 ?_
          refine g_iload_n (pc := 49) (x := a1) F dX11_ship_49 rfl 1 rfl ?_
          obtain ⟨i12, h⟩ := ck_some h
          refine g_aald (pc := 50) (C := "TowerWarns$Ship") (b := ec (xE X) (2 + a1.toNatClampNeg)) F 1 4 (wc_Ks _ _) rfl i12 rfl dX11_ship_50 ?_
          refine g_iconst (pc := 51) F dX11_ship_51 ic_0 ?_
          refine g_iload_n (pc := 52) (x := a2) F dX11_ship_52 rfl 2 rfl ?_
          obtain ⟨M13, e14, h⟩ := bd_some h
          refine g_vV (pc := 53) (Wf := Wc) (As := [.ref (ec (xE X) (2 + a1.toNatClampNeg)), .int (0 : Int32), .int a2]) (rest := []) F (hX4_launch (by decide) e14 (xl X) (xE X)) kX4_launch lX11_134 (8 + 0) rfl (wc_S _ _ (by decide)) rfl rfl rfl ⟨(Nat.le_of_ble_eq_true rfl), (Nat.le_of_ble_eq_true rfl)⟩ (Nat.le_of_ble_eq_true rfl) dX11_ship_53 ?_
          refine g_aload_n (pc := 56) (x := ec (xE X) 0) F dX11_ship_56 rfl 0 rfl ?_
          refine g_get (pc := 57) (v := .ref (ec (xE X) (8 + 0))) F fX11_36 0 (wc_T _ _) rfl dX11_ship_57 ?_
          refine g_get (pc := 60) (v := .int (M13.1 0 5)) F fX11_138 (8 + 0) (wc_S _ _ (by decide)) rfl dX11_ship_60 ?_
          refine g_iconst (pc := 63) F dX11_ship_63 ic_1 ?_
          refine g_isub (pc := 64) F dX11_ship_64 ?_
          obtain rfl := Option.some.inj h
          exact g_iret (pc := 65) (Wf := Wc) F Rt rfl dX11_ship_65
        · have h := ite_f c11 h
          refine g_aload_n (pc := 34) (x := ec (xE X) 0) F dX11_ship_34 rfl 0 rfl ?_
          refine g_ldc (pc := 35) F oX11_133 dX11_ship_35 ?_
          obtain ⟨q15, e16, h⟩ := bd_some h
          refine g_vI (pc := 37) (Wf := Wc) (As := [.int (-1000000002 : Int32)]) (rest := []) F (hX11_found e16 (xl X) (xE X)) kX11_found lX11_82 0 rfl (wc_T _ _) rfl rfl rfl ⟨(Nat.le_of_ble_eq_true rfl), (Nat.le_of_ble_eq_true rfl)⟩ (Nat.le_of_ble_eq_true rfl) dX11_ship_37 ?_
          obtain rfl := Option.some.inj h
          exact g_iret (pc := 40) (Wf := Wc) F Rt rfl dX11_ship_40
      · have h := ite_t c8 h
        refine g_aload_n (pc := 17) (x := ec (xE X) 0) F dX11_ship_17 rfl 0 rfl ?_
        refine g_ldc (pc := 18) F oX11_81 dX11_ship_18 ?_
        obtain ⟨q17, e18, h⟩ := bd_some h
        refine g_vI (pc := 20) (Wf := Wc) (As := [.int (-1000000001 : Int32)]) (rest := []) F (hX11_found e18 (xl X) (xE X)) kX11_found lX11_82 0 rfl (wc_T _ _) rfl rfl rfl ⟨(Nat.le_of_ble_eq_true rfl), (Nat.le_of_ble_eq_true rfl)⟩ (Nat.le_of_ble_eq_true rfl) dX11_ship_20 ?_
        obtain rfl := Option.some.inj h
        exact g_iret (pc := 23) (Wf := Wc) F Rt rfl dX11_ship_23) l E
set_option maxHeartbeats 4000000 in
set_option maxRecDepth 100000 in
theorem hX11_isShip {M : Mem} {a1 : Int32} {res : Int32} (h : mX11_isShip M a1 = some res) (l : Launch) (E : Ev) : CtI l E (Wc E) yX11_isShip cX11_isShip 2 .boolean 0 0 [.ref (ec E 0), .int a1] M res M :=
  ctI_of (Wf := Wc) (av := fun E => [.ref (ec E 0), .int a1]) (lv := fun E => [(0, .ref (ec E 0)), (1, .int a1)]) (by decide) (fun _ => rfl) (fun _ => (Nat.le_of_ble_eq_true rfl)) (fun X F hx Rt => by
    have F : Fx X cX11_isShip RX11 0 0 := F
    unfold mX11_isShip at h
    refine g_iload_n (pc := 0) (x := a1) F dX11_isShip_0 rfl 1 rfl ?_
    refine g_if_lt (pc := 1) (tgt := 19) F dX11_isShip_1 (by decide) (fun c1 => ?_) (fun c1 => ?_)
    · have h := ite_t c1 h
      refine g_iconst (pc := 19) F dX11_isShip_19 ic_0 ?_
      obtain rfl := Option.some.inj h
      exact g_iret (pc := 20) (Wf := Wc) F Rt (by decide) dX11_isShip_20
    · have h := ite_f c1 h
      refine g_iload_n (pc := 4) (x := a1) F dX11_isShip_4 rfl 1 rfl ?_
      refine g_aload_n (pc := 5) (x := ec (xE X) 0) F dX11_isShip_5 rfl 0 rfl ?_
      refine g_get (pc := 6) (v := .ref (ec (xE X) (8 + 0))) F fX11_36 0 (wc_T _ _) rfl dX11_isShip_6 ?_
      refine g_get (pc := 9) (v := .int (M.1 0 5)) F fX11_138 (8 + 0) (wc_S _ _ (by decide)) rfl dX11_isShip_9 ?_
      refine g_icmp_ge (pc := 12) (tgt := 19) F dX11_isShip_12 (by decide) (fun c2 => ?_) (fun c2 => ?_)
      · have h := ite_t c2 h
        refine g_iconst (pc := 19) F dX11_isShip_19 ic_0 ?_
        obtain rfl := Option.some.inj h
        exact g_iret (pc := 20) (Wf := Wc) F Rt (by decide) dX11_isShip_20
      · have h := ite_f c2 h
        refine g_iconst (pc := 15) F dX11_isShip_15 ic_1 ?_
        refine g_goto (pc := 16) (tgt := 20) F dX11_isShip_16 (by decide) ?_
        obtain rfl := Option.some.inj h
        exact g_iret (pc := 20) (Wf := Wc) F Rt (by decide) dX11_isShip_20) l E
set_option maxHeartbeats 4000000 in
set_option maxRecDepth 100000 in
theorem hX11_of {M : Mem} {a1 : Int32} {a2 : Int32} {res : Int32 × Mem} (h : mX11_of M a1 a2 = some res) (l : Launch) (E : Ev) : CtI l E (Wc E) yX11_of cX11_of 4 .int 4 96 [.ref (ec E 0), .int a1, .int a2] M res.1 res.2 :=
  ctI_of (Wf := Wc) (av := fun E => [.ref (ec E 0), .int a1, .int a2]) (lv := fun E => [(0, .ref (ec E 0)), (1, .int a1), (2, .int a2)]) (by decide) (fun _ => rfl) (fun _ => (Nat.le_of_ble_eq_true rfl)) (fun X F hx Rt => by
    have F : Fx X cX11_of RX11 4 96 := F
    unfold mX11_of at h
    refine g_aload_n (pc := 0) (x := ec (xE X) 0) F dX11_of_0 rfl 0 rfl ?_
    refine g_iload_n (pc := 1) (x := a1) F dX11_of_1 rfl 1 rfl ?_
    obtain ⟨r1, e2, h⟩ := bd_some h
    refine g_vI (pc := 2) (Wf := Wc) (As := [.int a1]) (rest := []) F (hX11_isShip e2 (xl X) (xE X)) kX11_isShip lX11_141 0 rfl (wc_T _ _) rfl rfl rfl ⟨(Nat.le_of_ble_eq_true rfl), (Nat.le_of_ble_eq_true rfl)⟩ (Nat.le_of_ble_eq_true rfl) dX11_of_2 ?_
    refine g_if_eq (pc := 5) (tgt := 18) F dX11_of_5 (by decide) (fun c3 => ?_) (fun c3 => ?_)
    · have h := ite_t c3 h
      refine g_aload_n (pc := 18) (x := ec (xE X) 0) F dX11_of_18 rfl 0 rfl ?_
      refine g_ldc (pc := 19) F oX11_81 dX11_of_19 ?_
      obtain ⟨q4, e5, h⟩ := bd_some h
      refine g_vI (pc := 21) (Wf := Wc) (As := [.int (-1000000001 : Int32)]) (rest := []) F (hX11_found e5 (xl X) (xE X)) kX11_found lX11_82 0 rfl (wc_T _ _) rfl rfl rfl ⟨(Nat.le_of_ble_eq_true rfl), (Nat.le_of_ble_eq_true rfl)⟩ (Nat.le_of_ble_eq_true rfl) dX11_of_21 ?_
      obtain rfl := Option.some.inj h
      exact g_iret (pc := 24) (Wf := Wc) F Rt rfl dX11_of_24
    · have h := ite_f c3 h
      refine g_iload_n (pc := 8) (x := a2) F dX11_of_8 rfl 2 rfl ?_
      refine g_iconst (pc := 9) F dX11_of_9 ic_0 ?_
      refine g_bipush (pc := 10) F dX11_of_10 bp_11 ?_
      obtain ⟨r6, e7, h⟩ := bd_some h
      refine g_sI (pc := 12) (Wf := Wc) (As := [.int a2, .int (0 : Int32), .int (11 : Int32)]) (rest := []) F (hX11_isWithin (M := M) e7 (xl X) (xE X)) kX11_isWithin lX11_77 rfl rfl ⟨(Nat.le_of_ble_eq_true rfl), (Nat.le_of_ble_eq_true rfl)⟩ (Nat.le_of_ble_eq_true rfl) dX11_of_12 ?_
      refine g_if_ne (pc := 15) (tgt := 25) F dX11_of_15 (by decide) (fun c8 => ?_) (fun c8 => ?_)
      · have h := ite_f c8 h
        refine g_aload_n (pc := 25) (x := ec (xE X) 0) F dX11_of_25 rfl 0 rfl ?_
        refine g_get (pc := 26) (v := .ref (ec (xE X) (8 + 0))) F fX11_36 0 (wc_T _ _) rfl dX11_of_26 ?_
        refine g_get (pc := 29) (v := .ref (ec (xE X) (11 + 0))) F fX11_144 (8 + 0) (wc_S _ _ (by decide)) rfl dX11_of_29 ?_
        refine g_iload_n (pc := 32) (x := a1) F dX11_of_32 rfl 1 rfl ?_
        obtain ⟨i9, h⟩ := ck_some h
        refine g_aald (pc := 33) (C := "TowerWarns$Vessel") (b := ec (xE X) (14 + 6 * 0 + a1.toNatClampNeg)) F (11 + 0) 3 (wc_A _ _ (by decide)) rfl i9 rfl dX11_of_33 ?_
        refine g_astore_n (pc := 34) (lv2 := [(0, .ref (ec (xE X) 0)), (1, .int a1), (2, .int a2), (3, .ref (ec (xE X) (14 + 6 * 0 + a1.toNatClampNeg)))]) F dX11_of_34 rfl (by rw [hx]; decide) [1, 2, 3, 0] rfl ?_
        refine g_iload_n (pc := 35) (x := a2) F dX11_of_35 rfl 2 rfl ?_
        refine g_bipush (pc := 36) F dX11_of_36 bp_6 ?_
        refine g_icmp_gt (pc := 38) (tgt := 49) F dX11_of_38 (by decide) (fun c10 => ?_) (fun c10 => ?_)
        · have h := ite_t c10 h
          refine g_aload_n (pc := 49) (x := ec (xE X) 0) F dX11_of_49 rfl 0 rfl ?_
          refine g_get (pc := 50) (v := .ref (ec (xE X) (8 + 0))) F fX11_36 0 (wc_T _ _) rfl dX11_of_50 ?_
          refine g_aload_n (pc := 53) (x := ec (xE X) (14 + 6 * 0 + a1.toNatClampNeg)) F dX11_of_53 rfl 3 rfl ?_
          refine g_iload_n (pc := 54) (x := a2) F dX11_of_54 rfl 2 rfl ?_
          obtain ⟨r11, e12, h⟩ := bd_some h
          refine g_vI (pc := 55) (Wf := Wc) (As := [.ref (ec (xE X) (14 + 6 * 0 + a1.toNatClampNeg)), .int a2]) (rest := []) F (hX4_bearing (by decide) (ok_lt i9) e12 (xl X) (xE X)) kX4_bearing lX11_153 (8 + 0) rfl (wc_S _ _ (by decide)) rfl rfl rfl ⟨(Nat.le_of_ble_eq_true rfl), (Nat.le_of_ble_eq_true rfl)⟩ (Nat.le_of_ble_eq_true rfl) dX11_of_55 ?_
          obtain rfl := Option.some.inj h
          exact g_iret (pc := 58) (Wf := Wc) F Rt rfl dX11_of_58
        · have h := ite_f c10 h
          refine g_aload_n (pc := 41) (x := ec (xE X) (14 + 6 * 0 + a1.toNatClampNeg)) F dX11_of_41 rfl 3 rfl ?_
          refine g_iload_n (pc := 42) (x := a2) F dX11_of_42 rfl 2 rfl ?_
          obtain ⟨r13, e14, h⟩ := bd_some h
          refine g_vI (pc := 43) (Wf := Wc) (As := [.int a2]) (rest := []) F (hX10_figure (by decide) (ok_lt i9) e14 (xl X) (xE X)) kX10_figure lX11_150 (14 + 6 * 0 + a1.toNatClampNeg) rfl (wc_V _ _ (by decide) (ok_lt i9)) rfl rfl rfl ⟨(Nat.le_of_ble_eq_true rfl), (Nat.le_of_ble_eq_true rfl)⟩ (Nat.le_of_ble_eq_true rfl) dX11_of_43 ?_
          refine g_goto (pc := 46) (tgt := 58) F dX11_of_46 (by decide) ?_
          obtain rfl := Option.some.inj h
          exact g_iret (pc := 58) (Wf := Wc) F Rt rfl dX11_of_58
      · have h := ite_t c8 h
        refine g_aload_n (pc := 18) (x := ec (xE X) 0) F dX11_of_18 rfl 0 rfl ?_
        refine g_ldc (pc := 19) F oX11_81 dX11_of_19 ?_
        obtain ⟨q15, e16, h⟩ := bd_some h
        refine g_vI (pc := 21) (Wf := Wc) (As := [.int (-1000000001 : Int32)]) (rest := []) F (hX11_found e16 (xl X) (xE X)) kX11_found lX11_82 0 rfl (wc_T _ _) rfl rfl rfl ⟨(Nat.le_of_ble_eq_true rfl), (Nat.le_of_ble_eq_true rfl)⟩ (Nat.le_of_ble_eq_true rfl) dX11_of_21 ?_
        obtain rfl := Option.some.inj h
        exact g_iret (pc := 24) (Wf := Wc) F Rt rfl dX11_of_24) l E
set_option maxHeartbeats 4000000 in
set_option maxRecDepth 100000 in
theorem hX11_set {M : Mem} {a1 : Int32} {a2 : Int32} {a3 : Int32} {res : Int32 × Mem} (h : mX11_set M a1 a2 a3 = some res) (l : Launch) (E : Ev) : CtI l E (Wc E) yX11_set cX11_set 6 .int 2 44 [.ref (ec E 0), .int a1, .int a2, .int a3] M res.1 res.2 :=
  ctI_of (Wf := Wc) (av := fun E => [.ref (ec E 0), .int a1, .int a2, .int a3]) (lv := fun E => [(0, .ref (ec E 0)), (1, .int a1), (2, .int a2), (3, .int a3)]) (by decide) (fun _ => rfl) (fun _ => (Nat.le_of_ble_eq_true rfl)) (fun X F hx Rt => by
    have F : Fx X cX11_set RX11 2 44 := F
    unfold mX11_set at h
    refine g_aload_n (pc := 0) (x := ec (xE X) 0) F dX11_set_0 rfl 0 rfl ?_
    refine g_iload_n (pc := 1) (x := a1) F dX11_set_1 rfl 1 rfl ?_
    obtain ⟨r1, e2, h⟩ := bd_some h
    refine g_vI (pc := 2) (Wf := Wc) (As := [.int a1]) (rest := []) F (hX11_isShip e2 (xl X) (xE X)) kX11_isShip lX11_141 0 rfl (wc_T _ _) rfl rfl rfl ⟨(Nat.le_of_ble_eq_true rfl), (Nat.le_of_ble_eq_true rfl)⟩ (Nat.le_of_ble_eq_true rfl) dX11_set_2 ?_
    refine g_if_eq (pc := 5) (tgt := 17) F dX11_set_5 (by decide) (fun c3 => ?_) (fun c3 => ?_)
    · have h := ite_t c3 h
      refine g_aload_n (pc := 17) (x := ec (xE X) 0) F dX11_set_17 rfl 0 rfl ?_
      refine g_ldc (pc := 18) F oX11_81 dX11_set_18 ?_
      obtain ⟨q4, e5, h⟩ := bd_some h
      refine g_vI (pc := 20) (Wf := Wc) (As := [.int (-1000000001 : Int32)]) (rest := []) F (hX11_found e5 (xl X) (xE X)) kX11_found lX11_82 0 rfl (wc_T _ _) rfl rfl rfl ⟨(Nat.le_of_ble_eq_true rfl), (Nat.le_of_ble_eq_true rfl)⟩ (Nat.le_of_ble_eq_true rfl) dX11_set_20 ?_
      obtain rfl := Option.some.inj h
      exact g_iret (pc := 23) (Wf := Wc) F Rt rfl dX11_set_23
    · have h := ite_f c3 h
      refine g_iload_n (pc := 8) (x := a2) F dX11_set_8 rfl 2 rfl ?_
      refine g_iconst (pc := 9) F dX11_set_9 ic_1 ?_
      refine g_iconst (pc := 10) F dX11_set_10 ic_4 ?_
      obtain ⟨r6, e7, h⟩ := bd_some h
      refine g_sI (pc := 11) (Wf := Wc) (As := [.int a2, .int (1 : Int32), .int (4 : Int32)]) (rest := []) F (hX11_isWithin (M := M) e7 (xl X) (xE X)) kX11_isWithin lX11_77 rfl rfl ⟨(Nat.le_of_ble_eq_true rfl), (Nat.le_of_ble_eq_true rfl)⟩ (Nat.le_of_ble_eq_true rfl) dX11_set_11 ?_
      refine g_if_ne (pc := 14) (tgt := 24) F dX11_set_14 (by decide) (fun c8 => ?_) (fun c8 => ?_)
      · have h := ite_f c8 h
        refine g_iload_n (pc := 24) (x := a3) F dX11_set_24 rfl 3 rfl ?_
        refine g_iconst (pc := 25) F dX11_set_25 ic_0 ?_
        refine g_iload_n (pc := 26) (x := a2) F dX11_set_26 rfl 2 rfl ?_
        obtain ⟨r9, e10, h⟩ := bd_some h
        refine g_sI (pc := 27) (Wf := Wc) (As := [.int a2]) (rest := [.int (0 : Int32), .int a3]) F (hX10_mostOf (M := M) e10 (xl X) (xE X)) kX10_mostOf lX11_157 rfl rfl ⟨(Nat.le_of_ble_eq_true rfl), (Nat.le_of_ble_eq_true rfl)⟩ (Nat.le_of_ble_eq_true rfl) dX11_set_27 ?_
        obtain ⟨r11, e12, h⟩ := bd_some h
        refine g_sI (pc := 30) (Wf := Wc) (As := [.int a3, .int (0 : Int32), .int r9]) (rest := []) F (hX11_isWithin (M := M) e12 (xl X) (xE X)) kX11_isWithin lX11_77 rfl rfl ⟨(Nat.le_of_ble_eq_true rfl), (Nat.le_of_ble_eq_true rfl)⟩ (Nat.le_of_ble_eq_true rfl) dX11_set_30 ?_
        refine g_if_ne (pc := 33) (tgt := 43) F dX11_set_33 (by decide) (fun c13 => ?_) (fun c13 => ?_)
        · have h := ite_f c13 h
          refine g_aload_n (pc := 43) (x := ec (xE X) 0) F dX11_set_43 rfl 0 rfl ?_
          refine g_get (pc := 44) (v := .ref (ec (xE X) (8 + 0))) F fX11_36 0 (wc_T _ _) rfl dX11_set_44 ?_
          refine g_get (pc := 47) (v := .ref (ec (xE X) (11 + 0))) F fX11_144 (8 + 0) (wc_S _ _ (by decide)) rfl dX11_set_47 ?_
          refine g_iload_n (pc := 50) (x := a1) F dX11_set_50 rfl 1 rfl ?_
          obtain ⟨i14, h⟩ := ck_some h
          refine g_aald (pc := 51) (C := "TowerWarns$Vessel") (b := ec (xE X) (14 + 6 * 0 + a1.toNatClampNeg)) F (11 + 0) 3 (wc_A _ _ (by decide)) rfl i14 rfl dX11_set_51 ?_
          refine g_astore (pc := 52) (lv2 := [(0, .ref (ec (xE X) 0)), (1, .int a1), (2, .int a2), (3, .int a3), (4, .ref (ec (xE X) (14 + 6 * 0 + a1.toNatClampNeg)))]) F dX11_set_52 (by rw [hx]; decide) [1, 2, 3, 4, 0] rfl ?_
          refine g_aload (pc := 54) (x := ec (xE X) (14 + 6 * 0 + a1.toNatClampNeg)) F dX11_set_54 4 rfl ?_
          refine g_iload_n (pc := 56) (x := a2) F dX11_set_56 rfl 2 rfl ?_
          obtain ⟨r15, e16, h⟩ := bd_some h
          refine g_vI (pc := 57) (Wf := Wc) (As := [.int a2]) (rest := []) F (hX10_figure (by decide) (ok_lt i14) e16 (xl X) (xE X)) kX10_figure lX11_150 (14 + 6 * 0 + a1.toNatClampNeg) rfl (wc_V _ _ (by decide) (ok_lt i14)) rfl rfl rfl ⟨(Nat.le_of_ble_eq_true rfl), (Nat.le_of_ble_eq_true rfl)⟩ (Nat.le_of_ble_eq_true rfl) dX11_set_57 ?_
          refine g_istore (pc := 60) (lv2 := [(0, .ref (ec (xE X) 0)), (1, .int a1), (2, .int a2), (3, .int a3), (4, .ref (ec (xE X) (14 + 6 * 0 + a1.toNatClampNeg))), (5, .int r15)]) F dX11_set_60 (by rw [hx]; decide) [1, 2, 3, 4, 5, 0] rfl ?_
          refine g_aload (pc := 62) (x := ec (xE X) (14 + 6 * 0 + a1.toNatClampNeg)) F dX11_set_62 4 rfl ?_
          refine g_iload_n (pc := 64) (x := a2) F dX11_set_64 rfl 2 rfl ?_
          refine g_iload_n (pc := 65) (x := a3) F dX11_set_65 rfl 3 rfl ?_
          obtain ⟨M17, e18, h⟩ := bd_some h
          refine g_vV (pc := 66) (Wf := Wc) (As := [.int a2, .int a3]) (rest := []) F (hX10_put (by decide) (ok_lt i14) e18 (xl X) (xE X)) kX10_put lX11_160 (14 + 6 * 0 + a1.toNatClampNeg) rfl (wc_V _ _ (by decide) (ok_lt i14)) rfl rfl rfl ⟨(Nat.le_of_ble_eq_true rfl), (Nat.le_of_ble_eq_true rfl)⟩ (Nat.le_of_ble_eq_true rfl) dX11_set_66 ?_
          refine g_iload (pc := 69) (x := r15) F dX11_set_69 5 rfl ?_
          obtain rfl := Option.some.inj h
          exact g_iret (pc := 71) (Wf := Wc) F Rt rfl dX11_set_71
        · have h := ite_t c13 h
          refine g_aload_n (pc := 36) (x := ec (xE X) 0) F dX11_set_36 rfl 0 rfl ?_
          refine g_ldc (pc := 37) F oX11_81 dX11_set_37 ?_
          obtain ⟨q19, e20, h⟩ := bd_some h
          refine g_vI (pc := 39) (Wf := Wc) (As := [.int (-1000000001 : Int32)]) (rest := []) F (hX11_found e20 (xl X) (xE X)) kX11_found lX11_82 0 rfl (wc_T _ _) rfl rfl rfl ⟨(Nat.le_of_ble_eq_true rfl), (Nat.le_of_ble_eq_true rfl)⟩ (Nat.le_of_ble_eq_true rfl) dX11_set_39 ?_
          obtain rfl := Option.some.inj h
          exact g_iret (pc := 42) (Wf := Wc) F Rt rfl dX11_set_42
      · have h := ite_t c8 h
        refine g_aload_n (pc := 17) (x := ec (xE X) 0) F dX11_set_17 rfl 0 rfl ?_
        refine g_ldc (pc := 18) F oX11_81 dX11_set_18 ?_
        obtain ⟨q21, e22, h⟩ := bd_some h
        refine g_vI (pc := 20) (Wf := Wc) (As := [.int (-1000000001 : Int32)]) (rest := []) F (hX11_found e22 (xl X) (xE X)) kX11_found lX11_82 0 rfl (wc_T _ _) rfl rfl rfl ⟨(Nat.le_of_ble_eq_true rfl), (Nat.le_of_ble_eq_true rfl)⟩ (Nat.le_of_ble_eq_true rfl) dX11_set_20 ?_
        obtain rfl := Option.some.inj h
        exact g_iret (pc := 23) (Wf := Wc) F Rt rfl dX11_set_23) l E
set_option maxHeartbeats 4000000 in
set_option maxRecDepth 100000 in
theorem hX11_turn {M : Mem} {a1 : Int32} {a2 : Int32} {res : Int32 × Mem} (h : mX11_turn M a1 a2 = some res) (l : Launch) (E : Ev) : CtI l E (Wc E) yX11_turn cX11_turn 5 .int 2 44 [.ref (ec E 0), .int a1, .int a2] M res.1 res.2 :=
  ctI_of (Wf := Wc) (av := fun E => [.ref (ec E 0), .int a1, .int a2]) (lv := fun E => [(0, .ref (ec E 0)), (1, .int a1), (2, .int a2)]) (by decide) (fun _ => rfl) (fun _ => (Nat.le_of_ble_eq_true rfl)) (fun X F hx Rt => by
    have F : Fx X cX11_turn RX11 2 44 := F
    unfold mX11_turn at h
    refine g_aload_n (pc := 0) (x := ec (xE X) 0) F dX11_turn_0 rfl 0 rfl ?_
    refine g_iload_n (pc := 1) (x := a1) F dX11_turn_1 rfl 1 rfl ?_
    obtain ⟨r1, e2, h⟩ := bd_some h
    refine g_vI (pc := 2) (Wf := Wc) (As := [.int a1]) (rest := []) F (hX11_isShip e2 (xl X) (xE X)) kX11_isShip lX11_141 0 rfl (wc_T _ _) rfl rfl rfl ⟨(Nat.le_of_ble_eq_true rfl), (Nat.le_of_ble_eq_true rfl)⟩ (Nat.le_of_ble_eq_true rfl) dX11_turn_2 ?_
    refine g_if_eq (pc := 5) (tgt := 15) F dX11_turn_5 (by decide) (fun c3 => ?_) (fun c3 => ?_)
    · have h := ite_t c3 h
      refine g_aload_n (pc := 15) (x := ec (xE X) 0) F dX11_turn_15 rfl 0 rfl ?_
      refine g_ldc (pc := 16) F oX11_81 dX11_turn_16 ?_
      obtain ⟨q4, e5, h⟩ := bd_some h
      refine g_vI (pc := 18) (Wf := Wc) (As := [.int (-1000000001 : Int32)]) (rest := []) F (hX11_found e5 (xl X) (xE X)) kX11_found lX11_82 0 rfl (wc_T _ _) rfl rfl rfl ⟨(Nat.le_of_ble_eq_true rfl), (Nat.le_of_ble_eq_true rfl)⟩ (Nat.le_of_ble_eq_true rfl) dX11_turn_18 ?_
      obtain rfl := Option.some.inj h
      exact g_iret (pc := 21) (Wf := Wc) F Rt rfl dX11_turn_21
    · have h := ite_f c3 h
      refine g_iload_n (pc := 8) (x := a2) F dX11_turn_8 rfl 2 rfl ?_
      obtain ⟨r6, e7, h⟩ := bd_some h
      refine g_sI (pc := 9) (Wf := Wc) (As := [.int a2]) (rest := []) F (hX11_isKind (M := M) e7 (xl X) (xE X)) kX11_isKind lX11_126 rfl rfl ⟨(Nat.le_of_ble_eq_true rfl), (Nat.le_of_ble_eq_true rfl)⟩ (Nat.le_of_ble_eq_true rfl) dX11_turn_9 ?_
      refine g_if_ne (pc := 12) (tgt := 22) F dX11_turn_12 (by decide) (fun c8 => ?_) (fun c8 => ?_)
      · have h := ite_f c8 h
        refine g_aload_n (pc := 22) (x := ec (xE X) 0) F dX11_turn_22 rfl 0 rfl ?_
        refine g_get (pc := 23) (v := .ref (ec (xE X) (8 + 0))) F fX11_36 0 (wc_T _ _) rfl dX11_turn_23 ?_
        refine g_get (pc := 26) (v := .ref (ec (xE X) (11 + 0))) F fX11_144 (8 + 0) (wc_S _ _ (by decide)) rfl dX11_turn_26 ?_
        refine g_iload_n (pc := 29) (x := a1) F dX11_turn_29 rfl 1 rfl ?_
        obtain ⟨i9, h⟩ := ck_some h
        refine g_aald (pc := 30) (C := "TowerWarns$Vessel") (b := ec (xE X) (14 + 6 * 0 + a1.toNatClampNeg)) F (11 + 0) 3 (wc_A _ _ (by decide)) rfl i9 rfl dX11_turn_30 ?_
        refine g_astore_n (pc := 31) (lv2 := [(0, .ref (ec (xE X) 0)), (1, .int a1), (2, .int a2), (3, .ref (ec (xE X) (14 + 6 * 0 + a1.toNatClampNeg)))]) F dX11_turn_31 rfl (by rw [hx]; decide) [1, 2, 3, 0] rfl ?_
        refine g_aload_n (pc := 32) (x := ec (xE X) (14 + 6 * 0 + a1.toNatClampNeg)) F dX11_turn_32 rfl 3 rfl ?_
        refine g_get (pc := 33) (v := .ref (ec (xE X) (2 + (M.1 0 (6 + 7 * a1.toNatClampNeg + 0)).toNatClampNeg))) F fX11_164 (14 + 6 * 0 + a1.toNatClampNeg) (wc_V _ _ (by decide) (ok_lt i9)) rfl dX11_turn_33 ?_
        obtain ⟨r10, e11, h⟩ := bd_some h
        refine gd_number (pc := 36) (rest := []) F e11 lX11_168 rfl ⟨(Nat.le_of_ble_eq_true rfl), (Nat.le_of_ble_eq_true rfl)⟩ (Nat.le_of_ble_eq_true rfl) dX11_turn_36 ?_
        refine g_istore (pc := 39) (lv2 := [(0, .ref (ec (xE X) 0)), (1, .int a1), (2, .int a2), (3, .ref (ec (xE X) (14 + 6 * 0 + a1.toNatClampNeg))), (4, .int r10)]) F dX11_turn_39 (by rw [hx]; decide) [1, 2, 3, 4, 0] rfl ?_
        refine g_aload_n (pc := 41) (x := ec (xE X) (14 + 6 * 0 + a1.toNatClampNeg)) F dX11_turn_41 rfl 3 rfl ?_
        refine g_aload_n (pc := 42) (x := ec (xE X) 0) F dX11_turn_42 rfl 0 rfl ?_
        refine g_get (pc := 43) (v := .ref (ec (xE X) 1)) F fX11_27 0 (wc_T _ _) rfl dX11_turn_43 ?_
        refine g_iload_n (pc := 46) (x := a2) F dX11_turn_46 rfl 2 rfl ?_
        obtain ⟨i12, h⟩ := ck_some h
        refine g_aald (pc := 47) (C := "TowerWarns$Ship") (b := ec (xE X) (2 + a2.toNatClampNeg)) F 1 4 (wc_Ks _ _) rfl i12 rfl dX11_turn_47 ?_
        refine g_put (pc := 48) (ws2 := Wc (xE X) (sI M 0 (6 + 7 * a1.toNatClampNeg + 0) a2)) F pX11_164 (14 + 6 * 0 + a1.toNatClampNeg) (wc_V _ _ (by decide) (ok_lt i9)) rfl rfl (Nat.le_of_ble_eq_true rfl) (wcp_V0 _ _ (by decide) (ok_lt i9) _) dX11_turn_48 ?_
        refine g_iload (pc := 51) (x := r10) F dX11_turn_51 4 rfl ?_
        obtain rfl := Option.some.inj h
        exact g_iret (pc := 53) (Wf := Wc) F Rt rfl dX11_turn_53
      · have h := ite_t c8 h
        refine g_aload_n (pc := 15) (x := ec (xE X) 0) F dX11_turn_15 rfl 0 rfl ?_
        refine g_ldc (pc := 16) F oX11_81 dX11_turn_16 ?_
        obtain ⟨q13, e14, h⟩ := bd_some h
        refine g_vI (pc := 18) (Wf := Wc) (As := [.int (-1000000001 : Int32)]) (rest := []) F (hX11_found e14 (xl X) (xE X)) kX11_found lX11_82 0 rfl (wc_T _ _) rfl rfl rfl ⟨(Nat.le_of_ble_eq_true rfl), (Nat.le_of_ble_eq_true rfl)⟩ (Nat.le_of_ble_eq_true rfl) dX11_turn_18 ?_
        obtain rfl := Option.some.inj h
        exact g_iret (pc := 21) (Wf := Wc) F Rt rfl dX11_turn_21) l E
