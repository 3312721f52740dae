set_option maxHeartbeats 4000000 in
set_option maxRecDepth 100000 in
theorem hX12_isWord {M : Mem} {a1 : Int64} {res : Int32} (h : mX12_isWord M a1 = some res) (l : Launch) (E : Ev) : CtI l E (Wm E) yX12_isWord cX12_isWord 3 .boolean 0 0 [.ref (em E 0), .long a1] M res M :=
  ctI_of (Wf := Wm) (av := fun E => [.ref (em E 0), .long a1]) (lv := fun E => [(0, .ref (em E 0)), (1, .long a1)]) (by decide) (fun _ => rfl) (fun _ => (Nat.le_of_ble_eq_true rfl)) (fun X F hx Rt => by
    have F : Fx X cX12_isWord RX12 0 0 := F
    unfold mX12_isWord at h
    refine g_aload_n (pc := 0) (x := em (xE X) 0) F dX12_isWord_0 rfl 0 rfl ?_
    refine g_get (pc := 1) (v := .int (M.1 9 6)) F fX12_183 0 rfl rfl dX12_isWord_1 ?_
    refine g_iconst (pc := 4) F dX12_isWord_4 ic_1 ?_
    refine g_icmp_ne (pc := 5) (tgt := 21) F dX12_isWord_5 (by decide) (fun c1 => ?_) (fun c1 => ?_)
    · have h := ite_f c1 h
      refine g_iconst (pc := 21) F dX12_isWord_21 ic_0 ?_
      obtain rfl := Option.some.inj h
      exact g_iret (pc := 22) (Wf := Wm) F Rt (by decide) dX12_isWord_22
    · have h := ite_t c1 h
      refine g_aload_n (pc := 8) (x := em (xE X) 0) F dX12_isWord_8 rfl 0 rfl ?_
      refine g_get (pc := 9) (v := .long (M.2 2 9)) F fX12_186 0 rfl rfl dX12_isWord_9 ?_
      refine g_lload_n (pc := 12) (x := a1) F dX12_isWord_12 rfl 1 rfl ?_
      refine g_lcmp (pc := 13) F dX12_isWord_13 ?_
      refine g_if_ne (pc := 14) (tgt := 21) F dX12_isWord_14 (by decide) (fun c2 => ?_) (fun c2 => ?_)
      · have h := ite_f c2 h
        refine g_iconst (pc := 21) F dX12_isWord_21 ic_0 ?_
        obtain rfl := Option.some.inj h
        exact g_iret (pc := 22) (Wf := Wm) F Rt (by decide) dX12_isWord_22
      · have h := ite_t c2 h
        refine g_iconst (pc := 17) F dX12_isWord_17 ic_1 ?_
        refine g_goto (pc := 18) (tgt := 22) F dX12_isWord_18 (by decide) ?_
        obtain rfl := Option.some.inj h
        exact g_iret (pc := 22) (Wf := Wm) F Rt (by decide) dX12_isWord_22) l E
set_option maxHeartbeats 4000000 in
set_option maxRecDepth 100000 in
theorem hX12_kindHere {M : Mem} {res : Int32} (h : mX12_kindHere M = some res) (l : Launch) (E : Ev) : CtI l E (Wm E) yX12_kindHere cX12_kindHere 1 .int 1 22 [.ref (em E 0)] M res M :=
  ctI_of (Wf := Wm) (av := fun E => [.ref (em E 0)]) (lv := fun E => [(0, .ref (em E 0))]) (by decide) (fun _ => rfl) (fun _ => (Nat.le_of_ble_eq_true rfl)) (fun X F hx Rt => by
    have F : Fx X cX12_kindHere RX12 1 22 := F
    unfold mX12_kindHere at h
    refine g_aload_n (pc := 0) (x := em (xE X) 0) F dX12_kindHere_0 rfl 0 rfl ?_
    refine g_ldc2 (pc := 1) F oX12_199 dX12_kindHere_1 ?_
    obtain ⟨r1, e2, h⟩ := bd_some h
    refine g_vI (pc := 4) (Wf := Wm) (As := [.long (380068 : Int64)]) (rest := []) F (hX12_isWord e2 (xl X) (xE X)) kX12_isWord lX12_201 0 rfl rfl rfl rfl rfl ⟨(Nat.le_of_ble_eq_true rfl), (Nat.le_of_ble_eq_true rfl)⟩ (Nat.le_of_ble_eq_true rfl) dX12_kindHere_4 ?_
    refine g_if_eq (pc := 7) (tgt := 14) F dX12_kindHere_7 (by decide) (fun c3 => ?_) (fun c3 => ?_)
    · have h := ite_t c3 h
      refine g_aload_n (pc := 14) (x := em (xE X) 0) F dX12_kindHere_14 rfl 0 rfl ?_
      refine g_ldc2 (pc := 15) F oX12_205 dX12_kindHere_15 ?_
      obtain ⟨r4, e5, h⟩ := bd_some h
      refine g_vI (pc := 18) (Wf := Wm) (As := [.long (7650653949 : Int64)]) (rest := []) F (hX12_isWord e5 (xl X) (xE X)) kX12_isWord lX12_201 0 rfl rfl rfl rfl rfl ⟨(Nat.le_of_ble_eq_true rfl), (Nat.le_of_ble_eq_true rfl)⟩ (Nat.le_of_ble_eq_true rfl) dX12_kindHere_18 ?_
      refine g_if_eq (pc := 21) (tgt := 28) F dX12_kindHere_21 (by decide) (fun c6 => ?_) (fun c6 => ?_)
      · have h := ite_t c6 h
        refine g_aload_n (pc := 28) (x := em (xE X) 0) F dX12_kindHere_28 rfl 0 rfl ?_
        refine g_ldc2 (pc := 29) F oX12_207 dX12_kindHere_29 ?_
        obtain ⟨r7, e8, h⟩ := bd_some h
        refine g_vI (pc := 32) (Wf := Wm) (As := [.long (50348 : Int64)]) (rest := []) F (hX12_isWord e8 (xl X) (xE X)) kX12_isWord lX12_201 0 rfl rfl rfl rfl rfl ⟨(Nat.le_of_ble_eq_true rfl), (Nat.le_of_ble_eq_true rfl)⟩ (Nat.le_of_ble_eq_true rfl) dX12_kindHere_32 ?_
        refine g_if_eq (pc := 35) (tgt := 42) F dX12_kindHere_35 (by decide) (fun c9 => ?_) (fun c9 => ?_)
        · have h := ite_t c9 h
          refine g_aload_n (pc := 42) (x := em (xE X) 0) F dX12_kindHere_42 rfl 0 rfl ?_
          refine g_ldc2 (pc := 43) F oX12_209 dX12_kindHere_43 ?_
          obtain ⟨r10, e11, h⟩ := bd_some h
          refine g_vI (pc := 46) (Wf := Wm) (As := [.long (1812878082 : Int64)]) (rest := []) F (hX12_isWord e11 (xl X) (xE X)) kX12_isWord lX12_201 0 rfl rfl rfl rfl rfl ⟨(Nat.le_of_ble_eq_true rfl), (Nat.le_of_ble_eq_true rfl)⟩ (Nat.le_of_ble_eq_true rfl) dX12_kindHere_46 ?_
          refine g_if_eq (pc := 49) (tgt := 56) F dX12_kindHere_49 (by decide) (fun c12 => ?_) (fun c12 => ?_)
          · have h := ite_t c12 h
            refine g_aload_n (pc := 56) (x := em (xE X) 0) F dX12_kindHere_56 rfl 0 rfl ?_
            refine g_ldc2 (pc := 57) F oX12_211 dX12_kindHere_57 ?_
            obtain ⟨r13, e14, h⟩ := bd_some h
            refine g_vI (pc := 60) (Wf := Wm) (As := [.long (256863 : Int64)]) (rest := []) F (hX12_isWord e14 (xl X) (xE X)) kX12_isWord lX12_201 0 rfl rfl rfl rfl rfl ⟨(Nat.le_of_ble_eq_true rfl), (Nat.le_of_ble_eq_true rfl)⟩ (Nat.le_of_ble_eq_true rfl) dX12_kindHere_60 ?_
            refine g_if_eq (pc := 63) (tgt := 70) F dX12_kindHere_63 (by decide) (fun c15 => ?_) (fun c15 => ?_)
            · have h := ite_t c15 h
              refine g_aload_n (pc := 70) (x := em (xE X) 0) F dX12_kindHere_70 rfl 0 rfl ?_
              refine g_ldc2 (pc := 71) F oX12_213 dX12_kindHere_71 ?_
              obtain ⟨r16, e17, h⟩ := bd_some h
              refine g_vI (pc := 74) (Wf := Wm) (As := [.long (5353 : Int64)]) (rest := []) F (hX12_isWord e17 (xl X) (xE X)) kX12_isWord lX12_201 0 rfl rfl rfl rfl rfl ⟨(Nat.le_of_ble_eq_true rfl), (Nat.le_of_ble_eq_true rfl)⟩ (Nat.le_of_ble_eq_true rfl) dX12_kindHere_74 ?_
              refine g_if_eq (pc := 77) (tgt := 84) F dX12_kindHere_77 (by decide) (fun c18 => ?_) (fun c18 => ?_)
              · have h := ite_t c18 h
                refine g_iconst (pc := 84) F dX12_kindHere_84 ic_m1 ?_
                obtain rfl := Option.some.inj h
                exact g_iret (pc := 85) (Wf := Wm) F Rt rfl dX12_kindHere_85
              · have h := ite_f c18 h
                refine g_iconst (pc := 80) F dX12_kindHere_80 ic_5 ?_
                refine g_goto (pc := 81) (tgt := 85) F dX12_kindHere_81 (by decide) ?_
                obtain rfl := Option.some.inj h
                exact g_iret (pc := 85) (Wf := Wm) F Rt rfl dX12_kindHere_85
            · have h := ite_f c15 h
              refine g_iconst (pc := 66) F dX12_kindHere_66 ic_4 ?_
              refine g_goto (pc := 67) (tgt := 85) F dX12_kindHere_67 (by decide) ?_
              obtain rfl := Option.some.inj h
              exact g_iret (pc := 85) (Wf := Wm) F Rt rfl dX12_kindHere_85
          · have h := ite_f c12 h
            refine g_iconst (pc := 52) F dX12_kindHere_52 ic_3 ?_
            refine g_goto (pc := 53) (tgt := 85) F dX12_kindHere_53 (by decide) ?_
            obtain rfl := Option.some.inj h
            exact g_iret (pc := 85) (Wf := Wm) F Rt rfl dX12_kindHere_85
        · have h := ite_f c9 h
          refine g_iconst (pc := 38) F dX12_kindHere_38 ic_2 ?_
          refine g_goto (pc := 39) (tgt := 85) F dX12_kindHere_39 (by decide) ?_
          obtain rfl := Option.some.inj h
          exact g_iret (pc := 85) (Wf := Wm) F Rt rfl dX12_kindHere_85
      · have h := ite_f c6 h
        refine g_iconst (pc := 24) F dX12_kindHere_24 ic_1 ?_
        refine g_goto (pc := 25) (tgt := 85) F dX12_kindHere_25 (by decide) ?_
        obtain rfl := Option.some.inj h
        exact g_iret (pc := 85) (Wf := Wm) F Rt rfl dX12_kindHere_85
    · have h := ite_f c3 h
      refine g_iconst (pc := 10) F dX12_kindHere_10 ic_0 ?_
      refine g_goto (pc := 11) (tgt := 85) F dX12_kindHere_11 (by decide) ?_
      obtain rfl := Option.some.inj h
      exact g_iret (pc := 85) (Wf := Wm) F Rt rfl dX12_kindHere_85) l E
set_option maxHeartbeats 4000000 in
set_option maxRecDepth 100000 in
theorem wX12_wantNumber_b35 {X : Cx} (F : Fx X cX12_wantNumber RX12 3 63) (hx : xn X = 4) {N : Nat} {res : Int32 × Mem} (Rt : RI X Wm .int res.1 res.2) : ∀ (M : Mem) (a3 : Int32) (s1 : Int32), mX12_wantNumber_b35 N M a3 s1 = some res → G X (Wm (xE X) M) 35 [(0, .ref (em (xE X) 0)), (3, .int a3)] [.int s1, .ref (em (xE X) 0)] := by
  intro M a3 s1 h
  unfold mX12_wantNumber_b35 at h
  obtain ⟨i2, h⟩ := ck_some h
  refine g_put (pc := 35) (ws2 := Wm (xE X) (sI M 9 11 s1)) F pX12_215 0 rfl (nb01 i2).1 (nb01 i2).2 (Nat.le_of_ble_eq_true rfl) (wmp_11 _ _ _) dX12_wantNumber_35 ?_
  refine g_aload_n (pc := 38) (x := em (xE X) 0) F dX12_wantNumber_38 rfl 0 rfl ?_
  refine g_get (pc := 39) (v := .int ((sI M 9 11 s1).1 9 11)) F fX12_215 0 rfl rfl dX12_wantNumber_39 ?_
  refine g_if_eq (pc := 42) (tgt := 49) F dX12_wantNumber_42 (by decide) (fun c3 => ?_) (fun c3 => ?_)
  · have h := ite_t c3 h
    refine g_iload_n (pc := 49) (x := a3) F dX12_wantNumber_49 rfl 1 rfl ?_
    obtain rfl := Option.some.inj h
    exact g_iret (pc := 50) (Wf := Wm) F Rt rfl dX12_wantNumber_50
  · have h := ite_f c3 h
    refine g_aload_n (pc := 45) (x := em (xE X) 0) F dX12_wantNumber_45 rfl 0 rfl ?_
    obtain ⟨M4, e5, h⟩ := bd_some h
    refine g_vV (pc := 46) (Wf := Wm) (As := []) (rest := []) F (hX12_advance e5 (xl X) (xE X)) kX12_advance lX12_219 0 rfl rfl rfl rfl rfl ⟨(Nat.le_of_ble_eq_true rfl), (Nat.le_of_ble_eq_true rfl)⟩ (Nat.le_of_ble_eq_true rfl) dX12_wantNumber_46 ?_
    refine g_iload_n (pc := 49) (x := a3) F dX12_wantNumber_49 rfl 1 rfl ?_
    obtain rfl := Option.some.inj h
    exact g_iret (pc := 50) (Wf := Wm) F Rt rfl dX12_wantNumber_50
set_option maxHeartbeats 4000000 in
set_option maxRecDepth 100000 in
theorem wX12_wantNumber_b34 {X : Cx} (F : Fx X cX12_wantNumber RX12 3 63) (hx : xn X = 4) {N : Nat} {res : Int32 × Mem} (Rt : RI X Wm .int res.1 res.2) : ∀ (M : Mem) (a3 : Int32), mX12_wantNumber_b34 N M a3 = some res → G X (Wm (xE X) M) 34 [(0, .ref (em (xE X) 0)), (3, .int a3)] [.ref (em (xE X) 0)] := by
  intro M a3 h
  unfold mX12_wantNumber_b34 at h
  refine g_iconst (pc := 34) F dX12_wantNumber_34 ic_0 ?_
  refine g_sub [0, 1] rfl ?_
  exact wX12_wantNumber_b35 F hx Rt M a3 (0 : Int32) h
set_option maxHeartbeats 4000000 in
set_option maxRecDepth 100000 in
theorem hX12_wantNumber {N : Nat} {M : Mem} {a1 : Int32} {a2 : Int32} {res : Int32 × Mem} (h : mX12_wantNumber N M a1 a2 = some res) (l : Launch) (E : Ev) : CtI l E (Wm E) yX12_wantNumber cX12_wantNumber 4 .int 3 63 [.ref (em E 0), .int a1, .int a2] M res.1 res.2 :=
  ctI_of (Wf := Wm) (av := fun E => [.ref (em E 0), .int a1, .int a2]) (lv := fun E => [(0, .ref (em E 0)), (1, .int a1), (2, .int a2)]) (by decide) (fun _ => rfl) (fun _ => (Nat.le_of_ble_eq_true rfl)) (fun X F hx Rt => by
    have F : Fx X cX12_wantNumber RX12 3 63 := F
    unfold mX12_wantNumber at h
    refine g_aload_n (pc := 0) (x := em (xE X) 0) F dX12_wantNumber_0 rfl 0 rfl ?_
    refine g_get (pc := 1) (v := .int (M.1 9 10)) F fX12_190 0 rfl rfl dX12_wantNumber_1 ?_
    refine g_istore_n (pc := 4) (lv2 := [(0, .ref (em (xE X) 0)), (1, .int a1), (2, .int a2), (3, .int (M.1 9 10))]) F dX12_wantNumber_4 rfl (by rw [hx]; decide) [1, 2, 3, 0] rfl ?_
    refine g_aload_n (pc := 5) (x := em (xE X) 0) F dX12_wantNumber_5 rfl 0 rfl ?_
    refine g_aload_n (pc := 6) (x := em (xE X) 0) F dX12_wantNumber_6 rfl 0 rfl ?_
    refine g_get (pc := 7) (v := .int (M.1 9 11)) F fX12_215 0 rfl rfl dX12_wantNumber_7 ?_
    refine g_if_eq (pc := 10) (tgt := 34) F dX12_wantNumber_10 (by decide) (fun c1 => ?_) (fun c1 => ?_)
    · have h := ite_t c1 h
      refine g_sub [0, 3] rfl ?_
      exact wX12_wantNumber_b34 F hx Rt M (M.1 9 10) h
    · have h := ite_f c1 h
      refine g_aload_n (pc := 13) (x := em (xE X) 0) F dX12_wantNumber_13 rfl 0 rfl ?_
      refine g_get (pc := 14) (v := .int (M.1 9 6)) F fX12_183 0 rfl rfl dX12_wantNumber_14 ?_
      refine g_iconst (pc := 17) F dX12_wantNumber_17 ic_2 ?_
      refine g_icmp_ne (pc := 18) (tgt := 34) F dX12_wantNumber_18 (by decide) (fun c6 => ?_) (fun c6 => ?_)
      · have h := ite_f c6 h
        refine g_sub [0, 3] rfl ?_
        exact wX12_wantNumber_b34 F hx Rt M (M.1 9 10) h
      · have h := ite_t c6 h
        refine g_iload_n (pc := 21) (x := M.1 9 10) F dX12_wantNumber_21 rfl 3 rfl ?_
        refine g_iload_n (pc := 22) (x := a1) F dX12_wantNumber_22 rfl 1 rfl ?_
        refine g_iload_n (pc := 23) (x := a2) F dX12_wantNumber_23 rfl 2 rfl ?_
        obtain ⟨r7, e8, h⟩ := bd_some h
        refine g_sI (pc := 24) (Wf := Wm) (As := [.int (M.1 9 10), .int a1, .int a2]) (rest := [.ref (em (xE X) 0)]) F (hX12_in (M := M) e8 (xl X) (xE X)) kX12_in lX12_45 rfl rfl ⟨(Nat.le_of_ble_eq_true rfl), (Nat.le_of_ble_eq_true rfl)⟩ (Nat.le_of_ble_eq_true rfl) dX12_wantNumber_24 ?_
        refine g_if_eq (pc := 27) (tgt := 34) F dX12_wantNumber_27 (by decide) (fun c9 => ?_) (fun c9 => ?_)
        · have h := ite_t c9 h
          refine g_sub [0, 3] rfl ?_
          exact wX12_wantNumber_b34 F hx Rt M (M.1 9 10) h
        · have h := ite_f c9 h
          refine g_iconst (pc := 30) F dX12_wantNumber_30 ic_1 ?_
          refine g_goto (pc := 31) (tgt := 35) F dX12_wantNumber_31 (by decide) ?_
          refine g_sub [0, 3] rfl ?_
          exact wX12_wantNumber_b35 F hx Rt M (M.1 9 10) (1 : Int32) h) l E
set_option maxHeartbeats 4000000 in
set_option maxRecDepth 100000 in
theorem hX12_mayWant {N : Nat} {M : Mem} {a1 : Int64} {a3 : Int32} {a4 : Int32} {a5 : Int32} {res : Int32 × Mem} (h : mX12_mayWant N M a1 a3 a4 a5 = some res) (l : Launch) (E : Ev) : CtI l E (Wm E) yX12_mayWant cX12_mayWant 6 .int 4 86 [.ref (em E 0), .long a1, .int a3, .int a4, .int a5] M res.1 res.2 :=
  ctI_of (Wf := Wm) (av := fun E => [.ref (em E 0), .long a1, .int a3, .int a4, .int a5]) (lv := fun E => [(0, .ref (em E 0)), (1, .long a1), (3, .int a3), (4, .int a4), (5, .int a5)]) (by decide) (fun _ => rfl) (fun _ => (Nat.le_of_ble_eq_true rfl)) (fun X F hx Rt => by
    have F : Fx X cX12_mayWant RX12 4 86 := F
    unfold mX12_mayWant at h
    refine g_aload_n (pc := 0) (x := em (xE X) 0) F dX12_mayWant_0 rfl 0 rfl ?_
    refine g_get (pc := 1) (v := .int (M.1 9 11)) F fX12_215 0 rfl rfl dX12_mayWant_1 ?_
    refine g_if_eq (pc := 4) (tgt := 15) F dX12_mayWant_4 (by decide) (fun c1 => ?_) (fun c1 => ?_)
    · have h := ite_t c1 h
      refine g_iload (pc := 15) (x := a5) F dX12_mayWant_15 4 rfl ?_
      obtain rfl := Option.some.inj h
      exact g_iret (pc := 17) (Wf := Wm) F Rt rfl dX12_mayWant_17
    · have h := ite_f c1 h
      refine g_aload_n (pc := 7) (x := em (xE X) 0) F dX12_mayWant_7 rfl 0 rfl ?_
      refine g_lload_n (pc := 8) (x := a1) F dX12_mayWant_8 rfl 1 rfl ?_
      obtain ⟨r2, e3, h⟩ := bd_some h
      refine g_vI (pc := 9) (Wf := Wm) (As := [.long a1]) (rest := []) F (hX12_isWord e3 (xl X) (xE X)) kX12_isWord lX12_201 0 rfl rfl rfl rfl rfl ⟨(Nat.le_of_ble_eq_true rfl), (Nat.le_of_ble_eq_true rfl)⟩ (Nat.le_of_ble_eq_true rfl) dX12_mayWant_9 ?_
      refine g_if_ne (pc := 12) (tgt := 18) F dX12_mayWant_12 (by decide) (fun c4 => ?_) (fun c4 => ?_)
      · have h := ite_f c4 h
        refine g_aload_n (pc := 18) (x := em (xE X) 0) F dX12_mayWant_18 rfl 0 rfl ?_
        obtain ⟨M5, e6, h⟩ := bd_some h
        refine g_vV (pc := 19) (Wf := Wm) (As := []) (rest := []) F (hX12_advance e6 (xl X) (xE X)) kX12_advance lX12_219 0 rfl rfl rfl rfl rfl ⟨(Nat.le_of_ble_eq_true rfl), (Nat.le_of_ble_eq_true rfl)⟩ (Nat.le_of_ble_eq_true rfl) dX12_mayWant_19 ?_
        refine g_aload_n (pc := 22) (x := em (xE X) 0) F dX12_mayWant_22 rfl 0 rfl ?_
        refine g_iload_n (pc := 23) (x := a3) F dX12_mayWant_23 rfl 2 rfl ?_
        refine g_iload (pc := 24) (x := a4) F dX12_mayWant_24 3 rfl ?_
        obtain ⟨q7, e8, h⟩ := bd_some h
        refine g_vI (pc := 26) (Wf := Wm) (As := [.int a3, .int a4]) (rest := []) F (hX12_wantNumber e8 (xl X) (xE X)) kX12_wantNumber lX12_222 0 rfl rfl rfl rfl rfl ⟨(Nat.le_of_ble_eq_true rfl), (Nat.le_of_ble_eq_true rfl)⟩ (Nat.le_of_ble_eq_true rfl) dX12_mayWant_26 ?_
        obtain rfl := Option.some.inj h
        exact g_iret (pc := 29) (Wf := Wm) F Rt rfl dX12_mayWant_29
      · have h := ite_t c4 h
        refine g_iload (pc := 15) (x := a5) F dX12_mayWant_15 4 rfl ?_
        obtain rfl := Option.some.inj h
        exact g_iret (pc := 17) (Wf := Wm) F Rt rfl dX12_mayWant_17) l E
set_option maxHeartbeats 4000000 in
set_option maxRecDepth 100000 in
theorem wX12_wantOne_b17 {X : Cx} (F : Fx X cX12_wantOne RX12 5 111) (hx : xn X = 4) {N : Nat} {res : Mem} (Rt : RV X Wm res) : ∀ (M : Mem) (a1 : Int32) (s1 : Int32), mX12_wantOne_b17 N M a1 s1 = some res → G X (Wm (xE X) M) 17 [(0, .ref (em (xE X) 0)), (1, .int a1)] [.int s1, .ref (em (xE X) 0)] := by
  intro M a1 s1 h
  unfold mX12_wantOne_b17 at h
  obtain ⟨i2, h⟩ := ck_some h
  refine g_put (pc := 17) (ws2 := Wm (xE X) (sI M 9 11 s1)) F pX12_215 0 rfl (nb01 i2).1 (nb01 i2).2 (Nat.le_of_ble_eq_true rfl) (wmp_11 _ _ _) dX12_wantOne_17 ?_
  refine g_aload_n (pc := 20) (x := em (xE X) 0) F dX12_wantOne_20 rfl 0 rfl ?_
  refine g_get (pc := 21) (v := .int ((sI M 9 11 s1).1 9 11)) F fX12_215 0 rfl rfl dX12_wantOne_21 ?_
  refine g_if_ne (pc := 24) (tgt := 28) F dX12_wantOne_24 (by decide) (fun c3 => ?_) (fun c3 => ?_)
  · have h := ite_f c3 h
    refine g_aload_n (pc := 28) (x := em (xE X) 0) F dX12_wantOne_28 rfl 0 rfl ?_
    obtain ⟨M4, e5, h⟩ := bd_some h
    refine g_vV (pc := 29) (Wf := Wm) (As := []) (rest := []) F (hX12_advance e5 (xl X) (xE X)) kX12_advance lX12_219 0 rfl rfl rfl rfl rfl ⟨(Nat.le_of_ble_eq_true rfl), (Nat.le_of_ble_eq_true rfl)⟩ (Nat.le_of_ble_eq_true rfl) dX12_wantOne_29 ?_
    refine g_aload_n (pc := 32) (x := em (xE X) 0) F dX12_wantOne_32 rfl 0 rfl ?_
    refine g_iconst (pc := 33) F dX12_wantOne_33 ic_0 ?_
    refine g_bipush (pc := 34) F dX12_wantOne_34 bp_9 ?_
    obtain ⟨q6, e7, h⟩ := bd_some h
    refine g_vI (pc := 36) (Wf := Wm) (As := [.int (0 : Int32), .int (9 : Int32)]) (rest := []) F (hX12_wantNumber e7 (xl X) (xE X)) kX12_wantNumber lX12_222 0 rfl rfl rfl rfl rfl ⟨(Nat.le_of_ble_eq_true rfl), (Nat.le_of_ble_eq_true rfl)⟩ (Nat.le_of_ble_eq_true rfl) dX12_wantOne_36 ?_
    refine g_istore_n (pc := 39) (lv2 := [(0, .ref (em (xE X) 0)), (1, .int a1), (2, .int q6.1)]) F dX12_wantOne_39 rfl (by rw [hx]; decide) [1, 2, 0] rfl ?_
    refine g_aload_n (pc := 40) (x := em (xE X) 0) F dX12_wantOne_40 rfl 0 rfl ?_
    refine g_ldc2 (pc := 41) F oX12_225 dX12_wantOne_41 ?_
    refine g_iconst (pc := 44) F dX12_wantOne_44 ic_0 ?_
    refine g_bipush (pc := 45) F dX12_wantOne_45 bp_19 ?_
    refine g_iconst (pc := 47) F dX12_wantOne_47 ic_0 ?_
    obtain ⟨q8, e9, h⟩ := bd_some h
    refine g_vI (pc := 48) (Wf := Wm) (As := [.long (47 : Int64), .int (0 : Int32), .int (19 : Int32), .int (0 : Int32)]) (rest := []) F (hX12_mayWant e9 (xl X) (xE X)) kX12_mayWant lX12_227 0 rfl rfl rfl rfl rfl ⟨(Nat.le_of_ble_eq_true rfl), (Nat.le_of_ble_eq_true rfl)⟩ (Nat.le_of_ble_eq_true rfl) dX12_wantOne_48 ?_
    refine g_istore_n (pc := 51) (lv2 := [(0, .ref (em (xE X) 0)), (1, .int a1), (2, .int q6.1), (3, .int q8.1)]) F dX12_wantOne_51 rfl (by rw [hx]; decide) [1, 2, 3, 0] rfl ?_
    refine g_aload_n (pc := 52) (x := em (xE X) 0) F dX12_wantOne_52 rfl 0 rfl ?_
    refine g_get (pc := 53) (v := .int (q8.2.1 9 11)) F fX12_215 0 rfl rfl dX12_wantOne_53 ?_
    refine g_if_eq (pc := 56) (tgt := 66) F dX12_wantOne_56 (by decide) (fun c10 => ?_) (fun c10 => ?_)
    · have h := ite_t c10 h
      obtain rfl := Option.some.inj h
      exact g_vret (pc := 66) (Wf := Wm) F Rt dX12_wantOne_66
    · have h := ite_f c10 h
      refine g_aload_n (pc := 59) (x := em (xE X) 0) F dX12_wantOne_59 rfl 0 rfl ?_
      refine g_iload_n (pc := 60) (x := a1) F dX12_wantOne_60 rfl 1 rfl ?_
      refine g_iload_n (pc := 61) (x := q8.1) F dX12_wantOne_61 rfl 3 rfl ?_
      refine g_iload_n (pc := 62) (x := q6.1) F dX12_wantOne_62 rfl 2 rfl ?_
      obtain ⟨M11, e12, h⟩ := bd_some h
      refine g_vV (pc := 63) (Wf := Wm) (As := [.int a1, .int q8.1, .int q6.1]) (rest := []) F (hX12_adds e12 (xl X) (xE X)) kX12_adds lX12_96 0 rfl rfl rfl rfl rfl ⟨(Nat.le_of_ble_eq_true rfl), (Nat.le_of_ble_eq_true rfl)⟩ (Nat.le_of_ble_eq_true rfl) dX12_wantOne_63 ?_
      obtain rfl := Option.some.inj h
      exact g_vret (pc := 66) (Wf := Wm) F Rt dX12_wantOne_66
  · have h := ite_t c3 h
    obtain rfl := Option.some.inj h
    exact g_vret (pc := 27) (Wf := Wm) F Rt dX12_wantOne_27
set_option maxHeartbeats 4000000 in
set_option maxRecDepth 100000 in
theorem hX12_wantOne {N : Nat} {M : Mem} {a1 : Int32} {res : Mem} (h : mX12_wantOne N M a1 = some res) (l : Launch) (E : Ev) : CtV l E (Wm E) yX12_wantOne cX12_wantOne 4 5 111 [.ref (em E 0), .int a1] M res :=
  ctV_of (Wf := Wm) (av := fun E => [.ref (em E 0), .int a1]) (lv := fun E => [(0, .ref (em E 0)), (1, .int a1)]) (by decide) (fun _ => rfl) (fun _ => (Nat.le_of_ble_eq_true rfl)) (fun X F hx Rt => by
    have F : Fx X cX12_wantOne RX12 5 111 := F
    unfold mX12_wantOne at h
    refine g_aload_n (pc := 0) (x := em (xE X) 0) F dX12_wantOne_0 rfl 0 rfl ?_
    refine g_aload_n (pc := 1) (x := em (xE X) 0) F dX12_wantOne_1 rfl 0 rfl ?_
    refine g_get (pc := 2) (v := .ref (em (xE X) 1)) F fX12_7 0 rfl rfl dX12_wantOne_2 ?_
    refine g_iconst (pc := 5) F dX12_wantOne_5 ic_5 ?_
    refine g_iald (pc := 6) (N := 48) (fn := M.1 0) (j := 5) F 1 0 rfl rfl vi_5_48 cl_5 dX12_wantOne_6 ?_
    refine g_bipush (pc := 7) F dX12_wantOne_7 bp_6 ?_
    refine g_icmp_ge (pc := 9) (tgt := 16) F dX12_wantOne_9 (by decide) (fun c1 => ?_) (fun c1 => ?_)
    · have h := ite_t c1 h
      refine g_iconst (pc := 16) F dX12_wantOne_16 ic_0 ?_
      refine g_sub [0, 1] rfl ?_
      exact wX12_wantOne_b17 F hx Rt M a1 (0 : Int32) h
    · have h := ite_f c1 h
      refine g_iconst (pc := 12) F dX12_wantOne_12 ic_1 ?_
      refine g_goto (pc := 13) (tgt := 17) F dX12_wantOne_13 (by decide) ?_
      refine g_sub [0, 1] rfl ?_
      exact wX12_wantOne_b17 F hx Rt M a1 (1 : Int32) h) l E
set_option maxHeartbeats 4000000 in
set_option maxRecDepth 100000 in
theorem wX12_wantTower_b30 {X : Cx} (F : Fx X cX12_wantTower RX12 4 86) (hx : xn X = 3) {N : Nat} {res : Mem} (Rt : RV X Wm res) : ∀ (M : Mem) (a1 : Int32) (s0 : Int32), mX12_wantTower_b30 N M a1 s0 = some res → G X (Wm (xE X) M) 30 [(0, .ref (em (xE X) 0)), (1, .int a1)] [.int s0] := by
  intro M a1 s0 h
  unfold mX12_wantTower_b30 at h
  refine g_istore_n (pc := 30) (lv2 := [(0, .ref (em (xE X) 0)), (1, .int a1), (2, .int s0)]) F dX12_wantTower_30 rfl (by rw [hx]; decide) [1, 2, 0] rfl ?_
  refine g_aload_n (pc := 31) (x := em (xE X) 0) F dX12_wantTower_31 rfl 0 rfl ?_
  refine g_get (pc := 32) (v := .int (M.1 9 11)) F fX12_215 0 rfl rfl dX12_wantTower_32 ?_
  refine g_if_eq (pc := 35) (tgt := 48) F dX12_wantTower_35 (by decide) (fun c6 => ?_) (fun c6 => ?_)
  · have h := ite_t c6 h
    obtain rfl := Option.some.inj h
    exact g_vret (pc := 48) (Wf := Wm) F Rt dX12_wantTower_48
  · have h := ite_f c6 h
    refine g_aload_n (pc := 38) (x := em (xE X) 0) F dX12_wantTower_38 rfl 0 rfl ?_
    refine g_bipush (pc := 39) F dX12_wantTower_39 bp_10 ?_
    refine g_iload_n (pc := 41) (x := a1) F dX12_wantTower_41 rfl 1 rfl ?_
    refine g_imul (pc := 42) F dX12_wantTower_42 ?_
    refine g_iload_n (pc := 43) (x := s0) F dX12_wantTower_43 rfl 2 rfl ?_
    refine g_iadd (pc := 44) F dX12_wantTower_44 ?_
    obtain ⟨M7, e8, h⟩ := bd_some h
    refine g_vV (pc := 45) (Wf := Wm) (As := [.int (((10 : Int32) * a1) + s0)]) (rest := []) F (hX12_stands e8 (xl X) (xE X)) kX12_stands lX12_61 0 rfl rfl rfl rfl rfl ⟨(Nat.le_of_ble_eq_true rfl), (Nat.le_of_ble_eq_true rfl)⟩ (Nat.le_of_ble_eq_true rfl) dX12_wantTower_45 ?_
    obtain rfl := Option.some.inj h
    exact g_vret (pc := 48) (Wf := Wm) F Rt dX12_wantTower_48
set_option maxHeartbeats 4000000 in
set_option maxRecDepth 100000 in
theorem hX12_wantTower {N : Nat} {M : Mem} {res : Mem} (h : mX12_wantTower N M = some res) (l : Launch) (E : Ev) : CtV l E (Wm E) yX12_wantTower cX12_wantTower 3 4 86 [.ref (em E 0)] M res :=
  ctV_of (Wf := Wm) (av := fun E => [.ref (em E 0)]) (lv := fun E => [(0, .ref (em E 0))]) (by decide) (fun _ => rfl) (fun _ => (Nat.le_of_ble_eq_true rfl)) (fun X F hx Rt => by
    have F : Fx X cX12_wantTower RX12 4 86 := F
    unfold mX12_wantTower at h
    refine g_aload_n (pc := 0) (x := em (xE X) 0) F dX12_wantTower_0 rfl 0 rfl ?_
    obtain ⟨M1, e2, h⟩ := bd_some h
    refine g_vV (pc := 1) (Wf := Wm) (As := []) (rest := []) F (hX12_advance e2 (xl X) (xE X)) kX12_advance lX12_219 0 rfl rfl rfl rfl rfl ⟨(Nat.le_of_ble_eq_true rfl), (Nat.le_of_ble_eq_true rfl)⟩ (Nat.le_of_ble_eq_true rfl) dX12_wantTower_1 ?_
    refine g_aload_n (pc := 4) (x := em (xE X) 0) F dX12_wantTower_4 rfl 0 rfl ?_
    refine g_iconst (pc := 5) F dX12_wantTower_5 ic_0 ?_
    refine g_bipush (pc := 6) F dX12_wantTower_6 bp_19 ?_
    obtain ⟨q3, e4, h⟩ := bd_some h
    refine g_vI (pc := 8) (Wf := Wm) (As := [.int (0 : Int32), .int (19 : Int32)]) (rest := []) F (hX12_wantNumber e4 (xl X) (xE X)) kX12_wantNumber lX12_222 0 rfl rfl rfl rfl rfl ⟨(Nat.le_of_ble_eq_true rfl), (Nat.le_of_ble_eq_true rfl)⟩ (Nat.le_of_ble_eq_true rfl) dX12_wantTower_8 ?_
    refine g_istore_n (pc := 11) (lv2 := [(0, .ref (em (xE X) 0)), (1, .int q3.1)]) F dX12_wantTower_11 rfl (by rw [hx]; decide) [1, 0] rfl ?_
    refine g_aload_n (pc := 12) (x := em (xE X) 0) F dX12_wantTower_12 rfl 0 rfl ?_
    refine g_get (pc := 13) (v := .int (q3.2.1 9 11)) F fX12_215 0 rfl rfl dX12_wantTower_13 ?_
    refine g_if_eq (pc := 16) (tgt := 29) F dX12_wantTower_16 (by decide) (fun c5 => ?_) (fun c5 => ?_)
    · have h := ite_t c5 h
      refine g_iconst (pc := 29) F dX12_wantTower_29 ic_0 ?_
      refine g_sub [0, 1] rfl ?_
      exact wX12_wantTower_b30 F hx Rt q3.2 q3.1 (0 : Int32) h
    · have h := ite_f c5 h
      refine g_aload_n (pc := 19) (x := em (xE X) 0) F dX12_wantTower_19 rfl 0 rfl ?_
      refine g_iconst (pc := 20) F dX12_wantTower_20 ic_0 ?_
      refine g_bipush (pc := 21) F dX12_wantTower_21 bp_9 ?_
      obtain ⟨q9, e10, h⟩ := bd_some h
      refine g_vI (pc := 23) (Wf := Wm) (As := [.int (0 : Int32), .int (9 : Int32)]) (rest := []) F (hX12_wantNumber e10 (xl X) (xE X)) kX12_wantNumber lX12_222 0 rfl rfl rfl rfl rfl ⟨(Nat.le_of_ble_eq_true rfl), (Nat.le_of_ble_eq_true rfl)⟩ (Nat.le_of_ble_eq_true rfl) dX12_wantTower_23 ?_
      refine g_goto (pc := 26) (tgt := 30) F dX12_wantTower_26 (by decide) ?_
      refine g_sub [0, 1] rfl ?_
      exact wX12_wantTower_b30 F hx Rt q9.2 q3.1 q9.1 h) l E
set_option maxHeartbeats 4000000 in
set_option maxRecDepth 100000 in
theorem hX12_wantLamp {N : Nat} {M : Mem} {a1 : Int32} {res : Mem} (h : mX12_wantLamp N M a1 = some res) (l : Launch) (E : Ev) : CtV l E (Wm E) yX12_wantLamp cX12_wantLamp 3 4 86 [.ref (em E 0), .int a1] M res :=
  ctV_of (Wf := Wm) (av := fun E => [.ref (em E 0), .int a1]) (lv := fun E => [(0, .ref (em E 0)), (1, .int a1)]) (by decide) (fun _ => rfl) (fun _ => (Nat.le_of_ble_eq_true rfl)) (fun X F hx Rt => by
    have F : Fx X cX12_wantLamp RX12 4 86 := F
    unfold mX12_wantLamp at h
    refine g_aload_n (pc := 0) (x := em (xE X) 0) F dX12_wantLamp_0 rfl 0 rfl ?_
    obtain ⟨M1, e2, h⟩ := bd_some h
    refine g_vV (pc := 1) (Wf := Wm) (As := []) (rest := []) F (hX12_advance e2 (xl X) (xE X)) kX12_advance lX12_219 0 rfl rfl rfl rfl rfl ⟨(Nat.le_of_ble_eq_true rfl), (Nat.le_of_ble_eq_true rfl)⟩ (Nat.le_of_ble_eq_true rfl) dX12_wantLamp_1 ?_
    refine g_aload_n (pc := 4) (x := em (xE X) 0) F dX12_wantLamp_4 rfl 0 rfl ?_
    refine g_iconst (pc := 5) F dX12_wantLamp_5 ic_0 ?_
    refine g_bipush (pc := 6) F dX12_wantLamp_6 bp_11 ?_
    obtain ⟨q3, e4, h⟩ := bd_some h
    refine g_vI (pc := 8) (Wf := Wm) (As := [.int (0 : Int32), .int (11 : Int32)]) (rest := []) F (hX12_wantNumber e4 (xl X) (xE X)) kX12_wantNumber lX12_222 0 rfl rfl rfl rfl rfl ⟨(Nat.le_of_ble_eq_true rfl), (Nat.le_of_ble_eq_true rfl)⟩ (Nat.le_of_ble_eq_true rfl) dX12_wantLamp_8 ?_
    refine g_istore_n (pc := 11) (lv2 := [(0, .ref (em (xE X) 0)), (1, .int a1), (2, .int q3.1)]) F dX12_wantLamp_11 rfl (by rw [hx]; decide) [1, 2, 0] rfl ?_
    refine g_aload_n (pc := 12) (x := em (xE X) 0) F dX12_wantLamp_12 rfl 0 rfl ?_
    refine g_get (pc := 13) (v := .int (q3.2.1 9 11)) F fX12_215 0 rfl rfl dX12_wantLamp_13 ?_
    refine g_if_eq (pc := 16) (tgt := 41) F dX12_wantLamp_16 (by decide) (fun c5 => ?_) (fun c5 => ?_)
    · have h := ite_t c5 h
      obtain rfl := Option.some.inj h
      exact g_vret (pc := 41) (Wf := Wm) F Rt dX12_wantLamp_41
    · have h := ite_f c5 h
      refine g_aload_n (pc := 19) (x := em (xE X) 0) F dX12_wantLamp_19 rfl 0 rfl ?_
      refine g_get (pc := 20) (v := .ref (em (xE X) 1)) F fX12_7 0 rfl rfl dX12_wantLamp_20 ?_
      refine g_iconst (pc := 23) F dX12_wantLamp_23 ic_3 ?_
      refine g_aload_n (pc := 24) (x := em (xE X) 0) F dX12_wantLamp_24 rfl 0 rfl ?_
      refine g_get (pc := 25) (v := .ref (em (xE X) 1)) F fX12_7 0 rfl rfl dX12_wantLamp_25 ?_
      refine g_iconst (pc := 28) F dX12_wantLamp_28 ic_3 ?_
      refine g_iald (pc := 29) (N := 48) (fn := q3.2.1 0) (j := 3) F 1 0 rfl rfl vi_3_48 cl_3 dX12_wantLamp_29 ?_
      refine g_iconst (pc := 30) F dX12_wantLamp_30 ic_1 ?_
      refine g_iload_n (pc := 31) (x := q3.1) F dX12_wantLamp_31 rfl 2 rfl ?_
      refine g_ishl (pc := 32) F dX12_wantLamp_32 ?_
      refine g_iconst (pc := 33) F dX12_wantLamp_33 ic_m1 ?_
      refine g_ixor (pc := 34) F dX12_wantLamp_34 ?_
      refine g_iand (pc := 35) F dX12_wantLamp_35 ?_
      refine g_iload_n (pc := 36) (x := a1) F dX12_wantLamp_36 rfl 1 rfl ?_
      refine g_iload_n (pc := 37) (x := q3.1) F dX12_wantLamp_37 rfl 2 rfl ?_
      refine g_ishl (pc := 38) F dX12_wantLamp_38 ?_
      refine g_ior (pc := 39) F dX12_wantLamp_39 ?_
      refine g_iast (pc := 40) (N := 48) (fn := q3.2.1 0) (j := 3) (ws2 := Wm (xE X) (sI q3.2 0 3 (((q3.2.1 0 3) &&& (((1 : Int32) <<< (q3.1 &&& 31)) ^^^ (-1 : Int32))) ||| (a1 <<< (q3.1 &&& 31))))) F 1 0 rfl rfl vi_3_48 cl_3 (wma_0 _ _ _ _) dX12_wantLamp_40 ?_
      obtain rfl := Option.some.inj h
      exact g_vret (pc := 41) (Wf := Wm) F Rt dX12_wantLamp_41) l E
set_option maxHeartbeats 4000000 in
set_option maxRecDepth 100000 in
theorem hX12_wantItem {N : Nat} {M : Mem} {res : Mem} (h : mX12_wantItem N M = some res) (l : Launch) (E : Ev) : CtV l E (Wm E) yX12_wantItem cX12_wantItem 2 6 134 [.ref (em E 0)] M res :=
  ctV_of (Wf := Wm) (av := fun E => [.ref (em E 0)]) (lv := fun E => [(0, .ref (em E 0))]) (by decide) (fun _ => rfl) (fun _ => (Nat.le_of_ble_eq_true rfl)) (fun X F hx Rt => by
    have F : Fx X cX12_wantItem RX12 6 134 := F
    unfold mX12_wantItem at h
    refine g_aload_n (pc := 0) (x := em (xE X) 0) F dX12_wantItem_0 rfl 0 rfl ?_
    obtain ⟨r1, e2, h⟩ := bd_some h
    refine g_vI (pc := 1) (Wf := Wm) (As := []) (rest := []) F (hX12_kindHere e2 (xl X) (xE X)) kX12_kindHere lX12_231 0 rfl rfl rfl rfl rfl ⟨(Nat.le_of_ble_eq_true rfl), (Nat.le_of_ble_eq_true rfl)⟩ (Nat.le_of_ble_eq_true rfl) dX12_wantItem_1 ?_
    refine g_if_lt (pc := 4) (tgt := 18) F dX12_wantItem_4 (by decide) (fun c3 => ?_) (fun c3 => ?_)
    · have h := ite_t c3 h
      refine g_aload_n (pc := 18) (x := em (xE X) 0) F dX12_wantItem_18 rfl 0 rfl ?_
      refine g_ldc2 (pc := 19) F oX12_237 dX12_wantItem_19 ?_
      obtain ⟨r4, e5, h⟩ := bd_some h
      refine g_vI (pc := 22) (Wf := Wm) (As := [.long (10940985 : Int64)]) (rest := []) F (hX12_isWord e5 (xl X) (xE X)) kX12_isWord lX12_201 0 rfl rfl rfl rfl rfl ⟨(Nat.le_of_ble_eq_true rfl), (Nat.le_of_ble_eq_true rfl)⟩ (Nat.le_of_ble_eq_true rfl) dX12_wantItem_22 ?_
      refine g_if_eq (pc := 25) (tgt := 35) F dX12_wantItem_25 (by decide) (fun c6 => ?_) (fun c6 => ?_)
      · have h := ite_t c6 h
        refine g_aload_n (pc := 35) (x := em (xE X) 0) F dX12_wantItem_35 rfl 0 rfl ?_
        refine g_ldc2 (pc := 36) F oX12_242 dX12_wantItem_36 ?_
        obtain ⟨r7, e8, h⟩ := bd_some h
        refine g_vI (pc := 39) (Wf := Wm) (As := [.long (1489744 : Int64)]) (rest := []) F (hX12_isWord e8 (xl X) (xE X)) kX12_isWord lX12_201 0 rfl rfl rfl rfl rfl ⟨(Nat.le_of_ble_eq_true rfl), (Nat.le_of_ble_eq_true rfl)⟩ (Nat.le_of_ble_eq_true rfl) dX12_wantItem_39 ?_
        refine g_if_eq (pc := 42) (tgt := 53) F dX12_wantItem_42 (by decide) (fun c9 => ?_) (fun c9 => ?_)
        · have h := ite_t c9 h
          refine g_aload_n (pc := 53) (x := em (xE X) 0) F dX12_wantItem_53 rfl 0 rfl ?_
          refine g_ldc2 (pc := 54) F oX12_247 dX12_wantItem_54 ?_
          obtain ⟨r10, e11, h⟩ := bd_some h
          refine g_vI (pc := 57) (Wf := Wm) (As := [.long (79958 : Int64)]) (rest := []) F (hX12_isWord e11 (xl X) (xE X)) kX12_isWord lX12_201 0 rfl rfl rfl rfl rfl ⟨(Nat.le_of_ble_eq_true rfl), (Nat.le_of_ble_eq_true rfl)⟩ (Nat.le_of_ble_eq_true rfl) dX12_wantItem_57 ?_
          refine g_if_eq (pc := 60) (tgt := 71) F dX12_wantItem_60 (by decide) (fun c12 => ?_) (fun c12 => ?_)
          · have h := ite_t c12 h
            refine g_aload_n (pc := 71) (x := em (xE X) 0) F dX12_wantItem_71 rfl 0 rfl ?_
            refine g_ldc2 (pc := 72) F oX12_249 dX12_wantItem_72 ?_
            obtain ⟨r13, e14, h⟩ := bd_some h
            refine g_vI (pc := 75) (Wf := Wm) (As := [.long (9665171 : Int64)]) (rest := []) F (hX12_isWord e14 (xl X) (xE X)) kX12_isWord lX12_201 0 rfl rfl rfl rfl rfl ⟨(Nat.le_of_ble_eq_true rfl), (Nat.le_of_ble_eq_true rfl)⟩ (Nat.le_of_ble_eq_true rfl) dX12_wantItem_75 ?_
            refine g_if_eq (pc := 78) (tgt := 119) F dX12_wantItem_78 (by decide) (fun c15 => ?_) (fun c15 => ?_)
            · have h := ite_t c15 h
              refine g_aload_n (pc := 119) (x := em (xE X) 0) F dX12_wantItem_119 rfl 0 rfl ?_
              refine g_iconst (pc := 120) F dX12_wantItem_120 ic_0 ?_
              refine g_put (pc := 121) (ws2 := Wm (xE X) (sI M 9 11 (0 : Int32))) F pX12_215 0 rfl (by decide) (by decide) (Nat.le_of_ble_eq_true rfl) (wmp_11 _ _ _) dX12_wantItem_121 ?_
              obtain rfl := Option.some.inj h
              exact g_vret (pc := 124) (Wf := Wm) F Rt dX12_wantItem_124
            · have h := ite_f c15 h
              refine g_aload_n (pc := 81) (x := em (xE X) 0) F dX12_wantItem_81 rfl 0 rfl ?_
              obtain ⟨M16, e17, h⟩ := bd_some h
              refine g_vV (pc := 82) (Wf := Wm) (As := []) (rest := []) F (hX12_advance e17 (xl X) (xE X)) kX12_advance lX12_219 0 rfl rfl rfl rfl rfl ⟨(Nat.le_of_ble_eq_true rfl), (Nat.le_of_ble_eq_true rfl)⟩ (Nat.le_of_ble_eq_true rfl) dX12_wantItem_82 ?_
              refine g_aload_n (pc := 85) (x := em (xE X) 0) F dX12_wantItem_85 rfl 0 rfl ?_
              refine g_iconst (pc := 86) F dX12_wantItem_86 ic_0 ?_
              refine g_bipush (pc := 87) F dX12_wantItem_87 bp_9 ?_
              obtain ⟨q18, e19, h⟩ := bd_some h
              refine g_vI (pc := 89) (Wf := Wm) (As := [.int (0 : Int32), .int (9 : Int32)]) (rest := []) F (hX12_wantNumber e19 (xl X) (xE X)) kX12_wantNumber lX12_222 0 rfl rfl rfl rfl rfl ⟨(Nat.le_of_ble_eq_true rfl), (Nat.le_of_ble_eq_true rfl)⟩ (Nat.le_of_ble_eq_true rfl) dX12_wantItem_89 ?_
              refine g_istore_n (pc := 92) (lv2 := [(0, .ref (em (xE X) 0)), (1, .int q18.1)]) F dX12_wantItem_92 rfl (by rw [hx]; decide) [1, 0] rfl ?_
              refine g_aload_n (pc := 93) (x := em (xE X) 0) F dX12_wantItem_93 rfl 0 rfl ?_
              refine g_get (pc := 94) (v := .ref (em (xE X) 1)) F fX12_7 0 rfl rfl dX12_wantItem_94 ?_
              refine g_iconst (pc := 97) F dX12_wantItem_97 ic_4 ?_
              refine g_aload_n (pc := 98) (x := em (xE X) 0) F dX12_wantItem_98 rfl 0 rfl ?_
              refine g_get (pc := 99) (v := .int (q18.2.1 9 11)) F fX12_215 0 rfl rfl dX12_wantItem_99 ?_
              refine g_if_eq (pc := 102) (tgt := 109) F dX12_wantItem_102 (by decide) (fun c20 => ?_) (fun c20 => ?_)
              · have h := ite_t c20 h
                refine g_aload_n (pc := 109) (x := em (xE X) 0) F dX12_wantItem_109 rfl 0 rfl ?_
                refine g_get (pc := 110) (v := .ref (em (xE X) 1)) F fX12_7 0 rfl rfl dX12_wantItem_110 ?_
                refine g_iconst (pc := 113) F dX12_wantItem_113 ic_4 ?_
                refine g_iald (pc := 114) (N := 48) (fn := q18.2.1 0) (j := 4) F 1 0 rfl rfl vi_4_48 cl_4 dX12_wantItem_114 ?_
                refine g_iast (pc := 115) (N := 48) (fn := q18.2.1 0) (j := 4) (ws2 := Wm (xE X) (sI q18.2 0 4 (q18.2.1 0 4))) F 1 0 rfl rfl vi_4_48 cl_4 (wma_0 _ _ _ _) dX12_wantItem_115 ?_
                refine g_goto (pc := 116) (tgt := 124) F dX12_wantItem_116 (by decide) ?_
                obtain rfl := Option.some.inj h
                exact g_vret (pc := 124) (Wf := Wm) F Rt dX12_wantItem_124
              · have h := ite_f c20 h
                refine g_iload_n (pc := 105) (x := q18.1) F dX12_wantItem_105 rfl 1 rfl ?_
                refine g_goto (pc := 106) (tgt := 115) F dX12_wantItem_106 (by decide) ?_
                refine g_iast (pc := 115) (N := 48) (fn := q18.2.1 0) (j := 4) (ws2 := Wm (xE X) (sI q18.2 0 4 q18.1)) F 1 0 rfl rfl vi_4_48 cl_4 (wma_0 _ _ _ _) dX12_wantItem_115 ?_
                refine g_goto (pc := 116) (tgt := 124) F dX12_wantItem_116 (by decide) ?_
                obtain rfl := Option.some.inj h
                exact g_vret (pc := 124) (Wf := Wm) F Rt dX12_wantItem_124
          · have h := ite_f c12 h
            refine g_aload_n (pc := 63) (x := em (xE X) 0) F dX12_wantItem_63 rfl 0 rfl ?_
            refine g_iconst (pc := 64) F dX12_wantItem_64 ic_0 ?_
            obtain ⟨M21, e22, h⟩ := bd_some h
            refine g_vV (pc := 65) (Wf := Wm) (As := [.int (0 : Int32)]) (rest := []) F (hX12_wantLamp e22 (xl X) (xE X)) kX12_wantLamp lX12_244 0 rfl rfl rfl rfl rfl ⟨(Nat.le_of_ble_eq_true rfl), (Nat.le_of_ble_eq_true rfl)⟩ (Nat.le_of_ble_eq_true rfl) dX12_wantItem_65 ?_
            refine g_goto (pc := 68) (tgt := 124) F dX12_wantItem_68 (by decide) ?_
            obtain rfl := Option.some.inj h
            exact g_vret (pc := 124) (Wf := Wm) F Rt dX12_wantItem_124
        · have h := ite_f c9 h
          refine g_aload_n (pc := 45) (x := em (xE X) 0) F dX12_wantItem_45 rfl 0 rfl ?_
          refine g_iconst (pc := 46) F dX12_wantItem_46 ic_1 ?_
          obtain ⟨M23, e24, h⟩ := bd_some h
          refine g_vV (pc := 47) (Wf := Wm) (As := [.int (1 : Int32)]) (rest := []) F (hX12_wantLamp e24 (xl X) (xE X)) kX12_wantLamp lX12_244 0 rfl rfl rfl rfl rfl ⟨(Nat.le_of_ble_eq_true rfl), (Nat.le_of_ble_eq_true rfl)⟩ (Nat.le_of_ble_eq_true rfl) dX12_wantItem_47 ?_
          refine g_goto (pc := 50) (tgt := 124) F dX12_wantItem_50 (by decide) ?_
          obtain rfl := Option.some.inj h
          exact g_vret (pc := 124) (Wf := Wm) F Rt dX12_wantItem_124
      · have h := ite_f c6 h
        refine g_aload_n (pc := 28) (x := em (xE X) 0) F dX12_wantItem_28 rfl 0 rfl ?_
        obtain ⟨M25, e26, h⟩ := bd_some h
        refine g_vV (pc := 29) (Wf := Wm) (As := []) (rest := []) F (hX12_wantTower e26 (xl X) (xE X)) kX12_wantTower lX12_239 0 rfl rfl rfl rfl rfl ⟨(Nat.le_of_ble_eq_true rfl), (Nat.le_of_ble_eq_true rfl)⟩ (Nat.le_of_ble_eq_true rfl) dX12_wantItem_29 ?_
        refine g_goto (pc := 32) (tgt := 124) F dX12_wantItem_32 (by decide) ?_
        obtain rfl := Option.some.inj h
        exact g_vret (pc := 124) (Wf := Wm) F Rt dX12_wantItem_124
    · have h := ite_f c3 h
      refine g_aload_n (pc := 7) (x := em (xE X) 0) F dX12_wantItem_7 rfl 0 rfl ?_
      refine g_aload_n (pc := 8) (x := em (xE X) 0) F dX12_wantItem_8 rfl 0 rfl ?_
      obtain ⟨r27, e28, h⟩ := bd_some h
      refine g_vI (pc := 9) (Wf := Wm) (As := []) (rest := [.ref (em (xE X) 0)]) F (hX12_kindHere e28 (xl X) (xE X)) kX12_kindHere lX12_231 0 rfl rfl rfl rfl rfl ⟨(Nat.le_of_ble_eq_true rfl), (Nat.le_of_ble_eq_true rfl)⟩ (Nat.le_of_ble_eq_true rfl) dX12_wantItem_9 ?_
      obtain ⟨M29, e30, h⟩ := bd_some h
      refine g_vV (pc := 12) (Wf := Wm) (As := [.int r27]) (rest := []) F (hX12_wantOne e30 (xl X) (xE X)) kX12_wantOne lX12_234 0 rfl rfl rfl rfl rfl ⟨(Nat.le_of_ble_eq_true rfl), (Nat.le_of_ble_eq_true rfl)⟩ (Nat.le_of_ble_eq_true rfl) dX12_wantItem_12 ?_
      refine g_goto (pc := 15) (tgt := 124) F dX12_wantItem_15 (by decide) ?_
      obtain rfl := Option.some.inj h
      exact g_vret (pc := 124) (Wf := Wm) F Rt dX12_wantItem_124) l E
set_option maxHeartbeats 4000000 in
set_option maxRecDepth 100000 in
theorem wX12_sea_b91 {X : Cx} (F : Fx X cX12_sea RX12 7 155) (hx : xn X = 3) {N : Nat} {res : Int32 × Mem} (Rt : RI X Wm .int res.1 res.2) : ∀ (M : Mem) (a1 : Int32) (s1 : Int32), mX12_sea_b91 N M a1 s1 = some res → G X (Wm (xE X) M) 91 [(0, .ref (em (xE X) 0)), (1, .int a1)] [.int s1, .ref (em (xE X) 0)] := by
  intro M a1 s1 h
  unfold mX12_sea_b91 at h
  obtain ⟨i5, h⟩ := ck_some h
  refine g_put (pc := 91) (ws2 := Wm (xE X) (sI M 9 11 s1)) F pX12_215 0 rfl (nb01 i5).1 (nb01 i5).2 (Nat.le_of_ble_eq_true rfl) (wmp_11 _ _ _) dX12_sea_91 ?_
  refine g_aload_n (pc := 94) (x := em (xE X) 0) F dX12_sea_94 rfl 0 rfl ?_
  refine g_iconst (pc := 95) F dX12_sea_95 ic_0 ?_
  refine g_put (pc := 96) (ws2 := Wm (xE X) (sI (sI M 9 11 s1) 9 5 (0 : Int32))) F pX12_164 0 rfl rfl rfl (Nat.le_of_ble_eq_true rfl) (wmp_5 _ _ _) dX12_sea_96 ?_
  refine g_aload_n (pc := 99) (x := em (xE X) 0) F dX12_sea_99 rfl 0 rfl ?_
  refine g_get (pc := 100) (v := .int ((sI (sI M 9 11 s1) 9 5 (0 : Int32)).1 9 11)) F fX12_215 0 rfl rfl dX12_sea_100 ?_
  refine g_if_ne (pc := 103) (tgt := 122) F dX12_sea_103 (by decide) (fun c6 => ?_) (fun c6 => ?_)
  · have h := ite_f c6 h
    refine g_iload_n (pc := 122) (x := a1) F dX12_sea_122 rfl 1 rfl ?_
    obtain rfl := Option.some.inj h
    exact g_iret (pc := 123) (Wf := Wm) F Rt rfl dX12_sea_123
  · have h := ite_t c6 h
    refine g_aload_n (pc := 106) (x := em (xE X) 0) F dX12_sea_106 rfl 0 rfl ?_
    refine g_iconst (pc := 107) F dX12_sea_107 ic_0 ?_
    refine g_aload_n (pc := 108) (x := em (xE X) 0) F dX12_sea_108 rfl 0 rfl ?_
    refine g_get (pc := 109) (v := .ref (em (xE X) 11)) F fX12_41 0 rfl rfl dX12_sea_109 ?_
    obtain ⟨M7, e8, h⟩ := bd_some h
    refine g_vV (pc := 112) (Wf := Wm) (As := [.int (0 : Int32), .ref (em (xE X) 11)]) (rest := []) F (hX12_moveAll_8 e8 (xl X) (xE X)) kX12_moveAll lX12_143 0 rfl rfl rfl rfl rfl ⟨(Nat.le_of_ble_eq_true rfl), (Nat.le_of_ble_eq_true rfl)⟩ (Nat.le_of_ble_eq_true rfl) dX12_sea_112 ?_
    refine g_iconst (pc := 115) F dX12_sea_115 ic_m1 ?_
    refine g_aload_n (pc := 116) (x := em (xE X) 0) F dX12_sea_116 rfl 0 rfl ?_
    refine g_get (pc := 117) (v := .int (M7.1 9 7)) F fX12_171 0 rfl rfl dX12_sea_117 ?_
    refine g_isub (pc := 120) F dX12_sea_120 ?_
    obtain rfl := Option.some.inj h
    exact g_iret (pc := 121) (Wf := Wm) F Rt rfl dX12_sea_121
set_option maxHeartbeats 4000000 in
set_option maxRecDepth 100000 in
theorem wX12_sea_b90 {X : Cx} (F : Fx X cX12_sea RX12 7 155) (hx : xn X = 3) {N : Nat} {res : Int32 × Mem} (Rt : RI X Wm .int res.1 res.2) : ∀ (M : Mem) (a1 : Int32), mX12_sea_b90 N M a1 = some res → G X (Wm (xE X) M) 90 [(0, .ref (em (xE X) 0)), (1, .int a1)] [.ref (em (xE X) 0)] := by
  intro M a1 h
  unfold mX12_sea_b90 at h
  refine g_iconst (pc := 90) F dX12_sea_90 ic_0 ?_
  refine g_sub [0, 1] rfl ?_
  exact wX12_sea_b91 F hx Rt M a1 (0 : Int32) h
set_option maxHeartbeats 4000000 in
set_option maxRecDepth 100000 in
theorem wX12_sea_b23 {X : Cx} (F : Fx X cX12_sea RX12 7 155) (hx : xn X = 3) {N : Nat} {res : Int32 × Mem} (Rt : RI X Wm .int res.1 res.2) : ∀ (n : Nat) (M : Mem) (a1 : Int32) (a2 : Int32), mX12_sea_b23 N n M a1 a2 = some res → G X (Wm (xE X) M) 23 [(0, .ref (em (xE X) 0)), (1, .int a1), (2, .int a2)] [] := by
  intro n
  induction n with
  | zero =>
    intro M a1 a2 h
    have h : none = some res := h
    cases h
  | succ n ih =>
    intro M a1 a2 h
    rw [mX12_sea_b23] at h
    refine g_iload_n (pc := 23) (x := a2) F dX12_sea_23 rfl 2 rfl ?_
    refine g_if_eq (pc := 24) (tgt := 71) F dX12_sea_24 (by decide) (fun c3 => ?_) (fun c3 => ?_)
    · have h := ite_t c3 h
      refine g_aload_n (pc := 71) (x := em (xE X) 0) F dX12_sea_71 rfl 0 rfl ?_
      refine g_aload_n (pc := 72) (x := em (xE X) 0) F dX12_sea_72 rfl 0 rfl ?_
      refine g_get (pc := 73) (v := .int (M.1 9 11)) F fX12_215 0 rfl rfl dX12_sea_73 ?_
      refine g_if_eq (pc := 76) (tgt := 90) F dX12_sea_76 (by decide) (fun c4 => ?_) (fun c4 => ?_)
      · have h := ite_t c4 h
        refine g_sub [0, 1] rfl ?_
        exact wX12_sea_b90 F hx Rt M a1 h
      · have h := ite_f c4 h
        refine g_aload_n (pc := 79) (x := em (xE X) 0) F dX12_sea_79 rfl 0 rfl ?_
        refine g_get (pc := 80) (v := .int (M.1 9 6)) F fX12_183 0 rfl rfl dX12_sea_80 ?_
        refine g_if_ne (pc := 83) (tgt := 90) F dX12_sea_83 (by decide) (fun c9 => ?_) (fun c9 => ?_)
        · have h := ite_f c9 h
          refine g_sub [0, 1] rfl ?_
          exact wX12_sea_b90 F hx Rt M a1 h
        · have h := ite_t c9 h
          refine g_iconst (pc := 86) F dX12_sea_86 ic_1 ?_
          refine g_goto (pc := 87) (tgt := 91) F dX12_sea_87 (by decide) ?_
          refine g_sub [0, 1] rfl ?_
          exact wX12_sea_b91 F hx Rt M a1 (1 : Int32) h
    · have h := ite_f c3 h
      refine g_aload_n (pc := 27) (x := em (xE X) 0) F dX12_sea_27 rfl 0 rfl ?_
      obtain ⟨M10, e11, h⟩ := bd_some h
      refine g_vV (pc := 28) (Wf := Wm) (As := []) (rest := []) F (hX12_advance e11 (xl X) (xE X)) kX12_advance lX12_219 0 rfl rfl rfl rfl rfl ⟨(Nat.le_of_ble_eq_true rfl), (Nat.le_of_ble_eq_true rfl)⟩ (Nat.le_of_ble_eq_true rfl) dX12_sea_28 ?_
      refine g_aload_n (pc := 31) (x := em (xE X) 0) F dX12_sea_31 rfl 0 rfl ?_
      obtain ⟨M12, e13, h⟩ := bd_some h
      refine g_vV (pc := 32) (Wf := Wm) (As := []) (rest := []) F (hX12_wantItem e13 (xl X) (xE X)) kX12_wantItem lX12_251 0 rfl rfl rfl rfl rfl ⟨(Nat.le_of_ble_eq_true rfl), (Nat.le_of_ble_eq_true rfl)⟩ (Nat.le_of_ble_eq_true rfl) dX12_sea_32 ?_
      refine g_iinc (pc := 35) (lv2 := [(0, .ref (em (xE X) 0)), (1, .int (a1 + (1 : Int32))), (2, .int a2)]) F dX12_sea_35 1 rfl (ii_1 _) (by rw [hx]; decide) [1, 0, 2] rfl ?_
      refine g_aload_n (pc := 38) (x := em (xE X) 0) F dX12_sea_38 rfl 0 rfl ?_
      refine g_get (pc := 39) (v := .int (M12.1 9 11)) F fX12_215 0 rfl rfl dX12_sea_39 ?_
      refine g_if_eq (pc := 42) (tgt := 66) F dX12_sea_42 (by decide) (fun c14 => ?_) (fun c14 => ?_)
      · have h := ite_t c14 h
        refine g_iconst (pc := 66) F dX12_sea_66 ic_0 ?_
        refine g_istore_n (pc := 67) (lv2 := [(0, .ref (em (xE X) 0)), (1, .int (a1 + (1 : Int32))), (2, .int (0 : Int32))]) F dX12_sea_67 rfl (by rw [hx]; decide) [1, 2, 0] rfl ?_
        refine g_goto (pc := 68) (tgt := 23) F dX12_sea_68 (by decide) ?_
        refine g_sub [0, 1, 2] rfl ?_
        exact ih M12 (a1 + (1 : Int32)) (0 : Int32) h
      · have h := ite_f c14 h
        refine g_aload_n (pc := 45) (x := em (xE X) 0) F dX12_sea_45 rfl 0 rfl ?_
        refine g_get (pc := 46) (v := .int (M12.1 9 6)) F fX12_183 0 rfl rfl dX12_sea_46 ?_
        refine g_iconst (pc := 49) F dX12_sea_49 ic_3 ?_
        refine g_icmp_ne (pc := 50) (tgt := 66) F dX12_sea_50 (by decide) (fun c15 => ?_) (fun c15 => ?_)
        · have h := ite_f c15 h
          refine g_iconst (pc := 66) F dX12_sea_66 ic_0 ?_
          refine g_istore_n (pc := 67) (lv2 := [(0, .ref (em (xE X) 0)), (1, .int (a1 + (1 : Int32))), (2, .int (0 : Int32))]) F dX12_sea_67 rfl (by rw [hx]; decide) [1, 2, 0] rfl ?_
          refine g_goto (pc := 68) (tgt := 23) F dX12_sea_68 (by decide) ?_
          refine g_sub [0, 1, 2] rfl ?_
          exact ih M12 (a1 + (1 : Int32)) (0 : Int32) h
        · have h := ite_t c15 h
          refine g_aload_n (pc := 53) (x := em (xE X) 0) F dX12_sea_53 rfl 0 rfl ?_
          refine g_get (pc := 54) (v := .int (M12.1 9 10)) F fX12_190 0 rfl rfl dX12_sea_54 ?_
          refine g_bipush (pc := 57) F dX12_sea_57 bp_59 ?_
          refine g_icmp_ne (pc := 59) (tgt := 66) F dX12_sea_59 (by decide) (fun c16 => ?_) (fun c16 => ?_)
          · have h := ite_f c16 h
            refine g_iconst (pc := 66) F dX12_sea_66 ic_0 ?_
            refine g_istore_n (pc := 67) (lv2 := [(0, .ref (em (xE X) 0)), (1, .int (a1 + (1 : Int32))), (2, .int (0 : Int32))]) F dX12_sea_67 rfl (by rw [hx]; decide) [1, 2, 0] rfl ?_
            refine g_goto (pc := 68) (tgt := 23) F dX12_sea_68 (by decide) ?_
            refine g_sub [0, 1, 2] rfl ?_
            exact ih M12 (a1 + (1 : Int32)) (0 : Int32) h
          · have h := ite_t c16 h
            refine g_iconst (pc := 62) F dX12_sea_62 ic_1 ?_
            refine g_goto (pc := 63) (tgt := 67) F dX12_sea_63 (by decide) ?_
            refine g_istore_n (pc := 67) (lv2 := [(0, .ref (em (xE X) 0)), (1, .int (a1 + (1 : Int32))), (2, .int (1 : Int32))]) F dX12_sea_67 rfl (by rw [hx]; decide) [1, 2, 0] rfl ?_
            refine g_goto (pc := 68) (tgt := 23) F dX12_sea_68 (by decide) ?_
            refine g_sub [0, 1, 2] rfl ?_
            exact ih M12 (a1 + (1 : Int32)) (1 : Int32) h
set_option maxHeartbeats 4000000 in
set_option maxRecDepth 100000 in
theorem hX12_sea {N : Nat} {M : Mem} {res : Int32 × Mem} (h : mX12_sea N M = some res) (l : Launch) (E : Ev) : CtI l E (Wm E) yX12_sea cX12_sea 3 .int 7 155 [.ref (em E 0)] M res.1 res.2 :=
  ctI_of (Wf := Wm) (av := fun E => [.ref (em E 0)]) (lv := fun E => [(0, .ref (em E 0))]) (by decide) (fun _ => rfl) (fun _ => (Nat.le_of_ble_eq_true rfl)) (fun X F hx Rt => by
    have F : Fx X cX12_sea RX12 7 155 := F
    unfold mX12_sea at h
    refine g_aload_n (pc := 0) (x := em (xE X) 0) F dX12_sea_0 rfl 0 rfl ?_
    refine g_iconst (pc := 1) F dX12_sea_1 ic_1 ?_
    refine g_aload_n (pc := 2) (x := em (xE X) 0) F dX12_sea_2 rfl 0 rfl ?_
    refine g_get (pc := 3) (v := .ref (em (xE X) 11)) F fX12_41 0 rfl rfl dX12_sea_3 ?_
    obtain ⟨M1, e2, h⟩ := bd_some h
    refine g_vV (pc := 6) (Wf := Wm) (As := [.int (1 : Int32), .ref (em (xE X) 11)]) (rest := []) F (hX12_moveAll_8 e2 (xl X) (xE X)) kX12_moveAll lX12_143 0 rfl rfl rfl rfl rfl ⟨(Nat.le_of_ble_eq_true rfl), (Nat.le_of_ble_eq_true rfl)⟩ (Nat.le_of_ble_eq_true rfl) dX12_sea_6 ?_
    refine g_aload_n (pc := 9) (x := em (xE X) 0) F dX12_sea_9 rfl 0 rfl ?_
    refine g_iconst (pc := 10) F dX12_sea_10 ic_0 ?_
    refine g_put (pc := 11) (ws2 := Wm (xE X) (sI M1 9 8 (0 : Int32))) F pX12_168 0 rfl rfl rfl (Nat.le_of_ble_eq_true rfl) (wmp_8 _ _ _) dX12_sea_11 ?_
    refine g_aload_n (pc := 14) (x := em (xE X) 0) F dX12_sea_14 rfl 0 rfl ?_
    refine g_iconst (pc := 15) F dX12_sea_15 ic_1 ?_
    refine g_put (pc := 16) (ws2 := Wm (xE X) (sI (sI M1 9 8 (0 : Int32)) 9 11 (1 : Int32))) F pX12_215 0 rfl (by decide) (by decide) (Nat.le_of_ble_eq_true rfl) (wmp_11 _ _ _) dX12_sea_16 ?_
    refine g_iconst (pc := 19) F dX12_sea_19 ic_0 ?_
    refine g_istore_n (pc := 20) (lv2 := [(0, .ref (em (xE X) 0)), (1, .int (0 : Int32))]) F dX12_sea_20 rfl (by rw [hx]; decide) [1, 0] rfl ?_
    refine g_iconst (pc := 21) F dX12_sea_21 ic_1 ?_
    refine g_istore_n (pc := 22) (lv2 := [(0, .ref (em (xE X) 0)), (1, .int (0 : Int32)), (2, .int (1 : Int32))]) F dX12_sea_22 rfl (by rw [hx]; decide) [1, 2, 0] rfl ?_
    refine g_sub [0, 1, 2] rfl ?_
    exact wX12_sea_b23 F hx Rt N (sI (sI M1 9 8 (0 : Int32)) 9 11 (1 : Int32)) (0 : Int32) (1 : Int32) h) l E
set_option maxHeartbeats 4000000 in
set_option maxRecDepth 100000 in
theorem hX12_isSheet {M : Mem} {a0 : Int32} {res : Int32} (h : mX12_isSheet a0 = some res) (l : Launch) (E : Ev) : CtI l E (Wm E) yX12_isSheet cX12_isSheet 1 .boolean 1 22 [.int a0] M res M :=
  ctI_of (Wf := Wm) (av := fun E => [.int a0]) (lv := fun E => [(0, .int a0)]) (by decide) (fun _ => rfl) (fun _ => (Nat.le_of_ble_eq_true rfl)) (fun X F hx Rt => by
    have F : Fx X cX12_isSheet RX12 1 22 := F
    unfold mX12_isSheet at h
    refine g_iload_n (pc := 0) (x := a0) F dX12_isSheet_0 rfl 0 rfl ?_
    refine g_iconst (pc := 1) F dX12_isSheet_1 ic_0 ?_
    refine g_iconst (pc := 2) F dX12_isSheet_2 ic_3 ?_
    obtain ⟨r1, e2, h⟩ := bd_some h
    refine g_sI (pc := 3) (Wf := Wm) (As := [.int a0, .int (0 : Int32), .int (3 : Int32)]) (rest := []) F (hX12_in (M := M) e2 (xl X) (xE X)) kX12_in lX12_45 rfl rfl ⟨(Nat.le_of_ble_eq_true rfl), (Nat.le_of_ble_eq_true rfl)⟩ (Nat.le_of_ble_eq_true rfl) dX12_isSheet_3 ?_
    obtain ⟨b3, h⟩ := ck_some h
    obtain rfl := Option.some.inj h
    exact g_iret (pc := 6) (Wf := Wm) F Rt (nb01 b3).1 dX12_isSheet_6) l E
set_option maxHeartbeats 4000000 in
set_option maxRecDepth 100000 in
theorem hX12_narrow {M : Mem} {a0 : Int32} {a1 : Int64} {res : Int64} (h : mX12_narrow a0 a1 = some res) (l : Launch) (E : Ev) : CtL l E (Wm E) yX12_narrow cX12_narrow 3 0 0 [.int a0, .long a1] M res M :=
  ctL_of (Wf := Wm) (av := fun E => [.int a0, .long a1]) (lv := fun E => [(0, .int a0), (1, .long a1)]) (by decide) (fun _ => rfl) (fun _ => (Nat.le_of_ble_eq_true rfl)) (fun X F hx Rt => by
    have F : Fx X cX12_narrow RX12 0 0 := F
    unfold mX12_narrow at h
    refine g_iload_n (pc := 0) (x := a0) F dX12_narrow_0 rfl 0 rfl ?_
    refine g_bipush (pc := 1) F dX12_narrow_1 bp_8 ?_
    refine g_icmp_ne (pc := 3) (tgt := 16) F dX12_narrow_3 (by decide) (fun c1 => ?_) (fun c1 => ?_)
    · have h := ite_f c1 h
      refine g_iload_n (pc := 16) (x := a0) F dX12_narrow_16 rfl 0 rfl ?_
      refine g_bipush (pc := 17) F dX12_narrow_17 bp_16 ?_
      refine g_icmp_ne (pc := 19) (tgt := 32) F dX12_narrow_19 (by decide) (fun c2 => ?_) (fun c2 => ?_)
      · have h := ite_f c2 h
        refine g_lload_n (pc := 32) (x := a1) F dX12_narrow_32 rfl 1 rfl ?_
        obtain rfl := Option.some.inj h
        exact g_lret (pc := 33) (Wf := Wm) F Rt dX12_narrow_33
      · have h := ite_t c2 h
        refine g_lload_n (pc := 22) (x := a1) F dX12_narrow_22 rfl 1 rfl ?_
        refine g_bipush (pc := 23) F dX12_narrow_23 bp_48 ?_
        refine g_lshl (pc := 25) F dX12_narrow_25 ?_
        refine g_bipush (pc := 26) F dX12_narrow_26 bp_48 ?_
        refine g_lshr (pc := 28) F dX12_narrow_28 ?_
        refine g_goto (pc := 29) (tgt := 33) F dX12_narrow_29 (by decide) ?_
        obtain rfl := Option.some.inj h
        exact g_lret (pc := 33) (Wf := Wm) F Rt dX12_narrow_33
    · have h := ite_t c1 h
      refine g_lload_n (pc := 6) (x := a1) F dX12_narrow_6 rfl 1 rfl ?_
      refine g_bipush (pc := 7) F dX12_narrow_7 bp_56 ?_
      refine g_lshl (pc := 9) F dX12_narrow_9 ?_
      refine g_bipush (pc := 10) F dX12_narrow_10 bp_56 ?_
      refine g_lshr (pc := 12) F dX12_narrow_12 ?_
      refine g_goto (pc := 13) (tgt := 33) F dX12_narrow_13 (by decide) ?_
      obtain rfl := Option.some.inj h
      exact g_lret (pc := 33) (Wf := Wm) F Rt dX12_narrow_33) l E
set_option maxHeartbeats 4000000 in
set_option maxRecDepth 100000 in
theorem wX12_sheet_b86 {X : Cx} (F : Fx X cX12_sheet RX12 2 42) (hx : xn X = 5) {N : Nat} {res : Int32 × Mem} (Rt : RI X Wm .int res.1 res.2) : ∀ (n : Nat) (M : Mem) (a1 : Int32) (a4 : Int32), mX12_sheet_b86 N n M a1 a4 = some res → G X (Wm (xE X) M) 86 [(0, .ref (em (xE X) 0)), (1, .int a1), (4, .int a4)] [] := by
  intro n
  induction n with
  | zero =>
    intro M a1 a4 h
    have h : none = some res := h
    cases h
  | succ n ih =>
    intro M a1 a4 h
    rw [mX12_sheet_b86] at h
    refine g_iload (pc := 86) (x := a4) F dX12_sheet_86 2 rfl ?_
    refine g_bipush (pc := 88) F dX12_sheet_88 bp_40 ?_
    refine g_icmp_ge (pc := 90) (tgt := 112) F dX12_sheet_90 (by decide) (fun c12 => ?_) (fun c12 => ?_)
    · have h := ite_t c12 h
      refine g_aload_n (pc := 112) (x := em (xE X) 0) F dX12_sheet_112 rfl 0 rfl ?_
      refine g_get (pc := 113) (v := .ref (em (xE X) 7)) F fX12_28 0 rfl rfl dX12_sheet_113 ?_
      refine g_iload_n (pc := 116) (x := a1) F dX12_sheet_116 rfl 1 rfl ?_
      obtain ⟨i13, h⟩ := ck_some h
      refine g_iald (pc := 117) (N := 4) (fn := M.1 6) (j := a1.toNatClampNeg) F 7 0 rfl rfl i13 rfl dX12_sheet_117 ?_
      obtain rfl := Option.some.inj h
      exact g_iret (pc := 118) (Wf := Wm) F Rt rfl dX12_sheet_118
    · have h := ite_f c12 h
      refine g_aload_n (pc := 93) (x := em (xE X) 0) F dX12_sheet_93 rfl 0 rfl ?_
      refine g_get (pc := 94) (v := .ref (em (xE X) 8)) F fX12_31 0 rfl rfl dX12_sheet_94 ?_
      refine g_bipush (pc := 97) F dX12_sheet_97 bp_40 ?_
      refine g_iload_n (pc := 99) (x := a1) F dX12_sheet_99 rfl 1 rfl ?_
      refine g_imul (pc := 100) F dX12_sheet_100 ?_
      refine g_iload (pc := 101) (x := a4) F dX12_sheet_101 2 rfl ?_
      refine g_iadd (pc := 103) F dX12_sheet_103 ?_
      refine g_lconst (pc := 104) (v := (0 : Int64)) F dX12_sheet_104 (by decide) ?_
      obtain ⟨i14, h⟩ := ck_some h
      refine g_last (pc := 105) (N := 160) (fn := M.2 0) (j := (((40 : Int32) * a1) + a4).toNatClampNeg) (ws2 := Wm (xE X) (sJ M 0 ((((40 : Int32) * a1) + a4).toNatClampNeg) (0 : Int64))) F 8 1 rfl rfl i14 rfl (wml_0 _ _ _ _) dX12_sheet_105 ?_
      refine g_iinc (pc := 106) (lv2 := [(0, .ref (em (xE X) 0)), (1, .int a1), (4, .int (a4 + (1 : Int32)))]) F dX12_sheet_106 2 rfl (ii_1 _) (by rw [hx]; decide) [1, 2, 0] rfl ?_
      refine g_goto (pc := 109) (tgt := 86) F dX12_sheet_109 (by decide) ?_
      refine g_sub [0, 1, 2] rfl ?_
      exact ih (sJ M 0 ((((40 : Int32) * a1) + a4).toNatClampNeg) (0 : Int64)) a1 (a4 + (1 : Int32)) h
set_option maxHeartbeats 4000000 in
set_option maxRecDepth 100000 in
theorem wX12_sheet_b36 {X : Cx} (F : Fx X cX12_sheet RX12 2 42) (hx : xn X = 5) {N : Nat} {res : Int32 × Mem} (Rt : RI X Wm .int res.1 res.2) : ∀ (M : Mem) (a1 : Int32) (a2 : Int32) (a3 : Int32), mX12_sheet_b36 N M a1 a2 a3 = some res → G X (Wm (xE X) M) 36 [(0, .ref (em (xE X) 0)), (1, .int a1), (2, .int a2), (3, .int a3)] [] := by
  intro M a1 a2 a3 h
  unfold mX12_sheet_b36 at h
  refine g_iload_n (pc := 36) (x := a3) F dX12_sheet_36 rfl 3 rfl ?_
  refine g_if_ge (pc := 37) (tgt := 48) F dX12_sheet_37 (by decide) (fun c7 => ?_) (fun c7 => ?_)
  · have h := ite_t c7 h
    refine g_iload_n (pc := 48) (x := a3) F dX12_sheet_48 rfl 3 rfl ?_
    refine g_bipush (pc := 49) F dX12_sheet_49 bp_40 ?_
    refine g_icmp_le (pc := 51) (tgt := 61) F dX12_sheet_51 (by decide) (fun c8 => ?_) (fun c8 => ?_)
    · have h := ite_t c8 h
      refine g_aload_n (pc := 61) (x := em (xE X) 0) F dX12_sheet_61 rfl 0 rfl ?_
      refine g_get (pc := 62) (v := .ref (em (xE X) 6)) F fX12_25 0 rfl rfl dX12_sheet_62 ?_
      refine g_iload_n (pc := 65) (x := a1) F dX12_sheet_65 rfl 1 rfl ?_
      refine g_iload_n (pc := 66) (x := a2) F dX12_sheet_66 rfl 2 rfl ?_
      obtain ⟨i9, h⟩ := ck_some h
      refine g_iast (pc := 67) (N := 4) (fn := M.1 5) (j := a1.toNatClampNeg) (ws2 := Wm (xE X) (sI M 5 a1.toNatClampNeg a2)) F 6 0 rfl rfl i9 rfl (wma_5 _ _ _ _) dX12_sheet_67 ?_
      refine g_aload_n (pc := 68) (x := em (xE X) 0) F dX12_sheet_68 rfl 0 rfl ?_
      refine g_get (pc := 69) (v := .ref (em (xE X) 7)) F fX12_28 0 rfl rfl dX12_sheet_69 ?_
      refine g_iload_n (pc := 72) (x := a1) F dX12_sheet_72 rfl 1 rfl ?_
      refine g_iload_n (pc := 73) (x := a2) F dX12_sheet_73 rfl 2 rfl ?_
      refine g_if_ne (pc := 74) (tgt := 81) F dX12_sheet_74 (by decide) (fun c10 => ?_) (fun c10 => ?_)
      · have h := ite_f c10 h
        refine g_iload_n (pc := 81) (x := a3) F dX12_sheet_81 rfl 3 rfl ?_
        obtain ⟨i11, h⟩ := ck_some h
        refine g_iast (pc := 82) (N := 4) (fn := (sI M 5 a1.toNatClampNeg a2).1 6) (j := a1.toNatClampNeg) (ws2 := Wm (xE X) (sI (sI M 5 a1.toNatClampNeg a2) 6 a1.toNatClampNeg a3)) F 7 0 rfl rfl i11 rfl (wma_6 _ _ _ _) dX12_sheet_82 ?_
        refine g_iconst (pc := 83) F dX12_sheet_83 ic_0 ?_
        refine g_istore (pc := 84) (lv2 := [(0, .ref (em (xE X) 0)), (1, .int a1), (2, .int a2), (3, .int a3), (4, .int (0 : Int32))]) F dX12_sheet_84 (by rw [hx]; decide) [1, 2, 3, 4, 0] rfl ?_
        refine g_sub [0, 1, 4] rfl ?_
        exact wX12_sheet_b86 F hx Rt N (sI (sI M 5 a1.toNatClampNeg a2) 6 a1.toNatClampNeg a3) a1 (0 : Int32) h
      · have h := ite_t c10 h
        refine g_iconst (pc := 77) F dX12_sheet_77 ic_0 ?_
        refine g_goto (pc := 78) (tgt := 82) F dX12_sheet_78 (by decide) ?_
        obtain ⟨i15, h⟩ := ck_some h
        refine g_iast (pc := 82) (N := 4) (fn := (sI M 5 a1.toNatClampNeg a2).1 6) (j := a1.toNatClampNeg) (ws2 := Wm (xE X) (sI (sI M 5 a1.toNatClampNeg a2) 6 a1.toNatClampNeg (0 : Int32))) F 7 0 rfl rfl i15 rfl (wma_6 _ _ _ _) dX12_sheet_82 ?_
        refine g_iconst (pc := 83) F dX12_sheet_83 ic_0 ?_
        refine g_istore (pc := 84) (lv2 := [(0, .ref (em (xE X) 0)), (1, .int a1), (2, .int a2), (3, .int a3), (4, .int (0 : Int32))]) F dX12_sheet_84 (by rw [hx]; decide) [1, 2, 3, 4, 0] rfl ?_
        refine g_sub [0, 1, 4] rfl ?_
        exact wX12_sheet_b86 F hx Rt N (sI (sI M 5 a1.toNatClampNeg a2) 6 a1.toNatClampNeg (0 : Int32)) a1 (0 : Int32) h
    · have h := ite_f c8 h
      refine g_aload_n (pc := 54) (x := em (xE X) 0) F dX12_sheet_54 rfl 0 rfl ?_
      refine g_ldc (pc := 55) F oX12_44 dX12_sheet_55 ?_
      obtain ⟨q16, e17, h⟩ := bd_some h
      refine g_vI (pc := 57) (Wf := Wm) (As := [.int (-1000000001 : Int32)]) (rest := []) F (hX12_finds e17 (xl X) (xE X)) kX12_finds lX12_53 0 rfl rfl rfl rfl rfl ⟨(Nat.le_of_ble_eq_true rfl), (Nat.le_of_ble_eq_true rfl)⟩ (Nat.le_of_ble_eq_true rfl) dX12_sheet_57 ?_
      obtain rfl := Option.some.inj h
      exact g_iret (pc := 60) (Wf := Wm) F Rt rfl dX12_sheet_60
  · have h := ite_f c7 h
    refine g_aload_n (pc := 40) (x := em (xE X) 0) F dX12_sheet_40 rfl 0 rfl ?_
    refine g_ldcw (pc := 41) F oX12_257 dX12_sheet_41 ?_
    obtain ⟨q18, e19, h⟩ := bd_some h
    refine g_vI (pc := 44) (Wf := Wm) (As := [.int (-1000000007 : Int32)]) (rest := []) F (hX12_finds e19 (xl X) (xE X)) kX12_finds lX12_53 0 rfl rfl rfl rfl rfl ⟨(Nat.le_of_ble_eq_true rfl), (Nat.le_of_ble_eq_true rfl)⟩ (Nat.le_of_ble_eq_true rfl) dX12_sheet_44 ?_
    obtain rfl := Option.some.inj h
    exact g_iret (pc := 47) (Wf := Wm) F Rt rfl dX12_sheet_47
set_option maxHeartbeats 4000000 in
set_option maxRecDepth 100000 in
theorem hX12_sheet {N : Nat} {M : Mem} {a1 : Int32} {a2 : Int32} {a3 : Int32} {res : Int32 × Mem} (h : mX12_sheet N M a1 a2 a3 = some res) (l : Launch) (E : Ev) : CtI l E (Wm E) yX12_sheet cX12_sheet 5 .int 2 42 [.ref (em E 0), .int a1, .int a2, .int a3] M res.1 res.2 :=
  ctI_of (Wf := Wm) (av := fun E => [.ref (em E 0), .int a1, .int a2, .int a3]) (lv := fun E => [(0, .ref (em E 0)), (1, .int a1), (2, .int a2), (3, .int a3)]) (by decide) (fun _ => rfl) (fun _ => (Nat.le_of_ble_eq_true rfl)) (fun X F hx Rt => by
    have F : Fx X cX12_sheet RX12 2 42 := F
    unfold mX12_sheet at h
    refine g_iload_n (pc := 0) (x := a1) F dX12_sheet_0 rfl 1 rfl ?_
    obtain ⟨r1, e2, h⟩ := bd_some h
    refine g_sI (pc := 1) (Wf := Wm) (As := [.int a1]) (rest := []) F (hX12_isSheet (M := M) e2 (xl X) (xE X)) kX12_isSheet lX12_254 rfl rfl ⟨(Nat.le_of_ble_eq_true rfl), (Nat.le_of_ble_eq_true rfl)⟩ (Nat.le_of_ble_eq_true rfl) dX12_sheet_1 ?_
    refine g_if_eq (pc := 4) (tgt := 29) F dX12_sheet_4 (by decide) (fun c3 => ?_) (fun c3 => ?_)
    · have h := ite_t c3 h
      refine g_aload_n (pc := 29) (x := em (xE X) 0) F dX12_sheet_29 rfl 0 rfl ?_
      refine g_ldc (pc := 30) F oX12_44 dX12_sheet_30 ?_
      obtain ⟨q4, e5, h⟩ := bd_some h
      refine g_vI (pc := 32) (Wf := Wm) (As := [.int (-1000000001 : Int32)]) (rest := []) F (hX12_finds e5 (xl X) (xE X)) kX12_finds lX12_53 0 rfl rfl rfl rfl rfl ⟨(Nat.le_of_ble_eq_true rfl), (Nat.le_of_ble_eq_true rfl)⟩ (Nat.le_of_ble_eq_true rfl) dX12_sheet_32 ?_
      obtain rfl := Option.some.inj h
      exact g_iret (pc := 35) (Wf := Wm) F Rt rfl dX12_sheet_35
    · have h := ite_f c3 h
      refine g_iload_n (pc := 7) (x := a2) F dX12_sheet_7 rfl 2 rfl ?_
      refine g_if_eq (pc := 8) (tgt := 36) F dX12_sheet_8 (by decide) (fun c6 => ?_) (fun c6 => ?_)
      · have h := ite_t c6 h
        refine g_sub [0, 1, 2, 3] rfl ?_
        exact wX12_sheet_b36 F hx Rt M a1 a2 a3 h
      · have h := ite_f c6 h
        refine g_iload_n (pc := 11) (x := a2) F dX12_sheet_11 rfl 2 rfl ?_
        refine g_bipush (pc := 12) F dX12_sheet_12 bp_8 ?_
        refine g_icmp_eq (pc := 14) (tgt := 36) F dX12_sheet_14 (by decide) (fun c20 => ?_) (fun c20 => ?_)
        · have h := ite_t c20 h
          refine g_sub [0, 1, 2, 3] rfl ?_
          exact wX12_sheet_b36 F hx Rt M a1 a2 a3 h
        · have h := ite_f c20 h
          refine g_iload_n (pc := 17) (x := a2) F dX12_sheet_17 rfl 2 rfl ?_
          refine g_bipush (pc := 18) F dX12_sheet_18 bp_16 ?_
          refine g_icmp_eq (pc := 20) (tgt := 36) F dX12_sheet_20 (by decide) (fun c21 => ?_) (fun c21 => ?_)
          · have h := ite_t c21 h
            refine g_sub [0, 1, 2, 3] rfl ?_
            exact wX12_sheet_b36 F hx Rt M a1 a2 a3 h
          · have h := ite_f c21 h
            refine g_iload_n (pc := 23) (x := a2) F dX12_sheet_23 rfl 2 rfl ?_
            refine g_bipush (pc := 24) F dX12_sheet_24 bp_64 ?_
            refine g_icmp_eq (pc := 26) (tgt := 36) F dX12_sheet_26 (by decide) (fun c22 => ?_) (fun c22 => ?_)
            · have h := ite_t c22 h
              refine g_sub [0, 1, 2, 3] rfl ?_
              exact wX12_sheet_b36 F hx Rt M a1 a2 a3 h
            · have h := ite_f c22 h
              refine g_aload_n (pc := 29) (x := em (xE X) 0) F dX12_sheet_29 rfl 0 rfl ?_
              refine g_ldc (pc := 30) F oX12_44 dX12_sheet_30 ?_
              obtain ⟨q23, e24, h⟩ := bd_some h
              refine g_vI (pc := 32) (Wf := Wm) (As := [.int (-1000000001 : Int32)]) (rest := []) F (hX12_finds e24 (xl X) (xE X)) kX12_finds lX12_53 0 rfl rfl rfl rfl rfl ⟨(Nat.le_of_ble_eq_true rfl), (Nat.le_of_ble_eq_true rfl)⟩ (Nat.le_of_ble_eq_true rfl) dX12_sheet_32 ?_
              obtain rfl := Option.some.inj h
              exact g_iret (pc := 35) (Wf := Wm) F Rt rfl dX12_sheet_35) l E
set_option maxHeartbeats 4000000 in
set_option maxRecDepth 100000 in
theorem hX12_write {M : Mem} {a1 : Int32} {a2 : Int32} {a3 : Int64} {res : Int64 × Mem} (h : mX12_write M a1 a2 a3 = some res) (l : Launch) (E : Ev) : CtL l E (Wm E) yX12_write cX12_write 7 2 42 [.ref (em E 0), .int a1, .int a2, .long a3] M res.1 res.2 :=
  ctL_of (Wf := Wm) (av := fun E => [.ref (em E 0), .int a1, .int a2, .long a3]) (lv := fun E => [(0, .ref (em E 0)), (1, .int a1), (2, .int a2), (3, .long a3)]) (by decide) (fun _ => rfl) (fun _ => (Nat.le_of_ble_eq_true rfl)) (fun X F hx Rt => by
    have F : Fx X cX12_write RX12 2 42 := F
    unfold mX12_write at h
    refine g_iload_n (pc := 0) (x := a1) F dX12_write_0 rfl 1 rfl ?_
    obtain ⟨r1, e2, h⟩ := bd_some h
    refine g_sI (pc := 1) (Wf := Wm) (As := [.int a1]) (rest := []) F (hX12_isSheet (M := M) e2 (xl X) (xE X)) kX12_isSheet lX12_254 rfl rfl ⟨(Nat.le_of_ble_eq_true rfl), (Nat.le_of_ble_eq_true rfl)⟩ (Nat.le_of_ble_eq_true rfl) dX12_write_1 ?_
    refine g_if_ne (pc := 4) (tgt := 15) F dX12_write_4 (by decide) (fun c3 => ?_) (fun c3 => ?_)
    · have h := ite_f c3 h
      refine g_aload_n (pc := 15) (x := em (xE X) 0) F dX12_write_15 rfl 0 rfl ?_
      refine g_get (pc := 16) (v := .ref (em (xE X) 6)) F fX12_25 0 rfl rfl dX12_write_16 ?_
      refine g_iload_n (pc := 19) (x := a1) F dX12_write_19 rfl 1 rfl ?_
      obtain ⟨i4, h⟩ := ck_some h
      refine g_iald (pc := 20) (N := 4) (fn := M.1 5) (j := a1.toNatClampNeg) F 6 0 rfl rfl i4 rfl dX12_write_20 ?_
      refine g_if_ne (pc := 21) (tgt := 33) F dX12_write_21 (by decide) (fun c5 => ?_) (fun c5 => ?_)
      · have h := ite_f c5 h
        refine g_iload_n (pc := 33) (x := a2) F dX12_write_33 rfl 2 rfl ?_
        refine g_iconst (pc := 34) F dX12_write_34 ic_0 ?_
        refine g_aload_n (pc := 35) (x := em (xE X) 0) F dX12_write_35 rfl 0 rfl ?_
        refine g_get (pc := 36) (v := .ref (em (xE X) 7)) F fX12_28 0 rfl rfl dX12_write_36 ?_
        refine g_iload_n (pc := 39) (x := a1) F dX12_write_39 rfl 1 rfl ?_
        obtain ⟨i6, h⟩ := ck_some h
        refine g_iald (pc := 40) (N := 4) (fn := M.1 6) (j := a1.toNatClampNeg) F 7 0 rfl rfl i6 rfl dX12_write_40 ?_
        refine g_iconst (pc := 41) F dX12_write_41 ic_1 ?_
        refine g_isub (pc := 42) F dX12_write_42 ?_
        obtain ⟨r7, e8, h⟩ := bd_some h
        refine g_sI (pc := 43) (Wf := Wm) (As := [.int a2, .int (0 : Int32), .int ((M.1 6 a1.toNatClampNeg) - (1 : Int32))]) (rest := []) F (hX12_in (M := M) e8 (xl X) (xE X)) kX12_in lX12_45 rfl rfl ⟨(Nat.le_of_ble_eq_true rfl), (Nat.le_of_ble_eq_true rfl)⟩ (Nat.le_of_ble_eq_true rfl) dX12_write_43 ?_
        refine g_if_ne (pc := 46) (tgt := 57) F dX12_write_46 (by decide) (fun c9 => ?_) (fun c9 => ?_)
        · have h := ite_f c9 h
          refine g_aload_n (pc := 57) (x := em (xE X) 0) F dX12_write_57 rfl 0 rfl ?_
          refine g_get (pc := 58) (v := .ref (em (xE X) 8)) F fX12_31 0 rfl rfl dX12_write_58 ?_
          refine g_bipush (pc := 61) F dX12_write_61 bp_40 ?_
          refine g_iload_n (pc := 63) (x := a1) F dX12_write_63 rfl 1 rfl ?_
          refine g_imul (pc := 64) F dX12_write_64 ?_
          refine g_iload_n (pc := 65) (x := a2) F dX12_write_65 rfl 2 rfl ?_
          refine g_iadd (pc := 66) F dX12_write_66 ?_
          obtain ⟨i10, h⟩ := ck_some h
          refine g_lald (pc := 67) (N := 160) (fn := M.2 0) (j := (((40 : Int32) * a1) + a2).toNatClampNeg) F 8 1 rfl rfl i10 rfl dX12_write_67 ?_
          refine g_lstore (pc := 68) (lv2 := [(0, .ref (em (xE X) 0)), (1, .int a1), (2, .int a2), (3, .long a3), (5, .long (M.2 0 ((((40 : Int32) * a1) + a2).toNatClampNeg)))]) F dX12_write_68 (by rw [hx]; decide) [1, 2, 3, 4, 0] rfl ?_
          refine g_aload_n (pc := 70) (x := em (xE X) 0) F dX12_write_70 rfl 0 rfl ?_
          refine g_get (pc := 71) (v := .ref (em (xE X) 8)) F fX12_31 0 rfl rfl dX12_write_71 ?_
          refine g_bipush (pc := 74) F dX12_write_74 bp_40 ?_
          refine g_iload_n (pc := 76) (x := a1) F dX12_write_76 rfl 1 rfl ?_
          refine g_imul (pc := 77) F dX12_write_77 ?_
          refine g_iload_n (pc := 78) (x := a2) F dX12_write_78 rfl 2 rfl ?_
          refine g_iadd (pc := 79) F dX12_write_79 ?_
          refine g_aload_n (pc := 80) (x := em (xE X) 0) F dX12_write_80 rfl 0 rfl ?_
          refine g_get (pc := 81) (v := .ref (em (xE X) 6)) F fX12_25 0 rfl rfl dX12_write_81 ?_
          refine g_iload_n (pc := 84) (x := a1) F dX12_write_84 rfl 1 rfl ?_
          obtain ⟨i11, h⟩ := ck_some h
          refine g_iald (pc := 85) (N := 4) (fn := M.1 5) (j := a1.toNatClampNeg) F 6 0 rfl rfl i11 rfl dX12_write_85 ?_
          refine g_lload_n (pc := 86) (x := a3) F dX12_write_86 rfl 3 rfl ?_
          obtain ⟨r12, e13, h⟩ := bd_some h
          refine g_sL (pc := 87) (Wf := Wm) (As := [.int (M.1 5 a1.toNatClampNeg), .long a3]) (rest := [.int (((40 : Int32) * a1) + a2), .ref (em (xE X) 8)]) F (hX12_narrow (M := M) e13 (xl X) (xE X)) kX12_narrow lX12_259 rfl rfl ⟨(Nat.le_of_ble_eq_true rfl), (Nat.le_of_ble_eq_true rfl)⟩ (Nat.le_of_ble_eq_true rfl) dX12_write_87 ?_
          obtain ⟨i14, h⟩ := ck_some h
          refine g_last (pc := 90) (N := 160) (fn := M.2 0) (j := (((40 : Int32) * a1) + a2).toNatClampNeg) (ws2 := Wm (xE X) (sJ M 0 ((((40 : Int32) * a1) + a2).toNatClampNeg) r12)) F 8 1 rfl rfl i14 rfl (wml_0 _ _ _ _) dX12_write_90 ?_
          refine g_lload (pc := 91) (x := M.2 0 ((((40 : Int32) * a1) + a2).toNatClampNeg)) F dX12_write_91 4 rfl ?_
          obtain rfl := Option.some.inj h
          exact g_lret (pc := 93) (Wf := Wm) F Rt dX12_write_93
        · have h := ite_t c9 h
          refine g_aload_n (pc := 49) (x := em (xE X) 0) F dX12_write_49 rfl 0 rfl ?_
          refine g_ldc (pc := 50) F oX12_44 dX12_write_50 ?_
          obtain ⟨q15, e16, h⟩ := bd_some h
          refine g_vI (pc := 52) (Wf := Wm) (As := [.int (-1000000001 : Int32)]) (rest := []) F (hX12_finds e16 (xl X) (xE X)) kX12_finds lX12_53 0 rfl rfl rfl rfl rfl ⟨(Nat.le_of_ble_eq_true rfl), (Nat.le_of_ble_eq_true rfl)⟩ (Nat.le_of_ble_eq_true rfl) dX12_write_52 ?_
          refine g_i2l (pc := 55) F dX12_write_55 ?_
          obtain rfl := Option.some.inj h
          exact g_lret (pc := 56) (Wf := Wm) F Rt dX12_write_56
      · have h := ite_t c5 h
        refine g_aload_n (pc := 24) (x := em (xE X) 0) F dX12_write_24 rfl 0 rfl ?_
        refine g_ldcw (pc := 25) F oX12_258 dX12_write_25 ?_
        obtain ⟨q17, e18, h⟩ := bd_some h
        refine g_vI (pc := 28) (Wf := Wm) (As := [.int (-1000000006 : Int32)]) (rest := []) F (hX12_finds e18 (xl X) (xE X)) kX12_finds lX12_53 0 rfl rfl rfl rfl rfl ⟨(Nat.le_of_ble_eq_true rfl), (Nat.le_of_ble_eq_true rfl)⟩ (Nat.le_of_ble_eq_true rfl) dX12_write_28 ?_
        refine g_i2l (pc := 31) F dX12_write_31 ?_
        obtain rfl := Option.some.inj h
        exact g_lret (pc := 32) (Wf := Wm) F Rt dX12_write_32
    · have h := ite_t c3 h
      refine g_aload_n (pc := 7) (x := em (xE X) 0) F dX12_write_7 rfl 0 rfl ?_
      refine g_ldc (pc := 8) F oX12_44 dX12_write_8 ?_
      obtain ⟨q19, e20, h⟩ := bd_some h
      refine g_vI (pc := 10) (Wf := Wm) (As := [.int (-1000000001 : Int32)]) (rest := []) F (hX12_finds e20 (xl X) (xE X)) kX12_finds lX12_53 0 rfl rfl rfl rfl rfl ⟨(Nat.le_of_ble_eq_true rfl), (Nat.le_of_ble_eq_true rfl)⟩ (Nat.le_of_ble_eq_true rfl) dX12_write_10 ?_
      refine g_i2l (pc := 13) F dX12_write_13 ?_
      obtain rfl := Option.some.inj h
      exact g_lret (pc := 14) (Wf := Wm) F Rt dX12_write_14) l E
set_option maxHeartbeats 4000000 in
set_option maxRecDepth 100000 in
theorem hX12_isPart_ {M : Mem} {a1 : Int32} {a2 : Int32} {a3 : Int32} {res : Int32} (h : mX12_isPart_ M a1 a2 a3 = some res) (l : Launch) (E : Ev) : CtI l E (Wm E) yX12_isPart_ cX12_isPart_ 4 .boolean 0 0 [.ref (em E 0), .int a1, .int a2, .int a3] M res M :=
  ctI_of (Wf := Wm) (av := fun E => [.ref (em E 0), .int a1, .int a2, .int a3]) (lv := fun E => [(0, .ref (em E 0)), (1, .int a1), (2, .int a2), (3, .int a3)]) (by decide) (fun _ => rfl) (fun _ => (Nat.le_of_ble_eq_true rfl)) (fun X F hx Rt => by
    have F : Fx X cX12_isPart_ RX12 0 0 := F
    unfold mX12_isPart_ at h
    refine g_iload_n (pc := 0) (x := a2) F dX12_isPart__0 rfl 2 rfl ?_
    refine g_if_lt (pc := 1) (tgt := 34) F dX12_isPart__1 (by decide) (fun c1 => ?_) (fun c1 => ?_)
    · have h := ite_t c1 h
      refine g_iconst (pc := 34) F dX12_isPart__34 ic_0 ?_
      obtain rfl := Option.some.inj h
      exact g_iret (pc := 35) (Wf := Wm) F Rt (by decide) dX12_isPart__35
    · have h := ite_f c1 h
      refine g_iload_n (pc := 4) (x := a3) F dX12_isPart__4 rfl 3 rfl ?_
      refine g_if_lt (pc := 5) (tgt := 34) F dX12_isPart__5 (by decide) (fun c2 => ?_) (fun c2 => ?_)
      · have h := ite_t c2 h
        refine g_iconst (pc := 34) F dX12_isPart__34 ic_0 ?_
        obtain rfl := Option.some.inj h
        exact g_iret (pc := 35) (Wf := Wm) F Rt (by decide) dX12_isPart__35
      · have h := ite_f c2 h
        refine g_iload_n (pc := 8) (x := a3) F dX12_isPart__8 rfl 3 rfl ?_
        refine g_aload_n (pc := 9) (x := em (xE X) 0) F dX12_isPart__9 rfl 0 rfl ?_
        refine g_get (pc := 10) (v := .ref (em (xE X) 7)) F fX12_28 0 rfl rfl dX12_isPart__10 ?_
        refine g_iload_n (pc := 13) (x := a1) F dX12_isPart__13 rfl 1 rfl ?_
        obtain ⟨i3, h⟩ := ck_some h
        refine g_iald (pc := 14) (N := 4) (fn := M.1 6) (j := a1.toNatClampNeg) F 7 0 rfl rfl i3 rfl dX12_isPart__14 ?_
        refine g_icmp_gt (pc := 15) (tgt := 34) F dX12_isPart__15 (by decide) (fun c4 => ?_) (fun c4 => ?_)
        · have h := ite_t c4 h
          refine g_iconst (pc := 34) F dX12_isPart__34 ic_0 ?_
          obtain rfl := Option.some.inj h
          exact g_iret (pc := 35) (Wf := Wm) F Rt (by decide) dX12_isPart__35
        · have h := ite_f c4 h
          refine g_iload_n (pc := 18) (x := a2) F dX12_isPart__18 rfl 2 rfl ?_
          refine g_aload_n (pc := 19) (x := em (xE X) 0) F dX12_isPart__19 rfl 0 rfl ?_
          refine g_get (pc := 20) (v := .ref (em (xE X) 7)) F fX12_28 0 rfl rfl dX12_isPart__20 ?_
          refine g_iload_n (pc := 23) (x := a1) F dX12_isPart__23 rfl 1 rfl ?_
          obtain ⟨i5, h⟩ := ck_some h
          refine g_iald (pc := 24) (N := 4) (fn := M.1 6) (j := a1.toNatClampNeg) F 7 0 rfl rfl i5 rfl dX12_isPart__24 ?_
          refine g_iload_n (pc := 25) (x := a3) F dX12_isPart__25 rfl 3 rfl ?_
          refine g_isub (pc := 26) F dX12_isPart__26 ?_
          refine g_icmp_gt (pc := 27) (tgt := 34) F dX12_isPart__27 (by decide) (fun c6 => ?_) (fun c6 => ?_)
          · have h := ite_t c6 h
            refine g_iconst (pc := 34) F dX12_isPart__34 ic_0 ?_
            obtain rfl := Option.some.inj h
            exact g_iret (pc := 35) (Wf := Wm) F Rt (by decide) dX12_isPart__35
          · have h := ite_f c6 h
            refine g_iconst (pc := 30) F dX12_isPart__30 ic_1 ?_
            refine g_goto (pc := 31) (tgt := 35) F dX12_isPart__31 (by decide) ?_
            obtain rfl := Option.some.inj h
            exact g_iret (pc := 35) (Wf := Wm) F Rt (by decide) dX12_isPart__35) l E
set_option maxHeartbeats 4000000 in
set_option maxRecDepth 100000 in
theorem wX12_copy_b139 {X : Cx} (F : Fx X cX12_copy RX12 2 42) (hx : xn X = 7) {N : Nat} {res : Int32 × Mem} (Rt : RI X Wm .int res.1 res.2) : ∀ (n : Nat) (M : Mem) (a3 : Int32) (a4 : Int32) (a5 : Int32) (a6 : Int32), mX12_copy_b139 N n M a3 a4 a5 a6 = some res → G X (Wm (xE X) M) 139 [(0, .ref (em (xE X) 0)), (3, .int a3), (4, .int a4), (5, .int a5), (6, .int a6)] [] := by
  intro n
  induction n with
  | zero =>
    intro M a3 a4 a5 a6 h
    have h : none = some res := h
    cases h
  | succ n ih =>
    intro M a3 a4 a5 a6 h
    rw [mX12_copy_b139] at h
    refine g_iload (pc := 139) (x := a6) F dX12_copy_139 4 rfl ?_
    refine g_iload (pc := 141) (x := a5) F dX12_copy_141 3 rfl ?_
    refine g_icmp_ge (pc := 143) (tgt := 174) F dX12_copy_143 (by decide) (fun c27 => ?_) (fun c27 => ?_)
    · have h := ite_t c27 h
      refine g_iload (pc := 174) (x := a5) F dX12_copy_174 3 rfl ?_
      obtain rfl := Option.some.inj h
      exact g_iret (pc := 176) (Wf := Wm) F Rt rfl dX12_copy_176
    · have h := ite_f c27 h
      refine g_aload_n (pc := 146) (x := em (xE X) 0) F dX12_copy_146 rfl 0 rfl ?_
      refine g_get (pc := 147) (v := .ref (em (xE X) 8)) F fX12_31 0 rfl rfl dX12_copy_147 ?_
      refine g_bipush (pc := 150) F dX12_copy_150 bp_40 ?_
      refine g_iload_n (pc := 152) (x := a3) F dX12_copy_152 rfl 1 rfl ?_
      refine g_imul (pc := 153) F dX12_copy_153 ?_
      refine g_iload (pc := 154) (x := a4) F dX12_copy_154 2 rfl ?_
      refine g_iadd (pc := 156) F dX12_copy_156 ?_
      refine g_iload (pc := 157) (x := a6) F dX12_copy_157 4 rfl ?_
      refine g_iadd (pc := 159) F dX12_copy_159 ?_
      refine g_aload_n (pc := 160) (x := em (xE X) 0) F dX12_copy_160 rfl 0 rfl ?_
      refine g_get (pc := 161) (v := .ref (em (xE X) 9)) F fX12_35 0 rfl rfl dX12_copy_161 ?_
      refine g_iload (pc := 164) (x := a6) F dX12_copy_164 4 rfl ?_
      obtain ⟨i28, h⟩ := ck_some h
      refine g_lald (pc := 166) (N := 40) (fn := M.2 1) (j := a6.toNatClampNeg) F 9 1 rfl rfl i28 rfl dX12_copy_166 ?_
      obtain ⟨i29, h⟩ := ck_some h
      refine g_last (pc := 167) (N := 160) (fn := M.2 0) (j := ((((40 : Int32) * a3) + a4) + a6).toNatClampNeg) (ws2 := Wm (xE X) (sJ M 0 (((((40 : Int32) * a3) + a4) + a6).toNatClampNeg) (M.2 1 a6.toNatClampNeg))) F 8 1 rfl rfl i29 rfl (wml_0 _ _ _ _) dX12_copy_167 ?_
      refine g_iinc (pc := 168) (lv2 := [(0, .ref (em (xE X) 0)), (3, .int a3), (4, .int a4), (5, .int a5), (6, .int (a6 + (1 : Int32)))]) F dX12_copy_168 4 rfl (ii_1 _) (by rw [hx]; decide) [1, 2, 3, 4, 0] rfl ?_
      refine g_goto (pc := 171) (tgt := 139) F dX12_copy_171 (by decide) ?_
      refine g_sub [0, 1, 2, 3, 4] rfl ?_
      exact ih (sJ M 0 (((((40 : Int32) * a3) + a4) + a6).toNatClampNeg) (M.2 1 a6.toNatClampNeg)) a3 a4 a5 (a6 + (1 : Int32)) h
set_option maxHeartbeats 4000000 in
set_option maxRecDepth 100000 in
theorem wX12_copy_b102 {X : Cx} (F : Fx X cX12_copy RX12 2 42) (hx : xn X = 7) {N : Nat} {res : Int32 × Mem} (Rt : RI X Wm .int res.1 res.2) : ∀ (n : Nat) (M : Mem) (a1 : Int32) (a2 : Int32) (a3 : Int32) (a4 : Int32) (a5 : Int32) (a6 : Int32), mX12_copy_b102 N n M a1 a2 a3 a4 a5 a6 = some res → G X (Wm (xE X) M) 102 [(0, .ref (em (xE X) 0)), (1, .int a1), (2, .int a2), (3, .int a3), (4, .int a4), (5, .int a5), (6, .int a6)] [] := by
  intro n
  induction n with
  | zero =>
    intro M a1 a2 a3 a4 a5 a6 h
    have h : none = some res := h
    cases h
  | succ n ih =>
    intro M a1 a2 a3 a4 a5 a6 h
    rw [mX12_copy_b102] at h
    refine g_iload (pc := 102) (x := a6) F dX12_copy_102 6 rfl ?_
    refine g_iload (pc := 104) (x := a5) F dX12_copy_104 5 rfl ?_
    refine g_icmp_ge (pc := 106) (tgt := 136) F dX12_copy_106 (by decide) (fun c26 => ?_) (fun c26 => ?_)
    · have h := ite_t c26 h
      refine g_iconst (pc := 136) F dX12_copy_136 ic_0 ?_
      refine g_istore (pc := 137) (lv2 := [(0, .ref (em (xE X) 0)), (1, .int a1), (2, .int a2), (3, .int a3), (4, .int a4), (5, .int a5), (6, .int (0 : Int32))]) F dX12_copy_137 (by rw [hx]; decide) [1, 2, 3, 4, 5, 6, 0] rfl ?_
      refine g_sub [0, 3, 4, 5, 6] rfl ?_
      exact wX12_copy_b139 F hx Rt N M a3 a4 a5 (0 : Int32) h
    · have h := ite_f c26 h
      refine g_aload_n (pc := 109) (x := em (xE X) 0) F dX12_copy_109 rfl 0 rfl ?_
      refine g_get (pc := 110) (v := .ref (em (xE X) 9)) F fX12_35 0 rfl rfl dX12_copy_110 ?_
      refine g_iload (pc := 113) (x := a6) F dX12_copy_113 6 rfl ?_
      refine g_aload_n (pc := 115) (x := em (xE X) 0) F dX12_copy_115 rfl 0 rfl ?_
      refine g_get (pc := 116) (v := .ref (em (xE X) 8)) F fX12_31 0 rfl rfl dX12_copy_116 ?_
      refine g_bipush (pc := 119) F dX12_copy_119 bp_40 ?_
      refine g_iload_n (pc := 121) (x := a1) F dX12_copy_121 rfl 1 rfl ?_
      refine g_imul (pc := 122) F dX12_copy_122 ?_
      refine g_iload_n (pc := 123) (x := a2) F dX12_copy_123 rfl 2 rfl ?_
      refine g_iadd (pc := 124) F dX12_copy_124 ?_
      refine g_iload (pc := 125) (x := a6) F dX12_copy_125 6 rfl ?_
      refine g_iadd (pc := 127) F dX12_copy_127 ?_
      obtain ⟨i30, h⟩ := ck_some h
      refine g_lald (pc := 128) (N := 160) (fn := M.2 0) (j := ((((40 : Int32) * a1) + a2) + a6).toNatClampNeg) F 8 1 rfl rfl i30 rfl dX12_copy_128 ?_
      obtain ⟨i31, h⟩ := ck_some h
      refine g_last (pc := 129) (N := 40) (fn := M.2 1) (j := a6.toNatClampNeg) (ws2 := Wm (xE X) (sJ M 1 a6.toNatClampNeg (M.2 0 (((((40 : Int32) * a1) + a2) + a6).toNatClampNeg)))) F 9 1 rfl rfl i31 rfl (wml_1 _ _ _ _) dX12_copy_129 ?_
      refine g_iinc (pc := 130) (lv2 := [(0, .ref (em (xE X) 0)), (1, .int a1), (2, .int a2), (3, .int a3), (4, .int a4), (5, .int a5), (6, .int (a6 + (1 : Int32)))]) F dX12_copy_130 6 rfl (ii_1 _) (by rw [hx]; decide) [1, 2, 3, 4, 5, 6, 0] rfl ?_
      refine g_goto (pc := 133) (tgt := 102) F dX12_copy_133 (by decide) ?_
      refine g_sub [0, 1, 2, 3, 4, 5, 6] rfl ?_
      exact ih (sJ M 1 a6.toNatClampNeg (M.2 0 (((((40 : Int32) * a1) + a2) + a6).toNatClampNeg))) a1 a2 a3 a4 a5 (a6 + (1 : Int32)) h
set_option maxHeartbeats 4000000 in
set_option maxRecDepth 100000 in
theorem hX12_copy {N : Nat} {M : Mem} {a1 : Int32} {a2 : Int32} {a3 : Int32} {a4 : Int32} {a5 : Int32} {res : Int32 × Mem} (h : mX12_copy N M a1 a2 a3 a4 a5 = some res) (l : Launch) (E : Ev) : CtI l E (Wm E) yX12_copy cX12_copy 7 .int 2 42 [.ref (em E 0), .int a1, .int a2, .int a3, .int a4, .int a5] M res.1 res.2 :=
  ctI_of (Wf := Wm) (av := fun E => [.ref (em E 0), .int a1, .int a2, .int a3, .int a4, .int a5]) (lv := fun E => [(0, .ref (em E 0)), (1, .int a1), (2, .int a2), (3, .int a3), (4, .int a4), (5, .int a5)]) (by decide) (fun _ => rfl) (fun _ => (Nat.le_of_ble_eq_true rfl)) (fun X F hx Rt => by
    have F : Fx X cX12_copy RX12 2 42 := F
    unfold mX12_copy at h
    refine g_iload_n (pc := 0) (x := a1) F dX12_copy_0 rfl 1 rfl ?_
    obtain ⟨r1, e2, h⟩ := bd_some h
    refine g_sI (pc := 1) (Wf := Wm) (As := [.int a1]) (rest := []) F (hX12_isSheet (M := M) e2 (xl X) (xE X)) kX12_isSheet lX12_254 rfl rfl ⟨(Nat.le_of_ble_eq_true rfl), (Nat.le_of_ble_eq_true rfl)⟩ (Nat.le_of_ble_eq_true rfl) dX12_copy_1 ?_
    refine g_if_eq (pc := 4) (tgt := 14) F dX12_copy_4 (by decide) (fun c3 => ?_) (fun c3 => ?_)
    · have h := ite_t c3 h
      refine g_aload_n (pc := 14) (x := em (xE X) 0) F dX12_copy_14 rfl 0 rfl ?_
      refine g_ldc (pc := 15) F oX12_44 dX12_copy_15 ?_
      obtain ⟨q4, e5, h⟩ := bd_some h
      refine g_vI (pc := 17) (Wf := Wm) (As := [.int (-1000000001 : Int32)]) (rest := []) F (hX12_finds e5 (xl X) (xE X)) kX12_finds lX12_53 0 rfl rfl rfl rfl rfl ⟨(Nat.le_of_ble_eq_true rfl), (Nat.le_of_ble_eq_true rfl)⟩ (Nat.le_of_ble_eq_true rfl) dX12_copy_17 ?_
      obtain rfl := Option.some.inj h
      exact g_iret (pc := 20) (Wf := Wm) F Rt rfl dX12_copy_20
    · have h := ite_f c3 h
      refine g_iload_n (pc := 7) (x := a3) F dX12_copy_7 rfl 3 rfl ?_
      obtain ⟨r6, e7, h⟩ := bd_some h
      refine g_sI (pc := 8) (Wf := Wm) (As := [.int a3]) (rest := []) F (hX12_isSheet (M := M) e7 (xl X) (xE X)) kX12_isSheet lX12_254 rfl rfl ⟨(Nat.le_of_ble_eq_true rfl), (Nat.le_of_ble_eq_true rfl)⟩ (Nat.le_of_ble_eq_true rfl) dX12_copy_8 ?_
      refine g_if_ne (pc := 11) (tgt := 21) F dX12_copy_11 (by decide) (fun c8 => ?_) (fun c8 => ?_)
      · have h := ite_f c8 h
        refine g_aload_n (pc := 21) (x := em (xE X) 0) F dX12_copy_21 rfl 0 rfl ?_
        refine g_get (pc := 22) (v := .ref (em (xE X) 6)) F fX12_25 0 rfl rfl dX12_copy_22 ?_
        refine g_iload_n (pc := 25) (x := a1) F dX12_copy_25 rfl 1 rfl ?_
        obtain ⟨i9, h⟩ := ck_some h
        refine g_iald (pc := 26) (N := 4) (fn := M.1 5) (j := a1.toNatClampNeg) F 6 0 rfl rfl i9 rfl dX12_copy_26 ?_
        refine g_if_eq (pc := 27) (tgt := 39) F dX12_copy_27 (by decide) (fun c10 => ?_) (fun c10 => ?_)
        · have h := ite_t c10 h
          refine g_aload_n (pc := 39) (x := em (xE X) 0) F dX12_copy_39 rfl 0 rfl ?_
          refine g_ldcw (pc := 40) F oX12_258 dX12_copy_40 ?_
          obtain ⟨q11, e12, h⟩ := bd_some h
          refine g_vI (pc := 43) (Wf := Wm) (As := [.int (-1000000006 : Int32)]) (rest := []) F (hX12_finds e12 (xl X) (xE X)) kX12_finds lX12_53 0 rfl rfl rfl rfl rfl ⟨(Nat.le_of_ble_eq_true rfl), (Nat.le_of_ble_eq_true rfl)⟩ (Nat.le_of_ble_eq_true rfl) dX12_copy_43 ?_
          obtain rfl := Option.some.inj h
          exact g_iret (pc := 46) (Wf := Wm) F Rt rfl dX12_copy_46
        · have h := ite_f c10 h
          refine g_aload_n (pc := 30) (x := em (xE X) 0) F dX12_copy_30 rfl 0 rfl ?_
          refine g_get (pc := 31) (v := .ref (em (xE X) 6)) F fX12_25 0 rfl rfl dX12_copy_31 ?_
          refine g_iload_n (pc := 34) (x := a3) F dX12_copy_34 rfl 3 rfl ?_
          obtain ⟨i13, h⟩ := ck_some h
          refine g_iald (pc := 35) (N := 4) (fn := M.1 5) (j := a3.toNatClampNeg) F 6 0 rfl rfl i13 rfl dX12_copy_35 ?_
          refine g_if_ne (pc := 36) (tgt := 47) F dX12_copy_36 (by decide) (fun c14 => ?_) (fun c14 => ?_)
          · have h := ite_f c14 h
            refine g_aload_n (pc := 47) (x := em (xE X) 0) F dX12_copy_47 rfl 0 rfl ?_
            refine g_get (pc := 48) (v := .ref (em (xE X) 6)) F fX12_25 0 rfl rfl dX12_copy_48 ?_
            refine g_iload_n (pc := 51) (x := a1) F dX12_copy_51 rfl 1 rfl ?_
            obtain ⟨i15, h⟩ := ck_some h
            refine g_iald (pc := 52) (N := 4) (fn := M.1 5) (j := a1.toNatClampNeg) F 6 0 rfl rfl i15 rfl dX12_copy_52 ?_
            refine g_aload_n (pc := 53) (x := em (xE X) 0) F dX12_copy_53 rfl 0 rfl ?_
            refine g_get (pc := 54) (v := .ref (em (xE X) 6)) F fX12_25 0 rfl rfl dX12_copy_54 ?_
            refine g_iload_n (pc := 57) (x := a3) F dX12_copy_57 rfl 3 rfl ?_
            obtain ⟨i16, h⟩ := ck_some h
            refine g_iald (pc := 58) (N := 4) (fn := M.1 5) (j := a3.toNatClampNeg) F 6 0 rfl rfl i16 rfl dX12_copy_58 ?_
            refine g_icmp_eq (pc := 59) (tgt := 69) F dX12_copy_59 (by decide) (fun c17 => ?_) (fun c17 => ?_)
            · have h := ite_t c17 h
              refine g_aload_n (pc := 69) (x := em (xE X) 0) F dX12_copy_69 rfl 0 rfl ?_
              refine g_iload_n (pc := 70) (x := a1) F dX12_copy_70 rfl 1 rfl ?_
              refine g_iload_n (pc := 71) (x := a2) F dX12_copy_71 rfl 2 rfl ?_
              refine g_iload (pc := 72) (x := a5) F dX12_copy_72 5 rfl ?_
              obtain ⟨r18, e19, h⟩ := bd_some h
              refine g_vI (pc := 74) (Wf := Wm) (As := [.int a1, .int a2, .int a5]) (rest := []) F (hX12_isPart_ e19 (xl X) (xE X)) kX12_isPart_ lX12_263 0 rfl rfl rfl rfl rfl ⟨(Nat.le_of_ble_eq_true rfl), (Nat.le_of_ble_eq_true rfl)⟩ (Nat.le_of_ble_eq_true rfl) dX12_copy_74 ?_
              refine g_if_eq (pc := 77) (tgt := 92) F dX12_copy_77 (by decide) (fun c20 => ?_) (fun c20 => ?_)
              · have h := ite_t c20 h
                refine g_aload_n (pc := 92) (x := em (xE X) 0) F dX12_copy_92 rfl 0 rfl ?_
                refine g_ldc (pc := 93) F oX12_44 dX12_copy_93 ?_
                obtain ⟨q21, e22, h⟩ := bd_some h
                refine g_vI (pc := 95) (Wf := Wm) (As := [.int (-1000000001 : Int32)]) (rest := []) F (hX12_finds e22 (xl X) (xE X)) kX12_finds lX12_53 0 rfl rfl rfl rfl rfl ⟨(Nat.le_of_ble_eq_true rfl), (Nat.le_of_ble_eq_true rfl)⟩ (Nat.le_of_ble_eq_true rfl) dX12_copy_95 ?_
                obtain rfl := Option.some.inj h
                exact g_iret (pc := 98) (Wf := Wm) F Rt rfl dX12_copy_98
              · have h := ite_f c20 h
                refine g_aload_n (pc := 80) (x := em (xE X) 0) F dX12_copy_80 rfl 0 rfl ?_
                refine g_iload_n (pc := 81) (x := a3) F dX12_copy_81 rfl 3 rfl ?_
                refine g_iload (pc := 82) (x := a4) F dX12_copy_82 4 rfl ?_
                refine g_iload (pc := 84) (x := a5) F dX12_copy_84 5 rfl ?_
                obtain ⟨r23, e24, h⟩ := bd_some h
                refine g_vI (pc := 86) (Wf := Wm) (As := [.int a3, .int a4, .int a5]) (rest := []) F (hX12_isPart_ e24 (xl X) (xE X)) kX12_isPart_ lX12_263 0 rfl rfl rfl rfl rfl ⟨(Nat.le_of_ble_eq_true rfl), (Nat.le_of_ble_eq_true rfl)⟩ (Nat.le_of_ble_eq_true rfl) dX12_copy_86 ?_
                refine g_if_ne (pc := 89) (tgt := 99) F dX12_copy_89 (by decide) (fun c25 => ?_) (fun c25 => ?_)
                · have h := ite_f c25 h
                  refine g_iconst (pc := 99) F dX12_copy_99 ic_0 ?_
                  refine g_istore (pc := 100) (lv2 := [(0, .ref (em (xE X) 0)), (1, .int a1), (2, .int a2), (3, .int a3), (4, .int a4), (5, .int a5), (6, .int (0 : Int32))]) F dX12_copy_100 (by rw [hx]; decide) [1, 2, 3, 4, 5, 6, 0] rfl ?_
                  refine g_sub [0, 1, 2, 3, 4, 5, 6] rfl ?_
                  exact wX12_copy_b102 F hx Rt N M a1 a2 a3 a4 a5 (0 : Int32) h
                · have h := ite_t c25 h
                  refine g_aload_n (pc := 92) (x := em (xE X) 0) F dX12_copy_92 rfl 0 rfl ?_
                  refine g_ldc (pc := 93) F oX12_44 dX12_copy_93 ?_
                  obtain ⟨q32, e33, h⟩ := bd_some h
                  refine g_vI (pc := 95) (Wf := Wm) (As := [.int (-1000000001 : Int32)]) (rest := []) F (hX12_finds e33 (xl X) (xE X)) kX12_finds lX12_53 0 rfl rfl rfl rfl rfl ⟨(Nat.le_of_ble_eq_true rfl), (Nat.le_of_ble_eq_true rfl)⟩ (Nat.le_of_ble_eq_true rfl) dX12_copy_95 ?_
                  obtain rfl := Option.some.inj h
                  exact g_iret (pc := 98) (Wf := Wm) F Rt rfl dX12_copy_98
            · have h := ite_f c17 h
              refine g_aload_n (pc := 62) (x := em (xE X) 0) F dX12_copy_62 rfl 0 rfl ?_
              refine g_ldc (pc := 63) F oX12_118 dX12_copy_63 ?_
              obtain ⟨q34, e35, h⟩ := bd_some h
              refine g_vI (pc := 65) (Wf := Wm) (As := [.int (-1000000003 : Int32)]) (rest := []) F (hX12_finds e35 (xl X) (xE X)) kX12_finds lX12_53 0 rfl rfl rfl rfl rfl ⟨(Nat.le_of_ble_eq_true rfl), (Nat.le_of_ble_eq_true rfl)⟩ (Nat.le_of_ble_eq_true rfl) dX12_copy_65 ?_
              obtain rfl := Option.some.inj h
              exact g_iret (pc := 68) (Wf := Wm) F Rt rfl dX12_copy_68
          · have h := ite_t c14 h
            refine g_aload_n (pc := 39) (x := em (xE X) 0) F dX12_copy_39 rfl 0 rfl ?_
            refine g_ldcw (pc := 40) F oX12_258 dX12_copy_40 ?_
            obtain ⟨q36, e37, h⟩ := bd_some h
            refine g_vI (pc := 43) (Wf := Wm) (As := [.int (-1000000006 : Int32)]) (rest := []) F (hX12_finds e37 (xl X) (xE X)) kX12_finds lX12_53 0 rfl rfl rfl rfl rfl ⟨(Nat.le_of_ble_eq_true rfl), (Nat.le_of_ble_eq_true rfl)⟩ (Nat.le_of_ble_eq_true rfl) dX12_copy_43 ?_
            obtain rfl := Option.some.inj h
            exact g_iret (pc := 46) (Wf := Wm) F Rt rfl dX12_copy_46
      · have h := ite_t c8 h
        refine g_aload_n (pc := 14) (x := em (xE X) 0) F dX12_copy_14 rfl 0 rfl ?_
        refine g_ldc (pc := 15) F oX12_44 dX12_copy_15 ?_
        obtain ⟨q38, e39, h⟩ := bd_some h
        refine g_vI (pc := 17) (Wf := Wm) (As := [.int (-1000000001 : Int32)]) (rest := []) F (hX12_finds e39 (xl X) (xE X)) kX12_finds lX12_53 0 rfl rfl rfl rfl rfl ⟨(Nat.le_of_ble_eq_true rfl), (Nat.le_of_ble_eq_true rfl)⟩ (Nat.le_of_ble_eq_true rfl) dX12_copy_17 ?_
        obtain rfl := Option.some.inj h
        exact g_iret (pc := 20) (Wf := Wm) F Rt rfl dX12_copy_20) l E
