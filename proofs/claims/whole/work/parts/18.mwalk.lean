set_option maxHeartbeats 4000000 in
set_option maxRecDepth 100000 in
theorem hX12_badSheet {M : Mem} {a1 : Int32} {res : Int32} (h : mX12_badSheet M a1 = some res) (l : Launch) (E : Ev) : CtI l E (Wm E) yX12_badSheet cX12_badSheet 2 .int 2 42 [.ref (em E 0), .int a1] M res M :=
  ctI_of (Wf := Wm) (av := fun E => [.ref (em E 0), .int a1]) (lv := fun E => [(0, .ref (em E 0)), (1, .int a1)]) (by decide) (fun _ => rfl) (fun _ => (Nat.le_of_ble_eq_true rfl)) (fun X F hx Rt => by
    have F : Fx X cX12_badSheet RX12 2 42 := F
    unfold mX12_badSheet at h
    refine g_iload_n (pc := 0) (x := a1) F dX12_badSheet_0 rfl 1 rfl ?_
    obtain ⟨r1, e2, h⟩ := bd_some h
    refine g_sI (pc := 1) (Wf := Wm) (As := [.int a1]) (rest := []) F (hX12_isSheet (M := M) e2 (xl X) (xE X)) kX12_isSheet lX12_254 rfl rfl ⟨(Nat.le_of_ble_eq_true rfl), (Nat.le_of_ble_eq_true rfl)⟩ (Nat.le_of_ble_eq_true rfl) dX12_badSheet_1 ?_
    refine g_if_ne (pc := 4) (tgt := 12) F dX12_badSheet_4 (by decide) (fun c3 => ?_) (fun c3 => ?_)
    · have h := ite_f c3 h
      refine g_aload_n (pc := 12) (x := em (xE X) 0) F dX12_badSheet_12 rfl 0 rfl ?_
      refine g_get (pc := 13) (v := .ref (em (xE X) 6)) F fX12_25 0 rfl rfl dX12_badSheet_13 ?_
      refine g_iload_n (pc := 16) (x := a1) F dX12_badSheet_16 rfl 1 rfl ?_
      obtain ⟨i4, h⟩ := ck_some h
      refine g_iald (pc := 17) (N := 4) (fn := M.1 5) (j := a1.toNatClampNeg) F 6 0 rfl rfl i4 rfl dX12_badSheet_17 ?_
      refine g_if_ne (pc := 18) (tgt := 27) F dX12_badSheet_18 (by decide) (fun c5 => ?_) (fun c5 => ?_)
      · have h := ite_f c5 h
        refine g_iconst (pc := 27) F dX12_badSheet_27 ic_0 ?_
        obtain rfl := Option.some.inj h
        exact g_iret (pc := 28) (Wf := Wm) F Rt rfl dX12_badSheet_28
      · have h := ite_t c5 h
        refine g_ldcw (pc := 21) F oX12_258 dX12_badSheet_21 ?_
        refine g_goto (pc := 24) (tgt := 28) F dX12_badSheet_24 (by decide) ?_
        obtain rfl := Option.some.inj h
        exact g_iret (pc := 28) (Wf := Wm) F Rt rfl dX12_badSheet_28
    · have h := ite_t c3 h
      refine g_ldc (pc := 7) F oX12_44 dX12_badSheet_7 ?_
      refine g_goto (pc := 9) (tgt := 28) F dX12_badSheet_9 (by decide) ?_
      obtain rfl := Option.some.inj h
      exact g_iret (pc := 28) (Wf := Wm) F Rt rfl dX12_badSheet_28) l E
set_option maxHeartbeats 4000000 in
set_option maxRecDepth 100000 in
theorem wX12_lays_b21 {X : Cx} (F : Fx X cX12_lays RX12 3 63) (hx : xn X = 7) {N : Nat} {res : Int32 × Mem} (Rt : RI X Wm .int res.1 res.2) : ∀ (n : Nat) (M : Mem) (a1 : Int32) (a3 : Int32) (a4 : Int32), mX12_lays_b21 N n M a1 a3 a4 = some res → G X (Wm (xE X) M) 21 [(0, .ref (em (xE X) 0)), (1, .int a1), (3, .int a3), (4, .int a4)] [] := by
  intro n
  induction n with
  | zero =>
    intro M a1 a3 a4 h
    have h : none = some res := h
    cases h
  | succ n ih =>
    intro M a1 a3 a4 h
    rw [mX12_lays_b21] at h
    refine g_iload (pc := 21) (x := a4) F dX12_lays_21 3 rfl ?_
    refine g_aload_n (pc := 23) (x := em (xE X) 0) F dX12_lays_23 rfl 0 rfl ?_
    refine g_get (pc := 24) (v := .ref (em (xE X) 7)) F fX12_28 0 rfl rfl dX12_lays_24 ?_
    refine g_iload_n (pc := 27) (x := a1) F dX12_lays_27 rfl 1 rfl ?_
    obtain ⟨i4, h⟩ := ck_some h
    refine g_iald (pc := 28) (N := 4) (fn := M.1 6) (j := a1.toNatClampNeg) F 7 0 rfl rfl i4 rfl dX12_lays_28 ?_
    refine g_icmp_ge (pc := 29) (tgt := 92) F dX12_lays_29 (by decide) (fun c5 => ?_) (fun c5 => ?_)
    · have h := ite_t c5 h
      refine g_iload_n (pc := 92) (x := a3) F dX12_lays_92 rfl 2 rfl ?_
      obtain rfl := Option.some.inj h
      exact g_iret (pc := 93) (Wf := Wm) F Rt rfl dX12_lays_93
    · have h := ite_f c5 h
      refine g_iload (pc := 32) (x := a4) F dX12_lays_32 3 rfl ?_
      refine g_aload_n (pc := 34) (x := em (xE X) 0) F dX12_lays_34 rfl 0 rfl ?_
      refine g_get (pc := 35) (v := .ref (em (xE X) 1)) F fX12_7 0 rfl rfl dX12_lays_35 ?_
      refine g_iconst (pc := 38) F dX12_lays_38 ic_5 ?_
      refine g_iald (pc := 39) (N := 48) (fn := M.1 0) (j := 5) F 1 0 rfl rfl vi_5_48 cl_5 dX12_lays_39 ?_
      refine g_icmp_ge (pc := 40) (tgt := 92) F dX12_lays_40 (by decide) (fun c6 => ?_) (fun c6 => ?_)
      · have h := ite_t c6 h
        refine g_iload_n (pc := 92) (x := a3) F dX12_lays_92 rfl 2 rfl ?_
        obtain rfl := Option.some.inj h
        exact g_iret (pc := 93) (Wf := Wm) F Rt rfl dX12_lays_93
      · have h := ite_f c6 h
        refine g_aload_n (pc := 43) (x := em (xE X) 0) F dX12_lays_43 rfl 0 rfl ?_
        refine g_get (pc := 44) (v := .ref (em (xE X) 8)) F fX12_31 0 rfl rfl dX12_lays_44 ?_
        refine g_bipush (pc := 47) F dX12_lays_47 bp_40 ?_
        refine g_iload_n (pc := 49) (x := a1) F dX12_lays_49 rfl 1 rfl ?_
        refine g_imul (pc := 50) F dX12_lays_50 ?_
        refine g_iload (pc := 51) (x := a4) F dX12_lays_51 3 rfl ?_
        refine g_iadd (pc := 53) F dX12_lays_53 ?_
        obtain ⟨i7, h⟩ := ck_some h
        refine g_lald (pc := 54) (N := 160) (fn := M.2 0) (j := (((40 : Int32) * a1) + a4).toNatClampNeg) F 8 1 rfl rfl i7 rfl dX12_lays_54 ?_
        refine g_lstore (pc := 55) (lv2 := [(0, .ref (em (xE X) 0)), (1, .int a1), (3, .int a3), (4, .int a4), (5, .long (M.2 0 ((((40 : Int32) * a1) + a4).toNatClampNeg)))]) F dX12_lays_55 (by rw [hx]; decide) [1, 2, 3, 4, 0] rfl ?_
        refine g_lload (pc := 57) (x := M.2 0 ((((40 : Int32) * a1) + a4).toNatClampNeg)) F dX12_lays_57 4 rfl ?_
        refine g_lconst (pc := 59) (v := (0 : Int64)) F dX12_lays_59 (by decide) ?_
        refine g_lcmp (pc := 60) F dX12_lays_60 ?_
        refine g_if_lt (pc := 61) (tgt := 86) F dX12_lays_61 (by decide) (fun c8 => ?_) (fun c8 => ?_)
        · have h := ite_t c8 h
          refine g_iinc (pc := 86) (lv2 := [(0, .ref (em (xE X) 0)), (1, .int a1), (3, .int a3), (4, .int (a4 + (1 : Int32))), (5, .long (M.2 0 ((((40 : Int32) * a1) + a4).toNatClampNeg)))]) F dX12_lays_86 3 rfl (ii_1 _) (by rw [hx]; decide) [1, 2, 3, 0, 4] rfl ?_
          refine g_goto (pc := 89) (tgt := 21) F dX12_lays_89 (by decide) ?_
          refine g_sub [0, 1, 2, 3] rfl ?_
          exact ih M a1 a3 (a4 + (1 : Int32)) h
        · have h := ite_f c8 h
          refine g_lload (pc := 64) (x := M.2 0 ((((40 : Int32) * a1) + a4).toNatClampNeg)) F dX12_lays_64 4 rfl ?_
          refine g_ldc2 (pc := 66) F oX12_268 dX12_lays_66 ?_
          refine g_lcmp (pc := 69) F dX12_lays_69 ?_
          refine g_if_ge (pc := 70) (tgt := 86) F dX12_lays_70 (by decide) (fun c9 => ?_) (fun c9 => ?_)
          · have h := ite_t c9 h
            refine g_iinc (pc := 86) (lv2 := [(0, .ref (em (xE X) 0)), (1, .int a1), (3, .int a3), (4, .int (a4 + (1 : Int32))), (5, .long (M.2 0 ((((40 : Int32) * a1) + a4).toNatClampNeg)))]) F dX12_lays_86 3 rfl (ii_1 _) (by rw [hx]; decide) [1, 2, 3, 0, 4] rfl ?_
            refine g_goto (pc := 89) (tgt := 21) F dX12_lays_89 (by decide) ?_
            refine g_sub [0, 1, 2, 3] rfl ?_
            exact ih M a1 a3 (a4 + (1 : Int32)) h
          · have h := ite_f c9 h
            refine g_aload_n (pc := 73) (x := em (xE X) 0) F dX12_lays_73 rfl 0 rfl ?_
            refine g_iload (pc := 74) (x := a4) F dX12_lays_74 3 rfl ?_
            refine g_iconst (pc := 76) F dX12_lays_76 ic_2 ?_
            refine g_lload (pc := 77) (x := M.2 0 ((((40 : Int32) * a1) + a4).toNatClampNeg)) F dX12_lays_77 4 rfl ?_
            refine g_l2i (pc := 79) F dX12_lays_79 ?_
            obtain ⟨M10, e11, h⟩ := bd_some h
            refine g_vV (pc := 80) (Wf := Wm) (As := [.int a4, .int (2 : Int32), .int ((M.2 0 ((((40 : Int32) * a1) + a4).toNatClampNeg)).toInt32)]) (rest := []) F (hX12_puts e11 (xl X) (xE X)) kX12_puts lX12_88 0 rfl rfl rfl rfl rfl ⟨(Nat.le_of_ble_eq_true rfl), (Nat.le_of_ble_eq_true rfl)⟩ (Nat.le_of_ble_eq_true rfl) dX12_lays_80 ?_
            refine g_iinc (pc := 83) (lv2 := [(0, .ref (em (xE X) 0)), (1, .int a1), (3, .int (a3 + (1 : Int32))), (4, .int a4), (5, .long (M.2 0 ((((40 : Int32) * a1) + a4).toNatClampNeg)))]) F dX12_lays_83 2 rfl (ii_1 _) (by rw [hx]; decide) [1, 2, 0, 3, 4] rfl ?_
            refine g_iinc (pc := 86) (lv2 := [(0, .ref (em (xE X) 0)), (1, .int a1), (3, .int (a3 + (1 : Int32))), (4, .int (a4 + (1 : Int32))), (5, .long (M.2 0 ((((40 : Int32) * a1) + a4).toNatClampNeg)))]) F dX12_lays_86 3 rfl (ii_1 _) (by rw [hx]; decide) [1, 2, 3, 0, 4] rfl ?_
            refine g_goto (pc := 89) (tgt := 21) F dX12_lays_89 (by decide) ?_
            refine g_sub [0, 1, 2, 3] rfl ?_
            exact ih M10 a1 (a3 + (1 : Int32)) (a4 + (1 : Int32)) h
set_option maxHeartbeats 4000000 in
set_option maxRecDepth 100000 in
theorem hX12_lays {N : Nat} {M : Mem} {a1 : Int32} {res : Int32 × Mem} (h : mX12_lays N M a1 = some res) (l : Launch) (E : Ev) : CtI l E (Wm E) yX12_lays cX12_lays 7 .int 3 63 [.ref (em E 0), .int a1] M res.1 res.2 :=
  ctI_of (Wf := Wm) (av := fun E => [.ref (em E 0), .int a1]) (lv := fun E => [(0, .ref (em E 0)), (1, .int a1)]) (by decide) (fun _ => rfl) (fun _ => (Nat.le_of_ble_eq_true rfl)) (fun X F hx Rt => by
    have F : Fx X cX12_lays RX12 3 63 := F
    unfold mX12_lays at h
    refine g_aload_n (pc := 0) (x := em (xE X) 0) F dX12_lays_0 rfl 0 rfl ?_
    refine g_iload_n (pc := 1) (x := a1) F dX12_lays_1 rfl 1 rfl ?_
    obtain ⟨r1, e2, h⟩ := bd_some h
    refine g_vI (pc := 2) (Wf := Wm) (As := [.int a1]) (rest := []) F (hX12_badSheet e2 (xl X) (xE X)) kX12_badSheet lX12_265 0 rfl rfl rfl rfl rfl ⟨(Nat.le_of_ble_eq_true rfl), (Nat.le_of_ble_eq_true rfl)⟩ (Nat.le_of_ble_eq_true rfl) dX12_lays_2 ?_
    refine g_istore_n (pc := 5) (lv2 := [(0, .ref (em (xE X) 0)), (1, .int a1), (2, .int r1)]) F dX12_lays_5 rfl (by rw [hx]; decide) [1, 2, 0] rfl ?_
    refine g_iload_n (pc := 6) (x := r1) F dX12_lays_6 rfl 2 rfl ?_
    refine g_if_eq (pc := 7) (tgt := 16) F dX12_lays_7 (by decide) (fun c3 => ?_) (fun c3 => ?_)
    · have h := ite_t c3 h
      refine g_iconst (pc := 16) F dX12_lays_16 ic_0 ?_
      refine g_istore_n (pc := 17) (lv2 := [(0, .ref (em (xE X) 0)), (1, .int a1), (2, .int r1), (3, .int (0 : Int32))]) F dX12_lays_17 rfl (by rw [hx]; decide) [1, 2, 3, 0] rfl ?_
      refine g_iconst (pc := 18) F dX12_lays_18 ic_0 ?_
      refine g_istore (pc := 19) (lv2 := [(0, .ref (em (xE X) 0)), (1, .int a1), (2, .int r1), (3, .int (0 : Int32)), (4, .int (0 : Int32))]) F dX12_lays_19 (by rw [hx]; decide) [1, 2, 3, 4, 0] rfl ?_
      refine g_sub [0, 1, 3, 4] rfl ?_
      exact wX12_lays_b21 F hx Rt N M a1 (0 : Int32) (0 : Int32) h
    · have h := ite_f c3 h
      refine g_aload_n (pc := 10) (x := em (xE X) 0) F dX12_lays_10 rfl 0 rfl ?_
      refine g_iload_n (pc := 11) (x := r1) F dX12_lays_11 rfl 2 rfl ?_
      obtain ⟨q12, e13, h⟩ := bd_some h
      refine g_vI (pc := 12) (Wf := Wm) (As := [.int r1]) (rest := []) F (hX12_finds e13 (xl X) (xE X)) kX12_finds lX12_53 0 rfl rfl rfl rfl rfl ⟨(Nat.le_of_ble_eq_true rfl), (Nat.le_of_ble_eq_true rfl)⟩ (Nat.le_of_ble_eq_true rfl) dX12_lays_12 ?_
      obtain rfl := Option.some.inj h
      exact g_iret (pc := 15) (Wf := Wm) F Rt rfl dX12_lays_15) l E
set_option maxHeartbeats 4000000 in
set_option maxRecDepth 100000 in
theorem wX12_book_b43 {X : Cx} (F : Fx X cX12_book RX12 6 133) (hx : xn X = 5) {N : Nat} {res : Int32 × Mem} (Rt : RI X Wm .int res.1 res.2) : ∀ (n : Nat) (M : Mem) (a1 : Int32) (a2 : Int32) (a4 : Int32), mX12_book_b43 N n M a1 a2 a4 = some res → G X (Wm (xE X) M) 43 [(0, .ref (em (xE X) 0)), (1, .int a1), (2, .int a2), (4, .int a4)] [] := by
  intro n
  induction n with
  | zero =>
    intro M a1 a2 a4 h
    have h : none = some res := h
    cases h
  | succ n ih =>
    intro M a1 a2 a4 h
    rw [mX12_book_b43] at h
    refine g_iload (pc := 43) (x := a4) F dX12_book_43 3 rfl ?_
    refine g_aload_n (pc := 45) (x := em (xE X) 0) F dX12_book_45 rfl 0 rfl ?_
    refine g_get (pc := 46) (v := .ref (em (xE X) 7)) F fX12_28 0 rfl rfl dX12_book_46 ?_
    refine g_iload_n (pc := 49) (x := a1) F dX12_book_49 rfl 1 rfl ?_
    obtain ⟨i9, h⟩ := ck_some h
    refine g_iald (pc := 50) (N := 4) (fn := M.1 6) (j := a1.toNatClampNeg) F 7 0 rfl rfl i9 rfl dX12_book_50 ?_
    refine g_icmp_ge (pc := 51) (tgt := 83) F dX12_book_51 (by decide) (fun c10 => ?_) (fun c10 => ?_)
    · have h := ite_t c10 h
      refine g_aload_n (pc := 83) (x := em (xE X) 0) F dX12_book_83 rfl 0 rfl ?_
      refine g_iconst (pc := 84) F dX12_book_84 ic_0 ?_
      refine g_aload_n (pc := 85) (x := em (xE X) 0) F dX12_book_85 rfl 0 rfl ?_
      refine g_get (pc := 86) (v := .ref (em (xE X) 3)) F fX12_16 0 rfl rfl dX12_book_86 ?_
      obtain ⟨M11, e12, h⟩ := bd_some h
      refine g_vV (pc := 89) (Wf := Wm) (As := [.int (0 : Int32), .ref (em (xE X) 3)]) (rest := []) F (hX12_moveAll_2 e12 (xl X) (xE X)) kX12_moveAll lX12_143 0 rfl rfl rfl rfl rfl ⟨(Nat.le_of_ble_eq_true rfl), (Nat.le_of_ble_eq_true rfl)⟩ (Nat.le_of_ble_eq_true rfl) dX12_book_89 ?_
      refine g_aload_n (pc := 92) (x := em (xE X) 0) F dX12_book_92 rfl 0 rfl ?_
      refine g_get (pc := 93) (v := .ref (em (xE X) 7)) F fX12_28 0 rfl rfl dX12_book_93 ?_
      refine g_iload_n (pc := 96) (x := a1) F dX12_book_96 rfl 1 rfl ?_
      obtain ⟨i13, h⟩ := ck_some h
      refine g_iald (pc := 97) (N := 4) (fn := M11.1 6) (j := a1.toNatClampNeg) F 7 0 rfl rfl i13 rfl dX12_book_97 ?_
      obtain rfl := Option.some.inj h
      exact g_iret (pc := 98) (Wf := Wm) F Rt rfl dX12_book_98
    · have h := ite_f c10 h
      refine g_aload_n (pc := 54) (x := em (xE X) 0) F dX12_book_54 rfl 0 rfl ?_
      refine g_get (pc := 55) (v := .ref (em (xE X) 8)) F fX12_31 0 rfl rfl dX12_book_55 ?_
      refine g_bipush (pc := 58) F dX12_book_58 bp_40 ?_
      refine g_iload_n (pc := 60) (x := a1) F dX12_book_60 rfl 1 rfl ?_
      refine g_imul (pc := 61) F dX12_book_61 ?_
      refine g_iload (pc := 62) (x := a4) F dX12_book_62 3 rfl ?_
      refine g_iadd (pc := 64) F dX12_book_64 ?_
      refine g_aload_n (pc := 65) (x := em (xE X) 0) F dX12_book_65 rfl 0 rfl ?_
      refine g_iload_n (pc := 66) (x := a2) F dX12_book_66 rfl 2 rfl ?_
      refine g_iconst (pc := 67) F dX12_book_67 ic_2 ?_
      obtain ⟨r14, e15, h⟩ := bd_some h
      refine g_vI (pc := 68) (Wf := Wm) (As := [.int a2, .int (2 : Int32)]) (rest := [.int (((40 : Int32) * a1) + a4), .ref (em (xE X) 8)]) F (hX12_its e15 (xl X) (xE X)) kX12_its lX12_69 0 rfl rfl rfl rfl rfl ⟨(Nat.le_of_ble_eq_true rfl), (Nat.le_of_ble_eq_true rfl)⟩ (Nat.le_of_ble_eq_true rfl) dX12_book_68 ?_
      refine g_i2l (pc := 71) F dX12_book_71 ?_
      obtain ⟨i16, h⟩ := ck_some h
      refine g_last (pc := 72) (N := 160) (fn := M.2 0) (j := (((40 : Int32) * a1) + a4).toNatClampNeg) (ws2 := Wm (xE X) (sJ M 0 ((((40 : Int32) * a1) + a4).toNatClampNeg) r14.toInt64)) F 8 1 rfl rfl i16 rfl (wml_0 _ _ _ _) dX12_book_72 ?_
      refine g_aload_n (pc := 73) (x := em (xE X) 0) F dX12_book_73 rfl 0 rfl ?_
      obtain ⟨M17, e18, h⟩ := bd_some h
      refine g_vV (pc := 74) (Wf := Wm) (As := []) (rest := []) F (hX12_oneHour e18 (xl X) (xE X)) kX12_oneHour lX12_135 0 rfl rfl rfl rfl rfl ⟨(Nat.le_of_ble_eq_true rfl), (Nat.le_of_ble_eq_true rfl)⟩ (Nat.le_of_ble_eq_true rfl) dX12_book_74 ?_
      refine g_iinc (pc := 77) (lv2 := [(0, .ref (em (xE X) 0)), (1, .int a1), (2, .int a2), (4, .int (a4 + (1 : Int32)))]) F dX12_book_77 3 rfl (ii_1 _) (by rw [hx]; decide) [1, 2, 3, 0] rfl ?_
      refine g_goto (pc := 80) (tgt := 43) F dX12_book_80 (by decide) ?_
      refine g_sub [0, 1, 2, 3] rfl ?_
      exact ih M17 a1 a2 (a4 + (1 : Int32)) h
set_option maxHeartbeats 4000000 in
set_option maxRecDepth 100000 in
theorem hX12_book {N : Nat} {M : Mem} {a1 : Int32} {a2 : Int32} {res : Int32 × Mem} (h : mX12_book N M a1 a2 = some res) (l : Launch) (E : Ev) : CtI l E (Wm E) yX12_book cX12_book 5 .int 6 133 [.ref (em E 0), .int a1, .int a2] M res.1 res.2 :=
  ctI_of (Wf := Wm) (av := fun E => [.ref (em E 0), .int a1, .int a2]) (lv := fun E => [(0, .ref (em E 0)), (1, .int a1), (2, .int a2)]) (by decide) (fun _ => rfl) (fun _ => (Nat.le_of_ble_eq_true rfl)) (fun X F hx Rt => by
    have F : Fx X cX12_book RX12 6 133 := F
    unfold mX12_book at h
    refine g_aload_n (pc := 0) (x := em (xE X) 0) F dX12_book_0 rfl 0 rfl ?_
    refine g_iload_n (pc := 1) (x := a1) F dX12_book_1 rfl 1 rfl ?_
    obtain ⟨r1, e2, h⟩ := bd_some h
    refine g_vI (pc := 2) (Wf := Wm) (As := [.int a1]) (rest := []) F (hX12_badSheet e2 (xl X) (xE X)) kX12_badSheet lX12_265 0 rfl rfl rfl rfl rfl ⟨(Nat.le_of_ble_eq_true rfl), (Nat.le_of_ble_eq_true rfl)⟩ (Nat.le_of_ble_eq_true rfl) dX12_book_2 ?_
    refine g_istore_n (pc := 5) (lv2 := [(0, .ref (em (xE X) 0)), (1, .int a1), (2, .int a2), (3, .int r1)]) F dX12_book_5 rfl (by rw [hx]; decide) [1, 2, 3, 0] rfl ?_
    refine g_iload_n (pc := 6) (x := r1) F dX12_book_6 rfl 3 rfl ?_
    refine g_if_eq (pc := 7) (tgt := 16) F dX12_book_7 (by decide) (fun c3 => ?_) (fun c3 => ?_)
    · have h := ite_t c3 h
      refine g_aload_n (pc := 16) (x := em (xE X) 0) F dX12_book_16 rfl 0 rfl ?_
      refine g_iload_n (pc := 17) (x := a2) F dX12_book_17 rfl 2 rfl ?_
      obtain ⟨r4, e5, h⟩ := bd_some h
      refine g_vI (pc := 18) (Wf := Wm) (As := [.int a2]) (rest := []) F (hX12_isOne e5 (xl X) (xE X)) kX12_isOne lX12_99 0 rfl rfl rfl rfl rfl ⟨(Nat.le_of_ble_eq_true rfl), (Nat.le_of_ble_eq_true rfl)⟩ (Nat.le_of_ble_eq_true rfl) dX12_book_18 ?_
      refine g_if_ne (pc := 21) (tgt := 31) F dX12_book_21 (by decide) (fun c6 => ?_) (fun c6 => ?_)
      · have h := ite_f c6 h
        refine g_aload_n (pc := 31) (x := em (xE X) 0) F dX12_book_31 rfl 0 rfl ?_
        refine g_iconst (pc := 32) F dX12_book_32 ic_1 ?_
        refine g_aload_n (pc := 33) (x := em (xE X) 0) F dX12_book_33 rfl 0 rfl ?_
        refine g_get (pc := 34) (v := .ref (em (xE X) 3)) F fX12_16 0 rfl rfl dX12_book_34 ?_
        obtain ⟨M7, e8, h⟩ := bd_some h
        refine g_vV (pc := 37) (Wf := Wm) (As := [.int (1 : Int32), .ref (em (xE X) 3)]) (rest := []) F (hX12_moveAll_2 e8 (xl X) (xE X)) kX12_moveAll lX12_143 0 rfl rfl rfl rfl rfl ⟨(Nat.le_of_ble_eq_true rfl), (Nat.le_of_ble_eq_true rfl)⟩ (Nat.le_of_ble_eq_true rfl) dX12_book_37 ?_
        refine g_iconst (pc := 40) F dX12_book_40 ic_0 ?_
        refine g_istore (pc := 41) (lv2 := [(0, .ref (em (xE X) 0)), (1, .int a1), (2, .int a2), (3, .int r1), (4, .int (0 : Int32))]) F dX12_book_41 (by rw [hx]; decide) [1, 2, 3, 4, 0] rfl ?_
        refine g_sub [0, 1, 2, 4] rfl ?_
        exact wX12_book_b43 F hx Rt N M7 a1 a2 (0 : Int32) h
      · have h := ite_t c6 h
        refine g_aload_n (pc := 24) (x := em (xE X) 0) F dX12_book_24 rfl 0 rfl ?_
        refine g_ldc (pc := 25) F oX12_44 dX12_book_25 ?_
        obtain ⟨q19, e20, h⟩ := bd_some h
        refine g_vI (pc := 27) (Wf := Wm) (As := [.int (-1000000001 : Int32)]) (rest := []) F (hX12_finds e20 (xl X) (xE X)) kX12_finds lX12_53 0 rfl rfl rfl rfl rfl ⟨(Nat.le_of_ble_eq_true rfl), (Nat.le_of_ble_eq_true rfl)⟩ (Nat.le_of_ble_eq_true rfl) dX12_book_27 ?_
        obtain rfl := Option.some.inj h
        exact g_iret (pc := 30) (Wf := Wm) F Rt rfl dX12_book_30
    · have h := ite_f c3 h
      refine g_aload_n (pc := 10) (x := em (xE X) 0) F dX12_book_10 rfl 0 rfl ?_
      refine g_iload_n (pc := 11) (x := r1) F dX12_book_11 rfl 3 rfl ?_
      obtain ⟨q21, e22, h⟩ := bd_some h
      refine g_vI (pc := 12) (Wf := Wm) (As := [.int r1]) (rest := []) F (hX12_finds e22 (xl X) (xE X)) kX12_finds lX12_53 0 rfl rfl rfl rfl rfl ⟨(Nat.le_of_ble_eq_true rfl), (Nat.le_of_ble_eq_true rfl)⟩ (Nat.le_of_ble_eq_true rfl) dX12_book_12 ?_
      obtain rfl := Option.some.inj h
      exact g_iret (pc := 15) (Wf := Wm) F Rt rfl dX12_book_15) l E
set_option maxHeartbeats 4000000 in
set_option maxRecDepth 100000 in
theorem wX12_isSo_b5 {X : Cx} (F : Fx X cX12_isSo RX12 6 133) (hx : xn X = 5) {N : Nat} {res : Int32 × Mem} (Rt : RI X Wm .boolean res.1 res.2) : ∀ (n : Nat) (M : Mem) (a1 : Int32) (a2 : Int32) (a3 : Int32) (a4 : Int32), mX12_isSo_b5 N n M a1 a2 a3 a4 = some res → G X (Wm (xE X) M) 5 [(0, .ref (em (xE X) 0)), (1, .int a1), (2, .int a2), (3, .int a3), (4, .int a4)] [] := by
  intro n
  induction n with
  | zero =>
    intro M a1 a2 a3 a4 h
    have h : none = some res := h
    cases h
  | succ n ih =>
    intro M a1 a2 a3 a4 h
    rw [mX12_isSo_b5] at h
    refine g_iload (pc := 5) (x := a4) F dX12_isSo_5 4 rfl ?_
    refine g_aload_n (pc := 7) (x := em (xE X) 0) F dX12_isSo_7 rfl 0 rfl ?_
    refine g_get (pc := 8) (v := .ref (em (xE X) 7)) F fX12_28 0 rfl rfl dX12_isSo_8 ?_
    refine g_iload_n (pc := 11) (x := a1) F dX12_isSo_11 rfl 1 rfl ?_
    obtain ⟨i1, h⟩ := ck_some h
    refine g_iald (pc := 12) (N := 4) (fn := M.1 6) (j := a1.toNatClampNeg) F 7 0 rfl rfl i1 rfl dX12_isSo_12 ?_
    refine g_icmp_ge (pc := 13) (tgt := 59) F dX12_isSo_13 (by decide) (fun c2 => ?_) (fun c2 => ?_)
    · have h := ite_t c2 h
      refine g_iload_n (pc := 59) (x := a3) F dX12_isSo_59 rfl 3 rfl ?_
      obtain ⟨b3, h⟩ := ck_some h
      obtain rfl := Option.some.inj h
      exact g_iret (pc := 60) (Wf := Wm) F Rt (nb01 b3).1 dX12_isSo_60
    · have h := ite_f c2 h
      refine g_iload_n (pc := 16) (x := a3) F dX12_isSo_16 rfl 3 rfl ?_
      refine g_if_eq (pc := 17) (tgt := 59) F dX12_isSo_17 (by decide) (fun c4 => ?_) (fun c4 => ?_)
      · have h := ite_t c4 h
        refine g_iload_n (pc := 59) (x := a3) F dX12_isSo_59 rfl 3 rfl ?_
        obtain ⟨b5, h⟩ := ck_some h
        obtain rfl := Option.some.inj h
        exact g_iret (pc := 60) (Wf := Wm) F Rt (nb01 b5).1 dX12_isSo_60
      · have h := ite_f c4 h
        refine g_aload_n (pc := 20) (x := em (xE X) 0) F dX12_isSo_20 rfl 0 rfl ?_
        refine g_get (pc := 21) (v := .ref (em (xE X) 8)) F fX12_31 0 rfl rfl dX12_isSo_21 ?_
        refine g_bipush (pc := 24) F dX12_isSo_24 bp_40 ?_
        refine g_iload_n (pc := 26) (x := a1) F dX12_isSo_26 rfl 1 rfl ?_
        refine g_imul (pc := 27) F dX12_isSo_27 ?_
        refine g_iload (pc := 28) (x := a4) F dX12_isSo_28 4 rfl ?_
        refine g_iadd (pc := 30) F dX12_isSo_30 ?_
        obtain ⟨i6, h⟩ := ck_some h
        refine g_lald (pc := 31) (N := 160) (fn := M.2 0) (j := (((40 : Int32) * a1) + a4).toNatClampNeg) F 8 1 rfl rfl i6 rfl dX12_isSo_31 ?_
        refine g_aload_n (pc := 32) (x := em (xE X) 0) F dX12_isSo_32 rfl 0 rfl ?_
        refine g_iload_n (pc := 33) (x := a2) F dX12_isSo_33 rfl 2 rfl ?_
        refine g_iconst (pc := 34) F dX12_isSo_34 ic_2 ?_
        obtain ⟨r7, e8, h⟩ := bd_some h
        refine g_vI (pc := 35) (Wf := Wm) (As := [.int a2, .int (2 : Int32)]) (rest := [.long (M.2 0 ((((40 : Int32) * a1) + a4).toNatClampNeg))]) F (hX12_its e8 (xl X) (xE X)) kX12_its lX12_69 0 rfl rfl rfl rfl rfl ⟨(Nat.le_of_ble_eq_true rfl), (Nat.le_of_ble_eq_true rfl)⟩ (Nat.le_of_ble_eq_true rfl) dX12_isSo_35 ?_
        refine g_i2l (pc := 38) F dX12_isSo_38 ?_
        refine g_lcmp (pc := 39) F dX12_isSo_39 ?_
        refine g_if_ne (pc := 40) (tgt := 47) F dX12_isSo_40 (by decide) (fun c9 => ?_) (fun c9 => ?_)
        · have h := ite_f c9 h
          refine g_iconst (pc := 47) F dX12_isSo_47 ic_0 ?_
          refine g_istore_n (pc := 48) (lv2 := [(0, .ref (em (xE X) 0)), (1, .int a1), (2, .int a2), (3, .int (0 : Int32)), (4, .int a4)]) F dX12_isSo_48 rfl (by rw [hx]; decide) [1, 2, 3, 0, 4] rfl ?_
          refine g_aload_n (pc := 49) (x := em (xE X) 0) F dX12_isSo_49 rfl 0 rfl ?_
          obtain ⟨M10, e11, h⟩ := bd_some h
          refine g_vV (pc := 50) (Wf := Wm) (As := []) (rest := []) F (hX12_oneHour e11 (xl X) (xE X)) kX12_oneHour lX12_135 0 rfl rfl rfl rfl rfl ⟨(Nat.le_of_ble_eq_true rfl), (Nat.le_of_ble_eq_true rfl)⟩ (Nat.le_of_ble_eq_true rfl) dX12_isSo_50 ?_
          refine g_iinc (pc := 53) (lv2 := [(0, .ref (em (xE X) 0)), (1, .int a1), (2, .int a2), (3, .int (0 : Int32)), (4, .int (a4 + (1 : Int32)))]) F dX12_isSo_53 4 rfl (ii_1 _) (by rw [hx]; decide) [1, 2, 3, 4, 0] rfl ?_
          refine g_goto (pc := 56) (tgt := 5) F dX12_isSo_56 (by decide) ?_
          refine g_sub [0, 1, 2, 3, 4] rfl ?_
          exact ih M10 a1 a2 (0 : Int32) (a4 + (1 : Int32)) h
        · have h := ite_t c9 h
          refine g_iconst (pc := 43) F dX12_isSo_43 ic_1 ?_
          refine g_goto (pc := 44) (tgt := 48) F dX12_isSo_44 (by decide) ?_
          refine g_istore_n (pc := 48) (lv2 := [(0, .ref (em (xE X) 0)), (1, .int a1), (2, .int a2), (3, .int (1 : Int32)), (4, .int a4)]) F dX12_isSo_48 rfl (by rw [hx]; decide) [1, 2, 3, 0, 4] rfl ?_
          refine g_aload_n (pc := 49) (x := em (xE X) 0) F dX12_isSo_49 rfl 0 rfl ?_
          obtain ⟨M12, e13, h⟩ := bd_some h
          refine g_vV (pc := 50) (Wf := Wm) (As := []) (rest := []) F (hX12_oneHour e13 (xl X) (xE X)) kX12_oneHour lX12_135 0 rfl rfl rfl rfl rfl ⟨(Nat.le_of_ble_eq_true rfl), (Nat.le_of_ble_eq_true rfl)⟩ (Nat.le_of_ble_eq_true rfl) dX12_isSo_50 ?_
          refine g_iinc (pc := 53) (lv2 := [(0, .ref (em (xE X) 0)), (1, .int a1), (2, .int a2), (3, .int (1 : Int32)), (4, .int (a4 + (1 : Int32)))]) F dX12_isSo_53 4 rfl (ii_1 _) (by rw [hx]; decide) [1, 2, 3, 4, 0] rfl ?_
          refine g_goto (pc := 56) (tgt := 5) F dX12_isSo_56 (by decide) ?_
          refine g_sub [0, 1, 2, 3, 4] rfl ?_
          exact ih M12 a1 a2 (1 : Int32) (a4 + (1 : Int32)) h
set_option maxHeartbeats 4000000 in
set_option maxRecDepth 100000 in
theorem hX12_isSo {N : Nat} {M : Mem} {a1 : Int32} {a2 : Int32} {res : Int32 × Mem} (h : mX12_isSo N M a1 a2 = some res) (l : Launch) (E : Ev) : CtI l E (Wm E) yX12_isSo cX12_isSo 5 .boolean 6 133 [.ref (em E 0), .int a1, .int a2] M res.1 res.2 :=
  ctI_of (Wf := Wm) (av := fun E => [.ref (em E 0), .int a1, .int a2]) (lv := fun E => [(0, .ref (em E 0)), (1, .int a1), (2, .int a2)]) (by decide) (fun _ => rfl) (fun _ => (Nat.le_of_ble_eq_true rfl)) (fun X F hx Rt => by
    have F : Fx X cX12_isSo RX12 6 133 := F
    unfold mX12_isSo at h
    refine g_iconst (pc := 0) F dX12_isSo_0 ic_1 ?_
    refine g_istore_n (pc := 1) (lv2 := [(0, .ref (em (xE X) 0)), (1, .int a1), (2, .int a2), (3, .int (1 : Int32))]) F dX12_isSo_1 rfl (by rw [hx]; decide) [1, 2, 3, 0] rfl ?_
    refine g_iconst (pc := 2) F dX12_isSo_2 ic_0 ?_
    refine g_istore (pc := 3) (lv2 := [(0, .ref (em (xE X) 0)), (1, .int a1), (2, .int a2), (3, .int (1 : Int32)), (4, .int (0 : Int32))]) F dX12_isSo_3 (by rw [hx]; decide) [1, 2, 3, 4, 0] rfl ?_
    refine g_sub [0, 1, 2, 3, 4] rfl ?_
    exact wX12_isSo_b5 F hx Rt N M a1 a2 (1 : Int32) (0 : Int32) h) l E
set_option maxHeartbeats 4000000 in
set_option maxRecDepth 100000 in
theorem wX12_read_b91 {X : Cx} (F : Fx X cX12_read RX12 7 157) (hx : xn X = 6) {N : Nat} {res : Int32 × Mem} (Rt : RI X Wm .int res.1 res.2) {K46 : Mem → Int32 → Int32 → Int32 → Int32 → Option (Int32 × Mem)} (hK46 : ∀ (M : Mem) (a1 : Int32) (a2 : Int32) (a4 : Int32) (a5 : Int32), K46 M a1 a2 a4 a5 = some res → G X (Wm (xE X) M) 46 [(0, .ref (em (xE X) 0)), (1, .int a1), (2, .int a2), (4, .int a4), (5, .int a5)] []) : ∀ (M : Mem) (a1 : Int32) (a2 : Int32) (a5 : Int32) (s0 : Int32) (s1 : Int32), mX12_read_b91 N K46 M a1 a2 a5 s0 s1 = some res → G X (Wm (xE X) M) 91 [(0, .ref (em (xE X) 0)), (1, .int a1), (2, .int a2), (5, .int a5)] [.int s1, .int s0] := by
  intro M a1 a2 a5 s0 s1 h
  unfold mX12_read_b91 at h
  refine g_iadd (pc := 91) F dX12_read_91 ?_
  refine g_istore (pc := 92) (lv2 := [(0, .ref (em (xE X) 0)), (1, .int a1), (2, .int a2), (4, .int (s0 + s1)), (5, .int a5)]) F dX12_read_92 (by rw [hx]; decide) [1, 2, 3, 0, 4] rfl ?_
  refine g_aload_n (pc := 94) (x := em (xE X) 0) F dX12_read_94 rfl 0 rfl ?_
  refine g_iconst (pc := 95) F dX12_read_95 ic_0 ?_
  refine g_aload_n (pc := 96) (x := em (xE X) 0) F dX12_read_96 rfl 0 rfl ?_
  refine g_get (pc := 97) (v := .ref (em (xE X) 4)) F fX12_19 0 rfl rfl dX12_read_97 ?_
  obtain ⟨M15, e16, h⟩ := bd_some h
  refine g_vV (pc := 100) (Wf := Wm) (As := [.int (0 : Int32), .ref (em (xE X) 4)]) (rest := []) F (hX12_moveAll_3 e16 (xl X) (xE X)) kX12_moveAll lX12_143 0 rfl rfl rfl rfl rfl ⟨(Nat.le_of_ble_eq_true rfl), (Nat.le_of_ble_eq_true rfl)⟩ (Nat.le_of_ble_eq_true rfl) dX12_read_100 ?_
  refine g_iinc (pc := 103) (lv2 := [(0, .ref (em (xE X) 0)), (1, .int a1), (2, .int a2), (4, .int (s0 + s1)), (5, .int (a5 + (1 : Int32)))]) F dX12_read_103 4 rfl (ii_1 _) (by rw [hx]; decide) [1, 2, 3, 4, 0] rfl ?_
  refine g_goto (pc := 106) (tgt := 46) F dX12_read_106 (by decide) ?_
  refine g_sub [0, 1, 2, 3, 4] rfl ?_
  exact hK46 M15 a1 a2 (s0 + s1) (a5 + (1 : Int32)) h
set_option maxHeartbeats 4000000 in
set_option maxRecDepth 100000 in
theorem wX12_read_b46 {X : Cx} (F : Fx X cX12_read RX12 7 157) (hx : xn X = 6) {N : Nat} {res : Int32 × Mem} (Rt : RI X Wm .int res.1 res.2) : ∀ (n : Nat) (M : Mem) (a1 : Int32) (a2 : Int32) (a4 : Int32) (a5 : Int32), mX12_read_b46 N n M a1 a2 a4 a5 = some res → G X (Wm (xE X) M) 46 [(0, .ref (em (xE X) 0)), (1, .int a1), (2, .int a2), (4, .int a4), (5, .int a5)] [] := by
  intro n
  induction n with
  | zero =>
    intro M a1 a2 a4 a5 h
    have h : none = some res := h
    cases h
  | succ n ih =>
    intro M a1 a2 a4 a5 h
    rw [mX12_read_b46] at h
    refine g_iload (pc := 46) (x := a5) F dX12_read_46 4 rfl ?_
    refine g_bipush (pc := 48) F dX12_read_48 bp_60 ?_
    refine g_icmp_ge (pc := 50) (tgt := 109) F dX12_read_50 (by decide) (fun c9 => ?_) (fun c9 => ?_)
    · have h := ite_t c9 h
      refine g_iload (pc := 109) (x := a4) F dX12_read_109 3 rfl ?_
      obtain rfl := Option.some.inj h
      exact g_iret (pc := 111) (Wf := Wm) F Rt rfl dX12_read_111
    · have h := ite_f c9 h
      refine g_aload_n (pc := 53) (x := em (xE X) 0) F dX12_read_53 rfl 0 rfl ?_
      refine g_iload_n (pc := 54) (x := a2) F dX12_read_54 rfl 2 rfl ?_
      refine g_iconst (pc := 55) F dX12_read_55 ic_0 ?_
      refine g_iload (pc := 56) (x := a5) F dX12_read_56 4 rfl ?_
      refine g_bipush (pc := 58) F dX12_read_58 bp_10 ?_
      refine g_idiv (pc := 60) F dX12_read_60 (by decide) ?_
      obtain ⟨M10, e11, h⟩ := bd_some h
      refine g_vV (pc := 61) (Wf := Wm) (As := [.int a2, .int (0 : Int32), .int (a5 / (10 : Int32))]) (rest := []) F (hX12_puts e11 (xl X) (xE X)) kX12_puts lX12_88 0 rfl rfl rfl rfl rfl ⟨(Nat.le_of_ble_eq_true rfl), (Nat.le_of_ble_eq_true rfl)⟩ (Nat.le_of_ble_eq_true rfl) dX12_read_61 ?_
      refine g_aload_n (pc := 64) (x := em (xE X) 0) F dX12_read_64 rfl 0 rfl ?_
      refine g_get (pc := 65) (v := .ref (em (xE X) 1)) F fX12_7 0 rfl rfl dX12_read_65 ?_
      refine g_iconst (pc := 68) F dX12_read_68 ic_4 ?_
      refine g_iload (pc := 69) (x := a5) F dX12_read_69 4 rfl ?_
      refine g_bipush (pc := 71) F dX12_read_71 bp_10 ?_
      refine g_irem (pc := 73) F dX12_read_73 (by decide) ?_
      refine g_iast (pc := 74) (N := 48) (fn := M10.1 0) (j := 4) (ws2 := Wm (xE X) (sI M10 0 4 (a5 - a5 / (10 : Int32) * (10 : Int32)))) F 1 0 rfl rfl vi_4_48 cl_4 (wma_0 _ _ _ _) dX12_read_74 ?_
      refine g_iload (pc := 75) (x := a4) F dX12_read_75 3 rfl ?_
      refine g_aload_n (pc := 77) (x := em (xE X) 0) F dX12_read_77 rfl 0 rfl ?_
      refine g_iload_n (pc := 78) (x := a1) F dX12_read_78 rfl 1 rfl ?_
      refine g_iload_n (pc := 79) (x := a2) F dX12_read_79 rfl 2 rfl ?_
      obtain ⟨q12, e13, h⟩ := bd_some h
      refine g_vI (pc := 80) (Wf := Wm) (As := [.int a1, .int a2]) (rest := [.int a4]) F (hX12_isSo e13 (xl X) (xE X)) kX12_isSo lX12_270 0 rfl rfl rfl rfl rfl ⟨(Nat.le_of_ble_eq_true rfl), (Nat.le_of_ble_eq_true rfl)⟩ (Nat.le_of_ble_eq_true rfl) dX12_read_80 ?_
      refine g_if_eq (pc := 83) (tgt := 90) F dX12_read_83 (by decide) (fun c14 => ?_) (fun c14 => ?_)
      · have h := ite_t c14 h
        refine g_iconst (pc := 90) F dX12_read_90 ic_0 ?_
        refine g_sub [0, 1, 2, 4] rfl ?_
        exact wX12_read_b91 F hx Rt ih q12.2 a1 a2 a5 a4 (0 : Int32) h
      · have h := ite_f c14 h
        refine g_iconst (pc := 86) F dX12_read_86 ic_1 ?_
        refine g_goto (pc := 87) (tgt := 91) F dX12_read_87 (by decide) ?_
        refine g_sub [0, 1, 2, 4] rfl ?_
        exact wX12_read_b91 F hx Rt ih q12.2 a1 a2 a5 a4 (1 : Int32) h
set_option maxHeartbeats 4000000 in
set_option maxRecDepth 100000 in
theorem hX12_read {N : Nat} {M : Mem} {a1 : Int32} {a2 : Int32} {res : Int32 × Mem} (h : mX12_read N M a1 a2 = some res) (l : Launch) (E : Ev) : CtI l E (Wm E) yX12_read cX12_read 6 .int 7 157 [.ref (em E 0), .int a1, .int a2] M res.1 res.2 :=
  ctI_of (Wf := Wm) (av := fun E => [.ref (em E 0), .int a1, .int a2]) (lv := fun E => [(0, .ref (em E 0)), (1, .int a1), (2, .int a2)]) (by decide) (fun _ => rfl) (fun _ => (Nat.le_of_ble_eq_true rfl)) (fun X F hx Rt => by
    have F : Fx X cX12_read RX12 7 157 := F
    unfold mX12_read at h
    refine g_aload_n (pc := 0) (x := em (xE X) 0) F dX12_read_0 rfl 0 rfl ?_
    refine g_iload_n (pc := 1) (x := a1) F dX12_read_1 rfl 1 rfl ?_
    obtain ⟨r1, e2, h⟩ := bd_some h
    refine g_vI (pc := 2) (Wf := Wm) (As := [.int a1]) (rest := []) F (hX12_badSheet e2 (xl X) (xE X)) kX12_badSheet lX12_265 0 rfl rfl rfl rfl rfl ⟨(Nat.le_of_ble_eq_true rfl), (Nat.le_of_ble_eq_true rfl)⟩ (Nat.le_of_ble_eq_true rfl) dX12_read_2 ?_
    refine g_istore_n (pc := 5) (lv2 := [(0, .ref (em (xE X) 0)), (1, .int a1), (2, .int a2), (3, .int r1)]) F dX12_read_5 rfl (by rw [hx]; decide) [1, 2, 3, 0] rfl ?_
    refine g_iload_n (pc := 6) (x := r1) F dX12_read_6 rfl 3 rfl ?_
    refine g_if_eq (pc := 7) (tgt := 16) F dX12_read_7 (by decide) (fun c3 => ?_) (fun c3 => ?_)
    · have h := ite_t c3 h
      refine g_aload_n (pc := 16) (x := em (xE X) 0) F dX12_read_16 rfl 0 rfl ?_
      refine g_iload_n (pc := 17) (x := a2) F dX12_read_17 rfl 2 rfl ?_
      obtain ⟨r4, e5, h⟩ := bd_some h
      refine g_vI (pc := 18) (Wf := Wm) (As := [.int a2]) (rest := []) F (hX12_isOne e5 (xl X) (xE X)) kX12_isOne lX12_99 0 rfl rfl rfl rfl rfl ⟨(Nat.le_of_ble_eq_true rfl), (Nat.le_of_ble_eq_true rfl)⟩ (Nat.le_of_ble_eq_true rfl) dX12_read_18 ?_
      refine g_if_ne (pc := 21) (tgt := 31) F dX12_read_21 (by decide) (fun c6 => ?_) (fun c6 => ?_)
      · have h := ite_f c6 h
        refine g_iconst (pc := 31) F dX12_read_31 ic_0 ?_
        refine g_istore (pc := 32) (lv2 := [(0, .ref (em (xE X) 0)), (1, .int a1), (2, .int a2), (3, .int r1), (4, .int (0 : Int32))]) F dX12_read_32 (by rw [hx]; decide) [1, 2, 3, 4, 0] rfl ?_
        refine g_aload_n (pc := 34) (x := em (xE X) 0) F dX12_read_34 rfl 0 rfl ?_
        refine g_iconst (pc := 35) F dX12_read_35 ic_1 ?_
        refine g_aload_n (pc := 36) (x := em (xE X) 0) F dX12_read_36 rfl 0 rfl ?_
        refine g_get (pc := 37) (v := .ref (em (xE X) 4)) F fX12_19 0 rfl rfl dX12_read_37 ?_
        obtain ⟨M7, e8, h⟩ := bd_some h
        refine g_vV (pc := 40) (Wf := Wm) (As := [.int (1 : Int32), .ref (em (xE X) 4)]) (rest := []) F (hX12_moveAll_3 e8 (xl X) (xE X)) kX12_moveAll lX12_143 0 rfl rfl rfl rfl rfl ⟨(Nat.le_of_ble_eq_true rfl), (Nat.le_of_ble_eq_true rfl)⟩ (Nat.le_of_ble_eq_true rfl) dX12_read_40 ?_
        refine g_iconst (pc := 43) F dX12_read_43 ic_0 ?_
        refine g_istore (pc := 44) (lv2 := [(0, .ref (em (xE X) 0)), (1, .int a1), (2, .int a2), (3, .int r1), (4, .int (0 : Int32)), (5, .int (0 : Int32))]) F dX12_read_44 (by rw [hx]; decide) [1, 2, 3, 4, 5, 0] rfl ?_
        refine g_sub [0, 1, 2, 4, 5] rfl ?_
        exact wX12_read_b46 F hx Rt N M7 a1 a2 (0 : Int32) (0 : Int32) h
      · have h := ite_t c6 h
        refine g_aload_n (pc := 24) (x := em (xE X) 0) F dX12_read_24 rfl 0 rfl ?_
        refine g_ldc (pc := 25) F oX12_44 dX12_read_25 ?_
        obtain ⟨q17, e18, h⟩ := bd_some h
        refine g_vI (pc := 27) (Wf := Wm) (As := [.int (-1000000001 : Int32)]) (rest := []) F (hX12_finds e18 (xl X) (xE X)) kX12_finds lX12_53 0 rfl rfl rfl rfl rfl ⟨(Nat.le_of_ble_eq_true rfl), (Nat.le_of_ble_eq_true rfl)⟩ (Nat.le_of_ble_eq_true rfl) dX12_read_27 ?_
        obtain rfl := Option.some.inj h
        exact g_iret (pc := 30) (Wf := Wm) F Rt rfl dX12_read_30
    · have h := ite_f c3 h
      refine g_aload_n (pc := 10) (x := em (xE X) 0) F dX12_read_10 rfl 0 rfl ?_
      refine g_iload_n (pc := 11) (x := r1) F dX12_read_11 rfl 3 rfl ?_
      obtain ⟨q19, e20, h⟩ := bd_some h
      refine g_vI (pc := 12) (Wf := Wm) (As := [.int r1]) (rest := []) F (hX12_finds e20 (xl X) (xE X)) kX12_finds lX12_53 0 rfl rfl rfl rfl rfl ⟨(Nat.le_of_ble_eq_true rfl), (Nat.le_of_ble_eq_true rfl)⟩ (Nat.le_of_ble_eq_true rfl) dX12_read_12 ?_
      obtain rfl := Option.some.inj h
      exact g_iret (pc := 15) (Wf := Wm) F Rt rfl dX12_read_15) l E
set_option maxHeartbeats 4000000 in
set_option maxRecDepth 100000 in
theorem hX12_image {N : Nat} {M : Mem} {res : Int32 × Mem} (h : mX12_image N M = some res) (l : Launch) (E : Ev) : CtI l E (Wm E) yX12_image cX12_image 1 .int 1 23 [.ref (em E 0)] M res.1 res.2 :=
  ctI_of (Wf := Wm) (av := fun E => [.ref (em E 0)]) (lv := fun E => [(0, .ref (em E 0))]) (by decide) (fun _ => rfl) (fun _ => (Nat.le_of_ble_eq_true rfl)) (fun X F hx Rt => by
    have F : Fx X cX12_image RX12 1 23 := F
    unfold mX12_image at h
    refine g_aload_n (pc := 0) (x := em (xE X) 0) F dX12_image_0 rfl 0 rfl ?_
    refine g_iconst (pc := 1) F dX12_image_1 ic_1 ?_
    refine g_aload_n (pc := 2) (x := em (xE X) 0) F dX12_image_2 rfl 0 rfl ?_
    refine g_get (pc := 3) (v := .ref (em (xE X) 10)) F fX12_38 0 rfl rfl dX12_image_3 ?_
    obtain ⟨M1, e2, h⟩ := bd_some h
    refine g_vV (pc := 6) (Wf := Wm) (As := [.int (1 : Int32), .ref (em (xE X) 10)]) (rest := []) F (hX12_moveAll_7 e2 (xl X) (xE X)) kX12_moveAll lX12_143 0 rfl rfl rfl rfl rfl ⟨(Nat.le_of_ble_eq_true rfl), (Nat.le_of_ble_eq_true rfl)⟩ (Nat.le_of_ble_eq_true rfl) dX12_image_6 ?_
    refine g_aload_n (pc := 9) (x := em (xE X) 0) F dX12_image_9 rfl 0 rfl ?_
    refine g_iconst (pc := 10) F dX12_image_10 ic_1 ?_
    refine g_put (pc := 11) (ws2 := Wm (xE X) (sI M1 9 18 (1 : Int32))) F pX12_273 0 rfl (by decide) (by decide) (Nat.le_of_ble_eq_true rfl) (wmp_18 _ _ _) dX12_image_11 ?_
    refine g_iconst (pc := 14) F dX12_image_14 ic_1 ?_
    obtain rfl := Option.some.inj h
    exact g_iret (pc := 15) (Wf := Wm) F Rt rfl dX12_image_15) l E
set_option maxHeartbeats 4000000 in
set_option maxRecDepth 100000 in
theorem hX12_undo {N : Nat} {M : Mem} {res : Int32 × Mem} (h : mX12_undo N M = some res) (l : Launch) (E : Ev) : CtI l E (Wm E) yX12_undo cX12_undo 1 .int 1 23 [.ref (em E 0)] M res.1 res.2 :=
  ctI_of (Wf := Wm) (av := fun E => [.ref (em E 0)]) (lv := fun E => [(0, .ref (em E 0))]) (by decide) (fun _ => rfl) (fun _ => (Nat.le_of_ble_eq_true rfl)) (fun X F hx Rt => by
    have F : Fx X cX12_undo RX12 1 23 := F
    unfold mX12_undo at h
    refine g_aload_n (pc := 0) (x := em (xE X) 0) F dX12_undo_0 rfl 0 rfl ?_
    refine g_get (pc := 1) (v := .int (M.1 9 18)) F fX12_273 0 rfl rfl dX12_undo_1 ?_
    refine g_if_ne (pc := 4) (tgt := 14) F dX12_undo_4 (by decide) (fun c1 => ?_) (fun c1 => ?_)
    · have h := ite_f c1 h
      refine g_aload_n (pc := 14) (x := em (xE X) 0) F dX12_undo_14 rfl 0 rfl ?_
      refine g_iconst (pc := 15) F dX12_undo_15 ic_0 ?_
      refine g_aload_n (pc := 16) (x := em (xE X) 0) F dX12_undo_16 rfl 0 rfl ?_
      refine g_get (pc := 17) (v := .ref (em (xE X) 10)) F fX12_38 0 rfl rfl dX12_undo_17 ?_
      obtain ⟨M2, e3, h⟩ := bd_some h
      refine g_vV (pc := 20) (Wf := Wm) (As := [.int (0 : Int32), .ref (em (xE X) 10)]) (rest := []) F (hX12_moveAll_7 e3 (xl X) (xE X)) kX12_moveAll lX12_143 0 rfl rfl rfl rfl rfl ⟨(Nat.le_of_ble_eq_true rfl), (Nat.le_of_ble_eq_true rfl)⟩ (Nat.le_of_ble_eq_true rfl) dX12_undo_20 ?_
      refine g_aload_n (pc := 23) (x := em (xE X) 0) F dX12_undo_23 rfl 0 rfl ?_
      refine g_get (pc := 24) (v := .ref (em (xE X) 1)) F fX12_7 0 rfl rfl dX12_undo_24 ?_
      refine g_iconst (pc := 27) F dX12_undo_27 ic_5 ?_
      refine g_iald (pc := 28) (N := 48) (fn := M2.1 0) (j := 5) F 1 0 rfl rfl vi_5_48 cl_5 dX12_undo_28 ?_
      obtain rfl := Option.some.inj h
      exact g_iret (pc := 29) (Wf := Wm) F Rt rfl dX12_undo_29
    · have h := ite_t c1 h
      refine g_aload_n (pc := 7) (x := em (xE X) 0) F dX12_undo_7 rfl 0 rfl ?_
      refine g_ldc (pc := 8) F oX12_150 dX12_undo_8 ?_
      obtain ⟨q4, e5, h⟩ := bd_some h
      refine g_vI (pc := 10) (Wf := Wm) (As := [.int (-1000000004 : Int32)]) (rest := []) F (hX12_finds e5 (xl X) (xE X)) kX12_finds lX12_53 0 rfl rfl rfl rfl rfl ⟨(Nat.le_of_ble_eq_true rfl), (Nat.le_of_ble_eq_true rfl)⟩ (Nat.le_of_ble_eq_true rfl) dX12_undo_10 ?_
      obtain rfl := Option.some.inj h
      exact g_iret (pc := 13) (Wf := Wm) F Rt rfl dX12_undo_13) l E
set_option maxHeartbeats 4000000 in
set_option maxRecDepth 100000 in
theorem hX12_tear {M : Mem} {res : Int32 × Mem} (h : mX12_tear M = some res) (l : Launch) (E : Ev) : CtI l E (Wm E) yX12_tear cX12_tear 2 .int 0 0 [.ref (em E 0)] M res.1 res.2 :=
  ctI_of (Wf := Wm) (av := fun E => [.ref (em E 0)]) (lv := fun E => [(0, .ref (em E 0))]) (by decide) (fun _ => rfl) (fun _ => (Nat.le_of_ble_eq_true rfl)) (fun X F hx Rt => by
    have F : Fx X cX12_tear RX12 0 0 := F
    unfold mX12_tear at h
    refine g_aload_n (pc := 0) (x := em (xE X) 0) F dX12_tear_0 rfl 0 rfl ?_
    refine g_get (pc := 1) (v := .int (M.1 9 18)) F fX12_273 0 rfl rfl dX12_tear_1 ?_
    refine g_if_eq (pc := 4) (tgt := 11) F dX12_tear_4 (by decide) (fun c1 => ?_) (fun c1 => ?_)
    · have h := ite_t c1 h
      refine g_iconst (pc := 11) F dX12_tear_11 ic_0 ?_
      refine g_istore_n (pc := 12) (lv2 := [(0, .ref (em (xE X) 0)), (1, .int (0 : Int32))]) F dX12_tear_12 rfl (by rw [hx]; decide) [1, 0] rfl ?_
      refine g_aload_n (pc := 13) (x := em (xE X) 0) F dX12_tear_13 rfl 0 rfl ?_
      refine g_iconst (pc := 14) F dX12_tear_14 ic_0 ?_
      refine g_put (pc := 15) (ws2 := Wm (xE X) (sI M 9 18 (0 : Int32))) F pX12_273 0 rfl (by decide) (by decide) (Nat.le_of_ble_eq_true rfl) (wmp_18 _ _ _) dX12_tear_15 ?_
      refine g_iload_n (pc := 18) (x := (0 : Int32)) F dX12_tear_18 rfl 1 rfl ?_
      obtain rfl := Option.some.inj h
      exact g_iret (pc := 19) (Wf := Wm) F Rt rfl dX12_tear_19
    · have h := ite_f c1 h
      refine g_iconst (pc := 7) F dX12_tear_7 ic_1 ?_
      refine g_goto (pc := 8) (tgt := 12) F dX12_tear_8 (by decide) ?_
      refine g_istore_n (pc := 12) (lv2 := [(0, .ref (em (xE X) 0)), (1, .int (1 : Int32))]) F dX12_tear_12 rfl (by rw [hx]; decide) [1, 0] rfl ?_
      refine g_aload_n (pc := 13) (x := em (xE X) 0) F dX12_tear_13 rfl 0 rfl ?_
      refine g_iconst (pc := 14) F dX12_tear_14 ic_0 ?_
      refine g_put (pc := 15) (ws2 := Wm (xE X) (sI M 9 18 (0 : Int32))) F pX12_273 0 rfl (by decide) (by decide) (Nat.le_of_ble_eq_true rfl) (wmp_18 _ _ _) dX12_tear_15 ?_
      refine g_iload_n (pc := 18) (x := (1 : Int32)) F dX12_tear_18 rfl 1 rfl ?_
      obtain rfl := Option.some.inj h
      exact g_iret (pc := 19) (Wf := Wm) F Rt rfl dX12_tear_19) l E
set_option maxHeartbeats 4000000 in
set_option maxRecDepth 100000 in
theorem hX12_count {N : Nat} {M : Mem} {a1 : Int32} {res : Int32 × Mem} (h : mX12_count N M a1 = some res) (l : Launch) (E : Ev) : CtI l E (Wm E) yX12_count cX12_count 2 .int 2 44 [.ref (em E 0), .int a1] M res.1 res.2 :=
  ctI_of (Wf := Wm) (av := fun E => [.ref (em E 0), .int a1]) (lv := fun E => [(0, .ref (em E 0)), (1, .int a1)]) (by decide) (fun _ => rfl) (fun _ => (Nat.le_of_ble_eq_true rfl)) (fun X F hx Rt => by
    have F : Fx X cX12_count RX12 2 44 := F
    unfold mX12_count at h
    refine g_iload_n (pc := 0) (x := a1) F dX12_count_0 rfl 1 rfl ?_
    by_cases c1 : a1 = (0 : Int32)
    · have h := ite_t c1 h
      refine g_tswIn (pc := 1) (tgt := 32) (v := 0) F dX12_count_1 (by rw [c1]; decide) (by decide) (by decide) rfl (by decide) ?_
      refine g_aload_n (pc := 32) (x := em (xE X) 0) F dX12_count_32 rfl 0 rfl ?_
      refine g_get (pc := 33) (v := .ref (em (xE X) 1)) F fX12_7 0 rfl rfl dX12_count_33 ?_
      refine g_iconst (pc := 36) F dX12_count_36 ic_5 ?_
      refine g_iald (pc := 37) (N := 48) (fn := M.1 0) (j := 5) F 1 0 rfl rfl vi_5_48 cl_5 dX12_count_37 ?_
      obtain rfl := Option.some.inj h
      exact g_iret (pc := 38) (Wf := Wm) F Rt rfl dX12_count_38
    · have h := ite_f c1 h
      by_cases c2 : a1 = (1 : Int32)
      · have h := ite_t c2 h
        refine g_tswIn (pc := 1) (tgt := 39) (v := 1) F dX12_count_1 (by rw [c2]; decide) (by decide) (by decide) rfl (by decide) ?_
        refine g_aload_n (pc := 39) (x := em (xE X) 0) F dX12_count_39 rfl 0 rfl ?_
        refine g_get (pc := 40) (v := .int (M.1 9 5)) F fX12_164 0 rfl rfl dX12_count_40 ?_
        obtain rfl := Option.some.inj h
        exact g_iret (pc := 43) (Wf := Wm) F Rt rfl dX12_count_43
      · have h := ite_f c2 h
        by_cases c3 : a1 = (2 : Int32)
        · have h := ite_t c3 h
          refine g_tswIn (pc := 1) (tgt := 44) (v := 2) F dX12_count_1 (by rw [c3]; decide) (by decide) (by decide) rfl (by decide) ?_
          refine g_aload_n (pc := 44) (x := em (xE X) 0) F dX12_count_44 rfl 0 rfl ?_
          refine g_get (pc := 45) (v := .ref (em (xE X) 1)) F fX12_7 0 rfl rfl dX12_count_45 ?_
          refine g_iconst (pc := 48) F dX12_count_48 ic_3 ?_
          refine g_iald (pc := 49) (N := 48) (fn := M.1 0) (j := 3) F 1 0 rfl rfl vi_3_48 cl_3 dX12_count_49 ?_
          obtain ⟨r5, e6, h⟩ := bd_some h
          refine g_sI (pc := 50) (Wf := Wm) (As := [.int (M.1 0 3)]) (rest := []) F (hX12_bits (M := M) e6 (xl X) (xE X)) kX12_bits lX12_157 rfl rfl ⟨(Nat.le_of_ble_eq_true rfl), (Nat.le_of_ble_eq_true rfl)⟩ (Nat.le_of_ble_eq_true rfl) dX12_count_50 ?_
          obtain rfl := Option.some.inj h
          exact g_iret (pc := 53) (Wf := Wm) F Rt rfl dX12_count_53
        · have h := ite_f c3 h
          by_cases c4 : a1 = (3 : Int32)
          · have h := ite_t c4 h
            refine g_tswIn (pc := 1) (tgt := 54) (v := 3) F dX12_count_1 (by rw [c4]; decide) (by decide) (by decide) rfl (by decide) ?_
            refine g_aload_n (pc := 54) (x := em (xE X) 0) F dX12_count_54 rfl 0 rfl ?_
            obtain ⟨r7, e8, h⟩ := bd_some h
            refine g_vI (pc := 55) (Wf := Wm) (As := []) (rest := []) F (hX12_costOfAll e8 (xl X) (xE X)) kX12_costOfAll lX12_160 0 rfl rfl rfl rfl rfl ⟨(Nat.le_of_ble_eq_true rfl), (Nat.le_of_ble_eq_true rfl)⟩ (Nat.le_of_ble_eq_true rfl) dX12_count_55 ?_
            obtain rfl := Option.some.inj h
            exact g_iret (pc := 58) (Wf := Wm) F Rt rfl dX12_count_58
          · have h := ite_f c4 h
            refine g_tswOut (pc := 1) (tgt := 59) F dX12_count_1 (by have z0 := lv_neT (a := 0) c1 (by decide); have z1 := lv_neT (a := 1) c2 (by decide); have z2 := lv_neT (a := 2) c3 (by decide); have z3 := lv_neT (a := 3) c4 (by decide); omega) (by decide) ?_
            refine g_aload_n (pc := 59) (x := em (xE X) 0) F dX12_count_59 rfl 0 rfl ?_
            refine g_ldc (pc := 60) F oX12_44 dX12_count_60 ?_
            obtain ⟨q9, e10, h⟩ := bd_some h
            refine g_vI (pc := 62) (Wf := Wm) (As := [.int (-1000000001 : Int32)]) (rest := []) F (hX12_finds e10 (xl X) (xE X)) kX12_finds lX12_53 0 rfl rfl rfl rfl rfl ⟨(Nat.le_of_ble_eq_true rfl), (Nat.le_of_ble_eq_true rfl)⟩ (Nat.le_of_ble_eq_true rfl) dX12_count_62 ?_
            obtain rfl := Option.some.inj h
            exact g_iret (pc := 65) (Wf := Wm) F Rt rfl dX12_count_65) l E
set_option maxHeartbeats 4000000 in
set_option maxRecDepth 100000 in
theorem wX12_status_b21 {X : Cx} (F : Fx X cX12_status RX12 1 22) (hx : xn X = 4) {N : Nat} {res : Int32 × Mem} (Rt : RI X Wm .int res.1 res.2) : ∀ (n : Nat) (M : Mem) (a1 : Int32) (a2 : Int32) (a3 : Int32), mX12_status_b21 N n M a1 a2 a3 = some res → G X (Wm (xE X) M) 21 [(0, .ref (em (xE X) 0)), (1, .int a1), (2, .int a2), (3, .int a3)] [] := by
  intro n
  induction n with
  | zero =>
    intro M a1 a2 a3 h
    have h : none = some res := h
    cases h
  | succ n ih =>
    intro M a1 a2 a3 h
    rw [mX12_status_b21] at h
    refine g_iload_n (pc := 21) (x := a3) F dX12_status_21 rfl 3 rfl ?_
    refine g_bipush (pc := 22) F dX12_status_22 bp_7 ?_
    refine g_icmp_ge (pc := 24) (tgt := 42) F dX12_status_24 (by decide) (fun c4 => ?_) (fun c4 => ?_)
    · have h := ite_t c4 h
      refine g_iload_n (pc := 42) (x := a1) F dX12_status_42 rfl 1 rfl ?_
      refine g_if_ge (pc := 43) (tgt := 50) F dX12_status_43 (by decide) (fun c5 => ?_) (fun c5 => ?_)
      · have h := ite_t c5 h
        refine g_aload_n (pc := 50) (x := em (xE X) 0) F dX12_status_50 rfl 0 rfl ?_
        refine g_get (pc := 51) (v := .ref (em (xE X) 2)) F fX12_13 0 rfl rfl dX12_status_51 ?_
        refine g_iload_n (pc := 54) (x := a1) F dX12_status_54 rfl 1 rfl ?_
        refine g_if_ge (pc := 55) (tgt := 62) F dX12_status_55 (by decide) (fun c6 => ?_) (fun c6 => ?_)
        · have h := ite_t c6 h
          refine g_iload_n (pc := 62) (x := a1) F dX12_status_62 rfl 1 rfl ?_
          obtain ⟨i7, h⟩ := ck_some h
          refine g_iald (pc := 63) (N := 7) (fn := M.1 1) (j := a1.toNatClampNeg) F 2 0 rfl rfl i7 rfl dX12_status_63 ?_
          obtain rfl := Option.some.inj h
          exact g_iret (pc := 64) (Wf := Wm) F Rt rfl dX12_status_64
        · have h := ite_f c6 h
          refine g_iconst (pc := 58) F dX12_status_58 ic_0 ?_
          refine g_goto (pc := 59) (tgt := 63) F dX12_status_59 (by decide) ?_
          refine g_iald (pc := 63) (N := 7) (fn := M.1 1) (j := 0) F 2 0 rfl rfl vi_0_7 cl_0 dX12_status_63 ?_
          obtain rfl := Option.some.inj h
          exact g_iret (pc := 64) (Wf := Wm) F Rt rfl dX12_status_64
      · have h := ite_f c5 h
        refine g_iload_n (pc := 46) (x := a2) F dX12_status_46 rfl 2 rfl ?_
        refine g_goto (pc := 47) (tgt := 64) F dX12_status_47 (by decide) ?_
        obtain rfl := Option.some.inj h
        exact g_iret (pc := 64) (Wf := Wm) F Rt rfl dX12_status_64
    · have h := ite_f c4 h
      refine g_iload_n (pc := 27) (x := a2) F dX12_status_27 rfl 2 rfl ?_
      refine g_aload_n (pc := 28) (x := em (xE X) 0) F dX12_status_28 rfl 0 rfl ?_
      refine g_get (pc := 29) (v := .ref (em (xE X) 2)) F fX12_13 0 rfl rfl dX12_status_29 ?_
      refine g_iload_n (pc := 32) (x := a3) F dX12_status_32 rfl 3 rfl ?_
      obtain ⟨i8, h⟩ := ck_some h
      refine g_iald (pc := 33) (N := 7) (fn := M.1 1) (j := a3.toNatClampNeg) F 2 0 rfl rfl i8 rfl dX12_status_33 ?_
      refine g_iadd (pc := 34) F dX12_status_34 ?_
      refine g_istore_n (pc := 35) (lv2 := [(0, .ref (em (xE X) 0)), (1, .int a1), (2, .int (a2 + (M.1 1 a3.toNatClampNeg))), (3, .int a3)]) F dX12_status_35 rfl (by rw [hx]; decide) [1, 2, 0, 3] rfl ?_
      refine g_iinc (pc := 36) (lv2 := [(0, .ref (em (xE X) 0)), (1, .int a1), (2, .int (a2 + (M.1 1 a3.toNatClampNeg))), (3, .int (a3 + (1 : Int32)))]) F dX12_status_36 3 rfl (ii_1 _) (by rw [hx]; decide) [1, 2, 3, 0] rfl ?_
      refine g_goto (pc := 39) (tgt := 21) F dX12_status_39 (by decide) ?_
      refine g_sub [0, 1, 2, 3] rfl ?_
      exact ih M a1 (a2 + (M.1 1 a3.toNatClampNeg)) (a3 + (1 : Int32)) h
set_option maxHeartbeats 4000000 in
set_option maxRecDepth 100000 in
theorem hX12_status {N : Nat} {M : Mem} {a1 : Int32} {res : Int32 × Mem} (h : mX12_status N M a1 = some res) (l : Launch) (E : Ev) : CtI l E (Wm E) yX12_status cX12_status 4 .int 1 22 [.ref (em E 0), .int a1] M res.1 res.2 :=
  ctI_of (Wf := Wm) (av := fun E => [.ref (em E 0), .int a1]) (lv := fun E => [(0, .ref (em E 0)), (1, .int a1)]) (by decide) (fun _ => rfl) (fun _ => (Nat.le_of_ble_eq_true rfl)) (fun X F hx Rt => by
    have F : Fx X cX12_status RX12 1 22 := F
    unfold mX12_status at h
    refine g_iload_n (pc := 0) (x := a1) F dX12_status_0 rfl 1 rfl ?_
    refine g_iconst (pc := 1) F dX12_status_1 ic_m1 ?_
    refine g_bipush (pc := 2) F dX12_status_2 bp_6 ?_
    obtain ⟨r1, e2, h⟩ := bd_some h
    refine g_sI (pc := 4) (Wf := Wm) (As := [.int a1, .int (-1 : Int32), .int (6 : Int32)]) (rest := []) F (hX12_in (M := M) e2 (xl X) (xE X)) kX12_in lX12_45 rfl rfl ⟨(Nat.le_of_ble_eq_true rfl), (Nat.le_of_ble_eq_true rfl)⟩ (Nat.le_of_ble_eq_true rfl) dX12_status_4 ?_
    refine g_if_ne (pc := 7) (tgt := 17) F dX12_status_7 (by decide) (fun c3 => ?_) (fun c3 => ?_)
    · have h := ite_f c3 h
      refine g_iconst (pc := 17) F dX12_status_17 ic_0 ?_
      refine g_istore_n (pc := 18) (lv2 := [(0, .ref (em (xE X) 0)), (1, .int a1), (2, .int (0 : Int32))]) F dX12_status_18 rfl (by rw [hx]; decide) [1, 2, 0] rfl ?_
      refine g_iconst (pc := 19) F dX12_status_19 ic_0 ?_
      refine g_istore_n (pc := 20) (lv2 := [(0, .ref (em (xE X) 0)), (1, .int a1), (2, .int (0 : Int32)), (3, .int (0 : Int32))]) F dX12_status_20 rfl (by rw [hx]; decide) [1, 2, 3, 0] rfl ?_
      refine g_sub [0, 1, 2, 3] rfl ?_
      exact wX12_status_b21 F hx Rt N M a1 (0 : Int32) (0 : Int32) h
    · have h := ite_t c3 h
      refine g_aload_n (pc := 10) (x := em (xE X) 0) F dX12_status_10 rfl 0 rfl ?_
      refine g_ldc (pc := 11) F oX12_44 dX12_status_11 ?_
      obtain ⟨q9, e10, h⟩ := bd_some h
      refine g_vI (pc := 13) (Wf := Wm) (As := [.int (-1000000001 : Int32)]) (rest := []) F (hX12_finds e10 (xl X) (xE X)) kX12_finds lX12_53 0 rfl rfl rfl rfl rfl ⟨(Nat.le_of_ble_eq_true rfl), (Nat.le_of_ble_eq_true rfl)⟩ (Nat.le_of_ble_eq_true rfl) dX12_status_13 ?_
      obtain rfl := Option.some.inj h
      exact g_iret (pc := 16) (Wf := Wm) F Rt rfl dX12_status_16) l E
