/-! ===== the kinds ===== -/
def mX0_number : Option Int32 := some (2 : Int32)
def mX7_isUnder (a1 : Int32) : Option Int32 := (if a1 = 0 then some (1 : Int32) else some (0 : Int32))
def mX0_isUnder (a1 : Int32) : Option Int32 := (if a1 = (2 : Int32) then some (1 : Int32) else ((mX7_isUnder a1).bind fun r2 => (if r2 = 0 then some (0 : Int32) else some (1 : Int32))))
def mX7_sees (a1 : Int32) (a2 : Int32) (a3 : Int32) (a4 : Int32) : Option Int32 := (if a2 = 0 then (if (3 : Int32) < a1 then some (0 : Int32) else some (1 : Int32)) else (if a3 = 0 then some (0 : Int32) else (if a4 < a1 then some (0 : Int32) else some (1 : Int32))))
def mX0_sees (a1 : Int32) (a2 : Int32) (a3 : Int32) (a4 : Int32) : Option Int32 := (if a2 = 0 then ((mX7_sees a1 a2 a3 a4).bind fun r2 => (if b01 r2 then some r2 else none)) else (if (2 : Int32) < a1 then some (0 : Int32) else some (1 : Int32)))
def mX7_keepsOff (a1 : Int32) : Option Int32 := some (1 : Int32)
def mX0_keepsOff (a1 : Int32) : Option Int32 := ((mX7_keepsOff a1).bind fun r1 => some (r1 + (1 : Int32)))
def mX1_number : Option Int32 := some (3 : Int32)
def mX1_isUnder (a1 : Int32) : Option Int32 := (if a1 = (3 : Int32) then some (1 : Int32) else ((mX7_isUnder a1).bind fun r2 => (if r2 = 0 then some (0 : Int32) else some (1 : Int32))))
def mX1_sees (a1 : Int32) (a2 : Int32) (a3 : Int32) (a4 : Int32) : Option Int32 := some (0 : Int32)
def mX1_speed (a1 : Int32) (a2 : Int32) : Option Int32 := (if (a1 - a1 / (2 : Int32) * (2 : Int32)) = 0 then some (1 : Int32) else some (0 : Int32))
def mX1_keepsOff (a1 : Int32) : Option Int32 := some (0 : Int32)
def mX2_number : Option Int32 := some (5 : Int32)
def mX2_isUnder (a1 : Int32) : Option Int32 := (if a1 = (5 : Int32) then some (1 : Int32) else ((mX0_isUnder a1).bind fun r2 => (if r2 = 0 then some (0 : Int32) else some (1 : Int32))))
def mX2_sees (a1 : Int32) (a2 : Int32) (a3 : Int32) (a4 : Int32) : Option Int32 := (if a2 = 0 then some (1 : Int32) else ((mX0_sees a1 a2 a3 a4).bind fun r2 => (if r2 = 0 then some (0 : Int32) else some (1 : Int32))))
def mX7_speed (a1 : Int32) (a2 : Int32) : Option Int32 := some (1 : Int32)
def mX2_speed (a1 : Int32) (a2 : Int32) : Option Int32 := ((mX7_speed a1 a2).bind fun r1 => (if a2 = 0 then some (r1 + (1 : Int32)) else some (r1 + (0 : Int32))))
def mX2_keepsOff (a1 : Int32) : Option Int32 := ((mX0_keepsOff a1).bind fun r1 => some (r1 - (3 : Int32)))
def mX3_number : Option Int32 := some (4 : Int32)
def mX8_isUnder (a1 : Int32) : Option Int32 := (if a1 = (1 : Int32) then some (1 : Int32) else ((mX7_isUnder a1).bind fun r2 => (if r2 = 0 then some (0 : Int32) else some (1 : Int32))))
def mX3_isUnder (a1 : Int32) : Option Int32 := (if a1 = (4 : Int32) then some (1 : Int32) else ((mX8_isUnder a1).bind fun r2 => (if r2 = 0 then some (0 : Int32) else some (1 : Int32))))
def mX8_sees (a1 : Int32) (a2 : Int32) (a3 : Int32) (a4 : Int32) : Option Int32 := (if a1 = (1 : Int32) then some (1 : Int32) else ((mX7_sees a1 a2 a3 a4).bind fun r2 => (if r2 = 0 then some (0 : Int32) else some (1 : Int32))))
def mX3_sees (a1 : Int32) (a2 : Int32) (a3 : Int32) (a4 : Int32) : Option Int32 := ((mX8_sees a1 a2 a3 (a4 + (2 : Int32))).bind fun r1 => (if b01 r1 then some r1 else none))
def mX8_speed (a1 : Int32) (a2 : Int32) : Option Int32 := ((mX7_speed a1 a2).bind fun r1 => some (r1 + (1 : Int32)))
def mX3_speed (a1 : Int32) (a2 : Int32) : Option Int32 := ((mX8_speed a1 a2).bind fun r1 => some (r1 + (1 : Int32)))
def mX3_keepsOff (a1 : Int32) : Option Int32 := (if a1 ≤ (3 : Int32) then ((mX7_keepsOff a1).bind fun r2 => some r2) else some (0 : Int32))
def mX8_stands (a1 : Int32) (a2 : Int32) (a3 : Int32) : Option Int32 := (if a2 = 0 then some (0 : Int32) else (if a1 = (1 : Int32) then some (1 : Int32) else some (0 : Int32)))
def mX3_stands (a1 : Int32) (a2 : Int32) (a3 : Int32) : Option Int32 := (if (5 : Int32) ≤ a3 then some (0 : Int32) else ((mX8_stands a1 a2 a3).bind fun r2 => (if r2 = 0 then some (0 : Int32) else some (1 : Int32))))
def mX7_number : Option Int32 := some (0 : Int32)
def mX7_stands (a1 : Int32) (a2 : Int32) (a3 : Int32) : Option Int32 := some (0 : Int32)
def mX8_number : Option Int32 := some (1 : Int32)
set_option maxHeartbeats 4000000 in
set_option maxRecDepth 100000 in
theorem hX0_number {M : Mem} {k0 : Nat} (hk0 : k0 < 6) {res : Int32} (h : mX0_number  = some res) (l : Launch) (E : Ev) : CtI l E (Wc E) yX0_number cX0_number 1 .int 0 0 [.ref (ec E (2 + k0))] M res M :=
  ctI_of (Wf := Wc) (av := fun E => [.ref (ec E (2 + k0))]) (lv := fun E => [(0, .ref (ec E (2 + k0)))]) (by decide) (fun _ => rfl) (fun _ => (Nat.le_of_ble_eq_true rfl)) (fun X F hx Rt => by
    have F : Fx X cX0_number RX0 0 0 := F
    unfold mX0_number at h
    refine g_iconst (pc := 0) F dX0_number_0 ic_2 ?_
    obtain rfl := Option.some.inj h
    exact g_iret (pc := 1) (Wf := Wc) F Rt rfl dX0_number_1) l E
set_option maxHeartbeats 4000000 in
set_option maxRecDepth 100000 in
theorem hX7_isUnder {M : Mem} {a1 : Int32} {k0 : Nat} (hk0 : k0 < 6) {res : Int32} (h : mX7_isUnder a1 = some res) (l : Launch) (E : Ev) : CtI l E (Wc E) yX7_isUnder cX7_isUnder 2 .boolean 0 0 [.ref (ec E (2 + k0)), .int a1] M res M :=
  ctI_of (Wf := Wc) (av := fun E => [.ref (ec E (2 + k0)), .int a1]) (lv := fun E => [(0, .ref (ec E (2 + k0))), (1, .int a1)]) (by decide) (fun _ => rfl) (fun _ => (Nat.le_of_ble_eq_true rfl)) (fun X F hx Rt => by
    have F : Fx X cX7_isUnder RX7 0 0 := F
    unfold mX7_isUnder at h
    refine g_iload_n (pc := 0) (x := a1) F dX7_isUnder_0 rfl 1 rfl ?_
    refine g_if_ne (pc := 1) (tgt := 8) F dX7_isUnder_1 (by decide) (fun c1 => ?_) (fun c1 => ?_)
    · have h := ite_f c1 h
      refine g_iconst (pc := 8) F dX7_isUnder_8 ic_0 ?_
      obtain rfl := Option.some.inj h
      exact g_iret (pc := 9) (Wf := Wc) F Rt (by decide) dX7_isUnder_9
    · have h := ite_t c1 h
      refine g_iconst (pc := 4) F dX7_isUnder_4 ic_1 ?_
      refine g_goto (pc := 5) (tgt := 9) F dX7_isUnder_5 (by decide) ?_
      obtain rfl := Option.some.inj h
      exact g_iret (pc := 9) (Wf := Wc) F Rt (by decide) dX7_isUnder_9) l E
set_option maxHeartbeats 4000000 in
set_option maxRecDepth 100000 in
theorem hX0_isUnder {M : Mem} {a1 : Int32} {k0 : Nat} (hk0 : k0 < 6) {res : Int32} (h : mX0_isUnder a1 = some res) (l : Launch) (E : Ev) : CtI l E (Wc E) yX0_isUnder cX0_isUnder 2 .boolean 1 21 [.ref (ec E (2 + k0)), .int a1] M res M :=
  ctI_of (Wf := Wc) (av := fun E => [.ref (ec E (2 + k0)), .int a1]) (lv := fun E => [(0, .ref (ec E (2 + k0))), (1, .int a1)]) (by decide) (fun _ => rfl) (fun _ => (Nat.le_of_ble_eq_true rfl)) (fun X F hx Rt => by
    have F : Fx X cX0_isUnder RX0 1 21 := F
    unfold mX0_isUnder at h
    refine g_iload_n (pc := 0) (x := a1) F dX0_isUnder_0 rfl 1 rfl ?_
    refine g_iconst (pc := 1) F dX0_isUnder_1 ic_2 ?_
    refine g_icmp_eq (pc := 2) (tgt := 13) F dX0_isUnder_2 (by decide) (fun c1 => ?_) (fun c1 => ?_)
    · have h := ite_t c1 h
      refine g_iconst (pc := 13) F dX0_isUnder_13 ic_1 ?_
      refine g_goto (pc := 14) (tgt := 18) F dX0_isUnder_14 (by decide) ?_
      obtain rfl := Option.some.inj h
      exact g_iret (pc := 18) (Wf := Wc) F Rt (by decide) dX0_isUnder_18
    · have h := ite_f c1 h
      refine g_aload_n (pc := 5) (x := ec (xE X) (2 + k0)) F dX0_isUnder_5 rfl 0 rfl ?_
      refine g_iload_n (pc := 6) (x := a1) F dX0_isUnder_6 rfl 1 rfl ?_
      obtain ⟨r2, e3, h⟩ := bd_some h
      obtain ⟨C4, hC4⟩ := kcl_ok hk0
      refine g_zI (pc := 7) (Wf := Wc) (As := [.int a1]) (rest := []) F (hX7_isUnder (M := M) hk0 e3 (xl X) (xE X)) zX0_9 (2 + k0) hC4 (wc_K _ _ hk0) rfl rfl ⟨(Nat.le_of_ble_eq_true rfl), (Nat.le_of_ble_eq_true rfl)⟩ (Nat.le_of_ble_eq_true rfl) dX0_isUnder_7 ?_
      refine g_if_eq (pc := 10) (tgt := 17) F dX0_isUnder_10 (by decide) (fun c5 => ?_) (fun c5 => ?_)
      · have h := ite_t c5 h
        refine g_iconst (pc := 17) F dX0_isUnder_17 ic_0 ?_
        obtain rfl := Option.some.inj h
        exact g_iret (pc := 18) (Wf := Wc) F Rt (by decide) dX0_isUnder_18
      · have h := ite_f c5 h
        refine g_iconst (pc := 13) F dX0_isUnder_13 ic_1 ?_
        refine g_goto (pc := 14) (tgt := 18) F dX0_isUnder_14 (by decide) ?_
        obtain rfl := Option.some.inj h
        exact g_iret (pc := 18) (Wf := Wc) F Rt (by decide) dX0_isUnder_18) l E
set_option maxHeartbeats 4000000 in
set_option maxRecDepth 100000 in
theorem hX7_sees {M : Mem} {a1 : Int32} {a2 : Int32} {a3 : Int32} {a4 : Int32} {k0 : Nat} (hk0 : k0 < 6) {res : Int32} (h : mX7_sees a1 a2 a3 a4 = some res) (l : Launch) (E : Ev) : CtI l E (Wc E) yX7_sees cX7_sees 5 .boolean 0 0 [.ref (ec E (2 + k0)), .int a1, .int a2, .int a3, .int a4] M res M :=
  ctI_of (Wf := Wc) (av := fun E => [.ref (ec E (2 + k0)), .int a1, .int a2, .int a3, .int a4]) (lv := fun E => [(0, .ref (ec E (2 + k0))), (1, .int a1), (2, .int a2), (3, .int a3), (4, .int a4)]) (by decide) (fun _ => rfl) (fun _ => (Nat.le_of_ble_eq_true rfl)) (fun X F hx Rt => by
    have F : Fx X cX7_sees RX7 0 0 := F
    unfold mX7_sees at h
    refine g_iload_n (pc := 0) (x := a2) F dX7_sees_0 rfl 2 rfl ?_
    refine g_if_eq (pc := 1) (tgt := 22) F dX7_sees_1 (by decide) (fun c1 => ?_) (fun c1 => ?_)
    · have h := ite_t c1 h
      refine g_iload_n (pc := 22) (x := a1) F dX7_sees_22 rfl 1 rfl ?_
      refine g_iconst (pc := 23) F dX7_sees_23 ic_3 ?_
      refine g_icmp_gt (pc := 24) (tgt := 31) F dX7_sees_24 (by decide) (fun c2 => ?_) (fun c2 => ?_)
      · have h := ite_t c2 h
        refine g_iconst (pc := 31) F dX7_sees_31 ic_0 ?_
        obtain rfl := Option.some.inj h
        exact g_iret (pc := 32) (Wf := Wc) F Rt (by decide) dX7_sees_32
      · have h := ite_f c2 h
        refine g_iconst (pc := 27) F dX7_sees_27 ic_1 ?_
        refine g_goto (pc := 28) (tgt := 32) F dX7_sees_28 (by decide) ?_
        obtain rfl := Option.some.inj h
        exact g_iret (pc := 32) (Wf := Wc) F Rt (by decide) dX7_sees_32
    · have h := ite_f c1 h
      refine g_iload_n (pc := 4) (x := a3) F dX7_sees_4 rfl 3 rfl ?_
      refine g_if_eq (pc := 5) (tgt := 18) F dX7_sees_5 (by decide) (fun c3 => ?_) (fun c3 => ?_)
      · have h := ite_t c3 h
        refine g_iconst (pc := 18) F dX7_sees_18 ic_0 ?_
        refine g_goto (pc := 19) (tgt := 32) F dX7_sees_19 (by decide) ?_
        obtain rfl := Option.some.inj h
        exact g_iret (pc := 32) (Wf := Wc) F Rt (by decide) dX7_sees_32
      · have h := ite_f c3 h
        refine g_iload_n (pc := 8) (x := a1) F dX7_sees_8 rfl 1 rfl ?_
        refine g_iload (pc := 9) (x := a4) F dX7_sees_9 4 rfl ?_
        refine g_icmp_gt (pc := 11) (tgt := 18) F dX7_sees_11 (by decide) (fun c4 => ?_) (fun c4 => ?_)
        · have h := ite_t c4 h
          refine g_iconst (pc := 18) F dX7_sees_18 ic_0 ?_
          refine g_goto (pc := 19) (tgt := 32) F dX7_sees_19 (by decide) ?_
          obtain rfl := Option.some.inj h
          exact g_iret (pc := 32) (Wf := Wc) F Rt (by decide) dX7_sees_32
        · have h := ite_f c4 h
          refine g_iconst (pc := 14) F dX7_sees_14 ic_1 ?_
          refine g_goto (pc := 15) (tgt := 32) F dX7_sees_15 (by decide) ?_
          obtain rfl := Option.some.inj h
          exact g_iret (pc := 32) (Wf := Wc) F Rt (by decide) dX7_sees_32) l E
set_option maxHeartbeats 4000000 in
set_option maxRecDepth 100000 in
theorem hX0_sees {M : Mem} {a1 : Int32} {a2 : Int32} {a3 : Int32} {a4 : Int32} {k0 : Nat} (hk0 : k0 < 6) {res : Int32} (h : mX0_sees a1 a2 a3 a4 = some res) (l : Launch) (E : Ev) : CtI l E (Wc E) yX0_sees cX0_sees 5 .boolean 1 24 [.ref (ec E (2 + k0)), .int a1, .int a2, .int a3, .int a4] M res M :=
  ctI_of (Wf := Wc) (av := fun E => [.ref (ec E (2 + k0)), .int a1, .int a2, .int a3, .int a4]) (lv := fun E => [(0, .ref (ec E (2 + k0))), (1, .int a1), (2, .int a2), (3, .int a3), (4, .int a4)]) (by decide) (fun _ => rfl) (fun _ => (Nat.le_of_ble_eq_true rfl)) (fun X F hx Rt => by
    have F : Fx X cX0_sees RX0 1 24 := F
    unfold mX0_sees at h
    refine g_iload_n (pc := 0) (x := a2) F dX0_sees_0 rfl 2 rfl ?_
    refine g_if_eq (pc := 1) (tgt := 17) F dX0_sees_1 (by decide) (fun c1 => ?_) (fun c1 => ?_)
    · have h := ite_t c1 h
      refine g_aload_n (pc := 17) (x := ec (xE X) (2 + k0)) F dX0_sees_17 rfl 0 rfl ?_
      refine g_iload_n (pc := 18) (x := a1) F dX0_sees_18 rfl 1 rfl ?_
      refine g_iload_n (pc := 19) (x := a2) F dX0_sees_19 rfl 2 rfl ?_
      refine g_iload_n (pc := 20) (x := a3) F dX0_sees_20 rfl 3 rfl ?_
      refine g_iload (pc := 21) (x := a4) F dX0_sees_21 4 rfl ?_
      obtain ⟨r2, e3, h⟩ := bd_some h
      obtain ⟨C4, hC4⟩ := kcl_ok hk0
      refine g_zI (pc := 23) (Wf := Wc) (As := [.int a1, .int a2, .int a3, .int a4]) (rest := []) F (hX7_sees (M := M) hk0 e3 (xl X) (xE X)) zX0_13 (2 + k0) hC4 (wc_K _ _ hk0) rfl rfl ⟨(Nat.le_of_ble_eq_true rfl), (Nat.le_of_ble_eq_true rfl)⟩ (Nat.le_of_ble_eq_true rfl) dX0_sees_23 ?_
      obtain ⟨b5, h⟩ := ck_some h
      obtain rfl := Option.some.inj h
      exact g_iret (pc := 26) (Wf := Wc) F Rt (nb01 b5).1 dX0_sees_26
    · have h := ite_f c1 h
      refine g_iload_n (pc := 4) (x := a1) F dX0_sees_4 rfl 1 rfl ?_
      refine g_iconst (pc := 5) F dX0_sees_5 ic_2 ?_
      refine g_icmp_gt (pc := 6) (tgt := 13) F dX0_sees_6 (by decide) (fun c6 => ?_) (fun c6 => ?_)
      · have h := ite_t c6 h
        refine g_iconst (pc := 13) F dX0_sees_13 ic_0 ?_
        refine g_goto (pc := 14) (tgt := 26) F dX0_sees_14 (by decide) ?_
        obtain rfl := Option.some.inj h
        exact g_iret (pc := 26) (Wf := Wc) F Rt (by decide) dX0_sees_26
      · have h := ite_f c6 h
        refine g_iconst (pc := 9) F dX0_sees_9 ic_1 ?_
        refine g_goto (pc := 10) (tgt := 26) F dX0_sees_10 (by decide) ?_
        obtain rfl := Option.some.inj h
        exact g_iret (pc := 26) (Wf := Wc) F Rt (by decide) dX0_sees_26) l E
set_option maxHeartbeats 4000000 in
set_option maxRecDepth 100000 in
theorem hX7_keepsOff {M : Mem} {a1 : Int32} {k0 : Nat} (hk0 : k0 < 6) {res : Int32} (h : mX7_keepsOff a1 = some res) (l : Launch) (E : Ev) : CtI l E (Wc E) yX7_keepsOff cX7_keepsOff 2 .int 0 0 [.ref (ec E (2 + k0)), .int a1] M res M :=
  ctI_of (Wf := Wc) (av := fun E => [.ref (ec E (2 + k0)), .int a1]) (lv := fun E => [(0, .ref (ec E (2 + k0))), (1, .int a1)]) (by decide) (fun _ => rfl) (fun _ => (Nat.le_of_ble_eq_true rfl)) (fun X F hx Rt => by
    have F : Fx X cX7_keepsOff RX7 0 0 := F
    unfold mX7_keepsOff at h
    refine g_iconst (pc := 0) F dX7_keepsOff_0 ic_1 ?_
    obtain rfl := Option.some.inj h
    exact g_iret (pc := 1) (Wf := Wc) F Rt rfl dX7_keepsOff_1) l E
set_option maxHeartbeats 4000000 in
set_option maxRecDepth 100000 in
theorem hX0_keepsOff {M : Mem} {a1 : Int32} {k0 : Nat} (hk0 : k0 < 6) {res : Int32} (h : mX0_keepsOff a1 = some res) (l : Launch) (E : Ev) : CtI l E (Wc E) yX0_keepsOff cX0_keepsOff 2 .int 1 21 [.ref (ec E (2 + k0)), .int a1] M res M :=
  ctI_of (Wf := Wc) (av := fun E => [.ref (ec E (2 + k0)), .int a1]) (lv := fun E => [(0, .ref (ec E (2 + k0))), (1, .int a1)]) (by decide) (fun _ => rfl) (fun _ => (Nat.le_of_ble_eq_true rfl)) (fun X F hx Rt => by
    have F : Fx X cX0_keepsOff RX0 1 21 := F
    unfold mX0_keepsOff at h
    refine g_aload_n (pc := 0) (x := ec (xE X) (2 + k0)) F dX0_keepsOff_0 rfl 0 rfl ?_
    refine g_iload_n (pc := 1) (x := a1) F dX0_keepsOff_1 rfl 1 rfl ?_
    obtain ⟨r1, e2, h⟩ := bd_some h
    obtain ⟨C3, hC3⟩ := kcl_ok hk0
    refine g_zI (pc := 2) (Wf := Wc) (As := [.int a1]) (rest := []) F (hX7_keepsOff (M := M) hk0 e2 (xl X) (xE X)) zX0_17 (2 + k0) hC3 (wc_K _ _ hk0) rfl rfl ⟨(Nat.le_of_ble_eq_true rfl), (Nat.le_of_ble_eq_true rfl)⟩ (Nat.le_of_ble_eq_true rfl) dX0_keepsOff_2 ?_
    refine g_iconst (pc := 5) F dX0_keepsOff_5 ic_1 ?_
    refine g_iadd (pc := 6) F dX0_keepsOff_6 ?_
    obtain rfl := Option.some.inj h
    exact g_iret (pc := 7) (Wf := Wc) F Rt rfl dX0_keepsOff_7) l E
set_option maxHeartbeats 4000000 in
set_option maxRecDepth 100000 in
theorem hX1_number {M : Mem} {k0 : Nat} (hk0 : k0 < 6) {res : Int32} (h : mX1_number  = some res) (l : Launch) (E : Ev) : CtI l E (Wc E) yX1_number cX1_number 1 .int 0 0 [.ref (ec E (2 + k0))] M res M :=
  ctI_of (Wf := Wc) (av := fun E => [.ref (ec E (2 + k0))]) (lv := fun E => [(0, .ref (ec E (2 + k0)))]) (by decide) (fun _ => rfl) (fun _ => (Nat.le_of_ble_eq_true rfl)) (fun X F hx Rt => by
    have F : Fx X cX1_number RX1 0 0 := F
    unfold mX1_number at h
    refine g_iconst (pc := 0) F dX1_number_0 ic_3 ?_
    obtain rfl := Option.some.inj h
    exact g_iret (pc := 1) (Wf := Wc) F Rt rfl dX1_number_1) l E
set_option maxHeartbeats 4000000 in
set_option maxRecDepth 100000 in
theorem hX1_isUnder {M : Mem} {a1 : Int32} {k0 : Nat} (hk0 : k0 < 6) {res : Int32} (h : mX1_isUnder a1 = some res) (l : Launch) (E : Ev) : CtI l E (Wc E) yX1_isUnder cX1_isUnder 2 .boolean 1 21 [.ref (ec E (2 + k0)), .int a1] M res M :=
  ctI_of (Wf := Wc) (av := fun E => [.ref (ec E (2 + k0)), .int a1]) (lv := fun E => [(0, .ref (ec E (2 + k0))), (1, .int a1)]) (by decide) (fun _ => rfl) (fun _ => (Nat.le_of_ble_eq_true rfl)) (fun X F hx Rt => by
    have F : Fx X cX1_isUnder RX1 1 21 := F
    unfold mX1_isUnder at h
    refine g_iload_n (pc := 0) (x := a1) F dX1_isUnder_0 rfl 1 rfl ?_
    refine g_iconst (pc := 1) F dX1_isUnder_1 ic_3 ?_
    refine g_icmp_eq (pc := 2) (tgt := 13) F dX1_isUnder_2 (by decide) (fun c1 => ?_) (fun c1 => ?_)
    · have h := ite_t c1 h
      refine g_iconst (pc := 13) F dX1_isUnder_13 ic_1 ?_
      refine g_goto (pc := 14) (tgt := 18) F dX1_isUnder_14 (by decide) ?_
      obtain rfl := Option.some.inj h
      exact g_iret (pc := 18) (Wf := Wc) F Rt (by decide) dX1_isUnder_18
    · have h := ite_f c1 h
      refine g_aload_n (pc := 5) (x := ec (xE X) (2 + k0)) F dX1_isUnder_5 rfl 0 rfl ?_
      refine g_iload_n (pc := 6) (x := a1) F dX1_isUnder_6 rfl 1 rfl ?_
      obtain ⟨r2, e3, h⟩ := bd_some h
      obtain ⟨C4, hC4⟩ := kcl_ok hk0
      refine g_zI (pc := 7) (Wf := Wc) (As := [.int a1]) (rest := []) F (hX7_isUnder (M := M) hk0 e3 (xl X) (xE X)) zX1_9 (2 + k0) hC4 (wc_K _ _ hk0) rfl rfl ⟨(Nat.le_of_ble_eq_true rfl), (Nat.le_of_ble_eq_true rfl)⟩ (Nat.le_of_ble_eq_true rfl) dX1_isUnder_7 ?_
      refine g_if_eq (pc := 10) (tgt := 17) F dX1_isUnder_10 (by decide) (fun c5 => ?_) (fun c5 => ?_)
      · have h := ite_t c5 h
        refine g_iconst (pc := 17) F dX1_isUnder_17 ic_0 ?_
        obtain rfl := Option.some.inj h
        exact g_iret (pc := 18) (Wf := Wc) F Rt (by decide) dX1_isUnder_18
      · have h := ite_f c5 h
        refine g_iconst (pc := 13) F dX1_isUnder_13 ic_1 ?_
        refine g_goto (pc := 14) (tgt := 18) F dX1_isUnder_14 (by decide) ?_
        obtain rfl := Option.some.inj h
        exact g_iret (pc := 18) (Wf := Wc) F Rt (by decide) dX1_isUnder_18) l E
set_option maxHeartbeats 4000000 in
set_option maxRecDepth 100000 in
theorem hX1_sees {M : Mem} {a1 : Int32} {a2 : Int32} {a3 : Int32} {a4 : Int32} {k0 : Nat} (hk0 : k0 < 6) {res : Int32} (h : mX1_sees a1 a2 a3 a4 = some res) (l : Launch) (E : Ev) : CtI l E (Wc E) yX1_sees cX1_sees 5 .boolean 0 0 [.ref (ec E (2 + k0)), .int a1, .int a2, .int a3, .int a4] M res M :=
  ctI_of (Wf := Wc) (av := fun E => [.ref (ec E (2 + k0)), .int a1, .int a2, .int a3, .int a4]) (lv := fun E => [(0, .ref (ec E (2 + k0))), (1, .int a1), (2, .int a2), (3, .int a3), (4, .int a4)]) (by decide) (fun _ => rfl) (fun _ => (Nat.le_of_ble_eq_true rfl)) (fun X F hx Rt => by
    have F : Fx X cX1_sees RX1 0 0 := F
    unfold mX1_sees at h
    refine g_iconst (pc := 0) F dX1_sees_0 ic_0 ?_
    obtain rfl := Option.some.inj h
    exact g_iret (pc := 1) (Wf := Wc) F Rt (by decide) dX1_sees_1) l E
set_option maxHeartbeats 4000000 in
set_option maxRecDepth 100000 in
theorem hX1_speed {M : Mem} {a1 : Int32} {a2 : Int32} {k0 : Nat} (hk0 : k0 < 6) {res : Int32} (h : mX1_speed a1 a2 = some res) (l : Launch) (E : Ev) : CtI l E (Wc E) yX1_speed cX1_speed 3 .int 0 0 [.ref (ec E (2 + k0)), .int a1, .int a2] M res M :=
  ctI_of (Wf := Wc) (av := fun E => [.ref (ec E (2 + k0)), .int a1, .int a2]) (lv := fun E => [(0, .ref (ec E (2 + k0))), (1, .int a1), (2, .int a2)]) (by decide) (fun _ => rfl) (fun _ => (Nat.le_of_ble_eq_true rfl)) (fun X F hx Rt => by
    have F : Fx X cX1_speed RX1 0 0 := F
    unfold mX1_speed at h
    refine g_iload_n (pc := 0) (x := a1) F dX1_speed_0 rfl 1 rfl ?_
    refine g_iconst (pc := 1) F dX1_speed_1 ic_2 ?_
    refine g_irem (pc := 2) F dX1_speed_2 (by decide) ?_
    refine g_if_ne (pc := 3) (tgt := 10) F dX1_speed_3 (by decide) (fun c1 => ?_) (fun c1 => ?_)
    · have h := ite_f c1 h
      refine g_iconst (pc := 10) F dX1_speed_10 ic_0 ?_
      obtain rfl := Option.some.inj h
      exact g_iret (pc := 11) (Wf := Wc) F Rt rfl dX1_speed_11
    · have h := ite_t c1 h
      refine g_iconst (pc := 6) F dX1_speed_6 ic_1 ?_
      refine g_goto (pc := 7) (tgt := 11) F dX1_speed_7 (by decide) ?_
      obtain rfl := Option.some.inj h
      exact g_iret (pc := 11) (Wf := Wc) F Rt rfl dX1_speed_11) l E
set_option maxHeartbeats 4000000 in
set_option maxRecDepth 100000 in
theorem hX1_keepsOff {M : Mem} {a1 : Int32} {k0 : Nat} (hk0 : k0 < 6) {res : Int32} (h : mX1_keepsOff a1 = some res) (l : Launch) (E : Ev) : CtI l E (Wc E) yX1_keepsOff cX1_keepsOff 2 .int 0 0 [.ref (ec E (2 + k0)), .int a1] M res M :=
  ctI_of (Wf := Wc) (av := fun E => [.ref (ec E (2 + k0)), .int a1]) (lv := fun E => [(0, .ref (ec E (2 + k0))), (1, .int a1)]) (by decide) (fun _ => rfl) (fun _ => (Nat.le_of_ble_eq_true rfl)) (fun X F hx Rt => by
    have F : Fx X cX1_keepsOff RX1 0 0 := F
    unfold mX1_keepsOff at h
    refine g_iconst (pc := 0) F dX1_keepsOff_0 ic_0 ?_
    obtain rfl := Option.some.inj h
    exact g_iret (pc := 1) (Wf := Wc) F Rt rfl dX1_keepsOff_1) l E
set_option maxHeartbeats 4000000 in
set_option maxRecDepth 100000 in
theorem hX2_number {M : Mem} {k0 : Nat} (hk0 : k0 < 6) {res : Int32} (h : mX2_number  = some res) (l : Launch) (E : Ev) : CtI l E (Wc E) yX2_number cX2_number 1 .int 0 0 [.ref (ec E (2 + k0))] M res M :=
  ctI_of (Wf := Wc) (av := fun E => [.ref (ec E (2 + k0))]) (lv := fun E => [(0, .ref (ec E (2 + k0)))]) (by decide) (fun _ => rfl) (fun _ => (Nat.le_of_ble_eq_true rfl)) (fun X F hx Rt => by
    have F : Fx X cX2_number RX2 0 0 := F
    unfold mX2_number at h
    refine g_iconst (pc := 0) F dX2_number_0 ic_5 ?_
    obtain rfl := Option.some.inj h
    exact g_iret (pc := 1) (Wf := Wc) F Rt rfl dX2_number_1) l E
set_option maxHeartbeats 4000000 in
set_option maxRecDepth 100000 in
theorem hX2_isUnder {M : Mem} {a1 : Int32} {k0 : Nat} (hk0 : k0 < 6) {res : Int32} (h : mX2_isUnder a1 = some res) (l : Launch) (E : Ev) : CtI l E (Wc E) yX2_isUnder cX2_isUnder 2 .boolean 2 42 [.ref (ec E (2 + k0)), .int a1] M res M :=
  ctI_of (Wf := Wc) (av := fun E => [.ref (ec E (2 + k0)), .int a1]) (lv := fun E => [(0, .ref (ec E (2 + k0))), (1, .int a1)]) (by decide) (fun _ => rfl) (fun _ => (Nat.le_of_ble_eq_true rfl)) (fun X F hx Rt => by
    have F : Fx X cX2_isUnder RX2 2 42 := F
    unfold mX2_isUnder at h
    refine g_iload_n (pc := 0) (x := a1) F dX2_isUnder_0 rfl 1 rfl ?_
    refine g_iconst (pc := 1) F dX2_isUnder_1 ic_5 ?_
    refine g_icmp_eq (pc := 2) (tgt := 13) F dX2_isUnder_2 (by decide) (fun c1 => ?_) (fun c1 => ?_)
    · have h := ite_t c1 h
      refine g_iconst (pc := 13) F dX2_isUnder_13 ic_1 ?_
      refine g_goto (pc := 14) (tgt := 18) F dX2_isUnder_14 (by decide) ?_
      obtain rfl := Option.some.inj h
      exact g_iret (pc := 18) (Wf := Wc) F Rt (by decide) dX2_isUnder_18
    · have h := ite_f c1 h
      refine g_aload_n (pc := 5) (x := ec (xE X) (2 + k0)) F dX2_isUnder_5 rfl 0 rfl ?_
      refine g_iload_n (pc := 6) (x := a1) F dX2_isUnder_6 rfl 1 rfl ?_
      obtain ⟨r2, e3, h⟩ := bd_some h
      obtain ⟨C4, hC4⟩ := kcl_ok hk0
      refine g_zI (pc := 7) (Wf := Wc) (As := [.int a1]) (rest := []) F (hX0_isUnder (M := M) hk0 e3 (xl X) (xE X)) zX2_9 (2 + k0) hC4 (wc_K _ _ hk0) rfl rfl ⟨(Nat.le_of_ble_eq_true rfl), (Nat.le_of_ble_eq_true rfl)⟩ (Nat.le_of_ble_eq_true rfl) dX2_isUnder_7 ?_
      refine g_if_eq (pc := 10) (tgt := 17) F dX2_isUnder_10 (by decide) (fun c5 => ?_) (fun c5 => ?_)
      · have h := ite_t c5 h
        refine g_iconst (pc := 17) F dX2_isUnder_17 ic_0 ?_
        obtain rfl := Option.some.inj h
        exact g_iret (pc := 18) (Wf := Wc) F Rt (by decide) dX2_isUnder_18
      · have h := ite_f c5 h
        refine g_iconst (pc := 13) F dX2_isUnder_13 ic_1 ?_
        refine g_goto (pc := 14) (tgt := 18) F dX2_isUnder_14 (by decide) ?_
        obtain rfl := Option.some.inj h
        exact g_iret (pc := 18) (Wf := Wc) F Rt (by decide) dX2_isUnder_18) l E
set_option maxHeartbeats 4000000 in
set_option maxRecDepth 100000 in
theorem hX2_sees {M : Mem} {a1 : Int32} {a2 : Int32} {a3 : Int32} {a4 : Int32} {k0 : Nat} (hk0 : k0 < 6) {res : Int32} (h : mX2_sees a1 a2 a3 a4 = some res) (l : Launch) (E : Ev) : CtI l E (Wc E) yX2_sees cX2_sees 5 .boolean 2 48 [.ref (ec E (2 + k0)), .int a1, .int a2, .int a3, .int a4] M res M :=
  ctI_of (Wf := Wc) (av := fun E => [.ref (ec E (2 + k0)), .int a1, .int a2, .int a3, .int a4]) (lv := fun E => [(0, .ref (ec E (2 + k0))), (1, .int a1), (2, .int a2), (3, .int a3), (4, .int a4)]) (by decide) (fun _ => rfl) (fun _ => (Nat.le_of_ble_eq_true rfl)) (fun X F hx Rt => by
    have F : Fx X cX2_sees RX2 2 48 := F
    unfold mX2_sees at h
    refine g_iload_n (pc := 0) (x := a2) F dX2_sees_0 rfl 2 rfl ?_
    refine g_if_eq (pc := 1) (tgt := 16) F dX2_sees_1 (by decide) (fun c1 => ?_) (fun c1 => ?_)
    · have h := ite_t c1 h
      refine g_iconst (pc := 16) F dX2_sees_16 ic_1 ?_
      refine g_goto (pc := 17) (tgt := 21) F dX2_sees_17 (by decide) ?_
      obtain rfl := Option.some.inj h
      exact g_iret (pc := 21) (Wf := Wc) F Rt (by decide) dX2_sees_21
    · have h := ite_f c1 h
      refine g_aload_n (pc := 4) (x := ec (xE X) (2 + k0)) F dX2_sees_4 rfl 0 rfl ?_
      refine g_iload_n (pc := 5) (x := a1) F dX2_sees_5 rfl 1 rfl ?_
      refine g_iload_n (pc := 6) (x := a2) F dX2_sees_6 rfl 2 rfl ?_
      refine g_iload_n (pc := 7) (x := a3) F dX2_sees_7 rfl 3 rfl ?_
      refine g_iload (pc := 8) (x := a4) F dX2_sees_8 4 rfl ?_
      obtain ⟨r2, e3, h⟩ := bd_some h
      obtain ⟨C4, hC4⟩ := kcl_ok hk0
      refine g_zI (pc := 10) (Wf := Wc) (As := [.int a1, .int a2, .int a3, .int a4]) (rest := []) F (hX0_sees (M := M) hk0 e3 (xl X) (xE X)) zX2_13 (2 + k0) hC4 (wc_K _ _ hk0) rfl rfl ⟨(Nat.le_of_ble_eq_true rfl), (Nat.le_of_ble_eq_true rfl)⟩ (Nat.le_of_ble_eq_true rfl) dX2_sees_10 ?_
      refine g_if_eq (pc := 13) (tgt := 20) F dX2_sees_13 (by decide) (fun c5 => ?_) (fun c5 => ?_)
      · have h := ite_t c5 h
        refine g_iconst (pc := 20) F dX2_sees_20 ic_0 ?_
        obtain rfl := Option.some.inj h
        exact g_iret (pc := 21) (Wf := Wc) F Rt (by decide) dX2_sees_21
      · have h := ite_f c5 h
        refine g_iconst (pc := 16) F dX2_sees_16 ic_1 ?_
        refine g_goto (pc := 17) (tgt := 21) F dX2_sees_17 (by decide) ?_
        obtain rfl := Option.some.inj h
        exact g_iret (pc := 21) (Wf := Wc) F Rt (by decide) dX2_sees_21) l E
set_option maxHeartbeats 4000000 in
set_option maxRecDepth 100000 in
theorem hX7_speed {M : Mem} {a1 : Int32} {a2 : Int32} {k0 : Nat} (hk0 : k0 < 6) {res : Int32} (h : mX7_speed a1 a2 = some res) (l : Launch) (E : Ev) : CtI l E (Wc E) yX7_speed cX7_speed 3 .int 0 0 [.ref (ec E (2 + k0)), .int a1, .int a2] M res M :=
  ctI_of (Wf := Wc) (av := fun E => [.ref (ec E (2 + k0)), .int a1, .int a2]) (lv := fun E => [(0, .ref (ec E (2 + k0))), (1, .int a1), (2, .int a2)]) (by decide) (fun _ => rfl) (fun _ => (Nat.le_of_ble_eq_true rfl)) (fun X F hx Rt => by
    have F : Fx X cX7_speed RX7 0 0 := F
    unfold mX7_speed at h
    refine g_iconst (pc := 0) F dX7_speed_0 ic_1 ?_
    obtain rfl := Option.some.inj h
    exact g_iret (pc := 1) (Wf := Wc) F Rt rfl dX7_speed_1) l E
set_option maxHeartbeats 4000000 in
set_option maxRecDepth 100000 in
theorem hX2_speed {M : Mem} {a1 : Int32} {a2 : Int32} {k0 : Nat} (hk0 : k0 < 6) {res : Int32} (h : mX2_speed a1 a2 = some res) (l : Launch) (E : Ev) : CtI l E (Wc E) yX2_speed cX2_speed 3 .int 1 22 [.ref (ec E (2 + k0)), .int a1, .int a2] M res M :=
  ctI_of (Wf := Wc) (av := fun E => [.ref (ec E (2 + k0)), .int a1, .int a2]) (lv := fun E => [(0, .ref (ec E (2 + k0))), (1, .int a1), (2, .int a2)]) (by decide) (fun _ => rfl) (fun _ => (Nat.le_of_ble_eq_true rfl)) (fun X F hx Rt => by
    have F : Fx X cX2_speed RX2 1 22 := F
    unfold mX2_speed at h
    refine g_aload_n (pc := 0) (x := ec (xE X) (2 + k0)) F dX2_speed_0 rfl 0 rfl ?_
    refine g_iload_n (pc := 1) (x := a1) F dX2_speed_1 rfl 1 rfl ?_
    refine g_iload_n (pc := 2) (x := a2) F dX2_speed_2 rfl 2 rfl ?_
    obtain ⟨r1, e2, h⟩ := bd_some h
    obtain ⟨C3, hC3⟩ := kcl_ok hk0
    refine g_yI (pc := 3) (Wf := Wc) (As := [.int a1, .int a2]) (rest := []) F (hX7_speed (M := M) hk0 e2 (xl X) (xE X)) zX2_17 (2 + k0) hC3 (wc_K _ _ hk0) rfl rfl ⟨(Nat.le_of_ble_eq_true rfl), (Nat.le_of_ble_eq_true rfl)⟩ (Nat.le_of_ble_eq_true rfl) dX2_speed_3 ?_
    refine g_iload_n (pc := 6) (x := a2) F dX2_speed_6 rfl 2 rfl ?_
    refine g_if_eq (pc := 7) (tgt := 14) F dX2_speed_7 (by decide) (fun c4 => ?_) (fun c4 => ?_)
    · have h := ite_t c4 h
      refine g_iconst (pc := 14) F dX2_speed_14 ic_1 ?_
      refine g_iadd (pc := 15) F dX2_speed_15 ?_
      obtain rfl := Option.some.inj h
      exact g_iret (pc := 16) (Wf := Wc) F Rt rfl dX2_speed_16
    · have h := ite_f c4 h
      refine g_iconst (pc := 10) F dX2_speed_10 ic_0 ?_
      refine g_goto (pc := 11) (tgt := 15) F dX2_speed_11 (by decide) ?_
      refine g_iadd (pc := 15) F dX2_speed_15 ?_
      obtain rfl := Option.some.inj h
      exact g_iret (pc := 16) (Wf := Wc) F Rt rfl dX2_speed_16) l E
set_option maxHeartbeats 4000000 in
set_option maxRecDepth 100000 in
theorem hX2_keepsOff {M : Mem} {a1 : Int32} {k0 : Nat} (hk0 : k0 < 6) {res : Int32} (h : mX2_keepsOff a1 = some res) (l : Launch) (E : Ev) : CtI l E (Wc E) yX2_keepsOff cX2_keepsOff 2 .int 2 42 [.ref (ec E (2 + k0)), .int a1] M res M :=
  ctI_of (Wf := Wc) (av := fun E => [.ref (ec E (2 + k0)), .int a1]) (lv := fun E => [(0, .ref (ec E (2 + k0))), (1, .int a1)]) (by decide) (fun _ => rfl) (fun _ => (Nat.le_of_ble_eq_true rfl)) (fun X F hx Rt => by
    have F : Fx X cX2_keepsOff RX2 2 42 := F
    unfold mX2_keepsOff at h
    refine g_aload_n (pc := 0) (x := ec (xE X) (2 + k0)) F dX2_keepsOff_0 rfl 0 rfl ?_
    refine g_iload_n (pc := 1) (x := a1) F dX2_keepsOff_1 rfl 1 rfl ?_
    obtain ⟨r1, e2, h⟩ := bd_some h
    obtain ⟨C3, hC3⟩ := kcl_ok hk0
    refine g_zI (pc := 2) (Wf := Wc) (As := [.int a1]) (rest := []) F (hX0_keepsOff (M := M) hk0 e2 (xl X) (xE X)) zX2_21 (2 + k0) hC3 (wc_K _ _ hk0) rfl rfl ⟨(Nat.le_of_ble_eq_true rfl), (Nat.le_of_ble_eq_true rfl)⟩ (Nat.le_of_ble_eq_true rfl) dX2_keepsOff_2 ?_
    refine g_iconst (pc := 5) F dX2_keepsOff_5 ic_3 ?_
    refine g_isub (pc := 6) F dX2_keepsOff_6 ?_
    obtain rfl := Option.some.inj h
    exact g_iret (pc := 7) (Wf := Wc) F Rt rfl dX2_keepsOff_7) l E
set_option maxHeartbeats 4000000 in
set_option maxRecDepth 100000 in
theorem hX3_number {M : Mem} {k0 : Nat} (hk0 : k0 < 6) {res : Int32} (h : mX3_number  = some res) (l : Launch) (E : Ev) : CtI l E (Wc E) yX3_number cX3_number 1 .int 0 0 [.ref (ec E (2 + k0))] M res M :=
  ctI_of (Wf := Wc) (av := fun E => [.ref (ec E (2 + k0))]) (lv := fun E => [(0, .ref (ec E (2 + k0)))]) (by decide) (fun _ => rfl) (fun _ => (Nat.le_of_ble_eq_true rfl)) (fun X F hx Rt => by
    have F : Fx X cX3_number RX3 0 0 := F
    unfold mX3_number at h
    refine g_iconst (pc := 0) F dX3_number_0 ic_4 ?_
    obtain rfl := Option.some.inj h
    exact g_iret (pc := 1) (Wf := Wc) F Rt rfl dX3_number_1) l E
set_option maxHeartbeats 4000000 in
set_option maxRecDepth 100000 in
theorem hX8_isUnder {M : Mem} {a1 : Int32} {k0 : Nat} (hk0 : k0 < 6) {res : Int32} (h : mX8_isUnder a1 = some res) (l : Launch) (E : Ev) : CtI l E (Wc E) yX8_isUnder cX8_isUnder 2 .boolean 1 21 [.ref (ec E (2 + k0)), .int a1] M res M :=
  ctI_of (Wf := Wc) (av := fun E => [.ref (ec E (2 + k0)), .int a1]) (lv := fun E => [(0, .ref (ec E (2 + k0))), (1, .int a1)]) (by decide) (fun _ => rfl) (fun _ => (Nat.le_of_ble_eq_true rfl)) (fun X F hx Rt => by
    have F : Fx X cX8_isUnder RX8 1 21 := F
    unfold mX8_isUnder at h
    refine g_iload_n (pc := 0) (x := a1) F dX8_isUnder_0 rfl 1 rfl ?_
    refine g_iconst (pc := 1) F dX8_isUnder_1 ic_1 ?_
    refine g_icmp_eq (pc := 2) (tgt := 13) F dX8_isUnder_2 (by decide) (fun c1 => ?_) (fun c1 => ?_)
    · have h := ite_t c1 h
      refine g_iconst (pc := 13) F dX8_isUnder_13 ic_1 ?_
      refine g_goto (pc := 14) (tgt := 18) F dX8_isUnder_14 (by decide) ?_
      obtain rfl := Option.some.inj h
      exact g_iret (pc := 18) (Wf := Wc) F Rt (by decide) dX8_isUnder_18
    · have h := ite_f c1 h
      refine g_aload_n (pc := 5) (x := ec (xE X) (2 + k0)) F dX8_isUnder_5 rfl 0 rfl ?_
      refine g_iload_n (pc := 6) (x := a1) F dX8_isUnder_6 rfl 1 rfl ?_
      obtain ⟨r2, e3, h⟩ := bd_some h
      obtain ⟨C4, hC4⟩ := kcl_ok hk0
      refine g_zI (pc := 7) (Wf := Wc) (As := [.int a1]) (rest := []) F (hX7_isUnder (M := M) hk0 e3 (xl X) (xE X)) zX8_9 (2 + k0) hC4 (wc_K _ _ hk0) rfl rfl ⟨(Nat.le_of_ble_eq_true rfl), (Nat.le_of_ble_eq_true rfl)⟩ (Nat.le_of_ble_eq_true rfl) dX8_isUnder_7 ?_
      refine g_if_eq (pc := 10) (tgt := 17) F dX8_isUnder_10 (by decide) (fun c5 => ?_) (fun c5 => ?_)
      · have h := ite_t c5 h
        refine g_iconst (pc := 17) F dX8_isUnder_17 ic_0 ?_
        obtain rfl := Option.some.inj h
        exact g_iret (pc := 18) (Wf := Wc) F Rt (by decide) dX8_isUnder_18
      · have h := ite_f c5 h
        refine g_iconst (pc := 13) F dX8_isUnder_13 ic_1 ?_
        refine g_goto (pc := 14) (tgt := 18) F dX8_isUnder_14 (by decide) ?_
        obtain rfl := Option.some.inj h
        exact g_iret (pc := 18) (Wf := Wc) F Rt (by decide) dX8_isUnder_18) l E
set_option maxHeartbeats 4000000 in
set_option maxRecDepth 100000 in
theorem hX3_isUnder {M : Mem} {a1 : Int32} {k0 : Nat} (hk0 : k0 < 6) {res : Int32} (h : mX3_isUnder a1 = some res) (l : Launch) (E : Ev) : CtI l E (Wc E) yX3_isUnder cX3_isUnder 2 .boolean 2 42 [.ref (ec E (2 + k0)), .int a1] M res M :=
  ctI_of (Wf := Wc) (av := fun E => [.ref (ec E (2 + k0)), .int a1]) (lv := fun E => [(0, .ref (ec E (2 + k0))), (1, .int a1)]) (by decide) (fun _ => rfl) (fun _ => (Nat.le_of_ble_eq_true rfl)) (fun X F hx Rt => by
    have F : Fx X cX3_isUnder RX3 2 42 := F
    unfold mX3_isUnder at h
    refine g_iload_n (pc := 0) (x := a1) F dX3_isUnder_0 rfl 1 rfl ?_
    refine g_iconst (pc := 1) F dX3_isUnder_1 ic_4 ?_
    refine g_icmp_eq (pc := 2) (tgt := 13) F dX3_isUnder_2 (by decide) (fun c1 => ?_) (fun c1 => ?_)
    · have h := ite_t c1 h
      refine g_iconst (pc := 13) F dX3_isUnder_13 ic_1 ?_
      refine g_goto (pc := 14) (tgt := 18) F dX3_isUnder_14 (by decide) ?_
      obtain rfl := Option.some.inj h
      exact g_iret (pc := 18) (Wf := Wc) F Rt (by decide) dX3_isUnder_18
    · have h := ite_f c1 h
      refine g_aload_n (pc := 5) (x := ec (xE X) (2 + k0)) F dX3_isUnder_5 rfl 0 rfl ?_
      refine g_iload_n (pc := 6) (x := a1) F dX3_isUnder_6 rfl 1 rfl ?_
      obtain ⟨r2, e3, h⟩ := bd_some h
      obtain ⟨C4, hC4⟩ := kcl_ok hk0
      refine g_zI (pc := 7) (Wf := Wc) (As := [.int a1]) (rest := []) F (hX8_isUnder (M := M) hk0 e3 (xl X) (xE X)) zX3_9 (2 + k0) hC4 (wc_K _ _ hk0) rfl rfl ⟨(Nat.le_of_ble_eq_true rfl), (Nat.le_of_ble_eq_true rfl)⟩ (Nat.le_of_ble_eq_true rfl) dX3_isUnder_7 ?_
      refine g_if_eq (pc := 10) (tgt := 17) F dX3_isUnder_10 (by decide) (fun c5 => ?_) (fun c5 => ?_)
      · have h := ite_t c5 h
        refine g_iconst (pc := 17) F dX3_isUnder_17 ic_0 ?_
        obtain rfl := Option.some.inj h
        exact g_iret (pc := 18) (Wf := Wc) F Rt (by decide) dX3_isUnder_18
      · have h := ite_f c5 h
        refine g_iconst (pc := 13) F dX3_isUnder_13 ic_1 ?_
        refine g_goto (pc := 14) (tgt := 18) F dX3_isUnder_14 (by decide) ?_
        obtain rfl := Option.some.inj h
        exact g_iret (pc := 18) (Wf := Wc) F Rt (by decide) dX3_isUnder_18) l E
set_option maxHeartbeats 4000000 in
set_option maxRecDepth 100000 in
theorem hX8_sees {M : Mem} {a1 : Int32} {a2 : Int32} {a3 : Int32} {a4 : Int32} {k0 : Nat} (hk0 : k0 < 6) {res : Int32} (h : mX8_sees a1 a2 a3 a4 = some res) (l : Launch) (E : Ev) : CtI l E (Wc E) yX8_sees cX8_sees 5 .boolean 1 24 [.ref (ec E (2 + k0)), .int a1, .int a2, .int a3, .int a4] M res M :=
  ctI_of (Wf := Wc) (av := fun E => [.ref (ec E (2 + k0)), .int a1, .int a2, .int a3, .int a4]) (lv := fun E => [(0, .ref (ec E (2 + k0))), (1, .int a1), (2, .int a2), (3, .int a3), (4, .int a4)]) (by decide) (fun _ => rfl) (fun _ => (Nat.le_of_ble_eq_true rfl)) (fun X F hx Rt => by
    have F : Fx X cX8_sees RX8 1 24 := F
    unfold mX8_sees at h
    refine g_iload_n (pc := 0) (x := a1) F dX8_sees_0 rfl 1 rfl ?_
    refine g_iconst (pc := 1) F dX8_sees_1 ic_1 ?_
    refine g_icmp_eq (pc := 2) (tgt := 17) F dX8_sees_2 (by decide) (fun c1 => ?_) (fun c1 => ?_)
    · have h := ite_t c1 h
      refine g_iconst (pc := 17) F dX8_sees_17 ic_1 ?_
      refine g_goto (pc := 18) (tgt := 22) F dX8_sees_18 (by decide) ?_
      obtain rfl := Option.some.inj h
      exact g_iret (pc := 22) (Wf := Wc) F Rt (by decide) dX8_sees_22
    · have h := ite_f c1 h
      refine g_aload_n (pc := 5) (x := ec (xE X) (2 + k0)) F dX8_sees_5 rfl 0 rfl ?_
      refine g_iload_n (pc := 6) (x := a1) F dX8_sees_6 rfl 1 rfl ?_
      refine g_iload_n (pc := 7) (x := a2) F dX8_sees_7 rfl 2 rfl ?_
      refine g_iload_n (pc := 8) (x := a3) F dX8_sees_8 rfl 3 rfl ?_
      refine g_iload (pc := 9) (x := a4) F dX8_sees_9 4 rfl ?_
      obtain ⟨r2, e3, h⟩ := bd_some h
      obtain ⟨C4, hC4⟩ := kcl_ok hk0
      refine g_zI (pc := 11) (Wf := Wc) (As := [.int a1, .int a2, .int a3, .int a4]) (rest := []) F (hX7_sees (M := M) hk0 e3 (xl X) (xE X)) zX8_13 (2 + k0) hC4 (wc_K _ _ hk0) rfl rfl ⟨(Nat.le_of_ble_eq_true rfl), (Nat.le_of_ble_eq_true rfl)⟩ (Nat.le_of_ble_eq_true rfl) dX8_sees_11 ?_
      refine g_if_eq (pc := 14) (tgt := 21) F dX8_sees_14 (by decide) (fun c5 => ?_) (fun c5 => ?_)
      · have h := ite_t c5 h
        refine g_iconst (pc := 21) F dX8_sees_21 ic_0 ?_
        obtain rfl := Option.some.inj h
        exact g_iret (pc := 22) (Wf := Wc) F Rt (by decide) dX8_sees_22
      · have h := ite_f c5 h
        refine g_iconst (pc := 17) F dX8_sees_17 ic_1 ?_
        refine g_goto (pc := 18) (tgt := 22) F dX8_sees_18 (by decide) ?_
        obtain rfl := Option.some.inj h
        exact g_iret (pc := 22) (Wf := Wc) F Rt (by decide) dX8_sees_22) l E
set_option maxHeartbeats 4000000 in
set_option maxRecDepth 100000 in
theorem hX3_sees {M : Mem} {a1 : Int32} {a2 : Int32} {a3 : Int32} {a4 : Int32} {k0 : Nat} (hk0 : k0 < 6) {res : Int32} (h : mX3_sees a1 a2 a3 a4 = some res) (l : Launch) (E : Ev) : CtI l E (Wc E) yX3_sees cX3_sees 5 .boolean 2 48 [.ref (ec E (2 + k0)), .int a1, .int a2, .int a3, .int a4] M res M :=
  ctI_of (Wf := Wc) (av := fun E => [.ref (ec E (2 + k0)), .int a1, .int a2, .int a3, .int a4]) (lv := fun E => [(0, .ref (ec E (2 + k0))), (1, .int a1), (2, .int a2), (3, .int a3), (4, .int a4)]) (by decide) (fun _ => rfl) (fun _ => (Nat.le_of_ble_eq_true rfl)) (fun X F hx Rt => by
    have F : Fx X cX3_sees RX3 2 48 := F
    unfold mX3_sees at h
    refine g_aload_n (pc := 0) (x := ec (xE X) (2 + k0)) F dX3_sees_0 rfl 0 rfl ?_
    refine g_iload_n (pc := 1) (x := a1) F dX3_sees_1 rfl 1 rfl ?_
    refine g_iload_n (pc := 2) (x := a2) F dX3_sees_2 rfl 2 rfl ?_
    refine g_iload_n (pc := 3) (x := a3) F dX3_sees_3 rfl 3 rfl ?_
    refine g_iload (pc := 4) (x := a4) F dX3_sees_4 4 rfl ?_
    refine g_iconst (pc := 6) F dX3_sees_6 ic_2 ?_
    refine g_iadd (pc := 7) F dX3_sees_7 ?_
    obtain ⟨r1, e2, h⟩ := bd_some h
    obtain ⟨C3, hC3⟩ := kcl_ok hk0
    refine g_zI (pc := 8) (Wf := Wc) (As := [.int a1, .int a2, .int a3, .int (a4 + (2 : Int32))]) (rest := []) F (hX8_sees (M := M) hk0 e2 (xl X) (xE X)) zX3_13 (2 + k0) hC3 (wc_K _ _ hk0) rfl rfl ⟨(Nat.le_of_ble_eq_true rfl), (Nat.le_of_ble_eq_true rfl)⟩ (Nat.le_of_ble_eq_true rfl) dX3_sees_8 ?_
    obtain ⟨b4, h⟩ := ck_some h
    obtain rfl := Option.some.inj h
    exact g_iret (pc := 11) (Wf := Wc) F Rt (nb01 b4).1 dX3_sees_11) l E
set_option maxHeartbeats 4000000 in
set_option maxRecDepth 100000 in
theorem hX8_speed {M : Mem} {a1 : Int32} {a2 : Int32} {k0 : Nat} (hk0 : k0 < 6) {res : Int32} (h : mX8_speed a1 a2 = some res) (l : Launch) (E : Ev) : CtI l E (Wc E) yX8_speed cX8_speed 3 .int 1 22 [.ref (ec E (2 + k0)), .int a1, .int a2] M res M :=
  ctI_of (Wf := Wc) (av := fun E => [.ref (ec E (2 + k0)), .int a1, .int a2]) (lv := fun E => [(0, .ref (ec E (2 + k0))), (1, .int a1), (2, .int a2)]) (by decide) (fun _ => rfl) (fun _ => (Nat.le_of_ble_eq_true rfl)) (fun X F hx Rt => by
    have F : Fx X cX8_speed RX8 1 22 := F
    unfold mX8_speed at h
    refine g_aload_n (pc := 0) (x := ec (xE X) (2 + k0)) F dX8_speed_0 rfl 0 rfl ?_
    refine g_iload_n (pc := 1) (x := a1) F dX8_speed_1 rfl 1 rfl ?_
    refine g_iload_n (pc := 2) (x := a2) F dX8_speed_2 rfl 2 rfl ?_
    obtain ⟨r1, e2, h⟩ := bd_some h
    obtain ⟨C3, hC3⟩ := kcl_ok hk0
    refine g_zI (pc := 3) (Wf := Wc) (As := [.int a1, .int a2]) (rest := []) F (hX7_speed (M := M) hk0 e2 (xl X) (xE X)) zX8_17 (2 + k0) hC3 (wc_K _ _ hk0) rfl rfl ⟨(Nat.le_of_ble_eq_true rfl), (Nat.le_of_ble_eq_true rfl)⟩ (Nat.le_of_ble_eq_true rfl) dX8_speed_3 ?_
    refine g_iconst (pc := 6) F dX8_speed_6 ic_1 ?_
    refine g_iadd (pc := 7) F dX8_speed_7 ?_
    obtain rfl := Option.some.inj h
    exact g_iret (pc := 8) (Wf := Wc) F Rt rfl dX8_speed_8) l E
set_option maxHeartbeats 4000000 in
set_option maxRecDepth 100000 in
theorem hX3_speed {M : Mem} {a1 : Int32} {a2 : Int32} {k0 : Nat} (hk0 : k0 < 6) {res : Int32} (h : mX3_speed a1 a2 = some res) (l : Launch) (E : Ev) : CtI l E (Wc E) yX3_speed cX3_speed 3 .int 2 44 [.ref (ec E (2 + k0)), .int a1, .int a2] M res M :=
  ctI_of (Wf := Wc) (av := fun E => [.ref (ec E (2 + k0)), .int a1, .int a2]) (lv := fun E => [(0, .ref (ec E (2 + k0))), (1, .int a1), (2, .int a2)]) (by decide) (fun _ => rfl) (fun _ => (Nat.le_of_ble_eq_true rfl)) (fun X F hx Rt => by
    have F : Fx X cX3_speed RX3 2 44 := F
    unfold mX3_speed at h
    refine g_aload_n (pc := 0) (x := ec (xE X) (2 + k0)) F dX3_speed_0 rfl 0 rfl ?_
    refine g_iload_n (pc := 1) (x := a1) F dX3_speed_1 rfl 1 rfl ?_
    refine g_iload_n (pc := 2) (x := a2) F dX3_speed_2 rfl 2 rfl ?_
    obtain ⟨r1, e2, h⟩ := bd_some h
    obtain ⟨C3, hC3⟩ := kcl_ok hk0
    refine g_zI (pc := 3) (Wf := Wc) (As := [.int a1, .int a2]) (rest := []) F (hX8_speed (M := M) hk0 e2 (xl X) (xE X)) zX3_17 (2 + k0) hC3 (wc_K _ _ hk0) rfl rfl ⟨(Nat.le_of_ble_eq_true rfl), (Nat.le_of_ble_eq_true rfl)⟩ (Nat.le_of_ble_eq_true rfl) dX3_speed_3 ?_
    refine g_iconst (pc := 6) F dX3_speed_6 ic_1 ?_
    refine g_iadd (pc := 7) F dX3_speed_7 ?_
    obtain rfl := Option.some.inj h
    exact g_iret (pc := 8) (Wf := Wc) F Rt rfl dX3_speed_8) l E
set_option maxHeartbeats 4000000 in
set_option maxRecDepth 100000 in
theorem hX3_keepsOff {M : Mem} {a1 : Int32} {k0 : Nat} (hk0 : k0 < 6) {res : Int32} (h : mX3_keepsOff a1 = some res) (l : Launch) (E : Ev) : CtI l E (Wc E) yX3_keepsOff cX3_keepsOff 2 .int 1 21 [.ref (ec E (2 + k0)), .int a1] M res M :=
  ctI_of (Wf := Wc) (av := fun E => [.ref (ec E (2 + k0)), .int a1]) (lv := fun E => [(0, .ref (ec E (2 + k0))), (1, .int a1)]) (by decide) (fun _ => rfl) (fun _ => (Nat.le_of_ble_eq_true rfl)) (fun X F hx Rt => by
    have F : Fx X cX3_keepsOff RX3 1 21 := F
    unfold mX3_keepsOff at h
    refine g_iload_n (pc := 0) (x := a1) F dX3_keepsOff_0 rfl 1 rfl ?_
    refine g_iconst (pc := 1) F dX3_keepsOff_1 ic_3 ?_
    refine g_icmp_le (pc := 2) (tgt := 9) F dX3_keepsOff_2 (by decide) (fun c1 => ?_) (fun c1 => ?_)
    · have h := ite_t c1 h
      refine g_aload_n (pc := 9) (x := ec (xE X) (2 + k0)) F dX3_keepsOff_9 rfl 0 rfl ?_
      refine g_iload_n (pc := 10) (x := a1) F dX3_keepsOff_10 rfl 1 rfl ?_
      obtain ⟨r2, e3, h⟩ := bd_some h
      obtain ⟨C4, hC4⟩ := kcl_ok hk0
      refine g_yI (pc := 11) (Wf := Wc) (As := [.int a1]) (rest := []) F (hX7_keepsOff (M := M) hk0 e3 (xl X) (xE X)) zX3_21 (2 + k0) hC4 (wc_K _ _ hk0) rfl rfl ⟨(Nat.le_of_ble_eq_true rfl), (Nat.le_of_ble_eq_true rfl)⟩ (Nat.le_of_ble_eq_true rfl) dX3_keepsOff_11 ?_
      obtain rfl := Option.some.inj h
      exact g_iret (pc := 14) (Wf := Wc) F Rt rfl dX3_keepsOff_14
    · have h := ite_f c1 h
      refine g_iconst (pc := 5) F dX3_keepsOff_5 ic_0 ?_
      refine g_goto (pc := 6) (tgt := 14) F dX3_keepsOff_6 (by decide) ?_
      obtain rfl := Option.some.inj h
      exact g_iret (pc := 14) (Wf := Wc) F Rt rfl dX3_keepsOff_14) l E
set_option maxHeartbeats 4000000 in
set_option maxRecDepth 100000 in
theorem hX8_stands {M : Mem} {a1 : Int32} {a2 : Int32} {a3 : Int32} {k0 : Nat} (hk0 : k0 < 6) {res : Int32} (h : mX8_stands a1 a2 a3 = some res) (l : Launch) (E : Ev) : CtI l E (Wc E) yX8_stands cX8_stands 4 .boolean 0 0 [.ref (ec E (2 + k0)), .int a1, .int a2, .int a3] M res M :=
  ctI_of (Wf := Wc) (av := fun E => [.ref (ec E (2 + k0)), .int a1, .int a2, .int a3]) (lv := fun E => [(0, .ref (ec E (2 + k0))), (1, .int a1), (2, .int a2), (3, .int a3)]) (by decide) (fun _ => rfl) (fun _ => (Nat.le_of_ble_eq_true rfl)) (fun X F hx Rt => by
    have F : Fx X cX8_stands RX8 0 0 := F
    unfold mX8_stands at h
    refine g_iload_n (pc := 0) (x := a2) F dX8_stands_0 rfl 2 rfl ?_
    refine g_if_eq (pc := 1) (tgt := 13) F dX8_stands_1 (by decide) (fun c1 => ?_) (fun c1 => ?_)
    · have h := ite_t c1 h
      refine g_iconst (pc := 13) F dX8_stands_13 ic_0 ?_
      obtain rfl := Option.some.inj h
      exact g_iret (pc := 14) (Wf := Wc) F Rt (by decide) dX8_stands_14
    · have h := ite_f c1 h
      refine g_iload_n (pc := 4) (x := a1) F dX8_stands_4 rfl 1 rfl ?_
      refine g_iconst (pc := 5) F dX8_stands_5 ic_1 ?_
      refine g_icmp_ne (pc := 6) (tgt := 13) F dX8_stands_6 (by decide) (fun c2 => ?_) (fun c2 => ?_)
      · have h := ite_f c2 h
        refine g_iconst (pc := 13) F dX8_stands_13 ic_0 ?_
        obtain rfl := Option.some.inj h
        exact g_iret (pc := 14) (Wf := Wc) F Rt (by decide) dX8_stands_14
      · have h := ite_t c2 h
        refine g_iconst (pc := 9) F dX8_stands_9 ic_1 ?_
        refine g_goto (pc := 10) (tgt := 14) F dX8_stands_10 (by decide) ?_
        obtain rfl := Option.some.inj h
        exact g_iret (pc := 14) (Wf := Wc) F Rt (by decide) dX8_stands_14) l E
set_option maxHeartbeats 4000000 in
set_option maxRecDepth 100000 in
theorem hX3_stands {M : Mem} {a1 : Int32} {a2 : Int32} {a3 : Int32} {k0 : Nat} (hk0 : k0 < 6) {res : Int32} (h : mX3_stands a1 a2 a3 = some res) (l : Launch) (E : Ev) : CtI l E (Wc E) yX3_stands cX3_stands 4 .boolean 1 23 [.ref (ec E (2 + k0)), .int a1, .int a2, .int a3] M res M :=
  ctI_of (Wf := Wc) (av := fun E => [.ref (ec E (2 + k0)), .int a1, .int a2, .int a3]) (lv := fun E => [(0, .ref (ec E (2 + k0))), (1, .int a1), (2, .int a2), (3, .int a3)]) (by decide) (fun _ => rfl) (fun _ => (Nat.le_of_ble_eq_true rfl)) (fun X F hx Rt => by
    have F : Fx X cX3_stands RX3 1 23 := F
    unfold mX3_stands at h
    refine g_iload_n (pc := 0) (x := a3) F dX3_stands_0 rfl 3 rfl ?_
    refine g_iconst (pc := 1) F dX3_stands_1 ic_5 ?_
    refine g_icmp_ge (pc := 2) (tgt := 19) F dX3_stands_2 (by decide) (fun c1 => ?_) (fun c1 => ?_)
    · have h := ite_t c1 h
      refine g_iconst (pc := 19) F dX3_stands_19 ic_0 ?_
      obtain rfl := Option.some.inj h
      exact g_iret (pc := 20) (Wf := Wc) F Rt (by decide) dX3_stands_20
    · have h := ite_f c1 h
      refine g_aload_n (pc := 5) (x := ec (xE X) (2 + k0)) F dX3_stands_5 rfl 0 rfl ?_
      refine g_iload_n (pc := 6) (x := a1) F dX3_stands_6 rfl 1 rfl ?_
      refine g_iload_n (pc := 7) (x := a2) F dX3_stands_7 rfl 2 rfl ?_
      refine g_iload_n (pc := 8) (x := a3) F dX3_stands_8 rfl 3 rfl ?_
      obtain ⟨r2, e3, h⟩ := bd_some h
      obtain ⟨C4, hC4⟩ := kcl_ok hk0
      refine g_zI (pc := 9) (Wf := Wc) (As := [.int a1, .int a2, .int a3]) (rest := []) F (hX8_stands (M := M) hk0 e3 (xl X) (xE X)) zX3_25 (2 + k0) hC4 (wc_K _ _ hk0) rfl rfl ⟨(Nat.le_of_ble_eq_true rfl), (Nat.le_of_ble_eq_true rfl)⟩ (Nat.le_of_ble_eq_true rfl) dX3_stands_9 ?_
      refine g_if_eq (pc := 12) (tgt := 19) F dX3_stands_12 (by decide) (fun c5 => ?_) (fun c5 => ?_)
      · have h := ite_t c5 h
        refine g_iconst (pc := 19) F dX3_stands_19 ic_0 ?_
        obtain rfl := Option.some.inj h
        exact g_iret (pc := 20) (Wf := Wc) F Rt (by decide) dX3_stands_20
      · have h := ite_f c5 h
        refine g_iconst (pc := 15) F dX3_stands_15 ic_1 ?_
        refine g_goto (pc := 16) (tgt := 20) F dX3_stands_16 (by decide) ?_
        obtain rfl := Option.some.inj h
        exact g_iret (pc := 20) (Wf := Wc) F Rt (by decide) dX3_stands_20) l E
set_option maxHeartbeats 4000000 in
set_option maxRecDepth 100000 in
theorem hX7_number {M : Mem} {k0 : Nat} (hk0 : k0 < 6) {res : Int32} (h : mX7_number  = some res) (l : Launch) (E : Ev) : CtI l E (Wc E) yX7_number cX7_number 1 .int 0 0 [.ref (ec E (2 + k0))] M res M :=
  ctI_of (Wf := Wc) (av := fun E => [.ref (ec E (2 + k0))]) (lv := fun E => [(0, .ref (ec E (2 + k0)))]) (by decide) (fun _ => rfl) (fun _ => (Nat.le_of_ble_eq_true rfl)) (fun X F hx Rt => by
    have F : Fx X cX7_number RX7 0 0 := F
    unfold mX7_number at h
    refine g_iconst (pc := 0) F dX7_number_0 ic_0 ?_
    obtain rfl := Option.some.inj h
    exact g_iret (pc := 1) (Wf := Wc) F Rt rfl dX7_number_1) l E
set_option maxHeartbeats 4000000 in
set_option maxRecDepth 100000 in
theorem hX7_stands {M : Mem} {a1 : Int32} {a2 : Int32} {a3 : Int32} {k0 : Nat} (hk0 : k0 < 6) {res : Int32} (h : mX7_stands a1 a2 a3 = some res) (l : Launch) (E : Ev) : CtI l E (Wc E) yX7_stands cX7_stands 4 .boolean 0 0 [.ref (ec E (2 + k0)), .int a1, .int a2, .int a3] M res M :=
  ctI_of (Wf := Wc) (av := fun E => [.ref (ec E (2 + k0)), .int a1, .int a2, .int a3]) (lv := fun E => [(0, .ref (ec E (2 + k0))), (1, .int a1), (2, .int a2), (3, .int a3)]) (by decide) (fun _ => rfl) (fun _ => (Nat.le_of_ble_eq_true rfl)) (fun X F hx Rt => by
    have F : Fx X cX7_stands RX7 0 0 := F
    unfold mX7_stands at h
    refine g_iconst (pc := 0) F dX7_stands_0 ic_0 ?_
    obtain rfl := Option.some.inj h
    exact g_iret (pc := 1) (Wf := Wc) F Rt (by decide) dX7_stands_1) l E
set_option maxHeartbeats 4000000 in
set_option maxRecDepth 100000 in
theorem hX8_number {M : Mem} {k0 : Nat} (hk0 : k0 < 6) {res : Int32} (h : mX8_number  = some res) (l : Launch) (E : Ev) : CtI l E (Wc E) yX8_number cX8_number 1 .int 0 0 [.ref (ec E (2 + k0))] M res M :=
  ctI_of (Wf := Wc) (av := fun E => [.ref (ec E (2 + k0))]) (lv := fun E => [(0, .ref (ec E (2 + k0)))]) (by decide) (fun _ => rfl) (fun _ => (Nat.le_of_ble_eq_true rfl)) (fun X F hx Rt => by
    have F : Fx X cX8_number RX8 0 0 := F
    unfold mX8_number at h
    refine g_iconst (pc := 0) F dX8_number_0 ic_1 ?_
    obtain rfl := Option.some.inj h
    exact g_iret (pc := 1) (Wf := Wc) F Rt rfl dX8_number_1) l E
def mV_number (x : Int32) : Option Int32 := (if x = (0 : Int32) then mX7_number  else (if x = (1 : Int32) then mX8_number  else (if x = (2 : Int32) then mX0_number  else (if x = (3 : Int32) then mX1_number  else (if x = (4 : Int32) then mX3_number  else (if x = (5 : Int32) then mX2_number  else none))))))
theorem ku_number_0 : KU RX7 yX7_number yX7_number cX7_number 1 (some .int) 0 cX7_number 1 (some .int) := ⟨gw_of 404 (by decide +kernel) (by decide +kernel), gw_of 402 (by decide +kernel) (by decide +kernel), gw_of 403 (by decide +kernel) (by decide +kernel), gw_of 402 (by decide +kernel) (by decide +kernel), gw_of 63 (by decide +kernel) (by decide +kernel), gw_of 420 (by decide +kernel) (by decide +kernel), gw_of 420 (by decide +kernel) (by decide +kernel), by decide, by decide, by decide +kernel⟩
theorem ku_number_1 : KU RX8 yX7_number yX8_number cX8_number 1 (some .int) 0 cX7_number 1 (some .int) := ⟨gw_of 404 (by decide +kernel) (by decide +kernel), gw_of 402 (by decide +kernel) (by decide +kernel), gw_of 417 (by decide +kernel) (by decide +kernel), gw_of 418 (by decide +kernel) (by decide +kernel), gw_of 64 (by decide +kernel) (by decide +kernel), gw_of 419 (by decide +kernel) (by decide +kernel), gw_of 420 (by decide +kernel) (by decide +kernel), by decide, by decide, by decide +kernel⟩
theorem ku_number_2 : KU RX0 yX7_number yX0_number cX0_number 1 (some .int) 0 cX7_number 1 (some .int) := ⟨gw_of 404 (by decide +kernel) (by decide +kernel), gw_of 402 (by decide +kernel) (by decide +kernel), gw_of 405 (by decide +kernel) (by decide +kernel), gw_of 406 (by decide +kernel) (by decide +kernel), gw_of 65 (by decide +kernel) (by decide +kernel), gw_of 407 (by decide +kernel) (by decide +kernel), gw_of 420 (by decide +kernel) (by decide +kernel), by decide, by decide, by decide +kernel⟩
theorem ku_number_3 : KU RX1 yX7_number yX1_number cX1_number 1 (some .int) 0 cX7_number 1 (some .int) := ⟨gw_of 404 (by decide +kernel) (by decide +kernel), gw_of 402 (by decide +kernel) (by decide +kernel), gw_of 408 (by decide +kernel) (by decide +kernel), gw_of 409 (by decide +kernel) (by decide +kernel), gw_of 66 (by decide +kernel) (by decide +kernel), gw_of 410 (by decide +kernel) (by decide +kernel), gw_of 420 (by decide +kernel) (by decide +kernel), by decide, by decide, by decide +kernel⟩
theorem ku_number_4 : KU RX3 yX7_number yX3_number cX3_number 1 (some .int) 0 cX7_number 1 (some .int) := ⟨gw_of 404 (by decide +kernel) (by decide +kernel), gw_of 402 (by decide +kernel) (by decide +kernel), gw_of 414 (by decide +kernel) (by decide +kernel), gw_of 415 (by decide +kernel) (by decide +kernel), gw_of 67 (by decide +kernel) (by decide +kernel), gw_of 416 (by decide +kernel) (by decide +kernel), gw_of 420 (by decide +kernel) (by decide +kernel), by decide, by decide, by decide +kernel⟩
theorem ku_number_5 : KU RX2 yX7_number yX2_number cX2_number 1 (some .int) 0 cX7_number 1 (some .int) := ⟨gw_of 404 (by decide +kernel) (by decide +kernel), gw_of 402 (by decide +kernel) (by decide +kernel), gw_of 411 (by decide +kernel) (by decide +kernel), gw_of 412 (by decide +kernel) (by decide +kernel), gw_of 68 (by decide +kernel) (by decide +kernel), gw_of 413 (by decide +kernel) (by decide +kernel), gw_of 420 (by decide +kernel) (by decide +kernel), by decide, by decide, by decide +kernel⟩
set_option maxHeartbeats 4000000 in
theorem gd_number {X : Cx} {cc : ByteArray} {own : String} {f n pc : Nat} {lv : List (Nat × Value)} {M : Mem} {x r : Int32} {idx : Nat} {st rest : List Value} (F : Fx X cc own f n) (h : mV_number x  = some r) (hl : Cond.methodLink own idx yX7_number ∈ gw) (hst : st = [] ++ .ref (ec (xE X) (2 + x.toNatClampNeg)) :: rest) (hrm : 1 ≤ f ∧ 20 ≤ n) (hro : (rest.map fun v => v.category).sum ≤ 8) (d : decode cc pc = .ok (.invokevirtual idx, 3)) (k : G X (Wc (xE X) M) (pc + 3) lv (.int r :: rest)) : G X (Wc (xE X) M) pc lv st := by
  subst hst
  unfold mV_number at h
  by_cases c0 : x = (0 : Int32)
  · subst c0
    have h := ite_t rfl h
    exact g_uI (Wf := Wc) (C := (RX7, TX7, 0)) (As := []) (rest := rest) F (hX7_number (M := M) (k0 := 0) (by decide) h (xl X) (xE X)) ku_number_0 hl (2 + 0) rfl (wc_K _ _ (k := 0) (by decide)) rfl rfl ⟨Nat.le_trans (by decide) hrm.1, Nat.le_trans (by decide) hrm.2⟩ hro d k
  · have h := ite_f c0 h
    by_cases c1 : x = (1 : Int32)
    · subst c1
      have h := ite_t rfl h
      exact g_uI (Wf := Wc) (C := (RX8, TX8, 0)) (As := []) (rest := rest) F (hX8_number (M := M) (k0 := 1) (by decide) h (xl X) (xE X)) ku_number_1 hl (2 + 1) rfl (wc_K _ _ (k := 1) (by decide)) rfl rfl ⟨Nat.le_trans (by decide) hrm.1, Nat.le_trans (by decide) hrm.2⟩ hro d k
    · have h := ite_f c1 h
      by_cases c2 : x = (2 : Int32)
      · subst c2
        have h := ite_t rfl h
        exact g_uI (Wf := Wc) (C := (RX0, TX0, 0)) (As := []) (rest := rest) F (hX0_number (M := M) (k0 := 2) (by decide) h (xl X) (xE X)) ku_number_2 hl (2 + 2) rfl (wc_K _ _ (k := 2) (by decide)) rfl rfl ⟨Nat.le_trans (by decide) hrm.1, Nat.le_trans (by decide) hrm.2⟩ hro d k
      · have h := ite_f c2 h
        by_cases c3 : x = (3 : Int32)
        · subst c3
          have h := ite_t rfl h
          exact g_uI (Wf := Wc) (C := (RX1, TX1, 0)) (As := []) (rest := rest) F (hX1_number (M := M) (k0 := 3) (by decide) h (xl X) (xE X)) ku_number_3 hl (2 + 3) rfl (wc_K _ _ (k := 3) (by decide)) rfl rfl ⟨Nat.le_trans (by decide) hrm.1, Nat.le_trans (by decide) hrm.2⟩ hro d k
        · have h := ite_f c3 h
          by_cases c4 : x = (4 : Int32)
          · subst c4
            have h := ite_t rfl h
            exact g_uI (Wf := Wc) (C := (RX3, TX3, 0)) (As := []) (rest := rest) F (hX3_number (M := M) (k0 := 4) (by decide) h (xl X) (xE X)) ku_number_4 hl (2 + 4) rfl (wc_K _ _ (k := 4) (by decide)) rfl rfl ⟨Nat.le_trans (by decide) hrm.1, Nat.le_trans (by decide) hrm.2⟩ hro d k
          · have h := ite_f c4 h
            by_cases c5 : x = (5 : Int32)
            · subst c5
              have h := ite_t rfl h
              exact g_uI (Wf := Wc) (C := (RX2, TX2, 0)) (As := []) (rest := rest) F (hX2_number (M := M) (k0 := 5) (by decide) h (xl X) (xE X)) ku_number_5 hl (2 + 5) rfl (wc_K _ _ (k := 5) (by decide)) rfl rfl ⟨Nat.le_trans (by decide) hrm.1, Nat.le_trans (by decide) hrm.2⟩ hro d k
            · have h := ite_f c5 h
              cases h
def mV_isUnder (x : Int32) (a1 : Int32) : Option Int32 := (if x = (0 : Int32) then mX7_isUnder a1 else (if x = (1 : Int32) then mX8_isUnder a1 else (if x = (2 : Int32) then mX0_isUnder a1 else (if x = (3 : Int32) then mX1_isUnder a1 else (if x = (4 : Int32) then mX3_isUnder a1 else (if x = (5 : Int32) then mX2_isUnder a1 else none))))))
theorem ku_isUnder_0 : KU RX7 yX7_isUnder yX7_isUnder cX7_isUnder 2 (some .boolean) 1 cX7_isUnder 2 (some .boolean) := ⟨gw_of 545 (by decide +kernel) (by decide +kernel), gw_of 543 (by decide +kernel) (by decide +kernel), gw_of 544 (by decide +kernel) (by decide +kernel), gw_of 543 (by decide +kernel) (by decide +kernel), gw_of 63 (by decide +kernel) (by decide +kernel), gw_of 566 (by decide +kernel) (by decide +kernel), gw_of 566 (by decide +kernel) (by decide +kernel), by decide, by decide, by decide +kernel⟩
theorem ku_isUnder_1 : KU RX8 yX7_isUnder yX8_isUnder cX8_isUnder 2 (some .boolean) 1 cX7_isUnder 2 (some .boolean) := ⟨gw_of 545 (by decide +kernel) (by decide +kernel), gw_of 543 (by decide +kernel) (by decide +kernel), gw_of 565 (by decide +kernel) (by decide +kernel), gw_of 562 (by decide +kernel) (by decide +kernel), gw_of 64 (by decide +kernel) (by decide +kernel), gw_of 563 (by decide +kernel) (by decide +kernel), gw_of 566 (by decide +kernel) (by decide +kernel), by decide, by decide, by decide +kernel⟩
theorem ku_isUnder_2 : KU RX0 yX7_isUnder yX0_isUnder cX0_isUnder 2 (some .boolean) 1 cX7_isUnder 2 (some .boolean) := ⟨gw_of 545 (by decide +kernel) (by decide +kernel), gw_of 543 (by decide +kernel) (by decide +kernel), gw_of 546 (by decide +kernel) (by decide +kernel), gw_of 547 (by decide +kernel) (by decide +kernel), gw_of 65 (by decide +kernel) (by decide +kernel), gw_of 548 (by decide +kernel) (by decide +kernel), gw_of 566 (by decide +kernel) (by decide +kernel), by decide, by decide, by decide +kernel⟩
theorem ku_isUnder_3 : KU RX1 yX7_isUnder yX1_isUnder cX1_isUnder 2 (some .boolean) 1 cX7_isUnder 2 (some .boolean) := ⟨gw_of 545 (by decide +kernel) (by decide +kernel), gw_of 543 (by decide +kernel) (by decide +kernel), gw_of 550 (by decide +kernel) (by decide +kernel), gw_of 551 (by decide +kernel) (by decide +kernel), gw_of 66 (by decide +kernel) (by decide +kernel), gw_of 552 (by decide +kernel) (by decide +kernel), gw_of 566 (by decide +kernel) (by decide +kernel), by decide, by decide, by decide +kernel⟩
theorem ku_isUnder_4 : KU RX3 yX7_isUnder yX3_isUnder cX3_isUnder 2 (some .boolean) 1 cX7_isUnder 2 (some .boolean) := ⟨gw_of 545 (by decide +kernel) (by decide +kernel), gw_of 543 (by decide +kernel) (by decide +kernel), gw_of 558 (by decide +kernel) (by decide +kernel), gw_of 559 (by decide +kernel) (by decide +kernel), gw_of 67 (by decide +kernel) (by decide +kernel), gw_of 560 (by decide +kernel) (by decide +kernel), gw_of 566 (by decide +kernel) (by decide +kernel), by decide, by decide, by decide +kernel⟩
theorem ku_isUnder_5 : KU RX2 yX7_isUnder yX2_isUnder cX2_isUnder 2 (some .boolean) 1 cX7_isUnder 2 (some .boolean) := ⟨gw_of 545 (by decide +kernel) (by decide +kernel), gw_of 543 (by decide +kernel) (by decide +kernel), gw_of 554 (by decide +kernel) (by decide +kernel), gw_of 555 (by decide +kernel) (by decide +kernel), gw_of 68 (by decide +kernel) (by decide +kernel), gw_of 556 (by decide +kernel) (by decide +kernel), gw_of 566 (by decide +kernel) (by decide +kernel), by decide, by decide, by decide +kernel⟩
set_option maxHeartbeats 4000000 in
theorem gd_isUnder {X : Cx} {cc : ByteArray} {own : String} {f n pc : Nat} {lv : List (Nat × Value)} {M : Mem} {x a1 r : Int32} {idx : Nat} {st rest : List Value} (F : Fx X cc own f n) (h : mV_isUnder x a1 = some r) (hl : Cond.methodLink own idx yX7_isUnder ∈ gw) (hst : st = [.int a1] ++ .ref (ec (xE X) (2 + x.toNatClampNeg)) :: rest) (hrm : 3 ≤ f ∧ 63 ≤ n) (hro : (rest.map fun v => v.category).sum ≤ 8) (d : decode cc pc = .ok (.invokevirtual idx, 3)) (k : G X (Wc (xE X) M) (pc + 3) lv (.int r :: rest)) : G X (Wc (xE X) M) pc lv st := by
  subst hst
  unfold mV_isUnder at h
  by_cases c0 : x = (0 : Int32)
  · subst c0
    have h := ite_t rfl h
    exact g_uI (Wf := Wc) (C := (RX7, TX7, 0)) (As := [.int a1]) (rest := rest) F (hX7_isUnder (M := M) (k0 := 0) (by decide) h (xl X) (xE X)) ku_isUnder_0 hl (2 + 0) rfl (wc_K _ _ (k := 0) (by decide)) rfl rfl ⟨Nat.le_trans (by decide) hrm.1, Nat.le_trans (by decide) hrm.2⟩ hro d k
  · have h := ite_f c0 h
    by_cases c1 : x = (1 : Int32)
    · subst c1
      have h := ite_t rfl h
      exact g_uI (Wf := Wc) (C := (RX8, TX8, 0)) (As := [.int a1]) (rest := rest) F (hX8_isUnder (M := M) (k0 := 1) (by decide) h (xl X) (xE X)) ku_isUnder_1 hl (2 + 1) rfl (wc_K _ _ (k := 1) (by decide)) rfl rfl ⟨Nat.le_trans (by decide) hrm.1, Nat.le_trans (by decide) hrm.2⟩ hro d k
    · have h := ite_f c1 h
      by_cases c2 : x = (2 : Int32)
      · subst c2
        have h := ite_t rfl h
        exact g_uI (Wf := Wc) (C := (RX0, TX0, 0)) (As := [.int a1]) (rest := rest) F (hX0_isUnder (M := M) (k0 := 2) (by decide) h (xl X) (xE X)) ku_isUnder_2 hl (2 + 2) rfl (wc_K _ _ (k := 2) (by decide)) rfl rfl ⟨Nat.le_trans (by decide) hrm.1, Nat.le_trans (by decide) hrm.2⟩ hro d k
      · have h := ite_f c2 h
        by_cases c3 : x = (3 : Int32)
        · subst c3
          have h := ite_t rfl h
          exact g_uI (Wf := Wc) (C := (RX1, TX1, 0)) (As := [.int a1]) (rest := rest) F (hX1_isUnder (M := M) (k0 := 3) (by decide) h (xl X) (xE X)) ku_isUnder_3 hl (2 + 3) rfl (wc_K _ _ (k := 3) (by decide)) rfl rfl ⟨Nat.le_trans (by decide) hrm.1, Nat.le_trans (by decide) hrm.2⟩ hro d k
        · have h := ite_f c3 h
          by_cases c4 : x = (4 : Int32)
          · subst c4
            have h := ite_t rfl h
            exact g_uI (Wf := Wc) (C := (RX3, TX3, 0)) (As := [.int a1]) (rest := rest) F (hX3_isUnder (M := M) (k0 := 4) (by decide) h (xl X) (xE X)) ku_isUnder_4 hl (2 + 4) rfl (wc_K _ _ (k := 4) (by decide)) rfl rfl ⟨Nat.le_trans (by decide) hrm.1, Nat.le_trans (by decide) hrm.2⟩ hro d k
          · have h := ite_f c4 h
            by_cases c5 : x = (5 : Int32)
            · subst c5
              have h := ite_t rfl h
              exact g_uI (Wf := Wc) (C := (RX2, TX2, 0)) (As := [.int a1]) (rest := rest) F (hX2_isUnder (M := M) (k0 := 5) (by decide) h (xl X) (xE X)) ku_isUnder_5 hl (2 + 5) rfl (wc_K _ _ (k := 5) (by decide)) rfl rfl ⟨Nat.le_trans (by decide) hrm.1, Nat.le_trans (by decide) hrm.2⟩ hro d k
            · have h := ite_f c5 h
              cases h
def mV_sees (x : Int32) (a1 : Int32) (a2 : Int32) (a3 : Int32) (a4 : Int32) : Option Int32 := (if x = (0 : Int32) then mX7_sees a1 a2 a3 a4 else (if x = (1 : Int32) then mX8_sees a1 a2 a3 a4 else (if x = (2 : Int32) then mX0_sees a1 a2 a3 a4 else (if x = (3 : Int32) then mX1_sees a1 a2 a3 a4 else (if x = (4 : Int32) then mX3_sees a1 a2 a3 a4 else (if x = (5 : Int32) then mX2_sees a1 a2 a3 a4 else none))))))
theorem ku_sees_0 : KU RX7 yX7_sees yX7_sees cX7_sees 5 (some .boolean) 4 cX7_sees 5 (some .boolean) := ⟨gw_of 440 (by decide +kernel) (by decide +kernel), gw_of 438 (by decide +kernel) (by decide +kernel), gw_of 439 (by decide +kernel) (by decide +kernel), gw_of 438 (by decide +kernel) (by decide +kernel), gw_of 63 (by decide +kernel) (by decide +kernel), gw_of 460 (by decide +kernel) (by decide +kernel), gw_of 460 (by decide +kernel) (by decide +kernel), by decide, by decide, by decide +kernel⟩
theorem ku_sees_1 : KU RX8 yX7_sees yX8_sees cX8_sees 5 (some .boolean) 4 cX7_sees 5 (some .boolean) := ⟨gw_of 440 (by decide +kernel) (by decide +kernel), gw_of 438 (by decide +kernel) (by decide +kernel), gw_of 459 (by decide +kernel) (by decide +kernel), gw_of 456 (by decide +kernel) (by decide +kernel), gw_of 64 (by decide +kernel) (by decide +kernel), gw_of 457 (by decide +kernel) (by decide +kernel), gw_of 460 (by decide +kernel) (by decide +kernel), by decide, by decide, by decide +kernel⟩
theorem ku_sees_2 : KU RX0 yX7_sees yX0_sees cX0_sees 5 (some .boolean) 4 cX7_sees 5 (some .boolean) := ⟨gw_of 440 (by decide +kernel) (by decide +kernel), gw_of 438 (by decide +kernel) (by decide +kernel), gw_of 441 (by decide +kernel) (by decide +kernel), gw_of 442 (by decide +kernel) (by decide +kernel), gw_of 65 (by decide +kernel) (by decide +kernel), gw_of 443 (by decide +kernel) (by decide +kernel), gw_of 460 (by decide +kernel) (by decide +kernel), by decide, by decide, by decide +kernel⟩
theorem ku_sees_3 : KU RX1 yX7_sees yX1_sees cX1_sees 5 (some .boolean) 4 cX7_sees 5 (some .boolean) := ⟨gw_of 440 (by decide +kernel) (by decide +kernel), gw_of 438 (by decide +kernel) (by decide +kernel), gw_of 445 (by decide +kernel) (by decide +kernel), gw_of 446 (by decide +kernel) (by decide +kernel), gw_of 66 (by decide +kernel) (by decide +kernel), gw_of 447 (by decide +kernel) (by decide +kernel), gw_of 460 (by decide +kernel) (by decide +kernel), by decide, by decide, by decide +kernel⟩
theorem ku_sees_4 : KU RX3 yX7_sees yX3_sees cX3_sees 5 (some .boolean) 4 cX7_sees 5 (some .boolean) := ⟨gw_of 440 (by decide +kernel) (by decide +kernel), gw_of 438 (by decide +kernel) (by decide +kernel), gw_of 452 (by decide +kernel) (by decide +kernel), gw_of 453 (by decide +kernel) (by decide +kernel), gw_of 67 (by decide +kernel) (by decide +kernel), gw_of 454 (by decide +kernel) (by decide +kernel), gw_of 460 (by decide +kernel) (by decide +kernel), by decide, by decide, by decide +kernel⟩
theorem ku_sees_5 : KU RX2 yX7_sees yX2_sees cX2_sees 5 (some .boolean) 4 cX7_sees 5 (some .boolean) := ⟨gw_of 440 (by decide +kernel) (by decide +kernel), gw_of 438 (by decide +kernel) (by decide +kernel), gw_of 448 (by decide +kernel) (by decide +kernel), gw_of 449 (by decide +kernel) (by decide +kernel), gw_of 68 (by decide +kernel) (by decide +kernel), gw_of 450 (by decide +kernel) (by decide +kernel), gw_of 460 (by decide +kernel) (by decide +kernel), by decide, by decide, by decide +kernel⟩
set_option maxHeartbeats 4000000 in
theorem gd_sees {X : Cx} {cc : ByteArray} {own : String} {f n pc : Nat} {lv : List (Nat × Value)} {M : Mem} {x a1 a2 a3 a4 r : Int32} {idx : Nat} {st rest : List Value} (F : Fx X cc own f n) (h : mV_sees x a1 a2 a3 a4 = some r) (hl : Cond.methodLink own idx yX7_sees ∈ gw) (hst : st = [.int a4, .int a3, .int a2, .int a1] ++ .ref (ec (xE X) (2 + x.toNatClampNeg)) :: rest) (hrm : 3 ≤ f ∧ 72 ≤ n) (hro : (rest.map fun v => v.category).sum ≤ 8) (d : decode cc pc = .ok (.invokevirtual idx, 3)) (k : G X (Wc (xE X) M) (pc + 3) lv (.int r :: rest)) : G X (Wc (xE X) M) pc lv st := by
  subst hst
  unfold mV_sees at h
  by_cases c0 : x = (0 : Int32)
  · subst c0
    have h := ite_t rfl h
    exact g_uI (Wf := Wc) (C := (RX7, TX7, 0)) (As := [.int a1, .int a2, .int a3, .int a4]) (rest := rest) F (hX7_sees (M := M) (k0 := 0) (by decide) h (xl X) (xE X)) ku_sees_0 hl (2 + 0) rfl (wc_K _ _ (k := 0) (by decide)) rfl rfl ⟨Nat.le_trans (by decide) hrm.1, Nat.le_trans (by decide) hrm.2⟩ hro d k
  · have h := ite_f c0 h
    by_cases c1 : x = (1 : Int32)
    · subst c1
      have h := ite_t rfl h
      exact g_uI (Wf := Wc) (C := (RX8, TX8, 0)) (As := [.int a1, .int a2, .int a3, .int a4]) (rest := rest) F (hX8_sees (M := M) (k0 := 1) (by decide) h (xl X) (xE X)) ku_sees_1 hl (2 + 1) rfl (wc_K _ _ (k := 1) (by decide)) rfl rfl ⟨Nat.le_trans (by decide) hrm.1, Nat.le_trans (by decide) hrm.2⟩ hro d k
    · have h := ite_f c1 h
      by_cases c2 : x = (2 : Int32)
      · subst c2
        have h := ite_t rfl h
        exact g_uI (Wf := Wc) (C := (RX0, TX0, 0)) (As := [.int a1, .int a2, .int a3, .int a4]) (rest := rest) F (hX0_sees (M := M) (k0 := 2) (by decide) h (xl X) (xE X)) ku_sees_2 hl (2 + 2) rfl (wc_K _ _ (k := 2) (by decide)) rfl rfl ⟨Nat.le_trans (by decide) hrm.1, Nat.le_trans (by decide) hrm.2⟩ hro d k
      · have h := ite_f c2 h
        by_cases c3 : x = (3 : Int32)
        · subst c3
          have h := ite_t rfl h
          exact g_uI (Wf := Wc) (C := (RX1, TX1, 0)) (As := [.int a1, .int a2, .int a3, .int a4]) (rest := rest) F (hX1_sees (M := M) (k0 := 3) (by decide) h (xl X) (xE X)) ku_sees_3 hl (2 + 3) rfl (wc_K _ _ (k := 3) (by decide)) rfl rfl ⟨Nat.le_trans (by decide) hrm.1, Nat.le_trans (by decide) hrm.2⟩ hro d k
        · have h := ite_f c3 h
          by_cases c4 : x = (4 : Int32)
          · subst c4
            have h := ite_t rfl h
            exact g_uI (Wf := Wc) (C := (RX3, TX3, 0)) (As := [.int a1, .int a2, .int a3, .int a4]) (rest := rest) F (hX3_sees (M := M) (k0 := 4) (by decide) h (xl X) (xE X)) ku_sees_4 hl (2 + 4) rfl (wc_K _ _ (k := 4) (by decide)) rfl rfl ⟨Nat.le_trans (by decide) hrm.1, Nat.le_trans (by decide) hrm.2⟩ hro d k
          · have h := ite_f c4 h
            by_cases c5 : x = (5 : Int32)
            · subst c5
              have h := ite_t rfl h
              exact g_uI (Wf := Wc) (C := (RX2, TX2, 0)) (As := [.int a1, .int a2, .int a3, .int a4]) (rest := rest) F (hX2_sees (M := M) (k0 := 5) (by decide) h (xl X) (xE X)) ku_sees_5 hl (2 + 5) rfl (wc_K _ _ (k := 5) (by decide)) rfl rfl ⟨Nat.le_trans (by decide) hrm.1, Nat.le_trans (by decide) hrm.2⟩ hro d k
            · have h := ite_f c5 h
              cases h
def mV_speed (x : Int32) (a1 : Int32) (a2 : Int32) : Option Int32 := (if x = (0 : Int32) then mX7_speed a1 a2 else (if x = (1 : Int32) then mX8_speed a1 a2 else (if x = (2 : Int32) then mX7_speed a1 a2 else (if x = (3 : Int32) then mX1_speed a1 a2 else (if x = (4 : Int32) then mX3_speed a1 a2 else (if x = (5 : Int32) then mX2_speed a1 a2 else none))))))
theorem ku_speed_0 : KU RX7 yX7_speed yX7_speed cX7_speed 3 (some .int) 2 cX7_speed 3 (some .int) := ⟨gw_of 464 (by decide +kernel) (by decide +kernel), gw_of 462 (by decide +kernel) (by decide +kernel), gw_of 463 (by decide +kernel) (by decide +kernel), gw_of 462 (by decide +kernel) (by decide +kernel), gw_of 63 (by decide +kernel) (by decide +kernel), gw_of 483 (by decide +kernel) (by decide +kernel), gw_of 483 (by decide +kernel) (by decide +kernel), by decide, by decide, by decide +kernel⟩
theorem ku_speed_1 : KU RX8 yX7_speed yX8_speed cX8_speed 3 (some .int) 2 cX7_speed 3 (some .int) := ⟨gw_of 464 (by decide +kernel) (by decide +kernel), gw_of 462 (by decide +kernel) (by decide +kernel), gw_of 482 (by decide +kernel) (by decide +kernel), gw_of 479 (by decide +kernel) (by decide +kernel), gw_of 64 (by decide +kernel) (by decide +kernel), gw_of 480 (by decide +kernel) (by decide +kernel), gw_of 483 (by decide +kernel) (by decide +kernel), by decide, by decide, by decide +kernel⟩
theorem ku_speed_2 : KU RX0 yX7_speed yX7_speed cX7_speed 3 (some .int) 2 cX7_speed 3 (some .int) := ⟨gw_of 464 (by decide +kernel) (by decide +kernel), gw_of 462 (by decide +kernel) (by decide +kernel), gw_of 465 (by decide +kernel) (by decide +kernel), gw_of 462 (by decide +kernel) (by decide +kernel), gw_of 63 (by decide +kernel) (by decide +kernel), gw_of 483 (by decide +kernel) (by decide +kernel), gw_of 483 (by decide +kernel) (by decide +kernel), by decide, by decide, by decide +kernel⟩
theorem ku_speed_3 : KU RX1 yX7_speed yX1_speed cX1_speed 3 (some .int) 2 cX7_speed 3 (some .int) := ⟨gw_of 464 (by decide +kernel) (by decide +kernel), gw_of 462 (by decide +kernel) (by decide +kernel), gw_of 466 (by decide +kernel) (by decide +kernel), gw_of 467 (by decide +kernel) (by decide +kernel), gw_of 66 (by decide +kernel) (by decide +kernel), gw_of 468 (by decide +kernel) (by decide +kernel), gw_of 483 (by decide +kernel) (by decide +kernel), by decide, by decide, by decide +kernel⟩
theorem ku_speed_4 : KU RX3 yX7_speed yX3_speed cX3_speed 3 (some .int) 2 cX7_speed 3 (some .int) := ⟨gw_of 464 (by decide +kernel) (by decide +kernel), gw_of 462 (by decide +kernel) (by decide +kernel), gw_of 475 (by decide +kernel) (by decide +kernel), gw_of 476 (by decide +kernel) (by decide +kernel), gw_of 67 (by decide +kernel) (by decide +kernel), gw_of 477 (by decide +kernel) (by decide +kernel), gw_of 483 (by decide +kernel) (by decide +kernel), by decide, by decide, by decide +kernel⟩
theorem ku_speed_5 : KU RX2 yX7_speed yX2_speed cX2_speed 3 (some .int) 2 cX7_speed 3 (some .int) := ⟨gw_of 464 (by decide +kernel) (by decide +kernel), gw_of 462 (by decide +kernel) (by decide +kernel), gw_of 469 (by decide +kernel) (by decide +kernel), gw_of 470 (by decide +kernel) (by decide +kernel), gw_of 68 (by decide +kernel) (by decide +kernel), gw_of 471 (by decide +kernel) (by decide +kernel), gw_of 483 (by decide +kernel) (by decide +kernel), by decide, by decide, by decide +kernel⟩
set_option maxHeartbeats 4000000 in
theorem gd_speed {X : Cx} {cc : ByteArray} {own : String} {f n pc : Nat} {lv : List (Nat × Value)} {M : Mem} {x a1 a2 r : Int32} {idx : Nat} {st rest : List Value} (F : Fx X cc own f n) (h : mV_speed x a1 a2 = some r) (hl : Cond.methodLink own idx yX7_speed ∈ gw) (hst : st = [.int a2, .int a1] ++ .ref (ec (xE X) (2 + x.toNatClampNeg)) :: rest) (hrm : 3 ≤ f ∧ 66 ≤ n) (hro : (rest.map fun v => v.category).sum ≤ 8) (d : decode cc pc = .ok (.invokevirtual idx, 3)) (k : G X (Wc (xE X) M) (pc + 3) lv (.int r :: rest)) : G X (Wc (xE X) M) pc lv st := by
  subst hst
  unfold mV_speed at h
  by_cases c0 : x = (0 : Int32)
  · subst c0
    have h := ite_t rfl h
    exact g_uI (Wf := Wc) (C := (RX7, TX7, 0)) (As := [.int a1, .int a2]) (rest := rest) F (hX7_speed (M := M) (k0 := 0) (by decide) h (xl X) (xE X)) ku_speed_0 hl (2 + 0) rfl (wc_K _ _ (k := 0) (by decide)) rfl rfl ⟨Nat.le_trans (by decide) hrm.1, Nat.le_trans (by decide) hrm.2⟩ hro d k
  · have h := ite_f c0 h
    by_cases c1 : x = (1 : Int32)
    · subst c1
      have h := ite_t rfl h
      exact g_uI (Wf := Wc) (C := (RX8, TX8, 0)) (As := [.int a1, .int a2]) (rest := rest) F (hX8_speed (M := M) (k0 := 1) (by decide) h (xl X) (xE X)) ku_speed_1 hl (2 + 1) rfl (wc_K _ _ (k := 1) (by decide)) rfl rfl ⟨Nat.le_trans (by decide) hrm.1, Nat.le_trans (by decide) hrm.2⟩ hro d k
    · have h := ite_f c1 h
      by_cases c2 : x = (2 : Int32)
      · subst c2
        have h := ite_t rfl h
        exact g_uI (Wf := Wc) (C := (RX0, TX0, 0)) (As := [.int a1, .int a2]) (rest := rest) F (hX7_speed (M := M) (k0 := 2) (by decide) h (xl X) (xE X)) ku_speed_2 hl (2 + 2) rfl (wc_K _ _ (k := 2) (by decide)) rfl rfl ⟨Nat.le_trans (by decide) hrm.1, Nat.le_trans (by decide) hrm.2⟩ hro d k
      · have h := ite_f c2 h
        by_cases c3 : x = (3 : Int32)
        · subst c3
          have h := ite_t rfl h
          exact g_uI (Wf := Wc) (C := (RX1, TX1, 0)) (As := [.int a1, .int a2]) (rest := rest) F (hX1_speed (M := M) (k0 := 3) (by decide) h (xl X) (xE X)) ku_speed_3 hl (2 + 3) rfl (wc_K _ _ (k := 3) (by decide)) rfl rfl ⟨Nat.le_trans (by decide) hrm.1, Nat.le_trans (by decide) hrm.2⟩ hro d k
        · have h := ite_f c3 h
          by_cases c4 : x = (4 : Int32)
          · subst c4
            have h := ite_t rfl h
            exact g_uI (Wf := Wc) (C := (RX3, TX3, 0)) (As := [.int a1, .int a2]) (rest := rest) F (hX3_speed (M := M) (k0 := 4) (by decide) h (xl X) (xE X)) ku_speed_4 hl (2 + 4) rfl (wc_K _ _ (k := 4) (by decide)) rfl rfl ⟨Nat.le_trans (by decide) hrm.1, Nat.le_trans (by decide) hrm.2⟩ hro d k
          · have h := ite_f c4 h
            by_cases c5 : x = (5 : Int32)
            · subst c5
              have h := ite_t rfl h
              exact g_uI (Wf := Wc) (C := (RX2, TX2, 0)) (As := [.int a1, .int a2]) (rest := rest) F (hX2_speed (M := M) (k0 := 5) (by decide) h (xl X) (xE X)) ku_speed_5 hl (2 + 5) rfl (wc_K _ _ (k := 5) (by decide)) rfl rfl ⟨Nat.le_trans (by decide) hrm.1, Nat.le_trans (by decide) hrm.2⟩ hro d k
            · have h := ite_f c5 h
              cases h
def mV_keepsOff (x : Int32) (a1 : Int32) : Option Int32 := (if x = (0 : Int32) then mX7_keepsOff a1 else (if x = (1 : Int32) then mX7_keepsOff a1 else (if x = (2 : Int32) then mX0_keepsOff a1 else (if x = (3 : Int32) then mX1_keepsOff a1 else (if x = (4 : Int32) then mX3_keepsOff a1 else (if x = (5 : Int32) then mX2_keepsOff a1 else none))))))
theorem ku_keepsOff_0 : KU RX7 yX7_keepsOff yX7_keepsOff cX7_keepsOff 2 (some .int) 1 cX7_keepsOff 2 (some .int) := ⟨gw_of 487 (by decide +kernel) (by decide +kernel), gw_of 485 (by decide +kernel) (by decide +kernel), gw_of 486 (by decide +kernel) (by decide +kernel), gw_of 485 (by decide +kernel) (by decide +kernel), gw_of 63 (by decide +kernel) (by decide +kernel), gw_of 506 (by decide +kernel) (by decide +kernel), gw_of 506 (by decide +kernel) (by decide +kernel), by decide, by decide, by decide +kernel⟩
theorem ku_keepsOff_1 : KU RX8 yX7_keepsOff yX7_keepsOff cX7_keepsOff 2 (some .int) 1 cX7_keepsOff 2 (some .int) := ⟨gw_of 487 (by decide +kernel) (by decide +kernel), gw_of 485 (by decide +kernel) (by decide +kernel), gw_of 505 (by decide +kernel) (by decide +kernel), gw_of 485 (by decide +kernel) (by decide +kernel), gw_of 63 (by decide +kernel) (by decide +kernel), gw_of 506 (by decide +kernel) (by decide +kernel), gw_of 506 (by decide +kernel) (by decide +kernel), by decide, by decide, by decide +kernel⟩
theorem ku_keepsOff_2 : KU RX0 yX7_keepsOff yX0_keepsOff cX0_keepsOff 2 (some .int) 1 cX7_keepsOff 2 (some .int) := ⟨gw_of 487 (by decide +kernel) (by decide +kernel), gw_of 485 (by decide +kernel) (by decide +kernel), gw_of 488 (by decide +kernel) (by decide +kernel), gw_of 489 (by decide +kernel) (by decide +kernel), gw_of 65 (by decide +kernel) (by decide +kernel), gw_of 490 (by decide +kernel) (by decide +kernel), gw_of 506 (by decide +kernel) (by decide +kernel), by decide, by decide, by decide +kernel⟩
theorem ku_keepsOff_3 : KU RX1 yX7_keepsOff yX1_keepsOff cX1_keepsOff 2 (some .int) 1 cX7_keepsOff 2 (some .int) := ⟨gw_of 487 (by decide +kernel) (by decide +kernel), gw_of 485 (by decide +kernel) (by decide +kernel), gw_of 492 (by decide +kernel) (by decide +kernel), gw_of 493 (by decide +kernel) (by decide +kernel), gw_of 66 (by decide +kernel) (by decide +kernel), gw_of 494 (by decide +kernel) (by decide +kernel), gw_of 506 (by decide +kernel) (by decide +kernel), by decide, by decide, by decide +kernel⟩
theorem ku_keepsOff_4 : KU RX3 yX7_keepsOff yX3_keepsOff cX3_keepsOff 2 (some .int) 1 cX7_keepsOff 2 (some .int) := ⟨gw_of 487 (by decide +kernel) (by decide +kernel), gw_of 485 (by decide +kernel) (by decide +kernel), gw_of 499 (by decide +kernel) (by decide +kernel), gw_of 500 (by decide +kernel) (by decide +kernel), gw_of 67 (by decide +kernel) (by decide +kernel), gw_of 501 (by decide +kernel) (by decide +kernel), gw_of 506 (by decide +kernel) (by decide +kernel), by decide, by decide, by decide +kernel⟩
theorem ku_keepsOff_5 : KU RX2 yX7_keepsOff yX2_keepsOff cX2_keepsOff 2 (some .int) 1 cX7_keepsOff 2 (some .int) := ⟨gw_of 487 (by decide +kernel) (by decide +kernel), gw_of 485 (by decide +kernel) (by decide +kernel), gw_of 495 (by decide +kernel) (by decide +kernel), gw_of 496 (by decide +kernel) (by decide +kernel), gw_of 68 (by decide +kernel) (by decide +kernel), gw_of 497 (by decide +kernel) (by decide +kernel), gw_of 506 (by decide +kernel) (by decide +kernel), by decide, by decide, by decide +kernel⟩
set_option maxHeartbeats 4000000 in
theorem gd_keepsOff {X : Cx} {cc : ByteArray} {own : String} {f n pc : Nat} {lv : List (Nat × Value)} {M : Mem} {x a1 r : Int32} {idx : Nat} {st rest : List Value} (F : Fx X cc own f n) (h : mV_keepsOff x a1 = some r) (hl : Cond.methodLink own idx yX7_keepsOff ∈ gw) (hst : st = [.int a1] ++ .ref (ec (xE X) (2 + x.toNatClampNeg)) :: rest) (hrm : 3 ≤ f ∧ 63 ≤ n) (hro : (rest.map fun v => v.category).sum ≤ 8) (d : decode cc pc = .ok (.invokevirtual idx, 3)) (k : G X (Wc (xE X) M) (pc + 3) lv (.int r :: rest)) : G X (Wc (xE X) M) pc lv st := by
  subst hst
  unfold mV_keepsOff at h
  by_cases c0 : x = (0 : Int32)
  · subst c0
    have h := ite_t rfl h
    exact g_uI (Wf := Wc) (C := (RX7, TX7, 0)) (As := [.int a1]) (rest := rest) F (hX7_keepsOff (M := M) (k0 := 0) (by decide) h (xl X) (xE X)) ku_keepsOff_0 hl (2 + 0) rfl (wc_K _ _ (k := 0) (by decide)) rfl rfl ⟨Nat.le_trans (by decide) hrm.1, Nat.le_trans (by decide) hrm.2⟩ hro d k
  · have h := ite_f c0 h
    by_cases c1 : x = (1 : Int32)
    · subst c1
      have h := ite_t rfl h
      exact g_uI (Wf := Wc) (C := (RX8, TX8, 0)) (As := [.int a1]) (rest := rest) F (hX7_keepsOff (M := M) (k0 := 1) (by decide) h (xl X) (xE X)) ku_keepsOff_1 hl (2 + 1) rfl (wc_K _ _ (k := 1) (by decide)) rfl rfl ⟨Nat.le_trans (by decide) hrm.1, Nat.le_trans (by decide) hrm.2⟩ hro d k
    · have h := ite_f c1 h
      by_cases c2 : x = (2 : Int32)
      · subst c2
        have h := ite_t rfl h
        exact g_uI (Wf := Wc) (C := (RX0, TX0, 0)) (As := [.int a1]) (rest := rest) F (hX0_keepsOff (M := M) (k0 := 2) (by decide) h (xl X) (xE X)) ku_keepsOff_2 hl (2 + 2) rfl (wc_K _ _ (k := 2) (by decide)) rfl rfl ⟨Nat.le_trans (by decide) hrm.1, Nat.le_trans (by decide) hrm.2⟩ hro d k
      · have h := ite_f c2 h
        by_cases c3 : x = (3 : Int32)
        · subst c3
          have h := ite_t rfl h
          exact g_uI (Wf := Wc) (C := (RX1, TX1, 0)) (As := [.int a1]) (rest := rest) F (hX1_keepsOff (M := M) (k0 := 3) (by decide) h (xl X) (xE X)) ku_keepsOff_3 hl (2 + 3) rfl (wc_K _ _ (k := 3) (by decide)) rfl rfl ⟨Nat.le_trans (by decide) hrm.1, Nat.le_trans (by decide) hrm.2⟩ hro d k
        · have h := ite_f c3 h
          by_cases c4 : x = (4 : Int32)
          · subst c4
            have h := ite_t rfl h
            exact g_uI (Wf := Wc) (C := (RX3, TX3, 0)) (As := [.int a1]) (rest := rest) F (hX3_keepsOff (M := M) (k0 := 4) (by decide) h (xl X) (xE X)) ku_keepsOff_4 hl (2 + 4) rfl (wc_K _ _ (k := 4) (by decide)) rfl rfl ⟨Nat.le_trans (by decide) hrm.1, Nat.le_trans (by decide) hrm.2⟩ hro d k
          · have h := ite_f c4 h
            by_cases c5 : x = (5 : Int32)
            · subst c5
              have h := ite_t rfl h
              exact g_uI (Wf := Wc) (C := (RX2, TX2, 0)) (As := [.int a1]) (rest := rest) F (hX2_keepsOff (M := M) (k0 := 5) (by decide) h (xl X) (xE X)) ku_keepsOff_5 hl (2 + 5) rfl (wc_K _ _ (k := 5) (by decide)) rfl rfl ⟨Nat.le_trans (by decide) hrm.1, Nat.le_trans (by decide) hrm.2⟩ hro d k
            · have h := ite_f c5 h
              cases h
def mV_stands (x : Int32) (a1 : Int32) (a2 : Int32) (a3 : Int32) : Option Int32 := (if x = (0 : Int32) then mX7_stands a1 a2 a3 else (if x = (1 : Int32) then mX8_stands a1 a2 a3 else (if x = (2 : Int32) then mX7_stands a1 a2 a3 else (if x = (3 : Int32) then mX7_stands a1 a2 a3 else (if x = (4 : Int32) then mX3_stands a1 a2 a3 else (if x = (5 : Int32) then mX7_stands a1 a2 a3 else none))))))
theorem ku_stands_0 : KU RX7 yX7_stands yX7_stands cX7_stands 4 (some .boolean) 3 cX7_stands 4 (some .boolean) := ⟨gw_of 510 (by decide +kernel) (by decide +kernel), gw_of 508 (by decide +kernel) (by decide +kernel), gw_of 509 (by decide +kernel) (by decide +kernel), gw_of 508 (by decide +kernel) (by decide +kernel), gw_of 63 (by decide +kernel) (by decide +kernel), gw_of 521 (by decide +kernel) (by decide +kernel), gw_of 521 (by decide +kernel) (by decide +kernel), by decide, by decide, by decide +kernel⟩
theorem ku_stands_1 : KU RX8 yX7_stands yX8_stands cX8_stands 4 (some .boolean) 3 cX7_stands 4 (some .boolean) := ⟨gw_of 510 (by decide +kernel) (by decide +kernel), gw_of 508 (by decide +kernel) (by decide +kernel), gw_of 520 (by decide +kernel) (by decide +kernel), gw_of 518 (by decide +kernel) (by decide +kernel), gw_of 64 (by decide +kernel) (by decide +kernel), gw_of 519 (by decide +kernel) (by decide +kernel), gw_of 521 (by decide +kernel) (by decide +kernel), by decide, by decide, by decide +kernel⟩
theorem ku_stands_2 : KU RX0 yX7_stands yX7_stands cX7_stands 4 (some .boolean) 3 cX7_stands 4 (some .boolean) := ⟨gw_of 510 (by decide +kernel) (by decide +kernel), gw_of 508 (by decide +kernel) (by decide +kernel), gw_of 511 (by decide +kernel) (by decide +kernel), gw_of 508 (by decide +kernel) (by decide +kernel), gw_of 63 (by decide +kernel) (by decide +kernel), gw_of 521 (by decide +kernel) (by decide +kernel), gw_of 521 (by decide +kernel) (by decide +kernel), by decide, by decide, by decide +kernel⟩
theorem ku_stands_3 : KU RX1 yX7_stands yX7_stands cX7_stands 4 (some .boolean) 3 cX7_stands 4 (some .boolean) := ⟨gw_of 510 (by decide +kernel) (by decide +kernel), gw_of 508 (by decide +kernel) (by decide +kernel), gw_of 512 (by decide +kernel) (by decide +kernel), gw_of 508 (by decide +kernel) (by decide +kernel), gw_of 63 (by decide +kernel) (by decide +kernel), gw_of 521 (by decide +kernel) (by decide +kernel), gw_of 521 (by decide +kernel) (by decide +kernel), by decide, by decide, by decide +kernel⟩
theorem ku_stands_4 : KU RX3 yX7_stands yX3_stands cX3_stands 4 (some .boolean) 3 cX7_stands 4 (some .boolean) := ⟨gw_of 510 (by decide +kernel) (by decide +kernel), gw_of 508 (by decide +kernel) (by decide +kernel), gw_of 514 (by decide +kernel) (by decide +kernel), gw_of 515 (by decide +kernel) (by decide +kernel), gw_of 67 (by decide +kernel) (by decide +kernel), gw_of 516 (by decide +kernel) (by decide +kernel), gw_of 521 (by decide +kernel) (by decide +kernel), by decide, by decide, by decide +kernel⟩
theorem ku_stands_5 : KU RX2 yX7_stands yX7_stands cX7_stands 4 (some .boolean) 3 cX7_stands 4 (some .boolean) := ⟨gw_of 510 (by decide +kernel) (by decide +kernel), gw_of 508 (by decide +kernel) (by decide +kernel), gw_of 513 (by decide +kernel) (by decide +kernel), gw_of 508 (by decide +kernel) (by decide +kernel), gw_of 63 (by decide +kernel) (by decide +kernel), gw_of 521 (by decide +kernel) (by decide +kernel), gw_of 521 (by decide +kernel) (by decide +kernel), by decide, by decide, by decide +kernel⟩
set_option maxHeartbeats 4000000 in
theorem gd_stands {X : Cx} {cc : ByteArray} {own : String} {f n pc : Nat} {lv : List (Nat × Value)} {M : Mem} {x a1 a2 a3 r : Int32} {idx : Nat} {st rest : List Value} (F : Fx X cc own f n) (h : mV_stands x a1 a2 a3 = some r) (hl : Cond.methodLink own idx yX7_stands ∈ gw) (hst : st = [.int a3, .int a2, .int a1] ++ .ref (ec (xE X) (2 + x.toNatClampNeg)) :: rest) (hrm : 2 ≤ f ∧ 46 ≤ n) (hro : (rest.map fun v => v.category).sum ≤ 8) (d : decode cc pc = .ok (.invokevirtual idx, 3)) (k : G X (Wc (xE X) M) (pc + 3) lv (.int r :: rest)) : G X (Wc (xE X) M) pc lv st := by
  subst hst
  unfold mV_stands at h
  by_cases c0 : x = (0 : Int32)
  · subst c0
    have h := ite_t rfl h
    exact g_uI (Wf := Wc) (C := (RX7, TX7, 0)) (As := [.int a1, .int a2, .int a3]) (rest := rest) F (hX7_stands (M := M) (k0 := 0) (by decide) h (xl X) (xE X)) ku_stands_0 hl (2 + 0) rfl (wc_K _ _ (k := 0) (by decide)) rfl rfl ⟨Nat.le_trans (by decide) hrm.1, Nat.le_trans (by decide) hrm.2⟩ hro d k
  · have h := ite_f c0 h
    by_cases c1 : x = (1 : Int32)
    · subst c1
      have h := ite_t rfl h
      exact g_uI (Wf := Wc) (C := (RX8, TX8, 0)) (As := [.int a1, .int a2, .int a3]) (rest := rest) F (hX8_stands (M := M) (k0 := 1) (by decide) h (xl X) (xE X)) ku_stands_1 hl (2 + 1) rfl (wc_K _ _ (k := 1) (by decide)) rfl rfl ⟨Nat.le_trans (by decide) hrm.1, Nat.le_trans (by decide) hrm.2⟩ hro d k
    · have h := ite_f c1 h
      by_cases c2 : x = (2 : Int32)
      · subst c2
        have h := ite_t rfl h
        exact g_uI (Wf := Wc) (C := (RX0, TX0, 0)) (As := [.int a1, .int a2, .int a3]) (rest := rest) F (hX7_stands (M := M) (k0 := 2) (by decide) h (xl X) (xE X)) ku_stands_2 hl (2 + 2) rfl (wc_K _ _ (k := 2) (by decide)) rfl rfl ⟨Nat.le_trans (by decide) hrm.1, Nat.le_trans (by decide) hrm.2⟩ hro d k
      · have h := ite_f c2 h
        by_cases c3 : x = (3 : Int32)
        · subst c3
          have h := ite_t rfl h
          exact g_uI (Wf := Wc) (C := (RX1, TX1, 0)) (As := [.int a1, .int a2, .int a3]) (rest := rest) F (hX7_stands (M := M) (k0 := 3) (by decide) h (xl X) (xE X)) ku_stands_3 hl (2 + 3) rfl (wc_K _ _ (k := 3) (by decide)) rfl rfl ⟨Nat.le_trans (by decide) hrm.1, Nat.le_trans (by decide) hrm.2⟩ hro d k
        · have h := ite_f c3 h
          by_cases c4 : x = (4 : Int32)
          · subst c4
            have h := ite_t rfl h
            exact g_uI (Wf := Wc) (C := (RX3, TX3, 0)) (As := [.int a1, .int a2, .int a3]) (rest := rest) F (hX3_stands (M := M) (k0 := 4) (by decide) h (xl X) (xE X)) ku_stands_4 hl (2 + 4) rfl (wc_K _ _ (k := 4) (by decide)) rfl rfl ⟨Nat.le_trans (by decide) hrm.1, Nat.le_trans (by decide) hrm.2⟩ hro d k
          · have h := ite_f c4 h
            by_cases c5 : x = (5 : Int32)
            · subst c5
              have h := ite_t rfl h
              exact g_uI (Wf := Wc) (C := (RX2, TX2, 0)) (As := [.int a1, .int a2, .int a3]) (rest := rest) F (hX7_stands (M := M) (k0 := 5) (by decide) h (xl X) (xE X)) ku_stands_5 hl (2 + 5) rfl (wc_K _ _ (k := 5) (by decide)) rfl rfl ⟨Nat.le_trans (by decide) hrm.1, Nat.le_trans (by decide) hrm.2⟩ hro d k
            · have h := ite_f c5 h
              cases h
set_option maxHeartbeats 4000000 in
theorem hX7_title {M : Mem} {k0 : Nat} (l : Launch) (E : Ev) : CtR l E (Wc E) yX7_title cX7_title 1 "java/lang/String" 0 0 [.ref (ec E (2 + k0))] M (eK E 0) :=
  ctR_of (Wf := Wc) (av := fun E => [.ref (ec E (2 + k0))]) (lv := fun E => [(0, .ref (ec E (2 + k0)))]) (a := fun E => eK E 0) (by decide) (fun _ => rfl) (fun _ => (Nat.le_of_ble_eq_true rfl)) (fun X F hx Rt => by
    have F : Fx X cX7_title RX7 0 0 := F
    refine g_ldcS (pc := 0) F (tx := "ship") (i := 0) (List.mem_of_getElem? (i := 0) rfl) dX7_title_0 ?_
    exact g_aret (pc := 2) (Wf := Wc) F Rt dX7_title_2) l E
theorem ku_title_0 : KU RX7 yX7_title yX7_title cX7_title 1 (some (.object "java/lang/String")) 0 cX7_title 1 (some (.object "java/lang/String")) := ⟨gw_of 734 (by decide +kernel) (by decide +kernel), gw_of 732 (by decide +kernel) (by decide +kernel), gw_of 733 (by decide +kernel) (by decide +kernel), gw_of 732 (by decide +kernel) (by decide +kernel), gw_of 63 (by decide +kernel) (by decide +kernel), gw_of 755 (by decide +kernel) (by decide +kernel), gw_of 755 (by decide +kernel) (by decide +kernel), by decide, by decide, by decide +kernel⟩
set_option maxHeartbeats 4000000 in
theorem hX8_title {M : Mem} {k0 : Nat} (l : Launch) (E : Ev) : CtR l E (Wc E) yX8_title cX8_title 1 "java/lang/String" 0 0 [.ref (ec E (2 + k0))] M (eK E 1) :=
  ctR_of (Wf := Wc) (av := fun E => [.ref (ec E (2 + k0))]) (lv := fun E => [(0, .ref (ec E (2 + k0)))]) (a := fun E => eK E 1) (by decide) (fun _ => rfl) (fun _ => (Nat.le_of_ble_eq_true rfl)) (fun X F hx Rt => by
    have F : Fx X cX8_title RX8 0 0 := F
    refine g_ldcS (pc := 0) F (tx := "steamer") (i := 1) (List.mem_of_getElem? (i := 1) rfl) dX8_title_0 ?_
    exact g_aret (pc := 2) (Wf := Wc) F Rt dX8_title_2) l E
theorem ku_title_1 : KU RX8 yX7_title yX8_title cX8_title 1 (some (.object "java/lang/String")) 0 cX7_title 1 (some (.object "java/lang/String")) := ⟨gw_of 734 (by decide +kernel) (by decide +kernel), gw_of 732 (by decide +kernel) (by decide +kernel), gw_of 751 (by decide +kernel) (by decide +kernel), gw_of 752 (by decide +kernel) (by decide +kernel), gw_of 64 (by decide +kernel) (by decide +kernel), gw_of 753 (by decide +kernel) (by decide +kernel), gw_of 755 (by decide +kernel) (by decide +kernel), by decide, by decide, by decide +kernel⟩
set_option maxHeartbeats 4000000 in
theorem hX0_title {M : Mem} {k0 : Nat} (l : Launch) (E : Ev) : CtR l E (Wc E) yX0_title cX0_title 1 "java/lang/String" 0 0 [.ref (ec E (2 + k0))] M (eK E 2) :=
  ctR_of (Wf := Wc) (av := fun E => [.ref (ec E (2 + k0))]) (lv := fun E => [(0, .ref (ec E (2 + k0)))]) (a := fun E => eK E 2) (by decide) (fun _ => rfl) (fun _ => (Nat.le_of_ble_eq_true rfl)) (fun X F hx Rt => by
    have F : Fx X cX0_title RX0 0 0 := F
    refine g_ldcS (pc := 0) F (tx := "boat") (i := 2) (List.mem_of_getElem? (i := 2) rfl) dX0_title_0 ?_
    exact g_aret (pc := 2) (Wf := Wc) F Rt dX0_title_2) l E
theorem ku_title_2 : KU RX0 yX7_title yX0_title cX0_title 1 (some (.object "java/lang/String")) 0 cX7_title 1 (some (.object "java/lang/String")) := ⟨gw_of 734 (by decide +kernel) (by decide +kernel), gw_of 732 (by decide +kernel) (by decide +kernel), gw_of 735 (by decide +kernel) (by decide +kernel), gw_of 736 (by decide +kernel) (by decide +kernel), gw_of 65 (by decide +kernel) (by decide +kernel), gw_of 737 (by decide +kernel) (by decide +kernel), gw_of 755 (by decide +kernel) (by decide +kernel), by decide, by decide, by decide +kernel⟩
set_option maxHeartbeats 4000000 in
theorem hX1_title {M : Mem} {k0 : Nat} (l : Launch) (E : Ev) : CtR l E (Wc E) yX1_title cX1_title 1 "java/lang/String" 0 0 [.ref (ec E (2 + k0))] M (eK E 3) :=
  ctR_of (Wf := Wc) (av := fun E => [.ref (ec E (2 + k0))]) (lv := fun E => [(0, .ref (ec E (2 + k0)))]) (a := fun E => eK E 3) (by decide) (fun _ => rfl) (fun _ => (Nat.le_of_ble_eq_true rfl)) (fun X F hx Rt => by
    have F : Fx X cX1_title RX1 0 0 := F
    refine g_ldcS (pc := 0) F (tx := "drifter") (i := 3) (List.mem_of_getElem? (i := 3) rfl) dX1_title_0 ?_
    exact g_aret (pc := 2) (Wf := Wc) F Rt dX1_title_2) l E
theorem ku_title_3 : KU RX1 yX7_title yX1_title cX1_title 1 (some (.object "java/lang/String")) 0 cX7_title 1 (some (.object "java/lang/String")) := ⟨gw_of 734 (by decide +kernel) (by decide +kernel), gw_of 732 (by decide +kernel) (by decide +kernel), gw_of 739 (by decide +kernel) (by decide +kernel), gw_of 740 (by decide +kernel) (by decide +kernel), gw_of 66 (by decide +kernel) (by decide +kernel), gw_of 741 (by decide +kernel) (by decide +kernel), gw_of 755 (by decide +kernel) (by decide +kernel), by decide, by decide, by decide +kernel⟩
set_option maxHeartbeats 4000000 in
theorem hX3_title {M : Mem} {k0 : Nat} (l : Launch) (E : Ev) : CtR l E (Wc E) yX3_title cX3_title 1 "java/lang/String" 0 0 [.ref (ec E (2 + k0))] M (eK E 4) :=
  ctR_of (Wf := Wc) (av := fun E => [.ref (ec E (2 + k0))]) (lv := fun E => [(0, .ref (ec E (2 + k0)))]) (a := fun E => eK E 4) (by decide) (fun _ => rfl) (fun _ => (Nat.le_of_ble_eq_true rfl)) (fun X F hx Rt => by
    have F : Fx X cX3_title RX3 0 0 := F
    refine g_ldcS (pc := 0) F (tx := "mail") (i := 4) (List.mem_of_getElem? (i := 4) rfl) dX3_title_0 ?_
    exact g_aret (pc := 2) (Wf := Wc) F Rt dX3_title_2) l E
theorem ku_title_4 : KU RX3 yX7_title yX3_title cX3_title 1 (some (.object "java/lang/String")) 0 cX7_title 1 (some (.object "java/lang/String")) := ⟨gw_of 734 (by decide +kernel) (by decide +kernel), gw_of 732 (by decide +kernel) (by decide +kernel), gw_of 747 (by decide +kernel) (by decide +kernel), gw_of 748 (by decide +kernel) (by decide +kernel), gw_of 67 (by decide +kernel) (by decide +kernel), gw_of 749 (by decide +kernel) (by decide +kernel), gw_of 755 (by decide +kernel) (by decide +kernel), by decide, by decide, by decide +kernel⟩
set_option maxHeartbeats 4000000 in
theorem hX2_title {M : Mem} {k0 : Nat} (l : Launch) (E : Ev) : CtR l E (Wc E) yX2_title cX2_title 1 "java/lang/String" 0 0 [.ref (ec E (2 + k0))] M (eK E 5) :=
  ctR_of (Wf := Wc) (av := fun E => [.ref (ec E (2 + k0))]) (lv := fun E => [(0, .ref (ec E (2 + k0)))]) (a := fun E => eK E 5) (by decide) (fun _ => rfl) (fun _ => (Nat.le_of_ble_eq_true rfl)) (fun X F hx Rt => by
    have F : Fx X cX2_title RX2 0 0 := F
    refine g_ldcS (pc := 0) F (tx := "gig") (i := 5) (List.mem_of_getElem? (i := 5) rfl) dX2_title_0 ?_
    exact g_aret (pc := 2) (Wf := Wc) F Rt dX2_title_2) l E
theorem ku_title_5 : KU RX2 yX7_title yX2_title cX2_title 1 (some (.object "java/lang/String")) 0 cX7_title 1 (some (.object "java/lang/String")) := ⟨gw_of 734 (by decide +kernel) (by decide +kernel), gw_of 732 (by decide +kernel) (by decide +kernel), gw_of 743 (by decide +kernel) (by decide +kernel), gw_of 744 (by decide +kernel) (by decide +kernel), gw_of 68 (by decide +kernel) (by decide +kernel), gw_of 745 (by decide +kernel) (by decide +kernel), gw_of 755 (by decide +kernel) (by decide +kernel), by decide, by decide, by decide +kernel⟩
set_option maxHeartbeats 4000000 in
theorem gd_title {X : Cx} {cc : ByteArray} {own : String} {f n pc : Nat} {lv : List (Nat × Value)} {M : Mem} {x : Int32} {idx : Nat} {st rest : List Value} (F : Fx X cc own f n) (h : ok x 6) (hl : Cond.methodLink own idx yX7_title ∈ gw) (hst : st = [] ++ .ref (ec (xE X) (2 + x.toNatClampNeg)) :: rest) (hrm : 1 ≤ f ∧ 20 ≤ n) (hro : (rest.map fun v => v.category).sum ≤ 8) (d : decode cc pc = .ok (.invokevirtual idx, 3)) (k : G X (Wc (xE X) M) (pc + 3) lv (.ref (eK (xE X) x.toNatClampNeg) :: rest)) : G X (Wc (xE X) M) pc lv st := by
  subst hst
  obtain ⟨j, hj, rfl⟩ := vp_in_of h (by decide)
  match j, hj with
  | 0, _ => exact g_uR (Wf := Wc) (C := (RX7, TX7, 0)) (As := []) (rest := rest) F (hX7_title (M := M) (k0 := 0) (xl X) (xE X)) ku_title_0 hl (2 + 0) rfl (wc_K _ _ (k := 0) (by decide)) rfl rfl ⟨hrm.1, hrm.2⟩ hro d k
  | 1, _ => exact g_uR (Wf := Wc) (C := (RX8, TX8, 0)) (As := []) (rest := rest) F (hX8_title (M := M) (k0 := 1) (xl X) (xE X)) ku_title_1 hl (2 + 1) rfl (wc_K _ _ (k := 1) (by decide)) rfl rfl ⟨hrm.1, hrm.2⟩ hro d k
  | 2, _ => exact g_uR (Wf := Wc) (C := (RX0, TX0, 0)) (As := []) (rest := rest) F (hX0_title (M := M) (k0 := 2) (xl X) (xE X)) ku_title_2 hl (2 + 2) rfl (wc_K _ _ (k := 2) (by decide)) rfl rfl ⟨hrm.1, hrm.2⟩ hro d k
  | 3, _ => exact g_uR (Wf := Wc) (C := (RX1, TX1, 0)) (As := []) (rest := rest) F (hX1_title (M := M) (k0 := 3) (xl X) (xE X)) ku_title_3 hl (2 + 3) rfl (wc_K _ _ (k := 3) (by decide)) rfl rfl ⟨hrm.1, hrm.2⟩ hro d k
  | 4, _ => exact g_uR (Wf := Wc) (C := (RX3, TX3, 0)) (As := []) (rest := rest) F (hX3_title (M := M) (k0 := 4) (xl X) (xE X)) ku_title_4 hl (2 + 4) rfl (wc_K _ _ (k := 4) (by decide)) rfl rfl ⟨hrm.1, hrm.2⟩ hro d k
  | 5, _ => exact g_uR (Wf := Wc) (C := (RX2, TX2, 0)) (As := []) (rest := rest) F (hX2_title (M := M) (k0 := 5) (xl X) (xE X)) ku_title_5 hl (2 + 5) rfl (wc_K _ _ (k := 5) (by decide)) rfl rfl ⟨hrm.1, hrm.2⟩ hro d k
  | j + 6, hj => exact absurd hj (by omega)
