/-! ===== texts: length and charAt of the class's own ===== -/
theorem sJ0_38 : Cond.fieldLink RJ0 38 "java/lang/String" "COMPACT_STRINGS" "Z" ∈ gw := gw_of 769 (by decide +kernel) (by decide +kernel)
theorem sJ0_15 : Cond.fieldLink RJ0 15 "java/lang/String" "coder" "B" ∈ gw := gw_of 1352 (by decide +kernel) (by decide +kernel)
theorem sJ0_9 : Cond.fieldLink RJ0 9 "java/lang/String" "value" "[B" ∈ gw := gw_of 1351 (by decide +kernel) (by decide +kernel)
theorem sJ0_1053 : Cond.fieldLink RJ0 1053 "jdk/internal/util/Preconditions" "SIOOBE_FORMATTER" "Ljava/util/function/BiFunction;" ∈ gw := gw_of 785 (by decide +kernel) (by decide +kernel)
theorem lJ0_335 : Cond.methodLink RJ0 335 yJ0_coder_7d493 ∈ gw := gw_of 765 (by decide +kernel) (by decide +kernel)
theorem lJ0_492 : Cond.methodLink RJ0 492 yJ0_isLatin1_aae02 ∈ gw := gw_of 775 (by decide +kernel) (by decide +kernel)
theorem lJ0_495 : Cond.methodLink RJ0 495 yJ1_charAt_3b067 ∈ gw := gw_of 779 (by decide +kernel) (by decide +kernel)
theorem lJ0_1059 : Cond.methodLink RJ0 1059 yJ3_checkIndex_8e157 ∈ gw := gw_of 787 (by decide +kernel) (by decide +kernel)
theorem lJ1_9 : Cond.methodLink RJ1 9 yJ0_checkIndex_df160 ∈ gw := gw_of 782 (by decide +kernel) (by decide +kernel)
theorem kJ0_coder_7d493 : KV yJ0_coder_7d493 cJ0_coder_7d493 1 (some .byte) 0 := ⟨gw_of 766 (by decide +kernel) (by decide +kernel), gw_of 767 (by decide +kernel) (by decide +kernel), gw_of 77 (by decide +kernel) (by decide +kernel), gw_of 768 (by decide +kernel) (by decide +kernel), by decide, by decide, by decide +kernel⟩
theorem kJ0_isLatin1_aae02 : KV yJ0_isLatin1_aae02 cJ0_isLatin1_aae02 1 (some .boolean) 0 := ⟨gw_of 776 (by decide +kernel) (by decide +kernel), gw_of 777 (by decide +kernel) (by decide +kernel), gw_of 77 (by decide +kernel) (by decide +kernel), gw_of 778 (by decide +kernel) (by decide +kernel), by decide, by decide, by decide +kernel⟩
theorem kJ1_charAt_3b067 : KS yJ1_charAt_3b067 cJ1_charAt_3b067 2 (some .char) 2 := ⟨gw_of 780 (by decide +kernel) (by decide +kernel), gw_of 78 (by decide +kernel) (by decide +kernel), gw_of 781 (by decide +kernel) (by decide +kernel), by decide, by decide, by decide +kernel⟩
theorem kJ0_checkIndex_df160 : KS yJ0_checkIndex_df160 cJ0_checkIndex_df160 2 none 2 := ⟨gw_of 783 (by decide +kernel) (by decide +kernel), gw_of 77 (by decide +kernel) (by decide +kernel), gw_of 784 (by decide +kernel) (by decide +kernel), by decide, by decide, by decide +kernel⟩
theorem kJ3_checkIndex_8e157 : KS yJ3_checkIndex_8e157 cJ3_checkIndex_8e157 3 (some .int) 3 := ⟨gw_of 788 (by decide +kernel) (by decide +kernel), gw_of 79 (by decide +kernel) (by decide +kernel), gw_of 789 (by decide +kernel) (by decide +kernel), by decide, by decide, by decide +kernel⟩
theorem sl_lt {w : Nat} (hw : w < 11) : sLen.getD w 0 < 8 := by
  have h : ∀ w, w < 11 → sLen.getD w 0 < 8 := by decide
  exact h w hw
set_option maxHeartbeats 4000000 in
theorem hJ0_coder {M : Mem} {w : Nat} (hw : w < 11) (l : Launch) (E : Ev) : CtI l E (Wc E) yJ0_coder_7d493 cJ0_coder_7d493 1 .byte 0 0 [.ref (eK E w)] M 0 M :=
  ctI_of (Wf := Wc) (av := fun E => [.ref (eK E w)]) (lv := fun E => [(0, .ref (eK E w))]) (by decide) (fun _ => rfl) (fun _ => (Nat.le_of_ble_eq_true rfl)) (fun X F hx Rt => by
    have F : Fx X cJ0_coder_7d493 RJ0 0 0 := F
    refine g_compact (pc := 0) F sJ0_38 dJ0_coder_7d493_0 ?_
    refine g_if_eq (pc := 3) (tgt := 13) F dJ0_coder_7d493_3 (by decide) (fun c => ?_) (fun c => ?_)
    · exact absurd c (by decide)
    · refine g_aload_n (pc := 6) (x := eK (xE X) w) F dJ0_coder_7d493_6 rfl 0 rfl ?_
      refine g_scod (pc := 7) F hw sJ0_15 dJ0_coder_7d493_7 ?_
      refine g_goto (pc := 10) (tgt := 14) F dJ0_coder_7d493_10 (by decide) ?_
      exact g_iret (pc := 14) (Wf := Wc) F Rt (by decide) dJ0_coder_7d493_14) l E
set_option maxHeartbeats 4000000 in
theorem hJ0_isLatin1 {M : Mem} {w : Nat} (hw : w < 11) (l : Launch) (E : Ev) : CtI l E (Wc E) yJ0_isLatin1_aae02 cJ0_isLatin1_aae02 1 .boolean 0 0 [.ref (eK E w)] M 1 M :=
  ctI_of (Wf := Wc) (av := fun E => [.ref (eK E w)]) (lv := fun E => [(0, .ref (eK E w))]) (by decide) (fun _ => rfl) (fun _ => (Nat.le_of_ble_eq_true rfl)) (fun X F hx Rt => by
    have F : Fx X cJ0_isLatin1_aae02 RJ0 0 0 := F
    refine g_compact (pc := 0) F sJ0_38 dJ0_isLatin1_aae02_0 ?_
    refine g_if_eq (pc := 3) (tgt := 17) F dJ0_isLatin1_aae02_3 (by decide) (fun c => ?_) (fun c => ?_)
    · exact absurd c (by decide)
    · refine g_aload_n (pc := 6) (x := eK (xE X) w) F dJ0_isLatin1_aae02_6 rfl 0 rfl ?_
      refine g_scod (pc := 7) F hw sJ0_15 dJ0_isLatin1_aae02_7 ?_
      refine g_if_ne (pc := 10) (tgt := 17) F dJ0_isLatin1_aae02_10 (by decide) (fun c => ?_) (fun c => ?_)
      · exact absurd rfl c
      · refine g_iconst (pc := 13) F dJ0_isLatin1_aae02_13 ic_1 ?_
        refine g_goto (pc := 14) (tgt := 18) F dJ0_isLatin1_aae02_14 (by decide) ?_
        exact g_iret (pc := 18) (Wf := Wc) F Rt (by decide) dJ0_isLatin1_aae02_18) l E
set_option maxHeartbeats 4000000 in
theorem hJ0_length {M : Mem} {w : Nat} (hw : w < 11) (l : Launch) (E : Ev) : CtI l E (Wc E) yJ0_length_8abf5 cJ0_length_8abf5 1 .int 1 20 [.ref (eK E w)] M (nI (sLen.getD w 0)) M :=
  ctI_of (Wf := Wc) (av := fun E => [.ref (eK E w)]) (lv := fun E => [(0, .ref (eK E w))]) (by decide) (fun _ => rfl) (fun _ => (Nat.le_of_ble_eq_true rfl)) (fun X F hx Rt => by
    have F : Fx X cJ0_length_8abf5 RJ0 1 20 := F
    refine g_aload_n (pc := 0) (x := eK (xE X) w) F dJ0_length_8abf5_0 rfl 0 rfl ?_
    refine g_sval (pc := 1) F hw sJ0_9 dJ0_length_8abf5_1 ?_
    refine g_sln (pc := 4) F hw dJ0_length_8abf5_4 ?_
    refine g_aload_n (pc := 5) (x := eK (xE X) w) F dJ0_length_8abf5_5 rfl 0 rfl ?_
    refine g_tI (pc := 6) (Wf := Wc) (As := []) (rest := [.int (nI (sLen.getD w 0))]) F hw (hJ0_coder (M := M) hw (xl X) (xE X)) kJ0_coder_7d493 lJ0_335 rfl rfl rfl ⟨(Nat.le_of_ble_eq_true rfl), (Nat.le_of_ble_eq_true rfl)⟩ (Nat.le_of_ble_eq_true rfl) dJ0_length_8abf5_6 ?_
    refine g_ishr (pc := 9) F dJ0_length_8abf5_9 ?_
    rw [sb_shr0]
    exact g_iret (pc := 10) (Wf := Wc) F Rt rfl dJ0_length_8abf5_10) l E
set_option maxHeartbeats 4000000 in
theorem hJ3_check0 {M : Mem} {i n : Int32} (h1 : ¬ i < 0) (h2 : i < n) (l : Launch) (E : Ev) : CtI l E (Wc E) yJ3_checkIndex_8e157 cJ3_checkIndex_8e157 3 .int 0 0 [.int i, .int n, .null] M i M :=
  ctI_of (Wf := Wc) (av := fun E => [.int i, .int n, .null]) (lv := fun E => [(0, .int i), (1, .int n), (2, .null)]) (by decide) (fun _ => rfl) (fun _ => (Nat.le_of_ble_eq_true rfl)) (fun X F hx Rt => by
    have F : Fx X cJ3_checkIndex_8e157 RJ3 0 0 := F
    refine g_iload_n (pc := 0) (x := i) F dJ3_checkIndex_8e157_0 rfl 0 rfl ?_
    refine g_if_lt (pc := 1) (tgt := 9) F dJ3_checkIndex_8e157_1 (by decide) (fun c => absurd c h1) (fun c => ?_)
    refine g_iload_n (pc := 4) (x := i) F dJ3_checkIndex_8e157_4 rfl 0 rfl ?_
    refine g_iload_n (pc := 5) (x := n) F dJ3_checkIndex_8e157_5 rfl 1 rfl ?_
    refine g_icmp_lt (pc := 6) (tgt := 16) F dJ3_checkIndex_8e157_6 (by decide) (fun c => ?_) (fun c => absurd h2 c)
    refine g_iload_n (pc := 16) (x := i) F dJ3_checkIndex_8e157_16 rfl 0 rfl ?_
    exact g_iret (pc := 17) (Wf := Wc) F Rt rfl dJ3_checkIndex_8e157_17) l E
set_option maxHeartbeats 4000000 in
theorem hJ3_check1 {M : Mem} {i n : Int32} {t : Nat} (h1 : ¬ i < 0) (h2 : i < n) (l : Launch) (E : Ev) : CtI l E (Wc E) yJ3_checkIndex_8e157 cJ3_checkIndex_8e157 3 .int 0 0 [.int i, .int n, .ref t] M i M :=
  ctI_of (Wf := Wc) (av := fun E => [.int i, .int n, .ref t]) (lv := fun E => [(0, .int i), (1, .int n), (2, .ref t)]) (by decide) (fun _ => rfl) (fun _ => (Nat.le_of_ble_eq_true rfl)) (fun X F hx Rt => by
    have F : Fx X cJ3_checkIndex_8e157 RJ3 0 0 := F
    refine g_iload_n (pc := 0) (x := i) F dJ3_checkIndex_8e157_0 rfl 0 rfl ?_
    refine g_if_lt (pc := 1) (tgt := 9) F dJ3_checkIndex_8e157_1 (by decide) (fun c => absurd c h1) (fun c => ?_)
    refine g_iload_n (pc := 4) (x := i) F dJ3_checkIndex_8e157_4 rfl 0 rfl ?_
    refine g_iload_n (pc := 5) (x := n) F dJ3_checkIndex_8e157_5 rfl 1 rfl ?_
    refine g_icmp_lt (pc := 6) (tgt := 16) F dJ3_checkIndex_8e157_6 (by decide) (fun c => ?_) (fun c => absurd h2 c)
    refine g_iload_n (pc := 16) (x := i) F dJ3_checkIndex_8e157_16 rfl 0 rfl ?_
    exact g_iret (pc := 17) (Wf := Wc) F Rt rfl dJ3_checkIndex_8e157_17) l E
set_option maxHeartbeats 4000000 in
theorem hJ0_check {M : Mem} {i n : Int32} (h1 : ¬ i < 0) (h2 : i < n) (l : Launch) (E : Ev) : CtV l E (Wc E) yJ0_checkIndex_df160 cJ0_checkIndex_df160 2 1 22 [.int i, .int n] M M :=
  ctV_of (Wf := Wc) (av := fun E => [.int i, .int n]) (lv := fun E => [(0, .int i), (1, .int n)]) (by decide) (fun _ => rfl) (fun _ => (Nat.le_of_ble_eq_true rfl)) (fun X F hx Rt => by
    have F : Fx X cJ0_checkIndex_df160 RJ0 1 22 := F
    refine g_iload_n (pc := 0) (x := i) F dJ0_checkIndex_df160_0 rfl 0 rfl ?_
    refine g_iload_n (pc := 1) (x := n) F dJ0_checkIndex_df160_1 rfl 1 rfl ?_
    refine g_sioobe (pc := 2) F sJ0_1053 dJ0_checkIndex_df160_2 ?_ (fun t => ?_)
    · refine g_sI (pc := 5) (Wf := Wc) (As := [.int i, .int n, .null]) (rest := []) F (hJ3_check0 (M := M) h1 h2 (xl X) (xE X)) kJ3_checkIndex_8e157 lJ0_1059 rfl rfl ⟨(Nat.le_of_ble_eq_true rfl), (Nat.le_of_ble_eq_true rfl)⟩ (Nat.le_of_ble_eq_true rfl) dJ0_checkIndex_df160_5 ?_
      refine g_pop (pc := 8) F dJ0_checkIndex_df160_8 rfl ?_
      exact g_vret (pc := 9) (Wf := Wc) F Rt dJ0_checkIndex_df160_9
    · refine g_sI (pc := 5) (Wf := Wc) (As := [.int i, .int n, .ref t]) (rest := []) F (hJ3_check1 (t := t) (M := M) h1 h2 (xl X) (xE X)) kJ3_checkIndex_8e157 lJ0_1059 rfl rfl ⟨(Nat.le_of_ble_eq_true rfl), (Nat.le_of_ble_eq_true rfl)⟩ (Nat.le_of_ble_eq_true rfl) dJ0_checkIndex_df160_5 ?_
      refine g_pop (pc := 8) F dJ0_checkIndex_df160_8 rfl ?_
      exact g_vret (pc := 9) (Wf := Wc) F Rt dJ0_checkIndex_df160_9) l E
set_option maxHeartbeats 4000000 in
theorem hJ1_charAt {M : Mem} {w : Nat} {i : Int32} (hw : w < 11) (hi : ok i (sLen.getD w 0)) (l : Launch) (E : Ev) : CtI l E (Wc E) yJ1_charAt_3b067 cJ1_charAt_3b067 2 .char 2 43 [.ref (eV E w), .int i] M ((sByt.getD w []).getD i.toNatClampNeg 0 &&& 255) M :=
  ctI_of (Wf := Wc) (av := fun E => [.ref (eV E w), .int i]) (lv := fun E => [(0, .ref (eV E w)), (1, .int i)]) (by decide) (fun _ => rfl) (fun _ => (Nat.le_of_ble_eq_true rfl)) (fun X F hx Rt => by
    have F : Fx X cJ1_charAt_3b067 RJ1 2 43 := F
    have hlen : sLen.getD w 0 < 2 ^ 31 := Nat.lt_of_lt_of_le (sl_lt hw) (by decide)
    have h1 : ¬ i < 0 := fun q => hi (Or.inl q)
    have h2 : i < nI (sLen.getD w 0) := by
      obtain ⟨j, hj, rfl⟩ := vp_in_of hi hlen
      exact nI_lt hj hlen
    refine g_iload_n (pc := 0) (x := i) F dJ1_charAt_3b067_0 rfl 1 rfl ?_
    refine g_aload_n (pc := 1) (x := eV (xE X) w) F dJ1_charAt_3b067_1 rfl 0 rfl ?_
    refine g_sln (pc := 2) F hw dJ1_charAt_3b067_2 ?_
    refine g_sV (pc := 3) (Wf := Wc) (As := [.int i, .int (nI (sLen.getD w 0))]) (rest := []) F (hJ0_check (M := M) h1 h2 (xl X) (xE X)) kJ0_checkIndex_df160 lJ1_9 rfl rfl ⟨(Nat.le_of_ble_eq_true rfl), (Nat.le_of_ble_eq_true rfl)⟩ (Nat.le_of_ble_eq_true rfl) dJ1_charAt_3b067_3 ?_
    refine g_aload_n (pc := 6) (x := eV (xE X) w) F dJ1_charAt_3b067_6 rfl 0 rfl ?_
    refine g_iload_n (pc := 7) (x := i) F dJ1_charAt_3b067_7 rfl 1 rfl ?_
    refine g_sba (pc := 8) F hw hi dJ1_charAt_3b067_8 ?_
    refine g_sipush (pc := 9) F dJ1_charAt_3b067_9 sp_255 ?_
    refine g_iand (pc := 12) F dJ1_charAt_3b067_12 ?_
    refine g_i2c (pc := 13) F dJ1_charAt_3b067_13 ?_
    rw [sc_c2]
    exact g_iret (pc := 14) (Wf := Wc) F Rt (sc_nar _) dJ1_charAt_3b067_14) l E
set_option maxHeartbeats 4000000 in
theorem hJ0_charAt {M : Mem} {w : Nat} {i : Int32} (hw : w < 11) (hi : ok i (sLen.getD w 0)) (l : Launch) (E : Ev) : CtI l E (Wc E) yJ0_charAt_5068e cJ0_charAt_5068e 2 .char 3 64 [.ref (eK E w), .int i] M ((sByt.getD w []).getD i.toNatClampNeg 0 &&& 255) M :=
  ctI_of (Wf := Wc) (av := fun E => [.ref (eK E w), .int i]) (lv := fun E => [(0, .ref (eK E w)), (1, .int i)]) (by decide) (fun _ => rfl) (fun _ => (Nat.le_of_ble_eq_true rfl)) (fun X F hx Rt => by
    have F : Fx X cJ0_charAt_5068e RJ0 3 64 := F
    refine g_aload_n (pc := 0) (x := eK (xE X) w) F dJ0_charAt_5068e_0 rfl 0 rfl ?_
    refine g_tI (pc := 1) (Wf := Wc) (As := []) (rest := []) F hw (hJ0_isLatin1 (M := M) hw (xl X) (xE X)) kJ0_isLatin1_aae02 lJ0_492 rfl rfl rfl ⟨(Nat.le_of_ble_eq_true rfl), (Nat.le_of_ble_eq_true rfl)⟩ (Nat.le_of_ble_eq_true rfl) dJ0_charAt_5068e_1 ?_
    refine g_if_eq (pc := 4) (tgt := 16) F dJ0_charAt_5068e_4 (by decide) (fun c => absurd c (by decide)) (fun c => ?_)
    refine g_aload_n (pc := 7) (x := eK (xE X) w) F dJ0_charAt_5068e_7 rfl 0 rfl ?_
    refine g_sval (pc := 8) F hw sJ0_9 dJ0_charAt_5068e_8 ?_
    refine g_iload_n (pc := 11) (x := i) F dJ0_charAt_5068e_11 rfl 1 rfl ?_
    refine g_sI (pc := 12) (Wf := Wc) (As := [.ref (eV (xE X) w), .int i]) (rest := []) F (hJ1_charAt (M := M) hw hi (xl X) (xE X)) kJ1_charAt_3b067 lJ0_495 rfl rfl ⟨(Nat.le_of_ble_eq_true rfl), (Nat.le_of_ble_eq_true rfl)⟩ (Nat.le_of_ble_eq_true rfl) dJ0_charAt_5068e_12 ?_
    exact g_iret (pc := 15) (Wf := Wc) F Rt (sc_nar _) dJ0_charAt_5068e_15) l E
