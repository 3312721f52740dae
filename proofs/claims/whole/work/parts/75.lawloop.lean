/-! ===== the loop ===== -/
set_option maxRecDepth 100000 in
set_option maxHeartbeats 4000000 in
theorem law_switch {X : Cx} {kc kn b L i : Nat} {ys : Nat → Int32} {C D : Mem} (F : LawF X b L ys) (hcs : kc ≤ room_1.cells ∧ kn ≤ room_1.slots) (hi : i + 6 ≤ L) (hR : Rel C D) (go : ∀ C2 D2 : Mem, Rel C2 D2 → GN X kc kn (Wc (xE X) C2 ++ Wm (xE X) D2) 1157 (lvL X b i) []) (v : Int32) : GN X kc kn (Wc (xE X) C ++ Wm (xE X) D) 33 (lvL X b i) [.int v] := by
  by_cases hv : v.toInt < 0 ∨ 33 < v.toInt
  · exact n_tswOut (tgt := 1157) F.1 dL_law_33 hv (by decide) (go C D hR)
  · obtain ⟨k, hk⟩ : ∃ k : Nat, v.toInt = (k : Int) ∧ k ≤ 33 := ⟨v.toInt.toNat, by omega, by omega⟩
    match k, hk with
    | 0, hk => exact n_tswIn (v := 0) (tgt := 184) F.1 dL_law_33 hk.1 (by decide) (by decide) rfl (by decide) (law_0 F hcs hi hR go)
    | 1, hk => exact n_tswIn (v := 1) (tgt := 217) F.1 dL_law_33 hk.1 (by decide) (by decide) rfl (by decide) (law_1 F hcs hi hR go)
    | 2, hk => exact n_tswIn (v := 2) (tgt := 240) F.1 dL_law_33 hk.1 (by decide) (by decide) rfl (by decide) (law_2 F hcs hi hR go)
    | 3, hk => exact n_tswIn (v := 3) (tgt := 263) F.1 dL_law_33 hk.1 (by decide) (by decide) rfl (by decide) (law_3 F hcs hi hR go)
    | 4, hk => exact n_tswIn (v := 4) (tgt := 286) F.1 dL_law_33 hk.1 (by decide) (by decide) rfl (by decide) (law_4 F hcs hi hR go)
    | 5, hk => exact n_tswIn (v := 5) (tgt := 319) F.1 dL_law_33 hk.1 (by decide) (by decide) rfl (by decide) (law_5 F hcs hi hR go)
    | 6, hk => exact n_tswIn (v := 6) (tgt := 352) F.1 dL_law_33 hk.1 (by decide) (by decide) rfl (by decide) (law_6 F hcs hi hR go)
    | 7, hk => exact n_tswIn (v := 7) (tgt := 395) F.1 dL_law_33 hk.1 (by decide) (by decide) rfl (by decide) (law_7 F hcs hi hR go)
    | 8, hk => exact n_tswIn (v := 8) (tgt := 428) F.1 dL_law_33 hk.1 (by decide) (by decide) rfl (by decide) (law_8 F hcs hi hR go)
    | 9, hk => exact n_tswIn (v := 9) (tgt := 461) F.1 dL_law_33 hk.1 (by decide) (by decide) rfl (by decide) (law_9 F hcs hi hR go)
    | 10, hk => exact n_tswIn (v := 10) (tgt := 484) F.1 dL_law_33 hk.1 (by decide) (by decide) rfl (by decide) (law_10 F hcs hi hR go)
    | 11, hk => exact n_tswIn (v := 11) (tgt := 527) F.1 dL_law_33 hk.1 (by decide) (by decide) rfl (by decide) (law_11 F hcs hi hR go)
    | 12, hk => exact n_tswIn (v := 12) (tgt := 560) F.1 dL_law_33 hk.1 (by decide) (by decide) rfl (by decide) (law_12 F hcs hi hR go)
    | 13, hk => exact n_tswIn (v := 13) (tgt := 583) F.1 dL_law_33 hk.1 (by decide) (by decide) rfl (by decide) (law_13 F hcs hi hR go)
    | 14, hk => exact n_tswIn (v := 14) (tgt := 606) F.1 dL_law_33 hk.1 (by decide) (by decide) rfl (by decide) (law_14 F hcs hi hR go)
    | 15, hk => exact n_tswIn (v := 15) (tgt := 629) F.1 dL_law_33 hk.1 (by decide) (by decide) rfl (by decide) (law_15 F hcs hi hR go)
    | 16, hk => exact n_tswIn (v := 16) (tgt := 652) F.1 dL_law_33 hk.1 (by decide) (by decide) rfl (by decide) (law_16 F hcs hi hR go)
    | 17, hk => exact n_tswIn (v := 17) (tgt := 675) F.1 dL_law_33 hk.1 (by decide) (by decide) rfl (by decide) (law_17 F hcs hi hR go)
    | 18, hk => exact n_tswIn (v := 18) (tgt := 698) F.1 dL_law_33 hk.1 (by decide) (by decide) rfl (by decide) (law_18 F hcs hi hR go)
    | 19, hk => exact n_tswIn (v := 19) (tgt := 721) F.1 dL_law_33 hk.1 (by decide) (by decide) rfl (by decide) (law_19 F hcs hi hR go)
    | 20, hk => exact n_tswIn (v := 20) (tgt := 744) F.1 dL_law_33 hk.1 (by decide) (by decide) rfl (by decide) (law_20 F hcs hi hR go)
    | 21, hk => exact n_tswIn (v := 21) (tgt := 777) F.1 dL_law_33 hk.1 (by decide) (by decide) rfl (by decide) (law_21 F hcs hi hR go)
    | 22, hk => exact n_tswIn (v := 22) (tgt := 790) F.1 dL_law_33 hk.1 (by decide) (by decide) rfl (by decide) (law_22 F hcs hi hR go)
    | 23, hk => exact n_tswIn (v := 23) (tgt := 803) F.1 dL_law_33 hk.1 (by decide) (by decide) rfl (by decide) (law_23 F hcs hi hR go)
    | 24, hk => exact n_tswIn (v := 24) (tgt := 846) F.1 dL_law_33 hk.1 (by decide) (by decide) rfl (by decide) (law_24 F hcs hi hR go)
    | 25, hk => exact n_tswIn (v := 25) (tgt := 920) F.1 dL_law_33 hk.1 (by decide) (by decide) rfl (by decide) (law_25 F hcs hi hR go)
    | 26, hk => exact n_tswIn (v := 26) (tgt := 983) F.1 dL_law_33 hk.1 (by decide) (by decide) rfl (by decide) (law_26 F hcs hi hR go)
    | 27, hk => exact n_tswIn (v := 27) (tgt := 1006) F.1 dL_law_33 hk.1 (by decide) (by decide) rfl (by decide) (law_27 F hcs hi hR go)
    | 28, hk => exact n_tswIn (v := 28) (tgt := 1039) F.1 dL_law_33 hk.1 (by decide) (by decide) rfl (by decide) (law_28 F hcs hi hR go)
    | 29, hk => exact n_tswIn (v := 29) (tgt := 1072) F.1 dL_law_33 hk.1 (by decide) (by decide) rfl (by decide) (law_29 F hcs hi hR go)
    | 30, hk => exact n_tswIn (v := 30) (tgt := 1085) F.1 dL_law_33 hk.1 (by decide) (by decide) rfl (by decide) (law_30 F hcs hi hR go)
    | 31, hk => exact n_tswIn (v := 31) (tgt := 1098) F.1 dL_law_33 hk.1 (by decide) (by decide) rfl (by decide) (law_31 F hcs hi hR go)
    | 32, hk => exact n_tswIn (v := 32) (tgt := 1111) F.1 dL_law_33 hk.1 (by decide) (by decide) rfl (by decide) (law_32 F hcs hi hR go)
    | 33, hk => exact n_tswIn (v := 33) (tgt := 1134) F.1 dL_law_33 hk.1 (by decide) (by decide) rfl (by decide) (law_33 F hcs hi hR go)
    | k + 34, hk => exact absurd hk.2 (by omega)
set_option maxRecDepth 100000 in
set_option maxHeartbeats 4000000 in
theorem law_loop {X : Cx} {kc kn b L : Nat} {ys : Nat → Int32} (F : LawF X b L ys) (hcs : kc ≤ room_1.cells ∧ kn ≤ room_1.slots) (hend : ∀ (ws : va_W) (lv : List (Nat × Value)), GN X kc kn ws 1163 lv []) : ∀ (n i : Nat) (C D : Mem), L + 6 < i + n → i ≤ L + 6 → Rel C D → GN X kc kn (Wc (xE X) C ++ Wm (xE X) D) 18 (lvL X b i) [] := by
  intro n
  induction n with
  | zero => intro i C D h1 h2; omega
  | succ n ih =>
    intro i C D h1 h2 hR
    have hL := F.2.2.1.2.2.2
    refine n_iload_n F.1 dL_law_18 rfl 3 rfl ?_
    refine n_aload_n F.1 dL_law_19 rfl 0 rfl ?_
    refine n_slen F dL_law_20 ?_
    refine n_bipush (v := 6) F.1 dL_law_21 (by decide) ?_
    refine n_isub F.1 dL_law_23 ?_
    refine n_icmp_gt (tgt := 1163) F.1 dL_law_24 (by decide) (fun _ => hend _ _) (fun c => ?_)
    have hi : i + 6 ≤ L := head_le hL (by omega) c
    refine n_aload_n F.1 dL_law_27 rfl 0 rfl ?_
    refine n_iload_n F.1 dL_law_28 rfl 3 rfl ?_
    refine n_sld F (vp_in_nI (show i < L by omega) (by omega)) (nI_clamp (by omega)) dL_law_29 ?_
    refine n_bipush (v := 63) F.1 dL_law_30 (by decide) ?_
    refine n_iand F.1 dL_law_32 ?_
    refine law_switch F hcs hi hR (fun C2 D2 h => ?_) _
    refine n_iinc (v := nI (i + 6)) (lv2 := lvL X b (i + 6)) F.1 dL_law_1157 3 rfl (by rw [show Int32.ofInt 6 = nI 6 by decide, nI_add]) (by rw [F.2.1]; decide) [1, 2, 3, 0] rfl ?_
    refine n_goto (tgt := 18) F.1 dL_law_1160 (by decide) ?_
    exact ih (i + 6) C2 D2 (by omega) (by omega) h
