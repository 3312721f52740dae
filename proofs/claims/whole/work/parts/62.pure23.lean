/-! ===== PURE 23: lamps and ships in a text ===== -/
theorem nI_bv (y : Int32) : y = nI y.toBitVec.toNat := by
  apply Int32.toBitVec_inj.mp
  show _ = BitVec.ofNat 32 y.toBitVec.toNat
  rw [BitVec.ofNat_toNat, BitVec.setWidth_eq]
theorem nI_tn {l : Nat} (h : l < 2 ^ 31) : (nI l).toBitVec.toNat = l := by
  show (BitVec.ofNat 32 l).toNat = l
  rw [BitVec.toNat_ofNat, Nat.mod_eq_of_lt (by omega)]
theorem m1bit : ∀ i : Fin 32, (-1 : Int32).toBitVec.getLsbD i.val = true := by decide +kernel
theorem or_not (x b : Int32) : (x &&& (b ^^^ (-1 : Int32))) ||| b = x ||| b := by
  apply Int32.toBitVec_inj.mp
  rw [Int32.toBitVec_or, Int32.toBitVec_and, Int32.toBitVec_xor, Int32.toBitVec_or]
  apply BitVec.eq_of_getLsbD_eq
  intro i hi
  rw [BitVec.getLsbD_or, BitVec.getLsbD_and, BitVec.getLsbD_xor, BitVec.getLsbD_or, m1bit ⟨i, hi⟩]
  cases x.toBitVec.getLsbD i <;> cases b.toBitVec.getLsbD i <;> rfl
theorem bit12 : ∀ v : Fin 12, (1 : Int32) <<< (nI v.val &&& 31) = nI (2 ^ v.val) ∧ (0 : Int32) <<< (nI v.val &&& 31) = 0 ∧ 2 ^ v.val < 4096 := by decide +kernel
theorem lor_ok {l v : Nat} (hl : l < 4096) (hv : v < 12) : ∃ j, j < 4096 ∧ nI l ||| ((1 : Int32) <<< (nI v &&& 31)) = nI j := by
  have b := bit12 ⟨v, hv⟩
  refine ⟨_, ?_, nI_bv _⟩
  rw [b.1, Int32.toBitVec_or, BitVec.toNat_or, nI_tn (by omega), nI_tn (by have := b.2.2; simp only at this; omega)]
  exact Nat.or_lt_two_pow (n := 12) hl b.2.2
theorem land_ok {l : Nat} (hl : l < 4096) (y : Int32) : ∃ j, j < 4096 ∧ nI l &&& y = nI j := by
  refine ⟨_, ?_, nI_bv _⟩
  rw [Int32.toBitVec_and, BitVec.toNat_and, nI_tn (by omega)]
  exact Nat.lt_of_le_of_lt Nat.and_le_left hl
theorem Sea2.upd3 {c d : Nat → Int32} (h : Sea2 c d) {l : Nat} (hl : l < 4096) : Sea2 (upd c 3 (nI l)) (upd d 3 (nI l)) := by
  obtain ⟨m, ho, he, -⟩ := h
  exact ⟨m, seaOk_upd ho (by decide) (by omega) (by omega) (by omega), seaEq_upd he (by decide), l, hl, upd_s _ _ _⟩
section ITEMS2
variable {A Z C D : Mem} {n lo N : Nat}
theorem it_lamp (hN : 300 ≤ N) (h : Ps A Z C D n lo) (hs : Sea2 (C.1 2) (D.1 0)) {b : Int32} (hb : b01 b) : It A Z (mX5_takeLamp N C 2 b) (mX12_wantLamp N D b) n lo := by
  obtain ⟨C1, D1, k1, k2, k3, k4, k5, lo1, k6, k7, k8⟩ := Ps.next0 hN h
  unfold mX5_takeLamp mX12_wantLamp
  rw [k1, k2, Option.bind_some, Option.bind_some]
  rcases num2 (M := 11) hN (by decide) k8 with ⟨v, C2, D2, lo2, r1, r2, r3, r4, r5, r6, r7, r8⟩ | ⟨x, r1, r2⟩
  · rw [show mX5_takeNumber N C1 (11 : Int32) = _ from r2, show mX12_wantNumber N D1 (0 : Int32) (11 : Int32) = _ from r3, Option.bind_some, Option.bind_some, if_neg (show ¬ (1 : Int32) = 0 by decide), if_neg (show ¬ D2.1 9 11 = 0 by rw [r8.2.2.1]; decide), r4]
    have b12 := bit12 ⟨v, by omega⟩
    have e3 : C2.1 2 3 = D2.1 0 3 := by
      rw [r5, r6, k4, k5]
      exact hs.e1.2.2.1
    obtain ⟨l, l1, l2⟩ : LOk (D2.1 0) := by
      rw [r6, k5]
      obtain ⟨m, -, -, hl⟩ := hs
      exact hl
    have hs2 : Sea2 (C2.1 2) (D2.1 0) := by rw [r5, r6, k4, k5]; exact hs
    rw [e3, l2]
    rcases hb with rfl | rfl
    · rw [if_pos rfl, b12.2.1, Int32.or_zero]
      obtain ⟨j, j1, j2⟩ := land_ok l1 (((1 : Int32) <<< (nI v &&& 31)) ^^^ (-1 : Int32))
      rw [j2]
      exact Or.inl ⟨_, _, lo2, rfl, rfl, by omega, hs2.upd3 j1, r8.seas (upd (C2.1 2) 3 (nI j)) (upd (D2.1 0) 3 (nI j))⟩
    · rw [if_neg (by decide), or_not]
      obtain ⟨j, j1, j2⟩ := lor_ok (v := v) l1 (by omega)
      rw [j2]
      exact Or.inl ⟨_, _, lo2, rfl, rfl, by omega, hs2.upd3 j1, r8.seas (upd (C2.1 2) 3 (nI j)) (upd (D2.1 0) 3 (nI j))⟩
  · rw [show mX5_takeNumber N C1 (11 : Int32) = _ from r1, show mX12_wantNumber N D1 (0 : Int32) (11 : Int32) = _ from r2, Option.bind_some, Option.bind_some, if_pos rfl, if_pos (show (sI D1 9 11 (0 : Int32)).1 9 11 = 0 from upd_s (D1.1 9) 11 0)]
    exact Or.inr ⟨_, _, rfl, rfl, k8.bad⟩
theorem Ps.word (hN : 300 ≤ N) (h : Ps A Z C D n lo) : (C.1 3 2 = 1 ∧ ∀ w, w < 11 → ∃ r : Int32, b01 r ∧ mX5_isWord N C w = some r ∧ mX12_isWord D (kc w) = some r) ∨ (¬ C.1 3 2 = 1 ∧ ∀ K, mX12_isWord D K = some 0) := by
  obtain ⟨h1, ⟨st, e, a1, a2, a3, a4, a5, a6, a7, a8⟩, h4, h5, h6⟩ := h
  have no : ¬ D.1 9 6 = 1 → ∀ K, mX12_isWord D K = some 0 := fun z K => by unfold mX12_isWord; rw [if_neg z]
  rcases a8 with ⟨b1, b2⟩ | ⟨b1, b2, b3, b4, b5⟩ | ⟨b1, b2, -⟩ | ⟨b1, b2, -⟩ | ⟨b1, b2, -⟩
  · exact Or.inr ⟨by rw [b1]; decide, no (by rw [b2]; decide)⟩
  · exact Or.inl ⟨b1, fun w hw => word2 hN h1 hw b3 a3 a4 a6 b2 b4 b5⟩
  · exact Or.inr ⟨by rw [b1]; decide, no (by rw [b2]; decide)⟩
  · exact Or.inr ⟨by rw [b1]; decide, no (by rw [b2]; decide)⟩
  · exact Or.inr ⟨by rw [b1]; decide, no (by rw [b2]; decide)⟩
theorem ship_add {C2 D2 : Mem} {lo2 k c r : Nat} (h : Ps A Z C2 D2 n lo2) (hs : Sea2 (C2.1 2) (D2.1 0)) (hm : ∀ m, D2.1 0 5 = nI m → m ≤ 6 → m < 6) (hk : k ≤ 5) (hc : c ≤ 19) (hr : r ≤ 9) (hlo : lo < lo2) : It A Z ((mX4_launch 2 C2 (nI k) (nI c) (nI r)).bind fun M15 => some ((1 : Int32), M15)) (if (D2.1 9 11) = 0 then some D2 else ((mX12_adds D2 (nI k) (nI c) (nI r)).bind fun M11 => some M11)) n lo := by
  obtain ⟨m, ho, hc2, he, hl, rd, rc, hm6⟩ := hs.get
  have hm5 := hm m rd hm6
  rw [if_neg (show ¬ D2.1 9 11 = 0 by rw [h.2.2.1]; decide), c_launch rc hm5, m_adds rd hm5, Option.bind_some, Option.bind_some]
  have v1 : 0 ≤ nI k ∧ nI k ≤ 5 := ⟨nI_pos' (by omega), nI_le (b := 5) hk (by decide)⟩
  have v2 : 0 ≤ nI c ∧ nI c ≤ 19 := ⟨nI_pos' (by omega), nI_le (b := 19) hc (by decide)⟩
  have v3 : 0 ≤ nI r ∧ nI r ≤ 9 := ⟨nI_pos' (by omega), nI_le (b := 9) hr (by decide)⟩
  have hS : SOk (nI k, nI c, nI r, 0, 99, 0, 0) := by
    generalize nI k = x at *
    generalize nI c = y at *
    generalize nI r = z at *
    unfold SOk b01
    grind
  obtain ⟨q1, q2, q3⟩ := Sea2.add ho he hl hm5 hS
  exact Or.inl ⟨_, _, lo2, rfl, rfl, hlo, ⟨m + 1, q1, q2, q3⟩, h.seas _ _⟩
end ITEMS2
