/-! ===== PURE 16: feed ===== -/
theorem b255 : ∀ i : Fin 32, (255#32).getLsbD i.val = decide (i.val < 8) := by decide +kernel
theorem bvf (x : BitVec 32) {n : Nat} (hn : n ≤ 24) : (((x >>> n).setWidth 8).signExtend 32) &&& 255#32 = (x.sshiftRight n) &&& 255#32 := by
  apply BitVec.eq_of_getLsbD_eq
  intro i hi
  rw [BitVec.getLsbD_and, BitVec.getLsbD_and, b255 ⟨i, hi⟩]
  by_cases h : i < 8
  · rw [BitVec.getLsbD_signExtend, BitVec.getLsbD_sshiftRight]
    simp only [BitVec.getLsbD_setWidth, BitVec.getLsbD_ushiftRight]
    have h1 : n + i < 32 := by omega
    have h2 : ¬ 32 ≤ i := by omega
    simp only [h, h1, h2, hi, decide_true, decide_false, Bool.true_and, Bool.not_false, if_true]
  · simp only [h, decide_false, Bool.and_false]
theorem byte_eq (a : Int32) {u : UInt32} {s : Int32} {n : Nat} (hn : n ≤ 24) (hu : u.toBitVec.toNat % 32 = n) (hs : (s.toBitVec.smod 32).toNat = n) : (vp_nar .byte (((a.toUInt32 >>> u).toInt32).toInt8.toInt32)) &&& (255 : Int32) = (a >>> s) &&& (255 : Int32) := by
  rw [pk_vb]
  apply Int32.toBitVec_inj.mp
  rw [Int32.toBitVec_and, Int32.toBitVec_and, Int32.toBitVec_shiftRight, BitVec.sshiftRight_eq', hs]
  have e : (((a.toUInt32 >>> u).toInt32).toInt8.toInt32).toBitVec = ((a.toBitVec >>> n).setWidth 8).signExtend 32 := by
    have eX : (a.toUInt32 >>> u).toInt32.toBitVec = a.toBitVec >>> n := by
      show (a.toUInt32 >>> u).toBitVec = _
      rw [UInt32.toBitVec_shiftRight, BitVec.ushiftRight_eq', BitVec.toNat_umod]
      rw [show (32 : BitVec 32).toNat = 32 from rfl, hu]
      rfl
    rw [Int8.toBitVec_toInt32, Int32.toBitVec_toInt8, BitVec.signExtend_eq_setWidth_of_le (a.toUInt32 >>> u).toInt32.toBitVec (v := 8) (by decide), eX]
  rw [e]
  exact bvf a.toBitVec hn
theorem byte_k (a : Int32) {k : Nat} (hk : k < 4) : (vp_nar .byte (((a.toUInt32 >>> (((8 : Int32) * nI k).toUInt32 &&& Int32.toUInt32 31)).toInt32).toInt8.toInt32)) &&& (255 : Int32) = (a >>> (((8 : Int32) * nI k) &&& 31)) &&& (255 : Int32) := by
  have h : k = 0 ∨ k = 1 ∨ k = 2 ∨ k = 3 := by omega
  rcases h with rfl | rfl | rfl | rfl
  · exact byte_eq a (n := 0) (by decide) (by decide) (by decide)
  · exact byte_eq a (n := 8) (by decide) (by decide) (by decide)
  · exact byte_eq a (n := 16) (by decide) (by decide) (by decide)
  · exact byte_eq a (n := 24) (by decide) (by decide) (by decide)
theorem Rel.tape {C D : Mem} (h : Rel C D) {t1 t2 : Nat → Int32} {l : Nat} (hl : l ≤ 120) (ht : ∀ k, k < l → t2 k = t1 k &&& 255) : Rel (sI (sR C 4 t1) 3 1 (nI l)) (sI (sR D 4 t2) 9 5 (nI l)) := by
  obtain ⟨h1, h2, h3, h4, h5⟩ := h
  exact ⟨h1, h2, h3, ⟨l, hl, rfl, rfl, ht⟩, h5⟩
theorem feed_b {N : Nat} (a : Int32) : ∀ (p n n2 : Nat) (C D : Mem) (l : Nat), Rel C D → C.1 3 1 = nI l → D.1 9 5 = nI l → l + p ≤ 120 → p ≤ 4 → p < n → p < n2 → Both (mX11_feed_b41 N n C a (nI p - (1 : Int32))) (mX12_feed_b38 N n2 D a (nI p - (1 : Int32))) := by
  intro p
  induction p with
  | zero =>
    intro n n2 C D l h e1 e2 hl hp hn hn2
    obtain ⟨n, rfl⟩ : ∃ z, n = z + 1 := ⟨n - 1, by omega⟩
    obtain ⟨n2, rfl⟩ : ∃ z, n2 = z + 1 := ⟨n2 - 1, by omega⟩
    rw [mX11_feed_b41, mX12_feed_b38, if_pos (show nI 0 - (1 : Int32) < 0 by decide), if_pos (show nI 0 - (1 : Int32) < 0 by decide), e1, e2]
    exact ⟨_, _, _, rfl, rfl, h⟩
  | succ p ih =>
    intro n n2 C D l h e1 e2 hl hp hn hn2
    obtain ⟨n, rfl⟩ : ∃ z, n = z + 1 := ⟨n - 1, by omega⟩
    obtain ⟨n2, rfl⟩ : ∃ z, n2 = z + 1 := ⟨n2 - 1, by omega⟩
    have ep : nI (p + 1) - (1 : Int32) = nI p := by rw [← nI_1, Int32.add_sub_cancel]
    have ek : nI p + (-1 : Int32) = nI p - (1 : Int32) := by rw [Int32.sub_eq_add_neg]
    have o : ok (nI l) 120 := vp_in_nI (by omega) (by decide)
    rw [mX11_feed_b41, mX12_feed_b38, ep, if_neg (nI_pos (by omega)), if_neg (nI_pos (by omega)), e2, if_pos o, nI_clamp (by omega), ek]
    unfold mX9_add
    rw [e1, if_neg (show ¬ (120 : Int32) ≤ nI l from nI_ge (b := 120) (by omega) (by decide)), if_pos o, nI_clamp (by omega)]
    simp only [Option.bind_some]
    have b := byte_k a (k := p) (by omega)
    generalize vp_nar .byte (((a.toUInt32 >>> (((8 : Int32) * nI p).toUInt32 &&& Int32.toUInt32 31)).toInt32).toInt8.toInt32) = x at b
    generalize (a >>> (((8 : Int32) * nI p) &&& 31)) &&& (255 : Int32) = y at b
    have q1 : (sI C 4 l x).1 3 1 = nI l := e1
    have q2 : (sI D 4 l y).1 9 5 = nI l := e2
    rw [q1, q2, nI_1]
    refine ih n n2 _ _ (l + 1) (h.tape (t1 := upd (C.1 4) l x) (t2 := upd (D.1 4) l y) (by omega) (fun k hk => ?_)) (upd_s (C.1 3) 1 (nI (l + 1))) (upd_s (D.1 9) 5 (nI (l + 1))) (by omega) (by omega) (by omega) (by omega)
    by_cases c : k = l
    · subst c; rw [upd_s, upd_s, b]
    · rw [upd_o c, upd_o c]
      obtain ⟨z, z1, z2, z3, z4⟩ := h.2.2.2.1
      have : z = l := (nI_eq (by omega) (by omega)).mp (z2.symm.trans e1)
      subst this
      exact z4 k (by omega)
theorem op_feed {C D : Mem} (h : Rel C D) {N : Nat} (hN : 300 ≤ N) (a b : Int32) : Both (mX11_feed N C a b) (mX12_feed N D a b) := by
  unfold mX11_feed mX12_feed
  rw [c_in, m_in, Option.bind_some, Option.bind_some]
  by_cases c1 : inS b 1 4 = 0
  · rw [if_pos c1, if_pos c1]; exact bF0 h
  rw [if_neg c1, if_neg c1]
  have i1 := inS_1 c1
  obtain ⟨t, ht, rfl⟩ := nat_of (n := 4) (by decide) (show 0 ≤ b by grind) i1.2
  obtain ⟨z, z1, z2, z3, z4⟩ := h.2.2.2.1
  rw [z2, z3, nI_add]
  by_cases c : z + t ≤ 120
  · rw [if_pos (show nI (z + t) ≤ (120 : Int32) from nI_le (b := 120) c (by decide)), if_pos (show nI (z + t) ≤ (120 : Int32) from nI_le (b := 120) c (by decide))]
    exact feed_b a t N N C D z h z2 z3 c ht (by omega) (by omega)
  · rw [if_neg (show ¬ nI (z + t) ≤ (120 : Int32) from nI_ge (a := 120) (by omega) (by omega)), if_neg (show ¬ nI (z + t) ≤ (120 : Int32) from nI_ge (a := 120) (by omega) (by omega))]
    exact bF1 h
