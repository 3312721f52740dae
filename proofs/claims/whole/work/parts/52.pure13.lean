/-! ===== PURE 13: sheets ===== -/
theorem bv8 (x : BitVec 64) : (((x.setWidth 32).setWidth 8).signExtend 32).signExtend 64 = (x <<< 56).sshiftRight 56 := by
  apply BitVec.eq_of_getLsbD_eq
  intro i hi
  rw [BitVec.getLsbD_signExtend, BitVec.getLsbD_signExtend, BitVec.getLsbD_sshiftRight, BitVec.msb_signExtend]
  simp only [BitVec.getLsbD_setWidth, BitVec.getLsbD_shiftLeft, BitVec.msb_eq_getLsbD_last]
  by_cases h : i < 8
  · grind
  · grind
theorem bv16 (x : BitVec 64) : (((x.setWidth 32).setWidth 16).signExtend 32).signExtend 64 = (x <<< 48).sshiftRight 48 := by
  apply BitVec.eq_of_getLsbD_eq
  intro i hi
  rw [BitVec.getLsbD_signExtend, BitVec.getLsbD_signExtend, BitVec.getLsbD_sshiftRight, BitVec.msb_signExtend]
  simp only [BitVec.getLsbD_setWidth, BitVec.getLsbD_shiftLeft, BitVec.msb_eq_getLsbD_last]
  by_cases h : i < 16
  · grind
  · grind
theorem sh64 (x b : Int64) {n : Nat} (e : (b.toBitVec.smod 64).toNat = n) : ((x <<< b) >>> b).toBitVec = (x.toBitVec <<< n).sshiftRight n := by
  rw [Int64.toBitVec_shiftRight, Int64.toBitVec_shiftLeft, BitVec.sshiftRight_eq', BitVec.shiftLeft_eq', e]
theorem nar8 (x : Int64) : x.toInt32.toInt8.toInt32.toInt64 = (x <<< ((56 : Int32).toInt64 &&& 63)) >>> ((56 : Int32).toInt64 &&& 63) := by
  apply Int64.toBitVec_inj.mp
  rw [sh64 x ((56 : Int32).toInt64 &&& 63) (n := 56) (by decide), ← bv8]
  simp only [Int32.toBitVec_toInt64, Int8.toBitVec_toInt32, Int32.toBitVec_toInt8, Int64.toBitVec_toInt32]
  rw [BitVec.signExtend_eq_setWidth_of_le x.toBitVec (v := 32) (by decide), BitVec.signExtend_eq_setWidth_of_le (BitVec.setWidth 32 x.toBitVec) (v := 8) (by decide)]
theorem nar16 (x : Int64) : x.toInt32.toInt16.toInt32.toInt64 = (x <<< ((48 : Int32).toInt64 &&& 63)) >>> ((48 : Int32).toInt64 &&& 63) := by
  apply Int64.toBitVec_inj.mp
  rw [sh64 x ((48 : Int32).toInt64 &&& 63) (n := 48) (by decide), ← bv16]
  simp only [Int32.toBitVec_toInt64, Int16.toBitVec_toInt32, Int32.toBitVec_toInt16, Int64.toBitVec_toInt32]
  rw [BitVec.signExtend_eq_setWidth_of_le x.toBitVec (v := 32) (by decide), BitVec.signExtend_eq_setWidth_of_le (BitVec.setWidth 32 x.toBitVec) (v := 16) (by decide)]
def narS (b : Int32) (v : Int64) : Int64 := if b = (8 : Int32) then v.toInt32.toInt8.toInt32.toInt64 else if b = (16 : Int32) then v.toInt32.toInt16.toInt32.toInt64 else v
theorem m_narrow (b : Int32) (v : Int64) : mX12_narrow b v = some (narS b v) := by
  unfold mX12_narrow narS
  rw [← nar8, ← nar16, if_some, if_some]
theorem row8 {x : Int32} (b : Int32) (h : 0 ≤ x ∧ x ≤ 9) : narS b x.toInt64 = x.toInt64 := by
  obtain ⟨j, hj, rfl⟩ := nat_of (n := 9) (by decide) h.1 h.2
  have a : ∀ j : Fin 10, (nI j.val).toInt64.toInt32.toInt8.toInt32.toInt64 = (nI j.val).toInt64 ∧ (nI j.val).toInt64.toInt32.toInt16.toInt32.toInt64 = (nI j.val).toInt64 := by decide +kernel
  have a2 := a ⟨j, by omega⟩
  unfold narS
  split
  · exact a2.1
  · split
    · exact a2.2
    · rfl
theorem vp_updL_s (f : Nat → Int64) (i : Nat) (v : Int64) : vp_updL f i v i = v := by unfold vp_updL; grind
theorem vp_updL_o {f : Nat → Int64} {i q : Nat} {v : Int64} (h : q ≠ i) : vp_updL f i v q = f q := by unfold vp_updL; grind
theorem Rel.put {C D : Mem} (h : Rel C D) {s i : Nat} {v : Int64} (hs : s < 4) (hi : i < 40) : Rel (sJ C s i v) (sJ D 0 (40 * s + i) v) := by
  obtain ⟨h1, h2, h3, h4, h5⟩ := h
  refine ⟨h1, h2, h3, h4, fun q hq => ?_⟩
  obtain ⟨a, b, c, d⟩ := h5 q hq
  refine ⟨a, b, c, fun k hk => ?_⟩
  show (if q = s then vp_updL (C.2 s) i v else C.2 q) k = (if (0 : Nat) = 0 then vp_updL (D.2 0) (40 * s + i) v else D.2 0) (40 * q + k)
  rw [if_pos rfl]
  by_cases e : q = s
  · subst e
    rw [if_pos rfl]
    by_cases e2 : k = i
    · subst e2; rw [vp_updL_s, vp_updL_s]
    · rw [vp_updL_o e2, vp_updL_o (by omega)]; exact d k hk
  · rw [if_neg e, vp_updL_o (by omega)]; exact d k hk
theorem Rel.sht {C D : Mem} (h : Rel C D) {s : Nat} (hs : s < 4) : C.1 5 s = D.1 5 s ∧ (D.1 5 s = 0 ∨ D.1 5 s = 8 ∨ D.1 5 s = 16 ∨ D.1 5 s = 64) ∧ (∃ n : Nat, n ≤ 40 ∧ C.1 6 s = nI n ∧ D.1 6 s = nI n) ∧ ∀ i, i < 40 → C.2 s i = D.2 0 (40 * s + i) := h.2.2.2.2 s hs
theorem shi {s i : Nat} (hs : s < 4) (hi : i < 40) : ok (((40 : Int32) * nI s) + nI i) 160 ∧ (((40 : Int32) * nI s) + nI i).toNatClampNeg = 40 * s + i := by
  have e : ((40 : Int32) * nI s) + nI i = nI (40 * s + i) := by
    show (nI 40 * nI s) + nI i = _
    rw [pk_mul, nI_add]
  rw [e]
  exact ⟨vp_in_nI (by omega) (by decide), nI_clamp (by omega)⟩
theorem ok4 {s : Nat} (hs : s < 4) : ok (nI s) 4 := vp_in_nI hs (by decide)
theorem c_has {C : Mem} {s i n : Nat} (hz : C.1 6 s = nI n) (hn : n ≤ 40) (hi : i < n) : mX6_has s C (nI i) = some 1 := by
  unfold mX6_has
  rw [if_neg (nI_pos (by omega)), hz, if_neg (nI_ge hi (by omega)), if_neg (show ¬ (40 : Int32) ≤ nI i from nI_ge (b := 40) (by omega) (by decide))]
theorem c_at {C : Mem} {s i n : Nat} (hz : C.1 6 s = nI n) (hn : n ≤ 40) (hi : i < n) : mX6_at s C (nI i) = some (C.2 s i) := by
  unfold mX6_at
  rw [c_has hz hn hi]
  simp only [Option.bind_some]
  rw [if_neg (by decide), if_pos (show ok (nI i) 40 from vp_in_nI (by omega) (by decide)), nI_clamp (by omega)]
theorem c_put {C : Mem} {s i n : Nat} {v : Int64} (hz : C.1 6 s = nI n) (hn : n ≤ 40) (hi : i < n) : mX6_put s C (nI i) v = some (sJ C s i (narS (C.1 5 s) v)) := by
  unfold mX6_put narS
  rw [c_has hz hn hi]
  simp only [Option.bind_some]
  have o : ok (nI i) 40 := vp_in_nI (by omega) (by decide)
  rw [if_neg (by decide), if_pos o, if_pos o, if_pos o, nI_clamp (by omega)]
  by_cases c : C.1 5 s = (8 : Int32)
  · rw [if_pos c, if_pos c]
  rw [if_neg c, if_neg c]
  by_cases c2 : C.1 5 s = (16 : Int32)
  · rw [if_pos c2, if_pos c2]
  rw [if_neg c2, if_neg c2]
/-! what is amiss with a sheet -/
theorem bad2 {C D : Mem} (h : Rel C D) (a : Int32) : (mX11_amissInSheet C a = some (-1000000001 : Int32) ∧ mX12_badSheet D a = some (-1000000001 : Int32) ∧ inS a 0 3 = 0) ∨ ∃ s : Nat, s < 4 ∧ a = nI s ∧ ¬ inS a 0 3 = 0 ∧ ((D.1 5 s = 0 ∧ mX11_amissInSheet C a = some (-1000000006 : Int32) ∧ mX12_badSheet D a = some (-1000000006 : Int32)) ∨ (¬ D.1 5 s = 0 ∧ mX11_amissInSheet C a = some (0 : Int32) ∧ mX12_badSheet D a = some (0 : Int32))) := by
  unfold mX11_amissInSheet mX12_badSheet
  rw [c_isSheet, m_isSheet]
  simp only [Option.bind_some]
  by_cases c1 : inS a 0 3 = 0
  · rw [if_pos c1, if_pos c1]; exact Or.inl ⟨rfl, rfl, c1⟩
  rw [if_neg c1, if_neg c1]
  have i1 := inS_1 c1
  obtain ⟨s, hs, rfl⟩ := nat_of (n := 3) (by decide) i1.1 i1.2
  refine Or.inr ⟨s, by omega, rfl, c1, ?_⟩
  unfold mX6_isMissing
  rw [if_pos (ok4 (by omega)), if_pos (ok4 (by omega)), nI_clamp (by omega), (h.sht (s := s) (by omega)).1]
  by_cases c : D.1 5 s = 0
  · rw [if_pos c, if_pos c]; exact Or.inl ⟨c, rfl, rfl⟩
  · rw [if_neg c, if_neg c]; exact Or.inr ⟨c, rfl, rfl⟩
theorem bindp {x : Option (Int32 × Mem)} : (x.bind fun q => some (q.1, q.2)) = x := by cases x <;> rfl
def Both64 (rc rm : Option (Int64 × Mem)) : Prop := ∃ (r : Int64) (C D : Mem), rc = some (r, C) ∧ rm = some (r, D) ∧ Rel C D
theorem both64 {x y : Option (Int32 × Mem)} (h : Both (x.bind fun q => some (q.1, q.2)) (y.bind fun q => some (q.1, q.2))) : Both64 (x.bind fun q => some (q.1.toInt64, q.2)) (y.bind fun q => some (q.1.toInt64, q.2)) := by
  rw [bindp, bindp] at h
  obtain ⟨r, C, D, rfl, rfl, h⟩ := h
  exact ⟨_, _, _, rfl, rfl, h⟩
theorem in_ix {n : Nat} {a : Int32} (hn : n ≤ 40) (h : ¬ inS a 0 (nI n - (1 : Int32)) = 0) : ∃ i : Nat, i < n ∧ a = nI i := by
  have i1 := inS_1 h
  have z : 0 ≤ nI n ∧ nI n ≤ 40 := ⟨nI_pos' (by omega), nI_le (b := 40) hn (by decide)⟩
  rcases pk_ix a (n := n) (by omega) with q | q | q
  · generalize nI n = x at *; grind
  · generalize nI n = x at *; grind
  · exact q
theorem op_write {C D : Mem} (h : Rel C D) (a b : Int32) (v : Int64) : Both64 (mX11_write C a b v) (mX12_write D a b v) := by
  unfold mX11_write mX12_write
  rw [m_isSheet]
  simp only [Option.bind_some]
  rcases bad2 h a with ⟨e1, -, e3⟩ | ⟨s, hs, rfl, c1, e⟩
  · rw [e1, if_pos e3]
    simp only [Option.bind_some]
    rw [if_neg (by decide)]
    exact both64 (bF0 h)
  rw [if_neg c1, if_pos (ok4 hs), if_pos (ok4 hs), if_pos (ok4 hs), if_pos (ok4 hs), nI_clamp (by omega)]
  obtain ⟨q1, q2, ⟨n, q3, q4, q5⟩, q6⟩ := h.sht hs
  rcases e with ⟨e1, e2, -⟩ | ⟨e1, e2, -⟩
  · rw [if_pos e1, e2]
    simp only [Option.bind_some]
    rw [if_neg (by decide)]
    exact both64 (bF5 h)
  rw [if_neg e1, e2, c_in, m_in, q4, q5]
  simp only [Option.bind_some]
  rw [if_pos trivial]
  by_cases c : inS b 0 (nI n - (1 : Int32)) = 0
  · rw [if_pos c, if_pos c]; exact both64 (bF0 h)
  rw [if_neg c, if_neg c]
  obtain ⟨i, hi, rfl⟩ := in_ix q3 c
  rw [c_at q4 q3 hi, c_put q4 q3 hi, m_narrow, if_pos (shi hs (i := i) (by omega)).1]
  simp only [Option.bind_some]
  rw [if_pos (shi hs (i := i) (by omega)).1, (shi hs (i := i) (by omega)).2, q1, q6 i (by omega)]
  exact ⟨_, _, _, rfl, rfl, h.put hs (by omega)⟩
/-! laying a sheet -/
def layR (s : Nat) (k : Nat) (f : Nat → Int64) : Nat → Int64 := fun i => if s ≤ i ∧ i < s + k then 0 else f i
theorem layR_s (s k : Nat) (f : Nat → Int64) : vp_updL (layR s k f) (s + k) 0 = layR s (k + 1) f := by
  funext i; unfold vp_updL layR; grind
theorem layR_0 (s : Nat) (f : Nat → Int64) : layR s 0 f = f := by funext i; unfold layR; grind
def sL (M : Mem) (rg : Nat) (f : Nat → Int64) : Mem := (M.1, fun r => if r = rg then f else M.2 r)
theorem sJ_sL (M : Mem) (rg i : Nat) (v : Int64) : sJ M rg i v = sL M rg (vp_updL (M.2 rg) i v) := rfl
theorem sL_s (M : Mem) (rg : Nat) (f : Nat → Int64) : (sL M rg f).2 rg = f := if_pos rfl
theorem sL_o {M : Mem} {rg r : Nat} {f : Nat → Int64} (h : r ≠ rg) : (sL M rg f).2 r = M.2 r := if_neg h
theorem sL_sL (M : Mem) (rg : Nat) (f g : Nat → Int64) : sL (sL M rg f) rg g = sL M rg g := by
  unfold sL
  refine Prod.ext rfl (funext fun r => ?_)
  by_cases h : r = rg <;> simp [h]
theorem sL_self (M : Mem) (rg : Nat) : sL M rg (M.2 rg) = M := by
  unfold sL
  refine Prod.ext rfl (funext fun r => ?_)
  by_cases h : r = rg
  · subst h; simp
  · simp [h]
theorem c_lay_b {C : Mem} {s N : Nat} : ∀ (p n q : Nat), p < n → p + q = 40 → mX6_lay_b12 N s n (sL C s (layR 0 q (C.2 s))) (nI q) = some (sL C s (layR 0 40 (C.2 s))) := by
  intro p
  induction p with
  | zero =>
    intro n q hn hq
    obtain ⟨n, rfl⟩ : ∃ z, n = z + 1 := ⟨n - 1, by omega⟩
    have e : q = 40 := by omega
    subst e
    rw [mX6_lay_b12, if_pos (show (40 : Int32) ≤ nI 40 by decide)]
  | succ p ih =>
    intro n q hn hq
    obtain ⟨n, rfl⟩ : ∃ z, n = z + 1 := ⟨n - 1, by omega⟩
    have l := layR_s 0 q (C.2 s)
    rw [Nat.zero_add] at l
    rw [mX6_lay_b12, if_neg (show ¬ (40 : Int32) ≤ nI q from nI_ge (b := 40) (by omega) (by decide)), if_pos (show ok (nI q) 40 from vp_in_nI (by omega) (by decide)), nI_clamp (by omega), nI_1, sJ_sL, sL_s, sL_sL, l]
    exact ih n (q + 1) (by omega) (by omega)
theorem m_lay_b {D : Mem} {s N : Nat} (hs : s < 4) : ∀ (p n q : Nat), p < n → p + q = 40 → mX12_sheet_b86 N n (sL D 0 (layR (40 * s) q (D.2 0))) (nI s) (nI q) = some (D.1 6 s, sL D 0 (layR (40 * s) 40 (D.2 0))) := by
  intro p
  induction p with
  | zero =>
    intro n q hn hq
    obtain ⟨n, rfl⟩ : ∃ z, n = z + 1 := ⟨n - 1, by omega⟩
    have e : q = 40 := by omega
    subst e
    rw [mX12_sheet_b86, if_pos (show (40 : Int32) ≤ nI 40 by decide), if_pos (ok4 hs), nI_clamp (by omega)]
    rfl
  | succ p ih =>
    intro n q hn hq
    obtain ⟨n, rfl⟩ : ∃ z, n = z + 1 := ⟨n - 1, by omega⟩
    rw [mX12_sheet_b86, if_neg (show ¬ (40 : Int32) ≤ nI q from nI_ge (b := 40) (by omega) (by decide)), if_pos (shi hs (by omega)).1, (shi hs (by omega)).2, nI_1, sJ_sL, sL_s, sL_sL, layR_s]
    exact ih n (q + 1) (by omega) (by omega)
theorem Rel.lay {C D : Mem} (h : Rel C D) {s z : Nat} {b : Int32} (hs : s < 4) (hz : z ≤ 40) (hb : b = 0 ∨ b = 8 ∨ b = 16 ∨ b = 64) : Rel (sL (sI (sI C 5 s b) 6 s (nI z)) s (layR 0 40 (C.2 s))) (sL (sI (sI D 5 s b) 6 s (nI z)) 0 (layR (40 * s) 40 (D.2 0))) := by
  obtain ⟨h1, h2, h3, h4, h5⟩ := h
  refine ⟨h1, h2, h3, h4, fun q hq => ?_⟩
  obtain ⟨a, a2, a3, a4⟩ := h5 q hq
  show upd (C.1 5) s b q = upd (D.1 5) s b q ∧ (upd (D.1 5) s b q = 0 ∨ upd (D.1 5) s b q = 8 ∨ upd (D.1 5) s b q = 16 ∨ upd (D.1 5) s b q = 64) ∧ (∃ n : Nat, n ≤ 40 ∧ upd (C.1 6) s (nI z) q = nI n ∧ upd (D.1 6) s (nI z) q = nI n) ∧ ∀ i, i < 40 → (if q = s then layR 0 40 (C.2 s) else C.2 q) i = layR (40 * s) 40 (D.2 0) (40 * q + i)
  by_cases e : q = s
  · subst e
    rw [upd_s, upd_s, upd_s, upd_s, if_pos rfl]
    refine ⟨rfl, hb, ⟨z, hz, rfl, rfl⟩, fun i hi => ?_⟩
    unfold layR
    rw [if_pos (by omega), if_pos (by omega)]
  · rw [upd_o e, upd_o e, upd_o e, upd_o e, if_neg e]
    refine ⟨a, a2, a3, fun i hi => ?_⟩
    unfold layR
    rw [if_neg (by omega)]
    exact a4 i hi
theorem op_sheet_b {C D : Mem} (h : Rel C D) {N s : Nat} (hN : 300 ≤ N) (hs : s < 4) (b c : Int32) (hb : b = 0 ∨ b = 8 ∨ b = 16 ∨ b = 64) : Both (mX11_sheet_b36 N C (nI s) b c) (mX12_sheet_b36 N D (nI s) b c) := by
  unfold mX11_sheet_b36 mX12_sheet_b36 mX6_lay
  by_cases c1 : 0 ≤ c
  · rw [if_pos c1, if_pos c1]
    by_cases c2 : c ≤ (40 : Int32)
    · rw [if_pos c2, if_pos c2]
      simp only [if_pos (ok4 hs)]
      rw [nI_clamp (by omega)]
      obtain ⟨z, hz, rfl⟩ := nat_of (n := 40) (by decide) c1 c2
      have go : ∀ z : Nat, z ≤ 40 → ∃ C2 D2, mX6_lay_b12 N s N (sI (sI C 5 s b) 6 s (nI z)) (0 : Int32) = some C2 ∧ C2.1 6 s = nI z ∧ mX12_sheet_b86 N N (sI (sI D 5 s b) 6 s (nI z)) (nI s) (0 : Int32) = some (nI z, D2) ∧ Rel C2 D2 := by
        intro z hz
        have g1 := c_lay_b (C := sI (sI C 5 s b) 6 s (nI z)) (s := s) (N := N) 40 N 0 (by omega) (by omega)
        have g2 := m_lay_b (D := sI (sI D 5 s b) 6 s (nI z)) (s := s) (N := N) hs 40 N 0 (by omega) (by omega)
        rw [layR_0, sL_self] at g1 g2
        have e6 : (sI (sI D 5 s b) 6 s (nI z)).1 6 s = nI z := upd_s _ _ _
        rw [e6] at g2
        exact ⟨_, _, g1, upd_s _ _ _, g2, h.lay hs hz hb⟩
      by_cases c3 : b = 0
      · rw [if_pos c3, if_pos c3]
        obtain ⟨C2, D2, g1, g2, g3, g4⟩ := go 0 (by decide)
        rw [show mX12_sheet_b86 N N (sI (sI D 5 s b) 6 s (0 : Int32)) (nI s) (0 : Int32) = _ from g3]
        simp only [Option.bind_some]
        rw [show mX6_lay_b12 N s N (sI (sI C 5 s b) 6 s (0 : Int32)) (0 : Int32) = _ from g1]
        simp only [Option.bind_some]
        rw [g2]
        exact ⟨_, _, _, rfl, rfl, g4⟩
      · rw [if_neg c3, if_neg c3]
        obtain ⟨C2, D2, g1, g2, g3, g4⟩ := go z hz
        rw [g3]
        simp only [Option.bind_some]
        rw [g1]
        simp only [Option.bind_some]
        rw [g2]
        exact ⟨_, _, _, rfl, rfl, g4⟩
    · rw [if_neg c2, if_neg c2]; exact bF0 h
  · rw [if_neg c1, if_neg c1]; exact bF6 h
theorem op_sheet {C D : Mem} (h : Rel C D) {N : Nat} (hN : 300 ≤ N) (a b c : Int32) : Both (mX11_sheet N C a b c) (mX12_sheet N D a b c) := by
  unfold mX11_sheet mX12_sheet
  rw [c_isSheet, m_isSheet]
  simp only [Option.bind_some]
  by_cases c1 : inS a 0 3 = 0
  · rw [if_pos c1, if_pos c1]; exact bF0 h
  rw [if_neg c1, if_neg c1]
  have i1 := inS_1 c1
  obtain ⟨s, hs, rfl⟩ := nat_of (n := 3) (by decide) i1.1 i1.2
  by_cases b1 : b = 0
  · rw [if_pos b1, if_pos b1]; exact op_sheet_b h hN (by omega) b c (Or.inl b1)
  rw [if_neg b1, if_neg b1]
  by_cases b2 : b = (8 : Int32)
  · rw [if_pos b2, if_pos b2]; exact op_sheet_b h hN (by omega) b c (Or.inr (Or.inl b2))
  rw [if_neg b2, if_neg b2]
  by_cases b3 : b = (16 : Int32)
  · rw [if_pos b3, if_pos b3]; exact op_sheet_b h hN (by omega) b c (Or.inr (Or.inr (Or.inl b3)))
  rw [if_neg b3, if_neg b3]
  by_cases b4 : b = (64 : Int32)
  · rw [if_pos b4, if_pos b4]; exact op_sheet_b h hN (by omega) b c (Or.inr (Or.inr (Or.inr b4)))
  rw [if_neg b4, if_neg b4]
  exact bF0 h
