/-! ===== PURE 6: of, set, ship, hours, wipe, tear, status ===== -/
theorem op_of {C D : Mem} (h : Rel C D) (a b : Int32) : Both (mX11_of C a b) (mX12_of D a b) := by
  obtain ⟨m, ho, hc, he, hl, rd, rc, hm⟩ := h.1.get
  obtain ⟨q1, q2, q3, q4, q5, q0⟩ := h.1.e1
  unfold mX11_of mX12_of
  simp only [c_isShip rc, m_isOne rd hm, c_in, m_in, Option.bind_some]
  by_cases c1 : isS m a = 0
  · rw [if_pos c1, if_pos c1]; exact bF0 h
  rw [if_neg c1, if_neg c1]
  by_cases c2 : inS b 0 11 = 0
  · rw [if_pos c2, if_pos c2]; exact bF0 h
  rw [if_neg c2, if_neg c2]
  obtain ⟨k, hk, rfl⟩ := isS_1 hm c1
  have hk6 : k < 6 := by omega
  have i2 := inS_1 c2
  have hs := ho.2.2.2 k hk
  have e := shp_g (he.2 k hk)
  have hx0 : 0 ≤ D.1 0 (6 + 7 * k + 0) := hs.1.1
  have hx5 : D.1 0 (6 + 7 * k + 0) ≤ 5 := hs.1.2
  obtain ⟨y, hy, rfl⟩ := nat_of (n := 11) (by decide) i2.1 i2.2
  have hn : b01 (nightS (hodS (D.1 0 0))) := by unfold nightS b01; grind
  have hb : b01 (burnS (D.1 0 3) (hodS (D.1 0 0))) := by unfold burnS b01; grind
  have e1 : mX4_isNight 0 C = some (nightS (hodS (D.1 0 0))) := by
    unfold mX4_isNight mX4_hourOfDay
    simp only [c_night, Option.bind_some]
    rw [q0, if_pos (show b01 (nightS (D.1 0 0 - D.1 0 0 / 12 * 12)) from hn)]
    rfl
  have e2 : mX4_burns 0 C = some (burnS (D.1 0 3) (hodS (D.1 0 0))) := by
    unfold mX4_burns mX4_hourOfDay mX4_burnsAt
    simp only [Option.bind_some, if_some]
    rw [q0, q3]
    show (if b01 (burnS (D.1 0 3) (hodS (D.1 0 0))) then some (burnS (D.1 0 3) (hodS (D.1 0 0))) else none) = _
    rw [if_pos hb]
  have e3 : mX4_distanceOf 0 C k = some (dS (D.1 0 1) (D.1 0 2) (D.1 0 (6 + 7 * k + 1)) (D.1 0 (6 + 7 * k + 2))) := by
    unfold mX4_distanceOf
    rw [q1, q2, ← e.2.1, ← e.2.2.1, dS_eq (c := D.1 0 (6 + 7 * k + 1)) (r := D.1 0 (6 + 7 * k + 2)) ho.2.2.1.1 ho.2.2.1.2.1 hs.2.1 hs.2.2.1]
  have z : ∀ x : Int32, b01 x → (if x = 0 then some ((0 : Int32), D) else some (1, D)) = some (x, D) := by
    intro x hx
    rcases hx with rfl | rfl <;> rfl
  have hse : ∀ x d n b R : Int32, b01 (seesS x d n b R) := by intro x d n b R; unfold seesS b01; grind
  have hst : ∀ x d n c : Int32, b01 (standS x d n c) := by intro x d n c; unfold standS b01; grind
  have hl5 : b01 (D.1 0 (6 + 7 * k + 5)) := hs.2.2.2.2.2.1
  have hb6 : b01 (D.1 0 (6 + 7 * k + 6)) := hs.2.2.2.2.2.2.1
  rw [if_pos (show ok (nI k) 6 from vp_in_nI (by omega) (by decide)), nI_clamp (by omega)]
  unfold mX4_bearing mX10_figure mX4_hourOfDay
  rw [e1, e2, e3, ← e.1, ← e.2.1, ← e.2.2.1, ← e.2.2.2.1, ← e.2.2.2.2.1, ← e.2.2.2.2.2.1, ← e.2.2.2.2.2.2, q4, q0]
  simp only [Option.bind_some, v_sees hx0 hx5, v_speed hx0 hx5, v_keep hx0 hx5, v_stand hx0 hx5, v_num hx0 hx5, c_num (hse _ _ _ _ _), c_num (hst _ _ _ _), c_num hl5, c_num hb6, m_sees hk6, m_dist hk6, m_speed hk6, m_keep hk6, m_stand hk6, z _ (hse _ _ _ _ _), z _ (hst _ _ _ _)]
  have cases12 : y = 0 ∨ y = 1 ∨ y = 2 ∨ y = 3 ∨ y = 4 ∨ y = 5 ∨ y = 6 ∨ y = 7 ∨ y = 8 ∨ y = 9 ∨ y = 10 ∨ y = 11 := by omega
  rcases cases12 with rfl | rfl | rfl | rfl | rfl | rfl | rfl | rfl | rfl | rfl | rfl | rfl
  · rw [its_eq hk6 (by decide)]; exact ⟨_, _, _, rfl, rfl, h⟩
  · rw [its_eq hk6 (by decide)]; exact ⟨_, _, _, rfl, rfl, h⟩
  · rw [its_eq hk6 (by decide)]; exact ⟨_, _, _, rfl, rfl, h⟩
  · rw [its_eq hk6 (by decide)]; exact ⟨_, _, _, rfl, rfl, h⟩
  · rw [its_eq hk6 (by decide)]; exact ⟨_, _, _, rfl, rfl, h⟩
  · rw [its_eq hk6 (by decide)]; exact ⟨_, _, _, rfl, rfl, h⟩
  · rw [its_eq hk6 (by decide)]; exact ⟨_, _, _, rfl, rfl, h⟩
  · exact ⟨_, _, _, rfl, rfl, h⟩
  · exact ⟨_, _, _, rfl, rfl, h⟩
  · exact ⟨_, _, _, rfl, rfl, h⟩
  · exact ⟨_, _, _, rfl, rfl, h⟩
  · exact ⟨_, _, _, rfl, rfl, h⟩
theorem m_isPart (w v : Int32) : mX12_isPart w v = some (if w = 1 then inS v 0 19 else if w = 2 then inS v 0 9 else if w = 3 then inS v 0 9999 else if w = 4 then inS v 0 99 else 0) := by
  unfold mX12_isPart
  simp only [m_in, m_isRow, Option.bind_some, if_pos (inS_01 _ _ _)]
  have z : (if inS v 0 99 = 0 then some (0 : Int32) else some 1) = some (inS v 0 99) := by
    rcases inS_01 v 0 99 with q | q <;> rw [q] <;> rfl
  rw [z, if_some, if_some, if_some, if_some]
theorem op_set {C D : Mem} (h : Rel C D) (a b v : Int32) : Both (mX11_set C a b v) (mX12_set D a b v) := by
  obtain ⟨m, ho, hc, he, hl, rd, rc, hm⟩ := h.1.get
  unfold mX11_set mX12_set
  simp only [c_isShip rc, m_isOne rd hm, c_in, m_isPart, Option.bind_some]
  by_cases c1 : isS m a = 0
  · rw [if_pos c1, if_pos c1]; exact bF0 h
  rw [if_neg c1, if_neg c1]
  by_cases c2 : inS b 1 4 = 0
  · have e : (if b = 1 then inS v 0 19 else if b = 2 then inS v 0 9 else if b = 3 then inS v 0 9999 else if b = 4 then inS v 0 99 else 0) = 0 := by
      have hb : ¬ b = 1 ∧ ¬ b = 2 ∧ ¬ b = 3 ∧ ¬ b = 4 := by unfold inS at c2; grind
      rw [if_neg hb.1, if_neg hb.2.1, if_neg hb.2.2.1, if_neg hb.2.2.2]
    rw [if_pos c2, if_pos e]; exact bF0 h
  rw [if_neg c2]
  have i2 := inS_1 c2
  obtain ⟨k, hk, rfl⟩ := isS_1 hm c1
  have hk6 : k < 6 := by omega
  have hs := ho.2.2.2 k hk
  have e := he.2 k hk
  have eg := shp_g e
  have hC : C = md C 0 (C.1 0) k (shp (D.1 0) k) := by rw [e]; exact (md_self C 0 k).symm
  have hD : D = md D 0 (D.1 0) k (shp (D.1 0) k) := (md_self D 0 k).symm
  have b4 : b = 1 ∨ b = 2 ∨ b = 3 ∨ b = 4 := by grind
  unfold mX10_mostOf mX10_figure mX10_put mX12_set_b43
  rw [if_pos (show ok (nI k) 6 from vp_in_nI (by omega) (by decide)), nI_clamp (by omega), show (6 : Int32) + ((7 : Int32) * nI k) = nI (6 + 7 * k) by
    show nI 6 + nI 7 * nI k = _
    rw [pk_mul, nI_add]]
  generalize hS : shp (D.1 0) k = s at hs hC hD
  rcases b4 with rfl | rfl | rfl | rfl
  · simp (decide := true) only [↓reduceIte, Option.bind_some]
    by_cases c3 : inS v 0 19 = 0
    · rw [if_pos c3, if_pos c3]; exact bF0 h
    rw [if_neg c3, if_neg c3]
    have i3 := inS_1 c3
    rw [puts5 hk6]
    simp only [Option.bind_some]
    rw [puts6 hk6, show nI (6 + 7 * k) + (1 : Int32) = nI (6 + 7 * k + 1) from nI_1 _]
    simp only [Option.bind_some]
    rw [m_becomes (by omega), hC, hD, md_s5, md_s6, md_s1, md_s5, md_s6, md_s1, md_g1, md_g1]
    exact ⟨_, _, _, rfl, rfl, rel_ship h ho he hl (by unfold SOk b01 at *; grind)⟩
  · simp (decide := true) only [↓reduceIte, Option.bind_some]
    by_cases c3 : inS v 0 9 = 0
    · rw [if_pos c3, if_pos c3]; exact bF0 h
    rw [if_neg c3, if_neg c3]
    have i3 := inS_1 c3
    rw [show nI (6 + 7 * k) + (2 : Int32) = nI (6 + 7 * k + 2) from nI_add _ 2, m_becomes (by omega), hC, hD, md_s2, md_s2, md_g2, md_g2]
    exact ⟨_, _, _, rfl, rfl, rel_ship h ho he hl (by unfold SOk b01 at *; grind)⟩
  · simp (decide := true) only [↓reduceIte, Option.bind_some]
    by_cases c3 : inS v 0 9999 = 0
    · rw [if_pos c3, if_pos c3]; exact bF0 h
    rw [if_neg c3, if_neg c3]
    have i3 := inS_1 c3
    rw [show nI (6 + 7 * k) + (3 : Int32) = nI (6 + 7 * k + 3) from nI_add _ 3, m_becomes (by omega), hC, hD, md_s3, md_s3, md_g3, md_g3]
    exact ⟨_, _, _, rfl, rfl, rel_ship h ho he hl (by unfold SOk b01 at *; grind)⟩
  · simp (decide := true) only [↓reduceIte, Option.bind_some]
    by_cases c3 : inS v 0 99 = 0
    · rw [if_pos c3, if_pos c3]; exact bF0 h
    rw [if_neg c3, if_neg c3]
    have i3 := inS_1 c3
    rw [show nI (6 + 7 * k) + (4 : Int32) = nI (6 + 7 * k + 4) from nI_add _ 4, m_becomes (by omega), hC, hD, md_s4, md_s4, md_g4, md_g4]
    exact ⟨_, _, _, rfl, rfl, rel_ship h ho he hl (by unfold SOk b01 at *; grind)⟩
/-! one more ship -/
def addR (m : Nat) (r : Nat → Int32) (s : Shp) : Nat → Int32 := upd (putS r m s) 5 (nI (m + 1))
theorem m_adds {D : Mem} {m : Nat} (hr : D.1 0 5 = nI m) (hm : m < 6) (x c r : Int32) : mX12_adds D x c r = some (sR D 0 (addR m (D.1 0) (x, c, r, 0, 99, 0, 0))) := by
  unfold mX12_adds
  rw [hr]
  have hD : D = md D 0 (D.1 0) m (shp (D.1 0) m) := (md_self D 0 m).symm
  generalize hS : shp (D.1 0) m = s at hD
  rw [puts0 hm]; simp only [Option.bind_some]
  rw [puts1 hm]; simp only [Option.bind_some]
  rw [puts2 hm]; simp only [Option.bind_some]
  rw [puts3 hm]; simp only [Option.bind_some]
  rw [puts4 hm]; simp only [Option.bind_some]
  rw [puts5 hm]; simp only [Option.bind_some]
  rw [puts6 hm]; simp only [Option.bind_some]
  have e : sI (sI (sI (sI (sI (sI (sI D 0 (6 + 7 * m + 0) x) 0 (6 + 7 * m + 1) c) 0 (6 + 7 * m + 2) r) 0 (6 + 7 * m + 3) 0) 0 (6 + 7 * m + 4) 99) 0 (6 + 7 * m + 5) 0) 0 (6 + 7 * m + 6) 0 = md D 0 (D.1 0) m (x, c, r, 0, 99, 0, 0) := by
    conv => lhs; rw [hD]
    rw [md_s0, md_s1, md_s2, md_s3, md_s4, md_s5, md_s6]
  rw [e, md_e5, hr, nI_1, sI_sR, md_r]
  unfold md addR
  rw [sR_sR]
theorem c_launch {C : Mem} {j m : Nat} (hr : C.1 j 5 = nI m) (hm : m < 6) (x c r : Int32) : mX4_launch j C x c r = some (sR C j (addR m (C.1 j) (x, c, r, 0, 99, 0, 0))) := by
  unfold mX4_launch mX4_isFull mX10_begin
  rw [hr, if_pos (show nI m < (6 : Int32) from nI_lt (b := 6) hm (by decide))]
  simp only [Option.bind_some]
  rw [if_pos trivial, if_pos (show ok (nI m) 6 from vp_in_nI hm (by decide)), nI_clamp (by omega)]
  have hC : C = md C j (C.1 j) m (shp (C.1 j) m) := (md_self C j m).symm
  generalize hS : shp (C.1 j) m = s at hC
  have e : sI (sI (sI (sI (sI (sI (sI C j (6 + 7 * m + 0) x) j (6 + 7 * m + 1) c) j (6 + 7 * m + 2) r) j (6 + 7 * m + 3) 0) j (6 + 7 * m + 4) 99) j (6 + 7 * m + 5) 0) j (6 + 7 * m + 6) 0 = md C j (C.1 j) m (x, c, r, 0, 99, 0, 0) := by
    conv => lhs; rw [hC]
    rw [md_s0, md_s1, md_s2, md_s3, md_s4, md_s5, md_s6]
  rw [e, md_e5, hr, nI_1, sI_sR, md_r]
  unfold md addR
  rw [sR_sR]
theorem Sea2.add {c d : Nat → Int32} {m : Nat} {s : Shp} (ho : SeaOk m d) (he : SeaEq m d c) (hl : LOk d) (hm : m < 6) (hs : SOk s) : SeaOk (m + 1) (addR m d s) ∧ SeaEq (m + 1) (addR m d s) (addR m c s) ∧ LOk (addR m d s) := by
  have o : ∀ (r : Nat → Int32) (i : Nat), i < 5 → addR m r s i = r i := fun r i hi => by unfold addR; rw [upd_o (by omega), putS_out (by omega)]
  have g : ∀ (r : Nat → Int32) (q : Nat), shp (addR m r s) q = if q = m then s else shp r q := fun r q => by
    unfold addR
    rw [shp_upd (by decide)]
    split
    · rename_i h; subst h; exact shp_putS _ _ _
    · rename_i h; exact shp_putS_o h
  refine ⟨⟨upd_s _ _ _, by omega, ?_, fun q hq => ?_⟩, ⟨fun i hi => ?_, fun q hq => ?_⟩, ?_⟩
  · rw [o d 1 (by decide), o d 2 (by decide), o d 4 (by decide)]; exact ho.2.2.1
  · rw [g]; split
    · exact hs
    · exact ho.2.2.2 q (by omega)
  · by_cases h5 : i = 5
    · subst h5; unfold addR; rw [upd_s, upd_s]
    · rw [o d i (by omega), o c i (by omega)]; exact he.1 i hi
  · rw [g, g]; split
    · rfl
    · exact he.2 q (by omega)
  · obtain ⟨l, h1, h2⟩ := hl
    exact ⟨l, h1, by rw [o d 3 (by decide)]; exact h2⟩
theorem op_ship {C D : Mem} (h : Rel C D) (a b : Int32) : Both (mX11_ship C a b) (mX12_ship D a b) := by
  obtain ⟨m, ho, hc, he, hl, rd, rc, hm⟩ := h.1.get
  unfold mX11_ship mX12_ship
  simp only [c_isKind, m_isKind, c_in, m_isRow, Option.bind_some]
  by_cases c1 : inS a 0 5 = 0
  · rw [if_pos c1, if_pos c1]; exact bF0 h
  rw [if_neg c1, if_neg c1]
  by_cases c2 : inS b 0 9 = 0
  · rw [if_pos c2, if_pos c2]; exact bF0 h
  rw [if_neg c2, if_neg c2]
  have i1 := inS_1 c1
  have i2 := inS_1 c2
  unfold mX4_isFull
  rw [rc, rd, if_some]
  simp only [Option.bind_some]
  by_cases c3 : m = 6
  · subst c3
    rw [if_neg (show ¬ nI 6 < (6 : Int32) by decide), if_neg (by decide), if_pos (show nI 6 = (6 : Int32) from rfl)]
    exact bF1 h
  · have hm6 : m < 6 := by omega
    obtain ⟨y, hy, rfl⟩ := nat_of (n := 5) (by decide) i1.1 i1.2
    rw [if_pos (show nI m < (6 : Int32) from nI_lt (b := 6) hm6 (by decide)), if_pos rfl, if_pos (show ok (nI y) 6 from vp_in_nI (by omega) (by decide)), c_launch rc hm6, if_neg (show ¬ nI m = (6 : Int32) from fun z => c3 ((nI_eq (b := 6) (by omega) (by decide)).mp z)), m_adds rd hm6]
    simp only [Option.bind_some]
    rw [sR_s, sR_s]
    have hs : SOk (nI y, 0, b, 0, 99, 0, 0) := by unfold SOk b01; grind
    obtain ⟨k1, k2, k3⟩ := Sea2.add ho he hl hm6 hs
    refine ⟨_, _, _, rfl, ?_, h.sea ⟨m + 1, k1, k2, k3⟩⟩
    rw [show addR m (D.1 0) (nI y, 0, b, 0, 99, 0, 0) 5 = addR m (C.1 0) (nI y, 0, b, 0, 99, 0, 0) 5 by unfold addR; rw [upd_s, upd_s]]
/-! hours -/
theorem Sea2.pass {c d : Nat → Int32} {m n : Nat} (ho : SeaOk m d) (he : SeaEq m d c) (hl : LOk d) : Sea2 (passC m n c) (passR m n d) := by
  refine ⟨m, ho.pass, he.pass.trans passC_eq.symm, ?_⟩
  obtain ⟨l, h1, h2⟩ := hl
  exact ⟨l, h1, by rw [passR_e (by decide) (by decide)]; exact h2⟩
theorem op_hours {C D : Mem} (h : Rel C D) {N : Nat} (hN : 300 ≤ N) (a : Int32) : Both (mX11_hours N C a) (mX12_hours N D a) := by
  obtain ⟨m, ho, hc, he, hl, rd, rc, hm⟩ := h.1.get
  unfold mX11_hours mX12_hours
  simp only [c_in, m_in, Option.bind_some]
  by_cases c1 : inS a 1 100 = 0
  · rw [if_pos c1, if_pos c1]; exact bF0 h
  rw [if_neg c1, if_neg c1, h.1.e1.2.2.2.2.2]
  by_cases c2 : D.1 0 0 + a ≤ 99999
  · rw [if_pos c2, if_pos c2]
    have i1 := inS_1 c1
    obtain ⟨y, hy, rfl⟩ := nat_of (n := 100) (by decide) (by grind) i1.2
    have h2 := Sea2.pass (n := y) ho he hl
    rw [c_pass hc (by omega) (by omega) (by omega), m_passes rd hm (by omega) (by omega) (by omega)]
    simp only [Option.bind_some]
    obtain ⟨m2, ho2, hc2, he2, hl2, rd2, rc2, hm2⟩ := h2.get
    rw [c_by (C := sR C 0 (passC m y (C.1 0))) (m := m2) (by rw [sR_s]; exact hc2) (by omega), show mX12_setOf N (sR D 0 (passR m y (D.1 0))) (6 : Int32) = some (setS (fun k => (sR D 0 (passR m y (D.1 0))).1 0 (6 + 7 * k + 6)) m2) from m_setOf (w := 6) (by rw [sR_s]; exact rd2) hm2 (by decide) (by omega)]
    simp only [Option.bind_some, sR_s]
    rw [setS_cong (f := fun k => passR m y (D.1 0) (6 + 7 * k + 6)) (g := fun k => passC m y (C.1 0) (6 + 7 * k + 6)) m2 (fun k hk => (shp_g (he2.2 k hk)).2.2.2.2.2.2)]
    exact ⟨_, _, _, rfl, rfl, h.sea h2⟩
  · rw [if_neg c2, if_neg c2]; exact bF4 h
theorem op_wipe {C D : Mem} (h : Rel C D) : Both (mX11_wipe C) (mX12_wipe D) := by
  obtain ⟨n, hn, e1, e2, e3⟩ := h.2.2.2.1
  unfold mX11_wipe mX9_empty mX12_wipe
  simp only [Option.bind_some]
  exact ⟨C.1 3 1, sI C 3 1 0, sI D 9 5 0, rfl, by rw [e1, e2], ⟨h.1, h.2.1, h.2.2.1, ⟨0, by omega, rfl, rfl, fun k hk => by omega⟩, h.2.2.2.2⟩⟩
theorem op_tear {C D : Mem} (h : Rel C D) : Both (mX11_tear C) (mX12_tear D) := by
  obtain ⟨e1, e2, e3⟩ := h.2.1
  have hr : Rel (sI C 3 0 0) (sI D 9 18 0) := ⟨h.1, ⟨rfl, Or.inl rfl, fun z => absurd (show (0 : Int32) = 1 from z) (by decide)⟩, h.2.2⟩
  unfold mX11_tear mX12_tear
  rw [e1, c_num e2]
  simp only [Option.bind_some]
  rcases e2 with q | q
  · rw [q, if_pos rfl]; exact ⟨_, _, _, rfl, rfl, hr⟩
  · rw [q, if_neg (by decide)]; exact ⟨_, _, _, rfl, rfl, hr⟩
