/-! ===== PURE 5: ships ===== -/
def isS (m : Nat) (a : Int32) : Int32 := if a < 0 then 0 else if nI m ≤ a then 0 else 1
theorem c_isShip {C : Mem} {m : Nat} (hr : C.1 0 5 = nI m) (a : Int32) : mX11_isShip C a = some (isS m a) := by
  unfold mX11_isShip isS
  rw [hr, if_some, if_some]
theorem nI_small {m : Nat} (hm : m ≤ 6) : 0 ≤ nI m ∧ nI m ≤ 6 := ⟨nI_pos' (by omega), nI_le (b := 6) hm (by decide)⟩
theorem m_isOne {D : Mem} {m : Nat} (hr : D.1 0 5 = nI m) (hm : m ≤ 6) (a : Int32) : mX12_isOne D a = some (isS m a) := by
  unfold mX12_isOne
  rw [hr, m_in]
  simp only [Option.bind_some]
  rw [if_pos (inS_01 _ _ _)]
  have h := nI_small hm
  unfold inS isS
  generalize nI m = x at h ⊢
  grind
theorem isS_1 {m : Nat} {a : Int32} (hm : m ≤ 6) (h : ¬ isS m a = 0) : ∃ k, k < m ∧ a = nI k := by
  rcases pk_ix a (n := m) (by omega) with q | q | q
  · unfold isS at h; rw [if_pos q] at h; exact absurd rfl h
  · unfold isS at h; rw [if_pos q] at h; split at h <;> exact absurd rfl h
  · exact q
theorem Sea2.get {c d : Nat → Int32} (h : Sea2 c d) : ∃ m, SeaOk m d ∧ SeaOk m c ∧ SeaEq m d c ∧ LOk d ∧ d 5 = nI m ∧ c 5 = nI m ∧ m ≤ 6 := by
  obtain ⟨m, a, b, e⟩ := h
  exact ⟨m, a, a.eq b, b, e, a.1, (a.eq b).1, a.2.1⟩
/-- ship k becomes s in both -/
theorem Sea2.ship {c d : Nat → Int32} {m k : Nat} {s : Shp} (ho : SeaOk m d) (he : SeaEq m d c) (hl : LOk d) (hs : SOk s) : Sea2 (putS c k s) (putS d k s) := by
  refine ⟨m, ⟨by rw [putS_out (by omega)]; exact ho.1, ho.2.1, ?_, fun q hq => ?_⟩, ⟨fun i hi => by rw [putS_out (by omega), putS_out (by omega)]; exact he.1 i hi, fun q hq => ?_⟩, ?_⟩
  · rw [putS_out (by omega), putS_out (by omega), putS_out (by omega)]; exact ho.2.2.1
  · by_cases h : q = k
    · subst h; rw [shp_putS]; exact hs
    · rw [shp_putS_o h]; exact ho.2.2.2 q hq
  · by_cases h : q = k
    · subst h; rw [shp_putS, shp_putS]
    · rw [shp_putS_o h, shp_putS_o h]; exact he.2 q hq
  · obtain ⟨l, h1, h2⟩ := hl
    exact ⟨l, h1, by rw [putS_out (by omega)]; exact h2⟩
theorem rel_ship {C D : Mem} (h : Rel C D) {m k : Nat} {s : Shp} (ho : SeaOk m (D.1 0)) (he : SeaEq m (D.1 0) (C.1 0)) (hl : LOk (D.1 0)) (hs : SOk s) : Rel (md C 0 (C.1 0) k s) (md D 0 (D.1 0) k s) := by
  unfold md
  exact h.sea (Sea2.ship ho he hl hs)
theorem op_turn {C D : Mem} (h : Rel C D) (a b : Int32) : Both (mX11_turn C a b) (mX12_turn D a b) := by
  obtain ⟨m, ho, hc, he, hl, rd, rc, hm⟩ := h.1.get
  unfold mX11_turn mX12_turn
  simp only [c_isShip rc, m_isOne rd hm, c_isKind, m_isKind, Option.bind_some]
  by_cases c1 : isS m a = 0
  · rw [if_pos c1, if_pos c1]; exact bF0 h
  rw [if_neg c1, if_neg c1]
  by_cases c2 : inS b 0 5 = 0
  · rw [if_pos c2, if_pos c2]; exact bF0 h
  rw [if_neg c2, if_neg c2]
  obtain ⟨k, hk, rfl⟩ := isS_1 hm c1
  have i2 := inS_1 c2
  have hs := ho.2.2.2 k hk
  have e := he.2 k hk
  obtain ⟨y, hy, rfl⟩ := nat_of (n := 5) (by decide) i2.1 i2.2
  have hnum : mV_number (C.1 0 (6 + 7 * k + 0)) = some (D.1 0 (6 + 7 * k + 0)) := by
    rw [← (shp_g e).1]
    have h1 : 0 ≤ D.1 0 (6 + 7 * k + 0) := hs.1.1
    have h2 : D.1 0 (6 + 7 * k + 0) ≤ 5 := hs.1.2
    generalize D.1 0 (6 + 7 * k + 0) = x at h1 h2
    rcases six h1 h2 with rfl | rfl | rfl | rfl | rfl | rfl <;> rfl
  rw [if_pos (show ok (nI k) 6 from vp_in_nI (by omega) (by decide)), nI_clamp (by omega), hnum, show (6 : Int32) + ((7 : Int32) * nI k) = nI (6 + 7 * k) by
    show nI 6 + nI 7 * nI k = _
    rw [pk_mul, nI_add], m_becomes (by omega)]
  simp only [Option.bind_some]
  rw [if_pos (show ok (nI y) 6 from vp_in_nI (by omega) (by decide))]
  refine ⟨_, _, _, rfl, rfl, ?_⟩
  have ec : sI C 0 (6 + 7 * k + 0) (nI y) = md C 0 (C.1 0) k (nI y, (shp (C.1 0) k).2) := by
    have := md_s0 C 0 (C.1 0) k (shp (C.1 0) k) (nI y)
    rw [md_self] at this
    exact this
  have ed : sI D 0 (6 + 7 * k) (nI y) = md D 0 (D.1 0) k (nI y, (shp (D.1 0) k).2) := by
    have := md_s0 D 0 (D.1 0) k (shp (D.1 0) k) (nI y)
    rw [md_self] at this
    exact this
  show Rel (sI C 0 (6 + 7 * k + 0) (nI y)) (sI D 0 (6 + 7 * k) (nI y))
  rw [ec, ed, ← e]
  exact rel_ship h ho he hl ⟨i2, hs.2⟩
theorem v_num {x : Int32} (h1 : 0 ≤ x) (h2 : x ≤ 5) : mV_number x = some x := by
  rcases six h1 h2 with rfl | rfl | rfl | rfl | rfl | rfl <;> rfl
def underS (x k : Int32) : Int32 := if k = 0 ∨ k = x ∨ (k = 1 ∧ x = 4) ∨ (k = 2 ∧ x = 5) then 1 else 0
theorem v_under {x k : Int32} (h1 : 0 ≤ x) (h2 : x ≤ 5) : mV_isUnder x k = some (underS x k) := by
  unfold mV_isUnder mX7_isUnder mX8_isUnder mX0_isUnder mX1_isUnder mX3_isUnder mX2_isUnder underS
  rcases six h1 h2 with rfl | rfl | rfl | rfl | rfl | rfl <;> simp [mX7_isUnder, mX8_isUnder, mX0_isUnder, if_some] <;> grind
theorem op_as {C D : Mem} (h : Rel C D) (a b : Int32) : Both (mX11_as C a b) (mX12_as D a b) := by
  obtain ⟨m, ho, hc, he, hl, rd, rc, hm⟩ := h.1.get
  unfold mX11_as mX12_as
  simp only [c_isShip rc, m_isOne rd hm, c_isKind, m_isKind, Option.bind_some]
  by_cases c1 : isS m a = 0
  · rw [if_pos c1, if_pos c1]; exact bF0 h
  rw [if_neg c1, if_neg c1]
  by_cases c2 : inS b 0 5 = 0
  · rw [if_pos c2, if_pos c2]; exact bF0 h
  rw [if_neg c2, if_neg c2]
  obtain ⟨k, hk, rfl⟩ := isS_1 hm c1
  have hs := ho.2.2.2 k hk
  have e := shp_g (he.2 k hk)
  have h1 : 0 ≤ D.1 0 (6 + 7 * k + 0) := hs.1.1
  have h2 : D.1 0 (6 + 7 * k + 0) ≤ 5 := hs.1.2
  have hk6 : k < 6 := by omega
  unfold mX12_as_b48 mX12_as_b58 mX12_as_b62 mX12_as_b63
  rw [if_pos (show ok (nI k) 6 from vp_in_nI (by omega) (by decide)), nI_clamp (by omega), ← e.1, v_under h1 h2, its0 hk6, its3 hk6]
  simp only [Option.bind_some]
  by_cases c3 : underS (D.1 0 (6 + 7 * k + 0)) b = 0
  · rw [if_pos c3]
    obtain ⟨r, C2, D2, ha, hb, hr⟩ := bF2 h
    refine ⟨r, C2, D2, ha, ?_, hr⟩
    rw [← hb]
    generalize ((mX12_finds D (-1000000003)).bind fun q13 => some (q13.1, q13.2)) = A
    generalize (some (D.1 0 (6 + 7 * k + 3), D)) = B
    generalize D.1 0 (6 + 7 * k + 0) = x at c3 ⊢
    unfold underS at c3
    grind
  · rw [if_neg c3]
    refine ⟨D.1 0 (6 + 7 * k + 3), C, D, by rw [← e.2.2.2.1], ?_, h⟩
    generalize ((mX12_finds D (-1000000003)).bind fun q13 => some (q13.1, q13.2)) = A
    generalize (some (D.1 0 (6 + 7 * k + 3), D)) = B
    generalize D.1 0 (6 + 7 * k + 0) = x at c3 ⊢
    unfold underS at c3
    grind
/-! now, count -/
theorem op_now {C D : Mem} (h : Rel C D) {N : Nat} (hN : 10 ≤ N) (a : Int32) : Both (mX11_now N C a) (mX12_now N D a) := by
  obtain ⟨m, ho, hc, he, hl, rd, rc, hm⟩ := h.1.get
  obtain ⟨q1, q2, q3, q4, q5, q0⟩ := h.1.e1
  have hn : b01 (nightS (hodS (D.1 0 0))) := by unfold nightS b01; grind
  have hb : b01 (burnS (D.1 0 3) (hodS (D.1 0 0))) := by unfold burnS b01; grind
  have s5 : setS (fun k => C.1 0 (6 + 7 * k + 5)) m = setS (fun k => D.1 0 (6 + 7 * k + 5)) m := setS_cong m (fun k hk => (shp_g (he.2 k hk)).2.2.2.2.2.1.symm)
  have s6 : setS (fun k => C.1 0 (6 + 7 * k + 6)) m = setS (fun k => D.1 0 (6 + 7 * k + 6)) m := setS_cong m (fun k hk => (shp_g (he.2 k hk)).2.2.2.2.2.2.symm)
  have e1 : mX4_isNight 0 C = some (nightS (hodS (D.1 0 0))) := by
    unfold mX4_isNight mX4_hourOfDay
    simp only [c_night, Option.bind_some]
    rw [q0, if_pos (show b01 (nightS (D.1 0 0 - D.1 0 0 / 12 * 12)) from hn)]
    rfl
  have e2 : mX4_burns 0 C = some (burnS (D.1 0 3) (hodS (D.1 0 0))) := by
    unfold mX4_burns mX4_hourOfDay mX4_burnsAt
    simp only [Option.bind_some, if_some]
    rw [q0, q3]
    show (if b01 (burnS (D.1 0 3) (hodS (D.1 0 0))) then some (burnS (D.1 0 3) (hodS (D.1 0 0))) else none) = _
    rw [if_pos hb]
  have z : ∀ x : Int32, b01 x → (if x = 0 then some ((0 : Int32), D) else some (1, D)) = some (x, D) := by
    intro x hx
    rcases hx with rfl | rfl <;> rfl
  unfold mX11_now mX12_now
  rw [show mX12_setOf N D (5 : Int32) = some (setS (fun k => D.1 0 (6 + 7 * k + 5)) m) from m_setOf (w := 5) rd hm (by decide) hN, show mX12_setOf N D (6 : Int32) = some (setS (fun k => D.1 0 (6 + 7 * k + 6)) m) from m_setOf (w := 6) rd hm (by decide) hN, c_lost hc hN, c_by hc hN, e1, e2, m_night, m_burn, s5, s6]
  unfold mX4_hourOfDay mX4_towerPlace mX12_place
  simp only [Option.bind_some, c_num hn, c_num hb, z _ hn, z _ hb, q0, q1, q2, q4]
  split
  · exact ⟨_, _, _, rfl, rfl, h⟩
  split
  · exact ⟨_, _, _, rfl, rfl, h⟩
  split
  · exact ⟨_, _, _, rfl, rfl, h⟩
  split
  · exact ⟨_, _, _, rfl, rfl, h⟩
  split
  · exact ⟨_, _, _, rfl, rfl, h⟩
  split
  · exact ⟨_, _, _, rfl, rfl, h⟩
  split
  · exact ⟨_, _, _, rfl, rfl, h⟩
  split
  · exact ⟨_, _, _, rfl, rfl, h⟩
  · exact bF0 h
