/-! ===== PURE 8: looks ahead ===== -/
section AHEAD
variable {C E : Mem} {m N : Nat} {f : Nat → Int32}
theorem c_pass2 (hf : SeaOk m f) {t : Nat} (ht : t ≤ 100) (hN : 300 ≤ N) : mX4_pass N 2 (sR C 2 f) (nI t) = some (sR C 2 (passC m t f)) := by
  rw [c_pass (C := sR C 2 f) (j := 2) (m := m) (by rw [sR_s]; exact hf) (by omega) (by omega) (by omega), sR_s, sR_sR]
theorem c_lost2 (hf : SeaOk m f) (hN : 300 ≤ N) : mX4_lostOnes N 2 (sR C 2 f) = some (setS (fun k => f (6 + 7 * k + 5)) m) := by
  rw [c_lost (C := sR C 2 f) (j := 2) (m := m) (by rw [sR_s]; exact hf) (by omega)]
  simp only [sR_s]
theorem c_by2 (hf : SeaOk m f) (hN : 300 ≤ N) : mX4_onesBy N 2 (sR C 2 f) = some (setS (fun k => f (6 + 7 * k + 6)) m) := by
  rw [c_by (C := sR C 2 f) (j := 2) (m := m) (by rw [sR_s]; exact hf) (by omega)]
  simp only [sR_s]
theorem c_cost2 (hf : SeaOk m f) (hN : 300 ≤ N) : mX4_costOfAll N 2 (sR C 2 f) = some (sumS (fun k => f (6 + 7 * k + 3)) m) := by
  rw [c_costAll (C := sR C 2 f) (j := 2) (m := m) (by rw [sR_s]; exact hf) (by omega)]
  simp only [sR_s]
theorem m_pass2 (hr : f 5 = nI m) (hm : m ≤ 6) {t : Nat} (ht : t ≤ 100) (hN : 300 ≤ N) : mX12_passes N (sR E 0 f) (nI t) = some (sR E 0 (passR m t f)) := by
  rw [m_passes (D := sR E 0 f) (m := m) (by rw [sR_s]; exact hr) hm (by omega) (by omega) (by omega), sR_s, sR_sR]
theorem m_lost2 (hr : f 5 = nI m) (hm : m ≤ 6) (hN : 300 ≤ N) : mX12_setOf N (sR E 0 f) (5 : Int32) = some (setS (fun k => f (6 + 7 * k + 5)) m) := by
  rw [show mX12_setOf N (sR E 0 f) (5 : Int32) = _ from m_setOf (D := sR E 0 f) (m := m) (w := 5) (by rw [sR_s]; exact hr) hm (by decide) (by omega)]
  simp only [sR_s]
theorem m_by2 (hr : f 5 = nI m) (hm : m ≤ 6) (hN : 300 ≤ N) : mX12_setOf N (sR E 0 f) (6 : Int32) = some (setS (fun k => f (6 + 7 * k + 6)) m) := by
  rw [show mX12_setOf N (sR E 0 f) (6 : Int32) = _ from m_setOf (D := sR E 0 f) (m := m) (w := 6) (by rw [sR_s]; exact hr) hm (by decide) (by omega)]
  simp only [sR_s]
theorem m_cost2 (hr : f 5 = nI m) (hm : m ≤ 6) (hN : 300 ≤ N) : mX12_costOfAll N (sR E 0 f) = some (sumS (fun k => f (6 + 7 * k + 3)) m) := by
  rw [m_costAll (D := sR E 0 f) (m := m) (by rw [sR_s]; exact hr) hm (by omega)]
  simp only [sR_s]
end AHEAD
theorem SeaEq.lost {m : Nat} {r q : Nat → Int32} (h : SeaEq m r q) : setS (fun k => r (6 + 7 * k + 5)) m = setS (fun k => q (6 + 7 * k + 5)) m := setS_cong m (fun k hk => (shp_g (h.2 k hk)).2.2.2.2.2.1)
theorem SeaEq.by {m : Nat} {r q : Nat → Int32} (h : SeaEq m r q) : setS (fun k => r (6 + 7 * k + 6)) m = setS (fun k => q (6 + 7 * k + 6)) m := setS_cong m (fun k hk => (shp_g (h.2 k hk)).2.2.2.2.2.2)
theorem SeaEq.cost {m : Nat} {r q : Nat → Int32} (h : SeaEq m r q) : sumS (fun k => r (6 + 7 * k + 3)) m = sumS (fun k => q (6 + 7 * k + 3)) m := sumS_cong m (fun k hk => (shp_g (h.2 k hk)).2.2.2.1)
/-- the same sea, tried in both -/
theorem SeaEq.ahead {m t : Nat} {r q : Nat → Int32} (h : SeaEq m r q) : SeaEq m (passR m t r) (passC m t q) := h.pass.trans passC_eq.symm
theorem op_then {C D : Mem} (h : Rel C D) {N : Nat} (hN : 300 ≤ N) (a b : Int32) : Both (mX11_then N C a b) (mX12_then N D a b) := by
  obtain ⟨m, ho, hc, he, hl, rd, rc, hm⟩ := h.1.get
  unfold mX11_then mX12_then
  simp only [c_in, m_in, Option.bind_some]
  by_cases c1 : inS a 0 100 = 0
  · rw [if_pos c1, if_pos c1]; exact bF0 h
  rw [if_neg c1, if_neg c1]
  by_cases c2 : inS b 0 1 = 0
  · rw [if_pos c2, if_pos c2]; exact bF0 h
  rw [if_neg c2, if_neg c2]
  have i1 := inS_1 c1
  have i2 := inS_1 c2
  obtain ⟨y, hy, rfl⟩ := nat_of (n := 100) (by decide) i1.1 i1.2
  obtain ⟨E, hE, hlk⟩ := lk_start (D := D) hN
  have eE : SeaEq m (D.1 0) (E.1 0) := lk_eq hm hlk
  have rE : E.1 0 5 = nI m := by rw [← eE.1 5 (by decide)]; exact rd
  have e2 : SeaEq m (E.1 0) (mvq (6 + 7 * m) (C.1 2) (C.1 0)) := eE.symm.trans (he.trans mvq_eq)
  have hf : SeaOk m (mvq (6 + 7 * m) (C.1 2) (C.1 0)) := hc.eq mvq_eq
  have e3 := e2.ahead (t := y)
  have hf3 : SeaOk m (passC m y (mvq (6 + 7 * m) (C.1 2) (C.1 0))) := hf.pass.eq passC_eq.symm
  rw [c_become (by decide) hc hN, hE]
  simp only [Option.bind_some]
  have s1 : mX12_passes N E (nI y) = some (sR E 0 (passR m y (E.1 0))) := m_passes rE hm (by omega) (by omega) (by omega)
  rw [c_pass2 hf hy hN, s1]
  simp only [Option.bind_some]
  have r3 : passR m y (E.1 0) 5 = nI m := by rw [passR_e (by decide) (by decide)]; exact rE
  obtain ⟨E2, hE2, hlk2⟩ := lk_back hN hlk (passR m y (E.1 0))
  rw [hE2, c_lost2 hf3 hN, c_by2 hf3 hN]
  have b2 : b = 0 ∨ b = 1 := by grind
  rcases b2 with rfl | rfl
  · rw [show (5 : Int32) + 0 = 5 by decide, m_lost2 r3 hm hN, if_pos rfl, e3.lost]
    exact ⟨_, _, _, rfl, rfl, lk_rel (tr_rel h _) hlk2⟩
  · rw [show (5 : Int32) + 1 = 6 by decide, m_by2 r3 hm hN, if_neg (by decide), e3.by]
    exact ⟨_, _, _, rfl, rfl, lk_rel (tr_rel h _) hlk2⟩
theorem op_on {C D : Mem} (h : Rel C D) {N : Nat} (hN : 300 ≤ N) (a t b : Int32) : Both (mX11_on N C a t b) (mX12_on N D a t b) := by
  obtain ⟨m, ho, hc, he, hl, rd, rc, hm⟩ := h.1.get
  unfold mX11_on mX12_on
  simp only [c_isShip rc, m_isOne rd hm, c_in, m_in, Option.bind_some]
  by_cases c1 : isS m a = 0
  · rw [if_pos c1, if_pos c1]; exact bF0 h
  rw [if_neg c1, if_neg c1]
  by_cases c2 : inS t 0 100 = 0
  · rw [if_pos c2, if_pos c2]; exact bF0 h
  rw [if_neg c2, if_neg c2]
  by_cases c3 : inS b 0 3 = 0
  · rw [if_pos c3, if_pos c3]; exact bF0 h
  rw [if_neg c3, if_neg c3]
  have i2 := inS_1 c2
  have i3 := inS_1 c3
  obtain ⟨k, hk, rfl⟩ := isS_1 hm c1
  obtain ⟨y, hy, rfl⟩ := nat_of (n := 100) (by decide) i2.1 i2.2
  obtain ⟨w, hw, rfl⟩ := nat_of (n := 3) (by decide) i3.1 i3.2
  have hk6 : k < 6 := by omega
  obtain ⟨E, hE, hlk⟩ := lk_start (D := D) hN
  have eE : SeaEq m (D.1 0) (E.1 0) := lk_eq hm hlk
  have rE : E.1 0 5 = nI m := by rw [← eE.1 5 (by decide)]; exact rd
  rw [c_alone hc hk, hE]
  simp only [Option.bind_some]
  have hf : SeaOk 1 (oneR (C.1 2) (C.1 0) (shp (C.1 0) k)) := oneR_ok hc (hc.2.2.2 k hk)
  have s1 : mX12_passes N E (nI y) = some (sR E 0 (passR m y (E.1 0))) := m_passes rE hm (by omega) (by omega) (by omega)
  rw [c_pass2 hf hy hN, s1]
  simp only [Option.bind_some]
  obtain ⟨E2, hE2, hlk2⟩ := lk_back hN hlk (passR m y (E.1 0))
  have e3 : shp (passC 1 y (oneR (C.1 2) (C.1 0) (shp (C.1 0) k))) 0 = shp (passR m y (E.1 0)) k := by
    rw [passC_eq.2 0 (by decide), passR_s (by decide), passR_s hk, oneR_s, oneR_e (by decide), oneR_e (by decide), oneR_e (by decide), oneR_e (by decide), oneR_e (by decide), ← eE.2 k hk, he.2 k hk, ← eE.1 0 (by decide), ← eE.1 1 (by decide), ← eE.1 2 (by decide), ← eE.1 3 (by decide), ← eE.1 4 (by decide), he.1 0 (by decide), he.1 1 (by decide), he.1 2 (by decide), he.1 3 (by decide), he.1 4 (by decide)]
  have e4 : ∀ w, w ≤ 3 → (passC 1 y (oneR (C.1 2) (C.1 0) (shp (C.1 0) k))) (6 + 7 * 0 + (1 + w)) = passR m y (E.1 0) (6 + 7 * k + (1 + w)) := by
    intro w hw
    unfold shp at e3
    simp only [Prod.mk.injEq] at e3
    have : w = 0 ∨ w = 1 ∨ w = 2 ∨ w = 3 := by omega
    rcases this with rfl | rfl | rfl | rfl
    · exact e3.2.1
    · exact e3.2.2.1
    · exact e3.2.2.2.1
    · exact e3.2.2.2.2.1
  have f1 : mX10_figure 2 0 (sR C 2 (passC 1 y (oneR (C.1 2) (C.1 0) (shp (C.1 0) k)))) ((1 : Int32) + nI w) = some (passR m y (E.1 0) (6 + 7 * k + (1 + w))) := by
    have e5 := e4 w hw
    unfold mX10_figure
    rw [sR_s]
    have : w = 0 ∨ w = 1 ∨ w = 2 ∨ w = 3 := by omega
    rcases this with rfl | rfl | rfl | rfl
    · rw [if_pos (by decide)]; rw [← e5]
    · rw [if_neg (by decide), if_pos (by decide)]; rw [← e5]
    · rw [if_neg (by decide), if_neg (by decide), if_pos (by decide)]; rw [← e5]
    · rw [if_neg (by decide), if_neg (by decide), if_neg (by decide), if_pos (by decide)]; rw [← e5]
  rw [f1, hE2, show (1 : Int32) + nI w = nI (1 + w) from nI_add 1 w, its_eq hk6 (by omega), sR_s]
  exact ⟨_, _, _, rfl, rfl, lk_rel (tr_rel h _) hlk2⟩
/-! nearest -/
def nbS (r : Nat → Int32) : Nat → Nat
  | 0 => 0
  | 1 => 0
  | k + 2 => if r (6 + 7 * nbS r (k + 1) + 4) ≤ r (6 + 7 * (k + 1) + 4) then nbS r (k + 1) else k + 1
theorem nbS_lt (r : Nat → Int32) : ∀ k, 0 < k → nbS r k < k := by
  intro k
  induction k with
  | zero => intro h; omega
  | succ k ih =>
    intro _
    match k with
    | 0 => exact Nat.lt_succ_self 0
    | k + 1 =>
      rw [nbS]
      have := ih (by omega)
      split <;> omega
theorem c_near_b {C : Mem} {j m N : Nat} (hr : C.1 j 5 = nI m) (hm : m ≤ 6) : ∀ (p n q : Nat), p < n → p + q = m → 0 < q → mX4_nearestOne_b4 N j C n (nI (nbS (C.1 j) q)) (nI q) = some (nI (nbS (C.1 j) m)) := by
  intro p
  induction p with
  | zero =>
    intro n q hn hq h0
    obtain ⟨n, rfl⟩ : ∃ z, n = z + 1 := ⟨n - 1, by omega⟩
    have e : q = m := by omega
    subst e
    rw [mX4_nearestOne_b4, hr, if_pos (nI_le (Nat.le_refl _) (by omega))]
  | succ p ih =>
    intro n q hn hq h0
    obtain ⟨n, rfl⟩ : ∃ z, n = z + 1 := ⟨n - 1, by omega⟩
    have hlt := nbS_lt (C.1 j) q h0
    rw [mX4_nearestOne_b4, hr, if_neg (nI_ge (by omega) (by omega)), if_neg (show ¬ (6 : Int32) ≤ nI q from nI_ge (b := 6) (by omega) (by decide)), if_pos (show ok (nI q) 6 from vp_in_nI (by omega) (by decide)), if_pos (show ok (nI (nbS (C.1 j) q)) 6 from vp_in_nI (by omega) (by decide)), nI_clamp (by omega), nI_clamp (by omega), nI_1]
    have e := ih n (q + 1) (by omega) (by omega) (by omega)
    obtain ⟨z, rfl⟩ : ∃ z, q = z + 1 := ⟨q - 1, by omega⟩
    rw [nbS] at e
    by_cases c : C.1 j (6 + 7 * nbS (C.1 j) (z + 1) + 4) ≤ C.1 j (6 + 7 * (z + 1) + 4)
    · rw [if_pos c] at e ⊢; exact e
    · rw [if_neg c] at e ⊢; exact e
theorem m_near_b {E D : Mem} {m N : Nat} {f : Nat → Int32} (hr : f 5 = nI m) (hm : m ≤ 6) (hN : 300 ≤ N) (hm0 : 0 < m) (hlk : Lk D E) : ∀ (p n q : Nat), p < n → p + q = m → 0 < q → ∃ E2, mX12_nearest_b35 N n (sR E 0 f) (nI (nbS f q)) (nI q) = some (nI (nbS f m), E2) ∧ Lk D E2 := by
  intro p
  induction p with
  | zero =>
    intro n q hn hq h0
    obtain ⟨n, rfl⟩ : ∃ z, n = z + 1 := ⟨n - 1, by omega⟩
    have e : q = m := by omega
    subst e
    obtain ⟨E2, h1, h2⟩ := lk_back hN hlk f
    have hlt := nbS_lt f q h0
    refine ⟨E2, ?_, h2⟩
    rw [mX12_nearest_b35, sR_s, hr, if_pos (nI_le (Nat.le_refl _) (by omega)), h1]
    simp only [Option.bind_some]
    rw [if_pos (nI_pos' (by omega))]
  | succ p ih =>
    intro n q hn hq h0
    obtain ⟨n, rfl⟩ : ∃ z, n = z + 1 := ⟨n - 1, by omega⟩
    have hlt := nbS_lt f q h0
    rw [mX12_nearest_b35, sR_s, hr, if_neg (nI_ge (by omega) (by omega)), if_neg (nI_pos (by omega)), its4 (by omega), its4 (by omega), nI_1, sR_s]
    simp only [Option.bind_some]
    have e := ih n (q + 1) (by omega) (by omega) (by omega)
    obtain ⟨z, rfl⟩ : ∃ z, q = z + 1 := ⟨q - 1, by omega⟩
    rw [nbS] at e
    by_cases c : f (6 + 7 * nbS f (z + 1) + 4) ≤ f (6 + 7 * (z + 1) + 4)
    · rw [if_pos c] at e ⊢; exact e
    · rw [if_neg c] at e ⊢; exact e
theorem nbS_cong {r q : Nat → Int32} {m : Nat} (h : SeaEq m r q) : ∀ k, k ≤ m → nbS r k = nbS q k := by
  intro k
  induction k with
  | zero => intro _; rfl
  | succ k ih =>
    intro hk
    match k with
    | 0 => rfl
    | k + 1 =>
      have e := ih (by omega)
      have hlt := nbS_lt q (k + 1) (by omega)
      rw [nbS, nbS, e, (shp_g (h.2 (nbS q (k + 1)) (by omega))).2.2.2.2.1, (shp_g (h.2 (k + 1) (by omega))).2.2.2.2.1]
theorem op_nearest {C D : Mem} (h : Rel C D) {N : Nat} (hN : 300 ≤ N) (a : Int32) : Both (mX11_nearest N C a) (mX12_nearest N D a) := by
  obtain ⟨m, ho, hc, he, hl, rd, rc, hm⟩ := h.1.get
  unfold mX11_nearest mX12_nearest
  simp only [c_in, m_in, Option.bind_some]
  by_cases c1 : inS a 0 100 = 0
  · rw [if_pos c1, if_pos c1]; exact bF0 h
  rw [if_neg c1, if_neg c1]
  have i1 := inS_1 c1
  obtain ⟨y, hy, rfl⟩ := nat_of (n := 100) (by decide) i1.1 i1.2
  obtain ⟨E, hE, hlk⟩ := lk_start (D := D) hN
  have eE : SeaEq m (D.1 0) (E.1 0) := lk_eq hm hlk
  have rE : E.1 0 5 = nI m := by rw [← eE.1 5 (by decide)]; exact rd
  have s1 : mX12_passes N E (nI y) = some (sR E 0 (passR m y (E.1 0))) := m_passes rE hm (by omega) (by omega) (by omega)
  have r3 : passR m y (E.1 0) 5 = nI m := by rw [passR_e (by decide) (by decide)]; exact rE
  rw [hE]
  simp only [Option.bind_some]
  rw [s1, rc]
  simp only [Option.bind_some]
  by_cases c2 : m = 0
  · subst c2
    obtain ⟨E2, h1, h2⟩ := lk_back hN hlk (passR 0 y (E.1 0))
    obtain ⟨N1, rfl⟩ : ∃ z, N = z + 1 := ⟨N - 1, by omega⟩
    rw [if_pos (show nI 0 = (0 : Int32) from rfl), mX12_nearest_b35, sR_s, r3, if_pos (by decide), h1]
    simp only [Option.bind_some]
    rw [if_neg (by decide)]
    exact bF3 (lk_rel h h2)
  · rw [if_neg (nI_ne0 (by omega) (by omega)), c_become (by decide) hc hN]
    simp only [Option.bind_some]
    have hf : SeaOk m (mvq (6 + 7 * m) (C.1 2) (C.1 0)) := hc.eq mvq_eq
    have hf3 : SeaOk m (passC m y (mvq (6 + 7 * m) (C.1 2) (C.1 0))) := hf.pass.eq passC_eq.symm
    have e2 : SeaEq m (E.1 0) (mvq (6 + 7 * m) (C.1 2) (C.1 0)) := eE.symm.trans (he.trans mvq_eq)
    have e3 := e2.ahead (t := y)
    obtain ⟨N1, rfl⟩ : ∃ z, N = z + 1 := ⟨N - 1, by omega⟩
    obtain ⟨E2, k1, k2⟩ := m_near_b (N := N1 + 1) r3 hm hN (by omega) hlk (m - 1) N1 1 (by omega) (by omega) (by decide)
    have n1 : mX4_nearestOne (N1 + 1) 2 (sR C 2 (passC m y (mvq (6 + 7 * m) (C.1 2) (C.1 0)))) = some (nI (nbS (passC m y (mvq (6 + 7 * m) (C.1 2) (C.1 0))) m)) := by
      unfold mX4_nearestOne
      have := c_near_b (C := sR C 2 (passC m y (mvq (6 + 7 * m) (C.1 2) (C.1 0)))) (j := 2) (N := N1 + 1) (m := m) (by rw [sR_s]; exact hf3.1) hm (m - 1) (N1 + 1) 1 (by omega) (by omega) (by decide)
      rw [sR_s] at this
      exact this
    rw [c_pass2 hf hy hN]
    simp only [Option.bind_some]
    rw [n1, mX12_nearest_b35, sR_s, r3, if_neg (nI_nle (by omega) (by omega)), if_pos (by decide)]
    rw [show mX12_nearest_b35 (N1 + 1) N1 (sR E 0 (passR m y (E.1 0))) 0 ((0 : Int32) + 1) = some (nI (nbS (passR m y (E.1 0)) m), E2) from k1, nbS_cong e3 m (Nat.le_refl _)]
    exact ⟨_, _, _, rfl, rfl, lk_rel (tr_rel h _) k2⟩
