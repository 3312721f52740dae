/-! ===== PURE 2: one ship's hour in the class; what stays in its bounds ===== -/
def SOk (s : Shp) : Prop := (0 ≤ s.1 ∧ s.1 ≤ 5) ∧ (0 ≤ s.2.1 ∧ s.2.1 ≤ 20) ∧ (0 ≤ s.2.2.1 ∧ s.2.2.1 ≤ 9) ∧ (0 ≤ s.2.2.2.1 ∧ s.2.2.2.1 ≤ 9999) ∧ (0 ≤ s.2.2.2.2.1 ∧ s.2.2.2.2.1 ≤ 99) ∧ b01 s.2.2.2.2.2.1 ∧ b01 s.2.2.2.2.2.2 ∧ (s.2.2.2.2.2.1 = 0 → s.2.2.2.2.2.2 = 0 → s.2.1 ≤ 19)
def EOk (tc tr R : Int32) : Prop := (0 ≤ tc ∧ tc ≤ 19) ∧ (0 ≤ tr ∧ tr ≤ 9) ∧ (0 ≤ R ∧ R ≤ 9)
theorem dS_eq {tc tr c r : Int32} (h1 : 0 ≤ tc ∧ tc ≤ 19) (h2 : 0 ≤ tr ∧ tr ≤ 9) (h3 : 0 ≤ c ∧ c ≤ 20) (h4 : 0 ≤ r ∧ r ≤ 9) : (if (if 0 ≤ (c - tc) then (c - tc) else 0 - (c - tc)) < (if 0 ≤ (r - tr) then (r - tr) else 0 - (r - tr)) then (if 0 ≤ (r - tr) then (r - tr) else 0 - (r - tr)) else (if 0 ≤ (c - tc) then (c - tc) else 0 - (c - tc))) = dS tc tr c r := by
  have a1 : (if 0 ≤ (c - tc) then (c - tc) else 0 - (c - tc)) = apS c tc := by unfold apS; grind
  have a2 : (if 0 ≤ (r - tr) then (r - tr) else 0 - (r - tr)) = apS r tr := by unfold apS; grind
  rw [a1, a2]
  unfold dS
  generalize apS c tc = a
  generalize apS r tr = b
  grind
theorem apS_rng {a b n : Int32} (h1 : 0 ≤ a ∧ a ≤ n) (h2 : 0 ≤ b ∧ b ≤ n) : 0 ≤ apS a b ∧ apS a b ≤ n := by unfold apS; grind
theorem dS_rng {tc tr c r : Int32} (h1 : 0 ≤ tc ∧ tc ≤ 19) (h2 : 0 ≤ tr ∧ tr ≤ 9) (h3 : 0 ≤ c ∧ c ≤ 20) (h4 : 0 ≤ r ∧ r ≤ 9) : 0 ≤ dS tc tr c r ∧ dS tc tr c r ≤ 20 := by
  have a1 := apS_rng (a := c) (b := tc) (n := 20) h3 (by grind)
  have a2 := apS_rng (a := r) (b := tr) (n := 20) (by grind) (by grind)
  unfold dS
  split
  · exact a2
  · exact a1
theorem six {x : Int32} (h0 : 0 ≤ x) (h5 : x ≤ 5) : x = 0 ∨ x = 1 ∨ x = 2 ∨ x = 3 ∨ x = 4 ∨ x = 5 := by grind
theorem v_sees {x d n b R : Int32} (h0 : 0 ≤ x) (h5 : x ≤ 5) : mV_sees x d n b R = some (seesS x d n b R) := by
  unfold mV_sees mX7_sees mX8_sees mX0_sees mX1_sees mX3_sees mX2_sees seesS
  rcases six h0 h5 with rfl | rfl | rfl | rfl | rfl | rfl <;> simp [mX7_sees, mX8_sees, mX0_sees, if_some] <;> grind
theorem v_speed {x hd n : Int32} (h0 : 0 ≤ x) (h5 : x ≤ 5) : mV_speed x hd n = some (speedS x hd n) := by
  unfold mV_speed mX7_speed mX8_speed mX1_speed mX3_speed mX2_speed speedS
  rcases six h0 h5 with rfl | rfl | rfl | rfl | rfl | rfl <;> simp [mX7_speed, mX8_speed, if_some] <;> grind
theorem v_keep {x d : Int32} (h0 : 0 ≤ x) (h5 : x ≤ 5) : mV_keepsOff x d = some (keepS x d) := by
  unfold mV_keepsOff mX7_keepsOff mX0_keepsOff mX1_keepsOff mX3_keepsOff mX2_keepsOff keepS
  rcases six h0 h5 with rfl | rfl | rfl | rfl | rfl | rfl <;> simp [mX7_keepsOff, mX0_keepsOff, if_some] <;> grind
theorem v_stand {x d n c : Int32} (h0 : 0 ≤ x) (h5 : x ≤ 5) : mV_stands x d n c = some (standS x d n c) := by
  unfold mV_stands mX7_stands mX8_stands mX3_stands standS
  rcases six h0 h5 with rfl | rfl | rfl | rfl | rfl | rfl <;> simp [mX8_stands, if_some] <;> grind
theorem keepS_rng (x d : Int32) : (-1 : Int32) ≤ keepS x d ∧ keepS x d ≤ 2 := by unfold keepS; grind
section CLS1
variable {C : Mem} {j : Nat} {r : Nat → Int32} {k : Nat} {s : Shp}
theorem c_dist (h1 : 0 ≤ r 1 ∧ r 1 ≤ 19) (h2 : 0 ≤ r 2 ∧ r 2 ≤ 9) (h3 : 0 ≤ s.2.1 ∧ s.2.1 ≤ 20) (h4 : 0 ≤ s.2.2.1 ∧ s.2.2.1 ≤ 9) : mX4_distanceOf j (md C j r k s) k = some (dS (r 1) (r 2) s.2.1 s.2.2.1) := by
  unfold mX4_distanceOf
  rw [md_g1, md_g2, md_e1, md_e2, dS_eq h1 h2 h3 h4]
theorem c_pay (h : 0 ≤ s.2.2.2.1 ∧ s.2.2.2.1 ≤ 9999) : mX10_pay j k (md C j r k s) = some (md C j r k (payS s)) := by
  unfold mX10_pay payS
  rw [md_g3, md_s3]
  have e : (if (9999 : Int32) < s.2.2.2.1 + (1 : Int32) then (9999 : Int32) else s.2.2.2.1 + (1 : Int32)) = costS s.2.2.2.1 := by unfold costS heldS; grind
  rw [e]
theorem c_under : mX10_isUnderWay j k (md C j r k s) = some (if s.2.2.2.2.2.1 = 0 ∧ s.2.2.2.2.2.2 = 0 then 1 else 0) := by
  unfold mX10_isUnderWay
  rw [md_g5, md_g6]
  grind
theorem c_turn {v : Int32} (h2 : 0 ≤ r 2 ∧ r 2 ≤ 9) (h4 : 0 ≤ s.2.2.1 ∧ s.2.2.1 ≤ 9) (h : 0 ≤ s.2.2.2.1 ∧ s.2.2.2.1 ≤ 9999) (hv : (-1 : Int32) ≤ v ∧ v ≤ 2) : mX4_turnAway j (md C j r k s) k v = some (md C j r k (turnS (r 2) v s)) := by
  unfold mX4_turnAway mX4_turnAway_b53 turnS
  dsimp only
  rw [md_g2, md_e2]
  by_cases c1 : r 2 < s.2.2.1
  · rw [if_pos c1, if_pos c1, md_s2, md_g2]
    have e : (if (if (r 2) < (s.2.2.1 + v) then (s.2.2.1 + v) else (r 2)) < (9 : Int32) then (if (r 2) < (s.2.2.1 + v) then (s.2.2.1 + v) else (r 2)) else (9 : Int32)) = heldS (s.2.2.1 + v) (r 2) (9 : Int32) := by unfold heldS; grind
    rw [e]
    dsimp only
    by_cases c2 : heldS (s.2.2.1 + v) (r 2) (9 : Int32) = s.2.2.1
    · rw [if_pos c2, if_pos c2]
    · rw [if_neg c2, if_neg c2, c_pay (s := (s.1, s.2.1, heldS (s.2.2.1 + v) (r 2) (9 : Int32), s.2.2.2)) h]
      rfl
  · rw [if_neg c1, if_neg c1, md_s2, md_g2]
    have e : (if (0 : Int32) < (if (s.2.2.1 - v) < (r 2) then (s.2.2.1 - v) else (r 2)) then (if (s.2.2.1 - v) < (r 2) then (s.2.2.1 - v) else (r 2)) else (0 : Int32)) = heldS (s.2.2.1 - v) 0 (r 2) := by unfold heldS; grind
    rw [e]
    dsimp only
    by_cases c2 : heldS (s.2.2.1 - v) 0 (r 2) = s.2.2.1
    · rw [if_pos c2, if_pos c2]
    · rw [if_neg c2, if_neg c2, c_pay (s := (s.1, s.2.1, heldS (s.2.2.1 - v) 0 (r 2), s.2.2.2)) h]
      rfl
end CLS1
theorem payS_ok {s : Shp} (h : SOk s) : SOk (payS s) := by
  unfold SOk payS costS heldS at *
  grind
theorem turnS_ok {tr v : Int32} {s : Shp} (h : SOk s) (h2 : 0 ≤ tr ∧ tr ≤ 9) (hv : (-1 : Int32) ≤ v ∧ v ≤ 2) : SOk (turnS tr v s) := by
  unfold turnS
  dsimp only
  have e : ∀ x : Int32, 0 ≤ x ∧ x ≤ 9 → SOk (s.1, s.2.1, x, s.2.2.2) := by
    intro x hx
    unfold SOk at *
    grind
  have e2 : 0 ≤ (if tr < s.2.2.1 then heldS (s.2.2.1 + v) tr (9 : Int32) else heldS (s.2.2.1 - v) 0 tr) ∧ (if tr < s.2.2.1 then heldS (s.2.2.1 + v) tr (9 : Int32) else heldS (s.2.2.1 - v) 0 tr) ≤ 9 := by
    have h3 : 0 ≤ s.2.2.1 ∧ s.2.2.1 ≤ 9 := h.2.2.1
    clear e h
    generalize s.2.2.1 = x at h3 ⊢
    unfold heldS
    grind
  generalize (if tr < s.2.2.1 then heldS (s.2.2.1 + v) tr (9 : Int32) else heldS (s.2.2.1 - v) 0 tr) = x at e2 ⊢
  split
  · exact e _ e2
  · exact payS_ok (e _ e2)
theorem turnS_lb (tr v : Int32) (s : Shp) : (turnS tr v s).2.2.2.2.2.1 = s.2.2.2.2.2.1 ∧ (turnS tr v s).2.2.2.2.2.2 = s.2.2.2.2.2.2 := by
  unfold turnS payS; dsimp only; split <;> split <;> exact ⟨rfl, rfl⟩
theorem stepS_ok {tc tr : Int32} {s : Shp} (h : SOk s) (h1 : 0 ≤ tc ∧ tc ≤ 19) (h2 : 0 ≤ tr ∧ tr ≤ 9) (hl : s.2.2.2.2.2.1 = 0) (hb : s.2.2.2.2.2.2 = 0) : SOk (stepS tc tr s) := by
  have hc : s.2.1 ≤ 19 := h.2.2.2.2.2.2.2 hl hb
  have hd := dS_rng (c := s.2.1 + (1 : Int32)) (r := s.2.2.1) h1 h2 (by unfold SOk at h; grind) h.2.2.1
  unfold stepS
  split
  · unfold SOk at *
    grind
  · unfold SOk at *
    generalize dS tc tr (s.2.1 + (1 : Int32)) s.2.2.1 = d at *
    dsimp only
    refine ⟨h.1, by grind, h.2.2.1, h.2.2.2.1, by grind, ?_, h.2.2.2.2.2.2.1, by grind⟩
    unfold b01
    split
    · exact Or.inr rfl
    · exact Or.inl rfl
theorem lb0 {s : Shp} (h : SOk s) : s.2.2.2.2.2.1 + s.2.2.2.2.2.2 = 0 ↔ (s.2.2.2.2.2.1 = 0 ∧ s.2.2.2.2.2.2 = 0) := by
  unfold SOk b01 at h
  grind
theorem goS_ok {tc tr : Int32} (h1 : 0 ≤ tc ∧ tc ≤ 19) (h2 : 0 ≤ tr ∧ tr ≤ 9) : ∀ (p : Nat) (s : Shp), SOk s → SOk (goS tc tr p s) := by
  intro p
  induction p with
  | zero => intro s h; exact h
  | succ p ih =>
    intro s h
    rw [goS]
    split
    · rename_i c
      exact ih _ (stepS_ok h h1 h2 ((lb0 h).mp c).1 ((lb0 h).mp c).2)
    · exact h
theorem hourS_ok {tc tr lamp R hd : Int32} {s : Shp} (h : SOk s) (h1 : 0 ≤ tc ∧ tc ≤ 19) (h2 : 0 ≤ tr ∧ tr ≤ 9) : SOk (hourS tc tr lamp R hd s) := by
  unfold hourS
  dsimp only
  split
  · split
    · exact payS_ok h
    · exact goS_ok h1 h2 _ _ (turnS_ok h h2 (keepS_rng _ _))
  · exact goS_ok h1 h2 _ _ h
section CLS2
variable {C : Mem} {j : Nat} {r : Nat → Int32} {k : Nat}
theorem c_adv (h1 : 0 ≤ r 1 ∧ r 1 ≤ 19) (h2 : 0 ≤ r 2 ∧ r 2 ≤ 9) (N : Nat) : ∀ (p n q : Nat) (s : Shp), p < n → p + q ≤ 3 → SOk s → mX4_advance_b2 N j n (md C j r k s) k (nI (p + q)) (nI q) = some (md C j r k (goS (r 1) (r 2) p s)) := by
  intro p
  induction p with
  | zero =>
    intro n q s hn hq h
    obtain ⟨n, rfl⟩ : ∃ z, n = z + 1 := ⟨n - 1, by omega⟩
    rw [mX4_advance_b2, if_pos (nI_le (by omega) (by omega))]
    rfl
  | succ p ih =>
    intro n q s hn hq h
    obtain ⟨n, rfl⟩ : ∃ z, n = z + 1 := ⟨n - 1, by omega⟩
    rw [mX4_advance_b2, if_neg (nI_ge (by omega) (by omega)), c_under, goS]
    simp only [Option.bind_some, md_g1, md_s1]
    by_cases c1 : s.2.2.2.2.2.1 = 0 ∧ s.2.2.2.2.2.2 = 0
    · rw [if_pos c1, if_neg (by decide), if_pos ((lb0 h).mpr c1)]
      have hs := stepS_ok h h1 h2 c1.1 c1.2
      have hc : s.2.1 ≤ 19 := h.2.2.2.2.2.2.2 c1.1 c1.2
      have h3 : 0 ≤ s.2.1 + (1 : Int32) ∧ s.2.1 + (1 : Int32) ≤ 20 := by unfold SOk at h; grind
      have e1 : nI q + (1 : Int32) = nI (q + 1) := nI_1 q
      have e2 : p + 1 + q = p + (q + 1) := by omega
      rw [e1, e2]
      unfold stepS at hs ⊢
      by_cases c2 : s.2.1 + (1 : Int32) = (20 : Int32)
      · rw [if_neg (by grind), if_pos c2]
        rw [if_pos c2] at hs
        simp only [md_s6]
        exact ih n (q + 1) _ (by omega) (by omega) hs
      · rw [if_pos (by grind), if_neg c2]
        rw [if_neg c2] at hs
        rw [c_dist (s := (s.1, s.2.1 + (1 : Int32), s.2.2)) h1 h2 h3 h.2.2.1]
        simp only [Option.bind_some, md_g4, md_s4]
        have e3 : (if dS (r 1) (r 2) (s.2.1 + (1 : Int32)) s.2.2.1 < s.2.2.2.2.1 then dS (r 1) (r 2) (s.2.1 + (1 : Int32)) s.2.2.1 else s.2.2.2.2.1) = (if s.2.2.2.2.1 ≤ dS (r 1) (r 2) (s.2.1 + (1 : Int32)) s.2.2.1 then s.2.2.2.2.1 else dS (r 1) (r 2) (s.2.1 + (1 : Int32)) s.2.2.1) := by
          generalize dS (r 1) (r 2) (s.2.1 + (1 : Int32)) s.2.2.1 = d
          grind
        rw [e3]
        by_cases c4 : dS (r 1) (r 2) (s.2.1 + (1 : Int32)) s.2.2.1 = 0
        · rw [if_pos c4] at hs ⊢
          simp only [md_s5]
          rw [if_pos c4]
          exact ih n (q + 1) _ (by omega) (by omega) hs
        · rw [if_neg c4] at hs ⊢
          simp only [md_s5]
          rw [if_neg c4]
          exact ih n (q + 1) _ (by omega) (by omega) hs
    · rw [if_neg c1, if_pos rfl, if_neg (fun z => c1 ((lb0 h).mp z))]
theorem c_advance (h1 : 0 ≤ r 1 ∧ r 1 ≤ 19) (h2 : 0 ≤ r 2 ∧ r 2 ≤ 9) {N : Nat} (hN : 4 ≤ N) {s : Shp} (h : SOk s) (x hd n : Int32) : mX4_advance N j (md C j r k s) k (speedS x hd n) = some (md C j r k (goS (r 1) (r 2) (speedS x hd n).toNatClampNeg s)) := by
  unfold mX4_advance
  obtain ⟨p, hp, e⟩ := speedS_nI x hd n
  rw [e, nI_clamp (by omega)]
  exact c_adv h1 h2 N p N 0 s (by omega) (by omega) h
theorem c_night (hd : Int32) : mX4_isNightAt hd = some (nightS hd) := by unfold mX4_isNightAt nightS; exact if_some
theorem c_burn (s : Shp) (hd : Int32) : mX4_burnsAt j (md C j r k s) hd = some (burnS (r 3) hd) := by unfold mX4_burnsAt burnS; rw [md_e3]; exact if_some
theorem c_hour (he : EOk (r 1) (r 2) (r 4)) {N : Nat} (hN : 4 ≤ N) {s : Shp} (h : SOk s) (hd : Int32) : mX4_passHour N j (md C j r k s) k hd = some (md C j r k (hourS (r 1) (r 2) (r 3) (r 4) hd s)) := by
  obtain ⟨h1, h2, h4⟩ := he
  unfold mX4_passHour
  simp only [c_dist h1 h2 h.2.1 h.2.2.1, c_night, c_burn, Option.bind_some, md_g0, md_g1, md_g3, md_e1, md_e4, v_sees h.1.1 h.1.2, v_speed h.1.1 h.1.2, v_stand h.1.1 h.1.2, v_keep h.1.1 h.1.2, c_advance h1 h2 hN h, c_pay h.2.2.2.1, c_turn h2 h.2.2.1 h.2.2.2.1 (keepS_rng _ _), c_advance h1 h2 hN (turnS_ok h h2 (keepS_rng _ _))]
  unfold hourS
  dsimp only
  grind
end CLS2
