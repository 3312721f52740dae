/-! ===== PURE 7: keeping and trying ===== -/
def mvq (q : Nat) (f g : Nat → Int32) : Nat → Int32 := fun i => if i < q then g i else f i
theorem mvq_in {q i : Nat} {f g : Nat → Int32} (h : i < q) : mvq q f g i = g i := if_pos h
theorem mvq_out {q i : Nat} {f g : Nat → Int32} (h : q ≤ i) : mvq q f g i = f i := if_neg (by omega)
theorem mvq_s (q : Nat) (f g : Nat → Int32) : upd (mvq q f g) q (g q) = mvq (q + 1) f g := by
  funext i; unfold upd mvq; grind
theorem mvq_0 (f g : Nat → Int32) : mvq 0 f g = f := by funext i; unfold mvq; grind
theorem m_move1_b {D : Mem} {rg N : Nat} (hr : rg ≠ 0) : ∀ (p n q : Nat), p < n → p + q = 48 → mX12_moveAll_b2 N rg n (sR D rg (mvq q (D.1 rg) (D.1 0))) (1 : Int32) (nI q) = some (sR D rg (mvq 48 (D.1 rg) (D.1 0))) := by
  intro p
  induction p with
  | zero =>
    intro n q hn hq
    obtain ⟨n, rfl⟩ : ∃ z, n = z + 1 := ⟨n - 1, by omega⟩
    have e : q = 48 := by omega
    subst e
    rw [mX12_moveAll_b2, if_pos (by decide)]
  | succ p ih =>
    intro n q hn hq
    obtain ⟨n, rfl⟩ : ∃ z, n = z + 1 := ⟨n - 1, by omega⟩
    rw [mX12_moveAll_b2, if_neg (show ¬ (48 : Int32) ≤ nI q from nI_ge (b := 48) (by omega) (by decide)), if_neg (by decide), if_pos (show ok (nI q) 48 from vp_in_nI (by omega) (by decide)), if_pos (show ok (nI q) 48 from vp_in_nI (by omega) (by decide)), nI_clamp (by omega), nI_1, sI_sR, sR_s, sR_sR, sR_o (fun z => hr z.symm), mvq_s]
    exact ih n (q + 1) (by omega) (by omega)
theorem m_move1 {D : Mem} {rg N : Nat} (hr : rg ≠ 0) (hN : 300 ≤ N) : mX12_moveAll N rg D (1 : Int32) = some (sR D rg (mvq 48 (D.1 rg) (D.1 0))) := by
  unfold mX12_moveAll
  have h := m_move1_b (D := D) (N := N) hr 48 N 0 (by omega) (by omega)
  rw [mvq_0, sR_self] at h
  exact h
theorem m_move0_b {D : Mem} {rg N : Nat} (hr : rg ≠ 0) : ∀ (p n q : Nat), p < n → p + q = 48 → mX12_moveAll_b2 N rg n (sR D 0 (mvq q (D.1 0) (D.1 rg))) (0 : Int32) (nI q) = some (sR D 0 (mvq 48 (D.1 0) (D.1 rg))) := by
  intro p
  induction p with
  | zero =>
    intro n q hn hq
    obtain ⟨n, rfl⟩ : ∃ z, n = z + 1 := ⟨n - 1, by omega⟩
    have e : q = 48 := by omega
    subst e
    rw [mX12_moveAll_b2, if_pos (by decide)]
  | succ p ih =>
    intro n q hn hq
    obtain ⟨n, rfl⟩ : ∃ z, n = z + 1 := ⟨n - 1, by omega⟩
    rw [mX12_moveAll_b2, if_neg (show ¬ (48 : Int32) ≤ nI q from nI_ge (b := 48) (by omega) (by decide)), if_pos rfl, if_pos (show ok (nI q) 48 from vp_in_nI (by omega) (by decide)), if_pos (show ok (nI q) 48 from vp_in_nI (by omega) (by decide)), nI_clamp (by omega), nI_1, sI_sR, sR_s, sR_sR, sR_o hr, mvq_s]
    exact ih n (q + 1) (by omega) (by omega)
theorem m_move0 {D : Mem} {rg N : Nat} (hr : rg ≠ 0) (hN : 300 ≤ N) : mX12_moveAll N rg D (0 : Int32) = some (sR D 0 (mvq 48 (D.1 0) (D.1 rg))) := by
  unfold mX12_moveAll
  have h := m_move0_b (D := D) (N := N) hr 48 N 0 (by omega) (by omega)
  rw [mvq_0, sR_self] at h
  exact h
/-- the model while it tries: region 2 holds what was, region 0 is as it was -/
def Lk (D E : Mem) : Prop := ∃ B : Nat → Int32, E = sR (sR D 2 (mvq 48 (D.1 2) (D.1 0))) 0 B ∧ ∀ i, i < 48 → B i = D.1 0 i
theorem lk_start {D : Mem} {N : Nat} (hN : 300 ≤ N) : ∃ E, mX12_moveAll N 2 D (1 : Int32) = some E ∧ Lk D E := by
  refine ⟨_, m_move1 (by decide) hN, D.1 0, ?_, fun _ _ => rfl⟩
  exact (sR_self (sR D 2 (mvq 48 (D.1 2) (D.1 0))) 0).symm
theorem lk_back {D E : Mem} {N : Nat} (hN : 300 ≤ N) (h : Lk D E) (X : Nat → Int32) : ∃ E2, mX12_moveAll N 2 (sR E 0 X) (0 : Int32) = some E2 ∧ Lk D E2 := by
  obtain ⟨B, rfl, hB⟩ := h
  refine ⟨_, m_move0 (by decide) hN, mvq 48 X (mvq 48 (D.1 2) (D.1 0)), ?_, fun i hi => by rw [mvq_in hi, mvq_in hi]⟩
  rw [sR_s, sR_sR, sR_sR]
  rfl
theorem sea_cong {m : Nat} {d d2 : Nat → Int32} (hm : m ≤ 6) (h : ∀ i, i < 48 → d2 i = d i) : SeaEq m d d2 := by
  refine ⟨fun i hi => (h i (by omega)).symm, fun k hk => ?_⟩
  unfold shp
  rw [h _ (by omega), h _ (by omega), h _ (by omega), h _ (by omega), h _ (by omega), h _ (by omega), h _ (by omega)]
theorem Sea2.cong {c d d2 : Nat → Int32} (hs : Sea2 c d) (h : ∀ i, i < 48 → d2 i = d i) : Sea2 c d2 := by
  obtain ⟨m, ho, he, hl⟩ := hs
  have e := sea_cong ho.2.1 h
  refine ⟨m, ho.eq e, e.symm.trans he, ?_⟩
  obtain ⟨l, h1, h2⟩ := hl
  exact ⟨l, h1, by rw [h 3 (by decide)]; exact h2⟩
theorem lk_rel {C D E : Mem} (h : Rel C D) (hl : Lk D E) : Rel C E := by
  obtain ⟨B, rfl, hB⟩ := hl
  exact ⟨h.1.cong hB, h.2⟩
theorem lk_eq {D E : Mem} {m : Nat} (hm : m ≤ 6) (hl : Lk D E) : SeaEq m (D.1 0) (E.1 0) := by
  obtain ⟨B, rfl, hB⟩ := hl
  exact sea_cong hm hB
theorem tr_rel {C D : Mem} (h : Rel C D) (f : Nat → Int32) : Rel (sR C 2 f) D := h
/-! the class: become -/
theorem md_o {M : Mem} {j j2 k : Nat} {r : Nat → Int32} {s : Shp} (h : j2 ≠ j) : (md M j r k s).1 j2 = M.1 j2 := by unfold md; exact sR_o h
theorem c_vbec {C : Mem} {j j1 i i1 : Nat} (hj : j1 ≠ j) (h5 : b01 (C.1 j1 (6 + 7 * i1 + 5))) (h6 : b01 (C.1 j1 (6 + 7 * i1 + 6))) : mX10_become j i C j1 i1 = some (sR C j (putS (C.1 j) i (shp (C.1 j1) i1))) := by
  unfold mX10_become
  have hC : C = md C j (C.1 j) i (shp (C.1 j) i) := (md_self C j i).symm
  generalize hS : shp (C.1 j) i = s at hC
  simp only [Option.bind_some]
  have o : ∀ (s : Shp), (md C j (C.1 j) i s).1 j1 = C.1 j1 := fun s => md_o hj
  have e0 : sI C j (6 + 7 * i + 0) (C.1 j1 (6 + 7 * i1 + 0)) = md C j (C.1 j) i (C.1 j1 (6 + 7 * i1 + 0), s.2) := by
    conv => lhs; rw [hC]
    rw [md_s0, o]
  rw [e0]
  simp only [md_s1, md_s2, md_s3, md_s4, md_s5, md_s6, o]
  rw [if_pos h5, if_pos h6]
  rfl
def emR (f g : Nat → Int32) : Nat → Int32 := upd (mvq 5 f g) 5 0
theorem c_emptied {C : Mem} {j j1 : Nat} (hj : j1 ≠ j) : mX4_becomeEmptied j C j1 = some (sR C j (emR (C.1 j) (C.1 j1))) := by
  unfold mX4_becomeEmptied emR
  simp only [Option.bind_some, sI_sR, sR_s, sR_sR, sR_o hj]
  congr 2
  funext i
  unfold upd mvq
  grind
theorem c_become_b {C : Mem} {j j1 m N : Nat} (hj : j1 ≠ j) (ho : SeaOk m (C.1 j1)) : ∀ (p n q : Nat), p < n → p + q = m →
    mX4_become_b7 N j n (sR C j (upd (mvq (6 + 7 * q) (C.1 j) (C.1 j1)) 5 0)) j1 (nI q) = some (sR C j (mvq (6 + 7 * m) (C.1 j) (C.1 j1))) := by
  obtain ⟨hr, hm, -, hs⟩ := ho
  intro p
  induction p with
  | zero =>
    intro n q hn hq
    obtain ⟨n, rfl⟩ : ∃ z, n = z + 1 := ⟨n - 1, by omega⟩
    have e : q = m := by omega
    subst e
    rw [mX4_become_b7, sR_o hj, hr, if_pos (nI_le (Nat.le_refl _) (by omega)), sI_sR, sR_s, sR_sR]
    congr 2
    funext i
    unfold upd mvq
    by_cases h5 : i = 5
    · subst h5; rw [if_pos rfl, if_pos (by omega), hr]
    · rw [if_neg h5, if_neg h5]
  | succ p ih =>
    intro n q hn hq
    obtain ⟨n, rfl⟩ : ∃ z, n = z + 1 := ⟨n - 1, by omega⟩
    have hq6 : q < 6 := by omega
    have h5 := (hs q (by omega)).2.2.2.2.2.1
    have h6 := (hs q (by omega)).2.2.2.2.2.2.1
    rw [mX4_become_b7, sR_o hj, hr, if_neg (nI_ge (by omega) (by omega)), if_neg (show ¬ (6 : Int32) ≤ nI q from nI_ge (b := 6) hq6 (by decide)), if_pos (show ok (nI q) 6 from vp_in_nI hq6 (by decide)), if_pos (show ok (nI q) 6 from vp_in_nI hq6 (by decide)), nI_clamp (by omega), nI_1, c_vbec hj (by rw [sR_o hj]; exact h5) (by rw [sR_o hj]; exact h6)]
    simp only [Option.bind_some, sR_s, sR_sR, sR_o hj]
    have e : putS (upd (mvq (6 + 7 * q) (C.1 j) (C.1 j1)) 5 0) q (shp (C.1 j1) q) = upd (mvq (6 + 7 * (q + 1)) (C.1 j) (C.1 j1)) 5 0 := by
      funext i
      by_cases hi : 6 + 7 * q ≤ i ∧ i < 6 + 7 * q + 7
      · rw [upd_o (by omega), mvq_in (by omega)]
        have : i = 6 + 7 * q + 0 ∨ i = 6 + 7 * q + 1 ∨ i = 6 + 7 * q + 2 ∨ i = 6 + 7 * q + 3 ∨ i = 6 + 7 * q + 4 ∨ i = 6 + 7 * q + 5 ∨ i = 6 + 7 * q + 6 := by omega
        rcases this with rfl | rfl | rfl | rfl | rfl | rfl | rfl
        · rw [putS_g0]; rfl
        · rw [putS_g1]; rfl
        · rw [putS_g2]; rfl
        · rw [putS_g3]; rfl
        · rw [putS_g4]; rfl
        · rw [putS_g5]; rfl
        · rw [putS_g6]; rfl
      · rw [putS_out (by omega)]
        unfold upd mvq
        grind
    rw [e]
    exact ih n (q + 1) (by omega) (by omega)
theorem c_become {C : Mem} {j j1 m N : Nat} (hj : j1 ≠ j) (ho : SeaOk m (C.1 j1)) (hN : 300 ≤ N) : mX4_become N j C j1 = some (sR C j (mvq (6 + 7 * m) (C.1 j) (C.1 j1))) := by
  unfold mX4_become
  rw [c_emptied hj]
  simp only [Option.bind_some]
  have h := c_become_b (C := C) (N := N) hj ho m N 0 (by have := ho.2.1; omega) (by omega)
  have e : sR C j (upd (mvq (6 + 7 * 0) (C.1 j) (C.1 j1)) 5 0) = sR C j (emR (C.1 j) (C.1 j1)) := by
    congr 1
    funext i
    unfold emR upd mvq
    grind
  rw [← e]
  exact h
theorem mvq_eq {m : Nat} {f g : Nat → Int32} : SeaEq m g (mvq (6 + 7 * m) f g) := by
  refine ⟨fun i hi => by rw [mvq_in (by omega)], fun k hk => ?_⟩
  unfold shp
  rw [mvq_in (by omega), mvq_in (by omega), mvq_in (by omega), mvq_in (by omega), mvq_in (by omega), mvq_in (by omega), mvq_in (by omega)]
def oneR (f g : Nat → Int32) (s : Shp) : Nat → Int32 := upd (putS (emR f g) 0 s) 5 1
theorem oneR_e {f g : Nat → Int32} {s : Shp} {i : Nat} (hi : i < 5) : oneR f g s i = g i := by
  unfold oneR emR
  rw [upd_o (by omega), putS_out (by omega), upd_o (by omega), mvq_in hi]
theorem oneR_5 (f g : Nat → Int32) (s : Shp) : oneR f g s 5 = nI 1 := upd_s _ _ _
theorem oneR_s (f g : Nat → Int32) (s : Shp) : shp (oneR f g s) 0 = s := by
  unfold oneR
  rw [shp_upd (by decide), shp_putS]
theorem oneR_ok {f g : Nat → Int32} {s : Shp} {m : Nat} (ho : SeaOk m g) (hs : SOk s) : SeaOk 1 (oneR f g s) := by
  refine ⟨oneR_5 _ _ _, by decide, ?_, fun k hk => ?_⟩
  · rw [oneR_e (by decide), oneR_e (by decide), oneR_e (by decide)]; exact ho.2.2.1
  · have : k = 0 := by omega
    subst this
    rw [oneR_s]; exact hs
theorem c_alone {C : Mem} {m k : Nat} (ho : SeaOk m (C.1 0)) (hk : k < m) : mX11_tryAlone C (nI k) = some (sR C 2 (oneR (C.1 2) (C.1 0) (shp (C.1 0) k))) := by
  have hm := ho.2.1
  unfold mX11_tryAlone mX4_becomeWithOne
  rw [c_emptied (by decide)]
  simp only [Option.bind_some]
  have h5 := (ho.2.2.2 k hk).2.2.2.2.2.1
  have h6 := (ho.2.2.2 k hk).2.2.2.2.2.2.1
  rw [if_neg (nI_pos (by omega)), sR_o (by decide), ho.1, if_neg (nI_ge hk (by omega)), if_pos (show ok (nI k) 6 from vp_in_nI (by omega) (by decide)), nI_clamp (by omega), c_vbec (by decide) (by rw [sR_o (by decide)]; exact h5) (by rw [sR_o (by decide)]; exact h6)]
  simp only [Option.bind_some, sI_sR, sR_s, sR_sR, sR_o (show (0 : Nat) ≠ 2 by decide)]
  rfl
/-! image, undo -/
theorem op_image {C D : Mem} (h : Rel C D) {N : Nat} (hN : 300 ≤ N) : Both (mX11_image N C) (mX12_image N D) := by
  obtain ⟨m, ho, hc, he, hl, rd, rc, hm⟩ := h.1.get
  unfold mX11_image mX12_image
  rw [c_become (by decide) hc hN, m_move1 (by decide) hN]
  simp only [Option.bind_some]
  refine ⟨_, _, _, rfl, rfl, ⟨h.1, ⟨rfl, Or.inr rfl, fun _ => ?_⟩, h.2.2⟩⟩
  show Sea2 (mvq (6 + 7 * m) (C.1 1) (C.1 0)) (mvq 48 (D.1 7) (D.1 0))
  have e1 : SeaEq m (D.1 0) (mvq 48 (D.1 7) (D.1 0)) := sea_cong hm (fun i hi => mvq_in hi)
  refine ⟨m, ho.eq e1, e1.symm.trans (he.trans mvq_eq), ?_⟩
  obtain ⟨l, h1, h2⟩ := hl
  exact ⟨l, h1, by rw [mvq_in (by decide)]; exact h2⟩
theorem op_undo {C D : Mem} (h : Rel C D) {N : Nat} (hN : 300 ≤ N) : Both (mX11_undo N C) (mX12_undo N D) := by
  obtain ⟨e1, e2, e3⟩ := h.2.1
  unfold mX11_undo mX12_undo
  rw [e1]
  by_cases c : D.1 9 18 = 0
  · rw [if_pos c, if_pos c]; exact bF3 h
  rw [if_neg c, if_neg c]
  have c1 : D.1 9 18 = 1 := e2.resolve_left c
  obtain ⟨m, ho, hc, he, hl, rd, rc, hm⟩ := (e3 c1).get
  rw [c_become (by decide) hc hN, m_move0 (by decide) hN]
  simp only [Option.bind_some, sR_s]
  have q1 : SeaEq m (D.1 7) (mvq 48 (D.1 0) (D.1 7)) := sea_cong hm (fun i hi => mvq_in hi)
  refine ⟨nI m, sR C 0 (mvq (6 + 7 * m) (C.1 0) (C.1 1)), sR D 0 (mvq 48 (D.1 0) (D.1 7)), by rw [mvq_in (by omega), rc], by rw [mvq_in (by decide), rd], ⟨?_, h.2⟩⟩
  show Sea2 (mvq (6 + 7 * m) (C.1 0) (C.1 1)) (mvq 48 (D.1 0) (D.1 7))
  refine ⟨m, ho.eq q1, q1.symm.trans (he.trans mvq_eq), ?_⟩
  obtain ⟨l, h1, h2⟩ := hl
  exact ⟨l, h1, by rw [mvq_in (by decide)]; exact h2⟩
