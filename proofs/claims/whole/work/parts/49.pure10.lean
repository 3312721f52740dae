/-! ===== PURE 10: the best row and kind ===== -/
section BEST
variable {w : Nat} {P : Shp → Int32 → Shp}
theorem oneR_u (hP : ∀ (r : Nat → Int32) (k : Nat) (s : Shp) (v : Int32), upd (putS r k s) (6 + 7 * k + w) v = putS r k (P s v)) (f g : Nat → Int32) (s : Shp) (v : Int32) : upd (oneR f g s) (6 + 7 * 0 + w) v = oneR f g (P s v) := by
  unfold oneR
  rw [← hP]
  funext i
  unfold upd
  grind
theorem shp_u (hP : ∀ (r : Nat → Int32) (k : Nat) (s : Shp) (v : Int32), upd (putS r k s) (6 + 7 * k + w) v = putS r k (P s v)) (r : Nat → Int32) (k : Nat) (v : Int32) : shp (upd r (6 + 7 * k + w) v) k = P (shp r k) v := by
  have e : upd r (6 + 7 * k + w) v = putS r k (P (shp r k) v) := by rw [← hP, putS_shp]
  rw [e, shp_putS]
def fBy (c : Nat → Int32) (s : Shp) : Nat := fB (c 1) (c 2) (c 3) (c 4) (fun s => s.2.2.2.2.2.2) 100 (c 0) s
theorem fBy_le (c : Nat → Int32) (s : Shp) : fBy c s ≤ 101 := fB_le _ _ _ _ _ _ _ _
theorem c_try (hP : ∀ (r : Nat → Int32) (k : Nat) (s : Shp) (v : Int32), upd (putS r k s) (6 + 7 * k + w) v = putS r k (P s v)) {C : Mem} {N m : Nat} (hN : 300 ≤ N) (hc : SeaOk m (C.1 0)) (f : Nat → Int32) {s : Shp} {v : Int32} (hs : SOk (P s v)) : ∃ f2, mX11_hoursUntilBy N (sI (sR C 2 (oneR f (C.1 0) s)) 2 (6 + 7 * 0 + w) v) = some (nI (fBy (C.1 0) (P s v)), sR C 2 f2) := by
  rw [sI_sR, sR_s, sR_sR, oneR_u hP]
  obtain ⟨f2, k1⟩ := c_untilBy (C := C) hN (oneR_ok (f := f) hc hs)
  rw [oneR_s, oneR_e (by decide), oneR_e (by decide), oneR_e (by decide), oneR_e (by decide), oneR_e (by decide)] at k1
  exact ⟨f2, k1⟩
theorem m_try (hP : ∀ (r : Nat → Int32) (k : Nat) (s : Shp) (v : Int32), upd (putS r k s) (6 + 7 * k + w) v = putS r k (P s v)) {C D E : Mem} {N m k : Nat} (hN : 300 ≤ N) (hm : m ≤ 6) (hk : k < m) (he : SeaEq m (D.1 0) (C.1 0)) (rd : D.1 0 5 = nI m) (hlk : Lk D E) (v : Int32) : ∃ E2, mX12_soonest N (sI E 0 (6 + 7 * k + w) v) (nI k) (6 : Int32) = some (nI (fBy (C.1 0) (P (shp (C.1 0) k) v)), E2) ∧ Lk D E2 := by
  have eE : SeaEq m (D.1 0) (E.1 0) := lk_eq hm hlk
  have rE : upd (E.1 0) (6 + 7 * k + w) v 5 = nI m := by rw [upd_o (by omega), ← eE.1 5 (by decide)]; exact rd
  obtain ⟨E2, s1, s2⟩ := m_soon hm hk (w := 6) (by decide) hN hlk (fun s => s.2.2.2.2.2.2) (fun r => rfl) (upd (E.1 0) (6 + 7 * k + w) v) rE
  rw [shp_u hP, upd_o (by omega), upd_o (by omega), upd_o (by omega), upd_o (by omega), upd_o (by omega), ← eE.2 k hk, he.2 k hk, ← eE.1 0 (by decide), ← eE.1 1 (by decide), ← eE.1 2 (by decide), ← eE.1 3 (by decide), ← eE.1 4 (by decide), he.1 0 (by decide), he.1 1 (by decide), he.1 2 (by decide), he.1 3 (by decide), he.1 4 (by decide)] at s1
  exact ⟨E2, s1, s2⟩
end BEST
def Bst (a b : Int32) : Prop := (a = (-1000000004 : Int32) ∧ b = (-1 : Int32)) ∨ ∃ j : Nat, j < 10 ∧ a = nI j ∧ b = nI j
theorem Bst.end {a b : Int32} (h : Bst a b) {C D : Mem} (hr : Rel C D) : Both (if a = (-1000000004 : Int32) then ((mX11_found C (-1000000004 : Int32)).bind fun q6 => some (q6.1, q6.2)) else some (a, C)) (if 0 ≤ b then some (b, D) else ((mX12_finds D (-1000000004 : Int32)).bind fun q13 => some (q13.1, q13.2))) := by
  rcases h with ⟨rfl, rfl⟩ | ⟨j, hj, rfl, rfl⟩
  · rw [if_pos rfl, if_neg (by decide)]; exact bF3 hr
  · rw [if_neg (show ¬ nI j = (-1000000004 : Int32) from fun z => by have := nI_pos' (n := j) (by omega); rw [z] at this; exact absurd this (by decide)), if_pos (nI_pos' (by omega))]
    exact ⟨_, _, _, rfl, rfl, hr⟩
theorem c_amiss {C : Mem} {m k : Nat} (hc : SeaOk m (C.1 0)) (hk : k < m) : mX11_amissUnderWay C (nI k) = some (if (shp (C.1 0) k).2.2.2.2.2.1 = 0 ∧ (shp (C.1 0) k).2.2.2.2.2.2 = 0 then 0 else (-1000000005 : Int32)) := by
  have hm := hc.2.1
  have u : mX10_isUnderWay 0 k C = some (if (shp (C.1 0) k).2.2.2.2.2.1 = 0 ∧ (shp (C.1 0) k).2.2.2.2.2.2 = 0 then 1 else 0) := by
    have e := md_self C 0 k
    have z := c_under (C := C) (j := 0) (k := k) (r := C.1 0) (s := shp (C.1 0) k)
    rw [e] at z
    exact z
  unfold mX11_amissUnderWay
  rw [c_isShip hc.1]
  simp only [Option.bind_some]
  have i1 : isS m (nI k) = 1 := by unfold isS; rw [if_neg (nI_pos (by omega)), if_neg (nI_ge hk (by omega))]
  rw [i1, if_neg (by decide), if_pos (show ok (nI k) 6 from vp_in_nI (by omega) (by decide)), nI_clamp (by omega), u]
  simp only [Option.bind_some]
  by_cases c : (shp (C.1 0) k).2.2.2.2.2.1 = 0 ∧ (shp (C.1 0) k).2.2.2.2.2.2 = 0
  · rw [if_pos c, if_neg (by decide), if_pos c]
  · rw [if_neg c, if_pos rfl, if_neg c]
theorem c_amiss0 {C : Mem} {m : Nat} {a : Int32} (rc : C.1 0 5 = nI m) (c1 : isS m a = 0) : mX11_amissUnderWay C a = some (-1000000001 : Int32) := by
  unfold mX11_amissUnderWay
  rw [c_isShip rc]
  simp only [Option.bind_some]
  rw [if_pos c1]
theorem lb1 {s : Shp} (h : SOk s) : (s.2.2.2.2.2.1 + s.2.2.2.2.2.2 ≤ 0) ↔ (s.2.2.2.2.2.1 = 0 ∧ s.2.2.2.2.2.2 = 0) := by
  have h5 := h.2.2.2.2.2.1
  have h6 := h.2.2.2.2.2.2.1
  generalize s.2.2.2.2.2.1 = x at h5
  generalize s.2.2.2.2.2.2 = y at h6
  rcases h5 with rfl | rfl <;> rcases h6 with rfl | rfl <;> decide
def wRow (s : Shp) (v : Int32) : Shp := (s.1, s.2.1, v, s.2.2.2)
def wKind (s : Shp) (v : Int32) : Shp := (v, s.2)
theorem row_b {C D : Mem} {N m k : Nat} (hN : 300 ≤ N) (h : Rel C D) (hc : SeaOk m (C.1 0)) (he : SeaEq m (D.1 0) (C.1 0)) (rd : D.1 0 5 = nI m) (hk : k < m) (hs : ∀ v : Nat, v ≤ 9 → SOk (wRow (shp (C.1 0) k) (nI v))) : ∀ (p n n2 q : Nat) (f : Nat → Int32) (E : Mem) (a b l : Int32), p < n → p < n2 → p + q = 10 → Lk D E → Bst a b →
    Both (mX11_row_b26 N n (sR C 2 f) (nI k) a l (nI q)) (mX12_bestOf_b58 N n2 E (nI k) (2 : Int32) (9 : Int32) b l (nI q)) := by
  have hm := hc.2.1
  intro p
  induction p with
  | zero =>
    intro n n2 q f E a b l hn hn2 hq hlk hb
    obtain ⟨n, rfl⟩ : ∃ z, n = z + 1 := ⟨n - 1, by omega⟩
    obtain ⟨n2, rfl⟩ : ∃ z, n2 = z + 1 := ⟨n2 - 1, by omega⟩
    have e : q = 10 := by omega
    subst e
    rw [mX11_row_b26, mX12_bestOf_b58, if_pos (show (9 : Int32) < nI 10 by decide), if_pos (show (9 : Int32) < nI 10 by decide)]
    exact hb.end (lk_rel (tr_rel h f) hlk)
  | succ p ih =>
    intro n n2 q f E a b l hn hn2 hq hlk hb
    obtain ⟨n, rfl⟩ : ∃ z, n = z + 1 := ⟨n - 1, by omega⟩
    obtain ⟨n2, rfl⟩ : ∃ z, n2 = z + 1 := ⟨n2 - 1, by omega⟩
    obtain ⟨f2, k1⟩ := c_try (w := 2) (P := wRow) putS_u2 (C := C) hN hc f (s := shp (C.1 0) k) (v := nI q) (hs q (by omega))
    obtain ⟨E2, s1, s2⟩ := m_try (w := 2) (P := wRow) putS_u2 (C := C) (D := D) (E := E) hN hm hk he rd hlk (nI q)
    have al := c_alone (C := sR C 2 f) (m := m) (k := k) (by rw [sR_o (by decide)]; exact hc) hk
    rw [sR_s, sR_sR, sR_o (by decide)] at al
    rw [mX11_row_b26, mX12_bestOf_b58, if_neg (show ¬ (9 : Int32) < nI q from nI_nlt (a := 9) (by omega) (by decide)), if_neg (show ¬ (9 : Int32) < nI q from nI_nlt (a := 9) (by omega) (by decide)), al, puts2 (by omega)]
    simp only [Option.bind_some]
    skip
    rw [k1, s1]
    simp only [Option.bind_some]
    unfold mX12_bestOf_b95
    rw [nI_1]
    generalize nI (fBy (C.1 0) (wRow (shp (C.1 0) k) (nI q))) = x
    by_cases c : l ≤ x
    · rw [if_pos c, if_pos c, if_pos c]
      exact ih n n2 (q + 1) f2 E2 a b l (by omega) (by omega) (by omega) s2 hb
    · rw [if_neg c, if_neg c, if_neg c]
      exact ih n n2 (q + 1) f2 E2 (nI q) (nI q) x (by omega) (by omega) (by omega) s2 (Or.inr ⟨q, by omega, rfl, rfl⟩)
theorem op_row {C D : Mem} (h : Rel C D) {N : Nat} (hN : 300 ≤ N) (a : Int32) : Both (mX11_row N C a) (mX12_row N D a) := by
  obtain ⟨m, ho, hc, he, hl, rd, rc, hm⟩ := h.1.get
  unfold mX11_row mX12_row mX12_bestOf
  simp only [m_isOne rd hm, Option.bind_some]
  by_cases c1 : isS m a = 0
  · rw [c_amiss0 rc c1, if_pos c1]
    simp only [Option.bind_some]
    rw [if_neg (by decide)]
    obtain ⟨r, C2, D2, g1, g2, g3⟩ := bF0 h
    exact ⟨r, C2, D2, g1, by rw [g2]; rfl, g3⟩
  rw [if_neg c1]
  obtain ⟨k, hk, rfl⟩ := isS_1 hm c1
  rw [c_amiss hc hk, its5 (by omega), its6 (by omega)]
  simp only [Option.bind_some]
  have hs := hc.2.2.2 k hk
  have l1 := lb1 hs
  have g := shp_g (he.2 k hk)
  rw [g.2.2.2.2.2.1, g.2.2.2.2.2.2]
  by_cases c : (shp (C.1 0) k).2.2.2.2.2.1 = 0 ∧ (shp (C.1 0) k).2.2.2.2.2.2 = 0
  · rw [if_pos c, if_pos rfl, if_pos (show C.1 0 (6 + 7 * k + 5) + C.1 0 (6 + 7 * k + 6) ≤ 0 from l1.mpr c)]
    obtain ⟨E, hE, hlk⟩ := lk_start (D := D) hN
    rw [hE]
    simp only [Option.bind_some]
    have z := row_b hN h hc he rd hk (fun v hv => by
      have v1 : 0 ≤ nI v := nI_pos' (by omega)
      have v2 : nI v ≤ (9 : Int32) := nI_le (b := 9) hv (by decide)
      obtain ⟨x1, x2, x3, x4⟩ := hs
      exact ⟨x1, x2, ⟨v1, v2⟩, x4⟩) 10 N N 0 (C.1 2) E (-1000000004) (-1) 101 (by omega) (by omega) (by omega) hlk (Or.inl ⟨rfl, rfl⟩)
    rw [sR_self] at z
    obtain ⟨r, C2, D2, g1, g2, g3⟩ := z
    exact ⟨r, C2, D2, g1, by rw [show mX12_bestOf_b58 N N E (nI k) (2 : Int32) (9 : Int32) (-1 : Int32) (101 : Int32) (0 : Int32) = _ from g2]; rfl, g3⟩
  · rw [if_neg c, if_neg (by decide), if_neg (show ¬ C.1 0 (6 + 7 * k + 5) + C.1 0 (6 + 7 * k + 6) ≤ 0 from fun z => c (l1.mp z))]
    obtain ⟨r, C2, D2, g1, g2, g3⟩ := bF4 h
    exact ⟨r, C2, D2, g1, by rw [g2]; rfl, g3⟩
theorem kind_b {C D : Mem} {N m k : Nat} (hN : 300 ≤ N) (h : Rel C D) (hc : SeaOk m (C.1 0)) (he : SeaEq m (D.1 0) (C.1 0)) (rd : D.1 0 5 = nI m) (hk : k < m) (hs : ∀ v : Nat, v ≤ 5 → SOk (wKind (shp (C.1 0) k) (nI v))) : ∀ (p n n2 q : Nat) (f : Nat → Int32) (E : Mem) (a b l : Int32), p < n → p < n2 → p + q = 6 → Lk D E → Bst a b →
    Both (mX11_kind_b26 N n (sR C 2 f) (nI k) a l (nI q)) (mX12_bestOf_b58 N n2 E (nI k) (0 : Int32) (5 : Int32) b l (nI q)) := by
  have hm := hc.2.1
  intro p
  induction p with
  | zero =>
    intro n n2 q f E a b l hn hn2 hq hlk hb
    obtain ⟨n, rfl⟩ : ∃ z, n = z + 1 := ⟨n - 1, by omega⟩
    obtain ⟨n2, rfl⟩ : ∃ z, n2 = z + 1 := ⟨n2 - 1, by omega⟩
    have e : q = 6 := by omega
    subst e
    rw [mX11_kind_b26, mX12_bestOf_b58, if_pos (show (5 : Int32) < nI 6 by decide), if_pos (show (5 : Int32) < nI 6 by decide)]
    exact hb.end (lk_rel (tr_rel h f) hlk)
  | succ p ih =>
    intro n n2 q f E a b l hn hn2 hq hlk hb
    obtain ⟨n, rfl⟩ : ∃ z, n = z + 1 := ⟨n - 1, by omega⟩
    obtain ⟨n2, rfl⟩ : ∃ z, n2 = z + 1 := ⟨n2 - 1, by omega⟩
    obtain ⟨f2, k1⟩ := c_try (w := 0) (P := wKind) putS_u0 (C := C) hN hc f (s := shp (C.1 0) k) (v := nI q) (hs q (by omega))
    obtain ⟨E2, s1, s2⟩ := m_try (w := 0) (P := wKind) putS_u0 (C := C) (D := D) (E := E) hN hm hk he rd hlk (nI q)
    have al := c_alone (C := sR C 2 f) (m := m) (k := k) (by rw [sR_o (by decide)]; exact hc) hk
    rw [sR_s, sR_sR, sR_o (by decide)] at al
    rw [mX11_kind_b26, mX12_bestOf_b58, if_neg (show ¬ (5 : Int32) < nI q from nI_nlt (a := 5) (by omega) (by decide)), if_neg (show ¬ (5 : Int32) < nI q from nI_nlt (a := 5) (by omega) (by decide)), al, puts0 (by omega)]
    simp only [Option.bind_some]
    rw [if_pos (show ok (nI q) 6 from vp_in_nI (by omega) (by decide))]
    rw [k1, s1]
    simp only [Option.bind_some]
    unfold mX12_bestOf_b95
    rw [nI_1]
    generalize nI (fBy (C.1 0) (wKind (shp (C.1 0) k) (nI q))) = x
    by_cases c : l ≤ x
    · rw [if_pos c, if_pos c, if_pos c]
      exact ih n n2 (q + 1) f2 E2 a b l (by omega) (by omega) (by omega) s2 hb
    · rw [if_neg c, if_neg c, if_neg c]
      exact ih n n2 (q + 1) f2 E2 (nI q) (nI q) x (by omega) (by omega) (by omega) s2 (Or.inr ⟨q, by omega, rfl, rfl⟩)
theorem op_kind {C D : Mem} (h : Rel C D) {N : Nat} (hN : 300 ≤ N) (a : Int32) : Both (mX11_kind N C a) (mX12_kind N D a) := by
  obtain ⟨m, ho, hc, he, hl, rd, rc, hm⟩ := h.1.get
  unfold mX11_kind mX12_kind mX12_bestOf
  simp only [m_isOne rd hm, Option.bind_some]
  by_cases c1 : isS m a = 0
  · rw [c_amiss0 rc c1, if_pos c1]
    simp only [Option.bind_some]
    rw [if_neg (by decide)]
    obtain ⟨r, C2, D2, g1, g2, g3⟩ := bF0 h
    exact ⟨r, C2, D2, g1, by rw [g2]; rfl, g3⟩
  rw [if_neg c1]
  obtain ⟨k, hk, rfl⟩ := isS_1 hm c1
  rw [c_amiss hc hk, its5 (by omega), its6 (by omega)]
  simp only [Option.bind_some]
  have hs := hc.2.2.2 k hk
  have l1 := lb1 hs
  have g := shp_g (he.2 k hk)
  rw [g.2.2.2.2.2.1, g.2.2.2.2.2.2]
  by_cases c : (shp (C.1 0) k).2.2.2.2.2.1 = 0 ∧ (shp (C.1 0) k).2.2.2.2.2.2 = 0
  · rw [if_pos c, if_pos rfl, if_pos (show C.1 0 (6 + 7 * k + 5) + C.1 0 (6 + 7 * k + 6) ≤ 0 from l1.mpr c)]
    obtain ⟨E, hE, hlk⟩ := lk_start (D := D) hN
    rw [hE]
    simp only [Option.bind_some]
    have z := kind_b hN h hc he rd hk (fun v hv => by
      have v1 : 0 ≤ nI v := nI_pos' (by omega)
      have v2 : nI v ≤ (5 : Int32) := nI_le (b := 5) hv (by decide)
      obtain ⟨x1, x2, x3, x4⟩ := hs
      exact ⟨⟨v1, v2⟩, x2, x3, x4⟩) 6 N N 0 (C.1 2) E (-1000000004) (-1) 101 (by omega) (by omega) (by omega) hlk (Or.inl ⟨rfl, rfl⟩)
    rw [sR_self] at z
    obtain ⟨r, C2, D2, g1, g2, g3⟩ := z
    exact ⟨r, C2, D2, g1, by rw [show mX12_bestOf_b58 N N E (nI k) (0 : Int32) (5 : Int32) (-1 : Int32) (101 : Int32) (0 : Int32) = _ from g2]; rfl, g3⟩
  · rw [if_neg c, if_neg (by decide), if_neg (show ¬ C.1 0 (6 + 7 * k + 5) + C.1 0 (6 + 7 * k + 6) ≤ 0 from fun z => c (l1.mp z))]
    obtain ⟨r, C2, D2, g1, g2, g3⟩ := bF4 h
    exact ⟨r, C2, D2, g1, by rw [g2]; rfl, g3⟩
