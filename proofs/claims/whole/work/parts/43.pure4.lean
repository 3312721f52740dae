/-! ===== PURE 4: the relation; findings; calls that look at or set single numbers ===== -/
def LOk (r : Nat → Int32) : Prop := ∃ l : Nat, l < 4096 ∧ r 3 = nI l
def Sea2 (c d : Nat → Int32) : Prop := ∃ m, SeaOk m d ∧ SeaEq m d c ∧ LOk d
def Kept2 (kc : Int32) (c : Nat → Int32) (kd : Int32) (d : Nat → Int32) : Prop := kc = kd ∧ b01 kd ∧ (kd = 1 → Sea2 c d)
def Fnd2 (c d : Nat → Int32) : Prop := ∀ k, k < 7 → c k = d k
def Tape2 (lc : Int32) (c : Nat → Int32) (ld : Int32) (d : Nat → Int32) : Prop := ∃ n : Nat, n ≤ 120 ∧ lc = nI n ∧ ld = nI n ∧ ∀ k, k < n → d k = c k &&& 255
def Sht2 (bc zc : Nat → Int32) (nc : Nat → Nat → Int64) (bd zd : Nat → Int32) (nd : Nat → Int64) : Prop :=
  ∀ s, s < 4 → bc s = bd s ∧ (bd s = 0 ∨ bd s = 8 ∨ bd s = 16 ∨ bd s = 64) ∧ (∃ n : Nat, n ≤ 40 ∧ zc s = nI n ∧ zd s = nI n) ∧ ∀ i, i < 40 → nc s i = nd (40 * s + i)
def Rel (C D : Mem) : Prop := Sea2 (C.1 0) (D.1 0) ∧ Kept2 (C.1 3 0) (C.1 1) (D.1 9 18) (D.1 7) ∧ Fnd2 (C.1 7) (D.1 1) ∧ Tape2 (C.1 3 1) (C.1 4) (D.1 9 5) (D.1 4) ∧ Sht2 (C.1 5) (C.1 6) C.2 (D.1 5) (D.1 6) (D.2 0)
def Both (rc rm : Option (Int32 × Mem)) : Prop := ∃ (r : Int32) (C D : Mem), rc = some (r, C) ∧ rm = some (r, D) ∧ Rel C D
theorem Rel.sea {C D : Mem} (h : Rel C D) {c d : Nat → Int32} (h2 : Sea2 c d) : Rel (sR C 0 c) (sR D 0 d) := ⟨h2, h.2⟩
theorem bump {C D : Mem} (h : Rel C D) {k : Nat} (hk : k < 7) : Rel (sI C 7 k (C.1 7 k + (1 : Int32))) (sI D 1 k (D.1 1 k + (1 : Int32))) := by
  refine ⟨h.1, h.2.1, fun q hq => ?_, h.2.2.2⟩
  show upd (C.1 7) k (C.1 7 k + (1 : Int32)) q = upd (D.1 1) k (D.1 1 k + (1 : Int32)) q
  rw [h.2.2.1 k hk]
  unfold upd
  split
  · rfl
  · exact h.2.2.1 q hq
/-- the findings by their numbers -/
def fcS (k : Nat) : Int32 := (-1000000001 : Int32) - nI k
theorem fnd_c (C : Mem) {k : Nat} (hk : k < 7) : mX11_found C (fcS k) = some (fcS k, sI C 7 k (C.1 7 k + (1 : Int32))) := by
  have e : (-1000000001 : Int32) - fcS k = nI k := by unfold fcS; grind
  unfold mX11_found mX11_isWithin
  rw [e, if_neg (nI_pos (by omega)), if_neg (show ¬ (6 : Int32) < nI k from nI_nlt (a := 6) (by omega) (by decide))]
  simp only [Option.bind_some]
  rw [if_neg (by decide), if_pos (show ok (nI k) 7 from vp_in_nI hk (by decide)), if_pos (show ok (nI k) 7 from vp_in_nI hk (by decide)), nI_clamp (by omega)]
theorem fnd_d (D : Mem) {k : Nat} (hk : k < 7) : mX12_finds D (fcS k) = some (fcS k, sI D 1 k (D.1 1 k + (1 : Int32))) := by
  have e : (-1000000001 : Int32) - fcS k = nI k := by unfold fcS; grind
  unfold mX12_finds
  rw [e, if_pos (show ok (nI k) 7 from vp_in_nI hk (by decide)), if_pos (show ok (nI k) 7 from vp_in_nI hk (by decide)), nI_clamp (by omega)]
theorem both_f {C D : Mem} (h : Rel C D) {k : Nat} (hk : k < 7) : Both ((mX11_found C (fcS k)).bind fun q => some (q.1, q.2)) ((mX12_finds D (fcS k)).bind fun q => some (q.1, q.2)) := by
  rw [fnd_c C hk, fnd_d D hk]
  exact ⟨_, _, _, rfl, rfl, bump h hk⟩
section BF
variable {C D : Mem} (h : Rel C D)
theorem bF0 (h : Rel C D) : Both ((mX11_found C (-1000000001 : Int32)).bind fun q => some (q.1, q.2)) ((mX12_finds D (-1000000001 : Int32)).bind fun q => some (q.1, q.2)) := both_f h (k := 0) (by decide)
theorem bF1 (h : Rel C D) : Both ((mX11_found C (-1000000002 : Int32)).bind fun q => some (q.1, q.2)) ((mX12_finds D (-1000000002 : Int32)).bind fun q => some (q.1, q.2)) := both_f h (k := 1) (by decide)
theorem bF2 (h : Rel C D) : Both ((mX11_found C (-1000000003 : Int32)).bind fun q => some (q.1, q.2)) ((mX12_finds D (-1000000003 : Int32)).bind fun q => some (q.1, q.2)) := both_f h (k := 2) (by decide)
theorem bF3 (h : Rel C D) : Both ((mX11_found C (-1000000004 : Int32)).bind fun q => some (q.1, q.2)) ((mX12_finds D (-1000000004 : Int32)).bind fun q => some (q.1, q.2)) := both_f h (k := 3) (by decide)
theorem bF4 (h : Rel C D) : Both ((mX11_found C (-1000000005 : Int32)).bind fun q => some (q.1, q.2)) ((mX12_finds D (-1000000005 : Int32)).bind fun q => some (q.1, q.2)) := both_f h (k := 4) (by decide)
theorem bF5 (h : Rel C D) : Both ((mX11_found C (-1000000006 : Int32)).bind fun q => some (q.1, q.2)) ((mX12_finds D (-1000000006 : Int32)).bind fun q => some (q.1, q.2)) := both_f h (k := 5) (by decide)
theorem bF6 (h : Rel C D) : Both ((mX11_found C (-1000000007 : Int32)).bind fun q => some (q.1, q.2)) ((mX12_finds D (-1000000007 : Int32)).bind fun q => some (q.1, q.2)) := both_f h (k := 6) (by decide)
end BF
def inS (v a b : Int32) : Int32 := if v < a then 0 else if b < v then 0 else 1
theorem inS_01 (v a b : Int32) : b01 (inS v a b) := by unfold inS b01; grind
theorem inS_1 {v a b : Int32} (h : ¬ inS v a b = 0) : a ≤ v ∧ v ≤ b := by unfold inS at h; grind
theorem m_in (v a b : Int32) : mX12_in v a b = some (inS v a b) := by unfold mX12_in inS; rw [if_some, if_some]
theorem c_in (v a b : Int32) : mX11_isWithin v a b = some (inS v a b) := by unfold mX11_isWithin inS; rw [if_some, if_some]
theorem m_isRow (v : Int32) : mX12_isRow v = some (inS v 0 9) := by unfold mX12_isRow; rw [m_in]; simp only [Option.bind_some]; rw [if_pos (inS_01 _ _ _)]
theorem m_isKind (v : Int32) : mX12_isKind v = some (inS v 0 5) := by unfold mX12_isKind; rw [m_in]; simp only [Option.bind_some]; rw [if_pos (inS_01 _ _ _)]
theorem c_isKind (v : Int32) : mX11_isKind v = some (inS v 0 5) := by unfold mX11_isKind; rw [c_in]; simp only [Option.bind_some]; rw [if_pos (inS_01 _ _ _)]
theorem m_isSheet (v : Int32) : mX12_isSheet v = some (inS v 0 3) := by unfold mX12_isSheet; rw [m_in]; simp only [Option.bind_some]; rw [if_pos (inS_01 _ _ _)]
theorem c_isSheet (v : Int32) : mX11_isSheet v = some (inS v 0 3) := by unfold mX11_isSheet; rw [c_in]; simp only [Option.bind_some]; rw [if_pos (inS_01 _ _ _)]
theorem nat_of {x M : Int32} {n : Nat} (hM : M.toInt = n) (h0 : 0 ≤ x) (h1 : x ≤ M) : ∃ j : Nat, j ≤ n ∧ x = nI j := nI_of2 hM (by grind) h1
theorem seaOk_upd {m : Nat} {r : Nat → Int32} {i : Nat} {v : Int32} (h : SeaOk m r) (hi : i < 5) (h1 : i = 1 → 0 ≤ v ∧ v ≤ 19) (h2 : i = 2 → 0 ≤ v ∧ v ≤ 9) (h4 : i = 4 → 0 ≤ v ∧ v ≤ 9) : SeaOk m (upd r i v) := by
  obtain ⟨a, b, ⟨c1, c2, c3⟩, d⟩ := h
  refine ⟨by rw [upd_o (by omega)]; exact a, b, ⟨?_, ?_, ?_⟩, fun k hk => by rw [shp_upd (by omega)]; exact d k hk⟩
  · unfold upd; split
    · exact h1 (by omega)
    · exact c1
  · unfold upd; split
    · exact h2 (by omega)
    · exact c2
  · unfold upd; split
    · exact h4 (by omega)
    · exact c3
theorem seaEq_upd {m : Nat} {r q : Nat → Int32} {i : Nat} {v : Int32} (h : SeaEq m r q) (hi : i < 6) : SeaEq m (upd r i v) (upd q i v) := by
  refine ⟨fun k hk => ?_, fun k hk => by rw [shp_upd hi, shp_upd hi]; exact h.2 k hk⟩
  unfold upd
  split
  · rfl
  · exact h.1 k hk
theorem LOk_upd {r : Nat → Int32} {i : Nat} {v : Int32} (h : LOk r) (hi : i ≠ 3) : LOk (upd r i v) := by
  obtain ⟨l, hl, e⟩ := h
  exact ⟨l, hl, by rw [upd_o (fun z => hi z.symm)]; exact e⟩
/-! the tower -/
theorem m_stands {D : Mem} {a b : Nat} (ha : a < 20) (hb : b < 10) : mX12_stands D (((10 : Int32) * nI a) + nI b) = some (sI (sI D 0 1 (nI a)) 0 2 (nI b)) := by
  unfold mX12_stands
  have e : ((10 : Int32) * nI a) + nI b = nI (10 * a + b) := by
    show nI 10 * nI a + nI b = _
    rw [pk_mul, nI_add]
  rw [e]
  have e1 : nI (10 * a + b) / (10 : Int32) = nI a := by
    show nI (10 * a + b) / nI 10 = _
    rw [pk_div (by omega) (by decide) (by decide)]
    congr 1
    omega
  have e2 : nI (10 * a + b) - nI (10 * a + b) / (10 : Int32) * (10 : Int32) = nI b := by
    show nI (10 * a + b) - nI (10 * a + b) / nI 10 * nI 10 = _
    rw [pk_rem (by omega) (by decide) (by decide)]
    congr 1
    omega
  rw [e1, show nI (10 * a + b) - nI a * (10 : Int32) = nI b by rw [← e1]; exact e2]
theorem Sea2.e1 {c d : Nat → Int32} (h : Sea2 c d) : c 1 = d 1 ∧ c 2 = d 2 ∧ c 3 = d 3 ∧ c 4 = d 4 ∧ c 5 = d 5 ∧ c 0 = d 0 := by
  obtain ⟨m, -, e, -⟩ := h
  exact ⟨(e.1 1 (by decide)).symm, (e.1 2 (by decide)).symm, (e.1 3 (by decide)).symm, (e.1 4 (by decide)).symm, (e.1 5 (by decide)).symm, (e.1 0 (by decide)).symm⟩
theorem op_tower {C D : Mem} (h : Rel C D) (a b : Int32) : Both (mX11_tower C a b) (mX12_tower D a b) := by
  unfold mX11_tower mX12_tower mX4_towerPlace mX12_place
  simp only [m_in, c_in, m_isRow, Option.bind_some]
  by_cases c1 : inS a 0 19 = 0
  · rw [if_pos c1, if_pos c1]; exact bF0 h
  rw [if_neg c1, if_neg c1]
  by_cases c2 : inS b 0 9 = 0
  · rw [if_pos c2, if_pos c2]; exact bF0 h
  rw [if_neg c2, if_neg c2]
  have i1 := inS_1 c1
  have i2 := inS_1 c2
  obtain ⟨x, hx, rfl⟩ := nat_of (n := 19) (by decide) i1.1 i1.2
  obtain ⟨y, hy, rfl⟩ := nat_of (n := 9) (by decide) i2.1 i2.2
  rw [m_stands (by omega) (by omega), h.1.e1.1, h.1.e1.2.1]
  refine ⟨_, _, _, rfl, rfl, ?_⟩
  obtain ⟨m, ho, he, hl⟩ := h.1
  refine ⟨⟨m, ?_, ?_, ?_⟩, h.2⟩
  · exact seaOk_upd (seaOk_upd ho (i := 1) (by decide) (fun _ => i1) (by omega) (by omega)) (i := 2) (by decide) (by omega) (fun _ => i2) (by omega)
  · exact seaEq_upd (seaEq_upd he (by decide)) (by decide)
  · exact LOk_upd (LOk_upd hl (by decide)) (by decide)
theorem m_becomes {D : Mem} {i : Nat} (hi : i < 48) (v : Int32) : mX12_becomes D (nI i) v = some (D.1 0 i, sI D 0 i v) := by
  unfold mX12_becomes
  rw [if_pos (show ok (nI i) 48 from vp_in_nI hi (by decide)), if_pos (show ok (nI i) 48 from vp_in_nI hi (by decide)), nI_clamp (by omega)]
theorem op_lamp {C D : Mem} (h : Rel C D) (a : Int32) : Both (mX11_lamp C a) (mX12_lamp D a) := by
  unfold mX11_lamp mX12_lamp
  simp only [m_in, c_in, Option.bind_some]
  by_cases c1 : inS a 0 4095 = 0
  · rw [if_pos c1, if_pos c1]; exact bF0 h
  rw [if_neg c1, if_neg c1]
  have i1 := inS_1 c1
  obtain ⟨x, hx, rfl⟩ := nat_of (n := 4095) (by decide) i1.1 i1.2
  rw [show mX12_becomes D (3 : Int32) (nI x) = some (D.1 0 3, sI D 0 3 (nI x)) from m_becomes (i := 3) (by decide) _, h.1.e1.2.2.1]
  refine ⟨_, _, _, rfl, rfl, ?_⟩
  obtain ⟨m, ho, he, hl⟩ := h.1
  exact ⟨⟨m, seaOk_upd ho (i := 3) (by decide) (by omega) (by omega) (by omega), seaEq_upd he (by decide), ⟨x, by omega, upd_s (D.1 0) 3 (nI x)⟩⟩, h.2⟩
theorem op_reach {C D : Mem} (h : Rel C D) (a : Int32) : Both (mX11_reach C a) (mX12_reach D a) := by
  unfold mX11_reach mX12_reach
  simp only [m_in, c_in, Option.bind_some]
  by_cases c1 : inS a 0 9 = 0
  · rw [if_pos c1, if_pos c1]; exact bF0 h
  rw [if_neg c1, if_neg c1]
  have i1 := inS_1 c1
  rw [show mX12_becomes D (4 : Int32) a = some (D.1 0 4, sI D 0 4 a) from m_becomes (i := 4) (by decide) _, h.1.e1.2.2.2.1]
  refine ⟨_, _, _, rfl, rfl, ?_⟩
  obtain ⟨m, ho, he, hl⟩ := h.1
  exact ⟨⟨m, seaOk_upd ho (i := 4) (by decide) (by omega) (by omega) (fun _ => i1), seaEq_upd he (by decide), LOk_upd hl (by decide)⟩, h.2⟩
/-! sets and sums over ships -/
def setS (f : Nat → Int32) : Nat → Int32
  | 0 => 0
  | k + 1 => setS f k ||| (f k <<< (nI k &&& 31))
def sumS (f : Nat → Int32) : Nat → Int32
  | 0 => 0
  | k + 1 => sumS f k + f k
theorem setS_cong {f g : Nat → Int32} : ∀ (m : Nat), (∀ k, k < m → f k = g k) → setS f m = setS g m := by
  intro m
  induction m with
  | zero => intro _; rfl
  | succ m ih => intro h; rw [setS, setS, ih (fun k hk => h k (by omega)), h m (by omega)]
theorem sumS_cong {f g : Nat → Int32} : ∀ (m : Nat), (∀ k, k < m → f k = g k) → sumS f m = sumS g m := by
  intro m
  induction m with
  | zero => intro _; rfl
  | succ m ih => intro h; rw [sumS, sumS, ih (fun k hk => h k (by omega)), h m (by omega)]
theorem m_setOf_b {D : Mem} {m w N : Nat} (hr : D.1 0 5 = nI m) (hm : m ≤ 6) (hw : w < 7) : ∀ (p n q : Nat), p < n → p + q = m → mX12_setOf_b4 N D n (nI w) (setS (fun k => D.1 0 (6 + 7 * k + w)) q) (nI q) = some (setS (fun k => D.1 0 (6 + 7 * k + w)) m) := by
  intro p
  induction p with
  | zero =>
    intro n q hn hq
    obtain ⟨n, rfl⟩ : ∃ z, n = z + 1 := ⟨n - 1, by omega⟩
    have e : q = m := by omega
    subst e
    rw [mX12_setOf_b4, hr, if_pos (nI_le (Nat.le_refl _) (by omega))]
  | succ p ih =>
    intro n q hn hq
    obtain ⟨n, rfl⟩ : ∃ z, n = z + 1 := ⟨n - 1, by omega⟩
    rw [mX12_setOf_b4, hr, if_neg (nI_ge (by omega) (by omega)), its_eq (by omega) hw, nI_1]
    simp only [Option.bind_some]
    exact ih n (q + 1) (by omega) (by omega)
theorem m_setOf {D : Mem} {m w N : Nat} (hr : D.1 0 5 = nI m) (hm : m ≤ 6) (hw : w < 7) (hN : 10 ≤ N) : mX12_setOf N D (nI w) = some (setS (fun k => D.1 0 (6 + 7 * k + w)) m) := by
  unfold mX12_setOf
  exact m_setOf_b hr hm hw m N 0 (by omega) (by omega)
theorem m_cost_b {D : Mem} {m N : Nat} (hr : D.1 0 5 = nI m) (hm : m ≤ 6) : ∀ (p n q : Nat), p < n → p + q = m → mX12_costOfAll_b4 N D n (sumS (fun k => D.1 0 (6 + 7 * k + 3)) q) (nI q) = some (sumS (fun k => D.1 0 (6 + 7 * k + 3)) m) := by
  intro p
  induction p with
  | zero =>
    intro n q hn hq
    obtain ⟨n, rfl⟩ : ∃ z, n = z + 1 := ⟨n - 1, by omega⟩
    have e : q = m := by omega
    subst e
    rw [mX12_costOfAll_b4, hr, if_pos (nI_le (Nat.le_refl _) (by omega))]
  | succ p ih =>
    intro n q hn hq
    obtain ⟨n, rfl⟩ : ∃ z, n = z + 1 := ⟨n - 1, by omega⟩
    rw [mX12_costOfAll_b4, hr, if_neg (nI_ge (by omega) (by omega)), its3 (by omega), nI_1]
    simp only [Option.bind_some]
    exact ih n (q + 1) (by omega) (by omega)
theorem m_costAll {D : Mem} {m N : Nat} (hr : D.1 0 5 = nI m) (hm : m ≤ 6) (hN : 10 ≤ N) : mX12_costOfAll N D = some (sumS (fun k => D.1 0 (6 + 7 * k + 3)) m) := by
  unfold mX12_costOfAll
  exact m_cost_b hr hm m N 0 (by omega) (by omega)
theorem c_num {x : Int32} (h : b01 x) : mX11_asNumber x = some x := by
  unfold mX11_asNumber
  rcases h with rfl | rfl <;> rfl
theorem c_lost_b {C : Mem} {j m N : Nat} (ho : SeaOk m (C.1 j)) : ∀ (p n q : Nat), p < n → p + q = m → mX4_lostOnes_b4 N j C n (setS (fun k => C.1 j (6 + 7 * k + 5)) q) (nI q) = some (setS (fun k => C.1 j (6 + 7 * k + 5)) m) := by
  obtain ⟨hr, hm, -, hs⟩ := ho
  intro p
  induction p with
  | zero =>
    intro n q hn hq
    obtain ⟨n, rfl⟩ : ∃ z, n = z + 1 := ⟨n - 1, by omega⟩
    have e : q = m := by omega
    subst e
    rw [mX4_lostOnes_b4, hr, if_pos (nI_le (Nat.le_refl _) (by omega))]
  | succ p ih =>
    intro n q hn hq
    obtain ⟨n, rfl⟩ : ∃ z, n = z + 1 := ⟨n - 1, by omega⟩
    have hb : b01 (C.1 j (6 + 7 * q + 5)) := (hs q (by omega)).2.2.2.2.2.1
    rw [mX4_lostOnes_b4, hr, if_neg (nI_ge (by omega) (by omega)), if_neg (show ¬ (6 : Int32) ≤ nI q from nI_ge (b := 6) (by omega) (by decide)), if_pos (show ok (nI q) 6 from vp_in_nI (by omega) (by decide)), nI_clamp (by omega), c_num hb, nI_1]
    simp only [Option.bind_some]
    exact ih n (q + 1) (by omega) (by omega)
theorem c_lost {C : Mem} {j m N : Nat} (ho : SeaOk m (C.1 j)) (hN : 10 ≤ N) : mX4_lostOnes N j C = some (setS (fun k => C.1 j (6 + 7 * k + 5)) m) := by
  unfold mX4_lostOnes
  exact c_lost_b ho m N 0 (by have := ho.2.1; omega) (by omega)
theorem c_by_b {C : Mem} {j m N : Nat} (ho : SeaOk m (C.1 j)) : ∀ (p n q : Nat), p < n → p + q = m → mX4_onesBy_b4 N j C n (setS (fun k => C.1 j (6 + 7 * k + 6)) q) (nI q) = some (setS (fun k => C.1 j (6 + 7 * k + 6)) m) := by
  obtain ⟨hr, hm, -, hs⟩ := ho
  intro p
  induction p with
  | zero =>
    intro n q hn hq
    obtain ⟨n, rfl⟩ : ∃ z, n = z + 1 := ⟨n - 1, by omega⟩
    have e : q = m := by omega
    subst e
    rw [mX4_onesBy_b4, hr, if_pos (nI_le (Nat.le_refl _) (by omega))]
  | succ p ih =>
    intro n q hn hq
    obtain ⟨n, rfl⟩ : ∃ z, n = z + 1 := ⟨n - 1, by omega⟩
    have hb : b01 (C.1 j (6 + 7 * q + 6)) := (hs q (by omega)).2.2.2.2.2.2.1
    rw [mX4_onesBy_b4, hr, if_neg (nI_ge (by omega) (by omega)), if_neg (show ¬ (6 : Int32) ≤ nI q from nI_ge (b := 6) (by omega) (by decide)), if_pos (show ok (nI q) 6 from vp_in_nI (by omega) (by decide)), nI_clamp (by omega), c_num hb, nI_1]
    simp only [Option.bind_some]
    exact ih n (q + 1) (by omega) (by omega)
theorem c_by {C : Mem} {j m N : Nat} (ho : SeaOk m (C.1 j)) (hN : 10 ≤ N) : mX4_onesBy N j C = some (setS (fun k => C.1 j (6 + 7 * k + 6)) m) := by
  unfold mX4_onesBy
  exact c_by_b ho m N 0 (by have := ho.2.1; omega) (by omega)
theorem c_cost_b {C : Mem} {j m N : Nat} (ho : SeaOk m (C.1 j)) : ∀ (p n q : Nat), p < n → p + q = m → mX4_costOfAll_b4 N j C n (sumS (fun k => C.1 j (6 + 7 * k + 3)) q) (nI q) = some (sumS (fun k => C.1 j (6 + 7 * k + 3)) m) := by
  obtain ⟨hr, hm, -, hs⟩ := ho
  intro p
  induction p with
  | zero =>
    intro n q hn hq
    obtain ⟨n, rfl⟩ : ∃ z, n = z + 1 := ⟨n - 1, by omega⟩
    have e : q = m := by omega
    subst e
    rw [mX4_costOfAll_b4, hr, if_pos (nI_le (Nat.le_refl _) (by omega))]
  | succ p ih =>
    intro n q hn hq
    obtain ⟨n, rfl⟩ : ∃ z, n = z + 1 := ⟨n - 1, by omega⟩
    rw [mX4_costOfAll_b4, hr, if_neg (nI_ge (by omega) (by omega)), if_neg (show ¬ (6 : Int32) ≤ nI q from nI_ge (b := 6) (by omega) (by decide)), if_pos (show ok (nI q) 6 from vp_in_nI (by omega) (by decide)), nI_clamp (by omega), nI_1]
    exact ih n (q + 1) (by omega) (by omega)
theorem c_costAll {C : Mem} {j m N : Nat} (ho : SeaOk m (C.1 j)) (hN : 10 ≤ N) : mX4_costOfAll N j C = some (sumS (fun k => C.1 j (6 + 7 * k + 3)) m) := by
  unfold mX4_costOfAll
  exact c_cost_b ho m N 0 (by have := ho.2.1; omega) (by omega)
theorem shp_g {r q : Nat → Int32} {k : Nat} (h : shp r k = shp q k) : r (6 + 7 * k + 0) = q (6 + 7 * k + 0) ∧ r (6 + 7 * k + 1) = q (6 + 7 * k + 1) ∧ r (6 + 7 * k + 2) = q (6 + 7 * k + 2) ∧ r (6 + 7 * k + 3) = q (6 + 7 * k + 3) ∧ r (6 + 7 * k + 4) = q (6 + 7 * k + 4) ∧ r (6 + 7 * k + 5) = q (6 + 7 * k + 5) ∧ r (6 + 7 * k + 6) = q (6 + 7 * k + 6) := by
  unfold shp at h
  simp only [Prod.mk.injEq] at h
  exact h
