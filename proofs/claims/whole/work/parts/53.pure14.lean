/-! ===== PURE 14: copy, lays ===== -/
theorem cpy_s (f g : Nat → Int64) (sp dp q : Nat) : vp_updL (va_cpy f g sp dp q) (dp + q) (f (sp + q)) = va_cpy f g sp dp (q + 1) := by
  funext k
  by_cases e : k = dp + q
  · subst e
    rw [vp_updL_s]
    unfold va_cpy
    rw [if_pos (by omega), Nat.add_sub_cancel_left]
  · rw [vp_updL_o e]
    unfold va_cpy
    by_cases c : dp ≤ k ∧ k < dp + q
    · rw [if_pos c, if_pos (by omega)]
    · rw [if_neg c, if_neg (by omega)]
theorem cpy_0 (f g : Nat → Int64) (sp dp : Nat) : va_cpy f g sp dp 0 = g := by
  funext k
  unfold va_cpy
  rw [if_neg (by omega)]
def rgS (z f n : Int32) : Int32 := if f < 0 then 0 else if n < 0 then 0 else if z < n then 0 else if z - n < f then 0 else 1
theorem c_range {C : Mem} {s : Nat} (f n : Int32) : mX6_hasRange s C f n = some (rgS (C.1 6 s) f n) := by
  unfold mX6_hasRange rgS
  rw [if_some, if_some, if_some, if_some]
theorem m_range {D : Mem} {s : Nat} (hs : s < 4) (f n : Int32) : mX12_isPart_ D (nI s) f n = some (rgS (D.1 6 s) f n) := by
  unfold mX12_isPart_ rgS
  rw [if_pos (ok4 hs), if_pos (ok4 hs), nI_clamp (by omega), if_some, if_some, if_some, if_some]
theorem rgS_1 {Z : Nat} {f n : Int32} (hZ : Z ≤ 40) (h : ¬ rgS (nI Z) f n = 0) : ∃ a k : Nat, f = nI a ∧ n = nI k ∧ a + k ≤ Z := by
  unfold rgS at h
  by_cases c1 : f < 0
  · rw [if_pos c1] at h; exact absurd rfl h
  rw [if_neg c1] at h
  by_cases c2 : n < 0
  · rw [if_pos c2] at h; exact absurd rfl h
  rw [if_neg c2] at h
  by_cases c3 : nI Z < n
  · rw [if_pos c3] at h; exact absurd rfl h
  rw [if_neg c3] at h
  rcases pk_ix n (n := Z + 1) (by omega) with q | q | ⟨k, hk, rfl⟩
  · exact absurd q c2
  · have : nI Z < nI (Z + 1) := nI_lt (by omega) (by omega)
    generalize nI Z = x at *
    generalize nI (Z + 1) = y at *
    grind
  have e : nI Z = nI (Z - k) + nI k := by rw [nI_add]; congr 1; omega
  have e2 : nI Z - nI k = nI (Z - k) := by rw [e, Int32.add_sub_cancel]
  rw [e2] at h
  by_cases c4 : nI (Z - k) < f
  · rw [if_pos c4] at h; exact absurd rfl h
  rcases pk_ix f (n := Z - k + 1) (by omega) with q | q | ⟨a, ha, rfl⟩
  · exact absurd q c1
  · have : nI (Z - k) < nI (Z - k + 1) := nI_lt (by omega) (by omega)
    generalize nI (Z - k) = x at *
    generalize nI (Z - k + 1) = y at *
    grind
  exact ⟨a, k, rfl, rfl, by omega⟩
theorem sh3 {s a q : Nat} (hs : s < 4) (hi : a + q < 40) : ok ((((40 : Int32) * nI s) + nI a) + nI q) 160 ∧ ((((40 : Int32) * nI s) + nI a) + nI q).toNatClampNeg = 40 * s + a + q := by
  have e : (((40 : Int32) * nI s) + nI a) + nI q = nI (40 * s + a + q) := by
    show ((nI 40 * nI s) + nI a) + nI q = _
    rw [pk_mul, nI_add, nI_add]
  rw [e]
  exact ⟨vp_in_nI (by omega) (by decide), nI_clamp (by omega)⟩
theorem m_copy2 {E : Mem} {t a k N : Nat} (ht : t < 4) (hk : a + k ≤ 40) : ∀ (p n q : Nat), p < n → p + q = k → mX12_copy_b139 N n (sL E 0 (va_cpy (E.2 1) (E.2 0) 0 (40 * t + a) q)) (nI t) (nI a) (nI k) (nI q) = some (nI k, sL E 0 (va_cpy (E.2 1) (E.2 0) 0 (40 * t + a) k)) := by
  intro p
  induction p with
  | zero =>
    intro n q hn hq
    obtain ⟨n, rfl⟩ : ∃ z, n = z + 1 := ⟨n - 1, by omega⟩
    have e : q = k := by omega
    subst e
    rw [mX12_copy_b139, if_pos (nI_le (Nat.le_refl _) (by omega))]
  | succ p ih =>
    intro n q hn hq
    obtain ⟨n, rfl⟩ : ∃ z, n = z + 1 := ⟨n - 1, by omega⟩
    have l := cpy_s (E.2 1) (E.2 0) 0 (40 * t + a) q
    rw [Nat.zero_add] at l
    rw [mX12_copy_b139, if_neg (nI_ge (by omega) (by omega)), if_pos (show ok (nI q) 40 from vp_in_nI (by omega) (by decide)), if_pos (sh3 ht (by omega)).1, (sh3 ht (by omega)).2, nI_clamp (by omega), nI_1, sJ_sL, sL_s, sL_sL, sL_o (by decide), l]
    exact ih n (q + 1) (by omega) (by omega)
theorem m_copy1 {D : Mem} {s a t b k N : Nat} (hN : 300 ≤ N) (hs : s < 4) (ht : t < 4) (hk : a + k ≤ 40) (hk2 : b + k ≤ 40) : ∀ (p n q : Nat), p < n → p + q = k → mX12_copy_b102 N n (sL D 1 (va_cpy (D.2 0) (D.2 1) (40 * s + a) 0 q)) (nI s) (nI a) (nI t) (nI b) (nI k) (nI q) = some (nI k, sL (sL D 1 (va_cpy (D.2 0) (D.2 1) (40 * s + a) 0 k)) 0 (va_cpy (va_cpy (D.2 0) (D.2 1) (40 * s + a) 0 k) (D.2 0) 0 (40 * t + b) k)) := by
  intro p
  induction p with
  | zero =>
    intro n q hn hq
    obtain ⟨n, rfl⟩ : ∃ z, n = z + 1 := ⟨n - 1, by omega⟩
    have e : q = k := by omega
    subst e
    rw [mX12_copy_b102, if_pos (nI_le (Nat.le_refl _) (by omega))]
    have h := m_copy2 (E := sL D 1 (va_cpy (D.2 0) (D.2 1) (40 * s + a) 0 q)) (t := t) (a := b) (k := q) (N := N) ht hk2 q N 0 (by omega) (by omega)
    rw [cpy_0, sL_self, sL_s, sL_o (by decide)] at h
    exact h
  | succ p ih =>
    intro n q hn hq
    obtain ⟨n, rfl⟩ : ∃ z, n = z + 1 := ⟨n - 1, by omega⟩
    have l := cpy_s (D.2 0) (D.2 1) (40 * s + a) 0 q
    rw [Nat.zero_add] at l
    rw [mX12_copy_b102, if_neg (nI_ge (by omega) (by omega)), if_pos (sh3 hs (by omega)).1, if_pos (show ok (nI q) 40 from vp_in_nI (by omega) (by decide)), (sh3 hs (by omega)).2, nI_clamp (by omega), nI_1, sJ_sL, sL_s, sL_sL, sL_o (by decide), l]
    exact ih n (q + 1) (by omega) (by omega)
theorem Rel.copy {C D : Mem} (h : Rel C D) {s a t b k : Nat} (hs : s < 4) (ht : t < 4) (hk : a + k ≤ 40) (hk2 : b + k ≤ 40) : Rel (sJf C t (va_cpy (C.2 s) (C.2 t) a b k)) (sL (sL D 1 (va_cpy (D.2 0) (D.2 1) (40 * s + a) 0 k)) 0 (va_cpy (va_cpy (D.2 0) (D.2 1) (40 * s + a) 0 k) (D.2 0) 0 (40 * t + b) k)) := by
  obtain ⟨h1, h2, h3, h4, h5⟩ := h
  refine ⟨h1, h2, h3, h4, fun q hq => ?_⟩
  obtain ⟨a1, a2, a3, a4⟩ := h5 q hq
  obtain ⟨-, -, -, b4⟩ := h5 s hs
  refine ⟨a1, a2, a3, fun i hi => ?_⟩
  show (if q = t then va_cpy (C.2 s) (C.2 t) a b k else C.2 q) i = va_cpy (va_cpy (D.2 0) (D.2 1) (40 * s + a) 0 k) (D.2 0) 0 (40 * t + b) k (40 * q + i)
  by_cases e : q = t
  · subst e
    rw [if_pos rfl]
    by_cases c : b ≤ i ∧ i < b + k
    · have e1 : va_cpy (C.2 s) (C.2 q) a b k i = C.2 s (a + (i - b)) := if_pos c
      have e2 : va_cpy (va_cpy (D.2 0) (D.2 1) (40 * s + a) 0 k) (D.2 0) 0 (40 * q + b) k (40 * q + i) = va_cpy (D.2 0) (D.2 1) (40 * s + a) 0 k (0 + (40 * q + i - (40 * q + b))) := if_pos (by omega)
      have e3 : 0 + (40 * q + i - (40 * q + b)) = i - b := by omega
      have e4 : va_cpy (D.2 0) (D.2 1) (40 * s + a) 0 k (i - b) = D.2 0 (40 * s + a + (i - b - 0)) := if_pos (by omega)
      rw [e1, e2, e3, e4, b4 (a + (i - b)) (by omega), show 40 * s + a + (i - b - 0) = 40 * s + (a + (i - b)) by omega]
    · have e1 : va_cpy (C.2 s) (C.2 q) a b k i = C.2 q i := if_neg c
      have e2 : va_cpy (va_cpy (D.2 0) (D.2 1) (40 * s + a) 0 k) (D.2 0) 0 (40 * q + b) k (40 * q + i) = D.2 0 (40 * q + i) := if_neg (by omega)
      rw [e1, e2]
      exact a4 i hi
  · have e2 : va_cpy (va_cpy (D.2 0) (D.2 1) (40 * s + a) 0 k) (D.2 0) 0 (40 * t + b) k (40 * q + i) = D.2 0 (40 * q + i) := if_neg (by omega)
    rw [if_neg e, e2]
    exact a4 i hi
theorem op_copy {C D : Mem} (h : Rel C D) {N : Nat} (hN : 300 ≤ N) (a b c d e : Int32) : Both (mX11_copy C a b c d e) (mX12_copy N D a b c d e) := by
  unfold mX11_copy mX12_copy
  rw [c_isSheet, m_isSheet, c_isSheet, m_isSheet]
  simp only [Option.bind_some]
  by_cases c1 : inS a 0 3 = 0
  · rw [if_pos c1, if_pos c1]; exact bF0 h
  rw [if_neg c1, if_neg c1]
  by_cases c2 : inS c 0 3 = 0
  · rw [if_pos c2, if_pos c2]; exact bF0 h
  rw [if_neg c2, if_neg c2]
  have i1 := inS_1 c1
  have i2 := inS_1 c2
  obtain ⟨s, hs, rfl⟩ := nat_of (n := 3) (by decide) i1.1 i1.2
  obtain ⟨t, ht, rfl⟩ := nat_of (n := 3) (by decide) i2.1 i2.2
  have hs4 : s < 4 := by omega
  have ht4 : t < 4 := by omega
  obtain ⟨q1, q2, ⟨n, q3, q4, q5⟩, q6⟩ := h.sht hs4
  obtain ⟨r1, r2, ⟨n2, r3, r4, r5⟩, r6⟩ := h.sht ht4
  simp only [if_pos (ok4 hs4), if_pos (ok4 ht4)]
  unfold mX6_isMissing
  rw [nI_clamp (by omega), nI_clamp (by omega), q1, r1]
  by_cases c3 : D.1 5 s = 0
  · rw [if_pos c3, if_pos c3]
    simp only [Option.bind_some]
    rw [if_neg (by decide)]
    exact bF5 h
  rw [if_neg c3, if_neg c3]
  simp only [Option.bind_some]
  rw [if_pos trivial]
  by_cases c4 : D.1 5 t = 0
  · rw [if_pos c4, if_pos c4]
    simp only [Option.bind_some]
    rw [if_neg (by decide)]
    exact bF5 h
  rw [if_neg c4, if_neg c4]
  simp only [Option.bind_some]
  rw [if_pos trivial]
  by_cases c5 : D.1 5 s = D.1 5 t
  · rw [if_pos c5, if_pos c5, c_range, m_range hs4, c_range, m_range ht4, q4, q5, r4, r5]
    simp only [Option.bind_some]
    by_cases c6 : rgS (nI n) b e = 0
    · rw [if_pos c6, if_pos c6]; exact bF0 h
    rw [if_neg c6, if_neg c6]
    by_cases c7 : rgS (nI n2) d e = 0
    · rw [if_pos c7, if_pos c7]; exact bF0 h
    rw [if_neg c7, if_neg c7]
    obtain ⟨x, k, rfl, rfl, hx⟩ := rgS_1 q3 c6
    obtain ⟨y, k2, rfl, ek, hy⟩ := rgS_1 r3 c7
    have ek2 : k2 = k := ((nI_eq (by omega) (by omega)).mp ek).symm
    subst ek2
    have o : cpyOk (nI x) (nI y) (nI k2) := ⟨nI_pos (by omega), nI_pos (by omega), nI_pos (by omega), by rw [nI_clamp (by omega), nI_clamp (by omega)]; omega, by rw [nI_clamp (by omega), nI_clamp (by omega)]; omega⟩
    rw [if_pos o, nI_clamp (by omega), nI_clamp (by omega), nI_clamp (by omega)]
    have z := m_copy1 (D := D) (s := s) (a := x) (t := t) (b := y) (k := k2) (N := N) hN hs4 ht4 (by omega) (by omega) k2 N 0 (by omega) (by omega)
    rw [cpy_0, sL_self] at z
    exact ⟨_, _, _, rfl, z, h.copy hs4 ht4 (by omega) (by omega)⟩
  · rw [if_neg c5, if_neg c5]; exact bF2 h
/-! lays -/
theorem i64_09 {v : Int64} (h0 : 0 ≤ v) (h1 : v ≤ 9) : 0 ≤ v.toInt32 ∧ v.toInt32 ≤ 9 := by
  have a : ∀ j : Fin 10, 0 ≤ (Int64.ofInt (j.val : Int)).toInt32 ∧ (Int64.ofInt (j.val : Int)).toInt32 ≤ 9 := by decide +kernel
  have e0 : 0 ≤ v.toInt := Int64.le_iff_toInt_le.mp h0
  have e1 : v.toInt ≤ 9 := Int64.le_iff_toInt_le.mp h1
  have e : v = Int64.ofInt ((v.toInt.toNat : Nat) : Int) := by rw [Int.toNat_of_nonneg e0, Int64.ofInt_toInt]
  rw [e]
  exact a ⟨v.toInt.toNat, by omega⟩
theorem lays_b {N s : Nat} (hs : s < 4) : ∀ (p n n2 q : Nat) (C D : Mem) (a : Int32), Rel C D → p < n → p < n2 → p + q = 41 → Both (mX11_lays_b29 N n C s a (nI q)) (mX12_lays_b21 N n2 D (nI s) a (nI q)) := by
  intro p
  induction p with
  | zero =>
    intro n n2 q C D a h hn hn2 hq
    obtain ⟨n, rfl⟩ : ∃ z, n = z + 1 := ⟨n - 1, by omega⟩
    obtain ⟨n2, rfl⟩ : ∃ z, n2 = z + 1 := ⟨n2 - 1, by omega⟩
    obtain ⟨q1, q2, ⟨z, q3, q4, q5⟩, q6⟩ := h.sht hs
    rw [mX11_lays_b29, mX12_lays_b21, if_pos (ok4 hs), show (nI s).toNatClampNeg = s from nI_clamp (by omega), q4, q5, if_pos (nI_le (by omega) (by omega)), if_pos (nI_le (by omega) (by omega))]
    exact ⟨_, _, _, rfl, rfl, h⟩
  | succ p ih =>
    intro n n2 q C D a h hn hn2 hq
    obtain ⟨n, rfl⟩ : ∃ z, n = z + 1 := ⟨n - 1, by omega⟩
    obtain ⟨n2, rfl⟩ : ∃ z, n2 = z + 1 := ⟨n2 - 1, by omega⟩
    obtain ⟨q1, q2, ⟨z, q3, q4, q5⟩, q6⟩ := h.sht hs
    obtain ⟨m, ho, hc, he, hl, rd, rc, hm⟩ := h.1.get
    rw [mX11_lays_b29, mX12_lays_b21, if_pos (ok4 hs), show (nI s).toNatClampNeg = s from nI_clamp (by omega), q4, q5]
    by_cases c1 : z ≤ q
    · rw [if_pos (nI_le c1 (by omega)), if_pos (nI_le c1 (by omega))]; exact ⟨_, _, _, rfl, rfl, h⟩
    rw [if_neg (nI_ge (by omega) (by omega)), if_neg (nI_ge (by omega) (by omega)), c_isShip rc, rd]
    simp only [Option.bind_some]
    unfold isS
    rw [if_neg (nI_pos (by omega))]
    by_cases c2 : m ≤ q
    · rw [if_pos (nI_le c2 (by omega)), if_pos rfl, if_pos (nI_le c2 (by omega))]; exact ⟨_, _, _, rfl, rfl, h⟩
    rw [if_neg (nI_ge (by omega) (by omega)), if_neg (by decide), if_neg (nI_ge (by omega) (by omega)), c_at q4 q3 (by omega), if_pos (shi hs (i := q) (by omega)).1, (shi hs (i := q) (by omega)).2, q6 q (by omega), nI_1]
    simp only [Option.bind_some]
    generalize D.2 0 (40 * s + q) = v
    by_cases c3 : v < 0
    · rw [if_pos ((lg_cmp_lt v 0).mpr c3), if_pos ((lg_cmp_lt v 0).mpr c3)]
      exact ih n n2 (q + 1) C D a h (by omega) (by omega) (by omega)
    rw [if_neg (fun z => c3 ((lg_cmp_lt v 0).mp z)), if_neg (fun z => c3 ((lg_cmp_lt v 0).mp z))]
    by_cases c4 : 9 < v
    · rw [if_pos ((lg_cmp_gt v 9).mpr c4), if_pos ((lg_cmp_ge v 10).mpr (by grind))]
      exact ih n n2 (q + 1) C D a h (by omega) (by omega) (by omega)
    rw [if_neg (fun z => c4 ((lg_cmp_gt v 9).mp z)), if_neg (show ¬ 0 ≤ lg_cmp v 10 from fun z => c4 (by have := (lg_cmp_ge v 10).mp z; grind)), if_pos (show ok (nI q) 6 from vp_in_nI (by omega) (by decide)), nI_clamp (by omega), puts2 (by omega)]
    simp only [Option.bind_some]
    have v9 := i64_09 (v := v) (by grind) (by grind)
    generalize v.toInt32 = x at v9
    have hq6 : q < m := by omega
    have e1 : sI C 0 (6 + 7 * q + 2) x = md C 0 (C.1 0) q (wRow (shp (C.1 0) q) x) := by
      have := md_s2 C 0 (C.1 0) q (shp (C.1 0) q) x
      rw [md_self] at this
      exact this
    have e2 : sI D 0 (6 + 7 * q + 2) x = md D 0 (D.1 0) q (wRow (shp (C.1 0) q) x) := by
      have := md_s2 D 0 (D.1 0) q (shp (D.1 0) q) x
      rw [md_self, he.2 q hq6] at this
      exact this
    have hs := hc.2.2.2 q hq6
    obtain ⟨x1, x2, x3, x4⟩ := hs
    rw [e1, e2]
    exact ih n n2 (q + 1) _ _ _ (rel_ship h ho he hl ⟨x1, x2, v9, x4⟩) (by omega) (by omega) (by omega)
theorem op_lays {C D : Mem} (h : Rel C D) {N : Nat} (hN : 300 ≤ N) (a : Int32) : Both (mX11_lays N C a) (mX12_lays N D a) := by
  unfold mX11_lays mX12_lays
  rcases bad2 h a with ⟨e1, e2, -⟩ | ⟨s, hs, rfl, -, ⟨-, e1, e2⟩ | ⟨-, e1, e2⟩⟩
  · rw [e1, e2]
    simp only [Option.bind_some]
    rw [if_neg (by decide), if_neg (by decide)]
    exact bF0 h
  · rw [e1, e2]
    simp only [Option.bind_some]
    rw [if_neg (by decide), if_neg (by decide)]
    exact bF5 h
  · rw [e1, e2]
    simp only [Option.bind_some]
    rw [if_pos trivial, if_pos trivial, if_pos (ok4 hs), nI_clamp (by omega)]
    exact lays_b hs 41 N N 0 C D 0 h (by omega) (by omega) (by omega)
