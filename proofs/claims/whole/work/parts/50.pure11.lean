/-! ===== PURE 11: bits, sums, and what is best of many ===== -/
theorem bits_mono {N N2 : Nat} : ∀ (n n2 : Nat) (a x r : Int32), n ≤ n2 → mX12_bits_b4 N n a x = some r → mX12_bits_b4 N2 n2 a x = some r := by
  intro n
  induction n with
  | zero => intro n2 a x r _ h; exact absurd h (by rw [mX12_bits_b4]; exact fun z => nomatch z)
  | succ n ih =>
    intro n2 a x r hn h
    obtain ⟨n2, rfl⟩ : ∃ z, n2 = z + 1 := ⟨n2 - 1, by omega⟩
    rw [mX12_bits_b4] at h ⊢
    by_cases c : x = 0
    · rw [if_pos c] at h ⊢; exact h
    · rw [if_neg c] at h ⊢; exact ih n2 _ _ _ (by omega) h
def bitN : Nat → Nat → Nat
  | 0, _ => 0
  | p + 1, l => bitN p (l / 2) + l % 2
def bchk (l : Nat) : Bool := (mX12_bits_b4 0 13 0 (nI l) == some (nI (bitN 12 l))) && (mJ6_bitCount_0f7a4 (nI l) == some (nI (bitN 12 l)))
def bchk1 (a : Nat) : Nat → Bool
  | 0 => true
  | b + 1 => bchk (64 * a + b) && bchk1 a b
def bchk2 : Nat → Bool
  | 0 => true
  | a + 1 => bchk1 a 64 && bchk2 a
theorem bchk_all : bchk2 64 = true := by decide +kernel
theorem bchk1_of {a : Nat} : ∀ (n : Nat), bchk1 a n = true → ∀ b, b < n → bchk (64 * a + b) = true := by
  intro n
  induction n with
  | zero => intro _ b hb; omega
  | succ n ih =>
    intro h b hb
    rw [bchk1, Bool.and_eq_true] at h
    by_cases e : b = n
    · subst e; exact h.1
    · exact ih h.2 b (by omega)
theorem bchk2_of : ∀ (n : Nat), bchk2 n = true → ∀ a, a < n → bchk1 a 64 = true := by
  intro n
  induction n with
  | zero => intro _ b hb; omega
  | succ n ih =>
    intro h b hb
    rw [bchk2, Bool.and_eq_true] at h
    by_cases e : b = n
    · subst e; exact h.1
    · exact ih h.2 b (by omega)
theorem bits_eq {l N : Nat} (hl : l < 4096) (hN : 300 ≤ N) : mX12_bits N (nI l) = some (nI (bitN 12 l)) ∧ mJ6_bitCount_0f7a4 (nI l) = some (nI (bitN 12 l)) := by
  have h := bchk1_of 64 (bchk2_of 64 bchk_all (l / 64) (by omega)) (l % 64) (by omega)
  rw [show 64 * (l / 64) + l % 64 = l by omega] at h
  unfold bchk at h
  rw [Bool.and_eq_true, beq_iff_eq, beq_iff_eq] at h
  exact ⟨bits_mono 13 N _ _ _ (by omega) h.1, h.2⟩
theorem bitN_le : ∀ (p l : Nat), bitN p l ≤ p := by
  intro p
  induction p with
  | zero => intro l; exact Nat.le_refl 0
  | succ p ih => intro l; rw [bitN]; have := ih (l / 2); omega
theorem bitN_0 : ∀ (p : Nat), bitN p 0 = 0 := by
  intro p
  induction p with
  | zero => rfl
  | succ p ih => rw [bitN]; exact (by omega : ∀ x, x = 0 → x + 0 % 2 = 0) _ ih
theorem bitN_64 {l : Nat} (h : l < 64) : bitN 12 l ≤ 6 := by
  have e : bitN 12 l = bitN 6 (l / 2 / 2 / 2 / 2 / 2 / 2) + l / 2 / 2 / 2 / 2 / 2 % 2 + l / 2 / 2 / 2 / 2 % 2 + l / 2 / 2 / 2 % 2 + l / 2 / 2 % 2 + l / 2 % 2 + l % 2 := rfl
  have z : l / 2 / 2 / 2 / 2 / 2 / 2 = 0 := by omega
  rw [e, z, bitN_0]
  omega
theorem or_all : ∀ k : Fin 6, ∀ l : Fin 32, l.val < 2 ^ k.val → nI l.val ||| ((1 : Int32) <<< (nI k.val &&& 31)) = nI (l.val + 2 ^ k.val) := by decide +kernel
theorem zero_all : ∀ k : Fin 6, (0 : Int32) <<< (nI k.val &&& 31) = 0 := by decide +kernel
theorem setS_nat {f : Nat → Int32} : ∀ (m : Nat), m ≤ 6 → (∀ k, k < m → b01 (f k)) → ∃ l, l < 2 ^ m ∧ setS f m = nI l := by
  intro m
  induction m with
  | zero => intro _ _; exact ⟨0, by decide, rfl⟩
  | succ m ih =>
    intro hm hf
    obtain ⟨l, h1, h2⟩ := ih (by omega) (fun k hk => hf k (by omega))
    rw [setS, h2]
    rcases hf m (by omega) with e | e
    · rw [e, zero_all ⟨m, by omega⟩]
      exact ⟨l, by rw [Nat.pow_succ]; omega, Int32.or_zero⟩
    · rw [e]
      have hp : 2 ^ m ≤ 2 ^ 5 := Nat.pow_le_pow_right (by decide) (by omega)
      exact ⟨l + 2 ^ m, by rw [Nat.pow_succ]; omega, or_all ⟨m, by omega⟩ ⟨l, by omega⟩ h1⟩
theorem sumS_nat {f : Nat → Int32} : ∀ (m : Nat), (∀ k, k < m → 0 ≤ f k ∧ f k ≤ 9999) → ∃ l, l ≤ 9999 * m ∧ sumS f m = nI l := by
  intro m
  induction m with
  | zero => intro _; exact ⟨0, by decide, rfl⟩
  | succ m ih =>
    intro hf
    obtain ⟨l, h1, h2⟩ := ih (fun k hk => hf k (by omega))
    obtain ⟨x, x1, x2⟩ := nat_of (n := 9999) (by decide) (hf m (by omega)).1 (hf m (by omega)).2
    rw [sumS, h2, x2, nI_add]
    exact ⟨l + x, by omega, rfl⟩
theorem lost_nat {m : Nat} {r : Nat → Int32} (ho : SeaOk m r) : ∃ l, l < 64 ∧ setS (fun k => r (6 + 7 * k + 5)) m = nI l := by
  obtain ⟨l, h1, h2⟩ := setS_nat (f := fun k => r (6 + 7 * k + 5)) m ho.2.1 (fun k hk => (ho.2.2.2 k hk).2.2.2.2.2.1)
  have hp : 2 ^ m ≤ 2 ^ 6 := Nat.pow_le_pow_right (by decide) ho.2.1
  exact ⟨l, by omega, h2⟩
theorem cost_nat {m : Nat} {r : Nat → Int32} (ho : SeaOk m r) : ∃ l, l ≤ 59994 ∧ sumS (fun k => r (6 + 7 * k + 3)) m = nI l := by
  obtain ⟨l, h1, h2⟩ := sumS_nat (f := fun k => r (6 + 7 * k + 3)) m (fun k hk => (ho.2.2.2 k hk).2.2.2.1)
  have := ho.2.1
  exact ⟨l, by omega, h2⟩
/-! count, status -/
theorem op_count {C D : Mem} (h : Rel C D) {N : Nat} (hN : 300 ≤ N) (a : Int32) : Both (mX11_count N C a) (mX12_count N D a) := by
  obtain ⟨m, ho, hc, he, hl, rd, rc, hm⟩ := h.1.get
  unfold mX11_count mX12_count
  by_cases c0 : a = (0 : Int32)
  · rw [if_pos c0, if_pos c0, rd, rc]; exact ⟨_, _, _, rfl, rfl, h⟩
  rw [if_neg c0, if_neg c0]
  by_cases c1 : a = (1 : Int32)
  · obtain ⟨n, -, t1, t2, -⟩ := h.2.2.2.1
    rw [if_pos c1, if_pos c1, t1, t2]; exact ⟨_, _, _, rfl, rfl, h⟩
  rw [if_neg c1, if_neg c1]
  by_cases c2 : a = (2 : Int32)
  · obtain ⟨l, l1, l2⟩ := hl
    rw [if_pos c2, if_pos c2, ← he.1 3 (by decide), l2, (bits_eq l1 hN).1, (bits_eq l1 hN).2]
    exact ⟨_, _, _, rfl, rfl, h⟩
  rw [if_neg c2, if_neg c2]
  by_cases c3 : a = (3 : Int32)
  · rw [if_pos c3, if_pos c3, c_costAll hc (by omega), m_costAll rd hm (by omega), he.cost]
    exact ⟨_, _, _, rfl, rfl, h⟩
  rw [if_neg c3, if_neg c3]
  exact bF0 h
theorem c_stat {C : Mem} {N : Nat} : ∀ (p n q : Nat), p < n → p + q = 7 → mX11_status_b32 N n C (sumS (C.1 7) q) (nI q) = some (sumS (C.1 7) 7, C) := by
  intro p
  induction p with
  | zero =>
    intro n q hn hq
    obtain ⟨n, rfl⟩ : ∃ z, n = z + 1 := ⟨n - 1, by omega⟩
    have e : q = 7 := by omega
    subst e
    rw [mX11_status_b32, if_pos (by decide)]
  | succ p ih =>
    intro n q hn hq
    obtain ⟨n, rfl⟩ : ∃ z, n = z + 1 := ⟨n - 1, by omega⟩
    rw [mX11_status_b32, if_neg (show ¬ (7 : Int32) ≤ nI q from nI_ge (b := 7) (by omega) (by decide)), if_pos (show ok (nI q) 7 from vp_in_nI (by omega) (by decide)), nI_clamp (by omega), nI_1]
    exact ih n (q + 1) (by omega) (by omega)
theorem m_stat {D : Mem} {a : Int32} {N : Nat} : ∀ (p n q : Nat), p < n → p + q = 7 → mX12_status_b21 N n D a (sumS (D.1 1) q) (nI q) = (if 0 ≤ a then (if ok a 7 then some (D.1 1 a.toNatClampNeg, D) else none) else some (sumS (D.1 1) 7, D)) := by
  intro p
  induction p with
  | zero =>
    intro n q hn hq
    obtain ⟨n, rfl⟩ : ∃ z, n = z + 1 := ⟨n - 1, by omega⟩
    have e : q = 7 := by omega
    subst e
    rw [mX12_status_b21, if_pos (show (7 : Int32) ≤ nI 7 by decide)]
    by_cases c : 0 ≤ a
    · rw [if_pos c, if_pos c, if_pos c]
    · rw [if_neg c, if_neg c]
  | succ p ih =>
    intro n q hn hq
    obtain ⟨n, rfl⟩ : ∃ z, n = z + 1 := ⟨n - 1, by omega⟩
    rw [mX12_status_b21, if_neg (show ¬ (7 : Int32) ≤ nI q from nI_ge (b := 7) (by omega) (by decide)), if_pos (show ok (nI q) 7 from vp_in_nI (by omega) (by decide)), nI_clamp (by omega), nI_1]
    exact ih n (q + 1) (by omega) (by omega)
theorem op_status {C D : Mem} (h : Rel C D) {N : Nat} (hN : 300 ≤ N) (a : Int32) : Both (mX11_status N C a) (mX12_status N D a) := by
  unfold mX11_status mX12_status
  simp only [c_in, m_in, Option.bind_some]
  by_cases c1 : inS a (-1) 6 = 0
  · rw [if_pos c1, if_pos c1]; exact bF0 h
  rw [if_neg c1, if_neg c1]
  have i1 := inS_1 c1
  rw [show mX12_status_b21 N N D a (0 : Int32) (0 : Int32) = _ from m_stat (D := D) (a := a) (N := N) 7 N 0 (by omega) (by omega)]
  by_cases c : a < 0
  · rw [if_pos c, if_neg (show ¬ 0 ≤ a by grind), show mX11_status_b32 N N C (0 : Int32) (0 : Int32) = _ from c_stat (C := C) (N := N) 7 N 0 (by omega) (by omega), sumS_cong (f := C.1 7) (g := D.1 1) 7 h.2.2.1]
    exact ⟨_, _, _, rfl, rfl, h⟩
  · rw [if_neg c, if_pos (show 0 ≤ a by grind)]
    obtain ⟨x, hx, rfl⟩ := nat_of (n := 6) (by decide) (show 0 ≤ a by grind) i1.2
    rw [if_pos (show ok (nI x) 7 from vp_in_nI (by omega) (by decide)), if_pos (show ok (nI x) 7 from vp_in_nI (by omega) (by decide)), nI_clamp (by omega), h.2.2.1 x (by omega)]
    exact ⟨_, _, _, rfl, rfl, h⟩
