/-! ===== PURE 18: the model's tokens ===== -/
theorem nI_sub {a b : Nat} (h : b ≤ a) : nI a - nI b = nI (a - b) := by
  have e : nI a = nI (a - b) + nI b := by rw [nI_add]; congr 1; omega
  rw [e, Int32.add_sub_cancel]
theorem b207_no {N : Nat} (hN : 300 ≤ N) {M : Mem} (h : ¬ M.1 9 6 = (2 : Int32)) : mX12_advance_b207 N N M = some M := by
  have : ∀ (K z : Nat), mX12_advance_b207 K (z + 1) M = some M := fun K z => by rw [mX12_advance_b207, if_neg h]
  obtain ⟨z, hz⟩ : ∃ z, N = z + 1 := ⟨N - 1, by omega⟩
  have t := this N z
  rw [← hz] at t
  exact t
theorem b126_no {N : Nat} (hN : 300 ≤ N) {M : Mem} (h : ¬ M.1 9 6 = (1 : Int32)) : mX12_advance_b126 N N M = mX12_advance_b207 N N M := by
  have : ∀ (K z : Nat), mX12_advance_b126 K (z + 1) M = mX12_advance_b207 K K M := fun K z => by rw [mX12_advance_b126, if_neg h]
  obtain ⟨z, hz⟩ : ∃ z, N = z + 1 := ⟨N - 1, by omega⟩
  have t := this N z
  rw [← hz] at t
  exact t
section MLOOPS
variable {N n : Nat}
theorem m_run1 (hN : 300 ≤ N) (hn : n ≤ 120) {st : Nat} : ∀ (p n1 q : Nat) (M : Mem) (w : Int64), p + q = n → p < n1 → st ≤ q → M.1 9 5 = nI n → M.1 9 6 = (1 : Int32) → M.1 9 7 = nI st → M.1 9 8 = nI q → M.2 2 9 = w → mX12_advance_b126 N n1 M = some (sI (sJ M 2 9 (wcd (M.1 4) st p q w)) 9 8 (nI (runE isL (M.1 4) p q))) := by
  intro p
  induction p with
  | zero =>
    intro n1 q M w hq h1 hs a1 a2 a3 a4 a5
    obtain ⟨n1, rfl⟩ : ∃ z, n1 = z + 1 := ⟨n1 - 1, by omega⟩
    rw [mX12_advance_b126, if_pos a2, a4, m_byte_e a1 (by omega) (by omega), Option.bind_some, m_letter, Option.bind_some, if_pos (by decide), runE, wcd, sJ_id a5, sI_id a4]
    exact b207_no hN (by rw [a2]; decide)
  | succ p ih =>
    intro n1 q M w hq h1 hs a1 a2 a3 a4 a5
    obtain ⟨n1, rfl⟩ : ∃ z, n1 = z + 1 := ⟨n1 - 1, by omega⟩
    rw [mX12_advance_b126, if_pos a2, a4, m_byte a1 hn (by omega), Option.bind_some, m_letter, Option.bind_some, runE, wcd]
    by_cases c : isL (M.1 4 q)
    · have c0 : ¬ inS (M.1 4 q) 97 122 = 0 := fun z => (inS_L _).mp z c
      rw [if_neg c0, if_pos c, if_pos c, a3, nI_sub hs, Option.bind_some, a5]
      have step : ∀ (x : Int64), mX12_advance_b126 N n1 (sI (sJ M 2 9 x) 9 8 (((sJ M 2 9 x).1 9 8) + (1 : Int32))) = some (sI (sJ M 2 9 (wcd (M.1 4) st p (q + 1) x)) 9 8 (nI (runE isL (M.1 4) p (q + 1)))) := by
        intro x
        have e4 : (sJ M 2 9 x).1 9 8 = nI q := a4
        rw [e4, nI_1, ih n1 (q + 1) (sI (sJ M 2 9 x) 9 8 (nI (q + 1))) x (by omega) (by omega) (by omega) a1 a2 a3 (upd_s (M.1 9) 8 (nI (q + 1))) (vp_updL_s (M.2 2) 9 x)]
        show some (sI (sI (sJ (sJ M 2 9 x) 2 9 (wcd (M.1 4) st p (q + 1) x)) 9 8 (nI (q + 1))) 9 8 (nI (runE isL (M.1 4) p (q + 1)))) = _
        rw [sI_sI, sJ_sJ]
      by_cases c2 : 12 ≤ q - st
      · rw [if_pos (show (12 : Int32) ≤ nI (q - st) from nI_le (a := 12) c2 (by omega)), if_pos c2]
        exact step _
      · rw [if_neg (show ¬ (12 : Int32) ≤ nI (q - st) from nI_ge (b := 12) (by omega) (by decide)), if_neg c2]
        exact step _
    · rw [if_pos ((inS_L _).mpr c), if_neg c, if_neg c, sJ_id a5, sI_id a4]
      exact b207_no hN (by rw [a2]; decide)
theorem m_run2 (hN : 300 ≤ N) (hn : n ≤ 120) : ∀ (p n1 q : Nat) (M : Mem) (v : Int32), p + q = n → p < n1 → M.1 9 5 = nI n → M.1 9 6 = (2 : Int32) → M.1 9 8 = nI q → M.1 9 10 = v → mX12_advance_b207 N n1 M = some (sI (sI M 9 10 (mval (M.1 4) p q v)) 9 8 (nI (runE isD (M.1 4) p q))) := by
  intro p
  induction p with
  | zero =>
    intro n1 q M v hq h1 a1 a2 a4 a5
    obtain ⟨n1, rfl⟩ : ∃ z, n1 = z + 1 := ⟨n1 - 1, by omega⟩
    rw [mX12_advance_b207, if_pos a2, a4, m_byte_e a1 (by omega) (by omega), Option.bind_some, m_digit, Option.bind_some, if_pos (by decide), runE, mval, sI_id a5, sI_id a4]
  | succ p ih =>
    intro n1 q M v hq h1 a1 a2 a4 a5
    obtain ⟨n1, rfl⟩ : ∃ z, n1 = z + 1 := ⟨n1 - 1, by omega⟩
    rw [mX12_advance_b207, if_pos a2, a4, m_byte a1 hn (by omega), Option.bind_some, m_digit, Option.bind_some, runE, mval]
    by_cases c : isD (M.1 4 q)
    · have c0 : ¬ inS (M.1 4 q) 48 57 = 0 := fun z => (inS_D _).mp z c
      rw [if_neg c0, if_pos c, if_pos c, Option.bind_some, a5]
      have step : ∀ (x : Int32), mX12_advance_b207 N n1 (sI (sI M 9 10 x) 9 8 (((sI M 9 10 x).1 9 8) + (1 : Int32))) = some (sI (sI M 9 10 (mval (M.1 4) p (q + 1) x)) 9 8 (nI (runE isD (M.1 4) p (q + 1)))) := by
        intro x
        have e4 : (sI M 9 10 x).1 9 8 = nI q := a4
        rw [e4, nI_1, ih n1 (q + 1) (sI (sI M 9 10 x) 9 8 (nI (q + 1))) x (by omega) (by omega) a1 a2 (upd_s ((sI M 9 10 x).1 9) 8 (nI (q + 1))) (upd_s (M.1 9) 10 x)]
        show some (sI (sI (sI (sI M 9 10 x) 9 8 (nI (q + 1))) 9 10 (mval (M.1 4) p (q + 1) x)) 9 8 (nI (runE isD (M.1 4) p (q + 1)))) = _
        rw [sI4 M 9 (by decide)]
      by_cases c2 : v ≤ (999 : Int32)
      · rw [if_pos c2, if_pos c2]
        exact step _
      · rw [if_neg c2, if_neg c2]
        exact step _
    · rw [if_pos ((inS_D _).mpr c), if_neg c, if_neg c, sI_id a5, sI_id a4]
end MLOOPS
