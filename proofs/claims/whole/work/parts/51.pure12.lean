/-! ===== PURE 12: shine, hour, site ===== -/
/-- a sea changed alike in both, hours passed: what is lost, what it costs -/
theorem try2 {C D E : Mem} {m t N : Nat} {g gd : Nat → Int32} (hN : 300 ≤ N) (ht : t ≤ 100) (hlk : Lk D E) (hg : SeaOk m g) (he : SeaEq m gd g) :
    ∃ (l c : Nat) (X : Nat → Int32) (E2 : Mem), l < 64 ∧ c ≤ 59994 ∧ mX4_pass N 2 (sR C 2 g) (nI t) = some (sR C 2 (passC m t g)) ∧ mX4_lostOnes N 2 (sR C 2 (passC m t g)) = some (nI l) ∧ mX4_costOfAll N 2 (sR C 2 (passC m t g)) = some (nI c)
      ∧ mX12_passes N (sR E 0 gd) (nI t) = some (sR E 0 X) ∧ mX12_setOf N (sR E 0 X) (5 : Int32) = some (nI l) ∧ mX12_costOfAll N (sR E 0 X) = some (nI c) ∧ mX12_moveAll N 2 (sR E 0 X) (0 : Int32) = some E2 ∧ Lk D E2 := by
  have hm := hg.2.1
  have hf3 : SeaOk m (passC m t g) := hg.pass.eq passC_eq.symm
  have e3 := he.ahead (t := t)
  have r0 : gd 5 = nI m := by rw [he.1 5 (by decide)]; exact hg.1
  have r3 : passR m t gd 5 = nI m := by rw [passR_e (by decide) (by decide)]; exact r0
  obtain ⟨l, l1, l2⟩ := lost_nat hf3
  obtain ⟨c, c1, c2⟩ := cost_nat hf3
  obtain ⟨E2, hE2, hlk2⟩ := lk_back hN hlk (passR m t gd)
  refine ⟨l, c, passR m t gd, E2, l1, c1, c_pass2 hg ht hN, ?_, ?_, m_pass2 r0 hm ht hN, ?_, ?_, hE2, hlk2⟩
  · rw [c_lost2 hf3 hN, l2]
  · rw [c_cost2 hf3 hN, c2]
  · rw [m_lost2 r3 hm hN, e3.lost, l2]
  · rw [m_cost2 r3 hm hN, e3.cost, c2]
theorem bits6 {l N : Nat} (hl : l < 64) (hN : 300 ≤ N) : ∃ B : Nat, B ≤ 6 ∧ mX12_bits N (nI l) = some (nI B) ∧ mJ6_bitCount_0f7a4 (nI l) = some (nI B) := by
  have h := bits_eq (l := l) (N := N) (Nat.lt_trans hl (by decide)) hN
  exact ⟨bitN 12 l, bitN_64 hl, h.1, h.2⟩
theorem bind2 {α β γ : Type} {x : Option α} {g : α → Option β} {K : β → Option γ} {u : α} {v : β} (h1 : x = some u) (h2 : g u = some v) : (x.bind fun r => (g r).bind K) = K v := by
  subst h1
  show (g u).bind K = K v
  rw [h2]
  rfl
section TRY
variable {C D : Mem} {N m t : Nat}
theorem c_bec {f : Nat → Int32} (hN : 300 ≤ N) (hc : SeaOk m (C.1 0)) : mX4_become N 2 (sR C 2 f) 0 = some (sR C 2 (mvq (6 + 7 * m) f (C.1 0))) := by
  rw [c_become (C := sR C 2 f) (m := m) (by decide) (by rw [sR_o (by decide)]; exact hc) hN, sR_s, sR_sR, sR_o (by decide)]
theorem shine_b (hN : 300 ≤ N) (ht : t ≤ 100) (h : Rel C D) (hc : SeaOk m (C.1 0)) (he : SeaEq m (D.1 0) (C.1 0)) : ∀ (p n n2 q : Nat) (f : Nat → Int32) (E : Mem) (b l : Int32), p < n → p < n2 → p + q = 10 → Lk D E →
    Both (mX11_shine_b25 N n (sR C 2 f) (nI t) b l (nI q)) (mX12_shine_b34 N n2 E (nI t) b l (nI q)) := by
  have hm := hc.2.1
  intro p
  induction p with
  | zero =>
    intro n n2 q f E b l hn hn2 hq hlk
    obtain ⟨n, rfl⟩ : ∃ z, n = z + 1 := ⟨n - 1, by omega⟩
    obtain ⟨n2, rfl⟩ : ∃ z, n2 = z + 1 := ⟨n2 - 1, by omega⟩
    have e : q = 10 := by omega
    subst e
    rw [mX11_shine_b25, mX12_shine_b34, if_pos (show (9 : Int32) < nI 10 by decide), if_pos (show (10 : Int32) ≤ nI 10 by decide)]
    exact ⟨_, _, _, rfl, rfl, lk_rel (tr_rel h f) hlk⟩
  | succ p ih =>
    intro n n2 q f E b l hn hn2 hq hlk
    obtain ⟨n, rfl⟩ : ∃ z, n = z + 1 := ⟨n - 1, by omega⟩
    obtain ⟨n2, rfl⟩ : ∃ z, n2 = z + 1 := ⟨n2 - 1, by omega⟩
    have v : 0 ≤ nI q ∧ nI q ≤ 9 := ⟨nI_pos' (by omega), nI_le (b := 9) (by omega) (by decide)⟩
    have e2 : SeaEq m (E.1 0) (mvq (6 + 7 * m) f (C.1 0)) := (lk_eq hm hlk).symm.trans (he.trans mvq_eq)
    have hf : SeaOk m (mvq (6 + 7 * m) f (C.1 0)) := hc.eq mvq_eq
    obtain ⟨L, K, X, E2, l1, k1, z1, z2, z3, z4, z5, z6, z7, z8⟩ := try2 (C := C) hN ht hlk (seaOk_upd hf (i := 4) (v := nI q) (by decide) (by omega) (by omega) (fun _ => v)) (seaEq_upd (v := nI q) e2 (i := 4) (by decide))
    rw [mX11_shine_b25, mX12_shine_b34, if_neg (show ¬ (9 : Int32) < nI q from nI_nlt (a := 9) (by omega) (by decide)), if_neg (show ¬ (10 : Int32) ≤ nI q from nI_ge (b := 10) (by omega) (by decide)), c_bec hN hc]
    simp only [Option.bind_some]
    rw [sI_sR, sI_sR, sR_s, sR_sR, z1, z4]
    simp only [Option.bind_some]
    obtain ⟨B, hb6, b1, b2⟩ := bits6 l1 hN
    rw [bind2 (g := mJ6_bitCount_0f7a4) z2 b2, bind2 (g := mX12_bits N) z5 b1]
    rw [z7]
    simp only [Option.bind_some]
    unfold mX12_shine_b85
    rw [nI_1]
    by_cases c : l ≤ nI B
    · rw [if_pos c, if_pos c, if_pos c]
      exact ih n n2 (q + 1) _ E2 b l (by omega) (by omega) (by omega) z8
    · rw [if_neg c, if_neg c, if_neg c]
      exact ih n n2 (q + 1) _ E2 (nI q) _ (by omega) (by omega) (by omega) z8
/-- at first, or later -/
def Hst (q : Nat) (a la b lb : Int32) : Prop := (q = 0 ∧ la = (59995 : Int32) ∧ b = (-1 : Int32)) ∨ (∃ j : Nat, j < 300 ∧ a = nI j ∧ b = nI j ∧ la = lb)
theorem hour_b (hN : 300 ≤ N) (ht : t ≤ 100) (h : Rel C D) (hc : SeaOk m (C.1 0)) (he : SeaEq m (D.1 0) (C.1 0)) : ∀ (p n n2 q : Nat) (f : Nat → Int32) (E : Mem) (a la b lb : Int32), p < n → p < n2 → p + q = 12 → Lk D E → Hst q a la b lb →
    Both (mX11_hour_b25 N n (sR C 2 f) (nI t) a la (nI q)) (mX12_hour_b33 N n2 E (nI t) b lb (nI q)) := by
  have hm := hc.2.1
  intro p
  induction p with
  | zero =>
    intro n n2 q f E a la b lb hn hn2 hq hlk hh
    obtain ⟨n, rfl⟩ : ∃ z, n = z + 1 := ⟨n - 1, by omega⟩
    obtain ⟨n2, rfl⟩ : ∃ z, n2 = z + 1 := ⟨n2 - 1, by omega⟩
    have e : q = 12 := by omega
    subst e
    rw [mX11_hour_b25, mX12_hour_b33, if_pos (show (12 : Int32) ≤ nI 12 by decide), if_pos (show (12 : Int32) ≤ nI 12 by decide)]
    rcases hh with ⟨z, -⟩ | ⟨j, -, rfl, rfl, -⟩
    · omega
    · exact ⟨_, _, _, rfl, rfl, lk_rel (tr_rel h f) hlk⟩
  | succ p ih =>
    intro n n2 q f E a la b lb hn hn2 hq hlk hh
    obtain ⟨n, rfl⟩ : ∃ z, n = z + 1 := ⟨n - 1, by omega⟩
    obtain ⟨n2, rfl⟩ : ∃ z, n2 = z + 1 := ⟨n2 - 1, by omega⟩
    have e2 : SeaEq m (E.1 0) (mvq (6 + 7 * m) f (C.1 0)) := (lk_eq hm hlk).symm.trans (he.trans mvq_eq)
    have hf : SeaOk m (mvq (6 + 7 * m) f (C.1 0)) := hc.eq mvq_eq
    have eL : E.1 0 3 = C.1 0 3 := by rw [e2.1 3 (by decide), mvq_in (by omega)]
    obtain ⟨L, K, X, E2, l1, k1, z1, z2, z3, z4, z5, z6, z7, z8⟩ := try2 (C := C) hN ht hlk (seaOk_upd hf (i := 3) (v := C.1 0 3 ^^^ ((1 : Int32) <<< (nI q &&& 31))) (by decide) (by omega) (by omega) (by omega)) (seaEq_upd (v := C.1 0 3 ^^^ ((1 : Int32) <<< (nI q &&& 31))) e2 (i := 3) (by decide))
    rw [mX11_hour_b25, mX12_hour_b33, if_neg (show ¬ (12 : Int32) ≤ nI q from nI_ge (b := 12) (by omega) (by decide)), if_neg (show ¬ (12 : Int32) ≤ nI q from nI_ge (b := 12) (by omega) (by decide)), c_bec hN hc]
    simp only [Option.bind_some]
    rw [sR_o (show (0 : Nat) ≠ 2 by decide), eL, sI_sR, sI_sR, sR_s, sR_sR, z1, z4]
    simp only [Option.bind_some]
    rw [z3, z6]
    simp only [Option.bind_some]
    rw [z7]
    simp only [Option.bind_some]
    unfold mX12_hour_b83 mX12_hour_b88 mX12_hour_b101
    rw [nI_1]
    rcases hh with ⟨rfl, rfl, rfl⟩ | ⟨j, hj, rfl, rfl, rfl⟩
    · rw [if_neg (show ¬ (59995 : Int32) ≤ nI K from nI_ge (b := 59995) (by omega) (by decide)), if_pos (show (-1 : Int32) < 0 by decide), if_neg (show ¬ (1 : Int32) = 0 by decide), if_neg (show ¬ (1 : Int32) = 0 by decide)]
      exact ih n n2 (0 + 1) _ E2 (nI 0) _ (nI 0) _ (by omega) (by omega) (by omega) z8 (Or.inr ⟨0, by decide, rfl, rfl, rfl⟩)
    · rw [if_neg (nI_pos (by omega))]
      by_cases c : la ≤ nI K
      · rw [if_pos c, if_pos c, if_pos rfl, if_pos rfl]
        exact ih n n2 (q + 1) _ E2 (nI j) _ (nI j) _ (by omega) (by omega) (by omega) z8 (Or.inr ⟨j, hj, rfl, rfl, rfl⟩)
      · rw [if_neg c, if_neg c, if_neg (show ¬ (1 : Int32) = 0 by decide), if_neg (show ¬ (1 : Int32) = 0 by decide)]
        exact ih n n2 (q + 1) _ E2 (nI q) _ (nI q) _ (by omega) (by omega) (by omega) z8 (Or.inr ⟨q, by omega, rfl, rfl, rfl⟩)
def Sst (q : Nat) (a fa la b lb : Int32) : Prop := (q = 0 ∧ fa = (7 : Int32) ∧ la = (59995 : Int32) ∧ b = (-1 : Int32)) ∨ (∃ j x y : Nat, j < 300 ∧ x ≤ 6 ∧ y ≤ 59994 ∧ a = nI j ∧ b = nI j ∧ fa = nI x ∧ la = nI y ∧ lb = nI (100000 * x + y))
theorem site_b (hN : 300 ≤ N) (ht : t ≤ 100) (h : Rel C D) (hc : SeaOk m (C.1 0)) (he : SeaEq m (D.1 0) (C.1 0)) : ∀ (p n n2 q : Nat) (f : Nat → Int32) (E : Mem) (a fa la b lb : Int32), p < n → p < n2 → p + q = 200 → Lk D E → Sst q a fa la b lb →
    Both (mX11_site_b29 N n (sR C 2 f) (nI t) a fa la (nI q)) (mX12_site_b33 N n2 E (nI t) b lb (nI q)) := by
  have hm := hc.2.1
  intro p
  induction p with
  | zero =>
    intro n n2 q f E a fa la b lb hn hn2 hq hlk hh
    obtain ⟨n, rfl⟩ : ∃ z, n = z + 1 := ⟨n - 1, by omega⟩
    obtain ⟨n2, rfl⟩ : ∃ z, n2 = z + 1 := ⟨n2 - 1, by omega⟩
    have e : q = 200 := by omega
    subst e
    rw [mX11_site_b29, mX12_site_b33, if_pos (show (199 : Int32) < nI 200 by decide), if_pos (show (200 : Int32) ≤ nI 200 by decide)]
    rcases hh with ⟨z, -⟩ | ⟨j, x, y, -, -, -, rfl, rfl, -⟩
    · omega
    · exact ⟨_, _, _, rfl, rfl, lk_rel (tr_rel h f) hlk⟩
  | succ p ih =>
    intro n n2 q f E a fa la b lb hn hn2 hq hlk hh
    obtain ⟨n, rfl⟩ : ∃ z, n = z + 1 := ⟨n - 1, by omega⟩
    obtain ⟨n2, rfl⟩ : ∃ z, n2 = z + 1 := ⟨n2 - 1, by omega⟩
    have e2 : SeaEq m (E.1 0) (mvq (6 + 7 * m) f (C.1 0)) := (lk_eq hm hlk).symm.trans (he.trans mvq_eq)
    have hf : SeaOk m (mvq (6 + 7 * m) f (C.1 0)) := hc.eq mvq_eq
    have d1 : nI q / (10 : Int32) = nI (q / 10) := pk_div (d := 10) (by omega) (by decide) (by decide)
    have d2 : nI q - nI q / (10 : Int32) * (10 : Int32) = nI (q % 10) := pk_rem (d := 10) (by omega) (by decide) (by decide)
    have v1 : 0 ≤ nI (q / 10) ∧ nI (q / 10) ≤ 19 := ⟨nI_pos' (by omega), nI_le (b := 19) (by omega) (by decide)⟩
    have v2 : 0 ≤ nI (q % 10) ∧ nI (q % 10) ≤ 9 := ⟨nI_pos' (by omega), nI_le (b := 9) (by omega) (by decide)⟩
    obtain ⟨L, K, X, E2, l1, k1, z1, z2, z3, z4, z5, z6, z7, z8⟩ := try2 (C := C) hN ht hlk (seaOk_upd (seaOk_upd hf (i := 1) (v := nI (q / 10)) (by decide) (fun _ => v1) (by omega) (by omega)) (i := 2) (v := nI (q % 10)) (by decide) (by omega) (fun _ => v2) (by omega)) (seaEq_upd (v := nI (q % 10)) (seaEq_upd (v := nI (q / 10)) e2 (i := 1) (by decide)) (i := 2) (by decide))
    rw [mX11_site_b29, mX12_site_b33, if_neg (show ¬ (199 : Int32) < nI q from nI_nlt (a := 199) (by omega) (by decide)), if_neg (show ¬ (200 : Int32) ≤ nI q from nI_ge (b := 200) (by omega) (by decide)), c_bec hN hc]
    unfold mX12_stands
    simp only [Option.bind_some]
    rw [d2, d1, sI_sR, sI_sR, sI_sR, sI_sR, sR_s, sR_sR, sR_s, sR_sR, sR_s, sR_sR, z1, z4]
    simp only [Option.bind_some]
    obtain ⟨B, hb6, b1, b2⟩ := bits6 l1 hN
    rw [bind2 (g := mJ6_bitCount_0f7a4) z2 b2, bind2 (g := mX12_bits N) z5 b1]
    rw [z3, z6, z7]
    simp only [Option.bind_some]
    have eb : ((100000 : Int32) * nI B) + nI K = nI (100000 * B + K) := by
      show nI 100000 * nI B + nI K = _
      rw [pk_mul, nI_add]
    unfold mX12_site_b89 mX12_site_b94 mX12_site_b107
    rw [nI_1, eb]
    rcases hh with ⟨rfl, rfl, rfl, rfl⟩ | ⟨j, x, y, hj, hx, hy, rfl, rfl, rfl, rfl, rfl⟩
    · rw [if_pos (show nI B < (7 : Int32) from nI_lt (b := 7) (by omega) (by decide)), if_pos (show (-1 : Int32) < 0 by decide), if_neg (show ¬ (1 : Int32) = 0 by decide), if_neg (show ¬ (1 : Int32) = 0 by decide)]
      exact ih n n2 (0 + 1) _ E2 (nI 0) _ _ (nI 0) _ (by omega) (by omega) (by omega) z8 (Or.inr ⟨0, B, K, by decide, hb6, k1, rfl, rfl, rfl, rfl, rfl⟩)
    · rw [if_neg (show ¬ nI j < 0 from nI_pos (by omega))]
      have take : 100000 * B + K < 100000 * x + y → Both (mX11_site_b29 N n (sR C 2 (passC m t (upd (upd (mvq (6 + 7 * m) f (C.1 0)) 1 (nI (q / 10))) 2 (nI (q % 10))))) (nI t) (nI q) (nI B) (nI K) (nI (q + 1))) (if nI (100000 * x + y) ≤ nI (100000 * B + K) then (if (0 : Int32) = 0 then (if (0 : Int32) = 0 then mX12_site_b33 N n2 E2 (nI t) (nI j) (nI (100000 * x + y)) (nI (q + 1)) else mX12_site_b33 N n2 E2 (nI t) (nI j) (nI (100000 * B + K)) (nI (q + 1))) else (if (0 : Int32) = 0 then mX12_site_b33 N n2 E2 (nI t) (nI q) (nI (100000 * x + y)) (nI (q + 1)) else mX12_site_b33 N n2 E2 (nI t) (nI q) (nI (100000 * B + K)) (nI (q + 1)))) else (if (1 : Int32) = 0 then (if (1 : Int32) = 0 then mX12_site_b33 N n2 E2 (nI t) (nI j) (nI (100000 * x + y)) (nI (q + 1)) else mX12_site_b33 N n2 E2 (nI t) (nI j) (nI (100000 * B + K)) (nI (q + 1))) else (if (1 : Int32) = 0 then mX12_site_b33 N n2 E2 (nI t) (nI q) (nI (100000 * x + y)) (nI (q + 1)) else mX12_site_b33 N n2 E2 (nI t) (nI q) (nI (100000 * B + K)) (nI (q + 1))))) := by
        intro hlt
        rw [if_neg (nI_ge hlt (by omega)), if_neg (show ¬ (1 : Int32) = 0 by decide), if_neg (show ¬ (1 : Int32) = 0 by decide)]
        exact ih n n2 (q + 1) _ E2 (nI q) _ _ (nI q) _ (by omega) (by omega) (by omega) z8 (Or.inr ⟨q, B, K, by omega, hb6, k1, rfl, rfl, rfl, rfl, rfl⟩)
      have leave : 100000 * x + y ≤ 100000 * B + K → Both (mX11_site_b29 N n (sR C 2 (passC m t (upd (upd (mvq (6 + 7 * m) f (C.1 0)) 1 (nI (q / 10))) 2 (nI (q % 10))))) (nI t) (nI j) (nI x) (nI y) (nI (q + 1))) (if nI (100000 * x + y) ≤ nI (100000 * B + K) then (if (0 : Int32) = 0 then (if (0 : Int32) = 0 then mX12_site_b33 N n2 E2 (nI t) (nI j) (nI (100000 * x + y)) (nI (q + 1)) else mX12_site_b33 N n2 E2 (nI t) (nI j) (nI (100000 * B + K)) (nI (q + 1))) else (if (0 : Int32) = 0 then mX12_site_b33 N n2 E2 (nI t) (nI q) (nI (100000 * x + y)) (nI (q + 1)) else mX12_site_b33 N n2 E2 (nI t) (nI q) (nI (100000 * B + K)) (nI (q + 1)))) else (if (1 : Int32) = 0 then (if (1 : Int32) = 0 then mX12_site_b33 N n2 E2 (nI t) (nI j) (nI (100000 * x + y)) (nI (q + 1)) else mX12_site_b33 N n2 E2 (nI t) (nI j) (nI (100000 * B + K)) (nI (q + 1))) else (if (1 : Int32) = 0 then mX12_site_b33 N n2 E2 (nI t) (nI q) (nI (100000 * x + y)) (nI (q + 1)) else mX12_site_b33 N n2 E2 (nI t) (nI q) (nI (100000 * B + K)) (nI (q + 1))))) := by
        intro hge
        rw [if_pos (nI_le hge (by omega)), if_pos rfl, if_pos rfl]
        exact ih n n2 (q + 1) _ E2 (nI j) _ _ (nI j) _ (by omega) (by omega) (by omega) z8 (Or.inr ⟨j, x, y, hj, hx, hy, rfl, rfl, rfl, rfl, rfl⟩)
      by_cases c1 : B < x
      · rw [if_pos (nI_lt c1 (by omega))]
        exact take (by omega)
      rw [if_neg (nI_nlt (by omega) (by omega))]
      by_cases c2 : B = x
      · rw [if_pos (by rw [c2])]
        by_cases c3 : y ≤ K
        · rw [if_pos (nI_le c3 (by omega))]
          exact leave (by omega)
        · rw [if_neg (nI_ge (by omega) (by omega))]
          exact take (by omega)
      · rw [if_neg (show ¬ nI B = nI x from fun z => c2 ((nI_eq (by omega) (by omega)).mp z))]
        exact leave (by omega)
end TRY
theorem op_shine {C D : Mem} (h : Rel C D) {N : Nat} (hN : 300 ≤ N) (a : Int32) : Both (mX11_shine N C a) (mX12_shine N D a) := by
  obtain ⟨m, ho, hc, he, hl, rd, rc, hm⟩ := h.1.get
  unfold mX11_shine mX12_shine
  simp only [c_in, m_in, Option.bind_some]
  by_cases c1 : inS a 1 60 = 0
  · rw [if_pos c1, if_pos c1]; exact bF0 h
  rw [if_neg c1, if_neg c1]
  have i1 := inS_1 c1
  obtain ⟨t, ht, rfl⟩ := nat_of (n := 60) (by decide) (show 0 ≤ a by grind) i1.2
  obtain ⟨E, hE, hlk⟩ := lk_start (D := D) hN
  rw [hE]
  simp only [Option.bind_some]
  have z := shine_b hN (t := t) (by omega) h hc he 10 N N 0 (C.1 2) E 0 7 (by omega) (by omega) (by omega) hlk
  rw [sR_self] at z
  exact z
theorem op_hour {C D : Mem} (h : Rel C D) {N : Nat} (hN : 300 ≤ N) (a : Int32) : Both (mX11_hour N C a) (mX12_hour N D a) := by
  obtain ⟨m, ho, hc, he, hl, rd, rc, hm⟩ := h.1.get
  unfold mX11_hour mX12_hour
  simp only [c_in, m_in, Option.bind_some]
  by_cases c1 : inS a 1 60 = 0
  · rw [if_pos c1, if_pos c1]; exact bF0 h
  rw [if_neg c1, if_neg c1]
  have i1 := inS_1 c1
  obtain ⟨t, ht, rfl⟩ := nat_of (n := 60) (by decide) (show 0 ≤ a by grind) i1.2
  obtain ⟨E, hE, hlk⟩ := lk_start (D := D) hN
  rw [hE]
  simp only [Option.bind_some]
  have z := hour_b hN (t := t) (by omega) h hc he 12 N N 0 (C.1 2) E 0 59995 (-1) 0 (by omega) (by omega) (by omega) hlk (Or.inl ⟨rfl, rfl, rfl⟩)
  rw [sR_self] at z
  exact z
theorem op_site {C D : Mem} (h : Rel C D) {N : Nat} (hN : 300 ≤ N) (a : Int32) : Both (mX11_site N C a) (mX12_site N D a) := by
  obtain ⟨m, ho, hc, he, hl, rd, rc, hm⟩ := h.1.get
  unfold mX11_site mX12_site
  simp only [c_in, m_in, Option.bind_some]
  by_cases c1 : inS a 1 40 = 0
  · rw [if_pos c1, if_pos c1]; exact bF0 h
  rw [if_neg c1, if_neg c1]
  have i1 := inS_1 c1
  obtain ⟨t, ht, rfl⟩ := nat_of (n := 40) (by decide) (show 0 ≤ a by grind) i1.2
  obtain ⟨E, hE, hlk⟩ := lk_start (D := D) hN
  rw [hE]
  simp only [Option.bind_some]
  have z := site_b hN (t := t) (by omega) h hc he 200 N N 0 (C.1 2) E 0 7 59995 (-1) 0 (by omega) (by omega) (by omega) hlk (Or.inl ⟨rfl, rfl, rfl, rfl⟩)
  rw [sR_self] at z
  exact z
