/-! ===== PURE 9: how soon ===== -/
section SOON
variable (tc tr lamp R : Int32)
/-- hours until a figure isn't 0, p left; one more than p if it stays so -/
def fB (fl : Shp → Int32) : Nat → Int32 → Shp → Nat
  | 0, _, s => if fl s = 0 then 1 else 0
  | p + 1, h, s => if fl s = 0 then fB fl p (h + (1 : Int32)) (hsS tc tr lamp R (hodS h) s) + 1 else 0
/-- hours until it is under way no more, p at most -/
def gE : Nat → Int32 → Shp → Nat
  | 0, _, _ => 0
  | p + 1, h, s => if s.2.2.2.2.2.1 = 0 ∧ s.2.2.2.2.2.2 = 0 then gE p (h + (1 : Int32)) (hsS tc tr lamp R (hodS h) s) + 1 else 0
theorem gE_le : ∀ (p : Nat) (h : Int32) (s : Shp), gE tc tr lamp R p h s ≤ p := by
  intro p
  induction p with
  | zero => intro h s; exact Nat.le_refl 0
  | succ p ih => intro h s; rw [gE]; split
                 · have := ih (h + (1 : Int32)) (hsS tc tr lamp R (hodS h) s); omega
                 · omega
theorem fB_le (fl : Shp → Int32) : ∀ (p : Nat) (h : Int32) (s : Shp), fB tc tr lamp R fl p h s ≤ p + 1 := by
  intro p
  induction p with
  | zero => intro h s; rw [fB]; split <;> omega
  | succ p ih => intro h s; rw [fB]; split
                 · have := ih (h + (1 : Int32)) (hsS tc tr lamp R (hodS h) s); omega
                 · omega
theorem fB_end {fl : Shp → Int32} {s : Shp} (hs : ¬ s.2.2.2.2.2.1 + s.2.2.2.2.2.2 = 0) (h0 : fl s = 0) : ∀ (p : Nat) (h : Int32), fB tc tr lamp R fl p h s = p + 1 := by
  intro p
  induction p with
  | zero => intro h; rw [fB, if_pos h0]
  | succ p ih => intro h; rw [fB, if_pos h0]; unfold hsS; rw [if_neg hs, ih]
theorem fB_gE {fl : Shp → Int32} (hfl : ∀ s : Shp, ¬ fl s = 0 → ¬ (s.2.2.2.2.2.1 = 0 ∧ s.2.2.2.2.2.2 = 0)) (h1 : 0 ≤ tc ∧ tc ≤ 19) (h2 : 0 ≤ tr ∧ tr ≤ 9) : ∀ (p : Nat) (h : Int32) (s : Shp), SOk s → (¬ fl (itS tc tr lamp R (gE tc tr lamp R p h s) h s) = 0 → fB tc tr lamp R fl p h s = gE tc tr lamp R p h s) ∧ (fl (itS tc tr lamp R (gE tc tr lamp R p h s) h s) = 0 → fB tc tr lamp R fl p h s = p + 1) := by
  intro p
  induction p with
  | zero =>
    intro h s hs
    rw [gE, itS, fB]
    exact ⟨fun z => by rw [if_neg z], fun z => by rw [if_pos z]⟩
  | succ p ih =>
    intro h s hs
    rw [gE, fB]
    by_cases c : s.2.2.2.2.2.1 = 0 ∧ s.2.2.2.2.2.2 = 0
    · have f0 : fl s = 0 := Classical.byContradiction (fun z => hfl s z c)
      rw [if_pos c, if_pos f0, itS]
      obtain ⟨k1, k2⟩ := ih (h + (1 : Int32)) (hsS tc tr lamp R (hodS h) s) (hsS_ok hs h1 h2)
      exact ⟨fun z => by rw [k1 z], fun z => by rw [k2 z]⟩
    · rw [if_neg c, itS]
      refine ⟨fun z => by rw [if_neg z], fun z => ?_⟩
      rw [if_pos z]
      have hne : ¬ s.2.2.2.2.2.1 + s.2.2.2.2.2.2 = 0 := fun q => c ((lb0 hs).mp q)
      unfold hsS
      rw [if_neg hne, fB_end tc tr lamp R hne z]
end SOON
/-- the class's one ship goes on -/
theorem c_end {C : Mem} {N : Nat} (hN : 300 ≤ N) : ∀ (p n q : Nat) (f : Nat → Int32), p < n → p + q = 100 → SeaOk 1 f → ∃ f2, mX11_hoursUntilEnd_b2 N n (sR C 2 f) (nI q) = some (nI (q + gE (f 1) (f 2) (f 3) (f 4) p (f 0) (shp f 0)), sR C 2 f2) ∧ shp f2 0 = itS (f 1) (f 2) (f 3) (f 4) (gE (f 1) (f 2) (f 3) (f 4) p (f 0) (shp f 0)) (f 0) (shp f 0) := by
  intro p
  induction p with
  | zero =>
    intro n q f hn hq hf
    obtain ⟨n, rfl⟩ : ∃ z, n = z + 1 := ⟨n - 1, by omega⟩
    have e : q = 100 := by omega
    subst e
    exact ⟨f, by rw [mX11_hoursUntilEnd_b2, if_pos (by decide)]; rfl, rfl⟩
  | succ p ih =>
    intro n q f hn hq hf
    obtain ⟨n, rfl⟩ : ∃ z, n = z + 1 := ⟨n - 1, by omega⟩
    have e0 : sR C 2 f = md (sR C 2 f) 2 f 0 (shp f 0) := by
      have := md_self (sR C 2 f) 2 0
      rw [sR_s] at this
      exact this.symm
    have u : mX10_isUnderWay 2 0 (sR C 2 f) = some (if (shp f 0).2.2.2.2.2.1 = 0 ∧ (shp f 0).2.2.2.2.2.2 = 0 then 1 else 0) := by
      rw [e0]; exact c_under
    rw [mX11_hoursUntilEnd_b2, if_neg (show ¬ (100 : Int32) ≤ nI q from nI_ge (b := 100) (by omega) (by decide)), u, gE]
    simp only [Option.bind_some]
    by_cases c : (shp f 0).2.2.2.2.2.1 = 0 ∧ (shp f 0).2.2.2.2.2.2 = 0
    · rw [if_pos c, if_neg (by decide), if_pos c, show mX4_pass N 2 (sR C 2 f) (1 : Int32) = some (sR C 2 (passC 1 1 f)) from c_pass2 (t := 1) hf (by decide) hN, nI_1]
      simp only [Option.bind_some]
      have hp : SeaOk 1 (passC 1 1 f) := hf.pass.eq passC_eq.symm
      obtain ⟨f2, k1, k2⟩ := ih n (q + 1) (passC 1 1 f) (by omega) (by omega) hp
      have e1 : ∀ i, 0 < i → i < 6 → passC 1 1 f i = f i := fun i h0 h6 => by rw [passC_eq.1 i h6, passR_e h0 h6]
      have e2 : passC 1 1 f 0 = f 0 + (1 : Int32) := by rw [passC_eq.1 0 (by decide), passR_0]; rfl
      have e3 : shp (passC 1 1 f) 0 = hsS (f 1) (f 2) (f 3) (f 4) (hodS (f 0)) (shp f 0) := by rw [passC_eq.2 0 (by decide), passR_s (by decide)]; rfl
      rw [e1 1 (by decide) (by decide), e1 2 (by decide) (by decide), e1 3 (by decide) (by decide), e1 4 (by decide) (by decide), e2, e3] at k1 k2
      refine ⟨f2, ?_, ?_⟩
      · rw [k1]
        congr 3
        omega
      · rw [k2, itS]
    · rw [if_neg c, if_pos rfl, if_neg c]
      exact ⟨f, rfl, rfl⟩
theorem flb (s : Shp) : ¬ s.2.2.2.2.2.2 = 0 → ¬ (s.2.2.2.2.2.1 = 0 ∧ s.2.2.2.2.2.2 = 0) := fun h z => h z.2
theorem fll (s : Shp) : ¬ s.2.2.2.2.2.1 = 0 → ¬ (s.2.2.2.2.2.1 = 0 ∧ s.2.2.2.2.2.2 = 0) := fun h z => h z.1
/-- soonest BY of the class's one ship -/
theorem c_untilBy {C : Mem} {N : Nat} (hN : 300 ≤ N) {f : Nat → Int32} (hf : SeaOk 1 f) : ∃ f2, mX11_hoursUntilBy N (sR C 2 f) = some (nI (fB (f 1) (f 2) (f 3) (f 4) (fun s => s.2.2.2.2.2.2) 100 (f 0) (shp f 0)), sR C 2 f2) := by
  unfold mX11_hoursUntilBy mX11_hoursUntilEnd
  obtain ⟨f2, k1, k2⟩ := c_end (C := C) hN 100 N 0 f (by omega) (by omega) hf
  rw [show mX11_hoursUntilEnd_b2 N N (sR C 2 f) (0 : Int32) = _ from k1]
  simp only [Option.bind_some]
  rw [sR_s]
  obtain ⟨z1, z2⟩ := fB_gE (f 1) (f 2) (f 3) (f 4) (fl := fun s => s.2.2.2.2.2.2) flb hf.2.2.1.1 hf.2.2.1.2.1 100 (f 0) (shp f 0) (hf.2.2.2 0 (by decide))
  rw [← k2] at z1 z2
  have e6 : f2 (6 + 7 * 0 + 6) = (shp f2 0).2.2.2.2.2.2 := rfl
  rw [e6]
  refine ⟨f2, ?_⟩
  by_cases c : (shp f2 0).2.2.2.2.2.2 = 0
  · rw [if_pos c, z2 c]; rfl
  · rw [if_neg c, z1 c, Nat.zero_add]
/-- the model's: hours go until a figure of ship k isn't 0 -/
theorem m_soon_b {D E : Mem} {m k w N : Nat} (hm : m ≤ 6) (hk : k < m) (hw : w < 7) (hN : 300 ≤ N) (hlk : Lk D E) (fl : Shp → Int32) (hfl : ∀ r : Nat → Int32, r (6 + 7 * k + w) = fl (shp r k)) : ∀ (p n q : Nat) (f : Nat → Int32), p + 1 < n → p + q = 100 → f 5 = nI m → ∃ E2, mX12_soonest_b2 N n (sR E 0 f) (nI k) (nI w) (nI q) = some (nI (q + fB (f 1) (f 2) (f 3) (f 4) fl p (f 0) (shp f k)), E2) ∧ Lk D E2 := by
  intro p
  induction p with
  | zero =>
    intro n q f hn hq hr
    obtain ⟨n, rfl⟩ : ∃ z, n = z + 1 := ⟨n - 1, by omega⟩
    obtain ⟨n, rfl⟩ : ∃ z, n = z + 1 := ⟨n - 1, by omega⟩
    have e : q = 100 := by omega
    subst e
    rw [mX12_soonest_b2, if_neg (by decide), its_eq (by omega) hw, sR_s, hfl f, fB]
    simp only [Option.bind_some]
    by_cases c : fl (shp f k) = 0
    · rw [if_pos c, if_pos c, m_oneHour (D := sR E 0 f) (m := m) (by rw [sR_s]; exact hr) hm (by omega), nI_1, sR_s, sR_sR]
      simp only [Option.bind_some]
      obtain ⟨E2, h1, h2⟩ := lk_back hN hlk (oneH m f)
      exact ⟨E2, by rw [mX12_soonest_b2, if_pos (by decide), h1]; rfl, h2⟩
    · rw [if_neg c, if_neg c]
      obtain ⟨E2, h1, h2⟩ := lk_back hN hlk f
      exact ⟨E2, by rw [h1]; rfl, h2⟩
  | succ p ih =>
    intro n q f hn hq hr
    obtain ⟨n, rfl⟩ : ∃ z, n = z + 1 := ⟨n - 1, by omega⟩
    rw [mX12_soonest_b2, if_neg (show ¬ (100 : Int32) < nI q from nI_nlt (a := 100) (by omega) (by decide)), its_eq (by omega) hw, sR_s, hfl f, fB]
    simp only [Option.bind_some]
    by_cases c : fl (shp f k) = 0
    · rw [if_pos c, if_pos c, m_oneHour (D := sR E 0 f) (m := m) (by rw [sR_s]; exact hr) hm (by omega), nI_1, sR_s, sR_sR]
      simp only [Option.bind_some]
      obtain ⟨E2, h1, h2⟩ := ih n (q + 1) (oneH m f) (by omega) (by omega) (by rw [oneH_e (by decide) (by decide)]; exact hr)
      rw [oneH_e (by decide) (by decide), oneH_e (by decide) (by decide), oneH_e (by decide) (by decide), oneH_e (by decide) (by decide), oneH_0, oneH_s hk] at h1
      refine ⟨E2, ?_, h2⟩
      rw [h1]
      congr 3
      omega
    · rw [if_neg c, if_neg c]
      obtain ⟨E2, h1, h2⟩ := lk_back hN hlk f
      exact ⟨E2, by rw [h1]; rfl, h2⟩
theorem m_soon {D E : Mem} {m k w N : Nat} (hm : m ≤ 6) (hk : k < m) (hw : w < 7) (hN : 300 ≤ N) (hlk : Lk D E) (fl : Shp → Int32) (hfl : ∀ r : Nat → Int32, r (6 + 7 * k + w) = fl (shp r k)) (f : Nat → Int32) (hr : f 5 = nI m) : ∃ E2, mX12_soonest N (sR E 0 f) (nI k) (nI w) = some (nI (fB (f 1) (f 2) (f 3) (f 4) fl 100 (f 0) (shp f k)), E2) ∧ Lk D E2 := by
  unfold mX12_soonest
  obtain ⟨E2, h1, h2⟩ := m_soon_b hm hk hw hN hlk fl hfl 100 N 0 f (by omega) (by omega) hr
  exact ⟨E2, by rw [show mX12_soonest_b2 N N (sR E 0 f) (nI k) (nI w) (0 : Int32) = _ from h1, Nat.zero_add], h2⟩
theorem op_comes {C D : Mem} (h : Rel C D) {N : Nat} (hN : 300 ≤ N) (a : Int32) : Both (mX11_comes N C a) (mX12_comes N D a) := by
  obtain ⟨m, ho, hc, he, hl, rd, rc, hm⟩ := h.1.get
  unfold mX11_comes mX12_comes mX12_whenFirst
  simp only [c_isShip rc, m_isOne rd hm, Option.bind_some]
  by_cases c1 : isS m a = 0
  · rw [if_pos c1, if_pos c1]; exact bF0 h
  rw [if_neg c1, if_neg c1]
  obtain ⟨k, hk, rfl⟩ := isS_1 hm c1
  obtain ⟨E, hE, hlk⟩ := lk_start (D := D) hN
  have eE : SeaEq m (D.1 0) (E.1 0) := lk_eq hm hlk
  have rE : E.1 0 5 = nI m := by rw [← eE.1 5 (by decide)]; exact rd
  have hf : SeaOk 1 (oneR (C.1 2) (C.1 0) (shp (C.1 0) k)) := oneR_ok hc (hc.2.2.2 k hk)
  obtain ⟨f2, k1⟩ := c_untilBy (C := C) hN hf
  obtain ⟨E2, s1, s2⟩ := m_soon hm hk (w := 6) (by decide) hN hlk (fun s => s.2.2.2.2.2.2) (fun r => rfl) (E.1 0) rE
  rw [sR_self] at s1
  rw [oneR_s, oneR_e (by decide), oneR_e (by decide), oneR_e (by decide), oneR_e (by decide), oneR_e (by decide)] at k1
  rw [← eE.2 k hk, he.2 k hk, ← eE.1 0 (by decide), ← eE.1 1 (by decide), ← eE.1 2 (by decide), ← eE.1 3 (by decide), ← eE.1 4 (by decide), he.1 0 (by decide), he.1 1 (by decide), he.1 2 (by decide), he.1 3 (by decide), he.1 4 (by decide)] at s1
  rw [c_alone hc hk, hE]
  simp only [Option.bind_some]
  rw [k1, show mX12_soonest N E (nI k) (6 : Int32) = _ from s1]
  simp only [Option.bind_some]
  have hle := fB_le (C.1 0 1) (C.1 0 2) (C.1 0 3) (C.1 0 4) (fun s => s.2.2.2.2.2.2) 100 (C.1 0 0) (shp (C.1 0) k)
  generalize fB (C.1 0 1) (C.1 0 2) (C.1 0 3) (C.1 0 4) (fun s => s.2.2.2.2.2.2) 100 (C.1 0 0) (shp (C.1 0) k) = x at hle
  by_cases c : x = 101
  · subst c
    rw [if_pos (show nI 101 = (101 : Int32) from rfl), if_neg (by decide)]
    obtain ⟨r, C2, D2, g1, g2, g3⟩ := bF3 (C := sR C 2 f2) (D := E2) (lk_rel (tr_rel h _) s2)
    exact ⟨r, C2, D2, by rw [g1], by rw [g2]; rfl, g3⟩
  · rw [if_neg (show ¬ nI x = (101 : Int32) from fun z => c ((nI_eq (b := 101) (by omega) (by decide)).mp z)), if_pos (show nI x ≤ (100 : Int32) from nI_le (b := 100) (by omega) (by decide))]
    exact ⟨_, _, _, rfl, rfl, lk_rel (tr_rel h _) s2⟩
theorem op_wrecks {C D : Mem} (h : Rel C D) {N : Nat} (hN : 300 ≤ N) (a : Int32) : Both (mX11_wrecks N C a) (mX12_wrecks N D a) := by
  obtain ⟨m, ho, hc, he, hl, rd, rc, hm⟩ := h.1.get
  unfold mX11_wrecks mX12_wrecks mX12_whenFirst mX11_hoursUntilEnd
  simp only [c_isShip rc, m_isOne rd hm, Option.bind_some]
  by_cases c1 : isS m a = 0
  · rw [if_pos c1, if_pos c1]; exact bF0 h
  rw [if_neg c1, if_neg c1]
  obtain ⟨k, hk, rfl⟩ := isS_1 hm c1
  obtain ⟨E, hE, hlk⟩ := lk_start (D := D) hN
  have eE : SeaEq m (D.1 0) (E.1 0) := lk_eq hm hlk
  have rE : E.1 0 5 = nI m := by rw [← eE.1 5 (by decide)]; exact rd
  have hf : SeaOk 1 (oneR (C.1 2) (C.1 0) (shp (C.1 0) k)) := oneR_ok hc (hc.2.2.2 k hk)
  obtain ⟨f2, k1, k2⟩ := c_end (C := C) hN 100 N 0 _ (by omega) (by omega) hf
  obtain ⟨E2, s1, s2⟩ := m_soon hm hk (w := 5) (by decide) hN hlk (fun s => s.2.2.2.2.2.1) (fun r => rfl) (E.1 0) rE
  rw [sR_self] at s1
  rw [oneR_s, oneR_e (by decide), oneR_e (by decide), oneR_e (by decide), oneR_e (by decide), oneR_e (by decide)] at k1 k2
  rw [← eE.2 k hk, he.2 k hk, ← eE.1 0 (by decide), ← eE.1 1 (by decide), ← eE.1 2 (by decide), ← eE.1 3 (by decide), ← eE.1 4 (by decide), he.1 0 (by decide), he.1 1 (by decide), he.1 2 (by decide), he.1 3 (by decide), he.1 4 (by decide)] at s1
  rw [c_alone hc hk, hE]
  simp only [Option.bind_some]
  rw [show mX11_hoursUntilEnd_b2 N N (sR C 2 (oneR (C.1 2) (C.1 0) (shp (C.1 0) k))) (0 : Int32) = _ from k1, show mX12_soonest N E (nI k) (5 : Int32) = _ from s1]
  simp only [Option.bind_some]
  rw [sR_s, Nat.zero_add]
  obtain ⟨z1, z2⟩ := fB_gE (C.1 0 1) (C.1 0 2) (C.1 0 3) (C.1 0 4) (fl := fun s => s.2.2.2.2.2.1) fll hc.2.2.1.1 hc.2.2.1.2.1 100 (C.1 0 0) (shp (C.1 0) k) (hc.2.2.2 k hk)
  have hle := gE_le (C.1 0 1) (C.1 0 2) (C.1 0 3) (C.1 0 4) 100 (C.1 0 0) (shp (C.1 0) k)
  rw [← k2] at z1 z2
  have e5 : f2 (6 + 7 * 0 + 5) = (shp f2 0).2.2.2.2.2.1 := rfl
  rw [e5]
  by_cases c : (shp f2 0).2.2.2.2.2.1 = 0
  · rw [if_pos c, z2 c, if_neg (by decide)]
    obtain ⟨r, C2, D2, g1, g2, g3⟩ := bF3 (C := sR C 2 f2) (D := E2) (lk_rel (tr_rel h _) s2)
    exact ⟨r, C2, D2, by rw [g1], by rw [g2]; rfl, g3⟩
  · rw [if_neg c, z1 c, if_pos (show nI _ ≤ (100 : Int32) from nI_le (b := 100) hle (by decide))]
    exact ⟨_, _, _, rfl, rfl, lk_rel (tr_rel h _) s2⟩
