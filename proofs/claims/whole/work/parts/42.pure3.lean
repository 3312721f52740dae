/-! ===== PURE 3: hours of all ships ===== -/
def hsS (tc tr lamp R hd : Int32) (s : Shp) : Shp := if s.2.2.2.2.2.1 + s.2.2.2.2.2.2 = 0 then hourS tc tr lamp R hd s else s
def itS (tc tr lamp R : Int32) : Nat → Int32 → Shp → Shp
  | 0, _, s => s
  | n + 1, h, s => itS tc tr lamp R n (h + (1 : Int32)) (hsS tc tr lamp R (hodS h) s)
theorem hsS_ok {tc tr lamp R hd : Int32} {s : Shp} (h : SOk s) (h1 : 0 ≤ tc ∧ tc ≤ 19) (h2 : 0 ≤ tr ∧ tr ≤ 9) : SOk (hsS tc tr lamp R hd s) := by
  unfold hsS
  split
  · exact hourS_ok h h1 h2
  · exact h
theorem itS_ok {tc tr lamp R : Int32} (h1 : 0 ≤ tc ∧ tc ≤ 19) (h2 : 0 ≤ tr ∧ tr ≤ 9) : ∀ (n : Nat) (h : Int32) (s : Shp), SOk s → SOk (itS tc tr lamp R n h s) := by
  intro n
  induction n with
  | zero => intro h s hs; exact hs
  | succ n ih => intro h s hs; exact ih _ _ (hsS_ok hs h1 h2)
theorem itS_end {tc tr lamp R : Int32} {s : Shp} (hs : ¬ s.2.2.2.2.2.1 + s.2.2.2.2.2.2 = 0) : ∀ (n : Nat) (h : Int32), itS tc tr lamp R n h s = s := by
  intro n
  induction n with
  | zero => intro h; rfl
  | succ n ih => intro h; rw [itS]; unfold hsS; rw [if_neg hs]; exact ih _
theorem itS_snoc (tc tr lamp R : Int32) : ∀ (n : Nat) (h : Int32) (s : Shp), itS tc tr lamp R (n + 1) h s = hsS tc tr lamp R (hodS (h + nI n)) (itS tc tr lamp R n h s) := by
  intro n
  induction n with
  | zero =>
    intro h s
    show hsS tc tr lamp R (hodS h) s = hsS tc tr lamp R (hodS (h + nI 0)) s
    rw [nI_0, Int32.add_zero]
  | succ n ih =>
    intro h s
    rw [itS, ih]
    rw [show h + (1 : Int32) + nI n = h + nI (n + 1) by rw [← nI_1, Int32.add_assoc, Int32.add_comm (1 : Int32)]]
    rfl
/-- ships 0 .. of a row, one by one, become others -/
def allS (f : Nat → Shp) (r : Nat → Int32) : Nat → Nat → Int32
  | 0 => r
  | k + 1 => putS (allS f r k) k (f k)
theorem allS_out {f : Nat → Shp} {r : Nat → Int32} {i : Nat} : ∀ (m : Nat), (i < 6 ∨ 6 + 7 * m ≤ i) → allS f r m i = r i := by
  intro m
  induction m with
  | zero => intro _; rfl
  | succ m ih => intro h; rw [allS, putS_out (by omega)]; exact ih (by omega)
theorem allS_in {f : Nat → Shp} {r : Nat → Int32} {k : Nat} : ∀ (m : Nat), k < m → shp (allS f r m) k = f k := by
  intro m
  induction m with
  | zero => intro h; omega
  | succ m ih =>
    intro h
    rw [allS]
    by_cases hk : k = m
    · subst hk; exact shp_putS _ _ _
    · rw [shp_putS_o hk]; exact ih (by omega)
theorem allS_ge {f : Nat → Shp} {r : Nat → Int32} {k : Nat} : ∀ (m : Nat), m ≤ k → shp (allS f r m) k = shp r k := by
  intro m
  induction m with
  | zero => intro h; rfl
  | succ m ih => intro h; rw [allS, shp_putS_o (by omega)]; exact ih (by omega)
theorem shp_upd {r : Nat → Int32} {i k : Nat} {v : Int32} (h : i < 6) : shp (upd r i v) k = shp r k := by
  unfold shp upd
  grind
def oneH (m : Nat) (r : Nat → Int32) : Nat → Int32 := upd (allS (fun k => hsS (r 1) (r 2) (r 3) (r 4) (hodS (r 0)) (shp r k)) r m) 0 (r 0 + (1 : Int32))
def passR (m : Nat) : Nat → (Nat → Int32) → Nat → Int32
  | 0, r => r
  | n + 1, r => passR m n (oneH m r)
theorem upd_s (r : Nat → Int32) (i : Nat) (v : Int32) : upd r i v i = v := if_pos rfl
theorem upd_o {r : Nat → Int32} {i q : Nat} {v : Int32} (h : q ≠ i) : upd r i v q = r q := if_neg h
theorem oneH_0 (m : Nat) (r : Nat → Int32) : oneH m r 0 = r 0 + (1 : Int32) := upd_s _ _ _
theorem oneH_e {m i : Nat} {r : Nat → Int32} (h : 0 < i) (h6 : i < 6) : oneH m r i = r i := by
  unfold oneH
  rw [upd_o (by omega), allS_out m (Or.inl h6)]
theorem oneH_s {m k : Nat} {r : Nat → Int32} (h : k < m) : shp (oneH m r) k = hsS (r 1) (r 2) (r 3) (r 4) (hodS (r 0)) (shp r k) := by
  unfold oneH
  rw [shp_upd (by omega), allS_in m h]
theorem passR_0 (m : Nat) : ∀ (n : Nat) (r : Nat → Int32), passR m n r 0 = r 0 + nI n := by
  intro n
  induction n with
  | zero => intro r; show r 0 = r 0 + nI 0; rw [nI_0, Int32.add_zero]
  | succ n ih => intro r; rw [passR, ih, oneH_0, Int32.add_assoc, Int32.add_comm (1 : Int32), nI_1]
theorem passR_e {m i : Nat} (h : 0 < i) (h6 : i < 6) : ∀ (n : Nat) (r : Nat → Int32), passR m n r i = r i := by
  intro n
  induction n with
  | zero => intro r; rfl
  | succ n ih => intro r; rw [passR, ih, oneH_e h h6]
theorem passR_s {m k : Nat} (h : k < m) : ∀ (n : Nat) (r : Nat → Int32), shp (passR m n r) k = itS (r 1) (r 2) (r 3) (r 4) n (r 0) (shp r k) := by
  intro n
  induction n with
  | zero => intro r; rfl
  | succ n ih => intro r; rw [passR, ih, oneH_0, oneH_e (by decide) (by decide), oneH_e (by decide) (by decide), oneH_e (by decide) (by decide), oneH_e (by decide) (by decide), oneH_s h]; rfl
/-- a sea in order: m ships, tower, lamp and reach where they may be -/
def SeaOk (m : Nat) (r : Nat → Int32) : Prop := r 5 = nI m ∧ m ≤ 6 ∧ EOk (r 1) (r 2) (r 4) ∧ ∀ k, k < m → SOk (shp r k)
def SeaEq (m : Nat) (r q : Nat → Int32) : Prop := (∀ i, i < 6 → r i = q i) ∧ ∀ k, k < m → shp r k = shp q k
theorem SeaOk.pass {m n : Nat} {r : Nat → Int32} (h : SeaOk m r) : SeaOk m (passR m n r) := by
  refine ⟨by rw [passR_e (by decide) (by decide)]; exact h.1, h.2.1, ?_, fun k hk => ?_⟩
  · rw [passR_e (by decide) (by decide), passR_e (by decide) (by decide), passR_e (by decide) (by decide)]; exact h.2.2.1
  · rw [passR_s hk]; exact itS_ok h.2.2.1.1 h.2.2.1.2.1 _ _ _ (h.2.2.2 k hk)
theorem SeaOk.eq {m : Nat} {r q : Nat → Int32} (h : SeaOk m r) (e : SeaEq m r q) : SeaOk m q := by
  refine ⟨by rw [← e.1 5 (by decide)]; exact h.1, h.2.1, ?_, fun k hk => by rw [← e.2 k hk]; exact h.2.2.2 k hk⟩
  rw [← e.1 1 (by decide), ← e.1 2 (by decide), ← e.1 4 (by decide)]; exact h.2.2.1
theorem SeaEq.refl {m : Nat} {r : Nat → Int32} : SeaEq m r r := ⟨fun _ _ => rfl, fun _ _ => rfl⟩
theorem SeaEq.symm {m : Nat} {r q : Nat → Int32} (h : SeaEq m r q) : SeaEq m q r := ⟨fun i hi => (h.1 i hi).symm, fun k hk => (h.2 k hk).symm⟩
theorem SeaEq.trans {m : Nat} {r q t : Nat → Int32} (h : SeaEq m r q) (h2 : SeaEq m q t) : SeaEq m r t := ⟨fun i hi => (h.1 i hi).trans (h2.1 i hi), fun k hk => (h.2 k hk).trans (h2.2 k hk)⟩
theorem SeaEq.pass {m n : Nat} {r q : Nat → Int32} (h : SeaEq m r q) : SeaEq m (passR m n r) (passR m n q) := by
  refine ⟨fun i hi => ?_, fun k hk => ?_⟩
  · by_cases h0 : i = 0
    · subst h0; rw [passR_0, passR_0, h.1 0 hi]
    · rw [passR_e (by omega) hi, passR_e (by omega) hi, h.1 i hi]
  · rw [passR_s hk, passR_s hk, h.2 k hk, h.1 0 (by decide), h.1 1 (by decide), h.1 2 (by decide), h.1 3 (by decide), h.1 4 (by decide)]
/-! the model -/
theorem m_oneHour_b {D : Mem} {r : Nat → Int32} {m N : Nat} (hr : r 5 = nI m) (hm : m ≤ 6) (hN : 4 ≤ N) : ∀ (p n q : Nat), p < n → p + q = m →
    mX12_oneHour_b2 N n (sR D 0 (allS (fun k => hsS (r 1) (r 2) (r 3) (r 4) (hodS (r 0)) (shp r k)) r q)) (nI q) = some (sR D 0 (oneH m r)) := by
  intro p
  induction p with
  | zero =>
    intro n q hn hq
    obtain ⟨n, rfl⟩ : ∃ z, n = z + 1 := ⟨n - 1, by omega⟩
    have e : q = m := by omega
    subst e
    rw [mX12_oneHour_b2, sR_s, allS_out q (Or.inl (by decide)), allS_out q (Or.inl (by decide)), hr, if_pos (nI_le (Nat.le_refl _) (by omega)), sI_sR, sR_s, sR_sR]
    rfl
  | succ p ih =>
    intro n q hn hq
    obtain ⟨n, rfl⟩ : ∃ z, n = z + 1 := ⟨n - 1, by omega⟩
    have hq6 : q < 6 := by omega
    generalize hf : (fun k => hsS (r 1) (r 2) (r 3) (r 4) (hodS (r 0)) (shp r k)) = f
    rw [hf] at ih
    have e0 : sR D 0 (allS f r q) = md (sR D 0 (allS f r q)) 0 (allS f r q) q (shp r q) := by
      have := md_self (sR D 0 (allS f r q)) 0 q
      rw [sR_s, allS_ge q (Nat.le_refl _)] at this
      exact this.symm
    have e1 : md (sR D 0 (allS f r q)) 0 (allS f r q) q (f q) = sR D 0 (allS f r (q + 1)) := by
      unfold md
      rw [sR_sR]
      rfl
    have e2 : f q = hsS (r 1) (r 2) (r 3) (r 4) (hodS (r 0)) (shp r q) := by rw [← hf]
    rw [mX12_oneHour_b2, sR_s, allS_out q (Or.inl (by decide)), hr, if_neg (nI_ge (by omega) (by omega)), its5 hq6, its6 hq6, nI_1]
    simp only [Option.bind_some]
    rw [e0, md_g5, md_g6]
    unfold hsS at e2
    by_cases c : (shp r q).2.2.2.2.2.1 + (shp r q).2.2.2.2.2.2 = 0
    · rw [if_pos c] at e2
      rw [if_pos c, m_sails hq6 hN, allS_out q (Or.inl (by decide)), allS_out q (Or.inl (by decide)), allS_out q (Or.inl (by decide)), allS_out q (Or.inl (by decide)), allS_out q (Or.inl (by decide)), ← e2]
      simp only [Option.bind_some]
      rw [e1]
      exact ih n (q + 1) (by omega) (by omega)
    · rw [if_neg c] at e2
      rw [if_neg c, ← e2, e1]
      exact ih n (q + 1) (by omega) (by omega)
theorem m_oneHour {D : Mem} {m N : Nat} (hr : D.1 0 5 = nI m) (hm : m ≤ 6) (hN : 10 ≤ N) : mX12_oneHour N D = some (sR D 0 (oneH m (D.1 0))) := by
  unfold mX12_oneHour
  have h := m_oneHour_b (D := D) (r := D.1 0) hr hm (N := N) (by omega) m N 0 (by omega) (by omega)
  rw [allS, sR_self] at h
  exact h
theorem m_passes_b {m N : Nat} (hm : m ≤ 6) (hN : 10 ≤ N) : ∀ (p n q : Nat) (D : Mem), p < n → p + q < 2 ^ 31 → D.1 0 5 = nI m → mX12_passes_b2 N n D (nI (p + q)) (nI q) = some (sR D 0 (passR m p (D.1 0))) := by
  intro p
  induction p with
  | zero =>
    intro n q D hn hq hr
    obtain ⟨n, rfl⟩ : ∃ z, n = z + 1 := ⟨n - 1, by omega⟩
    rw [mX12_passes_b2, if_pos (nI_le (by omega) (by omega)), passR, sR_self]
  | succ p ih =>
    intro n q D hn hq hr
    obtain ⟨n, rfl⟩ : ∃ z, n = z + 1 := ⟨n - 1, by omega⟩
    rw [mX12_passes_b2, if_neg (nI_ge (by omega) (by omega)), m_oneHour hr hm hN, nI_1, show p + 1 + q = p + (q + 1) by omega]
    simp only [Option.bind_some]
    rw [ih n (q + 1) _ (by omega) (by omega) (by rw [sR_s, oneH_e (by decide) (by decide)]; exact hr), sR_s, sR_sR]
    rfl
theorem m_passes {D : Mem} {m p N : Nat} (hr : D.1 0 5 = nI m) (hm : m ≤ 6) (hN : 10 ≤ N) (hp : p < N) (hp2 : p < 2 ^ 31) : mX12_passes N D (nI p) = some (sR D 0 (passR m p (D.1 0))) := by
  unfold mX12_passes
  exact m_passes_b hm hN p N 0 D hp hp2 hr
/-! the class -/
theorem c_pass_in {C : Mem} {j k m t N : Nat} {r : Nat → Int32} {a2 : Int32} {K : Mem → Int32 → Int32 → Option Mem} (he : EOk (r 1) (r 2) (r 4)) (hN : 4 ≤ N) : ∀ (p n q : Nat) (s : Shp), p < n → p + q < 2 ^ 31 → SOk s →
    mX4_pass_b26 N j K n (md C j r k s) (nI (p + q)) a2 k (nI q) = K (md C j r k (itS (r 1) (r 2) (r 3) (r 4) p (r 0 + nI q) s)) (nI (p + q)) (a2 + (1 : Int32)) := by
  intro p
  induction p with
  | zero =>
    intro n q s hn hq hs
    obtain ⟨n, rfl⟩ : ∃ z, n = z + 1 := ⟨n - 1, by omega⟩
    rw [mX4_pass_b26, if_pos (nI_le (by omega) (by omega))]
    rfl
  | succ p ih =>
    intro n q s hn hq hs
    obtain ⟨n, rfl⟩ : ∃ z, n = z + 1 := ⟨n - 1, by omega⟩
    rw [mX4_pass_b26, if_neg (nI_ge (by omega) (by omega)), c_under]
    simp only [Option.bind_some]
    by_cases c : s.2.2.2.2.2.1 = 0 ∧ s.2.2.2.2.2.2 = 0
    · rw [if_pos c, if_neg (by decide), md_e0]
      rw [show (r 0 + nI q) - (r 0 + nI q) / (12 : Int32) * (12 : Int32) = hodS (r 0 + nI q) from rfl, c_hour he hN hs, nI_1, show p + 1 + q = p + (q + 1) by omega]
      simp only [Option.bind_some]
      rw [ih n (q + 1) _ (by omega) (by omega) (hourS_ok hs he.1 he.2.1), itS]
      unfold hsS
      rw [if_pos ((lb0 hs).mpr c), show r 0 + nI q + (1 : Int32) = r 0 + nI (q + 1) by rw [Int32.add_assoc, nI_1]]
    · rw [if_neg c, if_pos rfl, itS_end (fun z => c ((lb0 hs).mp z))]
theorem c_pass_b {C : Mem} {j m t N : Nat} {r : Nat → Int32} (ho : SeaOk m r) (ht : t < N) (ht2 : t < 2 ^ 31) (hN : 10 ≤ N) : ∀ (p n q : Nat), p < n → p + q = m →
    mX4_pass_b2 N j n (sR C j (allS (fun k => itS (r 1) (r 2) (r 3) (r 4) t (r 0) (shp r k)) r q)) (nI t) (nI q) = some (sR C j (upd (allS (fun k => itS (r 1) (r 2) (r 3) (r 4) t (r 0) (shp r k)) r m) 0 (r 0 + nI t))) := by
  obtain ⟨hr, hm, he, hs⟩ := ho
  intro p
  induction p with
  | zero =>
    intro n q hn hq
    obtain ⟨n, rfl⟩ : ∃ z, n = z + 1 := ⟨n - 1, by omega⟩
    have e : q = m := by omega
    subst e
    rw [mX4_pass_b2, sR_s, allS_out q (Or.inl (by decide)), allS_out q (Or.inl (by decide)), hr, if_pos (nI_le (Nat.le_refl _) (by omega)), sI_sR, sR_s, sR_sR]
  | succ p ih =>
    intro n q hn hq
    obtain ⟨n, rfl⟩ : ∃ z, n = z + 1 := ⟨n - 1, by omega⟩
    have hq6 : q < 6 := by omega
    generalize hf : (fun k => itS (r 1) (r 2) (r 3) (r 4) t (r 0) (shp r k)) = f
    rw [hf] at ih
    have e0 : sR C j (allS f r q) = md (sR C j (allS f r q)) j (allS f r q) q (shp r q) := by
      have := md_self (sR C j (allS f r q)) j q
      rw [sR_s, allS_ge q (Nat.le_refl _)] at this
      exact this.symm
    have e1 : md (sR C j (allS f r q)) j (allS f r q) q (f q) = sR C j (allS f r (q + 1)) := by
      unfold md
      rw [sR_sR]
      rfl
    have e2 : f q = itS (r 1) (r 2) (r 3) (r 4) t (r 0) (shp r q) := by rw [← hf]
    have ho : ∀ i, i < 6 → allS f r q i = r i := fun i hi => allS_out q (Or.inl hi)
    rw [mX4_pass_b2, sR_s, ho 5 (by decide), hr, if_neg (nI_ge (by omega) (by omega)), if_neg (show ¬ (6 : Int32) ≤ nI q from nI_ge (b := 6) hq6 (by decide)), if_pos (show ok (nI q) 6 from vp_in_nI hq6 (by decide)), nI_clamp (by omega), e0]
    have h := c_pass_in (C := sR C j (allS f r q)) (j := j) (k := q) (N := N) (r := allS f r q) (a2 := nI q) (K := mX4_pass_b2 N j n) (m := m) (t := t) (by rw [ho 1 (by decide), ho 2 (by decide), ho 4 (by decide)]; exact he) (by omega) t N 0 (shp r q) ht (by omega) (hs q (by omega))
    rw [Nat.add_zero, nI_0, Int32.add_zero, ho 0 (by decide), ho 1 (by decide), ho 2 (by decide), ho 3 (by decide), ho 4 (by decide), ← e2, e1, nI_1] at h
    rw [h]
    exact ih n (q + 1) (by omega) (by omega)
def passC (m n : Nat) (r : Nat → Int32) : Nat → Int32 := upd (allS (fun k => itS (r 1) (r 2) (r 3) (r 4) n (r 0) (shp r k)) r m) 0 (r 0 + nI n)
theorem passC_eq {m n : Nat} {r : Nat → Int32} : SeaEq m (passC m n r) (passR m n r) := by
  refine ⟨fun i hi => ?_, fun k hk => ?_⟩
  · by_cases h0 : i = 0
    · subst h0; rw [passR_0]; exact upd_s _ _ _
    · rw [passR_e (by omega) hi]; unfold passC; rw [upd_o h0, allS_out m (Or.inl hi)]
  · rw [passR_s hk]; unfold passC; rw [shp_upd (by decide), allS_in m hk]
theorem c_pass {C : Mem} {j m t N : Nat} (ho : SeaOk m (C.1 j)) (ht : t < N) (ht2 : t < 2 ^ 31) (hN : 10 ≤ N) : mX4_pass N j C (nI t) = some (sR C j (passC m t (C.1 j))) := by
  unfold mX4_pass
  have h := c_pass_b (C := C) (j := j) ho ht ht2 hN m N 0 (by have := ho.2.1; omega) (by omega)
  rw [allS, sR_self] at h
  exact h
