/-! ===== PURE 19: one token in both ===== -/
def Tp (C D : Mem) (n : Nat) : Prop := n ≤ 120 ∧ C.1 3 1 = nI n ∧ D.1 9 5 = nI n ∧ ∀ k, k < n → D.1 4 k = C.1 4 k &&& (255 : Int32)
def FrT (C C2 : Mem) : Prop := (∀ r, r ≠ 3 → C2.1 r = C.1 r) ∧ C2.1 3 0 = C.1 3 0 ∧ C2.1 3 1 = C.1 3 1 ∧ C2.1 3 6 = C.1 3 6 ∧ C2.2 = C.2
def GrT (D D2 : Mem) : Prop := (∀ r, r ≠ 9 → D2.1 r = D.1 r) ∧ D2.1 9 5 = D.1 9 5 ∧ D2.1 9 11 = D.1 9 11 ∧ D2.1 9 18 = D.1 9 18 ∧ D2.2 0 = D.2 0
theorem FrT.refl (C : Mem) : FrT C C := ⟨fun _ _ => rfl, rfl, rfl, rfl, rfl⟩
theorem GrT.refl (D : Mem) : GrT D D := ⟨fun _ _ => rfl, rfl, rfl, rfl, rfl⟩
theorem FrT.put {C M : Mem} (h : FrT C M) {i : Nat} (v : Int32) (hi : i ≠ 0 ∧ i ≠ 1 ∧ i ≠ 6) : FrT C (sI M 3 i v) := by
  obtain ⟨a, b, c, d, e⟩ := h
  refine ⟨fun r hr => by rw [← a r hr]; exact if_neg hr, ?_, ?_, ?_, e⟩
  · rw [← b]; exact upd_o (r := M.1 3) (fun z => hi.1 z.symm)
  · rw [← c]; exact upd_o (r := M.1 3) (fun z => hi.2.1 z.symm)
  · rw [← d]; exact upd_o (r := M.1 3) (fun z => hi.2.2 z.symm)
theorem GrT.put {D M : Mem} (h : GrT D M) {i : Nat} (v : Int32) (hi : i ≠ 5 ∧ i ≠ 11 ∧ i ≠ 18) : GrT D (sI M 9 i v) := by
  obtain ⟨a, b, c, d, e⟩ := h
  refine ⟨fun r hr => by rw [← a r hr]; exact if_neg hr, ?_, ?_, ?_, e⟩
  · rw [← b]; exact upd_o (r := M.1 9) (fun z => hi.1 z.symm)
  · rw [← c]; exact upd_o (r := M.1 9) (fun z => hi.2.1 z.symm)
  · rw [← d]; exact upd_o (r := M.1 9) (fun z => hi.2.2 z.symm)
theorem GrT.word {D M : Mem} (h : GrT D M) (v : Int64) : GrT D (sJ M 2 9 v) := by
  obtain ⟨a, b, c, d, e⟩ := h
  exact ⟨a, b, c, d, e⟩
/-- the code of L letters from q on -/
def wcs (B : Nat → Int32) (st : Nat) : Nat → Nat → Int64 → Int64
  | 0, _, w => w
  | L + 1, q, w => wcs B st L (q + 1) (if 12 ≤ q - st then (-1 : Int64) else ((((27 : Int64) * w) + (B q).toInt64) - (96 : Int64)))
theorem wcd_wcs {B : Nat → Int32} {st : Nat} : ∀ (p q : Nat) (w : Int64), wcd B st p q w = wcs B st (runE isL B p q - q) q w := by
  intro p
  induction p with
  | zero => intro q w; rw [wcd, runE, Nat.sub_self, wcs]
  | succ p ih =>
    intro q w
    rw [wcd, runE]
    by_cases c : isL (B q)
    · rw [if_pos c, if_pos c, ih]
      have h := (runE_le (P := isL) (B := B) p (q + 1)).1
      rw [show runE isL B p (q + 1) - q = (runE isL B p (q + 1) - (q + 1)) + 1 by omega, wcs]
    · rw [if_neg c, if_neg c, Nat.sub_self, wcs]
def Tok (C D : Mem) (n lo : Nat) : Prop := ∃ st e : Nat, lo ≤ st ∧ st ≤ e ∧ e ≤ n ∧ C.1 3 3 = nI st ∧ D.1 9 7 = nI st ∧ C.1 3 4 = nI e ∧ D.1 9 8 = nI e ∧
  ((C.1 3 2 = 0 ∧ D.1 9 6 = 0) ∨ (C.1 3 2 = 1 ∧ D.1 9 6 = 1 ∧ st < e ∧ (∀ k, st ≤ k → k < e → isL (D.1 4 k)) ∧ D.2 2 9 = wcs (D.1 4) st (e - st) st 0) ∨ (C.1 3 2 = 2 ∧ D.1 9 6 = 2 ∧ st < e ∧ VR (C.1 3 5) (D.1 9 10)) ∨ (C.1 3 2 = 3 ∧ D.1 9 6 = 3 ∧ st < e ∧ D.1 9 10 = 59) ∨ (C.1 3 2 = 4 ∧ D.1 9 6 = 3 ∧ st < e ∧ ¬ D.1 9 10 = 59))
def restM (N : Nat) (M : Mem) : Option Mem := ((mX12_byteAt (sI M 9 8 (M.1 9 7)) ((sI M 9 8 (M.1 9 7)).1 9 7)).bind fun r4 => (if 0 ≤ r4 then ((mX12_isLetter r4).bind fun r7 => (if r7 = 0 then ((mX12_isDigit r4).bind fun r10 => (if r10 = 0 then (mX12_advance_b83 N (sI M 9 8 (M.1 9 7)) r4 (3 : Int32)) else (mX12_advance_b83 N (sI M 9 8 (M.1 9 7)) r4 (2 : Int32)))) else (mX12_advance_b83 N (sI M 9 8 (M.1 9 7)) r4 (1 : Int32)))) else (mX12_advance_b83 N (sI M 9 8 (M.1 9 7)) r4 (0 : Int32))))
theorem skip_b {C D : Mem} {n N : Nat} (hT : Tp C D n) : ∀ (p n1 n2 q : Nat), p + q = n → p < n1 → p < n2 → ∃ st, q ≤ st ∧ st ≤ n ∧ mX5_next_b8 N n1 (sI C 3 3 (nI q)) = mX5_next_b51 N (sI C 3 3 (nI st)) ∧ mX12_advance_b8 N n2 (sI D 9 7 (nI q)) = restM N (sI D 9 7 (nI st)) := by
  obtain ⟨hn, t1, t2, t3⟩ := hT
  have g3 : ∀ q, (sI C 3 3 (nI q)).1 3 3 = nI q := fun q => upd_s (C.1 3) 3 (nI q)
  have g7 : ∀ q, (sI D 9 7 (nI q)).1 9 7 = nI q := fun q => upd_s (D.1 9) 7 (nI q)
  have g1 : ∀ q, (sI C 3 3 (nI q)).1 3 1 = nI n := fun q => t1
  have g5 : ∀ q, (sI D 9 7 (nI q)).1 9 5 = nI n := fun q => t2
  intro p
  induction p with
  | zero =>
    intro n1 n2 q hq h1 h2
    obtain ⟨n1, rfl⟩ : ∃ z, n1 = z + 1 := ⟨n1 - 1, by omega⟩
    obtain ⟨n2, rfl⟩ : ∃ z, n2 = z + 1 := ⟨n2 - 1, by omega⟩
    refine ⟨q, Nat.le_refl _, by omega, ?_, ?_⟩
    · rw [mX5_next_b8, g1, g3, if_pos (nI_le (by omega) (by omega))]
    · rw [mX12_advance_b8, g7, m_byte_e (g5 q) (by omega) (by omega), Option.bind_some, if_neg (by decide)]
      unfold restM
      rw [g7]
  | succ p ih =>
    intro n1 n2 q hq h1 h2
    obtain ⟨n1, rfl⟩ : ∃ z, n1 = z + 1 := ⟨n1 - 1, by omega⟩
    obtain ⟨n2, rfl⟩ : ∃ z, n2 = z + 1 := ⟨n2 - 1, by omega⟩
    have e4 : (sI D 9 7 (nI q)).1 4 q = (sI C 3 3 (nI q)).1 4 q &&& (255 : Int32) := t3 q (by omega)
    rw [mX5_next_b8, mX12_advance_b8, g1, g3, if_neg (nI_ge (by omega) (by omega)), c_byte (g1 q) hn (by omega), g7, m_byte (g5 q) hn (by omega), Option.bind_some, Option.bind_some, e4]
    by_cases c : (sI C 3 3 (nI q)).1 4 q &&& (255 : Int32) = (32 : Int32)
    · rw [if_pos c, if_pos c, nI_1, sI_sI, sI_sI]
      obtain ⟨st, k1, k2, k3, k4⟩ := ih n1 n2 (q + 1) (by omega) (by omega) (by omega)
      exact ⟨st, by omega, k2, k3, k4⟩
    · rw [if_neg c, if_neg c]
      refine ⟨q, Nat.le_refl _, by omega, rfl, ?_⟩
      unfold restM
      rw [g7]
theorem b127_e {N n q : Nat} (hN : 300 ≤ N) {M : Mem} (h1 : M.1 3 1 = nI n) (h4 : M.1 3 4 = nI q) (hq : n ≤ q) (hq2 : q < 2 ^ 31) : mX5_next_b127 N N M = some M := by
  have : ∀ (K z : Nat), mX5_next_b127 K (z + 1) M = some M := fun K z => by rw [mX5_next_b127, h1, h4, if_pos (nI_le hq hq2)]
  obtain ⟨z, hz⟩ : ∃ z, N = z + 1 := ⟨N - 1, by omega⟩
  have t := this N z
  rw [← hz] at t
  exact t
theorem runE_ext {P : Int32 → Prop} [DecidablePred P] {B B2 : Nat → Int32} : ∀ (p q : Nat), (∀ k, q ≤ k → k < p + q → B k = B2 k) → runE P B p q = runE P B2 p q := by
  intro p
  induction p with
  | zero => intro q _; rfl
  | succ p ih =>
    intro q h
    rw [runE, runE, h q (Nat.le_refl _) (by omega), ih (q + 1) (fun k a b => h k (by omega) (by omega))]
theorem cval_ext {B B2 : Nat → Int32} : ∀ (p q : Nat) (v : Int32), (∀ k, q ≤ k → k < p + q → B k = B2 k) → cval B p q v = cval B2 p q v := by
  intro p
  induction p with
  | zero => intro q v _; rfl
  | succ p ih =>
    intro q v h
    rw [cval, cval, h q (Nat.le_refl _) (by omega), ih (q + 1) _ (fun k a b => h k (by omega) (by omega))]
theorem tok_next {C D : Mem} {n N e0 : Nat} (hN : 300 ≤ N) (hT : Tp C D n) (he : e0 ≤ n) (c4 : C.1 3 4 = nI e0) (d8 : D.1 9 8 = nI e0) : ∃ C2 D2, mX5_next N C = some C2 ∧ mX12_advance N D = some D2 ∧ FrT C C2 ∧ GrT D D2 ∧ Tok C2 D2 n e0 := by
  obtain ⟨hn, t1, t2, t3⟩ := hT
  unfold mX5_next mX12_advance
  rw [c4, d8]
  obtain ⟨st, s1, s2, s3, s4⟩ := skip_b (N := N) ⟨hn, t1, t2, t3⟩ (n - e0) N N e0 (by omega) (by omega) (by omega)
  rw [s3, s4]
  unfold mX5_next_b51 restM
  have g3 : (sI C 3 3 (nI st)).1 3 3 = nI st := upd_s (C.1 3) 3 (nI st)
  have g7 : (sI D 9 7 (nI st)).1 9 7 = nI st := upd_s (D.1 9) 7 (nI st)
  rw [g3, g7, Option.bind_some]
  generalize hM : sI (sI (sI C 3 3 (nI st)) 3 4 (nI st)) 3 5 (0 : Int32) = M
  generalize hE : sI (sI D 9 7 (nI st)) 9 8 (nI st) = E
  have m1 : M.1 3 1 = nI n := by rw [← hM]; exact t1
  have m3 : M.1 3 3 = nI st := by rw [← hM]; rfl
  have m4 : M.1 3 4 = nI st := by rw [← hM]; rfl
  have m5 : M.1 3 5 = 0 := by rw [← hM]; rfl
  have mB : M.1 4 = C.1 4 := by rw [← hM]; rfl
  have n5 : E.1 9 5 = nI n := by rw [← hE]; exact t2
  have n7 : E.1 9 7 = nI st := by rw [← hE]; rfl
  have n8 : E.1 9 8 = nI st := by rw [← hE]; rfl
  have nB : E.1 4 = D.1 4 := by rw [← hE]; rfl
  have fM : FrT C M := by rw [← hM]; exact (((FrT.refl C).put _ (by decide)).put _ (by decide)).put _ (by decide)
  have fE : GrT D E := by rw [← hE]; exact ((GrT.refl D).put _ (by decide)).put _ (by decide)
  rw [m1, m3, n7]
  by_cases ce : n ≤ st
  · have es : st = n := by omega
    subst es
    rw [if_pos (nI_le (Nat.le_refl _) (by omega)), m_byte_e n5 (Nat.le_refl _) (by omega), Option.bind_some, if_neg (by decide)]
    unfold mX5_next_b97 mX12_advance_b83 mX12_advance_b105
    have z1 : (sI M 3 2 (0 : Int32)).1 3 2 = 0 := upd_s (M.1 3) 2 0
    have z2 : (sJ (sI E 9 6 (0 : Int32)) 2 9 (0 : Int64)).1 9 6 = 0 := upd_s (E.1 9) 6 0
    have z3 : (sI (sJ (sI E 9 6 (0 : Int32)) 2 9 (0 : Int64)) 9 10 (-1 : Int32)).1 9 6 = 0 := upd_s (E.1 9) 6 0
    rw [z1, z2, if_neg (by decide), if_neg (by decide), if_neg (by decide), z3, if_neg (by decide), b127_e hN (M := sI M 3 2 (0 : Int32)) (n := st) (q := st) m1 m4 (Nat.le_refl _) (by omega), b126_no hN (by rw [z3]; decide), b207_no hN (by rw [z3]; decide)]
    exact ⟨_, _, rfl, rfl, fM.put _ (by decide), ((fE.put _ (by decide)).word _).put _ (by decide), st, st, s1, Nat.le_refl _, Nat.le_refl _, m3, n7, m4, n8, Or.inl ⟨z1, z3⟩⟩
  have hst : st < n := by omega
  have eb : E.1 4 st = M.1 4 st &&& (255 : Int32) := by rw [nB, mB]; exact t3 st hst
  have eB : ∀ k, st ≤ k → k < n - st + st → (fun k => M.1 4 k &&& (255 : Int32)) k = E.1 4 k := fun k _ h2 => by
    show M.1 4 k &&& (255 : Int32) = E.1 4 k
    rw [nB, mB]; exact (t3 k (by omega)).symm
  obtain ⟨j, hj, ej⟩ := and255 (M.1 4 st)
  have b0 : 0 ≤ E.1 4 st := by rw [eb, ej]; exact nI_pos' (by omega)
  rw [if_neg (nI_ge hst (by omega)), c_byte m1 hn hst, m_byte n5 hn hst, Option.bind_some, Option.bind_some, c_sort, Option.bind_some, if_pos b0, m_letter, Option.bind_some, m_digit, Option.bind_some, ← eb]
  have hw : ∀ s : Int32, (sJ (sI E 9 6 s) 2 9 (0 : Int64)).1 9 6 = s := fun s => upd_s (E.1 9) 6 s
  have hv : ∀ s v : Int32, (sI (sJ (sI E 9 6 s) 2 9 (0 : Int64)) 9 10 v).1 9 6 = s := fun s v => upd_s (E.1 9) 6 s
  have hu : ∀ s : Int32, (sI M 3 2 s).1 3 2 = s := fun s => upd_s (M.1 3) 2 s
  unfold mX5_next_b97 mX12_advance_b83 mX12_advance_b105
  simp only [hw, hv, hu]
  by_cases cL : isL (E.1 4 st)
  · have sL : srt (E.1 4 st) = 1 := if_pos cL
    rw [sL, if_neg (fun z => (inS_L _).mp z cL), if_neg (by decide), if_neg (by decide), if_neg (by decide), if_neg (by decide)]
    have r1 := c_run1 (N := N) hn (n - st) N st (sI M 3 2 (1 : Int32)) (by omega) (by omega) m1 (hu 1) m4
    have r2 := m_run1 (N := N) hN hn (st := st) (n - st) N st (sI (sJ (sI E 9 6 (1 : Int32)) 2 9 (0 : Int64)) 9 10 (E.1 4 st)) 0 (by omega) (by omega) (Nat.le_refl _) n5 (hv 1 _) n7 n8 (vp_updL_s (E.2 2) 9 0)
    rw [r1, r2]
    have x1 : runE isL (fun k => (sI M 3 2 (1 : Int32)).1 4 k &&& (255 : Int32)) (n - st) st = runE isL (E.1 4) (n - st) st := runE_ext (n - st) st eB
    have x2 := runE_le (P := isL) (B := E.1 4) (n - st) st
    have x3 : runE isL (E.1 4) (n - st) st ≠ st := by
      obtain ⟨p, hp⟩ : ∃ p, n - st = p + 1 := ⟨n - st - 1, by omega⟩
      rw [hp, runE, if_pos cL]
      have := (runE_le (P := isL) (B := E.1 4) p (st + 1)).1
      omega
    refine ⟨_, _, rfl, rfl, (fM.put _ (by decide)).put _ (by decide), ((((fE.put _ (by decide)).word _).put _ (by decide)).word _).put _ (by decide), st, runE isL (E.1 4) (n - st) st, s1, x2.1, by omega, m3, n7, ?_, ?_, Or.inr (Or.inl ⟨hu 1, hv 1 (E.1 4 st), by omega, fun k k1 k2 => runE_in (P := isL) (B := E.1 4) (n - st) st k k1 k2, ?_⟩)⟩
    · rw [x1]; exact upd_s ((sI M 3 2 (1 : Int32)).1 3) 4 _
    · exact upd_s (upd (upd (E.1 9) 6 1) 10 (E.1 4 st)) 8 (nI (runE isL (E.1 4) (n - st) st))
    · refine (vp_updL_s (vp_updL (E.2 2) 9 0) 9 (wcd (E.1 4) st (n - st) st 0)).trans ?_
      rw [wcd_wcs]
      rfl
  rw [if_pos ((inS_L _).mpr cL)]
  by_cases cD : isD (E.1 4 st)
  · have sD : srt (E.1 4 st) = 2 := by unfold srt; rw [if_neg cL, if_pos cD]
    rw [sD, if_neg (fun z => (inS_D _).mp z cD), if_neg (by decide), if_neg (by decide), if_pos trivial, if_neg (by decide)]
    have r1 := c_run2 (N := N) hn (n - st) N st (sI M 3 2 (2 : Int32)) 0 (by omega) (by omega) m1 (hu 2) m4 m5
    have r2 := m_run2 (N := N) hN hn (n - st) N st (sI (sJ (sI E 9 6 (2 : Int32)) 2 9 (0 : Int64)) 9 10 (0 : Int32)) 0 (by omega) (by omega) n5 (hv 2 0) n8 (upd_s (upd (E.1 9) 6 2) 10 0)
    rw [b126_no hN (by rw [hv]; decide), r1, r2]
    have x1 : runE isD (fun k => (sI M 3 2 (2 : Int32)).1 4 k &&& (255 : Int32)) (n - st) st = runE isD (E.1 4) (n - st) st := runE_ext (n - st) st eB
    have x4 : cval (fun k => (sI M 3 2 (2 : Int32)).1 4 k &&& (255 : Int32)) (n - st) st 0 = cval (E.1 4) (n - st) st 0 := cval_ext (n - st) st 0 eB
    have x2 := runE_le (P := isD) (B := E.1 4) (n - st) st
    have x3 : runE isD (E.1 4) (n - st) st ≠ st := by
      obtain ⟨p, hp⟩ : ∃ p, n - st = p + 1 := ⟨n - st - 1, by omega⟩
      rw [hp, runE, if_pos cD]
      have := (runE_le (P := isD) (B := E.1 4) p (st + 1)).1
      omega
    refine ⟨_, _, rfl, rfl, ((fM.put _ (by decide)).put _ (by decide)).put _ (by decide), ((((fE.put _ (by decide)).word _).put _ (by decide)).put _ (by decide)).put _ (by decide), st, runE isD (E.1 4) (n - st) st, s1, x2.1, by omega, m3, n7, ?_, ?_, Or.inr (Or.inr (Or.inl ⟨hu 2, hv 2 0, by omega, ?_⟩))⟩
    · rw [x1]; rfl
    · rfl
    · show VR (cval (fun k => (sI M 3 2 (2 : Int32)).1 4 k &&& (255 : Int32)) (n - st) st 0) (mval (E.1 4) (n - st) st 0)
      rw [x4]
      exact VR.run (n - st) st 0 0 (Or.inl ⟨rfl, by decide, by decide⟩)
  rw [if_pos ((inS_D _).mpr cD), if_neg (show ¬ (3 : Int32) = 2 by decide), if_pos trivial]
  have hx : ∀ v : Int32, ¬ (sI (sI (sJ (sI E 9 6 (3 : Int32)) 2 9 (0 : Int64)) 9 10 (E.1 4 st)) 9 8 v).1 9 6 = (1 : Int32) ∧ ¬ (sI (sI (sJ (sI E 9 6 (3 : Int32)) 2 9 (0 : Int64)) 9 10 (E.1 4 st)) 9 8 v).1 9 6 = (2 : Int32) := fun v => by
    have : (sI (sI (sJ (sI E 9 6 (3 : Int32)) 2 9 (0 : Int64)) 9 10 (E.1 4 st)) 9 8 v).1 9 6 = (3 : Int32) := hv 3 (E.1 4 st)
    rw [this]; decide
  rw [b126_no hN (hx _).1, b207_no hN (hx _).2]
  have e8 : (sI (sJ (sI E 9 6 (3 : Int32)) 2 9 (0 : Int64)) 9 10 (E.1 4 st)).1 9 8 = nI st := n8
  have e4 : ∀ s : Int32, (sI M 3 2 s).1 3 4 = nI st := fun s => m4
  rw [e8, nI_1, e4, nI_1]
  by_cases c59 : E.1 4 st = 59
  · have sS : srt (E.1 4 st) = 3 := by unfold srt; rw [if_neg cL, if_neg cD, if_pos c59]
    rw [sS, if_pos rfl, Option.bind_some]
    exact ⟨_, _, rfl, rfl, (fM.put _ (by decide)).put _ (by decide), (((fE.put _ (by decide)).word _).put _ (by decide)).put _ (by decide), st, st + 1, s1, by omega, by omega, m3, n7, upd_s (upd (M.1 3) 2 3) 4 (nI (st + 1)), upd_s (upd (upd (E.1 9) 6 3) 10 (E.1 4 st)) 8 (nI (st + 1)), Or.inr (Or.inr (Or.inr (Or.inl ⟨hu 3, hv 3 (E.1 4 st), by omega, c59⟩)))⟩
  · have sS : srt (E.1 4 st) = 4 := by unfold srt; rw [if_neg cL, if_neg cD, if_neg c59]
    rw [sS, if_neg (by decide), if_pos rfl, Option.bind_some]
    exact ⟨_, _, rfl, rfl, (fM.put _ (by decide)).put _ (by decide), (((fE.put _ (by decide)).word _).put _ (by decide)).put _ (by decide), st, st + 1, s1, by omega, by omega, m3, n7, upd_s (upd (M.1 3) 2 4) 4 (nI (st + 1)), upd_s (upd (upd (E.1 9) 6 3) 10 (E.1 4 st)) 8 (nI (st + 1)), Or.inr (Or.inr (Or.inr (Or.inr ⟨hu 4, hv 3 (E.1 4 st), by omega, c59⟩)))⟩
