/-! ===== PURE 20: words ===== -/
def cdN (f : Nat → Nat) : Nat → Nat
  | 0 => 0
  | L + 1 => 27 * cdN f L + f L
theorem cdN_inj {f g : Nat → Nat} : ∀ (L K : Nat), (∀ i, i < L → 1 ≤ f i ∧ f i ≤ 26) → (∀ i, i < K → 1 ≤ g i ∧ g i ≤ 26) → cdN f L = cdN g K → L = K ∧ ∀ i, i < L → f i = g i := by
  intro L
  induction L with
  | zero =>
    intro K hf hg h
    cases K with
    | zero => exact ⟨rfl, fun i hi => by omega⟩
    | succ K => rw [cdN, cdN] at h; have := hg K (by omega); omega
  | succ L ih =>
    intro K hf hg h
    cases K with
    | zero => rw [cdN, cdN] at h; have := hf L (by omega); omega
    | succ K =>
      rw [cdN, cdN] at h
      have a := hf L (by omega)
      have b := hg K (by omega)
      obtain ⟨e1, e2⟩ := ih K (fun i hi => hf i (by omega)) (fun i hi => hg i (by omega)) (by omega)
      subst e1
      refine ⟨rfl, fun i hi => ?_⟩
      by_cases c : i = L
      · subst c; omega
      · exact e2 i (by omega)
theorem cdN_cong {f g : Nat → Nat} : ∀ (L : Nat), (∀ i, i < L → f i = g i) → cdN f L = cdN g L := by
  intro L
  induction L with
  | zero => intro _; rfl
  | succ L ih => intro h; rw [cdN, cdN, ih (fun i hi => h i (by omega)), h L (by omega)]
theorem cdN_lt {f : Nat → Nat} : ∀ (L : Nat), (∀ i, i < L → f i ≤ 26) → cdN f L < 27 ^ L := by
  intro L
  induction L with
  | zero => intro _; exact Nat.lt_of_lt_of_le (Nat.lt_succ_self 0) (Nat.le_refl 1)
  | succ L ih =>
    intro h
    have a := ih (fun i hi => h i (by omega))
    have b := h L (by omega)
    rw [cdN, Nat.pow_succ]
    omega
theorem wcs_snoc {B : Nat → Int32} {st : Nat} : ∀ (L q : Nat) (w : Int64), wcs B st (L + 1) q w = (if 12 ≤ q + L - st then (-1 : Int64) else ((((27 : Int64) * wcs B st L q w) + (B (q + L)).toInt64) - (96 : Int64))) := by
  intro L
  induction L with
  | zero => intro q w; rw [wcs, wcs, wcs]; rfl
  | succ L ih =>
    intro q w
    rw [wcs, ih, show q + 1 + L = q + (L + 1) by omega]
    rfl
def dgN (b : Int32) : Nat := (b - 96).toNatClampNeg
theorem dg_of {b : Int32} (h : isL b) : b = nI (dgN b + 96) ∧ 1 ≤ dgN b ∧ dgN b ≤ 26 ∧ b.toInt64 = Int64.ofNat (dgN b + 96) := by
  obtain ⟨h1, h2⟩ := h
  obtain ⟨j, hj, rfl⟩ := nat_of (n := 122) (by decide) (show 0 ≤ b by grind) h2
  have hj1 : 97 ≤ j := by
    apply Classical.byContradiction
    intro z
    exact nI_ge (a := j) (b := 97) (by omega) (by decide) h1
  have a : ∀ j : Fin 26, nI (j.val + 97) = nI (dgN (nI (j.val + 97)) + 96) ∧ 1 ≤ dgN (nI (j.val + 97)) ∧ dgN (nI (j.val + 97)) ≤ 26 ∧ (nI (j.val + 97)).toInt64 = Int64.ofNat (dgN (nI (j.val + 97)) + 96) := by decide +kernel
  have a2 := a ⟨j - 97, by omega⟩
  rw [show (⟨j - 97, by omega⟩ : Fin 26).val + 97 = j from (by omega : j - 97 + 97 = j)] at a2
  exact a2
theorem wcs_nat {B : Nat → Int32} {st : Nat} : ∀ (L : Nat), L ≤ 12 → (∀ k, st ≤ k → k < st + L → isL (B k)) → wcs B st L st 0 = Int64.ofNat (cdN (fun i => dgN (B (st + i))) L) := by
  intro L
  induction L with
  | zero => intro _ _; rfl
  | succ L ih =>
    intro hL h
    rw [wcs_snoc, if_neg (by omega), ih (by omega) (fun k a b => h k a (by omega)), cdN, (dg_of (h (st + L) (by omega) (by omega))).2.2.2]
    show Int64.ofNat 27 * Int64.ofNat _ + Int64.ofNat _ - Int64.ofNat 96 = _
    rw [← Int64.ofNat_mul, ← Int64.ofNat_add, ← Nat.add_assoc, Int64.ofNat_add, Int64.add_sub_cancel]
theorem ofNat64_inj {a b : Nat} (ha : a < 2 ^ 63) (hb : b < 2 ^ 63) (h : Int64.ofNat a = Int64.ofNat b) : a = b := by
  have e := congrArg (fun x : Int64 => x.toBitVec.toNat) h
  have e2 : (BitVec.ofNat 64 a).toNat = (BitVec.ofNat 64 b).toNat := e
  rw [BitVec.toNat_ofNat, BitVec.toNat_ofNat, Nat.mod_eq_of_lt (by omega), Nat.mod_eq_of_lt (by omega)] at e2
  exact e2
/-- the words' codes -/
def kc (w : Nat) : Int64 := [380068, 7650653949, 50348, 1812878082, 256863, 5353, 47, 10940985, 1489744, 79958, 9665171].getD w 0
def kb (w i : Nat) : Int32 := (sByt.getD w []).getD i 0 &&& 255
theorem kc_all : ∀ w : Fin 11, kc w.val = Int64.ofNat (cdN (fun i => dgN (kb w.val i)) (sLen.getD w.val 0)) ∧ sLen.getD w.val 0 ≤ 7 ∧ 1 ≤ sLen.getD w.val 0 := by decide +kernel
theorem kb_all : ∀ w : Fin 11, ∀ i : Fin 7, i.val < sLen.getD w.val 0 → isL (kb w.val i.val) := by decide +kernel
theorem c_word_b {C : Mem} {n N st L w : Nat} (hn : n ≤ 120) (c1 : C.1 3 1 = nI n) (c3 : C.1 3 3 = nI st) (hL : st + L ≤ n) (hw : sLen.getD w 0 = L) : ∀ (p n1 i : Nat), p + i = L → p < n1 → ∃ r : Int32, mX5_isWord_b20 N C n1 w (nI i) = some r ∧ ((r = 1 ∧ ∀ k, i ≤ k → k < L → kb w k = C.1 4 (st + k) &&& (255 : Int32)) ∨ (r = 0 ∧ ¬ ∀ k, i ≤ k → k < L → kb w k = C.1 4 (st + k) &&& (255 : Int32))) := by
  intro p
  induction p with
  | zero =>
    intro n1 i hi h1
    obtain ⟨n1, rfl⟩ : ∃ z, n1 = z + 1 := ⟨n1 - 1, by omega⟩
    refine ⟨1, ?_, Or.inl ⟨rfl, fun k a b => by omega⟩⟩
    rw [mX5_isWord_b20, hw, if_pos (nI_le (by omega) (by omega))]
  | succ p ih =>
    intro n1 i hi h1
    obtain ⟨n1, rfl⟩ : ∃ z, n1 = z + 1 := ⟨n1 - 1, by omega⟩
    rw [mX5_isWord_b20, hw, if_neg (nI_ge (by omega) (by omega)), if_pos (show ok (nI i) L from vp_in_nI (by omega) (by omega)), c3, nI_add, c_byte c1 hn (by omega), Option.bind_some, nI_clamp (by omega), nI_1]
    by_cases c : (sByt.getD w []).getD i 0 &&& 255 = C.1 4 (st + i) &&& (255 : Int32)
    · rw [if_pos c]
      obtain ⟨r, r1, r2⟩ := ih n1 (i + 1) (by omega) (by omega)
      refine ⟨r, r1, ?_⟩
      rcases r2 with ⟨a, b⟩ | ⟨a, b⟩
      · refine Or.inl ⟨a, fun k k1 k2 => ?_⟩
        by_cases e : k = i
        · subst e; exact c
        · exact b k (by omega) k2
      · exact Or.inr ⟨a, fun z => b (fun k k1 k2 => z k (by omega) k2)⟩
    · rw [if_neg c]
      exact ⟨0, rfl, Or.inr ⟨rfl, fun z => c (z i (Nat.le_refl _) (by omega))⟩⟩
theorem word2 {C D : Mem} {n N st e w : Nat} (hN : 300 ≤ N) (hT : Tp C D n) (hw : w < 11) (hse : st < e) (he : e ≤ n) (c3 : C.1 3 3 = nI st) (c4 : C.1 3 4 = nI e) (d6 : D.1 9 6 = 1) (hl : ∀ k, st ≤ k → k < e → isL (D.1 4 k)) (hW : D.2 2 9 = wcs (D.1 4) st (e - st) st 0) : ∃ r : Int32, b01 r ∧ mX5_isWord N C w = some r ∧ mX12_isWord D (kc w) = some r := by
  obtain ⟨hn, t1, t2, t3⟩ := hT
  obtain ⟨k1, k2, k3⟩ := kc_all ⟨w, hw⟩
  have k4 := fun i h => kb_all ⟨w, hw⟩ i h
  simp only at k1 k2 k3 k4
  unfold mX5_isWord mX12_isWord
  rw [if_pos d6, c3, c4, nI_sub (by omega), hW]
  generalize hL : sLen.getD w 0 = K at k1 k2 k3 k4
  have kd : ∀ i, i < K → 1 ≤ dgN (kb w i) ∧ dgN (kb w i) ≤ 26 := fun i hi => by
    have z := dg_of (k4 ⟨i, by omega⟩ hi)
    exact ⟨z.2.1, z.2.2.1⟩
  have big : cdN (fun i => dgN (kb w i)) K < 2 ^ 63 := by
    have z := cdN_lt (f := fun i => dgN (kb w i)) K (fun i hi => (kd i hi).2)
    have z2 : 27 ^ K ≤ 27 ^ 7 := Nat.pow_le_pow_right (by decide) k2
    omega
  have main : (wcs (D.1 4) st (e - st) st 0 = kc w) ↔ (K = e - st ∧ ∀ k, 0 ≤ k → k < K → kb w k = C.1 4 (st + k) &&& (255 : Int32)) := by
    by_cases c12 : e - st ≤ 12
    · have ll : ∀ k, st ≤ k → k < st + (e - st) → isL (D.1 4 k) := fun k a b => hl k a (by omega)
      have dd : ∀ i, i < e - st → 1 ≤ dgN (D.1 4 (st + i)) ∧ dgN (D.1 4 (st + i)) ≤ 26 := fun i hi => by
        have z := dg_of (hl (st + i) (by omega) (by omega))
        exact ⟨z.2.1, z.2.2.1⟩
      have big2 : cdN (fun i => dgN (D.1 4 (st + i))) (e - st) < 2 ^ 63 := by
        have z := cdN_lt (f := fun i => dgN (D.1 4 (st + i))) (e - st) (fun i hi => (dd i hi).2)
        have z2 : 27 ^ (e - st) ≤ 27 ^ 12 := Nat.pow_le_pow_right (by decide) c12
        omega
      rw [wcs_nat (e - st) c12 ll, k1]
      constructor
      · intro z
        obtain ⟨y1, y2⟩ := cdN_inj (e - st) K dd kd (ofNat64_inj big2 big z)
        refine ⟨y1.symm, fun k _ hk => ?_⟩
        have y3 := y2 k (by omega)
        rw [← t3 (st + k) (by omega), (dg_of (k4 ⟨k, by omega⟩ hk)).1, (dg_of (hl (st + k) (by omega) (by omega))).1]
        rw [y3]
      · intro ⟨z1, z2⟩
        rw [← z1]
        congr 1
        apply cdN_cong
        intro i hi
        rw [t3 (st + i) (by omega), ← z2 i (by omega) hi]
    · have em : wcs (D.1 4) st (e - st) st 0 = -1 := by
        obtain ⟨L, hL2⟩ : ∃ L, e - st = L + 1 := ⟨e - st - 1, by omega⟩
        rw [hL2, wcs_snoc, if_pos (by omega)]
      rw [em]
      constructor
      · intro z
        exfalso
        rw [k1] at z
        have e1 := congrArg (fun x : Int64 => x.toBitVec.toNat) z
        have e2 : 2 ^ 64 - 1 = (BitVec.ofNat 64 (cdN (fun i => dgN (kb w i)) K)).toNat := e1
        rw [BitVec.toNat_ofNat, Nat.mod_eq_of_lt (by omega)] at e2
        omega
      · intro ⟨z1, _⟩
        omega
  by_cases cK : K = e - st
  · rw [if_pos (by rw [cK])]
    obtain ⟨r, r1, r2⟩ := c_word_b (C := C) (N := N) (w := w) hn t1 c3 (L := K) (by omega) hL K N 0 (by omega) (by omega)
    rw [show mX5_isWord_b20 N C N w (0 : Int32) = some r from r1]
    rcases r2 with ⟨rfl, b⟩ | ⟨rfl, b⟩
    · exact ⟨1, Or.inr rfl, rfl, by rw [if_pos ((lg_cmp_eq _ _).mpr (main.mpr ⟨cK, b⟩))]⟩
    · exact ⟨0, Or.inl rfl, rfl, by rw [if_neg (fun z => b (main.mp ((lg_cmp_eq _ _).mp z)).2)]⟩
  · rw [if_neg (show ¬ nI K = nI (e - st) from fun z => cK ((nI_eq (by omega) (by omega)).mp z)), if_neg (fun z => cK (main.mp ((lg_cmp_eq _ _).mp z)).1)]
    exact ⟨0, Or.inl rfl, rfl, rfl⟩
