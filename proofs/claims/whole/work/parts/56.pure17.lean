/-! ===== PURE 17: the tokens ===== -/
theorem sI_sI (M : Mem) (r i : Nat) (a b : Int32) : sI (sI M r i a) r i b = sI M r i b := by
  rw [sI_sR, sI_sR, sR_s, sR_sR, sI_sR]
  congr 1
  funext k
  unfold upd
  grind
theorem sI4 (M : Mem) (r : Nat) {i j : Nat} (h : i ≠ j) (a b c d : Int32) : sI (sI (sI (sI M r i a) r j b) r i c) r j d = sI (sI M r i c) r j d := by
  simp only [sI_sR, sR_s, sR_sR]
  congr 1
  funext k
  unfold upd
  grind
theorem sI_id {M : Mem} {r i : Nat} {a : Int32} (h : M.1 r i = a) : sI M r i a = M := by
  rw [sI_sR]
  have : upd (M.1 r) i a = M.1 r := by
    funext k
    unfold upd
    grind
  rw [this, sR_self]
theorem sJ_sJ (M : Mem) (r i : Nat) (a b : Int64) : sJ (sJ M r i a) r i b = sJ M r i b := by
  rw [sJ_sL, sJ_sL, sL_s, sL_sL, sJ_sL]
  congr 1
  funext k
  unfold vp_updL
  grind
theorem sJ_id {M : Mem} {r i : Nat} {a : Int64} (h : M.2 r i = a) : sJ M r i a = M := by
  rw [sJ_sL]
  have : vp_updL (M.2 r) i a = M.2 r := by
    funext k
    unfold vp_updL
    grind
  rw [this, sL_self]
theorem and255 (x : Int32) : ∃ j : Nat, j ≤ 255 ∧ x &&& (255 : Int32) = nI j := by
  refine ⟨(x.toBitVec &&& 255#32).toNat, ?_, ?_⟩
  · rw [BitVec.toNat_and]; exact Nat.and_le_right
  · apply Int32.toBitVec_inj.mp
    rw [Int32.toBitVec_and]
    show _ = BitVec.ofNat 32 (x.toBitVec &&& 255#32).toNat
    rw [BitVec.ofNat_toNat, BitVec.setWidth_eq]
    rfl
theorem c_byte {M : Mem} {n k : Nat} (h1 : M.1 3 1 = nI n) (hn : n ≤ 120) (hk : k < n) : mX9_at M (nI k) = some (M.1 4 k &&& (255 : Int32)) := by
  unfold mX9_at
  rw [if_neg (nI_pos (by omega)), h1, if_neg (nI_ge hk (by omega)), if_neg (show ¬ (120 : Int32) ≤ nI k from nI_ge (b := 120) (by omega) (by decide)), if_pos (show ok (nI k) 120 from vp_in_nI (by omega) (by decide)), nI_clamp (by omega)]
theorem m_byte {M : Mem} {n k : Nat} (h1 : M.1 9 5 = nI n) (hn : n ≤ 120) (hk : k < n) : mX12_byteAt M (nI k) = some (M.1 4 k) := by
  unfold mX12_byteAt
  rw [h1, if_neg (nI_ge hk (by omega)), if_pos (show ok (nI k) 120 from vp_in_nI (by omega) (by decide)), nI_clamp (by omega)]
theorem m_byte_e {M : Mem} {n k : Nat} (h1 : M.1 9 5 = nI n) (hk : n ≤ k) (hk2 : k < 2 ^ 31) : mX12_byteAt M (nI k) = some (-1 : Int32) := by
  unfold mX12_byteAt
  rw [h1, if_pos (nI_le hk hk2)]
abbrev isL (b : Int32) : Prop := 97 ≤ b ∧ b ≤ 122
abbrev isD (b : Int32) : Prop := 48 ≤ b ∧ b ≤ 57
def srt (b : Int32) : Int32 := if isL b then 1 else if isD b then 2 else if b = 59 then 3 else 4
theorem c_sort (b : Int32) : mX5_sortOf b = some (srt b) := by
  unfold mX5_sortOf mX5_sortOf_b14 mX5_sortOf_b28
  rw [if_some, if_some, if_some, if_some, if_some]
  congr 1
  unfold srt isL isD
  grind
theorem m_letter (b : Int32) : mX12_isLetter b = some (inS b 97 122) := by unfold mX12_isLetter; rw [m_in, Option.bind_some, if_pos (inS_01 _ _ _)]
theorem m_digit (b : Int32) : mX12_isDigit b = some (inS b 48 57) := by unfold mX12_isDigit; rw [m_in, Option.bind_some, if_pos (inS_01 _ _ _)]
theorem inS_L (b : Int32) : (inS b 97 122 = 0) ↔ ¬ isL b := by unfold inS isL; grind
theorem inS_D (b : Int32) : (inS b 48 57 = 0) ↔ ¬ isD b := by unfold inS isD; grind
/-- where a run ends -/
def runE (P : Int32 → Prop) [DecidablePred P] (B : Nat → Int32) : Nat → Nat → Nat
  | 0, q => q
  | p + 1, q => if P (B q) then runE P B p (q + 1) else q
def cval (B : Nat → Int32) : Nat → Nat → Int32 → Int32
  | 0, _, v => v
  | p + 1, q, v => if isD (B q) then cval B p (q + 1) (if (1000 : Int32) < (((10 : Int32) * v) + (B q - (48 : Int32))) then (1000 : Int32) else (((10 : Int32) * v) + (B q - (48 : Int32)))) else v
def mval (B : Nat → Int32) : Nat → Nat → Int32 → Int32
  | 0, _, v => v
  | p + 1, q, v => if isD (B q) then mval B p (q + 1) (if v ≤ (999 : Int32) then ((((10 : Int32) * v) + B q) - (48 : Int32)) else (10000 : Int32)) else v
def wcd (B : Nat → Int32) (st : Nat) : Nat → Nat → Int64 → Int64
  | 0, _, w => w
  | p + 1, q, w => if isL (B q) then wcd B st p (q + 1) (if 12 ≤ q - st then (-1 : Int64) else ((((27 : Int64) * w) + (B q).toInt64) - (96 : Int64))) else w
theorem runE_le {P : Int32 → Prop} [DecidablePred P] {B : Nat → Int32} : ∀ (p q : Nat), q ≤ runE P B p q ∧ runE P B p q ≤ p + q := by
  intro p
  induction p with
  | zero => intro q; rw [runE]; omega
  | succ p ih =>
    intro q
    rw [runE]
    have := ih (q + 1)
    split <;> omega
theorem runE_in {P : Int32 → Prop} [DecidablePred P] {B : Nat → Int32} : ∀ (p q k : Nat), q ≤ k → k < runE P B p q → P (B k) := by
  intro p
  induction p with
  | zero => intro q k h1 h2; rw [runE] at h2; omega
  | succ p ih =>
    intro q k h1 h2
    rw [runE] at h2
    by_cases c : P (B q)
    · rw [if_pos c] at h2
      by_cases e : k = q
      · subst e; exact c
      · exact ih (q + 1) k (by omega) h2
    · rw [if_neg c] at h2; omega
section LOOPS
variable {N n : Nat}
theorem c_run1 (hn : n ≤ 120) : ∀ (p n1 q : Nat) (M : Mem), p + q = n → p < n1 → M.1 3 1 = nI n → M.1 3 2 = (1 : Int32) → M.1 3 4 = nI q → mX5_next_b127 N n1 M = some (sI M 3 4 (nI (runE isL (fun k => M.1 4 k &&& (255 : Int32)) p q))) := by
  intro p
  induction p with
  | zero =>
    intro n1 q M hq h1 a1 a2 a3
    obtain ⟨n1, rfl⟩ : ∃ z, n1 = z + 1 := ⟨n1 - 1, by omega⟩
    rw [mX5_next_b127, a1, a3, if_pos (nI_le (by omega) (by omega)), runE, sI_id a3]
  | succ p ih =>
    intro n1 q M hq h1 a1 a2 a3
    obtain ⟨n1, rfl⟩ : ∃ z, n1 = z + 1 := ⟨n1 - 1, by omega⟩
    rw [mX5_next_b127, a1, a3, if_neg (nI_ge (by omega) (by omega)), c_byte a1 hn (by omega), Option.bind_some, c_sort, Option.bind_some, a2, runE]
    by_cases c : isL (M.1 4 q &&& (255 : Int32))
    · have s : srt (M.1 4 q &&& (255 : Int32)) = 1 := if_pos c
      rw [s, if_pos rfl, if_neg (by decide), if_pos c, nI_1, ih n1 (q + 1) (sI M 3 4 (nI (q + 1))) (by omega) (by omega) a1 a2 (upd_s (M.1 3) 4 (nI (q + 1))), sI_sI]
      rfl
    · have s : ¬ srt (M.1 4 q &&& (255 : Int32)) = 1 := by
        unfold srt
        rw [if_neg c]
        split
        · decide
        · split <;> decide
      rw [if_neg s, if_neg c, sI_id a3]
theorem c_run2 (hn : n ≤ 120) : ∀ (p n1 q : Nat) (M : Mem) (v : Int32), p + q = n → p < n1 → M.1 3 1 = nI n → M.1 3 2 = (2 : Int32) → M.1 3 4 = nI q → M.1 3 5 = v → mX5_next_b127 N n1 M = some (sI (sI M 3 5 (cval (fun k => M.1 4 k &&& (255 : Int32)) p q v)) 3 4 (nI (runE isD (fun k => M.1 4 k &&& (255 : Int32)) p q))) := by
  intro p
  induction p with
  | zero =>
    intro n1 q M v hq h1 a1 a2 a3 a4
    obtain ⟨n1, rfl⟩ : ∃ z, n1 = z + 1 := ⟨n1 - 1, by omega⟩
    rw [mX5_next_b127, a1, a3, if_pos (nI_le (by omega) (by omega)), runE, cval, sI_id a4, sI_id a3]
  | succ p ih =>
    intro n1 q M v hq h1 a1 a2 a3 a4
    obtain ⟨n1, rfl⟩ : ∃ z, n1 = z + 1 := ⟨n1 - 1, by omega⟩
    rw [mX5_next_b127, a1, a3, if_neg (nI_ge (by omega) (by omega)), c_byte a1 hn (by omega), Option.bind_some, c_sort, Option.bind_some, a2, runE, cval]
    by_cases c : isD (M.1 4 q &&& (255 : Int32))
    · have s : srt (M.1 4 q &&& (255 : Int32)) = 2 := by
        unfold srt
        rw [if_neg (by unfold isL; unfold isD at c; grind), if_pos c]
      rw [s, if_pos rfl, if_pos rfl, if_pos c, if_pos c, Option.bind_some, Option.bind_some, a4]
      generalize (if (1000 : Int32) < (((10 : Int32) * v) + ((M.1 4 q &&& (255 : Int32)) - (48 : Int32))) then (1000 : Int32) else (((10 : Int32) * v) + ((M.1 4 q &&& (255 : Int32)) - (48 : Int32)))) = x
      have e4 : (sI M 3 5 x).1 3 4 = nI q := a3
      rw [e4, nI_1, ih n1 (q + 1) (sI (sI M 3 5 x) 3 4 (nI (q + 1))) x (by omega) (by omega) a1 a2 (upd_s ((sI M 3 5 x).1 3) 4 (nI (q + 1))) (upd_s (M.1 3) 5 x)]
      show some (sI (sI (sI (sI M 3 5 x) 3 4 (nI (q + 1))) 3 5 (cval (fun k => M.1 4 k &&& (255 : Int32)) p (q + 1) x)) 3 4 (nI (runE isD (fun k => M.1 4 k &&& (255 : Int32)) p (q + 1)))) = _
      rw [sI4 M 3 (by decide)]
    · have s : ¬ srt (M.1 4 q &&& (255 : Int32)) = 2 := by
        unfold srt
        split
        · decide
        · split <;> decide
      rw [if_neg s, if_neg c, if_neg c, sI_id a4, sI_id a3]
end LOOPS
def VR (c d : Int32) : Prop := (c = d ∧ 0 ≤ c ∧ c ≤ 999) ∨ (c = 1000 ∧ 1000 ≤ d ∧ d ≤ 10000)
theorem VR.run {B : Nat → Int32} : ∀ (p q : Nat) (c d : Int32), VR c d → VR (cval B p q c) (mval B p q d) := by
  intro p
  induction p with
  | zero => intro q c d h; exact h
  | succ p ih =>
    intro q c d h
    rw [cval, mval]
    by_cases e : isD (B q)
    · rw [if_pos e, if_pos e]
      apply ih
      obtain ⟨e1, e2⟩ := e
      obtain ⟨j, hj, ej⟩ := nat_of (M := 9) (n := 9) (x := B q - 48) (by decide) (by grind) (by grind)
      have eb : B q = nI (j + 48) := by
        rw [← nI_add, ← ej]
        show B q = B q - 48 + 48
        rw [Int32.sub_add_cancel]
      rcases h with ⟨rfl, h1, h2⟩ | ⟨rfl, h1, h2⟩
      · obtain ⟨i, hi, rfl⟩ := nat_of (n := 999) (by decide) h1 h2
        have ec : ((10 : Int32) * nI i) + nI j = nI (10 * i + j) := by
          show nI 10 * nI i + nI j = _
          rw [pk_mul, nI_add]
        have ed : (((10 : Int32) * nI i) + nI (j + 48)) - (48 : Int32) = nI (10 * i + j) := by
          show (nI 10 * nI i + nI (j + 48)) - nI 48 = _
          rw [pk_mul, nI_add, ← Nat.add_assoc, ← nI_add, Int32.add_sub_cancel]
        rw [ej, eb, ec, ed, if_pos (show nI i ≤ (999 : Int32) from nI_le (b := 999) hi (by decide))]
        by_cases c : 1000 < 10 * i + j
        · rw [if_pos (show (1000 : Int32) < nI (10 * i + j) from nI_lt (a := 1000) c (by omega))]
          exact Or.inr ⟨rfl, nI_le (a := 1000) (by omega) (by omega), nI_le (b := 10000) (by omega) (by decide)⟩
        · rw [if_neg (show ¬ (1000 : Int32) < nI (10 * i + j) from nI_nlt (a := 1000) (by omega) (by decide))]
          by_cases c2 : 10 * i + j = 1000
          · rw [c2]; exact Or.inr ⟨rfl, by decide, by decide⟩
          · exact Or.inl ⟨rfl, nI_pos' (by omega), nI_le (b := 999) (by omega) (by decide)⟩
      · rw [if_neg (show ¬ d ≤ (999 : Int32) by grind)]
        refine Or.inr ⟨?_, by decide, by decide⟩
        rw [ej]
        have ec : ((10 : Int32) * (1000 : Int32)) + nI j = nI (10000 + j) := by
          show nI 10000 + nI j = _
          rw [nI_add]
        rw [ec, if_pos (show (1000 : Int32) < nI (10000 + j) from nI_lt (a := 1000) (by omega) (by omega))]
    · rw [if_neg e, if_neg e]; exact h
