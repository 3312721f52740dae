/-! ===== the class: its world. Cells: 0 the object, 1 the row of kinds, 2 to 7 the kinds, 8 to 10 the seas, 11 to 13 their rows of vessels, 14 + 6 j + i vessel i of sea j, 32 tape, 33 its bytes, 34 text, 35 the row of sheets, 36 to 39 sheets, 40 to 43 their numbers, 44 findings ===== -/
def kcl (k : Nat) : Nat := if k = 0 then 7 else if k = 1 then 8 else if k = 2 then 0 else if k = 3 then 1 else if k = 4 then 3 else 2
def fsT (E : Ev) (M : Mem) : List Value := [.ref (ec E 1), .ref (ec E 8), .ref (ec E 9), .ref (ec E 10), .int (M.1 3 0), .ref (ec E 32), .ref (ec E 34), .ref (ec E 35), .ref (ec E 44)]
def fsS (E : Ev) (M : Mem) (j : Nat) : List Value := [.int (M.1 j 0), .int (M.1 j 1), .int (M.1 j 2), .int (M.1 j 3), .int (M.1 j 4), .ref (ec E (11 + j)), .int (M.1 j 5)]
def fsV (E : Ev) (M : Mem) (j i : Nat) : List Value := [.ref (ec E (2 + (M.1 j (6 + 7 * i + 0)).toNatClampNeg)), .int (M.1 j (6 + 7 * i + 1)), .int (M.1 j (6 + 7 * i + 2)), .int (M.1 j (6 + 7 * i + 3)), .int (M.1 j (6 + 7 * i + 4)), .int (M.1 j (6 + 7 * i + 5)), .int (M.1 j (6 + 7 * i + 6))]
def fsTp (E : Ev) (M : Mem) : List Value := [.ref (ec E 33), .int (M.1 3 1)]
def fsTx (E : Ev) (M : Mem) : List Value := [.ref (ec E 32), .ref (ec E 1), .int (M.1 3 2), .int (M.1 3 3), .int (M.1 3 4), .int (M.1 3 5), .int (M.1 3 6)]
def fsSh (E : Ev) (M : Mem) (s : Nat) : List Value := [.int (M.1 5 s), .int (M.1 6 s), .ref (ec E (40 + s))]
def cellC (E : Ev) (M : Mem) (k : Nat) : va_E :=
  if k = 0 then .inr (11, fsT E M) else if k = 1 then .inl (eA E 4, 6, .inr (.inr (.inr (.inr (fun i => some (ec E (2 + i))))))) else if k < 8 then .inr (kcl (k - 2), [])
  else if k < 11 then .inr (4, fsS E M (k - 8)) else if k < 14 then .inl (eA E 3, 6, .inr (.inr (.inr (.inr (fun i => some (ec E (14 + 6 * (k - 11) + i)))))))
  else if k < 32 then .inr (10, fsV E M ((k - 14) / 6) ((k - 14) % 6)) else if k = 32 then .inr (9, fsTp E M) else if k = 33 then .inl (eA E 2, 120, .inl (M.1 4))
  else if k = 34 then .inr (5, fsTx E M) else if k = 35 then .inl (eA E 5, 4, .inr (.inr (.inr (.inr (fun i => some (ec E (36 + i))))))) else if k < 40 then .inr (6, fsSh E M (k - 36))
  else if k < 44 then .inl (eA E 1, 40, .inr (.inl (M.2 (k - 40)))) else .inl (eA E 0, 7, .inl (M.1 7))
def Wc (E : Ev) (M : Mem) : va_W := (List.range 45).map (fun k => (ec E k, cellC E M k))
theorem wc_at (E : Ev) (M : Mem) {k : Nat} (hk : k < 45) : (Wc E M)[k]? = some (ec E k, cellC E M k) := by
  unfold Wc
  rw [List.getElem?_map, List.getElem?_range hk]
  rfl
theorem wc_T (E : Ev) (M : Mem) : (Wc E M)[0]? = some (ec E 0, .inr (11, fsT E M)) := wc_at E M (k := 0) (by decide)
theorem wc_Ks (E : Ev) (M : Mem) : (Wc E M)[1]? = some (ec E 1, .inl (eA E 4, 6, .inr (.inr (.inr (.inr (fun i => some (ec E (2 + i)))))))) := wc_at E M (k := 1) (by decide)
theorem wc_K (E : Ev) (M : Mem) {k : Nat} (hk : k < 6) : (Wc E M)[2 + k]? = some (ec E (2 + k), .inr (kcl k, [])) := by
  rw [wc_at E M (k := 2 + k) (by omega)]
  unfold cellC
  rw [if_neg (by omega), if_neg (by omega), if_pos (by omega), Nat.add_sub_cancel_left]
theorem wc_S (E : Ev) (M : Mem) {j : Nat} (hj : j < 3) : (Wc E M)[8 + j]? = some (ec E (8 + j), .inr (4, fsS E M j)) := by
  rw [wc_at E M (k := 8 + j) (by omega)]
  unfold cellC
  rw [if_neg (by omega), if_neg (by omega), if_neg (by omega), if_pos (by omega), Nat.add_sub_cancel_left]
theorem wc_A (E : Ev) (M : Mem) {j : Nat} (hj : j < 3) : (Wc E M)[11 + j]? = some (ec E (11 + j), .inl (eA E 3, 6, .inr (.inr (.inr (.inr (fun i => some (ec E (14 + 6 * j + i)))))))) := by
  rw [wc_at E M (k := 11 + j) (by omega)]
  unfold cellC
  rw [if_neg (by omega), if_neg (by omega), if_neg (by omega), if_neg (by omega), if_pos (by omega), Nat.add_sub_cancel_left]
theorem wc_V (E : Ev) (M : Mem) {j i : Nat} (hj : j < 3) (hi : i < 6) : (Wc E M)[14 + 6 * j + i]? = some (ec E (14 + 6 * j + i), .inr (10, fsV E M j i)) := by
  rw [wc_at E M (k := 14 + 6 * j + i) (by omega)]
  unfold cellC
  rw [if_neg (by omega), if_neg (by omega), if_neg (by omega), if_neg (by omega), if_neg (by omega), if_pos (by omega), show (14 + 6 * j + i - 14) / 6 = j by omega, show (14 + 6 * j + i - 14) % 6 = i by omega]
theorem wc_Tp (E : Ev) (M : Mem) : (Wc E M)[32]? = some (ec E 32, .inr (9, fsTp E M)) := wc_at E M (k := 32) (by decide)
theorem wc_By (E : Ev) (M : Mem) : (Wc E M)[33]? = some (ec E 33, .inl (eA E 2, 120, .inl (M.1 4))) := wc_at E M (k := 33) (by decide)
theorem wc_Tx (E : Ev) (M : Mem) : (Wc E M)[34]? = some (ec E 34, .inr (5, fsTx E M)) := wc_at E M (k := 34) (by decide)
theorem wc_Sa (E : Ev) (M : Mem) : (Wc E M)[35]? = some (ec E 35, .inl (eA E 5, 4, .inr (.inr (.inr (.inr (fun i => some (ec E (36 + i)))))))) := wc_at E M (k := 35) (by decide)
theorem wc_Sh (E : Ev) (M : Mem) {s : Nat} (hs : s < 4) : (Wc E M)[36 + s]? = some (ec E (36 + s), .inr (6, fsSh E M s)) := by
  rw [wc_at E M (k := 36 + s) (by omega)]
  unfold cellC
  rw [if_neg (by omega), if_neg (by omega), if_neg (by omega), if_neg (by omega), if_neg (by omega), if_neg (by omega), if_neg (by omega), if_neg (by omega), if_neg (by omega), if_neg (by omega), if_pos (by omega), Nat.add_sub_cancel_left]
theorem wc_Nu (E : Ev) (M : Mem) {s : Nat} (hs : s < 4) : (Wc E M)[40 + s]? = some (ec E (40 + s), .inl (eA E 1, 40, .inr (.inl (M.2 s)))) := by
  rw [wc_at E M (k := 40 + s) (by omega)]
  unfold cellC
  rw [if_neg (by omega), if_neg (by omega), if_neg (by omega), if_neg (by omega), if_neg (by omega), if_neg (by omega), if_neg (by omega), if_neg (by omega), if_neg (by omega), if_neg (by omega), if_neg (by omega), if_pos (by omega), Nat.add_sub_cancel_left]
theorem wc_F (E : Ev) (M : Mem) : (Wc E M)[44]? = some (ec E 44, .inl (eA E 0, 7, .inl (M.1 7))) := wc_at E M (k := 44) (by decide)
/-- one cell set -/
theorem wc_set {E : Ev} {M M2 : Mem} {k : Nat} {e : va_E} (hk : k < 45) (h1 : cellC E M2 k = e) (h2 : ∀ q, q < 45 → q ≠ k → cellC E M2 q = cellC E M q) : (Wc E M).set k (ec E k, e) = Wc E M2 := by
  apply List.ext_getElem?
  intro q
  by_cases hq : q < 45
  · by_cases hqk : k = q
    · subst hqk
      rw [List.getElem?_set_self (by unfold Wc; simpa using hk), wc_at E M2 hk, h1]
    · rw [List.getElem?_set_ne hqk, wc_at E M hq, wc_at E M2 hq, h2 q hq (fun h => hqk h.symm)]
  · rw [List.getElem?_eq_none (by unfold Wc; simp; omega), List.getElem?_eq_none (by unfold Wc; simp; omega)]
theorem sI_o {M : Mem} {r i r2 i2 : Nat} {v : Int32} (h : r2 ≠ r ∨ i2 ≠ i) : (sI M r i v).1 r2 i2 = M.1 r2 i2 := by
  show (if r2 = r then upd (M.1 r) i v else M.1 r2) i2 = _
  by_cases hr : r2 = r
  · subst hr
    rw [if_pos rfl]
    exact if_neg (h.resolve_left (fun q => q rfl))
  · rw [if_neg hr]
theorem sI_r {M : Mem} {r i r2 : Nat} {v : Int32} (h : r2 ≠ r) : (sI M r i v).1 r2 = M.1 r2 := if_neg h
theorem sI_s {M : Mem} {r i : Nat} {v : Int32} : (sI M r i v).1 r i = v := by
  show (if r = r then upd (M.1 r) i v else M.1 r) i = _
  rw [if_pos rfl]
  exact if_pos rfl
theorem sI_u {M : Mem} {r i : Nat} {v : Int32} : (sI M r i v).1 r = upd (M.1 r) i v := if_pos rfl
theorem sJ_r {M : Mem} {r i r2 : Nat} {v : Int64} (h : r2 ≠ r) : (sJ M r i v).2 r2 = M.2 r2 := if_neg h
theorem sJ_u {M : Mem} {r i : Nat} {v : Int64} : (sJ M r i v).2 r = vp_updL (M.2 r) i v := if_pos rfl
theorem itc {c : Prop} [Decidable c] {α : Type} {a a2 b b2 : α} (h1 : c → a = a2) (h2 : ¬ c → b = b2) : (if c then a else b) = (if c then a2 else b2) := by
  by_cases h : c
  · rw [if_pos h, if_pos h]; exact h1 h
  · rw [if_neg h, if_neg h]; exact h2 h
/-- a cell is the same where what it shows is -/
theorem cell_congr {E : Ev} {M M2 : Mem} {q : Nat} (h0 : q = 0 → M2.1 3 0 = M.1 3 0) (hS : 8 ≤ q → q < 11 → ∀ i, i < 6 → M2.1 (q - 8) i = M.1 (q - 8) i)
    (hV : 14 ≤ q → q < 32 → ∀ f, f < 7 → M2.1 ((q - 14) / 6) (6 + 7 * ((q - 14) % 6) + f) = M.1 ((q - 14) / 6) (6 + 7 * ((q - 14) % 6) + f)) (hT : q = 32 → M2.1 3 1 = M.1 3 1) (hB : q = 33 → M2.1 4 = M.1 4)
    (hX : q = 34 → ∀ k, 2 ≤ k → k < 7 → M2.1 3 k = M.1 3 k) (hH : 36 ≤ q → q < 40 → M2.1 5 (q - 36) = M.1 5 (q - 36) ∧ M2.1 6 (q - 36) = M.1 6 (q - 36)) (hN : 40 ≤ q → q < 44 → M2.2 (q - 40) = M.2 (q - 40)) (hF : q = 44 → M2.1 7 = M.1 7) (hq : q < 45) : cellC E M2 q = cellC E M q := by
  unfold cellC
  refine itc (fun h => ?_) (fun n0 => itc (fun _ => rfl) (fun n1 => itc (fun _ => rfl) (fun n2 => itc (fun b => ?_) (fun n3 => itc (fun _ => rfl) (fun n4 => itc (fun b => ?_) (fun n5 => itc (fun h => ?_) (fun n6 => itc (fun h => ?_) (fun n7 => itc (fun h => ?_) (fun n8 => itc (fun _ => rfl) (fun n9 => itc (fun b => ?_) (fun n10 => itc (fun b => ?_) (fun n11 => ?_))))))))))))
  · unfold fsT; rw [h0 h]
  · have z := hS (by omega) b
    unfold fsS; rw [z 0 (by omega), z 1 (by omega), z 2 (by omega), z 3 (by omega), z 4 (by omega), z 5 (by omega)]
  · have z := hV (by omega) b
    unfold fsV; rw [z 0 (by omega), z 1 (by omega), z 2 (by omega), z 3 (by omega), z 4 (by omega), z 5 (by omega), z 6 (by omega)]
  · unfold fsTp; rw [hT h]
  · rw [hB h]
  · have z := hX h
    unfold fsTx; rw [z 2 (by omega) (by omega), z 3 (by omega) (by omega), z 4 (by omega) (by omega), z 5 (by omega) (by omega), z 6 (by omega) (by omega)]
  · have z := hH (by omega) b
    unfold fsSh; rw [z.1, z.2]
  · rw [hN (by omega) b]
  · rw [hF (by omega)]
/-- what a write of a whole number changes -/
theorem cc_I {E : Ev} {M : Mem} {r i : Nat} {v : Int32} {q k : Nat} (hq : q < 45) (hk : k = (if r < 3 then (if i < 6 then 8 + r else 14 + 6 * r + (i - 6) / 7) else if r = 3 then (if i = 0 then 0 else if i = 1 then 32 else 34) else if r = 4 then 33 else if r < 7 then 36 + i else 44)) (hi : r < 3 → i < 48) (hr : r < 8) (hne : q ≠ k) : cellC E (sI M r i v) q = cellC E M q := by
  refine cell_congr (fun h => sI_o ?_) (fun h1 h2 x hx => sI_o ?_) (fun h1 h2 x hx => sI_o ?_) (fun h => sI_o ?_) (fun h => sI_r ?_) (fun h x h1 h2 => sI_o ?_) (fun h1 h2 => ⟨sI_o ?_, sI_o ?_⟩) (fun _ _ => rfl) (fun h => sI_r ?_) hq
  all_goals (subst hk; first | (split at hne <;> (try split at hne) <;> (try split at hne) <;> (try split at hne) <;> omega) | omega)
theorem cc_J {E : Ev} {M : Mem} {s i : Nat} {v : Int64} {q : Nat} (hq : q < 45) (hne : q ≠ 40 + s) : cellC E (sJ M s i v) q = cellC E M q :=
  cell_congr (fun _ => rfl) (fun _ _ _ _ => rfl) (fun _ _ _ _ => rfl) (fun _ => rfl) (fun _ => rfl) (fun _ _ _ _ => rfl) (fun _ _ => ⟨rfl, rfl⟩) (fun h1 h2 => sJ_r (by omega)) (fun _ => rfl) hq
/-- a whole row of numbers -/
def sJf (M : Mem) (s : Nat) (g : Nat → Int64) : Mem := (M.1, fun r => if r = s then g else M.2 r)
theorem cc_Jf {E : Ev} {M : Mem} {s : Nat} {g : Nat → Int64} {q : Nat} (hq : q < 45) (hne : q ≠ 40 + s) : cellC E (sJf M s g) q = cellC E M q :=
  cell_congr (fun _ => rfl) (fun _ _ _ _ => rfl) (fun _ _ _ _ => rfl) (fun _ => rfl) (fun _ => rfl) (fun _ _ _ _ => rfl) (fun _ _ => ⟨rfl, rfl⟩) (fun h1 h2 => if_neg (by omega)) (fun _ => rfl) hq

theorem cell_of {E : Ev} {M : Mem} {k a : Nat} {e : va_E} (hk : k < 45) (h : (Wc E M)[k]? = some (a, e)) : cellC E M k = e := by
  rw [wc_at E M hk] at h
  exact congrArg Prod.snd (Option.some.inj h)
theorem wcp_T4 (E : Ev) (M : Mem) (v : Int32) : (Wc E M).set 0 (ec E 0, .inr (11, (fsT E M).set 4 (.int v))) = Wc E (sI M 3 0 v) := wc_set (by decide) ((cell_of (by decide) (wc_T E _)).trans rfl) (fun q hq hne => cc_I hq rfl (by omega) (by omega) hne)
theorem wcp_S0 (E : Ev) (M : Mem) {j : Nat} (hj : j < 3) (v : Int32) : (Wc E M).set (8 + j) (ec E (8 + j), .inr (4, (fsS E M j).set 0 (.int v))) = Wc E (sI M j 0 v) := by
  refine wc_set (by omega) ((cell_of (by omega) (wc_S E _ hj)).trans ?_) (fun q hq hne => cc_I (k := 8 + j) hq (by rw [if_pos hj, if_pos (by decide)]) (by omega) (by omega) hne)
  unfold fsS
  rw [sI_s, sI_o (i2 := 1) (Or.inr (by decide)), sI_o (i2 := 2) (Or.inr (by decide)), sI_o (i2 := 3) (Or.inr (by decide)), sI_o (i2 := 4) (Or.inr (by decide)), sI_o (i2 := 5) (Or.inr (by decide))]
  rfl
theorem wcp_S1 (E : Ev) (M : Mem) {j : Nat} (hj : j < 3) (v : Int32) : (Wc E M).set (8 + j) (ec E (8 + j), .inr (4, (fsS E M j).set 1 (.int v))) = Wc E (sI M j 1 v) := by
  refine wc_set (by omega) ((cell_of (by omega) (wc_S E _ hj)).trans ?_) (fun q hq hne => cc_I (k := 8 + j) hq (by rw [if_pos hj, if_pos (by decide)]) (by omega) (by omega) hne)
  unfold fsS
  rw [sI_o (i2 := 0) (Or.inr (by decide)), sI_s, sI_o (i2 := 2) (Or.inr (by decide)), sI_o (i2 := 3) (Or.inr (by decide)), sI_o (i2 := 4) (Or.inr (by decide)), sI_o (i2 := 5) (Or.inr (by decide))]
  rfl
theorem wcp_S2 (E : Ev) (M : Mem) {j : Nat} (hj : j < 3) (v : Int32) : (Wc E M).set (8 + j) (ec E (8 + j), .inr (4, (fsS E M j).set 2 (.int v))) = Wc E (sI M j 2 v) := by
  refine wc_set (by omega) ((cell_of (by omega) (wc_S E _ hj)).trans ?_) (fun q hq hne => cc_I (k := 8 + j) hq (by rw [if_pos hj, if_pos (by decide)]) (by omega) (by omega) hne)
  unfold fsS
  rw [sI_o (i2 := 0) (Or.inr (by decide)), sI_o (i2 := 1) (Or.inr (by decide)), sI_s, sI_o (i2 := 3) (Or.inr (by decide)), sI_o (i2 := 4) (Or.inr (by decide)), sI_o (i2 := 5) (Or.inr (by decide))]
  rfl
theorem wcp_S3 (E : Ev) (M : Mem) {j : Nat} (hj : j < 3) (v : Int32) : (Wc E M).set (8 + j) (ec E (8 + j), .inr (4, (fsS E M j).set 3 (.int v))) = Wc E (sI M j 3 v) := by
  refine wc_set (by omega) ((cell_of (by omega) (wc_S E _ hj)).trans ?_) (fun q hq hne => cc_I (k := 8 + j) hq (by rw [if_pos hj, if_pos (by decide)]) (by omega) (by omega) hne)
  unfold fsS
  rw [sI_o (i2 := 0) (Or.inr (by decide)), sI_o (i2 := 1) (Or.inr (by decide)), sI_o (i2 := 2) (Or.inr (by decide)), sI_s, sI_o (i2 := 4) (Or.inr (by decide)), sI_o (i2 := 5) (Or.inr (by decide))]
  rfl
theorem wcp_S4 (E : Ev) (M : Mem) {j : Nat} (hj : j < 3) (v : Int32) : (Wc E M).set (8 + j) (ec E (8 + j), .inr (4, (fsS E M j).set 4 (.int v))) = Wc E (sI M j 4 v) := by
  refine wc_set (by omega) ((cell_of (by omega) (wc_S E _ hj)).trans ?_) (fun q hq hne => cc_I (k := 8 + j) hq (by rw [if_pos hj, if_pos (by decide)]) (by omega) (by omega) hne)
  unfold fsS
  rw [sI_o (i2 := 0) (Or.inr (by decide)), sI_o (i2 := 1) (Or.inr (by decide)), sI_o (i2 := 2) (Or.inr (by decide)), sI_o (i2 := 3) (Or.inr (by decide)), sI_s, sI_o (i2 := 5) (Or.inr (by decide))]
  rfl
theorem wcp_S6 (E : Ev) (M : Mem) {j : Nat} (hj : j < 3) (v : Int32) : (Wc E M).set (8 + j) (ec E (8 + j), .inr (4, (fsS E M j).set 6 (.int v))) = Wc E (sI M j 5 v) := by
  refine wc_set (by omega) ((cell_of (by omega) (wc_S E _ hj)).trans ?_) (fun q hq hne => cc_I (k := 8 + j) hq (by rw [if_pos hj, if_pos (by decide)]) (by omega) (by omega) hne)
  unfold fsS
  rw [sI_o (i2 := 0) (Or.inr (by decide)), sI_o (i2 := 1) (Or.inr (by decide)), sI_o (i2 := 2) (Or.inr (by decide)), sI_o (i2 := 3) (Or.inr (by decide)), sI_o (i2 := 4) (Or.inr (by decide)), sI_s]
  rfl
theorem wcp_V0 (E : Ev) (M : Mem) {j i : Nat} (hj : j < 3) (hi : i < 6) (v : Int32) : (Wc E M).set (14 + 6 * j + i) (ec E (14 + 6 * j + i), .inr (10, (fsV E M j i).set 0 (.ref (ec E (2 + v.toNatClampNeg))))) = Wc E (sI M j (6 + 7 * i + 0) v) := by
  refine wc_set (by omega) ((cell_of (by omega) (wc_V E _ hj hi)).trans ?_) (fun q hq hne => cc_I (k := 14 + 6 * j + i) hq (by rw [if_pos hj, if_neg (by omega)]; omega) (by omega) (by omega) hne)
  unfold fsV
  rw [sI_s, sI_o (i2 := 6 + 7 * i + 1) (Or.inr (by omega)), sI_o (i2 := 6 + 7 * i + 2) (Or.inr (by omega)), sI_o (i2 := 6 + 7 * i + 3) (Or.inr (by omega)), sI_o (i2 := 6 + 7 * i + 4) (Or.inr (by omega)), sI_o (i2 := 6 + 7 * i + 5) (Or.inr (by omega)), sI_o (i2 := 6 + 7 * i + 6) (Or.inr (by omega))]
  rfl
theorem wcp_V1 (E : Ev) (M : Mem) {j i : Nat} (hj : j < 3) (hi : i < 6) (v : Int32) : (Wc E M).set (14 + 6 * j + i) (ec E (14 + 6 * j + i), .inr (10, (fsV E M j i).set 1 (.int v))) = Wc E (sI M j (6 + 7 * i + 1) v) := by
  refine wc_set (by omega) ((cell_of (by omega) (wc_V E _ hj hi)).trans ?_) (fun q hq hne => cc_I (k := 14 + 6 * j + i) hq (by rw [if_pos hj, if_neg (by omega)]; omega) (by omega) (by omega) hne)
  unfold fsV
  rw [sI_o (i2 := 6 + 7 * i + 0) (Or.inr (by omega)), sI_s, sI_o (i2 := 6 + 7 * i + 2) (Or.inr (by omega)), sI_o (i2 := 6 + 7 * i + 3) (Or.inr (by omega)), sI_o (i2 := 6 + 7 * i + 4) (Or.inr (by omega)), sI_o (i2 := 6 + 7 * i + 5) (Or.inr (by omega)), sI_o (i2 := 6 + 7 * i + 6) (Or.inr (by omega))]
  rfl
theorem wcp_V2 (E : Ev) (M : Mem) {j i : Nat} (hj : j < 3) (hi : i < 6) (v : Int32) : (Wc E M).set (14 + 6 * j + i) (ec E (14 + 6 * j + i), .inr (10, (fsV E M j i).set 2 (.int v))) = Wc E (sI M j (6 + 7 * i + 2) v) := by
  refine wc_set (by omega) ((cell_of (by omega) (wc_V E _ hj hi)).trans ?_) (fun q hq hne => cc_I (k := 14 + 6 * j + i) hq (by rw [if_pos hj, if_neg (by omega)]; omega) (by omega) (by omega) hne)
  unfold fsV
  rw [sI_o (i2 := 6 + 7 * i + 0) (Or.inr (by omega)), sI_o (i2 := 6 + 7 * i + 1) (Or.inr (by omega)), sI_s, sI_o (i2 := 6 + 7 * i + 3) (Or.inr (by omega)), sI_o (i2 := 6 + 7 * i + 4) (Or.inr (by omega)), sI_o (i2 := 6 + 7 * i + 5) (Or.inr (by omega)), sI_o (i2 := 6 + 7 * i + 6) (Or.inr (by omega))]
  rfl
theorem wcp_V3 (E : Ev) (M : Mem) {j i : Nat} (hj : j < 3) (hi : i < 6) (v : Int32) : (Wc E M).set (14 + 6 * j + i) (ec E (14 + 6 * j + i), .inr (10, (fsV E M j i).set 3 (.int v))) = Wc E (sI M j (6 + 7 * i + 3) v) := by
  refine wc_set (by omega) ((cell_of (by omega) (wc_V E _ hj hi)).trans ?_) (fun q hq hne => cc_I (k := 14 + 6 * j + i) hq (by rw [if_pos hj, if_neg (by omega)]; omega) (by omega) (by omega) hne)
  unfold fsV
  rw [sI_o (i2 := 6 + 7 * i + 0) (Or.inr (by omega)), sI_o (i2 := 6 + 7 * i + 1) (Or.inr (by omega)), sI_o (i2 := 6 + 7 * i + 2) (Or.inr (by omega)), sI_s, sI_o (i2 := 6 + 7 * i + 4) (Or.inr (by omega)), sI_o (i2 := 6 + 7 * i + 5) (Or.inr (by omega)), sI_o (i2 := 6 + 7 * i + 6) (Or.inr (by omega))]
  rfl
theorem wcp_V4 (E : Ev) (M : Mem) {j i : Nat} (hj : j < 3) (hi : i < 6) (v : Int32) : (Wc E M).set (14 + 6 * j + i) (ec E (14 + 6 * j + i), .inr (10, (fsV E M j i).set 4 (.int v))) = Wc E (sI M j (6 + 7 * i + 4) v) := by
  refine wc_set (by omega) ((cell_of (by omega) (wc_V E _ hj hi)).trans ?_) (fun q hq hne => cc_I (k := 14 + 6 * j + i) hq (by rw [if_pos hj, if_neg (by omega)]; omega) (by omega) (by omega) hne)
  unfold fsV
  rw [sI_o (i2 := 6 + 7 * i + 0) (Or.inr (by omega)), sI_o (i2 := 6 + 7 * i + 1) (Or.inr (by omega)), sI_o (i2 := 6 + 7 * i + 2) (Or.inr (by omega)), sI_o (i2 := 6 + 7 * i + 3) (Or.inr (by omega)), sI_s, sI_o (i2 := 6 + 7 * i + 5) (Or.inr (by omega)), sI_o (i2 := 6 + 7 * i + 6) (Or.inr (by omega))]
  rfl
theorem wcp_V5 (E : Ev) (M : Mem) {j i : Nat} (hj : j < 3) (hi : i < 6) (v : Int32) : (Wc E M).set (14 + 6 * j + i) (ec E (14 + 6 * j + i), .inr (10, (fsV E M j i).set 5 (.int v))) = Wc E (sI M j (6 + 7 * i + 5) v) := by
  refine wc_set (by omega) ((cell_of (by omega) (wc_V E _ hj hi)).trans ?_) (fun q hq hne => cc_I (k := 14 + 6 * j + i) hq (by rw [if_pos hj, if_neg (by omega)]; omega) (by omega) (by omega) hne)
  unfold fsV
  rw [sI_o (i2 := 6 + 7 * i + 0) (Or.inr (by omega)), sI_o (i2 := 6 + 7 * i + 1) (Or.inr (by omega)), sI_o (i2 := 6 + 7 * i + 2) (Or.inr (by omega)), sI_o (i2 := 6 + 7 * i + 3) (Or.inr (by omega)), sI_o (i2 := 6 + 7 * i + 4) (Or.inr (by omega)), sI_s, sI_o (i2 := 6 + 7 * i + 6) (Or.inr (by omega))]
  rfl
theorem wcp_V6 (E : Ev) (M : Mem) {j i : Nat} (hj : j < 3) (hi : i < 6) (v : Int32) : (Wc E M).set (14 + 6 * j + i) (ec E (14 + 6 * j + i), .inr (10, (fsV E M j i).set 6 (.int v))) = Wc E (sI M j (6 + 7 * i + 6) v) := by
  refine wc_set (by omega) ((cell_of (by omega) (wc_V E _ hj hi)).trans ?_) (fun q hq hne => cc_I (k := 14 + 6 * j + i) hq (by rw [if_pos hj, if_neg (by omega)]; omega) (by omega) (by omega) hne)
  unfold fsV
  rw [sI_o (i2 := 6 + 7 * i + 0) (Or.inr (by omega)), sI_o (i2 := 6 + 7 * i + 1) (Or.inr (by omega)), sI_o (i2 := 6 + 7 * i + 2) (Or.inr (by omega)), sI_o (i2 := 6 + 7 * i + 3) (Or.inr (by omega)), sI_o (i2 := 6 + 7 * i + 4) (Or.inr (by omega)), sI_o (i2 := 6 + 7 * i + 5) (Or.inr (by omega)), sI_s]
  rfl
theorem wcp_Tp1 (E : Ev) (M : Mem) (v : Int32) : (Wc E M).set 32 (ec E 32, .inr (9, (fsTp E M).set 1 (.int v))) = Wc E (sI M 3 1 v) := wc_set (by decide) ((cell_of (by decide) (wc_Tp E _)).trans rfl) (fun q hq hne => cc_I hq rfl (by omega) (by omega) hne)
theorem wcp_Tx2 (E : Ev) (M : Mem) (v : Int32) : (Wc E M).set 34 (ec E 34, .inr (5, (fsTx E M).set 2 (.int v))) = Wc E (sI M 3 2 v) := wc_set (by decide) ((cell_of (by decide) (wc_Tx E _)).trans rfl) (fun q hq hne => cc_I hq rfl (by omega) (by omega) hne)
theorem wcp_Tx3 (E : Ev) (M : Mem) (v : Int32) : (Wc E M).set 34 (ec E 34, .inr (5, (fsTx E M).set 3 (.int v))) = Wc E (sI M 3 3 v) := wc_set (by decide) ((cell_of (by decide) (wc_Tx E _)).trans rfl) (fun q hq hne => cc_I hq rfl (by omega) (by omega) hne)
theorem wcp_Tx4 (E : Ev) (M : Mem) (v : Int32) : (Wc E M).set 34 (ec E 34, .inr (5, (fsTx E M).set 4 (.int v))) = Wc E (sI M 3 4 v) := wc_set (by decide) ((cell_of (by decide) (wc_Tx E _)).trans rfl) (fun q hq hne => cc_I hq rfl (by omega) (by omega) hne)
theorem wcp_Tx5 (E : Ev) (M : Mem) (v : Int32) : (Wc E M).set 34 (ec E 34, .inr (5, (fsTx E M).set 5 (.int v))) = Wc E (sI M 3 5 v) := wc_set (by decide) ((cell_of (by decide) (wc_Tx E _)).trans rfl) (fun q hq hne => cc_I hq rfl (by omega) (by omega) hne)
theorem wcp_Tx6 (E : Ev) (M : Mem) (v : Int32) : (Wc E M).set 34 (ec E 34, .inr (5, (fsTx E M).set 6 (.int v))) = Wc E (sI M 3 6 v) := wc_set (by decide) ((cell_of (by decide) (wc_Tx E _)).trans rfl) (fun q hq hne => cc_I hq rfl (by omega) (by omega) hne)
theorem wca_By (E : Ev) (M : Mem) (i : Nat) (v : Int32) : (Wc E M).set 33 (ec E 33, .inl (eA E 2, 120, .inl (upd (M.1 4) i v))) = Wc E (sI M 4 i v) := wc_set (by decide) ((cell_of (by decide) (wc_By E _)).trans rfl) (fun q hq hne => cc_I hq rfl (by omega) (by omega) hne)
theorem wca_F (E : Ev) (M : Mem) (i : Nat) (v : Int32) : (Wc E M).set 44 (ec E 44, .inl (eA E 0, 7, .inl (upd (M.1 7) i v))) = Wc E (sI M 7 i v) := wc_set (by decide) ((cell_of (by decide) (wc_F E _)).trans rfl) (fun q hq hne => cc_I hq rfl (by omega) (by omega) hne)
theorem wcp_Sh0 (E : Ev) (M : Mem) {s : Nat} (hs : s < 4) (v : Int32) : (Wc E M).set (36 + s) (ec E (36 + s), .inr (6, (fsSh E M s).set 0 (.int v))) = Wc E (sI M 5 s v) := by
  refine wc_set (by omega) ((cell_of (by omega) (wc_Sh E _ hs)).trans ?_) (fun q hq hne => cc_I (k := 36 + s) hq rfl (by omega) (by omega) hne)
  unfold fsSh
  rw [sI_s, sI_o (r2 := 6) (Or.inl (by decide))]
  rfl
theorem wcp_Sh1 (E : Ev) (M : Mem) {s : Nat} (hs : s < 4) (v : Int32) : (Wc E M).set (36 + s) (ec E (36 + s), .inr (6, (fsSh E M s).set 1 (.int v))) = Wc E (sI M 6 s v) := by
  refine wc_set (by omega) ((cell_of (by omega) (wc_Sh E _ hs)).trans ?_) (fun q hq hne => cc_I (k := 36 + s) hq rfl (by omega) (by omega) hne)
  unfold fsSh
  rw [sI_o (r2 := 5) (Or.inl (by decide)), sI_s]
  rfl
theorem wcl_Nu (E : Ev) (M : Mem) {s : Nat} (hs : s < 4) (i : Nat) (v : Int64) : (Wc E M).set (40 + s) (ec E (40 + s), .inl (eA E 1, 40, .inr (.inl (vp_updL (M.2 s) i v)))) = Wc E (sJ M s i v) := by
  refine wc_set (by omega) ((cell_of (by omega) (wc_Nu E _ hs)).trans ?_) (fun q hq hne => cc_J hq hne)
  rw [sJ_u]
theorem wcf_Nu (E : Ev) (M : Mem) {s : Nat} (hs : s < 4) (g : Nat → Int64) : (Wc E M).set (40 + s) (ec E (40 + s), .inl (eA E 1, 40, .inr (.inl g))) = Wc E (sJf M s g) := by
  refine wc_set (by omega) ((cell_of (by omega) (wc_Nu E _ hs)).trans ?_) (fun q hq hne => cc_Jf hq hne)
  show (Sum.inl (eA E 1, 40, .inr (.inl (if s = s then g else M.2 s))) : va_E) = _
  rw [if_pos rfl]
