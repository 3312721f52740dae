/-! ===== PURE 21: numbers in the text ===== -/
def Fr (C C2 : Mem) : Prop := (∀ r, r ≠ 2 → r ≠ 3 → C2.1 r = C.1 r) ∧ C2.1 3 0 = C.1 3 0 ∧ C2.1 3 1 = C.1 3 1 ∧ C2.2 = C.2
def Gr (D D2 : Mem) : Prop := (∀ r, r ≠ 0 → r ≠ 9 → D2.1 r = D.1 r) ∧ D2.1 9 5 = D.1 9 5 ∧ D2.1 9 18 = D.1 9 18 ∧ D2.2 0 = D.2 0
theorem Fr.tok {A C C2 : Mem} (h : Fr A C) (t : FrT C C2) : Fr A C2 :=
  ⟨fun r a b => (t.1 r b).trans (h.1 r a b), t.2.1.trans h.2.1, t.2.2.1.trans h.2.2.1, t.2.2.2.2.trans h.2.2.2⟩
theorem Gr.tok {A D D2 : Mem} (h : Gr A D) (t : GrT D D2) : Gr A D2 :=
  ⟨fun r a b => (t.1 r b).trans (h.1 r a b), t.2.1.trans h.2.1, t.2.2.2.1.trans h.2.2.1, t.2.2.2.2.trans h.2.2.2⟩
theorem Tp.tok {C D C2 D2 : Mem} {n : Nat} (h : Tp C D n) (t : FrT C C2) (u : GrT D D2) : Tp C2 D2 n :=
  ⟨h.1, t.2.2.1.trans h.2.1, u.2.1.trans h.2.2.1, fun k hk => by rw [t.1 4 (by decide), u.1 4 (by decide)]; exact h.2.2.2 k hk⟩
/-- in the middle of a text -/
def Ps (A Z C D : Mem) (n lo : Nat) : Prop := Tp C D n ∧ Tok C D n lo ∧ D.1 9 11 = 1 ∧ Fr A C ∧ Gr Z D
/-- a text that went wrong -/
def Bad (A Z C D : Mem) : Prop := Fr A C ∧ Gr Z D ∧ D.1 9 11 = 0 ∧ C.1 3 3 = D.1 9 7 ∧ ∃ st : Nat, st ≤ 120 ∧ D.1 9 7 = nI st
theorem Tok.low {C D : Mem} {n lo lo2 : Nat} (h : Tok C D n lo) (hl : lo2 ≤ lo) : Tok C D n lo2 := by
  obtain ⟨st, e, a, b⟩ := h
  exact ⟨st, e, by omega, b⟩
theorem Tok.end {C D : Mem} {n lo : Nat} (h : Tok C D n lo) : ∃ e : Nat, lo ≤ e ∧ e ≤ n ∧ C.1 3 4 = nI e ∧ D.1 9 8 = nI e ∧ (¬ C.1 3 2 = 0 → lo < e) := by
  obtain ⟨st, e, a1, a2, a3, a4, a5, a6, a7, a8⟩ := h
  refine ⟨e, by omega, a3, a6, a7, fun z => ?_⟩
  rcases a8 with ⟨b, -⟩ | ⟨-, -, b, -⟩ | ⟨-, -, b, -⟩ | ⟨-, -, b, -⟩ | ⟨-, -, b, -⟩
  · exact absurd b z
  all_goals omega
/-- it fails here -/
theorem Ps.bad {A Z C D : Mem} {n lo : Nat} (h : Ps A Z C D n lo) : Bad A Z C (sI D 9 11 (0 : Int32)) := by
  obtain ⟨h1, ⟨st, e, a1, a2, a3, a4, a5, -⟩, h4, h5, h6⟩ := h
  refine ⟨h5, ⟨fun r a b => (show (sI D 9 11 (0 : Int32)).1 r = D.1 r from if_neg b).trans (h6.1 r a b), h6.2.1, h6.2.2.1, h6.2.2.2⟩, upd_s (D.1 9) 11 0, ?_, st, by have := h1.1; omega, a5⟩
  show C.1 3 3 = D.1 9 7
  rw [a4, a5]
/-- the next token, whatever was put into `taken` and `good` before -/
theorem Ps.next {A Z C D : Mem} {n lo N : Nat} (hN : 300 ≤ N) (h : Ps A Z C D n lo) (v : Int32) : ∃ C2 D2, mX5_next N (sI C 3 6 v) = some C2 ∧ mX12_advance N (sI D 9 11 (1 : Int32)) = some D2 ∧ C2.1 3 6 = v ∧ C2.1 2 = C.1 2 ∧ D2.1 0 = D.1 0 ∧ ∃ lo2, lo ≤ lo2 ∧ (¬ C.1 3 2 = 0 → lo < lo2) ∧ Ps A Z C2 D2 n lo2 := by
  obtain ⟨h1, h2, h4, h5, h6⟩ := h
  obtain ⟨e, e1, e2, e3, e4, e5⟩ := h2.end
  have hT : Tp (sI C 3 6 v) (sI D 9 11 (1 : Int32)) n := ⟨h1.1, h1.2.1, h1.2.2.1, h1.2.2.2⟩
  obtain ⟨C2, D2, k1, k2, k3, k4, k5⟩ := tok_next hN hT e2 (show (sI C 3 6 v).1 3 4 = nI e from e3) (show (sI D 9 11 (1 : Int32)).1 9 8 = nI e from e4)
  have f1 : Fr A (sI C 3 6 v) := ⟨fun r a b => (show (sI C 3 6 v).1 r = C.1 r from if_neg b).trans (h5.1 r a b), h5.2.1, h5.2.2.1, h5.2.2.2⟩
  have f2 : Gr Z (sI D 9 11 (1 : Int32)) := ⟨fun r a b => (show (sI D 9 11 (1 : Int32)).1 r = D.1 r from if_neg b).trans (h6.1 r a b), h6.2.1, h6.2.2.1, h6.2.2.2⟩
  have g2 : C2.1 2 = C.1 2 := k3.1 2 (by decide)
  have g0 : D2.1 0 = D.1 0 := k4.1 0 (by decide)
  refine ⟨C2, D2, k1, k2, k3.2.2.2.1.trans (upd_s (C.1 3) 6 v), g2, g0, e, e1, e5, hT.tok k3 k4, k5, k4.2.2.1.trans (upd_s (D.1 9) 11 1), f1.tok k3, f2.tok k4⟩
/-- the same, nothing put before -/
theorem Ps.next0 {A Z C D : Mem} {n lo N : Nat} (hN : 300 ≤ N) (h : Ps A Z C D n lo) : ∃ C2 D2, mX5_next N C = some C2 ∧ mX12_advance N D = some D2 ∧ C2.1 3 6 = C.1 3 6 ∧ C2.1 2 = C.1 2 ∧ D2.1 0 = D.1 0 ∧ ∃ lo2, lo ≤ lo2 ∧ (¬ C.1 3 2 = 0 → lo < lo2) ∧ Ps A Z C2 D2 n lo2 := by
  have z := Ps.next hN h (C.1 3 6)
  rw [sI_id rfl, sI_id h.2.2.1] at z
  exact z
theorem num2 {A Z C D : Mem} {n lo N M : Nat} (hN : 300 ≤ N) (hM : M ≤ 19) (h : Ps A Z C D n lo) : (∃ (v : Nat) (C2 D2 : Mem) (lo2 : Nat), v ≤ M ∧ mX5_takeNumber N C (nI M) = some (1, C2) ∧ mX12_wantNumber N D 0 (nI M) = some (nI v, D2) ∧ C2.1 3 6 = nI v ∧ C2.1 2 = C.1 2 ∧ D2.1 0 = D.1 0 ∧ lo < lo2 ∧ Ps A Z C2 D2 n lo2) ∨ (∃ x : Int32, mX5_takeNumber N C (nI M) = some (0, C) ∧ mX12_wantNumber N D 0 (nI M) = some (x, sI D 9 11 (0 : Int32))) := by
  have hp := h
  obtain ⟨h1, ⟨st, e, a1, a2, a3, a4, a5, a6, a7, a8⟩, h4, h5, h6⟩ := h
  have hM1 : nI M ≤ 19 := nI_le (b := 19) hM (by decide)
  have bad : mX12_wantNumber_b34 N D (D.1 9 10) = some (D.1 9 10, sI D 9 11 (0 : Int32)) := by
    unfold mX12_wantNumber_b34 mX12_wantNumber_b35
    rw [if_pos (show b01 (0 : Int32) from Or.inl rfl), show (sI D 9 11 (0 : Int32)).1 9 11 = 0 from upd_s (D.1 9) 11 0, if_pos rfl]
  have no : ¬ C.1 3 2 = 2 → ¬ D.1 9 6 = 2 → mX5_takeNumber N C (nI M) = some (0, C) ∧ mX12_wantNumber N D 0 (nI M) = some (D.1 9 10, sI D 9 11 (0 : Int32)) := by
    intro n1 n2
    unfold mX5_takeNumber mX12_wantNumber
    rw [if_neg n1, if_neg n2, if_neg (show ¬ D.1 9 11 = 0 by rw [h4]; decide), bad]
    exact ⟨rfl, rfl⟩
  rcases a8 with ⟨b1, b2⟩ | ⟨b1, b2, -⟩ | ⟨b1, b2, b3, b4⟩ | ⟨b1, b2, -⟩ | ⟨b1, b2, -⟩
  · exact Or.inr ⟨_, no (by rw [b1]; decide) (by rw [b2]; decide)⟩
  · exact Or.inr ⟨_, no (by rw [b1]; decide) (by rw [b2]; decide)⟩
  · unfold mX5_takeNumber mX12_wantNumber
    rw [if_pos b1, if_pos b2, if_neg (show ¬ D.1 9 11 = 0 by rw [h4]; decide), m_in, Option.bind_some, bad]
    by_cases c : C.1 3 5 ≤ nI M
    · have cd : C.1 3 5 = D.1 9 10 ∧ 0 ≤ C.1 3 5 := by
        rcases b4 with ⟨q1, q2, q3⟩ | ⟨q1, q2, q3⟩
        · exact ⟨q1, q2⟩
        · exfalso; generalize nI M = y at *; rw [q1] at c; grind
      have ci : ¬ inS (D.1 9 10) 0 (nI M) = 0 := by
        rw [← cd.1]
        have := cd.2
        generalize C.1 3 5 = x at *
        generalize nI M = y at *
        unfold inS
        grind
      rw [if_pos c, if_neg ci]
      obtain ⟨v, hv, ev⟩ : ∃ v : Nat, v ≤ M ∧ C.1 3 5 = nI v := by
        rcases pk_ix (C.1 3 5) (n := M + 1) (by omega) with q | q | ⟨j, q1, q2⟩
        · exfalso; have := cd.2; generalize C.1 3 5 = x at *; grind
        · exfalso; exact nI_ge (a := M) (b := M + 1) (by omega) (by omega) (by generalize C.1 3 5 = x at *; generalize nI M = y at *; generalize nI (M + 1) = z at *; grind)
        · exact ⟨j, by omega, q2⟩
      obtain ⟨C2, D2, k1, k2, k3, k4, k5, lo2, k6, k7, k8⟩ := Ps.next hN hp (C.1 3 5)
      unfold mX12_wantNumber_b35
      rw [k1, if_pos (show b01 (1 : Int32) from Or.inr rfl), show (sI D 9 11 (1 : Int32)).1 9 11 = 1 from upd_s (D.1 9) 11 1, if_neg (by decide), k2, ← cd.1, ev]
      exact Or.inl ⟨v, C2, D2, lo2, hv, rfl, rfl, by rw [k3, ev], k4, k5, k7 (by rw [b1]; decide), k8⟩
    · have ci : inS (D.1 9 10) 0 (nI M) = 0 := by
        rcases b4 with ⟨q1, q2, q3⟩ | ⟨q1, q2, q3⟩
        · rw [← q1]
          generalize C.1 3 5 = x at *
          generalize nI M = y at *
          unfold inS
          grind
        · generalize D.1 9 10 = x at *
          generalize nI M = y at *
          unfold inS
          grind
      rw [if_neg c, if_pos ci]
      exact Or.inr ⟨_, rfl, rfl⟩
  · exact Or.inr ⟨_, no (by rw [b1]; decide) (by rw [b2]; decide)⟩
  · exact Or.inr ⟨_, no (by rw [b1]; decide) (by rw [b2]; decide)⟩
