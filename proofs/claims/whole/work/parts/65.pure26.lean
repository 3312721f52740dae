/-! ===== PURE 26: a whole text ===== -/
def GrE (Z D : Mem) : Prop := (∀ r, r ≠ 0 → r ≠ 9 → D.1 r = Z.1 r) ∧ D.1 9 18 = Z.1 9 18 ∧ D.2 0 = Z.2 0 ∧ D.1 9 5 = 0
def Res (A Z : Mem) (rc rm : Option (Int32 × Mem)) : Prop := (∃ (C2 D2 : Mem) (i : Nat), i ≤ 120 ∧ rc = some (nI i, C2) ∧ rm = some (nI i, D2) ∧ Sea2 (C2.1 2) (D2.1 0) ∧ Fr A C2 ∧ GrE Z D2) ∨ (∃ (C2 D2 : Mem) (st : Nat), st ≤ 120 ∧ rc = some ((-1 : Int32) - nI st, C2) ∧ rm = some ((-1 : Int32) - nI st, D2) ∧ Fr A C2 ∧ GrE Z D2 ∧ ∀ i, i < 48 → D2.1 0 i = Z.1 8 i)
section TEXT
variable {A Z : Mem} {n N : Nat}
theorem fin0 (hN : 300 ≤ N) {D : Mem} {st : Nat} (g : Gr Z D) (e : D.1 9 7 = nI st) (a : Int32) : ∃ D2, mX12_sea_b90 N D a = some ((-1 : Int32) - nI st, D2) ∧ GrE Z D2 ∧ ∀ i, i < 48 → D2.1 0 i = Z.1 8 i := by
  unfold mX12_sea_b90 mX12_sea_b91
  rw [if_pos (show b01 (0 : Int32) from Or.inl rfl), if_pos (show (sI (sI D 9 11 (0 : Int32)) 9 5 (0 : Int32)).1 9 11 = 0 from rfl), m_move0 (rg := 8) (by decide) hN, Option.bind_some]
  refine ⟨sR (sI (sI D 9 11 (0 : Int32)) 9 5 (0 : Int32)) 0 (mvq 48 ((sI (sI D 9 11 (0 : Int32)) 9 5 (0 : Int32)).1 0) ((sI (sI D 9 11 (0 : Int32)) 9 5 (0 : Int32)).1 8)), ?_, ⟨fun r a b => ?_, g.2.2.1, g.2.2.2, rfl⟩, fun i hi => ?_⟩
  · show some ((-1 : Int32) - D.1 9 7, _) = _
    rw [e]
  · rw [sR_o a]
    have e1 : (sI (sI D 9 11 (0 : Int32)) 9 5 (0 : Int32)).1 r = (sI D 9 11 (0 : Int32)).1 r := if_neg b
    have e2 : (sI D 9 11 (0 : Int32)).1 r = D.1 r := if_neg b
    rw [e1, e2]
    exact g.1 r a b
  · rw [sR_s, mvq_in hi]
    show D.1 8 i = _
    rw [g.1 8 (by decide) (by decide)]
theorem b23_0 {D : Mem} {n2 : Nat} {a : Int32} (h : D.1 9 11 = 0 ∨ ¬ D.1 9 6 = 0) : mX12_sea_b23 N (n2 + 1) D a (0 : Int32) = mX12_sea_b90 N D a := by
  rw [mX12_sea_b23, if_pos rfl]
  by_cases c : D.1 9 11 = 0
  · rw [if_pos c]
  · rw [if_neg c, if_neg (h.resolve_left c)]
theorem text_b (hN : 300 ≤ N) : ∀ (p n1 n2 i e : Nat) (C D : Mem), n ≤ p + e → p < n1 → p + 1 < n2 → 2 * i ≤ e → Tp C D n → e ≤ n → C.1 3 4 = nI e → D.1 9 8 = nI e → Sea2 (C.1 2) (D.1 0) → D.1 9 11 = 1 → Fr A C → Gr Z D →
    Res A Z (mX5_tell_b7 N n1 C 2 (nI (i + 1))) (mX12_sea_b23 N n2 D (nI i) (1 : Int32)) := by
  intro p
  induction p with
  | zero =>
    intro n1 n2 i e C D hp h1 h2 hi hT he c4 d8 hs hg hf hgr
    obtain ⟨n1, rfl⟩ : ∃ z, n1 = z + 1 := ⟨n1 - 1, by omega⟩
    obtain ⟨n2, rfl⟩ : ∃ z, n2 = z + 2 := ⟨n2 - 2, by omega⟩
    have hn := hT.1
    obtain ⟨C1, D1, k1, k2, k3, k4, k5⟩ := tok_next hN hT he c4 d8
    have hs1 : Sea2 (C1.1 2) (D1.1 0) := by rw [k3.1 2 (by decide), k4.1 0 (by decide)]; exact hs
    have ps : Ps A Z C1 D1 n e := ⟨hT.tok k3 k4, k5, k4.2.2.1.trans hg, hf.tok k3, hgr.tok k4⟩
    rw [mX5_tell_b7, mX12_sea_b23, if_neg (show ¬ (120 : Int32) < nI (i + 1) from nI_nlt (a := 120) (by omega) (by decide)), if_neg (show ¬ (1 : Int32) = 0 by decide), k1, k2, Option.bind_some, Option.bind_some]
    rcases it_item hN ps hs1 with ⟨C2, D2, lo2, g1, g2, g3, g4, g5⟩ | ⟨C2, D2, g1, g2, g3⟩
    · exfalso
      obtain ⟨e2, q1, q2, -⟩ := g5.2.1.end
      omega
    · obtain ⟨f1, f2, f3, f4, st, f5, f6⟩ := g3
      rw [g1, g2, Option.bind_some, Option.bind_some, if_pos rfl, if_pos f3, b23_0 (Or.inl f3)]
      obtain ⟨D3, z1, z2, z3⟩ := fin0 hN f2 f6 (nI i + (1 : Int32))
      exact Or.inr ⟨C2, D3, st, f5, by rw [f4, f6], z1, f1, z2, z3⟩
  | succ p ih =>
    intro n1 n2 i e C D hp h1 h2 hi hT he c4 d8 hs hg hf hgr
    obtain ⟨n1, rfl⟩ : ∃ z, n1 = z + 1 := ⟨n1 - 1, by omega⟩
    obtain ⟨n2, rfl⟩ : ∃ z, n2 = z + 2 := ⟨n2 - 2, by omega⟩
    have hn := hT.1
    obtain ⟨C1, D1, k1, k2, k3, k4, k5⟩ := tok_next hN hT he c4 d8
    have hs1 : Sea2 (C1.1 2) (D1.1 0) := by rw [k3.1 2 (by decide), k4.1 0 (by decide)]; exact hs
    have ps : Ps A Z C1 D1 n e := ⟨hT.tok k3 k4, k5, k4.2.2.1.trans hg, hf.tok k3, hgr.tok k4⟩
    rw [mX5_tell_b7, mX12_sea_b23, if_neg (show ¬ (120 : Int32) < nI (i + 1) from nI_nlt (a := 120) (by omega) (by decide)), if_neg (show ¬ (1 : Int32) = 0 by decide), k1, k2, Option.bind_some, Option.bind_some]
    rcases it_item hN ps hs1 with ⟨C2, D2, lo2, g1, g2, g3, g4, g5⟩ | ⟨C2, D2, g1, g2, g3⟩
    · obtain ⟨e2, q1, q2, q3, q4, q5⟩ := g5.2.1.end
      obtain ⟨p1, ⟨st, e3, a1, a2, a3, a4, a5, a6, a7, a8⟩, p3, p4, p5⟩ := g5
      rw [g1, g2, Option.bind_some, Option.bind_some, if_neg (show ¬ (1 : Int32) = 0 by decide), if_neg (show ¬ D2.1 9 11 = 0 by rw [p3]; decide), nI_1, nI_1]
      have bad : ¬ D2.1 9 6 = 0 → Res A Z (some ((-1 : Int32) - C2.1 3 3, C2)) (mX12_sea_b23 N (n2 + 1) D2 (nI (i + 1)) (0 : Int32)) := by
        intro z
        rw [b23_0 (Or.inr z)]
        obtain ⟨D3, z1, z2, z3⟩ := fin0 hN p5 a5 (nI (i + 1))
        exact Or.inr ⟨C2, D3, st, by omega, by rw [a4], z1, p4, z2, z3⟩
      rcases a8 with ⟨b1, b2⟩ | ⟨b1, b2, -⟩ | ⟨b1, b2, -⟩ | ⟨b1, b2, b3, b4⟩ | ⟨b1, b2, b3, b4⟩
      · rw [if_pos b1, if_neg (show ¬ D2.1 9 6 = (3 : Int32) by rw [b2]; decide), mX12_sea_b23, if_pos rfl, if_neg (show ¬ D2.1 9 11 = 0 by rw [p3]; decide), if_pos b2]
        unfold mX12_sea_b91
        rw [if_pos (show b01 (1 : Int32) from Or.inr rfl), if_neg (show ¬ (sI (sI D2 9 11 (1 : Int32)) 9 5 (0 : Int32)).1 9 11 = 0 from (by decide : ¬ (1 : Int32) = 0))]
        refine Or.inl ⟨C2, _, i + 1, by omega, rfl, rfl, g4, p4, ⟨fun r a b => ?_, p5.2.2.1, p5.2.2.2, rfl⟩⟩
        have e1 : (sI (sI D2 9 11 (1 : Int32)) 9 5 (0 : Int32)).1 r = (sI D2 9 11 (1 : Int32)).1 r := if_neg b
        have e2 : (sI D2 9 11 (1 : Int32)).1 r = D2.1 r := if_neg b
        rw [e1, e2]
        exact p5.1 r a b
      · rw [if_neg (show ¬ C2.1 3 2 = 0 by rw [b1]; decide), if_neg (show ¬ C2.1 3 2 = (3 : Int32) by rw [b1]; decide), if_neg (show ¬ D2.1 9 6 = (3 : Int32) by rw [b2]; decide)]
        exact bad (by rw [b2]; decide)
      · rw [if_neg (show ¬ C2.1 3 2 = 0 by rw [b1]; decide), if_neg (show ¬ C2.1 3 2 = (3 : Int32) by rw [b1]; decide), if_neg (show ¬ D2.1 9 6 = (3 : Int32) by rw [b2]; decide)]
        exact bad (by rw [b2]; decide)
      · have q6 := q5 (by rw [b1]; decide)
        rw [if_neg (show ¬ C2.1 3 2 = 0 by rw [b1]; decide), if_pos b1, if_pos b2, if_pos b4]
        exact ih n1 (n2 + 1) (i + 1) e2 C2 D2 (by omega) (by omega) (by omega) (by omega) p1 q2 q3 q4 g4 p3 p4 p5
      · rw [if_neg (show ¬ C2.1 3 2 = 0 by rw [b1]; decide), if_neg (show ¬ C2.1 3 2 = (3 : Int32) by rw [b1]; decide), if_pos b2, if_neg b4]
        exact bad (by rw [b2]; decide)
    · obtain ⟨f1, f2, f3, f4, st, f5, f6⟩ := g3
      rw [g1, g2, Option.bind_some, Option.bind_some, if_pos rfl, if_pos f3, b23_0 (Or.inl f3)]
      obtain ⟨D3, z1, z2, z3⟩ := fin0 hN f2 f6 (nI i + (1 : Int32))
      exact Or.inr ⟨C2, D3, st, f5, by rw [f4, f6], z1, f1, z2, z3⟩
theorem Fr.refl (A : Mem) : Fr A A := ⟨fun _ _ _ => rfl, rfl, rfl, rfl⟩
end TEXT
theorem op_sea {C D : Mem} (h : Rel C D) {N : Nat} (hN : 300 ≤ N) : Both (mX11_sea N C) (mX12_sea N D) := by
  obtain ⟨m, ho, hc, he, hl, rd, rc, hm⟩ := h.1.get
  obtain ⟨n, t1, t2, t3, t4⟩ := h.2.2.2.1
  unfold mX11_sea mX12_sea mX5_tell
  rw [c_become (by decide) hc hN, m_move1 (rg := 8) (by decide) hN, Option.bind_some, Option.bind_some]
  have z := text_b (A := sR C 2 (mvq (6 + 7 * m) (C.1 2) (C.1 0))) (Z := sR D 8 (mvq 48 (D.1 8) (D.1 0))) (n := n) hN 120 N N 0 0 (sI (sR C 2 (mvq (6 + 7 * m) (C.1 2) (C.1 0))) 3 4 (0 : Int32)) (sI (sI (sR D 8 (mvq 48 (D.1 8) (D.1 0))) 9 8 (0 : Int32)) 9 11 (1 : Int32)) (by omega) (by omega) (by omega) (by omega) ⟨t1, t2, t3, t4⟩ (by omega) rfl rfl ⟨m, ho, he.trans mvq_eq, hl⟩ rfl
    ⟨fun r a b => if_neg b, rfl, rfl, rfl⟩ ⟨fun r a b => (show (sI (sI (sR D 8 (mvq 48 (D.1 8) (D.1 0))) 9 8 (0 : Int32)) 9 11 (1 : Int32)).1 r = (sI (sR D 8 (mvq 48 (D.1 8) (D.1 0))) 9 8 (0 : Int32)).1 r from if_neg b).trans (if_neg b), rfl, rfl, rfl⟩
  rcases z with ⟨C2, D2, i, i1, z1, z2, z3, z4, z5⟩ | ⟨C2, D2, st, i1, z1, z2, z4, z5, z6⟩
  · rw [show mX5_tell_b7 N N (sI (sR C 2 (mvq (6 + 7 * m) (C.1 2) (C.1 0))) 3 4 (0 : Int32)) 2 (1 : Int32) = _ from z1, show mX12_sea_b23 N N (sI (sI (sR D 8 (mvq 48 (D.1 8) (D.1 0))) 9 8 (0 : Int32)) 9 11 (1 : Int32)) (0 : Int32) (1 : Int32) = _ from z2, Option.bind_some, if_neg (nI_pos (by omega))]
    obtain ⟨m2, ho2, hc2, he2, hl2, rd2, rc2, hm2⟩ := z3.get
    rw [c_become (by decide) hc2 hN, Option.bind_some]
    unfold mX9_empty
    rw [Option.bind_some]
    refine ⟨_, _, _, rfl, rfl, ⟨m2, ho2, he2.trans mvq_eq, hl2⟩, ?_, ?_, ⟨0, by omega, rfl, z5.2.2.2, fun k hk => by omega⟩, ?_⟩
    · show Kept2 (C2.1 3 0) (C2.1 1) (D2.1 9 18) (D2.1 7)
      rw [z4.2.1, z4.1 1 (by decide) (by decide), z5.2.1, z5.1 7 (by decide) (by decide)]
      exact h.2.1
    · show Fnd2 (C2.1 7) (D2.1 1)
      rw [z4.1 7 (by decide) (by decide), z5.1 1 (by decide) (by decide)]
      exact h.2.2.1
    · show Sht2 (C2.1 5) (C2.1 6) C2.2 (D2.1 5) (D2.1 6) (D2.2 0)
      rw [z4.1 5 (by decide) (by decide), z4.1 6 (by decide) (by decide), z4.2.2.2, z5.1 5 (by decide) (by decide), z5.1 6 (by decide) (by decide), z5.2.2.1]
      exact h.2.2.2.2
  · have neg : (-1 : Int32) - nI st < 0 := by
      have a1 : 0 ≤ nI st := nI_pos' (by omega)
      have a2 : nI st ≤ 120 := nI_le (b := 120) i1 (by decide)
      generalize nI st = x at *
      grind
    rw [show mX5_tell_b7 N N (sI (sR C 2 (mvq (6 + 7 * m) (C.1 2) (C.1 0))) 3 4 (0 : Int32)) 2 (1 : Int32) = _ from z1, show mX12_sea_b23 N N (sI (sI (sR D 8 (mvq 48 (D.1 8) (D.1 0))) 9 8 (0 : Int32)) 9 11 (1 : Int32)) (0 : Int32) (1 : Int32) = _ from z2, Option.bind_some, if_pos neg]
    unfold mX9_empty
    rw [Option.bind_some]
    refine ⟨_, _, _, rfl, rfl, ?_, ?_, ?_, ⟨0, by omega, rfl, z5.2.2.2, fun k hk => by omega⟩, ?_⟩
    · show Sea2 (C2.1 0) (D2.1 0)
      rw [z4.1 0 (by decide) (by decide)]
      refine h.1.cong (fun i hi => ?_)
      rw [z6 i hi]
      exact mvq_in hi
    · show Kept2 (C2.1 3 0) (C2.1 1) (D2.1 9 18) (D2.1 7)
      rw [z4.2.1, z4.1 1 (by decide) (by decide), z5.2.1, z5.1 7 (by decide) (by decide)]
      exact h.2.1
    · show Fnd2 (C2.1 7) (D2.1 1)
      rw [z4.1 7 (by decide) (by decide), z5.1 1 (by decide) (by decide)]
      exact h.2.2.1
    · show Sht2 (C2.1 5) (C2.1 6) C2.2 (D2.1 5) (D2.1 6) (D2.2 0)
      rw [z4.1 5 (by decide) (by decide), z4.1 6 (by decide) (by decide), z4.2.2.2, z5.1 5 (by decide) (by decide), z5.1 6 (by decide) (by decide), z5.2.2.1]
      exact h.2.2.2.2
