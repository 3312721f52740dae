/-! ===== PURE 22: items of a text ===== -/
theorem Ps.seas {A Z C D : Mem} {n lo : Nat} (h : Ps A Z C D n lo) (c d : Nat → Int32) : Ps A Z (sR C 2 c) (sR D 0 d) n lo := by
  obtain ⟨h1, h2, h4, h5, h6⟩ := h
  exact ⟨h1, h2, h4, ⟨fun r a b => (sR_o a).trans (h5.1 r a b), h5.2.1, h5.2.2.1, h5.2.2.2⟩, ⟨fun r a b => (sR_o a).trans (h6.1 r a b), h6.2.1, h6.2.2.1, h6.2.2.2⟩⟩
theorem Bad.seas {A Z C D : Mem} (h : Bad A Z C D) (c d : Nat → Int32) : Bad A Z (sR C 2 c) (sR D 0 d) := by
  obtain ⟨h5, h6, h7⟩ := h
  exact ⟨⟨fun r a b => (sR_o a).trans (h5.1 r a b), h5.2.1, h5.2.2.1, h5.2.2.2⟩, ⟨fun r a b => (sR_o a).trans (h6.1 r a b), h6.2.1, h6.2.2.1, h6.2.2.2⟩, h7⟩
def It (A Z : Mem) (rc : Option (Int32 × Mem)) (rm : Option Mem) (n lo : Nat) : Prop := (∃ C2 D2 lo2, rc = some (1, C2) ∧ rm = some D2 ∧ lo < lo2 ∧ Sea2 (C2.1 2) (D2.1 0) ∧ Ps A Z C2 D2 n lo2) ∨ (∃ C2 D2, rc = some (0, C2) ∧ rm = some D2 ∧ Bad A Z C2 D2)
theorem Sea2.upd1 {c d : Nat → Int32} (h : Sea2 c d) {v : Int32} (hv : 0 ≤ v ∧ v ≤ 19) : Sea2 (upd c 1 v) (upd d 1 v) := by
  obtain ⟨m, ho, he, hl⟩ := h
  exact ⟨m, seaOk_upd ho (by decide) (fun _ => hv) (by omega) (by omega), seaEq_upd he (by decide), LOk_upd hl (by decide)⟩
theorem Sea2.upd2 {c d : Nat → Int32} (h : Sea2 c d) {v : Int32} (hv : 0 ≤ v ∧ v ≤ 9) : Sea2 (upd c 2 v) (upd d 2 v) := by
  obtain ⟨m, ho, he, hl⟩ := h
  exact ⟨m, seaOk_upd ho (by decide) (by omega) (fun _ => hv) (by omega), seaEq_upd he (by decide), LOk_upd hl (by decide)⟩
theorem Sea2.upd4 {c d : Nat → Int32} (h : Sea2 c d) {v : Int32} (hv : 0 ≤ v ∧ v ≤ 9) : Sea2 (upd c 4 v) (upd d 4 v) := by
  obtain ⟨m, ho, he, hl⟩ := h
  exact ⟨m, seaOk_upd ho (by decide) (by omega) (by omega) (fun _ => hv), seaEq_upd he (by decide), LOk_upd hl (by decide)⟩
section ITEMS
variable {A Z C D : Mem} {n lo N : Nat}
theorem it_reach (hN : 300 ≤ N) (h : Ps A Z C D n lo) (hs : Sea2 (C.1 2) (D.1 0)) : It A Z (mX5_takeReach N C 2) ((mX12_advance N D).bind fun M16 => ((mX12_wantNumber N M16 (0 : Int32) (9 : Int32)).bind fun q18 => (if (q18.2.1 9 11) = 0 then some (sI q18.2 0 4 (q18.2.1 0 4)) else some (sI q18.2 0 4 q18.1)))) n lo := by
  obtain ⟨C1, D1, k1, k2, k3, k4, k5, lo1, k6, k7, k8⟩ := Ps.next0 hN h
  unfold mX5_takeReach
  rw [k1, k2, Option.bind_some, Option.bind_some]
  rcases num2 (M := 9) hN (by decide) k8 with ⟨v, C2, D2, lo2, r1, r2, r3, r4, r5, r6, r7, r8⟩ | ⟨x, r1, r2⟩
  · rw [show mX5_takeNumber N C1 (9 : Int32) = _ from r2, show mX12_wantNumber N D1 (0 : Int32) (9 : Int32) = _ from r3, Option.bind_some, Option.bind_some]
    refine Or.inl ⟨sR C2 2 (upd (C2.1 2) 4 (nI v)), sR D2 0 (upd (D2.1 0) 4 (nI v)), lo2, ?_, ?_, by omega, ?_, r8.seas _ _⟩
    · rw [if_neg (show ¬ (1 : Int32) = 0 by decide), r4]; rfl
    · rw [if_neg (show ¬ D2.1 9 11 = 0 by rw [r8.2.2.1]; decide)]; rfl
    · show Sea2 (upd (C2.1 2) 4 (nI v)) (upd (D2.1 0) 4 (nI v))
      rw [r5, r6, k4, k5]
      exact hs.upd4 ⟨nI_pos' (by omega), nI_le (b := 9) r1 (by decide)⟩
  · rw [show mX5_takeNumber N C1 (9 : Int32) = _ from r1, show mX12_wantNumber N D1 (0 : Int32) (9 : Int32) = _ from r2, Option.bind_some, Option.bind_some]
    refine Or.inr ⟨C1, sI D1 9 11 (0 : Int32), if_pos rfl, ?_, k8.bad⟩
    rw [if_pos (show (sI D1 9 11 (0 : Int32)).1 9 11 = 0 from upd_s (D1.1 9) 11 0), sI_id rfl]
theorem it_tower (hN : 300 ≤ N) (h : Ps A Z C D n lo) (hs : Sea2 (C.1 2) (D.1 0)) : It A Z (mX5_takeTower N C 2) (mX12_wantTower N D) n lo := by
  obtain ⟨C1, D1, k1, k2, k3, k4, k5, lo1, k6, k7, k8⟩ := Ps.next0 hN h
  unfold mX5_takeTower mX12_wantTower
  rw [k1, k2, Option.bind_some, Option.bind_some]
  rcases num2 (M := 19) hN (by decide) k8 with ⟨v, C2, D2, lo2, r1, r2, r3, r4, r5, r6, r7, r8⟩ | ⟨x, r1, r2⟩
  · rw [show mX5_takeNumber N C1 (19 : Int32) = _ from r2, show mX12_wantNumber N D1 (0 : Int32) (19 : Int32) = _ from r3, Option.bind_some, Option.bind_some, if_neg (show ¬ (1 : Int32) = 0 by decide), if_neg (show ¬ D2.1 9 11 = 0 by rw [r8.2.2.1]; decide), r4]
    have h9 : Ps A Z (sI C2 2 1 (nI v)) D2 n lo2 := by
      have z := r8.seas (upd (C2.1 2) 1 (nI v)) (D2.1 0)
      rw [sR_self] at z
      exact z
    rcases num2 (M := 9) hN (by decide) h9 with ⟨u, C3, D3, lo3, q1, q2, q3, q4, q5, q6, q7, q8⟩ | ⟨x, q1, q2⟩
    · rw [show mX5_takeNumber N (sI C2 2 1 (nI v)) (9 : Int32) = _ from q2, show mX12_wantNumber N D2 (0 : Int32) (9 : Int32) = _ from q3, Option.bind_some, Option.bind_some, if_neg (show ¬ (1 : Int32) = 0 by decide), q4]
      unfold mX12_wantTower_b30
      rw [if_neg (show ¬ D3.1 9 11 = 0 by rw [q8.2.2.1]; decide), m_stands (by omega) (by omega), Option.bind_some]
      refine Or.inl ⟨_, _, lo3, rfl, rfl, by omega, ?_, ?_⟩
      · show Sea2 (upd (C3.1 2) 2 (nI u)) (upd (upd (D3.1 0) 1 (nI v)) 2 (nI u))
        rw [q5, q6]
        show Sea2 (upd (upd (C2.1 2) 1 (nI v)) 2 (nI u)) (upd (upd (D2.1 0) 1 (nI v)) 2 (nI u))
        rw [r5, r6, k4, k5]
        exact (hs.upd1 ⟨nI_pos' (by omega), nI_le (b := 19) r1 (by decide)⟩).upd2 ⟨nI_pos' (by omega), nI_le (b := 9) q1 (by decide)⟩
      · rw [sI_sR, sI_sR, sI_sR, sR_s, sR_sR]
        exact q8.seas _ _
    · rw [show mX5_takeNumber N (sI C2 2 1 (nI v)) (9 : Int32) = _ from q1, show mX12_wantNumber N D2 (0 : Int32) (9 : Int32) = _ from q2, Option.bind_some, Option.bind_some, if_pos rfl]
      unfold mX12_wantTower_b30
      rw [if_pos (show (sI D2 9 11 (0 : Int32)).1 9 11 = 0 from upd_s (D2.1 9) 11 0)]
      exact Or.inr ⟨_, _, rfl, rfl, h9.bad⟩
  · rw [show mX5_takeNumber N C1 (19 : Int32) = _ from r1, show mX12_wantNumber N D1 (0 : Int32) (19 : Int32) = _ from r2, Option.bind_some, Option.bind_some, if_pos rfl]
    unfold mX12_wantTower_b30
    rw [if_pos (show (sI D1 9 11 (0 : Int32)).1 9 11 = 0 from upd_s (D1.1 9) 11 0), if_pos (show (sI D1 9 11 (0 : Int32)).1 9 11 = 0 from upd_s (D1.1 9) 11 0)]
    exact Or.inr ⟨_, _, rfl, rfl, k8.bad⟩
end ITEMS
