/-! ===== PURE 24: an item ===== -/
section ITEM
variable {A Z C D : Mem} {n lo N : Nat}
theorem it_ship (hN : 300 ≤ N) (h : Ps A Z C D n lo) (hs : Sea2 (C.1 2) (D.1 0)) {k : Nat} (hk : k ≤ 5) : It A Z (mX5_takeShip N C 2 (nI k)) (mX12_wantOne N D (nI k)) n lo := by
  obtain ⟨m, ho, hc2, he, hl, rd, rc, hm6⟩ := hs.get
  unfold mX5_takeShip mX12_wantOne mX4_isFull
  rw [rc, rd, if_some, Option.bind_some]
  by_cases c6 : m = 6
  · subst c6
    rw [if_neg (show ¬ nI 6 < (6 : Int32) by decide), if_neg (show ¬ (1 : Int32) = 0 by decide), if_pos (show (6 : Int32) ≤ nI 6 by decide)]
    unfold mX12_wantOne_b17
    rw [if_pos (show b01 (0 : Int32) from Or.inl rfl), if_pos (show (sI D 9 11 (0 : Int32)).1 9 11 = 0 from upd_s (D.1 9) 11 0)]
    exact Or.inr ⟨_, _, rfl, rfl, h.bad⟩
  have hm5 : m < 6 := by omega
  rw [if_pos (show nI m < (6 : Int32) from nI_lt (b := 6) hm5 (by decide)), if_pos rfl, if_neg (show ¬ (6 : Int32) ≤ nI m from nI_ge (b := 6) hm5 (by decide))]
  unfold mX12_wantOne_b17
  rw [if_pos (show b01 (1 : Int32) from Or.inr rfl), sI_id h.2.2.1, if_neg (show ¬ D.1 9 11 = 0 by rw [h.2.2.1]; decide)]
  obtain ⟨C1, D1, k1, k2, k3, k4, k5, lo1, k6, k7, k8⟩ := Ps.next0 hN h
  rw [k1, k2, Option.bind_some, Option.bind_some]
  rcases num2 (M := 9) hN (by decide) k8 with ⟨v, C2, D2, lo2, r1, r2, r3, r4, r5, r6, r7, r8⟩ | ⟨x, r1, r2⟩
  · have hs2 : Sea2 (C2.1 2) (D2.1 0) := by rw [r5, r6, k4, k5]; exact hs
    have hm2 : ∀ q, D2.1 0 5 = nI q → q ≤ 6 → q < 6 := fun q hq hq6 => by
      rw [r6, k5, rd] at hq
      have := (nI_eq (by omega) (by omega)).mp hq
      omega
    rw [show mX5_takeNumber N C1 (9 : Int32) = _ from r2, show mX12_wantNumber N D1 (0 : Int32) (9 : Int32) = _ from r3, Option.bind_some, Option.bind_some, if_neg (show ¬ (1 : Int32) = 0 by decide)]
    unfold mX12_mayWant
    rw [if_neg (show ¬ D2.1 9 11 = 0 by rw [r8.2.2.1]; decide), r4]
    rcases r8.word hN with ⟨w1, w2⟩ | ⟨w1, w2⟩
    · obtain ⟨q, q1, q2, q3⟩ := w2 6 (by decide)
      rw [if_pos w1, q2, show mX12_isWord D2 (47 : Int64) = some q from q3, Option.bind_some, Option.bind_some]
      rcases q1 with rfl | rfl
      · rw [if_pos rfl, if_pos rfl, Option.bind_some]
        exact ship_add (c := 0) r8 hs2 hm2 hk (by omega) r1 (by omega)
      · rw [if_neg (show ¬ (1 : Int32) = 0 by decide), if_neg (show ¬ (1 : Int32) = 0 by decide)]
        obtain ⟨C3, D3, y1, y2, y3, y4, y5, lo3, y6, y7, y8⟩ := Ps.next0 hN r8
        rw [y1, y2, Option.bind_some, Option.bind_some]
        rcases num2 (M := 19) hN (by decide) y8 with ⟨u, C4, D4, lo4, z1, z2, z3, z4, z5, z6, z7, z8⟩ | ⟨x, z1, z2⟩
        · rw [show mX5_takeNumber N C3 (19 : Int32) = _ from z2, show mX12_wantNumber N D3 (0 : Int32) (19 : Int32) = _ from z3, Option.bind_some, Option.bind_some, if_neg (show ¬ (1 : Int32) = 0 by decide), z4, Option.bind_some]
          exact ship_add z8 (by rw [z5, z6, y4, y5]; exact hs2) (fun q hq => hm2 q (by rw [← y5, ← z6]; exact hq)) hk z1 r1 (by omega)
        · rw [show mX5_takeNumber N C3 (19 : Int32) = _ from z1, show mX12_wantNumber N D3 (0 : Int32) (19 : Int32) = _ from z2, Option.bind_some, Option.bind_some, if_pos rfl, Option.bind_some, if_pos (show (sI D3 9 11 (0 : Int32)).1 9 11 = 0 from upd_s (D3.1 9) 11 0)]
          exact Or.inr ⟨_, _, rfl, rfl, y8.bad⟩
    · rw [if_neg w1, w2, Option.bind_some, if_pos rfl, Option.bind_some]
      exact ship_add (c := 0) r8 hs2 hm2 hk (by omega) r1 (by omega)
  · rw [show mX5_takeNumber N C1 (9 : Int32) = _ from r1, show mX12_wantNumber N D1 (0 : Int32) (9 : Int32) = _ from r2, Option.bind_some, Option.bind_some, if_pos rfl]
    unfold mX12_mayWant
    rw [if_pos (show (sI D1 9 11 (0 : Int32)).1 9 11 = 0 from upd_s (D1.1 9) 11 0), Option.bind_some, if_pos (show (sI D1 9 11 (0 : Int32)).1 9 11 = 0 from upd_s (D1.1 9) 11 0)]
    exact Or.inr ⟨_, _, rfl, rfl, k8.bad⟩
theorem It.b01 {rc : Option (Int32 × Mem)} {rm : Option Mem} (h : It A Z rc rm n lo) : It A Z (rc.bind fun q => (if b01 q.1 then some (q.1, q.2) else none)) (rm.bind fun M => some M) n lo := by
  rcases h with ⟨C2, D2, lo2, rfl, rfl, h⟩ | ⟨C2, D2, rfl, rfl, h⟩
  · exact Or.inl ⟨C2, D2, lo2, by rw [Option.bind_some, if_pos (Or.inr rfl)], rfl, h⟩
  · exact Or.inr ⟨C2, D2, by rw [Option.bind_some, if_pos (Or.inl rfl)], rfl, h⟩
theorem It.if01 {rc : Option (Int32 × Mem)} {rm : Option Mem} (h : It A Z rc rm n lo) : It A Z (rc.bind fun q => (if q.1 = 0 then some ((0 : Int32), q.2) else some ((1 : Int32), q.2))) rm n lo := by
  rcases h with ⟨C2, D2, lo2, rfl, rfl, h⟩ | ⟨C2, D2, rfl, rfl, h⟩
  · exact Or.inl ⟨C2, D2, lo2, by rw [Option.bind_some]; exact if_neg (by decide : ¬ (1 : Int32) = 0), rfl, h⟩
  · exact Or.inr ⟨C2, D2, by rw [Option.bind_some, if_pos rfl], rfl, h⟩
end ITEM
