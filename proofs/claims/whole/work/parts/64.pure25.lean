/-! ===== PURE 25: any item ===== -/
section ANY
variable {A Z C D : Mem} {n lo N : Nat}
theorem it_item (hN : 300 ≤ N) (h : Ps A Z C D n lo) (hs : Sea2 (C.1 2) (D.1 0)) : It A Z (mX5_takeItem N C 2) (mX12_wantItem N D) n lo := by
  unfold mX5_takeItem mX12_wantItem
  rcases h.word hN with ⟨w1, w2⟩ | ⟨w1, w2⟩
  · rw [if_pos w1]
    obtain ⟨r0, b0, x0, y0⟩ := w2 0 (by decide)
    obtain ⟨r1, b1, x1, y1⟩ := w2 1 (by decide)
    obtain ⟨r2, b2, x2, y2⟩ := w2 2 (by decide)
    obtain ⟨r3, b3, x3, y3⟩ := w2 3 (by decide)
    obtain ⟨r4, b4, x4, y4⟩ := w2 4 (by decide)
    obtain ⟨r5, b5, x5, y5⟩ := w2 5 (by decide)
    obtain ⟨r7, b7, x7, y7⟩ := w2 7 (by decide)
    obtain ⟨r8, b8, x8, y8⟩ := w2 8 (by decide)
    obtain ⟨r9, b9, x9, y9⟩ := w2 9 (by decide)
    obtain ⟨ra, ba, xa, ya⟩ := w2 10 (by decide)
    have kh : mX12_kindHere D = some (if r0 = 0 then (if r1 = 0 then (if r2 = 0 then (if r3 = 0 then (if r4 = 0 then (if r5 = 0 then (-1 : Int32) else 5) else 4) else 3) else 2) else 1) else 0) := by
      unfold mX12_kindHere
      rw [show mX12_isWord D (380068 : Int64) = _ from y0, show mX12_isWord D (7650653949 : Int64) = _ from y1, show mX12_isWord D (50348 : Int64) = _ from y2, show mX12_isWord D (1812878082 : Int64) = _ from y3, show mX12_isWord D (256863 : Int64) = _ from y4, show mX12_isWord D (5353 : Int64) = _ from y5]
      simp only [Option.bind_some]
      rw [if_some, if_some, if_some, if_some, if_some, if_some]
    have st : ∀ (z k : Nat) (r : Int32), k < 6 → mX5_isWord N C k = some r → mX5_takeItem_b12 N (z + 1) C 2 (nI k) = if r = 0 then mX5_takeItem_b12 N z C 2 (nI (k + 1)) else ((mX5_takeShip N C 2 (nI k)).bind fun q33 => (if b01 q33.1 then some (q33.1, q33.2) else none)) := by
      intro z k r hk hr
      have o : ok (nI k) 6 := vp_in_nI hk (by decide)
      rw [mX5_takeItem_b12, if_neg (show ¬ (6 : Int32) ≤ nI k from nI_ge (b := 6) hk (by decide)), if_pos o, if_pos o, if_pos o, nI_clamp (by omega), hr, Option.bind_some, nI_1]
    have fuel : ∃ z, N = z + 7 := ⟨N - 7, by omega⟩
    obtain ⟨z, hz⟩ := fuel
    have ship : ∀ k : Nat, k ≤ 5 → mX12_kindHere D = some (nI k) → It A Z ((mX5_takeShip N C 2 (nI k)).bind fun q33 => (if b01 q33.1 then some (q33.1, q33.2) else none)) ((mX12_kindHere D).bind fun r1 => (if r1 < 0 then ((mX12_isWord D (10940985 : Int64)).bind fun r4 => (if r4 = 0 then ((mX12_isWord D (1489744 : Int64)).bind fun r7 => (if r7 = 0 then ((mX12_isWord D (79958 : Int64)).bind fun r10 => (if r10 = 0 then ((mX12_isWord D (9665171 : Int64)).bind fun r13 => (if r13 = 0 then some (sI D 9 11 (0 : Int32)) else ((mX12_advance N D).bind fun M16 => ((mX12_wantNumber N M16 (0 : Int32) (9 : Int32)).bind fun q18 => (if (q18.2.1 9 11) = 0 then some (sI q18.2 0 4 (q18.2.1 0 4)) else some (sI q18.2 0 4 q18.1)))))) else ((mX12_wantLamp N D (0 : Int32)).bind fun M21 => some M21))) else ((mX12_wantLamp N D (1 : Int32)).bind fun M23 => some M23))) else ((mX12_wantTower N D).bind fun M25 => some M25))) else ((mX12_kindHere D).bind fun r27 => ((mX12_wantOne N D r27).bind fun M29 => some M29)))) n lo := by
      intro k hk e
      rw [e, Option.bind_some, if_neg (nI_pos (by omega)), Option.bind_some]
      exact (it_ship hN h hs hk).b01
    have e0 : mX5_takeItem_b12 N N C 2 (0 : Int32) = mX5_takeItem_b12 N (z + 7) C 2 (nI 0) := by
      have : ∀ K, K = z + 7 → mX5_takeItem_b12 N K C 2 (0 : Int32) = mX5_takeItem_b12 N (z + 7) C 2 (nI 0) := fun K hK => by subst hK; rfl
      exact this N hz
    rw [e0, st (z + 6) 0 r0 (by decide) x0]
    by_cases c0 : ¬ r0 = 0
    · rw [if_neg c0]; exact ship 0 (by decide) (by rw [kh, if_neg c0]; rfl)
    have c0 := Classical.not_not.mp c0
    rw [if_pos c0, st (z + 5) 1 r1 (by decide) x1]
    by_cases c1 : ¬ r1 = 0
    · rw [if_neg c1]; exact ship 1 (by decide) (by rw [kh, if_pos c0, if_neg c1]; rfl)
    have c1 := Classical.not_not.mp c1
    rw [if_pos c1, st (z + 4) 2 r2 (by decide) x2]
    by_cases c2 : ¬ r2 = 0
    · rw [if_neg c2]; exact ship 2 (by decide) (by rw [kh, if_pos c0, if_pos c1, if_neg c2]; rfl)
    have c2 := Classical.not_not.mp c2
    rw [if_pos c2, st (z + 3) 3 r3 (by decide) x3]
    by_cases c3 : ¬ r3 = 0
    · rw [if_neg c3]; exact ship 3 (by decide) (by rw [kh, if_pos c0, if_pos c1, if_pos c2, if_neg c3]; rfl)
    have c3 := Classical.not_not.mp c3
    rw [if_pos c3, st (z + 2) 4 r4 (by decide) x4]
    by_cases c4 : ¬ r4 = 0
    · rw [if_neg c4]; exact ship 4 (by decide) (by rw [kh, if_pos c0, if_pos c1, if_pos c2, if_pos c3, if_neg c4]; rfl)
    have c4 := Classical.not_not.mp c4
    rw [if_pos c4, st (z + 1) 5 r5 (by decide) x5]
    by_cases c5 : ¬ r5 = 0
    · rw [if_neg c5]; exact ship 5 (by decide) (by rw [kh, if_pos c0, if_pos c1, if_pos c2, if_pos c3, if_pos c4, if_neg c5]; rfl)
    have c5 := Classical.not_not.mp c5
    rw [if_pos c5, kh, if_pos c0, if_pos c1, if_pos c2, if_pos c3, if_pos c4, if_pos c5, Option.bind_some, if_pos (by decide)]
    rw [mX5_takeItem_b12, if_pos (show (6 : Int32) ≤ nI (5 + 1) by decide), x7, show mX12_isWord D (10940985 : Int64) = _ from y7, Option.bind_some, Option.bind_some]
    by_cases c7 : ¬ r7 = 0
    · rw [if_neg c7, if_neg c7]; exact (it_tower hN h hs).b01
    have c7 := Classical.not_not.mp c7
    rw [if_pos c7, if_pos c7, x8, show mX12_isWord D (1489744 : Int64) = _ from y8, Option.bind_some, Option.bind_some]
    by_cases c8 : ¬ r8 = 0
    · rw [if_neg c8, if_neg c8]; exact (it_lamp hN h hs (Or.inr rfl)).b01
    have c8 := Classical.not_not.mp c8
    rw [if_pos c8, if_pos c8, x9, show mX12_isWord D (79958 : Int64) = _ from y9, Option.bind_some, Option.bind_some]
    by_cases c9 : ¬ r9 = 0
    · rw [if_neg c9, if_neg c9]; exact (it_lamp hN h hs (Or.inl rfl)).b01
    have c9 := Classical.not_not.mp c9
    rw [if_pos c9, if_pos c9, xa, show mX12_isWord D (9665171 : Int64) = _ from ya, Option.bind_some, Option.bind_some]
    by_cases ca : ra = 0
    · rw [if_pos ca, if_pos ca]; exact Or.inr ⟨_, _, rfl, rfl, h.bad⟩
    · rw [if_neg ca, if_neg ca]; exact (it_reach hN h hs).if01
  · rw [if_neg w1]
    have kh : mX12_kindHere D = some (-1 : Int32) := by
      unfold mX12_kindHere
      rw [w2, w2, w2, w2, w2, w2]
      rfl
    rw [kh, Option.bind_some, if_pos (by decide), w2, Option.bind_some, if_pos rfl, w2, Option.bind_some, if_pos rfl, w2, Option.bind_some, if_pos rfl, w2, Option.bind_some, if_pos rfl]
    exact Or.inr ⟨_, _, rfl, rfl, h.bad⟩
end ANY
