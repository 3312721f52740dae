/-! ===== PURE 15: book, read ===== -/
/-- the class's one ship goes as the model's ship k -/
def One (m k : Nat) (f g : Nat → Int32) : Prop := SeaOk 1 f ∧ g 5 = nI m ∧ shp f 0 = shp g k ∧ ∀ i, i < 5 → f i = g i
theorem One.hour {m k : Nat} {f g : Nat → Int32} (h : One m k f g) (hk : k < m) : One m k (passC 1 1 f) (oneH m g) := by
  obtain ⟨h1, h2, h3, h4⟩ := h
  have e3 : shp (passC 1 1 f) 0 = hsS (f 1) (f 2) (f 3) (f 4) (hodS (f 0)) (shp f 0) := by rw [passC_eq.2 0 (by decide), passR_s (by decide)]; rfl
  refine ⟨h1.pass.eq passC_eq.symm, by rw [oneH_e (by decide) (by decide)]; exact h2, ?_, fun i hi => ?_⟩
  · rw [e3, oneH_s hk, h3, h4 0 (by decide), h4 1 (by decide), h4 2 (by decide), h4 3 (by decide), h4 4 (by decide)]
  · by_cases h0 : i = 0
    · subst h0
      rw [passC_eq.1 0 (by decide), passR_0, oneH_0, h4 0 (by decide)]
      rfl
    · rw [passC_eq.1 i (by omega), passR_e (by omega) (by omega), oneH_e (by omega) (by omega)]
      exact h4 i hi
theorem One.row {m k : Nat} {f g : Nat → Int32} (h : One m k f g) : f (6 + 7 * 0 + 2) = g (6 + 7 * k + 2) ∧ 0 ≤ f (6 + 7 * 0 + 2) ∧ f (6 + 7 * 0 + 2) ≤ 9 := by
  obtain ⟨h1, -, h3, -⟩ := h
  refine ⟨?_, (h1.2.2.2 0 (by decide)).2.2.1⟩
  have := congrArg (fun s : Shp => s.2.2.1) h3
  exact this
theorem one_start {C D E : Mem} {m k : Nat} (hc : SeaOk m (C.1 0)) (he : SeaEq m (D.1 0) (C.1 0)) (rd : D.1 0 5 = nI m) (hk : k < m) (eE : SeaEq m (D.1 0) (E.1 0)) (f : Nat → Int32) : One m k (oneR f (C.1 0) (shp (C.1 0) k)) (E.1 0) := by
  refine ⟨oneR_ok hc (hc.2.2.2 k hk), by rw [← eE.1 5 (by decide)]; exact rd, by rw [oneR_s, ← eE.2 k hk, he.2 k hk], fun i hi => by rw [oneR_e hi, ← eE.1 i (by omega), he.1 i (by omega)]⟩
theorem lk_6 {D E : Mem} (h : Lk D E) : E.1 6 = D.1 6 := by
  obtain ⟨B, rfl, -⟩ := h
  rfl
theorem lk_put {D E : Mem} (h : Lk D E) (i : Nat) (v : Int64) : Lk (sJ D 0 i v) (sJ E 0 i v) := by
  obtain ⟨B, rfl, hB⟩ := h
  exact ⟨B, rfl, hB⟩
theorem book_b {N s k m : Nat} (hN : 300 ≤ N) (hs : s < 4) (hm : m ≤ 6) (hk : k < m) : ∀ (p n n2 q : Nat) (C D E : Mem) (f g : Nat → Int32), Rel C D → Lk D E → One m k f g → p < n → p < n2 → p + q = 41 → Both (mX11_book_b47 N n (sR C 2 f) s (nI q)) (mX12_book_b43 N n2 (sR E 0 g) (nI s) (nI k) (nI q)) := by
  have fin : ∀ (n n2 q : Nat) (C D E : Mem) (f g : Nat → Int32) (z : Nat), Rel C D → Lk D E → C.1 6 s = nI z → D.1 6 s = nI z → z ≤ q → q ≤ 41 → Both (mX11_book_b47 N (n + 1) (sR C 2 f) s (nI q)) (mX12_book_b43 N (n2 + 1) (sR E 0 g) (nI s) (nI k) (nI q)) := by
    intro n n2 q C D E f g z h hlk q4 q5 hz hq
    obtain ⟨E2, hE2, hlk2⟩ := lk_back hN hlk g
    have eC : (sR C 2 f).1 6 s = nI z := q4
    have eD : (sR E 0 g).1 6 s = nI z := by
      show E.1 6 s = nI z
      rw [lk_6 hlk]; exact q5
    have eD2 : E2.1 6 s = nI z := by rw [lk_6 hlk2]; exact q5
    rw [mX11_book_b47, mX12_book_b43]
    simp only [if_pos (ok4 hs)]
    rw [show (nI s).toNatClampNeg = s from nI_clamp (by omega), eC, eD, if_pos (nI_le hz (by omega)), if_pos (nI_le hz (by omega)), hE2, Option.bind_some, eD2]
    exact ⟨_, _, _, rfl, rfl, lk_rel (tr_rel h f) hlk2⟩
  intro p
  induction p with
  | zero =>
    intro n n2 q C D E f g h hlk ho hn hn2 hq
    obtain ⟨n, rfl⟩ : ∃ z, n = z + 1 := ⟨n - 1, by omega⟩
    obtain ⟨n2, rfl⟩ : ∃ z, n2 = z + 1 := ⟨n2 - 1, by omega⟩
    obtain ⟨q1, q2, ⟨z, q3, q4, q5⟩, q6⟩ := h.sht hs
    exact fin n n2 q C D E f g z h hlk q4 q5 (by omega) (by omega)
  | succ p ih =>
    intro n n2 q C D E f g h hlk ho hn hn2 hq
    obtain ⟨n, rfl⟩ : ∃ z, n = z + 1 := ⟨n - 1, by omega⟩
    obtain ⟨n2, rfl⟩ : ∃ z, n2 = z + 1 := ⟨n2 - 1, by omega⟩
    obtain ⟨q1, q2, ⟨z, q3, q4, q5⟩, q6⟩ := h.sht hs
    by_cases c : z ≤ q
    · exact fin n n2 q C D E f g z h hlk q4 q5 c (by omega)
    have eC : (sR C 2 f).1 6 s = nI z := q4
    have eD : (sR E 0 g).1 6 s = nI z := by
      show E.1 6 s = nI z
      rw [lk_6 hlk]; exact q5
    obtain ⟨r1, r2⟩ := ho.row
    have hp : One m k (passC 1 1 f) (oneH m g) := ho.hour hk
    have x1 : mX4_pass N 2 (sR (sJ C s q (f (6 + 7 * 0 + 2)).toInt64) 2 f) (1 : Int32) = some (sR (sJ C s q (f (6 + 7 * 0 + 2)).toInt64) 2 (passC 1 1 f)) := c_pass2 (t := 1) ho.1 (by decide) hN
    have x2 : mX12_oneHour N (sR (sJ E 0 (40 * s + q) (f (6 + 7 * 0 + 2)).toInt64) 0 g) = some (sR (sJ E 0 (40 * s + q) (f (6 + 7 * 0 + 2)).toInt64) 0 (oneH m g)) := by
      rw [m_oneHour (D := sR (sJ E 0 (40 * s + q) (f (6 + 7 * 0 + 2)).toInt64) 0 g) (m := m) (by rw [sR_s]; exact ho.2.1) hm (by omega), sR_s, sR_sR]
    have x3 := its2 (M := sR E 0 g) (k := k) (by omega)
    rw [sR_s, ← r1] at x3
    rw [mX11_book_b47, mX12_book_b43]
    simp only [if_pos (ok4 hs)]
    rw [show (nI s).toNatClampNeg = s from nI_clamp (by omega), eC, eD, if_neg (nI_ge (by omega) (by omega)), if_neg (nI_ge (by omega) (by omega)), x3, c_put (C := sR C 2 f) eC q3 (by omega), sR_s, row8 _ r2]
    simp only [Option.bind_some]
    rw [if_pos (shi hs (i := q) (by omega)).1, (shi hs (i := q) (by omega)).2, nI_1]
    rw [show sJ (sR C 2 f) s q (f (6 + 7 * 0 + 2)).toInt64 = sR (sJ C s q (f (6 + 7 * 0 + 2)).toInt64) 2 f from rfl, x1]
    rw [show sJ (sR E 0 g) 0 (40 * s + q) (f (6 + 7 * 0 + 2)).toInt64 = sR (sJ E 0 (40 * s + q) (f (6 + 7 * 0 + 2)).toInt64) 0 g from rfl, x2]
    simp only [Option.bind_some]
    exact ih n n2 (q + 1) _ _ _ _ _ (h.put hs (by omega)) (lk_put hlk _ _) hp (by omega) (by omega) (by omega)
theorem op_book {C D : Mem} (h : Rel C D) {N : Nat} (hN : 300 ≤ N) (a b : Int32) : Both (mX11_book N C a b) (mX12_book N D a b) := by
  obtain ⟨m, ho, hc, he, hl, rd, rc, hm⟩ := h.1.get
  unfold mX11_book mX12_book
  rcases bad2 h a with ⟨e1, e2, -⟩ | ⟨s, hs, rfl, -, ⟨-, e1, e2⟩ | ⟨-, e1, e2⟩⟩
  · rw [e1, e2, Option.bind_some, Option.bind_some, if_neg (by decide), if_neg (by decide)]
    exact bF0 h
  · rw [e1, e2, Option.bind_some, Option.bind_some, if_neg (by decide), if_neg (by decide)]
    exact bF5 h
  · rw [e1, e2, Option.bind_some, Option.bind_some, if_pos rfl, if_pos rfl, if_pos (ok4 hs), c_isShip rc, m_isOne rd hm, Option.bind_some, Option.bind_some]
    by_cases c1 : isS m b = 0
    · rw [if_pos c1, if_pos c1]; exact bF0 h
    rw [if_neg c1, if_neg c1]
    obtain ⟨k, hk, rfl⟩ := isS_1 hm c1
    obtain ⟨E, hE, hlk⟩ := lk_start (D := D) hN
    have o := one_start (f := C.1 2) hc he rd hk (lk_eq hm hlk)
    rw [c_alone hc hk, hE, show (nI s).toNatClampNeg = s from nI_clamp (by omega), Option.bind_some, Option.bind_some]
    have z := book_b hN hs hm hk 41 N N 0 C D E _ _ h hlk o (by omega) (by omega) (by omega)
    rw [sR_self] at z
    exact z
/-! read -/
def Lk3 (D E : Mem) : Prop := ∃ B : Nat → Int32, E = sR (sR D 3 (mvq 48 (D.1 3) (D.1 0))) 0 B ∧ ∀ i, i < 48 → B i = D.1 0 i
theorem lk3_start {D : Mem} {N : Nat} (hN : 300 ≤ N) : ∃ E, mX12_moveAll N 3 D (1 : Int32) = some E ∧ Lk3 D E := by
  refine ⟨_, m_move1 (by decide) hN, D.1 0, ?_, fun _ _ => rfl⟩
  exact (sR_self (sR D 3 (mvq 48 (D.1 3) (D.1 0))) 0).symm
theorem lk3_back {D E : Mem} {N : Nat} (hN : 300 ≤ N) (h : Lk3 D E) (X : Nat → Int32) : ∃ E2, mX12_moveAll N 3 (sR E 0 X) (0 : Int32) = some E2 ∧ Lk3 D E2 := by
  obtain ⟨B, rfl, hB⟩ := h
  refine ⟨_, m_move0 (by decide) hN, mvq 48 X (mvq 48 (D.1 3) (D.1 0)), ?_, fun i hi => by rw [mvq_in hi, mvq_in hi]⟩
  rw [sR_s, sR_sR, sR_sR]
  rfl
theorem lk3_rel {C D E : Mem} (h : Rel C D) (hl : Lk3 D E) : Rel C E := by
  obtain ⟨B, rfl, hB⟩ := hl
  exact ⟨h.1.cong hB, h.2⟩
theorem lk3_eq {D E : Mem} {m : Nat} (hm : m ≤ 6) (hl : Lk3 D E) : SeaEq m (D.1 0) (E.1 0) := by
  obtain ⟨B, rfl, hB⟩ := hl
  exact sea_cong hm hB
theorem lk3_x {D E : Mem} (h : Lk3 D E) : E.1 6 = D.1 6 ∧ E.2 = D.2 := by
  obtain ⟨B, rfl, -⟩ := h
  exact ⟨rfl, rfl⟩
theorem so_b {C D E : Mem} {N s k m : Nat} (hN : 300 ≤ N) (hs : s < 4) (hm : m ≤ 6) (hk : k < m) (h : Rel C D) (hlk : Lk3 D E) : ∀ (p n n2 q : Nat) (f g : Nat → Int32), One m k f g → p < n → p + 1 < n2 → p + q = 41 → ∃ (t : Int32) (f2 g2 : Nat → Int32), (t = 0 ∨ t = 1) ∧ mX11_goesAsTold_b2 N n (sR C 2 f) s (nI q) = some (t, sR C 2 f2) ∧ mX12_isSo_b5 N n2 (sR E 0 g) (nI s) (nI k) (1 : Int32) (nI q) = some (t, sR E 0 g2) := by
  obtain ⟨q1, q2, ⟨z, q3, q4, q5⟩, q6⟩ := h.sht hs
  obtain ⟨y1, y2⟩ := lk3_x hlk
  have eD : ∀ g, (sR E 0 g).1 6 s = nI z := by
    intro g
    show E.1 6 s = nI z
    rw [y1]; exact q5
  have eC : ∀ f, (sR C 2 f).1 6 s = nI z := fun f => q4
  have es : (nI s).toNatClampNeg = s := nI_clamp (by omega)
  have fin : ∀ (n n2 q : Nat) (f g : Nat → Int32), z ≤ q → q ≤ 41 → mX11_goesAsTold_b2 N (n + 1) (sR C 2 f) s (nI q) = some (1, sR C 2 f) ∧ mX12_isSo_b5 N (n2 + 1) (sR E 0 g) (nI s) (nI k) (1 : Int32) (nI q) = some (1, sR E 0 g) := by
    intro n n2 q f g hz hq
    rw [mX11_goesAsTold_b2, mX12_isSo_b5, if_pos (ok4 hs), es, eC, eD, if_pos (nI_le hz (by omega)), if_pos (nI_le hz (by omega)), if_pos (show b01 (1 : Int32) from Or.inr rfl)]
    exact ⟨rfl, rfl⟩
  intro p
  induction p with
  | zero =>
    intro n n2 q f g ho hn hn2 hq
    obtain ⟨n, rfl⟩ : ∃ z, n = z + 1 := ⟨n - 1, by omega⟩
    obtain ⟨n2, rfl⟩ : ∃ z, n2 = z + 1 := ⟨n2 - 1, by omega⟩
    obtain ⟨a, b⟩ := fin n n2 q f g (by omega) (by omega)
    exact ⟨1, f, g, Or.inr rfl, a, b⟩
  | succ p ih =>
    intro n n2 q f g ho hn hn2 hq
    obtain ⟨n, rfl⟩ : ∃ z, n = z + 1 := ⟨n - 1, by omega⟩
    obtain ⟨n2, rfl⟩ : ∃ z, n2 = z + 1 := ⟨n2 - 1, by omega⟩
    by_cases c : z ≤ q
    · obtain ⟨a, b⟩ := fin n n2 q f g c (by omega)
      exact ⟨1, f, g, Or.inr rfl, a, b⟩
    obtain ⟨r1, r2⟩ := ho.row
    have hp : One m k (passC 1 1 f) (oneH m g) := ho.hour hk
    have x1 : mX4_pass N 2 (sR C 2 f) (1 : Int32) = some (sR C 2 (passC 1 1 f)) := c_pass2 (t := 1) ho.1 (by decide) hN
    have x2 : mX12_oneHour N (sR E 0 g) = some (sR E 0 (oneH m g)) := by
      rw [m_oneHour (D := sR E 0 g) (m := m) (by rw [sR_s]; exact ho.2.1) hm (by omega), sR_s, sR_sR]
    have x3 := its2 (M := sR E 0 g) (k := k) (by omega)
    rw [sR_s, ← r1] at x3
    have x4 : (sR E 0 g).2 0 (40 * s + q) = C.2 s q := by
      show E.2 0 (40 * s + q) = _
      rw [y2, q6 q (by omega)]
    have x5 : mX6_at s (sR C 2 f) (nI q) = some (C.2 s q) := c_at (C := sR C 2 f) (eC f) q3 (by omega)
    rw [mX11_goesAsTold_b2, mX12_isSo_b5, if_pos (ok4 hs), es, eC, eD, if_neg (nI_ge (by omega) (by omega)), if_neg (nI_ge (by omega) (by omega)), if_neg (show ¬ (1 : Int32) = 0 by decide), if_pos (shi hs (i := q) (by omega)).1, (shi hs (i := q) (by omega)).2, x5, x3, x4, x1, x2, sR_s, nI_1]
    simp only [Option.bind_some]
    by_cases c2 : lg_cmp (C.2 s q) (f (6 + 7 * 0 + 2)).toInt64 = 0
    · rw [if_pos c2, if_pos c2]
      exact ih n n2 (q + 1) _ _ hp (by omega) (by omega) (by omega)
    · rw [if_neg c2, if_neg c2]
      obtain ⟨n2, rfl⟩ : ∃ z, n2 = z + 1 := ⟨n2 - 1, by omega⟩
      refine ⟨0, f, oneH m g, Or.inl rfl, rfl, ?_⟩
      rw [mX12_isSo_b5, if_pos (ok4 hs), es, eD, if_pos (show b01 (0 : Int32) from Or.inl rfl), if_pos (show (0 : Int32) = 0 from rfl)]
      exact ite_self _
theorem read_step {C D E : Mem} {N s k m : Nat} (hN : 300 ≤ N) (hs : s < 4) (hm : m ≤ 6) (hk : k < m) (h : Rel C D) (hc : SeaOk m (C.1 0)) (he : SeaEq m (D.1 0) (C.1 0)) (rd : D.1 0 5 = nI m) (hlk : Lk3 D E) (f : Nat → Int32) {kd rc : Nat} (hkd : kd ≤ 5) (hrc : rc ≤ 9) :
    ∃ (t : Int32) (f2 g2 : Nat → Int32), (t = 0 ∨ t = 1) ∧ mX11_goesAsTold N (sI (sI (sR C 2 (oneR f (C.1 0) (shp (C.1 0) k))) 2 (6 + 7 * 0 + 0) (nI kd)) 2 4 (nI rc)) s = some (t, sR C 2 f2) ∧ mX12_isSo N (sI (sI E 0 (6 + 7 * k + 0) (nI kd)) 0 4 (nI rc)) (nI s) (nI k) = some (t, sR E 0 g2) := by
  have eE := lk3_eq hm hlk
  have o := one_start (f := f) hc he rd hk eE
  obtain ⟨o1, o2, o3, o4⟩ := o
  have v1 : 0 ≤ nI kd ∧ nI kd ≤ 5 := ⟨nI_pos' (by omega), nI_le (b := 5) (by omega) (by decide)⟩
  have v2 : 0 ≤ nI rc ∧ nI rc ≤ 9 := ⟨nI_pos' (by omega), nI_le (b := 9) (by omega) (by decide)⟩
  have o5 : SeaOk 1 (oneR f (C.1 0) (wKind (shp (C.1 0) k) (nI kd))) := by
    obtain ⟨x1, x2⟩ := hc.2.2.2 k hk
    exact oneR_ok hc ⟨v1, x2⟩
  have o6 : One m k (upd (oneR f (C.1 0) (wKind (shp (C.1 0) k) (nI kd))) 4 (nI rc)) (upd (upd (E.1 0) (6 + 7 * k + 0) (nI kd)) 4 (nI rc)) := by
    refine ⟨seaOk_upd o5 (by decide) (by omega) (by omega) (fun _ => v2), by rw [upd_o (by decide), upd_o (by omega)]; exact o2, ?_, fun i hi => ?_⟩
    · rw [shp_upd (by decide), shp_upd (by decide), oneR_s, shp_u (w := 0) (P := wKind) putS_u0, ← eE.2 k hk, he.2 k hk]
    · by_cases e : i = 4
      · subst e; rw [upd_s, upd_s]
      · rw [upd_o e, upd_o e, upd_o (by omega), oneR_e hi]
        have := o4 i hi
        rw [oneR_e hi] at this
        exact this
  rw [sI_sR, sI_sR, sI_sR, sI_sR, sR_s, sR_sR, sR_s, sR_sR, sR_s, sR_sR, oneR_u (w := 0) (P := wKind) putS_u0]
  exact so_b hN hs hm hk h hlk 41 N N 0 _ _ o6 (by omega) (by omega) (by omega)
theorem read_b {C D : Mem} {N s k m : Nat} (hN : 300 ≤ N) (hs : s < 4) (hm : m ≤ 6) (hk : k < m) (h : Rel C D) (hc : SeaOk m (C.1 0)) (he : SeaEq m (D.1 0) (C.1 0)) (rd : D.1 0 5 = nI m) : ∀ (P n1 kd : Nat), P + kd = 5 → P < n1 → ∀ (p n n2 rc : Nat) (E : Mem) (f : Nat → Int32) (a : Int32), p + rc = 10 → p < n → 10 * P + p < n2 → Lk3 D E →
    Both (mX11_read_b54 N (mX11_read_b45 N n1) n (sR C 2 f) (nI k) s a (nI kd) (nI rc)) (mX12_read_b46 N n2 E (nI s) (nI k) a (nI (10 * kd + rc))) := by
  have inner : ∀ (P n1 kd : Nat), P + kd = 5 → (∀ (n2 : Nat) (E : Mem) (f : Nat → Int32) (a : Int32), 10 * P < n2 → Lk3 D E → Both (mX11_read_b45 N n1 (sR C 2 f) (nI k) s a (nI kd + (1 : Int32))) (mX12_read_b46 N n2 E (nI s) (nI k) a (nI (10 * kd + 10)))) → ∀ (p n n2 rc : Nat) (E : Mem) (f : Nat → Int32) (a : Int32), p + rc = 10 → p < n → 10 * P + p < n2 → Lk3 D E →
    Both (mX11_read_b54 N (mX11_read_b45 N n1) n (sR C 2 f) (nI k) s a (nI kd) (nI rc)) (mX12_read_b46 N n2 E (nI s) (nI k) a (nI (10 * kd + rc))) := by
    intro P n1 kd hP base p
    induction p with
    | zero =>
      intro n n2 rc E f a hp hn hn2 hlk
      obtain ⟨n, rfl⟩ : ∃ z, n = z + 1 := ⟨n - 1, by omega⟩
      have e : rc = 10 := by omega
      subst e
      rw [mX11_read_b54, if_pos (show (9 : Int32) < nI 10 by decide)]
      exact base n2 E f a (by omega) hlk
    | succ p ih =>
      intro n n2 rc E f a hp hn hn2 hlk
      obtain ⟨n, rfl⟩ : ∃ z, n = z + 1 := ⟨n - 1, by omega⟩
      obtain ⟨n2, rfl⟩ : ∃ z, n2 = z + 1 := ⟨n2 - 1, by omega⟩
      obtain ⟨t, f2, g2, ht, g3, g4⟩ := read_step hN hs hm hk h hc he rd hlk f (kd := kd) (rc := rc) (by omega) (by omega)
      have al := c_alone (C := sR C 2 f) (m := m) (k := k) (by rw [sR_o (by decide)]; exact hc) hk
      rw [sR_s, sR_sR, sR_o (by decide)] at al
      have d1 : nI (10 * kd + rc) / (10 : Int32) = nI kd := by
        have z : nI (10 * kd + rc) / (10 : Int32) = nI ((10 * kd + rc) / 10) := pk_div (d := 10) (by omega) (by decide) (by decide)
        rw [z]; congr 1; omega
      have d2 : nI (10 * kd + rc) - nI (10 * kd + rc) / (10 : Int32) * (10 : Int32) = nI rc := by
        have z : nI (10 * kd + rc) - nI (10 * kd + rc) / (10 : Int32) * (10 : Int32) = nI ((10 * kd + rc) % 10) := pk_rem (d := 10) (by omega) (by decide) (by decide)
        rw [z]; congr 1; omega
      obtain ⟨E2, hE2, hlk2⟩ := lk3_back hN hlk g2
      rw [mX11_read_b54, mX12_read_b46, if_neg (show ¬ (9 : Int32) < nI rc from nI_nlt (a := 9) (by omega) (by decide)), if_neg (show ¬ (60 : Int32) ≤ nI (10 * kd + rc) from nI_ge (b := 60) (by omega) (by decide)), d2, d1, al, puts0 (by omega)]
      simp only [Option.bind_some]
      rw [if_pos (show ok (nI kd) 6 from vp_in_nI (by omega) (by decide)), g3, g4]
      simp only [Option.bind_some]
      unfold mX12_read_b91
      rw [hE2, nI_1, nI_1]
      simp only [Option.bind_some]
      rcases ht with rfl | rfl
      · rw [if_pos rfl, if_pos rfl, Int32.add_zero]
        exact ih n n2 (rc + 1) E2 f2 a (by omega) (by omega) (by omega) hlk2
      · rw [if_neg (show ¬ (1 : Int32) = 0 by decide), if_neg (show ¬ (1 : Int32) = 0 by decide)]
        exact ih n n2 (rc + 1) E2 f2 _ (by omega) (by omega) (by omega) hlk2
  intro P
  induction P with
  | zero =>
    intro n1 kd hP hn1
    refine inner 0 n1 kd hP (fun n2 E f a hn2 hlk => ?_)
    obtain ⟨n1, rfl⟩ : ∃ z, n1 = z + 1 := ⟨n1 - 1, by omega⟩
    obtain ⟨n2, rfl⟩ : ∃ z, n2 = z + 1 := ⟨n2 - 1, by omega⟩
    have e : kd = 5 := by omega
    subst e
    rw [mX11_read_b45, mX12_read_b46, if_pos (by decide), if_pos (by decide)]
    exact ⟨_, _, _, rfl, rfl, lk3_rel (tr_rel h f) hlk⟩
  | succ P ihP =>
    intro n1 kd hP hn1
    refine inner (P + 1) n1 kd hP (fun n2 E f a hn2 hlk => ?_)
    obtain ⟨n1, rfl⟩ : ∃ z, n1 = z + 1 := ⟨n1 - 1, by omega⟩
    rw [mX11_read_b45, nI_1, if_neg (show ¬ (5 : Int32) < nI (kd + 1) from nI_nlt (a := 5) (by omega) (by decide))]
    exact ihP n1 (kd + 1) (by omega) (by omega) 10 N n2 0 E f a (by omega) (by omega) (by omega) hlk
theorem op_read {C D : Mem} (h : Rel C D) {N : Nat} (hN : 300 ≤ N) (a b : Int32) : Both (mX11_read N C a b) (mX12_read N D a b) := by
  obtain ⟨m, ho, hc, he, hl, rd, rc, hm⟩ := h.1.get
  unfold mX11_read mX12_read
  rcases bad2 h a with ⟨e1, e2, -⟩ | ⟨s, hs, rfl, -, ⟨-, e1, e2⟩ | ⟨-, e1, e2⟩⟩
  · rw [e1, e2, Option.bind_some, Option.bind_some, if_neg (by decide), if_neg (by decide)]
    exact bF0 h
  · rw [e1, e2, Option.bind_some, Option.bind_some, if_neg (by decide), if_neg (by decide)]
    exact bF5 h
  · rw [e1, e2, Option.bind_some, Option.bind_some, if_pos rfl, if_pos rfl, if_pos (ok4 hs), c_isShip rc, m_isOne rd hm, Option.bind_some, Option.bind_some]
    by_cases c1 : isS m b = 0
    · rw [if_pos c1, if_pos c1]; exact bF0 h
    rw [if_neg c1, if_neg c1]
    obtain ⟨k, hk, rfl⟩ := isS_1 hm c1
    obtain ⟨E, hE, hlk⟩ := lk3_start (D := D) hN
    rw [hE, show (nI s).toNatClampNeg = s from nI_clamp (by omega), Option.bind_some]
    obtain ⟨N1, rfl⟩ : ∃ z, N = z + 1 := ⟨N - 1, by omega⟩
    have z := read_b hN hs hm hk h hc he rd 5 N1 0 (by omega) (by omega) 10 (N1 + 1) (N1 + 1) 0 E (C.1 2) 0 (by omega) (by omega) (by omega) hlk
    rw [sR_self] at z
    rw [mX11_read_b45, if_neg (by decide)]
    exact z
