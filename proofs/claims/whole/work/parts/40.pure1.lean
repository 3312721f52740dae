/-! ===== PURE 1: one ship's hour, in the model and in the class ===== -/
abbrev Shp : Type := Int32 × Int32 × Int32 × Int32 × Int32 × Int32 × Int32
def sR (M : Mem) (rg : Nat) (f : Nat → Int32) : Mem := (fun r => if r = rg then f else M.1 r, M.2)
theorem sI_sR (M : Mem) (rg i : Nat) (v : Int32) : sI M rg i v = sR M rg (upd (M.1 rg) i v) := rfl
theorem sR_s (M : Mem) (rg : Nat) (f : Nat → Int32) : (sR M rg f).1 rg = f := if_pos rfl
theorem sR_o {M : Mem} {rg r : Nat} {f : Nat → Int32} (h : r ≠ rg) : (sR M rg f).1 r = M.1 r := if_neg h
theorem sR_J (M : Mem) (rg : Nat) (f : Nat → Int32) : (sR M rg f).2 = M.2 := rfl
theorem sR_sR (M : Mem) (rg : Nat) (f g : Nat → Int32) : sR (sR M rg f) rg g = sR M rg g := by
  unfold sR
  refine Prod.ext (funext fun r => ?_) rfl
  by_cases h : r = rg <;> simp [h]
theorem sR_self (M : Mem) (rg : Nat) : sR M rg (M.1 rg) = M := by
  unfold sR
  refine Prod.ext (funext fun r => ?_) rfl
  by_cases h : r = rg
  · subst h; simp
  · simp [h]
def shp (r : Nat → Int32) (k : Nat) : Shp := (r (6 + 7 * k + 0), r (6 + 7 * k + 1), r (6 + 7 * k + 2), r (6 + 7 * k + 3), r (6 + 7 * k + 4), r (6 + 7 * k + 5), r (6 + 7 * k + 6))
def putS (r : Nat → Int32) (k : Nat) (s : Shp) : Nat → Int32 := fun i => if i = 6 + 7 * k + 0 then s.1 else if i = 6 + 7 * k + 1 then s.2.1 else if i = 6 + 7 * k + 2 then s.2.2.1 else if i = 6 + 7 * k + 3 then s.2.2.2.1 else if i = 6 + 7 * k + 4 then s.2.2.2.2.1 else if i = 6 + 7 * k + 5 then s.2.2.2.2.2.1 else if i = 6 + 7 * k + 6 then s.2.2.2.2.2.2 else r i
theorem putS_shp (r : Nat → Int32) (k : Nat) : putS r k (shp r k) = r := by
  funext i
  unfold putS shp
  grind
theorem putS_g0 (r : Nat → Int32) (k : Nat) (s : Shp) : putS r k s (6 + 7 * k + 0) = s.1 := by unfold putS; grind
theorem putS_g1 (r : Nat → Int32) (k : Nat) (s : Shp) : putS r k s (6 + 7 * k + 1) = s.2.1 := by unfold putS; grind
theorem putS_g2 (r : Nat → Int32) (k : Nat) (s : Shp) : putS r k s (6 + 7 * k + 2) = s.2.2.1 := by unfold putS; grind
theorem putS_g3 (r : Nat → Int32) (k : Nat) (s : Shp) : putS r k s (6 + 7 * k + 3) = s.2.2.2.1 := by unfold putS; grind
theorem putS_g4 (r : Nat → Int32) (k : Nat) (s : Shp) : putS r k s (6 + 7 * k + 4) = s.2.2.2.2.1 := by unfold putS; grind
theorem putS_g5 (r : Nat → Int32) (k : Nat) (s : Shp) : putS r k s (6 + 7 * k + 5) = s.2.2.2.2.2.1 := by unfold putS; grind
theorem putS_g6 (r : Nat → Int32) (k : Nat) (s : Shp) : putS r k s (6 + 7 * k + 6) = s.2.2.2.2.2.2 := by unfold putS; grind
theorem shp_putS (r : Nat → Int32) (k : Nat) (s : Shp) : shp (putS r k s) k = s := by
  unfold shp
  rw [putS_g0, putS_g1, putS_g2, putS_g3, putS_g4, putS_g5, putS_g6]
theorem putS_out {r : Nat → Int32} {k : Nat} {s : Shp} {i : Nat} (h : i < 6 + 7 * k ∨ 6 + 7 * k + 7 ≤ i) : putS r k s i = r i := by unfold putS; grind
theorem shp_putS_o {r : Nat → Int32} {k q : Nat} {s : Shp} (h : q ≠ k) : shp (putS r k s) q = shp r q := by
  unfold shp
  rw [putS_out, putS_out, putS_out, putS_out, putS_out, putS_out, putS_out] <;> omega
theorem putS_u0 (r : Nat → Int32) (k : Nat) (s : Shp) (v : Int32) : upd (putS r k s) (6 + 7 * k + 0) v = putS r k (v, s.2) := by funext i; unfold upd putS; grind
theorem putS_u1 (r : Nat → Int32) (k : Nat) (s : Shp) (v : Int32) : upd (putS r k s) (6 + 7 * k + 1) v = putS r k (s.1, v, s.2.2) := by funext i; unfold upd putS; grind
theorem putS_u2 (r : Nat → Int32) (k : Nat) (s : Shp) (v : Int32) : upd (putS r k s) (6 + 7 * k + 2) v = putS r k (s.1, s.2.1, v, s.2.2.2) := by funext i; unfold upd putS; grind
theorem putS_u3 (r : Nat → Int32) (k : Nat) (s : Shp) (v : Int32) : upd (putS r k s) (6 + 7 * k + 3) v = putS r k (s.1, s.2.1, s.2.2.1, v, s.2.2.2.2) := by funext i; unfold upd putS; grind
theorem putS_u4 (r : Nat → Int32) (k : Nat) (s : Shp) (v : Int32) : upd (putS r k s) (6 + 7 * k + 4) v = putS r k (s.1, s.2.1, s.2.2.1, s.2.2.2.1, v, s.2.2.2.2.2) := by funext i; unfold upd putS; grind
theorem putS_u5 (r : Nat → Int32) (k : Nat) (s : Shp) (v : Int32) : upd (putS r k s) (6 + 7 * k + 5) v = putS r k (s.1, s.2.1, s.2.2.1, s.2.2.2.1, s.2.2.2.2.1, v, s.2.2.2.2.2.2) := by funext i; unfold upd putS; grind
theorem putS_u6 (r : Nat → Int32) (k : Nat) (s : Shp) (v : Int32) : upd (putS r k s) (6 + 7 * k + 6) v = putS r k (s.1, s.2.1, s.2.2.1, s.2.2.2.1, s.2.2.2.2.1, s.2.2.2.2.2.1, v) := by funext i; unfold upd putS; grind
/-- memory M whose region j is r with ship k as s -/
def md (M : Mem) (j : Nat) (r : Nat → Int32) (k : Nat) (s : Shp) : Mem := sR M j (putS r k s)
theorem md_self (M : Mem) (j k : Nat) : md M j (M.1 j) k (shp (M.1 j) k) = M := by unfold md; rw [putS_shp, sR_self]
theorem md_r (M : Mem) (j : Nat) (r : Nat → Int32) (k : Nat) (s : Shp) : (md M j r k s).1 j = putS r k s := sR_s _ _ _
section MD
variable (M : Mem) (j : Nat) (r : Nat → Int32) (k : Nat) (s : Shp) (v : Int32)
theorem md_g0 : (md M j r k s).1 j (6 + 7 * k + 0) = s.1 := by rw [md_r, putS_g0]
theorem md_g1 : (md M j r k s).1 j (6 + 7 * k + 1) = s.2.1 := by rw [md_r, putS_g1]
theorem md_g2 : (md M j r k s).1 j (6 + 7 * k + 2) = s.2.2.1 := by rw [md_r, putS_g2]
theorem md_g3 : (md M j r k s).1 j (6 + 7 * k + 3) = s.2.2.2.1 := by rw [md_r, putS_g3]
theorem md_g4 : (md M j r k s).1 j (6 + 7 * k + 4) = s.2.2.2.2.1 := by rw [md_r, putS_g4]
theorem md_g5 : (md M j r k s).1 j (6 + 7 * k + 5) = s.2.2.2.2.2.1 := by rw [md_r, putS_g5]
theorem md_g6 : (md M j r k s).1 j (6 + 7 * k + 6) = s.2.2.2.2.2.2 := by rw [md_r, putS_g6]
theorem md_e0 : (md M j r k s).1 j 0 = r 0 := by rw [md_r, putS_out (by omega)]
theorem md_e1 : (md M j r k s).1 j 1 = r 1 := by rw [md_r, putS_out (by omega)]
theorem md_e2 : (md M j r k s).1 j 2 = r 2 := by rw [md_r, putS_out (by omega)]
theorem md_e3 : (md M j r k s).1 j 3 = r 3 := by rw [md_r, putS_out (by omega)]
theorem md_e4 : (md M j r k s).1 j 4 = r 4 := by rw [md_r, putS_out (by omega)]
theorem md_e5 : (md M j r k s).1 j 5 = r 5 := by rw [md_r, putS_out (by omega)]
theorem md_s0 : sI (md M j r k s) j (6 + 7 * k + 0) v = md M j r k (v, s.2) := by rw [sI_sR, md_r, putS_u0]; unfold md; rw [sR_sR]
theorem md_s1 : sI (md M j r k s) j (6 + 7 * k + 1) v = md M j r k (s.1, v, s.2.2) := by rw [sI_sR, md_r, putS_u1]; unfold md; rw [sR_sR]
theorem md_s2 : sI (md M j r k s) j (6 + 7 * k + 2) v = md M j r k (s.1, s.2.1, v, s.2.2.2) := by rw [sI_sR, md_r, putS_u2]; unfold md; rw [sR_sR]
theorem md_s3 : sI (md M j r k s) j (6 + 7 * k + 3) v = md M j r k (s.1, s.2.1, s.2.2.1, v, s.2.2.2.2) := by rw [sI_sR, md_r, putS_u3]; unfold md; rw [sR_sR]
theorem md_s4 : sI (md M j r k s) j (6 + 7 * k + 4) v = md M j r k (s.1, s.2.1, s.2.2.1, s.2.2.2.1, v, s.2.2.2.2.2) := by rw [sI_sR, md_r, putS_u4]; unfold md; rw [sR_sR]
theorem md_s5 : sI (md M j r k s) j (6 + 7 * k + 5) v = md M j r k (s.1, s.2.1, s.2.2.1, s.2.2.2.1, s.2.2.2.2.1, v, s.2.2.2.2.2.2) := by rw [sI_sR, md_r, putS_u5]; unfold md; rw [sR_sR]
theorem md_s6 : sI (md M j r k s) j (6 + 7 * k + 6) v = md M j r k (s.1, s.2.1, s.2.2.1, s.2.2.2.1, s.2.2.2.2.1, s.2.2.2.2.2.1, v) := by rw [sI_sR, md_r, putS_u6]; unfold md; rw [sR_sR]
end MD
/-! what an hour is -/
def hodS (h : Int32) : Int32 := h - h / (12 : Int32) * (12 : Int32)
def nightS (hd : Int32) : Int32 := if hd < (6 : Int32) then 0 else 1
def burnS (lamp hd : Int32) : Int32 := if ((lamp >>> (hd &&& 31)) &&& (1 : Int32)) = (1 : Int32) then 1 else 0
def apS (a b : Int32) : Int32 := if a ≤ b then b - a else a - b
def dS (tc tr c r : Int32) : Int32 := if apS c tc ≤ apS r tr then apS r tr else apS c tc
def seesS (x d n b R : Int32) : Int32 := (if x = (1 : Int32) then (if d = (1 : Int32) then 1 else (if n = 0 then (if (3 : Int32) < d then 0 else 1) else (if b = 0 then 0 else (if R < d then 0 else 1)))) else (if x = (2 : Int32) then (if n = 0 then (if (3 : Int32) < d then 0 else 1) else (if (2 : Int32) < d then 0 else 1)) else (if x = (3 : Int32) then 0 else (if x = (4 : Int32) then (if d = (1 : Int32) then 1 else (if n = 0 then (if (3 : Int32) < d then 0 else 1) else (if b = 0 then 0 else (if (R + (2 : Int32)) < d then 0 else 1)))) else (if x = (5 : Int32) then (if n = 0 then 1 else (if (2 : Int32) < d then 0 else 1)) else (if n = 0 then (if (3 : Int32) < d then 0 else 1) else (if b = 0 then 0 else (if R < d then 0 else 1))))))))
def speedS (x hd n : Int32) : Int32 := (if x = (1 : Int32) then 2 else (if x = (2 : Int32) then 1 else (if x = (3 : Int32) then (if (hd - hd / (2 : Int32) * (2 : Int32)) = 0 then 1 else 0) else (if x = (4 : Int32) then 3 else (if x = (5 : Int32) then (if n = 0 then 2 else 1) else 1)))))
def keepS (x d : Int32) : Int32 := (if x = (2 : Int32) then 2 else (if x = (3 : Int32) then 0 else (if x = (4 : Int32) then (if d ≤ (3 : Int32) then 1 else 0) else (if x = (5 : Int32) then (-1 : Int32) else 1))))
def standS (x d n c : Int32) : Int32 := if (x = (1 : Int32) ∨ (x = (4 : Int32) ∧ ¬ (5 : Int32) ≤ c)) ∧ ¬ n = 0 ∧ d = (1 : Int32) then 1 else 0
def heldS (v lo hi : Int32) : Int32 := if lo ≤ v then (if v ≤ hi then v else hi) else lo
def costS (c : Int32) : Int32 := heldS (c + (1 : Int32)) 0 (9999 : Int32)
/-- it pays -/
def payS (s : Shp) : Shp := (s.1, s.2.1, s.2.2.1, costS s.2.2.2.1, s.2.2.2.2)
def turnS (tr v : Int32) (s : Shp) : Shp :=
  let r2 := if tr < s.2.2.1 then heldS (s.2.2.1 + v) tr (9 : Int32) else heldS (s.2.2.1 - v) 0 tr
  if r2 = s.2.2.1 then (s.1, s.2.1, r2, s.2.2.2) else payS (s.1, s.2.1, r2, s.2.2.2)
def stepS (tc tr : Int32) (s : Shp) : Shp :=
  if s.2.1 + (1 : Int32) = (20 : Int32) then (s.1, s.2.1 + (1 : Int32), s.2.2.1, s.2.2.2.1, s.2.2.2.2.1, s.2.2.2.2.2.1, 1)
  else (s.1, s.2.1 + (1 : Int32), s.2.2.1, s.2.2.2.1, (if s.2.2.2.2.1 ≤ dS tc tr (s.2.1 + (1 : Int32)) s.2.2.1 then s.2.2.2.2.1 else dS tc tr (s.2.1 + (1 : Int32)) s.2.2.1), (if dS tc tr (s.2.1 + (1 : Int32)) s.2.2.1 = 0 then 1 else 0), s.2.2.2.2.2.2)
def goS (tc tr : Int32) : Nat → Shp → Shp
  | 0, s => s
  | n + 1, s => if s.2.2.2.2.2.1 + s.2.2.2.2.2.2 = 0 then goS tc tr n (stepS tc tr s) else s
/-- one hour of one ship (e: tower's column and row, lamp, reach; hd: the hour of the day) -/
def hourS (tc tr lamp R hd : Int32) (s : Shp) : Shp :=
  let d := dS tc tr s.2.1 s.2.2.1
  if ¬ seesS s.1 d (nightS hd) (burnS lamp hd) R = 0 ∧ ¬ tc < s.2.1 then
    (if ¬ standS s.1 d (nightS hd) s.2.2.2.1 = 0 then payS s else goS tc tr (speedS s.1 hd (nightS hd)).toNatClampNeg (turnS tr (keepS s.1 d) s))
  else goS tc tr (speedS s.1 hd (nightS hd)).toNatClampNeg s
/-! the model -/
theorem its_i {k w : Nat} (hk : k < 6) (hw : w < 7) : ok (((6 : Int32) + ((7 : Int32) * nI k)) + nI w) 48 ∧ (((6 : Int32) + ((7 : Int32) * nI k)) + nI w).toNatClampNeg = 6 + 7 * k + w := by
  have e : ((6 : Int32) + ((7 : Int32) * nI k)) + nI w = nI (6 + 7 * k + w) := by
    show (nI 6 + nI 7 * nI k) + nI w = _
    rw [pk_mul, nI_add, nI_add]
  rw [e]
  exact ⟨vp_in_nI (by omega) (by decide), nI_clamp (by omega)⟩
theorem its_eq {M : Mem} {k w : Nat} (hk : k < 6) (hw : w < 7) : mX12_its M (nI k) (nI w) = some (M.1 0 (6 + 7 * k + w)) := by
  unfold mX12_its
  rw [if_pos (its_i hk hw).1, (its_i hk hw).2]
theorem puts_eq {M : Mem} {k w : Nat} {v : Int32} (hk : k < 6) (hw : w < 7) : mX12_puts M (nI k) (nI w) v = some (sI M 0 (6 + 7 * k + w) v) := by
  unfold mX12_puts
  rw [if_pos (its_i hk hw).1, (its_i hk hw).2]
section MODEL1
variable {M : Mem} {k : Nat} {v : Int32}
theorem its0 (hk : k < 6) : mX12_its M (nI k) (0 : Int32) = some (M.1 0 (6 + 7 * k + 0)) := its_eq hk (w := 0) (by decide)
theorem its1 (hk : k < 6) : mX12_its M (nI k) (1 : Int32) = some (M.1 0 (6 + 7 * k + 1)) := its_eq hk (w := 1) (by decide)
theorem its2 (hk : k < 6) : mX12_its M (nI k) (2 : Int32) = some (M.1 0 (6 + 7 * k + 2)) := its_eq hk (w := 2) (by decide)
theorem its3 (hk : k < 6) : mX12_its M (nI k) (3 : Int32) = some (M.1 0 (6 + 7 * k + 3)) := its_eq hk (w := 3) (by decide)
theorem its4 (hk : k < 6) : mX12_its M (nI k) (4 : Int32) = some (M.1 0 (6 + 7 * k + 4)) := its_eq hk (w := 4) (by decide)
theorem its5 (hk : k < 6) : mX12_its M (nI k) (5 : Int32) = some (M.1 0 (6 + 7 * k + 5)) := its_eq hk (w := 5) (by decide)
theorem its6 (hk : k < 6) : mX12_its M (nI k) (6 : Int32) = some (M.1 0 (6 + 7 * k + 6)) := its_eq hk (w := 6) (by decide)
theorem puts0 (hk : k < 6) : mX12_puts M (nI k) (0 : Int32) v = some (sI M 0 (6 + 7 * k + 0) v) := puts_eq hk (w := 0) (by decide)
theorem puts1 (hk : k < 6) : mX12_puts M (nI k) (1 : Int32) v = some (sI M 0 (6 + 7 * k + 1) v) := puts_eq hk (w := 1) (by decide)
theorem puts2 (hk : k < 6) : mX12_puts M (nI k) (2 : Int32) v = some (sI M 0 (6 + 7 * k + 2) v) := puts_eq hk (w := 2) (by decide)
theorem puts3 (hk : k < 6) : mX12_puts M (nI k) (3 : Int32) v = some (sI M 0 (6 + 7 * k + 3) v) := puts_eq hk (w := 3) (by decide)
theorem puts4 (hk : k < 6) : mX12_puts M (nI k) (4 : Int32) v = some (sI M 0 (6 + 7 * k + 4) v) := puts_eq hk (w := 4) (by decide)
theorem puts5 (hk : k < 6) : mX12_puts M (nI k) (5 : Int32) v = some (sI M 0 (6 + 7 * k + 5) v) := puts_eq hk (w := 5) (by decide)
theorem puts6 (hk : k < 6) : mX12_puts M (nI k) (6 : Int32) v = some (sI M 0 (6 + 7 * k + 6) v) := puts_eq hk (w := 6) (by decide)
end MODEL1
theorem if_some {c : Prop} [Decidable c] {α : Type} {a b : α} : (if c then some a else some b) = some (if c then a else b) := by split <;> rfl
theorem m_night (M : Mem) : mX12_isNight M = some (nightS (hodS (M.1 0 0))) := by unfold mX12_isNight nightS hodS; exact if_some
theorem m_burn (M : Mem) : mX12_isBurning M = some (burnS (M.1 0 3) (hodS (M.1 0 0))) := by unfold mX12_isBurning burnS hodS; exact if_some
theorem m_apart (a b : Int32) : mX12_apart a b = some (apS a b) := by unfold mX12_apart apS; exact if_some
theorem m_held (v a b : Int32) : mX12_held v a b = some (heldS v a b) := by unfold mX12_held heldS; rw [if_some, if_some]
theorem m_dist {M : Mem} {k : Nat} (hk : k < 6) : mX12_distance M (nI k) = some (dS (M.1 0 1) (M.1 0 2) (M.1 0 (6 + 7 * k + 1)) (M.1 0 (6 + 7 * k + 2))) := by
  unfold mX12_distance dS
  simp only [its1 hk, its2 hk, m_apart, Option.bind_some, if_some]
theorem m_sees {M : Mem} {k : Nat} (hk : k < 6) : mX12_isSeeing M (nI k) = some (seesS (M.1 0 (6 + 7 * k + 0)) (dS (M.1 0 1) (M.1 0 2) (M.1 0 (6 + 7 * k + 1)) (M.1 0 (6 + 7 * k + 2))) (nightS (hodS (M.1 0 0))) (burnS (M.1 0 3) (hodS (M.1 0 0))) (M.1 0 4)) := by
  unfold mX12_isSeeing seesS
  simp only [m_dist hk, m_night, m_burn, its0 hk, Option.bind_some, if_some]
theorem m_speed {M : Mem} {k : Nat} (hk : k < 6) : mX12_speed M (nI k) = some (speedS (M.1 0 (6 + 7 * k + 0)) (hodS (M.1 0 0)) (nightS (hodS (M.1 0 0)))) := by
  unfold mX12_speed speedS
  simp only [m_night, its0 hk, Option.bind_some, if_some]
  rfl
theorem m_keep {M : Mem} {k : Nat} (hk : k < 6) : mX12_keepsOff M (nI k) = some (keepS (M.1 0 (6 + 7 * k + 0)) (dS (M.1 0 1) (M.1 0 2) (M.1 0 (6 + 7 * k + 1)) (M.1 0 (6 + 7 * k + 2)))) := by
  unfold mX12_keepsOff keepS
  simp only [m_dist hk, its0 hk, Option.bind_some, if_some]
theorem m_stand {M : Mem} {k : Nat} (hk : k < 6) : mX12_isStanding M (nI k) = some (standS (M.1 0 (6 + 7 * k + 0)) (dS (M.1 0 1) (M.1 0 2) (M.1 0 (6 + 7 * k + 1)) (M.1 0 (6 + 7 * k + 2))) (nightS (hodS (M.1 0 0))) (M.1 0 (6 + 7 * k + 3))) := by
  unfold mX12_isStanding mX12_isStanding_b27 mX12_isStanding_b31 mX12_isStanding_b32 standS
  simp only [m_dist hk, m_night, its0 hk, its3 hk, Option.bind_some, if_some]
  grind
section MODEL2
variable {D : Mem} {r : Nat → Int32} {k : Nat} {s : Shp}
theorem m_costs (hk : k < 6) : mX12_costs (md D 0 r k s) (nI k) = some (md D 0 r k (payS s)) := by
  unfold mX12_costs
  simp only [its3 hk, puts3 hk, m_held, Option.bind_some, md_g3, md_s3]
  rfl
theorem m_turns (hk : k < 6) : mX12_turnsOff (md D 0 r k s) (nI k) = some (md D 0 r k (turnS (r 2) (keepS s.1 (dS (r 1) (r 2) s.2.1 s.2.2.1)) s)) := by
  unfold mX12_turnsOff mX12_turnsOff_b52
  simp only [m_keep hk, its2 hk, puts2 hk, m_held, Option.bind_some, md_g0, md_g1, md_g2, md_e1, md_e2, md_s2, m_costs hk]
  unfold turnS
  dsimp only
  split <;> split <;> simp_all
theorem m_goes (hk : k < 6) (N : Nat) : ∀ (p n : Nat) (s : Shp), p < n → p ≤ 3 → mX12_goesOn_b6 N n (md D 0 r k s) (nI k) (nI p) = some (md D 0 r k (goS (r 1) (r 2) p s)) := by
  intro p
  induction p with
  | zero =>
    intro n s hn _
    obtain ⟨n, rfl⟩ : ∃ q, n = q + 1 := ⟨n - 1, by omega⟩
    rw [mX12_goesOn_b6, if_pos (by decide)]
    rfl
  | succ p ih =>
    intro n s hn hp
    obtain ⟨n, rfl⟩ : ∃ q, n = q + 1 := ⟨n - 1, by omega⟩
    rw [mX12_goesOn_b6, if_neg (nI_nle (by omega) (by omega))]
    unfold mX12_goesOn_b92
    simp only [its5 hk, its6 hk, its1 hk, its4 hk, puts1 hk, puts4 hk, puts5 hk, puts6 hk, m_dist hk, Option.bind_some, md_g1, md_g2, md_g4, md_g5, md_g6, md_e1, md_e2, md_s1, md_s4, md_s5, md_s6, pk_m1]
    rw [goS]
    by_cases c1 : s.2.2.2.2.2.1 + s.2.2.2.2.2.2 = 0
    · rw [if_pos c1, if_pos c1]
      unfold stepS
      by_cases c2 : s.2.1 + (1 : Int32) = (20 : Int32)
      · rw [if_pos c2, if_pos c2]
        exact ih n _ (by omega) (by omega)
      · rw [if_neg c2, if_neg c2]
        by_cases c3 : s.2.2.2.2.1 ≤ dS (r 1) (r 2) (s.2.1 + (1 : Int32)) s.2.2.1
        · rw [if_pos c3, if_pos c3]
          by_cases c4 : dS (r 1) (r 2) (s.2.1 + (1 : Int32)) s.2.2.1 = 0
          · rw [if_pos c4, if_pos c4]; exact ih n _ (by omega) (by omega)
          · rw [if_neg c4, if_neg c4]; exact ih n _ (by omega) (by omega)
        · rw [if_neg c3, if_neg c3]
          by_cases c4 : dS (r 1) (r 2) (s.2.1 + (1 : Int32)) s.2.2.1 = 0
          · rw [if_pos c4, if_pos c4]; exact ih n _ (by omega) (by omega)
          · rw [if_neg c4, if_neg c4]; exact ih n _ (by omega) (by omega)
    · rw [if_neg c1, if_neg c1]
theorem speedS_nI (x hd n : Int32) : ∃ p : Nat, p ≤ 3 ∧ speedS x hd n = nI p := by
  unfold speedS
  split
  · exact ⟨2, by omega, rfl⟩
  split
  · exact ⟨1, by omega, rfl⟩
  split
  · split
    · exact ⟨1, by omega, rfl⟩
    · exact ⟨0, by omega, rfl⟩
  split
  · exact ⟨3, by omega, rfl⟩
  split
  · split
    · exact ⟨2, by omega, rfl⟩
    · exact ⟨1, by omega, rfl⟩
  · exact ⟨1, by omega, rfl⟩
theorem m_goesOn (hk : k < 6) {N : Nat} (hN : 4 ≤ N) : mX12_goesOn N (md D 0 r k s) (nI k) = some (md D 0 r k (goS (r 1) (r 2) (speedS s.1 (hodS (r 0)) (nightS (hodS (r 0)))).toNatClampNeg s)) := by
  unfold mX12_goesOn
  simp only [m_speed hk, Option.bind_some, md_g0, md_e0]
  obtain ⟨p, hp, e⟩ := speedS_nI s.1 (hodS (r 0)) (nightS (hodS (r 0)))
  rw [e, nI_clamp (by omega)]
  exact m_goes hk N p N s (by omega) hp
theorem turnS_kind (tr v : Int32) (s : Shp) : (turnS tr v s).1 = s.1 := by unfold turnS payS; dsimp only; split <;> split <;> rfl
theorem m_sails (hk : k < 6) {N : Nat} (hN : 4 ≤ N) : mX12_sails N (md D 0 r k s) (nI k) = some (md D 0 r k (hourS (r 1) (r 2) (r 3) (r 4) (hodS (r 0)) s)) := by
  unfold mX12_sails mX12_sails_b27 mX12_sails_b28 mX12_sails_b47 hourS
  simp only [m_sees hk, m_stand hk, m_turns hk, m_costs hk, m_goesOn hk hN, its1 hk, Option.bind_some, md_g0, md_g1, md_g2, md_g3, md_e0, md_e1, md_e2, md_e3, md_e4, turnS_kind]
  grind
end MODEL2
