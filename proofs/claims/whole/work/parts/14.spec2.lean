/-! SPEC: the answers -/
def inR (lo hi x : Int32) : Prop := lo ≤ x ∧ x ≤ hi
def isC (n : Nat) (x : Int32) : Prop := 0 ≤ x ∧ x < nI n
theorem isC_iff {n : Nat} (hn : n < 2147483648) {x : Int32} : (0 ≤ x ∧ x < nI n) ↔ ∃ j, j < n ∧ x = nI j := by
  constructor
  · rintro ⟨h1, h2⟩
    obtain ⟨j, hj, rfl⟩ := nI_of (Int32.not_lt.mpr h1)
    rw [nI_lt' hj hn] at h2
    exact ⟨j, h2, rfl⟩
  · rintro ⟨j, hj, rfl⟩
    exact ⟨nI_pos' (by omega), (nI_lt' (by omega) hn).mpr hj⟩
theorem inN_iff {x : Int32} (n : Nat) (hn : n < 2147483648) : (0 ≤ x ∧ x ≤ nI n) ↔ ∃ j, j ≤ n ∧ x = nI j := by
  constructor
  · rintro ⟨h1, h2⟩
    obtain ⟨j, hj, rfl⟩ := nI_of (Int32.not_lt.mpr h1)
    rw [nI_le' hj hn] at h2
    exact ⟨j, h2, rfl⟩
  · rintro ⟨j, hj, rfl⟩
    exact ⟨nI_pos' (by omega), (nI_le' (by omega) hn).mpr hj⟩
/-- a guarded answer: b if the guard fails -/
def atS (r : Rg) (w : Nat) : Int32 := if w = 0 then nI (gw r) else if w = 1 then nI (gq r) else if w = 2 then nI (ga r) else if w = 3 then bI (gl r = true) else nI (gi r)
def plS (r : Rg) (w : Nat) : Int32 := if w = 0 then gx r else if w = 1 then gy r else if w = 2 then lgx r else lgy r
def atA (W : Wo) (d k w : Int32) : Int32 := if (0 ≤ d ∧ d ≤ 19) ∧ (0 ≤ k ∧ k < nI (wn W)) ∧ (0 ≤ w ∧ w ≤ 4) then atS (rr W allE k.toNatClampNeg d.toNatClampNeg) w.toNatClampNeg else -2
def plA (W : Wo) (d k w : Int32) : Int32 := if (0 ≤ d ∧ d ≤ 19) ∧ (0 ≤ k ∧ k < nI (wn W)) ∧ (0 ≤ w ∧ w ≤ 3) then plS (rr W allE k.toNatClampNeg d.toNatClampNeg) w.toNatClampNeg else -2147483648
def arA (W : Wo) (d a b : Int32) : Int32 := if (0 ≤ d ∧ d ≤ 19) ∧ (0 ≤ a ∧ a < nI (wn W)) ∧ (0 ≤ b ∧ b < nI (wn W)) ∧ ¬ a = b then nI (areS (rr W allE a.toNatClampNeg d.toNatClampNeg) (rr W allE b.toNatClampNeg d.toNatClampNeg)) else -2
def prA (W : Wo) (d w : Int32) : Int32 := if (0 ≤ d ∧ d ≤ 19) ∧ (0 ≤ w ∧ w ≤ 1) then nI (prS (wn W) (fun k => rr W allE k d.toNatClampNeg) w.toNatClampNeg) else -2
def clA (W : Wo) (d : Int32) : Int32 := if 0 ≤ d ∧ d ≤ 19 then clS (wn W) (fun k => rr W allE k d.toNatClampNeg) else -2
/-- the first i below n with P, or n -/
def fst1 (P : Nat → Bool) (n : Nat) : Nat := lp (fun i => !P i) n
theorem fst1_eq {P : Nat → Bool} {n i : Nat} (h : i ≤ n) (h1 : ∀ j, j < i → P j = false) (h2 : i = n ∨ P i = true) : fst1 P n = i := by
  refine lp_eq h (fun j hj => by simp [h1 j hj]) ?_
  rcases h2 with z | z
  · exact Or.inl z
  · exact Or.inr (by simp [z])
def hSame (R : Nat → Nat → Rg) (p q : Nat) : Bool := decide (gx (R (q % 8) (q / 8)) = gx (R (p % 8) (p / 8))) && decide (gy (R (q % 8) (q / 8)) = gy (R (p % 8) (p / 8)))
def hNew (n : Nat) (R : Nat → Nat → Rg) (p : Nat) : Bool := decide (∀ q, q < p → ¬ (q % 8 < n ∧ hSame R p q = true))
def hoS (n : Nat) (R : Nat → Nat → Rg) : Nat := ct (fun p => decide (p % 8 < n) && hNew n R p) 160
def rgS (R : Nat → Nat → Rg) (k : Nat) : Int32 := if fst1 (fun d => decide (ga (R k d) = 4)) 20 < 20 then nI (fst1 (fun d => decide (ga (R k d) = 4)) 20) else -1
def rgA (W : Wo) (k : Int32) : Int32 := if 0 ≤ k ∧ k < nI (wn W) then rgS (rr W allE) k.toNatClampNeg else -2
def sameL (a b : Rg) : Bool := decide (lgx a = lgx b) && decide (lgy a = lgy b)
def meB (n : Nat) (R : Nat → Nat → Rg) (d a : Nat) : Nat := fst1 (fun b => decide (a < b) && sameL (R a d) (R b d)) n
def meA (n : Nat) (R : Nat → Nat → Rg) (d : Nat) : Nat := fst1 (fun a => decide (meB n R d a < n)) n
def meD (n : Nat) (R : Nat → Nat → Rg) : Nat := fst1 (fun d => decide (meA n R d < n)) 20
def meS (n : Nat) (R : Nat → Nat → Rg) (w : Nat) : Int32 := if meD n R < 20 then (if w = 0 then nI (meD n R) else if w = 1 then nI (meA n R (meD n R)) else nI (meB n R (meD n R) (meA n R (meD n R)))) else -1
def meAns (W : Wo) (w : Int32) : Int32 := if 0 ≤ w ∧ w ≤ 2 then meS (wn W) (rr W allE) w.toNatClampNeg else -2
theorem areS_le (a b : Rg) : areS a b ≤ 5 := by
  unfold areS
  dsimp only
  repeat' split
  all_goals omega
