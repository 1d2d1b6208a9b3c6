/-! SPEC: plans -/
def setC (W : Wo) (f k x : Nat) : Wo := (fun f' k' => if f' = f ∧ k' = k then x else wc W f' k', wn W, we W, wm W)
theorem setC_ok {W : Wo} {f k x : Nat} (h : okW W) (hx : x ≤ 9) (h3 : f = 3 → x ≤ 2) : okW (setC W f k x) := by
  refine ⟨h.1, h.2.1, fun j hj => ?_, h.2.2.2⟩
  obtain ⟨a, b, c, d⟩ := h.2.2.1 j hj
  refine ⟨?_, ?_, ?_, ?_⟩
  · show (if 0 = f ∧ j = k then x else wc W 0 j) ≤ 9
    split <;> omega
  · show (if 1 = f ∧ j = k then x else wc W 1 j) ≤ 9
    split <;> omega
  · show (if 2 = f ∧ j = k then x else wc W 2 j) ≤ 9
    split <;> omega
  · show (if 3 = f ∧ j = k then x else wc W 3 j) ≤ 2
    split
    · rename_i z; exact h3 z.1.symm
    · exact d
theorem setC_setC {W : Wo} {f k x y : Nat} : setC (setC W f k x) f k y = setC W f k y := by
  unfold setC
  congr 1
  funext f' k'
  show (if f' = f ∧ k' = k then y else (if f' = f ∧ k' = k then x else wc W f' k')) = _
  split <;> rfl
theorem setC_comm {W : Wo} {f g k x y : Nat} (h : f ≠ g) : setC (setC W f k x) g k y = setC (setC W g k y) f k x := by
  unfold setC
  congr 1
  funext f' k'
  show (if f' = g ∧ k' = k then y else (if f' = f ∧ k' = k then x else wc W f' k')) = (if f' = f ∧ k' = k then x else (if f' = g ∧ k' = k then y else wc W f' k'))
  by_cases a : f' = g ∧ k' = k
  · rw [if_pos a, if_neg (fun z => h (z.1.symm.trans a.1)), if_pos a]
  · rw [if_neg a, if_neg a]
theorem setC_self {W : Wo} {f k : Nat} : setC W f k (wc W f k) = W := by
  unfold setC
  obtain ⟨c, n, e, m⟩ := W
  show ((fun f' k' => if f' = f ∧ k' = k then c f k else c f' k'), n, e, m) = _
  congr 1
  funext f' k'
  split
  · rename_i z; rw [z.1, z.2]
  · rfl
/-- the best of f 0 .. f n, of like ones the first -/
def arg (lt : Nat → Nat → Bool) (f : Nat → Nat) : Nat → Nat × Nat
  | 0 => (0, f 0)
  | n + 1 => if lt (f (n + 1)) (arg lt f n).2 = true then (n + 1, f (n + 1)) else arg lt f n
theorem arg_le (lt : Nat → Nat → Bool) (f : Nat → Nat) : ∀ n, (arg lt f n).1 ≤ n
  | 0 => Nat.le_refl 0
  | n + 1 => by
    unfold arg
    split
    · exact Nat.le_refl _
    · have := arg_le lt f n; omega
theorem arg_b {lt : Nat → Nat → Bool} {f : Nat → Nat} {b : Nat} : ∀ {n : Nat}, (∀ i, i ≤ n → f i ≤ b) → (arg lt f n).2 ≤ b
  | 0, h => h 0 (Nat.le_refl _)
  | n + 1, h => by
    unfold arg
    split
    · exact h (n + 1) (Nat.le_refl _)
    · exact arg_b (fun i hi => h i (by omega))
theorem arg_congr {lt : Nat → Nat → Bool} {f g : Nat → Nat} : ∀ {n : Nat}, (∀ i, i ≤ n → f i = g i) → arg lt f n = arg lt g n
  | 0, h => by unfold arg; rw [h 0 (Nat.le_refl _)]
  | n + 1, h => by
    unfold arg
    rw [arg_congr (n := n) (fun i hi => h i (by omega)), h (n + 1) (Nat.le_refl _)]
def ltB (a b : Nat) : Bool := decide (a < b)
def gtB (a b : Nat) : Bool := decide (b < a)
def relS (cross : Bool) (a : Nat) : Bool := if cross = true then decide (a = 2) else (decide (a = 1) || decide (a = 3))
def otS (n : Nat) (R : Nat → Rg) (k : Nat) (cross : Bool) : Nat := ct (fun i => decide (¬ i = k) && relS cross (areS (R k) (R i))) n
def opF (W : Wo) (k d v : Nat) : Nat := otS (wn W) (fun i => rr (setC W 2 k v) allE i d) k true
def opA (W : Wo) (k d w : Int32) : Int32 := if (0 ≤ k ∧ k < nI (wn W)) ∧ (0 ≤ d ∧ d ≤ 19) ∧ (0 ≤ w ∧ w ≤ 1) then (if w = 0 then nI (arg ltB (opF W k.toNatClampNeg d.toNatClampNeg) 9).1 else nI (arg ltB (opF W k.toNatClampNeg d.toNatClampNeg) 9).2) else -2
def sdF (W : Wo) (k d c : Nat) : Nat := otS (wn W) (fun i => rr (setC (setC W 0 k (c / 10)) 1 k (c % 10)) allE i d) k false
def sdA (W : Wo) (k d w : Int32) : Int32 := if (0 ≤ k ∧ k < nI (wn W)) ∧ (0 ≤ d ∧ d ≤ 19) ∧ (0 ≤ w ∧ w ≤ 2) then (if w = 0 then nI ((arg gtB (sdF W k.toNatClampNeg d.toNatClampNeg) 99).1 / 10) else if w = 1 then nI ((arg gtB (sdF W k.toNatClampNeg d.toNatClampNeg) 99).1 % 10) else nI (arg gtB (sdF W k.toNatClampNeg d.toNatClampNeg) 99).2) else -2
