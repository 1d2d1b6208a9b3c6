/-! THE REFERENCE: what was seen: never, was, ask -/
/-- sightings: days, whose, x, y, how many -/
abbrev Sn : Type := (Nat → Nat) × (Nat → Nat) × (Nat → Int32) × (Nat → Int32) × Nat
abbrev sd (S : Sn) : Nat → Nat := S.1
abbrev sh (S : Sn) : Nat → Nat := S.2.1
abbrev sx (S : Sn) : Nat → Int32 := S.2.2.1
abbrev sy (S : Sn) : Nat → Int32 := S.2.2.2.1
abbrev sc (S : Sn) : Nat := S.2.2.2.2
def okS (S : Sn) : Prop := sc S ≤ 8 ∧ ∀ i, i < sc S → sd S i < 20 ∧ sh S i < 8
def senP (W : Wo) (msk : Nat → Bool) (S : Sn) (i : Nat) : Prop := sh S i < wn W ∧ lgx (rr W msk (sh S i) (sd S i)) = sx S i ∧ lgy (rr W msk (sh S i) (sd S i)) = sy S i
def senB (W : Wo) (msk : Nat → Bool) (S : Sn) (i : Nat) : Bool := decide (sh S i < wn W) && (decide (lgx (rr W msk (sh S i) (sd S i)) = sx S i) && decide (lgy (rr W msk (sh S i) (sd S i)) = sy S i))
def senS (W : Wo) (msk : Nat → Bool) (S : Sn) : Bool := decide (∀ i, i < sc S → senB W msk S i = true)
def neS (W : Wo) (S : Sn) : Int32 := bs (fun e => senS W (nmk (2 ^ e)) S) (wm W)
def wiB (W : Wo) (S : Sn) (k v : Nat) : Bool := senS (setC W 2 k v) allE S
def soB (W : Wo) (S : Sn) (k v : Nat) : Bool := senS (setC W 3 k v) allE S
def waA (W : Wo) (S : Sn) (k w : Int32) : Int32 := if (0 ≤ k ∧ k < nI (wn W)) ∧ (0 ≤ w ∧ w ≤ 1) then (if w = 0 then bs (wiB W S k.toNatClampNeg) 10 else bs (soB W S k.toNatClampNeg) 3) else -2
def mx (f : Nat → Nat) : Nat → Nat
  | 0 => 0
  | n + 1 => if mx f n < f n then f n else mx f n
def aqB (W : Wo) (S : Sn) (k d a b : Nat) : Bool := wiB W S k a && (wiB W S k b && sameL (rr (setC W 2 k a) allE k d) (rr (setC W 2 k b) allE k d))
def aqM (W : Wo) (S : Sn) (k d : Nat) : Nat := mx (fun a => ct (aqB W S k d a) 10) 10
def aqS (W : Wo) (S : Sn) (k : Nat) : Nat := (arg ltB (aqM W S k) 19).1
def aqA (W : Wo) (S : Sn) (k : Int32) : Int32 := if 0 ≤ k ∧ k < nI (wn W) then nI (aqS W S k.toNatClampNeg) else -2
theorem mx_le {f : Nat → Nat} {b : Nat} : ∀ {n : Nat}, (∀ i, i < n → f i ≤ b) → mx f n ≤ b
  | 0, _ => Nat.zero_le _
  | n + 1, h => by
    unfold mx
    split
    · exact h n (by omega)
    · exact mx_le (fun i hi => h i (by omega))
/-- bits as a natural -/
def bsN (P : Nat → Bool) : Nat → Nat
  | 0 => 0
  | n + 1 => bsN P n ||| (if P n = true then 2 ^ n else 0)
theorem bsN_lt (P : Nat → Bool) : ∀ n, bsN P n < 2 ^ n
  | 0 => Nat.zero_lt_one
  | n + 1 => by
    have ih := bsN_lt P n
    have h1 : bsN P n < 2 ^ (n + 1) := Nat.lt_trans ih (Nat.pow_lt_pow_right (by decide) (by omega))
    unfold bsN
    split
    · exact Nat.or_lt_two_pow h1 (Nat.pow_lt_pow_right (by decide) (by omega))
    · rw [Nat.or_zero]; exact h1
theorem bs_N (P : Nat → Bool) : ∀ n, n ≤ 31 → bs P n = nI (bsN P n)
  | 0, _ => rfl
  | n + 1, h => by
    unfold bs bsN
    rw [bs_N P n (by omega)]
    split
    · rw [shl1 (by omega), orI]
    · rw [show (0 : Int32) = nI 0 from rfl, orI]
theorem bsN_bit (P : Nat → Bool) (j : Nat) : ∀ n, (bsN P n).testBit j = (decide (j < n) && P j)
  | 0 => by simp [bsN]
  | n + 1 => by
    unfold bsN
    rw [Nat.testBit_or, bsN_bit P j n]
    by_cases hj : j = n
    · subst hj
      rw [decide_eq_false (Nat.lt_irrefl _), decide_eq_true (Nat.lt_succ_self _), Bool.false_and, Bool.false_or, Bool.true_and]
      by_cases hp : P j = true
      · rw [if_pos hp, Nat.testBit_two_pow, hp]; simp
      · rw [if_neg hp, Nat.zero_testBit]
        simp at hp
        exact hp.symm
    · have e1 : (if P n = true then 2 ^ n else 0).testBit j = false := by
        split
        · rw [Nat.testBit_two_pow]; exact decide_eq_false (Ne.symm hj)
        · exact Nat.zero_testBit j
      rw [e1, Bool.or_false]
      congr 1
      exact decide_eq_decide.mpr ⟨fun z => by omega, fun z => by omega⟩
theorem bs_bt (P : Nat → Bool) {n j : Nat} (hn : n ≤ 30) (hj : j < n) : bt (bs P n) j = P j := by
  have h := bsN_lt P n
  have h2 : 2 ^ n ≤ 2 ^ 30 := Nat.pow_le_pow_right (by decide) hn
  rw [bs_N P n (by omega), bt_nI (by omega) (by omega), bsN_bit, decide_eq_true hj, Bool.true_and]
/-! how far points and legs come -/
def bd (x : Int32) (b : Nat) : Prop := -(b : Int) ≤ x.toInt ∧ x.toInt ≤ b
theorem bd_add {x : Int32} {b w : Nat} (h : bd x b) (hb : b + w < 2147483648) : bd (x + nI w) (b + w) := by
  obtain ⟨h1, h2⟩ := h
  have e : (x + nI w).toInt = x.toInt + w := by
    rw [Int32.toInt_add, nI_toInt (by omega)]
    rw [Int.bmod_eq_of_le] <;> omega
  unfold bd
  rw [e]
  omega
theorem bd_sub {x : Int32} {b w : Nat} (h : bd x b) (hb : b + w < 2147483648) : bd (x - nI w) (b + w) := by
  obtain ⟨h1, h2⟩ := h
  have e : (x - nI w).toInt = x.toInt - w := by
    rw [Int32.toInt_sub, nI_toInt (by omega)]
    rw [Int.bmod_eq_of_le] <;> omega
  unfold bd
  rw [e]
  omega
theorem bd_le {x : Int32} {a b : Nat} (h : bd x a) (hb : a ≤ b) : bd x b := by
  unfold bd at *
  omega
theorem lgx_bd {r : Rg} {b : Nat} (h : bd (gx r) b) (ho : okR r) (hb : b < 1000000) : bd (lgx r) (b + 9) := by
  have := ho.1
  unfold lgx
  split
  · exact bd_le (bd_add h (by omega)) (by omega)
  · split
    · exact bd_le (bd_sub h (by omega)) (by omega)
    · exact bd_le h (by omega)
theorem lgy_bd {r : Rg} {b : Nat} (h : bd (gy r) b) (ho : okR r) (hb : b < 1000000) : bd (lgy r) (b + 9) := by
  have := ho.1
  unfold lgy
  split
  · exact bd_le (bd_add h (by omega)) (by omega)
  · split
    · exact bd_le (bd_sub h (by omega)) (by omega)
    · exact bd_le h (by omega)
theorem und_bd {r : Rg} {b kd nu : Nat} (h : bd (gx r) b ∧ bd (gy r) b) (ho : okR r) (hb : b < 1000000) : bd (gx (und r kd nu)) (b + 9) ∧ bd (gy (und r kd nu)) (b + 9) := by
  unfold und
  split
  · exact ⟨bd_le h.1 (by omega), bd_le h.2 (by omega)⟩
  · split
    · exact ⟨lgx_bd h.1 ho hb, lgy_bd h.2 ho hb⟩
    · exact ⟨bd_le h.1 (by omega), bd_le h.2 (by omega)⟩
theorem evs_bd {v : Nat → Nat → Nat} {msk : Nat → Bool} {d k b : Nat} {r : Rg} (h : bd (gx r) b ∧ bd (gy r) b) (ho : okR r) (hb : b ≤ 1000) : ∀ n, n ≤ 8 → okE v n → bd (gx (evs v msk d k n r)) (b + 9 * ct (fun e => decide (v 1 e = d)) n) ∧ bd (gy (evs v msk d k n r)) (b + 9 * ct (fun e => decide (v 1 e = d)) n)
  | 0, _, _ => h
  | n + 1, hn, hv => by
    have ih := evs_bd (v := v) (msk := msk) (d := d) (k := k) h ho hb n (by omega) (fun e he => hv e (by omega))
    have hc := ct_le (fun e => decide (v 1 e = d)) n
    have ho' : okR (evs v msk d k n r) := evs_ok (fun e he => hv e (by omega)) ho
    unfold evs ct
    by_cases hz : v 1 n = d ∧ v 2 n = k ∧ msk n = true
    · rw [if_pos hz, if_pos (decide_eq_true hz.1)]
      have := und_bd (kd := v 0 n) (nu := v 3 n) ih ho' (by omega)
      exact ⟨bd_le this.1 (by omega), bd_le this.2 (by omega)⟩
    · rw [if_neg hz]
      exact ⟨bd_le ih.1 (by omega), bd_le ih.2 (by omega)⟩
theorem ct_split {v : Nat → Nat → Nat} {d : Nat} : ∀ n, ct (fun e => decide (v 1 e < d + 1)) n = ct (fun e => decide (v 1 e < d)) n + ct (fun e => decide (v 1 e = d)) n
  | 0 => rfl
  | n + 1 => by
    have ih := ct_split (v := v) (d := d) n
    unfold ct
    rw [ih]
    by_cases h1 : v 1 n < d
    · rw [if_pos (decide_eq_true (show v 1 n < d + 1 by omega)), if_pos (decide_eq_true h1), if_neg (by rw [decide_eq_true_iff]; omega)]; omega
    · by_cases h2 : v 1 n = d
      · rw [if_pos (decide_eq_true (show v 1 n < d + 1 by omega)), if_neg (by rw [decide_eq_true_iff]; omega), if_pos (decide_eq_true h2)]; omega
      · rw [if_neg (by rw [decide_eq_true_iff]; omega), if_neg (by rw [decide_eq_true_iff]; omega), if_neg (by rw [decide_eq_true_iff]; omega)]; omega
theorem pre_bd {W : Wo} {msk : Nat → Bool} {k : Nat} (hW : okW W) (hk : k < wn W) : ∀ d, bd (gx (pre W msk k d)) (9 + 9 * ct (fun e => decide (we W 1 e < d)) (wm W)) ∧ bd (gy (pre W msk k d)) (9 + 9 * ct (fun e => decide (we W 1 e < d)) (wm W))
  | 0 => by
    obtain ⟨a, b, c, d⟩ := hW.2.2.1 k hk
    have e : ∀ n, n ≤ 9 → bd (nI n) 9 := fun n hn => by unfold bd; rw [nI_toInt (by omega)]; omega
    exact ⟨bd_le (e _ a) (by omega), bd_le (e _ b) (by omega)⟩
  | d + 1 => by
    have ih := pre_bd (msk := msk) hW hk d
    have hc := ct_le (fun e => decide (we W 1 e < d)) (wm W)
    have hm := hW.2.1
    have h2 := evs_bd (v := we W) (msk := msk) (d := d) (k := k) ih (pre_ok hW hk d) (by omega) (wm W) hm hW.2.2.2
    have e : 9 + 9 * ct (fun e => decide (we W 1 e < d + 1)) (wm W) = 9 + 9 * ct (fun e => decide (we W 1 e < d)) (wm W) + 9 * ct (fun e => decide (we W 1 e = d)) (wm W) := by
      rw [ct_split]; omega
    rw [e]
    have g : ∀ (r : Rg) (q : Nat), gx (trn r q) = gx r ∧ gy (trn r q) = gy r := by
      intro r q
      unfold trn
      split <;> exact ⟨rfl, rfl⟩
    show bd (gx (trn _ _)) _ ∧ bd (gy (trn _ _)) _
    rw [(g _ _).1, (g _ _).2]
    exact h2
theorem leg_bd {W : Wo} {msk : Nat → Bool} {k : Nat} (hW : okW W) (hk : k < wn W) (d : Nat) : bd (lgx (pre W msk k d)) 90 ∧ bd (lgy (pre W msk k d)) 90 := by
  have h := pre_bd (msk := msk) hW hk d
  have hc := ct_le (fun e => decide (we W 1 e < d)) (wm W)
  have hm := hW.2.1
  have ho := pre_ok (msk := msk) hW hk d
  exact ⟨bd_le (lgx_bd h.1 ho (by omega)) (by omega), bd_le (lgy_bd h.2 ho (by omega)) (by omega)⟩
theorem code_eq {a b c d : Int32} (ha : bd a 90) (hb : bd b 90) (hc : bd c 90) (hd : bd d 90) : 1000 * a + b = 1000 * c + d ↔ a = c ∧ b = d := by
  constructor
  · intro h
    have h := congrArg Int32.toInt h
    have e : ∀ x y : Int32, bd x 90 → bd y 90 → (1000 * x + y).toInt = 1000 * x.toInt + y.toInt := by
      intro x y hx hy
      unfold bd at hx hy
      rw [Int32.toInt_add, Int32.toInt_mul, show (1000 : Int32).toInt = 1000 by decide]
      rw [Int.bmod_eq_of_le (n := 1000 * x.toInt) (by omega) (by omega), Int.bmod_eq_of_le (by omega) (by omega)]
    rw [e a b ha hb, e c d hc hd] at h
    unfold bd at *
    exact ⟨Int32.toInt_inj.mp (by omega), Int32.toInt_inj.mp (by omega)⟩
  · rintro ⟨rfl, rfl⟩; rfl
