/-! THE REFERENCE: gossip, ages, count -/
/-- the weight of leaving out the events of these bits -/
def wtS (c x : Nat) : Nat → Nat
  | 0 => 1
  | e + 1 => wtS c x e * (if x.testBit e = true then 16 - c else c)
def goT (W : Wo) (d x : Nat) : Bool := decide (0 < prS (wn W) (fun k => rr W (nmk x) k d) 0)
def goN (W : Wo) (c d : Nat) : Nat := sm (fun x => if goT W d x = true then wtS c x (wm W) else 0) (2 ^ wm W)
def goS (W : Wo) (c d w : Nat) : Int64 := if w = 0 then lN (goN W c d / Nat.gcd (goN W c d) (2 ^ (4 * wm W))) else lN (2 ^ (4 * wm W) / Nat.gcd (goN W c d) (2 ^ (4 * wm W)))
def goA (W : Wo) (c d w : Int32) : Int64 := if (0 ≤ c ∧ c ≤ 16) ∧ (0 ≤ d ∧ d ≤ 19) ∧ (0 ≤ w ∧ w ≤ 1) then goS W c.toNatClampNeg d.toNatClampNeg w.toNatClampNeg else -9223372036854775806
theorem wtS_le {c x : Nat} (hc : c ≤ 16) : ∀ n, wtS c x n ≤ 16 ^ n
  | 0 => Nat.le_refl _
  | n + 1 => by
    unfold wtS
    rw [Nat.pow_succ]
    refine Nat.mul_le_mul (wtS_le hc n) ?_
    split <;> omega
theorem goN_le {W : Wo} {c d : Nat} (hc : c ≤ 16) (hm : wm W ≤ 8) : goN W c d ≤ 256 * 4294967296 := by
  have h1 : ∀ x, (if goT W d x = true then wtS c x (wm W) else 0) ≤ 4294967296 := by
    intro x
    split
    · refine Nat.le_trans (wtS_le hc _) ?_
      exact Nat.le_trans (Nat.pow_le_pow_right (by decide) hm) (by decide)
    · exact Nat.zero_le _
  have h2 := sm_le (n := 2 ^ wm W) (fun i _ => h1 i)
  have h3 : 2 ^ wm W ≤ 256 := Nat.le_trans (Nat.pow_le_pow_right (by decide) hm) (by decide)
  exact Nat.le_trans h2 (Nat.mul_le_mul_right _ h3)
section MG
variable {E : Ev} {σ : Hp}
theorem c8_lowest {a b w : Nat} (ha : a < 2 ^ 62) (hb : b < 2 ^ 62) (hb0 : 0 < b) (hw : w ≤ 1) : Call E mX8_lowest [.long (lN a), .long (lN b), .int (nI w)] σ (some (.long (if w = 0 then lN (a / Nat.gcd a b) else lN (b / Nat.gcd a b)))) σ := by
  have ew : nI w = 0 ↔ w = 0 := nI_eq' (show w < 2147483648 by omega) (show 0 < 2147483648 by decide)
  refine K_X8_lowest (tX8_lowest_0 ?_)
  have loop : ∀ y x, x < 2 ^ 62 → y < 2 ^ 62 → (0 < x ∨ 0 < y) → Nat.gcd x y = Nat.gcd a b → Ru E mX8_lowest 6 [(0, .long (lN a)), (2, .long (lN b)), (4, .int (nI w)), (5, .long (lN x)), (7, .long (lN y))] [] σ (PE (some (.long (if w = 0 then lN (a / Nat.gcd a b) else lN (b / Nat.gcd a b)))) σ) := by
    intro y
    induction y using Nat.strongRecOn with
    | _ y ih =>
      intro x hx hy hxy hg
      have c0 : lg_cmp (lN y) 0 = 0 ↔ y = 0 := by
        unfold lg_cmp
        have e1 : (0 : Int64) < lN y ↔ 0 < y := by
          rw [show (0 : Int64) = lN 0 from rfl]
          exact pk_lLT (by decide) (by omega)
        have e2 : lN y = 0 ↔ y = 0 := by
          rw [show (0 : Int64) = lN 0 from rfl]
          exact pk_lEQ (by omega) (by decide)
        by_cases h : y = 0
        · subst h; simp; decide
        · rw [if_pos (e1.mpr (by omega))]
          exact ⟨fun z => absurd z (by decide), fun z => absurd z h⟩
      have n0 : ∀ z, z < 2 ^ 62 → (lN z = 0 ↔ z = 0) := fun z hz => by
        rw [show (0 : Int64) = lN 0 from rfl]
        exact pk_lEQ (by omega) (by decide)
      refine tX8_lowest_6 ⟨fun q => ?_, fun q => ?_⟩
      · have hy0 := c0.mp q
        subst hy0
        rw [Nat.gcd_zero_right] at hg
        have hx0 : 0 < x := by omega
        refine ⟨fun z => ⟨fun k => by have := (n0 x hx).mp k; omega, ?_, rfl⟩, fun z => ⟨fun k => by have := (n0 x hx).mp k; omega, ?_, rfl⟩⟩
        · rw [if_neg (fun k => z (ew.mpr k)), ← hg, pk_lDiv (by omega) hx0 (by omega)]
        · rw [if_pos (ew.mp z), ← hg, pk_lDiv (by omega) hx0 (by omega)]
      · have hy0 : ¬ y = 0 := fun k => q (c0.mpr k)
        refine ⟨fun k => hy0 ((n0 y hy).mp k), ?_⟩
        rw [pk_lRem (by omega) (by omega) (by omega)]
        have hm : x % y < y := Nat.mod_lt _ (by omega)
        refine ih (x % y) hm y hy (by omega) (Or.inl (by omega)) ?_
        rw [← hg, Nat.gcd_comm x y, Nat.gcd_rec y x, Nat.gcd_comm]
  exact loop b a ha hb (Or.inr hb0) rfl
theorem c8_gossipOf {t : Nat → Nat} {nb : Nat} {v : Nat → Nat → Nat} {m : Nat} (hT : ToM t nb v m σ) {c d w : Nat} (hc : c ≤ 16) (hd : d < 20) (hw : w ≤ 1) :
    ∃ (v1 : Int64) (σ' : Hp), Call E mX8_gossipOf [.ref 53, .int (nI c), .int (nI d), .int (nI w)] σ (some (.long v1)) σ' ∧ (v1 = goS (woS t nb v m) c d w ∧ Fr sQ σ σ') := by
  have hW := woS_ok hT
  have hm8 : m ≤ 8 := hW.2.1
  obtain ⟨s0, hc0, hR0, -, hF0⟩ := c8_asTold (E := E) hT
  have k7 : ∀ s, Fr sQ σ s → s 53 7 = nI m := fun s hF => by rw [hF 53 7 (by unfold sQ sT sW sN sR; omega)]; exact hT.2.1.1
  have p2 : 2 ^ m ≤ 256 := Nat.le_trans (Nat.pow_le_pow_right (by decide) hm8) (by decide)
  have hN := goN_le (W := woS t nb v m) (d := d) hc hm8
  refine C_X8_gossipOf (tX8_gossipOf_0 ⟨s0, hc0, ?_⟩)
  generalize hΨ : (fun (v1 : Int64) (σ' : Hp) => v1 = goS (woS t nb v m) c d w ∧ Fr sQ σ σ') = Ψ
  have loop : ∀ x (s : Hp), x ≤ 2 ^ m → (RnA (woS t nb v m) s ∧ Fr sQ σ s) → Ru E mX8_gossipOf 10 [(0, .ref 53), (1, .int (nI c)), (2, .int (nI d)), (3, .int (nI w)), (4, .long (lN (sm (fun x => if goT (woS t nb v m) d x = true then wtS c x m else 0) x))), (6, .int (nI x))] [] s (PL Ψ) := by
    refine for_up (2 ^ m) _ _ ?_ ?_
    · intro x s hx ⟨⟨m0, hR⟩, hF⟩ ih
      have hw2 : ∀ e (u : Unit), e ≤ m → True → Ru E mX8_gossipOf 27 [(0, .ref 53), (1, .int (nI c)), (2, .int (nI d)), (3, .int (nI w)), (4, .long (lN (sm (fun x => if goT (woS t nb v m) d x = true then wtS c x m else 0) x))), (6, .int (nI x)), (7, .long (lN (wtS c x e))), (9, .int (nI e))] [] s (PL Ψ) := by
        refine for_up m _ _ ?_ ?_
        · intro e _ he _ ihe
          have ihe := ihe () trivial
          rw [show wtS c x (e + 1) = wtS c x e * (if x.testBit e = true then 16 - c else c) from rfl] at ihe
          refine tX8_gossipOf_27 ?_
          rw [k7 s hF, nI_1 e]
          refine ⟨fun z => ?_, fun _ => ⟨_, _, c8_isIn, fun z => ?_, fun z => ?_⟩⟩
          · rw [nI_le' (by omega) (by omega)] at z; omega
          · have z := bI_0.mp z
            rw [bt_nI (by omega) (by omega)] at z
            rw [if_neg z] at ihe
            rw [nI_l (show c < 2 ^ 31 by omega), lN_mul]
            exact ihe
          · have z := bI_n.mp z
            rw [bt_nI (by omega) (by omega)] at z
            rw [if_pos z] at ihe
            rw [show (16 : Int32) = nI 16 from rfl, pk_sub hc, nI_l (show 16 - c < 2 ^ 31 by omega), lN_mul]
            exact ihe
        · intro _ _
          have hwl := wtS_le (x := x) hc m
          have hwl2 : 16 ^ m ≤ 16 ^ 8 := Nat.pow_le_pow_right (by decide) hm8
          have c0 : lg_cmp (lN (wtS c x m)) 0 ≤ 0 ↔ wtS c x m = 0 := by
            unfold lg_cmp
            have e1 : (0 : Int64) < lN (wtS c x m) ↔ 0 < wtS c x m := by
              rw [show (0 : Int64) = lN 0 from rfl]
              exact pk_lLT (by decide) (by omega)
            by_cases h : wtS c x m = 0
            · rw [h]; simp; decide
            · rw [if_pos (e1.mpr (by omega))]
              exact ⟨fun z => absurd z (by decide), fun z => absurd z h⟩
          refine tX8_gossipOf_27 ?_
          rw [k7 s hF, nI_1]
          refine ⟨fun _ => ⟨fun z => ?_, fun z => ?_⟩, fun z => absurd (Int32.le_refl _) z⟩
          · have z := c0.mp z
            have ih := ih s ⟨⟨m0, hR⟩, hF⟩
            unfold sm at ih
            rw [z, ite_self, Nat.add_zero] at ih
            exact ih
          · obtain ⟨s1, hc1, h1, -, h3, hF1⟩ := c8_runs (E := E) hW (hR.msk (x := x) hm8 (by omega))
            have hF' : Fr sQ σ s1 := (hF.up s17).tr (hF1.mono (fun c i h => Or.inr h))
            have ih := ih s1 ⟨⟨_, h3⟩, hF'⟩
            unfold sm at ih
            have hpl := prS_le hW.1 (fun k => rr (woS t nb v m) (nmk x) k d) 0
            have p0 : nI (prS (wn (woS t nb v m)) (fun k => rr (woS t nb v m) (nmk x) k d) 0) ≤ 0 ↔ ¬ goT (woS t nb v m) d x = true := by
              rw [show (0 : Int32) = nI 0 from rfl, nI_le' (by omega) (by decide)]
              unfold goT
              rw [decide_eq_true_iff]
              omega
            refine ⟨s1, hc1, _, _, c8_pairsNow (w := 0) hW ⟨h3.1, h1⟩ hd (by decide), fun z2 => ?_, fun z2 => ?_⟩
            · rw [if_neg (p0.mp z2)] at ih
              rw [show (0 : Int64) = lN 0 from rfl, lN_add]
              exact ih
            · rw [if_pos (Decidable.of_not_not (fun y => z2 (p0.mpr y)))] at ih
              rw [lN_add]
              exact ih
      refine tX8_gossipOf_10 ?_
      rw [k7 s hF, shl1 (show m < 31 by omega)]
      refine ⟨fun z => ?_, fun _ => hw2 0 () (Nat.zero_le _) trivial⟩
      rw [nI_le' (by omega) (by omega)] at z; omega
    · intro s ⟨hR, hF⟩
      have e4 : (1 : Int64) <<< ((4 * nI m).toInt64 &&& 63) = lN (2 ^ (4 * m)) := by
        rw [show (4 : Int32) = nI 4 from rfl, pk_mul]
        have hsh : ∀ k, k ≤ 32 → (1 : Int64) <<< ((nI k).toInt64 &&& 63) = lN (2 ^ k) := by decide +kernel
        exact hsh (4 * m) (by omega)
      have hp4 : 2 ^ (4 * m) ≤ 2 ^ 32 := Nat.pow_le_pow_right (by decide) (by omega)
      refine tX8_gossipOf_10 ?_
      rw [k7 s hF, shl1 (show m < 31 by omega), e4]
      subst hΨ
      refine ⟨fun _ => ⟨_, _, c8_lowest (show goN (woS t nb v m) c d < 2 ^ 62 by omega) (by omega) (Nat.pow_pos (by decide)) hw, _, rfl, rfl, hF⟩, fun z => absurd (Int32.le_refl _) z⟩
  exact loop 0 s0 (Nat.zero_le _) ⟨⟨_, hR0⟩, hF0.mono (fun c i h => Or.inl h)⟩
theorem c8_gossip {t : Nat → Nat} {nb : Nat} {v : Nat → Nat → Nat} {m : Nat} (hT : ToM t nb v m σ) (c d w : Int32) :
    ∃ (v1 : Int64) (σ' : Hp), Call E mX8_gossip [.ref 53, .int c, .int d, .int w] σ (some (.long v1)) σ' ∧ (v1 = goA (woS t nb v m) c d w ∧ Fr sQ σ σ') := by
  have hno : (-9223372036854775808 : Int64) - (-2 : Int32).toInt64 = -9223372036854775806 := by decide +kernel
  refine C_X8_gossip (tX8_gossip_0 ⟨_, _, c8_in, fun q => ⟨_, _, c8_no, _, rfl, ?_, Fr.rf⟩, fun q => ⟨_, _, c8_isDay, fun q2 => ⟨_, _, c8_no, _, rfl, ?_, Fr.rf⟩, fun q2 => ⟨_, _, c8_in, fun q3 => ⟨_, _, c8_no, _, rfl, ?_, Fr.rf⟩, fun q3 => ?_⟩⟩⟩)
  · rw [hno]; exact (if_neg (fun z => bI_0.mp q z.1)).symm
  · rw [hno]; exact (if_neg (fun z => bI_0.mp q2 z.2.1)).symm
  · rw [hno]; exact (if_neg (fun z => bI_0.mp q3 z.2.2)).symm
  · have q := bI_n.mp q
    have q2 := bI_n.mp q2
    have q3 := bI_n.mp q3
    have hA : goA (woS t nb v m) c d w = goS (woS t nb v m) c.toNatClampNeg d.toNatClampNeg w.toNatClampNeg := if_pos ⟨q, q2, q3⟩
    obtain ⟨c, hc, rfl⟩ := (inN_iff 16 (by decide)).mp q
    obtain ⟨d, hd, rfl⟩ := (inN_iff 19 (by decide)).mp q2
    obtain ⟨w, hw, rfl⟩ := (inN_iff 1 (by decide)).mp q3
    obtain ⟨v3, s3, hc3, h3, hF3⟩ := c8_gossipOf (E := E) hT hc (show d < 20 by omega) hw
    refine ⟨_, _, hc3, _, rfl, ?_, hF3⟩
    rw [hA, h3, cl (by omega), cl (by omega), cl (by omega)]
/-! ages -/
def lotN (x : Int32) : Nat := x.toBitVec.toNat / 65536
def lcs (seed : Int32) : Nat → Int32
  | 0 => seed
  | n + 1 => 1103515245 * lcs seed n + 12345
def agM (nc f : Nat) : Nat := if f = 0 then 3 else if f = 1 then 20 else if f = 2 then nc else 10
def agE (seed : Int32) (nc f e : Nat) : Nat := lotN (lcs seed (4 * e + f + 1)) % agM nc f
def agW (W : Wo) (seed : Int32) (n : Nat) : Wo := (wc W, wn W, agE seed (wn W), if wn W = 0 then 0 else n)
def clN (n : Nat) (R : Nat → Rg) : Nat := ct (fun k => decide (ga (R k) = 4)) n
def agS (W : Wo) (seed : Int32) (n w : Nat) : Int32 := if w = 0 then nI (prS (wn W) (fun k => rr (agW W seed n) allE k 19) 0) else nI (clN (wn W) (fun k => rr (agW W seed n) allE k 19))
def agA (W : Wo) (seed n w : Int32) : Int32 := if (0 ≤ n ∧ n ≤ 8) ∧ (0 ≤ w ∧ w ≤ 1) then agS W seed n.toNatClampNeg w.toNatClampNeg else -2
theorem lot_u (x : Int32) : (x.toUInt32 >>> (Int32.toUInt32 16 &&& Int32.toUInt32 31)).toInt32 = nI (lotN x) := by
  have h := pk_ushr x 16 16 (by decide)
  have hl : lotN x < 65536 := by
    unfold lotN
    have := x.toBitVec.isLt
    omega
  apply Int32.toBitVec_inj.mp
  apply BitVec.eq_of_toNat_eq
  rw [h, pk_tn (by omega)]
  rfl
theorem lot_r (x : Int32) {d : Nat} (h0 : 0 < d) (hd : d < 65536) : nI (lotN x) - nI (lotN x) / nI d * nI d = nI (lotN x % d) := by
  have hl : lotN x < 65536 := by
    unfold lotN
    have := x.toBitVec.isLt
    omega
  exact pk_rem (by omega) h0 (by omega)
theorem agW_ok {W : Wo} {seed : Int32} {n : Nat} (hW : okW W) (hn : n ≤ 8) : okW (agW W seed n) := by
  refine ⟨hW.1, ?_, hW.2.2.1, fun e he => ?_⟩
  · show (if wn W = 0 then 0 else n) ≤ 8
    split <;> omega
  · have hnc : 0 < wn W := by
      have he : e < (if wn W = 0 then 0 else n) := he
      by_cases z : wn W = 0
      · rw [if_pos z] at he; omega
      · omega
    have hn8 := hW.1
    refine ⟨?_, ?_, ?_, ?_⟩
    · have := Nat.mod_lt (lotN (lcs seed (4 * e + 0 + 1))) (show 0 < 3 by decide)
      show _ % 3 ≤ 2
      omega
    · exact Nat.mod_lt _ (show 0 < 20 by decide)
    · have := Nat.mod_lt (lotN (lcs seed (4 * e + 2 + 1))) hnc
      show _ % wn W < 8
      omega
    · have := Nat.mod_lt (lotN (lcs seed (4 * e + 3 + 1))) (show 0 < 10 by decide)
      show _ % 10 ≤ 9
      omega
theorem ones_cl {n : Nat} {R : Nat → Rg} (hn : n ≤ 8) : ct (fun k => bt (clS n R) k) 8 = clN n R := by
  have h : ∀ j, j < 8 → bt (clS n R) j = (decide (j < n) && decide (ga (R j) = 4)) := by
    intro j hj
    have hl := bsN_lt (fun k => decide (ga (R k) = 4)) n
    have h2 : 2 ^ n ≤ 2 ^ 8 := Nat.pow_le_pow_right (by decide) hn
    unfold clS
    rw [bs_N _ n (by omega), bt_nI (by omega) (by omega), bsN_bit]
  have key : ∀ k, k ≤ 8 - n → ct (fun k => bt (clS n R) k) (n + k) = clN n R := by
    intro k
    induction k with
    | zero =>
      intro _
      refine ct_congr (fun i hi => ?_)
      rw [h i (by omega), decide_eq_true (show i < n from hi), Bool.true_and]
    | succ k ih =>
      intro hk
      show ct _ (n + k) + _ = _
      rw [ih (by omega)]
      show (clN n R + if bt (clS n R) (n + k) = true then 1 else 0) = clN n R
      rw [h (n + k) (by omega), decide_eq_false (show ¬ n + k < n by omega), Bool.false_and]
      rfl
  have := key (8 - n) (Nat.le_refl _)
  rwa [show n + (8 - n) = 8 by omega] at this
section MG2
variable {E : Ev} {σ : Hp}
theorem c8_agesOf {t : Nat → Nat} {nb : Nat} {v : Nat → Nat → Nat} {m : Nat} (hT : ToM t nb v m σ) {seed : Int32} {n w : Nat} (hn8 : n ≤ 8) (hw : w ≤ 1) :
    ∃ (v1 : Int32) (σ' : Hp), Call E mX8_agesOf [.ref 53, .int seed, .int (nI n), .int (nI w)] σ (some (.int v1)) σ' ∧ (v1 = agS (woS t nb v m) seed n w ∧ Fr sQ σ σ') := by
  have hW := woS_ok hT
  have hn : ncS t nb ≤ 8 := hW.1
  have ew : nI w = 0 ↔ w = 0 := nI_eq' (show w < 2147483648 by omega) (show 0 < 2147483648 by decide)
  obtain ⟨s0, hc0, hR0, h17, hF0⟩ := c8_asTold (E := E) hT
  have hWa : okW (agW (woS t nb v m) seed n) := agW_ok hW hn8
  have s12 : sQ 53 12 := Or.inl (Or.inr (Or.inr ⟨rfl, Or.inl rfl⟩))
  have e0 : nI (ncS t nb) = 0 ↔ ncS t nb = 0 := nI_eq' (show ncS t nb < 2147483648 by omega) (show 0 < 2147483648 by decide)
  refine C_X8_agesOf (tX8_agesOf_0 ⟨s0, hc0, ?_⟩)
  generalize hΨ : (fun (v1 : Int32) (σ' : Hp) => v1 = agS (woS t nb v m) seed n w ∧ Fr sQ σ σ') = Ψ
  have loop : ∀ e (s : Hp), e ≤ wm (agW (woS t nb v m) seed n) → (s 53 12 = nI (wm (agW (woS t nb v m) seed n)) ∧ s 53 2 = nI (ncS t nb) ∧ s 53 17 = 0 ∧ (∀ k, k < ncS t nb → ∀ f, f < 4 → s (55 + f) k = nI (cdS t f k)) ∧ (∀ j, j < e → ∀ f, f < 4 → s (63 + f) j = nI (agE seed (ncS t nb) f j)) ∧ Fr sQ σ s) →
      Ru E mX8_agesOf 26 [(0, .ref 53), (1, .int seed), (2, .int (nI n)), (3, .int (nI w)), (4, .int (lcs seed (4 * e))), (5, .int (nI e))] [] s (PI Ψ) := by
    have hm8 := hWa.2.1
    refine for_up _ _ _ ?_ ?_
    · intro e s he ⟨h1, h2, h3, h4, h5, hF⟩ ih
      have hnc : 0 < ncS t nb := by
        have he : e < (if ncS t nb = 0 then 0 else n) := he
        by_cases z : ncS t nb = 0
        · rw [if_pos z] at he; omega
        · omega
      refine tX8_agesOf_26 ?_
      rw [h1, h2, cl (show e < 2147483648 by omega), nI_1, lot_u, lot_u, lot_u, lot_u]
      refine ⟨fun z => ?_, fun _ => ⟨vin (by omega) (by decide), fun z => by have := e0.mp z; omega, ih _ ⟨by simp [up]; exact h1, by simp [up]; exact h2, by simp [up]; exact h3, fun k hk f hf => ?_, fun j hj f hf => ?_, ?_⟩⟩⟩
      · rw [nI_le' (by omega) (by omega)] at z; omega
      · rw [up_c (by omega), up_c (by omega), up_c (by omega), up_c (by omega)]
        exact h4 k hk f hf
      · rcases Nat.lt_or_ge j e with y | y
        · have hne : j ≠ e := by omega
          rw [up_i hne, up_i hne, up_i hne, up_i hne]
          exact h5 j y f hf
        · have : j = e := by omega
          subst this
          match f, hf with
          | 0, _ =>
            rw [show (3 : Int32) = nI 3 from rfl, lot_r _ (by decide) (by decide)]
            simp [up]; rfl
          | 1, _ =>
            rw [show (20 : Int32) = nI 20 from rfl, lot_r _ (by decide) (by decide)]
            simp [up]; rfl
          | 2, _ =>
            rw [lot_r _ hnc (by omega)]
            simp [up]; rfl
          | 3, _ =>
            rw [show (10 : Int32) = nI 10 from rfl, lot_r (d := 10) _ (by decide) (by decide)]
            simp [up]; rfl
      · have st : ∀ c, 63 ≤ c → c ≤ 66 → sQ c e := fun c a b => Or.inl (Or.inr (Or.inl ⟨a, b⟩))
        exact (((hF.up (st _ (by decide) (by decide))).up (st _ (by decide) (by decide))).up (st _ (by decide) (by decide))).up (st _ (by decide) (by decide))
    · intro s ⟨h1, h2, h3, h4, h5, hF⟩
      have hR : RnM (agW (woS t nb v m) seed n) allE s := ⟨h2, h4, ⟨h1, h5⟩, fun e he => by rw [h3, bt_0 e (by omega)]; rfl⟩
      obtain ⟨s1, hc1, g1, -, g3, hF1⟩ := c8_runs (E := E) hWa hR
      have hD : DyM (agW (woS t nb v m) seed n) allE s1 := ⟨g3.1, g1⟩
      have hF' : Fr sQ σ s1 := hF.tr (hF1.mono (fun c i h => Or.inr h))
      subst hΨ
      refine tX8_agesOf_26 ?_
      rw [h1]
      refine ⟨fun _ => ⟨s1, hc1, fun z => ⟨_, _, c8_closedNow (d := 19) hWa hD (by decide), _, _, c8_ones, _, rfl, ?_, hF'⟩, fun z => ⟨_, _, c8_pairsNow (d := 19) (w := 0) hWa hD (by decide) (by decide), _, rfl, ?_, hF'⟩⟩, fun z => absurd (Int32.le_refl _) z⟩
      · unfold agS
        rw [if_neg (fun y => z (ew.mpr y)), ones_cl hWa.1]
        rfl
      · unfold agS
        rw [if_pos (ew.mp z)]
        rfl
  have st : ∀ x : Int32, x = nI (wm (agW (woS t nb v m) seed n)) → Ru E mX8_agesOf 26 [(0, .ref 53), (1, .int seed), (2, .int (nI n)), (3, .int (nI w)), (4, .int seed), (5, .int 0)] [] (up s0 53 12 x) (PI Ψ) := by
    intro x hx
    refine loop 0 _ (Nat.zero_le _) ⟨by rw [up_s]; exact hx, by simp [up]; exact hR0.1, by simp [up]; exact h17, fun k hk f hf => by rw [up_c (by omega)]; exact hR0.2.1 k hk f hf, fun j hj => by omega, (hF0.mono (fun c i h => Or.inl h)).up s12⟩
  refine ⟨fun z => st _ ?_, fun z => st _ ?_⟩
  · show nI n = nI (if ncS t nb = 0 then 0 else n)
    rw [if_neg (fun y => z (by rw [hR0.1]; exact e0.mpr y))]
  · show (0 : Int32) = nI (if ncS t nb = 0 then 0 else n)
    rw [if_pos (e0.mp (by rw [← z]; exact hR0.1.symm))]
    rfl
theorem c8_ages {t : Nat → Nat} {nb : Nat} {v : Nat → Nat → Nat} {m : Nat} (hT : ToM t nb v m σ) (seed n w : Int32) :
    ∃ (v1 : Int32) (σ' : Hp), Call E mX8_ages [.ref 53, .int seed, .int n, .int w] σ (some (.int v1)) σ' ∧ (v1 = agA (woS t nb v m) seed n w ∧ Fr sQ σ σ') := by
  refine C_X8_ages (tX8_ages_0 ⟨_, _, c8_in, fun q => ⟨_, rfl, ?_, Fr.rf⟩, fun q => ⟨_, _, c8_in, fun q2 => ⟨_, rfl, ?_, Fr.rf⟩, fun q2 => ?_⟩⟩)
  · exact (if_neg (fun z => bI_0.mp q z.1)).symm
  · exact (if_neg (fun z => bI_0.mp q2 z.2)).symm
  · have q := bI_n.mp q
    have q2 := bI_n.mp q2
    have hA : agA (woS t nb v m) seed n w = agS (woS t nb v m) seed n.toNatClampNeg w.toNatClampNeg := if_pos ⟨q, q2⟩
    obtain ⟨n, hn, rfl⟩ := (inN_iff 8 (by decide)).mp q
    obtain ⟨w, hw, rfl⟩ := (inN_iff 1 (by decide)).mp q2
    obtain ⟨v3, s3, hc3, h3, hF3⟩ := c8_agesOf (E := E) (seed := seed) hT hn hw
    refine ⟨_, _, hc3, _, rfl, ?_, hF3⟩
    rw [hA, h3, cl (by omega), cl (by omega)]
end MG2
end MG
