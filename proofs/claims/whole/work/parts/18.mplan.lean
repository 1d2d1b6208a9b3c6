/-! THE REFERENCE: open, stand -/
theorem ltB_t {a b : Nat} : ltB a b = true ↔ a < b := decide_eq_true_iff
theorem gtB_t {a b : Nat} : gtB a b = true ↔ b < a := decide_eq_true_iff
section MP
variable {E : Ev} {σ : Hp}
theorem RnM.set {W : Wo} {msk : Nat → Bool} {f k x : Nat} (h : RnM W msk σ) (hf : f < 4) : RnM (setC W f k x) msk (up σ (55 + f) k (nI x)) := by
  obtain ⟨h1, h2, ⟨h3, h4⟩, h5⟩ := h
  refine ⟨by rw [up_c (by omega)]; exact h1, fun j hj g hg => ?_, ⟨by rw [up_c (by omega)]; exact h3, fun e he g hg => by rw [up_c (by omega)]; exact h4 e he g hg⟩, fun e he => by rw [up_c (by omega)]; exact h5 e he⟩
  show _ = nI (if g = f ∧ j = k then x else wc W g j)
  by_cases z : g = f ∧ j = k
  · rw [if_pos z, z.1, z.2, up_s]
  · rw [if_neg z]
    have : ¬ (55 + g = 55 + f ∧ j = k) := fun y => z ⟨by omega, y.2⟩
    show (if 55 + g = 55 + f ∧ j = k then _ else σ (55 + g) j) = _
    rw [if_neg this]
    exact h2 j hj g hg
theorem c8_othersNow {W : Wo} {msk : Nat → Bool} (hW : okW W) (hD : DyM W msk σ) {d k : Nat} (hd : d < 20) (hk : k < wn W) (cross : Bool) :
    Call E mX8_othersNow [.ref 53, .int (nI k), .int (nI d), .int (bI (cross = true))] σ (some (.int (nI (otS (wn W) (fun i => rr W msk i d) k cross)))) σ := by
  have hn := hW.1
  refine K_X8_othersNow (tX8_othersNow_0 ?_)
  have loop : ∀ i (u : Unit), i ≤ wn W → True → Ru E mX8_othersNow 6 [(0, .ref 53), (1, .int (nI k)), (2, .int (nI d)), (3, .int (bI (cross = true))), (4, .int (nI (ct (fun i => decide (¬ i = k) && relS cross (areS (rr W msk k d) (rr W msk i d))) i))), (5, .int (nI i))] [] σ (PE (some (.int (nI (otS (wn W) (fun i => rr W msk i d) k cross)))) σ) := by
    refine for_up (wn W) _ _ ?_ ?_
    · intro i _ hi _ ih
      have ih := ih () trivial
      unfold ct at ih
      have nxt : ∀ p : Bool, (decide (¬ i = k) && relS cross (areS (rr W msk k d) (rr W msk i d))) = p → ∀ z : Int32, z = nI (ct (fun i => decide (¬ i = k) && relS cross (areS (rr W msk k d) (rr W msk i d))) i) + (if p = true then 1 else 0) → Ru E mX8_othersNow 6 [(0, .ref 53), (1, .int (nI k)), (2, .int (nI d)), (3, .int (bI (cross = true))), (4, .int z), (5, .int (nI i + 1))] [] σ (PE (some (.int (nI (otS (wn W) (fun i => rr W msk i d) k cross)))) σ) := by
        intro p hp z hz
        simp only [hp] at ih
        rw [hz, nI_1]
        cases p
        · rw [if_neg (by decide), Int32.add_zero]
          exact ih
        · rw [if_pos rfl, nI_1]
          exact ih
      have h33 : ∀ (a : Int32) (p : Bool), (decide (¬ i = k) && relS cross (areS (rr W msk k d) (rr W msk i d))) = p → (cross = true → (a = 2 ↔ p = true)) → (cross = false → ((a = 1 ∨ a = 3) ↔ p = true)) → Ru E mX8_othersNow 33 [(0, .ref 53), (1, .int (nI k)), (2, .int (nI d)), (3, .int (bI (cross = true))), (4, .int (nI (ct (fun i => decide (¬ i = k) && relS cross (areS (rr W msk k d) (rr W msk i d))) i))), (5, .int (nI i))] [.int a] σ (PE (some (.int (nI (otS (wn W) (fun i => rr W msk i d) k cross)))) σ) := by
        intro a p hp h1 h2
        refine tX8_othersNow_33 ⟨fun q => ⟨fun q2 => nxt p hp _ ?_, fun q2 => ⟨fun q3 => nxt p hp _ ?_, fun q3 => nxt p hp _ ?_⟩⟩, fun q => ⟨fun q2 => nxt p hp _ ?_, fun q2 => nxt p hp _ ?_⟩⟩
        · rw [bI_0] at q
          have := (h2 (by simpa using q)).mp (Or.inl q2)
          rw [if_pos this]
        · rw [bI_0] at q
          rw [if_neg (fun z => by rcases (h2 (by simpa using q)).mpr z with y | y; exact q2 y; exact q3 y)]
        · rw [bI_0] at q
          have := (h2 (by simpa using q)).mp (Or.inr q3)
          rw [if_pos this]
        · rw [bI_n] at q
          rw [if_neg (fun z => q2 ((h1 q).mpr z))]
        · rw [bI_n] at q
          rw [if_pos ((h1 q).mp q2)]
      refine tX8_othersNow_6 ⟨fun q => ?_, fun _ => ⟨fun q => ⟨_, _, c8_areNow hW hD hd hk hi, ?_⟩, fun q => ?_⟩⟩
      · rw [hD.1, nI_le' (by omega) (by omega)] at q; omega
      · rw [nI_eq' (by omega) (by omega)] at q
        have h5 := areS_le (rr W msk k d) (rr W msk i d)
        have e : ∀ j, j < 6 → (nI (areS (rr W msk k d) (rr W msk i d)) = nI j ↔ areS (rr W msk k d) (rr W msk i d) = j) := fun j hj => nI_eq' (by omega) (by omega)
        refine h33 _ (relS cross (areS (rr W msk k d) (rr W msk i d))) (by rw [decide_eq_true q, Bool.true_and]) (fun hc => ?_) (fun hc => ?_)
        · rw [show (2 : Int32) = nI 2 from rfl, e 2 (by decide)]
          unfold relS
          rw [if_pos hc]
          exact decide_eq_true_iff.symm
        · rw [show (1 : Int32) = nI 1 from rfl, show (3 : Int32) = nI 3 from rfl, e 1 (by decide), e 3 (by decide)]
          unfold relS
          rw [if_neg (by rw [hc]; decide), Bool.or_eq_true, decide_eq_true_iff, decide_eq_true_iff]
      · rw [nI_eq' (by omega) (by omega)] at q
        refine h33 _ false (by rw [decide_eq_false (fun z => z q)]; rfl) (fun _ => ⟨fun z => absurd z (by decide), fun z => (by cases z)⟩) (fun _ => ⟨fun z => absurd z (by decide), fun z => (by cases z)⟩)
    · intro _ _
      refine tX8_othersNow_6 ⟨fun _ => ⟨rfl, rfl⟩, fun q => ?_⟩
      rw [hD.1] at q
      exact absurd (Int32.le_refl _) q
  exact loop 0 () (Nat.zero_le _) trivial
theorem otS_le {n : Nat} {R : Nat → Rg} {k : Nat} {c : Bool} : otS n R k c ≤ n := ct_le _ _
theorem c8_openOf {t : Nat → Nat} {nb : Nat} {v : Nat → Nat → Nat} {m : Nat} (hT : ToM t nb v m σ) {k d w : Nat} (hk : k < ncS t nb) (hd : d < 20) (hw : w ≤ 1) :
    ∃ (v1 : Int32) (σ' : Hp), Call E mX8_openOf [.ref 53, .int (nI k), .int (nI d), .int (nI w)] σ (some (.int v1)) σ' ∧ (v1 = (if w = 0 then nI (arg ltB (opF (woS t nb v m) k d) 9).1 else nI (arg ltB (opF (woS t nb v m) k d) 9).2) ∧ Fr sQ σ σ') := by
  have hW := woS_ok hT
  have hn : ncS t nb ≤ 8 := hW.1
  have hb : ∀ i, opF (woS t nb v m) k d i ≤ 8 := fun i => Nat.le_trans otS_le hn
  obtain ⟨s0, hc0, hR0, -, hF0⟩ := c8_asTold (E := E) hT
  have hw0 : nI w = 0 ↔ w = 0 := nI_eq' (show w < 2147483648 by omega) (show 0 < 2147483648 by decide)
  have hv9 : vp_in (nI k) 9 := vin (by omega) (by decide)
  have s57 : sQ 57 k := Or.inl (Or.inl (Or.inl (by omega)))
  refine C_X8_openOf (tX8_openOf_0 ⟨s0, hc0, hv9, ?_⟩)
  have ck : (nI k).toNatClampNeg = k := cl (by omega)
  -- a step
  have stp : ∀ (i : Nat) (s : Hp) (x5 x6 : Int32), i < 10 → (∃ x, RnM (setC (woS t nb v m) 2 k x) allE s) → Fr sQ σ s →
      (∀ s', (∃ x, RnM (setC (woS t nb v m) 2 k x) allE s') → Fr sQ σ s' → (x6 ≤ nI (opF (woS t nb v m) k d i) → Ru E mX8_openOf 22 [(0, .ref 53), (1, .int (nI k)), (2, .int (nI d)), (3, .int (nI w)), (4, .int (s0 57 k)), (5, .int x5), (6, .int x6), (7, .int (nI (i + 1)))] [] s' (PI (fun v1 σ' => v1 = (if w = 0 then nI (arg ltB (opF (woS t nb v m) k d) 9).1 else nI (arg ltB (opF (woS t nb v m) k d) 9).2) ∧ Fr sQ σ σ'))) ∧ (¬ x6 ≤ nI (opF (woS t nb v m) k d i) → Ru E mX8_openOf 22 [(0, .ref 53), (1, .int (nI k)), (2, .int (nI d)), (3, .int (nI w)), (4, .int (s0 57 k)), (5, .int (nI i)), (6, .int (nI (opF (woS t nb v m) k d i))), (7, .int (nI (i + 1)))] [] s' (PI (fun v1 σ' => v1 = (if w = 0 then nI (arg ltB (opF (woS t nb v m) k d) 9).1 else nI (arg ltB (opF (woS t nb v m) k d) 9).2) ∧ Fr sQ σ σ')))) →
      Ru E mX8_openOf 22 [(0, .ref 53), (1, .int (nI k)), (2, .int (nI d)), (3, .int (nI w)), (4, .int (s0 57 k)), (5, .int x5), (6, .int x6), (7, .int (nI i))] [] s (PI (fun v1 σ' => v1 = (if w = 0 then nI (arg ltB (opF (woS t nb v m) k d) 9).1 else nI (arg ltB (opF (woS t nb v m) k d) 9).2) ∧ Fr sQ σ σ')) := by
    intro i s x5 x6 hi ⟨x, hx⟩ hF nx
    have hR := hx.set (f := 2) (k := k) (x := i) (by decide)
    rw [setC_setC] at hR
    have hW' : okW (setC (woS t nb v m) 2 k i) := setC_ok hW (by omega) (fun z => by omega)
    obtain ⟨s1, hc1, h1, -, h3, hF1⟩ := c8_runs (E := E) hW' hR
    have hD : DyM (setC (woS t nb v m) 2 k i) allE s1 := ⟨h3.1, h1⟩
    obtain ⟨n1, n2⟩ := nx s1 ⟨i, h3⟩ ((hF.up s57).tr (hF1.mono (fun c i h => Or.inr h)))
    refine tX8_openOf_22 ?_
    rw [ck, nI_1]
    refine ⟨fun z => ?_, fun _ => ⟨hv9, s1, hc1, _, _, c8_othersNow (cross := true) hW' hD hd hk, fun z => ⟨fun _ => n1 z, fun z2 => absurd z z2⟩, fun z => ⟨fun z2 => absurd z2 z, fun _ => n2 z⟩⟩⟩
    rw [show (10 : Int32) = nI 10 from rfl, nI_le' (by decide) (by omega)] at z; omega
  have loop : ∀ i (s : Hp), i ≤ 9 → ((∃ x, RnM (setC (woS t nb v m) 2 k x) allE s) ∧ Fr sQ σ s) →
      Ru E mX8_openOf 22 [(0, .ref 53), (1, .int (nI k)), (2, .int (nI d)), (3, .int (nI w)), (4, .int (s0 57 k)), (5, .int (nI (arg ltB (opF (woS t nb v m) k d) i).1)), (6, .int (nI (arg ltB (opF (woS t nb v m) k d) i).2)), (7, .int (nI (i + 1)))] [] s (PI (fun v1 σ' => v1 = (if w = 0 then nI (arg ltB (opF (woS t nb v m) k d) 9).1 else nI (arg ltB (opF (woS t nb v m) k d) 9).2) ∧ Fr sQ σ σ')) := by
    refine for_up 9 _ _ ?_ ?_
    · intro i s hi ⟨hx, hF⟩ ih
      have hab := arg_b (lt := ltB) (n := i) (fun j _ => hb j)
      have hbi := hb (i + 1)
      refine stp (i + 1) s _ _ (by omega) hx hF (fun s' hx' hF' => ⟨fun z => ?_, fun z => ?_⟩)
      · have := ih s' ⟨hx', hF'⟩
        unfold arg at this
        rw [nI_le' (by omega) (by omega)] at z
        rw [if_neg (by rw [ltB_t]; omega)] at this
        exact this
      · have := ih s' ⟨hx', hF'⟩
        unfold arg at this
        rw [nI_le' (by omega) (by omega)] at z
        rw [if_pos (by rw [ltB_t]; omega)] at this
        exact this
    · intro s ⟨⟨x, hx⟩, hF⟩
      refine tX8_openOf_22 ?_
      rw [ck]
      refine ⟨fun _ => ⟨hv9, fun z => ⟨_, rfl, ?_, hF.up s57⟩, fun z => ⟨_, rfl, ?_, hF.up s57⟩⟩, fun z => absurd (by decide) z⟩
      · rw [if_neg (fun y => z (hw0.mpr y))]
      · rw [if_pos (hw0.mp z)]
  rw [ck]
  have hR0' : ∃ x, RnM (setC (woS t nb v m) 2 k x) allE s0 := ⟨wc (woS t nb v m) 2 k, by rw [setC_self]; exact hR0⟩
  have hF0' : Fr sQ σ s0 := hF0.mono (fun c i h => Or.inl h)
  refine stp 0 s0 (-1) 99 (by decide) hR0' hF0' (fun s' hx' hF' => ⟨fun z => ?_, fun _ => loop 0 s' (by decide) ⟨hx', hF'⟩⟩)
  rw [show (99 : Int32) = nI 99 from rfl, nI_le' (by decide) (by have := hb 0; omega)] at z
  have := hb 0
  omega
theorem c8_open {t : Nat → Nat} {nb : Nat} {v : Nat → Nat → Nat} {m : Nat} (hT : ToM t nb v m σ) (k d w : Int32) :
    ∃ (v1 : Int32) (σ' : Hp), Call E mX8_open [.ref 53, .int k, .int d, .int w] σ (some (.int v1)) σ' ∧ (v1 = opA (woS t nb v m) k d w ∧ Fr sQ σ σ') := by
  have hn : ncS t nb ≤ 8 := (woS_ok hT).1
  obtain ⟨v1, s1, hc1, rfl, hF1, -⟩ := isC8 (E := E) hT k
  refine C_X8_open (tX8_open_0 ⟨_, _, hc1, fun q => ⟨_, rfl, ?_, hF1⟩, fun q => ⟨_, _, c8_isDay, fun q2 => ⟨_, rfl, ?_, hF1⟩, fun q2 => ⟨_, _, c8_in, fun q3 => ⟨_, rfl, ?_, hF1⟩, fun q3 => ?_⟩⟩⟩)
  · rw [bI_0] at q
    exact (if_neg (fun z => q z.1)).symm
  · rw [bI_0] at q2
    exact (if_neg (fun z => q2 z.2.1)).symm
  · rw [bI_0] at q3
    exact (if_neg (fun z => q3 z.2.2)).symm
  · rw [bI_n] at q q2 q3
    have hA : opA (woS t nb v m) k d w = (if w = 0 then nI (arg ltB (opF (woS t nb v m) k.toNatClampNeg d.toNatClampNeg) 9).1 else nI (arg ltB (opF (woS t nb v m) k.toNatClampNeg d.toNatClampNeg) 9).2) := if_pos ⟨q, q2, q3⟩
    obtain ⟨k, hk, rfl⟩ := (isC_iff (by omega)).mp q
    obtain ⟨d, hd, rfl⟩ := (inN_iff 19 (by decide)).mp q2
    obtain ⟨w, hw, rfl⟩ := (inN_iff 1 (by decide)).mp q3
    obtain ⟨v3, s3, hc3, h3, hF3⟩ := c8_openOf (E := E) (hT.fr hF1) hk (show d < 20 by omega) hw
    refine ⟨_, _, hc3, _, rfl, ?_, hF1.tr hF3⟩
    rw [hA, h3, cl (by omega), cl (by omega)]
    simp only [show (0 : Int32) = nI 0 from rfl, nI_eq' (show w < 2147483648 by omega) (show 0 < 2147483648 by decide)]
theorem c8_standOf {t : Nat → Nat} {nb : Nat} {v : Nat → Nat → Nat} {m : Nat} (hT : ToM t nb v m σ) {k d w : Nat} (hk : k < ncS t nb) (hd : d < 20) (hw : w ≤ 2) :
    ∃ (v1 : Int32) (σ' : Hp), Call E mX8_standOf [.ref 53, .int (nI k), .int (nI d), .int (nI w)] σ (some (.int v1)) σ' ∧ (v1 = (if w = 0 then nI ((arg gtB (sdF (woS t nb v m) k d) 99).1 / 10) else if w = 1 then nI ((arg gtB (sdF (woS t nb v m) k d) 99).1 % 10) else nI (arg gtB (sdF (woS t nb v m) k d) 99).2) ∧ Fr sQ σ σ') := by
  have hW := woS_ok hT
  have hn : ncS t nb ≤ 8 := hW.1
  have hb : ∀ i, sdF (woS t nb v m) k d i ≤ 8 := fun i => Nat.le_trans otS_le hn
  obtain ⟨s0, hc0, hR0, -, hF0⟩ := c8_asTold (E := E) hT
  have ew : ∀ j, j < 3 → (nI w = nI j ↔ w = j) := fun j hj => nI_eq' (by omega) (by omega)
  have hv9 : vp_in (nI k) 9 := vin (by omega) (by decide)
  have s55 : sQ 55 k := Or.inl (Or.inl (Or.inl (by omega)))
  have s56 : sQ 56 k := Or.inl (Or.inl (Or.inl (by omega)))
  have ck : (nI k).toNatClampNeg = k := cl (by omega)
  refine C_X8_standOf (tX8_standOf_0 ⟨s0, hc0, hv9, ?_⟩)
  rw [ck]
  generalize hΨ : (fun (v1 : Int32) (σ' : Hp) => v1 = (if w = 0 then nI ((arg gtB (sdF (woS t nb v m) k d) 99).1 / 10) else if w = 1 then nI ((arg gtB (sdF (woS t nb v m) k d) 99).1 % 10) else nI (arg gtB (sdF (woS t nb v m) k d) 99).2) ∧ Fr sQ σ σ') = Ψ
  have stp : ∀ (i : Nat) (s : Hp) (x6 x7 : Int32), i < 100 → (∃ x y, RnM (setC (setC (woS t nb v m) 0 k x) 1 k y) allE s) → Fr sQ σ s →
      (∀ s', (∃ x y, RnM (setC (setC (woS t nb v m) 0 k x) 1 k y) allE s') → Fr sQ σ s' → (nI (sdF (woS t nb v m) k d i) ≤ x7 → Ru E mX8_standOf 29 [(0, .ref 53), (1, .int (nI k)), (2, .int (nI d)), (3, .int (nI w)), (4, .int (s0 55 k)), (5, .int (s0 56 k)), (6, .int x6), (7, .int x7), (8, .int (nI (i + 1)))] [] s' (PI Ψ)) ∧ (¬ nI (sdF (woS t nb v m) k d i) ≤ x7 → Ru E mX8_standOf 29 [(0, .ref 53), (1, .int (nI k)), (2, .int (nI d)), (3, .int (nI w)), (4, .int (s0 55 k)), (5, .int (s0 56 k)), (6, .int (nI i)), (7, .int (nI (sdF (woS t nb v m) k d i))), (8, .int (nI (i + 1)))] [] s' (PI Ψ))) →
      Ru E mX8_standOf 29 [(0, .ref 53), (1, .int (nI k)), (2, .int (nI d)), (3, .int (nI w)), (4, .int (s0 55 k)), (5, .int (s0 56 k)), (6, .int x6), (7, .int x7), (8, .int (nI i))] [] s (PI Ψ) := by
    intro i s x6 x7 hi ⟨x, y, hx⟩ hF nx
    have hR := (hx.set (f := 0) (k := k) (x := i / 10) (by decide)).set (f := 1) (k := k) (x := i % 10) (by decide)
    rw [setC_comm (by decide), setC_setC, setC_comm (f := 1) (g := 0) (by decide), setC_setC] at hR
    have hW' : okW (setC (setC (woS t nb v m) 0 k (i / 10)) 1 k (i % 10)) := setC_ok (setC_ok hW (by omega) (fun z => by omega)) (by omega) (fun z => by omega)
    have hdv : nI i / 10 = nI (i / 10) := pk_div (d := 10) (by omega) (by decide) (by decide)
    have hrm : nI i - nI i / 10 * 10 = nI (i % 10) := pk_rem (d := 10) (by omega) (by decide) (by decide)
    obtain ⟨s1, hc1, h1, -, h3, hF1⟩ := c8_runs (E := E) hW' hR
    have hD : DyM (setC (setC (woS t nb v m) 0 k (i / 10)) 1 k (i % 10)) allE s1 := ⟨h3.1, h1⟩
    obtain ⟨n1, n2⟩ := nx s1 ⟨_, _, h3⟩ (((hF.up s55).up s56).tr (hF1.mono (fun c i h => Or.inr h)))
    refine tX8_standOf_29 ?_
    rw [ck, nI_1, hrm, hdv]
    refine ⟨fun z => ?_, fun _ => ⟨hv9, s1, hc1, _, _, c8_othersNow (cross := false) hW' hD hd hk, fun z => ⟨fun _ => n1 z, fun z2 => absurd z z2⟩, fun z => ⟨fun z2 => absurd z2 z, fun _ => n2 z⟩⟩⟩
    rw [show (100 : Int32) = nI 100 from rfl, nI_le' (by decide) (by omega)] at z; omega
  have loop : ∀ i (s : Hp), i ≤ 99 → ((∃ x y, RnM (setC (setC (woS t nb v m) 0 k x) 1 k y) allE s) ∧ Fr sQ σ s) →
      Ru E mX8_standOf 29 [(0, .ref 53), (1, .int (nI k)), (2, .int (nI d)), (3, .int (nI w)), (4, .int (s0 55 k)), (5, .int (s0 56 k)), (6, .int (nI (arg gtB (sdF (woS t nb v m) k d) i).1)), (7, .int (nI (arg gtB (sdF (woS t nb v m) k d) i).2)), (8, .int (nI (i + 1)))] [] s (PI Ψ) := by
    refine for_up 99 _ _ ?_ ?_
    · intro i s hi ⟨hx, hF⟩ ih
      have hab := arg_b (lt := gtB) (n := i) (fun j _ => hb j)
      have hbi := hb (i + 1)
      refine stp (i + 1) s _ _ (by omega) hx hF (fun s' hx' hF' => ⟨fun z => ?_, fun z => ?_⟩)
      · have := ih s' ⟨hx', hF'⟩
        unfold arg at this
        rw [nI_le' (by omega) (by omega)] at z
        rw [if_neg (by rw [gtB_t]; omega)] at this
        exact this
      · have := ih s' ⟨hx', hF'⟩
        unfold arg at this
        rw [nI_le' (by omega) (by omega)] at z
        rw [if_pos (by rw [gtB_t]; omega)] at this
        exact this
    · intro s ⟨hx, hF⟩
      have ha := arg_le gtB (sdF (woS t nb v m) k d) 99
      have hdv := pk_div (a := (arg gtB (sdF (woS t nb v m) k d) 99).1) (d := 10) (by omega) (by decide) (by decide)
      have hrm := pk_rem (a := (arg gtB (sdF (woS t nb v m) k d) 99).1) (d := 10) (by omega) (by decide) (by decide)
      rw [show nI 10 = (10 : Int32) from rfl] at hdv hrm
      refine tX8_standOf_29 ?_
      rw [ck, hrm, hdv]
      subst hΨ
      refine ⟨fun _ => ⟨hv9, fun z => ⟨fun z2 => ⟨_, rfl, ?_, (hF.up s55).up s56⟩, fun z2 => ⟨_, rfl, ?_, (hF.up s55).up s56⟩⟩, fun z => ⟨_, rfl, ?_, (hF.up s55).up s56⟩⟩, fun z => absurd (by decide) z⟩
      · rw [if_neg (fun y => z ((ew 0 (by decide)).mpr y)), if_neg (fun y => z2 ((ew 1 (by decide)).mpr y))]
      · rw [if_neg (fun y => z ((ew 0 (by decide)).mpr y)), if_pos ((ew 1 (by decide)).mp z2)]
      · rw [if_pos ((ew 0 (by decide)).mp z)]
  have hR0' : ∃ x y, RnM (setC (setC (woS t nb v m) 0 k x) 1 k y) allE s0 := ⟨wc (woS t nb v m) 0 k, wc (woS t nb v m) 1 k, by rw [setC_self, setC_self]; exact hR0⟩
  have hF0' : Fr sQ σ s0 := hF0.mono (fun c i h => Or.inl h)
  refine stp 0 s0 (-1) (-1) (by decide) hR0' hF0' (fun s' hx' hF' => ⟨fun z => ?_, fun _ => loop 0 s' (by decide) ⟨hx', hF'⟩⟩)
  rw [Int32.le_iff_toInt_le, nI_toInt (by have := hb 0; omega)] at z
  have : (-1 : Int32).toInt = -1 := by decide
  omega
theorem c8_stand {t : Nat → Nat} {nb : Nat} {v : Nat → Nat → Nat} {m : Nat} (hT : ToM t nb v m σ) (k d w : Int32) :
    ∃ (v1 : Int32) (σ' : Hp), Call E mX8_stand [.ref 53, .int k, .int d, .int w] σ (some (.int v1)) σ' ∧ (v1 = sdA (woS t nb v m) k d w ∧ Fr sQ σ σ') := by
  have hn : ncS t nb ≤ 8 := (woS_ok hT).1
  obtain ⟨v1, s1, hc1, rfl, hF1, -⟩ := isC8 (E := E) hT k
  refine C_X8_stand (tX8_stand_0 ⟨_, _, hc1, fun q => ⟨_, rfl, ?_, hF1⟩, fun q => ⟨_, _, c8_isDay, fun q2 => ⟨_, rfl, ?_, hF1⟩, fun q2 => ⟨_, _, c8_in, fun q3 => ⟨_, rfl, ?_, hF1⟩, fun q3 => ?_⟩⟩⟩)
  · rw [bI_0] at q
    exact (if_neg (fun z => q z.1)).symm
  · rw [bI_0] at q2
    exact (if_neg (fun z => q2 z.2.1)).symm
  · rw [bI_0] at q3
    exact (if_neg (fun z => q3 z.2.2)).symm
  · rw [bI_n] at q q2 q3
    have hA : sdA (woS t nb v m) k d w = (if w = 0 then nI ((arg gtB (sdF (woS t nb v m) k.toNatClampNeg d.toNatClampNeg) 99).1 / 10) else if w = 1 then nI ((arg gtB (sdF (woS t nb v m) k.toNatClampNeg d.toNatClampNeg) 99).1 % 10) else nI (arg gtB (sdF (woS t nb v m) k.toNatClampNeg d.toNatClampNeg) 99).2) := if_pos ⟨q, q2, q3⟩
    obtain ⟨k, hk, rfl⟩ := (isC_iff (by omega)).mp q
    obtain ⟨d, hd, rfl⟩ := (inN_iff 19 (by decide)).mp q2
    obtain ⟨w, hw, rfl⟩ := (inN_iff 2 (by decide)).mp q3
    obtain ⟨v3, s3, hc3, h3, hF3⟩ := c8_standOf (E := E) (hT.fr hF1) hk (show d < 20 by omega) hw
    refine ⟨_, _, hc3, _, rfl, ?_, hF1.tr hF3⟩
    rw [hA, h3, cl (by omega), cl (by omega)]
    simp only [show (0 : Int32) = nI 0 from rfl, show (1 : Int32) = nI 1 from rfl, nI_eq' (show w < 2147483648 by omega) (show 0 < 2147483648 by decide), nI_eq' (show w < 2147483648 by omega) (show 1 < 2147483648 by decide)]
end MP
