/-! THE REFERENCE: pairs, closed, holes, ringed, meets -/
section MQ2
variable {E : Ev} {σ : Hp}
theorem eq4 {n : Nat} (h : n ≤ 4) : nI n = 4 ↔ n = 4 := nI_eq' (show n < 2147483648 by omega) (show 4 < 2147483648 by decide)
theorem c8_pairsNow {W : Wo} {msk : Nat → Bool} (hW : okW W) (hD : DyM W msk σ) {d w : Nat} (hd : d < 20) (hw : w ≤ 1) :
    Call E mX8_pairsNow [.ref 53, .int (nI d), .int (nI w)] σ (some (.int (nI (prS (wn W) (fun k => rr W msk k d) w)))) σ := by
  have hn := hW.1
  have hA : ∀ k, k < wn W → ga (rr W msk k d) ≤ 4 := fun k hk => (pre_ok (msk := msk) hW hk (d + 1)).2.2.2
  refine K_X8_pairsNow (tX8_pairsNow_0 ?_)
  have h0w : nI w = 0 ↔ w = 0 := nI_eq' (show w < 2147483648 by omega) (show 0 < 2147483648 by decide)
  have outer : ∀ a (s : Unit), a ≤ wn W → True → Ru E mX8_pairsNow 5 [(0, .ref 53), (1, .int (nI d)), (2, .int (nI w)), (3, .int (nI (sm (fun a => ct (fun b => decide (a < b) && isP w (rr W msk a d) (rr W msk b d)) (wn W)) a))), (4, .int (nI a))] [] σ (PE (some (.int (nI (prS (wn W) (fun k => rr W msk k d) w)))) σ) := by
    refine for_up (wn W) _ _ ?_ ?_
    · intro a _ ha _ ih
      refine tX8_pairsNow_5 ⟨fun q => ?_, fun _ => ?_⟩
      · rw [hD.1, nI_le' (by omega) (by omega)] at q; omega
      · have inner : ∀ b (c : Nat), b ≤ wn W → (a + 1 ≤ b ∧ c = sm (fun a => ct (fun b => decide (a < b) && isP w (rr W msk a d) (rr W msk b d)) (wn W)) a + ct (fun b => decide (a < b) && isP w (rr W msk a d) (rr W msk b d)) b) →
            Ru E mX8_pairsNow 20 [(0, .ref 53), (1, .int (nI d)), (2, .int (nI w)), (3, .int (nI c)), (4, .int (nI a)), (5, .int (nI b))] [] σ (PE (some (.int (nI (prS (wn W) (fun k => rr W msk k d) w)))) σ) := by
          refine for_up (wn W) _ _ ?_ ?_
          · intro b c hb ⟨hab, hc⟩ ih2
            have nxt : ∀ (p : Bool) (z : Int32), isP w (rr W msk a d) (rr W msk b d) = p → z = nI c + (if p = true then 1 else 0) → Ru E mX8_pairsNow 20 [(0, .ref 53), (1, .int (nI d)), (2, .int (nI w)), (3, .int z), (4, .int (nI a)), (5, .int (nI b + 1))] [] σ (PE (some (.int (nI (prS (wn W) (fun k => rr W msk k d) w)))) σ) := by
              intro p z hp hz
              have e : z = nI (c + (if p = true then 1 else 0)) := by
                rw [hz]
                cases p
                · exact Int32.add_zero _
                · exact nI_1 c
              rw [e, nI_1]
              refine ih2 _ ⟨by omega, ?_⟩
              rw [hc]
              show _ = _ + (ct _ b + _)
              have hif : (decide (a < b) && isP w (rr W msk a d) (rr W msk b d)) = p := by rw [decide_eq_true (show a < b by omega), Bool.true_and, hp]
              simp only [hif]
              exact Nat.add_assoc _ _ _
            have fin : ∀ (p q : Bool) (x7 : Int32), isP w (rr W msk a d) (rr W msk b d) = (p && q) → Ru E mX8_pairsNow 114 [(0, .ref 53), (1, .int (nI d)), (2, .int (nI w)), (3, .int (nI c)), (4, .int (nI a)), (5, .int (nI b)), (6, .int (bI (p = true))), (7, .int x7)] [.int (bI (q = true))] σ (PE (some (.int (nI (prS (wn W) (fun k => rr W msk k d) w)))) σ) := by
              intro p q x7 hp
              refine tX8_pairsNow_114 ⟨fun z => nxt (p && q) _ hp ?_, fun z => ⟨fun z2 => nxt (p && q) _ hp ?_, fun z2 => nxt (p && q) _ hp ?_⟩⟩
              · rw [bI_0] at z
                have : p = false := by simpa using z
                subst this; rfl
              · rw [bI_0] at z2
                have : q = false := by simpa using z2
                subst this
                rw [Bool.and_false]; rfl
              · rw [bI_n] at z z2
                subst z; subst z2; rfl
            have mid : ∀ p : Bool, p = (decide (ga (rr W msk a d) = 4) && decide (ga (rr W msk b d) = 4)) → Ru E mX8_pairsNow 66 [(0, .ref 53), (1, .int (nI d)), (2, .int (nI w)), (3, .int (nI c)), (4, .int (nI a)), (5, .int (nI b))] [.int (bI (p = true))] σ (PE (some (.int (nI (prS (wn W) (fun k => rr W msk k d) w)))) σ) := by
              intro p hp
              have hE : ∀ q : Bool, q = (if w = 0 then decide (areS (rr W msk a d) (rr W msk b d) = 2) else (decide (areS (rr W msk a d) (rr W msk b d) = 1) || decide (areS (rr W msk a d) (rr W msk b d) = 3))) → isP w (rr W msk a d) (rr W msk b d) = (p && q) := by
                intro q hq
                unfold isP
                rw [hp, hq, Bool.and_assoc]
              have h5 := areS_le (rr W msk a d) (rr W msk b d)
              have e : ∀ j, j < 6 → (nI (areS (rr W msk a d) (rr W msk b d)) = nI j ↔ areS (rr W msk a d) (rr W msk b d) = j) := fun j hj => nI_eq' (by omega) (by omega)
              refine tX8_pairsNow_66 ⟨_, _, c8_areNow hW hD hd ha hb, fun q => ⟨fun q2 => ?_, fun q2 => ⟨fun q3 => ?_, fun q3 => ?_⟩⟩, fun q => ⟨fun q2 => ?_, fun q2 => ?_⟩⟩
              · have q2 := (e 1 (by decide)).mp q2
                exact fin p true _ (hE true (by rw [if_neg (fun z => q (h0w.mpr z)), q2]; rfl))
              · have q2 := fun z => q2 ((e 1 (by decide)).mpr z)
                have q3 := fun z => q3 ((e 3 (by decide)).mpr z)
                exact fin p false _ (hE false (by rw [if_neg (fun z => q (h0w.mpr z)), decide_eq_false q2, decide_eq_false q3]; rfl))
              · have q3 := (e 3 (by decide)).mp q3
                exact fin p true _ (hE true (by rw [if_neg (fun z => q (h0w.mpr z)), q3]; rfl))
              · have q2 := fun z => q2 ((e 2 (by decide)).mpr z)
                exact fin p false _ (hE false (by rw [if_pos (h0w.mp q), decide_eq_false q2]))
              · have q2 := (e 2 (by decide)).mp q2
                exact fin p true _ (hE true (by rw [if_pos (h0w.mp q), q2]; rfl))
            have ra := (hD.2 d hd a ha).2.2.2.2.1
            have rb := (hD.2 d hd b hb).2.2.2.2.1
            refine tX8_pairsNow_20 ?_
            rw [ix8, ix8, cl (show 8 * d + a < 2147483648 by omega), cl (show 8 * d + b < 2147483648 by omega), ra, rb, hD.1, eq4 (hA a ha), eq4 (hA b hb)]
            refine ⟨fun q => ?_, fun _ => ⟨vin (by omega) (by decide), fun q => ?_, fun q => ⟨vin (by omega) (by decide), fun q2 => ?_, fun q2 => ?_⟩⟩⟩
            · rw [nI_le' (by omega) (by omega)] at q; omega
            · exact mid false (by rw [decide_eq_false q]; rfl)
            · exact mid false (by rw [decide_eq_false q2, Bool.and_false])
            · exact mid true (by rw [decide_eq_true q, decide_eq_true q2]; rfl)
          · intro c ⟨hab, hc⟩
            refine tX8_pairsNow_20 ⟨fun _ => ?_, fun q => ?_⟩
            · rw [nI_1, hc]
              exact ih () trivial
            · rw [hD.1] at q
              exact absurd (Int32.le_refl _) q
        rw [nI_1]
        refine inner (a + 1) _ (by omega) ⟨Nat.le_refl _, ?_⟩
        rw [ct_none (n := a + 1) (fun i hi => by rw [decide_eq_false (show ¬ a < i by omega)]; rfl)]
        rfl
    · intro _ _
      refine tX8_pairsNow_5 ⟨fun _ => ⟨rfl, rfl⟩, fun q => ?_⟩
      rw [hD.1] at q
      exact absurd (Int32.le_refl _) q
  exact outer 0 () (Nat.zero_le _) trivial
theorem c8_pairsOf {t : Nat → Nat} {nb : Nat} {v : Nat → Nat → Nat} {m : Nat} (hT : ToM t nb v m σ) {d w : Nat} (hd : d < 20) (hw : w ≤ 1) :
    ∃ (v1 : Int32) (σ' : Hp), Call E mX8_pairsOf [.ref 53, .int (nI d), .int (nI w)] σ (some (.int v1)) σ' ∧ (v1 = nI (prS (ncS t nb) (fun k => rr (woS t nb v m) allE k d) w) ∧ Fr sQ σ σ') := by
  obtain ⟨s, hc, hD, hF, -⟩ := runsT (E := E) hT
  exact C_X8_pairsOf (tX8_pairsOf_0 ⟨s, hc, _, _, c8_pairsNow (woS_ok hT) hD hd hw, _, rfl, rfl, hF⟩)
theorem c8_pairs {t : Nat → Nat} {nb : Nat} {v : Nat → Nat → Nat} {m : Nat} (hT : ToM t nb v m σ) (d w : Int32) :
    ∃ (v1 : Int32) (σ' : Hp), Call E mX8_pairs [.ref 53, .int d, .int w] σ (some (.int v1)) σ' ∧ (v1 = prA (woS t nb v m) d w ∧ Fr sQ σ σ') := by
  refine C_X8_pairs (tX8_pairs_0 ⟨_, _, c8_isDay, fun q => ⟨_, rfl, ?_, Fr.rf⟩, fun q => ⟨_, _, c8_in, fun q2 => ⟨_, rfl, ?_, Fr.rf⟩, fun q2 => ?_⟩⟩)
  · rw [bI_0] at q
    unfold prA
    rw [if_neg (fun z => q z.1)]
  · rw [bI_0] at q2
    unfold prA
    rw [if_neg (fun z => q2 z.2)]
  · rw [bI_n] at q q2
    have hA : prA (woS t nb v m) d w = nI (prS (ncS t nb) (fun k => rr (woS t nb v m) allE k d.toNatClampNeg) w.toNatClampNeg) := by
      unfold prA
      exact if_pos ⟨q, q2⟩
    obtain ⟨d, hd, rfl⟩ := (inN_iff 19 (by decide)).mp q
    obtain ⟨w, hw, rfl⟩ := (inN_iff 1 (by decide)).mp q2
    obtain ⟨v3, s3, hc3, h3, hF3⟩ := c8_pairsOf (E := E) hT (show d < 20 by omega) hw
    refine ⟨_, _, hc3, _, rfl, ?_, hF3⟩
    rw [hA, h3, cl (by omega), cl (by omega)]
theorem c8_closedNow {W : Wo} {msk : Nat → Bool} (hW : okW W) (hD : DyM W msk σ) {d : Nat} (hd : d < 20) :
    Call E mX8_closedNow [.ref 53, .int (nI d)] σ (some (.int (clS (wn W) (fun k => rr W msk k d)))) σ := by
  have hn := hW.1
  have hA : ∀ k, k < wn W → ga (rr W msk k d) ≤ 4 := fun k hk => (pre_ok (msk := msk) hW hk (d + 1)).2.2.2
  refine K_X8_closedNow (tX8_closedNow_0 ?_)
  have loop : ∀ k (s : Unit), k ≤ wn W → True → Ru E mX8_closedNow 4 [(0, .ref 53), (1, .int (nI d)), (2, .int (bs (fun k => decide (ga (rr W msk k d) = 4)) k)), (3, .int (nI k))] [] σ (PE (some (.int (clS (wn W) (fun k => rr W msk k d)))) σ) := by
    refine for_up (wn W) _ _ ?_ ?_
    · intro k _ hk _ ih
      have ra := (hD.2 d hd k hk).2.2.2.2.1
      have ih := ih () trivial
      unfold bs at ih
      refine tX8_closedNow_4 ?_
      rw [ix8, cl (show 8 * d + k < 2147483648 by omega), ra, hD.1, eq4 (hA k hk), nI_1]
      refine ⟨fun q => ?_, fun _ => ⟨vin (by omega) (by decide), fun q => ?_, fun q => ?_⟩⟩
      · rw [nI_le' (by omega) (by omega)] at q; omega
      · rw [decide_eq_false q] at ih
        exact ih
      · rw [decide_eq_true q] at ih
        exact ih
    · intro _ _
      refine tX8_closedNow_4 ⟨fun _ => ⟨rfl, rfl⟩, fun q => ?_⟩
      rw [hD.1] at q
      exact absurd (Int32.le_refl _) q
  exact loop 0 () (Nat.zero_le _) trivial
theorem c8_closedOf {t : Nat → Nat} {nb : Nat} {v : Nat → Nat → Nat} {m : Nat} (hT : ToM t nb v m σ) {d : Nat} (hd : d < 20) :
    ∃ (v1 : Int32) (σ' : Hp), Call E mX8_closedOf [.ref 53, .int (nI d)] σ (some (.int v1)) σ' ∧ (v1 = clS (ncS t nb) (fun k => rr (woS t nb v m) allE k d) ∧ Fr sQ σ σ') := by
  obtain ⟨s, hc, hD, hF, -⟩ := runsT (E := E) hT
  exact C_X8_closedOf (tX8_closedOf_0 ⟨s, hc, _, _, c8_closedNow (woS_ok hT) hD hd, _, rfl, rfl, hF⟩)
theorem c8_closed {t : Nat → Nat} {nb : Nat} {v : Nat → Nat → Nat} {m : Nat} (hT : ToM t nb v m σ) (d : Int32) :
    ∃ (v1 : Int32) (σ' : Hp), Call E mX8_closed [.ref 53, .int d] σ (some (.int v1)) σ' ∧ (v1 = clA (woS t nb v m) d ∧ Fr sQ σ σ') := by
  refine C_X8_closed (tX8_closed_0 ⟨_, _, c8_isDay, fun q => ⟨_, rfl, ?_, Fr.rf⟩, fun q => ?_⟩)
  · rw [bI_0] at q
    unfold clA
    rw [if_neg q]
  · rw [bI_n] at q
    have hA : clA (woS t nb v m) d = clS (ncS t nb) (fun k => rr (woS t nb v m) allE k d.toNatClampNeg) := by
      unfold clA
      exact if_pos q
    obtain ⟨d, hd, rfl⟩ := (inN_iff 19 (by decide)).mp q
    obtain ⟨v3, s3, hc3, h3, hF3⟩ := c8_closedOf (E := E) hT (show d < 20 by omega)
    refine ⟨_, _, hc3, _, rfl, ?_, hF3⟩
    rw [hA, h3, cl (by omega)]
theorem rem8 {n : Nat} (h : n < 2147483648) : nI n - nI n / 8 * 8 = nI (n % 8) := pk_rem (d := 8) h (by decide) (by decide)
theorem c8_isNew {W : Wo} {msk : Nat → Bool} (hW : okW W) (hD : DyM W msk σ) {p : Nat} (hp : p < 160) (hpn : p % 8 < wn W) :
    Call E mX8_isNew [.ref 53, .int (nI p)] σ (some (.int (bI (hNew (wn W) (rr W msk) p = true)))) σ := by
  have hn := hW.1
  have dy : ∀ q, q < 160 → q % 8 < wn W → σ 73 q = gx (rr W msk (q % 8) (q / 8)) ∧ σ 74 q = gy (rr W msk (q % 8) (q / 8)) := by
    intro q hq hqn
    have := hD.2 (q / 8) (by omega) (q % 8) hqn
    unfold RgA at this
    rw [show 8 * (q / 8) + q % 8 = q by omega] at this
    exact ⟨this.1, this.2.1⟩
  refine K_X8_isNew (tX8_isNew_0 ?_)
  have loop : ∀ q (b : Bool), q ≤ p → (b = true ↔ ∀ q', q' < q → ¬ (q' % 8 < wn W ∧ hSame (rr W msk) p q' = true)) → Ru E mX8_isNew 4 [(0, .ref 53), (1, .int (nI p)), (2, .int (bI (b = true))), (3, .int (nI q))] [] σ (PE (some (.int (bI (hNew (wn W) (rr W msk) p = true)))) σ) := by
    refine for_up p _ _ ?_ ?_
    · intro q b hq hb ih
      have put : ∀ b' : Bool, (b' = true ↔ (b = true ∧ ¬ (q % 8 < wn W ∧ hSame (rr W msk) p q = true))) → ∀ z : Int32, z = bI (b' = true) → Ru E mX8_isNew 4 [(0, .ref 53), (1, .int (nI p)), (2, .int z), (3, .int (nI q + 1))] [] σ (PE (some (.int (bI (hNew (wn W) (rr W msk) p = true)))) σ) := by
        intro b' hb' z hz
        rw [hz, nI_1]
        refine ih b' ?_
        rw [hb', hb]
        constructor
        · intro h q' hq'
          rcases Nat.lt_or_ge q' q with y | y
          · exact h.1 q' y
          · rw [show q' = q by omega]; exact h.2
        · intro h
          exact ⟨fun q' hq' => h q' (by omega), h q (by omega)⟩
      refine tX8_isNew_4 ?_
      rw [hD.1, rem8 (show q < 2147483648 by omega), cl (show q < 2147483648 by omega), cl (show p < 2147483648 by omega)]
      refine ⟨fun z => ?_, fun _ => ⟨fun z => ?_, fun z => ⟨fun z2 => ?_, fun z2 => ⟨vin (by omega) (by decide), vin (by omega) (by decide), fun z3 => ?_, fun z3 => ⟨fun z4 => ?_, fun z4 => ?_⟩⟩⟩⟩⟩
      · rw [nI_le' (by omega) (by omega)] at z; omega
      · rw [bI_0] at z
        exact put false ⟨fun y => (by cases y), fun y => absurd y.1 z⟩ _ rfl
      · rw [bI_n] at z
        rw [nI_le' (by omega) (by omega)] at z2
        exact put true ⟨fun _ => ⟨z, fun y => by omega⟩, fun _ => rfl⟩ _ rfl
      all_goals
        rw [bI_n] at z
        rw [nI_le' (by omega) (by omega)] at z2
        obtain ⟨e1, e2⟩ := dy q (by omega) (by omega)
        obtain ⟨e3, e4⟩ := dy p hp hpn
        rw [e1, e3] at z3
      · refine put true ⟨fun _ => ⟨z, fun y => ?_⟩, fun _ => rfl⟩ _ rfl
        have := y.2
        unfold hSame at this
        rw [decide_eq_false z3] at this
        exact absurd this (by simp)
      · rw [e2, e4] at z4
        refine put false ⟨fun y => (by cases y), fun y => ?_⟩ _ rfl
        refine absurd ⟨by omega, ?_⟩ y.2
        unfold hSame
        rw [decide_eq_true z3, decide_eq_true z4]
        rfl
      · rw [e2, e4] at z4
        refine put true ⟨fun _ => ⟨z, fun y => ?_⟩, fun _ => rfl⟩ _ rfl
        have := y.2
        unfold hSame at this
        rw [decide_eq_false z4, Bool.and_false] at this
        exact absurd this (by simp)
    · intro b hb
      refine tX8_isNew_4 ⟨fun _ => ⟨bI_nar, ?_, rfl⟩, fun z => absurd (Int32.le_refl _) z⟩
      have : b = true ↔ hNew (wn W) (rr W msk) p = true := by
        rw [hb]
        unfold hNew
        exact decide_eq_true_iff.symm
      rw [bI_congr this]
  exact loop 0 true (Nat.zero_le _) ⟨fun _ q' hq' => by omega, fun _ => rfl⟩
theorem c8_holesOf {t : Nat → Nat} {nb : Nat} {v : Nat → Nat → Nat} {m : Nat} (hT : ToM t nb v m σ) :
    ∃ (v1 : Int32) (σ' : Hp), Call E mX8_holesOf [.ref 53] σ (some (.int v1)) σ' ∧ (v1 = nI (hoS (ncS t nb) (rr (woS t nb v m) allE)) ∧ Fr sQ σ σ') := by
  have hW := woS_ok hT
  have hn : ncS t nb ≤ 8 := hW.1
  obtain ⟨s, hc, hD, hF, -⟩ := runsT (E := E) hT
  refine C_X8_holesOf (tX8_holesOf_0 ⟨s, hc, ?_⟩)
  have loop : ∀ p (u : Unit), p ≤ 160 → True → Ru E mX8_holesOf 8 [(0, .ref 53), (1, .int (nI (ct (fun p => decide (p % 8 < ncS t nb) && hNew (ncS t nb) (rr (woS t nb v m) allE) p) p))), (2, .int (nI p))] [] s (PI (fun v1 σ' => v1 = nI (hoS (ncS t nb) (rr (woS t nb v m) allE)) ∧ Fr sQ σ σ')) := by
    refine for_up 160 _ _ ?_ ?_
    · intro p _ hp _ ih
      have ih := ih () trivial
      unfold ct at ih
      refine tX8_holesOf_8 ?_
      rw [hD.1, rem8 (show p < 2147483648 by omega), nI_1]
      refine ⟨fun z => ?_, fun _ => ⟨fun z => ?_, fun z => ?_⟩⟩
      · rw [show (160 : Int32) = nI 160 from rfl, nI_le' (by decide) (by omega)] at z; omega
      · have z : ncS t nb ≤ p % 8 := (nI_le' (show ncS t nb < 2147483648 by omega) (show p % 8 < 2147483648 by omega)).mp z
        rw [decide_eq_false (show ¬ p % 8 < ncS t nb by omega)] at ih
        rw [Int32.add_zero]
        exact ih
      · have z : ¬ ncS t nb ≤ p % 8 := fun y => z ((nI_le' (show ncS t nb < 2147483648 by omega) (show p % 8 < 2147483648 by omega)).mpr y)
        rw [decide_eq_true (show p % 8 < ncS t nb by omega), Bool.true_and] at ih
        refine ⟨_, _, c8_isNew hW hD hp (show p % 8 < ncS t nb by omega), fun y => ?_, fun y => ?_⟩
        · have y : ¬ hNew (ncS t nb) (rr (woS t nb v m) allE) p = true := bI_0.mp y
          rw [Int32.add_zero]
          rw [if_neg y] at ih
          exact ih
        · have y : hNew (ncS t nb) (rr (woS t nb v m) allE) p = true := bI_n.mp y
          rw [if_pos y] at ih
          rw [nI_1]
          exact ih
    · intro _ _
      exact tX8_holesOf_8 ⟨fun _ => ⟨_, rfl, rfl, hF⟩, fun z => absurd (by decide) z⟩
  exact loop 0 () (Nat.zero_le _) trivial
theorem c8_holes {t : Nat → Nat} {nb : Nat} {v : Nat → Nat → Nat} {m : Nat} (hT : ToM t nb v m σ) :
    ∃ (v1 : Int32) (σ' : Hp), Call E mX8_holes [.ref 53] σ (some (.int v1)) σ' ∧ (v1 = nI (hoS (ncS t nb) (rr (woS t nb v m) allE)) ∧ Fr sQ σ σ') := by
  obtain ⟨v1, s, hc, h⟩ := c8_holesOf (E := E) hT
  exact C_X8_holes (tX8_holes_0 ⟨_, _, hc, _, rfl, h⟩)
theorem c8_ringedOf {t : Nat → Nat} {nb : Nat} {v : Nat → Nat → Nat} {m : Nat} (hT : ToM t nb v m σ) {k : Nat} (hk : k < ncS t nb) :
    ∃ (v1 : Int32) (σ' : Hp), Call E mX8_ringedOf [.ref 53, .int (nI k)] σ (some (.int v1)) σ' ∧ (v1 = rgS (rr (woS t nb v m) allE) k ∧ Fr sQ σ σ') := by
  have hW := woS_ok hT
  have hn : ncS t nb ≤ 8 := hW.1
  have hA : ∀ d, ga (rr (woS t nb v m) allE k d) ≤ 4 := fun d => (pre_ok (msk := allE) hW hk (d + 1)).2.2.2
  obtain ⟨s, hc, hD, hF, -⟩ := runsT (E := E) hT
  refine C_X8_ringedOf (tX8_ringedOf_0 ⟨s, hc, ?_⟩)
  -- d days are still ahead; f: the first closed one from d on, or 20
  have loop : ∀ d f, d ≤ 20 → d ≤ f → f ≤ 20 → (∀ j, d ≤ j → j < f → ¬ ga (rr (woS t nb v m) allE k j) = 4) → (f < 20 → ga (rr (woS t nb v m) allE k f) = 4) →
      Ru E mX8_ringedOf 9 [(0, .ref 53), (1, .int (nI k)), (2, .int (if f < 20 then nI f else -1)), (3, .int (nI d + (-1)))] [] s (PI (fun v1 σ' => v1 = rgS (rr (woS t nb v m) allE) k ∧ Fr sQ σ σ')) := by
    intro d
    induction d with
    | zero =>
      intro f h1 h2 h3 h4 h5
      refine tX8_ringedOf_9 ⟨fun _ => ⟨_, rfl, ?_, hF⟩, fun z => absurd (by decide) z⟩
      have e : fst1 (fun d => decide (ga (rr (woS t nb v m) allE k d) = 4)) 20 = f := fst1_eq h3 (fun j hj => decide_eq_false (h4 j (Nat.zero_le _) hj)) (by
        rcases Nat.lt_or_ge f 20 with y | y
        · exact Or.inr (decide_eq_true (h5 y))
        · exact Or.inl (by omega))
      unfold rgS
      rw [e]
    | succ d ih =>
      intro f h1 h2 h3 h4 h5
      have ra := (hD.2 d (by omega) k hk).2.2.2.2.1
      rw [pk_m1]
      refine tX8_ringedOf_9 ?_
      rw [ix8, cl (show 8 * d + k < 2147483648 by omega), ra, eq4 (hA d)]
      refine ⟨fun z => absurd z (nI_pos (by omega)), fun _ => ⟨vin (by omega) (by decide), fun z => ih f (by omega) (by omega) h3 (fun j a b => ?_) h5, fun z => ?_⟩⟩
      · rcases Nat.lt_or_ge d j with y | y
        · exact h4 j (by omega) b
        · rw [show j = d by omega]; exact z
      · have := ih d (by omega) (Nat.le_refl _) (by omega) (fun j a b => by omega) (fun _ => z)
        rw [if_pos (by omega)] at this
        exact this
  have := loop 20 20 (by decide) (by decide) (by decide) (fun j a b => by omega) (fun y => by omega)
  rw [if_neg (by decide)] at this
  exact this
theorem c8_ringed {t : Nat → Nat} {nb : Nat} {v : Nat → Nat → Nat} {m : Nat} (hT : ToM t nb v m σ) (k : Int32) :
    ∃ (v1 : Int32) (σ' : Hp), Call E mX8_ringed [.ref 53, .int k] σ (some (.int v1)) σ' ∧ (v1 = rgA (woS t nb v m) k ∧ Fr sQ σ σ') := by
  have hn : ncS t nb ≤ 8 := (woS_ok hT).1
  obtain ⟨v1, s1, hc1, rfl, hF1, -⟩ := isC8 (E := E) hT k
  refine C_X8_ringed (tX8_ringed_0 ⟨_, _, hc1, fun q => ⟨_, rfl, ?_, hF1⟩, fun q => ?_⟩)
  · rw [bI_0] at q
    exact (if_neg q).symm
  · rw [bI_n] at q
    have hA : rgA (woS t nb v m) k = rgS (rr (woS t nb v m) allE) k.toNatClampNeg := if_pos q
    obtain ⟨k, hk, rfl⟩ := (isC_iff (by omega)).mp q
    obtain ⟨v3, s3, hc3, h3, hF3⟩ := c8_ringedOf (E := E) (hT.fr hF1) hk
    refine ⟨_, _, hc3, _, rfl, ?_, hF1.tr hF3⟩
    rw [hA, h3, cl (by omega)]
theorem c8_metOf {t : Nat → Nat} {nb : Nat} {v : Nat → Nat → Nat} {m : Nat} (hT : ToM t nb v m σ) {w : Nat} (hw : w ≤ 2) :
    ∃ (v1 : Int32) (σ' : Hp), Call E mX8_metOf [.ref 53, .int (nI w)] σ (some (.int v1)) σ' ∧ (v1 = meS (ncS t nb) (rr (woS t nb v m) allE) w ∧ Fr sQ σ σ') := by
  have hW := woS_ok hT
  have hn : ncS t nb ≤ 8 := hW.1
  obtain ⟨s, hc, hD, hF, -⟩ := runsT (E := E) hT
  have e : ∀ j, j < 3 → (nI w = nI j ↔ w = j) := fun j hj => nI_eq' (by omega) (by omega)
  refine C_X8_metOf (tX8_metOf_0 ⟨s, hc, ?_⟩)
  generalize hΨ : (fun (v1 : Int32) (σ' : Hp) => v1 = meS (ncS t nb) (rr (woS t nb v m) allE) w ∧ Fr sQ σ σ') = Ψ
  have days : ∀ d (u : Unit), d ≤ 20 → (∀ d', d' < d → ¬ meA (ncS t nb) (rr (woS t nb v m) allE) d' < ncS t nb) → Ru E mX8_metOf 6 [(0, .ref 53), (1, .int (nI w)), (2, .int (nI d))] [] s (PI Ψ) := by
    refine for_up 20 _ _ ?_ ?_
    · intro d _ hd hJ ih
      refine tX8_metOf_6 ⟨fun z => ?_, fun _ => ?_⟩
      · rw [show (20 : Int32) = nI 20 from rfl, nI_le' (by decide) (by omega)] at z; omega
      · have as : ∀ a (u : Unit), a ≤ ncS t nb → (∀ a', a' < a → ¬ meB (ncS t nb) (rr (woS t nb v m) allE) d a' < ncS t nb) → Ru E mX8_metOf 14 [(0, .ref 53), (1, .int (nI w)), (2, .int (nI d)), (3, .int (nI a))] [] s (PI Ψ) := by
          refine for_up (ncS t nb) _ _ ?_ ?_
          · intro a _ ha hJa iha
            refine tX8_metOf_14 ⟨fun z => ?_, fun _ => ?_⟩
            · rw [hD.1] at z
              have z := (nI_le' (show ncS t nb < 2147483648 by omega) (show a < 2147483648 by omega)).mp z; omega
            · have bs' : ∀ b (u : Unit), b ≤ ncS t nb → (a < b ∧ ∀ b', b' < b → (decide (a < b') && sameL (rr (woS t nb v m) allE a d) (rr (woS t nb v m) allE b' d)) = false) → Ru E mX8_metOf 27 [(0, .ref 53), (1, .int (nI w)), (2, .int (nI d)), (3, .int (nI a)), (4, .int (nI b))] [] s (PI Ψ) := by
                refine for_up (ncS t nb) _ _ ?_ ?_
                · intro b _ hb ⟨hab, hJb⟩ ihb
                  have nxt : sameL (rr (woS t nb v m) allE a d) (rr (woS t nb v m) allE b d) = false → Ru E mX8_metOf 27 [(0, .ref 53), (1, .int (nI w)), (2, .int (nI d)), (3, .int (nI a)), (4, .int (nI b + 1))] [] s (PI Ψ) := by
                    intro hno
                    rw [nI_1]
                    refine ihb () ⟨by omega, fun b' hb' => ?_⟩
                    rcases Nat.lt_or_ge b' b with y | y
                    · exact hJb b' y
                    · rw [show b' = b by omega, hno, Bool.and_false]
                  refine tX8_metOf_27 ?_
                  rw [ix8, ix8, hD.1]
                  refine ⟨fun z => ?_, fun _ => ⟨_, _, c8_legXAt hW hD hd ha, _, _, c8_legXAt hW hD hd hb, fun z => ?_, fun z => ⟨_, _, c8_legYAt hW hD hd ha, _, _, c8_legYAt hW hD hd hb, fun z2 => ?_, fun z2 => ?_⟩⟩⟩
                  · have z := (nI_le' (show ncS t nb < 2147483648 by omega) (show b < 2147483648 by omega)).mp z; omega
                  · exact nxt (by unfold sameL; rw [decide_eq_false z]; rfl)
                  · exact nxt (by unfold sameL; rw [decide_eq_false z2, Bool.and_false])
                  · have eB : meB (ncS t nb) (rr (woS t nb v m) allE) d a = b := fst1_eq (by omega) hJb (Or.inr (by rw [decide_eq_true hab]; unfold sameL; rw [decide_eq_true z, decide_eq_true z2]; rfl))
                    have eA : meA (ncS t nb) (rr (woS t nb v m) allE) d = a := fst1_eq (by omega) (fun j hj => decide_eq_false (hJa j hj)) (Or.inr (decide_eq_true (by rw [eB]; exact hb)))
                    have eD : meD (ncS t nb) (rr (woS t nb v m) allE) = d := fst1_eq (by omega) (fun j hj => decide_eq_false (hJ j hj)) (Or.inr (decide_eq_true (by rw [eA]; exact ha)))
                    subst hΨ
                    refine ⟨fun y => ⟨fun y2 => ⟨_, rfl, ?_, hF⟩, fun y2 => ⟨_, rfl, ?_, hF⟩⟩, fun y => ⟨_, rfl, ?_, hF⟩⟩
                    · unfold meS
                      rw [eD, if_pos hd, if_neg (fun q => y ((e 0 (by decide)).mpr q)), if_neg (fun q => y2 ((e 1 (by decide)).mpr q)), eA, eB]
                    · unfold meS
                      rw [eD, if_pos hd, if_neg (fun q => y ((e 0 (by decide)).mpr q)), if_pos ((e 1 (by decide)).mp y2), eA]
                    · unfold meS
                      rw [eD, if_pos hd, if_pos ((e 0 (by decide)).mp y)]
                · intro _ ⟨hab, hJb⟩
                  refine tX8_metOf_27 ⟨fun _ => ?_, fun z => ?_⟩
                  · rw [nI_1]
                    refine iha () (fun a' ha' => ?_)
                    rcases Nat.lt_or_ge a' a with y | y
                    · exact hJa a' y
                    · rw [show a' = a by omega]
                      have eB : meB (ncS t nb) (rr (woS t nb v m) allE) d a = ncS t nb := fst1_eq (Nat.le_refl _) hJb (Or.inl rfl)
                      rw [eB]
                      exact Nat.lt_irrefl _
                  · rw [hD.1] at z
                    exact absurd (Int32.le_refl _) z
              rw [nI_1]
              exact bs' (a + 1) () (by omega) ⟨by omega, fun b' hb' => by rw [decide_eq_false (show ¬ a < b' by omega)]; rfl⟩
          · intro _ hJa
            refine tX8_metOf_14 ⟨fun _ => ?_, fun z => ?_⟩
            · rw [nI_1]
              refine ih () (fun d' hd' => ?_)
              rcases Nat.lt_or_ge d' d with y | y
              · exact hJ d' y
              · rw [show d' = d by omega]
                have eA : meA (ncS t nb) (rr (woS t nb v m) allE) d = ncS t nb := fst1_eq (Nat.le_refl _) (fun j hj => decide_eq_false (hJa j hj)) (Or.inl rfl)
                rw [eA]
                exact Nat.lt_irrefl _
            · rw [hD.1] at z
              exact absurd (Int32.le_refl _) z
        exact as 0 () (Nat.zero_le _) (fun a' ha' => by omega)
    · intro _ hJ
      refine tX8_metOf_6 ⟨fun _ => ?_, fun z => absurd (by decide) z⟩
      subst hΨ
      refine ⟨_, rfl, ?_, hF⟩
      have eD : meD (ncS t nb) (rr (woS t nb v m) allE) = 20 := fst1_eq (Nat.le_refl _) (fun j hj => decide_eq_false (hJ j hj)) (Or.inl rfl)
      unfold meS
      rw [eD, if_neg (by decide)]
  exact days 0 () (Nat.zero_le _) (fun d' hd' => by omega)
theorem c8_meets {t : Nat → Nat} {nb : Nat} {v : Nat → Nat → Nat} {m : Nat} (hT : ToM t nb v m σ) (w : Int32) :
    ∃ (v1 : Int32) (σ' : Hp), Call E mX8_meets [.ref 53, .int w] σ (some (.int v1)) σ' ∧ (v1 = meAns (woS t nb v m) w ∧ Fr sQ σ σ') := by
  refine C_X8_meets (tX8_meets_0 ⟨_, _, c8_in, fun q => ⟨_, rfl, ?_, Fr.rf⟩, fun q => ?_⟩)
  · rw [bI_0] at q
    unfold meAns
    rw [if_neg q]
  · rw [bI_n] at q
    have hA : meAns (woS t nb v m) w = meS (ncS t nb) (rr (woS t nb v m) allE) w.toNatClampNeg := if_pos q
    obtain ⟨w, hw, rfl⟩ := (inN_iff 2 (by decide)).mp q
    obtain ⟨v3, s3, hc3, h3, hF3⟩ := c8_metOf (E := E) hT hw
    refine ⟨_, _, hc3, _, rfl, ?_, hF3⟩
    rw [hA, h3, cl (by omega)]
end MQ2
