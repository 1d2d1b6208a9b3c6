/-! THE REFERENCE: days asked -/
section MQ
variable {E : Ev} {σ : Hp}
/-- the days as kept -/
def DyM (W : Wo) (msk : Nat → Bool) (σ : Hp) : Prop := σ 53 2 = nI (wn W) ∧ ∀ d, d < 20 → ∀ k, k < wn W → RgA σ d k (rr W msk k d)
theorem ix8 {d k : Nat} : 8 * nI d + nI k = nI (8 * d + k) := by rw [show (8 : Int32) = nI 8 from rfl, pk_mul, nI_add]
/-- a reading of the days as told -/
def ansM (t : Nat → Nat) (nb : Nat) (v : Nat → Nat → Nat) (m : Nat) (σ : Hp) (a v1 : Int32) (σ' : Hp) : Prop := v1 = a ∧ Fr sQ σ σ'
theorem runsT {t : Nat → Nat} {nb : Nat} {v : Nat → Nat → Nat} {m : Nat} (hT : ToM t nb v m σ) : ∃ σ' : Hp, Call E mX8_runsTold [.ref 53] σ none σ' ∧ DyM (woS t nb v m) allE σ' ∧ Fr sQ σ σ' ∧ (∀ k, k < ncS t nb → σ' 72 k = nI (gi (rr (woS t nb v m) allE k 19))) := by
  obtain ⟨s, hc, h1, h2, h3, h4⟩ := c8_runsTold (E := E) hT
  exact ⟨s, hc, ⟨h3.1, h1⟩, h4, h2⟩
theorem isC8 {t : Nat → Nat} {nb : Nat} {v : Nat → Nat → Nat} {m : Nat} (hT : ToM t nb v m σ) (k : Int32) : ∃ (v1 : Int32) (σ' : Hp), Call E mX8_isCouple [.ref 53, .int k] σ (some (.int v1)) σ' ∧ v1 = bI (0 ≤ k ∧ k < nI (ncS t nb)) ∧ Fr sQ σ σ' ∧ CpM t (ncS t nb) σ' := by
  obtain ⟨v1, s, hc, h1, h2, h3⟩ := c8_isCouple (E := E) hT.1 k
  exact ⟨v1, s, hc, h1, h3.mono (fun c i h => Or.inl (Or.inl h)), h2⟩
theorem c8_atOf {t : Nat → Nat} {nb : Nat} {v : Nat → Nat → Nat} {m : Nat} (hT : ToM t nb v m σ) {d k w : Nat} (hd : d < 20) (hk : k < ncS t nb) (hw : w ≤ 4) :
    ∃ (v1 : Int32) (σ' : Hp), Call E mX8_atOf [.ref 53, .int (nI d), .int (nI k), .int (nI w)] σ (some (.int v1)) σ' ∧ (v1 = atS (rr (woS t nb v m) allE k d) w ∧ Fr sQ σ σ') := by
  have hn := (woS_ok hT).1
  have hk8 : k < 8 := Nat.lt_of_lt_of_le hk hn
  obtain ⟨s, hc, ⟨-, hD⟩, hF, -⟩ := runsT (E := E) hT
  obtain ⟨g1, g2, g3, g4, g5, g6, g7⟩ := hD d hd k hk
  refine C_X8_atOf (tX8_atOf_0 ⟨s, hc, ?_⟩)
  rw [ix8, cl (show 8 * d + k < 2147483648 by omega), cl (show d < 2147483648 by omega), g3, g4, g5, g6]
  have hv : vp_in (nI (8 * d + k)) 160 := vin (by omega) (by decide)
  have e : ∀ j, j < 5 → (nI w = nI j ↔ w = j) := fun j hj => nI_eq' (by omega) (by omega)
  refine ⟨fun q => ⟨hv, _, rfl, ?_, hF⟩, fun q => ⟨hv, _, rfl, ?_, hF⟩, fun q => ⟨hv, _, rfl, ?_, hF⟩, fun q => ⟨vin hd (by decide), _, _, c8_isIn, fun q2 => ⟨_, rfl, ?_, hF⟩, fun q2 => ⟨_, rfl, ?_, hF⟩⟩, fun q => ⟨hv, _, rfl, ?_, hF⟩⟩
  · have : w = 0 := (e 0 (by decide)).mp q
    subst this; rfl
  · have : w = 1 := (e 1 (by decide)).mp q
    subst this; rfl
  · have : w = 2 := (e 2 (by decide)).mp q
    subst this; rfl
  · have : w = 3 := (e 3 (by decide)).mp q
    subst this
    rw [bI_0, g7] at q2
    show _ = bI _
    rw [bI_f q2]
  · have : w = 3 := (e 3 (by decide)).mp q
    subst this
    rw [bI_n, g7] at q2
    show _ = bI _
    rw [bI_t q2]
  · have h0 : w ≠ 0 := fun z => q.1 ((e 0 (by decide)).mpr z)
    have h1 : w ≠ 1 := fun z => q.2.1 ((e 1 (by decide)).mpr z)
    have h2 : w ≠ 2 := fun z => q.2.2.1 ((e 2 (by decide)).mpr z)
    have h3 : w ≠ 3 := fun z => q.2.2.2 ((e 3 (by decide)).mpr z)
    unfold atS
    rw [if_neg h0, if_neg h1, if_neg h2, if_neg h3]
theorem c8_at {t : Nat → Nat} {nb : Nat} {v : Nat → Nat → Nat} {m : Nat} (hT : ToM t nb v m σ) (d k w : Int32) :
    ∃ (v1 : Int32) (σ' : Hp), Call E mX8_at [.ref 53, .int d, .int k, .int w] σ (some (.int v1)) σ' ∧ (v1 = atA (woS t nb v m) d k w ∧ Fr sQ σ σ') := by
  have hn : ncS t nb ≤ 8 := (woS_ok hT).1
  refine C_X8_at (tX8_at_0 ⟨_, _, c8_isDay, fun q => ⟨_, rfl, ?_, Fr.rf⟩, fun q => ?_⟩)
  · rw [bI_0] at q
    unfold atA
    rw [if_neg (fun z => q z.1)]
  · rw [bI_n] at q
    obtain ⟨v1, s1, hc1, rfl, hF1, -⟩ := isC8 (E := E) hT k
    refine ⟨_, _, hc1, fun q2 => ⟨_, rfl, ?_, hF1⟩, fun q2 => ⟨_, _, c8_in, fun q3 => ⟨_, rfl, ?_, hF1⟩, fun q3 => ?_⟩⟩
    · rw [bI_0] at q2
      unfold atA
      rw [if_neg (fun z => q2 z.2.1)]
    · rw [bI_0] at q3
      unfold atA
      rw [if_neg (fun z => q3 z.2.2)]
    · rw [bI_n] at q2 q3
      have hA : atA (woS t nb v m) d k w = atS (rr (woS t nb v m) allE k.toNatClampNeg d.toNatClampNeg) w.toNatClampNeg := by
        unfold atA
        exact if_pos ⟨q, q2, q3⟩
      obtain ⟨d, hd, rfl⟩ := (inN_iff 19 (by decide)).mp q
      obtain ⟨k, hk, rfl⟩ := (isC_iff (by omega)).mp q2
      obtain ⟨w, hw, rfl⟩ := (inN_iff 4 (by decide)).mp q3
      obtain ⟨v2, s2, hc2, h2, hF2⟩ := c8_atOf (E := E) (hT.fr hF1) (show d < 20 by omega) hk hw
      refine ⟨_, _, hc2, _, rfl, ?_, hF1.tr hF2⟩
      rw [hA, h2, cl (by omega), cl (by omega), cl (by omega)]
theorem c8_legXAt {W : Wo} {msk : Nat → Bool} (hW : okW W) (hD : DyM W msk σ) {d k : Nat} (hd : d < 20) (hk : k < wn W) : Call E mX8_legXAt [.ref 53, .int (nI (8 * d + k))] σ (some (.int (lgx (rr W msk k d)))) σ := by
  have hn := hW.1
  obtain ⟨g1, g2, g3, g4, g5, g6, g7⟩ := hD.2 d hd k hk
  refine K_X8_legXAt (tX8_legXAt_0 ⟨vin (by omega) (by decide), _, _, ?_, rfl, rfl⟩)
  rw [cl (show 8 * d + k < 2147483648 by omega), g1, g3, g4]
  exact c8_legX (pre_ok hW hk (d + 1)).2.2.1
theorem c8_legYAt {W : Wo} {msk : Nat → Bool} (hW : okW W) (hD : DyM W msk σ) {d k : Nat} (hd : d < 20) (hk : k < wn W) : Call E mX8_legYAt [.ref 53, .int (nI (8 * d + k))] σ (some (.int (lgy (rr W msk k d)))) σ := by
  have hn := hW.1
  obtain ⟨g1, g2, g3, g4, g5, g6, g7⟩ := hD.2 d hd k hk
  refine K_X8_legYAt (tX8_legYAt_0 ⟨vin (by omega) (by decide), _, _, ?_, rfl, rfl⟩)
  rw [cl (show 8 * d + k < 2147483648 by omega), g2, g3, g4]
  exact c8_legY (pre_ok hW hk (d + 1)).2.2.1
theorem c8_placeOf {t : Nat → Nat} {nb : Nat} {v : Nat → Nat → Nat} {m : Nat} (hT : ToM t nb v m σ) {d k w : Nat} (hd : d < 20) (hk : k < ncS t nb) (hw : w ≤ 3) :
    ∃ (v1 : Int32) (σ' : Hp), Call E mX8_placeOf [.ref 53, .int (nI d), .int (nI k), .int (nI w)] σ (some (.int v1)) σ' ∧ (v1 = plS (rr (woS t nb v m) allE k d) w ∧ Fr sQ σ σ') := by
  have hW := woS_ok hT
  have hn := hW.1
  have hk8 : k < 8 := Nat.lt_of_lt_of_le hk hn
  obtain ⟨s, hc, hD, hF, -⟩ := runsT (E := E) hT
  obtain ⟨g1, g2, g3, g4, g5, g6, g7⟩ := hD.2 d hd k hk
  refine C_X8_placeOf (tX8_placeOf_0 ⟨s, hc, ?_⟩)
  rw [ix8, cl (show 8 * d + k < 2147483648 by omega), g1, g2]
  have hv : vp_in (nI (8 * d + k)) 160 := vin (by omega) (by decide)
  have e : ∀ j, j < 5 → (nI w = nI j ↔ w = j) := fun j hj => nI_eq' (by omega) (by omega)
  refine ⟨fun q => ⟨fun q2 => ⟨fun q3 => ⟨_, _, c8_legYAt hW hD hd hk, _, rfl, ?_, hF⟩, fun q3 => ⟨_, _, c8_legXAt hW hD hd hk, _, rfl, ?_, hF⟩⟩, fun q2 => ⟨hv, _, rfl, ?_, hF⟩⟩, fun q => ⟨hv, _, rfl, ?_, hF⟩⟩
  · have h0 : w ≠ 0 := fun z => q ((e 0 (by decide)).mpr z)
    have h1 : w ≠ 1 := fun z => q2 ((e 1 (by decide)).mpr z)
    have h2 : w ≠ 2 := fun z => q3 ((e 2 (by decide)).mpr z)
    unfold plS
    rw [if_neg h0, if_neg h1, if_neg h2]
  · have : w = 2 := (e 2 (by decide)).mp q3
    subst this; rfl
  · have : w = 1 := (e 1 (by decide)).mp q2
    subst this; rfl
  · have : w = 0 := (e 0 (by decide)).mp q
    subst this; rfl
theorem c8_place {t : Nat → Nat} {nb : Nat} {v : Nat → Nat → Nat} {m : Nat} (hT : ToM t nb v m σ) (d k w : Int32) :
    ∃ (v1 : Int32) (σ' : Hp), Call E mX8_place [.ref 53, .int d, .int k, .int w] σ (some (.int v1)) σ' ∧ (v1 = plA (woS t nb v m) d k w ∧ Fr sQ σ σ') := by
  have hn : ncS t nb ≤ 8 := (woS_ok hT).1
  refine C_X8_place (tX8_place_0 ⟨_, _, c8_isDay, fun q => ⟨_, rfl, ?_, Fr.rf⟩, fun q => ?_⟩)
  · rw [bI_0] at q
    unfold plA
    rw [if_neg (fun z => q z.1)]
  · rw [bI_n] at q
    obtain ⟨v1, s1, hc1, rfl, hF1, -⟩ := isC8 (E := E) hT k
    refine ⟨_, _, hc1, fun q2 => ⟨_, rfl, ?_, hF1⟩, fun q2 => ⟨_, _, c8_in, fun q3 => ⟨_, rfl, ?_, hF1⟩, fun q3 => ?_⟩⟩
    · rw [bI_0] at q2
      unfold plA
      rw [if_neg (fun z => q2 z.2.1)]
    · rw [bI_0] at q3
      unfold plA
      rw [if_neg (fun z => q3 z.2.2)]
    · rw [bI_n] at q2 q3
      have hA : plA (woS t nb v m) d k w = plS (rr (woS t nb v m) allE k.toNatClampNeg d.toNatClampNeg) w.toNatClampNeg := by
        unfold plA
        exact if_pos ⟨q, q2, q3⟩
      obtain ⟨d, hd, rfl⟩ := (inN_iff 19 (by decide)).mp q
      obtain ⟨k, hk, rfl⟩ := (isC_iff (by omega)).mp q2
      obtain ⟨w, hw, rfl⟩ := (inN_iff 3 (by decide)).mp q3
      obtain ⟨v2, s2, hc2, h2, hF2⟩ := c8_placeOf (E := E) (hT.fr hF1) (show d < 20 by omega) hk hw
      refine ⟨_, _, hc2, _, rfl, ?_, hF1.tr hF2⟩
      rw [hA, h2, cl (by omega), cl (by omega), cl (by omega)]
theorem sub0 {a b : Nat} (ha : a < 2147483648) (hb : b < 2147483648) : nI a - nI b = 0 ↔ a = b := by
  rw [← nI_eq' ha hb]
  constructor
  · intro h
    have h2 := congrArg (fun z => z + nI b) h
    simpa using h2
  · intro h
    rw [h, Int32.sub_self]
theorem c8_areNow {W : Wo} {msk : Nat → Bool} (hW : okW W) (hD : DyM W msk σ) {d a b : Nat} (hd : d < 20) (ha : a < wn W) (hb : b < wn W) :
    Call E mX8_areNow [.ref 53, .int (nI d), .int (nI a), .int (nI b)] σ (some (.int (nI (areS (rr W msk a d) (rr W msk b d))))) σ := by
  have hn := hW.1
  obtain ⟨g1, g2, g3, g4, g5, g6, g7⟩ := hD.2 d hd a ha
  obtain ⟨k1, k2, k3, k4, k5, k6, k7⟩ := hD.2 d hd b hb
  have oa : gw (rr W msk a d) ≤ 9 := (pre_ok (msk := msk) hW ha (d + 1)).1
  have ob : gw (rr W msk b d) ≤ 9 := (pre_ok (msk := msk) hW hb (d + 1)).1
  generalize rr W msk a d = ra at *
  generalize rr W msk b d = rb at *
  refine K_X8_areNow (tX8_areNow_0 ?_)
  rw [ix8, ix8, cl (show 8 * d + a < 2147483648 by omega), cl (show 8 * d + b < 2147483648 by omega), g1, g2, g3, k1, k2, k3]
  have key : ¬ ((gx ra - gx rb) * (gx ra - gx rb) + (gy ra - gy rb) * (gy ra - gy rb) = 0 ∧ gw ra = gw rb) → ∀ {x1 x2 x3 x4 x5 x6 x7 : Int32}, Ru E mX8_areNow 109 [(0, .ref 53), (1, .int x1), (2, .int x2), (3, .int x3), (4, .int x4), (5, .int x5), (6, .int x6), (7, .int x7), (8, .int ((gx ra - gx rb) * (gx ra - gx rb) + (gy ra - gy rb) * (gy ra - gy rb))), (9, .int (nI (gw ra) + nI (gw rb))), (10, .int (nI (gw ra) - nI (gw rb)))] [] σ (PE (some (.int (nI (areS ra rb)))) σ) := by
    intro hno x1 x2 x3 x4 x5 x6 x7
    refine tX8_areNow_109 ⟨fun q => ⟨fun q2 => ⟨fun q3 => ⟨fun q4 => ⟨?_, rfl⟩, fun q4 => ⟨?_, rfl⟩⟩, fun q3 => ⟨?_, rfl⟩⟩, fun q2 => ⟨?_, rfl⟩⟩, fun q => ⟨?_, rfl⟩⟩
    · unfold areS
      dsimp only
      rw [if_neg hno, if_neg (Int32.not_lt.mpr q), if_neg q2, if_neg (Int32.not_lt.mpr q3), if_neg q4]; rfl
    · unfold areS
      dsimp only
      rw [if_neg hno, if_neg (Int32.not_lt.mpr q), if_neg q2, if_neg (Int32.not_lt.mpr q3), if_pos q4]; rfl
    · unfold areS
      dsimp only
      rw [if_neg hno, if_neg (Int32.not_lt.mpr q), if_neg q2, if_pos (Int32.not_le.mp q3)]; rfl
    · unfold areS
      dsimp only
      rw [if_neg hno, if_neg (Int32.not_lt.mpr q), if_pos q2]; rfl
    · unfold areS
      dsimp only
      rw [if_neg hno, if_pos (Int32.not_le.mp q)]; rfl
  refine ⟨vin (by omega) (by decide), vin (by omega) (by decide), fun q => key (fun z => q z.1), fun q => ⟨fun q2 => key (fun z => q2 ((sub0 (by omega) (by omega)).mpr z.2)), fun q2 => ⟨?_, rfl⟩⟩⟩
  rw [sub0 (by omega) (by omega)] at q2
  unfold areS
  dsimp only
  rw [if_pos ⟨q, q2⟩]; rfl
theorem c8_areOf {t : Nat → Nat} {nb : Nat} {v : Nat → Nat → Nat} {m : Nat} (hT : ToM t nb v m σ) {d a b : Nat} (hd : d < 20) (ha : a < ncS t nb) (hb : b < ncS t nb) :
    ∃ (v1 : Int32) (σ' : Hp), Call E mX8_areOf [.ref 53, .int (nI d), .int (nI a), .int (nI b)] σ (some (.int v1)) σ' ∧ (v1 = nI (areS (rr (woS t nb v m) allE a d) (rr (woS t nb v m) allE b d)) ∧ Fr sQ σ σ') := by
  obtain ⟨s, hc, hD, hF, -⟩ := runsT (E := E) hT
  exact C_X8_areOf (tX8_areOf_0 ⟨s, hc, _, _, c8_areNow (woS_ok hT) hD hd ha hb, _, rfl, rfl, hF⟩)
theorem c8_are {t : Nat → Nat} {nb : Nat} {v : Nat → Nat → Nat} {m : Nat} (hT : ToM t nb v m σ) (d a b : Int32) :
    ∃ (v1 : Int32) (σ' : Hp), Call E mX8_are [.ref 53, .int d, .int a, .int b] σ (some (.int v1)) σ' ∧ (v1 = arA (woS t nb v m) d a b ∧ Fr sQ σ σ') := by
  have hn := (woS_ok hT).1
  refine C_X8_are (tX8_are_0 ⟨_, _, c8_isDay, fun q => ⟨_, rfl, ?_, Fr.rf⟩, fun q => ?_⟩)
  · rw [bI_0] at q
    unfold arA
    rw [if_neg (fun z => q z.1)]
  · rw [bI_n] at q
    obtain ⟨v1, s1, hc1, rfl, hF1, -⟩ := isC8 (E := E) hT a
    obtain ⟨v2, s2, hc2, rfl, hF2, -⟩ := isC8 (E := E) (hT.fr hF1) b
    refine ⟨_, _, hc1, fun q2 => ⟨_, rfl, ?_, hF1⟩, fun q2 => ⟨_, _, hc2, fun q3 => ⟨_, rfl, ?_, hF1.tr hF2⟩, fun q3 => ⟨fun q4 => ⟨_, rfl, ?_, hF1.tr hF2⟩, fun q4 => ?_⟩⟩⟩
    · rw [bI_0] at q2
      unfold arA
      rw [if_neg (fun z => q2 z.2.1)]
    · rw [bI_0] at q3
      unfold arA
      rw [if_neg (fun z => q3 z.2.2.1)]
    · unfold arA
      rw [if_neg (fun z => z.2.2.2 q4)]
    · rw [bI_n] at q2 q3
      have hA : arA (woS t nb v m) d a b = nI (areS (rr (woS t nb v m) allE a.toNatClampNeg d.toNatClampNeg) (rr (woS t nb v m) allE b.toNatClampNeg d.toNatClampNeg)) := by
        unfold arA
        exact if_pos ⟨q, q2, q3, q4⟩
      have hn' : ncS t nb ≤ 8 := hn
      obtain ⟨d, hd, rfl⟩ := (inN_iff 19 (by decide)).mp q
      obtain ⟨a, ha, rfl⟩ := (isC_iff (by omega)).mp q2
      obtain ⟨b, hb, rfl⟩ := (isC_iff (by omega)).mp q3
      obtain ⟨v3, s3, hc3, h3, hF3⟩ := c8_areOf (E := E) ((hT.fr hF1).fr hF2) (show d < 20 by omega) ha hb
      refine ⟨_, _, hc3, _, rfl, ?_, (hF1.tr hF2).tr hF3⟩
      rw [hA, h3, cl (by omega), cl (by omega), cl (by omega)]
end MQ
