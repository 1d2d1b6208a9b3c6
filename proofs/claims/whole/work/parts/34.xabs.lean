/-! THE CLASS: what it holds; days asked -/
def SnX (S : Sn) (σ : Hp) : Prop := σ 24 4 = nI (sc S) ∧ ∀ i, i < sc S → σ 25 i = nI (sd S i) ∧ σ 26 i = nI (sh S i) ∧ σ 27 i = sx S i ∧ σ 28 i = sy S i
def ShX (H : Sht) (σ : Hp) : Prop := (∀ s, s < 4 → σ (45 + 2 * s) 1 = bI (¬ ht H s = true) ∧ σ (45 + 2 * s) 2 = nI (hf H s) ∧ σ (45 + 2 * s) 3 = nI (hz H s) ∧ ∀ i, i < 60 → σ (45 + 2 * s + 1) i = hi H s i) ∧ σ 0 12 = hl H
def TxX (t : Nat → Nat) (n : Nat) (σ : Hp) : Prop := σ 0 1 = nI n ∧ (∀ i, i < n → σ 1 i = nI (t i)) ∧ σ 0 2 = fltS t n ∧ CpX 2 (cdS t) (ncS t n) σ
/-- the class holds A -/
def StX (A : AS) (σ : Hp) : Prop := TxX (at' A) (an A) σ ∧ EvX 12 (av A) (am A) σ ∧ SnX (aS A) σ ∧ ShX (aH A) σ
def sX (c _i : Nat) : Prop := c < 53
/-- what the class's questions may change -/
def sqX (c _i : Nat) : Prop := (7 ≤ c ∧ c ≤ 11) ∨ (18 ≤ c ∧ c ≤ 23) ∨ (29 ≤ c ∧ c ≤ 43)
theorem sqX_X {c i : Nat} (h : sqX c i) : sX c i := by unfold sqX at h; unfold sX; omega
theorem StX.fr {S : Nat → Nat → Prop} {A : AS} {σ σ' : Hp} (h : StX A σ) (hF : Fr S σ σ') (hS : ∀ c i, S c i → sqX c i ∨ 53 ≤ c) : StX A σ' := by
  have k : ∀ c i, ¬ (sqX c i ∨ 53 ≤ c) → σ' c i = σ c i := fun c i z => hF c i (fun y => z (hS c i y))
  obtain ⟨⟨h1, h2, h3, h4⟩, h5, ⟨h6, h7⟩, h8, h9⟩ := h
  refine ⟨⟨?_, fun i hi => ?_, ?_, h4.fr hF (fun c i a b y => ?_)⟩, h5.fr hF (fun c i a b y => ?_), ⟨?_, fun i hi => ?_⟩, fun s hs => ?_, ?_⟩
  · rw [k _ _ (by unfold sqX; omega)]; exact h1
  · rw [k _ _ (by unfold sqX; omega)]; exact h2 i hi
  · rw [k _ _ (by unfold sqX; omega)]; exact h3
  · have := hS c i y; unfold sqX at this; omega
  · have := hS c i y; unfold sqX at this; omega
  · rw [k _ _ (by unfold sqX; omega)]; exact h6
  · rw [k 25 i (by unfold sqX; omega), k 26 i (by unfold sqX; omega), k 27 i (by unfold sqX; omega), k 28 i (by unfold sqX; omega)]; exact h7 i hi
  · obtain ⟨g1, g2, g3, g4⟩ := h8 s hs
    refine ⟨?_, ?_, ?_, fun i hi => ?_⟩
    · rw [k _ _ (by unfold sqX; omega)]; exact g1
    · rw [k _ _ (by unfold sqX; omega)]; exact g2
    · rw [k _ _ (by unfold sqX; omega)]; exact g3
    · rw [k _ _ (by unfold sqX; omega)]; exact g4 i hi
  · rw [k _ _ (by unfold sqX; omega)]; exact h9
theorem StX.q {A : AS} {σ σ' : Hp} (h : StX A σ) (hF : Fr sqX σ σ') : StX A σ' := h.fr hF (fun _ _ z => Or.inl z)
theorem StM.fr {A : AS} {σ σ' : Hp} (h : StM A σ) (hF : Fr sX σ σ') : StM A σ' := by
  obtain ⟨⟨h1, h2⟩, ⟨h3, h4⟩, ⟨h5, h6⟩, h7, h8⟩ := h
  have k : ∀ c i, 53 ≤ c → σ' c i = σ c i := fun c i z => hF c i (fun y => by unfold sX at y; omega)
  refine ⟨⟨by rw [k _ _ (by omega)]; exact h1, fun i hi => by rw [k _ _ (by omega)]; exact h2 i hi⟩, ⟨by rw [k _ _ (by omega)]; exact h3, fun e he f hf => by rw [k _ _ (by omega)]; exact h4 e he f hf⟩, ⟨by rw [k _ _ (by omega)]; exact h5, fun i hi => ?_⟩, fun s hs => ?_, by rw [k _ _ (by omega)]; exact h8⟩
  · rw [k 81 i (by omega), k 82 i (by omega), k 83 i (by omega), k 84 i (by omega)]
    exact h6 i hi
  · obtain ⟨g1, g2, g3, g4⟩ := h7 s hs
    refine ⟨by rw [k _ _ (by omega)]; exact g1, by rw [k _ _ (by omega)]; exact g2, by rw [k _ _ (by omega)]; exact g3, fun i hi => by rw [k _ _ (by omega)]; exact g4 i hi⟩
theorem okA_W {A : AS} (ho : okA A) : okW (aW A) := ⟨(cd_ok ho.1).1, ho.2.2.1, (cd_ok ho.1).2, ho.2.2.2.1⟩
/-- an act of the class: it answers r.1 and holds r.2 -/
def ActX (E : Ev) (M : MI) (as : List Value) (σ : Hp) (r : Int32 × AS) : Prop := ∃ (v : Int32) (σ' : Hp), Call E M as σ (some (.int v)) σ' ∧ (v = r.1 ∧ StX r.2 σ' ∧ Fr sX σ σ')
/-- a question of the class -/
def AnsX (E : Ev) (M : MI) (as : List Value) (σ : Hp) (a : Int32) : Prop := ∃ (v : Int32) (σ' : Hp), Call E M as σ (some (.int v)) σ' ∧ (v = a ∧ Fr sqX σ σ')
theorem AnsX.act {E : Ev} {M : MI} {as : List Value} {σ : Hp} {a : Int32} {A : AS} (h : AnsX E M as σ a) (hA : StX A σ) : ActX E M as σ (a, A) := by
  obtain ⟨v, s, hc, hv, hF⟩ := h
  exact ⟨v, s, hc, hv, hA.q hF, hF.mono (fun c i z => sqX_X z)⟩
section XA
variable {E : Ev} {σ : Hp} {A : AS}
theorem x7_isWithin {x a b : Int32} : Call E mX7_isWithin [.int x, .int a, .int b] σ (some (.int (bI (a ≤ x ∧ x ≤ b)))) σ := by
  refine K_X7_isWithin (tX7_isWithin_0 ⟨fun z => ⟨?_, rfl⟩, fun z => ⟨fun z2 => ⟨?_, rfl⟩, fun z2 => ⟨?_, rfl⟩⟩⟩)
  · rw [bI_f (fun y => absurd z (Int32.not_lt.mpr y.1))]
  · rw [bI_f (fun y => absurd z2 (Int32.not_lt.mpr y.2))]
  · rw [bI_t ⟨Int32.not_lt.mp z, Int32.not_lt.mp z2⟩]
theorem x7_isDay {x : Int32} : Call E mX7_isDay [.int x] σ (some (.int (bI (0 ≤ x ∧ x ≤ 19)))) σ := K_X7_isDay (tX7_isDay_0 ⟨_, _, x7_isWithin, bI_nar, rfl, rfl⟩)
theorem x7_isSheet {x : Int32} : Call E mX7_isSheet [.int x] σ (some (.int (bI (0 ≤ x ∧ x ≤ 3)))) σ := K_X7_isSheet (tX7_isSheet_0 ⟨_, _, x7_isWithin, bI_nar, rfl, rfl⟩)
theorem x7_isForm {x : Int32} : Call E mX7_isForm [.int x] σ (some (.int (bI (0 ≤ x ∧ x ≤ 2)))) σ := K_X7_isForm (tX7_isForm_0 ⟨_, _, x7_isWithin, bI_nar, rfl, rfl⟩)
theorem x7_pick {w : Nat} {a b c : Int32} (hw : w ≤ 2) : Call E mX7_pick [.int (nI w), .int a, .int b, .int c] σ (some (.int (if w = 0 then a else if w = 1 then b else c))) σ := by
  have e0 : nI w = 0 ↔ w = 0 := nI_eq' (show w < 2147483648 by omega) (show 0 < 2147483648 by decide)
  have e1 : nI w = 1 ↔ w = 1 := nI_eq' (show w < 2147483648 by omega) (show 1 < 2147483648 by decide)
  refine K_X7_pick (tX7_pick_0 ⟨fun z => ⟨fun z2 => ⟨?_, rfl⟩, fun z2 => ⟨?_, rfl⟩⟩, fun z => ⟨?_, rfl⟩⟩)
  · rw [if_neg (fun y => z (e0.mpr y)), if_neg (fun y => z2 (e1.mpr y))]
  · rw [if_neg (fun y => z (e0.mpr y)), if_pos (e1.mp z2)]
  · rw [if_pos (e0.mp z)]
theorem x0_has {c n : Nat} {cd : Nat → Nat → Nat} (hc : IsCpl c) (h : CpX c cd n σ) (k : Int32) : Call E mX0_has [.ref c, .int k] σ (some (.int (bI (0 ≤ k ∧ k < nI n)))) σ := by
  refine K_X0_has (tX0_has_0 hc ?_)
  rw [h.1]
  refine ⟨fun z => ⟨?_, rfl⟩, fun z => ⟨fun z2 => ⟨?_, rfl⟩, fun z2 => ⟨?_, rfl⟩⟩⟩
  · rw [bI_f (fun y => absurd z (Int32.not_lt.mpr y.1))]
  · rw [bI_f (fun y => absurd y.2 (Int32.not_lt.mpr z2))]
  · rw [bI_t ⟨Int32.not_lt.mp z, Int32.not_le.mp z2⟩]
def allI (m : Nat) : Int32 := nI (2 ^ m - 1)
theorem bt_all {m e : Nat} (hm : m ≤ 8) (he : e < m) : bt (allI m) e = true := by
  have h2 : 2 ^ m ≤ 2 ^ 8 := Nat.pow_le_pow_right (by decide) hm
  unfold allI
  rw [bt_nI (by omega) (by omega), Nat.testBit_two_pow_sub_one]
  exact decide_eq_true he
theorem x1_all {c m : Nat} {v : Nat → Nat → Nat} (hc : IsEvt c) (h : EvX c v m σ) (hm : m ≤ 8) : Call E mX1_all [.ref c] σ (some (.int (allI m))) σ := by
  refine K_X1_all (tX1_all_0 hc ?_)
  rw [h.1, shl1 (by omega), show (1 : Int32) = nI 1 from rfl, pk_sub (Nat.one_le_two_pow)]
  exact ⟨rfl, rfl⟩
theorem StX.cp (h : StX A σ) : CpX 2 (wc (aW A)) (wn (aW A)) σ := h.1.2.2.2
theorem StX.ev (h : StX A σ) : EvX 12 (we (aW A)) (wm (aW A)) σ := h.2.1
theorem x7_comeTo (h : StX A σ) (ho : okA A) {d : Nat} (hd : d < 20) : ∃ σ' : Hp, Call E mX7_comeTo [.ref 0, .int (nI d)] σ none σ' ∧ (TwX (wn (aW A)) (fun k => rr (aW A) allE k d) σ' ∧ Fr sTw σ σ') := by
  have hm := ho.2.2.1
  obtain ⟨s, hc, hT, hF⟩ := x6_behind (E := E) (msk := allE) (mk := allI (am A)) (d := d) ⟨isCpl2, Or.inl rfl⟩ ⟨isEvt12, Or.inl rfl⟩ (okA_W ho) h.cp h.ev (fun e he => bt_all hm he) hd
  exact C_X7_comeTo (tX7_comeTo_0 ⟨_, _, x1_all isEvt12 h.ev hm, s, hc, rfl, hT, hF⟩)
theorem sTw_q {c i : Nat} (h : sTw c i) : sqX c i := by unfold sTw at h; unfold sqX; omega
theorem x7_single (h : StX A σ) (ho : okA A) {k d : Nat} (hk : k < wn (aW A)) (hd : d < 20) : ∃ σ' : Hp, Call E mX3_live [.ref 39, .ref 2, .ref 12, .int (allI (am A)), .int (nI k), .int (nI d)] σ none σ' ∧ (RgX 39 (rr (aW A) allE k d) σ' ∧ Fr (oc 39) σ σ') :=
  x3_live (msk := allE) isRing39 isCpl2 isEvt12 (fun f hf => by omega) (fun f hf => by omega) (okA_W ho) h.cp h.ev (fun e he => bt_all ho.2.2.1 he) hk hd
theorem oc_q {c i : Nat} (h : oc 39 c i) : sqX c i := by unfold oc at h; unfold sqX; omega
theorem no4 {w : Int32} (h : ¬ w = 0 ∧ ¬ w = 1 ∧ ¬ w = 2 ∧ ¬ w = 3 ∧ ¬ w = 4) : ¬ (0 ≤ w ∧ w ≤ 4) := by
  intro z
  obtain ⟨j, hj, rfl⟩ := (inN_iff 4 (by decide)).mp z
  rcases (show j = 0 ∨ j = 1 ∨ j = 2 ∨ j = 3 ∨ j = 4 by omega) with rfl | rfl | rfl | rfl | rfl
  · exact h.1 rfl
  · exact h.2.1 rfl
  · exact h.2.2.1 rfl
  · exact h.2.2.2.1 rfl
  · exact h.2.2.2.2 rfl
theorem no3 {w : Int32} (h : ¬ w = 0 ∧ ¬ w = 1 ∧ ¬ w = 2 ∧ ¬ w = 3) : ¬ (0 ≤ w ∧ w ≤ 3) := by
  intro z
  obtain ⟨j, hj, rfl⟩ := (inN_iff 3 (by decide)).mp z
  rcases (show j = 0 ∨ j = 1 ∨ j = 2 ∨ j = 3 by omega) with rfl | rfl | rfl | rfl
  · exact h.1 rfl
  · exact h.2.1 rfl
  · exact h.2.2.1 rfl
  · exact h.2.2.2 rfl
theorem x7_at (h : StX A σ) (ho : okA A) (d k w : Int32) : AnsX E mX7_at [.ref 0, .int d, .int k, .int w] σ (atA (aW A) d k w) := by
  have hn : wn (aW A) ≤ 8 := (okA_W ho).1
  by_cases q : 0 ≤ d ∧ d ≤ 19
  · by_cases q2 : 0 ≤ k ∧ k < nI (wn (aW A))
    · obtain ⟨d, hd, rfl⟩ := (inN_iff 19 (by decide)).mp q
      obtain ⟨k, hk, rfl⟩ := (isC_iff (by omega)).mp q2
      have hd : d < 20 := by omega
      obtain ⟨s, hc, ⟨h0, h1, h2, h3, h4, h5, h6, h7⟩, hF⟩ := x7_single (E := E) h ho hk hd
      have hF := hF.mono (fun c i z => oc_q z)
      refine C_X7_at (tX7_at_0 ⟨_, _, x7_isDay, fun z => absurd q (bI_0.mp z), fun _ => ⟨_, _, x0_has isCpl2 h.cp _, fun _ => ⟨_, _, x1_all isEvt12 h.ev ho.2.2.1, s, hc, fun y => ⟨_, rfl, ?_, hF⟩, fun y => ⟨_, rfl, ?_, hF⟩, fun y => ⟨_, rfl, ?_, hF⟩, fun y => ⟨fun y2 => ⟨_, rfl, ?_, hF⟩, fun y2 => ⟨_, rfl, ?_, hF⟩⟩, fun y => ⟨_, rfl, ?_, hF⟩, fun y => ⟨_, rfl, ?_, hF⟩⟩, fun z => absurd q2 (bI_0.mp z)⟩⟩)
      · rw [y]; exact h2.trans (atA_n (w := 0) hn hd hk (by decide)).symm
      · rw [y]; exact h4.trans (atA_n (w := 1) hn hd hk (by decide)).symm
      · rw [y]; exact h5.trans (atA_n (w := 2) hn hd hk (by decide)).symm
      · rw [y]; rw [h7] at y2; exact (bI_f (bI_0.mp y2)).symm.trans (atA_n (w := 3) hn hd hk (by decide)).symm
      · rw [y]; rw [h7] at y2; exact (bI_t (bI_n.mp y2)).symm.trans (atA_n (w := 3) hn hd hk (by decide)).symm
      · rw [y]; exact h6.trans (atA_n (w := 4) hn hd hk (by decide)).symm
      · exact (if_neg (fun z => no4 y z.2.2)).symm
    · refine C_X7_at (tX7_at_0 ⟨_, _, x7_isDay, fun z => absurd q (bI_0.mp z), fun _ => ⟨_, _, x0_has isCpl2 h.cp _, fun z => absurd (bI_n.mp z) q2, fun _ => ⟨_, rfl, (if_neg (fun z => q2 z.2.1)).symm, Fr.rf⟩⟩⟩)
  · exact C_X7_at (tX7_at_0 ⟨_, _, x7_isDay, fun _ => ⟨_, rfl, (if_neg (fun z => q z.1)).symm, Fr.rf⟩, fun z => absurd (bI_n.mp z) q⟩)
theorem x7_place (h : StX A σ) (ho : okA A) (d k w : Int32) : AnsX E mX7_place [.ref 0, .int d, .int k, .int w] σ (plA (aW A) d k w) := by
  have hn : wn (aW A) ≤ 8 := (okA_W ho).1
  by_cases q : 0 ≤ d ∧ d ≤ 19
  · by_cases q2 : 0 ≤ k ∧ k < nI (wn (aW A))
    · obtain ⟨d, hd, rfl⟩ := (inN_iff 19 (by decide)).mp q
      obtain ⟨k, hk, rfl⟩ := (isC_iff (by omega)).mp q2
      have hd : d < 20 := by omega
      obtain ⟨s, hc, hR, hF⟩ := x7_single (E := E) h ho hk hd
      have hF := hF.mono (fun c i z => oc_q z)
      have hok : okR (rr (aW A) allE k d) := pre_ok (okA_W ho) hk (d + 1)
      refine C_X7_place (tX7_place_0 ⟨_, _, x7_isDay, fun z => absurd q (bI_0.mp z), fun _ => ⟨_, _, x0_has isCpl2 h.cp _, fun _ => ⟨_, _, x1_all isEvt12 h.ev ho.2.2.1, s, hc, fun y => ⟨_, rfl, ?_, hF⟩, fun y => ⟨_, rfl, ?_, hF⟩, fun y => ⟨_, _, x3_legX isRing39 hR hok, _, rfl, ?_, hF⟩, fun y => ⟨_, _, x3_legY isRing39 hR hok, _, rfl, ?_, hF⟩, fun y => ⟨_, rfl, ?_, hF⟩⟩, fun z => absurd q2 (bI_0.mp z)⟩⟩)
      · rw [y]; exact hR.1.trans (plA_n (w := 0) hn hd hk (by decide)).symm
      · rw [y]; exact hR.2.1.trans (plA_n (w := 1) hn hd hk (by decide)).symm
      · rw [y]; exact (plA_n (w := 2) hn hd hk (by decide)).symm
      · rw [y]; exact (plA_n (w := 3) hn hd hk (by decide)).symm
      · exact (if_neg (fun z => no3 y z.2.2)).symm
    · refine C_X7_place (tX7_place_0 ⟨_, _, x7_isDay, fun z => absurd q (bI_0.mp z), fun _ => ⟨_, _, x0_has isCpl2 h.cp _, fun z => absurd (bI_n.mp z) q2, fun _ => ⟨_, rfl, (if_neg (fun z => q2 z.2.1)).symm, Fr.rf⟩⟩⟩)
  · exact C_X7_place (tX7_place_0 ⟨_, _, x7_isDay, fun _ => ⟨_, rfl, (if_neg (fun z => q z.1)).symm, Fr.rf⟩, fun z => absurd (bI_n.mp z) q⟩)
theorem x7_are (h : StX A σ) (ho : okA A) (d a b : Int32) : AnsX E mX7_are [.ref 0, .int d, .int a, .int b] σ (arA (aW A) d a b) := by
  have hn : wn (aW A) ≤ 8 := (okA_W ho).1
  refine C_X7_are (tX7_are_0 ⟨_, _, x7_isDay, fun z => ⟨_, rfl, (if_neg (fun y => bI_0.mp z y.1)).symm, Fr.rf⟩, fun q => ⟨_, _, x0_has isCpl2 h.cp _, fun z => ⟨_, rfl, (if_neg (fun y => bI_0.mp z y.2.1)).symm, Fr.rf⟩, fun q2 => ⟨_, _, x0_has isCpl2 h.cp _, fun z => ⟨_, rfl, (if_neg (fun y => bI_0.mp z y.2.2.1)).symm, Fr.rf⟩, fun q3 => ⟨fun q4 => ?_, fun z => ⟨_, rfl, (if_neg (fun y => y.2.2.2 z)).symm, Fr.rf⟩⟩⟩⟩⟩)
  have hA : arA (aW A) d a b = nI (areS (rr (aW A) allE a.toNatClampNeg d.toNatClampNeg) (rr (aW A) allE b.toNatClampNeg d.toNatClampNeg)) := if_pos ⟨bI_n.mp q, bI_n.mp q2, bI_n.mp q3, q4⟩
  obtain ⟨d, hd, rfl⟩ := (inN_iff 19 (by decide)).mp (bI_n.mp q)
  obtain ⟨a, ha, rfl⟩ := (isC_iff (by omega)).mp (bI_n.mp q2)
  obtain ⟨b, hb, rfl⟩ := (isC_iff (by omega)).mp (bI_n.mp q3)
  obtain ⟨s, hc, hT, hF⟩ := x7_comeTo (E := E) h ho (show d < 20 by omega)
  rw [cl (show d < 2147483648 by omega), cl (show a < 2147483648 by omega), cl (show b < 2147483648 by omega)] at hA
  refine ⟨s, hc, vin (by omega) (by decide), vin (by omega) (by decide), ?_⟩
  rw [cl (show a < 2147483648 by omega), cl (show b < 2147483648 by omega)]
  exact ⟨_, _, x3_against (isRingN a (by omega)) (isRingN b (by omega)) (hT.2 a ha) (hT.2 b hb) (pre_ok (okA_W ho) ha (d + 1)) (pre_ok (okA_W ho) hb (d + 1)), _, rfl, hA.symm, hF.mono (fun c i z => sTw_q z)⟩
theorem x7_pairs (h : StX A σ) (ho : okA A) (d w : Int32) : AnsX E mX7_pairs [.ref 0, .int d, .int w] σ (prA (aW A) d w) := by
  refine C_X7_pairs (tX7_pairs_0 ⟨_, _, x7_isDay, fun z => ⟨_, rfl, (if_neg (fun y => bI_0.mp z y.1)).symm, Fr.rf⟩, fun q => ⟨_, _, x7_isWithin, fun q2 => ?_, fun z => ⟨_, rfl, (if_neg (fun y => bI_0.mp z y.2)).symm, Fr.rf⟩⟩⟩)
  have hA : prA (aW A) d w = nI (prS (wn (aW A)) (fun k => rr (aW A) allE k d.toNatClampNeg) w.toNatClampNeg) := if_pos ⟨bI_n.mp q, bI_n.mp q2⟩
  obtain ⟨d, hd, rfl⟩ := (inN_iff 19 (by decide)).mp (bI_n.mp q)
  obtain ⟨w, hw, rfl⟩ := (inN_iff 1 (by decide)).mp (bI_n.mp q2)
  rw [cl (show d < 2147483648 by omega), cl (show w < 2147483648 by omega)] at hA
  obtain ⟨s, hc, hT, hF⟩ := x7_comeTo (E := E) h ho (show d < 20 by omega)
  have hF := hF.mono (fun c i z => sTw_q z)
  have e0 : nI w = 0 ↔ w = 0 := nI_eq' (show w < 2147483648 by omega) (show 0 < 2147483648 by decide)
  have hcp := x6_closedPairs (E := E) hT (okT_W (okA_W ho)) hw
  refine ⟨s, hc, fun z => ?_, fun z => ?_⟩
  · rw [show maskX w = 10 from if_neg (fun y => z (e0.mpr y))] at hcp
    exact ⟨_, _, hcp, _, rfl, hA.symm, hF⟩
  · rw [show maskX w = 4 from if_pos (e0.mp z)] at hcp
    exact ⟨_, _, hcp, _, rfl, hA.symm, hF⟩
theorem x7_closed (h : StX A σ) (ho : okA A) (d : Int32) : AnsX E mX7_closed [.ref 0, .int d] σ (clA (aW A) d) := by
  refine C_X7_closed (tX7_closed_0 ⟨_, _, x7_isDay, fun q => ?_, fun z => ⟨_, rfl, (if_neg (bI_0.mp z)).symm, Fr.rf⟩⟩)
  have hA : clA (aW A) d = clS (wn (aW A)) (fun k => rr (aW A) allE k d.toNatClampNeg) := if_pos (bI_n.mp q)
  obtain ⟨d, hd, rfl⟩ := (inN_iff 19 (by decide)).mp (bI_n.mp q)
  rw [cl (show d < 2147483648 by omega)] at hA
  obtain ⟨s, hc, hT, hF⟩ := x7_comeTo (E := E) h ho (show d < 20 by omega)
  exact ⟨s, hc, _, _, x6_closedBits hT (okT_W (okA_W ho)), _, rfl, hA.symm, hF.mono (fun c i z => sTw_q z)⟩
theorem x7_ringed (h : StX A σ) (ho : okA A) (k : Int32) : AnsX E mX7_ringed [.ref 0, .int k] σ (rgA (aW A) k) := by
  have hn : wn (aW A) ≤ 8 := (okA_W ho).1
  refine C_X7_ringed (tX7_ringed_0 ⟨_, _, x0_has isCpl2 h.cp _, fun q => ?_, fun z => ⟨_, rfl, (if_neg (bI_0.mp z)).symm, Fr.rf⟩⟩)
  have hA : rgA (aW A) k = rgS (rr (aW A) allE) k.toNatClampNeg := if_pos (bI_n.mp q)
  obtain ⟨k, hk, rfl⟩ := (isC_iff (by omega)).mp (bI_n.mp q)
  rw [cl (show k < 2147483648 by omega)] at hA
  rw [hA]
  have loop : ∀ d (τ : Hp), d ≤ 20 → (Fr sqX σ τ ∧ ∀ j, j < d → decide (ga (rr (aW A) allE k j) = 4) = false) → Ru E mX7_ringed 16 [(0, .ref 0), (1, .int (nI k)), (2, .int (nI d))] [] τ (PI (fun v σ' => v = rgS (rr (aW A) allE) k ∧ Fr sqX σ σ')) := by
    refine for_up 20 _ _ ?_ ?_
    · intro d τ hd ⟨hF, hJ⟩ ih
      obtain ⟨s, hc, hR, hF1⟩ := x7_single (E := E) (h.q hF) ho hk hd
      have hF1 := hF.tr (hF1.mono (fun c i z => oc_q z))
      refine tX7_ringed_16 ⟨fun z => ?_, fun _ => ⟨_, _, x1_all isEvt12 (h.q hF).ev ho.2.2.1, s, hc, _, _, x3_isClosed isRing39 hR (pre_ok (okA_W ho) hk (d + 1)), fun z => ?_, fun z => ⟨_, rfl, ?_, hF1⟩⟩⟩
      · rw [show (20 : Int32) = nI 20 from rfl, nI_le' (by decide) (by omega)] at z; omega
      · rw [nI_1]
        refine ih s ⟨hF1, fun j hj => ?_⟩
        rcases Nat.lt_or_ge j d with y | y
        · exact hJ j y
        · rw [show j = d by omega]
          exact decide_eq_false (bI_0.mp z)
      · have e : fst1 (fun d => decide (ga (rr (aW A) allE k d) = 4)) 20 = d := fst1_eq (by omega) hJ (Or.inr (decide_eq_true (bI_n.mp z)))
        unfold rgS
        rw [e, if_pos hd]
    · intro τ ⟨hF, hJ⟩
      have e : fst1 (fun d => decide (ga (rr (aW A) allE k d) = 4)) 20 = 20 := fst1_eq (Nat.le_refl _) hJ (Or.inl rfl)
      refine tX7_ringed_16 ⟨fun _ => ⟨_, rfl, ?_, hF⟩, fun z => absurd (by decide) z⟩
      unfold rgS
      rw [e, if_neg (by decide)]
  exact loop 0 σ (Nat.zero_le _) ⟨Fr.rf, fun j hj => by omega⟩
theorem x6_firstMetBy {n a : Nat} {R : Nat → Rg} (hT : TwX n R σ) (ho : okT n R) (ha : a < n) : Call E mX6_firstMetBy [.ref 29, .int (nI a)] σ (some (.int (if fst1 (fun b => decide (a < b) && sameL (R a) (R b)) n < n then nI (fst1 (fun b => decide (a < b) && sameL (R a) (R b)) n) else -1))) σ := by
  have hn := ho.1
  refine K_X6_firstMetBy (tX6_firstMetBy_0 ?_)
  have loop : ∀ b (u : Unit), b ≤ n → (a < b ∧ ∀ j, j < b → (decide (a < j) && sameL (R a) (R j)) = false) → Ru E mX6_firstMetBy 4 [(0, .ref 29), (1, .int (nI a)), (2, .int (nI b))] [] σ (PE (some (.int (if fst1 (fun b => decide (a < b) && sameL (R a) (R b)) n < n then nI (fst1 (fun b => decide (a < b) && sameL (R a) (R b)) n) else -1))) σ) := by
    refine for_up n _ _ ?_ ?_
    · intro b _ hb ⟨hab, hJ⟩ ih
      refine tX6_firstMetBy_4 ?_
      rw [hT.1, cl (show a < 2147483648 by omega), cl (show b < 2147483648 by omega), nI_1]
      refine ⟨fun z => ?_, fun _ => ⟨vin (by omega) (by decide), vin (by omega) (by decide), _, _, x3_meets (isRingN a (by omega)) (isRingN b (by omega)) (hT.2 a ha) (hT.2 b hb) (ho.2 a ha) (ho.2 b hb), fun z => ?_, fun z => ⟨?_, rfl⟩⟩⟩
      · rw [nI_le' (by omega) (by omega)] at z; omega
      · refine ih () ⟨by omega, fun j hj => ?_⟩
        rcases Nat.lt_or_ge j b with y | y
        · exact hJ j y
        · rw [show j = b by omega, eq_false_of_ne_true (bI_0.mp z), Bool.and_false]
      · have e : fst1 (fun b => decide (a < b) && sameL (R a) (R b)) n = b := fst1_eq (by omega) hJ (Or.inr (by rw [decide_eq_true hab, bI_n.mp z]; rfl))
        rw [e, if_pos hb]
    · intro _ ⟨hab, hJ⟩
      have e : fst1 (fun b => decide (a < b) && sameL (R a) (R b)) n = n := fst1_eq (Nat.le_refl _) hJ (Or.inl rfl)
      refine tX6_firstMetBy_4 ⟨fun _ => ⟨?_, rfl⟩, fun z => absurd (by rw [hT.1]; exact Int32.le_refl _) z⟩
      rw [e, if_neg (Nat.lt_irrefl _)]
  rw [nI_1]
  exact loop (a + 1) () ha ⟨by omega, fun j hj => by rw [decide_eq_false (by omega), Bool.false_and]⟩
theorem nI_m1 {n : Nat} (h : n < 2147483648) : ¬ nI n = -1 := by
  intro y
  have y := congrArg Int32.toInt y
  rw [nI_toInt h, show (-1 : Int32).toInt = -1 by decide] at y
  omega
theorem x7_meets (h : StX A σ) (ho : okA A) (w : Int32) : AnsX E mX7_meets [.ref 0, .int w] σ (meAns (aW A) w) := by
  have hW := okA_W ho
  have hn : wn (aW A) ≤ 8 := hW.1
  refine C_X7_meets (tX7_meets_0 ⟨_, _, x7_isWithin, fun q => ?_, fun z => ⟨_, rfl, (if_neg (bI_0.mp z)).symm, Fr.rf⟩⟩)
  have hA : meAns (aW A) w = meS (wn (aW A)) (rr (aW A) allE) w.toNatClampNeg := if_pos (bI_n.mp q)
  obtain ⟨w, hw, rfl⟩ := (inN_iff 2 (by decide)).mp (bI_n.mp q)
  rw [cl (show w < 2147483648 by omega)] at hA
  rw [hA]
  have days : ∀ d (τ : Hp), d ≤ 20 → (Fr sqX σ τ ∧ ∀ j, j < d → decide (meA (wn (aW A)) (rr (aW A) allE) j < wn (aW A)) = false) → Ru E mX7_meets 14 [(0, .ref 0), (1, .int (nI w)), (2, .int (nI d))] [] τ (PI (fun v σ' => v = meS (wn (aW A)) (rr (aW A) allE) w ∧ Fr sqX σ σ')) := by
    refine for_up 20 _ _ ?_ ?_
    · intro d τ hd ⟨hF, hJ⟩ ihd
      obtain ⟨s, hc, hT, hF1⟩ := x7_comeTo (E := E) (h.q hF) ho hd
      have hF1 := hF.tr (hF1.mono (fun c i z => sTw_q z))
      have ones : ∀ a (u : Unit), a ≤ wn (aW A) → (∀ j, j < a → decide (meB (wn (aW A)) (rr (aW A) allE) d j < wn (aW A)) = false) → Ru E mX7_meets 27 [(0, .ref 0), (1, .int (nI w)), (2, .int (nI d)), (3, .int (nI a))] [] s (PI (fun v σ' => v = meS (wn (aW A)) (rr (aW A) allE) w ∧ Fr sqX σ σ')) := by
        refine for_up (wn (aW A)) (fun a _ => ∀ j, j < a → decide (meB (wn (aW A)) (rr (aW A) allE) d j < wn (aW A)) = false) _ ?_ ?_
        · intro a _ ha hJa ih
          have hmt := x6_firstMetBy (E := E) hT (okT_W hW) ha
          have eB : fst1 (fun b => decide (a < b) && sameL (rr (aW A) allE a d) (rr (aW A) allE b d)) (wn (aW A)) = meB (wn (aW A)) (rr (aW A) allE) d a := rfl
          rw [eB] at hmt
          refine tX7_meets_27 ⟨fun z => ?_, fun _ => ⟨_, _, hmt, fun z => ?_, fun z => ?_⟩⟩
          · rw [hT.1, nI_le' (by omega) (by omega)] at z; omega
          · rw [nI_1]
            refine ih () (fun j hj => ?_)
            rcases Nat.lt_or_ge j a with y | y
            · exact hJa j y
            · rw [show j = a by omega]
              refine decide_eq_false (fun y2 => ?_)
              rw [if_pos y2] at z
              exact nI_m1 (by omega) z
          · have hb : meB (wn (aW A)) (rr (aW A) allE) d a < wn (aW A) := Decidable.byContradiction (fun y => z (by rw [if_neg y]))
            have e1 : meA (wn (aW A)) (rr (aW A) allE) d = a := fst1_eq (by omega) hJa (Or.inr (decide_eq_true hb))
            have e2 : meD (wn (aW A)) (rr (aW A) allE) = d := fst1_eq (by omega) hJ (Or.inr (decide_eq_true (by rw [e1]; exact ha)))
            refine ⟨_, _, x7_pick hw, _, rfl, ?_, hF1⟩
            unfold meS
            rw [e2, e1, if_pos hd, if_pos hb]
        · intro _ hJa
          have e1 : meA (wn (aW A)) (rr (aW A) allE) d = wn (aW A) := fst1_eq (Nat.le_refl _) hJa (Or.inl rfl)
          refine tX7_meets_27 ⟨fun _ => ?_, fun z => absurd (by rw [hT.1]; exact Int32.le_refl _) z⟩
          rw [nI_1]
          refine ihd s ⟨hF1, fun j hj => ?_⟩
          rcases Nat.lt_or_ge j d with y | y
          · exact hJ j y
          · rw [show j = d by omega, e1]
            exact decide_eq_false (Nat.lt_irrefl _)
      refine tX7_meets_14 ⟨fun z => ?_, fun _ => ⟨s, hc, ones 0 () (Nat.zero_le _) (fun j hj => by omega)⟩⟩
      rw [show (20 : Int32) = nI 20 from rfl, nI_le' (by decide) (by omega)] at z; omega
    · intro τ ⟨hF, hJ⟩
      have e : meD (wn (aW A)) (rr (aW A) allE) = 20 := fst1_eq (Nat.le_refl _) hJ (Or.inl rfl)
      refine tX7_meets_14 ⟨fun _ => ⟨_, rfl, ?_, hF⟩, fun z => absurd (by decide) z⟩
      unfold meS
      rw [e, if_neg (by decide)]
  exact days 0 σ (Nat.zero_le _) ⟨Fr.rf, fun j hj => by omega⟩
theorem x7_fault (h : StX A σ) : AnsX E mX7_fault [.ref 0] σ (fltS (at' A) (an A)) := C_X7_fault (tX7_fault_0 ⟨_, rfl, h.1.2.2.1, Fr.rf⟩)
theorem x7_couple (h : StX A σ) (ho : okA A) (k w : Int32) : AnsX E mX7_couple [.ref 0, .int k, .int w] σ (coA A k w) := by
  have hn : wn (aW A) ≤ 8 := (okA_W ho).1
  refine C_X7_couple (tX7_couple_0 ⟨_, _, x0_has isCpl2 h.cp _, fun q => ?_, fun z => ⟨_, rfl, (if_neg (fun y => bI_0.mp z y.1)).symm, Fr.rf⟩⟩)
  obtain ⟨k, hk, rfl⟩ := (isC_iff (by omega)).mp (bI_n.mp q)
  have g : ∀ f, f < 4 → σ (2 + 1 + f) k = nI (cdS (at' A) f k) := h.1.2.2.2.2 k hk
  have hv : vp_in (nI k) 8 := vin (by omega) (by decide)
  rw [cl (show k < 2147483648 by omega)]
  refine ⟨fun y => ⟨hv, _, rfl, ?_, Fr.rf⟩, fun y => ⟨hv, _, rfl, ?_, Fr.rf⟩, fun y => ⟨hv, _, rfl, ?_, Fr.rf⟩, fun y => ⟨hv, _, rfl, ?_, Fr.rf⟩, fun y => ⟨_, rfl, (if_neg (fun z => no3 y z.2)).symm, Fr.rf⟩⟩
  · rw [y]; exact (g 0 (by decide)).trans (coA_n (w := 0) hn hk (by decide)).symm
  · rw [y]; exact (g 1 (by decide)).trans (coA_n (w := 1) hn hk (by decide)).symm
  · rw [y]; exact (g 2 (by decide)).trans (coA_n (w := 2) hn hk (by decide)).symm
  · rw [y]; exact (g 3 (by decide)).trans (coA_n (w := 3) hn hk (by decide)).symm
end XA
