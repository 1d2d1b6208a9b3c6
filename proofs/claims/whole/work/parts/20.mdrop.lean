/-! THE REFERENCE: drop; what was seen: never, was -/
/-- nobody is talked of behind day 19 without the events of these bits -/
def nmk (x : Nat) : Nat → Bool := fun e => !x.testBit e
def dqS (W : Wo) (x : Nat) : Bool := decide (prS (wn W) (fun k => rr W (nmk x) k 19) 0 = 0)
def dr1 (W : Wo) : Nat := fst1 (fun a => dqS W (2 ^ a)) (wm W)
def dr2b (W : Wo) (a : Nat) : Nat := fst1 (fun b => decide (a < b) && dqS W (2 ^ a ||| 2 ^ b)) (wm W)
def dr2 (W : Wo) : Nat := fst1 (fun a => decide (dr2b W a < wm W)) (wm W)
def drS (W : Wo) (i : Int32) : Int32 := if dqS W 0 = true then (if i = -1 then 0 else -1) else if dr1 W < wm W then (if i = -1 then 1 else if i = 0 then nI (dr1 W) else -1) else if dr2 W < wm W then (if i = -1 then 2 else if i = 0 then nI (dr2 W) else nI (dr2b W (dr2 W))) else -1
def drA (W : Wo) (i : Int32) : Int32 := if -1 ≤ i ∧ i ≤ 1 then drS W i else -2
def sP (c i : Nat) : Prop := sQ c i ∨ c = 80 ∨ c = 85
section MDR
variable {E : Ev} {σ : Hp}
theorem RnM.msk {W : Wo} {m0 : Nat → Bool} {x : Nat} (h : RnM W m0 σ) (hm : wm W ≤ 8) (hx : x < 2147483648) : RnM W (nmk x) (up σ 53 17 (nI x)) := by
  obtain ⟨h1, h2, ⟨h3, h4⟩, h5⟩ := h
  refine ⟨by simp [up]; exact h1, fun j hj g hg => by rw [up_c (by omega)]; exact h2 j hj g hg, ⟨by simp [up]; exact h3, fun e he g hg => by rw [up_c (by omega)]; exact h4 e he g hg⟩, fun e he => ?_⟩
  rw [up_s, bt_nI hx (by omega)]
  rfl
theorem RnM.any {W : Wo} {m0 m1 : Nat → Bool} (h : RnM W m0 σ) (hm : ∀ e, e < wm W → m1 e = m0 e) : RnM W m1 σ := ⟨h.1, h.2.1, h.2.2.1, fun e he => (hm e he).trans (h.2.2.2 e he)⟩
/-- as told but for which events are left out -/
def RnA (W : Wo) (σ : Hp) : Prop := ∃ m0, RnM W m0 σ
theorem s17 : sQ 53 17 := Or.inl (Or.inr (Or.inr ⟨rfl, Or.inr rfl⟩))
theorem c8_isQuiet {W : Wo} {x : Nat} (hW : okW W) (hR : RnA W σ) (hx : x < 2147483648) :
    ∃ (v1 : Int32) (σ' : Hp), Call E mX8_isQuiet [.ref 53, .int (nI x)] σ (some (.int v1)) σ' ∧ (v1 = bI (dqS W x = true) ∧ RnA W σ' ∧ Fr sQ σ σ') := by
  obtain ⟨m0, hR⟩ := hR
  obtain ⟨s1, hc1, h1, -, h3, hF1⟩ := c8_runs (E := E) hW (hR.msk hW.2.1 hx)
  have hF : Fr sQ σ s1 := (Fr.rf.up s17).tr (hF1.mono (fun c i h => Or.inr h))
  have hle := prS_le hW.1 (fun k => rr W (nmk x) k 19) 0
  have e0 : nI (prS (wn W) (fun k => rr W (nmk x) k 19) 0) = 0 ↔ prS (wn W) (fun k => rr W (nmk x) k 19) 0 = 0 := nI_eq' (show prS (wn W) (fun k => rr W (nmk x) k 19) 0 < 2147483648 by omega) (show 0 < 2147483648 by decide)
  refine C_X8_isQuiet (tX8_isQuiet_0 ⟨s1, hc1, _, _, c8_pairsNow (d := 19) (w := 0) hW ⟨h3.1, h1⟩ (by decide) (by decide), fun q => ⟨_, rfl, ?_, ⟨_, h3⟩, hF⟩, fun q => ⟨_, rfl, ?_, ⟨_, h3⟩, hF⟩⟩)
  · exact (bI_f (p := dqS W x = true) (fun z => q (e0.mpr (decide_eq_true_iff.mp z)))).symm
  · exact (bI_t (p := dqS W x = true) (decide_eq_true_iff.mpr (e0.mp q))).symm
def dpS (W : Wo) (σ : Hp) (v : Int32) (σ' : Hp) : Prop :=
  ((dqS W 0 = true ∧ v = 0) ∨ (¬ dqS W 0 = true ∧ dr1 W < wm W ∧ v = 1 ∧ σ' 80 0 = nI (dr1 W)) ∨ (¬ dqS W 0 = true ∧ ¬ dr1 W < wm W ∧ dr2 W < wm W ∧ v = 2 ∧ σ' 80 0 = nI (dr2 W) ∧ σ' 80 1 = nI (dr2b W (dr2 W))) ∨ (¬ dqS W 0 = true ∧ ¬ dr1 W < wm W ∧ ¬ dr2 W < wm W ∧ v = -1)) ∧ Fr sP σ σ'
theorem c8_dropBy {t : Nat → Nat} {nb : Nat} {v : Nat → Nat → Nat} {m : Nat} (hT : ToM t nb v m σ) :
    ∃ (v1 : Int32) (σ' : Hp), Call E mX8_dropBy [.ref 53] σ (some (.int v1)) σ' ∧ dpS (woS t nb v m) σ v1 σ' := by
  have hW := woS_ok hT
  have hm8 : m ≤ 8 := hW.2.1
  have two : ∀ a, a < m → 2 ^ a < 256 := fun a ha => Nat.pow_lt_pow_right (n := 8) (by decide) (by omega)
  obtain ⟨s0, hc0, hR0, -, hF0⟩ := c8_asTold (E := E) hT
  have hF0' : Fr sP σ s0 := hF0.mono (fun c i h => Or.inl (Or.inl h))
  have k7 : ∀ s, Fr sP σ s → s 53 7 = nI m := fun s hF => by rw [hF 53 7 (by unfold sP sQ sT sW sN sR; omega)]; exact hT.2.1.1
  have hR0' : RnA (woS t nb v m) s0 := ⟨_, hR0⟩
  obtain ⟨v1, s1, hc1, rfl, hR1, hF1⟩ := c8_isQuiet (E := E) (x := 0) hW hR0' (by decide)
  have hF1' : Fr sP σ s1 := hF0'.tr (hF1.mono (fun c i h => Or.inl h))
  have put : ∀ {s : Hp} {i : Nat} {x : Int32}, RnA (woS t nb v m) s → RnA (woS t nb v m) (up s 80 i x) := by
    intro s i x ⟨m0, h1, h2, ⟨h3, h4⟩, h5⟩
    exact ⟨m0, by simp [up]; exact h1, fun j hj g hg => by rw [up_c (by omega)]; exact h2 j hj g hg, ⟨by simp [up]; exact h3, fun e he g hg => by rw [up_c (by omega)]; exact h4 e he g hg⟩, fun e he => by simp [up]; exact h5 e he⟩
  refine C_X8_dropBy (tX8_dropBy_0 ⟨s0, hc0, _, _, hc1, fun q => ?_, fun q => ⟨_, rfl, Or.inl ⟨bI_n.mp q, rfl⟩, hF1'⟩⟩)
  have q0 := bI_0.mp q
  -- two
  have third : ¬ dr1 (woS t nb v m) < m → ∀ a (s : Hp), a ≤ m → ((∀ a', a' < a → ¬ dr2b (woS t nb v m) a' < m) ∧ RnA (woS t nb v m) s ∧ Fr sP σ s) → Ru E mX8_dropBy 51 [(0, .ref 53), (1, .int (nI a))] [] s (PI (dpS (woS t nb v m) σ)) := by
    intro hd1
    refine for_up m _ _ ?_ ?_
    · intro a s ha ⟨hJ, hR, hF⟩ ih
      refine tX8_dropBy_51 ⟨fun z => ?_, fun _ => ?_⟩
      · rw [k7 s hF, nI_le' (by omega) (by omega)] at z; omega
      · have inner : ∀ b (s : Hp), b ≤ m → (a < b ∧ (∀ b', b' < b → (decide (a < b') && dqS (woS t nb v m) (2 ^ a ||| 2 ^ b')) = false) ∧ RnA (woS t nb v m) s ∧ Fr sP σ s) → Ru E mX8_dropBy 63 [(0, .ref 53), (1, .int (nI a)), (2, .int (nI b))] [] s (PI (dpS (woS t nb v m) σ)) := by
          refine for_up m _ _ ?_ ?_
          · intro b s hb ⟨hab, hJb, hR, hF⟩ ih2
            have e1 : (1 : Int32) <<< (nI a &&& 31) ||| 1 <<< (nI b &&& 31) = nI (2 ^ a ||| 2 ^ b) := by rw [shl1 (by omega), shl1 (by omega), orI]
            have hlt : (2 ^ a ||| 2 ^ b) < 256 := Nat.or_lt_two_pow (n := 8) (two a ha) (two b hb)
            obtain ⟨v1, s2, hc2, rfl, hR2, hF2⟩ := c8_isQuiet (E := E) (x := 2 ^ a ||| 2 ^ b) hW (put (i := 1) (x := nI b) (put (i := 0) (x := nI a) hR)) (by omega)
            have hFu : Fr sP σ (up (up s 80 0 (nI a)) 80 1 (nI b)) := (hF.up (Or.inr (Or.inl rfl))).up (Or.inr (Or.inl rfl))
            have hF2' : Fr sP σ s2 := hFu.tr (hF2.mono (fun c i h => Or.inl h))
            refine tX8_dropBy_63 ?_
            rw [k7 s hF, e1, nI_1 b]
            refine ⟨fun z => ?_, fun _ => ⟨_, _, hc2, fun z => ih2 s2 ⟨by omega, fun b' hb' => ?_, hR2, hF2'⟩, fun z => ⟨_, rfl, Or.inr (Or.inr (Or.inl ?_)), hF2'⟩⟩⟩
            · rw [nI_le' (by omega) (by omega)] at z; omega
            · rcases Nat.lt_or_ge b' b with y | y
              · exact hJb b' y
              · rw [show b' = b by omega]
                have := bI_0.mp z
                have : dqS (woS t nb v m) (2 ^ a ||| 2 ^ b) = false := by simpa using this
                rw [this, Bool.and_false]
            · have hq := bI_n.mp z
              have eB : dr2b (woS t nb v m) a = b := fst1_eq (show b ≤ m by omega) hJb (Or.inr (by rw [decide_eq_true hab, hq]; rfl))
              have eA : dr2 (woS t nb v m) = a := fst1_eq (show a ≤ m by omega) (fun j hj => decide_eq_false (hJ j hj)) (Or.inr (decide_eq_true (by rw [eB]; exact hb)))
              rw [eA, eB]
              refine ⟨q0, hd1, ha, rfl, ?_, ?_⟩
              · rw [hF2 80 0 (by unfold sQ sT sW sN sR; omega)]; simp [up]
              · rw [hF2 80 1 (by unfold sQ sT sW sN sR; omega)]; simp [up]
          · intro s ⟨hab, hJb, hR, hF⟩
            refine tX8_dropBy_63 ⟨fun _ => ?_, fun z => ?_⟩
            · rw [nI_1]
              refine ih s ⟨fun a' ha' => ?_, hR, hF⟩
              rcases Nat.lt_or_ge a' a with y | y
              · exact hJ a' y
              · rw [show a' = a by omega]
                have eB : dr2b (woS t nb v m) a = m := fst1_eq (Nat.le_refl _) hJb (Or.inl rfl)
                rw [eB]
                exact Nat.lt_irrefl _
            · rw [k7 s hF] at z
              exact absurd (Int32.le_refl _) z
        rw [nI_1]
        exact inner (a + 1) s (by omega) ⟨by omega, fun b' hb' => by rw [decide_eq_false (show ¬ a < b' by omega)]; rfl, hR, hF⟩
    · intro s ⟨hJ, hR, hF⟩
      refine tX8_dropBy_51 ⟨fun _ => ⟨_, rfl, Or.inr (Or.inr (Or.inr ⟨q0, hd1, ?_, rfl⟩)), hF⟩, fun z => ?_⟩
      · have eA : dr2 (woS t nb v m) = m := fst1_eq (Nat.le_refl _) (fun j hj => decide_eq_false (hJ j hj)) (Or.inl rfl)
        rw [eA]
        exact Nat.lt_irrefl _
      · rw [k7 s hF] at z
        exact absurd (Int32.le_refl _) z
  have second : ∀ a (s : Hp), a ≤ m → ((∀ a', a' < a → dqS (woS t nb v m) (2 ^ a') = false) ∧ RnA (woS t nb v m) s ∧ Fr sP σ s) → Ru E mX8_dropBy 16 [(0, .ref 53), (1, .int (nI a))] [] s (PI (dpS (woS t nb v m) σ)) := by
    refine for_up m _ _ ?_ ?_
    · intro a s ha ⟨hJ, hR, hF⟩ ih
      have hlt := two a ha
      obtain ⟨v1, s2, hc2, rfl, hR2, hF2⟩ := c8_isQuiet (E := E) (x := 2 ^ a) hW (put (i := 0) (x := nI a) hR) (by omega)
      have hF2' : Fr sP σ s2 := (hF.up (Or.inr (Or.inl rfl))).tr (hF2.mono (fun c i h => Or.inl h))
      refine tX8_dropBy_16 ?_
      rw [k7 s hF, shl1 (show a < 31 by omega), nI_1]
      refine ⟨fun z => ?_, fun _ => ⟨_, _, hc2, fun z => ih s2 ⟨fun a' ha' => ?_, hR2, hF2'⟩, fun z => ⟨_, rfl, Or.inr (Or.inl ?_), hF2'⟩⟩⟩
      · rw [nI_le' (by omega) (by omega)] at z; omega
      · rcases Nat.lt_or_ge a' a with y | y
        · exact hJ a' y
        · rw [show a' = a by omega]
          have := bI_0.mp z
          simpa using this
      · have e1 : dr1 (woS t nb v m) = a := fst1_eq (show a ≤ m by omega) hJ (Or.inr (bI_n.mp z))
        rw [e1]
        refine ⟨q0, ha, rfl, ?_⟩
        rw [hF2 80 0 (by unfold sQ sT sW sN sR; omega)]; simp [up]
    · intro s ⟨hJ, hR, hF⟩
      refine tX8_dropBy_16 ⟨fun _ => third ?_ 0 s (Nat.zero_le _) ⟨fun a' ha' => by omega, hR, hF⟩, fun z => ?_⟩
      · have e1 : dr1 (woS t nb v m) = m := fst1_eq (Nat.le_refl _) hJ (Or.inl rfl)
        rw [e1]
        exact Nat.lt_irrefl _
      · rw [k7 s hF] at z
        exact absurd (Int32.le_refl _) z
  exact second 0 s1 (Nat.zero_le _) ⟨fun a' ha' => by omega, hR1, hF1'⟩
theorem c8_ofRow {W : Wo} {τ : Hp} {n i : Int32} (hW : okW W) (h : dpS W τ n σ) (hi : -1 ≤ i ∧ i ≤ 1) : Call E mX8_ofRow [.ref 53, .int n, .int i] σ (some (.int (drS W i))) σ := by
  have h1 := hi.1
  have h2 := hi.2
  rw [Int32.le_iff_toInt_le] at h1 h2
  have em : (-1 : Int32).toInt = -1 := by decide
  have ei : i = -1 ∨ i = 0 ∨ i = 1 := by
    have e1 : (1 : Int32).toInt = 1 := by decide
    rw [em] at h1
    rw [e1] at h2
    rcases (show i.toInt = -1 ∨ i.toInt = 0 ∨ i.toInt = 1 by omega) with z | z | z
    · exact Or.inl (Int32.toInt_inj.mp (by rw [z, em]))
    · exact Or.inr (Or.inl (Int32.toInt_inj.mp (by rw [z]; rfl)))
    · exact Or.inr (Or.inr (Int32.toInt_inj.mp (by rw [z, e1])))
  refine K_X8_ofRow (tX8_ofRow_0 ?_)
  have hs := h.1
  unfold drS
  rcases ei with rfl | rfl | rfl
  · refine ⟨fun z => absurd rfl z, fun _ => ⟨?_, rfl⟩⟩
    rcases hs with ⟨a, rfl⟩ | ⟨a, b, rfl, -⟩ | ⟨a, b, c, rfl, -⟩ | ⟨a, b, c, rfl⟩
    · rw [if_pos a, if_pos rfl]
    · rw [if_neg a, if_pos b, if_pos rfl]
    · rw [if_neg a, if_neg b, if_pos c, if_pos rfl]
    · rw [if_neg a, if_neg b, if_neg c]
  · refine ⟨fun _ => ⟨fun z => ⟨?_, rfl⟩, fun z => ⟨(by unfold vp_in; decide), ?_, rfl⟩⟩, fun z => absurd z (by decide)⟩
    · rcases hs with ⟨a, rfl⟩ | ⟨a, b, rfl, -⟩ | ⟨a, b, c, rfl, -⟩ | ⟨a, b, c, rfl⟩
      · rw [if_pos a, if_neg (by decide)]
      · exact absurd z (by decide)
      · exact absurd z (by decide)
      · rw [if_neg a, if_neg b, if_neg c]
    · rcases hs with ⟨a, rfl⟩ | ⟨a, b, rfl, d⟩ | ⟨a, b, c, rfl, d, -⟩ | ⟨a, b, c, rfl⟩
      · exact absurd (by decide) z
      · rw [if_neg a, if_pos b, if_neg (by decide), if_pos rfl]
        show some (Value.int (σ 80 0)) = _
        rw [d]
      · rw [if_neg a, if_neg b, if_pos c, if_neg (by decide), if_pos rfl]
        show some (Value.int (σ 80 0)) = _
        rw [d]
      · exact absurd (by decide) z
  · refine ⟨fun _ => ⟨fun z => ⟨?_, rfl⟩, fun z => ⟨(by unfold vp_in; decide), ?_, rfl⟩⟩, fun z => absurd z (by decide)⟩
    · rcases hs with ⟨a, rfl⟩ | ⟨a, b, rfl, -⟩ | ⟨a, b, c, rfl, -⟩ | ⟨a, b, c, rfl⟩
      · rw [if_pos a, if_neg (by decide)]
      · rw [if_neg a, if_pos b, if_neg (by decide), if_neg (by decide)]
      · exact absurd z (by decide)
      · rw [if_neg a, if_neg b, if_neg c]
    · rcases hs with ⟨a, rfl⟩ | ⟨a, b, rfl, d⟩ | ⟨a, b, c, rfl, d, d2⟩ | ⟨a, b, c, rfl⟩
      · exact absurd (by decide) z
      · exact absurd (by decide) z
      · rw [if_neg a, if_neg b, if_pos c, if_neg (by decide), if_neg (by decide)]
        show some (Value.int (σ 80 1)) = _
        rw [d2]
      · exact absurd (by decide) z
theorem c8_drop {t : Nat → Nat} {nb : Nat} {v : Nat → Nat → Nat} {m : Nat} (hT : ToM t nb v m σ) (i : Int32) :
    ∃ (v1 : Int32) (σ' : Hp), Call E mX8_drop [.ref 53, .int i] σ (some (.int v1)) σ' ∧ (v1 = drA (woS t nb v m) i ∧ Fr sP σ σ') := by
  refine C_X8_drop (tX8_drop_0 ⟨_, _, c8_in, fun q => ⟨_, rfl, ?_, Fr.rf⟩, fun q => ?_⟩)
  · exact (if_neg (bI_0.mp q)).symm
  · have q := bI_n.mp q
    obtain ⟨v1, s1, hc1, h1⟩ := c8_dropBy (E := E) hT
    exact ⟨_, _, hc1, _, _, c8_ofRow (woS_ok hT) h1 q, _, rfl, (if_pos q).symm, h1.2⟩
end MDR
