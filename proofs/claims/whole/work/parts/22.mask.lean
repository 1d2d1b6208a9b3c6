/-! THE REFERENCE: isSeen, never, was, ask -/
section MSE
variable {E : Ev} {σ : Hp}
def SnM (S : Sn) (σ : Hp) : Prop := σ 53 33 = nI (sc S) ∧ ∀ i, i < sc S → σ 81 i = nI (sd S i) ∧ σ 82 i = nI (sh S i) ∧ σ 83 i = sx S i ∧ σ 84 i = sy S i
theorem SnM.fr {S : Sn} {σ σ' : Hp} {Z : Nat → Nat → Prop} (h : SnM S σ) (hF : Fr Z σ σ') (hZ : ∀ c i, Z c i → (c = 53 ∧ i = 33) ∨ (81 ≤ c ∧ c ≤ 84) → False) : SnM S σ' := by
  refine ⟨by rw [hF _ _ (fun z => hZ _ _ z (Or.inl ⟨rfl, rfl⟩))]; exact h.1, fun i hi => ?_⟩
  have k : ∀ c, 81 ≤ c → c ≤ 84 → σ' c i = σ c i := fun c a b => hF _ _ (fun z => hZ _ _ z (Or.inr ⟨a, b⟩))
  rw [k 81 (by decide) (by decide), k 82 (by decide) (by decide), k 83 (by decide) (by decide), k 84 (by decide) (by decide)]
  exact h.2 i hi
theorem sW_sn : ∀ c i, sW c i → (c = 53 ∧ i = 33) ∨ (81 ≤ c ∧ c ≤ 84) → False := fun c i h z => by unfold sW sN at h; omega
theorem sQ_sn : ∀ c i, sQ c i → (c = 53 ∧ i = 33) ∨ (81 ≤ c ∧ c ≤ 84) → False := fun c i h z => by unfold sQ sT sW sN sR at h; omega
theorem sP_sn : ∀ c i, sP c i → (c = 53 ∧ i = 33) ∨ (81 ≤ c ∧ c ≤ 84) → False := fun c i h z => by unfold sP sQ sT sW sN sR at h; omega
theorem c8_isSeen {W : Wo} {msk : Nat → Bool} {S : Sn} (hW : okW W) (hS : okS S) (hR : RnM W msk σ) (hSn : SnM S σ) :
    ∃ (v1 : Int32) (σ' : Hp), Call E mX8_isSeen [.ref 53] σ (some (.int v1)) σ' ∧ (v1 = bI (senS W msk S = true) ∧ DyM W msk σ' ∧ RnM W msk σ' ∧ Fr sW σ σ') := by
  have hn := hW.1
  have hc8 := hS.1
  obtain ⟨s1, hc1, h1, -, h3, hF1⟩ := c8_runs (E := E) hW hR
  have hD : DyM W msk s1 := ⟨h3.1, h1⟩
  have hSn1 := hSn.fr hF1 sW_sn
  refine C_X8_isSeen (tX8_isSeen_0 ⟨s1, hc1, ?_⟩)
  have fin : ∀ (b : Bool), (b = true ↔ senS W msk S = true) → PI (fun v1 σ' => v1 = bI (senS W msk S = true) ∧ DyM W msk σ' ∧ RnM W msk σ' ∧ Fr sW σ σ') (some (.int (bI (b = true)))) s1 := fun b hb => ⟨_, rfl, bI_congr hb, hD, h3, hF1⟩
  have loop : ∀ i (b : Bool), i ≤ sc S → (b = true ↔ ∀ j, j < i → senB W msk S j = true) → Ru E mX8_isSeen 8 [(0, .ref 53), (1, .int (bI (b = true))), (2, .int (nI i))] [] s1 (PI (fun v1 σ' => v1 = bI (senS W msk S = true) ∧ DyM W msk σ' ∧ RnM W msk σ' ∧ Fr sW σ σ')) := by
    refine for_up (sc S) _ _ ?_ ?_
    · intro i b hi hb ih
      obtain ⟨k1, k2, k3, k4⟩ := hSn1.2 i hi
      obtain ⟨o1, o2⟩ := hS.2 i hi
      have put : ∀ b' : Bool, b = true → senB W msk S i = b' → ∀ z : Int32, z = bI (b' = true) → Ru E mX8_isSeen 8 [(0, .ref 53), (1, .int z), (2, .int (nI i + 1))] [] s1 (PI (fun v1 σ' => v1 = bI (senS W msk S = true) ∧ DyM W msk σ' ∧ RnM W msk σ' ∧ Fr sW σ σ')) := by
        intro b' hbt hb' z hz
        rw [hz, nI_1]
        refine ih b' ⟨fun y j hj => ?_, fun y => ?_⟩
        · rcases Nat.lt_or_ge j i with q | q
          · exact hb.mp hbt j q
          · rw [show j = i by omega, hb']; exact y
        · rw [← hb']; exact y i (by omega)
      refine tX8_isSeen_8 ?_
      rw [hSn1.1, cl (show i < 2147483648 by omega), k1, k2, hD.1, ix8]
      refine ⟨fun z => ?_, fun _ => ⟨fun z => ⟨bI_nar, fin b ⟨fun y => absurd y (bI_0.mp z), fun y => hb.mpr (fun j hj => (decide_eq_true_iff.mp y) j (by omega))⟩⟩, fun z => ?_⟩⟩
      · rw [nI_le' (by omega) (by omega)] at z; omega
      · have hbt := bI_n.mp z
        refine ⟨vin (by omega) (by decide), fun z2 => ?_, fun z2 => ?_⟩
        · rw [nI_le' (by omega) (by omega)] at z2
          exact put false hbt (by unfold senB; rw [decide_eq_false (show ¬ sh S i < wn W by omega)]; rfl) _ rfl
        · rw [nI_le' (by omega) (by omega)] at z2
          have hw : sh S i < wn W := by omega
          refine ⟨_, _, c8_legXAt hW hD o1 hw, fun z3 => ?_, fun z3 => ⟨_, _, c8_legYAt hW hD o1 hw, fun z4 => ?_, fun z4 => ?_⟩⟩
          · rw [k3] at z3
            exact put false hbt (by unfold senB; rw [decide_eq_false z3, Bool.false_and, Bool.and_false]) _ rfl
          · rw [k3] at z3
            rw [k4] at z4
            exact put false hbt (by unfold senB; rw [decide_eq_false z4, Bool.and_false, Bool.and_false]) _ rfl
          · rw [k3] at z3
            rw [k4] at z4
            exact put true hbt (by unfold senB; rw [decide_eq_true hw, decide_eq_true z3, decide_eq_true z4]; rfl) _ rfl
    · intro b hb
      refine tX8_isSeen_8 ⟨fun _ => ⟨bI_nar, fin b (by rw [hb]; exact decide_eq_true_iff.symm)⟩, fun z => ?_⟩
      rw [hSn1.1] at z
      exact absurd (Int32.le_refl _) z
  exact loop 0 true (Nat.zero_le _) ⟨fun _ j hj => by omega, fun _ => rfl⟩
theorem c8_neverNow {t : Nat → Nat} {nb : Nat} {v : Nat → Nat → Nat} {m : Nat} {S : Sn} (hT : ToM t nb v m σ) (hS : okS S) (hSn : SnM S σ) :
    ∃ (v1 : Int32) (σ' : Hp), Call E mX8_neverNow [.ref 53] σ (some (.int v1)) σ' ∧ (v1 = neS (woS t nb v m) S ∧ Fr sQ σ σ') := by
  have hW := woS_ok hT
  have hm8 : m ≤ 8 := hW.2.1
  obtain ⟨s0, hc0, hR0, -, hF0⟩ := c8_asTold (E := E) hT
  have k7 : ∀ s, Fr sQ σ s → s 53 7 = nI m := fun s hF => by rw [hF 53 7 (by unfold sQ sT sW sN sR; omega)]; exact hT.2.1.1
  refine C_X8_neverNow (tX8_neverNow_0 ⟨s0, hc0, ?_⟩)
  have loop : ∀ e (s : Hp), e ≤ m → (RnA (woS t nb v m) s ∧ Fr sQ σ s) → Ru E mX8_neverNow 8 [(0, .ref 53), (1, .int (bs (fun e => senS (woS t nb v m) (nmk (2 ^ e)) S) e)), (2, .int (nI e))] [] s (PI (fun v1 σ' => v1 = neS (woS t nb v m) S ∧ Fr sQ σ σ')) := by
    refine for_up m _ _ ?_ ?_
    · intro e s he ⟨⟨m0, hR⟩, hF⟩ ih
      have h2 : 2 ^ e < 256 := Nat.pow_lt_pow_right (n := 8) (by decide) (by omega)
      have hFu : Fr sQ σ (up s 53 17 (nI (2 ^ e))) := hF.up s17
      obtain ⟨v1, s1, hc1, rfl, hD, hR1, hF1⟩ := c8_isSeen (E := E) hW hS (hR.msk (x := 2 ^ e) hm8 (by omega)) (hSn.fr hFu sQ_sn)
      have ih := ih s1 ⟨⟨_, hR1⟩, hFu.tr (hF1.mono (fun c i h => Or.inr h))⟩
      unfold bs at ih
      refine tX8_neverNow_8 ?_
      rw [k7 s hF, shl1 (show e < 31 by omega), nI_1]
      rw [shl1 (show e < 31 by omega)] at ih
      refine ⟨fun z => ?_, fun _ => ⟨_, _, hc1, fun z => ?_, fun z => ?_⟩⟩
      · rw [nI_le' (by omega) (by omega)] at z; omega
      · rw [if_neg (bI_0.mp z)] at ih
        exact ih
      · rw [if_pos (bI_n.mp z)] at ih
        exact ih
    · intro s ⟨hR, hF⟩
      refine tX8_neverNow_8 ⟨fun _ => ⟨_, rfl, rfl, hF⟩, fun z => ?_⟩
      rw [k7 s hF] at z
      exact absurd (Int32.le_refl _) z
  exact loop 0 s0 (Nat.zero_le _) ⟨⟨_, hR0⟩, hF0.mono (fun c i h => Or.inl h)⟩
theorem c8_never {t : Nat → Nat} {nb : Nat} {v : Nat → Nat → Nat} {m : Nat} {S : Sn} (hT : ToM t nb v m σ) (hS : okS S) (hSn : SnM S σ) :
    ∃ (v1 : Int32) (σ' : Hp), Call E mX8_never [.ref 53] σ (some (.int v1)) σ' ∧ (v1 = neS (woS t nb v m) S ∧ Fr sQ σ σ') := by
  obtain ⟨v1, s, hc, h⟩ := c8_neverNow (E := E) hT hS hSn
  exact C_X8_never (tX8_never_0 ⟨_, _, hc, _, rfl, h⟩)
theorem c8_sortsBy {t : Nat → Nat} {nb : Nat} {v : Nat → Nat → Nat} {m : Nat} {S : Sn} (hT : ToM t nb v m σ) (hS : okS S) (hSn : SnM S σ) {k : Nat} (hk : k < ncS t nb) :
    ∃ (v1 : Int32) (σ' : Hp), Call E mX8_sortsBy [.ref 53, .int (nI k)] σ (some (.int v1)) σ' ∧ (v1 = bs (soB (woS t nb v m) S k) 3 ∧ Fr sQ σ σ') := by
  have hW := woS_ok hT
  have hn : ncS t nb ≤ 8 := hW.1
  obtain ⟨s0, hc0, hR0, -, hF0⟩ := c8_asTold (E := E) hT
  have hv9 : vp_in (nI k) 9 := vin (by omega) (by decide)
  have s58 : sQ 58 k := Or.inl (Or.inl (Or.inl (by omega)))
  have ck : (nI k).toNatClampNeg = k := cl (by omega)
  refine C_X8_sortsBy (tX8_sortsBy_0 ⟨s0, hc0, hv9, ?_⟩)
  have loop : ∀ i (s : Hp), i ≤ 3 → ((∃ x, RnM (setC (woS t nb v m) 3 k x) allE s) ∧ Fr sQ σ s) → Ru E mX8_sortsBy 16 [(0, .ref 53), (1, .int (nI k)), (2, .int (s0 58 k)), (3, .int (bs (soB (woS t nb v m) S k) i)), (4, .int (nI i))] [] s (PI (fun v1 σ' => v1 = bs (soB (woS t nb v m) S k) 3 ∧ Fr sQ σ σ')) := by
    refine for_up 3 _ _ ?_ ?_
    · intro i s hi ⟨⟨x, hx⟩, hF⟩ ih
      have hR := hx.set (f := 3) (k := k) (x := i) (by decide)
      rw [setC_setC] at hR
      have hW' : okW (setC (woS t nb v m) 3 k i) := setC_ok hW (by omega) (fun z => by omega)
      have hFu : Fr sQ σ (up s 58 k (nI i)) := hF.up s58
      obtain ⟨v1, s1, hc1, rfl, hD, hR1, hF1⟩ := c8_isSeen (E := E) hW' hS hR (hSn.fr hFu sQ_sn)
      have ih := ih s1 ⟨⟨i, hR1⟩, hFu.tr (hF1.mono (fun c i h => Or.inr h))⟩
      unfold bs at ih
      refine tX8_sortsBy_16 ?_
      rw [ck, shl1 (show i < 31 by omega), nI_1]
      rw [shl1 (show i < 31 by omega)] at ih
      refine ⟨fun z => ?_, fun _ => ⟨hv9, _, _, hc1, fun z => ?_, fun z => ?_⟩⟩
      · rw [show (3 : Int32) = nI 3 from rfl, nI_le' (by decide) (by omega)] at z; omega
      · rw [if_neg (show ¬ soB (woS t nb v m) S k i = true from bI_0.mp z)] at ih
        exact ih
      · rw [if_pos (show soB (woS t nb v m) S k i = true from bI_n.mp z)] at ih
        exact ih
    · intro s ⟨hx, hF⟩
      refine tX8_sortsBy_16 ?_
      rw [ck]
      exact ⟨fun _ => ⟨hv9, _, rfl, rfl, hF.up s58⟩, fun z => absurd (by decide) z⟩
  rw [ck]
  exact loop 0 s0 (Nat.zero_le _) ⟨⟨wc (woS t nb v m) 3 k, by rw [setC_self]; exact hR0⟩, hF0.mono (fun c i h => Or.inl h)⟩
/-- where the leg is by each spread, as the reference keeps it -/
def LgM (W : Wo) (k n : Nat) (σ : Hp) : Prop := ∀ v, v < n → ∀ d, d < 20 → σ 85 (20 * v + d) = 1000 * lgx (rr (setC W 2 k v) allE k d) + lgy (rr (setC W 2 k v) allE k d)
theorem c8_wideBy {t : Nat → Nat} {nb : Nat} {v : Nat → Nat → Nat} {m : Nat} {S : Sn} (hT : ToM t nb v m σ) (hS : okS S) (hSn : SnM S σ) {k : Nat} (hk : k < ncS t nb) :
    ∃ (v1 : Int32) (σ' : Hp), Call E mX8_wideBy [.ref 53, .int (nI k)] σ (some (.int v1)) σ' ∧ (v1 = bs (wiB (woS t nb v m) S k) 10 ∧ LgM (woS t nb v m) k 10 σ' ∧ CpM t (ncS t nb) σ' ∧ Fr sP σ σ') := by
  have hW := woS_ok hT
  have hn : ncS t nb ≤ 8 := hW.1
  obtain ⟨s0, hc0, hR0, -, hF0⟩ := c8_asTold (E := E) hT
  have hv9 : vp_in (nI k) 9 := vin (by omega) (by decide)
  have s57 : sP 57 k := Or.inl (Or.inl (Or.inl (Or.inl (by omega))))
  have ck : (nI k).toNatClampNeg = k := cl (by omega)
  refine C_X8_wideBy (tX8_wideBy_0 ⟨s0, hc0, hv9, ?_⟩)
  rw [ck]
  generalize hΨ : (fun (v1 : Int32) (σ' : Hp) => v1 = bs (wiB (woS t nb v m) S k) 10 ∧ LgM (woS t nb v m) k 10 σ' ∧ CpM t (ncS t nb) σ' ∧ Fr sP σ σ') = Ψ
  have loop : ∀ i (s : Hp), i ≤ 10 → ((∃ x, RnM (setC (woS t nb v m) 2 k x) allE s) ∧ LgM (woS t nb v m) k i s ∧ Fr sP σ s) → Ru E mX8_wideBy 16 [(0, .ref 53), (1, .int (nI k)), (2, .int (s0 57 k)), (3, .int (bs (wiB (woS t nb v m) S k) i)), (4, .int (nI i))] [] s (PI Ψ) := by
    refine for_up 10 _ _ ?_ ?_
    · intro i s hi ⟨⟨x, hx⟩, hL, hF⟩ ih
      have hR := hx.set (f := 2) (k := k) (x := i) (by decide)
      rw [setC_setC] at hR
      have hW' : okW (setC (woS t nb v m) 2 k i) := setC_ok hW (by omega) (fun z => by omega)
      have hFu : Fr sP σ (up s 57 k (nI i)) := hF.up s57
      obtain ⟨v1, s1, hc1, rfl, hD, hR1, hF1⟩ := c8_isSeen (E := E) hW' hS hR (hSn.fr hFu sP_sn)
      have hF1' : Fr sP σ s1 := hFu.tr (hF1.mono (fun c i h => Or.inl (Or.inr h)))
      have hL1 : LgM (woS t nb v m) k i s1 := fun u hu d hd => by rw [hF1 _ _ (by unfold sW sN; omega), up_c (by decide)]; exact hL u hu d hd
      have days : ∀ B : Int32, B = bs (wiB (woS t nb v m) S k) (i + 1) → ∀ d (s2 : Hp), d ≤ 20 → (DyM (setC (woS t nb v m) 2 k i) allE s2 ∧ RnM (setC (woS t nb v m) 2 k i) allE s2 ∧ LgM (woS t nb v m) k i s2 ∧ (∀ d', d' < d → s2 85 (20 * i + d') = 1000 * lgx (rr (setC (woS t nb v m) 2 k i) allE k d') + lgy (rr (setC (woS t nb v m) 2 k i) allE k d')) ∧ Fr sP σ s2) →
          Ru E mX8_wideBy 52 [(0, .ref 53), (1, .int (nI k)), (2, .int (s0 57 k)), (3, .int B), (4, .int (nI i)), (5, .int (nI d))] [] s2 (PI Ψ) := by
        intro B hB
        refine for_up 20 _ _ ?_ ?_
        · intro d s2 hd ⟨hD2, hR2, hL2, hJ, hF2⟩ ih2
          have e20 : 20 * nI i + nI d = nI (20 * i + d) := by rw [show (20 : Int32) = nI 20 from rfl, pk_mul, nI_add]
          refine tX8_wideBy_52 ?_
          rw [ix8, e20, cl (show 20 * i + d < 2147483648 by omega), nI_1 d]
          refine ⟨fun z => ?_, fun _ => ⟨_, _, c8_legXAt hW' hD2 hd hk, _, _, c8_legYAt hW' hD2 hd hk, vin (by omega) (by decide), ih2 _ ⟨?_, ?_, ?_, ?_, hF2.up (Or.inr (Or.inr rfl))⟩⟩⟩
          · rw [show (20 : Int32) = nI 20 from rfl, nI_le' (by decide) (by omega)] at z; omega
          · exact hD2.fr (Fr.rf.up (S := fun c i => c = 85) rfl) (fun c i z y => by omega)
          · obtain ⟨g1, g2, ⟨g3, g4⟩, g5⟩ := hR2
            exact ⟨by simp [up]; exact g1, fun j hj g hg => by rw [up_c (by omega)]; exact g2 j hj g hg, ⟨by simp [up]; exact g3, fun e he g hg => by rw [up_c (by omega)]; exact g4 e he g hg⟩, fun e he => by simp [up]; exact g5 e he⟩
          · intro u hu d' hd'
            rw [up_i (by omega)]
            exact hL2 u hu d' hd'
          · intro d' hd'
            rcases Nat.lt_or_ge d' d with y | y
            · rw [up_i (by omega)]
              exact hJ d' y
            · rw [show d' = d by omega, up_s]
        · intro s2 ⟨hD2, hR2, hL2, hJ, hF2⟩
          refine tX8_wideBy_52 ⟨fun _ => ?_, fun z => absurd (by decide) z⟩
          rw [nI_1, hB]
          refine ih s2 ⟨⟨i, hR2⟩, fun u hu d hd => ?_, hF2⟩
          rcases Nat.lt_or_ge u i with y | y
          · exact hL2 u y d hd
          · rw [show u = i by omega]; exact hJ d hd
      refine tX8_wideBy_16 ?_
      rw [ck, shl1 (show i < 31 by omega)]
      have st : DyM (setC (woS t nb v m) 2 k i) allE s1 ∧ RnM (setC (woS t nb v m) 2 k i) allE s1 ∧ LgM (woS t nb v m) k i s1 ∧ (∀ d', d' < 0 → s1 85 (20 * i + d') = 1000 * lgx (rr (setC (woS t nb v m) 2 k i) allE k d') + lgy (rr (setC (woS t nb v m) 2 k i) allE k d')) ∧ Fr sP σ s1 := ⟨hD, hR1, hL1, fun d' hd' => by omega, hF1'⟩
      refine ⟨fun z => ?_, fun _ => ⟨hv9, _, _, hc1, fun z => days _ ?_ 0 s1 (Nat.zero_le _) st, fun z => days _ ?_ 0 s1 (Nat.zero_le _) st⟩⟩
      · rw [show (10 : Int32) = nI 10 from rfl, nI_le' (by decide) (by omega)] at z; omega
      · show _ = bs _ i ||| _
        rw [if_neg (show ¬ wiB (woS t nb v m) S k i = true from bI_0.mp z)]
      · show _ = bs _ i ||| _
        rw [if_pos (show wiB (woS t nb v m) S k i = true from bI_n.mp z), shl1 (show i < 31 by omega)]
    · intro s ⟨hx, hL, hF⟩
      refine tX8_wideBy_16 ?_
      rw [ck]
      subst hΨ
      obtain ⟨x, hx⟩ := hx
      have hc : RnM (woS t nb v m) allE (up s 57 k (s0 57 k)) := by
        have := hx.set (f := 2) (k := k) (x := wc (woS t nb v m) 2 k) (by decide)
        rw [setC_setC, setC_self] at this
        rw [show s0 57 k = nI (wc (woS t nb v m) 2 k) from hR0.2.1 k hk 2 (by decide)]
        exact this
      exact ⟨fun _ => ⟨hv9, _, rfl, rfl, fun u hu d hd => by rw [up_c (by decide)]; exact hL u hu d hd, ⟨hc.1, hc.2.1⟩, hF.up s57⟩, fun z => absurd (by decide) z⟩
  exact loop 0 s0 (Nat.zero_le _) ⟨⟨wc (woS t nb v m) 2 k, by rw [setC_self]; exact hR0⟩, fun u hu => by omega, hF0.mono (fun c i h => Or.inl (Or.inl h))⟩
theorem ToM.frP {t : Nat → Nat} {nb : Nat} {v : Nat → Nat → Nat} {m : Nat} {σ σ' : Hp} (h : ToM t nb v m σ) (hF : Fr sP σ σ') : ToM t nb v m σ' := by
  obtain ⟨h1, ⟨h2, h3⟩, h4⟩ := h
  refine ⟨h1.keep (hF _ _ (by unfold sP sQ sT sW sN sR; omega)) (fun i => hF _ _ (by unfold sP sQ sT sW sN sR; omega)), ⟨by rw [hF _ _ (by unfold sP sQ sT sW sN sR; omega)]; exact h2, fun e he f hf => ?_⟩, h4⟩
  rw [hF _ _ (by unfold sP sQ sT sW sN sR; omega)]
  exact h3 e he f hf
theorem sQP {c i : Nat} (h : sQ c i) : sP c i := Or.inl h
theorem c8_was {t : Nat → Nat} {nb : Nat} {v : Nat → Nat → Nat} {m : Nat} {S : Sn} (hT : ToM t nb v m σ) (hS : okS S) (hSn : SnM S σ) (k w : Int32) :
    ∃ (v1 : Int32) (σ' : Hp), Call E mX8_was [.ref 53, .int k, .int w] σ (some (.int v1)) σ' ∧ (v1 = waA (woS t nb v m) S k w ∧ Fr sP σ σ') := by
  have hn : ncS t nb ≤ 8 := (woS_ok hT).1
  obtain ⟨v1, s1, hc1, rfl, hF1, -⟩ := isC8 (E := E) hT k
  have hF1' : Fr sP σ s1 := hF1.mono (fun c i h => sQP h)
  refine C_X8_was (tX8_was_0 ⟨_, _, hc1, fun q => ⟨_, rfl, ?_, hF1'⟩, fun q => ⟨_, _, c8_in, fun q2 => ⟨_, rfl, ?_, hF1'⟩, fun q2 => ?_⟩⟩)
  · exact (if_neg (fun z => bI_0.mp q z.1)).symm
  · exact (if_neg (fun z => bI_0.mp q2 z.2)).symm
  · have q := bI_n.mp q
    have q2 := bI_n.mp q2
    have hA : waA (woS t nb v m) S k w = (if w = 0 then bs (wiB (woS t nb v m) S k.toNatClampNeg) 10 else bs (soB (woS t nb v m) S k.toNatClampNeg) 3) := if_pos ⟨q, q2⟩
    obtain ⟨k, hk, rfl⟩ := (isC_iff (by omega)).mp q
    rw [cl (by omega)] at hA
    refine ⟨fun z => ?_, fun z => ?_⟩
    · obtain ⟨v3, s3, hc3, h3, hF3⟩ := c8_sortsBy (E := E) (hT.fr hF1) hS (hSn.fr hF1 sQ_sn) hk
      exact ⟨_, _, hc3, _, rfl, by rw [hA, if_neg z, h3], hF1'.tr (hF3.mono (fun c i h => sQP h))⟩
    · obtain ⟨v3, s3, hc3, h3, -, -, hF3⟩ := c8_wideBy (E := E) (hT.fr hF1) hS (hSn.fr hF1 sQ_sn) hk
      exact ⟨_, _, hc3, _, rfl, by rw [hA, if_pos z, h3], hF1'.tr hF3⟩
end MSE
