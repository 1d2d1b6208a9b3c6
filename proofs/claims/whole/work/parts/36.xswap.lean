/-! THE CLASS: swap, drop -/
theorem swp_some {n c0 : Nat} {f : Nat → Nat} (h : vldS n c0 = true) : ∀ c, c0 < c → swp n f c ≠ none
  | 0, q => by omega
  | c + 1, q => by
    rw [swp_succ]
    by_cases z : c0 = c
    · rw [← z, if_pos h]
      cases swp n f c0 with
      | none => exact fun y => by cases y
      | some p =>
        dsimp only
        split <;> exact fun y => by cases y
    · have ih := swp_some (f := f) h c (by omega)
      split
      · cases hs : swp n f c with
        | none => exact absurd hs ih
        | some p =>
          dsimp only
          split <;> exact fun y => by cases y
      · exact ih
def g2 (o : Option (Nat × Nat)) : Int32 := match o with
  | none => 0
  | some q => nI (q.1 / 8)
def g3 (o : Option (Nat × Nat)) : Int32 := match o with
  | none => 1
  | some q => nI (q.1 % 8)
def g4 (o : Option (Nat × Nat)) : Int32 := match o with
  | none => 64
  | some q => nI q.2
section XS
variable {E : Ev} {σ : Hp} {A : AS}
theorem x0_swap {W : Wo} {n a b : Nat} (hC : CpX 7 (wc W) n σ) (hn : n ≤ 8) (ha : a < n) (hb : b < n) (hab : a ≠ b) : ∃ σ' : Hp, Call E mX0_swapSpreads [.ref 7, .int (nI a), .int (nI b)] σ none σ' ∧ (CpX 7 (wc (swC W a b)) n σ' ∧ Fr s7 σ σ') := by
  have h10 : ∀ i, s7 10 i := fun i => ⟨by decide, by decide⟩
  refine C_X0_swapSpreads (tX0_swapSpreads_0 isCpl7 ?_)
  rw [cl (show a < 2147483648 by omega), cl (show b < 2147483648 by omega)]
  have fa : σ 10 a = nI (wc W 2 a) := hC.2 a ha 2 (by decide)
  have fb : σ 10 b = nI (wc W 2 b) := hC.2 b hb 2 (by decide)
  refine ⟨vin (by omega) (by decide), vin (by omega) (by decide), rfl, ⟨?_, fun k hk f hf => ?_⟩, (Fr.rf.up (h10 _)).up (h10 _)⟩
  · rw [up_c (by decide), up_c (by decide)]; exact hC.1
  · show (up (up σ 10 a (σ 10 b)) 10 b (σ 10 a)) (7 + 1 + f) k = nI (if f = 2 then (if k = a then wc W 2 b else if k = b then wc W 2 a else wc W 2 k) else wc W f k)
    by_cases z : f = 2
    · subst z
      rw [if_pos rfl]
      by_cases z1 : k = a
      · rw [if_pos z1, z1]
        show up (up σ 10 a (σ 10 b)) 10 b (σ 10 a) 10 a = _
        rw [up_i hab, up_s, fb]
      · rw [if_neg z1]
        by_cases z2 : k = b
        · rw [if_pos z2, z2]
          show up (up σ 10 a (σ 10 b)) 10 b (σ 10 a) 10 b = _
          rw [up_s, fa]
        · rw [if_neg z2, up_i z2, up_i z1]
          exact hC.2 k hk 2 (by decide)
    · rw [if_neg z, up_c (by omega), up_c (by omega)]
      exact hC.2 k hk f hf
theorem x7_talked (h : StX A σ) (ho : okA A) (hC : CpX 7 (wc (aW A)) (wn (aW A)) σ) {a b : Nat} (ha : a < wn (aW A)) (hb : b < wn (aW A)) (hab : a ≠ b) :
    ∃ (v : Int32) (σ' : Hp), Call E mX7_talkedOnceSwapped [.ref 0, .int (nI a), .int (nI b)] σ (some (.int v)) σ' ∧ (v = nI (swF (aW A) (8 * a + b)) ∧ CpX 7 (wc (aW A)) (wn (aW A)) σ' ∧ Fr sqX σ σ') := by
  have hW := okA_W ho
  have hn : wn (aW A) ≤ 8 := hW.1
  obtain ⟨s1, hc1, hC1, hF1⟩ := x0_swap (E := E) hC hn ha hb hab
  have hF1 := hF1.mono (fun c i z => s7_q z)
  have hW1 := swC_ok (a := a) (b := b) hW ha hb
  obtain ⟨s2, hc2, hT2, hF2⟩ := x6_behind (E := E) (W := swC (aW A) a b) (msk := allE) (mk := allI (am A)) (d := 19) ⟨isCpl7, Or.inr rfl⟩ ⟨isEvt12, Or.inl rfl⟩ hW1 hC1 (h.q hF1).ev (fun e he => bt_all ho.2.2.1 he) (by decide)
  obtain ⟨s3, hc3, hC3, hF3⟩ := x0_swap (E := E) (W := swC (aW A) a b) (hC1.fr hF2 (fun c i a b => by unfold sTw; omega)) hn ha hb hab
  rw [swC_swC hab] at hC3
  have hT3 : TwX (wn (aW A)) (fun k => rr (swC (aW A) a b) allE k 19) s3 := ⟨(hF3 _ _ (by unfold s7; omega)).trans hT2.1, fun k hk => (hT2.2 k hk).fr hF3 (fun i _ => by unfold s7; omega)⟩
  have hcp := x6_closedPairs (E := E) (w := 0) hT3 (okT_W hW1) (by decide)
  refine C_X7_talkedOnceSwapped (tX7_talkedOnceSwapped_0 ⟨s1, hc1, _, _, x1_all isEvt12 (h.q hF1).ev ho.2.2.1, s2, hc2, s3, hc3, _, _, hcp, _, rfl, ?_, hC3, (hF1.tr (hF2.mono (fun c i z => sTw_q z))).tr (hF3.mono (fun c i z => s7_q z))⟩)
  unfold swF
  rw [show (8 * a + b) / 8 = a by omega, show (8 * a + b) % 8 = b by omega]
theorem x7_swap (h : StX A σ) (ho : okA A) (w : Int32) : AnsX E mX7_swap [.ref 0, .int w] σ (swA (aW A) w) := by
  have hW := okA_W ho
  have hn : wn (aW A) ≤ 8 := hW.1
  refine C_X7_swap (tX7_swap_0 ⟨_, _, x7_isWithin, fun q => ?_, fun z => ⟨_, rfl, (if_neg (bI_0.mp z)).symm, Fr.rf⟩⟩)
  obtain ⟨w, hw, rfl⟩ := (inN_iff 2 (by decide)).mp (bI_n.mp q)
  rw [swA_n hw]
  have hsz : ∀ τ : Hp, Fr sqX σ τ → τ 2 4 = nI (wn (aW A)) := fun τ hF => (h.q hF).cp.1
  have hb : ∀ i, swF (aW A) i ≤ 56 := fun i => prS_lt hn _ _
  generalize hN : wn (aW A) = n at *
  rw [hsz σ Fr.rf, show (2 : Int32) = nI 2 from rfl, nI_le' (by decide) (by omega)]
  refine ⟨fun h2 => ?_, fun h2 => ⟨_, rfl, ?_, Fr.rf⟩⟩
  · have hcp0 := h.cp
    rw [hN] at hcp0
    obtain ⟨s0, hc0, hC0, hF0⟩ := x0_setTo (E := E) hcp0 hn
    have hF0 := hF0.mono (fun c i z => s7_q z)
    refine ⟨s0, hc0, ?_⟩
    generalize hΨ : (fun (v : Int32) (σ' : Hp) => v = swS (aW A) w ∧ Fr sqX σ σ') = Ψ
    have outer : ∀ a (s : Hp), a ≤ n → (CpX 7 (wc (aW A)) n s ∧ Fr sqX σ s) → Ru E mX7_swap 47 [(0, .ref 0), (1, .int (nI w)), (2, .int (g2 (swp n (swF (aW A)) (8 * a)))), (3, .int (g3 (swp n (swF (aW A)) (8 * a)))), (4, .int (g4 (swp n (swF (aW A)) (8 * a)))), (5, .int (nI a))] [] s (PI Ψ) := by
      refine for_up n _ _ ?_ ?_
      · intro a s ha ⟨hC, hF⟩ ih
        refine tX7_swap_47 ⟨fun z => ?_, fun _ => ?_⟩
        · rw [hsz s hF, nI_le' (by omega) (by omega)] at z; omega
        · have inner : ∀ b (s : Hp), b ≤ n → (a < b ∧ CpX 7 (wc (aW A)) n s ∧ Fr sqX σ s) → Ru E mX7_swap 65 [(0, .ref 0), (1, .int (nI w)), (2, .int (g2 (swp n (swF (aW A)) (8 * a + b)))), (3, .int (g3 (swp n (swF (aW A)) (8 * a + b)))), (4, .int (g4 (swp n (swF (aW A)) (8 * a + b)))), (5, .int (nI a)), (6, .int (nI b))] [] s (PI Ψ) := by
            refine for_up n _ _ ?_ ?_
            · intro b s hb2 ⟨hab, hC, hF⟩ ih2
              obtain ⟨v1, s1, hc1, rfl, hC1, hF1⟩ := x7_talked (E := E) (h.q hF) ho (by rw [hN]; exact hC) (by rw [hN]; exact ha) (by rw [hN]; exact hb2) (show a ≠ b by omega)
              rw [hN] at hC1
              have hv : vldS n (8 * a + b) = true := by
                unfold vldS
                rw [show (8 * a + b) / 8 = a by omega, show (8 * a + b) % 8 = b by omega, decide_eq_true hab, decide_eq_true hb2]; rfl
              have ih2 := ih2 s1 ⟨by omega, hC1, hF.tr hF1⟩
              rw [show 8 * a + (b + 1) = 8 * a + b + 1 by omega] at ih2
              rw [swp_succ, if_pos hv] at ih2
              have hbb := hb (8 * a + b)
              refine tX7_swap_65 ⟨fun z => ?_, fun _ => ⟨_, _, hc1, ?_⟩⟩
              · rw [hsz s hF, nI_le' (by omega) (by omega)] at z; omega
              · rw [nI_1]
                cases hs : swp n (swF (aW A)) (8 * a + b) with
                | none =>
                  rw [hs] at ih2
                  refine ⟨fun z => ?_, fun _ => ?_⟩
                  · have z : nI 64 ≤ nI (swF (aW A) (8 * a + b)) := z
                    rw [nI_le' (by decide) (by omega)] at z; omega
                  · have e1 : g2 (some (8 * a + b, swF (aW A) (8 * a + b))) = nI a := by
                      show nI ((8 * a + b) / 8) = _
                      rw [show (8 * a + b) / 8 = a by omega]
                    have e2 : g3 (some (8 * a + b, swF (aW A) (8 * a + b))) = nI b := by
                      show nI ((8 * a + b) % 8) = _
                      rw [show (8 * a + b) % 8 = b by omega]
                    dsimp only at ih2
                    rw [e1, e2] at ih2
                    exact ih2
                | some p =>
                  rw [hs] at ih2
                  have hq := swp_b (b := 56) hb _ p hs
                  dsimp only at ih2
                  refine ⟨fun z => ?_, fun z => ?_⟩
                  · have z : nI p.2 ≤ nI (swF (aW A) (8 * a + b)) := z
                    rw [nI_le' (by omega) (by omega)] at z
                    rw [if_neg (by omega)] at ih2
                    exact ih2
                  · have z : ¬ nI p.2 ≤ nI (swF (aW A) (8 * a + b)) := z
                    rw [nI_le' (by omega) (by omega)] at z
                    rw [if_pos (by omega)] at ih2
                    have e1 : g2 (some (8 * a + b, swF (aW A) (8 * a + b))) = nI a := by
                      show nI ((8 * a + b) / 8) = _
                      rw [show (8 * a + b) / 8 = a by omega]
                    have e2 : g3 (some (8 * a + b, swF (aW A) (8 * a + b))) = nI b := by
                      show nI ((8 * a + b) % 8) = _
                      rw [show (8 * a + b) % 8 = b by omega]
                    rw [e1, e2] at ih2
                    exact ih2
            · intro s ⟨hab, hC, hF⟩
              refine tX7_swap_65 ⟨fun _ => ?_, fun z => absurd (by rw [hsz s hF]; exact Int32.le_refl _) z⟩
              rw [nI_1]
              have e : swp n (swF (aW A)) (8 * (a + 1)) = swp n (swF (aW A)) (8 * a + n) := by
                rw [show 8 * (a + 1) = (8 * a + n) + (8 - n) by omega]
                refine swp_skip _ (fun c h1 h2 => ?_)
                unfold vldS
                rw [decide_eq_false (show ¬ c % 8 < n by omega), Bool.and_false]
              have := ih s ⟨hC, hF⟩
              rw [e] at this
              exact this
          rw [nI_1]
          have e : swp n (swF (aW A)) (8 * a + (a + 1)) = swp n (swF (aW A)) (8 * a) := by
            refine swp_skip _ (fun c h1 h2 => ?_)
            unfold vldS
            rw [decide_eq_false (show ¬ c / 8 < c % 8 by omega), Bool.false_and]
          have := inner (a + 1) s (by omega) ⟨by omega, hC, hF⟩
          rw [e] at this
          exact this
      · intro s ⟨hC, hF⟩
        have e : swp n (swF (aW A)) 64 = swp n (swF (aW A)) (8 * n) := by
          rw [show 64 = 8 * n + (64 - 8 * n) by omega]
          refine swp_skip _ (fun c h1 h2 => ?_)
          unfold vldS
          by_cases h : c / 8 < c % 8
          · rw [decide_eq_false (show ¬ c % 8 < n by omega), Bool.and_false]
          · rw [decide_eq_false h, Bool.false_and]
        have hne : swp n (swF (aW A)) 64 ≠ none := swp_some (c0 := 1) (by
          unfold vldS
          rw [decide_eq_true (show 1 / 8 < 1 % 8 by decide), decide_eq_true (show 1 % 8 < n by omega)]; rfl) 64 (by decide)
        subst hΨ
        refine tX7_swap_47 ⟨fun _ => ⟨_, _, x7_pick hw, _, rfl, ?_, hF⟩, fun z => absurd (by rw [hsz s hF]; exact Int32.le_refl _) z⟩
        unfold swS
        rw [hN, ← e]
        cases hs : swp n (swF (aW A)) 64 with
        | none => exact absurd hs hne
        | some p => rfl
    exact outer 0 s0 (Nat.zero_le _) ⟨hC0, hF0⟩
  · unfold swS
    have e : swp n (swF (aW A)) (0 + 64) = swp n (swF (aW A)) 0 := by
      refine swp_skip _ (fun c h1 h2' => ?_)
      unfold vldS
      by_cases h : c / 8 < c % 8
      · rw [decide_eq_false (show ¬ c % 8 < n by omega), Bool.and_false]
      · rw [decide_eq_false h, Bool.false_and]
    rw [hN, show (64 : Nat) = 0 + 64 by decide, e]
    rfl
theorem bt_not : ∀ m, m < 9 → ∀ X, X < 256 → ∀ e, e < m → bt (allI m &&& (nI X ^^^ (-1))) e = !X.testBit e := by decide +kernel
theorem x7_quiet (h : StX A σ) (ho : okA A) {X : Nat} (hX : X < 256) : ∃ (v : Int32) (σ' : Hp), Call E mX7_isQuietWithout [.ref 0, .int (nI X)] σ (some (.int v)) σ' ∧ (v = bI (dqS (aW A) X = true) ∧ Fr sqX σ σ') := by
  have hW := okA_W ho
  have hm := ho.2.2.1
  obtain ⟨s, hc, hT, hF⟩ := x6_behind (E := E) (W := aW A) (msk := nmk X) (mk := allI (am A) &&& (nI X ^^^ (-1))) (d := 19) ⟨isCpl2, Or.inl rfl⟩ ⟨isEvt12, Or.inl rfl⟩ hW h.cp h.ev (fun e he => bt_not _ (by omega) X hX e he) (by decide)
  have hcp := x6_closedPairs (E := E) (w := 0) hT (okT_W hW) (by decide)
  have hF := hF.mono (fun c i z => sTw_q z)
  have hle := prS_le hW.1 (fun k => rr (aW A) (nmk X) k 19) 0
  have e0 : nI (prS (wn (aW A)) (fun k => rr (aW A) (nmk X) k 19) 0) = 0 ↔ prS (wn (aW A)) (fun k => rr (aW A) (nmk X) k 19) 0 = 0 := nI_eq' (show prS (wn (aW A)) (fun k => rr (aW A) (nmk X) k 19) 0 < 2147483648 by omega) (show 0 < 2147483648 by decide)
  refine C_X7_isQuietWithout (tX7_isQuietWithout_0 ⟨_, _, x1_all isEvt12 h.ev hm, s, hc, _, _, hcp, fun q => ⟨_, rfl, ?_, hF⟩, fun q => ⟨_, rfl, ?_, hF⟩⟩)
  · exact (bI_f (p := dqS (aW A) X = true) (fun z => q (e0.mpr (decide_eq_true_iff.mp z)))).symm
  · exact (bI_t (p := dqS (aW A) X = true) (decide_eq_true_iff.mpr (e0.mp q))).symm
def fwS (W : Wo) (v : Int32) : Prop :=
  (dqS W 0 = true ∧ v = 0) ∨ (¬ dqS W 0 = true ∧ dr1 W < wm W ∧ v = nI (2 ^ dr1 W)) ∨ (¬ dqS W 0 = true ∧ ¬ dr1 W < wm W ∧ dr2 W < wm W ∧ dr2 W < dr2b W (dr2 W) ∧ dr2b W (dr2 W) < wm W ∧ v = nI (2 ^ dr2 W ||| 2 ^ dr2b W (dr2 W))) ∨ (¬ dqS W 0 = true ∧ ¬ dr1 W < wm W ∧ ¬ dr2 W < wm W ∧ v = -1)
theorem or2 : ∀ a, a < 8 → ∀ b, b < 8 → 2 ^ a ||| 2 ^ b < 256 := by decide +kernel
theorem p8 {a : Nat} (h : a < 8) : 2 ^ a < 256 := Nat.pow_lt_pow_right (a := 2) (n := 8) (by decide) h
theorem x7_fewest (h : StX A σ) (ho : okA A) : ∃ (v : Int32) (σ' : Hp), Call E mX7_fewestToDrop [.ref 0] σ (some (.int v)) σ' ∧ (fwS (aW A) v ∧ Fr sqX σ σ') := by
  have hm : wm (aW A) ≤ 8 := ho.2.2.1
  have hsz : ∀ τ : Hp, Fr sqX σ τ → τ 12 5 = nI (wm (aW A)) := fun τ hF => (h.q hF).ev.1
  obtain ⟨v0, s0, hc0, rfl, hF0⟩ := x7_quiet (E := E) h ho (X := 0) (by decide)
  generalize hW : aW A = W at *
  refine C_X7_fewestToDrop (tX7_fewestToDrop_0 ⟨_, _, hc0, fun q0 => ?_, fun q0 => ⟨_, rfl, Or.inl ⟨bI_n.mp q0, rfl⟩, hF0⟩⟩)
  have q0 := bI_0.mp q0
  have second : ¬ dr1 W < wm W → ∀ a (τ : Hp), a ≤ wm W → (Fr sqX σ τ ∧ ∀ j, j < a → decide (dr2b W j < wm W) = false) → Ru E mX7_fewestToDrop 45 [(0, .ref 0), (1, .int (nI a))] [] τ (PI (fun v σ' => fwS W v ∧ Fr sqX σ σ')) := by
    intro h1
    refine for_up (wm W) _ _ ?_ ?_
    · intro a τ ha ⟨hF, hJ⟩ iha
      have inner : ∀ b (τ : Hp), b ≤ wm W → (Fr sqX σ τ ∧ a < b ∧ ∀ j, j < b → (decide (a < j) && dqS W (2 ^ a ||| 2 ^ j)) = false) → Ru E mX7_fewestToDrop 60 [(0, .ref 0), (1, .int (nI a)), (2, .int (nI b))] [] τ (PI (fun v σ' => fwS W v ∧ Fr sqX σ σ')) := by
        refine for_up (wm W) _ _ ?_ ?_
        · intro b τ hb ⟨hF, hab, hJb⟩ ih
          obtain ⟨v1, s1, hc1, rfl, hF1⟩ := x7_quiet (E := E) (h.q hF) ho (X := 2 ^ a ||| 2 ^ b) (or2 a (by omega) b (by omega))
          have hF1 := hF.tr hF1
          rw [hW] at hc1
          refine tX7_fewestToDrop_60 ?_
          rw [shl1 (show a < 31 by omega), shl1 (show b < 31 by omega), orI, nI_1 b]
          refine ⟨fun z => ?_, fun _ => ⟨_, _, hc1, fun z => ?_, fun z => ⟨_, rfl, ?_, hF1⟩⟩⟩
          · rw [hsz τ hF, nI_le' (by omega) (by omega)] at z; omega
          · refine ih s1 ⟨hF1, by omega, fun j hj => ?_⟩
            rcases Nat.lt_or_ge j b with y | y
            · exact hJb j y
            · rw [show j = b by omega, eq_false_of_ne_true (bI_0.mp z), Bool.and_false]
          · have e1 : dr2b W a = b := fst1_eq (by omega) hJb (Or.inr (by rw [decide_eq_true hab, bI_n.mp z]; rfl))
            have e2 : dr2 W = a := fst1_eq (by omega) hJ (Or.inr (decide_eq_true (by rw [e1]; exact hb)))
            refine Or.inr (Or.inr (Or.inl ⟨q0, h1, by omega, ?_, ?_, ?_⟩))
            · rw [e2, e1]; exact hab
            · rw [e2, e1]; exact hb
            · rw [e2, e1]
        · intro τ ⟨hF, hab, hJb⟩
          have e1 : dr2b W a = wm W := fst1_eq (Nat.le_refl _) hJb (Or.inl rfl)
          refine tX7_fewestToDrop_60 ⟨fun _ => ?_, fun z => absurd (by rw [hsz τ hF]; exact Int32.le_refl _) z⟩
          rw [nI_1]
          refine iha τ ⟨hF, fun j hj => ?_⟩
          rcases Nat.lt_or_ge j a with y | y
          · exact hJ j y
          · rw [show j = a by omega, e1]
            exact decide_eq_false (Nat.lt_irrefl _)
      refine tX7_fewestToDrop_45 ⟨fun z => ?_, fun _ => ?_⟩
      · rw [hsz τ hF, nI_le' (by omega) (by omega)] at z; omega
      · rw [nI_1]
        exact inner (a + 1) τ ha ⟨hF, by omega, fun j hj => by rw [decide_eq_false (show ¬ a < j by omega), Bool.false_and]⟩
    · intro τ ⟨hF, hJ⟩
      have e2 : dr2 W = wm W := fst1_eq (Nat.le_refl _) hJ (Or.inl rfl)
      exact tX7_fewestToDrop_45 ⟨fun _ => ⟨_, rfl, Or.inr (Or.inr (Or.inr ⟨q0, h1, by omega, rfl⟩)), hF⟩, fun z => absurd (by rw [hsz τ hF]; exact Int32.le_refl _) z⟩
  have first : ∀ a (τ : Hp), a ≤ wm W → (Fr sqX σ τ ∧ ∀ j, j < a → dqS W (2 ^ j) = false) → Ru E mX7_fewestToDrop 12 [(0, .ref 0), (1, .int (nI a))] [] τ (PI (fun v σ' => fwS W v ∧ Fr sqX σ σ')) := by
    refine for_up (wm W) _ _ ?_ ?_
    · intro a τ ha ⟨hF, hJ⟩ ih
      obtain ⟨v1, s1, hc1, rfl, hF1⟩ := x7_quiet (E := E) (h.q hF) ho (X := 2 ^ a) (p8 (by omega))
      have hF1 := hF.tr hF1
      rw [hW] at hc1
      refine tX7_fewestToDrop_12 ?_
      rw [shl1 (show a < 31 by omega), nI_1]
      refine ⟨fun z => ?_, fun _ => ⟨_, _, hc1, fun z => ?_, fun z => ⟨_, rfl, ?_, hF1⟩⟩⟩
      · rw [hsz τ hF, nI_le' (by omega) (by omega)] at z; omega
      · refine ih s1 ⟨hF1, fun j hj => ?_⟩
        rcases Nat.lt_or_ge j a with y | y
        · exact hJ j y
        · rw [show j = a by omega]; exact eq_false_of_ne_true (bI_0.mp z)
      · have e1 : dr1 W = a := fst1_eq (by omega) hJ (Or.inr (bI_n.mp z))
        exact Or.inr (Or.inl ⟨q0, by omega, by rw [e1]⟩)
    · intro τ ⟨hF, hJ⟩
      have e1 : dr1 W = wm W := fst1_eq (Nat.le_refl _) hJ (Or.inl rfl)
      exact tX7_fewestToDrop_12 ⟨fun _ => second (by omega) 0 τ (Nat.zero_le _) ⟨hF, fun j hj => by omega⟩, fun z => absurd (by rw [hsz τ hF]; exact Int32.le_refl _) z⟩
  exact first 0 s0 (Nat.zero_le _) ⟨hF0, fun j hj => by omega⟩
/-- the place of the i-th bit -/
def bof (X : Nat) (i : Int32) : Nat → Nat → Int32 → Int32
  | 0, _, _ => -1
  | n + 1, k, ah => if X.testBit k = true then (if ah = i then nI k else bof X i n (k + 1) (ah + 1)) else bof X i n (k + 1) ah
theorem bit_u : ∀ X, X < 256 → ∀ k, k < 32 → (((((nI X).toUInt32 >>> ((nI k).toUInt32 &&& Int32.toUInt32 31)).toInt32) &&& 1) = 1 ↔ X.testBit k = true) := by decide +kernel
theorem x7_bitOf {X : Nat} {i : Int32} (hX : X < 256) : Call E mX7_bitOf [.int (nI X), .int i] σ (some (.int (bof X i 32 0 0))) σ := by
  refine K_X7_bitOf (tX7_bitOf_0 ?_)
  have loop : ∀ n k (ah : Int32), n + k = 32 → Ru E mX7_bitOf 4 [(0, .int (nI X)), (1, .int i), (2, .int ah), (3, .int (nI k))] [] σ (PE (some (.int (bof X i n k ah))) σ) := by
    intro n
    induction n with
    | zero =>
      intro k ah hk
      have : k = 32 := by omega
      subst this
      exact tX7_bitOf_4 ⟨fun _ => ⟨rfl, rfl⟩, fun z => absurd (by decide) z⟩
    | succ n ih =>
      intro k ah hk
      refine tX7_bitOf_4 ?_
      rw [bit_u X hX k (by omega), nI_1 k]
      unfold bof
      refine ⟨fun z => ?_, fun _ => ⟨fun z => ?_, fun z => ⟨fun z2 => ?_, fun z2 => ⟨?_, rfl⟩⟩⟩⟩
      · rw [show (32 : Int32) = nI 32 from rfl, nI_le' (by decide) (by omega)] at z; omega
      · rw [if_neg z]; exact ih (k + 1) ah (by omega)
      · rw [if_pos z, if_neg z2]; exact ih (k + 1) (ah + 1) (by omega)
      · rw [if_pos z, if_pos z2]
  exact loop 32 0 0 rfl
def popc (X : Nat) : Nat := ct (fun k => X.testBit k) 8
theorem j6_bitCount {X : Nat} (hX : X < 256) : Call E mJ6_bitCount_0f7a4 [.int (nI X)] σ (some (.int (nI (popc X)))) σ := by
  refine K_J6_bitCount_0f7a4 (tJ6_bitCount_0f7a4_0 ⟨?_, rfl⟩)
  refine congrArg (fun x => some (Value.int x)) ?_
  revert hX
  revert X
  decide +kernel
theorem bof_1 : ∀ a, a < 8 → bof (2 ^ a) 0 32 0 0 = nI a ∧ bof (2 ^ a) 1 32 0 0 = -1 ∧ popc (2 ^ a) = 1 := by decide +kernel
theorem bof_2 : ∀ a, a < 8 → ∀ b, b < 8 → a < b → bof (2 ^ a ||| 2 ^ b) 0 32 0 0 = nI a ∧ bof (2 ^ a ||| 2 ^ b) 1 32 0 0 = nI b ∧ popc (2 ^ a ||| 2 ^ b) = 2 := by decide +kernel
theorem x7_drop (h : StX A σ) (ho : okA A) (i : Int32) : AnsX E mX7_drop [.ref 0, .int i] σ (drA (aW A) i) := by
  have hm : wm (aW A) ≤ 8 := ho.2.2.1
  refine C_X7_drop (tX7_drop_0 ⟨_, _, x7_isWithin, fun q => ?_, fun z => ⟨_, rfl, (if_neg (bI_0.mp z)).symm, Fr.rf⟩⟩)
  have q := bI_n.mp q
  rw [show drA (aW A) i = drS (aW A) i from if_pos q]
  have ei : i = -1 ∨ i = 0 ∨ i = 1 := by
    obtain ⟨h1, h2⟩ := q
    rw [Int32.le_iff_toInt_le] at h1 h2
    have em : (-1 : Int32).toInt = -1 := by decide
    have e1 : (1 : Int32).toInt = 1 := by decide
    rw [em] at h1
    rw [e1] at h2
    rcases (show i.toInt = -1 ∨ i.toInt = 0 ∨ i.toInt = 1 by omega) with z | z | z
    · exact Or.inl (Int32.toInt_inj.mp (by rw [z, em]))
    · exact Or.inr (Or.inl (Int32.toInt_inj.mp (by rw [z]; rfl)))
    · exact Or.inr (Or.inr (Int32.toInt_inj.mp (by rw [z, e1])))
  obtain ⟨v, s, hc, hv, hF⟩ := x7_fewest (E := E) h ho
  refine ⟨_, _, hc, ?_⟩
  -- how the bits are told
  have tell : ∀ X, X < 256 → v = nI X → (∀ a, (i = -1 → a = nI (popc X)) → (¬ i = -1 → a = bof X i 32 0 0) → drS (aW A) i = a) → ((¬ v = -1 → ((¬ i = -1 → ∃ (r12 : Int32) (σ10 : Hp), Call E mX7_bitOf [.int v, .int i] s (some (.int r12)) σ10 ∧ PI (fun v σ' => v = drS (aW A) i ∧ Fr sqX σ σ') (some (.int r12)) σ10) ∧ (i = -1 → ∃ (r15 : Int32) (σ13 : Hp), Call E mJ6_bitCount_0f7a4 [.int v] s (some (.int r15)) σ13 ∧ PI (fun v σ' => v = drS (aW A) i ∧ Fr sqX σ σ') (some (.int r15)) σ13))) ∧ (v = -1 → PI (fun v σ' => v = drS (aW A) i ∧ Fr sqX σ σ') (some (.int (-1))) s)) := by
    intro X hX hvX hd
    subst hvX
    refine ⟨fun _ => ⟨fun z => ⟨_, _, x7_bitOf hX, _, rfl, ?_, hF⟩, fun z => ⟨_, _, j6_bitCount hX, _, rfl, ?_, hF⟩⟩, fun z => absurd z (nI_m1 (by omega))⟩
    · exact (hd _ (fun y => absurd y z) (fun _ => rfl)).symm
    · exact (hd _ (fun _ => rfl) (fun y => absurd z y)).symm
  rcases hv with ⟨h0, rfl⟩ | ⟨h0, h1, hv⟩ | ⟨h0, h1, h2, h3, h4, hv⟩ | ⟨h0, h1, h2, rfl⟩
  · refine tell 0 (by decide) rfl (fun a p1 p2 => ?_)
    unfold drS
    rw [if_pos h0]
    rcases ei with rfl | rfl | rfl
    · rw [if_pos rfl, p1 rfl]; rfl
    · rw [if_neg (by decide), p2 (by decide)]; rfl
    · rw [if_neg (by decide), p2 (by decide)]; rfl
  · obtain ⟨b1, b2, b3⟩ := bof_1 (dr1 (aW A)) (by omega)
    refine tell _ (p8 (by omega)) hv (fun a p1 p2 => ?_)
    unfold drS
    rw [if_neg h0, if_pos h1]
    rcases ei with rfl | rfl | rfl
    · rw [if_pos rfl, p1 rfl, b3]; rfl
    · rw [if_neg (by decide), if_pos rfl, p2 (by decide), b1]
    · rw [if_neg (by decide), if_neg (by decide), p2 (by decide), b2]
  · obtain ⟨b1, b2, b3⟩ := bof_2 (dr2 (aW A)) (by omega) (dr2b (aW A) (dr2 (aW A))) (by omega) h3
    refine tell _ (or2 _ (by omega) _ (by omega)) hv (fun a p1 p2 => ?_)
    unfold drS
    rw [if_neg h0, if_neg h1, if_pos h2]
    rcases ei with rfl | rfl | rfl
    · rw [if_pos rfl, p1 rfl, b3]; rfl
    · rw [if_neg (by decide), if_pos rfl, p2 (by decide), b1]
    · rw [if_neg (by decide), if_neg (by decide), p2 (by decide), b2]
  · refine ⟨fun z => absurd rfl z, fun _ => ⟨_, rfl, ?_, hF⟩⟩
    unfold drS
    rw [if_neg h0, if_neg h1, if_neg h2]
end XS
