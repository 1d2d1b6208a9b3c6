/-! THE REFERENCE: goesBy, runs, asTold, runsTold -/
section MD
variable {E : Ev} {σ : Hp}
/-- what runs() goes by -/
def RnM (W : Wo) (msk : Nat → Bool) (σ : Hp) : Prop := σ 53 2 = nI (wn W) ∧ (∀ k, k < wn W → ∀ f, f < 4 → σ (55 + f) k = nI (wc W f k)) ∧ NwM (we W) (wm W) σ ∧ ∀ e, e < wm W → msk e = !bt (σ 53 17) e
/-- a day as it is kept -/
def RgA (σ : Hp) (d k : Nat) (r : Rg) : Prop := σ 73 (8 * d + k) = gx r ∧ σ 74 (8 * d + k) = gy r ∧ σ 75 (8 * d + k) = nI (gw r) ∧ σ 76 (8 * d + k) = nI (gq r) ∧ σ 77 (8 * d + k) = nI (ga r) ∧ σ 78 (8 * d + k) = nI (gi r) ∧ bt (σ 79 d) k = gl r
def sN (c i : Nat) : Prop := (67 ≤ c ∧ c ≤ 72) ∨ (c = 53 ∧ i = 24)
def sD (d c i : Nat) : Prop := sN c i ∨ (73 ≤ c ∧ c ≤ 78 ∧ 8 * d ≤ i ∧ i < 8 * d + 8) ∨ (c = 79 ∧ i = d)
def sW (c i : Nat) : Prop := sN c i ∨ (73 ≤ c ∧ c ≤ 79)
theorem sD_W {d c i : Nat} (h : sD d c i) : sW c i := by
  rcases h with h | h | h
  · exact Or.inl h
  · exact Or.inr (by omega)
  · exact Or.inr (by omega)
theorem RnM.fr {W : Wo} {msk : Nat → Bool} {σ σ' : Hp} (h : RnM W msk σ) (hF : Fr sW σ σ') : RnM W msk σ' := by
  obtain ⟨h1, h2, ⟨h3, h4⟩, h5⟩ := h
  have k53 : ∀ i, i ≠ 24 → σ' 53 i = σ 53 i := fun i hi => hF 53 i (by unfold sW sN; omega)
  refine ⟨by rw [k53 2 (by decide)]; exact h1, fun k hk f hf => ?_, ⟨by rw [k53 12 (by decide)]; exact h3, fun e he f hf => ?_⟩, by rw [k53 17 (by decide)]; exact h5⟩
  · rw [hF (55 + f) k (by unfold sW sN; omega)]; exact h2 k hk f hf
  · rw [hF (63 + f) e (by unfold sW sN; omega)]; exact h4 e he f hf
theorem RgM.fr {S : Nat → Nat → Prop} {σ σ' : Hp} {B B' k : Nat} {r : Rg} (h : RgM σ B k r) (hF : Fr S σ σ') (hS : ∀ c, 67 ≤ c → c ≤ 72 → ¬ S c k) (hB : B'.testBit k = B.testBit k) : RgM σ' B' k r := by
  obtain ⟨a, b, c, d, e, f, g⟩ := h
  refine ⟨?_, ?_, ?_, ?_, ?_, ?_, by rw [hB]; exact g⟩
  · rw [hF _ _ (hS 67 (by decide) (by decide))]; exact a
  · rw [hF _ _ (hS 68 (by decide) (by decide))]; exact b
  · rw [hF _ _ (hS 69 (by decide) (by decide))]; exact c
  · rw [hF _ _ (hS 70 (by decide) (by decide))]; exact d
  · rw [hF _ _ (hS 71 (by decide) (by decide))]; exact e
  · rw [hF _ _ (hS 72 (by decide) (by decide))]; exact f
theorem RgA.fr {S : Nat → Nat → Prop} {σ σ' : Hp} {d k : Nat} {r : Rg} (h : RgA σ d k r) (hF : Fr S σ σ') (hS : ∀ c, 73 ≤ c → c ≤ 78 → ¬ S c (8 * d + k)) (hL : ¬ S 79 d) : RgA σ' d k r := by
  obtain ⟨a, b, c, d', e, f, g⟩ := h
  refine ⟨?_, ?_, ?_, ?_, ?_, ?_, by rw [hF _ _ hL]; exact g⟩
  · rw [hF _ _ (hS 73 (by decide) (by decide))]; exact a
  · rw [hF _ _ (hS 74 (by decide) (by decide))]; exact b
  · rw [hF _ _ (hS 75 (by decide) (by decide))]; exact c
  · rw [hF _ _ (hS 76 (by decide) (by decide))]; exact d'
  · rw [hF _ _ (hS 77 (by decide) (by decide))]; exact e
  · rw [hF _ _ (hS 78 (by decide) (by decide))]; exact f
def psD (W : Wo) (msk : Nat → Bool) (d : Nat) (σ σ' : Hp) : Prop := ∃ B, LfM B σ' ∧ (∀ k, k < wn W → RgM σ' B k (pre W msk k (d + 1)) ∧ RgA σ' d k (pre W msk k (d + 1))) ∧ Fr (sD d) σ σ'
theorem trn_l (r : Rg) (q : Nat) : gl (trn r q) = gl r := by
  unfold trn
  split <;> rfl
theorem c8_goesBy {W : Wo} {msk : Nat → Bool} {B d : Nat} (hW : okW W) (hd : d < 20) (hR : RnM W msk σ) (hB : LfM B σ) (hk : ∀ k, k < wn W → RgM σ B k (pre W msk k d)) :
    ∃ σ' : Hp, Call E mX8_goesBy [.ref 53, .int (nI d)] σ none σ' ∧ psD W msk d σ σ' := by
  have hn8 := hW.1
  have hm8 := hW.2.1
  refine C_X8_goesBy (tX8_goesBy_0 ?_)
  -- second loop
  have loop2 : ∀ (B1 : Nat) (τ : Hp), LfM B1 τ → (∀ k, k < wn W → RgM τ B1 k (evs (we W) msk d k (wm W) (pre W msk k d))) → bt (τ 79 d) = bt (nI B1) → Fr (sD d) σ τ →
      ∀ k (s : Hp), k ≤ wn W → (LfM B1 s ∧ (∀ j, j < k → RgM s B1 j (pre W msk j (d + 1)) ∧ RgA s d j (pre W msk j (d + 1))) ∧ (∀ j, k ≤ j → j < wn W → RgM s B1 j (evs (we W) msk d j (wm W) (pre W msk j d))) ∧ bt (s 79 d) = bt (nI B1) ∧ Fr (sD d) σ s) →
      Ru E mX8_goesBy 67 [(0, .ref 53), (1, .int (nI d)), (2, .int (nI k))] [] s (PV (psD W msk d σ)) := by
    intro B1 τ _ _ _ _
    refine for_up (wn W) _ _ ?_ ?_
    · intro k s hkn ⟨hL, h1, h2, h79, hF⟩ ih
      have hRs : RnM W msk s := hR.fr (hF.mono (fun c i h => sD_W h))
      refine tX8_goesBy_67 ⟨fun q => ?_, fun q => ?_⟩
      · rw [hRs.1, nI_le' (by omega) (by omega)] at q; omega
      · have hr := h2 k (Nat.le_refl _) hkn
        have ho : okR (evs (we W) msk d k (wm W) (pre W msk k d)) := evs_ok hW.2.2.2 (pre_ok hW hkn d)
        have hs : s 58 k = nI (gs (evs (we W) msk d k (wm W) (pre W msk k d))) := by rw [evs_s, pre_s]; exact hRs.2.1 k hkn 3 (by decide)
        obtain ⟨t, hc, hg, hf⟩ := c8_goesRound (E := E) (show k < 8 by omega) hd hs hL hr ho
        have hp : 8 * nI d + nI k = nI (8 * d + k) := by rw [show (8 : Int32) = nI 8 from rfl, pk_mul, nI_add]
        rw [hp, nI_1, cl (show 8 * d + k < 2147483648 by omega), cl (show k < 2147483648 by omega)]
        have hFt : Fr (sD d) σ t := hF.tr (hf.mono (fun c i h => Or.inl (Or.inl (by omega))))
        have e79 : t 79 d = s 79 d := hf _ _ (by omega)
        have sd : ∀ c, 73 ≤ c → c ≤ 78 → sD d c (8 * d + k) := fun c h1 h2 => Or.inr (Or.inl ⟨h1, h2, by omega, by omega⟩)
        refine ⟨t, hc, vin (by omega) (by decide), vin (by omega) (by decide), ih _ ⟨⟨hL.1, ?_⟩, ?_, ?_, ?_, ?_⟩⟩
        · simp [up]; rw [hf 53 24 (by omega)]; exact hL.2
        · intro j hj
          rcases Nat.lt_or_ge j k with z | z
          · obtain ⟨a, b⟩ := h1 j z
            refine ⟨?_, ?_⟩
            · have a1 := a.fr (B' := B1) hf (fun c _ _ y => by omega) rfl
              obtain ⟨g1, g2, g3, g4, g5, g6, g7⟩ := a1
              exact ⟨by simp [up, g1], by simp [up, g2], by simp [up, g3], by simp [up, g4], by simp [up, g5], by simp [up, g6], g7⟩
            · have a1 := b.fr hf (fun c _ _ y => by omega) (by omega)
              obtain ⟨g1, g2, g3, g4, g5, g6, g7⟩ := a1
              have hne : j ≠ k := by omega
              exact ⟨by simp [up, g1, hne], by simp [up, g2, hne], by simp [up, g3, hne], by simp [up, g4, hne], by simp [up, g5, hne], by simp [up, g6, hne], by simp [up, g7]⟩
          · have : j = k := by omega
            subst this
            obtain ⟨g1, g2, g3, g4, g5, g6, g7⟩ := hg
            refine ⟨⟨by simp [up, g1]; rfl, by simp [up, g2]; rfl, by simp [up, g3]; rfl, by simp [up, g4]; rfl, by simp [up, g5]; rfl, by simp [up, g6]; rfl, g7⟩, ⟨by simp [up, g1]; rfl, by simp [up, g2]; rfl, by simp [up, g3]; rfl, by simp [up, g4]; rfl, by simp [up, g5]; rfl, by simp [up, g6]; rfl, ?_⟩⟩
            have : up (up (up (up (up (up t 73 (8 * d + j) (t 67 j)) 74 (8 * d + j) (t 68 j)) 75 (8 * d + j) (t 69 j)) 76 (8 * d + j) (t 70 j)) 77 (8 * d + j) (t 71 j)) 78 (8 * d + j) (t 72 j) 79 d = s 79 d := by simp [up, e79]
            rw [this, h79, bt_nI (by have := hL.1; omega) (by omega)]
            exact g7
        · intro j hj hjn
          have a1 := (h2 j (by omega) hjn).fr (B' := B1) hf (fun c _ _ y => by omega) rfl
          obtain ⟨g1, g2, g3, g4, g5, g6, g7⟩ := a1
          exact ⟨by simp [up, g1], by simp [up, g2], by simp [up, g3], by simp [up, g4], by simp [up, g5], by simp [up, g6], g7⟩
        · simp [up, e79]; exact h79
        · exact (((((hFt.up (sd _ (by decide) (by decide))).up (sd _ (by decide) (by decide))).up (sd _ (by decide) (by decide))).up (sd _ (by decide) (by decide))).up (sd _ (by decide) (by decide))).up (sd _ (by decide) (by decide))
    · intro s ⟨hL, h1, h2, h79, hF⟩
      have hRs : RnM W msk s := hR.fr (hF.mono (fun c i h => sD_W h))
      refine tX8_goesBy_67 ⟨fun q => ⟨rfl, B1, hL, h1, hF⟩, fun q => ?_⟩
      rw [hRs.1] at q
      exact absurd (Int32.le_refl _) q
  have loop1 : ∀ e (s : Nat × Hp), e ≤ wm W → (LfM s.1 s.2 ∧ (∀ k, k < wn W → RgM s.2 s.1 k (evs (we W) msk d k e (pre W msk k d))) ∧ Fr sN σ s.2) →
      Ru E mX8_goesBy 2 [(0, .ref 53), (1, .int (nI d)), (2, .int (nI e))] [] s.2 (PV (psD W msk d σ)) := by
    refine for_up (wm W) _ _ ?_ ?_
    · intro e ⟨B1, s⟩ hem ⟨hL, h1, hF⟩ ih
      dsimp only at hL h1 hF ih ⊢
      have hRs : RnM W msk s := hR.fr (hF.mono (fun c i h => Or.inl h))
      obtain ⟨v0, v1, v2, v3⟩ := hW.2.2.2 e hem
      have n1 : s 64 e = nI (we W 1 e) := hRs.2.2.1.2 e hem 1 (by decide)
      have n2 : s 65 e = nI (we W 2 e) := hRs.2.2.1.2 e hem 2 (by decide)
      have skip : ¬ (we W 1 e = d ∧ we W 2 e < wn W ∧ msk e = true) → Ru E mX8_goesBy 2 [(0, .ref 53), (1, .int (nI d)), (2, .int (nI (e + 1)))] [] s (PV (psD W msk d σ)) := by
        intro hno
        refine ih (B1, s) ⟨hL, fun k hk2 => ?_, hF⟩
        unfold evs
        rw [if_neg (fun y => hno ⟨y.1, by rw [y.2.1]; exact hk2, y.2.2⟩)]
        exact h1 k hk2
      refine tX8_goesBy_2 ?_
      rw [hRs.2.2.1.1, cl (show e < 2147483648 by omega), n1, n2, hRs.1, nI_1]
      refine ⟨fun q => ?_, fun _ => ⟨vin (by omega) (by decide), fun q => ?_, fun q => ⟨fun q2 => ?_, fun q2 => ⟨_, _, c8_isIn, fun q3 => ?_, fun q3 => ?_⟩⟩⟩⟩
      · rw [nI_le' (by omega) (by omega)] at q; omega
      · rw [nI_eq' (by omega) (by omega)] at q
        exact skip (fun y => q y.1)
      · rw [nI_le' (by omega) (by omega)] at q2
        exact skip (fun y => by omega)
      · refine skip (fun y => ?_)
        rw [bI_n] at q3
        rw [hRs.2.2.2 e hem, q3] at y
        exact absurd y.2.2 (by decide)
      · rw [nI_eq' (by omega) (by omega)] at q
        rw [nI_le' (by omega) (by omega)] at q2
        rw [bI_0] at q3
        have hmk : msk e = true := by
          rw [hRs.2.2.2 e hem]
          simpa using q3
        have hkn : we W 2 e < wn W := by omega
        have ho : okR (evs (we W) msk d (we W 2 e) e (pre W msk (we W 2 e) d)) := evs_ok (fun e' he' => hW.2.2.2 e' (by omega)) (pre_ok hW hkn d)
        obtain ⟨t, hc, B', hL', hg, hj, hf⟩ := c8_befalls (E := E) hm8 hW.2.2.2 hRs.2.2.1 hL hem (h1 _ hkn) ho
        refine ⟨t, hc, ih (B', t) ⟨hL', fun k hk2 => ?_, hF.tr (hf.mono (fun c i h => by unfold sN; omega))⟩⟩
        by_cases hkk : k = we W 2 e
        · subst hkk
          unfold evs
          rw [if_pos ⟨q, rfl, hmk⟩]
          exact hg
        · unfold evs
          rw [if_neg (fun y => hkk y.2.1.symm)]
          exact (h1 k hk2).fr hf (fun c _ _ y => by omega) (hj k hkk)
    · intro ⟨B1, s⟩ ⟨hL, h1, hF⟩
      dsimp only at hL h1 hF ⊢
      have hRs : RnM W msk s := hR.fr (hF.mono (fun c i h => Or.inl h))
      refine tX8_goesBy_2 ?_
      rw [hRs.2.2.1.1, cl (show d < 2147483648 by omega), hL.2]
      refine ⟨fun _ => ⟨vin hd (by decide), ?_⟩, fun q => absurd (Int32.le_refl _) q⟩
      have hF2 : Fr (sD d) σ (up s 79 d (nI B1)) := (hF.mono (fun c i h => Or.inl h)).up (Or.inr (Or.inr ⟨rfl, rfl⟩))
      have hL2 : LfM B1 (up s 79 d (nI B1)) := ⟨hL.1, by simp [up]; exact hL.2⟩
      have h12 : ∀ k, k < wn W → RgM (up s 79 d (nI B1)) B1 k (evs (we W) msk d k (wm W) (pre W msk k d)) := by
        intro k hk2
        obtain ⟨g1, g2, g3, g4, g5, g6, g7⟩ := h1 k hk2
        exact ⟨by simp [up, g1], by simp [up, g2], by simp [up, g3], by simp [up, g4], by simp [up, g5], by simp [up, g6], g7⟩
      have h79 : bt (up s 79 d (nI B1) 79 d) = bt (nI B1) := by rw [up_s]
      exact loop2 B1 _ hL2 h12 h79 hF2 0 _ (Nat.zero_le _) ⟨hL2, fun j hj => by omega, fun j _ hj => h12 j hj, h79, hF2⟩
  exact loop1 0 (B, σ) (Nat.zero_le _) ⟨hB, fun k hk2 => hk k hk2, Fr.rf⟩
def psW (W : Wo) (msk : Nat → Bool) (σ σ' : Hp) : Prop := (∀ d, d < 20 → ∀ k, k < wn W → RgA σ' d k (rr W msk k d)) ∧ (∀ k, k < wn W → σ' 72 k = nI (gi (rr W msk k 19))) ∧ RnM W msk σ' ∧ Fr sW σ σ'
theorem c8_runs {W : Wo} {msk : Nat → Bool} (hW : okW W) (hR : RnM W msk σ) : ∃ σ' : Hp, Call E mX8_runs [.ref 53] σ none σ' ∧ psW W msk σ σ' := by
  have hn8 := hW.1
  refine C_X8_runs (tX8_runs_0 ?_)
  have loop2 : ∀ d (s : Nat × Hp), d ≤ 20 → (LfM s.1 s.2 ∧ (∀ k, k < wn W → RgM s.2 s.1 k (pre W msk k d)) ∧ (∀ d', d' < d → ∀ k, k < wn W → RgA s.2 d' k (pre W msk k (d' + 1))) ∧ Fr sW σ s.2) →
      Ru E mX8_runs 80 [(0, .ref 53), (1, .int (nI d))] [] s.2 (PV (psW W msk σ)) := by
    refine for_up 20 _ _ ?_ ?_
    · intro d ⟨B, s⟩ hd ⟨hL, h1, h2, hF⟩ ih
      dsimp only at hL h1 h2 hF ih ⊢
      refine tX8_runs_80 ⟨fun q => ?_, fun _ => ?_⟩
      · rw [show (20 : Int32) = nI 20 from rfl, nI_le' (by decide) (by omega)] at q; omega
      · obtain ⟨t, hc, B', hL', h1', hF'⟩ := c8_goesBy (E := E) hW hd (hR.fr hF) hL h1
        rw [nI_1]
        refine ⟨t, hc, ih (B', t) ⟨hL', fun k hk => (h1' k hk).1, fun d' hd' k hk => ?_, hF.tr (hF'.mono (fun c i h => sD_W h))⟩⟩
        rcases Nat.lt_or_ge d' d with z | z
        · exact (h2 d' z k hk).fr hF' (fun c a b y => by unfold sD sN at y; omega) (fun y => by unfold sD sN at y; omega)
        · have : d' = d := by omega
          subst this
          exact (h1' k hk).2
    · intro ⟨B, s⟩ ⟨hL, h1, h2, hF⟩
      dsimp only at hL h1 h2 hF ⊢
      refine tX8_runs_80 ⟨fun _ => ⟨rfl, h2, fun k hk => (h1 k hk).2.2.2.2.2.1, hR.fr hF, hF⟩, fun q => absurd (by decide) q⟩
  have loop1 : ∀ k (s : Hp), k ≤ wn W → ((∀ j, j < k → ∀ B : Nat, B.testBit j = false → RgM s B j (pre W msk j 0)) ∧ Fr sW σ s) →
      Ru E mX8_runs 2 [(0, .ref 53), (1, .int (nI k))] [] s (PV (psW W msk σ)) := by
    refine for_up (wn W) _ _ ?_ ?_
    · intro k s hk ⟨h1, hF⟩ ih
      have hRs := hR.fr hF
      have c0 : s 55 k = nI (wc W 0 k) := hRs.2.1 k hk 0 (by decide)
      have c1 : s 56 k = nI (wc W 1 k) := hRs.2.1 k hk 1 (by decide)
      have c2 : s 57 k = nI (wc W 2 k) := hRs.2.1 k hk 2 (by decide)
      refine tX8_runs_2 ?_
      rw [hRs.1, cl (show k < 2147483648 by omega), c0, c1, c2, nI_1]
      refine ⟨fun q => ?_, fun _ => ⟨vin (by omega) (by decide), vin (by omega) (by decide), ih _ ⟨fun j hj B hB => ?_, ?_⟩⟩⟩
      · rw [nI_le' (by omega) (by omega)] at q; omega
      · rcases Nat.lt_or_ge j k with z | z
        · obtain ⟨g1, g2, g3, g4, g5, g6, g7⟩ := h1 j z B hB
          have hne : j ≠ k := by omega
          exact ⟨by simp [up, g1, hne], by simp [up, g2, hne], by simp [up, g3, hne], by simp [up, g4, hne], by simp [up, g5, hne], by simp [up, g6, hne], g7⟩
        · have : j = k := by omega
          subst this
          exact ⟨by simp [up]; rfl, by simp [up]; rfl, by simp [up]; rfl, by simp [up]; rfl, by simp [up]; rfl, by simp [up]; rfl, hB⟩
      · have sn : ∀ c, 67 ≤ c → c ≤ 72 → sW c k := fun c a b => Or.inl (Or.inl ⟨a, b⟩)
        exact (((((hF.up (sn _ (by decide) (by decide))).up (sn _ (by decide) (by decide))).up (sn _ (by decide) (by decide))).up (sn _ (by decide) (by decide))).up (sn _ (by decide) (by decide))).up (sn _ (by decide) (by decide))
    · intro s ⟨h1, hF⟩
      have hRs := hR.fr hF
      refine tX8_runs_2 ?_
      rw [hRs.1]
      refine ⟨fun _ => loop2 0 (0, up s 53 24 0) (by decide) ⟨⟨(by decide : 0 < 256), (up_s : up s 53 24 0 53 24 = 0)⟩, fun k hk => ?_, fun d' hd' => by omega, hF.up (Or.inl (Or.inr ⟨rfl, rfl⟩))⟩, fun q => absurd (Int32.le_refl _) q⟩
      show RgM (up s 53 24 0) 0 k _
      obtain ⟨g1, g2, g3, g4, g5, g6, g7⟩ := h1 k hk 0 (Nat.zero_testBit k)
      exact ⟨by simp [up, g1], by simp [up, g2], by simp [up, g3], by simp [up, g4], by simp [up, g5], by simp [up, g6], g7⟩
  exact loop1 0 σ (Nat.zero_le _) ⟨fun j hj => by omega, Fr.rf⟩
/-- the events as told -/
def EvM (v : Nat → Nat → Nat) (m : Nat) (σ : Hp) : Prop := σ 53 7 = nI m ∧ ∀ e, e < m → ∀ f, f < 4 → σ (59 + f) e = nI (v f e)
/-- what is told: the text and the events -/
def ToM (t : Nat → Nat) (nb : Nat) (v : Nat → Nat → Nat) (m : Nat) (σ : Hp) : Prop := TxM t nb σ ∧ EvM v m σ ∧ m ≤ 8 ∧ okE v m
def woS (t : Nat → Nat) (nb : Nat) (v : Nat → Nat → Nat) (m : Nat) : Wo := (cdS t, ncS t nb, v, m)
theorem woS_ok {t : Nat → Nat} {nb : Nat} {v : Nat → Nat → Nat} {m : Nat} {σ : Hp} (h : ToM t nb v m σ) : okW (woS t nb v m) := ⟨(cd_ok h.1.1).1, h.2.2.1, (cd_ok h.1.1).2, h.2.2.2⟩
def sT (c i : Nat) : Prop := sR c i ∨ (63 ≤ c ∧ c ≤ 66) ∨ (c = 53 ∧ (i = 12 ∨ i = 17))
def allE : Nat → Bool := fun _ => true
theorem bt_0 (e : Nat) (h : e < 31) : bt 0 e = false := by rw [show (0 : Int32) = nI 0 from rfl, bt_nI (by decide) h, Nat.zero_testBit]
theorem c8_asTold {t : Nat → Nat} {nb : Nat} {v : Nat → Nat → Nat} {m : Nat} (hT : ToM t nb v m σ) : ∃ σ' : Hp, Call E mX8_asTold [.ref 53] σ none σ' ∧ (RnM (woS t nb v m) allE σ' ∧ σ' 53 17 = 0 ∧ Fr sT σ σ') := by
  obtain ⟨hTx, ⟨e1, e2⟩, hm, hv⟩ := hT
  obtain ⟨s0, hc, hC, hF⟩ := c8_reads (E := E) hTx
  refine C_X8_asTold (tX8_asTold_0 ⟨s0, hc, ?_⟩)
  have loop : ∀ e (s : Hp), e ≤ m → (s 53 12 = nI m ∧ (∀ j, j < e → ∀ f, f < 4 → s (63 + f) j = nI (v f j)) ∧ CpM t (ncS t nb) s ∧ Fr sT σ s) →
      Ru E mX8_asTold 14 [(0, .ref 53), (1, .int (nI e))] [] s (PV (fun σ' => RnM (woS t nb v m) allE σ' ∧ σ' 53 17 = 0 ∧ Fr sT σ σ')) := by
    refine for_up m _ _ ?_ ?_
    · intro e s he ⟨h1, h2, h3, hF⟩ ih
      have k7 : s 53 7 = nI m := by rw [hF 53 7 (by unfold sT sR; omega)]; exact e1
      have kf : ∀ f, f < 4 → s (59 + f) e = nI (v f e) := fun f hf => by rw [hF (59 + f) e (by unfold sT sR; omega)]; exact e2 e he f hf
      refine tX8_asTold_14 ?_
      rw [k7, cl (show e < 2147483648 by omega), show s 59 e = _ from kf 0 (by decide), show s 60 e = _ from kf 1 (by decide), show s 61 e = _ from kf 2 (by decide), show s 62 e = _ from kf 3 (by decide), nI_1]
      refine ⟨fun q => ?_, fun _ => ⟨vin (by omega) (by decide), ih _ ⟨by simp [up]; exact h1, fun j hj f hf => ?_, ⟨by simp [up]; exact h3.1, fun k hk f hf => ?_⟩, ?_⟩⟩⟩
      · rw [nI_le' (by omega) (by omega)] at q; omega
      · rcases Nat.lt_or_ge j e with z | z
        · have hne : j ≠ e := by omega
          have := h2 j z f hf
          rw [up_i hne, up_i hne, up_i hne, up_i hne]
          exact this
        · have : j = e := by omega
          subst this
          match f, hf with
          | 0, _ => simp [up]
          | 1, _ => simp [up]
          | 2, _ => simp [up]
          | 3, _ => simp [up]
      · rw [up_c (by omega), up_c (by omega), up_c (by omega), up_c (by omega)]
        exact h3.2 k hk f hf
      · have st : ∀ c, 63 ≤ c → c ≤ 66 → sT c e := fun c a b => Or.inr (Or.inl ⟨a, b⟩)
        exact (((hF.up (st _ (by decide) (by decide))).up (st _ (by decide) (by decide))).up (st _ (by decide) (by decide))).up (st _ (by decide) (by decide))
    · intro s ⟨h1, h2, h3, hF⟩
      have k7 : s 53 7 = nI m := by rw [hF 53 7 (by unfold sT sR; omega)]; exact e1
      refine tX8_asTold_14 ?_
      rw [k7]
      refine ⟨fun _ => ⟨rfl, ⟨by simp [up]; exact h3.1, fun k hk f hf => ?_, ⟨by simp [up]; exact h1, fun e he f hf => ?_⟩, fun e he => ?_⟩, by rw [up_s], hF.up (Or.inr (Or.inr ⟨rfl, Or.inr rfl⟩))⟩, fun q => absurd (Int32.le_refl _) q⟩
      · rw [up_c (by omega)]; exact h3.2 k hk f hf
      · rw [up_c (by omega)]; exact h2 e he f hf
      · rw [up_s, bt_0 e (by have : e < m := he; omega)]; rfl
  refine loop 0 _ (Nat.zero_le _) ⟨?_, fun j hj => by omega, ⟨by simp [up]; exact hC.1, fun k hk f hf => by rw [up_c (by omega)]; exact hC.2 k hk f hf⟩, (hF.mono (fun c i h => Or.inl h)).up (Or.inr (Or.inr ⟨rfl, Or.inl rfl⟩))⟩
  rw [up_s, hF 53 7 (by unfold sR; omega)]
  exact e1
def sQ (c i : Nat) : Prop := sT c i ∨ sW c i
theorem c8_runsTold {t : Nat → Nat} {nb : Nat} {v : Nat → Nat → Nat} {m : Nat} (hT : ToM t nb v m σ) : ∃ σ' : Hp, Call E mX8_runsTold [.ref 53] σ none σ' ∧ ((∀ d, d < 20 → ∀ k, k < ncS t nb → RgA σ' d k (rr (woS t nb v m) allE k d)) ∧ (∀ k, k < ncS t nb → σ' 72 k = nI (gi (rr (woS t nb v m) allE k 19))) ∧ RnM (woS t nb v m) allE σ' ∧ Fr sQ σ σ') := by
  obtain ⟨s1, hc1, hR, -, hF1⟩ := c8_asTold (E := E) hT
  obtain ⟨s2, hc2, h1, h2, h3, hF2⟩ := c8_runs (E := E) (woS_ok hT) hR
  exact C_X8_runsTold (tX8_runsTold_0 ⟨s1, hc1, s2, hc2, rfl, h1, h2, h3, (hF1.mono (fun c i h => Or.inl h)).tr (hF2.mono (fun c i h => Or.inr h))⟩)
theorem ToM.fr {t : Nat → Nat} {nb : Nat} {v : Nat → Nat → Nat} {m : Nat} {σ σ' : Hp} (h : ToM t nb v m σ) (hF : Fr sQ σ σ') : ToM t nb v m σ' := by
  obtain ⟨h1, ⟨h2, h3⟩, h4⟩ := h
  refine ⟨h1.keep (hF _ _ (by unfold sQ sT sW sN sR; omega)) (fun i => hF _ _ (by unfold sQ sT sW sN sR; omega)), ⟨by rw [hF _ _ (by unfold sQ sT sW sN sR; omega)]; exact h2, fun e he f hf => ?_⟩, h4⟩
  rw [hF _ _ (by unfold sQ sT sW sN sR; omega)]
  exact h3 e he f hf
end MD
