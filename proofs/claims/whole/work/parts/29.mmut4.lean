/-! THE REFERENCE: write, count, couple -/
section MD
variable {E : Ev} {σ : Hp} {A : AS}
theorem nr_sm : ∀ g, g < 5 → (nI g).toInt8.toInt32 = nI g ∧ (nI g).toInt16.toInt32 = nI g := by decide +kernel
theorem nrS_sm {f g : Nat} (hg : g ≤ 4) : nrS f (nI g) = nI g := by
  unfold nrS
  split
  · exact (nr_sm g (by omega)).1
  · split
    · exact (nr_sm g (by omega)).2
    · rfl
def wrK (A : AS) (k s j : Nat) : AS := setH A (ht (aH A), hf (aH A), hz (aH A), upN (hi (aH A)) s (fun d => if d < j then nI (ga (rr (aW A) allE k d)) else hi (aH A) s d), hl (aH A))
theorem wrK_0 {k s : Nat} : wrK A k s 0 = A := by
  have : upN (hi (aH A)) s (fun d => if d < 0 then nI (ga (rr (aW A) allE k d)) else hi (aH A) s d) = hi (aH A) := by
    funext s' d
    unfold upN
    by_cases q : s' = s
    · rw [if_pos q, q, if_neg (Nat.not_lt_zero d)]
    · rw [if_neg q]
  unfold wrK
  rw [this]
  rfl
theorem wrK_1 {k s j : Nat} : wrK A k s (j + 1) = putH (wrK A k s j) s j (nI (ga (rr (aW A) allE k j))) := by
  have : upN (hi (aH A)) s (fun d => if d < j + 1 then nI (ga (rr (aW A) allE k d)) else hi (aH A) s d) = upN (upN (hi (aH A)) s (fun d => if d < j then nI (ga (rr (aW A) allE k d)) else hi (aH A) s d)) s (upN ((upN (hi (aH A)) s (fun d => if d < j then nI (ga (rr (aW A) allE k d)) else hi (aH A) s d)) s) j (nI (ga (rr (aW A) allE k j)))) := by
    funext s' d
    unfold upN
    by_cases q : s' = s
    · rw [if_pos q, if_pos q, if_pos rfl]
      by_cases q2 : d = j
      · rw [if_pos q2, q2, if_pos (by omega)]
      · rw [if_neg q2]
        by_cases q3 : d < j
        · rw [if_pos q3, if_pos (by omega)]
        · rw [if_neg q3, if_neg (by omega)]
    · rw [if_neg q, if_neg q, if_neg q]
  unfold wrK
  rw [this]
  rfl
theorem okA_H {H : Sht} (ho : okA A) (h : okH H) : okA (setH A H) := ⟨ho.1, ho.2.1, ho.2.2.1, ho.2.2.2.1, ho.2.2.2.2.1, h⟩
theorem m_write (h : StM A σ) (ho : okA A) (k s : Int32) : ActM E mX8_write [.ref 53, .int k, .int s] σ (aWrite A k s) := by
  unfold aWrite
  obtain ⟨v1, s1, hc1, rfl, hF1, -⟩ := isC8 (E := E) (h.to ho) k
  have hF1' : Fr sqM σ s1 := hF1.mono (fun c i z => sQ_q z)
  have h1 := h.q hF1'
  refine C_X8_write (tX8_write_0 ⟨_, _, hc1, fun q => ⟨_, rfl, ?_⟩, fun q => ⟨_, _, c8_isSheet, fun q2 => ?_, fun q2 => ⟨_, rfl, ?_⟩⟩⟩)
  · rw [if_neg (fun z => bI_0.mp q z.1)]
    exact ⟨rfl, h1, hF1'.mono (fun c i z => sqM_M z)⟩
  · have q := bI_n.mp q
    have q2 := bI_n.mp q2
    rw [if_pos ⟨q, q2⟩]
    obtain ⟨s, hs, rfl⟩ := (inN_iff 3 (by decide)).mp q2
    have hn : ncS (at' A) (an A) ≤ 8 := (woS_ok (h.to ho)).1
    obtain ⟨k, hk, rfl⟩ := (isC_iff (n := ncS (at' A) (an A)) (by omega)).mp q
    obtain ⟨g1, g2, g3, g4⟩ := h1.2.2.2.1 s (by omega)
    rw [cl (show s < 2147483648 by omega), cl (show k < 2147483648 by omega), g1]
    refine ⟨vin (by omega) (by decide), fun z => ?_, fun z => ⟨_, _, c8_marks, _, rfl, ?_⟩⟩
    · rw [if_pos (bI_n.mp z)]
      obtain ⟨s2, hc2, hD, hF2, -⟩ := runsT (E := E) (h1.to ho)
      have hF2' : Fr sqM s1 s2 := hF2.mono (fun c i z => sQ_q z)
      refine ⟨s2, hc2, ?_⟩
      have hz60 := (ho.2.2.2.2.2 s (by omega)).2
      have hN : wrN A s = min (hz (aH A) s) 20 := rfl
      have loop : ∀ j (τ : Hp), j ≤ wrN A s → (StM (wrK A k s j) τ ∧ Fr (fun c i => c = 89) s2 τ) → Ru E mX8_write 39 [(0, .ref 53), (1, .int (nI k)), (2, .int (nI s)), (3, .int (nI j))] [] τ (PI (fun v σ' => v = nI (wrN A s) ∧ StM (wrH A k s) σ' ∧ Fr sM σ σ')) := by
        refine for_up (wrN A s) _ _ ?_ ?_
        · intro j τ hj ⟨hS, hF⟩ ih
          have e88 : τ 88 s = nI (hz (aH A) s) := (hS.2.2.2.1 s (by omega)).2.2.1
          have e77 : τ 77 (8 * j + k) = nI (ga (rr (aW A) allE k j)) := by
            rw [hF 77 _ (show ¬ 77 = 89 by decide)]
            exact (hD.2 j (by omega) k hk).2.2.2.2.1
          refine tX8_write_39 ?_
          rw [cl (show s < 2147483648 by omega), e88, ix8, cl (show 8 * j + k < 2147483648 by omega), e77, nI_1]
          have h4 : ga (rr (aW A) allE k j) ≤ 4 := (pre_ok (msk := allE) (woS_ok (h.to ho)) hk (j + 1)).2.2.2
          obtain ⟨τ2, hc3, hS3, hF3⟩ := c8_keep (E := E) hS (okA_H ho ho.2.2.2.2.2) (show s < 4 by omega) (show j < 60 by omega) (nI (ga (rr (aW A) allE k j)))
          rw [nrS_sm h4, ← wrK_1] at hS3
          refine ⟨vin (by omega) (by decide), fun y => ?_, fun _ => ⟨fun y => ?_, fun _ => ⟨vin (by omega) (by decide), τ2, hc3, ih τ2 ⟨hS3, hF.tr (hF3.mono (fun c i z => z.1))⟩⟩⟩⟩
          · rw [nI_le' (by omega) (by omega)] at y; omega
          · rw [show (20 : Int32) = nI 20 from rfl, nI_le' (by decide) (by omega)] at y; omega
        · intro τ ⟨hS, hF⟩
          have e88 : τ 88 s = nI (hz (aH A) s) := (hS.2.2.2.1 s (by omega)).2.2.1
          have fin : ∃ v, some (Value.int (nI (wrN A s))) = some (.int v) ∧ (v = nI (wrN A s) ∧ StM (wrH A k s) τ ∧ Fr sM σ τ) := ⟨_, rfl, rfl, hS, ((hF1'.tr hF2').mono (fun c i z => sqM_M z)).tr (hF.mono (fun c i z => by unfold sM; omega))⟩
          refine tX8_write_39 ?_
          rw [cl (show s < 2147483648 by omega), e88]
          refine ⟨vin (by omega) (by decide), fun _ => fin, fun y => ⟨fun _ => fin, fun y2 => ?_⟩⟩
          rw [nI_le' (by omega) (by omega)] at y
          rw [show (20 : Int32) = nI 20 from rfl, nI_le' (by decide) (by omega)] at y2
          omega
      exact loop 0 s2 (Nat.zero_le _) ⟨by rw [wrK_0]; exact h1.q hF2', Fr.rf⟩
    · rw [if_neg (bI_0.mp z)]
      exact ⟨rfl, h1.mark, fM (hF1'.mono (fun c i z => sqM_M z)) (by decide)⟩
  · rw [if_neg (fun z => bI_0.mp q2 z.2)]
    exact ⟨rfl, h1, hF1'.mono (fun c i z => sqM_M z)⟩
theorem c8_sumOf (h : StM A σ) (ho : okA A) {w : Int32} (hw : w = 0 ∨ w = 3 ∨ w = 4 ∨ w = 5 ∨ w = 6) : ∃ (v : Int32) (σ' : Hp), Call E mX8_sumOf [.ref 53, .int w] σ (some (.int v)) σ' ∧ (v = cnA A w ∧ Fr sqM σ σ') := by
  obtain ⟨s, hc, hD, hF, hg⟩ := runsT (E := E) (h.to ho)
  have hF' : Fr sqM σ s := hF.mono (fun c i z => sQ_q z)
  have hW := woS_ok (h.to ho)
  have hn : wn (aW A) ≤ 8 := hW.1
  refine C_X8_sumOf (tX8_sumOf_0 ⟨s, hc, ?_⟩)
  have loop : ∀ k (u : Unit), k ≤ wn (aW A) → True → Ru E mX8_sumOf 8 [(0, .ref 53), (1, .int w), (2, .int (nI (sm (fun k => gi (rr (aW A) allE k 19)) k))), (3, .int (nI k))] [] s (PI (fun v σ' => v = cnA A w ∧ Fr sqM σ σ')) := by
    refine for_up (wn (aW A)) _ _ ?_ ?_
    · intro k _ hk _ ih
      have ih := ih () trivial
      unfold sm at ih
      refine tX8_sumOf_8 ?_
      rw [show s 53 2 = nI (wn (aW A)) from hD.1, cl (show k < 2147483648 by omega), hg k hk, nI_1, nI_add]
      refine ⟨fun q => ?_, fun _ => ⟨vin (by omega) (by decide), ih⟩⟩
      rw [nI_le' (by omega) (by omega)] at q; omega
    · intro _ _
      have cN : Call E mX8_closedNow [.ref 53, .int 19] s (some (.int (clS (wn (aW A)) (fun k => rr (aW A) allE k 19)))) s := c8_closedNow (E := E) hW hD (show 19 < 20 by decide)
      have p0 : Call E mX8_pairsNow [.ref 53, .int 19, .int 0] s (some (.int (nI (prS (wn (aW A)) (fun k => rr (aW A) allE k 19) 0)))) s := c8_pairsNow (E := E) hW hD (show 19 < 20 by decide) (show 0 ≤ 1 by decide)
      have p1 : Call E mX8_pairsNow [.ref 53, .int 19, .int 1] s (some (.int (nI (prS (wn (aW A)) (fun k => rr (aW A) allE k 19) 1)))) s := c8_pairsNow (E := E) hW hD (show 19 < 20 by decide) (show 1 ≤ 1 by decide)
      refine tX8_sumOf_8 ⟨fun _ => ⟨fun z0 => ⟨fun z3 => ⟨fun z4 => ⟨fun z5 => ⟨_, rfl, ?_, hF'⟩, fun z5 => ⟨_, _, cN, _, _, c8_ones, _, rfl, ?_, hF'⟩⟩, fun z4 => ⟨_, _, p1, _, rfl, ?_, hF'⟩⟩, fun z3 => ⟨_, _, p0, _, rfl, ?_, hF'⟩⟩, fun z0 => ⟨_, rfl, ?_, hF'⟩⟩, fun q => ?_⟩
      · have z6 : w = 6 := by
          rcases hw with y | y | y | y | y
          · exact absurd y z0
          · exact absurd y z3
          · exact absurd y z4
          · exact absurd y z5
          · exact y
        subst z6
        unfold cnA
        rw [if_neg (by decide), if_neg (by decide), if_neg (by decide), if_neg (by decide), if_neg (by decide), if_neg (by decide), if_pos rfl]
      · subst z5
        unfold cnA
        rw [if_neg (by decide), if_neg (by decide), if_neg (by decide), if_neg (by decide), if_neg (by decide), if_pos rfl, ones_cl hn]
      · subst z4
        unfold cnA
        rw [if_neg (by decide), if_neg (by decide), if_neg (by decide), if_neg (by decide), if_pos rfl]
      · subst z3
        unfold cnA
        rw [if_neg (by decide), if_neg (by decide), if_neg (by decide), if_pos rfl]
      · subst z0
        unfold cnA
        rw [if_pos rfl]
        exact hD.1
      · rw [hD.1] at q
        exact absurd (Int32.le_refl _) q
  exact loop 0 () (Nat.zero_le _) trivial
theorem c8_count (h : StM A σ) (ho : okA A) (w : Int32) : ∃ (v : Int32) (σ' : Hp), Call E mX8_count [.ref 53, .int w] σ (some (.int v)) σ' ∧ (v = cnA A w ∧ Fr sqM σ σ') := by
  have su : ∀ w : Int32, (w = 0 ∨ w = 3 ∨ w = 4 ∨ w = 5 ∨ w = 6) → ∃ (r4 : Int32) (σ2 : Hp), Call E mX8_sumOf [.ref 53, .int w] σ (some (.int r4)) σ2 ∧ PI (fun v σ' => v = cnA A w ∧ Fr sqM σ σ') (some (.int r4)) σ2 := by
    intro w hw
    obtain ⟨v, s, hc, hv, hF⟩ := c8_sumOf (E := E) h ho hw
    exact ⟨v, s, hc, _, rfl, hv, hF⟩
  refine C_X8_count (tX8_count_0 ⟨fun q => su w (Or.inl q), fun q => ⟨_, rfl, ?_, Fr.rf⟩, fun q => ⟨_, rfl, ?_, Fr.rf⟩, fun q => su w (by simp [q]), fun q => su w (by simp [q]), fun q => su w (by simp [q]), fun q => su w (by simp [q]), fun q => ⟨_, rfl, ?_, Fr.rf⟩, fun q => ⟨_, rfl, ?_, Fr.rf⟩, fun ⟨q0, q1, q2, q3, q4, q5, q6, q7, q8⟩ => ⟨_, rfl, ?_, Fr.rf⟩⟩)
  · subst q
    unfold cnA
    rw [if_neg (by decide), if_pos rfl]
    exact h.1.1
  · subst q
    unfold cnA
    rw [if_neg (by decide), if_neg (by decide), if_pos rfl]
    exact h.2.1.1
  · subst q
    unfold cnA
    rw [if_neg (by decide), if_neg (by decide), if_neg (by decide), if_neg (by decide), if_neg (by decide), if_neg (by decide), if_neg (by decide), if_pos rfl]
    exact h.2.2.1.1
  · subst q
    unfold cnA
    rw [if_neg (by decide), if_neg (by decide), if_neg (by decide), if_neg (by decide), if_neg (by decide), if_neg (by decide), if_neg (by decide), if_neg (by decide), if_pos rfl]
    exact h.2.2.2.2
  · unfold cnA
    rw [if_neg q0, if_neg q1, if_neg q2, if_neg q3, if_neg q4, if_neg q5, if_neg q6, if_neg q7, if_neg q8]
theorem m_count (h : StM A σ) (ho : okA A) (w : Int32) : ActM E mX8_count [.ref 53, .int w] σ (cnA A w, A) := actQ h (c8_count h ho w)
theorem c8_coupleOf {t : Nat → Nat} {nc k w : Nat} (hC : CpM t nc σ) (hn : nc ≤ 8) (hk : k < nc) (hw : w ≤ 3) : Call E mX8_coupleOf [.ref 53, .int (nI k), .int (nI w)] σ (some (.int (nI (cdS t w k)))) σ := by
  have e : ∀ j, j < 4 → (nI w = nI j ↔ w = j) := fun j hj => nI_eq' (by omega) (by omega)
  have g : ∀ f, f < 4 → σ (55 + f) k = nI (cdS t f k) := hC.2 k hk
  have hv : vp_in (nI k) 9 := vin (by omega) (by decide)
  refine K_X8_coupleOf (tX8_coupleOf_0 ?_)
  rw [cl (show k < 2147483648 by omega)]
  refine ⟨fun q => ⟨fun q2 => ⟨fun q3 => ⟨hv, ?_, rfl⟩, fun q3 => ⟨hv, ?_, rfl⟩⟩, fun q2 => ⟨hv, ?_, rfl⟩⟩, fun q => ⟨hv, ?_, rfl⟩⟩
  · have : w = 3 := by
      have h0 : w ≠ 0 := fun z => q ((e 0 (by decide)).mpr z)
      have h1 : w ≠ 1 := fun z => q2 ((e 1 (by decide)).mpr z)
      have h2 : w ≠ 2 := fun z => q3 ((e 2 (by decide)).mpr z)
      omega
    subst this
    rw [← g 3 (by decide)]
  · have : w = 2 := (e 2 (by decide)).mp q3
    subst this
    rw [← g 2 (by decide)]
  · have : w = 1 := (e 1 (by decide)).mp q2
    subst this
    rw [← g 1 (by decide)]
  · have : w = 0 := (e 0 (by decide)).mp q
    subst this
    rw [← g 0 (by decide)]
theorem m_couple (h : StM A σ) (ho : okA A) (k w : Int32) : ActM E mX8_couple [.ref 53, .int k, .int w] σ (coA A k w, A) := by
  refine actQ h ?_
  unfold coA
  obtain ⟨v1, s1, hc1, rfl, hF1, hC⟩ := isC8 (E := E) (h.to ho) k
  have hF1' : Fr sqM σ s1 := hF1.mono (fun c i z => sQ_q z)
  have hn : ncS (at' A) (an A) ≤ 8 := (woS_ok (h.to ho)).1
  refine C_X8_couple (tX8_couple_0 ⟨_, _, hc1, fun q => ⟨_, rfl, ?_, hF1'⟩, fun q => ⟨_, _, c8_in, fun q2 => ⟨_, rfl, ?_, hF1'⟩, fun q2 => ?_⟩⟩)
  · rw [if_neg (fun z => bI_0.mp q z.1)]
  · rw [if_neg (fun z => bI_0.mp q2 z.2)]
  · have q := bI_n.mp q
    have q2 := bI_n.mp q2
    rw [if_pos ⟨q, q2⟩]
    obtain ⟨w, hw, rfl⟩ := (inN_iff 3 (by decide)).mp q2
    obtain ⟨k, hk, rfl⟩ := (isC_iff (n := ncS (at' A) (an A)) (by omega)).mp q
    rw [cl (show w < 2147483648 by omega), cl (show k < 2147483648 by omega)]
    exact ⟨_, _, c8_coupleOf hC hn hk hw, _, rfl, rfl, hF1'⟩
end MD
