/-! THE CLASS: sightings, sheets, count -/
section XSH
variable {E : Ev} {σ : Hp} {A : AS}
theorem x5_isFull {S : Sn} (h : SnX S σ) (hs : sc S ≤ 8) : Call E mX5_isFull [.ref 24] σ (some (.int (bI (sc S = 8)))) σ := by
  refine K_X5_isFull (tX5_isFull_0 ?_)
  rw [h.1, show (8 : Int32) = nI 8 from rfl, nI_lt' (by omega) (by decide)]
  exact ⟨fun z => ⟨by rw [bI_f (by omega)], rfl⟩, fun z => ⟨by rw [bI_t (show sc S = 8 by omega)], rfl⟩⟩
def sSn (c _i : Nat) : Prop := 24 ≤ c ∧ c ≤ 28
theorem StX.sn {S : Sn} {τ : Hp} (h : StX A σ) (hF : Fr sSn σ τ) (hS : SnX S τ) : StX (at' A, an A, av A, am A, S, aH A) τ := by
  obtain ⟨⟨h1, h2, h3, h4⟩, h5, h6, h7, h8⟩ := h
  have k : ∀ c i, ¬ sSn c i → τ c i = σ c i := hF
  refine ⟨⟨by rw [k _ _ (by unfold sSn; omega)]; exact h1, fun i hi => by rw [k _ _ (by unfold sSn; omega)]; exact h2 i hi, by rw [k _ _ (by unfold sSn; omega)]; exact h3, h4.fr hF (fun c i a b => by unfold sSn; omega)⟩, h5.fr hF (fun c i a b => by unfold sSn; omega), hS, fun s hs => ?_, by rw [k _ _ (by unfold sSn; omega)]; exact h8⟩
  obtain ⟨g1, g2, g3, g4⟩ := h7 s hs
  exact ⟨by rw [k _ _ (by unfold sSn; omega)]; exact g1, by rw [k _ _ (by unfold sSn; omega)]; exact g2, by rw [k _ _ (by unfold sSn; omega)]; exact g3, fun i hi => by rw [k _ _ (by unfold sSn; omega)]; exact g4 i hi⟩
theorem x7_seen (h : StX A σ) (ho : okA A) (d k x y : Int32) : ActX E mX7_seen [.ref 0, .int d, .int k, .int x, .int y] σ (aSeen A d k x y) := by
  have h8 := ho.2.2.2.2.1.1
  have hN := h.2.2.1
  have fs : ∀ c i, 24 ≤ c → c ≤ 28 → sSn c i := fun c i a b => ⟨a, b⟩
  unfold aSeen
  have no : ¬ ((0 ≤ d ∧ d ≤ 19) ∧ (0 ≤ k ∧ k ≤ 7) ∧ (-99 ≤ x ∧ x ≤ 99) ∧ (-99 ≤ y ∧ y ≤ 99)) → PI (fun v σ' => v = (if (0 ≤ d ∧ d ≤ 19) ∧ (0 ≤ k ∧ k ≤ 7) ∧ (-99 ≤ x ∧ x ≤ 99) ∧ (-99 ≤ y ∧ y ≤ 99) then (if sc (aS A) = 8 then ((-4 : Int32), A) else (nI (sc (aS A) + 1), (at' A, an A, av A, am A, (upN (sd (aS A)) (sc (aS A)) d.toNatClampNeg, upN (sh (aS A)) (sc (aS A)) k.toNatClampNeg, upN (sx (aS A)) (sc (aS A)) x, upN (sy (aS A)) (sc (aS A)) y, sc (aS A) + 1), aH A))) else (-2, A)).1 ∧ StX (if (0 ≤ d ∧ d ≤ 19) ∧ (0 ≤ k ∧ k ≤ 7) ∧ (-99 ≤ x ∧ x ≤ 99) ∧ (-99 ≤ y ∧ y ≤ 99) then (if sc (aS A) = 8 then ((-4 : Int32), A) else (nI (sc (aS A) + 1), (at' A, an A, av A, am A, (upN (sd (aS A)) (sc (aS A)) d.toNatClampNeg, upN (sh (aS A)) (sc (aS A)) k.toNatClampNeg, upN (sx (aS A)) (sc (aS A)) x, upN (sy (aS A)) (sc (aS A)) y, sc (aS A) + 1), aH A))) else (-2, A)).2 σ' ∧ Fr sX σ σ') (some (.int (-2))) σ := by
    intro z
    rw [if_neg z]
    exact ⟨_, rfl, rfl, h, Fr.rf⟩
  refine C_X7_seen (tX7_seen_0 ⟨_, _, x7_isDay, fun q => ?_, fun q => ⟨_, _, x7_isWithin, fun q2 => ?_, fun q2 => ?_⟩⟩)
  · exact tX7_seen_22 ⟨fun _ => no (fun z => bI_0.mp q z.1), fun z => absurd rfl z⟩
  · exact tX7_seen_22 ⟨fun _ => no (fun z => bI_0.mp q2 z.2.1), fun z => absurd rfl z⟩
  · refine tX7_seen_22 ⟨fun z => absurd z (by decide), fun _ => ⟨_, _, x7_isWithin, fun q3 => no (fun z => bI_0.mp q3 z.2.2.1), fun q3 => ⟨_, _, x7_isWithin, fun q4 => ⟨_, _, x5_isFull hN h8, fun q5 => ?_, fun q5 => ?_⟩, fun q4 => no (fun z => bI_0.mp q4 z.2.2.2)⟩⟩⟩
    · rw [if_pos ⟨bI_n.mp q, bI_n.mp q2, bI_n.mp q3, bI_n.mp q4⟩, if_neg (bI_0.mp q5)]
      have hlt : sc (aS A) < 8 := by have := bI_0.mp q5; omega
      obtain ⟨d, hd, rfl⟩ := (inN_iff 19 (by decide)).mp (bI_n.mp q)
      obtain ⟨k, hk, rfl⟩ := (inN_iff 7 (by decide)).mp (bI_n.mp q2)
      rw [cl (show d < 2147483648 by omega), cl (show k < 2147483648 by omega)]
      have note : ∃ σ' : Hp, Call E mX5_note [.ref 24, .int (nI d), .int (nI k), .int x, .int y] σ none σ' ∧ (SnX (upN (sd (aS A)) (sc (aS A)) d, upN (sh (aS A)) (sc (aS A)) k, upN (sx (aS A)) (sc (aS A)) x, upN (sy (aS A)) (sc (aS A)) y, sc (aS A) + 1) σ' ∧ Fr sSn σ σ') := by
        refine C_X5_note (tX5_note_0 ⟨_, _, x5_isFull hN h8, fun _ => ?_, fun z => absurd (bI_n.mp z) (bI_0.mp q5)⟩)
        rw [hN.1, cl (show sc (aS A) < 2147483648 by omega), nI_1]
        refine ⟨vin hlt (by decide), rfl, ⟨by rw [up_s], fun i hi => ?_⟩, ((((Fr.rf.up (fs _ _ (by decide) (by decide))).up (fs _ _ (by decide) (by decide))).up (fs _ _ (by decide) (by decide))).up (fs _ _ (by decide) (by decide))).up (fs _ _ (by decide) (by decide))⟩
        have hi : i < sc (aS A) + 1 := hi
        show _ = nI (if i = sc (aS A) then d else sd (aS A) i) ∧ _ = nI (if i = sc (aS A) then k else sh (aS A) i) ∧ _ = (if i = sc (aS A) then x else sx (aS A) i) ∧ _ = (if i = sc (aS A) then y else sy (aS A) i)
        by_cases z : i = sc (aS A)
        · rw [if_pos z, if_pos z, if_pos z, if_pos z, z]
          exact ⟨by simp [up], by simp [up], by simp [up], by simp [up]⟩
        · rw [if_neg z, if_neg z, if_neg z, if_neg z]
          obtain ⟨p1, p2, p3, p4⟩ := hN.2 i (by omega)
          exact ⟨by simp [up, z]; exact p1, by simp [up, z]; exact p2, by simp [up, z]; exact p3, by simp [up, z]; exact p4⟩
      obtain ⟨s, hc, hS, hF⟩ := note
      exact ⟨s, hc, _, rfl, hS.1, h.sn hF hS, hF.mono (fun c i z => by unfold sSn at z; unfold sX; omega)⟩
    · rw [if_pos ⟨bI_n.mp q, bI_n.mp q2, bI_n.mp q3, bI_n.mp q4⟩, if_pos (bI_n.mp q5)]
      exact ⟨_, rfl, rfl, h, Fr.rf⟩
theorem x7_forget (h : StX A σ) (ho : okA A) : ActX E mX7_forget [.ref 0] σ (aForget A) := by
  have hF : Fr sSn σ (up σ 24 4 0) := Fr.rf.up ⟨by decide, by decide⟩
  exact C_X7_forget (tX7_forget_0 ⟨_, rfl, h.2.2.1.1, h.sn hF ⟨by rw [up_s]; rfl, fun i hi => absurd hi (Nat.not_lt_zero i)⟩, hF.mono (fun c i z => by unfold sSn at z; unfold sX; omega)⟩)
def sSh (c _i : Nat) : Prop := 45 ≤ c ∧ c ≤ 52
theorem StX.sh {H : Sht} {τ : Hp} (h : StX A σ) (hF : Fr sSh σ τ) (hS : ∀ s, s < 4 → τ (45 + 2 * s) 1 = bI (¬ ht H s = true) ∧ τ (45 + 2 * s) 2 = nI (hf H s) ∧ τ (45 + 2 * s) 3 = nI (hz H s) ∧ ∀ i, i < 60 → τ (45 + 2 * s + 1) i = hi H s i) (hl' : hl H = hl (aH A)) : StX (setH A H) τ := by
  obtain ⟨⟨h1, h2, h3, h4⟩, h5, h6, h7, h8⟩ := h
  have k : ∀ c i, ¬ sSh c i → τ c i = σ c i := hF
  refine ⟨⟨by rw [k _ _ (by unfold sSh; omega)]; exact h1, fun i hi => by rw [k _ _ (by unfold sSh; omega)]; exact h2 i hi, by rw [k _ _ (by unfold sSh; omega)]; exact h3, h4.fr hF (fun c i a b => by unfold sSh; omega)⟩, h5.fr hF (fun c i a b => by unfold sSh; omega), h6.fr hF (fun c i a b => by unfold sSh; omega), hS, by rw [k _ _ (by unfold sSh; omega)]; show _ = hl H; rw [hl']; exact h8⟩
theorem shX {σ σ' : Hp} (h : Fr sSh σ σ') : Fr sX σ σ' := h.mono (fun c i z => by unfold sSh at z; unfold sX; omega)
theorem x4_renew {s f n : Nat} (hs : s < 4) : ∃ σ' : Hp, Call E mX4_renew [.ref (45 + 2 * s), .int (nI f), .int (nI n)] σ none σ' ∧ (σ' (45 + 2 * s) 1 = 0 ∧ σ' (45 + 2 * s) 2 = nI f ∧ σ' (45 + 2 * s) 3 = nI n ∧ (∀ i, i < 60 → σ' (45 + 2 * s + 1) i = 0) ∧ Fr (fun c _ => c = 45 + 2 * s ∨ c = 45 + 2 * s + 1) σ σ') := by
  refine C_X4_renew (tX4_renew_0 (isSheetN s hs) ?_)
  have loop : ∀ i (τ : Hp), i ≤ 60 → (τ (45 + 2 * s) 1 = 0 ∧ τ (45 + 2 * s) 2 = nI f ∧ τ (45 + 2 * s) 3 = nI n ∧ (∀ j, j < i → τ (45 + 2 * s + 1) j = 0) ∧ Fr (fun c _ => c = 45 + 2 * s ∨ c = 45 + 2 * s + 1) σ τ) → Ru E mX4_renew 17 [(0, .ref (45 + 2 * s)), (1, .int (nI f)), (2, .int (nI n)), (3, .int (nI i))] [] τ (PV (fun σ' => σ' (45 + 2 * s) 1 = 0 ∧ σ' (45 + 2 * s) 2 = nI f ∧ σ' (45 + 2 * s) 3 = nI n ∧ (∀ i, i < 60 → σ' (45 + 2 * s + 1) i = 0) ∧ Fr (fun c _ => c = 45 + 2 * s ∨ c = 45 + 2 * s + 1) σ σ')) := by
    refine for_up 60 _ _ ?_ ?_
    · intro i τ hi ⟨t1, t2, t3, t4, hF⟩ ih
      refine tX4_renew_17 (isSheetN s hs) ?_
      rw [cl (show i < 2147483648 by omega), nI_1]
      refine ⟨fun z => ?_, fun _ => ⟨vin (by omega) (by decide), ih _ ⟨by rw [up_c (by omega)]; exact t1, by rw [up_c (by omega)]; exact t2, by rw [up_c (by omega)]; exact t3, fun j hj => ?_, hF.up (Or.inr rfl)⟩⟩⟩
      · rw [show (60 : Int32) = nI 60 from rfl, nI_le' (by decide) (by omega)] at z; omega
      · by_cases z : j = i
        · rw [z, up_s]
        · rw [up_i z]; exact t4 j (by omega)
    · intro τ ⟨t1, t2, t3, t4, hF⟩
      exact tX4_renew_17 (isSheetN s hs) ⟨fun _ => ⟨rfl, t1, t2, t3, t4, hF⟩, fun z => absurd (by decide) z⟩
  exact loop 0 _ (Nat.zero_le _) ⟨by simp [up], by simp [up], by simp [up], fun j hj => by omega, ((Fr.rf.up (Or.inl rfl)).up (Or.inl rfl)).up (Or.inl rfl)⟩
theorem x7_sheet (h : StX A σ) (ho : okA A) (s f n : Int32) : ActX E mX7_sheet [.ref 0, .int s, .int f, .int n] σ (aSheet A s f n) := by
  unfold aSheet
  refine C_X7_sheet (tX7_sheet_0 ⟨_, _, x7_isSheet, fun q => ⟨_, rfl, ?_⟩, fun q => ⟨_, _, x7_isForm, fun q2 => ⟨_, rfl, ?_⟩, fun q2 => ⟨fun q3 => ⟨fun q4 => ?_, fun q4 => ⟨_, _, x7_find, _, rfl, ?_⟩⟩, fun q3 => ⟨_, rfl, ?_⟩⟩⟩⟩)
  · rw [if_neg (fun z => bI_0.mp q z.1)]
    exact ⟨rfl, h, Fr.rf⟩
  · rw [if_neg (fun z => bI_0.mp q2 z.2.1)]
    exact ⟨rfl, h, Fr.rf⟩
  · rw [if_pos ⟨bI_n.mp q, bI_n.mp q2, q3⟩, if_pos q4]
    obtain ⟨s, hs, rfl⟩ := (inN_iff 3 (by decide)).mp (bI_n.mp q)
    obtain ⟨f, hf', rfl⟩ := (inN_iff 2 (by decide)).mp (bI_n.mp q2)
    obtain ⟨n, hn', rfl⟩ := (inN_iff 60 (by decide)).mp ⟨q4, q3⟩
    rw [cl (show s < 2147483648 by omega), cl (show f < 2147483648 by omega), cl (show n < 2147483648 by omega)]
    obtain ⟨τ, hc, t1, t2, t3, t4, hF⟩ := x4_renew (E := E) (σ := σ) (s := s) (f := f) (n := n) (by omega)
    have hF' : Fr sSh σ τ := hF.mono (fun c i z => by unfold sSh; omega)
    refine ⟨vin (by omega) (by decide), τ, hc, _, rfl, rfl, h.sh hF' (fun s' hs' => ?_) rfl, shX hF'⟩
    show _ = bI (¬ upN (ht (aH A)) s true s' = true) ∧ _ = nI (upN (hf (aH A)) s f s') ∧ _ = nI (upN (hz (aH A)) s n s') ∧ ∀ i, i < 60 → _ = upN (hi (aH A)) s (fun _ => 0) s' i
    unfold upN
    by_cases z : s' = s
    · subst z
      simp only [if_pos]
      exact ⟨t1.trans (bI_f (fun y => y trivial)).symm, t2, t3, fun i hi => t4 i hi⟩
    · simp only [if_neg z]
      obtain ⟨g1, g2, g3, g4⟩ := h.2.2.2.1 s' hs'
      exact ⟨(hF _ _ (by omega)).trans g1, (hF _ _ (by omega)).trans g2, (hF _ _ (by omega)).trans g3, fun i hi => (hF _ _ (by omega)).trans (g4 i hi)⟩
  · rw [if_pos ⟨bI_n.mp q, bI_n.mp q2, q3⟩, if_neg q4]
    exact ⟨rfl, h.mark, fX Fr.rf (by decide)⟩
  · rw [if_neg (fun z => q3 z.2.2)]
    exact ⟨rfl, h, Fr.rf⟩
theorem x7_lose (h : StX A σ) (ho : okA A) (s : Int32) : ActX E mX7_lose [.ref 0, .int s] σ (aLose A s) := by
  unfold aLose
  refine C_X7_lose (tX7_lose_0 ⟨_, _, x7_isSheet, fun q => ?_, fun q => ⟨_, rfl, ?_⟩⟩)
  · rw [if_pos (bI_n.mp q)]
    obtain ⟨s, hs, rfl⟩ := (inN_iff 3 (by decide)).mp (bI_n.mp q)
    obtain ⟨g1, g2, g3, g4⟩ := h.2.2.2.1 s (by omega)
    rw [cl (show s < 2147483648 by omega), g1, g3]
    refine ⟨vin (by omega) (by decide), fun z => ⟨_, rfl, ?_⟩, fun z => ⟨_, _, x7_find, _, rfl, ?_⟩⟩
    · rw [if_pos (Decidable.of_not_not (bI_0.mp z))]
      have hF : Fr sSh σ (up σ (45 + 2 * s) 1 1) := Fr.rf.up ⟨by omega, by omega⟩
      refine ⟨rfl, h.sh hF (fun s' hs' => ?_) rfl, shX hF⟩
      obtain ⟨k1, k2, k3, k4⟩ := h.2.2.2.1 s' hs'
      refine ⟨?_, by rw [up_i (by decide)]; exact k2, by rw [up_i (by decide)]; exact k3, fun i hi' => by rw [up_c (by omega)]; exact k4 i hi'⟩
      show _ = bI (¬ (if s' = s then false else ht (aH A) s') = true)
      by_cases hs2 : s' = s
      · subst hs2
        rw [up_s]
        simp only [if_pos]
        exact (bI_t (by decide)).symm
      · rw [up_c (by omega)]
        simp only [if_neg hs2]
        exact k1
    · rw [if_neg (bI_n.mp z)]
      exact ⟨rfl, h.mark, fX Fr.rf (by decide)⟩
  · rw [if_neg (bI_0.mp q)]
    exact ⟨rfl, h, Fr.rf⟩
theorem x4_wrong (h : StX A σ) (ho : okA A) {s : Nat} (hs : s < 4) (f i : Int32) : Call E mX4_wrongWith [.ref (45 + 2 * s), .int f, .int i] σ (some (.int (nI (lackS (aH A) s f i)))) σ := by
  obtain ⟨g1, g2, g3, g4⟩ := h.2.2.2.1 s hs
  refine K_X4_wrongWith (tX4_wrongWith_0 (isSheetN s hs) ?_)
  rw [g1, g2, g3]
  unfold lackS
  refine ⟨fun z => ⟨fun z2 => ⟨fun z3 => ⟨?_, rfl⟩, fun z3 => ⟨fun z4 => ⟨?_, rfl⟩, fun z4 => ⟨?_, rfl⟩⟩⟩, fun z2 => ⟨?_, rfl⟩⟩, fun z => ⟨?_, rfl⟩⟩
  · rw [if_pos (Decidable.of_not_not (bI_0.mp z)), if_pos z2, if_neg (fun y => absurd z3 (Int32.not_lt.mpr y.1))]; rfl
  · rw [if_pos (Decidable.of_not_not (bI_0.mp z)), if_pos z2, if_pos ⟨Int32.not_lt.mp z3, z4⟩]; rfl
  · rw [if_pos (Decidable.of_not_not (bI_0.mp z)), if_pos z2, if_neg (fun y => z4 y.2)]; rfl
  · rw [if_pos (Decidable.of_not_not (bI_0.mp z)), if_neg z2]; rfl
  · rw [if_neg (bI_n.mp z)]; rfl
theorem x4_lowest {f : Nat} (hf' : f ≤ 2) (x : Int32) : Call E mX4_lowestBits [.int (nI f), .int x] σ (some (.int (nrS f x))) σ := by
  have e0 : nI f = 0 ↔ f = 0 := nI_eq' (show f < 2147483648 by omega) (show 0 < 2147483648 by decide)
  have e1 : nI f = 1 ↔ f = 1 := nI_eq' (show f < 2147483648 by omega) (show 1 < 2147483648 by decide)
  refine K_X4_lowestBits (tX4_lowestBits_0 ⟨fun z => ⟨fun z2 => ⟨?_, rfl⟩, fun z2 => ⟨?_, rfl⟩⟩, fun z => ⟨?_, rfl⟩⟩)
  · unfold nrS
    rw [if_neg (fun y => z (e0.mpr y)), if_neg (fun y => z2 (e1.mpr y))]
  · unfold nrS
    rw [if_neg (fun y => z (e0.mpr y)), if_pos (e1.mp z2)]
  · unfold nrS
    rw [if_pos (e0.mp z)]
theorem StX.item {s i : Nat} {x : Int32} (h : StX A σ) (hs : s < 4) : StX (putH A s i x) (up σ (45 + 2 * s + 1) i x) := by
  have hF : Fr sSh σ (up σ (45 + 2 * s + 1) i x) := Fr.rf.up ⟨by omega, by omega⟩
  refine h.sh hF (fun s' hs' => ?_) rfl
  obtain ⟨k1, k2, k3, k4⟩ := h.2.2.2.1 s' hs'
  refine ⟨by rw [up_c (by omega)]; exact k1, by rw [up_c (by omega)]; exact k2, by rw [up_c (by omega)]; exact k3, fun j hj => ?_⟩
  show _ = upN (hi (aH A)) s (upN (hi (aH A) s) i x) s' j
  unfold upN
  by_cases z : s' = s
  · subst z
    rw [if_pos rfl]
    by_cases z2 : j = i
    · rw [if_pos z2, z2, up_s]
    · rw [if_neg z2, up_i z2]
      exact k4 j hj
  · rw [if_neg z, up_c (by omega)]
    exact k4 j hj
theorem lackS_f {H : Sht} {s : Nat} {f i : Int32} (h : lackS H s f i = 0) : nI (hf H s) = f := by
  unfold lackS at h
  split at h
  · split at h
    · assumption
    · omega
  · omega
theorem x7_put (h : StX A σ) (ho : okA A) (s f i x : Int32) : ActX E mX7_put [.ref 0, .int s, .int f, .int i, .int x] σ (aPut A s f i x) := by
  unfold aPut
  refine C_X7_put (tX7_put_0 ⟨_, _, x7_isSheet, fun q => ⟨_, rfl, ?_⟩, fun q => ⟨_, _, x7_isForm, fun q2 => ?_, fun q2 => ⟨_, rfl, ?_⟩⟩⟩)
  · rw [if_neg (fun z => bI_0.mp q z.1)]
    exact ⟨rfl, h, Fr.rf⟩
  · rw [if_pos ⟨bI_n.mp q, bI_n.mp q2⟩]
    obtain ⟨s, hs, rfl⟩ := (inN_iff 3 (by decide)).mp (bI_n.mp q)
    obtain ⟨f, hf', rfl⟩ := (inN_iff 2 (by decide)).mp (bI_n.mp q2)
    rw [cl (show s < 2147483648 by omega)]
    have hle := lackS_le (aH A) s (nI f) i
    have hz60 := (ho.2.2.2.2.2 s (by omega))
    refine ⟨vin (by omega) (by decide), _, _, x4_wrong h ho (show s < 4 by omega) (nI f) i, fun z => ?_, fun z => ⟨_, _, x7_find, _, rfl, ?_⟩⟩
    · rw [show (0 : Int32) = nI 0 from rfl, nI_eq' (by omega) (by decide)] at z
      rw [if_pos z]
      have ef : hf (aH A) s = f := (nI_eq' (by omega) (by omega)).mp (lackS_f z)
      obtain ⟨i, hi', rfl⟩ := (isC_iff (by omega)).mp (lackS_0 z)
      rw [cl (show i < 2147483648 by omega), ef]
      exact ⟨_, _, x4_lowest hf' x, vin (by omega) (by decide), _, rfl, rfl, h.item (by omega), fX Fr.rf (by omega)⟩
    · rw [show (0 : Int32) = nI 0 from rfl, nI_eq' (by omega) (by decide)] at z
      rw [if_neg z]
      exact ⟨rfl, h.mark, fX Fr.rf (by decide)⟩
  · rw [if_neg (fun z => bI_0.mp q2 z.2)]
    exact ⟨rfl, h, Fr.rf⟩
theorem x7_get (h : StX A σ) (ho : okA A) (s f i : Int32) : ActX E mX7_get [.ref 0, .int s, .int f, .int i] σ (aGet A s f i) := by
  unfold aGet
  refine C_X7_get (tX7_get_0 ⟨_, _, x7_isSheet, fun q => ⟨_, rfl, ?_⟩, fun q => ⟨_, _, x7_isForm, fun q2 => ?_, fun q2 => ⟨_, rfl, ?_⟩⟩⟩)
  · rw [if_neg (fun z => bI_0.mp q z.1)]
    exact ⟨rfl, h, Fr.rf⟩
  · rw [if_pos ⟨bI_n.mp q, bI_n.mp q2⟩]
    obtain ⟨s, hs, rfl⟩ := (inN_iff 3 (by decide)).mp (bI_n.mp q)
    rw [cl (show s < 2147483648 by omega)]
    have hle := lackS_le (aH A) s f i
    have hz60 := (ho.2.2.2.2.2 s (by omega))
    refine ⟨vin (by omega) (by decide), _, _, x4_wrong h ho (show s < 4 by omega) f i, fun z => ?_, fun z => ⟨_, _, x7_find, _, rfl, ?_⟩⟩
    · rw [show (0 : Int32) = nI 0 from rfl, nI_eq' (by omega) (by decide)] at z
      rw [if_pos z]
      obtain ⟨i, hi', rfl⟩ := (isC_iff (by omega)).mp (lackS_0 z)
      rw [cl (show i < 2147483648 by omega)]
      exact ⟨vin (by omega) (by decide), _, rfl, (h.2.2.2.1 s (by omega)).2.2.2 i (by omega), h, Fr.rf⟩
    · rw [show (0 : Int32) = nI 0 from rfl, nI_eq' (by omega) (by decide)] at z
      rw [if_neg z]
      exact ⟨rfl, h.mark, fX Fr.rf (by decide)⟩
  · rw [if_neg (fun z => bI_0.mp q2 z.2)]
    exact ⟨rfl, h, Fr.rf⟩
theorem x4_has (h : StX A σ) (ho : okA A) {s : Nat} (hs : s < 4) (i n : Int32) : Call E mX4_hasItems [.ref (45 + 2 * s), .int i, .int n] σ (some (.int (bI (0 ≤ i ∧ 0 ≤ n ∧ i.toInt + n.toInt ≤ hz (aH A) s)))) σ := by
  obtain ⟨g1, g2, g3, g4⟩ := h.2.2.2.1 s hs
  have hz60 := (ho.2.2.2.2.2 s hs).2
  refine K_X4_hasItems (tX4_hasItems_0 (isSheetN s hs) ?_)
  rw [g3]
  refine ⟨fun z => ⟨?_, rfl⟩, fun z => ⟨fun z2 => ⟨?_, rfl⟩, fun z2 => ?_⟩⟩
  · rw [bI_f (fun y => absurd z (Int32.not_lt.mpr y.1))]
  · rw [bI_f (fun y => absurd z2 (Int32.not_lt.mpr y.2.1))]
  · obtain ⟨i, hi', rfl⟩ := nI_of z
    obtain ⟨n, hn', rfl⟩ := nI_of z2
    have e : nI (hz (aH A) s) - nI i < nI n ↔ ¬ (nI i).toInt + (nI n).toInt ≤ hz (aH A) s := by
      have eb : ((hz (aH A) s : Int) - (i : Int)).bmod (2 ^ 32) = (hz (aH A) s : Int) - (i : Int) := Int.bmod_eq_of_le (by omega) (by omega)
      rw [Int32.lt_iff_toInt_lt, Int32.toInt_sub, nI_toInt (show hz (aH A) s < 2147483648 by omega), nI_toInt hi', nI_toInt hn', eb]
      omega
    rw [e]
    refine ⟨fun z3 => ⟨?_, rfl⟩, fun z3 => ⟨?_, rfl⟩⟩
    · rw [bI_f (fun y => z3 y.2.2)]
    · rw [bI_t ⟨nI_pos' hi', nI_pos' hn', Decidable.of_not_not z3⟩]
theorem x7_copy (h : StX A σ) (ho : okA A) (s i t j n : Int32) : ActX E mX7_copy [.ref 0, .int s, .int i, .int t, .int j, .int n] σ (aCopy A s i t j n) := by
  unfold aCopy
  refine C_X7_copy (tX7_copy_0 ⟨_, _, x7_isSheet, fun q => ⟨_, rfl, ?_⟩, fun q => ⟨_, _, x7_isSheet, fun q2 => ?_, fun q2 => ⟨_, rfl, ?_⟩⟩⟩)
  · rw [if_neg (fun z => bI_0.mp q z.1)]
    exact ⟨rfl, h, Fr.rf⟩
  · rw [if_pos ⟨bI_n.mp q, bI_n.mp q2⟩]
    obtain ⟨s, hs, rfl⟩ := (inN_iff 3 (by decide)).mp (bI_n.mp q)
    obtain ⟨t, ht', rfl⟩ := (inN_iff 3 (by decide)).mp (bI_n.mp q2)
    obtain ⟨g1, g2, g3, g4⟩ := h.2.2.2.1 s (by omega)
    obtain ⟨k1, k2, k3, k4⟩ := h.2.2.2.1 t (by omega)
    have os := ho.2.2.2.2.2 s (by omega)
    have ot := ho.2.2.2.2.2 t (by omega)
    rw [cl (show s < 2147483648 by omega), cl (show t < 2147483648 by omega), g1, g2, k1, k2, nI_eq' (show hf (aH A) s < 2147483648 by omega) (show hf (aH A) t < 2147483648 by omega)]
    have mk : ∀ x : Int32, ∀ r : Int32 × AS, r = markA A x → PI (fun v σ' => v = r.1 ∧ StX r.2 σ' ∧ Fr sX σ σ') (some (.int ((-10) - x))) (up σ 0 12 x) := by
      intro x r hr
      subst hr
      exact ⟨_, rfl, rfl, h.mark, fX Fr.rf (by decide)⟩
    refine ⟨vin (by omega) (by decide), vin (by omega) (by decide), fun z => ⟨_, _, x7_find, mk 1 _ ?_⟩, fun z => ⟨fun z2 => ⟨fun z3 => ⟨_, _, x4_has h ho (by omega) i n, fun z4 => ⟨_, _, x7_find, mk 2 _ ?_⟩, fun z4 => ⟨_, _, x4_has h ho (by omega) j n, fun z5 => ?_, fun z5 => ⟨_, _, x7_find, mk 2 _ ?_⟩⟩⟩, fun z3 => ⟨_, _, x7_find, mk 4 _ ?_⟩⟩, fun z2 => ⟨_, _, x7_find, mk 1 _ ?_⟩⟩⟩
    · rw [if_neg (fun y => bI_n.mp z y.1)]
    · rw [if_pos ⟨Decidable.of_not_not (bI_0.mp z), Decidable.of_not_not (bI_0.mp z2)⟩, if_pos z3, if_neg (fun y => bI_0.mp z4 y.1)]
    · have z4 := bI_n.mp z4
      have z5 := bI_n.mp z5
      rw [if_pos ⟨Decidable.of_not_not (bI_0.mp z), Decidable.of_not_not (bI_0.mp z2)⟩, if_pos z3, if_pos ⟨z4, z5⟩]
      obtain ⟨i, hi', rfl⟩ := nI_of (Int32.not_lt.mpr z4.1)
      obtain ⟨j, hj', rfl⟩ := nI_of (Int32.not_lt.mpr z5.1)
      obtain ⟨n, hn', rfl⟩ := nI_of (Int32.not_lt.mpr z4.2.1)
      have z6 := z4.2.2
      have z7 := z5.2.2
      rw [nI_toInt hi', nI_toInt hn'] at z6
      rw [nI_toInt hj', nI_toInt hn'] at z7
      rw [cl hi', cl hj', cl hn']
      have hF : Fr sSh σ (upR σ (45 + 2 * t + 1) (va_cpy (σ (45 + 2 * s + 1)) (σ (45 + 2 * t + 1)) i j n)) := FrR Fr.rf (fun i => ⟨by omega, by omega⟩)
      refine ⟨Int32.not_lt.mpr z4.1, Int32.not_lt.mpr z5.1, Int32.not_lt.mpr z4.2.1, by omega, by omega, _, rfl, rfl, h.sh hF (fun s' hs' => ?_) rfl, shX hF⟩
      obtain ⟨p1, p2, p3, p4⟩ := h.2.2.2.1 s' hs'
      have un : ∀ c x, c ≠ 45 + 2 * t + 1 → upR σ (45 + 2 * t + 1) (va_cpy (σ (45 + 2 * s + 1)) (σ (45 + 2 * t + 1)) i j n) c x = σ c x := fun c x hc => if_neg hc
      refine ⟨by rw [un _ _ (by omega)]; exact p1, by rw [un _ _ (by omega)]; exact p2, by rw [un _ _ (by omega)]; exact p3, fun x hx => ?_⟩
      show _ = upN (hi (aH A)) t (fun k => if j ≤ k ∧ k < j + n then hi (aH A) s (i + (k - j)) else hi (aH A) t k) s' x
      unfold upN
      by_cases hst : s' = t
      · rw [if_pos hst, hst]
        show (if 45 + 2 * t + 1 = 45 + 2 * t + 1 then va_cpy (σ (45 + 2 * s + 1)) (σ (45 + 2 * t + 1)) i j n x else _) = _
        rw [if_pos rfl]
        unfold va_cpy
        by_cases y : j ≤ x ∧ x < j + n
        · rw [if_pos y, if_pos y]
          exact g4 _ (by omega)
        · rw [if_neg y, if_neg y]
          exact k4 x hx
      · rw [if_neg hst, un _ _ (by omega)]
        exact p4 x hx
    · rw [if_pos ⟨Decidable.of_not_not (bI_0.mp z), Decidable.of_not_not (bI_0.mp z2)⟩, if_pos z3, if_neg (fun y => bI_0.mp z5 y.2)]
    · rw [if_pos ⟨Decidable.of_not_not (bI_0.mp z), Decidable.of_not_not (bI_0.mp z2)⟩, if_neg z3]
    · rw [if_neg (fun y => bI_n.mp z2 y.2)]
  · rw [if_neg (fun z => bI_0.mp q2 z.2)]
    exact ⟨rfl, h, Fr.rf⟩
theorem x7_write (h : StX A σ) (ho : okA A) (k s : Int32) : ActX E mX7_write [.ref 0, .int k, .int s] σ (aWrite A k s) := by
  have hn : wn (aW A) ≤ 8 := (okA_W ho).1
  refine C_X7_write (tX7_write_0 ⟨_, _, x0_has isCpl2 h.cp _, fun q => ⟨_, rfl, ?_⟩, fun q => ⟨_, _, x7_isSheet, fun q2 => ?_, fun q2 => ⟨_, rfl, ?_⟩⟩⟩)
  · rw [show aWrite A k s = (-2, A) from if_neg (fun z => bI_0.mp q z.1)]
    exact ⟨rfl, h, Fr.rf⟩
  · rw [show aWrite A k s = (if ht (aH A) s.toNatClampNeg = true then (nI (wrN A s.toNatClampNeg), wrH A k.toNatClampNeg s.toNatClampNeg) else markA A 1) from if_pos ⟨bI_n.mp q, bI_n.mp q2⟩]
    obtain ⟨s, hs, rfl⟩ := (inN_iff 3 (by decide)).mp (bI_n.mp q2)
    obtain ⟨k, hk, rfl⟩ := (isC_iff (n := wn (aW A)) (by omega)).mp (bI_n.mp q)
    obtain ⟨g1, g2, g3, g4⟩ := h.2.2.2.1 s (by omega)
    have hz60 := (ho.2.2.2.2.2 s (by omega)).2
    rw [cl (show s < 2147483648 by omega), cl (show k < 2147483648 by omega), g1, g3]
    refine ⟨vin (by omega) (by decide), fun z => ?_, fun z => ⟨_, _, x7_find, _, rfl, ?_⟩⟩
    · rw [show (if ht (aH A) s = true then (nI (wrN A s), wrH A k s) else markA A 1) = (nI (wrN A s), wrH A k s) from if_pos (Decidable.of_not_not (bI_0.mp z))]
      have hN : wrN A s = min (hz (aH A) s) 20 := rfl
      have eN : (if 20 < nI (hz (aH A) s) then 20 else nI (hz (aH A) s)) = nI (wrN A s) := by
        rw [show (20 : Int32) = nI 20 from rfl]
        by_cases y : 20 < hz (aH A) s
        · rw [if_pos ((nI_lt' (by decide) (by omega)).mpr y), hN, show min (hz (aH A) s) 20 = 20 by omega]
        · rw [if_neg (fun y2 => y ((nI_lt' (by decide) (by omega)).mp y2)), hN, show min (hz (aH A) s) 20 = hz (aH A) s by omega]
      rw [eN]
      have loop : ∀ j (τ : Hp), j ≤ wrN A s → (StX (wrK A k s j) τ ∧ Fr sX σ τ) → Ru E mX7_write 55 [(0, .ref 0), (1, .int (nI k)), (2, .int (nI s)), (3, .ref (45 + 2 * s)), (4, .int (nI (wrN A s))), (5, .int (nI j))] [] τ (PI (fun v σ' => v = nI (wrN A s) ∧ StX (wrH A k s) σ' ∧ Fr sX σ σ')) := by
        refine for_up (wrN A s) _ _ ?_ ?_
        · intro j τ hj ⟨hS, hF⟩ ih
          have hok : okA (wrK A k s j) := okA_H ho ho.2.2.2.2.2
          obtain ⟨s1, hc1, hR1, hF1⟩ := x7_single (E := E) (A := wrK A k s j) (k := k) (d := j) hS hok hk (by omega)
          have hS1 := hS.q (hF1.mono (fun c i z => oc_q z))
          have hF1' : Fr sX σ s1 := hF.tr (hF1.mono (fun c i z => sqX_X (oc_q z)))
          have e5 : s1 39 5 = nI (ga (rr (aW A) allE k j)) := hR1.2.2.2.2.2.1
          have hnx := ih (up s1 (45 + 2 * s + 1) j (nI (ga (rr (aW A) allE k j)))) ⟨by rw [wrK_1]; exact hS1.item (by omega), fX hF1' (by omega)⟩
          refine tX7_write_55 (isSheetN s (by omega)) ?_
          rw [cl (show j < 2147483648 by omega), nI_1]
          refine ⟨fun y => ?_, fun _ => ⟨_, _, x1_all isEvt12 hS.ev hok.2.2.1, s1, hc1, vin (by omega) (by decide), ?_⟩⟩
          · rw [nI_le' (by omega) (by omega)] at y; omega
          · rw [e5]; exact hnx
        · intro τ ⟨hS, hF⟩
          exact tX7_write_55 (isSheetN s (by omega)) ⟨fun _ => ⟨_, rfl, rfl, hS, hF⟩, fun y => absurd (Int32.le_refl _) y⟩
      exact loop 0 σ (Nat.zero_le _) ⟨by rw [wrK_0]; exact h, Fr.rf⟩
    · rw [if_neg (bI_n.mp z)]
      exact ⟨rfl, h.mark, fX Fr.rf (by decide)⟩
  · rw [show aWrite A k s = (-2, A) from if_neg (fun z => bI_0.mp q2 z.2)]
    exact ⟨rfl, h, Fr.rf⟩
theorem cl_nI {n : Nat} {R : Nat → Rg} (hn : n ≤ 8) : ∃ X, X < 256 ∧ clS n R = nI X ∧ popc X = clN n R := by
  have hl := bsN_lt (fun k => decide (ga (R k) = 4)) n
  have h2 : 2 ^ n ≤ 2 ^ 8 := Nat.pow_le_pow_right (by decide) hn
  have e : clS n R = nI (bsN (fun k => decide (ga (R k) = 4)) n) := by
    unfold clS
    exact bs_N _ n (by omega)
  refine ⟨_, by omega, e, ?_⟩
  rw [← ones_cl hn, e]
  unfold popc
  refine ct_congr (fun k hk => ?_)
  rw [bt_nI (by omega) (by omega)]
theorem x7_count (h : StX A σ) (ho : okA A) (w : Int32) : AnsX E mX7_count [.ref 0, .int w] σ (cnA A w) := by
  have hW := okA_W ho
  have hn : wn (aW A) ≤ 8 := hW.1
  refine C_X7_count (tX7_count_0 ⟨fun q => ⟨_, rfl, ?_, Fr.rf⟩, fun q => ⟨_, rfl, ?_, Fr.rf⟩, fun q => ⟨_, rfl, ?_, Fr.rf⟩, fun q => ?_, fun q => ?_, fun q => ?_, fun q => ?_, fun q => ⟨_, rfl, ?_, Fr.rf⟩, fun q => ⟨_, rfl, ?_, Fr.rf⟩, fun ⟨q0, q1, q2, q3, q4, q5, q6, q7, q8⟩ => ⟨_, rfl, ?_, Fr.rf⟩⟩)
  · subst q
    unfold cnA
    rw [if_pos rfl]
    exact h.cp.1
  · subst q
    unfold cnA
    rw [if_neg (by decide), if_pos rfl]
    exact h.1.1
  · subst q
    unfold cnA
    rw [if_neg (by decide), if_neg (by decide), if_pos rfl]
    exact h.2.1.1
  · subst q
    obtain ⟨v, s, hc, hv, hF⟩ := x7_pairs (E := E) h ho 19 0
    refine ⟨_, _, hc, _, rfl, ?_, hF⟩
    unfold cnA
    rw [if_neg (by decide), if_neg (by decide), if_neg (by decide), if_pos rfl]
    exact hv.trans (if_pos (by decide))
  · subst q
    obtain ⟨v, s, hc, hv, hF⟩ := x7_pairs (E := E) h ho 19 1
    refine ⟨_, _, hc, _, rfl, ?_, hF⟩
    unfold cnA
    rw [if_neg (by decide), if_neg (by decide), if_neg (by decide), if_neg (by decide), if_pos rfl]
    exact hv.trans (if_pos (by decide))
  · subst q
    obtain ⟨v, s, hc, hv, hF⟩ := x7_closed (E := E) h ho 19
    have hv : v = clS (wn (aW A)) (fun k => rr (aW A) allE k 19) := hv.trans (if_pos (by decide))
    obtain ⟨X, hX, e, hp⟩ := cl_nI (R := fun k => rr (aW A) allE k 19) hn
    rw [hv, e] at hc
    refine ⟨_, _, hc, _, _, j6_bitCount hX, _, rfl, ?_, hF⟩
    unfold cnA
    rw [if_neg (by decide), if_neg (by decide), if_neg (by decide), if_neg (by decide), if_neg (by decide), if_pos rfl, hp]
  · subst q
    obtain ⟨s, hc, hT, hF⟩ := x7_comeTo (E := E) h ho (show 19 < 20 by decide)
    refine ⟨s, hc, _, _, x6_sighs hT (okT_W hW), _, rfl, ?_, hF.mono (fun c i z => sTw_q z)⟩
    unfold cnA
    rw [if_neg (by decide), if_neg (by decide), if_neg (by decide), if_neg (by decide), if_neg (by decide), if_neg (by decide), if_pos rfl]
  · subst q
    unfold cnA
    rw [if_neg (by decide), if_neg (by decide), if_neg (by decide), if_neg (by decide), if_neg (by decide), if_neg (by decide), if_neg (by decide), if_pos rfl]
    exact h.2.2.1.1
  · subst q
    unfold cnA
    rw [if_neg (by decide), if_neg (by decide), if_neg (by decide), if_neg (by decide), if_neg (by decide), if_neg (by decide), if_neg (by decide), if_neg (by decide), if_pos rfl]
    exact h.2.2.2.2
  · unfold cnA
    rw [if_neg q0, if_neg q1, if_neg q2, if_neg q3, if_neg q4, if_neg q5, if_neg q6, if_neg q7, if_neg q8]
end XSH
