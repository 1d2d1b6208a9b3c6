/-! THE REFERENCE: sightings, sheets, count, couple -/
section MN
variable {E : Ev} {σ : Hp} {A : AS}
theorem m_seen (h : StM A σ) (ho : okA A) (d k x y : Int32) : ActM E mX8_seen [.ref 53, .int d, .int k, .int x, .int y] σ (aSeen A d k x y) := by
  have h8 := ho.2.2.2.2.1.1
  have e8 : nI (sc (aS A)) = 8 ↔ sc (aS A) = 8 := nI_eq' (show sc (aS A) < 2147483648 by omega) (show 8 < 2147483648 by decide)
  unfold aSeen
  refine C_X8_seen (tX8_seen_0 ⟨_, _, c8_isDay, fun q => ⟨_, rfl, ?_⟩, fun q => ⟨_, _, c8_isEight, fun q2 => ⟨_, rfl, ?_⟩, fun q2 => ⟨_, _, c8_in, fun q3 => ⟨_, rfl, ?_⟩, fun q3 => ⟨_, _, c8_in, fun q4 => ?_, fun q4 => ⟨_, rfl, ?_⟩⟩⟩⟩⟩)
  · rw [if_neg (fun z => bI_0.mp q z.1)]
    exact ⟨rfl, h, Fr.rf⟩
  · rw [if_neg (fun z => bI_0.mp q2 z.2.1)]
    exact ⟨rfl, h, Fr.rf⟩
  · rw [if_neg (fun z => bI_0.mp q3 z.2.2.1)]
    exact ⟨rfl, h, Fr.rf⟩
  · have q := bI_n.mp q
    have q2 := bI_n.mp q2
    have q3 := bI_n.mp q3
    have q4 := bI_n.mp q4
    rw [if_pos ⟨q, q2, q3, q4⟩, h.2.2.1.1, cl (show sc (aS A) < 2147483648 by omega), nI_1]
    refine ⟨fun z => ⟨vin (by have : ¬ sc (aS A) = 8 := fun y => z (e8.mpr y); omega) (by decide), _, rfl, ?_⟩, fun z => ⟨_, rfl, ?_⟩⟩
    · have hne : ¬ sc (aS A) = 8 := fun y => z (e8.mpr y)
      rw [if_neg hne]
      obtain ⟨d, hd, rfl⟩ := (inN_iff 19 (by decide)).mp q
      obtain ⟨k, hk, rfl⟩ := (inN_iff 7 (by decide)).mp q2
      rw [cl (show k < 2147483648 by omega), cl (show d < 2147483648 by omega)]
      refine ⟨rfl, ⟨⟨by simp [up]; exact h.1.1, fun i hi => by simp [up]; exact h.1.2 i hi⟩, ⟨by simp [up]; exact h.2.1.1, fun e he f hf => ?_⟩, ⟨by simp [up], fun i hi => ?_⟩, fun s hs => ?_, by simp [up]; exact h.2.2.2.2⟩, fM (fM (fM (fM (fM Fr.rf (by decide)) (by decide)) (by decide)) (by decide)) (by decide)⟩
      · rw [up_c (by omega), up_c (by omega), up_c (by omega), up_c (by omega), up_c (by omega)]
        exact h.2.1.2 e he f hf
      · show _ = nI (if i = sc (aS A) then d else sd (aS A) i) ∧ _ = nI (if i = sc (aS A) then k else sh (aS A) i) ∧ _ = (if i = sc (aS A) then x else sx (aS A) i) ∧ _ = (if i = sc (aS A) then y else sy (aS A) i)
        by_cases hi2 : i = sc (aS A)
        · rw [if_pos hi2, if_pos hi2, if_pos hi2, if_pos hi2, hi2]
          exact ⟨by simp [up], by simp [up], by simp [up], by simp [up]⟩
        · rw [if_neg hi2, if_neg hi2, if_neg hi2, if_neg hi2]
          obtain ⟨g1, g2, g3, g4⟩ := h.2.2.1.2 i (by have : i < sc (aS A) + 1 := hi; omega)
          exact ⟨by simp [up, hi2]; exact g1, by simp [up, hi2]; exact g2, by simp [up, hi2]; exact g3, by simp [up, hi2]; exact g4⟩
      · obtain ⟨g1, g2, g3, g4⟩ := h.2.2.2.1 s hs
        exact ⟨by simp [up]; exact g1, by simp [up]; exact g2, by simp [up]; exact g3, fun i hi => by simp [up]; exact g4 i hi⟩
    · rw [if_pos (e8.mp z)]
      exact ⟨rfl, h, Fr.rf⟩
  · rw [if_neg (fun z => bI_0.mp q4 z.2.2.2)]
    exact ⟨rfl, h, Fr.rf⟩
theorem m_forget (h : StM A σ) (ho : okA A) : ActM E mX8_forget [.ref 53] σ (aForget A) := by
  refine C_X8_forget (tX8_forget_0 ⟨_, rfl, h.2.2.1.1, ⟨⟨by simp [up]; exact h.1.1, fun i hi => by simp [up]; exact h.1.2 i hi⟩, ⟨by simp [up]; exact h.2.1.1, fun e he f hf => by rw [up_c (by omega)]; exact h.2.1.2 e he f hf⟩, ⟨by rw [up_s]; rfl, fun i hi => absurd hi (Nat.not_lt_zero i)⟩, fun s hs => ?_, by simp [up]; exact h.2.2.2.2⟩, fM Fr.rf (by decide)⟩)
  obtain ⟨g1, g2, g3, g4⟩ := h.2.2.2.1 s hs
  exact ⟨by simp [up]; exact g1, by simp [up]; exact g2, by simp [up]; exact g3, fun i hi => by simp [up]; exact g4 i hi⟩
/-- other sheets -/
theorem StM.sh {H : Sht} {τ : Hp} (h : StM A σ) (hF : Fr (fun c i => 86 ≤ c ∧ c ≤ 90) σ τ) (hS : ∀ s, s < 4 → τ 86 s = bI (ht H s = true) ∧ τ 87 s = nI (hf H s) ∧ τ 88 s = nI (hz H s) ∧ ∀ i, i < 60 → τ 89 (60 * s + i) = hi H s i) (hl' : hl H = hl (aH A)) : StM (setH A H) τ := by
  refine ⟨⟨by rw [hF _ _ (by omega)]; exact h.1.1, fun i hi => by rw [hF _ _ (by omega)]; exact h.1.2 i hi⟩, ⟨by rw [hF _ _ (by omega)]; exact h.2.1.1, fun e he f hf => by rw [hF _ _ (by omega)]; exact h.2.1.2 e he f hf⟩, ⟨by rw [hF _ _ (by omega)]; exact h.2.2.1.1, fun i hi => ?_⟩, hS, by rw [hF _ _ (by omega)]; show _ = hl H; rw [hl']; exact h.2.2.2.2⟩
  rw [hF 81 i (by omega), hF 82 i (by omega), hF 83 i (by omega), hF 84 i (by omega)]
  exact h.2.2.1.2 i hi
theorem m_sheet (h : StM A σ) (ho : okA A) (s f n : Int32) : ActM E mX8_sheet [.ref 53, .int s, .int f, .int n] σ (aSheet A s f n) := by
  unfold aSheet
  refine C_X8_sheet (tX8_sheet_0 ⟨_, _, c8_isSheet, fun q => ⟨_, rfl, ?_⟩, fun q => ⟨_, _, c8_in, fun q2 => ⟨_, rfl, ?_⟩, fun q2 => ⟨fun q3 => ⟨fun q4 => ?_, fun q4 => ⟨_, _, c8_marks, _, rfl, ?_⟩⟩, fun q3 => ⟨_, rfl, ?_⟩⟩⟩⟩)
  · rw [if_neg (fun z => bI_0.mp q z.1)]
    exact ⟨rfl, h, Fr.rf⟩
  · rw [if_neg (fun z => bI_0.mp q2 z.2.1)]
    exact ⟨rfl, h, Fr.rf⟩
  · have q := bI_n.mp q
    have q2 := bI_n.mp q2
    rw [if_pos ⟨q, q2, q3⟩, if_pos q4]
    obtain ⟨s, hs, rfl⟩ := (inN_iff 3 (by decide)).mp q
    obtain ⟨f, hf', rfl⟩ := (inN_iff 2 (by decide)).mp q2
    obtain ⟨n, hn, rfl⟩ := (inN_iff 60 (by decide)).mp ⟨q4, q3⟩
    rw [cl (show s < 2147483648 by omega), cl (show f < 2147483648 by omega), cl (show n < 2147483648 by omega)]
    refine ⟨vin (by omega) (by decide), ?_⟩
    have loop : ∀ i (τ : Hp), i ≤ 60 → (Fr (fun c i => 86 ≤ c ∧ c ≤ 90) σ τ ∧ (∀ s', s' < 4 → τ 86 s' = bI (upN (ht (aH A)) s true s' = true) ∧ τ 87 s' = nI (upN (hf (aH A)) s f s') ∧ τ 88 s' = nI (upN (hz (aH A)) s n s')) ∧ (∀ s', s' < 4 → s' ≠ s → ∀ j, j < 60 → τ 89 (60 * s' + j) = hi (aH A) s' j) ∧ (∀ j, j < i → τ 89 (60 * s + j) = 0)) →
        Ru E mX8_sheet 59 [(0, .ref 53), (1, .int (nI s)), (2, .int (nI f)), (3, .int (nI n)), (4, .int (nI i))] [] τ (PI (fun v σ' => v = nI n ∧ StM (setH A (upN (ht (aH A)) s true, upN (hf (aH A)) s f, upN (hz (aH A)) s n, upN (hi (aH A)) s (fun _ => 0), hl (aH A))) σ' ∧ Fr sM σ σ')) := by
      refine for_up 60 _ _ ?_ ?_
      · intro i τ hi' ⟨hF, h1, h2, h3⟩ ih
        refine tX8_sheet_59 ?_
        rw [ix60, cl (show 60 * s + i < 2147483648 by omega), nI_1]
        refine ⟨fun z => ?_, fun _ => ⟨vin (by omega) (by decide), ih _ ⟨hF.up ⟨by decide, by decide⟩, fun s' hs' => ?_, fun s' hs' hne j hj => ?_, fun j hj => ?_⟩⟩⟩
        · rw [show (60 : Int32) = nI 60 from rfl, nI_le' (by decide) (by omega)] at z; omega
        · obtain ⟨a, b, c⟩ := h1 s' hs'
          exact ⟨by simp [up]; exact a, by simp [up]; exact b, by simp [up]; exact c⟩
        · rw [up_i (by omega)]
          exact h2 s' hs' hne j hj
        · rcases Nat.lt_or_ge j i with y | y
          · rw [up_i (by omega)]
            exact h3 j y
          · rw [show j = i by omega, up_s]
      · intro τ ⟨hF, h1, h2, h3⟩
        refine tX8_sheet_59 ⟨fun _ => ⟨_, rfl, rfl, h.sh hF (fun s' hs' => ⟨(h1 s' hs').1, (h1 s' hs').2.1, (h1 s' hs').2.2, fun i hi' => ?_⟩) rfl, hF.mono (fun c i z => by unfold sM; omega)⟩, fun z => absurd (by decide) z⟩
        show _ = upN (hi (aH A)) s (fun _ => 0) s' i
        unfold upN
        by_cases hs2 : s' = s
        · rw [if_pos hs2, hs2]
          exact h3 i hi'
        · rw [if_neg hs2]
          exact h2 s' hs' hs2 i hi'
    refine loop 0 _ (Nat.zero_le _) ⟨((Fr.rf.up ⟨by decide, by decide⟩).up ⟨by decide, by decide⟩).up ⟨by decide, by decide⟩, fun s' hs' => ?_, fun s' hs' hne j hj => ?_, fun j hj => by omega⟩
    · obtain ⟨g1, g2, g3, g4⟩ := h.2.2.2.1 s' hs'
      unfold upN
      by_cases hs2 : s' = s
      · subst hs2
        rw [if_pos rfl, if_pos rfl, if_pos rfl]
        exact ⟨by simp [up]; rfl, by simp [up], by simp [up]⟩
      · rw [if_neg hs2, if_neg hs2, if_neg hs2]
        exact ⟨by simp [up, hs2]; exact g1, by simp [up, hs2]; exact g2, by simp [up, hs2]; exact g3⟩
    · rw [up_c (by decide), up_c (by decide), up_c (by decide)]
      exact (h.2.2.2.1 s' hs').2.2.2 j hj
  · have q := bI_n.mp q
    have q2 := bI_n.mp q2
    rw [if_pos ⟨q, q2, q3⟩, if_neg q4]
    exact ⟨rfl, h.mark, fM Fr.rf (by decide)⟩
  · rw [if_neg (fun z => q3 z.2.2)]
    exact ⟨rfl, h, Fr.rf⟩
theorem m_lose (h : StM A σ) (ho : okA A) (s : Int32) : ActM E mX8_lose [.ref 53, .int s] σ (aLose A s) := by
  unfold aLose
  refine C_X8_lose (tX8_lose_0 ⟨_, _, c8_isSheet, fun q => ?_, fun q => ⟨_, rfl, ?_⟩⟩)
  · have q := bI_n.mp q
    rw [if_pos q]
    obtain ⟨s, hs, rfl⟩ := (inN_iff 3 (by decide)).mp q
    obtain ⟨g1, g2, g3, g4⟩ := h.2.2.2.1 s (by omega)
    rw [cl (show s < 2147483648 by omega), g1, g3]
    refine ⟨vin (by omega) (by decide), fun z => ⟨_, rfl, ?_⟩, fun z => ⟨_, _, c8_marks, _, rfl, ?_⟩⟩
    · rw [if_pos (bI_n.mp z)]
      refine ⟨rfl, h.sh (Fr.rf.up ⟨by decide, by decide⟩) (fun s' hs' => ?_) rfl, fM Fr.rf (by decide)⟩
      obtain ⟨k1, k2, k3, k4⟩ := h.2.2.2.1 s' hs'
      refine ⟨?_, by simp [up]; exact k2, by simp [up]; exact k3, fun i hi' => by simp [up]; exact k4 i hi'⟩
      show _ = bI ((if s' = s then false else ht (aH A) s') = true)
      by_cases hs2 : s' = s
      · subst hs2
        rw [if_pos rfl, up_s]; rfl
      · rw [up_i hs2]
        simp only [if_neg hs2]
        exact k1
    · rw [if_neg (bI_0.mp z)]
      exact ⟨rfl, h.mark, fM Fr.rf (by decide)⟩
  · rw [if_neg (bI_0.mp q)]
    exact ⟨rfl, h, Fr.rf⟩
theorem c8_lacks (h : StM A σ) (ho : okA A) {s : Nat} (hs : s < 4) (f i : Int32) : Call E mX8_lacks [.ref 53, .int (nI s), .int f, .int i] σ (some (.int (nI (lackS (aH A) s f i)))) σ := by
  obtain ⟨g1, g2, g3, g4⟩ := h.2.2.2.1 s hs
  have hz60 := (ho.2.2.2.2.2 s hs).2
  refine K_X8_lacks (tX8_lacks_0 ?_)
  rw [cl (show s < 2147483648 by omega), g1, g2, g3]
  unfold lackS
  have e : (0 ≤ i ∧ i ≤ nI (hz (aH A) s) - 1) ↔ (0 ≤ i ∧ i < nI (hz (aH A) s)) := by
    rw [Int32.le_iff_toInt_le (y := nI (hz (aH A) s) - 1), Int32.lt_iff_toInt_lt, show (1 : Int32) = nI 1 from rfl, pk_sub_toInt (by omega) (by decide), nI_toInt (by omega)]
    constructor <;> (intro z; refine ⟨z.1, ?_⟩; omega)
  refine ⟨vin hs (by decide), fun z => ⟨fun z2 => ⟨_, _, c8_in, fun z3 => ⟨?_, rfl⟩, fun z3 => ⟨?_, rfl⟩⟩, fun z2 => ⟨?_, rfl⟩⟩, fun z => ⟨?_, rfl⟩⟩
  · rw [if_pos (bI_n.mp z), if_pos z2, if_neg (fun y => bI_0.mp z3 (e.mpr y))]; rfl
  · rw [if_pos (bI_n.mp z), if_pos z2, if_pos (e.mp (bI_n.mp z3))]; rfl
  · rw [if_pos (bI_n.mp z), if_neg z2]; rfl
  · rw [if_neg (bI_0.mp z)]; rfl
theorem c8_keep (h : StM A σ) (ho : okA A) {s i : Nat} (hs : s < 4) (hi' : i < 60) (x : Int32) : ∃ σ' : Hp, Call E mX8_keep [.ref 53, .int (nI s), .int (nI i), .int x] σ none σ' ∧ (StM (putH A s i (nrS (hf (aH A) s) x)) σ' ∧ Fr (fun c j => c = 89 ∧ j = 60 * s + i) σ σ') := by
  obtain ⟨g1, g2, g3, g4⟩ := h.2.2.2.1 s hs
  have h2 := (ho.2.2.2.2.2 s hs).1
  have e0 : nI (hf (aH A) s) = 0 ↔ hf (aH A) s = 0 := nI_eq' (show hf (aH A) s < 2147483648 by omega) (show 0 < 2147483648 by decide)
  have e1 : nI (hf (aH A) s) = 1 ↔ hf (aH A) s = 1 := nI_eq' (show hf (aH A) s < 2147483648 by omega) (show 1 < 2147483648 by decide)
  have key : ∀ y : Int32, StM (putH A s i y) (up σ 89 (60 * s + i) y) := by
    intro y
    refine h.sh (Fr.rf.up ⟨by decide, by decide⟩) (fun s' hs' => ?_) rfl
    obtain ⟨k1, k2, k3, k4⟩ := h.2.2.2.1 s' hs'
    refine ⟨by simp [up]; exact k1, by simp [up]; exact k2, by simp [up]; exact k3, fun j hj => ?_⟩
    show _ = upN (hi (aH A)) s (upN (hi (aH A) s) i y) s' j
    unfold upN
    by_cases hs2 : s' = s
    · subst hs2
      rw [if_pos rfl]
      by_cases hj2 : j = i
      · subst hj2
        rw [if_pos rfl, up_s]
      · rw [if_neg hj2, up_i (by omega)]
        exact k4 j hj
    · rw [if_neg hs2, up_i (by omega)]
      exact k4 j hj
  refine C_X8_keep (tX8_keep_0 ?_)
  rw [cl (show s < 2147483648 by omega), g2, ix60, cl (show 60 * s + i < 2147483648 by omega)]
  have hv : vp_in (nI (60 * s + i)) 240 := vin (by omega) (by decide)
  have fr : ∀ y, Fr (fun c j => c = 89 ∧ j = 60 * s + i) σ (up σ 89 (60 * s + i) y) := fun y => Fr.rf.up ⟨rfl, rfl⟩
  refine ⟨vin hs (by decide), fun z => ⟨fun z2 => ⟨hv, rfl, ?_, fr _⟩, fun z2 => ⟨hv, rfl, ?_, fr _⟩⟩, fun z => ⟨hv, rfl, ?_, fr _⟩⟩
  · have : nrS (hf (aH A) s) x = x := by
      unfold nrS
      rw [if_neg (fun y => z (e0.mpr y)), if_neg (fun y => z2 (e1.mpr y))]
    rw [this]
    exact key _
  · have : nrS (hf (aH A) s) x = x.toInt16.toInt32 := by
      unfold nrS
      rw [if_neg (fun y => z (e0.mpr y)), if_pos (e1.mp z2)]
    rw [this]
    exact key _
  · have : nrS (hf (aH A) s) x = x.toInt8.toInt32 := by
      unfold nrS
      rw [if_pos (e0.mp z)]
    rw [this]
    exact key _
theorem lackS_le (H : Sht) (s : Nat) (f i : Int32) : lackS H s f i ≤ 3 := by
  unfold lackS
  repeat' split
  all_goals omega
theorem lackS_0 {H : Sht} {s : Nat} {f i : Int32} (h : lackS H s f i = 0) : 0 ≤ i ∧ i < nI (hz H s) := by
  unfold lackS at h
  split at h
  · split at h
    · split at h
      · assumption
      · omega
    · omega
  · omega
theorem m_put (h : StM A σ) (ho : okA A) (s f i x : Int32) : ActM E mX8_put [.ref 53, .int s, .int f, .int i, .int x] σ (aPut A s f i x) := by
  unfold aPut
  refine C_X8_put (tX8_put_0 ⟨_, _, c8_isSheet, fun q => ⟨_, rfl, ?_⟩, fun q => ⟨_, _, c8_in, fun q2 => ?_, fun q2 => ⟨_, rfl, ?_⟩⟩⟩)
  · rw [if_neg (fun z => bI_0.mp q z.1)]
    exact ⟨rfl, h, Fr.rf⟩
  · have q := bI_n.mp q
    have q2 := bI_n.mp q2
    rw [if_pos ⟨q, q2⟩]
    obtain ⟨s, hs, rfl⟩ := (inN_iff 3 (by decide)).mp q
    rw [cl (show s < 2147483648 by omega)]
    have hle := lackS_le (aH A) s f i
    have hz60 := (ho.2.2.2.2.2 s (by omega)).2
    refine ⟨_, _, c8_lacks h ho (show s < 4 by omega) f i, fun z => ?_, fun z => ⟨_, _, c8_marks, _, rfl, ?_⟩⟩
    · rw [show (0 : Int32) = nI 0 from rfl, nI_le' (by omega) (by decide)] at z
      have z0 : lackS (aH A) s f i = 0 := by omega
      rw [if_pos z0]
      obtain ⟨i, hi', rfl⟩ := (isC_iff (by omega)).mp (lackS_0 z0)
      rw [cl (show i < 2147483648 by omega)]
      obtain ⟨τ, hc, hS, hF⟩ := c8_keep (E := E) h ho (show s < 4 by omega) (show i < 60 by omega) x
      exact ⟨τ, hc, _, rfl, rfl, hS, hF.mono (fun c i z => by unfold sM; omega)⟩
    · rw [show (0 : Int32) = nI 0 from rfl, nI_le' (by omega) (by decide)] at z
      rw [if_neg (by omega)]
      exact ⟨rfl, h.mark, fM Fr.rf (by decide)⟩
  · rw [if_neg (fun z => bI_0.mp q2 z.2)]
    exact ⟨rfl, h, Fr.rf⟩
theorem m_get (h : StM A σ) (ho : okA A) (s f i : Int32) : ActM E mX8_get [.ref 53, .int s, .int f, .int i] σ (aGet A s f i) := by
  unfold aGet
  refine C_X8_get (tX8_get_0 ⟨_, _, c8_isSheet, fun q => ⟨_, rfl, ?_⟩, fun q => ⟨_, _, c8_in, fun q2 => ?_, fun q2 => ⟨_, rfl, ?_⟩⟩⟩)
  · rw [if_neg (fun z => bI_0.mp q z.1)]
    exact ⟨rfl, h, Fr.rf⟩
  · have q := bI_n.mp q
    have q2 := bI_n.mp q2
    rw [if_pos ⟨q, q2⟩]
    obtain ⟨s, hs, rfl⟩ := (inN_iff 3 (by decide)).mp q
    rw [cl (show s < 2147483648 by omega)]
    have hle := lackS_le (aH A) s f i
    have hz60 := (ho.2.2.2.2.2 s (by omega)).2
    refine ⟨_, _, c8_lacks h ho (show s < 4 by omega) f i, fun z => ?_, fun z => ⟨_, rfl, ?_⟩⟩
    · rw [show (0 : Int32) = nI 0 from rfl, nI_le' (by omega) (by decide)] at z
      have z0 : lackS (aH A) s f i = 0 := by omega
      rw [if_pos z0]
      obtain ⟨i, hi', rfl⟩ := (isC_iff (by omega)).mp (lackS_0 z0)
      rw [ix60, cl (show i < 2147483648 by omega), cl (show 60 * s + i < 2147483648 by omega)]
      exact ⟨vin (by omega) (by decide), _, rfl, (h.2.2.2.1 s (by omega)).2.2.2 i (by omega), h, Fr.rf⟩
    · rw [show (0 : Int32) = nI 0 from rfl, nI_le' (by omega) (by decide)] at z
      rw [if_neg (by omega)]
      exact ⟨rfl, h.mark, fM Fr.rf (by decide)⟩
  · rw [if_neg (fun z => bI_0.mp q2 z.2)]
    exact ⟨rfl, h, Fr.rf⟩
end MN
