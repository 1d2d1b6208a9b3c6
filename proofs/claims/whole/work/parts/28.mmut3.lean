/-! THE REFERENCE: copy, write, count, couple -/
section MC
variable {E : Ev} {σ : Hp} {A : AS}
theorem lgc_gt {x y : Int64} : 0 < lg_cmp x y ↔ y < x := by
  unfold lg_cmp
  by_cases h : y < x
  · rw [if_pos h]; exact ⟨fun _ => h, fun _ => by decide⟩
  · rw [if_neg h]
    split
    · exact ⟨fun z => absurd z (by decide), fun z => absurd z h⟩
    · exact ⟨fun z => absurd z (by decide), fun z => absurd z h⟩
theorem lgc_le {x y : Int64} : lg_cmp x y ≤ 0 ↔ ¬ y < x := by
  rw [← lgc_gt]
  exact Int32.not_lt.symm
theorem sum64 {a b : Int32} {z : Nat} (ha : 0 ≤ a) (hb : 0 ≤ b) (hz' : z < 2147483648) : (nI z).toInt64 < a.toInt64 + b.toInt64 ↔ ¬ a.toInt + b.toInt ≤ z := by
  obtain ⟨m, hm, e⟩ := nI_of (Int32.not_lt.mpr ha)
  obtain ⟨n, hn, e2⟩ := nI_of (Int32.not_lt.mpr hb)
  subst e e2
  rw [nI_l hm, nI_l hn, nI_l hz', lN_add, pk_lLT (by omega) (by omega), nI_toInt hm, nI_toInt hn]
  omega
theorem m_copy (h : StM A σ) (ho : okA A) (s i t j n : Int32) : ActM E mX8_copy [.ref 53, .int s, .int i, .int t, .int j, .int n] σ (aCopy A s i t j n) := by
  unfold aCopy
  refine C_X8_copy (tX8_copy_0 ⟨_, _, c8_isSheet, fun q => ⟨_, rfl, ?_⟩, fun q => ⟨_, _, c8_isSheet, fun q2 => ?_, fun q2 => ⟨_, rfl, ?_⟩⟩⟩)
  · rw [if_neg (fun z => bI_0.mp q z.1)]
    exact ⟨rfl, h, Fr.rf⟩
  · have q := bI_n.mp q
    have q2 := bI_n.mp q2
    rw [if_pos ⟨q, q2⟩]
    obtain ⟨s, hs, rfl⟩ := (inN_iff 3 (by decide)).mp q
    obtain ⟨t, ht', rfl⟩ := (inN_iff 3 (by decide)).mp q2
    obtain ⟨g1, g2, g3, g4⟩ := h.2.2.2.1 s (by omega)
    obtain ⟨k1, k2, k3, k4⟩ := h.2.2.2.1 t (by omega)
    have os := ho.2.2.2.2.2 s (by omega)
    have ot := ho.2.2.2.2.2 t (by omega)
    rw [cl (show s < 2147483648 by omega), cl (show t < 2147483648 by omega), g1, g2, g3, k1, k2, k3, nI_eq' (show hf (aH A) s < 2147483648 by omega) (show hf (aH A) t < 2147483648 by omega)]
    have mk : ∀ x : Int32, ∀ r : Int32 × AS, r = markA A x → PI (fun v σ' => v = r.1 ∧ StM r.2 σ' ∧ Fr sM σ σ') (some (.int ((-10) - x))) (up σ 53 44 x) := by
      intro x r hr
      subst hr
      exact ⟨_, rfl, rfl, h.mark, fM Fr.rf (by decide)⟩
    refine ⟨vin (by omega) (by decide), fun z => ⟨_, _, c8_marks, mk 1 _ ?_⟩, fun z => ⟨vin (by omega) (by decide), fun z2 => ⟨fun z3 => ⟨fun z4 => ⟨_, _, c8_marks, mk 2 _ ?_⟩, fun z4 => ⟨fun z5 => ⟨_, _, c8_marks, mk 2 _ ?_⟩, fun z5 => ⟨fun z6 => ⟨_, _, c8_marks, mk 2 _ ?_⟩, fun z6 => ⟨fun z7 => ⟨_, _, c8_marks, mk 2 _ ?_⟩, fun z7 => ⟨fun z8 => ?_, fun z8 => ⟨_, _, c8_marks, mk 2 _ ?_⟩⟩⟩⟩⟩⟩, fun z3 => ⟨_, _, c8_marks, mk 4 _ ?_⟩⟩, fun z2 => ⟨_, _, c8_marks, mk 1 _ ?_⟩⟩⟩
    · rw [if_neg (fun y => bI_0.mp z y.1)]
    · rw [if_pos ⟨bI_n.mp z, bI_n.mp z2⟩, if_pos z3, if_neg (fun y => absurd z4 (Int32.not_lt.mpr y.1.1))]
    · rw [if_pos ⟨bI_n.mp z, bI_n.mp z2⟩, if_pos z3, if_neg (fun y => absurd z5 (Int32.not_lt.mpr y.2.1))]
    · rw [if_pos ⟨bI_n.mp z, bI_n.mp z2⟩, if_pos z3, if_neg (fun y => absurd z6 (Int32.not_lt.mpr y.1.2.1))]
    · rw [lgc_gt, sum64 (Int32.not_lt.mp z4) (Int32.not_lt.mp z6) (by omega)] at z7
      rw [if_pos ⟨bI_n.mp z, bI_n.mp z2⟩, if_pos z3, if_neg (fun y => z7 y.1.2.2)]
    · rw [lgc_gt, sum64 (Int32.not_lt.mp z4) (Int32.not_lt.mp z6) (by omega)] at z7
      rw [lgc_le, sum64 (Int32.not_lt.mp z5) (Int32.not_lt.mp z6) (by omega)] at z8
      have z7 := Decidable.of_not_not z7
      have z8 := Decidable.of_not_not z8
      rw [if_pos ⟨bI_n.mp z, bI_n.mp z2⟩, if_pos z3, if_pos ⟨⟨Int32.not_lt.mp z4, Int32.not_lt.mp z6, z7⟩, ⟨Int32.not_lt.mp z5, Int32.not_lt.mp z6, z8⟩⟩]
      obtain ⟨i, hi', rfl⟩ := nI_of z4
      obtain ⟨j, hj', rfl⟩ := nI_of z5
      obtain ⟨n, hn', rfl⟩ := nI_of z6
      rw [nI_toInt hi', nI_toInt hn'] at z7
      rw [nI_toInt hj', nI_toInt hn'] at z8
      have b1 : i + n ≤ 60 := by omega
      have b2 : j + n ≤ 60 := by omega
      rw [cl hi', cl hj', cl hn']
      have second : ∀ (τ0 : Hp), Fr (fun c i => c = 90) σ τ0 → (∀ k, k < n → τ0 90 k = hi (aH A) s (i + k)) → ∀ k (τ : Hp), k ≤ n → (Fr (fun c i => 86 ≤ c ∧ c ≤ 90) σ τ ∧ (∀ k, k < n → τ 90 k = hi (aH A) s (i + k)) ∧ (∀ c x, 86 ≤ c → c ≤ 88 → τ c x = σ c x) ∧ (∀ s', s' < 4 → s' ≠ t → ∀ x, x < 60 → τ 89 (60 * s' + x) = hi (aH A) s' x) ∧ (∀ x, x < 60 → τ 89 (60 * t + x) = if j ≤ x ∧ x < j + k then hi (aH A) s (i + (x - j)) else hi (aH A) t x)) →
          Ru E mX8_copy 157 [(0, .ref 53), (1, .int (nI s)), (2, .int (nI i)), (3, .int (nI t)), (4, .int (nI j)), (5, .int (nI n)), (6, .int (nI k))] [] τ (PI (fun v σ' => v = 1 ∧ StM (cpH A s i t j n) σ' ∧ Fr sM σ σ')) := by
        intro τ0 _ _
        refine for_up n _ _ ?_ ?_
        · intro k τ hk ⟨hF, h90, h86, h89, hT⟩ ih
          refine tX8_copy_157 ?_
          rw [ix60, nI_add, cl (show 60 * t + j + k < 2147483648 by omega), cl (show k < 2147483648 by omega), nI_1, h90 k hk]
          refine ⟨fun y => ?_, fun _ => ⟨vin (by omega) (by decide), vin (by omega) (by decide), ih _ ⟨hF.up ⟨by decide, by decide⟩, fun k' hk' => by rw [up_c (by decide)]; exact h90 k' hk', fun c x a b => by rw [up_c (by omega)]; exact h86 c x a b, fun s' hs' hne x hx => by rw [up_i (by omega)]; exact h89 s' hs' hne x hx, fun x hx => ?_⟩⟩⟩
          · rw [nI_le' (by omega) (by omega)] at y; omega
          · by_cases hxk : x = j + k
            · subst hxk
              rw [show 60 * t + (j + k) = 60 * t + j + k by omega, up_s, if_pos ⟨by omega, by omega⟩, show j + k - j = k by omega]
            · rw [up_i (by omega), hT x hx]
              by_cases hc : j ≤ x ∧ x < j + k
              · rw [if_pos hc, if_pos ⟨hc.1, by omega⟩]
              · rw [if_neg hc, if_neg (by omega)]
        · intro τ ⟨hF, h90, h86, h89, hT⟩
          refine tX8_copy_157 ⟨fun _ => ⟨_, rfl, rfl, h.sh hF (fun s' hs' => ?_) rfl, hF.mono (fun c i z => by unfold sM; omega)⟩, fun y => absurd (Int32.le_refl _) y⟩
          obtain ⟨p1, p2, p3, p4⟩ := h.2.2.2.1 s' hs'
          refine ⟨by rw [h86 _ _ (by decide) (by decide)]; exact p1, by rw [h86 _ _ (by decide) (by decide)]; exact p2, by rw [h86 _ _ (by decide) (by decide)]; exact p3, fun x hx => ?_⟩
          show _ = upN (hi (aH A)) t (fun k => if j ≤ k ∧ k < j + n then hi (aH A) s (i + (k - j)) else hi (aH A) t k) s' x
          unfold upN
          by_cases hst : s' = t
          · rw [if_pos hst, hst]
            exact hT x hx
          · rw [if_neg hst]
            exact h89 s' hs' hst x hx
      have first : ∀ k (τ : Hp), k ≤ n → (Fr (fun c i => c = 90) σ τ ∧ (∀ k', k' < k → τ 90 k' = hi (aH A) s (i + k'))) → Ru E mX8_copy 120 [(0, .ref 53), (1, .int (nI s)), (2, .int (nI i)), (3, .int (nI t)), (4, .int (nI j)), (5, .int (nI n)), (6, .int (nI k))] [] τ (PI (fun v σ' => v = 1 ∧ StM (cpH A s i t j n) σ' ∧ Fr sM σ σ')) := by
        refine for_up n _ _ ?_ ?_
        · intro k τ hk ⟨hF, h90⟩ ih
          refine tX8_copy_120 ?_
          have e89 : τ 89 (60 * s + i + k) = hi (aH A) s (i + k) := by
            rw [hF 89 _ (by omega), Nat.add_assoc]
            exact g4 (i + k) (by omega)
          rw [ix60, nI_add, cl (show 60 * s + i + k < 2147483648 by omega), cl (show k < 2147483648 by omega), nI_1, e89]
          refine ⟨fun y => ?_, fun _ => ⟨vin (by omega) (by decide), vin (by omega) (by decide), ih _ ⟨hF.up rfl, fun k' hk' => ?_⟩⟩⟩
          · rw [nI_le' (by omega) (by omega)] at y; omega
          · rcases Nat.lt_or_ge k' k with y | y
            · rw [up_i (by omega)]
              exact h90 k' y
            · rw [show k' = k by omega, up_s]
        · intro τ ⟨hF, h90⟩
          refine tX8_copy_120 ⟨fun _ => second τ hF h90 0 τ (Nat.zero_le _) ⟨hF.mono (fun c i z => by omega), h90, fun c x a b => hF c x (by omega), fun s' hs' hne x hx => ?_, fun x hx => ?_⟩, fun y => absurd (Int32.le_refl _) y⟩
          · rw [hF 89 _ (by omega)]
            exact (h.2.2.2.1 s' hs').2.2.2 x hx
          · rw [hF 89 _ (by omega), if_neg (by omega)]
            exact k4 x hx
      exact first 0 σ (Nat.zero_le _) ⟨Fr.rf, fun k' hk' => by omega⟩
    · rw [lgc_le, sum64 (Int32.not_lt.mp z5) (Int32.not_lt.mp z6) (by omega)] at z8
      have z8 := Decidable.of_not_not (fun y => z8 y)
      rw [if_pos ⟨bI_n.mp z, bI_n.mp z2⟩, if_pos z3, if_neg (fun y => z8 y.2.2.2)]
    · rw [if_pos ⟨bI_n.mp z, bI_n.mp z2⟩, if_neg z3]
    · rw [if_neg (fun y => bI_0.mp z2 y.2)]
  · rw [if_neg (fun z => bI_0.mp q2 z.2)]
    exact ⟨rfl, h, Fr.rf⟩
end MC
