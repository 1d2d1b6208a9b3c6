/-! THE CLASS: places; ask, holes -/
/-- item p is valid and at a new place -/
def nwB (g : Nat → Bool) (X Y : Nat → Int32) (p : Nat) : Bool := g p && decide (∀ q, q < p → ¬ (g q = true ∧ X q = X p ∧ Y q = Y p))
def sameB (g : Nat → Bool) (X Y : Nat → Int32) (j b : Nat) : Bool := g b && (decide (X b = X j) && decide (Y b = Y j))
def PlX (N : Nat) (g : Nat → Bool) (X Y : Nat → Int32) (σ : Hp) : Prop := σ 40 3 = nI (ct (nwB g X Y) N) ∧
  (∀ i, i < ct (nwB g X Y) N → ∃ j, j < N ∧ g j = true ∧ σ 41 i = X j ∧ σ 42 i = Y j ∧ σ 43 i = nI (ct (sameB g X Y j) N)) ∧
  (∀ j, j < N → g j = true → ∃ i, i < ct (nwB g X Y) N ∧ σ 41 i = X j ∧ σ 42 i = Y j) ∧
  (∀ i i', i < ct (nwB g X Y) N → i' < ct (nwB g X Y) N → σ 41 i = σ 41 i' → σ 42 i = σ 42 i' → i = i')
def sPl (c _i : Nat) : Prop := 40 ≤ c ∧ c ≤ 43
theorem sPl_q {c i : Nat} (h : sPl c i) : sqX c i := by unfold sPl at h; unfold sqX; omega
theorem ct_t {P : Nat → Bool} {n : Nat} (h : P n = true) : ct P (n + 1) = ct P n + 1 := by
  show ct P n + (if P n = true then 1 else 0) = _
  rw [if_pos h]
theorem ct_f {P : Nat → Bool} {n : Nat} (h : P n = false) : ct P (n + 1) = ct P n := by
  show ct P n + (if P n = true then 1 else 0) = _
  rw [if_neg (by rw [h]; decide)]
  rfl
theorem ct_mono {P : Nat → Bool} {a : Nat} : ∀ {b : Nat}, a ≤ b → ct P a ≤ ct P b
  | 0, h => by rw [show a = 0 by omega]; exact Nat.le_refl _
  | b + 1, h => by
    by_cases z : a = b + 1
    · rw [z]; exact Nat.le_refl _
    · have := ct_mono (P := P) (a := a) (b := b) (by omega)
      show _ ≤ ct P b + _
      omega
theorem PlX.fr {N : Nat} {g : Nat → Bool} {X Y : Nat → Int32} {S : Nat → Nat → Prop} {σ σ' : Hp} (h : PlX N g X Y σ) (hF : Fr S σ σ') (hS : ∀ c i, 40 ≤ c → c ≤ 43 → ¬ S c i) : PlX N g X Y σ' := by
  obtain ⟨h1, h2, h3, h4⟩ := h
  have e : ∀ c i, 40 ≤ c → c ≤ 43 → σ' c i = σ c i := fun c i a b => hF c i (hS c i a b)
  refine ⟨(e _ _ (by decide) (by decide)).trans h1, fun i hi => ?_, fun j hj hg => ?_, fun i i' hi hi' a b => ?_⟩
  · rw [e 41 i (by decide) (by decide), e 42 i (by decide) (by decide), e 43 i (by decide) (by decide)]
    exact h2 i hi
  · obtain ⟨i, hi, a, b⟩ := h3 j hj hg
    exact ⟨i, hi, (e _ _ (by decide) (by decide)).trans a, (e _ _ (by decide) (by decide)).trans b⟩
  · rw [e 41 i (by decide) (by decide), e 41 i' (by decide) (by decide)] at a
    rw [e 42 i (by decide) (by decide), e 42 i' (by decide) (by decide)] at b
    exact h4 i i' hi hi' a b
theorem PlX.skip {N : Nat} {g : Nat → Bool} {X Y : Nat → Int32} {σ : Hp} (h : PlX N g X Y σ) (hg : g N = false) : PlX (N + 1) g X Y σ := by
  have e : ct (nwB g X Y) (N + 1) = ct (nwB g X Y) N := ct_f (by unfold nwB; rw [hg, Bool.false_and])
  have e2 : ∀ j, ct (sameB g X Y j) (N + 1) = ct (sameB g X Y j) N := fun j => ct_f (by unfold sameB; rw [hg, Bool.false_and])
  obtain ⟨h1, h2, h3, h4⟩ := h
  unfold PlX
  rw [e]
  refine ⟨h1, fun i hi => ?_, fun j hj hgj => ?_, h4⟩
  · obtain ⟨j, hj, a, b, c, d⟩ := h2 i hi
    exact ⟨j, by omega, a, b, c, by rw [e2]; exact d⟩
  · by_cases z : j = N
    · rw [z, hg] at hgj; exact absurd hgj (by decide)
    · exact h3 j (by omega) hgj
section XPL
variable {E : Ev} {σ : Hp} {A : AS}
theorem x2_clear {g : Nat → Bool} {X Y : Nat → Int32} : ∃ σ' : Hp, Call E mX2_clear [.ref 40] σ none σ' ∧ (PlX 0 g X Y σ' ∧ Fr sPl σ σ') :=
  C_X2_clear (tX2_clear_0 ⟨rfl, ⟨by rw [up_s]; rfl, fun i hi => absurd hi (Nat.not_lt_zero i), fun j hj => absurd hj (Nat.not_lt_zero j), fun i i' hi => absurd hi (Nat.not_lt_zero i)⟩, Fr.rf.up ⟨by decide, by decide⟩⟩)
theorem x2_mark {N : Nat} {g : Nat → Bool} {X Y : Nat → Int32} (h : PlX N g X Y σ) (hN : N < 1000) (hg : g N = true) (hz : ct (nwB g X Y) (N + 1) ≤ 16) : ∃ σ' : Hp, Call E mX2_mark [.ref 40, .int (X N), .int (Y N)] σ none σ' ∧ (PlX (N + 1) g X Y σ' ∧ Fr sPl σ σ') := by
  obtain ⟨h1, h2, h3, h4⟩ := h
  have hle := ct_le (nwB g X Y) N
  have hmo : ct (nwB g X Y) N ≤ ct (nwB g X Y) (N + 1) := ct_mono (by omega)
  refine C_X2_mark (tX2_mark_0 ?_)
  generalize hZ : ct (nwB g X Y) N = z at *
  have s4 : ∀ c i, 40 ≤ c → c ≤ 43 → sPl c i := fun c i a b => ⟨a, b⟩
  have loop : ∀ i (u : Unit), i ≤ z → (∀ j, j < i → ¬ (σ 41 j = X N ∧ σ 42 j = Y N)) → Ru E mX2_mark 2 [(0, .ref 40), (1, .int (X N)), (2, .int (Y N)), (3, .int (nI i))] [] σ (PV (fun σ' => PlX (N + 1) g X Y σ' ∧ Fr sPl σ σ')) := by
    refine for_up z (fun i _ => ∀ j, j < i → ¬ (σ 41 j = X N ∧ σ 42 j = Y N)) _ ?_ ?_
    · intro i _ hi hJ ih
      have next : ¬ (σ 41 i = X N ∧ σ 42 i = Y N) → Ru E mX2_mark 2 [(0, .ref 40), (1, .int (X N)), (2, .int (Y N)), (3, .int (nI (i + 1)))] [] σ (PV (fun σ' => PlX (N + 1) g X Y σ' ∧ Fr sPl σ σ')) := by
        intro hne
        refine ih () (fun j hj => ?_)
        rcases Nat.lt_or_ge j i with y | y
        · exact hJ j y
        · rw [show j = i by omega]; exact hne
      refine tX2_mark_2 ?_
      rw [h1, cl (show i < 2147483648 by omega), nI_1 i]
      refine ⟨fun y => ?_, fun _ => ⟨vin (by omega) (by decide), fun y => next (fun q => y q.1), fun y => ⟨fun y2 => next (fun q => y2 q.2), fun y2 => ⟨rfl, ?_, Fr.rf.up (s4 _ _ (by decide) (by decide))⟩⟩⟩⟩
      · rw [nI_le' (by omega) (by omega)] at y; omega
      · obtain ⟨j0, hj0, hg0, a0, b0, c0⟩ := h2 i hi
        have hX : X j0 = X N := by rw [← a0]; exact y
        have hY : Y j0 = Y N := by rw [← b0]; exact y2
        have e : ct (nwB g X Y) (N + 1) = z := by
          rw [← hZ]
          refine ct_f ?_
          unfold nwB
          rw [decide_eq_false (fun q => q j0 hj0 ⟨hg0, hX, hY⟩), Bool.and_false]
        unfold PlX
        rw [e]
        refine ⟨by rw [up_c (by decide)]; exact h1, fun i' hi' => ?_, fun j hj hgj => ?_, fun i1 i2 q1 q2 a b => ?_⟩
        · obtain ⟨j, hj, hgj, a, b, c⟩ := h2 i' hi'
          refine ⟨j, by omega, hgj, by rw [up_c (by decide)]; exact a, by rw [up_c (by decide)]; exact b, ?_⟩
          by_cases q : i' = i
          · have hs : sameB g X Y j N = true := by
              unfold sameB
              rw [hg, decide_eq_true (show X N = X j by rw [← a, q]; exact y.symm), decide_eq_true (show Y N = Y j by rw [← b, q]; exact y2.symm)]
              rfl
            rw [ct_t hs, q, up_s, ← q, c, nI_1]
          · have hs : sameB g X Y j N = false := by
              unfold sameB
              by_cases p1 : X N = X j
              · by_cases p2 : Y N = Y j
                · exact absurd (h4 i' i hi' hi (by rw [a, y, p1]) (by rw [b, y2, p2])) q
                · rw [decide_eq_false p2, Bool.and_false, Bool.and_false]
              · rw [decide_eq_false p1, Bool.false_and, Bool.and_false]
            rw [ct_f hs, up_i q]
            exact c
        · by_cases q : j = N
          · subst q
            exact ⟨i, hi, by rw [up_c (by decide)]; exact y, by rw [up_c (by decide)]; exact y2⟩
          · obtain ⟨i', hi', a, b⟩ := h3 j (by omega) hgj
            exact ⟨i', hi', by rw [up_c (by decide)]; exact a, by rw [up_c (by decide)]; exact b⟩
        · rw [up_c (by decide), up_c (by decide)] at a b
          exact h4 i1 i2 q1 q2 a b
    · intro _ hJ
      have hnw : nwB g X Y N = true := by
        unfold nwB
        rw [hg, Bool.true_and]
        refine decide_eq_true (fun q hq y => ?_)
        obtain ⟨i, hi, a, b⟩ := h3 q hq y.1
        exact hJ i hi ⟨by rw [a]; exact y.2.1, by rw [b]; exact y.2.2⟩
      have e : ct (nwB g X Y) (N + 1) = z + 1 := by rw [ct_t hnw, hZ]
      have hz16 : z < 16 := by omega
      refine tX2_mark_2 ?_
      rw [h1, cl (show z < 2147483648 by omega), nI_1]
      refine ⟨fun _ => ⟨fun y => ?_, fun _ => ⟨vin hz16 (by decide), rfl, ?_, (((Fr.rf.up (s4 _ _ (by decide) (by decide))).up (s4 _ _ (by decide) (by decide))).up (s4 _ _ (by decide) (by decide))).up (s4 _ _ (by decide) (by decide))⟩⟩, fun y => absurd (Int32.le_refl _) y⟩
      · rw [show (16 : Int32) = nI 16 from rfl, nI_le' (by decide) (by omega)] at y; omega
      · have u41 : ∀ i, i < z → up (up (up (up σ 41 z (X N)) 42 z (Y N)) 43 z 1) 40 3 (nI (z + 1)) 41 i = σ 41 i := fun i hi => by rw [up_c (by decide), up_c (by decide), up_c (by decide), up_i (by omega)]
        have u42 : ∀ i, i < z → up (up (up (up σ 41 z (X N)) 42 z (Y N)) 43 z 1) 40 3 (nI (z + 1)) 42 i = σ 42 i := fun i hi => by rw [up_c (by decide), up_c (by decide), up_i (by omega), up_c (by decide)]
        have u43 : ∀ i, i < z → up (up (up (up σ 41 z (X N)) 42 z (Y N)) 43 z 1) 40 3 (nI (z + 1)) 43 i = σ 43 i := fun i hi => by rw [up_c (by decide), up_i (by omega), up_c (by decide), up_c (by decide)]
        have z41 : up (up (up (up σ 41 z (X N)) 42 z (Y N)) 43 z 1) 40 3 (nI (z + 1)) 41 z = X N := by rw [up_c (by decide), up_c (by decide), up_c (by decide), up_s]
        have z42 : up (up (up (up σ 41 z (X N)) 42 z (Y N)) 43 z 1) 40 3 (nI (z + 1)) 42 z = Y N := by rw [up_c (by decide), up_c (by decide), up_s]
        have z43 : up (up (up (up σ 41 z (X N)) 42 z (Y N)) 43 z 1) 40 3 (nI (z + 1)) 43 z = 1 := by rw [up_c (by decide), up_s]
        have z40 : up (up (up (up σ 41 z (X N)) 42 z (Y N)) 43 z 1) 40 3 (nI (z + 1)) 40 3 = nI (z + 1) := up_s
        generalize hτ : up (up (up (up σ 41 z (X N)) 42 z (Y N)) 43 z 1) 40 3 (nI (z + 1)) = τ at *
        unfold PlX
        rw [e]
        refine ⟨z40, fun i hi => ?_, fun j hj hgj => ?_, fun i1 i2 q1 q2 a b => ?_⟩
        · by_cases q : i = z
          · subst q
            refine ⟨N, by omega, hg, z41, z42, ?_⟩
            have hs : sameB g X Y N N = true := by
              unfold sameB
              rw [hg, decide_eq_true rfl, decide_eq_true rfl]
              rfl
            have h0 : ct (sameB g X Y N) N = 0 := ct_none (fun b hb => by
              unfold sameB
              by_cases p0 : g b = true
              · obtain ⟨i', hi', a, b'⟩ := h3 b hb p0
                by_cases p1 : X b = X N
                · by_cases p2 : Y b = Y N
                  · exact absurd ⟨by rw [a]; exact p1, by rw [b']; exact p2⟩ (hJ i' hi')
                  · rw [decide_eq_false p2, Bool.and_false, Bool.and_false]
                · rw [decide_eq_false p1, Bool.false_and, Bool.and_false]
              · rw [eq_false_of_ne_true p0, Bool.false_and])
            rw [ct_t hs, h0, z43]
            rfl
          · obtain ⟨j, hj, hgj, a, b, c⟩ := h2 i (by omega)
            refine ⟨j, by omega, hgj, by rw [u41 i (by omega)]; exact a, by rw [u42 i (by omega)]; exact b, ?_⟩
            have hs : sameB g X Y j N = false := by
              unfold sameB
              by_cases p1 : X N = X j
              · by_cases p2 : Y N = Y j
                · exact absurd ⟨by rw [a]; exact p1.symm, by rw [b]; exact p2.symm⟩ (hJ i (by omega))
                · rw [decide_eq_false p2, Bool.and_false, Bool.and_false]
              · rw [decide_eq_false p1, Bool.false_and, Bool.and_false]
            rw [ct_f hs, u43 i (by omega)]
            exact c
        · by_cases q : j = N
          · subst q
            exact ⟨z, by omega, z41, z42⟩
          · obtain ⟨i', hi', a, b⟩ := h3 j (by omega) hgj
            exact ⟨i', by omega, by rw [u41 i' hi']; exact a, by rw [u42 i' hi']; exact b⟩
        · by_cases p1 : i1 = z
          · by_cases p2 : i2 = z
            · omega
            · rw [p1, z41, u41 i2 (by omega)] at a
              rw [p1, z42, u42 i2 (by omega)] at b
              exact absurd ⟨a.symm, b.symm⟩ (hJ i2 (by omega))
          · by_cases p2 : i2 = z
            · rw [p2, z41, u41 i1 (by omega)] at a
              rw [p2, z42, u42 i1 (by omega)] at b
              exact absurd ⟨a, b⟩ (hJ i1 (by omega))
            · rw [u41 i1 (by omega), u41 i2 (by omega)] at a
              rw [u42 i1 (by omega), u42 i2 (by omega)] at b
              exact h4 i1 i2 (by omega) (by omega) a b
  exact loop 0 () (Nat.zero_le _) (fun j hj => by omega)
theorem mx_ge {f : Nat → Nat} {i : Nat} : ∀ {n : Nat}, i < n → f i ≤ mx f n
  | 0, h => by omega
  | n + 1, h => by
    unfold mx
    by_cases z : i = n
    · subst z
      split <;> omega
    · have := mx_ge (f := f) (i := i) (n := n) (by omega)
      split <;> omega
theorem x2_mostMarks {N : Nat} {g : Nat → Bool} {X Y : Nat → Int32} (h : PlX N g X Y σ) (hN : N < 1000) (hz : ct (nwB g X Y) N ≤ 16) : Call E mX2_mostMarks [.ref 40] σ (some (.int (nI (mx (fun a => if g a = true then ct (sameB g X Y a) N else 0) N)))) σ := by
  obtain ⟨h1, h2, h3, h4⟩ := h
  have hle := ct_le (nwB g X Y) N
  generalize hZ : ct (nwB g X Y) N = z at *
  have hM : ∀ i, i < z → (σ 43 i).toNatClampNeg ≤ N ∧ σ 43 i = nI (σ 43 i).toNatClampNeg := by
    intro i hi
    obtain ⟨j, hj, hgj, a, b, c⟩ := h2 i hi
    have := ct_le (sameB g X Y j) N
    rw [c, cl (by omega)]
    exact ⟨by omega, rfl⟩
  have he : mx (fun i => (σ 43 i).toNatClampNeg) z = mx (fun a => if g a = true then ct (sameB g X Y a) N else 0) N := by
    refine Nat.le_antisymm (mx_le (fun i hi => ?_)) (mx_le (fun a ha => ?_))
    · obtain ⟨j, hj, hgj, a, b, c⟩ := h2 i hi
      have := ct_le (sameB g X Y j) N
      rw [c, cl (by omega)]
      have := mx_ge (f := fun a => if g a = true then ct (sameB g X Y a) N else 0) hj
      rw [if_pos hgj] at this
      exact this
    · split
      · rename_i hga
        obtain ⟨i, hi, p, q⟩ := h3 a ha hga
        obtain ⟨j, hj, hgj, a', b', c'⟩ := h2 i hi
        have := ct_le (sameB g X Y j) N
        have e : ct (sameB g X Y a) N = ct (sameB g X Y j) N := ct_congr (fun b _ => by
          unfold sameB
          rw [← p, ← q, a', b'])
        have hge := mx_ge (f := fun i => (σ 43 i).toNatClampNeg) hi
        rw [c', cl (by omega)] at hge
        rw [e]
        exact hge
      · exact Nat.zero_le _
  rw [← he]
  refine K_X2_mostMarks (tX2_mostMarks_0 ?_)
  have loop : ∀ i (u : Unit), i ≤ z → True → Ru E mX2_mostMarks 4 [(0, .ref 40), (1, .int (nI (mx (fun i => (σ 43 i).toNatClampNeg) i))), (2, .int (nI i))] [] σ (PE (some (.int (nI (mx (fun i => (σ 43 i).toNatClampNeg) z)))) σ) := by
    refine for_up z _ _ ?_ ?_
    · intro i _ hi _ ih
      have ih := ih () trivial
      obtain ⟨m1, m2⟩ := hM i hi
      have hb : mx (fun i => (σ 43 i).toNatClampNeg) i ≤ N := mx_le (fun j hj => (hM j (by omega)).1)
      refine tX2_mostMarks_4 ?_
      rw [h1, cl (show i < 2147483648 by omega), nI_1]
      refine ⟨fun y => ?_, fun _ => ⟨vin (by omega) (by decide), ?_⟩⟩
      · rw [nI_le' (by omega) (by omega)] at y; omega
      · have e : (if nI (mx (fun i => (σ 43 i).toNatClampNeg) i) < σ 43 i then σ 43 i else nI (mx (fun i => (σ 43 i).toNatClampNeg) i)) = nI (mx (fun i => (σ 43 i).toNatClampNeg) (i + 1)) := by
          show _ = nI (if mx (fun i => (σ 43 i).toNatClampNeg) i < (σ 43 i).toNatClampNeg then (σ 43 i).toNatClampNeg else mx (fun i => (σ 43 i).toNatClampNeg) i)
          by_cases y : mx (fun i => (σ 43 i).toNatClampNeg) i < (σ 43 i).toNatClampNeg
          · rw [if_pos y, if_pos (by rw [m2, nI_lt' (by omega) (by omega)]; exact y), ← m2]
          · rw [if_neg y, if_neg (by rw [m2, nI_lt' (by omega) (by omega)]; exact y)]
        rw [e]
        exact ih
    · intro _ _
      exact tX2_mostMarks_4 ⟨fun _ => ⟨rfl, rfl⟩, fun y => absurd (by rw [h1]; exact Int32.le_refl _) y⟩
  exact loop 0 () (Nat.zero_le _) trivial
end XPL
