/-! THE REFERENCE: acts that change -/
section MM
variable {E : Ev} {σ : Hp} {A : AS}
theorem fM {c i : Nat} {v : Int32} {σ σ' : Hp} (h : Fr sM σ σ') (hc : 53 ≤ c) : Fr sM σ (up σ' c i v) := h.up hc
theorem m_type (h : StM A σ) (ho : okA A) (b : Int32) : ActM E mX8_type [.ref 53, .int b] σ (aType A b) := by
  have h39 := ho.1
  have e39 : nI (an A) = 39 ↔ an A = 39 := nI_eq' (show an A < 2147483648 by omega) (show 39 < 2147483648 by decide)
  unfold aType
  refine C_X8_type (tX8_type_0 ⟨_, _, c8_in, fun q => ?_, fun q => ⟨_, rfl, ?_⟩⟩)
  · have q := bI_n.mp q
    rw [if_pos q, h.1.1, cl (show an A < 2147483648 by omega), nI_1]
    refine ⟨fun z => ⟨vin (by have : ¬ an A = 39 := fun y => z (e39.mpr y); omega) (by decide), _, rfl, ?_⟩, fun z => ⟨_, rfl, ?_⟩⟩
    · have hne : ¬ an A = 39 := fun y => z (e39.mpr y)
      rw [if_neg hne]
      obtain ⟨j, hj, rfl⟩ := (inN_iff 255 (by decide)).mp q
      refine ⟨rfl, ⟨⟨by simp [up], fun i hi => ?_⟩, ⟨by simp [up]; exact h.2.1.1, fun e he f hf => ?_⟩, ⟨by simp [up]; exact h.2.2.1.1, fun i hi => ?_⟩, fun s hs => ?_, by simp [up]; exact h.2.2.2.2⟩, fM (fM Fr.rf (by decide)) (by decide)⟩
      · rw [up_c (by decide)]
        show _ = nI (if i = an A then (nI j).toNatClampNeg else at' A i)
        by_cases hi2 : i = an A
        · rw [hi2, up_s, if_pos rfl, cl (by omega)]
        · rw [if_neg hi2, up_i hi2]
          exact h.1.2 i (by have : i < an A + 1 := hi; omega)
      · rw [up_c (by omega), up_c (by omega)]
        exact h.2.1.2 e he f hf
      · have := h.2.2.1.2 i hi
        simpa [up] using this
      · obtain ⟨g1, g2, g3, g4⟩ := h.2.2.2.1 s hs
        exact ⟨by simp [up]; exact g1, by simp [up]; exact g2, by simp [up]; exact g3, fun i hi => by simp [up]; exact g4 i hi⟩
    · rw [if_pos (e39.mp z)]
      exact ⟨rfl, h, Fr.rf⟩
  · rw [if_neg (bI_0.mp q)]
    exact ⟨rfl, h, Fr.rf⟩
theorem StM.txt {n : Nat} (h : StM A σ) (hn : n ≤ an A) : StM (at' A, n, av A, am A, aS A, aH A) (up σ 53 0 (nI n)) := by
  refine ⟨⟨by rw [up_s], fun i hi => by rw [up_c (by decide)]; exact h.1.2 i (by have : i < n := hi; omega)⟩, ⟨by simp [up]; exact h.2.1.1, fun e he f hf => by rw [up_c (by omega)]; exact h.2.1.2 e he f hf⟩, ⟨by simp [up]; exact h.2.2.1.1, fun i hi => ?_⟩, fun s hs => ?_, by simp [up]; exact h.2.2.2.2⟩
  · have := h.2.2.1.2 i hi
    simpa [up] using this
  · obtain ⟨g1, g2, g3, g4⟩ := h.2.2.2.1 s hs
    exact ⟨by simp [up]; exact g1, by simp [up]; exact g2, by simp [up]; exact g3, fun i hi => by simp [up]; exact g4 i hi⟩
theorem m_wipe (h : StM A σ) (ho : okA A) : ActM E mX8_wipe [.ref 53] σ (aWipe A) := by
  refine C_X8_wipe (tX8_wipe_0 ⟨_, rfl, h.1.1, ?_, fM Fr.rf (by decide)⟩)
  exact h.txt (n := 0) (Nat.zero_le _)
theorem m_undo (h : StM A σ) (ho : okA A) : ActM E mX8_undo [.ref 53] σ (aUndo A) := by
  have h39 := ho.1
  have e0 : nI (an A) = 0 ↔ an A = 0 := nI_eq' (show an A < 2147483648 by omega) (show 0 < 2147483648 by decide)
  unfold aUndo
  refine C_X8_undo (tX8_undo_0 ?_)
  rw [h.1.1]
  refine ⟨fun z => ⟨_, rfl, ?_⟩, fun z => ⟨_, rfl, ?_⟩⟩
  · have hne : ¬ an A = 0 := fun y => z (e0.mpr y)
    rw [if_neg hne, show (1 : Int32) = nI 1 from rfl, pk_sub (show 1 ≤ an A by omega)]
    exact ⟨rfl, h.txt (by omega), fM Fr.rf (by decide)⟩
  · rw [if_pos (e0.mp z)]
    exact ⟨rfl, h, Fr.rf⟩
theorem m_event (h : StM A σ) (ho : okA A) (k d c n : Int32) : ActM E mX8_event [.ref 53, .int k, .int d, .int c, .int n] σ (aEvent A k d c n) := by
  have h8 := ho.2.2.1
  have e8 : nI (am A) = 8 ↔ am A = 8 := nI_eq' (show am A < 2147483648 by omega) (show 8 < 2147483648 by decide)
  unfold aEvent
  refine C_X8_event (tX8_event_0 ⟨_, _, c8_in, fun q => ⟨_, rfl, ?_⟩, fun q => ⟨_, _, c8_isDay, fun q2 => ⟨_, rfl, ?_⟩, fun q2 => ⟨_, _, c8_isEight, fun q3 => ⟨_, rfl, ?_⟩, fun q3 => ⟨_, _, c8_in, fun q4 => ?_, fun q4 => ⟨_, rfl, ?_⟩⟩⟩⟩⟩)
  · rw [if_neg (fun z => bI_0.mp q z.1)]
    exact ⟨rfl, h, Fr.rf⟩
  · rw [if_neg (fun z => bI_0.mp q2 z.2.1)]
    exact ⟨rfl, h, Fr.rf⟩
  · rw [if_neg (fun z => bI_0.mp q3 z.2.2.1)]
    exact ⟨rfl, h, Fr.rf⟩
  · have q := bI_n.mp q
    have q2 := bI_n.mp q2
    have q3 := bI_n.mp q3
    have q4 := bI_n.mp q4
    rw [if_pos ⟨q, q2, q3, q4⟩, h.2.1.1, cl (show am A < 2147483648 by omega), nI_1]
    refine ⟨fun z => ⟨vin (by have : ¬ am A = 8 := fun y => z (e8.mpr y); omega) (by decide), _, rfl, ?_⟩, fun z => ⟨_, rfl, ?_⟩⟩
    · have hne : ¬ am A = 8 := fun y => z (e8.mpr y)
      rw [if_neg hne]
      obtain ⟨k, hk, rfl⟩ := (inN_iff 2 (by decide)).mp q
      obtain ⟨d, hd, rfl⟩ := (inN_iff 19 (by decide)).mp q2
      obtain ⟨c, hc, rfl⟩ := (inN_iff 7 (by decide)).mp q3
      obtain ⟨n, hn, rfl⟩ := (inN_iff 9 (by decide)).mp q4
      rw [cl (show k < 2147483648 by omega), cl (show d < 2147483648 by omega), cl (show c < 2147483648 by omega), cl (show n < 2147483648 by omega)]
      refine ⟨rfl, ⟨⟨by simp [up]; exact h.1.1, fun i hi => by simp [up]; exact h.1.2 i hi⟩, ⟨by simp [up], fun e he f hf => ?_⟩, ⟨by simp [up]; exact h.2.2.1.1, fun i hi => ?_⟩, fun s hs => ?_, by simp [up]; exact h.2.2.2.2⟩, fM (fM (fM (fM (fM Fr.rf (by decide)) (by decide)) (by decide)) (by decide)) (by decide)⟩
      · show _ = nI (if e = am A then _ else _)
        by_cases he2 : e = am A
        · rw [if_pos he2, he2]
          match f, hf with
          | 0, _ => simp [up]
          | 1, _ => simp [up]
          | 2, _ => simp [up]
          | 3, _ => simp [up]
        · rw [if_neg he2, up_c (by omega), up_i he2, up_i he2, up_i he2, up_i he2]
          exact h.2.1.2 e (by have : e < am A + 1 := he; omega) f hf
      · have := h.2.2.1.2 i hi
        simpa [up] using this
      · obtain ⟨g1, g2, g3, g4⟩ := h.2.2.2.1 s hs
        exact ⟨by simp [up]; exact g1, by simp [up]; exact g2, by simp [up]; exact g3, fun i hi => by simp [up]; exact g4 i hi⟩
    · rw [if_pos (e8.mp z)]
      exact ⟨rfl, h, Fr.rf⟩
  · rw [if_neg (fun z => bI_0.mp q4 z.2.2.2)]
    exact ⟨rfl, h, Fr.rf⟩
theorem m_back (h : StM A σ) (ho : okA A) : ActM E mX8_back [.ref 53] σ (aBack A) := by
  have h8 := ho.2.2.1
  have e0 : nI (am A) = 0 ↔ am A = 0 := nI_eq' (show am A < 2147483648 by omega) (show 0 < 2147483648 by decide)
  unfold aBack
  refine C_X8_back (tX8_back_0 ?_)
  rw [h.2.1.1]
  refine ⟨fun z => ⟨_, rfl, ?_⟩, fun z => ⟨_, rfl, ?_⟩⟩
  · have hne : ¬ am A = 0 := fun y => z (e0.mpr y)
    rw [if_neg hne, show (1 : Int32) = nI 1 from rfl, pk_sub (show 1 ≤ am A by omega)]
    refine ⟨rfl, ⟨⟨by simp [up]; exact h.1.1, fun i hi => by simp [up]; exact h.1.2 i hi⟩, ⟨by rw [up_s], fun e he f hf => by rw [up_c (by omega)]; exact h.2.1.2 e (by have : e < am A - 1 := he; omega) f hf⟩, ⟨by simp [up]; exact h.2.2.1.1, fun i hi => ?_⟩, fun s hs => ?_, by simp [up]; exact h.2.2.2.2⟩, fM Fr.rf (by decide)⟩
    · have := h.2.2.1.2 i hi
      simpa [up] using this
    · obtain ⟨g1, g2, g3, g4⟩ := h.2.2.2.1 s hs
      exact ⟨by simp [up]; exact g1, by simp [up]; exact g2, by simp [up]; exact g3, fun i hi => by simp [up]; exact g4 i hi⟩
  · rw [if_pos (e0.mp z)]
    exact ⟨rfl, h, Fr.rf⟩
theorem okA_event {A : AS} (ho : okA A) (k d c n : Int32) : okA (aEvent A k d c n).2 := by
  unfold aEvent
  split
  · rename_i q
    split
    · exact ho
    · obtain ⟨k, hk, rfl⟩ := (inN_iff 2 (by decide)).mp q.1
      obtain ⟨d, hd, rfl⟩ := (inN_iff 19 (by decide)).mp q.2.1
      obtain ⟨c, hc, rfl⟩ := (inN_iff 7 (by decide)).mp q.2.2.1
      obtain ⟨n, hn, rfl⟩ := (inN_iff 9 (by decide)).mp q.2.2.2
      rw [cl (show k < 2147483648 by omega), cl (show d < 2147483648 by omega), cl (show c < 2147483648 by omega), cl (show n < 2147483648 by omega)]
      have h8 := ho.2.2.1
      refine ⟨ho.1, ho.2.1, (show am A + 1 ≤ 8 by omega), fun e he => ?_, ho.2.2.2.2⟩
      by_cases he2 : e = am A
      · subst he2
        show (if am A = am A then k else _) ≤ 2 ∧ (if am A = am A then d else _) < 20 ∧ (if am A = am A then c else _) < 8 ∧ (if am A = am A then n else _) ≤ 9
        rw [if_pos rfl, if_pos rfl, if_pos rfl, if_pos rfl]
        omega
      · show (if e = am A then _ else av A 0 e) ≤ 2 ∧ (if e = am A then _ else av A 1 e) < 20 ∧ (if e = am A then _ else av A 2 e) < 8 ∧ (if e = am A then _ else av A 3 e) ≤ 9
        rw [if_neg he2, if_neg he2, if_neg he2, if_neg he2]
        exact ho.2.2.2.1 e (by have : e < am A + 1 := he; omega)
  · exact ho
theorem aH_event {A : AS} (k d c n : Int32) : aH (aEvent A k d c n).2 = aH A := by
  unfold aEvent
  split
  · split <;> rfl
  · rfl
theorem StM.mark {x : Int32} (h : StM A σ) : StM (setF A x) (up σ 53 44 x) := by
  refine ⟨⟨by simp [up]; exact h.1.1, fun i hi => by simp [up]; exact h.1.2 i hi⟩, ⟨by simp [up]; exact h.2.1.1, fun e he f hf => by rw [up_c (by omega)]; exact h.2.1.2 e he f hf⟩, ⟨by simp [up]; exact h.2.2.1.1, fun i hi => ?_⟩, fun s hs => ?_, by rw [up_s]; rfl⟩
  · have := h.2.2.1.2 i hi
    simp [up]
    exact this
  · obtain ⟨g1, g2, g3, g4⟩ := h.2.2.2.1 s hs
    exact ⟨by simp [up]; exact g1, by simp [up]; exact g2, by simp [up]; exact g3, fun i hi => by simp [up]; exact g4 i hi⟩
theorem c8_marks {x : Int32} : Call E mX8_marks [.ref 53, .int x] σ (some (.int ((-10) - x))) (up σ 53 44 x) := K_X8_marks (tX8_marks_0 ⟨rfl, rfl⟩)
theorem ix60 {s i : Nat} : 60 * nI s + nI i = nI (60 * s + i) := by rw [show (60 : Int32) = nI 60 from rfl, pk_mul, nI_add]
theorem m_read (h : StM A σ) (ho : okA A) (s : Int32) : ActM E mX8_read [.ref 53, .int s] σ (aRead A s) := by
  unfold aRead
  refine C_X8_read (tX8_read_0 ⟨_, _, c8_isSheet, fun q => ?_, fun q => ⟨_, rfl, ?_⟩⟩)
  · have q := bI_n.mp q
    rw [if_pos q]
    obtain ⟨s, hs, rfl⟩ := (inN_iff 3 (by decide)).mp q
    rw [cl (show s < 2147483648 by omega)]
    obtain ⟨g1, g2, g3, g4⟩ := h.2.2.2.1 s (by omega)
    refine ⟨vin (by omega) (by decide), ?_⟩
    rw [g1]
    refine ⟨fun z => ?_, fun z => ⟨_, _, c8_marks, _, rfl, ?_⟩⟩
    · rw [if_pos (bI_n.mp z)]
      have loop : ∀ n j (B : AS) (τ : Hp), n + j = 16 → StM B τ → okA B → Fr sM σ τ → (hz (aH B) s ≤ 60) → Ru E mX8_read 32 [(0, .ref 53), (1, .int (nI s)), (2, .int (nI j)), (3, .int (60 * nI s))] [] τ (PI (fun v σ' => v = nI (rdS s n j B).1 ∧ StM (rdS s n j B).2 σ' ∧ Fr sM σ σ')) := by
        intro n
        induction n with
        | zero =>
          intro j B τ hj hB hoB hF hz60
          obtain ⟨b1, b2, b3, b4⟩ := hB.2.2.2.1 s (by omega)
          refine tX8_read_32 ?_
          rw [cl (show s < 2147483648 by omega), b3, show (4 : Int32) = nI 4 from rfl, show (3 : Int32) = nI 3 from rfl, pk_mul, nI_add]
          refine ⟨vin (by omega) (by decide), fun _ => ⟨_, rfl, rfl, hB, hF⟩, fun z2 => ?_⟩
          rw [nI_le' (by omega) (by omega)] at z2
          omega
        | succ n ih =>
          intro j B τ hj hB hoB hF hz60
          obtain ⟨b1, b2, b3, b4⟩ := hB.2.2.2.1 s (by omega)
          have e0 : 60 * nI s + 4 * nI j = nI (60 * s + 4 * j) := by rw [show (4 : Int32) = nI 4 from rfl, pk_mul, ix60]
          have e1 : nI (60 * s + 4 * j) + 1 = nI (60 * s + (4 * j + 1)) := nI_1 _
          have e2 : nI (60 * s + 4 * j) + 2 = nI (60 * s + (4 * j + 2)) := by rw [show (2 : Int32) = nI 2 from rfl, nI_add, Nat.add_assoc]
          have e3 : nI (60 * s + 4 * j) + 3 = nI (60 * s + (4 * j + 3)) := by rw [show (3 : Int32) = nI 3 from rfl, nI_add, Nat.add_assoc]
          have e4 : 4 * nI j + 3 = nI (4 * j + 3) := by rw [show (4 : Int32) = nI 4 from rfl, show (3 : Int32) = nI 3 from rfl, pk_mul, nI_add]
          refine tX8_read_32 ?_
          rw [cl (show s < 2147483648 by omega), b3, e0, e1, e2, e3, e4]
          refine ⟨vin (by omega) (by decide), fun z2 => ?_, fun z2 => ?_⟩
          · rw [nI_le' (by omega) (by omega)] at z2
            unfold rdS
            rw [if_neg (by omega)]
            exact ⟨_, rfl, rfl, hB, hF⟩
          · rw [nI_le' (by omega) (by omega)] at z2
            have hb : 4 * j + 3 < 60 := by omega
            rw [cl (show 60 * s + 4 * j < 2147483648 by omega), cl (show 60 * s + (4 * j + 1) < 2147483648 by omega), cl (show 60 * s + (4 * j + 2) < 2147483648 by omega), cl (show 60 * s + (4 * j + 3) < 2147483648 by omega), b4 _ (by omega), b4 _ (by omega), b4 _ (by omega), b4 _ (by omega)]
            obtain ⟨v, τ2, hc, hv, hS, hF2⟩ := m_event (E := E) hB hoB (hi (aH B) s (4 * j)) (hi (aH B) s (4 * j + 1)) (hi (aH B) s (4 * j + 2)) (hi (aH B) s (4 * j + 3))
            refine ⟨vin (by omega) (by decide), vin (by omega) (by decide), vin (by omega) (by decide), vin (by omega) (by decide), _, _, hc, fun z3 => ?_, fun z3 => ?_⟩
            · have hno : ¬ 0 < (aEvent B (hi (aH B) s (4 * j)) (hi (aH B) s (4 * j + 1)) (hi (aH B) s (4 * j + 2)) (hi (aH B) s (4 * j + 3))).1 := by
                rw [← hv]
                exact Int32.not_lt.mpr z3
              have hsame : (aEvent B (hi (aH B) s (4 * j)) (hi (aH B) s (4 * j + 1)) (hi (aH B) s (4 * j + 2)) (hi (aH B) s (4 * j + 3))).2 = B := by
                revert hno
                unfold aEvent
                split
                · split
                  · exact fun _ => rfl
                  · intro y
                    exfalso
                    apply y
                    have h8 := hoB.2.2.1
                    show 0 < nI (am B + 1)
                    rw [show (0 : Int32) = nI 0 from rfl, nI_lt' (by decide) (by omega)]
                    omega
                · exact fun _ => rfl
              rw [hsame] at hS
              unfold rdS
              rw [if_pos (by omega), if_neg hno]
              exact ⟨_, rfl, rfl, hS, hF.tr hF2⟩
            · have hyes : 0 < (aEvent B (hi (aH B) s (4 * j)) (hi (aH B) s (4 * j + 1)) (hi (aH B) s (4 * j + 2)) (hi (aH B) s (4 * j + 3))).1 := by
                rw [← hv]
                exact Int32.not_le.mp z3
              have := ih (j + 1) _ τ2 (by omega) hS (okA_event hoB _ _ _ _) (hF.tr hF2) (by rw [aH_event]; exact hz60)
              unfold rdS
              rw [if_pos (by omega), if_pos hyes, nI_1]
              exact this
      exact loop 16 0 A σ rfl h ho Fr.rf (ho.2.2.2.2.2 s (by omega)).2
    · rw [if_neg (bI_0.mp z)]
      exact ⟨rfl, h.mark, fM Fr.rf (by decide)⟩
  · rw [if_neg (bI_0.mp q)]
    exact ⟨rfl, h, Fr.rf⟩
end MM
