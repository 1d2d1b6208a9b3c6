set_option maxRecDepth 10000 in
set_option maxHeartbeats 4000000 in
theorem tsw_out (n : Nat) (x : Int32) (h : ∀ j, j < n → ¬ x = nI j) : x.toInt < 0 ∨ ((n : Int) - 1) < x.toInt := by
  rcases Int.lt_or_le x.toInt 0 with q | q
  · exact Or.inl q
  · rcases Int.lt_or_le ((n : Int) - 1) x.toInt with q2 | q2
    · exact Or.inr q2
    · refine absurd ?_ (h x.toInt.toNat (by omega))
      have hx : ¬ x < 0 := by rw [Int32.lt_iff_toInt_lt, Int32.toInt_zero]; omega
      obtain ⟨j, hj, e⟩ := nI_of hx
      have e2 : x.toInt = j := by rw [e, nI_toInt hj]
      rw [e2]
      exact e
set_option maxRecDepth 10000 in
set_option maxHeartbeats 4000000 in
theorem tX0_has_0 {E : Ev} {c0 : Nat} {x1 : Int32} {σ : Hp} {Φ : Option Value → Hp → Prop} (hc0 : IsCpl c0) (h : ((x1 < 0 → Φ (some (.int 0)) σ) ∧ (¬ x1 < 0 → (((σ c0 4) ≤ x1 → Φ (some (.int 0)) σ) ∧ (¬ (σ c0 4) ≤ x1 → Φ (some (.int 1)) σ))))) : Ru E mX0_has 0 [(0, .ref c0), (1, .int x1)] [] σ Φ := by
  refine s_iload_n 1 (pc := 0) dX0_has_0 rfl rfl ?_
  refine s_if_lt (pc := 1) (tgt := 16) dX0_has_1 rfl (fun q1 => ?_) (fun q1 => ?_)
  · replace h := h.1 q1
    refine s_iconst (v := 0) (pc := 16) dX0_has_16 rfl ?_
    exact s_ret (r := some (.int 0)) ⟨dX0_has_17, fun ty e => by cases e; rfl⟩ rfl h
  · replace h := h.2 q1
    refine s_iload_n 1 (pc := 4) dX0_has_4 rfl rfl ?_
    refine s_aload_n 0 (pc := 5) dX0_has_5 rfl rfl ?_
    refine s_getI (v := σ c0 4) (pc := 6) dX0_has_6 fl_X0_24 hc0.1 rfl rfl ?_
    refine s_icmp_ge (pc := 9) (tgt := 16) dX0_has_9 rfl (fun q2 => ?_) (fun q2 => ?_)
    · replace h := h.1 q2
      refine s_iconst (v := 0) (pc := 16) dX0_has_16 rfl ?_
      exact s_ret (r := some (.int 0)) ⟨dX0_has_17, fun ty e => by cases e; rfl⟩ rfl h
    · replace h := h.2 q2
      refine s_iconst (v := 1) (pc := 12) dX0_has_12 rfl ?_
      refine s_goto (pc := 13) (tgt := 17) dX0_has_13 rfl ?_
      exact s_ret (r := some (.int 1)) ⟨dX0_has_17, fun ty e => by cases e; rfl⟩ rfl h
set_option maxRecDepth 10000 in
set_option maxHeartbeats 4000000 in
theorem tX0_setTo_0 {E : Ev} {c0 : Nat} {c1 : Nat} {σ : Hp} {Φ : Option Value → Hp → Prop} (hc0 : IsCpl c0) (hc1 : IsCpl c1) (h : Φ none (up (upR (upR (upR (upR σ (c0 + 1) (va_cpy (σ (c1 + 1)) (σ (c0 + 1)) (0 : Int32).toNatClampNeg (0 : Int32).toNatClampNeg (8 : Int32).toNatClampNeg)) (c0 + 2) (va_cpy ((upR σ (c0 + 1) (va_cpy (σ (c1 + 1)) (σ (c0 + 1)) (0 : Int32).toNatClampNeg (0 : Int32).toNatClampNeg (8 : Int32).toNatClampNeg)) (c1 + 2)) ((upR σ (c0 + 1) (va_cpy (σ (c1 + 1)) (σ (c0 + 1)) (0 : Int32).toNatClampNeg (0 : Int32).toNatClampNeg (8 : Int32).toNatClampNeg)) (c0 + 2)) (0 : Int32).toNatClampNeg (0 : Int32).toNatClampNeg (8 : Int32).toNatClampNeg)) (c0 + 3) (va_cpy ((upR (upR σ (c0 + 1) (va_cpy (σ (c1 + 1)) (σ (c0 + 1)) (0 : Int32).toNatClampNeg (0 : Int32).toNatClampNeg (8 : Int32).toNatClampNeg)) (c0 + 2) (va_cpy ((upR σ (c0 + 1) (va_cpy (σ (c1 + 1)) (σ (c0 + 1)) (0 : Int32).toNatClampNeg (0 : Int32).toNatClampNeg (8 : Int32).toNatClampNeg)) (c1 + 2)) ((upR σ (c0 + 1) (va_cpy (σ (c1 + 1)) (σ (c0 + 1)) (0 : Int32).toNatClampNeg (0 : Int32).toNatClampNeg (8 : Int32).toNatClampNeg)) (c0 + 2)) (0 : Int32).toNatClampNeg (0 : Int32).toNatClampNeg (8 : Int32).toNatClampNeg)) (c1 + 3)) ((upR (upR σ (c0 + 1) (va_cpy (σ (c1 + 1)) (σ (c0 + 1)) (0 : Int32).toNatClampNeg (0 : Int32).toNatClampNeg (8 : Int32).toNatClampNeg)) (c0 + 2) (va_cpy ((upR σ (c0 + 1) (va_cpy (σ (c1 + 1)) (σ (c0 + 1)) (0 : Int32).toNatClampNeg (0 : Int32).toNatClampNeg (8 : Int32).toNatClampNeg)) (c1 + 2)) ((upR σ (c0 + 1) (va_cpy (σ (c1 + 1)) (σ (c0 + 1)) (0 : Int32).toNatClampNeg (0 : Int32).toNatClampNeg (8 : Int32).toNatClampNeg)) (c0 + 2)) (0 : Int32).toNatClampNeg (0 : Int32).toNatClampNeg (8 : Int32).toNatClampNeg)) (c0 + 3)) (0 : Int32).toNatClampNeg (0 : Int32).toNatClampNeg (8 : Int32).toNatClampNeg)) (c0 + 4) (va_cpy ((upR (upR (upR σ (c0 + 1) (va_cpy (σ (c1 + 1)) (σ (c0 + 1)) (0 : Int32).toNatClampNeg (0 : Int32).toNatClampNeg (8 : Int32).toNatClampNeg)) (c0 + 2) (va_cpy ((upR σ (c0 + 1) (va_cpy (σ (c1 + 1)) (σ (c0 + 1)) (0 : Int32).toNatClampNeg (0 : Int32).toNatClampNeg (8 : Int32).toNatClampNeg)) (c1 + 2)) ((upR σ (c0 + 1) (va_cpy (σ (c1 + 1)) (σ (c0 + 1)) (0 : Int32).toNatClampNeg (0 : Int32).toNatClampNeg (8 : Int32).toNatClampNeg)) (c0 + 2)) (0 : Int32).toNatClampNeg (0 : Int32).toNatClampNeg (8 : Int32).toNatClampNeg)) (c0 + 3) (va_cpy ((upR (upR σ (c0 + 1) (va_cpy (σ (c1 + 1)) (σ (c0 + 1)) (0 : Int32).toNatClampNeg (0 : Int32).toNatClampNeg (8 : Int32).toNatClampNeg)) (c0 + 2) (va_cpy ((upR σ (c0 + 1) (va_cpy (σ (c1 + 1)) (σ (c0 + 1)) (0 : Int32).toNatClampNeg (0 : Int32).toNatClampNeg (8 : Int32).toNatClampNeg)) (c1 + 2)) ((upR σ (c0 + 1) (va_cpy (σ (c1 + 1)) (σ (c0 + 1)) (0 : Int32).toNatClampNeg (0 : Int32).toNatClampNeg (8 : Int32).toNatClampNeg)) (c0 + 2)) (0 : Int32).toNatClampNeg (0 : Int32).toNatClampNeg (8 : Int32).toNatClampNeg)) (c1 + 3)) ((upR (upR σ (c0 + 1) (va_cpy (σ (c1 + 1)) (σ (c0 + 1)) (0 : Int32).toNatClampNeg (0 : Int32).toNatClampNeg (8 : Int32).toNatClampNeg)) (c0 + 2) (va_cpy ((upR σ (c0 + 1) (va_cpy (σ (c1 + 1)) (σ (c0 + 1)) (0 : Int32).toNatClampNeg (0 : Int32).toNatClampNeg (8 : Int32).toNatClampNeg)) (c1 + 2)) ((upR σ (c0 + 1) (va_cpy (σ (c1 + 1)) (σ (c0 + 1)) (0 : Int32).toNatClampNeg (0 : Int32).toNatClampNeg (8 : Int32).toNatClampNeg)) (c0 + 2)) (0 : Int32).toNatClampNeg (0 : Int32).toNatClampNeg (8 : Int32).toNatClampNeg)) (c0 + 3)) (0 : Int32).toNatClampNeg (0 : Int32).toNatClampNeg (8 : Int32).toNatClampNeg)) (c1 + 4)) ((upR (upR (upR σ (c0 + 1) (va_cpy (σ (c1 + 1)) (σ (c0 + 1)) (0 : Int32).toNatClampNeg (0 : Int32).toNatClampNeg (8 : Int32).toNatClampNeg)) (c0 + 2) (va_cpy ((upR σ (c0 + 1) (va_cpy (σ (c1 + 1)) (σ (c0 + 1)) (0 : Int32).toNatClampNeg (0 : Int32).toNatClampNeg (8 : Int32).toNatClampNeg)) (c1 + 2)) ((upR σ (c0 + 1) (va_cpy (σ (c1 + 1)) (σ (c0 + 1)) (0 : Int32).toNatClampNeg (0 : Int32).toNatClampNeg (8 : Int32).toNatClampNeg)) (c0 + 2)) (0 : Int32).toNatClampNeg (0 : Int32).toNatClampNeg (8 : Int32).toNatClampNeg)) (c0 + 3) (va_cpy ((upR (upR σ (c0 + 1) (va_cpy (σ (c1 + 1)) (σ (c0 + 1)) (0 : Int32).toNatClampNeg (0 : Int32).toNatClampNeg (8 : Int32).toNatClampNeg)) (c0 + 2) (va_cpy ((upR σ (c0 + 1) (va_cpy (σ (c1 + 1)) (σ (c0 + 1)) (0 : Int32).toNatClampNeg (0 : Int32).toNatClampNeg (8 : Int32).toNatClampNeg)) (c1 + 2)) ((upR σ (c0 + 1) (va_cpy (σ (c1 + 1)) (σ (c0 + 1)) (0 : Int32).toNatClampNeg (0 : Int32).toNatClampNeg (8 : Int32).toNatClampNeg)) (c0 + 2)) (0 : Int32).toNatClampNeg (0 : Int32).toNatClampNeg (8 : Int32).toNatClampNeg)) (c1 + 3)) ((upR (upR σ (c0 + 1) (va_cpy (σ (c1 + 1)) (σ (c0 + 1)) (0 : Int32).toNatClampNeg (0 : Int32).toNatClampNeg (8 : Int32).toNatClampNeg)) (c0 + 2) (va_cpy ((upR σ (c0 + 1) (va_cpy (σ (c1 + 1)) (σ (c0 + 1)) (0 : Int32).toNatClampNeg (0 : Int32).toNatClampNeg (8 : Int32).toNatClampNeg)) (c1 + 2)) ((upR σ (c0 + 1) (va_cpy (σ (c1 + 1)) (σ (c0 + 1)) (0 : Int32).toNatClampNeg (0 : Int32).toNatClampNeg (8 : Int32).toNatClampNeg)) (c0 + 2)) (0 : Int32).toNatClampNeg (0 : Int32).toNatClampNeg (8 : Int32).toNatClampNeg)) (c0 + 3)) (0 : Int32).toNatClampNeg (0 : Int32).toNatClampNeg (8 : Int32).toNatClampNeg)) (c0 + 4)) (0 : Int32).toNatClampNeg (0 : Int32).toNatClampNeg (8 : Int32).toNatClampNeg)) c0 4 ((upR (upR (upR (upR σ (c0 + 1) (va_cpy (σ (c1 + 1)) (σ (c0 + 1)) (0 : Int32).toNatClampNeg (0 : Int32).toNatClampNeg (8 : Int32).toNatClampNeg)) (c0 + 2) (va_cpy ((upR σ (c0 + 1) (va_cpy (σ (c1 + 1)) (σ (c0 + 1)) (0 : Int32).toNatClampNeg (0 : Int32).toNatClampNeg (8 : Int32).toNatClampNeg)) (c1 + 2)) ((upR σ (c0 + 1) (va_cpy (σ (c1 + 1)) (σ (c0 + 1)) (0 : Int32).toNatClampNeg (0 : Int32).toNatClampNeg (8 : Int32).toNatClampNeg)) (c0 + 2)) (0 : Int32).toNatClampNeg (0 : Int32).toNatClampNeg (8 : Int32).toNatClampNeg)) (c0 + 3) (va_cpy ((upR (upR σ (c0 + 1) (va_cpy (σ (c1 + 1)) (σ (c0 + 1)) (0 : Int32).toNatClampNeg (0 : Int32).toNatClampNeg (8 : Int32).toNatClampNeg)) (c0 + 2) (va_cpy ((upR σ (c0 + 1) (va_cpy (σ (c1 + 1)) (σ (c0 + 1)) (0 : Int32).toNatClampNeg (0 : Int32).toNatClampNeg (8 : Int32).toNatClampNeg)) (c1 + 2)) ((upR σ (c0 + 1) (va_cpy (σ (c1 + 1)) (σ (c0 + 1)) (0 : Int32).toNatClampNeg (0 : Int32).toNatClampNeg (8 : Int32).toNatClampNeg)) (c0 + 2)) (0 : Int32).toNatClampNeg (0 : Int32).toNatClampNeg (8 : Int32).toNatClampNeg)) (c1 + 3)) ((upR (upR σ (c0 + 1) (va_cpy (σ (c1 + 1)) (σ (c0 + 1)) (0 : Int32).toNatClampNeg (0 : Int32).toNatClampNeg (8 : Int32).toNatClampNeg)) (c0 + 2) (va_cpy ((upR σ (c0 + 1) (va_cpy (σ (c1 + 1)) (σ (c0 + 1)) (0 : Int32).toNatClampNeg (0 : Int32).toNatClampNeg (8 : Int32).toNatClampNeg)) (c1 + 2)) ((upR σ (c0 + 1) (va_cpy (σ (c1 + 1)) (σ (c0 + 1)) (0 : Int32).toNatClampNeg (0 : Int32).toNatClampNeg (8 : Int32).toNatClampNeg)) (c0 + 2)) (0 : Int32).toNatClampNeg (0 : Int32).toNatClampNeg (8 : Int32).toNatClampNeg)) (c0 + 3)) (0 : Int32).toNatClampNeg (0 : Int32).toNatClampNeg (8 : Int32).toNatClampNeg)) (c0 + 4) (va_cpy ((upR (upR (upR σ (c0 + 1) (va_cpy (σ (c1 + 1)) (σ (c0 + 1)) (0 : Int32).toNatClampNeg (0 : Int32).toNatClampNeg (8 : Int32).toNatClampNeg)) (c0 + 2) (va_cpy ((upR σ (c0 + 1) (va_cpy (σ (c1 + 1)) (σ (c0 + 1)) (0 : Int32).toNatClampNeg (0 : Int32).toNatClampNeg (8 : Int32).toNatClampNeg)) (c1 + 2)) ((upR σ (c0 + 1) (va_cpy (σ (c1 + 1)) (σ (c0 + 1)) (0 : Int32).toNatClampNeg (0 : Int32).toNatClampNeg (8 : Int32).toNatClampNeg)) (c0 + 2)) (0 : Int32).toNatClampNeg (0 : Int32).toNatClampNeg (8 : Int32).toNatClampNeg)) (c0 + 3) (va_cpy ((upR (upR σ (c0 + 1) (va_cpy (σ (c1 + 1)) (σ (c0 + 1)) (0 : Int32).toNatClampNeg (0 : Int32).toNatClampNeg (8 : Int32).toNatClampNeg)) (c0 + 2) (va_cpy ((upR σ (c0 + 1) (va_cpy (σ (c1 + 1)) (σ (c0 + 1)) (0 : Int32).toNatClampNeg (0 : Int32).toNatClampNeg (8 : Int32).toNatClampNeg)) (c1 + 2)) ((upR σ (c0 + 1) (va_cpy (σ (c1 + 1)) (σ (c0 + 1)) (0 : Int32).toNatClampNeg (0 : Int32).toNatClampNeg (8 : Int32).toNatClampNeg)) (c0 + 2)) (0 : Int32).toNatClampNeg (0 : Int32).toNatClampNeg (8 : Int32).toNatClampNeg)) (c1 + 3)) ((upR (upR σ (c0 + 1) (va_cpy (σ (c1 + 1)) (σ (c0 + 1)) (0 : Int32).toNatClampNeg (0 : Int32).toNatClampNeg (8 : Int32).toNatClampNeg)) (c0 + 2) (va_cpy ((upR σ (c0 + 1) (va_cpy (σ (c1 + 1)) (σ (c0 + 1)) (0 : Int32).toNatClampNeg (0 : Int32).toNatClampNeg (8 : Int32).toNatClampNeg)) (c1 + 2)) ((upR σ (c0 + 1) (va_cpy (σ (c1 + 1)) (σ (c0 + 1)) (0 : Int32).toNatClampNeg (0 : Int32).toNatClampNeg (8 : Int32).toNatClampNeg)) (c0 + 2)) (0 : Int32).toNatClampNeg (0 : Int32).toNatClampNeg (8 : Int32).toNatClampNeg)) (c0 + 3)) (0 : Int32).toNatClampNeg (0 : Int32).toNatClampNeg (8 : Int32).toNatClampNeg)) (c1 + 4)) ((upR (upR (upR σ (c0 + 1) (va_cpy (σ (c1 + 1)) (σ (c0 + 1)) (0 : Int32).toNatClampNeg (0 : Int32).toNatClampNeg (8 : Int32).toNatClampNeg)) (c0 + 2) (va_cpy ((upR σ (c0 + 1) (va_cpy (σ (c1 + 1)) (σ (c0 + 1)) (0 : Int32).toNatClampNeg (0 : Int32).toNatClampNeg (8 : Int32).toNatClampNeg)) (c1 + 2)) ((upR σ (c0 + 1) (va_cpy (σ (c1 + 1)) (σ (c0 + 1)) (0 : Int32).toNatClampNeg (0 : Int32).toNatClampNeg (8 : Int32).toNatClampNeg)) (c0 + 2)) (0 : Int32).toNatClampNeg (0 : Int32).toNatClampNeg (8 : Int32).toNatClampNeg)) (c0 + 3) (va_cpy ((upR (upR σ (c0 + 1) (va_cpy (σ (c1 + 1)) (σ (c0 + 1)) (0 : Int32).toNatClampNeg (0 : Int32).toNatClampNeg (8 : Int32).toNatClampNeg)) (c0 + 2) (va_cpy ((upR σ (c0 + 1) (va_cpy (σ (c1 + 1)) (σ (c0 + 1)) (0 : Int32).toNatClampNeg (0 : Int32).toNatClampNeg (8 : Int32).toNatClampNeg)) (c1 + 2)) ((upR σ (c0 + 1) (va_cpy (σ (c1 + 1)) (σ (c0 + 1)) (0 : Int32).toNatClampNeg (0 : Int32).toNatClampNeg (8 : Int32).toNatClampNeg)) (c0 + 2)) (0 : Int32).toNatClampNeg (0 : Int32).toNatClampNeg (8 : Int32).toNatClampNeg)) (c1 + 3)) ((upR (upR σ (c0 + 1) (va_cpy (σ (c1 + 1)) (σ (c0 + 1)) (0 : Int32).toNatClampNeg (0 : Int32).toNatClampNeg (8 : Int32).toNatClampNeg)) (c0 + 2) (va_cpy ((upR σ (c0 + 1) (va_cpy (σ (c1 + 1)) (σ (c0 + 1)) (0 : Int32).toNatClampNeg (0 : Int32).toNatClampNeg (8 : Int32).toNatClampNeg)) (c1 + 2)) ((upR σ (c0 + 1) (va_cpy (σ (c1 + 1)) (σ (c0 + 1)) (0 : Int32).toNatClampNeg (0 : Int32).toNatClampNeg (8 : Int32).toNatClampNeg)) (c0 + 2)) (0 : Int32).toNatClampNeg (0 : Int32).toNatClampNeg (8 : Int32).toNatClampNeg)) (c0 + 3)) (0 : Int32).toNatClampNeg (0 : Int32).toNatClampNeg (8 : Int32).toNatClampNeg)) (c0 + 4)) (0 : Int32).toNatClampNeg (0 : Int32).toNatClampNeg (8 : Int32).toNatClampNeg)) c1 4))) : Ru E mX0_setTo 0 [(0, .ref c0), (1, .ref c1)] [] σ Φ := by
  refine s_aload_n 1 (pc := 0) dX0_setTo_0 rfl rfl ?_
  refine s_getR (q := c1 + 1) (pc := 1) dX0_setTo_1 fl_X0_9 hc1.1 rfl ?_
  refine s_iconst (v := 0) (pc := 4) dX0_setTo_4 rfl ?_
  refine s_aload_n 0 (pc := 5) dX0_setTo_5 rfl rfl ?_
  refine s_getR (q := c0 + 1) (pc := 6) dX0_setTo_6 fl_X0_9 hc0.1 rfl ?_
  refine s_iconst (v := 0) (pc := 9) dX0_setTo_9 rfl ?_
  refine s_bipush (v := 8) (pc := 10) dX0_setTo_10 rfl ?_
  refine s_acopy (pc := 12) dX0_setTo_12 ml_X0_28 mw_ac1 mw_ac2 mw_sys hc1.2.1 hc0.2.1 (by decide) (by decide) (by decide) (by decide) (by decide) (Nat.le_of_ble_eq_true rfl) (Nat.le_of_ble_eq_true rfl) ?_
  refine s_aload_n 1 (pc := 15) dX0_setTo_15 rfl rfl ?_
  refine s_getR (q := c1 + 2) (pc := 16) dX0_setTo_16 fl_X0_15 hc1.1 rfl ?_
  refine s_iconst (v := 0) (pc := 19) dX0_setTo_19 rfl ?_
  refine s_aload_n 0 (pc := 20) dX0_setTo_20 rfl rfl ?_
  refine s_getR (q := c0 + 2) (pc := 21) dX0_setTo_21 fl_X0_15 hc0.1 rfl ?_
  refine s_iconst (v := 0) (pc := 24) dX0_setTo_24 rfl ?_
  refine s_bipush (v := 8) (pc := 25) dX0_setTo_25 rfl ?_
  refine s_acopy (pc := 27) dX0_setTo_27 ml_X0_28 mw_ac1 mw_ac2 mw_sys hc1.2.2.1 hc0.2.2.1 (by decide) (by decide) (by decide) (by decide) (by decide) (Nat.le_of_ble_eq_true rfl) (Nat.le_of_ble_eq_true rfl) ?_
  refine s_aload_n 1 (pc := 30) dX0_setTo_30 rfl rfl ?_
  refine s_getR (q := c1 + 3) (pc := 31) dX0_setTo_31 fl_X0_18 hc1.1 rfl ?_
  refine s_iconst (v := 0) (pc := 34) dX0_setTo_34 rfl ?_
  refine s_aload_n 0 (pc := 35) dX0_setTo_35 rfl rfl ?_
  refine s_getR (q := c0 + 3) (pc := 36) dX0_setTo_36 fl_X0_18 hc0.1 rfl ?_
  refine s_iconst (v := 0) (pc := 39) dX0_setTo_39 rfl ?_
  refine s_bipush (v := 8) (pc := 40) dX0_setTo_40 rfl ?_
  refine s_acopy (pc := 42) dX0_setTo_42 ml_X0_28 mw_ac1 mw_ac2 mw_sys hc1.2.2.2.1 hc0.2.2.2.1 (by decide) (by decide) (by decide) (by decide) (by decide) (Nat.le_of_ble_eq_true rfl) (Nat.le_of_ble_eq_true rfl) ?_
  refine s_aload_n 1 (pc := 45) dX0_setTo_45 rfl rfl ?_
  refine s_getR (q := c1 + 4) (pc := 46) dX0_setTo_46 fl_X0_21 hc1.1 rfl ?_
  refine s_iconst (v := 0) (pc := 49) dX0_setTo_49 rfl ?_
  refine s_aload_n 0 (pc := 50) dX0_setTo_50 rfl rfl ?_
  refine s_getR (q := c0 + 4) (pc := 51) dX0_setTo_51 fl_X0_21 hc0.1 rfl ?_
  refine s_iconst (v := 0) (pc := 54) dX0_setTo_54 rfl ?_
  refine s_bipush (v := 8) (pc := 55) dX0_setTo_55 rfl ?_
  refine s_acopy (pc := 57) dX0_setTo_57 ml_X0_28 mw_ac1 mw_ac2 mw_sys hc1.2.2.2.2 hc0.2.2.2.2 (by decide) (by decide) (by decide) (by decide) (by decide) (Nat.le_of_ble_eq_true rfl) (Nat.le_of_ble_eq_true rfl) ?_
  refine s_aload_n 0 (pc := 60) dX0_setTo_60 rfl rfl ?_
  refine s_aload_n 1 (pc := 61) dX0_setTo_61 rfl rfl ?_
  refine s_getI (v := (upR (upR (upR (upR σ (c0 + 1) (va_cpy (σ (c1 + 1)) (σ (c0 + 1)) (0 : Int32).toNatClampNeg (0 : Int32).toNatClampNeg (8 : Int32).toNatClampNeg)) (c0 + 2) (va_cpy ((upR σ (c0 + 1) (va_cpy (σ (c1 + 1)) (σ (c0 + 1)) (0 : Int32).toNatClampNeg (0 : Int32).toNatClampNeg (8 : Int32).toNatClampNeg)) (c1 + 2)) ((upR σ (c0 + 1) (va_cpy (σ (c1 + 1)) (σ (c0 + 1)) (0 : Int32).toNatClampNeg (0 : Int32).toNatClampNeg (8 : Int32).toNatClampNeg)) (c0 + 2)) (0 : Int32).toNatClampNeg (0 : Int32).toNatClampNeg (8 : Int32).toNatClampNeg)) (c0 + 3) (va_cpy ((upR (upR σ (c0 + 1) (va_cpy (σ (c1 + 1)) (σ (c0 + 1)) (0 : Int32).toNatClampNeg (0 : Int32).toNatClampNeg (8 : Int32).toNatClampNeg)) (c0 + 2) (va_cpy ((upR σ (c0 + 1) (va_cpy (σ (c1 + 1)) (σ (c0 + 1)) (0 : Int32).toNatClampNeg (0 : Int32).toNatClampNeg (8 : Int32).toNatClampNeg)) (c1 + 2)) ((upR σ (c0 + 1) (va_cpy (σ (c1 + 1)) (σ (c0 + 1)) (0 : Int32).toNatClampNeg (0 : Int32).toNatClampNeg (8 : Int32).toNatClampNeg)) (c0 + 2)) (0 : Int32).toNatClampNeg (0 : Int32).toNatClampNeg (8 : Int32).toNatClampNeg)) (c1 + 3)) ((upR (upR σ (c0 + 1) (va_cpy (σ (c1 + 1)) (σ (c0 + 1)) (0 : Int32).toNatClampNeg (0 : Int32).toNatClampNeg (8 : Int32).toNatClampNeg)) (c0 + 2) (va_cpy ((upR σ (c0 + 1) (va_cpy (σ (c1 + 1)) (σ (c0 + 1)) (0 : Int32).toNatClampNeg (0 : Int32).toNatClampNeg (8 : Int32).toNatClampNeg)) (c1 + 2)) ((upR σ (c0 + 1) (va_cpy (σ (c1 + 1)) (σ (c0 + 1)) (0 : Int32).toNatClampNeg (0 : Int32).toNatClampNeg (8 : Int32).toNatClampNeg)) (c0 + 2)) (0 : Int32).toNatClampNeg (0 : Int32).toNatClampNeg (8 : Int32).toNatClampNeg)) (c0 + 3)) (0 : Int32).toNatClampNeg (0 : Int32).toNatClampNeg (8 : Int32).toNatClampNeg)) (c0 + 4) (va_cpy ((upR (upR (upR σ (c0 + 1) (va_cpy (σ (c1 + 1)) (σ (c0 + 1)) (0 : Int32).toNatClampNeg (0 : Int32).toNatClampNeg (8 : Int32).toNatClampNeg)) (c0 + 2) (va_cpy ((upR σ (c0 + 1) (va_cpy (σ (c1 + 1)) (σ (c0 + 1)) (0 : Int32).toNatClampNeg (0 : Int32).toNatClampNeg (8 : Int32).toNatClampNeg)) (c1 + 2)) ((upR σ (c0 + 1) (va_cpy (σ (c1 + 1)) (σ (c0 + 1)) (0 : Int32).toNatClampNeg (0 : Int32).toNatClampNeg (8 : Int32).toNatClampNeg)) (c0 + 2)) (0 : Int32).toNatClampNeg (0 : Int32).toNatClampNeg (8 : Int32).toNatClampNeg)) (c0 + 3) (va_cpy ((upR (upR σ (c0 + 1) (va_cpy (σ (c1 + 1)) (σ (c0 + 1)) (0 : Int32).toNatClampNeg (0 : Int32).toNatClampNeg (8 : Int32).toNatClampNeg)) (c0 + 2) (va_cpy ((upR σ (c0 + 1) (va_cpy (σ (c1 + 1)) (σ (c0 + 1)) (0 : Int32).toNatClampNeg (0 : Int32).toNatClampNeg (8 : Int32).toNatClampNeg)) (c1 + 2)) ((upR σ (c0 + 1) (va_cpy (σ (c1 + 1)) (σ (c0 + 1)) (0 : Int32).toNatClampNeg (0 : Int32).toNatClampNeg (8 : Int32).toNatClampNeg)) (c0 + 2)) (0 : Int32).toNatClampNeg (0 : Int32).toNatClampNeg (8 : Int32).toNatClampNeg)) (c1 + 3)) ((upR (upR σ (c0 + 1) (va_cpy (σ (c1 + 1)) (σ (c0 + 1)) (0 : Int32).toNatClampNeg (0 : Int32).toNatClampNeg (8 : Int32).toNatClampNeg)) (c0 + 2) (va_cpy ((upR σ (c0 + 1) (va_cpy (σ (c1 + 1)) (σ (c0 + 1)) (0 : Int32).toNatClampNeg (0 : Int32).toNatClampNeg (8 : Int32).toNatClampNeg)) (c1 + 2)) ((upR σ (c0 + 1) (va_cpy (σ (c1 + 1)) (σ (c0 + 1)) (0 : Int32).toNatClampNeg (0 : Int32).toNatClampNeg (8 : Int32).toNatClampNeg)) (c0 + 2)) (0 : Int32).toNatClampNeg (0 : Int32).toNatClampNeg (8 : Int32).toNatClampNeg)) (c0 + 3)) (0 : Int32).toNatClampNeg (0 : Int32).toNatClampNeg (8 : Int32).toNatClampNeg)) (c1 + 4)) ((upR (upR (upR σ (c0 + 1) (va_cpy (σ (c1 + 1)) (σ (c0 + 1)) (0 : Int32).toNatClampNeg (0 : Int32).toNatClampNeg (8 : Int32).toNatClampNeg)) (c0 + 2) (va_cpy ((upR σ (c0 + 1) (va_cpy (σ (c1 + 1)) (σ (c0 + 1)) (0 : Int32).toNatClampNeg (0 : Int32).toNatClampNeg (8 : Int32).toNatClampNeg)) (c1 + 2)) ((upR σ (c0 + 1) (va_cpy (σ (c1 + 1)) (σ (c0 + 1)) (0 : Int32).toNatClampNeg (0 : Int32).toNatClampNeg (8 : Int32).toNatClampNeg)) (c0 + 2)) (0 : Int32).toNatClampNeg (0 : Int32).toNatClampNeg (8 : Int32).toNatClampNeg)) (c0 + 3) (va_cpy ((upR (upR σ (c0 + 1) (va_cpy (σ (c1 + 1)) (σ (c0 + 1)) (0 : Int32).toNatClampNeg (0 : Int32).toNatClampNeg (8 : Int32).toNatClampNeg)) (c0 + 2) (va_cpy ((upR σ (c0 + 1) (va_cpy (σ (c1 + 1)) (σ (c0 + 1)) (0 : Int32).toNatClampNeg (0 : Int32).toNatClampNeg (8 : Int32).toNatClampNeg)) (c1 + 2)) ((upR σ (c0 + 1) (va_cpy (σ (c1 + 1)) (σ (c0 + 1)) (0 : Int32).toNatClampNeg (0 : Int32).toNatClampNeg (8 : Int32).toNatClampNeg)) (c0 + 2)) (0 : Int32).toNatClampNeg (0 : Int32).toNatClampNeg (8 : Int32).toNatClampNeg)) (c1 + 3)) ((upR (upR σ (c0 + 1) (va_cpy (σ (c1 + 1)) (σ (c0 + 1)) (0 : Int32).toNatClampNeg (0 : Int32).toNatClampNeg (8 : Int32).toNatClampNeg)) (c0 + 2) (va_cpy ((upR σ (c0 + 1) (va_cpy (σ (c1 + 1)) (σ (c0 + 1)) (0 : Int32).toNatClampNeg (0 : Int32).toNatClampNeg (8 : Int32).toNatClampNeg)) (c1 + 2)) ((upR σ (c0 + 1) (va_cpy (σ (c1 + 1)) (σ (c0 + 1)) (0 : Int32).toNatClampNeg (0 : Int32).toNatClampNeg (8 : Int32).toNatClampNeg)) (c0 + 2)) (0 : Int32).toNatClampNeg (0 : Int32).toNatClampNeg (8 : Int32).toNatClampNeg)) (c0 + 3)) (0 : Int32).toNatClampNeg (0 : Int32).toNatClampNeg (8 : Int32).toNatClampNeg)) (c0 + 4)) (0 : Int32).toNatClampNeg (0 : Int32).toNatClampNeg (8 : Int32).toNatClampNeg)) c1 4) (pc := 62) dX0_setTo_62 fl_X0_24 hc1.1 rfl rfl ?_
  refine s_put (ty := .int) (pc := 65) dX0_setTo_65 fp_X0_24 hc0.1 rfl rfl rfl ?_
  exact s_ret (r := none) dX0_setTo_68 rfl h
set_option maxRecDepth 10000 in
set_option maxHeartbeats 4000000 in
theorem tX0_swapSpreads_0 {E : Ev} {c0 : Nat} {x1 : Int32} {x2 : Int32} {σ : Hp} {Φ : Option Value → Hp → Prop} (hc0 : IsCpl c0) (h : vp_in x1 8 ∧ vp_in x2 8 ∧ Φ none (up (up σ (c0 + 3) ((x1).toNatClampNeg) (σ (c0 + 3) ((x2).toNatClampNeg))) (c0 + 3) ((x2).toNatClampNeg) (σ (c0 + 3) ((x1).toNatClampNeg)))) : Ru E mX0_swapSpreads 0 [(0, .ref c0), (1, .int x1), (2, .int x2)] [] σ Φ := by
  refine s_aload_n 0 (pc := 0) dX0_swapSpreads_0 rfl rfl ?_
  refine s_getR (q := c0 + 3) (pc := 1) dX0_swapSpreads_1 fl_X0_18 hc0.1 rfl ?_
  refine s_iload_n 1 (pc := 4) dX0_swapSpreads_4 rfl rfl ?_
  have hv1 := h.1
  replace h := h.2
  refine s_iald (pc := 5) dX0_swapSpreads_5 hc0.2.2.2.1 hv1 ?_
  refine s_istore_n (L' := [(3, .int (σ (c0 + 3) ((x1).toNatClampNeg))), (0, .ref c0), (1, .int x1), (2, .int x2)]) (pc := 6) dX0_swapSpreads_6 rfl (Nat.le_of_ble_eq_true rfl) rfl ?_
  refine s_aload_n 1 (pc := 7) dX0_swapSpreads_7 rfl rfl ?_
  refine s_getR (q := c0 + 3) (pc := 8) dX0_swapSpreads_8 fl_X0_18 hc0.1 rfl ?_
  refine s_iload_n 2 (pc := 11) dX0_swapSpreads_11 rfl rfl ?_
  refine s_aload_n 1 (pc := 12) dX0_swapSpreads_12 rfl rfl ?_
  refine s_getR (q := c0 + 3) (pc := 13) dX0_swapSpreads_13 fl_X0_18 hc0.1 rfl ?_
  refine s_iload_n 3 (pc := 16) dX0_swapSpreads_16 rfl rfl ?_
  have hv2 := h.1
  replace h := h.2
  refine s_iald (pc := 17) dX0_swapSpreads_17 hc0.2.2.2.1 hv2 ?_
  refine s_iast (pc := 18) dX0_swapSpreads_18 hc0.2.2.2.1 hv1 ?_
  refine s_aload_n 1 (pc := 19) dX0_swapSpreads_19 rfl rfl ?_
  refine s_getR (q := c0 + 3) (pc := 20) dX0_swapSpreads_20 fl_X0_18 hc0.1 rfl ?_
  refine s_iload_n 3 (pc := 23) dX0_swapSpreads_23 rfl rfl ?_
  refine s_iload_n 0 (pc := 24) dX0_swapSpreads_24 rfl rfl ?_
  refine s_iast (pc := 25) dX0_swapSpreads_25 hc0.2.2.2.1 hv2 ?_
  exact s_ret (r := none) dX0_swapSpreads_26 rfl h
set_option maxRecDepth 10000 in
set_option maxHeartbeats 4000000 in
theorem tX1_mayBe_0 {E : Ev} {x0 : Int32} {x1 : Int32} {x2 : Int32} {x3 : Int32} {σ : Hp} {Φ : Option Value → Hp → Prop}  (h : ∃ (r3 : Int32) (σ1 : Hp), Call E mX7_isWithin [.int x0, .int 0, .int 2] σ (some (.int r3)) σ1 ∧ ((r3 = 0 → Φ (some (.int 0)) σ1) ∧ (¬ r3 = 0 → ∃ (r7 : Int32) (σ5 : Hp), Call E mX7_isDay [.int x1] σ1 (some (.int r7)) σ5 ∧ ((r7 = 0 → Φ (some (.int 0)) σ5) ∧ (¬ r7 = 0 → ∃ (r11 : Int32) (σ9 : Hp), Call E mX7_isWithin [.int x2, .int 0, .int 7] σ5 (some (.int r11)) σ9 ∧ ((r11 = 0 → Φ (some (.int 0)) σ9) ∧ (¬ r11 = 0 → ∃ (r15 : Int32) (σ13 : Hp), Call E mX7_isWithin [.int x3, .int 0, .int 9] σ9 (some (.int r15)) σ13 ∧ ((r15 = 0 → Φ (some (.int 0)) σ13) ∧ (¬ r15 = 0 → Φ (some (.int 1)) σ13))))))))) : Ru E mX1_mayBe 0 [(0, .int x0), (1, .int x1), (2, .int x2), (3, .int x3)] [] σ Φ := by
  refine s_iload_n 0 (pc := 0) dX1_mayBe_0 rfl rfl ?_
  refine s_iconst (v := 0) (pc := 1) dX1_mayBe_1 rfl ?_
  refine s_iconst (v := 2) (pc := 2) dX1_mayBe_2 rfl ?_
  obtain ⟨r3, σ1, hk2, h⟩ := h
  refine s_callSN (S := []) [.int x0, .int 0, .int 2] (pc := 3) dX1_mayBe_3 ms_X7_isWithin ml_X1_27 ⟨Nat.le_of_ble_eq_true rfl, Nat.le_of_ble_eq_true rfl⟩ rfl rfl (Nat.le_of_ble_eq_true rfl) hk2 ?_
  refine s_if_eq (pc := 6) (tgt := 40) dX1_mayBe_6 rfl (fun q4 => ?_) (fun q4 => ?_)
  · replace h := h.1 q4
    refine s_iconst (v := 0) (pc := 40) dX1_mayBe_40 rfl ?_
    exact s_ret (r := some (.int 0)) ⟨dX1_mayBe_41, fun ty e => by cases e; rfl⟩ rfl h
  · replace h := h.2 q4
    refine s_iload_n 1 (pc := 9) dX1_mayBe_9 rfl rfl ?_
    obtain ⟨r7, σ5, hk6, h⟩ := h
    refine s_callSN (S := []) [.int x1] (pc := 10) dX1_mayBe_10 ms_X7_isDay ml_X1_31 ⟨Nat.le_of_ble_eq_true rfl, Nat.le_of_ble_eq_true rfl⟩ rfl rfl (Nat.le_of_ble_eq_true rfl) hk6 ?_
    refine s_if_eq (pc := 13) (tgt := 40) dX1_mayBe_13 rfl (fun q8 => ?_) (fun q8 => ?_)
    · replace h := h.1 q8
      refine s_iconst (v := 0) (pc := 40) dX1_mayBe_40 rfl ?_
      exact s_ret (r := some (.int 0)) ⟨dX1_mayBe_41, fun ty e => by cases e; rfl⟩ rfl h
    · replace h := h.2 q8
      refine s_iload_n 2 (pc := 16) dX1_mayBe_16 rfl rfl ?_
      refine s_iconst (v := 0) (pc := 17) dX1_mayBe_17 rfl ?_
      refine s_bipush (v := 7) (pc := 18) dX1_mayBe_18 rfl ?_
      obtain ⟨r11, σ9, hk10, h⟩ := h
      refine s_callSN (S := []) [.int x2, .int 0, .int 7] (pc := 20) dX1_mayBe_20 ms_X7_isWithin ml_X1_27 ⟨Nat.le_of_ble_eq_true rfl, Nat.le_of_ble_eq_true rfl⟩ rfl rfl (Nat.le_of_ble_eq_true rfl) hk10 ?_
      refine s_if_eq (pc := 23) (tgt := 40) dX1_mayBe_23 rfl (fun q12 => ?_) (fun q12 => ?_)
      · replace h := h.1 q12
        refine s_iconst (v := 0) (pc := 40) dX1_mayBe_40 rfl ?_
        exact s_ret (r := some (.int 0)) ⟨dX1_mayBe_41, fun ty e => by cases e; rfl⟩ rfl h
      · replace h := h.2 q12
        refine s_iload_n 3 (pc := 26) dX1_mayBe_26 rfl rfl ?_
        refine s_iconst (v := 0) (pc := 27) dX1_mayBe_27 rfl ?_
        refine s_bipush (v := 9) (pc := 28) dX1_mayBe_28 rfl ?_
        obtain ⟨r15, σ13, hk14, h⟩ := h
        refine s_callSN (S := []) [.int x3, .int 0, .int 9] (pc := 30) dX1_mayBe_30 ms_X7_isWithin ml_X1_27 ⟨Nat.le_of_ble_eq_true rfl, Nat.le_of_ble_eq_true rfl⟩ rfl rfl (Nat.le_of_ble_eq_true rfl) hk14 ?_
        refine s_if_eq (pc := 33) (tgt := 40) dX1_mayBe_33 rfl (fun q16 => ?_) (fun q16 => ?_)
        · replace h := h.1 q16
          refine s_iconst (v := 0) (pc := 40) dX1_mayBe_40 rfl ?_
          exact s_ret (r := some (.int 0)) ⟨dX1_mayBe_41, fun ty e => by cases e; rfl⟩ rfl h
        · replace h := h.2 q16
          refine s_iconst (v := 1) (pc := 36) dX1_mayBe_36 rfl ?_
          refine s_goto (pc := 37) (tgt := 41) dX1_mayBe_37 rfl ?_
          exact s_ret (r := some (.int 1)) ⟨dX1_mayBe_41, fun ty e => by cases e; rfl⟩ rfl h
set_option maxRecDepth 10000 in
set_option maxHeartbeats 4000000 in
theorem tX1_isFull_0 {E : Ev} {c0 : Nat} {σ : Hp} {Φ : Option Value → Hp → Prop} (hc0 : IsEvt c0) (h : (((σ c0 5) < 8 → Φ (some (.int 0)) σ) ∧ (¬ (σ c0 5) < 8 → Φ (some (.int 1)) σ))) : Ru E mX1_isFull 0 [(0, .ref c0)] [] σ Φ := by
  refine s_aload_n 0 (pc := 0) dX1_isFull_0 rfl rfl ?_
  refine s_getI (v := σ c0 5) (pc := 1) dX1_isFull_1 fl_X1_35 hc0.1 rfl rfl ?_
  refine s_bipush (v := 8) (pc := 4) dX1_isFull_4 rfl ?_
  refine s_icmp_lt (pc := 6) (tgt := 13) dX1_isFull_6 rfl (fun q1 => ?_) (fun q1 => ?_)
  · replace h := h.1 q1
    refine s_iconst (v := 0) (pc := 13) dX1_isFull_13 rfl ?_
    exact s_ret (r := some (.int 0)) ⟨dX1_isFull_14, fun ty e => by cases e; rfl⟩ rfl h
  · replace h := h.2 q1
    refine s_iconst (v := 1) (pc := 9) dX1_isFull_9 rfl ?_
    refine s_goto (pc := 10) (tgt := 14) dX1_isFull_10 rfl ?_
    exact s_ret (r := some (.int 1)) ⟨dX1_isFull_14, fun ty e => by cases e; rfl⟩ rfl h
set_option maxRecDepth 10000 in
set_option maxHeartbeats 4000000 in
theorem tX1_all_0 {E : Ev} {c0 : Nat} {σ : Hp} {Φ : Option Value → Hp → Prop} (hc0 : IsEvt c0) (h : Φ (some (.int ((1 <<< ((σ c0 5) &&& 31)) - 1))) σ) : Ru E mX1_all 0 [(0, .ref c0)] [] σ Φ := by
  refine s_iconst (v := 1) (pc := 0) dX1_all_0 rfl ?_
  refine s_aload_n 0 (pc := 1) dX1_all_1 rfl rfl ?_
  refine s_getI (v := σ c0 5) (pc := 2) dX1_all_2 fl_X1_35 hc0.1 rfl rfl ?_
  refine s_ishl (pc := 5) dX1_all_5 ?_
  refine s_iconst (v := 1) (pc := 6) dX1_all_6 rfl ?_
  refine s_isub (pc := 7) dX1_all_7 ?_
  exact s_ret (r := some (.int ((1 <<< ((σ c0 5) &&& 31)) - 1))) ⟨dX1_all_8, fun ty e => by cases e; rfl⟩ rfl h
set_option maxRecDepth 10000 in
set_option maxHeartbeats 4000000 in
theorem tX1_tell_0 {E : Ev} {c0 : Nat} {x1 : Int32} {x2 : Int32} {x3 : Int32} {x4 : Int32} {σ : Hp} {Φ : Option Value → Hp → Prop} (hc0 : IsEvt c0) (h : ∃ (r3 : Int32) (σ1 : Hp), Call E mX1_isFull [.ref c0] σ (some (.int r3)) σ1 ∧ ((r3 = 0 → vp_in (σ1 c0 5) 8 ∧ vp_in ((up σ1 (c0 + 1) ((σ1 c0 5).toNatClampNeg) x1) c0 5) 8 ∧ vp_in ((up (up σ1 (c0 + 1) ((σ1 c0 5).toNatClampNeg) x1) (c0 + 2) (((up σ1 (c0 + 1) ((σ1 c0 5).toNatClampNeg) x1) c0 5).toNatClampNeg) x2) c0 5) 8 ∧ vp_in ((up (up (up σ1 (c0 + 1) ((σ1 c0 5).toNatClampNeg) x1) (c0 + 2) (((up σ1 (c0 + 1) ((σ1 c0 5).toNatClampNeg) x1) c0 5).toNatClampNeg) x2) (c0 + 3) (((up (up σ1 (c0 + 1) ((σ1 c0 5).toNatClampNeg) x1) (c0 + 2) (((up σ1 (c0 + 1) ((σ1 c0 5).toNatClampNeg) x1) c0 5).toNatClampNeg) x2) c0 5).toNatClampNeg) x3) c0 5) 8 ∧ Ru E mX1_tell 55 [(0, .ref c0), (1, .int x1), (2, .int x2), (3, .int x3), (4, .int x4), (5, .int ((up (up (up (up σ1 (c0 + 1) ((σ1 c0 5).toNatClampNeg) x1) (c0 + 2) (((up σ1 (c0 + 1) ((σ1 c0 5).toNatClampNeg) x1) c0 5).toNatClampNeg) x2) (c0 + 3) (((up (up σ1 (c0 + 1) ((σ1 c0 5).toNatClampNeg) x1) (c0 + 2) (((up σ1 (c0 + 1) ((σ1 c0 5).toNatClampNeg) x1) c0 5).toNatClampNeg) x2) c0 5).toNatClampNeg) x3) (c0 + 4) (((up (up (up σ1 (c0 + 1) ((σ1 c0 5).toNatClampNeg) x1) (c0 + 2) (((up σ1 (c0 + 1) ((σ1 c0 5).toNatClampNeg) x1) c0 5).toNatClampNeg) x2) (c0 + 3) (((up (up σ1 (c0 + 1) ((σ1 c0 5).toNatClampNeg) x1) (c0 + 2) (((up σ1 (c0 + 1) ((σ1 c0 5).toNatClampNeg) x1) c0 5).toNatClampNeg) x2) c0 5).toNatClampNeg) x3) c0 5).toNatClampNeg) x4) c0 5))] [] (up (up (up (up σ1 (c0 + 1) ((σ1 c0 5).toNatClampNeg) x1) (c0 + 2) (((up σ1 (c0 + 1) ((σ1 c0 5).toNatClampNeg) x1) c0 5).toNatClampNeg) x2) (c0 + 3) (((up (up σ1 (c0 + 1) ((σ1 c0 5).toNatClampNeg) x1) (c0 + 2) (((up σ1 (c0 + 1) ((σ1 c0 5).toNatClampNeg) x1) c0 5).toNatClampNeg) x2) c0 5).toNatClampNeg) x3) (c0 + 4) (((up (up (up σ1 (c0 + 1) ((σ1 c0 5).toNatClampNeg) x1) (c0 + 2) (((up σ1 (c0 + 1) ((σ1 c0 5).toNatClampNeg) x1) c0 5).toNatClampNeg) x2) (c0 + 3) (((up (up σ1 (c0 + 1) ((σ1 c0 5).toNatClampNeg) x1) (c0 + 2) (((up σ1 (c0 + 1) ((σ1 c0 5).toNatClampNeg) x1) c0 5).toNatClampNeg) x2) c0 5).toNatClampNeg) x3) c0 5).toNatClampNeg) x4) Φ) ∧ (¬ r3 = 0 → Φ none σ1))) : Ru E mX1_tell 0 [(0, .ref c0), (1, .int x1), (2, .int x2), (3, .int x3), (4, .int x4)] [] σ Φ := by
  refine s_aload_n 0 (pc := 0) dX1_tell_0 rfl rfl ?_
  obtain ⟨r3, σ1, hk2, h⟩ := h
  refine s_callV (S := []) [] (pc := 1) dX1_tell_1 mv_X1_isFull ml_X1_39 ⟨Nat.le_of_ble_eq_true rfl, Nat.le_of_ble_eq_true rfl⟩ rfl rfl hc0.1 rfl rfl (Nat.le_of_ble_eq_true rfl) hk2 ?_
  refine s_if_eq (pc := 4) (tgt := 8) dX1_tell_4 rfl (fun q4 => ?_) (fun q4 => ?_)
  · replace h := h.1 q4
    refine s_aload_n 0 (pc := 8) dX1_tell_8 rfl rfl ?_
    refine s_getR (q := c0 + 1) (pc := 9) dX1_tell_9 fl_X1_9 hc0.1 rfl ?_
    refine s_aload_n 0 (pc := 12) dX1_tell_12 rfl rfl ?_
    refine s_getI (v := σ1 c0 5) (pc := 13) dX1_tell_13 fl_X1_35 hc0.1 rfl rfl ?_
    refine s_iload_n 1 (pc := 16) dX1_tell_16 rfl rfl ?_
    have hv5 := h.1
    replace h := h.2
    refine s_iast (pc := 17) dX1_tell_17 hc0.2.1 hv5 ?_
    refine s_aload_n 0 (pc := 18) dX1_tell_18 rfl rfl ?_
    refine s_getR (q := c0 + 2) (pc := 19) dX1_tell_19 fl_X1_15 hc0.1 rfl ?_
    refine s_aload_n 0 (pc := 22) dX1_tell_22 rfl rfl ?_
    refine s_getI (v := (up σ1 (c0 + 1) ((σ1 c0 5).toNatClampNeg) x1) c0 5) (pc := 23) dX1_tell_23 fl_X1_35 hc0.1 rfl rfl ?_
    refine s_iload_n 2 (pc := 26) dX1_tell_26 rfl rfl ?_
    have hv6 := h.1
    replace h := h.2
    refine s_iast (pc := 27) dX1_tell_27 hc0.2.2.1 hv6 ?_
    refine s_aload_n 0 (pc := 28) dX1_tell_28 rfl rfl ?_
    refine s_getR (q := c0 + 3) (pc := 29) dX1_tell_29 fl_X1_18 hc0.1 rfl ?_
    refine s_aload_n 0 (pc := 32) dX1_tell_32 rfl rfl ?_
    refine s_getI (v := (up (up σ1 (c0 + 1) ((σ1 c0 5).toNatClampNeg) x1) (c0 + 2) (((up σ1 (c0 + 1) ((σ1 c0 5).toNatClampNeg) x1) c0 5).toNatClampNeg) x2) c0 5) (pc := 33) dX1_tell_33 fl_X1_35 hc0.1 rfl rfl ?_
    refine s_iload_n 3 (pc := 36) dX1_tell_36 rfl rfl ?_
    have hv7 := h.1
    replace h := h.2
    refine s_iast (pc := 37) dX1_tell_37 hc0.2.2.2.1 hv7 ?_
    refine s_aload_n 0 (pc := 38) dX1_tell_38 rfl rfl ?_
    refine s_getR (q := c0 + 4) (pc := 39) dX1_tell_39 fl_X1_21 hc0.1 rfl ?_
    refine s_aload_n 0 (pc := 42) dX1_tell_42 rfl rfl ?_
    refine s_getI (v := (up (up (up σ1 (c0 + 1) ((σ1 c0 5).toNatClampNeg) x1) (c0 + 2) (((up σ1 (c0 + 1) ((σ1 c0 5).toNatClampNeg) x1) c0 5).toNatClampNeg) x2) (c0 + 3) (((up (up σ1 (c0 + 1) ((σ1 c0 5).toNatClampNeg) x1) (c0 + 2) (((up σ1 (c0 + 1) ((σ1 c0 5).toNatClampNeg) x1) c0 5).toNatClampNeg) x2) c0 5).toNatClampNeg) x3) c0 5) (pc := 43) dX1_tell_43 fl_X1_35 hc0.1 rfl rfl ?_
    refine s_iload 4 (pc := 46) dX1_tell_46 rfl ?_
    have hv8 := h.1
    replace h := h.2
    refine s_iast (pc := 48) dX1_tell_48 hc0.2.2.2.2.1 hv8 ?_
    refine s_aload_n 0 (pc := 49) dX1_tell_49 rfl rfl ?_
    refine s_getI (v := (up (up (up (up σ1 (c0 + 1) ((σ1 c0 5).toNatClampNeg) x1) (c0 + 2) (((up σ1 (c0 + 1) ((σ1 c0 5).toNatClampNeg) x1) c0 5).toNatClampNeg) x2) (c0 + 3) (((up (up σ1 (c0 + 1) ((σ1 c0 5).toNatClampNeg) x1) (c0 + 2) (((up σ1 (c0 + 1) ((σ1 c0 5).toNatClampNeg) x1) c0 5).toNatClampNeg) x2) c0 5).toNatClampNeg) x3) (c0 + 4) (((up (up (up σ1 (c0 + 1) ((σ1 c0 5).toNatClampNeg) x1) (c0 + 2) (((up σ1 (c0 + 1) ((σ1 c0 5).toNatClampNeg) x1) c0 5).toNatClampNeg) x2) (c0 + 3) (((up (up σ1 (c0 + 1) ((σ1 c0 5).toNatClampNeg) x1) (c0 + 2) (((up σ1 (c0 + 1) ((σ1 c0 5).toNatClampNeg) x1) c0 5).toNatClampNeg) x2) c0 5).toNatClampNeg) x3) c0 5).toNatClampNeg) x4) c0 5) (pc := 50) dX1_tell_50 fl_X1_35 hc0.1 rfl rfl ?_
    refine s_istore (L' := [(5, .int ((up (up (up (up σ1 (c0 + 1) ((σ1 c0 5).toNatClampNeg) x1) (c0 + 2) (((up σ1 (c0 + 1) ((σ1 c0 5).toNatClampNeg) x1) c0 5).toNatClampNeg) x2) (c0 + 3) (((up (up σ1 (c0 + 1) ((σ1 c0 5).toNatClampNeg) x1) (c0 + 2) (((up σ1 (c0 + 1) ((σ1 c0 5).toNatClampNeg) x1) c0 5).toNatClampNeg) x2) c0 5).toNatClampNeg) x3) (c0 + 4) (((up (up (up σ1 (c0 + 1) ((σ1 c0 5).toNatClampNeg) x1) (c0 + 2) (((up σ1 (c0 + 1) ((σ1 c0 5).toNatClampNeg) x1) c0 5).toNatClampNeg) x2) (c0 + 3) (((up (up σ1 (c0 + 1) ((σ1 c0 5).toNatClampNeg) x1) (c0 + 2) (((up σ1 (c0 + 1) ((σ1 c0 5).toNatClampNeg) x1) c0 5).toNatClampNeg) x2) c0 5).toNatClampNeg) x3) c0 5).toNatClampNeg) x4) c0 5)), (0, .ref c0), (1, .int x1), (2, .int x2), (3, .int x3), (4, .int x4)]) (pc := 53) dX1_tell_53 (Nat.le_of_ble_eq_true rfl) rfl ?_
    exact s_sub (L' := [(0, .ref c0), (1, .int x1), (2, .int x2), (3, .int x3), (4, .int x4), (5, .int ((up (up (up (up σ1 (c0 + 1) ((σ1 c0 5).toNatClampNeg) x1) (c0 + 2) (((up σ1 (c0 + 1) ((σ1 c0 5).toNatClampNeg) x1) c0 5).toNatClampNeg) x2) (c0 + 3) (((up (up σ1 (c0 + 1) ((σ1 c0 5).toNatClampNeg) x1) (c0 + 2) (((up σ1 (c0 + 1) ((σ1 c0 5).toNatClampNeg) x1) c0 5).toNatClampNeg) x2) c0 5).toNatClampNeg) x3) (c0 + 4) (((up (up (up σ1 (c0 + 1) ((σ1 c0 5).toNatClampNeg) x1) (c0 + 2) (((up σ1 (c0 + 1) ((σ1 c0 5).toNatClampNeg) x1) c0 5).toNatClampNeg) x2) (c0 + 3) (((up (up σ1 (c0 + 1) ((σ1 c0 5).toNatClampNeg) x1) (c0 + 2) (((up σ1 (c0 + 1) ((σ1 c0 5).toNatClampNeg) x1) c0 5).toNatClampNeg) x2) c0 5).toNatClampNeg) x3) c0 5).toNatClampNeg) x4) c0 5))]) [1, 2, 3, 4, 5, 0] rfl h
  · replace h := h.2 q4
    exact s_ret (r := none) dX1_tell_7 rfl h
set_option maxRecDepth 10000 in
set_option maxHeartbeats 4000000 in
theorem tX1_tell_55 {E : Ev} {c0 : Nat} {x1 : Int32} {x2 : Int32} {x3 : Int32} {x4 : Int32} {x5 : Int32} {σ : Hp} {Φ : Option Value → Hp → Prop} (hc0 : IsEvt c0) (h : ((x5 ≤ 0 → vp_in x5 8 ∧ Φ none (up (up σ (c0 + 5) ((x5).toNatClampNeg) (σ c0 5)) c0 5 (((up σ (c0 + 5) ((x5).toNatClampNeg) (σ c0 5)) c0 5) + 1))) ∧ (¬ x5 ≤ 0 → vp_in (x5 - 1) 8 ∧ vp_in (σ (c0 + 5) ((x5 - 1).toNatClampNeg)) 8 ∧ (((σ (c0 + 2) ((σ (c0 + 5) ((x5 - 1).toNatClampNeg)).toNatClampNeg)) ≤ x2 → vp_in x5 8 ∧ Φ none (up (up σ (c0 + 5) ((x5).toNatClampNeg) (σ c0 5)) c0 5 (((up σ (c0 + 5) ((x5).toNatClampNeg) (σ c0 5)) c0 5) + 1))) ∧ (¬ (σ (c0 + 2) ((σ (c0 + 5) ((x5 - 1).toNatClampNeg)).toNatClampNeg)) ≤ x2 → vp_in x5 8 ∧ Ru E mX1_tell 55 [(0, .ref c0), (1, .int x1), (2, .int x2), (3, .int x3), (4, .int x4), (5, .int (x5 + (-1)))] [] (up σ (c0 + 5) ((x5).toNatClampNeg) (σ (c0 + 5) ((x5 - 1).toNatClampNeg))) Φ))))) : Ru E mX1_tell 55 [(0, .ref c0), (1, .int x1), (2, .int x2), (3, .int x3), (4, .int x4), (5, .int x5)] [] σ Φ := by
  refine s_iload 5 (pc := 55) dX1_tell_55 rfl ?_
  refine s_if_le (pc := 57) (tgt := 100) dX1_tell_57 rfl (fun q1 => ?_) (fun q1 => ?_)
  · replace h := h.1 q1
    refine s_aload_n 0 (pc := 100) dX1_tell_100 rfl rfl ?_
    refine s_getR (q := c0 + 5) (pc := 101) dX1_tell_101 fl_X1_24 hc0.1 rfl ?_
    refine s_iload 5 (pc := 104) dX1_tell_104 rfl ?_
    refine s_aload_n 0 (pc := 106) dX1_tell_106 rfl rfl ?_
    refine s_getI (v := σ c0 5) (pc := 107) dX1_tell_107 fl_X1_35 hc0.1 rfl rfl ?_
    have hv2 := h.1
    replace h := h.2
    refine s_iast (pc := 110) dX1_tell_110 hc0.2.2.2.2.2 hv2 ?_
    refine s_aload_n 0 (pc := 111) dX1_tell_111 rfl rfl ?_
    refine s_dup (pc := 112) dX1_tell_112 rfl ?_
    refine s_getI (v := (up σ (c0 + 5) ((x5).toNatClampNeg) (σ c0 5)) c0 5) (pc := 113) dX1_tell_113 fl_X1_35 hc0.1 rfl rfl ?_
    refine s_iconst (v := 1) (pc := 116) dX1_tell_116 rfl ?_
    refine s_iadd (pc := 117) dX1_tell_117 ?_
    refine s_put (ty := .int) (pc := 118) dX1_tell_118 fp_X1_35 hc0.1 rfl rfl rfl ?_
    exact s_ret (r := none) dX1_tell_121 rfl h
  · replace h := h.2 q1
    refine s_aload_n 0 (pc := 60) dX1_tell_60 rfl rfl ?_
    refine s_getR (q := c0 + 2) (pc := 61) dX1_tell_61 fl_X1_15 hc0.1 rfl ?_
    refine s_aload_n 0 (pc := 64) dX1_tell_64 rfl rfl ?_
    refine s_getR (q := c0 + 5) (pc := 65) dX1_tell_65 fl_X1_24 hc0.1 rfl ?_
    refine s_iload 5 (pc := 68) dX1_tell_68 rfl ?_
    refine s_iconst (v := 1) (pc := 70) dX1_tell_70 rfl ?_
    refine s_isub (pc := 71) dX1_tell_71 ?_
    have hv3 := h.1
    replace h := h.2
    refine s_iald (pc := 72) dX1_tell_72 hc0.2.2.2.2.2 hv3 ?_
    have hv4 := h.1
    replace h := h.2
    refine s_iald (pc := 73) dX1_tell_73 hc0.2.2.1 hv4 ?_
    refine s_iload_n 2 (pc := 74) dX1_tell_74 rfl rfl ?_
    refine s_icmp_le (pc := 75) (tgt := 100) dX1_tell_75 rfl (fun q5 => ?_) (fun q5 => ?_)
    · replace h := h.1 q5
      refine s_aload_n 0 (pc := 100) dX1_tell_100 rfl rfl ?_
      refine s_getR (q := c0 + 5) (pc := 101) dX1_tell_101 fl_X1_24 hc0.1 rfl ?_
      refine s_iload 5 (pc := 104) dX1_tell_104 rfl ?_
      refine s_aload_n 0 (pc := 106) dX1_tell_106 rfl rfl ?_
      refine s_getI (v := σ c0 5) (pc := 107) dX1_tell_107 fl_X1_35 hc0.1 rfl rfl ?_
      have hv6 := h.1
      replace h := h.2
      refine s_iast (pc := 110) dX1_tell_110 hc0.2.2.2.2.2 hv6 ?_
      refine s_aload_n 0 (pc := 111) dX1_tell_111 rfl rfl ?_
      refine s_dup (pc := 112) dX1_tell_112 rfl ?_
      refine s_getI (v := (up σ (c0 + 5) ((x5).toNatClampNeg) (σ c0 5)) c0 5) (pc := 113) dX1_tell_113 fl_X1_35 hc0.1 rfl rfl ?_
      refine s_iconst (v := 1) (pc := 116) dX1_tell_116 rfl ?_
      refine s_iadd (pc := 117) dX1_tell_117 ?_
      refine s_put (ty := .int) (pc := 118) dX1_tell_118 fp_X1_35 hc0.1 rfl rfl rfl ?_
      exact s_ret (r := none) dX1_tell_121 rfl h
    · replace h := h.2 q5
      refine s_aload_n 0 (pc := 78) dX1_tell_78 rfl rfl ?_
      refine s_getR (q := c0 + 5) (pc := 79) dX1_tell_79 fl_X1_24 hc0.1 rfl ?_
      refine s_iload 5 (pc := 82) dX1_tell_82 rfl ?_
      refine s_aload_n 0 (pc := 84) dX1_tell_84 rfl rfl ?_
      refine s_getR (q := c0 + 5) (pc := 85) dX1_tell_85 fl_X1_24 hc0.1 rfl ?_
      refine s_iload 5 (pc := 88) dX1_tell_88 rfl ?_
      refine s_iconst (v := 1) (pc := 90) dX1_tell_90 rfl ?_
      refine s_isub (pc := 91) dX1_tell_91 ?_
      refine s_iald (pc := 92) dX1_tell_92 hc0.2.2.2.2.2 hv3 ?_
      have hv8 := h.1
      replace h := h.2
      refine s_iast (pc := 93) dX1_tell_93 hc0.2.2.2.2.2 hv8 ?_
      refine s_iinc (v := x5 + (-1)) (L' := [(5, .int (x5 + (-1))), (0, .ref c0), (1, .int x1), (2, .int x2), (3, .int x3), (4, .int x4)]) 5 (pc := 94) dX1_tell_94 rfl rfl (Nat.le_of_ble_eq_true rfl) rfl ?_
      refine s_goto (pc := 97) (tgt := 55) dX1_tell_97 rfl ?_
      exact s_sub (L' := [(0, .ref c0), (1, .int x1), (2, .int x2), (3, .int x3), (4, .int x4), (5, .int (x5 + (-1)))]) [1, 2, 3, 4, 5, 0] rfl h
set_option maxRecDepth 10000 in
set_option maxHeartbeats 4000000 in
theorem tX1_untell_0 {E : Ev} {c0 : Nat} {σ : Hp} {Φ : Option Value → Hp → Prop} (hc0 : IsEvt c0) (h : ((¬ (σ c0 5) = 0 → Ru E mX1_untell 22 [(0, .ref c0), (1, .int 0), (2, .int 0)] [] (up σ c0 5 ((σ c0 5) - 1)) Φ) ∧ ((σ c0 5) = 0 → Φ none σ))) : Ru E mX1_untell 0 [(0, .ref c0)] [] σ Φ := by
  refine s_aload_n 0 (pc := 0) dX1_untell_0 rfl rfl ?_
  refine s_getI (v := σ c0 5) (pc := 1) dX1_untell_1 fl_X1_35 hc0.1 rfl rfl ?_
  refine s_if_ne (pc := 4) (tgt := 8) dX1_untell_4 rfl (fun q1 => ?_) (fun q1 => ?_)
  · replace h := h.1 q1
    refine s_aload_n 0 (pc := 8) dX1_untell_8 rfl rfl ?_
    refine s_dup (pc := 9) dX1_untell_9 rfl ?_
    refine s_getI (v := σ c0 5) (pc := 10) dX1_untell_10 fl_X1_35 hc0.1 rfl rfl ?_
    refine s_iconst (v := 1) (pc := 13) dX1_untell_13 rfl ?_
    refine s_isub (pc := 14) dX1_untell_14 ?_
    refine s_put (ty := .int) (pc := 15) dX1_untell_15 fp_X1_35 hc0.1 rfl rfl rfl ?_
    refine s_iconst (v := 0) (pc := 18) dX1_untell_18 rfl ?_
    refine s_istore_n (L' := [(1, .int 0), (0, .ref c0)]) (pc := 19) dX1_untell_19 rfl (Nat.le_of_ble_eq_true rfl) rfl ?_
    refine s_iconst (v := 0) (pc := 20) dX1_untell_20 rfl ?_
    refine s_istore_n (L' := [(2, .int 0), (1, .int 0), (0, .ref c0)]) (pc := 21) dX1_untell_21 rfl (Nat.le_of_ble_eq_true rfl) rfl ?_
    exact s_sub (L' := [(0, .ref c0), (1, .int 0), (2, .int 0)]) [2, 1, 0] rfl h
  · replace h := h.2 q1
    exact s_ret (r := none) dX1_untell_7 rfl h
set_option maxRecDepth 10000 in
set_option maxHeartbeats 4000000 in
theorem tX1_untell_22 {E : Ev} {c0 : Nat} {x1 : Int32} {x2 : Int32} {σ : Hp} {Φ : Option Value → Hp → Prop} (hc0 : IsEvt c0) (h : (((σ c0 5) < x2 → Φ none σ) ∧ (¬ (σ c0 5) < x2 → vp_in x2 8 ∧ (((σ (c0 + 5) ((x2).toNatClampNeg)) = (σ c0 5) → Ru E mX1_untell 22 [(0, .ref c0), (1, .int x1), (2, .int (x2 + 1))] [] σ Φ) ∧ (¬ (σ (c0 + 5) ((x2).toNatClampNeg)) = (σ c0 5) → vp_in x1 8 ∧ Ru E mX1_untell 22 [(0, .ref c0), (1, .int (x1 + 1)), (2, .int (x2 + 1))] [] (up σ (c0 + 5) ((x1).toNatClampNeg) (σ (c0 + 5) ((x2).toNatClampNeg))) Φ))))) : Ru E mX1_untell 22 [(0, .ref c0), (1, .int x1), (2, .int x2)] [] σ Φ := by
  refine s_iload_n 2 (pc := 22) dX1_untell_22 rfl rfl ?_
  refine s_aload_n 0 (pc := 23) dX1_untell_23 rfl rfl ?_
  refine s_getI (v := σ c0 5) (pc := 24) dX1_untell_24 fl_X1_35 hc0.1 rfl rfl ?_
  refine s_icmp_gt (pc := 27) (tgt := 64) dX1_untell_27 rfl (fun q1 => ?_) (fun q1 => ?_)
  · replace h := h.1 q1
    exact s_ret (r := none) dX1_untell_64 rfl h
  · replace h := h.2 q1
    refine s_aload_n 0 (pc := 30) dX1_untell_30 rfl rfl ?_
    refine s_getR (q := c0 + 5) (pc := 31) dX1_untell_31 fl_X1_24 hc0.1 rfl ?_
    refine s_iload_n 2 (pc := 34) dX1_untell_34 rfl rfl ?_
    have hv2 := h.1
    replace h := h.2
    refine s_iald (pc := 35) dX1_untell_35 hc0.2.2.2.2.2 hv2 ?_
    refine s_aload_n 0 (pc := 36) dX1_untell_36 rfl rfl ?_
    refine s_getI (v := σ c0 5) (pc := 37) dX1_untell_37 fl_X1_35 hc0.1 rfl rfl ?_
    refine s_icmp_eq (pc := 40) (tgt := 58) dX1_untell_40 rfl (fun q3 => ?_) (fun q3 => ?_)
    · replace h := h.1 q3
      refine s_iinc (v := x2 + 1) (L' := [(2, .int (x2 + 1)), (0, .ref c0), (1, .int x1)]) 2 (pc := 58) dX1_untell_58 rfl rfl (Nat.le_of_ble_eq_true rfl) rfl ?_
      refine s_goto (pc := 61) (tgt := 22) dX1_untell_61 rfl ?_
      exact s_sub (L' := [(0, .ref c0), (1, .int x1), (2, .int (x2 + 1))]) [1, 2, 0] rfl h
    · replace h := h.2 q3
      refine s_aload_n 0 (pc := 43) dX1_untell_43 rfl rfl ?_
      refine s_getR (q := c0 + 5) (pc := 44) dX1_untell_44 fl_X1_24 hc0.1 rfl ?_
      refine s_iload_n 1 (pc := 47) dX1_untell_47 rfl rfl ?_
      refine s_aload_n 0 (pc := 48) dX1_untell_48 rfl rfl ?_
      refine s_getR (q := c0 + 5) (pc := 49) dX1_untell_49 fl_X1_24 hc0.1 rfl ?_
      refine s_iload_n 2 (pc := 52) dX1_untell_52 rfl rfl ?_
      refine s_iald (pc := 53) dX1_untell_53 hc0.2.2.2.2.2 hv2 ?_
      have hv5 := h.1
      replace h := h.2
      refine s_iast (pc := 54) dX1_untell_54 hc0.2.2.2.2.2 hv5 ?_
      refine s_iinc (v := x1 + 1) (L' := [(1, .int (x1 + 1)), (0, .ref c0), (2, .int x2)]) 1 (pc := 55) dX1_untell_55 rfl rfl (Nat.le_of_ble_eq_true rfl) rfl ?_
      refine s_iinc (v := x2 + 1) (L' := [(2, .int (x2 + 1)), (1, .int (x1 + 1)), (0, .ref c0)]) 2 (pc := 58) dX1_untell_58 rfl rfl (Nat.le_of_ble_eq_true rfl) rfl ?_
      refine s_goto (pc := 61) (tgt := 22) dX1_untell_61 rfl ?_
      exact s_sub (L' := [(0, .ref c0), (1, .int (x1 + 1)), (2, .int (x2 + 1))]) [2, 1, 0] rfl h
set_option maxRecDepth 10000 in
set_option maxHeartbeats 4000000 in
theorem tX1_touch_0 {E : Ev} {c0 : Nat} {x1 : Int32} {x2 : Int32} {σ : Hp} {Φ : Option Value → Hp → Prop} (hc0 : IsEvt c0) (h : Ru E mX1_touch 2 [(0, .ref c0), (1, .int x1), (2, .int x2), (3, .int 0)] [] σ Φ) : Ru E mX1_touch 0 [(0, .ref c0), (1, .int x1), (2, .int x2)] [] σ Φ := by
  refine s_iconst (v := 0) (pc := 0) dX1_touch_0 rfl ?_
  refine s_istore_n (L' := [(3, .int 0), (0, .ref c0), (1, .int x1), (2, .int x2)]) (pc := 1) dX1_touch_1 rfl (Nat.le_of_ble_eq_true rfl) rfl ?_
  exact s_sub (L' := [(0, .ref c0), (1, .int x1), (2, .int x2), (3, .int 0)]) [1, 2, 3, 0] rfl h
set_option maxRecDepth 10000 in
set_option maxHeartbeats 4000000 in
theorem tX1_touch_2 {E : Ev} {c0 : Nat} {x1 : Int32} {x2 : Int32} {x3 : Int32} {σ : Hp} {Φ : Option Value → Hp → Prop} (hc0 : IsEvt c0) (h : (((σ c0 5) ≤ x3 → Φ (some (.int 0)) σ) ∧ (¬ (σ c0 5) ≤ x3 → vp_in x3 8 ∧ ((¬ (σ (c0 + 3) ((x3).toNatClampNeg)) = x1 → Ru E mX1_touch 2 [(0, .ref c0), (1, .int x1), (2, .int x2), (3, .int (x3 + 1))] [] σ Φ) ∧ ((σ (c0 + 3) ((x3).toNatClampNeg)) = x1 → ((¬ ((x2 >>> (x3 &&& 31)) &&& 1) = 1 → Ru E mX1_touch 2 [(0, .ref c0), (1, .int x1), (2, .int x2), (3, .int (x3 + 1))] [] σ Φ) ∧ (((x2 >>> (x3 &&& 31)) &&& 1) = 1 → Φ (some (.int 1)) σ))))))) : Ru E mX1_touch 2 [(0, .ref c0), (1, .int x1), (2, .int x2), (3, .int x3)] [] σ Φ := by
  refine s_iload_n 3 (pc := 2) dX1_touch_2 rfl rfl ?_
  refine s_aload_n 0 (pc := 3) dX1_touch_3 rfl rfl ?_
  refine s_getI (v := σ c0 5) (pc := 4) dX1_touch_4 fl_X1_35 hc0.1 rfl rfl ?_
  refine s_icmp_ge (pc := 7) (tgt := 37) dX1_touch_7 rfl (fun q1 => ?_) (fun q1 => ?_)
  · replace h := h.1 q1
    refine s_iconst (v := 0) (pc := 37) dX1_touch_37 rfl ?_
    exact s_ret (r := some (.int 0)) ⟨dX1_touch_38, fun ty e => by cases e; rfl⟩ rfl h
  · replace h := h.2 q1
    refine s_aload_n 0 (pc := 10) dX1_touch_10 rfl rfl ?_
    refine s_getR (q := c0 + 3) (pc := 11) dX1_touch_11 fl_X1_18 hc0.1 rfl ?_
    refine s_iload_n 3 (pc := 14) dX1_touch_14 rfl rfl ?_
    have hv2 := h.1
    replace h := h.2
    refine s_iald (pc := 15) dX1_touch_15 hc0.2.2.2.1 hv2 ?_
    refine s_iload_n 1 (pc := 16) dX1_touch_16 rfl rfl ?_
    refine s_icmp_ne (pc := 17) (tgt := 31) dX1_touch_17 rfl (fun q3 => ?_) (fun q3 => ?_)
    · replace h := h.1 q3
      refine s_iinc (v := x3 + 1) (L' := [(3, .int (x3 + 1)), (0, .ref c0), (1, .int x1), (2, .int x2)]) 3 (pc := 31) dX1_touch_31 rfl rfl (Nat.le_of_ble_eq_true rfl) rfl ?_
      refine s_goto (pc := 34) (tgt := 2) dX1_touch_34 rfl ?_
      exact s_sub (L' := [(0, .ref c0), (1, .int x1), (2, .int x2), (3, .int (x3 + 1))]) [1, 2, 3, 0] rfl h
    · replace h := h.2 q3
      refine s_iload_n 2 (pc := 20) dX1_touch_20 rfl rfl ?_
      refine s_iload_n 3 (pc := 21) dX1_touch_21 rfl rfl ?_
      refine s_ishr (pc := 22) dX1_touch_22 ?_
      refine s_iconst (v := 1) (pc := 23) dX1_touch_23 rfl ?_
      refine s_iand (pc := 24) dX1_touch_24 ?_
      refine s_iconst (v := 1) (pc := 25) dX1_touch_25 rfl ?_
      refine s_icmp_ne (pc := 26) (tgt := 31) dX1_touch_26 rfl (fun q4 => ?_) (fun q4 => ?_)
      · replace h := h.1 q4
        refine s_iinc (v := x3 + 1) (L' := [(3, .int (x3 + 1)), (0, .ref c0), (1, .int x1), (2, .int x2)]) 3 (pc := 31) dX1_touch_31 rfl rfl (Nat.le_of_ble_eq_true rfl) rfl ?_
        refine s_goto (pc := 34) (tgt := 2) dX1_touch_34 rfl ?_
        exact s_sub (L' := [(0, .ref c0), (1, .int x1), (2, .int x2), (3, .int (x3 + 1))]) [1, 2, 3, 0] rfl h
      · replace h := h.2 q4
        refine s_iconst (v := 1) (pc := 29) dX1_touch_29 rfl ?_
        exact s_ret (r := some (.int 1)) ⟨dX1_touch_30, fun ty e => by cases e; rfl⟩ rfl h
set_option maxRecDepth 10000 in
set_option maxHeartbeats 4000000 in
theorem tX2_clear_0 {E : Ev}  {σ : Hp} {Φ : Option Value → Hp → Prop}  (h : Φ none (up σ 40 3 0)) : Ru E mX2_clear 0 [(0, .ref 40)] [] σ Φ := by
  refine s_aload_n 0 (pc := 0) dX2_clear_0 rfl rfl ?_
  refine s_iconst (v := 0) (pc := 1) dX2_clear_1 rfl ?_
  refine s_put (ty := .int) (pc := 2) dX2_clear_2 fp_X2_21 ly40 rfl rfl rfl ?_
  exact s_ret (r := none) dX2_clear_5 rfl h
set_option maxRecDepth 10000 in
set_option maxHeartbeats 4000000 in
theorem tX2_mark_0 {E : Ev} {x1 : Int32} {x2 : Int32} {σ : Hp} {Φ : Option Value → Hp → Prop}  (h : Ru E mX2_mark 2 [(0, .ref 40), (1, .int x1), (2, .int x2), (3, .int 0)] [] σ Φ) : Ru E mX2_mark 0 [(0, .ref 40), (1, .int x1), (2, .int x2)] [] σ Φ := by
  refine s_iconst (v := 0) (pc := 0) dX2_mark_0 rfl ?_
  refine s_istore_n (L' := [(3, .int 0), (0, .ref 40), (1, .int x1), (2, .int x2)]) (pc := 1) dX2_mark_1 rfl (Nat.le_of_ble_eq_true rfl) rfl ?_
  exact s_sub (L' := [(0, .ref 40), (1, .int x1), (2, .int x2), (3, .int 0)]) [1, 2, 3, 0] rfl h
set_option maxRecDepth 10000 in
set_option maxHeartbeats 4000000 in
theorem tX2_mark_2 {E : Ev} {x1 : Int32} {x2 : Int32} {x3 : Int32} {σ : Hp} {Φ : Option Value → Hp → Prop}  (h : (((σ 40 3) ≤ x3 → ((16 ≤ (σ 40 3) → Φ none σ) ∧ (¬ 16 ≤ (σ 40 3) → vp_in (σ 40 3) 16 ∧ Φ none (up (up (up (up σ 41 ((σ 40 3).toNatClampNeg) x1) 42 ((σ 40 3).toNatClampNeg) x2) 43 ((σ 40 3).toNatClampNeg) 1) 40 3 ((σ 40 3) + 1))))) ∧ (¬ (σ 40 3) ≤ x3 → vp_in x3 16 ∧ ((¬ (σ 41 ((x3).toNatClampNeg)) = x1 → Ru E mX2_mark 2 [(0, .ref 40), (1, .int x1), (2, .int x2), (3, .int (x3 + 1))] [] σ Φ) ∧ ((σ 41 ((x3).toNatClampNeg)) = x1 → ((¬ (σ 42 ((x3).toNatClampNeg)) = x2 → Ru E mX2_mark 2 [(0, .ref 40), (1, .int x1), (2, .int x2), (3, .int (x3 + 1))] [] σ Φ) ∧ ((σ 42 ((x3).toNatClampNeg)) = x2 → Φ none (up σ 43 ((x3).toNatClampNeg) ((σ 43 ((x3).toNatClampNeg)) + 1))))))))) : Ru E mX2_mark 2 [(0, .ref 40), (1, .int x1), (2, .int x2), (3, .int x3)] [] σ Φ := by
  refine s_iload_n 3 (pc := 2) dX2_mark_2 rfl rfl ?_
  refine s_aload_n 0 (pc := 3) dX2_mark_3 rfl rfl ?_
  refine s_getI (v := σ 40 3) (pc := 4) dX2_mark_4 fl_X2_21 ly40 rfl rfl ?_
  refine s_icmp_ge (pc := 7) (tgt := 47) dX2_mark_7 rfl (fun q1 => ?_) (fun q1 => ?_)
  · replace h := h.1 q1
    refine s_aload_n 0 (pc := 47) dX2_mark_47 rfl rfl ?_
    refine s_getI (v := σ 40 3) (pc := 48) dX2_mark_48 fl_X2_21 ly40 rfl rfl ?_
    refine s_bipush (v := 16) (pc := 51) dX2_mark_51 rfl ?_
    refine s_icmp_ge (pc := 53) (tgt := 96) dX2_mark_53 rfl (fun q2 => ?_) (fun q2 => ?_)
    · replace h := h.1 q2
      exact s_ret (r := none) dX2_mark_96 rfl h
    · replace h := h.2 q2
      refine s_aload_n 0 (pc := 56) dX2_mark_56 rfl rfl ?_
      refine s_getR (q := 41) (pc := 57) dX2_mark_57 fl_X2_11 ly40 rfl ?_
      refine s_aload_n 0 (pc := 60) dX2_mark_60 rfl rfl ?_
      refine s_getI (v := σ 40 3) (pc := 61) dX2_mark_61 fl_X2_21 ly40 rfl rfl ?_
      refine s_iload_n 1 (pc := 64) dX2_mark_64 rfl rfl ?_
      have hv3 := h.1
      replace h := h.2
      refine s_iast (pc := 65) dX2_mark_65 ly41 hv3 ?_
      refine s_aload_n 0 (pc := 66) dX2_mark_66 rfl rfl ?_
      refine s_getR (q := 42) (pc := 67) dX2_mark_67 fl_X2_15 ly40 rfl ?_
      refine s_aload_n 0 (pc := 70) dX2_mark_70 rfl rfl ?_
      refine s_getI (v := σ 40 3) (pc := 71) dX2_mark_71 fl_X2_21 ly40 rfl (by simp [up]) ?_
      refine s_iload_n 2 (pc := 74) dX2_mark_74 rfl rfl ?_
      refine s_iast (pc := 75) dX2_mark_75 ly42 hv3 ?_
      refine s_aload_n 0 (pc := 76) dX2_mark_76 rfl rfl ?_
      refine s_getR (q := 43) (pc := 77) dX2_mark_77 fl_X2_18 ly40 rfl ?_
      refine s_aload_n 0 (pc := 80) dX2_mark_80 rfl rfl ?_
      refine s_getI (v := σ 40 3) (pc := 81) dX2_mark_81 fl_X2_21 ly40 rfl (by simp [up]) ?_
      refine s_iconst (v := 1) (pc := 84) dX2_mark_84 rfl ?_
      refine s_iast (pc := 85) dX2_mark_85 ly43 hv3 ?_
      refine s_aload_n 0 (pc := 86) dX2_mark_86 rfl rfl ?_
      refine s_dup (pc := 87) dX2_mark_87 rfl ?_
      refine s_getI (v := σ 40 3) (pc := 88) dX2_mark_88 fl_X2_21 ly40 rfl (by simp [up]) ?_
      refine s_iconst (v := 1) (pc := 91) dX2_mark_91 rfl ?_
      refine s_iadd (pc := 92) dX2_mark_92 ?_
      refine s_put (ty := .int) (pc := 93) dX2_mark_93 fp_X2_21 ly40 rfl rfl rfl ?_
      exact s_ret (r := none) dX2_mark_96 rfl h
  · replace h := h.2 q1
    refine s_aload_n 0 (pc := 10) dX2_mark_10 rfl rfl ?_
    refine s_getR (q := 41) (pc := 11) dX2_mark_11 fl_X2_11 ly40 rfl ?_
    refine s_iload_n 3 (pc := 14) dX2_mark_14 rfl rfl ?_
    have hv6 := h.1
    replace h := h.2
    refine s_iald (pc := 15) dX2_mark_15 ly41 hv6 ?_
    refine s_iload_n 1 (pc := 16) dX2_mark_16 rfl rfl ?_
    refine s_icmp_ne (pc := 17) (tgt := 41) dX2_mark_17 rfl (fun q7 => ?_) (fun q7 => ?_)
    · replace h := h.1 q7
      refine s_iinc (v := x3 + 1) (L' := [(3, .int (x3 + 1)), (0, .ref 40), (1, .int x1), (2, .int x2)]) 3 (pc := 41) dX2_mark_41 rfl rfl (Nat.le_of_ble_eq_true rfl) rfl ?_
      refine s_goto (pc := 44) (tgt := 2) dX2_mark_44 rfl ?_
      exact s_sub (L' := [(0, .ref 40), (1, .int x1), (2, .int x2), (3, .int (x3 + 1))]) [1, 2, 3, 0] rfl h
    · replace h := h.2 q7
      refine s_aload_n 0 (pc := 20) dX2_mark_20 rfl rfl ?_
      refine s_getR (q := 42) (pc := 21) dX2_mark_21 fl_X2_15 ly40 rfl ?_
      refine s_iload_n 3 (pc := 24) dX2_mark_24 rfl rfl ?_
      refine s_iald (pc := 25) dX2_mark_25 ly42 hv6 ?_
      refine s_iload_n 2 (pc := 26) dX2_mark_26 rfl rfl ?_
      refine s_icmp_ne (pc := 27) (tgt := 41) dX2_mark_27 rfl (fun q9 => ?_) (fun q9 => ?_)
      · replace h := h.1 q9
        refine s_iinc (v := x3 + 1) (L' := [(3, .int (x3 + 1)), (0, .ref 40), (1, .int x1), (2, .int x2)]) 3 (pc := 41) dX2_mark_41 rfl rfl (Nat.le_of_ble_eq_true rfl) rfl ?_
        refine s_goto (pc := 44) (tgt := 2) dX2_mark_44 rfl ?_
        exact s_sub (L' := [(0, .ref 40), (1, .int x1), (2, .int x2), (3, .int (x3 + 1))]) [1, 2, 3, 0] rfl h
      · replace h := h.2 q9
        refine s_aload_n 0 (pc := 30) dX2_mark_30 rfl rfl ?_
        refine s_getR (q := 43) (pc := 31) dX2_mark_31 fl_X2_18 ly40 rfl ?_
        refine s_iload_n 3 (pc := 34) dX2_mark_34 rfl rfl ?_
        refine s_dup2 (pc := 35) dX2_mark_35 rfl rfl ?_
        refine s_iald (pc := 36) dX2_mark_36 ly43 hv6 ?_
        refine s_iconst (v := 1) (pc := 37) dX2_mark_37 rfl ?_
        refine s_iadd (pc := 38) dX2_mark_38 ?_
        refine s_iast (pc := 39) dX2_mark_39 ly43 hv6 ?_
        exact s_ret (r := none) dX2_mark_40 rfl h
set_option maxRecDepth 10000 in
set_option maxHeartbeats 4000000 in
theorem tX2_mostMarks_0 {E : Ev}  {σ : Hp} {Φ : Option Value → Hp → Prop}  (h : Ru E mX2_mostMarks 4 [(0, .ref 40), (1, .int 0), (2, .int 0)] [] σ Φ) : Ru E mX2_mostMarks 0 [(0, .ref 40)] [] σ Φ := by
  refine s_iconst (v := 0) (pc := 0) dX2_mostMarks_0 rfl ?_
  refine s_istore_n (L' := [(1, .int 0), (0, .ref 40)]) (pc := 1) dX2_mostMarks_1 rfl (Nat.le_of_ble_eq_true rfl) rfl ?_
  refine s_iconst (v := 0) (pc := 2) dX2_mostMarks_2 rfl ?_
  refine s_istore_n (L' := [(2, .int 0), (1, .int 0), (0, .ref 40)]) (pc := 3) dX2_mostMarks_3 rfl (Nat.le_of_ble_eq_true rfl) rfl ?_
  exact s_sub (L' := [(0, .ref 40), (1, .int 0), (2, .int 0)]) [2, 1, 0] rfl h
set_option maxRecDepth 10000 in
set_option maxHeartbeats 4000000 in
theorem tX2_mostMarks_4 {E : Ev} {x1 : Int32} {x2 : Int32} {σ : Hp} {Φ : Option Value → Hp → Prop}  (h : (((σ 40 3) ≤ x2 → Φ (some (.int x1)) σ) ∧ (¬ (σ 40 3) ≤ x2 → vp_in x2 16 ∧ Ru E mX2_mostMarks 4 [(0, .ref 40), (1, .int (if x1 < (σ 43 ((x2).toNatClampNeg)) then (σ 43 ((x2).toNatClampNeg)) else x1)), (2, .int (x2 + 1))] [] σ Φ))) : Ru E mX2_mostMarks 4 [(0, .ref 40), (1, .int x1), (2, .int x2)] [] σ Φ := by
  refine s_iload_n 2 (pc := 4) dX2_mostMarks_4 rfl rfl ?_
  refine s_aload_n 0 (pc := 5) dX2_mostMarks_5 rfl rfl ?_
  refine s_getI (v := σ 40 3) (pc := 6) dX2_mostMarks_6 fl_X2_21 ly40 rfl rfl ?_
  refine s_icmp_ge (pc := 9) (tgt := 29) dX2_mostMarks_9 rfl (fun q1 => ?_) (fun q1 => ?_)
  · replace h := h.1 q1
    refine s_iload_n 1 (pc := 29) dX2_mostMarks_29 rfl rfl ?_
    exact s_ret (r := some (.int x1)) ⟨dX2_mostMarks_30, fun ty e => by cases e; rfl⟩ rfl h
  · replace h := h.2 q1
    refine s_iload_n 1 (pc := 12) dX2_mostMarks_12 rfl rfl ?_
    refine s_aload_n 0 (pc := 13) dX2_mostMarks_13 rfl rfl ?_
    refine s_getR (q := 43) (pc := 14) dX2_mostMarks_14 fl_X2_18 ly40 rfl ?_
    refine s_iload_n 2 (pc := 17) dX2_mostMarks_17 rfl rfl ?_
    have hv2 := h.1
    replace h := h.2
    refine s_iald (pc := 18) dX2_mostMarks_18 ly43 hv2 ?_
    refine s_max (pc := 19) dX2_mostMarks_19 ml_X2_25 mw_max1 mw_math mw_max3 (Nat.le_of_ble_eq_true rfl) (Nat.le_of_ble_eq_true rfl) ?_
    refine s_istore_n (L' := [(1, .int (if x1 < (σ 43 ((x2).toNatClampNeg)) then (σ 43 ((x2).toNatClampNeg)) else x1)), (0, .ref 40), (2, .int x2)]) (pc := 22) dX2_mostMarks_22 rfl (Nat.le_of_ble_eq_true rfl) rfl ?_
    refine s_iinc (v := x2 + 1) (L' := [(2, .int (x2 + 1)), (1, .int (if x1 < (σ 43 ((x2).toNatClampNeg)) then (σ 43 ((x2).toNatClampNeg)) else x1)), (0, .ref 40)]) 2 (pc := 23) dX2_mostMarks_23 rfl rfl (Nat.le_of_ble_eq_true rfl) rfl ?_
    refine s_goto (pc := 26) (tgt := 4) dX2_mostMarks_26 rfl ?_
    exact s_sub (L' := [(0, .ref 40), (1, .int (if x1 < (σ 43 ((x2).toNatClampNeg)) then (σ 43 ((x2).toNatClampNeg)) else x1)), (2, .int (x2 + 1))]) [2, 1, 0] rfl h
set_option maxRecDepth 10000 in
set_option maxHeartbeats 4000000 in
theorem tX3_live_0 {E : Ev} {c0 : Nat} {c1 : Nat} {c2 : Nat} {x3 : Int32} {x4 : Int32} {x5 : Int32} {σ : Hp} {Φ : Option Value → Hp → Prop} (hc0 : IsRing c0) (hc1 : IsCpl c1) (hc2 : IsEvt c2) (h : ∃ σ1 : Hp, Call E mX3_begin [.ref c0, .ref c1, .int x4] σ none σ1 ∧ Ru E mX3_live 13 [(0, .ref c0), (1, .ref c1), (2, .ref c2), (3, .int x3), (4, .int x4), (5, .int x5), (6, .int 0), (7, .int 0)] [] σ1 Φ) : Ru E mX3_live 0 [(0, .ref c0), (1, .ref c1), (2, .ref c2), (3, .int x3), (4, .int x4), (5, .int x5)] [] σ Φ := by
  refine s_aload_n 0 (pc := 0) dX3_live_0 rfl rfl ?_
  refine s_aload_n 1 (pc := 1) dX3_live_1 rfl rfl ?_
  refine s_iload 4 (pc := 2) dX3_live_2 rfl ?_
  obtain ⟨σ1, hk2, h⟩ := h
  refine s_callV (S := []) [.ref c1, .int x4] (pc := 4) dX3_live_4 mv_X3_begin ml_X3_9 ⟨Nat.le_of_ble_eq_true rfl, Nat.le_of_ble_eq_true rfl⟩ rfl rfl hc0 rfl rfl (Nat.le_of_ble_eq_true rfl) hk2 ?_
  refine s_iconst (v := 0) (pc := 7) dX3_live_7 rfl ?_
  refine s_istore (L' := [(6, .int 0), (0, .ref c0), (1, .ref c1), (2, .ref c2), (3, .int x3), (4, .int x4), (5, .int x5)]) (pc := 8) dX3_live_8 (Nat.le_of_ble_eq_true rfl) rfl ?_
  refine s_iconst (v := 0) (pc := 10) dX3_live_10 rfl ?_
  refine s_istore (L' := [(7, .int 0), (6, .int 0), (0, .ref c0), (1, .ref c1), (2, .ref c2), (3, .int x3), (4, .int x4), (5, .int x5)]) (pc := 11) dX3_live_11 (Nat.le_of_ble_eq_true rfl) rfl ?_
  exact s_sub (L' := [(0, .ref c0), (1, .ref c1), (2, .ref c2), (3, .int x3), (4, .int x4), (5, .int x5), (6, .int 0), (7, .int 0)]) [2, 3, 4, 5, 6, 7, 1, 0] rfl h
set_option maxRecDepth 10000 in
set_option maxHeartbeats 4000000 in
theorem tX3_live_13 {E : Ev} {c0 : Nat} {c1 : Nat} {c2 : Nat} {x3 : Int32} {x4 : Int32} {x5 : Int32} {x6 : Int32} {x7 : Int32} {σ : Hp} {Φ : Option Value → Hp → Prop} (hc0 : IsRing c0) (hc1 : IsCpl c1) (hc2 : IsEvt c2) (h : (((σ c2 5) ≤ x7 → ∃ σ2 : Hp, Call E mX3_goRound [.ref c0, .int x6, .int (x5 + 1)] σ none σ2 ∧ Φ none σ2) ∧ (¬ (σ c2 5) ≤ x7 → vp_in x7 8 ∧ vp_in (σ (c2 + 5) ((x7).toNatClampNeg)) 8 ∧ ((x5 < (σ (c2 + 2) ((σ (c2 + 5) ((x7).toNatClampNeg)).toNatClampNeg)) → Ru E mX3_live 13 [(0, .ref c0), (1, .ref c1), (2, .ref c2), (3, .int x3), (4, .int x4), (5, .int x5), (6, .int x6), (7, .int (x7 + 1))] [] σ Φ) ∧ (¬ x5 < (σ (c2 + 2) ((σ (c2 + 5) ((x7).toNatClampNeg)).toNatClampNeg)) → ((¬ (σ (c2 + 3) ((σ (c2 + 5) ((x7).toNatClampNeg)).toNatClampNeg)) = x4 → Ru E mX3_live 13 [(0, .ref c0), (1, .ref c1), (2, .ref c2), (3, .int x3), (4, .int x4), (5, .int x5), (6, .int x6), (7, .int (x7 + 1))] [] σ Φ) ∧ ((σ (c2 + 3) ((σ (c2 + 5) ((x7).toNatClampNeg)).toNatClampNeg)) = x4 → ((¬ ((x3 >>> ((σ (c2 + 5) ((x7).toNatClampNeg)) &&& 31)) &&& 1) = 1 → Ru E mX3_live 13 [(0, .ref c0), (1, .ref c1), (2, .ref c2), (3, .int x3), (4, .int x4), (5, .int x5), (6, .int x6), (7, .int (x7 + 1))] [] σ Φ) ∧ (((x3 >>> ((σ (c2 + 5) ((x7).toNatClampNeg)) &&& 31)) &&& 1) = 1 → ∃ σ11 : Hp, Call E mX3_goRound [.ref c0, .int x6, .int (σ (c2 + 2) ((σ (c2 + 5) ((x7).toNatClampNeg)).toNatClampNeg))] σ none σ11 ∧ ∃ σ16 : Hp, Call E mX3_undergo [.ref c0, .int (σ11 (c2 + 1) ((σ (c2 + 5) ((x7).toNatClampNeg)).toNatClampNeg)), .int (σ11 (c2 + 4) ((σ (c2 + 5) ((x7).toNatClampNeg)).toNatClampNeg))] σ11 none σ16 ∧ Ru E mX3_live 13 [(0, .ref c0), (1, .ref c1), (2, .ref c2), (3, .int x3), (4, .int x4), (5, .int x5), (6, .int (σ11 (c2 + 2) ((σ (c2 + 5) ((x7).toNatClampNeg)).toNatClampNeg))), (7, .int (x7 + 1))] [] σ16 Φ))))))))) : Ru E mX3_live 13 [(0, .ref c0), (1, .ref c1), (2, .ref c2), (3, .int x3), (4, .int x4), (5, .int x5), (6, .int x6), (7, .int x7)] [] σ Φ := by
  refine s_iload 7 (pc := 13) dX3_live_13 rfl ?_
  refine s_aload_n 2 (pc := 15) dX3_live_15 rfl rfl ?_
  refine s_getI (v := σ c2 5) (pc := 16) dX3_live_16 fl_X3_15 hc2.1 rfl rfl ?_
  refine s_icmp_ge (pc := 19) (tgt := 111) dX3_live_19 rfl (fun q1 => ?_) (fun q1 => ?_)
  · replace h := h.1 q1
    refine s_aload_n 0 (pc := 111) dX3_live_111 rfl rfl ?_
    refine s_iload 6 (pc := 112) dX3_live_112 rfl ?_
    refine s_iload 5 (pc := 114) dX3_live_114 rfl ?_
    refine s_iconst (v := 1) (pc := 116) dX3_live_116 rfl ?_
    refine s_iadd (pc := 117) dX3_live_117 ?_
    obtain ⟨σ2, hk3, h⟩ := h
    refine s_callV (S := []) [.int x6, .int (x5 + 1)] (pc := 118) dX3_live_118 mv_X3_goRound ml_X3_31 ⟨Nat.le_of_ble_eq_true rfl, Nat.le_of_ble_eq_true rfl⟩ rfl rfl hc0 rfl rfl (Nat.le_of_ble_eq_true rfl) hk3 ?_
    exact s_ret (r := none) dX3_live_121 rfl h
  · replace h := h.2 q1
    refine s_aload_n 2 (pc := 22) dX3_live_22 rfl rfl ?_
    refine s_getR (q := c2 + 5) (pc := 23) dX3_live_23 fl_X3_21 hc2.1 rfl ?_
    refine s_iload 7 (pc := 26) dX3_live_26 rfl ?_
    have hv4 := h.1
    replace h := h.2
    refine s_iald (pc := 28) dX3_live_28 hc2.2.2.2.2.2 hv4 ?_
    refine s_istore (L' := [(8, .int (σ (c2 + 5) ((x7).toNatClampNeg))), (0, .ref c0), (1, .ref c1), (2, .ref c2), (3, .int x3), (4, .int x4), (5, .int x5), (6, .int x6), (7, .int x7)]) (pc := 29) dX3_live_29 (Nat.le_of_ble_eq_true rfl) rfl ?_
    refine s_aload_n 3 (pc := 31) dX3_live_31 rfl rfl ?_
    refine s_getR (q := c2 + 2) (pc := 32) dX3_live_32 fl_X3_25 hc2.1 rfl ?_
    refine s_iload 0 (pc := 35) dX3_live_35 rfl ?_
    have hv5 := h.1
    replace h := h.2
    refine s_iald (pc := 37) dX3_live_37 hc2.2.2.1 hv5 ?_
    refine s_iload 6 (pc := 38) dX3_live_38 rfl ?_
    refine s_icmp_gt (pc := 40) (tgt := 105) dX3_live_40 rfl (fun q6 => ?_) (fun q6 => ?_)
    · replace h := h.1 q6
      refine s_iinc (v := x7 + 1) (L' := [(7, .int (x7 + 1)), (8, .int (σ (c2 + 5) ((x7).toNatClampNeg))), (0, .ref c0), (1, .ref c1), (2, .ref c2), (3, .int x3), (4, .int x4), (5, .int x5), (6, .int x6)]) 8 (pc := 105) dX3_live_105 rfl rfl (Nat.le_of_ble_eq_true rfl) rfl ?_
      refine s_goto (pc := 108) (tgt := 13) dX3_live_108 rfl ?_
      exact s_sub (L' := [(0, .ref c0), (1, .ref c1), (2, .ref c2), (3, .int x3), (4, .int x4), (5, .int x5), (6, .int x6), (7, .int (x7 + 1))]) [2, 3, 4, 5, 6, 7, 8, 0] rfl h
    · replace h := h.2 q6
      refine s_aload_n 3 (pc := 43) dX3_live_43 rfl rfl ?_
      refine s_getR (q := c2 + 3) (pc := 44) dX3_live_44 fl_X3_28 hc2.1 rfl ?_
      refine s_iload 0 (pc := 47) dX3_live_47 rfl ?_
      refine s_iald (pc := 49) dX3_live_49 hc2.2.2.2.1 hv5 ?_
      refine s_iload 5 (pc := 50) dX3_live_50 rfl ?_
      refine s_icmp_ne (pc := 52) (tgt := 105) dX3_live_52 rfl (fun q8 => ?_) (fun q8 => ?_)
      · replace h := h.1 q8
        refine s_iinc (v := x7 + 1) (L' := [(7, .int (x7 + 1)), (8, .int (σ (c2 + 5) ((x7).toNatClampNeg))), (0, .ref c0), (1, .ref c1), (2, .ref c2), (3, .int x3), (4, .int x4), (5, .int x5), (6, .int x6)]) 8 (pc := 105) dX3_live_105 rfl rfl (Nat.le_of_ble_eq_true rfl) rfl ?_
        refine s_goto (pc := 108) (tgt := 13) dX3_live_108 rfl ?_
        exact s_sub (L' := [(0, .ref c0), (1, .ref c1), (2, .ref c2), (3, .int x3), (4, .int x4), (5, .int x5), (6, .int x6), (7, .int (x7 + 1))]) [2, 3, 4, 5, 6, 7, 8, 0] rfl h
      · replace h := h.2 q8
        refine s_iload_n 4 (pc := 55) dX3_live_55 rfl rfl ?_
        refine s_iload 0 (pc := 56) dX3_live_56 rfl ?_
        refine s_ishr (pc := 58) dX3_live_58 ?_
        refine s_iconst (v := 1) (pc := 59) dX3_live_59 rfl ?_
        refine s_iand (pc := 60) dX3_live_60 ?_
        refine s_iconst (v := 1) (pc := 61) dX3_live_61 rfl ?_
        refine s_icmp_ne (pc := 62) (tgt := 105) dX3_live_62 rfl (fun q9 => ?_) (fun q9 => ?_)
        · replace h := h.1 q9
          refine s_iinc (v := x7 + 1) (L' := [(7, .int (x7 + 1)), (8, .int (σ (c2 + 5) ((x7).toNatClampNeg))), (0, .ref c0), (1, .ref c1), (2, .ref c2), (3, .int x3), (4, .int x4), (5, .int x5), (6, .int x6)]) 8 (pc := 105) dX3_live_105 rfl rfl (Nat.le_of_ble_eq_true rfl) rfl ?_
          refine s_goto (pc := 108) (tgt := 13) dX3_live_108 rfl ?_
          exact s_sub (L' := [(0, .ref c0), (1, .ref c1), (2, .ref c2), (3, .int x3), (4, .int x4), (5, .int x5), (6, .int x6), (7, .int (x7 + 1))]) [2, 3, 4, 5, 6, 7, 8, 0] rfl h
        · replace h := h.2 q9
          refine s_aload_n 1 (pc := 65) dX3_live_65 rfl rfl ?_
          refine s_iload 7 (pc := 66) dX3_live_66 rfl ?_
          refine s_aload_n 3 (pc := 68) dX3_live_68 rfl rfl ?_
          refine s_getR (q := c2 + 2) (pc := 69) dX3_live_69 fl_X3_25 hc2.1 rfl ?_
          refine s_iload 0 (pc := 72) dX3_live_72 rfl ?_
          refine s_iald (pc := 74) dX3_live_74 hc2.2.2.1 hv5 ?_
          obtain ⟨σ11, hk12, h⟩ := h
          refine s_callV (S := []) [.int x6, .int (σ (c2 + 2) ((σ (c2 + 5) ((x7).toNatClampNeg)).toNatClampNeg))] (pc := 75) dX3_live_75 mv_X3_goRound ml_X3_31 ⟨Nat.le_of_ble_eq_true rfl, Nat.le_of_ble_eq_true rfl⟩ rfl rfl hc0 rfl rfl (Nat.le_of_ble_eq_true rfl) hk12 ?_
          refine s_aload_n 3 (pc := 78) dX3_live_78 rfl rfl ?_
          refine s_getR (q := c2 + 2) (pc := 79) dX3_live_79 fl_X3_25 hc2.1 rfl ?_
          refine s_iload 0 (pc := 82) dX3_live_82 rfl ?_
          refine s_iald (pc := 84) dX3_live_84 hc2.2.2.1 hv5 ?_
          refine s_istore (L' := [(6, .int (σ11 (c2 + 2) ((σ (c2 + 5) ((x7).toNatClampNeg)).toNatClampNeg))), (8, .int (σ (c2 + 5) ((x7).toNatClampNeg))), (0, .ref c0), (1, .ref c1), (2, .ref c2), (3, .int x3), (4, .int x4), (5, .int x5), (7, .int x7)]) (pc := 85) dX3_live_85 (Nat.le_of_ble_eq_true rfl) rfl ?_
          refine s_aload_n 2 (pc := 87) dX3_live_87 rfl rfl ?_
          refine s_aload_n 4 (pc := 88) dX3_live_88 rfl rfl ?_
          refine s_getR (q := c2 + 1) (pc := 89) dX3_live_89 fl_X3_35 hc2.1 rfl ?_
          refine s_iload 1 (pc := 92) dX3_live_92 rfl ?_
          refine s_iald (pc := 94) dX3_live_94 hc2.2.1 hv5 ?_
          refine s_aload_n 4 (pc := 95) dX3_live_95 rfl rfl ?_
          refine s_getR (q := c2 + 4) (pc := 96) dX3_live_96 fl_X3_38 hc2.1 rfl ?_
          refine s_iload 1 (pc := 99) dX3_live_99 rfl ?_
          refine s_iald (pc := 101) dX3_live_101 hc2.2.2.2.2.1 hv5 ?_
          obtain ⟨σ16, hk17, h⟩ := h
          refine s_callV (S := []) [.int (σ11 (c2 + 1) ((σ (c2 + 5) ((x7).toNatClampNeg)).toNatClampNeg)), .int (σ11 (c2 + 4) ((σ (c2 + 5) ((x7).toNatClampNeg)).toNatClampNeg))] (pc := 102) dX3_live_102 mv_X3_undergo ml_X3_41 ⟨Nat.le_of_ble_eq_true rfl, Nat.le_of_ble_eq_true rfl⟩ rfl rfl hc0 rfl rfl (Nat.le_of_ble_eq_true rfl) hk17 ?_
          refine s_iinc (v := x7 + 1) (L' := [(7, .int (x7 + 1)), (6, .int (σ11 (c2 + 2) ((σ (c2 + 5) ((x7).toNatClampNeg)).toNatClampNeg))), (8, .int (σ (c2 + 5) ((x7).toNatClampNeg))), (0, .ref c0), (1, .ref c1), (2, .ref c2), (3, .int x3), (4, .int x4), (5, .int x5)]) 8 (pc := 105) dX3_live_105 rfl rfl (Nat.le_of_ble_eq_true rfl) rfl ?_
          refine s_goto (pc := 108) (tgt := 13) dX3_live_108 rfl ?_
          exact s_sub (L' := [(0, .ref c0), (1, .ref c1), (2, .ref c2), (3, .int x3), (4, .int x4), (5, .int x5), (6, .int (σ11 (c2 + 2) ((σ (c2 + 5) ((x7).toNatClampNeg)).toNatClampNeg))), (7, .int (x7 + 1))]) [3, 4, 5, 6, 7, 8, 1, 0] rfl h
set_option maxRecDepth 10000 in
set_option maxHeartbeats 4000000 in
theorem tX3_begin_0 {E : Ev} {c0 : Nat} {c1 : Nat} {x2 : Int32} {σ : Hp} {Φ : Option Value → Hp → Prop} (hc0 : IsRing c0) (hc1 : IsCpl c1) (h : vp_in x2 8 ∧ Φ none (up (up (up (up (up (up (up (up σ c0 0 (σ (c1 + 1) ((x2).toNatClampNeg))) c0 1 ((up σ c0 0 (σ (c1 + 1) ((x2).toNatClampNeg))) (c1 + 2) ((x2).toNatClampNeg))) c0 2 ((up (up σ c0 0 (σ (c1 + 1) ((x2).toNatClampNeg))) c0 1 ((up σ c0 0 (σ (c1 + 1) ((x2).toNatClampNeg))) (c1 + 2) ((x2).toNatClampNeg))) (c1 + 3) ((x2).toNatClampNeg))) c0 3 ((up (up (up σ c0 0 (σ (c1 + 1) ((x2).toNatClampNeg))) c0 1 ((up σ c0 0 (σ (c1 + 1) ((x2).toNatClampNeg))) (c1 + 2) ((x2).toNatClampNeg))) c0 2 ((up (up σ c0 0 (σ (c1 + 1) ((x2).toNatClampNeg))) c0 1 ((up σ c0 0 (σ (c1 + 1) ((x2).toNatClampNeg))) (c1 + 2) ((x2).toNatClampNeg))) (c1 + 3) ((x2).toNatClampNeg))) (c1 + 4) ((x2).toNatClampNeg))) c0 4 0) c0 5 0) c0 6 0) c0 7 0)) : Ru E mX3_begin 0 [(0, .ref c0), (1, .ref c1), (2, .int x2)] [] σ Φ := by
  refine s_aload_n 0 (pc := 0) dX3_begin_0 rfl rfl ?_
  refine s_aload_n 1 (pc := 1) dX3_begin_1 rfl rfl ?_
  refine s_getR (q := c1 + 1) (pc := 2) dX3_begin_2 fl_X3_44 hc1.1 rfl ?_
  refine s_iload_n 2 (pc := 5) dX3_begin_5 rfl rfl ?_
  have hv1 := h.1
  replace h := h.2
  refine s_iald (pc := 6) dX3_begin_6 hc1.2.1 hv1 ?_
  refine s_put (ty := .int) (pc := 7) dX3_begin_7 fp_X3_49 hc0 rfl rfl rfl ?_
  refine s_aload_n 0 (pc := 10) dX3_begin_10 rfl rfl ?_
  refine s_aload_n 1 (pc := 11) dX3_begin_11 rfl rfl ?_
  refine s_getR (q := c1 + 2) (pc := 12) dX3_begin_12 fl_X3_51 hc1.1 rfl ?_
  refine s_iload_n 2 (pc := 15) dX3_begin_15 rfl rfl ?_
  refine s_iald (pc := 16) dX3_begin_16 hc1.2.2.1 hv1 ?_
  refine s_put (ty := .int) (pc := 17) dX3_begin_17 fp_X3_54 hc0 rfl rfl rfl ?_
  refine s_aload_n 0 (pc := 20) dX3_begin_20 rfl rfl ?_
  refine s_aload_n 1 (pc := 21) dX3_begin_21 rfl rfl ?_
  refine s_getR (q := c1 + 3) (pc := 22) dX3_begin_22 fl_X3_56 hc1.1 rfl ?_
  refine s_iload_n 2 (pc := 25) dX3_begin_25 rfl rfl ?_
  refine s_iald (pc := 26) dX3_begin_26 hc1.2.2.2.1 hv1 ?_
  refine s_put (ty := .int) (pc := 27) dX3_begin_27 fp_X3_59 hc0 rfl rfl rfl ?_
  refine s_aload_n 0 (pc := 30) dX3_begin_30 rfl rfl ?_
  refine s_aload_n 1 (pc := 31) dX3_begin_31 rfl rfl ?_
  refine s_getR (q := c1 + 4) (pc := 32) dX3_begin_32 fl_X3_61 hc1.1 rfl ?_
  refine s_iload_n 2 (pc := 35) dX3_begin_35 rfl rfl ?_
  refine s_iald (pc := 36) dX3_begin_36 hc1.2.2.2.2 hv1 ?_
  refine s_put (ty := .int) (pc := 37) dX3_begin_37 fp_X3_64 hc0 rfl rfl rfl ?_
  refine s_aload_n 0 (pc := 40) dX3_begin_40 rfl rfl ?_
  refine s_iconst (v := 0) (pc := 41) dX3_begin_41 rfl ?_
  refine s_put (ty := .int) (pc := 42) dX3_begin_42 fp_X3_66 hc0 rfl rfl rfl ?_
  refine s_aload_n 0 (pc := 45) dX3_begin_45 rfl rfl ?_
  refine s_iconst (v := 0) (pc := 46) dX3_begin_46 rfl ?_
  refine s_put (ty := .int) (pc := 47) dX3_begin_47 fp_X3_69 hc0 rfl rfl rfl ?_
  refine s_aload_n 0 (pc := 50) dX3_begin_50 rfl rfl ?_
  refine s_iconst (v := 0) (pc := 51) dX3_begin_51 rfl ?_
  refine s_put (ty := .int) (pc := 52) dX3_begin_52 fp_X3_72 hc0 rfl rfl rfl ?_
  refine s_aload_n 0 (pc := 55) dX3_begin_55 rfl rfl ?_
  refine s_iconst (v := 0) (pc := 56) dX3_begin_56 rfl ?_
  refine s_put (ty := .boolean) (pc := 57) dX3_begin_57 fp_X3_75 hc0 rfl rfl rfl ?_
  exact s_ret (r := none) dX3_begin_60 rfl h
set_option maxRecDepth 10000 in
set_option maxHeartbeats 4000000 in
theorem tX3_undergo_0 {E : Ev} {c0 : Nat} {x1 : Int32} {x2 : Int32} {σ : Hp} {Φ : Option Value → Hp → Prop} (hc0 : IsRing c0) (h : ((¬ x1 = 0 → ((¬ x1 = 1 → Φ none (up σ c0 7 1)) ∧ (x1 = 1 → vp_in ((σ c0 4) &&& 3) 4 ∧ (((σ c0 5) ≤ 0 → Φ none (up (up (up (up (up σ c0 0 ((σ c0 0) + ((σ c0 2) * (stX ((σ c0 4) &&& 3).toNatClampNeg)))) c0 1 ((σ c0 1) + ((σ c0 2) * (stY ((σ c0 4) &&& 3).toNatClampNeg)))) c0 4 (((σ c0 4) + 2) &&& 3)) c0 6 ((σ c0 6) + 0)) c0 5 0)) ∧ (¬ (σ c0 5) ≤ 0 → ((4 ≤ (σ c0 5) → Φ none (up (up (up (up (up σ c0 0 ((σ c0 0) + ((σ c0 2) * (stX ((σ c0 4) &&& 3).toNatClampNeg)))) c0 1 ((σ c0 1) + ((σ c0 2) * (stY ((σ c0 4) &&& 3).toNatClampNeg)))) c0 4 (((σ c0 4) + 2) &&& 3)) c0 6 ((σ c0 6) + 0)) c0 5 0)) ∧ (¬ 4 ≤ (σ c0 5) → Φ none (up (up (up (up (up σ c0 0 ((σ c0 0) + ((σ c0 2) * (stX ((σ c0 4) &&& 3).toNatClampNeg)))) c0 1 ((σ c0 1) + ((σ c0 2) * (stY ((σ c0 4) &&& 3).toNatClampNeg)))) c0 4 (((σ c0 4) + 2) &&& 3)) c0 6 ((σ c0 6) + 1)) c0 5 0)))))))) ∧ (x1 = 0 → Φ none (up (up σ c0 2 x2) c0 5 0)))) : Ru E mX3_undergo 0 [(0, .ref c0), (1, .int x1), (2, .int x2)] [] σ Φ := by
  refine s_iload_n 1 (pc := 0) dX3_undergo_0 rfl rfl ?_
  refine s_if_ne (pc := 1) (tgt := 17) dX3_undergo_1 rfl (fun q1 => ?_) (fun q1 => ?_)
  · replace h := h.1 q1
    refine s_iload_n 1 (pc := 17) dX3_undergo_17 rfl rfl ?_
    refine s_iconst (v := 1) (pc := 18) dX3_undergo_18 rfl ?_
    refine s_icmp_ne (pc := 19) (tgt := 119) dX3_undergo_19 rfl (fun q2 => ?_) (fun q2 => ?_)
    · replace h := h.1 q2
      refine s_aload_n 0 (pc := 119) dX3_undergo_119 rfl rfl ?_
      refine s_iconst (v := 1) (pc := 120) dX3_undergo_120 rfl ?_
      refine s_put (ty := .boolean) (pc := 121) dX3_undergo_121 fp_X3_75 hc0 rfl rfl rfl ?_
      exact s_ret (r := none) dX3_undergo_124 rfl h
    · replace h := h.2 q2
      refine s_aload_n 0 (pc := 22) dX3_undergo_22 rfl rfl ?_
      refine s_dup (pc := 23) dX3_undergo_23 rfl ?_
      refine s_getI (v := σ c0 0) (pc := 24) dX3_undergo_24 fl_X3_49 hc0 rfl rfl ?_
      refine s_aload_n 0 (pc := 27) dX3_undergo_27 rfl rfl ?_
      refine s_getI (v := σ c0 2) (pc := 28) dX3_undergo_28 fl_X3_59 hc0 rfl rfl ?_
      refine s_gsx (pc := 31) dX3_undergo_31 fn_X3_79 ?_
      refine s_aload_n 0 (pc := 34) dX3_undergo_34 rfl rfl ?_
      refine s_getI (v := σ c0 4) (pc := 35) dX3_undergo_35 fl_X3_66 hc0 rfl rfl ?_
      refine s_iconst (v := 3) (pc := 38) dX3_undergo_38 rfl ?_
      refine s_iand (pc := 39) dX3_undergo_39 ?_
      have hv3 := h.1
      replace h := h.2
      refine s_sx (pc := 40) dX3_undergo_40 hv3 ?_
      refine s_imul (pc := 41) dX3_undergo_41 ?_
      refine s_iadd (pc := 42) dX3_undergo_42 ?_
      refine s_put (ty := .int) (pc := 43) dX3_undergo_43 fp_X3_49 hc0 rfl rfl rfl ?_
      refine s_aload_n 0 (pc := 46) dX3_undergo_46 rfl rfl ?_
      refine s_dup (pc := 47) dX3_undergo_47 rfl ?_
      refine s_getI (v := σ c0 1) (pc := 48) dX3_undergo_48 fl_X3_54 hc0 rfl (by simp [up]) ?_
      refine s_aload_n 0 (pc := 51) dX3_undergo_51 rfl rfl ?_
      refine s_getI (v := σ c0 2) (pc := 52) dX3_undergo_52 fl_X3_59 hc0 rfl (by simp [up]) ?_
      refine s_gsy (pc := 55) dX3_undergo_55 fn_X3_82 ?_
      refine s_aload_n 0 (pc := 58) dX3_undergo_58 rfl rfl ?_
      refine s_getI (v := σ c0 4) (pc := 59) dX3_undergo_59 fl_X3_66 hc0 rfl (by simp [up]) ?_
      refine s_iconst (v := 3) (pc := 62) dX3_undergo_62 rfl ?_
      refine s_iand (pc := 63) dX3_undergo_63 ?_
      refine s_sy (pc := 64) dX3_undergo_64 hv3 ?_
      refine s_imul (pc := 65) dX3_undergo_65 ?_
      refine s_iadd (pc := 66) dX3_undergo_66 ?_
      refine s_put (ty := .int) (pc := 67) dX3_undergo_67 fp_X3_54 hc0 rfl rfl rfl ?_
      refine s_aload_n 0 (pc := 70) dX3_undergo_70 rfl rfl ?_
      refine s_aload_n 0 (pc := 71) dX3_undergo_71 rfl rfl ?_
      refine s_getI (v := σ c0 4) (pc := 72) dX3_undergo_72 fl_X3_66 hc0 rfl (by simp [up]) ?_
      refine s_iconst (v := 2) (pc := 75) dX3_undergo_75 rfl ?_
      refine s_iadd (pc := 76) dX3_undergo_76 ?_
      refine s_iconst (v := 3) (pc := 77) dX3_undergo_77 rfl ?_
      refine s_iand (pc := 78) dX3_undergo_78 ?_
      refine s_put (ty := .int) (pc := 79) dX3_undergo_79 fp_X3_66 hc0 rfl rfl rfl ?_
      refine s_aload_n 0 (pc := 82) dX3_undergo_82 rfl rfl ?_
      refine s_dup (pc := 83) dX3_undergo_83 rfl ?_
      refine s_getI (v := σ c0 6) (pc := 84) dX3_undergo_84 fl_X3_72 hc0 rfl (by simp [up]) ?_
      refine s_aload_n 0 (pc := 87) dX3_undergo_87 rfl rfl ?_
      refine s_getI (v := σ c0 5) (pc := 88) dX3_undergo_88 fl_X3_69 hc0 rfl (by simp [up]) ?_
      refine s_if_le (pc := 91) (tgt := 106) dX3_undergo_91 rfl (fun q5 => ?_) (fun q5 => ?_)
      · replace h := h.1 q5
        refine s_iconst (v := 0) (pc := 106) dX3_undergo_106 rfl ?_
        refine s_iadd (pc := 107) dX3_undergo_107 ?_
        refine s_put (ty := .int) (pc := 108) dX3_undergo_108 fp_X3_72 hc0 rfl rfl rfl ?_
        refine s_aload_n 0 (pc := 111) dX3_undergo_111 rfl rfl ?_
        refine s_iconst (v := 0) (pc := 112) dX3_undergo_112 rfl ?_
        refine s_put (ty := .int) (pc := 113) dX3_undergo_113 fp_X3_69 hc0 rfl rfl rfl ?_
        refine s_goto (pc := 116) (tgt := 124) dX3_undergo_116 rfl ?_
        exact s_ret (r := none) dX3_undergo_124 rfl h
      · replace h := h.2 q5
        refine s_aload_n 0 (pc := 94) dX3_undergo_94 rfl rfl ?_
        refine s_getI (v := σ c0 5) (pc := 95) dX3_undergo_95 fl_X3_69 hc0 rfl (by simp [up]) ?_
        refine s_iconst (v := 4) (pc := 98) dX3_undergo_98 rfl ?_
        refine s_icmp_ge (pc := 99) (tgt := 106) dX3_undergo_99 rfl (fun q6 => ?_) (fun q6 => ?_)
        · replace h := h.1 q6
          refine s_iconst (v := 0) (pc := 106) dX3_undergo_106 rfl ?_
          refine s_iadd (pc := 107) dX3_undergo_107 ?_
          refine s_put (ty := .int) (pc := 108) dX3_undergo_108 fp_X3_72 hc0 rfl rfl rfl ?_
          refine s_aload_n 0 (pc := 111) dX3_undergo_111 rfl rfl ?_
          refine s_iconst (v := 0) (pc := 112) dX3_undergo_112 rfl ?_
          refine s_put (ty := .int) (pc := 113) dX3_undergo_113 fp_X3_69 hc0 rfl rfl rfl ?_
          refine s_goto (pc := 116) (tgt := 124) dX3_undergo_116 rfl ?_
          exact s_ret (r := none) dX3_undergo_124 rfl h
        · replace h := h.2 q6
          refine s_iconst (v := 1) (pc := 102) dX3_undergo_102 rfl ?_
          refine s_goto (pc := 103) (tgt := 107) dX3_undergo_103 rfl ?_
          refine s_iadd (pc := 107) dX3_undergo_107 ?_
          refine s_put (ty := .int) (pc := 108) dX3_undergo_108 fp_X3_72 hc0 rfl rfl rfl ?_
          refine s_aload_n 0 (pc := 111) dX3_undergo_111 rfl rfl ?_
          refine s_iconst (v := 0) (pc := 112) dX3_undergo_112 rfl ?_
          refine s_put (ty := .int) (pc := 113) dX3_undergo_113 fp_X3_69 hc0 rfl rfl rfl ?_
          refine s_goto (pc := 116) (tgt := 124) dX3_undergo_116 rfl ?_
          exact s_ret (r := none) dX3_undergo_124 rfl h
  · replace h := h.2 q1
    refine s_aload_n 0 (pc := 4) dX3_undergo_4 rfl rfl ?_
    refine s_iload_n 2 (pc := 5) dX3_undergo_5 rfl rfl ?_
    refine s_put (ty := .int) (pc := 6) dX3_undergo_6 fp_X3_59 hc0 rfl rfl rfl ?_
    refine s_aload_n 0 (pc := 9) dX3_undergo_9 rfl rfl ?_
    refine s_iconst (v := 0) (pc := 10) dX3_undergo_10 rfl ?_
    refine s_put (ty := .int) (pc := 11) dX3_undergo_11 fp_X3_69 hc0 rfl rfl rfl ?_
    refine s_goto (pc := 14) (tgt := 124) dX3_undergo_14 rfl ?_
    exact s_ret (r := none) dX3_undergo_124 rfl h
set_option maxRecDepth 10000 in
set_option maxHeartbeats 4000000 in
theorem tX3_goRound_0 {E : Ev} {c0 : Nat} {x1 : Int32} {x2 : Int32} {σ : Hp} {Φ : Option Value → Hp → Prop} (hc0 : IsRing c0) (h : ((¬ (σ c0 7) = 0 → Φ none σ) ∧ ((σ c0 7) = 0 → ((¬ (σ c0 2) = 0 → ((¬ (σ c0 3) = 2 → ((¬ (σ c0 3) = 0 → Ru E mX3_goRound 53 [(0, .ref c0), (1, .int x1), (2, .int x2), (3, .int (x2 - x1))] [] σ Φ) ∧ ((σ c0 3) = 0 → Ru E mX3_goRound 53 [(0, .ref c0), (1, .int x1), (2, .int x2), (3, .int (((x2 + 1) / 2) - ((x1 + 1) / 2)))] [] σ Φ))) ∧ ((σ c0 3) = 2 → Ru E mX3_goRound 53 [(0, .ref c0), (1, .int x1), (2, .int x2), (3, .int (2 * (x2 - x1)))] [] σ Φ))) ∧ ((σ c0 2) = 0 → Φ none σ))))) : Ru E mX3_goRound 0 [(0, .ref c0), (1, .int x1), (2, .int x2)] [] σ Φ := by
  refine s_aload_n 0 (pc := 0) dX3_goRound_0 rfl rfl ?_
  refine s_getI (v := σ c0 7) (pc := 1) dX3_goRound_1 fl_X3_75 hc0 rfl rfl ?_
  refine s_if_ne (pc := 4) (tgt := 14) dX3_goRound_4 rfl (fun q1 => ?_) (fun q1 => ?_)
  · replace h := h.1 q1
    exact s_ret (r := none) dX3_goRound_14 rfl h
  · replace h := h.2 q1
    refine s_aload_n 0 (pc := 7) dX3_goRound_7 rfl rfl ?_
    refine s_getI (v := σ c0 2) (pc := 8) dX3_goRound_8 fl_X3_59 hc0 rfl rfl ?_
    refine s_if_ne (pc := 11) (tgt := 15) dX3_goRound_11 rfl (fun q2 => ?_) (fun q2 => ?_)
    · replace h := h.1 q2
      refine s_iload_n 2 (pc := 15) dX3_goRound_15 rfl rfl ?_
      refine s_iload_n 1 (pc := 16) dX3_goRound_16 rfl rfl ?_
      refine s_isub (pc := 17) dX3_goRound_17 ?_
      refine s_istore_n (L' := [(3, .int (x2 - x1)), (0, .ref c0), (1, .int x1), (2, .int x2)]) (pc := 18) dX3_goRound_18 rfl (Nat.le_of_ble_eq_true rfl) rfl ?_
      refine s_aload_n 1 (pc := 19) dX3_goRound_19 rfl rfl ?_
      refine s_getI (v := σ c0 3) (pc := 20) dX3_goRound_20 fl_X3_64 hc0 rfl rfl ?_
      refine s_iconst (v := 2) (pc := 23) dX3_goRound_23 rfl ?_
      refine s_icmp_ne (pc := 24) (tgt := 34) dX3_goRound_24 rfl (fun q3 => ?_) (fun q3 => ?_)
      · replace h := h.1 q3
        refine s_aload_n 1 (pc := 34) dX3_goRound_34 rfl rfl ?_
        refine s_getI (v := σ c0 3) (pc := 35) dX3_goRound_35 fl_X3_64 hc0 rfl rfl ?_
        refine s_if_ne (pc := 38) (tgt := 53) dX3_goRound_38 rfl (fun q4 => ?_) (fun q4 => ?_)
        · replace h := h.1 q4
          exact s_sub (L' := [(0, .ref c0), (1, .int x1), (2, .int x2), (3, .int (x2 - x1))]) [1, 2, 3, 0] rfl h
        · replace h := h.2 q4
          refine s_iload_n 3 (pc := 41) dX3_goRound_41 rfl rfl ?_
          refine s_iconst (v := 1) (pc := 42) dX3_goRound_42 rfl ?_
          refine s_iadd (pc := 43) dX3_goRound_43 ?_
          refine s_iconst (v := 2) (pc := 44) dX3_goRound_44 rfl ?_
          refine s_idiv (pc := 45) dX3_goRound_45 (by decide) ?_
          refine s_iload_n 2 (pc := 46) dX3_goRound_46 rfl rfl ?_
          refine s_iconst (v := 1) (pc := 47) dX3_goRound_47 rfl ?_
          refine s_iadd (pc := 48) dX3_goRound_48 ?_
          refine s_iconst (v := 2) (pc := 49) dX3_goRound_49 rfl ?_
          refine s_idiv (pc := 50) dX3_goRound_50 (by decide) ?_
          refine s_isub (pc := 51) dX3_goRound_51 ?_
          refine s_istore_n (L' := [(3, .int (((x2 + 1) / 2) - ((x1 + 1) / 2))), (0, .ref c0), (1, .int x1), (2, .int x2)]) (pc := 52) dX3_goRound_52 rfl (Nat.le_of_ble_eq_true rfl) rfl ?_
          exact s_sub (L' := [(0, .ref c0), (1, .int x1), (2, .int x2), (3, .int (((x2 + 1) / 2) - ((x1 + 1) / 2)))]) [1, 2, 3, 0] rfl h
      · replace h := h.2 q3
        refine s_iconst (v := 2) (pc := 27) dX3_goRound_27 rfl ?_
        refine s_iload_n 0 (pc := 28) dX3_goRound_28 rfl rfl ?_
        refine s_imul (pc := 29) dX3_goRound_29 ?_
        refine s_istore_n (L' := [(3, .int (2 * (x2 - x1))), (0, .ref c0), (1, .int x1), (2, .int x2)]) (pc := 30) dX3_goRound_30 rfl (Nat.le_of_ble_eq_true rfl) rfl ?_
        refine s_goto (pc := 31) (tgt := 53) dX3_goRound_31 rfl ?_
        exact s_sub (L' := [(0, .ref c0), (1, .int x1), (2, .int x2), (3, .int (2 * (x2 - x1)))]) [1, 2, 3, 0] rfl h
    · replace h := h.2 q2
      exact s_ret (r := none) dX3_goRound_14 rfl h
set_option maxRecDepth 10000 in
set_option maxHeartbeats 4000000 in
theorem tX3_goRound_53 {E : Ev} {c0 : Nat} {x1 : Int32} {x2 : Int32} {x3 : Int32} {σ : Hp} {Φ : Option Value → Hp → Prop} (hc0 : IsRing c0) (h : ((4 ≤ ((σ c0 5) + x3) → Φ none (up (up σ c0 4 (((σ c0 4) + x3) &&& 3)) c0 5 4)) ∧ (¬ 4 ≤ ((σ c0 5) + x3) → Φ none (up (up σ c0 4 (((σ c0 4) + x3) &&& 3)) c0 5 ((σ c0 5) + x3))))) : Ru E mX3_goRound 53 [(0, .ref c0), (1, .int x1), (2, .int x2), (3, .int x3)] [] σ Φ := by
  refine s_aload_n 0 (pc := 53) dX3_goRound_53 rfl rfl ?_
  refine s_aload_n 0 (pc := 54) dX3_goRound_54 rfl rfl ?_
  refine s_getI (v := σ c0 4) (pc := 55) dX3_goRound_55 fl_X3_66 hc0 rfl rfl ?_
  refine s_iload_n 3 (pc := 58) dX3_goRound_58 rfl rfl ?_
  refine s_iadd (pc := 59) dX3_goRound_59 ?_
  refine s_iconst (v := 3) (pc := 60) dX3_goRound_60 rfl ?_
  refine s_iand (pc := 61) dX3_goRound_61 ?_
  refine s_put (ty := .int) (pc := 62) dX3_goRound_62 fp_X3_66 hc0 rfl rfl rfl ?_
  refine s_aload_n 0 (pc := 65) dX3_goRound_65 rfl rfl ?_
  refine s_aload_n 0 (pc := 66) dX3_goRound_66 rfl rfl ?_
  refine s_getI (v := σ c0 5) (pc := 67) dX3_goRound_67 fl_X3_69 hc0 rfl (by simp [up]) ?_
  refine s_iload_n 3 (pc := 70) dX3_goRound_70 rfl rfl ?_
  refine s_iadd (pc := 71) dX3_goRound_71 ?_
  refine s_iconst (v := 4) (pc := 72) dX3_goRound_72 rfl ?_
  refine s_icmp_ge (pc := 73) (tgt := 85) dX3_goRound_73 rfl (fun q1 => ?_) (fun q1 => ?_)
  · replace h := h.1 q1
    refine s_iconst (v := 4) (pc := 85) dX3_goRound_85 rfl ?_
    refine s_put (ty := .int) (pc := 86) dX3_goRound_86 fp_X3_69 hc0 rfl rfl rfl ?_
    exact s_ret (r := none) dX3_goRound_89 rfl h
  · replace h := h.2 q1
    refine s_aload_n 0 (pc := 76) dX3_goRound_76 rfl rfl ?_
    refine s_getI (v := σ c0 5) (pc := 77) dX3_goRound_77 fl_X3_69 hc0 rfl (by simp [up]) ?_
    refine s_iload_n 3 (pc := 80) dX3_goRound_80 rfl rfl ?_
    refine s_iadd (pc := 81) dX3_goRound_81 ?_
    refine s_goto (pc := 82) (tgt := 86) dX3_goRound_82 rfl ?_
    refine s_put (ty := .int) (pc := 86) dX3_goRound_86 fp_X3_69 hc0 rfl rfl rfl ?_
    exact s_ret (r := none) dX3_goRound_89 rfl h
set_option maxRecDepth 10000 in
set_option maxHeartbeats 4000000 in
theorem tX3_legX_0 {E : Ev} {c0 : Nat} {σ : Hp} {Φ : Option Value → Hp → Prop} (hc0 : IsRing c0) (h : vp_in ((σ c0 4) &&& 3) 4 ∧ Φ (some (.int ((σ c0 0) + ((σ c0 2) * (stX ((σ c0 4) &&& 3).toNatClampNeg))))) σ) : Ru E mX3_legX 0 [(0, .ref c0)] [] σ Φ := by
  refine s_aload_n 0 (pc := 0) dX3_legX_0 rfl rfl ?_
  refine s_getI (v := σ c0 0) (pc := 1) dX3_legX_1 fl_X3_49 hc0 rfl rfl ?_
  refine s_aload_n 0 (pc := 4) dX3_legX_4 rfl rfl ?_
  refine s_getI (v := σ c0 2) (pc := 5) dX3_legX_5 fl_X3_59 hc0 rfl rfl ?_
  refine s_gsx (pc := 8) dX3_legX_8 fn_X3_79 ?_
  refine s_aload_n 0 (pc := 11) dX3_legX_11 rfl rfl ?_
  refine s_getI (v := σ c0 4) (pc := 12) dX3_legX_12 fl_X3_66 hc0 rfl rfl ?_
  refine s_iconst (v := 3) (pc := 15) dX3_legX_15 rfl ?_
  refine s_iand (pc := 16) dX3_legX_16 ?_
  have hv1 := h.1
  replace h := h.2
  refine s_sx (pc := 17) dX3_legX_17 hv1 ?_
  refine s_imul (pc := 18) dX3_legX_18 ?_
  refine s_iadd (pc := 19) dX3_legX_19 ?_
  exact s_ret (r := some (.int ((σ c0 0) + ((σ c0 2) * (stX ((σ c0 4) &&& 3).toNatClampNeg))))) ⟨dX3_legX_20, fun ty e => by cases e; rfl⟩ rfl h
set_option maxRecDepth 10000 in
set_option maxHeartbeats 4000000 in
theorem tX3_legY_0 {E : Ev} {c0 : Nat} {σ : Hp} {Φ : Option Value → Hp → Prop} (hc0 : IsRing c0) (h : vp_in ((σ c0 4) &&& 3) 4 ∧ Φ (some (.int ((σ c0 1) + ((σ c0 2) * (stY ((σ c0 4) &&& 3).toNatClampNeg))))) σ) : Ru E mX3_legY 0 [(0, .ref c0)] [] σ Φ := by
  refine s_aload_n 0 (pc := 0) dX3_legY_0 rfl rfl ?_
  refine s_getI (v := σ c0 1) (pc := 1) dX3_legY_1 fl_X3_54 hc0 rfl rfl ?_
  refine s_aload_n 0 (pc := 4) dX3_legY_4 rfl rfl ?_
  refine s_getI (v := σ c0 2) (pc := 5) dX3_legY_5 fl_X3_59 hc0 rfl rfl ?_
  refine s_gsy (pc := 8) dX3_legY_8 fn_X3_82 ?_
  refine s_aload_n 0 (pc := 11) dX3_legY_11 rfl rfl ?_
  refine s_getI (v := σ c0 4) (pc := 12) dX3_legY_12 fl_X3_66 hc0 rfl rfl ?_
  refine s_iconst (v := 3) (pc := 15) dX3_legY_15 rfl ?_
  refine s_iand (pc := 16) dX3_legY_16 ?_
  have hv1 := h.1
  replace h := h.2
  refine s_sy (pc := 17) dX3_legY_17 hv1 ?_
  refine s_imul (pc := 18) dX3_legY_18 ?_
  refine s_iadd (pc := 19) dX3_legY_19 ?_
  exact s_ret (r := some (.int ((σ c0 1) + ((σ c0 2) * (stY ((σ c0 4) &&& 3).toNatClampNeg))))) ⟨dX3_legY_20, fun ty e => by cases e; rfl⟩ rfl h
set_option maxRecDepth 10000 in
set_option maxHeartbeats 4000000 in
theorem tX3_isClosed_0 {E : Ev} {c0 : Nat} {σ : Hp} {Φ : Option Value → Hp → Prop} (hc0 : IsRing c0) (h : ((¬ (σ c0 5) = 4 → Φ (some (.int 0)) σ) ∧ ((σ c0 5) = 4 → Φ (some (.int 1)) σ))) : Ru E mX3_isClosed 0 [(0, .ref c0)] [] σ Φ := by
  refine s_aload_n 0 (pc := 0) dX3_isClosed_0 rfl rfl ?_
  refine s_getI (v := σ c0 5) (pc := 1) dX3_isClosed_1 fl_X3_69 hc0 rfl rfl ?_
  refine s_iconst (v := 4) (pc := 4) dX3_isClosed_4 rfl ?_
  refine s_icmp_ne (pc := 5) (tgt := 12) dX3_isClosed_5 rfl (fun q1 => ?_) (fun q1 => ?_)
  · replace h := h.1 q1
    refine s_iconst (v := 0) (pc := 12) dX3_isClosed_12 rfl ?_
    exact s_ret (r := some (.int 0)) ⟨dX3_isClosed_13, fun ty e => by cases e; rfl⟩ rfl h
  · replace h := h.2 q1
    refine s_iconst (v := 1) (pc := 8) dX3_isClosed_8 rfl ?_
    refine s_goto (pc := 9) (tgt := 13) dX3_isClosed_9 rfl ?_
    exact s_ret (r := some (.int 1)) ⟨dX3_isClosed_13, fun ty e => by cases e; rfl⟩ rfl h
set_option maxRecDepth 10000 in
set_option maxHeartbeats 4000000 in
theorem tX3_meetsLegOf_0 {E : Ev} {c0 : Nat} {c1 : Nat} {σ : Hp} {Φ : Option Value → Hp → Prop} (hc0 : IsRing c0) (hc1 : IsRing c1) (h : ∃ (r3 : Int32) (σ1 : Hp), Call E mX3_legX [.ref c0] σ (some (.int r3)) σ1 ∧ ∃ (r6 : Int32) (σ4 : Hp), Call E mX3_legX [.ref c1] σ1 (some (.int r6)) σ4 ∧ ((¬ r3 = r6 → Φ (some (.int 0)) σ4) ∧ (r3 = r6 → ∃ (r10 : Int32) (σ8 : Hp), Call E mX3_legY [.ref c0] σ4 (some (.int r10)) σ8 ∧ ∃ (r13 : Int32) (σ11 : Hp), Call E mX3_legY [.ref c1] σ8 (some (.int r13)) σ11 ∧ ((¬ r10 = r13 → Φ (some (.int 0)) σ11) ∧ (r10 = r13 → Φ (some (.int 1)) σ11))))) : Ru E mX3_meetsLegOf 0 [(0, .ref c0), (1, .ref c1)] [] σ Φ := by
  refine s_aload_n 0 (pc := 0) dX3_meetsLegOf_0 rfl rfl ?_
  obtain ⟨r3, σ1, hk2, h⟩ := h
  refine s_callV (S := []) [] (pc := 1) dX3_meetsLegOf_1 mv_X3_legX ml_X3_85 ⟨Nat.le_of_ble_eq_true rfl, Nat.le_of_ble_eq_true rfl⟩ rfl rfl hc0 rfl rfl (Nat.le_of_ble_eq_true rfl) hk2 ?_
  refine s_aload_n 1 (pc := 4) dX3_meetsLegOf_4 rfl rfl ?_
  obtain ⟨r6, σ4, hk5, h⟩ := h
  refine s_callV (S := [.int r3]) [] (pc := 5) dX3_meetsLegOf_5 mv_X3_legX ml_X3_85 ⟨Nat.le_of_ble_eq_true rfl, Nat.le_of_ble_eq_true rfl⟩ rfl rfl hc1 rfl rfl (Nat.le_of_ble_eq_true rfl) hk5 ?_
  refine s_icmp_ne (pc := 8) (tgt := 26) dX3_meetsLegOf_8 rfl (fun q7 => ?_) (fun q7 => ?_)
  · replace h := h.1 q7
    refine s_iconst (v := 0) (pc := 26) dX3_meetsLegOf_26 rfl ?_
    exact s_ret (r := some (.int 0)) ⟨dX3_meetsLegOf_27, fun ty e => by cases e; rfl⟩ rfl h
  · replace h := h.2 q7
    refine s_aload_n 0 (pc := 11) dX3_meetsLegOf_11 rfl rfl ?_
    obtain ⟨r10, σ8, hk9, h⟩ := h
    refine s_callV (S := []) [] (pc := 12) dX3_meetsLegOf_12 mv_X3_legY ml_X3_89 ⟨Nat.le_of_ble_eq_true rfl, Nat.le_of_ble_eq_true rfl⟩ rfl rfl hc0 rfl rfl (Nat.le_of_ble_eq_true rfl) hk9 ?_
    refine s_aload_n 1 (pc := 15) dX3_meetsLegOf_15 rfl rfl ?_
    obtain ⟨r13, σ11, hk12, h⟩ := h
    refine s_callV (S := [.int r10]) [] (pc := 16) dX3_meetsLegOf_16 mv_X3_legY ml_X3_89 ⟨Nat.le_of_ble_eq_true rfl, Nat.le_of_ble_eq_true rfl⟩ rfl rfl hc1 rfl rfl (Nat.le_of_ble_eq_true rfl) hk12 ?_
    refine s_icmp_ne (pc := 19) (tgt := 26) dX3_meetsLegOf_19 rfl (fun q14 => ?_) (fun q14 => ?_)
    · replace h := h.1 q14
      refine s_iconst (v := 0) (pc := 26) dX3_meetsLegOf_26 rfl ?_
      exact s_ret (r := some (.int 0)) ⟨dX3_meetsLegOf_27, fun ty e => by cases e; rfl⟩ rfl h
    · replace h := h.2 q14
      refine s_iconst (v := 1) (pc := 22) dX3_meetsLegOf_22 rfl ?_
      refine s_goto (pc := 23) (tgt := 27) dX3_meetsLegOf_23 rfl ?_
      exact s_ret (r := some (.int 1)) ⟨dX3_meetsLegOf_27, fun ty e => by cases e; rfl⟩ rfl h
set_option maxRecDepth 10000 in
set_option maxHeartbeats 4000000 in
theorem tX3_isAny_0 {E : Ev} {c0 : Nat} {x1 : Int32} {c2 : Nat} {σ : Hp} {Φ : Option Value → Hp → Prop} (hc0 : IsRing c0) (hc2 : IsRing c2) (h : ∃ (r3 : Int32) (σ1 : Hp), Call E mX3_against [.ref c0, .ref c2] σ (some (.int r3)) σ1 ∧ ((¬ ((x1 >>> (r3 &&& 31)) &&& 1) = 1 → Φ (some (.int 0)) σ1) ∧ (((x1 >>> (r3 &&& 31)) &&& 1) = 1 → Φ (some (.int 1)) σ1))) : Ru E mX3_isAny 0 [(0, .ref c0), (1, .int x1), (2, .ref c2)] [] σ Φ := by
  refine s_iload_n 1 (pc := 0) dX3_isAny_0 rfl rfl ?_
  refine s_aload_n 0 (pc := 1) dX3_isAny_1 rfl rfl ?_
  refine s_aload_n 2 (pc := 2) dX3_isAny_2 rfl rfl ?_
  obtain ⟨r3, σ1, hk2, h⟩ := h
  refine s_callV (S := [.int x1]) [.ref c2] (pc := 3) dX3_isAny_3 mv_X3_against ml_X3_92 ⟨Nat.le_of_ble_eq_true rfl, Nat.le_of_ble_eq_true rfl⟩ rfl rfl hc0 rfl rfl (Nat.le_of_ble_eq_true rfl) hk2 ?_
  refine s_ishr (pc := 6) dX3_isAny_6 ?_
  refine s_iconst (v := 1) (pc := 7) dX3_isAny_7 rfl ?_
  refine s_iand (pc := 8) dX3_isAny_8 ?_
  refine s_iconst (v := 1) (pc := 9) dX3_isAny_9 rfl ?_
  refine s_icmp_ne (pc := 10) (tgt := 17) dX3_isAny_10 rfl (fun q4 => ?_) (fun q4 => ?_)
  · replace h := h.1 q4
    refine s_iconst (v := 0) (pc := 17) dX3_isAny_17 rfl ?_
    exact s_ret (r := some (.int 0)) ⟨dX3_isAny_18, fun ty e => by cases e; rfl⟩ rfl h
  · replace h := h.2 q4
    refine s_iconst (v := 1) (pc := 13) dX3_isAny_13 rfl ?_
    refine s_goto (pc := 14) (tgt := 18) dX3_isAny_14 rfl ?_
    exact s_ret (r := some (.int 1)) ⟨dX3_isAny_18, fun ty e => by cases e; rfl⟩ rfl h
set_option maxRecDepth 10000 in
set_option maxHeartbeats 4000000 in
theorem tX3_against_0 {E : Ev} {c0 : Nat} {c1 : Nat} {σ : Hp} {Φ : Option Value → Hp → Prop} (hc0 : IsRing c0) (hc1 : IsRing c1) (h : ((¬ ((((σ c0 0) - (σ c1 0)) * ((σ c0 0) - (σ c1 0))) + (((σ c0 1) - (σ c1 1)) * ((σ c0 1) - (σ c1 1)))) = 0 → Ru E mX3_against 47 [(0, .ref c0), (1, .ref c1), (2, .int ((σ c0 0) - (σ c1 0))), (3, .int ((σ c0 1) - (σ c1 1))), (4, .int ((((σ c0 0) - (σ c1 0)) * ((σ c0 0) - (σ c1 0))) + (((σ c0 1) - (σ c1 1)) * ((σ c0 1) - (σ c1 1)))))] [] σ Φ) ∧ (((((σ c0 0) - (σ c1 0)) * ((σ c0 0) - (σ c1 0))) + (((σ c0 1) - (σ c1 1)) * ((σ c0 1) - (σ c1 1)))) = 0 → ((¬ (σ c0 2) = (σ c1 2) → Ru E mX3_against 47 [(0, .ref c0), (1, .ref c1), (2, .int ((σ c0 0) - (σ c1 0))), (3, .int ((σ c0 1) - (σ c1 1))), (4, .int ((((σ c0 0) - (σ c1 0)) * ((σ c0 0) - (σ c1 0))) + (((σ c0 1) - (σ c1 1)) * ((σ c0 1) - (σ c1 1)))))] [] σ Φ) ∧ ((σ c0 2) = (σ c1 2) → Φ (some (.int 5)) σ))))) : Ru E mX3_against 0 [(0, .ref c0), (1, .ref c1)] [] σ Φ := by
  refine s_aload_n 0 (pc := 0) dX3_against_0 rfl rfl ?_
  refine s_getI (v := σ c0 0) (pc := 1) dX3_against_1 fl_X3_49 hc0 rfl rfl ?_
  refine s_aload_n 1 (pc := 4) dX3_against_4 rfl rfl ?_
  refine s_getI (v := σ c1 0) (pc := 5) dX3_against_5 fl_X3_49 hc1 rfl rfl ?_
  refine s_isub (pc := 8) dX3_against_8 ?_
  refine s_istore_n (L' := [(2, .int ((σ c0 0) - (σ c1 0))), (0, .ref c0), (1, .ref c1)]) (pc := 9) dX3_against_9 rfl (Nat.le_of_ble_eq_true rfl) rfl ?_
  refine s_aload_n 1 (pc := 10) dX3_against_10 rfl rfl ?_
  refine s_getI (v := σ c0 1) (pc := 11) dX3_against_11 fl_X3_54 hc0 rfl rfl ?_
  refine s_aload_n 2 (pc := 14) dX3_against_14 rfl rfl ?_
  refine s_getI (v := σ c1 1) (pc := 15) dX3_against_15 fl_X3_54 hc1 rfl rfl ?_
  refine s_isub (pc := 18) dX3_against_18 ?_
  refine s_istore_n (L' := [(3, .int ((σ c0 1) - (σ c1 1))), (2, .int ((σ c0 0) - (σ c1 0))), (0, .ref c0), (1, .ref c1)]) (pc := 19) dX3_against_19 rfl (Nat.le_of_ble_eq_true rfl) rfl ?_
  refine s_iload_n 1 (pc := 20) dX3_against_20 rfl rfl ?_
  refine s_iload_n 1 (pc := 21) dX3_against_21 rfl rfl ?_
  refine s_imul (pc := 22) dX3_against_22 ?_
  refine s_iload_n 0 (pc := 23) dX3_against_23 rfl rfl ?_
  refine s_iload_n 0 (pc := 24) dX3_against_24 rfl rfl ?_
  refine s_imul (pc := 25) dX3_against_25 ?_
  refine s_iadd (pc := 26) dX3_against_26 ?_
  refine s_istore (L' := [(4, .int ((((σ c0 0) - (σ c1 0)) * ((σ c0 0) - (σ c1 0))) + (((σ c0 1) - (σ c1 1)) * ((σ c0 1) - (σ c1 1))))), (3, .int ((σ c0 1) - (σ c1 1))), (2, .int ((σ c0 0) - (σ c1 0))), (0, .ref c0), (1, .ref c1)]) (pc := 27) dX3_against_27 (Nat.le_of_ble_eq_true rfl) rfl ?_
  refine s_iload 0 (pc := 29) dX3_against_29 rfl ?_
  refine s_if_ne (pc := 31) (tgt := 47) dX3_against_31 rfl (fun q1 => ?_) (fun q1 => ?_)
  · replace h := h.1 q1
    exact s_sub (L' := [(0, .ref c0), (1, .ref c1), (2, .int ((σ c0 0) - (σ c1 0))), (3, .int ((σ c0 1) - (σ c1 1))), (4, .int ((((σ c0 0) - (σ c1 0)) * ((σ c0 0) - (σ c1 0))) + (((σ c0 1) - (σ c1 1)) * ((σ c0 1) - (σ c1 1)))))]) [3, 4, 2, 1, 0] rfl h
  · replace h := h.2 q1
    refine s_aload_n 3 (pc := 34) dX3_against_34 rfl rfl ?_
    refine s_getI (v := σ c0 2) (pc := 35) dX3_against_35 fl_X3_59 hc0 rfl rfl ?_
    refine s_aload_n 4 (pc := 38) dX3_against_38 rfl rfl ?_
    refine s_getI (v := σ c1 2) (pc := 39) dX3_against_39 fl_X3_59 hc1 rfl rfl ?_
    refine s_icmp_ne (pc := 42) (tgt := 47) dX3_against_42 rfl (fun q2 => ?_) (fun q2 => ?_)
    · replace h := h.1 q2
      exact s_sub (L' := [(0, .ref c0), (1, .ref c1), (2, .int ((σ c0 0) - (σ c1 0))), (3, .int ((σ c0 1) - (σ c1 1))), (4, .int ((((σ c0 0) - (σ c1 0)) * ((σ c0 0) - (σ c1 0))) + (((σ c0 1) - (σ c1 1)) * ((σ c0 1) - (σ c1 1)))))]) [3, 4, 2, 1, 0] rfl h
    · replace h := h.2 q2
      refine s_iconst (v := 5) (pc := 45) dX3_against_45 rfl ?_
      exact s_ret (r := some (.int 5)) ⟨dX3_against_46, fun ty e => by cases e; rfl⟩ rfl h
set_option maxRecDepth 10000 in
set_option maxHeartbeats 4000000 in
theorem tX3_against_47 {E : Ev} {c0 : Nat} {c1 : Nat} {x2 : Int32} {x3 : Int32} {x4 : Int32} {σ : Hp} {Φ : Option Value → Hp → Prop} (hc0 : IsRing c0) (hc1 : IsRing c1) (h : ((x4 < (((σ c0 2) + (σ c1 2)) * ((σ c0 2) + (σ c1 2))) → (((((σ c0 2) - (σ c1 2)) * ((σ c0 2) - (σ c1 2))) < x4 → Φ (some (.int 2)) σ) ∧ (¬ (((σ c0 2) - (σ c1 2)) * ((σ c0 2) - (σ c1 2))) < x4 → ((¬ x4 = (((σ c0 2) - (σ c1 2)) * ((σ c0 2) - (σ c1 2))) → Φ (some (.int 4)) σ) ∧ (x4 = (((σ c0 2) - (σ c1 2)) * ((σ c0 2) - (σ c1 2))) → Φ (some (.int 3)) σ))))) ∧ (¬ x4 < (((σ c0 2) + (σ c1 2)) * ((σ c0 2) + (σ c1 2))) → ((¬ x4 = (((σ c0 2) + (σ c1 2)) * ((σ c0 2) + (σ c1 2))) → Φ (some (.int 0)) σ) ∧ (x4 = (((σ c0 2) + (σ c1 2)) * ((σ c0 2) + (σ c1 2))) → Φ (some (.int 1)) σ))))) : Ru E mX3_against 47 [(0, .ref c0), (1, .ref c1), (2, .int x2), (3, .int x3), (4, .int x4)] [] σ Φ := by
  refine s_aload_n 0 (pc := 47) dX3_against_47 rfl rfl ?_
  refine s_getI (v := σ c0 2) (pc := 48) dX3_against_48 fl_X3_59 hc0 rfl rfl ?_
  refine s_aload_n 1 (pc := 51) dX3_against_51 rfl rfl ?_
  refine s_getI (v := σ c1 2) (pc := 52) dX3_against_52 fl_X3_59 hc1 rfl rfl ?_
  refine s_iadd (pc := 55) dX3_against_55 ?_
  refine s_istore (L' := [(5, .int ((σ c0 2) + (σ c1 2))), (0, .ref c0), (1, .ref c1), (2, .int x2), (3, .int x3), (4, .int x4)]) (pc := 56) dX3_against_56 (Nat.le_of_ble_eq_true rfl) rfl ?_
  refine s_iload 0 (pc := 58) dX3_against_58 rfl ?_
  refine s_iload 0 (pc := 60) dX3_against_60 rfl ?_
  refine s_imul (pc := 62) dX3_against_62 ?_
  refine s_istore (L' := [(6, .int (((σ c0 2) + (σ c1 2)) * ((σ c0 2) + (σ c1 2)))), (5, .int ((σ c0 2) + (σ c1 2))), (0, .ref c0), (1, .ref c1), (2, .int x2), (3, .int x3), (4, .int x4)]) (pc := 63) dX3_against_63 (Nat.le_of_ble_eq_true rfl) rfl ?_
  refine s_iload 6 (pc := 65) dX3_against_65 rfl ?_
  refine s_iload 0 (pc := 67) dX3_against_67 rfl ?_
  refine s_icmp_lt (pc := 69) (tgt := 85) dX3_against_69 rfl (fun q1 => ?_) (fun q1 => ?_)
  · replace h := h.1 q1
    refine s_aload_n 2 (pc := 85) dX3_against_85 rfl rfl ?_
    refine s_getI (v := σ c0 2) (pc := 86) dX3_against_86 fl_X3_59 hc0 rfl rfl ?_
    refine s_aload_n 3 (pc := 89) dX3_against_89 rfl rfl ?_
    refine s_getI (v := σ c1 2) (pc := 90) dX3_against_90 fl_X3_59 hc1 rfl rfl ?_
    refine s_isub (pc := 93) dX3_against_93 ?_
    refine s_istore (L' := [(7, .int ((σ c0 2) - (σ c1 2))), (6, .int (((σ c0 2) + (σ c1 2)) * ((σ c0 2) + (σ c1 2)))), (5, .int ((σ c0 2) + (σ c1 2))), (0, .ref c0), (1, .ref c1), (2, .int x2), (3, .int x3), (4, .int x4)]) (pc := 94) dX3_against_94 (Nat.le_of_ble_eq_true rfl) rfl ?_
    refine s_iload 0 (pc := 96) dX3_against_96 rfl ?_
    refine s_iload 0 (pc := 98) dX3_against_98 rfl ?_
    refine s_imul (pc := 100) dX3_against_100 ?_
    refine s_istore (L' := [(8, .int (((σ c0 2) - (σ c1 2)) * ((σ c0 2) - (σ c1 2)))), (7, .int ((σ c0 2) - (σ c1 2))), (6, .int (((σ c0 2) + (σ c1 2)) * ((σ c0 2) + (σ c1 2)))), (5, .int ((σ c0 2) + (σ c1 2))), (0, .ref c0), (1, .ref c1), (2, .int x2), (3, .int x3), (4, .int x4)]) (pc := 101) dX3_against_101 (Nat.le_of_ble_eq_true rfl) rfl ?_
    refine s_iload 8 (pc := 103) dX3_against_103 rfl ?_
    refine s_iload 0 (pc := 105) dX3_against_105 rfl ?_
    refine s_icmp_gt (pc := 107) (tgt := 123) dX3_against_107 rfl (fun q2 => ?_) (fun q2 => ?_)
    · replace h := h.1 q2
      refine s_iconst (v := 2) (pc := 123) dX3_against_123 rfl ?_
      exact s_ret (r := some (.int 2)) ⟨dX3_against_124, fun ty e => by cases e; rfl⟩ rfl h
    · replace h := h.2 q2
      refine s_iload 8 (pc := 110) dX3_against_110 rfl ?_
      refine s_iload 0 (pc := 112) dX3_against_112 rfl ?_
      refine s_icmp_ne (pc := 114) (tgt := 121) dX3_against_114 rfl (fun q3 => ?_) (fun q3 => ?_)
      · replace h := h.1 q3
        refine s_iconst (v := 4) (pc := 121) dX3_against_121 rfl ?_
        exact s_ret (r := some (.int 4)) ⟨dX3_against_122, fun ty e => by cases e; rfl⟩ rfl h
      · replace h := h.2 q3
        refine s_iconst (v := 3) (pc := 117) dX3_against_117 rfl ?_
        refine s_goto (pc := 118) (tgt := 122) dX3_against_118 rfl ?_
        exact s_ret (r := some (.int 3)) ⟨dX3_against_122, fun ty e => by cases e; rfl⟩ rfl h
  · replace h := h.2 q1
    refine s_iload 6 (pc := 72) dX3_against_72 rfl ?_
    refine s_iload 0 (pc := 74) dX3_against_74 rfl ?_
    refine s_icmp_ne (pc := 76) (tgt := 83) dX3_against_76 rfl (fun q4 => ?_) (fun q4 => ?_)
    · replace h := h.1 q4
      refine s_iconst (v := 0) (pc := 83) dX3_against_83 rfl ?_
      exact s_ret (r := some (.int 0)) ⟨dX3_against_84, fun ty e => by cases e; rfl⟩ rfl h
    · replace h := h.2 q4
      refine s_iconst (v := 1) (pc := 79) dX3_against_79 rfl ?_
      refine s_goto (pc := 80) (tgt := 84) dX3_against_80 rfl ?_
      exact s_ret (r := some (.int 1)) ⟨dX3_against_84, fun ty e => by cases e; rfl⟩ rfl h
set_option maxRecDepth 10000 in
set_option maxHeartbeats 4000000 in
theorem tX4_renew_0 {E : Ev} {c0 : Nat} {x1 : Int32} {x2 : Int32} {σ : Hp} {Φ : Option Value → Hp → Prop} (hc0 : IsSheet c0) (h : Ru E mX4_renew 17 [(0, .ref c0), (1, .int x1), (2, .int x2), (3, .int 0)] [] (up (up (up σ c0 1 0) c0 2 x1) c0 3 x2) Φ) : Ru E mX4_renew 0 [(0, .ref c0), (1, .int x1), (2, .int x2)] [] σ Φ := by
  refine s_aload_n 0 (pc := 0) dX4_renew_0 rfl rfl ?_
  refine s_iconst (v := 0) (pc := 1) dX4_renew_1 rfl ?_
  refine s_put (ty := .boolean) (pc := 2) dX4_renew_2 fp_X4_15 hc0.1 rfl rfl rfl ?_
  refine s_aload_n 0 (pc := 5) dX4_renew_5 rfl rfl ?_
  refine s_iload_n 1 (pc := 6) dX4_renew_6 rfl rfl ?_
  refine s_put (ty := .int) (pc := 7) dX4_renew_7 fp_X4_19 hc0.1 rfl rfl rfl ?_
  refine s_aload_n 0 (pc := 10) dX4_renew_10 rfl rfl ?_
  refine s_iload_n 2 (pc := 11) dX4_renew_11 rfl rfl ?_
  refine s_put (ty := .int) (pc := 12) dX4_renew_12 fp_X4_23 hc0.1 rfl rfl rfl ?_
  refine s_iconst (v := 0) (pc := 15) dX4_renew_15 rfl ?_
  refine s_istore_n (L' := [(3, .int 0), (0, .ref c0), (1, .int x1), (2, .int x2)]) (pc := 16) dX4_renew_16 rfl (Nat.le_of_ble_eq_true rfl) rfl ?_
  exact s_sub (L' := [(0, .ref c0), (1, .int x1), (2, .int x2), (3, .int 0)]) [1, 2, 3, 0] rfl h
set_option maxRecDepth 10000 in
set_option maxHeartbeats 4000000 in
theorem tX4_renew_17 {E : Ev} {c0 : Nat} {x1 : Int32} {x2 : Int32} {x3 : Int32} {σ : Hp} {Φ : Option Value → Hp → Prop} (hc0 : IsSheet c0) (h : ((60 ≤ x3 → Φ none σ) ∧ (¬ 60 ≤ x3 → vp_in x3 60 ∧ Ru E mX4_renew 17 [(0, .ref c0), (1, .int x1), (2, .int x2), (3, .int (x3 + 1))] [] (up σ (c0 + 1) ((x3).toNatClampNeg) 0) Φ))) : Ru E mX4_renew 17 [(0, .ref c0), (1, .int x1), (2, .int x2), (3, .int x3)] [] σ Φ := by
  refine s_iload_n 3 (pc := 17) dX4_renew_17 rfl rfl ?_
  refine s_bipush (v := 60) (pc := 18) dX4_renew_18 rfl ?_
  refine s_icmp_ge (pc := 20) (tgt := 36) dX4_renew_20 rfl (fun q1 => ?_) (fun q1 => ?_)
  · replace h := h.1 q1
    exact s_ret (r := none) dX4_renew_36 rfl h
  · replace h := h.2 q1
    refine s_aload_n 0 (pc := 23) dX4_renew_23 rfl rfl ?_
    refine s_getR (q := c0 + 1) (pc := 24) dX4_renew_24 fl_X4_9 hc0.1 rfl ?_
    refine s_iload_n 3 (pc := 27) dX4_renew_27 rfl rfl ?_
    refine s_iconst (v := 0) (pc := 28) dX4_renew_28 rfl ?_
    have hv2 := h.1
    replace h := h.2
    refine s_iast (pc := 29) dX4_renew_29 hc0.2 hv2 ?_
    refine s_iinc (v := x3 + 1) (L' := [(3, .int (x3 + 1)), (0, .ref c0), (1, .int x1), (2, .int x2)]) 3 (pc := 30) dX4_renew_30 rfl rfl (Nat.le_of_ble_eq_true rfl) rfl ?_
    refine s_goto (pc := 33) (tgt := 17) dX4_renew_33 rfl ?_
    exact s_sub (L' := [(0, .ref c0), (1, .int x1), (2, .int x2), (3, .int (x3 + 1))]) [1, 2, 3, 0] rfl h
set_option maxRecDepth 10000 in
set_option maxHeartbeats 4000000 in
theorem tX4_wrongWith_0 {E : Ev} {c0 : Nat} {x1 : Int32} {x2 : Int32} {σ : Hp} {Φ : Option Value → Hp → Prop} (hc0 : IsSheet c0) (h : (((σ c0 1) = 0 → (((σ c0 2) = x1 → ((x2 < 0 → Φ (some (.int 2)) σ) ∧ (¬ x2 < 0 → ((x2 < (σ c0 3) → Φ (some (.int 0)) σ) ∧ (¬ x2 < (σ c0 3) → Φ (some (.int 2)) σ))))) ∧ (¬ (σ c0 2) = x1 → Φ (some (.int 3)) σ))) ∧ (¬ (σ c0 1) = 0 → Φ (some (.int 1)) σ))) : Ru E mX4_wrongWith 0 [(0, .ref c0), (1, .int x1), (2, .int x2)] [] σ Φ := by
  refine s_aload_n 0 (pc := 0) dX4_wrongWith_0 rfl rfl ?_
  refine s_getI (v := σ c0 1) (pc := 1) dX4_wrongWith_1 fl_X4_15 hc0.1 rfl rfl ?_
  refine s_if_eq (pc := 4) (tgt := 9) dX4_wrongWith_4 rfl (fun q1 => ?_) (fun q1 => ?_)
  · replace h := h.1 q1
    refine s_aload_n 0 (pc := 9) dX4_wrongWith_9 rfl rfl ?_
    refine s_getI (v := σ c0 2) (pc := 10) dX4_wrongWith_10 fl_X4_19 hc0.1 rfl rfl ?_
    refine s_iload_n 1 (pc := 13) dX4_wrongWith_13 rfl rfl ?_
    refine s_icmp_eq (pc := 14) (tgt := 19) dX4_wrongWith_14 rfl (fun q2 => ?_) (fun q2 => ?_)
    · replace h := h.1 q2
      refine s_iload_n 2 (pc := 19) dX4_wrongWith_19 rfl rfl ?_
      refine s_if_lt (pc := 20) (tgt := 31) dX4_wrongWith_20 rfl (fun q3 => ?_) (fun q3 => ?_)
      · replace h := h.1 q3
        refine s_iconst (v := 2) (pc := 31) dX4_wrongWith_31 rfl ?_
        refine s_goto (pc := 32) (tgt := 36) dX4_wrongWith_32 rfl ?_
        exact s_ret (r := some (.int 2)) ⟨dX4_wrongWith_36, fun ty e => by cases e; rfl⟩ rfl h
      · replace h := h.2 q3
        refine s_iload_n 2 (pc := 23) dX4_wrongWith_23 rfl rfl ?_
        refine s_aload_n 0 (pc := 24) dX4_wrongWith_24 rfl rfl ?_
        refine s_getI (v := σ c0 3) (pc := 25) dX4_wrongWith_25 fl_X4_23 hc0.1 rfl rfl ?_
        refine s_icmp_lt (pc := 28) (tgt := 35) dX4_wrongWith_28 rfl (fun q4 => ?_) (fun q4 => ?_)
        · replace h := h.1 q4
          refine s_iconst (v := 0) (pc := 35) dX4_wrongWith_35 rfl ?_
          exact s_ret (r := some (.int 0)) ⟨dX4_wrongWith_36, fun ty e => by cases e; rfl⟩ rfl h
        · replace h := h.2 q4
          refine s_iconst (v := 2) (pc := 31) dX4_wrongWith_31 rfl ?_
          refine s_goto (pc := 32) (tgt := 36) dX4_wrongWith_32 rfl ?_
          exact s_ret (r := some (.int 2)) ⟨dX4_wrongWith_36, fun ty e => by cases e; rfl⟩ rfl h
    · replace h := h.2 q2
      refine s_iconst (v := 3) (pc := 17) dX4_wrongWith_17 rfl ?_
      exact s_ret (r := some (.int 3)) ⟨dX4_wrongWith_18, fun ty e => by cases e; rfl⟩ rfl h
  · replace h := h.2 q1
    refine s_iconst (v := 1) (pc := 7) dX4_wrongWith_7 rfl ?_
    exact s_ret (r := some (.int 1)) ⟨dX4_wrongWith_8, fun ty e => by cases e; rfl⟩ rfl h
set_option maxRecDepth 10000 in
set_option maxHeartbeats 4000000 in
theorem tX4_hasItems_0 {E : Ev} {c0 : Nat} {x1 : Int32} {x2 : Int32} {σ : Hp} {Φ : Option Value → Hp → Prop} (hc0 : IsSheet c0) (h : ((x1 < 0 → Φ (some (.int 0)) σ) ∧ (¬ x1 < 0 → ((x2 < 0 → Φ (some (.int 0)) σ) ∧ (¬ x2 < 0 → ((((σ c0 3) - x1) < x2 → Φ (some (.int 0)) σ) ∧ (¬ ((σ c0 3) - x1) < x2 → Φ (some (.int 1)) σ))))))) : Ru E mX4_hasItems 0 [(0, .ref c0), (1, .int x1), (2, .int x2)] [] σ Φ := by
  refine s_iload_n 1 (pc := 0) dX4_hasItems_0 rfl rfl ?_
  refine s_if_lt (pc := 1) (tgt := 22) dX4_hasItems_1 rfl (fun q1 => ?_) (fun q1 => ?_)
  · replace h := h.1 q1
    refine s_iconst (v := 0) (pc := 22) dX4_hasItems_22 rfl ?_
    exact s_ret (r := some (.int 0)) ⟨dX4_hasItems_23, fun ty e => by cases e; rfl⟩ rfl h
  · replace h := h.2 q1
    refine s_iload_n 2 (pc := 4) dX4_hasItems_4 rfl rfl ?_
    refine s_if_lt (pc := 5) (tgt := 22) dX4_hasItems_5 rfl (fun q2 => ?_) (fun q2 => ?_)
    · replace h := h.1 q2
      refine s_iconst (v := 0) (pc := 22) dX4_hasItems_22 rfl ?_
      exact s_ret (r := some (.int 0)) ⟨dX4_hasItems_23, fun ty e => by cases e; rfl⟩ rfl h
    · replace h := h.2 q2
      refine s_iload_n 2 (pc := 8) dX4_hasItems_8 rfl rfl ?_
      refine s_aload_n 0 (pc := 9) dX4_hasItems_9 rfl rfl ?_
      refine s_getI (v := σ c0 3) (pc := 10) dX4_hasItems_10 fl_X4_23 hc0.1 rfl rfl ?_
      refine s_iload_n 1 (pc := 13) dX4_hasItems_13 rfl rfl ?_
      refine s_isub (pc := 14) dX4_hasItems_14 ?_
      refine s_icmp_gt (pc := 15) (tgt := 22) dX4_hasItems_15 rfl (fun q3 => ?_) (fun q3 => ?_)
      · replace h := h.1 q3
        refine s_iconst (v := 0) (pc := 22) dX4_hasItems_22 rfl ?_
        exact s_ret (r := some (.int 0)) ⟨dX4_hasItems_23, fun ty e => by cases e; rfl⟩ rfl h
      · replace h := h.2 q3
        refine s_iconst (v := 1) (pc := 18) dX4_hasItems_18 rfl ?_
        refine s_goto (pc := 19) (tgt := 23) dX4_hasItems_19 rfl ?_
        exact s_ret (r := some (.int 1)) ⟨dX4_hasItems_23, fun ty e => by cases e; rfl⟩ rfl h
set_option maxRecDepth 10000 in
set_option maxHeartbeats 4000000 in
theorem tX4_lowestBits_0 {E : Ev} {x0 : Int32} {x1 : Int32} {σ : Hp} {Φ : Option Value → Hp → Prop}  (h : ((¬ x0 = 0 → ((¬ x0 = 1 → Φ (some (.int x1)) σ) ∧ (x0 = 1 → Φ (some (.int ((Int32.toInt16 x1).toInt32))) σ))) ∧ (x0 = 0 → Φ (some (.int ((Int32.toInt8 x1).toInt32))) σ))) : Ru E mX4_lowestBits 0 [(0, .int x0), (1, .int x1)] [] σ Φ := by
  refine s_iload_n 0 (pc := 0) dX4_lowestBits_0 rfl rfl ?_
  refine s_if_ne (pc := 1) (tgt := 9) dX4_lowestBits_1 rfl (fun q1 => ?_) (fun q1 => ?_)
  · replace h := h.1 q1
    refine s_iload_n 0 (pc := 9) dX4_lowestBits_9 rfl rfl ?_
    refine s_iconst (v := 1) (pc := 10) dX4_lowestBits_10 rfl ?_
    refine s_icmp_ne (pc := 11) (tgt := 19) dX4_lowestBits_11 rfl (fun q2 => ?_) (fun q2 => ?_)
    · replace h := h.1 q2
      refine s_iload_n 1 (pc := 19) dX4_lowestBits_19 rfl rfl ?_
      exact s_ret (r := some (.int x1)) ⟨dX4_lowestBits_20, fun ty e => by cases e; rfl⟩ rfl h
    · replace h := h.2 q2
      refine s_iload_n 1 (pc := 14) dX4_lowestBits_14 rfl rfl ?_
      refine s_i2s (pc := 15) dX4_lowestBits_15 ?_
      refine s_goto (pc := 16) (tgt := 20) dX4_lowestBits_16 rfl ?_
      exact s_ret (r := some (.int ((Int32.toInt16 x1).toInt32))) ⟨dX4_lowestBits_20, fun ty e => by cases e; rfl⟩ rfl h
  · replace h := h.2 q1
    refine s_iload_n 1 (pc := 4) dX4_lowestBits_4 rfl rfl ?_
    refine s_i2b (pc := 5) dX4_lowestBits_5 ?_
    refine s_goto (pc := 6) (tgt := 20) dX4_lowestBits_6 rfl ?_
    exact s_ret (r := some (.int ((Int32.toInt8 x1).toInt32))) ⟨dX4_lowestBits_20, fun ty e => by cases e; rfl⟩ rfl h
set_option maxRecDepth 10000 in
set_option maxHeartbeats 4000000 in
theorem tX5_isFull_0 {E : Ev}  {σ : Hp} {Φ : Option Value → Hp → Prop}  (h : (((σ 24 4) < 8 → Φ (some (.int 0)) σ) ∧ (¬ (σ 24 4) < 8 → Φ (some (.int 1)) σ))) : Ru E mX5_isFull 0 [(0, .ref 24)] [] σ Φ := by
  refine s_aload_n 0 (pc := 0) dX5_isFull_0 rfl rfl ?_
  refine s_getI (v := σ 24 4) (pc := 1) dX5_isFull_1 fl_X5_24 ly24 rfl rfl ?_
  refine s_bipush (v := 8) (pc := 4) dX5_isFull_4 rfl ?_
  refine s_icmp_lt (pc := 6) (tgt := 13) dX5_isFull_6 rfl (fun q1 => ?_) (fun q1 => ?_)
  · replace h := h.1 q1
    refine s_iconst (v := 0) (pc := 13) dX5_isFull_13 rfl ?_
    exact s_ret (r := some (.int 0)) ⟨dX5_isFull_14, fun ty e => by cases e; rfl⟩ rfl h
  · replace h := h.2 q1
    refine s_iconst (v := 1) (pc := 9) dX5_isFull_9 rfl ?_
    refine s_goto (pc := 10) (tgt := 14) dX5_isFull_10 rfl ?_
    exact s_ret (r := some (.int 1)) ⟨dX5_isFull_14, fun ty e => by cases e; rfl⟩ rfl h
set_option maxRecDepth 10000 in
set_option maxHeartbeats 4000000 in
theorem tX5_note_0 {E : Ev} {x1 : Int32} {x2 : Int32} {x3 : Int32} {x4 : Int32} {σ : Hp} {Φ : Option Value → Hp → Prop}  (h : ∃ (r3 : Int32) (σ1 : Hp), Call E mX5_isFull [.ref 24] σ (some (.int r3)) σ1 ∧ ((r3 = 0 → vp_in (σ1 24 4) 8 ∧ Φ none (up (up (up (up (up σ1 25 ((σ1 24 4).toNatClampNeg) x1) 26 ((σ1 24 4).toNatClampNeg) x2) 27 ((σ1 24 4).toNatClampNeg) x3) 28 ((σ1 24 4).toNatClampNeg) x4) 24 4 ((σ1 24 4) + 1))) ∧ (¬ r3 = 0 → Φ none σ1))) : Ru E mX5_note 0 [(0, .ref 24), (1, .int x1), (2, .int x2), (3, .int x3), (4, .int x4)] [] σ Φ := by
  refine s_aload_n 0 (pc := 0) dX5_note_0 rfl rfl ?_
  obtain ⟨r3, σ1, hk2, h⟩ := h
  refine s_callV (S := []) [] (pc := 1) dX5_note_1 mv_X5_isFull ml_X5_28 ⟨Nat.le_of_ble_eq_true rfl, Nat.le_of_ble_eq_true rfl⟩ rfl rfl ly24 rfl rfl (Nat.le_of_ble_eq_true rfl) hk2 ?_
  refine s_if_eq (pc := 4) (tgt := 8) dX5_note_4 rfl (fun q4 => ?_) (fun q4 => ?_)
  · replace h := h.1 q4
    refine s_aload_n 0 (pc := 8) dX5_note_8 rfl rfl ?_
    refine s_getR (q := 25) (pc := 9) dX5_note_9 fl_X5_9 ly24 rfl ?_
    refine s_aload_n 0 (pc := 12) dX5_note_12 rfl rfl ?_
    refine s_getI (v := σ1 24 4) (pc := 13) dX5_note_13 fl_X5_24 ly24 rfl rfl ?_
    refine s_iload_n 1 (pc := 16) dX5_note_16 rfl rfl ?_
    have hv5 := h.1
    replace h := h.2
    refine s_iast (pc := 17) dX5_note_17 ly25 hv5 ?_
    refine s_aload_n 0 (pc := 18) dX5_note_18 rfl rfl ?_
    refine s_getR (q := 26) (pc := 19) dX5_note_19 fl_X5_15 ly24 rfl ?_
    refine s_aload_n 0 (pc := 22) dX5_note_22 rfl rfl ?_
    refine s_getI (v := σ1 24 4) (pc := 23) dX5_note_23 fl_X5_24 ly24 rfl (by simp [up]) ?_
    refine s_iload_n 2 (pc := 26) dX5_note_26 rfl rfl ?_
    refine s_iast (pc := 27) dX5_note_27 ly26 hv5 ?_
    refine s_aload_n 0 (pc := 28) dX5_note_28 rfl rfl ?_
    refine s_getR (q := 27) (pc := 29) dX5_note_29 fl_X5_18 ly24 rfl ?_
    refine s_aload_n 0 (pc := 32) dX5_note_32 rfl rfl ?_
    refine s_getI (v := σ1 24 4) (pc := 33) dX5_note_33 fl_X5_24 ly24 rfl (by simp [up]) ?_
    refine s_iload_n 3 (pc := 36) dX5_note_36 rfl rfl ?_
    refine s_iast (pc := 37) dX5_note_37 ly27 hv5 ?_
    refine s_aload_n 0 (pc := 38) dX5_note_38 rfl rfl ?_
    refine s_getR (q := 28) (pc := 39) dX5_note_39 fl_X5_21 ly24 rfl ?_
    refine s_aload_n 0 (pc := 42) dX5_note_42 rfl rfl ?_
    refine s_getI (v := σ1 24 4) (pc := 43) dX5_note_43 fl_X5_24 ly24 rfl (by simp [up]) ?_
    refine s_iload 4 (pc := 46) dX5_note_46 rfl ?_
    refine s_iast (pc := 48) dX5_note_48 ly28 hv5 ?_
    refine s_aload_n 0 (pc := 49) dX5_note_49 rfl rfl ?_
    refine s_dup (pc := 50) dX5_note_50 rfl ?_
    refine s_getI (v := σ1 24 4) (pc := 51) dX5_note_51 fl_X5_24 ly24 rfl (by simp [up]) ?_
    refine s_iconst (v := 1) (pc := 54) dX5_note_54 rfl ?_
    refine s_iadd (pc := 55) dX5_note_55 ?_
    refine s_put (ty := .int) (pc := 56) dX5_note_56 fp_X5_24 ly24 rfl rfl rfl ?_
    exact s_ret (r := none) dX5_note_59 rfl h
  · replace h := h.2 q4
    exact s_ret (r := none) dX5_note_7 rfl h
set_option maxRecDepth 10000 in
set_option maxHeartbeats 4000000 in
theorem tX5_comeOut_0 {E : Ev} {c1 : Nat} {c2 : Nat} {x3 : Int32} {c4 : Nat} {σ : Hp} {Φ : Option Value → Hp → Prop} (hc1 : IsCpl c1) (hc2 : IsEvt c2) (hc4 : IsRing c4) (h : Ru E mX5_comeOut 3 [(0, .ref 24), (1, .ref c1), (2, .ref c2), (3, .int x3), (4, .ref c4), (5, .int 0)] [] σ Φ) : Ru E mX5_comeOut 0 [(0, .ref 24), (1, .ref c1), (2, .ref c2), (3, .int x3), (4, .ref c4)] [] σ Φ := by
  refine s_iconst (v := 0) (pc := 0) dX5_comeOut_0 rfl ?_
  refine s_istore (L' := [(5, .int 0), (0, .ref 24), (1, .ref c1), (2, .ref c2), (3, .int x3), (4, .ref c4)]) (pc := 1) dX5_comeOut_1 (Nat.le_of_ble_eq_true rfl) rfl ?_
  exact s_sub (L' := [(0, .ref 24), (1, .ref c1), (2, .ref c2), (3, .int x3), (4, .ref c4), (5, .int 0)]) [1, 2, 3, 4, 5, 0] rfl h
set_option maxRecDepth 10000 in
set_option maxHeartbeats 4000000 in
theorem tX5_comeOut_3 {E : Ev} {c1 : Nat} {c2 : Nat} {x3 : Int32} {c4 : Nat} {x5 : Int32} {σ : Hp} {Φ : Option Value → Hp → Prop} (hc1 : IsCpl c1) (hc2 : IsEvt c2) (hc4 : IsRing c4) (h : (((σ 24 4) ≤ x5 → Φ (some (.int 1)) σ) ∧ (¬ (σ 24 4) ≤ x5 → vp_in x5 8 ∧ ∃ (r5 : Int32) (σ3 : Hp), Call E mX0_has [.ref c1, .int (σ 26 ((x5).toNatClampNeg))] σ (some (.int r5)) σ3 ∧ ((¬ r5 = 0 → ∃ σ9 : Hp, Call E mX3_live [.ref c4, .ref c1, .ref c2, .int x3, .int (σ3 26 ((x5).toNatClampNeg)), .int (σ3 25 ((x5).toNatClampNeg))] σ3 none σ9 ∧ ∃ (r13 : Int32) (σ11 : Hp), Call E mX3_legX [.ref c4] σ9 (some (.int r13)) σ11 ∧ ((¬ r13 = (σ11 27 ((x5).toNatClampNeg)) → Φ (some (.int 0)) σ11) ∧ (r13 = (σ11 27 ((x5).toNatClampNeg)) → ∃ (r18 : Int32) (σ16 : Hp), Call E mX3_legY [.ref c4] σ11 (some (.int r18)) σ16 ∧ ((r18 = (σ16 28 ((x5).toNatClampNeg)) → Ru E mX5_comeOut 3 [(0, .ref 24), (1, .ref c1), (2, .ref c2), (3, .int x3), (4, .ref c4), (5, .int (x5 + 1))] [] σ16 Φ) ∧ (¬ r18 = (σ16 28 ((x5).toNatClampNeg)) → Φ (some (.int 0)) σ16))))) ∧ (r5 = 0 → Φ (some (.int 0)) σ3))))) : Ru E mX5_comeOut 3 [(0, .ref 24), (1, .ref c1), (2, .ref c2), (3, .int x3), (4, .ref c4), (5, .int x5)] [] σ Φ := by
  refine s_iload 5 (pc := 3) dX5_comeOut_3 rfl ?_
  refine s_aload_n 0 (pc := 5) dX5_comeOut_5 rfl rfl ?_
  refine s_getI (v := σ 24 4) (pc := 6) dX5_comeOut_6 fl_X5_24 ly24 rfl rfl ?_
  refine s_icmp_ge (pc := 9) (tgt := 88) dX5_comeOut_9 rfl (fun q1 => ?_) (fun q1 => ?_)
  · replace h := h.1 q1
    refine s_iconst (v := 1) (pc := 88) dX5_comeOut_88 rfl ?_
    exact s_ret (r := some (.int 1)) ⟨dX5_comeOut_89, fun ty e => by cases e; rfl⟩ rfl h
  · replace h := h.2 q1
    refine s_aload_n 1 (pc := 12) dX5_comeOut_12 rfl rfl ?_
    refine s_aload_n 0 (pc := 13) dX5_comeOut_13 rfl rfl ?_
    refine s_getR (q := 26) (pc := 14) dX5_comeOut_14 fl_X5_15 ly24 rfl ?_
    refine s_iload 5 (pc := 17) dX5_comeOut_17 rfl ?_
    have hv2 := h.1
    replace h := h.2
    refine s_iald (pc := 19) dX5_comeOut_19 ly26 hv2 ?_
    obtain ⟨r5, σ3, hk4, h⟩ := h
    refine s_callV (S := []) [.int (σ 26 ((x5).toNatClampNeg))] (pc := 20) dX5_comeOut_20 mv_X0_has ml_X5_32 ⟨Nat.le_of_ble_eq_true rfl, Nat.le_of_ble_eq_true rfl⟩ rfl rfl hc1.1 rfl rfl (Nat.le_of_ble_eq_true rfl) hk4 ?_
    refine s_if_ne (pc := 23) (tgt := 28) dX5_comeOut_23 rfl (fun q6 => ?_) (fun q6 => ?_)
    · replace h := h.1 q6
      refine s_aload 4 (pc := 28) dX5_comeOut_28 rfl ?_
      refine s_aload_n 1 (pc := 30) dX5_comeOut_30 rfl rfl ?_
      refine s_aload_n 2 (pc := 31) dX5_comeOut_31 rfl rfl ?_
      refine s_iload_n 3 (pc := 32) dX5_comeOut_32 rfl rfl ?_
      refine s_aload_n 0 (pc := 33) dX5_comeOut_33 rfl rfl ?_
      refine s_getR (q := 26) (pc := 34) dX5_comeOut_34 fl_X5_15 ly24 rfl ?_
      refine s_iload 5 (pc := 37) dX5_comeOut_37 rfl ?_
      refine s_iald (pc := 39) dX5_comeOut_39 ly26 hv2 ?_
      refine s_aload_n 0 (pc := 40) dX5_comeOut_40 rfl rfl ?_
      refine s_getR (q := 25) (pc := 41) dX5_comeOut_41 fl_X5_9 ly24 rfl ?_
      refine s_iload 5 (pc := 44) dX5_comeOut_44 rfl ?_
      refine s_iald (pc := 46) dX5_comeOut_46 ly25 hv2 ?_
      obtain ⟨σ9, hk10, h⟩ := h
      refine s_callV (S := []) [.ref c1, .ref c2, .int x3, .int (σ3 26 ((x5).toNatClampNeg)), .int (σ3 25 ((x5).toNatClampNeg))] (pc := 47) dX5_comeOut_47 mv_X3_live ml_X5_38 ⟨Nat.le_of_ble_eq_true rfl, Nat.le_of_ble_eq_true rfl⟩ rfl rfl hc4 rfl rfl (Nat.le_of_ble_eq_true rfl) hk10 ?_
      refine s_aload 4 (pc := 50) dX5_comeOut_50 rfl ?_
      obtain ⟨r13, σ11, hk12, h⟩ := h
      refine s_callV (S := []) [] (pc := 52) dX5_comeOut_52 mv_X3_legX ml_X5_44 ⟨Nat.le_of_ble_eq_true rfl, Nat.le_of_ble_eq_true rfl⟩ rfl rfl hc4 rfl rfl (Nat.le_of_ble_eq_true rfl) hk12 ?_
      refine s_aload_n 0 (pc := 55) dX5_comeOut_55 rfl rfl ?_
      refine s_getR (q := 27) (pc := 56) dX5_comeOut_56 fl_X5_18 ly24 rfl ?_
      refine s_iload 5 (pc := 59) dX5_comeOut_59 rfl ?_
      refine s_iald (pc := 61) dX5_comeOut_61 ly27 hv2 ?_
      refine s_icmp_ne (pc := 62) (tgt := 80) dX5_comeOut_62 rfl (fun q15 => ?_) (fun q15 => ?_)
      · replace h := h.1 q15
        refine s_iconst (v := 0) (pc := 80) dX5_comeOut_80 rfl ?_
        exact s_ret (r := some (.int 0)) ⟨dX5_comeOut_81, fun ty e => by cases e; rfl⟩ rfl h
      · replace h := h.2 q15
        refine s_aload 4 (pc := 65) dX5_comeOut_65 rfl ?_
        obtain ⟨r18, σ16, hk17, h⟩ := h
        refine s_callV (S := []) [] (pc := 67) dX5_comeOut_67 mv_X3_legY ml_X5_48 ⟨Nat.le_of_ble_eq_true rfl, Nat.le_of_ble_eq_true rfl⟩ rfl rfl hc4 rfl rfl (Nat.le_of_ble_eq_true rfl) hk17 ?_
        refine s_aload_n 0 (pc := 70) dX5_comeOut_70 rfl rfl ?_
        refine s_getR (q := 28) (pc := 71) dX5_comeOut_71 fl_X5_21 ly24 rfl ?_
        refine s_iload 5 (pc := 74) dX5_comeOut_74 rfl ?_
        refine s_iald (pc := 76) dX5_comeOut_76 ly28 hv2 ?_
        refine s_icmp_eq (pc := 77) (tgt := 82) dX5_comeOut_77 rfl (fun q20 => ?_) (fun q20 => ?_)
        · replace h := h.1 q20
          refine s_iinc (v := x5 + 1) (L' := [(5, .int (x5 + 1)), (0, .ref 24), (1, .ref c1), (2, .ref c2), (3, .int x3), (4, .ref c4)]) 5 (pc := 82) dX5_comeOut_82 rfl rfl (Nat.le_of_ble_eq_true rfl) rfl ?_
          refine s_goto (pc := 85) (tgt := 3) dX5_comeOut_85 rfl ?_
          exact s_sub (L' := [(0, .ref 24), (1, .ref c1), (2, .ref c2), (3, .int x3), (4, .ref c4), (5, .int (x5 + 1))]) [1, 2, 3, 4, 5, 0] rfl h
        · replace h := h.2 q20
          refine s_iconst (v := 0) (pc := 80) dX5_comeOut_80 rfl ?_
          exact s_ret (r := some (.int 0)) ⟨dX5_comeOut_81, fun ty e => by cases e; rfl⟩ rfl h
    · replace h := h.2 q6
      refine s_iconst (v := 0) (pc := 26) dX5_comeOut_26 rfl ?_
      exact s_ret (r := some (.int 0)) ⟨dX5_comeOut_27, fun ty e => by cases e; rfl⟩ rfl h
set_option maxRecDepth 10000 in
set_option maxHeartbeats 4000000 in
theorem tX6_behind_0 {E : Ev} {c1 : Nat} {c2 : Nat} {x3 : Int32} {x4 : Int32} {σ : Hp} {Φ : Option Value → Hp → Prop} (hc1 : IsCpl c1) (hc2 : IsEvt c2) (h : Ru E mX6_behind 11 [(0, .ref 29), (1, .ref c1), (2, .ref c2), (3, .int x3), (4, .int x4), (5, .int 0)] [] (up σ 29 1 (σ c1 4)) Φ) : Ru E mX6_behind 0 [(0, .ref 29), (1, .ref c1), (2, .ref c2), (3, .int x3), (4, .int x4)] [] σ Φ := by
  refine s_aload_n 0 (pc := 0) dX6_behind_0 rfl rfl ?_
  refine s_aload_n 1 (pc := 1) dX6_behind_1 rfl rfl ?_
  refine s_getI (v := σ c1 4) (pc := 2) dX6_behind_2 fl_X6_18 hc1.1 rfl rfl ?_
  refine s_put (ty := .int) (pc := 5) dX6_behind_5 fp_X6_24 ly29 rfl rfl rfl ?_
  refine s_iconst (v := 0) (pc := 8) dX6_behind_8 rfl ?_
  refine s_istore (L' := [(5, .int 0), (0, .ref 29), (1, .ref c1), (2, .ref c2), (3, .int x3), (4, .int x4)]) (pc := 9) dX6_behind_9 (Nat.le_of_ble_eq_true rfl) rfl ?_
  exact s_sub (L' := [(0, .ref 29), (1, .ref c1), (2, .ref c2), (3, .int x3), (4, .int x4), (5, .int 0)]) [1, 2, 3, 4, 5, 0] rfl h
set_option maxRecDepth 10000 in
set_option maxHeartbeats 4000000 in
theorem tX6_behind_11 {E : Ev} {c1 : Nat} {c2 : Nat} {x3 : Int32} {x4 : Int32} {x5 : Int32} {σ : Hp} {Φ : Option Value → Hp → Prop} (hc1 : IsCpl c1) (hc2 : IsEvt c2) (h : (((σ 29 1) ≤ x5 → Φ none σ) ∧ (¬ (σ 29 1) ≤ x5 → vp_in x5 8 ∧ ∃ σ3 : Hp, Call E mX3_live [.ref (31 + 1 * (x5).toNatClampNeg), .ref c1, .ref c2, .int x3, .int x5, .int x4] σ none σ3 ∧ Ru E mX6_behind 11 [(0, .ref 29), (1, .ref c1), (2, .ref c2), (3, .int x3), (4, .int x4), (5, .int (x5 + 1))] [] σ3 Φ))) : Ru E mX6_behind 11 [(0, .ref 29), (1, .ref c1), (2, .ref c2), (3, .int x3), (4, .int x4), (5, .int x5)] [] σ Φ := by
  refine s_iload 5 (pc := 11) dX6_behind_11 rfl ?_
  refine s_aload_n 0 (pc := 13) dX6_behind_13 rfl rfl ?_
  refine s_getI (v := σ 29 1) (pc := 14) dX6_behind_14 fl_X6_24 ly29 rfl rfl ?_
  refine s_icmp_ge (pc := 17) (tgt := 43) dX6_behind_17 rfl (fun q1 => ?_) (fun q1 => ?_)
  · replace h := h.1 q1
    exact s_ret (r := none) dX6_behind_43 rfl h
  · replace h := h.2 q1
    refine s_aload_n 0 (pc := 20) dX6_behind_20 rfl rfl ?_
    refine s_getR (q := 30) (pc := 21) dX6_behind_21 fl_X6_11 ly29 rfl ?_
    refine s_iload 5 (pc := 24) dX6_behind_24 rfl ?_
    have hv2 := h.1
    replace h := h.2
    refine s_aaldR (pc := 26) dX6_behind_26 ly30 hv2 ?_
    refine s_aload_n 1 (pc := 27) dX6_behind_27 rfl rfl ?_
    refine s_aload_n 2 (pc := 28) dX6_behind_28 rfl rfl ?_
    refine s_iload_n 3 (pc := 29) dX6_behind_29 rfl rfl ?_
    refine s_iload 5 (pc := 30) dX6_behind_30 rfl ?_
    refine s_iload 4 (pc := 32) dX6_behind_32 rfl ?_
    obtain ⟨σ3, hk4, h⟩ := h
    refine s_callV (S := []) [.ref c1, .ref c2, .int x3, .int x5, .int x4] (pc := 34) dX6_behind_34 mv_X3_live ml_X6_25 ⟨Nat.le_of_ble_eq_true rfl, Nat.le_of_ble_eq_true rfl⟩ rfl rfl (rgC hv2) rfl rfl (Nat.le_of_ble_eq_true rfl) hk4 ?_
    refine s_iinc (v := x5 + 1) (L' := [(5, .int (x5 + 1)), (0, .ref 29), (1, .ref c1), (2, .ref c2), (3, .int x3), (4, .int x4)]) 5 (pc := 37) dX6_behind_37 rfl rfl (Nat.le_of_ble_eq_true rfl) rfl ?_
    refine s_goto (pc := 40) (tgt := 11) dX6_behind_40 rfl ?_
    exact s_sub (L' := [(0, .ref 29), (1, .ref c1), (2, .ref c2), (3, .int x3), (4, .int x4), (5, .int (x5 + 1))]) [1, 2, 3, 4, 5, 0] rfl h
set_option maxRecDepth 10000 in
set_option maxHeartbeats 4000000 in
theorem tX6_liveAgain_0 {E : Ev} {c1 : Nat} {c2 : Nat} {x3 : Int32} {x4 : Int32} {x5 : Int32} {σ : Hp} {Φ : Option Value → Hp → Prop} (hc1 : IsCpl c1) (hc2 : IsEvt c2) (h : Ru E mX6_liveAgain 3 [(0, .ref 29), (1, .ref c1), (2, .ref c2), (3, .int x3), (4, .int x4), (5, .int x5), (6, .int 0)] [] σ Φ) : Ru E mX6_liveAgain 0 [(0, .ref 29), (1, .ref c1), (2, .ref c2), (3, .int x3), (4, .int x4), (5, .int x5)] [] σ Φ := by
  refine s_iconst (v := 0) (pc := 0) dX6_liveAgain_0 rfl ?_
  refine s_istore (L' := [(6, .int 0), (0, .ref 29), (1, .ref c1), (2, .ref c2), (3, .int x3), (4, .int x4), (5, .int x5)]) (pc := 1) dX6_liveAgain_1 (Nat.le_of_ble_eq_true rfl) rfl ?_
  exact s_sub (L' := [(0, .ref 29), (1, .ref c1), (2, .ref c2), (3, .int x3), (4, .int x4), (5, .int x5), (6, .int 0)]) [1, 2, 3, 4, 5, 6, 0] rfl h
set_option maxRecDepth 10000 in
set_option maxHeartbeats 4000000 in
theorem tX6_liveAgain_3 {E : Ev} {c1 : Nat} {c2 : Nat} {x3 : Int32} {x4 : Int32} {x5 : Int32} {x6 : Int32} {σ : Hp} {Φ : Option Value → Hp → Prop} (hc1 : IsCpl c1) (hc2 : IsEvt c2) (h : (((σ 29 1) ≤ x6 → Φ none σ) ∧ (¬ (σ 29 1) ≤ x6 → ∃ (r4 : Int32) (σ2 : Hp), Call E mX1_touch [.ref c2, .int x6, .int x4] σ (some (.int r4)) σ2 ∧ ((r4 = 0 → Ru E mX6_liveAgain 3 [(0, .ref 29), (1, .ref c1), (2, .ref c2), (3, .int x3), (4, .int x4), (5, .int x5), (6, .int (x6 + 1))] [] σ2 Φ) ∧ (¬ r4 = 0 → vp_in x6 8 ∧ ∃ σ7 : Hp, Call E mX3_live [.ref (31 + 1 * (x6).toNatClampNeg), .ref c1, .ref c2, .int x3, .int x6, .int x5] σ2 none σ7 ∧ Ru E mX6_liveAgain 3 [(0, .ref 29), (1, .ref c1), (2, .ref c2), (3, .int x3), (4, .int x4), (5, .int x5), (6, .int (x6 + 1))] [] σ7 Φ))))) : Ru E mX6_liveAgain 3 [(0, .ref 29), (1, .ref c1), (2, .ref c2), (3, .int x3), (4, .int x4), (5, .int x5), (6, .int x6)] [] σ Φ := by
  refine s_iload 6 (pc := 3) dX6_liveAgain_3 rfl ?_
  refine s_aload_n 0 (pc := 5) dX6_liveAgain_5 rfl rfl ?_
  refine s_getI (v := σ 29 1) (pc := 6) dX6_liveAgain_6 fl_X6_24 ly29 rfl rfl ?_
  refine s_icmp_ge (pc := 9) (tgt := 46) dX6_liveAgain_9 rfl (fun q1 => ?_) (fun q1 => ?_)
  · replace h := h.1 q1
    exact s_ret (r := none) dX6_liveAgain_46 rfl h
  · replace h := h.2 q1
    refine s_aload_n 2 (pc := 12) dX6_liveAgain_12 rfl rfl ?_
    refine s_iload 6 (pc := 13) dX6_liveAgain_13 rfl ?_
    refine s_iload 4 (pc := 15) dX6_liveAgain_15 rfl ?_
    obtain ⟨r4, σ2, hk3, h⟩ := h
    refine s_callV (S := []) [.int x6, .int x4] (pc := 17) dX6_liveAgain_17 mv_X1_touch ml_X6_29 ⟨Nat.le_of_ble_eq_true rfl, Nat.le_of_ble_eq_true rfl⟩ rfl rfl hc2.1 rfl rfl (Nat.le_of_ble_eq_true rfl) hk3 ?_
    refine s_if_eq (pc := 20) (tgt := 40) dX6_liveAgain_20 rfl (fun q5 => ?_) (fun q5 => ?_)
    · replace h := h.1 q5
      refine s_iinc (v := x6 + 1) (L' := [(6, .int (x6 + 1)), (0, .ref 29), (1, .ref c1), (2, .ref c2), (3, .int x3), (4, .int x4), (5, .int x5)]) 6 (pc := 40) dX6_liveAgain_40 rfl rfl (Nat.le_of_ble_eq_true rfl) rfl ?_
      refine s_goto (pc := 43) (tgt := 3) dX6_liveAgain_43 rfl ?_
      exact s_sub (L' := [(0, .ref 29), (1, .ref c1), (2, .ref c2), (3, .int x3), (4, .int x4), (5, .int x5), (6, .int (x6 + 1))]) [1, 2, 3, 4, 5, 6, 0] rfl h
    · replace h := h.2 q5
      refine s_aload_n 0 (pc := 23) dX6_liveAgain_23 rfl rfl ?_
      refine s_getR (q := 30) (pc := 24) dX6_liveAgain_24 fl_X6_11 ly29 rfl ?_
      refine s_iload 6 (pc := 27) dX6_liveAgain_27 rfl ?_
      have hv6 := h.1
      replace h := h.2
      refine s_aaldR (pc := 29) dX6_liveAgain_29 ly30 hv6 ?_
      refine s_aload_n 1 (pc := 30) dX6_liveAgain_30 rfl rfl ?_
      refine s_aload_n 2 (pc := 31) dX6_liveAgain_31 rfl rfl ?_
      refine s_iload_n 3 (pc := 32) dX6_liveAgain_32 rfl rfl ?_
      refine s_iload 6 (pc := 33) dX6_liveAgain_33 rfl ?_
      refine s_iload 5 (pc := 35) dX6_liveAgain_35 rfl ?_
      obtain ⟨σ7, hk8, h⟩ := h
      refine s_callV (S := []) [.ref c1, .ref c2, .int x3, .int x6, .int x5] (pc := 37) dX6_liveAgain_37 mv_X3_live ml_X6_25 ⟨Nat.le_of_ble_eq_true rfl, Nat.le_of_ble_eq_true rfl⟩ rfl rfl (rgC hv6) rfl rfl (Nat.le_of_ble_eq_true rfl) hk8 ?_
      refine s_iinc (v := x6 + 1) (L' := [(6, .int (x6 + 1)), (0, .ref 29), (1, .ref c1), (2, .ref c2), (3, .int x3), (4, .int x4), (5, .int x5)]) 6 (pc := 40) dX6_liveAgain_40 rfl rfl (Nat.le_of_ble_eq_true rfl) rfl ?_
      refine s_goto (pc := 43) (tgt := 3) dX6_liveAgain_43 rfl ?_
      exact s_sub (L' := [(0, .ref 29), (1, .ref c1), (2, .ref c2), (3, .int x3), (4, .int x4), (5, .int x5), (6, .int (x6 + 1))]) [1, 2, 3, 4, 5, 6, 0] rfl h
set_option maxRecDepth 10000 in
set_option maxHeartbeats 4000000 in
theorem tX6_closedPairs_0 {E : Ev} {x1 : Int32} {σ : Hp} {Φ : Option Value → Hp → Prop}  (h : Ru E mX6_closedPairs 4 [(0, .ref 29), (1, .int x1), (2, .int 0), (3, .int 0)] [] σ Φ) : Ru E mX6_closedPairs 0 [(0, .ref 29), (1, .int x1)] [] σ Φ := by
  refine s_iconst (v := 0) (pc := 0) dX6_closedPairs_0 rfl ?_
  refine s_istore_n (L' := [(2, .int 0), (0, .ref 29), (1, .int x1)]) (pc := 1) dX6_closedPairs_1 rfl (Nat.le_of_ble_eq_true rfl) rfl ?_
  refine s_iconst (v := 0) (pc := 2) dX6_closedPairs_2 rfl ?_
  refine s_istore_n (L' := [(3, .int 0), (2, .int 0), (0, .ref 29), (1, .int x1)]) (pc := 3) dX6_closedPairs_3 rfl (Nat.le_of_ble_eq_true rfl) rfl ?_
  exact s_sub (L' := [(0, .ref 29), (1, .int x1), (2, .int 0), (3, .int 0)]) [2, 3, 1, 0] rfl h
set_option maxRecDepth 10000 in
set_option maxHeartbeats 4000000 in
theorem tX6_closedPairs_4 {E : Ev} {x1 : Int32} {x2 : Int32} {x3 : Int32} {σ : Hp} {Φ : Option Value → Hp → Prop}  (h : (((σ 29 1) ≤ x3 → Φ (some (.int x2)) σ) ∧ (¬ (σ 29 1) ≤ x3 → Ru E mX6_closedPairs 17 [(0, .ref 29), (1, .int x1), (2, .int x2), (3, .int x3), (4, .int (x3 + 1))] [] σ Φ))) : Ru E mX6_closedPairs 4 [(0, .ref 29), (1, .int x1), (2, .int x2), (3, .int x3)] [] σ Φ := by
  refine s_iload_n 3 (pc := 4) dX6_closedPairs_4 rfl rfl ?_
  refine s_aload_n 0 (pc := 5) dX6_closedPairs_5 rfl rfl ?_
  refine s_getI (v := σ 29 1) (pc := 6) dX6_closedPairs_6 fl_X6_24 ly29 rfl rfl ?_
  refine s_icmp_ge (pc := 9) (tgt := 86) dX6_closedPairs_9 rfl (fun q1 => ?_) (fun q1 => ?_)
  · replace h := h.1 q1
    refine s_iload_n 2 (pc := 86) dX6_closedPairs_86 rfl rfl ?_
    exact s_ret (r := some (.int x2)) ⟨dX6_closedPairs_87, fun ty e => by cases e; rfl⟩ rfl h
  · replace h := h.2 q1
    refine s_iload_n 3 (pc := 12) dX6_closedPairs_12 rfl rfl ?_
    refine s_iconst (v := 1) (pc := 13) dX6_closedPairs_13 rfl ?_
    refine s_iadd (pc := 14) dX6_closedPairs_14 ?_
    refine s_istore (L' := [(4, .int (x3 + 1)), (0, .ref 29), (1, .int x1), (2, .int x2), (3, .int x3)]) (pc := 15) dX6_closedPairs_15 (Nat.le_of_ble_eq_true rfl) rfl ?_
    exact s_sub (L' := [(0, .ref 29), (1, .int x1), (2, .int x2), (3, .int x3), (4, .int (x3 + 1))]) [1, 2, 3, 4, 0] rfl h
set_option maxRecDepth 10000 in
set_option maxHeartbeats 4000000 in
theorem tX6_closedPairs_17 {E : Ev} {x1 : Int32} {x2 : Int32} {x3 : Int32} {x4 : Int32} {σ : Hp} {Φ : Option Value → Hp → Prop}  (h : (((σ 29 1) ≤ x4 → Ru E mX6_closedPairs 4 [(0, .ref 29), (1, .int x1), (2, .int x2), (3, .int (x3 + 1))] [] σ Φ) ∧ (¬ (σ 29 1) ≤ x4 → vp_in x3 8 ∧ ∃ (r5 : Int32) (σ3 : Hp), Call E mX3_isClosed [.ref (31 + 1 * (x3).toNatClampNeg)] σ (some (.int r5)) σ3 ∧ ((r5 = 0 → Ru E mX6_closedPairs 4 [(0, .ref 29), (1, .int x1), (2, .int x2), (3, .int (x3 + 1))] [] σ3 Φ) ∧ (¬ r5 = 0 → vp_in x4 8 ∧ ∃ (r10 : Int32) (σ8 : Hp), Call E mX3_isClosed [.ref (31 + 1 * (x4).toNatClampNeg)] σ3 (some (.int r10)) σ8 ∧ ((r10 = 0 → Ru E mX6_closedPairs 17 [(0, .ref 29), (1, .int x1), (2, .int x2), (3, .int x3), (4, .int (x4 + 1))] [] σ8 Φ) ∧ (¬ r10 = 0 → ∃ (r16 : Int32) (σ14 : Hp), Call E mX3_isAny [.ref (31 + 1 * (x3).toNatClampNeg), .int x1, .ref (31 + 1 * (x4).toNatClampNeg)] σ8 (some (.int r16)) σ14 ∧ ((r16 = 0 → Ru E mX6_closedPairs 17 [(0, .ref 29), (1, .int x1), (2, .int x2), (3, .int x3), (4, .int (x4 + 1))] [] σ14 Φ) ∧ (¬ r16 = 0 → Ru E mX6_closedPairs 17 [(0, .ref 29), (1, .int x1), (2, .int (x2 + 1)), (3, .int x3), (4, .int (x4 + 1))] [] σ14 Φ))))))))) : Ru E mX6_closedPairs 17 [(0, .ref 29), (1, .int x1), (2, .int x2), (3, .int x3), (4, .int x4)] [] σ Φ := by
  refine s_iload 4 (pc := 17) dX6_closedPairs_17 rfl ?_
  refine s_aload_n 0 (pc := 19) dX6_closedPairs_19 rfl rfl ?_
  refine s_getI (v := σ 29 1) (pc := 20) dX6_closedPairs_20 fl_X6_24 ly29 rfl rfl ?_
  refine s_icmp_ge (pc := 23) (tgt := 80) dX6_closedPairs_23 rfl (fun q1 => ?_) (fun q1 => ?_)
  · replace h := h.1 q1
    refine s_iinc (v := x3 + 1) (L' := [(3, .int (x3 + 1)), (0, .ref 29), (1, .int x1), (2, .int x2), (4, .int x4)]) 3 (pc := 80) dX6_closedPairs_80 rfl rfl (Nat.le_of_ble_eq_true rfl) rfl ?_
    refine s_goto (pc := 83) (tgt := 4) dX6_closedPairs_83 rfl ?_
    exact s_sub (L' := [(0, .ref 29), (1, .int x1), (2, .int x2), (3, .int (x3 + 1))]) [1, 2, 3, 0] rfl h
  · replace h := h.2 q1
    refine s_aload_n 0 (pc := 26) dX6_closedPairs_26 rfl rfl ?_
    refine s_getR (q := 30) (pc := 27) dX6_closedPairs_27 fl_X6_11 ly29 rfl ?_
    refine s_iload_n 3 (pc := 30) dX6_closedPairs_30 rfl rfl ?_
    have hv2 := h.1
    replace h := h.2
    refine s_aaldR (pc := 31) dX6_closedPairs_31 ly30 hv2 ?_
    obtain ⟨r5, σ3, hk4, h⟩ := h
    refine s_callV (S := []) [] (pc := 32) dX6_closedPairs_32 mv_X3_isClosed ml_X6_35 ⟨Nat.le_of_ble_eq_true rfl, Nat.le_of_ble_eq_true rfl⟩ rfl rfl (rgC hv2) rfl rfl (Nat.le_of_ble_eq_true rfl) hk4 ?_
    refine s_if_eq (pc := 35) (tgt := 80) dX6_closedPairs_35 rfl (fun q6 => ?_) (fun q6 => ?_)
    · replace h := h.1 q6
      refine s_iinc (v := x3 + 1) (L' := [(3, .int (x3 + 1)), (0, .ref 29), (1, .int x1), (2, .int x2), (4, .int x4)]) 3 (pc := 80) dX6_closedPairs_80 rfl rfl (Nat.le_of_ble_eq_true rfl) rfl ?_
      refine s_goto (pc := 83) (tgt := 4) dX6_closedPairs_83 rfl ?_
      exact s_sub (L' := [(0, .ref 29), (1, .int x1), (2, .int x2), (3, .int (x3 + 1))]) [1, 2, 3, 0] rfl h
    · replace h := h.2 q6
      refine s_aload_n 0 (pc := 38) dX6_closedPairs_38 rfl rfl ?_
      refine s_getR (q := 30) (pc := 39) dX6_closedPairs_39 fl_X6_11 ly29 rfl ?_
      refine s_iload 4 (pc := 42) dX6_closedPairs_42 rfl ?_
      have hv7 := h.1
      replace h := h.2
      refine s_aaldR (pc := 44) dX6_closedPairs_44 ly30 hv7 ?_
      obtain ⟨r10, σ8, hk9, h⟩ := h
      refine s_callV (S := []) [] (pc := 45) dX6_closedPairs_45 mv_X3_isClosed ml_X6_35 ⟨Nat.le_of_ble_eq_true rfl, Nat.le_of_ble_eq_true rfl⟩ rfl rfl (rgC hv7) rfl rfl (Nat.le_of_ble_eq_true rfl) hk9 ?_
      refine s_if_eq (pc := 48) (tgt := 74) dX6_closedPairs_48 rfl (fun q11 => ?_) (fun q11 => ?_)
      · replace h := h.1 q11
        refine s_iinc (v := x4 + 1) (L' := [(4, .int (x4 + 1)), (0, .ref 29), (1, .int x1), (2, .int x2), (3, .int x3)]) 4 (pc := 74) dX6_closedPairs_74 rfl rfl (Nat.le_of_ble_eq_true rfl) rfl ?_
        refine s_goto (pc := 77) (tgt := 17) dX6_closedPairs_77 rfl ?_
        exact s_sub (L' := [(0, .ref 29), (1, .int x1), (2, .int x2), (3, .int x3), (4, .int (x4 + 1))]) [1, 2, 3, 4, 0] rfl h
      · replace h := h.2 q11
        refine s_aload_n 0 (pc := 51) dX6_closedPairs_51 rfl rfl ?_
        refine s_getR (q := 30) (pc := 52) dX6_closedPairs_52 fl_X6_11 ly29 rfl ?_
        refine s_iload_n 3 (pc := 55) dX6_closedPairs_55 rfl rfl ?_
        refine s_aaldR (pc := 56) dX6_closedPairs_56 ly30 hv2 ?_
        refine s_iload_n 1 (pc := 57) dX6_closedPairs_57 rfl rfl ?_
        refine s_aload_n 0 (pc := 58) dX6_closedPairs_58 rfl rfl ?_
        refine s_getR (q := 30) (pc := 59) dX6_closedPairs_59 fl_X6_11 ly29 rfl ?_
        refine s_iload 4 (pc := 62) dX6_closedPairs_62 rfl ?_
        refine s_aaldR (pc := 64) dX6_closedPairs_64 ly30 hv7 ?_
        obtain ⟨r16, σ14, hk15, h⟩ := h
        refine s_callV (S := []) [.int x1, .ref (31 + 1 * (x4).toNatClampNeg)] (pc := 65) dX6_closedPairs_65 mv_X3_isAny ml_X6_39 ⟨Nat.le_of_ble_eq_true rfl, Nat.le_of_ble_eq_true rfl⟩ rfl rfl (rgC hv2) rfl rfl (Nat.le_of_ble_eq_true rfl) hk15 ?_
        refine s_if_eq (pc := 68) (tgt := 74) dX6_closedPairs_68 rfl (fun q17 => ?_) (fun q17 => ?_)
        · replace h := h.1 q17
          refine s_iinc (v := x4 + 1) (L' := [(4, .int (x4 + 1)), (0, .ref 29), (1, .int x1), (2, .int x2), (3, .int x3)]) 4 (pc := 74) dX6_closedPairs_74 rfl rfl (Nat.le_of_ble_eq_true rfl) rfl ?_
          refine s_goto (pc := 77) (tgt := 17) dX6_closedPairs_77 rfl ?_
          exact s_sub (L' := [(0, .ref 29), (1, .int x1), (2, .int x2), (3, .int x3), (4, .int (x4 + 1))]) [1, 2, 3, 4, 0] rfl h
        · replace h := h.2 q17
          refine s_iinc (v := x2 + 1) (L' := [(2, .int (x2 + 1)), (0, .ref 29), (1, .int x1), (3, .int x3), (4, .int x4)]) 2 (pc := 71) dX6_closedPairs_71 rfl rfl (Nat.le_of_ble_eq_true rfl) rfl ?_
          refine s_iinc (v := x4 + 1) (L' := [(4, .int (x4 + 1)), (2, .int (x2 + 1)), (0, .ref 29), (1, .int x1), (3, .int x3)]) 4 (pc := 74) dX6_closedPairs_74 rfl rfl (Nat.le_of_ble_eq_true rfl) rfl ?_
          refine s_goto (pc := 77) (tgt := 17) dX6_closedPairs_77 rfl ?_
          exact s_sub (L' := [(0, .ref 29), (1, .int x1), (2, .int (x2 + 1)), (3, .int x3), (4, .int (x4 + 1))]) [2, 3, 1, 4, 0] rfl h
set_option maxRecDepth 10000 in
set_option maxHeartbeats 4000000 in
theorem tX6_othersWith_0 {E : Ev} {x1 : Int32} {x2 : Int32} {σ : Hp} {Φ : Option Value → Hp → Prop}  (h : Ru E mX6_othersWith 5 [(0, .ref 29), (1, .int x1), (2, .int x2), (3, .int 0), (4, .int 0)] [] σ Φ) : Ru E mX6_othersWith 0 [(0, .ref 29), (1, .int x1), (2, .int x2)] [] σ Φ := by
  refine s_iconst (v := 0) (pc := 0) dX6_othersWith_0 rfl ?_
  refine s_istore_n (L' := [(3, .int 0), (0, .ref 29), (1, .int x1), (2, .int x2)]) (pc := 1) dX6_othersWith_1 rfl (Nat.le_of_ble_eq_true rfl) rfl ?_
  refine s_iconst (v := 0) (pc := 2) dX6_othersWith_2 rfl ?_
  refine s_istore (L' := [(4, .int 0), (3, .int 0), (0, .ref 29), (1, .int x1), (2, .int x2)]) (pc := 3) dX6_othersWith_3 (Nat.le_of_ble_eq_true rfl) rfl ?_
  exact s_sub (L' := [(0, .ref 29), (1, .int x1), (2, .int x2), (3, .int 0), (4, .int 0)]) [2, 3, 4, 1, 0] rfl h
set_option maxRecDepth 10000 in
set_option maxHeartbeats 4000000 in
theorem tX6_othersWith_5 {E : Ev} {x1 : Int32} {x2 : Int32} {x3 : Int32} {x4 : Int32} {σ : Hp} {Φ : Option Value → Hp → Prop}  (h : (((σ 29 1) ≤ x4 → Φ (some (.int x3)) σ) ∧ (¬ (σ 29 1) ≤ x4 → ((x4 = x1 → Ru E mX6_othersWith 5 [(0, .ref 29), (1, .int x1), (2, .int x2), (3, .int x3), (4, .int (x4 + 1))] [] σ Φ) ∧ (¬ x4 = x1 → vp_in x1 8 ∧ vp_in x4 8 ∧ ∃ (r7 : Int32) (σ5 : Hp), Call E mX3_isAny [.ref (31 + 1 * (x1).toNatClampNeg), .int x2, .ref (31 + 1 * (x4).toNatClampNeg)] σ (some (.int r7)) σ5 ∧ ((r7 = 0 → Ru E mX6_othersWith 5 [(0, .ref 29), (1, .int x1), (2, .int x2), (3, .int x3), (4, .int (x4 + 1))] [] σ5 Φ) ∧ (¬ r7 = 0 → Ru E mX6_othersWith 5 [(0, .ref 29), (1, .int x1), (2, .int x2), (3, .int (x3 + 1)), (4, .int (x4 + 1))] [] σ5 Φ))))))) : Ru E mX6_othersWith 5 [(0, .ref 29), (1, .int x1), (2, .int x2), (3, .int x3), (4, .int x4)] [] σ Φ := by
  refine s_iload 4 (pc := 5) dX6_othersWith_5 rfl ?_
  refine s_aload_n 0 (pc := 7) dX6_othersWith_7 rfl rfl ?_
  refine s_getI (v := σ 29 1) (pc := 8) dX6_othersWith_8 fl_X6_24 ly29 rfl rfl ?_
  refine s_icmp_ge (pc := 11) (tgt := 49) dX6_othersWith_11 rfl (fun q1 => ?_) (fun q1 => ?_)
  · replace h := h.1 q1
    refine s_iload_n 3 (pc := 49) dX6_othersWith_49 rfl rfl ?_
    exact s_ret (r := some (.int x3)) ⟨dX6_othersWith_50, fun ty e => by cases e; rfl⟩ rfl h
  · replace h := h.2 q1
    refine s_iload 4 (pc := 14) dX6_othersWith_14 rfl ?_
    refine s_iload_n 1 (pc := 16) dX6_othersWith_16 rfl rfl ?_
    refine s_icmp_eq (pc := 17) (tgt := 43) dX6_othersWith_17 rfl (fun q2 => ?_) (fun q2 => ?_)
    · replace h := h.1 q2
      refine s_iinc (v := x4 + 1) (L' := [(4, .int (x4 + 1)), (0, .ref 29), (1, .int x1), (2, .int x2), (3, .int x3)]) 4 (pc := 43) dX6_othersWith_43 rfl rfl (Nat.le_of_ble_eq_true rfl) rfl ?_
      refine s_goto (pc := 46) (tgt := 5) dX6_othersWith_46 rfl ?_
      exact s_sub (L' := [(0, .ref 29), (1, .int x1), (2, .int x2), (3, .int x3), (4, .int (x4 + 1))]) [1, 2, 3, 4, 0] rfl h
    · replace h := h.2 q2
      refine s_aload_n 0 (pc := 20) dX6_othersWith_20 rfl rfl ?_
      refine s_getR (q := 30) (pc := 21) dX6_othersWith_21 fl_X6_11 ly29 rfl ?_
      refine s_iload_n 1 (pc := 24) dX6_othersWith_24 rfl rfl ?_
      have hv3 := h.1
      replace h := h.2
      refine s_aaldR (pc := 25) dX6_othersWith_25 ly30 hv3 ?_
      refine s_iload_n 2 (pc := 26) dX6_othersWith_26 rfl rfl ?_
      refine s_aload_n 0 (pc := 27) dX6_othersWith_27 rfl rfl ?_
      refine s_getR (q := 30) (pc := 28) dX6_othersWith_28 fl_X6_11 ly29 rfl ?_
      refine s_iload 4 (pc := 31) dX6_othersWith_31 rfl ?_
      have hv4 := h.1
      replace h := h.2
      refine s_aaldR (pc := 33) dX6_othersWith_33 ly30 hv4 ?_
      obtain ⟨r7, σ5, hk6, h⟩ := h
      refine s_callV (S := []) [.int x2, .ref (31 + 1 * (x4).toNatClampNeg)] (pc := 34) dX6_othersWith_34 mv_X3_isAny ml_X6_39 ⟨Nat.le_of_ble_eq_true rfl, Nat.le_of_ble_eq_true rfl⟩ rfl rfl (rgC hv3) rfl rfl (Nat.le_of_ble_eq_true rfl) hk6 ?_
      refine s_if_eq (pc := 37) (tgt := 43) dX6_othersWith_37 rfl (fun q8 => ?_) (fun q8 => ?_)
      · replace h := h.1 q8
        refine s_iinc (v := x4 + 1) (L' := [(4, .int (x4 + 1)), (0, .ref 29), (1, .int x1), (2, .int x2), (3, .int x3)]) 4 (pc := 43) dX6_othersWith_43 rfl rfl (Nat.le_of_ble_eq_true rfl) rfl ?_
        refine s_goto (pc := 46) (tgt := 5) dX6_othersWith_46 rfl ?_
        exact s_sub (L' := [(0, .ref 29), (1, .int x1), (2, .int x2), (3, .int x3), (4, .int (x4 + 1))]) [1, 2, 3, 4, 0] rfl h
      · replace h := h.2 q8
        refine s_iinc (v := x3 + 1) (L' := [(3, .int (x3 + 1)), (0, .ref 29), (1, .int x1), (2, .int x2), (4, .int x4)]) 3 (pc := 40) dX6_othersWith_40 rfl rfl (Nat.le_of_ble_eq_true rfl) rfl ?_
        refine s_iinc (v := x4 + 1) (L' := [(4, .int (x4 + 1)), (3, .int (x3 + 1)), (0, .ref 29), (1, .int x1), (2, .int x2)]) 4 (pc := 43) dX6_othersWith_43 rfl rfl (Nat.le_of_ble_eq_true rfl) rfl ?_
        refine s_goto (pc := 46) (tgt := 5) dX6_othersWith_46 rfl ?_
        exact s_sub (L' := [(0, .ref 29), (1, .int x1), (2, .int x2), (3, .int (x3 + 1)), (4, .int (x4 + 1))]) [2, 3, 4, 1, 0] rfl h
set_option maxRecDepth 10000 in
set_option maxHeartbeats 4000000 in
theorem tX6_closedBits_0 {E : Ev}  {σ : Hp} {Φ : Option Value → Hp → Prop}  (h : Ru E mX6_closedBits 4 [(0, .ref 29), (1, .int 0), (2, .int 0)] [] σ Φ) : Ru E mX6_closedBits 0 [(0, .ref 29)] [] σ Φ := by
  refine s_iconst (v := 0) (pc := 0) dX6_closedBits_0 rfl ?_
  refine s_istore_n (L' := [(1, .int 0), (0, .ref 29)]) (pc := 1) dX6_closedBits_1 rfl (Nat.le_of_ble_eq_true rfl) rfl ?_
  refine s_iconst (v := 0) (pc := 2) dX6_closedBits_2 rfl ?_
  refine s_istore_n (L' := [(2, .int 0), (1, .int 0), (0, .ref 29)]) (pc := 3) dX6_closedBits_3 rfl (Nat.le_of_ble_eq_true rfl) rfl ?_
  exact s_sub (L' := [(0, .ref 29), (1, .int 0), (2, .int 0)]) [2, 1, 0] rfl h
set_option maxRecDepth 10000 in
set_option maxHeartbeats 4000000 in
theorem tX6_closedBits_4 {E : Ev} {x1 : Int32} {x2 : Int32} {σ : Hp} {Φ : Option Value → Hp → Prop}  (h : (((σ 29 1) ≤ x2 → Φ (some (.int x1)) σ) ∧ (¬ (σ 29 1) ≤ x2 → vp_in x2 8 ∧ ∃ (r5 : Int32) (σ3 : Hp), Call E mX3_isClosed [.ref (31 + 1 * (x2).toNatClampNeg)] σ (some (.int r5)) σ3 ∧ ((r5 = 0 → Ru E mX6_closedBits 4 [(0, .ref 29), (1, .int x1), (2, .int (x2 + 1))] [] σ3 Φ) ∧ (¬ r5 = 0 → Ru E mX6_closedBits 4 [(0, .ref 29), (1, .int (x1 ||| (1 <<< (x2 &&& 31)))), (2, .int (x2 + 1))] [] σ3 Φ))))) : Ru E mX6_closedBits 4 [(0, .ref 29), (1, .int x1), (2, .int x2)] [] σ Φ := by
  refine s_iload_n 2 (pc := 4) dX6_closedBits_4 rfl rfl ?_
  refine s_aload_n 0 (pc := 5) dX6_closedBits_5 rfl rfl ?_
  refine s_getI (v := σ 29 1) (pc := 6) dX6_closedBits_6 fl_X6_24 ly29 rfl rfl ?_
  refine s_icmp_ge (pc := 9) (tgt := 36) dX6_closedBits_9 rfl (fun q1 => ?_) (fun q1 => ?_)
  · replace h := h.1 q1
    refine s_iload_n 1 (pc := 36) dX6_closedBits_36 rfl rfl ?_
    exact s_ret (r := some (.int x1)) ⟨dX6_closedBits_37, fun ty e => by cases e; rfl⟩ rfl h
  · replace h := h.2 q1
    refine s_aload_n 0 (pc := 12) dX6_closedBits_12 rfl rfl ?_
    refine s_getR (q := 30) (pc := 13) dX6_closedBits_13 fl_X6_11 ly29 rfl ?_
    refine s_iload_n 2 (pc := 16) dX6_closedBits_16 rfl rfl ?_
    have hv2 := h.1
    replace h := h.2
    refine s_aaldR (pc := 17) dX6_closedBits_17 ly30 hv2 ?_
    obtain ⟨r5, σ3, hk4, h⟩ := h
    refine s_callV (S := []) [] (pc := 18) dX6_closedBits_18 mv_X3_isClosed ml_X6_35 ⟨Nat.le_of_ble_eq_true rfl, Nat.le_of_ble_eq_true rfl⟩ rfl rfl (rgC hv2) rfl rfl (Nat.le_of_ble_eq_true rfl) hk4 ?_
    refine s_if_eq (pc := 21) (tgt := 30) dX6_closedBits_21 rfl (fun q6 => ?_) (fun q6 => ?_)
    · replace h := h.1 q6
      refine s_iinc (v := x2 + 1) (L' := [(2, .int (x2 + 1)), (0, .ref 29), (1, .int x1)]) 2 (pc := 30) dX6_closedBits_30 rfl rfl (Nat.le_of_ble_eq_true rfl) rfl ?_
      refine s_goto (pc := 33) (tgt := 4) dX6_closedBits_33 rfl ?_
      exact s_sub (L' := [(0, .ref 29), (1, .int x1), (2, .int (x2 + 1))]) [1, 2, 0] rfl h
    · replace h := h.2 q6
      refine s_iload_n 1 (pc := 24) dX6_closedBits_24 rfl rfl ?_
      refine s_iconst (v := 1) (pc := 25) dX6_closedBits_25 rfl ?_
      refine s_iload_n 2 (pc := 26) dX6_closedBits_26 rfl rfl ?_
      refine s_ishl (pc := 27) dX6_closedBits_27 ?_
      refine s_ior (pc := 28) dX6_closedBits_28 ?_
      refine s_istore_n (L' := [(1, .int (x1 ||| (1 <<< (x2 &&& 31)))), (0, .ref 29), (2, .int x2)]) (pc := 29) dX6_closedBits_29 rfl (Nat.le_of_ble_eq_true rfl) rfl ?_
      refine s_iinc (v := x2 + 1) (L' := [(2, .int (x2 + 1)), (1, .int (x1 ||| (1 <<< (x2 &&& 31)))), (0, .ref 29)]) 2 (pc := 30) dX6_closedBits_30 rfl rfl (Nat.le_of_ble_eq_true rfl) rfl ?_
      refine s_goto (pc := 33) (tgt := 4) dX6_closedBits_33 rfl ?_
      exact s_sub (L' := [(0, .ref 29), (1, .int (x1 ||| (1 <<< (x2 &&& 31)))), (2, .int (x2 + 1))]) [2, 1, 0] rfl h
set_option maxRecDepth 10000 in
set_option maxHeartbeats 4000000 in
theorem tX6_sighs_0 {E : Ev}  {σ : Hp} {Φ : Option Value → Hp → Prop}  (h : Ru E mX6_sighs 4 [(0, .ref 29), (1, .int 0), (2, .int 0)] [] σ Φ) : Ru E mX6_sighs 0 [(0, .ref 29)] [] σ Φ := by
  refine s_iconst (v := 0) (pc := 0) dX6_sighs_0 rfl ?_
  refine s_istore_n (L' := [(1, .int 0), (0, .ref 29)]) (pc := 1) dX6_sighs_1 rfl (Nat.le_of_ble_eq_true rfl) rfl ?_
  refine s_iconst (v := 0) (pc := 2) dX6_sighs_2 rfl ?_
  refine s_istore_n (L' := [(2, .int 0), (1, .int 0), (0, .ref 29)]) (pc := 3) dX6_sighs_3 rfl (Nat.le_of_ble_eq_true rfl) rfl ?_
  exact s_sub (L' := [(0, .ref 29), (1, .int 0), (2, .int 0)]) [2, 1, 0] rfl h
set_option maxRecDepth 10000 in
set_option maxHeartbeats 4000000 in
theorem tX6_sighs_4 {E : Ev} {x1 : Int32} {x2 : Int32} {σ : Hp} {Φ : Option Value → Hp → Prop}  (h : (((σ 29 1) ≤ x2 → Φ (some (.int x1)) σ) ∧ (¬ (σ 29 1) ≤ x2 → vp_in x2 8 ∧ Ru E mX6_sighs 4 [(0, .ref 29), (1, .int (x1 + (σ (31 + 1 * (x2).toNatClampNeg) 6))), (2, .int (x2 + 1))] [] σ Φ))) : Ru E mX6_sighs 4 [(0, .ref 29), (1, .int x1), (2, .int x2)] [] σ Φ := by
  refine s_iload_n 2 (pc := 4) dX6_sighs_4 rfl rfl ?_
  refine s_aload_n 0 (pc := 5) dX6_sighs_5 rfl rfl ?_
  refine s_getI (v := σ 29 1) (pc := 6) dX6_sighs_6 fl_X6_24 ly29 rfl rfl ?_
  refine s_icmp_ge (pc := 9) (tgt := 30) dX6_sighs_9 rfl (fun q1 => ?_) (fun q1 => ?_)
  · replace h := h.1 q1
    refine s_iload_n 1 (pc := 30) dX6_sighs_30 rfl rfl ?_
    exact s_ret (r := some (.int x1)) ⟨dX6_sighs_31, fun ty e => by cases e; rfl⟩ rfl h
  · replace h := h.2 q1
    refine s_iload_n 1 (pc := 12) dX6_sighs_12 rfl rfl ?_
    refine s_aload_n 0 (pc := 13) dX6_sighs_13 rfl rfl ?_
    refine s_getR (q := 30) (pc := 14) dX6_sighs_14 fl_X6_11 ly29 rfl ?_
    refine s_iload_n 2 (pc := 17) dX6_sighs_17 rfl rfl ?_
    have hv2 := h.1
    replace h := h.2
    refine s_aaldR (pc := 18) dX6_sighs_18 ly30 hv2 ?_
    refine s_getI (v := σ (31 + 1 * (x2).toNatClampNeg) 6) (pc := 19) dX6_sighs_19 fl_X6_43 (rgC hv2) rfl rfl ?_
    refine s_iadd (pc := 22) dX6_sighs_22 ?_
    refine s_istore_n (L' := [(1, .int (x1 + (σ (31 + 1 * (x2).toNatClampNeg) 6))), (0, .ref 29), (2, .int x2)]) (pc := 23) dX6_sighs_23 rfl (Nat.le_of_ble_eq_true rfl) rfl ?_
    refine s_iinc (v := x2 + 1) (L' := [(2, .int (x2 + 1)), (1, .int (x1 + (σ (31 + 1 * (x2).toNatClampNeg) 6))), (0, .ref 29)]) 2 (pc := 24) dX6_sighs_24 rfl rfl (Nat.le_of_ble_eq_true rfl) rfl ?_
    refine s_goto (pc := 27) (tgt := 4) dX6_sighs_27 rfl ?_
    exact s_sub (L' := [(0, .ref 29), (1, .int (x1 + (σ (31 + 1 * (x2).toNatClampNeg) 6))), (2, .int (x2 + 1))]) [2, 1, 0] rfl h
set_option maxRecDepth 10000 in
set_option maxHeartbeats 4000000 in
theorem tX6_firstMetBy_0 {E : Ev} {x1 : Int32} {σ : Hp} {Φ : Option Value → Hp → Prop}  (h : Ru E mX6_firstMetBy 4 [(0, .ref 29), (1, .int x1), (2, .int (x1 + 1))] [] σ Φ) : Ru E mX6_firstMetBy 0 [(0, .ref 29), (1, .int x1)] [] σ Φ := by
  refine s_iload_n 1 (pc := 0) dX6_firstMetBy_0 rfl rfl ?_
  refine s_iconst (v := 1) (pc := 1) dX6_firstMetBy_1 rfl ?_
  refine s_iadd (pc := 2) dX6_firstMetBy_2 ?_
  refine s_istore_n (L' := [(2, .int (x1 + 1)), (0, .ref 29), (1, .int x1)]) (pc := 3) dX6_firstMetBy_3 rfl (Nat.le_of_ble_eq_true rfl) rfl ?_
  exact s_sub (L' := [(0, .ref 29), (1, .int x1), (2, .int (x1 + 1))]) [1, 2, 0] rfl h
set_option maxRecDepth 10000 in
set_option maxHeartbeats 4000000 in
theorem tX6_firstMetBy_4 {E : Ev} {x1 : Int32} {x2 : Int32} {σ : Hp} {Φ : Option Value → Hp → Prop}  (h : (((σ 29 1) ≤ x2 → Φ (some (.int (-1))) σ) ∧ (¬ (σ 29 1) ≤ x2 → vp_in x1 8 ∧ vp_in x2 8 ∧ ∃ (r6 : Int32) (σ4 : Hp), Call E mX3_meetsLegOf [.ref (31 + 1 * (x1).toNatClampNeg), .ref (31 + 1 * (x2).toNatClampNeg)] σ (some (.int r6)) σ4 ∧ ((r6 = 0 → Ru E mX6_firstMetBy 4 [(0, .ref 29), (1, .int x1), (2, .int (x2 + 1))] [] σ4 Φ) ∧ (¬ r6 = 0 → Φ (some (.int x2)) σ4))))) : Ru E mX6_firstMetBy 4 [(0, .ref 29), (1, .int x1), (2, .int x2)] [] σ Φ := by
  refine s_iload_n 2 (pc := 4) dX6_firstMetBy_4 rfl rfl ?_
  refine s_aload_n 0 (pc := 5) dX6_firstMetBy_5 rfl rfl ?_
  refine s_getI (v := σ 29 1) (pc := 6) dX6_firstMetBy_6 fl_X6_24 ly29 rfl rfl ?_
  refine s_icmp_ge (pc := 9) (tgt := 38) dX6_firstMetBy_9 rfl (fun q1 => ?_) (fun q1 => ?_)
  · replace h := h.1 q1
    refine s_iconst (v := (-1)) (pc := 38) dX6_firstMetBy_38 rfl ?_
    exact s_ret (r := some (.int (-1))) ⟨dX6_firstMetBy_39, fun ty e => by cases e; rfl⟩ rfl h
  · replace h := h.2 q1
    refine s_aload_n 0 (pc := 12) dX6_firstMetBy_12 rfl rfl ?_
    refine s_getR (q := 30) (pc := 13) dX6_firstMetBy_13 fl_X6_11 ly29 rfl ?_
    refine s_iload_n 1 (pc := 16) dX6_firstMetBy_16 rfl rfl ?_
    have hv2 := h.1
    replace h := h.2
    refine s_aaldR (pc := 17) dX6_firstMetBy_17 ly30 hv2 ?_
    refine s_aload_n 0 (pc := 18) dX6_firstMetBy_18 rfl rfl ?_
    refine s_getR (q := 30) (pc := 19) dX6_firstMetBy_19 fl_X6_11 ly29 rfl ?_
    refine s_iload_n 2 (pc := 22) dX6_firstMetBy_22 rfl rfl ?_
    have hv3 := h.1
    replace h := h.2
    refine s_aaldR (pc := 23) dX6_firstMetBy_23 ly30 hv3 ?_
    obtain ⟨r6, σ4, hk5, h⟩ := h
    refine s_callV (S := []) [.ref (31 + 1 * (x2).toNatClampNeg)] (pc := 24) dX6_firstMetBy_24 mv_X3_meetsLegOf ml_X6_46 ⟨Nat.le_of_ble_eq_true rfl, Nat.le_of_ble_eq_true rfl⟩ rfl rfl (rgC hv2) rfl rfl (Nat.le_of_ble_eq_true rfl) hk5 ?_
    refine s_if_eq (pc := 27) (tgt := 32) dX6_firstMetBy_27 rfl (fun q7 => ?_) (fun q7 => ?_)
    · replace h := h.1 q7
      refine s_iinc (v := x2 + 1) (L' := [(2, .int (x2 + 1)), (0, .ref 29), (1, .int x1)]) 2 (pc := 32) dX6_firstMetBy_32 rfl rfl (Nat.le_of_ble_eq_true rfl) rfl ?_
      refine s_goto (pc := 35) (tgt := 4) dX6_firstMetBy_35 rfl ?_
      exact s_sub (L' := [(0, .ref 29), (1, .int x1), (2, .int (x2 + 1))]) [1, 2, 0] rfl h
    · replace h := h.2 q7
      refine s_iload_n 2 (pc := 30) dX6_firstMetBy_30 rfl rfl ?_
      exact s_ret (r := some (.int x2)) ⟨dX6_firstMetBy_31, fun ty e => by cases e; rfl⟩ rfl h
set_option maxRecDepth 10000 in
set_option maxHeartbeats 4000000 in
theorem tJ6_bitCount_0f7a4_0 {E : Ev} {x0 : Int32} {σ : Hp} {Φ : Option Value → Hp → Prop}  (h : Φ (some (.int ((((((((x0 - (((Int32.toUInt32 x0 >>> (Int32.toUInt32 1 &&& Int32.toUInt32 31)).toInt32) &&& 1431655765)) &&& 858993459) + (((Int32.toUInt32 (x0 - (((Int32.toUInt32 x0 >>> (Int32.toUInt32 1 &&& Int32.toUInt32 31)).toInt32) &&& 1431655765)) >>> (Int32.toUInt32 2 &&& Int32.toUInt32 31)).toInt32) &&& 858993459)) + ((Int32.toUInt32 (((x0 - (((Int32.toUInt32 x0 >>> (Int32.toUInt32 1 &&& Int32.toUInt32 31)).toInt32) &&& 1431655765)) &&& 858993459) + (((Int32.toUInt32 (x0 - (((Int32.toUInt32 x0 >>> (Int32.toUInt32 1 &&& Int32.toUInt32 31)).toInt32) &&& 1431655765)) >>> (Int32.toUInt32 2 &&& Int32.toUInt32 31)).toInt32) &&& 858993459)) >>> (Int32.toUInt32 4 &&& Int32.toUInt32 31)).toInt32)) &&& 252645135) + ((Int32.toUInt32 (((((x0 - (((Int32.toUInt32 x0 >>> (Int32.toUInt32 1 &&& Int32.toUInt32 31)).toInt32) &&& 1431655765)) &&& 858993459) + (((Int32.toUInt32 (x0 - (((Int32.toUInt32 x0 >>> (Int32.toUInt32 1 &&& Int32.toUInt32 31)).toInt32) &&& 1431655765)) >>> (Int32.toUInt32 2 &&& Int32.toUInt32 31)).toInt32) &&& 858993459)) + ((Int32.toUInt32 (((x0 - (((Int32.toUInt32 x0 >>> (Int32.toUInt32 1 &&& Int32.toUInt32 31)).toInt32) &&& 1431655765)) &&& 858993459) + (((Int32.toUInt32 (x0 - (((Int32.toUInt32 x0 >>> (Int32.toUInt32 1 &&& Int32.toUInt32 31)).toInt32) &&& 1431655765)) >>> (Int32.toUInt32 2 &&& Int32.toUInt32 31)).toInt32) &&& 858993459)) >>> (Int32.toUInt32 4 &&& Int32.toUInt32 31)).toInt32)) &&& 252645135) >>> (Int32.toUInt32 8 &&& Int32.toUInt32 31)).toInt32)) + ((Int32.toUInt32 ((((((x0 - (((Int32.toUInt32 x0 >>> (Int32.toUInt32 1 &&& Int32.toUInt32 31)).toInt32) &&& 1431655765)) &&& 858993459) + (((Int32.toUInt32 (x0 - (((Int32.toUInt32 x0 >>> (Int32.toUInt32 1 &&& Int32.toUInt32 31)).toInt32) &&& 1431655765)) >>> (Int32.toUInt32 2 &&& Int32.toUInt32 31)).toInt32) &&& 858993459)) + ((Int32.toUInt32 (((x0 - (((Int32.toUInt32 x0 >>> (Int32.toUInt32 1 &&& Int32.toUInt32 31)).toInt32) &&& 1431655765)) &&& 858993459) + (((Int32.toUInt32 (x0 - (((Int32.toUInt32 x0 >>> (Int32.toUInt32 1 &&& Int32.toUInt32 31)).toInt32) &&& 1431655765)) >>> (Int32.toUInt32 2 &&& Int32.toUInt32 31)).toInt32) &&& 858993459)) >>> (Int32.toUInt32 4 &&& Int32.toUInt32 31)).toInt32)) &&& 252645135) + ((Int32.toUInt32 (((((x0 - (((Int32.toUInt32 x0 >>> (Int32.toUInt32 1 &&& Int32.toUInt32 31)).toInt32) &&& 1431655765)) &&& 858993459) + (((Int32.toUInt32 (x0 - (((Int32.toUInt32 x0 >>> (Int32.toUInt32 1 &&& Int32.toUInt32 31)).toInt32) &&& 1431655765)) >>> (Int32.toUInt32 2 &&& Int32.toUInt32 31)).toInt32) &&& 858993459)) + ((Int32.toUInt32 (((x0 - (((Int32.toUInt32 x0 >>> (Int32.toUInt32 1 &&& Int32.toUInt32 31)).toInt32) &&& 1431655765)) &&& 858993459) + (((Int32.toUInt32 (x0 - (((Int32.toUInt32 x0 >>> (Int32.toUInt32 1 &&& Int32.toUInt32 31)).toInt32) &&& 1431655765)) >>> (Int32.toUInt32 2 &&& Int32.toUInt32 31)).toInt32) &&& 858993459)) >>> (Int32.toUInt32 4 &&& Int32.toUInt32 31)).toInt32)) &&& 252645135) >>> (Int32.toUInt32 8 &&& Int32.toUInt32 31)).toInt32)) >>> (Int32.toUInt32 16 &&& Int32.toUInt32 31)).toInt32)) &&& 63))) σ) : Ru E mJ6_bitCount_0f7a4 0 [(0, .int x0)] [] σ Φ := by
  refine s_iload_n 0 (pc := 0) dJ6_bitCount_0f7a4_0 rfl rfl ?_
  refine s_iload_n 0 (pc := 1) dJ6_bitCount_0f7a4_1 rfl rfl ?_
  refine s_iconst (v := 1) (pc := 2) dJ6_bitCount_0f7a4_2 rfl ?_
  refine s_iushr (pc := 3) dJ6_bitCount_0f7a4_3 ?_
  refine s_ldcw (v := 1431655765) (pc := 4) dJ6_bitCount_0f7a4_4 ct_J6_265 ?_
  refine s_iand (pc := 7) dJ6_bitCount_0f7a4_7 ?_
  refine s_isub (pc := 8) dJ6_bitCount_0f7a4_8 ?_
  refine s_istore_n (L' := [(0, .int (x0 - (((Int32.toUInt32 x0 >>> (Int32.toUInt32 1 &&& Int32.toUInt32 31)).toInt32) &&& 1431655765)))]) (pc := 9) dJ6_bitCount_0f7a4_9 rfl (Nat.le_of_ble_eq_true rfl) rfl ?_
  refine s_iload_n 0 (pc := 10) dJ6_bitCount_0f7a4_10 rfl rfl ?_
  refine s_ldcw (v := 858993459) (pc := 11) dJ6_bitCount_0f7a4_11 ct_J6_266 ?_
  refine s_iand (pc := 14) dJ6_bitCount_0f7a4_14 ?_
  refine s_iload_n 0 (pc := 15) dJ6_bitCount_0f7a4_15 rfl rfl ?_
  refine s_iconst (v := 2) (pc := 16) dJ6_bitCount_0f7a4_16 rfl ?_
  refine s_iushr (pc := 17) dJ6_bitCount_0f7a4_17 ?_
  refine s_ldcw (v := 858993459) (pc := 18) dJ6_bitCount_0f7a4_18 ct_J6_266 ?_
  refine s_iand (pc := 21) dJ6_bitCount_0f7a4_21 ?_
  refine s_iadd (pc := 22) dJ6_bitCount_0f7a4_22 ?_
  refine s_istore_n (L' := [(0, .int (((x0 - (((Int32.toUInt32 x0 >>> (Int32.toUInt32 1 &&& Int32.toUInt32 31)).toInt32) &&& 1431655765)) &&& 858993459) + (((Int32.toUInt32 (x0 - (((Int32.toUInt32 x0 >>> (Int32.toUInt32 1 &&& Int32.toUInt32 31)).toInt32) &&& 1431655765)) >>> (Int32.toUInt32 2 &&& Int32.toUInt32 31)).toInt32) &&& 858993459)))]) (pc := 23) dJ6_bitCount_0f7a4_23 rfl (Nat.le_of_ble_eq_true rfl) rfl ?_
  refine s_iload_n 0 (pc := 24) dJ6_bitCount_0f7a4_24 rfl rfl ?_
  refine s_iload_n 0 (pc := 25) dJ6_bitCount_0f7a4_25 rfl rfl ?_
  refine s_iconst (v := 4) (pc := 26) dJ6_bitCount_0f7a4_26 rfl ?_
  refine s_iushr (pc := 27) dJ6_bitCount_0f7a4_27 ?_
  refine s_iadd (pc := 28) dJ6_bitCount_0f7a4_28 ?_
  refine s_ldcw (v := 252645135) (pc := 29) dJ6_bitCount_0f7a4_29 ct_J6_267 ?_
  refine s_iand (pc := 32) dJ6_bitCount_0f7a4_32 ?_
  refine s_istore_n (L' := [(0, .int (((((x0 - (((Int32.toUInt32 x0 >>> (Int32.toUInt32 1 &&& Int32.toUInt32 31)).toInt32) &&& 1431655765)) &&& 858993459) + (((Int32.toUInt32 (x0 - (((Int32.toUInt32 x0 >>> (Int32.toUInt32 1 &&& Int32.toUInt32 31)).toInt32) &&& 1431655765)) >>> (Int32.toUInt32 2 &&& Int32.toUInt32 31)).toInt32) &&& 858993459)) + ((Int32.toUInt32 (((x0 - (((Int32.toUInt32 x0 >>> (Int32.toUInt32 1 &&& Int32.toUInt32 31)).toInt32) &&& 1431655765)) &&& 858993459) + (((Int32.toUInt32 (x0 - (((Int32.toUInt32 x0 >>> (Int32.toUInt32 1 &&& Int32.toUInt32 31)).toInt32) &&& 1431655765)) >>> (Int32.toUInt32 2 &&& Int32.toUInt32 31)).toInt32) &&& 858993459)) >>> (Int32.toUInt32 4 &&& Int32.toUInt32 31)).toInt32)) &&& 252645135))]) (pc := 33) dJ6_bitCount_0f7a4_33 rfl (Nat.le_of_ble_eq_true rfl) rfl ?_
  refine s_iload_n 0 (pc := 34) dJ6_bitCount_0f7a4_34 rfl rfl ?_
  refine s_iload_n 0 (pc := 35) dJ6_bitCount_0f7a4_35 rfl rfl ?_
  refine s_bipush (v := 8) (pc := 36) dJ6_bitCount_0f7a4_36 rfl ?_
  refine s_iushr (pc := 38) dJ6_bitCount_0f7a4_38 ?_
  refine s_iadd (pc := 39) dJ6_bitCount_0f7a4_39 ?_
  refine s_istore_n (L' := [(0, .int ((((((x0 - (((Int32.toUInt32 x0 >>> (Int32.toUInt32 1 &&& Int32.toUInt32 31)).toInt32) &&& 1431655765)) &&& 858993459) + (((Int32.toUInt32 (x0 - (((Int32.toUInt32 x0 >>> (Int32.toUInt32 1 &&& Int32.toUInt32 31)).toInt32) &&& 1431655765)) >>> (Int32.toUInt32 2 &&& Int32.toUInt32 31)).toInt32) &&& 858993459)) + ((Int32.toUInt32 (((x0 - (((Int32.toUInt32 x0 >>> (Int32.toUInt32 1 &&& Int32.toUInt32 31)).toInt32) &&& 1431655765)) &&& 858993459) + (((Int32.toUInt32 (x0 - (((Int32.toUInt32 x0 >>> (Int32.toUInt32 1 &&& Int32.toUInt32 31)).toInt32) &&& 1431655765)) >>> (Int32.toUInt32 2 &&& Int32.toUInt32 31)).toInt32) &&& 858993459)) >>> (Int32.toUInt32 4 &&& Int32.toUInt32 31)).toInt32)) &&& 252645135) + ((Int32.toUInt32 (((((x0 - (((Int32.toUInt32 x0 >>> (Int32.toUInt32 1 &&& Int32.toUInt32 31)).toInt32) &&& 1431655765)) &&& 858993459) + (((Int32.toUInt32 (x0 - (((Int32.toUInt32 x0 >>> (Int32.toUInt32 1 &&& Int32.toUInt32 31)).toInt32) &&& 1431655765)) >>> (Int32.toUInt32 2 &&& Int32.toUInt32 31)).toInt32) &&& 858993459)) + ((Int32.toUInt32 (((x0 - (((Int32.toUInt32 x0 >>> (Int32.toUInt32 1 &&& Int32.toUInt32 31)).toInt32) &&& 1431655765)) &&& 858993459) + (((Int32.toUInt32 (x0 - (((Int32.toUInt32 x0 >>> (Int32.toUInt32 1 &&& Int32.toUInt32 31)).toInt32) &&& 1431655765)) >>> (Int32.toUInt32 2 &&& Int32.toUInt32 31)).toInt32) &&& 858993459)) >>> (Int32.toUInt32 4 &&& Int32.toUInt32 31)).toInt32)) &&& 252645135) >>> (Int32.toUInt32 8 &&& Int32.toUInt32 31)).toInt32)))]) (pc := 40) dJ6_bitCount_0f7a4_40 rfl (Nat.le_of_ble_eq_true rfl) rfl ?_
  refine s_iload_n 0 (pc := 41) dJ6_bitCount_0f7a4_41 rfl rfl ?_
  refine s_iload_n 0 (pc := 42) dJ6_bitCount_0f7a4_42 rfl rfl ?_
  refine s_bipush (v := 16) (pc := 43) dJ6_bitCount_0f7a4_43 rfl ?_
  refine s_iushr (pc := 45) dJ6_bitCount_0f7a4_45 ?_
  refine s_iadd (pc := 46) dJ6_bitCount_0f7a4_46 ?_
  refine s_istore_n (L' := [(0, .int (((((((x0 - (((Int32.toUInt32 x0 >>> (Int32.toUInt32 1 &&& Int32.toUInt32 31)).toInt32) &&& 1431655765)) &&& 858993459) + (((Int32.toUInt32 (x0 - (((Int32.toUInt32 x0 >>> (Int32.toUInt32 1 &&& Int32.toUInt32 31)).toInt32) &&& 1431655765)) >>> (Int32.toUInt32 2 &&& Int32.toUInt32 31)).toInt32) &&& 858993459)) + ((Int32.toUInt32 (((x0 - (((Int32.toUInt32 x0 >>> (Int32.toUInt32 1 &&& Int32.toUInt32 31)).toInt32) &&& 1431655765)) &&& 858993459) + (((Int32.toUInt32 (x0 - (((Int32.toUInt32 x0 >>> (Int32.toUInt32 1 &&& Int32.toUInt32 31)).toInt32) &&& 1431655765)) >>> (Int32.toUInt32 2 &&& Int32.toUInt32 31)).toInt32) &&& 858993459)) >>> (Int32.toUInt32 4 &&& Int32.toUInt32 31)).toInt32)) &&& 252645135) + ((Int32.toUInt32 (((((x0 - (((Int32.toUInt32 x0 >>> (Int32.toUInt32 1 &&& Int32.toUInt32 31)).toInt32) &&& 1431655765)) &&& 858993459) + (((Int32.toUInt32 (x0 - (((Int32.toUInt32 x0 >>> (Int32.toUInt32 1 &&& Int32.toUInt32 31)).toInt32) &&& 1431655765)) >>> (Int32.toUInt32 2 &&& Int32.toUInt32 31)).toInt32) &&& 858993459)) + ((Int32.toUInt32 (((x0 - (((Int32.toUInt32 x0 >>> (Int32.toUInt32 1 &&& Int32.toUInt32 31)).toInt32) &&& 1431655765)) &&& 858993459) + (((Int32.toUInt32 (x0 - (((Int32.toUInt32 x0 >>> (Int32.toUInt32 1 &&& Int32.toUInt32 31)).toInt32) &&& 1431655765)) >>> (Int32.toUInt32 2 &&& Int32.toUInt32 31)).toInt32) &&& 858993459)) >>> (Int32.toUInt32 4 &&& Int32.toUInt32 31)).toInt32)) &&& 252645135) >>> (Int32.toUInt32 8 &&& Int32.toUInt32 31)).toInt32)) + ((Int32.toUInt32 ((((((x0 - (((Int32.toUInt32 x0 >>> (Int32.toUInt32 1 &&& Int32.toUInt32 31)).toInt32) &&& 1431655765)) &&& 858993459) + (((Int32.toUInt32 (x0 - (((Int32.toUInt32 x0 >>> (Int32.toUInt32 1 &&& Int32.toUInt32 31)).toInt32) &&& 1431655765)) >>> (Int32.toUInt32 2 &&& Int32.toUInt32 31)).toInt32) &&& 858993459)) + ((Int32.toUInt32 (((x0 - (((Int32.toUInt32 x0 >>> (Int32.toUInt32 1 &&& Int32.toUInt32 31)).toInt32) &&& 1431655765)) &&& 858993459) + (((Int32.toUInt32 (x0 - (((Int32.toUInt32 x0 >>> (Int32.toUInt32 1 &&& Int32.toUInt32 31)).toInt32) &&& 1431655765)) >>> (Int32.toUInt32 2 &&& Int32.toUInt32 31)).toInt32) &&& 858993459)) >>> (Int32.toUInt32 4 &&& Int32.toUInt32 31)).toInt32)) &&& 252645135) + ((Int32.toUInt32 (((((x0 - (((Int32.toUInt32 x0 >>> (Int32.toUInt32 1 &&& Int32.toUInt32 31)).toInt32) &&& 1431655765)) &&& 858993459) + (((Int32.toUInt32 (x0 - (((Int32.toUInt32 x0 >>> (Int32.toUInt32 1 &&& Int32.toUInt32 31)).toInt32) &&& 1431655765)) >>> (Int32.toUInt32 2 &&& Int32.toUInt32 31)).toInt32) &&& 858993459)) + ((Int32.toUInt32 (((x0 - (((Int32.toUInt32 x0 >>> (Int32.toUInt32 1 &&& Int32.toUInt32 31)).toInt32) &&& 1431655765)) &&& 858993459) + (((Int32.toUInt32 (x0 - (((Int32.toUInt32 x0 >>> (Int32.toUInt32 1 &&& Int32.toUInt32 31)).toInt32) &&& 1431655765)) >>> (Int32.toUInt32 2 &&& Int32.toUInt32 31)).toInt32) &&& 858993459)) >>> (Int32.toUInt32 4 &&& Int32.toUInt32 31)).toInt32)) &&& 252645135) >>> (Int32.toUInt32 8 &&& Int32.toUInt32 31)).toInt32)) >>> (Int32.toUInt32 16 &&& Int32.toUInt32 31)).toInt32)))]) (pc := 47) dJ6_bitCount_0f7a4_47 rfl (Nat.le_of_ble_eq_true rfl) rfl ?_
  refine s_iload_n 0 (pc := 48) dJ6_bitCount_0f7a4_48 rfl rfl ?_
  refine s_bipush (v := 63) (pc := 49) dJ6_bitCount_0f7a4_49 rfl ?_
  refine s_iand (pc := 51) dJ6_bitCount_0f7a4_51 ?_
  exact s_ret (r := some (.int ((((((((x0 - (((Int32.toUInt32 x0 >>> (Int32.toUInt32 1 &&& Int32.toUInt32 31)).toInt32) &&& 1431655765)) &&& 858993459) + (((Int32.toUInt32 (x0 - (((Int32.toUInt32 x0 >>> (Int32.toUInt32 1 &&& Int32.toUInt32 31)).toInt32) &&& 1431655765)) >>> (Int32.toUInt32 2 &&& Int32.toUInt32 31)).toInt32) &&& 858993459)) + ((Int32.toUInt32 (((x0 - (((Int32.toUInt32 x0 >>> (Int32.toUInt32 1 &&& Int32.toUInt32 31)).toInt32) &&& 1431655765)) &&& 858993459) + (((Int32.toUInt32 (x0 - (((Int32.toUInt32 x0 >>> (Int32.toUInt32 1 &&& Int32.toUInt32 31)).toInt32) &&& 1431655765)) >>> (Int32.toUInt32 2 &&& Int32.toUInt32 31)).toInt32) &&& 858993459)) >>> (Int32.toUInt32 4 &&& Int32.toUInt32 31)).toInt32)) &&& 252645135) + ((Int32.toUInt32 (((((x0 - (((Int32.toUInt32 x0 >>> (Int32.toUInt32 1 &&& Int32.toUInt32 31)).toInt32) &&& 1431655765)) &&& 858993459) + (((Int32.toUInt32 (x0 - (((Int32.toUInt32 x0 >>> (Int32.toUInt32 1 &&& Int32.toUInt32 31)).toInt32) &&& 1431655765)) >>> (Int32.toUInt32 2 &&& Int32.toUInt32 31)).toInt32) &&& 858993459)) + ((Int32.toUInt32 (((x0 - (((Int32.toUInt32 x0 >>> (Int32.toUInt32 1 &&& Int32.toUInt32 31)).toInt32) &&& 1431655765)) &&& 858993459) + (((Int32.toUInt32 (x0 - (((Int32.toUInt32 x0 >>> (Int32.toUInt32 1 &&& Int32.toUInt32 31)).toInt32) &&& 1431655765)) >>> (Int32.toUInt32 2 &&& Int32.toUInt32 31)).toInt32) &&& 858993459)) >>> (Int32.toUInt32 4 &&& Int32.toUInt32 31)).toInt32)) &&& 252645135) >>> (Int32.toUInt32 8 &&& Int32.toUInt32 31)).toInt32)) + ((Int32.toUInt32 ((((((x0 - (((Int32.toUInt32 x0 >>> (Int32.toUInt32 1 &&& Int32.toUInt32 31)).toInt32) &&& 1431655765)) &&& 858993459) + (((Int32.toUInt32 (x0 - (((Int32.toUInt32 x0 >>> (Int32.toUInt32 1 &&& Int32.toUInt32 31)).toInt32) &&& 1431655765)) >>> (Int32.toUInt32 2 &&& Int32.toUInt32 31)).toInt32) &&& 858993459)) + ((Int32.toUInt32 (((x0 - (((Int32.toUInt32 x0 >>> (Int32.toUInt32 1 &&& Int32.toUInt32 31)).toInt32) &&& 1431655765)) &&& 858993459) + (((Int32.toUInt32 (x0 - (((Int32.toUInt32 x0 >>> (Int32.toUInt32 1 &&& Int32.toUInt32 31)).toInt32) &&& 1431655765)) >>> (Int32.toUInt32 2 &&& Int32.toUInt32 31)).toInt32) &&& 858993459)) >>> (Int32.toUInt32 4 &&& Int32.toUInt32 31)).toInt32)) &&& 252645135) + ((Int32.toUInt32 (((((x0 - (((Int32.toUInt32 x0 >>> (Int32.toUInt32 1 &&& Int32.toUInt32 31)).toInt32) &&& 1431655765)) &&& 858993459) + (((Int32.toUInt32 (x0 - (((Int32.toUInt32 x0 >>> (Int32.toUInt32 1 &&& Int32.toUInt32 31)).toInt32) &&& 1431655765)) >>> (Int32.toUInt32 2 &&& Int32.toUInt32 31)).toInt32) &&& 858993459)) + ((Int32.toUInt32 (((x0 - (((Int32.toUInt32 x0 >>> (Int32.toUInt32 1 &&& Int32.toUInt32 31)).toInt32) &&& 1431655765)) &&& 858993459) + (((Int32.toUInt32 (x0 - (((Int32.toUInt32 x0 >>> (Int32.toUInt32 1 &&& Int32.toUInt32 31)).toInt32) &&& 1431655765)) >>> (Int32.toUInt32 2 &&& Int32.toUInt32 31)).toInt32) &&& 858993459)) >>> (Int32.toUInt32 4 &&& Int32.toUInt32 31)).toInt32)) &&& 252645135) >>> (Int32.toUInt32 8 &&& Int32.toUInt32 31)).toInt32)) >>> (Int32.toUInt32 16 &&& Int32.toUInt32 31)).toInt32)) &&& 63))) ⟨dJ6_bitCount_0f7a4_52, fun ty e => by cases e; rfl⟩ rfl h
