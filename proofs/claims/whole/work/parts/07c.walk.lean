set_option maxRecDepth 10000 in
set_option maxHeartbeats 4000000 in
theorem tX8_in_0 {E : Ev} {x0 : Int32} {x1 : Int32} {x2 : Int32} {σ : Hp} {Φ : Option Value → Hp → Prop}  (h : ((x0 < x1 → Φ (some (.int 0)) σ) ∧ (¬ x0 < x1 → ((x2 < x0 → Φ (some (.int 0)) σ) ∧ (¬ x2 < x0 → Φ (some (.int 1)) σ))))) : Ru E mX8_in 0 [(0, .int x0), (1, .int x1), (2, .int x2)] [] σ Φ := by
  refine s_iload_n 0 (pc := 0) dX8_in_0 rfl rfl ?_
  refine s_iload_n 1 (pc := 1) dX8_in_1 rfl rfl ?_
  refine s_icmp_lt (pc := 2) (tgt := 14) dX8_in_2 rfl (fun q1 => ?_) (fun q1 => ?_)
  · replace h := h.1 q1
    refine s_iconst (v := 0) (pc := 14) dX8_in_14 rfl ?_
    exact s_ret (r := some (.int 0)) ⟨dX8_in_15, fun ty e => by cases e; rfl⟩ rfl h
  · replace h := h.2 q1
    refine s_iload_n 0 (pc := 5) dX8_in_5 rfl rfl ?_
    refine s_iload_n 2 (pc := 6) dX8_in_6 rfl rfl ?_
    refine s_icmp_gt (pc := 7) (tgt := 14) dX8_in_7 rfl (fun q2 => ?_) (fun q2 => ?_)
    · replace h := h.1 q2
      refine s_iconst (v := 0) (pc := 14) dX8_in_14 rfl ?_
      exact s_ret (r := some (.int 0)) ⟨dX8_in_15, fun ty e => by cases e; rfl⟩ rfl h
    · replace h := h.2 q2
      refine s_iconst (v := 1) (pc := 10) dX8_in_10 rfl ?_
      refine s_goto (pc := 11) (tgt := 15) dX8_in_11 rfl ?_
      exact s_ret (r := some (.int 1)) ⟨dX8_in_15, fun ty e => by cases e; rfl⟩ rfl h
set_option maxRecDepth 10000 in
set_option maxHeartbeats 4000000 in
theorem tX8_isIn_0 {E : Ev} {x0 : Int32} {x1 : Int32} {σ : Hp} {Φ : Option Value → Hp → Prop}  (h : ((¬ ((x0 >>> (x1 &&& 31)) &&& 1) = 1 → Φ (some (.int 0)) σ) ∧ (((x0 >>> (x1 &&& 31)) &&& 1) = 1 → Φ (some (.int 1)) σ))) : Ru E mX8_isIn 0 [(0, .int x0), (1, .int x1)] [] σ Φ := by
  refine s_iload_n 0 (pc := 0) dX8_isIn_0 rfl rfl ?_
  refine s_iload_n 1 (pc := 1) dX8_isIn_1 rfl rfl ?_
  refine s_ishr (pc := 2) dX8_isIn_2 ?_
  refine s_iconst (v := 1) (pc := 3) dX8_isIn_3 rfl ?_
  refine s_iand (pc := 4) dX8_isIn_4 ?_
  refine s_iconst (v := 1) (pc := 5) dX8_isIn_5 rfl ?_
  refine s_icmp_ne (pc := 6) (tgt := 13) dX8_isIn_6 rfl (fun q1 => ?_) (fun q1 => ?_)
  · replace h := h.1 q1
    refine s_iconst (v := 0) (pc := 13) dX8_isIn_13 rfl ?_
    exact s_ret (r := some (.int 0)) ⟨dX8_isIn_14, fun ty e => by cases e; rfl⟩ rfl h
  · replace h := h.2 q1
    refine s_iconst (v := 1) (pc := 9) dX8_isIn_9 rfl ?_
    refine s_goto (pc := 10) (tgt := 14) dX8_isIn_10 rfl ?_
    exact s_ret (r := some (.int 1)) ⟨dX8_isIn_14, fun ty e => by cases e; rfl⟩ rfl h
set_option maxRecDepth 10000 in
set_option maxHeartbeats 4000000 in
theorem tX8_no_0 {E : Ev} {x0 : Int32} {σ : Hp} {Φ : Option Value → Hp → Prop}  (h : Φ (some (.long ((-9223372036854775808) - (Int32.toInt64 x0)))) σ) : Ru E mX8_no 0 [(0, .int x0)] [] σ Φ := by
  refine s_ldc2 (v := (-9223372036854775808)) (pc := 0) dX8_no_0 ct_X8_122 ?_
  refine s_iload_n 0 (pc := 3) dX8_no_3 rfl rfl ?_
  refine s_i2l (pc := 4) dX8_no_4 ?_
  refine s_lsub (pc := 5) dX8_no_5 ?_
  exact s_ret (r := some (.long ((-9223372036854775808) - (Int32.toInt64 x0)))) dX8_no_6 rfl h
set_option maxRecDepth 10000 in
set_option maxHeartbeats 4000000 in
theorem tX8_lowest_0 {E : Ev} {x0 : Int64} {x2 : Int64} {x4 : Int32} {σ : Hp} {Φ : Option Value → Hp → Prop}  (h : Ru E mX8_lowest 6 [(0, .long x0), (2, .long x2), (4, .int x4), (5, .long x0), (7, .long x2)] [] σ Φ) : Ru E mX8_lowest 0 [(0, .long x0), (2, .long x2), (4, .int x4)] [] σ Φ := by
  refine s_lload_n 0 (pc := 0) dX8_lowest_0 rfl rfl ?_
  refine s_lstore (L' := [(5, .long x0), (0, .long x0), (2, .long x2), (4, .int x4)]) (pc := 1) dX8_lowest_1 (Nat.le_of_ble_eq_true rfl) rfl ?_
  refine s_lload_n 2 (pc := 3) dX8_lowest_3 rfl rfl ?_
  refine s_lstore (L' := [(7, .long x2), (5, .long x0), (0, .long x0), (2, .long x2), (4, .int x4)]) (pc := 4) dX8_lowest_4 (Nat.le_of_ble_eq_true rfl) rfl ?_
  exact s_sub (L' := [(0, .long x0), (2, .long x2), (4, .int x4), (5, .long x0), (7, .long x2)]) [2, 3, 4, 1, 0] rfl h
set_option maxRecDepth 10000 in
set_option maxHeartbeats 4000000 in
theorem tX8_lowest_6 {E : Ev} {x0 : Int64} {x2 : Int64} {x4 : Int32} {x5 : Int64} {x7 : Int64} {σ : Hp} {Φ : Option Value → Hp → Prop}  (h : (((lg_cmp x7 0) = 0 → ((¬ x4 = 0 → ¬ x5 = (0 : Int64) ∧ Φ (some (.long (x2 / x5))) σ) ∧ (x4 = 0 → ¬ x5 = (0 : Int64) ∧ Φ (some (.long (x0 / x5))) σ))) ∧ (¬ (lg_cmp x7 0) = 0 → ¬ x7 = (0 : Int64) ∧ Ru E mX8_lowest 6 [(0, .long x0), (2, .long x2), (4, .int x4), (5, .long x7), (7, .long (x5 - x5 / x7 * x7))] [] σ Φ))) : Ru E mX8_lowest 6 [(0, .long x0), (2, .long x2), (4, .int x4), (5, .long x5), (7, .long x7)] [] σ Φ := by
  refine s_lload 4 (pc := 6) dX8_lowest_6 rfl ?_
  refine s_lconst (v := 0) (pc := 8) dX8_lowest_8 rfl ?_
  refine s_lcmp (pc := 9) dX8_lowest_9 ?_
  refine s_if_eq (pc := 10) (tgt := 31) dX8_lowest_10 rfl (fun q1 => ?_) (fun q1 => ?_)
  · replace h := h.1 q1
    refine s_iload 2 (pc := 31) dX8_lowest_31 rfl ?_
    refine s_if_ne (pc := 33) (tgt := 43) dX8_lowest_33 rfl (fun q2 => ?_) (fun q2 => ?_)
    · replace h := h.1 q2
      refine s_lload_n 1 (pc := 43) dX8_lowest_43 rfl rfl ?_
      refine s_lload 3 (pc := 44) dX8_lowest_44 rfl ?_
      refine s_ldiv (pc := 46) dX8_lowest_46 h.1 ?_
      replace h := h.2
      exact s_ret (r := some (.long (x2 / x5))) dX8_lowest_47 rfl h
    · replace h := h.2 q2
      refine s_lload_n 0 (pc := 36) dX8_lowest_36 rfl rfl ?_
      refine s_lload 3 (pc := 37) dX8_lowest_37 rfl ?_
      refine s_ldiv (pc := 39) dX8_lowest_39 h.1 ?_
      replace h := h.2
      refine s_goto (pc := 40) (tgt := 47) dX8_lowest_40 rfl ?_
      exact s_ret (r := some (.long (x0 / x5))) dX8_lowest_47 rfl h
  · replace h := h.2 q1
    refine s_lload 3 (pc := 13) dX8_lowest_13 rfl ?_
    refine s_lload 4 (pc := 15) dX8_lowest_15 rfl ?_
    refine s_lrem (pc := 17) dX8_lowest_17 h.1 ?_
    replace h := h.2
    refine s_lstore (L' := [(9, .long (x5 - x5 / x7 * x7)), (0, .long x0), (2, .long x2), (4, .int x4), (5, .long x5), (7, .long x7)]) (pc := 18) dX8_lowest_18 (Nat.le_of_ble_eq_true rfl) rfl ?_
    refine s_lload 5 (pc := 20) dX8_lowest_20 rfl ?_
    refine s_lstore (L' := [(5, .long x7), (9, .long (x5 - x5 / x7 * x7)), (0, .long x0), (2, .long x2), (4, .int x4), (7, .long x7)]) (pc := 22) dX8_lowest_22 (Nat.le_of_ble_eq_true rfl) rfl ?_
    refine s_lload 1 (pc := 24) dX8_lowest_24 rfl ?_
    refine s_lstore (L' := [(7, .long (x5 - x5 / x7 * x7)), (5, .long x7), (9, .long (x5 - x5 / x7 * x7)), (0, .long x0), (2, .long x2), (4, .int x4)]) (pc := 26) dX8_lowest_26 (Nat.le_of_ble_eq_true rfl) rfl ?_
    refine s_goto (pc := 28) (tgt := 6) dX8_lowest_28 rfl ?_
    exact s_sub (L' := [(0, .long x0), (2, .long x2), (4, .int x4), (5, .long x7), (7, .long (x5 - x5 / x7 * x7))]) [3, 4, 5, 1, 0] rfl h
set_option maxRecDepth 10000 in
set_option maxHeartbeats 4000000 in
theorem tX8_isDay_0 {E : Ev} {x0 : Int32} {σ : Hp} {Φ : Option Value → Hp → Prop}  (h : ∃ (r3 : Int32) (σ1 : Hp), Call E mX8_in [.int x0, .int 0, .int 19] σ (some (.int r3)) σ1 ∧ narrow .boolean (.int r3) = .int r3 ∧ Φ (some (.int r3)) σ1) : Ru E mX8_isDay 0 [(0, .int x0)] [] σ Φ := by
  refine s_iload_n 0 (pc := 0) dX8_isDay_0 rfl rfl ?_
  refine s_iconst (v := 0) (pc := 1) dX8_isDay_1 rfl ?_
  refine s_bipush (v := 19) (pc := 2) dX8_isDay_2 rfl ?_
  obtain ⟨r3, σ1, hk2, h⟩ := h
  refine s_callS (S := []) [.int x0, .int 0, .int 19] (pc := 4) dX8_isDay_4 ms_X8_in ml_X8_124 ⟨Nat.le_of_ble_eq_true rfl, Nat.le_of_ble_eq_true rfl⟩ rfl rfl (Nat.le_of_ble_eq_true rfl) hk2 ?_
  have hz := h.1
  replace h := h.2
  exact s_ret (r := some (.int r3)) ⟨dX8_isDay_7, fun ty e => by cases e; exact hz⟩ rfl h
set_option maxRecDepth 10000 in
set_option maxHeartbeats 4000000 in
theorem tX8_isEight_0 {E : Ev} {x0 : Int32} {σ : Hp} {Φ : Option Value → Hp → Prop}  (h : ∃ (r3 : Int32) (σ1 : Hp), Call E mX8_in [.int x0, .int 0, .int 7] σ (some (.int r3)) σ1 ∧ narrow .boolean (.int r3) = .int r3 ∧ Φ (some (.int r3)) σ1) : Ru E mX8_isEight 0 [(0, .int x0)] [] σ Φ := by
  refine s_iload_n 0 (pc := 0) dX8_isEight_0 rfl rfl ?_
  refine s_iconst (v := 0) (pc := 1) dX8_isEight_1 rfl ?_
  refine s_bipush (v := 7) (pc := 2) dX8_isEight_2 rfl ?_
  obtain ⟨r3, σ1, hk2, h⟩ := h
  refine s_callS (S := []) [.int x0, .int 0, .int 7] (pc := 4) dX8_isEight_4 ms_X8_in ml_X8_124 ⟨Nat.le_of_ble_eq_true rfl, Nat.le_of_ble_eq_true rfl⟩ rfl rfl (Nat.le_of_ble_eq_true rfl) hk2 ?_
  have hz := h.1
  replace h := h.2
  exact s_ret (r := some (.int r3)) ⟨dX8_isEight_7, fun ty e => by cases e; exact hz⟩ rfl h
set_option maxRecDepth 10000 in
set_option maxHeartbeats 4000000 in
theorem tX8_type_0 {E : Ev} {x1 : Int32} {σ : Hp} {Φ : Option Value → Hp → Prop}  (h : ∃ (r3 : Int32) (σ1 : Hp), Call E mX8_in [.int x1, .int 0, .int 255] σ (some (.int r3)) σ1 ∧ ((¬ r3 = 0 → ((¬ (σ1 53 0) = 39 → vp_in (σ1 53 0) 39 ∧ Φ (some (.int ((σ1 53 0) + 1))) (up (up σ1 54 ((σ1 53 0).toNatClampNeg) x1) 53 0 ((σ1 53 0) + 1))) ∧ ((σ1 53 0) = 39 → Φ (some (.int (-4))) σ1))) ∧ (r3 = 0 → Φ (some (.int (-2))) σ1))) : Ru E mX8_type 0 [(0, .ref 53), (1, .int x1)] [] σ Φ := by
  refine s_iload_n 1 (pc := 0) dX8_type_0 rfl rfl ?_
  refine s_iconst (v := 0) (pc := 1) dX8_type_1 rfl ?_
  refine s_sipush (v := 255) (pc := 2) dX8_type_2 rfl ?_
  obtain ⟨r3, σ1, hk2, h⟩ := h
  refine s_callS (S := []) [.int x1, .int 0, .int 255] (pc := 5) dX8_type_5 ms_X8_in ml_X8_124 ⟨Nat.le_of_ble_eq_true rfl, Nat.le_of_ble_eq_true rfl⟩ rfl rfl (Nat.le_of_ble_eq_true rfl) hk2 ?_
  refine s_if_ne (pc := 8) (tgt := 14) dX8_type_8 rfl (fun q4 => ?_) (fun q4 => ?_)
  · replace h := h.1 q4
    refine s_aload_n 0 (pc := 14) dX8_type_14 rfl rfl ?_
    refine s_getI (v := σ1 53 0) (pc := 15) dX8_type_15 fl_X8_128 ly53 rfl rfl ?_
    refine s_bipush (v := 39) (pc := 18) dX8_type_18 rfl ?_
    refine s_icmp_ne (pc := 20) (tgt := 26) dX8_type_20 rfl (fun q5 => ?_) (fun q5 => ?_)
    · replace h := h.1 q5
      refine s_aload_n 0 (pc := 26) dX8_type_26 rfl rfl ?_
      refine s_getR (q := 54) (pc := 27) dX8_type_27 fl_X8_7 ly53 rfl ?_
      refine s_aload_n 0 (pc := 30) dX8_type_30 rfl rfl ?_
      refine s_getI (v := σ1 53 0) (pc := 31) dX8_type_31 fl_X8_128 ly53 rfl rfl ?_
      refine s_iload_n 1 (pc := 34) dX8_type_34 rfl rfl ?_
      have hv6 := h.1
      replace h := h.2
      refine s_iast (pc := 35) dX8_type_35 ly54 hv6 ?_
      refine s_aload_n 0 (pc := 36) dX8_type_36 rfl rfl ?_
      refine s_dup (pc := 37) dX8_type_37 rfl ?_
      refine s_getI (v := σ1 53 0) (pc := 38) dX8_type_38 fl_X8_128 ly53 rfl (by simp [up]) ?_
      refine s_iconst (v := 1) (pc := 41) dX8_type_41 rfl ?_
      refine s_iadd (pc := 42) dX8_type_42 ?_
      refine s_put (ty := .int) (pc := 43) dX8_type_43 fp_X8_128 ly53 rfl rfl rfl ?_
      refine s_aload_n 0 (pc := 46) dX8_type_46 rfl rfl ?_
      refine s_getI (v := (σ1 53 0) + 1) (pc := 47) dX8_type_47 fl_X8_128 ly53 rfl (by simp [up]) ?_
      exact s_ret (r := some (.int ((σ1 53 0) + 1))) ⟨dX8_type_50, fun ty e => by cases e; rfl⟩ rfl h
    · replace h := h.2 q5
      refine s_bipush (v := (-4)) (pc := 23) dX8_type_23 rfl ?_
      exact s_ret (r := some (.int (-4))) ⟨dX8_type_25, fun ty e => by cases e; rfl⟩ rfl h
  · replace h := h.2 q4
    refine s_bipush (v := (-2)) (pc := 11) dX8_type_11 rfl ?_
    exact s_ret (r := some (.int (-2))) ⟨dX8_type_13, fun ty e => by cases e; rfl⟩ rfl h
set_option maxRecDepth 10000 in
set_option maxHeartbeats 4000000 in
theorem tX8_wipe_0 {E : Ev}  {σ : Hp} {Φ : Option Value → Hp → Prop}  (h : Φ (some (.int (σ 53 0))) (up σ 53 0 0)) : Ru E mX8_wipe 0 [(0, .ref 53)] [] σ Φ := by
  refine s_aload_n 0 (pc := 0) dX8_wipe_0 rfl rfl ?_
  refine s_getI (v := σ 53 0) (pc := 1) dX8_wipe_1 fl_X8_128 ly53 rfl rfl ?_
  refine s_istore_n (L' := [(1, .int (σ 53 0)), (0, .ref 53)]) (pc := 4) dX8_wipe_4 rfl (Nat.le_of_ble_eq_true rfl) rfl ?_
  refine s_aload_n 1 (pc := 5) dX8_wipe_5 rfl rfl ?_
  refine s_iconst (v := 0) (pc := 6) dX8_wipe_6 rfl ?_
  refine s_put (ty := .int) (pc := 7) dX8_wipe_7 fp_X8_128 ly53 rfl rfl rfl ?_
  refine s_iload_n 0 (pc := 10) dX8_wipe_10 rfl rfl ?_
  exact s_ret (r := some (.int (σ 53 0))) ⟨dX8_wipe_11, fun ty e => by cases e; rfl⟩ rfl h
set_option maxRecDepth 10000 in
set_option maxHeartbeats 4000000 in
theorem tX8_undo_0 {E : Ev}  {σ : Hp} {Φ : Option Value → Hp → Prop}  (h : ((¬ (σ 53 0) = 0 → Φ (some (.int ((σ 53 0) - 1))) (up σ 53 0 ((σ 53 0) - 1))) ∧ ((σ 53 0) = 0 → Φ (some (.int (-3))) σ))) : Ru E mX8_undo 0 [(0, .ref 53)] [] σ Φ := by
  refine s_aload_n 0 (pc := 0) dX8_undo_0 rfl rfl ?_
  refine s_getI (v := σ 53 0) (pc := 1) dX8_undo_1 fl_X8_128 ly53 rfl rfl ?_
  refine s_if_ne (pc := 4) (tgt := 10) dX8_undo_4 rfl (fun q1 => ?_) (fun q1 => ?_)
  · replace h := h.1 q1
    refine s_aload_n 0 (pc := 10) dX8_undo_10 rfl rfl ?_
    refine s_dup (pc := 11) dX8_undo_11 rfl ?_
    refine s_getI (v := σ 53 0) (pc := 12) dX8_undo_12 fl_X8_128 ly53 rfl rfl ?_
    refine s_iconst (v := 1) (pc := 15) dX8_undo_15 rfl ?_
    refine s_isub (pc := 16) dX8_undo_16 ?_
    refine s_put (ty := .int) (pc := 17) dX8_undo_17 fp_X8_128 ly53 rfl rfl rfl ?_
    refine s_aload_n 0 (pc := 20) dX8_undo_20 rfl rfl ?_
    refine s_getI (v := (σ 53 0) - 1) (pc := 21) dX8_undo_21 fl_X8_128 ly53 rfl (by simp [up]) ?_
    exact s_ret (r := some (.int ((σ 53 0) - 1))) ⟨dX8_undo_24, fun ty e => by cases e; rfl⟩ rfl h
  · replace h := h.2 q1
    refine s_bipush (v := (-3)) (pc := 7) dX8_undo_7 rfl ?_
    exact s_ret (r := some (.int (-3))) ⟨dX8_undo_9, fun ty e => by cases e; rfl⟩ rfl h
set_option maxRecDepth 10000 in
set_option maxHeartbeats 4000000 in
theorem tX8_byteAt_0 {E : Ev} {x1 : Int32} {σ : Hp} {Φ : Option Value → Hp → Prop}  (h : (((σ 53 0) ≤ x1 → Φ (some (.int (-1))) σ) ∧ (¬ (σ 53 0) ≤ x1 → vp_in x1 39 ∧ Φ (some (.int (σ 54 ((x1).toNatClampNeg)))) σ))) : Ru E mX8_byteAt 0 [(0, .ref 53), (1, .int x1)] [] σ Φ := by
  refine s_iload_n 1 (pc := 0) dX8_byteAt_0 rfl rfl ?_
  refine s_aload_n 0 (pc := 1) dX8_byteAt_1 rfl rfl ?_
  refine s_getI (v := σ 53 0) (pc := 2) dX8_byteAt_2 fl_X8_128 ly53 rfl rfl ?_
  refine s_icmp_ge (pc := 5) (tgt := 17) dX8_byteAt_5 rfl (fun q1 => ?_) (fun q1 => ?_)
  · replace h := h.1 q1
    refine s_iconst (v := (-1)) (pc := 17) dX8_byteAt_17 rfl ?_
    exact s_ret (r := some (.int (-1))) ⟨dX8_byteAt_18, fun ty e => by cases e; rfl⟩ rfl h
  · replace h := h.2 q1
    refine s_aload_n 0 (pc := 8) dX8_byteAt_8 rfl rfl ?_
    refine s_getR (q := 54) (pc := 9) dX8_byteAt_9 fl_X8_7 ly53 rfl ?_
    refine s_iload_n 1 (pc := 12) dX8_byteAt_12 rfl rfl ?_
    have hv2 := h.1
    replace h := h.2
    refine s_iald (pc := 13) dX8_byteAt_13 ly54 hv2 ?_
    refine s_goto (pc := 14) (tgt := 18) dX8_byteAt_14 rfl ?_
    exact s_ret (r := some (.int (σ 54 ((x1).toNatClampNeg)))) ⟨dX8_byteAt_18, fun ty e => by cases e; rfl⟩ rfl h
set_option maxRecDepth 10000 in
set_option maxHeartbeats 4000000 in
theorem tX8_sortAt_0 {E : Ev} {x1 : Int32} {σ : Hp} {Φ : Option Value → Hp → Prop}  (h : ∃ (r3 : Int32) (σ1 : Hp), Call E mX8_byteAt [.ref 53, .int x1] σ (some (.int r3)) σ1 ∧ ((¬ r3 = 115 → ((¬ r3 = 108 → ((¬ r3 = 98 → Φ (some (.int (-1))) σ1) ∧ (r3 = 98 → Φ (some (.int 2)) σ1))) ∧ (r3 = 108 → Φ (some (.int 1)) σ1))) ∧ (r3 = 115 → Φ (some (.int 0)) σ1))) : Ru E mX8_sortAt 0 [(0, .ref 53), (1, .int x1)] [] σ Φ := by
  refine s_aload_n 0 (pc := 0) dX8_sortAt_0 rfl rfl ?_
  refine s_iload_n 1 (pc := 1) dX8_sortAt_1 rfl rfl ?_
  obtain ⟨r3, σ1, hk2, h⟩ := h
  refine s_callV (S := []) [.int x1] (pc := 2) dX8_sortAt_2 mv_X8_byteAt ml_X8_132 ⟨Nat.le_of_ble_eq_true rfl, Nat.le_of_ble_eq_true rfl⟩ rfl rfl ly53 rfl rfl (Nat.le_of_ble_eq_true rfl) hk2 ?_
  refine s_istore_n (L' := [(2, .int r3), (0, .ref 53), (1, .int x1)]) (pc := 5) dX8_sortAt_5 rfl (Nat.le_of_ble_eq_true rfl) rfl ?_
  refine s_iload_n 0 (pc := 6) dX8_sortAt_6 rfl rfl ?_
  refine s_bipush (v := 115) (pc := 7) dX8_sortAt_7 rfl ?_
  refine s_icmp_ne (pc := 9) (tgt := 16) dX8_sortAt_9 rfl (fun q4 => ?_) (fun q4 => ?_)
  · replace h := h.1 q4
    refine s_iload_n 0 (pc := 16) dX8_sortAt_16 rfl rfl ?_
    refine s_bipush (v := 108) (pc := 17) dX8_sortAt_17 rfl ?_
    refine s_icmp_ne (pc := 19) (tgt := 26) dX8_sortAt_19 rfl (fun q5 => ?_) (fun q5 => ?_)
    · replace h := h.1 q5
      refine s_iload_n 0 (pc := 26) dX8_sortAt_26 rfl rfl ?_
      refine s_bipush (v := 98) (pc := 27) dX8_sortAt_27 rfl ?_
      refine s_icmp_ne (pc := 29) (tgt := 36) dX8_sortAt_29 rfl (fun q6 => ?_) (fun q6 => ?_)
      · replace h := h.1 q6
        refine s_iconst (v := (-1)) (pc := 36) dX8_sortAt_36 rfl ?_
        exact s_ret (r := some (.int (-1))) ⟨dX8_sortAt_37, fun ty e => by cases e; rfl⟩ rfl h
      · replace h := h.2 q6
        refine s_iconst (v := 2) (pc := 32) dX8_sortAt_32 rfl ?_
        refine s_goto (pc := 33) (tgt := 37) dX8_sortAt_33 rfl ?_
        exact s_ret (r := some (.int 2)) ⟨dX8_sortAt_37, fun ty e => by cases e; rfl⟩ rfl h
    · replace h := h.2 q5
      refine s_iconst (v := 1) (pc := 22) dX8_sortAt_22 rfl ?_
      refine s_goto (pc := 23) (tgt := 37) dX8_sortAt_23 rfl ?_
      exact s_ret (r := some (.int 1)) ⟨dX8_sortAt_37, fun ty e => by cases e; rfl⟩ rfl h
  · replace h := h.2 q4
    refine s_iconst (v := 0) (pc := 12) dX8_sortAt_12 rfl ?_
    refine s_goto (pc := 13) (tgt := 37) dX8_sortAt_13 rfl ?_
    exact s_ret (r := some (.int 0)) ⟨dX8_sortAt_37, fun ty e => by cases e; rfl⟩ rfl h
set_option maxRecDepth 10000 in
set_option maxHeartbeats 4000000 in
theorem tX8_readsCouple_0 {E : Ev} {x1 : Int32} {x2 : Int32} {σ : Hp} {Φ : Option Value → Hp → Prop}  (h : Ru E mX8_readsCouple 2 [(0, .ref 53), (1, .int x1), (2, .int x2), (3, .int 0)] [] σ Φ) : Ru E mX8_readsCouple 0 [(0, .ref 53), (1, .int x1), (2, .int x2)] [] σ Φ := by
  refine s_iconst (v := 0) (pc := 0) dX8_readsCouple_0 rfl ?_
  refine s_istore_n (L' := [(3, .int 0), (0, .ref 53), (1, .int x1), (2, .int x2)]) (pc := 1) dX8_readsCouple_1 rfl (Nat.le_of_ble_eq_true rfl) rfl ?_
  exact s_sub (L' := [(0, .ref 53), (1, .int x1), (2, .int x2), (3, .int 0)]) [1, 2, 3, 0] rfl h
set_option maxRecDepth 10000 in
set_option maxHeartbeats 4000000 in
theorem tX8_readsCouple_2 {E : Ev} {x1 : Int32} {x2 : Int32} {x3 : Int32} {σ : Hp} {Φ : Option Value → Hp → Prop}  (h : ((8 ≤ x1 → Ru E mX8_readsCouple 36 [(0, .ref 53), (1, .int x1), (2, .int x2), (3, .int x3)] [] σ Φ) ∧ (¬ 8 ≤ x1 → ((3 ≤ x3 → Ru E mX8_readsCouple 36 [(0, .ref 53), (1, .int x1), (2, .int x2), (3, .int x3)] [] σ Φ) ∧ (¬ 3 ≤ x3 → ∃ (r5 : Int32) (σ3 : Hp), Call E mX8_byteAt [.ref 53, .int (x2 + x3)] σ (some (.int r5)) σ3 ∧ ∃ (r8 : Int32) (σ6 : Hp), Call E mX8_in [.int r5, .int 48, .int 57] σ3 (some (.int r8)) σ6 ∧ ((r8 = 0 → Ru E mX8_readsCouple 36 [(0, .ref 53), (1, .int x1), (2, .int x2), (3, .int x3)] [] σ6 Φ) ∧ (¬ r8 = 0 → Ru E mX8_readsCouple 2 [(0, .ref 53), (1, .int x1), (2, .int x2), (3, .int (x3 + 1))] [] σ6 Φ))))))) : Ru E mX8_readsCouple 2 [(0, .ref 53), (1, .int x1), (2, .int x2), (3, .int x3)] [] σ Φ := by
  refine s_iload_n 1 (pc := 2) dX8_readsCouple_2 rfl rfl ?_
  refine s_bipush (v := 8) (pc := 3) dX8_readsCouple_3 rfl ?_
  refine s_icmp_ge (pc := 5) (tgt := 36) dX8_readsCouple_5 rfl (fun q1 => ?_) (fun q1 => ?_)
  · replace h := h.1 q1
    exact s_sub (L' := [(0, .ref 53), (1, .int x1), (2, .int x2), (3, .int x3)]) [0, 1, 2, 3] rfl h
  · replace h := h.2 q1
    refine s_iload_n 3 (pc := 8) dX8_readsCouple_8 rfl rfl ?_
    refine s_iconst (v := 3) (pc := 9) dX8_readsCouple_9 rfl ?_
    refine s_icmp_ge (pc := 10) (tgt := 36) dX8_readsCouple_10 rfl (fun q2 => ?_) (fun q2 => ?_)
    · replace h := h.1 q2
      exact s_sub (L' := [(0, .ref 53), (1, .int x1), (2, .int x2), (3, .int x3)]) [0, 1, 2, 3] rfl h
    · replace h := h.2 q2
      refine s_aload_n 0 (pc := 13) dX8_readsCouple_13 rfl rfl ?_
      refine s_iload_n 2 (pc := 14) dX8_readsCouple_14 rfl rfl ?_
      refine s_iload_n 3 (pc := 15) dX8_readsCouple_15 rfl rfl ?_
      refine s_iadd (pc := 16) dX8_readsCouple_16 ?_
      obtain ⟨r5, σ3, hk4, h⟩ := h
      refine s_callV (S := []) [.int (x2 + x3)] (pc := 17) dX8_readsCouple_17 mv_X8_byteAt ml_X8_132 ⟨Nat.le_of_ble_eq_true rfl, Nat.le_of_ble_eq_true rfl⟩ rfl rfl ly53 rfl rfl (Nat.le_of_ble_eq_true rfl) hk4 ?_
      refine s_bipush (v := 48) (pc := 20) dX8_readsCouple_20 rfl ?_
      refine s_bipush (v := 57) (pc := 22) dX8_readsCouple_22 rfl ?_
      obtain ⟨r8, σ6, hk7, h⟩ := h
      refine s_callS (S := []) [.int r5, .int 48, .int 57] (pc := 24) dX8_readsCouple_24 ms_X8_in ml_X8_124 ⟨Nat.le_of_ble_eq_true rfl, Nat.le_of_ble_eq_true rfl⟩ rfl rfl (Nat.le_of_ble_eq_true rfl) hk7 ?_
      refine s_if_eq (pc := 27) (tgt := 36) dX8_readsCouple_27 rfl (fun q9 => ?_) (fun q9 => ?_)
      · replace h := h.1 q9
        exact s_sub (L' := [(0, .ref 53), (1, .int x1), (2, .int x2), (3, .int x3)]) [0, 1, 2, 3] rfl h
      · replace h := h.2 q9
        refine s_iinc (v := x3 + 1) (L' := [(3, .int (x3 + 1)), (0, .ref 53), (1, .int x1), (2, .int x2)]) 3 (pc := 30) dX8_readsCouple_30 rfl rfl (Nat.le_of_ble_eq_true rfl) rfl ?_
        refine s_goto (pc := 33) (tgt := 2) dX8_readsCouple_33 rfl ?_
        exact s_sub (L' := [(0, .ref 53), (1, .int x1), (2, .int x2), (3, .int (x3 + 1))]) [1, 2, 3, 0] rfl h
set_option maxRecDepth 10000 in
set_option maxHeartbeats 4000000 in
theorem tX8_readsCouple_36 {E : Ev} {x1 : Int32} {x2 : Int32} {x3 : Int32} {σ : Hp} {Φ : Option Value → Hp → Prop}  (h : ((¬ x3 = 3 → Ru E mX8_readsCouple 58 [(0, .ref 53), (1, .int x1), (2, .int x2), (3, .int x3)] [.int 0, .int x3] σ Φ) ∧ (x3 = 3 → ∃ (r4 : Int32) (σ2 : Hp), Call E mX8_sortAt [.ref 53, .int (x2 + 3)] σ (some (.int r4)) σ2 ∧ ((r4 = (-1) → Ru E mX8_readsCouple 58 [(0, .ref 53), (1, .int x1), (2, .int x2), (3, .int x3)] [.int 0, .int x3] σ2 Φ) ∧ (¬ r4 = (-1) → Ru E mX8_readsCouple 58 [(0, .ref 53), (1, .int x1), (2, .int x2), (3, .int x3)] [.int 1, .int x3] σ2 Φ))))) : Ru E mX8_readsCouple 36 [(0, .ref 53), (1, .int x1), (2, .int x2), (3, .int x3)] [] σ Φ := by
  refine s_iload_n 3 (pc := 36) dX8_readsCouple_36 rfl rfl ?_
  refine s_iload_n 3 (pc := 37) dX8_readsCouple_37 rfl rfl ?_
  refine s_iconst (v := 3) (pc := 38) dX8_readsCouple_38 rfl ?_
  refine s_icmp_ne (pc := 39) (tgt := 57) dX8_readsCouple_39 rfl (fun q1 => ?_) (fun q1 => ?_)
  · replace h := h.1 q1
    refine s_iconst (v := 0) (pc := 57) dX8_readsCouple_57 rfl ?_
    exact s_sub (L' := [(0, .ref 53), (1, .int x1), (2, .int x2), (3, .int x3)]) [0, 1, 2, 3] rfl h
  · replace h := h.2 q1
    refine s_aload_n 0 (pc := 42) dX8_readsCouple_42 rfl rfl ?_
    refine s_iload_n 2 (pc := 43) dX8_readsCouple_43 rfl rfl ?_
    refine s_iconst (v := 3) (pc := 44) dX8_readsCouple_44 rfl ?_
    refine s_iadd (pc := 45) dX8_readsCouple_45 ?_
    obtain ⟨r4, σ2, hk3, h⟩ := h
    refine s_callV (S := [.int x3]) [.int (x2 + 3)] (pc := 46) dX8_readsCouple_46 mv_X8_sortAt ml_X8_136 ⟨Nat.le_of_ble_eq_true rfl, Nat.le_of_ble_eq_true rfl⟩ rfl rfl ly53 rfl rfl (Nat.le_of_ble_eq_true rfl) hk3 ?_
    refine s_iconst (v := (-1)) (pc := 49) dX8_readsCouple_49 rfl ?_
    refine s_icmp_eq (pc := 50) (tgt := 57) dX8_readsCouple_50 rfl (fun q5 => ?_) (fun q5 => ?_)
    · replace h := h.1 q5
      refine s_iconst (v := 0) (pc := 57) dX8_readsCouple_57 rfl ?_
      exact s_sub (L' := [(0, .ref 53), (1, .int x1), (2, .int x2), (3, .int x3)]) [0, 1, 2, 3] rfl h
    · replace h := h.2 q5
      refine s_iconst (v := 1) (pc := 53) dX8_readsCouple_53 rfl ?_
      refine s_goto (pc := 54) (tgt := 58) dX8_readsCouple_54 rfl ?_
      exact s_sub (L' := [(0, .ref 53), (1, .int x1), (2, .int x2), (3, .int x3)]) [0, 1, 2, 3] rfl h
set_option maxRecDepth 10000 in
set_option maxHeartbeats 4000000 in
theorem tX8_readsCouple_58 {E : Ev} {x1 : Int32} {x2 : Int32} {x3 : Int32} {xs0 : Int32} {xs1 : Int32} {σ : Hp} {Φ : Option Value → Hp → Prop}  (h : ((¬ (xs1 + xs0) = 4 → Φ (some (.int (xs1 + xs0))) σ) ∧ ((xs1 + xs0) = 4 → ∃ (r4 : Int32) (σ2 : Hp), Call E mX8_byteAt [.ref 53, .int x2] σ (some (.int r4)) σ2 ∧ vp_in x1 9 ∧ ∃ (r8 : Int32) (σ6 : Hp), Call E mX8_byteAt [.ref 53, .int (x2 + 1)] (up σ2 55 ((x1).toNatClampNeg) (r4 - 48)) (some (.int r8)) σ6 ∧ ∃ (r12 : Int32) (σ10 : Hp), Call E mX8_byteAt [.ref 53, .int (x2 + 2)] (up σ6 56 ((x1).toNatClampNeg) (r8 - 48)) (some (.int r12)) σ10 ∧ ∃ (r16 : Int32) (σ14 : Hp), Call E mX8_sortAt [.ref 53, .int (x2 + 3)] (up σ10 57 ((x1).toNatClampNeg) (r12 - 48)) (some (.int r16)) σ14 ∧ Φ (some (.int (xs1 + xs0))) (up σ14 58 ((x1).toNatClampNeg) r16)))) : Ru E mX8_readsCouple 58 [(0, .ref 53), (1, .int x1), (2, .int x2), (3, .int x3)] [.int xs0, .int xs1] σ Φ := by
  refine s_iadd (pc := 58) dX8_readsCouple_58 ?_
  refine s_istore_n (L' := [(3, .int (xs1 + xs0)), (0, .ref 53), (1, .int x1), (2, .int x2)]) (pc := 59) dX8_readsCouple_59 rfl (Nat.le_of_ble_eq_true rfl) rfl ?_
  refine s_iload_n 0 (pc := 60) dX8_readsCouple_60 rfl rfl ?_
  refine s_iconst (v := 4) (pc := 61) dX8_readsCouple_61 rfl ?_
  refine s_icmp_ne (pc := 62) (tgt := 124) dX8_readsCouple_62 rfl (fun q1 => ?_) (fun q1 => ?_)
  · replace h := h.1 q1
    refine s_iload_n 0 (pc := 124) dX8_readsCouple_124 rfl rfl ?_
    exact s_ret (r := some (.int (xs1 + xs0))) ⟨dX8_readsCouple_125, fun ty e => by cases e; rfl⟩ rfl h
  · replace h := h.2 q1
    refine s_aload_n 1 (pc := 65) dX8_readsCouple_65 rfl rfl ?_
    refine s_getR (q := 55) (pc := 66) dX8_readsCouple_66 fl_X8_13 ly53 rfl ?_
    refine s_iload_n 2 (pc := 69) dX8_readsCouple_69 rfl rfl ?_
    refine s_aload_n 1 (pc := 70) dX8_readsCouple_70 rfl rfl ?_
    refine s_iload_n 3 (pc := 71) dX8_readsCouple_71 rfl rfl ?_
    obtain ⟨r4, σ2, hk3, h⟩ := h
    refine s_callV (S := [.int x1, .ref 55]) [.int x2] (pc := 72) dX8_readsCouple_72 mv_X8_byteAt ml_X8_132 ⟨Nat.le_of_ble_eq_true rfl, Nat.le_of_ble_eq_true rfl⟩ rfl rfl ly53 rfl rfl (Nat.le_of_ble_eq_true rfl) hk3 ?_
    refine s_bipush (v := 48) (pc := 75) dX8_readsCouple_75 rfl ?_
    refine s_isub (pc := 77) dX8_readsCouple_77 ?_
    have hv5 := h.1
    replace h := h.2
    refine s_iast (pc := 78) dX8_readsCouple_78 ly55 hv5 ?_
    refine s_aload_n 1 (pc := 79) dX8_readsCouple_79 rfl rfl ?_
    refine s_getR (q := 56) (pc := 80) dX8_readsCouple_80 fl_X8_16 ly53 rfl ?_
    refine s_iload_n 2 (pc := 83) dX8_readsCouple_83 rfl rfl ?_
    refine s_aload_n 1 (pc := 84) dX8_readsCouple_84 rfl rfl ?_
    refine s_iload_n 3 (pc := 85) dX8_readsCouple_85 rfl rfl ?_
    refine s_iconst (v := 1) (pc := 86) dX8_readsCouple_86 rfl ?_
    refine s_iadd (pc := 87) dX8_readsCouple_87 ?_
    obtain ⟨r8, σ6, hk7, h⟩ := h
    refine s_callV (S := [.int x1, .ref 56]) [.int (x2 + 1)] (pc := 88) dX8_readsCouple_88 mv_X8_byteAt ml_X8_132 ⟨Nat.le_of_ble_eq_true rfl, Nat.le_of_ble_eq_true rfl⟩ rfl rfl ly53 rfl rfl (Nat.le_of_ble_eq_true rfl) hk7 ?_
    refine s_bipush (v := 48) (pc := 91) dX8_readsCouple_91 rfl ?_
    refine s_isub (pc := 93) dX8_readsCouple_93 ?_
    refine s_iast (pc := 94) dX8_readsCouple_94 ly56 hv5 ?_
    refine s_aload_n 1 (pc := 95) dX8_readsCouple_95 rfl rfl ?_
    refine s_getR (q := 57) (pc := 96) dX8_readsCouple_96 fl_X8_19 ly53 rfl ?_
    refine s_iload_n 2 (pc := 99) dX8_readsCouple_99 rfl rfl ?_
    refine s_aload_n 1 (pc := 100) dX8_readsCouple_100 rfl rfl ?_
    refine s_iload_n 3 (pc := 101) dX8_readsCouple_101 rfl rfl ?_
    refine s_iconst (v := 2) (pc := 102) dX8_readsCouple_102 rfl ?_
    refine s_iadd (pc := 103) dX8_readsCouple_103 ?_
    obtain ⟨r12, σ10, hk11, h⟩ := h
    refine s_callV (S := [.int x1, .ref 57]) [.int (x2 + 2)] (pc := 104) dX8_readsCouple_104 mv_X8_byteAt ml_X8_132 ⟨Nat.le_of_ble_eq_true rfl, Nat.le_of_ble_eq_true rfl⟩ rfl rfl ly53 rfl rfl (Nat.le_of_ble_eq_true rfl) hk11 ?_
    refine s_bipush (v := 48) (pc := 107) dX8_readsCouple_107 rfl ?_
    refine s_isub (pc := 109) dX8_readsCouple_109 ?_
    refine s_iast (pc := 110) dX8_readsCouple_110 ly57 hv5 ?_
    refine s_aload_n 1 (pc := 111) dX8_readsCouple_111 rfl rfl ?_
    refine s_getR (q := 58) (pc := 112) dX8_readsCouple_112 fl_X8_22 ly53 rfl ?_
    refine s_iload_n 2 (pc := 115) dX8_readsCouple_115 rfl rfl ?_
    refine s_aload_n 1 (pc := 116) dX8_readsCouple_116 rfl rfl ?_
    refine s_iload_n 3 (pc := 117) dX8_readsCouple_117 rfl rfl ?_
    refine s_iconst (v := 3) (pc := 118) dX8_readsCouple_118 rfl ?_
    refine s_iadd (pc := 119) dX8_readsCouple_119 ?_
    obtain ⟨r16, σ14, hk15, h⟩ := h
    refine s_callV (S := [.int x1, .ref 58]) [.int (x2 + 3)] (pc := 120) dX8_readsCouple_120 mv_X8_sortAt ml_X8_136 ⟨Nat.le_of_ble_eq_true rfl, Nat.le_of_ble_eq_true rfl⟩ rfl rfl ly53 rfl rfl (Nat.le_of_ble_eq_true rfl) hk15 ?_
    refine s_iast (pc := 123) dX8_readsCouple_123 ly58 hv5 ?_
    refine s_iload_n 0 (pc := 124) dX8_readsCouple_124 rfl rfl ?_
    exact s_ret (r := some (.int (xs1 + xs0))) ⟨dX8_readsCouple_125, fun ty e => by cases e; rfl⟩ rfl h
set_option maxRecDepth 10000 in
set_option maxHeartbeats 4000000 in
theorem tX8_faultNow_0 {E : Ev}  {σ : Hp} {Φ : Option Value → Hp → Prop}  (h : Ru E mX8_faultNow 9 [(0, .ref 53), (1, .int 0), (2, .int 0)] [] (up σ 53 2 0) Φ) : Ru E mX8_faultNow 0 [(0, .ref 53)] [] σ Φ := by
  refine s_iconst (v := 0) (pc := 0) dX8_faultNow_0 rfl ?_
  refine s_istore_n (L' := [(1, .int 0), (0, .ref 53)]) (pc := 1) dX8_faultNow_1 rfl (Nat.le_of_ble_eq_true rfl) rfl ?_
  refine s_iconst (v := 0) (pc := 2) dX8_faultNow_2 rfl ?_
  refine s_istore_n (L' := [(2, .int 0), (1, .int 0), (0, .ref 53)]) (pc := 3) dX8_faultNow_3 rfl (Nat.le_of_ble_eq_true rfl) rfl ?_
  refine s_aload_n 2 (pc := 4) dX8_faultNow_4 rfl rfl ?_
  refine s_iconst (v := 0) (pc := 5) dX8_faultNow_5 rfl ?_
  refine s_put (ty := .int) (pc := 6) dX8_faultNow_6 fp_X8_139 ly53 rfl rfl rfl ?_
  exact s_sub (L' := [(0, .ref 53), (1, .int 0), (2, .int 0)]) [2, 1, 0] rfl h
set_option maxRecDepth 10000 in
set_option maxHeartbeats 4000000 in
theorem tX8_faultNow_9 {E : Ev} {x1 : Int32} {x2 : Int32} {σ : Hp} {Φ : Option Value → Hp → Prop}  (h : ((x2 < (σ 53 0) → Ru E mX8_faultNow 21 [(0, .ref 53), (1, .int x1), (2, .int x2)] [] σ Φ) ∧ (¬ x2 < (σ 53 0) → ((x2 ≤ 0 → Φ (some (.int (-1))) σ) ∧ (¬ x2 ≤ 0 → Ru E mX8_faultNow 21 [(0, .ref 53), (1, .int x1), (2, .int x2)] [] σ Φ))))) : Ru E mX8_faultNow 9 [(0, .ref 53), (1, .int x1), (2, .int x2)] [] σ Φ := by
  refine s_iload_n 2 (pc := 9) dX8_faultNow_9 rfl rfl ?_
  refine s_aload_n 0 (pc := 10) dX8_faultNow_10 rfl rfl ?_
  refine s_getI (v := σ 53 0) (pc := 11) dX8_faultNow_11 fl_X8_128 ly53 rfl rfl ?_
  refine s_icmp_lt (pc := 14) (tgt := 21) dX8_faultNow_14 rfl (fun q1 => ?_) (fun q1 => ?_)
  · replace h := h.1 q1
    exact s_sub (L' := [(0, .ref 53), (1, .int x1), (2, .int x2)]) [0, 1, 2] rfl h
  · replace h := h.2 q1
    refine s_iload_n 2 (pc := 17) dX8_faultNow_17 rfl rfl ?_
    refine s_if_le (pc := 18) (tgt := 76) dX8_faultNow_18 rfl (fun q2 => ?_) (fun q2 => ?_)
    · replace h := h.1 q2
      refine s_iconst (v := (-1)) (pc := 76) dX8_faultNow_76 rfl ?_
      exact s_ret (r := some (.int (-1))) ⟨dX8_faultNow_77, fun ty e => by cases e; rfl⟩ rfl h
    · replace h := h.2 q2
      exact s_sub (L' := [(0, .ref 53), (1, .int x1), (2, .int x2)]) [0, 1, 2] rfl h
set_option maxRecDepth 10000 in
set_option maxHeartbeats 4000000 in
theorem tX8_faultNow_21 {E : Ev} {x1 : Int32} {x2 : Int32} {σ : Hp} {Φ : Option Value → Hp → Prop}  (h : ∃ (r3 : Int32) (σ1 : Hp), Call E mX8_readsCouple [.ref 53, .int x1, .int x2] σ (some (.int r3)) σ1 ∧ ((4 ≤ r3 → ((¬ (x2 + 4) = (σ1 53 0) → ∃ (r8 : Int32) (σ6 : Hp), Call E mX8_byteAt [.ref 53, .int (x2 + 4)] σ1 (some (.int r8)) σ6 ∧ ((r8 = 59 → Ru E mX8_faultNow 9 [(0, .ref 53), (1, .int (x1 + 1)), (2, .int ((x2 + 4) + 1))] [] σ6 Φ) ∧ (¬ r8 = 59 → Φ (some (.int (x2 + 4))) σ6))) ∧ ((x2 + 4) = (σ1 53 0) → Φ (some (.int (-1))) (up σ1 53 2 (x1 + 1))))) ∧ (¬ 4 ≤ r3 → Φ (some (.int (x2 + r3))) σ1))) : Ru E mX8_faultNow 21 [(0, .ref 53), (1, .int x1), (2, .int x2)] [] σ Φ := by
  refine s_aload_n 0 (pc := 21) dX8_faultNow_21 rfl rfl ?_
  refine s_iload_n 1 (pc := 22) dX8_faultNow_22 rfl rfl ?_
  refine s_iload_n 2 (pc := 23) dX8_faultNow_23 rfl rfl ?_
  obtain ⟨r3, σ1, hk2, h⟩ := h
  refine s_callV (S := []) [.int x1, .int x2] (pc := 24) dX8_faultNow_24 mv_X8_readsCouple ml_X8_142 ⟨Nat.le_of_ble_eq_true rfl, Nat.le_of_ble_eq_true rfl⟩ rfl rfl ly53 rfl rfl (Nat.le_of_ble_eq_true rfl) hk2 ?_
  refine s_istore_n (L' := [(3, .int r3), (0, .ref 53), (1, .int x1), (2, .int x2)]) (pc := 27) dX8_faultNow_27 rfl (Nat.le_of_ble_eq_true rfl) rfl ?_
  refine s_iload_n 0 (pc := 28) dX8_faultNow_28 rfl rfl ?_
  refine s_iconst (v := 4) (pc := 29) dX8_faultNow_29 rfl ?_
  refine s_icmp_ge (pc := 30) (tgt := 37) dX8_faultNow_30 rfl (fun q4 => ?_) (fun q4 => ?_)
  · replace h := h.1 q4
    refine s_iinc (v := x1 + 1) (L' := [(1, .int (x1 + 1)), (3, .int r3), (0, .ref 53), (2, .int x2)]) 2 (pc := 37) dX8_faultNow_37 rfl rfl (Nat.le_of_ble_eq_true rfl) rfl ?_
    refine s_iinc (v := x2 + 4) (L' := [(2, .int (x2 + 4)), (1, .int (x1 + 1)), (3, .int r3), (0, .ref 53)]) 3 (pc := 40) dX8_faultNow_40 rfl rfl (Nat.le_of_ble_eq_true rfl) rfl ?_
    refine s_iload_n 0 (pc := 43) dX8_faultNow_43 rfl rfl ?_
    refine s_aload_n 3 (pc := 44) dX8_faultNow_44 rfl rfl ?_
    refine s_getI (v := σ1 53 0) (pc := 45) dX8_faultNow_45 fl_X8_128 ly53 rfl rfl ?_
    refine s_icmp_ne (pc := 48) (tgt := 58) dX8_faultNow_48 rfl (fun q5 => ?_) (fun q5 => ?_)
    · replace h := h.1 q5
      refine s_aload_n 3 (pc := 58) dX8_faultNow_58 rfl rfl ?_
      refine s_iload_n 0 (pc := 59) dX8_faultNow_59 rfl rfl ?_
      obtain ⟨r8, σ6, hk7, h⟩ := h
      refine s_callV (S := []) [.int (x2 + 4)] (pc := 60) dX8_faultNow_60 mv_X8_byteAt ml_X8_132 ⟨Nat.le_of_ble_eq_true rfl, Nat.le_of_ble_eq_true rfl⟩ rfl rfl ly53 rfl rfl (Nat.le_of_ble_eq_true rfl) hk7 ?_
      refine s_bipush (v := 59) (pc := 63) dX8_faultNow_63 rfl ?_
      refine s_icmp_eq (pc := 65) (tgt := 70) dX8_faultNow_65 rfl (fun q9 => ?_) (fun q9 => ?_)
      · replace h := h.1 q9
        refine s_iinc (v := (x2 + 4) + 1) (L' := [(2, .int ((x2 + 4) + 1)), (1, .int (x1 + 1)), (3, .int r3), (0, .ref 53)]) 0 (pc := 70) dX8_faultNow_70 rfl rfl (Nat.le_of_ble_eq_true rfl) rfl ?_
        refine s_goto (pc := 73) (tgt := 9) dX8_faultNow_73 rfl ?_
        exact s_sub (L' := [(0, .ref 53), (1, .int (x1 + 1)), (2, .int ((x2 + 4) + 1))]) [3, 1, 0] rfl h
      · replace h := h.2 q9
        refine s_iload_n 0 (pc := 68) dX8_faultNow_68 rfl rfl ?_
        exact s_ret (r := some (.int (x2 + 4))) ⟨dX8_faultNow_69, fun ty e => by cases e; rfl⟩ rfl h
    · replace h := h.2 q5
      refine s_aload_n 3 (pc := 51) dX8_faultNow_51 rfl rfl ?_
      refine s_iload_n 1 (pc := 52) dX8_faultNow_52 rfl rfl ?_
      refine s_put (ty := .int) (pc := 53) dX8_faultNow_53 fp_X8_139 ly53 rfl rfl rfl ?_
      refine s_iconst (v := (-1)) (pc := 56) dX8_faultNow_56 rfl ?_
      exact s_ret (r := some (.int (-1))) ⟨dX8_faultNow_57, fun ty e => by cases e; rfl⟩ rfl h
  · replace h := h.2 q4
    refine s_iload_n 3 (pc := 33) dX8_faultNow_33 rfl rfl ?_
    refine s_iload_n 0 (pc := 34) dX8_faultNow_34 rfl rfl ?_
    refine s_iadd (pc := 35) dX8_faultNow_35 ?_
    exact s_ret (r := some (.int (x2 + r3))) ⟨dX8_faultNow_36, fun ty e => by cases e; rfl⟩ rfl h
set_option maxRecDepth 10000 in
set_option maxHeartbeats 4000000 in
theorem tX8_reads_0 {E : Ev}  {σ : Hp} {Φ : Option Value → Hp → Prop}  (h : ∃ (r3 : Int32) (σ1 : Hp), Call E mX8_faultNow [.ref 53] σ (some (.int r3)) σ1 ∧ Φ none σ1) : Ru E mX8_reads 0 [(0, .ref 53)] [] σ Φ := by
  refine s_aload_n 0 (pc := 0) dX8_reads_0 rfl rfl ?_
  obtain ⟨r3, σ1, hk2, h⟩ := h
  refine s_callV (S := []) [] (pc := 1) dX8_reads_1 mv_X8_faultNow ml_X8_146 ⟨Nat.le_of_ble_eq_true rfl, Nat.le_of_ble_eq_true rfl⟩ rfl rfl ly53 rfl rfl (Nat.le_of_ble_eq_true rfl) hk2 ?_
  refine s_istore_n (L' := [(1, .int r3), (0, .ref 53)]) (pc := 4) dX8_reads_4 rfl (Nat.le_of_ble_eq_true rfl) rfl ?_
  exact s_ret (r := none) dX8_reads_5 rfl h
set_option maxRecDepth 10000 in
set_option maxHeartbeats 4000000 in
theorem tX8_fault_0 {E : Ev}  {σ : Hp} {Φ : Option Value → Hp → Prop}  (h : ∃ (r3 : Int32) (σ1 : Hp), Call E mX8_faultNow [.ref 53] σ (some (.int r3)) σ1 ∧ Φ (some (.int r3)) σ1) : Ru E mX8_fault 0 [(0, .ref 53)] [] σ Φ := by
  refine s_aload_n 0 (pc := 0) dX8_fault_0 rfl rfl ?_
  obtain ⟨r3, σ1, hk2, h⟩ := h
  refine s_callV (S := []) [] (pc := 1) dX8_fault_1 mv_X8_faultNow ml_X8_146 ⟨Nat.le_of_ble_eq_true rfl, Nat.le_of_ble_eq_true rfl⟩ rfl rfl ly53 rfl rfl (Nat.le_of_ble_eq_true rfl) hk2 ?_
  exact s_ret (r := some (.int r3)) ⟨dX8_fault_4, fun ty e => by cases e; rfl⟩ rfl h
set_option maxRecDepth 10000 in
set_option maxHeartbeats 4000000 in
theorem tX8_isCouple_0 {E : Ev} {x1 : Int32} {σ : Hp} {Φ : Option Value → Hp → Prop}  (h : ∃ σ1 : Hp, Call E mX8_reads [.ref 53] σ none σ1 ∧ ∃ (r5 : Int32) (σ3 : Hp), Call E mX8_in [.int x1, .int 0, .int ((σ1 53 2) - 1)] σ1 (some (.int r5)) σ3 ∧ narrow .boolean (.int r5) = .int r5 ∧ Φ (some (.int r5)) σ3) : Ru E mX8_isCouple 0 [(0, .ref 53), (1, .int x1)] [] σ Φ := by
  refine s_aload_n 0 (pc := 0) dX8_isCouple_0 rfl rfl ?_
  obtain ⟨σ1, hk2, h⟩ := h
  refine s_callV (S := []) [] (pc := 1) dX8_isCouple_1 mv_X8_reads ml_X8_150 ⟨Nat.le_of_ble_eq_true rfl, Nat.le_of_ble_eq_true rfl⟩ rfl rfl ly53 rfl rfl (Nat.le_of_ble_eq_true rfl) hk2 ?_
  refine s_iload_n 1 (pc := 4) dX8_isCouple_4 rfl rfl ?_
  refine s_iconst (v := 0) (pc := 5) dX8_isCouple_5 rfl ?_
  refine s_aload_n 0 (pc := 6) dX8_isCouple_6 rfl rfl ?_
  refine s_getI (v := σ1 53 2) (pc := 7) dX8_isCouple_7 fl_X8_139 ly53 rfl rfl ?_
  refine s_iconst (v := 1) (pc := 10) dX8_isCouple_10 rfl ?_
  refine s_isub (pc := 11) dX8_isCouple_11 ?_
  obtain ⟨r5, σ3, hk4, h⟩ := h
  refine s_callS (S := []) [.int x1, .int 0, .int ((σ1 53 2) - 1)] (pc := 12) dX8_isCouple_12 ms_X8_in ml_X8_124 ⟨Nat.le_of_ble_eq_true rfl, Nat.le_of_ble_eq_true rfl⟩ rfl rfl (Nat.le_of_ble_eq_true rfl) hk4 ?_
  have hz := h.1
  replace h := h.2
  exact s_ret (r := some (.int r5)) ⟨dX8_isCouple_15, fun ty e => by cases e; exact hz⟩ rfl h
set_option maxRecDepth 10000 in
set_option maxHeartbeats 4000000 in
theorem tX8_coupleOf_0 {E : Ev} {x1 : Int32} {x2 : Int32} {σ : Hp} {Φ : Option Value → Hp → Prop}  (h : ((¬ x2 = 0 → ((¬ x2 = 1 → ((¬ x2 = 2 → vp_in x1 9 ∧ Φ (some (.int (σ 58 ((x1).toNatClampNeg)))) σ) ∧ (x2 = 2 → vp_in x1 9 ∧ Φ (some (.int (σ 57 ((x1).toNatClampNeg)))) σ))) ∧ (x2 = 1 → vp_in x1 9 ∧ Φ (some (.int (σ 56 ((x1).toNatClampNeg)))) σ))) ∧ (x2 = 0 → vp_in x1 9 ∧ Φ (some (.int (σ 55 ((x1).toNatClampNeg)))) σ))) : Ru E mX8_coupleOf 0 [(0, .ref 53), (1, .int x1), (2, .int x2)] [] σ Φ := by
  refine s_iload_n 2 (pc := 0) dX8_coupleOf_0 rfl rfl ?_
  refine s_if_ne (pc := 1) (tgt := 13) dX8_coupleOf_1 rfl (fun q1 => ?_) (fun q1 => ?_)
  · replace h := h.1 q1
    refine s_iload_n 2 (pc := 13) dX8_coupleOf_13 rfl rfl ?_
    refine s_iconst (v := 1) (pc := 14) dX8_coupleOf_14 rfl ?_
    refine s_icmp_ne (pc := 15) (tgt := 27) dX8_coupleOf_15 rfl (fun q2 => ?_) (fun q2 => ?_)
    · replace h := h.1 q2
      refine s_iload_n 2 (pc := 27) dX8_coupleOf_27 rfl rfl ?_
      refine s_iconst (v := 2) (pc := 28) dX8_coupleOf_28 rfl ?_
      refine s_icmp_ne (pc := 29) (tgt := 41) dX8_coupleOf_29 rfl (fun q3 => ?_) (fun q3 => ?_)
      · replace h := h.1 q3
        refine s_aload_n 0 (pc := 41) dX8_coupleOf_41 rfl rfl ?_
        refine s_getR (q := 58) (pc := 42) dX8_coupleOf_42 fl_X8_22 ly53 rfl ?_
        refine s_iload_n 1 (pc := 45) dX8_coupleOf_45 rfl rfl ?_
        have hv4 := h.1
        replace h := h.2
        refine s_iald (pc := 46) dX8_coupleOf_46 ly58 hv4 ?_
        exact s_ret (r := some (.int (σ 58 ((x1).toNatClampNeg)))) ⟨dX8_coupleOf_47, fun ty e => by cases e; rfl⟩ rfl h
      · replace h := h.2 q3
        refine s_aload_n 0 (pc := 32) dX8_coupleOf_32 rfl rfl ?_
        refine s_getR (q := 57) (pc := 33) dX8_coupleOf_33 fl_X8_19 ly53 rfl ?_
        refine s_iload_n 1 (pc := 36) dX8_coupleOf_36 rfl rfl ?_
        have hv5 := h.1
        replace h := h.2
        refine s_iald (pc := 37) dX8_coupleOf_37 ly57 hv5 ?_
        refine s_goto (pc := 38) (tgt := 47) dX8_coupleOf_38 rfl ?_
        exact s_ret (r := some (.int (σ 57 ((x1).toNatClampNeg)))) ⟨dX8_coupleOf_47, fun ty e => by cases e; rfl⟩ rfl h
    · replace h := h.2 q2
      refine s_aload_n 0 (pc := 18) dX8_coupleOf_18 rfl rfl ?_
      refine s_getR (q := 56) (pc := 19) dX8_coupleOf_19 fl_X8_16 ly53 rfl ?_
      refine s_iload_n 1 (pc := 22) dX8_coupleOf_22 rfl rfl ?_
      have hv6 := h.1
      replace h := h.2
      refine s_iald (pc := 23) dX8_coupleOf_23 ly56 hv6 ?_
      refine s_goto (pc := 24) (tgt := 47) dX8_coupleOf_24 rfl ?_
      exact s_ret (r := some (.int (σ 56 ((x1).toNatClampNeg)))) ⟨dX8_coupleOf_47, fun ty e => by cases e; rfl⟩ rfl h
  · replace h := h.2 q1
    refine s_aload_n 0 (pc := 4) dX8_coupleOf_4 rfl rfl ?_
    refine s_getR (q := 55) (pc := 5) dX8_coupleOf_5 fl_X8_13 ly53 rfl ?_
    refine s_iload_n 1 (pc := 8) dX8_coupleOf_8 rfl rfl ?_
    have hv7 := h.1
    replace h := h.2
    refine s_iald (pc := 9) dX8_coupleOf_9 ly55 hv7 ?_
    refine s_goto (pc := 10) (tgt := 47) dX8_coupleOf_10 rfl ?_
    exact s_ret (r := some (.int (σ 55 ((x1).toNatClampNeg)))) ⟨dX8_coupleOf_47, fun ty e => by cases e; rfl⟩ rfl h
set_option maxRecDepth 10000 in
set_option maxHeartbeats 4000000 in
theorem tX8_couple_0 {E : Ev} {x1 : Int32} {x2 : Int32} {σ : Hp} {Φ : Option Value → Hp → Prop}  (h : ∃ (r3 : Int32) (σ1 : Hp), Call E mX8_isCouple [.ref 53, .int x1] σ (some (.int r3)) σ1 ∧ ((r3 = 0 → Φ (some (.int (-2))) σ1) ∧ (¬ r3 = 0 → ∃ (r7 : Int32) (σ5 : Hp), Call E mX8_in [.int x2, .int 0, .int 3] σ1 (some (.int r7)) σ5 ∧ ((r7 = 0 → Φ (some (.int (-2))) σ5) ∧ (¬ r7 = 0 → ∃ (r11 : Int32) (σ9 : Hp), Call E mX8_coupleOf [.ref 53, .int x1, .int x2] σ5 (some (.int r11)) σ9 ∧ Φ (some (.int r11)) σ9))))) : Ru E mX8_couple 0 [(0, .ref 53), (1, .int x1), (2, .int x2)] [] σ Φ := by
  refine s_aload_n 0 (pc := 0) dX8_couple_0 rfl rfl ?_
  refine s_iload_n 1 (pc := 1) dX8_couple_1 rfl rfl ?_
  obtain ⟨r3, σ1, hk2, h⟩ := h
  refine s_callV (S := []) [.int x1] (pc := 2) dX8_couple_2 mv_X8_isCouple ml_X8_153 ⟨Nat.le_of_ble_eq_true rfl, Nat.le_of_ble_eq_true rfl⟩ rfl rfl ly53 rfl rfl (Nat.le_of_ble_eq_true rfl) hk2 ?_
  refine s_if_eq (pc := 5) (tgt := 26) dX8_couple_5 rfl (fun q4 => ?_) (fun q4 => ?_)
  · replace h := h.1 q4
    refine s_bipush (v := (-2)) (pc := 26) dX8_couple_26 rfl ?_
    exact s_ret (r := some (.int (-2))) ⟨dX8_couple_28, fun ty e => by cases e; rfl⟩ rfl h
  · replace h := h.2 q4
    refine s_iload_n 2 (pc := 8) dX8_couple_8 rfl rfl ?_
    refine s_iconst (v := 0) (pc := 9) dX8_couple_9 rfl ?_
    refine s_iconst (v := 3) (pc := 10) dX8_couple_10 rfl ?_
    obtain ⟨r7, σ5, hk6, h⟩ := h
    refine s_callS (S := []) [.int x2, .int 0, .int 3] (pc := 11) dX8_couple_11 ms_X8_in ml_X8_124 ⟨Nat.le_of_ble_eq_true rfl, Nat.le_of_ble_eq_true rfl⟩ rfl rfl (Nat.le_of_ble_eq_true rfl) hk6 ?_
    refine s_if_eq (pc := 14) (tgt := 26) dX8_couple_14 rfl (fun q8 => ?_) (fun q8 => ?_)
    · replace h := h.1 q8
      refine s_bipush (v := (-2)) (pc := 26) dX8_couple_26 rfl ?_
      exact s_ret (r := some (.int (-2))) ⟨dX8_couple_28, fun ty e => by cases e; rfl⟩ rfl h
    · replace h := h.2 q8
      refine s_aload_n 0 (pc := 17) dX8_couple_17 rfl rfl ?_
      refine s_iload_n 1 (pc := 18) dX8_couple_18 rfl rfl ?_
      refine s_iload_n 2 (pc := 19) dX8_couple_19 rfl rfl ?_
      obtain ⟨r11, σ9, hk10, h⟩ := h
      refine s_callV (S := []) [.int x1, .int x2] (pc := 20) dX8_couple_20 mv_X8_coupleOf ml_X8_157 ⟨Nat.le_of_ble_eq_true rfl, Nat.le_of_ble_eq_true rfl⟩ rfl rfl ly53 rfl rfl (Nat.le_of_ble_eq_true rfl) hk10 ?_
      refine s_goto (pc := 23) (tgt := 28) dX8_couple_23 rfl ?_
      exact s_ret (r := some (.int r11)) ⟨dX8_couple_28, fun ty e => by cases e; rfl⟩ rfl h
set_option maxRecDepth 10000 in
set_option maxHeartbeats 4000000 in
theorem tX8_event_0 {E : Ev} {x1 : Int32} {x2 : Int32} {x3 : Int32} {x4 : Int32} {σ : Hp} {Φ : Option Value → Hp → Prop}  (h : ∃ (r3 : Int32) (σ1 : Hp), Call E mX8_in [.int x1, .int 0, .int 2] σ (some (.int r3)) σ1 ∧ ((r3 = 0 → Φ (some (.int (-2))) σ1) ∧ (¬ r3 = 0 → ∃ (r7 : Int32) (σ5 : Hp), Call E mX8_isDay [.int x2] σ1 (some (.int r7)) σ5 ∧ ((r7 = 0 → Φ (some (.int (-2))) σ5) ∧ (¬ r7 = 0 → ∃ (r11 : Int32) (σ9 : Hp), Call E mX8_isEight [.int x3] σ5 (some (.int r11)) σ9 ∧ ((r11 = 0 → Φ (some (.int (-2))) σ9) ∧ (¬ r11 = 0 → ∃ (r15 : Int32) (σ13 : Hp), Call E mX8_in [.int x4, .int 0, .int 9] σ9 (some (.int r15)) σ13 ∧ ((¬ r15 = 0 → ((¬ (σ13 53 7) = 8 → vp_in (σ13 53 7) 8 ∧ Φ (some (.int ((σ13 53 7) + 1))) (up (up (up (up (up σ13 59 ((σ13 53 7).toNatClampNeg) x1) 60 ((σ13 53 7).toNatClampNeg) x2) 61 ((σ13 53 7).toNatClampNeg) x3) 62 ((σ13 53 7).toNatClampNeg) x4) 53 7 ((σ13 53 7) + 1))) ∧ ((σ13 53 7) = 8 → Φ (some (.int (-4))) σ13))) ∧ (r15 = 0 → Φ (some (.int (-2))) σ13))))))))) : Ru E mX8_event 0 [(0, .ref 53), (1, .int x1), (2, .int x2), (3, .int x3), (4, .int x4)] [] σ Φ := by
  refine s_iload_n 1 (pc := 0) dX8_event_0 rfl rfl ?_
  refine s_iconst (v := 0) (pc := 1) dX8_event_1 rfl ?_
  refine s_iconst (v := 2) (pc := 2) dX8_event_2 rfl ?_
  obtain ⟨r3, σ1, hk2, h⟩ := h
  refine s_callS (S := []) [.int x1, .int 0, .int 2] (pc := 3) dX8_event_3 ms_X8_in ml_X8_124 ⟨Nat.le_of_ble_eq_true rfl, Nat.le_of_ble_eq_true rfl⟩ rfl rfl (Nat.le_of_ble_eq_true rfl) hk2 ?_
  refine s_if_eq (pc := 6) (tgt := 34) dX8_event_6 rfl (fun q4 => ?_) (fun q4 => ?_)
  · replace h := h.1 q4
    refine s_bipush (v := (-2)) (pc := 34) dX8_event_34 rfl ?_
    exact s_ret (r := some (.int (-2))) ⟨dX8_event_36, fun ty e => by cases e; rfl⟩ rfl h
  · replace h := h.2 q4
    refine s_iload_n 2 (pc := 9) dX8_event_9 rfl rfl ?_
    obtain ⟨r7, σ5, hk6, h⟩ := h
    refine s_callS (S := []) [.int x2] (pc := 10) dX8_event_10 ms_X8_isDay ml_X8_160 ⟨Nat.le_of_ble_eq_true rfl, Nat.le_of_ble_eq_true rfl⟩ rfl rfl (Nat.le_of_ble_eq_true rfl) hk6 ?_
    refine s_if_eq (pc := 13) (tgt := 34) dX8_event_13 rfl (fun q8 => ?_) (fun q8 => ?_)
    · replace h := h.1 q8
      refine s_bipush (v := (-2)) (pc := 34) dX8_event_34 rfl ?_
      exact s_ret (r := some (.int (-2))) ⟨dX8_event_36, fun ty e => by cases e; rfl⟩ rfl h
    · replace h := h.2 q8
      refine s_iload_n 3 (pc := 16) dX8_event_16 rfl rfl ?_
      obtain ⟨r11, σ9, hk10, h⟩ := h
      refine s_callS (S := []) [.int x3] (pc := 17) dX8_event_17 ms_X8_isEight ml_X8_163 ⟨Nat.le_of_ble_eq_true rfl, Nat.le_of_ble_eq_true rfl⟩ rfl rfl (Nat.le_of_ble_eq_true rfl) hk10 ?_
      refine s_if_eq (pc := 20) (tgt := 34) dX8_event_20 rfl (fun q12 => ?_) (fun q12 => ?_)
      · replace h := h.1 q12
        refine s_bipush (v := (-2)) (pc := 34) dX8_event_34 rfl ?_
        exact s_ret (r := some (.int (-2))) ⟨dX8_event_36, fun ty e => by cases e; rfl⟩ rfl h
      · replace h := h.2 q12
        refine s_iload 4 (pc := 23) dX8_event_23 rfl ?_
        refine s_iconst (v := 0) (pc := 25) dX8_event_25 rfl ?_
        refine s_bipush (v := 9) (pc := 26) dX8_event_26 rfl ?_
        obtain ⟨r15, σ13, hk14, h⟩ := h
        refine s_callS (S := []) [.int x4, .int 0, .int 9] (pc := 28) dX8_event_28 ms_X8_in ml_X8_124 ⟨Nat.le_of_ble_eq_true rfl, Nat.le_of_ble_eq_true rfl⟩ rfl rfl (Nat.le_of_ble_eq_true rfl) hk14 ?_
        refine s_if_ne (pc := 31) (tgt := 37) dX8_event_31 rfl (fun q16 => ?_) (fun q16 => ?_)
        · replace h := h.1 q16
          refine s_aload_n 0 (pc := 37) dX8_event_37 rfl rfl ?_
          refine s_getI (v := σ13 53 7) (pc := 38) dX8_event_38 fl_X8_166 ly53 rfl rfl ?_
          refine s_bipush (v := 8) (pc := 41) dX8_event_41 rfl ?_
          refine s_icmp_ne (pc := 43) (tgt := 49) dX8_event_43 rfl (fun q17 => ?_) (fun q17 => ?_)
          · replace h := h.1 q17
            refine s_aload_n 0 (pc := 49) dX8_event_49 rfl rfl ?_
            refine s_getR (q := 59) (pc := 50) dX8_event_50 fl_X8_25 ly53 rfl ?_
            refine s_aload_n 0 (pc := 53) dX8_event_53 rfl rfl ?_
            refine s_getI (v := σ13 53 7) (pc := 54) dX8_event_54 fl_X8_166 ly53 rfl rfl ?_
            refine s_iload_n 1 (pc := 57) dX8_event_57 rfl rfl ?_
            have hv18 := h.1
            replace h := h.2
            refine s_iast (pc := 58) dX8_event_58 ly59 hv18 ?_
            refine s_aload_n 0 (pc := 59) dX8_event_59 rfl rfl ?_
            refine s_getR (q := 60) (pc := 60) dX8_event_60 fl_X8_28 ly53 rfl ?_
            refine s_aload_n 0 (pc := 63) dX8_event_63 rfl rfl ?_
            refine s_getI (v := σ13 53 7) (pc := 64) dX8_event_64 fl_X8_166 ly53 rfl (by simp [up]) ?_
            refine s_iload_n 2 (pc := 67) dX8_event_67 rfl rfl ?_
            refine s_iast (pc := 68) dX8_event_68 ly60 hv18 ?_
            refine s_aload_n 0 (pc := 69) dX8_event_69 rfl rfl ?_
            refine s_getR (q := 61) (pc := 70) dX8_event_70 fl_X8_31 ly53 rfl ?_
            refine s_aload_n 0 (pc := 73) dX8_event_73 rfl rfl ?_
            refine s_getI (v := σ13 53 7) (pc := 74) dX8_event_74 fl_X8_166 ly53 rfl (by simp [up]) ?_
            refine s_iload_n 3 (pc := 77) dX8_event_77 rfl rfl ?_
            refine s_iast (pc := 78) dX8_event_78 ly61 hv18 ?_
            refine s_aload_n 0 (pc := 79) dX8_event_79 rfl rfl ?_
            refine s_getR (q := 62) (pc := 80) dX8_event_80 fl_X8_34 ly53 rfl ?_
            refine s_aload_n 0 (pc := 83) dX8_event_83 rfl rfl ?_
            refine s_getI (v := σ13 53 7) (pc := 84) dX8_event_84 fl_X8_166 ly53 rfl (by simp [up]) ?_
            refine s_iload 4 (pc := 87) dX8_event_87 rfl ?_
            refine s_iast (pc := 89) dX8_event_89 ly62 hv18 ?_
            refine s_aload_n 0 (pc := 90) dX8_event_90 rfl rfl ?_
            refine s_dup (pc := 91) dX8_event_91 rfl ?_
            refine s_getI (v := σ13 53 7) (pc := 92) dX8_event_92 fl_X8_166 ly53 rfl (by simp [up]) ?_
            refine s_iconst (v := 1) (pc := 95) dX8_event_95 rfl ?_
            refine s_iadd (pc := 96) dX8_event_96 ?_
            refine s_put (ty := .int) (pc := 97) dX8_event_97 fp_X8_166 ly53 rfl rfl rfl ?_
            refine s_aload_n 0 (pc := 100) dX8_event_100 rfl rfl ?_
            refine s_getI (v := (σ13 53 7) + 1) (pc := 101) dX8_event_101 fl_X8_166 ly53 rfl (by simp [up]) ?_
            exact s_ret (r := some (.int ((σ13 53 7) + 1))) ⟨dX8_event_104, fun ty e => by cases e; rfl⟩ rfl h
          · replace h := h.2 q17
            refine s_bipush (v := (-4)) (pc := 46) dX8_event_46 rfl ?_
            exact s_ret (r := some (.int (-4))) ⟨dX8_event_48, fun ty e => by cases e; rfl⟩ rfl h
        · replace h := h.2 q16
          refine s_bipush (v := (-2)) (pc := 34) dX8_event_34 rfl ?_
          exact s_ret (r := some (.int (-2))) ⟨dX8_event_36, fun ty e => by cases e; rfl⟩ rfl h
set_option maxRecDepth 10000 in
set_option maxHeartbeats 4000000 in
theorem tX8_back_0 {E : Ev}  {σ : Hp} {Φ : Option Value → Hp → Prop}  (h : ((¬ (σ 53 7) = 0 → Φ (some (.int ((σ 53 7) - 1))) (up σ 53 7 ((σ 53 7) - 1))) ∧ ((σ 53 7) = 0 → Φ (some (.int (-3))) σ))) : Ru E mX8_back 0 [(0, .ref 53)] [] σ Φ := by
  refine s_aload_n 0 (pc := 0) dX8_back_0 rfl rfl ?_
  refine s_getI (v := σ 53 7) (pc := 1) dX8_back_1 fl_X8_166 ly53 rfl rfl ?_
  refine s_if_ne (pc := 4) (tgt := 10) dX8_back_4 rfl (fun q1 => ?_) (fun q1 => ?_)
  · replace h := h.1 q1
    refine s_aload_n 0 (pc := 10) dX8_back_10 rfl rfl ?_
    refine s_dup (pc := 11) dX8_back_11 rfl ?_
    refine s_getI (v := σ 53 7) (pc := 12) dX8_back_12 fl_X8_166 ly53 rfl rfl ?_
    refine s_iconst (v := 1) (pc := 15) dX8_back_15 rfl ?_
    refine s_isub (pc := 16) dX8_back_16 ?_
    refine s_put (ty := .int) (pc := 17) dX8_back_17 fp_X8_166 ly53 rfl rfl rfl ?_
    refine s_aload_n 0 (pc := 20) dX8_back_20 rfl rfl ?_
    refine s_getI (v := (σ 53 7) - 1) (pc := 21) dX8_back_21 fl_X8_166 ly53 rfl (by simp [up]) ?_
    exact s_ret (r := some (.int ((σ 53 7) - 1))) ⟨dX8_back_24, fun ty e => by cases e; rfl⟩ rfl h
  · replace h := h.2 q1
    refine s_bipush (v := (-3)) (pc := 7) dX8_back_7 rfl ?_
    exact s_ret (r := some (.int (-3))) ⟨dX8_back_9, fun ty e => by cases e; rfl⟩ rfl h
set_option maxRecDepth 10000 in
set_option maxHeartbeats 4000000 in
theorem tX8_read_0 {E : Ev} {x1 : Int32} {σ : Hp} {Φ : Option Value → Hp → Prop}  (h : ∃ (r3 : Int32) (σ1 : Hp), Call E mX8_isSheet [.int x1] σ (some (.int r3)) σ1 ∧ ((¬ r3 = 0 → vp_in x1 4 ∧ ((¬ (σ1 86 ((x1).toNatClampNeg)) = 0 → Ru E mX8_read 32 [(0, .ref 53), (1, .int x1), (2, .int 0), (3, .int (60 * x1))] [] σ1 Φ) ∧ ((σ1 86 ((x1).toNatClampNeg)) = 0 → ∃ (r9 : Int32) (σ7 : Hp), Call E mX8_marks [.ref 53, .int 1] σ1 (some (.int r9)) σ7 ∧ Φ (some (.int r9)) σ7))) ∧ (r3 = 0 → Φ (some (.int (-2))) σ1))) : Ru E mX8_read 0 [(0, .ref 53), (1, .int x1)] [] σ Φ := by
  refine s_iload_n 1 (pc := 0) dX8_read_0 rfl rfl ?_
  obtain ⟨r3, σ1, hk2, h⟩ := h
  refine s_callS (S := []) [.int x1] (pc := 1) dX8_read_1 ms_X8_isSheet ml_X8_169 ⟨Nat.le_of_ble_eq_true rfl, Nat.le_of_ble_eq_true rfl⟩ rfl rfl (Nat.le_of_ble_eq_true rfl) hk2 ?_
  refine s_if_ne (pc := 4) (tgt := 10) dX8_read_4 rfl (fun q4 => ?_) (fun q4 => ?_)
  · replace h := h.1 q4
    refine s_aload_n 0 (pc := 10) dX8_read_10 rfl rfl ?_
    refine s_getR (q := 86) (pc := 11) dX8_read_11 fl_X8_106 ly53 rfl ?_
    refine s_iload_n 1 (pc := 14) dX8_read_14 rfl rfl ?_
    have hv5 := h.1
    replace h := h.2
    refine s_zald (pc := 15) dX8_read_15 ly86 hv5 ?_
    refine s_if_ne (pc := 16) (tgt := 25) dX8_read_16 rfl (fun q6 => ?_) (fun q6 => ?_)
    · replace h := h.1 q6
      refine s_iconst (v := 0) (pc := 25) dX8_read_25 rfl ?_
      refine s_istore_n (L' := [(2, .int 0), (0, .ref 53), (1, .int x1)]) (pc := 26) dX8_read_26 rfl (Nat.le_of_ble_eq_true rfl) rfl ?_
      refine s_bipush (v := 60) (pc := 27) dX8_read_27 rfl ?_
      refine s_iload_n 2 (pc := 29) dX8_read_29 rfl rfl ?_
      refine s_imul (pc := 30) dX8_read_30 ?_
      refine s_istore_n (L' := [(3, .int (60 * x1)), (2, .int 0), (0, .ref 53), (1, .int x1)]) (pc := 31) dX8_read_31 rfl (Nat.le_of_ble_eq_true rfl) rfl ?_
      exact s_sub (L' := [(0, .ref 53), (1, .int x1), (2, .int 0), (3, .int (60 * x1))]) [2, 3, 1, 0] rfl h
    · replace h := h.2 q6
      refine s_aload_n 0 (pc := 19) dX8_read_19 rfl rfl ?_
      refine s_iconst (v := 1) (pc := 20) dX8_read_20 rfl ?_
      obtain ⟨r9, σ7, hk8, h⟩ := h
      refine s_callV (S := []) [.int 1] (pc := 21) dX8_read_21 mv_X8_marks ml_X8_172 ⟨Nat.le_of_ble_eq_true rfl, Nat.le_of_ble_eq_true rfl⟩ rfl rfl ly53 rfl rfl (Nat.le_of_ble_eq_true rfl) hk8 ?_
      exact s_ret (r := some (.int r9)) ⟨dX8_read_24, fun ty e => by cases e; rfl⟩ rfl h
  · replace h := h.2 q4
    refine s_bipush (v := (-2)) (pc := 7) dX8_read_7 rfl ?_
    exact s_ret (r := some (.int (-2))) ⟨dX8_read_9, fun ty e => by cases e; rfl⟩ rfl h
set_option maxRecDepth 10000 in
set_option maxHeartbeats 4000000 in
theorem tX8_read_32 {E : Ev} {x1 : Int32} {x2 : Int32} {x3 : Int32} {σ : Hp} {Φ : Option Value → Hp → Prop}  (h : vp_in x1 4 ∧ (((σ 88 ((x1).toNatClampNeg)) ≤ ((4 * x2) + 3) → Φ (some (.int x2)) σ) ∧ (¬ (σ 88 ((x1).toNatClampNeg)) ≤ ((4 * x2) + 3) → vp_in (x3 + (4 * x2)) 240 ∧ vp_in ((x3 + (4 * x2)) + 1) 240 ∧ vp_in ((x3 + (4 * x2)) + 2) 240 ∧ vp_in ((x3 + (4 * x2)) + 3) 240 ∧ ∃ (r9 : Int32) (σ7 : Hp), Call E mX8_event [.ref 53, .int (σ 89 ((x3 + (4 * x2)).toNatClampNeg)), .int (σ 89 (((x3 + (4 * x2)) + 1).toNatClampNeg)), .int (σ 89 (((x3 + (4 * x2)) + 2).toNatClampNeg)), .int (σ 89 (((x3 + (4 * x2)) + 3).toNatClampNeg))] σ (some (.int r9)) σ7 ∧ ((r9 ≤ 0 → Φ (some (.int x2)) σ7) ∧ (¬ r9 ≤ 0 → Ru E mX8_read 32 [(0, .ref 53), (1, .int x1), (2, .int (x2 + 1)), (3, .int x3)] [] σ7 Φ))))) : Ru E mX8_read 32 [(0, .ref 53), (1, .int x1), (2, .int x2), (3, .int x3)] [] σ Φ := by
  refine s_iconst (v := 4) (pc := 32) dX8_read_32 rfl ?_
  refine s_iload_n 2 (pc := 33) dX8_read_33 rfl rfl ?_
  refine s_imul (pc := 34) dX8_read_34 ?_
  refine s_iconst (v := 3) (pc := 35) dX8_read_35 rfl ?_
  refine s_iadd (pc := 36) dX8_read_36 ?_
  refine s_aload_n 0 (pc := 37) dX8_read_37 rfl rfl ?_
  refine s_getR (q := 88) (pc := 38) dX8_read_38 fl_X8_113 ly53 rfl ?_
  refine s_iload_n 1 (pc := 41) dX8_read_41 rfl rfl ?_
  have hv1 := h.1
  replace h := h.2
  refine s_iald (pc := 42) dX8_read_42 ly88 hv1 ?_
  refine s_icmp_ge (pc := 43) (tgt := 105) dX8_read_43 rfl (fun q2 => ?_) (fun q2 => ?_)
  · replace h := h.1 q2
    refine s_iload_n 2 (pc := 105) dX8_read_105 rfl rfl ?_
    exact s_ret (r := some (.int x2)) ⟨dX8_read_106, fun ty e => by cases e; rfl⟩ rfl h
  · replace h := h.2 q2
    refine s_aload_n 0 (pc := 46) dX8_read_46 rfl rfl ?_
    refine s_aload_n 0 (pc := 47) dX8_read_47 rfl rfl ?_
    refine s_getR (q := 89) (pc := 48) dX8_read_48 fl_X8_116 ly53 rfl ?_
    refine s_iload_n 3 (pc := 51) dX8_read_51 rfl rfl ?_
    refine s_iconst (v := 4) (pc := 52) dX8_read_52 rfl ?_
    refine s_iload_n 2 (pc := 53) dX8_read_53 rfl rfl ?_
    refine s_imul (pc := 54) dX8_read_54 ?_
    refine s_iadd (pc := 55) dX8_read_55 ?_
    have hv3 := h.1
    replace h := h.2
    refine s_iald (pc := 56) dX8_read_56 ly89 hv3 ?_
    refine s_aload_n 0 (pc := 57) dX8_read_57 rfl rfl ?_
    refine s_getR (q := 89) (pc := 58) dX8_read_58 fl_X8_116 ly53 rfl ?_
    refine s_iload_n 3 (pc := 61) dX8_read_61 rfl rfl ?_
    refine s_iconst (v := 4) (pc := 62) dX8_read_62 rfl ?_
    refine s_iload_n 2 (pc := 63) dX8_read_63 rfl rfl ?_
    refine s_imul (pc := 64) dX8_read_64 ?_
    refine s_iadd (pc := 65) dX8_read_65 ?_
    refine s_iconst (v := 1) (pc := 66) dX8_read_66 rfl ?_
    refine s_iadd (pc := 67) dX8_read_67 ?_
    have hv4 := h.1
    replace h := h.2
    refine s_iald (pc := 68) dX8_read_68 ly89 hv4 ?_
    refine s_aload_n 0 (pc := 69) dX8_read_69 rfl rfl ?_
    refine s_getR (q := 89) (pc := 70) dX8_read_70 fl_X8_116 ly53 rfl ?_
    refine s_iload_n 3 (pc := 73) dX8_read_73 rfl rfl ?_
    refine s_iconst (v := 4) (pc := 74) dX8_read_74 rfl ?_
    refine s_iload_n 2 (pc := 75) dX8_read_75 rfl rfl ?_
    refine s_imul (pc := 76) dX8_read_76 ?_
    refine s_iadd (pc := 77) dX8_read_77 ?_
    refine s_iconst (v := 2) (pc := 78) dX8_read_78 rfl ?_
    refine s_iadd (pc := 79) dX8_read_79 ?_
    have hv5 := h.1
    replace h := h.2
    refine s_iald (pc := 80) dX8_read_80 ly89 hv5 ?_
    refine s_aload_n 0 (pc := 81) dX8_read_81 rfl rfl ?_
    refine s_getR (q := 89) (pc := 82) dX8_read_82 fl_X8_116 ly53 rfl ?_
    refine s_iload_n 3 (pc := 85) dX8_read_85 rfl rfl ?_
    refine s_iconst (v := 4) (pc := 86) dX8_read_86 rfl ?_
    refine s_iload_n 2 (pc := 87) dX8_read_87 rfl rfl ?_
    refine s_imul (pc := 88) dX8_read_88 ?_
    refine s_iadd (pc := 89) dX8_read_89 ?_
    refine s_iconst (v := 3) (pc := 90) dX8_read_90 rfl ?_
    refine s_iadd (pc := 91) dX8_read_91 ?_
    have hv6 := h.1
    replace h := h.2
    refine s_iald (pc := 92) dX8_read_92 ly89 hv6 ?_
    obtain ⟨r9, σ7, hk8, h⟩ := h
    refine s_callV (S := []) [.int (σ 89 ((x3 + (4 * x2)).toNatClampNeg)), .int (σ 89 (((x3 + (4 * x2)) + 1).toNatClampNeg)), .int (σ 89 (((x3 + (4 * x2)) + 2).toNatClampNeg)), .int (σ 89 (((x3 + (4 * x2)) + 3).toNatClampNeg))] (pc := 93) dX8_read_93 mv_X8_event ml_X8_175 ⟨Nat.le_of_ble_eq_true rfl, Nat.le_of_ble_eq_true rfl⟩ rfl rfl ly53 rfl rfl (Nat.le_of_ble_eq_true rfl) hk8 ?_
    refine s_if_le (pc := 96) (tgt := 105) dX8_read_96 rfl (fun q10 => ?_) (fun q10 => ?_)
    · replace h := h.1 q10
      refine s_iload_n 2 (pc := 105) dX8_read_105 rfl rfl ?_
      exact s_ret (r := some (.int x2)) ⟨dX8_read_106, fun ty e => by cases e; rfl⟩ rfl h
    · replace h := h.2 q10
      refine s_iinc (v := x2 + 1) (L' := [(2, .int (x2 + 1)), (0, .ref 53), (1, .int x1), (3, .int x3)]) 2 (pc := 99) dX8_read_99 rfl rfl (Nat.le_of_ble_eq_true rfl) rfl ?_
      refine s_goto (pc := 102) (tgt := 32) dX8_read_102 rfl ?_
      exact s_sub (L' := [(0, .ref 53), (1, .int x1), (2, .int (x2 + 1)), (3, .int x3)]) [1, 2, 0, 3] rfl h
set_option maxRecDepth 10000 in
set_option maxHeartbeats 4000000 in
theorem tX8_asTold_0 {E : Ev}  {σ : Hp} {Φ : Option Value → Hp → Prop}  (h : ∃ σ1 : Hp, Call E mX8_reads [.ref 53] σ none σ1 ∧ Ru E mX8_asTold 14 [(0, .ref 53), (1, .int 0)] [] (up σ1 53 12 (σ1 53 7)) Φ) : Ru E mX8_asTold 0 [(0, .ref 53)] [] σ Φ := by
  refine s_aload_n 0 (pc := 0) dX8_asTold_0 rfl rfl ?_
  obtain ⟨σ1, hk2, h⟩ := h
  refine s_callV (S := []) [] (pc := 1) dX8_asTold_1 mv_X8_reads ml_X8_150 ⟨Nat.le_of_ble_eq_true rfl, Nat.le_of_ble_eq_true rfl⟩ rfl rfl ly53 rfl rfl (Nat.le_of_ble_eq_true rfl) hk2 ?_
  refine s_aload_n 0 (pc := 4) dX8_asTold_4 rfl rfl ?_
  refine s_aload_n 0 (pc := 5) dX8_asTold_5 rfl rfl ?_
  refine s_getI (v := σ1 53 7) (pc := 6) dX8_asTold_6 fl_X8_166 ly53 rfl rfl ?_
  refine s_put (ty := .int) (pc := 9) dX8_asTold_9 fp_X8_179 ly53 rfl rfl rfl ?_
  refine s_iconst (v := 0) (pc := 12) dX8_asTold_12 rfl ?_
  refine s_istore_n (L' := [(1, .int 0), (0, .ref 53)]) (pc := 13) dX8_asTold_13 rfl (Nat.le_of_ble_eq_true rfl) rfl ?_
  exact s_sub (L' := [(0, .ref 53), (1, .int 0)]) [1, 0] rfl h
set_option maxRecDepth 10000 in
set_option maxHeartbeats 4000000 in
theorem tX8_asTold_14 {E : Ev} {x1 : Int32} {σ : Hp} {Φ : Option Value → Hp → Prop}  (h : (((σ 53 7) ≤ x1 → Φ none (up σ 53 17 0)) ∧ (¬ (σ 53 7) ≤ x1 → vp_in x1 8 ∧ Ru E mX8_asTold 14 [(0, .ref 53), (1, .int (x1 + 1))] [] (up (up (up (up σ 63 ((x1).toNatClampNeg) (σ 59 ((x1).toNatClampNeg))) 64 ((x1).toNatClampNeg) (σ 60 ((x1).toNatClampNeg))) 65 ((x1).toNatClampNeg) (σ 61 ((x1).toNatClampNeg))) 66 ((x1).toNatClampNeg) (σ 62 ((x1).toNatClampNeg))) Φ))) : Ru E mX8_asTold 14 [(0, .ref 53), (1, .int x1)] [] σ Φ := by
  refine s_iload_n 1 (pc := 14) dX8_asTold_14 rfl rfl ?_
  refine s_aload_n 0 (pc := 15) dX8_asTold_15 rfl rfl ?_
  refine s_getI (v := σ 53 7) (pc := 16) dX8_asTold_16 fl_X8_166 ly53 rfl rfl ?_
  refine s_icmp_ge (pc := 19) (tgt := 76) dX8_asTold_19 rfl (fun q1 => ?_) (fun q1 => ?_)
  · replace h := h.1 q1
    refine s_aload_n 0 (pc := 76) dX8_asTold_76 rfl rfl ?_
    refine s_iconst (v := 0) (pc := 77) dX8_asTold_77 rfl ?_
    refine s_put (ty := .int) (pc := 78) dX8_asTold_78 fp_X8_182 ly53 rfl rfl rfl ?_
    exact s_ret (r := none) dX8_asTold_81 rfl h
  · replace h := h.2 q1
    refine s_aload_n 0 (pc := 22) dX8_asTold_22 rfl rfl ?_
    refine s_getR (q := 63) (pc := 23) dX8_asTold_23 fl_X8_37 ly53 rfl ?_
    refine s_iload_n 1 (pc := 26) dX8_asTold_26 rfl rfl ?_
    refine s_aload_n 0 (pc := 27) dX8_asTold_27 rfl rfl ?_
    refine s_getR (q := 59) (pc := 28) dX8_asTold_28 fl_X8_25 ly53 rfl ?_
    refine s_iload_n 1 (pc := 31) dX8_asTold_31 rfl rfl ?_
    have hv2 := h.1
    replace h := h.2
    refine s_iald (pc := 32) dX8_asTold_32 ly59 hv2 ?_
    refine s_iast (pc := 33) dX8_asTold_33 ly63 hv2 ?_
    refine s_aload_n 0 (pc := 34) dX8_asTold_34 rfl rfl ?_
    refine s_getR (q := 64) (pc := 35) dX8_asTold_35 fl_X8_40 ly53 rfl ?_
    refine s_iload_n 1 (pc := 38) dX8_asTold_38 rfl rfl ?_
    refine s_aload_n 0 (pc := 39) dX8_asTold_39 rfl rfl ?_
    refine s_getR (q := 60) (pc := 40) dX8_asTold_40 fl_X8_28 ly53 rfl ?_
    refine s_iload_n 1 (pc := 43) dX8_asTold_43 rfl rfl ?_
    refine s_iald (pc := 44) dX8_asTold_44 ly60 hv2 ?_
    rw [show (up σ 63 ((x1).toNatClampNeg) (σ 59 ((x1).toNatClampNeg))) 60 (x1).toNatClampNeg = σ 60 ((x1).toNatClampNeg) from (by simp [up])]
    refine s_iast (pc := 45) dX8_asTold_45 ly64 hv2 ?_
    refine s_aload_n 0 (pc := 46) dX8_asTold_46 rfl rfl ?_
    refine s_getR (q := 65) (pc := 47) dX8_asTold_47 fl_X8_43 ly53 rfl ?_
    refine s_iload_n 1 (pc := 50) dX8_asTold_50 rfl rfl ?_
    refine s_aload_n 0 (pc := 51) dX8_asTold_51 rfl rfl ?_
    refine s_getR (q := 61) (pc := 52) dX8_asTold_52 fl_X8_31 ly53 rfl ?_
    refine s_iload_n 1 (pc := 55) dX8_asTold_55 rfl rfl ?_
    refine s_iald (pc := 56) dX8_asTold_56 ly61 hv2 ?_
    rw [show (up (up σ 63 ((x1).toNatClampNeg) (σ 59 ((x1).toNatClampNeg))) 64 ((x1).toNatClampNeg) (σ 60 ((x1).toNatClampNeg))) 61 (x1).toNatClampNeg = σ 61 ((x1).toNatClampNeg) from (by simp [up])]
    refine s_iast (pc := 57) dX8_asTold_57 ly65 hv2 ?_
    refine s_aload_n 0 (pc := 58) dX8_asTold_58 rfl rfl ?_
    refine s_getR (q := 66) (pc := 59) dX8_asTold_59 fl_X8_46 ly53 rfl ?_
    refine s_iload_n 1 (pc := 62) dX8_asTold_62 rfl rfl ?_
    refine s_aload_n 0 (pc := 63) dX8_asTold_63 rfl rfl ?_
    refine s_getR (q := 62) (pc := 64) dX8_asTold_64 fl_X8_34 ly53 rfl ?_
    refine s_iload_n 1 (pc := 67) dX8_asTold_67 rfl rfl ?_
    refine s_iald (pc := 68) dX8_asTold_68 ly62 hv2 ?_
    rw [show (up (up (up σ 63 ((x1).toNatClampNeg) (σ 59 ((x1).toNatClampNeg))) 64 ((x1).toNatClampNeg) (σ 60 ((x1).toNatClampNeg))) 65 ((x1).toNatClampNeg) (σ 61 ((x1).toNatClampNeg))) 62 (x1).toNatClampNeg = σ 62 ((x1).toNatClampNeg) from (by simp [up])]
    refine s_iast (pc := 69) dX8_asTold_69 ly66 hv2 ?_
    refine s_iinc (v := x1 + 1) (L' := [(1, .int (x1 + 1)), (0, .ref 53)]) 1 (pc := 70) dX8_asTold_70 rfl rfl (Nat.le_of_ble_eq_true rfl) rfl ?_
    refine s_goto (pc := 73) (tgt := 14) dX8_asTold_73 rfl ?_
    exact s_sub (L' := [(0, .ref 53), (1, .int (x1 + 1))]) [1, 0] rfl h
set_option maxRecDepth 10000 in
set_option maxHeartbeats 4000000 in
theorem tX8_legX_0 {E : Ev} {x0 : Int32} {x1 : Int32} {x2 : Int32} {σ : Hp} {Φ : Option Value → Hp → Prop}  (h : ((¬ x2 = 0 → ((¬ x2 = 2 → Φ (some (.int x0)) σ) ∧ (x2 = 2 → Φ (some (.int (x0 - x1))) σ))) ∧ (x2 = 0 → Φ (some (.int (x0 + x1))) σ))) : Ru E mX8_legX 0 [(0, .int x0), (1, .int x1), (2, .int x2)] [] σ Φ := by
  refine s_iload_n 2 (pc := 0) dX8_legX_0 rfl rfl ?_
  refine s_if_ne (pc := 1) (tgt := 10) dX8_legX_1 rfl (fun q1 => ?_) (fun q1 => ?_)
  · replace h := h.1 q1
    refine s_iload_n 2 (pc := 10) dX8_legX_10 rfl rfl ?_
    refine s_iconst (v := 2) (pc := 11) dX8_legX_11 rfl ?_
    refine s_icmp_ne (pc := 12) (tgt := 21) dX8_legX_12 rfl (fun q2 => ?_) (fun q2 => ?_)
    · replace h := h.1 q2
      refine s_iload_n 0 (pc := 21) dX8_legX_21 rfl rfl ?_
      exact s_ret (r := some (.int x0)) ⟨dX8_legX_22, fun ty e => by cases e; rfl⟩ rfl h
    · replace h := h.2 q2
      refine s_iload_n 0 (pc := 15) dX8_legX_15 rfl rfl ?_
      refine s_iload_n 1 (pc := 16) dX8_legX_16 rfl rfl ?_
      refine s_isub (pc := 17) dX8_legX_17 ?_
      refine s_goto (pc := 18) (tgt := 22) dX8_legX_18 rfl ?_
      exact s_ret (r := some (.int (x0 - x1))) ⟨dX8_legX_22, fun ty e => by cases e; rfl⟩ rfl h
  · replace h := h.2 q1
    refine s_iload_n 0 (pc := 4) dX8_legX_4 rfl rfl ?_
    refine s_iload_n 1 (pc := 5) dX8_legX_5 rfl rfl ?_
    refine s_iadd (pc := 6) dX8_legX_6 ?_
    refine s_goto (pc := 7) (tgt := 22) dX8_legX_7 rfl ?_
    exact s_ret (r := some (.int (x0 + x1))) ⟨dX8_legX_22, fun ty e => by cases e; rfl⟩ rfl h
set_option maxRecDepth 10000 in
set_option maxHeartbeats 4000000 in
theorem tX8_legY_0 {E : Ev} {x0 : Int32} {x1 : Int32} {x2 : Int32} {σ : Hp} {Φ : Option Value → Hp → Prop}  (h : ((¬ x2 = 1 → ((¬ x2 = 3 → Φ (some (.int x0)) σ) ∧ (x2 = 3 → Φ (some (.int (x0 - x1))) σ))) ∧ (x2 = 1 → Φ (some (.int (x0 + x1))) σ))) : Ru E mX8_legY 0 [(0, .int x0), (1, .int x1), (2, .int x2)] [] σ Φ := by
  refine s_iload_n 2 (pc := 0) dX8_legY_0 rfl rfl ?_
  refine s_iconst (v := 1) (pc := 1) dX8_legY_1 rfl ?_
  refine s_icmp_ne (pc := 2) (tgt := 11) dX8_legY_2 rfl (fun q1 => ?_) (fun q1 => ?_)
  · replace h := h.1 q1
    refine s_iload_n 2 (pc := 11) dX8_legY_11 rfl rfl ?_
    refine s_iconst (v := 3) (pc := 12) dX8_legY_12 rfl ?_
    refine s_icmp_ne (pc := 13) (tgt := 22) dX8_legY_13 rfl (fun q2 => ?_) (fun q2 => ?_)
    · replace h := h.1 q2
      refine s_iload_n 0 (pc := 22) dX8_legY_22 rfl rfl ?_
      exact s_ret (r := some (.int x0)) ⟨dX8_legY_23, fun ty e => by cases e; rfl⟩ rfl h
    · replace h := h.2 q2
      refine s_iload_n 0 (pc := 16) dX8_legY_16 rfl rfl ?_
      refine s_iload_n 1 (pc := 17) dX8_legY_17 rfl rfl ?_
      refine s_isub (pc := 18) dX8_legY_18 ?_
      refine s_goto (pc := 19) (tgt := 23) dX8_legY_19 rfl ?_
      exact s_ret (r := some (.int (x0 - x1))) ⟨dX8_legY_23, fun ty e => by cases e; rfl⟩ rfl h
  · replace h := h.2 q1
    refine s_iload_n 0 (pc := 5) dX8_legY_5 rfl rfl ?_
    refine s_iload_n 1 (pc := 6) dX8_legY_6 rfl rfl ?_
    refine s_iadd (pc := 7) dX8_legY_7 ?_
    refine s_goto (pc := 8) (tgt := 23) dX8_legY_8 rfl ?_
    exact s_ret (r := some (.int (x0 + x1))) ⟨dX8_legY_23, fun ty e => by cases e; rfl⟩ rfl h
set_option maxRecDepth 10000 in
set_option maxHeartbeats 4000000 in
theorem tX8_changesOver_0 {E : Ev} {x1 : Int32} {σ : Hp} {Φ : Option Value → Hp → Prop}  (h : vp_in x1 8 ∧ ∃ (r6 : Int32) (σ4 : Hp), Call E mX8_legX [.int (σ 67 ((x1).toNatClampNeg)), .int (σ 69 ((x1).toNatClampNeg)), .int (σ 70 ((x1).toNatClampNeg))] σ (some (.int r6)) σ4 ∧ ∃ (r12 : Int32) (σ10 : Hp), Call E mX8_legY [.int (σ4 68 ((x1).toNatClampNeg)), .int (σ4 69 ((x1).toNatClampNeg)), .int (σ4 70 ((x1).toNatClampNeg))] σ4 (some (.int r12)) σ10 ∧ ∃ (r21 : Int32) (σ19 : Hp), Call E mX8_in [.int (σ10 71 ((x1).toNatClampNeg)), .int 1, .int 3] (up (up (up σ10 67 ((x1).toNatClampNeg) r6) 68 ((x1).toNatClampNeg) r12) 70 ((x1).toNatClampNeg) (((σ10 70 ((x1).toNatClampNeg)) + 2) - ((σ10 70 ((x1).toNatClampNeg)) + 2) / 4 * 4)) (some (.int r21)) σ19 ∧ ((r21 = 0 → Φ none (up (up σ19 72 ((x1).toNatClampNeg) ((σ10 72 ((x1).toNatClampNeg)) + 0)) 71 ((x1).toNatClampNeg) 0)) ∧ (¬ r21 = 0 → Φ none (up (up σ19 72 ((x1).toNatClampNeg) ((σ10 72 ((x1).toNatClampNeg)) + 1)) 71 ((x1).toNatClampNeg) 0)))) : Ru E mX8_changesOver 0 [(0, .ref 53), (1, .int x1)] [] σ Φ := by
  refine s_aload_n 0 (pc := 0) dX8_changesOver_0 rfl rfl ?_
  refine s_getR (q := 67) (pc := 1) dX8_changesOver_1 fl_X8_49 ly53 rfl ?_
  refine s_iload_n 1 (pc := 4) dX8_changesOver_4 rfl rfl ?_
  have hv1 := h.1
  replace h := h.2
  refine s_iald (pc := 5) dX8_changesOver_5 ly67 hv1 ?_
  refine s_aload_n 0 (pc := 6) dX8_changesOver_6 rfl rfl ?_
  refine s_getR (q := 69) (pc := 7) dX8_changesOver_7 fl_X8_55 ly53 rfl ?_
  refine s_iload_n 1 (pc := 10) dX8_changesOver_10 rfl rfl ?_
  refine s_iald (pc := 11) dX8_changesOver_11 ly69 hv1 ?_
  refine s_aload_n 0 (pc := 12) dX8_changesOver_12 rfl rfl ?_
  refine s_getR (q := 70) (pc := 13) dX8_changesOver_13 fl_X8_58 ly53 rfl ?_
  refine s_iload_n 1 (pc := 16) dX8_changesOver_16 rfl rfl ?_
  refine s_iald (pc := 17) dX8_changesOver_17 ly70 hv1 ?_
  obtain ⟨r6, σ4, hk5, h⟩ := h
  refine s_callS (S := []) [.int (σ 67 ((x1).toNatClampNeg)), .int (σ 69 ((x1).toNatClampNeg)), .int (σ 70 ((x1).toNatClampNeg))] (pc := 18) dX8_changesOver_18 ms_X8_legX ml_X8_185 ⟨Nat.le_of_ble_eq_true rfl, Nat.le_of_ble_eq_true rfl⟩ rfl rfl (Nat.le_of_ble_eq_true rfl) hk5 ?_
  refine s_istore_n (L' := [(2, .int r6), (0, .ref 53), (1, .int x1)]) (pc := 21) dX8_changesOver_21 rfl (Nat.le_of_ble_eq_true rfl) rfl ?_
  refine s_aload_n 1 (pc := 22) dX8_changesOver_22 rfl rfl ?_
  refine s_getR (q := 68) (pc := 23) dX8_changesOver_23 fl_X8_52 ly53 rfl ?_
  refine s_iload_n 2 (pc := 26) dX8_changesOver_26 rfl rfl ?_
  refine s_iald (pc := 27) dX8_changesOver_27 ly68 hv1 ?_
  refine s_aload_n 1 (pc := 28) dX8_changesOver_28 rfl rfl ?_
  refine s_getR (q := 69) (pc := 29) dX8_changesOver_29 fl_X8_55 ly53 rfl ?_
  refine s_iload_n 2 (pc := 32) dX8_changesOver_32 rfl rfl ?_
  refine s_iald (pc := 33) dX8_changesOver_33 ly69 hv1 ?_
  refine s_aload_n 1 (pc := 34) dX8_changesOver_34 rfl rfl ?_
  refine s_getR (q := 70) (pc := 35) dX8_changesOver_35 fl_X8_58 ly53 rfl ?_
  refine s_iload_n 2 (pc := 38) dX8_changesOver_38 rfl rfl ?_
  refine s_iald (pc := 39) dX8_changesOver_39 ly70 hv1 ?_
  obtain ⟨r12, σ10, hk11, h⟩ := h
  refine s_callS (S := []) [.int (σ4 68 ((x1).toNatClampNeg)), .int (σ4 69 ((x1).toNatClampNeg)), .int (σ4 70 ((x1).toNatClampNeg))] (pc := 40) dX8_changesOver_40 ms_X8_legY ml_X8_189 ⟨Nat.le_of_ble_eq_true rfl, Nat.le_of_ble_eq_true rfl⟩ rfl rfl (Nat.le_of_ble_eq_true rfl) hk11 ?_
  refine s_istore_n (L' := [(3, .int r12), (2, .int r6), (0, .ref 53), (1, .int x1)]) (pc := 43) dX8_changesOver_43 rfl (Nat.le_of_ble_eq_true rfl) rfl ?_
  refine s_aload_n 2 (pc := 44) dX8_changesOver_44 rfl rfl ?_
  refine s_getR (q := 67) (pc := 45) dX8_changesOver_45 fl_X8_49 ly53 rfl ?_
  refine s_iload_n 3 (pc := 48) dX8_changesOver_48 rfl rfl ?_
  refine s_iload_n 1 (pc := 49) dX8_changesOver_49 rfl rfl ?_
  refine s_iast (pc := 50) dX8_changesOver_50 ly67 hv1 ?_
  refine s_aload_n 2 (pc := 51) dX8_changesOver_51 rfl rfl ?_
  refine s_getR (q := 68) (pc := 52) dX8_changesOver_52 fl_X8_52 ly53 rfl ?_
  refine s_iload_n 3 (pc := 55) dX8_changesOver_55 rfl rfl ?_
  refine s_iload_n 0 (pc := 56) dX8_changesOver_56 rfl rfl ?_
  refine s_iast (pc := 57) dX8_changesOver_57 ly68 hv1 ?_
  refine s_aload_n 2 (pc := 58) dX8_changesOver_58 rfl rfl ?_
  refine s_getR (q := 70) (pc := 59) dX8_changesOver_59 fl_X8_58 ly53 rfl ?_
  refine s_iload_n 3 (pc := 62) dX8_changesOver_62 rfl rfl ?_
  refine s_aload_n 2 (pc := 63) dX8_changesOver_63 rfl rfl ?_
  refine s_getR (q := 70) (pc := 64) dX8_changesOver_64 fl_X8_58 ly53 rfl ?_
  refine s_iload_n 3 (pc := 67) dX8_changesOver_67 rfl rfl ?_
  refine s_iald (pc := 68) dX8_changesOver_68 ly70 hv1 ?_
  rw [show (up (up σ10 67 ((x1).toNatClampNeg) r6) 68 ((x1).toNatClampNeg) r12) 70 (x1).toNatClampNeg = σ10 70 ((x1).toNatClampNeg) from (by simp [up])]
  refine s_iconst (v := 2) (pc := 69) dX8_changesOver_69 rfl ?_
  refine s_iadd (pc := 70) dX8_changesOver_70 ?_
  refine s_iconst (v := 4) (pc := 71) dX8_changesOver_71 rfl ?_
  refine s_irem (pc := 72) dX8_changesOver_72 (by decide) ?_
  refine s_iast (pc := 73) dX8_changesOver_73 ly70 hv1 ?_
  refine s_aload_n 2 (pc := 74) dX8_changesOver_74 rfl rfl ?_
  refine s_getR (q := 72) (pc := 75) dX8_changesOver_75 fl_X8_64 ly53 rfl ?_
  refine s_iload_n 3 (pc := 78) dX8_changesOver_78 rfl rfl ?_
  refine s_dup2 (pc := 79) dX8_changesOver_79 rfl rfl ?_
  refine s_iald (pc := 80) dX8_changesOver_80 ly72 hv1 ?_
  rw [show (up (up (up σ10 67 ((x1).toNatClampNeg) r6) 68 ((x1).toNatClampNeg) r12) 70 ((x1).toNatClampNeg) (((σ10 70 ((x1).toNatClampNeg)) + 2) - ((σ10 70 ((x1).toNatClampNeg)) + 2) / 4 * 4)) 72 (x1).toNatClampNeg = σ10 72 ((x1).toNatClampNeg) from (by simp [up])]
  refine s_aload_n 2 (pc := 81) dX8_changesOver_81 rfl rfl ?_
  refine s_getR (q := 71) (pc := 82) dX8_changesOver_82 fl_X8_61 ly53 rfl ?_
  refine s_iload_n 3 (pc := 85) dX8_changesOver_85 rfl rfl ?_
  refine s_iald (pc := 86) dX8_changesOver_86 ly71 hv1 ?_
  rw [show (up (up (up σ10 67 ((x1).toNatClampNeg) r6) 68 ((x1).toNatClampNeg) r12) 70 ((x1).toNatClampNeg) (((σ10 70 ((x1).toNatClampNeg)) + 2) - ((σ10 70 ((x1).toNatClampNeg)) + 2) / 4 * 4)) 71 (x1).toNatClampNeg = σ10 71 ((x1).toNatClampNeg) from (by simp [up])]
  refine s_iconst (v := 1) (pc := 87) dX8_changesOver_87 rfl ?_
  refine s_iconst (v := 3) (pc := 88) dX8_changesOver_88 rfl ?_
  obtain ⟨r21, σ19, hk20, h⟩ := h
  refine s_callS (S := [.int (σ10 72 ((x1).toNatClampNeg)), .int x1, .ref 72]) [.int (σ10 71 ((x1).toNatClampNeg)), .int 1, .int 3] (pc := 89) dX8_changesOver_89 ms_X8_in ml_X8_124 ⟨Nat.le_of_ble_eq_true rfl, Nat.le_of_ble_eq_true rfl⟩ rfl rfl (Nat.le_of_ble_eq_true rfl) hk20 ?_
  refine s_if_eq (pc := 92) (tgt := 99) dX8_changesOver_92 rfl (fun q22 => ?_) (fun q22 => ?_)
  · replace h := h.1 q22
    refine s_iconst (v := 0) (pc := 99) dX8_changesOver_99 rfl ?_
    refine s_iadd (pc := 100) dX8_changesOver_100 ?_
    refine s_iast (pc := 101) dX8_changesOver_101 ly72 hv1 ?_
    refine s_aload_n 2 (pc := 102) dX8_changesOver_102 rfl rfl ?_
    refine s_getR (q := 71) (pc := 103) dX8_changesOver_103 fl_X8_61 ly53 rfl ?_
    refine s_iload_n 3 (pc := 106) dX8_changesOver_106 rfl rfl ?_
    refine s_iconst (v := 0) (pc := 107) dX8_changesOver_107 rfl ?_
    refine s_iast (pc := 108) dX8_changesOver_108 ly71 hv1 ?_
    exact s_ret (r := none) dX8_changesOver_109 rfl h
  · replace h := h.2 q22
    refine s_iconst (v := 1) (pc := 95) dX8_changesOver_95 rfl ?_
    refine s_goto (pc := 96) (tgt := 100) dX8_changesOver_96 rfl ?_
    refine s_iadd (pc := 100) dX8_changesOver_100 ?_
    refine s_iast (pc := 101) dX8_changesOver_101 ly72 hv1 ?_
    refine s_aload_n 2 (pc := 102) dX8_changesOver_102 rfl rfl ?_
    refine s_getR (q := 71) (pc := 103) dX8_changesOver_103 fl_X8_61 ly53 rfl ?_
    refine s_iload_n 3 (pc := 106) dX8_changesOver_106 rfl rfl ?_
    refine s_iconst (v := 0) (pc := 107) dX8_changesOver_107 rfl ?_
    refine s_iast (pc := 108) dX8_changesOver_108 ly71 hv1 ?_
    exact s_ret (r := none) dX8_changesOver_109 rfl h
set_option maxRecDepth 10000 in
set_option maxHeartbeats 4000000 in
theorem tX8_befalls_0 {E : Ev} {x1 : Int32} {σ : Hp} {Φ : Option Value → Hp → Prop}  (h : vp_in x1 8 ∧ ((¬ (σ 63 ((x1).toNatClampNeg)) = 0 → Ru E mX8_befalls 35 [(0, .ref 53), (1, .int x1), (2, .int (σ 65 ((x1).toNatClampNeg)))] [] σ Φ) ∧ ((σ 63 ((x1).toNatClampNeg)) = 0 → vp_in (σ 65 ((x1).toNatClampNeg)) 8 ∧ Ru E mX8_befalls 35 [(0, .ref 53), (1, .int x1), (2, .int (σ 65 ((x1).toNatClampNeg)))] [] (up (up σ 69 ((σ 65 ((x1).toNatClampNeg)).toNatClampNeg) (σ 66 ((x1).toNatClampNeg))) 71 ((σ 65 ((x1).toNatClampNeg)).toNatClampNeg) 0) Φ))) : Ru E mX8_befalls 0 [(0, .ref 53), (1, .int x1)] [] σ Φ := by
  refine s_aload_n 0 (pc := 0) dX8_befalls_0 rfl rfl ?_
  refine s_getR (q := 65) (pc := 1) dX8_befalls_1 fl_X8_43 ly53 rfl ?_
  refine s_iload_n 1 (pc := 4) dX8_befalls_4 rfl rfl ?_
  have hv1 := h.1
  replace h := h.2
  refine s_iald (pc := 5) dX8_befalls_5 ly65 hv1 ?_
  refine s_istore_n (L' := [(2, .int (σ 65 ((x1).toNatClampNeg))), (0, .ref 53), (1, .int x1)]) (pc := 6) dX8_befalls_6 rfl (Nat.le_of_ble_eq_true rfl) rfl ?_
  refine s_aload_n 1 (pc := 7) dX8_befalls_7 rfl rfl ?_
  refine s_getR (q := 63) (pc := 8) dX8_befalls_8 fl_X8_37 ly53 rfl ?_
  refine s_iload_n 2 (pc := 11) dX8_befalls_11 rfl rfl ?_
  refine s_iald (pc := 12) dX8_befalls_12 ly63 hv1 ?_
  refine s_if_ne (pc := 13) (tgt := 35) dX8_befalls_13 rfl (fun q3 => ?_) (fun q3 => ?_)
  · replace h := h.1 q3
    exact s_sub (L' := [(0, .ref 53), (1, .int x1), (2, .int (σ 65 ((x1).toNatClampNeg)))]) [1, 2, 0] rfl h
  · replace h := h.2 q3
    refine s_aload_n 1 (pc := 16) dX8_befalls_16 rfl rfl ?_
    refine s_getR (q := 69) (pc := 17) dX8_befalls_17 fl_X8_55 ly53 rfl ?_
    refine s_iload_n 0 (pc := 20) dX8_befalls_20 rfl rfl ?_
    refine s_aload_n 1 (pc := 21) dX8_befalls_21 rfl rfl ?_
    refine s_getR (q := 66) (pc := 22) dX8_befalls_22 fl_X8_46 ly53 rfl ?_
    refine s_iload_n 2 (pc := 25) dX8_befalls_25 rfl rfl ?_
    refine s_iald (pc := 26) dX8_befalls_26 ly66 hv1 ?_
    have hv5 := h.1
    replace h := h.2
    refine s_iast (pc := 27) dX8_befalls_27 ly69 hv5 ?_
    refine s_aload_n 1 (pc := 28) dX8_befalls_28 rfl rfl ?_
    refine s_getR (q := 71) (pc := 29) dX8_befalls_29 fl_X8_61 ly53 rfl ?_
    refine s_iload_n 0 (pc := 32) dX8_befalls_32 rfl rfl ?_
    refine s_iconst (v := 0) (pc := 33) dX8_befalls_33 rfl ?_
    refine s_iast (pc := 34) dX8_befalls_34 ly71 hv5 ?_
    exact s_sub (L' := [(0, .ref 53), (1, .int x1), (2, .int (σ 65 ((x1).toNatClampNeg)))]) [1, 2, 0] rfl h
set_option maxRecDepth 10000 in
set_option maxHeartbeats 4000000 in
theorem tX8_befalls_35 {E : Ev} {x1 : Int32} {x2 : Int32} {σ : Hp} {Φ : Option Value → Hp → Prop}  (h : vp_in x1 8 ∧ ((¬ (σ 63 ((x1).toNatClampNeg)) = 1 → Ru E mX8_befalls 50 [(0, .ref 53), (1, .int x1), (2, .int x2)] [] σ Φ) ∧ ((σ 63 ((x1).toNatClampNeg)) = 1 → ∃ σ3 : Hp, Call E mX8_changesOver [.ref 53, .int x2] σ none σ3 ∧ Ru E mX8_befalls 50 [(0, .ref 53), (1, .int x1), (2, .int x2)] [] σ3 Φ))) : Ru E mX8_befalls 35 [(0, .ref 53), (1, .int x1), (2, .int x2)] [] σ Φ := by
  refine s_aload_n 0 (pc := 35) dX8_befalls_35 rfl rfl ?_
  refine s_getR (q := 63) (pc := 36) dX8_befalls_36 fl_X8_37 ly53 rfl ?_
  refine s_iload_n 1 (pc := 39) dX8_befalls_39 rfl rfl ?_
  have hv1 := h.1
  replace h := h.2
  refine s_iald (pc := 40) dX8_befalls_40 ly63 hv1 ?_
  refine s_iconst (v := 1) (pc := 41) dX8_befalls_41 rfl ?_
  refine s_icmp_ne (pc := 42) (tgt := 50) dX8_befalls_42 rfl (fun q2 => ?_) (fun q2 => ?_)
  · replace h := h.1 q2
    exact s_sub (L' := [(0, .ref 53), (1, .int x1), (2, .int x2)]) [0, 1, 2] rfl h
  · replace h := h.2 q2
    refine s_aload_n 0 (pc := 45) dX8_befalls_45 rfl rfl ?_
    refine s_iload_n 2 (pc := 46) dX8_befalls_46 rfl rfl ?_
    obtain ⟨σ3, hk4, h⟩ := h
    refine s_callV (S := []) [.int x2] (pc := 47) dX8_befalls_47 mv_X8_changesOver ml_X8_192 ⟨Nat.le_of_ble_eq_true rfl, Nat.le_of_ble_eq_true rfl⟩ rfl rfl ly53 rfl rfl (Nat.le_of_ble_eq_true rfl) hk4 ?_
    exact s_sub (L' := [(0, .ref 53), (1, .int x1), (2, .int x2)]) [0, 1, 2] rfl h
set_option maxRecDepth 10000 in
set_option maxHeartbeats 4000000 in
theorem tX8_befalls_50 {E : Ev} {x1 : Int32} {x2 : Int32} {σ : Hp} {Φ : Option Value → Hp → Prop}  (h : vp_in x1 8 ∧ ((¬ (σ 63 ((x1).toNatClampNeg)) = 2 → Φ none (up σ 53 24 ((σ 53 24) ||| 0))) ∧ ((σ 63 ((x1).toNatClampNeg)) = 2 → Φ none (up σ 53 24 ((σ 53 24) ||| (1 <<< (x2 &&& 31))))))) : Ru E mX8_befalls 50 [(0, .ref 53), (1, .int x1), (2, .int x2)] [] σ Φ := by
  refine s_aload_n 0 (pc := 50) dX8_befalls_50 rfl rfl ?_
  refine s_dup (pc := 51) dX8_befalls_51 rfl ?_
  refine s_getI (v := σ 53 24) (pc := 52) dX8_befalls_52 fl_X8_196 ly53 rfl rfl ?_
  refine s_aload_n 0 (pc := 55) dX8_befalls_55 rfl rfl ?_
  refine s_getR (q := 63) (pc := 56) dX8_befalls_56 fl_X8_37 ly53 rfl ?_
  refine s_iload_n 1 (pc := 59) dX8_befalls_59 rfl rfl ?_
  have hv1 := h.1
  replace h := h.2
  refine s_iald (pc := 60) dX8_befalls_60 ly63 hv1 ?_
  refine s_iconst (v := 2) (pc := 61) dX8_befalls_61 rfl ?_
  refine s_icmp_ne (pc := 62) (tgt := 71) dX8_befalls_62 rfl (fun q2 => ?_) (fun q2 => ?_)
  · replace h := h.1 q2
    refine s_iconst (v := 0) (pc := 71) dX8_befalls_71 rfl ?_
    refine s_ior (pc := 72) dX8_befalls_72 ?_
    refine s_put (ty := .int) (pc := 73) dX8_befalls_73 fp_X8_196 ly53 rfl rfl rfl ?_
    exact s_ret (r := none) dX8_befalls_76 rfl h
  · replace h := h.2 q2
    refine s_iconst (v := 1) (pc := 65) dX8_befalls_65 rfl ?_
    refine s_iload_n 2 (pc := 66) dX8_befalls_66 rfl rfl ?_
    refine s_ishl (pc := 67) dX8_befalls_67 ?_
    refine s_goto (pc := 68) (tgt := 72) dX8_befalls_68 rfl ?_
    refine s_ior (pc := 72) dX8_befalls_72 ?_
    refine s_put (ty := .int) (pc := 73) dX8_befalls_73 fp_X8_196 ly53 rfl rfl rfl ?_
    exact s_ret (r := none) dX8_befalls_76 rfl h
set_option maxRecDepth 10000 in
set_option maxHeartbeats 4000000 in
theorem tX8_goesRound_0 {E : Ev} {x1 : Int32} {x2 : Int32} {σ : Hp} {Φ : Option Value → Hp → Prop}  (h : vp_in x1 9 ∧ ((¬ (σ 58 ((x1).toNatClampNeg)) = 2 → ((¬ (σ 58 ((x1).toNatClampNeg)) = 0 → Ru E mX8_goesRound 35 [(0, .ref 53), (1, .int x1), (2, .int x2)] [.int 1] σ Φ) ∧ ((σ 58 ((x1).toNatClampNeg)) = 0 → ((¬ (x2 - x2 / 2 * 2) = 1 → Ru E mX8_goesRound 35 [(0, .ref 53), (1, .int x1), (2, .int x2)] [.int 1] σ Φ) ∧ ((x2 - x2 / 2 * 2) = 1 → Ru E mX8_goesRound 35 [(0, .ref 53), (1, .int x1), (2, .int x2)] [.int 0] σ Φ))))) ∧ ((σ 58 ((x1).toNatClampNeg)) = 2 → Ru E mX8_goesRound 35 [(0, .ref 53), (1, .int x1), (2, .int x2)] [.int 2] σ Φ))) : Ru E mX8_goesRound 0 [(0, .ref 53), (1, .int x1), (2, .int x2)] [] σ Φ := by
  refine s_aload_n 0 (pc := 0) dX8_goesRound_0 rfl rfl ?_
  refine s_getR (q := 58) (pc := 1) dX8_goesRound_1 fl_X8_22 ly53 rfl ?_
  refine s_iload_n 1 (pc := 4) dX8_goesRound_4 rfl rfl ?_
  have hv1 := h.1
  replace h := h.2
  refine s_iald (pc := 5) dX8_goesRound_5 ly58 hv1 ?_
  refine s_iconst (v := 2) (pc := 6) dX8_goesRound_6 rfl ?_
  refine s_icmp_ne (pc := 7) (tgt := 14) dX8_goesRound_7 rfl (fun q2 => ?_) (fun q2 => ?_)
  · replace h := h.1 q2
    refine s_aload_n 0 (pc := 14) dX8_goesRound_14 rfl rfl ?_
    refine s_getR (q := 58) (pc := 15) dX8_goesRound_15 fl_X8_22 ly53 rfl ?_
    refine s_iload_n 1 (pc := 18) dX8_goesRound_18 rfl rfl ?_
    refine s_iald (pc := 19) dX8_goesRound_19 ly58 hv1 ?_
    refine s_if_ne (pc := 20) (tgt := 34) dX8_goesRound_20 rfl (fun q4 => ?_) (fun q4 => ?_)
    · replace h := h.1 q4
      refine s_iconst (v := 1) (pc := 34) dX8_goesRound_34 rfl ?_
      exact s_sub (L' := [(0, .ref 53), (1, .int x1), (2, .int x2)]) [0, 1, 2] rfl h
    · replace h := h.2 q4
      refine s_iload_n 2 (pc := 23) dX8_goesRound_23 rfl rfl ?_
      refine s_iconst (v := 2) (pc := 24) dX8_goesRound_24 rfl ?_
      refine s_irem (pc := 25) dX8_goesRound_25 (by decide) ?_
      refine s_iconst (v := 1) (pc := 26) dX8_goesRound_26 rfl ?_
      refine s_icmp_ne (pc := 27) (tgt := 34) dX8_goesRound_27 rfl (fun q5 => ?_) (fun q5 => ?_)
      · replace h := h.1 q5
        refine s_iconst (v := 1) (pc := 34) dX8_goesRound_34 rfl ?_
        exact s_sub (L' := [(0, .ref 53), (1, .int x1), (2, .int x2)]) [0, 1, 2] rfl h
      · replace h := h.2 q5
        refine s_iconst (v := 0) (pc := 30) dX8_goesRound_30 rfl ?_
        refine s_goto (pc := 31) (tgt := 35) dX8_goesRound_31 rfl ?_
        exact s_sub (L' := [(0, .ref 53), (1, .int x1), (2, .int x2)]) [0, 1, 2] rfl h
  · replace h := h.2 q2
    refine s_iconst (v := 2) (pc := 10) dX8_goesRound_10 rfl ?_
    refine s_goto (pc := 11) (tgt := 35) dX8_goesRound_11 rfl ?_
    exact s_sub (L' := [(0, .ref 53), (1, .int x1), (2, .int x2)]) [0, 1, 2] rfl h
set_option maxRecDepth 10000 in
set_option maxHeartbeats 4000000 in
theorem tX8_goesRound_35 {E : Ev} {x1 : Int32} {x2 : Int32} {xs0 : Int32} {σ : Hp} {Φ : Option Value → Hp → Prop}  (h : vp_in x1 8 ∧ (((σ 69 ((x1).toNatClampNeg)) ≤ 0 → Φ none σ) ∧ (¬ (σ 69 ((x1).toNatClampNeg)) ≤ 0 → ∃ (r5 : Int32) (σ3 : Hp), Call E mX8_isIn [.int (σ 53 24), .int x1] σ (some (.int r5)) σ3 ∧ ((¬ r5 = 0 → Φ none σ3) ∧ (r5 = 0 → ((((σ3 71 ((x1).toNatClampNeg)) + xs0) ≤ 4 → Φ none (up (up σ3 70 ((x1).toNatClampNeg) (((σ3 70 ((x1).toNatClampNeg)) + xs0) - ((σ3 70 ((x1).toNatClampNeg)) + xs0) / 4 * 4)) 71 ((x1).toNatClampNeg) ((σ3 71 ((x1).toNatClampNeg)) + xs0))) ∧ (¬ ((σ3 71 ((x1).toNatClampNeg)) + xs0) ≤ 4 → Φ none (up (up σ3 70 ((x1).toNatClampNeg) (((σ3 70 ((x1).toNatClampNeg)) + xs0) - ((σ3 70 ((x1).toNatClampNeg)) + xs0) / 4 * 4)) 71 ((x1).toNatClampNeg) 4)))))))) : Ru E mX8_goesRound 35 [(0, .ref 53), (1, .int x1), (2, .int x2)] [.int xs0] σ Φ := by
  refine s_istore_n (L' := [(3, .int xs0), (0, .ref 53), (1, .int x1), (2, .int x2)]) (pc := 35) dX8_goesRound_35 rfl (Nat.le_of_ble_eq_true rfl) rfl ?_
  refine s_aload_n 1 (pc := 36) dX8_goesRound_36 rfl rfl ?_
  refine s_getR (q := 69) (pc := 37) dX8_goesRound_37 fl_X8_55 ly53 rfl ?_
  refine s_iload_n 2 (pc := 40) dX8_goesRound_40 rfl rfl ?_
  have hv1 := h.1
  replace h := h.2
  refine s_iald (pc := 41) dX8_goesRound_41 ly69 hv1 ?_
  refine s_if_le (pc := 42) (tgt := 102) dX8_goesRound_42 rfl (fun q2 => ?_) (fun q2 => ?_)
  · replace h := h.1 q2
    exact s_ret (r := none) dX8_goesRound_102 rfl h
  · replace h := h.2 q2
    refine s_aload_n 1 (pc := 45) dX8_goesRound_45 rfl rfl ?_
    refine s_getI (v := σ 53 24) (pc := 46) dX8_goesRound_46 fl_X8_196 ly53 rfl rfl ?_
    refine s_iload_n 2 (pc := 49) dX8_goesRound_49 rfl rfl ?_
    obtain ⟨r5, σ3, hk4, h⟩ := h
    refine s_callS (S := []) [.int (σ 53 24), .int x1] (pc := 50) dX8_goesRound_50 ms_X8_isIn ml_X8_199 ⟨Nat.le_of_ble_eq_true rfl, Nat.le_of_ble_eq_true rfl⟩ rfl rfl (Nat.le_of_ble_eq_true rfl) hk4 ?_
    refine s_if_ne (pc := 53) (tgt := 102) dX8_goesRound_53 rfl (fun q6 => ?_) (fun q6 => ?_)
    · replace h := h.1 q6
      exact s_ret (r := none) dX8_goesRound_102 rfl h
    · replace h := h.2 q6
      refine s_aload_n 1 (pc := 56) dX8_goesRound_56 rfl rfl ?_
      refine s_getR (q := 70) (pc := 57) dX8_goesRound_57 fl_X8_58 ly53 rfl ?_
      refine s_iload_n 2 (pc := 60) dX8_goesRound_60 rfl rfl ?_
      refine s_aload_n 1 (pc := 61) dX8_goesRound_61 rfl rfl ?_
      refine s_getR (q := 70) (pc := 62) dX8_goesRound_62 fl_X8_58 ly53 rfl ?_
      refine s_iload_n 2 (pc := 65) dX8_goesRound_65 rfl rfl ?_
      refine s_iald (pc := 66) dX8_goesRound_66 ly70 hv1 ?_
      refine s_iload_n 0 (pc := 67) dX8_goesRound_67 rfl rfl ?_
      refine s_iadd (pc := 68) dX8_goesRound_68 ?_
      refine s_iconst (v := 4) (pc := 69) dX8_goesRound_69 rfl ?_
      refine s_irem (pc := 70) dX8_goesRound_70 (by decide) ?_
      refine s_iast (pc := 71) dX8_goesRound_71 ly70 hv1 ?_
      refine s_aload_n 1 (pc := 72) dX8_goesRound_72 rfl rfl ?_
      refine s_getR (q := 71) (pc := 73) dX8_goesRound_73 fl_X8_61 ly53 rfl ?_
      refine s_iload_n 2 (pc := 76) dX8_goesRound_76 rfl rfl ?_
      refine s_aload_n 1 (pc := 77) dX8_goesRound_77 rfl rfl ?_
      refine s_getR (q := 71) (pc := 78) dX8_goesRound_78 fl_X8_61 ly53 rfl ?_
      refine s_iload_n 2 (pc := 81) dX8_goesRound_81 rfl rfl ?_
      refine s_iald (pc := 82) dX8_goesRound_82 ly71 hv1 ?_
      rw [show (up σ3 70 ((x1).toNatClampNeg) (((σ3 70 ((x1).toNatClampNeg)) + xs0) - ((σ3 70 ((x1).toNatClampNeg)) + xs0) / 4 * 4)) 71 (x1).toNatClampNeg = σ3 71 ((x1).toNatClampNeg) from (by simp [up])]
      refine s_iload_n 0 (pc := 83) dX8_goesRound_83 rfl rfl ?_
      refine s_iadd (pc := 84) dX8_goesRound_84 ?_
      refine s_iconst (v := 4) (pc := 85) dX8_goesRound_85 rfl ?_
      refine s_icmp_le (pc := 86) (tgt := 93) dX8_goesRound_86 rfl (fun q10 => ?_) (fun q10 => ?_)
      · replace h := h.1 q10
        refine s_aload_n 1 (pc := 93) dX8_goesRound_93 rfl rfl ?_
        refine s_getR (q := 71) (pc := 94) dX8_goesRound_94 fl_X8_61 ly53 rfl ?_
        refine s_iload_n 2 (pc := 97) dX8_goesRound_97 rfl rfl ?_
        refine s_iald (pc := 98) dX8_goesRound_98 ly71 hv1 ?_
        rw [show (up σ3 70 ((x1).toNatClampNeg) (((σ3 70 ((x1).toNatClampNeg)) + xs0) - ((σ3 70 ((x1).toNatClampNeg)) + xs0) / 4 * 4)) 71 (x1).toNatClampNeg = σ3 71 ((x1).toNatClampNeg) from (by simp [up])]
        refine s_iload_n 0 (pc := 99) dX8_goesRound_99 rfl rfl ?_
        refine s_iadd (pc := 100) dX8_goesRound_100 ?_
        refine s_iast (pc := 101) dX8_goesRound_101 ly71 hv1 ?_
        exact s_ret (r := none) dX8_goesRound_102 rfl h
      · replace h := h.2 q10
        refine s_iconst (v := 4) (pc := 89) dX8_goesRound_89 rfl ?_
        refine s_goto (pc := 90) (tgt := 101) dX8_goesRound_90 rfl ?_
        refine s_iast (pc := 101) dX8_goesRound_101 ly71 hv1 ?_
        exact s_ret (r := none) dX8_goesRound_102 rfl h
set_option maxRecDepth 10000 in
set_option maxHeartbeats 4000000 in
theorem tX8_goesBy_0 {E : Ev} {x1 : Int32} {σ : Hp} {Φ : Option Value → Hp → Prop}  (h : Ru E mX8_goesBy 2 [(0, .ref 53), (1, .int x1), (2, .int 0)] [] σ Φ) : Ru E mX8_goesBy 0 [(0, .ref 53), (1, .int x1)] [] σ Φ := by
  refine s_iconst (v := 0) (pc := 0) dX8_goesBy_0 rfl ?_
  refine s_istore_n (L' := [(2, .int 0), (0, .ref 53), (1, .int x1)]) (pc := 1) dX8_goesBy_1 rfl (Nat.le_of_ble_eq_true rfl) rfl ?_
  exact s_sub (L' := [(0, .ref 53), (1, .int x1), (2, .int 0)]) [1, 2, 0] rfl h
set_option maxRecDepth 10000 in
set_option maxHeartbeats 4000000 in
theorem tX8_goesBy_2 {E : Ev} {x1 : Int32} {x2 : Int32} {σ : Hp} {Φ : Option Value → Hp → Prop}  (h : (((σ 53 12) ≤ x2 → vp_in x1 20 ∧ Ru E mX8_goesBy 67 [(0, .ref 53), (1, .int x1), (2, .int 0)] [] (up σ 79 ((x1).toNatClampNeg) (σ 53 24)) Φ) ∧ (¬ (σ 53 12) ≤ x2 → vp_in x2 8 ∧ ((¬ (σ 64 ((x2).toNatClampNeg)) = x1 → Ru E mX8_goesBy 2 [(0, .ref 53), (1, .int x1), (2, .int (x2 + 1))] [] σ Φ) ∧ ((σ 64 ((x2).toNatClampNeg)) = x1 → (((σ 53 2) ≤ (σ 65 ((x2).toNatClampNeg)) → Ru E mX8_goesBy 2 [(0, .ref 53), (1, .int x1), (2, .int (x2 + 1))] [] σ Φ) ∧ (¬ (σ 53 2) ≤ (σ 65 ((x2).toNatClampNeg)) → ∃ (r9 : Int32) (σ7 : Hp), Call E mX8_isIn [.int (σ 53 17), .int x2] σ (some (.int r9)) σ7 ∧ ((¬ r9 = 0 → Ru E mX8_goesBy 2 [(0, .ref 53), (1, .int x1), (2, .int (x2 + 1))] [] σ7 Φ) ∧ (r9 = 0 → ∃ σ11 : Hp, Call E mX8_befalls [.ref 53, .int x2] σ7 none σ11 ∧ Ru E mX8_goesBy 2 [(0, .ref 53), (1, .int x1), (2, .int (x2 + 1))] [] σ11 Φ))))))))) : Ru E mX8_goesBy 2 [(0, .ref 53), (1, .int x1), (2, .int x2)] [] σ Φ := by
  refine s_iload_n 2 (pc := 2) dX8_goesBy_2 rfl rfl ?_
  refine s_aload_n 0 (pc := 3) dX8_goesBy_3 rfl rfl ?_
  refine s_getI (v := σ 53 12) (pc := 4) dX8_goesBy_4 fl_X8_179 ly53 rfl rfl ?_
  refine s_icmp_ge (pc := 7) (tgt := 55) dX8_goesBy_7 rfl (fun q1 => ?_) (fun q1 => ?_)
  · replace h := h.1 q1
    refine s_aload_n 0 (pc := 55) dX8_goesBy_55 rfl rfl ?_
    refine s_getR (q := 79) (pc := 56) dX8_goesBy_56 fl_X8_85 ly53 rfl ?_
    refine s_iload_n 1 (pc := 59) dX8_goesBy_59 rfl rfl ?_
    refine s_aload_n 0 (pc := 60) dX8_goesBy_60 rfl rfl ?_
    refine s_getI (v := σ 53 24) (pc := 61) dX8_goesBy_61 fl_X8_196 ly53 rfl rfl ?_
    have hv2 := h.1
    replace h := h.2
    refine s_iast (pc := 64) dX8_goesBy_64 ly79 hv2 ?_
    refine s_iconst (v := 0) (pc := 65) dX8_goesBy_65 rfl ?_
    refine s_istore_n (L' := [(2, .int 0), (0, .ref 53), (1, .int x1)]) (pc := 66) dX8_goesBy_66 rfl (Nat.le_of_ble_eq_true rfl) rfl ?_
    exact s_sub (L' := [(0, .ref 53), (1, .int x1), (2, .int 0)]) [1, 2, 0] rfl h
  · replace h := h.2 q1
    refine s_aload_n 0 (pc := 10) dX8_goesBy_10 rfl rfl ?_
    refine s_getR (q := 64) (pc := 11) dX8_goesBy_11 fl_X8_40 ly53 rfl ?_
    refine s_iload_n 2 (pc := 14) dX8_goesBy_14 rfl rfl ?_
    have hv3 := h.1
    replace h := h.2
    refine s_iald (pc := 15) dX8_goesBy_15 ly64 hv3 ?_
    refine s_iload_n 1 (pc := 16) dX8_goesBy_16 rfl rfl ?_
    refine s_icmp_ne (pc := 17) (tgt := 49) dX8_goesBy_17 rfl (fun q4 => ?_) (fun q4 => ?_)
    · replace h := h.1 q4
      refine s_iinc (v := x2 + 1) (L' := [(2, .int (x2 + 1)), (0, .ref 53), (1, .int x1)]) 2 (pc := 49) dX8_goesBy_49 rfl rfl (Nat.le_of_ble_eq_true rfl) rfl ?_
      refine s_goto (pc := 52) (tgt := 2) dX8_goesBy_52 rfl ?_
      exact s_sub (L' := [(0, .ref 53), (1, .int x1), (2, .int (x2 + 1))]) [1, 2, 0] rfl h
    · replace h := h.2 q4
      refine s_aload_n 0 (pc := 20) dX8_goesBy_20 rfl rfl ?_
      refine s_getR (q := 65) (pc := 21) dX8_goesBy_21 fl_X8_43 ly53 rfl ?_
      refine s_iload_n 2 (pc := 24) dX8_goesBy_24 rfl rfl ?_
      refine s_iald (pc := 25) dX8_goesBy_25 ly65 hv3 ?_
      refine s_aload_n 0 (pc := 26) dX8_goesBy_26 rfl rfl ?_
      refine s_getI (v := σ 53 2) (pc := 27) dX8_goesBy_27 fl_X8_139 ly53 rfl rfl ?_
      refine s_icmp_ge (pc := 30) (tgt := 49) dX8_goesBy_30 rfl (fun q6 => ?_) (fun q6 => ?_)
      · replace h := h.1 q6
        refine s_iinc (v := x2 + 1) (L' := [(2, .int (x2 + 1)), (0, .ref 53), (1, .int x1)]) 2 (pc := 49) dX8_goesBy_49 rfl rfl (Nat.le_of_ble_eq_true rfl) rfl ?_
        refine s_goto (pc := 52) (tgt := 2) dX8_goesBy_52 rfl ?_
        exact s_sub (L' := [(0, .ref 53), (1, .int x1), (2, .int (x2 + 1))]) [1, 2, 0] rfl h
      · replace h := h.2 q6
        refine s_aload_n 0 (pc := 33) dX8_goesBy_33 rfl rfl ?_
        refine s_getI (v := σ 53 17) (pc := 34) dX8_goesBy_34 fl_X8_182 ly53 rfl rfl ?_
        refine s_iload_n 2 (pc := 37) dX8_goesBy_37 rfl rfl ?_
        obtain ⟨r9, σ7, hk8, h⟩ := h
        refine s_callS (S := []) [.int (σ 53 17), .int x2] (pc := 38) dX8_goesBy_38 ms_X8_isIn ml_X8_199 ⟨Nat.le_of_ble_eq_true rfl, Nat.le_of_ble_eq_true rfl⟩ rfl rfl (Nat.le_of_ble_eq_true rfl) hk8 ?_
        refine s_if_ne (pc := 41) (tgt := 49) dX8_goesBy_41 rfl (fun q10 => ?_) (fun q10 => ?_)
        · replace h := h.1 q10
          refine s_iinc (v := x2 + 1) (L' := [(2, .int (x2 + 1)), (0, .ref 53), (1, .int x1)]) 2 (pc := 49) dX8_goesBy_49 rfl rfl (Nat.le_of_ble_eq_true rfl) rfl ?_
          refine s_goto (pc := 52) (tgt := 2) dX8_goesBy_52 rfl ?_
          exact s_sub (L' := [(0, .ref 53), (1, .int x1), (2, .int (x2 + 1))]) [1, 2, 0] rfl h
        · replace h := h.2 q10
          refine s_aload_n 0 (pc := 44) dX8_goesBy_44 rfl rfl ?_
          refine s_iload_n 2 (pc := 45) dX8_goesBy_45 rfl rfl ?_
          obtain ⟨σ11, hk12, h⟩ := h
          refine s_callV (S := []) [.int x2] (pc := 46) dX8_goesBy_46 mv_X8_befalls ml_X8_203 ⟨Nat.le_of_ble_eq_true rfl, Nat.le_of_ble_eq_true rfl⟩ rfl rfl ly53 rfl rfl (Nat.le_of_ble_eq_true rfl) hk12 ?_
          refine s_iinc (v := x2 + 1) (L' := [(2, .int (x2 + 1)), (0, .ref 53), (1, .int x1)]) 2 (pc := 49) dX8_goesBy_49 rfl rfl (Nat.le_of_ble_eq_true rfl) rfl ?_
          refine s_goto (pc := 52) (tgt := 2) dX8_goesBy_52 rfl ?_
          exact s_sub (L' := [(0, .ref 53), (1, .int x1), (2, .int (x2 + 1))]) [1, 2, 0] rfl h
set_option maxRecDepth 10000 in
set_option maxHeartbeats 4000000 in
theorem tX8_goesBy_67 {E : Ev} {x1 : Int32} {x2 : Int32} {σ : Hp} {Φ : Option Value → Hp → Prop}  (h : (((σ 53 2) ≤ x2 → Φ none σ) ∧ (¬ (σ 53 2) ≤ x2 → ∃ σ2 : Hp, Call E mX8_goesRound [.ref 53, .int x2, .int x1] σ none σ2 ∧ vp_in x2 8 ∧ vp_in ((8 * x1) + x2) 160 ∧ Ru E mX8_goesBy 67 [(0, .ref 53), (1, .int x1), (2, .int (x2 + 1))] [] (up (up (up (up (up (up σ2 73 (((8 * x1) + x2).toNatClampNeg) (σ2 67 ((x2).toNatClampNeg))) 74 (((8 * x1) + x2).toNatClampNeg) (σ2 68 ((x2).toNatClampNeg))) 75 (((8 * x1) + x2).toNatClampNeg) (σ2 69 ((x2).toNatClampNeg))) 76 (((8 * x1) + x2).toNatClampNeg) (σ2 70 ((x2).toNatClampNeg))) 77 (((8 * x1) + x2).toNatClampNeg) (σ2 71 ((x2).toNatClampNeg))) 78 (((8 * x1) + x2).toNatClampNeg) (σ2 72 ((x2).toNatClampNeg))) Φ))) : Ru E mX8_goesBy 67 [(0, .ref 53), (1, .int x1), (2, .int x2)] [] σ Φ := by
  refine s_iload_n 2 (pc := 67) dX8_goesBy_67 rfl rfl ?_
  refine s_aload_n 0 (pc := 68) dX8_goesBy_68 rfl rfl ?_
  refine s_getI (v := σ 53 2) (pc := 69) dX8_goesBy_69 fl_X8_139 ly53 rfl rfl ?_
  refine s_icmp_ge (pc := 72) (tgt := 166) dX8_goesBy_72 rfl (fun q1 => ?_) (fun q1 => ?_)
  · replace h := h.1 q1
    exact s_ret (r := none) dX8_goesBy_166 rfl h
  · replace h := h.2 q1
    refine s_aload_n 0 (pc := 75) dX8_goesBy_75 rfl rfl ?_
    refine s_iload_n 2 (pc := 76) dX8_goesBy_76 rfl rfl ?_
    refine s_iload_n 1 (pc := 77) dX8_goesBy_77 rfl rfl ?_
    obtain ⟨σ2, hk3, h⟩ := h
    refine s_callV (S := []) [.int x2, .int x1] (pc := 78) dX8_goesBy_78 mv_X8_goesRound ml_X8_206 ⟨Nat.le_of_ble_eq_true rfl, Nat.le_of_ble_eq_true rfl⟩ rfl rfl ly53 rfl rfl (Nat.le_of_ble_eq_true rfl) hk3 ?_
    refine s_bipush (v := 8) (pc := 81) dX8_goesBy_81 rfl ?_
    refine s_iload_n 1 (pc := 83) dX8_goesBy_83 rfl rfl ?_
    refine s_imul (pc := 84) dX8_goesBy_84 ?_
    refine s_iload_n 2 (pc := 85) dX8_goesBy_85 rfl rfl ?_
    refine s_iadd (pc := 86) dX8_goesBy_86 ?_
    refine s_istore_n (L' := [(3, .int ((8 * x1) + x2)), (0, .ref 53), (1, .int x1), (2, .int x2)]) (pc := 87) dX8_goesBy_87 rfl (Nat.le_of_ble_eq_true rfl) rfl ?_
    refine s_aload_n 1 (pc := 88) dX8_goesBy_88 rfl rfl ?_
    refine s_getR (q := 73) (pc := 89) dX8_goesBy_89 fl_X8_67 ly53 rfl ?_
    refine s_iload_n 0 (pc := 92) dX8_goesBy_92 rfl rfl ?_
    refine s_aload_n 1 (pc := 93) dX8_goesBy_93 rfl rfl ?_
    refine s_getR (q := 67) (pc := 94) dX8_goesBy_94 fl_X8_49 ly53 rfl ?_
    refine s_iload_n 3 (pc := 97) dX8_goesBy_97 rfl rfl ?_
    have hv4 := h.1
    replace h := h.2
    refine s_iald (pc := 98) dX8_goesBy_98 ly67 hv4 ?_
    have hv5 := h.1
    replace h := h.2
    refine s_iast (pc := 99) dX8_goesBy_99 ly73 hv5 ?_
    refine s_aload_n 1 (pc := 100) dX8_goesBy_100 rfl rfl ?_
    refine s_getR (q := 74) (pc := 101) dX8_goesBy_101 fl_X8_70 ly53 rfl ?_
    refine s_iload_n 0 (pc := 104) dX8_goesBy_104 rfl rfl ?_
    refine s_aload_n 1 (pc := 105) dX8_goesBy_105 rfl rfl ?_
    refine s_getR (q := 68) (pc := 106) dX8_goesBy_106 fl_X8_52 ly53 rfl ?_
    refine s_iload_n 3 (pc := 109) dX8_goesBy_109 rfl rfl ?_
    refine s_iald (pc := 110) dX8_goesBy_110 ly68 hv4 ?_
    rw [show (up σ2 73 (((8 * x1) + x2).toNatClampNeg) (σ2 67 ((x2).toNatClampNeg))) 68 (x2).toNatClampNeg = σ2 68 ((x2).toNatClampNeg) from (by simp [up])]
    refine s_iast (pc := 111) dX8_goesBy_111 ly74 hv5 ?_
    refine s_aload_n 1 (pc := 112) dX8_goesBy_112 rfl rfl ?_
    refine s_getR (q := 75) (pc := 113) dX8_goesBy_113 fl_X8_73 ly53 rfl ?_
    refine s_iload_n 0 (pc := 116) dX8_goesBy_116 rfl rfl ?_
    refine s_aload_n 1 (pc := 117) dX8_goesBy_117 rfl rfl ?_
    refine s_getR (q := 69) (pc := 118) dX8_goesBy_118 fl_X8_55 ly53 rfl ?_
    refine s_iload_n 3 (pc := 121) dX8_goesBy_121 rfl rfl ?_
    refine s_iald (pc := 122) dX8_goesBy_122 ly69 hv4 ?_
    rw [show (up (up σ2 73 (((8 * x1) + x2).toNatClampNeg) (σ2 67 ((x2).toNatClampNeg))) 74 (((8 * x1) + x2).toNatClampNeg) (σ2 68 ((x2).toNatClampNeg))) 69 (x2).toNatClampNeg = σ2 69 ((x2).toNatClampNeg) from (by simp [up])]
    refine s_iast (pc := 123) dX8_goesBy_123 ly75 hv5 ?_
    refine s_aload_n 1 (pc := 124) dX8_goesBy_124 rfl rfl ?_
    refine s_getR (q := 76) (pc := 125) dX8_goesBy_125 fl_X8_76 ly53 rfl ?_
    refine s_iload_n 0 (pc := 128) dX8_goesBy_128 rfl rfl ?_
    refine s_aload_n 1 (pc := 129) dX8_goesBy_129 rfl rfl ?_
    refine s_getR (q := 70) (pc := 130) dX8_goesBy_130 fl_X8_58 ly53 rfl ?_
    refine s_iload_n 3 (pc := 133) dX8_goesBy_133 rfl rfl ?_
    refine s_iald (pc := 134) dX8_goesBy_134 ly70 hv4 ?_
    rw [show (up (up (up σ2 73 (((8 * x1) + x2).toNatClampNeg) (σ2 67 ((x2).toNatClampNeg))) 74 (((8 * x1) + x2).toNatClampNeg) (σ2 68 ((x2).toNatClampNeg))) 75 (((8 * x1) + x2).toNatClampNeg) (σ2 69 ((x2).toNatClampNeg))) 70 (x2).toNatClampNeg = σ2 70 ((x2).toNatClampNeg) from (by simp [up])]
    refine s_iast (pc := 135) dX8_goesBy_135 ly76 hv5 ?_
    refine s_aload_n 1 (pc := 136) dX8_goesBy_136 rfl rfl ?_
    refine s_getR (q := 77) (pc := 137) dX8_goesBy_137 fl_X8_79 ly53 rfl ?_
    refine s_iload_n 0 (pc := 140) dX8_goesBy_140 rfl rfl ?_
    refine s_aload_n 1 (pc := 141) dX8_goesBy_141 rfl rfl ?_
    refine s_getR (q := 71) (pc := 142) dX8_goesBy_142 fl_X8_61 ly53 rfl ?_
    refine s_iload_n 3 (pc := 145) dX8_goesBy_145 rfl rfl ?_
    refine s_iald (pc := 146) dX8_goesBy_146 ly71 hv4 ?_
    rw [show (up (up (up (up σ2 73 (((8 * x1) + x2).toNatClampNeg) (σ2 67 ((x2).toNatClampNeg))) 74 (((8 * x1) + x2).toNatClampNeg) (σ2 68 ((x2).toNatClampNeg))) 75 (((8 * x1) + x2).toNatClampNeg) (σ2 69 ((x2).toNatClampNeg))) 76 (((8 * x1) + x2).toNatClampNeg) (σ2 70 ((x2).toNatClampNeg))) 71 (x2).toNatClampNeg = σ2 71 ((x2).toNatClampNeg) from (by simp [up])]
    refine s_iast (pc := 147) dX8_goesBy_147 ly77 hv5 ?_
    refine s_aload_n 1 (pc := 148) dX8_goesBy_148 rfl rfl ?_
    refine s_getR (q := 78) (pc := 149) dX8_goesBy_149 fl_X8_82 ly53 rfl ?_
    refine s_iload_n 0 (pc := 152) dX8_goesBy_152 rfl rfl ?_
    refine s_aload_n 1 (pc := 153) dX8_goesBy_153 rfl rfl ?_
    refine s_getR (q := 72) (pc := 154) dX8_goesBy_154 fl_X8_64 ly53 rfl ?_
    refine s_iload_n 3 (pc := 157) dX8_goesBy_157 rfl rfl ?_
    refine s_iald (pc := 158) dX8_goesBy_158 ly72 hv4 ?_
    rw [show (up (up (up (up (up σ2 73 (((8 * x1) + x2).toNatClampNeg) (σ2 67 ((x2).toNatClampNeg))) 74 (((8 * x1) + x2).toNatClampNeg) (σ2 68 ((x2).toNatClampNeg))) 75 (((8 * x1) + x2).toNatClampNeg) (σ2 69 ((x2).toNatClampNeg))) 76 (((8 * x1) + x2).toNatClampNeg) (σ2 70 ((x2).toNatClampNeg))) 77 (((8 * x1) + x2).toNatClampNeg) (σ2 71 ((x2).toNatClampNeg))) 72 (x2).toNatClampNeg = σ2 72 ((x2).toNatClampNeg) from (by simp [up])]
    refine s_iast (pc := 159) dX8_goesBy_159 ly78 hv5 ?_
    refine s_iinc (v := x2 + 1) (L' := [(2, .int (x2 + 1)), (3, .int ((8 * x1) + x2)), (0, .ref 53), (1, .int x1)]) 3 (pc := 160) dX8_goesBy_160 rfl rfl (Nat.le_of_ble_eq_true rfl) rfl ?_
    refine s_goto (pc := 163) (tgt := 67) dX8_goesBy_163 rfl ?_
    exact s_sub (L' := [(0, .ref 53), (1, .int x1), (2, .int (x2 + 1))]) [2, 3, 0] rfl h
set_option maxRecDepth 10000 in
set_option maxHeartbeats 4000000 in
theorem tX8_runs_0 {E : Ev}  {σ : Hp} {Φ : Option Value → Hp → Prop}  (h : Ru E mX8_runs 2 [(0, .ref 53), (1, .int 0)] [] σ Φ) : Ru E mX8_runs 0 [(0, .ref 53)] [] σ Φ := by
  refine s_iconst (v := 0) (pc := 0) dX8_runs_0 rfl ?_
  refine s_istore_n (L' := [(1, .int 0), (0, .ref 53)]) (pc := 1) dX8_runs_1 rfl (Nat.le_of_ble_eq_true rfl) rfl ?_
  exact s_sub (L' := [(0, .ref 53), (1, .int 0)]) [1, 0] rfl h
set_option maxRecDepth 10000 in
set_option maxHeartbeats 4000000 in
theorem tX8_runs_2 {E : Ev} {x1 : Int32} {σ : Hp} {Φ : Option Value → Hp → Prop}  (h : (((σ 53 2) ≤ x1 → Ru E mX8_runs 80 [(0, .ref 53), (1, .int 0)] [] (up σ 53 24 0) Φ) ∧ (¬ (σ 53 2) ≤ x1 → vp_in x1 9 ∧ vp_in x1 8 ∧ Ru E mX8_runs 2 [(0, .ref 53), (1, .int (x1 + 1))] [] (up (up (up (up (up (up σ 67 ((x1).toNatClampNeg) (σ 55 ((x1).toNatClampNeg))) 68 ((x1).toNatClampNeg) (σ 56 ((x1).toNatClampNeg))) 69 ((x1).toNatClampNeg) (σ 57 ((x1).toNatClampNeg))) 70 ((x1).toNatClampNeg) 0) 71 ((x1).toNatClampNeg) 0) 72 ((x1).toNatClampNeg) 0) Φ))) : Ru E mX8_runs 2 [(0, .ref 53), (1, .int x1)] [] σ Φ := by
  refine s_iload_n 1 (pc := 2) dX8_runs_2 rfl rfl ?_
  refine s_aload_n 0 (pc := 3) dX8_runs_3 rfl rfl ?_
  refine s_getI (v := σ 53 2) (pc := 4) dX8_runs_4 fl_X8_139 ly53 rfl rfl ?_
  refine s_icmp_ge (pc := 7) (tgt := 73) dX8_runs_7 rfl (fun q1 => ?_) (fun q1 => ?_)
  · replace h := h.1 q1
    refine s_aload_n 0 (pc := 73) dX8_runs_73 rfl rfl ?_
    refine s_iconst (v := 0) (pc := 74) dX8_runs_74 rfl ?_
    refine s_put (ty := .int) (pc := 75) dX8_runs_75 fp_X8_196 ly53 rfl rfl rfl ?_
    refine s_iconst (v := 0) (pc := 78) dX8_runs_78 rfl ?_
    refine s_istore_n (L' := [(1, .int 0), (0, .ref 53)]) (pc := 79) dX8_runs_79 rfl (Nat.le_of_ble_eq_true rfl) rfl ?_
    exact s_sub (L' := [(0, .ref 53), (1, .int 0)]) [1, 0] rfl h
  · replace h := h.2 q1
    refine s_aload_n 0 (pc := 10) dX8_runs_10 rfl rfl ?_
    refine s_getR (q := 67) (pc := 11) dX8_runs_11 fl_X8_49 ly53 rfl ?_
    refine s_iload_n 1 (pc := 14) dX8_runs_14 rfl rfl ?_
    refine s_aload_n 0 (pc := 15) dX8_runs_15 rfl rfl ?_
    refine s_getR (q := 55) (pc := 16) dX8_runs_16 fl_X8_13 ly53 rfl ?_
    refine s_iload_n 1 (pc := 19) dX8_runs_19 rfl rfl ?_
    have hv2 := h.1
    replace h := h.2
    refine s_iald (pc := 20) dX8_runs_20 ly55 hv2 ?_
    have hv3 := h.1
    replace h := h.2
    refine s_iast (pc := 21) dX8_runs_21 ly67 hv3 ?_
    refine s_aload_n 0 (pc := 22) dX8_runs_22 rfl rfl ?_
    refine s_getR (q := 68) (pc := 23) dX8_runs_23 fl_X8_52 ly53 rfl ?_
    refine s_iload_n 1 (pc := 26) dX8_runs_26 rfl rfl ?_
    refine s_aload_n 0 (pc := 27) dX8_runs_27 rfl rfl ?_
    refine s_getR (q := 56) (pc := 28) dX8_runs_28 fl_X8_16 ly53 rfl ?_
    refine s_iload_n 1 (pc := 31) dX8_runs_31 rfl rfl ?_
    refine s_iald (pc := 32) dX8_runs_32 ly56 hv2 ?_
    rw [show (up σ 67 ((x1).toNatClampNeg) (σ 55 ((x1).toNatClampNeg))) 56 (x1).toNatClampNeg = σ 56 ((x1).toNatClampNeg) from (by simp [up])]
    refine s_iast (pc := 33) dX8_runs_33 ly68 hv3 ?_
    refine s_aload_n 0 (pc := 34) dX8_runs_34 rfl rfl ?_
    refine s_getR (q := 69) (pc := 35) dX8_runs_35 fl_X8_55 ly53 rfl ?_
    refine s_iload_n 1 (pc := 38) dX8_runs_38 rfl rfl ?_
    refine s_aload_n 0 (pc := 39) dX8_runs_39 rfl rfl ?_
    refine s_getR (q := 57) (pc := 40) dX8_runs_40 fl_X8_19 ly53 rfl ?_
    refine s_iload_n 1 (pc := 43) dX8_runs_43 rfl rfl ?_
    refine s_iald (pc := 44) dX8_runs_44 ly57 hv2 ?_
    rw [show (up (up σ 67 ((x1).toNatClampNeg) (σ 55 ((x1).toNatClampNeg))) 68 ((x1).toNatClampNeg) (σ 56 ((x1).toNatClampNeg))) 57 (x1).toNatClampNeg = σ 57 ((x1).toNatClampNeg) from (by simp [up])]
    refine s_iast (pc := 45) dX8_runs_45 ly69 hv3 ?_
    refine s_aload_n 0 (pc := 46) dX8_runs_46 rfl rfl ?_
    refine s_getR (q := 70) (pc := 47) dX8_runs_47 fl_X8_58 ly53 rfl ?_
    refine s_iload_n 1 (pc := 50) dX8_runs_50 rfl rfl ?_
    refine s_iconst (v := 0) (pc := 51) dX8_runs_51 rfl ?_
    refine s_iast (pc := 52) dX8_runs_52 ly70 hv3 ?_
    refine s_aload_n 0 (pc := 53) dX8_runs_53 rfl rfl ?_
    refine s_getR (q := 71) (pc := 54) dX8_runs_54 fl_X8_61 ly53 rfl ?_
    refine s_iload_n 1 (pc := 57) dX8_runs_57 rfl rfl ?_
    refine s_iconst (v := 0) (pc := 58) dX8_runs_58 rfl ?_
    refine s_iast (pc := 59) dX8_runs_59 ly71 hv3 ?_
    refine s_aload_n 0 (pc := 60) dX8_runs_60 rfl rfl ?_
    refine s_getR (q := 72) (pc := 61) dX8_runs_61 fl_X8_64 ly53 rfl ?_
    refine s_iload_n 1 (pc := 64) dX8_runs_64 rfl rfl ?_
    refine s_iconst (v := 0) (pc := 65) dX8_runs_65 rfl ?_
    refine s_iast (pc := 66) dX8_runs_66 ly72 hv3 ?_
    refine s_iinc (v := x1 + 1) (L' := [(1, .int (x1 + 1)), (0, .ref 53)]) 1 (pc := 67) dX8_runs_67 rfl rfl (Nat.le_of_ble_eq_true rfl) rfl ?_
    refine s_goto (pc := 70) (tgt := 2) dX8_runs_70 rfl ?_
    exact s_sub (L' := [(0, .ref 53), (1, .int (x1 + 1))]) [1, 0] rfl h
set_option maxRecDepth 10000 in
set_option maxHeartbeats 4000000 in
theorem tX8_runs_80 {E : Ev} {x1 : Int32} {σ : Hp} {Φ : Option Value → Hp → Prop}  (h : ((20 ≤ x1 → Φ none σ) ∧ (¬ 20 ≤ x1 → ∃ σ2 : Hp, Call E mX8_goesBy [.ref 53, .int x1] σ none σ2 ∧ Ru E mX8_runs 80 [(0, .ref 53), (1, .int (x1 + 1))] [] σ2 Φ))) : Ru E mX8_runs 80 [(0, .ref 53), (1, .int x1)] [] σ Φ := by
  refine s_iload_n 1 (pc := 80) dX8_runs_80 rfl rfl ?_
  refine s_bipush (v := 20) (pc := 81) dX8_runs_81 rfl ?_
  refine s_icmp_ge (pc := 83) (tgt := 97) dX8_runs_83 rfl (fun q1 => ?_) (fun q1 => ?_)
  · replace h := h.1 q1
    exact s_ret (r := none) dX8_runs_97 rfl h
  · replace h := h.2 q1
    refine s_aload_n 0 (pc := 86) dX8_runs_86 rfl rfl ?_
    refine s_iload_n 1 (pc := 87) dX8_runs_87 rfl rfl ?_
    obtain ⟨σ2, hk3, h⟩ := h
    refine s_callV (S := []) [.int x1] (pc := 88) dX8_runs_88 mv_X8_goesBy ml_X8_210 ⟨Nat.le_of_ble_eq_true rfl, Nat.le_of_ble_eq_true rfl⟩ rfl rfl ly53 rfl rfl (Nat.le_of_ble_eq_true rfl) hk3 ?_
    refine s_iinc (v := x1 + 1) (L' := [(1, .int (x1 + 1)), (0, .ref 53)]) 1 (pc := 91) dX8_runs_91 rfl rfl (Nat.le_of_ble_eq_true rfl) rfl ?_
    refine s_goto (pc := 94) (tgt := 80) dX8_runs_94 rfl ?_
    exact s_sub (L' := [(0, .ref 53), (1, .int (x1 + 1))]) [1, 0] rfl h
set_option maxRecDepth 10000 in
set_option maxHeartbeats 4000000 in
theorem tX8_runsTold_0 {E : Ev}  {σ : Hp} {Φ : Option Value → Hp → Prop}  (h : ∃ σ1 : Hp, Call E mX8_asTold [.ref 53] σ none σ1 ∧ ∃ σ3 : Hp, Call E mX8_runs [.ref 53] σ1 none σ3 ∧ Φ none σ3) : Ru E mX8_runsTold 0 [(0, .ref 53)] [] σ Φ := by
  refine s_aload_n 0 (pc := 0) dX8_runsTold_0 rfl rfl ?_
  obtain ⟨σ1, hk2, h⟩ := h
  refine s_callV (S := []) [] (pc := 1) dX8_runsTold_1 mv_X8_asTold ml_X8_213 ⟨Nat.le_of_ble_eq_true rfl, Nat.le_of_ble_eq_true rfl⟩ rfl rfl ly53 rfl rfl (Nat.le_of_ble_eq_true rfl) hk2 ?_
  refine s_aload_n 0 (pc := 4) dX8_runsTold_4 rfl rfl ?_
  obtain ⟨σ3, hk4, h⟩ := h
  refine s_callV (S := []) [] (pc := 5) dX8_runsTold_5 mv_X8_runs ml_X8_216 ⟨Nat.le_of_ble_eq_true rfl, Nat.le_of_ble_eq_true rfl⟩ rfl rfl ly53 rfl rfl (Nat.le_of_ble_eq_true rfl) hk4 ?_
  exact s_ret (r := none) dX8_runsTold_8 rfl h
set_option maxRecDepth 10000 in
set_option maxHeartbeats 4000000 in
theorem tX8_atOf_0 {E : Ev} {x1 : Int32} {x2 : Int32} {x3 : Int32} {σ : Hp} {Φ : Option Value → Hp → Prop}  (h : ∃ σ1 : Hp, Call E mX8_runsTold [.ref 53] σ none σ1 ∧ ((x3 = (0 : Int32) → vp_in ((8 * x1) + x2) 160 ∧ Φ (some (.int (σ1 75 (((8 * x1) + x2).toNatClampNeg)))) σ1) ∧ (x3 = (1 : Int32) → vp_in ((8 * x1) + x2) 160 ∧ Φ (some (.int (σ1 76 (((8 * x1) + x2).toNatClampNeg)))) σ1) ∧ (x3 = (2 : Int32) → vp_in ((8 * x1) + x2) 160 ∧ Φ (some (.int (σ1 77 (((8 * x1) + x2).toNatClampNeg)))) σ1) ∧ (x3 = (3 : Int32) → vp_in x1 20 ∧ ∃ (r13 : Int32) (σ11 : Hp), Call E mX8_isIn [.int (σ1 79 ((x1).toNatClampNeg)), .int x2] σ1 (some (.int r13)) σ11 ∧ ((r13 = 0 → Φ (some (.int 0)) σ11) ∧ (¬ r13 = 0 → Φ (some (.int 1)) σ11))) ∧ (¬ x3 = (0 : Int32) ∧ ¬ x3 = (1 : Int32) ∧ ¬ x3 = (2 : Int32) ∧ ¬ x3 = (3 : Int32) → vp_in ((8 * x1) + x2) 160 ∧ Φ (some (.int (σ1 78 (((8 * x1) + x2).toNatClampNeg)))) σ1))) : Ru E mX8_atOf 0 [(0, .ref 53), (1, .int x1), (2, .int x2), (3, .int x3)] [] σ Φ := by
  refine s_aload_n 0 (pc := 0) dX8_atOf_0 rfl rfl ?_
  obtain ⟨σ1, hk2, h⟩ := h
  refine s_callV (S := []) [] (pc := 1) dX8_atOf_1 mv_X8_runsTold ml_X8_219 ⟨Nat.le_of_ble_eq_true rfl, Nat.le_of_ble_eq_true rfl⟩ rfl rfl ly53 rfl rfl (Nat.le_of_ble_eq_true rfl) hk2 ?_
  refine s_bipush (v := 8) (pc := 4) dX8_atOf_4 rfl ?_
  refine s_iload_n 1 (pc := 6) dX8_atOf_6 rfl rfl ?_
  refine s_imul (pc := 7) dX8_atOf_7 ?_
  refine s_iload_n 2 (pc := 8) dX8_atOf_8 rfl rfl ?_
  refine s_iadd (pc := 9) dX8_atOf_9 ?_
  refine s_istore (L' := [(4, .int ((8 * x1) + x2)), (0, .ref 53), (1, .int x1), (2, .int x2), (3, .int x3)]) (pc := 10) dX8_atOf_10 (Nat.le_of_ble_eq_true rfl) rfl ?_
  refine s_iload_n 4 (pc := 12) dX8_atOf_12 rfl rfl ?_
  by_cases q3 : x3 = (0 : Int32)
  · replace h := h.1 q3
    refine s_tin (pc := 13) (tgt := 44) 0 dX8_atOf_13 (by rw [q3]; rfl) (by decide) (by decide) rfl rfl ?_
    refine s_aload_n 1 (pc := 44) dX8_atOf_44 rfl rfl ?_
    refine s_getR (q := 75) (pc := 45) dX8_atOf_45 fl_X8_73 ly53 rfl ?_
    refine s_iload 0 (pc := 48) dX8_atOf_48 rfl ?_
    have hv4 := h.1
    replace h := h.2
    refine s_iald (pc := 50) dX8_atOf_50 ly75 hv4 ?_
    exact s_ret (r := some (.int (σ1 75 (((8 * x1) + x2).toNatClampNeg)))) ⟨dX8_atOf_51, fun ty e => by cases e; rfl⟩ rfl h
  replace h := h.2
  by_cases q5 : x3 = (1 : Int32)
  · replace h := h.1 q5
    refine s_tin (pc := 13) (tgt := 52) 1 dX8_atOf_13 (by rw [q5]; rfl) (by decide) (by decide) rfl rfl ?_
    refine s_aload_n 1 (pc := 52) dX8_atOf_52 rfl rfl ?_
    refine s_getR (q := 76) (pc := 53) dX8_atOf_53 fl_X8_76 ly53 rfl ?_
    refine s_iload 0 (pc := 56) dX8_atOf_56 rfl ?_
    have hv6 := h.1
    replace h := h.2
    refine s_iald (pc := 58) dX8_atOf_58 ly76 hv6 ?_
    exact s_ret (r := some (.int (σ1 76 (((8 * x1) + x2).toNatClampNeg)))) ⟨dX8_atOf_59, fun ty e => by cases e; rfl⟩ rfl h
  replace h := h.2
  by_cases q7 : x3 = (2 : Int32)
  · replace h := h.1 q7
    refine s_tin (pc := 13) (tgt := 60) 2 dX8_atOf_13 (by rw [q7]; rfl) (by decide) (by decide) rfl rfl ?_
    refine s_aload_n 1 (pc := 60) dX8_atOf_60 rfl rfl ?_
    refine s_getR (q := 77) (pc := 61) dX8_atOf_61 fl_X8_79 ly53 rfl ?_
    refine s_iload 0 (pc := 64) dX8_atOf_64 rfl ?_
    have hv8 := h.1
    replace h := h.2
    refine s_iald (pc := 66) dX8_atOf_66 ly77 hv8 ?_
    exact s_ret (r := some (.int (σ1 77 (((8 * x1) + x2).toNatClampNeg)))) ⟨dX8_atOf_67, fun ty e => by cases e; rfl⟩ rfl h
  replace h := h.2
  by_cases q9 : x3 = (3 : Int32)
  · replace h := h.1 q9
    refine s_tin (pc := 13) (tgt := 68) 3 dX8_atOf_13 (by rw [q9]; rfl) (by decide) (by decide) rfl rfl ?_
    refine s_aload_n 1 (pc := 68) dX8_atOf_68 rfl rfl ?_
    refine s_getR (q := 79) (pc := 69) dX8_atOf_69 fl_X8_85 ly53 rfl ?_
    refine s_iload_n 2 (pc := 72) dX8_atOf_72 rfl rfl ?_
    have hv10 := h.1
    replace h := h.2
    refine s_iald (pc := 73) dX8_atOf_73 ly79 hv10 ?_
    refine s_iload_n 3 (pc := 74) dX8_atOf_74 rfl rfl ?_
    obtain ⟨r13, σ11, hk12, h⟩ := h
    refine s_callS (S := []) [.int (σ1 79 ((x1).toNatClampNeg)), .int x2] (pc := 75) dX8_atOf_75 ms_X8_isIn ml_X8_199 ⟨Nat.le_of_ble_eq_true rfl, Nat.le_of_ble_eq_true rfl⟩ rfl rfl (Nat.le_of_ble_eq_true rfl) hk12 ?_
    refine s_if_eq (pc := 78) (tgt := 85) dX8_atOf_78 rfl (fun q14 => ?_) (fun q14 => ?_)
    · replace h := h.1 q14
      refine s_iconst (v := 0) (pc := 85) dX8_atOf_85 rfl ?_
      exact s_ret (r := some (.int 0)) ⟨dX8_atOf_86, fun ty e => by cases e; rfl⟩ rfl h
    · replace h := h.2 q14
      refine s_iconst (v := 1) (pc := 81) dX8_atOf_81 rfl ?_
      refine s_goto (pc := 82) (tgt := 86) dX8_atOf_82 rfl ?_
      exact s_ret (r := some (.int 1)) ⟨dX8_atOf_86, fun ty e => by cases e; rfl⟩ rfl h
  replace h := h.2
  replace h := h ⟨q3, q5, q7, q9⟩
  refine s_tout (pc := 13) (tgt := 87) dX8_atOf_13 (tsw_out 4 x3 (lt_s (lt_s (lt_s (lt_s lt_0 q3) q5) q7) q9)) rfl ?_
  refine s_aload_n 1 (pc := 87) dX8_atOf_87 rfl rfl ?_
  refine s_getR (q := 78) (pc := 88) dX8_atOf_88 fl_X8_82 ly53 rfl ?_
  refine s_iload 0 (pc := 91) dX8_atOf_91 rfl ?_
  have hv15 := h.1
  replace h := h.2
  refine s_iald (pc := 93) dX8_atOf_93 ly78 hv15 ?_
  exact s_ret (r := some (.int (σ1 78 (((8 * x1) + x2).toNatClampNeg)))) ⟨dX8_atOf_94, fun ty e => by cases e; rfl⟩ rfl h
set_option maxRecDepth 10000 in
set_option maxHeartbeats 4000000 in
theorem tX8_at_0 {E : Ev} {x1 : Int32} {x2 : Int32} {x3 : Int32} {σ : Hp} {Φ : Option Value → Hp → Prop}  (h : ∃ (r3 : Int32) (σ1 : Hp), Call E mX8_isDay [.int x1] σ (some (.int r3)) σ1 ∧ ((r3 = 0 → Φ (some (.int (-2))) σ1) ∧ (¬ r3 = 0 → ∃ (r7 : Int32) (σ5 : Hp), Call E mX8_isCouple [.ref 53, .int x2] σ1 (some (.int r7)) σ5 ∧ ((r7 = 0 → Φ (some (.int (-2))) σ5) ∧ (¬ r7 = 0 → ∃ (r11 : Int32) (σ9 : Hp), Call E mX8_in [.int x3, .int 0, .int 4] σ5 (some (.int r11)) σ9 ∧ ((r11 = 0 → Φ (some (.int (-2))) σ9) ∧ (¬ r11 = 0 → ∃ (r15 : Int32) (σ13 : Hp), Call E mX8_atOf [.ref 53, .int x1, .int x2, .int x3] σ9 (some (.int r15)) σ13 ∧ Φ (some (.int r15)) σ13))))))) : Ru E mX8_at 0 [(0, .ref 53), (1, .int x1), (2, .int x2), (3, .int x3)] [] σ Φ := by
  refine s_iload_n 1 (pc := 0) dX8_at_0 rfl rfl ?_
  obtain ⟨r3, σ1, hk2, h⟩ := h
  refine s_callS (S := []) [.int x1] (pc := 1) dX8_at_1 ms_X8_isDay ml_X8_160 ⟨Nat.le_of_ble_eq_true rfl, Nat.le_of_ble_eq_true rfl⟩ rfl rfl (Nat.le_of_ble_eq_true rfl) hk2 ?_
  refine s_if_eq (pc := 4) (tgt := 34) dX8_at_4 rfl (fun q4 => ?_) (fun q4 => ?_)
  · replace h := h.1 q4
    refine s_bipush (v := (-2)) (pc := 34) dX8_at_34 rfl ?_
    exact s_ret (r := some (.int (-2))) ⟨dX8_at_36, fun ty e => by cases e; rfl⟩ rfl h
  · replace h := h.2 q4
    refine s_aload_n 0 (pc := 7) dX8_at_7 rfl rfl ?_
    refine s_iload_n 2 (pc := 8) dX8_at_8 rfl rfl ?_
    obtain ⟨r7, σ5, hk6, h⟩ := h
    refine s_callV (S := []) [.int x2] (pc := 9) dX8_at_9 mv_X8_isCouple ml_X8_153 ⟨Nat.le_of_ble_eq_true rfl, Nat.le_of_ble_eq_true rfl⟩ rfl rfl ly53 rfl rfl (Nat.le_of_ble_eq_true rfl) hk6 ?_
    refine s_if_eq (pc := 12) (tgt := 34) dX8_at_12 rfl (fun q8 => ?_) (fun q8 => ?_)
    · replace h := h.1 q8
      refine s_bipush (v := (-2)) (pc := 34) dX8_at_34 rfl ?_
      exact s_ret (r := some (.int (-2))) ⟨dX8_at_36, fun ty e => by cases e; rfl⟩ rfl h
    · replace h := h.2 q8
      refine s_iload_n 3 (pc := 15) dX8_at_15 rfl rfl ?_
      refine s_iconst (v := 0) (pc := 16) dX8_at_16 rfl ?_
      refine s_iconst (v := 4) (pc := 17) dX8_at_17 rfl ?_
      obtain ⟨r11, σ9, hk10, h⟩ := h
      refine s_callS (S := []) [.int x3, .int 0, .int 4] (pc := 18) dX8_at_18 ms_X8_in ml_X8_124 ⟨Nat.le_of_ble_eq_true rfl, Nat.le_of_ble_eq_true rfl⟩ rfl rfl (Nat.le_of_ble_eq_true rfl) hk10 ?_
      refine s_if_eq (pc := 21) (tgt := 34) dX8_at_21 rfl (fun q12 => ?_) (fun q12 => ?_)
      · replace h := h.1 q12
        refine s_bipush (v := (-2)) (pc := 34) dX8_at_34 rfl ?_
        exact s_ret (r := some (.int (-2))) ⟨dX8_at_36, fun ty e => by cases e; rfl⟩ rfl h
      · replace h := h.2 q12
        refine s_aload_n 0 (pc := 24) dX8_at_24 rfl rfl ?_
        refine s_iload_n 1 (pc := 25) dX8_at_25 rfl rfl ?_
        refine s_iload_n 2 (pc := 26) dX8_at_26 rfl rfl ?_
        refine s_iload_n 3 (pc := 27) dX8_at_27 rfl rfl ?_
        obtain ⟨r15, σ13, hk14, h⟩ := h
        refine s_callV (S := []) [.int x1, .int x2, .int x3] (pc := 28) dX8_at_28 mv_X8_atOf ml_X8_222 ⟨Nat.le_of_ble_eq_true rfl, Nat.le_of_ble_eq_true rfl⟩ rfl rfl ly53 rfl rfl (Nat.le_of_ble_eq_true rfl) hk14 ?_
        refine s_goto (pc := 31) (tgt := 36) dX8_at_31 rfl ?_
        exact s_ret (r := some (.int r15)) ⟨dX8_at_36, fun ty e => by cases e; rfl⟩ rfl h
set_option maxRecDepth 10000 in
set_option maxHeartbeats 4000000 in
theorem tX8_legXAt_0 {E : Ev} {x1 : Int32} {σ : Hp} {Φ : Option Value → Hp → Prop}  (h : vp_in x1 160 ∧ ∃ (r6 : Int32) (σ4 : Hp), Call E mX8_legX [.int (σ 73 ((x1).toNatClampNeg)), .int (σ 75 ((x1).toNatClampNeg)), .int (σ 76 ((x1).toNatClampNeg))] σ (some (.int r6)) σ4 ∧ Φ (some (.int r6)) σ4) : Ru E mX8_legXAt 0 [(0, .ref 53), (1, .int x1)] [] σ Φ := by
  refine s_aload_n 0 (pc := 0) dX8_legXAt_0 rfl rfl ?_
  refine s_getR (q := 73) (pc := 1) dX8_legXAt_1 fl_X8_67 ly53 rfl ?_
  refine s_iload_n 1 (pc := 4) dX8_legXAt_4 rfl rfl ?_
  have hv1 := h.1
  replace h := h.2
  refine s_iald (pc := 5) dX8_legXAt_5 ly73 hv1 ?_
  refine s_aload_n 0 (pc := 6) dX8_legXAt_6 rfl rfl ?_
  refine s_getR (q := 75) (pc := 7) dX8_legXAt_7 fl_X8_73 ly53 rfl ?_
  refine s_iload_n 1 (pc := 10) dX8_legXAt_10 rfl rfl ?_
  refine s_iald (pc := 11) dX8_legXAt_11 ly75 hv1 ?_
  refine s_aload_n 0 (pc := 12) dX8_legXAt_12 rfl rfl ?_
  refine s_getR (q := 76) (pc := 13) dX8_legXAt_13 fl_X8_76 ly53 rfl ?_
  refine s_iload_n 1 (pc := 16) dX8_legXAt_16 rfl rfl ?_
  refine s_iald (pc := 17) dX8_legXAt_17 ly76 hv1 ?_
  obtain ⟨r6, σ4, hk5, h⟩ := h
  refine s_callS (S := []) [.int (σ 73 ((x1).toNatClampNeg)), .int (σ 75 ((x1).toNatClampNeg)), .int (σ 76 ((x1).toNatClampNeg))] (pc := 18) dX8_legXAt_18 ms_X8_legX ml_X8_185 ⟨Nat.le_of_ble_eq_true rfl, Nat.le_of_ble_eq_true rfl⟩ rfl rfl (Nat.le_of_ble_eq_true rfl) hk5 ?_
  exact s_ret (r := some (.int r6)) ⟨dX8_legXAt_21, fun ty e => by cases e; rfl⟩ rfl h
set_option maxRecDepth 10000 in
set_option maxHeartbeats 4000000 in
theorem tX8_legYAt_0 {E : Ev} {x1 : Int32} {σ : Hp} {Φ : Option Value → Hp → Prop}  (h : vp_in x1 160 ∧ ∃ (r6 : Int32) (σ4 : Hp), Call E mX8_legY [.int (σ 74 ((x1).toNatClampNeg)), .int (σ 75 ((x1).toNatClampNeg)), .int (σ 76 ((x1).toNatClampNeg))] σ (some (.int r6)) σ4 ∧ Φ (some (.int r6)) σ4) : Ru E mX8_legYAt 0 [(0, .ref 53), (1, .int x1)] [] σ Φ := by
  refine s_aload_n 0 (pc := 0) dX8_legYAt_0 rfl rfl ?_
  refine s_getR (q := 74) (pc := 1) dX8_legYAt_1 fl_X8_70 ly53 rfl ?_
  refine s_iload_n 1 (pc := 4) dX8_legYAt_4 rfl rfl ?_
  have hv1 := h.1
  replace h := h.2
  refine s_iald (pc := 5) dX8_legYAt_5 ly74 hv1 ?_
  refine s_aload_n 0 (pc := 6) dX8_legYAt_6 rfl rfl ?_
  refine s_getR (q := 75) (pc := 7) dX8_legYAt_7 fl_X8_73 ly53 rfl ?_
  refine s_iload_n 1 (pc := 10) dX8_legYAt_10 rfl rfl ?_
  refine s_iald (pc := 11) dX8_legYAt_11 ly75 hv1 ?_
  refine s_aload_n 0 (pc := 12) dX8_legYAt_12 rfl rfl ?_
  refine s_getR (q := 76) (pc := 13) dX8_legYAt_13 fl_X8_76 ly53 rfl ?_
  refine s_iload_n 1 (pc := 16) dX8_legYAt_16 rfl rfl ?_
  refine s_iald (pc := 17) dX8_legYAt_17 ly76 hv1 ?_
  obtain ⟨r6, σ4, hk5, h⟩ := h
  refine s_callS (S := []) [.int (σ 74 ((x1).toNatClampNeg)), .int (σ 75 ((x1).toNatClampNeg)), .int (σ 76 ((x1).toNatClampNeg))] (pc := 18) dX8_legYAt_18 ms_X8_legY ml_X8_189 ⟨Nat.le_of_ble_eq_true rfl, Nat.le_of_ble_eq_true rfl⟩ rfl rfl (Nat.le_of_ble_eq_true rfl) hk5 ?_
  exact s_ret (r := some (.int r6)) ⟨dX8_legYAt_21, fun ty e => by cases e; rfl⟩ rfl h
set_option maxRecDepth 10000 in
set_option maxHeartbeats 4000000 in
theorem tX8_placeOf_0 {E : Ev} {x1 : Int32} {x2 : Int32} {x3 : Int32} {σ : Hp} {Φ : Option Value → Hp → Prop}  (h : ∃ σ1 : Hp, Call E mX8_runsTold [.ref 53] σ none σ1 ∧ ((¬ x3 = 0 → ((¬ x3 = 1 → ((¬ x3 = 2 → ∃ (r8 : Int32) (σ6 : Hp), Call E mX8_legYAt [.ref 53, .int ((8 * x1) + x2)] σ1 (some (.int r8)) σ6 ∧ Φ (some (.int r8)) σ6) ∧ (x3 = 2 → ∃ (r11 : Int32) (σ9 : Hp), Call E mX8_legXAt [.ref 53, .int ((8 * x1) + x2)] σ1 (some (.int r11)) σ9 ∧ Φ (some (.int r11)) σ9))) ∧ (x3 = 1 → vp_in ((8 * x1) + x2) 160 ∧ Φ (some (.int (σ1 74 (((8 * x1) + x2).toNatClampNeg)))) σ1))) ∧ (x3 = 0 → vp_in ((8 * x1) + x2) 160 ∧ Φ (some (.int (σ1 73 (((8 * x1) + x2).toNatClampNeg)))) σ1))) : Ru E mX8_placeOf 0 [(0, .ref 53), (1, .int x1), (2, .int x2), (3, .int x3)] [] σ Φ := by
  refine s_aload_n 0 (pc := 0) dX8_placeOf_0 rfl rfl ?_
  obtain ⟨σ1, hk2, h⟩ := h
  refine s_callV (S := []) [] (pc := 1) dX8_placeOf_1 mv_X8_runsTold ml_X8_219 ⟨Nat.le_of_ble_eq_true rfl, Nat.le_of_ble_eq_true rfl⟩ rfl rfl ly53 rfl rfl (Nat.le_of_ble_eq_true rfl) hk2 ?_
  refine s_bipush (v := 8) (pc := 4) dX8_placeOf_4 rfl ?_
  refine s_iload_n 1 (pc := 6) dX8_placeOf_6 rfl rfl ?_
  refine s_imul (pc := 7) dX8_placeOf_7 ?_
  refine s_iload_n 2 (pc := 8) dX8_placeOf_8 rfl rfl ?_
  refine s_iadd (pc := 9) dX8_placeOf_9 ?_
  refine s_istore (L' := [(4, .int ((8 * x1) + x2)), (0, .ref 53), (1, .int x1), (2, .int x2), (3, .int x3)]) (pc := 10) dX8_placeOf_10 (Nat.le_of_ble_eq_true rfl) rfl ?_
  refine s_iload_n 4 (pc := 12) dX8_placeOf_12 rfl rfl ?_
  refine s_if_ne (pc := 13) (tgt := 26) dX8_placeOf_13 rfl (fun q3 => ?_) (fun q3 => ?_)
  · replace h := h.1 q3
    refine s_iload_n 4 (pc := 26) dX8_placeOf_26 rfl rfl ?_
    refine s_iconst (v := 1) (pc := 27) dX8_placeOf_27 rfl ?_
    refine s_icmp_ne (pc := 28) (tgt := 41) dX8_placeOf_28 rfl (fun q4 => ?_) (fun q4 => ?_)
    · replace h := h.1 q4
      refine s_iload_n 4 (pc := 41) dX8_placeOf_41 rfl rfl ?_
      refine s_iconst (v := 2) (pc := 42) dX8_placeOf_42 rfl ?_
      refine s_icmp_ne (pc := 43) (tgt := 55) dX8_placeOf_43 rfl (fun q5 => ?_) (fun q5 => ?_)
      · replace h := h.1 q5
        refine s_aload_n 1 (pc := 55) dX8_placeOf_55 rfl rfl ?_
        refine s_iload 0 (pc := 56) dX8_placeOf_56 rfl ?_
        obtain ⟨r8, σ6, hk7, h⟩ := h
        refine s_callV (S := []) [.int ((8 * x1) + x2)] (pc := 58) dX8_placeOf_58 mv_X8_legYAt ml_X8_228 ⟨Nat.le_of_ble_eq_true rfl, Nat.le_of_ble_eq_true rfl⟩ rfl rfl ly53 rfl rfl (Nat.le_of_ble_eq_true rfl) hk7 ?_
        exact s_ret (r := some (.int r8)) ⟨dX8_placeOf_61, fun ty e => by cases e; rfl⟩ rfl h
      · replace h := h.2 q5
        refine s_aload_n 1 (pc := 46) dX8_placeOf_46 rfl rfl ?_
        refine s_iload 0 (pc := 47) dX8_placeOf_47 rfl ?_
        obtain ⟨r11, σ9, hk10, h⟩ := h
        refine s_callV (S := []) [.int ((8 * x1) + x2)] (pc := 49) dX8_placeOf_49 mv_X8_legXAt ml_X8_225 ⟨Nat.le_of_ble_eq_true rfl, Nat.le_of_ble_eq_true rfl⟩ rfl rfl ly53 rfl rfl (Nat.le_of_ble_eq_true rfl) hk10 ?_
        refine s_goto (pc := 52) (tgt := 61) dX8_placeOf_52 rfl ?_
        exact s_ret (r := some (.int r11)) ⟨dX8_placeOf_61, fun ty e => by cases e; rfl⟩ rfl h
    · replace h := h.2 q4
      refine s_aload_n 1 (pc := 31) dX8_placeOf_31 rfl rfl ?_
      refine s_getR (q := 74) (pc := 32) dX8_placeOf_32 fl_X8_70 ly53 rfl ?_
      refine s_iload 0 (pc := 35) dX8_placeOf_35 rfl ?_
      have hv12 := h.1
      replace h := h.2
      refine s_iald (pc := 37) dX8_placeOf_37 ly74 hv12 ?_
      refine s_goto (pc := 38) (tgt := 61) dX8_placeOf_38 rfl ?_
      exact s_ret (r := some (.int (σ1 74 (((8 * x1) + x2).toNatClampNeg)))) ⟨dX8_placeOf_61, fun ty e => by cases e; rfl⟩ rfl h
  · replace h := h.2 q3
    refine s_aload_n 1 (pc := 16) dX8_placeOf_16 rfl rfl ?_
    refine s_getR (q := 73) (pc := 17) dX8_placeOf_17 fl_X8_67 ly53 rfl ?_
    refine s_iload 0 (pc := 20) dX8_placeOf_20 rfl ?_
    have hv13 := h.1
    replace h := h.2
    refine s_iald (pc := 22) dX8_placeOf_22 ly73 hv13 ?_
    refine s_goto (pc := 23) (tgt := 61) dX8_placeOf_23 rfl ?_
    exact s_ret (r := some (.int (σ1 73 (((8 * x1) + x2).toNatClampNeg)))) ⟨dX8_placeOf_61, fun ty e => by cases e; rfl⟩ rfl h
set_option maxRecDepth 10000 in
set_option maxHeartbeats 4000000 in
theorem tX8_place_0 {E : Ev} {x1 : Int32} {x2 : Int32} {x3 : Int32} {σ : Hp} {Φ : Option Value → Hp → Prop}  (h : ∃ (r3 : Int32) (σ1 : Hp), Call E mX8_isDay [.int x1] σ (some (.int r3)) σ1 ∧ ((r3 = 0 → Φ (some (.int (-2147483648))) σ1) ∧ (¬ r3 = 0 → ∃ (r7 : Int32) (σ5 : Hp), Call E mX8_isCouple [.ref 53, .int x2] σ1 (some (.int r7)) σ5 ∧ ((r7 = 0 → Φ (some (.int (-2147483648))) σ5) ∧ (¬ r7 = 0 → ∃ (r11 : Int32) (σ9 : Hp), Call E mX8_in [.int x3, .int 0, .int 3] σ5 (some (.int r11)) σ9 ∧ ((r11 = 0 → Φ (some (.int (-2147483648))) σ9) ∧ (¬ r11 = 0 → ∃ (r15 : Int32) (σ13 : Hp), Call E mX8_placeOf [.ref 53, .int x1, .int x2, .int x3] σ9 (some (.int r15)) σ13 ∧ Φ (some (.int r15)) σ13))))))) : Ru E mX8_place 0 [(0, .ref 53), (1, .int x1), (2, .int x2), (3, .int x3)] [] σ Φ := by
  refine s_iload_n 1 (pc := 0) dX8_place_0 rfl rfl ?_
  obtain ⟨r3, σ1, hk2, h⟩ := h
  refine s_callS (S := []) [.int x1] (pc := 1) dX8_place_1 ms_X8_isDay ml_X8_160 ⟨Nat.le_of_ble_eq_true rfl, Nat.le_of_ble_eq_true rfl⟩ rfl rfl (Nat.le_of_ble_eq_true rfl) hk2 ?_
  refine s_if_eq (pc := 4) (tgt := 34) dX8_place_4 rfl (fun q4 => ?_) (fun q4 => ?_)
  · replace h := h.1 q4
    refine s_ldc (v := (-2147483648)) (pc := 34) dX8_place_34 ct_X8_234 ?_
    exact s_ret (r := some (.int (-2147483648))) ⟨dX8_place_36, fun ty e => by cases e; rfl⟩ rfl h
  · replace h := h.2 q4
    refine s_aload_n 0 (pc := 7) dX8_place_7 rfl rfl ?_
    refine s_iload_n 2 (pc := 8) dX8_place_8 rfl rfl ?_
    obtain ⟨r7, σ5, hk6, h⟩ := h
    refine s_callV (S := []) [.int x2] (pc := 9) dX8_place_9 mv_X8_isCouple ml_X8_153 ⟨Nat.le_of_ble_eq_true rfl, Nat.le_of_ble_eq_true rfl⟩ rfl rfl ly53 rfl rfl (Nat.le_of_ble_eq_true rfl) hk6 ?_
    refine s_if_eq (pc := 12) (tgt := 34) dX8_place_12 rfl (fun q8 => ?_) (fun q8 => ?_)
    · replace h := h.1 q8
      refine s_ldc (v := (-2147483648)) (pc := 34) dX8_place_34 ct_X8_234 ?_
      exact s_ret (r := some (.int (-2147483648))) ⟨dX8_place_36, fun ty e => by cases e; rfl⟩ rfl h
    · replace h := h.2 q8
      refine s_iload_n 3 (pc := 15) dX8_place_15 rfl rfl ?_
      refine s_iconst (v := 0) (pc := 16) dX8_place_16 rfl ?_
      refine s_iconst (v := 3) (pc := 17) dX8_place_17 rfl ?_
      obtain ⟨r11, σ9, hk10, h⟩ := h
      refine s_callS (S := []) [.int x3, .int 0, .int 3] (pc := 18) dX8_place_18 ms_X8_in ml_X8_124 ⟨Nat.le_of_ble_eq_true rfl, Nat.le_of_ble_eq_true rfl⟩ rfl rfl (Nat.le_of_ble_eq_true rfl) hk10 ?_
      refine s_if_eq (pc := 21) (tgt := 34) dX8_place_21 rfl (fun q12 => ?_) (fun q12 => ?_)
      · replace h := h.1 q12
        refine s_ldc (v := (-2147483648)) (pc := 34) dX8_place_34 ct_X8_234 ?_
        exact s_ret (r := some (.int (-2147483648))) ⟨dX8_place_36, fun ty e => by cases e; rfl⟩ rfl h
      · replace h := h.2 q12
        refine s_aload_n 0 (pc := 24) dX8_place_24 rfl rfl ?_
        refine s_iload_n 1 (pc := 25) dX8_place_25 rfl rfl ?_
        refine s_iload_n 2 (pc := 26) dX8_place_26 rfl rfl ?_
        refine s_iload_n 3 (pc := 27) dX8_place_27 rfl rfl ?_
        obtain ⟨r15, σ13, hk14, h⟩ := h
        refine s_callV (S := []) [.int x1, .int x2, .int x3] (pc := 28) dX8_place_28 mv_X8_placeOf ml_X8_231 ⟨Nat.le_of_ble_eq_true rfl, Nat.le_of_ble_eq_true rfl⟩ rfl rfl ly53 rfl rfl (Nat.le_of_ble_eq_true rfl) hk14 ?_
        refine s_goto (pc := 31) (tgt := 36) dX8_place_31 rfl ?_
        exact s_ret (r := some (.int r15)) ⟨dX8_place_36, fun ty e => by cases e; rfl⟩ rfl h
set_option maxRecDepth 10000 in
set_option maxHeartbeats 4000000 in
theorem tX8_areNow_0 {E : Ev} {x1 : Int32} {x2 : Int32} {x3 : Int32} {σ : Hp} {Φ : Option Value → Hp → Prop}  (h : vp_in ((8 * x1) + x2) 160 ∧ vp_in ((8 * x1) + x3) 160 ∧ ((¬ ((((σ 73 (((8 * x1) + x2).toNatClampNeg)) - (σ 73 (((8 * x1) + x3).toNatClampNeg))) * ((σ 73 (((8 * x1) + x2).toNatClampNeg)) - (σ 73 (((8 * x1) + x3).toNatClampNeg)))) + (((σ 74 (((8 * x1) + x2).toNatClampNeg)) - (σ 74 (((8 * x1) + x3).toNatClampNeg))) * ((σ 74 (((8 * x1) + x2).toNatClampNeg)) - (σ 74 (((8 * x1) + x3).toNatClampNeg))))) = 0 → Ru E mX8_areNow 109 [(0, .ref 53), (1, .int x1), (2, .int x2), (3, .int x3), (4, .int ((8 * x1) + x2)), (5, .int ((8 * x1) + x3)), (6, .int ((σ 73 (((8 * x1) + x2).toNatClampNeg)) - (σ 73 (((8 * x1) + x3).toNatClampNeg)))), (7, .int ((σ 74 (((8 * x1) + x2).toNatClampNeg)) - (σ 74 (((8 * x1) + x3).toNatClampNeg)))), (8, .int ((((σ 73 (((8 * x1) + x2).toNatClampNeg)) - (σ 73 (((8 * x1) + x3).toNatClampNeg))) * ((σ 73 (((8 * x1) + x2).toNatClampNeg)) - (σ 73 (((8 * x1) + x3).toNatClampNeg)))) + (((σ 74 (((8 * x1) + x2).toNatClampNeg)) - (σ 74 (((8 * x1) + x3).toNatClampNeg))) * ((σ 74 (((8 * x1) + x2).toNatClampNeg)) - (σ 74 (((8 * x1) + x3).toNatClampNeg)))))), (9, .int ((σ 75 (((8 * x1) + x2).toNatClampNeg)) + (σ 75 (((8 * x1) + x3).toNatClampNeg)))), (10, .int ((σ 75 (((8 * x1) + x2).toNatClampNeg)) - (σ 75 (((8 * x1) + x3).toNatClampNeg))))] [] σ Φ) ∧ (((((σ 73 (((8 * x1) + x2).toNatClampNeg)) - (σ 73 (((8 * x1) + x3).toNatClampNeg))) * ((σ 73 (((8 * x1) + x2).toNatClampNeg)) - (σ 73 (((8 * x1) + x3).toNatClampNeg)))) + (((σ 74 (((8 * x1) + x2).toNatClampNeg)) - (σ 74 (((8 * x1) + x3).toNatClampNeg))) * ((σ 74 (((8 * x1) + x2).toNatClampNeg)) - (σ 74 (((8 * x1) + x3).toNatClampNeg))))) = 0 → ((¬ ((σ 75 (((8 * x1) + x2).toNatClampNeg)) - (σ 75 (((8 * x1) + x3).toNatClampNeg))) = 0 → Ru E mX8_areNow 109 [(0, .ref 53), (1, .int x1), (2, .int x2), (3, .int x3), (4, .int ((8 * x1) + x2)), (5, .int ((8 * x1) + x3)), (6, .int ((σ 73 (((8 * x1) + x2).toNatClampNeg)) - (σ 73 (((8 * x1) + x3).toNatClampNeg)))), (7, .int ((σ 74 (((8 * x1) + x2).toNatClampNeg)) - (σ 74 (((8 * x1) + x3).toNatClampNeg)))), (8, .int ((((σ 73 (((8 * x1) + x2).toNatClampNeg)) - (σ 73 (((8 * x1) + x3).toNatClampNeg))) * ((σ 73 (((8 * x1) + x2).toNatClampNeg)) - (σ 73 (((8 * x1) + x3).toNatClampNeg)))) + (((σ 74 (((8 * x1) + x2).toNatClampNeg)) - (σ 74 (((8 * x1) + x3).toNatClampNeg))) * ((σ 74 (((8 * x1) + x2).toNatClampNeg)) - (σ 74 (((8 * x1) + x3).toNatClampNeg)))))), (9, .int ((σ 75 (((8 * x1) + x2).toNatClampNeg)) + (σ 75 (((8 * x1) + x3).toNatClampNeg)))), (10, .int ((σ 75 (((8 * x1) + x2).toNatClampNeg)) - (σ 75 (((8 * x1) + x3).toNatClampNeg))))] [] σ Φ) ∧ (((σ 75 (((8 * x1) + x2).toNatClampNeg)) - (σ 75 (((8 * x1) + x3).toNatClampNeg))) = 0 → Φ (some (.int 5)) σ))))) : Ru E mX8_areNow 0 [(0, .ref 53), (1, .int x1), (2, .int x2), (3, .int x3)] [] σ Φ := by
  refine s_bipush (v := 8) (pc := 0) dX8_areNow_0 rfl ?_
  refine s_iload_n 1 (pc := 2) dX8_areNow_2 rfl rfl ?_
  refine s_imul (pc := 3) dX8_areNow_3 ?_
  refine s_iload_n 2 (pc := 4) dX8_areNow_4 rfl rfl ?_
  refine s_iadd (pc := 5) dX8_areNow_5 ?_
  refine s_istore (L' := [(4, .int ((8 * x1) + x2)), (0, .ref 53), (1, .int x1), (2, .int x2), (3, .int x3)]) (pc := 6) dX8_areNow_6 (Nat.le_of_ble_eq_true rfl) rfl ?_
  refine s_bipush (v := 8) (pc := 8) dX8_areNow_8 rfl ?_
  refine s_iload_n 2 (pc := 10) dX8_areNow_10 rfl rfl ?_
  refine s_imul (pc := 11) dX8_areNow_11 ?_
  refine s_iload_n 4 (pc := 12) dX8_areNow_12 rfl rfl ?_
  refine s_iadd (pc := 13) dX8_areNow_13 ?_
  refine s_istore (L' := [(5, .int ((8 * x1) + x3)), (4, .int ((8 * x1) + x2)), (0, .ref 53), (1, .int x1), (2, .int x2), (3, .int x3)]) (pc := 14) dX8_areNow_14 (Nat.le_of_ble_eq_true rfl) rfl ?_
  refine s_aload_n 2 (pc := 16) dX8_areNow_16 rfl rfl ?_
  refine s_getR (q := 73) (pc := 17) dX8_areNow_17 fl_X8_67 ly53 rfl ?_
  refine s_iload 1 (pc := 20) dX8_areNow_20 rfl ?_
  have hv1 := h.1
  replace h := h.2
  refine s_iald (pc := 22) dX8_areNow_22 ly73 hv1 ?_
  refine s_aload_n 2 (pc := 23) dX8_areNow_23 rfl rfl ?_
  refine s_getR (q := 73) (pc := 24) dX8_areNow_24 fl_X8_67 ly53 rfl ?_
  refine s_iload 0 (pc := 27) dX8_areNow_27 rfl ?_
  have hv2 := h.1
  replace h := h.2
  refine s_iald (pc := 29) dX8_areNow_29 ly73 hv2 ?_
  refine s_isub (pc := 30) dX8_areNow_30 ?_
  refine s_istore (L' := [(6, .int ((σ 73 (((8 * x1) + x2).toNatClampNeg)) - (σ 73 (((8 * x1) + x3).toNatClampNeg)))), (5, .int ((8 * x1) + x3)), (4, .int ((8 * x1) + x2)), (0, .ref 53), (1, .int x1), (2, .int x2), (3, .int x3)]) (pc := 31) dX8_areNow_31 (Nat.le_of_ble_eq_true rfl) rfl ?_
  refine s_aload_n 3 (pc := 33) dX8_areNow_33 rfl rfl ?_
  refine s_getR (q := 74) (pc := 34) dX8_areNow_34 fl_X8_70 ly53 rfl ?_
  refine s_iload 2 (pc := 37) dX8_areNow_37 rfl ?_
  refine s_iald (pc := 39) dX8_areNow_39 ly74 hv1 ?_
  refine s_aload_n 3 (pc := 40) dX8_areNow_40 rfl rfl ?_
  refine s_getR (q := 74) (pc := 41) dX8_areNow_41 fl_X8_70 ly53 rfl ?_
  refine s_iload 1 (pc := 44) dX8_areNow_44 rfl ?_
  refine s_iald (pc := 46) dX8_areNow_46 ly74 hv2 ?_
  refine s_isub (pc := 47) dX8_areNow_47 ?_
  refine s_istore (L' := [(7, .int ((σ 74 (((8 * x1) + x2).toNatClampNeg)) - (σ 74 (((8 * x1) + x3).toNatClampNeg)))), (6, .int ((σ 73 (((8 * x1) + x2).toNatClampNeg)) - (σ 73 (((8 * x1) + x3).toNatClampNeg)))), (5, .int ((8 * x1) + x3)), (4, .int ((8 * x1) + x2)), (0, .ref 53), (1, .int x1), (2, .int x2), (3, .int x3)]) (pc := 48) dX8_areNow_48 (Nat.le_of_ble_eq_true rfl) rfl ?_
  refine s_iload 1 (pc := 50) dX8_areNow_50 rfl ?_
  refine s_iload 1 (pc := 52) dX8_areNow_52 rfl ?_
  refine s_imul (pc := 54) dX8_areNow_54 ?_
  refine s_iload 0 (pc := 55) dX8_areNow_55 rfl ?_
  refine s_iload 0 (pc := 57) dX8_areNow_57 rfl ?_
  refine s_imul (pc := 59) dX8_areNow_59 ?_
  refine s_iadd (pc := 60) dX8_areNow_60 ?_
  refine s_istore (L' := [(8, .int ((((σ 73 (((8 * x1) + x2).toNatClampNeg)) - (σ 73 (((8 * x1) + x3).toNatClampNeg))) * ((σ 73 (((8 * x1) + x2).toNatClampNeg)) - (σ 73 (((8 * x1) + x3).toNatClampNeg)))) + (((σ 74 (((8 * x1) + x2).toNatClampNeg)) - (σ 74 (((8 * x1) + x3).toNatClampNeg))) * ((σ 74 (((8 * x1) + x2).toNatClampNeg)) - (σ 74 (((8 * x1) + x3).toNatClampNeg)))))), (7, .int ((σ 74 (((8 * x1) + x2).toNatClampNeg)) - (σ 74 (((8 * x1) + x3).toNatClampNeg)))), (6, .int ((σ 73 (((8 * x1) + x2).toNatClampNeg)) - (σ 73 (((8 * x1) + x3).toNatClampNeg)))), (5, .int ((8 * x1) + x3)), (4, .int ((8 * x1) + x2)), (0, .ref 53), (1, .int x1), (2, .int x2), (3, .int x3)]) (pc := 61) dX8_areNow_61 (Nat.le_of_ble_eq_true rfl) rfl ?_
  refine s_aload_n 5 (pc := 63) dX8_areNow_63 rfl rfl ?_
  refine s_getR (q := 75) (pc := 64) dX8_areNow_64 fl_X8_73 ly53 rfl ?_
  refine s_iload 4 (pc := 67) dX8_areNow_67 rfl ?_
  refine s_iald (pc := 69) dX8_areNow_69 ly75 hv1 ?_
  refine s_aload_n 5 (pc := 70) dX8_areNow_70 rfl rfl ?_
  refine s_getR (q := 75) (pc := 71) dX8_areNow_71 fl_X8_73 ly53 rfl ?_
  refine s_iload 3 (pc := 74) dX8_areNow_74 rfl ?_
  refine s_iald (pc := 76) dX8_areNow_76 ly75 hv2 ?_
  refine s_iadd (pc := 77) dX8_areNow_77 ?_
  refine s_istore (L' := [(9, .int ((σ 75 (((8 * x1) + x2).toNatClampNeg)) + (σ 75 (((8 * x1) + x3).toNatClampNeg)))), (8, .int ((((σ 73 (((8 * x1) + x2).toNatClampNeg)) - (σ 73 (((8 * x1) + x3).toNatClampNeg))) * ((σ 73 (((8 * x1) + x2).toNatClampNeg)) - (σ 73 (((8 * x1) + x3).toNatClampNeg)))) + (((σ 74 (((8 * x1) + x2).toNatClampNeg)) - (σ 74 (((8 * x1) + x3).toNatClampNeg))) * ((σ 74 (((8 * x1) + x2).toNatClampNeg)) - (σ 74 (((8 * x1) + x3).toNatClampNeg)))))), (7, .int ((σ 74 (((8 * x1) + x2).toNatClampNeg)) - (σ 74 (((8 * x1) + x3).toNatClampNeg)))), (6, .int ((σ 73 (((8 * x1) + x2).toNatClampNeg)) - (σ 73 (((8 * x1) + x3).toNatClampNeg)))), (5, .int ((8 * x1) + x3)), (4, .int ((8 * x1) + x2)), (0, .ref 53), (1, .int x1), (2, .int x2), (3, .int x3)]) (pc := 78) dX8_areNow_78 (Nat.le_of_ble_eq_true rfl) rfl ?_
  refine s_aload_n 6 (pc := 80) dX8_areNow_80 rfl rfl ?_
  refine s_getR (q := 75) (pc := 81) dX8_areNow_81 fl_X8_73 ly53 rfl ?_
  refine s_iload 5 (pc := 84) dX8_areNow_84 rfl ?_
  refine s_iald (pc := 86) dX8_areNow_86 ly75 hv1 ?_
  refine s_aload_n 6 (pc := 87) dX8_areNow_87 rfl rfl ?_
  refine s_getR (q := 75) (pc := 88) dX8_areNow_88 fl_X8_73 ly53 rfl ?_
  refine s_iload 4 (pc := 91) dX8_areNow_91 rfl ?_
  refine s_iald (pc := 93) dX8_areNow_93 ly75 hv2 ?_
  refine s_isub (pc := 94) dX8_areNow_94 ?_
  refine s_istore (L' := [(10, .int ((σ 75 (((8 * x1) + x2).toNatClampNeg)) - (σ 75 (((8 * x1) + x3).toNatClampNeg)))), (9, .int ((σ 75 (((8 * x1) + x2).toNatClampNeg)) + (σ 75 (((8 * x1) + x3).toNatClampNeg)))), (8, .int ((((σ 73 (((8 * x1) + x2).toNatClampNeg)) - (σ 73 (((8 * x1) + x3).toNatClampNeg))) * ((σ 73 (((8 * x1) + x2).toNatClampNeg)) - (σ 73 (((8 * x1) + x3).toNatClampNeg)))) + (((σ 74 (((8 * x1) + x2).toNatClampNeg)) - (σ 74 (((8 * x1) + x3).toNatClampNeg))) * ((σ 74 (((8 * x1) + x2).toNatClampNeg)) - (σ 74 (((8 * x1) + x3).toNatClampNeg)))))), (7, .int ((σ 74 (((8 * x1) + x2).toNatClampNeg)) - (σ 74 (((8 * x1) + x3).toNatClampNeg)))), (6, .int ((σ 73 (((8 * x1) + x2).toNatClampNeg)) - (σ 73 (((8 * x1) + x3).toNatClampNeg)))), (5, .int ((8 * x1) + x3)), (4, .int ((8 * x1) + x2)), (0, .ref 53), (1, .int x1), (2, .int x2), (3, .int x3)]) (pc := 95) dX8_areNow_95 (Nat.le_of_ble_eq_true rfl) rfl ?_
  refine s_iload 2 (pc := 97) dX8_areNow_97 rfl ?_
  refine s_if_ne (pc := 99) (tgt := 109) dX8_areNow_99 rfl (fun q9 => ?_) (fun q9 => ?_)
  · replace h := h.1 q9
    exact s_sub (L' := [(0, .ref 53), (1, .int x1), (2, .int x2), (3, .int x3), (4, .int ((8 * x1) + x2)), (5, .int ((8 * x1) + x3)), (6, .int ((σ 73 (((8 * x1) + x2).toNatClampNeg)) - (σ 73 (((8 * x1) + x3).toNatClampNeg)))), (7, .int ((σ 74 (((8 * x1) + x2).toNatClampNeg)) - (σ 74 (((8 * x1) + x3).toNatClampNeg)))), (8, .int ((((σ 73 (((8 * x1) + x2).toNatClampNeg)) - (σ 73 (((8 * x1) + x3).toNatClampNeg))) * ((σ 73 (((8 * x1) + x2).toNatClampNeg)) - (σ 73 (((8 * x1) + x3).toNatClampNeg)))) + (((σ 74 (((8 * x1) + x2).toNatClampNeg)) - (σ 74 (((8 * x1) + x3).toNatClampNeg))) * ((σ 74 (((8 * x1) + x2).toNatClampNeg)) - (σ 74 (((8 * x1) + x3).toNatClampNeg)))))), (9, .int ((σ 75 (((8 * x1) + x2).toNatClampNeg)) + (σ 75 (((8 * x1) + x3).toNatClampNeg)))), (10, .int ((σ 75 (((8 * x1) + x2).toNatClampNeg)) - (σ 75 (((8 * x1) + x3).toNatClampNeg))))]) [7, 8, 9, 10, 6, 5, 4, 3, 2, 1, 0] rfl h
  · replace h := h.2 q9
    refine s_iload 0 (pc := 102) dX8_areNow_102 rfl ?_
    refine s_if_ne (pc := 104) (tgt := 109) dX8_areNow_104 rfl (fun q10 => ?_) (fun q10 => ?_)
    · replace h := h.1 q10
      exact s_sub (L' := [(0, .ref 53), (1, .int x1), (2, .int x2), (3, .int x3), (4, .int ((8 * x1) + x2)), (5, .int ((8 * x1) + x3)), (6, .int ((σ 73 (((8 * x1) + x2).toNatClampNeg)) - (σ 73 (((8 * x1) + x3).toNatClampNeg)))), (7, .int ((σ 74 (((8 * x1) + x2).toNatClampNeg)) - (σ 74 (((8 * x1) + x3).toNatClampNeg)))), (8, .int ((((σ 73 (((8 * x1) + x2).toNatClampNeg)) - (σ 73 (((8 * x1) + x3).toNatClampNeg))) * ((σ 73 (((8 * x1) + x2).toNatClampNeg)) - (σ 73 (((8 * x1) + x3).toNatClampNeg)))) + (((σ 74 (((8 * x1) + x2).toNatClampNeg)) - (σ 74 (((8 * x1) + x3).toNatClampNeg))) * ((σ 74 (((8 * x1) + x2).toNatClampNeg)) - (σ 74 (((8 * x1) + x3).toNatClampNeg)))))), (9, .int ((σ 75 (((8 * x1) + x2).toNatClampNeg)) + (σ 75 (((8 * x1) + x3).toNatClampNeg)))), (10, .int ((σ 75 (((8 * x1) + x2).toNatClampNeg)) - (σ 75 (((8 * x1) + x3).toNatClampNeg))))]) [7, 8, 9, 10, 6, 5, 4, 3, 2, 1, 0] rfl h
    · replace h := h.2 q10
      refine s_iconst (v := 5) (pc := 107) dX8_areNow_107 rfl ?_
      exact s_ret (r := some (.int 5)) ⟨dX8_areNow_108, fun ty e => by cases e; rfl⟩ rfl h
set_option maxRecDepth 10000 in
set_option maxHeartbeats 4000000 in
theorem tX8_areNow_109 {E : Ev} {x1 : Int32} {x2 : Int32} {x3 : Int32} {x4 : Int32} {x5 : Int32} {x6 : Int32} {x7 : Int32} {x8 : Int32} {x9 : Int32} {x10 : Int32} {σ : Hp} {Φ : Option Value → Hp → Prop}  (h : ((x8 ≤ (x9 * x9) → ((¬ x8 = (x9 * x9) → (((x10 * x10) ≤ x8 → ((¬ x8 = (x10 * x10) → Φ (some (.int 2)) σ) ∧ (x8 = (x10 * x10) → Φ (some (.int 3)) σ))) ∧ (¬ (x10 * x10) ≤ x8 → Φ (some (.int 4)) σ))) ∧ (x8 = (x9 * x9) → Φ (some (.int 1)) σ))) ∧ (¬ x8 ≤ (x9 * x9) → Φ (some (.int 0)) σ))) : Ru E mX8_areNow 109 [(0, .ref 53), (1, .int x1), (2, .int x2), (3, .int x3), (4, .int x4), (5, .int x5), (6, .int x6), (7, .int x7), (8, .int x8), (9, .int x9), (10, .int x10)] [] σ Φ := by
  refine s_iload 8 (pc := 109) dX8_areNow_109 rfl ?_
  refine s_iload 9 (pc := 111) dX8_areNow_111 rfl ?_
  refine s_iload 9 (pc := 113) dX8_areNow_113 rfl ?_
  refine s_imul (pc := 115) dX8_areNow_115 ?_
  refine s_icmp_le (pc := 116) (tgt := 121) dX8_areNow_116 rfl (fun q1 => ?_) (fun q1 => ?_)
  · replace h := h.1 q1
    refine s_iload 8 (pc := 121) dX8_areNow_121 rfl ?_
    refine s_iload 9 (pc := 123) dX8_areNow_123 rfl ?_
    refine s_iload 9 (pc := 125) dX8_areNow_125 rfl ?_
    refine s_imul (pc := 127) dX8_areNow_127 ?_
    refine s_icmp_ne (pc := 128) (tgt := 133) dX8_areNow_128 rfl (fun q2 => ?_) (fun q2 => ?_)
    · replace h := h.1 q2
      refine s_iload 8 (pc := 133) dX8_areNow_133 rfl ?_
      refine s_iload 10 (pc := 135) dX8_areNow_135 rfl ?_
      refine s_iload 10 (pc := 137) dX8_areNow_137 rfl ?_
      refine s_imul (pc := 139) dX8_areNow_139 ?_
      refine s_icmp_ge (pc := 140) (tgt := 147) dX8_areNow_140 rfl (fun q3 => ?_) (fun q3 => ?_)
      · replace h := h.1 q3
        refine s_iload 8 (pc := 147) dX8_areNow_147 rfl ?_
        refine s_iload 10 (pc := 149) dX8_areNow_149 rfl ?_
        refine s_iload 10 (pc := 151) dX8_areNow_151 rfl ?_
        refine s_imul (pc := 153) dX8_areNow_153 ?_
        refine s_icmp_ne (pc := 154) (tgt := 161) dX8_areNow_154 rfl (fun q4 => ?_) (fun q4 => ?_)
        · replace h := h.1 q4
          refine s_iconst (v := 2) (pc := 161) dX8_areNow_161 rfl ?_
          exact s_ret (r := some (.int 2)) ⟨dX8_areNow_162, fun ty e => by cases e; rfl⟩ rfl h
        · replace h := h.2 q4
          refine s_iconst (v := 3) (pc := 157) dX8_areNow_157 rfl ?_
          refine s_goto (pc := 158) (tgt := 162) dX8_areNow_158 rfl ?_
          exact s_ret (r := some (.int 3)) ⟨dX8_areNow_162, fun ty e => by cases e; rfl⟩ rfl h
      · replace h := h.2 q3
        refine s_iconst (v := 4) (pc := 143) dX8_areNow_143 rfl ?_
        refine s_goto (pc := 144) (tgt := 162) dX8_areNow_144 rfl ?_
        exact s_ret (r := some (.int 4)) ⟨dX8_areNow_162, fun ty e => by cases e; rfl⟩ rfl h
    · replace h := h.2 q2
      refine s_iconst (v := 1) (pc := 131) dX8_areNow_131 rfl ?_
      exact s_ret (r := some (.int 1)) ⟨dX8_areNow_132, fun ty e => by cases e; rfl⟩ rfl h
  · replace h := h.2 q1
    refine s_iconst (v := 0) (pc := 119) dX8_areNow_119 rfl ?_
    exact s_ret (r := some (.int 0)) ⟨dX8_areNow_120, fun ty e => by cases e; rfl⟩ rfl h
set_option maxRecDepth 10000 in
set_option maxHeartbeats 4000000 in
theorem tX8_areOf_0 {E : Ev} {x1 : Int32} {x2 : Int32} {x3 : Int32} {σ : Hp} {Φ : Option Value → Hp → Prop}  (h : ∃ σ1 : Hp, Call E mX8_runsTold [.ref 53] σ none σ1 ∧ ∃ (r5 : Int32) (σ3 : Hp), Call E mX8_areNow [.ref 53, .int x1, .int x2, .int x3] σ1 (some (.int r5)) σ3 ∧ Φ (some (.int r5)) σ3) : Ru E mX8_areOf 0 [(0, .ref 53), (1, .int x1), (2, .int x2), (3, .int x3)] [] σ Φ := by
  refine s_aload_n 0 (pc := 0) dX8_areOf_0 rfl rfl ?_
  obtain ⟨σ1, hk2, h⟩ := h
  refine s_callV (S := []) [] (pc := 1) dX8_areOf_1 mv_X8_runsTold ml_X8_219 ⟨Nat.le_of_ble_eq_true rfl, Nat.le_of_ble_eq_true rfl⟩ rfl rfl ly53 rfl rfl (Nat.le_of_ble_eq_true rfl) hk2 ?_
  refine s_aload_n 0 (pc := 4) dX8_areOf_4 rfl rfl ?_
  refine s_iload_n 1 (pc := 5) dX8_areOf_5 rfl rfl ?_
  refine s_iload_n 2 (pc := 6) dX8_areOf_6 rfl rfl ?_
  refine s_iload_n 3 (pc := 7) dX8_areOf_7 rfl rfl ?_
  obtain ⟨r5, σ3, hk4, h⟩ := h
  refine s_callV (S := []) [.int x1, .int x2, .int x3] (pc := 8) dX8_areOf_8 mv_X8_areNow ml_X8_235 ⟨Nat.le_of_ble_eq_true rfl, Nat.le_of_ble_eq_true rfl⟩ rfl rfl ly53 rfl rfl (Nat.le_of_ble_eq_true rfl) hk4 ?_
  exact s_ret (r := some (.int r5)) ⟨dX8_areOf_11, fun ty e => by cases e; rfl⟩ rfl h
set_option maxRecDepth 10000 in
set_option maxHeartbeats 4000000 in
theorem tX8_are_0 {E : Ev} {x1 : Int32} {x2 : Int32} {x3 : Int32} {σ : Hp} {Φ : Option Value → Hp → Prop}  (h : ∃ (r3 : Int32) (σ1 : Hp), Call E mX8_isDay [.int x1] σ (some (.int r3)) σ1 ∧ ((r3 = 0 → Φ (some (.int (-2))) σ1) ∧ (¬ r3 = 0 → ∃ (r7 : Int32) (σ5 : Hp), Call E mX8_isCouple [.ref 53, .int x2] σ1 (some (.int r7)) σ5 ∧ ((r7 = 0 → Φ (some (.int (-2))) σ5) ∧ (¬ r7 = 0 → ∃ (r11 : Int32) (σ9 : Hp), Call E mX8_isCouple [.ref 53, .int x3] σ5 (some (.int r11)) σ9 ∧ ((r11 = 0 → Φ (some (.int (-2))) σ9) ∧ (¬ r11 = 0 → ((x2 = x3 → Φ (some (.int (-2))) σ9) ∧ (¬ x2 = x3 → ∃ (r16 : Int32) (σ14 : Hp), Call E mX8_areOf [.ref 53, .int x1, .int x2, .int x3] σ9 (some (.int r16)) σ14 ∧ Φ (some (.int r16)) σ14))))))))) : Ru E mX8_are 0 [(0, .ref 53), (1, .int x1), (2, .int x2), (3, .int x3)] [] σ Φ := by
  refine s_iload_n 1 (pc := 0) dX8_are_0 rfl rfl ?_
  obtain ⟨r3, σ1, hk2, h⟩ := h
  refine s_callS (S := []) [.int x1] (pc := 1) dX8_are_1 ms_X8_isDay ml_X8_160 ⟨Nat.le_of_ble_eq_true rfl, Nat.le_of_ble_eq_true rfl⟩ rfl rfl (Nat.le_of_ble_eq_true rfl) hk2 ?_
  refine s_if_eq (pc := 4) (tgt := 38) dX8_are_4 rfl (fun q4 => ?_) (fun q4 => ?_)
  · replace h := h.1 q4
    refine s_bipush (v := (-2)) (pc := 38) dX8_are_38 rfl ?_
    exact s_ret (r := some (.int (-2))) ⟨dX8_are_40, fun ty e => by cases e; rfl⟩ rfl h
  · replace h := h.2 q4
    refine s_aload_n 0 (pc := 7) dX8_are_7 rfl rfl ?_
    refine s_iload_n 2 (pc := 8) dX8_are_8 rfl rfl ?_
    obtain ⟨r7, σ5, hk6, h⟩ := h
    refine s_callV (S := []) [.int x2] (pc := 9) dX8_are_9 mv_X8_isCouple ml_X8_153 ⟨Nat.le_of_ble_eq_true rfl, Nat.le_of_ble_eq_true rfl⟩ rfl rfl ly53 rfl rfl (Nat.le_of_ble_eq_true rfl) hk6 ?_
    refine s_if_eq (pc := 12) (tgt := 38) dX8_are_12 rfl (fun q8 => ?_) (fun q8 => ?_)
    · replace h := h.1 q8
      refine s_bipush (v := (-2)) (pc := 38) dX8_are_38 rfl ?_
      exact s_ret (r := some (.int (-2))) ⟨dX8_are_40, fun ty e => by cases e; rfl⟩ rfl h
    · replace h := h.2 q8
      refine s_aload_n 0 (pc := 15) dX8_are_15 rfl rfl ?_
      refine s_iload_n 3 (pc := 16) dX8_are_16 rfl rfl ?_
      obtain ⟨r11, σ9, hk10, h⟩ := h
      refine s_callV (S := []) [.int x3] (pc := 17) dX8_are_17 mv_X8_isCouple ml_X8_153 ⟨Nat.le_of_ble_eq_true rfl, Nat.le_of_ble_eq_true rfl⟩ rfl rfl ly53 rfl rfl (Nat.le_of_ble_eq_true rfl) hk10 ?_
      refine s_if_eq (pc := 20) (tgt := 38) dX8_are_20 rfl (fun q12 => ?_) (fun q12 => ?_)
      · replace h := h.1 q12
        refine s_bipush (v := (-2)) (pc := 38) dX8_are_38 rfl ?_
        exact s_ret (r := some (.int (-2))) ⟨dX8_are_40, fun ty e => by cases e; rfl⟩ rfl h
      · replace h := h.2 q12
        refine s_iload_n 2 (pc := 23) dX8_are_23 rfl rfl ?_
        refine s_iload_n 3 (pc := 24) dX8_are_24 rfl rfl ?_
        refine s_icmp_eq (pc := 25) (tgt := 38) dX8_are_25 rfl (fun q13 => ?_) (fun q13 => ?_)
        · replace h := h.1 q13
          refine s_bipush (v := (-2)) (pc := 38) dX8_are_38 rfl ?_
          exact s_ret (r := some (.int (-2))) ⟨dX8_are_40, fun ty e => by cases e; rfl⟩ rfl h
        · replace h := h.2 q13
          refine s_aload_n 0 (pc := 28) dX8_are_28 rfl rfl ?_
          refine s_iload_n 1 (pc := 29) dX8_are_29 rfl rfl ?_
          refine s_iload_n 2 (pc := 30) dX8_are_30 rfl rfl ?_
          refine s_iload_n 3 (pc := 31) dX8_are_31 rfl rfl ?_
          obtain ⟨r16, σ14, hk15, h⟩ := h
          refine s_callV (S := []) [.int x1, .int x2, .int x3] (pc := 32) dX8_are_32 mv_X8_areOf ml_X8_238 ⟨Nat.le_of_ble_eq_true rfl, Nat.le_of_ble_eq_true rfl⟩ rfl rfl ly53 rfl rfl (Nat.le_of_ble_eq_true rfl) hk15 ?_
          refine s_goto (pc := 35) (tgt := 40) dX8_are_35 rfl ?_
          exact s_ret (r := some (.int r16)) ⟨dX8_are_40, fun ty e => by cases e; rfl⟩ rfl h
set_option maxRecDepth 10000 in
set_option maxHeartbeats 4000000 in
theorem tX8_pairsNow_0 {E : Ev} {x1 : Int32} {x2 : Int32} {σ : Hp} {Φ : Option Value → Hp → Prop}  (h : Ru E mX8_pairsNow 5 [(0, .ref 53), (1, .int x1), (2, .int x2), (3, .int 0), (4, .int 0)] [] σ Φ) : Ru E mX8_pairsNow 0 [(0, .ref 53), (1, .int x1), (2, .int x2)] [] σ Φ := by
  refine s_iconst (v := 0) (pc := 0) dX8_pairsNow_0 rfl ?_
  refine s_istore_n (L' := [(3, .int 0), (0, .ref 53), (1, .int x1), (2, .int x2)]) (pc := 1) dX8_pairsNow_1 rfl (Nat.le_of_ble_eq_true rfl) rfl ?_
  refine s_iconst (v := 0) (pc := 2) dX8_pairsNow_2 rfl ?_
  refine s_istore (L' := [(4, .int 0), (3, .int 0), (0, .ref 53), (1, .int x1), (2, .int x2)]) (pc := 3) dX8_pairsNow_3 (Nat.le_of_ble_eq_true rfl) rfl ?_
  exact s_sub (L' := [(0, .ref 53), (1, .int x1), (2, .int x2), (3, .int 0), (4, .int 0)]) [2, 3, 4, 1, 0] rfl h
set_option maxRecDepth 10000 in
set_option maxHeartbeats 4000000 in
theorem tX8_pairsNow_5 {E : Ev} {x1 : Int32} {x2 : Int32} {x3 : Int32} {x4 : Int32} {σ : Hp} {Φ : Option Value → Hp → Prop}  (h : (((σ 53 2) ≤ x4 → Φ (some (.int x3)) σ) ∧ (¬ (σ 53 2) ≤ x4 → Ru E mX8_pairsNow 20 [(0, .ref 53), (1, .int x1), (2, .int x2), (3, .int x3), (4, .int x4), (5, .int (x4 + 1))] [] σ Φ))) : Ru E mX8_pairsNow 5 [(0, .ref 53), (1, .int x1), (2, .int x2), (3, .int x3), (4, .int x4)] [] σ Φ := by
  refine s_iload 4 (pc := 5) dX8_pairsNow_5 rfl ?_
  refine s_aload_n 0 (pc := 7) dX8_pairsNow_7 rfl rfl ?_
  refine s_getI (v := σ 53 2) (pc := 8) dX8_pairsNow_8 fl_X8_139 ly53 rfl rfl ?_
  refine s_icmp_ge (pc := 11) (tgt := 146) dX8_pairsNow_11 rfl (fun q1 => ?_) (fun q1 => ?_)
  · replace h := h.1 q1
    refine s_iload_n 3 (pc := 146) dX8_pairsNow_146 rfl rfl ?_
    exact s_ret (r := some (.int x3)) ⟨dX8_pairsNow_147, fun ty e => by cases e; rfl⟩ rfl h
  · replace h := h.2 q1
    refine s_iload 4 (pc := 14) dX8_pairsNow_14 rfl ?_
    refine s_iconst (v := 1) (pc := 16) dX8_pairsNow_16 rfl ?_
    refine s_iadd (pc := 17) dX8_pairsNow_17 ?_
    refine s_istore (L' := [(5, .int (x4 + 1)), (0, .ref 53), (1, .int x1), (2, .int x2), (3, .int x3), (4, .int x4)]) (pc := 18) dX8_pairsNow_18 (Nat.le_of_ble_eq_true rfl) rfl ?_
    exact s_sub (L' := [(0, .ref 53), (1, .int x1), (2, .int x2), (3, .int x3), (4, .int x4), (5, .int (x4 + 1))]) [1, 2, 3, 4, 5, 0] rfl h
set_option maxRecDepth 10000 in
set_option maxHeartbeats 4000000 in
theorem tX8_pairsNow_20 {E : Ev} {x1 : Int32} {x2 : Int32} {x3 : Int32} {x4 : Int32} {x5 : Int32} {σ : Hp} {Φ : Option Value → Hp → Prop}  (h : (((σ 53 2) ≤ x5 → Ru E mX8_pairsNow 5 [(0, .ref 53), (1, .int x1), (2, .int x2), (3, .int x3), (4, .int (x4 + 1))] [] σ Φ) ∧ (¬ (σ 53 2) ≤ x5 → vp_in ((8 * x1) + x4) 160 ∧ ((¬ (σ 77 (((8 * x1) + x4).toNatClampNeg)) = 4 → Ru E mX8_pairsNow 66 [(0, .ref 53), (1, .int x1), (2, .int x2), (3, .int x3), (4, .int x4), (5, .int x5)] [.int 0] σ Φ) ∧ ((σ 77 (((8 * x1) + x4).toNatClampNeg)) = 4 → vp_in ((8 * x1) + x5) 160 ∧ ((¬ (σ 77 (((8 * x1) + x5).toNatClampNeg)) = 4 → Ru E mX8_pairsNow 66 [(0, .ref 53), (1, .int x1), (2, .int x2), (3, .int x3), (4, .int x4), (5, .int x5)] [.int 0] σ Φ) ∧ ((σ 77 (((8 * x1) + x5).toNatClampNeg)) = 4 → Ru E mX8_pairsNow 66 [(0, .ref 53), (1, .int x1), (2, .int x2), (3, .int x3), (4, .int x4), (5, .int x5)] [.int 1] σ Φ))))))) : Ru E mX8_pairsNow 20 [(0, .ref 53), (1, .int x1), (2, .int x2), (3, .int x3), (4, .int x4), (5, .int x5)] [] σ Φ := by
  refine s_iload 5 (pc := 20) dX8_pairsNow_20 rfl ?_
  refine s_aload_n 0 (pc := 22) dX8_pairsNow_22 rfl rfl ?_
  refine s_getI (v := σ 53 2) (pc := 23) dX8_pairsNow_23 fl_X8_139 ly53 rfl rfl ?_
  refine s_icmp_ge (pc := 26) (tgt := 140) dX8_pairsNow_26 rfl (fun q1 => ?_) (fun q1 => ?_)
  · replace h := h.1 q1
    refine s_iinc (v := x4 + 1) (L' := [(4, .int (x4 + 1)), (0, .ref 53), (1, .int x1), (2, .int x2), (3, .int x3), (5, .int x5)]) 4 (pc := 140) dX8_pairsNow_140 rfl rfl (Nat.le_of_ble_eq_true rfl) rfl ?_
    refine s_goto (pc := 143) (tgt := 5) dX8_pairsNow_143 rfl ?_
    exact s_sub (L' := [(0, .ref 53), (1, .int x1), (2, .int x2), (3, .int x3), (4, .int (x4 + 1))]) [1, 2, 3, 4, 0] rfl h
  · replace h := h.2 q1
    refine s_aload_n 0 (pc := 29) dX8_pairsNow_29 rfl rfl ?_
    refine s_getR (q := 77) (pc := 30) dX8_pairsNow_30 fl_X8_79 ly53 rfl ?_
    refine s_bipush (v := 8) (pc := 33) dX8_pairsNow_33 rfl ?_
    refine s_iload_n 1 (pc := 35) dX8_pairsNow_35 rfl rfl ?_
    refine s_imul (pc := 36) dX8_pairsNow_36 ?_
    refine s_iload 4 (pc := 37) dX8_pairsNow_37 rfl ?_
    refine s_iadd (pc := 39) dX8_pairsNow_39 ?_
    have hv2 := h.1
    replace h := h.2
    refine s_iald (pc := 40) dX8_pairsNow_40 ly77 hv2 ?_
    refine s_iconst (v := 4) (pc := 41) dX8_pairsNow_41 rfl ?_
    refine s_icmp_ne (pc := 42) (tgt := 65) dX8_pairsNow_42 rfl (fun q3 => ?_) (fun q3 => ?_)
    · replace h := h.1 q3
      refine s_iconst (v := 0) (pc := 65) dX8_pairsNow_65 rfl ?_
      exact s_sub (L' := [(0, .ref 53), (1, .int x1), (2, .int x2), (3, .int x3), (4, .int x4), (5, .int x5)]) [0, 1, 2, 3, 4, 5] rfl h
    · replace h := h.2 q3
      refine s_aload_n 0 (pc := 45) dX8_pairsNow_45 rfl rfl ?_
      refine s_getR (q := 77) (pc := 46) dX8_pairsNow_46 fl_X8_79 ly53 rfl ?_
      refine s_bipush (v := 8) (pc := 49) dX8_pairsNow_49 rfl ?_
      refine s_iload_n 1 (pc := 51) dX8_pairsNow_51 rfl rfl ?_
      refine s_imul (pc := 52) dX8_pairsNow_52 ?_
      refine s_iload 5 (pc := 53) dX8_pairsNow_53 rfl ?_
      refine s_iadd (pc := 55) dX8_pairsNow_55 ?_
      have hv4 := h.1
      replace h := h.2
      refine s_iald (pc := 56) dX8_pairsNow_56 ly77 hv4 ?_
      refine s_iconst (v := 4) (pc := 57) dX8_pairsNow_57 rfl ?_
      refine s_icmp_ne (pc := 58) (tgt := 65) dX8_pairsNow_58 rfl (fun q5 => ?_) (fun q5 => ?_)
      · replace h := h.1 q5
        refine s_iconst (v := 0) (pc := 65) dX8_pairsNow_65 rfl ?_
        exact s_sub (L' := [(0, .ref 53), (1, .int x1), (2, .int x2), (3, .int x3), (4, .int x4), (5, .int x5)]) [0, 1, 2, 3, 4, 5] rfl h
      · replace h := h.2 q5
        refine s_iconst (v := 1) (pc := 61) dX8_pairsNow_61 rfl ?_
        refine s_goto (pc := 62) (tgt := 66) dX8_pairsNow_62 rfl ?_
        exact s_sub (L' := [(0, .ref 53), (1, .int x1), (2, .int x2), (3, .int x3), (4, .int x4), (5, .int x5)]) [0, 1, 2, 3, 4, 5] rfl h
set_option maxRecDepth 10000 in
set_option maxHeartbeats 4000000 in
theorem tX8_pairsNow_66 {E : Ev} {x1 : Int32} {x2 : Int32} {x3 : Int32} {x4 : Int32} {x5 : Int32} {xs0 : Int32} {σ : Hp} {Φ : Option Value → Hp → Prop}  (h : ∃ (r3 : Int32) (σ1 : Hp), Call E mX8_areNow [.ref 53, .int x1, .int x4, .int x5] σ (some (.int r3)) σ1 ∧ ((¬ x2 = 0 → ((r3 = 1 → Ru E mX8_pairsNow 114 [(0, .ref 53), (1, .int x1), (2, .int x2), (3, .int x3), (4, .int x4), (5, .int x5), (6, .int xs0), (7, .int r3)] [.int 1] σ1 Φ) ∧ (¬ r3 = 1 → ((¬ r3 = 3 → Ru E mX8_pairsNow 114 [(0, .ref 53), (1, .int x1), (2, .int x2), (3, .int x3), (4, .int x4), (5, .int x5), (6, .int xs0), (7, .int r3)] [.int 0] σ1 Φ) ∧ (r3 = 3 → Ru E mX8_pairsNow 114 [(0, .ref 53), (1, .int x1), (2, .int x2), (3, .int x3), (4, .int x4), (5, .int x5), (6, .int xs0), (7, .int r3)] [.int 1] σ1 Φ))))) ∧ (x2 = 0 → ((¬ r3 = 2 → Ru E mX8_pairsNow 114 [(0, .ref 53), (1, .int x1), (2, .int x2), (3, .int x3), (4, .int x4), (5, .int x5), (6, .int xs0), (7, .int r3)] [.int 0] σ1 Φ) ∧ (r3 = 2 → Ru E mX8_pairsNow 114 [(0, .ref 53), (1, .int x1), (2, .int x2), (3, .int x3), (4, .int x4), (5, .int x5), (6, .int xs0), (7, .int r3)] [.int 1] σ1 Φ))))) : Ru E mX8_pairsNow 66 [(0, .ref 53), (1, .int x1), (2, .int x2), (3, .int x3), (4, .int x4), (5, .int x5)] [.int xs0] σ Φ := by
  refine s_istore (L' := [(6, .int xs0), (0, .ref 53), (1, .int x1), (2, .int x2), (3, .int x3), (4, .int x4), (5, .int x5)]) (pc := 66) dX8_pairsNow_66 (Nat.le_of_ble_eq_true rfl) rfl ?_
  refine s_aload_n 1 (pc := 68) dX8_pairsNow_68 rfl rfl ?_
  refine s_iload_n 2 (pc := 69) dX8_pairsNow_69 rfl rfl ?_
  refine s_iload 5 (pc := 70) dX8_pairsNow_70 rfl ?_
  refine s_iload 6 (pc := 72) dX8_pairsNow_72 rfl ?_
  obtain ⟨r3, σ1, hk2, h⟩ := h
  refine s_callV (S := []) [.int x1, .int x4, .int x5] (pc := 74) dX8_pairsNow_74 mv_X8_areNow ml_X8_235 ⟨Nat.le_of_ble_eq_true rfl, Nat.le_of_ble_eq_true rfl⟩ rfl rfl ly53 rfl rfl (Nat.le_of_ble_eq_true rfl) hk2 ?_
  refine s_istore (L' := [(7, .int r3), (6, .int xs0), (0, .ref 53), (1, .int x1), (2, .int x2), (3, .int x3), (4, .int x4), (5, .int x5)]) (pc := 77) dX8_pairsNow_77 (Nat.le_of_ble_eq_true rfl) rfl ?_
  refine s_iload_n 4 (pc := 79) dX8_pairsNow_79 rfl rfl ?_
  refine s_if_ne (pc := 80) (tgt := 97) dX8_pairsNow_80 rfl (fun q4 => ?_) (fun q4 => ?_)
  · replace h := h.1 q4
    refine s_iload 0 (pc := 97) dX8_pairsNow_97 rfl ?_
    refine s_iconst (v := 1) (pc := 99) dX8_pairsNow_99 rfl ?_
    refine s_icmp_eq (pc := 100) (tgt := 109) dX8_pairsNow_100 rfl (fun q5 => ?_) (fun q5 => ?_)
    · replace h := h.1 q5
      refine s_iconst (v := 1) (pc := 109) dX8_pairsNow_109 rfl ?_
      refine s_goto (pc := 110) (tgt := 114) dX8_pairsNow_110 rfl ?_
      exact s_sub (L' := [(0, .ref 53), (1, .int x1), (2, .int x2), (3, .int x3), (4, .int x4), (5, .int x5), (6, .int xs0), (7, .int r3)]) [2, 3, 4, 5, 6, 7, 1, 0] rfl h
    · replace h := h.2 q5
      refine s_iload 0 (pc := 103) dX8_pairsNow_103 rfl ?_
      refine s_iconst (v := 3) (pc := 105) dX8_pairsNow_105 rfl ?_
      refine s_icmp_ne (pc := 106) (tgt := 113) dX8_pairsNow_106 rfl (fun q6 => ?_) (fun q6 => ?_)
      · replace h := h.1 q6
        refine s_iconst (v := 0) (pc := 113) dX8_pairsNow_113 rfl ?_
        exact s_sub (L' := [(0, .ref 53), (1, .int x1), (2, .int x2), (3, .int x3), (4, .int x4), (5, .int x5), (6, .int xs0), (7, .int r3)]) [2, 3, 4, 5, 6, 7, 1, 0] rfl h
      · replace h := h.2 q6
        refine s_iconst (v := 1) (pc := 109) dX8_pairsNow_109 rfl ?_
        refine s_goto (pc := 110) (tgt := 114) dX8_pairsNow_110 rfl ?_
        exact s_sub (L' := [(0, .ref 53), (1, .int x1), (2, .int x2), (3, .int x3), (4, .int x4), (5, .int x5), (6, .int xs0), (7, .int r3)]) [2, 3, 4, 5, 6, 7, 1, 0] rfl h
  · replace h := h.2 q4
    refine s_iload 0 (pc := 83) dX8_pairsNow_83 rfl ?_
    refine s_iconst (v := 2) (pc := 85) dX8_pairsNow_85 rfl ?_
    refine s_icmp_ne (pc := 86) (tgt := 93) dX8_pairsNow_86 rfl (fun q7 => ?_) (fun q7 => ?_)
    · replace h := h.1 q7
      refine s_iconst (v := 0) (pc := 93) dX8_pairsNow_93 rfl ?_
      refine s_goto (pc := 94) (tgt := 114) dX8_pairsNow_94 rfl ?_
      exact s_sub (L' := [(0, .ref 53), (1, .int x1), (2, .int x2), (3, .int x3), (4, .int x4), (5, .int x5), (6, .int xs0), (7, .int r3)]) [2, 3, 4, 5, 6, 7, 1, 0] rfl h
    · replace h := h.2 q7
      refine s_iconst (v := 1) (pc := 89) dX8_pairsNow_89 rfl ?_
      refine s_goto (pc := 90) (tgt := 114) dX8_pairsNow_90 rfl ?_
      exact s_sub (L' := [(0, .ref 53), (1, .int x1), (2, .int x2), (3, .int x3), (4, .int x4), (5, .int x5), (6, .int xs0), (7, .int r3)]) [2, 3, 4, 5, 6, 7, 1, 0] rfl h
set_option maxRecDepth 10000 in
set_option maxHeartbeats 4000000 in
theorem tX8_pairsNow_114 {E : Ev} {x1 : Int32} {x2 : Int32} {x3 : Int32} {x4 : Int32} {x5 : Int32} {x6 : Int32} {x7 : Int32} {xs0 : Int32} {σ : Hp} {Φ : Option Value → Hp → Prop}  (h : ((x6 = 0 → Ru E mX8_pairsNow 20 [(0, .ref 53), (1, .int x1), (2, .int x2), (3, .int (x3 + 0)), (4, .int x4), (5, .int (x5 + 1))] [] σ Φ) ∧ (¬ x6 = 0 → ((xs0 = 0 → Ru E mX8_pairsNow 20 [(0, .ref 53), (1, .int x1), (2, .int x2), (3, .int (x3 + 0)), (4, .int x4), (5, .int (x5 + 1))] [] σ Φ) ∧ (¬ xs0 = 0 → Ru E mX8_pairsNow 20 [(0, .ref 53), (1, .int x1), (2, .int x2), (3, .int (x3 + 1)), (4, .int x4), (5, .int (x5 + 1))] [] σ Φ))))) : Ru E mX8_pairsNow 114 [(0, .ref 53), (1, .int x1), (2, .int x2), (3, .int x3), (4, .int x4), (5, .int x5), (6, .int x6), (7, .int x7)] [.int xs0] σ Φ := by
  refine s_istore (L' := [(8, .int xs0), (0, .ref 53), (1, .int x1), (2, .int x2), (3, .int x3), (4, .int x4), (5, .int x5), (6, .int x6), (7, .int x7)]) (pc := 114) dX8_pairsNow_114 (Nat.le_of_ble_eq_true rfl) rfl ?_
  refine s_iload_n 4 (pc := 116) dX8_pairsNow_116 rfl rfl ?_
  refine s_iload 7 (pc := 117) dX8_pairsNow_117 rfl ?_
  refine s_if_eq (pc := 119) (tgt := 131) dX8_pairsNow_119 rfl (fun q1 => ?_) (fun q1 => ?_)
  · replace h := h.1 q1
    refine s_iconst (v := 0) (pc := 131) dX8_pairsNow_131 rfl ?_
    refine s_iadd (pc := 132) dX8_pairsNow_132 ?_
    refine s_istore_n (L' := [(3, .int (x3 + 0)), (8, .int xs0), (0, .ref 53), (1, .int x1), (2, .int x2), (4, .int x4), (5, .int x5), (6, .int x6), (7, .int x7)]) (pc := 133) dX8_pairsNow_133 rfl (Nat.le_of_ble_eq_true rfl) rfl ?_
    refine s_iinc (v := x5 + 1) (L' := [(5, .int (x5 + 1)), (3, .int (x3 + 0)), (8, .int xs0), (0, .ref 53), (1, .int x1), (2, .int x2), (4, .int x4), (6, .int x6), (7, .int x7)]) 6 (pc := 134) dX8_pairsNow_134 rfl rfl (Nat.le_of_ble_eq_true rfl) rfl ?_
    refine s_goto (pc := 137) (tgt := 20) dX8_pairsNow_137 rfl ?_
    exact s_sub (L' := [(0, .ref 53), (1, .int x1), (2, .int x2), (3, .int (x3 + 0)), (4, .int x4), (5, .int (x5 + 1))]) [3, 4, 5, 1, 6, 0] rfl h
  · replace h := h.2 q1
    refine s_iload 0 (pc := 122) dX8_pairsNow_122 rfl ?_
    refine s_if_eq (pc := 124) (tgt := 131) dX8_pairsNow_124 rfl (fun q2 => ?_) (fun q2 => ?_)
    · replace h := h.1 q2
      refine s_iconst (v := 0) (pc := 131) dX8_pairsNow_131 rfl ?_
      refine s_iadd (pc := 132) dX8_pairsNow_132 ?_
      refine s_istore_n (L' := [(3, .int (x3 + 0)), (8, .int xs0), (0, .ref 53), (1, .int x1), (2, .int x2), (4, .int x4), (5, .int x5), (6, .int x6), (7, .int x7)]) (pc := 133) dX8_pairsNow_133 rfl (Nat.le_of_ble_eq_true rfl) rfl ?_
      refine s_iinc (v := x5 + 1) (L' := [(5, .int (x5 + 1)), (3, .int (x3 + 0)), (8, .int xs0), (0, .ref 53), (1, .int x1), (2, .int x2), (4, .int x4), (6, .int x6), (7, .int x7)]) 6 (pc := 134) dX8_pairsNow_134 rfl rfl (Nat.le_of_ble_eq_true rfl) rfl ?_
      refine s_goto (pc := 137) (tgt := 20) dX8_pairsNow_137 rfl ?_
      exact s_sub (L' := [(0, .ref 53), (1, .int x1), (2, .int x2), (3, .int (x3 + 0)), (4, .int x4), (5, .int (x5 + 1))]) [3, 4, 5, 1, 6, 0] rfl h
    · replace h := h.2 q2
      refine s_iconst (v := 1) (pc := 127) dX8_pairsNow_127 rfl ?_
      refine s_goto (pc := 128) (tgt := 132) dX8_pairsNow_128 rfl ?_
      refine s_iadd (pc := 132) dX8_pairsNow_132 ?_
      refine s_istore_n (L' := [(3, .int (x3 + 1)), (8, .int xs0), (0, .ref 53), (1, .int x1), (2, .int x2), (4, .int x4), (5, .int x5), (6, .int x6), (7, .int x7)]) (pc := 133) dX8_pairsNow_133 rfl (Nat.le_of_ble_eq_true rfl) rfl ?_
      refine s_iinc (v := x5 + 1) (L' := [(5, .int (x5 + 1)), (3, .int (x3 + 1)), (8, .int xs0), (0, .ref 53), (1, .int x1), (2, .int x2), (4, .int x4), (6, .int x6), (7, .int x7)]) 6 (pc := 134) dX8_pairsNow_134 rfl rfl (Nat.le_of_ble_eq_true rfl) rfl ?_
      refine s_goto (pc := 137) (tgt := 20) dX8_pairsNow_137 rfl ?_
      exact s_sub (L' := [(0, .ref 53), (1, .int x1), (2, .int x2), (3, .int (x3 + 1)), (4, .int x4), (5, .int (x5 + 1))]) [3, 4, 5, 1, 6, 0] rfl h
set_option maxRecDepth 10000 in
set_option maxHeartbeats 4000000 in
theorem tX8_pairsOf_0 {E : Ev} {x1 : Int32} {x2 : Int32} {σ : Hp} {Φ : Option Value → Hp → Prop}  (h : ∃ σ1 : Hp, Call E mX8_runsTold [.ref 53] σ none σ1 ∧ ∃ (r5 : Int32) (σ3 : Hp), Call E mX8_pairsNow [.ref 53, .int x1, .int x2] σ1 (some (.int r5)) σ3 ∧ Φ (some (.int r5)) σ3) : Ru E mX8_pairsOf 0 [(0, .ref 53), (1, .int x1), (2, .int x2)] [] σ Φ := by
  refine s_aload_n 0 (pc := 0) dX8_pairsOf_0 rfl rfl ?_
  obtain ⟨σ1, hk2, h⟩ := h
  refine s_callV (S := []) [] (pc := 1) dX8_pairsOf_1 mv_X8_runsTold ml_X8_219 ⟨Nat.le_of_ble_eq_true rfl, Nat.le_of_ble_eq_true rfl⟩ rfl rfl ly53 rfl rfl (Nat.le_of_ble_eq_true rfl) hk2 ?_
  refine s_aload_n 0 (pc := 4) dX8_pairsOf_4 rfl rfl ?_
  refine s_iload_n 1 (pc := 5) dX8_pairsOf_5 rfl rfl ?_
  refine s_iload_n 2 (pc := 6) dX8_pairsOf_6 rfl rfl ?_
  obtain ⟨r5, σ3, hk4, h⟩ := h
  refine s_callV (S := []) [.int x1, .int x2] (pc := 7) dX8_pairsOf_7 mv_X8_pairsNow ml_X8_241 ⟨Nat.le_of_ble_eq_true rfl, Nat.le_of_ble_eq_true rfl⟩ rfl rfl ly53 rfl rfl (Nat.le_of_ble_eq_true rfl) hk4 ?_
  exact s_ret (r := some (.int r5)) ⟨dX8_pairsOf_10, fun ty e => by cases e; rfl⟩ rfl h
set_option maxRecDepth 10000 in
set_option maxHeartbeats 4000000 in
theorem tX8_pairs_0 {E : Ev} {x1 : Int32} {x2 : Int32} {σ : Hp} {Φ : Option Value → Hp → Prop}  (h : ∃ (r3 : Int32) (σ1 : Hp), Call E mX8_isDay [.int x1] σ (some (.int r3)) σ1 ∧ ((r3 = 0 → Φ (some (.int (-2))) σ1) ∧ (¬ r3 = 0 → ∃ (r7 : Int32) (σ5 : Hp), Call E mX8_in [.int x2, .int 0, .int 1] σ1 (some (.int r7)) σ5 ∧ ((r7 = 0 → Φ (some (.int (-2))) σ5) ∧ (¬ r7 = 0 → ∃ (r11 : Int32) (σ9 : Hp), Call E mX8_pairsOf [.ref 53, .int x1, .int x2] σ5 (some (.int r11)) σ9 ∧ Φ (some (.int r11)) σ9))))) : Ru E mX8_pairs 0 [(0, .ref 53), (1, .int x1), (2, .int x2)] [] σ Φ := by
  refine s_iload_n 1 (pc := 0) dX8_pairs_0 rfl rfl ?_
  obtain ⟨r3, σ1, hk2, h⟩ := h
  refine s_callS (S := []) [.int x1] (pc := 1) dX8_pairs_1 ms_X8_isDay ml_X8_160 ⟨Nat.le_of_ble_eq_true rfl, Nat.le_of_ble_eq_true rfl⟩ rfl rfl (Nat.le_of_ble_eq_true rfl) hk2 ?_
  refine s_if_eq (pc := 4) (tgt := 25) dX8_pairs_4 rfl (fun q4 => ?_) (fun q4 => ?_)
  · replace h := h.1 q4
    refine s_bipush (v := (-2)) (pc := 25) dX8_pairs_25 rfl ?_
    exact s_ret (r := some (.int (-2))) ⟨dX8_pairs_27, fun ty e => by cases e; rfl⟩ rfl h
  · replace h := h.2 q4
    refine s_iload_n 2 (pc := 7) dX8_pairs_7 rfl rfl ?_
    refine s_iconst (v := 0) (pc := 8) dX8_pairs_8 rfl ?_
    refine s_iconst (v := 1) (pc := 9) dX8_pairs_9 rfl ?_
    obtain ⟨r7, σ5, hk6, h⟩ := h
    refine s_callS (S := []) [.int x2, .int 0, .int 1] (pc := 10) dX8_pairs_10 ms_X8_in ml_X8_124 ⟨Nat.le_of_ble_eq_true rfl, Nat.le_of_ble_eq_true rfl⟩ rfl rfl (Nat.le_of_ble_eq_true rfl) hk6 ?_
    refine s_if_eq (pc := 13) (tgt := 25) dX8_pairs_13 rfl (fun q8 => ?_) (fun q8 => ?_)
    · replace h := h.1 q8
      refine s_bipush (v := (-2)) (pc := 25) dX8_pairs_25 rfl ?_
      exact s_ret (r := some (.int (-2))) ⟨dX8_pairs_27, fun ty e => by cases e; rfl⟩ rfl h
    · replace h := h.2 q8
      refine s_aload_n 0 (pc := 16) dX8_pairs_16 rfl rfl ?_
      refine s_iload_n 1 (pc := 17) dX8_pairs_17 rfl rfl ?_
      refine s_iload_n 2 (pc := 18) dX8_pairs_18 rfl rfl ?_
      obtain ⟨r11, σ9, hk10, h⟩ := h
      refine s_callV (S := []) [.int x1, .int x2] (pc := 19) dX8_pairs_19 mv_X8_pairsOf ml_X8_244 ⟨Nat.le_of_ble_eq_true rfl, Nat.le_of_ble_eq_true rfl⟩ rfl rfl ly53 rfl rfl (Nat.le_of_ble_eq_true rfl) hk10 ?_
      refine s_goto (pc := 22) (tgt := 27) dX8_pairs_22 rfl ?_
      exact s_ret (r := some (.int r11)) ⟨dX8_pairs_27, fun ty e => by cases e; rfl⟩ rfl h
set_option maxRecDepth 10000 in
set_option maxHeartbeats 4000000 in
theorem tX8_closedNow_0 {E : Ev} {x1 : Int32} {σ : Hp} {Φ : Option Value → Hp → Prop}  (h : Ru E mX8_closedNow 4 [(0, .ref 53), (1, .int x1), (2, .int 0), (3, .int 0)] [] σ Φ) : Ru E mX8_closedNow 0 [(0, .ref 53), (1, .int x1)] [] σ Φ := by
  refine s_iconst (v := 0) (pc := 0) dX8_closedNow_0 rfl ?_
  refine s_istore_n (L' := [(2, .int 0), (0, .ref 53), (1, .int x1)]) (pc := 1) dX8_closedNow_1 rfl (Nat.le_of_ble_eq_true rfl) rfl ?_
  refine s_iconst (v := 0) (pc := 2) dX8_closedNow_2 rfl ?_
  refine s_istore_n (L' := [(3, .int 0), (2, .int 0), (0, .ref 53), (1, .int x1)]) (pc := 3) dX8_closedNow_3 rfl (Nat.le_of_ble_eq_true rfl) rfl ?_
  exact s_sub (L' := [(0, .ref 53), (1, .int x1), (2, .int 0), (3, .int 0)]) [2, 3, 1, 0] rfl h
set_option maxRecDepth 10000 in
set_option maxHeartbeats 4000000 in
theorem tX8_closedNow_4 {E : Ev} {x1 : Int32} {x2 : Int32} {x3 : Int32} {σ : Hp} {Φ : Option Value → Hp → Prop}  (h : (((σ 53 2) ≤ x3 → Φ (some (.int x2)) σ) ∧ (¬ (σ 53 2) ≤ x3 → vp_in ((8 * x1) + x3) 160 ∧ ((¬ (σ 77 (((8 * x1) + x3).toNatClampNeg)) = 4 → Ru E mX8_closedNow 4 [(0, .ref 53), (1, .int x1), (2, .int (x2 ||| 0)), (3, .int (x3 + 1))] [] σ Φ) ∧ ((σ 77 (((8 * x1) + x3).toNatClampNeg)) = 4 → Ru E mX8_closedNow 4 [(0, .ref 53), (1, .int x1), (2, .int (x2 ||| (1 <<< (x3 &&& 31)))), (3, .int (x3 + 1))] [] σ Φ))))) : Ru E mX8_closedNow 4 [(0, .ref 53), (1, .int x1), (2, .int x2), (3, .int x3)] [] σ Φ := by
  refine s_iload_n 3 (pc := 4) dX8_closedNow_4 rfl rfl ?_
  refine s_aload_n 0 (pc := 5) dX8_closedNow_5 rfl rfl ?_
  refine s_getI (v := σ 53 2) (pc := 6) dX8_closedNow_6 fl_X8_139 ly53 rfl rfl ?_
  refine s_icmp_ge (pc := 9) (tgt := 43) dX8_closedNow_9 rfl (fun q1 => ?_) (fun q1 => ?_)
  · replace h := h.1 q1
    refine s_iload_n 2 (pc := 43) dX8_closedNow_43 rfl rfl ?_
    exact s_ret (r := some (.int x2)) ⟨dX8_closedNow_44, fun ty e => by cases e; rfl⟩ rfl h
  · replace h := h.2 q1
    refine s_iload_n 2 (pc := 12) dX8_closedNow_12 rfl rfl ?_
    refine s_aload_n 0 (pc := 13) dX8_closedNow_13 rfl rfl ?_
    refine s_getR (q := 77) (pc := 14) dX8_closedNow_14 fl_X8_79 ly53 rfl ?_
    refine s_bipush (v := 8) (pc := 17) dX8_closedNow_17 rfl ?_
    refine s_iload_n 1 (pc := 19) dX8_closedNow_19 rfl rfl ?_
    refine s_imul (pc := 20) dX8_closedNow_20 ?_
    refine s_iload_n 3 (pc := 21) dX8_closedNow_21 rfl rfl ?_
    refine s_iadd (pc := 22) dX8_closedNow_22 ?_
    have hv2 := h.1
    replace h := h.2
    refine s_iald (pc := 23) dX8_closedNow_23 ly77 hv2 ?_
    refine s_iconst (v := 4) (pc := 24) dX8_closedNow_24 rfl ?_
    refine s_icmp_ne (pc := 25) (tgt := 34) dX8_closedNow_25 rfl (fun q3 => ?_) (fun q3 => ?_)
    · replace h := h.1 q3
      refine s_iconst (v := 0) (pc := 34) dX8_closedNow_34 rfl ?_
      refine s_ior (pc := 35) dX8_closedNow_35 ?_
      refine s_istore_n (L' := [(2, .int (x2 ||| 0)), (0, .ref 53), (1, .int x1), (3, .int x3)]) (pc := 36) dX8_closedNow_36 rfl (Nat.le_of_ble_eq_true rfl) rfl ?_
      refine s_iinc (v := x3 + 1) (L' := [(3, .int (x3 + 1)), (2, .int (x2 ||| 0)), (0, .ref 53), (1, .int x1)]) 3 (pc := 37) dX8_closedNow_37 rfl rfl (Nat.le_of_ble_eq_true rfl) rfl ?_
      refine s_goto (pc := 40) (tgt := 4) dX8_closedNow_40 rfl ?_
      exact s_sub (L' := [(0, .ref 53), (1, .int x1), (2, .int (x2 ||| 0)), (3, .int (x3 + 1))]) [2, 3, 1, 0] rfl h
    · replace h := h.2 q3
      refine s_iconst (v := 1) (pc := 28) dX8_closedNow_28 rfl ?_
      refine s_iload_n 3 (pc := 29) dX8_closedNow_29 rfl rfl ?_
      refine s_ishl (pc := 30) dX8_closedNow_30 ?_
      refine s_goto (pc := 31) (tgt := 35) dX8_closedNow_31 rfl ?_
      refine s_ior (pc := 35) dX8_closedNow_35 ?_
      refine s_istore_n (L' := [(2, .int (x2 ||| (1 <<< (x3 &&& 31)))), (0, .ref 53), (1, .int x1), (3, .int x3)]) (pc := 36) dX8_closedNow_36 rfl (Nat.le_of_ble_eq_true rfl) rfl ?_
      refine s_iinc (v := x3 + 1) (L' := [(3, .int (x3 + 1)), (2, .int (x2 ||| (1 <<< (x3 &&& 31)))), (0, .ref 53), (1, .int x1)]) 3 (pc := 37) dX8_closedNow_37 rfl rfl (Nat.le_of_ble_eq_true rfl) rfl ?_
      refine s_goto (pc := 40) (tgt := 4) dX8_closedNow_40 rfl ?_
      exact s_sub (L' := [(0, .ref 53), (1, .int x1), (2, .int (x2 ||| (1 <<< (x3 &&& 31)))), (3, .int (x3 + 1))]) [2, 3, 1, 0] rfl h
set_option maxRecDepth 10000 in
set_option maxHeartbeats 4000000 in
theorem tX8_closedOf_0 {E : Ev} {x1 : Int32} {σ : Hp} {Φ : Option Value → Hp → Prop}  (h : ∃ σ1 : Hp, Call E mX8_runsTold [.ref 53] σ none σ1 ∧ ∃ (r5 : Int32) (σ3 : Hp), Call E mX8_closedNow [.ref 53, .int x1] σ1 (some (.int r5)) σ3 ∧ Φ (some (.int r5)) σ3) : Ru E mX8_closedOf 0 [(0, .ref 53), (1, .int x1)] [] σ Φ := by
  refine s_aload_n 0 (pc := 0) dX8_closedOf_0 rfl rfl ?_
  obtain ⟨σ1, hk2, h⟩ := h
  refine s_callV (S := []) [] (pc := 1) dX8_closedOf_1 mv_X8_runsTold ml_X8_219 ⟨Nat.le_of_ble_eq_true rfl, Nat.le_of_ble_eq_true rfl⟩ rfl rfl ly53 rfl rfl (Nat.le_of_ble_eq_true rfl) hk2 ?_
  refine s_aload_n 0 (pc := 4) dX8_closedOf_4 rfl rfl ?_
  refine s_iload_n 1 (pc := 5) dX8_closedOf_5 rfl rfl ?_
  obtain ⟨r5, σ3, hk4, h⟩ := h
  refine s_callV (S := []) [.int x1] (pc := 6) dX8_closedOf_6 mv_X8_closedNow ml_X8_247 ⟨Nat.le_of_ble_eq_true rfl, Nat.le_of_ble_eq_true rfl⟩ rfl rfl ly53 rfl rfl (Nat.le_of_ble_eq_true rfl) hk4 ?_
  exact s_ret (r := some (.int r5)) ⟨dX8_closedOf_9, fun ty e => by cases e; rfl⟩ rfl h
set_option maxRecDepth 10000 in
set_option maxHeartbeats 4000000 in
theorem tX8_closed_0 {E : Ev} {x1 : Int32} {σ : Hp} {Φ : Option Value → Hp → Prop}  (h : ∃ (r3 : Int32) (σ1 : Hp), Call E mX8_isDay [.int x1] σ (some (.int r3)) σ1 ∧ ((r3 = 0 → Φ (some (.int (-2))) σ1) ∧ (¬ r3 = 0 → ∃ (r7 : Int32) (σ5 : Hp), Call E mX8_closedOf [.ref 53, .int x1] σ1 (some (.int r7)) σ5 ∧ Φ (some (.int r7)) σ5))) : Ru E mX8_closed 0 [(0, .ref 53), (1, .int x1)] [] σ Φ := by
  refine s_iload_n 1 (pc := 0) dX8_closed_0 rfl rfl ?_
  obtain ⟨r3, σ1, hk2, h⟩ := h
  refine s_callS (S := []) [.int x1] (pc := 1) dX8_closed_1 ms_X8_isDay ml_X8_160 ⟨Nat.le_of_ble_eq_true rfl, Nat.le_of_ble_eq_true rfl⟩ rfl rfl (Nat.le_of_ble_eq_true rfl) hk2 ?_
  refine s_if_eq (pc := 4) (tgt := 15) dX8_closed_4 rfl (fun q4 => ?_) (fun q4 => ?_)
  · replace h := h.1 q4
    refine s_bipush (v := (-2)) (pc := 15) dX8_closed_15 rfl ?_
    exact s_ret (r := some (.int (-2))) ⟨dX8_closed_17, fun ty e => by cases e; rfl⟩ rfl h
  · replace h := h.2 q4
    refine s_aload_n 0 (pc := 7) dX8_closed_7 rfl rfl ?_
    refine s_iload_n 1 (pc := 8) dX8_closed_8 rfl rfl ?_
    obtain ⟨r7, σ5, hk6, h⟩ := h
    refine s_callV (S := []) [.int x1] (pc := 9) dX8_closed_9 mv_X8_closedOf ml_X8_250 ⟨Nat.le_of_ble_eq_true rfl, Nat.le_of_ble_eq_true rfl⟩ rfl rfl ly53 rfl rfl (Nat.le_of_ble_eq_true rfl) hk6 ?_
    refine s_goto (pc := 12) (tgt := 17) dX8_closed_12 rfl ?_
    exact s_ret (r := some (.int r7)) ⟨dX8_closed_17, fun ty e => by cases e; rfl⟩ rfl h
set_option maxRecDepth 10000 in
set_option maxHeartbeats 4000000 in
theorem tX8_isNew_0 {E : Ev} {x1 : Int32} {σ : Hp} {Φ : Option Value → Hp → Prop}  (h : Ru E mX8_isNew 4 [(0, .ref 53), (1, .int x1), (2, .int 1), (3, .int 0)] [] σ Φ) : Ru E mX8_isNew 0 [(0, .ref 53), (1, .int x1)] [] σ Φ := by
  refine s_iconst (v := 1) (pc := 0) dX8_isNew_0 rfl ?_
  refine s_istore_n (L' := [(2, .int 1), (0, .ref 53), (1, .int x1)]) (pc := 1) dX8_isNew_1 rfl (Nat.le_of_ble_eq_true rfl) rfl ?_
  refine s_iconst (v := 0) (pc := 2) dX8_isNew_2 rfl ?_
  refine s_istore_n (L' := [(3, .int 0), (2, .int 1), (0, .ref 53), (1, .int x1)]) (pc := 3) dX8_isNew_3 rfl (Nat.le_of_ble_eq_true rfl) rfl ?_
  exact s_sub (L' := [(0, .ref 53), (1, .int x1), (2, .int 1), (3, .int 0)]) [2, 3, 1, 0] rfl h
set_option maxRecDepth 10000 in
set_option maxHeartbeats 4000000 in
theorem tX8_isNew_4 {E : Ev} {x1 : Int32} {x2 : Int32} {x3 : Int32} {σ : Hp} {Φ : Option Value → Hp → Prop}  (h : ((x1 ≤ x3 → narrow .boolean (.int x2) = .int x2 ∧ Φ (some (.int x2)) σ) ∧ (¬ x1 ≤ x3 → ((x2 = 0 → Ru E mX8_isNew 4 [(0, .ref 53), (1, .int x1), (2, .int 0), (3, .int (x3 + 1))] [] σ Φ) ∧ (¬ x2 = 0 → (((σ 53 2) ≤ (x3 - x3 / 8 * 8) → Ru E mX8_isNew 4 [(0, .ref 53), (1, .int x1), (2, .int 1), (3, .int (x3 + 1))] [] σ Φ) ∧ (¬ (σ 53 2) ≤ (x3 - x3 / 8 * 8) → vp_in x3 160 ∧ vp_in x1 160 ∧ ((¬ (σ 73 ((x3).toNatClampNeg)) = (σ 73 ((x1).toNatClampNeg)) → Ru E mX8_isNew 4 [(0, .ref 53), (1, .int x1), (2, .int 1), (3, .int (x3 + 1))] [] σ Φ) ∧ ((σ 73 ((x3).toNatClampNeg)) = (σ 73 ((x1).toNatClampNeg)) → (((σ 74 ((x3).toNatClampNeg)) = (σ 74 ((x1).toNatClampNeg)) → Ru E mX8_isNew 4 [(0, .ref 53), (1, .int x1), (2, .int 0), (3, .int (x3 + 1))] [] σ Φ) ∧ (¬ (σ 74 ((x3).toNatClampNeg)) = (σ 74 ((x1).toNatClampNeg)) → Ru E mX8_isNew 4 [(0, .ref 53), (1, .int x1), (2, .int 1), (3, .int (x3 + 1))] [] σ Φ))))))))))) : Ru E mX8_isNew 4 [(0, .ref 53), (1, .int x1), (2, .int x2), (3, .int x3)] [] σ Φ := by
  refine s_iload_n 3 (pc := 4) dX8_isNew_4 rfl rfl ?_
  refine s_iload_n 1 (pc := 5) dX8_isNew_5 rfl rfl ?_
  refine s_icmp_ge (pc := 6) (tgt := 66) dX8_isNew_6 rfl (fun q1 => ?_) (fun q1 => ?_)
  · replace h := h.1 q1
    refine s_iload_n 2 (pc := 66) dX8_isNew_66 rfl rfl ?_
    have hz := h.1
    replace h := h.2
    exact s_ret (r := some (.int x2)) ⟨dX8_isNew_67, fun ty e => by cases e; exact hz⟩ rfl h
  · replace h := h.2 q1
    refine s_iload_n 2 (pc := 9) dX8_isNew_9 rfl rfl ?_
    refine s_if_eq (pc := 10) (tgt := 58) dX8_isNew_10 rfl (fun q2 => ?_) (fun q2 => ?_)
    · replace h := h.1 q2
      refine s_iconst (v := 0) (pc := 58) dX8_isNew_58 rfl ?_
      refine s_istore_n (L' := [(2, .int 0), (0, .ref 53), (1, .int x1), (3, .int x3)]) (pc := 59) dX8_isNew_59 rfl (Nat.le_of_ble_eq_true rfl) rfl ?_
      refine s_iinc (v := x3 + 1) (L' := [(3, .int (x3 + 1)), (2, .int 0), (0, .ref 53), (1, .int x1)]) 3 (pc := 60) dX8_isNew_60 rfl rfl (Nat.le_of_ble_eq_true rfl) rfl ?_
      refine s_goto (pc := 63) (tgt := 4) dX8_isNew_63 rfl ?_
      exact s_sub (L' := [(0, .ref 53), (1, .int x1), (2, .int 0), (3, .int (x3 + 1))]) [2, 3, 1, 0] rfl h
    · replace h := h.2 q2
      refine s_iload_n 3 (pc := 13) dX8_isNew_13 rfl rfl ?_
      refine s_bipush (v := 8) (pc := 14) dX8_isNew_14 rfl ?_
      refine s_irem (pc := 16) dX8_isNew_16 (by decide) ?_
      refine s_aload_n 0 (pc := 17) dX8_isNew_17 rfl rfl ?_
      refine s_getI (v := σ 53 2) (pc := 18) dX8_isNew_18 fl_X8_139 ly53 rfl rfl ?_
      refine s_icmp_ge (pc := 21) (tgt := 54) dX8_isNew_21 rfl (fun q3 => ?_) (fun q3 => ?_)
      · replace h := h.1 q3
        refine s_iconst (v := 1) (pc := 54) dX8_isNew_54 rfl ?_
        refine s_goto (pc := 55) (tgt := 59) dX8_isNew_55 rfl ?_
        refine s_istore_n (L' := [(2, .int 1), (0, .ref 53), (1, .int x1), (3, .int x3)]) (pc := 59) dX8_isNew_59 rfl (Nat.le_of_ble_eq_true rfl) rfl ?_
        refine s_iinc (v := x3 + 1) (L' := [(3, .int (x3 + 1)), (2, .int 1), (0, .ref 53), (1, .int x1)]) 3 (pc := 60) dX8_isNew_60 rfl rfl (Nat.le_of_ble_eq_true rfl) rfl ?_
        refine s_goto (pc := 63) (tgt := 4) dX8_isNew_63 rfl ?_
        exact s_sub (L' := [(0, .ref 53), (1, .int x1), (2, .int 1), (3, .int (x3 + 1))]) [2, 3, 1, 0] rfl h
      · replace h := h.2 q3
        refine s_aload_n 0 (pc := 24) dX8_isNew_24 rfl rfl ?_
        refine s_getR (q := 73) (pc := 25) dX8_isNew_25 fl_X8_67 ly53 rfl ?_
        refine s_iload_n 3 (pc := 28) dX8_isNew_28 rfl rfl ?_
        have hv4 := h.1
        replace h := h.2
        refine s_iald (pc := 29) dX8_isNew_29 ly73 hv4 ?_
        refine s_aload_n 0 (pc := 30) dX8_isNew_30 rfl rfl ?_
        refine s_getR (q := 73) (pc := 31) dX8_isNew_31 fl_X8_67 ly53 rfl ?_
        refine s_iload_n 1 (pc := 34) dX8_isNew_34 rfl rfl ?_
        have hv5 := h.1
        replace h := h.2
        refine s_iald (pc := 35) dX8_isNew_35 ly73 hv5 ?_
        refine s_icmp_ne (pc := 36) (tgt := 54) dX8_isNew_36 rfl (fun q6 => ?_) (fun q6 => ?_)
        · replace h := h.1 q6
          refine s_iconst (v := 1) (pc := 54) dX8_isNew_54 rfl ?_
          refine s_goto (pc := 55) (tgt := 59) dX8_isNew_55 rfl ?_
          refine s_istore_n (L' := [(2, .int 1), (0, .ref 53), (1, .int x1), (3, .int x3)]) (pc := 59) dX8_isNew_59 rfl (Nat.le_of_ble_eq_true rfl) rfl ?_
          refine s_iinc (v := x3 + 1) (L' := [(3, .int (x3 + 1)), (2, .int 1), (0, .ref 53), (1, .int x1)]) 3 (pc := 60) dX8_isNew_60 rfl rfl (Nat.le_of_ble_eq_true rfl) rfl ?_
          refine s_goto (pc := 63) (tgt := 4) dX8_isNew_63 rfl ?_
          exact s_sub (L' := [(0, .ref 53), (1, .int x1), (2, .int 1), (3, .int (x3 + 1))]) [2, 3, 1, 0] rfl h
        · replace h := h.2 q6
          refine s_aload_n 0 (pc := 39) dX8_isNew_39 rfl rfl ?_
          refine s_getR (q := 74) (pc := 40) dX8_isNew_40 fl_X8_70 ly53 rfl ?_
          refine s_iload_n 3 (pc := 43) dX8_isNew_43 rfl rfl ?_
          refine s_iald (pc := 44) dX8_isNew_44 ly74 hv4 ?_
          refine s_aload_n 0 (pc := 45) dX8_isNew_45 rfl rfl ?_
          refine s_getR (q := 74) (pc := 46) dX8_isNew_46 fl_X8_70 ly53 rfl ?_
          refine s_iload_n 1 (pc := 49) dX8_isNew_49 rfl rfl ?_
          refine s_iald (pc := 50) dX8_isNew_50 ly74 hv5 ?_
          refine s_icmp_eq (pc := 51) (tgt := 58) dX8_isNew_51 rfl (fun q9 => ?_) (fun q9 => ?_)
          · replace h := h.1 q9
            refine s_iconst (v := 0) (pc := 58) dX8_isNew_58 rfl ?_
            refine s_istore_n (L' := [(2, .int 0), (0, .ref 53), (1, .int x1), (3, .int x3)]) (pc := 59) dX8_isNew_59 rfl (Nat.le_of_ble_eq_true rfl) rfl ?_
            refine s_iinc (v := x3 + 1) (L' := [(3, .int (x3 + 1)), (2, .int 0), (0, .ref 53), (1, .int x1)]) 3 (pc := 60) dX8_isNew_60 rfl rfl (Nat.le_of_ble_eq_true rfl) rfl ?_
            refine s_goto (pc := 63) (tgt := 4) dX8_isNew_63 rfl ?_
            exact s_sub (L' := [(0, .ref 53), (1, .int x1), (2, .int 0), (3, .int (x3 + 1))]) [2, 3, 1, 0] rfl h
          · replace h := h.2 q9
            refine s_iconst (v := 1) (pc := 54) dX8_isNew_54 rfl ?_
            refine s_goto (pc := 55) (tgt := 59) dX8_isNew_55 rfl ?_
            refine s_istore_n (L' := [(2, .int 1), (0, .ref 53), (1, .int x1), (3, .int x3)]) (pc := 59) dX8_isNew_59 rfl (Nat.le_of_ble_eq_true rfl) rfl ?_
            refine s_iinc (v := x3 + 1) (L' := [(3, .int (x3 + 1)), (2, .int 1), (0, .ref 53), (1, .int x1)]) 3 (pc := 60) dX8_isNew_60 rfl rfl (Nat.le_of_ble_eq_true rfl) rfl ?_
            refine s_goto (pc := 63) (tgt := 4) dX8_isNew_63 rfl ?_
            exact s_sub (L' := [(0, .ref 53), (1, .int x1), (2, .int 1), (3, .int (x3 + 1))]) [2, 3, 1, 0] rfl h
set_option maxRecDepth 10000 in
set_option maxHeartbeats 4000000 in
theorem tX8_holesOf_0 {E : Ev}  {σ : Hp} {Φ : Option Value → Hp → Prop}  (h : ∃ σ1 : Hp, Call E mX8_runsTold [.ref 53] σ none σ1 ∧ Ru E mX8_holesOf 8 [(0, .ref 53), (1, .int 0), (2, .int 0)] [] σ1 Φ) : Ru E mX8_holesOf 0 [(0, .ref 53)] [] σ Φ := by
  refine s_aload_n 0 (pc := 0) dX8_holesOf_0 rfl rfl ?_
  obtain ⟨σ1, hk2, h⟩ := h
  refine s_callV (S := []) [] (pc := 1) dX8_holesOf_1 mv_X8_runsTold ml_X8_219 ⟨Nat.le_of_ble_eq_true rfl, Nat.le_of_ble_eq_true rfl⟩ rfl rfl ly53 rfl rfl (Nat.le_of_ble_eq_true rfl) hk2 ?_
  refine s_iconst (v := 0) (pc := 4) dX8_holesOf_4 rfl ?_
  refine s_istore_n (L' := [(1, .int 0), (0, .ref 53)]) (pc := 5) dX8_holesOf_5 rfl (Nat.le_of_ble_eq_true rfl) rfl ?_
  refine s_iconst (v := 0) (pc := 6) dX8_holesOf_6 rfl ?_
  refine s_istore_n (L' := [(2, .int 0), (1, .int 0), (0, .ref 53)]) (pc := 7) dX8_holesOf_7 rfl (Nat.le_of_ble_eq_true rfl) rfl ?_
  exact s_sub (L' := [(0, .ref 53), (1, .int 0), (2, .int 0)]) [2, 1, 0] rfl h
set_option maxRecDepth 10000 in
set_option maxHeartbeats 4000000 in
theorem tX8_holesOf_8 {E : Ev} {x1 : Int32} {x2 : Int32} {σ : Hp} {Φ : Option Value → Hp → Prop}  (h : ((160 ≤ x2 → Φ (some (.int x1)) σ) ∧ (¬ 160 ≤ x2 → (((σ 53 2) ≤ (x2 - x2 / 8 * 8) → Ru E mX8_holesOf 8 [(0, .ref 53), (1, .int (x1 + 0)), (2, .int (x2 + 1))] [] σ Φ) ∧ (¬ (σ 53 2) ≤ (x2 - x2 / 8 * 8) → ∃ (r5 : Int32) (σ3 : Hp), Call E mX8_isNew [.ref 53, .int x2] σ (some (.int r5)) σ3 ∧ ((r5 = 0 → Ru E mX8_holesOf 8 [(0, .ref 53), (1, .int (x1 + 0)), (2, .int (x2 + 1))] [] σ3 Φ) ∧ (¬ r5 = 0 → Ru E mX8_holesOf 8 [(0, .ref 53), (1, .int (x1 + 1)), (2, .int (x2 + 1))] [] σ3 Φ))))))) : Ru E mX8_holesOf 8 [(0, .ref 53), (1, .int x1), (2, .int x2)] [] σ Φ := by
  refine s_iload_n 2 (pc := 8) dX8_holesOf_8 rfl rfl ?_
  refine s_sipush (v := 160) (pc := 9) dX8_holesOf_9 rfl ?_
  refine s_icmp_ge (pc := 12) (tgt := 48) dX8_holesOf_12 rfl (fun q1 => ?_) (fun q1 => ?_)
  · replace h := h.1 q1
    refine s_iload_n 1 (pc := 48) dX8_holesOf_48 rfl rfl ?_
    exact s_ret (r := some (.int x1)) ⟨dX8_holesOf_49, fun ty e => by cases e; rfl⟩ rfl h
  · replace h := h.2 q1
    refine s_iload_n 1 (pc := 15) dX8_holesOf_15 rfl rfl ?_
    refine s_iload_n 2 (pc := 16) dX8_holesOf_16 rfl rfl ?_
    refine s_bipush (v := 8) (pc := 17) dX8_holesOf_17 rfl ?_
    refine s_irem (pc := 19) dX8_holesOf_19 (by decide) ?_
    refine s_aload_n 0 (pc := 20) dX8_holesOf_20 rfl rfl ?_
    refine s_getI (v := σ 53 2) (pc := 21) dX8_holesOf_21 fl_X8_139 ly53 rfl rfl ?_
    refine s_icmp_ge (pc := 24) (tgt := 39) dX8_holesOf_24 rfl (fun q2 => ?_) (fun q2 => ?_)
    · replace h := h.1 q2
      refine s_iconst (v := 0) (pc := 39) dX8_holesOf_39 rfl ?_
      refine s_iadd (pc := 40) dX8_holesOf_40 ?_
      refine s_istore_n (L' := [(1, .int (x1 + 0)), (0, .ref 53), (2, .int x2)]) (pc := 41) dX8_holesOf_41 rfl (Nat.le_of_ble_eq_true rfl) rfl ?_
      refine s_iinc (v := x2 + 1) (L' := [(2, .int (x2 + 1)), (1, .int (x1 + 0)), (0, .ref 53)]) 2 (pc := 42) dX8_holesOf_42 rfl rfl (Nat.le_of_ble_eq_true rfl) rfl ?_
      refine s_goto (pc := 45) (tgt := 8) dX8_holesOf_45 rfl ?_
      exact s_sub (L' := [(0, .ref 53), (1, .int (x1 + 0)), (2, .int (x2 + 1))]) [2, 1, 0] rfl h
    · replace h := h.2 q2
      refine s_aload_n 0 (pc := 27) dX8_holesOf_27 rfl rfl ?_
      refine s_iload_n 2 (pc := 28) dX8_holesOf_28 rfl rfl ?_
      obtain ⟨r5, σ3, hk4, h⟩ := h
      refine s_callV (S := [.int x1]) [.int x2] (pc := 29) dX8_holesOf_29 mv_X8_isNew ml_X8_253 ⟨Nat.le_of_ble_eq_true rfl, Nat.le_of_ble_eq_true rfl⟩ rfl rfl ly53 rfl rfl (Nat.le_of_ble_eq_true rfl) hk4 ?_
      refine s_if_eq (pc := 32) (tgt := 39) dX8_holesOf_32 rfl (fun q6 => ?_) (fun q6 => ?_)
      · replace h := h.1 q6
        refine s_iconst (v := 0) (pc := 39) dX8_holesOf_39 rfl ?_
        refine s_iadd (pc := 40) dX8_holesOf_40 ?_
        refine s_istore_n (L' := [(1, .int (x1 + 0)), (0, .ref 53), (2, .int x2)]) (pc := 41) dX8_holesOf_41 rfl (Nat.le_of_ble_eq_true rfl) rfl ?_
        refine s_iinc (v := x2 + 1) (L' := [(2, .int (x2 + 1)), (1, .int (x1 + 0)), (0, .ref 53)]) 2 (pc := 42) dX8_holesOf_42 rfl rfl (Nat.le_of_ble_eq_true rfl) rfl ?_
        refine s_goto (pc := 45) (tgt := 8) dX8_holesOf_45 rfl ?_
        exact s_sub (L' := [(0, .ref 53), (1, .int (x1 + 0)), (2, .int (x2 + 1))]) [2, 1, 0] rfl h
      · replace h := h.2 q6
        refine s_iconst (v := 1) (pc := 35) dX8_holesOf_35 rfl ?_
        refine s_goto (pc := 36) (tgt := 40) dX8_holesOf_36 rfl ?_
        refine s_iadd (pc := 40) dX8_holesOf_40 ?_
        refine s_istore_n (L' := [(1, .int (x1 + 1)), (0, .ref 53), (2, .int x2)]) (pc := 41) dX8_holesOf_41 rfl (Nat.le_of_ble_eq_true rfl) rfl ?_
        refine s_iinc (v := x2 + 1) (L' := [(2, .int (x2 + 1)), (1, .int (x1 + 1)), (0, .ref 53)]) 2 (pc := 42) dX8_holesOf_42 rfl rfl (Nat.le_of_ble_eq_true rfl) rfl ?_
        refine s_goto (pc := 45) (tgt := 8) dX8_holesOf_45 rfl ?_
        exact s_sub (L' := [(0, .ref 53), (1, .int (x1 + 1)), (2, .int (x2 + 1))]) [2, 1, 0] rfl h
set_option maxRecDepth 10000 in
set_option maxHeartbeats 4000000 in
theorem tX8_holes_0 {E : Ev}  {σ : Hp} {Φ : Option Value → Hp → Prop}  (h : ∃ (r3 : Int32) (σ1 : Hp), Call E mX8_holesOf [.ref 53] σ (some (.int r3)) σ1 ∧ Φ (some (.int r3)) σ1) : Ru E mX8_holes 0 [(0, .ref 53)] [] σ Φ := by
  refine s_aload_n 0 (pc := 0) dX8_holes_0 rfl rfl ?_
  obtain ⟨r3, σ1, hk2, h⟩ := h
  refine s_callV (S := []) [] (pc := 1) dX8_holes_1 mv_X8_holesOf ml_X8_256 ⟨Nat.le_of_ble_eq_true rfl, Nat.le_of_ble_eq_true rfl⟩ rfl rfl ly53 rfl rfl (Nat.le_of_ble_eq_true rfl) hk2 ?_
  exact s_ret (r := some (.int r3)) ⟨dX8_holes_4, fun ty e => by cases e; rfl⟩ rfl h
set_option maxRecDepth 10000 in
set_option maxHeartbeats 4000000 in
theorem tX8_ringedOf_0 {E : Ev} {x1 : Int32} {σ : Hp} {Φ : Option Value → Hp → Prop}  (h : ∃ σ1 : Hp, Call E mX8_runsTold [.ref 53] σ none σ1 ∧ Ru E mX8_ringedOf 9 [(0, .ref 53), (1, .int x1), (2, .int (-1)), (3, .int 19)] [] σ1 Φ) : Ru E mX8_ringedOf 0 [(0, .ref 53), (1, .int x1)] [] σ Φ := by
  refine s_aload_n 0 (pc := 0) dX8_ringedOf_0 rfl rfl ?_
  obtain ⟨σ1, hk2, h⟩ := h
  refine s_callV (S := []) [] (pc := 1) dX8_ringedOf_1 mv_X8_runsTold ml_X8_219 ⟨Nat.le_of_ble_eq_true rfl, Nat.le_of_ble_eq_true rfl⟩ rfl rfl ly53 rfl rfl (Nat.le_of_ble_eq_true rfl) hk2 ?_
  refine s_iconst (v := (-1)) (pc := 4) dX8_ringedOf_4 rfl ?_
  refine s_istore_n (L' := [(2, .int (-1)), (0, .ref 53), (1, .int x1)]) (pc := 5) dX8_ringedOf_5 rfl (Nat.le_of_ble_eq_true rfl) rfl ?_
  refine s_bipush (v := 19) (pc := 6) dX8_ringedOf_6 rfl ?_
  refine s_istore_n (L' := [(3, .int 19), (2, .int (-1)), (0, .ref 53), (1, .int x1)]) (pc := 8) dX8_ringedOf_8 rfl (Nat.le_of_ble_eq_true rfl) rfl ?_
  exact s_sub (L' := [(0, .ref 53), (1, .int x1), (2, .int (-1)), (3, .int 19)]) [2, 3, 1, 0] rfl h
set_option maxRecDepth 10000 in
set_option maxHeartbeats 4000000 in
theorem tX8_ringedOf_9 {E : Ev} {x1 : Int32} {x2 : Int32} {x3 : Int32} {σ : Hp} {Φ : Option Value → Hp → Prop}  (h : ((x3 < 0 → Φ (some (.int x2)) σ) ∧ (¬ x3 < 0 → vp_in ((8 * x3) + x1) 160 ∧ ((¬ (σ 77 (((8 * x3) + x1).toNatClampNeg)) = 4 → Ru E mX8_ringedOf 9 [(0, .ref 53), (1, .int x1), (2, .int x2), (3, .int (x3 + (-1)))] [] σ Φ) ∧ ((σ 77 (((8 * x3) + x1).toNatClampNeg)) = 4 → Ru E mX8_ringedOf 9 [(0, .ref 53), (1, .int x1), (2, .int x3), (3, .int (x3 + (-1)))] [] σ Φ))))) : Ru E mX8_ringedOf 9 [(0, .ref 53), (1, .int x1), (2, .int x2), (3, .int x3)] [] σ Φ := by
  refine s_iload_n 3 (pc := 9) dX8_ringedOf_9 rfl rfl ?_
  refine s_if_lt (pc := 10) (tgt := 40) dX8_ringedOf_10 rfl (fun q1 => ?_) (fun q1 => ?_)
  · replace h := h.1 q1
    refine s_iload_n 2 (pc := 40) dX8_ringedOf_40 rfl rfl ?_
    exact s_ret (r := some (.int x2)) ⟨dX8_ringedOf_41, fun ty e => by cases e; rfl⟩ rfl h
  · replace h := h.2 q1
    refine s_aload_n 0 (pc := 13) dX8_ringedOf_13 rfl rfl ?_
    refine s_getR (q := 77) (pc := 14) dX8_ringedOf_14 fl_X8_79 ly53 rfl ?_
    refine s_bipush (v := 8) (pc := 17) dX8_ringedOf_17 rfl ?_
    refine s_iload_n 3 (pc := 19) dX8_ringedOf_19 rfl rfl ?_
    refine s_imul (pc := 20) dX8_ringedOf_20 ?_
    refine s_iload_n 1 (pc := 21) dX8_ringedOf_21 rfl rfl ?_
    refine s_iadd (pc := 22) dX8_ringedOf_22 ?_
    have hv2 := h.1
    replace h := h.2
    refine s_iald (pc := 23) dX8_ringedOf_23 ly77 hv2 ?_
    refine s_iconst (v := 4) (pc := 24) dX8_ringedOf_24 rfl ?_
    refine s_icmp_ne (pc := 25) (tgt := 32) dX8_ringedOf_25 rfl (fun q3 => ?_) (fun q3 => ?_)
    · replace h := h.1 q3
      refine s_iload_n 2 (pc := 32) dX8_ringedOf_32 rfl rfl ?_
      refine s_istore_n (L' := [(2, .int x2), (0, .ref 53), (1, .int x1), (3, .int x3)]) (pc := 33) dX8_ringedOf_33 rfl (Nat.le_of_ble_eq_true rfl) rfl ?_
      refine s_iinc (v := x3 + (-1)) (L' := [(3, .int (x3 + (-1))), (2, .int x2), (0, .ref 53), (1, .int x1)]) 3 (pc := 34) dX8_ringedOf_34 rfl rfl (Nat.le_of_ble_eq_true rfl) rfl ?_
      refine s_goto (pc := 37) (tgt := 9) dX8_ringedOf_37 rfl ?_
      exact s_sub (L' := [(0, .ref 53), (1, .int x1), (2, .int x2), (3, .int (x3 + (-1)))]) [2, 3, 1, 0] rfl h
    · replace h := h.2 q3
      refine s_iload_n 3 (pc := 28) dX8_ringedOf_28 rfl rfl ?_
      refine s_goto (pc := 29) (tgt := 33) dX8_ringedOf_29 rfl ?_
      refine s_istore_n (L' := [(2, .int x3), (0, .ref 53), (1, .int x1), (3, .int x3)]) (pc := 33) dX8_ringedOf_33 rfl (Nat.le_of_ble_eq_true rfl) rfl ?_
      refine s_iinc (v := x3 + (-1)) (L' := [(3, .int (x3 + (-1))), (2, .int x3), (0, .ref 53), (1, .int x1)]) 3 (pc := 34) dX8_ringedOf_34 rfl rfl (Nat.le_of_ble_eq_true rfl) rfl ?_
      refine s_goto (pc := 37) (tgt := 9) dX8_ringedOf_37 rfl ?_
      exact s_sub (L' := [(0, .ref 53), (1, .int x1), (2, .int x3), (3, .int (x3 + (-1)))]) [2, 3, 1, 0] rfl h
set_option maxRecDepth 10000 in
set_option maxHeartbeats 4000000 in
theorem tX8_ringed_0 {E : Ev} {x1 : Int32} {σ : Hp} {Φ : Option Value → Hp → Prop}  (h : ∃ (r3 : Int32) (σ1 : Hp), Call E mX8_isCouple [.ref 53, .int x1] σ (some (.int r3)) σ1 ∧ ((r3 = 0 → Φ (some (.int (-2))) σ1) ∧ (¬ r3 = 0 → ∃ (r7 : Int32) (σ5 : Hp), Call E mX8_ringedOf [.ref 53, .int x1] σ1 (some (.int r7)) σ5 ∧ Φ (some (.int r7)) σ5))) : Ru E mX8_ringed 0 [(0, .ref 53), (1, .int x1)] [] σ Φ := by
  refine s_aload_n 0 (pc := 0) dX8_ringed_0 rfl rfl ?_
  refine s_iload_n 1 (pc := 1) dX8_ringed_1 rfl rfl ?_
  obtain ⟨r3, σ1, hk2, h⟩ := h
  refine s_callV (S := []) [.int x1] (pc := 2) dX8_ringed_2 mv_X8_isCouple ml_X8_153 ⟨Nat.le_of_ble_eq_true rfl, Nat.le_of_ble_eq_true rfl⟩ rfl rfl ly53 rfl rfl (Nat.le_of_ble_eq_true rfl) hk2 ?_
  refine s_if_eq (pc := 5) (tgt := 16) dX8_ringed_5 rfl (fun q4 => ?_) (fun q4 => ?_)
  · replace h := h.1 q4
    refine s_bipush (v := (-2)) (pc := 16) dX8_ringed_16 rfl ?_
    exact s_ret (r := some (.int (-2))) ⟨dX8_ringed_18, fun ty e => by cases e; rfl⟩ rfl h
  · replace h := h.2 q4
    refine s_aload_n 0 (pc := 8) dX8_ringed_8 rfl rfl ?_
    refine s_iload_n 1 (pc := 9) dX8_ringed_9 rfl rfl ?_
    obtain ⟨r7, σ5, hk6, h⟩ := h
    refine s_callV (S := []) [.int x1] (pc := 10) dX8_ringed_10 mv_X8_ringedOf ml_X8_259 ⟨Nat.le_of_ble_eq_true rfl, Nat.le_of_ble_eq_true rfl⟩ rfl rfl ly53 rfl rfl (Nat.le_of_ble_eq_true rfl) hk6 ?_
    refine s_goto (pc := 13) (tgt := 18) dX8_ringed_13 rfl ?_
    exact s_ret (r := some (.int r7)) ⟨dX8_ringed_18, fun ty e => by cases e; rfl⟩ rfl h
set_option maxRecDepth 10000 in
set_option maxHeartbeats 4000000 in
theorem tX8_metOf_0 {E : Ev} {x1 : Int32} {σ : Hp} {Φ : Option Value → Hp → Prop}  (h : ∃ σ1 : Hp, Call E mX8_runsTold [.ref 53] σ none σ1 ∧ Ru E mX8_metOf 6 [(0, .ref 53), (1, .int x1), (2, .int 0)] [] σ1 Φ) : Ru E mX8_metOf 0 [(0, .ref 53), (1, .int x1)] [] σ Φ := by
  refine s_aload_n 0 (pc := 0) dX8_metOf_0 rfl rfl ?_
  obtain ⟨σ1, hk2, h⟩ := h
  refine s_callV (S := []) [] (pc := 1) dX8_metOf_1 mv_X8_runsTold ml_X8_219 ⟨Nat.le_of_ble_eq_true rfl, Nat.le_of_ble_eq_true rfl⟩ rfl rfl ly53 rfl rfl (Nat.le_of_ble_eq_true rfl) hk2 ?_
  refine s_iconst (v := 0) (pc := 4) dX8_metOf_4 rfl ?_
  refine s_istore_n (L' := [(2, .int 0), (0, .ref 53), (1, .int x1)]) (pc := 5) dX8_metOf_5 rfl (Nat.le_of_ble_eq_true rfl) rfl ?_
  exact s_sub (L' := [(0, .ref 53), (1, .int x1), (2, .int 0)]) [1, 2, 0] rfl h
set_option maxRecDepth 10000 in
set_option maxHeartbeats 4000000 in
theorem tX8_metOf_6 {E : Ev} {x1 : Int32} {x2 : Int32} {σ : Hp} {Φ : Option Value → Hp → Prop}  (h : ((20 ≤ x2 → Φ (some (.int (-1))) σ) ∧ (¬ 20 ≤ x2 → Ru E mX8_metOf 14 [(0, .ref 53), (1, .int x1), (2, .int x2), (3, .int 0)] [] σ Φ))) : Ru E mX8_metOf 6 [(0, .ref 53), (1, .int x1), (2, .int x2)] [] σ Φ := by
  refine s_iload_n 2 (pc := 6) dX8_metOf_6 rfl rfl ?_
  refine s_bipush (v := 20) (pc := 7) dX8_metOf_7 rfl ?_
  refine s_icmp_ge (pc := 9) (tgt := 121) dX8_metOf_9 rfl (fun q1 => ?_) (fun q1 => ?_)
  · replace h := h.1 q1
    refine s_iconst (v := (-1)) (pc := 121) dX8_metOf_121 rfl ?_
    exact s_ret (r := some (.int (-1))) ⟨dX8_metOf_122, fun ty e => by cases e; rfl⟩ rfl h
  · replace h := h.2 q1
    refine s_iconst (v := 0) (pc := 12) dX8_metOf_12 rfl ?_
    refine s_istore_n (L' := [(3, .int 0), (0, .ref 53), (1, .int x1), (2, .int x2)]) (pc := 13) dX8_metOf_13 rfl (Nat.le_of_ble_eq_true rfl) rfl ?_
    exact s_sub (L' := [(0, .ref 53), (1, .int x1), (2, .int x2), (3, .int 0)]) [1, 2, 3, 0] rfl h
set_option maxRecDepth 10000 in
set_option maxHeartbeats 4000000 in
theorem tX8_metOf_14 {E : Ev} {x1 : Int32} {x2 : Int32} {x3 : Int32} {σ : Hp} {Φ : Option Value → Hp → Prop}  (h : (((σ 53 2) ≤ x3 → Ru E mX8_metOf 6 [(0, .ref 53), (1, .int x1), (2, .int (x2 + 1))] [] σ Φ) ∧ (¬ (σ 53 2) ≤ x3 → Ru E mX8_metOf 27 [(0, .ref 53), (1, .int x1), (2, .int x2), (3, .int x3), (4, .int (x3 + 1))] [] σ Φ))) : Ru E mX8_metOf 14 [(0, .ref 53), (1, .int x1), (2, .int x2), (3, .int x3)] [] σ Φ := by
  refine s_iload_n 3 (pc := 14) dX8_metOf_14 rfl rfl ?_
  refine s_aload_n 0 (pc := 15) dX8_metOf_15 rfl rfl ?_
  refine s_getI (v := σ 53 2) (pc := 16) dX8_metOf_16 fl_X8_139 ly53 rfl rfl ?_
  refine s_icmp_ge (pc := 19) (tgt := 115) dX8_metOf_19 rfl (fun q1 => ?_) (fun q1 => ?_)
  · replace h := h.1 q1
    refine s_iinc (v := x2 + 1) (L' := [(2, .int (x2 + 1)), (0, .ref 53), (1, .int x1), (3, .int x3)]) 2 (pc := 115) dX8_metOf_115 rfl rfl (Nat.le_of_ble_eq_true rfl) rfl ?_
    refine s_goto (pc := 118) (tgt := 6) dX8_metOf_118 rfl ?_
    exact s_sub (L' := [(0, .ref 53), (1, .int x1), (2, .int (x2 + 1))]) [1, 2, 0] rfl h
  · replace h := h.2 q1
    refine s_iload_n 3 (pc := 22) dX8_metOf_22 rfl rfl ?_
    refine s_iconst (v := 1) (pc := 23) dX8_metOf_23 rfl ?_
    refine s_iadd (pc := 24) dX8_metOf_24 ?_
    refine s_istore (L' := [(4, .int (x3 + 1)), (0, .ref 53), (1, .int x1), (2, .int x2), (3, .int x3)]) (pc := 25) dX8_metOf_25 (Nat.le_of_ble_eq_true rfl) rfl ?_
    exact s_sub (L' := [(0, .ref 53), (1, .int x1), (2, .int x2), (3, .int x3), (4, .int (x3 + 1))]) [1, 2, 3, 4, 0] rfl h
set_option maxRecDepth 10000 in
set_option maxHeartbeats 4000000 in
theorem tX8_metOf_27 {E : Ev} {x1 : Int32} {x2 : Int32} {x3 : Int32} {x4 : Int32} {σ : Hp} {Φ : Option Value → Hp → Prop}  (h : (((σ 53 2) ≤ x4 → Ru E mX8_metOf 14 [(0, .ref 53), (1, .int x1), (2, .int x2), (3, .int (x3 + 1))] [] σ Φ) ∧ (¬ (σ 53 2) ≤ x4 → ∃ (r4 : Int32) (σ2 : Hp), Call E mX8_legXAt [.ref 53, .int ((8 * x2) + x3)] σ (some (.int r4)) σ2 ∧ ∃ (r7 : Int32) (σ5 : Hp), Call E mX8_legXAt [.ref 53, .int ((8 * x2) + x4)] σ2 (some (.int r7)) σ5 ∧ ((¬ r4 = r7 → Ru E mX8_metOf 27 [(0, .ref 53), (1, .int x1), (2, .int x2), (3, .int x3), (4, .int (x4 + 1))] [] σ5 Φ) ∧ (r4 = r7 → ∃ (r11 : Int32) (σ9 : Hp), Call E mX8_legYAt [.ref 53, .int ((8 * x2) + x3)] σ5 (some (.int r11)) σ9 ∧ ∃ (r14 : Int32) (σ12 : Hp), Call E mX8_legYAt [.ref 53, .int ((8 * x2) + x4)] σ9 (some (.int r14)) σ12 ∧ ((¬ r11 = r14 → Ru E mX8_metOf 27 [(0, .ref 53), (1, .int x1), (2, .int x2), (3, .int x3), (4, .int (x4 + 1))] [] σ12 Φ) ∧ (r11 = r14 → ((¬ x1 = 0 → ((¬ x1 = 1 → Φ (some (.int x4)) σ12) ∧ (x1 = 1 → Φ (some (.int x3)) σ12))) ∧ (x1 = 0 → Φ (some (.int x2)) σ12))))))))) : Ru E mX8_metOf 27 [(0, .ref 53), (1, .int x1), (2, .int x2), (3, .int x3), (4, .int x4)] [] σ Φ := by
  refine s_iload 4 (pc := 27) dX8_metOf_27 rfl ?_
  refine s_aload_n 0 (pc := 29) dX8_metOf_29 rfl rfl ?_
  refine s_getI (v := σ 53 2) (pc := 30) dX8_metOf_30 fl_X8_139 ly53 rfl rfl ?_
  refine s_icmp_ge (pc := 33) (tgt := 109) dX8_metOf_33 rfl (fun q1 => ?_) (fun q1 => ?_)
  · replace h := h.1 q1
    refine s_iinc (v := x3 + 1) (L' := [(3, .int (x3 + 1)), (0, .ref 53), (1, .int x1), (2, .int x2), (4, .int x4)]) 3 (pc := 109) dX8_metOf_109 rfl rfl (Nat.le_of_ble_eq_true rfl) rfl ?_
    refine s_goto (pc := 112) (tgt := 14) dX8_metOf_112 rfl ?_
    exact s_sub (L' := [(0, .ref 53), (1, .int x1), (2, .int x2), (3, .int (x3 + 1))]) [1, 2, 3, 0] rfl h
  · replace h := h.2 q1
    refine s_bipush (v := 8) (pc := 36) dX8_metOf_36 rfl ?_
    refine s_iload_n 2 (pc := 38) dX8_metOf_38 rfl rfl ?_
    refine s_imul (pc := 39) dX8_metOf_39 ?_
    refine s_iload_n 3 (pc := 40) dX8_metOf_40 rfl rfl ?_
    refine s_iadd (pc := 41) dX8_metOf_41 ?_
    refine s_istore (L' := [(5, .int ((8 * x2) + x3)), (0, .ref 53), (1, .int x1), (2, .int x2), (3, .int x3), (4, .int x4)]) (pc := 42) dX8_metOf_42 (Nat.le_of_ble_eq_true rfl) rfl ?_
    refine s_bipush (v := 8) (pc := 44) dX8_metOf_44 rfl ?_
    refine s_iload_n 3 (pc := 46) dX8_metOf_46 rfl rfl ?_
    refine s_imul (pc := 47) dX8_metOf_47 ?_
    refine s_iload 5 (pc := 48) dX8_metOf_48 rfl ?_
    refine s_iadd (pc := 50) dX8_metOf_50 ?_
    refine s_istore (L' := [(6, .int ((8 * x2) + x4)), (5, .int ((8 * x2) + x3)), (0, .ref 53), (1, .int x1), (2, .int x2), (3, .int x3), (4, .int x4)]) (pc := 51) dX8_metOf_51 (Nat.le_of_ble_eq_true rfl) rfl ?_
    refine s_aload_n 2 (pc := 53) dX8_metOf_53 rfl rfl ?_
    refine s_iload 1 (pc := 54) dX8_metOf_54 rfl ?_
    obtain ⟨r4, σ2, hk3, h⟩ := h
    refine s_callV (S := []) [.int ((8 * x2) + x3)] (pc := 56) dX8_metOf_56 mv_X8_legXAt ml_X8_225 ⟨Nat.le_of_ble_eq_true rfl, Nat.le_of_ble_eq_true rfl⟩ rfl rfl ly53 rfl rfl (Nat.le_of_ble_eq_true rfl) hk3 ?_
    refine s_aload_n 2 (pc := 59) dX8_metOf_59 rfl rfl ?_
    refine s_iload 0 (pc := 60) dX8_metOf_60 rfl ?_
    obtain ⟨r7, σ5, hk6, h⟩ := h
    refine s_callV (S := [.int r4]) [.int ((8 * x2) + x4)] (pc := 62) dX8_metOf_62 mv_X8_legXAt ml_X8_225 ⟨Nat.le_of_ble_eq_true rfl, Nat.le_of_ble_eq_true rfl⟩ rfl rfl ly53 rfl rfl (Nat.le_of_ble_eq_true rfl) hk6 ?_
    refine s_icmp_ne (pc := 65) (tgt := 103) dX8_metOf_65 rfl (fun q8 => ?_) (fun q8 => ?_)
    · replace h := h.1 q8
      refine s_iinc (v := x4 + 1) (L' := [(4, .int (x4 + 1)), (6, .int ((8 * x2) + x4)), (5, .int ((8 * x2) + x3)), (0, .ref 53), (1, .int x1), (2, .int x2), (3, .int x3)]) 6 (pc := 103) dX8_metOf_103 rfl rfl (Nat.le_of_ble_eq_true rfl) rfl ?_
      refine s_goto (pc := 106) (tgt := 27) dX8_metOf_106 rfl ?_
      exact s_sub (L' := [(0, .ref 53), (1, .int x1), (2, .int x2), (3, .int x3), (4, .int (x4 + 1))]) [3, 4, 5, 6, 0] rfl h
    · replace h := h.2 q8
      refine s_aload_n 2 (pc := 68) dX8_metOf_68 rfl rfl ?_
      refine s_iload 1 (pc := 69) dX8_metOf_69 rfl ?_
      obtain ⟨r11, σ9, hk10, h⟩ := h
      refine s_callV (S := []) [.int ((8 * x2) + x3)] (pc := 71) dX8_metOf_71 mv_X8_legYAt ml_X8_228 ⟨Nat.le_of_ble_eq_true rfl, Nat.le_of_ble_eq_true rfl⟩ rfl rfl ly53 rfl rfl (Nat.le_of_ble_eq_true rfl) hk10 ?_
      refine s_aload_n 2 (pc := 74) dX8_metOf_74 rfl rfl ?_
      refine s_iload 0 (pc := 75) dX8_metOf_75 rfl ?_
      obtain ⟨r14, σ12, hk13, h⟩ := h
      refine s_callV (S := [.int r11]) [.int ((8 * x2) + x4)] (pc := 77) dX8_metOf_77 mv_X8_legYAt ml_X8_228 ⟨Nat.le_of_ble_eq_true rfl, Nat.le_of_ble_eq_true rfl⟩ rfl rfl ly53 rfl rfl (Nat.le_of_ble_eq_true rfl) hk13 ?_
      refine s_icmp_ne (pc := 80) (tgt := 103) dX8_metOf_80 rfl (fun q15 => ?_) (fun q15 => ?_)
      · replace h := h.1 q15
        refine s_iinc (v := x4 + 1) (L' := [(4, .int (x4 + 1)), (6, .int ((8 * x2) + x4)), (5, .int ((8 * x2) + x3)), (0, .ref 53), (1, .int x1), (2, .int x2), (3, .int x3)]) 6 (pc := 103) dX8_metOf_103 rfl rfl (Nat.le_of_ble_eq_true rfl) rfl ?_
        refine s_goto (pc := 106) (tgt := 27) dX8_metOf_106 rfl ?_
        exact s_sub (L' := [(0, .ref 53), (1, .int x1), (2, .int x2), (3, .int x3), (4, .int (x4 + 1))]) [3, 4, 5, 6, 0] rfl h
      · replace h := h.2 q15
        refine s_iload_n 3 (pc := 83) dX8_metOf_83 rfl rfl ?_
        refine s_if_ne (pc := 84) (tgt := 91) dX8_metOf_84 rfl (fun q16 => ?_) (fun q16 => ?_)
        · replace h := h.1 q16
          refine s_iload_n 3 (pc := 91) dX8_metOf_91 rfl rfl ?_
          refine s_iconst (v := 1) (pc := 92) dX8_metOf_92 rfl ?_
          refine s_icmp_ne (pc := 93) (tgt := 100) dX8_metOf_93 rfl (fun q17 => ?_) (fun q17 => ?_)
          · replace h := h.1 q17
            refine s_iload 6 (pc := 100) dX8_metOf_100 rfl ?_
            exact s_ret (r := some (.int x4)) ⟨dX8_metOf_102, fun ty e => by cases e; rfl⟩ rfl h
          · replace h := h.2 q17
            refine s_iload_n 5 (pc := 96) dX8_metOf_96 rfl rfl ?_
            refine s_goto (pc := 97) (tgt := 102) dX8_metOf_97 rfl ?_
            exact s_ret (r := some (.int x3)) ⟨dX8_metOf_102, fun ty e => by cases e; rfl⟩ rfl h
        · replace h := h.2 q16
          refine s_iload_n 4 (pc := 87) dX8_metOf_87 rfl rfl ?_
          refine s_goto (pc := 88) (tgt := 102) dX8_metOf_88 rfl ?_
          exact s_ret (r := some (.int x2)) ⟨dX8_metOf_102, fun ty e => by cases e; rfl⟩ rfl h
set_option maxRecDepth 10000 in
set_option maxHeartbeats 4000000 in
theorem tX8_meets_0 {E : Ev} {x1 : Int32} {σ : Hp} {Φ : Option Value → Hp → Prop}  (h : ∃ (r3 : Int32) (σ1 : Hp), Call E mX8_in [.int x1, .int 0, .int 2] σ (some (.int r3)) σ1 ∧ ((r3 = 0 → Φ (some (.int (-2))) σ1) ∧ (¬ r3 = 0 → ∃ (r7 : Int32) (σ5 : Hp), Call E mX8_metOf [.ref 53, .int x1] σ1 (some (.int r7)) σ5 ∧ Φ (some (.int r7)) σ5))) : Ru E mX8_meets 0 [(0, .ref 53), (1, .int x1)] [] σ Φ := by
  refine s_iload_n 1 (pc := 0) dX8_meets_0 rfl rfl ?_
  refine s_iconst (v := 0) (pc := 1) dX8_meets_1 rfl ?_
  refine s_iconst (v := 2) (pc := 2) dX8_meets_2 rfl ?_
  obtain ⟨r3, σ1, hk2, h⟩ := h
  refine s_callS (S := []) [.int x1, .int 0, .int 2] (pc := 3) dX8_meets_3 ms_X8_in ml_X8_124 ⟨Nat.le_of_ble_eq_true rfl, Nat.le_of_ble_eq_true rfl⟩ rfl rfl (Nat.le_of_ble_eq_true rfl) hk2 ?_
  refine s_if_eq (pc := 6) (tgt := 17) dX8_meets_6 rfl (fun q4 => ?_) (fun q4 => ?_)
  · replace h := h.1 q4
    refine s_bipush (v := (-2)) (pc := 17) dX8_meets_17 rfl ?_
    exact s_ret (r := some (.int (-2))) ⟨dX8_meets_19, fun ty e => by cases e; rfl⟩ rfl h
  · replace h := h.2 q4
    refine s_aload_n 0 (pc := 9) dX8_meets_9 rfl rfl ?_
    refine s_iload_n 1 (pc := 10) dX8_meets_10 rfl rfl ?_
    obtain ⟨r7, σ5, hk6, h⟩ := h
    refine s_callV (S := []) [.int x1] (pc := 11) dX8_meets_11 mv_X8_metOf ml_X8_262 ⟨Nat.le_of_ble_eq_true rfl, Nat.le_of_ble_eq_true rfl⟩ rfl rfl ly53 rfl rfl (Nat.le_of_ble_eq_true rfl) hk6 ?_
    refine s_goto (pc := 14) (tgt := 19) dX8_meets_14 rfl ?_
    exact s_ret (r := some (.int r7)) ⟨dX8_meets_19, fun ty e => by cases e; rfl⟩ rfl h
set_option maxRecDepth 10000 in
set_option maxHeartbeats 4000000 in
theorem tX8_othersNow_0 {E : Ev} {x1 : Int32} {x2 : Int32} {x3 : Int32} {σ : Hp} {Φ : Option Value → Hp → Prop}  (h : Ru E mX8_othersNow 6 [(0, .ref 53), (1, .int x1), (2, .int x2), (3, .int x3), (4, .int 0), (5, .int 0)] [] σ Φ) : Ru E mX8_othersNow 0 [(0, .ref 53), (1, .int x1), (2, .int x2), (3, .int x3)] [] σ Φ := by
  refine s_iconst (v := 0) (pc := 0) dX8_othersNow_0 rfl ?_
  refine s_istore (L' := [(4, .int 0), (0, .ref 53), (1, .int x1), (2, .int x2), (3, .int x3)]) (pc := 1) dX8_othersNow_1 (Nat.le_of_ble_eq_true rfl) rfl ?_
  refine s_iconst (v := 0) (pc := 3) dX8_othersNow_3 rfl ?_
  refine s_istore (L' := [(5, .int 0), (4, .int 0), (0, .ref 53), (1, .int x1), (2, .int x2), (3, .int x3)]) (pc := 4) dX8_othersNow_4 (Nat.le_of_ble_eq_true rfl) rfl ?_
  exact s_sub (L' := [(0, .ref 53), (1, .int x1), (2, .int x2), (3, .int x3), (4, .int 0), (5, .int 0)]) [2, 3, 4, 5, 1, 0] rfl h
set_option maxRecDepth 10000 in
set_option maxHeartbeats 4000000 in
theorem tX8_othersNow_6 {E : Ev} {x1 : Int32} {x2 : Int32} {x3 : Int32} {x4 : Int32} {x5 : Int32} {σ : Hp} {Φ : Option Value → Hp → Prop}  (h : (((σ 53 2) ≤ x5 → Φ (some (.int x4)) σ) ∧ (¬ (σ 53 2) ≤ x5 → ((¬ x5 = x1 → ∃ (r5 : Int32) (σ3 : Hp), Call E mX8_areNow [.ref 53, .int x2, .int x1, .int x5] σ (some (.int r5)) σ3 ∧ Ru E mX8_othersNow 33 [(0, .ref 53), (1, .int x1), (2, .int x2), (3, .int x3), (4, .int x4), (5, .int x5)] [.int r5] σ3 Φ) ∧ (x5 = x1 → Ru E mX8_othersNow 33 [(0, .ref 53), (1, .int x1), (2, .int x2), (3, .int x3), (4, .int x4), (5, .int x5)] [.int (-1)] σ Φ))))) : Ru E mX8_othersNow 6 [(0, .ref 53), (1, .int x1), (2, .int x2), (3, .int x3), (4, .int x4), (5, .int x5)] [] σ Φ := by
  refine s_iload 5 (pc := 6) dX8_othersNow_6 rfl ?_
  refine s_aload_n 0 (pc := 8) dX8_othersNow_8 rfl rfl ?_
  refine s_getI (v := σ 53 2) (pc := 9) dX8_othersNow_9 fl_X8_139 ly53 rfl rfl ?_
  refine s_icmp_ge (pc := 12) (tgt := 81) dX8_othersNow_12 rfl (fun q1 => ?_) (fun q1 => ?_)
  · replace h := h.1 q1
    refine s_iload 4 (pc := 81) dX8_othersNow_81 rfl ?_
    exact s_ret (r := some (.int x4)) ⟨dX8_othersNow_83, fun ty e => by cases e; rfl⟩ rfl h
  · replace h := h.2 q1
    refine s_iload 5 (pc := 15) dX8_othersNow_15 rfl ?_
    refine s_iload_n 1 (pc := 17) dX8_othersNow_17 rfl rfl ?_
    refine s_icmp_ne (pc := 18) (tgt := 25) dX8_othersNow_18 rfl (fun q2 => ?_) (fun q2 => ?_)
    · replace h := h.1 q2
      refine s_aload_n 0 (pc := 25) dX8_othersNow_25 rfl rfl ?_
      refine s_iload_n 2 (pc := 26) dX8_othersNow_26 rfl rfl ?_
      refine s_iload_n 1 (pc := 27) dX8_othersNow_27 rfl rfl ?_
      refine s_iload 5 (pc := 28) dX8_othersNow_28 rfl ?_
      obtain ⟨r5, σ3, hk4, h⟩ := h
      refine s_callV (S := []) [.int x2, .int x1, .int x5] (pc := 30) dX8_othersNow_30 mv_X8_areNow ml_X8_235 ⟨Nat.le_of_ble_eq_true rfl, Nat.le_of_ble_eq_true rfl⟩ rfl rfl ly53 rfl rfl (Nat.le_of_ble_eq_true rfl) hk4 ?_
      exact s_sub (L' := [(0, .ref 53), (1, .int x1), (2, .int x2), (3, .int x3), (4, .int x4), (5, .int x5)]) [0, 1, 2, 3, 4, 5] rfl h
    · replace h := h.2 q2
      refine s_iconst (v := (-1)) (pc := 21) dX8_othersNow_21 rfl ?_
      refine s_goto (pc := 22) (tgt := 33) dX8_othersNow_22 rfl ?_
      exact s_sub (L' := [(0, .ref 53), (1, .int x1), (2, .int x2), (3, .int x3), (4, .int x4), (5, .int x5)]) [0, 1, 2, 3, 4, 5] rfl h
set_option maxRecDepth 10000 in
set_option maxHeartbeats 4000000 in
theorem tX8_othersNow_33 {E : Ev} {x1 : Int32} {x2 : Int32} {x3 : Int32} {x4 : Int32} {x5 : Int32} {xs0 : Int32} {σ : Hp} {Φ : Option Value → Hp → Prop}  (h : ((x3 = 0 → ((xs0 = 1 → Ru E mX8_othersNow 6 [(0, .ref 53), (1, .int x1), (2, .int x2), (3, .int x3), (4, .int (x4 + 1)), (5, .int (x5 + 1))] [] σ Φ) ∧ (¬ xs0 = 1 → ((¬ xs0 = 3 → Ru E mX8_othersNow 6 [(0, .ref 53), (1, .int x1), (2, .int x2), (3, .int x3), (4, .int (x4 + 0)), (5, .int (x5 + 1))] [] σ Φ) ∧ (xs0 = 3 → Ru E mX8_othersNow 6 [(0, .ref 53), (1, .int x1), (2, .int x2), (3, .int x3), (4, .int (x4 + 1)), (5, .int (x5 + 1))] [] σ Φ))))) ∧ (¬ x3 = 0 → ((¬ xs0 = 2 → Ru E mX8_othersNow 6 [(0, .ref 53), (1, .int x1), (2, .int x2), (3, .int x3), (4, .int (x4 + 0)), (5, .int (x5 + 1))] [] σ Φ) ∧ (xs0 = 2 → Ru E mX8_othersNow 6 [(0, .ref 53), (1, .int x1), (2, .int x2), (3, .int x3), (4, .int (x4 + 1)), (5, .int (x5 + 1))] [] σ Φ))))) : Ru E mX8_othersNow 33 [(0, .ref 53), (1, .int x1), (2, .int x2), (3, .int x3), (4, .int x4), (5, .int x5)] [.int xs0] σ Φ := by
  refine s_istore (L' := [(6, .int xs0), (0, .ref 53), (1, .int x1), (2, .int x2), (3, .int x3), (4, .int x4), (5, .int x5)]) (pc := 33) dX8_othersNow_33 (Nat.le_of_ble_eq_true rfl) rfl ?_
  refine s_iload 5 (pc := 35) dX8_othersNow_35 rfl ?_
  refine s_iload_n 4 (pc := 37) dX8_othersNow_37 rfl rfl ?_
  refine s_if_eq (pc := 38) (tgt := 55) dX8_othersNow_38 rfl (fun q1 => ?_) (fun q1 => ?_)
  · replace h := h.1 q1
    refine s_iload 0 (pc := 55) dX8_othersNow_55 rfl ?_
    refine s_iconst (v := 1) (pc := 57) dX8_othersNow_57 rfl ?_
    refine s_icmp_eq (pc := 58) (tgt := 67) dX8_othersNow_58 rfl (fun q2 => ?_) (fun q2 => ?_)
    · replace h := h.1 q2
      refine s_iconst (v := 1) (pc := 67) dX8_othersNow_67 rfl ?_
      refine s_goto (pc := 68) (tgt := 72) dX8_othersNow_68 rfl ?_
      refine s_iadd (pc := 72) dX8_othersNow_72 ?_
      refine s_istore (L' := [(4, .int (x4 + 1)), (6, .int xs0), (0, .ref 53), (1, .int x1), (2, .int x2), (3, .int x3), (5, .int x5)]) (pc := 73) dX8_othersNow_73 (Nat.le_of_ble_eq_true rfl) rfl ?_
      refine s_iinc (v := x5 + 1) (L' := [(5, .int (x5 + 1)), (4, .int (x4 + 1)), (6, .int xs0), (0, .ref 53), (1, .int x1), (2, .int x2), (3, .int x3)]) 6 (pc := 75) dX8_othersNow_75 rfl rfl (Nat.le_of_ble_eq_true rfl) rfl ?_
      refine s_goto (pc := 78) (tgt := 6) dX8_othersNow_78 rfl ?_
      exact s_sub (L' := [(0, .ref 53), (1, .int x1), (2, .int x2), (3, .int x3), (4, .int (x4 + 1)), (5, .int (x5 + 1))]) [3, 4, 5, 6, 1, 0] rfl h
    · replace h := h.2 q2
      refine s_iload 0 (pc := 61) dX8_othersNow_61 rfl ?_
      refine s_iconst (v := 3) (pc := 63) dX8_othersNow_63 rfl ?_
      refine s_icmp_ne (pc := 64) (tgt := 71) dX8_othersNow_64 rfl (fun q3 => ?_) (fun q3 => ?_)
      · replace h := h.1 q3
        refine s_iconst (v := 0) (pc := 71) dX8_othersNow_71 rfl ?_
        refine s_iadd (pc := 72) dX8_othersNow_72 ?_
        refine s_istore (L' := [(4, .int (x4 + 0)), (6, .int xs0), (0, .ref 53), (1, .int x1), (2, .int x2), (3, .int x3), (5, .int x5)]) (pc := 73) dX8_othersNow_73 (Nat.le_of_ble_eq_true rfl) rfl ?_
        refine s_iinc (v := x5 + 1) (L' := [(5, .int (x5 + 1)), (4, .int (x4 + 0)), (6, .int xs0), (0, .ref 53), (1, .int x1), (2, .int x2), (3, .int x3)]) 6 (pc := 75) dX8_othersNow_75 rfl rfl (Nat.le_of_ble_eq_true rfl) rfl ?_
        refine s_goto (pc := 78) (tgt := 6) dX8_othersNow_78 rfl ?_
        exact s_sub (L' := [(0, .ref 53), (1, .int x1), (2, .int x2), (3, .int x3), (4, .int (x4 + 0)), (5, .int (x5 + 1))]) [3, 4, 5, 6, 1, 0] rfl h
      · replace h := h.2 q3
        refine s_iconst (v := 1) (pc := 67) dX8_othersNow_67 rfl ?_
        refine s_goto (pc := 68) (tgt := 72) dX8_othersNow_68 rfl ?_
        refine s_iadd (pc := 72) dX8_othersNow_72 ?_
        refine s_istore (L' := [(4, .int (x4 + 1)), (6, .int xs0), (0, .ref 53), (1, .int x1), (2, .int x2), (3, .int x3), (5, .int x5)]) (pc := 73) dX8_othersNow_73 (Nat.le_of_ble_eq_true rfl) rfl ?_
        refine s_iinc (v := x5 + 1) (L' := [(5, .int (x5 + 1)), (4, .int (x4 + 1)), (6, .int xs0), (0, .ref 53), (1, .int x1), (2, .int x2), (3, .int x3)]) 6 (pc := 75) dX8_othersNow_75 rfl rfl (Nat.le_of_ble_eq_true rfl) rfl ?_
        refine s_goto (pc := 78) (tgt := 6) dX8_othersNow_78 rfl ?_
        exact s_sub (L' := [(0, .ref 53), (1, .int x1), (2, .int x2), (3, .int x3), (4, .int (x4 + 1)), (5, .int (x5 + 1))]) [3, 4, 5, 6, 1, 0] rfl h
  · replace h := h.2 q1
    refine s_iload 0 (pc := 41) dX8_othersNow_41 rfl ?_
    refine s_iconst (v := 2) (pc := 43) dX8_othersNow_43 rfl ?_
    refine s_icmp_ne (pc := 44) (tgt := 51) dX8_othersNow_44 rfl (fun q4 => ?_) (fun q4 => ?_)
    · replace h := h.1 q4
      refine s_iconst (v := 0) (pc := 51) dX8_othersNow_51 rfl ?_
      refine s_goto (pc := 52) (tgt := 72) dX8_othersNow_52 rfl ?_
      refine s_iadd (pc := 72) dX8_othersNow_72 ?_
      refine s_istore (L' := [(4, .int (x4 + 0)), (6, .int xs0), (0, .ref 53), (1, .int x1), (2, .int x2), (3, .int x3), (5, .int x5)]) (pc := 73) dX8_othersNow_73 (Nat.le_of_ble_eq_true rfl) rfl ?_
      refine s_iinc (v := x5 + 1) (L' := [(5, .int (x5 + 1)), (4, .int (x4 + 0)), (6, .int xs0), (0, .ref 53), (1, .int x1), (2, .int x2), (3, .int x3)]) 6 (pc := 75) dX8_othersNow_75 rfl rfl (Nat.le_of_ble_eq_true rfl) rfl ?_
      refine s_goto (pc := 78) (tgt := 6) dX8_othersNow_78 rfl ?_
      exact s_sub (L' := [(0, .ref 53), (1, .int x1), (2, .int x2), (3, .int x3), (4, .int (x4 + 0)), (5, .int (x5 + 1))]) [3, 4, 5, 6, 1, 0] rfl h
    · replace h := h.2 q4
      refine s_iconst (v := 1) (pc := 47) dX8_othersNow_47 rfl ?_
      refine s_goto (pc := 48) (tgt := 72) dX8_othersNow_48 rfl ?_
      refine s_iadd (pc := 72) dX8_othersNow_72 ?_
      refine s_istore (L' := [(4, .int (x4 + 1)), (6, .int xs0), (0, .ref 53), (1, .int x1), (2, .int x2), (3, .int x3), (5, .int x5)]) (pc := 73) dX8_othersNow_73 (Nat.le_of_ble_eq_true rfl) rfl ?_
      refine s_iinc (v := x5 + 1) (L' := [(5, .int (x5 + 1)), (4, .int (x4 + 1)), (6, .int xs0), (0, .ref 53), (1, .int x1), (2, .int x2), (3, .int x3)]) 6 (pc := 75) dX8_othersNow_75 rfl rfl (Nat.le_of_ble_eq_true rfl) rfl ?_
      refine s_goto (pc := 78) (tgt := 6) dX8_othersNow_78 rfl ?_
      exact s_sub (L' := [(0, .ref 53), (1, .int x1), (2, .int x2), (3, .int x3), (4, .int (x4 + 1)), (5, .int (x5 + 1))]) [3, 4, 5, 6, 1, 0] rfl h
set_option maxRecDepth 10000 in
set_option maxHeartbeats 4000000 in
theorem tX8_openOf_0 {E : Ev} {x1 : Int32} {x2 : Int32} {x3 : Int32} {σ : Hp} {Φ : Option Value → Hp → Prop}  (h : ∃ σ1 : Hp, Call E mX8_asTold [.ref 53] σ none σ1 ∧ vp_in x1 9 ∧ Ru E mX8_openOf 22 [(0, .ref 53), (1, .int x1), (2, .int x2), (3, .int x3), (4, .int (σ1 57 ((x1).toNatClampNeg))), (5, .int (-1)), (6, .int 99), (7, .int 0)] [] σ1 Φ) : Ru E mX8_openOf 0 [(0, .ref 53), (1, .int x1), (2, .int x2), (3, .int x3)] [] σ Φ := by
  refine s_aload_n 0 (pc := 0) dX8_openOf_0 rfl rfl ?_
  obtain ⟨σ1, hk2, h⟩ := h
  refine s_callV (S := []) [] (pc := 1) dX8_openOf_1 mv_X8_asTold ml_X8_213 ⟨Nat.le_of_ble_eq_true rfl, Nat.le_of_ble_eq_true rfl⟩ rfl rfl ly53 rfl rfl (Nat.le_of_ble_eq_true rfl) hk2 ?_
  refine s_aload_n 0 (pc := 4) dX8_openOf_4 rfl rfl ?_
  refine s_getR (q := 57) (pc := 5) dX8_openOf_5 fl_X8_19 ly53 rfl ?_
  refine s_iload_n 1 (pc := 8) dX8_openOf_8 rfl rfl ?_
  have hv3 := h.1
  replace h := h.2
  refine s_iald (pc := 9) dX8_openOf_9 ly57 hv3 ?_
  refine s_istore (L' := [(4, .int (σ1 57 ((x1).toNatClampNeg))), (0, .ref 53), (1, .int x1), (2, .int x2), (3, .int x3)]) (pc := 10) dX8_openOf_10 (Nat.le_of_ble_eq_true rfl) rfl ?_
  refine s_iconst (v := (-1)) (pc := 12) dX8_openOf_12 rfl ?_
  refine s_istore (L' := [(5, .int (-1)), (4, .int (σ1 57 ((x1).toNatClampNeg))), (0, .ref 53), (1, .int x1), (2, .int x2), (3, .int x3)]) (pc := 13) dX8_openOf_13 (Nat.le_of_ble_eq_true rfl) rfl ?_
  refine s_bipush (v := 99) (pc := 15) dX8_openOf_15 rfl ?_
  refine s_istore (L' := [(6, .int 99), (5, .int (-1)), (4, .int (σ1 57 ((x1).toNatClampNeg))), (0, .ref 53), (1, .int x1), (2, .int x2), (3, .int x3)]) (pc := 17) dX8_openOf_17 (Nat.le_of_ble_eq_true rfl) rfl ?_
  refine s_iconst (v := 0) (pc := 19) dX8_openOf_19 rfl ?_
  refine s_istore (L' := [(7, .int 0), (6, .int 99), (5, .int (-1)), (4, .int (σ1 57 ((x1).toNatClampNeg))), (0, .ref 53), (1, .int x1), (2, .int x2), (3, .int x3)]) (pc := 20) dX8_openOf_20 (Nat.le_of_ble_eq_true rfl) rfl ?_
  exact s_sub (L' := [(0, .ref 53), (1, .int x1), (2, .int x2), (3, .int x3), (4, .int (σ1 57 ((x1).toNatClampNeg))), (5, .int (-1)), (6, .int 99), (7, .int 0)]) [4, 5, 6, 7, 3, 2, 1, 0] rfl h
set_option maxRecDepth 10000 in
set_option maxHeartbeats 4000000 in
theorem tX8_openOf_22 {E : Ev} {x1 : Int32} {x2 : Int32} {x3 : Int32} {x4 : Int32} {x5 : Int32} {x6 : Int32} {x7 : Int32} {σ : Hp} {Φ : Option Value → Hp → Prop}  (h : ((10 ≤ x7 → vp_in x1 9 ∧ ((¬ x3 = 0 → Φ (some (.int x6)) (up σ 57 ((x1).toNatClampNeg) x4)) ∧ (x3 = 0 → Φ (some (.int x5)) (up σ 57 ((x1).toNatClampNeg) x4)))) ∧ (¬ 10 ≤ x7 → vp_in x1 9 ∧ ∃ σ5 : Hp, Call E mX8_runs [.ref 53] (up σ 57 ((x1).toNatClampNeg) x7) none σ5 ∧ ∃ (r9 : Int32) (σ7 : Hp), Call E mX8_othersNow [.ref 53, .int x1, .int x2, .int 1] σ5 (some (.int r9)) σ7 ∧ ((x6 ≤ r9 → ((x6 ≤ r9 → Ru E mX8_openOf 22 [(0, .ref 53), (1, .int x1), (2, .int x2), (3, .int x3), (4, .int x4), (5, .int x5), (6, .int x6), (7, .int (x7 + 1))] [] σ7 Φ) ∧ (¬ x6 ≤ r9 → Ru E mX8_openOf 22 [(0, .ref 53), (1, .int x1), (2, .int x2), (3, .int x3), (4, .int x4), (5, .int x5), (6, .int r9), (7, .int (x7 + 1))] [] σ7 Φ))) ∧ (¬ x6 ≤ r9 → ((x6 ≤ r9 → Ru E mX8_openOf 22 [(0, .ref 53), (1, .int x1), (2, .int x2), (3, .int x3), (4, .int x4), (5, .int x7), (6, .int x6), (7, .int (x7 + 1))] [] σ7 Φ) ∧ (¬ x6 ≤ r9 → Ru E mX8_openOf 22 [(0, .ref 53), (1, .int x1), (2, .int x2), (3, .int x3), (4, .int x4), (5, .int x7), (6, .int r9), (7, .int (x7 + 1))] [] σ7 Φ))))))) : Ru E mX8_openOf 22 [(0, .ref 53), (1, .int x1), (2, .int x2), (3, .int x3), (4, .int x4), (5, .int x5), (6, .int x6), (7, .int x7)] [] σ Φ := by
  refine s_iload 7 (pc := 22) dX8_openOf_22 rfl ?_
  refine s_bipush (v := 10) (pc := 24) dX8_openOf_24 rfl ?_
  refine s_icmp_ge (pc := 26) (tgt := 88) dX8_openOf_26 rfl (fun q1 => ?_) (fun q1 => ?_)
  · replace h := h.1 q1
    refine s_aload_n 0 (pc := 88) dX8_openOf_88 rfl rfl ?_
    refine s_getR (q := 57) (pc := 89) dX8_openOf_89 fl_X8_19 ly53 rfl ?_
    refine s_iload_n 1 (pc := 92) dX8_openOf_92 rfl rfl ?_
    refine s_iload 4 (pc := 93) dX8_openOf_93 rfl ?_
    have hv2 := h.1
    replace h := h.2
    refine s_iast (pc := 95) dX8_openOf_95 ly57 hv2 ?_
    refine s_iload_n 3 (pc := 96) dX8_openOf_96 rfl rfl ?_
    refine s_if_ne (pc := 97) (tgt := 105) dX8_openOf_97 rfl (fun q3 => ?_) (fun q3 => ?_)
    · replace h := h.1 q3
      refine s_iload 6 (pc := 105) dX8_openOf_105 rfl ?_
      exact s_ret (r := some (.int x6)) ⟨dX8_openOf_107, fun ty e => by cases e; rfl⟩ rfl h
    · replace h := h.2 q3
      refine s_iload 5 (pc := 100) dX8_openOf_100 rfl ?_
      refine s_goto (pc := 102) (tgt := 107) dX8_openOf_102 rfl ?_
      exact s_ret (r := some (.int x5)) ⟨dX8_openOf_107, fun ty e => by cases e; rfl⟩ rfl h
  · replace h := h.2 q1
    refine s_aload_n 0 (pc := 29) dX8_openOf_29 rfl rfl ?_
    refine s_getR (q := 57) (pc := 30) dX8_openOf_30 fl_X8_19 ly53 rfl ?_
    refine s_iload_n 1 (pc := 33) dX8_openOf_33 rfl rfl ?_
    refine s_iload 7 (pc := 34) dX8_openOf_34 rfl ?_
    have hv4 := h.1
    replace h := h.2
    refine s_iast (pc := 36) dX8_openOf_36 ly57 hv4 ?_
    refine s_aload_n 0 (pc := 37) dX8_openOf_37 rfl rfl ?_
    obtain ⟨σ5, hk6, h⟩ := h
    refine s_callV (S := []) [] (pc := 38) dX8_openOf_38 mv_X8_runs ml_X8_216 ⟨Nat.le_of_ble_eq_true rfl, Nat.le_of_ble_eq_true rfl⟩ rfl rfl ly53 rfl rfl (Nat.le_of_ble_eq_true rfl) hk6 ?_
    refine s_aload_n 0 (pc := 41) dX8_openOf_41 rfl rfl ?_
    refine s_iload_n 1 (pc := 42) dX8_openOf_42 rfl rfl ?_
    refine s_iload_n 2 (pc := 43) dX8_openOf_43 rfl rfl ?_
    refine s_iconst (v := 1) (pc := 44) dX8_openOf_44 rfl ?_
    obtain ⟨r9, σ7, hk8, h⟩ := h
    refine s_callV (S := []) [.int x1, .int x2, .int 1] (pc := 45) dX8_openOf_45 mv_X8_othersNow ml_X8_265 ⟨Nat.le_of_ble_eq_true rfl, Nat.le_of_ble_eq_true rfl⟩ rfl rfl ly53 rfl rfl (Nat.le_of_ble_eq_true rfl) hk8 ?_
    refine s_istore (L' := [(8, .int r9), (0, .ref 53), (1, .int x1), (2, .int x2), (3, .int x3), (4, .int x4), (5, .int x5), (6, .int x6), (7, .int x7)]) (pc := 48) dX8_openOf_48 (Nat.le_of_ble_eq_true rfl) rfl ?_
    refine s_iload 0 (pc := 50) dX8_openOf_50 rfl ?_
    refine s_iload 7 (pc := 52) dX8_openOf_52 rfl ?_
    refine s_icmp_ge (pc := 54) (tgt := 62) dX8_openOf_54 rfl (fun q10 => ?_) (fun q10 => ?_)
    · replace h := h.1 q10
      refine s_iload 6 (pc := 62) dX8_openOf_62 rfl ?_
      refine s_istore (L' := [(5, .int x5), (8, .int r9), (0, .ref 53), (1, .int x1), (2, .int x2), (3, .int x3), (4, .int x4), (6, .int x6), (7, .int x7)]) (pc := 64) dX8_openOf_64 (Nat.le_of_ble_eq_true rfl) rfl ?_
      refine s_iload 1 (pc := 66) dX8_openOf_66 rfl ?_
      refine s_iload 7 (pc := 68) dX8_openOf_68 rfl ?_
      refine s_icmp_ge (pc := 70) (tgt := 78) dX8_openOf_70 rfl (fun q11 => ?_) (fun q11 => ?_)
      · replace h := h.1 q11
        refine s_iload 7 (pc := 78) dX8_openOf_78 rfl ?_
        refine s_istore (L' := [(6, .int x6), (5, .int x5), (8, .int r9), (0, .ref 53), (1, .int x1), (2, .int x2), (3, .int x3), (4, .int x4), (7, .int x7)]) (pc := 80) dX8_openOf_80 (Nat.le_of_ble_eq_true rfl) rfl ?_
        refine s_iinc (v := x7 + 1) (L' := [(7, .int (x7 + 1)), (6, .int x6), (5, .int x5), (8, .int r9), (0, .ref 53), (1, .int x1), (2, .int x2), (3, .int x3), (4, .int x4)]) 8 (pc := 82) dX8_openOf_82 rfl rfl (Nat.le_of_ble_eq_true rfl) rfl ?_
        refine s_goto (pc := 85) (tgt := 22) dX8_openOf_85 rfl ?_
        exact s_sub (L' := [(0, .ref 53), (1, .int x1), (2, .int x2), (3, .int x3), (4, .int x4), (5, .int x5), (6, .int x6), (7, .int (x7 + 1))]) [4, 5, 6, 7, 8, 2, 1, 0] rfl h
      · replace h := h.2 q11
        refine s_iload 1 (pc := 73) dX8_openOf_73 rfl ?_
        refine s_goto (pc := 75) (tgt := 80) dX8_openOf_75 rfl ?_
        refine s_istore (L' := [(6, .int r9), (5, .int x5), (8, .int r9), (0, .ref 53), (1, .int x1), (2, .int x2), (3, .int x3), (4, .int x4), (7, .int x7)]) (pc := 80) dX8_openOf_80 (Nat.le_of_ble_eq_true rfl) rfl ?_
        refine s_iinc (v := x7 + 1) (L' := [(7, .int (x7 + 1)), (6, .int r9), (5, .int x5), (8, .int r9), (0, .ref 53), (1, .int x1), (2, .int x2), (3, .int x3), (4, .int x4)]) 8 (pc := 82) dX8_openOf_82 rfl rfl (Nat.le_of_ble_eq_true rfl) rfl ?_
        refine s_goto (pc := 85) (tgt := 22) dX8_openOf_85 rfl ?_
        exact s_sub (L' := [(0, .ref 53), (1, .int x1), (2, .int x2), (3, .int x3), (4, .int x4), (5, .int x5), (6, .int r9), (7, .int (x7 + 1))]) [4, 5, 6, 7, 8, 2, 1, 0] rfl h
    · replace h := h.2 q10
      refine s_iload 8 (pc := 57) dX8_openOf_57 rfl ?_
      refine s_goto (pc := 59) (tgt := 64) dX8_openOf_59 rfl ?_
      refine s_istore (L' := [(5, .int x7), (8, .int r9), (0, .ref 53), (1, .int x1), (2, .int x2), (3, .int x3), (4, .int x4), (6, .int x6), (7, .int x7)]) (pc := 64) dX8_openOf_64 (Nat.le_of_ble_eq_true rfl) rfl ?_
      refine s_iload 1 (pc := 66) dX8_openOf_66 rfl ?_
      refine s_iload 7 (pc := 68) dX8_openOf_68 rfl ?_
      refine s_icmp_ge (pc := 70) (tgt := 78) dX8_openOf_70 rfl (fun q12 => ?_) (fun q12 => ?_)
      · replace h := h.1 q12
        refine s_iload 7 (pc := 78) dX8_openOf_78 rfl ?_
        refine s_istore (L' := [(6, .int x6), (5, .int x7), (8, .int r9), (0, .ref 53), (1, .int x1), (2, .int x2), (3, .int x3), (4, .int x4), (7, .int x7)]) (pc := 80) dX8_openOf_80 (Nat.le_of_ble_eq_true rfl) rfl ?_
        refine s_iinc (v := x7 + 1) (L' := [(7, .int (x7 + 1)), (6, .int x6), (5, .int x7), (8, .int r9), (0, .ref 53), (1, .int x1), (2, .int x2), (3, .int x3), (4, .int x4)]) 8 (pc := 82) dX8_openOf_82 rfl rfl (Nat.le_of_ble_eq_true rfl) rfl ?_
        refine s_goto (pc := 85) (tgt := 22) dX8_openOf_85 rfl ?_
        exact s_sub (L' := [(0, .ref 53), (1, .int x1), (2, .int x2), (3, .int x3), (4, .int x4), (5, .int x7), (6, .int x6), (7, .int (x7 + 1))]) [4, 5, 6, 7, 8, 2, 1, 0] rfl h
      · replace h := h.2 q12
        refine s_iload 1 (pc := 73) dX8_openOf_73 rfl ?_
        refine s_goto (pc := 75) (tgt := 80) dX8_openOf_75 rfl ?_
        refine s_istore (L' := [(6, .int r9), (5, .int x7), (8, .int r9), (0, .ref 53), (1, .int x1), (2, .int x2), (3, .int x3), (4, .int x4), (7, .int x7)]) (pc := 80) dX8_openOf_80 (Nat.le_of_ble_eq_true rfl) rfl ?_
        refine s_iinc (v := x7 + 1) (L' := [(7, .int (x7 + 1)), (6, .int r9), (5, .int x7), (8, .int r9), (0, .ref 53), (1, .int x1), (2, .int x2), (3, .int x3), (4, .int x4)]) 8 (pc := 82) dX8_openOf_82 rfl rfl (Nat.le_of_ble_eq_true rfl) rfl ?_
        refine s_goto (pc := 85) (tgt := 22) dX8_openOf_85 rfl ?_
        exact s_sub (L' := [(0, .ref 53), (1, .int x1), (2, .int x2), (3, .int x3), (4, .int x4), (5, .int x7), (6, .int r9), (7, .int (x7 + 1))]) [4, 5, 6, 7, 8, 2, 1, 0] rfl h
set_option maxRecDepth 10000 in
set_option maxHeartbeats 4000000 in
theorem tX8_open_0 {E : Ev} {x1 : Int32} {x2 : Int32} {x3 : Int32} {σ : Hp} {Φ : Option Value → Hp → Prop}  (h : ∃ (r3 : Int32) (σ1 : Hp), Call E mX8_isCouple [.ref 53, .int x1] σ (some (.int r3)) σ1 ∧ ((r3 = 0 → Φ (some (.int (-2))) σ1) ∧ (¬ r3 = 0 → ∃ (r7 : Int32) (σ5 : Hp), Call E mX8_isDay [.int x2] σ1 (some (.int r7)) σ5 ∧ ((r7 = 0 → Φ (some (.int (-2))) σ5) ∧ (¬ r7 = 0 → ∃ (r11 : Int32) (σ9 : Hp), Call E mX8_in [.int x3, .int 0, .int 1] σ5 (some (.int r11)) σ9 ∧ ((r11 = 0 → Φ (some (.int (-2))) σ9) ∧ (¬ r11 = 0 → ∃ (r15 : Int32) (σ13 : Hp), Call E mX8_openOf [.ref 53, .int x1, .int x2, .int x3] σ9 (some (.int r15)) σ13 ∧ Φ (some (.int r15)) σ13))))))) : Ru E mX8_open 0 [(0, .ref 53), (1, .int x1), (2, .int x2), (3, .int x3)] [] σ Φ := by
  refine s_aload_n 0 (pc := 0) dX8_open_0 rfl rfl ?_
  refine s_iload_n 1 (pc := 1) dX8_open_1 rfl rfl ?_
  obtain ⟨r3, σ1, hk2, h⟩ := h
  refine s_callV (S := []) [.int x1] (pc := 2) dX8_open_2 mv_X8_isCouple ml_X8_153 ⟨Nat.le_of_ble_eq_true rfl, Nat.le_of_ble_eq_true rfl⟩ rfl rfl ly53 rfl rfl (Nat.le_of_ble_eq_true rfl) hk2 ?_
  refine s_if_eq (pc := 5) (tgt := 34) dX8_open_5 rfl (fun q4 => ?_) (fun q4 => ?_)
  · replace h := h.1 q4
    refine s_bipush (v := (-2)) (pc := 34) dX8_open_34 rfl ?_
    exact s_ret (r := some (.int (-2))) ⟨dX8_open_36, fun ty e => by cases e; rfl⟩ rfl h
  · replace h := h.2 q4
    refine s_iload_n 2 (pc := 8) dX8_open_8 rfl rfl ?_
    obtain ⟨r7, σ5, hk6, h⟩ := h
    refine s_callS (S := []) [.int x2] (pc := 9) dX8_open_9 ms_X8_isDay ml_X8_160 ⟨Nat.le_of_ble_eq_true rfl, Nat.le_of_ble_eq_true rfl⟩ rfl rfl (Nat.le_of_ble_eq_true rfl) hk6 ?_
    refine s_if_eq (pc := 12) (tgt := 34) dX8_open_12 rfl (fun q8 => ?_) (fun q8 => ?_)
    · replace h := h.1 q8
      refine s_bipush (v := (-2)) (pc := 34) dX8_open_34 rfl ?_
      exact s_ret (r := some (.int (-2))) ⟨dX8_open_36, fun ty e => by cases e; rfl⟩ rfl h
    · replace h := h.2 q8
      refine s_iload_n 3 (pc := 15) dX8_open_15 rfl rfl ?_
      refine s_iconst (v := 0) (pc := 16) dX8_open_16 rfl ?_
      refine s_iconst (v := 1) (pc := 17) dX8_open_17 rfl ?_
      obtain ⟨r11, σ9, hk10, h⟩ := h
      refine s_callS (S := []) [.int x3, .int 0, .int 1] (pc := 18) dX8_open_18 ms_X8_in ml_X8_124 ⟨Nat.le_of_ble_eq_true rfl, Nat.le_of_ble_eq_true rfl⟩ rfl rfl (Nat.le_of_ble_eq_true rfl) hk10 ?_
      refine s_if_eq (pc := 21) (tgt := 34) dX8_open_21 rfl (fun q12 => ?_) (fun q12 => ?_)
      · replace h := h.1 q12
        refine s_bipush (v := (-2)) (pc := 34) dX8_open_34 rfl ?_
        exact s_ret (r := some (.int (-2))) ⟨dX8_open_36, fun ty e => by cases e; rfl⟩ rfl h
      · replace h := h.2 q12
        refine s_aload_n 0 (pc := 24) dX8_open_24 rfl rfl ?_
        refine s_iload_n 1 (pc := 25) dX8_open_25 rfl rfl ?_
        refine s_iload_n 2 (pc := 26) dX8_open_26 rfl rfl ?_
        refine s_iload_n 3 (pc := 27) dX8_open_27 rfl rfl ?_
        obtain ⟨r15, σ13, hk14, h⟩ := h
        refine s_callV (S := []) [.int x1, .int x2, .int x3] (pc := 28) dX8_open_28 mv_X8_openOf ml_X8_269 ⟨Nat.le_of_ble_eq_true rfl, Nat.le_of_ble_eq_true rfl⟩ rfl rfl ly53 rfl rfl (Nat.le_of_ble_eq_true rfl) hk14 ?_
        refine s_goto (pc := 31) (tgt := 36) dX8_open_31 rfl ?_
        exact s_ret (r := some (.int r15)) ⟨dX8_open_36, fun ty e => by cases e; rfl⟩ rfl h
set_option maxRecDepth 10000 in
set_option maxHeartbeats 4000000 in
theorem tX8_standOf_0 {E : Ev} {x1 : Int32} {x2 : Int32} {x3 : Int32} {σ : Hp} {Φ : Option Value → Hp → Prop}  (h : ∃ σ1 : Hp, Call E mX8_asTold [.ref 53] σ none σ1 ∧ vp_in x1 9 ∧ Ru E mX8_standOf 29 [(0, .ref 53), (1, .int x1), (2, .int x2), (3, .int x3), (4, .int (σ1 55 ((x1).toNatClampNeg))), (5, .int (σ1 56 ((x1).toNatClampNeg))), (6, .int (-1)), (7, .int (-1)), (8, .int 0)] [] σ1 Φ) : Ru E mX8_standOf 0 [(0, .ref 53), (1, .int x1), (2, .int x2), (3, .int x3)] [] σ Φ := by
  refine s_aload_n 0 (pc := 0) dX8_standOf_0 rfl rfl ?_
  obtain ⟨σ1, hk2, h⟩ := h
  refine s_callV (S := []) [] (pc := 1) dX8_standOf_1 mv_X8_asTold ml_X8_213 ⟨Nat.le_of_ble_eq_true rfl, Nat.le_of_ble_eq_true rfl⟩ rfl rfl ly53 rfl rfl (Nat.le_of_ble_eq_true rfl) hk2 ?_
  refine s_aload_n 0 (pc := 4) dX8_standOf_4 rfl rfl ?_
  refine s_getR (q := 55) (pc := 5) dX8_standOf_5 fl_X8_13 ly53 rfl ?_
  refine s_iload_n 1 (pc := 8) dX8_standOf_8 rfl rfl ?_
  have hv3 := h.1
  replace h := h.2
  refine s_iald (pc := 9) dX8_standOf_9 ly55 hv3 ?_
  refine s_istore (L' := [(4, .int (σ1 55 ((x1).toNatClampNeg))), (0, .ref 53), (1, .int x1), (2, .int x2), (3, .int x3)]) (pc := 10) dX8_standOf_10 (Nat.le_of_ble_eq_true rfl) rfl ?_
  refine s_aload_n 1 (pc := 12) dX8_standOf_12 rfl rfl ?_
  refine s_getR (q := 56) (pc := 13) dX8_standOf_13 fl_X8_16 ly53 rfl ?_
  refine s_iload_n 2 (pc := 16) dX8_standOf_16 rfl rfl ?_
  refine s_iald (pc := 17) dX8_standOf_17 ly56 hv3 ?_
  refine s_istore (L' := [(5, .int (σ1 56 ((x1).toNatClampNeg))), (4, .int (σ1 55 ((x1).toNatClampNeg))), (0, .ref 53), (1, .int x1), (2, .int x2), (3, .int x3)]) (pc := 18) dX8_standOf_18 (Nat.le_of_ble_eq_true rfl) rfl ?_
  refine s_iconst (v := (-1)) (pc := 20) dX8_standOf_20 rfl ?_
  refine s_istore (L' := [(6, .int (-1)), (5, .int (σ1 56 ((x1).toNatClampNeg))), (4, .int (σ1 55 ((x1).toNatClampNeg))), (0, .ref 53), (1, .int x1), (2, .int x2), (3, .int x3)]) (pc := 21) dX8_standOf_21 (Nat.le_of_ble_eq_true rfl) rfl ?_
  refine s_iconst (v := (-1)) (pc := 23) dX8_standOf_23 rfl ?_
  refine s_istore (L' := [(7, .int (-1)), (6, .int (-1)), (5, .int (σ1 56 ((x1).toNatClampNeg))), (4, .int (σ1 55 ((x1).toNatClampNeg))), (0, .ref 53), (1, .int x1), (2, .int x2), (3, .int x3)]) (pc := 24) dX8_standOf_24 (Nat.le_of_ble_eq_true rfl) rfl ?_
  refine s_iconst (v := 0) (pc := 26) dX8_standOf_26 rfl ?_
  refine s_istore (L' := [(8, .int 0), (7, .int (-1)), (6, .int (-1)), (5, .int (σ1 56 ((x1).toNatClampNeg))), (4, .int (σ1 55 ((x1).toNatClampNeg))), (0, .ref 53), (1, .int x1), (2, .int x2), (3, .int x3)]) (pc := 27) dX8_standOf_27 (Nat.le_of_ble_eq_true rfl) rfl ?_
  exact s_sub (L' := [(0, .ref 53), (1, .int x1), (2, .int x2), (3, .int x3), (4, .int (σ1 55 ((x1).toNatClampNeg))), (5, .int (σ1 56 ((x1).toNatClampNeg))), (6, .int (-1)), (7, .int (-1)), (8, .int 0)]) [5, 6, 7, 8, 4, 3, 2, 1, 0] rfl h
set_option maxRecDepth 10000 in
set_option maxHeartbeats 4000000 in
theorem tX8_standOf_29 {E : Ev} {x1 : Int32} {x2 : Int32} {x3 : Int32} {x4 : Int32} {x5 : Int32} {x6 : Int32} {x7 : Int32} {x8 : Int32} {σ : Hp} {Φ : Option Value → Hp → Prop}  (h : ((100 ≤ x8 → vp_in x1 9 ∧ ((¬ x3 = 0 → ((¬ x3 = 1 → Φ (some (.int x7)) (up (up σ 55 ((x1).toNatClampNeg) x4) 56 ((x1).toNatClampNeg) x5)) ∧ (x3 = 1 → Φ (some (.int (x6 - x6 / 10 * 10))) (up (up σ 55 ((x1).toNatClampNeg) x4) 56 ((x1).toNatClampNeg) x5)))) ∧ (x3 = 0 → Φ (some (.int (x6 / 10))) (up (up σ 55 ((x1).toNatClampNeg) x4) 56 ((x1).toNatClampNeg) x5)))) ∧ (¬ 100 ≤ x8 → vp_in x1 9 ∧ ∃ σ8 : Hp, Call E mX8_runs [.ref 53] (up (up σ 55 ((x1).toNatClampNeg) (x8 / 10)) 56 ((x1).toNatClampNeg) (x8 - x8 / 10 * 10)) none σ8 ∧ ∃ (r12 : Int32) (σ10 : Hp), Call E mX8_othersNow [.ref 53, .int x1, .int x2, .int 0] σ8 (some (.int r12)) σ10 ∧ ((r12 ≤ x7 → ((r12 ≤ x7 → Ru E mX8_standOf 29 [(0, .ref 53), (1, .int x1), (2, .int x2), (3, .int x3), (4, .int x4), (5, .int x5), (6, .int x6), (7, .int x7), (8, .int (x8 + 1))] [] σ10 Φ) ∧ (¬ r12 ≤ x7 → Ru E mX8_standOf 29 [(0, .ref 53), (1, .int x1), (2, .int x2), (3, .int x3), (4, .int x4), (5, .int x5), (6, .int x6), (7, .int r12), (8, .int (x8 + 1))] [] σ10 Φ))) ∧ (¬ r12 ≤ x7 → ((r12 ≤ x7 → Ru E mX8_standOf 29 [(0, .ref 53), (1, .int x1), (2, .int x2), (3, .int x3), (4, .int x4), (5, .int x5), (6, .int x8), (7, .int x7), (8, .int (x8 + 1))] [] σ10 Φ) ∧ (¬ r12 ≤ x7 → Ru E mX8_standOf 29 [(0, .ref 53), (1, .int x1), (2, .int x2), (3, .int x3), (4, .int x4), (5, .int x5), (6, .int x8), (7, .int r12), (8, .int (x8 + 1))] [] σ10 Φ))))))) : Ru E mX8_standOf 29 [(0, .ref 53), (1, .int x1), (2, .int x2), (3, .int x3), (4, .int x4), (5, .int x5), (6, .int x6), (7, .int x7), (8, .int x8)] [] σ Φ := by
  refine s_iload 8 (pc := 29) dX8_standOf_29 rfl ?_
  refine s_bipush (v := 100) (pc := 31) dX8_standOf_31 rfl ?_
  refine s_icmp_ge (pc := 33) (tgt := 109) dX8_standOf_33 rfl (fun q1 => ?_) (fun q1 => ?_)
  · replace h := h.1 q1
    refine s_aload_n 0 (pc := 109) dX8_standOf_109 rfl rfl ?_
    refine s_getR (q := 55) (pc := 110) dX8_standOf_110 fl_X8_13 ly53 rfl ?_
    refine s_iload_n 1 (pc := 113) dX8_standOf_113 rfl rfl ?_
    refine s_iload 4 (pc := 114) dX8_standOf_114 rfl ?_
    have hv2 := h.1
    replace h := h.2
    refine s_iast (pc := 116) dX8_standOf_116 ly55 hv2 ?_
    refine s_aload_n 0 (pc := 117) dX8_standOf_117 rfl rfl ?_
    refine s_getR (q := 56) (pc := 118) dX8_standOf_118 fl_X8_16 ly53 rfl ?_
    refine s_iload_n 1 (pc := 121) dX8_standOf_121 rfl rfl ?_
    refine s_iload 5 (pc := 122) dX8_standOf_122 rfl ?_
    refine s_iast (pc := 124) dX8_standOf_124 ly56 hv2 ?_
    refine s_iload_n 3 (pc := 125) dX8_standOf_125 rfl rfl ?_
    refine s_if_ne (pc := 126) (tgt := 137) dX8_standOf_126 rfl (fun q4 => ?_) (fun q4 => ?_)
    · replace h := h.1 q4
      refine s_iload_n 3 (pc := 137) dX8_standOf_137 rfl rfl ?_
      refine s_iconst (v := 1) (pc := 138) dX8_standOf_138 rfl ?_
      refine s_icmp_ne (pc := 139) (tgt := 150) dX8_standOf_139 rfl (fun q5 => ?_) (fun q5 => ?_)
      · replace h := h.1 q5
        refine s_iload 7 (pc := 150) dX8_standOf_150 rfl ?_
        exact s_ret (r := some (.int x7)) ⟨dX8_standOf_152, fun ty e => by cases e; rfl⟩ rfl h
      · replace h := h.2 q5
        refine s_iload 6 (pc := 142) dX8_standOf_142 rfl ?_
        refine s_bipush (v := 10) (pc := 144) dX8_standOf_144 rfl ?_
        refine s_irem (pc := 146) dX8_standOf_146 (by decide) ?_
        refine s_goto (pc := 147) (tgt := 152) dX8_standOf_147 rfl ?_
        exact s_ret (r := some (.int (x6 - x6 / 10 * 10))) ⟨dX8_standOf_152, fun ty e => by cases e; rfl⟩ rfl h
    · replace h := h.2 q4
      refine s_iload 6 (pc := 129) dX8_standOf_129 rfl ?_
      refine s_bipush (v := 10) (pc := 131) dX8_standOf_131 rfl ?_
      refine s_idiv (pc := 133) dX8_standOf_133 (by decide) ?_
      refine s_goto (pc := 134) (tgt := 152) dX8_standOf_134 rfl ?_
      exact s_ret (r := some (.int (x6 / 10))) ⟨dX8_standOf_152, fun ty e => by cases e; rfl⟩ rfl h
  · replace h := h.2 q1
    refine s_aload_n 0 (pc := 36) dX8_standOf_36 rfl rfl ?_
    refine s_getR (q := 55) (pc := 37) dX8_standOf_37 fl_X8_13 ly53 rfl ?_
    refine s_iload_n 1 (pc := 40) dX8_standOf_40 rfl rfl ?_
    refine s_iload 8 (pc := 41) dX8_standOf_41 rfl ?_
    refine s_bipush (v := 10) (pc := 43) dX8_standOf_43 rfl ?_
    refine s_idiv (pc := 45) dX8_standOf_45 (by decide) ?_
    have hv6 := h.1
    replace h := h.2
    refine s_iast (pc := 46) dX8_standOf_46 ly55 hv6 ?_
    refine s_aload_n 0 (pc := 47) dX8_standOf_47 rfl rfl ?_
    refine s_getR (q := 56) (pc := 48) dX8_standOf_48 fl_X8_16 ly53 rfl ?_
    refine s_iload_n 1 (pc := 51) dX8_standOf_51 rfl rfl ?_
    refine s_iload 8 (pc := 52) dX8_standOf_52 rfl ?_
    refine s_bipush (v := 10) (pc := 54) dX8_standOf_54 rfl ?_
    refine s_irem (pc := 56) dX8_standOf_56 (by decide) ?_
    refine s_iast (pc := 57) dX8_standOf_57 ly56 hv6 ?_
    refine s_aload_n 0 (pc := 58) dX8_standOf_58 rfl rfl ?_
    obtain ⟨σ8, hk9, h⟩ := h
    refine s_callV (S := []) [] (pc := 59) dX8_standOf_59 mv_X8_runs ml_X8_216 ⟨Nat.le_of_ble_eq_true rfl, Nat.le_of_ble_eq_true rfl⟩ rfl rfl ly53 rfl rfl (Nat.le_of_ble_eq_true rfl) hk9 ?_
    refine s_aload_n 0 (pc := 62) dX8_standOf_62 rfl rfl ?_
    refine s_iload_n 1 (pc := 63) dX8_standOf_63 rfl rfl ?_
    refine s_iload_n 2 (pc := 64) dX8_standOf_64 rfl rfl ?_
    refine s_iconst (v := 0) (pc := 65) dX8_standOf_65 rfl ?_
    obtain ⟨r12, σ10, hk11, h⟩ := h
    refine s_callV (S := []) [.int x1, .int x2, .int 0] (pc := 66) dX8_standOf_66 mv_X8_othersNow ml_X8_265 ⟨Nat.le_of_ble_eq_true rfl, Nat.le_of_ble_eq_true rfl⟩ rfl rfl ly53 rfl rfl (Nat.le_of_ble_eq_true rfl) hk11 ?_
    refine s_istore (L' := [(9, .int r12), (0, .ref 53), (1, .int x1), (2, .int x2), (3, .int x3), (4, .int x4), (5, .int x5), (6, .int x6), (7, .int x7), (8, .int x8)]) (pc := 69) dX8_standOf_69 (Nat.le_of_ble_eq_true rfl) rfl ?_
    refine s_iload 0 (pc := 71) dX8_standOf_71 rfl ?_
    refine s_iload 8 (pc := 73) dX8_standOf_73 rfl ?_
    refine s_icmp_le (pc := 75) (tgt := 83) dX8_standOf_75 rfl (fun q13 => ?_) (fun q13 => ?_)
    · replace h := h.1 q13
      refine s_iload 7 (pc := 83) dX8_standOf_83 rfl ?_
      refine s_istore (L' := [(6, .int x6), (9, .int r12), (0, .ref 53), (1, .int x1), (2, .int x2), (3, .int x3), (4, .int x4), (5, .int x5), (7, .int x7), (8, .int x8)]) (pc := 85) dX8_standOf_85 (Nat.le_of_ble_eq_true rfl) rfl ?_
      refine s_iload 1 (pc := 87) dX8_standOf_87 rfl ?_
      refine s_iload 8 (pc := 89) dX8_standOf_89 rfl ?_
      refine s_icmp_le (pc := 91) (tgt := 99) dX8_standOf_91 rfl (fun q14 => ?_) (fun q14 => ?_)
      · replace h := h.1 q14
        refine s_iload 8 (pc := 99) dX8_standOf_99 rfl ?_
        refine s_istore (L' := [(7, .int x7), (6, .int x6), (9, .int r12), (0, .ref 53), (1, .int x1), (2, .int x2), (3, .int x3), (4, .int x4), (5, .int x5), (8, .int x8)]) (pc := 101) dX8_standOf_101 (Nat.le_of_ble_eq_true rfl) rfl ?_
        refine s_iinc (v := x8 + 1) (L' := [(8, .int (x8 + 1)), (7, .int x7), (6, .int x6), (9, .int r12), (0, .ref 53), (1, .int x1), (2, .int x2), (3, .int x3), (4, .int x4), (5, .int x5)]) 9 (pc := 103) dX8_standOf_103 rfl rfl (Nat.le_of_ble_eq_true rfl) rfl ?_
        refine s_goto (pc := 106) (tgt := 29) dX8_standOf_106 rfl ?_
        exact s_sub (L' := [(0, .ref 53), (1, .int x1), (2, .int x2), (3, .int x3), (4, .int x4), (5, .int x5), (6, .int x6), (7, .int x7), (8, .int (x8 + 1))]) [4, 5, 6, 7, 8, 9, 2, 1, 0] rfl h
      · replace h := h.2 q14
        refine s_iload 1 (pc := 94) dX8_standOf_94 rfl ?_
        refine s_goto (pc := 96) (tgt := 101) dX8_standOf_96 rfl ?_
        refine s_istore (L' := [(7, .int r12), (6, .int x6), (9, .int r12), (0, .ref 53), (1, .int x1), (2, .int x2), (3, .int x3), (4, .int x4), (5, .int x5), (8, .int x8)]) (pc := 101) dX8_standOf_101 (Nat.le_of_ble_eq_true rfl) rfl ?_
        refine s_iinc (v := x8 + 1) (L' := [(8, .int (x8 + 1)), (7, .int r12), (6, .int x6), (9, .int r12), (0, .ref 53), (1, .int x1), (2, .int x2), (3, .int x3), (4, .int x4), (5, .int x5)]) 9 (pc := 103) dX8_standOf_103 rfl rfl (Nat.le_of_ble_eq_true rfl) rfl ?_
        refine s_goto (pc := 106) (tgt := 29) dX8_standOf_106 rfl ?_
        exact s_sub (L' := [(0, .ref 53), (1, .int x1), (2, .int x2), (3, .int x3), (4, .int x4), (5, .int x5), (6, .int x6), (7, .int r12), (8, .int (x8 + 1))]) [4, 5, 6, 7, 8, 9, 2, 1, 0] rfl h
    · replace h := h.2 q13
      refine s_iload 9 (pc := 78) dX8_standOf_78 rfl ?_
      refine s_goto (pc := 80) (tgt := 85) dX8_standOf_80 rfl ?_
      refine s_istore (L' := [(6, .int x8), (9, .int r12), (0, .ref 53), (1, .int x1), (2, .int x2), (3, .int x3), (4, .int x4), (5, .int x5), (7, .int x7), (8, .int x8)]) (pc := 85) dX8_standOf_85 (Nat.le_of_ble_eq_true rfl) rfl ?_
      refine s_iload 1 (pc := 87) dX8_standOf_87 rfl ?_
      refine s_iload 8 (pc := 89) dX8_standOf_89 rfl ?_
      refine s_icmp_le (pc := 91) (tgt := 99) dX8_standOf_91 rfl (fun q15 => ?_) (fun q15 => ?_)
      · replace h := h.1 q15
        refine s_iload 8 (pc := 99) dX8_standOf_99 rfl ?_
        refine s_istore (L' := [(7, .int x7), (6, .int x8), (9, .int r12), (0, .ref 53), (1, .int x1), (2, .int x2), (3, .int x3), (4, .int x4), (5, .int x5), (8, .int x8)]) (pc := 101) dX8_standOf_101 (Nat.le_of_ble_eq_true rfl) rfl ?_
        refine s_iinc (v := x8 + 1) (L' := [(8, .int (x8 + 1)), (7, .int x7), (6, .int x8), (9, .int r12), (0, .ref 53), (1, .int x1), (2, .int x2), (3, .int x3), (4, .int x4), (5, .int x5)]) 9 (pc := 103) dX8_standOf_103 rfl rfl (Nat.le_of_ble_eq_true rfl) rfl ?_
        refine s_goto (pc := 106) (tgt := 29) dX8_standOf_106 rfl ?_
        exact s_sub (L' := [(0, .ref 53), (1, .int x1), (2, .int x2), (3, .int x3), (4, .int x4), (5, .int x5), (6, .int x8), (7, .int x7), (8, .int (x8 + 1))]) [4, 5, 6, 7, 8, 9, 2, 1, 0] rfl h
      · replace h := h.2 q15
        refine s_iload 1 (pc := 94) dX8_standOf_94 rfl ?_
        refine s_goto (pc := 96) (tgt := 101) dX8_standOf_96 rfl ?_
        refine s_istore (L' := [(7, .int r12), (6, .int x8), (9, .int r12), (0, .ref 53), (1, .int x1), (2, .int x2), (3, .int x3), (4, .int x4), (5, .int x5), (8, .int x8)]) (pc := 101) dX8_standOf_101 (Nat.le_of_ble_eq_true rfl) rfl ?_
        refine s_iinc (v := x8 + 1) (L' := [(8, .int (x8 + 1)), (7, .int r12), (6, .int x8), (9, .int r12), (0, .ref 53), (1, .int x1), (2, .int x2), (3, .int x3), (4, .int x4), (5, .int x5)]) 9 (pc := 103) dX8_standOf_103 rfl rfl (Nat.le_of_ble_eq_true rfl) rfl ?_
        refine s_goto (pc := 106) (tgt := 29) dX8_standOf_106 rfl ?_
        exact s_sub (L' := [(0, .ref 53), (1, .int x1), (2, .int x2), (3, .int x3), (4, .int x4), (5, .int x5), (6, .int x8), (7, .int r12), (8, .int (x8 + 1))]) [4, 5, 6, 7, 8, 9, 2, 1, 0] rfl h
set_option maxRecDepth 10000 in
set_option maxHeartbeats 4000000 in
theorem tX8_stand_0 {E : Ev} {x1 : Int32} {x2 : Int32} {x3 : Int32} {σ : Hp} {Φ : Option Value → Hp → Prop}  (h : ∃ (r3 : Int32) (σ1 : Hp), Call E mX8_isCouple [.ref 53, .int x1] σ (some (.int r3)) σ1 ∧ ((r3 = 0 → Φ (some (.int (-2))) σ1) ∧ (¬ r3 = 0 → ∃ (r7 : Int32) (σ5 : Hp), Call E mX8_isDay [.int x2] σ1 (some (.int r7)) σ5 ∧ ((r7 = 0 → Φ (some (.int (-2))) σ5) ∧ (¬ r7 = 0 → ∃ (r11 : Int32) (σ9 : Hp), Call E mX8_in [.int x3, .int 0, .int 2] σ5 (some (.int r11)) σ9 ∧ ((r11 = 0 → Φ (some (.int (-2))) σ9) ∧ (¬ r11 = 0 → ∃ (r15 : Int32) (σ13 : Hp), Call E mX8_standOf [.ref 53, .int x1, .int x2, .int x3] σ9 (some (.int r15)) σ13 ∧ Φ (some (.int r15)) σ13))))))) : Ru E mX8_stand 0 [(0, .ref 53), (1, .int x1), (2, .int x2), (3, .int x3)] [] σ Φ := by
  refine s_aload_n 0 (pc := 0) dX8_stand_0 rfl rfl ?_
  refine s_iload_n 1 (pc := 1) dX8_stand_1 rfl rfl ?_
  obtain ⟨r3, σ1, hk2, h⟩ := h
  refine s_callV (S := []) [.int x1] (pc := 2) dX8_stand_2 mv_X8_isCouple ml_X8_153 ⟨Nat.le_of_ble_eq_true rfl, Nat.le_of_ble_eq_true rfl⟩ rfl rfl ly53 rfl rfl (Nat.le_of_ble_eq_true rfl) hk2 ?_
  refine s_if_eq (pc := 5) (tgt := 34) dX8_stand_5 rfl (fun q4 => ?_) (fun q4 => ?_)
  · replace h := h.1 q4
    refine s_bipush (v := (-2)) (pc := 34) dX8_stand_34 rfl ?_
    exact s_ret (r := some (.int (-2))) ⟨dX8_stand_36, fun ty e => by cases e; rfl⟩ rfl h
  · replace h := h.2 q4
    refine s_iload_n 2 (pc := 8) dX8_stand_8 rfl rfl ?_
    obtain ⟨r7, σ5, hk6, h⟩ := h
    refine s_callS (S := []) [.int x2] (pc := 9) dX8_stand_9 ms_X8_isDay ml_X8_160 ⟨Nat.le_of_ble_eq_true rfl, Nat.le_of_ble_eq_true rfl⟩ rfl rfl (Nat.le_of_ble_eq_true rfl) hk6 ?_
    refine s_if_eq (pc := 12) (tgt := 34) dX8_stand_12 rfl (fun q8 => ?_) (fun q8 => ?_)
    · replace h := h.1 q8
      refine s_bipush (v := (-2)) (pc := 34) dX8_stand_34 rfl ?_
      exact s_ret (r := some (.int (-2))) ⟨dX8_stand_36, fun ty e => by cases e; rfl⟩ rfl h
    · replace h := h.2 q8
      refine s_iload_n 3 (pc := 15) dX8_stand_15 rfl rfl ?_
      refine s_iconst (v := 0) (pc := 16) dX8_stand_16 rfl ?_
      refine s_iconst (v := 2) (pc := 17) dX8_stand_17 rfl ?_
      obtain ⟨r11, σ9, hk10, h⟩ := h
      refine s_callS (S := []) [.int x3, .int 0, .int 2] (pc := 18) dX8_stand_18 ms_X8_in ml_X8_124 ⟨Nat.le_of_ble_eq_true rfl, Nat.le_of_ble_eq_true rfl⟩ rfl rfl (Nat.le_of_ble_eq_true rfl) hk10 ?_
      refine s_if_eq (pc := 21) (tgt := 34) dX8_stand_21 rfl (fun q12 => ?_) (fun q12 => ?_)
      · replace h := h.1 q12
        refine s_bipush (v := (-2)) (pc := 34) dX8_stand_34 rfl ?_
        exact s_ret (r := some (.int (-2))) ⟨dX8_stand_36, fun ty e => by cases e; rfl⟩ rfl h
      · replace h := h.2 q12
        refine s_aload_n 0 (pc := 24) dX8_stand_24 rfl rfl ?_
        refine s_iload_n 1 (pc := 25) dX8_stand_25 rfl rfl ?_
        refine s_iload_n 2 (pc := 26) dX8_stand_26 rfl rfl ?_
        refine s_iload_n 3 (pc := 27) dX8_stand_27 rfl rfl ?_
        obtain ⟨r15, σ13, hk14, h⟩ := h
        refine s_callV (S := []) [.int x1, .int x2, .int x3] (pc := 28) dX8_stand_28 mv_X8_standOf ml_X8_272 ⟨Nat.le_of_ble_eq_true rfl, Nat.le_of_ble_eq_true rfl⟩ rfl rfl ly53 rfl rfl (Nat.le_of_ble_eq_true rfl) hk14 ?_
        refine s_goto (pc := 31) (tgt := 36) dX8_stand_31 rfl ?_
        exact s_ret (r := some (.int r15)) ⟨dX8_stand_36, fun ty e => by cases e; rfl⟩ rfl h
set_option maxRecDepth 10000 in
set_option maxHeartbeats 4000000 in
theorem tX8_swaps_0 {E : Ev} {x1 : Int32} {x2 : Int32} {σ : Hp} {Φ : Option Value → Hp → Prop}  (h : vp_in x1 9 ∧ vp_in x2 9 ∧ Φ none (up (up σ 57 ((x1).toNatClampNeg) (σ 57 ((x2).toNatClampNeg))) 57 ((x2).toNatClampNeg) (σ 57 ((x1).toNatClampNeg)))) : Ru E mX8_swaps 0 [(0, .ref 53), (1, .int x1), (2, .int x2)] [] σ Φ := by
  refine s_aload_n 0 (pc := 0) dX8_swaps_0 rfl rfl ?_
  refine s_getR (q := 57) (pc := 1) dX8_swaps_1 fl_X8_19 ly53 rfl ?_
  refine s_iload_n 1 (pc := 4) dX8_swaps_4 rfl rfl ?_
  have hv1 := h.1
  replace h := h.2
  refine s_iald (pc := 5) dX8_swaps_5 ly57 hv1 ?_
  refine s_istore_n (L' := [(3, .int (σ 57 ((x1).toNatClampNeg))), (0, .ref 53), (1, .int x1), (2, .int x2)]) (pc := 6) dX8_swaps_6 rfl (Nat.le_of_ble_eq_true rfl) rfl ?_
  refine s_aload_n 1 (pc := 7) dX8_swaps_7 rfl rfl ?_
  refine s_getR (q := 57) (pc := 8) dX8_swaps_8 fl_X8_19 ly53 rfl ?_
  refine s_iload_n 2 (pc := 11) dX8_swaps_11 rfl rfl ?_
  refine s_aload_n 1 (pc := 12) dX8_swaps_12 rfl rfl ?_
  refine s_getR (q := 57) (pc := 13) dX8_swaps_13 fl_X8_19 ly53 rfl ?_
  refine s_iload_n 3 (pc := 16) dX8_swaps_16 rfl rfl ?_
  have hv2 := h.1
  replace h := h.2
  refine s_iald (pc := 17) dX8_swaps_17 ly57 hv2 ?_
  refine s_iast (pc := 18) dX8_swaps_18 ly57 hv1 ?_
  refine s_aload_n 1 (pc := 19) dX8_swaps_19 rfl rfl ?_
  refine s_getR (q := 57) (pc := 20) dX8_swaps_20 fl_X8_19 ly53 rfl ?_
  refine s_iload_n 3 (pc := 23) dX8_swaps_23 rfl rfl ?_
  refine s_iload_n 0 (pc := 24) dX8_swaps_24 rfl rfl ?_
  refine s_iast (pc := 25) dX8_swaps_25 ly57 hv2 ?_
  exact s_ret (r := none) dX8_swaps_26 rfl h
set_option maxRecDepth 10000 in
set_option maxHeartbeats 4000000 in
theorem tX8_swapOf_0 {E : Ev} {x1 : Int32} {σ : Hp} {Φ : Option Value → Hp → Prop}  (h : ∃ σ1 : Hp, Call E mX8_asTold [.ref 53] σ none σ1 ∧ Ru E mX8_swapOf 12 [(0, .ref 53), (1, .int x1), (2, .int (-1)), (3, .int 99), (4, .int 0)] [] σ1 Φ) : Ru E mX8_swapOf 0 [(0, .ref 53), (1, .int x1)] [] σ Φ := by
  refine s_aload_n 0 (pc := 0) dX8_swapOf_0 rfl rfl ?_
  obtain ⟨σ1, hk2, h⟩ := h
  refine s_callV (S := []) [] (pc := 1) dX8_swapOf_1 mv_X8_asTold ml_X8_213 ⟨Nat.le_of_ble_eq_true rfl, Nat.le_of_ble_eq_true rfl⟩ rfl rfl ly53 rfl rfl (Nat.le_of_ble_eq_true rfl) hk2 ?_
  refine s_iconst (v := (-1)) (pc := 4) dX8_swapOf_4 rfl ?_
  refine s_istore_n (L' := [(2, .int (-1)), (0, .ref 53), (1, .int x1)]) (pc := 5) dX8_swapOf_5 rfl (Nat.le_of_ble_eq_true rfl) rfl ?_
  refine s_bipush (v := 99) (pc := 6) dX8_swapOf_6 rfl ?_
  refine s_istore_n (L' := [(3, .int 99), (2, .int (-1)), (0, .ref 53), (1, .int x1)]) (pc := 8) dX8_swapOf_8 rfl (Nat.le_of_ble_eq_true rfl) rfl ?_
  refine s_iconst (v := 0) (pc := 9) dX8_swapOf_9 rfl ?_
  refine s_istore (L' := [(4, .int 0), (3, .int 99), (2, .int (-1)), (0, .ref 53), (1, .int x1)]) (pc := 10) dX8_swapOf_10 (Nat.le_of_ble_eq_true rfl) rfl ?_
  exact s_sub (L' := [(0, .ref 53), (1, .int x1), (2, .int (-1)), (3, .int 99), (4, .int 0)]) [3, 4, 2, 1, 0] rfl h
set_option maxRecDepth 10000 in
set_option maxHeartbeats 4000000 in
theorem tX8_swapOf_12 {E : Ev} {x1 : Int32} {x2 : Int32} {x3 : Int32} {x4 : Int32} {σ : Hp} {Φ : Option Value → Hp → Prop}  (h : (((σ 53 2) ≤ x4 → ((¬ x2 = (-1) → ((¬ x1 = 0 → ((¬ x1 = 1 → Φ (some (.int x3)) σ) ∧ (x1 = 1 → Φ (some (.int (x2 - x2 / 8 * 8))) σ))) ∧ (x1 = 0 → Φ (some (.int (x2 / 8))) σ))) ∧ (x2 = (-1) → Φ (some (.int (-1))) σ))) ∧ (¬ (σ 53 2) ≤ x4 → Ru E mX8_swapOf 27 [(0, .ref 53), (1, .int x1), (2, .int x2), (3, .int x3), (4, .int x4), (5, .int (x4 + 1))] [] σ Φ))) : Ru E mX8_swapOf 12 [(0, .ref 53), (1, .int x1), (2, .int x2), (3, .int x3), (4, .int x4)] [] σ Φ := by
  refine s_iload 4 (pc := 12) dX8_swapOf_12 rfl ?_
  refine s_aload_n 0 (pc := 14) dX8_swapOf_14 rfl rfl ?_
  refine s_getI (v := σ 53 2) (pc := 15) dX8_swapOf_15 fl_X8_139 ly53 rfl rfl ?_
  refine s_icmp_ge (pc := 18) (tgt := 109) dX8_swapOf_18 rfl (fun q1 => ?_) (fun q1 => ?_)
  · replace h := h.1 q1
    refine s_iload_n 2 (pc := 109) dX8_swapOf_109 rfl rfl ?_
    refine s_iconst (v := (-1)) (pc := 110) dX8_swapOf_110 rfl ?_
    refine s_icmp_ne (pc := 111) (tgt := 118) dX8_swapOf_111 rfl (fun q2 => ?_) (fun q2 => ?_)
    · replace h := h.1 q2
      refine s_iload_n 1 (pc := 118) dX8_swapOf_118 rfl rfl ?_
      refine s_if_ne (pc := 119) (tgt := 129) dX8_swapOf_119 rfl (fun q3 => ?_) (fun q3 => ?_)
      · replace h := h.1 q3
        refine s_iload_n 1 (pc := 129) dX8_swapOf_129 rfl rfl ?_
        refine s_iconst (v := 1) (pc := 130) dX8_swapOf_130 rfl ?_
        refine s_icmp_ne (pc := 131) (tgt := 141) dX8_swapOf_131 rfl (fun q4 => ?_) (fun q4 => ?_)
        · replace h := h.1 q4
          refine s_iload_n 3 (pc := 141) dX8_swapOf_141 rfl rfl ?_
          exact s_ret (r := some (.int x3)) ⟨dX8_swapOf_142, fun ty e => by cases e; rfl⟩ rfl h
        · replace h := h.2 q4
          refine s_iload_n 2 (pc := 134) dX8_swapOf_134 rfl rfl ?_
          refine s_bipush (v := 8) (pc := 135) dX8_swapOf_135 rfl ?_
          refine s_irem (pc := 137) dX8_swapOf_137 (by decide) ?_
          refine s_goto (pc := 138) (tgt := 142) dX8_swapOf_138 rfl ?_
          exact s_ret (r := some (.int (x2 - x2 / 8 * 8))) ⟨dX8_swapOf_142, fun ty e => by cases e; rfl⟩ rfl h
      · replace h := h.2 q3
        refine s_iload_n 2 (pc := 122) dX8_swapOf_122 rfl rfl ?_
        refine s_bipush (v := 8) (pc := 123) dX8_swapOf_123 rfl ?_
        refine s_idiv (pc := 125) dX8_swapOf_125 (by decide) ?_
        refine s_goto (pc := 126) (tgt := 142) dX8_swapOf_126 rfl ?_
        exact s_ret (r := some (.int (x2 / 8))) ⟨dX8_swapOf_142, fun ty e => by cases e; rfl⟩ rfl h
    · replace h := h.2 q2
      refine s_iconst (v := (-1)) (pc := 114) dX8_swapOf_114 rfl ?_
      refine s_goto (pc := 115) (tgt := 142) dX8_swapOf_115 rfl ?_
      exact s_ret (r := some (.int (-1))) ⟨dX8_swapOf_142, fun ty e => by cases e; rfl⟩ rfl h
  · replace h := h.2 q1
    refine s_iload 4 (pc := 21) dX8_swapOf_21 rfl ?_
    refine s_iconst (v := 1) (pc := 23) dX8_swapOf_23 rfl ?_
    refine s_iadd (pc := 24) dX8_swapOf_24 ?_
    refine s_istore (L' := [(5, .int (x4 + 1)), (0, .ref 53), (1, .int x1), (2, .int x2), (3, .int x3), (4, .int x4)]) (pc := 25) dX8_swapOf_25 (Nat.le_of_ble_eq_true rfl) rfl ?_
    exact s_sub (L' := [(0, .ref 53), (1, .int x1), (2, .int x2), (3, .int x3), (4, .int x4), (5, .int (x4 + 1))]) [1, 2, 3, 4, 5, 0] rfl h
set_option maxRecDepth 10000 in
set_option maxHeartbeats 4000000 in
theorem tX8_swapOf_27 {E : Ev} {x1 : Int32} {x2 : Int32} {x3 : Int32} {x4 : Int32} {x5 : Int32} {σ : Hp} {Φ : Option Value → Hp → Prop}  (h : (((σ 53 2) ≤ x5 → Ru E mX8_swapOf 12 [(0, .ref 53), (1, .int x1), (2, .int x2), (3, .int x3), (4, .int (x4 + 1))] [] σ Φ) ∧ (¬ (σ 53 2) ≤ x5 → ∃ σ2 : Hp, Call E mX8_swaps [.ref 53, .int x4, .int x5] σ none σ2 ∧ ∃ σ4 : Hp, Call E mX8_runs [.ref 53] σ2 none σ4 ∧ ∃ σ6 : Hp, Call E mX8_swaps [.ref 53, .int x4, .int x5] σ4 none σ6 ∧ ∃ (r10 : Int32) (σ8 : Hp), Call E mX8_pairsNow [.ref 53, .int 19, .int 0] σ6 (some (.int r10)) σ8 ∧ ((x3 ≤ r10 → ((x3 ≤ r10 → Ru E mX8_swapOf 27 [(0, .ref 53), (1, .int x1), (2, .int x2), (3, .int x3), (4, .int x4), (5, .int (x5 + 1))] [] σ8 Φ) ∧ (¬ x3 ≤ r10 → Ru E mX8_swapOf 27 [(0, .ref 53), (1, .int x1), (2, .int x2), (3, .int r10), (4, .int x4), (5, .int (x5 + 1))] [] σ8 Φ))) ∧ (¬ x3 ≤ r10 → ((x3 ≤ r10 → Ru E mX8_swapOf 27 [(0, .ref 53), (1, .int x1), (2, .int ((8 * x4) + x5)), (3, .int x3), (4, .int x4), (5, .int (x5 + 1))] [] σ8 Φ) ∧ (¬ x3 ≤ r10 → Ru E mX8_swapOf 27 [(0, .ref 53), (1, .int x1), (2, .int ((8 * x4) + x5)), (3, .int r10), (4, .int x4), (5, .int (x5 + 1))] [] σ8 Φ))))))) : Ru E mX8_swapOf 27 [(0, .ref 53), (1, .int x1), (2, .int x2), (3, .int x3), (4, .int x4), (5, .int x5)] [] σ Φ := by
  refine s_iload 5 (pc := 27) dX8_swapOf_27 rfl ?_
  refine s_aload_n 0 (pc := 29) dX8_swapOf_29 rfl rfl ?_
  refine s_getI (v := σ 53 2) (pc := 30) dX8_swapOf_30 fl_X8_139 ly53 rfl rfl ?_
  refine s_icmp_ge (pc := 33) (tgt := 103) dX8_swapOf_33 rfl (fun q1 => ?_) (fun q1 => ?_)
  · replace h := h.1 q1
    refine s_iinc (v := x4 + 1) (L' := [(4, .int (x4 + 1)), (0, .ref 53), (1, .int x1), (2, .int x2), (3, .int x3), (5, .int x5)]) 4 (pc := 103) dX8_swapOf_103 rfl rfl (Nat.le_of_ble_eq_true rfl) rfl ?_
    refine s_goto (pc := 106) (tgt := 12) dX8_swapOf_106 rfl ?_
    exact s_sub (L' := [(0, .ref 53), (1, .int x1), (2, .int x2), (3, .int x3), (4, .int (x4 + 1))]) [1, 2, 3, 4, 0] rfl h
  · replace h := h.2 q1
    refine s_aload_n 0 (pc := 36) dX8_swapOf_36 rfl rfl ?_
    refine s_iload 4 (pc := 37) dX8_swapOf_37 rfl ?_
    refine s_iload 5 (pc := 39) dX8_swapOf_39 rfl ?_
    obtain ⟨σ2, hk3, h⟩ := h
    refine s_callV (S := []) [.int x4, .int x5] (pc := 41) dX8_swapOf_41 mv_X8_swaps ml_X8_275 ⟨Nat.le_of_ble_eq_true rfl, Nat.le_of_ble_eq_true rfl⟩ rfl rfl ly53 rfl rfl (Nat.le_of_ble_eq_true rfl) hk3 ?_
    refine s_aload_n 0 (pc := 44) dX8_swapOf_44 rfl rfl ?_
    obtain ⟨σ4, hk5, h⟩ := h
    refine s_callV (S := []) [] (pc := 45) dX8_swapOf_45 mv_X8_runs ml_X8_216 ⟨Nat.le_of_ble_eq_true rfl, Nat.le_of_ble_eq_true rfl⟩ rfl rfl ly53 rfl rfl (Nat.le_of_ble_eq_true rfl) hk5 ?_
    refine s_aload_n 0 (pc := 48) dX8_swapOf_48 rfl rfl ?_
    refine s_iload 4 (pc := 49) dX8_swapOf_49 rfl ?_
    refine s_iload 5 (pc := 51) dX8_swapOf_51 rfl ?_
    obtain ⟨σ6, hk7, h⟩ := h
    refine s_callV (S := []) [.int x4, .int x5] (pc := 53) dX8_swapOf_53 mv_X8_swaps ml_X8_275 ⟨Nat.le_of_ble_eq_true rfl, Nat.le_of_ble_eq_true rfl⟩ rfl rfl ly53 rfl rfl (Nat.le_of_ble_eq_true rfl) hk7 ?_
    refine s_aload_n 0 (pc := 56) dX8_swapOf_56 rfl rfl ?_
    refine s_bipush (v := 19) (pc := 57) dX8_swapOf_57 rfl ?_
    refine s_iconst (v := 0) (pc := 59) dX8_swapOf_59 rfl ?_
    obtain ⟨r10, σ8, hk9, h⟩ := h
    refine s_callV (S := []) [.int 19, .int 0] (pc := 60) dX8_swapOf_60 mv_X8_pairsNow ml_X8_241 ⟨Nat.le_of_ble_eq_true rfl, Nat.le_of_ble_eq_true rfl⟩ rfl rfl ly53 rfl rfl (Nat.le_of_ble_eq_true rfl) hk9 ?_
    refine s_istore (L' := [(6, .int r10), (0, .ref 53), (1, .int x1), (2, .int x2), (3, .int x3), (4, .int x4), (5, .int x5)]) (pc := 63) dX8_swapOf_63 (Nat.le_of_ble_eq_true rfl) rfl ?_
    refine s_iload 0 (pc := 65) dX8_swapOf_65 rfl ?_
    refine s_iload_n 4 (pc := 67) dX8_swapOf_67 rfl rfl ?_
    refine s_icmp_ge (pc := 68) (tgt := 82) dX8_swapOf_68 rfl (fun q11 => ?_) (fun q11 => ?_)
    · replace h := h.1 q11
      refine s_iload_n 3 (pc := 82) dX8_swapOf_82 rfl rfl ?_
      refine s_istore_n (L' := [(2, .int x2), (6, .int r10), (0, .ref 53), (1, .int x1), (3, .int x3), (4, .int x4), (5, .int x5)]) (pc := 83) dX8_swapOf_83 rfl (Nat.le_of_ble_eq_true rfl) rfl ?_
      refine s_iload 1 (pc := 84) dX8_swapOf_84 rfl ?_
      refine s_iload_n 4 (pc := 86) dX8_swapOf_86 rfl rfl ?_
      refine s_icmp_ge (pc := 87) (tgt := 95) dX8_swapOf_87 rfl (fun q12 => ?_) (fun q12 => ?_)
      · replace h := h.1 q12
        refine s_iload_n 4 (pc := 95) dX8_swapOf_95 rfl rfl ?_
        refine s_istore_n (L' := [(3, .int x3), (2, .int x2), (6, .int r10), (0, .ref 53), (1, .int x1), (4, .int x4), (5, .int x5)]) (pc := 96) dX8_swapOf_96 rfl (Nat.le_of_ble_eq_true rfl) rfl ?_
        refine s_iinc (v := x5 + 1) (L' := [(5, .int (x5 + 1)), (3, .int x3), (2, .int x2), (6, .int r10), (0, .ref 53), (1, .int x1), (4, .int x4)]) 6 (pc := 97) dX8_swapOf_97 rfl rfl (Nat.le_of_ble_eq_true rfl) rfl ?_
        refine s_goto (pc := 100) (tgt := 27) dX8_swapOf_100 rfl ?_
        exact s_sub (L' := [(0, .ref 53), (1, .int x1), (2, .int x2), (3, .int x3), (4, .int x4), (5, .int (x5 + 1))]) [4, 5, 2, 1, 6, 0] rfl h
      · replace h := h.2 q12
        refine s_iload 1 (pc := 90) dX8_swapOf_90 rfl ?_
        refine s_goto (pc := 92) (tgt := 96) dX8_swapOf_92 rfl ?_
        refine s_istore_n (L' := [(3, .int r10), (2, .int x2), (6, .int r10), (0, .ref 53), (1, .int x1), (4, .int x4), (5, .int x5)]) (pc := 96) dX8_swapOf_96 rfl (Nat.le_of_ble_eq_true rfl) rfl ?_
        refine s_iinc (v := x5 + 1) (L' := [(5, .int (x5 + 1)), (3, .int r10), (2, .int x2), (6, .int r10), (0, .ref 53), (1, .int x1), (4, .int x4)]) 6 (pc := 97) dX8_swapOf_97 rfl rfl (Nat.le_of_ble_eq_true rfl) rfl ?_
        refine s_goto (pc := 100) (tgt := 27) dX8_swapOf_100 rfl ?_
        exact s_sub (L' := [(0, .ref 53), (1, .int x1), (2, .int x2), (3, .int r10), (4, .int x4), (5, .int (x5 + 1))]) [4, 5, 2, 1, 6, 0] rfl h
    · replace h := h.2 q11
      refine s_bipush (v := 8) (pc := 71) dX8_swapOf_71 rfl ?_
      refine s_iload 5 (pc := 73) dX8_swapOf_73 rfl ?_
      refine s_imul (pc := 75) dX8_swapOf_75 ?_
      refine s_iload 6 (pc := 76) dX8_swapOf_76 rfl ?_
      refine s_iadd (pc := 78) dX8_swapOf_78 ?_
      refine s_goto (pc := 79) (tgt := 83) dX8_swapOf_79 rfl ?_
      refine s_istore_n (L' := [(2, .int ((8 * x4) + x5)), (6, .int r10), (0, .ref 53), (1, .int x1), (3, .int x3), (4, .int x4), (5, .int x5)]) (pc := 83) dX8_swapOf_83 rfl (Nat.le_of_ble_eq_true rfl) rfl ?_
      refine s_iload 1 (pc := 84) dX8_swapOf_84 rfl ?_
      refine s_iload_n 4 (pc := 86) dX8_swapOf_86 rfl rfl ?_
      refine s_icmp_ge (pc := 87) (tgt := 95) dX8_swapOf_87 rfl (fun q13 => ?_) (fun q13 => ?_)
      · replace h := h.1 q13
        refine s_iload_n 4 (pc := 95) dX8_swapOf_95 rfl rfl ?_
        refine s_istore_n (L' := [(3, .int x3), (2, .int ((8 * x4) + x5)), (6, .int r10), (0, .ref 53), (1, .int x1), (4, .int x4), (5, .int x5)]) (pc := 96) dX8_swapOf_96 rfl (Nat.le_of_ble_eq_true rfl) rfl ?_
        refine s_iinc (v := x5 + 1) (L' := [(5, .int (x5 + 1)), (3, .int x3), (2, .int ((8 * x4) + x5)), (6, .int r10), (0, .ref 53), (1, .int x1), (4, .int x4)]) 6 (pc := 97) dX8_swapOf_97 rfl rfl (Nat.le_of_ble_eq_true rfl) rfl ?_
        refine s_goto (pc := 100) (tgt := 27) dX8_swapOf_100 rfl ?_
        exact s_sub (L' := [(0, .ref 53), (1, .int x1), (2, .int ((8 * x4) + x5)), (3, .int x3), (4, .int x4), (5, .int (x5 + 1))]) [4, 5, 2, 1, 6, 0] rfl h
      · replace h := h.2 q13
        refine s_iload 1 (pc := 90) dX8_swapOf_90 rfl ?_
        refine s_goto (pc := 92) (tgt := 96) dX8_swapOf_92 rfl ?_
        refine s_istore_n (L' := [(3, .int r10), (2, .int ((8 * x4) + x5)), (6, .int r10), (0, .ref 53), (1, .int x1), (4, .int x4), (5, .int x5)]) (pc := 96) dX8_swapOf_96 rfl (Nat.le_of_ble_eq_true rfl) rfl ?_
        refine s_iinc (v := x5 + 1) (L' := [(5, .int (x5 + 1)), (3, .int r10), (2, .int ((8 * x4) + x5)), (6, .int r10), (0, .ref 53), (1, .int x1), (4, .int x4)]) 6 (pc := 97) dX8_swapOf_97 rfl rfl (Nat.le_of_ble_eq_true rfl) rfl ?_
        refine s_goto (pc := 100) (tgt := 27) dX8_swapOf_100 rfl ?_
        exact s_sub (L' := [(0, .ref 53), (1, .int x1), (2, .int ((8 * x4) + x5)), (3, .int r10), (4, .int x4), (5, .int (x5 + 1))]) [4, 5, 2, 1, 6, 0] rfl h
set_option maxRecDepth 10000 in
set_option maxHeartbeats 4000000 in
theorem tX8_swap_0 {E : Ev} {x1 : Int32} {σ : Hp} {Φ : Option Value → Hp → Prop}  (h : ∃ (r3 : Int32) (σ1 : Hp), Call E mX8_in [.int x1, .int 0, .int 2] σ (some (.int r3)) σ1 ∧ ((r3 = 0 → Φ (some (.int (-2))) σ1) ∧ (¬ r3 = 0 → ∃ (r7 : Int32) (σ5 : Hp), Call E mX8_swapOf [.ref 53, .int x1] σ1 (some (.int r7)) σ5 ∧ Φ (some (.int r7)) σ5))) : Ru E mX8_swap 0 [(0, .ref 53), (1, .int x1)] [] σ Φ := by
  refine s_iload_n 1 (pc := 0) dX8_swap_0 rfl rfl ?_
  refine s_iconst (v := 0) (pc := 1) dX8_swap_1 rfl ?_
  refine s_iconst (v := 2) (pc := 2) dX8_swap_2 rfl ?_
  obtain ⟨r3, σ1, hk2, h⟩ := h
  refine s_callS (S := []) [.int x1, .int 0, .int 2] (pc := 3) dX8_swap_3 ms_X8_in ml_X8_124 ⟨Nat.le_of_ble_eq_true rfl, Nat.le_of_ble_eq_true rfl⟩ rfl rfl (Nat.le_of_ble_eq_true rfl) hk2 ?_
  refine s_if_eq (pc := 6) (tgt := 17) dX8_swap_6 rfl (fun q4 => ?_) (fun q4 => ?_)
  · replace h := h.1 q4
    refine s_bipush (v := (-2)) (pc := 17) dX8_swap_17 rfl ?_
    exact s_ret (r := some (.int (-2))) ⟨dX8_swap_19, fun ty e => by cases e; rfl⟩ rfl h
  · replace h := h.2 q4
    refine s_aload_n 0 (pc := 9) dX8_swap_9 rfl rfl ?_
    refine s_iload_n 1 (pc := 10) dX8_swap_10 rfl rfl ?_
    obtain ⟨r7, σ5, hk6, h⟩ := h
    refine s_callV (S := []) [.int x1] (pc := 11) dX8_swap_11 mv_X8_swapOf ml_X8_278 ⟨Nat.le_of_ble_eq_true rfl, Nat.le_of_ble_eq_true rfl⟩ rfl rfl ly53 rfl rfl (Nat.le_of_ble_eq_true rfl) hk6 ?_
    refine s_goto (pc := 14) (tgt := 19) dX8_swap_14 rfl ?_
    exact s_ret (r := some (.int r7)) ⟨dX8_swap_19, fun ty e => by cases e; rfl⟩ rfl h
set_option maxRecDepth 10000 in
set_option maxHeartbeats 4000000 in
theorem tX8_isQuiet_0 {E : Ev} {x1 : Int32} {σ : Hp} {Φ : Option Value → Hp → Prop}  (h : ∃ σ1 : Hp, Call E mX8_runs [.ref 53] (up σ 53 17 x1) none σ1 ∧ ∃ (r5 : Int32) (σ3 : Hp), Call E mX8_pairsNow [.ref 53, .int 19, .int 0] σ1 (some (.int r5)) σ3 ∧ ((¬ r5 = 0 → Φ (some (.int 0)) σ3) ∧ (r5 = 0 → Φ (some (.int 1)) σ3))) : Ru E mX8_isQuiet 0 [(0, .ref 53), (1, .int x1)] [] σ Φ := by
  refine s_aload_n 0 (pc := 0) dX8_isQuiet_0 rfl rfl ?_
  refine s_iload_n 1 (pc := 1) dX8_isQuiet_1 rfl rfl ?_
  refine s_put (ty := .int) (pc := 2) dX8_isQuiet_2 fp_X8_182 ly53 rfl rfl rfl ?_
  refine s_aload_n 0 (pc := 5) dX8_isQuiet_5 rfl rfl ?_
  obtain ⟨σ1, hk2, h⟩ := h
  refine s_callV (S := []) [] (pc := 6) dX8_isQuiet_6 mv_X8_runs ml_X8_216 ⟨Nat.le_of_ble_eq_true rfl, Nat.le_of_ble_eq_true rfl⟩ rfl rfl ly53 rfl rfl (Nat.le_of_ble_eq_true rfl) hk2 ?_
  refine s_aload_n 0 (pc := 9) dX8_isQuiet_9 rfl rfl ?_
  refine s_bipush (v := 19) (pc := 10) dX8_isQuiet_10 rfl ?_
  refine s_iconst (v := 0) (pc := 12) dX8_isQuiet_12 rfl ?_
  obtain ⟨r5, σ3, hk4, h⟩ := h
  refine s_callV (S := []) [.int 19, .int 0] (pc := 13) dX8_isQuiet_13 mv_X8_pairsNow ml_X8_241 ⟨Nat.le_of_ble_eq_true rfl, Nat.le_of_ble_eq_true rfl⟩ rfl rfl ly53 rfl rfl (Nat.le_of_ble_eq_true rfl) hk4 ?_
  refine s_if_ne (pc := 16) (tgt := 23) dX8_isQuiet_16 rfl (fun q6 => ?_) (fun q6 => ?_)
  · replace h := h.1 q6
    refine s_iconst (v := 0) (pc := 23) dX8_isQuiet_23 rfl ?_
    exact s_ret (r := some (.int 0)) ⟨dX8_isQuiet_24, fun ty e => by cases e; rfl⟩ rfl h
  · replace h := h.2 q6
    refine s_iconst (v := 1) (pc := 19) dX8_isQuiet_19 rfl ?_
    refine s_goto (pc := 20) (tgt := 24) dX8_isQuiet_20 rfl ?_
    exact s_ret (r := some (.int 1)) ⟨dX8_isQuiet_24, fun ty e => by cases e; rfl⟩ rfl h
set_option maxRecDepth 10000 in
set_option maxHeartbeats 4000000 in
theorem tX8_dropBy_0 {E : Ev}  {σ : Hp} {Φ : Option Value → Hp → Prop}  (h : ∃ σ1 : Hp, Call E mX8_asTold [.ref 53] σ none σ1 ∧ ∃ (r5 : Int32) (σ3 : Hp), Call E mX8_isQuiet [.ref 53, .int 0] σ1 (some (.int r5)) σ3 ∧ ((r5 = 0 → Ru E mX8_dropBy 16 [(0, .ref 53), (1, .int 0)] [] σ3 Φ) ∧ (¬ r5 = 0 → Φ (some (.int 0)) σ3))) : Ru E mX8_dropBy 0 [(0, .ref 53)] [] σ Φ := by
  refine s_aload_n 0 (pc := 0) dX8_dropBy_0 rfl rfl ?_
  obtain ⟨σ1, hk2, h⟩ := h
  refine s_callV (S := []) [] (pc := 1) dX8_dropBy_1 mv_X8_asTold ml_X8_213 ⟨Nat.le_of_ble_eq_true rfl, Nat.le_of_ble_eq_true rfl⟩ rfl rfl ly53 rfl rfl (Nat.le_of_ble_eq_true rfl) hk2 ?_
  refine s_aload_n 0 (pc := 4) dX8_dropBy_4 rfl rfl ?_
  refine s_iconst (v := 0) (pc := 5) dX8_dropBy_5 rfl ?_
  obtain ⟨r5, σ3, hk4, h⟩ := h
  refine s_callV (S := []) [.int 0] (pc := 6) dX8_dropBy_6 mv_X8_isQuiet ml_X8_281 ⟨Nat.le_of_ble_eq_true rfl, Nat.le_of_ble_eq_true rfl⟩ rfl rfl ly53 rfl rfl (Nat.le_of_ble_eq_true rfl) hk4 ?_
  refine s_if_eq (pc := 9) (tgt := 14) dX8_dropBy_9 rfl (fun q6 => ?_) (fun q6 => ?_)
  · replace h := h.1 q6
    refine s_iconst (v := 0) (pc := 14) dX8_dropBy_14 rfl ?_
    refine s_istore_n (L' := [(1, .int 0), (0, .ref 53)]) (pc := 15) dX8_dropBy_15 rfl (Nat.le_of_ble_eq_true rfl) rfl ?_
    exact s_sub (L' := [(0, .ref 53), (1, .int 0)]) [1, 0] rfl h
  · replace h := h.2 q6
    refine s_iconst (v := 0) (pc := 12) dX8_dropBy_12 rfl ?_
    exact s_ret (r := some (.int 0)) ⟨dX8_dropBy_13, fun ty e => by cases e; rfl⟩ rfl h
set_option maxRecDepth 10000 in
set_option maxHeartbeats 4000000 in
theorem tX8_dropBy_16 {E : Ev} {x1 : Int32} {σ : Hp} {Φ : Option Value → Hp → Prop}  (h : (((σ 53 7) ≤ x1 → Ru E mX8_dropBy 51 [(0, .ref 53), (1, .int 0)] [] σ Φ) ∧ (¬ (σ 53 7) ≤ x1 → ∃ (r5 : Int32) (σ3 : Hp), Call E mX8_isQuiet [.ref 53, .int (1 <<< (x1 &&& 31))] (up σ 80 0 x1) (some (.int r5)) σ3 ∧ ((r5 = 0 → Ru E mX8_dropBy 16 [(0, .ref 53), (1, .int (x1 + 1))] [] σ3 Φ) ∧ (¬ r5 = 0 → Φ (some (.int 1)) σ3))))) : Ru E mX8_dropBy 16 [(0, .ref 53), (1, .int x1)] [] σ Φ := by
  refine s_iload_n 1 (pc := 16) dX8_dropBy_16 rfl rfl ?_
  refine s_aload_n 0 (pc := 17) dX8_dropBy_17 rfl rfl ?_
  refine s_getI (v := σ 53 7) (pc := 18) dX8_dropBy_18 fl_X8_166 ly53 rfl rfl ?_
  refine s_icmp_ge (pc := 21) (tgt := 49) dX8_dropBy_21 rfl (fun q1 => ?_) (fun q1 => ?_)
  · replace h := h.1 q1
    refine s_iconst (v := 0) (pc := 49) dX8_dropBy_49 rfl ?_
    refine s_istore_n (L' := [(1, .int 0), (0, .ref 53)]) (pc := 50) dX8_dropBy_50 rfl (Nat.le_of_ble_eq_true rfl) rfl ?_
    exact s_sub (L' := [(0, .ref 53), (1, .int 0)]) [1, 0] rfl h
  · replace h := h.2 q1
    refine s_aload_n 0 (pc := 24) dX8_dropBy_24 rfl rfl ?_
    refine s_getR (q := 80) (pc := 25) dX8_dropBy_25 fl_X8_88 ly53 rfl ?_
    refine s_iconst (v := 0) (pc := 28) dX8_dropBy_28 rfl ?_
    refine s_iload_n 1 (pc := 29) dX8_dropBy_29 rfl rfl ?_
    have hv2 : vp_in 0 2 := (by unfold vp_in; decide)
    refine s_iast (pc := 30) dX8_dropBy_30 ly80 hv2 ?_
    rw [show ((0 : Int32)).toNatClampNeg = 0 from rfl]
    refine s_aload_n 0 (pc := 31) dX8_dropBy_31 rfl rfl ?_
    refine s_iconst (v := 1) (pc := 32) dX8_dropBy_32 rfl ?_
    refine s_iload_n 1 (pc := 33) dX8_dropBy_33 rfl rfl ?_
    refine s_ishl (pc := 34) dX8_dropBy_34 ?_
    obtain ⟨r5, σ3, hk4, h⟩ := h
    refine s_callV (S := []) [.int (1 <<< (x1 &&& 31))] (pc := 35) dX8_dropBy_35 mv_X8_isQuiet ml_X8_281 ⟨Nat.le_of_ble_eq_true rfl, Nat.le_of_ble_eq_true rfl⟩ rfl rfl ly53 rfl rfl (Nat.le_of_ble_eq_true rfl) hk4 ?_
    refine s_if_eq (pc := 38) (tgt := 43) dX8_dropBy_38 rfl (fun q6 => ?_) (fun q6 => ?_)
    · replace h := h.1 q6
      refine s_iinc (v := x1 + 1) (L' := [(1, .int (x1 + 1)), (0, .ref 53)]) 1 (pc := 43) dX8_dropBy_43 rfl rfl (Nat.le_of_ble_eq_true rfl) rfl ?_
      refine s_goto (pc := 46) (tgt := 16) dX8_dropBy_46 rfl ?_
      exact s_sub (L' := [(0, .ref 53), (1, .int (x1 + 1))]) [1, 0] rfl h
    · replace h := h.2 q6
      refine s_iconst (v := 1) (pc := 41) dX8_dropBy_41 rfl ?_
      exact s_ret (r := some (.int 1)) ⟨dX8_dropBy_42, fun ty e => by cases e; rfl⟩ rfl h
set_option maxRecDepth 10000 in
set_option maxHeartbeats 4000000 in
theorem tX8_dropBy_51 {E : Ev} {x1 : Int32} {σ : Hp} {Φ : Option Value → Hp → Prop}  (h : (((σ 53 7) ≤ x1 → Φ (some (.int (-1))) σ) ∧ (¬ (σ 53 7) ≤ x1 → Ru E mX8_dropBy 63 [(0, .ref 53), (1, .int x1), (2, .int (x1 + 1))] [] σ Φ))) : Ru E mX8_dropBy 51 [(0, .ref 53), (1, .int x1)] [] σ Φ := by
  refine s_iload_n 1 (pc := 51) dX8_dropBy_51 rfl rfl ?_
  refine s_aload_n 0 (pc := 52) dX8_dropBy_52 rfl rfl ?_
  refine s_getI (v := σ 53 7) (pc := 53) dX8_dropBy_53 fl_X8_166 ly53 rfl rfl ?_
  refine s_icmp_ge (pc := 56) (tgt := 113) dX8_dropBy_56 rfl (fun q1 => ?_) (fun q1 => ?_)
  · replace h := h.1 q1
    refine s_iconst (v := (-1)) (pc := 113) dX8_dropBy_113 rfl ?_
    exact s_ret (r := some (.int (-1))) ⟨dX8_dropBy_114, fun ty e => by cases e; rfl⟩ rfl h
  · replace h := h.2 q1
    refine s_iload_n 1 (pc := 59) dX8_dropBy_59 rfl rfl ?_
    refine s_iconst (v := 1) (pc := 60) dX8_dropBy_60 rfl ?_
    refine s_iadd (pc := 61) dX8_dropBy_61 ?_
    refine s_istore_n (L' := [(2, .int (x1 + 1)), (0, .ref 53), (1, .int x1)]) (pc := 62) dX8_dropBy_62 rfl (Nat.le_of_ble_eq_true rfl) rfl ?_
    exact s_sub (L' := [(0, .ref 53), (1, .int x1), (2, .int (x1 + 1))]) [1, 2, 0] rfl h
set_option maxRecDepth 10000 in
set_option maxHeartbeats 4000000 in
theorem tX8_dropBy_63 {E : Ev} {x1 : Int32} {x2 : Int32} {σ : Hp} {Φ : Option Value → Hp → Prop}  (h : (((σ 53 7) ≤ x2 → Ru E mX8_dropBy 51 [(0, .ref 53), (1, .int (x1 + 1))] [] σ Φ) ∧ (¬ (σ 53 7) ≤ x2 → ∃ (r6 : Int32) (σ4 : Hp), Call E mX8_isQuiet [.ref 53, .int ((1 <<< (x1 &&& 31)) ||| (1 <<< (x2 &&& 31)))] (up (up σ 80 0 x1) 80 1 x2) (some (.int r6)) σ4 ∧ ((r6 = 0 → Ru E mX8_dropBy 63 [(0, .ref 53), (1, .int x1), (2, .int (x2 + 1))] [] σ4 Φ) ∧ (¬ r6 = 0 → Φ (some (.int 2)) σ4))))) : Ru E mX8_dropBy 63 [(0, .ref 53), (1, .int x1), (2, .int x2)] [] σ Φ := by
  refine s_iload_n 2 (pc := 63) dX8_dropBy_63 rfl rfl ?_
  refine s_aload_n 0 (pc := 64) dX8_dropBy_64 rfl rfl ?_
  refine s_getI (v := σ 53 7) (pc := 65) dX8_dropBy_65 fl_X8_166 ly53 rfl rfl ?_
  refine s_icmp_ge (pc := 68) (tgt := 107) dX8_dropBy_68 rfl (fun q1 => ?_) (fun q1 => ?_)
  · replace h := h.1 q1
    refine s_iinc (v := x1 + 1) (L' := [(1, .int (x1 + 1)), (0, .ref 53), (2, .int x2)]) 1 (pc := 107) dX8_dropBy_107 rfl rfl (Nat.le_of_ble_eq_true rfl) rfl ?_
    refine s_goto (pc := 110) (tgt := 51) dX8_dropBy_110 rfl ?_
    exact s_sub (L' := [(0, .ref 53), (1, .int (x1 + 1))]) [1, 0] rfl h
  · replace h := h.2 q1
    refine s_aload_n 0 (pc := 71) dX8_dropBy_71 rfl rfl ?_
    refine s_getR (q := 80) (pc := 72) dX8_dropBy_72 fl_X8_88 ly53 rfl ?_
    refine s_iconst (v := 0) (pc := 75) dX8_dropBy_75 rfl ?_
    refine s_iload_n 1 (pc := 76) dX8_dropBy_76 rfl rfl ?_
    have hv2 : vp_in 0 2 := (by unfold vp_in; decide)
    refine s_iast (pc := 77) dX8_dropBy_77 ly80 hv2 ?_
    rw [show ((0 : Int32)).toNatClampNeg = 0 from rfl]
    refine s_aload_n 0 (pc := 78) dX8_dropBy_78 rfl rfl ?_
    refine s_getR (q := 80) (pc := 79) dX8_dropBy_79 fl_X8_88 ly53 rfl ?_
    refine s_iconst (v := 1) (pc := 82) dX8_dropBy_82 rfl ?_
    refine s_iload_n 2 (pc := 83) dX8_dropBy_83 rfl rfl ?_
    have hv3 : vp_in 1 2 := (by unfold vp_in; decide)
    refine s_iast (pc := 84) dX8_dropBy_84 ly80 hv3 ?_
    rw [show ((1 : Int32)).toNatClampNeg = 1 from rfl]
    refine s_aload_n 0 (pc := 85) dX8_dropBy_85 rfl rfl ?_
    refine s_iconst (v := 1) (pc := 86) dX8_dropBy_86 rfl ?_
    refine s_iload_n 1 (pc := 87) dX8_dropBy_87 rfl rfl ?_
    refine s_ishl (pc := 88) dX8_dropBy_88 ?_
    refine s_iconst (v := 1) (pc := 89) dX8_dropBy_89 rfl ?_
    refine s_iload_n 2 (pc := 90) dX8_dropBy_90 rfl rfl ?_
    refine s_ishl (pc := 91) dX8_dropBy_91 ?_
    refine s_ior (pc := 92) dX8_dropBy_92 ?_
    obtain ⟨r6, σ4, hk5, h⟩ := h
    refine s_callV (S := []) [.int ((1 <<< (x1 &&& 31)) ||| (1 <<< (x2 &&& 31)))] (pc := 93) dX8_dropBy_93 mv_X8_isQuiet ml_X8_281 ⟨Nat.le_of_ble_eq_true rfl, Nat.le_of_ble_eq_true rfl⟩ rfl rfl ly53 rfl rfl (Nat.le_of_ble_eq_true rfl) hk5 ?_
    refine s_if_eq (pc := 96) (tgt := 101) dX8_dropBy_96 rfl (fun q7 => ?_) (fun q7 => ?_)
    · replace h := h.1 q7
      refine s_iinc (v := x2 + 1) (L' := [(2, .int (x2 + 1)), (0, .ref 53), (1, .int x1)]) 2 (pc := 101) dX8_dropBy_101 rfl rfl (Nat.le_of_ble_eq_true rfl) rfl ?_
      refine s_goto (pc := 104) (tgt := 63) dX8_dropBy_104 rfl ?_
      exact s_sub (L' := [(0, .ref 53), (1, .int x1), (2, .int (x2 + 1))]) [1, 2, 0] rfl h
    · replace h := h.2 q7
      refine s_iconst (v := 2) (pc := 99) dX8_dropBy_99 rfl ?_
      exact s_ret (r := some (.int 2)) ⟨dX8_dropBy_100, fun ty e => by cases e; rfl⟩ rfl h
set_option maxRecDepth 10000 in
set_option maxHeartbeats 4000000 in
theorem tX8_ofRow_0 {E : Ev} {x1 : Int32} {x2 : Int32} {σ : Hp} {Φ : Option Value → Hp → Prop}  (h : ((¬ x2 = (-1) → ((x1 ≤ x2 → Φ (some (.int (-1))) σ) ∧ (¬ x1 ≤ x2 → vp_in x2 2 ∧ Φ (some (.int (σ 80 ((x2).toNatClampNeg)))) σ))) ∧ (x2 = (-1) → Φ (some (.int x1)) σ))) : Ru E mX8_ofRow 0 [(0, .ref 53), (1, .int x1), (2, .int x2)] [] σ Φ := by
  refine s_iload_n 2 (pc := 0) dX8_ofRow_0 rfl rfl ?_
  refine s_iconst (v := (-1)) (pc := 1) dX8_ofRow_1 rfl ?_
  refine s_icmp_ne (pc := 2) (tgt := 9) dX8_ofRow_2 rfl (fun q1 => ?_) (fun q1 => ?_)
  · replace h := h.1 q1
    refine s_iload_n 2 (pc := 9) dX8_ofRow_9 rfl rfl ?_
    refine s_iload_n 1 (pc := 10) dX8_ofRow_10 rfl rfl ?_
    refine s_icmp_ge (pc := 11) (tgt := 23) dX8_ofRow_11 rfl (fun q2 => ?_) (fun q2 => ?_)
    · replace h := h.1 q2
      refine s_iconst (v := (-1)) (pc := 23) dX8_ofRow_23 rfl ?_
      exact s_ret (r := some (.int (-1))) ⟨dX8_ofRow_24, fun ty e => by cases e; rfl⟩ rfl h
    · replace h := h.2 q2
      refine s_aload_n 0 (pc := 14) dX8_ofRow_14 rfl rfl ?_
      refine s_getR (q := 80) (pc := 15) dX8_ofRow_15 fl_X8_88 ly53 rfl ?_
      refine s_iload_n 2 (pc := 18) dX8_ofRow_18 rfl rfl ?_
      have hv3 := h.1
      replace h := h.2
      refine s_iald (pc := 19) dX8_ofRow_19 ly80 hv3 ?_
      refine s_goto (pc := 20) (tgt := 24) dX8_ofRow_20 rfl ?_
      exact s_ret (r := some (.int (σ 80 ((x2).toNatClampNeg)))) ⟨dX8_ofRow_24, fun ty e => by cases e; rfl⟩ rfl h
  · replace h := h.2 q1
    refine s_iload_n 1 (pc := 5) dX8_ofRow_5 rfl rfl ?_
    refine s_goto (pc := 6) (tgt := 24) dX8_ofRow_6 rfl ?_
    exact s_ret (r := some (.int x1)) ⟨dX8_ofRow_24, fun ty e => by cases e; rfl⟩ rfl h
set_option maxRecDepth 10000 in
set_option maxHeartbeats 4000000 in
theorem tX8_drop_0 {E : Ev} {x1 : Int32} {σ : Hp} {Φ : Option Value → Hp → Prop}  (h : ∃ (r3 : Int32) (σ1 : Hp), Call E mX8_in [.int x1, .int (-1), .int 1] σ (some (.int r3)) σ1 ∧ ((r3 = 0 → Φ (some (.int (-2))) σ1) ∧ (¬ r3 = 0 → ∃ (r7 : Int32) (σ5 : Hp), Call E mX8_dropBy [.ref 53] σ1 (some (.int r7)) σ5 ∧ ∃ (r10 : Int32) (σ8 : Hp), Call E mX8_ofRow [.ref 53, .int r7, .int x1] σ5 (some (.int r10)) σ8 ∧ Φ (some (.int r10)) σ8))) : Ru E mX8_drop 0 [(0, .ref 53), (1, .int x1)] [] σ Φ := by
  refine s_iload_n 1 (pc := 0) dX8_drop_0 rfl rfl ?_
  refine s_iconst (v := (-1)) (pc := 1) dX8_drop_1 rfl ?_
  refine s_iconst (v := 1) (pc := 2) dX8_drop_2 rfl ?_
  obtain ⟨r3, σ1, hk2, h⟩ := h
  refine s_callS (S := []) [.int x1, .int (-1), .int 1] (pc := 3) dX8_drop_3 ms_X8_in ml_X8_124 ⟨Nat.le_of_ble_eq_true rfl, Nat.le_of_ble_eq_true rfl⟩ rfl rfl (Nat.le_of_ble_eq_true rfl) hk2 ?_
  refine s_if_eq (pc := 6) (tgt := 21) dX8_drop_6 rfl (fun q4 => ?_) (fun q4 => ?_)
  · replace h := h.1 q4
    refine s_bipush (v := (-2)) (pc := 21) dX8_drop_21 rfl ?_
    exact s_ret (r := some (.int (-2))) ⟨dX8_drop_23, fun ty e => by cases e; rfl⟩ rfl h
  · replace h := h.2 q4
    refine s_aload_n 0 (pc := 9) dX8_drop_9 rfl rfl ?_
    refine s_aload_n 0 (pc := 10) dX8_drop_10 rfl rfl ?_
    obtain ⟨r7, σ5, hk6, h⟩ := h
    refine s_callV (S := [.ref 53]) [] (pc := 11) dX8_drop_11 mv_X8_dropBy ml_X8_284 ⟨Nat.le_of_ble_eq_true rfl, Nat.le_of_ble_eq_true rfl⟩ rfl rfl ly53 rfl rfl (Nat.le_of_ble_eq_true rfl) hk6 ?_
    refine s_iload_n 1 (pc := 14) dX8_drop_14 rfl rfl ?_
    obtain ⟨r10, σ8, hk9, h⟩ := h
    refine s_callV (S := []) [.int r7, .int x1] (pc := 15) dX8_drop_15 mv_X8_ofRow ml_X8_287 ⟨Nat.le_of_ble_eq_true rfl, Nat.le_of_ble_eq_true rfl⟩ rfl rfl ly53 rfl rfl (Nat.le_of_ble_eq_true rfl) hk9 ?_
    refine s_goto (pc := 18) (tgt := 23) dX8_drop_18 rfl ?_
    exact s_ret (r := some (.int r10)) ⟨dX8_drop_23, fun ty e => by cases e; rfl⟩ rfl h
set_option maxRecDepth 10000 in
set_option maxHeartbeats 4000000 in
theorem tX8_seen_0 {E : Ev} {x1 : Int32} {x2 : Int32} {x3 : Int32} {x4 : Int32} {σ : Hp} {Φ : Option Value → Hp → Prop}  (h : ∃ (r3 : Int32) (σ1 : Hp), Call E mX8_isDay [.int x1] σ (some (.int r3)) σ1 ∧ ((r3 = 0 → Φ (some (.int (-2))) σ1) ∧ (¬ r3 = 0 → ∃ (r7 : Int32) (σ5 : Hp), Call E mX8_isEight [.int x2] σ1 (some (.int r7)) σ5 ∧ ((r7 = 0 → Φ (some (.int (-2))) σ5) ∧ (¬ r7 = 0 → ∃ (r11 : Int32) (σ9 : Hp), Call E mX8_in [.int x3, .int (-99), .int 99] σ5 (some (.int r11)) σ9 ∧ ((r11 = 0 → Φ (some (.int (-2))) σ9) ∧ (¬ r11 = 0 → ∃ (r15 : Int32) (σ13 : Hp), Call E mX8_in [.int x4, .int (-99), .int 99] σ9 (some (.int r15)) σ13 ∧ ((¬ r15 = 0 → ((¬ (σ13 53 33) = 8 → vp_in (σ13 53 33) 8 ∧ Φ (some (.int ((σ13 53 33) + 1))) (up (up (up (up (up σ13 81 ((σ13 53 33).toNatClampNeg) x1) 82 ((σ13 53 33).toNatClampNeg) x2) 83 ((σ13 53 33).toNatClampNeg) x3) 84 ((σ13 53 33).toNatClampNeg) x4) 53 33 ((σ13 53 33) + 1))) ∧ ((σ13 53 33) = 8 → Φ (some (.int (-4))) σ13))) ∧ (r15 = 0 → Φ (some (.int (-2))) σ13))))))))) : Ru E mX8_seen 0 [(0, .ref 53), (1, .int x1), (2, .int x2), (3, .int x3), (4, .int x4)] [] σ Φ := by
  refine s_iload_n 1 (pc := 0) dX8_seen_0 rfl rfl ?_
  obtain ⟨r3, σ1, hk2, h⟩ := h
  refine s_callS (S := []) [.int x1] (pc := 1) dX8_seen_1 ms_X8_isDay ml_X8_160 ⟨Nat.le_of_ble_eq_true rfl, Nat.le_of_ble_eq_true rfl⟩ rfl rfl (Nat.le_of_ble_eq_true rfl) hk2 ?_
  refine s_if_eq (pc := 4) (tgt := 37) dX8_seen_4 rfl (fun q4 => ?_) (fun q4 => ?_)
  · replace h := h.1 q4
    refine s_bipush (v := (-2)) (pc := 37) dX8_seen_37 rfl ?_
    exact s_ret (r := some (.int (-2))) ⟨dX8_seen_39, fun ty e => by cases e; rfl⟩ rfl h
  · replace h := h.2 q4
    refine s_iload_n 2 (pc := 7) dX8_seen_7 rfl rfl ?_
    obtain ⟨r7, σ5, hk6, h⟩ := h
    refine s_callS (S := []) [.int x2] (pc := 8) dX8_seen_8 ms_X8_isEight ml_X8_163 ⟨Nat.le_of_ble_eq_true rfl, Nat.le_of_ble_eq_true rfl⟩ rfl rfl (Nat.le_of_ble_eq_true rfl) hk6 ?_
    refine s_if_eq (pc := 11) (tgt := 37) dX8_seen_11 rfl (fun q8 => ?_) (fun q8 => ?_)
    · replace h := h.1 q8
      refine s_bipush (v := (-2)) (pc := 37) dX8_seen_37 rfl ?_
      exact s_ret (r := some (.int (-2))) ⟨dX8_seen_39, fun ty e => by cases e; rfl⟩ rfl h
    · replace h := h.2 q8
      refine s_iload_n 3 (pc := 14) dX8_seen_14 rfl rfl ?_
      refine s_bipush (v := (-99)) (pc := 15) dX8_seen_15 rfl ?_
      refine s_bipush (v := 99) (pc := 17) dX8_seen_17 rfl ?_
      obtain ⟨r11, σ9, hk10, h⟩ := h
      refine s_callS (S := []) [.int x3, .int (-99), .int 99] (pc := 19) dX8_seen_19 ms_X8_in ml_X8_124 ⟨Nat.le_of_ble_eq_true rfl, Nat.le_of_ble_eq_true rfl⟩ rfl rfl (Nat.le_of_ble_eq_true rfl) hk10 ?_
      refine s_if_eq (pc := 22) (tgt := 37) dX8_seen_22 rfl (fun q12 => ?_) (fun q12 => ?_)
      · replace h := h.1 q12
        refine s_bipush (v := (-2)) (pc := 37) dX8_seen_37 rfl ?_
        exact s_ret (r := some (.int (-2))) ⟨dX8_seen_39, fun ty e => by cases e; rfl⟩ rfl h
      · replace h := h.2 q12
        refine s_iload 4 (pc := 25) dX8_seen_25 rfl ?_
        refine s_bipush (v := (-99)) (pc := 27) dX8_seen_27 rfl ?_
        refine s_bipush (v := 99) (pc := 29) dX8_seen_29 rfl ?_
        obtain ⟨r15, σ13, hk14, h⟩ := h
        refine s_callS (S := []) [.int x4, .int (-99), .int 99] (pc := 31) dX8_seen_31 ms_X8_in ml_X8_124 ⟨Nat.le_of_ble_eq_true rfl, Nat.le_of_ble_eq_true rfl⟩ rfl rfl (Nat.le_of_ble_eq_true rfl) hk14 ?_
        refine s_if_ne (pc := 34) (tgt := 40) dX8_seen_34 rfl (fun q16 => ?_) (fun q16 => ?_)
        · replace h := h.1 q16
          refine s_aload_n 0 (pc := 40) dX8_seen_40 rfl rfl ?_
          refine s_getI (v := σ13 53 33) (pc := 41) dX8_seen_41 fl_X8_290 ly53 rfl rfl ?_
          refine s_bipush (v := 8) (pc := 44) dX8_seen_44 rfl ?_
          refine s_icmp_ne (pc := 46) (tgt := 52) dX8_seen_46 rfl (fun q17 => ?_) (fun q17 => ?_)
          · replace h := h.1 q17
            refine s_aload_n 0 (pc := 52) dX8_seen_52 rfl rfl ?_
            refine s_getR (q := 81) (pc := 53) dX8_seen_53 fl_X8_91 ly53 rfl ?_
            refine s_aload_n 0 (pc := 56) dX8_seen_56 rfl rfl ?_
            refine s_getI (v := σ13 53 33) (pc := 57) dX8_seen_57 fl_X8_290 ly53 rfl rfl ?_
            refine s_iload_n 1 (pc := 60) dX8_seen_60 rfl rfl ?_
            have hv18 := h.1
            replace h := h.2
            refine s_iast (pc := 61) dX8_seen_61 ly81 hv18 ?_
            refine s_aload_n 0 (pc := 62) dX8_seen_62 rfl rfl ?_
            refine s_getR (q := 82) (pc := 63) dX8_seen_63 fl_X8_94 ly53 rfl ?_
            refine s_aload_n 0 (pc := 66) dX8_seen_66 rfl rfl ?_
            refine s_getI (v := σ13 53 33) (pc := 67) dX8_seen_67 fl_X8_290 ly53 rfl (by simp [up]) ?_
            refine s_iload_n 2 (pc := 70) dX8_seen_70 rfl rfl ?_
            refine s_iast (pc := 71) dX8_seen_71 ly82 hv18 ?_
            refine s_aload_n 0 (pc := 72) dX8_seen_72 rfl rfl ?_
            refine s_getR (q := 83) (pc := 73) dX8_seen_73 fl_X8_97 ly53 rfl ?_
            refine s_aload_n 0 (pc := 76) dX8_seen_76 rfl rfl ?_
            refine s_getI (v := σ13 53 33) (pc := 77) dX8_seen_77 fl_X8_290 ly53 rfl (by simp [up]) ?_
            refine s_iload_n 3 (pc := 80) dX8_seen_80 rfl rfl ?_
            refine s_iast (pc := 81) dX8_seen_81 ly83 hv18 ?_
            refine s_aload_n 0 (pc := 82) dX8_seen_82 rfl rfl ?_
            refine s_getR (q := 84) (pc := 83) dX8_seen_83 fl_X8_100 ly53 rfl ?_
            refine s_aload_n 0 (pc := 86) dX8_seen_86 rfl rfl ?_
            refine s_getI (v := σ13 53 33) (pc := 87) dX8_seen_87 fl_X8_290 ly53 rfl (by simp [up]) ?_
            refine s_iload 4 (pc := 90) dX8_seen_90 rfl ?_
            refine s_iast (pc := 92) dX8_seen_92 ly84 hv18 ?_
            refine s_aload_n 0 (pc := 93) dX8_seen_93 rfl rfl ?_
            refine s_dup (pc := 94) dX8_seen_94 rfl ?_
            refine s_getI (v := σ13 53 33) (pc := 95) dX8_seen_95 fl_X8_290 ly53 rfl (by simp [up]) ?_
            refine s_iconst (v := 1) (pc := 98) dX8_seen_98 rfl ?_
            refine s_iadd (pc := 99) dX8_seen_99 ?_
            refine s_put (ty := .int) (pc := 100) dX8_seen_100 fp_X8_290 ly53 rfl rfl rfl ?_
            refine s_aload_n 0 (pc := 103) dX8_seen_103 rfl rfl ?_
            refine s_getI (v := (σ13 53 33) + 1) (pc := 104) dX8_seen_104 fl_X8_290 ly53 rfl (by simp [up]) ?_
            exact s_ret (r := some (.int ((σ13 53 33) + 1))) ⟨dX8_seen_107, fun ty e => by cases e; rfl⟩ rfl h
          · replace h := h.2 q17
            refine s_bipush (v := (-4)) (pc := 49) dX8_seen_49 rfl ?_
            exact s_ret (r := some (.int (-4))) ⟨dX8_seen_51, fun ty e => by cases e; rfl⟩ rfl h
        · replace h := h.2 q16
          refine s_bipush (v := (-2)) (pc := 37) dX8_seen_37 rfl ?_
          exact s_ret (r := some (.int (-2))) ⟨dX8_seen_39, fun ty e => by cases e; rfl⟩ rfl h
set_option maxRecDepth 10000 in
set_option maxHeartbeats 4000000 in
theorem tX8_forget_0 {E : Ev}  {σ : Hp} {Φ : Option Value → Hp → Prop}  (h : Φ (some (.int (σ 53 33))) (up σ 53 33 0)) : Ru E mX8_forget 0 [(0, .ref 53)] [] σ Φ := by
  refine s_aload_n 0 (pc := 0) dX8_forget_0 rfl rfl ?_
  refine s_getI (v := σ 53 33) (pc := 1) dX8_forget_1 fl_X8_290 ly53 rfl rfl ?_
  refine s_istore_n (L' := [(1, .int (σ 53 33)), (0, .ref 53)]) (pc := 4) dX8_forget_4 rfl (Nat.le_of_ble_eq_true rfl) rfl ?_
  refine s_aload_n 1 (pc := 5) dX8_forget_5 rfl rfl ?_
  refine s_iconst (v := 0) (pc := 6) dX8_forget_6 rfl ?_
  refine s_put (ty := .int) (pc := 7) dX8_forget_7 fp_X8_290 ly53 rfl rfl rfl ?_
  refine s_iload_n 0 (pc := 10) dX8_forget_10 rfl rfl ?_
  exact s_ret (r := some (.int (σ 53 33))) ⟨dX8_forget_11, fun ty e => by cases e; rfl⟩ rfl h
set_option maxRecDepth 10000 in
set_option maxHeartbeats 4000000 in
theorem tX8_isSeen_0 {E : Ev}  {σ : Hp} {Φ : Option Value → Hp → Prop}  (h : ∃ σ1 : Hp, Call E mX8_runs [.ref 53] σ none σ1 ∧ Ru E mX8_isSeen 8 [(0, .ref 53), (1, .int 1), (2, .int 0)] [] σ1 Φ) : Ru E mX8_isSeen 0 [(0, .ref 53)] [] σ Φ := by
  refine s_aload_n 0 (pc := 0) dX8_isSeen_0 rfl rfl ?_
  obtain ⟨σ1, hk2, h⟩ := h
  refine s_callV (S := []) [] (pc := 1) dX8_isSeen_1 mv_X8_runs ml_X8_216 ⟨Nat.le_of_ble_eq_true rfl, Nat.le_of_ble_eq_true rfl⟩ rfl rfl ly53 rfl rfl (Nat.le_of_ble_eq_true rfl) hk2 ?_
  refine s_iconst (v := 1) (pc := 4) dX8_isSeen_4 rfl ?_
  refine s_istore_n (L' := [(1, .int 1), (0, .ref 53)]) (pc := 5) dX8_isSeen_5 rfl (Nat.le_of_ble_eq_true rfl) rfl ?_
  refine s_iconst (v := 0) (pc := 6) dX8_isSeen_6 rfl ?_
  refine s_istore_n (L' := [(2, .int 0), (1, .int 1), (0, .ref 53)]) (pc := 7) dX8_isSeen_7 rfl (Nat.le_of_ble_eq_true rfl) rfl ?_
  exact s_sub (L' := [(0, .ref 53), (1, .int 1), (2, .int 0)]) [2, 1, 0] rfl h
set_option maxRecDepth 10000 in
set_option maxHeartbeats 4000000 in
theorem tX8_isSeen_8 {E : Ev} {x1 : Int32} {x2 : Int32} {σ : Hp} {Φ : Option Value → Hp → Prop}  (h : (((σ 53 33) ≤ x2 → narrow .boolean (.int x1) = .int x1 ∧ Φ (some (.int x1)) σ) ∧ (¬ (σ 53 33) ≤ x2 → ((x1 = 0 → narrow .boolean (.int x1) = .int x1 ∧ Φ (some (.int x1)) σ) ∧ (¬ x1 = 0 → vp_in x2 8 ∧ (((σ 53 2) ≤ (σ 82 ((x2).toNatClampNeg)) → Ru E mX8_isSeen 8 [(0, .ref 53), (1, .int 0), (2, .int (x2 + 1))] [] σ Φ) ∧ (¬ (σ 53 2) ≤ (σ 82 ((x2).toNatClampNeg)) → ∃ (r9 : Int32) (σ7 : Hp), Call E mX8_legXAt [.ref 53, .int ((8 * (σ 81 ((x2).toNatClampNeg))) + (σ 82 ((x2).toNatClampNeg)))] σ (some (.int r9)) σ7 ∧ ((¬ r9 = (σ7 83 ((x2).toNatClampNeg)) → Ru E mX8_isSeen 8 [(0, .ref 53), (1, .int 0), (2, .int (x2 + 1))] [] σ7 Φ) ∧ (r9 = (σ7 83 ((x2).toNatClampNeg)) → ∃ (r14 : Int32) (σ12 : Hp), Call E mX8_legYAt [.ref 53, .int ((8 * (σ 81 ((x2).toNatClampNeg))) + (σ 82 ((x2).toNatClampNeg)))] σ7 (some (.int r14)) σ12 ∧ ((¬ r14 = (σ12 84 ((x2).toNatClampNeg)) → Ru E mX8_isSeen 8 [(0, .ref 53), (1, .int 0), (2, .int (x2 + 1))] [] σ12 Φ) ∧ (r14 = (σ12 84 ((x2).toNatClampNeg)) → Ru E mX8_isSeen 8 [(0, .ref 53), (1, .int 1), (2, .int (x2 + 1))] [] σ12 Φ))))))))))) : Ru E mX8_isSeen 8 [(0, .ref 53), (1, .int x1), (2, .int x2)] [] σ Φ := by
  refine s_iload_n 2 (pc := 8) dX8_isSeen_8 rfl rfl ?_
  refine s_aload_n 0 (pc := 9) dX8_isSeen_9 rfl rfl ?_
  refine s_getI (v := σ 53 33) (pc := 10) dX8_isSeen_10 fl_X8_290 ly53 rfl rfl ?_
  refine s_icmp_ge (pc := 13) (tgt := 90) dX8_isSeen_13 rfl (fun q1 => ?_) (fun q1 => ?_)
  · replace h := h.1 q1
    refine s_iload_n 1 (pc := 90) dX8_isSeen_90 rfl rfl ?_
    have hz := h.1
    replace h := h.2
    exact s_ret (r := some (.int x1)) ⟨dX8_isSeen_91, fun ty e => by cases e; exact hz⟩ rfl h
  · replace h := h.2 q1
    refine s_iload_n 1 (pc := 16) dX8_isSeen_16 rfl rfl ?_
    refine s_if_eq (pc := 17) (tgt := 90) dX8_isSeen_17 rfl (fun q2 => ?_) (fun q2 => ?_)
    · replace h := h.1 q2
      refine s_iload_n 1 (pc := 90) dX8_isSeen_90 rfl rfl ?_
      have hz := h.1
      replace h := h.2
      exact s_ret (r := some (.int x1)) ⟨dX8_isSeen_91, fun ty e => by cases e; exact hz⟩ rfl h
    · replace h := h.2 q2
      refine s_bipush (v := 8) (pc := 20) dX8_isSeen_20 rfl ?_
      refine s_aload_n 0 (pc := 22) dX8_isSeen_22 rfl rfl ?_
      refine s_getR (q := 81) (pc := 23) dX8_isSeen_23 fl_X8_91 ly53 rfl ?_
      refine s_iload_n 2 (pc := 26) dX8_isSeen_26 rfl rfl ?_
      have hv3 := h.1
      replace h := h.2
      refine s_iald (pc := 27) dX8_isSeen_27 ly81 hv3 ?_
      refine s_imul (pc := 28) dX8_isSeen_28 ?_
      refine s_aload_n 0 (pc := 29) dX8_isSeen_29 rfl rfl ?_
      refine s_getR (q := 82) (pc := 30) dX8_isSeen_30 fl_X8_94 ly53 rfl ?_
      refine s_iload_n 2 (pc := 33) dX8_isSeen_33 rfl rfl ?_
      refine s_iald (pc := 34) dX8_isSeen_34 ly82 hv3 ?_
      refine s_iadd (pc := 35) dX8_isSeen_35 ?_
      refine s_istore_n (L' := [(3, .int ((8 * (σ 81 ((x2).toNatClampNeg))) + (σ 82 ((x2).toNatClampNeg)))), (0, .ref 53), (1, .int x1), (2, .int x2)]) (pc := 36) dX8_isSeen_36 rfl (Nat.le_of_ble_eq_true rfl) rfl ?_
      refine s_aload_n 1 (pc := 37) dX8_isSeen_37 rfl rfl ?_
      refine s_getR (q := 82) (pc := 38) dX8_isSeen_38 fl_X8_94 ly53 rfl ?_
      refine s_iload_n 3 (pc := 41) dX8_isSeen_41 rfl rfl ?_
      refine s_iald (pc := 42) dX8_isSeen_42 ly82 hv3 ?_
      refine s_aload_n 1 (pc := 43) dX8_isSeen_43 rfl rfl ?_
      refine s_getI (v := σ 53 2) (pc := 44) dX8_isSeen_44 fl_X8_139 ly53 rfl rfl ?_
      refine s_icmp_ge (pc := 47) (tgt := 82) dX8_isSeen_47 rfl (fun q6 => ?_) (fun q6 => ?_)
      · replace h := h.1 q6
        refine s_iconst (v := 0) (pc := 82) dX8_isSeen_82 rfl ?_
        refine s_istore_n (L' := [(1, .int 0), (3, .int ((8 * (σ 81 ((x2).toNatClampNeg))) + (σ 82 ((x2).toNatClampNeg)))), (0, .ref 53), (2, .int x2)]) (pc := 83) dX8_isSeen_83 rfl (Nat.le_of_ble_eq_true rfl) rfl ?_
        refine s_iinc (v := x2 + 1) (L' := [(2, .int (x2 + 1)), (1, .int 0), (3, .int ((8 * (σ 81 ((x2).toNatClampNeg))) + (σ 82 ((x2).toNatClampNeg)))), (0, .ref 53)]) 3 (pc := 84) dX8_isSeen_84 rfl rfl (Nat.le_of_ble_eq_true rfl) rfl ?_
        refine s_goto (pc := 87) (tgt := 8) dX8_isSeen_87 rfl ?_
        exact s_sub (L' := [(0, .ref 53), (1, .int 0), (2, .int (x2 + 1))]) [3, 1, 0] rfl h
      · replace h := h.2 q6
        refine s_aload_n 1 (pc := 50) dX8_isSeen_50 rfl rfl ?_
        refine s_iload_n 0 (pc := 51) dX8_isSeen_51 rfl rfl ?_
        obtain ⟨r9, σ7, hk8, h⟩ := h
        refine s_callV (S := []) [.int ((8 * (σ 81 ((x2).toNatClampNeg))) + (σ 82 ((x2).toNatClampNeg)))] (pc := 52) dX8_isSeen_52 mv_X8_legXAt ml_X8_225 ⟨Nat.le_of_ble_eq_true rfl, Nat.le_of_ble_eq_true rfl⟩ rfl rfl ly53 rfl rfl (Nat.le_of_ble_eq_true rfl) hk8 ?_
        refine s_aload_n 1 (pc := 55) dX8_isSeen_55 rfl rfl ?_
        refine s_getR (q := 83) (pc := 56) dX8_isSeen_56 fl_X8_97 ly53 rfl ?_
        refine s_iload_n 3 (pc := 59) dX8_isSeen_59 rfl rfl ?_
        refine s_iald (pc := 60) dX8_isSeen_60 ly83 hv3 ?_
        refine s_icmp_ne (pc := 61) (tgt := 82) dX8_isSeen_61 rfl (fun q11 => ?_) (fun q11 => ?_)
        · replace h := h.1 q11
          refine s_iconst (v := 0) (pc := 82) dX8_isSeen_82 rfl ?_
          refine s_istore_n (L' := [(1, .int 0), (3, .int ((8 * (σ 81 ((x2).toNatClampNeg))) + (σ 82 ((x2).toNatClampNeg)))), (0, .ref 53), (2, .int x2)]) (pc := 83) dX8_isSeen_83 rfl (Nat.le_of_ble_eq_true rfl) rfl ?_
          refine s_iinc (v := x2 + 1) (L' := [(2, .int (x2 + 1)), (1, .int 0), (3, .int ((8 * (σ 81 ((x2).toNatClampNeg))) + (σ 82 ((x2).toNatClampNeg)))), (0, .ref 53)]) 3 (pc := 84) dX8_isSeen_84 rfl rfl (Nat.le_of_ble_eq_true rfl) rfl ?_
          refine s_goto (pc := 87) (tgt := 8) dX8_isSeen_87 rfl ?_
          exact s_sub (L' := [(0, .ref 53), (1, .int 0), (2, .int (x2 + 1))]) [3, 1, 0] rfl h
        · replace h := h.2 q11
          refine s_aload_n 1 (pc := 64) dX8_isSeen_64 rfl rfl ?_
          refine s_iload_n 0 (pc := 65) dX8_isSeen_65 rfl rfl ?_
          obtain ⟨r14, σ12, hk13, h⟩ := h
          refine s_callV (S := []) [.int ((8 * (σ 81 ((x2).toNatClampNeg))) + (σ 82 ((x2).toNatClampNeg)))] (pc := 66) dX8_isSeen_66 mv_X8_legYAt ml_X8_228 ⟨Nat.le_of_ble_eq_true rfl, Nat.le_of_ble_eq_true rfl⟩ rfl rfl ly53 rfl rfl (Nat.le_of_ble_eq_true rfl) hk13 ?_
          refine s_aload_n 1 (pc := 69) dX8_isSeen_69 rfl rfl ?_
          refine s_getR (q := 84) (pc := 70) dX8_isSeen_70 fl_X8_100 ly53 rfl ?_
          refine s_iload_n 3 (pc := 73) dX8_isSeen_73 rfl rfl ?_
          refine s_iald (pc := 74) dX8_isSeen_74 ly84 hv3 ?_
          refine s_icmp_ne (pc := 75) (tgt := 82) dX8_isSeen_75 rfl (fun q16 => ?_) (fun q16 => ?_)
          · replace h := h.1 q16
            refine s_iconst (v := 0) (pc := 82) dX8_isSeen_82 rfl ?_
            refine s_istore_n (L' := [(1, .int 0), (3, .int ((8 * (σ 81 ((x2).toNatClampNeg))) + (σ 82 ((x2).toNatClampNeg)))), (0, .ref 53), (2, .int x2)]) (pc := 83) dX8_isSeen_83 rfl (Nat.le_of_ble_eq_true rfl) rfl ?_
            refine s_iinc (v := x2 + 1) (L' := [(2, .int (x2 + 1)), (1, .int 0), (3, .int ((8 * (σ 81 ((x2).toNatClampNeg))) + (σ 82 ((x2).toNatClampNeg)))), (0, .ref 53)]) 3 (pc := 84) dX8_isSeen_84 rfl rfl (Nat.le_of_ble_eq_true rfl) rfl ?_
            refine s_goto (pc := 87) (tgt := 8) dX8_isSeen_87 rfl ?_
            exact s_sub (L' := [(0, .ref 53), (1, .int 0), (2, .int (x2 + 1))]) [3, 1, 0] rfl h
          · replace h := h.2 q16
            refine s_iconst (v := 1) (pc := 78) dX8_isSeen_78 rfl ?_
            refine s_goto (pc := 79) (tgt := 83) dX8_isSeen_79 rfl ?_
            refine s_istore_n (L' := [(1, .int 1), (3, .int ((8 * (σ 81 ((x2).toNatClampNeg))) + (σ 82 ((x2).toNatClampNeg)))), (0, .ref 53), (2, .int x2)]) (pc := 83) dX8_isSeen_83 rfl (Nat.le_of_ble_eq_true rfl) rfl ?_
            refine s_iinc (v := x2 + 1) (L' := [(2, .int (x2 + 1)), (1, .int 1), (3, .int ((8 * (σ 81 ((x2).toNatClampNeg))) + (σ 82 ((x2).toNatClampNeg)))), (0, .ref 53)]) 3 (pc := 84) dX8_isSeen_84 rfl rfl (Nat.le_of_ble_eq_true rfl) rfl ?_
            refine s_goto (pc := 87) (tgt := 8) dX8_isSeen_87 rfl ?_
            exact s_sub (L' := [(0, .ref 53), (1, .int 1), (2, .int (x2 + 1))]) [3, 1, 0] rfl h
set_option maxRecDepth 10000 in
set_option maxHeartbeats 4000000 in
theorem tX8_neverNow_0 {E : Ev}  {σ : Hp} {Φ : Option Value → Hp → Prop}  (h : ∃ σ1 : Hp, Call E mX8_asTold [.ref 53] σ none σ1 ∧ Ru E mX8_neverNow 8 [(0, .ref 53), (1, .int 0), (2, .int 0)] [] σ1 Φ) : Ru E mX8_neverNow 0 [(0, .ref 53)] [] σ Φ := by
  refine s_aload_n 0 (pc := 0) dX8_neverNow_0 rfl rfl ?_
  obtain ⟨σ1, hk2, h⟩ := h
  refine s_callV (S := []) [] (pc := 1) dX8_neverNow_1 mv_X8_asTold ml_X8_213 ⟨Nat.le_of_ble_eq_true rfl, Nat.le_of_ble_eq_true rfl⟩ rfl rfl ly53 rfl rfl (Nat.le_of_ble_eq_true rfl) hk2 ?_
  refine s_iconst (v := 0) (pc := 4) dX8_neverNow_4 rfl ?_
  refine s_istore_n (L' := [(1, .int 0), (0, .ref 53)]) (pc := 5) dX8_neverNow_5 rfl (Nat.le_of_ble_eq_true rfl) rfl ?_
  refine s_iconst (v := 0) (pc := 6) dX8_neverNow_6 rfl ?_
  refine s_istore_n (L' := [(2, .int 0), (1, .int 0), (0, .ref 53)]) (pc := 7) dX8_neverNow_7 rfl (Nat.le_of_ble_eq_true rfl) rfl ?_
  exact s_sub (L' := [(0, .ref 53), (1, .int 0), (2, .int 0)]) [2, 1, 0] rfl h
set_option maxRecDepth 10000 in
set_option maxHeartbeats 4000000 in
theorem tX8_neverNow_8 {E : Ev} {x1 : Int32} {x2 : Int32} {σ : Hp} {Φ : Option Value → Hp → Prop}  (h : (((σ 53 7) ≤ x2 → Φ (some (.int x1)) σ) ∧ (¬ (σ 53 7) ≤ x2 → ∃ (r4 : Int32) (σ2 : Hp), Call E mX8_isSeen [.ref 53] (up σ 53 17 (1 <<< (x2 &&& 31))) (some (.int r4)) σ2 ∧ ((r4 = 0 → Ru E mX8_neverNow 8 [(0, .ref 53), (1, .int (x1 ||| 0)), (2, .int (x2 + 1))] [] σ2 Φ) ∧ (¬ r4 = 0 → Ru E mX8_neverNow 8 [(0, .ref 53), (1, .int (x1 ||| (1 <<< (x2 &&& 31)))), (2, .int (x2 + 1))] [] σ2 Φ))))) : Ru E mX8_neverNow 8 [(0, .ref 53), (1, .int x1), (2, .int x2)] [] σ Φ := by
  refine s_iload_n 2 (pc := 8) dX8_neverNow_8 rfl rfl ?_
  refine s_aload_n 0 (pc := 9) dX8_neverNow_9 rfl rfl ?_
  refine s_getI (v := σ 53 7) (pc := 10) dX8_neverNow_10 fl_X8_166 ly53 rfl rfl ?_
  refine s_icmp_ge (pc := 13) (tgt := 46) dX8_neverNow_13 rfl (fun q1 => ?_) (fun q1 => ?_)
  · replace h := h.1 q1
    refine s_iload_n 1 (pc := 46) dX8_neverNow_46 rfl rfl ?_
    exact s_ret (r := some (.int x1)) ⟨dX8_neverNow_47, fun ty e => by cases e; rfl⟩ rfl h
  · replace h := h.2 q1
    refine s_aload_n 0 (pc := 16) dX8_neverNow_16 rfl rfl ?_
    refine s_iconst (v := 1) (pc := 17) dX8_neverNow_17 rfl ?_
    refine s_iload_n 2 (pc := 18) dX8_neverNow_18 rfl rfl ?_
    refine s_ishl (pc := 19) dX8_neverNow_19 ?_
    refine s_put (ty := .int) (pc := 20) dX8_neverNow_20 fp_X8_182 ly53 rfl rfl rfl ?_
    refine s_iload_n 1 (pc := 23) dX8_neverNow_23 rfl rfl ?_
    refine s_aload_n 0 (pc := 24) dX8_neverNow_24 rfl rfl ?_
    obtain ⟨r4, σ2, hk3, h⟩ := h
    refine s_callV (S := [.int x1]) [] (pc := 25) dX8_neverNow_25 mv_X8_isSeen ml_X8_293 ⟨Nat.le_of_ble_eq_true rfl, Nat.le_of_ble_eq_true rfl⟩ rfl rfl ly53 rfl rfl (Nat.le_of_ble_eq_true rfl) hk3 ?_
    refine s_if_eq (pc := 28) (tgt := 37) dX8_neverNow_28 rfl (fun q5 => ?_) (fun q5 => ?_)
    · replace h := h.1 q5
      refine s_iconst (v := 0) (pc := 37) dX8_neverNow_37 rfl ?_
      refine s_ior (pc := 38) dX8_neverNow_38 ?_
      refine s_istore_n (L' := [(1, .int (x1 ||| 0)), (0, .ref 53), (2, .int x2)]) (pc := 39) dX8_neverNow_39 rfl (Nat.le_of_ble_eq_true rfl) rfl ?_
      refine s_iinc (v := x2 + 1) (L' := [(2, .int (x2 + 1)), (1, .int (x1 ||| 0)), (0, .ref 53)]) 2 (pc := 40) dX8_neverNow_40 rfl rfl (Nat.le_of_ble_eq_true rfl) rfl ?_
      refine s_goto (pc := 43) (tgt := 8) dX8_neverNow_43 rfl ?_
      exact s_sub (L' := [(0, .ref 53), (1, .int (x1 ||| 0)), (2, .int (x2 + 1))]) [2, 1, 0] rfl h
    · replace h := h.2 q5
      refine s_iconst (v := 1) (pc := 31) dX8_neverNow_31 rfl ?_
      refine s_iload_n 2 (pc := 32) dX8_neverNow_32 rfl rfl ?_
      refine s_ishl (pc := 33) dX8_neverNow_33 ?_
      refine s_goto (pc := 34) (tgt := 38) dX8_neverNow_34 rfl ?_
      refine s_ior (pc := 38) dX8_neverNow_38 ?_
      refine s_istore_n (L' := [(1, .int (x1 ||| (1 <<< (x2 &&& 31)))), (0, .ref 53), (2, .int x2)]) (pc := 39) dX8_neverNow_39 rfl (Nat.le_of_ble_eq_true rfl) rfl ?_
      refine s_iinc (v := x2 + 1) (L' := [(2, .int (x2 + 1)), (1, .int (x1 ||| (1 <<< (x2 &&& 31)))), (0, .ref 53)]) 2 (pc := 40) dX8_neverNow_40 rfl rfl (Nat.le_of_ble_eq_true rfl) rfl ?_
      refine s_goto (pc := 43) (tgt := 8) dX8_neverNow_43 rfl ?_
      exact s_sub (L' := [(0, .ref 53), (1, .int (x1 ||| (1 <<< (x2 &&& 31)))), (2, .int (x2 + 1))]) [2, 1, 0] rfl h
set_option maxRecDepth 10000 in
set_option maxHeartbeats 4000000 in
theorem tX8_never_0 {E : Ev}  {σ : Hp} {Φ : Option Value → Hp → Prop}  (h : ∃ (r3 : Int32) (σ1 : Hp), Call E mX8_neverNow [.ref 53] σ (some (.int r3)) σ1 ∧ Φ (some (.int r3)) σ1) : Ru E mX8_never 0 [(0, .ref 53)] [] σ Φ := by
  refine s_aload_n 0 (pc := 0) dX8_never_0 rfl rfl ?_
  obtain ⟨r3, σ1, hk2, h⟩ := h
  refine s_callV (S := []) [] (pc := 1) dX8_never_1 mv_X8_neverNow ml_X8_297 ⟨Nat.le_of_ble_eq_true rfl, Nat.le_of_ble_eq_true rfl⟩ rfl rfl ly53 rfl rfl (Nat.le_of_ble_eq_true rfl) hk2 ?_
  exact s_ret (r := some (.int r3)) ⟨dX8_never_4, fun ty e => by cases e; rfl⟩ rfl h
set_option maxRecDepth 10000 in
set_option maxHeartbeats 4000000 in
theorem tX8_wideBy_0 {E : Ev} {x1 : Int32} {σ : Hp} {Φ : Option Value → Hp → Prop}  (h : ∃ σ1 : Hp, Call E mX8_asTold [.ref 53] σ none σ1 ∧ vp_in x1 9 ∧ Ru E mX8_wideBy 16 [(0, .ref 53), (1, .int x1), (2, .int (σ1 57 ((x1).toNatClampNeg))), (3, .int 0), (4, .int 0)] [] σ1 Φ) : Ru E mX8_wideBy 0 [(0, .ref 53), (1, .int x1)] [] σ Φ := by
  refine s_aload_n 0 (pc := 0) dX8_wideBy_0 rfl rfl ?_
  obtain ⟨σ1, hk2, h⟩ := h
  refine s_callV (S := []) [] (pc := 1) dX8_wideBy_1 mv_X8_asTold ml_X8_213 ⟨Nat.le_of_ble_eq_true rfl, Nat.le_of_ble_eq_true rfl⟩ rfl rfl ly53 rfl rfl (Nat.le_of_ble_eq_true rfl) hk2 ?_
  refine s_aload_n 0 (pc := 4) dX8_wideBy_4 rfl rfl ?_
  refine s_getR (q := 57) (pc := 5) dX8_wideBy_5 fl_X8_19 ly53 rfl ?_
  refine s_iload_n 1 (pc := 8) dX8_wideBy_8 rfl rfl ?_
  have hv3 := h.1
  replace h := h.2
  refine s_iald (pc := 9) dX8_wideBy_9 ly57 hv3 ?_
  refine s_istore_n (L' := [(2, .int (σ1 57 ((x1).toNatClampNeg))), (0, .ref 53), (1, .int x1)]) (pc := 10) dX8_wideBy_10 rfl (Nat.le_of_ble_eq_true rfl) rfl ?_
  refine s_iconst (v := 0) (pc := 11) dX8_wideBy_11 rfl ?_
  refine s_istore_n (L' := [(3, .int 0), (2, .int (σ1 57 ((x1).toNatClampNeg))), (0, .ref 53), (1, .int x1)]) (pc := 12) dX8_wideBy_12 rfl (Nat.le_of_ble_eq_true rfl) rfl ?_
  refine s_iconst (v := 0) (pc := 13) dX8_wideBy_13 rfl ?_
  refine s_istore (L' := [(4, .int 0), (3, .int 0), (2, .int (σ1 57 ((x1).toNatClampNeg))), (0, .ref 53), (1, .int x1)]) (pc := 14) dX8_wideBy_14 (Nat.le_of_ble_eq_true rfl) rfl ?_
  exact s_sub (L' := [(0, .ref 53), (1, .int x1), (2, .int (σ1 57 ((x1).toNatClampNeg))), (3, .int 0), (4, .int 0)]) [3, 4, 2, 1, 0] rfl h
set_option maxRecDepth 10000 in
set_option maxHeartbeats 4000000 in
theorem tX8_wideBy_16 {E : Ev} {x1 : Int32} {x2 : Int32} {x3 : Int32} {x4 : Int32} {σ : Hp} {Φ : Option Value → Hp → Prop}  (h : ((10 ≤ x4 → vp_in x1 9 ∧ Φ (some (.int x3)) (up σ 57 ((x1).toNatClampNeg) x2)) ∧ (¬ 10 ≤ x4 → vp_in x1 9 ∧ ∃ (r6 : Int32) (σ4 : Hp), Call E mX8_isSeen [.ref 53] (up σ 57 ((x1).toNatClampNeg) x4) (some (.int r6)) σ4 ∧ ((r6 = 0 → Ru E mX8_wideBy 52 [(0, .ref 53), (1, .int x1), (2, .int x2), (3, .int (x3 ||| 0)), (4, .int x4), (5, .int 0)] [] σ4 Φ) ∧ (¬ r6 = 0 → Ru E mX8_wideBy 52 [(0, .ref 53), (1, .int x1), (2, .int x2), (3, .int (x3 ||| (1 <<< (x4 &&& 31)))), (4, .int x4), (5, .int 0)] [] σ4 Φ))))) : Ru E mX8_wideBy 16 [(0, .ref 53), (1, .int x1), (2, .int x2), (3, .int x3), (4, .int x4)] [] σ Φ := by
  refine s_iload 4 (pc := 16) dX8_wideBy_16 rfl ?_
  refine s_bipush (v := 10) (pc := 18) dX8_wideBy_18 rfl ?_
  refine s_icmp_ge (pc := 20) (tgt := 111) dX8_wideBy_20 rfl (fun q1 => ?_) (fun q1 => ?_)
  · replace h := h.1 q1
    refine s_aload_n 0 (pc := 111) dX8_wideBy_111 rfl rfl ?_
    refine s_getR (q := 57) (pc := 112) dX8_wideBy_112 fl_X8_19 ly53 rfl ?_
    refine s_iload_n 1 (pc := 115) dX8_wideBy_115 rfl rfl ?_
    refine s_iload_n 2 (pc := 116) dX8_wideBy_116 rfl rfl ?_
    have hv2 := h.1
    replace h := h.2
    refine s_iast (pc := 117) dX8_wideBy_117 ly57 hv2 ?_
    refine s_iload_n 3 (pc := 118) dX8_wideBy_118 rfl rfl ?_
    exact s_ret (r := some (.int x3)) ⟨dX8_wideBy_119, fun ty e => by cases e; rfl⟩ rfl h
  · replace h := h.2 q1
    refine s_aload_n 0 (pc := 23) dX8_wideBy_23 rfl rfl ?_
    refine s_getR (q := 57) (pc := 24) dX8_wideBy_24 fl_X8_19 ly53 rfl ?_
    refine s_iload_n 1 (pc := 27) dX8_wideBy_27 rfl rfl ?_
    refine s_iload 4 (pc := 28) dX8_wideBy_28 rfl ?_
    have hv3 := h.1
    replace h := h.2
    refine s_iast (pc := 30) dX8_wideBy_30 ly57 hv3 ?_
    refine s_iload_n 3 (pc := 31) dX8_wideBy_31 rfl rfl ?_
    refine s_aload_n 0 (pc := 32) dX8_wideBy_32 rfl rfl ?_
    obtain ⟨r6, σ4, hk5, h⟩ := h
    refine s_callV (S := [.int x3]) [] (pc := 33) dX8_wideBy_33 mv_X8_isSeen ml_X8_293 ⟨Nat.le_of_ble_eq_true rfl, Nat.le_of_ble_eq_true rfl⟩ rfl rfl ly53 rfl rfl (Nat.le_of_ble_eq_true rfl) hk5 ?_
    refine s_if_eq (pc := 36) (tgt := 46) dX8_wideBy_36 rfl (fun q7 => ?_) (fun q7 => ?_)
    · replace h := h.1 q7
      refine s_iconst (v := 0) (pc := 46) dX8_wideBy_46 rfl ?_
      refine s_ior (pc := 47) dX8_wideBy_47 ?_
      refine s_istore_n (L' := [(3, .int (x3 ||| 0)), (0, .ref 53), (1, .int x1), (2, .int x2), (4, .int x4)]) (pc := 48) dX8_wideBy_48 rfl (Nat.le_of_ble_eq_true rfl) rfl ?_
      refine s_iconst (v := 0) (pc := 49) dX8_wideBy_49 rfl ?_
      refine s_istore (L' := [(5, .int 0), (3, .int (x3 ||| 0)), (0, .ref 53), (1, .int x1), (2, .int x2), (4, .int x4)]) (pc := 50) dX8_wideBy_50 (Nat.le_of_ble_eq_true rfl) rfl ?_
      exact s_sub (L' := [(0, .ref 53), (1, .int x1), (2, .int x2), (3, .int (x3 ||| 0)), (4, .int x4), (5, .int 0)]) [2, 3, 4, 1, 5, 0] rfl h
    · replace h := h.2 q7
      refine s_iconst (v := 1) (pc := 39) dX8_wideBy_39 rfl ?_
      refine s_iload 4 (pc := 40) dX8_wideBy_40 rfl ?_
      refine s_ishl (pc := 42) dX8_wideBy_42 ?_
      refine s_goto (pc := 43) (tgt := 47) dX8_wideBy_43 rfl ?_
      refine s_ior (pc := 47) dX8_wideBy_47 ?_
      refine s_istore_n (L' := [(3, .int (x3 ||| (1 <<< (x4 &&& 31)))), (0, .ref 53), (1, .int x1), (2, .int x2), (4, .int x4)]) (pc := 48) dX8_wideBy_48 rfl (Nat.le_of_ble_eq_true rfl) rfl ?_
      refine s_iconst (v := 0) (pc := 49) dX8_wideBy_49 rfl ?_
      refine s_istore (L' := [(5, .int 0), (3, .int (x3 ||| (1 <<< (x4 &&& 31)))), (0, .ref 53), (1, .int x1), (2, .int x2), (4, .int x4)]) (pc := 50) dX8_wideBy_50 (Nat.le_of_ble_eq_true rfl) rfl ?_
      exact s_sub (L' := [(0, .ref 53), (1, .int x1), (2, .int x2), (3, .int (x3 ||| (1 <<< (x4 &&& 31)))), (4, .int x4), (5, .int 0)]) [2, 3, 4, 1, 5, 0] rfl h
set_option maxRecDepth 10000 in
set_option maxHeartbeats 4000000 in
theorem tX8_wideBy_52 {E : Ev} {x1 : Int32} {x2 : Int32} {x3 : Int32} {x4 : Int32} {x5 : Int32} {σ : Hp} {Φ : Option Value → Hp → Prop}  (h : ((20 ≤ x5 → Ru E mX8_wideBy 16 [(0, .ref 53), (1, .int x1), (2, .int x2), (3, .int x3), (4, .int (x4 + 1))] [] σ Φ) ∧ (¬ 20 ≤ x5 → ∃ (r4 : Int32) (σ2 : Hp), Call E mX8_legXAt [.ref 53, .int ((8 * x5) + x1)] σ (some (.int r4)) σ2 ∧ ∃ (r7 : Int32) (σ5 : Hp), Call E mX8_legYAt [.ref 53, .int ((8 * x5) + x1)] σ2 (some (.int r7)) σ5 ∧ vp_in ((20 * x4) + x5) 200 ∧ Ru E mX8_wideBy 52 [(0, .ref 53), (1, .int x1), (2, .int x2), (3, .int x3), (4, .int x4), (5, .int (x5 + 1))] [] (up σ5 85 (((20 * x4) + x5).toNatClampNeg) ((1000 * r4) + r7)) Φ))) : Ru E mX8_wideBy 52 [(0, .ref 53), (1, .int x1), (2, .int x2), (3, .int x3), (4, .int x4), (5, .int x5)] [] σ Φ := by
  refine s_iload 5 (pc := 52) dX8_wideBy_52 rfl ?_
  refine s_bipush (v := 20) (pc := 54) dX8_wideBy_54 rfl ?_
  refine s_icmp_ge (pc := 56) (tgt := 105) dX8_wideBy_56 rfl (fun q1 => ?_) (fun q1 => ?_)
  · replace h := h.1 q1
    refine s_iinc (v := x4 + 1) (L' := [(4, .int (x4 + 1)), (0, .ref 53), (1, .int x1), (2, .int x2), (3, .int x3), (5, .int x5)]) 4 (pc := 105) dX8_wideBy_105 rfl rfl (Nat.le_of_ble_eq_true rfl) rfl ?_
    refine s_goto (pc := 108) (tgt := 16) dX8_wideBy_108 rfl ?_
    exact s_sub (L' := [(0, .ref 53), (1, .int x1), (2, .int x2), (3, .int x3), (4, .int (x4 + 1))]) [1, 2, 3, 4, 0] rfl h
  · replace h := h.2 q1
    refine s_aload_n 0 (pc := 59) dX8_wideBy_59 rfl rfl ?_
    refine s_getR (q := 85) (pc := 60) dX8_wideBy_60 fl_X8_103 ly53 rfl ?_
    refine s_bipush (v := 20) (pc := 63) dX8_wideBy_63 rfl ?_
    refine s_iload 4 (pc := 65) dX8_wideBy_65 rfl ?_
    refine s_imul (pc := 67) dX8_wideBy_67 ?_
    refine s_iload 5 (pc := 68) dX8_wideBy_68 rfl ?_
    refine s_iadd (pc := 70) dX8_wideBy_70 ?_
    refine s_sipush (v := 1000) (pc := 71) dX8_wideBy_71 rfl ?_
    refine s_aload_n 0 (pc := 74) dX8_wideBy_74 rfl rfl ?_
    refine s_bipush (v := 8) (pc := 75) dX8_wideBy_75 rfl ?_
    refine s_iload 5 (pc := 77) dX8_wideBy_77 rfl ?_
    refine s_imul (pc := 79) dX8_wideBy_79 ?_
    refine s_iload_n 1 (pc := 80) dX8_wideBy_80 rfl rfl ?_
    refine s_iadd (pc := 81) dX8_wideBy_81 ?_
    obtain ⟨r4, σ2, hk3, h⟩ := h
    refine s_callV (S := [.int 1000, .int ((20 * x4) + x5), .ref 85]) [.int ((8 * x5) + x1)] (pc := 82) dX8_wideBy_82 mv_X8_legXAt ml_X8_225 ⟨Nat.le_of_ble_eq_true rfl, Nat.le_of_ble_eq_true rfl⟩ rfl rfl ly53 rfl rfl (Nat.le_of_ble_eq_true rfl) hk3 ?_
    refine s_imul (pc := 85) dX8_wideBy_85 ?_
    refine s_aload_n 0 (pc := 86) dX8_wideBy_86 rfl rfl ?_
    refine s_bipush (v := 8) (pc := 87) dX8_wideBy_87 rfl ?_
    refine s_iload 5 (pc := 89) dX8_wideBy_89 rfl ?_
    refine s_imul (pc := 91) dX8_wideBy_91 ?_
    refine s_iload_n 1 (pc := 92) dX8_wideBy_92 rfl rfl ?_
    refine s_iadd (pc := 93) dX8_wideBy_93 ?_
    obtain ⟨r7, σ5, hk6, h⟩ := h
    refine s_callV (S := [.int (1000 * r4), .int ((20 * x4) + x5), .ref 85]) [.int ((8 * x5) + x1)] (pc := 94) dX8_wideBy_94 mv_X8_legYAt ml_X8_228 ⟨Nat.le_of_ble_eq_true rfl, Nat.le_of_ble_eq_true rfl⟩ rfl rfl ly53 rfl rfl (Nat.le_of_ble_eq_true rfl) hk6 ?_
    refine s_iadd (pc := 97) dX8_wideBy_97 ?_
    have hv8 := h.1
    replace h := h.2
    refine s_iast (pc := 98) dX8_wideBy_98 ly85 hv8 ?_
    refine s_iinc (v := x5 + 1) (L' := [(5, .int (x5 + 1)), (0, .ref 53), (1, .int x1), (2, .int x2), (3, .int x3), (4, .int x4)]) 5 (pc := 99) dX8_wideBy_99 rfl rfl (Nat.le_of_ble_eq_true rfl) rfl ?_
    refine s_goto (pc := 102) (tgt := 52) dX8_wideBy_102 rfl ?_
    exact s_sub (L' := [(0, .ref 53), (1, .int x1), (2, .int x2), (3, .int x3), (4, .int x4), (5, .int (x5 + 1))]) [1, 2, 3, 4, 5, 0] rfl h
set_option maxRecDepth 10000 in
set_option maxHeartbeats 4000000 in
theorem tX8_sortsBy_0 {E : Ev} {x1 : Int32} {σ : Hp} {Φ : Option Value → Hp → Prop}  (h : ∃ σ1 : Hp, Call E mX8_asTold [.ref 53] σ none σ1 ∧ vp_in x1 9 ∧ Ru E mX8_sortsBy 16 [(0, .ref 53), (1, .int x1), (2, .int (σ1 58 ((x1).toNatClampNeg))), (3, .int 0), (4, .int 0)] [] σ1 Φ) : Ru E mX8_sortsBy 0 [(0, .ref 53), (1, .int x1)] [] σ Φ := by
  refine s_aload_n 0 (pc := 0) dX8_sortsBy_0 rfl rfl ?_
  obtain ⟨σ1, hk2, h⟩ := h
  refine s_callV (S := []) [] (pc := 1) dX8_sortsBy_1 mv_X8_asTold ml_X8_213 ⟨Nat.le_of_ble_eq_true rfl, Nat.le_of_ble_eq_true rfl⟩ rfl rfl ly53 rfl rfl (Nat.le_of_ble_eq_true rfl) hk2 ?_
  refine s_aload_n 0 (pc := 4) dX8_sortsBy_4 rfl rfl ?_
  refine s_getR (q := 58) (pc := 5) dX8_sortsBy_5 fl_X8_22 ly53 rfl ?_
  refine s_iload_n 1 (pc := 8) dX8_sortsBy_8 rfl rfl ?_
  have hv3 := h.1
  replace h := h.2
  refine s_iald (pc := 9) dX8_sortsBy_9 ly58 hv3 ?_
  refine s_istore_n (L' := [(2, .int (σ1 58 ((x1).toNatClampNeg))), (0, .ref 53), (1, .int x1)]) (pc := 10) dX8_sortsBy_10 rfl (Nat.le_of_ble_eq_true rfl) rfl ?_
  refine s_iconst (v := 0) (pc := 11) dX8_sortsBy_11 rfl ?_
  refine s_istore_n (L' := [(3, .int 0), (2, .int (σ1 58 ((x1).toNatClampNeg))), (0, .ref 53), (1, .int x1)]) (pc := 12) dX8_sortsBy_12 rfl (Nat.le_of_ble_eq_true rfl) rfl ?_
  refine s_iconst (v := 0) (pc := 13) dX8_sortsBy_13 rfl ?_
  refine s_istore (L' := [(4, .int 0), (3, .int 0), (2, .int (σ1 58 ((x1).toNatClampNeg))), (0, .ref 53), (1, .int x1)]) (pc := 14) dX8_sortsBy_14 (Nat.le_of_ble_eq_true rfl) rfl ?_
  exact s_sub (L' := [(0, .ref 53), (1, .int x1), (2, .int (σ1 58 ((x1).toNatClampNeg))), (3, .int 0), (4, .int 0)]) [3, 4, 2, 1, 0] rfl h
set_option maxRecDepth 10000 in
set_option maxHeartbeats 4000000 in
theorem tX8_sortsBy_16 {E : Ev} {x1 : Int32} {x2 : Int32} {x3 : Int32} {x4 : Int32} {σ : Hp} {Φ : Option Value → Hp → Prop}  (h : ((3 ≤ x4 → vp_in x1 9 ∧ Φ (some (.int x3)) (up σ 58 ((x1).toNatClampNeg) x2)) ∧ (¬ 3 ≤ x4 → vp_in x1 9 ∧ ∃ (r6 : Int32) (σ4 : Hp), Call E mX8_isSeen [.ref 53] (up σ 58 ((x1).toNatClampNeg) x4) (some (.int r6)) σ4 ∧ ((r6 = 0 → Ru E mX8_sortsBy 16 [(0, .ref 53), (1, .int x1), (2, .int x2), (3, .int (x3 ||| 0)), (4, .int (x4 + 1))] [] σ4 Φ) ∧ (¬ r6 = 0 → Ru E mX8_sortsBy 16 [(0, .ref 53), (1, .int x1), (2, .int x2), (3, .int (x3 ||| (1 <<< (x4 &&& 31)))), (4, .int (x4 + 1))] [] σ4 Φ))))) : Ru E mX8_sortsBy 16 [(0, .ref 53), (1, .int x1), (2, .int x2), (3, .int x3), (4, .int x4)] [] σ Φ := by
  refine s_iload 4 (pc := 16) dX8_sortsBy_16 rfl ?_
  refine s_iconst (v := 3) (pc := 18) dX8_sortsBy_18 rfl ?_
  refine s_icmp_ge (pc := 19) (tgt := 54) dX8_sortsBy_19 rfl (fun q1 => ?_) (fun q1 => ?_)
  · replace h := h.1 q1
    refine s_aload_n 0 (pc := 54) dX8_sortsBy_54 rfl rfl ?_
    refine s_getR (q := 58) (pc := 55) dX8_sortsBy_55 fl_X8_22 ly53 rfl ?_
    refine s_iload_n 1 (pc := 58) dX8_sortsBy_58 rfl rfl ?_
    refine s_iload_n 2 (pc := 59) dX8_sortsBy_59 rfl rfl ?_
    have hv2 := h.1
    replace h := h.2
    refine s_iast (pc := 60) dX8_sortsBy_60 ly58 hv2 ?_
    refine s_iload_n 3 (pc := 61) dX8_sortsBy_61 rfl rfl ?_
    exact s_ret (r := some (.int x3)) ⟨dX8_sortsBy_62, fun ty e => by cases e; rfl⟩ rfl h
  · replace h := h.2 q1
    refine s_aload_n 0 (pc := 22) dX8_sortsBy_22 rfl rfl ?_
    refine s_getR (q := 58) (pc := 23) dX8_sortsBy_23 fl_X8_22 ly53 rfl ?_
    refine s_iload_n 1 (pc := 26) dX8_sortsBy_26 rfl rfl ?_
    refine s_iload 4 (pc := 27) dX8_sortsBy_27 rfl ?_
    have hv3 := h.1
    replace h := h.2
    refine s_iast (pc := 29) dX8_sortsBy_29 ly58 hv3 ?_
    refine s_iload_n 3 (pc := 30) dX8_sortsBy_30 rfl rfl ?_
    refine s_aload_n 0 (pc := 31) dX8_sortsBy_31 rfl rfl ?_
    obtain ⟨r6, σ4, hk5, h⟩ := h
    refine s_callV (S := [.int x3]) [] (pc := 32) dX8_sortsBy_32 mv_X8_isSeen ml_X8_293 ⟨Nat.le_of_ble_eq_true rfl, Nat.le_of_ble_eq_true rfl⟩ rfl rfl ly53 rfl rfl (Nat.le_of_ble_eq_true rfl) hk5 ?_
    refine s_if_eq (pc := 35) (tgt := 45) dX8_sortsBy_35 rfl (fun q7 => ?_) (fun q7 => ?_)
    · replace h := h.1 q7
      refine s_iconst (v := 0) (pc := 45) dX8_sortsBy_45 rfl ?_
      refine s_ior (pc := 46) dX8_sortsBy_46 ?_
      refine s_istore_n (L' := [(3, .int (x3 ||| 0)), (0, .ref 53), (1, .int x1), (2, .int x2), (4, .int x4)]) (pc := 47) dX8_sortsBy_47 rfl (Nat.le_of_ble_eq_true rfl) rfl ?_
      refine s_iinc (v := x4 + 1) (L' := [(4, .int (x4 + 1)), (3, .int (x3 ||| 0)), (0, .ref 53), (1, .int x1), (2, .int x2)]) 4 (pc := 48) dX8_sortsBy_48 rfl rfl (Nat.le_of_ble_eq_true rfl) rfl ?_
      refine s_goto (pc := 51) (tgt := 16) dX8_sortsBy_51 rfl ?_
      exact s_sub (L' := [(0, .ref 53), (1, .int x1), (2, .int x2), (3, .int (x3 ||| 0)), (4, .int (x4 + 1))]) [2, 3, 4, 1, 0] rfl h
    · replace h := h.2 q7
      refine s_iconst (v := 1) (pc := 38) dX8_sortsBy_38 rfl ?_
      refine s_iload 4 (pc := 39) dX8_sortsBy_39 rfl ?_
      refine s_ishl (pc := 41) dX8_sortsBy_41 ?_
      refine s_goto (pc := 42) (tgt := 46) dX8_sortsBy_42 rfl ?_
      refine s_ior (pc := 46) dX8_sortsBy_46 ?_
      refine s_istore_n (L' := [(3, .int (x3 ||| (1 <<< (x4 &&& 31)))), (0, .ref 53), (1, .int x1), (2, .int x2), (4, .int x4)]) (pc := 47) dX8_sortsBy_47 rfl (Nat.le_of_ble_eq_true rfl) rfl ?_
      refine s_iinc (v := x4 + 1) (L' := [(4, .int (x4 + 1)), (3, .int (x3 ||| (1 <<< (x4 &&& 31)))), (0, .ref 53), (1, .int x1), (2, .int x2)]) 4 (pc := 48) dX8_sortsBy_48 rfl rfl (Nat.le_of_ble_eq_true rfl) rfl ?_
      refine s_goto (pc := 51) (tgt := 16) dX8_sortsBy_51 rfl ?_
      exact s_sub (L' := [(0, .ref 53), (1, .int x1), (2, .int x2), (3, .int (x3 ||| (1 <<< (x4 &&& 31)))), (4, .int (x4 + 1))]) [2, 3, 4, 1, 0] rfl h
set_option maxRecDepth 10000 in
set_option maxHeartbeats 4000000 in
theorem tX8_was_0 {E : Ev} {x1 : Int32} {x2 : Int32} {σ : Hp} {Φ : Option Value → Hp → Prop}  (h : ∃ (r3 : Int32) (σ1 : Hp), Call E mX8_isCouple [.ref 53, .int x1] σ (some (.int r3)) σ1 ∧ ((r3 = 0 → Φ (some (.int (-2))) σ1) ∧ (¬ r3 = 0 → ∃ (r7 : Int32) (σ5 : Hp), Call E mX8_in [.int x2, .int 0, .int 1] σ1 (some (.int r7)) σ5 ∧ ((r7 = 0 → Φ (some (.int (-2))) σ5) ∧ (¬ r7 = 0 → ((¬ x2 = 0 → ∃ (r12 : Int32) (σ10 : Hp), Call E mX8_sortsBy [.ref 53, .int x1] σ5 (some (.int r12)) σ10 ∧ Φ (some (.int r12)) σ10) ∧ (x2 = 0 → ∃ (r15 : Int32) (σ13 : Hp), Call E mX8_wideBy [.ref 53, .int x1] σ5 (some (.int r15)) σ13 ∧ Φ (some (.int r15)) σ13))))))) : Ru E mX8_was 0 [(0, .ref 53), (1, .int x1), (2, .int x2)] [] σ Φ := by
  refine s_aload_n 0 (pc := 0) dX8_was_0 rfl rfl ?_
  refine s_iload_n 1 (pc := 1) dX8_was_1 rfl rfl ?_
  obtain ⟨r3, σ1, hk2, h⟩ := h
  refine s_callV (S := []) [.int x1] (pc := 2) dX8_was_2 mv_X8_isCouple ml_X8_153 ⟨Nat.le_of_ble_eq_true rfl, Nat.le_of_ble_eq_true rfl⟩ rfl rfl ly53 rfl rfl (Nat.le_of_ble_eq_true rfl) hk2 ?_
  refine s_if_eq (pc := 5) (tgt := 37) dX8_was_5 rfl (fun q4 => ?_) (fun q4 => ?_)
  · replace h := h.1 q4
    refine s_bipush (v := (-2)) (pc := 37) dX8_was_37 rfl ?_
    exact s_ret (r := some (.int (-2))) ⟨dX8_was_39, fun ty e => by cases e; rfl⟩ rfl h
  · replace h := h.2 q4
    refine s_iload_n 2 (pc := 8) dX8_was_8 rfl rfl ?_
    refine s_iconst (v := 0) (pc := 9) dX8_was_9 rfl ?_
    refine s_iconst (v := 1) (pc := 10) dX8_was_10 rfl ?_
    obtain ⟨r7, σ5, hk6, h⟩ := h
    refine s_callS (S := []) [.int x2, .int 0, .int 1] (pc := 11) dX8_was_11 ms_X8_in ml_X8_124 ⟨Nat.le_of_ble_eq_true rfl, Nat.le_of_ble_eq_true rfl⟩ rfl rfl (Nat.le_of_ble_eq_true rfl) hk6 ?_
    refine s_if_eq (pc := 14) (tgt := 37) dX8_was_14 rfl (fun q8 => ?_) (fun q8 => ?_)
    · replace h := h.1 q8
      refine s_bipush (v := (-2)) (pc := 37) dX8_was_37 rfl ?_
      exact s_ret (r := some (.int (-2))) ⟨dX8_was_39, fun ty e => by cases e; rfl⟩ rfl h
    · replace h := h.2 q8
      refine s_iload_n 2 (pc := 17) dX8_was_17 rfl rfl ?_
      refine s_if_ne (pc := 18) (tgt := 29) dX8_was_18 rfl (fun q9 => ?_) (fun q9 => ?_)
      · replace h := h.1 q9
        refine s_aload_n 0 (pc := 29) dX8_was_29 rfl rfl ?_
        refine s_iload_n 1 (pc := 30) dX8_was_30 rfl rfl ?_
        obtain ⟨r12, σ10, hk11, h⟩ := h
        refine s_callV (S := []) [.int x1] (pc := 31) dX8_was_31 mv_X8_sortsBy ml_X8_303 ⟨Nat.le_of_ble_eq_true rfl, Nat.le_of_ble_eq_true rfl⟩ rfl rfl ly53 rfl rfl (Nat.le_of_ble_eq_true rfl) hk11 ?_
        refine s_goto (pc := 34) (tgt := 39) dX8_was_34 rfl ?_
        exact s_ret (r := some (.int r12)) ⟨dX8_was_39, fun ty e => by cases e; rfl⟩ rfl h
      · replace h := h.2 q9
        refine s_aload_n 0 (pc := 21) dX8_was_21 rfl rfl ?_
        refine s_iload_n 1 (pc := 22) dX8_was_22 rfl rfl ?_
        obtain ⟨r15, σ13, hk14, h⟩ := h
        refine s_callV (S := []) [.int x1] (pc := 23) dX8_was_23 mv_X8_wideBy ml_X8_300 ⟨Nat.le_of_ble_eq_true rfl, Nat.le_of_ble_eq_true rfl⟩ rfl rfl ly53 rfl rfl (Nat.le_of_ble_eq_true rfl) hk14 ?_
        refine s_goto (pc := 26) (tgt := 39) dX8_was_26 rfl ?_
        exact s_ret (r := some (.int r15)) ⟨dX8_was_39, fun ty e => by cases e; rfl⟩ rfl h
set_option maxRecDepth 10000 in
set_option maxHeartbeats 4000000 in
theorem tX8_askOf_0 {E : Ev} {x1 : Int32} {σ : Hp} {Φ : Option Value → Hp → Prop}  (h : ∃ (r3 : Int32) (σ1 : Hp), Call E mX8_wideBy [.ref 53, .int x1] σ (some (.int r3)) σ1 ∧ Ru E mX8_askOf 14 [(0, .ref 53), (1, .int x1), (2, .int r3), (3, .int (-1)), (4, .int 0), (5, .int 0)] [] σ1 Φ) : Ru E mX8_askOf 0 [(0, .ref 53), (1, .int x1)] [] σ Φ := by
  refine s_aload_n 0 (pc := 0) dX8_askOf_0 rfl rfl ?_
  refine s_iload_n 1 (pc := 1) dX8_askOf_1 rfl rfl ?_
  obtain ⟨r3, σ1, hk2, h⟩ := h
  refine s_callV (S := []) [.int x1] (pc := 2) dX8_askOf_2 mv_X8_wideBy ml_X8_300 ⟨Nat.le_of_ble_eq_true rfl, Nat.le_of_ble_eq_true rfl⟩ rfl rfl ly53 rfl rfl (Nat.le_of_ble_eq_true rfl) hk2 ?_
  refine s_istore_n (L' := [(2, .int r3), (0, .ref 53), (1, .int x1)]) (pc := 5) dX8_askOf_5 rfl (Nat.le_of_ble_eq_true rfl) rfl ?_
  refine s_iconst (v := (-1)) (pc := 6) dX8_askOf_6 rfl ?_
  refine s_istore_n (L' := [(3, .int (-1)), (2, .int r3), (0, .ref 53), (1, .int x1)]) (pc := 7) dX8_askOf_7 rfl (Nat.le_of_ble_eq_true rfl) rfl ?_
  refine s_iconst (v := 0) (pc := 8) dX8_askOf_8 rfl ?_
  refine s_istore (L' := [(4, .int 0), (3, .int (-1)), (2, .int r3), (0, .ref 53), (1, .int x1)]) (pc := 9) dX8_askOf_9 (Nat.le_of_ble_eq_true rfl) rfl ?_
  refine s_iconst (v := 0) (pc := 11) dX8_askOf_11 rfl ?_
  refine s_istore (L' := [(5, .int 0), (4, .int 0), (3, .int (-1)), (2, .int r3), (0, .ref 53), (1, .int x1)]) (pc := 12) dX8_askOf_12 (Nat.le_of_ble_eq_true rfl) rfl ?_
  exact s_sub (L' := [(0, .ref 53), (1, .int x1), (2, .int r3), (3, .int (-1)), (4, .int 0), (5, .int 0)]) [4, 5, 3, 2, 1, 0] rfl h
set_option maxRecDepth 10000 in
set_option maxHeartbeats 4000000 in
theorem tX8_askOf_14 {E : Ev} {x1 : Int32} {x2 : Int32} {x3 : Int32} {x4 : Int32} {x5 : Int32} {σ : Hp} {Φ : Option Value → Hp → Prop}  (h : ((20 ≤ x5 → Φ (some (.int x3)) σ) ∧ (¬ 20 ≤ x5 → Ru E mX8_askOf 27 [(0, .ref 53), (1, .int x1), (2, .int x2), (3, .int x3), (4, .int x4), (5, .int x5), (6, .int 0), (7, .int 0)] [] σ Φ))) : Ru E mX8_askOf 14 [(0, .ref 53), (1, .int x1), (2, .int x2), (3, .int x3), (4, .int x4), (5, .int x5)] [] σ Φ := by
  refine s_iload 5 (pc := 14) dX8_askOf_14 rfl ?_
  refine s_bipush (v := 20) (pc := 16) dX8_askOf_16 rfl ?_
  refine s_icmp_ge (pc := 18) (tgt := 183) dX8_askOf_18 rfl (fun q1 => ?_) (fun q1 => ?_)
  · replace h := h.1 q1
    refine s_iload_n 3 (pc := 183) dX8_askOf_183 rfl rfl ?_
    exact s_ret (r := some (.int x3)) ⟨dX8_askOf_184, fun ty e => by cases e; rfl⟩ rfl h
  · replace h := h.2 q1
    refine s_iconst (v := 0) (pc := 21) dX8_askOf_21 rfl ?_
    refine s_istore (L' := [(6, .int 0), (0, .ref 53), (1, .int x1), (2, .int x2), (3, .int x3), (4, .int x4), (5, .int x5)]) (pc := 22) dX8_askOf_22 (Nat.le_of_ble_eq_true rfl) rfl ?_
    refine s_iconst (v := 0) (pc := 24) dX8_askOf_24 rfl ?_
    refine s_istore (L' := [(7, .int 0), (6, .int 0), (0, .ref 53), (1, .int x1), (2, .int x2), (3, .int x3), (4, .int x4), (5, .int x5)]) (pc := 25) dX8_askOf_25 (Nat.le_of_ble_eq_true rfl) rfl ?_
    exact s_sub (L' := [(0, .ref 53), (1, .int x1), (2, .int x2), (3, .int x3), (4, .int x4), (5, .int x5), (6, .int 0), (7, .int 0)]) [2, 3, 4, 5, 6, 7, 1, 0] rfl h
set_option maxRecDepth 10000 in
set_option maxHeartbeats 4000000 in
theorem tX8_askOf_27 {E : Ev} {x1 : Int32} {x2 : Int32} {x3 : Int32} {x4 : Int32} {x5 : Int32} {x6 : Int32} {x7 : Int32} {σ : Hp} {Φ : Option Value → Hp → Prop}  (h : ((10 ≤ x7 → ((x3 = (-1) → Ru E mX8_askOf 149 [(0, .ref 53), (1, .int x1), (2, .int x2), (3, .int x3), (4, .int x4), (5, .int x5), (6, .int x6), (7, .int x7)] [.int 1] σ Φ) ∧ (¬ x3 = (-1) → ((x4 ≤ x6 → Ru E mX8_askOf 149 [(0, .ref 53), (1, .int x1), (2, .int x2), (3, .int x3), (4, .int x4), (5, .int x5), (6, .int x6), (7, .int x7)] [.int 0] σ Φ) ∧ (¬ x4 ≤ x6 → Ru E mX8_askOf 149 [(0, .ref 53), (1, .int x1), (2, .int x2), (3, .int x3), (4, .int x4), (5, .int x5), (6, .int x6), (7, .int x7)] [.int 1] σ Φ))))) ∧ (¬ 10 ≤ x7 → Ru E mX8_askOf 40 [(0, .ref 53), (1, .int x1), (2, .int x2), (3, .int x3), (4, .int x4), (5, .int x5), (6, .int x6), (7, .int x7), (8, .int 0), (9, .int 0)] [] σ Φ))) : Ru E mX8_askOf 27 [(0, .ref 53), (1, .int x1), (2, .int x2), (3, .int x3), (4, .int x4), (5, .int x5), (6, .int x6), (7, .int x7)] [] σ Φ := by
  refine s_iload 7 (pc := 27) dX8_askOf_27 rfl ?_
  refine s_bipush (v := 10) (pc := 29) dX8_askOf_29 rfl ?_
  refine s_icmp_ge (pc := 31) (tgt := 132) dX8_askOf_31 rfl (fun q1 => ?_) (fun q1 => ?_)
  · replace h := h.1 q1
    refine s_iload_n 3 (pc := 132) dX8_askOf_132 rfl rfl ?_
    refine s_iconst (v := (-1)) (pc := 133) dX8_askOf_133 rfl ?_
    refine s_icmp_eq (pc := 134) (tgt := 144) dX8_askOf_134 rfl (fun q2 => ?_) (fun q2 => ?_)
    · replace h := h.1 q2
      refine s_iconst (v := 1) (pc := 144) dX8_askOf_144 rfl ?_
      refine s_goto (pc := 145) (tgt := 149) dX8_askOf_145 rfl ?_
      exact s_sub (L' := [(0, .ref 53), (1, .int x1), (2, .int x2), (3, .int x3), (4, .int x4), (5, .int x5), (6, .int x6), (7, .int x7)]) [0, 1, 2, 3, 4, 5, 6, 7] rfl h
    · replace h := h.2 q2
      refine s_iload 6 (pc := 137) dX8_askOf_137 rfl ?_
      refine s_iload 4 (pc := 139) dX8_askOf_139 rfl ?_
      refine s_icmp_ge (pc := 141) (tgt := 148) dX8_askOf_141 rfl (fun q3 => ?_) (fun q3 => ?_)
      · replace h := h.1 q3
        refine s_iconst (v := 0) (pc := 148) dX8_askOf_148 rfl ?_
        exact s_sub (L' := [(0, .ref 53), (1, .int x1), (2, .int x2), (3, .int x3), (4, .int x4), (5, .int x5), (6, .int x6), (7, .int x7)]) [0, 1, 2, 3, 4, 5, 6, 7] rfl h
      · replace h := h.2 q3
        refine s_iconst (v := 1) (pc := 144) dX8_askOf_144 rfl ?_
        refine s_goto (pc := 145) (tgt := 149) dX8_askOf_145 rfl ?_
        exact s_sub (L' := [(0, .ref 53), (1, .int x1), (2, .int x2), (3, .int x3), (4, .int x4), (5, .int x5), (6, .int x6), (7, .int x7)]) [0, 1, 2, 3, 4, 5, 6, 7] rfl h
  · replace h := h.2 q1
    refine s_iconst (v := 0) (pc := 34) dX8_askOf_34 rfl ?_
    refine s_istore (L' := [(8, .int 0), (0, .ref 53), (1, .int x1), (2, .int x2), (3, .int x3), (4, .int x4), (5, .int x5), (6, .int x6), (7, .int x7)]) (pc := 35) dX8_askOf_35 (Nat.le_of_ble_eq_true rfl) rfl ?_
    refine s_iconst (v := 0) (pc := 37) dX8_askOf_37 rfl ?_
    refine s_istore (L' := [(9, .int 0), (8, .int 0), (0, .ref 53), (1, .int x1), (2, .int x2), (3, .int x3), (4, .int x4), (5, .int x5), (6, .int x6), (7, .int x7)]) (pc := 38) dX8_askOf_38 (Nat.le_of_ble_eq_true rfl) rfl ?_
    exact s_sub (L' := [(0, .ref 53), (1, .int x1), (2, .int x2), (3, .int x3), (4, .int x4), (5, .int x5), (6, .int x6), (7, .int x7), (8, .int 0), (9, .int 0)]) [2, 3, 4, 5, 6, 7, 8, 9, 1, 0] rfl h
set_option maxRecDepth 10000 in
set_option maxHeartbeats 4000000 in
theorem tX8_askOf_40 {E : Ev} {x1 : Int32} {x2 : Int32} {x3 : Int32} {x4 : Int32} {x5 : Int32} {x6 : Int32} {x7 : Int32} {x8 : Int32} {x9 : Int32} {σ : Hp} {Φ : Option Value → Hp → Prop}  (h : ((10 ≤ x9 → ((x8 ≤ x6 → Ru E mX8_askOf 27 [(0, .ref 53), (1, .int x1), (2, .int x2), (3, .int x3), (4, .int x4), (5, .int x5), (6, .int x6), (7, .int (x7 + 1))] [] σ Φ) ∧ (¬ x8 ≤ x6 → Ru E mX8_askOf 27 [(0, .ref 53), (1, .int x1), (2, .int x2), (3, .int x3), (4, .int x4), (5, .int x5), (6, .int x8), (7, .int (x7 + 1))] [] σ Φ))) ∧ (¬ 10 ≤ x9 → ∃ (r5 : Int32) (σ3 : Hp), Call E mX8_isIn [.int x2, .int x7] σ (some (.int r5)) σ3 ∧ ((r5 = 0 → Ru E mX8_askOf 40 [(0, .ref 53), (1, .int x1), (2, .int x2), (3, .int x3), (4, .int x4), (5, .int x5), (6, .int x6), (7, .int x7), (8, .int (x8 + 0)), (9, .int (x9 + 1))] [] σ3 Φ) ∧ (¬ r5 = 0 → ∃ (r9 : Int32) (σ7 : Hp), Call E mX8_isIn [.int x2, .int x9] σ3 (some (.int r9)) σ7 ∧ ((r9 = 0 → Ru E mX8_askOf 40 [(0, .ref 53), (1, .int x1), (2, .int x2), (3, .int x3), (4, .int x4), (5, .int x5), (6, .int x6), (7, .int x7), (8, .int (x8 + 0)), (9, .int (x9 + 1))] [] σ7 Φ) ∧ (¬ r9 = 0 → vp_in ((20 * x7) + x5) 200 ∧ vp_in ((20 * x9) + x5) 200 ∧ ((¬ (σ7 85 (((20 * x7) + x5).toNatClampNeg)) = (σ7 85 (((20 * x9) + x5).toNatClampNeg)) → Ru E mX8_askOf 40 [(0, .ref 53), (1, .int x1), (2, .int x2), (3, .int x3), (4, .int x4), (5, .int x5), (6, .int x6), (7, .int x7), (8, .int (x8 + 0)), (9, .int (x9 + 1))] [] σ7 Φ) ∧ ((σ7 85 (((20 * x7) + x5).toNatClampNeg)) = (σ7 85 (((20 * x9) + x5).toNatClampNeg)) → Ru E mX8_askOf 40 [(0, .ref 53), (1, .int x1), (2, .int x2), (3, .int x3), (4, .int x4), (5, .int x5), (6, .int x6), (7, .int x7), (8, .int (x8 + 1)), (9, .int (x9 + 1))] [] σ7 Φ))))))))) : Ru E mX8_askOf 40 [(0, .ref 53), (1, .int x1), (2, .int x2), (3, .int x3), (4, .int x4), (5, .int x5), (6, .int x6), (7, .int x7), (8, .int x8), (9, .int x9)] [] σ Φ := by
  refine s_iload 9 (pc := 40) dX8_askOf_40 rfl ?_
  refine s_bipush (v := 10) (pc := 42) dX8_askOf_42 rfl ?_
  refine s_icmp_ge (pc := 44) (tgt := 110) dX8_askOf_44 rfl (fun q1 => ?_) (fun q1 => ?_)
  · replace h := h.1 q1
    refine s_iload 8 (pc := 110) dX8_askOf_110 rfl ?_
    refine s_iload 6 (pc := 112) dX8_askOf_112 rfl ?_
    refine s_icmp_le (pc := 114) (tgt := 122) dX8_askOf_114 rfl (fun q2 => ?_) (fun q2 => ?_)
    · replace h := h.1 q2
      refine s_iload 6 (pc := 122) dX8_askOf_122 rfl ?_
      refine s_istore (L' := [(6, .int x6), (0, .ref 53), (1, .int x1), (2, .int x2), (3, .int x3), (4, .int x4), (5, .int x5), (7, .int x7), (8, .int x8), (9, .int x9)]) (pc := 124) dX8_askOf_124 (Nat.le_of_ble_eq_true rfl) rfl ?_
      refine s_iinc (v := x7 + 1) (L' := [(7, .int (x7 + 1)), (6, .int x6), (0, .ref 53), (1, .int x1), (2, .int x2), (3, .int x3), (4, .int x4), (5, .int x5), (8, .int x8), (9, .int x9)]) 7 (pc := 126) dX8_askOf_126 rfl rfl (Nat.le_of_ble_eq_true rfl) rfl ?_
      refine s_goto (pc := 129) (tgt := 27) dX8_askOf_129 rfl ?_
      exact s_sub (L' := [(0, .ref 53), (1, .int x1), (2, .int x2), (3, .int x3), (4, .int x4), (5, .int x5), (6, .int x6), (7, .int (x7 + 1))]) [2, 3, 4, 5, 6, 7, 1, 0] rfl h
    · replace h := h.2 q2
      refine s_iload 8 (pc := 117) dX8_askOf_117 rfl ?_
      refine s_goto (pc := 119) (tgt := 124) dX8_askOf_119 rfl ?_
      refine s_istore (L' := [(6, .int x8), (0, .ref 53), (1, .int x1), (2, .int x2), (3, .int x3), (4, .int x4), (5, .int x5), (7, .int x7), (8, .int x8), (9, .int x9)]) (pc := 124) dX8_askOf_124 (Nat.le_of_ble_eq_true rfl) rfl ?_
      refine s_iinc (v := x7 + 1) (L' := [(7, .int (x7 + 1)), (6, .int x8), (0, .ref 53), (1, .int x1), (2, .int x2), (3, .int x3), (4, .int x4), (5, .int x5), (8, .int x8), (9, .int x9)]) 7 (pc := 126) dX8_askOf_126 rfl rfl (Nat.le_of_ble_eq_true rfl) rfl ?_
      refine s_goto (pc := 129) (tgt := 27) dX8_askOf_129 rfl ?_
      exact s_sub (L' := [(0, .ref 53), (1, .int x1), (2, .int x2), (3, .int x3), (4, .int x4), (5, .int x5), (6, .int x8), (7, .int (x7 + 1))]) [2, 3, 4, 5, 6, 7, 1, 0] rfl h
  · replace h := h.2 q1
    refine s_iload 8 (pc := 47) dX8_askOf_47 rfl ?_
    refine s_iload_n 2 (pc := 49) dX8_askOf_49 rfl rfl ?_
    refine s_iload 7 (pc := 50) dX8_askOf_50 rfl ?_
    obtain ⟨r5, σ3, hk4, h⟩ := h
    refine s_callS (S := [.int x8]) [.int x2, .int x7] (pc := 52) dX8_askOf_52 ms_X8_isIn ml_X8_199 ⟨Nat.le_of_ble_eq_true rfl, Nat.le_of_ble_eq_true rfl⟩ rfl rfl (Nat.le_of_ble_eq_true rfl) hk4 ?_
    refine s_if_eq (pc := 55) (tgt := 100) dX8_askOf_55 rfl (fun q6 => ?_) (fun q6 => ?_)
    · replace h := h.1 q6
      refine s_iconst (v := 0) (pc := 100) dX8_askOf_100 rfl ?_
      refine s_iadd (pc := 101) dX8_askOf_101 ?_
      refine s_istore (L' := [(8, .int (x8 + 0)), (0, .ref 53), (1, .int x1), (2, .int x2), (3, .int x3), (4, .int x4), (5, .int x5), (6, .int x6), (7, .int x7), (9, .int x9)]) (pc := 102) dX8_askOf_102 (Nat.le_of_ble_eq_true rfl) rfl ?_
      refine s_iinc (v := x9 + 1) (L' := [(9, .int (x9 + 1)), (8, .int (x8 + 0)), (0, .ref 53), (1, .int x1), (2, .int x2), (3, .int x3), (4, .int x4), (5, .int x5), (6, .int x6), (7, .int x7)]) 9 (pc := 104) dX8_askOf_104 rfl rfl (Nat.le_of_ble_eq_true rfl) rfl ?_
      refine s_goto (pc := 107) (tgt := 40) dX8_askOf_107 rfl ?_
      exact s_sub (L' := [(0, .ref 53), (1, .int x1), (2, .int x2), (3, .int x3), (4, .int x4), (5, .int x5), (6, .int x6), (7, .int x7), (8, .int (x8 + 0)), (9, .int (x9 + 1))]) [2, 3, 4, 5, 6, 7, 8, 9, 1, 0] rfl h
    · replace h := h.2 q6
      refine s_iload_n 2 (pc := 58) dX8_askOf_58 rfl rfl ?_
      refine s_iload 9 (pc := 59) dX8_askOf_59 rfl ?_
      obtain ⟨r9, σ7, hk8, h⟩ := h
      refine s_callS (S := [.int x8]) [.int x2, .int x9] (pc := 61) dX8_askOf_61 ms_X8_isIn ml_X8_199 ⟨Nat.le_of_ble_eq_true rfl, Nat.le_of_ble_eq_true rfl⟩ rfl rfl (Nat.le_of_ble_eq_true rfl) hk8 ?_
      refine s_if_eq (pc := 64) (tgt := 100) dX8_askOf_64 rfl (fun q10 => ?_) (fun q10 => ?_)
      · replace h := h.1 q10
        refine s_iconst (v := 0) (pc := 100) dX8_askOf_100 rfl ?_
        refine s_iadd (pc := 101) dX8_askOf_101 ?_
        refine s_istore (L' := [(8, .int (x8 + 0)), (0, .ref 53), (1, .int x1), (2, .int x2), (3, .int x3), (4, .int x4), (5, .int x5), (6, .int x6), (7, .int x7), (9, .int x9)]) (pc := 102) dX8_askOf_102 (Nat.le_of_ble_eq_true rfl) rfl ?_
        refine s_iinc (v := x9 + 1) (L' := [(9, .int (x9 + 1)), (8, .int (x8 + 0)), (0, .ref 53), (1, .int x1), (2, .int x2), (3, .int x3), (4, .int x4), (5, .int x5), (6, .int x6), (7, .int x7)]) 9 (pc := 104) dX8_askOf_104 rfl rfl (Nat.le_of_ble_eq_true rfl) rfl ?_
        refine s_goto (pc := 107) (tgt := 40) dX8_askOf_107 rfl ?_
        exact s_sub (L' := [(0, .ref 53), (1, .int x1), (2, .int x2), (3, .int x3), (4, .int x4), (5, .int x5), (6, .int x6), (7, .int x7), (8, .int (x8 + 0)), (9, .int (x9 + 1))]) [2, 3, 4, 5, 6, 7, 8, 9, 1, 0] rfl h
      · replace h := h.2 q10
        refine s_aload_n 0 (pc := 67) dX8_askOf_67 rfl rfl ?_
        refine s_getR (q := 85) (pc := 68) dX8_askOf_68 fl_X8_103 ly53 rfl ?_
        refine s_bipush (v := 20) (pc := 71) dX8_askOf_71 rfl ?_
        refine s_iload 7 (pc := 73) dX8_askOf_73 rfl ?_
        refine s_imul (pc := 75) dX8_askOf_75 ?_
        refine s_iload 5 (pc := 76) dX8_askOf_76 rfl ?_
        refine s_iadd (pc := 78) dX8_askOf_78 ?_
        have hv11 := h.1
        replace h := h.2
        refine s_iald (pc := 79) dX8_askOf_79 ly85 hv11 ?_
        refine s_aload_n 0 (pc := 80) dX8_askOf_80 rfl rfl ?_
        refine s_getR (q := 85) (pc := 81) dX8_askOf_81 fl_X8_103 ly53 rfl ?_
        refine s_bipush (v := 20) (pc := 84) dX8_askOf_84 rfl ?_
        refine s_iload 9 (pc := 86) dX8_askOf_86 rfl ?_
        refine s_imul (pc := 88) dX8_askOf_88 ?_
        refine s_iload 5 (pc := 89) dX8_askOf_89 rfl ?_
        refine s_iadd (pc := 91) dX8_askOf_91 ?_
        have hv12 := h.1
        replace h := h.2
        refine s_iald (pc := 92) dX8_askOf_92 ly85 hv12 ?_
        refine s_icmp_ne (pc := 93) (tgt := 100) dX8_askOf_93 rfl (fun q13 => ?_) (fun q13 => ?_)
        · replace h := h.1 q13
          refine s_iconst (v := 0) (pc := 100) dX8_askOf_100 rfl ?_
          refine s_iadd (pc := 101) dX8_askOf_101 ?_
          refine s_istore (L' := [(8, .int (x8 + 0)), (0, .ref 53), (1, .int x1), (2, .int x2), (3, .int x3), (4, .int x4), (5, .int x5), (6, .int x6), (7, .int x7), (9, .int x9)]) (pc := 102) dX8_askOf_102 (Nat.le_of_ble_eq_true rfl) rfl ?_
          refine s_iinc (v := x9 + 1) (L' := [(9, .int (x9 + 1)), (8, .int (x8 + 0)), (0, .ref 53), (1, .int x1), (2, .int x2), (3, .int x3), (4, .int x4), (5, .int x5), (6, .int x6), (7, .int x7)]) 9 (pc := 104) dX8_askOf_104 rfl rfl (Nat.le_of_ble_eq_true rfl) rfl ?_
          refine s_goto (pc := 107) (tgt := 40) dX8_askOf_107 rfl ?_
          exact s_sub (L' := [(0, .ref 53), (1, .int x1), (2, .int x2), (3, .int x3), (4, .int x4), (5, .int x5), (6, .int x6), (7, .int x7), (8, .int (x8 + 0)), (9, .int (x9 + 1))]) [2, 3, 4, 5, 6, 7, 8, 9, 1, 0] rfl h
        · replace h := h.2 q13
          refine s_iconst (v := 1) (pc := 96) dX8_askOf_96 rfl ?_
          refine s_goto (pc := 97) (tgt := 101) dX8_askOf_97 rfl ?_
          refine s_iadd (pc := 101) dX8_askOf_101 ?_
          refine s_istore (L' := [(8, .int (x8 + 1)), (0, .ref 53), (1, .int x1), (2, .int x2), (3, .int x3), (4, .int x4), (5, .int x5), (6, .int x6), (7, .int x7), (9, .int x9)]) (pc := 102) dX8_askOf_102 (Nat.le_of_ble_eq_true rfl) rfl ?_
          refine s_iinc (v := x9 + 1) (L' := [(9, .int (x9 + 1)), (8, .int (x8 + 1)), (0, .ref 53), (1, .int x1), (2, .int x2), (3, .int x3), (4, .int x4), (5, .int x5), (6, .int x6), (7, .int x7)]) 9 (pc := 104) dX8_askOf_104 rfl rfl (Nat.le_of_ble_eq_true rfl) rfl ?_
          refine s_goto (pc := 107) (tgt := 40) dX8_askOf_107 rfl ?_
          exact s_sub (L' := [(0, .ref 53), (1, .int x1), (2, .int x2), (3, .int x3), (4, .int x4), (5, .int x5), (6, .int x6), (7, .int x7), (8, .int (x8 + 1)), (9, .int (x9 + 1))]) [2, 3, 4, 5, 6, 7, 8, 9, 1, 0] rfl h
set_option maxRecDepth 10000 in
set_option maxHeartbeats 4000000 in
theorem tX8_askOf_149 {E : Ev} {x1 : Int32} {x2 : Int32} {x3 : Int32} {x4 : Int32} {x5 : Int32} {x6 : Int32} {x7 : Int32} {xs0 : Int32} {σ : Hp} {Φ : Option Value → Hp → Prop}  (h : ((xs0 = 0 → ((xs0 = 0 → Ru E mX8_askOf 14 [(0, .ref 53), (1, .int x1), (2, .int x2), (3, .int x3), (4, .int x4), (5, .int (x5 + 1))] [] σ Φ) ∧ (¬ xs0 = 0 → Ru E mX8_askOf 14 [(0, .ref 53), (1, .int x1), (2, .int x2), (3, .int x3), (4, .int x6), (5, .int (x5 + 1))] [] σ Φ))) ∧ (¬ xs0 = 0 → ((xs0 = 0 → Ru E mX8_askOf 14 [(0, .ref 53), (1, .int x1), (2, .int x2), (3, .int x5), (4, .int x4), (5, .int (x5 + 1))] [] σ Φ) ∧ (¬ xs0 = 0 → Ru E mX8_askOf 14 [(0, .ref 53), (1, .int x1), (2, .int x2), (3, .int x5), (4, .int x6), (5, .int (x5 + 1))] [] σ Φ))))) : Ru E mX8_askOf 149 [(0, .ref 53), (1, .int x1), (2, .int x2), (3, .int x3), (4, .int x4), (5, .int x5), (6, .int x6), (7, .int x7)] [.int xs0] σ Φ := by
  refine s_istore (L' := [(7, .int xs0), (0, .ref 53), (1, .int x1), (2, .int x2), (3, .int x3), (4, .int x4), (5, .int x5), (6, .int x6)]) (pc := 149) dX8_askOf_149 (Nat.le_of_ble_eq_true rfl) rfl ?_
  refine s_iload 0 (pc := 151) dX8_askOf_151 rfl ?_
  refine s_if_eq (pc := 153) (tgt := 161) dX8_askOf_153 rfl (fun q1 => ?_) (fun q1 => ?_)
  · replace h := h.1 q1
    refine s_iload_n 4 (pc := 161) dX8_askOf_161 rfl rfl ?_
    refine s_istore_n (L' := [(3, .int x3), (7, .int xs0), (0, .ref 53), (1, .int x1), (2, .int x2), (4, .int x4), (5, .int x5), (6, .int x6)]) (pc := 162) dX8_askOf_162 rfl (Nat.le_of_ble_eq_true rfl) rfl ?_
    refine s_iload 1 (pc := 163) dX8_askOf_163 rfl ?_
    refine s_if_eq (pc := 165) (tgt := 173) dX8_askOf_165 rfl (fun q2 => ?_) (fun q2 => ?_)
    · replace h := h.1 q2
      refine s_iload 5 (pc := 173) dX8_askOf_173 rfl ?_
      refine s_istore (L' := [(4, .int x4), (3, .int x3), (7, .int xs0), (0, .ref 53), (1, .int x1), (2, .int x2), (5, .int x5), (6, .int x6)]) (pc := 175) dX8_askOf_175 (Nat.le_of_ble_eq_true rfl) rfl ?_
      refine s_iinc (v := x5 + 1) (L' := [(5, .int (x5 + 1)), (4, .int x4), (3, .int x3), (7, .int xs0), (0, .ref 53), (1, .int x1), (2, .int x2), (6, .int x6)]) 6 (pc := 177) dX8_askOf_177 rfl rfl (Nat.le_of_ble_eq_true rfl) rfl ?_
      refine s_goto (pc := 180) (tgt := 14) dX8_askOf_180 rfl ?_
      exact s_sub (L' := [(0, .ref 53), (1, .int x1), (2, .int x2), (3, .int x3), (4, .int x4), (5, .int (x5 + 1))]) [4, 5, 6, 2, 1, 0] rfl h
    · replace h := h.2 q2
      refine s_iload 7 (pc := 168) dX8_askOf_168 rfl ?_
      refine s_goto (pc := 170) (tgt := 175) dX8_askOf_170 rfl ?_
      refine s_istore (L' := [(4, .int x6), (3, .int x3), (7, .int xs0), (0, .ref 53), (1, .int x1), (2, .int x2), (5, .int x5), (6, .int x6)]) (pc := 175) dX8_askOf_175 (Nat.le_of_ble_eq_true rfl) rfl ?_
      refine s_iinc (v := x5 + 1) (L' := [(5, .int (x5 + 1)), (4, .int x6), (3, .int x3), (7, .int xs0), (0, .ref 53), (1, .int x1), (2, .int x2), (6, .int x6)]) 6 (pc := 177) dX8_askOf_177 rfl rfl (Nat.le_of_ble_eq_true rfl) rfl ?_
      refine s_goto (pc := 180) (tgt := 14) dX8_askOf_180 rfl ?_
      exact s_sub (L' := [(0, .ref 53), (1, .int x1), (2, .int x2), (3, .int x3), (4, .int x6), (5, .int (x5 + 1))]) [4, 5, 6, 2, 1, 0] rfl h
  · replace h := h.2 q1
    refine s_iload 6 (pc := 156) dX8_askOf_156 rfl ?_
    refine s_goto (pc := 158) (tgt := 162) dX8_askOf_158 rfl ?_
    refine s_istore_n (L' := [(3, .int x5), (7, .int xs0), (0, .ref 53), (1, .int x1), (2, .int x2), (4, .int x4), (5, .int x5), (6, .int x6)]) (pc := 162) dX8_askOf_162 rfl (Nat.le_of_ble_eq_true rfl) rfl ?_
    refine s_iload 1 (pc := 163) dX8_askOf_163 rfl ?_
    refine s_if_eq (pc := 165) (tgt := 173) dX8_askOf_165 rfl (fun q3 => ?_) (fun q3 => ?_)
    · replace h := h.1 q3
      refine s_iload 5 (pc := 173) dX8_askOf_173 rfl ?_
      refine s_istore (L' := [(4, .int x4), (3, .int x5), (7, .int xs0), (0, .ref 53), (1, .int x1), (2, .int x2), (5, .int x5), (6, .int x6)]) (pc := 175) dX8_askOf_175 (Nat.le_of_ble_eq_true rfl) rfl ?_
      refine s_iinc (v := x5 + 1) (L' := [(5, .int (x5 + 1)), (4, .int x4), (3, .int x5), (7, .int xs0), (0, .ref 53), (1, .int x1), (2, .int x2), (6, .int x6)]) 6 (pc := 177) dX8_askOf_177 rfl rfl (Nat.le_of_ble_eq_true rfl) rfl ?_
      refine s_goto (pc := 180) (tgt := 14) dX8_askOf_180 rfl ?_
      exact s_sub (L' := [(0, .ref 53), (1, .int x1), (2, .int x2), (3, .int x5), (4, .int x4), (5, .int (x5 + 1))]) [4, 5, 6, 2, 1, 0] rfl h
    · replace h := h.2 q3
      refine s_iload 7 (pc := 168) dX8_askOf_168 rfl ?_
      refine s_goto (pc := 170) (tgt := 175) dX8_askOf_170 rfl ?_
      refine s_istore (L' := [(4, .int x6), (3, .int x5), (7, .int xs0), (0, .ref 53), (1, .int x1), (2, .int x2), (5, .int x5), (6, .int x6)]) (pc := 175) dX8_askOf_175 (Nat.le_of_ble_eq_true rfl) rfl ?_
      refine s_iinc (v := x5 + 1) (L' := [(5, .int (x5 + 1)), (4, .int x6), (3, .int x5), (7, .int xs0), (0, .ref 53), (1, .int x1), (2, .int x2), (6, .int x6)]) 6 (pc := 177) dX8_askOf_177 rfl rfl (Nat.le_of_ble_eq_true rfl) rfl ?_
      refine s_goto (pc := 180) (tgt := 14) dX8_askOf_180 rfl ?_
      exact s_sub (L' := [(0, .ref 53), (1, .int x1), (2, .int x2), (3, .int x5), (4, .int x6), (5, .int (x5 + 1))]) [4, 5, 6, 2, 1, 0] rfl h
set_option maxRecDepth 10000 in
set_option maxHeartbeats 4000000 in
theorem tX8_ask_0 {E : Ev} {x1 : Int32} {σ : Hp} {Φ : Option Value → Hp → Prop}  (h : ∃ (r3 : Int32) (σ1 : Hp), Call E mX8_isCouple [.ref 53, .int x1] σ (some (.int r3)) σ1 ∧ ((r3 = 0 → Φ (some (.int (-2))) σ1) ∧ (¬ r3 = 0 → ∃ (r7 : Int32) (σ5 : Hp), Call E mX8_askOf [.ref 53, .int x1] σ1 (some (.int r7)) σ5 ∧ Φ (some (.int r7)) σ5))) : Ru E mX8_ask 0 [(0, .ref 53), (1, .int x1)] [] σ Φ := by
  refine s_aload_n 0 (pc := 0) dX8_ask_0 rfl rfl ?_
  refine s_iload_n 1 (pc := 1) dX8_ask_1 rfl rfl ?_
  obtain ⟨r3, σ1, hk2, h⟩ := h
  refine s_callV (S := []) [.int x1] (pc := 2) dX8_ask_2 mv_X8_isCouple ml_X8_153 ⟨Nat.le_of_ble_eq_true rfl, Nat.le_of_ble_eq_true rfl⟩ rfl rfl ly53 rfl rfl (Nat.le_of_ble_eq_true rfl) hk2 ?_
  refine s_if_eq (pc := 5) (tgt := 16) dX8_ask_5 rfl (fun q4 => ?_) (fun q4 => ?_)
  · replace h := h.1 q4
    refine s_bipush (v := (-2)) (pc := 16) dX8_ask_16 rfl ?_
    exact s_ret (r := some (.int (-2))) ⟨dX8_ask_18, fun ty e => by cases e; rfl⟩ rfl h
  · replace h := h.2 q4
    refine s_aload_n 0 (pc := 8) dX8_ask_8 rfl rfl ?_
    refine s_iload_n 1 (pc := 9) dX8_ask_9 rfl rfl ?_
    obtain ⟨r7, σ5, hk6, h⟩ := h
    refine s_callV (S := []) [.int x1] (pc := 10) dX8_ask_10 mv_X8_askOf ml_X8_306 ⟨Nat.le_of_ble_eq_true rfl, Nat.le_of_ble_eq_true rfl⟩ rfl rfl ly53 rfl rfl (Nat.le_of_ble_eq_true rfl) hk6 ?_
    refine s_goto (pc := 13) (tgt := 18) dX8_ask_13 rfl ?_
    exact s_ret (r := some (.int r7)) ⟨dX8_ask_18, fun ty e => by cases e; rfl⟩ rfl h
set_option maxRecDepth 10000 in
set_option maxHeartbeats 4000000 in
theorem tX8_gossipOf_0 {E : Ev} {x1 : Int32} {x2 : Int32} {x3 : Int32} {σ : Hp} {Φ : Option Value → Hp → Prop}  (h : ∃ σ1 : Hp, Call E mX8_asTold [.ref 53] σ none σ1 ∧ Ru E mX8_gossipOf 10 [(0, .ref 53), (1, .int x1), (2, .int x2), (3, .int x3), (4, .long 0), (6, .int 0)] [] σ1 Φ) : Ru E mX8_gossipOf 0 [(0, .ref 53), (1, .int x1), (2, .int x2), (3, .int x3)] [] σ Φ := by
  refine s_aload_n 0 (pc := 0) dX8_gossipOf_0 rfl rfl ?_
  obtain ⟨σ1, hk2, h⟩ := h
  refine s_callV (S := []) [] (pc := 1) dX8_gossipOf_1 mv_X8_asTold ml_X8_213 ⟨Nat.le_of_ble_eq_true rfl, Nat.le_of_ble_eq_true rfl⟩ rfl rfl ly53 rfl rfl (Nat.le_of_ble_eq_true rfl) hk2 ?_
  refine s_lconst (v := 0) (pc := 4) dX8_gossipOf_4 rfl ?_
  refine s_lstore (L' := [(4, .long 0), (0, .ref 53), (1, .int x1), (2, .int x2), (3, .int x3)]) (pc := 5) dX8_gossipOf_5 (Nat.le_of_ble_eq_true rfl) rfl ?_
  refine s_iconst (v := 0) (pc := 7) dX8_gossipOf_7 rfl ?_
  refine s_istore (L' := [(6, .int 0), (4, .long 0), (0, .ref 53), (1, .int x1), (2, .int x2), (3, .int x3)]) (pc := 8) dX8_gossipOf_8 (Nat.le_of_ble_eq_true rfl) rfl ?_
  exact s_sub (L' := [(0, .ref 53), (1, .int x1), (2, .int x2), (3, .int x3), (4, .long 0), (6, .int 0)]) [2, 3, 4, 5, 1, 0] rfl h
set_option maxRecDepth 10000 in
set_option maxHeartbeats 4000000 in
theorem tX8_gossipOf_10 {E : Ev} {x1 : Int32} {x2 : Int32} {x3 : Int32} {x4 : Int64} {x6 : Int32} {σ : Hp} {Φ : Option Value → Hp → Prop}  (h : (((1 <<< ((σ 53 7) &&& 31)) ≤ x6 → ∃ (r4 : Int64) (σ2 : Hp), Call E mX8_lowest [.long x4, .long (1 <<< ((Int32.toInt64 (4 * (σ 53 7))) &&& 63)), .int x3] σ (some (.long r4)) σ2 ∧ Φ (some (.long r4)) σ2) ∧ (¬ (1 <<< ((σ 53 7) &&& 31)) ≤ x6 → Ru E mX8_gossipOf 27 [(0, .ref 53), (1, .int x1), (2, .int x2), (3, .int x3), (4, .long x4), (6, .int x6), (7, .long 1), (9, .int 0)] [] σ Φ))) : Ru E mX8_gossipOf 10 [(0, .ref 53), (1, .int x1), (2, .int x2), (3, .int x3), (4, .long x4), (6, .int x6)] [] σ Φ := by
  refine s_iload 5 (pc := 10) dX8_gossipOf_10 rfl ?_
  refine s_iconst (v := 1) (pc := 12) dX8_gossipOf_12 rfl ?_
  refine s_aload_n 0 (pc := 13) dX8_gossipOf_13 rfl rfl ?_
  refine s_getI (v := σ 53 7) (pc := 14) dX8_gossipOf_14 fl_X8_166 ly53 rfl rfl ?_
  refine s_ishl (pc := 17) dX8_gossipOf_17 ?_
  refine s_icmp_ge (pc := 18) (tgt := 110) dX8_gossipOf_18 rfl (fun q1 => ?_) (fun q1 => ?_)
  · replace h := h.1 q1
    refine s_lload 4 (pc := 110) dX8_gossipOf_110 rfl ?_
    refine s_lconst (v := 1) (pc := 112) dX8_gossipOf_112 rfl ?_
    refine s_iconst (v := 4) (pc := 113) dX8_gossipOf_113 rfl ?_
    refine s_aload_n 0 (pc := 114) dX8_gossipOf_114 rfl rfl ?_
    refine s_getI (v := σ 53 7) (pc := 115) dX8_gossipOf_115 fl_X8_166 ly53 rfl rfl ?_
    refine s_imul (pc := 118) dX8_gossipOf_118 ?_
    refine s_lshl (pc := 119) dX8_gossipOf_119 ?_
    refine s_iload_n 3 (pc := 120) dX8_gossipOf_120 rfl rfl ?_
    obtain ⟨r4, σ2, hk3, h⟩ := h
    refine s_callS (S := []) [.long x4, .long (1 <<< ((Int32.toInt64 (4 * (σ 53 7))) &&& 63)), .int x3] (pc := 121) dX8_gossipOf_121 ms_X8_lowest ml_X8_309 ⟨Nat.le_of_ble_eq_true rfl, Nat.le_of_ble_eq_true rfl⟩ rfl rfl (Nat.le_of_ble_eq_true rfl) hk3 ?_
    exact s_ret (r := some (.long r4)) dX8_gossipOf_124 rfl h
  · replace h := h.2 q1
    refine s_lconst (v := 1) (pc := 21) dX8_gossipOf_21 rfl ?_
    refine s_lstore (L' := [(7, .long 1), (0, .ref 53), (1, .int x1), (2, .int x2), (3, .int x3), (4, .long x4), (6, .int x6)]) (pc := 22) dX8_gossipOf_22 (Nat.le_of_ble_eq_true rfl) rfl ?_
    refine s_iconst (v := 0) (pc := 24) dX8_gossipOf_24 rfl ?_
    refine s_istore (L' := [(9, .int 0), (7, .long 1), (0, .ref 53), (1, .int x1), (2, .int x2), (3, .int x3), (4, .long x4), (6, .int x6)]) (pc := 25) dX8_gossipOf_25 (Nat.le_of_ble_eq_true rfl) rfl ?_
    exact s_sub (L' := [(0, .ref 53), (1, .int x1), (2, .int x2), (3, .int x3), (4, .long x4), (6, .int x6), (7, .long 1), (9, .int 0)]) [2, 3, 4, 5, 6, 7, 1, 0] rfl h
set_option maxRecDepth 10000 in
set_option maxHeartbeats 4000000 in
theorem tX8_gossipOf_27 {E : Ev} {x1 : Int32} {x2 : Int32} {x3 : Int32} {x4 : Int64} {x6 : Int32} {x7 : Int64} {x9 : Int32} {σ : Hp} {Φ : Option Value → Hp → Prop}  (h : (((σ 53 7) ≤ x9 → (((lg_cmp x7 0) ≤ 0 → Ru E mX8_gossipOf 10 [(0, .ref 53), (1, .int x1), (2, .int x2), (3, .int x3), (4, .long x4), (6, .int (x6 + 1))] [] σ Φ) ∧ (¬ (lg_cmp x7 0) ≤ 0 → ∃ σ3 : Hp, Call E mX8_runs [.ref 53] (up σ 53 17 x6) none σ3 ∧ ∃ (r7 : Int32) (σ5 : Hp), Call E mX8_pairsNow [.ref 53, .int x2, .int 0] σ3 (some (.int r7)) σ5 ∧ ((r7 ≤ 0 → Ru E mX8_gossipOf 10 [(0, .ref 53), (1, .int x1), (2, .int x2), (3, .int x3), (4, .long (x4 + 0)), (6, .int (x6 + 1))] [] σ5 Φ) ∧ (¬ r7 ≤ 0 → Ru E mX8_gossipOf 10 [(0, .ref 53), (1, .int x1), (2, .int x2), (3, .int x3), (4, .long (x4 + x7)), (6, .int (x6 + 1))] [] σ5 Φ))))) ∧ (¬ (σ 53 7) ≤ x9 → ∃ (r11 : Int32) (σ9 : Hp), Call E mX8_isIn [.int x6, .int x9] σ (some (.int r11)) σ9 ∧ ((r11 = 0 → Ru E mX8_gossipOf 27 [(0, .ref 53), (1, .int x1), (2, .int x2), (3, .int x3), (4, .long x4), (6, .int x6), (7, .long (x7 * (Int32.toInt64 x1))), (9, .int (x9 + 1))] [] σ9 Φ) ∧ (¬ r11 = 0 → Ru E mX8_gossipOf 27 [(0, .ref 53), (1, .int x1), (2, .int x2), (3, .int x3), (4, .long x4), (6, .int x6), (7, .long (x7 * (Int32.toInt64 (16 - x1)))), (9, .int (x9 + 1))] [] σ9 Φ))))) : Ru E mX8_gossipOf 27 [(0, .ref 53), (1, .int x1), (2, .int x2), (3, .int x3), (4, .long x4), (6, .int x6), (7, .long x7), (9, .int x9)] [] σ Φ := by
  refine s_iload 7 (pc := 27) dX8_gossipOf_27 rfl ?_
  refine s_aload_n 0 (pc := 29) dX8_gossipOf_29 rfl rfl ?_
  refine s_getI (v := σ 53 7) (pc := 30) dX8_gossipOf_30 fl_X8_166 ly53 rfl rfl ?_
  refine s_icmp_ge (pc := 33) (tgt := 67) dX8_gossipOf_33 rfl (fun q1 => ?_) (fun q1 => ?_)
  · replace h := h.1 q1
    refine s_lload 6 (pc := 67) dX8_gossipOf_67 rfl ?_
    refine s_lconst (v := 0) (pc := 69) dX8_gossipOf_69 rfl ?_
    refine s_lcmp (pc := 70) dX8_gossipOf_70 ?_
    refine s_if_le (pc := 71) (tgt := 104) dX8_gossipOf_71 rfl (fun q2 => ?_) (fun q2 => ?_)
    · replace h := h.1 q2
      refine s_iinc (v := x6 + 1) (L' := [(6, .int (x6 + 1)), (0, .ref 53), (1, .int x1), (2, .int x2), (3, .int x3), (4, .long x4), (7, .long x7), (9, .int x9)]) 5 (pc := 104) dX8_gossipOf_104 rfl rfl (Nat.le_of_ble_eq_true rfl) rfl ?_
      refine s_goto (pc := 107) (tgt := 10) dX8_gossipOf_107 rfl ?_
      exact s_sub (L' := [(0, .ref 53), (1, .int x1), (2, .int x2), (3, .int x3), (4, .long x4), (6, .int (x6 + 1))]) [1, 2, 3, 4, 5, 0] rfl h
    · replace h := h.2 q2
      refine s_aload_n 0 (pc := 74) dX8_gossipOf_74 rfl rfl ?_
      refine s_iload 5 (pc := 75) dX8_gossipOf_75 rfl ?_
      refine s_put (ty := .int) (pc := 77) dX8_gossipOf_77 fp_X8_182 ly53 rfl rfl rfl ?_
      refine s_aload_n 0 (pc := 80) dX8_gossipOf_80 rfl rfl ?_
      obtain ⟨σ3, hk4, h⟩ := h
      refine s_callV (S := []) [] (pc := 81) dX8_gossipOf_81 mv_X8_runs ml_X8_216 ⟨Nat.le_of_ble_eq_true rfl, Nat.le_of_ble_eq_true rfl⟩ rfl rfl ly53 rfl rfl (Nat.le_of_ble_eq_true rfl) hk4 ?_
      refine s_lload 4 (pc := 84) dX8_gossipOf_84 rfl ?_
      refine s_aload_n 0 (pc := 86) dX8_gossipOf_86 rfl rfl ?_
      refine s_iload_n 2 (pc := 87) dX8_gossipOf_87 rfl rfl ?_
      refine s_iconst (v := 0) (pc := 88) dX8_gossipOf_88 rfl ?_
      obtain ⟨r7, σ5, hk6, h⟩ := h
      refine s_callV (S := [.long x4]) [.int x2, .int 0] (pc := 89) dX8_gossipOf_89 mv_X8_pairsNow ml_X8_241 ⟨Nat.le_of_ble_eq_true rfl, Nat.le_of_ble_eq_true rfl⟩ rfl rfl ly53 rfl rfl (Nat.le_of_ble_eq_true rfl) hk6 ?_
      refine s_if_le (pc := 92) (tgt := 100) dX8_gossipOf_92 rfl (fun q8 => ?_) (fun q8 => ?_)
      · replace h := h.1 q8
        refine s_lconst (v := 0) (pc := 100) dX8_gossipOf_100 rfl ?_
        refine s_ladd (pc := 101) dX8_gossipOf_101 ?_
        refine s_lstore (L' := [(4, .long (x4 + 0)), (0, .ref 53), (1, .int x1), (2, .int x2), (3, .int x3), (6, .int x6), (7, .long x7), (9, .int x9)]) (pc := 102) dX8_gossipOf_102 (Nat.le_of_ble_eq_true rfl) rfl ?_
        refine s_iinc (v := x6 + 1) (L' := [(6, .int (x6 + 1)), (4, .long (x4 + 0)), (0, .ref 53), (1, .int x1), (2, .int x2), (3, .int x3), (7, .long x7), (9, .int x9)]) 5 (pc := 104) dX8_gossipOf_104 rfl rfl (Nat.le_of_ble_eq_true rfl) rfl ?_
        refine s_goto (pc := 107) (tgt := 10) dX8_gossipOf_107 rfl ?_
        exact s_sub (L' := [(0, .ref 53), (1, .int x1), (2, .int x2), (3, .int x3), (4, .long (x4 + 0)), (6, .int (x6 + 1))]) [2, 3, 4, 5, 1, 0] rfl h
      · replace h := h.2 q8
        refine s_lload 6 (pc := 95) dX8_gossipOf_95 rfl ?_
        refine s_goto (pc := 97) (tgt := 101) dX8_gossipOf_97 rfl ?_
        refine s_ladd (pc := 101) dX8_gossipOf_101 ?_
        refine s_lstore (L' := [(4, .long (x4 + x7)), (0, .ref 53), (1, .int x1), (2, .int x2), (3, .int x3), (6, .int x6), (7, .long x7), (9, .int x9)]) (pc := 102) dX8_gossipOf_102 (Nat.le_of_ble_eq_true rfl) rfl ?_
        refine s_iinc (v := x6 + 1) (L' := [(6, .int (x6 + 1)), (4, .long (x4 + x7)), (0, .ref 53), (1, .int x1), (2, .int x2), (3, .int x3), (7, .long x7), (9, .int x9)]) 5 (pc := 104) dX8_gossipOf_104 rfl rfl (Nat.le_of_ble_eq_true rfl) rfl ?_
        refine s_goto (pc := 107) (tgt := 10) dX8_gossipOf_107 rfl ?_
        exact s_sub (L' := [(0, .ref 53), (1, .int x1), (2, .int x2), (3, .int x3), (4, .long (x4 + x7)), (6, .int (x6 + 1))]) [2, 3, 4, 5, 1, 0] rfl h
  · replace h := h.2 q1
    refine s_lload 6 (pc := 36) dX8_gossipOf_36 rfl ?_
    refine s_iload 5 (pc := 38) dX8_gossipOf_38 rfl ?_
    refine s_iload 7 (pc := 40) dX8_gossipOf_40 rfl ?_
    obtain ⟨r11, σ9, hk10, h⟩ := h
    refine s_callS (S := [.long x7]) [.int x6, .int x9] (pc := 42) dX8_gossipOf_42 ms_X8_isIn ml_X8_199 ⟨Nat.le_of_ble_eq_true rfl, Nat.le_of_ble_eq_true rfl⟩ rfl rfl (Nat.le_of_ble_eq_true rfl) hk10 ?_
    refine s_if_eq (pc := 45) (tgt := 56) dX8_gossipOf_45 rfl (fun q12 => ?_) (fun q12 => ?_)
    · replace h := h.1 q12
      refine s_iload_n 1 (pc := 56) dX8_gossipOf_56 rfl rfl ?_
      refine s_i2l (pc := 57) dX8_gossipOf_57 ?_
      refine s_lmul (pc := 58) dX8_gossipOf_58 ?_
      refine s_lstore (L' := [(7, .long (x7 * (Int32.toInt64 x1))), (0, .ref 53), (1, .int x1), (2, .int x2), (3, .int x3), (4, .long x4), (6, .int x6), (9, .int x9)]) (pc := 59) dX8_gossipOf_59 (Nat.le_of_ble_eq_true rfl) rfl ?_
      refine s_iinc (v := x9 + 1) (L' := [(9, .int (x9 + 1)), (7, .long (x7 * (Int32.toInt64 x1))), (0, .ref 53), (1, .int x1), (2, .int x2), (3, .int x3), (4, .long x4), (6, .int x6)]) 7 (pc := 61) dX8_gossipOf_61 rfl rfl (Nat.le_of_ble_eq_true rfl) rfl ?_
      refine s_goto (pc := 64) (tgt := 27) dX8_gossipOf_64 rfl ?_
      exact s_sub (L' := [(0, .ref 53), (1, .int x1), (2, .int x2), (3, .int x3), (4, .long x4), (6, .int x6), (7, .long (x7 * (Int32.toInt64 x1))), (9, .int (x9 + 1))]) [2, 3, 4, 5, 6, 7, 1, 0] rfl h
    · replace h := h.2 q12
      refine s_bipush (v := 16) (pc := 48) dX8_gossipOf_48 rfl ?_
      refine s_iload_n 1 (pc := 50) dX8_gossipOf_50 rfl rfl ?_
      refine s_isub (pc := 51) dX8_gossipOf_51 ?_
      refine s_i2l (pc := 52) dX8_gossipOf_52 ?_
      refine s_goto (pc := 53) (tgt := 58) dX8_gossipOf_53 rfl ?_
      refine s_lmul (pc := 58) dX8_gossipOf_58 ?_
      refine s_lstore (L' := [(7, .long (x7 * (Int32.toInt64 (16 - x1)))), (0, .ref 53), (1, .int x1), (2, .int x2), (3, .int x3), (4, .long x4), (6, .int x6), (9, .int x9)]) (pc := 59) dX8_gossipOf_59 (Nat.le_of_ble_eq_true rfl) rfl ?_
      refine s_iinc (v := x9 + 1) (L' := [(9, .int (x9 + 1)), (7, .long (x7 * (Int32.toInt64 (16 - x1)))), (0, .ref 53), (1, .int x1), (2, .int x2), (3, .int x3), (4, .long x4), (6, .int x6)]) 7 (pc := 61) dX8_gossipOf_61 rfl rfl (Nat.le_of_ble_eq_true rfl) rfl ?_
      refine s_goto (pc := 64) (tgt := 27) dX8_gossipOf_64 rfl ?_
      exact s_sub (L' := [(0, .ref 53), (1, .int x1), (2, .int x2), (3, .int x3), (4, .long x4), (6, .int x6), (7, .long (x7 * (Int32.toInt64 (16 - x1)))), (9, .int (x9 + 1))]) [2, 3, 4, 5, 6, 7, 1, 0] rfl h
set_option maxRecDepth 10000 in
set_option maxHeartbeats 4000000 in
theorem tX8_gossip_0 {E : Ev} {x1 : Int32} {x2 : Int32} {x3 : Int32} {σ : Hp} {Φ : Option Value → Hp → Prop}  (h : ∃ (r3 : Int32) (σ1 : Hp), Call E mX8_in [.int x1, .int 0, .int 16] σ (some (.int r3)) σ1 ∧ ((r3 = 0 → ∃ (r7 : Int64) (σ5 : Hp), Call E mX8_no [.int (-2)] σ1 (some (.long r7)) σ5 ∧ Φ (some (.long r7)) σ5) ∧ (¬ r3 = 0 → ∃ (r10 : Int32) (σ8 : Hp), Call E mX8_isDay [.int x2] σ1 (some (.int r10)) σ8 ∧ ((r10 = 0 → ∃ (r14 : Int64) (σ12 : Hp), Call E mX8_no [.int (-2)] σ8 (some (.long r14)) σ12 ∧ Φ (some (.long r14)) σ12) ∧ (¬ r10 = 0 → ∃ (r17 : Int32) (σ15 : Hp), Call E mX8_in [.int x3, .int 0, .int 1] σ8 (some (.int r17)) σ15 ∧ ((r17 = 0 → ∃ (r21 : Int64) (σ19 : Hp), Call E mX8_no [.int (-2)] σ15 (some (.long r21)) σ19 ∧ Φ (some (.long r21)) σ19) ∧ (¬ r17 = 0 → ∃ (r24 : Int64) (σ22 : Hp), Call E mX8_gossipOf [.ref 53, .int x1, .int x2, .int x3] σ15 (some (.long r24)) σ22 ∧ Φ (some (.long r24)) σ22))))))) : Ru E mX8_gossip 0 [(0, .ref 53), (1, .int x1), (2, .int x2), (3, .int x3)] [] σ Φ := by
  refine s_iload_n 1 (pc := 0) dX8_gossip_0 rfl rfl ?_
  refine s_iconst (v := 0) (pc := 1) dX8_gossip_1 rfl ?_
  refine s_bipush (v := 16) (pc := 2) dX8_gossip_2 rfl ?_
  obtain ⟨r3, σ1, hk2, h⟩ := h
  refine s_callS (S := []) [.int x1, .int 0, .int 16] (pc := 4) dX8_gossip_4 ms_X8_in ml_X8_124 ⟨Nat.le_of_ble_eq_true rfl, Nat.le_of_ble_eq_true rfl⟩ rfl rfl (Nat.le_of_ble_eq_true rfl) hk2 ?_
  refine s_if_eq (pc := 7) (tgt := 36) dX8_gossip_7 rfl (fun q4 => ?_) (fun q4 => ?_)
  · replace h := h.1 q4
    refine s_bipush (v := (-2)) (pc := 36) dX8_gossip_36 rfl ?_
    obtain ⟨r7, σ5, hk6, h⟩ := h
    refine s_callS (S := []) [.int (-2)] (pc := 38) dX8_gossip_38 ms_X8_no ml_X8_317 ⟨Nat.le_of_ble_eq_true rfl, Nat.le_of_ble_eq_true rfl⟩ rfl rfl (Nat.le_of_ble_eq_true rfl) hk6 ?_
    exact s_ret (r := some (.long r7)) dX8_gossip_41 rfl h
  · replace h := h.2 q4
    refine s_iload_n 2 (pc := 10) dX8_gossip_10 rfl rfl ?_
    obtain ⟨r10, σ8, hk9, h⟩ := h
    refine s_callS (S := []) [.int x2] (pc := 11) dX8_gossip_11 ms_X8_isDay ml_X8_160 ⟨Nat.le_of_ble_eq_true rfl, Nat.le_of_ble_eq_true rfl⟩ rfl rfl (Nat.le_of_ble_eq_true rfl) hk9 ?_
    refine s_if_eq (pc := 14) (tgt := 36) dX8_gossip_14 rfl (fun q11 => ?_) (fun q11 => ?_)
    · replace h := h.1 q11
      refine s_bipush (v := (-2)) (pc := 36) dX8_gossip_36 rfl ?_
      obtain ⟨r14, σ12, hk13, h⟩ := h
      refine s_callS (S := []) [.int (-2)] (pc := 38) dX8_gossip_38 ms_X8_no ml_X8_317 ⟨Nat.le_of_ble_eq_true rfl, Nat.le_of_ble_eq_true rfl⟩ rfl rfl (Nat.le_of_ble_eq_true rfl) hk13 ?_
      exact s_ret (r := some (.long r14)) dX8_gossip_41 rfl h
    · replace h := h.2 q11
      refine s_iload_n 3 (pc := 17) dX8_gossip_17 rfl rfl ?_
      refine s_iconst (v := 0) (pc := 18) dX8_gossip_18 rfl ?_
      refine s_iconst (v := 1) (pc := 19) dX8_gossip_19 rfl ?_
      obtain ⟨r17, σ15, hk16, h⟩ := h
      refine s_callS (S := []) [.int x3, .int 0, .int 1] (pc := 20) dX8_gossip_20 ms_X8_in ml_X8_124 ⟨Nat.le_of_ble_eq_true rfl, Nat.le_of_ble_eq_true rfl⟩ rfl rfl (Nat.le_of_ble_eq_true rfl) hk16 ?_
      refine s_if_eq (pc := 23) (tgt := 36) dX8_gossip_23 rfl (fun q18 => ?_) (fun q18 => ?_)
      · replace h := h.1 q18
        refine s_bipush (v := (-2)) (pc := 36) dX8_gossip_36 rfl ?_
        obtain ⟨r21, σ19, hk20, h⟩ := h
        refine s_callS (S := []) [.int (-2)] (pc := 38) dX8_gossip_38 ms_X8_no ml_X8_317 ⟨Nat.le_of_ble_eq_true rfl, Nat.le_of_ble_eq_true rfl⟩ rfl rfl (Nat.le_of_ble_eq_true rfl) hk20 ?_
        exact s_ret (r := some (.long r21)) dX8_gossip_41 rfl h
      · replace h := h.2 q18
        refine s_aload_n 0 (pc := 26) dX8_gossip_26 rfl rfl ?_
        refine s_iload_n 1 (pc := 27) dX8_gossip_27 rfl rfl ?_
        refine s_iload_n 2 (pc := 28) dX8_gossip_28 rfl rfl ?_
        refine s_iload_n 3 (pc := 29) dX8_gossip_29 rfl rfl ?_
        obtain ⟨r24, σ22, hk23, h⟩ := h
        refine s_callV (S := []) [.int x1, .int x2, .int x3] (pc := 30) dX8_gossip_30 mv_X8_gossipOf ml_X8_313 ⟨Nat.le_of_ble_eq_true rfl, Nat.le_of_ble_eq_true rfl⟩ rfl rfl ly53 rfl rfl (Nat.le_of_ble_eq_true rfl) hk23 ?_
        refine s_goto (pc := 33) (tgt := 41) dX8_gossip_33 rfl ?_
        exact s_ret (r := some (.long r24)) dX8_gossip_41 rfl h
set_option maxRecDepth 10000 in
set_option maxHeartbeats 4000000 in
theorem tX8_ones_0 {E : Ev} {x1 : Int32} {σ : Hp} {Φ : Option Value → Hp → Prop}  (h : Ru E mX8_ones 4 [(0, .ref 53), (1, .int x1), (2, .int 0), (3, .int 0)] [] σ Φ) : Ru E mX8_ones 0 [(0, .ref 53), (1, .int x1)] [] σ Φ := by
  refine s_iconst (v := 0) (pc := 0) dX8_ones_0 rfl ?_
  refine s_istore_n (L' := [(2, .int 0), (0, .ref 53), (1, .int x1)]) (pc := 1) dX8_ones_1 rfl (Nat.le_of_ble_eq_true rfl) rfl ?_
  refine s_iconst (v := 0) (pc := 2) dX8_ones_2 rfl ?_
  refine s_istore_n (L' := [(3, .int 0), (2, .int 0), (0, .ref 53), (1, .int x1)]) (pc := 3) dX8_ones_3 rfl (Nat.le_of_ble_eq_true rfl) rfl ?_
  exact s_sub (L' := [(0, .ref 53), (1, .int x1), (2, .int 0), (3, .int 0)]) [2, 3, 1, 0] rfl h
set_option maxRecDepth 10000 in
set_option maxHeartbeats 4000000 in
theorem tX8_ones_4 {E : Ev} {x1 : Int32} {x2 : Int32} {x3 : Int32} {σ : Hp} {Φ : Option Value → Hp → Prop}  (h : ((8 ≤ x3 → Φ (some (.int x2)) σ) ∧ (¬ 8 ≤ x3 → ∃ (r4 : Int32) (σ2 : Hp), Call E mX8_isIn [.int x1, .int x3] σ (some (.int r4)) σ2 ∧ ((r4 = 0 → Ru E mX8_ones 4 [(0, .ref 53), (1, .int x1), (2, .int (x2 + 0)), (3, .int (x3 + 1))] [] σ2 Φ) ∧ (¬ r4 = 0 → Ru E mX8_ones 4 [(0, .ref 53), (1, .int x1), (2, .int (x2 + 1)), (3, .int (x3 + 1))] [] σ2 Φ))))) : Ru E mX8_ones 4 [(0, .ref 53), (1, .int x1), (2, .int x2), (3, .int x3)] [] σ Φ := by
  refine s_iload_n 3 (pc := 4) dX8_ones_4 rfl rfl ?_
  refine s_bipush (v := 8) (pc := 5) dX8_ones_5 rfl ?_
  refine s_icmp_ge (pc := 7) (tgt := 32) dX8_ones_7 rfl (fun q1 => ?_) (fun q1 => ?_)
  · replace h := h.1 q1
    refine s_iload_n 2 (pc := 32) dX8_ones_32 rfl rfl ?_
    exact s_ret (r := some (.int x2)) ⟨dX8_ones_33, fun ty e => by cases e; rfl⟩ rfl h
  · replace h := h.2 q1
    refine s_iload_n 2 (pc := 10) dX8_ones_10 rfl rfl ?_
    refine s_iload_n 1 (pc := 11) dX8_ones_11 rfl rfl ?_
    refine s_iload_n 3 (pc := 12) dX8_ones_12 rfl rfl ?_
    obtain ⟨r4, σ2, hk3, h⟩ := h
    refine s_callS (S := [.int x2]) [.int x1, .int x3] (pc := 13) dX8_ones_13 ms_X8_isIn ml_X8_199 ⟨Nat.le_of_ble_eq_true rfl, Nat.le_of_ble_eq_true rfl⟩ rfl rfl (Nat.le_of_ble_eq_true rfl) hk3 ?_
    refine s_if_eq (pc := 16) (tgt := 23) dX8_ones_16 rfl (fun q5 => ?_) (fun q5 => ?_)
    · replace h := h.1 q5
      refine s_iconst (v := 0) (pc := 23) dX8_ones_23 rfl ?_
      refine s_iadd (pc := 24) dX8_ones_24 ?_
      refine s_istore_n (L' := [(2, .int (x2 + 0)), (0, .ref 53), (1, .int x1), (3, .int x3)]) (pc := 25) dX8_ones_25 rfl (Nat.le_of_ble_eq_true rfl) rfl ?_
      refine s_iinc (v := x3 + 1) (L' := [(3, .int (x3 + 1)), (2, .int (x2 + 0)), (0, .ref 53), (1, .int x1)]) 3 (pc := 26) dX8_ones_26 rfl rfl (Nat.le_of_ble_eq_true rfl) rfl ?_
      refine s_goto (pc := 29) (tgt := 4) dX8_ones_29 rfl ?_
      exact s_sub (L' := [(0, .ref 53), (1, .int x1), (2, .int (x2 + 0)), (3, .int (x3 + 1))]) [2, 3, 1, 0] rfl h
    · replace h := h.2 q5
      refine s_iconst (v := 1) (pc := 19) dX8_ones_19 rfl ?_
      refine s_goto (pc := 20) (tgt := 24) dX8_ones_20 rfl ?_
      refine s_iadd (pc := 24) dX8_ones_24 ?_
      refine s_istore_n (L' := [(2, .int (x2 + 1)), (0, .ref 53), (1, .int x1), (3, .int x3)]) (pc := 25) dX8_ones_25 rfl (Nat.le_of_ble_eq_true rfl) rfl ?_
      refine s_iinc (v := x3 + 1) (L' := [(3, .int (x3 + 1)), (2, .int (x2 + 1)), (0, .ref 53), (1, .int x1)]) 3 (pc := 26) dX8_ones_26 rfl rfl (Nat.le_of_ble_eq_true rfl) rfl ?_
      refine s_goto (pc := 29) (tgt := 4) dX8_ones_29 rfl ?_
      exact s_sub (L' := [(0, .ref 53), (1, .int x1), (2, .int (x2 + 1)), (3, .int (x3 + 1))]) [2, 3, 1, 0] rfl h
set_option maxRecDepth 10000 in
set_option maxHeartbeats 4000000 in
theorem tX8_agesOf_0 {E : Ev} {x1 : Int32} {x2 : Int32} {x3 : Int32} {σ : Hp} {Φ : Option Value → Hp → Prop}  (h : ∃ σ1 : Hp, Call E mX8_asTold [.ref 53] σ none σ1 ∧ ((¬ (σ1 53 2) = 0 → Ru E mX8_agesOf 26 [(0, .ref 53), (1, .int x1), (2, .int x2), (3, .int x3), (4, .int x1), (5, .int 0)] [] (up σ1 53 12 x2) Φ) ∧ ((σ1 53 2) = 0 → Ru E mX8_agesOf 26 [(0, .ref 53), (1, .int x1), (2, .int x2), (3, .int x3), (4, .int x1), (5, .int 0)] [] (up σ1 53 12 0) Φ))) : Ru E mX8_agesOf 0 [(0, .ref 53), (1, .int x1), (2, .int x2), (3, .int x3)] [] σ Φ := by
  refine s_aload_n 0 (pc := 0) dX8_agesOf_0 rfl rfl ?_
  obtain ⟨σ1, hk2, h⟩ := h
  refine s_callV (S := []) [] (pc := 1) dX8_agesOf_1 mv_X8_asTold ml_X8_213 ⟨Nat.le_of_ble_eq_true rfl, Nat.le_of_ble_eq_true rfl⟩ rfl rfl ly53 rfl rfl (Nat.le_of_ble_eq_true rfl) hk2 ?_
  refine s_iload_n 1 (pc := 4) dX8_agesOf_4 rfl rfl ?_
  refine s_istore (L' := [(4, .int x1), (0, .ref 53), (1, .int x1), (2, .int x2), (3, .int x3)]) (pc := 5) dX8_agesOf_5 (Nat.le_of_ble_eq_true rfl) rfl ?_
  refine s_aload_n 1 (pc := 7) dX8_agesOf_7 rfl rfl ?_
  refine s_aload_n 1 (pc := 8) dX8_agesOf_8 rfl rfl ?_
  refine s_getI (v := σ1 53 2) (pc := 9) dX8_agesOf_9 fl_X8_139 ly53 rfl rfl ?_
  refine s_if_ne (pc := 12) (tgt := 19) dX8_agesOf_12 rfl (fun q3 => ?_) (fun q3 => ?_)
  · replace h := h.1 q3
    refine s_iload_n 3 (pc := 19) dX8_agesOf_19 rfl rfl ?_
    refine s_put (ty := .int) (pc := 20) dX8_agesOf_20 fp_X8_179 ly53 rfl rfl rfl ?_
    refine s_iconst (v := 0) (pc := 23) dX8_agesOf_23 rfl ?_
    refine s_istore (L' := [(5, .int 0), (4, .int x1), (0, .ref 53), (1, .int x1), (2, .int x2), (3, .int x3)]) (pc := 24) dX8_agesOf_24 (Nat.le_of_ble_eq_true rfl) rfl ?_
    exact s_sub (L' := [(0, .ref 53), (1, .int x1), (2, .int x2), (3, .int x3), (4, .int x1), (5, .int 0)]) [2, 3, 4, 5, 1, 0] rfl h
  · replace h := h.2 q3
    refine s_iconst (v := 0) (pc := 15) dX8_agesOf_15 rfl ?_
    refine s_goto (pc := 16) (tgt := 20) dX8_agesOf_16 rfl ?_
    refine s_put (ty := .int) (pc := 20) dX8_agesOf_20 fp_X8_179 ly53 rfl rfl rfl ?_
    refine s_iconst (v := 0) (pc := 23) dX8_agesOf_23 rfl ?_
    refine s_istore (L' := [(5, .int 0), (4, .int x1), (0, .ref 53), (1, .int x1), (2, .int x2), (3, .int x3)]) (pc := 24) dX8_agesOf_24 (Nat.le_of_ble_eq_true rfl) rfl ?_
    exact s_sub (L' := [(0, .ref 53), (1, .int x1), (2, .int x2), (3, .int x3), (4, .int x1), (5, .int 0)]) [2, 3, 4, 5, 1, 0] rfl h
set_option maxRecDepth 10000 in
set_option maxHeartbeats 4000000 in
theorem tX8_agesOf_26 {E : Ev} {x1 : Int32} {x2 : Int32} {x3 : Int32} {x4 : Int32} {x5 : Int32} {σ : Hp} {Φ : Option Value → Hp → Prop}  (h : (((σ 53 12) ≤ x5 → ∃ σ2 : Hp, Call E mX8_runs [.ref 53] σ none σ2 ∧ ((¬ x3 = 0 → ∃ (r7 : Int32) (σ5 : Hp), Call E mX8_closedNow [.ref 53, .int 19] σ2 (some (.int r7)) σ5 ∧ ∃ (r10 : Int32) (σ8 : Hp), Call E mX8_ones [.ref 53, .int r7] σ5 (some (.int r10)) σ8 ∧ Φ (some (.int r10)) σ8) ∧ (x3 = 0 → ∃ (r13 : Int32) (σ11 : Hp), Call E mX8_pairsNow [.ref 53, .int 19, .int 0] σ2 (some (.int r13)) σ11 ∧ Φ (some (.int r13)) σ11))) ∧ (¬ (σ 53 12) ≤ x5 → vp_in x5 8 ∧ ¬ (σ 53 2) = (0 : Int32) ∧ Ru E mX8_agesOf 26 [(0, .ref 53), (1, .int x1), (2, .int x2), (3, .int x3), (4, .int ((1103515245 * ((1103515245 * ((1103515245 * ((1103515245 * x4) + 12345)) + 12345)) + 12345)) + 12345)), (5, .int (x5 + 1))] [] (up (up (up (up σ 63 ((x5).toNatClampNeg) (((Int32.toUInt32 ((1103515245 * x4) + 12345) >>> (Int32.toUInt32 16 &&& Int32.toUInt32 31)).toInt32) - ((Int32.toUInt32 ((1103515245 * x4) + 12345) >>> (Int32.toUInt32 16 &&& Int32.toUInt32 31)).toInt32) / 3 * 3)) 64 ((x5).toNatClampNeg) (((Int32.toUInt32 ((1103515245 * ((1103515245 * x4) + 12345)) + 12345) >>> (Int32.toUInt32 16 &&& Int32.toUInt32 31)).toInt32) - ((Int32.toUInt32 ((1103515245 * ((1103515245 * x4) + 12345)) + 12345) >>> (Int32.toUInt32 16 &&& Int32.toUInt32 31)).toInt32) / 20 * 20)) 65 ((x5).toNatClampNeg) (((Int32.toUInt32 ((1103515245 * ((1103515245 * ((1103515245 * x4) + 12345)) + 12345)) + 12345) >>> (Int32.toUInt32 16 &&& Int32.toUInt32 31)).toInt32) - ((Int32.toUInt32 ((1103515245 * ((1103515245 * ((1103515245 * x4) + 12345)) + 12345)) + 12345) >>> (Int32.toUInt32 16 &&& Int32.toUInt32 31)).toInt32) / (σ 53 2) * (σ 53 2))) 66 ((x5).toNatClampNeg) (((Int32.toUInt32 ((1103515245 * ((1103515245 * ((1103515245 * ((1103515245 * x4) + 12345)) + 12345)) + 12345)) + 12345) >>> (Int32.toUInt32 16 &&& Int32.toUInt32 31)).toInt32) - ((Int32.toUInt32 ((1103515245 * ((1103515245 * ((1103515245 * ((1103515245 * x4) + 12345)) + 12345)) + 12345)) + 12345) >>> (Int32.toUInt32 16 &&& Int32.toUInt32 31)).toInt32) / 10 * 10)) Φ))) : Ru E mX8_agesOf 26 [(0, .ref 53), (1, .int x1), (2, .int x2), (3, .int x3), (4, .int x4), (5, .int x5)] [] σ Φ := by
  refine s_iload 5 (pc := 26) dX8_agesOf_26 rfl ?_
  refine s_aload_n 0 (pc := 28) dX8_agesOf_28 rfl rfl ?_
  refine s_getI (v := σ 53 12) (pc := 29) dX8_agesOf_29 fl_X8_179 ly53 rfl rfl ?_
  refine s_icmp_ge (pc := 32) (tgt := 150) dX8_agesOf_32 rfl (fun q1 => ?_) (fun q1 => ?_)
  · replace h := h.1 q1
    refine s_aload_n 0 (pc := 150) dX8_agesOf_150 rfl rfl ?_
    obtain ⟨σ2, hk3, h⟩ := h
    refine s_callV (S := []) [] (pc := 151) dX8_agesOf_151 mv_X8_runs ml_X8_216 ⟨Nat.le_of_ble_eq_true rfl, Nat.le_of_ble_eq_true rfl⟩ rfl rfl ly53 rfl rfl (Nat.le_of_ble_eq_true rfl) hk3 ?_
    refine s_iload_n 3 (pc := 154) dX8_agesOf_154 rfl rfl ?_
    refine s_if_ne (pc := 155) (tgt := 168) dX8_agesOf_155 rfl (fun q4 => ?_) (fun q4 => ?_)
    · replace h := h.1 q4
      refine s_aload_n 0 (pc := 168) dX8_agesOf_168 rfl rfl ?_
      refine s_aload_n 0 (pc := 169) dX8_agesOf_169 rfl rfl ?_
      refine s_bipush (v := 19) (pc := 170) dX8_agesOf_170 rfl ?_
      obtain ⟨r7, σ5, hk6, h⟩ := h
      refine s_callV (S := [.ref 53]) [.int 19] (pc := 172) dX8_agesOf_172 mv_X8_closedNow ml_X8_247 ⟨Nat.le_of_ble_eq_true rfl, Nat.le_of_ble_eq_true rfl⟩ rfl rfl ly53 rfl rfl (Nat.le_of_ble_eq_true rfl) hk6 ?_
      obtain ⟨r10, σ8, hk9, h⟩ := h
      refine s_callV (S := []) [.int r7] (pc := 175) dX8_agesOf_175 mv_X8_ones ml_X8_322 ⟨Nat.le_of_ble_eq_true rfl, Nat.le_of_ble_eq_true rfl⟩ rfl rfl ly53 rfl rfl (Nat.le_of_ble_eq_true rfl) hk9 ?_
      exact s_ret (r := some (.int r10)) ⟨dX8_agesOf_178, fun ty e => by cases e; rfl⟩ rfl h
    · replace h := h.2 q4
      refine s_aload_n 0 (pc := 158) dX8_agesOf_158 rfl rfl ?_
      refine s_bipush (v := 19) (pc := 159) dX8_agesOf_159 rfl ?_
      refine s_iconst (v := 0) (pc := 161) dX8_agesOf_161 rfl ?_
      obtain ⟨r13, σ11, hk12, h⟩ := h
      refine s_callV (S := []) [.int 19, .int 0] (pc := 162) dX8_agesOf_162 mv_X8_pairsNow ml_X8_241 ⟨Nat.le_of_ble_eq_true rfl, Nat.le_of_ble_eq_true rfl⟩ rfl rfl ly53 rfl rfl (Nat.le_of_ble_eq_true rfl) hk12 ?_
      refine s_goto (pc := 165) (tgt := 178) dX8_agesOf_165 rfl ?_
      exact s_ret (r := some (.int r13)) ⟨dX8_agesOf_178, fun ty e => by cases e; rfl⟩ rfl h
  · replace h := h.2 q1
    refine s_ldcw (v := 1103515245) (pc := 35) dX8_agesOf_35 ct_X8_321 ?_
    refine s_iload 4 (pc := 38) dX8_agesOf_38 rfl ?_
    refine s_imul (pc := 40) dX8_agesOf_40 ?_
    refine s_sipush (v := 12345) (pc := 41) dX8_agesOf_41 rfl ?_
    refine s_iadd (pc := 44) dX8_agesOf_44 ?_
    refine s_istore (L' := [(4, .int ((1103515245 * x4) + 12345)), (0, .ref 53), (1, .int x1), (2, .int x2), (3, .int x3), (5, .int x5)]) (pc := 45) dX8_agesOf_45 (Nat.le_of_ble_eq_true rfl) rfl ?_
    refine s_aload_n 1 (pc := 47) dX8_agesOf_47 rfl rfl ?_
    refine s_getR (q := 63) (pc := 48) dX8_agesOf_48 fl_X8_37 ly53 rfl ?_
    refine s_iload 5 (pc := 51) dX8_agesOf_51 rfl ?_
    refine s_iload 0 (pc := 53) dX8_agesOf_53 rfl ?_
    refine s_bipush (v := 16) (pc := 55) dX8_agesOf_55 rfl ?_
    refine s_iushr (pc := 57) dX8_agesOf_57 ?_
    refine s_iconst (v := 3) (pc := 58) dX8_agesOf_58 rfl ?_
    refine s_irem (pc := 59) dX8_agesOf_59 (by decide) ?_
    have hv14 := h.1
    replace h := h.2
    refine s_iast (pc := 60) dX8_agesOf_60 ly63 hv14 ?_
    refine s_ldcw (v := 1103515245) (pc := 61) dX8_agesOf_61 ct_X8_321 ?_
    refine s_iload 0 (pc := 64) dX8_agesOf_64 rfl ?_
    refine s_imul (pc := 66) dX8_agesOf_66 ?_
    refine s_sipush (v := 12345) (pc := 67) dX8_agesOf_67 rfl ?_
    refine s_iadd (pc := 70) dX8_agesOf_70 ?_
    refine s_istore (L' := [(4, .int ((1103515245 * ((1103515245 * x4) + 12345)) + 12345)), (0, .ref 53), (1, .int x1), (2, .int x2), (3, .int x3), (5, .int x5)]) (pc := 71) dX8_agesOf_71 (Nat.le_of_ble_eq_true rfl) rfl ?_
    refine s_aload_n 1 (pc := 73) dX8_agesOf_73 rfl rfl ?_
    refine s_getR (q := 64) (pc := 74) dX8_agesOf_74 fl_X8_40 ly53 rfl ?_
    refine s_iload 5 (pc := 77) dX8_agesOf_77 rfl ?_
    refine s_iload 0 (pc := 79) dX8_agesOf_79 rfl ?_
    refine s_bipush (v := 16) (pc := 81) dX8_agesOf_81 rfl ?_
    refine s_iushr (pc := 83) dX8_agesOf_83 ?_
    refine s_bipush (v := 20) (pc := 84) dX8_agesOf_84 rfl ?_
    refine s_irem (pc := 86) dX8_agesOf_86 (by decide) ?_
    refine s_iast (pc := 87) dX8_agesOf_87 ly64 hv14 ?_
    refine s_ldcw (v := 1103515245) (pc := 88) dX8_agesOf_88 ct_X8_321 ?_
    refine s_iload 0 (pc := 91) dX8_agesOf_91 rfl ?_
    refine s_imul (pc := 93) dX8_agesOf_93 ?_
    refine s_sipush (v := 12345) (pc := 94) dX8_agesOf_94 rfl ?_
    refine s_iadd (pc := 97) dX8_agesOf_97 ?_
    refine s_istore (L' := [(4, .int ((1103515245 * ((1103515245 * ((1103515245 * x4) + 12345)) + 12345)) + 12345)), (0, .ref 53), (1, .int x1), (2, .int x2), (3, .int x3), (5, .int x5)]) (pc := 98) dX8_agesOf_98 (Nat.le_of_ble_eq_true rfl) rfl ?_
    refine s_aload_n 1 (pc := 100) dX8_agesOf_100 rfl rfl ?_
    refine s_getR (q := 65) (pc := 101) dX8_agesOf_101 fl_X8_43 ly53 rfl ?_
    refine s_iload 5 (pc := 104) dX8_agesOf_104 rfl ?_
    refine s_iload 0 (pc := 106) dX8_agesOf_106 rfl ?_
    refine s_bipush (v := 16) (pc := 108) dX8_agesOf_108 rfl ?_
    refine s_iushr (pc := 110) dX8_agesOf_110 ?_
    refine s_aload_n 1 (pc := 111) dX8_agesOf_111 rfl rfl ?_
    refine s_getI (v := σ 53 2) (pc := 112) dX8_agesOf_112 fl_X8_139 ly53 rfl (by simp [up]) ?_
    refine s_irem (pc := 115) dX8_agesOf_115 h.1 ?_
    replace h := h.2
    refine s_iast (pc := 116) dX8_agesOf_116 ly65 hv14 ?_
    refine s_ldcw (v := 1103515245) (pc := 117) dX8_agesOf_117 ct_X8_321 ?_
    refine s_iload 0 (pc := 120) dX8_agesOf_120 rfl ?_
    refine s_imul (pc := 122) dX8_agesOf_122 ?_
    refine s_sipush (v := 12345) (pc := 123) dX8_agesOf_123 rfl ?_
    refine s_iadd (pc := 126) dX8_agesOf_126 ?_
    refine s_istore (L' := [(4, .int ((1103515245 * ((1103515245 * ((1103515245 * ((1103515245 * x4) + 12345)) + 12345)) + 12345)) + 12345)), (0, .ref 53), (1, .int x1), (2, .int x2), (3, .int x3), (5, .int x5)]) (pc := 127) dX8_agesOf_127 (Nat.le_of_ble_eq_true rfl) rfl ?_
    refine s_aload_n 1 (pc := 129) dX8_agesOf_129 rfl rfl ?_
    refine s_getR (q := 66) (pc := 130) dX8_agesOf_130 fl_X8_46 ly53 rfl ?_
    refine s_iload 5 (pc := 133) dX8_agesOf_133 rfl ?_
    refine s_iload 0 (pc := 135) dX8_agesOf_135 rfl ?_
    refine s_bipush (v := 16) (pc := 137) dX8_agesOf_137 rfl ?_
    refine s_iushr (pc := 139) dX8_agesOf_139 ?_
    refine s_bipush (v := 10) (pc := 140) dX8_agesOf_140 rfl ?_
    refine s_irem (pc := 142) dX8_agesOf_142 (by decide) ?_
    refine s_iast (pc := 143) dX8_agesOf_143 ly66 hv14 ?_
    refine s_iinc (v := x5 + 1) (L' := [(5, .int (x5 + 1)), (4, .int ((1103515245 * ((1103515245 * ((1103515245 * ((1103515245 * x4) + 12345)) + 12345)) + 12345)) + 12345)), (0, .ref 53), (1, .int x1), (2, .int x2), (3, .int x3)]) 5 (pc := 144) dX8_agesOf_144 rfl rfl (Nat.le_of_ble_eq_true rfl) rfl ?_
    refine s_goto (pc := 147) (tgt := 26) dX8_agesOf_147 rfl ?_
    exact s_sub (L' := [(0, .ref 53), (1, .int x1), (2, .int x2), (3, .int x3), (4, .int ((1103515245 * ((1103515245 * ((1103515245 * ((1103515245 * x4) + 12345)) + 12345)) + 12345)) + 12345)), (5, .int (x5 + 1))]) [2, 3, 4, 5, 1, 0] rfl h
set_option maxRecDepth 10000 in
set_option maxHeartbeats 4000000 in
theorem tX8_ages_0 {E : Ev} {x1 : Int32} {x2 : Int32} {x3 : Int32} {σ : Hp} {Φ : Option Value → Hp → Prop}  (h : ∃ (r3 : Int32) (σ1 : Hp), Call E mX8_in [.int x2, .int 0, .int 8] σ (some (.int r3)) σ1 ∧ ((r3 = 0 → Φ (some (.int (-2))) σ1) ∧ (¬ r3 = 0 → ∃ (r7 : Int32) (σ5 : Hp), Call E mX8_in [.int x3, .int 0, .int 1] σ1 (some (.int r7)) σ5 ∧ ((r7 = 0 → Φ (some (.int (-2))) σ5) ∧ (¬ r7 = 0 → ∃ (r11 : Int32) (σ9 : Hp), Call E mX8_agesOf [.ref 53, .int x1, .int x2, .int x3] σ5 (some (.int r11)) σ9 ∧ Φ (some (.int r11)) σ9))))) : Ru E mX8_ages 0 [(0, .ref 53), (1, .int x1), (2, .int x2), (3, .int x3)] [] σ Φ := by
  refine s_iload_n 2 (pc := 0) dX8_ages_0 rfl rfl ?_
  refine s_iconst (v := 0) (pc := 1) dX8_ages_1 rfl ?_
  refine s_bipush (v := 8) (pc := 2) dX8_ages_2 rfl ?_
  obtain ⟨r3, σ1, hk2, h⟩ := h
  refine s_callS (S := []) [.int x2, .int 0, .int 8] (pc := 4) dX8_ages_4 ms_X8_in ml_X8_124 ⟨Nat.le_of_ble_eq_true rfl, Nat.le_of_ble_eq_true rfl⟩ rfl rfl (Nat.le_of_ble_eq_true rfl) hk2 ?_
  refine s_if_eq (pc := 7) (tgt := 29) dX8_ages_7 rfl (fun q4 => ?_) (fun q4 => ?_)
  · replace h := h.1 q4
    refine s_bipush (v := (-2)) (pc := 29) dX8_ages_29 rfl ?_
    exact s_ret (r := some (.int (-2))) ⟨dX8_ages_31, fun ty e => by cases e; rfl⟩ rfl h
  · replace h := h.2 q4
    refine s_iload_n 3 (pc := 10) dX8_ages_10 rfl rfl ?_
    refine s_iconst (v := 0) (pc := 11) dX8_ages_11 rfl ?_
    refine s_iconst (v := 1) (pc := 12) dX8_ages_12 rfl ?_
    obtain ⟨r7, σ5, hk6, h⟩ := h
    refine s_callS (S := []) [.int x3, .int 0, .int 1] (pc := 13) dX8_ages_13 ms_X8_in ml_X8_124 ⟨Nat.le_of_ble_eq_true rfl, Nat.le_of_ble_eq_true rfl⟩ rfl rfl (Nat.le_of_ble_eq_true rfl) hk6 ?_
    refine s_if_eq (pc := 16) (tgt := 29) dX8_ages_16 rfl (fun q8 => ?_) (fun q8 => ?_)
    · replace h := h.1 q8
      refine s_bipush (v := (-2)) (pc := 29) dX8_ages_29 rfl ?_
      exact s_ret (r := some (.int (-2))) ⟨dX8_ages_31, fun ty e => by cases e; rfl⟩ rfl h
    · replace h := h.2 q8
      refine s_aload_n 0 (pc := 19) dX8_ages_19 rfl rfl ?_
      refine s_iload_n 1 (pc := 20) dX8_ages_20 rfl rfl ?_
      refine s_iload_n 2 (pc := 21) dX8_ages_21 rfl rfl ?_
      refine s_iload_n 3 (pc := 22) dX8_ages_22 rfl rfl ?_
      obtain ⟨r11, σ9, hk10, h⟩ := h
      refine s_callV (S := []) [.int x1, .int x2, .int x3] (pc := 23) dX8_ages_23 mv_X8_agesOf ml_X8_325 ⟨Nat.le_of_ble_eq_true rfl, Nat.le_of_ble_eq_true rfl⟩ rfl rfl ly53 rfl rfl (Nat.le_of_ble_eq_true rfl) hk10 ?_
      refine s_goto (pc := 26) (tgt := 31) dX8_ages_26 rfl ?_
      exact s_ret (r := some (.int r11)) ⟨dX8_ages_31, fun ty e => by cases e; rfl⟩ rfl h
set_option maxRecDepth 10000 in
set_option maxHeartbeats 4000000 in
theorem tX8_marks_0 {E : Ev} {x1 : Int32} {σ : Hp} {Φ : Option Value → Hp → Prop}  (h : Φ (some (.int ((-10) - x1))) (up σ 53 44 x1)) : Ru E mX8_marks 0 [(0, .ref 53), (1, .int x1)] [] σ Φ := by
  refine s_aload_n 0 (pc := 0) dX8_marks_0 rfl rfl ?_
  refine s_iload_n 1 (pc := 1) dX8_marks_1 rfl rfl ?_
  refine s_put (ty := .int) (pc := 2) dX8_marks_2 fp_X8_328 ly53 rfl rfl rfl ?_
  refine s_bipush (v := (-10)) (pc := 5) dX8_marks_5 rfl ?_
  refine s_iload_n 1 (pc := 7) dX8_marks_7 rfl rfl ?_
  refine s_isub (pc := 8) dX8_marks_8 ?_
  exact s_ret (r := some (.int ((-10) - x1))) ⟨dX8_marks_9, fun ty e => by cases e; rfl⟩ rfl h
set_option maxRecDepth 10000 in
set_option maxHeartbeats 4000000 in
theorem tX8_isSheet_0 {E : Ev} {x0 : Int32} {σ : Hp} {Φ : Option Value → Hp → Prop}  (h : ∃ (r3 : Int32) (σ1 : Hp), Call E mX8_in [.int x0, .int 0, .int 3] σ (some (.int r3)) σ1 ∧ narrow .boolean (.int r3) = .int r3 ∧ Φ (some (.int r3)) σ1) : Ru E mX8_isSheet 0 [(0, .int x0)] [] σ Φ := by
  refine s_iload_n 0 (pc := 0) dX8_isSheet_0 rfl rfl ?_
  refine s_iconst (v := 0) (pc := 1) dX8_isSheet_1 rfl ?_
  refine s_iconst (v := 3) (pc := 2) dX8_isSheet_2 rfl ?_
  obtain ⟨r3, σ1, hk2, h⟩ := h
  refine s_callS (S := []) [.int x0, .int 0, .int 3] (pc := 3) dX8_isSheet_3 ms_X8_in ml_X8_124 ⟨Nat.le_of_ble_eq_true rfl, Nat.le_of_ble_eq_true rfl⟩ rfl rfl (Nat.le_of_ble_eq_true rfl) hk2 ?_
  have hz := h.1
  replace h := h.2
  exact s_ret (r := some (.int r3)) ⟨dX8_isSheet_6, fun ty e => by cases e; exact hz⟩ rfl h
set_option maxRecDepth 10000 in
set_option maxHeartbeats 4000000 in
theorem tX8_sheet_0 {E : Ev} {x1 : Int32} {x2 : Int32} {x3 : Int32} {σ : Hp} {Φ : Option Value → Hp → Prop}  (h : ∃ (r3 : Int32) (σ1 : Hp), Call E mX8_isSheet [.int x1] σ (some (.int r3)) σ1 ∧ ((r3 = 0 → Φ (some (.int (-2))) σ1) ∧ (¬ r3 = 0 → ∃ (r7 : Int32) (σ5 : Hp), Call E mX8_in [.int x2, .int 0, .int 2] σ1 (some (.int r7)) σ5 ∧ ((r7 = 0 → Φ (some (.int (-2))) σ5) ∧ (¬ r7 = 0 → ((x3 ≤ 60 → ((0 ≤ x3 → vp_in x1 4 ∧ Ru E mX8_sheet 59 [(0, .ref 53), (1, .int x1), (2, .int x2), (3, .int x3), (4, .int 0)] [] (up (up (up σ5 86 ((x1).toNatClampNeg) 1) 87 ((x1).toNatClampNeg) x2) 88 ((x1).toNatClampNeg) x3) Φ) ∧ (¬ 0 ≤ x3 → ∃ (r16 : Int32) (σ14 : Hp), Call E mX8_marks [.ref 53, .int 5] σ5 (some (.int r16)) σ14 ∧ Φ (some (.int r16)) σ14))) ∧ (¬ x3 ≤ 60 → Φ (some (.int (-2))) σ5))))))) : Ru E mX8_sheet 0 [(0, .ref 53), (1, .int x1), (2, .int x2), (3, .int x3)] [] σ Φ := by
  refine s_iload_n 1 (pc := 0) dX8_sheet_0 rfl rfl ?_
  obtain ⟨r3, σ1, hk2, h⟩ := h
  refine s_callS (S := []) [.int x1] (pc := 1) dX8_sheet_1 ms_X8_isSheet ml_X8_169 ⟨Nat.le_of_ble_eq_true rfl, Nat.le_of_ble_eq_true rfl⟩ rfl rfl (Nat.le_of_ble_eq_true rfl) hk2 ?_
  refine s_if_eq (pc := 4) (tgt := 22) dX8_sheet_4 rfl (fun q4 => ?_) (fun q4 => ?_)
  · replace h := h.1 q4
    refine s_bipush (v := (-2)) (pc := 22) dX8_sheet_22 rfl ?_
    exact s_ret (r := some (.int (-2))) ⟨dX8_sheet_24, fun ty e => by cases e; rfl⟩ rfl h
  · replace h := h.2 q4
    refine s_iload_n 2 (pc := 7) dX8_sheet_7 rfl rfl ?_
    refine s_iconst (v := 0) (pc := 8) dX8_sheet_8 rfl ?_
    refine s_iconst (v := 2) (pc := 9) dX8_sheet_9 rfl ?_
    obtain ⟨r7, σ5, hk6, h⟩ := h
    refine s_callS (S := []) [.int x2, .int 0, .int 2] (pc := 10) dX8_sheet_10 ms_X8_in ml_X8_124 ⟨Nat.le_of_ble_eq_true rfl, Nat.le_of_ble_eq_true rfl⟩ rfl rfl (Nat.le_of_ble_eq_true rfl) hk6 ?_
    refine s_if_eq (pc := 13) (tgt := 22) dX8_sheet_13 rfl (fun q8 => ?_) (fun q8 => ?_)
    · replace h := h.1 q8
      refine s_bipush (v := (-2)) (pc := 22) dX8_sheet_22 rfl ?_
      exact s_ret (r := some (.int (-2))) ⟨dX8_sheet_24, fun ty e => by cases e; rfl⟩ rfl h
    · replace h := h.2 q8
      refine s_iload_n 3 (pc := 16) dX8_sheet_16 rfl rfl ?_
      refine s_bipush (v := 60) (pc := 17) dX8_sheet_17 rfl ?_
      refine s_icmp_le (pc := 19) (tgt := 25) dX8_sheet_19 rfl (fun q9 => ?_) (fun q9 => ?_)
      · replace h := h.1 q9
        refine s_iload_n 3 (pc := 25) dX8_sheet_25 rfl rfl ?_
        refine s_if_ge (pc := 26) (tgt := 35) dX8_sheet_26 rfl (fun q10 => ?_) (fun q10 => ?_)
        · replace h := h.1 q10
          refine s_aload_n 0 (pc := 35) dX8_sheet_35 rfl rfl ?_
          refine s_getR (q := 86) (pc := 36) dX8_sheet_36 fl_X8_106 ly53 rfl ?_
          refine s_iload_n 1 (pc := 39) dX8_sheet_39 rfl rfl ?_
          refine s_iconst (v := 1) (pc := 40) dX8_sheet_40 rfl ?_
          have hv11 := h.1
          replace h := h.2
          refine s_zast (pc := 41) dX8_sheet_41 ly86 hv11 (by decide) ?_
          refine s_aload_n 0 (pc := 42) dX8_sheet_42 rfl rfl ?_
          refine s_getR (q := 87) (pc := 43) dX8_sheet_43 fl_X8_110 ly53 rfl ?_
          refine s_iload_n 1 (pc := 46) dX8_sheet_46 rfl rfl ?_
          refine s_iload_n 2 (pc := 47) dX8_sheet_47 rfl rfl ?_
          refine s_iast (pc := 48) dX8_sheet_48 ly87 hv11 ?_
          refine s_aload_n 0 (pc := 49) dX8_sheet_49 rfl rfl ?_
          refine s_getR (q := 88) (pc := 50) dX8_sheet_50 fl_X8_113 ly53 rfl ?_
          refine s_iload_n 1 (pc := 53) dX8_sheet_53 rfl rfl ?_
          refine s_iload_n 3 (pc := 54) dX8_sheet_54 rfl rfl ?_
          refine s_iast (pc := 55) dX8_sheet_55 ly88 hv11 ?_
          refine s_iconst (v := 0) (pc := 56) dX8_sheet_56 rfl ?_
          refine s_istore (L' := [(4, .int 0), (0, .ref 53), (1, .int x1), (2, .int x2), (3, .int x3)]) (pc := 57) dX8_sheet_57 (Nat.le_of_ble_eq_true rfl) rfl ?_
          exact s_sub (L' := [(0, .ref 53), (1, .int x1), (2, .int x2), (3, .int x3), (4, .int 0)]) [1, 2, 3, 4, 0] rfl h
        · replace h := h.2 q10
          refine s_aload_n 0 (pc := 29) dX8_sheet_29 rfl rfl ?_
          refine s_iconst (v := 5) (pc := 30) dX8_sheet_30 rfl ?_
          obtain ⟨r16, σ14, hk15, h⟩ := h
          refine s_callV (S := []) [.int 5] (pc := 31) dX8_sheet_31 mv_X8_marks ml_X8_172 ⟨Nat.le_of_ble_eq_true rfl, Nat.le_of_ble_eq_true rfl⟩ rfl rfl ly53 rfl rfl (Nat.le_of_ble_eq_true rfl) hk15 ?_
          exact s_ret (r := some (.int r16)) ⟨dX8_sheet_34, fun ty e => by cases e; rfl⟩ rfl h
      · replace h := h.2 q9
        refine s_bipush (v := (-2)) (pc := 22) dX8_sheet_22 rfl ?_
        exact s_ret (r := some (.int (-2))) ⟨dX8_sheet_24, fun ty e => by cases e; rfl⟩ rfl h
set_option maxRecDepth 10000 in
set_option maxHeartbeats 4000000 in
theorem tX8_sheet_59 {E : Ev} {x1 : Int32} {x2 : Int32} {x3 : Int32} {x4 : Int32} {σ : Hp} {Φ : Option Value → Hp → Prop}  (h : ((60 ≤ x4 → Φ (some (.int x3)) σ) ∧ (¬ 60 ≤ x4 → vp_in ((60 * x1) + x4) 240 ∧ Ru E mX8_sheet 59 [(0, .ref 53), (1, .int x1), (2, .int x2), (3, .int x3), (4, .int (x4 + 1))] [] (up σ 89 (((60 * x1) + x4).toNatClampNeg) 0) Φ))) : Ru E mX8_sheet 59 [(0, .ref 53), (1, .int x1), (2, .int x2), (3, .int x3), (4, .int x4)] [] σ Φ := by
  refine s_iload 4 (pc := 59) dX8_sheet_59 rfl ?_
  refine s_bipush (v := 60) (pc := 61) dX8_sheet_61 rfl ?_
  refine s_icmp_ge (pc := 63) (tgt := 85) dX8_sheet_63 rfl (fun q1 => ?_) (fun q1 => ?_)
  · replace h := h.1 q1
    refine s_iload_n 3 (pc := 85) dX8_sheet_85 rfl rfl ?_
    exact s_ret (r := some (.int x3)) ⟨dX8_sheet_86, fun ty e => by cases e; rfl⟩ rfl h
  · replace h := h.2 q1
    refine s_aload_n 0 (pc := 66) dX8_sheet_66 rfl rfl ?_
    refine s_getR (q := 89) (pc := 67) dX8_sheet_67 fl_X8_116 ly53 rfl ?_
    refine s_bipush (v := 60) (pc := 70) dX8_sheet_70 rfl ?_
    refine s_iload_n 1 (pc := 72) dX8_sheet_72 rfl rfl ?_
    refine s_imul (pc := 73) dX8_sheet_73 ?_
    refine s_iload 4 (pc := 74) dX8_sheet_74 rfl ?_
    refine s_iadd (pc := 76) dX8_sheet_76 ?_
    refine s_iconst (v := 0) (pc := 77) dX8_sheet_77 rfl ?_
    have hv2 := h.1
    replace h := h.2
    refine s_iast (pc := 78) dX8_sheet_78 ly89 hv2 ?_
    refine s_iinc (v := x4 + 1) (L' := [(4, .int (x4 + 1)), (0, .ref 53), (1, .int x1), (2, .int x2), (3, .int x3)]) 4 (pc := 79) dX8_sheet_79 rfl rfl (Nat.le_of_ble_eq_true rfl) rfl ?_
    refine s_goto (pc := 82) (tgt := 59) dX8_sheet_82 rfl ?_
    exact s_sub (L' := [(0, .ref 53), (1, .int x1), (2, .int x2), (3, .int x3), (4, .int (x4 + 1))]) [1, 2, 3, 4, 0] rfl h
set_option maxRecDepth 10000 in
set_option maxHeartbeats 4000000 in
theorem tX8_lose_0 {E : Ev} {x1 : Int32} {σ : Hp} {Φ : Option Value → Hp → Prop}  (h : ∃ (r3 : Int32) (σ1 : Hp), Call E mX8_isSheet [.int x1] σ (some (.int r3)) σ1 ∧ ((¬ r3 = 0 → vp_in x1 4 ∧ ((¬ (σ1 86 ((x1).toNatClampNeg)) = 0 → Φ (some (.int (σ1 88 ((x1).toNatClampNeg)))) (up σ1 86 ((x1).toNatClampNeg) 0)) ∧ ((σ1 86 ((x1).toNatClampNeg)) = 0 → ∃ (r11 : Int32) (σ9 : Hp), Call E mX8_marks [.ref 53, .int 1] σ1 (some (.int r11)) σ9 ∧ Φ (some (.int r11)) σ9))) ∧ (r3 = 0 → Φ (some (.int (-2))) σ1))) : Ru E mX8_lose 0 [(0, .ref 53), (1, .int x1)] [] σ Φ := by
  refine s_iload_n 1 (pc := 0) dX8_lose_0 rfl rfl ?_
  obtain ⟨r3, σ1, hk2, h⟩ := h
  refine s_callS (S := []) [.int x1] (pc := 1) dX8_lose_1 ms_X8_isSheet ml_X8_169 ⟨Nat.le_of_ble_eq_true rfl, Nat.le_of_ble_eq_true rfl⟩ rfl rfl (Nat.le_of_ble_eq_true rfl) hk2 ?_
  refine s_if_ne (pc := 4) (tgt := 10) dX8_lose_4 rfl (fun q4 => ?_) (fun q4 => ?_)
  · replace h := h.1 q4
    refine s_aload_n 0 (pc := 10) dX8_lose_10 rfl rfl ?_
    refine s_getR (q := 86) (pc := 11) dX8_lose_11 fl_X8_106 ly53 rfl ?_
    refine s_iload_n 1 (pc := 14) dX8_lose_14 rfl rfl ?_
    have hv5 := h.1
    replace h := h.2
    refine s_zald (pc := 15) dX8_lose_15 ly86 hv5 ?_
    refine s_if_ne (pc := 16) (tgt := 25) dX8_lose_16 rfl (fun q6 => ?_) (fun q6 => ?_)
    · replace h := h.1 q6
      refine s_aload_n 0 (pc := 25) dX8_lose_25 rfl rfl ?_
      refine s_getR (q := 86) (pc := 26) dX8_lose_26 fl_X8_106 ly53 rfl ?_
      refine s_iload_n 1 (pc := 29) dX8_lose_29 rfl rfl ?_
      refine s_iconst (v := 0) (pc := 30) dX8_lose_30 rfl ?_
      refine s_zast (pc := 31) dX8_lose_31 ly86 hv5 (by decide) ?_
      refine s_aload_n 0 (pc := 32) dX8_lose_32 rfl rfl ?_
      refine s_getR (q := 88) (pc := 33) dX8_lose_33 fl_X8_113 ly53 rfl ?_
      refine s_iload_n 1 (pc := 36) dX8_lose_36 rfl rfl ?_
      refine s_iald (pc := 37) dX8_lose_37 ly88 hv5 ?_
      rw [show (up σ1 86 ((x1).toNatClampNeg) 0) 88 (x1).toNatClampNeg = σ1 88 ((x1).toNatClampNeg) from (by simp [up])]
      exact s_ret (r := some (.int (σ1 88 ((x1).toNatClampNeg)))) ⟨dX8_lose_38, fun ty e => by cases e; rfl⟩ rfl h
    · replace h := h.2 q6
      refine s_aload_n 0 (pc := 19) dX8_lose_19 rfl rfl ?_
      refine s_iconst (v := 1) (pc := 20) dX8_lose_20 rfl ?_
      obtain ⟨r11, σ9, hk10, h⟩ := h
      refine s_callV (S := []) [.int 1] (pc := 21) dX8_lose_21 mv_X8_marks ml_X8_172 ⟨Nat.le_of_ble_eq_true rfl, Nat.le_of_ble_eq_true rfl⟩ rfl rfl ly53 rfl rfl (Nat.le_of_ble_eq_true rfl) hk10 ?_
      exact s_ret (r := some (.int r11)) ⟨dX8_lose_24, fun ty e => by cases e; rfl⟩ rfl h
  · replace h := h.2 q4
    refine s_bipush (v := (-2)) (pc := 7) dX8_lose_7 rfl ?_
    exact s_ret (r := some (.int (-2))) ⟨dX8_lose_9, fun ty e => by cases e; rfl⟩ rfl h
set_option maxRecDepth 10000 in
set_option maxHeartbeats 4000000 in
theorem tX8_lacks_0 {E : Ev} {x1 : Int32} {x2 : Int32} {x3 : Int32} {σ : Hp} {Φ : Option Value → Hp → Prop}  (h : vp_in x1 4 ∧ ((¬ (σ 86 ((x1).toNatClampNeg)) = 0 → (((σ 87 ((x1).toNatClampNeg)) = x2 → ∃ (r8 : Int32) (σ6 : Hp), Call E mX8_in [.int x3, .int 0, .int ((σ 88 ((x1).toNatClampNeg)) - 1)] σ (some (.int r8)) σ6 ∧ ((r8 = 0 → Φ (some (.int 2)) σ6) ∧ (¬ r8 = 0 → Φ (some (.int 0)) σ6))) ∧ (¬ (σ 87 ((x1).toNatClampNeg)) = x2 → Φ (some (.int 3)) σ))) ∧ ((σ 86 ((x1).toNatClampNeg)) = 0 → Φ (some (.int 1)) σ))) : Ru E mX8_lacks 0 [(0, .ref 53), (1, .int x1), (2, .int x2), (3, .int x3)] [] σ Φ := by
  refine s_aload_n 0 (pc := 0) dX8_lacks_0 rfl rfl ?_
  refine s_getR (q := 86) (pc := 1) dX8_lacks_1 fl_X8_106 ly53 rfl ?_
  refine s_iload_n 1 (pc := 4) dX8_lacks_4 rfl rfl ?_
  have hv1 := h.1
  replace h := h.2
  refine s_zald (pc := 5) dX8_lacks_5 ly86 hv1 ?_
  refine s_if_ne (pc := 6) (tgt := 13) dX8_lacks_6 rfl (fun q2 => ?_) (fun q2 => ?_)
  · replace h := h.1 q2
    refine s_aload_n 0 (pc := 13) dX8_lacks_13 rfl rfl ?_
    refine s_getR (q := 87) (pc := 14) dX8_lacks_14 fl_X8_110 ly53 rfl ?_
    refine s_iload_n 1 (pc := 17) dX8_lacks_17 rfl rfl ?_
    refine s_iald (pc := 18) dX8_lacks_18 ly87 hv1 ?_
    refine s_iload_n 2 (pc := 19) dX8_lacks_19 rfl rfl ?_
    refine s_icmp_eq (pc := 20) (tgt := 27) dX8_lacks_20 rfl (fun q4 => ?_) (fun q4 => ?_)
    · replace h := h.1 q4
      refine s_iload_n 3 (pc := 27) dX8_lacks_27 rfl rfl ?_
      refine s_iconst (v := 0) (pc := 28) dX8_lacks_28 rfl ?_
      refine s_aload_n 0 (pc := 29) dX8_lacks_29 rfl rfl ?_
      refine s_getR (q := 88) (pc := 30) dX8_lacks_30 fl_X8_113 ly53 rfl ?_
      refine s_iload_n 1 (pc := 33) dX8_lacks_33 rfl rfl ?_
      refine s_iald (pc := 34) dX8_lacks_34 ly88 hv1 ?_
      refine s_iconst (v := 1) (pc := 35) dX8_lacks_35 rfl ?_
      refine s_isub (pc := 36) dX8_lacks_36 ?_
      obtain ⟨r8, σ6, hk7, h⟩ := h
      refine s_callS (S := []) [.int x3, .int 0, .int ((σ 88 ((x1).toNatClampNeg)) - 1)] (pc := 37) dX8_lacks_37 ms_X8_in ml_X8_124 ⟨Nat.le_of_ble_eq_true rfl, Nat.le_of_ble_eq_true rfl⟩ rfl rfl (Nat.le_of_ble_eq_true rfl) hk7 ?_
      refine s_if_eq (pc := 40) (tgt := 47) dX8_lacks_40 rfl (fun q9 => ?_) (fun q9 => ?_)
      · replace h := h.1 q9
        refine s_iconst (v := 2) (pc := 47) dX8_lacks_47 rfl ?_
        exact s_ret (r := some (.int 2)) ⟨dX8_lacks_48, fun ty e => by cases e; rfl⟩ rfl h
      · replace h := h.2 q9
        refine s_iconst (v := 0) (pc := 43) dX8_lacks_43 rfl ?_
        refine s_goto (pc := 44) (tgt := 48) dX8_lacks_44 rfl ?_
        exact s_ret (r := some (.int 0)) ⟨dX8_lacks_48, fun ty e => by cases e; rfl⟩ rfl h
    · replace h := h.2 q4
      refine s_iconst (v := 3) (pc := 23) dX8_lacks_23 rfl ?_
      refine s_goto (pc := 24) (tgt := 48) dX8_lacks_24 rfl ?_
      exact s_ret (r := some (.int 3)) ⟨dX8_lacks_48, fun ty e => by cases e; rfl⟩ rfl h
  · replace h := h.2 q2
    refine s_iconst (v := 1) (pc := 9) dX8_lacks_9 rfl ?_
    refine s_goto (pc := 10) (tgt := 48) dX8_lacks_10 rfl ?_
    exact s_ret (r := some (.int 1)) ⟨dX8_lacks_48, fun ty e => by cases e; rfl⟩ rfl h
set_option maxRecDepth 10000 in
set_option maxHeartbeats 4000000 in
theorem tX8_keep_0 {E : Ev} {x1 : Int32} {x2 : Int32} {x3 : Int32} {σ : Hp} {Φ : Option Value → Hp → Prop}  (h : vp_in x1 4 ∧ ((¬ (σ 87 ((x1).toNatClampNeg)) = 0 → ((¬ (σ 87 ((x1).toNatClampNeg)) = 1 → vp_in ((60 * x1) + x2) 240 ∧ Φ none (up σ 89 (((60 * x1) + x2).toNatClampNeg) x3)) ∧ ((σ 87 ((x1).toNatClampNeg)) = 1 → vp_in ((60 * x1) + x2) 240 ∧ Φ none (up σ 89 (((60 * x1) + x2).toNatClampNeg) ((Int32.toInt16 x3).toInt32))))) ∧ ((σ 87 ((x1).toNatClampNeg)) = 0 → vp_in ((60 * x1) + x2) 240 ∧ Φ none (up σ 89 (((60 * x1) + x2).toNatClampNeg) ((Int32.toInt8 x3).toInt32))))) : Ru E mX8_keep 0 [(0, .ref 53), (1, .int x1), (2, .int x2), (3, .int x3)] [] σ Φ := by
  refine s_aload_n 0 (pc := 0) dX8_keep_0 rfl rfl ?_
  refine s_getR (q := 89) (pc := 1) dX8_keep_1 fl_X8_116 ly53 rfl ?_
  refine s_bipush (v := 60) (pc := 4) dX8_keep_4 rfl ?_
  refine s_iload_n 1 (pc := 6) dX8_keep_6 rfl rfl ?_
  refine s_imul (pc := 7) dX8_keep_7 ?_
  refine s_iload_n 2 (pc := 8) dX8_keep_8 rfl rfl ?_
  refine s_iadd (pc := 9) dX8_keep_9 ?_
  refine s_aload_n 0 (pc := 10) dX8_keep_10 rfl rfl ?_
  refine s_getR (q := 87) (pc := 11) dX8_keep_11 fl_X8_110 ly53 rfl ?_
  refine s_iload_n 1 (pc := 14) dX8_keep_14 rfl rfl ?_
  have hv1 := h.1
  replace h := h.2
  refine s_iald (pc := 15) dX8_keep_15 ly87 hv1 ?_
  refine s_if_ne (pc := 16) (tgt := 24) dX8_keep_16 rfl (fun q2 => ?_) (fun q2 => ?_)
  · replace h := h.1 q2
    refine s_aload_n 0 (pc := 24) dX8_keep_24 rfl rfl ?_
    refine s_getR (q := 87) (pc := 25) dX8_keep_25 fl_X8_110 ly53 rfl ?_
    refine s_iload_n 1 (pc := 28) dX8_keep_28 rfl rfl ?_
    refine s_iald (pc := 29) dX8_keep_29 ly87 hv1 ?_
    refine s_iconst (v := 1) (pc := 30) dX8_keep_30 rfl ?_
    refine s_icmp_ne (pc := 31) (tgt := 39) dX8_keep_31 rfl (fun q4 => ?_) (fun q4 => ?_)
    · replace h := h.1 q4
      refine s_iload_n 3 (pc := 39) dX8_keep_39 rfl rfl ?_
      have hv5 := h.1
      replace h := h.2
      refine s_iast (pc := 40) dX8_keep_40 ly89 hv5 ?_
      exact s_ret (r := none) dX8_keep_41 rfl h
    · replace h := h.2 q4
      refine s_iload_n 3 (pc := 34) dX8_keep_34 rfl rfl ?_
      refine s_i2s (pc := 35) dX8_keep_35 ?_
      refine s_goto (pc := 36) (tgt := 40) dX8_keep_36 rfl ?_
      have hv6 := h.1
      replace h := h.2
      refine s_iast (pc := 40) dX8_keep_40 ly89 hv6 ?_
      exact s_ret (r := none) dX8_keep_41 rfl h
  · replace h := h.2 q2
    refine s_iload_n 3 (pc := 19) dX8_keep_19 rfl rfl ?_
    refine s_i2b (pc := 20) dX8_keep_20 ?_
    refine s_goto (pc := 21) (tgt := 40) dX8_keep_21 rfl ?_
    have hv7 := h.1
    replace h := h.2
    refine s_iast (pc := 40) dX8_keep_40 ly89 hv7 ?_
    exact s_ret (r := none) dX8_keep_41 rfl h
set_option maxRecDepth 10000 in
set_option maxHeartbeats 4000000 in
theorem tX8_put_0 {E : Ev} {x1 : Int32} {x2 : Int32} {x3 : Int32} {x4 : Int32} {σ : Hp} {Φ : Option Value → Hp → Prop}  (h : ∃ (r3 : Int32) (σ1 : Hp), Call E mX8_isSheet [.int x1] σ (some (.int r3)) σ1 ∧ ((r3 = 0 → Φ (some (.int (-2))) σ1) ∧ (¬ r3 = 0 → ∃ (r7 : Int32) (σ5 : Hp), Call E mX8_in [.int x2, .int 0, .int 2] σ1 (some (.int r7)) σ5 ∧ ((¬ r7 = 0 → ∃ (r11 : Int32) (σ9 : Hp), Call E mX8_lacks [.ref 53, .int x1, .int x2, .int x3] σ5 (some (.int r11)) σ9 ∧ ((r11 ≤ 0 → ∃ σ13 : Hp, Call E mX8_keep [.ref 53, .int x1, .int x3, .int x4] σ9 none σ13 ∧ Φ (some (.int 1)) σ13) ∧ (¬ r11 ≤ 0 → ∃ (r17 : Int32) (σ15 : Hp), Call E mX8_marks [.ref 53, .int r11] σ9 (some (.int r17)) σ15 ∧ Φ (some (.int r17)) σ15))) ∧ (r7 = 0 → Φ (some (.int (-2))) σ5))))) : Ru E mX8_put 0 [(0, .ref 53), (1, .int x1), (2, .int x2), (3, .int x3), (4, .int x4)] [] σ Φ := by
  refine s_iload_n 1 (pc := 0) dX8_put_0 rfl rfl ?_
  obtain ⟨r3, σ1, hk2, h⟩ := h
  refine s_callS (S := []) [.int x1] (pc := 1) dX8_put_1 ms_X8_isSheet ml_X8_169 ⟨Nat.le_of_ble_eq_true rfl, Nat.le_of_ble_eq_true rfl⟩ rfl rfl (Nat.le_of_ble_eq_true rfl) hk2 ?_
  refine s_if_eq (pc := 4) (tgt := 16) dX8_put_4 rfl (fun q4 => ?_) (fun q4 => ?_)
  · replace h := h.1 q4
    refine s_bipush (v := (-2)) (pc := 16) dX8_put_16 rfl ?_
    exact s_ret (r := some (.int (-2))) ⟨dX8_put_18, fun ty e => by cases e; rfl⟩ rfl h
  · replace h := h.2 q4
    refine s_iload_n 2 (pc := 7) dX8_put_7 rfl rfl ?_
    refine s_iconst (v := 0) (pc := 8) dX8_put_8 rfl ?_
    refine s_iconst (v := 2) (pc := 9) dX8_put_9 rfl ?_
    obtain ⟨r7, σ5, hk6, h⟩ := h
    refine s_callS (S := []) [.int x2, .int 0, .int 2] (pc := 10) dX8_put_10 ms_X8_in ml_X8_124 ⟨Nat.le_of_ble_eq_true rfl, Nat.le_of_ble_eq_true rfl⟩ rfl rfl (Nat.le_of_ble_eq_true rfl) hk6 ?_
    refine s_if_ne (pc := 13) (tgt := 19) dX8_put_13 rfl (fun q8 => ?_) (fun q8 => ?_)
    · replace h := h.1 q8
      refine s_aload_n 0 (pc := 19) dX8_put_19 rfl rfl ?_
      refine s_iload_n 1 (pc := 20) dX8_put_20 rfl rfl ?_
      refine s_iload_n 2 (pc := 21) dX8_put_21 rfl rfl ?_
      refine s_iload_n 3 (pc := 22) dX8_put_22 rfl rfl ?_
      obtain ⟨r11, σ9, hk10, h⟩ := h
      refine s_callV (S := []) [.int x1, .int x2, .int x3] (pc := 23) dX8_put_23 mv_X8_lacks ml_X8_331 ⟨Nat.le_of_ble_eq_true rfl, Nat.le_of_ble_eq_true rfl⟩ rfl rfl ly53 rfl rfl (Nat.le_of_ble_eq_true rfl) hk10 ?_
      refine s_istore (L' := [(5, .int r11), (0, .ref 53), (1, .int x1), (2, .int x2), (3, .int x3), (4, .int x4)]) (pc := 26) dX8_put_26 (Nat.le_of_ble_eq_true rfl) rfl ?_
      refine s_iload 0 (pc := 28) dX8_put_28 rfl ?_
      refine s_if_le (pc := 30) (tgt := 40) dX8_put_30 rfl (fun q12 => ?_) (fun q12 => ?_)
      · replace h := h.1 q12
        refine s_aload_n 1 (pc := 40) dX8_put_40 rfl rfl ?_
        refine s_iload_n 2 (pc := 41) dX8_put_41 rfl rfl ?_
        refine s_iload_n 4 (pc := 42) dX8_put_42 rfl rfl ?_
        refine s_iload 5 (pc := 43) dX8_put_43 rfl ?_
        obtain ⟨σ13, hk14, h⟩ := h
        refine s_callV (S := []) [.int x1, .int x3, .int x4] (pc := 45) dX8_put_45 mv_X8_keep ml_X8_334 ⟨Nat.le_of_ble_eq_true rfl, Nat.le_of_ble_eq_true rfl⟩ rfl rfl ly53 rfl rfl (Nat.le_of_ble_eq_true rfl) hk14 ?_
        refine s_iconst (v := 1) (pc := 48) dX8_put_48 rfl ?_
        exact s_ret (r := some (.int 1)) ⟨dX8_put_49, fun ty e => by cases e; rfl⟩ rfl h
      · replace h := h.2 q12
        refine s_aload_n 1 (pc := 33) dX8_put_33 rfl rfl ?_
        refine s_iload 0 (pc := 34) dX8_put_34 rfl ?_
        obtain ⟨r17, σ15, hk16, h⟩ := h
        refine s_callV (S := []) [.int r11] (pc := 36) dX8_put_36 mv_X8_marks ml_X8_172 ⟨Nat.le_of_ble_eq_true rfl, Nat.le_of_ble_eq_true rfl⟩ rfl rfl ly53 rfl rfl (Nat.le_of_ble_eq_true rfl) hk16 ?_
        exact s_ret (r := some (.int r17)) ⟨dX8_put_39, fun ty e => by cases e; rfl⟩ rfl h
    · replace h := h.2 q8
      refine s_bipush (v := (-2)) (pc := 16) dX8_put_16 rfl ?_
      exact s_ret (r := some (.int (-2))) ⟨dX8_put_18, fun ty e => by cases e; rfl⟩ rfl h
set_option maxRecDepth 10000 in
set_option maxHeartbeats 4000000 in
theorem tX8_get_0 {E : Ev} {x1 : Int32} {x2 : Int32} {x3 : Int32} {σ : Hp} {Φ : Option Value → Hp → Prop}  (h : ∃ (r3 : Int32) (σ1 : Hp), Call E mX8_isSheet [.int x1] σ (some (.int r3)) σ1 ∧ ((r3 = 0 → Φ (some (.int (-2147483648))) σ1) ∧ (¬ r3 = 0 → ∃ (r7 : Int32) (σ5 : Hp), Call E mX8_in [.int x2, .int 0, .int 2] σ1 (some (.int r7)) σ5 ∧ ((¬ r7 = 0 → ∃ (r11 : Int32) (σ9 : Hp), Call E mX8_lacks [.ref 53, .int x1, .int x2, .int x3] σ5 (some (.int r11)) σ9 ∧ ((r11 ≤ 0 → vp_in ((60 * x1) + x3) 240 ∧ Φ (some (.int (σ9 89 (((60 * x1) + x3).toNatClampNeg)))) σ9) ∧ (¬ r11 ≤ 0 → Φ (some (.int (-2147483648))) (up σ9 53 44 r11)))) ∧ (r7 = 0 → Φ (some (.int (-2147483648))) σ5))))) : Ru E mX8_get 0 [(0, .ref 53), (1, .int x1), (2, .int x2), (3, .int x3)] [] σ Φ := by
  refine s_iload_n 1 (pc := 0) dX8_get_0 rfl rfl ?_
  obtain ⟨r3, σ1, hk2, h⟩ := h
  refine s_callS (S := []) [.int x1] (pc := 1) dX8_get_1 ms_X8_isSheet ml_X8_169 ⟨Nat.le_of_ble_eq_true rfl, Nat.le_of_ble_eq_true rfl⟩ rfl rfl (Nat.le_of_ble_eq_true rfl) hk2 ?_
  refine s_if_eq (pc := 4) (tgt := 16) dX8_get_4 rfl (fun q4 => ?_) (fun q4 => ?_)
  · replace h := h.1 q4
    refine s_ldc (v := (-2147483648)) (pc := 16) dX8_get_16 ct_X8_234 ?_
    exact s_ret (r := some (.int (-2147483648))) ⟨dX8_get_18, fun ty e => by cases e; rfl⟩ rfl h
  · replace h := h.2 q4
    refine s_iload_n 2 (pc := 7) dX8_get_7 rfl rfl ?_
    refine s_iconst (v := 0) (pc := 8) dX8_get_8 rfl ?_
    refine s_iconst (v := 2) (pc := 9) dX8_get_9 rfl ?_
    obtain ⟨r7, σ5, hk6, h⟩ := h
    refine s_callS (S := []) [.int x2, .int 0, .int 2] (pc := 10) dX8_get_10 ms_X8_in ml_X8_124 ⟨Nat.le_of_ble_eq_true rfl, Nat.le_of_ble_eq_true rfl⟩ rfl rfl (Nat.le_of_ble_eq_true rfl) hk6 ?_
    refine s_if_ne (pc := 13) (tgt := 19) dX8_get_13 rfl (fun q8 => ?_) (fun q8 => ?_)
    · replace h := h.1 q8
      refine s_aload_n 0 (pc := 19) dX8_get_19 rfl rfl ?_
      refine s_iload_n 1 (pc := 20) dX8_get_20 rfl rfl ?_
      refine s_iload_n 2 (pc := 21) dX8_get_21 rfl rfl ?_
      refine s_iload_n 3 (pc := 22) dX8_get_22 rfl rfl ?_
      obtain ⟨r11, σ9, hk10, h⟩ := h
      refine s_callV (S := []) [.int x1, .int x2, .int x3] (pc := 23) dX8_get_23 mv_X8_lacks ml_X8_331 ⟨Nat.le_of_ble_eq_true rfl, Nat.le_of_ble_eq_true rfl⟩ rfl rfl ly53 rfl rfl (Nat.le_of_ble_eq_true rfl) hk10 ?_
      refine s_istore (L' := [(4, .int r11), (0, .ref 53), (1, .int x1), (2, .int x2), (3, .int x3)]) (pc := 26) dX8_get_26 (Nat.le_of_ble_eq_true rfl) rfl ?_
      refine s_iload 0 (pc := 28) dX8_get_28 rfl ?_
      refine s_if_le (pc := 30) (tgt := 42) dX8_get_30 rfl (fun q12 => ?_) (fun q12 => ?_)
      · replace h := h.1 q12
        refine s_aload_n 1 (pc := 42) dX8_get_42 rfl rfl ?_
        refine s_getR (q := 89) (pc := 43) dX8_get_43 fl_X8_116 ly53 rfl ?_
        refine s_bipush (v := 60) (pc := 46) dX8_get_46 rfl ?_
        refine s_iload_n 2 (pc := 48) dX8_get_48 rfl rfl ?_
        refine s_imul (pc := 49) dX8_get_49 ?_
        refine s_iload_n 4 (pc := 50) dX8_get_50 rfl rfl ?_
        refine s_iadd (pc := 51) dX8_get_51 ?_
        have hv13 := h.1
        replace h := h.2
        refine s_iald (pc := 52) dX8_get_52 ly89 hv13 ?_
        exact s_ret (r := some (.int (σ9 89 (((60 * x1) + x3).toNatClampNeg)))) ⟨dX8_get_53, fun ty e => by cases e; rfl⟩ rfl h
      · replace h := h.2 q12
        refine s_aload_n 1 (pc := 33) dX8_get_33 rfl rfl ?_
        refine s_iload 0 (pc := 34) dX8_get_34 rfl ?_
        refine s_put (ty := .int) (pc := 36) dX8_get_36 fp_X8_328 ly53 rfl rfl rfl ?_
        refine s_ldc (v := (-2147483648)) (pc := 39) dX8_get_39 ct_X8_234 ?_
        exact s_ret (r := some (.int (-2147483648))) ⟨dX8_get_41, fun ty e => by cases e; rfl⟩ rfl h
    · replace h := h.2 q8
      refine s_ldc (v := (-2147483648)) (pc := 16) dX8_get_16 ct_X8_234 ?_
      exact s_ret (r := some (.int (-2147483648))) ⟨dX8_get_18, fun ty e => by cases e; rfl⟩ rfl h
set_option maxRecDepth 10000 in
set_option maxHeartbeats 4000000 in
theorem tX8_copy_0 {E : Ev} {x1 : Int32} {x2 : Int32} {x3 : Int32} {x4 : Int32} {x5 : Int32} {σ : Hp} {Φ : Option Value → Hp → Prop}  (h : ∃ (r3 : Int32) (σ1 : Hp), Call E mX8_isSheet [.int x1] σ (some (.int r3)) σ1 ∧ ((r3 = 0 → Φ (some (.int (-2))) σ1) ∧ (¬ r3 = 0 → ∃ (r7 : Int32) (σ5 : Hp), Call E mX8_isSheet [.int x3] σ1 (some (.int r7)) σ5 ∧ ((¬ r7 = 0 → vp_in x1 4 ∧ (((σ5 86 ((x1).toNatClampNeg)) = 0 → ∃ (r13 : Int32) (σ11 : Hp), Call E mX8_marks [.ref 53, .int 1] σ5 (some (.int r13)) σ11 ∧ Φ (some (.int r13)) σ11) ∧ (¬ (σ5 86 ((x1).toNatClampNeg)) = 0 → vp_in x3 4 ∧ ((¬ (σ5 86 ((x3).toNatClampNeg)) = 0 → (((σ5 87 ((x1).toNatClampNeg)) = (σ5 87 ((x3).toNatClampNeg)) → ((x2 < 0 → ∃ (r22 : Int32) (σ20 : Hp), Call E mX8_marks [.ref 53, .int 2] σ5 (some (.int r22)) σ20 ∧ Φ (some (.int r22)) σ20) ∧ (¬ x2 < 0 → ((x4 < 0 → ∃ (r26 : Int32) (σ24 : Hp), Call E mX8_marks [.ref 53, .int 2] σ5 (some (.int r26)) σ24 ∧ Φ (some (.int r26)) σ24) ∧ (¬ x4 < 0 → ((x5 < 0 → ∃ (r30 : Int32) (σ28 : Hp), Call E mX8_marks [.ref 53, .int 2] σ5 (some (.int r30)) σ28 ∧ Φ (some (.int r30)) σ28) ∧ (¬ x5 < 0 → ((0 < (lg_cmp ((Int32.toInt64 x2) + (Int32.toInt64 x5)) (Int32.toInt64 (σ5 88 ((x1).toNatClampNeg)))) → ∃ (r35 : Int32) (σ33 : Hp), Call E mX8_marks [.ref 53, .int 2] σ5 (some (.int r35)) σ33 ∧ Φ (some (.int r35)) σ33) ∧ (¬ 0 < (lg_cmp ((Int32.toInt64 x2) + (Int32.toInt64 x5)) (Int32.toInt64 (σ5 88 ((x1).toNatClampNeg)))) → (((lg_cmp ((Int32.toInt64 x4) + (Int32.toInt64 x5)) (Int32.toInt64 (σ5 88 ((x3).toNatClampNeg)))) ≤ 0 → Ru E mX8_copy 120 [(0, .ref 53), (1, .int x1), (2, .int x2), (3, .int x3), (4, .int x4), (5, .int x5), (6, .int 0)] [] σ5 Φ) ∧ (¬ (lg_cmp ((Int32.toInt64 x4) + (Int32.toInt64 x5)) (Int32.toInt64 (σ5 88 ((x3).toNatClampNeg)))) ≤ 0 → ∃ (r40 : Int32) (σ38 : Hp), Call E mX8_marks [.ref 53, .int 2] σ5 (some (.int r40)) σ38 ∧ Φ (some (.int r40)) σ38))))))))))) ∧ (¬ (σ5 87 ((x1).toNatClampNeg)) = (σ5 87 ((x3).toNatClampNeg)) → ∃ (r43 : Int32) (σ41 : Hp), Call E mX8_marks [.ref 53, .int 4] σ5 (some (.int r43)) σ41 ∧ Φ (some (.int r43)) σ41))) ∧ ((σ5 86 ((x3).toNatClampNeg)) = 0 → ∃ (r46 : Int32) (σ44 : Hp), Call E mX8_marks [.ref 53, .int 1] σ5 (some (.int r46)) σ44 ∧ Φ (some (.int r46)) σ44))))) ∧ (r7 = 0 → Φ (some (.int (-2))) σ5))))) : Ru E mX8_copy 0 [(0, .ref 53), (1, .int x1), (2, .int x2), (3, .int x3), (4, .int x4), (5, .int x5)] [] σ Φ := by
  refine s_iload_n 1 (pc := 0) dX8_copy_0 rfl rfl ?_
  obtain ⟨r3, σ1, hk2, h⟩ := h
  refine s_callS (S := []) [.int x1] (pc := 1) dX8_copy_1 ms_X8_isSheet ml_X8_169 ⟨Nat.le_of_ble_eq_true rfl, Nat.le_of_ble_eq_true rfl⟩ rfl rfl (Nat.le_of_ble_eq_true rfl) hk2 ?_
  refine s_if_eq (pc := 4) (tgt := 14) dX8_copy_4 rfl (fun q4 => ?_) (fun q4 => ?_)
  · replace h := h.1 q4
    refine s_bipush (v := (-2)) (pc := 14) dX8_copy_14 rfl ?_
    exact s_ret (r := some (.int (-2))) ⟨dX8_copy_16, fun ty e => by cases e; rfl⟩ rfl h
  · replace h := h.2 q4
    refine s_iload_n 3 (pc := 7) dX8_copy_7 rfl rfl ?_
    obtain ⟨r7, σ5, hk6, h⟩ := h
    refine s_callS (S := []) [.int x3] (pc := 8) dX8_copy_8 ms_X8_isSheet ml_X8_169 ⟨Nat.le_of_ble_eq_true rfl, Nat.le_of_ble_eq_true rfl⟩ rfl rfl (Nat.le_of_ble_eq_true rfl) hk6 ?_
    refine s_if_ne (pc := 11) (tgt := 17) dX8_copy_11 rfl (fun q8 => ?_) (fun q8 => ?_)
    · replace h := h.1 q8
      refine s_aload_n 0 (pc := 17) dX8_copy_17 rfl rfl ?_
      refine s_getR (q := 86) (pc := 18) dX8_copy_18 fl_X8_106 ly53 rfl ?_
      refine s_iload_n 1 (pc := 21) dX8_copy_21 rfl rfl ?_
      have hv9 := h.1
      replace h := h.2
      refine s_zald (pc := 22) dX8_copy_22 ly86 hv9 ?_
      refine s_if_eq (pc := 23) (tgt := 35) dX8_copy_23 rfl (fun q10 => ?_) (fun q10 => ?_)
      · replace h := h.1 q10
        refine s_aload_n 0 (pc := 35) dX8_copy_35 rfl rfl ?_
        refine s_iconst (v := 1) (pc := 36) dX8_copy_36 rfl ?_
        obtain ⟨r13, σ11, hk12, h⟩ := h
        refine s_callV (S := []) [.int 1] (pc := 37) dX8_copy_37 mv_X8_marks ml_X8_172 ⟨Nat.le_of_ble_eq_true rfl, Nat.le_of_ble_eq_true rfl⟩ rfl rfl ly53 rfl rfl (Nat.le_of_ble_eq_true rfl) hk12 ?_
        exact s_ret (r := some (.int r13)) ⟨dX8_copy_40, fun ty e => by cases e; rfl⟩ rfl h
      · replace h := h.2 q10
        refine s_aload_n 0 (pc := 26) dX8_copy_26 rfl rfl ?_
        refine s_getR (q := 86) (pc := 27) dX8_copy_27 fl_X8_106 ly53 rfl ?_
        refine s_iload_n 3 (pc := 30) dX8_copy_30 rfl rfl ?_
        have hv14 := h.1
        replace h := h.2
        refine s_zald (pc := 31) dX8_copy_31 ly86 hv14 ?_
        refine s_if_ne (pc := 32) (tgt := 41) dX8_copy_32 rfl (fun q15 => ?_) (fun q15 => ?_)
        · replace h := h.1 q15
          refine s_aload_n 0 (pc := 41) dX8_copy_41 rfl rfl ?_
          refine s_getR (q := 87) (pc := 42) dX8_copy_42 fl_X8_110 ly53 rfl ?_
          refine s_iload_n 1 (pc := 45) dX8_copy_45 rfl rfl ?_
          refine s_iald (pc := 46) dX8_copy_46 ly87 hv9 ?_
          refine s_aload_n 0 (pc := 47) dX8_copy_47 rfl rfl ?_
          refine s_getR (q := 87) (pc := 48) dX8_copy_48 fl_X8_110 ly53 rfl ?_
          refine s_iload_n 3 (pc := 51) dX8_copy_51 rfl rfl ?_
          refine s_iald (pc := 52) dX8_copy_52 ly87 hv14 ?_
          refine s_icmp_eq (pc := 53) (tgt := 62) dX8_copy_53 rfl (fun q18 => ?_) (fun q18 => ?_)
          · replace h := h.1 q18
            refine s_iload_n 2 (pc := 62) dX8_copy_62 rfl rfl ?_
            refine s_if_lt (pc := 63) (tgt := 111) dX8_copy_63 rfl (fun q19 => ?_) (fun q19 => ?_)
            · replace h := h.1 q19
              refine s_aload_n 0 (pc := 111) dX8_copy_111 rfl rfl ?_
              refine s_iconst (v := 2) (pc := 112) dX8_copy_112 rfl ?_
              obtain ⟨r22, σ20, hk21, h⟩ := h
              refine s_callV (S := []) [.int 2] (pc := 113) dX8_copy_113 mv_X8_marks ml_X8_172 ⟨Nat.le_of_ble_eq_true rfl, Nat.le_of_ble_eq_true rfl⟩ rfl rfl ly53 rfl rfl (Nat.le_of_ble_eq_true rfl) hk21 ?_
              exact s_ret (r := some (.int r22)) ⟨dX8_copy_116, fun ty e => by cases e; rfl⟩ rfl h
            · replace h := h.2 q19
              refine s_iload 4 (pc := 66) dX8_copy_66 rfl ?_
              refine s_if_lt (pc := 68) (tgt := 111) dX8_copy_68 rfl (fun q23 => ?_) (fun q23 => ?_)
              · replace h := h.1 q23
                refine s_aload_n 0 (pc := 111) dX8_copy_111 rfl rfl ?_
                refine s_iconst (v := 2) (pc := 112) dX8_copy_112 rfl ?_
                obtain ⟨r26, σ24, hk25, h⟩ := h
                refine s_callV (S := []) [.int 2] (pc := 113) dX8_copy_113 mv_X8_marks ml_X8_172 ⟨Nat.le_of_ble_eq_true rfl, Nat.le_of_ble_eq_true rfl⟩ rfl rfl ly53 rfl rfl (Nat.le_of_ble_eq_true rfl) hk25 ?_
                exact s_ret (r := some (.int r26)) ⟨dX8_copy_116, fun ty e => by cases e; rfl⟩ rfl h
              · replace h := h.2 q23
                refine s_iload 5 (pc := 71) dX8_copy_71 rfl ?_
                refine s_if_lt (pc := 73) (tgt := 111) dX8_copy_73 rfl (fun q27 => ?_) (fun q27 => ?_)
                · replace h := h.1 q27
                  refine s_aload_n 0 (pc := 111) dX8_copy_111 rfl rfl ?_
                  refine s_iconst (v := 2) (pc := 112) dX8_copy_112 rfl ?_
                  obtain ⟨r30, σ28, hk29, h⟩ := h
                  refine s_callV (S := []) [.int 2] (pc := 113) dX8_copy_113 mv_X8_marks ml_X8_172 ⟨Nat.le_of_ble_eq_true rfl, Nat.le_of_ble_eq_true rfl⟩ rfl rfl ly53 rfl rfl (Nat.le_of_ble_eq_true rfl) hk29 ?_
                  exact s_ret (r := some (.int r30)) ⟨dX8_copy_116, fun ty e => by cases e; rfl⟩ rfl h
                · replace h := h.2 q27
                  refine s_iload_n 2 (pc := 76) dX8_copy_76 rfl rfl ?_
                  refine s_i2l (pc := 77) dX8_copy_77 ?_
                  refine s_iload 5 (pc := 78) dX8_copy_78 rfl ?_
                  refine s_i2l (pc := 80) dX8_copy_80 ?_
                  refine s_ladd (pc := 81) dX8_copy_81 ?_
                  refine s_aload_n 0 (pc := 82) dX8_copy_82 rfl rfl ?_
                  refine s_getR (q := 88) (pc := 83) dX8_copy_83 fl_X8_113 ly53 rfl ?_
                  refine s_iload_n 1 (pc := 86) dX8_copy_86 rfl rfl ?_
                  refine s_iald (pc := 87) dX8_copy_87 ly88 hv9 ?_
                  refine s_i2l (pc := 88) dX8_copy_88 ?_
                  refine s_lcmp (pc := 89) dX8_copy_89 ?_
                  refine s_if_gt (pc := 90) (tgt := 111) dX8_copy_90 rfl (fun q32 => ?_) (fun q32 => ?_)
                  · replace h := h.1 q32
                    refine s_aload_n 0 (pc := 111) dX8_copy_111 rfl rfl ?_
                    refine s_iconst (v := 2) (pc := 112) dX8_copy_112 rfl ?_
                    obtain ⟨r35, σ33, hk34, h⟩ := h
                    refine s_callV (S := []) [.int 2] (pc := 113) dX8_copy_113 mv_X8_marks ml_X8_172 ⟨Nat.le_of_ble_eq_true rfl, Nat.le_of_ble_eq_true rfl⟩ rfl rfl ly53 rfl rfl (Nat.le_of_ble_eq_true rfl) hk34 ?_
                    exact s_ret (r := some (.int r35)) ⟨dX8_copy_116, fun ty e => by cases e; rfl⟩ rfl h
                  · replace h := h.2 q32
                    refine s_iload 4 (pc := 93) dX8_copy_93 rfl ?_
                    refine s_i2l (pc := 95) dX8_copy_95 ?_
                    refine s_iload 5 (pc := 96) dX8_copy_96 rfl ?_
                    refine s_i2l (pc := 98) dX8_copy_98 ?_
                    refine s_ladd (pc := 99) dX8_copy_99 ?_
                    refine s_aload_n 0 (pc := 100) dX8_copy_100 rfl rfl ?_
                    refine s_getR (q := 88) (pc := 101) dX8_copy_101 fl_X8_113 ly53 rfl ?_
                    refine s_iload_n 3 (pc := 104) dX8_copy_104 rfl rfl ?_
                    refine s_iald (pc := 105) dX8_copy_105 ly88 hv14 ?_
                    refine s_i2l (pc := 106) dX8_copy_106 ?_
                    refine s_lcmp (pc := 107) dX8_copy_107 ?_
                    refine s_if_le (pc := 108) (tgt := 117) dX8_copy_108 rfl (fun q37 => ?_) (fun q37 => ?_)
                    · replace h := h.1 q37
                      refine s_iconst (v := 0) (pc := 117) dX8_copy_117 rfl ?_
                      refine s_istore (L' := [(6, .int 0), (0, .ref 53), (1, .int x1), (2, .int x2), (3, .int x3), (4, .int x4), (5, .int x5)]) (pc := 118) dX8_copy_118 (Nat.le_of_ble_eq_true rfl) rfl ?_
                      exact s_sub (L' := [(0, .ref 53), (1, .int x1), (2, .int x2), (3, .int x3), (4, .int x4), (5, .int x5), (6, .int 0)]) [1, 2, 3, 4, 5, 6, 0] rfl h
                    · replace h := h.2 q37
                      refine s_aload_n 0 (pc := 111) dX8_copy_111 rfl rfl ?_
                      refine s_iconst (v := 2) (pc := 112) dX8_copy_112 rfl ?_
                      obtain ⟨r40, σ38, hk39, h⟩ := h
                      refine s_callV (S := []) [.int 2] (pc := 113) dX8_copy_113 mv_X8_marks ml_X8_172 ⟨Nat.le_of_ble_eq_true rfl, Nat.le_of_ble_eq_true rfl⟩ rfl rfl ly53 rfl rfl (Nat.le_of_ble_eq_true rfl) hk39 ?_
                      exact s_ret (r := some (.int r40)) ⟨dX8_copy_116, fun ty e => by cases e; rfl⟩ rfl h
          · replace h := h.2 q18
            refine s_aload_n 0 (pc := 56) dX8_copy_56 rfl rfl ?_
            refine s_iconst (v := 4) (pc := 57) dX8_copy_57 rfl ?_
            obtain ⟨r43, σ41, hk42, h⟩ := h
            refine s_callV (S := []) [.int 4] (pc := 58) dX8_copy_58 mv_X8_marks ml_X8_172 ⟨Nat.le_of_ble_eq_true rfl, Nat.le_of_ble_eq_true rfl⟩ rfl rfl ly53 rfl rfl (Nat.le_of_ble_eq_true rfl) hk42 ?_
            exact s_ret (r := some (.int r43)) ⟨dX8_copy_61, fun ty e => by cases e; rfl⟩ rfl h
        · replace h := h.2 q15
          refine s_aload_n 0 (pc := 35) dX8_copy_35 rfl rfl ?_
          refine s_iconst (v := 1) (pc := 36) dX8_copy_36 rfl ?_
          obtain ⟨r46, σ44, hk45, h⟩ := h
          refine s_callV (S := []) [.int 1] (pc := 37) dX8_copy_37 mv_X8_marks ml_X8_172 ⟨Nat.le_of_ble_eq_true rfl, Nat.le_of_ble_eq_true rfl⟩ rfl rfl ly53 rfl rfl (Nat.le_of_ble_eq_true rfl) hk45 ?_
          exact s_ret (r := some (.int r46)) ⟨dX8_copy_40, fun ty e => by cases e; rfl⟩ rfl h
    · replace h := h.2 q8
      refine s_bipush (v := (-2)) (pc := 14) dX8_copy_14 rfl ?_
      exact s_ret (r := some (.int (-2))) ⟨dX8_copy_16, fun ty e => by cases e; rfl⟩ rfl h
set_option maxRecDepth 10000 in
set_option maxHeartbeats 4000000 in
theorem tX8_copy_120 {E : Ev} {x1 : Int32} {x2 : Int32} {x3 : Int32} {x4 : Int32} {x5 : Int32} {x6 : Int32} {σ : Hp} {Φ : Option Value → Hp → Prop}  (h : ((x5 ≤ x6 → Ru E mX8_copy 157 [(0, .ref 53), (1, .int x1), (2, .int x2), (3, .int x3), (4, .int x4), (5, .int x5), (6, .int 0)] [] σ Φ) ∧ (¬ x5 ≤ x6 → vp_in (((60 * x1) + x2) + x6) 240 ∧ vp_in x6 60 ∧ Ru E mX8_copy 120 [(0, .ref 53), (1, .int x1), (2, .int x2), (3, .int x3), (4, .int x4), (5, .int x5), (6, .int (x6 + 1))] [] (up σ 90 ((x6).toNatClampNeg) (σ 89 ((((60 * x1) + x2) + x6).toNatClampNeg))) Φ))) : Ru E mX8_copy 120 [(0, .ref 53), (1, .int x1), (2, .int x2), (3, .int x3), (4, .int x4), (5, .int x5), (6, .int x6)] [] σ Φ := by
  refine s_iload 6 (pc := 120) dX8_copy_120 rfl ?_
  refine s_iload 5 (pc := 122) dX8_copy_122 rfl ?_
  refine s_icmp_ge (pc := 124) (tgt := 154) dX8_copy_124 rfl (fun q1 => ?_) (fun q1 => ?_)
  · replace h := h.1 q1
    refine s_iconst (v := 0) (pc := 154) dX8_copy_154 rfl ?_
    refine s_istore (L' := [(6, .int 0), (0, .ref 53), (1, .int x1), (2, .int x2), (3, .int x3), (4, .int x4), (5, .int x5)]) (pc := 155) dX8_copy_155 (Nat.le_of_ble_eq_true rfl) rfl ?_
    exact s_sub (L' := [(0, .ref 53), (1, .int x1), (2, .int x2), (3, .int x3), (4, .int x4), (5, .int x5), (6, .int 0)]) [1, 2, 3, 4, 5, 6, 0] rfl h
  · replace h := h.2 q1
    refine s_aload_n 0 (pc := 127) dX8_copy_127 rfl rfl ?_
    refine s_getR (q := 90) (pc := 128) dX8_copy_128 fl_X8_119 ly53 rfl ?_
    refine s_iload 6 (pc := 131) dX8_copy_131 rfl ?_
    refine s_aload_n 0 (pc := 133) dX8_copy_133 rfl rfl ?_
    refine s_getR (q := 89) (pc := 134) dX8_copy_134 fl_X8_116 ly53 rfl ?_
    refine s_bipush (v := 60) (pc := 137) dX8_copy_137 rfl ?_
    refine s_iload_n 1 (pc := 139) dX8_copy_139 rfl rfl ?_
    refine s_imul (pc := 140) dX8_copy_140 ?_
    refine s_iload_n 2 (pc := 141) dX8_copy_141 rfl rfl ?_
    refine s_iadd (pc := 142) dX8_copy_142 ?_
    refine s_iload 6 (pc := 143) dX8_copy_143 rfl ?_
    refine s_iadd (pc := 145) dX8_copy_145 ?_
    have hv2 := h.1
    replace h := h.2
    refine s_iald (pc := 146) dX8_copy_146 ly89 hv2 ?_
    have hv3 := h.1
    replace h := h.2
    refine s_iast (pc := 147) dX8_copy_147 ly90 hv3 ?_
    refine s_iinc (v := x6 + 1) (L' := [(6, .int (x6 + 1)), (0, .ref 53), (1, .int x1), (2, .int x2), (3, .int x3), (4, .int x4), (5, .int x5)]) 6 (pc := 148) dX8_copy_148 rfl rfl (Nat.le_of_ble_eq_true rfl) rfl ?_
    refine s_goto (pc := 151) (tgt := 120) dX8_copy_151 rfl ?_
    exact s_sub (L' := [(0, .ref 53), (1, .int x1), (2, .int x2), (3, .int x3), (4, .int x4), (5, .int x5), (6, .int (x6 + 1))]) [1, 2, 3, 4, 5, 6, 0] rfl h
set_option maxRecDepth 10000 in
set_option maxHeartbeats 4000000 in
theorem tX8_copy_157 {E : Ev} {x1 : Int32} {x2 : Int32} {x3 : Int32} {x4 : Int32} {x5 : Int32} {x6 : Int32} {σ : Hp} {Φ : Option Value → Hp → Prop}  (h : ((x5 ≤ x6 → Φ (some (.int 1)) σ) ∧ (¬ x5 ≤ x6 → vp_in x6 60 ∧ vp_in (((60 * x3) + x4) + x6) 240 ∧ Ru E mX8_copy 157 [(0, .ref 53), (1, .int x1), (2, .int x2), (3, .int x3), (4, .int x4), (5, .int x5), (6, .int (x6 + 1))] [] (up σ 89 ((((60 * x3) + x4) + x6).toNatClampNeg) (σ 90 ((x6).toNatClampNeg))) Φ))) : Ru E mX8_copy 157 [(0, .ref 53), (1, .int x1), (2, .int x2), (3, .int x3), (4, .int x4), (5, .int x5), (6, .int x6)] [] σ Φ := by
  refine s_iload 6 (pc := 157) dX8_copy_157 rfl ?_
  refine s_iload 5 (pc := 159) dX8_copy_159 rfl ?_
  refine s_icmp_ge (pc := 161) (tgt := 192) dX8_copy_161 rfl (fun q1 => ?_) (fun q1 => ?_)
  · replace h := h.1 q1
    refine s_iconst (v := 1) (pc := 192) dX8_copy_192 rfl ?_
    exact s_ret (r := some (.int 1)) ⟨dX8_copy_193, fun ty e => by cases e; rfl⟩ rfl h
  · replace h := h.2 q1
    refine s_aload_n 0 (pc := 164) dX8_copy_164 rfl rfl ?_
    refine s_getR (q := 89) (pc := 165) dX8_copy_165 fl_X8_116 ly53 rfl ?_
    refine s_bipush (v := 60) (pc := 168) dX8_copy_168 rfl ?_
    refine s_iload_n 3 (pc := 170) dX8_copy_170 rfl rfl ?_
    refine s_imul (pc := 171) dX8_copy_171 ?_
    refine s_iload 4 (pc := 172) dX8_copy_172 rfl ?_
    refine s_iadd (pc := 174) dX8_copy_174 ?_
    refine s_iload 6 (pc := 175) dX8_copy_175 rfl ?_
    refine s_iadd (pc := 177) dX8_copy_177 ?_
    refine s_aload_n 0 (pc := 178) dX8_copy_178 rfl rfl ?_
    refine s_getR (q := 90) (pc := 179) dX8_copy_179 fl_X8_119 ly53 rfl ?_
    refine s_iload 6 (pc := 182) dX8_copy_182 rfl ?_
    have hv2 := h.1
    replace h := h.2
    refine s_iald (pc := 184) dX8_copy_184 ly90 hv2 ?_
    have hv3 := h.1
    replace h := h.2
    refine s_iast (pc := 185) dX8_copy_185 ly89 hv3 ?_
    refine s_iinc (v := x6 + 1) (L' := [(6, .int (x6 + 1)), (0, .ref 53), (1, .int x1), (2, .int x2), (3, .int x3), (4, .int x4), (5, .int x5)]) 6 (pc := 186) dX8_copy_186 rfl rfl (Nat.le_of_ble_eq_true rfl) rfl ?_
    refine s_goto (pc := 189) (tgt := 157) dX8_copy_189 rfl ?_
    exact s_sub (L' := [(0, .ref 53), (1, .int x1), (2, .int x2), (3, .int x3), (4, .int x4), (5, .int x5), (6, .int (x6 + 1))]) [1, 2, 3, 4, 5, 6, 0] rfl h
set_option maxRecDepth 10000 in
set_option maxHeartbeats 4000000 in
theorem tX8_write_0 {E : Ev} {x1 : Int32} {x2 : Int32} {σ : Hp} {Φ : Option Value → Hp → Prop}  (h : ∃ (r3 : Int32) (σ1 : Hp), Call E mX8_isCouple [.ref 53, .int x1] σ (some (.int r3)) σ1 ∧ ((r3 = 0 → Φ (some (.int (-2))) σ1) ∧ (¬ r3 = 0 → ∃ (r7 : Int32) (σ5 : Hp), Call E mX8_isSheet [.int x2] σ1 (some (.int r7)) σ5 ∧ ((¬ r7 = 0 → vp_in x2 4 ∧ ((¬ (σ5 86 ((x2).toNatClampNeg)) = 0 → ∃ σ11 : Hp, Call E mX8_runsTold [.ref 53] σ5 none σ11 ∧ Ru E mX8_write 39 [(0, .ref 53), (1, .int x1), (2, .int x2), (3, .int 0)] [] σ11 Φ) ∧ ((σ5 86 ((x2).toNatClampNeg)) = 0 → ∃ (r15 : Int32) (σ13 : Hp), Call E mX8_marks [.ref 53, .int 1] σ5 (some (.int r15)) σ13 ∧ Φ (some (.int r15)) σ13))) ∧ (r7 = 0 → Φ (some (.int (-2))) σ5))))) : Ru E mX8_write 0 [(0, .ref 53), (1, .int x1), (2, .int x2)] [] σ Φ := by
  refine s_aload_n 0 (pc := 0) dX8_write_0 rfl rfl ?_
  refine s_iload_n 1 (pc := 1) dX8_write_1 rfl rfl ?_
  obtain ⟨r3, σ1, hk2, h⟩ := h
  refine s_callV (S := []) [.int x1] (pc := 2) dX8_write_2 mv_X8_isCouple ml_X8_153 ⟨Nat.le_of_ble_eq_true rfl, Nat.le_of_ble_eq_true rfl⟩ rfl rfl ly53 rfl rfl (Nat.le_of_ble_eq_true rfl) hk2 ?_
  refine s_if_eq (pc := 5) (tgt := 15) dX8_write_5 rfl (fun q4 => ?_) (fun q4 => ?_)
  · replace h := h.1 q4
    refine s_bipush (v := (-2)) (pc := 15) dX8_write_15 rfl ?_
    exact s_ret (r := some (.int (-2))) ⟨dX8_write_17, fun ty e => by cases e; rfl⟩ rfl h
  · replace h := h.2 q4
    refine s_iload_n 2 (pc := 8) dX8_write_8 rfl rfl ?_
    obtain ⟨r7, σ5, hk6, h⟩ := h
    refine s_callS (S := []) [.int x2] (pc := 9) dX8_write_9 ms_X8_isSheet ml_X8_169 ⟨Nat.le_of_ble_eq_true rfl, Nat.le_of_ble_eq_true rfl⟩ rfl rfl (Nat.le_of_ble_eq_true rfl) hk6 ?_
    refine s_if_ne (pc := 12) (tgt := 18) dX8_write_12 rfl (fun q8 => ?_) (fun q8 => ?_)
    · replace h := h.1 q8
      refine s_aload_n 0 (pc := 18) dX8_write_18 rfl rfl ?_
      refine s_getR (q := 86) (pc := 19) dX8_write_19 fl_X8_106 ly53 rfl ?_
      refine s_iload_n 2 (pc := 22) dX8_write_22 rfl rfl ?_
      have hv9 := h.1
      replace h := h.2
      refine s_zald (pc := 23) dX8_write_23 ly86 hv9 ?_
      refine s_if_ne (pc := 24) (tgt := 33) dX8_write_24 rfl (fun q10 => ?_) (fun q10 => ?_)
      · replace h := h.1 q10
        refine s_aload_n 0 (pc := 33) dX8_write_33 rfl rfl ?_
        obtain ⟨σ11, hk12, h⟩ := h
        refine s_callV (S := []) [] (pc := 34) dX8_write_34 mv_X8_runsTold ml_X8_219 ⟨Nat.le_of_ble_eq_true rfl, Nat.le_of_ble_eq_true rfl⟩ rfl rfl ly53 rfl rfl (Nat.le_of_ble_eq_true rfl) hk12 ?_
        refine s_iconst (v := 0) (pc := 37) dX8_write_37 rfl ?_
        refine s_istore_n (L' := [(3, .int 0), (0, .ref 53), (1, .int x1), (2, .int x2)]) (pc := 38) dX8_write_38 rfl (Nat.le_of_ble_eq_true rfl) rfl ?_
        exact s_sub (L' := [(0, .ref 53), (1, .int x1), (2, .int x2), (3, .int 0)]) [1, 2, 3, 0] rfl h
      · replace h := h.2 q10
        refine s_aload_n 0 (pc := 27) dX8_write_27 rfl rfl ?_
        refine s_iconst (v := 1) (pc := 28) dX8_write_28 rfl ?_
        obtain ⟨r15, σ13, hk14, h⟩ := h
        refine s_callV (S := []) [.int 1] (pc := 29) dX8_write_29 mv_X8_marks ml_X8_172 ⟨Nat.le_of_ble_eq_true rfl, Nat.le_of_ble_eq_true rfl⟩ rfl rfl ly53 rfl rfl (Nat.le_of_ble_eq_true rfl) hk14 ?_
        exact s_ret (r := some (.int r15)) ⟨dX8_write_32, fun ty e => by cases e; rfl⟩ rfl h
    · replace h := h.2 q8
      refine s_bipush (v := (-2)) (pc := 15) dX8_write_15 rfl ?_
      exact s_ret (r := some (.int (-2))) ⟨dX8_write_17, fun ty e => by cases e; rfl⟩ rfl h
set_option maxRecDepth 10000 in
set_option maxHeartbeats 4000000 in
theorem tX8_write_39 {E : Ev} {x1 : Int32} {x2 : Int32} {x3 : Int32} {σ : Hp} {Φ : Option Value → Hp → Prop}  (h : vp_in x2 4 ∧ (((σ 88 ((x2).toNatClampNeg)) ≤ x3 → Φ (some (.int x3)) σ) ∧ (¬ (σ 88 ((x2).toNatClampNeg)) ≤ x3 → ((20 ≤ x3 → Φ (some (.int x3)) σ) ∧ (¬ 20 ≤ x3 → vp_in ((8 * x3) + x1) 160 ∧ ∃ σ5 : Hp, Call E mX8_keep [.ref 53, .int x2, .int x3, .int (σ 77 (((8 * x3) + x1).toNatClampNeg))] σ none σ5 ∧ Ru E mX8_write 39 [(0, .ref 53), (1, .int x1), (2, .int x2), (3, .int (x3 + 1))] [] σ5 Φ))))) : Ru E mX8_write 39 [(0, .ref 53), (1, .int x1), (2, .int x2), (3, .int x3)] [] σ Φ := by
  refine s_iload_n 3 (pc := 39) dX8_write_39 rfl rfl ?_
  refine s_aload_n 0 (pc := 40) dX8_write_40 rfl rfl ?_
  refine s_getR (q := 88) (pc := 41) dX8_write_41 fl_X8_113 ly53 rfl ?_
  refine s_iload_n 2 (pc := 44) dX8_write_44 rfl rfl ?_
  have hv1 := h.1
  replace h := h.2
  refine s_iald (pc := 45) dX8_write_45 ly88 hv1 ?_
  refine s_icmp_ge (pc := 46) (tgt := 78) dX8_write_46 rfl (fun q2 => ?_) (fun q2 => ?_)
  · replace h := h.1 q2
    refine s_iload_n 3 (pc := 78) dX8_write_78 rfl rfl ?_
    exact s_ret (r := some (.int x3)) ⟨dX8_write_79, fun ty e => by cases e; rfl⟩ rfl h
  · replace h := h.2 q2
    refine s_iload_n 3 (pc := 49) dX8_write_49 rfl rfl ?_
    refine s_bipush (v := 20) (pc := 50) dX8_write_50 rfl ?_
    refine s_icmp_ge (pc := 52) (tgt := 78) dX8_write_52 rfl (fun q3 => ?_) (fun q3 => ?_)
    · replace h := h.1 q3
      refine s_iload_n 3 (pc := 78) dX8_write_78 rfl rfl ?_
      exact s_ret (r := some (.int x3)) ⟨dX8_write_79, fun ty e => by cases e; rfl⟩ rfl h
    · replace h := h.2 q3
      refine s_aload_n 0 (pc := 55) dX8_write_55 rfl rfl ?_
      refine s_iload_n 2 (pc := 56) dX8_write_56 rfl rfl ?_
      refine s_iload_n 3 (pc := 57) dX8_write_57 rfl rfl ?_
      refine s_aload_n 0 (pc := 58) dX8_write_58 rfl rfl ?_
      refine s_getR (q := 77) (pc := 59) dX8_write_59 fl_X8_79 ly53 rfl ?_
      refine s_bipush (v := 8) (pc := 62) dX8_write_62 rfl ?_
      refine s_iload_n 3 (pc := 64) dX8_write_64 rfl rfl ?_
      refine s_imul (pc := 65) dX8_write_65 ?_
      refine s_iload_n 1 (pc := 66) dX8_write_66 rfl rfl ?_
      refine s_iadd (pc := 67) dX8_write_67 ?_
      have hv4 := h.1
      replace h := h.2
      refine s_iald (pc := 68) dX8_write_68 ly77 hv4 ?_
      obtain ⟨σ5, hk6, h⟩ := h
      refine s_callV (S := []) [.int x2, .int x3, .int (σ 77 (((8 * x3) + x1).toNatClampNeg))] (pc := 69) dX8_write_69 mv_X8_keep ml_X8_334 ⟨Nat.le_of_ble_eq_true rfl, Nat.le_of_ble_eq_true rfl⟩ rfl rfl ly53 rfl rfl (Nat.le_of_ble_eq_true rfl) hk6 ?_
      refine s_iinc (v := x3 + 1) (L' := [(3, .int (x3 + 1)), (0, .ref 53), (1, .int x1), (2, .int x2)]) 3 (pc := 72) dX8_write_72 rfl rfl (Nat.le_of_ble_eq_true rfl) rfl ?_
      refine s_goto (pc := 75) (tgt := 39) dX8_write_75 rfl ?_
      exact s_sub (L' := [(0, .ref 53), (1, .int x1), (2, .int x2), (3, .int (x3 + 1))]) [1, 2, 3, 0] rfl h
set_option maxRecDepth 10000 in
set_option maxHeartbeats 4000000 in
theorem tX8_sumOf_0 {E : Ev} {x1 : Int32} {σ : Hp} {Φ : Option Value → Hp → Prop}  (h : ∃ σ1 : Hp, Call E mX8_runsTold [.ref 53] σ none σ1 ∧ Ru E mX8_sumOf 8 [(0, .ref 53), (1, .int x1), (2, .int 0), (3, .int 0)] [] σ1 Φ) : Ru E mX8_sumOf 0 [(0, .ref 53), (1, .int x1)] [] σ Φ := by
  refine s_aload_n 0 (pc := 0) dX8_sumOf_0 rfl rfl ?_
  obtain ⟨σ1, hk2, h⟩ := h
  refine s_callV (S := []) [] (pc := 1) dX8_sumOf_1 mv_X8_runsTold ml_X8_219 ⟨Nat.le_of_ble_eq_true rfl, Nat.le_of_ble_eq_true rfl⟩ rfl rfl ly53 rfl rfl (Nat.le_of_ble_eq_true rfl) hk2 ?_
  refine s_iconst (v := 0) (pc := 4) dX8_sumOf_4 rfl ?_
  refine s_istore_n (L' := [(2, .int 0), (0, .ref 53), (1, .int x1)]) (pc := 5) dX8_sumOf_5 rfl (Nat.le_of_ble_eq_true rfl) rfl ?_
  refine s_iconst (v := 0) (pc := 6) dX8_sumOf_6 rfl ?_
  refine s_istore_n (L' := [(3, .int 0), (2, .int 0), (0, .ref 53), (1, .int x1)]) (pc := 7) dX8_sumOf_7 rfl (Nat.le_of_ble_eq_true rfl) rfl ?_
  exact s_sub (L' := [(0, .ref 53), (1, .int x1), (2, .int 0), (3, .int 0)]) [2, 3, 1, 0] rfl h
set_option maxRecDepth 10000 in
set_option maxHeartbeats 4000000 in
theorem tX8_sumOf_8 {E : Ev} {x1 : Int32} {x2 : Int32} {x3 : Int32} {σ : Hp} {Φ : Option Value → Hp → Prop}  (h : (((σ 53 2) ≤ x3 → ((¬ x1 = 0 → ((¬ x1 = 3 → ((¬ x1 = 4 → ((¬ x1 = 5 → Φ (some (.int x2)) σ) ∧ (x1 = 5 → ∃ (r8 : Int32) (σ6 : Hp), Call E mX8_closedNow [.ref 53, .int 19] σ (some (.int r8)) σ6 ∧ ∃ (r11 : Int32) (σ9 : Hp), Call E mX8_ones [.ref 53, .int r8] σ6 (some (.int r11)) σ9 ∧ Φ (some (.int r11)) σ9))) ∧ (x1 = 4 → ∃ (r14 : Int32) (σ12 : Hp), Call E mX8_pairsNow [.ref 53, .int 19, .int 1] σ (some (.int r14)) σ12 ∧ Φ (some (.int r14)) σ12))) ∧ (x1 = 3 → ∃ (r17 : Int32) (σ15 : Hp), Call E mX8_pairsNow [.ref 53, .int 19, .int 0] σ (some (.int r17)) σ15 ∧ Φ (some (.int r17)) σ15))) ∧ (x1 = 0 → Φ (some (.int (σ 53 2))) σ))) ∧ (¬ (σ 53 2) ≤ x3 → vp_in x3 8 ∧ Ru E mX8_sumOf 8 [(0, .ref 53), (1, .int x1), (2, .int (x2 + (σ 72 ((x3).toNatClampNeg)))), (3, .int (x3 + 1))] [] σ Φ))) : Ru E mX8_sumOf 8 [(0, .ref 53), (1, .int x1), (2, .int x2), (3, .int x3)] [] σ Φ := by
  refine s_iload_n 3 (pc := 8) dX8_sumOf_8 rfl rfl ?_
  refine s_aload_n 0 (pc := 9) dX8_sumOf_9 rfl rfl ?_
  refine s_getI (v := σ 53 2) (pc := 10) dX8_sumOf_10 fl_X8_139 ly53 rfl rfl ?_
  refine s_icmp_ge (pc := 13) (tgt := 31) dX8_sumOf_13 rfl (fun q1 => ?_) (fun q1 => ?_)
  · replace h := h.1 q1
    refine s_iload_n 1 (pc := 31) dX8_sumOf_31 rfl rfl ?_
    refine s_if_ne (pc := 32) (tgt := 42) dX8_sumOf_32 rfl (fun q2 => ?_) (fun q2 => ?_)
    · replace h := h.1 q2
      refine s_iload_n 1 (pc := 42) dX8_sumOf_42 rfl rfl ?_
      refine s_iconst (v := 3) (pc := 43) dX8_sumOf_43 rfl ?_
      refine s_icmp_ne (pc := 44) (tgt := 57) dX8_sumOf_44 rfl (fun q3 => ?_) (fun q3 => ?_)
      · replace h := h.1 q3
        refine s_iload_n 1 (pc := 57) dX8_sumOf_57 rfl rfl ?_
        refine s_iconst (v := 4) (pc := 58) dX8_sumOf_58 rfl ?_
        refine s_icmp_ne (pc := 59) (tgt := 72) dX8_sumOf_59 rfl (fun q4 => ?_) (fun q4 => ?_)
        · replace h := h.1 q4
          refine s_iload_n 1 (pc := 72) dX8_sumOf_72 rfl rfl ?_
          refine s_iconst (v := 5) (pc := 73) dX8_sumOf_73 rfl ?_
          refine s_icmp_ne (pc := 74) (tgt := 90) dX8_sumOf_74 rfl (fun q5 => ?_) (fun q5 => ?_)
          · replace h := h.1 q5
            refine s_iload_n 2 (pc := 90) dX8_sumOf_90 rfl rfl ?_
            exact s_ret (r := some (.int x2)) ⟨dX8_sumOf_91, fun ty e => by cases e; rfl⟩ rfl h
          · replace h := h.2 q5
            refine s_aload_n 0 (pc := 77) dX8_sumOf_77 rfl rfl ?_
            refine s_aload_n 0 (pc := 78) dX8_sumOf_78 rfl rfl ?_
            refine s_bipush (v := 19) (pc := 79) dX8_sumOf_79 rfl ?_
            obtain ⟨r8, σ6, hk7, h⟩ := h
            refine s_callV (S := [.ref 53]) [.int 19] (pc := 81) dX8_sumOf_81 mv_X8_closedNow ml_X8_247 ⟨Nat.le_of_ble_eq_true rfl, Nat.le_of_ble_eq_true rfl⟩ rfl rfl ly53 rfl rfl (Nat.le_of_ble_eq_true rfl) hk7 ?_
            obtain ⟨r11, σ9, hk10, h⟩ := h
            refine s_callV (S := []) [.int r8] (pc := 84) dX8_sumOf_84 mv_X8_ones ml_X8_322 ⟨Nat.le_of_ble_eq_true rfl, Nat.le_of_ble_eq_true rfl⟩ rfl rfl ly53 rfl rfl (Nat.le_of_ble_eq_true rfl) hk10 ?_
            refine s_goto (pc := 87) (tgt := 91) dX8_sumOf_87 rfl ?_
            exact s_ret (r := some (.int r11)) ⟨dX8_sumOf_91, fun ty e => by cases e; rfl⟩ rfl h
        · replace h := h.2 q4
          refine s_aload_n 0 (pc := 62) dX8_sumOf_62 rfl rfl ?_
          refine s_bipush (v := 19) (pc := 63) dX8_sumOf_63 rfl ?_
          refine s_iconst (v := 1) (pc := 65) dX8_sumOf_65 rfl ?_
          obtain ⟨r14, σ12, hk13, h⟩ := h
          refine s_callV (S := []) [.int 19, .int 1] (pc := 66) dX8_sumOf_66 mv_X8_pairsNow ml_X8_241 ⟨Nat.le_of_ble_eq_true rfl, Nat.le_of_ble_eq_true rfl⟩ rfl rfl ly53 rfl rfl (Nat.le_of_ble_eq_true rfl) hk13 ?_
          refine s_goto (pc := 69) (tgt := 91) dX8_sumOf_69 rfl ?_
          exact s_ret (r := some (.int r14)) ⟨dX8_sumOf_91, fun ty e => by cases e; rfl⟩ rfl h
      · replace h := h.2 q3
        refine s_aload_n 0 (pc := 47) dX8_sumOf_47 rfl rfl ?_
        refine s_bipush (v := 19) (pc := 48) dX8_sumOf_48 rfl ?_
        refine s_iconst (v := 0) (pc := 50) dX8_sumOf_50 rfl ?_
        obtain ⟨r17, σ15, hk16, h⟩ := h
        refine s_callV (S := []) [.int 19, .int 0] (pc := 51) dX8_sumOf_51 mv_X8_pairsNow ml_X8_241 ⟨Nat.le_of_ble_eq_true rfl, Nat.le_of_ble_eq_true rfl⟩ rfl rfl ly53 rfl rfl (Nat.le_of_ble_eq_true rfl) hk16 ?_
        refine s_goto (pc := 54) (tgt := 91) dX8_sumOf_54 rfl ?_
        exact s_ret (r := some (.int r17)) ⟨dX8_sumOf_91, fun ty e => by cases e; rfl⟩ rfl h
    · replace h := h.2 q2
      refine s_aload_n 0 (pc := 35) dX8_sumOf_35 rfl rfl ?_
      refine s_getI (v := σ 53 2) (pc := 36) dX8_sumOf_36 fl_X8_139 ly53 rfl rfl ?_
      refine s_goto (pc := 39) (tgt := 91) dX8_sumOf_39 rfl ?_
      exact s_ret (r := some (.int (σ 53 2))) ⟨dX8_sumOf_91, fun ty e => by cases e; rfl⟩ rfl h
  · replace h := h.2 q1
    refine s_iload_n 2 (pc := 16) dX8_sumOf_16 rfl rfl ?_
    refine s_aload_n 0 (pc := 17) dX8_sumOf_17 rfl rfl ?_
    refine s_getR (q := 72) (pc := 18) dX8_sumOf_18 fl_X8_64 ly53 rfl ?_
    refine s_iload_n 3 (pc := 21) dX8_sumOf_21 rfl rfl ?_
    have hv18 := h.1
    replace h := h.2
    refine s_iald (pc := 22) dX8_sumOf_22 ly72 hv18 ?_
    refine s_iadd (pc := 23) dX8_sumOf_23 ?_
    refine s_istore_n (L' := [(2, .int (x2 + (σ 72 ((x3).toNatClampNeg)))), (0, .ref 53), (1, .int x1), (3, .int x3)]) (pc := 24) dX8_sumOf_24 rfl (Nat.le_of_ble_eq_true rfl) rfl ?_
    refine s_iinc (v := x3 + 1) (L' := [(3, .int (x3 + 1)), (2, .int (x2 + (σ 72 ((x3).toNatClampNeg)))), (0, .ref 53), (1, .int x1)]) 3 (pc := 25) dX8_sumOf_25 rfl rfl (Nat.le_of_ble_eq_true rfl) rfl ?_
    refine s_goto (pc := 28) (tgt := 8) dX8_sumOf_28 rfl ?_
    exact s_sub (L' := [(0, .ref 53), (1, .int x1), (2, .int (x2 + (σ 72 ((x3).toNatClampNeg)))), (3, .int (x3 + 1))]) [2, 3, 1, 0] rfl h
set_option maxRecDepth 10000 in
set_option maxHeartbeats 4000000 in
theorem tX8_count_0 {E : Ev} {x1 : Int32} {σ : Hp} {Φ : Option Value → Hp → Prop}  (h : ((x1 = (0 : Int32) → ∃ (r4 : Int32) (σ2 : Hp), Call E mX8_sumOf [.ref 53, .int x1] σ (some (.int r4)) σ2 ∧ Φ (some (.int r4)) σ2) ∧ (x1 = (1 : Int32) → Φ (some (.int (σ 53 0))) σ) ∧ (x1 = (2 : Int32) → Φ (some (.int (σ 53 7))) σ) ∧ (x1 = (3 : Int32) → ∃ (r10 : Int32) (σ8 : Hp), Call E mX8_sumOf [.ref 53, .int x1] σ (some (.int r10)) σ8 ∧ Φ (some (.int r10)) σ8) ∧ (x1 = (4 : Int32) → ∃ (r14 : Int32) (σ12 : Hp), Call E mX8_sumOf [.ref 53, .int x1] σ (some (.int r14)) σ12 ∧ Φ (some (.int r14)) σ12) ∧ (x1 = (5 : Int32) → ∃ (r18 : Int32) (σ16 : Hp), Call E mX8_sumOf [.ref 53, .int x1] σ (some (.int r18)) σ16 ∧ Φ (some (.int r18)) σ16) ∧ (x1 = (6 : Int32) → ∃ (r22 : Int32) (σ20 : Hp), Call E mX8_sumOf [.ref 53, .int x1] σ (some (.int r22)) σ20 ∧ Φ (some (.int r22)) σ20) ∧ (x1 = (7 : Int32) → Φ (some (.int (σ 53 33))) σ) ∧ (x1 = (8 : Int32) → Φ (some (.int (σ 53 44))) σ) ∧ (¬ x1 = (0 : Int32) ∧ ¬ x1 = (1 : Int32) ∧ ¬ x1 = (2 : Int32) ∧ ¬ x1 = (3 : Int32) ∧ ¬ x1 = (4 : Int32) ∧ ¬ x1 = (5 : Int32) ∧ ¬ x1 = (6 : Int32) ∧ ¬ x1 = (7 : Int32) ∧ ¬ x1 = (8 : Int32) → Φ (some (.int (-2))) σ))) : Ru E mX8_count 0 [(0, .ref 53), (1, .int x1)] [] σ Φ := by
  refine s_iload_n 1 (pc := 0) dX8_count_0 rfl rfl ?_
  by_cases q1 : x1 = (0 : Int32)
  · replace h := h.1 q1
    refine s_tin (pc := 1) (tgt := 52) 0 dX8_count_1 (by rw [q1]; rfl) (by decide) (by decide) rfl rfl ?_
    refine s_aload_n 0 (pc := 52) dX8_count_52 rfl rfl ?_
    refine s_iload_n 1 (pc := 53) dX8_count_53 rfl rfl ?_
    obtain ⟨r4, σ2, hk3, h⟩ := h
    refine s_callV (S := []) [.int x1] (pc := 54) dX8_count_54 mv_X8_sumOf ml_X8_338 ⟨Nat.le_of_ble_eq_true rfl, Nat.le_of_ble_eq_true rfl⟩ rfl rfl ly53 rfl rfl (Nat.le_of_ble_eq_true rfl) hk3 ?_
    exact s_ret (r := some (.int r4)) ⟨dX8_count_57, fun ty e => by cases e; rfl⟩ rfl h
  replace h := h.2
  by_cases q5 : x1 = (1 : Int32)
  · replace h := h.1 q5
    refine s_tin (pc := 1) (tgt := 58) 1 dX8_count_1 (by rw [q5]; rfl) (by decide) (by decide) rfl rfl ?_
    refine s_aload_n 0 (pc := 58) dX8_count_58 rfl rfl ?_
    refine s_getI (v := σ 53 0) (pc := 59) dX8_count_59 fl_X8_128 ly53 rfl rfl ?_
    exact s_ret (r := some (.int (σ 53 0))) ⟨dX8_count_62, fun ty e => by cases e; rfl⟩ rfl h
  replace h := h.2
  by_cases q6 : x1 = (2 : Int32)
  · replace h := h.1 q6
    refine s_tin (pc := 1) (tgt := 63) 2 dX8_count_1 (by rw [q6]; rfl) (by decide) (by decide) rfl rfl ?_
    refine s_aload_n 0 (pc := 63) dX8_count_63 rfl rfl ?_
    refine s_getI (v := σ 53 7) (pc := 64) dX8_count_64 fl_X8_166 ly53 rfl rfl ?_
    exact s_ret (r := some (.int (σ 53 7))) ⟨dX8_count_67, fun ty e => by cases e; rfl⟩ rfl h
  replace h := h.2
  by_cases q7 : x1 = (3 : Int32)
  · replace h := h.1 q7
    refine s_tin (pc := 1) (tgt := 52) 3 dX8_count_1 (by rw [q7]; rfl) (by decide) (by decide) rfl rfl ?_
    refine s_aload_n 0 (pc := 52) dX8_count_52 rfl rfl ?_
    refine s_iload_n 1 (pc := 53) dX8_count_53 rfl rfl ?_
    obtain ⟨r10, σ8, hk9, h⟩ := h
    refine s_callV (S := []) [.int x1] (pc := 54) dX8_count_54 mv_X8_sumOf ml_X8_338 ⟨Nat.le_of_ble_eq_true rfl, Nat.le_of_ble_eq_true rfl⟩ rfl rfl ly53 rfl rfl (Nat.le_of_ble_eq_true rfl) hk9 ?_
    exact s_ret (r := some (.int r10)) ⟨dX8_count_57, fun ty e => by cases e; rfl⟩ rfl h
  replace h := h.2
  by_cases q11 : x1 = (4 : Int32)
  · replace h := h.1 q11
    refine s_tin (pc := 1) (tgt := 52) 4 dX8_count_1 (by rw [q11]; rfl) (by decide) (by decide) rfl rfl ?_
    refine s_aload_n 0 (pc := 52) dX8_count_52 rfl rfl ?_
    refine s_iload_n 1 (pc := 53) dX8_count_53 rfl rfl ?_
    obtain ⟨r14, σ12, hk13, h⟩ := h
    refine s_callV (S := []) [.int x1] (pc := 54) dX8_count_54 mv_X8_sumOf ml_X8_338 ⟨Nat.le_of_ble_eq_true rfl, Nat.le_of_ble_eq_true rfl⟩ rfl rfl ly53 rfl rfl (Nat.le_of_ble_eq_true rfl) hk13 ?_
    exact s_ret (r := some (.int r14)) ⟨dX8_count_57, fun ty e => by cases e; rfl⟩ rfl h
  replace h := h.2
  by_cases q15 : x1 = (5 : Int32)
  · replace h := h.1 q15
    refine s_tin (pc := 1) (tgt := 52) 5 dX8_count_1 (by rw [q15]; rfl) (by decide) (by decide) rfl rfl ?_
    refine s_aload_n 0 (pc := 52) dX8_count_52 rfl rfl ?_
    refine s_iload_n 1 (pc := 53) dX8_count_53 rfl rfl ?_
    obtain ⟨r18, σ16, hk17, h⟩ := h
    refine s_callV (S := []) [.int x1] (pc := 54) dX8_count_54 mv_X8_sumOf ml_X8_338 ⟨Nat.le_of_ble_eq_true rfl, Nat.le_of_ble_eq_true rfl⟩ rfl rfl ly53 rfl rfl (Nat.le_of_ble_eq_true rfl) hk17 ?_
    exact s_ret (r := some (.int r18)) ⟨dX8_count_57, fun ty e => by cases e; rfl⟩ rfl h
  replace h := h.2
  by_cases q19 : x1 = (6 : Int32)
  · replace h := h.1 q19
    refine s_tin (pc := 1) (tgt := 52) 6 dX8_count_1 (by rw [q19]; rfl) (by decide) (by decide) rfl rfl ?_
    refine s_aload_n 0 (pc := 52) dX8_count_52 rfl rfl ?_
    refine s_iload_n 1 (pc := 53) dX8_count_53 rfl rfl ?_
    obtain ⟨r22, σ20, hk21, h⟩ := h
    refine s_callV (S := []) [.int x1] (pc := 54) dX8_count_54 mv_X8_sumOf ml_X8_338 ⟨Nat.le_of_ble_eq_true rfl, Nat.le_of_ble_eq_true rfl⟩ rfl rfl ly53 rfl rfl (Nat.le_of_ble_eq_true rfl) hk21 ?_
    exact s_ret (r := some (.int r22)) ⟨dX8_count_57, fun ty e => by cases e; rfl⟩ rfl h
  replace h := h.2
  by_cases q23 : x1 = (7 : Int32)
  · replace h := h.1 q23
    refine s_tin (pc := 1) (tgt := 68) 7 dX8_count_1 (by rw [q23]; rfl) (by decide) (by decide) rfl rfl ?_
    refine s_aload_n 0 (pc := 68) dX8_count_68 rfl rfl ?_
    refine s_getI (v := σ 53 33) (pc := 69) dX8_count_69 fl_X8_290 ly53 rfl rfl ?_
    exact s_ret (r := some (.int (σ 53 33))) ⟨dX8_count_72, fun ty e => by cases e; rfl⟩ rfl h
  replace h := h.2
  by_cases q24 : x1 = (8 : Int32)
  · replace h := h.1 q24
    refine s_tin (pc := 1) (tgt := 73) 8 dX8_count_1 (by rw [q24]; rfl) (by decide) (by decide) rfl rfl ?_
    refine s_aload_n 0 (pc := 73) dX8_count_73 rfl rfl ?_
    refine s_getI (v := σ 53 44) (pc := 74) dX8_count_74 fl_X8_328 ly53 rfl rfl ?_
    exact s_ret (r := some (.int (σ 53 44))) ⟨dX8_count_77, fun ty e => by cases e; rfl⟩ rfl h
  replace h := h.2
  replace h := h ⟨q1, q5, q6, q7, q11, q15, q19, q23, q24⟩
  refine s_tout (pc := 1) (tgt := 78) dX8_count_1 (tsw_out 9 x1 (lt_s (lt_s (lt_s (lt_s (lt_s (lt_s (lt_s (lt_s (lt_s lt_0 q1) q5) q6) q7) q11) q15) q19) q23) q24)) rfl ?_
  refine s_bipush (v := (-2)) (pc := 78) dX8_count_78 rfl ?_
  exact s_ret (r := some (.int (-2))) ⟨dX8_count_80, fun ty e => by cases e; rfl⟩ rfl h
set_option maxRecDepth 10000 in
set_option maxHeartbeats 4000000 in
theorem tX8_dayDigest_0 {E : Ev} {x1 : Int64} {x3 : Int32} {x4 : Int32} {σ : Hp} {Φ : Option Value → Hp → Prop}  (h : Ru E mX8_dayDigest 6 [(0, .ref 53), (1, .long x1), (3, .int x3), (4, .int x4), (5, .long x1), (7, .int 0)] [] σ Φ) : Ru E mX8_dayDigest 0 [(0, .ref 53), (1, .long x1), (3, .int x3), (4, .int x4)] [] σ Φ := by
  refine s_lload_n 1 (pc := 0) dX8_dayDigest_0 rfl rfl ?_
  refine s_lstore (L' := [(5, .long x1), (0, .ref 53), (1, .long x1), (3, .int x3), (4, .int x4)]) (pc := 1) dX8_dayDigest_1 (Nat.le_of_ble_eq_true rfl) rfl ?_
  refine s_iconst (v := 0) (pc := 3) dX8_dayDigest_3 rfl ?_
  refine s_istore (L' := [(7, .int 0), (5, .long x1), (0, .ref 53), (1, .long x1), (3, .int x3), (4, .int x4)]) (pc := 4) dX8_dayDigest_4 (Nat.le_of_ble_eq_true rfl) rfl ?_
  exact s_sub (L' := [(0, .ref 53), (1, .long x1), (3, .int x3), (4, .int x4), (5, .long x1), (7, .int 0)]) [2, 3, 4, 5, 1, 0] rfl h
set_option maxRecDepth 10000 in
set_option maxHeartbeats 4000000 in
theorem tX8_dayDigest_6 {E : Ev} {x1 : Int64} {x3 : Int32} {x4 : Int32} {x5 : Int64} {x7 : Int32} {σ : Hp} {Φ : Option Value → Hp → Prop}  (h : ((5 ≤ x7 → Ru E mX8_dayDigest 40 [(0, .ref 53), (1, .long x1), (3, .int x3), (4, .int x4), (5, .long x5), (7, .int 0)] [] σ Φ) ∧ (¬ 5 ≤ x7 → ∃ (r4 : Int32) (σ2 : Hp), Call E mX8_atOf [.ref 53, .int x3, .int x4, .int x7] σ (some (.int r4)) σ2 ∧ Ru E mX8_dayDigest 6 [(0, .ref 53), (1, .long x1), (3, .int x3), (4, .int x4), (5, .long ((31 * x5) + (Int32.toInt64 r4))), (7, .int (x7 + 1))] [] σ2 Φ))) : Ru E mX8_dayDigest 6 [(0, .ref 53), (1, .long x1), (3, .int x3), (4, .int x4), (5, .long x5), (7, .int x7)] [] σ Φ := by
  refine s_iload 5 (pc := 6) dX8_dayDigest_6 rfl ?_
  refine s_iconst (v := 5) (pc := 8) dX8_dayDigest_8 rfl ?_
  refine s_icmp_ge (pc := 9) (tgt := 37) dX8_dayDigest_9 rfl (fun q1 => ?_) (fun q1 => ?_)
  · replace h := h.1 q1
    refine s_iconst (v := 0) (pc := 37) dX8_dayDigest_37 rfl ?_
    refine s_istore (L' := [(7, .int 0), (0, .ref 53), (1, .long x1), (3, .int x3), (4, .int x4), (5, .long x5)]) (pc := 38) dX8_dayDigest_38 (Nat.le_of_ble_eq_true rfl) rfl ?_
    exact s_sub (L' := [(0, .ref 53), (1, .long x1), (3, .int x3), (4, .int x4), (5, .long x5), (7, .int 0)]) [1, 2, 3, 4, 5, 0] rfl h
  · replace h := h.2 q1
    refine s_ldc2 (v := 31) (pc := 12) dX8_dayDigest_12 ct_X8_341 ?_
    refine s_lload 4 (pc := 15) dX8_dayDigest_15 rfl ?_
    refine s_lmul (pc := 17) dX8_dayDigest_17 ?_
    refine s_aload_n 0 (pc := 18) dX8_dayDigest_18 rfl rfl ?_
    refine s_iload_n 2 (pc := 19) dX8_dayDigest_19 rfl rfl ?_
    refine s_iload 3 (pc := 20) dX8_dayDigest_20 rfl ?_
    refine s_iload 5 (pc := 22) dX8_dayDigest_22 rfl ?_
    obtain ⟨r4, σ2, hk3, h⟩ := h
    refine s_callV (S := [.long (31 * x5)]) [.int x3, .int x4, .int x7] (pc := 24) dX8_dayDigest_24 mv_X8_atOf ml_X8_222 ⟨Nat.le_of_ble_eq_true rfl, Nat.le_of_ble_eq_true rfl⟩ rfl rfl ly53 rfl rfl (Nat.le_of_ble_eq_true rfl) hk3 ?_
    refine s_i2l (pc := 27) dX8_dayDigest_27 ?_
    refine s_ladd (pc := 28) dX8_dayDigest_28 ?_
    refine s_lstore (L' := [(5, .long ((31 * x5) + (Int32.toInt64 r4))), (0, .ref 53), (1, .long x1), (3, .int x3), (4, .int x4), (7, .int x7)]) (pc := 29) dX8_dayDigest_29 (Nat.le_of_ble_eq_true rfl) rfl ?_
    refine s_iinc (v := x7 + 1) (L' := [(7, .int (x7 + 1)), (5, .long ((31 * x5) + (Int32.toInt64 r4))), (0, .ref 53), (1, .long x1), (3, .int x3), (4, .int x4)]) 5 (pc := 31) dX8_dayDigest_31 rfl rfl (Nat.le_of_ble_eq_true rfl) rfl ?_
    refine s_goto (pc := 34) (tgt := 6) dX8_dayDigest_34 rfl ?_
    exact s_sub (L' := [(0, .ref 53), (1, .long x1), (3, .int x3), (4, .int x4), (5, .long ((31 * x5) + (Int32.toInt64 r4))), (7, .int (x7 + 1))]) [2, 3, 4, 5, 1, 0] rfl h
set_option maxRecDepth 10000 in
set_option maxHeartbeats 4000000 in
theorem tX8_dayDigest_40 {E : Ev} {x1 : Int64} {x3 : Int32} {x4 : Int32} {x5 : Int64} {x7 : Int32} {σ : Hp} {Φ : Option Value → Hp → Prop}  (h : ((4 ≤ x7 → Φ (some (.long x5)) σ) ∧ (¬ 4 ≤ x7 → ∃ (r4 : Int32) (σ2 : Hp), Call E mX8_placeOf [.ref 53, .int x3, .int x4, .int x7] σ (some (.int r4)) σ2 ∧ Ru E mX8_dayDigest 40 [(0, .ref 53), (1, .long x1), (3, .int x3), (4, .int x4), (5, .long ((31 * x5) + (Int32.toInt64 r4))), (7, .int (x7 + 1))] [] σ2 Φ))) : Ru E mX8_dayDigest 40 [(0, .ref 53), (1, .long x1), (3, .int x3), (4, .int x4), (5, .long x5), (7, .int x7)] [] σ Φ := by
  refine s_iload 5 (pc := 40) dX8_dayDigest_40 rfl ?_
  refine s_iconst (v := 4) (pc := 42) dX8_dayDigest_42 rfl ?_
  refine s_icmp_ge (pc := 43) (tgt := 71) dX8_dayDigest_43 rfl (fun q1 => ?_) (fun q1 => ?_)
  · replace h := h.1 q1
    refine s_lload 4 (pc := 71) dX8_dayDigest_71 rfl ?_
    exact s_ret (r := some (.long x5)) dX8_dayDigest_73 rfl h
  · replace h := h.2 q1
    refine s_ldc2 (v := 31) (pc := 46) dX8_dayDigest_46 ct_X8_341 ?_
    refine s_lload 4 (pc := 49) dX8_dayDigest_49 rfl ?_
    refine s_lmul (pc := 51) dX8_dayDigest_51 ?_
    refine s_aload_n 0 (pc := 52) dX8_dayDigest_52 rfl rfl ?_
    refine s_iload_n 2 (pc := 53) dX8_dayDigest_53 rfl rfl ?_
    refine s_iload 3 (pc := 54) dX8_dayDigest_54 rfl ?_
    refine s_iload 5 (pc := 56) dX8_dayDigest_56 rfl ?_
    obtain ⟨r4, σ2, hk3, h⟩ := h
    refine s_callV (S := [.long (31 * x5)]) [.int x3, .int x4, .int x7] (pc := 58) dX8_dayDigest_58 mv_X8_placeOf ml_X8_231 ⟨Nat.le_of_ble_eq_true rfl, Nat.le_of_ble_eq_true rfl⟩ rfl rfl ly53 rfl rfl (Nat.le_of_ble_eq_true rfl) hk3 ?_
    refine s_i2l (pc := 61) dX8_dayDigest_61 ?_
    refine s_ladd (pc := 62) dX8_dayDigest_62 ?_
    refine s_lstore (L' := [(5, .long ((31 * x5) + (Int32.toInt64 r4))), (0, .ref 53), (1, .long x1), (3, .int x3), (4, .int x4), (7, .int x7)]) (pc := 63) dX8_dayDigest_63 (Nat.le_of_ble_eq_true rfl) rfl ?_
    refine s_iinc (v := x7 + 1) (L' := [(7, .int (x7 + 1)), (5, .long ((31 * x5) + (Int32.toInt64 r4))), (0, .ref 53), (1, .long x1), (3, .int x3), (4, .int x4)]) 5 (pc := 65) dX8_dayDigest_65 rfl rfl (Nat.le_of_ble_eq_true rfl) rfl ?_
    refine s_goto (pc := 68) (tgt := 40) dX8_dayDigest_68 rfl ?_
    exact s_sub (L' := [(0, .ref 53), (1, .long x1), (3, .int x3), (4, .int x4), (5, .long ((31 * x5) + (Int32.toInt64 r4))), (7, .int (x7 + 1))]) [2, 3, 4, 5, 1, 0] rfl h
set_option maxRecDepth 10000 in
set_option maxHeartbeats 4000000 in
theorem tX8_coupleDigest_0 {E : Ev} {x1 : Int64} {x3 : Int32} {σ : Hp} {Φ : Option Value → Hp → Prop}  (h : Ru E mX8_coupleDigest 6 [(0, .ref 53), (1, .long x1), (3, .int x3), (4, .long x1), (6, .int 0)] [] σ Φ) : Ru E mX8_coupleDigest 0 [(0, .ref 53), (1, .long x1), (3, .int x3)] [] σ Φ := by
  refine s_lload_n 1 (pc := 0) dX8_coupleDigest_0 rfl rfl ?_
  refine s_lstore (L' := [(4, .long x1), (0, .ref 53), (1, .long x1), (3, .int x3)]) (pc := 1) dX8_coupleDigest_1 (Nat.le_of_ble_eq_true rfl) rfl ?_
  refine s_iconst (v := 0) (pc := 3) dX8_coupleDigest_3 rfl ?_
  refine s_istore (L' := [(6, .int 0), (4, .long x1), (0, .ref 53), (1, .long x1), (3, .int x3)]) (pc := 4) dX8_coupleDigest_4 (Nat.le_of_ble_eq_true rfl) rfl ?_
  exact s_sub (L' := [(0, .ref 53), (1, .long x1), (3, .int x3), (4, .long x1), (6, .int 0)]) [2, 3, 4, 1, 0] rfl h
set_option maxRecDepth 10000 in
set_option maxHeartbeats 4000000 in
theorem tX8_coupleDigest_6 {E : Ev} {x1 : Int64} {x3 : Int32} {x4 : Int64} {x6 : Int32} {σ : Hp} {Φ : Option Value → Hp → Prop}  (h : ((4 ≤ x6 → ∃ (r4 : Int64) (σ2 : Hp), Call E mX8_dayDigest [.ref 53, .long x4, .int 0, .int x3] σ (some (.long r4)) σ2 ∧ ∃ (r7 : Int64) (σ5 : Hp), Call E mX8_dayDigest [.ref 53, .long r4, .int 6, .int x3] σ2 (some (.long r7)) σ5 ∧ ∃ (r10 : Int64) (σ8 : Hp), Call E mX8_dayDigest [.ref 53, .long r7, .int 12, .int x3] σ5 (some (.long r10)) σ8 ∧ ∃ (r13 : Int64) (σ11 : Hp), Call E mX8_dayDigest [.ref 53, .long r10, .int 19, .int x3] σ8 (some (.long r13)) σ11 ∧ ∃ (r16 : Int32) (σ14 : Hp), Call E mX8_ringedOf [.ref 53, .int x3] σ11 (some (.int r16)) σ14 ∧ ∃ (r19 : Int32) (σ17 : Hp), Call E mX8_openOf [.ref 53, .int x3, .int 12, .int 0] σ14 (some (.int r19)) σ17 ∧ ∃ (r22 : Int32) (σ20 : Hp), Call E mX8_openOf [.ref 53, .int x3, .int 12, .int 1] σ17 (some (.int r22)) σ20 ∧ Ru E mX8_coupleDigest 132 [(0, .ref 53), (1, .long x1), (3, .int x3), (4, .long ((31 * ((31 * ((31 * r13) + (Int32.toInt64 r16))) + (Int32.toInt64 r19))) + (Int32.toInt64 r22))), (6, .int 0)] [] σ20 Φ) ∧ (¬ 4 ≤ x6 → ∃ (r25 : Int32) (σ23 : Hp), Call E mX8_coupleOf [.ref 53, .int x3, .int x6] σ (some (.int r25)) σ23 ∧ Ru E mX8_coupleDigest 6 [(0, .ref 53), (1, .long x1), (3, .int x3), (4, .long ((31 * x4) + (Int32.toInt64 r25))), (6, .int (x6 + 1))] [] σ23 Φ))) : Ru E mX8_coupleDigest 6 [(0, .ref 53), (1, .long x1), (3, .int x3), (4, .long x4), (6, .int x6)] [] σ Φ := by
  refine s_iload 4 (pc := 6) dX8_coupleDigest_6 rfl ?_
  refine s_iconst (v := 4) (pc := 8) dX8_coupleDigest_8 rfl ?_
  refine s_icmp_ge (pc := 9) (tgt := 35) dX8_coupleDigest_9 rfl (fun q1 => ?_) (fun q1 => ?_)
  · replace h := h.1 q1
    refine s_aload_n 0 (pc := 35) dX8_coupleDigest_35 rfl rfl ?_
    refine s_lload 3 (pc := 36) dX8_coupleDigest_36 rfl ?_
    refine s_iconst (v := 0) (pc := 38) dX8_coupleDigest_38 rfl ?_
    refine s_iload_n 2 (pc := 39) dX8_coupleDigest_39 rfl rfl ?_
    obtain ⟨r4, σ2, hk3, h⟩ := h
    refine s_callV (S := []) [.long x4, .int 0, .int x3] (pc := 40) dX8_coupleDigest_40 mv_X8_dayDigest ml_X8_343 ⟨Nat.le_of_ble_eq_true rfl, Nat.le_of_ble_eq_true rfl⟩ rfl rfl ly53 rfl rfl (Nat.le_of_ble_eq_true rfl) hk3 ?_
    refine s_lstore (L' := [(4, .long r4), (0, .ref 53), (1, .long x1), (3, .int x3), (6, .int x6)]) (pc := 43) dX8_coupleDigest_43 (Nat.le_of_ble_eq_true rfl) rfl ?_
    refine s_aload_n 1 (pc := 45) dX8_coupleDigest_45 rfl rfl ?_
    refine s_lload 0 (pc := 46) dX8_coupleDigest_46 rfl ?_
    refine s_bipush (v := 6) (pc := 48) dX8_coupleDigest_48 rfl ?_
    refine s_iload_n 3 (pc := 50) dX8_coupleDigest_50 rfl rfl ?_
    obtain ⟨r7, σ5, hk6, h⟩ := h
    refine s_callV (S := []) [.long r4, .int 6, .int x3] (pc := 51) dX8_coupleDigest_51 mv_X8_dayDigest ml_X8_343 ⟨Nat.le_of_ble_eq_true rfl, Nat.le_of_ble_eq_true rfl⟩ rfl rfl ly53 rfl rfl (Nat.le_of_ble_eq_true rfl) hk6 ?_
    refine s_lstore (L' := [(4, .long r7), (0, .ref 53), (1, .long x1), (3, .int x3), (6, .int x6)]) (pc := 54) dX8_coupleDigest_54 (Nat.le_of_ble_eq_true rfl) rfl ?_
    refine s_aload_n 1 (pc := 56) dX8_coupleDigest_56 rfl rfl ?_
    refine s_lload 0 (pc := 57) dX8_coupleDigest_57 rfl ?_
    refine s_bipush (v := 12) (pc := 59) dX8_coupleDigest_59 rfl ?_
    refine s_iload_n 3 (pc := 61) dX8_coupleDigest_61 rfl rfl ?_
    obtain ⟨r10, σ8, hk9, h⟩ := h
    refine s_callV (S := []) [.long r7, .int 12, .int x3] (pc := 62) dX8_coupleDigest_62 mv_X8_dayDigest ml_X8_343 ⟨Nat.le_of_ble_eq_true rfl, Nat.le_of_ble_eq_true rfl⟩ rfl rfl ly53 rfl rfl (Nat.le_of_ble_eq_true rfl) hk9 ?_
    refine s_lstore (L' := [(4, .long r10), (0, .ref 53), (1, .long x1), (3, .int x3), (6, .int x6)]) (pc := 65) dX8_coupleDigest_65 (Nat.le_of_ble_eq_true rfl) rfl ?_
    refine s_aload_n 1 (pc := 67) dX8_coupleDigest_67 rfl rfl ?_
    refine s_lload 0 (pc := 68) dX8_coupleDigest_68 rfl ?_
    refine s_bipush (v := 19) (pc := 70) dX8_coupleDigest_70 rfl ?_
    refine s_iload_n 3 (pc := 72) dX8_coupleDigest_72 rfl rfl ?_
    obtain ⟨r13, σ11, hk12, h⟩ := h
    refine s_callV (S := []) [.long r10, .int 19, .int x3] (pc := 73) dX8_coupleDigest_73 mv_X8_dayDigest ml_X8_343 ⟨Nat.le_of_ble_eq_true rfl, Nat.le_of_ble_eq_true rfl⟩ rfl rfl ly53 rfl rfl (Nat.le_of_ble_eq_true rfl) hk12 ?_
    refine s_lstore (L' := [(4, .long r13), (0, .ref 53), (1, .long x1), (3, .int x3), (6, .int x6)]) (pc := 76) dX8_coupleDigest_76 (Nat.le_of_ble_eq_true rfl) rfl ?_
    refine s_ldc2 (v := 31) (pc := 78) dX8_coupleDigest_78 ct_X8_341 ?_
    refine s_lload 0 (pc := 81) dX8_coupleDigest_81 rfl ?_
    refine s_lmul (pc := 83) dX8_coupleDigest_83 ?_
    refine s_aload_n 1 (pc := 84) dX8_coupleDigest_84 rfl rfl ?_
    refine s_iload_n 3 (pc := 85) dX8_coupleDigest_85 rfl rfl ?_
    obtain ⟨r16, σ14, hk15, h⟩ := h
    refine s_callV (S := [.long (31 * r13)]) [.int x3] (pc := 86) dX8_coupleDigest_86 mv_X8_ringedOf ml_X8_259 ⟨Nat.le_of_ble_eq_true rfl, Nat.le_of_ble_eq_true rfl⟩ rfl rfl ly53 rfl rfl (Nat.le_of_ble_eq_true rfl) hk15 ?_
    refine s_i2l (pc := 89) dX8_coupleDigest_89 ?_
    refine s_ladd (pc := 90) dX8_coupleDigest_90 ?_
    refine s_lstore (L' := [(4, .long ((31 * r13) + (Int32.toInt64 r16))), (0, .ref 53), (1, .long x1), (3, .int x3), (6, .int x6)]) (pc := 91) dX8_coupleDigest_91 (Nat.le_of_ble_eq_true rfl) rfl ?_
    refine s_ldc2 (v := 31) (pc := 93) dX8_coupleDigest_93 ct_X8_341 ?_
    refine s_lload 0 (pc := 96) dX8_coupleDigest_96 rfl ?_
    refine s_lmul (pc := 98) dX8_coupleDigest_98 ?_
    refine s_aload_n 1 (pc := 99) dX8_coupleDigest_99 rfl rfl ?_
    refine s_iload_n 3 (pc := 100) dX8_coupleDigest_100 rfl rfl ?_
    refine s_bipush (v := 12) (pc := 101) dX8_coupleDigest_101 rfl ?_
    refine s_iconst (v := 0) (pc := 103) dX8_coupleDigest_103 rfl ?_
    obtain ⟨r19, σ17, hk18, h⟩ := h
    refine s_callV (S := [.long (31 * ((31 * r13) + (Int32.toInt64 r16)))]) [.int x3, .int 12, .int 0] (pc := 104) dX8_coupleDigest_104 mv_X8_openOf ml_X8_269 ⟨Nat.le_of_ble_eq_true rfl, Nat.le_of_ble_eq_true rfl⟩ rfl rfl ly53 rfl rfl (Nat.le_of_ble_eq_true rfl) hk18 ?_
    refine s_i2l (pc := 107) dX8_coupleDigest_107 ?_
    refine s_ladd (pc := 108) dX8_coupleDigest_108 ?_
    refine s_lstore (L' := [(4, .long ((31 * ((31 * r13) + (Int32.toInt64 r16))) + (Int32.toInt64 r19))), (0, .ref 53), (1, .long x1), (3, .int x3), (6, .int x6)]) (pc := 109) dX8_coupleDigest_109 (Nat.le_of_ble_eq_true rfl) rfl ?_
    refine s_ldc2 (v := 31) (pc := 111) dX8_coupleDigest_111 ct_X8_341 ?_
    refine s_lload 0 (pc := 114) dX8_coupleDigest_114 rfl ?_
    refine s_lmul (pc := 116) dX8_coupleDigest_116 ?_
    refine s_aload_n 1 (pc := 117) dX8_coupleDigest_117 rfl rfl ?_
    refine s_iload_n 3 (pc := 118) dX8_coupleDigest_118 rfl rfl ?_
    refine s_bipush (v := 12) (pc := 119) dX8_coupleDigest_119 rfl ?_
    refine s_iconst (v := 1) (pc := 121) dX8_coupleDigest_121 rfl ?_
    obtain ⟨r22, σ20, hk21, h⟩ := h
    refine s_callV (S := [.long (31 * ((31 * ((31 * r13) + (Int32.toInt64 r16))) + (Int32.toInt64 r19)))]) [.int x3, .int 12, .int 1] (pc := 122) dX8_coupleDigest_122 mv_X8_openOf ml_X8_269 ⟨Nat.le_of_ble_eq_true rfl, Nat.le_of_ble_eq_true rfl⟩ rfl rfl ly53 rfl rfl (Nat.le_of_ble_eq_true rfl) hk21 ?_
    refine s_i2l (pc := 125) dX8_coupleDigest_125 ?_
    refine s_ladd (pc := 126) dX8_coupleDigest_126 ?_
    refine s_lstore (L' := [(4, .long ((31 * ((31 * ((31 * r13) + (Int32.toInt64 r16))) + (Int32.toInt64 r19))) + (Int32.toInt64 r22))), (0, .ref 53), (1, .long x1), (3, .int x3), (6, .int x6)]) (pc := 127) dX8_coupleDigest_127 (Nat.le_of_ble_eq_true rfl) rfl ?_
    refine s_iconst (v := 0) (pc := 129) dX8_coupleDigest_129 rfl ?_
    refine s_istore (L' := [(6, .int 0), (4, .long ((31 * ((31 * ((31 * r13) + (Int32.toInt64 r16))) + (Int32.toInt64 r19))) + (Int32.toInt64 r22))), (0, .ref 53), (1, .long x1), (3, .int x3)]) (pc := 130) dX8_coupleDigest_130 (Nat.le_of_ble_eq_true rfl) rfl ?_
    exact s_sub (L' := [(0, .ref 53), (1, .long x1), (3, .int x3), (4, .long ((31 * ((31 * ((31 * r13) + (Int32.toInt64 r16))) + (Int32.toInt64 r19))) + (Int32.toInt64 r22))), (6, .int 0)]) [2, 3, 4, 1, 0] rfl h
  · replace h := h.2 q1
    refine s_ldc2 (v := 31) (pc := 12) dX8_coupleDigest_12 ct_X8_341 ?_
    refine s_lload 3 (pc := 15) dX8_coupleDigest_15 rfl ?_
    refine s_lmul (pc := 17) dX8_coupleDigest_17 ?_
    refine s_aload_n 0 (pc := 18) dX8_coupleDigest_18 rfl rfl ?_
    refine s_iload_n 2 (pc := 19) dX8_coupleDigest_19 rfl rfl ?_
    refine s_iload 4 (pc := 20) dX8_coupleDigest_20 rfl ?_
    obtain ⟨r25, σ23, hk24, h⟩ := h
    refine s_callV (S := [.long (31 * x4)]) [.int x3, .int x6] (pc := 22) dX8_coupleDigest_22 mv_X8_coupleOf ml_X8_157 ⟨Nat.le_of_ble_eq_true rfl, Nat.le_of_ble_eq_true rfl⟩ rfl rfl ly53 rfl rfl (Nat.le_of_ble_eq_true rfl) hk24 ?_
    refine s_i2l (pc := 25) dX8_coupleDigest_25 ?_
    refine s_ladd (pc := 26) dX8_coupleDigest_26 ?_
    refine s_lstore (L' := [(4, .long ((31 * x4) + (Int32.toInt64 r25))), (0, .ref 53), (1, .long x1), (3, .int x3), (6, .int x6)]) (pc := 27) dX8_coupleDigest_27 (Nat.le_of_ble_eq_true rfl) rfl ?_
    refine s_iinc (v := x6 + 1) (L' := [(6, .int (x6 + 1)), (4, .long ((31 * x4) + (Int32.toInt64 r25))), (0, .ref 53), (1, .long x1), (3, .int x3)]) 4 (pc := 29) dX8_coupleDigest_29 rfl rfl (Nat.le_of_ble_eq_true rfl) rfl ?_
    refine s_goto (pc := 32) (tgt := 6) dX8_coupleDigest_32 rfl ?_
    exact s_sub (L' := [(0, .ref 53), (1, .long x1), (3, .int x3), (4, .long ((31 * x4) + (Int32.toInt64 r25))), (6, .int (x6 + 1))]) [2, 3, 4, 1, 0] rfl h
set_option maxRecDepth 10000 in
set_option maxHeartbeats 4000000 in
theorem tX8_coupleDigest_132 {E : Ev} {x1 : Int64} {x3 : Int32} {x4 : Int64} {x6 : Int32} {σ : Hp} {Φ : Option Value → Hp → Prop}  (h : ((3 ≤ x6 → ∃ (r4 : Int32) (σ2 : Hp), Call E mX8_wideBy [.ref 53, .int x3] σ (some (.int r4)) σ2 ∧ ∃ (r7 : Int32) (σ5 : Hp), Call E mX8_sortsBy [.ref 53, .int x3] σ2 (some (.int r7)) σ5 ∧ ∃ (r10 : Int32) (σ8 : Hp), Call E mX8_askOf [.ref 53, .int x3] σ5 (some (.int r10)) σ8 ∧ Φ (some (.long ((31 * ((31 * ((31 * x4) + (Int32.toInt64 r4))) + (Int32.toInt64 r7))) + (Int32.toInt64 r10)))) σ8) ∧ (¬ 3 ≤ x6 → ∃ (r13 : Int32) (σ11 : Hp), Call E mX8_standOf [.ref 53, .int x3, .int 12, .int x6] σ (some (.int r13)) σ11 ∧ Ru E mX8_coupleDigest 132 [(0, .ref 53), (1, .long x1), (3, .int x3), (4, .long ((31 * x4) + (Int32.toInt64 r13))), (6, .int (x6 + 1))] [] σ11 Φ))) : Ru E mX8_coupleDigest 132 [(0, .ref 53), (1, .long x1), (3, .int x3), (4, .long x4), (6, .int x6)] [] σ Φ := by
  refine s_iload 4 (pc := 132) dX8_coupleDigest_132 rfl ?_
  refine s_iconst (v := 3) (pc := 134) dX8_coupleDigest_134 rfl ?_
  refine s_icmp_ge (pc := 135) (tgt := 163) dX8_coupleDigest_135 rfl (fun q1 => ?_) (fun q1 => ?_)
  · replace h := h.1 q1
    refine s_ldc2 (v := 31) (pc := 163) dX8_coupleDigest_163 ct_X8_341 ?_
    refine s_lload 3 (pc := 166) dX8_coupleDigest_166 rfl ?_
    refine s_lmul (pc := 168) dX8_coupleDigest_168 ?_
    refine s_aload_n 0 (pc := 169) dX8_coupleDigest_169 rfl rfl ?_
    refine s_iload_n 2 (pc := 170) dX8_coupleDigest_170 rfl rfl ?_
    obtain ⟨r4, σ2, hk3, h⟩ := h
    refine s_callV (S := [.long (31 * x4)]) [.int x3] (pc := 171) dX8_coupleDigest_171 mv_X8_wideBy ml_X8_300 ⟨Nat.le_of_ble_eq_true rfl, Nat.le_of_ble_eq_true rfl⟩ rfl rfl ly53 rfl rfl (Nat.le_of_ble_eq_true rfl) hk3 ?_
    refine s_i2l (pc := 174) dX8_coupleDigest_174 ?_
    refine s_ladd (pc := 175) dX8_coupleDigest_175 ?_
    refine s_lstore (L' := [(4, .long ((31 * x4) + (Int32.toInt64 r4))), (0, .ref 53), (1, .long x1), (3, .int x3), (6, .int x6)]) (pc := 176) dX8_coupleDigest_176 (Nat.le_of_ble_eq_true rfl) rfl ?_
    refine s_ldc2 (v := 31) (pc := 178) dX8_coupleDigest_178 ct_X8_341 ?_
    refine s_lload 0 (pc := 181) dX8_coupleDigest_181 rfl ?_
    refine s_lmul (pc := 183) dX8_coupleDigest_183 ?_
    refine s_aload_n 1 (pc := 184) dX8_coupleDigest_184 rfl rfl ?_
    refine s_iload_n 3 (pc := 185) dX8_coupleDigest_185 rfl rfl ?_
    obtain ⟨r7, σ5, hk6, h⟩ := h
    refine s_callV (S := [.long (31 * ((31 * x4) + (Int32.toInt64 r4)))]) [.int x3] (pc := 186) dX8_coupleDigest_186 mv_X8_sortsBy ml_X8_303 ⟨Nat.le_of_ble_eq_true rfl, Nat.le_of_ble_eq_true rfl⟩ rfl rfl ly53 rfl rfl (Nat.le_of_ble_eq_true rfl) hk6 ?_
    refine s_i2l (pc := 189) dX8_coupleDigest_189 ?_
    refine s_ladd (pc := 190) dX8_coupleDigest_190 ?_
    refine s_lstore (L' := [(4, .long ((31 * ((31 * x4) + (Int32.toInt64 r4))) + (Int32.toInt64 r7))), (0, .ref 53), (1, .long x1), (3, .int x3), (6, .int x6)]) (pc := 191) dX8_coupleDigest_191 (Nat.le_of_ble_eq_true rfl) rfl ?_
    refine s_ldc2 (v := 31) (pc := 193) dX8_coupleDigest_193 ct_X8_341 ?_
    refine s_lload 0 (pc := 196) dX8_coupleDigest_196 rfl ?_
    refine s_lmul (pc := 198) dX8_coupleDigest_198 ?_
    refine s_aload_n 1 (pc := 199) dX8_coupleDigest_199 rfl rfl ?_
    refine s_iload_n 3 (pc := 200) dX8_coupleDigest_200 rfl rfl ?_
    obtain ⟨r10, σ8, hk9, h⟩ := h
    refine s_callV (S := [.long (31 * ((31 * ((31 * x4) + (Int32.toInt64 r4))) + (Int32.toInt64 r7)))]) [.int x3] (pc := 201) dX8_coupleDigest_201 mv_X8_askOf ml_X8_306 ⟨Nat.le_of_ble_eq_true rfl, Nat.le_of_ble_eq_true rfl⟩ rfl rfl ly53 rfl rfl (Nat.le_of_ble_eq_true rfl) hk9 ?_
    refine s_i2l (pc := 204) dX8_coupleDigest_204 ?_
    refine s_ladd (pc := 205) dX8_coupleDigest_205 ?_
    exact s_ret (r := some (.long ((31 * ((31 * ((31 * x4) + (Int32.toInt64 r4))) + (Int32.toInt64 r7))) + (Int32.toInt64 r10)))) dX8_coupleDigest_206 rfl h
  · replace h := h.2 q1
    refine s_ldc2 (v := 31) (pc := 138) dX8_coupleDigest_138 ct_X8_341 ?_
    refine s_lload 3 (pc := 141) dX8_coupleDigest_141 rfl ?_
    refine s_lmul (pc := 143) dX8_coupleDigest_143 ?_
    refine s_aload_n 0 (pc := 144) dX8_coupleDigest_144 rfl rfl ?_
    refine s_iload_n 2 (pc := 145) dX8_coupleDigest_145 rfl rfl ?_
    refine s_bipush (v := 12) (pc := 146) dX8_coupleDigest_146 rfl ?_
    refine s_iload 4 (pc := 148) dX8_coupleDigest_148 rfl ?_
    obtain ⟨r13, σ11, hk12, h⟩ := h
    refine s_callV (S := [.long (31 * x4)]) [.int x3, .int 12, .int x6] (pc := 150) dX8_coupleDigest_150 mv_X8_standOf ml_X8_272 ⟨Nat.le_of_ble_eq_true rfl, Nat.le_of_ble_eq_true rfl⟩ rfl rfl ly53 rfl rfl (Nat.le_of_ble_eq_true rfl) hk12 ?_
    refine s_i2l (pc := 153) dX8_coupleDigest_153 ?_
    refine s_ladd (pc := 154) dX8_coupleDigest_154 ?_
    refine s_lstore (L' := [(4, .long ((31 * x4) + (Int32.toInt64 r13))), (0, .ref 53), (1, .long x1), (3, .int x3), (6, .int x6)]) (pc := 155) dX8_coupleDigest_155 (Nat.le_of_ble_eq_true rfl) rfl ?_
    refine s_iinc (v := x6 + 1) (L' := [(6, .int (x6 + 1)), (4, .long ((31 * x4) + (Int32.toInt64 r13))), (0, .ref 53), (1, .long x1), (3, .int x3)]) 4 (pc := 157) dX8_coupleDigest_157 rfl rfl (Nat.le_of_ble_eq_true rfl) rfl ?_
    refine s_goto (pc := 160) (tgt := 132) dX8_coupleDigest_160 rfl ?_
    exact s_sub (L' := [(0, .ref 53), (1, .long x1), (3, .int x3), (4, .long ((31 * x4) + (Int32.toInt64 r13))), (6, .int (x6 + 1))]) [2, 3, 4, 1, 0] rfl h
set_option maxRecDepth 10000 in
set_option maxHeartbeats 4000000 in
theorem tX8_digest_0 {E : Ev}  {σ : Hp} {Φ : Option Value → Hp → Prop}  (h : Ru E mX8_digest 6 [(0, .ref 53), (1, .long 17), (3, .int 0)] [] σ Φ) : Ru E mX8_digest 0 [(0, .ref 53)] [] σ Φ := by
  refine s_ldc2 (v := 17) (pc := 0) dX8_digest_0 ct_X8_347 ?_
  refine s_lstore_n (L' := [(1, .long 17), (0, .ref 53)]) (pc := 3) dX8_digest_3 rfl (Nat.le_of_ble_eq_true rfl) rfl ?_
  refine s_iconst (v := 0) (pc := 4) dX8_digest_4 rfl ?_
  refine s_istore_n (L' := [(3, .int 0), (1, .long 17), (0, .ref 53)]) (pc := 5) dX8_digest_5 rfl (Nat.le_of_ble_eq_true rfl) rfl ?_
  exact s_sub (L' := [(0, .ref 53), (1, .long 17), (3, .int 0)]) [2, 1, 0] rfl h
set_option maxRecDepth 10000 in
set_option maxHeartbeats 4000000 in
theorem tX8_digest_6 {E : Ev} {x1 : Int64} {x3 : Int32} {σ : Hp} {Φ : Option Value → Hp → Prop}  (h : ((8 ≤ x3 → ∃ (r4 : Int32) (σ2 : Hp), Call E mX8_faultNow [.ref 53] σ (some (.int r4)) σ2 ∧ Ru E mX8_digest 45 [(0, .ref 53), (1, .long ((31 * x1) + (Int32.toInt64 r4))), (3, .int 0)] [] σ2 Φ) ∧ (¬ 8 ≤ x3 → ∃ (r7 : Int32) (σ5 : Hp), Call E mX8_count [.ref 53, .int x3] σ (some (.int r7)) σ5 ∧ Ru E mX8_digest 6 [(0, .ref 53), (1, .long ((31 * x1) + (Int32.toInt64 r7))), (3, .int (x3 + 1))] [] σ5 Φ))) : Ru E mX8_digest 6 [(0, .ref 53), (1, .long x1), (3, .int x3)] [] σ Φ := by
  refine s_iload_n 2 (pc := 6) dX8_digest_6 rfl rfl ?_
  refine s_bipush (v := 8) (pc := 7) dX8_digest_7 rfl ?_
  refine s_icmp_ge (pc := 9) (tgt := 31) dX8_digest_9 rfl (fun q1 => ?_) (fun q1 => ?_)
  · replace h := h.1 q1
    refine s_ldc2 (v := 31) (pc := 31) dX8_digest_31 ct_X8_341 ?_
    refine s_lload_n 1 (pc := 34) dX8_digest_34 rfl rfl ?_
    refine s_lmul (pc := 35) dX8_digest_35 ?_
    refine s_aload_n 0 (pc := 36) dX8_digest_36 rfl rfl ?_
    obtain ⟨r4, σ2, hk3, h⟩ := h
    refine s_callV (S := [.long (31 * x1)]) [] (pc := 37) dX8_digest_37 mv_X8_faultNow ml_X8_146 ⟨Nat.le_of_ble_eq_true rfl, Nat.le_of_ble_eq_true rfl⟩ rfl rfl ly53 rfl rfl (Nat.le_of_ble_eq_true rfl) hk3 ?_
    refine s_i2l (pc := 40) dX8_digest_40 ?_
    refine s_ladd (pc := 41) dX8_digest_41 ?_
    refine s_lstore_n (L' := [(1, .long ((31 * x1) + (Int32.toInt64 r4))), (0, .ref 53), (3, .int x3)]) (pc := 42) dX8_digest_42 rfl (Nat.le_of_ble_eq_true rfl) rfl ?_
    refine s_iconst (v := 0) (pc := 43) dX8_digest_43 rfl ?_
    refine s_istore_n (L' := [(3, .int 0), (1, .long ((31 * x1) + (Int32.toInt64 r4))), (0, .ref 53)]) (pc := 44) dX8_digest_44 rfl (Nat.le_of_ble_eq_true rfl) rfl ?_
    exact s_sub (L' := [(0, .ref 53), (1, .long ((31 * x1) + (Int32.toInt64 r4))), (3, .int 0)]) [2, 1, 0] rfl h
  · replace h := h.2 q1
    refine s_ldc2 (v := 31) (pc := 12) dX8_digest_12 ct_X8_341 ?_
    refine s_lload_n 1 (pc := 15) dX8_digest_15 rfl rfl ?_
    refine s_lmul (pc := 16) dX8_digest_16 ?_
    refine s_aload_n 0 (pc := 17) dX8_digest_17 rfl rfl ?_
    refine s_iload_n 2 (pc := 18) dX8_digest_18 rfl rfl ?_
    obtain ⟨r7, σ5, hk6, h⟩ := h
    refine s_callV (S := [.long (31 * x1)]) [.int x3] (pc := 19) dX8_digest_19 mv_X8_count ml_X8_349 ⟨Nat.le_of_ble_eq_true rfl, Nat.le_of_ble_eq_true rfl⟩ rfl rfl ly53 rfl rfl (Nat.le_of_ble_eq_true rfl) hk6 ?_
    refine s_i2l (pc := 22) dX8_digest_22 ?_
    refine s_ladd (pc := 23) dX8_digest_23 ?_
    refine s_lstore_n (L' := [(1, .long ((31 * x1) + (Int32.toInt64 r7))), (0, .ref 53), (3, .int x3)]) (pc := 24) dX8_digest_24 rfl (Nat.le_of_ble_eq_true rfl) rfl ?_
    refine s_iinc (v := x3 + 1) (L' := [(3, .int (x3 + 1)), (1, .long ((31 * x1) + (Int32.toInt64 r7))), (0, .ref 53)]) 2 (pc := 25) dX8_digest_25 rfl rfl (Nat.le_of_ble_eq_true rfl) rfl ?_
    refine s_goto (pc := 28) (tgt := 6) dX8_digest_28 rfl ?_
    exact s_sub (L' := [(0, .ref 53), (1, .long ((31 * x1) + (Int32.toInt64 r7))), (3, .int (x3 + 1))]) [2, 1, 0] rfl h
set_option maxRecDepth 10000 in
set_option maxHeartbeats 4000000 in
theorem tX8_digest_45 {E : Ev} {x1 : Int64} {x3 : Int32} {σ : Hp} {Φ : Option Value → Hp → Prop}  (h : (((σ 53 2) ≤ x3 → Ru E mX8_digest 68 [(0, .ref 53), (1, .long x1), (3, .int 0)] [] σ Φ) ∧ (¬ (σ 53 2) ≤ x3 → ∃ (r4 : Int64) (σ2 : Hp), Call E mX8_coupleDigest [.ref 53, .long x1, .int x3] σ (some (.long r4)) σ2 ∧ Ru E mX8_digest 45 [(0, .ref 53), (1, .long r4), (3, .int (x3 + 1))] [] σ2 Φ))) : Ru E mX8_digest 45 [(0, .ref 53), (1, .long x1), (3, .int x3)] [] σ Φ := by
  refine s_iload_n 2 (pc := 45) dX8_digest_45 rfl rfl ?_
  refine s_aload_n 0 (pc := 46) dX8_digest_46 rfl rfl ?_
  refine s_getI (v := σ 53 2) (pc := 47) dX8_digest_47 fl_X8_139 ly53 rfl rfl ?_
  refine s_icmp_ge (pc := 50) (tgt := 66) dX8_digest_50 rfl (fun q1 => ?_) (fun q1 => ?_)
  · replace h := h.1 q1
    refine s_iconst (v := 0) (pc := 66) dX8_digest_66 rfl ?_
    refine s_istore_n (L' := [(3, .int 0), (0, .ref 53), (1, .long x1)]) (pc := 67) dX8_digest_67 rfl (Nat.le_of_ble_eq_true rfl) rfl ?_
    exact s_sub (L' := [(0, .ref 53), (1, .long x1), (3, .int 0)]) [1, 2, 0] rfl h
  · replace h := h.2 q1
    refine s_aload_n 0 (pc := 53) dX8_digest_53 rfl rfl ?_
    refine s_lload_n 1 (pc := 54) dX8_digest_54 rfl rfl ?_
    refine s_iload_n 2 (pc := 55) dX8_digest_55 rfl rfl ?_
    obtain ⟨r4, σ2, hk3, h⟩ := h
    refine s_callV (S := []) [.long x1, .int x3] (pc := 56) dX8_digest_56 mv_X8_coupleDigest ml_X8_352 ⟨Nat.le_of_ble_eq_true rfl, Nat.le_of_ble_eq_true rfl⟩ rfl rfl ly53 rfl rfl (Nat.le_of_ble_eq_true rfl) hk3 ?_
    refine s_lstore_n (L' := [(1, .long r4), (0, .ref 53), (3, .int x3)]) (pc := 59) dX8_digest_59 rfl (Nat.le_of_ble_eq_true rfl) rfl ?_
    refine s_iinc (v := x3 + 1) (L' := [(3, .int (x3 + 1)), (1, .long r4), (0, .ref 53)]) 2 (pc := 60) dX8_digest_60 rfl rfl (Nat.le_of_ble_eq_true rfl) rfl ?_
    refine s_goto (pc := 63) (tgt := 45) dX8_digest_63 rfl ?_
    exact s_sub (L' := [(0, .ref 53), (1, .long r4), (3, .int (x3 + 1))]) [2, 1, 0] rfl h
set_option maxRecDepth 10000 in
set_option maxHeartbeats 4000000 in
theorem tX8_digest_68 {E : Ev} {x1 : Int64} {x3 : Int32} {σ : Hp} {Φ : Option Value → Hp → Prop}  (h : (((σ 53 2) ≤ x3 → Ru E mX8_digest 138 [(0, .ref 53), (1, .long x1), (3, .int 0)] [] σ Φ) ∧ (¬ (σ 53 2) ≤ x3 → Ru E mX8_digest 81 [(0, .ref 53), (1, .long x1), (3, .int x3), (4, .int (x3 + 1))] [] σ Φ))) : Ru E mX8_digest 68 [(0, .ref 53), (1, .long x1), (3, .int x3)] [] σ Φ := by
  refine s_iload_n 2 (pc := 68) dX8_digest_68 rfl rfl ?_
  refine s_aload_n 0 (pc := 69) dX8_digest_69 rfl rfl ?_
  refine s_getI (v := σ 53 2) (pc := 70) dX8_digest_70 fl_X8_139 ly53 rfl rfl ?_
  refine s_icmp_ge (pc := 73) (tgt := 136) dX8_digest_73 rfl (fun q1 => ?_) (fun q1 => ?_)
  · replace h := h.1 q1
    refine s_iconst (v := 0) (pc := 136) dX8_digest_136 rfl ?_
    refine s_istore_n (L' := [(3, .int 0), (0, .ref 53), (1, .long x1)]) (pc := 137) dX8_digest_137 rfl (Nat.le_of_ble_eq_true rfl) rfl ?_
    exact s_sub (L' := [(0, .ref 53), (1, .long x1), (3, .int 0)]) [1, 2, 0] rfl h
  · replace h := h.2 q1
    refine s_iload_n 2 (pc := 76) dX8_digest_76 rfl rfl ?_
    refine s_iconst (v := 1) (pc := 77) dX8_digest_77 rfl ?_
    refine s_iadd (pc := 78) dX8_digest_78 ?_
    refine s_istore (L' := [(4, .int (x3 + 1)), (0, .ref 53), (1, .long x1), (3, .int x3)]) (pc := 79) dX8_digest_79 (Nat.le_of_ble_eq_true rfl) rfl ?_
    exact s_sub (L' := [(0, .ref 53), (1, .long x1), (3, .int x3), (4, .int (x3 + 1))]) [1, 2, 3, 0] rfl h
set_option maxRecDepth 10000 in
set_option maxHeartbeats 4000000 in
theorem tX8_digest_81 {E : Ev} {x1 : Int64} {x3 : Int32} {x4 : Int32} {σ : Hp} {Φ : Option Value → Hp → Prop}  (h : (((σ 53 2) ≤ x4 → Ru E mX8_digest 68 [(0, .ref 53), (1, .long x1), (3, .int (x3 + 1))] [] σ Φ) ∧ (¬ (σ 53 2) ≤ x4 → ∃ (r4 : Int32) (σ2 : Hp), Call E mX8_areOf [.ref 53, .int 9, .int x3, .int x4] σ (some (.int r4)) σ2 ∧ ∃ (r7 : Int32) (σ5 : Hp), Call E mX8_areOf [.ref 53, .int 19, .int x3, .int x4] σ2 (some (.int r7)) σ5 ∧ Ru E mX8_digest 81 [(0, .ref 53), (1, .long ((31 * ((31 * x1) + (Int32.toInt64 r4))) + (Int32.toInt64 r7))), (3, .int x3), (4, .int (x4 + 1))] [] σ5 Φ))) : Ru E mX8_digest 81 [(0, .ref 53), (1, .long x1), (3, .int x3), (4, .int x4)] [] σ Φ := by
  refine s_iload 3 (pc := 81) dX8_digest_81 rfl ?_
  refine s_aload_n 0 (pc := 83) dX8_digest_83 rfl rfl ?_
  refine s_getI (v := σ 53 2) (pc := 84) dX8_digest_84 fl_X8_139 ly53 rfl rfl ?_
  refine s_icmp_ge (pc := 87) (tgt := 130) dX8_digest_87 rfl (fun q1 => ?_) (fun q1 => ?_)
  · replace h := h.1 q1
    refine s_iinc (v := x3 + 1) (L' := [(3, .int (x3 + 1)), (0, .ref 53), (1, .long x1), (4, .int x4)]) 2 (pc := 130) dX8_digest_130 rfl rfl (Nat.le_of_ble_eq_true rfl) rfl ?_
    refine s_goto (pc := 133) (tgt := 68) dX8_digest_133 rfl ?_
    exact s_sub (L' := [(0, .ref 53), (1, .long x1), (3, .int (x3 + 1))]) [1, 2, 0] rfl h
  · replace h := h.2 q1
    refine s_ldc2 (v := 31) (pc := 90) dX8_digest_90 ct_X8_341 ?_
    refine s_lload_n 1 (pc := 93) dX8_digest_93 rfl rfl ?_
    refine s_lmul (pc := 94) dX8_digest_94 ?_
    refine s_aload_n 0 (pc := 95) dX8_digest_95 rfl rfl ?_
    refine s_bipush (v := 9) (pc := 96) dX8_digest_96 rfl ?_
    refine s_iload_n 2 (pc := 98) dX8_digest_98 rfl rfl ?_
    refine s_iload 3 (pc := 99) dX8_digest_99 rfl ?_
    obtain ⟨r4, σ2, hk3, h⟩ := h
    refine s_callV (S := [.long (31 * x1)]) [.int 9, .int x3, .int x4] (pc := 101) dX8_digest_101 mv_X8_areOf ml_X8_238 ⟨Nat.le_of_ble_eq_true rfl, Nat.le_of_ble_eq_true rfl⟩ rfl rfl ly53 rfl rfl (Nat.le_of_ble_eq_true rfl) hk3 ?_
    refine s_i2l (pc := 104) dX8_digest_104 ?_
    refine s_ladd (pc := 105) dX8_digest_105 ?_
    refine s_lstore_n (L' := [(1, .long ((31 * x1) + (Int32.toInt64 r4))), (0, .ref 53), (3, .int x3), (4, .int x4)]) (pc := 106) dX8_digest_106 rfl (Nat.le_of_ble_eq_true rfl) rfl ?_
    refine s_ldc2 (v := 31) (pc := 107) dX8_digest_107 ct_X8_341 ?_
    refine s_lload_n 0 (pc := 110) dX8_digest_110 rfl rfl ?_
    refine s_lmul (pc := 111) dX8_digest_111 ?_
    refine s_aload_n 1 (pc := 112) dX8_digest_112 rfl rfl ?_
    refine s_bipush (v := 19) (pc := 113) dX8_digest_113 rfl ?_
    refine s_iload_n 2 (pc := 115) dX8_digest_115 rfl rfl ?_
    refine s_iload 3 (pc := 116) dX8_digest_116 rfl ?_
    obtain ⟨r7, σ5, hk6, h⟩ := h
    refine s_callV (S := [.long (31 * ((31 * x1) + (Int32.toInt64 r4)))]) [.int 19, .int x3, .int x4] (pc := 118) dX8_digest_118 mv_X8_areOf ml_X8_238 ⟨Nat.le_of_ble_eq_true rfl, Nat.le_of_ble_eq_true rfl⟩ rfl rfl ly53 rfl rfl (Nat.le_of_ble_eq_true rfl) hk6 ?_
    refine s_i2l (pc := 121) dX8_digest_121 ?_
    refine s_ladd (pc := 122) dX8_digest_122 ?_
    refine s_lstore_n (L' := [(1, .long ((31 * ((31 * x1) + (Int32.toInt64 r4))) + (Int32.toInt64 r7))), (0, .ref 53), (3, .int x3), (4, .int x4)]) (pc := 123) dX8_digest_123 rfl (Nat.le_of_ble_eq_true rfl) rfl ?_
    refine s_iinc (v := x4 + 1) (L' := [(4, .int (x4 + 1)), (1, .long ((31 * ((31 * x1) + (Int32.toInt64 r4))) + (Int32.toInt64 r7))), (0, .ref 53), (3, .int x3)]) 3 (pc := 124) dX8_digest_124 rfl rfl (Nat.le_of_ble_eq_true rfl) rfl ?_
    refine s_goto (pc := 127) (tgt := 81) dX8_digest_127 rfl ?_
    exact s_sub (L' := [(0, .ref 53), (1, .long ((31 * ((31 * x1) + (Int32.toInt64 r4))) + (Int32.toInt64 r7))), (3, .int x3), (4, .int (x4 + 1))]) [2, 1, 3, 0] rfl h
set_option maxRecDepth 10000 in
set_option maxHeartbeats 4000000 in
theorem tX8_digest_138 {E : Ev} {x1 : Int64} {x3 : Int32} {σ : Hp} {Φ : Option Value → Hp → Prop}  (h : ((20 ≤ x3 → ∃ (r4 : Int32) (σ2 : Hp), Call E mX8_holesOf [.ref 53] σ (some (.int r4)) σ2 ∧ Ru E mX8_digest 205 [(0, .ref 53), (1, .long ((31 * x1) + (Int32.toInt64 r4))), (3, .int 0)] [] σ2 Φ) ∧ (¬ 20 ≤ x3 → ∃ (r7 : Int32) (σ5 : Hp), Call E mX8_pairsOf [.ref 53, .int x3, .int 0] σ (some (.int r7)) σ5 ∧ ∃ (r10 : Int32) (σ8 : Hp), Call E mX8_pairsOf [.ref 53, .int x3, .int 1] σ5 (some (.int r10)) σ8 ∧ ∃ (r13 : Int32) (σ11 : Hp), Call E mX8_closedOf [.ref 53, .int x3] σ8 (some (.int r13)) σ11 ∧ Ru E mX8_digest 138 [(0, .ref 53), (1, .long ((31 * ((31 * ((31 * x1) + (Int32.toInt64 r7))) + (Int32.toInt64 r10))) + (Int32.toInt64 r13))), (3, .int (x3 + 1))] [] σ11 Φ))) : Ru E mX8_digest 138 [(0, .ref 53), (1, .long x1), (3, .int x3)] [] σ Φ := by
  refine s_iload_n 2 (pc := 138) dX8_digest_138 rfl rfl ?_
  refine s_bipush (v := 20) (pc := 139) dX8_digest_139 rfl ?_
  refine s_icmp_ge (pc := 141) (tgt := 191) dX8_digest_141 rfl (fun q1 => ?_) (fun q1 => ?_)
  · replace h := h.1 q1
    refine s_ldc2 (v := 31) (pc := 191) dX8_digest_191 ct_X8_341 ?_
    refine s_lload_n 1 (pc := 194) dX8_digest_194 rfl rfl ?_
    refine s_lmul (pc := 195) dX8_digest_195 ?_
    refine s_aload_n 0 (pc := 196) dX8_digest_196 rfl rfl ?_
    obtain ⟨r4, σ2, hk3, h⟩ := h
    refine s_callV (S := [.long (31 * x1)]) [] (pc := 197) dX8_digest_197 mv_X8_holesOf ml_X8_256 ⟨Nat.le_of_ble_eq_true rfl, Nat.le_of_ble_eq_true rfl⟩ rfl rfl ly53 rfl rfl (Nat.le_of_ble_eq_true rfl) hk3 ?_
    refine s_i2l (pc := 200) dX8_digest_200 ?_
    refine s_ladd (pc := 201) dX8_digest_201 ?_
    refine s_lstore_n (L' := [(1, .long ((31 * x1) + (Int32.toInt64 r4))), (0, .ref 53), (3, .int x3)]) (pc := 202) dX8_digest_202 rfl (Nat.le_of_ble_eq_true rfl) rfl ?_
    refine s_iconst (v := 0) (pc := 203) dX8_digest_203 rfl ?_
    refine s_istore_n (L' := [(3, .int 0), (1, .long ((31 * x1) + (Int32.toInt64 r4))), (0, .ref 53)]) (pc := 204) dX8_digest_204 rfl (Nat.le_of_ble_eq_true rfl) rfl ?_
    exact s_sub (L' := [(0, .ref 53), (1, .long ((31 * x1) + (Int32.toInt64 r4))), (3, .int 0)]) [2, 1, 0] rfl h
  · replace h := h.2 q1
    refine s_ldc2 (v := 31) (pc := 144) dX8_digest_144 ct_X8_341 ?_
    refine s_lload_n 1 (pc := 147) dX8_digest_147 rfl rfl ?_
    refine s_lmul (pc := 148) dX8_digest_148 ?_
    refine s_aload_n 0 (pc := 149) dX8_digest_149 rfl rfl ?_
    refine s_iload_n 2 (pc := 150) dX8_digest_150 rfl rfl ?_
    refine s_iconst (v := 0) (pc := 151) dX8_digest_151 rfl ?_
    obtain ⟨r7, σ5, hk6, h⟩ := h
    refine s_callV (S := [.long (31 * x1)]) [.int x3, .int 0] (pc := 152) dX8_digest_152 mv_X8_pairsOf ml_X8_244 ⟨Nat.le_of_ble_eq_true rfl, Nat.le_of_ble_eq_true rfl⟩ rfl rfl ly53 rfl rfl (Nat.le_of_ble_eq_true rfl) hk6 ?_
    refine s_i2l (pc := 155) dX8_digest_155 ?_
    refine s_ladd (pc := 156) dX8_digest_156 ?_
    refine s_lstore_n (L' := [(1, .long ((31 * x1) + (Int32.toInt64 r7))), (0, .ref 53), (3, .int x3)]) (pc := 157) dX8_digest_157 rfl (Nat.le_of_ble_eq_true rfl) rfl ?_
    refine s_ldc2 (v := 31) (pc := 158) dX8_digest_158 ct_X8_341 ?_
    refine s_lload_n 0 (pc := 161) dX8_digest_161 rfl rfl ?_
    refine s_lmul (pc := 162) dX8_digest_162 ?_
    refine s_aload_n 1 (pc := 163) dX8_digest_163 rfl rfl ?_
    refine s_iload_n 2 (pc := 164) dX8_digest_164 rfl rfl ?_
    refine s_iconst (v := 1) (pc := 165) dX8_digest_165 rfl ?_
    obtain ⟨r10, σ8, hk9, h⟩ := h
    refine s_callV (S := [.long (31 * ((31 * x1) + (Int32.toInt64 r7)))]) [.int x3, .int 1] (pc := 166) dX8_digest_166 mv_X8_pairsOf ml_X8_244 ⟨Nat.le_of_ble_eq_true rfl, Nat.le_of_ble_eq_true rfl⟩ rfl rfl ly53 rfl rfl (Nat.le_of_ble_eq_true rfl) hk9 ?_
    refine s_i2l (pc := 169) dX8_digest_169 ?_
    refine s_ladd (pc := 170) dX8_digest_170 ?_
    refine s_lstore_n (L' := [(1, .long ((31 * ((31 * x1) + (Int32.toInt64 r7))) + (Int32.toInt64 r10))), (0, .ref 53), (3, .int x3)]) (pc := 171) dX8_digest_171 rfl (Nat.le_of_ble_eq_true rfl) rfl ?_
    refine s_ldc2 (v := 31) (pc := 172) dX8_digest_172 ct_X8_341 ?_
    refine s_lload_n 0 (pc := 175) dX8_digest_175 rfl rfl ?_
    refine s_lmul (pc := 176) dX8_digest_176 ?_
    refine s_aload_n 1 (pc := 177) dX8_digest_177 rfl rfl ?_
    refine s_iload_n 2 (pc := 178) dX8_digest_178 rfl rfl ?_
    obtain ⟨r13, σ11, hk12, h⟩ := h
    refine s_callV (S := [.long (31 * ((31 * ((31 * x1) + (Int32.toInt64 r7))) + (Int32.toInt64 r10)))]) [.int x3] (pc := 179) dX8_digest_179 mv_X8_closedOf ml_X8_250 ⟨Nat.le_of_ble_eq_true rfl, Nat.le_of_ble_eq_true rfl⟩ rfl rfl ly53 rfl rfl (Nat.le_of_ble_eq_true rfl) hk12 ?_
    refine s_i2l (pc := 182) dX8_digest_182 ?_
    refine s_ladd (pc := 183) dX8_digest_183 ?_
    refine s_lstore_n (L' := [(1, .long ((31 * ((31 * ((31 * x1) + (Int32.toInt64 r7))) + (Int32.toInt64 r10))) + (Int32.toInt64 r13))), (0, .ref 53), (3, .int x3)]) (pc := 184) dX8_digest_184 rfl (Nat.le_of_ble_eq_true rfl) rfl ?_
    refine s_iinc (v := x3 + 1) (L' := [(3, .int (x3 + 1)), (1, .long ((31 * ((31 * ((31 * x1) + (Int32.toInt64 r7))) + (Int32.toInt64 r10))) + (Int32.toInt64 r13))), (0, .ref 53)]) 2 (pc := 185) dX8_digest_185 rfl rfl (Nat.le_of_ble_eq_true rfl) rfl ?_
    refine s_goto (pc := 188) (tgt := 138) dX8_digest_188 rfl ?_
    exact s_sub (L' := [(0, .ref 53), (1, .long ((31 * ((31 * ((31 * x1) + (Int32.toInt64 r7))) + (Int32.toInt64 r10))) + (Int32.toInt64 r13))), (3, .int (x3 + 1))]) [2, 1, 0] rfl h
set_option maxRecDepth 10000 in
set_option maxHeartbeats 4000000 in
theorem tX8_digest_205 {E : Ev} {x1 : Int64} {x3 : Int32} {σ : Hp} {Φ : Option Value → Hp → Prop}  (h : ((3 ≤ x3 → Ru E mX8_digest 231 [(0, .ref 53), (1, .long x1), (3, .int 0)] [] σ Φ) ∧ (¬ 3 ≤ x3 → ∃ (r4 : Int32) (σ2 : Hp), Call E mX8_metOf [.ref 53, .int x3] σ (some (.int r4)) σ2 ∧ Ru E mX8_digest 205 [(0, .ref 53), (1, .long ((31 * x1) + (Int32.toInt64 r4))), (3, .int (x3 + 1))] [] σ2 Φ))) : Ru E mX8_digest 205 [(0, .ref 53), (1, .long x1), (3, .int x3)] [] σ Φ := by
  refine s_iload_n 2 (pc := 205) dX8_digest_205 rfl rfl ?_
  refine s_iconst (v := 3) (pc := 206) dX8_digest_206 rfl ?_
  refine s_icmp_ge (pc := 207) (tgt := 229) dX8_digest_207 rfl (fun q1 => ?_) (fun q1 => ?_)
  · replace h := h.1 q1
    refine s_iconst (v := 0) (pc := 229) dX8_digest_229 rfl ?_
    refine s_istore_n (L' := [(3, .int 0), (0, .ref 53), (1, .long x1)]) (pc := 230) dX8_digest_230 rfl (Nat.le_of_ble_eq_true rfl) rfl ?_
    exact s_sub (L' := [(0, .ref 53), (1, .long x1), (3, .int 0)]) [1, 2, 0] rfl h
  · replace h := h.2 q1
    refine s_ldc2 (v := 31) (pc := 210) dX8_digest_210 ct_X8_341 ?_
    refine s_lload_n 1 (pc := 213) dX8_digest_213 rfl rfl ?_
    refine s_lmul (pc := 214) dX8_digest_214 ?_
    refine s_aload_n 0 (pc := 215) dX8_digest_215 rfl rfl ?_
    refine s_iload_n 2 (pc := 216) dX8_digest_216 rfl rfl ?_
    obtain ⟨r4, σ2, hk3, h⟩ := h
    refine s_callV (S := [.long (31 * x1)]) [.int x3] (pc := 217) dX8_digest_217 mv_X8_metOf ml_X8_262 ⟨Nat.le_of_ble_eq_true rfl, Nat.le_of_ble_eq_true rfl⟩ rfl rfl ly53 rfl rfl (Nat.le_of_ble_eq_true rfl) hk3 ?_
    refine s_i2l (pc := 220) dX8_digest_220 ?_
    refine s_ladd (pc := 221) dX8_digest_221 ?_
    refine s_lstore_n (L' := [(1, .long ((31 * x1) + (Int32.toInt64 r4))), (0, .ref 53), (3, .int x3)]) (pc := 222) dX8_digest_222 rfl (Nat.le_of_ble_eq_true rfl) rfl ?_
    refine s_iinc (v := x3 + 1) (L' := [(3, .int (x3 + 1)), (1, .long ((31 * x1) + (Int32.toInt64 r4))), (0, .ref 53)]) 2 (pc := 223) dX8_digest_223 rfl rfl (Nat.le_of_ble_eq_true rfl) rfl ?_
    refine s_goto (pc := 226) (tgt := 205) dX8_digest_226 rfl ?_
    exact s_sub (L' := [(0, .ref 53), (1, .long ((31 * x1) + (Int32.toInt64 r4))), (3, .int (x3 + 1))]) [2, 1, 0] rfl h
set_option maxRecDepth 10000 in
set_option maxHeartbeats 4000000 in
theorem tX8_digest_231 {E : Ev} {x1 : Int64} {x3 : Int32} {σ : Hp} {Φ : Option Value → Hp → Prop}  (h : ((3 ≤ x3 → ∃ (r4 : Int32) (σ2 : Hp), Call E mX8_dropBy [.ref 53] σ (some (.int r4)) σ2 ∧ ∃ (r7 : Int32) (σ5 : Hp), Call E mX8_ofRow [.ref 53, .int r4, .int 0] σ2 (some (.int r7)) σ5 ∧ ∃ (r10 : Int32) (σ8 : Hp), Call E mX8_neverNow [.ref 53] σ5 (some (.int r10)) σ8 ∧ ∃ (r13 : Int64) (σ11 : Hp), Call E mX8_gossipOf [.ref 53, .int 5, .int 14, .int 0] σ8 (some (.long r13)) σ11 ∧ ∃ (r16 : Int64) (σ14 : Hp), Call E mX8_gossipOf [.ref 53, .int 5, .int 14, .int 1] σ11 (some (.long r16)) σ14 ∧ ∃ (r19 : Int32) (σ17 : Hp), Call E mX8_agesOf [.ref 53, .int 7, .int 6, .int 0] σ14 (some (.int r19)) σ17 ∧ ∃ (r22 : Int32) (σ20 : Hp), Call E mX8_agesOf [.ref 53, .int 7, .int 6, .int 1] σ17 (some (.int r22)) σ20 ∧ Φ (some (.long ((31 * ((31 * ((31 * ((31 * ((31 * ((31 * ((31 * x1) + (Int32.toInt64 r4))) + (Int32.toInt64 r7))) + (Int32.toInt64 r10))) + r13)) + r16)) + (Int32.toInt64 r19))) + (Int32.toInt64 r22)))) σ20) ∧ (¬ 3 ≤ x3 → ∃ (r25 : Int32) (σ23 : Hp), Call E mX8_swapOf [.ref 53, .int x3] σ (some (.int r25)) σ23 ∧ Ru E mX8_digest 231 [(0, .ref 53), (1, .long ((31 * x1) + (Int32.toInt64 r25))), (3, .int (x3 + 1))] [] σ23 Φ))) : Ru E mX8_digest 231 [(0, .ref 53), (1, .long x1), (3, .int x3)] [] σ Φ := by
  refine s_iload_n 2 (pc := 231) dX8_digest_231 rfl rfl ?_
  refine s_iconst (v := 3) (pc := 232) dX8_digest_232 rfl ?_
  refine s_icmp_ge (pc := 233) (tgt := 255) dX8_digest_233 rfl (fun q1 => ?_) (fun q1 => ?_)
  · replace h := h.1 q1
    refine s_aload_n 0 (pc := 255) dX8_digest_255 rfl rfl ?_
    obtain ⟨r4, σ2, hk3, h⟩ := h
    refine s_callV (S := []) [] (pc := 256) dX8_digest_256 mv_X8_dropBy ml_X8_284 ⟨Nat.le_of_ble_eq_true rfl, Nat.le_of_ble_eq_true rfl⟩ rfl rfl ly53 rfl rfl (Nat.le_of_ble_eq_true rfl) hk3 ?_
    refine s_istore_n (L' := [(3, .int r4), (0, .ref 53), (1, .long x1)]) (pc := 259) dX8_digest_259 rfl (Nat.le_of_ble_eq_true rfl) rfl ?_
    refine s_ldc2 (v := 31) (pc := 260) dX8_digest_260 ct_X8_341 ?_
    refine s_lload_n 2 (pc := 263) dX8_digest_263 rfl rfl ?_
    refine s_lmul (pc := 264) dX8_digest_264 ?_
    refine s_iload_n 0 (pc := 265) dX8_digest_265 rfl rfl ?_
    refine s_i2l (pc := 266) dX8_digest_266 ?_
    refine s_ladd (pc := 267) dX8_digest_267 ?_
    refine s_lstore_n (L' := [(1, .long ((31 * x1) + (Int32.toInt64 r4))), (3, .int r4), (0, .ref 53)]) (pc := 268) dX8_digest_268 rfl (Nat.le_of_ble_eq_true rfl) rfl ?_
    refine s_ldc2 (v := 31) (pc := 269) dX8_digest_269 ct_X8_341 ?_
    refine s_lload_n 0 (pc := 272) dX8_digest_272 rfl rfl ?_
    refine s_lmul (pc := 273) dX8_digest_273 ?_
    refine s_aload_n 2 (pc := 274) dX8_digest_274 rfl rfl ?_
    refine s_iload_n 1 (pc := 275) dX8_digest_275 rfl rfl ?_
    refine s_iconst (v := 0) (pc := 276) dX8_digest_276 rfl ?_
    obtain ⟨r7, σ5, hk6, h⟩ := h
    refine s_callV (S := [.long (31 * ((31 * x1) + (Int32.toInt64 r4)))]) [.int r4, .int 0] (pc := 277) dX8_digest_277 mv_X8_ofRow ml_X8_287 ⟨Nat.le_of_ble_eq_true rfl, Nat.le_of_ble_eq_true rfl⟩ rfl rfl ly53 rfl rfl (Nat.le_of_ble_eq_true rfl) hk6 ?_
    refine s_i2l (pc := 280) dX8_digest_280 ?_
    refine s_ladd (pc := 281) dX8_digest_281 ?_
    refine s_lstore_n (L' := [(1, .long ((31 * ((31 * x1) + (Int32.toInt64 r4))) + (Int32.toInt64 r7))), (3, .int r4), (0, .ref 53)]) (pc := 282) dX8_digest_282 rfl (Nat.le_of_ble_eq_true rfl) rfl ?_
    refine s_ldc2 (v := 31) (pc := 283) dX8_digest_283 ct_X8_341 ?_
    refine s_lload_n 0 (pc := 286) dX8_digest_286 rfl rfl ?_
    refine s_lmul (pc := 287) dX8_digest_287 ?_
    refine s_aload_n 2 (pc := 288) dX8_digest_288 rfl rfl ?_
    obtain ⟨r10, σ8, hk9, h⟩ := h
    refine s_callV (S := [.long (31 * ((31 * ((31 * x1) + (Int32.toInt64 r4))) + (Int32.toInt64 r7)))]) [] (pc := 289) dX8_digest_289 mv_X8_neverNow ml_X8_297 ⟨Nat.le_of_ble_eq_true rfl, Nat.le_of_ble_eq_true rfl⟩ rfl rfl ly53 rfl rfl (Nat.le_of_ble_eq_true rfl) hk9 ?_
    refine s_i2l (pc := 292) dX8_digest_292 ?_
    refine s_ladd (pc := 293) dX8_digest_293 ?_
    refine s_lstore_n (L' := [(1, .long ((31 * ((31 * ((31 * x1) + (Int32.toInt64 r4))) + (Int32.toInt64 r7))) + (Int32.toInt64 r10))), (3, .int r4), (0, .ref 53)]) (pc := 294) dX8_digest_294 rfl (Nat.le_of_ble_eq_true rfl) rfl ?_
    refine s_ldc2 (v := 31) (pc := 295) dX8_digest_295 ct_X8_341 ?_
    refine s_lload_n 0 (pc := 298) dX8_digest_298 rfl rfl ?_
    refine s_lmul (pc := 299) dX8_digest_299 ?_
    refine s_aload_n 2 (pc := 300) dX8_digest_300 rfl rfl ?_
    refine s_iconst (v := 5) (pc := 301) dX8_digest_301 rfl ?_
    refine s_bipush (v := 14) (pc := 302) dX8_digest_302 rfl ?_
    refine s_iconst (v := 0) (pc := 304) dX8_digest_304 rfl ?_
    obtain ⟨r13, σ11, hk12, h⟩ := h
    refine s_callV (S := [.long (31 * ((31 * ((31 * ((31 * x1) + (Int32.toInt64 r4))) + (Int32.toInt64 r7))) + (Int32.toInt64 r10)))]) [.int 5, .int 14, .int 0] (pc := 305) dX8_digest_305 mv_X8_gossipOf ml_X8_313 ⟨Nat.le_of_ble_eq_true rfl, Nat.le_of_ble_eq_true rfl⟩ rfl rfl ly53 rfl rfl (Nat.le_of_ble_eq_true rfl) hk12 ?_
    refine s_ladd (pc := 308) dX8_digest_308 ?_
    refine s_lstore_n (L' := [(1, .long ((31 * ((31 * ((31 * ((31 * x1) + (Int32.toInt64 r4))) + (Int32.toInt64 r7))) + (Int32.toInt64 r10))) + r13)), (3, .int r4), (0, .ref 53)]) (pc := 309) dX8_digest_309 rfl (Nat.le_of_ble_eq_true rfl) rfl ?_
    refine s_ldc2 (v := 31) (pc := 310) dX8_digest_310 ct_X8_341 ?_
    refine s_lload_n 0 (pc := 313) dX8_digest_313 rfl rfl ?_
    refine s_lmul (pc := 314) dX8_digest_314 ?_
    refine s_aload_n 2 (pc := 315) dX8_digest_315 rfl rfl ?_
    refine s_iconst (v := 5) (pc := 316) dX8_digest_316 rfl ?_
    refine s_bipush (v := 14) (pc := 317) dX8_digest_317 rfl ?_
    refine s_iconst (v := 1) (pc := 319) dX8_digest_319 rfl ?_
    obtain ⟨r16, σ14, hk15, h⟩ := h
    refine s_callV (S := [.long (31 * ((31 * ((31 * ((31 * ((31 * x1) + (Int32.toInt64 r4))) + (Int32.toInt64 r7))) + (Int32.toInt64 r10))) + r13))]) [.int 5, .int 14, .int 1] (pc := 320) dX8_digest_320 mv_X8_gossipOf ml_X8_313 ⟨Nat.le_of_ble_eq_true rfl, Nat.le_of_ble_eq_true rfl⟩ rfl rfl ly53 rfl rfl (Nat.le_of_ble_eq_true rfl) hk15 ?_
    refine s_ladd (pc := 323) dX8_digest_323 ?_
    refine s_lstore_n (L' := [(1, .long ((31 * ((31 * ((31 * ((31 * ((31 * x1) + (Int32.toInt64 r4))) + (Int32.toInt64 r7))) + (Int32.toInt64 r10))) + r13)) + r16)), (3, .int r4), (0, .ref 53)]) (pc := 324) dX8_digest_324 rfl (Nat.le_of_ble_eq_true rfl) rfl ?_
    refine s_ldc2 (v := 31) (pc := 325) dX8_digest_325 ct_X8_341 ?_
    refine s_lload_n 0 (pc := 328) dX8_digest_328 rfl rfl ?_
    refine s_lmul (pc := 329) dX8_digest_329 ?_
    refine s_aload_n 2 (pc := 330) dX8_digest_330 rfl rfl ?_
    refine s_bipush (v := 7) (pc := 331) dX8_digest_331 rfl ?_
    refine s_bipush (v := 6) (pc := 333) dX8_digest_333 rfl ?_
    refine s_iconst (v := 0) (pc := 335) dX8_digest_335 rfl ?_
    obtain ⟨r19, σ17, hk18, h⟩ := h
    refine s_callV (S := [.long (31 * ((31 * ((31 * ((31 * ((31 * ((31 * x1) + (Int32.toInt64 r4))) + (Int32.toInt64 r7))) + (Int32.toInt64 r10))) + r13)) + r16))]) [.int 7, .int 6, .int 0] (pc := 336) dX8_digest_336 mv_X8_agesOf ml_X8_325 ⟨Nat.le_of_ble_eq_true rfl, Nat.le_of_ble_eq_true rfl⟩ rfl rfl ly53 rfl rfl (Nat.le_of_ble_eq_true rfl) hk18 ?_
    refine s_i2l (pc := 339) dX8_digest_339 ?_
    refine s_ladd (pc := 340) dX8_digest_340 ?_
    refine s_lstore_n (L' := [(1, .long ((31 * ((31 * ((31 * ((31 * ((31 * ((31 * x1) + (Int32.toInt64 r4))) + (Int32.toInt64 r7))) + (Int32.toInt64 r10))) + r13)) + r16)) + (Int32.toInt64 r19))), (3, .int r4), (0, .ref 53)]) (pc := 341) dX8_digest_341 rfl (Nat.le_of_ble_eq_true rfl) rfl ?_
    refine s_ldc2 (v := 31) (pc := 342) dX8_digest_342 ct_X8_341 ?_
    refine s_lload_n 0 (pc := 345) dX8_digest_345 rfl rfl ?_
    refine s_lmul (pc := 346) dX8_digest_346 ?_
    refine s_aload_n 2 (pc := 347) dX8_digest_347 rfl rfl ?_
    refine s_bipush (v := 7) (pc := 348) dX8_digest_348 rfl ?_
    refine s_bipush (v := 6) (pc := 350) dX8_digest_350 rfl ?_
    refine s_iconst (v := 1) (pc := 352) dX8_digest_352 rfl ?_
    obtain ⟨r22, σ20, hk21, h⟩ := h
    refine s_callV (S := [.long (31 * ((31 * ((31 * ((31 * ((31 * ((31 * ((31 * x1) + (Int32.toInt64 r4))) + (Int32.toInt64 r7))) + (Int32.toInt64 r10))) + r13)) + r16)) + (Int32.toInt64 r19)))]) [.int 7, .int 6, .int 1] (pc := 353) dX8_digest_353 mv_X8_agesOf ml_X8_325 ⟨Nat.le_of_ble_eq_true rfl, Nat.le_of_ble_eq_true rfl⟩ rfl rfl ly53 rfl rfl (Nat.le_of_ble_eq_true rfl) hk21 ?_
    refine s_i2l (pc := 356) dX8_digest_356 ?_
    refine s_ladd (pc := 357) dX8_digest_357 ?_
    exact s_ret (r := some (.long ((31 * ((31 * ((31 * ((31 * ((31 * ((31 * ((31 * x1) + (Int32.toInt64 r4))) + (Int32.toInt64 r7))) + (Int32.toInt64 r10))) + r13)) + r16)) + (Int32.toInt64 r19))) + (Int32.toInt64 r22)))) dX8_digest_358 rfl h
  · replace h := h.2 q1
    refine s_ldc2 (v := 31) (pc := 236) dX8_digest_236 ct_X8_341 ?_
    refine s_lload_n 1 (pc := 239) dX8_digest_239 rfl rfl ?_
    refine s_lmul (pc := 240) dX8_digest_240 ?_
    refine s_aload_n 0 (pc := 241) dX8_digest_241 rfl rfl ?_
    refine s_iload_n 2 (pc := 242) dX8_digest_242 rfl rfl ?_
    obtain ⟨r25, σ23, hk24, h⟩ := h
    refine s_callV (S := [.long (31 * x1)]) [.int x3] (pc := 243) dX8_digest_243 mv_X8_swapOf ml_X8_278 ⟨Nat.le_of_ble_eq_true rfl, Nat.le_of_ble_eq_true rfl⟩ rfl rfl ly53 rfl rfl (Nat.le_of_ble_eq_true rfl) hk24 ?_
    refine s_i2l (pc := 246) dX8_digest_246 ?_
    refine s_ladd (pc := 247) dX8_digest_247 ?_
    refine s_lstore_n (L' := [(1, .long ((31 * x1) + (Int32.toInt64 r25))), (0, .ref 53), (3, .int x3)]) (pc := 248) dX8_digest_248 rfl (Nat.le_of_ble_eq_true rfl) rfl ?_
    refine s_iinc (v := x3 + 1) (L' := [(3, .int (x3 + 1)), (1, .long ((31 * x1) + (Int32.toInt64 r25))), (0, .ref 53)]) 2 (pc := 249) dX8_digest_249 rfl rfl (Nat.le_of_ble_eq_true rfl) rfl ?_
    refine s_goto (pc := 252) (tgt := 231) dX8_digest_252 rfl ?_
    exact s_sub (L' := [(0, .ref 53), (1, .long ((31 * x1) + (Int32.toInt64 r25))), (3, .int (x3 + 1))]) [2, 1, 0] rfl h
