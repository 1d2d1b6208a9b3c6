set_option maxRecDepth 10000 in
set_option maxHeartbeats 4000000 in
theorem tX7_type_0 {E : Ev} {x1 : Int32} {σ : Hp} {Φ : Option Value → Hp → Prop}  (h : ∃ (r3 : Int32) (σ1 : Hp), Call E mX7_isWithin [.int x1, .int 0, .int 255] σ (some (.int r3)) σ1 ∧ ((¬ r3 = 0 → (((σ1 0 1) < 39 → vp_in (σ1 0 1) 39 ∧ ∃ σ7 : Hp, Call E mX7_hear [.ref 0] (up (up σ1 1 ((σ1 0 1).toNatClampNeg) x1) 0 1 ((σ1 0 1) + 1)) none σ7 ∧ Φ (some (.int (σ7 0 1))) σ7) ∧ (¬ (σ1 0 1) < 39 → Φ (some (.int (-4))) σ1))) ∧ (r3 = 0 → Φ (some (.int (-2))) σ1))) : Ru E mX7_type 0 [(0, .ref 0), (1, .int x1)] [] σ Φ := by
  refine s_iload_n 1 (pc := 0) dX7_type_0 rfl rfl ?_
  refine s_iconst (v := 0) (pc := 1) dX7_type_1 rfl ?_
  refine s_sipush (v := 255) (pc := 2) dX7_type_2 rfl ?_
  obtain ⟨r3, σ1, hk2, h⟩ := h
  refine s_callS (S := []) [.int x1, .int 0, .int 255] (pc := 5) dX7_type_5 ms_X7_isWithin ml_X7_72 ⟨Nat.le_of_ble_eq_true rfl, Nat.le_of_ble_eq_true rfl⟩ rfl rfl (Nat.le_of_ble_eq_true rfl) hk2 ?_
  refine s_if_ne (pc := 8) (tgt := 14) dX7_type_8 rfl (fun q4 => ?_) (fun q4 => ?_)
  · replace h := h.1 q4
    refine s_aload_n 0 (pc := 14) dX7_type_14 rfl rfl ?_
    refine s_getI (v := σ1 0 1) (pc := 15) dX7_type_15 fl_X7_76 ly0 rfl rfl ?_
    refine s_bipush (v := 39) (pc := 18) dX7_type_18 rfl ?_
    refine s_icmp_lt (pc := 20) (tgt := 26) dX7_type_20 rfl (fun q5 => ?_) (fun q5 => ?_)
    · replace h := h.1 q5
      refine s_aload_n 0 (pc := 26) dX7_type_26 rfl rfl ?_
      refine s_getR (q := 1) (pc := 27) dX7_type_27 fl_X7_9 ly0 rfl ?_
      refine s_aload_n 0 (pc := 30) dX7_type_30 rfl rfl ?_
      refine s_getI (v := σ1 0 1) (pc := 31) dX7_type_31 fl_X7_76 ly0 rfl rfl ?_
      refine s_iload_n 1 (pc := 34) dX7_type_34 rfl rfl ?_
      have hv6 := h.1
      replace h := h.2
      refine s_iast (pc := 35) dX7_type_35 ly1 hv6 ?_
      refine s_aload_n 0 (pc := 36) dX7_type_36 rfl rfl ?_
      refine s_dup (pc := 37) dX7_type_37 rfl ?_
      refine s_getI (v := σ1 0 1) (pc := 38) dX7_type_38 fl_X7_76 ly0 rfl (by simp [up]) ?_
      refine s_iconst (v := 1) (pc := 41) dX7_type_41 rfl ?_
      refine s_iadd (pc := 42) dX7_type_42 ?_
      refine s_put (ty := .int) (pc := 43) dX7_type_43 fp_X7_76 ly0 rfl rfl rfl ?_
      refine s_aload_n 0 (pc := 46) dX7_type_46 rfl rfl ?_
      obtain ⟨σ7, hk8, h⟩ := h
      refine s_callV (S := []) [] (pc := 47) dX7_type_47 mv_X7_hear ml_X7_79 ⟨Nat.le_of_ble_eq_true rfl, Nat.le_of_ble_eq_true rfl⟩ rfl rfl ly0 rfl rfl (Nat.le_of_ble_eq_true rfl) hk8 ?_
      refine s_aload_n 0 (pc := 50) dX7_type_50 rfl rfl ?_
      refine s_getI (v := σ7 0 1) (pc := 51) dX7_type_51 fl_X7_76 ly0 rfl rfl ?_
      exact s_ret (r := some (.int (σ7 0 1))) ⟨dX7_type_54, fun ty e => by cases e; rfl⟩ rfl h
    · replace h := h.2 q5
      refine s_bipush (v := (-4)) (pc := 23) dX7_type_23 rfl ?_
      exact s_ret (r := some (.int (-4))) ⟨dX7_type_25, fun ty e => by cases e; rfl⟩ rfl h
  · replace h := h.2 q4
    refine s_bipush (v := (-2)) (pc := 11) dX7_type_11 rfl ?_
    exact s_ret (r := some (.int (-2))) ⟨dX7_type_13, fun ty e => by cases e; rfl⟩ rfl h
set_option maxRecDepth 10000 in
set_option maxHeartbeats 4000000 in
theorem tX7_wipe_0 {E : Ev}  {σ : Hp} {Φ : Option Value → Hp → Prop}  (h : ∃ σ1 : Hp, Call E mX7_hear [.ref 0] (up σ 0 1 0) none σ1 ∧ Φ (some (.int (σ 0 1))) σ1) : Ru E mX7_wipe 0 [(0, .ref 0)] [] σ Φ := by
  refine s_aload_n 0 (pc := 0) dX7_wipe_0 rfl rfl ?_
  refine s_getI (v := σ 0 1) (pc := 1) dX7_wipe_1 fl_X7_76 ly0 rfl rfl ?_
  refine s_istore_n (L' := [(1, .int (σ 0 1)), (0, .ref 0)]) (pc := 4) dX7_wipe_4 rfl (Nat.le_of_ble_eq_true rfl) rfl ?_
  refine s_aload_n 1 (pc := 5) dX7_wipe_5 rfl rfl ?_
  refine s_iconst (v := 0) (pc := 6) dX7_wipe_6 rfl ?_
  refine s_put (ty := .int) (pc := 7) dX7_wipe_7 fp_X7_76 ly0 rfl rfl rfl ?_
  refine s_aload_n 1 (pc := 10) dX7_wipe_10 rfl rfl ?_
  obtain ⟨σ1, hk2, h⟩ := h
  refine s_callV (S := []) [] (pc := 11) dX7_wipe_11 mv_X7_hear ml_X7_79 ⟨Nat.le_of_ble_eq_true rfl, Nat.le_of_ble_eq_true rfl⟩ rfl rfl ly0 rfl rfl (Nat.le_of_ble_eq_true rfl) hk2 ?_
  refine s_iload_n 0 (pc := 14) dX7_wipe_14 rfl rfl ?_
  exact s_ret (r := some (.int (σ 0 1))) ⟨dX7_wipe_15, fun ty e => by cases e; rfl⟩ rfl h
set_option maxRecDepth 10000 in
set_option maxHeartbeats 4000000 in
theorem tX7_undo_0 {E : Ev}  {σ : Hp} {Φ : Option Value → Hp → Prop}  (h : ((¬ (σ 0 1) = 0 → ∃ σ2 : Hp, Call E mX7_hear [.ref 0] (up σ 0 1 ((σ 0 1) - 1)) none σ2 ∧ Φ (some (.int (σ2 0 1))) σ2) ∧ ((σ 0 1) = 0 → Φ (some (.int (-3))) σ))) : Ru E mX7_undo 0 [(0, .ref 0)] [] σ Φ := by
  refine s_aload_n 0 (pc := 0) dX7_undo_0 rfl rfl ?_
  refine s_getI (v := σ 0 1) (pc := 1) dX7_undo_1 fl_X7_76 ly0 rfl rfl ?_
  refine s_if_ne (pc := 4) (tgt := 10) dX7_undo_4 rfl (fun q1 => ?_) (fun q1 => ?_)
  · replace h := h.1 q1
    refine s_aload_n 0 (pc := 10) dX7_undo_10 rfl rfl ?_
    refine s_dup (pc := 11) dX7_undo_11 rfl ?_
    refine s_getI (v := σ 0 1) (pc := 12) dX7_undo_12 fl_X7_76 ly0 rfl rfl ?_
    refine s_iconst (v := 1) (pc := 15) dX7_undo_15 rfl ?_
    refine s_isub (pc := 16) dX7_undo_16 ?_
    refine s_put (ty := .int) (pc := 17) dX7_undo_17 fp_X7_76 ly0 rfl rfl rfl ?_
    refine s_aload_n 0 (pc := 20) dX7_undo_20 rfl rfl ?_
    obtain ⟨σ2, hk3, h⟩ := h
    refine s_callV (S := []) [] (pc := 21) dX7_undo_21 mv_X7_hear ml_X7_79 ⟨Nat.le_of_ble_eq_true rfl, Nat.le_of_ble_eq_true rfl⟩ rfl rfl ly0 rfl rfl (Nat.le_of_ble_eq_true rfl) hk3 ?_
    refine s_aload_n 0 (pc := 24) dX7_undo_24 rfl rfl ?_
    refine s_getI (v := σ2 0 1) (pc := 25) dX7_undo_25 fl_X7_76 ly0 rfl rfl ?_
    exact s_ret (r := some (.int (σ2 0 1))) ⟨dX7_undo_28, fun ty e => by cases e; rfl⟩ rfl h
  · replace h := h.2 q1
    refine s_bipush (v := (-3)) (pc := 7) dX7_undo_7 rfl ?_
    exact s_ret (r := some (.int (-3))) ⟨dX7_undo_9, fun ty e => by cases e; rfl⟩ rfl h
set_option maxRecDepth 10000 in
set_option maxHeartbeats 4000000 in
theorem tX7_fault_0 {E : Ev}  {σ : Hp} {Φ : Option Value → Hp → Prop}  (h : Φ (some (.int (σ 0 2))) σ) : Ru E mX7_fault 0 [(0, .ref 0)] [] σ Φ := by
  refine s_aload_n 0 (pc := 0) dX7_fault_0 rfl rfl ?_
  refine s_getI (v := σ 0 2) (pc := 1) dX7_fault_1 fl_X7_13 ly0 rfl rfl ?_
  exact s_ret (r := some (.int (σ 0 2))) ⟨dX7_fault_4, fun ty e => by cases e; rfl⟩ rfl h
set_option maxRecDepth 10000 in
set_option maxHeartbeats 4000000 in
theorem tX7_couple_0 {E : Ev} {x1 : Int32} {x2 : Int32} {σ : Hp} {Φ : Option Value → Hp → Prop}  (h : ∃ (r3 : Int32) (σ1 : Hp), Call E mX0_has [.ref 2, .int x1] σ (some (.int r3)) σ1 ∧ ((¬ r3 = 0 → ((x2 = (0 : Int32) → vp_in x1 8 ∧ Φ (some (.int (σ1 3 ((x1).toNatClampNeg)))) σ1) ∧ (x2 = (1 : Int32) → vp_in x1 8 ∧ Φ (some (.int (σ1 4 ((x1).toNatClampNeg)))) σ1) ∧ (x2 = (2 : Int32) → vp_in x1 8 ∧ Φ (some (.int (σ1 5 ((x1).toNatClampNeg)))) σ1) ∧ (x2 = (3 : Int32) → vp_in x1 8 ∧ Φ (some (.int (σ1 6 ((x1).toNatClampNeg)))) σ1) ∧ (¬ x2 = (0 : Int32) ∧ ¬ x2 = (1 : Int32) ∧ ¬ x2 = (2 : Int32) ∧ ¬ x2 = (3 : Int32) → Φ (some (.int (-2))) σ1))) ∧ (r3 = 0 → Φ (some (.int (-2))) σ1))) : Ru E mX7_couple 0 [(0, .ref 0), (1, .int x1), (2, .int x2)] [] σ Φ := by
  refine s_aload_n 0 (pc := 0) dX7_couple_0 rfl rfl ?_
  refine s_getR (q := 2) (pc := 1) dX7_couple_1 fl_X7_20 ly0 rfl ?_
  refine s_iload_n 1 (pc := 4) dX7_couple_4 rfl rfl ?_
  obtain ⟨r3, σ1, hk2, h⟩ := h
  refine s_callV (S := []) [.int x1] (pc := 5) dX7_couple_5 mv_X0_has ml_X7_82 ⟨Nat.le_of_ble_eq_true rfl, Nat.le_of_ble_eq_true rfl⟩ rfl rfl ly2 rfl rfl (Nat.le_of_ble_eq_true rfl) hk2 ?_
  refine s_if_ne (pc := 8) (tgt := 14) dX7_couple_8 rfl (fun q4 => ?_) (fun q4 => ?_)
  · replace h := h.1 q4
    refine s_iload_n 2 (pc := 14) dX7_couple_14 rfl rfl ?_
    by_cases q5 : x2 = (0 : Int32)
    · replace h := h.1 q5
      refine s_tin (pc := 15) (tgt := 44) 0 dX7_couple_15 (by rw [q5]; rfl) (by decide) (by decide) rfl rfl ?_
      refine s_aload_n 0 (pc := 44) dX7_couple_44 rfl rfl ?_
      refine s_getR (q := 2) (pc := 45) dX7_couple_45 fl_X7_20 ly0 rfl ?_
      refine s_getR (q := 3) (pc := 48) dX7_couple_48 fl_X7_86 ly2 rfl ?_
      refine s_iload_n 1 (pc := 51) dX7_couple_51 rfl rfl ?_
      have hv6 := h.1
      replace h := h.2
      refine s_iald (pc := 52) dX7_couple_52 ly3 hv6 ?_
      exact s_ret (r := some (.int (σ1 3 ((x1).toNatClampNeg)))) ⟨dX7_couple_53, fun ty e => by cases e; rfl⟩ rfl h
    replace h := h.2
    by_cases q7 : x2 = (1 : Int32)
    · replace h := h.1 q7
      refine s_tin (pc := 15) (tgt := 54) 1 dX7_couple_15 (by rw [q7]; rfl) (by decide) (by decide) rfl rfl ?_
      refine s_aload_n 0 (pc := 54) dX7_couple_54 rfl rfl ?_
      refine s_getR (q := 2) (pc := 55) dX7_couple_55 fl_X7_20 ly0 rfl ?_
      refine s_getR (q := 4) (pc := 58) dX7_couple_58 fl_X7_89 ly2 rfl ?_
      refine s_iload_n 1 (pc := 61) dX7_couple_61 rfl rfl ?_
      have hv8 := h.1
      replace h := h.2
      refine s_iald (pc := 62) dX7_couple_62 ly4 hv8 ?_
      exact s_ret (r := some (.int (σ1 4 ((x1).toNatClampNeg)))) ⟨dX7_couple_63, fun ty e => by cases e; rfl⟩ rfl h
    replace h := h.2
    by_cases q9 : x2 = (2 : Int32)
    · replace h := h.1 q9
      refine s_tin (pc := 15) (tgt := 64) 2 dX7_couple_15 (by rw [q9]; rfl) (by decide) (by decide) rfl rfl ?_
      refine s_aload_n 0 (pc := 64) dX7_couple_64 rfl rfl ?_
      refine s_getR (q := 2) (pc := 65) dX7_couple_65 fl_X7_20 ly0 rfl ?_
      refine s_getR (q := 5) (pc := 68) dX7_couple_68 fl_X7_92 ly2 rfl ?_
      refine s_iload_n 1 (pc := 71) dX7_couple_71 rfl rfl ?_
      have hv10 := h.1
      replace h := h.2
      refine s_iald (pc := 72) dX7_couple_72 ly5 hv10 ?_
      exact s_ret (r := some (.int (σ1 5 ((x1).toNatClampNeg)))) ⟨dX7_couple_73, fun ty e => by cases e; rfl⟩ rfl h
    replace h := h.2
    by_cases q11 : x2 = (3 : Int32)
    · replace h := h.1 q11
      refine s_tin (pc := 15) (tgt := 74) 3 dX7_couple_15 (by rw [q11]; rfl) (by decide) (by decide) rfl rfl ?_
      refine s_aload_n 0 (pc := 74) dX7_couple_74 rfl rfl ?_
      refine s_getR (q := 2) (pc := 75) dX7_couple_75 fl_X7_20 ly0 rfl ?_
      refine s_getR (q := 6) (pc := 78) dX7_couple_78 fl_X7_95 ly2 rfl ?_
      refine s_iload_n 1 (pc := 81) dX7_couple_81 rfl rfl ?_
      have hv12 := h.1
      replace h := h.2
      refine s_iald (pc := 82) dX7_couple_82 ly6 hv12 ?_
      exact s_ret (r := some (.int (σ1 6 ((x1).toNatClampNeg)))) ⟨dX7_couple_83, fun ty e => by cases e; rfl⟩ rfl h
    replace h := h.2
    replace h := h ⟨q5, q7, q9, q11⟩
    refine s_tout (pc := 15) (tgt := 84) dX7_couple_15 (tsw_out 4 x2 (lt_s (lt_s (lt_s (lt_s lt_0 q5) q7) q9) q11)) rfl ?_
    refine s_bipush (v := (-2)) (pc := 84) dX7_couple_84 rfl ?_
    exact s_ret (r := some (.int (-2))) ⟨dX7_couple_86, fun ty e => by cases e; rfl⟩ rfl h
  · replace h := h.2 q4
    refine s_bipush (v := (-2)) (pc := 11) dX7_couple_11 rfl ?_
    exact s_ret (r := some (.int (-2))) ⟨dX7_couple_13, fun ty e => by cases e; rfl⟩ rfl h
set_option maxRecDepth 10000 in
set_option maxHeartbeats 4000000 in
theorem tX7_event_0 {E : Ev} {x1 : Int32} {x2 : Int32} {x3 : Int32} {x4 : Int32} {σ : Hp} {Φ : Option Value → Hp → Prop}  (h : ∃ (r3 : Int32) (σ1 : Hp), Call E mX1_mayBe [.int x1, .int x2, .int x3, .int x4] σ (some (.int r3)) σ1 ∧ ((¬ r3 = 0 → ∃ (r7 : Int32) (σ5 : Hp), Call E mX1_isFull [.ref 12] σ1 (some (.int r7)) σ5 ∧ ((r7 = 0 → ∃ σ9 : Hp, Call E mX1_tell [.ref 12, .int x1, .int x2, .int x3, .int x4] σ5 none σ9 ∧ Φ (some (.int (σ9 12 5))) σ9) ∧ (¬ r7 = 0 → Φ (some (.int (-4))) σ5))) ∧ (r3 = 0 → Φ (some (.int (-2))) σ1))) : Ru E mX7_event 0 [(0, .ref 0), (1, .int x1), (2, .int x2), (3, .int x3), (4, .int x4)] [] σ Φ := by
  refine s_iload_n 1 (pc := 0) dX7_event_0 rfl rfl ?_
  refine s_iload_n 2 (pc := 1) dX7_event_1 rfl rfl ?_
  refine s_iload_n 3 (pc := 2) dX7_event_2 rfl rfl ?_
  refine s_iload 4 (pc := 3) dX7_event_3 rfl ?_
  obtain ⟨r3, σ1, hk2, h⟩ := h
  refine s_callS (S := []) [.int x1, .int x2, .int x3, .int x4] (pc := 5) dX7_event_5 ms_X1_mayBe ml_X7_98 ⟨Nat.le_of_ble_eq_true rfl, Nat.le_of_ble_eq_true rfl⟩ rfl rfl (Nat.le_of_ble_eq_true rfl) hk2 ?_
  refine s_if_ne (pc := 8) (tgt := 14) dX7_event_8 rfl (fun q4 => ?_) (fun q4 => ?_)
  · replace h := h.1 q4
    refine s_aload_n 0 (pc := 14) dX7_event_14 rfl rfl ?_
    refine s_getR (q := 12) (pc := 15) dX7_event_15 fl_X7_30 ly0 rfl ?_
    obtain ⟨r7, σ5, hk6, h⟩ := h
    refine s_callV (S := []) [] (pc := 18) dX7_event_18 mv_X1_isFull ml_X7_102 ⟨Nat.le_of_ble_eq_true rfl, Nat.le_of_ble_eq_true rfl⟩ rfl rfl ly12 rfl rfl (Nat.le_of_ble_eq_true rfl) hk6 ?_
    refine s_if_eq (pc := 21) (tgt := 27) dX7_event_21 rfl (fun q8 => ?_) (fun q8 => ?_)
    · replace h := h.1 q8
      refine s_aload_n 0 (pc := 27) dX7_event_27 rfl rfl ?_
      refine s_getR (q := 12) (pc := 28) dX7_event_28 fl_X7_30 ly0 rfl ?_
      refine s_iload_n 1 (pc := 31) dX7_event_31 rfl rfl ?_
      refine s_iload_n 2 (pc := 32) dX7_event_32 rfl rfl ?_
      refine s_iload_n 3 (pc := 33) dX7_event_33 rfl rfl ?_
      refine s_iload 4 (pc := 34) dX7_event_34 rfl ?_
      obtain ⟨σ9, hk10, h⟩ := h
      refine s_callV (S := []) [.int x1, .int x2, .int x3, .int x4] (pc := 36) dX7_event_36 mv_X1_tell ml_X7_106 ⟨Nat.le_of_ble_eq_true rfl, Nat.le_of_ble_eq_true rfl⟩ rfl rfl ly12 rfl rfl (Nat.le_of_ble_eq_true rfl) hk10 ?_
      refine s_aload_n 0 (pc := 39) dX7_event_39 rfl rfl ?_
      refine s_getR (q := 12) (pc := 40) dX7_event_40 fl_X7_30 ly0 rfl ?_
      refine s_getI (v := σ9 12 5) (pc := 43) dX7_event_43 fl_X7_110 ly12 rfl rfl ?_
      exact s_ret (r := some (.int (σ9 12 5))) ⟨dX7_event_46, fun ty e => by cases e; rfl⟩ rfl h
    · replace h := h.2 q8
      refine s_bipush (v := (-4)) (pc := 24) dX7_event_24 rfl ?_
      exact s_ret (r := some (.int (-4))) ⟨dX7_event_26, fun ty e => by cases e; rfl⟩ rfl h
  · replace h := h.2 q4
    refine s_bipush (v := (-2)) (pc := 11) dX7_event_11 rfl ?_
    exact s_ret (r := some (.int (-2))) ⟨dX7_event_13, fun ty e => by cases e; rfl⟩ rfl h
set_option maxRecDepth 10000 in
set_option maxHeartbeats 4000000 in
theorem tX7_back_0 {E : Ev}  {σ : Hp} {Φ : Option Value → Hp → Prop}  (h : ((¬ (σ 12 5) = 0 → ∃ σ2 : Hp, Call E mX1_untell [.ref 12] σ none σ2 ∧ Φ (some (.int (σ2 12 5))) σ2) ∧ ((σ 12 5) = 0 → Φ (some (.int (-3))) σ))) : Ru E mX7_back 0 [(0, .ref 0)] [] σ Φ := by
  refine s_aload_n 0 (pc := 0) dX7_back_0 rfl rfl ?_
  refine s_getR (q := 12) (pc := 1) dX7_back_1 fl_X7_30 ly0 rfl ?_
  refine s_getI (v := σ 12 5) (pc := 4) dX7_back_4 fl_X7_110 ly12 rfl rfl ?_
  refine s_if_ne (pc := 7) (tgt := 13) dX7_back_7 rfl (fun q1 => ?_) (fun q1 => ?_)
  · replace h := h.1 q1
    refine s_aload_n 0 (pc := 13) dX7_back_13 rfl rfl ?_
    refine s_getR (q := 12) (pc := 14) dX7_back_14 fl_X7_30 ly0 rfl ?_
    obtain ⟨σ2, hk3, h⟩ := h
    refine s_callV (S := []) [] (pc := 17) dX7_back_17 mv_X1_untell ml_X7_113 ⟨Nat.le_of_ble_eq_true rfl, Nat.le_of_ble_eq_true rfl⟩ rfl rfl ly12 rfl rfl (Nat.le_of_ble_eq_true rfl) hk3 ?_
    refine s_aload_n 0 (pc := 20) dX7_back_20 rfl rfl ?_
    refine s_getR (q := 12) (pc := 21) dX7_back_21 fl_X7_30 ly0 rfl ?_
    refine s_getI (v := σ2 12 5) (pc := 24) dX7_back_24 fl_X7_110 ly12 rfl rfl ?_
    exact s_ret (r := some (.int (σ2 12 5))) ⟨dX7_back_27, fun ty e => by cases e; rfl⟩ rfl h
  · replace h := h.2 q1
    refine s_bipush (v := (-3)) (pc := 10) dX7_back_10 rfl ?_
    exact s_ret (r := some (.int (-3))) ⟨dX7_back_12, fun ty e => by cases e; rfl⟩ rfl h
set_option maxRecDepth 10000 in
set_option maxHeartbeats 4000000 in
theorem tX7_read_0 {E : Ev} {x1 : Int32} {σ : Hp} {Φ : Option Value → Hp → Prop}  (h : ∃ (r3 : Int32) (σ1 : Hp), Call E mX7_isSheet [.int x1] σ (some (.int r3)) σ1 ∧ ((¬ r3 = 0 → vp_in x1 4 ∧ (((σ1 (45 + 2 * (x1).toNatClampNeg) 1) = 0 → Ru E mX7_read 35 [(0, .ref 0), (1, .int x1), (2, .ref (45 + 2 * (x1).toNatClampNeg)), (3, .int 0), (4, .int 0)] [] σ1 Φ) ∧ (¬ (σ1 (45 + 2 * (x1).toNatClampNeg) 1) = 0 → ∃ (r9 : Int32) (σ7 : Hp), Call E mX7_find [.ref 0, .int 1] σ1 (some (.int r9)) σ7 ∧ Φ (some (.int r9)) σ7))) ∧ (r3 = 0 → Φ (some (.int (-2))) σ1))) : Ru E mX7_read 0 [(0, .ref 0), (1, .int x1)] [] σ Φ := by
  refine s_iload_n 1 (pc := 0) dX7_read_0 rfl rfl ?_
  obtain ⟨r3, σ1, hk2, h⟩ := h
  refine s_callS (S := []) [.int x1] (pc := 1) dX7_read_1 ms_X7_isSheet ml_X7_116 ⟨Nat.le_of_ble_eq_true rfl, Nat.le_of_ble_eq_true rfl⟩ rfl rfl (Nat.le_of_ble_eq_true rfl) hk2 ?_
  refine s_if_ne (pc := 4) (tgt := 10) dX7_read_4 rfl (fun q4 => ?_) (fun q4 => ?_)
  · replace h := h.1 q4
    refine s_aload_n 0 (pc := 10) dX7_read_10 rfl rfl ?_
    refine s_getR (q := 44) (pc := 11) dX7_read_11 fl_X7_67 ly0 rfl ?_
    refine s_iload_n 1 (pc := 14) dX7_read_14 rfl rfl ?_
    have hv5 := h.1
    replace h := h.2
    refine s_aaldS (pc := 15) dX7_read_15 ly44 hv5 ?_
    refine s_astore_n (L' := [(2, .ref (45 + 2 * (x1).toNatClampNeg)), (0, .ref 0), (1, .int x1)]) (pc := 16) dX7_read_16 rfl (Nat.le_of_ble_eq_true rfl) rfl ?_
    refine s_aload_n 0 (pc := 17) dX7_read_17 rfl rfl ?_
    refine s_getI (v := σ1 (45 + 2 * (x1).toNatClampNeg) 1) (pc := 18) dX7_read_18 fl_X7_119 (shC hv5).1 rfl rfl ?_
    refine s_if_eq (pc := 21) (tgt := 30) dX7_read_21 rfl (fun q6 => ?_) (fun q6 => ?_)
    · replace h := h.1 q6
      refine s_iconst (v := 0) (pc := 30) dX7_read_30 rfl ?_
      refine s_istore_n (L' := [(3, .int 0), (2, .ref (45 + 2 * (x1).toNatClampNeg)), (0, .ref 0), (1, .int x1)]) (pc := 31) dX7_read_31 rfl (Nat.le_of_ble_eq_true rfl) rfl ?_
      refine s_iconst (v := 0) (pc := 32) dX7_read_32 rfl ?_
      refine s_istore (L' := [(4, .int 0), (3, .int 0), (2, .ref (45 + 2 * (x1).toNatClampNeg)), (0, .ref 0), (1, .int x1)]) (pc := 33) dX7_read_33 (Nat.le_of_ble_eq_true rfl) rfl ?_
      exact s_sub (L' := [(0, .ref 0), (1, .int x1), (2, .ref (45 + 2 * (x1).toNatClampNeg)), (3, .int 0), (4, .int 0)]) [3, 4, 2, 1, 0] rfl h
    · replace h := h.2 q6
      refine s_aload_n 1 (pc := 24) dX7_read_24 rfl rfl ?_
      refine s_iconst (v := 1) (pc := 25) dX7_read_25 rfl ?_
      obtain ⟨r9, σ7, hk8, h⟩ := h
      refine s_callV (S := []) [.int 1] (pc := 26) dX7_read_26 mv_X7_find ml_X7_123 ⟨Nat.le_of_ble_eq_true rfl, Nat.le_of_ble_eq_true rfl⟩ rfl rfl ly0 rfl rfl (Nat.le_of_ble_eq_true rfl) hk8 ?_
      exact s_ret (r := some (.int r9)) ⟨dX7_read_29, fun ty e => by cases e; rfl⟩ rfl h
  · replace h := h.2 q4
    refine s_bipush (v := (-2)) (pc := 7) dX7_read_7 rfl ?_
    exact s_ret (r := some (.int (-2))) ⟨dX7_read_9, fun ty e => by cases e; rfl⟩ rfl h
set_option maxRecDepth 10000 in
set_option maxHeartbeats 4000000 in
theorem tX7_read_35 {E : Ev} {x1 : Int32} {c2 : Nat} {x3 : Int32} {x4 : Int32} {σ : Hp} {Φ : Option Value → Hp → Prop} (hc2 : IsSheet c2) (h : (((σ c2 3) < (x4 + 4) → Φ (some (.int x3)) σ) ∧ (¬ (σ c2 3) < (x4 + 4) → ∃ (r4 : Int32) (σ2 : Hp), Call E mX1_isFull [.ref 12] σ (some (.int r4)) σ2 ∧ ((¬ r4 = 0 → Φ (some (.int x3)) σ2) ∧ (r4 = 0 → vp_in x4 60 ∧ vp_in (x4 + 1) 60 ∧ vp_in (x4 + 2) 60 ∧ vp_in (x4 + 3) 60 ∧ ∃ (r12 : Int32) (σ10 : Hp), Call E mX1_mayBe [.int (σ2 (c2 + 1) ((x4).toNatClampNeg)), .int (σ2 (c2 + 1) ((x4 + 1).toNatClampNeg)), .int (σ2 (c2 + 1) ((x4 + 2).toNatClampNeg)), .int (σ2 (c2 + 1) ((x4 + 3).toNatClampNeg))] σ2 (some (.int r12)) σ10 ∧ ((¬ r12 = 0 → ∃ σ18 : Hp, Call E mX1_tell [.ref 12, .int (σ10 (c2 + 1) ((x4).toNatClampNeg)), .int (σ10 (c2 + 1) ((x4 + 1).toNatClampNeg)), .int (σ10 (c2 + 1) ((x4 + 2).toNatClampNeg)), .int (σ10 (c2 + 1) ((x4 + 3).toNatClampNeg))] σ10 none σ18 ∧ Ru E mX7_read 35 [(0, .ref 0), (1, .int x1), (2, .ref c2), (3, .int (x3 + 1)), (4, .int (x4 + 4))] [] σ18 Φ) ∧ (r12 = 0 → Φ (some (.int x3)) σ10))))))) : Ru E mX7_read 35 [(0, .ref 0), (1, .int x1), (2, .ref c2), (3, .int x3), (4, .int x4)] [] σ Φ := by
  refine s_iload 4 (pc := 35) dX7_read_35 rfl ?_
  refine s_iconst (v := 4) (pc := 37) dX7_read_37 rfl ?_
  refine s_iadd (pc := 38) dX7_read_38 ?_
  refine s_aload_n 2 (pc := 39) dX7_read_39 rfl rfl ?_
  refine s_getI (v := σ c2 3) (pc := 40) dX7_read_40 fl_X7_127 hc2.1 rfl rfl ?_
  refine s_icmp_gt (pc := 43) (tgt := 139) dX7_read_43 rfl (fun q1 => ?_) (fun q1 => ?_)
  · replace h := h.1 q1
    refine s_iload_n 3 (pc := 139) dX7_read_139 rfl rfl ?_
    exact s_ret (r := some (.int x3)) ⟨dX7_read_140, fun ty e => by cases e; rfl⟩ rfl h
  · replace h := h.2 q1
    refine s_aload_n 0 (pc := 46) dX7_read_46 rfl rfl ?_
    refine s_getR (q := 12) (pc := 47) dX7_read_47 fl_X7_30 ly0 rfl ?_
    obtain ⟨r4, σ2, hk3, h⟩ := h
    refine s_callV (S := []) [] (pc := 50) dX7_read_50 mv_X1_isFull ml_X7_102 ⟨Nat.le_of_ble_eq_true rfl, Nat.le_of_ble_eq_true rfl⟩ rfl rfl ly12 rfl rfl (Nat.le_of_ble_eq_true rfl) hk3 ?_
    refine s_if_ne (pc := 53) (tgt := 139) dX7_read_53 rfl (fun q5 => ?_) (fun q5 => ?_)
    · replace h := h.1 q5
      refine s_iload_n 3 (pc := 139) dX7_read_139 rfl rfl ?_
      exact s_ret (r := some (.int x3)) ⟨dX7_read_140, fun ty e => by cases e; rfl⟩ rfl h
    · replace h := h.2 q5
      refine s_aload_n 2 (pc := 56) dX7_read_56 rfl rfl ?_
      refine s_getR (q := c2 + 1) (pc := 57) dX7_read_57 fl_X7_128 hc2.1 rfl ?_
      refine s_astore (L' := [(5, .ref (c2 + 1)), (0, .ref 0), (1, .int x1), (2, .ref c2), (3, .int x3), (4, .int x4)]) (pc := 60) dX7_read_60 (Nat.le_of_ble_eq_true rfl) rfl ?_
      refine s_aload 0 (pc := 62) dX7_read_62 rfl ?_
      refine s_iload 5 (pc := 64) dX7_read_64 rfl ?_
      have hv6 := h.1
      replace h := h.2
      refine s_iald (pc := 66) dX7_read_66 hc2.2 hv6 ?_
      refine s_aload 0 (pc := 67) dX7_read_67 rfl ?_
      refine s_iload 5 (pc := 69) dX7_read_69 rfl ?_
      refine s_iconst (v := 1) (pc := 71) dX7_read_71 rfl ?_
      refine s_iadd (pc := 72) dX7_read_72 ?_
      have hv7 := h.1
      replace h := h.2
      refine s_iald (pc := 73) dX7_read_73 hc2.2 hv7 ?_
      refine s_aload 0 (pc := 74) dX7_read_74 rfl ?_
      refine s_iload 5 (pc := 76) dX7_read_76 rfl ?_
      refine s_iconst (v := 2) (pc := 78) dX7_read_78 rfl ?_
      refine s_iadd (pc := 79) dX7_read_79 ?_
      have hv8 := h.1
      replace h := h.2
      refine s_iald (pc := 80) dX7_read_80 hc2.2 hv8 ?_
      refine s_aload 0 (pc := 81) dX7_read_81 rfl ?_
      refine s_iload 5 (pc := 83) dX7_read_83 rfl ?_
      refine s_iconst (v := 3) (pc := 85) dX7_read_85 rfl ?_
      refine s_iadd (pc := 86) dX7_read_86 ?_
      have hv9 := h.1
      replace h := h.2
      refine s_iald (pc := 87) dX7_read_87 hc2.2 hv9 ?_
      obtain ⟨r12, σ10, hk11, h⟩ := h
      refine s_callS (S := []) [.int (σ2 (c2 + 1) ((x4).toNatClampNeg)), .int (σ2 (c2 + 1) ((x4 + 1).toNatClampNeg)), .int (σ2 (c2 + 1) ((x4 + 2).toNatClampNeg)), .int (σ2 (c2 + 1) ((x4 + 3).toNatClampNeg))] (pc := 88) dX7_read_88 ms_X1_mayBe ml_X7_98 ⟨Nat.le_of_ble_eq_true rfl, Nat.le_of_ble_eq_true rfl⟩ rfl rfl (Nat.le_of_ble_eq_true rfl) hk11 ?_
      refine s_if_ne (pc := 91) (tgt := 97) dX7_read_91 rfl (fun q13 => ?_) (fun q13 => ?_)
      · replace h := h.1 q13
        refine s_aload_n 1 (pc := 97) dX7_read_97 rfl rfl ?_
        refine s_getR (q := 12) (pc := 98) dX7_read_98 fl_X7_30 ly0 rfl ?_
        refine s_aload 0 (pc := 101) dX7_read_101 rfl ?_
        refine s_iload 5 (pc := 103) dX7_read_103 rfl ?_
        refine s_iald (pc := 105) dX7_read_105 hc2.2 hv6 ?_
        refine s_aload 0 (pc := 106) dX7_read_106 rfl ?_
        refine s_iload 5 (pc := 108) dX7_read_108 rfl ?_
        refine s_iconst (v := 1) (pc := 110) dX7_read_110 rfl ?_
        refine s_iadd (pc := 111) dX7_read_111 ?_
        refine s_iald (pc := 112) dX7_read_112 hc2.2 hv7 ?_
        refine s_aload 0 (pc := 113) dX7_read_113 rfl ?_
        refine s_iload 5 (pc := 115) dX7_read_115 rfl ?_
        refine s_iconst (v := 2) (pc := 117) dX7_read_117 rfl ?_
        refine s_iadd (pc := 118) dX7_read_118 ?_
        refine s_iald (pc := 119) dX7_read_119 hc2.2 hv8 ?_
        refine s_aload 0 (pc := 120) dX7_read_120 rfl ?_
        refine s_iload 5 (pc := 122) dX7_read_122 rfl ?_
        refine s_iconst (v := 3) (pc := 124) dX7_read_124 rfl ?_
        refine s_iadd (pc := 125) dX7_read_125 ?_
        refine s_iald (pc := 126) dX7_read_126 hc2.2 hv9 ?_
        obtain ⟨σ18, hk19, h⟩ := h
        refine s_callV (S := []) [.int (σ10 (c2 + 1) ((x4).toNatClampNeg)), .int (σ10 (c2 + 1) ((x4 + 1).toNatClampNeg)), .int (σ10 (c2 + 1) ((x4 + 2).toNatClampNeg)), .int (σ10 (c2 + 1) ((x4 + 3).toNatClampNeg))] (pc := 127) dX7_read_127 mv_X1_tell ml_X7_106 ⟨Nat.le_of_ble_eq_true rfl, Nat.le_of_ble_eq_true rfl⟩ rfl rfl ly12 rfl rfl (Nat.le_of_ble_eq_true rfl) hk19 ?_
        refine s_iinc (v := x3 + 1) (L' := [(3, .int (x3 + 1)), (5, .ref (c2 + 1)), (0, .ref 0), (1, .int x1), (2, .ref c2), (4, .int x4)]) 4 (pc := 130) dX7_read_130 rfl rfl (Nat.le_of_ble_eq_true rfl) rfl ?_
        refine s_iinc (v := x4 + 4) (L' := [(4, .int (x4 + 4)), (3, .int (x3 + 1)), (5, .ref (c2 + 1)), (0, .ref 0), (1, .int x1), (2, .ref c2)]) 5 (pc := 133) dX7_read_133 rfl rfl (Nat.le_of_ble_eq_true rfl) rfl ?_
        refine s_goto (pc := 136) (tgt := 35) dX7_read_136 rfl ?_
        exact s_sub (L' := [(0, .ref 0), (1, .int x1), (2, .ref c2), (3, .int (x3 + 1)), (4, .int (x4 + 4))]) [3, 4, 5, 1, 0] rfl h
      · replace h := h.2 q13
        refine s_goto (pc := 94) (tgt := 139) dX7_read_94 rfl ?_
        refine s_iload_n 4 (pc := 139) dX7_read_139 rfl rfl ?_
        exact s_ret (r := some (.int x3)) ⟨dX7_read_140, fun ty e => by cases e; rfl⟩ rfl h
set_option maxRecDepth 10000 in
set_option maxHeartbeats 4000000 in
theorem tX7_at_0 {E : Ev} {x1 : Int32} {x2 : Int32} {x3 : Int32} {σ : Hp} {Φ : Option Value → Hp → Prop}  (h : ∃ (r3 : Int32) (σ1 : Hp), Call E mX7_isDay [.int x1] σ (some (.int r3)) σ1 ∧ ((r3 = 0 → Φ (some (.int (-2))) σ1) ∧ (¬ r3 = 0 → ∃ (r7 : Int32) (σ5 : Hp), Call E mX0_has [.ref 2, .int x2] σ1 (some (.int r7)) σ5 ∧ ((¬ r7 = 0 → ∃ (r11 : Int32) (σ9 : Hp), Call E mX1_all [.ref 12] σ5 (some (.int r11)) σ9 ∧ ∃ σ12 : Hp, Call E mX3_live [.ref 39, .ref 2, .ref 12, .int r11, .int x2, .int x1] σ9 none σ12 ∧ ((x3 = (0 : Int32) → Φ (some (.int (σ12 39 2))) σ12) ∧ (x3 = (1 : Int32) → Φ (some (.int (σ12 39 4))) σ12) ∧ (x3 = (2 : Int32) → Φ (some (.int (σ12 39 5))) σ12) ∧ (x3 = (3 : Int32) → (((σ12 39 7) = 0 → Φ (some (.int 0)) σ12) ∧ (¬ (σ12 39 7) = 0 → Φ (some (.int 1)) σ12))) ∧ (x3 = (4 : Int32) → Φ (some (.int (σ12 39 6))) σ12) ∧ (¬ x3 = (0 : Int32) ∧ ¬ x3 = (1 : Int32) ∧ ¬ x3 = (2 : Int32) ∧ ¬ x3 = (3 : Int32) ∧ ¬ x3 = (4 : Int32) → Φ (some (.int (-2))) σ12))) ∧ (r7 = 0 → Φ (some (.int (-2))) σ5))))) : Ru E mX7_at 0 [(0, .ref 0), (1, .int x1), (2, .int x2), (3, .int x3)] [] σ Φ := by
  refine s_iload_n 1 (pc := 0) dX7_at_0 rfl rfl ?_
  obtain ⟨r3, σ1, hk2, h⟩ := h
  refine s_callS (S := []) [.int x1] (pc := 1) dX7_at_1 ms_X7_isDay ml_X7_131 ⟨Nat.le_of_ble_eq_true rfl, Nat.le_of_ble_eq_true rfl⟩ rfl rfl (Nat.le_of_ble_eq_true rfl) hk2 ?_
  refine s_if_eq (pc := 4) (tgt := 18) dX7_at_4 rfl (fun q4 => ?_) (fun q4 => ?_)
  · replace h := h.1 q4
    refine s_bipush (v := (-2)) (pc := 18) dX7_at_18 rfl ?_
    exact s_ret (r := some (.int (-2))) ⟨dX7_at_20, fun ty e => by cases e; rfl⟩ rfl h
  · replace h := h.2 q4
    refine s_aload_n 0 (pc := 7) dX7_at_7 rfl rfl ?_
    refine s_getR (q := 2) (pc := 8) dX7_at_8 fl_X7_20 ly0 rfl ?_
    refine s_iload_n 2 (pc := 11) dX7_at_11 rfl rfl ?_
    obtain ⟨r7, σ5, hk6, h⟩ := h
    refine s_callV (S := []) [.int x2] (pc := 12) dX7_at_12 mv_X0_has ml_X7_82 ⟨Nat.le_of_ble_eq_true rfl, Nat.le_of_ble_eq_true rfl⟩ rfl rfl ly2 rfl rfl (Nat.le_of_ble_eq_true rfl) hk6 ?_
    refine s_if_ne (pc := 15) (tgt := 21) dX7_at_15 rfl (fun q8 => ?_) (fun q8 => ?_)
    · replace h := h.1 q8
      refine s_aload_n 0 (pc := 21) dX7_at_21 rfl rfl ?_
      refine s_getR (q := 39) (pc := 22) dX7_at_22 fl_X7_54 ly0 rfl ?_
      refine s_aload_n 0 (pc := 25) dX7_at_25 rfl rfl ?_
      refine s_getR (q := 2) (pc := 26) dX7_at_26 fl_X7_20 ly0 rfl ?_
      refine s_aload_n 0 (pc := 29) dX7_at_29 rfl rfl ?_
      refine s_getR (q := 12) (pc := 30) dX7_at_30 fl_X7_30 ly0 rfl ?_
      refine s_aload_n 0 (pc := 33) dX7_at_33 rfl rfl ?_
      refine s_getR (q := 12) (pc := 34) dX7_at_34 fl_X7_30 ly0 rfl ?_
      obtain ⟨r11, σ9, hk10, h⟩ := h
      refine s_callV (S := [.ref 12, .ref 2, .ref 39]) [] (pc := 37) dX7_at_37 mv_X1_all ml_X7_134 ⟨Nat.le_of_ble_eq_true rfl, Nat.le_of_ble_eq_true rfl⟩ rfl rfl ly12 rfl rfl (Nat.le_of_ble_eq_true rfl) hk10 ?_
      refine s_iload_n 2 (pc := 40) dX7_at_40 rfl rfl ?_
      refine s_iload_n 1 (pc := 41) dX7_at_41 rfl rfl ?_
      obtain ⟨σ12, hk13, h⟩ := h
      refine s_callV (S := []) [.ref 2, .ref 12, .int r11, .int x2, .int x1] (pc := 42) dX7_at_42 mv_X3_live ml_X7_138 ⟨Nat.le_of_ble_eq_true rfl, Nat.le_of_ble_eq_true rfl⟩ rfl rfl ly39 rfl rfl (Nat.le_of_ble_eq_true rfl) hk13 ?_
      refine s_iload_n 3 (pc := 45) dX7_at_45 rfl rfl ?_
      by_cases q14 : x3 = (0 : Int32)
      · replace h := h.1 q14
        refine s_tin (pc := 46) (tgt := 80) 0 dX7_at_46 (by rw [q14]; rfl) (by decide) (by decide) rfl rfl ?_
        refine s_aload_n 0 (pc := 80) dX7_at_80 rfl rfl ?_
        refine s_getR (q := 39) (pc := 81) dX7_at_81 fl_X7_54 ly0 rfl ?_
        refine s_getI (v := σ12 39 2) (pc := 84) dX7_at_84 fl_X7_142 ly39 rfl rfl ?_
        exact s_ret (r := some (.int (σ12 39 2))) ⟨dX7_at_87, fun ty e => by cases e; rfl⟩ rfl h
      replace h := h.2
      by_cases q15 : x3 = (1 : Int32)
      · replace h := h.1 q15
        refine s_tin (pc := 46) (tgt := 88) 1 dX7_at_46 (by rw [q15]; rfl) (by decide) (by decide) rfl rfl ?_
        refine s_aload_n 0 (pc := 88) dX7_at_88 rfl rfl ?_
        refine s_getR (q := 39) (pc := 89) dX7_at_89 fl_X7_54 ly0 rfl ?_
        refine s_getI (v := σ12 39 4) (pc := 92) dX7_at_92 fl_X7_144 ly39 rfl rfl ?_
        exact s_ret (r := some (.int (σ12 39 4))) ⟨dX7_at_95, fun ty e => by cases e; rfl⟩ rfl h
      replace h := h.2
      by_cases q16 : x3 = (2 : Int32)
      · replace h := h.1 q16
        refine s_tin (pc := 46) (tgt := 96) 2 dX7_at_46 (by rw [q16]; rfl) (by decide) (by decide) rfl rfl ?_
        refine s_aload_n 0 (pc := 96) dX7_at_96 rfl rfl ?_
        refine s_getR (q := 39) (pc := 97) dX7_at_97 fl_X7_54 ly0 rfl ?_
        refine s_getI (v := σ12 39 5) (pc := 100) dX7_at_100 fl_X7_147 ly39 rfl rfl ?_
        exact s_ret (r := some (.int (σ12 39 5))) ⟨dX7_at_103, fun ty e => by cases e; rfl⟩ rfl h
      replace h := h.2
      by_cases q17 : x3 = (3 : Int32)
      · replace h := h.1 q17
        refine s_tin (pc := 46) (tgt := 104) 3 dX7_at_46 (by rw [q17]; rfl) (by decide) (by decide) rfl rfl ?_
        refine s_aload_n 0 (pc := 104) dX7_at_104 rfl rfl ?_
        refine s_getR (q := 39) (pc := 105) dX7_at_105 fl_X7_54 ly0 rfl ?_
        refine s_getI (v := σ12 39 7) (pc := 108) dX7_at_108 fl_X7_150 ly39 rfl rfl ?_
        refine s_if_eq (pc := 111) (tgt := 118) dX7_at_111 rfl (fun q18 => ?_) (fun q18 => ?_)
        · replace h := h.1 q18
          refine s_iconst (v := 0) (pc := 118) dX7_at_118 rfl ?_
          exact s_ret (r := some (.int 0)) ⟨dX7_at_119, fun ty e => by cases e; rfl⟩ rfl h
        · replace h := h.2 q18
          refine s_iconst (v := 1) (pc := 114) dX7_at_114 rfl ?_
          refine s_goto (pc := 115) (tgt := 119) dX7_at_115 rfl ?_
          exact s_ret (r := some (.int 1)) ⟨dX7_at_119, fun ty e => by cases e; rfl⟩ rfl h
      replace h := h.2
      by_cases q19 : x3 = (4 : Int32)
      · replace h := h.1 q19
        refine s_tin (pc := 46) (tgt := 120) 4 dX7_at_46 (by rw [q19]; rfl) (by decide) (by decide) rfl rfl ?_
        refine s_aload_n 0 (pc := 120) dX7_at_120 rfl rfl ?_
        refine s_getR (q := 39) (pc := 121) dX7_at_121 fl_X7_54 ly0 rfl ?_
        refine s_getI (v := σ12 39 6) (pc := 124) dX7_at_124 fl_X7_153 ly39 rfl rfl ?_
        exact s_ret (r := some (.int (σ12 39 6))) ⟨dX7_at_127, fun ty e => by cases e; rfl⟩ rfl h
      replace h := h.2
      replace h := h ⟨q14, q15, q16, q17, q19⟩
      refine s_tout (pc := 46) (tgt := 128) dX7_at_46 (tsw_out 5 x3 (lt_s (lt_s (lt_s (lt_s (lt_s lt_0 q14) q15) q16) q17) q19)) rfl ?_
      refine s_bipush (v := (-2)) (pc := 128) dX7_at_128 rfl ?_
      exact s_ret (r := some (.int (-2))) ⟨dX7_at_130, fun ty e => by cases e; rfl⟩ rfl h
    · replace h := h.2 q8
      refine s_bipush (v := (-2)) (pc := 18) dX7_at_18 rfl ?_
      exact s_ret (r := some (.int (-2))) ⟨dX7_at_20, fun ty e => by cases e; rfl⟩ rfl h
set_option maxRecDepth 10000 in
set_option maxHeartbeats 4000000 in
theorem tX7_place_0 {E : Ev} {x1 : Int32} {x2 : Int32} {x3 : Int32} {σ : Hp} {Φ : Option Value → Hp → Prop}  (h : ∃ (r3 : Int32) (σ1 : Hp), Call E mX7_isDay [.int x1] σ (some (.int r3)) σ1 ∧ ((r3 = 0 → Φ (some (.int (-2147483648))) σ1) ∧ (¬ r3 = 0 → ∃ (r7 : Int32) (σ5 : Hp), Call E mX0_has [.ref 2, .int x2] σ1 (some (.int r7)) σ5 ∧ ((¬ r7 = 0 → ∃ (r11 : Int32) (σ9 : Hp), Call E mX1_all [.ref 12] σ5 (some (.int r11)) σ9 ∧ ∃ σ12 : Hp, Call E mX3_live [.ref 39, .ref 2, .ref 12, .int r11, .int x2, .int x1] σ9 none σ12 ∧ ((x3 = (0 : Int32) → Φ (some (.int (σ12 39 0))) σ12) ∧ (x3 = (1 : Int32) → Φ (some (.int (σ12 39 1))) σ12) ∧ (x3 = (2 : Int32) → ∃ (r19 : Int32) (σ17 : Hp), Call E mX3_legX [.ref 39] σ12 (some (.int r19)) σ17 ∧ Φ (some (.int r19)) σ17) ∧ (x3 = (3 : Int32) → ∃ (r23 : Int32) (σ21 : Hp), Call E mX3_legY [.ref 39] σ12 (some (.int r23)) σ21 ∧ Φ (some (.int r23)) σ21) ∧ (¬ x3 = (0 : Int32) ∧ ¬ x3 = (1 : Int32) ∧ ¬ x3 = (2 : Int32) ∧ ¬ x3 = (3 : Int32) → Φ (some (.int (-2147483648))) σ12))) ∧ (r7 = 0 → Φ (some (.int (-2147483648))) σ5))))) : Ru E mX7_place 0 [(0, .ref 0), (1, .int x1), (2, .int x2), (3, .int x3)] [] σ Φ := by
  refine s_iload_n 1 (pc := 0) dX7_place_0 rfl rfl ?_
  obtain ⟨r3, σ1, hk2, h⟩ := h
  refine s_callS (S := []) [.int x1] (pc := 1) dX7_place_1 ms_X7_isDay ml_X7_131 ⟨Nat.le_of_ble_eq_true rfl, Nat.le_of_ble_eq_true rfl⟩ rfl rfl (Nat.le_of_ble_eq_true rfl) hk2 ?_
  refine s_if_eq (pc := 4) (tgt := 18) dX7_place_4 rfl (fun q4 => ?_) (fun q4 => ?_)
  · replace h := h.1 q4
    refine s_ldc (v := (-2147483648)) (pc := 18) dX7_place_18 ct_X7_156 ?_
    exact s_ret (r := some (.int (-2147483648))) ⟨dX7_place_20, fun ty e => by cases e; rfl⟩ rfl h
  · replace h := h.2 q4
    refine s_aload_n 0 (pc := 7) dX7_place_7 rfl rfl ?_
    refine s_getR (q := 2) (pc := 8) dX7_place_8 fl_X7_20 ly0 rfl ?_
    refine s_iload_n 2 (pc := 11) dX7_place_11 rfl rfl ?_
    obtain ⟨r7, σ5, hk6, h⟩ := h
    refine s_callV (S := []) [.int x2] (pc := 12) dX7_place_12 mv_X0_has ml_X7_82 ⟨Nat.le_of_ble_eq_true rfl, Nat.le_of_ble_eq_true rfl⟩ rfl rfl ly2 rfl rfl (Nat.le_of_ble_eq_true rfl) hk6 ?_
    refine s_if_ne (pc := 15) (tgt := 21) dX7_place_15 rfl (fun q8 => ?_) (fun q8 => ?_)
    · replace h := h.1 q8
      refine s_aload_n 0 (pc := 21) dX7_place_21 rfl rfl ?_
      refine s_getR (q := 39) (pc := 22) dX7_place_22 fl_X7_54 ly0 rfl ?_
      refine s_aload_n 0 (pc := 25) dX7_place_25 rfl rfl ?_
      refine s_getR (q := 2) (pc := 26) dX7_place_26 fl_X7_20 ly0 rfl ?_
      refine s_aload_n 0 (pc := 29) dX7_place_29 rfl rfl ?_
      refine s_getR (q := 12) (pc := 30) dX7_place_30 fl_X7_30 ly0 rfl ?_
      refine s_aload_n 0 (pc := 33) dX7_place_33 rfl rfl ?_
      refine s_getR (q := 12) (pc := 34) dX7_place_34 fl_X7_30 ly0 rfl ?_
      obtain ⟨r11, σ9, hk10, h⟩ := h
      refine s_callV (S := [.ref 12, .ref 2, .ref 39]) [] (pc := 37) dX7_place_37 mv_X1_all ml_X7_134 ⟨Nat.le_of_ble_eq_true rfl, Nat.le_of_ble_eq_true rfl⟩ rfl rfl ly12 rfl rfl (Nat.le_of_ble_eq_true rfl) hk10 ?_
      refine s_iload_n 2 (pc := 40) dX7_place_40 rfl rfl ?_
      refine s_iload_n 1 (pc := 41) dX7_place_41 rfl rfl ?_
      obtain ⟨σ12, hk13, h⟩ := h
      refine s_callV (S := []) [.ref 2, .ref 12, .int r11, .int x2, .int x1] (pc := 42) dX7_place_42 mv_X3_live ml_X7_138 ⟨Nat.le_of_ble_eq_true rfl, Nat.le_of_ble_eq_true rfl⟩ rfl rfl ly39 rfl rfl (Nat.le_of_ble_eq_true rfl) hk13 ?_
      refine s_iload_n 3 (pc := 45) dX7_place_45 rfl rfl ?_
      by_cases q14 : x3 = (0 : Int32)
      · replace h := h.1 q14
        refine s_tin (pc := 46) (tgt := 76) 0 dX7_place_46 (by rw [q14]; rfl) (by decide) (by decide) rfl rfl ?_
        refine s_aload_n 0 (pc := 76) dX7_place_76 rfl rfl ?_
        refine s_getR (q := 39) (pc := 77) dX7_place_77 fl_X7_54 ly0 rfl ?_
        refine s_getI (v := σ12 39 0) (pc := 80) dX7_place_80 fl_X7_157 ly39 rfl rfl ?_
        exact s_ret (r := some (.int (σ12 39 0))) ⟨dX7_place_83, fun ty e => by cases e; rfl⟩ rfl h
      replace h := h.2
      by_cases q15 : x3 = (1 : Int32)
      · replace h := h.1 q15
        refine s_tin (pc := 46) (tgt := 84) 1 dX7_place_46 (by rw [q15]; rfl) (by decide) (by decide) rfl rfl ?_
        refine s_aload_n 0 (pc := 84) dX7_place_84 rfl rfl ?_
        refine s_getR (q := 39) (pc := 85) dX7_place_85 fl_X7_54 ly0 rfl ?_
        refine s_getI (v := σ12 39 1) (pc := 88) dX7_place_88 fl_X7_159 ly39 rfl rfl ?_
        exact s_ret (r := some (.int (σ12 39 1))) ⟨dX7_place_91, fun ty e => by cases e; rfl⟩ rfl h
      replace h := h.2
      by_cases q16 : x3 = (2 : Int32)
      · replace h := h.1 q16
        refine s_tin (pc := 46) (tgt := 92) 2 dX7_place_46 (by rw [q16]; rfl) (by decide) (by decide) rfl rfl ?_
        refine s_aload_n 0 (pc := 92) dX7_place_92 rfl rfl ?_
        refine s_getR (q := 39) (pc := 93) dX7_place_93 fl_X7_54 ly0 rfl ?_
        obtain ⟨r19, σ17, hk18, h⟩ := h
        refine s_callV (S := []) [] (pc := 96) dX7_place_96 mv_X3_legX ml_X7_161 ⟨Nat.le_of_ble_eq_true rfl, Nat.le_of_ble_eq_true rfl⟩ rfl rfl ly39 rfl rfl (Nat.le_of_ble_eq_true rfl) hk18 ?_
        exact s_ret (r := some (.int r19)) ⟨dX7_place_99, fun ty e => by cases e; rfl⟩ rfl h
      replace h := h.2
      by_cases q20 : x3 = (3 : Int32)
      · replace h := h.1 q20
        refine s_tin (pc := 46) (tgt := 100) 3 dX7_place_46 (by rw [q20]; rfl) (by decide) (by decide) rfl rfl ?_
        refine s_aload_n 0 (pc := 100) dX7_place_100 rfl rfl ?_
        refine s_getR (q := 39) (pc := 101) dX7_place_101 fl_X7_54 ly0 rfl ?_
        obtain ⟨r23, σ21, hk22, h⟩ := h
        refine s_callV (S := []) [] (pc := 104) dX7_place_104 mv_X3_legY ml_X7_164 ⟨Nat.le_of_ble_eq_true rfl, Nat.le_of_ble_eq_true rfl⟩ rfl rfl ly39 rfl rfl (Nat.le_of_ble_eq_true rfl) hk22 ?_
        exact s_ret (r := some (.int r23)) ⟨dX7_place_107, fun ty e => by cases e; rfl⟩ rfl h
      replace h := h.2
      replace h := h ⟨q14, q15, q16, q20⟩
      refine s_tout (pc := 46) (tgt := 108) dX7_place_46 (tsw_out 4 x3 (lt_s (lt_s (lt_s (lt_s lt_0 q14) q15) q16) q20)) rfl ?_
      refine s_ldc (v := (-2147483648)) (pc := 108) dX7_place_108 ct_X7_156 ?_
      exact s_ret (r := some (.int (-2147483648))) ⟨dX7_place_110, fun ty e => by cases e; rfl⟩ rfl h
    · replace h := h.2 q8
      refine s_ldc (v := (-2147483648)) (pc := 18) dX7_place_18 ct_X7_156 ?_
      exact s_ret (r := some (.int (-2147483648))) ⟨dX7_place_20, fun ty e => by cases e; rfl⟩ rfl h
set_option maxRecDepth 10000 in
set_option maxHeartbeats 4000000 in
theorem tX7_are_0 {E : Ev} {x1 : Int32} {x2 : Int32} {x3 : Int32} {σ : Hp} {Φ : Option Value → Hp → Prop}  (h : ∃ (r3 : Int32) (σ1 : Hp), Call E mX7_isDay [.int x1] σ (some (.int r3)) σ1 ∧ ((r3 = 0 → Φ (some (.int (-2))) σ1) ∧ (¬ r3 = 0 → ∃ (r7 : Int32) (σ5 : Hp), Call E mX0_has [.ref 2, .int x2] σ1 (some (.int r7)) σ5 ∧ ((r7 = 0 → Φ (some (.int (-2))) σ5) ∧ (¬ r7 = 0 → ∃ (r11 : Int32) (σ9 : Hp), Call E mX0_has [.ref 2, .int x3] σ5 (some (.int r11)) σ9 ∧ ((r11 = 0 → Φ (some (.int (-2))) σ9) ∧ (¬ r11 = 0 → ((¬ x2 = x3 → ∃ σ14 : Hp, Call E mX7_comeTo [.ref 0, .int x1] σ9 none σ14 ∧ vp_in x2 8 ∧ vp_in x3 8 ∧ ∃ (r20 : Int32) (σ18 : Hp), Call E mX3_against [.ref (31 + 1 * (x2).toNatClampNeg), .ref (31 + 1 * (x3).toNatClampNeg)] σ14 (some (.int r20)) σ18 ∧ Φ (some (.int r20)) σ18) ∧ (x2 = x3 → Φ (some (.int (-2))) σ9))))))))) : Ru E mX7_are 0 [(0, .ref 0), (1, .int x1), (2, .int x2), (3, .int x3)] [] σ Φ := by
  refine s_iload_n 1 (pc := 0) dX7_are_0 rfl rfl ?_
  obtain ⟨r3, σ1, hk2, h⟩ := h
  refine s_callS (S := []) [.int x1] (pc := 1) dX7_are_1 ms_X7_isDay ml_X7_131 ⟨Nat.le_of_ble_eq_true rfl, Nat.le_of_ble_eq_true rfl⟩ rfl rfl (Nat.le_of_ble_eq_true rfl) hk2 ?_
  refine s_if_eq (pc := 4) (tgt := 34) dX7_are_4 rfl (fun q4 => ?_) (fun q4 => ?_)
  · replace h := h.1 q4
    refine s_bipush (v := (-2)) (pc := 34) dX7_are_34 rfl ?_
    exact s_ret (r := some (.int (-2))) ⟨dX7_are_36, fun ty e => by cases e; rfl⟩ rfl h
  · replace h := h.2 q4
    refine s_aload_n 0 (pc := 7) dX7_are_7 rfl rfl ?_
    refine s_getR (q := 2) (pc := 8) dX7_are_8 fl_X7_20 ly0 rfl ?_
    refine s_iload_n 2 (pc := 11) dX7_are_11 rfl rfl ?_
    obtain ⟨r7, σ5, hk6, h⟩ := h
    refine s_callV (S := []) [.int x2] (pc := 12) dX7_are_12 mv_X0_has ml_X7_82 ⟨Nat.le_of_ble_eq_true rfl, Nat.le_of_ble_eq_true rfl⟩ rfl rfl ly2 rfl rfl (Nat.le_of_ble_eq_true rfl) hk6 ?_
    refine s_if_eq (pc := 15) (tgt := 34) dX7_are_15 rfl (fun q8 => ?_) (fun q8 => ?_)
    · replace h := h.1 q8
      refine s_bipush (v := (-2)) (pc := 34) dX7_are_34 rfl ?_
      exact s_ret (r := some (.int (-2))) ⟨dX7_are_36, fun ty e => by cases e; rfl⟩ rfl h
    · replace h := h.2 q8
      refine s_aload_n 0 (pc := 18) dX7_are_18 rfl rfl ?_
      refine s_getR (q := 2) (pc := 19) dX7_are_19 fl_X7_20 ly0 rfl ?_
      refine s_iload_n 3 (pc := 22) dX7_are_22 rfl rfl ?_
      obtain ⟨r11, σ9, hk10, h⟩ := h
      refine s_callV (S := []) [.int x3] (pc := 23) dX7_are_23 mv_X0_has ml_X7_82 ⟨Nat.le_of_ble_eq_true rfl, Nat.le_of_ble_eq_true rfl⟩ rfl rfl ly2 rfl rfl (Nat.le_of_ble_eq_true rfl) hk10 ?_
      refine s_if_eq (pc := 26) (tgt := 34) dX7_are_26 rfl (fun q12 => ?_) (fun q12 => ?_)
      · replace h := h.1 q12
        refine s_bipush (v := (-2)) (pc := 34) dX7_are_34 rfl ?_
        exact s_ret (r := some (.int (-2))) ⟨dX7_are_36, fun ty e => by cases e; rfl⟩ rfl h
      · replace h := h.2 q12
        refine s_iload_n 2 (pc := 29) dX7_are_29 rfl rfl ?_
        refine s_iload_n 3 (pc := 30) dX7_are_30 rfl rfl ?_
        refine s_icmp_ne (pc := 31) (tgt := 37) dX7_are_31 rfl (fun q13 => ?_) (fun q13 => ?_)
        · replace h := h.1 q13
          refine s_aload_n 0 (pc := 37) dX7_are_37 rfl rfl ?_
          refine s_iload_n 1 (pc := 38) dX7_are_38 rfl rfl ?_
          obtain ⟨σ14, hk15, h⟩ := h
          refine s_callV (S := []) [.int x1] (pc := 39) dX7_are_39 mv_X7_comeTo ml_X7_167 ⟨Nat.le_of_ble_eq_true rfl, Nat.le_of_ble_eq_true rfl⟩ rfl rfl ly0 rfl rfl (Nat.le_of_ble_eq_true rfl) hk15 ?_
          refine s_aload_n 0 (pc := 42) dX7_are_42 rfl rfl ?_
          refine s_getR (q := 29) (pc := 43) dX7_are_43 fl_X7_47 ly0 rfl ?_
          refine s_getR (q := 30) (pc := 46) dX7_are_46 fl_X7_171 ly29 rfl ?_
          refine s_iload_n 2 (pc := 49) dX7_are_49 rfl rfl ?_
          have hv16 := h.1
          replace h := h.2
          refine s_aaldR (pc := 50) dX7_are_50 ly30 hv16 ?_
          refine s_aload_n 0 (pc := 51) dX7_are_51 rfl rfl ?_
          refine s_getR (q := 29) (pc := 52) dX7_are_52 fl_X7_47 ly0 rfl ?_
          refine s_getR (q := 30) (pc := 55) dX7_are_55 fl_X7_171 ly29 rfl ?_
          refine s_iload_n 3 (pc := 58) dX7_are_58 rfl rfl ?_
          have hv17 := h.1
          replace h := h.2
          refine s_aaldR (pc := 59) dX7_are_59 ly30 hv17 ?_
          obtain ⟨r20, σ18, hk19, h⟩ := h
          refine s_callV (S := []) [.ref (31 + 1 * (x3).toNatClampNeg)] (pc := 60) dX7_are_60 mv_X3_against ml_X7_175 ⟨Nat.le_of_ble_eq_true rfl, Nat.le_of_ble_eq_true rfl⟩ rfl rfl (rgC hv16) rfl rfl (Nat.le_of_ble_eq_true rfl) hk19 ?_
          exact s_ret (r := some (.int r20)) ⟨dX7_are_63, fun ty e => by cases e; rfl⟩ rfl h
        · replace h := h.2 q13
          refine s_bipush (v := (-2)) (pc := 34) dX7_are_34 rfl ?_
          exact s_ret (r := some (.int (-2))) ⟨dX7_are_36, fun ty e => by cases e; rfl⟩ rfl h
set_option maxRecDepth 10000 in
set_option maxHeartbeats 4000000 in
theorem tX7_pairs_0 {E : Ev} {x1 : Int32} {x2 : Int32} {σ : Hp} {Φ : Option Value → Hp → Prop}  (h : ∃ (r3 : Int32) (σ1 : Hp), Call E mX7_isDay [.int x1] σ (some (.int r3)) σ1 ∧ ((r3 = 0 → Φ (some (.int (-2))) σ1) ∧ (¬ r3 = 0 → ∃ (r7 : Int32) (σ5 : Hp), Call E mX7_isWithin [.int x2, .int 0, .int 1] σ1 (some (.int r7)) σ5 ∧ ((¬ r7 = 0 → ∃ σ9 : Hp, Call E mX7_comeTo [.ref 0, .int x1] σ5 none σ9 ∧ ((¬ x2 = 0 → ∃ (r14 : Int32) (σ12 : Hp), Call E mX6_closedPairs [.ref 29, .int 10] σ9 (some (.int r14)) σ12 ∧ Φ (some (.int r14)) σ12) ∧ (x2 = 0 → ∃ (r17 : Int32) (σ15 : Hp), Call E mX6_closedPairs [.ref 29, .int 4] σ9 (some (.int r17)) σ15 ∧ Φ (some (.int r17)) σ15))) ∧ (r7 = 0 → Φ (some (.int (-2))) σ5))))) : Ru E mX7_pairs 0 [(0, .ref 0), (1, .int x1), (2, .int x2)] [] σ Φ := by
  refine s_iload_n 1 (pc := 0) dX7_pairs_0 rfl rfl ?_
  obtain ⟨r3, σ1, hk2, h⟩ := h
  refine s_callS (S := []) [.int x1] (pc := 1) dX7_pairs_1 ms_X7_isDay ml_X7_131 ⟨Nat.le_of_ble_eq_true rfl, Nat.le_of_ble_eq_true rfl⟩ rfl rfl (Nat.le_of_ble_eq_true rfl) hk2 ?_
  refine s_if_eq (pc := 4) (tgt := 16) dX7_pairs_4 rfl (fun q4 => ?_) (fun q4 => ?_)
  · replace h := h.1 q4
    refine s_bipush (v := (-2)) (pc := 16) dX7_pairs_16 rfl ?_
    exact s_ret (r := some (.int (-2))) ⟨dX7_pairs_18, fun ty e => by cases e; rfl⟩ rfl h
  · replace h := h.2 q4
    refine s_iload_n 2 (pc := 7) dX7_pairs_7 rfl rfl ?_
    refine s_iconst (v := 0) (pc := 8) dX7_pairs_8 rfl ?_
    refine s_iconst (v := 1) (pc := 9) dX7_pairs_9 rfl ?_
    obtain ⟨r7, σ5, hk6, h⟩ := h
    refine s_callS (S := []) [.int x2, .int 0, .int 1] (pc := 10) dX7_pairs_10 ms_X7_isWithin ml_X7_72 ⟨Nat.le_of_ble_eq_true rfl, Nat.le_of_ble_eq_true rfl⟩ rfl rfl (Nat.le_of_ble_eq_true rfl) hk6 ?_
    refine s_if_ne (pc := 13) (tgt := 19) dX7_pairs_13 rfl (fun q8 => ?_) (fun q8 => ?_)
    · replace h := h.1 q8
      refine s_aload_n 0 (pc := 19) dX7_pairs_19 rfl rfl ?_
      refine s_iload_n 1 (pc := 20) dX7_pairs_20 rfl rfl ?_
      obtain ⟨σ9, hk10, h⟩ := h
      refine s_callV (S := []) [.int x1] (pc := 21) dX7_pairs_21 mv_X7_comeTo ml_X7_167 ⟨Nat.le_of_ble_eq_true rfl, Nat.le_of_ble_eq_true rfl⟩ rfl rfl ly0 rfl rfl (Nat.le_of_ble_eq_true rfl) hk10 ?_
      refine s_aload_n 0 (pc := 24) dX7_pairs_24 rfl rfl ?_
      refine s_getR (q := 29) (pc := 25) dX7_pairs_25 fl_X7_47 ly0 rfl ?_
      refine s_iload_n 2 (pc := 28) dX7_pairs_28 rfl rfl ?_
      refine s_if_ne (pc := 29) (tgt := 36) dX7_pairs_29 rfl (fun q11 => ?_) (fun q11 => ?_)
      · replace h := h.1 q11
        refine s_bipush (v := 10) (pc := 36) dX7_pairs_36 rfl ?_
        obtain ⟨r14, σ12, hk13, h⟩ := h
        refine s_callV (S := []) [.int 10] (pc := 38) dX7_pairs_38 mv_X6_closedPairs ml_X7_179 ⟨Nat.le_of_ble_eq_true rfl, Nat.le_of_ble_eq_true rfl⟩ rfl rfl ly29 rfl rfl (Nat.le_of_ble_eq_true rfl) hk13 ?_
        exact s_ret (r := some (.int r14)) ⟨dX7_pairs_41, fun ty e => by cases e; rfl⟩ rfl h
      · replace h := h.2 q11
        refine s_iconst (v := 4) (pc := 32) dX7_pairs_32 rfl ?_
        refine s_goto (pc := 33) (tgt := 38) dX7_pairs_33 rfl ?_
        obtain ⟨r17, σ15, hk16, h⟩ := h
        refine s_callV (S := []) [.int 4] (pc := 38) dX7_pairs_38 mv_X6_closedPairs ml_X7_179 ⟨Nat.le_of_ble_eq_true rfl, Nat.le_of_ble_eq_true rfl⟩ rfl rfl ly29 rfl rfl (Nat.le_of_ble_eq_true rfl) hk16 ?_
        exact s_ret (r := some (.int r17)) ⟨dX7_pairs_41, fun ty e => by cases e; rfl⟩ rfl h
    · replace h := h.2 q8
      refine s_bipush (v := (-2)) (pc := 16) dX7_pairs_16 rfl ?_
      exact s_ret (r := some (.int (-2))) ⟨dX7_pairs_18, fun ty e => by cases e; rfl⟩ rfl h
set_option maxRecDepth 10000 in
set_option maxHeartbeats 4000000 in
theorem tX7_closed_0 {E : Ev} {x1 : Int32} {σ : Hp} {Φ : Option Value → Hp → Prop}  (h : ∃ (r3 : Int32) (σ1 : Hp), Call E mX7_isDay [.int x1] σ (some (.int r3)) σ1 ∧ ((¬ r3 = 0 → ∃ σ5 : Hp, Call E mX7_comeTo [.ref 0, .int x1] σ1 none σ5 ∧ ∃ (r9 : Int32) (σ7 : Hp), Call E mX6_closedBits [.ref 29] σ5 (some (.int r9)) σ7 ∧ Φ (some (.int r9)) σ7) ∧ (r3 = 0 → Φ (some (.int (-2))) σ1))) : Ru E mX7_closed 0 [(0, .ref 0), (1, .int x1)] [] σ Φ := by
  refine s_iload_n 1 (pc := 0) dX7_closed_0 rfl rfl ?_
  obtain ⟨r3, σ1, hk2, h⟩ := h
  refine s_callS (S := []) [.int x1] (pc := 1) dX7_closed_1 ms_X7_isDay ml_X7_131 ⟨Nat.le_of_ble_eq_true rfl, Nat.le_of_ble_eq_true rfl⟩ rfl rfl (Nat.le_of_ble_eq_true rfl) hk2 ?_
  refine s_if_ne (pc := 4) (tgt := 10) dX7_closed_4 rfl (fun q4 => ?_) (fun q4 => ?_)
  · replace h := h.1 q4
    refine s_aload_n 0 (pc := 10) dX7_closed_10 rfl rfl ?_
    refine s_iload_n 1 (pc := 11) dX7_closed_11 rfl rfl ?_
    obtain ⟨σ5, hk6, h⟩ := h
    refine s_callV (S := []) [.int x1] (pc := 12) dX7_closed_12 mv_X7_comeTo ml_X7_167 ⟨Nat.le_of_ble_eq_true rfl, Nat.le_of_ble_eq_true rfl⟩ rfl rfl ly0 rfl rfl (Nat.le_of_ble_eq_true rfl) hk6 ?_
    refine s_aload_n 0 (pc := 15) dX7_closed_15 rfl rfl ?_
    refine s_getR (q := 29) (pc := 16) dX7_closed_16 fl_X7_47 ly0 rfl ?_
    obtain ⟨r9, σ7, hk8, h⟩ := h
    refine s_callV (S := []) [] (pc := 19) dX7_closed_19 mv_X6_closedBits ml_X7_182 ⟨Nat.le_of_ble_eq_true rfl, Nat.le_of_ble_eq_true rfl⟩ rfl rfl ly29 rfl rfl (Nat.le_of_ble_eq_true rfl) hk8 ?_
    exact s_ret (r := some (.int r9)) ⟨dX7_closed_22, fun ty e => by cases e; rfl⟩ rfl h
  · replace h := h.2 q4
    refine s_bipush (v := (-2)) (pc := 7) dX7_closed_7 rfl ?_
    exact s_ret (r := some (.int (-2))) ⟨dX7_closed_9, fun ty e => by cases e; rfl⟩ rfl h
set_option maxRecDepth 10000 in
set_option maxHeartbeats 4000000 in
theorem tX7_holes_0 {E : Ev}  {σ : Hp} {Φ : Option Value → Hp → Prop}  (h : ∃ σ1 : Hp, Call E mX2_clear [.ref 40] σ none σ1 ∧ Ru E mX7_holes 9 [(0, .ref 0), (1, .int 0)] [] σ1 Φ) : Ru E mX7_holes 0 [(0, .ref 0)] [] σ Φ := by
  refine s_aload_n 0 (pc := 0) dX7_holes_0 rfl rfl ?_
  refine s_getR (q := 40) (pc := 1) dX7_holes_1 fl_X7_61 ly0 rfl ?_
  obtain ⟨σ1, hk2, h⟩ := h
  refine s_callV (S := []) [] (pc := 4) dX7_holes_4 mv_X2_clear ml_X7_185 ⟨Nat.le_of_ble_eq_true rfl, Nat.le_of_ble_eq_true rfl⟩ rfl rfl ly40 rfl rfl (Nat.le_of_ble_eq_true rfl) hk2 ?_
  refine s_iconst (v := 0) (pc := 7) dX7_holes_7 rfl ?_
  refine s_istore_n (L' := [(1, .int 0), (0, .ref 0)]) (pc := 8) dX7_holes_8 rfl (Nat.le_of_ble_eq_true rfl) rfl ?_
  exact s_sub (L' := [(0, .ref 0), (1, .int 0)]) [1, 0] rfl h
set_option maxRecDepth 10000 in
set_option maxHeartbeats 4000000 in
theorem tX7_holes_9 {E : Ev} {x1 : Int32} {σ : Hp} {Φ : Option Value → Hp → Prop}  (h : ((20 ≤ x1 → Φ (some (.int (σ 40 3))) σ) ∧ (¬ 20 ≤ x1 → ∃ σ2 : Hp, Call E mX7_comeTo [.ref 0, .int x1] σ none σ2 ∧ Ru E mX7_holes 22 [(0, .ref 0), (1, .int x1), (2, .int 0)] [] σ2 Φ))) : Ru E mX7_holes 9 [(0, .ref 0), (1, .int x1)] [] σ Φ := by
  refine s_iload_n 1 (pc := 9) dX7_holes_9 rfl rfl ?_
  refine s_bipush (v := 20) (pc := 10) dX7_holes_10 rfl ?_
  refine s_icmp_ge (pc := 12) (tgt := 76) dX7_holes_12 rfl (fun q1 => ?_) (fun q1 => ?_)
  · replace h := h.1 q1
    refine s_aload_n 0 (pc := 76) dX7_holes_76 rfl rfl ?_
    refine s_getR (q := 40) (pc := 77) dX7_holes_77 fl_X7_61 ly0 rfl ?_
    refine s_getI (v := σ 40 3) (pc := 80) dX7_holes_80 fl_X7_193 ly40 rfl rfl ?_
    exact s_ret (r := some (.int (σ 40 3))) ⟨dX7_holes_83, fun ty e => by cases e; rfl⟩ rfl h
  · replace h := h.2 q1
    refine s_aload_n 0 (pc := 15) dX7_holes_15 rfl rfl ?_
    refine s_iload_n 1 (pc := 16) dX7_holes_16 rfl rfl ?_
    obtain ⟨σ2, hk3, h⟩ := h
    refine s_callV (S := []) [.int x1] (pc := 17) dX7_holes_17 mv_X7_comeTo ml_X7_167 ⟨Nat.le_of_ble_eq_true rfl, Nat.le_of_ble_eq_true rfl⟩ rfl rfl ly0 rfl rfl (Nat.le_of_ble_eq_true rfl) hk3 ?_
    refine s_iconst (v := 0) (pc := 20) dX7_holes_20 rfl ?_
    refine s_istore_n (L' := [(2, .int 0), (0, .ref 0), (1, .int x1)]) (pc := 21) dX7_holes_21 rfl (Nat.le_of_ble_eq_true rfl) rfl ?_
    exact s_sub (L' := [(0, .ref 0), (1, .int x1), (2, .int 0)]) [1, 2, 0] rfl h
set_option maxRecDepth 10000 in
set_option maxHeartbeats 4000000 in
theorem tX7_holes_22 {E : Ev} {x1 : Int32} {x2 : Int32} {σ : Hp} {Φ : Option Value → Hp → Prop}  (h : (((σ 29 1) ≤ x2 → Ru E mX7_holes 9 [(0, .ref 0), (1, .int (x1 + 1))] [] σ Φ) ∧ (¬ (σ 29 1) ≤ x2 → vp_in x2 8 ∧ ∃ σ4 : Hp, Call E mX2_mark [.ref 40, .int (σ (31 + 1 * (x2).toNatClampNeg) 0), .int (σ (31 + 1 * (x2).toNatClampNeg) 1)] σ none σ4 ∧ Ru E mX7_holes 22 [(0, .ref 0), (1, .int x1), (2, .int (x2 + 1))] [] σ4 Φ))) : Ru E mX7_holes 22 [(0, .ref 0), (1, .int x1), (2, .int x2)] [] σ Φ := by
  refine s_iload_n 2 (pc := 22) dX7_holes_22 rfl rfl ?_
  refine s_aload_n 0 (pc := 23) dX7_holes_23 rfl rfl ?_
  refine s_getR (q := 29) (pc := 24) dX7_holes_24 fl_X7_47 ly0 rfl ?_
  refine s_getI (v := σ 29 1) (pc := 27) dX7_holes_27 fl_X7_188 ly29 rfl rfl ?_
  refine s_icmp_ge (pc := 30) (tgt := 70) dX7_holes_30 rfl (fun q1 => ?_) (fun q1 => ?_)
  · replace h := h.1 q1
    refine s_iinc (v := x1 + 1) (L' := [(1, .int (x1 + 1)), (0, .ref 0), (2, .int x2)]) 1 (pc := 70) dX7_holes_70 rfl rfl (Nat.le_of_ble_eq_true rfl) rfl ?_
    refine s_goto (pc := 73) (tgt := 9) dX7_holes_73 rfl ?_
    exact s_sub (L' := [(0, .ref 0), (1, .int (x1 + 1))]) [1, 0] rfl h
  · replace h := h.2 q1
    refine s_aload_n 0 (pc := 33) dX7_holes_33 rfl rfl ?_
    refine s_getR (q := 40) (pc := 34) dX7_holes_34 fl_X7_61 ly0 rfl ?_
    refine s_aload_n 0 (pc := 37) dX7_holes_37 rfl rfl ?_
    refine s_getR (q := 29) (pc := 38) dX7_holes_38 fl_X7_47 ly0 rfl ?_
    refine s_getR (q := 30) (pc := 41) dX7_holes_41 fl_X7_171 ly29 rfl ?_
    refine s_iload_n 2 (pc := 44) dX7_holes_44 rfl rfl ?_
    have hv2 := h.1
    replace h := h.2
    refine s_aaldR (pc := 45) dX7_holes_45 ly30 hv2 ?_
    refine s_getI (v := σ (31 + 1 * (x2).toNatClampNeg) 0) (pc := 46) dX7_holes_46 fl_X7_157 (rgC hv2) rfl rfl ?_
    refine s_aload_n 0 (pc := 49) dX7_holes_49 rfl rfl ?_
    refine s_getR (q := 29) (pc := 50) dX7_holes_50 fl_X7_47 ly0 rfl ?_
    refine s_getR (q := 30) (pc := 53) dX7_holes_53 fl_X7_171 ly29 rfl ?_
    refine s_iload_n 2 (pc := 56) dX7_holes_56 rfl rfl ?_
    refine s_aaldR (pc := 57) dX7_holes_57 ly30 hv2 ?_
    refine s_getI (v := σ (31 + 1 * (x2).toNatClampNeg) 1) (pc := 58) dX7_holes_58 fl_X7_159 (rgC hv2) rfl rfl ?_
    obtain ⟨σ4, hk5, h⟩ := h
    refine s_callV (S := []) [.int (σ (31 + 1 * (x2).toNatClampNeg) 0), .int (σ (31 + 1 * (x2).toNatClampNeg) 1)] (pc := 61) dX7_holes_61 mv_X2_mark ml_X7_189 ⟨Nat.le_of_ble_eq_true rfl, Nat.le_of_ble_eq_true rfl⟩ rfl rfl ly40 rfl rfl (Nat.le_of_ble_eq_true rfl) hk5 ?_
    refine s_iinc (v := x2 + 1) (L' := [(2, .int (x2 + 1)), (0, .ref 0), (1, .int x1)]) 2 (pc := 64) dX7_holes_64 rfl rfl (Nat.le_of_ble_eq_true rfl) rfl ?_
    refine s_goto (pc := 67) (tgt := 22) dX7_holes_67 rfl ?_
    exact s_sub (L' := [(0, .ref 0), (1, .int x1), (2, .int (x2 + 1))]) [1, 2, 0] rfl h
set_option maxRecDepth 10000 in
set_option maxHeartbeats 4000000 in
theorem tX7_ringed_0 {E : Ev} {x1 : Int32} {σ : Hp} {Φ : Option Value → Hp → Prop}  (h : ∃ (r3 : Int32) (σ1 : Hp), Call E mX0_has [.ref 2, .int x1] σ (some (.int r3)) σ1 ∧ ((¬ r3 = 0 → Ru E mX7_ringed 16 [(0, .ref 0), (1, .int x1), (2, .int 0)] [] σ1 Φ) ∧ (r3 = 0 → Φ (some (.int (-2))) σ1))) : Ru E mX7_ringed 0 [(0, .ref 0), (1, .int x1)] [] σ Φ := by
  refine s_aload_n 0 (pc := 0) dX7_ringed_0 rfl rfl ?_
  refine s_getR (q := 2) (pc := 1) dX7_ringed_1 fl_X7_20 ly0 rfl ?_
  refine s_iload_n 1 (pc := 4) dX7_ringed_4 rfl rfl ?_
  obtain ⟨r3, σ1, hk2, h⟩ := h
  refine s_callV (S := []) [.int x1] (pc := 5) dX7_ringed_5 mv_X0_has ml_X7_82 ⟨Nat.le_of_ble_eq_true rfl, Nat.le_of_ble_eq_true rfl⟩ rfl rfl ly2 rfl rfl (Nat.le_of_ble_eq_true rfl) hk2 ?_
  refine s_if_ne (pc := 8) (tgt := 14) dX7_ringed_8 rfl (fun q4 => ?_) (fun q4 => ?_)
  · replace h := h.1 q4
    refine s_iconst (v := 0) (pc := 14) dX7_ringed_14 rfl ?_
    refine s_istore_n (L' := [(2, .int 0), (0, .ref 0), (1, .int x1)]) (pc := 15) dX7_ringed_15 rfl (Nat.le_of_ble_eq_true rfl) rfl ?_
    exact s_sub (L' := [(0, .ref 0), (1, .int x1), (2, .int 0)]) [1, 2, 0] rfl h
  · replace h := h.2 q4
    refine s_bipush (v := (-2)) (pc := 11) dX7_ringed_11 rfl ?_
    exact s_ret (r := some (.int (-2))) ⟨dX7_ringed_13, fun ty e => by cases e; rfl⟩ rfl h
set_option maxRecDepth 10000 in
set_option maxHeartbeats 4000000 in
theorem tX7_ringed_16 {E : Ev} {x1 : Int32} {x2 : Int32} {σ : Hp} {Φ : Option Value → Hp → Prop}  (h : ((20 ≤ x2 → Φ (some (.int (-1))) σ) ∧ (¬ 20 ≤ x2 → ∃ (r4 : Int32) (σ2 : Hp), Call E mX1_all [.ref 12] σ (some (.int r4)) σ2 ∧ ∃ σ5 : Hp, Call E mX3_live [.ref 39, .ref 2, .ref 12, .int r4, .int x1, .int x2] σ2 none σ5 ∧ ∃ (r9 : Int32) (σ7 : Hp), Call E mX3_isClosed [.ref 39] σ5 (some (.int r9)) σ7 ∧ ((r9 = 0 → Ru E mX7_ringed 16 [(0, .ref 0), (1, .int x1), (2, .int (x2 + 1))] [] σ7 Φ) ∧ (¬ r9 = 0 → Φ (some (.int x2)) σ7))))) : Ru E mX7_ringed 16 [(0, .ref 0), (1, .int x1), (2, .int x2)] [] σ Φ := by
  refine s_iload_n 2 (pc := 16) dX7_ringed_16 rfl rfl ?_
  refine s_bipush (v := 20) (pc := 17) dX7_ringed_17 rfl ?_
  refine s_icmp_ge (pc := 19) (tgt := 64) dX7_ringed_19 rfl (fun q1 => ?_) (fun q1 => ?_)
  · replace h := h.1 q1
    refine s_iconst (v := (-1)) (pc := 64) dX7_ringed_64 rfl ?_
    exact s_ret (r := some (.int (-1))) ⟨dX7_ringed_65, fun ty e => by cases e; rfl⟩ rfl h
  · replace h := h.2 q1
    refine s_aload_n 0 (pc := 22) dX7_ringed_22 rfl rfl ?_
    refine s_getR (q := 39) (pc := 23) dX7_ringed_23 fl_X7_54 ly0 rfl ?_
    refine s_aload_n 0 (pc := 26) dX7_ringed_26 rfl rfl ?_
    refine s_getR (q := 2) (pc := 27) dX7_ringed_27 fl_X7_20 ly0 rfl ?_
    refine s_aload_n 0 (pc := 30) dX7_ringed_30 rfl rfl ?_
    refine s_getR (q := 12) (pc := 31) dX7_ringed_31 fl_X7_30 ly0 rfl ?_
    refine s_aload_n 0 (pc := 34) dX7_ringed_34 rfl rfl ?_
    refine s_getR (q := 12) (pc := 35) dX7_ringed_35 fl_X7_30 ly0 rfl ?_
    obtain ⟨r4, σ2, hk3, h⟩ := h
    refine s_callV (S := [.ref 12, .ref 2, .ref 39]) [] (pc := 38) dX7_ringed_38 mv_X1_all ml_X7_134 ⟨Nat.le_of_ble_eq_true rfl, Nat.le_of_ble_eq_true rfl⟩ rfl rfl ly12 rfl rfl (Nat.le_of_ble_eq_true rfl) hk3 ?_
    refine s_iload_n 1 (pc := 41) dX7_ringed_41 rfl rfl ?_
    refine s_iload_n 2 (pc := 42) dX7_ringed_42 rfl rfl ?_
    obtain ⟨σ5, hk6, h⟩ := h
    refine s_callV (S := []) [.ref 2, .ref 12, .int r4, .int x1, .int x2] (pc := 43) dX7_ringed_43 mv_X3_live ml_X7_138 ⟨Nat.le_of_ble_eq_true rfl, Nat.le_of_ble_eq_true rfl⟩ rfl rfl ly39 rfl rfl (Nat.le_of_ble_eq_true rfl) hk6 ?_
    refine s_aload_n 0 (pc := 46) dX7_ringed_46 rfl rfl ?_
    refine s_getR (q := 39) (pc := 47) dX7_ringed_47 fl_X7_54 ly0 rfl ?_
    obtain ⟨r9, σ7, hk8, h⟩ := h
    refine s_callV (S := []) [] (pc := 50) dX7_ringed_50 mv_X3_isClosed ml_X7_194 ⟨Nat.le_of_ble_eq_true rfl, Nat.le_of_ble_eq_true rfl⟩ rfl rfl ly39 rfl rfl (Nat.le_of_ble_eq_true rfl) hk8 ?_
    refine s_if_eq (pc := 53) (tgt := 58) dX7_ringed_53 rfl (fun q10 => ?_) (fun q10 => ?_)
    · replace h := h.1 q10
      refine s_iinc (v := x2 + 1) (L' := [(2, .int (x2 + 1)), (0, .ref 0), (1, .int x1)]) 2 (pc := 58) dX7_ringed_58 rfl rfl (Nat.le_of_ble_eq_true rfl) rfl ?_
      refine s_goto (pc := 61) (tgt := 16) dX7_ringed_61 rfl ?_
      exact s_sub (L' := [(0, .ref 0), (1, .int x1), (2, .int (x2 + 1))]) [1, 2, 0] rfl h
    · replace h := h.2 q10
      refine s_iload_n 2 (pc := 56) dX7_ringed_56 rfl rfl ?_
      exact s_ret (r := some (.int x2)) ⟨dX7_ringed_57, fun ty e => by cases e; rfl⟩ rfl h
set_option maxRecDepth 10000 in
set_option maxHeartbeats 4000000 in
theorem tX7_meets_0 {E : Ev} {x1 : Int32} {σ : Hp} {Φ : Option Value → Hp → Prop}  (h : ∃ (r3 : Int32) (σ1 : Hp), Call E mX7_isWithin [.int x1, .int 0, .int 2] σ (some (.int r3)) σ1 ∧ ((¬ r3 = 0 → Ru E mX7_meets 14 [(0, .ref 0), (1, .int x1), (2, .int 0)] [] σ1 Φ) ∧ (r3 = 0 → Φ (some (.int (-2))) σ1))) : Ru E mX7_meets 0 [(0, .ref 0), (1, .int x1)] [] σ Φ := by
  refine s_iload_n 1 (pc := 0) dX7_meets_0 rfl rfl ?_
  refine s_iconst (v := 0) (pc := 1) dX7_meets_1 rfl ?_
  refine s_iconst (v := 2) (pc := 2) dX7_meets_2 rfl ?_
  obtain ⟨r3, σ1, hk2, h⟩ := h
  refine s_callS (S := []) [.int x1, .int 0, .int 2] (pc := 3) dX7_meets_3 ms_X7_isWithin ml_X7_72 ⟨Nat.le_of_ble_eq_true rfl, Nat.le_of_ble_eq_true rfl⟩ rfl rfl (Nat.le_of_ble_eq_true rfl) hk2 ?_
  refine s_if_ne (pc := 6) (tgt := 12) dX7_meets_6 rfl (fun q4 => ?_) (fun q4 => ?_)
  · replace h := h.1 q4
    refine s_iconst (v := 0) (pc := 12) dX7_meets_12 rfl ?_
    refine s_istore_n (L' := [(2, .int 0), (0, .ref 0), (1, .int x1)]) (pc := 13) dX7_meets_13 rfl (Nat.le_of_ble_eq_true rfl) rfl ?_
    exact s_sub (L' := [(0, .ref 0), (1, .int x1), (2, .int 0)]) [1, 2, 0] rfl h
  · replace h := h.2 q4
    refine s_bipush (v := (-2)) (pc := 9) dX7_meets_9 rfl ?_
    exact s_ret (r := some (.int (-2))) ⟨dX7_meets_11, fun ty e => by cases e; rfl⟩ rfl h
set_option maxRecDepth 10000 in
set_option maxHeartbeats 4000000 in
theorem tX7_meets_14 {E : Ev} {x1 : Int32} {x2 : Int32} {σ : Hp} {Φ : Option Value → Hp → Prop}  (h : ((20 ≤ x2 → Φ (some (.int (-1))) σ) ∧ (¬ 20 ≤ x2 → ∃ σ2 : Hp, Call E mX7_comeTo [.ref 0, .int x2] σ none σ2 ∧ Ru E mX7_meets 27 [(0, .ref 0), (1, .int x1), (2, .int x2), (3, .int 0)] [] σ2 Φ))) : Ru E mX7_meets 14 [(0, .ref 0), (1, .int x1), (2, .int x2)] [] σ Φ := by
  refine s_iload_n 2 (pc := 14) dX7_meets_14 rfl rfl ?_
  refine s_bipush (v := 20) (pc := 15) dX7_meets_15 rfl ?_
  refine s_icmp_ge (pc := 17) (tgt := 75) dX7_meets_17 rfl (fun q1 => ?_) (fun q1 => ?_)
  · replace h := h.1 q1
    refine s_iconst (v := (-1)) (pc := 75) dX7_meets_75 rfl ?_
    exact s_ret (r := some (.int (-1))) ⟨dX7_meets_76, fun ty e => by cases e; rfl⟩ rfl h
  · replace h := h.2 q1
    refine s_aload_n 0 (pc := 20) dX7_meets_20 rfl rfl ?_
    refine s_iload_n 2 (pc := 21) dX7_meets_21 rfl rfl ?_
    obtain ⟨σ2, hk3, h⟩ := h
    refine s_callV (S := []) [.int x2] (pc := 22) dX7_meets_22 mv_X7_comeTo ml_X7_167 ⟨Nat.le_of_ble_eq_true rfl, Nat.le_of_ble_eq_true rfl⟩ rfl rfl ly0 rfl rfl (Nat.le_of_ble_eq_true rfl) hk3 ?_
    refine s_iconst (v := 0) (pc := 25) dX7_meets_25 rfl ?_
    refine s_istore_n (L' := [(3, .int 0), (0, .ref 0), (1, .int x1), (2, .int x2)]) (pc := 26) dX7_meets_26 rfl (Nat.le_of_ble_eq_true rfl) rfl ?_
    exact s_sub (L' := [(0, .ref 0), (1, .int x1), (2, .int x2), (3, .int 0)]) [1, 2, 3, 0] rfl h
set_option maxRecDepth 10000 in
set_option maxHeartbeats 4000000 in
theorem tX7_meets_27 {E : Ev} {x1 : Int32} {x2 : Int32} {x3 : Int32} {σ : Hp} {Φ : Option Value → Hp → Prop}  (h : (((σ 29 1) ≤ x3 → Ru E mX7_meets 14 [(0, .ref 0), (1, .int x1), (2, .int (x2 + 1))] [] σ Φ) ∧ (¬ (σ 29 1) ≤ x3 → ∃ (r4 : Int32) (σ2 : Hp), Call E mX6_firstMetBy [.ref 29, .int x3] σ (some (.int r4)) σ2 ∧ ((r4 = (-1) → Ru E mX7_meets 27 [(0, .ref 0), (1, .int x1), (2, .int x2), (3, .int (x3 + 1))] [] σ2 Φ) ∧ (¬ r4 = (-1) → ∃ (r8 : Int32) (σ6 : Hp), Call E mX7_pick [.int x1, .int x2, .int x3, .int r4] σ2 (some (.int r8)) σ6 ∧ Φ (some (.int r8)) σ6))))) : Ru E mX7_meets 27 [(0, .ref 0), (1, .int x1), (2, .int x2), (3, .int x3)] [] σ Φ := by
  refine s_iload_n 3 (pc := 27) dX7_meets_27 rfl rfl ?_
  refine s_aload_n 0 (pc := 28) dX7_meets_28 rfl rfl ?_
  refine s_getR (q := 29) (pc := 29) dX7_meets_29 fl_X7_47 ly0 rfl ?_
  refine s_getI (v := σ 29 1) (pc := 32) dX7_meets_32 fl_X7_188 ly29 rfl rfl ?_
  refine s_icmp_ge (pc := 35) (tgt := 69) dX7_meets_35 rfl (fun q1 => ?_) (fun q1 => ?_)
  · replace h := h.1 q1
    refine s_iinc (v := x2 + 1) (L' := [(2, .int (x2 + 1)), (0, .ref 0), (1, .int x1), (3, .int x3)]) 2 (pc := 69) dX7_meets_69 rfl rfl (Nat.le_of_ble_eq_true rfl) rfl ?_
    refine s_goto (pc := 72) (tgt := 14) dX7_meets_72 rfl ?_
    exact s_sub (L' := [(0, .ref 0), (1, .int x1), (2, .int (x2 + 1))]) [1, 2, 0] rfl h
  · replace h := h.2 q1
    refine s_aload_n 0 (pc := 38) dX7_meets_38 rfl rfl ?_
    refine s_getR (q := 29) (pc := 39) dX7_meets_39 fl_X7_47 ly0 rfl ?_
    refine s_iload_n 3 (pc := 42) dX7_meets_42 rfl rfl ?_
    obtain ⟨r4, σ2, hk3, h⟩ := h
    refine s_callV (S := []) [.int x3] (pc := 43) dX7_meets_43 mv_X6_firstMetBy ml_X7_197 ⟨Nat.le_of_ble_eq_true rfl, Nat.le_of_ble_eq_true rfl⟩ rfl rfl ly29 rfl rfl (Nat.le_of_ble_eq_true rfl) hk3 ?_
    refine s_istore (L' := [(4, .int r4), (0, .ref 0), (1, .int x1), (2, .int x2), (3, .int x3)]) (pc := 46) dX7_meets_46 (Nat.le_of_ble_eq_true rfl) rfl ?_
    refine s_iload 0 (pc := 48) dX7_meets_48 rfl ?_
    refine s_iconst (v := (-1)) (pc := 50) dX7_meets_50 rfl ?_
    refine s_icmp_eq (pc := 51) (tgt := 63) dX7_meets_51 rfl (fun q5 => ?_) (fun q5 => ?_)
    · replace h := h.1 q5
      refine s_iinc (v := x3 + 1) (L' := [(3, .int (x3 + 1)), (4, .int r4), (0, .ref 0), (1, .int x1), (2, .int x2)]) 4 (pc := 63) dX7_meets_63 rfl rfl (Nat.le_of_ble_eq_true rfl) rfl ?_
      refine s_goto (pc := 66) (tgt := 27) dX7_meets_66 rfl ?_
      exact s_sub (L' := [(0, .ref 0), (1, .int x1), (2, .int x2), (3, .int (x3 + 1))]) [2, 3, 4, 0] rfl h
    · replace h := h.2 q5
      refine s_iload_n 2 (pc := 54) dX7_meets_54 rfl rfl ?_
      refine s_iload_n 3 (pc := 55) dX7_meets_55 rfl rfl ?_
      refine s_iload_n 4 (pc := 56) dX7_meets_56 rfl rfl ?_
      refine s_iload 0 (pc := 57) dX7_meets_57 rfl ?_
      obtain ⟨r8, σ6, hk7, h⟩ := h
      refine s_callS (S := []) [.int x1, .int x2, .int x3, .int r4] (pc := 59) dX7_meets_59 ms_X7_pick ml_X7_200 ⟨Nat.le_of_ble_eq_true rfl, Nat.le_of_ble_eq_true rfl⟩ rfl rfl (Nat.le_of_ble_eq_true rfl) hk7 ?_
      exact s_ret (r := some (.int r8)) ⟨dX7_meets_62, fun ty e => by cases e; rfl⟩ rfl h
set_option maxRecDepth 10000 in
set_option maxHeartbeats 4000000 in
theorem tX7_open_0 {E : Ev} {x1 : Int32} {x2 : Int32} {x3 : Int32} {σ : Hp} {Φ : Option Value → Hp → Prop}  (h : ∃ (r3 : Int32) (σ1 : Hp), Call E mX0_has [.ref 2, .int x1] σ (some (.int r3)) σ1 ∧ ((r3 = 0 → Φ (some (.int (-2))) σ1) ∧ (¬ r3 = 0 → ∃ (r7 : Int32) (σ5 : Hp), Call E mX7_isDay [.int x2] σ1 (some (.int r7)) σ5 ∧ ((r7 = 0 → Φ (some (.int (-2))) σ5) ∧ (¬ r7 = 0 → ∃ (r11 : Int32) (σ9 : Hp), Call E mX7_isWithin [.int x3, .int 0, .int 1] σ5 (some (.int r11)) σ9 ∧ ((¬ r11 = 0 → ∃ σ13 : Hp, Call E mX7_comeTo [.ref 0, .int x2] σ9 none σ13 ∧ ∃ σ15 : Hp, Call E mX0_setTo [.ref 7, .ref 2] σ13 none σ15 ∧ Ru E mX7_open 56 [(0, .ref 0), (1, .int x1), (2, .int x2), (3, .int x3), (4, .int 0), (5, .int 8), (6, .int 0)] [] σ15 Φ) ∧ (r11 = 0 → Φ (some (.int (-2))) σ9))))))) : Ru E mX7_open 0 [(0, .ref 0), (1, .int x1), (2, .int x2), (3, .int x3)] [] σ Φ := by
  refine s_aload_n 0 (pc := 0) dX7_open_0 rfl rfl ?_
  refine s_getR (q := 2) (pc := 1) dX7_open_1 fl_X7_20 ly0 rfl ?_
  refine s_iload_n 1 (pc := 4) dX7_open_4 rfl rfl ?_
  obtain ⟨r3, σ1, hk2, h⟩ := h
  refine s_callV (S := []) [.int x1] (pc := 5) dX7_open_5 mv_X0_has ml_X7_82 ⟨Nat.le_of_ble_eq_true rfl, Nat.le_of_ble_eq_true rfl⟩ rfl rfl ly2 rfl rfl (Nat.le_of_ble_eq_true rfl) hk2 ?_
  refine s_if_eq (pc := 8) (tgt := 27) dX7_open_8 rfl (fun q4 => ?_) (fun q4 => ?_)
  · replace h := h.1 q4
    refine s_bipush (v := (-2)) (pc := 27) dX7_open_27 rfl ?_
    exact s_ret (r := some (.int (-2))) ⟨dX7_open_29, fun ty e => by cases e; rfl⟩ rfl h
  · replace h := h.2 q4
    refine s_iload_n 2 (pc := 11) dX7_open_11 rfl rfl ?_
    obtain ⟨r7, σ5, hk6, h⟩ := h
    refine s_callS (S := []) [.int x2] (pc := 12) dX7_open_12 ms_X7_isDay ml_X7_131 ⟨Nat.le_of_ble_eq_true rfl, Nat.le_of_ble_eq_true rfl⟩ rfl rfl (Nat.le_of_ble_eq_true rfl) hk6 ?_
    refine s_if_eq (pc := 15) (tgt := 27) dX7_open_15 rfl (fun q8 => ?_) (fun q8 => ?_)
    · replace h := h.1 q8
      refine s_bipush (v := (-2)) (pc := 27) dX7_open_27 rfl ?_
      exact s_ret (r := some (.int (-2))) ⟨dX7_open_29, fun ty e => by cases e; rfl⟩ rfl h
    · replace h := h.2 q8
      refine s_iload_n 3 (pc := 18) dX7_open_18 rfl rfl ?_
      refine s_iconst (v := 0) (pc := 19) dX7_open_19 rfl ?_
      refine s_iconst (v := 1) (pc := 20) dX7_open_20 rfl ?_
      obtain ⟨r11, σ9, hk10, h⟩ := h
      refine s_callS (S := []) [.int x3, .int 0, .int 1] (pc := 21) dX7_open_21 ms_X7_isWithin ml_X7_72 ⟨Nat.le_of_ble_eq_true rfl, Nat.le_of_ble_eq_true rfl⟩ rfl rfl (Nat.le_of_ble_eq_true rfl) hk10 ?_
      refine s_if_ne (pc := 24) (tgt := 30) dX7_open_24 rfl (fun q12 => ?_) (fun q12 => ?_)
      · replace h := h.1 q12
        refine s_aload_n 0 (pc := 30) dX7_open_30 rfl rfl ?_
        refine s_iload_n 2 (pc := 31) dX7_open_31 rfl rfl ?_
        obtain ⟨σ13, hk14, h⟩ := h
        refine s_callV (S := []) [.int x2] (pc := 32) dX7_open_32 mv_X7_comeTo ml_X7_167 ⟨Nat.le_of_ble_eq_true rfl, Nat.le_of_ble_eq_true rfl⟩ rfl rfl ly0 rfl rfl (Nat.le_of_ble_eq_true rfl) hk14 ?_
        refine s_aload_n 0 (pc := 35) dX7_open_35 rfl rfl ?_
        refine s_getR (q := 7) (pc := 36) dX7_open_36 fl_X7_24 ly0 rfl ?_
        refine s_aload_n 0 (pc := 39) dX7_open_39 rfl rfl ?_
        refine s_getR (q := 2) (pc := 40) dX7_open_40 fl_X7_20 ly0 rfl ?_
        obtain ⟨σ15, hk16, h⟩ := h
        refine s_callV (S := []) [.ref 2] (pc := 43) dX7_open_43 mv_X0_setTo ml_X7_204 ⟨Nat.le_of_ble_eq_true rfl, Nat.le_of_ble_eq_true rfl⟩ rfl rfl ly7 rfl rfl (Nat.le_of_ble_eq_true rfl) hk16 ?_
        refine s_iconst (v := 0) (pc := 46) dX7_open_46 rfl ?_
        refine s_istore (L' := [(4, .int 0), (0, .ref 0), (1, .int x1), (2, .int x2), (3, .int x3)]) (pc := 47) dX7_open_47 (Nat.le_of_ble_eq_true rfl) rfl ?_
        refine s_bipush (v := 8) (pc := 49) dX7_open_49 rfl ?_
        refine s_istore (L' := [(5, .int 8), (4, .int 0), (0, .ref 0), (1, .int x1), (2, .int x2), (3, .int x3)]) (pc := 51) dX7_open_51 (Nat.le_of_ble_eq_true rfl) rfl ?_
        refine s_iconst (v := 0) (pc := 53) dX7_open_53 rfl ?_
        refine s_istore (L' := [(6, .int 0), (5, .int 8), (4, .int 0), (0, .ref 0), (1, .int x1), (2, .int x2), (3, .int x3)]) (pc := 54) dX7_open_54 (Nat.le_of_ble_eq_true rfl) rfl ?_
        exact s_sub (L' := [(0, .ref 0), (1, .int x1), (2, .int x2), (3, .int x3), (4, .int 0), (5, .int 8), (6, .int 0)]) [3, 4, 5, 6, 2, 1, 0] rfl h
      · replace h := h.2 q12
        refine s_bipush (v := (-2)) (pc := 27) dX7_open_27 rfl ?_
        exact s_ret (r := some (.int (-2))) ⟨dX7_open_29, fun ty e => by cases e; rfl⟩ rfl h
set_option maxRecDepth 10000 in
set_option maxHeartbeats 4000000 in
theorem tX7_open_56 {E : Ev} {x1 : Int32} {x2 : Int32} {x3 : Int32} {x4 : Int32} {x5 : Int32} {x6 : Int32} {σ : Hp} {Φ : Option Value → Hp → Prop}  (h : ((10 ≤ x6 → ((¬ x3 = 0 → Φ (some (.int x5)) σ) ∧ (x3 = 0 → Φ (some (.int x4)) σ))) ∧ (¬ 10 ≤ x6 → vp_in x1 8 ∧ ∃ (r7 : Int32) (σ5 : Hp), Call E mX1_all [.ref 12] (up σ 10 ((x1).toNatClampNeg) x6) (some (.int r7)) σ5 ∧ ∃ σ8 : Hp, Call E mX3_live [.ref (31 + 1 * (x1).toNatClampNeg), .ref 7, .ref 12, .int r7, .int x1, .int x2] σ5 none σ8 ∧ ∃ (r12 : Int32) (σ10 : Hp), Call E mX6_othersWith [.ref 29, .int x1, .int 4] σ8 (some (.int r12)) σ10 ∧ ((x5 ≤ r12 → Ru E mX7_open 56 [(0, .ref 0), (1, .int x1), (2, .int x2), (3, .int x3), (4, .int x4), (5, .int x5), (6, .int (x6 + 1))] [] σ10 Φ) ∧ (¬ x5 ≤ r12 → Ru E mX7_open 56 [(0, .ref 0), (1, .int x1), (2, .int x2), (3, .int x3), (4, .int x6), (5, .int r12), (6, .int (x6 + 1))] [] σ10 Φ))))) : Ru E mX7_open 56 [(0, .ref 0), (1, .int x1), (2, .int x2), (3, .int x3), (4, .int x4), (5, .int x5), (6, .int x6)] [] σ Φ := by
  refine s_iload 6 (pc := 56) dX7_open_56 rfl ?_
  refine s_bipush (v := 10) (pc := 58) dX7_open_58 rfl ?_
  refine s_icmp_ge (pc := 60) (tgt := 135) dX7_open_60 rfl (fun q1 => ?_) (fun q1 => ?_)
  · replace h := h.1 q1
    refine s_iload_n 3 (pc := 135) dX7_open_135 rfl rfl ?_
    refine s_if_ne (pc := 136) (tgt := 144) dX7_open_136 rfl (fun q2 => ?_) (fun q2 => ?_)
    · replace h := h.1 q2
      refine s_iload 5 (pc := 144) dX7_open_144 rfl ?_
      exact s_ret (r := some (.int x5)) ⟨dX7_open_146, fun ty e => by cases e; rfl⟩ rfl h
    · replace h := h.2 q2
      refine s_iload 4 (pc := 139) dX7_open_139 rfl ?_
      refine s_goto (pc := 141) (tgt := 146) dX7_open_141 rfl ?_
      exact s_ret (r := some (.int x4)) ⟨dX7_open_146, fun ty e => by cases e; rfl⟩ rfl h
  · replace h := h.2 q1
    refine s_aload_n 0 (pc := 63) dX7_open_63 rfl rfl ?_
    refine s_getR (q := 7) (pc := 64) dX7_open_64 fl_X7_24 ly0 rfl ?_
    refine s_getR (q := 10) (pc := 67) dX7_open_67 fl_X7_92 ly7 rfl ?_
    refine s_iload_n 1 (pc := 70) dX7_open_70 rfl rfl ?_
    refine s_iload 6 (pc := 71) dX7_open_71 rfl ?_
    have hv3 := h.1
    replace h := h.2
    refine s_iast (pc := 73) dX7_open_73 ly10 hv3 ?_
    refine s_aload_n 0 (pc := 74) dX7_open_74 rfl rfl ?_
    refine s_getR (q := 29) (pc := 75) dX7_open_75 fl_X7_47 ly0 rfl ?_
    refine s_getR (q := 30) (pc := 78) dX7_open_78 fl_X7_171 ly29 rfl ?_
    refine s_iload_n 1 (pc := 81) dX7_open_81 rfl rfl ?_
    refine s_aaldR (pc := 82) dX7_open_82 ly30 hv3 ?_
    refine s_aload_n 0 (pc := 83) dX7_open_83 rfl rfl ?_
    refine s_getR (q := 7) (pc := 84) dX7_open_84 fl_X7_24 ly0 rfl ?_
    refine s_aload_n 0 (pc := 87) dX7_open_87 rfl rfl ?_
    refine s_getR (q := 12) (pc := 88) dX7_open_88 fl_X7_30 ly0 rfl ?_
    refine s_aload_n 0 (pc := 91) dX7_open_91 rfl rfl ?_
    refine s_getR (q := 12) (pc := 92) dX7_open_92 fl_X7_30 ly0 rfl ?_
    obtain ⟨r7, σ5, hk6, h⟩ := h
    refine s_callV (S := [.ref 12, .ref 7, .ref (31 + 1 * (x1).toNatClampNeg)]) [] (pc := 95) dX7_open_95 mv_X1_all ml_X7_134 ⟨Nat.le_of_ble_eq_true rfl, Nat.le_of_ble_eq_true rfl⟩ rfl rfl ly12 rfl rfl (Nat.le_of_ble_eq_true rfl) hk6 ?_
    refine s_iload_n 1 (pc := 98) dX7_open_98 rfl rfl ?_
    refine s_iload_n 2 (pc := 99) dX7_open_99 rfl rfl ?_
    obtain ⟨σ8, hk9, h⟩ := h
    refine s_callV (S := []) [.ref 7, .ref 12, .int r7, .int x1, .int x2] (pc := 100) dX7_open_100 mv_X3_live ml_X7_138 ⟨Nat.le_of_ble_eq_true rfl, Nat.le_of_ble_eq_true rfl⟩ rfl rfl (rgC hv3) rfl rfl (Nat.le_of_ble_eq_true rfl) hk9 ?_
    refine s_aload_n 0 (pc := 103) dX7_open_103 rfl rfl ?_
    refine s_getR (q := 29) (pc := 104) dX7_open_104 fl_X7_47 ly0 rfl ?_
    refine s_iload_n 1 (pc := 107) dX7_open_107 rfl rfl ?_
    refine s_iconst (v := 4) (pc := 108) dX7_open_108 rfl ?_
    obtain ⟨r12, σ10, hk11, h⟩ := h
    refine s_callV (S := []) [.int x1, .int 4] (pc := 109) dX7_open_109 mv_X6_othersWith ml_X7_208 ⟨Nat.le_of_ble_eq_true rfl, Nat.le_of_ble_eq_true rfl⟩ rfl rfl ly29 rfl rfl (Nat.le_of_ble_eq_true rfl) hk11 ?_
    refine s_istore (L' := [(7, .int r12), (0, .ref 0), (1, .int x1), (2, .int x2), (3, .int x3), (4, .int x4), (5, .int x5), (6, .int x6)]) (pc := 112) dX7_open_112 (Nat.le_of_ble_eq_true rfl) rfl ?_
    refine s_iload 0 (pc := 114) dX7_open_114 rfl ?_
    refine s_iload 6 (pc := 116) dX7_open_116 rfl ?_
    refine s_icmp_ge (pc := 118) (tgt := 129) dX7_open_118 rfl (fun q13 => ?_) (fun q13 => ?_)
    · replace h := h.1 q13
      refine s_iinc (v := x6 + 1) (L' := [(6, .int (x6 + 1)), (7, .int r12), (0, .ref 0), (1, .int x1), (2, .int x2), (3, .int x3), (4, .int x4), (5, .int x5)]) 7 (pc := 129) dX7_open_129 rfl rfl (Nat.le_of_ble_eq_true rfl) rfl ?_
      refine s_goto (pc := 132) (tgt := 56) dX7_open_132 rfl ?_
      exact s_sub (L' := [(0, .ref 0), (1, .int x1), (2, .int x2), (3, .int x3), (4, .int x4), (5, .int x5), (6, .int (x6 + 1))]) [2, 3, 4, 5, 6, 7, 0] rfl h
    · replace h := h.2 q13
      refine s_iload 0 (pc := 121) dX7_open_121 rfl ?_
      refine s_istore (L' := [(5, .int r12), (7, .int r12), (0, .ref 0), (1, .int x1), (2, .int x2), (3, .int x3), (4, .int x4), (6, .int x6)]) (pc := 123) dX7_open_123 (Nat.le_of_ble_eq_true rfl) rfl ?_
      refine s_iload 7 (pc := 125) dX7_open_125 rfl ?_
      refine s_istore (L' := [(4, .int x6), (5, .int r12), (7, .int r12), (0, .ref 0), (1, .int x1), (2, .int x2), (3, .int x3), (6, .int x6)]) (pc := 127) dX7_open_127 (Nat.le_of_ble_eq_true rfl) rfl ?_
      refine s_iinc (v := x6 + 1) (L' := [(6, .int (x6 + 1)), (4, .int x6), (5, .int r12), (7, .int r12), (0, .ref 0), (1, .int x1), (2, .int x2), (3, .int x3)]) 7 (pc := 129) dX7_open_129 rfl rfl (Nat.le_of_ble_eq_true rfl) rfl ?_
      refine s_goto (pc := 132) (tgt := 56) dX7_open_132 rfl ?_
      exact s_sub (L' := [(0, .ref 0), (1, .int x1), (2, .int x2), (3, .int x3), (4, .int x6), (5, .int r12), (6, .int (x6 + 1))]) [4, 5, 6, 7, 1, 2, 0] rfl h
set_option maxRecDepth 10000 in
set_option maxHeartbeats 4000000 in
theorem tX7_stand_0 {E : Ev} {x1 : Int32} {x2 : Int32} {x3 : Int32} {σ : Hp} {Φ : Option Value → Hp → Prop}  (h : ∃ (r3 : Int32) (σ1 : Hp), Call E mX0_has [.ref 2, .int x1] σ (some (.int r3)) σ1 ∧ ((r3 = 0 → Φ (some (.int (-2))) σ1) ∧ (¬ r3 = 0 → ∃ (r7 : Int32) (σ5 : Hp), Call E mX7_isDay [.int x2] σ1 (some (.int r7)) σ5 ∧ ((r7 = 0 → Φ (some (.int (-2))) σ5) ∧ (¬ r7 = 0 → ∃ (r11 : Int32) (σ9 : Hp), Call E mX7_isWithin [.int x3, .int 0, .int 2] σ5 (some (.int r11)) σ9 ∧ ((¬ r11 = 0 → ∃ σ13 : Hp, Call E mX7_comeTo [.ref 0, .int x2] σ9 none σ13 ∧ vp_in x1 8 ∧ Ru E mX7_stand 92 [(0, .ref 0), (1, .int x1), (2, .int x2), (3, .int x3), (4, .ref (31 + 1 * (x1).toNatClampNeg)), (5, .int ((σ13 (31 + 1 * (x1).toNatClampNeg) 0) - (σ13 3 ((x1).toNatClampNeg)))), (6, .int ((σ13 (31 + 1 * (x1).toNatClampNeg) 1) - (σ13 4 ((x1).toNatClampNeg)))), (7, .int 0), (8, .int 0), (9, .int (-1)), (10, .int 0)] [] σ13 Φ) ∧ (r11 = 0 → Φ (some (.int (-2))) σ9))))))) : Ru E mX7_stand 0 [(0, .ref 0), (1, .int x1), (2, .int x2), (3, .int x3)] [] σ Φ := by
  refine s_aload_n 0 (pc := 0) dX7_stand_0 rfl rfl ?_
  refine s_getR (q := 2) (pc := 1) dX7_stand_1 fl_X7_20 ly0 rfl ?_
  refine s_iload_n 1 (pc := 4) dX7_stand_4 rfl rfl ?_
  obtain ⟨r3, σ1, hk2, h⟩ := h
  refine s_callV (S := []) [.int x1] (pc := 5) dX7_stand_5 mv_X0_has ml_X7_82 ⟨Nat.le_of_ble_eq_true rfl, Nat.le_of_ble_eq_true rfl⟩ rfl rfl ly2 rfl rfl (Nat.le_of_ble_eq_true rfl) hk2 ?_
  refine s_if_eq (pc := 8) (tgt := 27) dX7_stand_8 rfl (fun q4 => ?_) (fun q4 => ?_)
  · replace h := h.1 q4
    refine s_bipush (v := (-2)) (pc := 27) dX7_stand_27 rfl ?_
    exact s_ret (r := some (.int (-2))) ⟨dX7_stand_29, fun ty e => by cases e; rfl⟩ rfl h
  · replace h := h.2 q4
    refine s_iload_n 2 (pc := 11) dX7_stand_11 rfl rfl ?_
    obtain ⟨r7, σ5, hk6, h⟩ := h
    refine s_callS (S := []) [.int x2] (pc := 12) dX7_stand_12 ms_X7_isDay ml_X7_131 ⟨Nat.le_of_ble_eq_true rfl, Nat.le_of_ble_eq_true rfl⟩ rfl rfl (Nat.le_of_ble_eq_true rfl) hk6 ?_
    refine s_if_eq (pc := 15) (tgt := 27) dX7_stand_15 rfl (fun q8 => ?_) (fun q8 => ?_)
    · replace h := h.1 q8
      refine s_bipush (v := (-2)) (pc := 27) dX7_stand_27 rfl ?_
      exact s_ret (r := some (.int (-2))) ⟨dX7_stand_29, fun ty e => by cases e; rfl⟩ rfl h
    · replace h := h.2 q8
      refine s_iload_n 3 (pc := 18) dX7_stand_18 rfl rfl ?_
      refine s_iconst (v := 0) (pc := 19) dX7_stand_19 rfl ?_
      refine s_iconst (v := 2) (pc := 20) dX7_stand_20 rfl ?_
      obtain ⟨r11, σ9, hk10, h⟩ := h
      refine s_callS (S := []) [.int x3, .int 0, .int 2] (pc := 21) dX7_stand_21 ms_X7_isWithin ml_X7_72 ⟨Nat.le_of_ble_eq_true rfl, Nat.le_of_ble_eq_true rfl⟩ rfl rfl (Nat.le_of_ble_eq_true rfl) hk10 ?_
      refine s_if_ne (pc := 24) (tgt := 30) dX7_stand_24 rfl (fun q12 => ?_) (fun q12 => ?_)
      · replace h := h.1 q12
        refine s_aload_n 0 (pc := 30) dX7_stand_30 rfl rfl ?_
        refine s_iload_n 2 (pc := 31) dX7_stand_31 rfl rfl ?_
        obtain ⟨σ13, hk14, h⟩ := h
        refine s_callV (S := []) [.int x2] (pc := 32) dX7_stand_32 mv_X7_comeTo ml_X7_167 ⟨Nat.le_of_ble_eq_true rfl, Nat.le_of_ble_eq_true rfl⟩ rfl rfl ly0 rfl rfl (Nat.le_of_ble_eq_true rfl) hk14 ?_
        refine s_aload_n 0 (pc := 35) dX7_stand_35 rfl rfl ?_
        refine s_getR (q := 29) (pc := 36) dX7_stand_36 fl_X7_47 ly0 rfl ?_
        refine s_getR (q := 30) (pc := 39) dX7_stand_39 fl_X7_171 ly29 rfl ?_
        refine s_iload_n 1 (pc := 42) dX7_stand_42 rfl rfl ?_
        have hv15 := h.1
        replace h := h.2
        refine s_aaldR (pc := 43) dX7_stand_43 ly30 hv15 ?_
        refine s_astore (L' := [(4, .ref (31 + 1 * (x1).toNatClampNeg)), (0, .ref 0), (1, .int x1), (2, .int x2), (3, .int x3)]) (pc := 44) dX7_stand_44 (Nat.le_of_ble_eq_true rfl) rfl ?_
        refine s_aload 0 (pc := 46) dX7_stand_46 rfl ?_
        refine s_getI (v := σ13 (31 + 1 * (x1).toNatClampNeg) 0) (pc := 48) dX7_stand_48 fl_X7_157 (rgC hv15) rfl rfl ?_
        refine s_aload_n 1 (pc := 51) dX7_stand_51 rfl rfl ?_
        refine s_getR (q := 2) (pc := 52) dX7_stand_52 fl_X7_20 ly0 rfl ?_
        refine s_getR (q := 3) (pc := 55) dX7_stand_55 fl_X7_86 ly2 rfl ?_
        refine s_iload_n 2 (pc := 58) dX7_stand_58 rfl rfl ?_
        refine s_iald (pc := 59) dX7_stand_59 ly3 hv15 ?_
        refine s_isub (pc := 60) dX7_stand_60 ?_
        refine s_istore (L' := [(5, .int ((σ13 (31 + 1 * (x1).toNatClampNeg) 0) - (σ13 3 ((x1).toNatClampNeg)))), (4, .ref (31 + 1 * (x1).toNatClampNeg)), (0, .ref 0), (1, .int x1), (2, .int x2), (3, .int x3)]) (pc := 61) dX7_stand_61 (Nat.le_of_ble_eq_true rfl) rfl ?_
        refine s_aload 1 (pc := 63) dX7_stand_63 rfl ?_
        refine s_getI (v := σ13 (31 + 1 * (x1).toNatClampNeg) 1) (pc := 65) dX7_stand_65 fl_X7_159 (rgC hv15) rfl rfl ?_
        refine s_aload_n 2 (pc := 68) dX7_stand_68 rfl rfl ?_
        refine s_getR (q := 2) (pc := 69) dX7_stand_69 fl_X7_20 ly0 rfl ?_
        refine s_getR (q := 4) (pc := 72) dX7_stand_72 fl_X7_89 ly2 rfl ?_
        refine s_iload_n 3 (pc := 75) dX7_stand_75 rfl rfl ?_
        refine s_iald (pc := 76) dX7_stand_76 ly4 hv15 ?_
        refine s_isub (pc := 77) dX7_stand_77 ?_
        refine s_istore (L' := [(6, .int ((σ13 (31 + 1 * (x1).toNatClampNeg) 1) - (σ13 4 ((x1).toNatClampNeg)))), (5, .int ((σ13 (31 + 1 * (x1).toNatClampNeg) 0) - (σ13 3 ((x1).toNatClampNeg)))), (4, .ref (31 + 1 * (x1).toNatClampNeg)), (0, .ref 0), (1, .int x1), (2, .int x2), (3, .int x3)]) (pc := 78) dX7_stand_78 (Nat.le_of_ble_eq_true rfl) rfl ?_
        refine s_iconst (v := 0) (pc := 80) dX7_stand_80 rfl ?_
        refine s_istore (L' := [(7, .int 0), (6, .int ((σ13 (31 + 1 * (x1).toNatClampNeg) 1) - (σ13 4 ((x1).toNatClampNeg)))), (5, .int ((σ13 (31 + 1 * (x1).toNatClampNeg) 0) - (σ13 3 ((x1).toNatClampNeg)))), (4, .ref (31 + 1 * (x1).toNatClampNeg)), (0, .ref 0), (1, .int x1), (2, .int x2), (3, .int x3)]) (pc := 81) dX7_stand_81 (Nat.le_of_ble_eq_true rfl) rfl ?_
        refine s_iconst (v := 0) (pc := 83) dX7_stand_83 rfl ?_
        refine s_istore (L' := [(8, .int 0), (7, .int 0), (6, .int ((σ13 (31 + 1 * (x1).toNatClampNeg) 1) - (σ13 4 ((x1).toNatClampNeg)))), (5, .int ((σ13 (31 + 1 * (x1).toNatClampNeg) 0) - (σ13 3 ((x1).toNatClampNeg)))), (4, .ref (31 + 1 * (x1).toNatClampNeg)), (0, .ref 0), (1, .int x1), (2, .int x2), (3, .int x3)]) (pc := 84) dX7_stand_84 (Nat.le_of_ble_eq_true rfl) rfl ?_
        refine s_iconst (v := (-1)) (pc := 86) dX7_stand_86 rfl ?_
        refine s_istore (L' := [(9, .int (-1)), (8, .int 0), (7, .int 0), (6, .int ((σ13 (31 + 1 * (x1).toNatClampNeg) 1) - (σ13 4 ((x1).toNatClampNeg)))), (5, .int ((σ13 (31 + 1 * (x1).toNatClampNeg) 0) - (σ13 3 ((x1).toNatClampNeg)))), (4, .ref (31 + 1 * (x1).toNatClampNeg)), (0, .ref 0), (1, .int x1), (2, .int x2), (3, .int x3)]) (pc := 87) dX7_stand_87 (Nat.le_of_ble_eq_true rfl) rfl ?_
        refine s_iconst (v := 0) (pc := 89) dX7_stand_89 rfl ?_
        refine s_istore (L' := [(10, .int 0), (9, .int (-1)), (8, .int 0), (7, .int 0), (6, .int ((σ13 (31 + 1 * (x1).toNatClampNeg) 1) - (σ13 4 ((x1).toNatClampNeg)))), (5, .int ((σ13 (31 + 1 * (x1).toNatClampNeg) 0) - (σ13 3 ((x1).toNatClampNeg)))), (4, .ref (31 + 1 * (x1).toNatClampNeg)), (0, .ref 0), (1, .int x1), (2, .int x2), (3, .int x3)]) (pc := 90) dX7_stand_90 (Nat.le_of_ble_eq_true rfl) rfl ?_
        exact s_sub (L' := [(0, .ref 0), (1, .int x1), (2, .int x2), (3, .int x3), (4, .ref (31 + 1 * (x1).toNatClampNeg)), (5, .int ((σ13 (31 + 1 * (x1).toNatClampNeg) 0) - (σ13 3 ((x1).toNatClampNeg)))), (6, .int ((σ13 (31 + 1 * (x1).toNatClampNeg) 1) - (σ13 4 ((x1).toNatClampNeg)))), (7, .int 0), (8, .int 0), (9, .int (-1)), (10, .int 0)]) [7, 8, 9, 10, 6, 5, 4, 3, 2, 1, 0] rfl h
      · replace h := h.2 q12
        refine s_bipush (v := (-2)) (pc := 27) dX7_stand_27 rfl ?_
        exact s_ret (r := some (.int (-2))) ⟨dX7_stand_29, fun ty e => by cases e; rfl⟩ rfl h
set_option maxRecDepth 10000 in
set_option maxHeartbeats 4000000 in
theorem tX7_stand_92 {E : Ev} {x1 : Int32} {x2 : Int32} {x3 : Int32} {c4 : Nat} {x5 : Int32} {x6 : Int32} {x7 : Int32} {x8 : Int32} {x9 : Int32} {x10 : Int32} {σ : Hp} {Φ : Option Value → Hp → Prop} (hc4 : IsRing c4) (h : ((100 ≤ x10 → ∃ (r4 : Int32) (σ2 : Hp), Call E mX7_pick [.int x3, .int x7, .int x8, .int x9] σ (some (.int r4)) σ2 ∧ Φ (some (.int r4)) σ2) ∧ (¬ 100 ≤ x10 → ∃ (r7 : Int32) (σ5 : Hp), Call E mX6_othersWith [.ref 29, .int x1, .int 10] (up (up σ c4 0 ((x10 / 10) + x5)) c4 1 ((x10 - x10 / 10 * 10) + x6)) (some (.int r7)) σ5 ∧ ((r7 ≤ x9 → Ru E mX7_stand 92 [(0, .ref 0), (1, .int x1), (2, .int x2), (3, .int x3), (4, .ref c4), (5, .int x5), (6, .int x6), (7, .int x7), (8, .int x8), (9, .int x9), (10, .int (x10 + 1))] [] σ5 Φ) ∧ (¬ r7 ≤ x9 → Ru E mX7_stand 92 [(0, .ref 0), (1, .int x1), (2, .int x2), (3, .int x3), (4, .ref c4), (5, .int x5), (6, .int x6), (7, .int (x10 / 10)), (8, .int (x10 - x10 / 10 * 10)), (9, .int r7), (10, .int (x10 + 1))] [] σ5 Φ))))) : Ru E mX7_stand 92 [(0, .ref 0), (1, .int x1), (2, .int x2), (3, .int x3), (4, .ref c4), (5, .int x5), (6, .int x6), (7, .int x7), (8, .int x8), (9, .int x9), (10, .int x10)] [] σ Φ := by
  refine s_iload 10 (pc := 92) dX7_stand_92 rfl ?_
  refine s_bipush (v := 100) (pc := 94) dX7_stand_94 rfl ?_
  refine s_icmp_ge (pc := 96) (tgt := 168) dX7_stand_96 rfl (fun q1 => ?_) (fun q1 => ?_)
  · replace h := h.1 q1
    refine s_iload_n 3 (pc := 168) dX7_stand_168 rfl rfl ?_
    refine s_iload 7 (pc := 169) dX7_stand_169 rfl ?_
    refine s_iload 8 (pc := 171) dX7_stand_171 rfl ?_
    refine s_iload 9 (pc := 173) dX7_stand_173 rfl ?_
    obtain ⟨r4, σ2, hk3, h⟩ := h
    refine s_callS (S := []) [.int x3, .int x7, .int x8, .int x9] (pc := 175) dX7_stand_175 ms_X7_pick ml_X7_200 ⟨Nat.le_of_ble_eq_true rfl, Nat.le_of_ble_eq_true rfl⟩ rfl rfl (Nat.le_of_ble_eq_true rfl) hk3 ?_
    exact s_ret (r := some (.int r4)) ⟨dX7_stand_178, fun ty e => by cases e; rfl⟩ rfl h
  · replace h := h.2 q1
    refine s_aload 4 (pc := 99) dX7_stand_99 rfl ?_
    refine s_iload 10 (pc := 101) dX7_stand_101 rfl ?_
    refine s_bipush (v := 10) (pc := 103) dX7_stand_103 rfl ?_
    refine s_idiv (pc := 105) dX7_stand_105 (by decide) ?_
    refine s_iload 5 (pc := 106) dX7_stand_106 rfl ?_
    refine s_iadd (pc := 108) dX7_stand_108 ?_
    refine s_put (ty := .int) (pc := 109) dX7_stand_109 fp_X7_157 hc4 rfl rfl rfl ?_
    refine s_aload 4 (pc := 112) dX7_stand_112 rfl ?_
    refine s_iload 10 (pc := 114) dX7_stand_114 rfl ?_
    refine s_bipush (v := 10) (pc := 116) dX7_stand_116 rfl ?_
    refine s_irem (pc := 118) dX7_stand_118 (by decide) ?_
    refine s_iload 6 (pc := 119) dX7_stand_119 rfl ?_
    refine s_iadd (pc := 121) dX7_stand_121 ?_
    refine s_put (ty := .int) (pc := 122) dX7_stand_122 fp_X7_159 hc4 rfl rfl rfl ?_
    refine s_aload_n 0 (pc := 125) dX7_stand_125 rfl rfl ?_
    refine s_getR (q := 29) (pc := 126) dX7_stand_126 fl_X7_47 ly0 rfl ?_
    refine s_iload_n 1 (pc := 129) dX7_stand_129 rfl rfl ?_
    refine s_bipush (v := 10) (pc := 130) dX7_stand_130 rfl ?_
    obtain ⟨r7, σ5, hk6, h⟩ := h
    refine s_callV (S := []) [.int x1, .int 10] (pc := 132) dX7_stand_132 mv_X6_othersWith ml_X7_208 ⟨Nat.le_of_ble_eq_true rfl, Nat.le_of_ble_eq_true rfl⟩ rfl rfl ly29 rfl rfl (Nat.le_of_ble_eq_true rfl) hk6 ?_
    refine s_istore (L' := [(11, .int r7), (0, .ref 0), (1, .int x1), (2, .int x2), (3, .int x3), (4, .ref c4), (5, .int x5), (6, .int x6), (7, .int x7), (8, .int x8), (9, .int x9), (10, .int x10)]) (pc := 135) dX7_stand_135 (Nat.le_of_ble_eq_true rfl) rfl ?_
    refine s_iload 0 (pc := 137) dX7_stand_137 rfl ?_
    refine s_iload 10 (pc := 139) dX7_stand_139 rfl ?_
    refine s_icmp_le (pc := 141) (tgt := 162) dX7_stand_141 rfl (fun q8 => ?_) (fun q8 => ?_)
    · replace h := h.1 q8
      refine s_iinc (v := x10 + 1) (L' := [(10, .int (x10 + 1)), (11, .int r7), (0, .ref 0), (1, .int x1), (2, .int x2), (3, .int x3), (4, .ref c4), (5, .int x5), (6, .int x6), (7, .int x7), (8, .int x8), (9, .int x9)]) 11 (pc := 162) dX7_stand_162 rfl rfl (Nat.le_of_ble_eq_true rfl) rfl ?_
      refine s_goto (pc := 165) (tgt := 92) dX7_stand_165 rfl ?_
      exact s_sub (L' := [(0, .ref 0), (1, .int x1), (2, .int x2), (3, .int x3), (4, .ref c4), (5, .int x5), (6, .int x6), (7, .int x7), (8, .int x8), (9, .int x9), (10, .int (x10 + 1))]) [2, 3, 4, 5, 6, 7, 8, 9, 10, 11, 0] rfl h
    · replace h := h.2 q8
      refine s_iload 0 (pc := 144) dX7_stand_144 rfl ?_
      refine s_istore (L' := [(9, .int r7), (11, .int r7), (0, .ref 0), (1, .int x1), (2, .int x2), (3, .int x3), (4, .ref c4), (5, .int x5), (6, .int x6), (7, .int x7), (8, .int x8), (10, .int x10)]) (pc := 146) dX7_stand_146 (Nat.le_of_ble_eq_true rfl) rfl ?_
      refine s_iload 11 (pc := 148) dX7_stand_148 rfl ?_
      refine s_bipush (v := 10) (pc := 150) dX7_stand_150 rfl ?_
      refine s_idiv (pc := 152) dX7_stand_152 (by decide) ?_
      refine s_istore (L' := [(7, .int (x10 / 10)), (9, .int r7), (11, .int r7), (0, .ref 0), (1, .int x1), (2, .int x2), (3, .int x3), (4, .ref c4), (5, .int x5), (6, .int x6), (8, .int x8), (10, .int x10)]) (pc := 153) dX7_stand_153 (Nat.le_of_ble_eq_true rfl) rfl ?_
      refine s_iload 11 (pc := 155) dX7_stand_155 rfl ?_
      refine s_bipush (v := 10) (pc := 157) dX7_stand_157 rfl ?_
      refine s_irem (pc := 159) dX7_stand_159 (by decide) ?_
      refine s_istore (L' := [(8, .int (x10 - x10 / 10 * 10)), (7, .int (x10 / 10)), (9, .int r7), (11, .int r7), (0, .ref 0), (1, .int x1), (2, .int x2), (3, .int x3), (4, .ref c4), (5, .int x5), (6, .int x6), (10, .int x10)]) (pc := 160) dX7_stand_160 (Nat.le_of_ble_eq_true rfl) rfl ?_
      refine s_iinc (v := x10 + 1) (L' := [(10, .int (x10 + 1)), (8, .int (x10 - x10 / 10 * 10)), (7, .int (x10 / 10)), (9, .int r7), (11, .int r7), (0, .ref 0), (1, .int x1), (2, .int x2), (3, .int x3), (4, .ref c4), (5, .int x5), (6, .int x6)]) 11 (pc := 162) dX7_stand_162 rfl rfl (Nat.le_of_ble_eq_true rfl) rfl ?_
      refine s_goto (pc := 165) (tgt := 92) dX7_stand_165 rfl ?_
      exact s_sub (L' := [(0, .ref 0), (1, .int x1), (2, .int x2), (3, .int x3), (4, .ref c4), (5, .int x5), (6, .int x6), (7, .int (x10 / 10)), (8, .int (x10 - x10 / 10 * 10)), (9, .int r7), (10, .int (x10 + 1))]) [5, 6, 7, 8, 9, 10, 11, 2, 1, 3, 0] rfl h
set_option maxRecDepth 10000 in
set_option maxHeartbeats 4000000 in
theorem tX7_swap_0 {E : Ev} {x1 : Int32} {σ : Hp} {Φ : Option Value → Hp → Prop}  (h : ∃ (r3 : Int32) (σ1 : Hp), Call E mX7_isWithin [.int x1, .int 0, .int 2] σ (some (.int r3)) σ1 ∧ ((¬ r3 = 0 → ((2 ≤ (σ1 2 4) → ∃ σ6 : Hp, Call E mX0_setTo [.ref 7, .ref 2] σ1 none σ6 ∧ Ru E mX7_swap 47 [(0, .ref 0), (1, .int x1), (2, .int 0), (3, .int 1), (4, .int 64), (5, .int 0)] [] σ6 Φ) ∧ (¬ 2 ≤ (σ1 2 4) → Φ (some (.int (-1))) σ1))) ∧ (r3 = 0 → Φ (some (.int (-2))) σ1))) : Ru E mX7_swap 0 [(0, .ref 0), (1, .int x1)] [] σ Φ := by
  refine s_iload_n 1 (pc := 0) dX7_swap_0 rfl rfl ?_
  refine s_iconst (v := 0) (pc := 1) dX7_swap_1 rfl ?_
  refine s_iconst (v := 2) (pc := 2) dX7_swap_2 rfl ?_
  obtain ⟨r3, σ1, hk2, h⟩ := h
  refine s_callS (S := []) [.int x1, .int 0, .int 2] (pc := 3) dX7_swap_3 ms_X7_isWithin ml_X7_72 ⟨Nat.le_of_ble_eq_true rfl, Nat.le_of_ble_eq_true rfl⟩ rfl rfl (Nat.le_of_ble_eq_true rfl) hk2 ?_
  refine s_if_ne (pc := 6) (tgt := 12) dX7_swap_6 rfl (fun q4 => ?_) (fun q4 => ?_)
  · replace h := h.1 q4
    refine s_aload_n 0 (pc := 12) dX7_swap_12 rfl rfl ?_
    refine s_getR (q := 2) (pc := 13) dX7_swap_13 fl_X7_20 ly0 rfl ?_
    refine s_getI (v := σ1 2 4) (pc := 16) dX7_swap_16 fl_X7_212 ly2 rfl rfl ?_
    refine s_iconst (v := 2) (pc := 19) dX7_swap_19 rfl ?_
    refine s_icmp_ge (pc := 20) (tgt := 25) dX7_swap_20 rfl (fun q5 => ?_) (fun q5 => ?_)
    · replace h := h.1 q5
      refine s_aload_n 0 (pc := 25) dX7_swap_25 rfl rfl ?_
      refine s_getR (q := 7) (pc := 26) dX7_swap_26 fl_X7_24 ly0 rfl ?_
      refine s_aload_n 0 (pc := 29) dX7_swap_29 rfl rfl ?_
      refine s_getR (q := 2) (pc := 30) dX7_swap_30 fl_X7_20 ly0 rfl ?_
      obtain ⟨σ6, hk7, h⟩ := h
      refine s_callV (S := []) [.ref 2] (pc := 33) dX7_swap_33 mv_X0_setTo ml_X7_204 ⟨Nat.le_of_ble_eq_true rfl, Nat.le_of_ble_eq_true rfl⟩ rfl rfl ly7 rfl rfl (Nat.le_of_ble_eq_true rfl) hk7 ?_
      refine s_iconst (v := 0) (pc := 36) dX7_swap_36 rfl ?_
      refine s_istore_n (L' := [(2, .int 0), (0, .ref 0), (1, .int x1)]) (pc := 37) dX7_swap_37 rfl (Nat.le_of_ble_eq_true rfl) rfl ?_
      refine s_iconst (v := 1) (pc := 38) dX7_swap_38 rfl ?_
      refine s_istore_n (L' := [(3, .int 1), (2, .int 0), (0, .ref 0), (1, .int x1)]) (pc := 39) dX7_swap_39 rfl (Nat.le_of_ble_eq_true rfl) rfl ?_
      refine s_bipush (v := 64) (pc := 40) dX7_swap_40 rfl ?_
      refine s_istore (L' := [(4, .int 64), (3, .int 1), (2, .int 0), (0, .ref 0), (1, .int x1)]) (pc := 42) dX7_swap_42 (Nat.le_of_ble_eq_true rfl) rfl ?_
      refine s_iconst (v := 0) (pc := 44) dX7_swap_44 rfl ?_
      refine s_istore (L' := [(5, .int 0), (4, .int 64), (3, .int 1), (2, .int 0), (0, .ref 0), (1, .int x1)]) (pc := 45) dX7_swap_45 (Nat.le_of_ble_eq_true rfl) rfl ?_
      exact s_sub (L' := [(0, .ref 0), (1, .int x1), (2, .int 0), (3, .int 1), (4, .int 64), (5, .int 0)]) [4, 5, 3, 2, 1, 0] rfl h
    · replace h := h.2 q5
      refine s_iconst (v := (-1)) (pc := 23) dX7_swap_23 rfl ?_
      exact s_ret (r := some (.int (-1))) ⟨dX7_swap_24, fun ty e => by cases e; rfl⟩ rfl h
  · replace h := h.2 q4
    refine s_bipush (v := (-2)) (pc := 9) dX7_swap_9 rfl ?_
    exact s_ret (r := some (.int (-2))) ⟨dX7_swap_11, fun ty e => by cases e; rfl⟩ rfl h
set_option maxRecDepth 10000 in
set_option maxHeartbeats 4000000 in
theorem tX7_swap_47 {E : Ev} {x1 : Int32} {x2 : Int32} {x3 : Int32} {x4 : Int32} {x5 : Int32} {σ : Hp} {Φ : Option Value → Hp → Prop}  (h : (((σ 2 4) ≤ x5 → ∃ (r4 : Int32) (σ2 : Hp), Call E mX7_pick [.int x1, .int x2, .int x3, .int x4] σ (some (.int r4)) σ2 ∧ Φ (some (.int r4)) σ2) ∧ (¬ (σ 2 4) ≤ x5 → Ru E mX7_swap 65 [(0, .ref 0), (1, .int x1), (2, .int x2), (3, .int x3), (4, .int x4), (5, .int x5), (6, .int (x5 + 1))] [] σ Φ))) : Ru E mX7_swap 47 [(0, .ref 0), (1, .int x1), (2, .int x2), (3, .int x3), (4, .int x4), (5, .int x5)] [] σ Φ := by
  refine s_iload 5 (pc := 47) dX7_swap_47 rfl ?_
  refine s_aload_n 0 (pc := 49) dX7_swap_49 rfl rfl ?_
  refine s_getR (q := 2) (pc := 50) dX7_swap_50 fl_X7_20 ly0 rfl ?_
  refine s_getI (v := σ 2 4) (pc := 53) dX7_swap_53 fl_X7_212 ly2 rfl rfl ?_
  refine s_icmp_ge (pc := 56) (tgt := 116) dX7_swap_56 rfl (fun q1 => ?_) (fun q1 => ?_)
  · replace h := h.1 q1
    refine s_iload_n 1 (pc := 116) dX7_swap_116 rfl rfl ?_
    refine s_iload_n 2 (pc := 117) dX7_swap_117 rfl rfl ?_
    refine s_iload_n 3 (pc := 118) dX7_swap_118 rfl rfl ?_
    refine s_iload 4 (pc := 119) dX7_swap_119 rfl ?_
    obtain ⟨r4, σ2, hk3, h⟩ := h
    refine s_callS (S := []) [.int x1, .int x2, .int x3, .int x4] (pc := 121) dX7_swap_121 ms_X7_pick ml_X7_200 ⟨Nat.le_of_ble_eq_true rfl, Nat.le_of_ble_eq_true rfl⟩ rfl rfl (Nat.le_of_ble_eq_true rfl) hk3 ?_
    exact s_ret (r := some (.int r4)) ⟨dX7_swap_124, fun ty e => by cases e; rfl⟩ rfl h
  · replace h := h.2 q1
    refine s_iload 5 (pc := 59) dX7_swap_59 rfl ?_
    refine s_iconst (v := 1) (pc := 61) dX7_swap_61 rfl ?_
    refine s_iadd (pc := 62) dX7_swap_62 ?_
    refine s_istore (L' := [(6, .int (x5 + 1)), (0, .ref 0), (1, .int x1), (2, .int x2), (3, .int x3), (4, .int x4), (5, .int x5)]) (pc := 63) dX7_swap_63 (Nat.le_of_ble_eq_true rfl) rfl ?_
    exact s_sub (L' := [(0, .ref 0), (1, .int x1), (2, .int x2), (3, .int x3), (4, .int x4), (5, .int x5), (6, .int (x5 + 1))]) [1, 2, 3, 4, 5, 6, 0] rfl h
set_option maxRecDepth 10000 in
set_option maxHeartbeats 4000000 in
theorem tX7_swap_65 {E : Ev} {x1 : Int32} {x2 : Int32} {x3 : Int32} {x4 : Int32} {x5 : Int32} {x6 : Int32} {σ : Hp} {Φ : Option Value → Hp → Prop}  (h : (((σ 2 4) ≤ x6 → Ru E mX7_swap 47 [(0, .ref 0), (1, .int x1), (2, .int x2), (3, .int x3), (4, .int x4), (5, .int (x5 + 1))] [] σ Φ) ∧ (¬ (σ 2 4) ≤ x6 → ∃ (r4 : Int32) (σ2 : Hp), Call E mX7_talkedOnceSwapped [.ref 0, .int x5, .int x6] σ (some (.int r4)) σ2 ∧ ((x4 ≤ r4 → Ru E mX7_swap 65 [(0, .ref 0), (1, .int x1), (2, .int x2), (3, .int x3), (4, .int x4), (5, .int x5), (6, .int (x6 + 1))] [] σ2 Φ) ∧ (¬ x4 ≤ r4 → Ru E mX7_swap 65 [(0, .ref 0), (1, .int x1), (2, .int x5), (3, .int x6), (4, .int r4), (5, .int x5), (6, .int (x6 + 1))] [] σ2 Φ))))) : Ru E mX7_swap 65 [(0, .ref 0), (1, .int x1), (2, .int x2), (3, .int x3), (4, .int x4), (5, .int x5), (6, .int x6)] [] σ Φ := by
  refine s_iload 6 (pc := 65) dX7_swap_65 rfl ?_
  refine s_aload_n 0 (pc := 67) dX7_swap_67 rfl rfl ?_
  refine s_getR (q := 2) (pc := 68) dX7_swap_68 fl_X7_20 ly0 rfl ?_
  refine s_getI (v := σ 2 4) (pc := 71) dX7_swap_71 fl_X7_212 ly2 rfl rfl ?_
  refine s_icmp_ge (pc := 74) (tgt := 110) dX7_swap_74 rfl (fun q1 => ?_) (fun q1 => ?_)
  · replace h := h.1 q1
    refine s_iinc (v := x5 + 1) (L' := [(5, .int (x5 + 1)), (0, .ref 0), (1, .int x1), (2, .int x2), (3, .int x3), (4, .int x4), (6, .int x6)]) 5 (pc := 110) dX7_swap_110 rfl rfl (Nat.le_of_ble_eq_true rfl) rfl ?_
    refine s_goto (pc := 113) (tgt := 47) dX7_swap_113 rfl ?_
    exact s_sub (L' := [(0, .ref 0), (1, .int x1), (2, .int x2), (3, .int x3), (4, .int x4), (5, .int (x5 + 1))]) [1, 2, 3, 4, 5, 0] rfl h
  · replace h := h.2 q1
    refine s_aload_n 0 (pc := 77) dX7_swap_77 rfl rfl ?_
    refine s_iload 5 (pc := 78) dX7_swap_78 rfl ?_
    refine s_iload 6 (pc := 80) dX7_swap_80 rfl ?_
    obtain ⟨r4, σ2, hk3, h⟩ := h
    refine s_callV (S := []) [.int x5, .int x6] (pc := 82) dX7_swap_82 mv_X7_talkedOnceSwapped ml_X7_213 ⟨Nat.le_of_ble_eq_true rfl, Nat.le_of_ble_eq_true rfl⟩ rfl rfl ly0 rfl rfl (Nat.le_of_ble_eq_true rfl) hk3 ?_
    refine s_istore (L' := [(7, .int r4), (0, .ref 0), (1, .int x1), (2, .int x2), (3, .int x3), (4, .int x4), (5, .int x5), (6, .int x6)]) (pc := 85) dX7_swap_85 (Nat.le_of_ble_eq_true rfl) rfl ?_
    refine s_iload 0 (pc := 87) dX7_swap_87 rfl ?_
    refine s_iload 5 (pc := 89) dX7_swap_89 rfl ?_
    refine s_icmp_ge (pc := 91) (tgt := 104) dX7_swap_91 rfl (fun q5 => ?_) (fun q5 => ?_)
    · replace h := h.1 q5
      refine s_iinc (v := x6 + 1) (L' := [(6, .int (x6 + 1)), (7, .int r4), (0, .ref 0), (1, .int x1), (2, .int x2), (3, .int x3), (4, .int x4), (5, .int x5)]) 7 (pc := 104) dX7_swap_104 rfl rfl (Nat.le_of_ble_eq_true rfl) rfl ?_
      refine s_goto (pc := 107) (tgt := 65) dX7_swap_107 rfl ?_
      exact s_sub (L' := [(0, .ref 0), (1, .int x1), (2, .int x2), (3, .int x3), (4, .int x4), (5, .int x5), (6, .int (x6 + 1))]) [2, 3, 4, 5, 6, 7, 0] rfl h
    · replace h := h.2 q5
      refine s_iload 0 (pc := 94) dX7_swap_94 rfl ?_
      refine s_istore (L' := [(4, .int r4), (7, .int r4), (0, .ref 0), (1, .int x1), (2, .int x2), (3, .int x3), (5, .int x5), (6, .int x6)]) (pc := 96) dX7_swap_96 (Nat.le_of_ble_eq_true rfl) rfl ?_
      refine s_iload 6 (pc := 98) dX7_swap_98 rfl ?_
      refine s_istore_n (L' := [(2, .int x5), (4, .int r4), (7, .int r4), (0, .ref 0), (1, .int x1), (3, .int x3), (5, .int x5), (6, .int x6)]) (pc := 100) dX7_swap_100 rfl (Nat.le_of_ble_eq_true rfl) rfl ?_
      refine s_iload 7 (pc := 101) dX7_swap_101 rfl ?_
      refine s_istore_n (L' := [(3, .int x6), (2, .int x5), (4, .int r4), (7, .int r4), (0, .ref 0), (1, .int x1), (5, .int x5), (6, .int x6)]) (pc := 103) dX7_swap_103 rfl (Nat.le_of_ble_eq_true rfl) rfl ?_
      refine s_iinc (v := x6 + 1) (L' := [(6, .int (x6 + 1)), (3, .int x6), (2, .int x5), (4, .int r4), (7, .int r4), (0, .ref 0), (1, .int x1), (5, .int x5)]) 7 (pc := 104) dX7_swap_104 rfl rfl (Nat.le_of_ble_eq_true rfl) rfl ?_
      refine s_goto (pc := 107) (tgt := 65) dX7_swap_107 rfl ?_
      exact s_sub (L' := [(0, .ref 0), (1, .int x1), (2, .int x5), (3, .int x6), (4, .int r4), (5, .int x5), (6, .int (x6 + 1))]) [5, 6, 2, 1, 3, 7, 0] rfl h
set_option maxRecDepth 10000 in
set_option maxHeartbeats 4000000 in
theorem tX7_drop_0 {E : Ev} {x1 : Int32} {σ : Hp} {Φ : Option Value → Hp → Prop}  (h : ∃ (r3 : Int32) (σ1 : Hp), Call E mX7_isWithin [.int x1, .int (-1), .int 1] σ (some (.int r3)) σ1 ∧ ((¬ r3 = 0 → ∃ (r7 : Int32) (σ5 : Hp), Call E mX7_fewestToDrop [.ref 0] σ1 (some (.int r7)) σ5 ∧ ((¬ r7 = (-1) → ((¬ x1 = (-1) → ∃ (r12 : Int32) (σ10 : Hp), Call E mX7_bitOf [.int r7, .int x1] σ5 (some (.int r12)) σ10 ∧ Φ (some (.int r12)) σ10) ∧ (x1 = (-1) → ∃ (r15 : Int32) (σ13 : Hp), Call E mJ6_bitCount_0f7a4 [.int r7] σ5 (some (.int r15)) σ13 ∧ Φ (some (.int r15)) σ13))) ∧ (r7 = (-1) → Φ (some (.int (-1))) σ5))) ∧ (r3 = 0 → Φ (some (.int (-2))) σ1))) : Ru E mX7_drop 0 [(0, .ref 0), (1, .int x1)] [] σ Φ := by
  refine s_iload_n 1 (pc := 0) dX7_drop_0 rfl rfl ?_
  refine s_iconst (v := (-1)) (pc := 1) dX7_drop_1 rfl ?_
  refine s_iconst (v := 1) (pc := 2) dX7_drop_2 rfl ?_
  obtain ⟨r3, σ1, hk2, h⟩ := h
  refine s_callS (S := []) [.int x1, .int (-1), .int 1] (pc := 3) dX7_drop_3 ms_X7_isWithin ml_X7_72 ⟨Nat.le_of_ble_eq_true rfl, Nat.le_of_ble_eq_true rfl⟩ rfl rfl (Nat.le_of_ble_eq_true rfl) hk2 ?_
  refine s_if_ne (pc := 6) (tgt := 12) dX7_drop_6 rfl (fun q4 => ?_) (fun q4 => ?_)
  · replace h := h.1 q4
    refine s_aload_n 0 (pc := 12) dX7_drop_12 rfl rfl ?_
    obtain ⟨r7, σ5, hk6, h⟩ := h
    refine s_callV (S := []) [] (pc := 13) dX7_drop_13 mv_X7_fewestToDrop ml_X7_216 ⟨Nat.le_of_ble_eq_true rfl, Nat.le_of_ble_eq_true rfl⟩ rfl rfl ly0 rfl rfl (Nat.le_of_ble_eq_true rfl) hk6 ?_
    refine s_istore_n (L' := [(2, .int r7), (0, .ref 0), (1, .int x1)]) (pc := 16) dX7_drop_16 rfl (Nat.le_of_ble_eq_true rfl) rfl ?_
    refine s_iload_n 0 (pc := 17) dX7_drop_17 rfl rfl ?_
    refine s_iconst (v := (-1)) (pc := 18) dX7_drop_18 rfl ?_
    refine s_icmp_ne (pc := 19) (tgt := 24) dX7_drop_19 rfl (fun q8 => ?_) (fun q8 => ?_)
    · replace h := h.1 q8
      refine s_iload_n 2 (pc := 24) dX7_drop_24 rfl rfl ?_
      refine s_iconst (v := (-1)) (pc := 25) dX7_drop_25 rfl ?_
      refine s_icmp_ne (pc := 26) (tgt := 36) dX7_drop_26 rfl (fun q9 => ?_) (fun q9 => ?_)
      · replace h := h.1 q9
        refine s_iload_n 0 (pc := 36) dX7_drop_36 rfl rfl ?_
        refine s_iload_n 2 (pc := 37) dX7_drop_37 rfl rfl ?_
        obtain ⟨r12, σ10, hk11, h⟩ := h
        refine s_callS (S := []) [.int r7, .int x1] (pc := 38) dX7_drop_38 ms_X7_bitOf ml_X7_224 ⟨Nat.le_of_ble_eq_true rfl, Nat.le_of_ble_eq_true rfl⟩ rfl rfl (Nat.le_of_ble_eq_true rfl) hk11 ?_
        exact s_ret (r := some (.int r12)) ⟨dX7_drop_41, fun ty e => by cases e; rfl⟩ rfl h
      · replace h := h.2 q9
        refine s_iload_n 0 (pc := 29) dX7_drop_29 rfl rfl ?_
        obtain ⟨r15, σ13, hk14, h⟩ := h
        refine s_callS (S := []) [.int r7] (pc := 30) dX7_drop_30 ms_J6_bitCount_0f7a4 ml_X7_219 ⟨Nat.le_of_ble_eq_true rfl, Nat.le_of_ble_eq_true rfl⟩ rfl rfl (Nat.le_of_ble_eq_true rfl) hk14 ?_
        refine s_goto (pc := 33) (tgt := 41) dX7_drop_33 rfl ?_
        exact s_ret (r := some (.int r15)) ⟨dX7_drop_41, fun ty e => by cases e; rfl⟩ rfl h
    · replace h := h.2 q8
      refine s_iconst (v := (-1)) (pc := 22) dX7_drop_22 rfl ?_
      exact s_ret (r := some (.int (-1))) ⟨dX7_drop_23, fun ty e => by cases e; rfl⟩ rfl h
  · replace h := h.2 q4
    refine s_bipush (v := (-2)) (pc := 9) dX7_drop_9 rfl ?_
    exact s_ret (r := some (.int (-2))) ⟨dX7_drop_11, fun ty e => by cases e; rfl⟩ rfl h
set_option maxRecDepth 10000 in
set_option maxHeartbeats 4000000 in
theorem tX7_seen_0 {E : Ev} {x1 : Int32} {x2 : Int32} {x3 : Int32} {x4 : Int32} {σ : Hp} {Φ : Option Value → Hp → Prop}  (h : ∃ (r3 : Int32) (σ1 : Hp), Call E mX7_isDay [.int x1] σ (some (.int r3)) σ1 ∧ ((r3 = 0 → Ru E mX7_seen 22 [(0, .ref 0), (1, .int x1), (2, .int x2), (3, .int x3), (4, .int x4)] [.int 0] σ1 Φ) ∧ (¬ r3 = 0 → ∃ (r7 : Int32) (σ5 : Hp), Call E mX7_isWithin [.int x2, .int 0, .int 7] σ1 (some (.int r7)) σ5 ∧ ((r7 = 0 → Ru E mX7_seen 22 [(0, .ref 0), (1, .int x1), (2, .int x2), (3, .int x3), (4, .int x4)] [.int 0] σ5 Φ) ∧ (¬ r7 = 0 → Ru E mX7_seen 22 [(0, .ref 0), (1, .int x1), (2, .int x2), (3, .int x3), (4, .int x4)] [.int 1] σ5 Φ))))) : Ru E mX7_seen 0 [(0, .ref 0), (1, .int x1), (2, .int x2), (3, .int x3), (4, .int x4)] [] σ Φ := by
  refine s_iload_n 1 (pc := 0) dX7_seen_0 rfl rfl ?_
  obtain ⟨r3, σ1, hk2, h⟩ := h
  refine s_callS (S := []) [.int x1] (pc := 1) dX7_seen_1 ms_X7_isDay ml_X7_131 ⟨Nat.le_of_ble_eq_true rfl, Nat.le_of_ble_eq_true rfl⟩ rfl rfl (Nat.le_of_ble_eq_true rfl) hk2 ?_
  refine s_if_eq (pc := 4) (tgt := 21) dX7_seen_4 rfl (fun q4 => ?_) (fun q4 => ?_)
  · replace h := h.1 q4
    refine s_iconst (v := 0) (pc := 21) dX7_seen_21 rfl ?_
    exact s_sub (L' := [(0, .ref 0), (1, .int x1), (2, .int x2), (3, .int x3), (4, .int x4)]) [0, 1, 2, 3, 4] rfl h
  · replace h := h.2 q4
    refine s_iload_n 2 (pc := 7) dX7_seen_7 rfl rfl ?_
    refine s_iconst (v := 0) (pc := 8) dX7_seen_8 rfl ?_
    refine s_bipush (v := 7) (pc := 9) dX7_seen_9 rfl ?_
    obtain ⟨r7, σ5, hk6, h⟩ := h
    refine s_callS (S := []) [.int x2, .int 0, .int 7] (pc := 11) dX7_seen_11 ms_X7_isWithin ml_X7_72 ⟨Nat.le_of_ble_eq_true rfl, Nat.le_of_ble_eq_true rfl⟩ rfl rfl (Nat.le_of_ble_eq_true rfl) hk6 ?_
    refine s_if_eq (pc := 14) (tgt := 21) dX7_seen_14 rfl (fun q8 => ?_) (fun q8 => ?_)
    · replace h := h.1 q8
      refine s_iconst (v := 0) (pc := 21) dX7_seen_21 rfl ?_
      exact s_sub (L' := [(0, .ref 0), (1, .int x1), (2, .int x2), (3, .int x3), (4, .int x4)]) [0, 1, 2, 3, 4] rfl h
    · replace h := h.2 q8
      refine s_iconst (v := 1) (pc := 17) dX7_seen_17 rfl ?_
      refine s_goto (pc := 18) (tgt := 22) dX7_seen_18 rfl ?_
      exact s_sub (L' := [(0, .ref 0), (1, .int x1), (2, .int x2), (3, .int x3), (4, .int x4)]) [0, 1, 2, 3, 4] rfl h
set_option maxRecDepth 10000 in
set_option maxHeartbeats 4000000 in
theorem tX7_seen_22 {E : Ev} {x1 : Int32} {x2 : Int32} {x3 : Int32} {x4 : Int32} {xs0 : Int32} {σ : Hp} {Φ : Option Value → Hp → Prop}  (h : ((xs0 = 0 → Φ (some (.int (-2))) σ) ∧ (¬ xs0 = 0 → ∃ (r4 : Int32) (σ2 : Hp), Call E mX7_isWithin [.int x3, .int (-99), .int 99] σ (some (.int r4)) σ2 ∧ ((r4 = 0 → Φ (some (.int (-2))) σ2) ∧ (¬ r4 = 0 → ∃ (r8 : Int32) (σ6 : Hp), Call E mX7_isWithin [.int x4, .int (-99), .int 99] σ2 (some (.int r8)) σ6 ∧ ((¬ r8 = 0 → ∃ (r12 : Int32) (σ10 : Hp), Call E mX5_isFull [.ref 24] σ6 (some (.int r12)) σ10 ∧ ((r12 = 0 → ∃ σ14 : Hp, Call E mX5_note [.ref 24, .int x1, .int x2, .int x3, .int x4] σ10 none σ14 ∧ Φ (some (.int (σ14 24 4))) σ14) ∧ (¬ r12 = 0 → Φ (some (.int (-4))) σ10))) ∧ (r8 = 0 → Φ (some (.int (-2))) σ6))))))) : Ru E mX7_seen 22 [(0, .ref 0), (1, .int x1), (2, .int x2), (3, .int x3), (4, .int x4)] [.int xs0] σ Φ := by
  refine s_istore (L' := [(5, .int xs0), (0, .ref 0), (1, .int x1), (2, .int x2), (3, .int x3), (4, .int x4)]) (pc := 22) dX7_seen_22 (Nat.le_of_ble_eq_true rfl) rfl ?_
  refine s_iload 0 (pc := 24) dX7_seen_24 rfl ?_
  refine s_if_eq (pc := 26) (tgt := 52) dX7_seen_26 rfl (fun q1 => ?_) (fun q1 => ?_)
  · replace h := h.1 q1
    refine s_bipush (v := (-2)) (pc := 52) dX7_seen_52 rfl ?_
    exact s_ret (r := some (.int (-2))) ⟨dX7_seen_54, fun ty e => by cases e; rfl⟩ rfl h
  · replace h := h.2 q1
    refine s_iload_n 4 (pc := 29) dX7_seen_29 rfl rfl ?_
    refine s_bipush (v := (-99)) (pc := 30) dX7_seen_30 rfl ?_
    refine s_bipush (v := 99) (pc := 32) dX7_seen_32 rfl ?_
    obtain ⟨r4, σ2, hk3, h⟩ := h
    refine s_callS (S := []) [.int x3, .int (-99), .int 99] (pc := 34) dX7_seen_34 ms_X7_isWithin ml_X7_72 ⟨Nat.le_of_ble_eq_true rfl, Nat.le_of_ble_eq_true rfl⟩ rfl rfl (Nat.le_of_ble_eq_true rfl) hk3 ?_
    refine s_if_eq (pc := 37) (tgt := 52) dX7_seen_37 rfl (fun q5 => ?_) (fun q5 => ?_)
    · replace h := h.1 q5
      refine s_bipush (v := (-2)) (pc := 52) dX7_seen_52 rfl ?_
      exact s_ret (r := some (.int (-2))) ⟨dX7_seen_54, fun ty e => by cases e; rfl⟩ rfl h
    · replace h := h.2 q5
      refine s_iload 5 (pc := 40) dX7_seen_40 rfl ?_
      refine s_bipush (v := (-99)) (pc := 42) dX7_seen_42 rfl ?_
      refine s_bipush (v := 99) (pc := 44) dX7_seen_44 rfl ?_
      obtain ⟨r8, σ6, hk7, h⟩ := h
      refine s_callS (S := []) [.int x4, .int (-99), .int 99] (pc := 46) dX7_seen_46 ms_X7_isWithin ml_X7_72 ⟨Nat.le_of_ble_eq_true rfl, Nat.le_of_ble_eq_true rfl⟩ rfl rfl (Nat.le_of_ble_eq_true rfl) hk7 ?_
      refine s_if_ne (pc := 49) (tgt := 55) dX7_seen_49 rfl (fun q9 => ?_) (fun q9 => ?_)
      · replace h := h.1 q9
        refine s_aload_n 1 (pc := 55) dX7_seen_55 rfl rfl ?_
        refine s_getR (q := 24) (pc := 56) dX7_seen_56 fl_X7_40 ly0 rfl ?_
        obtain ⟨r12, σ10, hk11, h⟩ := h
        refine s_callV (S := []) [] (pc := 59) dX7_seen_59 mv_X5_isFull ml_X7_227 ⟨Nat.le_of_ble_eq_true rfl, Nat.le_of_ble_eq_true rfl⟩ rfl rfl ly24 rfl rfl (Nat.le_of_ble_eq_true rfl) hk11 ?_
        refine s_if_eq (pc := 62) (tgt := 68) dX7_seen_62 rfl (fun q13 => ?_) (fun q13 => ?_)
        · replace h := h.1 q13
          refine s_aload_n 1 (pc := 68) dX7_seen_68 rfl rfl ?_
          refine s_getR (q := 24) (pc := 69) dX7_seen_69 fl_X7_40 ly0 rfl ?_
          refine s_iload_n 2 (pc := 72) dX7_seen_72 rfl rfl ?_
          refine s_iload_n 3 (pc := 73) dX7_seen_73 rfl rfl ?_
          refine s_iload_n 4 (pc := 74) dX7_seen_74 rfl rfl ?_
          refine s_iload 5 (pc := 75) dX7_seen_75 rfl ?_
          obtain ⟨σ14, hk15, h⟩ := h
          refine s_callV (S := []) [.int x1, .int x2, .int x3, .int x4] (pc := 77) dX7_seen_77 mv_X5_note ml_X7_228 ⟨Nat.le_of_ble_eq_true rfl, Nat.le_of_ble_eq_true rfl⟩ rfl rfl ly24 rfl rfl (Nat.le_of_ble_eq_true rfl) hk15 ?_
          refine s_aload_n 1 (pc := 80) dX7_seen_80 rfl rfl ?_
          refine s_getR (q := 24) (pc := 81) dX7_seen_81 fl_X7_40 ly0 rfl ?_
          refine s_getI (v := σ14 24 4) (pc := 84) dX7_seen_84 fl_X7_231 ly24 rfl rfl ?_
          exact s_ret (r := some (.int (σ14 24 4))) ⟨dX7_seen_87, fun ty e => by cases e; rfl⟩ rfl h
        · replace h := h.2 q13
          refine s_bipush (v := (-4)) (pc := 65) dX7_seen_65 rfl ?_
          exact s_ret (r := some (.int (-4))) ⟨dX7_seen_67, fun ty e => by cases e; rfl⟩ rfl h
      · replace h := h.2 q9
        refine s_bipush (v := (-2)) (pc := 52) dX7_seen_52 rfl ?_
        exact s_ret (r := some (.int (-2))) ⟨dX7_seen_54, fun ty e => by cases e; rfl⟩ rfl h
set_option maxRecDepth 10000 in
set_option maxHeartbeats 4000000 in
theorem tX7_forget_0 {E : Ev}  {σ : Hp} {Φ : Option Value → Hp → Prop}  (h : Φ (some (.int (σ 24 4))) (up σ 24 4 0)) : Ru E mX7_forget 0 [(0, .ref 0)] [] σ Φ := by
  refine s_aload_n 0 (pc := 0) dX7_forget_0 rfl rfl ?_
  refine s_getR (q := 24) (pc := 1) dX7_forget_1 fl_X7_40 ly0 rfl ?_
  refine s_getI (v := σ 24 4) (pc := 4) dX7_forget_4 fl_X7_231 ly24 rfl rfl ?_
  refine s_istore_n (L' := [(1, .int (σ 24 4)), (0, .ref 0)]) (pc := 7) dX7_forget_7 rfl (Nat.le_of_ble_eq_true rfl) rfl ?_
  refine s_aload_n 1 (pc := 8) dX7_forget_8 rfl rfl ?_
  refine s_getR (q := 24) (pc := 9) dX7_forget_9 fl_X7_40 ly0 rfl ?_
  refine s_iconst (v := 0) (pc := 12) dX7_forget_12 rfl ?_
  refine s_put (ty := .int) (pc := 13) dX7_forget_13 fp_X7_231 ly24 rfl rfl rfl ?_
  refine s_iload_n 0 (pc := 16) dX7_forget_16 rfl rfl ?_
  exact s_ret (r := some (.int (σ 24 4))) ⟨dX7_forget_17, fun ty e => by cases e; rfl⟩ rfl h
set_option maxRecDepth 10000 in
set_option maxHeartbeats 4000000 in
theorem tX7_never_0 {E : Ev}  {σ : Hp} {Φ : Option Value → Hp → Prop}  (h : Ru E mX7_never 4 [(0, .ref 0), (1, .int 0), (2, .int 0)] [] σ Φ) : Ru E mX7_never 0 [(0, .ref 0)] [] σ Φ := by
  refine s_iconst (v := 0) (pc := 0) dX7_never_0 rfl ?_
  refine s_istore_n (L' := [(1, .int 0), (0, .ref 0)]) (pc := 1) dX7_never_1 rfl (Nat.le_of_ble_eq_true rfl) rfl ?_
  refine s_iconst (v := 0) (pc := 2) dX7_never_2 rfl ?_
  refine s_istore_n (L' := [(2, .int 0), (1, .int 0), (0, .ref 0)]) (pc := 3) dX7_never_3 rfl (Nat.le_of_ble_eq_true rfl) rfl ?_
  exact s_sub (L' := [(0, .ref 0), (1, .int 0), (2, .int 0)]) [2, 1, 0] rfl h
set_option maxRecDepth 10000 in
set_option maxHeartbeats 4000000 in
theorem tX7_never_4 {E : Ev} {x1 : Int32} {x2 : Int32} {σ : Hp} {Φ : Option Value → Hp → Prop}  (h : (((σ 12 5) ≤ x2 → Φ (some (.int x1)) σ) ∧ (¬ (σ 12 5) ≤ x2 → ∃ (r4 : Int32) (σ2 : Hp), Call E mX1_all [.ref 12] σ (some (.int r4)) σ2 ∧ ∃ (r7 : Int32) (σ5 : Hp), Call E mX5_comeOut [.ref 24, .ref 2, .ref 12, .int (r4 &&& ((1 <<< (x2 &&& 31)) ^^^ (-1))), .ref 39] σ2 (some (.int r7)) σ5 ∧ ((r7 = 0 → Ru E mX7_never 4 [(0, .ref 0), (1, .int x1), (2, .int (x2 + 1))] [] σ5 Φ) ∧ (¬ r7 = 0 → Ru E mX7_never 4 [(0, .ref 0), (1, .int (x1 ||| (1 <<< (x2 &&& 31)))), (2, .int (x2 + 1))] [] σ5 Φ))))) : Ru E mX7_never 4 [(0, .ref 0), (1, .int x1), (2, .int x2)] [] σ Φ := by
  refine s_iload_n 2 (pc := 4) dX7_never_4 rfl rfl ?_
  refine s_aload_n 0 (pc := 5) dX7_never_5 rfl rfl ?_
  refine s_getR (q := 12) (pc := 6) dX7_never_6 fl_X7_30 ly0 rfl ?_
  refine s_getI (v := σ 12 5) (pc := 9) dX7_never_9 fl_X7_110 ly12 rfl rfl ?_
  refine s_icmp_ge (pc := 12) (tgt := 62) dX7_never_12 rfl (fun q1 => ?_) (fun q1 => ?_)
  · replace h := h.1 q1
    refine s_iload_n 1 (pc := 62) dX7_never_62 rfl rfl ?_
    exact s_ret (r := some (.int x1)) ⟨dX7_never_63, fun ty e => by cases e; rfl⟩ rfl h
  · replace h := h.2 q1
    refine s_aload_n 0 (pc := 15) dX7_never_15 rfl rfl ?_
    refine s_getR (q := 24) (pc := 16) dX7_never_16 fl_X7_40 ly0 rfl ?_
    refine s_aload_n 0 (pc := 19) dX7_never_19 rfl rfl ?_
    refine s_getR (q := 2) (pc := 20) dX7_never_20 fl_X7_20 ly0 rfl ?_
    refine s_aload_n 0 (pc := 23) dX7_never_23 rfl rfl ?_
    refine s_getR (q := 12) (pc := 24) dX7_never_24 fl_X7_30 ly0 rfl ?_
    refine s_aload_n 0 (pc := 27) dX7_never_27 rfl rfl ?_
    refine s_getR (q := 12) (pc := 28) dX7_never_28 fl_X7_30 ly0 rfl ?_
    obtain ⟨r4, σ2, hk3, h⟩ := h
    refine s_callV (S := [.ref 12, .ref 2, .ref 24]) [] (pc := 31) dX7_never_31 mv_X1_all ml_X7_134 ⟨Nat.le_of_ble_eq_true rfl, Nat.le_of_ble_eq_true rfl⟩ rfl rfl ly12 rfl rfl (Nat.le_of_ble_eq_true rfl) hk3 ?_
    refine s_iconst (v := 1) (pc := 34) dX7_never_34 rfl ?_
    refine s_iload_n 2 (pc := 35) dX7_never_35 rfl rfl ?_
    refine s_ishl (pc := 36) dX7_never_36 ?_
    refine s_iconst (v := (-1)) (pc := 37) dX7_never_37 rfl ?_
    refine s_ixor (pc := 38) dX7_never_38 ?_
    refine s_iand (pc := 39) dX7_never_39 ?_
    refine s_aload_n 0 (pc := 40) dX7_never_40 rfl rfl ?_
    refine s_getR (q := 39) (pc := 41) dX7_never_41 fl_X7_54 ly0 rfl ?_
    obtain ⟨r7, σ5, hk6, h⟩ := h
    refine s_callV (S := []) [.ref 2, .ref 12, .int (r4 &&& ((1 <<< (x2 &&& 31)) ^^^ (-1))), .ref 39] (pc := 44) dX7_never_44 mv_X5_comeOut ml_X7_232 ⟨Nat.le_of_ble_eq_true rfl, Nat.le_of_ble_eq_true rfl⟩ rfl rfl ly24 rfl rfl (Nat.le_of_ble_eq_true rfl) hk6 ?_
    refine s_if_eq (pc := 47) (tgt := 56) dX7_never_47 rfl (fun q8 => ?_) (fun q8 => ?_)
    · replace h := h.1 q8
      refine s_iinc (v := x2 + 1) (L' := [(2, .int (x2 + 1)), (0, .ref 0), (1, .int x1)]) 2 (pc := 56) dX7_never_56 rfl rfl (Nat.le_of_ble_eq_true rfl) rfl ?_
      refine s_goto (pc := 59) (tgt := 4) dX7_never_59 rfl ?_
      exact s_sub (L' := [(0, .ref 0), (1, .int x1), (2, .int (x2 + 1))]) [1, 2, 0] rfl h
    · replace h := h.2 q8
      refine s_iload_n 1 (pc := 50) dX7_never_50 rfl rfl ?_
      refine s_iconst (v := 1) (pc := 51) dX7_never_51 rfl ?_
      refine s_iload_n 2 (pc := 52) dX7_never_52 rfl rfl ?_
      refine s_ishl (pc := 53) dX7_never_53 ?_
      refine s_ior (pc := 54) dX7_never_54 ?_
      refine s_istore_n (L' := [(1, .int (x1 ||| (1 <<< (x2 &&& 31)))), (0, .ref 0), (2, .int x2)]) (pc := 55) dX7_never_55 rfl (Nat.le_of_ble_eq_true rfl) rfl ?_
      refine s_iinc (v := x2 + 1) (L' := [(2, .int (x2 + 1)), (1, .int (x1 ||| (1 <<< (x2 &&& 31)))), (0, .ref 0)]) 2 (pc := 56) dX7_never_56 rfl rfl (Nat.le_of_ble_eq_true rfl) rfl ?_
      refine s_goto (pc := 59) (tgt := 4) dX7_never_59 rfl ?_
      exact s_sub (L' := [(0, .ref 0), (1, .int (x1 ||| (1 <<< (x2 &&& 31)))), (2, .int (x2 + 1))]) [2, 1, 0] rfl h
set_option maxRecDepth 10000 in
set_option maxHeartbeats 4000000 in
theorem tX7_was_0 {E : Ev} {x1 : Int32} {x2 : Int32} {σ : Hp} {Φ : Option Value → Hp → Prop}  (h : ∃ (r3 : Int32) (σ1 : Hp), Call E mX0_has [.ref 2, .int x1] σ (some (.int r3)) σ1 ∧ ((r3 = 0 → Φ (some (.int (-2))) σ1) ∧ (¬ r3 = 0 → ∃ (r7 : Int32) (σ5 : Hp), Call E mX7_isWithin [.int x2, .int 0, .int 1] σ1 (some (.int r7)) σ5 ∧ ((¬ r7 = 0 → ((¬ x2 = 0 → ∃ (r12 : Int32) (σ10 : Hp), Call E mX7_valuesThatFit [.ref 0, .int x1, .ref 11, .int 3] σ5 (some (.int r12)) σ10 ∧ Φ (some (.int r12)) σ10) ∧ (x2 = 0 → ∃ (r15 : Int32) (σ13 : Hp), Call E mX7_valuesThatFit [.ref 0, .int x1, .ref 10, .int 10] σ5 (some (.int r15)) σ13 ∧ Φ (some (.int r15)) σ13))) ∧ (r7 = 0 → Φ (some (.int (-2))) σ5))))) : Ru E mX7_was 0 [(0, .ref 0), (1, .int x1), (2, .int x2)] [] σ Φ := by
  refine s_aload_n 0 (pc := 0) dX7_was_0 rfl rfl ?_
  refine s_getR (q := 2) (pc := 1) dX7_was_1 fl_X7_20 ly0 rfl ?_
  refine s_iload_n 1 (pc := 4) dX7_was_4 rfl rfl ?_
  obtain ⟨r3, σ1, hk2, h⟩ := h
  refine s_callV (S := []) [.int x1] (pc := 5) dX7_was_5 mv_X0_has ml_X7_82 ⟨Nat.le_of_ble_eq_true rfl, Nat.le_of_ble_eq_true rfl⟩ rfl rfl ly2 rfl rfl (Nat.le_of_ble_eq_true rfl) hk2 ?_
  refine s_if_eq (pc := 8) (tgt := 20) dX7_was_8 rfl (fun q4 => ?_) (fun q4 => ?_)
  · replace h := h.1 q4
    refine s_bipush (v := (-2)) (pc := 20) dX7_was_20 rfl ?_
    exact s_ret (r := some (.int (-2))) ⟨dX7_was_22, fun ty e => by cases e; rfl⟩ rfl h
  · replace h := h.2 q4
    refine s_iload_n 2 (pc := 11) dX7_was_11 rfl rfl ?_
    refine s_iconst (v := 0) (pc := 12) dX7_was_12 rfl ?_
    refine s_iconst (v := 1) (pc := 13) dX7_was_13 rfl ?_
    obtain ⟨r7, σ5, hk6, h⟩ := h
    refine s_callS (S := []) [.int x2, .int 0, .int 1] (pc := 14) dX7_was_14 ms_X7_isWithin ml_X7_72 ⟨Nat.le_of_ble_eq_true rfl, Nat.le_of_ble_eq_true rfl⟩ rfl rfl (Nat.le_of_ble_eq_true rfl) hk6 ?_
    refine s_if_ne (pc := 17) (tgt := 23) dX7_was_17 rfl (fun q8 => ?_) (fun q8 => ?_)
    · replace h := h.1 q8
      refine s_iload_n 2 (pc := 23) dX7_was_23 rfl rfl ?_
      refine s_if_ne (pc := 24) (tgt := 44) dX7_was_24 rfl (fun q9 => ?_) (fun q9 => ?_)
      · replace h := h.1 q9
        refine s_aload_n 0 (pc := 44) dX7_was_44 rfl rfl ?_
        refine s_iload_n 1 (pc := 45) dX7_was_45 rfl rfl ?_
        refine s_aload_n 0 (pc := 46) dX7_was_46 rfl rfl ?_
        refine s_getR (q := 7) (pc := 47) dX7_was_47 fl_X7_24 ly0 rfl ?_
        refine s_getR (q := 11) (pc := 50) dX7_was_50 fl_X7_95 ly7 rfl ?_
        refine s_iconst (v := 3) (pc := 53) dX7_was_53 rfl ?_
        obtain ⟨r12, σ10, hk11, h⟩ := h
        refine s_callV (S := []) [.int x1, .ref 11, .int 3] (pc := 54) dX7_was_54 mv_X7_valuesThatFit ml_X7_236 ⟨Nat.le_of_ble_eq_true rfl, Nat.le_of_ble_eq_true rfl⟩ rfl rfl ly0 rfl rfl (Nat.le_of_ble_eq_true rfl) hk11 ?_
        exact s_ret (r := some (.int r12)) ⟨dX7_was_57, fun ty e => by cases e; rfl⟩ rfl h
      · replace h := h.2 q9
        refine s_aload_n 0 (pc := 27) dX7_was_27 rfl rfl ?_
        refine s_iload_n 1 (pc := 28) dX7_was_28 rfl rfl ?_
        refine s_aload_n 0 (pc := 29) dX7_was_29 rfl rfl ?_
        refine s_getR (q := 7) (pc := 30) dX7_was_30 fl_X7_24 ly0 rfl ?_
        refine s_getR (q := 10) (pc := 33) dX7_was_33 fl_X7_92 ly7 rfl ?_
        refine s_bipush (v := 10) (pc := 36) dX7_was_36 rfl ?_
        obtain ⟨r15, σ13, hk14, h⟩ := h
        refine s_callV (S := []) [.int x1, .ref 10, .int 10] (pc := 38) dX7_was_38 mv_X7_valuesThatFit ml_X7_236 ⟨Nat.le_of_ble_eq_true rfl, Nat.le_of_ble_eq_true rfl⟩ rfl rfl ly0 rfl rfl (Nat.le_of_ble_eq_true rfl) hk14 ?_
        refine s_goto (pc := 41) (tgt := 57) dX7_was_41 rfl ?_
        exact s_ret (r := some (.int r15)) ⟨dX7_was_57, fun ty e => by cases e; rfl⟩ rfl h
    · replace h := h.2 q8
      refine s_bipush (v := (-2)) (pc := 20) dX7_was_20 rfl ?_
      exact s_ret (r := some (.int (-2))) ⟨dX7_was_22, fun ty e => by cases e; rfl⟩ rfl h
set_option maxRecDepth 10000 in
set_option maxHeartbeats 4000000 in
theorem tX7_ask_0 {E : Ev} {x1 : Int32} {σ : Hp} {Φ : Option Value → Hp → Prop}  (h : ∃ (r3 : Int32) (σ1 : Hp), Call E mX0_has [.ref 2, .int x1] σ (some (.int r3)) σ1 ∧ ((¬ r3 = 0 → ∃ (r7 : Int32) (σ5 : Hp), Call E mX7_valuesThatFit [.ref 0, .int x1, .ref 10, .int 10] σ1 (some (.int r7)) σ5 ∧ Ru E mX7_ask 38 [(0, .ref 0), (1, .int x1), (2, .int r7), (3, .int 0), (4, .int 11), (5, .int 0)] [] σ5 Φ) ∧ (r3 = 0 → Φ (some (.int (-2))) σ1))) : Ru E mX7_ask 0 [(0, .ref 0), (1, .int x1)] [] σ Φ := by
  refine s_aload_n 0 (pc := 0) dX7_ask_0 rfl rfl ?_
  refine s_getR (q := 2) (pc := 1) dX7_ask_1 fl_X7_20 ly0 rfl ?_
  refine s_iload_n 1 (pc := 4) dX7_ask_4 rfl rfl ?_
  obtain ⟨r3, σ1, hk2, h⟩ := h
  refine s_callV (S := []) [.int x1] (pc := 5) dX7_ask_5 mv_X0_has ml_X7_82 ⟨Nat.le_of_ble_eq_true rfl, Nat.le_of_ble_eq_true rfl⟩ rfl rfl ly2 rfl rfl (Nat.le_of_ble_eq_true rfl) hk2 ?_
  refine s_if_ne (pc := 8) (tgt := 14) dX7_ask_8 rfl (fun q4 => ?_) (fun q4 => ?_)
  · replace h := h.1 q4
    refine s_aload_n 0 (pc := 14) dX7_ask_14 rfl rfl ?_
    refine s_iload_n 1 (pc := 15) dX7_ask_15 rfl rfl ?_
    refine s_aload_n 0 (pc := 16) dX7_ask_16 rfl rfl ?_
    refine s_getR (q := 7) (pc := 17) dX7_ask_17 fl_X7_24 ly0 rfl ?_
    refine s_getR (q := 10) (pc := 20) dX7_ask_20 fl_X7_92 ly7 rfl ?_
    refine s_bipush (v := 10) (pc := 23) dX7_ask_23 rfl ?_
    obtain ⟨r7, σ5, hk6, h⟩ := h
    refine s_callV (S := []) [.int x1, .ref 10, .int 10] (pc := 25) dX7_ask_25 mv_X7_valuesThatFit ml_X7_236 ⟨Nat.le_of_ble_eq_true rfl, Nat.le_of_ble_eq_true rfl⟩ rfl rfl ly0 rfl rfl (Nat.le_of_ble_eq_true rfl) hk6 ?_
    refine s_istore_n (L' := [(2, .int r7), (0, .ref 0), (1, .int x1)]) (pc := 28) dX7_ask_28 rfl (Nat.le_of_ble_eq_true rfl) rfl ?_
    refine s_iconst (v := 0) (pc := 29) dX7_ask_29 rfl ?_
    refine s_istore_n (L' := [(3, .int 0), (2, .int r7), (0, .ref 0), (1, .int x1)]) (pc := 30) dX7_ask_30 rfl (Nat.le_of_ble_eq_true rfl) rfl ?_
    refine s_bipush (v := 11) (pc := 31) dX7_ask_31 rfl ?_
    refine s_istore (L' := [(4, .int 11), (3, .int 0), (2, .int r7), (0, .ref 0), (1, .int x1)]) (pc := 33) dX7_ask_33 (Nat.le_of_ble_eq_true rfl) rfl ?_
    refine s_iconst (v := 0) (pc := 35) dX7_ask_35 rfl ?_
    refine s_istore (L' := [(5, .int 0), (4, .int 11), (3, .int 0), (2, .int r7), (0, .ref 0), (1, .int x1)]) (pc := 36) dX7_ask_36 (Nat.le_of_ble_eq_true rfl) rfl ?_
    exact s_sub (L' := [(0, .ref 0), (1, .int x1), (2, .int r7), (3, .int 0), (4, .int 11), (5, .int 0)]) [4, 5, 3, 2, 1, 0] rfl h
  · replace h := h.2 q4
    refine s_bipush (v := (-2)) (pc := 11) dX7_ask_11 rfl ?_
    exact s_ret (r := some (.int (-2))) ⟨dX7_ask_13, fun ty e => by cases e; rfl⟩ rfl h
set_option maxRecDepth 10000 in
set_option maxHeartbeats 4000000 in
theorem tX7_ask_38 {E : Ev} {x1 : Int32} {x2 : Int32} {x3 : Int32} {x4 : Int32} {x5 : Int32} {σ : Hp} {Φ : Option Value → Hp → Prop}  (h : ((20 ≤ x5 → Φ (some (.int x3)) σ) ∧ (¬ 20 ≤ x5 → ∃ (r4 : Int32) (σ2 : Hp), Call E mX7_mostAlike [.ref 0, .int x1, .int x2, .int x5] σ (some (.int r4)) σ2 ∧ ((x4 ≤ r4 → Ru E mX7_ask 38 [(0, .ref 0), (1, .int x1), (2, .int x2), (3, .int x3), (4, .int x4), (5, .int (x5 + 1))] [] σ2 Φ) ∧ (¬ x4 ≤ r4 → Ru E mX7_ask 38 [(0, .ref 0), (1, .int x1), (2, .int x2), (3, .int x5), (4, .int r4), (5, .int (x5 + 1))] [] σ2 Φ))))) : Ru E mX7_ask 38 [(0, .ref 0), (1, .int x1), (2, .int x2), (3, .int x3), (4, .int x4), (5, .int x5)] [] σ Φ := by
  refine s_iload 5 (pc := 38) dX7_ask_38 rfl ?_
  refine s_bipush (v := 20) (pc := 40) dX7_ask_40 rfl ?_
  refine s_icmp_ge (pc := 42) (tgt := 75) dX7_ask_42 rfl (fun q1 => ?_) (fun q1 => ?_)
  · replace h := h.1 q1
    refine s_iload_n 3 (pc := 75) dX7_ask_75 rfl rfl ?_
    exact s_ret (r := some (.int x3)) ⟨dX7_ask_76, fun ty e => by cases e; rfl⟩ rfl h
  · replace h := h.2 q1
    refine s_aload_n 0 (pc := 45) dX7_ask_45 rfl rfl ?_
    refine s_iload_n 1 (pc := 46) dX7_ask_46 rfl rfl ?_
    refine s_iload_n 2 (pc := 47) dX7_ask_47 rfl rfl ?_
    refine s_iload 5 (pc := 48) dX7_ask_48 rfl ?_
    obtain ⟨r4, σ2, hk3, h⟩ := h
    refine s_callV (S := []) [.int x1, .int x2, .int x5] (pc := 50) dX7_ask_50 mv_X7_mostAlike ml_X7_240 ⟨Nat.le_of_ble_eq_true rfl, Nat.le_of_ble_eq_true rfl⟩ rfl rfl ly0 rfl rfl (Nat.le_of_ble_eq_true rfl) hk3 ?_
    refine s_istore (L' := [(6, .int r4), (0, .ref 0), (1, .int x1), (2, .int x2), (3, .int x3), (4, .int x4), (5, .int x5)]) (pc := 53) dX7_ask_53 (Nat.le_of_ble_eq_true rfl) rfl ?_
    refine s_iload 0 (pc := 55) dX7_ask_55 rfl ?_
    refine s_iload 5 (pc := 57) dX7_ask_57 rfl ?_
    refine s_icmp_ge (pc := 59) (tgt := 69) dX7_ask_59 rfl (fun q5 => ?_) (fun q5 => ?_)
    · replace h := h.1 q5
      refine s_iinc (v := x5 + 1) (L' := [(5, .int (x5 + 1)), (6, .int r4), (0, .ref 0), (1, .int x1), (2, .int x2), (3, .int x3), (4, .int x4)]) 6 (pc := 69) dX7_ask_69 rfl rfl (Nat.le_of_ble_eq_true rfl) rfl ?_
      refine s_goto (pc := 72) (tgt := 38) dX7_ask_72 rfl ?_
      exact s_sub (L' := [(0, .ref 0), (1, .int x1), (2, .int x2), (3, .int x3), (4, .int x4), (5, .int (x5 + 1))]) [2, 3, 4, 5, 6, 0] rfl h
    · replace h := h.2 q5
      refine s_iload 0 (pc := 62) dX7_ask_62 rfl ?_
      refine s_istore (L' := [(4, .int r4), (6, .int r4), (0, .ref 0), (1, .int x1), (2, .int x2), (3, .int x3), (5, .int x5)]) (pc := 64) dX7_ask_64 (Nat.le_of_ble_eq_true rfl) rfl ?_
      refine s_iload 6 (pc := 66) dX7_ask_66 rfl ?_
      refine s_istore_n (L' := [(3, .int x5), (4, .int r4), (6, .int r4), (0, .ref 0), (1, .int x1), (2, .int x2), (5, .int x5)]) (pc := 68) dX7_ask_68 rfl (Nat.le_of_ble_eq_true rfl) rfl ?_
      refine s_iinc (v := x5 + 1) (L' := [(5, .int (x5 + 1)), (3, .int x5), (4, .int r4), (6, .int r4), (0, .ref 0), (1, .int x1), (2, .int x2)]) 6 (pc := 69) dX7_ask_69 rfl rfl (Nat.le_of_ble_eq_true rfl) rfl ?_
      refine s_goto (pc := 72) (tgt := 38) dX7_ask_72 rfl ?_
      exact s_sub (L' := [(0, .ref 0), (1, .int x1), (2, .int x2), (3, .int x5), (4, .int r4), (5, .int (x5 + 1))]) [4, 5, 6, 1, 2, 0] rfl h
set_option maxRecDepth 10000 in
set_option maxHeartbeats 4000000 in
theorem tX7_gossip_0 {E : Ev} {x1 : Int32} {x2 : Int32} {x3 : Int32} {σ : Hp} {Φ : Option Value → Hp → Prop}  (h : ∃ (r3 : Int32) (σ1 : Hp), Call E mX7_isWithin [.int x1, .int 0, .int 16] σ (some (.int r3)) σ1 ∧ ((r3 = 0 → Φ (some (.long (-9223372036854775806))) σ1) ∧ (¬ r3 = 0 → ∃ (r7 : Int32) (σ5 : Hp), Call E mX7_isDay [.int x2] σ1 (some (.int r7)) σ5 ∧ ((r7 = 0 → Φ (some (.long (-9223372036854775806))) σ5) ∧ (¬ r7 = 0 → ∃ (r11 : Int32) (σ9 : Hp), Call E mX7_isWithin [.int x3, .int 0, .int 1] σ5 (some (.int r11)) σ9 ∧ ((¬ r11 = 0 → ∃ (r15 : Int64) (σ13 : Hp), Call E mX7_waysTalked [.ref 0, .int x1, .int x2] σ9 (some (.long r15)) σ13 ∧ Ru E mX7_gossip 58 [(0, .ref 0), (1, .int x1), (2, .int x2), (3, .int x3), (4, .int (4 * (σ9 12 5))), (5, .long r15), (7, .long (1 <<< ((Int32.toInt64 (4 * (σ9 12 5))) &&& 63))), (9, .int 0)] [] σ13 Φ) ∧ (r11 = 0 → Φ (some (.long (-9223372036854775806))) σ9))))))) : Ru E mX7_gossip 0 [(0, .ref 0), (1, .int x1), (2, .int x2), (3, .int x3)] [] σ Φ := by
  refine s_iload_n 1 (pc := 0) dX7_gossip_0 rfl rfl ?_
  refine s_iconst (v := 0) (pc := 1) dX7_gossip_1 rfl ?_
  refine s_bipush (v := 16) (pc := 2) dX7_gossip_2 rfl ?_
  obtain ⟨r3, σ1, hk2, h⟩ := h
  refine s_callS (S := []) [.int x1, .int 0, .int 16] (pc := 4) dX7_gossip_4 ms_X7_isWithin ml_X7_72 ⟨Nat.le_of_ble_eq_true rfl, Nat.le_of_ble_eq_true rfl⟩ rfl rfl (Nat.le_of_ble_eq_true rfl) hk2 ?_
  refine s_if_eq (pc := 7) (tgt := 26) dX7_gossip_7 rfl (fun q4 => ?_) (fun q4 => ?_)
  · replace h := h.1 q4
    refine s_ldc2 (v := (-9223372036854775806)) (pc := 26) dX7_gossip_26 ct_X7_244 ?_
    exact s_ret (r := some (.long (-9223372036854775806))) dX7_gossip_29 rfl h
  · replace h := h.2 q4
    refine s_iload_n 2 (pc := 10) dX7_gossip_10 rfl rfl ?_
    obtain ⟨r7, σ5, hk6, h⟩ := h
    refine s_callS (S := []) [.int x2] (pc := 11) dX7_gossip_11 ms_X7_isDay ml_X7_131 ⟨Nat.le_of_ble_eq_true rfl, Nat.le_of_ble_eq_true rfl⟩ rfl rfl (Nat.le_of_ble_eq_true rfl) hk6 ?_
    refine s_if_eq (pc := 14) (tgt := 26) dX7_gossip_14 rfl (fun q8 => ?_) (fun q8 => ?_)
    · replace h := h.1 q8
      refine s_ldc2 (v := (-9223372036854775806)) (pc := 26) dX7_gossip_26 ct_X7_244 ?_
      exact s_ret (r := some (.long (-9223372036854775806))) dX7_gossip_29 rfl h
    · replace h := h.2 q8
      refine s_iload_n 3 (pc := 17) dX7_gossip_17 rfl rfl ?_
      refine s_iconst (v := 0) (pc := 18) dX7_gossip_18 rfl ?_
      refine s_iconst (v := 1) (pc := 19) dX7_gossip_19 rfl ?_
      obtain ⟨r11, σ9, hk10, h⟩ := h
      refine s_callS (S := []) [.int x3, .int 0, .int 1] (pc := 20) dX7_gossip_20 ms_X7_isWithin ml_X7_72 ⟨Nat.le_of_ble_eq_true rfl, Nat.le_of_ble_eq_true rfl⟩ rfl rfl (Nat.le_of_ble_eq_true rfl) hk10 ?_
      refine s_if_ne (pc := 23) (tgt := 30) dX7_gossip_23 rfl (fun q12 => ?_) (fun q12 => ?_)
      · replace h := h.1 q12
        refine s_iconst (v := 4) (pc := 30) dX7_gossip_30 rfl ?_
        refine s_aload_n 0 (pc := 31) dX7_gossip_31 rfl rfl ?_
        refine s_getR (q := 12) (pc := 32) dX7_gossip_32 fl_X7_30 ly0 rfl ?_
        refine s_getI (v := σ9 12 5) (pc := 35) dX7_gossip_35 fl_X7_110 ly12 rfl rfl ?_
        refine s_imul (pc := 38) dX7_gossip_38 ?_
        refine s_istore (L' := [(4, .int (4 * (σ9 12 5))), (0, .ref 0), (1, .int x1), (2, .int x2), (3, .int x3)]) (pc := 39) dX7_gossip_39 (Nat.le_of_ble_eq_true rfl) rfl ?_
        refine s_aload_n 1 (pc := 41) dX7_gossip_41 rfl rfl ?_
        refine s_iload_n 2 (pc := 42) dX7_gossip_42 rfl rfl ?_
        refine s_iload_n 3 (pc := 43) dX7_gossip_43 rfl rfl ?_
        obtain ⟨r15, σ13, hk14, h⟩ := h
        refine s_callV (S := []) [.int x1, .int x2] (pc := 44) dX7_gossip_44 mv_X7_waysTalked ml_X7_246 ⟨Nat.le_of_ble_eq_true rfl, Nat.le_of_ble_eq_true rfl⟩ rfl rfl ly0 rfl rfl (Nat.le_of_ble_eq_true rfl) hk14 ?_
        refine s_lstore (L' := [(5, .long r15), (4, .int (4 * (σ9 12 5))), (0, .ref 0), (1, .int x1), (2, .int x2), (3, .int x3)]) (pc := 47) dX7_gossip_47 (Nat.le_of_ble_eq_true rfl) rfl ?_
        refine s_lconst (v := 1) (pc := 49) dX7_gossip_49 rfl ?_
        refine s_iload 1 (pc := 50) dX7_gossip_50 rfl ?_
        refine s_lshl (pc := 52) dX7_gossip_52 ?_
        refine s_lstore (L' := [(7, .long (1 <<< ((Int32.toInt64 (4 * (σ9 12 5))) &&& 63))), (5, .long r15), (4, .int (4 * (σ9 12 5))), (0, .ref 0), (1, .int x1), (2, .int x2), (3, .int x3)]) (pc := 53) dX7_gossip_53 (Nat.le_of_ble_eq_true rfl) rfl ?_
        refine s_iconst (v := 0) (pc := 55) dX7_gossip_55 rfl ?_
        refine s_istore (L' := [(9, .int 0), (7, .long (1 <<< ((Int32.toInt64 (4 * (σ9 12 5))) &&& 63))), (5, .long r15), (4, .int (4 * (σ9 12 5))), (0, .ref 0), (1, .int x1), (2, .int x2), (3, .int x3)]) (pc := 56) dX7_gossip_56 (Nat.le_of_ble_eq_true rfl) rfl ?_
        exact s_sub (L' := [(0, .ref 0), (1, .int x1), (2, .int x2), (3, .int x3), (4, .int (4 * (σ9 12 5))), (5, .long r15), (7, .long (1 <<< ((Int32.toInt64 (4 * (σ9 12 5))) &&& 63))), (9, .int 0)]) [4, 5, 6, 7, 3, 2, 1, 0] rfl h
      · replace h := h.2 q12
        refine s_ldc2 (v := (-9223372036854775806)) (pc := 26) dX7_gossip_26 ct_X7_244 ?_
        exact s_ret (r := some (.long (-9223372036854775806))) dX7_gossip_29 rfl h
set_option maxRecDepth 10000 in
set_option maxHeartbeats 4000000 in
theorem tX7_gossip_58 {E : Ev} {x1 : Int32} {x2 : Int32} {x3 : Int32} {x4 : Int32} {x5 : Int64} {x7 : Int64} {x9 : Int32} {σ : Hp} {Φ : Option Value → Hp → Prop}  (h : ((x4 ≤ x9 → ((¬ x3 = 0 → Φ (some (.long x7)) σ) ∧ (x3 = 0 → Φ (some (.long x5)) σ))) ∧ (¬ x4 ≤ x9 → ((¬ (lg_cmp (x5 &&& 1) 0) = 0 → ((¬ x3 = 0 → Φ (some (.long x7)) σ) ∧ (x3 = 0 → Φ (some (.long x5)) σ))) ∧ ((lg_cmp (x5 &&& 1) 0) = 0 → Ru E mX7_gossip 58 [(0, .ref 0), (1, .int x1), (2, .int x2), (3, .int x3), (4, .int x4), (5, .long (x5 >>> ((Int32.toInt64 1) &&& 63))), (7, .long (x7 >>> ((Int32.toInt64 1) &&& 63))), (9, .int (x9 + 1))] [] σ Φ))))) : Ru E mX7_gossip 58 [(0, .ref 0), (1, .int x1), (2, .int x2), (3, .int x3), (4, .int x4), (5, .long x5), (7, .long x7), (9, .int x9)] [] σ Φ := by
  refine s_iload 7 (pc := 58) dX7_gossip_58 rfl ?_
  refine s_iload 4 (pc := 60) dX7_gossip_60 rfl ?_
  refine s_icmp_ge (pc := 62) (tgt := 92) dX7_gossip_62 rfl (fun q1 => ?_) (fun q1 => ?_)
  · replace h := h.1 q1
    refine s_iload_n 3 (pc := 92) dX7_gossip_92 rfl rfl ?_
    refine s_if_ne (pc := 93) (tgt := 101) dX7_gossip_93 rfl (fun q2 => ?_) (fun q2 => ?_)
    · replace h := h.1 q2
      refine s_lload 6 (pc := 101) dX7_gossip_101 rfl ?_
      exact s_ret (r := some (.long x7)) dX7_gossip_103 rfl h
    · replace h := h.2 q2
      refine s_lload 5 (pc := 96) dX7_gossip_96 rfl ?_
      refine s_goto (pc := 98) (tgt := 103) dX7_gossip_98 rfl ?_
      exact s_ret (r := some (.long x5)) dX7_gossip_103 rfl h
  · replace h := h.2 q1
    refine s_lload 5 (pc := 65) dX7_gossip_65 rfl ?_
    refine s_lconst (v := 1) (pc := 67) dX7_gossip_67 rfl ?_
    refine s_land (pc := 68) dX7_gossip_68 ?_
    refine s_lconst (v := 0) (pc := 69) dX7_gossip_69 rfl ?_
    refine s_lcmp (pc := 70) dX7_gossip_70 ?_
    refine s_if_ne (pc := 71) (tgt := 92) dX7_gossip_71 rfl (fun q3 => ?_) (fun q3 => ?_)
    · replace h := h.1 q3
      refine s_iload_n 3 (pc := 92) dX7_gossip_92 rfl rfl ?_
      refine s_if_ne (pc := 93) (tgt := 101) dX7_gossip_93 rfl (fun q4 => ?_) (fun q4 => ?_)
      · replace h := h.1 q4
        refine s_lload 6 (pc := 101) dX7_gossip_101 rfl ?_
        exact s_ret (r := some (.long x7)) dX7_gossip_103 rfl h
      · replace h := h.2 q4
        refine s_lload 5 (pc := 96) dX7_gossip_96 rfl ?_
        refine s_goto (pc := 98) (tgt := 103) dX7_gossip_98 rfl ?_
        exact s_ret (r := some (.long x5)) dX7_gossip_103 rfl h
    · replace h := h.2 q3
      refine s_lload 5 (pc := 74) dX7_gossip_74 rfl ?_
      refine s_iconst (v := 1) (pc := 76) dX7_gossip_76 rfl ?_
      refine s_lshr (pc := 77) dX7_gossip_77 ?_
      refine s_lstore (L' := [(5, .long (x5 >>> ((Int32.toInt64 1) &&& 63))), (0, .ref 0), (1, .int x1), (2, .int x2), (3, .int x3), (4, .int x4), (7, .long x7), (9, .int x9)]) (pc := 78) dX7_gossip_78 (Nat.le_of_ble_eq_true rfl) rfl ?_
      refine s_lload 6 (pc := 80) dX7_gossip_80 rfl ?_
      refine s_iconst (v := 1) (pc := 82) dX7_gossip_82 rfl ?_
      refine s_lshr (pc := 83) dX7_gossip_83 ?_
      refine s_lstore (L' := [(7, .long (x7 >>> ((Int32.toInt64 1) &&& 63))), (5, .long (x5 >>> ((Int32.toInt64 1) &&& 63))), (0, .ref 0), (1, .int x1), (2, .int x2), (3, .int x3), (4, .int x4), (9, .int x9)]) (pc := 84) dX7_gossip_84 (Nat.le_of_ble_eq_true rfl) rfl ?_
      refine s_iinc (v := x9 + 1) (L' := [(9, .int (x9 + 1)), (7, .long (x7 >>> ((Int32.toInt64 1) &&& 63))), (5, .long (x5 >>> ((Int32.toInt64 1) &&& 63))), (0, .ref 0), (1, .int x1), (2, .int x2), (3, .int x3), (4, .int x4)]) 7 (pc := 86) dX7_gossip_86 rfl rfl (Nat.le_of_ble_eq_true rfl) rfl ?_
      refine s_goto (pc := 89) (tgt := 58) dX7_gossip_89 rfl ?_
      exact s_sub (L' := [(0, .ref 0), (1, .int x1), (2, .int x2), (3, .int x3), (4, .int x4), (5, .long (x5 >>> ((Int32.toInt64 1) &&& 63))), (7, .long (x7 >>> ((Int32.toInt64 1) &&& 63))), (9, .int (x9 + 1))]) [3, 4, 5, 6, 7, 2, 1, 0] rfl h
set_option maxRecDepth 10000 in
set_option maxHeartbeats 4000000 in
theorem tX7_ages_0 {E : Ev} {x1 : Int32} {x2 : Int32} {x3 : Int32} {σ : Hp} {Φ : Option Value → Hp → Prop}  (h : ∃ (r3 : Int32) (σ1 : Hp), Call E mX7_isWithin [.int x2, .int 0, .int 8] σ (some (.int r3)) σ1 ∧ ((r3 = 0 → Φ (some (.int (-2))) σ1) ∧ (¬ r3 = 0 → ∃ (r7 : Int32) (σ5 : Hp), Call E mX7_isWithin [.int x3, .int 0, .int 1] σ1 (some (.int r7)) σ5 ∧ ((¬ r7 = 0 → ∃ σ9 : Hp, Call E mX7_drawEvents [.ref 0, .int x1, .int x2] σ5 none σ9 ∧ ∃ (r13 : Int32) (σ11 : Hp), Call E mX1_all [.ref 18] σ9 (some (.int r13)) σ11 ∧ ∃ σ14 : Hp, Call E mX6_behind [.ref 29, .ref 2, .ref 18, .int r13, .int 19] σ11 none σ14 ∧ ((¬ x3 = 0 → ∃ (r19 : Int32) (σ17 : Hp), Call E mX6_closedBits [.ref 29] σ14 (some (.int r19)) σ17 ∧ ∃ (r22 : Int32) (σ20 : Hp), Call E mJ6_bitCount_0f7a4 [.int r19] σ17 (some (.int r22)) σ20 ∧ Φ (some (.int r22)) σ20) ∧ (x3 = 0 → ∃ (r25 : Int32) (σ23 : Hp), Call E mX6_closedPairs [.ref 29, .int 4] σ14 (some (.int r25)) σ23 ∧ Φ (some (.int r25)) σ23))) ∧ (r7 = 0 → Φ (some (.int (-2))) σ5))))) : Ru E mX7_ages 0 [(0, .ref 0), (1, .int x1), (2, .int x2), (3, .int x3)] [] σ Φ := by
  refine s_iload_n 2 (pc := 0) dX7_ages_0 rfl rfl ?_
  refine s_iconst (v := 0) (pc := 1) dX7_ages_1 rfl ?_
  refine s_bipush (v := 8) (pc := 2) dX7_ages_2 rfl ?_
  obtain ⟨r3, σ1, hk2, h⟩ := h
  refine s_callS (S := []) [.int x2, .int 0, .int 8] (pc := 4) dX7_ages_4 ms_X7_isWithin ml_X7_72 ⟨Nat.le_of_ble_eq_true rfl, Nat.le_of_ble_eq_true rfl⟩ rfl rfl (Nat.le_of_ble_eq_true rfl) hk2 ?_
  refine s_if_eq (pc := 7) (tgt := 19) dX7_ages_7 rfl (fun q4 => ?_) (fun q4 => ?_)
  · replace h := h.1 q4
    refine s_bipush (v := (-2)) (pc := 19) dX7_ages_19 rfl ?_
    exact s_ret (r := some (.int (-2))) ⟨dX7_ages_21, fun ty e => by cases e; rfl⟩ rfl h
  · replace h := h.2 q4
    refine s_iload_n 3 (pc := 10) dX7_ages_10 rfl rfl ?_
    refine s_iconst (v := 0) (pc := 11) dX7_ages_11 rfl ?_
    refine s_iconst (v := 1) (pc := 12) dX7_ages_12 rfl ?_
    obtain ⟨r7, σ5, hk6, h⟩ := h
    refine s_callS (S := []) [.int x3, .int 0, .int 1] (pc := 13) dX7_ages_13 ms_X7_isWithin ml_X7_72 ⟨Nat.le_of_ble_eq_true rfl, Nat.le_of_ble_eq_true rfl⟩ rfl rfl (Nat.le_of_ble_eq_true rfl) hk6 ?_
    refine s_if_ne (pc := 16) (tgt := 22) dX7_ages_16 rfl (fun q8 => ?_) (fun q8 => ?_)
    · replace h := h.1 q8
      refine s_aload_n 0 (pc := 22) dX7_ages_22 rfl rfl ?_
      refine s_iload_n 1 (pc := 23) dX7_ages_23 rfl rfl ?_
      refine s_iload_n 2 (pc := 24) dX7_ages_24 rfl rfl ?_
      obtain ⟨σ9, hk10, h⟩ := h
      refine s_callV (S := []) [.int x1, .int x2] (pc := 25) dX7_ages_25 mv_X7_drawEvents ml_X7_250 ⟨Nat.le_of_ble_eq_true rfl, Nat.le_of_ble_eq_true rfl⟩ rfl rfl ly0 rfl rfl (Nat.le_of_ble_eq_true rfl) hk10 ?_
      refine s_aload_n 0 (pc := 28) dX7_ages_28 rfl rfl ?_
      refine s_getR (q := 29) (pc := 29) dX7_ages_29 fl_X7_47 ly0 rfl ?_
      refine s_aload_n 0 (pc := 32) dX7_ages_32 rfl rfl ?_
      refine s_getR (q := 2) (pc := 33) dX7_ages_33 fl_X7_20 ly0 rfl ?_
      refine s_aload_n 0 (pc := 36) dX7_ages_36 rfl rfl ?_
      refine s_getR (q := 18) (pc := 37) dX7_ages_37 fl_X7_34 ly0 rfl ?_
      refine s_aload_n 0 (pc := 40) dX7_ages_40 rfl rfl ?_
      refine s_getR (q := 18) (pc := 41) dX7_ages_41 fl_X7_34 ly0 rfl ?_
      obtain ⟨r13, σ11, hk12, h⟩ := h
      refine s_callV (S := [.ref 18, .ref 2, .ref 29]) [] (pc := 44) dX7_ages_44 mv_X1_all ml_X7_134 ⟨Nat.le_of_ble_eq_true rfl, Nat.le_of_ble_eq_true rfl⟩ rfl rfl ly18 rfl rfl (Nat.le_of_ble_eq_true rfl) hk12 ?_
      refine s_bipush (v := 19) (pc := 47) dX7_ages_47 rfl ?_
      obtain ⟨σ14, hk15, h⟩ := h
      refine s_callV (S := []) [.ref 2, .ref 18, .int r13, .int 19] (pc := 49) dX7_ages_49 mv_X6_behind ml_X7_253 ⟨Nat.le_of_ble_eq_true rfl, Nat.le_of_ble_eq_true rfl⟩ rfl rfl ly29 rfl rfl (Nat.le_of_ble_eq_true rfl) hk15 ?_
      refine s_iload_n 3 (pc := 52) dX7_ages_52 rfl rfl ?_
      refine s_if_ne (pc := 53) (tgt := 67) dX7_ages_53 rfl (fun q16 => ?_) (fun q16 => ?_)
      · replace h := h.1 q16
        refine s_aload_n 0 (pc := 67) dX7_ages_67 rfl rfl ?_
        refine s_getR (q := 29) (pc := 68) dX7_ages_68 fl_X7_47 ly0 rfl ?_
        obtain ⟨r19, σ17, hk18, h⟩ := h
        refine s_callV (S := []) [] (pc := 71) dX7_ages_71 mv_X6_closedBits ml_X7_182 ⟨Nat.le_of_ble_eq_true rfl, Nat.le_of_ble_eq_true rfl⟩ rfl rfl ly29 rfl rfl (Nat.le_of_ble_eq_true rfl) hk18 ?_
        obtain ⟨r22, σ20, hk21, h⟩ := h
        refine s_callS (S := []) [.int r19] (pc := 74) dX7_ages_74 ms_J6_bitCount_0f7a4 ml_X7_219 ⟨Nat.le_of_ble_eq_true rfl, Nat.le_of_ble_eq_true rfl⟩ rfl rfl (Nat.le_of_ble_eq_true rfl) hk21 ?_
        exact s_ret (r := some (.int r22)) ⟨dX7_ages_77, fun ty e => by cases e; rfl⟩ rfl h
      · replace h := h.2 q16
        refine s_aload_n 0 (pc := 56) dX7_ages_56 rfl rfl ?_
        refine s_getR (q := 29) (pc := 57) dX7_ages_57 fl_X7_47 ly0 rfl ?_
        refine s_iconst (v := 4) (pc := 60) dX7_ages_60 rfl ?_
        obtain ⟨r25, σ23, hk24, h⟩ := h
        refine s_callV (S := []) [.int 4] (pc := 61) dX7_ages_61 mv_X6_closedPairs ml_X7_179 ⟨Nat.le_of_ble_eq_true rfl, Nat.le_of_ble_eq_true rfl⟩ rfl rfl ly29 rfl rfl (Nat.le_of_ble_eq_true rfl) hk24 ?_
        refine s_goto (pc := 64) (tgt := 77) dX7_ages_64 rfl ?_
        exact s_ret (r := some (.int r25)) ⟨dX7_ages_77, fun ty e => by cases e; rfl⟩ rfl h
    · replace h := h.2 q8
      refine s_bipush (v := (-2)) (pc := 19) dX7_ages_19 rfl ?_
      exact s_ret (r := some (.int (-2))) ⟨dX7_ages_21, fun ty e => by cases e; rfl⟩ rfl h
set_option maxRecDepth 10000 in
set_option maxHeartbeats 4000000 in
theorem tX7_sheet_0 {E : Ev} {x1 : Int32} {x2 : Int32} {x3 : Int32} {σ : Hp} {Φ : Option Value → Hp → Prop}  (h : ∃ (r3 : Int32) (σ1 : Hp), Call E mX7_isSheet [.int x1] σ (some (.int r3)) σ1 ∧ ((r3 = 0 → Φ (some (.int (-2))) σ1) ∧ (¬ r3 = 0 → ∃ (r7 : Int32) (σ5 : Hp), Call E mX7_isForm [.int x2] σ1 (some (.int r7)) σ5 ∧ ((r7 = 0 → Φ (some (.int (-2))) σ5) ∧ (¬ r7 = 0 → ((x3 ≤ 60 → ((0 ≤ x3 → vp_in x1 4 ∧ ∃ σ12 : Hp, Call E mX4_renew [.ref (45 + 2 * (x1).toNatClampNeg), .int x2, .int x3] σ5 none σ12 ∧ Φ (some (.int x3)) σ12) ∧ (¬ 0 ≤ x3 → ∃ (r16 : Int32) (σ14 : Hp), Call E mX7_find [.ref 0, .int 5] σ5 (some (.int r16)) σ14 ∧ Φ (some (.int r16)) σ14))) ∧ (¬ x3 ≤ 60 → Φ (some (.int (-2))) σ5))))))) : Ru E mX7_sheet 0 [(0, .ref 0), (1, .int x1), (2, .int x2), (3, .int x3)] [] σ Φ := by
  refine s_iload_n 1 (pc := 0) dX7_sheet_0 rfl rfl ?_
  obtain ⟨r3, σ1, hk2, h⟩ := h
  refine s_callS (S := []) [.int x1] (pc := 1) dX7_sheet_1 ms_X7_isSheet ml_X7_116 ⟨Nat.le_of_ble_eq_true rfl, Nat.le_of_ble_eq_true rfl⟩ rfl rfl (Nat.le_of_ble_eq_true rfl) hk2 ?_
  refine s_if_eq (pc := 4) (tgt := 20) dX7_sheet_4 rfl (fun q4 => ?_) (fun q4 => ?_)
  · replace h := h.1 q4
    refine s_bipush (v := (-2)) (pc := 20) dX7_sheet_20 rfl ?_
    exact s_ret (r := some (.int (-2))) ⟨dX7_sheet_22, fun ty e => by cases e; rfl⟩ rfl h
  · replace h := h.2 q4
    refine s_iload_n 2 (pc := 7) dX7_sheet_7 rfl rfl ?_
    obtain ⟨r7, σ5, hk6, h⟩ := h
    refine s_callS (S := []) [.int x2] (pc := 8) dX7_sheet_8 ms_X7_isForm ml_X7_257 ⟨Nat.le_of_ble_eq_true rfl, Nat.le_of_ble_eq_true rfl⟩ rfl rfl (Nat.le_of_ble_eq_true rfl) hk6 ?_
    refine s_if_eq (pc := 11) (tgt := 20) dX7_sheet_11 rfl (fun q8 => ?_) (fun q8 => ?_)
    · replace h := h.1 q8
      refine s_bipush (v := (-2)) (pc := 20) dX7_sheet_20 rfl ?_
      exact s_ret (r := some (.int (-2))) ⟨dX7_sheet_22, fun ty e => by cases e; rfl⟩ rfl h
    · replace h := h.2 q8
      refine s_iload_n 3 (pc := 14) dX7_sheet_14 rfl rfl ?_
      refine s_bipush (v := 60) (pc := 15) dX7_sheet_15 rfl ?_
      refine s_icmp_le (pc := 17) (tgt := 23) dX7_sheet_17 rfl (fun q9 => ?_) (fun q9 => ?_)
      · replace h := h.1 q9
        refine s_iload_n 3 (pc := 23) dX7_sheet_23 rfl rfl ?_
        refine s_if_ge (pc := 24) (tgt := 33) dX7_sheet_24 rfl (fun q10 => ?_) (fun q10 => ?_)
        · replace h := h.1 q10
          refine s_aload_n 0 (pc := 33) dX7_sheet_33 rfl rfl ?_
          refine s_getR (q := 44) (pc := 34) dX7_sheet_34 fl_X7_67 ly0 rfl ?_
          refine s_iload_n 1 (pc := 37) dX7_sheet_37 rfl rfl ?_
          have hv11 := h.1
          replace h := h.2
          refine s_aaldS (pc := 38) dX7_sheet_38 ly44 hv11 ?_
          refine s_iload_n 2 (pc := 39) dX7_sheet_39 rfl rfl ?_
          refine s_iload_n 3 (pc := 40) dX7_sheet_40 rfl rfl ?_
          obtain ⟨σ12, hk13, h⟩ := h
          refine s_callV (S := []) [.int x2, .int x3] (pc := 41) dX7_sheet_41 mv_X4_renew ml_X7_260 ⟨Nat.le_of_ble_eq_true rfl, Nat.le_of_ble_eq_true rfl⟩ rfl rfl (shC hv11).1 rfl rfl (Nat.le_of_ble_eq_true rfl) hk13 ?_
          refine s_iload_n 3 (pc := 44) dX7_sheet_44 rfl rfl ?_
          exact s_ret (r := some (.int x3)) ⟨dX7_sheet_45, fun ty e => by cases e; rfl⟩ rfl h
        · replace h := h.2 q10
          refine s_aload_n 0 (pc := 27) dX7_sheet_27 rfl rfl ?_
          refine s_iconst (v := 5) (pc := 28) dX7_sheet_28 rfl ?_
          obtain ⟨r16, σ14, hk15, h⟩ := h
          refine s_callV (S := []) [.int 5] (pc := 29) dX7_sheet_29 mv_X7_find ml_X7_123 ⟨Nat.le_of_ble_eq_true rfl, Nat.le_of_ble_eq_true rfl⟩ rfl rfl ly0 rfl rfl (Nat.le_of_ble_eq_true rfl) hk15 ?_
          exact s_ret (r := some (.int r16)) ⟨dX7_sheet_32, fun ty e => by cases e; rfl⟩ rfl h
      · replace h := h.2 q9
        refine s_bipush (v := (-2)) (pc := 20) dX7_sheet_20 rfl ?_
        exact s_ret (r := some (.int (-2))) ⟨dX7_sheet_22, fun ty e => by cases e; rfl⟩ rfl h
set_option maxRecDepth 10000 in
set_option maxHeartbeats 4000000 in
theorem tX7_lose_0 {E : Ev} {x1 : Int32} {σ : Hp} {Φ : Option Value → Hp → Prop}  (h : ∃ (r3 : Int32) (σ1 : Hp), Call E mX7_isSheet [.int x1] σ (some (.int r3)) σ1 ∧ ((¬ r3 = 0 → vp_in x1 4 ∧ (((σ1 (45 + 2 * (x1).toNatClampNeg) 1) = 0 → Φ (some (.int (σ1 (45 + 2 * (x1).toNatClampNeg) 3))) (up σ1 (45 + 2 * (x1).toNatClampNeg) 1 1)) ∧ (¬ (σ1 (45 + 2 * (x1).toNatClampNeg) 1) = 0 → ∃ (r11 : Int32) (σ9 : Hp), Call E mX7_find [.ref 0, .int 1] σ1 (some (.int r11)) σ9 ∧ Φ (some (.int r11)) σ9))) ∧ (r3 = 0 → Φ (some (.int (-2))) σ1))) : Ru E mX7_lose 0 [(0, .ref 0), (1, .int x1)] [] σ Φ := by
  refine s_iload_n 1 (pc := 0) dX7_lose_0 rfl rfl ?_
  obtain ⟨r3, σ1, hk2, h⟩ := h
  refine s_callS (S := []) [.int x1] (pc := 1) dX7_lose_1 ms_X7_isSheet ml_X7_116 ⟨Nat.le_of_ble_eq_true rfl, Nat.le_of_ble_eq_true rfl⟩ rfl rfl (Nat.le_of_ble_eq_true rfl) hk2 ?_
  refine s_if_ne (pc := 4) (tgt := 10) dX7_lose_4 rfl (fun q4 => ?_) (fun q4 => ?_)
  · replace h := h.1 q4
    refine s_aload_n 0 (pc := 10) dX7_lose_10 rfl rfl ?_
    refine s_getR (q := 44) (pc := 11) dX7_lose_11 fl_X7_67 ly0 rfl ?_
    refine s_iload_n 1 (pc := 14) dX7_lose_14 rfl rfl ?_
    have hv5 := h.1
    replace h := h.2
    refine s_aaldS (pc := 15) dX7_lose_15 ly44 hv5 ?_
    refine s_getI (v := σ1 (45 + 2 * (x1).toNatClampNeg) 1) (pc := 16) dX7_lose_16 fl_X7_119 (shC hv5).1 rfl rfl ?_
    refine s_if_eq (pc := 19) (tgt := 28) dX7_lose_19 rfl (fun q6 => ?_) (fun q6 => ?_)
    · replace h := h.1 q6
      refine s_aload_n 0 (pc := 28) dX7_lose_28 rfl rfl ?_
      refine s_getR (q := 44) (pc := 29) dX7_lose_29 fl_X7_67 ly0 rfl ?_
      refine s_iload_n 1 (pc := 32) dX7_lose_32 rfl rfl ?_
      refine s_aaldS (pc := 33) dX7_lose_33 ly44 hv5 ?_
      refine s_iconst (v := 1) (pc := 34) dX7_lose_34 rfl ?_
      refine s_put (ty := .boolean) (pc := 35) dX7_lose_35 fp_X7_119 (shC hv5).1 rfl rfl rfl ?_
      refine s_aload_n 0 (pc := 38) dX7_lose_38 rfl rfl ?_
      refine s_getR (q := 44) (pc := 39) dX7_lose_39 fl_X7_67 ly0 rfl ?_
      refine s_iload_n 1 (pc := 42) dX7_lose_42 rfl rfl ?_
      refine s_aaldS (pc := 43) dX7_lose_43 ly44 hv5 ?_
      refine s_getI (v := σ1 (45 + 2 * (x1).toNatClampNeg) 3) (pc := 44) dX7_lose_44 fl_X7_127 (shC hv5).1 rfl (by simp [up]) ?_
      exact s_ret (r := some (.int (σ1 (45 + 2 * (x1).toNatClampNeg) 3))) ⟨dX7_lose_47, fun ty e => by cases e; rfl⟩ rfl h
    · replace h := h.2 q6
      refine s_aload_n 0 (pc := 22) dX7_lose_22 rfl rfl ?_
      refine s_iconst (v := 1) (pc := 23) dX7_lose_23 rfl ?_
      obtain ⟨r11, σ9, hk10, h⟩ := h
      refine s_callV (S := []) [.int 1] (pc := 24) dX7_lose_24 mv_X7_find ml_X7_123 ⟨Nat.le_of_ble_eq_true rfl, Nat.le_of_ble_eq_true rfl⟩ rfl rfl ly0 rfl rfl (Nat.le_of_ble_eq_true rfl) hk10 ?_
      exact s_ret (r := some (.int r11)) ⟨dX7_lose_27, fun ty e => by cases e; rfl⟩ rfl h
  · replace h := h.2 q4
    refine s_bipush (v := (-2)) (pc := 7) dX7_lose_7 rfl ?_
    exact s_ret (r := some (.int (-2))) ⟨dX7_lose_9, fun ty e => by cases e; rfl⟩ rfl h
set_option maxRecDepth 10000 in
set_option maxHeartbeats 4000000 in
theorem tX7_put_0 {E : Ev} {x1 : Int32} {x2 : Int32} {x3 : Int32} {x4 : Int32} {σ : Hp} {Φ : Option Value → Hp → Prop}  (h : ∃ (r3 : Int32) (σ1 : Hp), Call E mX7_isSheet [.int x1] σ (some (.int r3)) σ1 ∧ ((r3 = 0 → Φ (some (.int (-2))) σ1) ∧ (¬ r3 = 0 → ∃ (r7 : Int32) (σ5 : Hp), Call E mX7_isForm [.int x2] σ1 (some (.int r7)) σ5 ∧ ((¬ r7 = 0 → vp_in x1 4 ∧ ∃ (r12 : Int32) (σ10 : Hp), Call E mX4_wrongWith [.ref (45 + 2 * (x1).toNatClampNeg), .int x2, .int x3] σ5 (some (.int r12)) σ10 ∧ ((r12 = 0 → ∃ (r17 : Int32) (σ15 : Hp), Call E mX4_lowestBits [.int x2, .int x4] σ10 (some (.int r17)) σ15 ∧ vp_in x3 60 ∧ Φ (some (.int 1)) (up σ15 ((45 + 2 * (x1).toNatClampNeg) + 1) ((x3).toNatClampNeg) r17)) ∧ (¬ r12 = 0 → ∃ (r21 : Int32) (σ19 : Hp), Call E mX7_find [.ref 0, .int r12] σ10 (some (.int r21)) σ19 ∧ Φ (some (.int r21)) σ19))) ∧ (r7 = 0 → Φ (some (.int (-2))) σ5))))) : Ru E mX7_put 0 [(0, .ref 0), (1, .int x1), (2, .int x2), (3, .int x3), (4, .int x4)] [] σ Φ := by
  refine s_iload_n 1 (pc := 0) dX7_put_0 rfl rfl ?_
  obtain ⟨r3, σ1, hk2, h⟩ := h
  refine s_callS (S := []) [.int x1] (pc := 1) dX7_put_1 ms_X7_isSheet ml_X7_116 ⟨Nat.le_of_ble_eq_true rfl, Nat.le_of_ble_eq_true rfl⟩ rfl rfl (Nat.le_of_ble_eq_true rfl) hk2 ?_
  refine s_if_eq (pc := 4) (tgt := 14) dX7_put_4 rfl (fun q4 => ?_) (fun q4 => ?_)
  · replace h := h.1 q4
    refine s_bipush (v := (-2)) (pc := 14) dX7_put_14 rfl ?_
    exact s_ret (r := some (.int (-2))) ⟨dX7_put_16, fun ty e => by cases e; rfl⟩ rfl h
  · replace h := h.2 q4
    refine s_iload_n 2 (pc := 7) dX7_put_7 rfl rfl ?_
    obtain ⟨r7, σ5, hk6, h⟩ := h
    refine s_callS (S := []) [.int x2] (pc := 8) dX7_put_8 ms_X7_isForm ml_X7_257 ⟨Nat.le_of_ble_eq_true rfl, Nat.le_of_ble_eq_true rfl⟩ rfl rfl (Nat.le_of_ble_eq_true rfl) hk6 ?_
    refine s_if_ne (pc := 11) (tgt := 17) dX7_put_11 rfl (fun q8 => ?_) (fun q8 => ?_)
    · replace h := h.1 q8
      refine s_aload_n 0 (pc := 17) dX7_put_17 rfl rfl ?_
      refine s_getR (q := 44) (pc := 18) dX7_put_18 fl_X7_67 ly0 rfl ?_
      refine s_iload_n 1 (pc := 21) dX7_put_21 rfl rfl ?_
      have hv9 := h.1
      replace h := h.2
      refine s_aaldS (pc := 22) dX7_put_22 ly44 hv9 ?_
      refine s_iload_n 2 (pc := 23) dX7_put_23 rfl rfl ?_
      refine s_iload_n 3 (pc := 24) dX7_put_24 rfl rfl ?_
      obtain ⟨r12, σ10, hk11, h⟩ := h
      refine s_callV (S := []) [.int x2, .int x3] (pc := 25) dX7_put_25 mv_X4_wrongWith ml_X7_263 ⟨Nat.le_of_ble_eq_true rfl, Nat.le_of_ble_eq_true rfl⟩ rfl rfl (shC hv9).1 rfl rfl (Nat.le_of_ble_eq_true rfl) hk11 ?_
      refine s_istore (L' := [(5, .int r12), (0, .ref 0), (1, .int x1), (2, .int x2), (3, .int x3), (4, .int x4)]) (pc := 28) dX7_put_28 (Nat.le_of_ble_eq_true rfl) rfl ?_
      refine s_iload 0 (pc := 30) dX7_put_30 rfl ?_
      refine s_if_eq (pc := 32) (tgt := 42) dX7_put_32 rfl (fun q13 => ?_) (fun q13 => ?_)
      · replace h := h.1 q13
        refine s_aload_n 1 (pc := 42) dX7_put_42 rfl rfl ?_
        refine s_getR (q := 44) (pc := 43) dX7_put_43 fl_X7_67 ly0 rfl ?_
        refine s_iload_n 2 (pc := 46) dX7_put_46 rfl rfl ?_
        refine s_aaldS (pc := 47) dX7_put_47 ly44 hv9 ?_
        refine s_getR (q := (45 + 2 * (x1).toNatClampNeg) + 1) (pc := 48) dX7_put_48 fl_X7_128 (shC hv9).1 rfl ?_
        refine s_iload_n 4 (pc := 51) dX7_put_51 rfl rfl ?_
        refine s_iload_n 3 (pc := 52) dX7_put_52 rfl rfl ?_
        refine s_iload 5 (pc := 53) dX7_put_53 rfl ?_
        obtain ⟨r17, σ15, hk16, h⟩ := h
        refine s_callS (S := [.int x3, .ref ((45 + 2 * (x1).toNatClampNeg) + 1)]) [.int x2, .int x4] (pc := 55) dX7_put_55 ms_X4_lowestBits ml_X7_266 ⟨Nat.le_of_ble_eq_true rfl, Nat.le_of_ble_eq_true rfl⟩ rfl rfl (Nat.le_of_ble_eq_true rfl) hk16 ?_
        have hv18 := h.1
        replace h := h.2
        refine s_iast (pc := 58) dX7_put_58 (shC hv9).2 hv18 ?_
        refine s_iconst (v := 1) (pc := 59) dX7_put_59 rfl ?_
        exact s_ret (r := some (.int 1)) ⟨dX7_put_60, fun ty e => by cases e; rfl⟩ rfl h
      · replace h := h.2 q13
        refine s_aload_n 1 (pc := 35) dX7_put_35 rfl rfl ?_
        refine s_iload 0 (pc := 36) dX7_put_36 rfl ?_
        obtain ⟨r21, σ19, hk20, h⟩ := h
        refine s_callV (S := []) [.int r12] (pc := 38) dX7_put_38 mv_X7_find ml_X7_123 ⟨Nat.le_of_ble_eq_true rfl, Nat.le_of_ble_eq_true rfl⟩ rfl rfl ly0 rfl rfl (Nat.le_of_ble_eq_true rfl) hk20 ?_
        exact s_ret (r := some (.int r21)) ⟨dX7_put_41, fun ty e => by cases e; rfl⟩ rfl h
    · replace h := h.2 q8
      refine s_bipush (v := (-2)) (pc := 14) dX7_put_14 rfl ?_
      exact s_ret (r := some (.int (-2))) ⟨dX7_put_16, fun ty e => by cases e; rfl⟩ rfl h
set_option maxRecDepth 10000 in
set_option maxHeartbeats 4000000 in
theorem tX7_get_0 {E : Ev} {x1 : Int32} {x2 : Int32} {x3 : Int32} {σ : Hp} {Φ : Option Value → Hp → Prop}  (h : ∃ (r3 : Int32) (σ1 : Hp), Call E mX7_isSheet [.int x1] σ (some (.int r3)) σ1 ∧ ((r3 = 0 → Φ (some (.int (-2147483648))) σ1) ∧ (¬ r3 = 0 → ∃ (r7 : Int32) (σ5 : Hp), Call E mX7_isForm [.int x2] σ1 (some (.int r7)) σ5 ∧ ((¬ r7 = 0 → vp_in x1 4 ∧ ∃ (r12 : Int32) (σ10 : Hp), Call E mX4_wrongWith [.ref (45 + 2 * (x1).toNatClampNeg), .int x2, .int x3] σ5 (some (.int r12)) σ10 ∧ ((r12 = 0 → vp_in x3 60 ∧ Φ (some (.int (σ10 ((45 + 2 * (x1).toNatClampNeg) + 1) ((x3).toNatClampNeg)))) σ10) ∧ (¬ r12 = 0 → ∃ (r18 : Int32) (σ16 : Hp), Call E mX7_find [.ref 0, .int r12] σ10 (some (.int r18)) σ16 ∧ Φ (some (.int (-2147483648))) σ16))) ∧ (r7 = 0 → Φ (some (.int (-2147483648))) σ5))))) : Ru E mX7_get 0 [(0, .ref 0), (1, .int x1), (2, .int x2), (3, .int x3)] [] σ Φ := by
  refine s_iload_n 1 (pc := 0) dX7_get_0 rfl rfl ?_
  obtain ⟨r3, σ1, hk2, h⟩ := h
  refine s_callS (S := []) [.int x1] (pc := 1) dX7_get_1 ms_X7_isSheet ml_X7_116 ⟨Nat.le_of_ble_eq_true rfl, Nat.le_of_ble_eq_true rfl⟩ rfl rfl (Nat.le_of_ble_eq_true rfl) hk2 ?_
  refine s_if_eq (pc := 4) (tgt := 14) dX7_get_4 rfl (fun q4 => ?_) (fun q4 => ?_)
  · replace h := h.1 q4
    refine s_ldc (v := (-2147483648)) (pc := 14) dX7_get_14 ct_X7_156 ?_
    exact s_ret (r := some (.int (-2147483648))) ⟨dX7_get_16, fun ty e => by cases e; rfl⟩ rfl h
  · replace h := h.2 q4
    refine s_iload_n 2 (pc := 7) dX7_get_7 rfl rfl ?_
    obtain ⟨r7, σ5, hk6, h⟩ := h
    refine s_callS (S := []) [.int x2] (pc := 8) dX7_get_8 ms_X7_isForm ml_X7_257 ⟨Nat.le_of_ble_eq_true rfl, Nat.le_of_ble_eq_true rfl⟩ rfl rfl (Nat.le_of_ble_eq_true rfl) hk6 ?_
    refine s_if_ne (pc := 11) (tgt := 17) dX7_get_11 rfl (fun q8 => ?_) (fun q8 => ?_)
    · replace h := h.1 q8
      refine s_aload_n 0 (pc := 17) dX7_get_17 rfl rfl ?_
      refine s_getR (q := 44) (pc := 18) dX7_get_18 fl_X7_67 ly0 rfl ?_
      refine s_iload_n 1 (pc := 21) dX7_get_21 rfl rfl ?_
      have hv9 := h.1
      replace h := h.2
      refine s_aaldS (pc := 22) dX7_get_22 ly44 hv9 ?_
      refine s_iload_n 2 (pc := 23) dX7_get_23 rfl rfl ?_
      refine s_iload_n 3 (pc := 24) dX7_get_24 rfl rfl ?_
      obtain ⟨r12, σ10, hk11, h⟩ := h
      refine s_callV (S := []) [.int x2, .int x3] (pc := 25) dX7_get_25 mv_X4_wrongWith ml_X7_263 ⟨Nat.le_of_ble_eq_true rfl, Nat.le_of_ble_eq_true rfl⟩ rfl rfl (shC hv9).1 rfl rfl (Nat.le_of_ble_eq_true rfl) hk11 ?_
      refine s_istore (L' := [(4, .int r12), (0, .ref 0), (1, .int x1), (2, .int x2), (3, .int x3)]) (pc := 28) dX7_get_28 (Nat.le_of_ble_eq_true rfl) rfl ?_
      refine s_iload 0 (pc := 30) dX7_get_30 rfl ?_
      refine s_if_eq (pc := 32) (tgt := 45) dX7_get_32 rfl (fun q13 => ?_) (fun q13 => ?_)
      · replace h := h.1 q13
        refine s_aload_n 1 (pc := 45) dX7_get_45 rfl rfl ?_
        refine s_getR (q := 44) (pc := 46) dX7_get_46 fl_X7_67 ly0 rfl ?_
        refine s_iload_n 2 (pc := 49) dX7_get_49 rfl rfl ?_
        refine s_aaldS (pc := 50) dX7_get_50 ly44 hv9 ?_
        refine s_getR (q := (45 + 2 * (x1).toNatClampNeg) + 1) (pc := 51) dX7_get_51 fl_X7_128 (shC hv9).1 rfl ?_
        refine s_iload_n 4 (pc := 54) dX7_get_54 rfl rfl ?_
        have hv15 := h.1
        replace h := h.2
        refine s_iald (pc := 55) dX7_get_55 (shC hv9).2 hv15 ?_
        exact s_ret (r := some (.int (σ10 ((45 + 2 * (x1).toNatClampNeg) + 1) ((x3).toNatClampNeg)))) ⟨dX7_get_56, fun ty e => by cases e; rfl⟩ rfl h
      · replace h := h.2 q13
        refine s_aload_n 1 (pc := 35) dX7_get_35 rfl rfl ?_
        refine s_iload 0 (pc := 36) dX7_get_36 rfl ?_
        obtain ⟨r18, σ16, hk17, h⟩ := h
        refine s_callV (S := []) [.int r12] (pc := 38) dX7_get_38 mv_X7_find ml_X7_123 ⟨Nat.le_of_ble_eq_true rfl, Nat.le_of_ble_eq_true rfl⟩ rfl rfl ly0 rfl rfl (Nat.le_of_ble_eq_true rfl) hk17 ?_
        refine s_pop (pc := 41) dX7_get_41 rfl ?_
        refine s_ldc (v := (-2147483648)) (pc := 42) dX7_get_42 ct_X7_156 ?_
        exact s_ret (r := some (.int (-2147483648))) ⟨dX7_get_44, fun ty e => by cases e; rfl⟩ rfl h
    · replace h := h.2 q8
      refine s_ldc (v := (-2147483648)) (pc := 14) dX7_get_14 ct_X7_156 ?_
      exact s_ret (r := some (.int (-2147483648))) ⟨dX7_get_16, fun ty e => by cases e; rfl⟩ rfl h
set_option maxRecDepth 10000 in
set_option maxHeartbeats 4000000 in
theorem tX7_copy_0 {E : Ev} {x1 : Int32} {x2 : Int32} {x3 : Int32} {x4 : Int32} {x5 : Int32} {σ : Hp} {Φ : Option Value → Hp → Prop}  (h : ∃ (r3 : Int32) (σ1 : Hp), Call E mX7_isSheet [.int x1] σ (some (.int r3)) σ1 ∧ ((r3 = 0 → Φ (some (.int (-2))) σ1) ∧ (¬ r3 = 0 → ∃ (r7 : Int32) (σ5 : Hp), Call E mX7_isSheet [.int x3] σ1 (some (.int r7)) σ5 ∧ ((¬ r7 = 0 → vp_in x1 4 ∧ vp_in x3 4 ∧ ((¬ (σ5 (45 + 2 * (x1).toNatClampNeg) 1) = 0 → ∃ (r14 : Int32) (σ12 : Hp), Call E mX7_find [.ref 0, .int 1] σ5 (some (.int r14)) σ12 ∧ Φ (some (.int r14)) σ12) ∧ ((σ5 (45 + 2 * (x1).toNatClampNeg) 1) = 0 → (((σ5 (45 + 2 * (x3).toNatClampNeg) 1) = 0 → (((σ5 (45 + 2 * (x1).toNatClampNeg) 2) = (σ5 (45 + 2 * (x3).toNatClampNeg) 2) → ∃ (r19 : Int32) (σ17 : Hp), Call E mX4_hasItems [.ref (45 + 2 * (x1).toNatClampNeg), .int x2, .int x5] σ5 (some (.int r19)) σ17 ∧ ((r19 = 0 → ∃ (r23 : Int32) (σ21 : Hp), Call E mX7_find [.ref 0, .int 2] σ17 (some (.int r23)) σ21 ∧ Φ (some (.int r23)) σ21) ∧ (¬ r19 = 0 → ∃ (r26 : Int32) (σ24 : Hp), Call E mX4_hasItems [.ref (45 + 2 * (x3).toNatClampNeg), .int x4, .int x5] σ17 (some (.int r26)) σ24 ∧ ((¬ r26 = 0 → ¬ x2 < (0 : Int32) ∧ ¬ x4 < (0 : Int32) ∧ ¬ x5 < (0 : Int32) ∧ (x2).toNatClampNeg + (x5).toNatClampNeg ≤ 60 ∧ (x4).toNatClampNeg + (x5).toNatClampNeg ≤ 60 ∧ Φ (some (.int 1)) (upR σ24 ((45 + 2 * (x3).toNatClampNeg) + 1) (va_cpy (σ24 ((45 + 2 * (x1).toNatClampNeg) + 1)) (σ24 ((45 + 2 * (x3).toNatClampNeg) + 1)) (x2).toNatClampNeg (x4).toNatClampNeg (x5).toNatClampNeg))) ∧ (r26 = 0 → ∃ (r30 : Int32) (σ28 : Hp), Call E mX7_find [.ref 0, .int 2] σ24 (some (.int r30)) σ28 ∧ Φ (some (.int r30)) σ28))))) ∧ (¬ (σ5 (45 + 2 * (x1).toNatClampNeg) 2) = (σ5 (45 + 2 * (x3).toNatClampNeg) 2) → ∃ (r33 : Int32) (σ31 : Hp), Call E mX7_find [.ref 0, .int 4] σ5 (some (.int r33)) σ31 ∧ Φ (some (.int r33)) σ31))) ∧ (¬ (σ5 (45 + 2 * (x3).toNatClampNeg) 1) = 0 → ∃ (r36 : Int32) (σ34 : Hp), Call E mX7_find [.ref 0, .int 1] σ5 (some (.int r36)) σ34 ∧ Φ (some (.int r36)) σ34))))) ∧ (r7 = 0 → Φ (some (.int (-2))) σ5))))) : Ru E mX7_copy 0 [(0, .ref 0), (1, .int x1), (2, .int x2), (3, .int x3), (4, .int x4), (5, .int x5)] [] σ Φ := by
  refine s_iload_n 1 (pc := 0) dX7_copy_0 rfl rfl ?_
  obtain ⟨r3, σ1, hk2, h⟩ := h
  refine s_callS (S := []) [.int x1] (pc := 1) dX7_copy_1 ms_X7_isSheet ml_X7_116 ⟨Nat.le_of_ble_eq_true rfl, Nat.le_of_ble_eq_true rfl⟩ rfl rfl (Nat.le_of_ble_eq_true rfl) hk2 ?_
  refine s_if_eq (pc := 4) (tgt := 14) dX7_copy_4 rfl (fun q4 => ?_) (fun q4 => ?_)
  · replace h := h.1 q4
    refine s_bipush (v := (-2)) (pc := 14) dX7_copy_14 rfl ?_
    exact s_ret (r := some (.int (-2))) ⟨dX7_copy_16, fun ty e => by cases e; rfl⟩ rfl h
  · replace h := h.2 q4
    refine s_iload_n 3 (pc := 7) dX7_copy_7 rfl rfl ?_
    obtain ⟨r7, σ5, hk6, h⟩ := h
    refine s_callS (S := []) [.int x3] (pc := 8) dX7_copy_8 ms_X7_isSheet ml_X7_116 ⟨Nat.le_of_ble_eq_true rfl, Nat.le_of_ble_eq_true rfl⟩ rfl rfl (Nat.le_of_ble_eq_true rfl) hk6 ?_
    refine s_if_ne (pc := 11) (tgt := 17) dX7_copy_11 rfl (fun q8 => ?_) (fun q8 => ?_)
    · replace h := h.1 q8
      refine s_aload_n 0 (pc := 17) dX7_copy_17 rfl rfl ?_
      refine s_getR (q := 44) (pc := 18) dX7_copy_18 fl_X7_67 ly0 rfl ?_
      refine s_iload_n 1 (pc := 21) dX7_copy_21 rfl rfl ?_
      have hv9 := h.1
      replace h := h.2
      refine s_aaldS (pc := 22) dX7_copy_22 ly44 hv9 ?_
      refine s_astore (L' := [(6, .ref (45 + 2 * (x1).toNatClampNeg)), (0, .ref 0), (1, .int x1), (2, .int x2), (3, .int x3), (4, .int x4), (5, .int x5)]) (pc := 23) dX7_copy_23 (Nat.le_of_ble_eq_true rfl) rfl ?_
      refine s_aload_n 1 (pc := 25) dX7_copy_25 rfl rfl ?_
      refine s_getR (q := 44) (pc := 26) dX7_copy_26 fl_X7_67 ly0 rfl ?_
      refine s_iload_n 4 (pc := 29) dX7_copy_29 rfl rfl ?_
      have hv10 := h.1
      replace h := h.2
      refine s_aaldS (pc := 30) dX7_copy_30 ly44 hv10 ?_
      refine s_astore (L' := [(7, .ref (45 + 2 * (x3).toNatClampNeg)), (6, .ref (45 + 2 * (x1).toNatClampNeg)), (0, .ref 0), (1, .int x1), (2, .int x2), (3, .int x3), (4, .int x4), (5, .int x5)]) (pc := 31) dX7_copy_31 (Nat.le_of_ble_eq_true rfl) rfl ?_
      refine s_aload 1 (pc := 33) dX7_copy_33 rfl ?_
      refine s_getI (v := σ5 (45 + 2 * (x1).toNatClampNeg) 1) (pc := 35) dX7_copy_35 fl_X7_119 (shC hv9).1 rfl rfl ?_
      refine s_if_ne (pc := 38) (tgt := 49) dX7_copy_38 rfl (fun q11 => ?_) (fun q11 => ?_)
      · replace h := h.1 q11
        refine s_aload_n 2 (pc := 49) dX7_copy_49 rfl rfl ?_
        refine s_iconst (v := 1) (pc := 50) dX7_copy_50 rfl ?_
        obtain ⟨r14, σ12, hk13, h⟩ := h
        refine s_callV (S := []) [.int 1] (pc := 51) dX7_copy_51 mv_X7_find ml_X7_123 ⟨Nat.le_of_ble_eq_true rfl, Nat.le_of_ble_eq_true rfl⟩ rfl rfl ly0 rfl rfl (Nat.le_of_ble_eq_true rfl) hk13 ?_
        exact s_ret (r := some (.int r14)) ⟨dX7_copy_54, fun ty e => by cases e; rfl⟩ rfl h
      · replace h := h.2 q11
        refine s_aload 0 (pc := 41) dX7_copy_41 rfl ?_
        refine s_getI (v := σ5 (45 + 2 * (x3).toNatClampNeg) 1) (pc := 43) dX7_copy_43 fl_X7_119 (shC hv10).1 rfl rfl ?_
        refine s_if_eq (pc := 46) (tgt := 55) dX7_copy_46 rfl (fun q15 => ?_) (fun q15 => ?_)
        · replace h := h.1 q15
          refine s_aload 1 (pc := 55) dX7_copy_55 rfl ?_
          refine s_getI (v := σ5 (45 + 2 * (x1).toNatClampNeg) 2) (pc := 57) dX7_copy_57 fl_X7_269 (shC hv9).1 rfl rfl ?_
          refine s_aload 0 (pc := 60) dX7_copy_60 rfl ?_
          refine s_getI (v := σ5 (45 + 2 * (x3).toNatClampNeg) 2) (pc := 62) dX7_copy_62 fl_X7_269 (shC hv10).1 rfl rfl ?_
          refine s_icmp_eq (pc := 65) (tgt := 74) dX7_copy_65 rfl (fun q16 => ?_) (fun q16 => ?_)
          · replace h := h.1 q16
            refine s_aload 1 (pc := 74) dX7_copy_74 rfl ?_
            refine s_iload_n 4 (pc := 76) dX7_copy_76 rfl rfl ?_
            refine s_iload 7 (pc := 77) dX7_copy_77 rfl ?_
            obtain ⟨r19, σ17, hk18, h⟩ := h
            refine s_callV (S := []) [.int x2, .int x5] (pc := 79) dX7_copy_79 mv_X4_hasItems ml_X7_272 ⟨Nat.le_of_ble_eq_true rfl, Nat.le_of_ble_eq_true rfl⟩ rfl rfl (shC hv9).1 rfl rfl (Nat.le_of_ble_eq_true rfl) hk18 ?_
            refine s_if_eq (pc := 82) (tgt := 97) dX7_copy_82 rfl (fun q20 => ?_) (fun q20 => ?_)
            · replace h := h.1 q20
              refine s_aload_n 2 (pc := 97) dX7_copy_97 rfl rfl ?_
              refine s_iconst (v := 2) (pc := 98) dX7_copy_98 rfl ?_
              obtain ⟨r23, σ21, hk22, h⟩ := h
              refine s_callV (S := []) [.int 2] (pc := 99) dX7_copy_99 mv_X7_find ml_X7_123 ⟨Nat.le_of_ble_eq_true rfl, Nat.le_of_ble_eq_true rfl⟩ rfl rfl ly0 rfl rfl (Nat.le_of_ble_eq_true rfl) hk22 ?_
              exact s_ret (r := some (.int r23)) ⟨dX7_copy_102, fun ty e => by cases e; rfl⟩ rfl h
            · replace h := h.2 q20
              refine s_aload 0 (pc := 85) dX7_copy_85 rfl ?_
              refine s_iload 6 (pc := 87) dX7_copy_87 rfl ?_
              refine s_iload 7 (pc := 89) dX7_copy_89 rfl ?_
              obtain ⟨r26, σ24, hk25, h⟩ := h
              refine s_callV (S := []) [.int x4, .int x5] (pc := 91) dX7_copy_91 mv_X4_hasItems ml_X7_272 ⟨Nat.le_of_ble_eq_true rfl, Nat.le_of_ble_eq_true rfl⟩ rfl rfl (shC hv10).1 rfl rfl (Nat.le_of_ble_eq_true rfl) hk25 ?_
              refine s_if_ne (pc := 94) (tgt := 103) dX7_copy_94 rfl (fun q27 => ?_) (fun q27 => ?_)
              · replace h := h.1 q27
                refine s_aload 1 (pc := 103) dX7_copy_103 rfl ?_
                refine s_getR (q := (45 + 2 * (x1).toNatClampNeg) + 1) (pc := 105) dX7_copy_105 fl_X7_128 (shC hv9).1 rfl ?_
                refine s_iload_n 4 (pc := 108) dX7_copy_108 rfl rfl ?_
                refine s_aload 0 (pc := 109) dX7_copy_109 rfl ?_
                refine s_getR (q := (45 + 2 * (x3).toNatClampNeg) + 1) (pc := 111) dX7_copy_111 fl_X7_128 (shC hv10).1 rfl ?_
                refine s_iload 6 (pc := 114) dX7_copy_114 rfl ?_
                refine s_iload 7 (pc := 116) dX7_copy_116 rfl ?_
                refine s_acopy (pc := 118) dX7_copy_118 ml_X7_276 mw_ac1 mw_ac2 mw_sys (shC hv9).2 (shC hv10).2 h.1 h.2.1 h.2.2.1 h.2.2.2.1 h.2.2.2.2.1 (Nat.le_of_ble_eq_true rfl) (Nat.le_of_ble_eq_true rfl) ?_
                replace h := h.2.2.2.2.2
                refine s_iconst (v := 1) (pc := 121) dX7_copy_121 rfl ?_
                exact s_ret (r := some (.int 1)) ⟨dX7_copy_122, fun ty e => by cases e; rfl⟩ rfl h
              · replace h := h.2 q27
                refine s_aload_n 2 (pc := 97) dX7_copy_97 rfl rfl ?_
                refine s_iconst (v := 2) (pc := 98) dX7_copy_98 rfl ?_
                obtain ⟨r30, σ28, hk29, h⟩ := h
                refine s_callV (S := []) [.int 2] (pc := 99) dX7_copy_99 mv_X7_find ml_X7_123 ⟨Nat.le_of_ble_eq_true rfl, Nat.le_of_ble_eq_true rfl⟩ rfl rfl ly0 rfl rfl (Nat.le_of_ble_eq_true rfl) hk29 ?_
                exact s_ret (r := some (.int r30)) ⟨dX7_copy_102, fun ty e => by cases e; rfl⟩ rfl h
          · replace h := h.2 q16
            refine s_aload_n 2 (pc := 68) dX7_copy_68 rfl rfl ?_
            refine s_iconst (v := 4) (pc := 69) dX7_copy_69 rfl ?_
            obtain ⟨r33, σ31, hk32, h⟩ := h
            refine s_callV (S := []) [.int 4] (pc := 70) dX7_copy_70 mv_X7_find ml_X7_123 ⟨Nat.le_of_ble_eq_true rfl, Nat.le_of_ble_eq_true rfl⟩ rfl rfl ly0 rfl rfl (Nat.le_of_ble_eq_true rfl) hk32 ?_
            exact s_ret (r := some (.int r33)) ⟨dX7_copy_73, fun ty e => by cases e; rfl⟩ rfl h
        · replace h := h.2 q15
          refine s_aload_n 2 (pc := 49) dX7_copy_49 rfl rfl ?_
          refine s_iconst (v := 1) (pc := 50) dX7_copy_50 rfl ?_
          obtain ⟨r36, σ34, hk35, h⟩ := h
          refine s_callV (S := []) [.int 1] (pc := 51) dX7_copy_51 mv_X7_find ml_X7_123 ⟨Nat.le_of_ble_eq_true rfl, Nat.le_of_ble_eq_true rfl⟩ rfl rfl ly0 rfl rfl (Nat.le_of_ble_eq_true rfl) hk35 ?_
          exact s_ret (r := some (.int r36)) ⟨dX7_copy_54, fun ty e => by cases e; rfl⟩ rfl h
    · replace h := h.2 q8
      refine s_bipush (v := (-2)) (pc := 14) dX7_copy_14 rfl ?_
      exact s_ret (r := some (.int (-2))) ⟨dX7_copy_16, fun ty e => by cases e; rfl⟩ rfl h
set_option maxRecDepth 10000 in
set_option maxHeartbeats 4000000 in
theorem tX7_write_0 {E : Ev} {x1 : Int32} {x2 : Int32} {σ : Hp} {Φ : Option Value → Hp → Prop}  (h : ∃ (r3 : Int32) (σ1 : Hp), Call E mX0_has [.ref 2, .int x1] σ (some (.int r3)) σ1 ∧ ((r3 = 0 → Φ (some (.int (-2))) σ1) ∧ (¬ r3 = 0 → ∃ (r7 : Int32) (σ5 : Hp), Call E mX7_isSheet [.int x2] σ1 (some (.int r7)) σ5 ∧ ((¬ r7 = 0 → vp_in x2 4 ∧ (((σ5 (45 + 2 * (x2).toNatClampNeg) 1) = 0 → Ru E mX7_write 55 [(0, .ref 0), (1, .int x1), (2, .int x2), (3, .ref (45 + 2 * (x2).toNatClampNeg)), (4, .int (if 20 < (σ5 (45 + 2 * (x2).toNatClampNeg) 3) then 20 else (σ5 (45 + 2 * (x2).toNatClampNeg) 3))), (5, .int 0)] [] σ5 Φ) ∧ (¬ (σ5 (45 + 2 * (x2).toNatClampNeg) 1) = 0 → ∃ (r13 : Int32) (σ11 : Hp), Call E mX7_find [.ref 0, .int 1] σ5 (some (.int r13)) σ11 ∧ Φ (some (.int r13)) σ11))) ∧ (r7 = 0 → Φ (some (.int (-2))) σ5))))) : Ru E mX7_write 0 [(0, .ref 0), (1, .int x1), (2, .int x2)] [] σ Φ := by
  refine s_aload_n 0 (pc := 0) dX7_write_0 rfl rfl ?_
  refine s_getR (q := 2) (pc := 1) dX7_write_1 fl_X7_20 ly0 rfl ?_
  refine s_iload_n 1 (pc := 4) dX7_write_4 rfl rfl ?_
  obtain ⟨r3, σ1, hk2, h⟩ := h
  refine s_callV (S := []) [.int x1] (pc := 5) dX7_write_5 mv_X0_has ml_X7_82 ⟨Nat.le_of_ble_eq_true rfl, Nat.le_of_ble_eq_true rfl⟩ rfl rfl ly2 rfl rfl (Nat.le_of_ble_eq_true rfl) hk2 ?_
  refine s_if_eq (pc := 8) (tgt := 18) dX7_write_8 rfl (fun q4 => ?_) (fun q4 => ?_)
  · replace h := h.1 q4
    refine s_bipush (v := (-2)) (pc := 18) dX7_write_18 rfl ?_
    exact s_ret (r := some (.int (-2))) ⟨dX7_write_20, fun ty e => by cases e; rfl⟩ rfl h
  · replace h := h.2 q4
    refine s_iload_n 2 (pc := 11) dX7_write_11 rfl rfl ?_
    obtain ⟨r7, σ5, hk6, h⟩ := h
    refine s_callS (S := []) [.int x2] (pc := 12) dX7_write_12 ms_X7_isSheet ml_X7_116 ⟨Nat.le_of_ble_eq_true rfl, Nat.le_of_ble_eq_true rfl⟩ rfl rfl (Nat.le_of_ble_eq_true rfl) hk6 ?_
    refine s_if_ne (pc := 15) (tgt := 21) dX7_write_15 rfl (fun q8 => ?_) (fun q8 => ?_)
    · replace h := h.1 q8
      refine s_aload_n 0 (pc := 21) dX7_write_21 rfl rfl ?_
      refine s_getR (q := 44) (pc := 22) dX7_write_22 fl_X7_67 ly0 rfl ?_
      refine s_iload_n 2 (pc := 25) dX7_write_25 rfl rfl ?_
      have hv9 := h.1
      replace h := h.2
      refine s_aaldS (pc := 26) dX7_write_26 ly44 hv9 ?_
      refine s_astore_n (L' := [(3, .ref (45 + 2 * (x2).toNatClampNeg)), (0, .ref 0), (1, .int x1), (2, .int x2)]) (pc := 27) dX7_write_27 rfl (Nat.le_of_ble_eq_true rfl) rfl ?_
      refine s_aload_n 0 (pc := 28) dX7_write_28 rfl rfl ?_
      refine s_getI (v := σ5 (45 + 2 * (x2).toNatClampNeg) 1) (pc := 29) dX7_write_29 fl_X7_119 (shC hv9).1 rfl rfl ?_
      refine s_if_eq (pc := 32) (tgt := 41) dX7_write_32 rfl (fun q10 => ?_) (fun q10 => ?_)
      · replace h := h.1 q10
        refine s_aload_n 0 (pc := 41) dX7_write_41 rfl rfl ?_
        refine s_getI (v := σ5 (45 + 2 * (x2).toNatClampNeg) 3) (pc := 42) dX7_write_42 fl_X7_127 (shC hv9).1 rfl rfl ?_
        refine s_bipush (v := 20) (pc := 45) dX7_write_45 rfl ?_
        refine s_min (pc := 47) dX7_write_47 ml_X7_282 mw_min1 mw_math mw_min3 (Nat.le_of_ble_eq_true rfl) (Nat.le_of_ble_eq_true rfl) ?_
        refine s_istore (L' := [(4, .int (if 20 < (σ5 (45 + 2 * (x2).toNatClampNeg) 3) then 20 else (σ5 (45 + 2 * (x2).toNatClampNeg) 3))), (3, .ref (45 + 2 * (x2).toNatClampNeg)), (0, .ref 0), (1, .int x1), (2, .int x2)]) (pc := 50) dX7_write_50 (Nat.le_of_ble_eq_true rfl) rfl ?_
        refine s_iconst (v := 0) (pc := 52) dX7_write_52 rfl ?_
        refine s_istore (L' := [(5, .int 0), (4, .int (if 20 < (σ5 (45 + 2 * (x2).toNatClampNeg) 3) then 20 else (σ5 (45 + 2 * (x2).toNatClampNeg) 3))), (3, .ref (45 + 2 * (x2).toNatClampNeg)), (0, .ref 0), (1, .int x1), (2, .int x2)]) (pc := 53) dX7_write_53 (Nat.le_of_ble_eq_true rfl) rfl ?_
        exact s_sub (L' := [(0, .ref 0), (1, .int x1), (2, .int x2), (3, .ref (45 + 2 * (x2).toNatClampNeg)), (4, .int (if 20 < (σ5 (45 + 2 * (x2).toNatClampNeg) 3) then 20 else (σ5 (45 + 2 * (x2).toNatClampNeg) 3))), (5, .int 0)]) [3, 4, 5, 2, 1, 0] rfl h
      · replace h := h.2 q10
        refine s_aload_n 1 (pc := 35) dX7_write_35 rfl rfl ?_
        refine s_iconst (v := 1) (pc := 36) dX7_write_36 rfl ?_
        obtain ⟨r13, σ11, hk12, h⟩ := h
        refine s_callV (S := []) [.int 1] (pc := 37) dX7_write_37 mv_X7_find ml_X7_123 ⟨Nat.le_of_ble_eq_true rfl, Nat.le_of_ble_eq_true rfl⟩ rfl rfl ly0 rfl rfl (Nat.le_of_ble_eq_true rfl) hk12 ?_
        exact s_ret (r := some (.int r13)) ⟨dX7_write_40, fun ty e => by cases e; rfl⟩ rfl h
    · replace h := h.2 q8
      refine s_bipush (v := (-2)) (pc := 18) dX7_write_18 rfl ?_
      exact s_ret (r := some (.int (-2))) ⟨dX7_write_20, fun ty e => by cases e; rfl⟩ rfl h
set_option maxRecDepth 10000 in
set_option maxHeartbeats 4000000 in
theorem tX7_write_55 {E : Ev} {x1 : Int32} {x2 : Int32} {c3 : Nat} {x4 : Int32} {x5 : Int32} {σ : Hp} {Φ : Option Value → Hp → Prop} (hc3 : IsSheet c3) (h : ((x4 ≤ x5 → Φ (some (.int x4)) σ) ∧ (¬ x4 ≤ x5 → ∃ (r4 : Int32) (σ2 : Hp), Call E mX1_all [.ref 12] σ (some (.int r4)) σ2 ∧ ∃ σ5 : Hp, Call E mX3_live [.ref 39, .ref 2, .ref 12, .int r4, .int x1, .int x5] σ2 none σ5 ∧ vp_in x5 60 ∧ Ru E mX7_write 55 [(0, .ref 0), (1, .int x1), (2, .int x2), (3, .ref c3), (4, .int x4), (5, .int (x5 + 1))] [] (up σ5 (c3 + 1) ((x5).toNatClampNeg) (σ5 39 5)) Φ))) : Ru E mX7_write 55 [(0, .ref 0), (1, .int x1), (2, .int x2), (3, .ref c3), (4, .int x4), (5, .int x5)] [] σ Φ := by
  refine s_iload 5 (pc := 55) dX7_write_55 rfl ?_
  refine s_iload 4 (pc := 57) dX7_write_57 rfl ?_
  refine s_icmp_ge (pc := 59) (tgt := 107) dX7_write_59 rfl (fun q1 => ?_) (fun q1 => ?_)
  · replace h := h.1 q1
    refine s_iload 4 (pc := 107) dX7_write_107 rfl ?_
    exact s_ret (r := some (.int x4)) ⟨dX7_write_109, fun ty e => by cases e; rfl⟩ rfl h
  · replace h := h.2 q1
    refine s_aload_n 0 (pc := 62) dX7_write_62 rfl rfl ?_
    refine s_getR (q := 39) (pc := 63) dX7_write_63 fl_X7_54 ly0 rfl ?_
    refine s_aload_n 0 (pc := 66) dX7_write_66 rfl rfl ?_
    refine s_getR (q := 2) (pc := 67) dX7_write_67 fl_X7_20 ly0 rfl ?_
    refine s_aload_n 0 (pc := 70) dX7_write_70 rfl rfl ?_
    refine s_getR (q := 12) (pc := 71) dX7_write_71 fl_X7_30 ly0 rfl ?_
    refine s_aload_n 0 (pc := 74) dX7_write_74 rfl rfl ?_
    refine s_getR (q := 12) (pc := 75) dX7_write_75 fl_X7_30 ly0 rfl ?_
    obtain ⟨r4, σ2, hk3, h⟩ := h
    refine s_callV (S := [.ref 12, .ref 2, .ref 39]) [] (pc := 78) dX7_write_78 mv_X1_all ml_X7_134 ⟨Nat.le_of_ble_eq_true rfl, Nat.le_of_ble_eq_true rfl⟩ rfl rfl ly12 rfl rfl (Nat.le_of_ble_eq_true rfl) hk3 ?_
    refine s_iload_n 1 (pc := 81) dX7_write_81 rfl rfl ?_
    refine s_iload 5 (pc := 82) dX7_write_82 rfl ?_
    obtain ⟨σ5, hk6, h⟩ := h
    refine s_callV (S := []) [.ref 2, .ref 12, .int r4, .int x1, .int x5] (pc := 84) dX7_write_84 mv_X3_live ml_X7_138 ⟨Nat.le_of_ble_eq_true rfl, Nat.le_of_ble_eq_true rfl⟩ rfl rfl ly39 rfl rfl (Nat.le_of_ble_eq_true rfl) hk6 ?_
    refine s_aload_n 3 (pc := 87) dX7_write_87 rfl rfl ?_
    refine s_getR (q := c3 + 1) (pc := 88) dX7_write_88 fl_X7_128 hc3.1 rfl ?_
    refine s_iload 5 (pc := 91) dX7_write_91 rfl ?_
    refine s_aload_n 0 (pc := 93) dX7_write_93 rfl rfl ?_
    refine s_getR (q := 39) (pc := 94) dX7_write_94 fl_X7_54 ly0 rfl ?_
    refine s_getI (v := σ5 39 5) (pc := 97) dX7_write_97 fl_X7_147 ly39 rfl rfl ?_
    have hv7 := h.1
    replace h := h.2
    refine s_iast (pc := 100) dX7_write_100 hc3.2 hv7 ?_
    refine s_iinc (v := x5 + 1) (L' := [(5, .int (x5 + 1)), (0, .ref 0), (1, .int x1), (2, .int x2), (3, .ref c3), (4, .int x4)]) 5 (pc := 101) dX7_write_101 rfl rfl (Nat.le_of_ble_eq_true rfl) rfl ?_
    refine s_goto (pc := 104) (tgt := 55) dX7_write_104 rfl ?_
    exact s_sub (L' := [(0, .ref 0), (1, .int x1), (2, .int x2), (3, .ref c3), (4, .int x4), (5, .int (x5 + 1))]) [1, 2, 3, 4, 5, 0] rfl h
set_option maxRecDepth 10000 in
set_option maxHeartbeats 4000000 in
theorem tX7_count_0 {E : Ev} {x1 : Int32} {σ : Hp} {Φ : Option Value → Hp → Prop}  (h : ((x1 = (0 : Int32) → Φ (some (.int (σ 2 4))) σ) ∧ (x1 = (1 : Int32) → Φ (some (.int (σ 0 1))) σ) ∧ (x1 = (2 : Int32) → Φ (some (.int (σ 12 5))) σ) ∧ (x1 = (3 : Int32) → ∃ (r7 : Int32) (σ5 : Hp), Call E mX7_pairs [.ref 0, .int 19, .int 0] σ (some (.int r7)) σ5 ∧ Φ (some (.int r7)) σ5) ∧ (x1 = (4 : Int32) → ∃ (r11 : Int32) (σ9 : Hp), Call E mX7_pairs [.ref 0, .int 19, .int 1] σ (some (.int r11)) σ9 ∧ Φ (some (.int r11)) σ9) ∧ (x1 = (5 : Int32) → ∃ (r15 : Int32) (σ13 : Hp), Call E mX7_closed [.ref 0, .int 19] σ (some (.int r15)) σ13 ∧ ∃ (r18 : Int32) (σ16 : Hp), Call E mJ6_bitCount_0f7a4 [.int r15] σ13 (some (.int r18)) σ16 ∧ Φ (some (.int r18)) σ16) ∧ (x1 = (6 : Int32) → ∃ σ20 : Hp, Call E mX7_comeTo [.ref 0, .int 19] σ none σ20 ∧ ∃ (r24 : Int32) (σ22 : Hp), Call E mX6_sighs [.ref 29] σ20 (some (.int r24)) σ22 ∧ Φ (some (.int r24)) σ22) ∧ (x1 = (7 : Int32) → Φ (some (.int (σ 24 4))) σ) ∧ (x1 = (8 : Int32) → Φ (some (.int (σ 0 12))) σ) ∧ (¬ x1 = (0 : Int32) ∧ ¬ x1 = (1 : Int32) ∧ ¬ x1 = (2 : Int32) ∧ ¬ x1 = (3 : Int32) ∧ ¬ x1 = (4 : Int32) ∧ ¬ x1 = (5 : Int32) ∧ ¬ x1 = (6 : Int32) ∧ ¬ x1 = (7 : Int32) ∧ ¬ x1 = (8 : Int32) → Φ (some (.int (-2))) σ))) : Ru E mX7_count 0 [(0, .ref 0), (1, .int x1)] [] σ Φ := by
  refine s_iload_n 1 (pc := 0) dX7_count_0 rfl rfl ?_
  by_cases q1 : x1 = (0 : Int32)
  · replace h := h.1 q1
    refine s_tin (pc := 1) (tgt := 52) 0 dX7_count_1 (by rw [q1]; rfl) (by decide) (by decide) rfl rfl ?_
    refine s_aload_n 0 (pc := 52) dX7_count_52 rfl rfl ?_
    refine s_getR (q := 2) (pc := 53) dX7_count_53 fl_X7_20 ly0 rfl ?_
    refine s_getI (v := σ 2 4) (pc := 56) dX7_count_56 fl_X7_212 ly2 rfl rfl ?_
    exact s_ret (r := some (.int (σ 2 4))) ⟨dX7_count_59, fun ty e => by cases e; rfl⟩ rfl h
  replace h := h.2
  by_cases q2 : x1 = (1 : Int32)
  · replace h := h.1 q2
    refine s_tin (pc := 1) (tgt := 60) 1 dX7_count_1 (by rw [q2]; rfl) (by decide) (by decide) rfl rfl ?_
    refine s_aload_n 0 (pc := 60) dX7_count_60 rfl rfl ?_
    refine s_getI (v := σ 0 1) (pc := 61) dX7_count_61 fl_X7_76 ly0 rfl rfl ?_
    exact s_ret (r := some (.int (σ 0 1))) ⟨dX7_count_64, fun ty e => by cases e; rfl⟩ rfl h
  replace h := h.2
  by_cases q3 : x1 = (2 : Int32)
  · replace h := h.1 q3
    refine s_tin (pc := 1) (tgt := 65) 2 dX7_count_1 (by rw [q3]; rfl) (by decide) (by decide) rfl rfl ?_
    refine s_aload_n 0 (pc := 65) dX7_count_65 rfl rfl ?_
    refine s_getR (q := 12) (pc := 66) dX7_count_66 fl_X7_30 ly0 rfl ?_
    refine s_getI (v := σ 12 5) (pc := 69) dX7_count_69 fl_X7_110 ly12 rfl rfl ?_
    exact s_ret (r := some (.int (σ 12 5))) ⟨dX7_count_72, fun ty e => by cases e; rfl⟩ rfl h
  replace h := h.2
  by_cases q4 : x1 = (3 : Int32)
  · replace h := h.1 q4
    refine s_tin (pc := 1) (tgt := 73) 3 dX7_count_1 (by rw [q4]; rfl) (by decide) (by decide) rfl rfl ?_
    refine s_aload_n 0 (pc := 73) dX7_count_73 rfl rfl ?_
    refine s_bipush (v := 19) (pc := 74) dX7_count_74 rfl ?_
    refine s_iconst (v := 0) (pc := 76) dX7_count_76 rfl ?_
    obtain ⟨r7, σ5, hk6, h⟩ := h
    refine s_callV (S := []) [.int 19, .int 0] (pc := 77) dX7_count_77 mv_X7_pairs ml_X7_287 ⟨Nat.le_of_ble_eq_true rfl, Nat.le_of_ble_eq_true rfl⟩ rfl rfl ly0 rfl rfl (Nat.le_of_ble_eq_true rfl) hk6 ?_
    exact s_ret (r := some (.int r7)) ⟨dX7_count_80, fun ty e => by cases e; rfl⟩ rfl h
  replace h := h.2
  by_cases q8 : x1 = (4 : Int32)
  · replace h := h.1 q8
    refine s_tin (pc := 1) (tgt := 81) 4 dX7_count_1 (by rw [q8]; rfl) (by decide) (by decide) rfl rfl ?_
    refine s_aload_n 0 (pc := 81) dX7_count_81 rfl rfl ?_
    refine s_bipush (v := 19) (pc := 82) dX7_count_82 rfl ?_
    refine s_iconst (v := 1) (pc := 84) dX7_count_84 rfl ?_
    obtain ⟨r11, σ9, hk10, h⟩ := h
    refine s_callV (S := []) [.int 19, .int 1] (pc := 85) dX7_count_85 mv_X7_pairs ml_X7_287 ⟨Nat.le_of_ble_eq_true rfl, Nat.le_of_ble_eq_true rfl⟩ rfl rfl ly0 rfl rfl (Nat.le_of_ble_eq_true rfl) hk10 ?_
    exact s_ret (r := some (.int r11)) ⟨dX7_count_88, fun ty e => by cases e; rfl⟩ rfl h
  replace h := h.2
  by_cases q12 : x1 = (5 : Int32)
  · replace h := h.1 q12
    refine s_tin (pc := 1) (tgt := 89) 5 dX7_count_1 (by rw [q12]; rfl) (by decide) (by decide) rfl rfl ?_
    refine s_aload_n 0 (pc := 89) dX7_count_89 rfl rfl ?_
    refine s_bipush (v := 19) (pc := 90) dX7_count_90 rfl ?_
    obtain ⟨r15, σ13, hk14, h⟩ := h
    refine s_callV (S := []) [.int 19] (pc := 92) dX7_count_92 mv_X7_closed ml_X7_290 ⟨Nat.le_of_ble_eq_true rfl, Nat.le_of_ble_eq_true rfl⟩ rfl rfl ly0 rfl rfl (Nat.le_of_ble_eq_true rfl) hk14 ?_
    obtain ⟨r18, σ16, hk17, h⟩ := h
    refine s_callS (S := []) [.int r15] (pc := 95) dX7_count_95 ms_J6_bitCount_0f7a4 ml_X7_219 ⟨Nat.le_of_ble_eq_true rfl, Nat.le_of_ble_eq_true rfl⟩ rfl rfl (Nat.le_of_ble_eq_true rfl) hk17 ?_
    exact s_ret (r := some (.int r18)) ⟨dX7_count_98, fun ty e => by cases e; rfl⟩ rfl h
  replace h := h.2
  by_cases q19 : x1 = (6 : Int32)
  · replace h := h.1 q19
    refine s_tin (pc := 1) (tgt := 99) 6 dX7_count_1 (by rw [q19]; rfl) (by decide) (by decide) rfl rfl ?_
    refine s_aload_n 0 (pc := 99) dX7_count_99 rfl rfl ?_
    refine s_bipush (v := 19) (pc := 100) dX7_count_100 rfl ?_
    obtain ⟨σ20, hk21, h⟩ := h
    refine s_callV (S := []) [.int 19] (pc := 102) dX7_count_102 mv_X7_comeTo ml_X7_167 ⟨Nat.le_of_ble_eq_true rfl, Nat.le_of_ble_eq_true rfl⟩ rfl rfl ly0 rfl rfl (Nat.le_of_ble_eq_true rfl) hk21 ?_
    refine s_aload_n 0 (pc := 105) dX7_count_105 rfl rfl ?_
    refine s_getR (q := 29) (pc := 106) dX7_count_106 fl_X7_47 ly0 rfl ?_
    obtain ⟨r24, σ22, hk23, h⟩ := h
    refine s_callV (S := []) [] (pc := 109) dX7_count_109 mv_X6_sighs ml_X7_293 ⟨Nat.le_of_ble_eq_true rfl, Nat.le_of_ble_eq_true rfl⟩ rfl rfl ly29 rfl rfl (Nat.le_of_ble_eq_true rfl) hk23 ?_
    exact s_ret (r := some (.int r24)) ⟨dX7_count_112, fun ty e => by cases e; rfl⟩ rfl h
  replace h := h.2
  by_cases q25 : x1 = (7 : Int32)
  · replace h := h.1 q25
    refine s_tin (pc := 1) (tgt := 113) 7 dX7_count_1 (by rw [q25]; rfl) (by decide) (by decide) rfl rfl ?_
    refine s_aload_n 0 (pc := 113) dX7_count_113 rfl rfl ?_
    refine s_getR (q := 24) (pc := 114) dX7_count_114 fl_X7_40 ly0 rfl ?_
    refine s_getI (v := σ 24 4) (pc := 117) dX7_count_117 fl_X7_231 ly24 rfl rfl ?_
    exact s_ret (r := some (.int (σ 24 4))) ⟨dX7_count_120, fun ty e => by cases e; rfl⟩ rfl h
  replace h := h.2
  by_cases q26 : x1 = (8 : Int32)
  · replace h := h.1 q26
    refine s_tin (pc := 1) (tgt := 121) 8 dX7_count_1 (by rw [q26]; rfl) (by decide) (by decide) rfl rfl ?_
    refine s_aload_n 0 (pc := 121) dX7_count_121 rfl rfl ?_
    refine s_getI (v := σ 0 12) (pc := 122) dX7_count_122 fl_X7_295 ly0 rfl rfl ?_
    exact s_ret (r := some (.int (σ 0 12))) ⟨dX7_count_125, fun ty e => by cases e; rfl⟩ rfl h
  replace h := h.2
  replace h := h ⟨q1, q2, q3, q4, q8, q12, q19, q25, q26⟩
  refine s_tout (pc := 1) (tgt := 126) dX7_count_1 (tsw_out 9 x1 (lt_s (lt_s (lt_s (lt_s (lt_s (lt_s (lt_s (lt_s (lt_s lt_0 q1) q2) q3) q4) q8) q12) q19) q25) q26)) rfl ?_
  refine s_bipush (v := (-2)) (pc := 126) dX7_count_126 rfl ?_
  exact s_ret (r := some (.int (-2))) ⟨dX7_count_128, fun ty e => by cases e; rfl⟩ rfl h
set_option maxRecDepth 10000 in
set_option maxHeartbeats 4000000 in
theorem tX7_digest_0 {E : Ev}  {σ : Hp} {Φ : Option Value → Hp → Prop}  (h : Ru E mX7_digest 6 [(0, .ref 0), (1, .long 17), (3, .int 0)] [] σ Φ) : Ru E mX7_digest 0 [(0, .ref 0)] [] σ Φ := by
  refine s_ldc2 (v := 17) (pc := 0) dX7_digest_0 ct_X7_298 ?_
  refine s_lstore_n (L' := [(1, .long 17), (0, .ref 0)]) (pc := 3) dX7_digest_3 rfl (Nat.le_of_ble_eq_true rfl) rfl ?_
  refine s_iconst (v := 0) (pc := 4) dX7_digest_4 rfl ?_
  refine s_istore_n (L' := [(3, .int 0), (1, .long 17), (0, .ref 0)]) (pc := 5) dX7_digest_5 rfl (Nat.le_of_ble_eq_true rfl) rfl ?_
  exact s_sub (L' := [(0, .ref 0), (1, .long 17), (3, .int 0)]) [2, 1, 0] rfl h
set_option maxRecDepth 10000 in
set_option maxHeartbeats 4000000 in
theorem tX7_digest_6 {E : Ev} {x1 : Int64} {x3 : Int32} {σ : Hp} {Φ : Option Value → Hp → Prop}  (h : ((7 < x3 → ∃ (r4 : Int32) (σ2 : Hp), Call E mX7_fault [.ref 0] σ (some (.int r4)) σ2 ∧ ∃ (r7 : Int64) (σ5 : Hp), Call E mX7_mix [.long x1, .long (Int32.toInt64 r4)] σ2 (some (.long r7)) σ5 ∧ Ru E mX7_digest 41 [(0, .ref 0), (1, .long r7), (3, .int 0)] [] σ5 Φ) ∧ (¬ 7 < x3 → ∃ (r10 : Int32) (σ8 : Hp), Call E mX7_count [.ref 0, .int x3] σ (some (.int r10)) σ8 ∧ ∃ (r13 : Int64) (σ11 : Hp), Call E mX7_mix [.long x1, .long (Int32.toInt64 r10)] σ8 (some (.long r13)) σ11 ∧ Ru E mX7_digest 6 [(0, .ref 0), (1, .long r13), (3, .int (x3 + 1))] [] σ11 Φ))) : Ru E mX7_digest 6 [(0, .ref 0), (1, .long x1), (3, .int x3)] [] σ Φ := by
  refine s_iload_n 2 (pc := 6) dX7_digest_6 rfl rfl ?_
  refine s_bipush (v := 7) (pc := 7) dX7_digest_7 rfl ?_
  refine s_icmp_gt (pc := 9) (tgt := 29) dX7_digest_9 rfl (fun q1 => ?_) (fun q1 => ?_)
  · replace h := h.1 q1
    refine s_lload_n 1 (pc := 29) dX7_digest_29 rfl rfl ?_
    refine s_aload_n 0 (pc := 30) dX7_digest_30 rfl rfl ?_
    obtain ⟨r4, σ2, hk3, h⟩ := h
    refine s_callV (S := [.long x1]) [] (pc := 31) dX7_digest_31 mv_X7_fault ml_X7_307 ⟨Nat.le_of_ble_eq_true rfl, Nat.le_of_ble_eq_true rfl⟩ rfl rfl ly0 rfl rfl (Nat.le_of_ble_eq_true rfl) hk3 ?_
    refine s_i2l (pc := 34) dX7_digest_34 ?_
    obtain ⟨r7, σ5, hk6, h⟩ := h
    refine s_callS (S := []) [.long x1, .long (Int32.toInt64 r4)] (pc := 35) dX7_digest_35 ms_X7_mix ml_X7_303 ⟨Nat.le_of_ble_eq_true rfl, Nat.le_of_ble_eq_true rfl⟩ rfl rfl (Nat.le_of_ble_eq_true rfl) hk6 ?_
    refine s_lstore_n (L' := [(1, .long r7), (0, .ref 0), (3, .int x3)]) (pc := 38) dX7_digest_38 rfl (Nat.le_of_ble_eq_true rfl) rfl ?_
    refine s_iconst (v := 0) (pc := 39) dX7_digest_39 rfl ?_
    refine s_istore_n (L' := [(3, .int 0), (1, .long r7), (0, .ref 0)]) (pc := 40) dX7_digest_40 rfl (Nat.le_of_ble_eq_true rfl) rfl ?_
    exact s_sub (L' := [(0, .ref 0), (1, .long r7), (3, .int 0)]) [2, 1, 0] rfl h
  · replace h := h.2 q1
    refine s_lload_n 1 (pc := 12) dX7_digest_12 rfl rfl ?_
    refine s_aload_n 0 (pc := 13) dX7_digest_13 rfl rfl ?_
    refine s_iload_n 2 (pc := 14) dX7_digest_14 rfl rfl ?_
    obtain ⟨r10, σ8, hk9, h⟩ := h
    refine s_callV (S := [.long x1]) [.int x3] (pc := 15) dX7_digest_15 mv_X7_count ml_X7_300 ⟨Nat.le_of_ble_eq_true rfl, Nat.le_of_ble_eq_true rfl⟩ rfl rfl ly0 rfl rfl (Nat.le_of_ble_eq_true rfl) hk9 ?_
    refine s_i2l (pc := 18) dX7_digest_18 ?_
    obtain ⟨r13, σ11, hk12, h⟩ := h
    refine s_callS (S := []) [.long x1, .long (Int32.toInt64 r10)] (pc := 19) dX7_digest_19 ms_X7_mix ml_X7_303 ⟨Nat.le_of_ble_eq_true rfl, Nat.le_of_ble_eq_true rfl⟩ rfl rfl (Nat.le_of_ble_eq_true rfl) hk12 ?_
    refine s_lstore_n (L' := [(1, .long r13), (0, .ref 0), (3, .int x3)]) (pc := 22) dX7_digest_22 rfl (Nat.le_of_ble_eq_true rfl) rfl ?_
    refine s_iinc (v := x3 + 1) (L' := [(3, .int (x3 + 1)), (1, .long r13), (0, .ref 0)]) 2 (pc := 23) dX7_digest_23 rfl rfl (Nat.le_of_ble_eq_true rfl) rfl ?_
    refine s_goto (pc := 26) (tgt := 6) dX7_digest_26 rfl ?_
    exact s_sub (L' := [(0, .ref 0), (1, .long r13), (3, .int (x3 + 1))]) [2, 1, 0] rfl h
set_option maxRecDepth 10000 in
set_option maxHeartbeats 4000000 in
theorem tX7_digest_41 {E : Ev} {x1 : Int64} {x3 : Int32} {σ : Hp} {Φ : Option Value → Hp → Prop}  (h : (((σ 2 4) ≤ x3 → ∃ (r4 : Int64) (σ2 : Hp), Call E mX7_mixPairs [.ref 0, .long x1] σ (some (.long r4)) σ2 ∧ ∃ (r7 : Int64) (σ5 : Hp), Call E mX7_mixDays [.ref 0, .long r4] σ2 (some (.long r7)) σ5 ∧ ∃ (r10 : Int32) (σ8 : Hp), Call E mX7_holes [.ref 0] σ5 (some (.int r10)) σ8 ∧ ∃ (r13 : Int64) (σ11 : Hp), Call E mX7_mix [.long r7, .long (Int32.toInt64 r10)] σ8 (some (.long r13)) σ11 ∧ Ru E mX7_digest 87 [(0, .ref 0), (1, .long r13), (3, .int 0)] [] σ11 Φ) ∧ (¬ (σ 2 4) ≤ x3 → ∃ (r16 : Int64) (σ14 : Hp), Call E mX7_mixCouple [.ref 0, .long x1, .int x3] σ (some (.long r16)) σ14 ∧ Ru E mX7_digest 41 [(0, .ref 0), (1, .long r16), (3, .int (x3 + 1))] [] σ14 Φ))) : Ru E mX7_digest 41 [(0, .ref 0), (1, .long x1), (3, .int x3)] [] σ Φ := by
  refine s_iload_n 2 (pc := 41) dX7_digest_41 rfl rfl ?_
  refine s_aload_n 0 (pc := 42) dX7_digest_42 rfl rfl ?_
  refine s_getR (q := 2) (pc := 43) dX7_digest_43 fl_X7_20 ly0 rfl ?_
  refine s_getI (v := σ 2 4) (pc := 46) dX7_digest_46 fl_X7_212 ly2 rfl rfl ?_
  refine s_icmp_ge (pc := 49) (tgt := 65) dX7_digest_49 rfl (fun q1 => ?_) (fun q1 => ?_)
  · replace h := h.1 q1
    refine s_aload_n 0 (pc := 65) dX7_digest_65 rfl rfl ?_
    refine s_aload_n 0 (pc := 66) dX7_digest_66 rfl rfl ?_
    refine s_lload_n 1 (pc := 67) dX7_digest_67 rfl rfl ?_
    obtain ⟨r4, σ2, hk3, h⟩ := h
    refine s_callV (S := [.ref 0]) [.long x1] (pc := 68) dX7_digest_68 mv_X7_mixPairs ml_X7_314 ⟨Nat.le_of_ble_eq_true rfl, Nat.le_of_ble_eq_true rfl⟩ rfl rfl ly0 rfl rfl (Nat.le_of_ble_eq_true rfl) hk3 ?_
    obtain ⟨r7, σ5, hk6, h⟩ := h
    refine s_callV (S := []) [.long r4] (pc := 71) dX7_digest_71 mv_X7_mixDays ml_X7_318 ⟨Nat.le_of_ble_eq_true rfl, Nat.le_of_ble_eq_true rfl⟩ rfl rfl ly0 rfl rfl (Nat.le_of_ble_eq_true rfl) hk6 ?_
    refine s_lstore_n (L' := [(1, .long r7), (0, .ref 0), (3, .int x3)]) (pc := 74) dX7_digest_74 rfl (Nat.le_of_ble_eq_true rfl) rfl ?_
    refine s_lload_n 0 (pc := 75) dX7_digest_75 rfl rfl ?_
    refine s_aload_n 1 (pc := 76) dX7_digest_76 rfl rfl ?_
    obtain ⟨r10, σ8, hk9, h⟩ := h
    refine s_callV (S := [.long r7]) [] (pc := 77) dX7_digest_77 mv_X7_holes ml_X7_321 ⟨Nat.le_of_ble_eq_true rfl, Nat.le_of_ble_eq_true rfl⟩ rfl rfl ly0 rfl rfl (Nat.le_of_ble_eq_true rfl) hk9 ?_
    refine s_i2l (pc := 80) dX7_digest_80 ?_
    obtain ⟨r13, σ11, hk12, h⟩ := h
    refine s_callS (S := []) [.long r7, .long (Int32.toInt64 r10)] (pc := 81) dX7_digest_81 ms_X7_mix ml_X7_303 ⟨Nat.le_of_ble_eq_true rfl, Nat.le_of_ble_eq_true rfl⟩ rfl rfl (Nat.le_of_ble_eq_true rfl) hk12 ?_
    refine s_lstore_n (L' := [(1, .long r13), (0, .ref 0), (3, .int x3)]) (pc := 84) dX7_digest_84 rfl (Nat.le_of_ble_eq_true rfl) rfl ?_
    refine s_iconst (v := 0) (pc := 85) dX7_digest_85 rfl ?_
    refine s_istore_n (L' := [(3, .int 0), (1, .long r13), (0, .ref 0)]) (pc := 86) dX7_digest_86 rfl (Nat.le_of_ble_eq_true rfl) rfl ?_
    exact s_sub (L' := [(0, .ref 0), (1, .long r13), (3, .int 0)]) [2, 1, 0] rfl h
  · replace h := h.2 q1
    refine s_aload_n 0 (pc := 52) dX7_digest_52 rfl rfl ?_
    refine s_lload_n 1 (pc := 53) dX7_digest_53 rfl rfl ?_
    refine s_iload_n 2 (pc := 54) dX7_digest_54 rfl rfl ?_
    obtain ⟨r16, σ14, hk15, h⟩ := h
    refine s_callV (S := []) [.long x1, .int x3] (pc := 55) dX7_digest_55 mv_X7_mixCouple ml_X7_310 ⟨Nat.le_of_ble_eq_true rfl, Nat.le_of_ble_eq_true rfl⟩ rfl rfl ly0 rfl rfl (Nat.le_of_ble_eq_true rfl) hk15 ?_
    refine s_lstore_n (L' := [(1, .long r16), (0, .ref 0), (3, .int x3)]) (pc := 58) dX7_digest_58 rfl (Nat.le_of_ble_eq_true rfl) rfl ?_
    refine s_iinc (v := x3 + 1) (L' := [(3, .int (x3 + 1)), (1, .long r16), (0, .ref 0)]) 2 (pc := 59) dX7_digest_59 rfl rfl (Nat.le_of_ble_eq_true rfl) rfl ?_
    refine s_goto (pc := 62) (tgt := 41) dX7_digest_62 rfl ?_
    exact s_sub (L' := [(0, .ref 0), (1, .long r16), (3, .int (x3 + 1))]) [2, 1, 0] rfl h
set_option maxRecDepth 10000 in
set_option maxHeartbeats 4000000 in
theorem tX7_digest_87 {E : Ev} {x1 : Int64} {x3 : Int32} {σ : Hp} {Φ : Option Value → Hp → Prop}  (h : ((2 < x3 → Ru E mX7_digest 111 [(0, .ref 0), (1, .long x1), (3, .int 0)] [] σ Φ) ∧ (¬ 2 < x3 → ∃ (r4 : Int32) (σ2 : Hp), Call E mX7_meets [.ref 0, .int x3] σ (some (.int r4)) σ2 ∧ ∃ (r7 : Int64) (σ5 : Hp), Call E mX7_mix [.long x1, .long (Int32.toInt64 r4)] σ2 (some (.long r7)) σ5 ∧ Ru E mX7_digest 87 [(0, .ref 0), (1, .long r7), (3, .int (x3 + 1))] [] σ5 Φ))) : Ru E mX7_digest 87 [(0, .ref 0), (1, .long x1), (3, .int x3)] [] σ Φ := by
  refine s_iload_n 2 (pc := 87) dX7_digest_87 rfl rfl ?_
  refine s_iconst (v := 2) (pc := 88) dX7_digest_88 rfl ?_
  refine s_icmp_gt (pc := 89) (tgt := 109) dX7_digest_89 rfl (fun q1 => ?_) (fun q1 => ?_)
  · replace h := h.1 q1
    refine s_iconst (v := 0) (pc := 109) dX7_digest_109 rfl ?_
    refine s_istore_n (L' := [(3, .int 0), (0, .ref 0), (1, .long x1)]) (pc := 110) dX7_digest_110 rfl (Nat.le_of_ble_eq_true rfl) rfl ?_
    exact s_sub (L' := [(0, .ref 0), (1, .long x1), (3, .int 0)]) [1, 2, 0] rfl h
  · replace h := h.2 q1
    refine s_lload_n 1 (pc := 92) dX7_digest_92 rfl rfl ?_
    refine s_aload_n 0 (pc := 93) dX7_digest_93 rfl rfl ?_
    refine s_iload_n 2 (pc := 94) dX7_digest_94 rfl rfl ?_
    obtain ⟨r4, σ2, hk3, h⟩ := h
    refine s_callV (S := [.long x1]) [.int x3] (pc := 95) dX7_digest_95 mv_X7_meets ml_X7_324 ⟨Nat.le_of_ble_eq_true rfl, Nat.le_of_ble_eq_true rfl⟩ rfl rfl ly0 rfl rfl (Nat.le_of_ble_eq_true rfl) hk3 ?_
    refine s_i2l (pc := 98) dX7_digest_98 ?_
    obtain ⟨r7, σ5, hk6, h⟩ := h
    refine s_callS (S := []) [.long x1, .long (Int32.toInt64 r4)] (pc := 99) dX7_digest_99 ms_X7_mix ml_X7_303 ⟨Nat.le_of_ble_eq_true rfl, Nat.le_of_ble_eq_true rfl⟩ rfl rfl (Nat.le_of_ble_eq_true rfl) hk6 ?_
    refine s_lstore_n (L' := [(1, .long r7), (0, .ref 0), (3, .int x3)]) (pc := 102) dX7_digest_102 rfl (Nat.le_of_ble_eq_true rfl) rfl ?_
    refine s_iinc (v := x3 + 1) (L' := [(3, .int (x3 + 1)), (1, .long r7), (0, .ref 0)]) 2 (pc := 103) dX7_digest_103 rfl rfl (Nat.le_of_ble_eq_true rfl) rfl ?_
    refine s_goto (pc := 106) (tgt := 87) dX7_digest_106 rfl ?_
    exact s_sub (L' := [(0, .ref 0), (1, .long r7), (3, .int (x3 + 1))]) [2, 1, 0] rfl h
set_option maxRecDepth 10000 in
set_option maxHeartbeats 4000000 in
theorem tX7_digest_111 {E : Ev} {x1 : Int64} {x3 : Int32} {σ : Hp} {Φ : Option Value → Hp → Prop}  (h : ((2 < x3 → ∃ (r4 : Int32) (σ2 : Hp), Call E mX7_drop [.ref 0, .int (-1)] σ (some (.int r4)) σ2 ∧ ∃ (r7 : Int64) (σ5 : Hp), Call E mX7_mix [.long x1, .long (Int32.toInt64 r4)] σ2 (some (.long r7)) σ5 ∧ ∃ (r10 : Int32) (σ8 : Hp), Call E mX7_drop [.ref 0, .int 0] σ5 (some (.int r10)) σ8 ∧ ∃ (r13 : Int64) (σ11 : Hp), Call E mX7_mix [.long r7, .long (Int32.toInt64 r10)] σ8 (some (.long r13)) σ11 ∧ ∃ (r16 : Int32) (σ14 : Hp), Call E mX7_never [.ref 0] σ11 (some (.int r16)) σ14 ∧ ∃ (r19 : Int64) (σ17 : Hp), Call E mX7_mix [.long r13, .long (Int32.toInt64 r16)] σ14 (some (.long r19)) σ17 ∧ ∃ (r22 : Int64) (σ20 : Hp), Call E mX7_gossip [.ref 0, .int 5, .int 14, .int 0] σ17 (some (.long r22)) σ20 ∧ ∃ (r25 : Int64) (σ23 : Hp), Call E mX7_mix [.long r19, .long r22] σ20 (some (.long r25)) σ23 ∧ ∃ (r28 : Int64) (σ26 : Hp), Call E mX7_gossip [.ref 0, .int 5, .int 14, .int 1] σ23 (some (.long r28)) σ26 ∧ ∃ (r31 : Int64) (σ29 : Hp), Call E mX7_mix [.long r25, .long r28] σ26 (some (.long r31)) σ29 ∧ ∃ (r34 : Int32) (σ32 : Hp), Call E mX7_ages [.ref 0, .int 7, .int 6, .int 0] σ29 (some (.int r34)) σ32 ∧ ∃ (r37 : Int64) (σ35 : Hp), Call E mX7_mix [.long r31, .long (Int32.toInt64 r34)] σ32 (some (.long r37)) σ35 ∧ ∃ (r40 : Int32) (σ38 : Hp), Call E mX7_ages [.ref 0, .int 7, .int 6, .int 1] σ35 (some (.int r40)) σ38 ∧ ∃ (r43 : Int64) (σ41 : Hp), Call E mX7_mix [.long r37, .long (Int32.toInt64 r40)] σ38 (some (.long r43)) σ41 ∧ Φ (some (.long r43)) σ41) ∧ (¬ 2 < x3 → ∃ (r46 : Int32) (σ44 : Hp), Call E mX7_swap [.ref 0, .int x3] σ (some (.int r46)) σ44 ∧ ∃ (r49 : Int64) (σ47 : Hp), Call E mX7_mix [.long x1, .long (Int32.toInt64 r46)] σ44 (some (.long r49)) σ47 ∧ Ru E mX7_digest 111 [(0, .ref 0), (1, .long r49), (3, .int (x3 + 1))] [] σ47 Φ))) : Ru E mX7_digest 111 [(0, .ref 0), (1, .long x1), (3, .int x3)] [] σ Φ := by
  refine s_iload_n 2 (pc := 111) dX7_digest_111 rfl rfl ?_
  refine s_iconst (v := 2) (pc := 112) dX7_digest_112 rfl ?_
  refine s_icmp_gt (pc := 113) (tgt := 133) dX7_digest_113 rfl (fun q1 => ?_) (fun q1 => ?_)
  · replace h := h.1 q1
    refine s_lload_n 1 (pc := 133) dX7_digest_133 rfl rfl ?_
    refine s_aload_n 0 (pc := 134) dX7_digest_134 rfl rfl ?_
    refine s_iconst (v := (-1)) (pc := 135) dX7_digest_135 rfl ?_
    obtain ⟨r4, σ2, hk3, h⟩ := h
    refine s_callV (S := [.long x1]) [.int (-1)] (pc := 136) dX7_digest_136 mv_X7_drop ml_X7_330 ⟨Nat.le_of_ble_eq_true rfl, Nat.le_of_ble_eq_true rfl⟩ rfl rfl ly0 rfl rfl (Nat.le_of_ble_eq_true rfl) hk3 ?_
    refine s_i2l (pc := 139) dX7_digest_139 ?_
    obtain ⟨r7, σ5, hk6, h⟩ := h
    refine s_callS (S := []) [.long x1, .long (Int32.toInt64 r4)] (pc := 140) dX7_digest_140 ms_X7_mix ml_X7_303 ⟨Nat.le_of_ble_eq_true rfl, Nat.le_of_ble_eq_true rfl⟩ rfl rfl (Nat.le_of_ble_eq_true rfl) hk6 ?_
    refine s_lstore_n (L' := [(1, .long r7), (0, .ref 0), (3, .int x3)]) (pc := 143) dX7_digest_143 rfl (Nat.le_of_ble_eq_true rfl) rfl ?_
    refine s_lload_n 0 (pc := 144) dX7_digest_144 rfl rfl ?_
    refine s_aload_n 1 (pc := 145) dX7_digest_145 rfl rfl ?_
    refine s_iconst (v := 0) (pc := 146) dX7_digest_146 rfl ?_
    obtain ⟨r10, σ8, hk9, h⟩ := h
    refine s_callV (S := [.long r7]) [.int 0] (pc := 147) dX7_digest_147 mv_X7_drop ml_X7_330 ⟨Nat.le_of_ble_eq_true rfl, Nat.le_of_ble_eq_true rfl⟩ rfl rfl ly0 rfl rfl (Nat.le_of_ble_eq_true rfl) hk9 ?_
    refine s_i2l (pc := 150) dX7_digest_150 ?_
    obtain ⟨r13, σ11, hk12, h⟩ := h
    refine s_callS (S := []) [.long r7, .long (Int32.toInt64 r10)] (pc := 151) dX7_digest_151 ms_X7_mix ml_X7_303 ⟨Nat.le_of_ble_eq_true rfl, Nat.le_of_ble_eq_true rfl⟩ rfl rfl (Nat.le_of_ble_eq_true rfl) hk12 ?_
    refine s_lstore_n (L' := [(1, .long r13), (0, .ref 0), (3, .int x3)]) (pc := 154) dX7_digest_154 rfl (Nat.le_of_ble_eq_true rfl) rfl ?_
    refine s_lload_n 0 (pc := 155) dX7_digest_155 rfl rfl ?_
    refine s_aload_n 1 (pc := 156) dX7_digest_156 rfl rfl ?_
    obtain ⟨r16, σ14, hk15, h⟩ := h
    refine s_callV (S := [.long r13]) [] (pc := 157) dX7_digest_157 mv_X7_never ml_X7_333 ⟨Nat.le_of_ble_eq_true rfl, Nat.le_of_ble_eq_true rfl⟩ rfl rfl ly0 rfl rfl (Nat.le_of_ble_eq_true rfl) hk15 ?_
    refine s_i2l (pc := 160) dX7_digest_160 ?_
    obtain ⟨r19, σ17, hk18, h⟩ := h
    refine s_callS (S := []) [.long r13, .long (Int32.toInt64 r16)] (pc := 161) dX7_digest_161 ms_X7_mix ml_X7_303 ⟨Nat.le_of_ble_eq_true rfl, Nat.le_of_ble_eq_true rfl⟩ rfl rfl (Nat.le_of_ble_eq_true rfl) hk18 ?_
    refine s_lstore_n (L' := [(1, .long r19), (0, .ref 0), (3, .int x3)]) (pc := 164) dX7_digest_164 rfl (Nat.le_of_ble_eq_true rfl) rfl ?_
    refine s_lload_n 0 (pc := 165) dX7_digest_165 rfl rfl ?_
    refine s_aload_n 1 (pc := 166) dX7_digest_166 rfl rfl ?_
    refine s_iconst (v := 5) (pc := 167) dX7_digest_167 rfl ?_
    refine s_bipush (v := 14) (pc := 168) dX7_digest_168 rfl ?_
    refine s_iconst (v := 0) (pc := 170) dX7_digest_170 rfl ?_
    obtain ⟨r22, σ20, hk21, h⟩ := h
    refine s_callV (S := [.long r19]) [.int 5, .int 14, .int 0] (pc := 171) dX7_digest_171 mv_X7_gossip ml_X7_336 ⟨Nat.le_of_ble_eq_true rfl, Nat.le_of_ble_eq_true rfl⟩ rfl rfl ly0 rfl rfl (Nat.le_of_ble_eq_true rfl) hk21 ?_
    obtain ⟨r25, σ23, hk24, h⟩ := h
    refine s_callS (S := []) [.long r19, .long r22] (pc := 174) dX7_digest_174 ms_X7_mix ml_X7_303 ⟨Nat.le_of_ble_eq_true rfl, Nat.le_of_ble_eq_true rfl⟩ rfl rfl (Nat.le_of_ble_eq_true rfl) hk24 ?_
    refine s_lstore_n (L' := [(1, .long r25), (0, .ref 0), (3, .int x3)]) (pc := 177) dX7_digest_177 rfl (Nat.le_of_ble_eq_true rfl) rfl ?_
    refine s_lload_n 0 (pc := 178) dX7_digest_178 rfl rfl ?_
    refine s_aload_n 1 (pc := 179) dX7_digest_179 rfl rfl ?_
    refine s_iconst (v := 5) (pc := 180) dX7_digest_180 rfl ?_
    refine s_bipush (v := 14) (pc := 181) dX7_digest_181 rfl ?_
    refine s_iconst (v := 1) (pc := 183) dX7_digest_183 rfl ?_
    obtain ⟨r28, σ26, hk27, h⟩ := h
    refine s_callV (S := [.long r25]) [.int 5, .int 14, .int 1] (pc := 184) dX7_digest_184 mv_X7_gossip ml_X7_336 ⟨Nat.le_of_ble_eq_true rfl, Nat.le_of_ble_eq_true rfl⟩ rfl rfl ly0 rfl rfl (Nat.le_of_ble_eq_true rfl) hk27 ?_
    obtain ⟨r31, σ29, hk30, h⟩ := h
    refine s_callS (S := []) [.long r25, .long r28] (pc := 187) dX7_digest_187 ms_X7_mix ml_X7_303 ⟨Nat.le_of_ble_eq_true rfl, Nat.le_of_ble_eq_true rfl⟩ rfl rfl (Nat.le_of_ble_eq_true rfl) hk30 ?_
    refine s_lstore_n (L' := [(1, .long r31), (0, .ref 0), (3, .int x3)]) (pc := 190) dX7_digest_190 rfl (Nat.le_of_ble_eq_true rfl) rfl ?_
    refine s_lload_n 0 (pc := 191) dX7_digest_191 rfl rfl ?_
    refine s_aload_n 1 (pc := 192) dX7_digest_192 rfl rfl ?_
    refine s_bipush (v := 7) (pc := 193) dX7_digest_193 rfl ?_
    refine s_bipush (v := 6) (pc := 195) dX7_digest_195 rfl ?_
    refine s_iconst (v := 0) (pc := 197) dX7_digest_197 rfl ?_
    obtain ⟨r34, σ32, hk33, h⟩ := h
    refine s_callV (S := [.long r31]) [.int 7, .int 6, .int 0] (pc := 198) dX7_digest_198 mv_X7_ages ml_X7_340 ⟨Nat.le_of_ble_eq_true rfl, Nat.le_of_ble_eq_true rfl⟩ rfl rfl ly0 rfl rfl (Nat.le_of_ble_eq_true rfl) hk33 ?_
    refine s_i2l (pc := 201) dX7_digest_201 ?_
    obtain ⟨r37, σ35, hk36, h⟩ := h
    refine s_callS (S := []) [.long r31, .long (Int32.toInt64 r34)] (pc := 202) dX7_digest_202 ms_X7_mix ml_X7_303 ⟨Nat.le_of_ble_eq_true rfl, Nat.le_of_ble_eq_true rfl⟩ rfl rfl (Nat.le_of_ble_eq_true rfl) hk36 ?_
    refine s_lstore_n (L' := [(1, .long r37), (0, .ref 0), (3, .int x3)]) (pc := 205) dX7_digest_205 rfl (Nat.le_of_ble_eq_true rfl) rfl ?_
    refine s_lload_n 0 (pc := 206) dX7_digest_206 rfl rfl ?_
    refine s_aload_n 1 (pc := 207) dX7_digest_207 rfl rfl ?_
    refine s_bipush (v := 7) (pc := 208) dX7_digest_208 rfl ?_
    refine s_bipush (v := 6) (pc := 210) dX7_digest_210 rfl ?_
    refine s_iconst (v := 1) (pc := 212) dX7_digest_212 rfl ?_
    obtain ⟨r40, σ38, hk39, h⟩ := h
    refine s_callV (S := [.long r37]) [.int 7, .int 6, .int 1] (pc := 213) dX7_digest_213 mv_X7_ages ml_X7_340 ⟨Nat.le_of_ble_eq_true rfl, Nat.le_of_ble_eq_true rfl⟩ rfl rfl ly0 rfl rfl (Nat.le_of_ble_eq_true rfl) hk39 ?_
    refine s_i2l (pc := 216) dX7_digest_216 ?_
    obtain ⟨r43, σ41, hk42, h⟩ := h
    refine s_callS (S := []) [.long r37, .long (Int32.toInt64 r40)] (pc := 217) dX7_digest_217 ms_X7_mix ml_X7_303 ⟨Nat.le_of_ble_eq_true rfl, Nat.le_of_ble_eq_true rfl⟩ rfl rfl (Nat.le_of_ble_eq_true rfl) hk42 ?_
    exact s_ret (r := some (.long r43)) dX7_digest_220 rfl h
  · replace h := h.2 q1
    refine s_lload_n 1 (pc := 116) dX7_digest_116 rfl rfl ?_
    refine s_aload_n 0 (pc := 117) dX7_digest_117 rfl rfl ?_
    refine s_iload_n 2 (pc := 118) dX7_digest_118 rfl rfl ?_
    obtain ⟨r46, σ44, hk45, h⟩ := h
    refine s_callV (S := [.long x1]) [.int x3] (pc := 119) dX7_digest_119 mv_X7_swap ml_X7_327 ⟨Nat.le_of_ble_eq_true rfl, Nat.le_of_ble_eq_true rfl⟩ rfl rfl ly0 rfl rfl (Nat.le_of_ble_eq_true rfl) hk45 ?_
    refine s_i2l (pc := 122) dX7_digest_122 ?_
    obtain ⟨r49, σ47, hk48, h⟩ := h
    refine s_callS (S := []) [.long x1, .long (Int32.toInt64 r46)] (pc := 123) dX7_digest_123 ms_X7_mix ml_X7_303 ⟨Nat.le_of_ble_eq_true rfl, Nat.le_of_ble_eq_true rfl⟩ rfl rfl (Nat.le_of_ble_eq_true rfl) hk48 ?_
    refine s_lstore_n (L' := [(1, .long r49), (0, .ref 0), (3, .int x3)]) (pc := 126) dX7_digest_126 rfl (Nat.le_of_ble_eq_true rfl) rfl ?_
    refine s_iinc (v := x3 + 1) (L' := [(3, .int (x3 + 1)), (1, .long r49), (0, .ref 0)]) 2 (pc := 127) dX7_digest_127 rfl rfl (Nat.le_of_ble_eq_true rfl) rfl ?_
    refine s_goto (pc := 130) (tgt := 111) dX7_digest_130 rfl ?_
    exact s_sub (L' := [(0, .ref 0), (1, .long r49), (3, .int (x3 + 1))]) [2, 1, 0] rfl h
set_option maxRecDepth 10000 in
set_option maxHeartbeats 4000000 in
theorem tX7_mix_0 {E : Ev} {x0 : Int64} {x2 : Int64} {σ : Hp} {Φ : Option Value → Hp → Prop}  (h : Φ (some (.long ((31 * x0) + x2))) σ) : Ru E mX7_mix 0 [(0, .long x0), (2, .long x2)] [] σ Φ := by
  refine s_ldc2 (v := 31) (pc := 0) dX7_mix_0 ct_X7_343 ?_
  refine s_lload_n 0 (pc := 3) dX7_mix_3 rfl rfl ?_
  refine s_lmul (pc := 4) dX7_mix_4 ?_
  refine s_lload_n 1 (pc := 5) dX7_mix_5 rfl rfl ?_
  refine s_ladd (pc := 6) dX7_mix_6 ?_
  exact s_ret (r := some (.long ((31 * x0) + x2))) dX7_mix_7 rfl h
set_option maxRecDepth 10000 in
set_option maxHeartbeats 4000000 in
theorem tX7_mixCouple_0 {E : Ev} {x1 : Int64} {x3 : Int32} {σ : Hp} {Φ : Option Value → Hp → Prop}  (h : Ru E mX7_mixCouple 6 [(0, .ref 0), (1, .long x1), (3, .int x3), (4, .long x1), (6, .int 0)] [] σ Φ) : Ru E mX7_mixCouple 0 [(0, .ref 0), (1, .long x1), (3, .int x3)] [] σ Φ := by
  refine s_lload_n 1 (pc := 0) dX7_mixCouple_0 rfl rfl ?_
  refine s_lstore (L' := [(4, .long x1), (0, .ref 0), (1, .long x1), (3, .int x3)]) (pc := 1) dX7_mixCouple_1 (Nat.le_of_ble_eq_true rfl) rfl ?_
  refine s_iconst (v := 0) (pc := 3) dX7_mixCouple_3 rfl ?_
  refine s_istore (L' := [(6, .int 0), (4, .long x1), (0, .ref 0), (1, .long x1), (3, .int x3)]) (pc := 4) dX7_mixCouple_4 (Nat.le_of_ble_eq_true rfl) rfl ?_
  exact s_sub (L' := [(0, .ref 0), (1, .long x1), (3, .int x3), (4, .long x1), (6, .int 0)]) [2, 3, 4, 1, 0] rfl h
set_option maxRecDepth 10000 in
set_option maxHeartbeats 4000000 in
theorem tX7_mixCouple_6 {E : Ev} {x1 : Int64} {x3 : Int32} {x4 : Int64} {x6 : Int32} {σ : Hp} {Φ : Option Value → Hp → Prop}  (h : ((3 < x6 → ∃ (r4 : Int64) (σ2 : Hp), Call E mX7_mixOneDay [.ref 0, .long x4, .int 0, .int x3] σ (some (.long r4)) σ2 ∧ ∃ (r7 : Int64) (σ5 : Hp), Call E mX7_mixOneDay [.ref 0, .long r4, .int 6, .int x3] σ2 (some (.long r7)) σ5 ∧ ∃ (r10 : Int64) (σ8 : Hp), Call E mX7_mixOneDay [.ref 0, .long r7, .int 12, .int x3] σ5 (some (.long r10)) σ8 ∧ ∃ (r13 : Int64) (σ11 : Hp), Call E mX7_mixOneDay [.ref 0, .long r10, .int 19, .int x3] σ8 (some (.long r13)) σ11 ∧ ∃ (r16 : Int32) (σ14 : Hp), Call E mX7_ringed [.ref 0, .int x3] σ11 (some (.int r16)) σ14 ∧ ∃ (r19 : Int64) (σ17 : Hp), Call E mX7_mix [.long r13, .long (Int32.toInt64 r16)] σ14 (some (.long r19)) σ17 ∧ ∃ (r22 : Int32) (σ20 : Hp), Call E mX7_open [.ref 0, .int x3, .int 12, .int 0] σ17 (some (.int r22)) σ20 ∧ ∃ (r25 : Int64) (σ23 : Hp), Call E mX7_mix [.long r19, .long (Int32.toInt64 r22)] σ20 (some (.long r25)) σ23 ∧ ∃ (r28 : Int32) (σ26 : Hp), Call E mX7_open [.ref 0, .int x3, .int 12, .int 1] σ23 (some (.int r28)) σ26 ∧ ∃ (r31 : Int64) (σ29 : Hp), Call E mX7_mix [.long r25, .long (Int32.toInt64 r28)] σ26 (some (.long r31)) σ29 ∧ Ru E mX7_mixCouple 124 [(0, .ref 0), (1, .long x1), (3, .int x3), (4, .long r31), (6, .int 0)] [] σ29 Φ) ∧ (¬ 3 < x6 → ∃ (r34 : Int32) (σ32 : Hp), Call E mX7_couple [.ref 0, .int x3, .int x6] σ (some (.int r34)) σ32 ∧ ∃ (r37 : Int64) (σ35 : Hp), Call E mX7_mix [.long x4, .long (Int32.toInt64 r34)] σ32 (some (.long r37)) σ35 ∧ Ru E mX7_mixCouple 6 [(0, .ref 0), (1, .long x1), (3, .int x3), (4, .long r37), (6, .int (x6 + 1))] [] σ35 Φ))) : Ru E mX7_mixCouple 6 [(0, .ref 0), (1, .long x1), (3, .int x3), (4, .long x4), (6, .int x6)] [] σ Φ := by
  refine s_iload 4 (pc := 6) dX7_mixCouple_6 rfl ?_
  refine s_iconst (v := 3) (pc := 8) dX7_mixCouple_8 rfl ?_
  refine s_icmp_gt (pc := 9) (tgt := 33) dX7_mixCouple_9 rfl (fun q1 => ?_) (fun q1 => ?_)
  · replace h := h.1 q1
    refine s_aload_n 0 (pc := 33) dX7_mixCouple_33 rfl rfl ?_
    refine s_lload 3 (pc := 34) dX7_mixCouple_34 rfl ?_
    refine s_iconst (v := 0) (pc := 36) dX7_mixCouple_36 rfl ?_
    refine s_iload_n 2 (pc := 37) dX7_mixCouple_37 rfl rfl ?_
    obtain ⟨r4, σ2, hk3, h⟩ := h
    refine s_callV (S := []) [.long x4, .int 0, .int x3] (pc := 38) dX7_mixCouple_38 mv_X7_mixOneDay ml_X7_348 ⟨Nat.le_of_ble_eq_true rfl, Nat.le_of_ble_eq_true rfl⟩ rfl rfl ly0 rfl rfl (Nat.le_of_ble_eq_true rfl) hk3 ?_
    refine s_lstore (L' := [(4, .long r4), (0, .ref 0), (1, .long x1), (3, .int x3), (6, .int x6)]) (pc := 41) dX7_mixCouple_41 (Nat.le_of_ble_eq_true rfl) rfl ?_
    refine s_aload_n 1 (pc := 43) dX7_mixCouple_43 rfl rfl ?_
    refine s_lload 0 (pc := 44) dX7_mixCouple_44 rfl ?_
    refine s_bipush (v := 6) (pc := 46) dX7_mixCouple_46 rfl ?_
    refine s_iload_n 3 (pc := 48) dX7_mixCouple_48 rfl rfl ?_
    obtain ⟨r7, σ5, hk6, h⟩ := h
    refine s_callV (S := []) [.long r4, .int 6, .int x3] (pc := 49) dX7_mixCouple_49 mv_X7_mixOneDay ml_X7_348 ⟨Nat.le_of_ble_eq_true rfl, Nat.le_of_ble_eq_true rfl⟩ rfl rfl ly0 rfl rfl (Nat.le_of_ble_eq_true rfl) hk6 ?_
    refine s_lstore (L' := [(4, .long r7), (0, .ref 0), (1, .long x1), (3, .int x3), (6, .int x6)]) (pc := 52) dX7_mixCouple_52 (Nat.le_of_ble_eq_true rfl) rfl ?_
    refine s_aload_n 1 (pc := 54) dX7_mixCouple_54 rfl rfl ?_
    refine s_lload 0 (pc := 55) dX7_mixCouple_55 rfl ?_
    refine s_bipush (v := 12) (pc := 57) dX7_mixCouple_57 rfl ?_
    refine s_iload_n 3 (pc := 59) dX7_mixCouple_59 rfl rfl ?_
    obtain ⟨r10, σ8, hk9, h⟩ := h
    refine s_callV (S := []) [.long r7, .int 12, .int x3] (pc := 60) dX7_mixCouple_60 mv_X7_mixOneDay ml_X7_348 ⟨Nat.le_of_ble_eq_true rfl, Nat.le_of_ble_eq_true rfl⟩ rfl rfl ly0 rfl rfl (Nat.le_of_ble_eq_true rfl) hk9 ?_
    refine s_lstore (L' := [(4, .long r10), (0, .ref 0), (1, .long x1), (3, .int x3), (6, .int x6)]) (pc := 63) dX7_mixCouple_63 (Nat.le_of_ble_eq_true rfl) rfl ?_
    refine s_aload_n 1 (pc := 65) dX7_mixCouple_65 rfl rfl ?_
    refine s_lload 0 (pc := 66) dX7_mixCouple_66 rfl ?_
    refine s_bipush (v := 19) (pc := 68) dX7_mixCouple_68 rfl ?_
    refine s_iload_n 3 (pc := 70) dX7_mixCouple_70 rfl rfl ?_
    obtain ⟨r13, σ11, hk12, h⟩ := h
    refine s_callV (S := []) [.long r10, .int 19, .int x3] (pc := 71) dX7_mixCouple_71 mv_X7_mixOneDay ml_X7_348 ⟨Nat.le_of_ble_eq_true rfl, Nat.le_of_ble_eq_true rfl⟩ rfl rfl ly0 rfl rfl (Nat.le_of_ble_eq_true rfl) hk12 ?_
    refine s_lstore (L' := [(4, .long r13), (0, .ref 0), (1, .long x1), (3, .int x3), (6, .int x6)]) (pc := 74) dX7_mixCouple_74 (Nat.le_of_ble_eq_true rfl) rfl ?_
    refine s_lload 0 (pc := 76) dX7_mixCouple_76 rfl ?_
    refine s_aload_n 1 (pc := 78) dX7_mixCouple_78 rfl rfl ?_
    refine s_iload_n 3 (pc := 79) dX7_mixCouple_79 rfl rfl ?_
    obtain ⟨r16, σ14, hk15, h⟩ := h
    refine s_callV (S := [.long r13]) [.int x3] (pc := 80) dX7_mixCouple_80 mv_X7_ringed ml_X7_352 ⟨Nat.le_of_ble_eq_true rfl, Nat.le_of_ble_eq_true rfl⟩ rfl rfl ly0 rfl rfl (Nat.le_of_ble_eq_true rfl) hk15 ?_
    refine s_i2l (pc := 83) dX7_mixCouple_83 ?_
    obtain ⟨r19, σ17, hk18, h⟩ := h
    refine s_callS (S := []) [.long r13, .long (Int32.toInt64 r16)] (pc := 84) dX7_mixCouple_84 ms_X7_mix ml_X7_303 ⟨Nat.le_of_ble_eq_true rfl, Nat.le_of_ble_eq_true rfl⟩ rfl rfl (Nat.le_of_ble_eq_true rfl) hk18 ?_
    refine s_lstore (L' := [(4, .long r19), (0, .ref 0), (1, .long x1), (3, .int x3), (6, .int x6)]) (pc := 87) dX7_mixCouple_87 (Nat.le_of_ble_eq_true rfl) rfl ?_
    refine s_lload 0 (pc := 89) dX7_mixCouple_89 rfl ?_
    refine s_aload_n 1 (pc := 91) dX7_mixCouple_91 rfl rfl ?_
    refine s_iload_n 3 (pc := 92) dX7_mixCouple_92 rfl rfl ?_
    refine s_bipush (v := 12) (pc := 93) dX7_mixCouple_93 rfl ?_
    refine s_iconst (v := 0) (pc := 95) dX7_mixCouple_95 rfl ?_
    obtain ⟨r22, σ20, hk21, h⟩ := h
    refine s_callV (S := [.long r19]) [.int x3, .int 12, .int 0] (pc := 96) dX7_mixCouple_96 mv_X7_open ml_X7_355 ⟨Nat.le_of_ble_eq_true rfl, Nat.le_of_ble_eq_true rfl⟩ rfl rfl ly0 rfl rfl (Nat.le_of_ble_eq_true rfl) hk21 ?_
    refine s_i2l (pc := 99) dX7_mixCouple_99 ?_
    obtain ⟨r25, σ23, hk24, h⟩ := h
    refine s_callS (S := []) [.long r19, .long (Int32.toInt64 r22)] (pc := 100) dX7_mixCouple_100 ms_X7_mix ml_X7_303 ⟨Nat.le_of_ble_eq_true rfl, Nat.le_of_ble_eq_true rfl⟩ rfl rfl (Nat.le_of_ble_eq_true rfl) hk24 ?_
    refine s_lstore (L' := [(4, .long r25), (0, .ref 0), (1, .long x1), (3, .int x3), (6, .int x6)]) (pc := 103) dX7_mixCouple_103 (Nat.le_of_ble_eq_true rfl) rfl ?_
    refine s_lload 0 (pc := 105) dX7_mixCouple_105 rfl ?_
    refine s_aload_n 1 (pc := 107) dX7_mixCouple_107 rfl rfl ?_
    refine s_iload_n 3 (pc := 108) dX7_mixCouple_108 rfl rfl ?_
    refine s_bipush (v := 12) (pc := 109) dX7_mixCouple_109 rfl ?_
    refine s_iconst (v := 1) (pc := 111) dX7_mixCouple_111 rfl ?_
    obtain ⟨r28, σ26, hk27, h⟩ := h
    refine s_callV (S := [.long r25]) [.int x3, .int 12, .int 1] (pc := 112) dX7_mixCouple_112 mv_X7_open ml_X7_355 ⟨Nat.le_of_ble_eq_true rfl, Nat.le_of_ble_eq_true rfl⟩ rfl rfl ly0 rfl rfl (Nat.le_of_ble_eq_true rfl) hk27 ?_
    refine s_i2l (pc := 115) dX7_mixCouple_115 ?_
    obtain ⟨r31, σ29, hk30, h⟩ := h
    refine s_callS (S := []) [.long r25, .long (Int32.toInt64 r28)] (pc := 116) dX7_mixCouple_116 ms_X7_mix ml_X7_303 ⟨Nat.le_of_ble_eq_true rfl, Nat.le_of_ble_eq_true rfl⟩ rfl rfl (Nat.le_of_ble_eq_true rfl) hk30 ?_
    refine s_lstore (L' := [(4, .long r31), (0, .ref 0), (1, .long x1), (3, .int x3), (6, .int x6)]) (pc := 119) dX7_mixCouple_119 (Nat.le_of_ble_eq_true rfl) rfl ?_
    refine s_iconst (v := 0) (pc := 121) dX7_mixCouple_121 rfl ?_
    refine s_istore (L' := [(6, .int 0), (4, .long r31), (0, .ref 0), (1, .long x1), (3, .int x3)]) (pc := 122) dX7_mixCouple_122 (Nat.le_of_ble_eq_true rfl) rfl ?_
    exact s_sub (L' := [(0, .ref 0), (1, .long x1), (3, .int x3), (4, .long r31), (6, .int 0)]) [2, 3, 4, 1, 0] rfl h
  · replace h := h.2 q1
    refine s_lload 3 (pc := 12) dX7_mixCouple_12 rfl ?_
    refine s_aload_n 0 (pc := 14) dX7_mixCouple_14 rfl rfl ?_
    refine s_iload_n 2 (pc := 15) dX7_mixCouple_15 rfl rfl ?_
    refine s_iload 4 (pc := 16) dX7_mixCouple_16 rfl ?_
    obtain ⟨r34, σ32, hk33, h⟩ := h
    refine s_callV (S := [.long x4]) [.int x3, .int x6] (pc := 18) dX7_mixCouple_18 mv_X7_couple ml_X7_345 ⟨Nat.le_of_ble_eq_true rfl, Nat.le_of_ble_eq_true rfl⟩ rfl rfl ly0 rfl rfl (Nat.le_of_ble_eq_true rfl) hk33 ?_
    refine s_i2l (pc := 21) dX7_mixCouple_21 ?_
    obtain ⟨r37, σ35, hk36, h⟩ := h
    refine s_callS (S := []) [.long x4, .long (Int32.toInt64 r34)] (pc := 22) dX7_mixCouple_22 ms_X7_mix ml_X7_303 ⟨Nat.le_of_ble_eq_true rfl, Nat.le_of_ble_eq_true rfl⟩ rfl rfl (Nat.le_of_ble_eq_true rfl) hk36 ?_
    refine s_lstore (L' := [(4, .long r37), (0, .ref 0), (1, .long x1), (3, .int x3), (6, .int x6)]) (pc := 25) dX7_mixCouple_25 (Nat.le_of_ble_eq_true rfl) rfl ?_
    refine s_iinc (v := x6 + 1) (L' := [(6, .int (x6 + 1)), (4, .long r37), (0, .ref 0), (1, .long x1), (3, .int x3)]) 4 (pc := 27) dX7_mixCouple_27 rfl rfl (Nat.le_of_ble_eq_true rfl) rfl ?_
    refine s_goto (pc := 30) (tgt := 6) dX7_mixCouple_30 rfl ?_
    exact s_sub (L' := [(0, .ref 0), (1, .long x1), (3, .int x3), (4, .long r37), (6, .int (x6 + 1))]) [2, 3, 4, 1, 0] rfl h
set_option maxRecDepth 10000 in
set_option maxHeartbeats 4000000 in
theorem tX7_mixCouple_124 {E : Ev} {x1 : Int64} {x3 : Int32} {x4 : Int64} {x6 : Int32} {σ : Hp} {Φ : Option Value → Hp → Prop}  (h : ((2 < x6 → ∃ (r4 : Int32) (σ2 : Hp), Call E mX7_was [.ref 0, .int x3, .int 0] σ (some (.int r4)) σ2 ∧ ∃ (r7 : Int64) (σ5 : Hp), Call E mX7_mix [.long x4, .long (Int32.toInt64 r4)] σ2 (some (.long r7)) σ5 ∧ ∃ (r10 : Int32) (σ8 : Hp), Call E mX7_was [.ref 0, .int x3, .int 1] σ5 (some (.int r10)) σ8 ∧ ∃ (r13 : Int64) (σ11 : Hp), Call E mX7_mix [.long r7, .long (Int32.toInt64 r10)] σ8 (some (.long r13)) σ11 ∧ ∃ (r16 : Int32) (σ14 : Hp), Call E mX7_ask [.ref 0, .int x3] σ11 (some (.int r16)) σ14 ∧ ∃ (r19 : Int64) (σ17 : Hp), Call E mX7_mix [.long r13, .long (Int32.toInt64 r16)] σ14 (some (.long r19)) σ17 ∧ Φ (some (.long r19)) σ17) ∧ (¬ 2 < x6 → ∃ (r22 : Int32) (σ20 : Hp), Call E mX7_stand [.ref 0, .int x3, .int 12, .int x6] σ (some (.int r22)) σ20 ∧ ∃ (r25 : Int64) (σ23 : Hp), Call E mX7_mix [.long x4, .long (Int32.toInt64 r22)] σ20 (some (.long r25)) σ23 ∧ Ru E mX7_mixCouple 124 [(0, .ref 0), (1, .long x1), (3, .int x3), (4, .long r25), (6, .int (x6 + 1))] [] σ23 Φ))) : Ru E mX7_mixCouple 124 [(0, .ref 0), (1, .long x1), (3, .int x3), (4, .long x4), (6, .int x6)] [] σ Φ := by
  refine s_iload 4 (pc := 124) dX7_mixCouple_124 rfl ?_
  refine s_iconst (v := 2) (pc := 126) dX7_mixCouple_126 rfl ?_
  refine s_icmp_gt (pc := 127) (tgt := 153) dX7_mixCouple_127 rfl (fun q1 => ?_) (fun q1 => ?_)
  · replace h := h.1 q1
    refine s_lload 3 (pc := 153) dX7_mixCouple_153 rfl ?_
    refine s_aload_n 0 (pc := 155) dX7_mixCouple_155 rfl rfl ?_
    refine s_iload_n 2 (pc := 156) dX7_mixCouple_156 rfl rfl ?_
    refine s_iconst (v := 0) (pc := 157) dX7_mixCouple_157 rfl ?_
    obtain ⟨r4, σ2, hk3, h⟩ := h
    refine s_callV (S := [.long x4]) [.int x3, .int 0] (pc := 158) dX7_mixCouple_158 mv_X7_was ml_X7_361 ⟨Nat.le_of_ble_eq_true rfl, Nat.le_of_ble_eq_true rfl⟩ rfl rfl ly0 rfl rfl (Nat.le_of_ble_eq_true rfl) hk3 ?_
    refine s_i2l (pc := 161) dX7_mixCouple_161 ?_
    obtain ⟨r7, σ5, hk6, h⟩ := h
    refine s_callS (S := []) [.long x4, .long (Int32.toInt64 r4)] (pc := 162) dX7_mixCouple_162 ms_X7_mix ml_X7_303 ⟨Nat.le_of_ble_eq_true rfl, Nat.le_of_ble_eq_true rfl⟩ rfl rfl (Nat.le_of_ble_eq_true rfl) hk6 ?_
    refine s_lstore (L' := [(4, .long r7), (0, .ref 0), (1, .long x1), (3, .int x3), (6, .int x6)]) (pc := 165) dX7_mixCouple_165 (Nat.le_of_ble_eq_true rfl) rfl ?_
    refine s_lload 0 (pc := 167) dX7_mixCouple_167 rfl ?_
    refine s_aload_n 1 (pc := 169) dX7_mixCouple_169 rfl rfl ?_
    refine s_iload_n 3 (pc := 170) dX7_mixCouple_170 rfl rfl ?_
    refine s_iconst (v := 1) (pc := 171) dX7_mixCouple_171 rfl ?_
    obtain ⟨r10, σ8, hk9, h⟩ := h
    refine s_callV (S := [.long r7]) [.int x3, .int 1] (pc := 172) dX7_mixCouple_172 mv_X7_was ml_X7_361 ⟨Nat.le_of_ble_eq_true rfl, Nat.le_of_ble_eq_true rfl⟩ rfl rfl ly0 rfl rfl (Nat.le_of_ble_eq_true rfl) hk9 ?_
    refine s_i2l (pc := 175) dX7_mixCouple_175 ?_
    obtain ⟨r13, σ11, hk12, h⟩ := h
    refine s_callS (S := []) [.long r7, .long (Int32.toInt64 r10)] (pc := 176) dX7_mixCouple_176 ms_X7_mix ml_X7_303 ⟨Nat.le_of_ble_eq_true rfl, Nat.le_of_ble_eq_true rfl⟩ rfl rfl (Nat.le_of_ble_eq_true rfl) hk12 ?_
    refine s_lstore (L' := [(4, .long r13), (0, .ref 0), (1, .long x1), (3, .int x3), (6, .int x6)]) (pc := 179) dX7_mixCouple_179 (Nat.le_of_ble_eq_true rfl) rfl ?_
    refine s_lload 0 (pc := 181) dX7_mixCouple_181 rfl ?_
    refine s_aload_n 1 (pc := 183) dX7_mixCouple_183 rfl rfl ?_
    refine s_iload_n 3 (pc := 184) dX7_mixCouple_184 rfl rfl ?_
    obtain ⟨r16, σ14, hk15, h⟩ := h
    refine s_callV (S := [.long r13]) [.int x3] (pc := 185) dX7_mixCouple_185 mv_X7_ask ml_X7_364 ⟨Nat.le_of_ble_eq_true rfl, Nat.le_of_ble_eq_true rfl⟩ rfl rfl ly0 rfl rfl (Nat.le_of_ble_eq_true rfl) hk15 ?_
    refine s_i2l (pc := 188) dX7_mixCouple_188 ?_
    obtain ⟨r19, σ17, hk18, h⟩ := h
    refine s_callS (S := []) [.long r13, .long (Int32.toInt64 r16)] (pc := 189) dX7_mixCouple_189 ms_X7_mix ml_X7_303 ⟨Nat.le_of_ble_eq_true rfl, Nat.le_of_ble_eq_true rfl⟩ rfl rfl (Nat.le_of_ble_eq_true rfl) hk18 ?_
    exact s_ret (r := some (.long r19)) dX7_mixCouple_192 rfl h
  · replace h := h.2 q1
    refine s_lload 3 (pc := 130) dX7_mixCouple_130 rfl ?_
    refine s_aload_n 0 (pc := 132) dX7_mixCouple_132 rfl rfl ?_
    refine s_iload_n 2 (pc := 133) dX7_mixCouple_133 rfl rfl ?_
    refine s_bipush (v := 12) (pc := 134) dX7_mixCouple_134 rfl ?_
    refine s_iload 4 (pc := 136) dX7_mixCouple_136 rfl ?_
    obtain ⟨r22, σ20, hk21, h⟩ := h
    refine s_callV (S := [.long x4]) [.int x3, .int 12, .int x6] (pc := 138) dX7_mixCouple_138 mv_X7_stand ml_X7_358 ⟨Nat.le_of_ble_eq_true rfl, Nat.le_of_ble_eq_true rfl⟩ rfl rfl ly0 rfl rfl (Nat.le_of_ble_eq_true rfl) hk21 ?_
    refine s_i2l (pc := 141) dX7_mixCouple_141 ?_
    obtain ⟨r25, σ23, hk24, h⟩ := h
    refine s_callS (S := []) [.long x4, .long (Int32.toInt64 r22)] (pc := 142) dX7_mixCouple_142 ms_X7_mix ml_X7_303 ⟨Nat.le_of_ble_eq_true rfl, Nat.le_of_ble_eq_true rfl⟩ rfl rfl (Nat.le_of_ble_eq_true rfl) hk24 ?_
    refine s_lstore (L' := [(4, .long r25), (0, .ref 0), (1, .long x1), (3, .int x3), (6, .int x6)]) (pc := 145) dX7_mixCouple_145 (Nat.le_of_ble_eq_true rfl) rfl ?_
    refine s_iinc (v := x6 + 1) (L' := [(6, .int (x6 + 1)), (4, .long r25), (0, .ref 0), (1, .long x1), (3, .int x3)]) 4 (pc := 147) dX7_mixCouple_147 rfl rfl (Nat.le_of_ble_eq_true rfl) rfl ?_
    refine s_goto (pc := 150) (tgt := 124) dX7_mixCouple_150 rfl ?_
    exact s_sub (L' := [(0, .ref 0), (1, .long x1), (3, .int x3), (4, .long r25), (6, .int (x6 + 1))]) [2, 3, 4, 1, 0] rfl h
set_option maxRecDepth 10000 in
set_option maxHeartbeats 4000000 in
theorem tX7_mixOneDay_0 {E : Ev} {x1 : Int64} {x3 : Int32} {x4 : Int32} {σ : Hp} {Φ : Option Value → Hp → Prop}  (h : Ru E mX7_mixOneDay 6 [(0, .ref 0), (1, .long x1), (3, .int x3), (4, .int x4), (5, .long x1), (7, .int 0)] [] σ Φ) : Ru E mX7_mixOneDay 0 [(0, .ref 0), (1, .long x1), (3, .int x3), (4, .int x4)] [] σ Φ := by
  refine s_lload_n 1 (pc := 0) dX7_mixOneDay_0 rfl rfl ?_
  refine s_lstore (L' := [(5, .long x1), (0, .ref 0), (1, .long x1), (3, .int x3), (4, .int x4)]) (pc := 1) dX7_mixOneDay_1 (Nat.le_of_ble_eq_true rfl) rfl ?_
  refine s_iconst (v := 0) (pc := 3) dX7_mixOneDay_3 rfl ?_
  refine s_istore (L' := [(7, .int 0), (5, .long x1), (0, .ref 0), (1, .long x1), (3, .int x3), (4, .int x4)]) (pc := 4) dX7_mixOneDay_4 (Nat.le_of_ble_eq_true rfl) rfl ?_
  exact s_sub (L' := [(0, .ref 0), (1, .long x1), (3, .int x3), (4, .int x4), (5, .long x1), (7, .int 0)]) [2, 3, 4, 5, 1, 0] rfl h
set_option maxRecDepth 10000 in
set_option maxHeartbeats 4000000 in
theorem tX7_mixOneDay_6 {E : Ev} {x1 : Int64} {x3 : Int32} {x4 : Int32} {x5 : Int64} {x7 : Int32} {σ : Hp} {Φ : Option Value → Hp → Prop}  (h : ((4 < x7 → Ru E mX7_mixOneDay 38 [(0, .ref 0), (1, .long x1), (3, .int x3), (4, .int x4), (5, .long x5), (7, .int 0)] [] σ Φ) ∧ (¬ 4 < x7 → ∃ (r4 : Int32) (σ2 : Hp), Call E mX7_at [.ref 0, .int x3, .int x4, .int x7] σ (some (.int r4)) σ2 ∧ ∃ (r7 : Int64) (σ5 : Hp), Call E mX7_mix [.long x5, .long (Int32.toInt64 r4)] σ2 (some (.long r7)) σ5 ∧ Ru E mX7_mixOneDay 6 [(0, .ref 0), (1, .long x1), (3, .int x3), (4, .int x4), (5, .long r7), (7, .int (x7 + 1))] [] σ5 Φ))) : Ru E mX7_mixOneDay 6 [(0, .ref 0), (1, .long x1), (3, .int x3), (4, .int x4), (5, .long x5), (7, .int x7)] [] σ Φ := by
  refine s_iload 5 (pc := 6) dX7_mixOneDay_6 rfl ?_
  refine s_iconst (v := 4) (pc := 8) dX7_mixOneDay_8 rfl ?_
  refine s_icmp_gt (pc := 9) (tgt := 35) dX7_mixOneDay_9 rfl (fun q1 => ?_) (fun q1 => ?_)
  · replace h := h.1 q1
    refine s_iconst (v := 0) (pc := 35) dX7_mixOneDay_35 rfl ?_
    refine s_istore (L' := [(7, .int 0), (0, .ref 0), (1, .long x1), (3, .int x3), (4, .int x4), (5, .long x5)]) (pc := 36) dX7_mixOneDay_36 (Nat.le_of_ble_eq_true rfl) rfl ?_
    exact s_sub (L' := [(0, .ref 0), (1, .long x1), (3, .int x3), (4, .int x4), (5, .long x5), (7, .int 0)]) [1, 2, 3, 4, 5, 0] rfl h
  · replace h := h.2 q1
    refine s_lload 4 (pc := 12) dX7_mixOneDay_12 rfl ?_
    refine s_aload_n 0 (pc := 14) dX7_mixOneDay_14 rfl rfl ?_
    refine s_iload_n 2 (pc := 15) dX7_mixOneDay_15 rfl rfl ?_
    refine s_iload 3 (pc := 16) dX7_mixOneDay_16 rfl ?_
    refine s_iload 5 (pc := 18) dX7_mixOneDay_18 rfl ?_
    obtain ⟨r4, σ2, hk3, h⟩ := h
    refine s_callV (S := [.long x5]) [.int x3, .int x4, .int x7] (pc := 20) dX7_mixOneDay_20 mv_X7_at ml_X7_367 ⟨Nat.le_of_ble_eq_true rfl, Nat.le_of_ble_eq_true rfl⟩ rfl rfl ly0 rfl rfl (Nat.le_of_ble_eq_true rfl) hk3 ?_
    refine s_i2l (pc := 23) dX7_mixOneDay_23 ?_
    obtain ⟨r7, σ5, hk6, h⟩ := h
    refine s_callS (S := []) [.long x5, .long (Int32.toInt64 r4)] (pc := 24) dX7_mixOneDay_24 ms_X7_mix ml_X7_303 ⟨Nat.le_of_ble_eq_true rfl, Nat.le_of_ble_eq_true rfl⟩ rfl rfl (Nat.le_of_ble_eq_true rfl) hk6 ?_
    refine s_lstore (L' := [(5, .long r7), (0, .ref 0), (1, .long x1), (3, .int x3), (4, .int x4), (7, .int x7)]) (pc := 27) dX7_mixOneDay_27 (Nat.le_of_ble_eq_true rfl) rfl ?_
    refine s_iinc (v := x7 + 1) (L' := [(7, .int (x7 + 1)), (5, .long r7), (0, .ref 0), (1, .long x1), (3, .int x3), (4, .int x4)]) 5 (pc := 29) dX7_mixOneDay_29 rfl rfl (Nat.le_of_ble_eq_true rfl) rfl ?_
    refine s_goto (pc := 32) (tgt := 6) dX7_mixOneDay_32 rfl ?_
    exact s_sub (L' := [(0, .ref 0), (1, .long x1), (3, .int x3), (4, .int x4), (5, .long r7), (7, .int (x7 + 1))]) [2, 3, 4, 5, 1, 0] rfl h
set_option maxRecDepth 10000 in
set_option maxHeartbeats 4000000 in
theorem tX7_mixOneDay_38 {E : Ev} {x1 : Int64} {x3 : Int32} {x4 : Int32} {x5 : Int64} {x7 : Int32} {σ : Hp} {Φ : Option Value → Hp → Prop}  (h : ((3 < x7 → Φ (some (.long x5)) σ) ∧ (¬ 3 < x7 → ∃ (r4 : Int32) (σ2 : Hp), Call E mX7_place [.ref 0, .int x3, .int x4, .int x7] σ (some (.int r4)) σ2 ∧ ∃ (r7 : Int64) (σ5 : Hp), Call E mX7_mix [.long x5, .long (Int32.toInt64 r4)] σ2 (some (.long r7)) σ5 ∧ Ru E mX7_mixOneDay 38 [(0, .ref 0), (1, .long x1), (3, .int x3), (4, .int x4), (5, .long r7), (7, .int (x7 + 1))] [] σ5 Φ))) : Ru E mX7_mixOneDay 38 [(0, .ref 0), (1, .long x1), (3, .int x3), (4, .int x4), (5, .long x5), (7, .int x7)] [] σ Φ := by
  refine s_iload 5 (pc := 38) dX7_mixOneDay_38 rfl ?_
  refine s_iconst (v := 3) (pc := 40) dX7_mixOneDay_40 rfl ?_
  refine s_icmp_gt (pc := 41) (tgt := 67) dX7_mixOneDay_41 rfl (fun q1 => ?_) (fun q1 => ?_)
  · replace h := h.1 q1
    refine s_lload 4 (pc := 67) dX7_mixOneDay_67 rfl ?_
    exact s_ret (r := some (.long x5)) dX7_mixOneDay_69 rfl h
  · replace h := h.2 q1
    refine s_lload 4 (pc := 44) dX7_mixOneDay_44 rfl ?_
    refine s_aload_n 0 (pc := 46) dX7_mixOneDay_46 rfl rfl ?_
    refine s_iload_n 2 (pc := 47) dX7_mixOneDay_47 rfl rfl ?_
    refine s_iload 3 (pc := 48) dX7_mixOneDay_48 rfl ?_
    refine s_iload 5 (pc := 50) dX7_mixOneDay_50 rfl ?_
    obtain ⟨r4, σ2, hk3, h⟩ := h
    refine s_callV (S := [.long x5]) [.int x3, .int x4, .int x7] (pc := 52) dX7_mixOneDay_52 mv_X7_place ml_X7_370 ⟨Nat.le_of_ble_eq_true rfl, Nat.le_of_ble_eq_true rfl⟩ rfl rfl ly0 rfl rfl (Nat.le_of_ble_eq_true rfl) hk3 ?_
    refine s_i2l (pc := 55) dX7_mixOneDay_55 ?_
    obtain ⟨r7, σ5, hk6, h⟩ := h
    refine s_callS (S := []) [.long x5, .long (Int32.toInt64 r4)] (pc := 56) dX7_mixOneDay_56 ms_X7_mix ml_X7_303 ⟨Nat.le_of_ble_eq_true rfl, Nat.le_of_ble_eq_true rfl⟩ rfl rfl (Nat.le_of_ble_eq_true rfl) hk6 ?_
    refine s_lstore (L' := [(5, .long r7), (0, .ref 0), (1, .long x1), (3, .int x3), (4, .int x4), (7, .int x7)]) (pc := 59) dX7_mixOneDay_59 (Nat.le_of_ble_eq_true rfl) rfl ?_
    refine s_iinc (v := x7 + 1) (L' := [(7, .int (x7 + 1)), (5, .long r7), (0, .ref 0), (1, .long x1), (3, .int x3), (4, .int x4)]) 5 (pc := 61) dX7_mixOneDay_61 rfl rfl (Nat.le_of_ble_eq_true rfl) rfl ?_
    refine s_goto (pc := 64) (tgt := 38) dX7_mixOneDay_64 rfl ?_
    exact s_sub (L' := [(0, .ref 0), (1, .long x1), (3, .int x3), (4, .int x4), (5, .long r7), (7, .int (x7 + 1))]) [2, 3, 4, 5, 1, 0] rfl h
set_option maxRecDepth 10000 in
set_option maxHeartbeats 4000000 in
theorem tX7_mixPairs_0 {E : Ev} {x1 : Int64} {σ : Hp} {Φ : Option Value → Hp → Prop}  (h : Ru E mX7_mixPairs 5 [(0, .ref 0), (1, .long x1), (3, .long x1), (5, .int 0)] [] σ Φ) : Ru E mX7_mixPairs 0 [(0, .ref 0), (1, .long x1)] [] σ Φ := by
  refine s_lload_n 1 (pc := 0) dX7_mixPairs_0 rfl rfl ?_
  refine s_lstore_n (L' := [(3, .long x1), (0, .ref 0), (1, .long x1)]) (pc := 1) dX7_mixPairs_1 rfl (Nat.le_of_ble_eq_true rfl) rfl ?_
  refine s_iconst (v := 0) (pc := 2) dX7_mixPairs_2 rfl ?_
  refine s_istore (L' := [(5, .int 0), (3, .long x1), (0, .ref 0), (1, .long x1)]) (pc := 3) dX7_mixPairs_3 (Nat.le_of_ble_eq_true rfl) rfl ?_
  exact s_sub (L' := [(0, .ref 0), (1, .long x1), (3, .long x1), (5, .int 0)]) [2, 3, 1, 0] rfl h
set_option maxRecDepth 10000 in
set_option maxHeartbeats 4000000 in
theorem tX7_mixPairs_5 {E : Ev} {x1 : Int64} {x3 : Int64} {x5 : Int32} {σ : Hp} {Φ : Option Value → Hp → Prop}  (h : (((σ 2 4) ≤ x5 → Φ (some (.long x3)) σ) ∧ (¬ (σ 2 4) ≤ x5 → Ru E mX7_mixPairs 23 [(0, .ref 0), (1, .long x1), (3, .long x3), (5, .int x5), (6, .int (x5 + 1))] [] σ Φ))) : Ru E mX7_mixPairs 5 [(0, .ref 0), (1, .long x1), (3, .long x3), (5, .int x5)] [] σ Φ := by
  refine s_iload 3 (pc := 5) dX7_mixPairs_5 rfl ?_
  refine s_aload_n 0 (pc := 7) dX7_mixPairs_7 rfl rfl ?_
  refine s_getR (q := 2) (pc := 8) dX7_mixPairs_8 fl_X7_20 ly0 rfl ?_
  refine s_getI (v := σ 2 4) (pc := 11) dX7_mixPairs_11 fl_X7_212 ly2 rfl rfl ?_
  refine s_icmp_ge (pc := 14) (tgt := 79) dX7_mixPairs_14 rfl (fun q1 => ?_) (fun q1 => ?_)
  · replace h := h.1 q1
    refine s_lload_n 2 (pc := 79) dX7_mixPairs_79 rfl rfl ?_
    exact s_ret (r := some (.long x3)) dX7_mixPairs_80 rfl h
  · replace h := h.2 q1
    refine s_iload 3 (pc := 17) dX7_mixPairs_17 rfl ?_
    refine s_iconst (v := 1) (pc := 19) dX7_mixPairs_19 rfl ?_
    refine s_iadd (pc := 20) dX7_mixPairs_20 ?_
    refine s_istore (L' := [(6, .int (x5 + 1)), (0, .ref 0), (1, .long x1), (3, .long x3), (5, .int x5)]) (pc := 21) dX7_mixPairs_21 (Nat.le_of_ble_eq_true rfl) rfl ?_
    exact s_sub (L' := [(0, .ref 0), (1, .long x1), (3, .long x3), (5, .int x5), (6, .int (x5 + 1))]) [1, 2, 3, 4, 0] rfl h
set_option maxRecDepth 10000 in
set_option maxHeartbeats 4000000 in
theorem tX7_mixPairs_23 {E : Ev} {x1 : Int64} {x3 : Int64} {x5 : Int32} {x6 : Int32} {σ : Hp} {Φ : Option Value → Hp → Prop}  (h : (((σ 2 4) ≤ x6 → Ru E mX7_mixPairs 5 [(0, .ref 0), (1, .long x1), (3, .long x3), (5, .int (x5 + 1))] [] σ Φ) ∧ (¬ (σ 2 4) ≤ x6 → ∃ (r4 : Int32) (σ2 : Hp), Call E mX7_are [.ref 0, .int 9, .int x5, .int x6] σ (some (.int r4)) σ2 ∧ ∃ (r7 : Int64) (σ5 : Hp), Call E mX7_mix [.long x3, .long (Int32.toInt64 r4)] σ2 (some (.long r7)) σ5 ∧ ∃ (r10 : Int32) (σ8 : Hp), Call E mX7_are [.ref 0, .int 19, .int x5, .int x6] σ5 (some (.int r10)) σ8 ∧ ∃ (r13 : Int64) (σ11 : Hp), Call E mX7_mix [.long r7, .long (Int32.toInt64 r10)] σ8 (some (.long r13)) σ11 ∧ Ru E mX7_mixPairs 23 [(0, .ref 0), (1, .long x1), (3, .long r13), (5, .int x5), (6, .int (x6 + 1))] [] σ11 Φ))) : Ru E mX7_mixPairs 23 [(0, .ref 0), (1, .long x1), (3, .long x3), (5, .int x5), (6, .int x6)] [] σ Φ := by
  refine s_iload 4 (pc := 23) dX7_mixPairs_23 rfl ?_
  refine s_aload_n 0 (pc := 25) dX7_mixPairs_25 rfl rfl ?_
  refine s_getR (q := 2) (pc := 26) dX7_mixPairs_26 fl_X7_20 ly0 rfl ?_
  refine s_getI (v := σ 2 4) (pc := 29) dX7_mixPairs_29 fl_X7_212 ly2 rfl rfl ?_
  refine s_icmp_ge (pc := 32) (tgt := 73) dX7_mixPairs_32 rfl (fun q1 => ?_) (fun q1 => ?_)
  · replace h := h.1 q1
    refine s_iinc (v := x5 + 1) (L' := [(5, .int (x5 + 1)), (0, .ref 0), (1, .long x1), (3, .long x3), (6, .int x6)]) 3 (pc := 73) dX7_mixPairs_73 rfl rfl (Nat.le_of_ble_eq_true rfl) rfl ?_
    refine s_goto (pc := 76) (tgt := 5) dX7_mixPairs_76 rfl ?_
    exact s_sub (L' := [(0, .ref 0), (1, .long x1), (3, .long x3), (5, .int (x5 + 1))]) [1, 2, 3, 0] rfl h
  · replace h := h.2 q1
    refine s_lload_n 2 (pc := 35) dX7_mixPairs_35 rfl rfl ?_
    refine s_aload_n 0 (pc := 36) dX7_mixPairs_36 rfl rfl ?_
    refine s_bipush (v := 9) (pc := 37) dX7_mixPairs_37 rfl ?_
    refine s_iload 3 (pc := 39) dX7_mixPairs_39 rfl ?_
    refine s_iload 4 (pc := 41) dX7_mixPairs_41 rfl ?_
    obtain ⟨r4, σ2, hk3, h⟩ := h
    refine s_callV (S := [.long x3]) [.int 9, .int x5, .int x6] (pc := 43) dX7_mixPairs_43 mv_X7_are ml_X7_373 ⟨Nat.le_of_ble_eq_true rfl, Nat.le_of_ble_eq_true rfl⟩ rfl rfl ly0 rfl rfl (Nat.le_of_ble_eq_true rfl) hk3 ?_
    refine s_i2l (pc := 46) dX7_mixPairs_46 ?_
    obtain ⟨r7, σ5, hk6, h⟩ := h
    refine s_callS (S := []) [.long x3, .long (Int32.toInt64 r4)] (pc := 47) dX7_mixPairs_47 ms_X7_mix ml_X7_303 ⟨Nat.le_of_ble_eq_true rfl, Nat.le_of_ble_eq_true rfl⟩ rfl rfl (Nat.le_of_ble_eq_true rfl) hk6 ?_
    refine s_lstore_n (L' := [(3, .long r7), (0, .ref 0), (1, .long x1), (5, .int x5), (6, .int x6)]) (pc := 50) dX7_mixPairs_50 rfl (Nat.le_of_ble_eq_true rfl) rfl ?_
    refine s_lload_n 0 (pc := 51) dX7_mixPairs_51 rfl rfl ?_
    refine s_aload_n 1 (pc := 52) dX7_mixPairs_52 rfl rfl ?_
    refine s_bipush (v := 19) (pc := 53) dX7_mixPairs_53 rfl ?_
    refine s_iload 3 (pc := 55) dX7_mixPairs_55 rfl ?_
    refine s_iload 4 (pc := 57) dX7_mixPairs_57 rfl ?_
    obtain ⟨r10, σ8, hk9, h⟩ := h
    refine s_callV (S := [.long r7]) [.int 19, .int x5, .int x6] (pc := 59) dX7_mixPairs_59 mv_X7_are ml_X7_373 ⟨Nat.le_of_ble_eq_true rfl, Nat.le_of_ble_eq_true rfl⟩ rfl rfl ly0 rfl rfl (Nat.le_of_ble_eq_true rfl) hk9 ?_
    refine s_i2l (pc := 62) dX7_mixPairs_62 ?_
    obtain ⟨r13, σ11, hk12, h⟩ := h
    refine s_callS (S := []) [.long r7, .long (Int32.toInt64 r10)] (pc := 63) dX7_mixPairs_63 ms_X7_mix ml_X7_303 ⟨Nat.le_of_ble_eq_true rfl, Nat.le_of_ble_eq_true rfl⟩ rfl rfl (Nat.le_of_ble_eq_true rfl) hk12 ?_
    refine s_lstore_n (L' := [(3, .long r13), (0, .ref 0), (1, .long x1), (5, .int x5), (6, .int x6)]) (pc := 66) dX7_mixPairs_66 rfl (Nat.le_of_ble_eq_true rfl) rfl ?_
    refine s_iinc (v := x6 + 1) (L' := [(6, .int (x6 + 1)), (3, .long r13), (0, .ref 0), (1, .long x1), (5, .int x5)]) 4 (pc := 67) dX7_mixPairs_67 rfl rfl (Nat.le_of_ble_eq_true rfl) rfl ?_
    refine s_goto (pc := 70) (tgt := 23) dX7_mixPairs_70 rfl ?_
    exact s_sub (L' := [(0, .ref 0), (1, .long x1), (3, .long r13), (5, .int x5), (6, .int (x6 + 1))]) [2, 3, 1, 4, 0] rfl h
set_option maxRecDepth 10000 in
set_option maxHeartbeats 4000000 in
theorem tX7_mixDays_0 {E : Ev} {x1 : Int64} {σ : Hp} {Φ : Option Value → Hp → Prop}  (h : Ru E mX7_mixDays 5 [(0, .ref 0), (1, .long x1), (3, .long x1), (5, .int 0)] [] σ Φ) : Ru E mX7_mixDays 0 [(0, .ref 0), (1, .long x1)] [] σ Φ := by
  refine s_lload_n 1 (pc := 0) dX7_mixDays_0 rfl rfl ?_
  refine s_lstore_n (L' := [(3, .long x1), (0, .ref 0), (1, .long x1)]) (pc := 1) dX7_mixDays_1 rfl (Nat.le_of_ble_eq_true rfl) rfl ?_
  refine s_iconst (v := 0) (pc := 2) dX7_mixDays_2 rfl ?_
  refine s_istore (L' := [(5, .int 0), (3, .long x1), (0, .ref 0), (1, .long x1)]) (pc := 3) dX7_mixDays_3 (Nat.le_of_ble_eq_true rfl) rfl ?_
  exact s_sub (L' := [(0, .ref 0), (1, .long x1), (3, .long x1), (5, .int 0)]) [2, 3, 1, 0] rfl h
set_option maxRecDepth 10000 in
set_option maxHeartbeats 4000000 in
theorem tX7_mixDays_5 {E : Ev} {x1 : Int64} {x3 : Int64} {x5 : Int32} {σ : Hp} {Φ : Option Value → Hp → Prop}  (h : ((20 ≤ x5 → Φ (some (.long x3)) σ) ∧ (¬ 20 ≤ x5 → ∃ (r4 : Int32) (σ2 : Hp), Call E mX7_pairs [.ref 0, .int x5, .int 0] σ (some (.int r4)) σ2 ∧ ∃ (r7 : Int64) (σ5 : Hp), Call E mX7_mix [.long x3, .long (Int32.toInt64 r4)] σ2 (some (.long r7)) σ5 ∧ ∃ (r10 : Int32) (σ8 : Hp), Call E mX7_pairs [.ref 0, .int x5, .int 1] σ5 (some (.int r10)) σ8 ∧ ∃ (r13 : Int64) (σ11 : Hp), Call E mX7_mix [.long r7, .long (Int32.toInt64 r10)] σ8 (some (.long r13)) σ11 ∧ ∃ (r16 : Int32) (σ14 : Hp), Call E mX7_closed [.ref 0, .int x5] σ11 (some (.int r16)) σ14 ∧ ∃ (r19 : Int64) (σ17 : Hp), Call E mX7_mix [.long r13, .long (Int32.toInt64 r16)] σ14 (some (.long r19)) σ17 ∧ Ru E mX7_mixDays 5 [(0, .ref 0), (1, .long x1), (3, .long r19), (5, .int (x5 + 1))] [] σ17 Φ))) : Ru E mX7_mixDays 5 [(0, .ref 0), (1, .long x1), (3, .long x3), (5, .int x5)] [] σ Φ := by
  refine s_iload 3 (pc := 5) dX7_mixDays_5 rfl ?_
  refine s_bipush (v := 20) (pc := 7) dX7_mixDays_7 rfl ?_
  refine s_icmp_ge (pc := 9) (tgt := 56) dX7_mixDays_9 rfl (fun q1 => ?_) (fun q1 => ?_)
  · replace h := h.1 q1
    refine s_lload_n 2 (pc := 56) dX7_mixDays_56 rfl rfl ?_
    exact s_ret (r := some (.long x3)) dX7_mixDays_57 rfl h
  · replace h := h.2 q1
    refine s_lload_n 2 (pc := 12) dX7_mixDays_12 rfl rfl ?_
    refine s_aload_n 0 (pc := 13) dX7_mixDays_13 rfl rfl ?_
    refine s_iload 3 (pc := 14) dX7_mixDays_14 rfl ?_
    refine s_iconst (v := 0) (pc := 16) dX7_mixDays_16 rfl ?_
    obtain ⟨r4, σ2, hk3, h⟩ := h
    refine s_callV (S := [.long x3]) [.int x5, .int 0] (pc := 17) dX7_mixDays_17 mv_X7_pairs ml_X7_287 ⟨Nat.le_of_ble_eq_true rfl, Nat.le_of_ble_eq_true rfl⟩ rfl rfl ly0 rfl rfl (Nat.le_of_ble_eq_true rfl) hk3 ?_
    refine s_i2l (pc := 20) dX7_mixDays_20 ?_
    obtain ⟨r7, σ5, hk6, h⟩ := h
    refine s_callS (S := []) [.long x3, .long (Int32.toInt64 r4)] (pc := 21) dX7_mixDays_21 ms_X7_mix ml_X7_303 ⟨Nat.le_of_ble_eq_true rfl, Nat.le_of_ble_eq_true rfl⟩ rfl rfl (Nat.le_of_ble_eq_true rfl) hk6 ?_
    refine s_lstore_n (L' := [(3, .long r7), (0, .ref 0), (1, .long x1), (5, .int x5)]) (pc := 24) dX7_mixDays_24 rfl (Nat.le_of_ble_eq_true rfl) rfl ?_
    refine s_lload_n 0 (pc := 25) dX7_mixDays_25 rfl rfl ?_
    refine s_aload_n 1 (pc := 26) dX7_mixDays_26 rfl rfl ?_
    refine s_iload 3 (pc := 27) dX7_mixDays_27 rfl ?_
    refine s_iconst (v := 1) (pc := 29) dX7_mixDays_29 rfl ?_
    obtain ⟨r10, σ8, hk9, h⟩ := h
    refine s_callV (S := [.long r7]) [.int x5, .int 1] (pc := 30) dX7_mixDays_30 mv_X7_pairs ml_X7_287 ⟨Nat.le_of_ble_eq_true rfl, Nat.le_of_ble_eq_true rfl⟩ rfl rfl ly0 rfl rfl (Nat.le_of_ble_eq_true rfl) hk9 ?_
    refine s_i2l (pc := 33) dX7_mixDays_33 ?_
    obtain ⟨r13, σ11, hk12, h⟩ := h
    refine s_callS (S := []) [.long r7, .long (Int32.toInt64 r10)] (pc := 34) dX7_mixDays_34 ms_X7_mix ml_X7_303 ⟨Nat.le_of_ble_eq_true rfl, Nat.le_of_ble_eq_true rfl⟩ rfl rfl (Nat.le_of_ble_eq_true rfl) hk12 ?_
    refine s_lstore_n (L' := [(3, .long r13), (0, .ref 0), (1, .long x1), (5, .int x5)]) (pc := 37) dX7_mixDays_37 rfl (Nat.le_of_ble_eq_true rfl) rfl ?_
    refine s_lload_n 0 (pc := 38) dX7_mixDays_38 rfl rfl ?_
    refine s_aload_n 1 (pc := 39) dX7_mixDays_39 rfl rfl ?_
    refine s_iload 3 (pc := 40) dX7_mixDays_40 rfl ?_
    obtain ⟨r16, σ14, hk15, h⟩ := h
    refine s_callV (S := [.long r13]) [.int x5] (pc := 42) dX7_mixDays_42 mv_X7_closed ml_X7_290 ⟨Nat.le_of_ble_eq_true rfl, Nat.le_of_ble_eq_true rfl⟩ rfl rfl ly0 rfl rfl (Nat.le_of_ble_eq_true rfl) hk15 ?_
    refine s_i2l (pc := 45) dX7_mixDays_45 ?_
    obtain ⟨r19, σ17, hk18, h⟩ := h
    refine s_callS (S := []) [.long r13, .long (Int32.toInt64 r16)] (pc := 46) dX7_mixDays_46 ms_X7_mix ml_X7_303 ⟨Nat.le_of_ble_eq_true rfl, Nat.le_of_ble_eq_true rfl⟩ rfl rfl (Nat.le_of_ble_eq_true rfl) hk18 ?_
    refine s_lstore_n (L' := [(3, .long r19), (0, .ref 0), (1, .long x1), (5, .int x5)]) (pc := 49) dX7_mixDays_49 rfl (Nat.le_of_ble_eq_true rfl) rfl ?_
    refine s_iinc (v := x5 + 1) (L' := [(5, .int (x5 + 1)), (3, .long r19), (0, .ref 0), (1, .long x1)]) 3 (pc := 50) dX7_mixDays_50 rfl rfl (Nat.le_of_ble_eq_true rfl) rfl ?_
    refine s_goto (pc := 53) (tgt := 5) dX7_mixDays_53 rfl ?_
    exact s_sub (L' := [(0, .ref 0), (1, .long x1), (3, .long r19), (5, .int (x5 + 1))]) [2, 3, 1, 0] rfl h
set_option maxRecDepth 10000 in
set_option maxHeartbeats 4000000 in
theorem tX7_isWithin_0 {E : Ev} {x0 : Int32} {x1 : Int32} {x2 : Int32} {σ : Hp} {Φ : Option Value → Hp → Prop}  (h : ((x0 < x1 → Φ (some (.int 0)) σ) ∧ (¬ x0 < x1 → ((x2 < x0 → Φ (some (.int 0)) σ) ∧ (¬ x2 < x0 → Φ (some (.int 1)) σ))))) : Ru E mX7_isWithin 0 [(0, .int x0), (1, .int x1), (2, .int x2)] [] σ Φ := by
  refine s_iload_n 0 (pc := 0) dX7_isWithin_0 rfl rfl ?_
  refine s_iload_n 1 (pc := 1) dX7_isWithin_1 rfl rfl ?_
  refine s_icmp_lt (pc := 2) (tgt := 14) dX7_isWithin_2 rfl (fun q1 => ?_) (fun q1 => ?_)
  · replace h := h.1 q1
    refine s_iconst (v := 0) (pc := 14) dX7_isWithin_14 rfl ?_
    exact s_ret (r := some (.int 0)) ⟨dX7_isWithin_15, fun ty e => by cases e; rfl⟩ rfl h
  · replace h := h.2 q1
    refine s_iload_n 0 (pc := 5) dX7_isWithin_5 rfl rfl ?_
    refine s_iload_n 2 (pc := 6) dX7_isWithin_6 rfl rfl ?_
    refine s_icmp_gt (pc := 7) (tgt := 14) dX7_isWithin_7 rfl (fun q2 => ?_) (fun q2 => ?_)
    · replace h := h.1 q2
      refine s_iconst (v := 0) (pc := 14) dX7_isWithin_14 rfl ?_
      exact s_ret (r := some (.int 0)) ⟨dX7_isWithin_15, fun ty e => by cases e; rfl⟩ rfl h
    · replace h := h.2 q2
      refine s_iconst (v := 1) (pc := 10) dX7_isWithin_10 rfl ?_
      refine s_goto (pc := 11) (tgt := 15) dX7_isWithin_11 rfl ?_
      exact s_ret (r := some (.int 1)) ⟨dX7_isWithin_15, fun ty e => by cases e; rfl⟩ rfl h
set_option maxRecDepth 10000 in
set_option maxHeartbeats 4000000 in
theorem tX7_isDay_0 {E : Ev} {x0 : Int32} {σ : Hp} {Φ : Option Value → Hp → Prop}  (h : ∃ (r3 : Int32) (σ1 : Hp), Call E mX7_isWithin [.int x0, .int 0, .int 19] σ (some (.int r3)) σ1 ∧ narrow .boolean (.int r3) = .int r3 ∧ Φ (some (.int r3)) σ1) : Ru E mX7_isDay 0 [(0, .int x0)] [] σ Φ := by
  refine s_iload_n 0 (pc := 0) dX7_isDay_0 rfl rfl ?_
  refine s_iconst (v := 0) (pc := 1) dX7_isDay_1 rfl ?_
  refine s_bipush (v := 19) (pc := 2) dX7_isDay_2 rfl ?_
  obtain ⟨r3, σ1, hk2, h⟩ := h
  refine s_callS (S := []) [.int x0, .int 0, .int 19] (pc := 4) dX7_isDay_4 ms_X7_isWithin ml_X7_72 ⟨Nat.le_of_ble_eq_true rfl, Nat.le_of_ble_eq_true rfl⟩ rfl rfl (Nat.le_of_ble_eq_true rfl) hk2 ?_
  have hz := h.1
  replace h := h.2
  exact s_ret (r := some (.int r3)) ⟨dX7_isDay_7, fun ty e => by cases e; exact hz⟩ rfl h
set_option maxRecDepth 10000 in
set_option maxHeartbeats 4000000 in
theorem tX7_isSheet_0 {E : Ev} {x0 : Int32} {σ : Hp} {Φ : Option Value → Hp → Prop}  (h : ∃ (r3 : Int32) (σ1 : Hp), Call E mX7_isWithin [.int x0, .int 0, .int 3] σ (some (.int r3)) σ1 ∧ narrow .boolean (.int r3) = .int r3 ∧ Φ (some (.int r3)) σ1) : Ru E mX7_isSheet 0 [(0, .int x0)] [] σ Φ := by
  refine s_iload_n 0 (pc := 0) dX7_isSheet_0 rfl rfl ?_
  refine s_iconst (v := 0) (pc := 1) dX7_isSheet_1 rfl ?_
  refine s_iconst (v := 3) (pc := 2) dX7_isSheet_2 rfl ?_
  obtain ⟨r3, σ1, hk2, h⟩ := h
  refine s_callS (S := []) [.int x0, .int 0, .int 3] (pc := 3) dX7_isSheet_3 ms_X7_isWithin ml_X7_72 ⟨Nat.le_of_ble_eq_true rfl, Nat.le_of_ble_eq_true rfl⟩ rfl rfl (Nat.le_of_ble_eq_true rfl) hk2 ?_
  have hz := h.1
  replace h := h.2
  exact s_ret (r := some (.int r3)) ⟨dX7_isSheet_6, fun ty e => by cases e; exact hz⟩ rfl h
set_option maxRecDepth 10000 in
set_option maxHeartbeats 4000000 in
theorem tX7_isForm_0 {E : Ev} {x0 : Int32} {σ : Hp} {Φ : Option Value → Hp → Prop}  (h : ∃ (r3 : Int32) (σ1 : Hp), Call E mX7_isWithin [.int x0, .int 0, .int 2] σ (some (.int r3)) σ1 ∧ narrow .boolean (.int r3) = .int r3 ∧ Φ (some (.int r3)) σ1) : Ru E mX7_isForm 0 [(0, .int x0)] [] σ Φ := by
  refine s_iload_n 0 (pc := 0) dX7_isForm_0 rfl rfl ?_
  refine s_iconst (v := 0) (pc := 1) dX7_isForm_1 rfl ?_
  refine s_iconst (v := 2) (pc := 2) dX7_isForm_2 rfl ?_
  obtain ⟨r3, σ1, hk2, h⟩ := h
  refine s_callS (S := []) [.int x0, .int 0, .int 2] (pc := 3) dX7_isForm_3 ms_X7_isWithin ml_X7_72 ⟨Nat.le_of_ble_eq_true rfl, Nat.le_of_ble_eq_true rfl⟩ rfl rfl (Nat.le_of_ble_eq_true rfl) hk2 ?_
  have hz := h.1
  replace h := h.2
  exact s_ret (r := some (.int r3)) ⟨dX7_isForm_6, fun ty e => by cases e; exact hz⟩ rfl h
set_option maxRecDepth 10000 in
set_option maxHeartbeats 4000000 in
theorem tX7_pick_0 {E : Ev} {x0 : Int32} {x1 : Int32} {x2 : Int32} {x3 : Int32} {σ : Hp} {Φ : Option Value → Hp → Prop}  (h : ((¬ x0 = 0 → ((¬ x0 = 1 → Φ (some (.int x3)) σ) ∧ (x0 = 1 → Φ (some (.int x2)) σ))) ∧ (x0 = 0 → Φ (some (.int x1)) σ))) : Ru E mX7_pick 0 [(0, .int x0), (1, .int x1), (2, .int x2), (3, .int x3)] [] σ Φ := by
  refine s_iload_n 0 (pc := 0) dX7_pick_0 rfl rfl ?_
  refine s_if_ne (pc := 1) (tgt := 8) dX7_pick_1 rfl (fun q1 => ?_) (fun q1 => ?_)
  · replace h := h.1 q1
    refine s_iload_n 0 (pc := 8) dX7_pick_8 rfl rfl ?_
    refine s_iconst (v := 1) (pc := 9) dX7_pick_9 rfl ?_
    refine s_icmp_ne (pc := 10) (tgt := 17) dX7_pick_10 rfl (fun q2 => ?_) (fun q2 => ?_)
    · replace h := h.1 q2
      refine s_iload_n 3 (pc := 17) dX7_pick_17 rfl rfl ?_
      exact s_ret (r := some (.int x3)) ⟨dX7_pick_18, fun ty e => by cases e; rfl⟩ rfl h
    · replace h := h.2 q2
      refine s_iload_n 2 (pc := 13) dX7_pick_13 rfl rfl ?_
      refine s_goto (pc := 14) (tgt := 18) dX7_pick_14 rfl ?_
      exact s_ret (r := some (.int x2)) ⟨dX7_pick_18, fun ty e => by cases e; rfl⟩ rfl h
  · replace h := h.2 q1
    refine s_iload_n 1 (pc := 4) dX7_pick_4 rfl rfl ?_
    refine s_goto (pc := 5) (tgt := 18) dX7_pick_5 rfl ?_
    exact s_ret (r := some (.int x1)) ⟨dX7_pick_18, fun ty e => by cases e; rfl⟩ rfl h
set_option maxRecDepth 10000 in
set_option maxHeartbeats 4000000 in
theorem tX7_bitOf_0 {E : Ev} {x0 : Int32} {x1 : Int32} {σ : Hp} {Φ : Option Value → Hp → Prop}  (h : Ru E mX7_bitOf 4 [(0, .int x0), (1, .int x1), (2, .int 0), (3, .int 0)] [] σ Φ) : Ru E mX7_bitOf 0 [(0, .int x0), (1, .int x1)] [] σ Φ := by
  refine s_iconst (v := 0) (pc := 0) dX7_bitOf_0 rfl ?_
  refine s_istore_n (L' := [(2, .int 0), (0, .int x0), (1, .int x1)]) (pc := 1) dX7_bitOf_1 rfl (Nat.le_of_ble_eq_true rfl) rfl ?_
  refine s_iconst (v := 0) (pc := 2) dX7_bitOf_2 rfl ?_
  refine s_istore_n (L' := [(3, .int 0), (2, .int 0), (0, .int x0), (1, .int x1)]) (pc := 3) dX7_bitOf_3 rfl (Nat.le_of_ble_eq_true rfl) rfl ?_
  exact s_sub (L' := [(0, .int x0), (1, .int x1), (2, .int 0), (3, .int 0)]) [2, 3, 1, 0] rfl h
set_option maxRecDepth 10000 in
set_option maxHeartbeats 4000000 in
theorem tX7_bitOf_4 {E : Ev} {x0 : Int32} {x1 : Int32} {x2 : Int32} {x3 : Int32} {σ : Hp} {Φ : Option Value → Hp → Prop}  (h : ((32 ≤ x3 → Φ (some (.int (-1))) σ) ∧ (¬ 32 ≤ x3 → ((¬ (((Int32.toUInt32 x0 >>> (Int32.toUInt32 x3 &&& Int32.toUInt32 31)).toInt32) &&& 1) = 1 → Ru E mX7_bitOf 4 [(0, .int x0), (1, .int x1), (2, .int x2), (3, .int (x3 + 1))] [] σ Φ) ∧ ((((Int32.toUInt32 x0 >>> (Int32.toUInt32 x3 &&& Int32.toUInt32 31)).toInt32) &&& 1) = 1 → ((¬ x2 = x1 → Ru E mX7_bitOf 4 [(0, .int x0), (1, .int x1), (2, .int (x2 + 1)), (3, .int (x3 + 1))] [] σ Φ) ∧ (x2 = x1 → Φ (some (.int x3)) σ))))))) : Ru E mX7_bitOf 4 [(0, .int x0), (1, .int x1), (2, .int x2), (3, .int x3)] [] σ Φ := by
  refine s_iload_n 3 (pc := 4) dX7_bitOf_4 rfl rfl ?_
  refine s_bipush (v := 32) (pc := 5) dX7_bitOf_5 rfl ?_
  refine s_icmp_ge (pc := 7) (tgt := 35) dX7_bitOf_7 rfl (fun q1 => ?_) (fun q1 => ?_)
  · replace h := h.1 q1
    refine s_iconst (v := (-1)) (pc := 35) dX7_bitOf_35 rfl ?_
    exact s_ret (r := some (.int (-1))) ⟨dX7_bitOf_36, fun ty e => by cases e; rfl⟩ rfl h
  · replace h := h.2 q1
    refine s_iload_n 0 (pc := 10) dX7_bitOf_10 rfl rfl ?_
    refine s_iload_n 3 (pc := 11) dX7_bitOf_11 rfl rfl ?_
    refine s_iushr (pc := 12) dX7_bitOf_12 ?_
    refine s_iconst (v := 1) (pc := 13) dX7_bitOf_13 rfl ?_
    refine s_iand (pc := 14) dX7_bitOf_14 ?_
    refine s_iconst (v := 1) (pc := 15) dX7_bitOf_15 rfl ?_
    refine s_icmp_ne (pc := 16) (tgt := 29) dX7_bitOf_16 rfl (fun q2 => ?_) (fun q2 => ?_)
    · replace h := h.1 q2
      refine s_iinc (v := x3 + 1) (L' := [(3, .int (x3 + 1)), (0, .int x0), (1, .int x1), (2, .int x2)]) 3 (pc := 29) dX7_bitOf_29 rfl rfl (Nat.le_of_ble_eq_true rfl) rfl ?_
      refine s_goto (pc := 32) (tgt := 4) dX7_bitOf_32 rfl ?_
      exact s_sub (L' := [(0, .int x0), (1, .int x1), (2, .int x2), (3, .int (x3 + 1))]) [1, 2, 3, 0] rfl h
    · replace h := h.2 q2
      refine s_iload_n 2 (pc := 19) dX7_bitOf_19 rfl rfl ?_
      refine s_iload_n 1 (pc := 20) dX7_bitOf_20 rfl rfl ?_
      refine s_icmp_ne (pc := 21) (tgt := 26) dX7_bitOf_21 rfl (fun q3 => ?_) (fun q3 => ?_)
      · replace h := h.1 q3
        refine s_iinc (v := x2 + 1) (L' := [(2, .int (x2 + 1)), (0, .int x0), (1, .int x1), (3, .int x3)]) 2 (pc := 26) dX7_bitOf_26 rfl rfl (Nat.le_of_ble_eq_true rfl) rfl ?_
        refine s_iinc (v := x3 + 1) (L' := [(3, .int (x3 + 1)), (2, .int (x2 + 1)), (0, .int x0), (1, .int x1)]) 3 (pc := 29) dX7_bitOf_29 rfl rfl (Nat.le_of_ble_eq_true rfl) rfl ?_
        refine s_goto (pc := 32) (tgt := 4) dX7_bitOf_32 rfl ?_
        exact s_sub (L' := [(0, .int x0), (1, .int x1), (2, .int (x2 + 1)), (3, .int (x3 + 1))]) [2, 3, 1, 0] rfl h
      · replace h := h.2 q3
        refine s_iload_n 3 (pc := 24) dX7_bitOf_24 rfl rfl ?_
        exact s_ret (r := some (.int x3)) ⟨dX7_bitOf_25, fun ty e => by cases e; rfl⟩ rfl h
set_option maxRecDepth 10000 in
set_option maxHeartbeats 4000000 in
theorem tX7_find_0 {E : Ev} {x1 : Int32} {σ : Hp} {Φ : Option Value → Hp → Prop}  (h : Φ (some (.int ((-10) - x1))) (up σ 0 12 x1)) : Ru E mX7_find 0 [(0, .ref 0), (1, .int x1)] [] σ Φ := by
  refine s_aload_n 0 (pc := 0) dX7_find_0 rfl rfl ?_
  refine s_iload_n 1 (pc := 1) dX7_find_1 rfl rfl ?_
  refine s_put (ty := .int) (pc := 2) dX7_find_2 fp_X7_295 ly0 rfl rfl rfl ?_
  refine s_bipush (v := (-10)) (pc := 5) dX7_find_5 rfl ?_
  refine s_iload_n 1 (pc := 7) dX7_find_7 rfl rfl ?_
  refine s_isub (pc := 8) dX7_find_8 ?_
  exact s_ret (r := some (.int ((-10) - x1))) ⟨dX7_find_9, fun ty e => by cases e; rfl⟩ rfl h
set_option maxRecDepth 10000 in
set_option maxHeartbeats 4000000 in
theorem tX7_comeTo_0 {E : Ev} {x1 : Int32} {σ : Hp} {Φ : Option Value → Hp → Prop}  (h : ∃ (r3 : Int32) (σ1 : Hp), Call E mX1_all [.ref 12] σ (some (.int r3)) σ1 ∧ ∃ σ4 : Hp, Call E mX6_behind [.ref 29, .ref 2, .ref 12, .int r3, .int x1] σ1 none σ4 ∧ Φ none σ4) : Ru E mX7_comeTo 0 [(0, .ref 0), (1, .int x1)] [] σ Φ := by
  refine s_aload_n 0 (pc := 0) dX7_comeTo_0 rfl rfl ?_
  refine s_getR (q := 29) (pc := 1) dX7_comeTo_1 fl_X7_47 ly0 rfl ?_
  refine s_aload_n 0 (pc := 4) dX7_comeTo_4 rfl rfl ?_
  refine s_getR (q := 2) (pc := 5) dX7_comeTo_5 fl_X7_20 ly0 rfl ?_
  refine s_aload_n 0 (pc := 8) dX7_comeTo_8 rfl rfl ?_
  refine s_getR (q := 12) (pc := 9) dX7_comeTo_9 fl_X7_30 ly0 rfl ?_
  refine s_aload_n 0 (pc := 12) dX7_comeTo_12 rfl rfl ?_
  refine s_getR (q := 12) (pc := 13) dX7_comeTo_13 fl_X7_30 ly0 rfl ?_
  obtain ⟨r3, σ1, hk2, h⟩ := h
  refine s_callV (S := [.ref 12, .ref 2, .ref 29]) [] (pc := 16) dX7_comeTo_16 mv_X1_all ml_X7_134 ⟨Nat.le_of_ble_eq_true rfl, Nat.le_of_ble_eq_true rfl⟩ rfl rfl ly12 rfl rfl (Nat.le_of_ble_eq_true rfl) hk2 ?_
  refine s_iload_n 1 (pc := 19) dX7_comeTo_19 rfl rfl ?_
  obtain ⟨σ4, hk5, h⟩ := h
  refine s_callV (S := []) [.ref 2, .ref 12, .int r3, .int x1] (pc := 20) dX7_comeTo_20 mv_X6_behind ml_X7_253 ⟨Nat.le_of_ble_eq_true rfl, Nat.le_of_ble_eq_true rfl⟩ rfl rfl ly29 rfl rfl (Nat.le_of_ble_eq_true rfl) hk5 ?_
  exact s_ret (r := none) dX7_comeTo_23 rfl h
set_option maxRecDepth 10000 in
set_option maxHeartbeats 4000000 in
theorem tX7_hear_0 {E : Ev}  {σ : Hp} {Φ : Option Value → Hp → Prop}  (h : Ru E mX7_hear 7 [(0, .ref 0), (1, .int 0)] [] (up σ 0 2 (-1)) Φ) : Ru E mX7_hear 0 [(0, .ref 0)] [] σ Φ := by
  refine s_aload_n 0 (pc := 0) dX7_hear_0 rfl rfl ?_
  refine s_iconst (v := (-1)) (pc := 1) dX7_hear_1 rfl ?_
  refine s_put (ty := .int) (pc := 2) dX7_hear_2 fp_X7_13 ly0 rfl rfl rfl ?_
  refine s_iconst (v := 0) (pc := 5) dX7_hear_5 rfl ?_
  refine s_istore_n (L' := [(1, .int 0), (0, .ref 0)]) (pc := 6) dX7_hear_6 rfl (Nat.le_of_ble_eq_true rfl) rfl ?_
  exact s_sub (L' := [(0, .ref 0), (1, .int 0)]) [1, 0] rfl h
set_option maxRecDepth 10000 in
set_option maxHeartbeats 4000000 in
theorem tX7_hear_7 {E : Ev} {x1 : Int32} {σ : Hp} {Φ : Option Value → Hp → Prop}  (h : (((σ 0 1) ≤ x1 → ((¬ (σ 0 2) = (-1) → Ru E mX7_hear 86 [(0, .ref 0), (1, .int x1)] [] σ Φ) ∧ ((σ 0 2) = (-1) → (((σ 0 1) ≤ 0 → Ru E mX7_hear 86 [(0, .ref 0), (1, .int x1)] [] σ Φ) ∧ (¬ (σ 0 1) ≤ 0 → ((((σ 0 1) - (σ 0 1) / 5 * 5) = 4 → Ru E mX7_hear 86 [(0, .ref 0), (1, .int x1)] [] σ Φ) ∧ (¬ ((σ 0 1) - (σ 0 1) / 5 * 5) = 4 → Ru E mX7_hear 86 [(0, .ref 0), (1, .int x1)] [] (up σ 0 2 (σ 0 1)) Φ))))))) ∧ (¬ (σ 0 1) ≤ x1 → ((¬ (σ 0 2) = (-1) → ((¬ (σ 0 2) = (-1) → Ru E mX7_hear 86 [(0, .ref 0), (1, .int x1)] [] σ Φ) ∧ ((σ 0 2) = (-1) → (((σ 0 1) ≤ 0 → Ru E mX7_hear 86 [(0, .ref 0), (1, .int x1)] [] σ Φ) ∧ (¬ (σ 0 1) ≤ 0 → ((((σ 0 1) - (σ 0 1) / 5 * 5) = 4 → Ru E mX7_hear 86 [(0, .ref 0), (1, .int x1)] [] σ Φ) ∧ (¬ ((σ 0 1) - (σ 0 1) / 5 * 5) = 4 → Ru E mX7_hear 86 [(0, .ref 0), (1, .int x1)] [] (up σ 0 2 (σ 0 1)) Φ))))))) ∧ ((σ 0 2) = (-1) → vp_in x1 39 ∧ ∃ (r12 : Int32) (σ10 : Hp), Call E mX7_hearByte [.ref 0, .int (x1 / 5), .int (x1 - x1 / 5 * 5), .int (σ 1 ((x1).toNatClampNeg))] σ (some (.int r12)) σ10 ∧ ((¬ r12 = 0 → Ru E mX7_hear 7 [(0, .ref 0), (1, .int (x1 + 1))] [] σ10 Φ) ∧ (r12 = 0 → Ru E mX7_hear 7 [(0, .ref 0), (1, .int (x1 + 1))] [] (up σ10 0 2 x1) Φ))))))) : Ru E mX7_hear 7 [(0, .ref 0), (1, .int x1)] [] σ Φ := by
  refine s_iload_n 1 (pc := 7) dX7_hear_7 rfl rfl ?_
  refine s_aload_n 0 (pc := 8) dX7_hear_8 rfl rfl ?_
  refine s_getI (v := σ 0 1) (pc := 9) dX7_hear_9 fl_X7_76 ly0 rfl rfl ?_
  refine s_icmp_ge (pc := 12) (tgt := 53) dX7_hear_12 rfl (fun q1 => ?_) (fun q1 => ?_)
  · replace h := h.1 q1
    refine s_aload_n 0 (pc := 53) dX7_hear_53 rfl rfl ?_
    refine s_getI (v := σ 0 2) (pc := 54) dX7_hear_54 fl_X7_13 ly0 rfl rfl ?_
    refine s_iconst (v := (-1)) (pc := 57) dX7_hear_57 rfl ?_
    refine s_icmp_ne (pc := 58) (tgt := 86) dX7_hear_58 rfl (fun q2 => ?_) (fun q2 => ?_)
    · replace h := h.1 q2
      exact s_sub (L' := [(0, .ref 0), (1, .int x1)]) [0, 1] rfl h
    · replace h := h.2 q2
      refine s_aload_n 0 (pc := 61) dX7_hear_61 rfl rfl ?_
      refine s_getI (v := σ 0 1) (pc := 62) dX7_hear_62 fl_X7_76 ly0 rfl rfl ?_
      refine s_if_le (pc := 65) (tgt := 86) dX7_hear_65 rfl (fun q3 => ?_) (fun q3 => ?_)
      · replace h := h.1 q3
        exact s_sub (L' := [(0, .ref 0), (1, .int x1)]) [0, 1] rfl h
      · replace h := h.2 q3
        refine s_aload_n 0 (pc := 68) dX7_hear_68 rfl rfl ?_
        refine s_getI (v := σ 0 1) (pc := 69) dX7_hear_69 fl_X7_76 ly0 rfl rfl ?_
        refine s_iconst (v := 5) (pc := 72) dX7_hear_72 rfl ?_
        refine s_irem (pc := 73) dX7_hear_73 (by decide) ?_
        refine s_iconst (v := 4) (pc := 74) dX7_hear_74 rfl ?_
        refine s_icmp_eq (pc := 75) (tgt := 86) dX7_hear_75 rfl (fun q4 => ?_) (fun q4 => ?_)
        · replace h := h.1 q4
          exact s_sub (L' := [(0, .ref 0), (1, .int x1)]) [0, 1] rfl h
        · replace h := h.2 q4
          refine s_aload_n 0 (pc := 78) dX7_hear_78 rfl rfl ?_
          refine s_aload_n 0 (pc := 79) dX7_hear_79 rfl rfl ?_
          refine s_getI (v := σ 0 1) (pc := 80) dX7_hear_80 fl_X7_76 ly0 rfl rfl ?_
          refine s_put (ty := .int) (pc := 83) dX7_hear_83 fp_X7_13 ly0 rfl rfl rfl ?_
          exact s_sub (L' := [(0, .ref 0), (1, .int x1)]) [0, 1] rfl h
  · replace h := h.2 q1
    refine s_aload_n 0 (pc := 15) dX7_hear_15 rfl rfl ?_
    refine s_getI (v := σ 0 2) (pc := 16) dX7_hear_16 fl_X7_13 ly0 rfl rfl ?_
    refine s_iconst (v := (-1)) (pc := 19) dX7_hear_19 rfl ?_
    refine s_icmp_ne (pc := 20) (tgt := 53) dX7_hear_20 rfl (fun q5 => ?_) (fun q5 => ?_)
    · replace h := h.1 q5
      refine s_aload_n 0 (pc := 53) dX7_hear_53 rfl rfl ?_
      refine s_getI (v := σ 0 2) (pc := 54) dX7_hear_54 fl_X7_13 ly0 rfl rfl ?_
      refine s_iconst (v := (-1)) (pc := 57) dX7_hear_57 rfl ?_
      refine s_icmp_ne (pc := 58) (tgt := 86) dX7_hear_58 rfl (fun q6 => ?_) (fun q6 => ?_)
      · replace h := h.1 q6
        exact s_sub (L' := [(0, .ref 0), (1, .int x1)]) [0, 1] rfl h
      · replace h := h.2 q6
        refine s_aload_n 0 (pc := 61) dX7_hear_61 rfl rfl ?_
        refine s_getI (v := σ 0 1) (pc := 62) dX7_hear_62 fl_X7_76 ly0 rfl rfl ?_
        refine s_if_le (pc := 65) (tgt := 86) dX7_hear_65 rfl (fun q7 => ?_) (fun q7 => ?_)
        · replace h := h.1 q7
          exact s_sub (L' := [(0, .ref 0), (1, .int x1)]) [0, 1] rfl h
        · replace h := h.2 q7
          refine s_aload_n 0 (pc := 68) dX7_hear_68 rfl rfl ?_
          refine s_getI (v := σ 0 1) (pc := 69) dX7_hear_69 fl_X7_76 ly0 rfl rfl ?_
          refine s_iconst (v := 5) (pc := 72) dX7_hear_72 rfl ?_
          refine s_irem (pc := 73) dX7_hear_73 (by decide) ?_
          refine s_iconst (v := 4) (pc := 74) dX7_hear_74 rfl ?_
          refine s_icmp_eq (pc := 75) (tgt := 86) dX7_hear_75 rfl (fun q8 => ?_) (fun q8 => ?_)
          · replace h := h.1 q8
            exact s_sub (L' := [(0, .ref 0), (1, .int x1)]) [0, 1] rfl h
          · replace h := h.2 q8
            refine s_aload_n 0 (pc := 78) dX7_hear_78 rfl rfl ?_
            refine s_aload_n 0 (pc := 79) dX7_hear_79 rfl rfl ?_
            refine s_getI (v := σ 0 1) (pc := 80) dX7_hear_80 fl_X7_76 ly0 rfl rfl ?_
            refine s_put (ty := .int) (pc := 83) dX7_hear_83 fp_X7_13 ly0 rfl rfl rfl ?_
            exact s_sub (L' := [(0, .ref 0), (1, .int x1)]) [0, 1] rfl h
    · replace h := h.2 q5
      refine s_aload_n 0 (pc := 23) dX7_hear_23 rfl rfl ?_
      refine s_iload_n 1 (pc := 24) dX7_hear_24 rfl rfl ?_
      refine s_iconst (v := 5) (pc := 25) dX7_hear_25 rfl ?_
      refine s_idiv (pc := 26) dX7_hear_26 (by decide) ?_
      refine s_iload_n 1 (pc := 27) dX7_hear_27 rfl rfl ?_
      refine s_iconst (v := 5) (pc := 28) dX7_hear_28 rfl ?_
      refine s_irem (pc := 29) dX7_hear_29 (by decide) ?_
      refine s_aload_n 0 (pc := 30) dX7_hear_30 rfl rfl ?_
      refine s_getR (q := 1) (pc := 31) dX7_hear_31 fl_X7_9 ly0 rfl ?_
      refine s_iload_n 1 (pc := 34) dX7_hear_34 rfl rfl ?_
      have hv9 := h.1
      replace h := h.2
      refine s_iald (pc := 35) dX7_hear_35 ly1 hv9 ?_
      obtain ⟨r12, σ10, hk11, h⟩ := h
      refine s_callV (S := []) [.int (x1 / 5), .int (x1 - x1 / 5 * 5), .int (σ 1 ((x1).toNatClampNeg))] (pc := 36) dX7_hear_36 mv_X7_hearByte ml_X7_376 ⟨Nat.le_of_ble_eq_true rfl, Nat.le_of_ble_eq_true rfl⟩ rfl rfl ly0 rfl rfl (Nat.le_of_ble_eq_true rfl) hk11 ?_
      refine s_if_ne (pc := 39) (tgt := 47) dX7_hear_39 rfl (fun q13 => ?_) (fun q13 => ?_)
      · replace h := h.1 q13
        refine s_iinc (v := x1 + 1) (L' := [(1, .int (x1 + 1)), (0, .ref 0)]) 1 (pc := 47) dX7_hear_47 rfl rfl (Nat.le_of_ble_eq_true rfl) rfl ?_
        refine s_goto (pc := 50) (tgt := 7) dX7_hear_50 rfl ?_
        exact s_sub (L' := [(0, .ref 0), (1, .int (x1 + 1))]) [1, 0] rfl h
      · replace h := h.2 q13
        refine s_aload_n 0 (pc := 42) dX7_hear_42 rfl rfl ?_
        refine s_iload_n 1 (pc := 43) dX7_hear_43 rfl rfl ?_
        refine s_put (ty := .int) (pc := 44) dX7_hear_44 fp_X7_13 ly0 rfl rfl rfl ?_
        refine s_iinc (v := x1 + 1) (L' := [(1, .int (x1 + 1)), (0, .ref 0)]) 1 (pc := 47) dX7_hear_47 rfl rfl (Nat.le_of_ble_eq_true rfl) rfl ?_
        refine s_goto (pc := 50) (tgt := 7) dX7_hear_50 rfl ?_
        exact s_sub (L' := [(0, .ref 0), (1, .int (x1 + 1))]) [1, 0] rfl h
set_option maxRecDepth 10000 in
set_option maxHeartbeats 4000000 in
theorem tX7_hear_86 {E : Ev} {x1 : Int32} {σ : Hp} {Φ : Option Value → Hp → Prop}  (h : ((¬ (σ 0 2) = (-1) → Φ none (up σ 2 4 0)) ∧ ((σ 0 2) = (-1) → Φ none (up σ 2 4 (((σ 0 1) + 1) / 5))))) : Ru E mX7_hear 86 [(0, .ref 0), (1, .int x1)] [] σ Φ := by
  refine s_aload_n 0 (pc := 86) dX7_hear_86 rfl rfl ?_
  refine s_getR (q := 2) (pc := 87) dX7_hear_87 fl_X7_20 ly0 rfl ?_
  refine s_aload_n 0 (pc := 90) dX7_hear_90 rfl rfl ?_
  refine s_getI (v := σ 0 2) (pc := 91) dX7_hear_91 fl_X7_13 ly0 rfl rfl ?_
  refine s_iconst (v := (-1)) (pc := 94) dX7_hear_94 rfl ?_
  refine s_icmp_ne (pc := 95) (tgt := 109) dX7_hear_95 rfl (fun q1 => ?_) (fun q1 => ?_)
  · replace h := h.1 q1
    refine s_iconst (v := 0) (pc := 109) dX7_hear_109 rfl ?_
    refine s_put (ty := .int) (pc := 110) dX7_hear_110 fp_X7_212 ly2 rfl rfl rfl ?_
    exact s_ret (r := none) dX7_hear_113 rfl h
  · replace h := h.2 q1
    refine s_aload_n 0 (pc := 98) dX7_hear_98 rfl rfl ?_
    refine s_getI (v := σ 0 1) (pc := 99) dX7_hear_99 fl_X7_76 ly0 rfl rfl ?_
    refine s_iconst (v := 1) (pc := 102) dX7_hear_102 rfl ?_
    refine s_iadd (pc := 103) dX7_hear_103 ?_
    refine s_iconst (v := 5) (pc := 104) dX7_hear_104 rfl ?_
    refine s_idiv (pc := 105) dX7_hear_105 (by decide) ?_
    refine s_goto (pc := 106) (tgt := 110) dX7_hear_106 rfl ?_
    refine s_put (ty := .int) (pc := 110) dX7_hear_110 fp_X7_212 ly2 rfl rfl rfl ?_
    exact s_ret (r := none) dX7_hear_113 rfl h
set_option maxRecDepth 10000 in
set_option maxHeartbeats 4000000 in
theorem tX7_hearByte_0 {E : Ev} {x1 : Int32} {x2 : Int32} {x3 : Int32} {σ : Hp} {Φ : Option Value → Hp → Prop}  (h : ((x1 < 8 → ((¬ x2 = 4 → ((¬ x2 = 3 → ((¬ x2 = 0 → ((¬ x2 = 1 → vp_in x1 8 ∧ Ru E mX7_hearByte 138 [(0, .ref 0), (1, .int x1), (2, .int x2), (3, .int x3), (4, .int (x3 - 48))] [] (up σ 5 ((x1).toNatClampNeg) (x3 - 48)) Φ) ∧ (x2 = 1 → vp_in x1 8 ∧ Ru E mX7_hearByte 138 [(0, .ref 0), (1, .int x1), (2, .int x2), (3, .int x3), (4, .int (x3 - 48))] [] (up σ 4 ((x1).toNatClampNeg) (x3 - 48)) Φ))) ∧ (x2 = 0 → vp_in x1 8 ∧ Ru E mX7_hearByte 138 [(0, .ref 0), (1, .int x1), (2, .int x2), (3, .int x3), (4, .int (x3 - 48))] [] (up σ 3 ((x1).toNatClampNeg) (x3 - 48)) Φ))) ∧ (x2 = 3 → ((¬ x3 = 115 → ((¬ x3 = 108 → vp_in x1 8 ∧ ((x3 = 115 → Φ (some (.int 1)) (up σ 6 ((x1).toNatClampNeg) 2)) ∧ (¬ x3 = 115 → ((x3 = 108 → Φ (some (.int 1)) (up σ 6 ((x1).toNatClampNeg) 2)) ∧ (¬ x3 = 108 → ((¬ x3 = 98 → Φ (some (.int 0)) (up σ 6 ((x1).toNatClampNeg) 2)) ∧ (x3 = 98 → Φ (some (.int 1)) (up σ 6 ((x1).toNatClampNeg) 2)))))))) ∧ (x3 = 108 → vp_in x1 8 ∧ ((x3 = 115 → Φ (some (.int 1)) (up σ 6 ((x1).toNatClampNeg) 1)) ∧ (¬ x3 = 115 → ((x3 = 108 → Φ (some (.int 1)) (up σ 6 ((x1).toNatClampNeg) 1)) ∧ (¬ x3 = 108 → ((¬ x3 = 98 → Φ (some (.int 0)) (up σ 6 ((x1).toNatClampNeg) 1)) ∧ (x3 = 98 → Φ (some (.int 1)) (up σ 6 ((x1).toNatClampNeg) 1)))))))))) ∧ (x3 = 115 → vp_in x1 8 ∧ ((x3 = 115 → Φ (some (.int 1)) (up σ 6 ((x1).toNatClampNeg) 0)) ∧ (¬ x3 = 115 → ((x3 = 108 → Φ (some (.int 1)) (up σ 6 ((x1).toNatClampNeg) 0)) ∧ (¬ x3 = 108 → ((¬ x3 = 98 → Φ (some (.int 0)) (up σ 6 ((x1).toNatClampNeg) 0)) ∧ (x3 = 98 → Φ (some (.int 1)) (up σ 6 ((x1).toNatClampNeg) 0)))))))))))) ∧ (x2 = 4 → ((¬ x3 = 59 → Φ (some (.int 0)) σ) ∧ (x3 = 59 → Φ (some (.int 1)) σ))))) ∧ (¬ x1 < 8 → Φ (some (.int 0)) σ))) : Ru E mX7_hearByte 0 [(0, .ref 0), (1, .int x1), (2, .int x2), (3, .int x3)] [] σ Φ := by
  refine s_iload_n 1 (pc := 0) dX7_hearByte_0 rfl rfl ?_
  refine s_bipush (v := 8) (pc := 1) dX7_hearByte_1 rfl ?_
  refine s_icmp_lt (pc := 3) (tgt := 8) dX7_hearByte_3 rfl (fun q1 => ?_) (fun q1 => ?_)
  · replace h := h.1 q1
    refine s_iload_n 2 (pc := 8) dX7_hearByte_8 rfl rfl ?_
    refine s_iconst (v := 4) (pc := 9) dX7_hearByte_9 rfl ?_
    refine s_icmp_ne (pc := 10) (tgt := 25) dX7_hearByte_10 rfl (fun q2 => ?_) (fun q2 => ?_)
    · replace h := h.1 q2
      refine s_iload_n 2 (pc := 25) dX7_hearByte_25 rfl rfl ?_
      refine s_iconst (v := 3) (pc := 26) dX7_hearByte_26 rfl ?_
      refine s_icmp_ne (pc := 27) (tgt := 84) dX7_hearByte_27 rfl (fun q3 => ?_) (fun q3 => ?_)
      · replace h := h.1 q3
        refine s_iload_n 3 (pc := 84) dX7_hearByte_84 rfl rfl ?_
        refine s_bipush (v := 48) (pc := 85) dX7_hearByte_85 rfl ?_
        refine s_isub (pc := 87) dX7_hearByte_87 ?_
        refine s_istore (L' := [(4, .int (x3 - 48)), (0, .ref 0), (1, .int x1), (2, .int x2), (3, .int x3)]) (pc := 88) dX7_hearByte_88 (Nat.le_of_ble_eq_true rfl) rfl ?_
        refine s_iload_n 3 (pc := 90) dX7_hearByte_90 rfl rfl ?_
        refine s_if_ne (pc := 91) (tgt := 108) dX7_hearByte_91 rfl (fun q4 => ?_) (fun q4 => ?_)
        · replace h := h.1 q4
          refine s_iload_n 3 (pc := 108) dX7_hearByte_108 rfl rfl ?_
          refine s_iconst (v := 1) (pc := 109) dX7_hearByte_109 rfl ?_
          refine s_icmp_ne (pc := 110) (tgt := 127) dX7_hearByte_110 rfl (fun q5 => ?_) (fun q5 => ?_)
          · replace h := h.1 q5
            refine s_aload_n 1 (pc := 127) dX7_hearByte_127 rfl rfl ?_
            refine s_getR (q := 2) (pc := 128) dX7_hearByte_128 fl_X7_20 ly0 rfl ?_
            refine s_getR (q := 5) (pc := 131) dX7_hearByte_131 fl_X7_92 ly2 rfl ?_
            refine s_iload_n 2 (pc := 134) dX7_hearByte_134 rfl rfl ?_
            refine s_iload 0 (pc := 135) dX7_hearByte_135 rfl ?_
            have hv6 := h.1
            replace h := h.2
            refine s_iast (pc := 137) dX7_hearByte_137 ly5 hv6 ?_
            exact s_sub (L' := [(0, .ref 0), (1, .int x1), (2, .int x2), (3, .int x3), (4, .int (x3 - 48))]) [1, 2, 3, 4, 0] rfl h
          · replace h := h.2 q5
            refine s_aload_n 1 (pc := 113) dX7_hearByte_113 rfl rfl ?_
            refine s_getR (q := 2) (pc := 114) dX7_hearByte_114 fl_X7_20 ly0 rfl ?_
            refine s_getR (q := 4) (pc := 117) dX7_hearByte_117 fl_X7_89 ly2 rfl ?_
            refine s_iload_n 2 (pc := 120) dX7_hearByte_120 rfl rfl ?_
            refine s_iload 0 (pc := 121) dX7_hearByte_121 rfl ?_
            have hv7 := h.1
            replace h := h.2
            refine s_iast (pc := 123) dX7_hearByte_123 ly4 hv7 ?_
            refine s_goto (pc := 124) (tgt := 138) dX7_hearByte_124 rfl ?_
            exact s_sub (L' := [(0, .ref 0), (1, .int x1), (2, .int x2), (3, .int x3), (4, .int (x3 - 48))]) [1, 2, 3, 4, 0] rfl h
        · replace h := h.2 q4
          refine s_aload_n 1 (pc := 94) dX7_hearByte_94 rfl rfl ?_
          refine s_getR (q := 2) (pc := 95) dX7_hearByte_95 fl_X7_20 ly0 rfl ?_
          refine s_getR (q := 3) (pc := 98) dX7_hearByte_98 fl_X7_86 ly2 rfl ?_
          refine s_iload_n 2 (pc := 101) dX7_hearByte_101 rfl rfl ?_
          refine s_iload 0 (pc := 102) dX7_hearByte_102 rfl ?_
          have hv8 := h.1
          replace h := h.2
          refine s_iast (pc := 104) dX7_hearByte_104 ly3 hv8 ?_
          refine s_goto (pc := 105) (tgt := 138) dX7_hearByte_105 rfl ?_
          exact s_sub (L' := [(0, .ref 0), (1, .int x1), (2, .int x2), (3, .int x3), (4, .int (x3 - 48))]) [1, 2, 3, 4, 0] rfl h
      · replace h := h.2 q3
        refine s_aload_n 0 (pc := 30) dX7_hearByte_30 rfl rfl ?_
        refine s_getR (q := 2) (pc := 31) dX7_hearByte_31 fl_X7_20 ly0 rfl ?_
        refine s_getR (q := 6) (pc := 34) dX7_hearByte_34 fl_X7_95 ly2 rfl ?_
        refine s_iload_n 1 (pc := 37) dX7_hearByte_37 rfl rfl ?_
        refine s_iload_n 3 (pc := 38) dX7_hearByte_38 rfl rfl ?_
        refine s_bipush (v := 115) (pc := 39) dX7_hearByte_39 rfl ?_
        refine s_icmp_ne (pc := 41) (tgt := 48) dX7_hearByte_41 rfl (fun q9 => ?_) (fun q9 => ?_)
        · replace h := h.1 q9
          refine s_iload_n 3 (pc := 48) dX7_hearByte_48 rfl rfl ?_
          refine s_bipush (v := 108) (pc := 49) dX7_hearByte_49 rfl ?_
          refine s_icmp_ne (pc := 51) (tgt := 58) dX7_hearByte_51 rfl (fun q10 => ?_) (fun q10 => ?_)
          · replace h := h.1 q10
            refine s_iconst (v := 2) (pc := 58) dX7_hearByte_58 rfl ?_
            have hv11 := h.1
            replace h := h.2
            refine s_iast (pc := 59) dX7_hearByte_59 ly6 hv11 ?_
            refine s_iload_n 3 (pc := 60) dX7_hearByte_60 rfl rfl ?_
            refine s_bipush (v := 115) (pc := 61) dX7_hearByte_61 rfl ?_
            refine s_icmp_eq (pc := 63) (tgt := 78) dX7_hearByte_63 rfl (fun q12 => ?_) (fun q12 => ?_)
            · replace h := h.1 q12
              refine s_iconst (v := 1) (pc := 78) dX7_hearByte_78 rfl ?_
              refine s_goto (pc := 79) (tgt := 83) dX7_hearByte_79 rfl ?_
              exact s_ret (r := some (.int 1)) ⟨dX7_hearByte_83, fun ty e => by cases e; rfl⟩ rfl h
            · replace h := h.2 q12
              refine s_iload_n 3 (pc := 66) dX7_hearByte_66 rfl rfl ?_
              refine s_bipush (v := 108) (pc := 67) dX7_hearByte_67 rfl ?_
              refine s_icmp_eq (pc := 69) (tgt := 78) dX7_hearByte_69 rfl (fun q13 => ?_) (fun q13 => ?_)
              · replace h := h.1 q13
                refine s_iconst (v := 1) (pc := 78) dX7_hearByte_78 rfl ?_
                refine s_goto (pc := 79) (tgt := 83) dX7_hearByte_79 rfl ?_
                exact s_ret (r := some (.int 1)) ⟨dX7_hearByte_83, fun ty e => by cases e; rfl⟩ rfl h
              · replace h := h.2 q13
                refine s_iload_n 3 (pc := 72) dX7_hearByte_72 rfl rfl ?_
                refine s_bipush (v := 98) (pc := 73) dX7_hearByte_73 rfl ?_
                refine s_icmp_ne (pc := 75) (tgt := 82) dX7_hearByte_75 rfl (fun q14 => ?_) (fun q14 => ?_)
                · replace h := h.1 q14
                  refine s_iconst (v := 0) (pc := 82) dX7_hearByte_82 rfl ?_
                  exact s_ret (r := some (.int 0)) ⟨dX7_hearByte_83, fun ty e => by cases e; rfl⟩ rfl h
                · replace h := h.2 q14
                  refine s_iconst (v := 1) (pc := 78) dX7_hearByte_78 rfl ?_
                  refine s_goto (pc := 79) (tgt := 83) dX7_hearByte_79 rfl ?_
                  exact s_ret (r := some (.int 1)) ⟨dX7_hearByte_83, fun ty e => by cases e; rfl⟩ rfl h
          · replace h := h.2 q10
            refine s_iconst (v := 1) (pc := 54) dX7_hearByte_54 rfl ?_
            refine s_goto (pc := 55) (tgt := 59) dX7_hearByte_55 rfl ?_
            have hv15 := h.1
            replace h := h.2
            refine s_iast (pc := 59) dX7_hearByte_59 ly6 hv15 ?_
            refine s_iload_n 3 (pc := 60) dX7_hearByte_60 rfl rfl ?_
            refine s_bipush (v := 115) (pc := 61) dX7_hearByte_61 rfl ?_
            refine s_icmp_eq (pc := 63) (tgt := 78) dX7_hearByte_63 rfl (fun q16 => ?_) (fun q16 => ?_)
            · replace h := h.1 q16
              refine s_iconst (v := 1) (pc := 78) dX7_hearByte_78 rfl ?_
              refine s_goto (pc := 79) (tgt := 83) dX7_hearByte_79 rfl ?_
              exact s_ret (r := some (.int 1)) ⟨dX7_hearByte_83, fun ty e => by cases e; rfl⟩ rfl h
            · replace h := h.2 q16
              refine s_iload_n 3 (pc := 66) dX7_hearByte_66 rfl rfl ?_
              refine s_bipush (v := 108) (pc := 67) dX7_hearByte_67 rfl ?_
              refine s_icmp_eq (pc := 69) (tgt := 78) dX7_hearByte_69 rfl (fun q17 => ?_) (fun q17 => ?_)
              · replace h := h.1 q17
                refine s_iconst (v := 1) (pc := 78) dX7_hearByte_78 rfl ?_
                refine s_goto (pc := 79) (tgt := 83) dX7_hearByte_79 rfl ?_
                exact s_ret (r := some (.int 1)) ⟨dX7_hearByte_83, fun ty e => by cases e; rfl⟩ rfl h
              · replace h := h.2 q17
                refine s_iload_n 3 (pc := 72) dX7_hearByte_72 rfl rfl ?_
                refine s_bipush (v := 98) (pc := 73) dX7_hearByte_73 rfl ?_
                refine s_icmp_ne (pc := 75) (tgt := 82) dX7_hearByte_75 rfl (fun q18 => ?_) (fun q18 => ?_)
                · replace h := h.1 q18
                  refine s_iconst (v := 0) (pc := 82) dX7_hearByte_82 rfl ?_
                  exact s_ret (r := some (.int 0)) ⟨dX7_hearByte_83, fun ty e => by cases e; rfl⟩ rfl h
                · replace h := h.2 q18
                  refine s_iconst (v := 1) (pc := 78) dX7_hearByte_78 rfl ?_
                  refine s_goto (pc := 79) (tgt := 83) dX7_hearByte_79 rfl ?_
                  exact s_ret (r := some (.int 1)) ⟨dX7_hearByte_83, fun ty e => by cases e; rfl⟩ rfl h
        · replace h := h.2 q9
          refine s_iconst (v := 0) (pc := 44) dX7_hearByte_44 rfl ?_
          refine s_goto (pc := 45) (tgt := 59) dX7_hearByte_45 rfl ?_
          have hv19 := h.1
          replace h := h.2
          refine s_iast (pc := 59) dX7_hearByte_59 ly6 hv19 ?_
          refine s_iload_n 3 (pc := 60) dX7_hearByte_60 rfl rfl ?_
          refine s_bipush (v := 115) (pc := 61) dX7_hearByte_61 rfl ?_
          refine s_icmp_eq (pc := 63) (tgt := 78) dX7_hearByte_63 rfl (fun q20 => ?_) (fun q20 => ?_)
          · replace h := h.1 q20
            refine s_iconst (v := 1) (pc := 78) dX7_hearByte_78 rfl ?_
            refine s_goto (pc := 79) (tgt := 83) dX7_hearByte_79 rfl ?_
            exact s_ret (r := some (.int 1)) ⟨dX7_hearByte_83, fun ty e => by cases e; rfl⟩ rfl h
          · replace h := h.2 q20
            refine s_iload_n 3 (pc := 66) dX7_hearByte_66 rfl rfl ?_
            refine s_bipush (v := 108) (pc := 67) dX7_hearByte_67 rfl ?_
            refine s_icmp_eq (pc := 69) (tgt := 78) dX7_hearByte_69 rfl (fun q21 => ?_) (fun q21 => ?_)
            · replace h := h.1 q21
              refine s_iconst (v := 1) (pc := 78) dX7_hearByte_78 rfl ?_
              refine s_goto (pc := 79) (tgt := 83) dX7_hearByte_79 rfl ?_
              exact s_ret (r := some (.int 1)) ⟨dX7_hearByte_83, fun ty e => by cases e; rfl⟩ rfl h
            · replace h := h.2 q21
              refine s_iload_n 3 (pc := 72) dX7_hearByte_72 rfl rfl ?_
              refine s_bipush (v := 98) (pc := 73) dX7_hearByte_73 rfl ?_
              refine s_icmp_ne (pc := 75) (tgt := 82) dX7_hearByte_75 rfl (fun q22 => ?_) (fun q22 => ?_)
              · replace h := h.1 q22
                refine s_iconst (v := 0) (pc := 82) dX7_hearByte_82 rfl ?_
                exact s_ret (r := some (.int 0)) ⟨dX7_hearByte_83, fun ty e => by cases e; rfl⟩ rfl h
              · replace h := h.2 q22
                refine s_iconst (v := 1) (pc := 78) dX7_hearByte_78 rfl ?_
                refine s_goto (pc := 79) (tgt := 83) dX7_hearByte_79 rfl ?_
                exact s_ret (r := some (.int 1)) ⟨dX7_hearByte_83, fun ty e => by cases e; rfl⟩ rfl h
    · replace h := h.2 q2
      refine s_iload_n 3 (pc := 13) dX7_hearByte_13 rfl rfl ?_
      refine s_bipush (v := 59) (pc := 14) dX7_hearByte_14 rfl ?_
      refine s_icmp_ne (pc := 16) (tgt := 23) dX7_hearByte_16 rfl (fun q23 => ?_) (fun q23 => ?_)
      · replace h := h.1 q23
        refine s_iconst (v := 0) (pc := 23) dX7_hearByte_23 rfl ?_
        exact s_ret (r := some (.int 0)) ⟨dX7_hearByte_24, fun ty e => by cases e; rfl⟩ rfl h
      · replace h := h.2 q23
        refine s_iconst (v := 1) (pc := 19) dX7_hearByte_19 rfl ?_
        refine s_goto (pc := 20) (tgt := 24) dX7_hearByte_20 rfl ?_
        exact s_ret (r := some (.int 1)) ⟨dX7_hearByte_24, fun ty e => by cases e; rfl⟩ rfl h
  · replace h := h.2 q1
    refine s_iconst (v := 0) (pc := 6) dX7_hearByte_6 rfl ?_
    exact s_ret (r := some (.int 0)) ⟨dX7_hearByte_7, fun ty e => by cases e; rfl⟩ rfl h
set_option maxRecDepth 10000 in
set_option maxHeartbeats 4000000 in
theorem tX7_hearByte_138 {E : Ev} {x1 : Int32} {x2 : Int32} {x3 : Int32} {x4 : Int32} {σ : Hp} {Φ : Option Value → Hp → Prop}  (h : ∃ (r3 : Int32) (σ1 : Hp), Call E mX7_isWithin [.int x4, .int 0, .int 9] σ (some (.int r3)) σ1 ∧ narrow .boolean (.int r3) = .int r3 ∧ Φ (some (.int r3)) σ1) : Ru E mX7_hearByte 138 [(0, .ref 0), (1, .int x1), (2, .int x2), (3, .int x3), (4, .int x4)] [] σ Φ := by
  refine s_iload 4 (pc := 138) dX7_hearByte_138 rfl ?_
  refine s_iconst (v := 0) (pc := 140) dX7_hearByte_140 rfl ?_
  refine s_bipush (v := 9) (pc := 141) dX7_hearByte_141 rfl ?_
  obtain ⟨r3, σ1, hk2, h⟩ := h
  refine s_callS (S := []) [.int x4, .int 0, .int 9] (pc := 143) dX7_hearByte_143 ms_X7_isWithin ml_X7_72 ⟨Nat.le_of_ble_eq_true rfl, Nat.le_of_ble_eq_true rfl⟩ rfl rfl (Nat.le_of_ble_eq_true rfl) hk2 ?_
  have hz := h.1
  replace h := h.2
  exact s_ret (r := some (.int r3)) ⟨dX7_hearByte_146, fun ty e => by cases e; exact hz⟩ rfl h
set_option maxRecDepth 10000 in
set_option maxHeartbeats 4000000 in
theorem tX7_talkedOnceSwapped_0 {E : Ev} {x1 : Int32} {x2 : Int32} {σ : Hp} {Φ : Option Value → Hp → Prop}  (h : ∃ σ1 : Hp, Call E mX0_swapSpreads [.ref 7, .int x1, .int x2] σ none σ1 ∧ ∃ (r5 : Int32) (σ3 : Hp), Call E mX1_all [.ref 12] σ1 (some (.int r5)) σ3 ∧ ∃ σ6 : Hp, Call E mX6_behind [.ref 29, .ref 7, .ref 12, .int r5, .int 19] σ3 none σ6 ∧ ∃ σ8 : Hp, Call E mX0_swapSpreads [.ref 7, .int x1, .int x2] σ6 none σ8 ∧ ∃ (r12 : Int32) (σ10 : Hp), Call E mX6_closedPairs [.ref 29, .int 4] σ8 (some (.int r12)) σ10 ∧ Φ (some (.int r12)) σ10) : Ru E mX7_talkedOnceSwapped 0 [(0, .ref 0), (1, .int x1), (2, .int x2)] [] σ Φ := by
  refine s_aload_n 0 (pc := 0) dX7_talkedOnceSwapped_0 rfl rfl ?_
  refine s_getR (q := 7) (pc := 1) dX7_talkedOnceSwapped_1 fl_X7_24 ly0 rfl ?_
  refine s_iload_n 1 (pc := 4) dX7_talkedOnceSwapped_4 rfl rfl ?_
  refine s_iload_n 2 (pc := 5) dX7_talkedOnceSwapped_5 rfl rfl ?_
  obtain ⟨σ1, hk2, h⟩ := h
  refine s_callV (S := []) [.int x1, .int x2] (pc := 6) dX7_talkedOnceSwapped_6 mv_X0_swapSpreads ml_X7_379 ⟨Nat.le_of_ble_eq_true rfl, Nat.le_of_ble_eq_true rfl⟩ rfl rfl ly7 rfl rfl (Nat.le_of_ble_eq_true rfl) hk2 ?_
  refine s_aload_n 0 (pc := 9) dX7_talkedOnceSwapped_9 rfl rfl ?_
  refine s_getR (q := 29) (pc := 10) dX7_talkedOnceSwapped_10 fl_X7_47 ly0 rfl ?_
  refine s_aload_n 0 (pc := 13) dX7_talkedOnceSwapped_13 rfl rfl ?_
  refine s_getR (q := 7) (pc := 14) dX7_talkedOnceSwapped_14 fl_X7_24 ly0 rfl ?_
  refine s_aload_n 0 (pc := 17) dX7_talkedOnceSwapped_17 rfl rfl ?_
  refine s_getR (q := 12) (pc := 18) dX7_talkedOnceSwapped_18 fl_X7_30 ly0 rfl ?_
  refine s_aload_n 0 (pc := 21) dX7_talkedOnceSwapped_21 rfl rfl ?_
  refine s_getR (q := 12) (pc := 22) dX7_talkedOnceSwapped_22 fl_X7_30 ly0 rfl ?_
  obtain ⟨r5, σ3, hk4, h⟩ := h
  refine s_callV (S := [.ref 12, .ref 7, .ref 29]) [] (pc := 25) dX7_talkedOnceSwapped_25 mv_X1_all ml_X7_134 ⟨Nat.le_of_ble_eq_true rfl, Nat.le_of_ble_eq_true rfl⟩ rfl rfl ly12 rfl rfl (Nat.le_of_ble_eq_true rfl) hk4 ?_
  refine s_bipush (v := 19) (pc := 28) dX7_talkedOnceSwapped_28 rfl ?_
  obtain ⟨σ6, hk7, h⟩ := h
  refine s_callV (S := []) [.ref 7, .ref 12, .int r5, .int 19] (pc := 30) dX7_talkedOnceSwapped_30 mv_X6_behind ml_X7_253 ⟨Nat.le_of_ble_eq_true rfl, Nat.le_of_ble_eq_true rfl⟩ rfl rfl ly29 rfl rfl (Nat.le_of_ble_eq_true rfl) hk7 ?_
  refine s_aload_n 0 (pc := 33) dX7_talkedOnceSwapped_33 rfl rfl ?_
  refine s_getR (q := 7) (pc := 34) dX7_talkedOnceSwapped_34 fl_X7_24 ly0 rfl ?_
  refine s_iload_n 1 (pc := 37) dX7_talkedOnceSwapped_37 rfl rfl ?_
  refine s_iload_n 2 (pc := 38) dX7_talkedOnceSwapped_38 rfl rfl ?_
  obtain ⟨σ8, hk9, h⟩ := h
  refine s_callV (S := []) [.int x1, .int x2] (pc := 39) dX7_talkedOnceSwapped_39 mv_X0_swapSpreads ml_X7_379 ⟨Nat.le_of_ble_eq_true rfl, Nat.le_of_ble_eq_true rfl⟩ rfl rfl ly7 rfl rfl (Nat.le_of_ble_eq_true rfl) hk9 ?_
  refine s_aload_n 0 (pc := 42) dX7_talkedOnceSwapped_42 rfl rfl ?_
  refine s_getR (q := 29) (pc := 43) dX7_talkedOnceSwapped_43 fl_X7_47 ly0 rfl ?_
  refine s_iconst (v := 4) (pc := 46) dX7_talkedOnceSwapped_46 rfl ?_
  obtain ⟨r12, σ10, hk11, h⟩ := h
  refine s_callV (S := []) [.int 4] (pc := 47) dX7_talkedOnceSwapped_47 mv_X6_closedPairs ml_X7_179 ⟨Nat.le_of_ble_eq_true rfl, Nat.le_of_ble_eq_true rfl⟩ rfl rfl ly29 rfl rfl (Nat.le_of_ble_eq_true rfl) hk11 ?_
  exact s_ret (r := some (.int r12)) ⟨dX7_talkedOnceSwapped_50, fun ty e => by cases e; rfl⟩ rfl h
set_option maxRecDepth 10000 in
set_option maxHeartbeats 4000000 in
theorem tX7_isQuietWithout_0 {E : Ev} {x1 : Int32} {σ : Hp} {Φ : Option Value → Hp → Prop}  (h : ∃ (r3 : Int32) (σ1 : Hp), Call E mX1_all [.ref 12] σ (some (.int r3)) σ1 ∧ ∃ σ4 : Hp, Call E mX6_behind [.ref 29, .ref 2, .ref 12, .int (r3 &&& (x1 ^^^ (-1))), .int 19] σ1 none σ4 ∧ ∃ (r8 : Int32) (σ6 : Hp), Call E mX6_closedPairs [.ref 29, .int 4] σ4 (some (.int r8)) σ6 ∧ ((¬ r8 = 0 → Φ (some (.int 0)) σ6) ∧ (r8 = 0 → Φ (some (.int 1)) σ6))) : Ru E mX7_isQuietWithout 0 [(0, .ref 0), (1, .int x1)] [] σ Φ := by
  refine s_aload_n 0 (pc := 0) dX7_isQuietWithout_0 rfl rfl ?_
  refine s_getR (q := 29) (pc := 1) dX7_isQuietWithout_1 fl_X7_47 ly0 rfl ?_
  refine s_aload_n 0 (pc := 4) dX7_isQuietWithout_4 rfl rfl ?_
  refine s_getR (q := 2) (pc := 5) dX7_isQuietWithout_5 fl_X7_20 ly0 rfl ?_
  refine s_aload_n 0 (pc := 8) dX7_isQuietWithout_8 rfl rfl ?_
  refine s_getR (q := 12) (pc := 9) dX7_isQuietWithout_9 fl_X7_30 ly0 rfl ?_
  refine s_aload_n 0 (pc := 12) dX7_isQuietWithout_12 rfl rfl ?_
  refine s_getR (q := 12) (pc := 13) dX7_isQuietWithout_13 fl_X7_30 ly0 rfl ?_
  obtain ⟨r3, σ1, hk2, h⟩ := h
  refine s_callV (S := [.ref 12, .ref 2, .ref 29]) [] (pc := 16) dX7_isQuietWithout_16 mv_X1_all ml_X7_134 ⟨Nat.le_of_ble_eq_true rfl, Nat.le_of_ble_eq_true rfl⟩ rfl rfl ly12 rfl rfl (Nat.le_of_ble_eq_true rfl) hk2 ?_
  refine s_iload_n 1 (pc := 19) dX7_isQuietWithout_19 rfl rfl ?_
  refine s_iconst (v := (-1)) (pc := 20) dX7_isQuietWithout_20 rfl ?_
  refine s_ixor (pc := 21) dX7_isQuietWithout_21 ?_
  refine s_iand (pc := 22) dX7_isQuietWithout_22 ?_
  refine s_bipush (v := 19) (pc := 23) dX7_isQuietWithout_23 rfl ?_
  obtain ⟨σ4, hk5, h⟩ := h
  refine s_callV (S := []) [.ref 2, .ref 12, .int (r3 &&& (x1 ^^^ (-1))), .int 19] (pc := 25) dX7_isQuietWithout_25 mv_X6_behind ml_X7_253 ⟨Nat.le_of_ble_eq_true rfl, Nat.le_of_ble_eq_true rfl⟩ rfl rfl ly29 rfl rfl (Nat.le_of_ble_eq_true rfl) hk5 ?_
  refine s_aload_n 0 (pc := 28) dX7_isQuietWithout_28 rfl rfl ?_
  refine s_getR (q := 29) (pc := 29) dX7_isQuietWithout_29 fl_X7_47 ly0 rfl ?_
  refine s_iconst (v := 4) (pc := 32) dX7_isQuietWithout_32 rfl ?_
  obtain ⟨r8, σ6, hk7, h⟩ := h
  refine s_callV (S := []) [.int 4] (pc := 33) dX7_isQuietWithout_33 mv_X6_closedPairs ml_X7_179 ⟨Nat.le_of_ble_eq_true rfl, Nat.le_of_ble_eq_true rfl⟩ rfl rfl ly29 rfl rfl (Nat.le_of_ble_eq_true rfl) hk7 ?_
  refine s_if_ne (pc := 36) (tgt := 43) dX7_isQuietWithout_36 rfl (fun q9 => ?_) (fun q9 => ?_)
  · replace h := h.1 q9
    refine s_iconst (v := 0) (pc := 43) dX7_isQuietWithout_43 rfl ?_
    exact s_ret (r := some (.int 0)) ⟨dX7_isQuietWithout_44, fun ty e => by cases e; rfl⟩ rfl h
  · replace h := h.2 q9
    refine s_iconst (v := 1) (pc := 39) dX7_isQuietWithout_39 rfl ?_
    refine s_goto (pc := 40) (tgt := 44) dX7_isQuietWithout_40 rfl ?_
    exact s_ret (r := some (.int 1)) ⟨dX7_isQuietWithout_44, fun ty e => by cases e; rfl⟩ rfl h
set_option maxRecDepth 10000 in
set_option maxHeartbeats 4000000 in
theorem tX7_fewestToDrop_0 {E : Ev}  {σ : Hp} {Φ : Option Value → Hp → Prop}  (h : ∃ (r3 : Int32) (σ1 : Hp), Call E mX7_isQuietWithout [.ref 0, .int 0] σ (some (.int r3)) σ1 ∧ ((r3 = 0 → Ru E mX7_fewestToDrop 12 [(0, .ref 0), (1, .int 0)] [] σ1 Φ) ∧ (¬ r3 = 0 → Φ (some (.int 0)) σ1))) : Ru E mX7_fewestToDrop 0 [(0, .ref 0)] [] σ Φ := by
  refine s_aload_n 0 (pc := 0) dX7_fewestToDrop_0 rfl rfl ?_
  refine s_iconst (v := 0) (pc := 1) dX7_fewestToDrop_1 rfl ?_
  obtain ⟨r3, σ1, hk2, h⟩ := h
  refine s_callV (S := []) [.int 0] (pc := 2) dX7_fewestToDrop_2 mv_X7_isQuietWithout ml_X7_382 ⟨Nat.le_of_ble_eq_true rfl, Nat.le_of_ble_eq_true rfl⟩ rfl rfl ly0 rfl rfl (Nat.le_of_ble_eq_true rfl) hk2 ?_
  refine s_if_eq (pc := 5) (tgt := 10) dX7_fewestToDrop_5 rfl (fun q4 => ?_) (fun q4 => ?_)
  · replace h := h.1 q4
    refine s_iconst (v := 0) (pc := 10) dX7_fewestToDrop_10 rfl ?_
    refine s_istore_n (L' := [(1, .int 0), (0, .ref 0)]) (pc := 11) dX7_fewestToDrop_11 rfl (Nat.le_of_ble_eq_true rfl) rfl ?_
    exact s_sub (L' := [(0, .ref 0), (1, .int 0)]) [1, 0] rfl h
  · replace h := h.2 q4
    refine s_iconst (v := 0) (pc := 8) dX7_fewestToDrop_8 rfl ?_
    exact s_ret (r := some (.int 0)) ⟨dX7_fewestToDrop_9, fun ty e => by cases e; rfl⟩ rfl h
set_option maxRecDepth 10000 in
set_option maxHeartbeats 4000000 in
theorem tX7_fewestToDrop_12 {E : Ev} {x1 : Int32} {σ : Hp} {Φ : Option Value → Hp → Prop}  (h : (((σ 12 5) ≤ x1 → Ru E mX7_fewestToDrop 45 [(0, .ref 0), (1, .int 0)] [] σ Φ) ∧ (¬ (σ 12 5) ≤ x1 → ∃ (r4 : Int32) (σ2 : Hp), Call E mX7_isQuietWithout [.ref 0, .int (1 <<< (x1 &&& 31))] σ (some (.int r4)) σ2 ∧ ((r4 = 0 → Ru E mX7_fewestToDrop 12 [(0, .ref 0), (1, .int (x1 + 1))] [] σ2 Φ) ∧ (¬ r4 = 0 → Φ (some (.int (1 <<< (x1 &&& 31)))) σ2))))) : Ru E mX7_fewestToDrop 12 [(0, .ref 0), (1, .int x1)] [] σ Φ := by
  refine s_iload_n 1 (pc := 12) dX7_fewestToDrop_12 rfl rfl ?_
  refine s_aload_n 0 (pc := 13) dX7_fewestToDrop_13 rfl rfl ?_
  refine s_getR (q := 12) (pc := 14) dX7_fewestToDrop_14 fl_X7_30 ly0 rfl ?_
  refine s_getI (v := σ 12 5) (pc := 17) dX7_fewestToDrop_17 fl_X7_110 ly12 rfl rfl ?_
  refine s_icmp_ge (pc := 20) (tgt := 43) dX7_fewestToDrop_20 rfl (fun q1 => ?_) (fun q1 => ?_)
  · replace h := h.1 q1
    refine s_iconst (v := 0) (pc := 43) dX7_fewestToDrop_43 rfl ?_
    refine s_istore_n (L' := [(1, .int 0), (0, .ref 0)]) (pc := 44) dX7_fewestToDrop_44 rfl (Nat.le_of_ble_eq_true rfl) rfl ?_
    exact s_sub (L' := [(0, .ref 0), (1, .int 0)]) [1, 0] rfl h
  · replace h := h.2 q1
    refine s_aload_n 0 (pc := 23) dX7_fewestToDrop_23 rfl rfl ?_
    refine s_iconst (v := 1) (pc := 24) dX7_fewestToDrop_24 rfl ?_
    refine s_iload_n 1 (pc := 25) dX7_fewestToDrop_25 rfl rfl ?_
    refine s_ishl (pc := 26) dX7_fewestToDrop_26 ?_
    obtain ⟨r4, σ2, hk3, h⟩ := h
    refine s_callV (S := []) [.int (1 <<< (x1 &&& 31))] (pc := 27) dX7_fewestToDrop_27 mv_X7_isQuietWithout ml_X7_382 ⟨Nat.le_of_ble_eq_true rfl, Nat.le_of_ble_eq_true rfl⟩ rfl rfl ly0 rfl rfl (Nat.le_of_ble_eq_true rfl) hk3 ?_
    refine s_if_eq (pc := 30) (tgt := 37) dX7_fewestToDrop_30 rfl (fun q5 => ?_) (fun q5 => ?_)
    · replace h := h.1 q5
      refine s_iinc (v := x1 + 1) (L' := [(1, .int (x1 + 1)), (0, .ref 0)]) 1 (pc := 37) dX7_fewestToDrop_37 rfl rfl (Nat.le_of_ble_eq_true rfl) rfl ?_
      refine s_goto (pc := 40) (tgt := 12) dX7_fewestToDrop_40 rfl ?_
      exact s_sub (L' := [(0, .ref 0), (1, .int (x1 + 1))]) [1, 0] rfl h
    · replace h := h.2 q5
      refine s_iconst (v := 1) (pc := 33) dX7_fewestToDrop_33 rfl ?_
      refine s_iload_n 1 (pc := 34) dX7_fewestToDrop_34 rfl rfl ?_
      refine s_ishl (pc := 35) dX7_fewestToDrop_35 ?_
      exact s_ret (r := some (.int (1 <<< (x1 &&& 31)))) ⟨dX7_fewestToDrop_36, fun ty e => by cases e; rfl⟩ rfl h
set_option maxRecDepth 10000 in
set_option maxHeartbeats 4000000 in
theorem tX7_fewestToDrop_45 {E : Ev} {x1 : Int32} {σ : Hp} {Φ : Option Value → Hp → Prop}  (h : (((σ 12 5) ≤ x1 → Φ (some (.int (-1))) σ) ∧ (¬ (σ 12 5) ≤ x1 → Ru E mX7_fewestToDrop 60 [(0, .ref 0), (1, .int x1), (2, .int (x1 + 1))] [] σ Φ))) : Ru E mX7_fewestToDrop 45 [(0, .ref 0), (1, .int x1)] [] σ Φ := by
  refine s_iload_n 1 (pc := 45) dX7_fewestToDrop_45 rfl rfl ?_
  refine s_aload_n 0 (pc := 46) dX7_fewestToDrop_46 rfl rfl ?_
  refine s_getR (q := 12) (pc := 47) dX7_fewestToDrop_47 fl_X7_30 ly0 rfl ?_
  refine s_getI (v := σ 12 5) (pc := 50) dX7_fewestToDrop_50 fl_X7_110 ly12 rfl rfl ?_
  refine s_icmp_ge (pc := 53) (tgt := 105) dX7_fewestToDrop_53 rfl (fun q1 => ?_) (fun q1 => ?_)
  · replace h := h.1 q1
    refine s_iconst (v := (-1)) (pc := 105) dX7_fewestToDrop_105 rfl ?_
    exact s_ret (r := some (.int (-1))) ⟨dX7_fewestToDrop_106, fun ty e => by cases e; rfl⟩ rfl h
  · replace h := h.2 q1
    refine s_iload_n 1 (pc := 56) dX7_fewestToDrop_56 rfl rfl ?_
    refine s_iconst (v := 1) (pc := 57) dX7_fewestToDrop_57 rfl ?_
    refine s_iadd (pc := 58) dX7_fewestToDrop_58 ?_
    refine s_istore_n (L' := [(2, .int (x1 + 1)), (0, .ref 0), (1, .int x1)]) (pc := 59) dX7_fewestToDrop_59 rfl (Nat.le_of_ble_eq_true rfl) rfl ?_
    exact s_sub (L' := [(0, .ref 0), (1, .int x1), (2, .int (x1 + 1))]) [1, 2, 0] rfl h
set_option maxRecDepth 10000 in
set_option maxHeartbeats 4000000 in
theorem tX7_fewestToDrop_60 {E : Ev} {x1 : Int32} {x2 : Int32} {σ : Hp} {Φ : Option Value → Hp → Prop}  (h : (((σ 12 5) ≤ x2 → Ru E mX7_fewestToDrop 45 [(0, .ref 0), (1, .int (x1 + 1))] [] σ Φ) ∧ (¬ (σ 12 5) ≤ x2 → ∃ (r4 : Int32) (σ2 : Hp), Call E mX7_isQuietWithout [.ref 0, .int ((1 <<< (x1 &&& 31)) ||| (1 <<< (x2 &&& 31)))] σ (some (.int r4)) σ2 ∧ ((r4 = 0 → Ru E mX7_fewestToDrop 60 [(0, .ref 0), (1, .int x1), (2, .int (x2 + 1))] [] σ2 Φ) ∧ (¬ r4 = 0 → Φ (some (.int ((1 <<< (x1 &&& 31)) ||| (1 <<< (x2 &&& 31))))) σ2))))) : Ru E mX7_fewestToDrop 60 [(0, .ref 0), (1, .int x1), (2, .int x2)] [] σ Φ := by
  refine s_iload_n 2 (pc := 60) dX7_fewestToDrop_60 rfl rfl ?_
  refine s_aload_n 0 (pc := 61) dX7_fewestToDrop_61 rfl rfl ?_
  refine s_getR (q := 12) (pc := 62) dX7_fewestToDrop_62 fl_X7_30 ly0 rfl ?_
  refine s_getI (v := σ 12 5) (pc := 65) dX7_fewestToDrop_65 fl_X7_110 ly12 rfl rfl ?_
  refine s_icmp_ge (pc := 68) (tgt := 99) dX7_fewestToDrop_68 rfl (fun q1 => ?_) (fun q1 => ?_)
  · replace h := h.1 q1
    refine s_iinc (v := x1 + 1) (L' := [(1, .int (x1 + 1)), (0, .ref 0), (2, .int x2)]) 1 (pc := 99) dX7_fewestToDrop_99 rfl rfl (Nat.le_of_ble_eq_true rfl) rfl ?_
    refine s_goto (pc := 102) (tgt := 45) dX7_fewestToDrop_102 rfl ?_
    exact s_sub (L' := [(0, .ref 0), (1, .int (x1 + 1))]) [1, 0] rfl h
  · replace h := h.2 q1
    refine s_aload_n 0 (pc := 71) dX7_fewestToDrop_71 rfl rfl ?_
    refine s_iconst (v := 1) (pc := 72) dX7_fewestToDrop_72 rfl ?_
    refine s_iload_n 1 (pc := 73) dX7_fewestToDrop_73 rfl rfl ?_
    refine s_ishl (pc := 74) dX7_fewestToDrop_74 ?_
    refine s_iconst (v := 1) (pc := 75) dX7_fewestToDrop_75 rfl ?_
    refine s_iload_n 2 (pc := 76) dX7_fewestToDrop_76 rfl rfl ?_
    refine s_ishl (pc := 77) dX7_fewestToDrop_77 ?_
    refine s_ior (pc := 78) dX7_fewestToDrop_78 ?_
    obtain ⟨r4, σ2, hk3, h⟩ := h
    refine s_callV (S := []) [.int ((1 <<< (x1 &&& 31)) ||| (1 <<< (x2 &&& 31)))] (pc := 79) dX7_fewestToDrop_79 mv_X7_isQuietWithout ml_X7_382 ⟨Nat.le_of_ble_eq_true rfl, Nat.le_of_ble_eq_true rfl⟩ rfl rfl ly0 rfl rfl (Nat.le_of_ble_eq_true rfl) hk3 ?_
    refine s_if_eq (pc := 82) (tgt := 93) dX7_fewestToDrop_82 rfl (fun q5 => ?_) (fun q5 => ?_)
    · replace h := h.1 q5
      refine s_iinc (v := x2 + 1) (L' := [(2, .int (x2 + 1)), (0, .ref 0), (1, .int x1)]) 2 (pc := 93) dX7_fewestToDrop_93 rfl rfl (Nat.le_of_ble_eq_true rfl) rfl ?_
      refine s_goto (pc := 96) (tgt := 60) dX7_fewestToDrop_96 rfl ?_
      exact s_sub (L' := [(0, .ref 0), (1, .int x1), (2, .int (x2 + 1))]) [1, 2, 0] rfl h
    · replace h := h.2 q5
      refine s_iconst (v := 1) (pc := 85) dX7_fewestToDrop_85 rfl ?_
      refine s_iload_n 1 (pc := 86) dX7_fewestToDrop_86 rfl rfl ?_
      refine s_ishl (pc := 87) dX7_fewestToDrop_87 ?_
      refine s_iconst (v := 1) (pc := 88) dX7_fewestToDrop_88 rfl ?_
      refine s_iload_n 2 (pc := 89) dX7_fewestToDrop_89 rfl rfl ?_
      refine s_ishl (pc := 90) dX7_fewestToDrop_90 ?_
      refine s_ior (pc := 91) dX7_fewestToDrop_91 ?_
      exact s_ret (r := some (.int ((1 <<< (x1 &&& 31)) ||| (1 <<< (x2 &&& 31))))) ⟨dX7_fewestToDrop_92, fun ty e => by cases e; rfl⟩ rfl h
set_option maxRecDepth 10000 in
set_option maxHeartbeats 4000000 in
theorem tX7_valuesThatFit_0 {E : Ev} {x1 : Int32} {c2 : Nat} {x3 : Int32} {σ : Hp} {Φ : Option Value → Hp → Prop} (hc2 : IsA c2 8) (h : ∃ σ1 : Hp, Call E mX0_setTo [.ref 7, .ref 2] σ none σ1 ∧ Ru E mX7_valuesThatFit 17 [(0, .ref 0), (1, .int x1), (2, .ref c2), (3, .int x3), (4, .int 0), (5, .int 0)] [] σ1 Φ) : Ru E mX7_valuesThatFit 0 [(0, .ref 0), (1, .int x1), (2, .ref c2), (3, .int x3)] [] σ Φ := by
  refine s_aload_n 0 (pc := 0) dX7_valuesThatFit_0 rfl rfl ?_
  refine s_getR (q := 7) (pc := 1) dX7_valuesThatFit_1 fl_X7_24 ly0 rfl ?_
  refine s_aload_n 0 (pc := 4) dX7_valuesThatFit_4 rfl rfl ?_
  refine s_getR (q := 2) (pc := 5) dX7_valuesThatFit_5 fl_X7_20 ly0 rfl ?_
  obtain ⟨σ1, hk2, h⟩ := h
  refine s_callV (S := []) [.ref 2] (pc := 8) dX7_valuesThatFit_8 mv_X0_setTo ml_X7_204 ⟨Nat.le_of_ble_eq_true rfl, Nat.le_of_ble_eq_true rfl⟩ rfl rfl ly7 rfl rfl (Nat.le_of_ble_eq_true rfl) hk2 ?_
  refine s_iconst (v := 0) (pc := 11) dX7_valuesThatFit_11 rfl ?_
  refine s_istore (L' := [(4, .int 0), (0, .ref 0), (1, .int x1), (2, .ref c2), (3, .int x3)]) (pc := 12) dX7_valuesThatFit_12 (Nat.le_of_ble_eq_true rfl) rfl ?_
  refine s_iconst (v := 0) (pc := 14) dX7_valuesThatFit_14 rfl ?_
  refine s_istore (L' := [(5, .int 0), (4, .int 0), (0, .ref 0), (1, .int x1), (2, .ref c2), (3, .int x3)]) (pc := 15) dX7_valuesThatFit_15 (Nat.le_of_ble_eq_true rfl) rfl ?_
  exact s_sub (L' := [(0, .ref 0), (1, .int x1), (2, .ref c2), (3, .int x3), (4, .int 0), (5, .int 0)]) [2, 3, 4, 5, 1, 0] rfl h
set_option maxRecDepth 10000 in
set_option maxHeartbeats 4000000 in
theorem tX7_valuesThatFit_17 {E : Ev} {x1 : Int32} {c2 : Nat} {x3 : Int32} {x4 : Int32} {x5 : Int32} {σ : Hp} {Φ : Option Value → Hp → Prop} (hc2 : IsA c2 8) (h : ((x3 ≤ x5 → Φ (some (.int x4)) σ) ∧ (¬ x3 ≤ x5 → vp_in x1 8 ∧ ∃ (r5 : Int32) (σ3 : Hp), Call E mX1_all [.ref 12] (up σ c2 ((x1).toNatClampNeg) x5) (some (.int r5)) σ3 ∧ ∃ (r8 : Int32) (σ6 : Hp), Call E mX5_comeOut [.ref 24, .ref 7, .ref 12, .int r5, .ref 39] σ3 (some (.int r8)) σ6 ∧ ((r8 = 0 → Ru E mX7_valuesThatFit 17 [(0, .ref 0), (1, .int x1), (2, .ref c2), (3, .int x3), (4, .int x4), (5, .int (x5 + 1))] [] σ6 Φ) ∧ (¬ r8 = 0 → Ru E mX7_valuesThatFit 17 [(0, .ref 0), (1, .int x1), (2, .ref c2), (3, .int x3), (4, .int (x4 ||| (1 <<< (x5 &&& 31)))), (5, .int (x5 + 1))] [] σ6 Φ))))) : Ru E mX7_valuesThatFit 17 [(0, .ref 0), (1, .int x1), (2, .ref c2), (3, .int x3), (4, .int x4), (5, .int x5)] [] σ Φ := by
  refine s_iload 5 (pc := 17) dX7_valuesThatFit_17 rfl ?_
  refine s_iload_n 3 (pc := 19) dX7_valuesThatFit_19 rfl rfl ?_
  refine s_icmp_ge (pc := 20) (tgt := 72) dX7_valuesThatFit_20 rfl (fun q1 => ?_) (fun q1 => ?_)
  · replace h := h.1 q1
    refine s_iload 4 (pc := 72) dX7_valuesThatFit_72 rfl ?_
    exact s_ret (r := some (.int x4)) ⟨dX7_valuesThatFit_74, fun ty e => by cases e; rfl⟩ rfl h
  · replace h := h.2 q1
    refine s_aload_n 2 (pc := 23) dX7_valuesThatFit_23 rfl rfl ?_
    refine s_iload_n 1 (pc := 24) dX7_valuesThatFit_24 rfl rfl ?_
    refine s_iload 5 (pc := 25) dX7_valuesThatFit_25 rfl ?_
    have hv2 := h.1
    replace h := h.2
    refine s_iast (pc := 27) dX7_valuesThatFit_27 hc2 hv2 ?_
    refine s_aload_n 0 (pc := 28) dX7_valuesThatFit_28 rfl rfl ?_
    refine s_getR (q := 24) (pc := 29) dX7_valuesThatFit_29 fl_X7_40 ly0 rfl ?_
    refine s_aload_n 0 (pc := 32) dX7_valuesThatFit_32 rfl rfl ?_
    refine s_getR (q := 7) (pc := 33) dX7_valuesThatFit_33 fl_X7_24 ly0 rfl ?_
    refine s_aload_n 0 (pc := 36) dX7_valuesThatFit_36 rfl rfl ?_
    refine s_getR (q := 12) (pc := 37) dX7_valuesThatFit_37 fl_X7_30 ly0 rfl ?_
    refine s_aload_n 0 (pc := 40) dX7_valuesThatFit_40 rfl rfl ?_
    refine s_getR (q := 12) (pc := 41) dX7_valuesThatFit_41 fl_X7_30 ly0 rfl ?_
    obtain ⟨r5, σ3, hk4, h⟩ := h
    refine s_callV (S := [.ref 12, .ref 7, .ref 24]) [] (pc := 44) dX7_valuesThatFit_44 mv_X1_all ml_X7_134 ⟨Nat.le_of_ble_eq_true rfl, Nat.le_of_ble_eq_true rfl⟩ rfl rfl ly12 rfl rfl (Nat.le_of_ble_eq_true rfl) hk4 ?_
    refine s_aload_n 0 (pc := 47) dX7_valuesThatFit_47 rfl rfl ?_
    refine s_getR (q := 39) (pc := 48) dX7_valuesThatFit_48 fl_X7_54 ly0 rfl ?_
    obtain ⟨r8, σ6, hk7, h⟩ := h
    refine s_callV (S := []) [.ref 7, .ref 12, .int r5, .ref 39] (pc := 51) dX7_valuesThatFit_51 mv_X5_comeOut ml_X7_232 ⟨Nat.le_of_ble_eq_true rfl, Nat.le_of_ble_eq_true rfl⟩ rfl rfl ly24 rfl rfl (Nat.le_of_ble_eq_true rfl) hk7 ?_
    refine s_if_eq (pc := 54) (tgt := 66) dX7_valuesThatFit_54 rfl (fun q9 => ?_) (fun q9 => ?_)
    · replace h := h.1 q9
      refine s_iinc (v := x5 + 1) (L' := [(5, .int (x5 + 1)), (0, .ref 0), (1, .int x1), (2, .ref c2), (3, .int x3), (4, .int x4)]) 5 (pc := 66) dX7_valuesThatFit_66 rfl rfl (Nat.le_of_ble_eq_true rfl) rfl ?_
      refine s_goto (pc := 69) (tgt := 17) dX7_valuesThatFit_69 rfl ?_
      exact s_sub (L' := [(0, .ref 0), (1, .int x1), (2, .ref c2), (3, .int x3), (4, .int x4), (5, .int (x5 + 1))]) [1, 2, 3, 4, 5, 0] rfl h
    · replace h := h.2 q9
      refine s_iload 4 (pc := 57) dX7_valuesThatFit_57 rfl ?_
      refine s_iconst (v := 1) (pc := 59) dX7_valuesThatFit_59 rfl ?_
      refine s_iload 5 (pc := 60) dX7_valuesThatFit_60 rfl ?_
      refine s_ishl (pc := 62) dX7_valuesThatFit_62 ?_
      refine s_ior (pc := 63) dX7_valuesThatFit_63 ?_
      refine s_istore (L' := [(4, .int (x4 ||| (1 <<< (x5 &&& 31)))), (0, .ref 0), (1, .int x1), (2, .ref c2), (3, .int x3), (5, .int x5)]) (pc := 64) dX7_valuesThatFit_64 (Nat.le_of_ble_eq_true rfl) rfl ?_
      refine s_iinc (v := x5 + 1) (L' := [(5, .int (x5 + 1)), (4, .int (x4 ||| (1 <<< (x5 &&& 31)))), (0, .ref 0), (1, .int x1), (2, .ref c2), (3, .int x3)]) 5 (pc := 66) dX7_valuesThatFit_66 rfl rfl (Nat.le_of_ble_eq_true rfl) rfl ?_
      refine s_goto (pc := 69) (tgt := 17) dX7_valuesThatFit_69 rfl ?_
      exact s_sub (L' := [(0, .ref 0), (1, .int x1), (2, .ref c2), (3, .int x3), (4, .int (x4 ||| (1 <<< (x5 &&& 31)))), (5, .int (x5 + 1))]) [2, 3, 4, 5, 1, 0] rfl h
set_option maxRecDepth 10000 in
set_option maxHeartbeats 4000000 in
theorem tX7_mostAlike_0 {E : Ev} {x1 : Int32} {x2 : Int32} {x3 : Int32} {σ : Hp} {Φ : Option Value → Hp → Prop}  (h : ∃ σ1 : Hp, Call E mX0_setTo [.ref 7, .ref 2] σ none σ1 ∧ ∃ σ3 : Hp, Call E mX2_clear [.ref 40] σ1 none σ3 ∧ Ru E mX7_mostAlike 21 [(0, .ref 0), (1, .int x1), (2, .int x2), (3, .int x3), (4, .int 0)] [] σ3 Φ) : Ru E mX7_mostAlike 0 [(0, .ref 0), (1, .int x1), (2, .int x2), (3, .int x3)] [] σ Φ := by
  refine s_aload_n 0 (pc := 0) dX7_mostAlike_0 rfl rfl ?_
  refine s_getR (q := 7) (pc := 1) dX7_mostAlike_1 fl_X7_24 ly0 rfl ?_
  refine s_aload_n 0 (pc := 4) dX7_mostAlike_4 rfl rfl ?_
  refine s_getR (q := 2) (pc := 5) dX7_mostAlike_5 fl_X7_20 ly0 rfl ?_
  obtain ⟨σ1, hk2, h⟩ := h
  refine s_callV (S := []) [.ref 2] (pc := 8) dX7_mostAlike_8 mv_X0_setTo ml_X7_204 ⟨Nat.le_of_ble_eq_true rfl, Nat.le_of_ble_eq_true rfl⟩ rfl rfl ly7 rfl rfl (Nat.le_of_ble_eq_true rfl) hk2 ?_
  refine s_aload_n 0 (pc := 11) dX7_mostAlike_11 rfl rfl ?_
  refine s_getR (q := 40) (pc := 12) dX7_mostAlike_12 fl_X7_61 ly0 rfl ?_
  obtain ⟨σ3, hk4, h⟩ := h
  refine s_callV (S := []) [] (pc := 15) dX7_mostAlike_15 mv_X2_clear ml_X7_185 ⟨Nat.le_of_ble_eq_true rfl, Nat.le_of_ble_eq_true rfl⟩ rfl rfl ly40 rfl rfl (Nat.le_of_ble_eq_true rfl) hk4 ?_
  refine s_iconst (v := 0) (pc := 18) dX7_mostAlike_18 rfl ?_
  refine s_istore (L' := [(4, .int 0), (0, .ref 0), (1, .int x1), (2, .int x2), (3, .int x3)]) (pc := 19) dX7_mostAlike_19 (Nat.le_of_ble_eq_true rfl) rfl ?_
  exact s_sub (L' := [(0, .ref 0), (1, .int x1), (2, .int x2), (3, .int x3), (4, .int 0)]) [1, 2, 3, 4, 0] rfl h
set_option maxRecDepth 10000 in
set_option maxHeartbeats 4000000 in
theorem tX7_mostAlike_21 {E : Ev} {x1 : Int32} {x2 : Int32} {x3 : Int32} {x4 : Int32} {σ : Hp} {Φ : Option Value → Hp → Prop}  (h : ((10 ≤ x4 → ∃ (r4 : Int32) (σ2 : Hp), Call E mX2_mostMarks [.ref 40] σ (some (.int r4)) σ2 ∧ Φ (some (.int r4)) σ2) ∧ (¬ 10 ≤ x4 → ((¬ ((x2 >>> (x4 &&& 31)) &&& 1) = 1 → Ru E mX7_mostAlike 21 [(0, .ref 0), (1, .int x1), (2, .int x2), (3, .int x3), (4, .int (x4 + 1))] [] σ Φ) ∧ (((x2 >>> (x4 &&& 31)) &&& 1) = 1 → vp_in x1 8 ∧ ∃ (r9 : Int32) (σ7 : Hp), Call E mX1_all [.ref 12] (up σ 10 ((x1).toNatClampNeg) x4) (some (.int r9)) σ7 ∧ ∃ σ10 : Hp, Call E mX3_live [.ref 39, .ref 7, .ref 12, .int r9, .int x1, .int x3] σ7 none σ10 ∧ ∃ (r14 : Int32) (σ12 : Hp), Call E mX3_legX [.ref 39] σ10 (some (.int r14)) σ12 ∧ ∃ (r17 : Int32) (σ15 : Hp), Call E mX3_legY [.ref 39] σ12 (some (.int r17)) σ15 ∧ ∃ σ18 : Hp, Call E mX2_mark [.ref 40, .int r14, .int r17] σ15 none σ18 ∧ Ru E mX7_mostAlike 21 [(0, .ref 0), (1, .int x1), (2, .int x2), (3, .int x3), (4, .int (x4 + 1))] [] σ18 Φ))))) : Ru E mX7_mostAlike 21 [(0, .ref 0), (1, .int x1), (2, .int x2), (3, .int x3), (4, .int x4)] [] σ Φ := by
  refine s_iload 4 (pc := 21) dX7_mostAlike_21 rfl ?_
  refine s_bipush (v := 10) (pc := 23) dX7_mostAlike_23 rfl ?_
  refine s_icmp_ge (pc := 25) (tgt := 100) dX7_mostAlike_25 rfl (fun q1 => ?_) (fun q1 => ?_)
  · replace h := h.1 q1
    refine s_aload_n 0 (pc := 100) dX7_mostAlike_100 rfl rfl ?_
    refine s_getR (q := 40) (pc := 101) dX7_mostAlike_101 fl_X7_61 ly0 rfl ?_
    obtain ⟨r4, σ2, hk3, h⟩ := h
    refine s_callV (S := []) [] (pc := 104) dX7_mostAlike_104 mv_X2_mostMarks ml_X7_385 ⟨Nat.le_of_ble_eq_true rfl, Nat.le_of_ble_eq_true rfl⟩ rfl rfl ly40 rfl rfl (Nat.le_of_ble_eq_true rfl) hk3 ?_
    exact s_ret (r := some (.int r4)) ⟨dX7_mostAlike_107, fun ty e => by cases e; rfl⟩ rfl h
  · replace h := h.2 q1
    refine s_iload_n 2 (pc := 28) dX7_mostAlike_28 rfl rfl ?_
    refine s_iload 4 (pc := 29) dX7_mostAlike_29 rfl ?_
    refine s_ishr (pc := 31) dX7_mostAlike_31 ?_
    refine s_iconst (v := 1) (pc := 32) dX7_mostAlike_32 rfl ?_
    refine s_iand (pc := 33) dX7_mostAlike_33 ?_
    refine s_iconst (v := 1) (pc := 34) dX7_mostAlike_34 rfl ?_
    refine s_icmp_ne (pc := 35) (tgt := 94) dX7_mostAlike_35 rfl (fun q5 => ?_) (fun q5 => ?_)
    · replace h := h.1 q5
      refine s_iinc (v := x4 + 1) (L' := [(4, .int (x4 + 1)), (0, .ref 0), (1, .int x1), (2, .int x2), (3, .int x3)]) 4 (pc := 94) dX7_mostAlike_94 rfl rfl (Nat.le_of_ble_eq_true rfl) rfl ?_
      refine s_goto (pc := 97) (tgt := 21) dX7_mostAlike_97 rfl ?_
      exact s_sub (L' := [(0, .ref 0), (1, .int x1), (2, .int x2), (3, .int x3), (4, .int (x4 + 1))]) [1, 2, 3, 4, 0] rfl h
    · replace h := h.2 q5
      refine s_aload_n 0 (pc := 38) dX7_mostAlike_38 rfl rfl ?_
      refine s_getR (q := 7) (pc := 39) dX7_mostAlike_39 fl_X7_24 ly0 rfl ?_
      refine s_getR (q := 10) (pc := 42) dX7_mostAlike_42 fl_X7_92 ly7 rfl ?_
      refine s_iload_n 1 (pc := 45) dX7_mostAlike_45 rfl rfl ?_
      refine s_iload 4 (pc := 46) dX7_mostAlike_46 rfl ?_
      have hv6 := h.1
      replace h := h.2
      refine s_iast (pc := 48) dX7_mostAlike_48 ly10 hv6 ?_
      refine s_aload_n 0 (pc := 49) dX7_mostAlike_49 rfl rfl ?_
      refine s_getR (q := 39) (pc := 50) dX7_mostAlike_50 fl_X7_54 ly0 rfl ?_
      refine s_aload_n 0 (pc := 53) dX7_mostAlike_53 rfl rfl ?_
      refine s_getR (q := 7) (pc := 54) dX7_mostAlike_54 fl_X7_24 ly0 rfl ?_
      refine s_aload_n 0 (pc := 57) dX7_mostAlike_57 rfl rfl ?_
      refine s_getR (q := 12) (pc := 58) dX7_mostAlike_58 fl_X7_30 ly0 rfl ?_
      refine s_aload_n 0 (pc := 61) dX7_mostAlike_61 rfl rfl ?_
      refine s_getR (q := 12) (pc := 62) dX7_mostAlike_62 fl_X7_30 ly0 rfl ?_
      obtain ⟨r9, σ7, hk8, h⟩ := h
      refine s_callV (S := [.ref 12, .ref 7, .ref 39]) [] (pc := 65) dX7_mostAlike_65 mv_X1_all ml_X7_134 ⟨Nat.le_of_ble_eq_true rfl, Nat.le_of_ble_eq_true rfl⟩ rfl rfl ly12 rfl rfl (Nat.le_of_ble_eq_true rfl) hk8 ?_
      refine s_iload_n 1 (pc := 68) dX7_mostAlike_68 rfl rfl ?_
      refine s_iload_n 3 (pc := 69) dX7_mostAlike_69 rfl rfl ?_
      obtain ⟨σ10, hk11, h⟩ := h
      refine s_callV (S := []) [.ref 7, .ref 12, .int r9, .int x1, .int x3] (pc := 70) dX7_mostAlike_70 mv_X3_live ml_X7_138 ⟨Nat.le_of_ble_eq_true rfl, Nat.le_of_ble_eq_true rfl⟩ rfl rfl ly39 rfl rfl (Nat.le_of_ble_eq_true rfl) hk11 ?_
      refine s_aload_n 0 (pc := 73) dX7_mostAlike_73 rfl rfl ?_
      refine s_getR (q := 40) (pc := 74) dX7_mostAlike_74 fl_X7_61 ly0 rfl ?_
      refine s_aload_n 0 (pc := 77) dX7_mostAlike_77 rfl rfl ?_
      refine s_getR (q := 39) (pc := 78) dX7_mostAlike_78 fl_X7_54 ly0 rfl ?_
      obtain ⟨r14, σ12, hk13, h⟩ := h
      refine s_callV (S := [.ref 40]) [] (pc := 81) dX7_mostAlike_81 mv_X3_legX ml_X7_161 ⟨Nat.le_of_ble_eq_true rfl, Nat.le_of_ble_eq_true rfl⟩ rfl rfl ly39 rfl rfl (Nat.le_of_ble_eq_true rfl) hk13 ?_
      refine s_aload_n 0 (pc := 84) dX7_mostAlike_84 rfl rfl ?_
      refine s_getR (q := 39) (pc := 85) dX7_mostAlike_85 fl_X7_54 ly0 rfl ?_
      obtain ⟨r17, σ15, hk16, h⟩ := h
      refine s_callV (S := [.int r14, .ref 40]) [] (pc := 88) dX7_mostAlike_88 mv_X3_legY ml_X7_164 ⟨Nat.le_of_ble_eq_true rfl, Nat.le_of_ble_eq_true rfl⟩ rfl rfl ly39 rfl rfl (Nat.le_of_ble_eq_true rfl) hk16 ?_
      obtain ⟨σ18, hk19, h⟩ := h
      refine s_callV (S := []) [.int r14, .int r17] (pc := 91) dX7_mostAlike_91 mv_X2_mark ml_X7_189 ⟨Nat.le_of_ble_eq_true rfl, Nat.le_of_ble_eq_true rfl⟩ rfl rfl ly40 rfl rfl (Nat.le_of_ble_eq_true rfl) hk19 ?_
      refine s_iinc (v := x4 + 1) (L' := [(4, .int (x4 + 1)), (0, .ref 0), (1, .int x1), (2, .int x2), (3, .int x3)]) 4 (pc := 94) dX7_mostAlike_94 rfl rfl (Nat.le_of_ble_eq_true rfl) rfl ?_
      refine s_goto (pc := 97) (tgt := 21) dX7_mostAlike_97 rfl ?_
      exact s_sub (L' := [(0, .ref 0), (1, .int x1), (2, .int x2), (3, .int x3), (4, .int (x4 + 1))]) [1, 2, 3, 4, 0] rfl h
set_option maxRecDepth 10000 in
set_option maxHeartbeats 4000000 in
theorem tX7_waysTalked_0 {E : Ev} {x1 : Int32} {x2 : Int32} {σ : Hp} {Φ : Option Value → Hp → Prop}  (h : ∃ σ1 : Hp, Call E mX6_behind [.ref 29, .ref 2, .ref 12, .int 0, .int x2] σ none σ1 ∧ Ru E mX7_waysTalked 22 [(0, .ref 0), (1, .int x1), (2, .int x2), (3, .long 0), (5, .int 0)] [] σ1 Φ) : Ru E mX7_waysTalked 0 [(0, .ref 0), (1, .int x1), (2, .int x2)] [] σ Φ := by
  refine s_lconst (v := 0) (pc := 0) dX7_waysTalked_0 rfl ?_
  refine s_lstore_n (L' := [(3, .long 0), (0, .ref 0), (1, .int x1), (2, .int x2)]) (pc := 1) dX7_waysTalked_1 rfl (Nat.le_of_ble_eq_true rfl) rfl ?_
  refine s_aload_n 1 (pc := 2) dX7_waysTalked_2 rfl rfl ?_
  refine s_getR (q := 29) (pc := 3) dX7_waysTalked_3 fl_X7_47 ly0 rfl ?_
  refine s_aload_n 1 (pc := 6) dX7_waysTalked_6 rfl rfl ?_
  refine s_getR (q := 2) (pc := 7) dX7_waysTalked_7 fl_X7_20 ly0 rfl ?_
  refine s_aload_n 1 (pc := 10) dX7_waysTalked_10 rfl rfl ?_
  refine s_getR (q := 12) (pc := 11) dX7_waysTalked_11 fl_X7_30 ly0 rfl ?_
  refine s_iconst (v := 0) (pc := 14) dX7_waysTalked_14 rfl ?_
  refine s_iload_n 3 (pc := 15) dX7_waysTalked_15 rfl rfl ?_
  obtain ⟨σ1, hk2, h⟩ := h
  refine s_callV (S := []) [.ref 2, .ref 12, .int 0, .int x2] (pc := 16) dX7_waysTalked_16 mv_X6_behind ml_X7_253 ⟨Nat.le_of_ble_eq_true rfl, Nat.le_of_ble_eq_true rfl⟩ rfl rfl ly29 rfl rfl (Nat.le_of_ble_eq_true rfl) hk2 ?_
  refine s_iconst (v := 0) (pc := 19) dX7_waysTalked_19 rfl ?_
  refine s_istore (L' := [(5, .int 0), (3, .long 0), (0, .ref 0), (1, .int x1), (2, .int x2)]) (pc := 20) dX7_waysTalked_20 (Nat.le_of_ble_eq_true rfl) rfl ?_
  exact s_sub (L' := [(0, .ref 0), (1, .int x1), (2, .int x2), (3, .long 0), (5, .int 0)]) [2, 3, 4, 1, 0] rfl h
set_option maxRecDepth 10000 in
set_option maxHeartbeats 4000000 in
theorem tX7_waysTalked_22 {E : Ev} {x1 : Int32} {x2 : Int32} {x3 : Int64} {x5 : Int32} {σ : Hp} {Φ : Option Value → Hp → Prop}  (h : ∃ (r3 : Int32) (σ1 : Hp), Call E mX1_all [.ref 12] σ (some (.int r3)) σ1 ∧ ((r3 < x5 → Φ (some (.long x3)) σ1) ∧ (¬ r3 < x5 → ∃ σ5 : Hp, Call E mX6_liveAgain [.ref 29, .ref 2, .ref 12, .int x5, .int (x5 ^^^ (x5 - 1)), .int x2] σ1 none σ5 ∧ ∃ (r9 : Int32) (σ7 : Hp), Call E mX6_closedPairs [.ref 29, .int 4] σ5 (some (.int r9)) σ7 ∧ ((r9 ≤ 0 → Ru E mX7_waysTalked 22 [(0, .ref 0), (1, .int x1), (2, .int x2), (3, .long x3), (5, .int (x5 + 1))] [] σ7 Φ) ∧ (¬ r9 ≤ 0 → ∃ (r13 : Int64) (σ11 : Hp), Call E mX7_weight [.ref 0, .int x1, .int x5] σ7 (some (.long r13)) σ11 ∧ Ru E mX7_waysTalked 22 [(0, .ref 0), (1, .int x1), (2, .int x2), (3, .long (x3 + r13)), (5, .int (x5 + 1))] [] σ11 Φ))))) : Ru E mX7_waysTalked 22 [(0, .ref 0), (1, .int x1), (2, .int x2), (3, .long x3), (5, .int x5)] [] σ Φ := by
  refine s_iload 4 (pc := 22) dX7_waysTalked_22 rfl ?_
  refine s_aload_n 0 (pc := 24) dX7_waysTalked_24 rfl rfl ?_
  refine s_getR (q := 12) (pc := 25) dX7_waysTalked_25 fl_X7_30 ly0 rfl ?_
  obtain ⟨r3, σ1, hk2, h⟩ := h
  refine s_callV (S := [.int x5]) [] (pc := 28) dX7_waysTalked_28 mv_X1_all ml_X7_134 ⟨Nat.le_of_ble_eq_true rfl, Nat.le_of_ble_eq_true rfl⟩ rfl rfl ly12 rfl rfl (Nat.le_of_ble_eq_true rfl) hk2 ?_
  refine s_icmp_gt (pc := 31) (tgt := 86) dX7_waysTalked_31 rfl (fun q4 => ?_) (fun q4 => ?_)
  · replace h := h.1 q4
    refine s_lload_n 3 (pc := 86) dX7_waysTalked_86 rfl rfl ?_
    exact s_ret (r := some (.long x3)) dX7_waysTalked_87 rfl h
  · replace h := h.2 q4
    refine s_aload_n 0 (pc := 34) dX7_waysTalked_34 rfl rfl ?_
    refine s_getR (q := 29) (pc := 35) dX7_waysTalked_35 fl_X7_47 ly0 rfl ?_
    refine s_aload_n 0 (pc := 38) dX7_waysTalked_38 rfl rfl ?_
    refine s_getR (q := 2) (pc := 39) dX7_waysTalked_39 fl_X7_20 ly0 rfl ?_
    refine s_aload_n 0 (pc := 42) dX7_waysTalked_42 rfl rfl ?_
    refine s_getR (q := 12) (pc := 43) dX7_waysTalked_43 fl_X7_30 ly0 rfl ?_
    refine s_iload 4 (pc := 46) dX7_waysTalked_46 rfl ?_
    refine s_iload 4 (pc := 48) dX7_waysTalked_48 rfl ?_
    refine s_iload 4 (pc := 50) dX7_waysTalked_50 rfl ?_
    refine s_iconst (v := 1) (pc := 52) dX7_waysTalked_52 rfl ?_
    refine s_isub (pc := 53) dX7_waysTalked_53 ?_
    refine s_ixor (pc := 54) dX7_waysTalked_54 ?_
    refine s_iload_n 2 (pc := 55) dX7_waysTalked_55 rfl rfl ?_
    obtain ⟨σ5, hk6, h⟩ := h
    refine s_callV (S := []) [.ref 2, .ref 12, .int x5, .int (x5 ^^^ (x5 - 1)), .int x2] (pc := 56) dX7_waysTalked_56 mv_X6_liveAgain ml_X7_388 ⟨Nat.le_of_ble_eq_true rfl, Nat.le_of_ble_eq_true rfl⟩ rfl rfl ly29 rfl rfl (Nat.le_of_ble_eq_true rfl) hk6 ?_
    refine s_aload_n 0 (pc := 59) dX7_waysTalked_59 rfl rfl ?_
    refine s_getR (q := 29) (pc := 60) dX7_waysTalked_60 fl_X7_47 ly0 rfl ?_
    refine s_iconst (v := 4) (pc := 63) dX7_waysTalked_63 rfl ?_
    obtain ⟨r9, σ7, hk8, h⟩ := h
    refine s_callV (S := []) [.int 4] (pc := 64) dX7_waysTalked_64 mv_X6_closedPairs ml_X7_179 ⟨Nat.le_of_ble_eq_true rfl, Nat.le_of_ble_eq_true rfl⟩ rfl rfl ly29 rfl rfl (Nat.le_of_ble_eq_true rfl) hk8 ?_
    refine s_if_le (pc := 67) (tgt := 80) dX7_waysTalked_67 rfl (fun q10 => ?_) (fun q10 => ?_)
    · replace h := h.1 q10
      refine s_iinc (v := x5 + 1) (L' := [(5, .int (x5 + 1)), (0, .ref 0), (1, .int x1), (2, .int x2), (3, .long x3)]) 4 (pc := 80) dX7_waysTalked_80 rfl rfl (Nat.le_of_ble_eq_true rfl) rfl ?_
      refine s_goto (pc := 83) (tgt := 22) dX7_waysTalked_83 rfl ?_
      exact s_sub (L' := [(0, .ref 0), (1, .int x1), (2, .int x2), (3, .long x3), (5, .int (x5 + 1))]) [1, 2, 3, 4, 0] rfl h
    · replace h := h.2 q10
      refine s_lload_n 3 (pc := 70) dX7_waysTalked_70 rfl rfl ?_
      refine s_aload_n 0 (pc := 71) dX7_waysTalked_71 rfl rfl ?_
      refine s_iload_n 1 (pc := 72) dX7_waysTalked_72 rfl rfl ?_
      refine s_iload 4 (pc := 73) dX7_waysTalked_73 rfl ?_
      obtain ⟨r13, σ11, hk12, h⟩ := h
      refine s_callV (S := [.long x3]) [.int x1, .int x5] (pc := 75) dX7_waysTalked_75 mv_X7_weight ml_X7_391 ⟨Nat.le_of_ble_eq_true rfl, Nat.le_of_ble_eq_true rfl⟩ rfl rfl ly0 rfl rfl (Nat.le_of_ble_eq_true rfl) hk12 ?_
      refine s_ladd (pc := 78) dX7_waysTalked_78 ?_
      refine s_lstore_n (L' := [(3, .long (x3 + r13)), (0, .ref 0), (1, .int x1), (2, .int x2), (5, .int x5)]) (pc := 79) dX7_waysTalked_79 rfl (Nat.le_of_ble_eq_true rfl) rfl ?_
      refine s_iinc (v := x5 + 1) (L' := [(5, .int (x5 + 1)), (3, .long (x3 + r13)), (0, .ref 0), (1, .int x1), (2, .int x2)]) 4 (pc := 80) dX7_waysTalked_80 rfl rfl (Nat.le_of_ble_eq_true rfl) rfl ?_
      refine s_goto (pc := 83) (tgt := 22) dX7_waysTalked_83 rfl ?_
      exact s_sub (L' := [(0, .ref 0), (1, .int x1), (2, .int x2), (3, .long (x3 + r13)), (5, .int (x5 + 1))]) [2, 3, 4, 1, 0] rfl h
set_option maxRecDepth 10000 in
set_option maxHeartbeats 4000000 in
theorem tX7_weight_0 {E : Ev} {x1 : Int32} {x2 : Int32} {σ : Hp} {Φ : Option Value → Hp → Prop}  (h : Ru E mX7_weight 5 [(0, .ref 0), (1, .int x1), (2, .int x2), (3, .long 1), (5, .int 0)] [] σ Φ) : Ru E mX7_weight 0 [(0, .ref 0), (1, .int x1), (2, .int x2)] [] σ Φ := by
  refine s_lconst (v := 1) (pc := 0) dX7_weight_0 rfl ?_
  refine s_lstore_n (L' := [(3, .long 1), (0, .ref 0), (1, .int x1), (2, .int x2)]) (pc := 1) dX7_weight_1 rfl (Nat.le_of_ble_eq_true rfl) rfl ?_
  refine s_iconst (v := 0) (pc := 2) dX7_weight_2 rfl ?_
  refine s_istore (L' := [(5, .int 0), (3, .long 1), (0, .ref 0), (1, .int x1), (2, .int x2)]) (pc := 3) dX7_weight_3 (Nat.le_of_ble_eq_true rfl) rfl ?_
  exact s_sub (L' := [(0, .ref 0), (1, .int x1), (2, .int x2), (3, .long 1), (5, .int 0)]) [2, 3, 4, 1, 0] rfl h
set_option maxRecDepth 10000 in
set_option maxHeartbeats 4000000 in
theorem tX7_weight_5 {E : Ev} {x1 : Int32} {x2 : Int32} {x3 : Int64} {x5 : Int32} {σ : Hp} {Φ : Option Value → Hp → Prop}  (h : (((σ 12 5) ≤ x5 → Φ (some (.long x3)) σ) ∧ (¬ (σ 12 5) ≤ x5 → ((¬ ((x2 >>> (x5 &&& 31)) &&& 1) = 1 → Ru E mX7_weight 5 [(0, .ref 0), (1, .int x1), (2, .int x2), (3, .long (x3 * (Int32.toInt64 (16 - x1)))), (5, .int (x5 + 1))] [] σ Φ) ∧ (((x2 >>> (x5 &&& 31)) &&& 1) = 1 → Ru E mX7_weight 5 [(0, .ref 0), (1, .int x1), (2, .int x2), (3, .long (x3 * (Int32.toInt64 x1))), (5, .int (x5 + 1))] [] σ Φ))))) : Ru E mX7_weight 5 [(0, .ref 0), (1, .int x1), (2, .int x2), (3, .long x3), (5, .int x5)] [] σ Φ := by
  refine s_iload 4 (pc := 5) dX7_weight_5 rfl ?_
  refine s_aload_n 0 (pc := 7) dX7_weight_7 rfl rfl ?_
  refine s_getR (q := 12) (pc := 8) dX7_weight_8 fl_X7_30 ly0 rfl ?_
  refine s_getI (v := σ 12 5) (pc := 11) dX7_weight_11 fl_X7_110 ly12 rfl rfl ?_
  refine s_icmp_ge (pc := 14) (tgt := 46) dX7_weight_14 rfl (fun q1 => ?_) (fun q1 => ?_)
  · replace h := h.1 q1
    refine s_lload_n 3 (pc := 46) dX7_weight_46 rfl rfl ?_
    exact s_ret (r := some (.long x3)) dX7_weight_47 rfl h
  · replace h := h.2 q1
    refine s_lload_n 3 (pc := 17) dX7_weight_17 rfl rfl ?_
    refine s_iload_n 2 (pc := 18) dX7_weight_18 rfl rfl ?_
    refine s_iload 4 (pc := 19) dX7_weight_19 rfl ?_
    refine s_ishr (pc := 21) dX7_weight_21 ?_
    refine s_iconst (v := 1) (pc := 22) dX7_weight_22 rfl ?_
    refine s_iand (pc := 23) dX7_weight_23 ?_
    refine s_iconst (v := 1) (pc := 24) dX7_weight_24 rfl ?_
    refine s_icmp_ne (pc := 25) (tgt := 33) dX7_weight_25 rfl (fun q2 => ?_) (fun q2 => ?_)
    · replace h := h.1 q2
      refine s_bipush (v := 16) (pc := 33) dX7_weight_33 rfl ?_
      refine s_iload_n 1 (pc := 35) dX7_weight_35 rfl rfl ?_
      refine s_isub (pc := 36) dX7_weight_36 ?_
      refine s_i2l (pc := 37) dX7_weight_37 ?_
      refine s_lmul (pc := 38) dX7_weight_38 ?_
      refine s_lstore_n (L' := [(3, .long (x3 * (Int32.toInt64 (16 - x1)))), (0, .ref 0), (1, .int x1), (2, .int x2), (5, .int x5)]) (pc := 39) dX7_weight_39 rfl (Nat.le_of_ble_eq_true rfl) rfl ?_
      refine s_iinc (v := x5 + 1) (L' := [(5, .int (x5 + 1)), (3, .long (x3 * (Int32.toInt64 (16 - x1)))), (0, .ref 0), (1, .int x1), (2, .int x2)]) 4 (pc := 40) dX7_weight_40 rfl rfl (Nat.le_of_ble_eq_true rfl) rfl ?_
      refine s_goto (pc := 43) (tgt := 5) dX7_weight_43 rfl ?_
      exact s_sub (L' := [(0, .ref 0), (1, .int x1), (2, .int x2), (3, .long (x3 * (Int32.toInt64 (16 - x1)))), (5, .int (x5 + 1))]) [2, 3, 4, 1, 0] rfl h
    · replace h := h.2 q2
      refine s_iload_n 1 (pc := 28) dX7_weight_28 rfl rfl ?_
      refine s_i2l (pc := 29) dX7_weight_29 ?_
      refine s_goto (pc := 30) (tgt := 38) dX7_weight_30 rfl ?_
      refine s_lmul (pc := 38) dX7_weight_38 ?_
      refine s_lstore_n (L' := [(3, .long (x3 * (Int32.toInt64 x1))), (0, .ref 0), (1, .int x1), (2, .int x2), (5, .int x5)]) (pc := 39) dX7_weight_39 rfl (Nat.le_of_ble_eq_true rfl) rfl ?_
      refine s_iinc (v := x5 + 1) (L' := [(5, .int (x5 + 1)), (3, .long (x3 * (Int32.toInt64 x1))), (0, .ref 0), (1, .int x1), (2, .int x2)]) 4 (pc := 40) dX7_weight_40 rfl rfl (Nat.le_of_ble_eq_true rfl) rfl ?_
      refine s_goto (pc := 43) (tgt := 5) dX7_weight_43 rfl ?_
      exact s_sub (L' := [(0, .ref 0), (1, .int x1), (2, .int x2), (3, .long (x3 * (Int32.toInt64 x1))), (5, .int (x5 + 1))]) [2, 3, 4, 1, 0] rfl h
set_option maxRecDepth 10000 in
set_option maxHeartbeats 4000000 in
theorem tX7_drawEvents_0 {E : Ev} {x1 : Int32} {x2 : Int32} {σ : Hp} {Φ : Option Value → Hp → Prop}  (h : Ru E mX7_drawEvents 13 [(0, .ref 0), (1, .int x1), (2, .int x2), (3, .int x1), (4, .int 0)] [] (up σ 18 5 0) Φ) : Ru E mX7_drawEvents 0 [(0, .ref 0), (1, .int x1), (2, .int x2)] [] σ Φ := by
  refine s_aload_n 0 (pc := 0) dX7_drawEvents_0 rfl rfl ?_
  refine s_getR (q := 18) (pc := 1) dX7_drawEvents_1 fl_X7_34 ly0 rfl ?_
  refine s_iconst (v := 0) (pc := 4) dX7_drawEvents_4 rfl ?_
  refine s_put (ty := .int) (pc := 5) dX7_drawEvents_5 fp_X7_110 ly18 rfl rfl rfl ?_
  refine s_iload_n 1 (pc := 8) dX7_drawEvents_8 rfl rfl ?_
  refine s_istore_n (L' := [(3, .int x1), (0, .ref 0), (1, .int x1), (2, .int x2)]) (pc := 9) dX7_drawEvents_9 rfl (Nat.le_of_ble_eq_true rfl) rfl ?_
  refine s_iconst (v := 0) (pc := 10) dX7_drawEvents_10 rfl ?_
  refine s_istore (L' := [(4, .int 0), (3, .int x1), (0, .ref 0), (1, .int x1), (2, .int x2)]) (pc := 11) dX7_drawEvents_11 (Nat.le_of_ble_eq_true rfl) rfl ?_
  exact s_sub (L' := [(0, .ref 0), (1, .int x1), (2, .int x2), (3, .int x1), (4, .int 0)]) [2, 3, 4, 1, 0] rfl h
set_option maxRecDepth 10000 in
set_option maxHeartbeats 4000000 in
theorem tX7_drawEvents_13 {E : Ev} {x1 : Int32} {x2 : Int32} {x3 : Int32} {x4 : Int32} {σ : Hp} {Φ : Option Value → Hp → Prop}  (h : ((x2 ≤ x4 → Φ none σ) ∧ (¬ x2 ≤ x4 → (((σ 2 4) ≤ 0 → Φ none σ) ∧ (¬ (σ 2 4) ≤ 0 → ∃ (r5 : Int32) (σ3 : Hp), Call E mX7_nextLot [.int x3] σ (some (.int r5)) σ3 ∧ ∃ (r8 : Int32) (σ6 : Hp), Call E mX7_lotOf [.int r5, .int 3] σ3 (some (.int r8)) σ6 ∧ ∃ (r11 : Int32) (σ9 : Hp), Call E mX7_nextLot [.int r5] σ6 (some (.int r11)) σ9 ∧ ∃ (r14 : Int32) (σ12 : Hp), Call E mX7_lotOf [.int r11, .int 20] σ9 (some (.int r14)) σ12 ∧ ∃ (r17 : Int32) (σ15 : Hp), Call E mX7_nextLot [.int r11] σ12 (some (.int r17)) σ15 ∧ ∃ (r20 : Int32) (σ18 : Hp), Call E mX7_lotOf [.int r17, .int (σ15 2 4)] σ15 (some (.int r20)) σ18 ∧ ∃ (r23 : Int32) (σ21 : Hp), Call E mX7_nextLot [.int r17] σ18 (some (.int r23)) σ21 ∧ ∃ (r26 : Int32) (σ24 : Hp), Call E mX7_lotOf [.int r23, .int 10] σ21 (some (.int r26)) σ24 ∧ ∃ σ27 : Hp, Call E mX1_tell [.ref 18, .int r8, .int r14, .int r20, .int r26] σ24 none σ27 ∧ Ru E mX7_drawEvents 13 [(0, .ref 0), (1, .int x1), (2, .int x2), (3, .int r23), (4, .int (x4 + 1))] [] σ27 Φ))))) : Ru E mX7_drawEvents 13 [(0, .ref 0), (1, .int x1), (2, .int x2), (3, .int x3), (4, .int x4)] [] σ Φ := by
  refine s_iload 4 (pc := 13) dX7_drawEvents_13 rfl ?_
  refine s_iload_n 2 (pc := 15) dX7_drawEvents_15 rfl rfl ?_
  refine s_icmp_ge (pc := 16) (tgt := 102) dX7_drawEvents_16 rfl (fun q1 => ?_) (fun q1 => ?_)
  · replace h := h.1 q1
    exact s_ret (r := none) dX7_drawEvents_102 rfl h
  · replace h := h.2 q1
    refine s_aload_n 0 (pc := 19) dX7_drawEvents_19 rfl rfl ?_
    refine s_getR (q := 2) (pc := 20) dX7_drawEvents_20 fl_X7_20 ly0 rfl ?_
    refine s_getI (v := σ 2 4) (pc := 23) dX7_drawEvents_23 fl_X7_212 ly2 rfl rfl ?_
    refine s_if_le (pc := 26) (tgt := 102) dX7_drawEvents_26 rfl (fun q2 => ?_) (fun q2 => ?_)
    · replace h := h.1 q2
      exact s_ret (r := none) dX7_drawEvents_102 rfl h
    · replace h := h.2 q2
      refine s_iload_n 3 (pc := 29) dX7_drawEvents_29 rfl rfl ?_
      obtain ⟨r5, σ3, hk4, h⟩ := h
      refine s_callS (S := []) [.int x3] (pc := 30) dX7_drawEvents_30 ms_X7_nextLot ml_X7_394 ⟨Nat.le_of_ble_eq_true rfl, Nat.le_of_ble_eq_true rfl⟩ rfl rfl (Nat.le_of_ble_eq_true rfl) hk4 ?_
      refine s_istore_n (L' := [(3, .int r5), (0, .ref 0), (1, .int x1), (2, .int x2), (4, .int x4)]) (pc := 33) dX7_drawEvents_33 rfl (Nat.le_of_ble_eq_true rfl) rfl ?_
      refine s_iload_n 0 (pc := 34) dX7_drawEvents_34 rfl rfl ?_
      refine s_iconst (v := 3) (pc := 35) dX7_drawEvents_35 rfl ?_
      obtain ⟨r8, σ6, hk7, h⟩ := h
      refine s_callS (S := []) [.int r5, .int 3] (pc := 36) dX7_drawEvents_36 ms_X7_lotOf ml_X7_397 ⟨Nat.le_of_ble_eq_true rfl, Nat.le_of_ble_eq_true rfl⟩ rfl rfl (Nat.le_of_ble_eq_true rfl) hk7 ?_
      refine s_istore (L' := [(5, .int r8), (3, .int r5), (0, .ref 0), (1, .int x1), (2, .int x2), (4, .int x4)]) (pc := 39) dX7_drawEvents_39 (Nat.le_of_ble_eq_true rfl) rfl ?_
      refine s_iload_n 1 (pc := 41) dX7_drawEvents_41 rfl rfl ?_
      obtain ⟨r11, σ9, hk10, h⟩ := h
      refine s_callS (S := []) [.int r5] (pc := 42) dX7_drawEvents_42 ms_X7_nextLot ml_X7_394 ⟨Nat.le_of_ble_eq_true rfl, Nat.le_of_ble_eq_true rfl⟩ rfl rfl (Nat.le_of_ble_eq_true rfl) hk10 ?_
      refine s_istore_n (L' := [(3, .int r11), (5, .int r8), (0, .ref 0), (1, .int x1), (2, .int x2), (4, .int x4)]) (pc := 45) dX7_drawEvents_45 rfl (Nat.le_of_ble_eq_true rfl) rfl ?_
      refine s_iload_n 0 (pc := 46) dX7_drawEvents_46 rfl rfl ?_
      refine s_bipush (v := 20) (pc := 47) dX7_drawEvents_47 rfl ?_
      obtain ⟨r14, σ12, hk13, h⟩ := h
      refine s_callS (S := []) [.int r11, .int 20] (pc := 49) dX7_drawEvents_49 ms_X7_lotOf ml_X7_397 ⟨Nat.le_of_ble_eq_true rfl, Nat.le_of_ble_eq_true rfl⟩ rfl rfl (Nat.le_of_ble_eq_true rfl) hk13 ?_
      refine s_istore (L' := [(6, .int r14), (3, .int r11), (5, .int r8), (0, .ref 0), (1, .int x1), (2, .int x2), (4, .int x4)]) (pc := 52) dX7_drawEvents_52 (Nat.le_of_ble_eq_true rfl) rfl ?_
      refine s_iload_n 1 (pc := 54) dX7_drawEvents_54 rfl rfl ?_
      obtain ⟨r17, σ15, hk16, h⟩ := h
      refine s_callS (S := []) [.int r11] (pc := 55) dX7_drawEvents_55 ms_X7_nextLot ml_X7_394 ⟨Nat.le_of_ble_eq_true rfl, Nat.le_of_ble_eq_true rfl⟩ rfl rfl (Nat.le_of_ble_eq_true rfl) hk16 ?_
      refine s_istore_n (L' := [(3, .int r17), (6, .int r14), (5, .int r8), (0, .ref 0), (1, .int x1), (2, .int x2), (4, .int x4)]) (pc := 58) dX7_drawEvents_58 rfl (Nat.le_of_ble_eq_true rfl) rfl ?_
      refine s_iload_n 0 (pc := 59) dX7_drawEvents_59 rfl rfl ?_
      refine s_aload_n 3 (pc := 60) dX7_drawEvents_60 rfl rfl ?_
      refine s_getR (q := 2) (pc := 61) dX7_drawEvents_61 fl_X7_20 ly0 rfl ?_
      refine s_getI (v := σ15 2 4) (pc := 64) dX7_drawEvents_64 fl_X7_212 ly2 rfl rfl ?_
      obtain ⟨r20, σ18, hk19, h⟩ := h
      refine s_callS (S := []) [.int r17, .int (σ15 2 4)] (pc := 67) dX7_drawEvents_67 ms_X7_lotOf ml_X7_397 ⟨Nat.le_of_ble_eq_true rfl, Nat.le_of_ble_eq_true rfl⟩ rfl rfl (Nat.le_of_ble_eq_true rfl) hk19 ?_
      refine s_istore (L' := [(7, .int r20), (3, .int r17), (6, .int r14), (5, .int r8), (0, .ref 0), (1, .int x1), (2, .int x2), (4, .int x4)]) (pc := 70) dX7_drawEvents_70 (Nat.le_of_ble_eq_true rfl) rfl ?_
      refine s_iload_n 1 (pc := 72) dX7_drawEvents_72 rfl rfl ?_
      obtain ⟨r23, σ21, hk22, h⟩ := h
      refine s_callS (S := []) [.int r17] (pc := 73) dX7_drawEvents_73 ms_X7_nextLot ml_X7_394 ⟨Nat.le_of_ble_eq_true rfl, Nat.le_of_ble_eq_true rfl⟩ rfl rfl (Nat.le_of_ble_eq_true rfl) hk22 ?_
      refine s_istore_n (L' := [(3, .int r23), (7, .int r20), (6, .int r14), (5, .int r8), (0, .ref 0), (1, .int x1), (2, .int x2), (4, .int x4)]) (pc := 76) dX7_drawEvents_76 rfl (Nat.le_of_ble_eq_true rfl) rfl ?_
      refine s_aload_n 4 (pc := 77) dX7_drawEvents_77 rfl rfl ?_
      refine s_getR (q := 18) (pc := 78) dX7_drawEvents_78 fl_X7_34 ly0 rfl ?_
      refine s_iload 3 (pc := 81) dX7_drawEvents_81 rfl ?_
      refine s_iload 2 (pc := 83) dX7_drawEvents_83 rfl ?_
      refine s_iload 1 (pc := 85) dX7_drawEvents_85 rfl ?_
      refine s_iload_n 0 (pc := 87) dX7_drawEvents_87 rfl rfl ?_
      refine s_bipush (v := 10) (pc := 88) dX7_drawEvents_88 rfl ?_
      obtain ⟨r26, σ24, hk25, h⟩ := h
      refine s_callS (S := [.int r20, .int r14, .int r8, .ref 18]) [.int r23, .int 10] (pc := 90) dX7_drawEvents_90 ms_X7_lotOf ml_X7_397 ⟨Nat.le_of_ble_eq_true rfl, Nat.le_of_ble_eq_true rfl⟩ rfl rfl (Nat.le_of_ble_eq_true rfl) hk25 ?_
      obtain ⟨σ27, hk28, h⟩ := h
      refine s_callV (S := []) [.int r8, .int r14, .int r20, .int r26] (pc := 93) dX7_drawEvents_93 mv_X1_tell ml_X7_106 ⟨Nat.le_of_ble_eq_true rfl, Nat.le_of_ble_eq_true rfl⟩ rfl rfl ly18 rfl rfl (Nat.le_of_ble_eq_true rfl) hk28 ?_
      refine s_iinc (v := x4 + 1) (L' := [(4, .int (x4 + 1)), (3, .int r23), (7, .int r20), (6, .int r14), (5, .int r8), (0, .ref 0), (1, .int x1), (2, .int x2)]) 7 (pc := 96) dX7_drawEvents_96 rfl rfl (Nat.le_of_ble_eq_true rfl) rfl ?_
      refine s_goto (pc := 99) (tgt := 13) dX7_drawEvents_99 rfl ?_
      exact s_sub (L' := [(0, .ref 0), (1, .int x1), (2, .int x2), (3, .int r23), (4, .int (x4 + 1))]) [5, 6, 7, 1, 0] rfl h
set_option maxRecDepth 10000 in
set_option maxHeartbeats 4000000 in
theorem tX7_nextLot_0 {E : Ev} {x0 : Int32} {σ : Hp} {Φ : Option Value → Hp → Prop}  (h : Φ (some (.int ((1103515245 * x0) + 12345))) σ) : Ru E mX7_nextLot 0 [(0, .int x0)] [] σ Φ := by
  refine s_ldcw (v := 1103515245) (pc := 0) dX7_nextLot_0 ct_X7_400 ?_
  refine s_iload_n 0 (pc := 3) dX7_nextLot_3 rfl rfl ?_
  refine s_imul (pc := 4) dX7_nextLot_4 ?_
  refine s_sipush (v := 12345) (pc := 5) dX7_nextLot_5 rfl ?_
  refine s_iadd (pc := 8) dX7_nextLot_8 ?_
  exact s_ret (r := some (.int ((1103515245 * x0) + 12345))) ⟨dX7_nextLot_9, fun ty e => by cases e; rfl⟩ rfl h
set_option maxRecDepth 10000 in
set_option maxHeartbeats 4000000 in
theorem tX7_lotOf_0 {E : Ev} {x0 : Int32} {x1 : Int32} {σ : Hp} {Φ : Option Value → Hp → Prop}  (h : ((x1 ≤ 0 → Φ (some (.int 0)) σ) ∧ (¬ x1 ≤ 0 → ¬ x1 = (0 : Int32) ∧ Φ (some (.int (((Int32.toUInt32 x0 >>> (Int32.toUInt32 16 &&& Int32.toUInt32 31)).toInt32) - ((Int32.toUInt32 x0 >>> (Int32.toUInt32 16 &&& Int32.toUInt32 31)).toInt32) / x1 * x1))) σ))) : Ru E mX7_lotOf 0 [(0, .int x0), (1, .int x1)] [] σ Φ := by
  refine s_iload_n 1 (pc := 0) dX7_lotOf_0 rfl rfl ?_
  refine s_if_le (pc := 1) (tgt := 13) dX7_lotOf_1 rfl (fun q1 => ?_) (fun q1 => ?_)
  · replace h := h.1 q1
    refine s_iconst (v := 0) (pc := 13) dX7_lotOf_13 rfl ?_
    exact s_ret (r := some (.int 0)) ⟨dX7_lotOf_14, fun ty e => by cases e; rfl⟩ rfl h
  · replace h := h.2 q1
    refine s_iload_n 0 (pc := 4) dX7_lotOf_4 rfl rfl ?_
    refine s_bipush (v := 16) (pc := 5) dX7_lotOf_5 rfl ?_
    refine s_iushr (pc := 7) dX7_lotOf_7 ?_
    refine s_iload_n 1 (pc := 8) dX7_lotOf_8 rfl rfl ?_
    refine s_irem (pc := 9) dX7_lotOf_9 h.1 ?_
    replace h := h.2
    refine s_goto (pc := 10) (tgt := 14) dX7_lotOf_10 rfl ?_
    exact s_ret (r := some (.int (((Int32.toUInt32 x0 >>> (Int32.toUInt32 16 &&& Int32.toUInt32 31)).toInt32) - ((Int32.toUInt32 x0 >>> (Int32.toUInt32 16 &&& Int32.toUInt32 31)).toInt32) / x1 * x1))) ⟨dX7_lotOf_14, fun ty e => by cases e; rfl⟩ rfl h
