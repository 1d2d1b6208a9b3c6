/-! THE LAW'S START: classes and rows of classes, as the tables say -/
theorem nw_L_7 : NW RL 7 7 13 [.null, .int 0, .int 0, .null, .null, .null, .null, .null, .null, .null, .null, .null, .int 0] := ⟨_, _, tyX7, rfl, iu7, tyX7_ok, tb_in 82 (by decide +kernel) (by decide +kernel), tb_in 83 (by decide +kernel) (by decide +kernel), tb_in 70 (by decide +kernel) (by decide +kernel), fun j hj => by
  match j, hj with
  | 0, _ => rfl
  | 1, _ => rfl
  | 2, _ => rfl
  | 3, _ => rfl
  | 4, _ => rfl
  | 5, _ => rfl
  | 6, _ => rfl
  | 7, _ => rfl
  | 8, _ => rfl
  | 9, _ => rfl
  | 10, _ => rfl
  | 11, _ => rfl
  | 12, _ => rfl
  | j + 13, h => exact absurd h (by omega)⟩
theorem nw_L_10 : NW RL 10 8 45 [.int 0, .null, .int 0, .null, .null, .null, .null, .int 0, .null, .null, .null, .null, .int 0, .null, .null, .null, .null, .int 0, .null, .null, .null, .null, .null, .null, .int 0, .null, .null, .null, .null, .null, .null, .null, .null, .int 0, .null, .null, .null, .null, .null, .null, .null, .null, .null, .null, .int 0] := ⟨_, _, tyX8, rfl, iu8, tyX8_ok, tb_in 750 (by decide +kernel) (by decide +kernel), tb_in 751 (by decide +kernel) (by decide +kernel), tb_in 78 (by decide +kernel) (by decide +kernel), fun j hj => by
  match j, hj with
  | 0, _ => rfl
  | 1, _ => rfl
  | 2, _ => rfl
  | 3, _ => rfl
  | 4, _ => rfl
  | 5, _ => rfl
  | 6, _ => rfl
  | 7, _ => rfl
  | 8, _ => rfl
  | 9, _ => rfl
  | 10, _ => rfl
  | 11, _ => rfl
  | 12, _ => rfl
  | 13, _ => rfl
  | 14, _ => rfl
  | 15, _ => rfl
  | 16, _ => rfl
  | 17, _ => rfl
  | 18, _ => rfl
  | 19, _ => rfl
  | 20, _ => rfl
  | 21, _ => rfl
  | 22, _ => rfl
  | 23, _ => rfl
  | 24, _ => rfl
  | 25, _ => rfl
  | 26, _ => rfl
  | 27, _ => rfl
  | 28, _ => rfl
  | 29, _ => rfl
  | 30, _ => rfl
  | 31, _ => rfl
  | 32, _ => rfl
  | 33, _ => rfl
  | 34, _ => rfl
  | 35, _ => rfl
  | 36, _ => rfl
  | 37, _ => rfl
  | 38, _ => rfl
  | 39, _ => rfl
  | 40, _ => rfl
  | 41, _ => rfl
  | 42, _ => rfl
  | 43, _ => rfl
  | 44, _ => rfl
  | j + 45, h => exact absurd h (by omega)⟩
theorem lk_L_9 : LK RL 9 mX7_init := ⟨⟨tb_in 86 (by decide +kernel) (by decide +kernel), tb_in 70 (by decide +kernel) (by decide +kernel), ⟨by decide +kernel, by decide +kernel⟩, by decide +kernel⟩, rfl, tb_in 85 (by decide +kernel) (by decide +kernel), rfl, Or.inr (tb_in 84 (by decide +kernel) (by decide +kernel))⟩
theorem lk_L_12 : LK RL 12 mX8_init := ⟨⟨tb_in 754 (by decide +kernel) (by decide +kernel), tb_in 78 (by decide +kernel) (by decide +kernel), ⟨by decide +kernel, by decide +kernel⟩, by decide +kernel⟩, rfl, tb_in 753 (by decide +kernel) (by decide +kernel), rfl, Or.inr (tb_in 752 (by decide +kernel) (by decide +kernel))⟩
theorem st_arr {s : State} {args : Array Value} {ty : FieldType} (h : (Cond.arrayClass ty).before args s = true) (hno : ∀ C, ty ≠ .object C) : ∃ cA : ClassId, ArrOfT s cA ty ∧ va_RA s cA ty := by
  obtain ⟨cA, kA, comp, h1, h2, h3⟩ := Cond.arrayClass_spec h
  refine ⟨cA, fun n z => ⟨fun k h => (by cases h), kA, h2, comp, h3⟩, ?_⟩
  cases ty with
  | object C => exact absurd rfl (hno C)
  | _ => exact h1
theorem st_ref {s : State} {args : Array Value} {C : String} (h : (Cond.arrayOver (.object C)).before args s = true) : ∃ cA : ClassId, ArrOfT s cA (.object C) ∧ va_RA s cA (.object C) := by
  obtain ⟨comp, cA, kA, h1, h2, h3, h4, h5⟩ := Cond.arrayOver_spec h
  exact ⟨cA, fun n z => ⟨fun k h => (by cases h), kA, h3, comp, h4⟩, kA, comp, h3, h4, h1, h5⟩
set_option maxHeartbeats 4000000 in
theorem st_K {s : State} {args : Array Value} (hts : ∀ w ∈ lw_tbl, w.before args s = true) : ∃ (D : va_G) (A : Nat → ClassId), Bs D A s := by
  have ht : ∀ w ∈ tb, w.before args s = true := fun w h => hts w (tb_sub h)
  obtain ⟨c0, i0, h0⟩ := u_known (n := 5) ht iu0 (ht _ (tb_in (w := Cond.instantiable RX0 5) 91 (by decide +kernel) (by decide +kernel)))
  obtain ⟨c1, i1, h1⟩ := u_known (n := 6) ht iu1 (ht _ (tb_in (w := Cond.instantiable RX1 6) 124 (by decide +kernel) (by decide +kernel)))
  obtain ⟨c2, i2, h2⟩ := u_known (n := 4) ht iu2 (ht _ (tb_in (w := Cond.instantiable RX2 4) 236 (by decide +kernel) (by decide +kernel)))
  obtain ⟨c3, i3, h3⟩ := u_known (n := 8) ht iu3 (ht _ (tb_in (w := Cond.instantiable RX3 8) 186 (by decide +kernel) (by decide +kernel)))
  obtain ⟨c4, i4, h4⟩ := u_known (n := 4) ht iu4 (ht _ (tb_in (w := Cond.instantiable RX4 4) 257 (by decide +kernel) (by decide +kernel)))
  obtain ⟨c5, i5, h5⟩ := u_known (n := 5) ht iu5 (ht _ (tb_in (w := Cond.instantiable RX5 5) 156 (by decide +kernel) (by decide +kernel)))
  obtain ⟨c6, i6, h6⟩ := u_known (n := 2) ht iu6 (ht _ (tb_in (w := Cond.instantiable RX6 2) 179 (by decide +kernel) (by decide +kernel)))
  obtain ⟨c7, i7, h7⟩ := u_known (n := 13) ht iu7 (ht _ (tb_in (w := Cond.instantiable RX7 13) 83 (by decide +kernel) (by decide +kernel)))
  obtain ⟨c8, i8, h8⟩ := u_known (n := 45) ht iu8 (ht _ (tb_in (w := Cond.instantiable RX8 45) 751 (by decide +kernel) (by decide +kernel)))
  have oR : (Cond.arrayOver (.object "CompassMarriage$Ring")).before args s = true := hts _ (List.mem_of_getElem? (i := 185) (by decide +kernel))
  have oS : (Cond.arrayOver (.object "CompassMarriage$Sheet")).before args s = true := hts _ (List.mem_of_getElem? (i := 256) (by decide +kernel))
  obtain ⟨a0, x0⟩ := st_arr (ht _ w_aI) (fun C h => by cases h)
  obtain ⟨a1, x1⟩ := st_arr (ht _ w_aZ) (fun C h => by cases h)
  obtain ⟨a2, x2⟩ := st_ref oR
  obtain ⟨a3, x3⟩ := st_ref oS
  refine ⟨(fun c => match c with | 0 => c0 | 1 => c1 | 2 => c2 | 3 => c3 | 4 => c4 | 5 => c5 | 6 => c6 | 7 => c7 | _ => c8, fun c => match c with | 0 => i0 | 1 => i1 | 2 => i2 | 3 => i3 | 4 => i4 | 5 => i5 | 6 => i6 | 7 => i7 | _ => i8), fun c => match c with | 0 => a0 | 1 => a1 | 2 => a2 | _ => a3, ⟨fun c q hq => ?_, fun k q hk => ?_⟩, va_AO.of oR, va_AO.of oS⟩
  · match c, hq with
    | 0, hq => cases hq; exact h0
    | 1, hq => cases hq; exact h1
    | 2, hq => cases hq; exact h2
    | 3, hq => cases hq; exact h3
    | 4, hq => cases hq; exact h4
    | 5, hq => cases hq; exact h5
    | 6, hq => cases hq; exact h6
    | 7, hq => cases hq; exact h7
    | 8, hq => cases hq; exact h8
    | c + 9, hq => cases hq
  · match k, hk with
    | 0, hk => cases hk; exact x0
    | 1, hk => cases hk; exact x1
    | 2, hk => cases hk; exact x2
    | 3, hk => cases hk; exact x3
    | k + 4, hk => cases hk
theorem st_stX {s : State} {args : Array Value} (hts : ∀ w ∈ lw_tbl, w.before args s = true) (hg : (Jvm.Cond.and given_1 narrow_1).before args s = true) : ∃ t : Nat, va_Z "CompassMarriage" "STEP_X" "[I" (.ref t) (fun q => s.heap.size ≤ q) s s.heap ∧ va_T .int t 4 (fun j => .int (stX j)) (fun q => s.heap.size ≤ q) s s.heap := by
  have hs := flat_of_before _ hg
  have hA : ∀ a : Nat, a < s.heap.size → ¬ s.heap.size ≤ a := fun a h => Nat.not_le.mpr h
  obtain ⟨t, h1, h2⟩ := va_Tof (tm := (Term.static "CompassMarriage" "STEP_X" "[I")) (N := 4) (ty := .int) (f := fun j => .int (stX j)) (A := fun q => s.heap.size ≤ q) (by decide) (hs (.arrayOf (Term.static "CompassMarriage" "STEP_X" "[I") .int) (by decide +kernel)) (va_eqt (hs (.eq (.length (Term.static "CompassMarriage" "STEP_X" "[I")) (.int 4)) (by decide +kernel))) (fun j hj => by
    match j, hj with
    | 0, _ => exact va_eqt (hs (.eq (.elem (Term.static "CompassMarriage" "STEP_X" "[I") (.int 0)) (.int (1))) (by decide +kernel))
    | 1, _ => exact va_eqt (hs (.eq (.elem (Term.static "CompassMarriage" "STEP_X" "[I") (.int 1)) (.int (0))) (by decide +kernel))
    | 2, _ => exact va_eqt (hs (.eq (.elem (Term.static "CompassMarriage" "STEP_X" "[I") (.int 2)) (.int (-1))) (by decide +kernel))
    | 3, _ => exact va_eqt (hs (.eq (.elem (Term.static "CompassMarriage" "STEP_X" "[I") (.int 3)) (.int (0))) (by decide +kernel))
    | j + 4, h => exact absurd h (by omega)) hA
  exact ⟨t, va_Zof (hts _ (List.mem_of_getElem? (i := 419) (by decide +kernel))) (hts _ (List.mem_of_getElem? (i := 70) (by decide +kernel))) h1 hA, h2⟩
theorem st_stY {s : State} {args : Array Value} (hts : ∀ w ∈ lw_tbl, w.before args s = true) (hg : (Jvm.Cond.and given_1 narrow_1).before args s = true) : ∃ t : Nat, va_Z "CompassMarriage" "STEP_Y" "[I" (.ref t) (fun q => s.heap.size ≤ q) s s.heap ∧ va_T .int t 4 (fun j => .int (stY j)) (fun q => s.heap.size ≤ q) s s.heap := by
  have hs := flat_of_before _ hg
  have hA : ∀ a : Nat, a < s.heap.size → ¬ s.heap.size ≤ a := fun a h => Nat.not_le.mpr h
  obtain ⟨t, h1, h2⟩ := va_Tof (tm := (Term.static "CompassMarriage" "STEP_Y" "[I")) (N := 4) (ty := .int) (f := fun j => .int (stY j)) (A := fun q => s.heap.size ≤ q) (by decide) (hs (.arrayOf (Term.static "CompassMarriage" "STEP_Y" "[I") .int) (by decide +kernel)) (va_eqt (hs (.eq (.length (Term.static "CompassMarriage" "STEP_Y" "[I")) (.int 4)) (by decide +kernel))) (fun j hj => by
    match j, hj with
    | 0, _ => exact va_eqt (hs (.eq (.elem (Term.static "CompassMarriage" "STEP_Y" "[I") (.int 0)) (.int (0))) (by decide +kernel))
    | 1, _ => exact va_eqt (hs (.eq (.elem (Term.static "CompassMarriage" "STEP_Y" "[I") (.int 1)) (.int (1))) (by decide +kernel))
    | 2, _ => exact va_eqt (hs (.eq (.elem (Term.static "CompassMarriage" "STEP_Y" "[I") (.int 2)) (.int (0))) (by decide +kernel))
    | 3, _ => exact va_eqt (hs (.eq (.elem (Term.static "CompassMarriage" "STEP_Y" "[I") (.int 3)) (.int (-1))) (by decide +kernel))
    | j + 4, h => exact absurd h (by omega)) hA
  exact ⟨t, va_Zof (hts _ (List.mem_of_getElem? (i := 421) (by decide +kernel))) (hts _ (List.mem_of_getElem? (i := 70) (by decide +kernel))) h1 hA, h2⟩
