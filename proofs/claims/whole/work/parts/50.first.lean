/-! THE FIRST WORLD -/
def s0 : Hp := fun c i => if c = 0 then (if i = 2 then -1 else 0) else if c = 45 then (if i = 1 then 1 else 0) else if c = 47 then (if i = 1 then 1 else 0) else if c = 49 then (if i = 1 then 1 else 0) else if c = 51 then (if i = 1 then 1 else 0) else 0
def a0 : AS := (fun _ => 0, 0, fun _ _ => 0, 0, (fun _ => 0, fun _ => 0, fun _ => 0, fun _ => 0, 0), (fun _ => false, fun _ => 0, fun _ => 0, fun _ _ => 0, 0))
theorem ok_a0 : okA a0 := ⟨Nat.zero_le _, fun i h => absurd h (Nat.not_lt_zero i), Nat.zero_le _, fun i h => absurd h (Nat.not_lt_zero i), ⟨Nat.zero_le _, fun i h => absurd h (Nat.not_lt_zero i)⟩, fun s _ => ⟨Nat.zero_le _, Nat.zero_le _⟩⟩
theorem stX_a0 : StX a0 s0 := by
  refine ⟨⟨rfl, fun i h => absurd h (Nat.not_lt_zero i), ?_, ?_⟩, ⟨rfl, fun e h => absurd h (Nat.not_lt_zero e), fun i => i, fun i => i, ⟨fun i h => absurd h (Nat.not_lt_zero i), fun i h => absurd h (Nat.not_lt_zero i), fun e f h => absurd h (Nat.not_lt_zero e)⟩, fun i h => absurd h (Nat.not_lt_zero i)⟩, ⟨rfl, fun i h => absurd h (Nat.not_lt_zero i)⟩, ?_, rfl⟩
  · decide
  · have e : ncS (at' a0) (an a0) = 0 := by decide
    rw [e]
    exact ⟨rfl, fun k h => absurd h (Nat.not_lt_zero k)⟩
  · intro s hs
    match s, hs with
    | 0, _ => exact ⟨by decide, rfl, rfl, fun _ _ => rfl⟩
    | 1, _ => exact ⟨by decide, rfl, rfl, fun _ _ => rfl⟩
    | 2, _ => exact ⟨by decide, rfl, rfl, fun _ _ => rfl⟩
    | 3, _ => exact ⟨by decide, rfl, rfl, fun _ _ => rfl⟩
    | s + 4, h => exact absurd h (by omega)
theorem stM_a0 : StM a0 s0 := by
  refine ⟨⟨rfl, fun i h => absurd h (Nat.not_lt_zero i)⟩, ⟨rfl, fun e h => absurd h (Nat.not_lt_zero e)⟩, ⟨rfl, fun i h => absurd h (Nat.not_lt_zero i)⟩, fun s hs => ⟨?_, rfl, rfl, fun i _ => rfl⟩, rfl⟩
  show (0 : Int32) = bI (false = true)
  decide
/-- all addresses: class, reference, statics, script -/
def e0 (q : Nat) (u : List Nat) (r : Nat) (v : List Nat) (tX tY b : Nat) (c : Nat) : Nat := if c = 0 then q else if c < 53 then ad u (c - 1) else if c = 53 then r else if c < 91 then ad v (c - 54) else if c = 100 then tX else if c = 101 then tY else b
theorem mapIdx_is {fs : List (Option Nat)} {f : Nat → Option Nat → Value} {z : List Value} (h : ∀ j, (fs[j]?).map (f j) = z[j]?) : fs.mapIdx f = z := List.ext_getElem? (fun j => by rw [List.getElem?_mapIdx]; exact h j)
def E0 (D : va_G) (A : Nat → ClassId) (q : Nat) (u : List Nat) (r : Nat) (v : List Nat) (tX tY b L : Nat) (xs : Nat → Int32) : Ev := (D, e0 q u r v tX tY b, A, L, xs)
section FW
variable {D : va_G} {A : Nat → ClassId} {q : Nat} {u : List Nat} {r : Nat} {v : List Nat} {tX tY b L : Nat} {xs : Nat → Int32}
theorem c0_0 : (some (eR (E0 D A q u r v tX tY b L xs) 0, ce (E0 D A q u r v tX tY b L xs) s0 0 (.inr (7, [some 1, none, none, some 2, some 7, some 12, some 18, some 24, some 29, some 39, some 40, some 44, none]))) : Option (Nat × va_E)) = some ((q, .inr (7, [.ref (ad u 0), .int 0, .int (-1), .ref (ad u 1), .ref (ad u 6), .ref (ad u 11), .ref (ad u 17), .ref (ad u 23), .ref (ad u 28), .ref (ad u 38), .ref (ad u 39), .ref (ad u 43), .int 0]))) := congrArg (fun z : List Value => (some (q, .inr (7, z)) : Option (Nat × va_E))) (mapIdx_is (fun j => match j with | 0 => rfl | 1 => rfl | 2 => rfl | 3 => rfl | 4 => rfl | 5 => rfl | 6 => rfl | 7 => rfl | 8 => rfl | 9 => rfl | 10 => rfl | 11 => rfl | 12 => rfl | _ + 13 => rfl))
theorem c0_1 : (some (eR (E0 D A q u r v tX tY b L xs) 1, ce (E0 D A q u r v tX tY b L xs) s0 1 (.inl (0, 39, 0, 0))) : Option (Nat × va_E)) = some (cI (A 0) (ad u 0) 39) := rfl
theorem c0_2 : (some (eR (E0 D A q u r v tX tY b L xs) 2, ce (E0 D A q u r v tX tY b L xs) s0 2 (.inr (0, [some 3, some 4, some 5, some 6, none]))) : Option (Nat × va_E)) = some (((ad u 1), .inr (0, [.ref (ad u 2), .ref (ad u 3), .ref (ad u 4), .ref (ad u 5), .int 0]))) := congrArg (fun z : List Value => (some ((ad u 1), .inr (0, z)) : Option (Nat × va_E))) (mapIdx_is (fun j => match j with | 0 => rfl | 1 => rfl | 2 => rfl | 3 => rfl | 4 => rfl | _ + 5 => rfl))
theorem c0_3 : (some (eR (E0 D A q u r v tX tY b L xs) 3, ce (E0 D A q u r v tX tY b L xs) s0 3 (.inl (0, 8, 0, 0))) : Option (Nat × va_E)) = some (cI (A 0) (ad u 2) 8) := rfl
theorem c0_4 : (some (eR (E0 D A q u r v tX tY b L xs) 4, ce (E0 D A q u r v tX tY b L xs) s0 4 (.inl (0, 8, 0, 0))) : Option (Nat × va_E)) = some (cI (A 0) (ad u 3) 8) := rfl
theorem c0_5 : (some (eR (E0 D A q u r v tX tY b L xs) 5, ce (E0 D A q u r v tX tY b L xs) s0 5 (.inl (0, 8, 0, 0))) : Option (Nat × va_E)) = some (cI (A 0) (ad u 4) 8) := rfl
theorem c0_6 : (some (eR (E0 D A q u r v tX tY b L xs) 6, ce (E0 D A q u r v tX tY b L xs) s0 6 (.inl (0, 8, 0, 0))) : Option (Nat × va_E)) = some (cI (A 0) (ad u 5) 8) := rfl
theorem c0_7 : (some (eR (E0 D A q u r v tX tY b L xs) 7, ce (E0 D A q u r v tX tY b L xs) s0 7 (.inr (0, [some 8, some 9, some 10, some 11, none]))) : Option (Nat × va_E)) = some (((ad u 6), .inr (0, [.ref (ad u 7), .ref (ad u 8), .ref (ad u 9), .ref (ad u 10), .int 0]))) := congrArg (fun z : List Value => (some ((ad u 6), .inr (0, z)) : Option (Nat × va_E))) (mapIdx_is (fun j => match j with | 0 => rfl | 1 => rfl | 2 => rfl | 3 => rfl | 4 => rfl | _ + 5 => rfl))
theorem c0_8 : (some (eR (E0 D A q u r v tX tY b L xs) 8, ce (E0 D A q u r v tX tY b L xs) s0 8 (.inl (0, 8, 0, 0))) : Option (Nat × va_E)) = some (cI (A 0) (ad u 7) 8) := rfl
theorem c0_9 : (some (eR (E0 D A q u r v tX tY b L xs) 9, ce (E0 D A q u r v tX tY b L xs) s0 9 (.inl (0, 8, 0, 0))) : Option (Nat × va_E)) = some (cI (A 0) (ad u 8) 8) := rfl
theorem c0_10 : (some (eR (E0 D A q u r v tX tY b L xs) 10, ce (E0 D A q u r v tX tY b L xs) s0 10 (.inl (0, 8, 0, 0))) : Option (Nat × va_E)) = some (cI (A 0) (ad u 9) 8) := rfl
theorem c0_11 : (some (eR (E0 D A q u r v tX tY b L xs) 11, ce (E0 D A q u r v tX tY b L xs) s0 11 (.inl (0, 8, 0, 0))) : Option (Nat × va_E)) = some (cI (A 0) (ad u 10) 8) := rfl
theorem c0_12 : (some (eR (E0 D A q u r v tX tY b L xs) 12, ce (E0 D A q u r v tX tY b L xs) s0 12 (.inr (1, [some 13, some 14, some 15, some 16, some 17, none]))) : Option (Nat × va_E)) = some (((ad u 11), .inr (1, [.ref (ad u 12), .ref (ad u 13), .ref (ad u 14), .ref (ad u 15), .ref (ad u 16), .int 0]))) := congrArg (fun z : List Value => (some ((ad u 11), .inr (1, z)) : Option (Nat × va_E))) (mapIdx_is (fun j => match j with | 0 => rfl | 1 => rfl | 2 => rfl | 3 => rfl | 4 => rfl | 5 => rfl | _ + 6 => rfl))
theorem c0_13 : (some (eR (E0 D A q u r v tX tY b L xs) 13, ce (E0 D A q u r v tX tY b L xs) s0 13 (.inl (0, 8, 0, 0))) : Option (Nat × va_E)) = some (cI (A 0) (ad u 12) 8) := rfl
theorem c0_14 : (some (eR (E0 D A q u r v tX tY b L xs) 14, ce (E0 D A q u r v tX tY b L xs) s0 14 (.inl (0, 8, 0, 0))) : Option (Nat × va_E)) = some (cI (A 0) (ad u 13) 8) := rfl
theorem c0_15 : (some (eR (E0 D A q u r v tX tY b L xs) 15, ce (E0 D A q u r v tX tY b L xs) s0 15 (.inl (0, 8, 0, 0))) : Option (Nat × va_E)) = some (cI (A 0) (ad u 14) 8) := rfl
theorem c0_16 : (some (eR (E0 D A q u r v tX tY b L xs) 16, ce (E0 D A q u r v tX tY b L xs) s0 16 (.inl (0, 8, 0, 0))) : Option (Nat × va_E)) = some (cI (A 0) (ad u 15) 8) := rfl
theorem c0_17 : (some (eR (E0 D A q u r v tX tY b L xs) 17, ce (E0 D A q u r v tX tY b L xs) s0 17 (.inl (0, 8, 0, 0))) : Option (Nat × va_E)) = some (cI (A 0) (ad u 16) 8) := rfl
theorem c0_18 : (some (eR (E0 D A q u r v tX tY b L xs) 18, ce (E0 D A q u r v tX tY b L xs) s0 18 (.inr (1, [some 19, some 20, some 21, some 22, some 23, none]))) : Option (Nat × va_E)) = some (((ad u 17), .inr (1, [.ref (ad u 18), .ref (ad u 19), .ref (ad u 20), .ref (ad u 21), .ref (ad u 22), .int 0]))) := congrArg (fun z : List Value => (some ((ad u 17), .inr (1, z)) : Option (Nat × va_E))) (mapIdx_is (fun j => match j with | 0 => rfl | 1 => rfl | 2 => rfl | 3 => rfl | 4 => rfl | 5 => rfl | _ + 6 => rfl))
theorem c0_19 : (some (eR (E0 D A q u r v tX tY b L xs) 19, ce (E0 D A q u r v tX tY b L xs) s0 19 (.inl (0, 8, 0, 0))) : Option (Nat × va_E)) = some (cI (A 0) (ad u 18) 8) := rfl
theorem c0_20 : (some (eR (E0 D A q u r v tX tY b L xs) 20, ce (E0 D A q u r v tX tY b L xs) s0 20 (.inl (0, 8, 0, 0))) : Option (Nat × va_E)) = some (cI (A 0) (ad u 19) 8) := rfl
theorem c0_21 : (some (eR (E0 D A q u r v tX tY b L xs) 21, ce (E0 D A q u r v tX tY b L xs) s0 21 (.inl (0, 8, 0, 0))) : Option (Nat × va_E)) = some (cI (A 0) (ad u 20) 8) := rfl
theorem c0_22 : (some (eR (E0 D A q u r v tX tY b L xs) 22, ce (E0 D A q u r v tX tY b L xs) s0 22 (.inl (0, 8, 0, 0))) : Option (Nat × va_E)) = some (cI (A 0) (ad u 21) 8) := rfl
theorem c0_23 : (some (eR (E0 D A q u r v tX tY b L xs) 23, ce (E0 D A q u r v tX tY b L xs) s0 23 (.inl (0, 8, 0, 0))) : Option (Nat × va_E)) = some (cI (A 0) (ad u 22) 8) := rfl
theorem c0_24 : (some (eR (E0 D A q u r v tX tY b L xs) 24, ce (E0 D A q u r v tX tY b L xs) s0 24 (.inr (5, [some 25, some 26, some 27, some 28, none]))) : Option (Nat × va_E)) = some (((ad u 23), .inr (5, [.ref (ad u 24), .ref (ad u 25), .ref (ad u 26), .ref (ad u 27), .int 0]))) := congrArg (fun z : List Value => (some ((ad u 23), .inr (5, z)) : Option (Nat × va_E))) (mapIdx_is (fun j => match j with | 0 => rfl | 1 => rfl | 2 => rfl | 3 => rfl | 4 => rfl | _ + 5 => rfl))
theorem c0_25 : (some (eR (E0 D A q u r v tX tY b L xs) 25, ce (E0 D A q u r v tX tY b L xs) s0 25 (.inl (0, 8, 0, 0))) : Option (Nat × va_E)) = some (cI (A 0) (ad u 24) 8) := rfl
theorem c0_26 : (some (eR (E0 D A q u r v tX tY b L xs) 26, ce (E0 D A q u r v tX tY b L xs) s0 26 (.inl (0, 8, 0, 0))) : Option (Nat × va_E)) = some (cI (A 0) (ad u 25) 8) := rfl
theorem c0_27 : (some (eR (E0 D A q u r v tX tY b L xs) 27, ce (E0 D A q u r v tX tY b L xs) s0 27 (.inl (0, 8, 0, 0))) : Option (Nat × va_E)) = some (cI (A 0) (ad u 26) 8) := rfl
theorem c0_28 : (some (eR (E0 D A q u r v tX tY b L xs) 28, ce (E0 D A q u r v tX tY b L xs) s0 28 (.inl (0, 8, 0, 0))) : Option (Nat × va_E)) = some (cI (A 0) (ad u 27) 8) := rfl
theorem c0_29 : (some (eR (E0 D A q u r v tX tY b L xs) 29, ce (E0 D A q u r v tX tY b L xs) s0 29 (.inr (6, [some 30, none]))) : Option (Nat × va_E)) = some (((ad u 28), .inr (6, [.ref (ad u 29), .int 0]))) := congrArg (fun z : List Value => (some ((ad u 28), .inr (6, z)) : Option (Nat × va_E))) (mapIdx_is (fun j => match j with | 0 => rfl | 1 => rfl | _ + 2 => rfl))
theorem c0_30 : (some (eR (E0 D A q u r v tX tY b L xs) 30, ce (E0 D A q u r v tX tY b L xs) s0 30 (.inl (2, 8, 31, 1))) : Option (Nat × va_E)) = some (cQ (A 2) (ad u 29) 8 (fun i => some (e0 q u r v tX tY b (31 + 1 * i)))) := rfl
theorem c0_31 : (some (eR (E0 D A q u r v tX tY b L xs) 31, ce (E0 D A q u r v tX tY b L xs) s0 31 (.inr (3, [none, none, none, none, none, none, none, none]))) : Option (Nat × va_E)) = some (((ad u 30), .inr (3, [.int 0, .int 0, .int 0, .int 0, .int 0, .int 0, .int 0, .int 0]))) := congrArg (fun z : List Value => (some ((ad u 30), .inr (3, z)) : Option (Nat × va_E))) (mapIdx_is (fun j => match j with | 0 => rfl | 1 => rfl | 2 => rfl | 3 => rfl | 4 => rfl | 5 => rfl | 6 => rfl | 7 => rfl | _ + 8 => rfl))
theorem c0_32 : (some (eR (E0 D A q u r v tX tY b L xs) 32, ce (E0 D A q u r v tX tY b L xs) s0 32 (.inr (3, [none, none, none, none, none, none, none, none]))) : Option (Nat × va_E)) = some (((ad u 31), .inr (3, [.int 0, .int 0, .int 0, .int 0, .int 0, .int 0, .int 0, .int 0]))) := congrArg (fun z : List Value => (some ((ad u 31), .inr (3, z)) : Option (Nat × va_E))) (mapIdx_is (fun j => match j with | 0 => rfl | 1 => rfl | 2 => rfl | 3 => rfl | 4 => rfl | 5 => rfl | 6 => rfl | 7 => rfl | _ + 8 => rfl))
theorem c0_33 : (some (eR (E0 D A q u r v tX tY b L xs) 33, ce (E0 D A q u r v tX tY b L xs) s0 33 (.inr (3, [none, none, none, none, none, none, none, none]))) : Option (Nat × va_E)) = some (((ad u 32), .inr (3, [.int 0, .int 0, .int 0, .int 0, .int 0, .int 0, .int 0, .int 0]))) := congrArg (fun z : List Value => (some ((ad u 32), .inr (3, z)) : Option (Nat × va_E))) (mapIdx_is (fun j => match j with | 0 => rfl | 1 => rfl | 2 => rfl | 3 => rfl | 4 => rfl | 5 => rfl | 6 => rfl | 7 => rfl | _ + 8 => rfl))
theorem c0_34 : (some (eR (E0 D A q u r v tX tY b L xs) 34, ce (E0 D A q u r v tX tY b L xs) s0 34 (.inr (3, [none, none, none, none, none, none, none, none]))) : Option (Nat × va_E)) = some (((ad u 33), .inr (3, [.int 0, .int 0, .int 0, .int 0, .int 0, .int 0, .int 0, .int 0]))) := congrArg (fun z : List Value => (some ((ad u 33), .inr (3, z)) : Option (Nat × va_E))) (mapIdx_is (fun j => match j with | 0 => rfl | 1 => rfl | 2 => rfl | 3 => rfl | 4 => rfl | 5 => rfl | 6 => rfl | 7 => rfl | _ + 8 => rfl))
theorem c0_35 : (some (eR (E0 D A q u r v tX tY b L xs) 35, ce (E0 D A q u r v tX tY b L xs) s0 35 (.inr (3, [none, none, none, none, none, none, none, none]))) : Option (Nat × va_E)) = some (((ad u 34), .inr (3, [.int 0, .int 0, .int 0, .int 0, .int 0, .int 0, .int 0, .int 0]))) := congrArg (fun z : List Value => (some ((ad u 34), .inr (3, z)) : Option (Nat × va_E))) (mapIdx_is (fun j => match j with | 0 => rfl | 1 => rfl | 2 => rfl | 3 => rfl | 4 => rfl | 5 => rfl | 6 => rfl | 7 => rfl | _ + 8 => rfl))
theorem c0_36 : (some (eR (E0 D A q u r v tX tY b L xs) 36, ce (E0 D A q u r v tX tY b L xs) s0 36 (.inr (3, [none, none, none, none, none, none, none, none]))) : Option (Nat × va_E)) = some (((ad u 35), .inr (3, [.int 0, .int 0, .int 0, .int 0, .int 0, .int 0, .int 0, .int 0]))) := congrArg (fun z : List Value => (some ((ad u 35), .inr (3, z)) : Option (Nat × va_E))) (mapIdx_is (fun j => match j with | 0 => rfl | 1 => rfl | 2 => rfl | 3 => rfl | 4 => rfl | 5 => rfl | 6 => rfl | 7 => rfl | _ + 8 => rfl))
theorem c0_37 : (some (eR (E0 D A q u r v tX tY b L xs) 37, ce (E0 D A q u r v tX tY b L xs) s0 37 (.inr (3, [none, none, none, none, none, none, none, none]))) : Option (Nat × va_E)) = some (((ad u 36), .inr (3, [.int 0, .int 0, .int 0, .int 0, .int 0, .int 0, .int 0, .int 0]))) := congrArg (fun z : List Value => (some ((ad u 36), .inr (3, z)) : Option (Nat × va_E))) (mapIdx_is (fun j => match j with | 0 => rfl | 1 => rfl | 2 => rfl | 3 => rfl | 4 => rfl | 5 => rfl | 6 => rfl | 7 => rfl | _ + 8 => rfl))
theorem c0_38 : (some (eR (E0 D A q u r v tX tY b L xs) 38, ce (E0 D A q u r v tX tY b L xs) s0 38 (.inr (3, [none, none, none, none, none, none, none, none]))) : Option (Nat × va_E)) = some (((ad u 37), .inr (3, [.int 0, .int 0, .int 0, .int 0, .int 0, .int 0, .int 0, .int 0]))) := congrArg (fun z : List Value => (some ((ad u 37), .inr (3, z)) : Option (Nat × va_E))) (mapIdx_is (fun j => match j with | 0 => rfl | 1 => rfl | 2 => rfl | 3 => rfl | 4 => rfl | 5 => rfl | 6 => rfl | 7 => rfl | _ + 8 => rfl))
theorem c0_39 : (some (eR (E0 D A q u r v tX tY b L xs) 39, ce (E0 D A q u r v tX tY b L xs) s0 39 (.inr (3, [none, none, none, none, none, none, none, none]))) : Option (Nat × va_E)) = some (((ad u 38), .inr (3, [.int 0, .int 0, .int 0, .int 0, .int 0, .int 0, .int 0, .int 0]))) := congrArg (fun z : List Value => (some ((ad u 38), .inr (3, z)) : Option (Nat × va_E))) (mapIdx_is (fun j => match j with | 0 => rfl | 1 => rfl | 2 => rfl | 3 => rfl | 4 => rfl | 5 => rfl | 6 => rfl | 7 => rfl | _ + 8 => rfl))
theorem c0_40 : (some (eR (E0 D A q u r v tX tY b L xs) 40, ce (E0 D A q u r v tX tY b L xs) s0 40 (.inr (2, [some 41, some 42, some 43, none]))) : Option (Nat × va_E)) = some (((ad u 39), .inr (2, [.ref (ad u 40), .ref (ad u 41), .ref (ad u 42), .int 0]))) := congrArg (fun z : List Value => (some ((ad u 39), .inr (2, z)) : Option (Nat × va_E))) (mapIdx_is (fun j => match j with | 0 => rfl | 1 => rfl | 2 => rfl | 3 => rfl | _ + 4 => rfl))
theorem c0_41 : (some (eR (E0 D A q u r v tX tY b L xs) 41, ce (E0 D A q u r v tX tY b L xs) s0 41 (.inl (0, 16, 0, 0))) : Option (Nat × va_E)) = some (cI (A 0) (ad u 40) 16) := rfl
theorem c0_42 : (some (eR (E0 D A q u r v tX tY b L xs) 42, ce (E0 D A q u r v tX tY b L xs) s0 42 (.inl (0, 16, 0, 0))) : Option (Nat × va_E)) = some (cI (A 0) (ad u 41) 16) := rfl
theorem c0_43 : (some (eR (E0 D A q u r v tX tY b L xs) 43, ce (E0 D A q u r v tX tY b L xs) s0 43 (.inl (0, 16, 0, 0))) : Option (Nat × va_E)) = some (cI (A 0) (ad u 42) 16) := rfl
theorem c0_44 : (some (eR (E0 D A q u r v tX tY b L xs) 44, ce (E0 D A q u r v tX tY b L xs) s0 44 (.inl (3, 4, 45, 2))) : Option (Nat × va_E)) = some (cQ (A 3) (ad u 43) 4 (fun i => some (e0 q u r v tX tY b (45 + 2 * i)))) := rfl
theorem c0_45 : (some (eR (E0 D A q u r v tX tY b L xs) 45, ce (E0 D A q u r v tX tY b L xs) s0 45 (.inr (4, [some 46, none, none, none]))) : Option (Nat × va_E)) = some (((ad u 44), .inr (4, [.ref (ad u 45), .int 1, .int 0, .int 0]))) := congrArg (fun z : List Value => (some ((ad u 44), .inr (4, z)) : Option (Nat × va_E))) (mapIdx_is (fun j => match j with | 0 => rfl | 1 => rfl | 2 => rfl | 3 => rfl | _ + 4 => rfl))
theorem c0_46 : (some (eR (E0 D A q u r v tX tY b L xs) 46, ce (E0 D A q u r v tX tY b L xs) s0 46 (.inl (0, 60, 0, 0))) : Option (Nat × va_E)) = some (cI (A 0) (ad u 45) 60) := rfl
theorem c0_47 : (some (eR (E0 D A q u r v tX tY b L xs) 47, ce (E0 D A q u r v tX tY b L xs) s0 47 (.inr (4, [some 48, none, none, none]))) : Option (Nat × va_E)) = some (((ad u 46), .inr (4, [.ref (ad u 47), .int 1, .int 0, .int 0]))) := congrArg (fun z : List Value => (some ((ad u 46), .inr (4, z)) : Option (Nat × va_E))) (mapIdx_is (fun j => match j with | 0 => rfl | 1 => rfl | 2 => rfl | 3 => rfl | _ + 4 => rfl))
theorem c0_48 : (some (eR (E0 D A q u r v tX tY b L xs) 48, ce (E0 D A q u r v tX tY b L xs) s0 48 (.inl (0, 60, 0, 0))) : Option (Nat × va_E)) = some (cI (A 0) (ad u 47) 60) := rfl
theorem c0_49 : (some (eR (E0 D A q u r v tX tY b L xs) 49, ce (E0 D A q u r v tX tY b L xs) s0 49 (.inr (4, [some 50, none, none, none]))) : Option (Nat × va_E)) = some (((ad u 48), .inr (4, [.ref (ad u 49), .int 1, .int 0, .int 0]))) := congrArg (fun z : List Value => (some ((ad u 48), .inr (4, z)) : Option (Nat × va_E))) (mapIdx_is (fun j => match j with | 0 => rfl | 1 => rfl | 2 => rfl | 3 => rfl | _ + 4 => rfl))
theorem c0_50 : (some (eR (E0 D A q u r v tX tY b L xs) 50, ce (E0 D A q u r v tX tY b L xs) s0 50 (.inl (0, 60, 0, 0))) : Option (Nat × va_E)) = some (cI (A 0) (ad u 49) 60) := rfl
theorem c0_51 : (some (eR (E0 D A q u r v tX tY b L xs) 51, ce (E0 D A q u r v tX tY b L xs) s0 51 (.inr (4, [some 52, none, none, none]))) : Option (Nat × va_E)) = some (((ad u 50), .inr (4, [.ref (ad u 51), .int 1, .int 0, .int 0]))) := congrArg (fun z : List Value => (some ((ad u 50), .inr (4, z)) : Option (Nat × va_E))) (mapIdx_is (fun j => match j with | 0 => rfl | 1 => rfl | 2 => rfl | 3 => rfl | _ + 4 => rfl))
theorem c0_52 : (some (eR (E0 D A q u r v tX tY b L xs) 52, ce (E0 D A q u r v tX tY b L xs) s0 52 (.inl (0, 60, 0, 0))) : Option (Nat × va_E)) = some (cI (A 0) (ad u 51) 60) := rfl
theorem c0_53 : (some (eR (E0 D A q u r v tX tY b L xs) 53, ce (E0 D A q u r v tX tY b L xs) s0 53 (.inr (8, [none, some 54, none, some 55, some 56, some 57, some 58, none, some 59, some 60, some 61, some 62, none, some 63, some 64, some 65, some 66, none, some 67, some 68, some 69, some 70, some 71, some 72, none, some 73, some 74, some 75, some 76, some 77, some 78, some 79, some 80, none, some 81, some 82, some 83, some 84, some 85, some 86, some 87, some 88, some 89, some 90, none]))) : Option (Nat × va_E)) = some ((r, .inr (8, [.int 0, .ref (ad v 0), .int 0, .ref (ad v 1), .ref (ad v 2), .ref (ad v 3), .ref (ad v 4), .int 0, .ref (ad v 5), .ref (ad v 6), .ref (ad v 7), .ref (ad v 8), .int 0, .ref (ad v 9), .ref (ad v 10), .ref (ad v 11), .ref (ad v 12), .int 0, .ref (ad v 13), .ref (ad v 14), .ref (ad v 15), .ref (ad v 16), .ref (ad v 17), .ref (ad v 18), .int 0, .ref (ad v 19), .ref (ad v 20), .ref (ad v 21), .ref (ad v 22), .ref (ad v 23), .ref (ad v 24), .ref (ad v 25), .ref (ad v 26), .int 0, .ref (ad v 27), .ref (ad v 28), .ref (ad v 29), .ref (ad v 30), .ref (ad v 31), .ref (ad v 32), .ref (ad v 33), .ref (ad v 34), .ref (ad v 35), .ref (ad v 36), .int 0]))) := congrArg (fun z : List Value => (some (r, .inr (8, z)) : Option (Nat × va_E))) (mapIdx_is (fun j => match j with | 0 => rfl | 1 => rfl | 2 => rfl | 3 => rfl | 4 => rfl | 5 => rfl | 6 => rfl | 7 => rfl | 8 => rfl | 9 => rfl | 10 => rfl | 11 => rfl | 12 => rfl | 13 => rfl | 14 => rfl | 15 => rfl | 16 => rfl | 17 => rfl | 18 => rfl | 19 => rfl | 20 => rfl | 21 => rfl | 22 => rfl | 23 => rfl | 24 => rfl | 25 => rfl | 26 => rfl | 27 => rfl | 28 => rfl | 29 => rfl | 30 => rfl | 31 => rfl | 32 => rfl | 33 => rfl | 34 => rfl | 35 => rfl | 36 => rfl | 37 => rfl | 38 => rfl | 39 => rfl | 40 => rfl | 41 => rfl | 42 => rfl | 43 => rfl | 44 => rfl | _ + 45 => rfl))
theorem c0_54 : (some (eR (E0 D A q u r v tX tY b L xs) 54, ce (E0 D A q u r v tX tY b L xs) s0 54 (.inl (0, 39, 0, 0))) : Option (Nat × va_E)) = some (cI (A 0) (ad v 0) 39) := rfl
theorem c0_55 : (some (eR (E0 D A q u r v tX tY b L xs) 55, ce (E0 D A q u r v tX tY b L xs) s0 55 (.inl (0, 9, 0, 0))) : Option (Nat × va_E)) = some (cI (A 0) (ad v 1) 9) := rfl
theorem c0_56 : (some (eR (E0 D A q u r v tX tY b L xs) 56, ce (E0 D A q u r v tX tY b L xs) s0 56 (.inl (0, 9, 0, 0))) : Option (Nat × va_E)) = some (cI (A 0) (ad v 2) 9) := rfl
theorem c0_57 : (some (eR (E0 D A q u r v tX tY b L xs) 57, ce (E0 D A q u r v tX tY b L xs) s0 57 (.inl (0, 9, 0, 0))) : Option (Nat × va_E)) = some (cI (A 0) (ad v 3) 9) := rfl
theorem c0_58 : (some (eR (E0 D A q u r v tX tY b L xs) 58, ce (E0 D A q u r v tX tY b L xs) s0 58 (.inl (0, 9, 0, 0))) : Option (Nat × va_E)) = some (cI (A 0) (ad v 4) 9) := rfl
theorem c0_59 : (some (eR (E0 D A q u r v tX tY b L xs) 59, ce (E0 D A q u r v tX tY b L xs) s0 59 (.inl (0, 8, 0, 0))) : Option (Nat × va_E)) = some (cI (A 0) (ad v 5) 8) := rfl
theorem c0_60 : (some (eR (E0 D A q u r v tX tY b L xs) 60, ce (E0 D A q u r v tX tY b L xs) s0 60 (.inl (0, 8, 0, 0))) : Option (Nat × va_E)) = some (cI (A 0) (ad v 6) 8) := rfl
theorem c0_61 : (some (eR (E0 D A q u r v tX tY b L xs) 61, ce (E0 D A q u r v tX tY b L xs) s0 61 (.inl (0, 8, 0, 0))) : Option (Nat × va_E)) = some (cI (A 0) (ad v 7) 8) := rfl
theorem c0_62 : (some (eR (E0 D A q u r v tX tY b L xs) 62, ce (E0 D A q u r v tX tY b L xs) s0 62 (.inl (0, 8, 0, 0))) : Option (Nat × va_E)) = some (cI (A 0) (ad v 8) 8) := rfl
theorem c0_63 : (some (eR (E0 D A q u r v tX tY b L xs) 63, ce (E0 D A q u r v tX tY b L xs) s0 63 (.inl (0, 8, 0, 0))) : Option (Nat × va_E)) = some (cI (A 0) (ad v 9) 8) := rfl
theorem c0_64 : (some (eR (E0 D A q u r v tX tY b L xs) 64, ce (E0 D A q u r v tX tY b L xs) s0 64 (.inl (0, 8, 0, 0))) : Option (Nat × va_E)) = some (cI (A 0) (ad v 10) 8) := rfl
theorem c0_65 : (some (eR (E0 D A q u r v tX tY b L xs) 65, ce (E0 D A q u r v tX tY b L xs) s0 65 (.inl (0, 8, 0, 0))) : Option (Nat × va_E)) = some (cI (A 0) (ad v 11) 8) := rfl
theorem c0_66 : (some (eR (E0 D A q u r v tX tY b L xs) 66, ce (E0 D A q u r v tX tY b L xs) s0 66 (.inl (0, 8, 0, 0))) : Option (Nat × va_E)) = some (cI (A 0) (ad v 12) 8) := rfl
theorem c0_67 : (some (eR (E0 D A q u r v tX tY b L xs) 67, ce (E0 D A q u r v tX tY b L xs) s0 67 (.inl (0, 8, 0, 0))) : Option (Nat × va_E)) = some (cI (A 0) (ad v 13) 8) := rfl
theorem c0_68 : (some (eR (E0 D A q u r v tX tY b L xs) 68, ce (E0 D A q u r v tX tY b L xs) s0 68 (.inl (0, 8, 0, 0))) : Option (Nat × va_E)) = some (cI (A 0) (ad v 14) 8) := rfl
theorem c0_69 : (some (eR (E0 D A q u r v tX tY b L xs) 69, ce (E0 D A q u r v tX tY b L xs) s0 69 (.inl (0, 8, 0, 0))) : Option (Nat × va_E)) = some (cI (A 0) (ad v 15) 8) := rfl
theorem c0_70 : (some (eR (E0 D A q u r v tX tY b L xs) 70, ce (E0 D A q u r v tX tY b L xs) s0 70 (.inl (0, 8, 0, 0))) : Option (Nat × va_E)) = some (cI (A 0) (ad v 16) 8) := rfl
theorem c0_71 : (some (eR (E0 D A q u r v tX tY b L xs) 71, ce (E0 D A q u r v tX tY b L xs) s0 71 (.inl (0, 8, 0, 0))) : Option (Nat × va_E)) = some (cI (A 0) (ad v 17) 8) := rfl
theorem c0_72 : (some (eR (E0 D A q u r v tX tY b L xs) 72, ce (E0 D A q u r v tX tY b L xs) s0 72 (.inl (0, 8, 0, 0))) : Option (Nat × va_E)) = some (cI (A 0) (ad v 18) 8) := rfl
theorem c0_73 : (some (eR (E0 D A q u r v tX tY b L xs) 73, ce (E0 D A q u r v tX tY b L xs) s0 73 (.inl (0, 160, 0, 0))) : Option (Nat × va_E)) = some (cI (A 0) (ad v 19) 160) := rfl
theorem c0_74 : (some (eR (E0 D A q u r v tX tY b L xs) 74, ce (E0 D A q u r v tX tY b L xs) s0 74 (.inl (0, 160, 0, 0))) : Option (Nat × va_E)) = some (cI (A 0) (ad v 20) 160) := rfl
theorem c0_75 : (some (eR (E0 D A q u r v tX tY b L xs) 75, ce (E0 D A q u r v tX tY b L xs) s0 75 (.inl (0, 160, 0, 0))) : Option (Nat × va_E)) = some (cI (A 0) (ad v 21) 160) := rfl
theorem c0_76 : (some (eR (E0 D A q u r v tX tY b L xs) 76, ce (E0 D A q u r v tX tY b L xs) s0 76 (.inl (0, 160, 0, 0))) : Option (Nat × va_E)) = some (cI (A 0) (ad v 22) 160) := rfl
theorem c0_77 : (some (eR (E0 D A q u r v tX tY b L xs) 77, ce (E0 D A q u r v tX tY b L xs) s0 77 (.inl (0, 160, 0, 0))) : Option (Nat × va_E)) = some (cI (A 0) (ad v 23) 160) := rfl
theorem c0_78 : (some (eR (E0 D A q u r v tX tY b L xs) 78, ce (E0 D A q u r v tX tY b L xs) s0 78 (.inl (0, 160, 0, 0))) : Option (Nat × va_E)) = some (cI (A 0) (ad v 24) 160) := rfl
theorem c0_79 : (some (eR (E0 D A q u r v tX tY b L xs) 79, ce (E0 D A q u r v tX tY b L xs) s0 79 (.inl (0, 20, 0, 0))) : Option (Nat × va_E)) = some (cI (A 0) (ad v 25) 20) := rfl
theorem c0_80 : (some (eR (E0 D A q u r v tX tY b L xs) 80, ce (E0 D A q u r v tX tY b L xs) s0 80 (.inl (0, 2, 0, 0))) : Option (Nat × va_E)) = some (cI (A 0) (ad v 26) 2) := rfl
theorem c0_81 : (some (eR (E0 D A q u r v tX tY b L xs) 81, ce (E0 D A q u r v tX tY b L xs) s0 81 (.inl (0, 8, 0, 0))) : Option (Nat × va_E)) = some (cI (A 0) (ad v 27) 8) := rfl
theorem c0_82 : (some (eR (E0 D A q u r v tX tY b L xs) 82, ce (E0 D A q u r v tX tY b L xs) s0 82 (.inl (0, 8, 0, 0))) : Option (Nat × va_E)) = some (cI (A 0) (ad v 28) 8) := rfl
theorem c0_83 : (some (eR (E0 D A q u r v tX tY b L xs) 83, ce (E0 D A q u r v tX tY b L xs) s0 83 (.inl (0, 8, 0, 0))) : Option (Nat × va_E)) = some (cI (A 0) (ad v 29) 8) := rfl
theorem c0_84 : (some (eR (E0 D A q u r v tX tY b L xs) 84, ce (E0 D A q u r v tX tY b L xs) s0 84 (.inl (0, 8, 0, 0))) : Option (Nat × va_E)) = some (cI (A 0) (ad v 30) 8) := rfl
theorem c0_85 : (some (eR (E0 D A q u r v tX tY b L xs) 85, ce (E0 D A q u r v tX tY b L xs) s0 85 (.inl (0, 200, 0, 0))) : Option (Nat × va_E)) = some (cI (A 0) (ad v 31) 200) := rfl
theorem c0_86 : (some (eR (E0 D A q u r v tX tY b L xs) 86, ce (E0 D A q u r v tX tY b L xs) s0 86 (.inl (1, 4, 0, 0))) : Option (Nat × va_E)) = some (cI (A 1) (ad v 32) 4) := rfl
theorem c0_87 : (some (eR (E0 D A q u r v tX tY b L xs) 87, ce (E0 D A q u r v tX tY b L xs) s0 87 (.inl (0, 4, 0, 0))) : Option (Nat × va_E)) = some (cI (A 0) (ad v 33) 4) := rfl
theorem c0_88 : (some (eR (E0 D A q u r v tX tY b L xs) 88, ce (E0 D A q u r v tX tY b L xs) s0 88 (.inl (0, 4, 0, 0))) : Option (Nat × va_E)) = some (cI (A 0) (ad v 34) 4) := rfl
theorem c0_89 : (some (eR (E0 D A q u r v tX tY b L xs) 89, ce (E0 D A q u r v tX tY b L xs) s0 89 (.inl (0, 240, 0, 0))) : Option (Nat × va_E)) = some (cI (A 0) (ad v 35) 240) := rfl
theorem c0_90 : (some (eR (E0 D A q u r v tX tY b L xs) 90, ce (E0 D A q u r v tX tY b L xs) s0 90 (.inl (0, 60, 0, 0))) : Option (Nat × va_E)) = some (cI (A 0) (ad v 36) 60) := rfl
set_option maxHeartbeats 4000000 in
set_option maxRecDepth 100000 in
theorem cells0 : cells (E0 D A q u r v tX tY b L xs) s0 = ((wX7 A q u ++ wX8 A r v).set 30 (cQ (A 2) (ad u 29) 8 (fun i => some (e0 q u r v tX tY b (31 + 1 * i))))).set 44 (cQ (A 3) (ad u 43) 4 (fun i => some (e0 q u r v tX tY b (45 + 2 * i)))) := by
  apply List.ext_getElem?
  intro c
  match c with
  | 0 => exact (cells_at ly0).trans c0_0
  | 1 => exact (cells_at ly1).trans c0_1
  | 2 => exact (cells_at ly2).trans c0_2
  | 3 => exact (cells_at ly3).trans c0_3
  | 4 => exact (cells_at ly4).trans c0_4
  | 5 => exact (cells_at ly5).trans c0_5
  | 6 => exact (cells_at ly6).trans c0_6
  | 7 => exact (cells_at ly7).trans c0_7
  | 8 => exact (cells_at ly8).trans c0_8
  | 9 => exact (cells_at ly9).trans c0_9
  | 10 => exact (cells_at ly10).trans c0_10
  | 11 => exact (cells_at ly11).trans c0_11
  | 12 => exact (cells_at ly12).trans c0_12
  | 13 => exact (cells_at ly13).trans c0_13
  | 14 => exact (cells_at ly14).trans c0_14
  | 15 => exact (cells_at ly15).trans c0_15
  | 16 => exact (cells_at ly16).trans c0_16
  | 17 => exact (cells_at ly17).trans c0_17
  | 18 => exact (cells_at ly18).trans c0_18
  | 19 => exact (cells_at ly19).trans c0_19
  | 20 => exact (cells_at ly20).trans c0_20
  | 21 => exact (cells_at ly21).trans c0_21
  | 22 => exact (cells_at ly22).trans c0_22
  | 23 => exact (cells_at ly23).trans c0_23
  | 24 => exact (cells_at ly24).trans c0_24
  | 25 => exact (cells_at ly25).trans c0_25
  | 26 => exact (cells_at ly26).trans c0_26
  | 27 => exact (cells_at ly27).trans c0_27
  | 28 => exact (cells_at ly28).trans c0_28
  | 29 => exact (cells_at ly29).trans c0_29
  | 30 => exact (cells_at ly30).trans c0_30
  | 31 => exact (cells_at ly31).trans c0_31
  | 32 => exact (cells_at ly32).trans c0_32
  | 33 => exact (cells_at ly33).trans c0_33
  | 34 => exact (cells_at ly34).trans c0_34
  | 35 => exact (cells_at ly35).trans c0_35
  | 36 => exact (cells_at ly36).trans c0_36
  | 37 => exact (cells_at ly37).trans c0_37
  | 38 => exact (cells_at ly38).trans c0_38
  | 39 => exact (cells_at ly39).trans c0_39
  | 40 => exact (cells_at ly40).trans c0_40
  | 41 => exact (cells_at ly41).trans c0_41
  | 42 => exact (cells_at ly42).trans c0_42
  | 43 => exact (cells_at ly43).trans c0_43
  | 44 => exact (cells_at ly44).trans c0_44
  | 45 => exact (cells_at ly45).trans c0_45
  | 46 => exact (cells_at ly46).trans c0_46
  | 47 => exact (cells_at ly47).trans c0_47
  | 48 => exact (cells_at ly48).trans c0_48
  | 49 => exact (cells_at ly49).trans c0_49
  | 50 => exact (cells_at ly50).trans c0_50
  | 51 => exact (cells_at ly51).trans c0_51
  | 52 => exact (cells_at ly52).trans c0_52
  | 53 => exact (cells_at ly53).trans c0_53
  | 54 => exact (cells_at ly54).trans c0_54
  | 55 => exact (cells_at ly55).trans c0_55
  | 56 => exact (cells_at ly56).trans c0_56
  | 57 => exact (cells_at ly57).trans c0_57
  | 58 => exact (cells_at ly58).trans c0_58
  | 59 => exact (cells_at ly59).trans c0_59
  | 60 => exact (cells_at ly60).trans c0_60
  | 61 => exact (cells_at ly61).trans c0_61
  | 62 => exact (cells_at ly62).trans c0_62
  | 63 => exact (cells_at ly63).trans c0_63
  | 64 => exact (cells_at ly64).trans c0_64
  | 65 => exact (cells_at ly65).trans c0_65
  | 66 => exact (cells_at ly66).trans c0_66
  | 67 => exact (cells_at ly67).trans c0_67
  | 68 => exact (cells_at ly68).trans c0_68
  | 69 => exact (cells_at ly69).trans c0_69
  | 70 => exact (cells_at ly70).trans c0_70
  | 71 => exact (cells_at ly71).trans c0_71
  | 72 => exact (cells_at ly72).trans c0_72
  | 73 => exact (cells_at ly73).trans c0_73
  | 74 => exact (cells_at ly74).trans c0_74
  | 75 => exact (cells_at ly75).trans c0_75
  | 76 => exact (cells_at ly76).trans c0_76
  | 77 => exact (cells_at ly77).trans c0_77
  | 78 => exact (cells_at ly78).trans c0_78
  | 79 => exact (cells_at ly79).trans c0_79
  | 80 => exact (cells_at ly80).trans c0_80
  | 81 => exact (cells_at ly81).trans c0_81
  | 82 => exact (cells_at ly82).trans c0_82
  | 83 => exact (cells_at ly83).trans c0_83
  | 84 => exact (cells_at ly84).trans c0_84
  | 85 => exact (cells_at ly85).trans c0_85
  | 86 => exact (cells_at ly86).trans c0_86
  | 87 => exact (cells_at ly87).trans c0_87
  | 88 => exact (cells_at ly88).trans c0_88
  | 89 => exact (cells_at ly89).trans c0_89
  | 90 => exact (cells_at ly90).trans c0_90
  | c + 91 =>
    rw [List.getElem?_eq_none, List.getElem?_eq_none]
    · rw [List.length_set, List.length_set, List.length_append]
      show 53 + 38 ≤ c + 91
      omega
    · unfold cells
      rw [List.length_mapIdx]
      show 91 ≤ c + 91
      omega
end FW
