/-! ACTS KEEP WHAT IS ALWAYS SO -/
section OKA
variable {A : AS}
theorem okA_mark (ho : okA A) (x : Int32) : okA (markA A x).2 := ⟨ho.1, ho.2.1, ho.2.2.1, ho.2.2.2.1, ho.2.2.2.2.1, ho.2.2.2.2.2⟩
theorem okA_type (ho : okA A) (b : Int32) : okA (aType A b).2 := by
  have h39 := ho.1
  unfold aType
  split
  · rename_i q
    split
    · exact ho
    · rename_i q2
      obtain ⟨j, hj, rfl⟩ := (inN_iff 255 (by decide)).mp q
      refine ⟨by show an A + 1 ≤ 39; omega, fun i hi => ?_, ho.2.2⟩
      show (if i = an A then (nI j).toNatClampNeg else at' A i) ≤ 255
      by_cases z : i = an A
      · rw [if_pos z, cl (by omega)]; exact hj
      · rw [if_neg z]
        exact ho.2.1 i (by have : i < an A + 1 := hi; omega)
  · exact ho
theorem okA_wipe (ho : okA A) : okA (aWipe A).2 := ⟨Nat.zero_le _, fun i hi => absurd hi (Nat.not_lt_zero i), ho.2.2⟩
theorem okA_undo (ho : okA A) : okA (aUndo A).2 := by
  have h39 := ho.1
  unfold aUndo
  split
  · exact ho
  · exact ⟨by show an A - 1 ≤ 39; omega, fun i hi => ho.2.1 i (by have : i < an A - 1 := hi; omega), ho.2.2⟩
theorem okA_back (ho : okA A) : okA (aBack A).2 := by
  have h8 := ho.2.2.1
  unfold aBack
  split
  · exact ho
  · exact ⟨ho.1, ho.2.1, by show am A - 1 ≤ 8; omega, fun e he => ho.2.2.2.1 e (by have : e < am A - 1 := he; omega), ho.2.2.2.2⟩
theorem okA_rd {s : Nat} : ∀ n j {A : AS}, okA A → okA (rdS s n j A).2
  | 0, j, A, ho => ho
  | n + 1, j, A, ho => by
    unfold rdS
    split
    · split
      · exact okA_rd n (j + 1) (okA_event ho _ _ _ _)
      · exact ho
    · exact ho
theorem okA_read (ho : okA A) (s : Int32) : okA (aRead A s).2 := by
  unfold aRead
  split
  · split
    · exact okA_rd _ _ ho
    · exact okA_mark ho _
  · exact ho
theorem okA_seen (ho : okA A) (d k x y : Int32) : okA (aSeen A d k x y).2 := by
  obtain ⟨o1, o2, o3, o4, ⟨s1, s2⟩, o6⟩ := ho
  unfold aSeen
  split
  · rename_i q
    split
    · exact ⟨o1, o2, o3, o4, ⟨s1, s2⟩, o6⟩
    · rename_i q2
      obtain ⟨j, hj, rfl⟩ := (inN_iff 19 (by decide)).mp q.1
      obtain ⟨c, hc, rfl⟩ := (inN_iff 7 (by decide)).mp q.2.1
      refine ⟨o1, o2, o3, o4, ⟨by show sc (aS A) + 1 ≤ 8; omega, fun i hi => ?_⟩, o6⟩
      have hi : i < sc (aS A) + 1 := hi
      show (if i = sc (aS A) then (nI j).toNatClampNeg else sd (aS A) i) < 20 ∧ (if i = sc (aS A) then (nI c).toNatClampNeg else sh (aS A) i) < 8
      by_cases z : i = sc (aS A)
      · rw [if_pos z, if_pos z, cl (by omega), cl (by omega)]; omega
      · rw [if_neg z, if_neg z]
        exact s2 i (by omega)
  · exact ⟨o1, o2, o3, o4, ⟨s1, s2⟩, o6⟩
theorem okA_forget (ho : okA A) : okA (aForget A).2 := ⟨ho.1, ho.2.1, ho.2.2.1, ho.2.2.2.1, ⟨Nat.zero_le _, fun i hi => absurd hi (Nat.not_lt_zero i)⟩, ho.2.2.2.2.2⟩
theorem okA_sheet (ho : okA A) (s f n : Int32) : okA (aSheet A s f n).2 := by
  unfold aSheet
  split
  · rename_i q
    split
    · rename_i q2
      obtain ⟨f, hf', rfl⟩ := (inN_iff 2 (by decide)).mp q.2.1
      obtain ⟨n, hn', rfl⟩ := (inN_iff 60 (by decide)).mp ⟨q2, q.2.2⟩
      refine okA_H ho (fun t ht' => ?_)
      show (if t = s.toNatClampNeg then (nI f).toNatClampNeg else hf (aH A) t) ≤ 2 ∧ (if t = s.toNatClampNeg then (nI n).toNatClampNeg else hz (aH A) t) ≤ 60
      by_cases z : t = s.toNatClampNeg
      · rw [if_pos z, if_pos z, cl (by omega), cl (by omega)]; omega
      · rw [if_neg z, if_neg z]
        exact ho.2.2.2.2.2 t ht'
    · exact okA_mark ho _
  · exact ho
theorem okA_lose (ho : okA A) (s : Int32) : okA (aLose A s).2 := by
  unfold aLose
  split
  · split
    · exact okA_H ho ho.2.2.2.2.2
    · exact okA_mark ho _
  · exact ho
theorem okA_put (ho : okA A) (s f i x : Int32) : okA (aPut A s f i x).2 := by
  unfold aPut
  split
  · split
    · exact okA_H ho ho.2.2.2.2.2
    · exact okA_mark ho _
  · exact ho
theorem okA_get (ho : okA A) (s f i : Int32) : okA (aGet A s f i).2 := by
  unfold aGet
  split
  · split
    · exact ho
    · show okA (setF A _)
      exact ⟨ho.1, ho.2.1, ho.2.2.1, ho.2.2.2.1, ho.2.2.2.2.1, ho.2.2.2.2.2⟩
  · exact ho
theorem okA_copy (ho : okA A) (s i t j n : Int32) : okA (aCopy A s i t j n).2 := by
  unfold aCopy
  split
  · split
    · split
      · split
        · exact okA_H ho ho.2.2.2.2.2
        · exact okA_mark ho _
      · exact okA_mark ho _
    · exact okA_mark ho _
  · exact ho
theorem okA_write (ho : okA A) (k s : Int32) : okA (aWrite A k s).2 := by
  unfold aWrite
  split
  · split
    · exact okA_H ho ho.2.2.2.2.2
    · exact okA_mark ho _
  · exact ho
end OKA
