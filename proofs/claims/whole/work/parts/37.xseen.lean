/-! THE CLASS: what was seen: never, was -/
section XN
variable {E : Ev} {σ : Hp} {A : AS}
theorem SnX.fr {S : Nat → Nat → Prop} {N : Sn} {σ σ' : Hp} (h : SnX N σ) (hF : Fr S σ σ') (hS : ∀ c i, 24 ≤ c → c ≤ 28 → ¬ S c i) : SnX N σ' := by
  refine ⟨(hF _ _ (hS _ _ (by decide) (by decide))).trans h.1, fun i hi => ?_⟩
  rw [hF 25 i (hS _ _ (by decide) (by decide)), hF 26 i (hS _ _ (by decide) (by decide)), hF 27 i (hS _ _ (by decide) (by decide)), hF 28 i (hS _ _ (by decide) (by decide))]
  exact h.2 i hi
theorem x5_comeOut {c1 : Nat} {W : Wo} {msk : Nat → Bool} {mk : Int32} {S : Sn} (h1 : IsCpl c1 ∧ (c1 = 2 ∨ c1 = 7)) (hW : okW W) (hC : CpX c1 (wc W) (wn W) σ) (hE : EvX 12 (we W) (wm W) σ) (hmk : ∀ e, e < wm W → bt mk e = msk e) (hS : okS S) (hN : SnX S σ) :
    ∃ (v : Int32) (σ' : Hp), Call E mX5_comeOut [.ref 24, .ref c1, .ref 12, .int mk, .ref 39] σ (some (.int v)) σ' ∧ (v = bI (senS W msk S = true) ∧ Fr (oc 39) σ σ') := by
  have hn := hW.1
  obtain ⟨hc1, hv1⟩ := h1
  have h8 := hS.1
  refine C_X5_comeOut (tX5_comeOut_0 hc1 isEvt12 isRing39 ?_)
  have loop : ∀ i (τ : Hp), i ≤ sc S → (Fr (oc 39) σ τ ∧ ∀ j, j < i → senB W msk S j = true) → Ru E mX5_comeOut 3 [(0, .ref 24), (1, .ref c1), (2, .ref 12), (3, .int mk), (4, .ref 39), (5, .int (nI i))] [] τ (PI (fun v σ' => v = bI (senS W msk S = true) ∧ Fr (oc 39) σ σ')) := by
    refine for_up (sc S) _ _ ?_ ?_
    · intro i τ hi ⟨hF, hJ⟩ ih
      have hCt := hC.fr hF (fun c i a b => by unfold oc; omega)
      have hEt := hE.fr hF (fun c i a b => by unfold oc; omega)
      have hNt := hN.fr hF (fun c i a b => by unfold oc; omega)
      obtain ⟨g1, g2, g3, g4⟩ := hNt.2 i hi
      obtain ⟨o1, o2⟩ := hS.2 i hi
      have no : senB W msk S i = false → (0 : Int32) = bI (senS W msk S = true) := by
        intro z
        refine (bI_f (fun y => ?_)).symm
        have := decide_eq_true_iff.mp y i hi
        rw [z] at this
        exact absurd this (by decide)
      have hsh : ∀ n : Nat, n ≤ 8 → ((0 ≤ nI (sh S i) ∧ nI (sh S i) < nI n) ↔ sh S i < n) := fun n hn8 => ⟨fun y => (nI_lt' (by omega) (by omega)).mp y.2, fun y => ⟨nI_pos' (by omega), (nI_lt' (by omega) (by omega)).mpr y⟩⟩
      refine tX5_comeOut_3 hc1 isEvt12 isRing39 ?_
      rw [hNt.1, cl (show i < 2147483648 by omega), g2, nI_1]
      refine ⟨fun z => ?_, fun _ => ⟨vin (by omega) (by decide), _, _, x0_has hc1 hCt _, fun z => ?_, fun z => ⟨_, rfl, no ?_, hF⟩⟩⟩
      · rw [nI_le' (by omega) (by omega)] at z; omega
      · have hk : sh S i < wn W := (hsh _ hn).mp (bI_n.mp z)
        obtain ⟨s1, hk1, hR1, hF1⟩ := x3_live (E := E) (c := 39) (k := sh S i) (d := sd S i) isRing39 hc1 isEvt12 (fun f hf => by omega) (fun f hf => by omega) hW hCt hEt hmk hk o1
        have hok : okR (rr W msk (sh S i) (sd S i)) := pre_ok hW hk _
        have hF1' := hF.tr hF1
        obtain ⟨k1, k2, k3, k4⟩ := (hNt.fr hF1 (fun c i a b => by unfold oc; omega)).2 i hi
        rw [g1, g2]
        refine ⟨s1, hk1, _, _, x3_legX isRing39 hR1 hok, ?_⟩
        rw [k3]
        refine ⟨fun z1 => ⟨_, rfl, no ?_, hF1'⟩, fun z1 => ⟨_, _, x3_legY isRing39 hR1 hok, ?_⟩⟩
        · unfold senB
          rw [decide_eq_false z1, Bool.false_and, Bool.and_false]
        · rw [k4]
          refine ⟨fun z2 => ih s1 ⟨hF1', fun j hj => ?_⟩, fun z2 => ⟨_, rfl, no ?_, hF1'⟩⟩
          · rcases Nat.lt_or_ge j i with y | y
            · exact hJ j y
            · rw [show j = i by omega]
              unfold senB
              rw [decide_eq_true hk, decide_eq_true z1, decide_eq_true z2]; rfl
          · unfold senB
            rw [decide_eq_false z2, Bool.and_false, Bool.and_false]
      · unfold senB
        rw [decide_eq_false (fun y => bI_0.mp z ((hsh _ hn).mpr y)), Bool.false_and]
    · intro τ ⟨hF, hJ⟩
      have hNt := hN.fr hF (fun c i a b => by unfold oc; omega)
      refine tX5_comeOut_3 hc1 isEvt12 isRing39 ⟨fun _ => ⟨_, rfl, ?_, hF⟩, fun z => absurd (by rw [hNt.1]; exact Int32.le_refl _) z⟩
      exact (bI_t (decide_eq_true hJ)).symm
  exact loop 0 σ (Nat.zero_le _) ⟨Fr.rf, fun j hj => by omega⟩
theorem x7_never (h : StX A σ) (ho : okA A) : AnsX E mX7_never [.ref 0] σ (neS (aW A) (aS A)) := by
  have hW := okA_W ho
  have hm : wm (aW A) ≤ 8 := ho.2.2.1
  refine C_X7_never (tX7_never_0 ?_)
  have loop : ∀ e (τ : Hp), e ≤ wm (aW A) → Fr sqX σ τ → Ru E mX7_never 4 [(0, .ref 0), (1, .int (bs (fun e => senS (aW A) (nmk (2 ^ e)) (aS A)) e)), (2, .int (nI e))] [] τ (PI (fun v σ' => v = neS (aW A) (aS A) ∧ Fr sqX σ σ')) := by
    refine for_up (wm (aW A)) _ _ ?_ ?_
    · intro e τ he hF ih
      have ht := h.q hF
      obtain ⟨v1, s1, hc1, rfl, hF1⟩ := x5_comeOut (E := E) (W := aW A) (msk := nmk (2 ^ e)) (mk := allI (am A) &&& (nI (2 ^ e) ^^^ (-1))) ⟨isCpl2, Or.inl rfl⟩ hW ht.cp ht.ev (fun e' he' => bt_not _ (by have := ho.2.2.1; omega) _ (p8 (by omega)) e' he') ho.2.2.2.2.1 ht.2.2.1
      have ih := ih s1 (hF.tr (hF1.mono (fun c i z => oc_q z)))
      unfold bs at ih
      refine tX7_never_4 ?_
      rw [shl1 (show e < 31 by omega), nI_1 e, ht.ev.1]
      rw [shl1 (show e < 31 by omega)] at ih
      refine ⟨fun z => ?_, fun _ => ⟨_, _, x1_all isEvt12 ht.ev ho.2.2.1, _, _, hc1, fun z => ?_, fun z => ?_⟩⟩
      · have z := (nI_le' (show wm (aW A) < 2147483648 by omega) (show e < 2147483648 by omega)).mp z; omega
      · rw [if_neg (bI_0.mp z), Int32.or_zero] at ih
        exact ih
      · rw [if_pos (bI_n.mp z)] at ih
        exact ih
    · intro τ hF
      exact tX7_never_4 ⟨fun _ => ⟨_, rfl, rfl, hF⟩, fun z => absurd (by rw [(h.q hF).ev.1]; exact Int32.le_refl _) z⟩
  exact loop 0 σ (Nat.zero_le _) Fr.rf
theorem bs_succ {P : Nat → Bool} {n : Nat} : bs P (n + 1) = bs P n ||| (if P n = true then (1 : Int32) <<< (nI n &&& 31) else 0) := rfl
theorem x7_values (h : StX A σ) (ho : okA A) {f N k : Nat} (hA : IsA (7 + 1 + f) 8) (hf : f = 2 ∧ N = 10 ∨ f = 3 ∧ N = 3) (hk : k < wn (aW A)) : ∃ (v : Int32) (σ' : Hp), Call E mX7_valuesThatFit [.ref 0, .int (nI k), .ref (7 + 1 + f), .int (nI N)] σ (some (.int v)) σ' ∧ (v = bs (fun v => senS (setC (aW A) f k v) allE (aS A)) N ∧ Fr sqX σ σ') := by
  have hW := okA_W ho
  have hn : wn (aW A) ≤ 8 := hW.1
  obtain ⟨s0, hc0, hC0, hF0⟩ := x0_setTo (E := E) h.cp hn
  have hF0 := hF0.mono (fun c i z => s7_q z)
  refine C_X7_valuesThatFit (tX7_valuesThatFit_0 hA ⟨s0, hc0, ?_⟩)
  have loop : ∀ v (τ : Hp), v ≤ N → ((∃ x, CpX 7 (wc (setC (aW A) f k x)) (wn (aW A)) τ) ∧ Fr sqX σ τ) → Ru E mX7_valuesThatFit 17 [(0, .ref 0), (1, .int (nI k)), (2, .ref (7 + 1 + f)), (3, .int (nI N)), (4, .int (bs (fun v => senS (setC (aW A) f k v) allE (aS A)) v)), (5, .int (nI v))] [] τ (PI (fun v σ' => v = bs (fun v => senS (setC (aW A) f k v) allE (aS A)) N ∧ Fr sqX σ σ')) := by
    refine for_up N _ _ ?_ ?_
    · intro v τ hv ⟨⟨x, hx⟩, hF⟩ ih
      have hC : CpX 7 (wc (setC (aW A) f k v)) (wn (aW A)) (up τ (7 + 1 + f) k (nI v)) := by
        have := hx.set (f := f) (k := k) (x := v) (by omega)
        rw [setC_setC] at this
        exact this
      have hFu : Fr sqX σ (up τ (7 + 1 + f) k (nI v)) := hF.up (by unfold sqX; omega)
      have hu := h.q hFu
      have hW' : okW (setC (aW A) f k v) := setC_ok hW (by omega) (fun z => by omega)
      obtain ⟨v1, s1, hc1, rfl, hF1⟩ := x5_comeOut (E := E) (W := setC (aW A) f k v) (msk := allE) (mk := allI (am A)) ⟨isCpl7, Or.inr rfl⟩ hW' hC hu.ev (fun e he => bt_all ho.2.2.1 he) ho.2.2.2.2.1 hu.2.2.1
      have ih := ih s1 ⟨⟨v, hC.fr hF1 (fun c i a b => by unfold oc; omega)⟩, hFu.tr (hF1.mono (fun c i z => oc_q z))⟩
      rw [bs_succ] at ih
      refine tX7_valuesThatFit_17 hA ?_
      rw [cl (show k < 2147483648 by omega), nI_1]
      refine ⟨fun z => ?_, fun _ => ⟨vin (by omega) (by decide), _, _, x1_all isEvt12 hu.ev ho.2.2.1, _, _, hc1, fun z => ?_, fun z => ?_⟩⟩
      · rw [nI_le' (by omega) (by omega)] at z; omega
      · rw [if_neg (bI_0.mp z), Int32.or_zero] at ih
        exact ih
      · rw [if_pos (bI_n.mp z)] at ih
        exact ih
    · intro τ ⟨_, hF⟩
      exact tX7_valuesThatFit_17 hA ⟨fun _ => ⟨_, rfl, rfl, hF⟩, fun z => absurd (Int32.le_refl _) z⟩
  exact loop 0 s0 (Nat.zero_le _) ⟨⟨wc (aW A) f k, by rw [setC_self]; exact hC0⟩, hF0⟩
theorem x7_wide (h : StX A σ) (ho : okA A) {k : Nat} (hk : k < wn (aW A)) : ∃ (v : Int32) (σ' : Hp), Call E mX7_valuesThatFit [.ref 0, .int (nI k), .ref 10, .int 10] σ (some (.int v)) σ' ∧ (v = bs (wiB (aW A) (aS A) k) 10 ∧ Fr sqX σ σ') := x7_values (f := 2) (N := 10) h ho ly10 (Or.inl ⟨rfl, rfl⟩) hk
theorem x7_sort (h : StX A σ) (ho : okA A) {k : Nat} (hk : k < wn (aW A)) : ∃ (v : Int32) (σ' : Hp), Call E mX7_valuesThatFit [.ref 0, .int (nI k), .ref 11, .int 3] σ (some (.int v)) σ' ∧ (v = bs (soB (aW A) (aS A) k) 3 ∧ Fr sqX σ σ') := x7_values (f := 3) (N := 3) h ho ly11 (Or.inr ⟨rfl, rfl⟩) hk
theorem x7_was (h : StX A σ) (ho : okA A) (k w : Int32) : AnsX E mX7_was [.ref 0, .int k, .int w] σ (waA (aW A) (aS A) k w) := by
  have hn : wn (aW A) ≤ 8 := (okA_W ho).1
  refine C_X7_was (tX7_was_0 ⟨_, _, x0_has isCpl2 h.cp _, fun z => ⟨_, rfl, (if_neg (fun y => bI_0.mp z y.1)).symm, Fr.rf⟩, fun q => ⟨_, _, x7_isWithin, fun q2 => ?_, fun z => ⟨_, rfl, (if_neg (fun y => bI_0.mp z y.2)).symm, Fr.rf⟩⟩⟩)
  have hA : waA (aW A) (aS A) k w = (if w = 0 then bs (wiB (aW A) (aS A) k.toNatClampNeg) 10 else bs (soB (aW A) (aS A) k.toNatClampNeg) 3) := if_pos ⟨bI_n.mp q, bI_n.mp q2⟩
  obtain ⟨k, hk, rfl⟩ := (isC_iff (by omega)).mp (bI_n.mp q)
  rw [cl (show k < 2147483648 by omega)] at hA
  rw [hA]
  refine ⟨fun z => ?_, fun z => ?_⟩
  · obtain ⟨v, s, hc, hv, hF⟩ := x7_sort (E := E) h ho hk
    exact ⟨_, _, hc, _, rfl, by rw [hv, if_neg z], hF⟩
  · obtain ⟨v, s, hc, hv, hF⟩ := x7_wide (E := E) h ho hk
    exact ⟨_, _, hc, _, rfl, by rw [hv, if_pos z], hF⟩
end XN
