/-! THE REFERENCE: ask; ones; lowest -/
section MAK
variable {E : Ev} {σ : Hp}
theorem c8_askOf {t : Nat → Nat} {nb : Nat} {v : Nat → Nat → Nat} {m : Nat} {S : Sn} (hT : ToM t nb v m σ) (hS : okS S) (hSn : SnM S σ) {k : Nat} (hk : k < ncS t nb) :
    ∃ (v1 : Int32) (σ' : Hp), Call E mX8_askOf [.ref 53, .int (nI k)] σ (some (.int v1)) σ' ∧ (v1 = nI (aqS (woS t nb v m) S k) ∧ CpM t (ncS t nb) σ' ∧ Fr sP σ σ') := by
  have hW := woS_ok hT
  have hn : ncS t nb ≤ 8 := hW.1
  obtain ⟨v1, s, hc, rfl, hL, hCp, hF⟩ := c8_wideBy (E := E) hT hS hSn hk
  have okv : ∀ a, a < 10 → okW (setC (woS t nb v m) 2 k a) := fun a ha => setC_ok hW (by omega) (fun z => by omega)
  have hb : ∀ d, aqM (woS t nb v m) S k d ≤ 10 := fun d => mx_le (fun i _ => ct_le _ _)
  have hbit : ∀ a, a < 10 → bt (bs (wiB (woS t nb v m) S k) 10) a = wiB (woS t nb v m) S k a := fun a ha => bs_bt _ (by decide) ha
  refine C_X8_askOf (tX8_askOf_0 ⟨_, s, hc, ?_⟩)
  generalize hΨ : (fun (v1 : Int32) (σ' : Hp) => v1 = nI (aqS (woS t nb v m) S k) ∧ CpM t (ncS t nb) σ' ∧ Fr sP σ σ') = Ψ
  generalize hB : bs (wiB (woS t nb v m) S k) 10 = B at *
  -- the two inner loops
  have inner : ∀ (x3 x4 : Int32) (d : Nat), d < 20 → (∀ z, z = nI (aqM (woS t nb v m) S k d) → ∀ x7, (x3 = -1 → Ru E mX8_askOf 149 [(0, .ref 53), (1, .int (nI k)), (2, .int B), (3, .int x3), (4, .int x4), (5, .int (nI d)), (6, .int z), (7, .int x7)] [.int 1] s (PI Ψ)) ∧ (¬ x3 = -1 → (x4 ≤ z → Ru E mX8_askOf 149 [(0, .ref 53), (1, .int (nI k)), (2, .int B), (3, .int x3), (4, .int x4), (5, .int (nI d)), (6, .int z), (7, .int x7)] [.int 0] s (PI Ψ)) ∧ (¬ x4 ≤ z → Ru E mX8_askOf 149 [(0, .ref 53), (1, .int (nI k)), (2, .int B), (3, .int x3), (4, .int x4), (5, .int (nI d)), (6, .int z), (7, .int x7)] [.int 1] s (PI Ψ)))) →
      Ru E mX8_askOf 27 [(0, .ref 53), (1, .int (nI k)), (2, .int B), (3, .int x3), (4, .int x4), (5, .int (nI d)), (6, .int 0), (7, .int 0)] [] s (PI Ψ) := by
    intro x3 x4 d hd fin
    have la : ∀ a (u : Unit), a ≤ 10 → True → Ru E mX8_askOf 27 [(0, .ref 53), (1, .int (nI k)), (2, .int B), (3, .int x3), (4, .int x4), (5, .int (nI d)), (6, .int (nI (mx (fun a => ct (aqB (woS t nb v m) S k d a) 10) a))), (7, .int (nI a))] [] s (PI Ψ) := by
      refine for_up 10 _ _ ?_ ?_
      · intro a _ ha _ iha
        have lb : ∀ b (u : Unit), b ≤ 10 → True → Ru E mX8_askOf 40 [(0, .ref 53), (1, .int (nI k)), (2, .int B), (3, .int x3), (4, .int x4), (5, .int (nI d)), (6, .int (nI (mx (fun a => ct (aqB (woS t nb v m) S k d a) 10) a))), (7, .int (nI a)), (8, .int (nI (ct (aqB (woS t nb v m) S k d a) b))), (9, .int (nI b))] [] s (PI Ψ) := by
          refine for_up 10 _ _ ?_ ?_
          · intro b _ hb2 _ ihb
            have ihb := ihb () trivial
            unfold ct at ihb
            have no : aqB (woS t nb v m) S k d a b = false → Ru E mX8_askOf 40 [(0, .ref 53), (1, .int (nI k)), (2, .int B), (3, .int x3), (4, .int x4), (5, .int (nI d)), (6, .int (nI (mx (fun a => ct (aqB (woS t nb v m) S k d a) 10) a))), (7, .int (nI a)), (8, .int (nI (ct (aqB (woS t nb v m) S k d a) b) + 0)), (9, .int (nI b + 1))] [] s (PI Ψ) := by
              intro h
              rw [if_neg (by rw [h]; decide)] at ihb
              rw [Int32.add_zero, nI_1]
              exact ihb
            have ea : 20 * nI a + nI d = nI (20 * a + d) := by rw [show (20 : Int32) = nI 20 from rfl, pk_mul, nI_add]
            have eb : 20 * nI b + nI d = nI (20 * b + d) := by rw [show (20 : Int32) = nI 20 from rfl, pk_mul, nI_add]
            have hca := leg_bd (msk := allE) (okv a ha) hk (d + 1)
            have hcb := leg_bd (msk := allE) (okv b hb2) hk (d + 1)
            refine tX8_askOf_40 ⟨fun z => ?_, fun _ => ⟨_, _, c8_isIn, fun z => no ?_, fun z => ⟨_, _, c8_isIn, fun z2 => no ?_, fun z2 => ?_⟩⟩⟩
            · rw [show (10 : Int32) = nI 10 from rfl, nI_le' (by decide) (by omega)] at z; omega
            · have z := bI_0.mp z
              rw [hbit a ha] at z
              have z : wiB (woS t nb v m) S k a = false := by simpa using z
              unfold aqB
              rw [z, Bool.false_and]
            · have z2 := bI_0.mp z2
              rw [hbit b hb2] at z2
              have z2 : wiB (woS t nb v m) S k b = false := by simpa using z2
              unfold aqB
              rw [z2, Bool.false_and, Bool.and_false]
            · have z := bI_n.mp z
              rw [hbit a ha] at z
              have z2 := bI_n.mp z2
              rw [hbit b hb2] at z2
              rw [ea, eb, cl (show 20 * a + d < 2147483648 by omega), cl (show 20 * b + d < 2147483648 by omega), hL a ha d hd, hL b hb2 d hd, code_eq hca.1 hca.2 hcb.1 hcb.2]
              refine ⟨vin (by omega) (by decide), vin (by omega) (by decide), fun z3 => no ?_, fun z3 => ?_⟩
              · unfold aqB sameL
                rw [z, z2, Bool.true_and, Bool.true_and, ← Bool.decide_and]
                exact decide_eq_false z3
              · have : aqB (woS t nb v m) S k d a b = true := by
                  unfold aqB sameL
                  rw [z, z2, Bool.true_and, Bool.true_and, ← Bool.decide_and]
                  exact decide_eq_true z3
                rw [if_pos this] at ihb
                rw [nI_1, nI_1]
                exact ihb
          · intro _ _
            have iha := iha () trivial
            unfold mx at iha
            have hc1 := ct_le (aqB (woS t nb v m) S k d a) 10
            have hm1 : mx (fun a => ct (aqB (woS t nb v m) S k d a) 10) a ≤ 10 := mx_le (fun i _ => ct_le _ _)
            refine tX8_askOf_40 ⟨fun _ => ⟨fun z => ?_, fun z => ?_⟩, fun z => absurd (by decide) z⟩
            · rw [nI_le' (by omega) (by omega)] at z
              rw [if_neg (by omega)] at iha
              rw [nI_1]
              exact iha
            · rw [nI_le' (by omega) (by omega)] at z
              rw [if_pos (by omega)] at iha
              rw [nI_1]
              exact iha
        refine tX8_askOf_27 ⟨fun z => ?_, fun _ => lb 0 () (Nat.zero_le _) trivial⟩
        rw [show (10 : Int32) = nI 10 from rfl, nI_le' (by decide) (by omega)] at z; omega
      · intro _ _
        exact tX8_askOf_27 ⟨fun _ => fin _ rfl _, fun z => absurd (by decide) z⟩
    exact la 0 () (Nat.zero_le _) trivial
  have loop : ∀ d (u : Unit), d ≤ 19 → True → Ru E mX8_askOf 14 [(0, .ref 53), (1, .int (nI k)), (2, .int B), (3, .int (nI (arg ltB (aqM (woS t nb v m) S k) d).1)), (4, .int (nI (arg ltB (aqM (woS t nb v m) S k) d).2)), (5, .int (nI (d + 1)))] [] s (PI Ψ) := by
    refine for_up 19 _ _ ?_ ?_
    · intro d _ hd _ ih
      have ih := ih () trivial
      unfold arg at ih
      have ha := arg_le ltB (aqM (woS t nb v m) S k) d
      have hab := arg_b (lt := ltB) (n := d) (fun j _ => hb j)
      have hbd := hb (d + 1)
      refine tX8_askOf_14 ⟨fun z => ?_, fun _ => inner _ _ (d + 1) (by omega) (fun z hz x7 => ⟨fun y => ?_, fun _ => ⟨fun y => ?_, fun y => ?_⟩⟩)⟩
      · rw [show (20 : Int32) = nI 20 from rfl, nI_le' (by decide) (by omega)] at z; omega
      · have y := congrArg Int32.toInt y
        rw [nI_toInt (by omega), show (-1 : Int32).toInt = -1 by decide] at y
        omega
      · subst hz
        rw [nI_le' (by omega) (by omega)] at y
        rw [if_neg (by rw [ltB_t]; omega)] at ih
        refine tX8_askOf_149 ⟨fun _ => ⟨fun _ => ?_, fun q => absurd rfl q⟩, fun q => absurd rfl q⟩
        rw [nI_1]
        exact ih
      · subst hz
        rw [nI_le' (by omega) (by omega)] at y
        rw [if_pos (by rw [ltB_t]; omega)] at ih
        refine tX8_askOf_149 ⟨fun q => absurd q (by decide), fun _ => ⟨fun q => absurd q (by decide), fun _ => ?_⟩⟩
        rw [nI_1]
        exact ih
    · intro _ _
      subst hΨ
      exact tX8_askOf_14 ⟨fun _ => ⟨_, rfl, rfl, hCp, hF⟩, fun z => absurd (by decide) z⟩
  refine tX8_askOf_14 ⟨fun z => absurd z (by decide), fun _ => inner (-1) 0 0 (by decide) (fun z hz x7 => ⟨fun _ => ?_, fun y => absurd rfl y⟩)⟩
  subst hz
  refine tX8_askOf_149 ⟨fun q => absurd q (by decide), fun _ => ⟨fun q => absurd q (by decide), fun _ => ?_⟩⟩
  exact loop 0 () (Nat.zero_le _) trivial
theorem c8_ask {t : Nat → Nat} {nb : Nat} {v : Nat → Nat → Nat} {m : Nat} {S : Sn} (hT : ToM t nb v m σ) (hS : okS S) (hSn : SnM S σ) (k : Int32) :
    ∃ (v1 : Int32) (σ' : Hp), Call E mX8_ask [.ref 53, .int k] σ (some (.int v1)) σ' ∧ (v1 = aqA (woS t nb v m) S k ∧ Fr sP σ σ') := by
  have hn : ncS t nb ≤ 8 := (woS_ok hT).1
  obtain ⟨v1, s1, hc1, rfl, hF1, -⟩ := isC8 (E := E) hT k
  have hF1' : Fr sP σ s1 := hF1.mono (fun c i h => sQP h)
  refine C_X8_ask (tX8_ask_0 ⟨_, _, hc1, fun q => ⟨_, rfl, ?_, hF1'⟩, fun q => ?_⟩)
  · exact (if_neg (bI_0.mp q)).symm
  · have q := bI_n.mp q
    have hA : aqA (woS t nb v m) S k = nI (aqS (woS t nb v m) S k.toNatClampNeg) := if_pos q
    obtain ⟨k, hk, rfl⟩ := (isC_iff (by omega)).mp q
    rw [cl (by omega)] at hA
    obtain ⟨v3, s3, hc3, h3, -, hF3⟩ := c8_askOf (E := E) (hT.fr hF1) hS (hSn.fr hF1 sQ_sn) hk
    exact ⟨_, _, hc3, _, rfl, by rw [hA, h3], hF1'.tr hF3⟩
theorem c8_ones {x : Int32} : Call E mX8_ones [.ref 53, .int x] σ (some (.int (nI (ct (fun k => bt x k) 8)))) σ := by
  refine K_X8_ones (tX8_ones_0 ?_)
  have loop : ∀ k (u : Unit), k ≤ 8 → True → Ru E mX8_ones 4 [(0, .ref 53), (1, .int x), (2, .int (nI (ct (fun k => bt x k) k))), (3, .int (nI k))] [] σ (PE (some (.int (nI (ct (fun k => bt x k) 8)))) σ) := by
    refine for_up 8 _ _ ?_ ?_
    · intro k _ hk _ ih
      have ih := ih () trivial
      unfold ct at ih
      refine tX8_ones_4 ⟨fun z => ?_, fun _ => ⟨_, _, c8_isIn, fun z => ?_, fun z => ?_⟩⟩
      · rw [show (8 : Int32) = nI 8 from rfl, nI_le' (by decide) (by omega)] at z; omega
      · rw [if_neg (bI_0.mp z)] at ih
        rw [Int32.add_zero, nI_1]
        exact ih
      · rw [if_pos (bI_n.mp z)] at ih
        rw [nI_1, nI_1]
        exact ih
    · intro _ _
      exact tX8_ones_4 ⟨fun _ => ⟨rfl, rfl⟩, fun z => absurd (by decide) z⟩
  exact loop 0 () (Nat.zero_le _) trivial
end MAK
