/-! THE CLASS: the text heard -/
def sHe (c i : Nat) : Prop := (c = 0 ∧ i = 2) ∨ (2 ≤ c ∧ c ≤ 6)
section XH
variable {E : Ev} {σ : Hp} {A : AS}
theorem lp_all {P : Nat → Bool} {n : Nat} (h : ∀ j, j < n → P j = true) : lp P n = n := lp_eq (Nat.le_refl _) h (Or.inl rfl)
/-- what is kept of byte i -/
def kept (t : Nat → Nat) (i : Nat) (σ : Hp) : Prop := i % 5 < 4 → σ (3 + i % 5) (i / 5) = nI (cdS t (i % 5) (i / 5))
theorem x7_hearByte {t : Nat → Nat} {i : Nat} (hi : i < 39) (ht : t i ≤ 255) : ∃ (v : Int32) (σ' : Hp), Call E mX7_hearByte [.ref 0, .int (nI (i / 5)), .int (nI (i % 5)), .int (nI (t i))] σ (some (.int v)) σ' ∧ (v = bI (okB t i = true) ∧ (okB t i = true → kept t i σ') ∧ Fr (fun c j => c = 3 + i % 5 ∧ i % 5 < 4 ∧ j = i / 5) σ σ') := by
  have e5 : i = 5 * (i / 5) + i % 5 := by omega
  have es : ∀ j, j < 5 → (nI (i % 5) = nI j ↔ i % 5 = j) := fun j hj => nI_eq' (by omega) (by omega)
  have eb : ∀ j, j < 256 → (nI (t i) = nI j ↔ t i = j) := fun j hj => nI_eq' (by omega) (by omega)
  have hv : vp_in (nI (i / 5)) 8 := vin (by omega) (by decide)
  have ck : (nI (i / 5)).toNatClampNeg = i / 5 := cl (by omega)
  have okd : i % 5 < 3 → (okB t i = true ↔ 48 ≤ t i ∧ t i ≤ 57) := by
    intro h
    have := okB_dig (t := t) (n := i / 5) (j := i % 5) h
    rw [← e5] at this
    exact this
  -- a figure
  have fig : ∀ f, f < 3 → i % 5 = f → Ru E mX7_hearByte 138 [(0, .ref 0), (1, .int (nI (i / 5))), (2, .int (nI (i % 5))), (3, .int (nI (t i))), (4, .int (nI (t i) - 48))] [] (up σ (3 + f) (i / 5) (nI (t i) - 48)) (PI (fun v σ' => v = bI (okB t i = true) ∧ (okB t i = true → kept t i σ') ∧ Fr (fun c j => c = 3 + i % 5 ∧ i % 5 < 4 ∧ j = i / 5) σ σ')) := by
    intro f hf he
    have iff : (0 ≤ nI (t i) - 48 ∧ nI (t i) - 48 ≤ 9) ↔ okB t i = true := by
      rw [okd (by omega), Int32.le_iff_toInt_le, Int32.le_iff_toInt_le, show (48 : Int32) = nI 48 from rfl, pk_sub_toInt (by omega) (by decide), show (9 : Int32).toInt = 9 by decide, show (0 : Int32).toInt = 0 by decide]
      constructor <;> (intro z; constructor <;> omega)
    refine tX7_hearByte_138 ⟨_, _, x7_isWithin, bI_nar, _, rfl, bI_congr iff, fun hok _ => ?_, Fr.rf.up ⟨by rw [he], by omega, rfl⟩⟩
    have h48 := (okd (by omega)).mp hok
    rw [he, up_s, show (48 : Int32) = nI 48 from rfl, pk_sub h48.1]
    unfold cdS
    rw [if_neg (by omega), ← he, ← e5]
  refine C_X7_hearByte (tX7_hearByte_0 ?_)
  rw [ck]
  refine ⟨fun _ => ⟨fun z4 => ⟨fun z3 => ⟨fun z0 => ⟨fun z1 => ⟨hv, fig 2 (by decide) ?_⟩, fun z1 => ⟨hv, fig 1 (by decide) ((es 1 (by decide)).mp z1)⟩⟩, fun z0 => ⟨hv, fig 0 (by decide) ((es 0 (by decide)).mp z0)⟩⟩, fun z3 => ?_⟩, fun z4 => ?_⟩, fun z => ?_⟩
  · have h4 : i % 5 ≠ 4 := fun y => z4 ((es 4 (by decide)).mpr y)
    have h3 : i % 5 ≠ 3 := fun y => z3 ((es 3 (by decide)).mpr y)
    have h0 : i % 5 ≠ 0 := fun y => z0 ((es 0 (by decide)).mpr y)
    have h1 : i % 5 ≠ 1 := fun y => z1 ((es 1 (by decide)).mpr y)
    omega
  · have h3 := (es 3 (by decide)).mp z3
    have oks : okB t i = true ↔ t i = 115 ∨ t i = 108 ∨ t i = 98 := by
      have := okB_srt (t := t) (n := i / 5)
      rw [show 5 * (i / 5) + 3 = i by omega] at this
      exact this
    have e115 : nI (t i) = 115 ↔ t i = 115 := eb 115 (by decide)
    have e108 : nI (t i) = 108 ↔ t i = 108 := eb 108 (by decide)
    have e98 : nI (t i) = 98 ↔ t i = 98 := eb 98 (by decide)
    have kp : ∀ x : Nat, (t i = 115 ∨ t i = 108 ∨ t i = 98 → (if t i = 115 then 0 else if t i = 108 then 1 else 2) = x) → okB t i = true → kept t i (up σ 6 (i / 5) (nI x)) := by
      intro x hx hok _
      rw [h3, up_s]
      unfold cdS
      rw [if_pos rfl, show 5 * (i / 5) + 3 = i by omega, hx (oks.mp hok)]
    have fr : ∀ x : Int32, Fr (fun c j => c = 3 + i % 5 ∧ i % 5 < 4 ∧ j = i / 5) σ (up σ 6 (i / 5) x) := fun x => Fr.rf.up ⟨by omega, by omega, rfl⟩
    have yes : t i = 115 ∨ t i = 108 ∨ t i = 98 → (1 : Int32) = bI (okB t i = true) := fun y => (bI_t (oks.mpr y)).symm
    have no : ¬ (t i = 115 ∨ t i = 108 ∨ t i = 98) → (0 : Int32) = bI (okB t i = true) := fun y => (bI_f (fun z => y (oks.mp z))).symm
    rw [e115, e108, e98]
    have k0 : t i = 115 → okB t i = true → kept t i (up σ 6 (i / 5) 0) := fun z => kp 0 (fun _ => by rw [if_pos z])
    have k1 : t i = 108 → okB t i = true → kept t i (up σ 6 (i / 5) 1) := fun z => kp 1 (fun _ => by rw [if_neg (by omega), if_pos z])
    have k2 : ¬ t i = 115 → ¬ t i = 108 → okB t i = true → kept t i (up σ 6 (i / 5) 2) := fun z z' => kp 2 (fun _ => by rw [if_neg z, if_neg z'])
    refine ⟨fun a => ⟨fun b => ⟨hv, fun y => absurd y a, fun _ => ⟨fun y => absurd y b, fun _ => ⟨fun y => ⟨_, rfl, no (by omega), k2 a b, fr _⟩, fun y => ⟨_, rfl, yes (by omega), k2 a b, fr _⟩⟩⟩⟩, fun b => ⟨hv, fun y => absurd y a, fun _ => ⟨fun y => ⟨_, rfl, yes (by omega), k1 b, fr _⟩, fun y => absurd b y⟩⟩⟩, fun a => ⟨hv, fun _ => ⟨_, rfl, yes (by omega), k0 a, fr _⟩, fun y => absurd a y⟩⟩
  · have h4 := (es 4 (by decide)).mp z4
    have ok4 : okB t i = true ↔ t i = 59 := by
      have := okB_sem (t := t) (n := i / 5)
      rw [show 5 * (i / 5) + 4 = i by omega] at this
      exact this
    have e59 : nI (t i) = 59 ↔ t i = 59 := eb 59 (by decide)
    rw [e59]
    refine ⟨fun z => ⟨_, rfl, (bI_f (fun y => z (ok4.mp y))).symm, fun _ y => by omega, Fr.rf⟩, fun z => ⟨_, rfl, (bI_t (ok4.mpr z)).symm, fun _ y => by omega, Fr.rf⟩⟩
  · rw [show (8 : Int32) = nI 8 from rfl, nI_lt' (by omega) (by decide)] at z
    omega
theorem x7_hear {t : Nat → Nat} {n : Nat} (hn : n ≤ 39) (h1 : σ 0 1 = nI n) (h2 : ∀ i, i < n → t i ≤ 255 ∧ σ 1 i = nI (t i)) : ∃ σ' : Hp, Call E mX7_hear [.ref 0] σ none σ' ∧ (σ' 0 2 = fltS t n ∧ CpX 2 (cdS t) (ncS t n) σ' ∧ Fr sHe σ σ') := by
  refine C_X7_hear (tX7_hear_0 ?_)
  have kp1 : ∀ τ : Hp, Fr sHe σ τ → τ 0 1 = nI n := fun τ hF => (hF _ _ (by unfold sHe; omega)).trans h1
  -- a fault at place q
  have bad : ∀ q (τ : Hp) (x1 : Int32), q < 100 → Fr sHe σ τ → τ 0 2 = nI q → fltS t n = nI q → ncS t n = 0 → Ru E mX7_hear 86 [(0, .ref 0), (1, .int x1)] [] τ (PV (fun σ' => σ' 0 2 = fltS t n ∧ CpX 2 (cdS t) (ncS t n) σ' ∧ Fr sHe σ σ')) := by
    intro q τ x1 hq hF t2 hf hc
    refine tX7_hear_86 ?_
    rw [t2]
    refine ⟨fun _ => ⟨rfl, ?_, ?_, hF.up (by unfold sHe; omega)⟩, fun z => absurd z (nI_m1 (by omega))⟩
    · rw [up_c (by decide), hf]; exact t2
    · rw [hc]
      exact ⟨by rw [up_s]; rfl, fun k hk => absurd hk (Nat.not_lt_zero k)⟩
  have bad7 : ∀ q (τ : Hp) (x1 : Int32), q < 100 → Fr sHe σ τ → τ 0 2 = nI q → fltS t n = nI q → ncS t n = 0 → Ru E mX7_hear 7 [(0, .ref 0), (1, .int x1)] [] τ (PV (fun σ' => σ' 0 2 = fltS t n ∧ CpX 2 (cdS t) (ncS t n) σ' ∧ Fr sHe σ σ')) := by
    intro q τ x1 hq hF t2 hf hc
    have b := bad q τ x1 hq hF t2 hf hc
    have hne : ¬ τ 0 2 = -1 := by rw [t2]; exact nI_m1 (by omega)
    exact tX7_hear_7 ⟨fun _ => ⟨fun _ => b, fun z => absurd z hne⟩, fun _ => ⟨fun _ => ⟨fun _ => b, fun z => absurd z hne⟩, fun z => absurd z hne⟩⟩
  have loop : ∀ i (τ : Hp), i ≤ n → (Fr sHe σ τ ∧ τ 0 2 = -1 ∧ (∀ j, j < i → okB t j = true) ∧ (∀ j, j < i → kept t j τ)) → Ru E mX7_hear 7 [(0, .ref 0), (1, .int (nI i))] [] τ (PV (fun σ' => σ' 0 2 = fltS t n ∧ CpX 2 (cdS t) (ncS t n) σ' ∧ Fr sHe σ σ')) := by
    refine for_up n _ _ ?_ ?_
    · intro i τ hi ⟨hF, t2, hok, hkp⟩ ih
      have hi39 : i < 39 := by omega
      obtain ⟨v1, s1, hc1, rfl, hk1, hF1⟩ := x7_hearByte (E := E) (σ := τ) (t := t) hi39 (h2 i hi).1
      have hF1' : Fr sHe σ s1 := hF.tr (hF1.mono (fun c j z => by unfold sHe; omega))
      have t1i : τ 1 i = nI (t i) := (hF _ _ (by unfold sHe; omega)).trans (h2 i hi).2
      have er : nI i - nI i / 5 * 5 = nI (i % 5) := pk_rem (d := 5) (by omega) (by decide) (by decide)
      have ed : nI i / 5 = nI (i / 5) := pk_div (d := 5) (by omega) (by decide) (by decide)
      rw [ed] at er
      refine tX7_hear_7 ?_
      rw [kp1 τ hF, cl (show i < 2147483648 by omega), t1i, ed, er, nI_1 i]
      refine ⟨fun z => ?_, fun _ => ⟨fun z => absurd t2 z, fun _ => ⟨vin (by omega) (by decide), _, _, hc1, fun z => ?_, fun z => ?_⟩⟩⟩
      · rw [nI_le' (by omega) (by omega)] at z; omega
      · have hoki := bI_n.mp z
        refine ih s1 ⟨hF1', (hF1 _ _ (by omega)).trans t2, fun j hj => ?_, fun j hj hj4 => ?_⟩
        · rcases Nat.lt_or_ge j i with y | y
          · exact hok j y
          · rw [show j = i by omega]; exact hoki
        · rcases Nat.lt_or_ge j i with y | y
          · rw [hF1 (3 + j % 5) (j / 5) (by omega)]
            exact hkp j y hj4
          · rw [show j = i by omega] at hj4 ⊢
            exact hk1 hoki hj4
      · have hno : okB t i = false := eq_false_of_ne_true (bI_0.mp z)
        have hlp : lp (okB t) n = i := lp_eq (by omega) hok (Or.inr hno)
        refine bad7 i _ _ (by omega) (hF1'.up (by unfold sHe; omega)) up_s ?_ ?_
        · unfold fltS
          rw [hlp, if_pos hi]
        · unfold ncS
          rw [hlp, if_pos hi]
    · intro τ ⟨hF, t2, hok, hkp⟩
      have hlp : lp (okB t) n = n := lp_all hok
      have er : nI n - nI n / 5 * 5 = nI (n % 5) := pk_rem (d := 5) (by omega) (by decide) (by decide)
      -- a whole text
      have good : n = 0 ∨ n % 5 = 4 → Ru E mX7_hear 86 [(0, .ref 0), (1, .int (nI n))] [] τ (PV (fun σ' => σ' 0 2 = fltS t n ∧ CpX 2 (cdS t) (ncS t n) σ' ∧ Fr sHe σ σ')) := by
        intro hw
        have e1 : fltS t n = -1 := by
          unfold fltS
          rw [hlp, if_neg (Nat.lt_irrefl _), if_pos hw]
        have e2 : ncS t n = (n + 1) / 5 := by
          unfold ncS
          rw [hlp, if_neg (Nat.lt_irrefl _), if_pos hw]
        refine tX7_hear_86 ?_
        rw [t2, kp1 τ hF, nI_1, show (5 : Int32) = nI 5 from rfl, pk_div (by omega) (by decide) (by decide)]
        refine ⟨fun z => absurd rfl z, fun _ => ⟨rfl, ?_, ?_, hF.up (by unfold sHe; omega)⟩⟩
        · rw [up_c (by decide), t2, e1]
        · rw [e2]
          refine ⟨by rw [up_s], fun k hk f hf => ?_⟩
          have := hkp (5 * k + f) (by omega) (by omega)
          rw [show (5 * k + f) % 5 = f by omega, show (5 * k + f) / 5 = k by omega] at this
          by_cases z : f = 1 ∧ k = 4
          · rw [up_c (by omega)]; exact this
          · rw [up_c (by omega)]; exact this
      refine tX7_hear_7 ?_
      rw [kp1 τ hF, er]
      refine ⟨fun _ => ⟨fun z => absurd t2 z, fun _ => ⟨fun z => good ?_, fun z => ⟨fun z2 => good ?_, fun z2 => ?_⟩⟩⟩, fun z => absurd (Int32.le_refl _) z⟩
      · rw [show (0 : Int32) = nI 0 from rfl, nI_le' (by omega) (by decide)] at z
        omega
      · rw [show (4 : Int32) = nI 4 from rfl, nI_eq' (by omega) (by decide)] at z2
        exact Or.inr z2
      · rw [show (0 : Int32) = nI 0 from rfl, nI_le' (by omega) (by decide)] at z
        rw [show (4 : Int32) = nI 4 from rfl, nI_eq' (by omega) (by decide)] at z2
        have hw : ¬ (n = 0 ∨ n % 5 = 4) := by omega
        refine bad n _ _ (by omega) (hF.up (by unfold sHe; omega)) up_s ?_ ?_
        · unfold fltS
          rw [hlp, if_neg (Nat.lt_irrefl _), if_neg hw]
        · unfold ncS
          rw [hlp, if_neg (Nat.lt_irrefl _), if_neg hw]
  exact loop 0 _ (Nat.zero_le _) ⟨Fr.rf.up (by unfold sHe; omega), up_s, fun j hj => by omega, fun j hj => by omega⟩
/-- a text that has changed, heard -/
theorem StX.txt {t : Nat → Nat} {n : Nat} {τ τ' : Hp} (h : StX A σ) (hF : Fr (fun c i => (c = 0 ∧ i = 1) ∨ c = 1) σ τ) (hF2 : Fr sHe τ τ') (h1 : τ 0 1 = nI n) (h2 : ∀ i, i < n → τ 1 i = nI (t i)) (h3 : τ' 0 2 = fltS t n) (h4 : CpX 2 (cdS t) (ncS t n) τ') : StX (t, n, av A, am A, aS A, aH A) τ' := by
  obtain ⟨-, h5, h6, h7, h8⟩ := h
  have hF3 : Fr (fun c i => (c = 0 ∧ (i = 1 ∨ i = 2)) ∨ (1 ≤ c ∧ c ≤ 6)) σ τ' := (hF.mono (fun c i z => by omega)).tr (hF2.mono (fun c i z => by unfold sHe at z; omega))
  have k : ∀ c i, ¬ ((c = 0 ∧ (i = 1 ∨ i = 2)) ∨ (1 ≤ c ∧ c ≤ 6)) → τ' c i = σ c i := hF3
  refine ⟨⟨(hF2 _ _ (by unfold sHe; omega)).trans h1, fun i hi => (hF2 _ _ (by unfold sHe; omega)).trans (h2 i hi), h3, h4⟩, h5.fr hF3 (fun c i a b => by omega), h6.fr hF3 (fun c i a b => by omega), fun s hs => ?_, by rw [k _ _ (by omega)]; exact h8⟩
  obtain ⟨g1, g2, g3, g4⟩ := h7 s hs
  exact ⟨by rw [k _ _ (by omega)]; exact g1, by rw [k _ _ (by omega)]; exact g2, by rw [k _ _ (by omega)]; exact g3, fun i hi => by rw [k _ _ (by omega)]; exact g4 i hi⟩
theorem heX {σ τ τ' : Hp} (hF : Fr (fun c i => (c = 0 ∧ i = 1) ∨ c = 1) σ τ) (hF2 : Fr sHe τ τ') : Fr sX σ τ' := (hF.mono (fun c i z => by unfold sX; omega)).tr (hF2.mono (fun c i z => by unfold sHe at z; unfold sX; omega))
theorem x7_type (h : StX A σ) (ho : okA A) (b : Int32) : ActX E mX7_type [.ref 0, .int b] σ (aType A b) := by
  have h39 := ho.1
  have hx1 := h.1.1
  unfold aType
  refine C_X7_type (tX7_type_0 ⟨_, _, x7_isWithin, fun q => ?_, fun q => ⟨_, rfl, ?_⟩⟩)
  · have q := bI_n.mp q
    rw [if_pos q, hx1, show (39 : Int32) = nI 39 from rfl, nI_lt' (by omega) (by decide), cl (show an A < 2147483648 by omega), nI_1]
    refine ⟨fun z => ?_, fun z => ⟨_, rfl, ?_⟩⟩
    · rw [if_neg (by omega)]
      obtain ⟨j, hj, rfl⟩ := (inN_iff 255 (by decide)).mp q
      rw [cl (show j < 2147483648 by omega)]
      have hF : Fr (fun c i => (c = 0 ∧ i = 1) ∨ c = 1) σ (up (up σ 1 (an A) (nI j)) 0 1 (nI (an A + 1))) := (Fr.rf.up (Or.inr rfl)).up (Or.inl ⟨rfl, rfl⟩)
      have ht : ∀ i, i < an A + 1 → up (up σ 1 (an A) (nI j)) 0 1 (nI (an A + 1)) 1 i = nI (upN (at' A) (an A) j i) := by
        intro i hi
        rw [up_c (by decide)]
        unfold upN
        by_cases y : i = an A
        · rw [if_pos y, y, up_s]
        · rw [if_neg y, up_i y]
          exact h.1.2.1 i (by omega)
      have htb : ∀ i, i < an A + 1 → upN (at' A) (an A) j i ≤ 255 := by
        intro i hi
        unfold upN
        by_cases y : i = an A
        · rw [if_pos y]; exact hj
        · rw [if_neg y]
          exact ho.2.1 i (by omega)
      obtain ⟨s, hc, g2, g3, hF2⟩ := x7_hear (E := E) (t := upN (at' A) (an A) j) (n := an A + 1) (by omega) up_s (fun i hi => ⟨htb i hi, ht i hi⟩)
      refine ⟨vin z (by decide), s, hc, _, rfl, (hF2 _ _ (by unfold sHe; omega)).trans up_s, h.txt hF hF2 up_s ht g2 g3, heX hF hF2⟩
    · rw [if_pos (by omega)]
      exact ⟨rfl, h, Fr.rf⟩
  · rw [if_neg (bI_0.mp q)]
    exact ⟨rfl, h, Fr.rf⟩
theorem x7_cut (h : StX A σ) (ho : okA A) {n : Nat} (hn : n ≤ an A) : ∃ σ' : Hp, Call E mX7_hear [.ref 0] (up σ 0 1 (nI n)) none σ' ∧ (σ' 0 1 = nI n ∧ StX (at' A, n, av A, am A, aS A, aH A) σ' ∧ Fr sX σ σ') := by
  have h39 := ho.1
  have hF : Fr (fun c i => (c = 0 ∧ i = 1) ∨ c = 1) σ (up σ 0 1 (nI n)) := Fr.rf.up (Or.inl ⟨rfl, rfl⟩)
  have ht : ∀ i, i < n → up σ 0 1 (nI n) 1 i = nI (at' A i) := fun i hi => by rw [up_c (by decide)]; exact h.1.2.1 i (by omega)
  obtain ⟨s, hc, g2, g3, hF2⟩ := x7_hear (E := E) (t := at' A) (n := n) (by omega) up_s (fun i hi => ⟨ho.2.1 i (by omega), ht i hi⟩)
  exact ⟨s, hc, (hF2 _ _ (by unfold sHe; omega)).trans up_s, h.txt hF hF2 up_s ht g2 g3, heX hF hF2⟩
theorem x7_wipe (h : StX A σ) (ho : okA A) : ActX E mX7_wipe [.ref 0] σ (aWipe A) := by
  obtain ⟨s, hc, g1, g2, hF⟩ := x7_cut (E := E) h ho (n := 0) (Nat.zero_le _)
  exact C_X7_wipe (tX7_wipe_0 ⟨s, hc, _, rfl, h.1.1, g2, hF⟩)
theorem x7_undo (h : StX A σ) (ho : okA A) : ActX E mX7_undo [.ref 0] σ (aUndo A) := by
  have h39 := ho.1
  have e0 : nI (an A) = 0 ↔ an A = 0 := nI_eq' (show an A < 2147483648 by omega) (show 0 < 2147483648 by decide)
  unfold aUndo
  refine C_X7_undo (tX7_undo_0 ?_)
  rw [h.1.1]
  refine ⟨fun z => ?_, fun z => ⟨_, rfl, ?_⟩⟩
  · have hne : ¬ an A = 0 := fun y => z (e0.mpr y)
    rw [if_neg hne, show (1 : Int32) = nI 1 from rfl, pk_sub (show 1 ≤ an A by omega)]
    obtain ⟨s, hc, g1, g2, hF⟩ := x7_cut (E := E) h ho (n := an A - 1) (by omega)
    exact ⟨s, hc, _, rfl, g1, g2, hF⟩
  · rw [if_pos (e0.mp z)]
    exact ⟨rfl, h, Fr.rf⟩
end XH
