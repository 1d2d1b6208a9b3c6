/-! THE CLASS: live, against, the town -/
section XL
variable {E : Ev} {σ : Hp}
theorem x3_live {c c1 c2 : Nat} {W : Wo} {msk : Nat → Bool} {mk : Int32} {k d : Nat} (hc : IsRing c) (hc1 : IsCpl c1) (hc2 : IsEvt c2) (hne : ∀ f, f < 5 → c1 + f ≠ c) (hne2 : ∀ f, f < 6 → c2 + f ≠ c)
    (hW : okW W) (hC : CpX c1 (wc W) (wn W) σ) (hE : EvX c2 (we W) (wm W) σ) (hmk : ∀ e, e < wm W → bt mk e = msk e) (hk : k < wn W) (hd : d < 20) :
    ∃ σ' : Hp, Call E mX3_live [.ref c, .ref c1, .ref c2, .int mk, .int (nI k), .int (nI d)] σ none σ' ∧ (RgX c (rr W msk k d) σ' ∧ Fr (oc c) σ σ') := by
  have hn := hW.1
  have hm := hW.2.1
  obtain ⟨s0, hc0, hR0, hF0⟩ := x3_begin (E := E) hc hc1 (fun f hf => by have := hne (f + 1) (by omega); omega) hC hn hk
  refine C_X3_live (tX3_live_0 hc hc1 hc2 ⟨s0, hc0, ?_⟩)
  obtain ⟨hE1, hE2, o, p, ⟨hO1, hO2, hO3⟩, hE3⟩ := hE
  have ev : ∀ (τ : Hp), Fr (oc c) σ τ → (τ c2 5 = nI (wm W) ∧ (∀ e, e < wm W → ∀ f, f < 4 → τ (c2 + 1 + f) e = nI (we W f e)) ∧ ∀ i, i < wm W → τ (c2 + 5) i = nI (o i)) := by
    intro τ hF
    refine ⟨(hF _ _ (hne2 0 (by decide))).trans hE1, fun e he f hf => (hF _ _ (show ¬ c2 + 1 + f = c from fun y => hne2 (1 + f) (by omega) (by omega))).trans (hE2 e he f hf), fun i hi => (hF _ _ (hne2 5 (by decide))).trans (hE3 i hi)⟩
  have loop : ∀ i (τ : Hp), i ≤ wm W → (Fr (oc c) σ τ) → ∀ nx e0, nx ≤ d → e0 ≤ wm W → RgX c (upTo W msk k nx e0) τ → (∀ e, e < wm W → rel W msk k e → we W 1 e ≤ d → (p e < i ↔ (we W 1 e < nx ∨ (we W 1 e = nx ∧ e < e0)))) →
      Ru E mX3_live 13 [(0, .ref c), (1, .ref c1), (2, .ref c2), (3, .int mk), (4, .int (nI k)), (5, .int (nI d)), (6, .int (nI nx)), (7, .int (nI i))] [] τ (PV (fun σ' => RgX c (rr W msk k d) σ' ∧ Fr (oc c) σ σ')) := by
    refine for_up (wm W) (fun i τ => Fr (oc c) σ τ) (fun i τ => ∀ nx e0, nx ≤ d → e0 ≤ wm W → RgX c (upTo W msk k nx e0) τ → (∀ e, e < wm W → rel W msk k e → we W 1 e ≤ d → (p e < i ↔ (we W 1 e < nx ∨ (we W 1 e = nx ∧ e < e0)))) →
      Ru E mX3_live 13 [(0, .ref c), (1, .ref c1), (2, .ref c2), (3, .int mk), (4, .int (nI k)), (5, .int (nI d)), (6, .int (nI nx)), (7, .int (nI i))] [] τ (PV (fun σ' => RgX c (rr W msk k d) σ' ∧ Fr (oc c) σ σ'))) ?_ ?_
    · intro i τ hi hF ih nx e0 hnx he0 hR hI
      obtain ⟨g1, g2, g3⟩ := ev τ hF
      obtain ⟨ho, hpo⟩ := hO1 i hi
      obtain ⟨o0, o1, o2, o3⟩ := hW.2.2.2 (o i) ho
      have q1 : τ (c2 + 2) (o i) = nI (we W 1 (o i)) := g2 (o i) ho 1 (by decide)
      have q2 : τ (c2 + 3) (o i) = nI (we W 2 (o i)) := g2 (o i) ho 2 (by decide)
      refine tX3_live_13 hc hc1 hc2 ?_
      rw [g1, cl (show i < 2147483648 by omega), g3 i hi, cl (show o i < 2147483648 by omega), q1, q2, nI_1 i]
      -- an event that is none of its own
      have skip : ¬ (rel W msk k (o i) ∧ we W 1 (o i) ≤ d) → Ru E mX3_live 13 [(0, .ref c), (1, .ref c1), (2, .ref c2), (3, .int mk), (4, .int (nI k)), (5, .int (nI d)), (6, .int (nI nx)), (7, .int (nI (i + 1)))] [] τ (PV (fun σ' => RgX c (rr W msk k d) σ' ∧ Fr (oc c) σ σ')) := by
        intro hno
        refine ih τ hF nx e0 hnx he0 hR (fun e he hr hed => ?_)
        have hpe : p e ≠ i := fun y => hno (by rw [← y, (hO2 e he).2]; exact ⟨hr, hed⟩)
        rw [← hI e he hr hed]
        omega
      refine ⟨fun z => ?_, fun _ => ⟨vin (by omega) (by decide), vin (by omega) (by decide), fun z => skip (fun y => ?_), fun z => ⟨fun z2 => skip (fun y => ?_), fun z2 => ⟨fun z3 => skip (fun y => ?_), fun z3 => ?_⟩⟩⟩⟩
      · rw [nI_le' (by omega) (by omega)] at z; omega
      · rw [nI_lt' (by omega) (by omega)] at z; omega
      · exact z2 (by rw [y.1.1])
      · exact z3 (bt_t.mp (by rw [hmk _ ho]; exact y.1.2))
      · rw [nI_lt' (by omega) (by omega)] at z
        rw [nI_eq' (by omega) (by omega)] at z2
        have hrel : rel W msk k (o i) := ⟨z2, by rw [← hmk _ ho]; exact bt_t.mpr z3⟩
        have hle : ¬ (we W 1 (o i) < nx ∨ (we W 1 (o i) = nx ∧ o i < e0)) := fun y => by
          have := (hI (o i) ho hrel (by omega)).mpr y
          rw [hpo] at this
          omega
        have hnle : nx ≤ we W 1 (o i) := by omega
        have hjump := jump (W := W) (msk := msk) (d1 := nx) (e1 := e0) hW hk he0 (we W 1 (o i) - nx) (o i) (by omega) (by omega) (fun e he hr h1 h2 => by
          rw [show nx + (we W 1 (o i) - nx) = we W 1 (o i) by omega] at h2
          have hpe : p e < i := by
            rw [← hpo]
            exact (hO3 e (o i) he ho).mpr h2
          have := (hI e he hr (by omega)).mp hpe
          omega)
        rw [show nx + (we W 1 (o i) - nx) = we W 1 (o i) by omega] at hjump
        have hok : okR (upTo W msk k nx e0) := upTo_ok hW hk he0
        obtain ⟨s1, hk1, hR1, hF1⟩ := x3_goRound (E := E) (a := nx) (n := we W 1 (o i) - nx) hc hR hok (by omega)
        rw [upTo_s, ← hjump] at hR1
        rw [show nx + (we W 1 (o i) - nx) = we W 1 (o i) by omega] at hk1
        have hF1' := hF.tr hF1
        obtain ⟨g1', g2', g3'⟩ := ev s1 hF1'
        obtain ⟨s2, hk2, hR2, hF2⟩ := x3_undergo (E := E) (kd := we W 0 (o i)) (nu := we W 3 (o i)) hc hR1 (upTo_ok hW hk (by omega)) o0
        refine ⟨s1, hk1, s2, ?_, ?_⟩
        · rw [show s1 (c2 + 1) (o i) = nI (we W 0 (o i)) from g2' (o i) ho 0 (by decide), show s1 (c2 + 4) (o i) = nI (we W 3 (o i)) from g2' (o i) ho 3 (by decide)]
          exact hk2
        · rw [show s1 (c2 + 2) (o i) = nI (we W 1 (o i)) from g2' (o i) ho 1 (by decide)]
          have hR3 : RgX c (upTo W msk k (we W 1 (o i)) (o i + 1)) s2 := by
            have e : upTo W msk k (we W 1 (o i)) (o i + 1) = und (upTo W msk k (we W 1 (o i)) (o i)) (we W 0 (o i)) (we W 3 (o i)) := if_pos ⟨rfl, hrel.1, hrel.2⟩
            rw [e]
            exact hR2
          refine ih s2 (hF1'.tr hF2) _ (o i + 1) (by omega) (by omega) hR3 (fun e he hr hed => ?_)
          rcases Nat.lt_trichotomy (p e) i with y | y | y
          · have := (hO3 e (o i) he ho).mp (by rw [hpo]; exact y)
            exact ⟨fun _ => by omega, fun _ => by omega⟩
          · have : e = o i := by rw [← y, (hO2 e he).2]
            rw [this, hpo]
            exact ⟨fun _ => Or.inr ⟨rfl, by omega⟩, fun _ => by omega⟩
          · have := (hO3 (o i) e ho he).mp (by rw [hpo]; exact y)
            exact ⟨fun _ => by omega, fun _ => by omega⟩
    · intro τ hF nx e0 hnx he0 hR hI
      obtain ⟨g1, g2, g3⟩ := ev τ hF
      have hjump := jump (W := W) (msk := msk) (d1 := nx) (e1 := e0) hW hk he0 (d + 1 - nx) 0 (Nat.zero_le _) (by omega) (fun e he hr h1 h2 => by
        have := (hI e he hr (by omega)).mp (hO2 e he).1
        omega)
      rw [show nx + (d + 1 - nx) = d + 1 by omega] at hjump
      obtain ⟨s1, hk1, hR1, hF1⟩ := x3_goRound (E := E) (a := nx) (n := d + 1 - nx) hc hR (upTo_ok hW hk he0) (by omega)
      rw [upTo_s, ← hjump] at hR1
      rw [show nx + (d + 1 - nx) = d + 1 by omega] at hk1
      refine tX3_live_13 hc hc1 hc2 ⟨fun _ => ⟨s1, by rw [nI_1]; exact hk1, rfl, hR1, hF.tr hF1⟩, fun z => absurd (by rw [g1]; exact Int32.le_refl _) z⟩
  exact loop 0 s0 (Nat.zero_le _) hF0 0 0 (Nat.zero_le _) (Nat.zero_le _) hR0 (fun e he hr hed => by omega)
theorem x3_against {c c' : Nat} {r r' : Rg} (hc : IsRing c) (hc' : IsRing c') (h : RgX c r σ) (h' : RgX c' r' σ) (ho : okR r) (ho' : okR r') : Call E mX3_against [.ref c, .ref c'] σ (some (.int (nI (areS r r')))) σ := by
  obtain ⟨h0, h1, h2, h3, h4, h5, h6, h7⟩ := h
  obtain ⟨k0, k1, k2, k3, k4, k5, k6, k7⟩ := h'
  have hw := ho.1
  have hw' := ho'.1
  have ew : nI (gw r) = nI (gw r') ↔ gw r = gw r' := nI_eq' (show gw r < 2147483648 by omega) (show gw r' < 2147483648 by omega)
  have snd : ¬ ((gx r - gx r') * (gx r - gx r') + (gy r - gy r') * (gy r - gy r') = 0 ∧ gw r = gw r') → Ru E mX3_against 47 [(0, .ref c), (1, .ref c'), (2, .int (gx r - gx r')), (3, .int (gy r - gy r')), (4, .int ((gx r - gx r') * (gx r - gx r') + (gy r - gy r') * (gy r - gy r')))] [] σ (PE (some (.int (nI (areS r r')))) σ) := by
    intro hne
    unfold areS
    dsimp only
    rw [if_neg hne]
    refine tX3_against_47 hc hc' ?_
    rw [h2, k2]
    refine ⟨fun z => ?_, fun z => ⟨fun z2 => ⟨?_, rfl⟩, fun z2 => ⟨?_, rfl⟩⟩⟩
    · have z1 : ¬ (nI (gw r) + nI (gw r')) * (nI (gw r) + nI (gw r')) < (gx r - gx r') * (gx r - gx r') + (gy r - gy r') * (gy r - gy r') := Int32.lt_asymm z
      have z2 : ¬ (gx r - gx r') * (gx r - gx r') + (gy r - gy r') * (gy r - gy r') = (nI (gw r) + nI (gw r')) * (nI (gw r) + nI (gw r')) := fun y => by rw [y] at z; exact Int32.lt_irrefl z
      rw [if_neg z1, if_neg z2]
      refine ⟨fun z3 => ⟨?_, rfl⟩, fun z3 => ⟨fun z4 => ⟨?_, rfl⟩, fun z4 => ⟨?_, rfl⟩⟩⟩
      · rw [if_neg (Int32.lt_asymm z3), if_neg (fun y => by rw [y] at z3; exact Int32.lt_irrefl z3)]; rfl
      · rw [if_pos (Int32.lt_of_le_of_ne (Int32.not_lt.mp z3) z4)]; rfl
      · rw [if_neg (by rw [z4]; exact Int32.lt_irrefl), if_pos z4]; rfl
    · rw [if_pos (Int32.lt_of_le_of_ne (Int32.not_lt.mp z) (fun y => z2 y.symm))]; rfl
    · rw [if_neg (by rw [z2]; exact Int32.lt_irrefl), if_pos z2]; rfl
  refine K_X3_against (tX3_against_0 hc hc' ?_)
  rw [h0, k0, h1, k1, h2, k2, ew]
  refine ⟨fun z => snd (fun y => z y.1), fun z => ⟨fun z2 => snd (fun y => z2 y.2), fun z2 => ⟨?_, rfl⟩⟩⟩
  unfold areS
  dsimp only
  rw [if_pos ⟨z, z2⟩]
  rfl
theorem x3_isAny {c c' : Nat} {r r' : Rg} (hc : IsRing c) (hc' : IsRing c') (h : RgX c r σ) (h' : RgX c' r' σ) (ho : okR r) (ho' : okR r') (x : Int32) : Call E mX3_isAny [.ref c, .int x, .ref c'] σ (some (.int (bI (bt x (areS r r') = true)))) σ := by
  refine K_X3_isAny (tX3_isAny_0 hc hc' ⟨_, _, x3_against hc hc' h h' ho ho', fun z => ⟨?_, rfl⟩, fun z => ⟨?_, rfl⟩⟩)
  · rw [bI_f (fun y => z (bt_t.mp y))]
  · rw [bI_t (bt_t.mpr z)]
/-- the town holds rings R -/
def TwX (n : Nat) (R : Nat → Rg) (σ : Hp) : Prop := σ 29 1 = nI n ∧ ∀ k, k < n → RgX (31 + 1 * k) (R k) σ
def okT (n : Nat) (R : Nat → Rg) : Prop := n ≤ 8 ∧ ∀ k, k < n → okR (R k)
def sTw (c _i : Nat) : Prop := c = 29 ∨ (31 ≤ c ∧ c ≤ 38)
theorem okT_W {W : Wo} {msk : Nat → Bool} {d : Nat} (hW : okW W) : okT (wn W) (fun k => rr W msk k d) := ⟨hW.1, fun k hk => pre_ok hW hk (d + 1)⟩
theorem x6_behind {c1 c2 : Nat} {W : Wo} {msk : Nat → Bool} {mk : Int32} {d : Nat} (h1 : IsCpl c1 ∧ (c1 = 2 ∨ c1 = 7)) (h2 : IsEvt c2 ∧ (c2 = 12 ∨ c2 = 18))
    (hW : okW W) (hC : CpX c1 (wc W) (wn W) σ) (hE : EvX c2 (we W) (wm W) σ) (hmk : ∀ e, e < wm W → bt mk e = msk e) (hd : d < 20) :
    ∃ σ' : Hp, Call E mX6_behind [.ref 29, .ref c1, .ref c2, .int mk, .int (nI d)] σ none σ' ∧ (TwX (wn W) (fun k => rr W msk k d) σ' ∧ Fr sTw σ σ') := by
  have hn := hW.1
  obtain ⟨hc1, hv1⟩ := h1
  obtain ⟨hc2, hv2⟩ := h2
  have f0 : Fr sTw σ (up σ 29 1 (σ c1 4)) := Fr.rf.up (Or.inl rfl)
  refine C_X6_behind (tX6_behind_0 hc1 hc2 ?_)
  have loop : ∀ k (τ : Hp), k ≤ wn W → (τ 29 1 = nI (wn W) ∧ (∀ j, j < k → RgX (31 + 1 * j) (rr W msk j d) τ) ∧ Fr sTw σ τ) → Ru E mX6_behind 11 [(0, .ref 29), (1, .ref c1), (2, .ref c2), (3, .int mk), (4, .int (nI d)), (5, .int (nI k))] [] τ (PV (fun σ' => TwX (wn W) (fun k => rr W msk k d) σ' ∧ Fr sTw σ σ')) := by
    refine for_up (wn W) _ _ ?_ ?_
    · intro k τ hk ⟨hN, hJ, hF⟩ ih
      obtain ⟨s1, hk1, hR1, hF1⟩ := x3_live (E := E) (c := 31 + 1 * k) (d := d) (isRingN k (by omega)) hc1 hc2 (fun f hf => by omega) (fun f hf => by omega) hW (hC.fr hF (fun c i a b => by unfold sTw; omega)) (hE.fr hF (fun c i a b => by unfold sTw; omega)) hmk hk hd
      refine tX6_behind_11 hc1 hc2 ?_
      rw [hN, cl (show k < 2147483648 by omega), nI_1]
      refine ⟨fun z => ?_, fun _ => ⟨vin (by omega) (by decide), s1, hk1, ih s1 ⟨(hF1 _ _ (show ¬ 29 = 31 + 1 * k by omega)).trans hN, fun j hj => ?_, hF.tr (hF1.mono (fun c i z => by unfold oc at z; unfold sTw; omega))⟩⟩⟩
      · rw [nI_le' (by omega) (by omega)] at z; omega
      · rcases Nat.lt_or_ge j k with y | y
        · exact (hJ j y).fr hF1 (fun i hi => by unfold oc; omega)
        · rw [show j = k by omega]; exact hR1
    · intro τ ⟨hN, hJ, hF⟩
      exact tX6_behind_11 hc1 hc2 ⟨fun _ => ⟨rfl, ⟨hN, hJ⟩, hF⟩, fun z => absurd (by rw [hN]; exact Int32.le_refl _) z⟩
  exact loop 0 _ (Nat.zero_le _) ⟨by rw [up_s]; exact hC.1, fun j hj => by omega, f0⟩
theorem x6_isAny {n : Nat} {R : Nat → Rg} {a b : Nat} (hT : TwX n R σ) (ho : okT n R) (ha : a < n) (hb : b < n) (x : Int32) : Call E mX3_isAny [.ref (31 + 1 * a), .int x, .ref (31 + 1 * b)] σ (some (.int (bI (bt x (areS (R a) (R b)) = true)))) σ := by
  have hn := ho.1
  exact x3_isAny (isRingN a (by omega)) (isRingN b (by omega)) (hT.2 a ha) (hT.2 b hb) (ho.2 a ha) (ho.2 b hb) x
/-- what the class calls crossing, touching -/
theorem bt_cr : ∀ a, a < 6 → bt 4 a = decide (a = 2) := by decide +kernel
theorem bt_to : ∀ a, a < 6 → bt 10 a = (decide (a = 1) || decide (a = 3)) := by decide +kernel
def maskX (w : Nat) : Int32 := if w = 0 then 4 else 10
theorem bt_w {a w : Nat} (ha : a ≤ 5) (hw : w ≤ 1) : bt (maskX w) a = (if w = 0 then decide (a = 2) else (decide (a = 1) || decide (a = 3))) := by
  unfold maskX
  split
  · exact bt_cr a (by omega)
  · exact bt_to a (by omega)
theorem x6_closedPairs {n w : Nat} {R : Nat → Rg} (hT : TwX n R σ) (ho : okT n R) (hw : w ≤ 1) : Call E mX6_closedPairs [.ref 29, .int (maskX w)] σ (some (.int (nI (prS n R w)))) σ := by
  have hn := ho.1
  refine K_X6_closedPairs (tX6_closedPairs_0 ?_)
  have outer : ∀ a (u : Unit), a ≤ n → True → Ru E mX6_closedPairs 4 [(0, .ref 29), (1, .int (maskX w)), (2, .int (nI (sm (fun a => ct (fun b => decide (a < b) && isP w (R a) (R b)) n) a))), (3, .int (nI a))] [] σ (PE (some (.int (nI (prS n R w)))) σ) := by
    refine for_up n _ _ ?_ ?_
    · intro a _ ha _ iha
      have iha := iha () trivial
      unfold sm at iha
      generalize hS : sm (fun a => ct (fun b => decide (a < b) && isP w (R a) (R b)) n) a = S at iha ⊢
      have inner : ∀ b (u : Unit), b ≤ n → a < b → Ru E mX6_closedPairs 17 [(0, .ref 29), (1, .int (maskX w)), (2, .int (nI (S + ct (fun b => decide (a < b) && isP w (R a) (R b)) b))), (3, .int (nI a)), (4, .int (nI b))] [] σ (PE (some (.int (nI (prS n R w)))) σ) := by
        refine for_up n (fun b _ => a < b) _ ?_ ?_
        · intro b _ hb hab ih
          have ih := ih () (by omega)
          unfold ct at ih
          rw [decide_eq_true hab, Bool.true_and] at ih
          refine tX6_closedPairs_17 ?_
          rw [hT.1, cl (show a < 2147483648 by omega), cl (show b < 2147483648 by omega), nI_1 b, nI_1 a]
          have no : isP w (R a) (R b) = false → Ru E mX6_closedPairs 17 [(0, .ref 29), (1, .int (maskX w)), (2, .int (nI (S + ct (fun b => decide (a < b) && isP w (R a) (R b)) b))), (3, .int (nI a)), (4, .int (nI (b + 1)))] [] σ (PE (some (.int (nI (prS n R w)))) σ) := by
            intro h
            rw [h] at ih
            exact ih
          refine ⟨fun z => ?_, fun _ => ⟨vin (by omega) (by decide), _, _, x3_isClosed (isRingN a (by omega)) (hT.2 a ha) (ho.2 a ha), fun z => ?_, fun z => ⟨vin (by omega) (by decide), _, _, x3_isClosed (isRingN b (by omega)) (hT.2 b hb) (ho.2 b hb), fun z2 => no ?_, fun z2 => ⟨_, _, x6_isAny hT ho ha hb _, fun z3 => no ?_, fun z3 => ?_⟩⟩⟩⟩
          · rw [nI_le' (by omega) (by omega)] at z; omega
          · -- the outer one isn't closed: no pair of it counts
            have z := bI_0.mp z
            have hz : ∀ b', isP w (R a) (R b') = false := fun b' => by
              unfold isP
              rw [decide_eq_false z, Bool.false_and]
            have e1 : ∀ m, ct (fun b => decide (a < b) && isP w (R a) (R b)) m = 0 := fun m => ct_none (fun j _ => by rw [hz j, Bool.and_false])
            rw [e1 n] at iha
            rw [e1 b]
            exact iha
          · unfold isP
            rw [decide_eq_false (bI_0.mp z2), Bool.false_and, Bool.and_false]
          · have z3 := bI_0.mp z3
            rw [bt_w (areS_le _ _) hw] at z3
            unfold isP
            rw [eq_false_of_ne_true z3, Bool.and_false, Bool.and_false]
          · have z3 := bI_n.mp z3
            rw [bt_w (areS_le _ _) hw] at z3
            have : isP w (R a) (R b) = true := by
              unfold isP
              rw [decide_eq_true (bI_n.mp z), decide_eq_true (bI_n.mp z2), z3]
              rfl
            rw [this] at ih
            rw [nI_1]
            exact ih
        · intro _ hab
          refine tX6_closedPairs_17 ⟨fun _ => ?_, fun z => absurd (by rw [hT.1]; exact Int32.le_refl _) z⟩
          rw [nI_1]
          exact iha
      refine tX6_closedPairs_4 ⟨fun z => ?_, fun _ => ?_⟩
      · rw [hT.1, nI_le' (by omega) (by omega)] at z; omega
      · have := inner (a + 1) () ha (by omega)
        rw [ct_none (n := a + 1) (fun j hj => by rw [decide_eq_false (by omega), Bool.false_and]), Nat.add_zero] at this
        rw [nI_1]
        exact this
    · intro _ _
      exact tX6_closedPairs_4 ⟨fun _ => ⟨rfl, rfl⟩, fun z => absurd (by rw [hT.1]; exact Int32.le_refl _) z⟩
  exact outer 0 () (Nat.zero_le _) trivial
theorem x6_closedBits {n : Nat} {R : Nat → Rg} (hT : TwX n R σ) (ho : okT n R) : Call E mX6_closedBits [.ref 29] σ (some (.int (clS n R))) σ := by
  have hn := ho.1
  refine K_X6_closedBits (tX6_closedBits_0 ?_)
  have loop : ∀ k (u : Unit), k ≤ n → True → Ru E mX6_closedBits 4 [(0, .ref 29), (1, .int (bs (fun k => decide (ga (R k) = 4)) k)), (2, .int (nI k))] [] σ (PE (some (.int (clS n R))) σ) := by
    refine for_up n _ _ ?_ ?_
    · intro k _ hk _ ih
      have ih := ih () trivial
      unfold bs at ih
      refine tX6_closedBits_4 ?_
      rw [hT.1, cl (show k < 2147483648 by omega), nI_1]
      refine ⟨fun z => ?_, fun _ => ⟨vin (by omega) (by decide), _, _, x3_isClosed (isRingN k (by omega)) (hT.2 k hk) (ho.2 k hk), fun z => ?_, fun z => ?_⟩⟩
      · rw [nI_le' (by omega) (by omega)] at z; omega
      · rw [decide_eq_false (bI_0.mp z), if_neg (by decide), Int32.or_zero] at ih
        exact ih
      · rw [decide_eq_true (bI_n.mp z), if_pos rfl] at ih
        exact ih
    · intro _ _
      exact tX6_closedBits_4 ⟨fun _ => ⟨rfl, rfl⟩, fun z => absurd (by rw [hT.1]; exact Int32.le_refl _) z⟩
  exact loop 0 () (Nat.zero_le _) trivial
theorem x6_sighs {n : Nat} {R : Nat → Rg} (hT : TwX n R σ) (ho : okT n R) : Call E mX6_sighs [.ref 29] σ (some (.int (nI (sm (fun k => gi (R k)) n)))) σ := by
  have hn := ho.1
  refine K_X6_sighs (tX6_sighs_0 ?_)
  have loop : ∀ k (u : Unit), k ≤ n → True → Ru E mX6_sighs 4 [(0, .ref 29), (1, .int (nI (sm (fun k => gi (R k)) k))), (2, .int (nI k))] [] σ (PE (some (.int (nI (sm (fun k => gi (R k)) n)))) σ) := by
    refine for_up n _ _ ?_ ?_
    · intro k _ hk _ ih
      have ih := ih () trivial
      have e : sm (fun k => gi (R k)) (k + 1) = sm (fun k => gi (R k)) k + gi (R k) := rfl
      rw [e] at ih
      refine tX6_sighs_4 ?_
      rw [hT.1, cl (show k < 2147483648 by omega), nI_1, (hT.2 k hk).2.2.2.2.2.2.1, nI_add]
      refine ⟨fun z => ?_, fun _ => ⟨vin (by omega) (by decide), ih⟩⟩
      rw [nI_le' (by omega) (by omega)] at z; omega
    · intro _ _
      exact tX6_sighs_4 ⟨fun _ => ⟨rfl, rfl⟩, fun z => absurd (by rw [hT.1]; exact Int32.le_refl _) z⟩
  exact loop 0 () (Nat.zero_le _) trivial
end XL
