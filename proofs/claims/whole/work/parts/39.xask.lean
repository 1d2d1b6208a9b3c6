/-! THE CLASS: ask, holes -/
section XK
variable {E : Ev} {σ : Hp} {A : AS}
theorem aqM_eq {W : Wo} {S : Sn} {k d : Nat} : aqM W S k d = mx (fun a => if wiB W S k a = true then ct (sameB (wiB W S k) (fun v => lgx (rr (setC W 2 k v) allE k d)) (fun v => lgy (rr (setC W 2 k v) allE k d)) a) 10 else 0) 10 := by
  unfold aqM
  refine congrArg (fun f => mx f 10) ?_
  funext a
  by_cases z : wiB W S k a = true
  · rw [if_pos z]
    refine ct_congr (fun b _ => ?_)
    unfold aqB sameB sameL
    rw [z, Bool.true_and]
    congr 1
    congr 1
    · exact decide_eq_decide.mpr ⟨fun y => y.symm, fun y => y.symm⟩
    · exact decide_eq_decide.mpr ⟨fun y => y.symm, fun y => y.symm⟩
  · rw [if_neg z]
    refine ct_none (fun b _ => ?_)
    unfold aqB
    rw [eq_false_of_ne_true z, Bool.false_and]
theorem x7_mostAlike (h : StX A σ) (ho : okA A) {k d : Nat} (hk : k < wn (aW A)) (hd : d < 20) : ∃ (v : Int32) (σ' : Hp), Call E mX7_mostAlike [.ref 0, .int (nI k), .int (bs (wiB (aW A) (aS A) k) 10), .int (nI d)] σ (some (.int v)) σ' ∧ (v = nI (aqM (aW A) (aS A) k d) ∧ Fr sqX σ σ') := by
  have hW := okA_W ho
  have hn : wn (aW A) ≤ 8 := hW.1
  obtain ⟨s0, hc0, hC0, hF0⟩ := x0_setTo (E := E) h.cp hn
  obtain ⟨s1, hc1, hP1, hF1⟩ := x2_clear (E := E) (σ := s0) (g := wiB (aW A) (aS A) k) (X := fun v => lgx (rr (setC (aW A) 2 k v) allE k d)) (Y := fun v => lgy (rr (setC (aW A) 2 k v) allE k d))
  have hF1' := (hF0.mono (fun c i z => s7_q z)).tr (hF1.mono (fun c i z => sPl_q z))
  have hbit : ∀ a, a < 10 → bt (bs (wiB (aW A) (aS A) k) 10) a = wiB (aW A) (aS A) k a := fun a ha => bs_bt _ (by decide) ha
  rw [aqM_eq]
  generalize hg : wiB (aW A) (aS A) k = g at *
  refine C_X7_mostAlike (tX7_mostAlike_0 ⟨s0, hc0, s1, hc1, ?_⟩)
  have loop : ∀ v (τ : Hp), v ≤ 10 → ((∃ x, CpX 7 (wc (setC (aW A) 2 k x)) (wn (aW A)) τ) ∧ PlX v g (fun v => lgx (rr (setC (aW A) 2 k v) allE k d)) (fun v => lgy (rr (setC (aW A) 2 k v) allE k d)) τ ∧ Fr sqX σ τ) → Ru E mX7_mostAlike 21 [(0, .ref 0), (1, .int (nI k)), (2, .int (bs g 10)), (3, .int (nI d)), (4, .int (nI v))] [] τ (PI (fun v σ' => v = nI (mx (fun a => if g a = true then ct (sameB g (fun v => lgx (rr (setC (aW A) 2 k v) allE k d)) (fun v => lgy (rr (setC (aW A) 2 k v) allE k d)) a) 10 else 0) 10) ∧ Fr sqX σ σ')) := by
    refine for_up 10 _ _ ?_ ?_
    · intro v τ hv ⟨⟨x, hx⟩, hP, hF⟩ ih
      refine tX7_mostAlike_21 ⟨fun z => ?_, fun _ => ⟨fun z => ?_, fun z => ?_⟩⟩
      · rw [show (10 : Int32) = nI 10 from rfl, nI_le' (by decide) (by omega)] at z; omega
      · have hgv : g v = false := by
          rw [← hbit v hv]
          exact bt_f.mpr z
        rw [nI_1]
        exact ih τ ⟨⟨x, hx⟩, hP.skip hgv, hF⟩
      · have hgv : g v = true := by
          rw [← hbit v hv]
          exact bt_t.mpr z
        have hC : CpX 7 (wc (setC (aW A) 2 k v)) (wn (aW A)) (up τ 10 k (nI v)) := by
          have := hx.set (f := 2) (k := k) (x := v) (by decide)
          rw [setC_setC] at this
          exact this
        have hu : Fr (oc 10) τ (up τ 10 k (nI v)) := ocu Fr.rf
        have hFu : Fr sqX σ (up τ 10 k (nI v)) := hF.tr (hu.mono (fun c i z => by unfold oc at z; unfold sqX; omega))
        have hW' : okW (setC (aW A) 2 k v) := setC_ok hW (by omega) (fun z => by omega)
        obtain ⟨s3, hc3, hR3, hF3⟩ := x3_live (E := E) (c := 39) (d := d) (msk := allE) (mk := allI (am A)) (W := setC (aW A) 2 k v) (k := k) isRing39 isCpl7 isEvt12 (fun f hf => by omega) (fun f hf => by omega) hW' hC (h.q hFu).ev (fun e he => bt_all ho.2.2.1 he) hk hd
        have hok : okR (rr (setC (aW A) 2 k v) allE k d) := pre_ok hW' hk _
        have hP3 := (hP.fr hu (fun c i a b => by unfold oc; omega)).fr hF3 (fun c i a b => by unfold oc; omega)
        obtain ⟨s4, hc4, hP4, hF4⟩ := x2_mark (E := E) hP3 (by omega) hgv (Nat.le_trans (ct_le _ _) (by omega))
        rw [cl (show k < 2147483648 by omega), nI_1]
        refine ⟨vin (by omega) (by decide), _, _, x1_all isEvt12 (h.q hFu).ev ho.2.2.1, s3, hc3, _, _, x3_legX isRing39 hR3 hok, _, _, x3_legY isRing39 hR3 hok, s4, hc4, ih s4 ⟨⟨v, (hC.fr hF3 (fun c i a b => by unfold oc; omega)).fr hF4 (fun c i a b => by unfold sPl; omega)⟩, hP4, (hFu.tr (hF3.mono (fun c i z => oc_q z))).tr (hF4.mono (fun c i z => sPl_q z))⟩⟩
    · intro τ ⟨_, hP, hF⟩
      exact tX7_mostAlike_21 ⟨fun _ => ⟨_, _, x2_mostMarks hP (by decide) (Nat.le_trans (ct_le _ _) (by decide)), _, rfl, rfl, hF⟩, fun z => absurd (by decide) z⟩
  exact loop 0 s1 (Nat.zero_le _) ⟨⟨wc (aW A) 2 k, by rw [setC_self]; exact hC0.fr hF1 (fun c i a b => by unfold sPl; omega)⟩, hP1, hF1'⟩
theorem x7_ask (h : StX A σ) (ho : okA A) (k : Int32) : AnsX E mX7_ask [.ref 0, .int k] σ (aqA (aW A) (aS A) k) := by
  have hn : wn (aW A) ≤ 8 := (okA_W ho).1
  refine C_X7_ask (tX7_ask_0 ⟨_, _, x0_has isCpl2 h.cp _, fun q => ?_, fun z => ⟨_, rfl, (if_neg (bI_0.mp z)).symm, Fr.rf⟩⟩)
  have hA : aqA (aW A) (aS A) k = nI (aqS (aW A) (aS A) k.toNatClampNeg) := if_pos (bI_n.mp q)
  obtain ⟨k, hk, rfl⟩ := (isC_iff (by omega)).mp (bI_n.mp q)
  rw [cl (show k < 2147483648 by omega)] at hA
  rw [hA]
  obtain ⟨v0, s0, hc0, rfl, hF0⟩ := x7_wide (E := E) h ho hk
  refine ⟨_, _, hc0, ?_⟩
  have hb : ∀ d, aqM (aW A) (aS A) k d ≤ 10 := fun d => mx_le (fun i _ => ct_le _ _)
  generalize hΨ : (fun (v : Int32) (σ' : Hp) => v = nI (aqS (aW A) (aS A) k) ∧ Fr sqX σ σ') = Ψ
  have step : ∀ d (τ : Hp) (x3 x4 : Int32), d < 20 → Fr sqX σ τ → (∀ τ' : Hp, Fr sqX σ τ' →
      (x4 ≤ nI (aqM (aW A) (aS A) k d) → Ru E mX7_ask 38 [(0, .ref 0), (1, .int (nI k)), (2, .int (bs (wiB (aW A) (aS A) k) 10)), (3, .int x3), (4, .int x4), (5, .int (nI (d + 1)))] [] τ' (PI Ψ)) ∧
      (¬ x4 ≤ nI (aqM (aW A) (aS A) k d) → Ru E mX7_ask 38 [(0, .ref 0), (1, .int (nI k)), (2, .int (bs (wiB (aW A) (aS A) k) 10)), (3, .int (nI d)), (4, .int (nI (aqM (aW A) (aS A) k d))), (5, .int (nI (d + 1)))] [] τ' (PI Ψ))) →
      Ru E mX7_ask 38 [(0, .ref 0), (1, .int (nI k)), (2, .int (bs (wiB (aW A) (aS A) k) 10)), (3, .int x3), (4, .int x4), (5, .int (nI d))] [] τ (PI Ψ) := by
    intro d τ x3 x4 hd hF next
    obtain ⟨v1, s1, hc1, rfl, hF1⟩ := x7_mostAlike (E := E) (h.q hF) ho hk hd
    have nx := next s1 (hF.tr hF1)
    refine tX7_ask_38 ?_
    rw [nI_1]
    refine ⟨fun z => ?_, fun _ => ⟨_, _, hc1, nx.1, nx.2⟩⟩
    rw [show (20 : Int32) = nI 20 from rfl, nI_le' (by decide) (by omega)] at z; omega
  have loop : ∀ d (τ : Hp), d ≤ 19 → Fr sqX σ τ → Ru E mX7_ask 38 [(0, .ref 0), (1, .int (nI k)), (2, .int (bs (wiB (aW A) (aS A) k) 10)), (3, .int (nI (arg ltB (aqM (aW A) (aS A) k) d).1)), (4, .int (nI (arg ltB (aqM (aW A) (aS A) k) d).2)), (5, .int (nI (d + 1)))] [] τ (PI Ψ) := by
    refine for_up 19 _ _ ?_ ?_
    · intro d τ hd hF ih
      have hb1 := hb (d + 1)
      have hab := arg_b (lt := ltB) (f := aqM (aW A) (aS A) k) (n := d) (b := 10) (fun j _ => hb j)
      refine step (d + 1) τ _ _ (by omega) hF (fun τ' hF' => ⟨fun z => ?_, fun z => ?_⟩)
      · have ih := ih τ' hF'
        unfold arg at ih
        rw [nI_le' (by omega) (by omega)] at z
        rw [if_neg (by rw [ltB_t]; omega)] at ih
        exact ih
      · have ih := ih τ' hF'
        unfold arg at ih
        rw [nI_le' (by omega) (by omega)] at z
        rw [if_pos (by rw [ltB_t]; omega)] at ih
        exact ih
    · intro τ hF
      subst hΨ
      exact tX7_ask_38 ⟨fun _ => ⟨_, rfl, rfl, hF⟩, fun z => absurd (by decide) z⟩
  refine step 0 s0 0 11 (by decide) hF0 (fun τ' hF' => ⟨fun z => ?_, fun _ => loop 0 τ' (Nat.zero_le _) hF'⟩)
  have hb0 := hb 0
  rw [show (11 : Int32) = nI 11 from rfl, nI_le' (by decide) (by omega)] at z
  omega
/-! holes: there is room -/
theorem ct_or {P Q R : Nat → Bool} : ∀ {n : Nat}, (∀ i, i < n → P i = true → Q i = true ∨ R i = true) → ct P n ≤ ct Q n + ct R n
  | 0, _ => Nat.zero_le _
  | n + 1, h => by
    have ih := ct_or (P := P) (Q := Q) (R := R) (n := n) (fun i hi => h i (by omega))
    have hn := h n (by omega)
    unfold ct
    by_cases p : P n = true
    · rcases hn p with q | q
      · rw [if_pos p, if_pos q]
        omega
      · rw [if_pos p, if_pos q]
        omega
    · rw [if_neg p]
      omega
theorem ct_one {c : Nat} : ∀ n, ct (fun p => decide (p = c)) n ≤ (if c < n then 1 else 0)
  | 0 => Nat.zero_le _
  | n + 1 => by
    have ih := ct_one (c := c) n
    show ct (fun p => decide (p = c)) n + (if decide (n = c) = true then 1 else 0) ≤ _
    by_cases z : n = c
    · rw [if_neg (by omega)] at ih
      rw [if_pos (decide_eq_true z), if_pos (by omega)]
      omega
    · rw [if_neg (by rw [decide_eq_false z]; decide)]
      by_cases y : c < n
      · rw [if_pos y] at ih
        rw [if_pos (by omega)]; omega
      · rw [if_neg y] at ih
        omega
theorem ct_img {h : Nat → Nat} {N : Nat} : ∀ m, ct (fun p => decide (∃ e, e < m ∧ p = h e)) N ≤ m
  | 0 => by rw [ct_none (fun i _ => decide_eq_false (fun z => by obtain ⟨e, he, _⟩ := z; omega))]; exact Nat.le_refl _
  | m + 1 => by
    have ih := ct_img (h := h) (N := N) m
    have h1 := ct_one (c := h m) N
    have h2 := ct_or (P := fun p => decide (∃ e, e < m + 1 ∧ p = h e)) (Q := fun p => decide (∃ e, e < m ∧ p = h e)) (R := fun p => decide (p = h m)) (n := N) (fun i _ z => by
      obtain ⟨e, he, hh⟩ := decide_eq_true_iff.mp z
      by_cases y : e = m
      · exact Or.inr (decide_eq_true (by rw [← y]; exact hh))
      · exact Or.inl (decide_eq_true ⟨e, by omega, hh⟩))
    split at h1 <;> omega
theorem ct_lo {n : Nat} : ∀ N, ct (fun p => decide (p < n)) N ≤ n
  | 0 => Nat.zero_le _
  | N + 1 => by
    have ih := ct_lo (n := n) N
    have := ct_le (fun p => decide (p < n)) N
    show ct (fun p => decide (p < n)) N + (if decide (N < n) = true then 1 else 0) ≤ _
    by_cases z : N < n
    · rw [if_pos (decide_eq_true z)]; omega
    · rw [if_neg (by rw [decide_eq_false z]; decide)]; omega
theorem trn_xy (r : Rg) (q : Nat) : gx (trn r q) = gx r ∧ gy (trn r q) = gy r := by
  unfold trn
  split <;> exact ⟨rfl, rfl⟩
theorem still {W : Wo} {msk : Nat → Bool} {k d : Nat} (h : ∀ e, e < wm W → ¬ (we W 1 e = d ∧ we W 2 e = k)) : gx (pre W msk k (d + 1)) = gx (pre W msk k d) ∧ gy (pre W msk k (d + 1)) = gy (pre W msk k d) := by
  have e : evs (we W) msk d k (wm W) (pre W msk k d) = pre W msk k d := evs_skip (e0 := 0) (wm W) (Nat.zero_le _) (fun e _ he z => h e he ⟨z.1, z.2.1⟩)
  show gx (goes (evs (we W) msk d k (wm W) (pre W msk k d)) d) = _ ∧ gy (goes (evs (we W) msk d k (wm W) (pre W msk k d)) d) = _
  rw [e]
  exact trn_xy _ _
def hg (n p : Nat) : Bool := decide (p % 8 < n)
def hX (W : Wo) (p : Nat) : Int32 := gx (rr W allE (p % 8) (p / 8))
def hY (W : Wo) (p : Nat) : Int32 := gy (rr W allE (p % 8) (p / 8))
theorem ho_nw (W : Wo) (p : Nat) : (decide (p % 8 < wn W) && hNew (wn W) (rr W allE) p) = nwB (hg (wn W)) (hX W) (hY W) p := by
  unfold nwB hNew hg
  refine congrArg (fun b => decide (p % 8 < wn W) && b) ?_
  refine decide_eq_decide.mpr ⟨fun y q hq z => y q hq ⟨decide_eq_true_iff.mp z.1, ?_⟩, fun y q hq z => y q hq ⟨decide_eq_true z.1, ?_⟩⟩
  · unfold hSame
    rw [← Bool.decide_and]
    exact decide_eq_true z.2
  · have := z.2
    unfold hSame at this
    rw [← Bool.decide_and] at this
    exact decide_eq_true_iff.mp this
theorem ho_le {W : Wo} (hW : okW W) : ct (nwB (hg (wn W)) (hX W) (hY W)) 160 ≤ 16 := by
  have h := ct_or (P := nwB (hg (wn W)) (hX W) (hY W)) (Q := fun p => decide (p < wn W)) (R := fun p => decide (∃ e, e < wm W ∧ p = 8 * we W 1 e + we W 2 e)) (n := 160) (fun p hp z => by
    unfold nwB at z
    rw [Bool.and_eq_true] at z
    have hk := decide_eq_true_iff.mp z.1
    have hnew := decide_eq_true_iff.mp z.2
    by_cases y : p < 8
    · exact Or.inl (decide_eq_true (by omega))
    · refine Or.inr (decide_eq_true (Decidable.byContradiction (fun hno => ?_)))
      have hst := still (W := W) (msk := allE) (k := p % 8) (d := p / 8) (fun e he q => hno ⟨e, he, by omega⟩)
      refine hnew (p - 8) (by omega) ⟨?_, ?_, ?_⟩
      · refine decide_eq_true ?_
        rw [show (p - 8) % 8 = p % 8 by omega]; exact hk
      · unfold hX
        rw [show (p - 8) % 8 = p % 8 by omega, show (p - 8) / 8 = p / 8 - 1 by omega]
        show gx (pre W allE (p % 8) (p / 8 - 1 + 1)) = gx (pre W allE (p % 8) (p / 8 + 1))
        rw [show p / 8 - 1 + 1 = p / 8 by omega]
        exact hst.1.symm
      · unfold hY
        rw [show (p - 8) % 8 = p % 8 by omega, show (p - 8) / 8 = p / 8 - 1 by omega]
        show gy (pre W allE (p % 8) (p / 8 - 1 + 1)) = gy (pre W allE (p % 8) (p / 8 + 1))
        rw [show p / 8 - 1 + 1 = p / 8 by omega]
        exact hst.2.symm)
  have h1 := ct_lo (n := wn W) 160
  have h2 := ct_img (h := fun e => 8 * we W 1 e + we W 2 e) (N := 160) (wm W)
  have := hW.1
  have := hW.2.1
  omega
theorem PlX.skips {n : Nat} {X Y : Nat → Int32} {d : Nat} (hn : n ≤ 8) (h : PlX (8 * d + n) (hg n) X Y σ) : PlX (8 * (d + 1)) (hg n) X Y σ := by
  have key : ∀ m, n + m ≤ 8 → PlX (8 * d + (n + m)) (hg n) X Y σ := by
    intro m
    induction m with
    | zero => intro _; exact h
    | succ m ih =>
      intro hm
      refine (ih (by omega)).skip (decide_eq_false ?_)
      omega
  have := key (8 - n) (by omega)
  rw [show 8 * d + (n + (8 - n)) = 8 * (d + 1) by omega] at this
  exact this
theorem x7_holes (h : StX A σ) (ho : okA A) : AnsX E mX7_holes [.ref 0] σ (nI (hoS (wn (aW A)) (rr (aW A) allE))) := by
  have hW := okA_W ho
  have hn : wn (aW A) ≤ 8 := hW.1
  have e0 : hoS (wn (aW A)) (rr (aW A) allE) = ct (nwB (hg (wn (aW A))) (hX (aW A)) (hY (aW A))) 160 := ct_congr (fun p _ => ho_nw (aW A) p)
  rw [e0]
  obtain ⟨s0, hc0, hP0, hF0⟩ := x2_clear (E := E) (σ := σ) (g := hg (wn (aW A))) (X := hX (aW A)) (Y := hY (aW A))
  refine C_X7_holes (tX7_holes_0 ⟨s0, hc0, ?_⟩)
  have hroom := ho_le hW
  have days : ∀ d (τ : Hp), d ≤ 20 → (PlX (8 * d) (hg (wn (aW A))) (hX (aW A)) (hY (aW A)) τ ∧ Fr sqX σ τ) → Ru E mX7_holes 9 [(0, .ref 0), (1, .int (nI d))] [] τ (PI (fun v σ' => v = nI (ct (nwB (hg (wn (aW A))) (hX (aW A)) (hY (aW A))) 160) ∧ Fr sqX σ σ')) := by
    refine for_up 20 _ _ ?_ ?_
    · intro d τ hd ⟨hP, hF⟩ ihd
      obtain ⟨s1, hc1, hT, hF1⟩ := x7_comeTo (E := E) (h.q hF) ho hd
      have inner : ∀ k (τ : Hp), k ≤ wn (aW A) → (TwX (wn (aW A)) (fun k => rr (aW A) allE k d) τ ∧ PlX (8 * d + k) (hg (wn (aW A))) (hX (aW A)) (hY (aW A)) τ ∧ Fr sqX σ τ) → Ru E mX7_holes 22 [(0, .ref 0), (1, .int (nI d)), (2, .int (nI k))] [] τ (PI (fun v σ' => v = nI (ct (nwB (hg (wn (aW A))) (hX (aW A)) (hY (aW A))) 160) ∧ Fr sqX σ σ')) := by
        refine for_up (wn (aW A)) _ _ ?_ ?_
        · intro k τ hk ⟨hT, hP, hF⟩ ih
          obtain ⟨s2, hc2, hP2, hF2⟩ := x2_mark (E := E) hP (by omega) (decide_eq_true (by omega)) (Nat.le_trans (ct_mono (by omega)) hroom)
          have hRk := hT.2 k hk
          refine tX7_holes_22 ?_
          rw [hT.1, cl (show k < 2147483648 by omega), hRk.1, hRk.2.1, nI_1 k]
          unfold hX hY at hc2
          rw [show (8 * d + k) % 8 = k by omega, show (8 * d + k) / 8 = d by omega] at hc2
          refine ⟨fun z => ?_, fun _ => ⟨vin (by omega) (by decide), s2, hc2, ih s2 ⟨⟨(hF2 _ _ (by unfold sPl; omega)).trans hT.1, fun j hj => (hT.2 j hj).fr hF2 (fun i _ => by unfold sPl; omega)⟩, hP2, hF.tr (hF2.mono (fun c i z => sPl_q z))⟩⟩⟩
          rw [nI_le' (by omega) (by omega)] at z; omega
        · intro τ ⟨hT, hP, hF⟩
          refine tX7_holes_22 ⟨fun _ => ?_, fun z => absurd (by rw [hT.1]; exact Int32.le_refl _) z⟩
          rw [nI_1]
          exact ihd τ ⟨PlX.skips hn hP, hF⟩
      refine tX7_holes_9 ⟨fun z => ?_, fun _ => ⟨s1, hc1, inner 0 s1 (Nat.zero_le _) ⟨hT, hP.fr hF1 (fun c i a b => by unfold sTw; omega), hF.tr (hF1.mono (fun c i z => sTw_q z))⟩⟩⟩
      rw [show (20 : Int32) = nI 20 from rfl, nI_le' (by decide) (by omega)] at z; omega
    · intro τ ⟨hP, hF⟩
      exact tX7_holes_9 ⟨fun _ => ⟨_, rfl, hP.1, hF⟩, fun z => absurd (by decide) z⟩
  exact days 0 s0 (Nat.zero_le _) ⟨hP0, hF0.mono (fun c i z => sPl_q z)⟩
end XK
