/-! THE CLASS: open, stand -/
theorem ct_lt {P : Nat → Bool} {k : Nat} (h : P k = false) : ∀ {n : Nat}, k < n → ct P n < n
  | 0, q => by omega
  | n + 1, q => by
    unfold ct
    by_cases z : k = n
    · subst z
      rw [h]
      have := ct_le P k
      rw [if_neg (by decide)]
      omega
    · have := ct_lt h (n := n) (by omega)
      split <;> omega
theorem otS_lt {n : Nat} {R : Nat → Rg} {k : Nat} {c : Bool} (hk : k < n) : otS n R k c < n := ct_lt (k := k) (by rw [decide_eq_false (fun z => z rfl), Bool.false_and]) hk
theorem prS_lt {n : Nat} (hn : n ≤ 8) (R : Nat → Rg) (what : Nat) : prS n R what ≤ 56 := by
  have h := sm_le (f := fun a => ct (fun b => decide (a < b) && isP what (R a) (R b)) n) (b := n - 1) (n := n) (fun i hi => by
    have := ct_lt (P := fun b => decide (i < b) && isP what (R i) (R b)) (k := i) (by rw [decide_eq_false (Nat.lt_irrefl _), Bool.false_and]) hi
    omega)
  have : n * (n - 1) ≤ 8 * 7 := Nat.mul_le_mul hn (by omega)
  unfold prS
  omega
theorem pre_other {W : Wo} {msk : Nat → Bool} {f k x i : Nat} (h : i ≠ k) : ∀ d, pre (setC W f k x) msk i d = pre W msk i d
  | 0 => by
    show ini _ _ = ini _ _
    have e : ∀ g, wc (setC W f k x) g i = wc W g i := fun g => if_neg (fun z => h z.2)
    unfold ini
    rw [e, e, e, e]
  | d + 1 => by
    show goes (evs (we W) msk d i (wm W) (pre (setC W f k x) msk i d)) d = _
    rw [pre_other h d]
    rfl
theorem setC_v {W : Wo} {f k x g j : Nat} : wc (setC W f k x) g j = if g = f ∧ j = k then x else wc W g j := rfl
/-- a ring moved -/
def shf (a b : Int32) (r : Rg) : Rg := (gx r + a, gy r + b, gw r, gs r, gq r, ga r, gi r, gl r)
theorem i32a (x y z : Int32) : x + y + z = x + z + y := by rw [Int32.add_assoc, Int32.add_comm y z, ← Int32.add_assoc]
theorem i32s (x y z : Int32) : x + y - z = x - z + y := by rw [Int32.sub_eq_add_neg, i32a, ← Int32.sub_eq_add_neg]
theorem shf_lx (a b : Int32) (r : Rg) : lgx (shf a b r) = lgx r + a := by
  show (if gq r = 0 then gx r + a + nI (gw r) else if gq r = 2 then gx r + a - nI (gw r) else gx r + a) = (if gq r = 0 then gx r + nI (gw r) else if gq r = 2 then gx r - nI (gw r) else gx r) + a
  split
  · rw [i32a]
  · split
    · rw [i32s]
    · rfl
theorem shf_ly (a b : Int32) (r : Rg) : lgy (shf a b r) = lgy r + b := by
  show (if gq r = 1 then gy r + b + nI (gw r) else if gq r = 3 then gy r + b - nI (gw r) else gy r + b) = (if gq r = 1 then gy r + nI (gw r) else if gq r = 3 then gy r - nI (gw r) else gy r) + b
  split
  · rw [i32a]
  · split
    · rw [i32s]
    · rfl
theorem shf_und (a b : Int32) (r : Rg) (kd nu : Nat) : und (shf a b r) kd nu = shf a b (und r kd nu) := by
  unfold und
  split
  · rfl
  · split
    · rw [shf_lx, shf_ly]; rfl
    · rfl
theorem shf_trn (a b : Int32) (r : Rg) (q : Nat) : trn (shf a b r) q = shf a b (trn r q) := by
  unfold trn
  by_cases h : gl r = true ∨ gw r = 0
  · rw [if_pos h, if_pos (show gl (shf a b r) = true ∨ gw (shf a b r) = 0 from h)]
  · rw [if_neg h, if_neg (show ¬ (gl (shf a b r) = true ∨ gw (shf a b r) = 0) from h)]
    rfl
theorem shf_evs {v : Nat → Nat → Nat} {msk : Nat → Bool} {d k : Nat} (a b : Int32) (r : Rg) : ∀ n, evs v msk d k n (shf a b r) = shf a b (evs v msk d k n r)
  | 0 => rfl
  | n + 1 => by
    unfold evs
    rw [shf_evs a b r n, shf_und]
    split <;> rfl
theorem i32c (x y : Int32) : x = y + (x - y) := by rw [Int32.sub_eq_add_neg, Int32.add_comm x, ← Int32.add_assoc, ← Int32.sub_eq_add_neg, Int32.sub_self, Int32.zero_add]
theorem pre_shf {W : Wo} {msk : Nat → Bool} {k x y : Nat} : ∀ d, pre (setC (setC W 0 k x) 1 k y) msk k d = shf (nI x - nI (wc W 0 k)) (nI y - nI (wc W 1 k)) (pre W msk k d)
  | 0 => by
    show ini _ _ = shf _ _ (ini _ _)
    have e0 : wc (setC (setC W 0 k x) 1 k y) 0 k = x := by rw [setC_v, if_neg (by omega), setC_v, if_pos ⟨rfl, rfl⟩]
    have e1 : wc (setC (setC W 0 k x) 1 k y) 1 k = y := by rw [setC_v, if_pos ⟨rfl, rfl⟩]
    have e2 : wc (setC (setC W 0 k x) 1 k y) 2 k = wc W 2 k := by rw [setC_v, if_neg (by omega), setC_v, if_neg (by omega)]
    have e3 : wc (setC (setC W 0 k x) 1 k y) 3 k = wc W 3 k := by rw [setC_v, if_neg (by omega), setC_v, if_neg (by omega)]
    unfold ini shf
    rw [e0, e1, e2, e3]
    dsimp only [gx, gy, gw, gs, gq, ga, gi, gl]
    rw [← i32c, ← i32c]
  | d + 1 => by
    show goes (evs (we W) msk d k (wm W) (pre (setC (setC W 0 k x) 1 k y) msk k d)) d = shf _ _ (goes (evs (we W) msk d k (wm W) (pre W msk k d)) d)
    rw [pre_shf d, shf_evs]
    exact shf_trn _ _ _ _
theorem FrR {S : Nat → Nat → Prop} {σ σ' : Hp} {c : Nat} {f : Nat → Int32} (h : Fr S σ σ') (hs : ∀ i, S c i) : Fr S σ (upR σ' c f) := by
  intro c' i' q
  show (if c' = c then f i' else σ' c' i') = _
  rw [if_neg (fun z => q (by rw [z]; exact hs i'))]
  exact h c' i' q
def s7 (c _i : Nat) : Prop := 7 ≤ c ∧ c ≤ 11
theorem s7_q {c i : Nat} (h : s7 c i) : sqX c i := by unfold s7 at h; unfold sqX; omega
section XP
variable {E : Ev} {σ : Hp} {A : AS}
theorem x0_setTo {n : Nat} {cd : Nat → Nat → Nat} (hC : CpX 2 cd n σ) (hn : n ≤ 8) : ∃ σ' : Hp, Call E mX0_setTo [.ref 7, .ref 2] σ none σ' ∧ (CpX 7 cd n σ' ∧ Fr s7 σ σ') := by
  obtain ⟨h1, h2⟩ := hC
  refine C_X0_setTo (tX0_setTo_0 isCpl7 isCpl2 ⟨rfl, ⟨?_, fun k hk f hf => ?_⟩, Fr.up (FrR (FrR (FrR (FrR Fr.rf (fun i => ?_)) (fun i => ?_)) (fun i => ?_)) (fun i => ?_)) ?_⟩)
  · rw [up_s]
    simp [upR]
    exact h1
  · have g := h2 k hk f hf
    have hk8 : k < 8 := by omega
    have e8 : (8 : Int32).toNatClampNeg = 8 := rfl
    have e0 : (0 : Int32).toNatClampNeg = 0 := rfl
    rw [up_c (by omega)]
    rcases (show f = 0 ∨ f = 1 ∨ f = 2 ∨ f = 3 by omega) with rfl | rfl | rfl | rfl
    · simp [upR, va_cpy, e8, e0, hk8]; exact g
    · simp [upR, va_cpy, e8, e0, hk8]; exact g
    · simp [upR, va_cpy, e8, e0, hk8]; exact g
    · simp [upR, va_cpy, e8, e0, hk8]; exact g
  · unfold s7; omega
  · unfold s7; omega
  · unfold s7; omega
  · unfold s7; omega
  · unfold s7; omega
theorem CpX.set {c n f k x : Nat} {W : Wo} (h : CpX c (wc W) n σ) (hf : f < 4) : CpX c (wc (setC W f k x)) n (up σ (c + 1 + f) k (nI x)) := by
  refine ⟨by rw [up_c (by omega)]; exact h.1, fun j hj g hg => ?_⟩
  show _ = nI (if g = f ∧ j = k then x else wc W g j)
  by_cases z : g = f ∧ j = k
  · rw [if_pos z, z.1, z.2, up_s]
  · rw [if_neg z]
    by_cases z1 : g = f
    · rw [up_i (fun y => z ⟨z1, y⟩)]
      exact h.2 j hj g hg
    · rw [up_c (by omega)]
      exact h.2 j hj g hg
theorem x6_othersWith {n k w : Nat} {R : Nat → Rg} (hT : TwX n R σ) (ho : okT n R) (hk : k < n) (hw : w ≤ 1) : Call E mX6_othersWith [.ref 29, .int (nI k), .int (maskX w)] σ (some (.int (nI (otS n R k (decide (w = 0)))))) σ := by
  have hn := ho.1
  refine K_X6_othersWith (tX6_othersWith_0 ?_)
  have rel : ∀ i, bt (maskX w) (areS (R k) (R i)) = relS (decide (w = 0)) (areS (R k) (R i)) := by
    intro i
    rw [bt_w (areS_le _ _) hw]
    unfold relS
    by_cases z : w = 0
    · rw [if_pos z, if_pos (decide_eq_true z)]
    · rw [if_neg z, if_neg (by rw [decide_eq_false z]; decide)]
  have loop : ∀ i (u : Unit), i ≤ n → True → Ru E mX6_othersWith 5 [(0, .ref 29), (1, .int (nI k)), (2, .int (maskX w)), (3, .int (nI (ct (fun i => decide (¬ i = k) && relS (decide (w = 0)) (areS (R k) (R i))) i))), (4, .int (nI i))] [] σ (PE (some (.int (nI (otS n R k (decide (w = 0)))))) σ) := by
    refine for_up n _ _ ?_ ?_
    · intro i _ hi _ ih
      have ih := ih () trivial
      unfold ct at ih
      refine tX6_othersWith_5 ?_
      rw [hT.1, nI_1 i, nI_eq' (show i < 2147483648 by omega) (show k < 2147483648 by omega), cl (show k < 2147483648 by omega), cl (show i < 2147483648 by omega)]
      refine ⟨fun z => ?_, fun _ => ⟨fun z => ?_, fun z => ⟨vin (by omega) (by decide), vin (by omega) (by decide), _, _, x6_isAny hT ho hk hi _, fun z2 => ?_, fun z2 => ?_⟩⟩⟩
      · rw [nI_le' (by omega) (by omega)] at z; omega
      · rw [decide_eq_false (p := ¬ i = k) (fun y => y z), Bool.false_and] at ih
        exact ih
      · have z2 := bI_0.mp z2
        rw [rel] at z2
        rw [eq_false_of_ne_true z2, Bool.and_false] at ih
        exact ih
      · have z2 := bI_n.mp z2
        rw [rel] at z2
        rw [z2, decide_eq_true (p := ¬ i = k) z] at ih
        rw [nI_1]
        exact ih
    · intro _ _
      exact tX6_othersWith_5 ⟨fun _ => ⟨rfl, rfl⟩, fun z => absurd (by rw [hT.1]; exact Int32.le_refl _) z⟩
  exact loop 0 () (Nat.zero_le _) trivial
theorem x7_open (h : StX A σ) (ho : okA A) (k d w : Int32) : AnsX E mX7_open [.ref 0, .int k, .int d, .int w] σ (opA (aW A) k d w) := by
  have hW := okA_W ho
  have hn : wn (aW A) ≤ 8 := hW.1
  refine C_X7_open (tX7_open_0 ⟨_, _, x0_has isCpl2 h.cp _, fun z => ⟨_, rfl, (if_neg (fun y => bI_0.mp z y.1)).symm, Fr.rf⟩, fun q => ⟨_, _, x7_isDay, fun z => ⟨_, rfl, (if_neg (fun y => bI_0.mp z y.2.1)).symm, Fr.rf⟩, fun q2 => ⟨_, _, x7_isWithin, fun q3 => ?_, fun z => ⟨_, rfl, (if_neg (fun y => bI_0.mp z y.2.2)).symm, Fr.rf⟩⟩⟩⟩)
  have hA : opA (aW A) k d w = if w = 0 then nI (arg ltB (opF (aW A) k.toNatClampNeg d.toNatClampNeg) 9).1 else nI (arg ltB (opF (aW A) k.toNatClampNeg d.toNatClampNeg) 9).2 := if_pos ⟨bI_n.mp q, bI_n.mp q2, bI_n.mp q3⟩
  obtain ⟨d, hd, rfl⟩ := (inN_iff 19 (by decide)).mp (bI_n.mp q2)
  obtain ⟨k, hk, rfl⟩ := (isC_iff (by omega)).mp (bI_n.mp q)
  have hd : d < 20 := by omega
  rw [cl (show d < 2147483648 by omega), cl (show k < 2147483648 by omega)] at hA
  rw [hA]
  obtain ⟨s, hc, hT, hF⟩ := x7_comeTo (E := E) h ho hd
  have hF := hF.mono (fun c i z => sTw_q z)
  obtain ⟨s2, hc2, hC2, hF2⟩ := x0_setTo (E := E) (h.q hF).cp hn
  have hF2' := hF.tr (hF2.mono (fun c i z => s7_q z))
  refine ⟨s, hc, s2, hc2, ?_⟩
  generalize hΨ : (fun (v : Int32) (σ' : Hp) => v = (if w = 0 then nI (arg ltB (opF (aW A) k d) 9).1 else nI (arg ltB (opF (aW A) k d) 9).2) ∧ Fr sqX σ σ') = Ψ
  have hb : ∀ v, opF (aW A) k d v < wn (aW A) := fun v => otS_lt hk
  -- what holds between rounds
  have step : ∀ v (τ : Hp) (x4 x5 : Int32), v < 10 → ((∃ x, CpX 7 (wc (setC (aW A) 2 k x)) (wn (aW A)) τ) ∧ τ 29 1 = nI (wn (aW A)) ∧ (∀ i, i < wn (aW A) → i ≠ k → RgX (31 + 1 * i) (rr (aW A) allE i d) τ) ∧ Fr sqX σ τ) →
      (∀ τ' : Hp, ((∃ x, CpX 7 (wc (setC (aW A) 2 k x)) (wn (aW A)) τ') ∧ τ' 29 1 = nI (wn (aW A)) ∧ (∀ i, i < wn (aW A) → i ≠ k → RgX (31 + 1 * i) (rr (aW A) allE i d) τ') ∧ Fr sqX σ τ') →
        (x5 ≤ nI (opF (aW A) k d v) → Ru E mX7_open 56 [(0, .ref 0), (1, .int (nI k)), (2, .int (nI d)), (3, .int w), (4, .int x4), (5, .int x5), (6, .int (nI (v + 1)))] [] τ' (PI Ψ)) ∧
        (¬ x5 ≤ nI (opF (aW A) k d v) → Ru E mX7_open 56 [(0, .ref 0), (1, .int (nI k)), (2, .int (nI d)), (3, .int w), (4, .int (nI v)), (5, .int (nI (opF (aW A) k d v))), (6, .int (nI (v + 1)))] [] τ' (PI Ψ))) →
      Ru E mX7_open 56 [(0, .ref 0), (1, .int (nI k)), (2, .int (nI d)), (3, .int w), (4, .int x4), (5, .int x5), (6, .int (nI v))] [] τ (PI Ψ) := by
    intro v τ x4 x5 hv ⟨⟨x, hx⟩, hN, hJ, hFt⟩ next
    have hC : CpX 7 (wc (setC (aW A) 2 k v)) (wn (aW A)) (up τ 10 k (nI v)) := by
      have := hx.set (f := 2) (k := k) (x := v) (by decide)
      rw [setC_setC] at this
      exact this
    have hFu : Fr sqX σ (up τ 10 k (nI v)) := hFt.up (s7_q (i := k) (show s7 10 k from ⟨by decide, by decide⟩))
    have hu : Fr (oc 10) τ (up τ 10 k (nI v)) := ocu Fr.rf
    have hW' : okW (setC (aW A) 2 k v) := setC_ok hW (by omega) (fun z => by omega)
    obtain ⟨s3, hc3, hR3, hF3⟩ := x3_live (E := E) (c := 31 + 1 * k) (d := d) (msk := allE) (mk := allI (am A)) (W := setC (aW A) 2 k v) (k := k) (isRingN k (by omega)) isCpl7 isEvt12 (fun f hf => by omega) (fun f hf => by omega) hW' hC (h.q hFu).ev (fun e he => bt_all ho.2.2.1 he) hk hd
    have hF3' : Fr sqX σ s3 := hFu.tr (hF3.mono (fun c i z => by unfold oc at z; unfold sqX; omega))
    have hT3 : TwX (wn (aW A)) (fun i => rr (setC (aW A) 2 k v) allE i d) s3 := by
      refine ⟨by rw [hF3 _ _ (show ¬ 29 = 31 + 1 * k by omega), up_c (by decide)]; exact hN, fun i hi => ?_⟩
      by_cases z : i = k
      · rw [z]; exact hR3
      · show RgX (31 + 1 * i) (pre (setC (aW A) 2 k v) allE i (d + 1)) s3
        rw [pre_other z]
        exact ((hJ i hi z).fr hu (fun j _ => by unfold oc; omega)).fr hF3 (fun j _ => by unfold oc; omega)
    have hot := x6_othersWith (E := E) (w := 0) hT3 (okT_W hW') hk (by decide)
    have nx := next s3 ⟨⟨v, hC.fr hF3 (fun c i a b => by unfold oc; omega)⟩, by rw [hF3 _ _ (show ¬ 29 = 31 + 1 * k by omega), up_c (by decide)]; exact hN, fun i hi z => ((hJ i hi z).fr hu (fun j _ => by unfold oc; omega)).fr hF3 (fun j _ => by unfold oc; omega), hF3'⟩
    refine tX7_open_56 ?_
    rw [cl (show k < 2147483648 by omega), nI_1]
    refine ⟨fun z => ?_, fun _ => ⟨vin (by omega) (by decide), _, _, x1_all isEvt12 (h.q hFu).ev ho.2.2.1, s3, hc3, _, _, hot, nx.1, nx.2⟩⟩
    rw [show (10 : Int32) = nI 10 from rfl, nI_le' (by decide) (by omega)] at z; omega
  have loop : ∀ v (τ : Hp), v ≤ 9 → ((∃ x, CpX 7 (wc (setC (aW A) 2 k x)) (wn (aW A)) τ) ∧ τ 29 1 = nI (wn (aW A)) ∧ (∀ i, i < wn (aW A) → i ≠ k → RgX (31 + 1 * i) (rr (aW A) allE i d) τ) ∧ Fr sqX σ τ) → Ru E mX7_open 56 [(0, .ref 0), (1, .int (nI k)), (2, .int (nI d)), (3, .int w), (4, .int (nI (arg ltB (opF (aW A) k d) v).1)), (5, .int (nI (arg ltB (opF (aW A) k d) v).2)), (6, .int (nI (v + 1)))] [] τ (PI Ψ) := by
    refine for_up 9 _ _ ?_ ?_
    · intro v τ hv hJ ih
      have hb1 := hb (v + 1)
      have hab := arg_b (lt := ltB) (f := opF (aW A) k d) (n := v) (b := 8) (fun j _ => by have := hb j; omega)
      refine step (v + 1) τ _ _ (by omega) hJ (fun τ' hJ' => ⟨fun z => ?_, fun z => ?_⟩)
      · have ih := ih τ' hJ'
        unfold arg at ih
        rw [nI_le' (by omega) (by omega)] at z
        rw [if_neg (by rw [ltB_t]; omega)] at ih
        exact ih
      · have ih := ih τ' hJ'
        unfold arg at ih
        rw [nI_le' (by omega) (by omega)] at z
        rw [if_pos (by rw [ltB_t]; omega)] at ih
        exact ih
    · intro τ ⟨_, _, _, hFt⟩
      subst hΨ
      refine tX7_open_56 ⟨fun _ => ⟨fun z => ⟨_, rfl, (if_neg z).symm, hFt⟩, fun z => ⟨_, rfl, (if_pos z).symm, hFt⟩⟩, fun z => absurd (by decide) z⟩
  refine step 0 s2 0 8 (by decide) ⟨⟨wc (aW A) 2 k, by rw [setC_self]; exact hC2⟩, (hF2 _ _ (by unfold s7; omega)).trans hT.1, fun i hi _ => (hT.2 i hi).fr hF2 (fun j _ => by unfold s7; omega), hF2'⟩ (fun τ' hJ' => ⟨fun z => ?_, fun _ => loop 0 τ' (Nat.zero_le _) hJ'⟩)
  have hb0 := hb 0
  rw [show (8 : Int32) = nI 8 from rfl, nI_le' (by decide) (by omega)] at z
  omega
theorem x7_stand (h : StX A σ) (ho : okA A) (k d w : Int32) : AnsX E mX7_stand [.ref 0, .int k, .int d, .int w] σ (sdA (aW A) k d w) := by
  have hW := okA_W ho
  have hn : wn (aW A) ≤ 8 := hW.1
  refine C_X7_stand (tX7_stand_0 ⟨_, _, x0_has isCpl2 h.cp _, fun z => ⟨_, rfl, (if_neg (fun y => bI_0.mp z y.1)).symm, Fr.rf⟩, fun q => ⟨_, _, x7_isDay, fun z => ⟨_, rfl, (if_neg (fun y => bI_0.mp z y.2.1)).symm, Fr.rf⟩, fun q2 => ⟨_, _, x7_isWithin, fun q3 => ?_, fun z => ⟨_, rfl, (if_neg (fun y => bI_0.mp z y.2.2)).symm, Fr.rf⟩⟩⟩⟩)
  obtain ⟨d, hd, rfl⟩ := (inN_iff 19 (by decide)).mp (bI_n.mp q2)
  obtain ⟨k, hk, rfl⟩ := (isC_iff (by omega)).mp (bI_n.mp q)
  obtain ⟨w, hw, rfl⟩ := (inN_iff 2 (by decide)).mp (bI_n.mp q3)
  have hd : d < 20 := by omega
  rw [sdA_n hn hk hd hw]
  obtain ⟨s, hc, hT, hF⟩ := x7_comeTo (E := E) h ho hd
  have hF' := hF.mono (fun c i z => sTw_q z)
  have hRk := hT.2 k hk
  have e3 : s 3 k = nI (wc (aW A) 0 k) := (h.q hF').cp.2 k hk 0 (by decide)
  have e4 : s 4 k = nI (wc (aW A) 1 k) := (h.q hF').cp.2 k hk 1 (by decide)
  refine ⟨s, hc, vin (by omega) (by decide), ?_⟩
  rw [cl (show k < 2147483648 by omega), hRk.1, hRk.2.1, e3, e4]
  have hb : ∀ c, sdF (aW A) k d c < wn (aW A) := fun c => otS_lt hk
  generalize hM : gx (rr (aW A) allE k d) - nI (wc (aW A) 0 k) = mX
  generalize hM2 : gy (rr (aW A) allE k d) - nI (wc (aW A) 1 k) = mY
  generalize hΨ : (fun (v : Int32) (σ' : Hp) => v = (if w = 0 then nI ((arg gtB (sdF (aW A) k d) 99).1 / 10) else if w = 1 then nI ((arg gtB (sdF (aW A) k d) 99).1 % 10) else nI (arg gtB (sdF (aW A) k d) 99).2) ∧ Fr sqX σ σ') = Ψ
  have step : ∀ c (τ : Hp) (x7 x8 x9 : Int32), c < 100 → (Fr (oc (31 + 1 * k)) s τ ∧ (∀ i, 2 ≤ i → i < 8 → τ (31 + 1 * k) i = s (31 + 1 * k) i)) →
      (∀ τ' : Hp, (Fr (oc (31 + 1 * k)) s τ' ∧ (∀ i, 2 ≤ i → i < 8 → τ' (31 + 1 * k) i = s (31 + 1 * k) i)) →
        (nI (sdF (aW A) k d c) ≤ x9 → Ru E mX7_stand 92 [(0, .ref 0), (1, .int (nI k)), (2, .int (nI d)), (3, .int (nI w)), (4, .ref (31 + 1 * k)), (5, .int mX), (6, .int mY), (7, .int x7), (8, .int x8), (9, .int x9), (10, .int (nI (c + 1)))] [] τ' (PI Ψ)) ∧
        (¬ nI (sdF (aW A) k d c) ≤ x9 → Ru E mX7_stand 92 [(0, .ref 0), (1, .int (nI k)), (2, .int (nI d)), (3, .int (nI w)), (4, .ref (31 + 1 * k)), (5, .int mX), (6, .int mY), (7, .int (nI (c / 10))), (8, .int (nI (c % 10))), (9, .int (nI (sdF (aW A) k d c))), (10, .int (nI (c + 1)))] [] τ' (PI Ψ))) →
      Ru E mX7_stand 92 [(0, .ref 0), (1, .int (nI k)), (2, .int (nI d)), (3, .int (nI w)), (4, .ref (31 + 1 * k)), (5, .int mX), (6, .int mY), (7, .int x7), (8, .int x8), (9, .int x9), (10, .int (nI c))] [] τ (PI Ψ) := by
    intro c τ x7 x8 x9 hc100 ⟨hFt, hKt⟩ next
    have e10 : nI c / 10 = nI (c / 10) := pk_div (d := 10) (by omega) (by decide) (by decide)
    have er : nI c - nI c / 10 * 10 = nI (c % 10) := pk_rem (d := 10) (by omega) (by decide) (by decide)
    have hW' : okW (setC (setC (aW A) 0 k (c / 10)) 1 k (c % 10)) := setC_ok (setC_ok hW (by omega) (fun z => by omega)) (by omega) (fun z => by omega)
    have hFu : Fr (oc (31 + 1 * k)) s (up (up τ (31 + 1 * k) 0 (nI (c / 10) + mX)) (31 + 1 * k) 1 (nI (c % 10) + mY)) := ocu (ocu hFt)
    have hKu : ∀ i, 2 ≤ i → i < 8 → (up (up τ (31 + 1 * k) 0 (nI (c / 10) + mX)) (31 + 1 * k) 1 (nI (c % 10) + mY)) (31 + 1 * k) i = s (31 + 1 * k) i := fun i a b => by
      rw [up_i (by omega), up_i (by omega)]
      exact hKt i a b
    have hTu : TwX (wn (aW A)) (fun i => rr (setC (setC (aW A) 0 k (c / 10)) 1 k (c % 10)) allE i d) (up (up τ (31 + 1 * k) 0 (nI (c / 10) + mX)) (31 + 1 * k) 1 (nI (c % 10) + mY)) := by
      refine ⟨(hFu _ _ (show ¬ 29 = 31 + 1 * k by omega)).trans hT.1, fun i hi => ?_⟩
      by_cases z : i = k
      · subst z
        show RgX (31 + 1 * i) (pre (setC (setC (aW A) 0 i (c / 10)) 1 i (c % 10)) allE i (d + 1)) _
        rw [pre_shf]
        obtain ⟨r0, r1, r2, r3, r4, r5, r6, r7⟩ := hRk
        refine ⟨?_, ?_, (hKu 2 (by decide) (by decide)).trans r2, (hKu 3 (by decide) (by decide)).trans r3, (hKu 4 (by decide) (by decide)).trans r4, (hKu 5 (by decide) (by decide)).trans r5, (hKu 6 (by decide) (by decide)).trans r6, (hKu 7 (by decide) (by decide)).trans r7⟩
        · rw [up_i (by decide), up_s, ← hM]
          show _ = gx (rr (aW A) allE i d) + (nI (c / 10) - nI (wc (aW A) 0 i))
          rw [Int32.sub_eq_add_neg, Int32.sub_eq_add_neg, ← Int32.add_assoc, ← Int32.add_assoc, Int32.add_comm (nI (c / 10))]
        · rw [up_s, ← hM2]
          show _ = gy (rr (aW A) allE i d) + (nI (c % 10) - nI (wc (aW A) 1 i))
          rw [Int32.sub_eq_add_neg, Int32.sub_eq_add_neg, ← Int32.add_assoc, ← Int32.add_assoc, Int32.add_comm (nI (c % 10))]
      · show RgX (31 + 1 * i) (pre (setC (setC (aW A) 0 k (c / 10)) 1 k (c % 10)) allE i (d + 1)) _
        rw [pre_other z, pre_other z]
        exact (hT.2 i hi).fr hFu (fun j _ => by unfold oc; omega)
    have hot := x6_othersWith (E := E) (w := 1) hTu (okT_W hW') hk (by decide)
    have nx := next _ ⟨hFu, hKu⟩
    refine tX7_stand_92 (isRingN k (by omega)) ?_
    rw [e10, nI_1]
    rw [e10] at er
    rw [er]
    refine ⟨fun z => ?_, fun _ => ⟨_, _, hot, nx.1, nx.2⟩⟩
    rw [show (100 : Int32) = nI 100 from rfl, nI_le' (by decide) (by omega)] at z; omega
  have loop : ∀ c (τ : Hp), c ≤ 99 → (Fr (oc (31 + 1 * k)) s τ ∧ (∀ i, 2 ≤ i → i < 8 → τ (31 + 1 * k) i = s (31 + 1 * k) i)) → Ru E mX7_stand 92 [(0, .ref 0), (1, .int (nI k)), (2, .int (nI d)), (3, .int (nI w)), (4, .ref (31 + 1 * k)), (5, .int mX), (6, .int mY), (7, .int (nI ((arg gtB (sdF (aW A) k d) c).1 / 10))), (8, .int (nI ((arg gtB (sdF (aW A) k d) c).1 % 10))), (9, .int (nI (arg gtB (sdF (aW A) k d) c).2)), (10, .int (nI (c + 1)))] [] τ (PI Ψ) := by
    refine for_up 99 _ _ ?_ ?_
    · intro c τ hc hJ ih
      have hb1 := hb (c + 1)
      have hab := arg_b (lt := gtB) (f := sdF (aW A) k d) (n := c) (b := 8) (fun j _ => by have := hb j; omega)
      refine step (c + 1) τ _ _ _ (by omega) hJ (fun τ' hJ' => ⟨fun z => ?_, fun z => ?_⟩)
      · have ih := ih τ' hJ'
        unfold arg at ih
        rw [nI_le' (by omega) (by omega)] at z
        rw [if_neg (by rw [gtB_t]; omega)] at ih
        exact ih
      · have ih := ih τ' hJ'
        unfold arg at ih
        rw [nI_le' (by omega) (by omega)] at z
        rw [if_pos (by rw [gtB_t]; omega)] at ih
        exact ih
    · intro τ ⟨hFt, _⟩
      have hfin : Fr sqX σ τ := hF'.tr (hFt.mono (fun c i z => by unfold oc at z; unfold sqX; omega))
      subst hΨ
      exact tX7_stand_92 (isRingN k (by omega)) ⟨fun _ => ⟨_, _, x7_pick hw, _, rfl, rfl, hfin⟩, fun z => absurd (by decide) z⟩
  refine step 0 s 0 0 (-1) (by decide) ⟨Fr.rf, fun i _ _ => rfl⟩ (fun τ' hJ' => ⟨fun z => ?_, fun _ => loop 0 τ' (Nat.zero_le _) hJ'⟩)
  have hb0 := hb 0
  rw [Int32.le_iff_toInt_le, nI_toInt (by omega), show (-1 : Int32).toInt = -1 by decide] at z
  omega
end XP
