/-! THE CLASS: gossip, ages -/
theorem l_and1 {a : Nat} : lN a &&& 1 = lN (a % 2) := by
  unfold lN
  apply Int64.toBitVec_inj.mp
  apply BitVec.eq_of_toNat_eq
  have h1 : (Int64.ofNat a &&& 1).toBitVec.toNat = (a % 2 ^ 64) &&& 1 := rfl
  have h2 : (Int64.ofNat (a % 2)).toBitVec.toNat = (a % 2) % 2 ^ 64 := rfl
  rw [h1, h2, Nat.and_one_is_mod]
  omega
theorem l_shr1 {a : Nat} (h : a < 2 ^ 62) : lN a >>> ((Int32.toInt64 1) &&& 63) = lN (a / 2) := by
  have e1 : (Int32.toInt64 1) &&& 63 = 1 := by decide
  rw [e1]
  apply Int64.toBitVec_inj.mp
  have hm : (lN a).toBitVec.msb = false := by
    rw [BitVec.msb_eq_decide]
    have : (lN a).toBitVec.toNat = a % 2 ^ 64 := rfl
    rw [this]
    exact decide_eq_false (by omega)
  have e2 : (lN a >>> 1).toBitVec = (lN a).toBitVec.sshiftRight 1 := rfl
  rw [e2, BitVec.sshiftRight_eq_of_msb_false hm]
  apply BitVec.eq_of_toNat_eq
  rw [BitVec.toNat_ushiftRight]
  have h1 : (lN a).toBitVec.toNat = a % 2 ^ 64 := rfl
  have h2 : (lN (a / 2)).toBitVec.toNat = (a / 2) % 2 ^ 64 := rfl
  rw [h1, h2, Nat.shiftRight_eq_div_pow]
  omega
theorem lc0 {a : Nat} (h : a < 2 ^ 62) : lg_cmp (lN a) 0 = 0 ↔ a = 0 := by
  unfold lg_cmp
  have e1 : (0 : Int64) < lN a ↔ 0 < a := by
    rw [show (0 : Int64) = lN 0 from rfl]
    exact pk_lLT (by decide) (by omega)
  by_cases z : a = 0
  · subst z; simp; decide
  · rw [if_pos (e1.mpr (by omega))]
    exact ⟨fun y => absurd y (by decide), fun y => absurd y z⟩
theorem sm_first {f : Nat → Nat} : ∀ n, sm f (n + 1) = f 0 + sm (fun i => f (i + 1)) n
  | 0 => by show 0 + f 0 = f 0 + 0; omega
  | n + 1 => by
    show sm f (n + 1) + f (n + 1) = f 0 + (sm (fun i => f (i + 1)) n + f (n + 1))
    rw [sm_first n]
    omega
theorem sm_rev {f : Nat → Nat} : ∀ n, sm f n = sm (fun i => f (n - 1 - i)) n
  | 0 => rfl
  | n + 1 => by
    rw [sm_first]
    show _ = sm (fun i => f (n + 1 - 1 - i)) n + f (n + 1 - 1 - n)
    rw [sm_rev n, show n + 1 - 1 - n = 0 by omega]
    have : sm (fun i => f (n - 1 - i + 1)) n = sm (fun i => f (n + 1 - 1 - i)) n := by
      have key : ∀ (g h : Nat → Nat) m, (∀ i, i < m → g i = h i) → sm g m = sm h m := by
        intro g h m
        induction m with
        | zero => intro _; rfl
        | succ m ih => intro e; show sm g m + g m = sm h m + h m; rw [ih (fun i hi => e i (by omega)), e m (by omega)]
      exact key _ _ n (fun i hi => by rw [show n - 1 - i + 1 = n + 1 - 1 - i by omega])
    rw [← this]
    have e2 : sm (fun i => f (i + 1)) n = sm (fun i => f (n - 1 - i + 1)) n := sm_rev (f := fun i => f (i + 1)) n
    omega
theorem sm_congr {g h : Nat → Nat} : ∀ {m : Nat}, (∀ i, i < m → g i = h i) → sm g m = sm h m
  | 0, _ => rfl
  | m + 1, e => by
    show sm g m + g m = sm h m + h m
    rw [sm_congr (fun i hi => e i (by omega)), e m (by omega)]
/-- with the events of mask M -/
def bmk (M : Nat) : Nat → Bool := fun e => M.testBit e
theorem evs_msk {v : Nat → Nat → Nat} {m1 m2 : Nat → Bool} {d k : Nat} {r : Rg} : ∀ n, (∀ e, e < n → v 2 e = k → m1 e = m2 e) → evs v m1 d k n r = evs v m2 d k n r
  | 0, _ => rfl
  | n + 1, h => by
    have ih := evs_msk (v := v) (m1 := m1) (m2 := m2) (d := d) (k := k) (r := r) n (fun e he => h e (by omega))
    show (if v 1 n = d ∧ v 2 n = k ∧ m1 n = true then _ else _) = (if v 1 n = d ∧ v 2 n = k ∧ m2 n = true then _ else _)
    rw [ih]
    by_cases z : v 2 n = k
    · rw [h n (by omega) z]
    · rw [if_neg (fun y => z y.2.1), if_neg (fun y => z y.2.1)]
theorem pre_msk {W : Wo} {m1 m2 : Nat → Bool} {k : Nat} (h : ∀ e, e < wm W → we W 2 e = k → m1 e = m2 e) : ∀ d, pre W m1 k d = pre W m2 k d
  | 0 => rfl
  | d + 1 => by
    show goes (evs (we W) m1 d k (wm W) (pre W m1 k d)) d = goes (evs (we W) m2 d k (wm W) (pre W m2 k d)) d
    rw [pre_msk h d, evs_msk (wm W) h]
def wtM (c M : Nat) : Nat → Nat
  | 0 => 1
  | e + 1 => wtM c M e * (if M.testBit e = true then c else 16 - c)
def goF (W : Wo) (c d M : Nat) : Nat := if decide (0 < prS (wn W) (fun k => rr W (bmk M) k d) 0) = true then wtM c M (wm W) else 0
theorem tb_co {m M e : Nat} (hM : M < 2 ^ m) (he : e < m) : (2 ^ m - 1 - M).testBit e = !M.testBit e := by
  rw [show 2 ^ m - 1 - M = 2 ^ m - (M + 1) by omega, Nat.testBit_two_pow_sub_succ hM, decide_eq_true he, Bool.true_and]
theorem wt_co {c m M : Nat} (hM : M < 2 ^ m) : ∀ n, n ≤ m → wtS c (2 ^ m - 1 - M) n = wtM c M n
  | 0, _ => rfl
  | n + 1, h => by
    unfold wtS wtM
    rw [wt_co hM n (by omega), tb_co hM (by omega)]
    congr 1
    cases M.testBit n <;> rfl
theorem goN_eq {W : Wo} {c d : Nat} (hW : okW W) : goN W c d = sm (goF W c d) (2 ^ wm W) := by
  unfold goN
  rw [sm_rev]
  refine sm_congr (fun M hM => ?_)
  unfold goF goT
  rw [wt_co hM (wm W) (Nat.le_refl _)]
  have e : ∀ k, rr W (nmk (2 ^ wm W - 1 - M)) k d = rr W (bmk M) k d := fun k => pre_msk (fun e he _ => by
    unfold nmk bmk
    rw [tb_co hM he, Bool.not_not]) (d + 1)
  have e2 : (fun k => rr W (nmk (2 ^ wm W - 1 - M)) k d) = (fun k => rr W (bmk M) k d) := funext e
  rw [e2]
theorem wtM_le {c M : Nat} (hc : c ≤ 16) : ∀ n, wtM c M n ≤ 16 ^ n
  | 0 => Nat.le_refl _
  | n + 1 => by
    unfold wtM
    rw [Nat.pow_succ]
    refine Nat.mul_le_mul (wtM_le hc n) ?_
    split <;> omega
theorem xor_bt : ∀ M, M < 256 → ∀ e, e < 8 → bt (nI M ^^^ (nI M - 1)) e = (if M = 0 then true else (M.testBit e != (M - 1).testBit e)) := by decide +kernel
section XG
variable {E : Ev} {σ : Hp} {A : AS}
theorem x1_touch {c m k : Nat} {v : Nat → Nat → Nat} (hc : IsEvt c) (h : EvX c v m σ) (hv : okE v m) (hm : m ≤ 8) (hk : k < 8) (x : Int32) : Call E mX1_touch [.ref c, .int (nI k), .int x] σ (some (.int (bI (∃ e, e < m ∧ v 2 e = k ∧ bt x e = true)))) σ := by
  refine K_X1_touch (tX1_touch_0 hc ?_)
  have loop : ∀ e (u : Unit), e ≤ m → (∀ j, j < e → ¬ (v 2 j = k ∧ bt x j = true)) → Ru E mX1_touch 2 [(0, .ref c), (1, .int (nI k)), (2, .int x), (3, .int (nI e))] [] σ (PE (some (.int (bI (∃ e, e < m ∧ v 2 e = k ∧ bt x e = true)))) σ) := by
    refine for_up m (fun e _ => ∀ j, j < e → ¬ (v 2 j = k ∧ bt x j = true)) _ ?_ ?_
    · intro e _ he hJ ih
      obtain ⟨o1, o2, o3, o4⟩ := hv e he
      have e3 : σ (c + 3) e = nI (v 2 e) := h.2.1 e he 2 (by decide)
      have next : ¬ (v 2 e = k ∧ bt x e = true) → Ru E mX1_touch 2 [(0, .ref c), (1, .int (nI k)), (2, .int x), (3, .int (nI (e + 1)))] [] σ (PE (some (.int (bI (∃ e, e < m ∧ v 2 e = k ∧ bt x e = true)))) σ) := by
        intro hn
        refine ih () (fun j hj => ?_)
        rcases Nat.lt_or_ge j e with y | y
        · exact hJ j y
        · rw [show j = e by omega]; exact hn
      refine tX1_touch_2 hc ?_
      rw [h.1, cl (show e < 2147483648 by omega), e3, nI_eq' (show v 2 e < 2147483648 by omega) (show k < 2147483648 by omega), nI_1 e]
      refine ⟨fun z => ?_, fun _ => ⟨vin (by omega) (by decide), fun z => next (fun y => z y.1), fun z => ⟨fun z2 => next (fun y => z2 (bt_t.mp y.2)), fun z2 => ⟨?_, rfl⟩⟩⟩⟩
      · rw [nI_le' (by omega) (by omega)] at z; omega
      · rw [bI_t ⟨e, he, z, bt_t.mpr z2⟩]
    · intro _ hJ
      refine tX1_touch_2 hc ⟨fun _ => ⟨?_, rfl⟩, fun z => absurd (by rw [h.1]; exact Int32.le_refl _) z⟩
      rw [bI_f (fun y => by obtain ⟨e, he, hy⟩ := y; exact hJ e he hy)]
  exact loop 0 () (Nat.zero_le _) (fun j hj => by omega)
theorem x6_liveAgain {W : Wo} {msk : Nat → Bool} {mk x : Int32} {d : Nat} {R0 : Nat → Rg} (hW : okW W) (hC : CpX 2 (wc W) (wn W) σ) (hE : EvX 12 (we W) (wm W) σ) (hmk : ∀ e, e < wm W → bt mk e = msk e) (hd : d < 20)
    (hT : TwX (wn W) R0 σ) (hR : ∀ k, k < wn W → ¬ (∃ e, e < wm W ∧ we W 2 e = k ∧ bt x e = true) → R0 k = rr W msk k d) :
    ∃ σ' : Hp, Call E mX6_liveAgain [.ref 29, .ref 2, .ref 12, .int mk, .int x, .int (nI d)] σ none σ' ∧ (TwX (wn W) (fun k => rr W msk k d) σ' ∧ Fr sTw σ σ') := by
  have hn := hW.1
  refine C_X6_liveAgain (tX6_liveAgain_0 isCpl2 isEvt12 ?_)
  have loop : ∀ k (τ : Hp), k ≤ wn W → (τ 29 1 = nI (wn W) ∧ (∀ j, j < k → RgX (31 + 1 * j) (rr W msk j d) τ) ∧ (∀ j, k ≤ j → j < wn W → RgX (31 + 1 * j) (R0 j) τ) ∧ Fr sTw σ τ) → Ru E mX6_liveAgain 3 [(0, .ref 29), (1, .ref 2), (2, .ref 12), (3, .int mk), (4, .int x), (5, .int (nI d)), (6, .int (nI k))] [] τ (PV (fun σ' => TwX (wn W) (fun k => rr W msk k d) σ' ∧ Fr sTw σ σ')) := by
    refine for_up (wn W) _ _ ?_ ?_
    · intro k τ hk ⟨hN, hJ, hK, hF⟩ ih
      have hCt := hC.fr hF (fun c i a b => by unfold sTw; omega)
      have hEt := hE.fr hF (fun c i a b => by unfold sTw; omega)
      refine tX6_liveAgain_3 isCpl2 isEvt12 ⟨fun z => ?_, fun _ => ⟨_, _, x1_touch isEvt12 hEt hW.2.2.2 hW.2.1 (show k < 8 by omega) x, fun z => ?_, fun z => ?_⟩⟩
      · rw [hN, nI_le' (by omega) (by omega)] at z; omega
      · rw [nI_1]
        refine ih τ ⟨hN, fun j hj => ?_, fun j hj hj2 => hK j (by omega) hj2, hF⟩
        rcases Nat.lt_or_ge j k with y | y
        · exact hJ j y
        · rw [show j = k by omega, ← hR k hk (bI_0.mp z)]
          exact hK k (Nat.le_refl _) hk
      · obtain ⟨s1, hk1, hR1, hF1⟩ := x3_live (E := E) (c := 31 + 1 * k) (d := d) (isRingN k (by omega)) isCpl2 isEvt12 (fun f hf => by omega) (fun f hf => by omega) hW hCt hEt hmk hk hd
        rw [cl (show k < 2147483648 by omega), nI_1]
        refine ⟨vin (by omega) (by decide), s1, hk1, ih s1 ⟨(hF1 _ _ (show ¬ 29 = 31 + 1 * k by omega)).trans hN, fun j hj => ?_, fun j hj hj2 => (hK j (by omega) hj2).fr hF1 (fun i _ => by unfold oc; omega), hF.tr (hF1.mono (fun c i z => by unfold oc at z; unfold sTw; omega))⟩⟩
        rcases Nat.lt_or_ge j k with y | y
        · exact (hJ j y).fr hF1 (fun i hi => by unfold oc; omega)
        · rw [show j = k by omega]; exact hR1
    · intro τ ⟨hN, hJ, hK, hF⟩
      exact tX6_liveAgain_3 isCpl2 isEvt12 ⟨fun _ => ⟨rfl, ⟨hN, hJ⟩, hF⟩, fun z => absurd (by rw [hN]; exact Int32.le_refl _) z⟩
  exact loop 0 σ (Nat.zero_le _) ⟨hT.1, fun j hj => by omega, fun j _ hj => hT.2 j hj, Fr.rf⟩
theorem x7_weight (h : StX A σ) (ho : okA A) {c M : Nat} (hc : c ≤ 16) (hM : M < 256) : Call E mX7_weight [.ref 0, .int (nI c), .int (nI M)] σ (some (.long (lN (wtM c M (am A))))) σ := by
  have hm := ho.2.2.1
  refine K_X7_weight (tX7_weight_0 ?_)
  have loop : ∀ e (u : Unit), e ≤ am A → True → Ru E mX7_weight 5 [(0, .ref 0), (1, .int (nI c)), (2, .int (nI M)), (3, .long (lN (wtM c M e))), (5, .int (nI e))] [] σ (PE (some (.long (lN (wtM c M (am A))))) σ) := by
    refine for_up (am A) _ _ ?_ ?_
    · intro e _ he _ ih
      have ih := ih () trivial
      have ew : wtM c M (e + 1) = wtM c M e * (if M.testBit e = true then c else 16 - c) := rfl
      rw [ew] at ih
      have hb : bt (nI M) e = M.testBit e := bt_nI (by omega) (by omega)
      refine tX7_weight_5 ?_
      rw [h.2.1.1, nI_1]
      refine ⟨fun z => ?_, fun _ => ⟨fun z => ?_, fun z => ?_⟩⟩
      · rw [nI_le' (by omega) (by omega)] at z; omega
      · rw [if_neg (by rw [← hb]; exact fun y => z (bt_t.mp y))] at ih
        rw [show (16 : Int32) = nI 16 from rfl, pk_sub hc, nI_l (show 16 - c < 2 ^ 31 by omega), lN_mul]
        exact ih
      · rw [if_pos (by rw [← hb]; exact bt_t.mpr z)] at ih
        rw [nI_l (show c < 2 ^ 31 by omega), lN_mul]
        exact ih
    · intro _ _
      exact tX7_weight_5 ⟨fun _ => ⟨rfl, rfl⟩, fun z => absurd (by rw [h.2.1.1]; exact Int32.le_refl _) z⟩
  exact loop 0 () (Nat.zero_le _) trivial
theorem x7_ways (h : StX A σ) (ho : okA A) {c d : Nat} (hc : c ≤ 16) (hd : d < 20) : ∃ (v : Int64) (σ' : Hp), Call E mX7_waysTalked [.ref 0, .int (nI c), .int (nI d)] σ (some (.long v)) σ' ∧ (v = lN (goN (aW A) c d) ∧ Fr sqX σ σ') := by
  have hW := okA_W ho
  have hm : wm (aW A) ≤ 8 := ho.2.2.1
  have h2 : 2 ^ wm (aW A) ≤ 2 ^ 8 := Nat.pow_le_pow_right (by decide) hm
  have h2' : 0 < 2 ^ wm (aW A) := Nat.pow_pos (by decide)
  rw [goN_eq hW]
  obtain ⟨s0, hc0, hT0, hF0⟩ := x6_behind (E := E) (W := aW A) (msk := bmk 0) (mk := 0) (d := d) ⟨isCpl2, Or.inl rfl⟩ ⟨isEvt12, Or.inl rfl⟩ hW h.cp h.ev (fun e he => by rw [bt_0 e (by omega)]; unfold bmk; rw [Nat.zero_testBit]) hd
  refine C_X7_waysTalked (tX7_waysTalked_0 ⟨s0, hc0, ?_⟩)
  have loop : ∀ M (τ : Hp), M ≤ 2 ^ wm (aW A) → (TwX (wn (aW A)) (fun k => rr (aW A) (bmk (M - 1)) k d) τ ∧ Fr sqX σ τ) → Ru E mX7_waysTalked 22 [(0, .ref 0), (1, .int (nI c)), (2, .int (nI d)), (3, .long (lN (sm (goF (aW A) c d) M))), (5, .int (nI M))] [] τ (PL (fun v σ' => v = lN (sm (goF (aW A) c d) (2 ^ wm (aW A))) ∧ Fr sqX σ σ')) := by
    refine for_up (2 ^ wm (aW A)) _ _ ?_ ?_
    · intro M τ hM ⟨hT, hF⟩ ih
      have hM256 : M < 256 := by omega
      have ht := h.q hF
      obtain ⟨s1, hc1, hT1, hF1⟩ := x6_liveAgain (E := E) (W := aW A) (msk := bmk M) (mk := nI M) (x := nI M ^^^ (nI M - 1)) (d := d) hW ht.cp ht.ev (fun e he => bt_nI (by omega) (by omega)) hd hT (fun k hk hno => by
        refine pre_msk (fun e he hek => ?_) (d + 1)
        have hb := xor_bt M hM256 e (by omega)
        unfold bmk
        by_cases z : M = 0
        · rw [z]
        · rw [if_neg z] at hb
          refine Decidable.byContradiction (fun y => hno ⟨e, he, hek, ?_⟩)
          rw [hb]
          cases h1 : M.testBit e <;> cases h2 : (M - 1).testBit e <;> simp_all)
      have hcp := x6_closedPairs (E := E) (w := 0) hT1 (okT_W hW) (by decide)
      have hF1' := hF.tr (hF1.mono (fun c i z => sTw_q z))
      have hle := prS_le hW.1 (fun k => rr (aW A) (bmk M) k d) 0
      have ih := ih s1 ⟨hT1, hF1'⟩
      have es : sm (goF (aW A) c d) (M + 1) = sm (goF (aW A) c d) M + goF (aW A) c d M := rfl
      rw [es] at ih
      refine tX7_waysTalked_22 ⟨_, _, x1_all isEvt12 ht.ev hm, fun z => ?_, fun _ => ⟨s1, hc1, _, _, hcp, fun z => ?_, fun z => ?_⟩⟩
      · unfold allI at z
        rw [nI_lt' (by omega) (by omega)] at z; omega
      · rw [show (0 : Int32) = nI 0 from rfl, nI_le' (by omega) (by decide)] at z
        have e0 : goF (aW A) c d M = 0 := if_neg (by rw [decide_eq_true_iff]; omega)
        rw [e0, Nat.add_zero] at ih
        rw [nI_1]
        exact ih
      · rw [show (0 : Int32) = nI 0 from rfl, nI_le' (by omega) (by decide)] at z
        have e0 : goF (aW A) c d M = wtM c M (am A) := if_pos (by rw [decide_eq_true_iff]; omega)
        rw [e0] at ih
        refine ⟨_, _, x7_weight (h.q hF1') ho hc hM256, ?_⟩
        rw [lN_add, nI_1]
        exact ih
    · intro τ ⟨hT, hF⟩
      refine tX7_waysTalked_22 ⟨_, _, x1_all isEvt12 (h.q hF).ev hm, fun _ => ⟨_, rfl, rfl, hF⟩, fun z => ?_⟩
      exfalso
      apply z
      unfold allI
      rw [nI_lt' (by omega) (by omega)]
      omega
  exact loop 0 s0 (Nat.zero_le _) ⟨hT0, hF0.mono (fun c i z => sTw_q z)⟩
/-- a question of the class that answers a long -/
def AnsL (E : Ev) (M : MI) (as : List Value) (σ : Hp) (a : Int64) : Prop := ∃ (v : Int64) (σ' : Hp), Call E M as σ (some (.long v)) σ' ∧ (v = a ∧ Fr sqX σ σ')
theorem gcd_halved {a i b r : Nat} (ha : a = 2 ^ i * b) (h : r = 0 ∨ b % 2 = 1) : Nat.gcd a (2 ^ (i + r)) = 2 ^ i := by
  rw [ha, Nat.pow_add, Nat.gcd_mul_left]
  have : Nat.gcd b (2 ^ r) = 1 := by
    rcases h with z | z
    · rw [z]; exact Nat.gcd_one_right b
    · refine Nat.Coprime.pow_right r ?_
      show Nat.gcd b 2 = 1
      rw [Nat.gcd_comm, Nat.gcd_rec, z]
      rfl
  rw [this, Nat.mul_one]
theorem x7_gossip (h : StX A σ) (ho : okA A) (c d w : Int32) : AnsL E mX7_gossip [.ref 0, .int c, .int d, .int w] σ (goA (aW A) c d w) := by
  have hm : wm (aW A) ≤ 8 := ho.2.2.1
  refine C_X7_gossip (tX7_gossip_0 ⟨_, _, x7_isWithin, fun z => ⟨_, rfl, (if_neg (fun y => bI_0.mp z y.1)).symm, Fr.rf⟩, fun q => ⟨_, _, x7_isDay, fun z => ⟨_, rfl, (if_neg (fun y => bI_0.mp z y.2.1)).symm, Fr.rf⟩, fun q2 => ⟨_, _, x7_isWithin, fun q3 => ?_, fun z => ⟨_, rfl, (if_neg (fun y => bI_0.mp z y.2.2)).symm, Fr.rf⟩⟩⟩⟩)
  have hA : goA (aW A) c d w = goS (aW A) c.toNatClampNeg d.toNatClampNeg w.toNatClampNeg := if_pos ⟨bI_n.mp q, bI_n.mp q2, bI_n.mp q3⟩
  obtain ⟨c, hc, rfl⟩ := (inN_iff 16 (by decide)).mp (bI_n.mp q)
  obtain ⟨d, hd, rfl⟩ := (inN_iff 19 (by decide)).mp (bI_n.mp q2)
  obtain ⟨w, hw, rfl⟩ := (inN_iff 1 (by decide)).mp (bI_n.mp q3)
  rw [cl (show c < 2147483648 by omega), cl (show d < 2147483648 by omega), cl (show w < 2147483648 by omega)] at hA
  rw [hA]
  obtain ⟨v, s, hcl, rfl, hF⟩ := x7_ways (E := E) h ho hc (show d < 20 by omega)
  have hgo := goN_le (W := aW A) (c := c) (d := d) hc hm
  have ew : nI w = 0 ↔ w = 0 := nI_eq' (show w < 2147483648 by omega) (show 0 < 2147483648 by decide)
  have e4 : 4 * nI (am A) = nI (4 * am A) := by rw [show (4 : Int32) = nI 4 from rfl, pk_mul]
  have hsh : ∀ k, k ≤ 32 → (1 : Int64) <<< ((nI k).toInt64 &&& 63) = lN (2 ^ k) := by decide +kernel
  have hm' : am A ≤ 8 := hm
  refine ⟨_, _, hcl, ?_⟩
  rw [h.2.1.1, e4, hsh (4 * am A) (by omega)]
  generalize hG : goN (aW A) c d = G at *
  have fin : ∀ i r b, i + r = 4 * am A → G = 2 ^ i * b → (r = 0 ∨ b % 2 = 1) → ((¬ nI w = 0 → PL (fun v σ' => v = goS (aW A) c d w ∧ Fr sqX σ σ') (some (.long (lN (2 ^ r)))) s) ∧ (nI w = 0 → PL (fun v σ' => v = goS (aW A) c d w ∧ Fr sqX σ σ') (some (.long (lN b))) s)) := by
    intro i r b hir hGb hor
    have hg := gcd_halved hGb hor
    have hp : 0 < 2 ^ i := Nat.pow_pos (by decide)
    have e1 : G / 2 ^ i = b := by rw [hGb]; exact Nat.mul_div_cancel_left b hp
    have e2 : 2 ^ (4 * am A) / 2 ^ i = 2 ^ r := by rw [← hir, Nat.pow_add]; exact Nat.mul_div_cancel_left _ hp
    refine ⟨fun z => ⟨_, rfl, ?_, hF⟩, fun z => ⟨_, rfl, ?_, hF⟩⟩
    · unfold goS
      rw [if_neg (fun y => z (ew.mpr y)), hG]
      show _ = lN (2 ^ (4 * am A) / Nat.gcd G (2 ^ (4 * am A)))
      rw [← hir, hg, hir, e2]
    · unfold goS
      rw [if_pos (ew.mp z), hG]
      show _ = lN (G / Nat.gcd G (2 ^ (4 * am A)))
      rw [← hir, hg, e1]
  have loop : ∀ r i b, i + r = 4 * am A → G = 2 ^ i * b → Ru E mX7_gossip 58 [(0, .ref 0), (1, .int (nI c)), (2, .int (nI d)), (3, .int (nI w)), (4, .int (nI (4 * am A))), (5, .long (lN b)), (7, .long (lN (2 ^ r))), (9, .int (nI i))] [] s (PL (fun v σ' => v = goS (aW A) c d w ∧ Fr sqX σ σ')) := by
    intro r
    induction r with
    | zero =>
      intro i b hir hGb
      have f := fin i 0 b hir hGb (Or.inl rfl)
      refine tX7_gossip_58 ⟨fun _ => f, fun z => ?_⟩
      exfalso
      apply z
      rw [nI_le' (by omega) (by omega)]
      omega
    | succ r ih =>
      intro i b hir hGb
      have hp : 1 ≤ 2 ^ i := Nat.one_le_two_pow
      have hb : b ≤ G := by rw [hGb]; exact Nat.le_mul_of_pos_left b hp
      have hb62 : b < 2 ^ 62 := by omega
      have hr : 2 ^ (r + 1) ≤ 2 ^ 32 := Nat.pow_le_pow_right (by decide) (by omega)
      refine tX7_gossip_58 ?_
      rw [l_and1, lc0 (show b % 2 < 2 ^ 62 by omega), l_shr1 hb62, l_shr1 (show 2 ^ (r + 1) < 2 ^ 62 by omega), nI_1]
      refine ⟨fun z => ?_, fun _ => ⟨fun z => fin i (r + 1) b hir hGb (Or.inr (by omega)), fun z => ?_⟩⟩
      · rw [nI_le' (by omega) (by omega)] at z; omega
      · rw [show 2 ^ (r + 1) / 2 = 2 ^ r by rw [Nat.pow_succ]; omega]
        refine ih (i + 1) (b / 2) (by omega) ?_
        rw [hGb, Nat.pow_succ, Nat.mul_assoc]
        congr 1
        omega
  exact loop (4 * am A) 0 G (by omega) (by rw [Nat.pow_zero, Nat.one_mul])
theorem EvX.congr {c m : Nat} {v v' : Nat → Nat → Nat} (h : EvX c v m σ) (e : ∀ i, i < m → ∀ f, f < 4 → v f i = v' f i) : EvX c v' m σ := by
  obtain ⟨h1, h2, o, p, ⟨a1, a2, a3⟩, h3⟩ := h
  refine ⟨h1, fun i hi f hf => by rw [← e i hi f hf]; exact h2 i hi f hf, o, p, ⟨a1, a2, fun i j hi hj => ?_⟩, h3⟩
  rw [← e i hi 1 (by decide), ← e j hj 1 (by decide)]
  exact a3 i j hi hj
theorem x7_nextLot {x : Int32} : Call E mX7_nextLot [.int x] σ (some (.int (1103515245 * x + 12345))) σ := K_X7_nextLot (tX7_nextLot_0 ⟨rfl, rfl⟩)
theorem x7_lotOf {x : Int32} {m : Nat} (h0 : 0 < m) (hm : m < 65536) : Call E mX7_lotOf [.int x, .int (nI m)] σ (some (.int (nI (lotN x % m)))) σ := by
  refine K_X7_lotOf (tX7_lotOf_0 ⟨fun z => ?_, fun _ => ⟨fun z => ?_, ?_, rfl⟩⟩)
  · rw [show (0 : Int32) = nI 0 from rfl, nI_le' (by omega) (by decide)] at z; omega
  · rw [show (0 : Int32) = nI 0 from rfl, nI_eq' (by omega) (by decide)] at z; omega
  · rw [lot_u, lot_r x h0 hm]
theorem x7_draw (h : StX A σ) (ho : okA A) {seed : Int32} {n : Nat} (hn8 : n ≤ 8) : ∃ σ' : Hp, Call E mX7_drawEvents [.ref 0, .int seed, .int (nI n)] σ none σ' ∧ (EvX 18 (we (agW (aW A) seed n)) (wm (agW (aW A) seed n)) σ' ∧ Fr (sEv 18) σ σ') := by
  have hW := okA_W ho
  have hn : wn (aW A) ≤ 8 := hW.1
  have hWa : okW (agW (aW A) seed n) := agW_ok hW hn8
  have e18 : ∀ c i, sEv 18 c i → sqX c i := fun c i z => by unfold sEv at z; unfold sqX; omega
  have f0 : Fr (sEv 18) σ (up σ 18 5 0) := Fr.rf.up ⟨by decide, by decide⟩
  have hE0 : EvX 18 (agE seed (wn (aW A))) 0 (up σ 18 5 0) := ⟨by rw [up_s]; rfl, fun e he => absurd he (Nat.not_lt_zero e), id, id, ⟨fun i hi => absurd hi (Nat.not_lt_zero i), fun e he => absurd he (Nat.not_lt_zero e), fun e f he => absurd he (Nat.not_lt_zero e)⟩, fun i hi => absurd hi (Nat.not_lt_zero i)⟩
  have hsz : ∀ τ : Hp, Fr (sEv 18) σ τ → τ 2 4 = nI (wn (aW A)) := fun τ hF => (h.q (hF.mono e18)).cp.1
  refine C_X7_drawEvents (tX7_drawEvents_0 ?_)
  by_cases hz0 : wn (aW A) = 0
  · have ew : wm (agW (aW A) seed n) = 0 := if_pos hz0
    have fin : EvX 18 (we (agW (aW A) seed n)) (wm (agW (aW A) seed n)) (up σ 18 5 0) := by rw [ew]; exact hE0
    refine tX7_drawEvents_13 ?_
    rw [hsz _ f0, hz0]
    exact ⟨fun _ => ⟨rfl, fin, f0⟩, fun _ => ⟨fun _ => ⟨rfl, fin, f0⟩, fun z => absurd (by decide) z⟩⟩
  · have ew : wm (agW (aW A) seed n) = n := if_neg hz0
    have loop : ∀ e (τ : Hp), e ≤ n → (EvX 18 (agE seed (wn (aW A))) e τ ∧ Fr (sEv 18) σ τ) → Ru E mX7_drawEvents 13 [(0, .ref 0), (1, .int seed), (2, .int (nI n)), (3, .int (lcs seed (4 * e))), (4, .int (nI e))] [] τ (PV (fun σ' => EvX 18 (we (agW (aW A) seed n)) (wm (agW (aW A) seed n)) σ' ∧ Fr (sEv 18) σ σ')) := by
      refine for_up n _ _ ?_ ?_
      · intro e τ he ⟨hE, hF⟩ ih
        have hok : ∀ e', e' < n → agE seed (wn (aW A)) 0 e' ≤ 2 ∧ agE seed (wn (aW A)) 1 e' < 20 ∧ agE seed (wn (aW A)) 2 e' < 8 ∧ agE seed (wn (aW A)) 3 e' ≤ 9 := fun e' he' => hWa.2.2.2 e' (by rw [ew]; exact he')
        obtain ⟨s1, hc1, hE1, hF1⟩ := x1_tell (E := E) (kd := agE seed (wn (aW A)) 0 e) (d := agE seed (wn (aW A)) 1 e) (c := agE seed (wn (aW A)) 2 e) (nu := agE seed (wn (aW A)) 3 e) isEvt18 hE (fun e' he' => hok e' (by omega)) (by omega) (hok e he).2.1
        have hE1' : EvX 18 (agE seed (wn (aW A))) (e + 1) s1 := hE1.congr (fun i hi f hf => by
          show (if i = e then _ else _) = _
          by_cases z : i = e
          · rw [if_pos z, z]
            rcases (show f = 0 ∨ f = 1 ∨ f = 2 ∨ f = 3 by omega) with rfl | rfl | rfl | rfl <;> rfl
          · rw [if_neg z])
        have ih := ih s1 ⟨hE1', hF.tr hF1⟩
        have n1 : Call E mX7_nextLot [.int (lcs seed (4 * e))] τ (some (.int (lcs seed (4 * e + 0 + 1)))) τ := x7_nextLot
        have n2 : Call E mX7_nextLot [.int (lcs seed (4 * e + 0 + 1))] τ (some (.int (lcs seed (4 * e + 1 + 1)))) τ := x7_nextLot
        have n3 : Call E mX7_nextLot [.int (lcs seed (4 * e + 1 + 1))] τ (some (.int (lcs seed (4 * e + 2 + 1)))) τ := x7_nextLot
        have n4 : Call E mX7_nextLot [.int (lcs seed (4 * e + 2 + 1))] τ (some (.int (lcs seed (4 * e + 3 + 1)))) τ := x7_nextLot
        have l0 : Call E mX7_lotOf [.int (lcs seed (4 * e + 0 + 1)), .int 3] τ (some (.int (nI (agE seed (wn (aW A)) 0 e)))) τ := x7_lotOf (m := 3) (by decide) (by decide)
        have l1 : Call E mX7_lotOf [.int (lcs seed (4 * e + 1 + 1)), .int 20] τ (some (.int (nI (agE seed (wn (aW A)) 1 e)))) τ := x7_lotOf (m := 20) (by decide) (by decide)
        have l2 : Call E mX7_lotOf [.int (lcs seed (4 * e + 2 + 1)), .int (τ 2 4)] τ (some (.int (nI (agE seed (wn (aW A)) 2 e)))) τ := by
          rw [hsz τ hF]
          exact x7_lotOf (by omega) (by omega)
        have l3 : Call E mX7_lotOf [.int (lcs seed (4 * e + 3 + 1)), .int 10] τ (some (.int (nI (agE seed (wn (aW A)) 3 e)))) τ := x7_lotOf (m := 10) (by decide) (by decide)
        refine tX7_drawEvents_13 ?_
        rw [nI_1 e]
        refine ⟨fun z => ?_, fun _ => ⟨fun z => ?_, fun _ => ⟨_, _, n1, _, _, l0, _, _, n2, _, _, l1, _, _, n3, _, _, l2, _, _, n4, _, _, l3, s1, hc1, ih⟩⟩⟩
        · rw [nI_le' (by omega) (by omega)] at z; omega
        · rw [hsz τ hF, show (0 : Int32) = nI 0 from rfl, nI_le' (by omega) (by decide)] at z; omega
      · intro τ ⟨hE, hF⟩
        refine tX7_drawEvents_13 ⟨fun _ => ⟨rfl, ?_, hF⟩, fun z => absurd (Int32.le_refl _) z⟩
        rw [ew]
        exact hE
    exact loop 0 _ (Nat.zero_le _) ⟨hE0, f0⟩
theorem x7_ages (h : StX A σ) (ho : okA A) (x n w : Int32) : AnsX E mX7_ages [.ref 0, .int x, .int n, .int w] σ (agA (aW A) x n w) := by
  have hW := okA_W ho
  have hn : wn (aW A) ≤ 8 := hW.1
  refine C_X7_ages (tX7_ages_0 ⟨_, _, x7_isWithin, fun z => ⟨_, rfl, (if_neg (fun y => bI_0.mp z y.1)).symm, Fr.rf⟩, fun q => ⟨_, _, x7_isWithin, fun q2 => ?_, fun z => ⟨_, rfl, (if_neg (fun y => bI_0.mp z y.2)).symm, Fr.rf⟩⟩⟩)
  have hA : agA (aW A) x n w = agS (aW A) x n.toNatClampNeg w.toNatClampNeg := if_pos ⟨bI_n.mp q, bI_n.mp q2⟩
  obtain ⟨n, hn8, rfl⟩ := (inN_iff 8 (by decide)).mp (bI_n.mp q)
  obtain ⟨w, hw, rfl⟩ := (inN_iff 1 (by decide)).mp (bI_n.mp q2)
  rw [cl (show n < 2147483648 by omega), cl (show w < 2147483648 by omega)] at hA
  rw [hA]
  have ew : nI w = 0 ↔ w = 0 := nI_eq' (show w < 2147483648 by omega) (show 0 < 2147483648 by decide)
  obtain ⟨s1, hc1, hE1, hF1⟩ := x7_draw (E := E) (seed := x) h ho hn8
  have hF1 := hF1.mono (S' := sqX) (fun c i z => by unfold sEv at z; unfold sqX; omega)
  have hWa : okW (agW (aW A) x n) := agW_ok hW hn8
  obtain ⟨s2, hc2, hT2, hF2⟩ := x6_behind (E := E) (W := agW (aW A) x n) (msk := allE) (mk := allI (wm (agW (aW A) x n))) (d := 19) ⟨isCpl2, Or.inl rfl⟩ ⟨isEvt18, Or.inr rfl⟩ hWa (h.q hF1).cp hE1 (fun e he => bt_all hWa.2.1 he) (by decide)
  have hF2 := hF1.tr (hF2.mono (fun c i z => sTw_q z))
  refine ⟨s1, hc1, _, _, x1_all isEvt18 hE1 hWa.2.1, s2, hc2, fun z => ?_, fun z => ?_⟩
  · obtain ⟨X, hX, e, hp⟩ := cl_nI (R := fun k => rr (agW (aW A) x n) allE k 19) hn
    have hcb := x6_closedBits (E := E) hT2 (okT_W hWa)
    have e' : clS (wn (agW (aW A) x n)) (fun k => rr (agW (aW A) x n) allE k 19) = nI X := e
    rw [e'] at hcb
    refine ⟨_, _, hcb, _, _, j6_bitCount hX, _, rfl, ?_, hF2⟩
    unfold agS
    rw [if_neg (fun y => z (ew.mpr y)), hp]
  · refine ⟨_, _, x6_closedPairs (w := 0) hT2 (okT_W hWa) (by decide), _, rfl, ?_, hF2⟩
    unfold agS
    rw [if_pos (ew.mp z)]
    rfl
end XG
