/-! THE CLASS: a ring's days -/
/-- events of a day done up to e -/
def upTo (W : Wo) (msk : Nat → Bool) (k d e : Nat) : Rg := evs (we W) msk d k e (pre W msk k d)
def rel (W : Wo) (msk : Nat → Bool) (k e : Nat) : Prop := we W 2 e = k ∧ msk e = true
def qs (s a : Nat) : Nat → Nat
  | 0 => 0
  | n + 1 => qs s a n + qd s (a + n)
theorem qs_2 (a : Nat) : ∀ n, qs 2 a n = 2 * n
  | 0 => rfl
  | n + 1 => by
    show qs 2 a n + 2 = _
    rw [qs_2 a n]
    omega
theorem qs_1 (a : Nat) : ∀ n, qs 1 a n = n
  | 0 => rfl
  | n + 1 => by
    show qs 1 a n + 1 = _
    rw [qs_1 a n]
theorem qs_0 (a : Nat) : ∀ n, qs 0 a n + (a + 1) / 2 = (a + n + 1) / 2
  | 0 => by show 0 + _ = _; omega
  | n + 1 => by
    have ih := qs_0 a n
    show qs 0 a n + qd 0 (a + n) + _ = _
    have : qd 0 (a + n) = if (a + n) % 2 = 1 then 0 else 1 := by
      unfold qd
      rw [if_neg (by decide)]
      by_cases z : (a + n) % 2 = 1
      · rw [if_pos ⟨rfl, z⟩, if_pos z]
      · rw [if_neg (fun y => z y.2), if_neg z]
    rw [this]
    split <;> omega
theorem evs_skip {v : Nat → Nat → Nat} {msk : Nat → Bool} {d k : Nat} {r : Rg} {e0 : Nat} : ∀ e1, e0 ≤ e1 → (∀ e, e0 ≤ e → e < e1 → ¬ (v 1 e = d ∧ v 2 e = k ∧ msk e = true)) → evs v msk d k e1 r = evs v msk d k e0 r
  | 0, h, _ => by rw [show e0 = 0 by omega]
  | e1 + 1, h, hn => by
    rcases Nat.lt_or_ge e0 (e1 + 1) with q | q
    · show (if _ then _ else _) = _
      rw [if_neg (hn e1 (by omega) (by omega))]
      exact evs_skip e1 (by omega) (fun e a b => hn e a (by omega))
    · rw [show e0 = e1 + 1 by omega]
theorem trn_0 {r : Rg} (h : okR r) : trn r 0 = r := by
  obtain ⟨h1, h2, h3, h4⟩ := h
  obtain ⟨a, b, c, d, e, f, g, i⟩ := r
  dsimp only [gw, gs, gq, ga] at h1 h2 h3 h4
  unfold trn
  split
  · rfl
  · dsimp only [gw, gs, gq, ga]
    rw [show (e + 0) % 4 = e by omega, show min (f + 0) 4 = f by omega]
theorem trn_trn {r : Rg} {a b : Nat} : trn (trn r a) b = trn r (a + b) := by
  by_cases h : gl r = true ∨ gw r = 0
  · rw [show trn r a = r from if_pos h, show trn r (a + b) = r from if_pos h]
    exact if_pos h
  · rw [show trn r a = (gx r, gy r, gw r, gs r, (gq r + a) % 4, min (ga r + a) 4, gi r, gl r) from if_neg h, show trn r (a + b) = (gx r, gy r, gw r, gs r, (gq r + (a + b)) % 4, min (ga r + (a + b)) 4, gi r, gl r) from if_neg h]
    refine (if_neg h).trans ?_
    dsimp only [gx, gy, gw, gs, gq, ga, gi, gl]
    rw [show ((gq r + a) % 4 + b) % 4 = (gq r + (a + b)) % 4 by omega, show min (min (ga r + a) 4 + b) 4 = min (ga r + (a + b)) 4 by omega]
theorem upTo_ok {W : Wo} {msk : Nat → Bool} {k d e : Nat} (hW : okW W) (hk : k < wn W) (he : e ≤ wm W) : okR (upTo W msk k d e) := evs_ok (fun e' h' => hW.2.2.2 e' (by omega)) (pre_ok hW hk d)
theorem upTo_s {W : Wo} {msk : Nat → Bool} {k d e : Nat} : gs (upTo W msk k d e) = wc W 3 k := by
  unfold upTo
  rw [evs_s, pre_s]
/-- from one event of a ring to the next: it only goes round -/
theorem jump {W : Wo} {msk : Nat → Bool} {k d1 e1 : Nat} (hW : okW W) (hk : k < wn W) (he1 : e1 ≤ wm W) : ∀ n e2, e2 ≤ wm W → (n = 0 → e1 ≤ e2) →
    (∀ e, e < wm W → rel W msk k e → (d1 < we W 1 e ∨ (d1 = we W 1 e ∧ e1 ≤ e)) → (we W 1 e < d1 + n ∨ (we W 1 e = d1 + n ∧ e < e2)) → False) → upTo W msk k (d1 + n) e2 = trn (upTo W msk k d1 e1) (qs (wc W 3 k) d1 n)
  | 0, e2, h2, h, hno => by
    show upTo W msk k d1 e2 = trn _ 0
    rw [trn_0 (upTo_ok hW hk he1)]
    exact evs_skip e2 (h rfl) (fun e a b c => hno e (by omega) c.2 (Or.inr ⟨c.1.symm, a⟩) (Or.inr ⟨c.1, b⟩))
  | n + 1, e2, h2, _, hno => by
    have ih := jump (e1 := e1) (d1 := d1) (msk := msk) hW hk he1 n (wm W) (Nat.le_refl _) (fun _ => he1) (fun e a b c d => hno e a b c (by omega))
    have h3 : upTo W msk k (d1 + (n + 1)) e2 = pre W msk k (d1 + (n + 1)) := evs_skip (e0 := 0) e2 (Nat.zero_le _) (fun e a b c => hno e (by omega) c.2 (by omega) (by omega))
    have h4 : pre W msk k (d1 + (n + 1)) = goes (upTo W msk k (d1 + n) (wm W)) (d1 + n) := rfl
    rw [h3, h4, ih]
    unfold goes
    rw [trn_s, upTo_s, trn_trn]
    rfl
def oc (c c' _i : Nat) : Prop := c' = c
theorem ocu {c i : Nat} {v : Int32} {σ σ' : Hp} (h : Fr (oc c) σ σ') : Fr (oc c) σ (up σ' c i v) := h.up rfl
/-- the ring's cell holds r -/
def RgX (c : Nat) (r : Rg) (σ : Hp) : Prop := σ c 0 = gx r ∧ σ c 1 = gy r ∧ σ c 2 = nI (gw r) ∧ σ c 3 = nI (gs r) ∧ σ c 4 = nI (gq r) ∧ σ c 5 = nI (ga r) ∧ σ c 6 = nI (gi r) ∧ σ c 7 = bI (gl r = true)
def CpX (c : Nat) (cd : Nat → Nat → Nat) (n : Nat) (σ : Hp) : Prop := σ c 4 = nI n ∧ ∀ k, k < n → ∀ f, f < 4 → σ (c + 1 + f) k = nI (cd f k)
/-- the order of days: o, and where each event is in it, p -/
def isO (v : Nat → Nat → Nat) (m : Nat) (o p : Nat → Nat) : Prop := (∀ i, i < m → o i < m ∧ p (o i) = i) ∧ (∀ e, e < m → p e < m ∧ o (p e) = e) ∧ ∀ e f, e < m → f < m → (p e < p f ↔ v 1 e < v 1 f ∨ (v 1 e = v 1 f ∧ e < f))
def EvX (c : Nat) (v : Nat → Nat → Nat) (m : Nat) (σ : Hp) : Prop := σ c 5 = nI m ∧ (∀ e, e < m → ∀ f, f < 4 → σ (c + 1 + f) e = nI (v f e)) ∧ ∃ o p, isO v m o p ∧ ∀ i, i < m → σ (c + 5) i = nI (o i)
theorem RgX.fr {S : Nat → Nat → Prop} {c : Nat} {r : Rg} {σ σ' : Hp} (h : RgX c r σ) (hF : Fr S σ σ') (hS : ∀ i, i < 8 → ¬ S c i) : RgX c r σ' := by
  obtain ⟨h0, h1, h2, h3, h4, h5, h6, h7⟩ := h
  exact ⟨(hF _ _ (hS 0 (by decide))).trans h0, (hF _ _ (hS 1 (by decide))).trans h1, (hF _ _ (hS 2 (by decide))).trans h2, (hF _ _ (hS 3 (by decide))).trans h3, (hF _ _ (hS 4 (by decide))).trans h4, (hF _ _ (hS 5 (by decide))).trans h5, (hF _ _ (hS 6 (by decide))).trans h6, (hF _ _ (hS 7 (by decide))).trans h7⟩
theorem CpX.fr {S : Nat → Nat → Prop} {c : Nat} {cd : Nat → Nat → Nat} {n : Nat} {σ σ' : Hp} (h : CpX c cd n σ) (hF : Fr S σ σ') (hS : ∀ c' i, c ≤ c' → c' ≤ c + 4 → ¬ S c' i) : CpX c cd n σ' :=
  ⟨(hF _ _ (hS _ _ (by omega) (by omega))).trans h.1, fun k hk f hf => (hF _ _ (hS _ _ (by omega) (by omega))).trans (h.2 k hk f hf)⟩
theorem EvX.fr {S : Nat → Nat → Prop} {c : Nat} {v : Nat → Nat → Nat} {m : Nat} {σ σ' : Hp} (h : EvX c v m σ) (hF : Fr S σ σ') (hS : ∀ c' i, c ≤ c' → c' ≤ c + 5 → ¬ S c' i) : EvX c v m σ' := by
  obtain ⟨h1, h2, o, p, h3, h4⟩ := h
  exact ⟨(hF _ _ (hS _ _ (by omega) (by omega))).trans h1, fun e he f hf => (hF _ _ (hS _ _ (by omega) (by omega))).trans (h2 e he f hf), o, p, h3, fun i hi => (hF _ _ (hS _ _ (by omega) (by omega))).trans (h4 i hi)⟩
theorem and3 : ∀ n, n < 128 → nI n &&& 3 = nI (n % 4) := by decide +kernel
theorem legXe {r : Rg} (h : gq r < 4) : gx r + nI (gw r) * stX (gq r) = lgx r := by
  unfold lgx
  rcases (show gq r = 0 ∨ gq r = 1 ∨ gq r = 2 ∨ gq r = 3 by omega) with z | z | z | z <;> rw [z]
  · show _ + _ * 1 = _
    rw [Int32.mul_one]; rfl
  · show _ + _ * 0 = _
    rw [Int32.mul_zero, Int32.add_zero]; rfl
  · show _ + _ * (-1) = _
    rw [Int32.mul_neg, Int32.mul_one, ← Int32.sub_eq_add_neg]; rfl
  · show _ + _ * 0 = _
    rw [Int32.mul_zero, Int32.add_zero]; rfl
theorem legYe {r : Rg} (h : gq r < 4) : gy r + nI (gw r) * stY (gq r) = lgy r := by
  unfold lgy
  rcases (show gq r = 0 ∨ gq r = 1 ∨ gq r = 2 ∨ gq r = 3 by omega) with z | z | z | z <;> rw [z]
  · show _ + _ * 0 = _
    rw [Int32.mul_zero, Int32.add_zero]; rfl
  · show _ + _ * 1 = _
    rw [Int32.mul_one]; rfl
  · show _ + _ * 0 = _
    rw [Int32.mul_zero, Int32.add_zero]; rfl
  · show _ + _ * (-1) = _
    rw [Int32.mul_neg, Int32.mul_one, ← Int32.sub_eq_add_neg]; rfl
section XR
variable {E : Ev} {σ : Hp}
theorem x3_legX {c : Nat} {r : Rg} (hc : IsRing c) (h : RgX c r σ) (ho : okR r) : Call E mX3_legX [.ref c] σ (some (.int (lgx r))) σ := by
  obtain ⟨h0, h1, h2, h3, h4, h5, h6, h7⟩ := h
  have hq := ho.2.2.1
  refine K_X3_legX (tX3_legX_0 hc ?_)
  rw [h4, and3 _ (by omega), show gq r % 4 = gq r by omega, cl (by omega), h0, h2, legXe hq]
  exact ⟨vin hq (by decide), rfl, rfl⟩
theorem x3_legY {c : Nat} {r : Rg} (hc : IsRing c) (h : RgX c r σ) (ho : okR r) : Call E mX3_legY [.ref c] σ (some (.int (lgy r))) σ := by
  obtain ⟨h0, h1, h2, h3, h4, h5, h6, h7⟩ := h
  have hq := ho.2.2.1
  refine K_X3_legY (tX3_legY_0 hc ?_)
  rw [h4, and3 _ (by omega), show gq r % 4 = gq r by omega, cl (by omega), h1, h2, legYe hq]
  exact ⟨vin hq (by decide), rfl, rfl⟩
theorem x3_isClosed {c : Nat} {r : Rg} (hc : IsRing c) (h : RgX c r σ) (ho : okR r) : Call E mX3_isClosed [.ref c] σ (some (.int (bI (ga r = 4)))) σ := by
  obtain ⟨h0, h1, h2, h3, h4, h5, h6, h7⟩ := h
  refine K_X3_isClosed (tX3_isClosed_0 hc ?_)
  rw [h5, eq4 ho.2.2.2]
  exact ⟨fun z => ⟨by rw [bI_f z], rfl⟩, fun z => ⟨by rw [bI_t z], rfl⟩⟩
theorem x3_meets {c c' : Nat} {r r' : Rg} (hc : IsRing c) (hc' : IsRing c') (h : RgX c r σ) (h' : RgX c' r' σ) (ho : okR r) (ho' : okR r') : Call E mX3_meetsLegOf [.ref c, .ref c'] σ (some (.int (bI (sameL r r' = true)))) σ := by
  refine K_X3_meetsLegOf (tX3_meetsLegOf_0 hc hc' ⟨_, _, x3_legX hc h ho, _, _, x3_legX hc' h' ho', fun z => ⟨?_, rfl⟩, fun z => ⟨_, _, x3_legY hc h ho, _, _, x3_legY hc' h' ho', fun z2 => ⟨?_, rfl⟩, fun z2 => ⟨?_, rfl⟩⟩⟩)
  · rw [bI_f (by unfold sameL; rw [← Bool.decide_and, decide_eq_true_iff]; exact fun y => z y.1)]
  · rw [bI_f (by unfold sameL; rw [← Bool.decide_and, decide_eq_true_iff]; exact fun y => z2 y.2)]
  · rw [bI_t (by unfold sameL; rw [← Bool.decide_and, decide_eq_true_iff]; exact ⟨z, z2⟩)]
theorem x3_undergo {c kd nu : Nat} {r : Rg} (hc : IsRing c) (h : RgX c r σ) (ho : okR r) (hkd : kd ≤ 2) : ∃ σ' : Hp, Call E mX3_undergo [.ref c, .int (nI kd), .int (nI nu)] σ none σ' ∧ (RgX c (und r kd nu) σ' ∧ Fr (oc c) σ σ') := by
  obtain ⟨h0, h1, h2, h3, h4, h5, h6, h7⟩ := h
  have hq := ho.2.2.1
  have ha := ho.2.2.2
  have e0 : nI kd = 0 ↔ kd = 0 := nI_eq' (show kd < 2147483648 by omega) (show 0 < 2147483648 by decide)
  have e1 : nI kd = 1 ↔ kd = 1 := nI_eq' (show kd < 2147483648 by omega) (show 1 < 2147483648 by decide)
  refine C_X3_undergo (tX3_undergo_0 hc ⟨fun z => ⟨fun z2 => ⟨rfl, ?_, (ocu Fr.rf)⟩, fun z2 => ?_⟩, fun z => ⟨rfl, ?_, (ocu (ocu Fr.rf))⟩⟩)
  · rw [show kd = 2 by
      have a1 : kd ≠ 0 := fun y => z (e0.mpr y)
      have a2 : kd ≠ 1 := fun y => z2 (e1.mpr y)
      omega, und_2]
    exact ⟨by simp [up]; exact h0, by simp [up]; exact h1, by simp [up]; exact h2, by simp [up]; exact h3, by simp [up]; exact h4, by simp [up]; exact h5, by simp [up]; exact h6, by rw [up_s]; exact (bI_t rfl).symm⟩
  · rw [e1.mp z2, und_1, h4, and3 _ (by omega), show gq r % 4 = gq r by omega, cl (by omega), h0, h1, h2, legXe hq, legYe hq, show (2 : Int32) = nI 2 from rfl, nI_add, and3 _ (by omega), h5, h6]
    have fr : ∀ a b x y z : Int32, Fr (oc c) σ (up (up (up (up (up σ c 0 a) c 1 b) c 4 x) c 6 y) c 5 z) := fun a b x y z => (ocu (ocu (ocu (ocu (ocu Fr.rf)))))
    have key : ∀ s : Nat, s = (if 1 ≤ ga r ∧ ga r ≤ 3 then 1 else 0) → RgX c (lgx r, lgy r, gw r, gs r, (gq r + 2) % 4, 0, gi r + (if 1 ≤ ga r ∧ ga r ≤ 3 then 1 else 0), gl r) (up (up (up (up (up σ c 0 (lgx r)) c 1 (lgy r)) c 4 (nI ((gq r + 2) % 4))) c 6 (nI (gi r) + nI s)) c 5 0) := by
      intro s hs
      rw [← hs]
      exact ⟨by simp [up], by simp [up], by simp [up]; exact h2, by simp [up]; exact h3, by simp [up], by simp [up]; rfl, by simp [up, nI_add], by simp [up]; exact h7⟩
    refine ⟨vin hq (by decide), fun y => ⟨rfl, key 0 ?_, fr _ _ _ _ _⟩, fun y => ⟨fun y2 => ⟨rfl, key 0 ?_, fr _ _ _ _ _⟩, fun y2 => ⟨rfl, key 1 ?_, fr _ _ _ _ _⟩⟩⟩
    · rw [show (0 : Int32) = nI 0 from rfl, nI_le' (by omega) (by decide)] at y
      rw [if_neg (by omega)]
    · rw [show (4 : Int32) = nI 4 from rfl, nI_le' (by decide) (by omega)] at y2
      rw [if_neg (by omega)]
    · rw [show (0 : Int32) = nI 0 from rfl, nI_le' (by omega) (by decide)] at y
      rw [show (4 : Int32) = nI 4 from rfl, nI_le' (by decide) (by omega)] at y2
      rw [if_pos (by omega)]
  · rw [e0.mp z, und_0]
    exact ⟨by simp [up]; exact h0, by simp [up]; exact h1, by simp [up], by simp [up]; exact h3, by simp [up]; exact h4, by simp [up]; rfl, by simp [up]; exact h6, by simp [up]; exact h7⟩
theorem x3_goRound {c a n : Nat} {r : Rg} (hc : IsRing c) (h : RgX c r σ) (ho : okR r) (hb : a + n ≤ 20) : ∃ σ' : Hp, Call E mX3_goRound [.ref c, .int (nI a), .int (nI (a + n))] σ none σ' ∧ (RgX c (trn r (qs (gs r) a n)) σ' ∧ Fr (oc c) σ σ') := by
  have hR := h
  obtain ⟨h0, h1, h2, h3, h4, h5, h6, h7⟩ := h
  obtain ⟨hw, hs, hq, ha⟩ := ho
  have ew : nI (gw r) = 0 ↔ gw r = 0 := nI_eq' (show gw r < 2147483648 by omega) (show 0 < 2147483648 by decide)
  have es0 : nI (gs r) = 0 ↔ gs r = 0 := nI_eq' (show gs r < 2147483648 by omega) (show 0 < 2147483648 by decide)
  have es2 : nI (gs r) = 2 ↔ gs r = 2 := nI_eq' (show gs r < 2147483648 by omega) (show 2 < 2147483648 by decide)
  have go : ∀ q : Nat, ¬ (gl r = true ∨ gw r = 0) → q ≤ 40 → q = qs (gs r) a n → Ru E mX3_goRound 53 [(0, .ref c), (1, .int (nI a)), (2, .int (nI (a + n))), (3, .int (nI q))] [] σ (PV (fun σ' => RgX c (trn r (qs (gs r) a n)) σ' ∧ Fr (oc c) σ σ')) := by
    intro q hne hq40 hqe
    rw [← hqe, show trn r q = (gx r, gy r, gw r, gs r, (gq r + q) % 4, min (ga r + q) 4, gi r, gl r) from if_neg hne]
    refine tX3_goRound_53 hc ?_
    rw [h5, nI_add, h4, nI_add, and3 _ (by omega)]
    refine ⟨fun z => ⟨rfl, ?_, (ocu (ocu Fr.rf))⟩, fun z => ⟨rfl, ?_, (ocu (ocu Fr.rf))⟩⟩
    · rw [show (4 : Int32) = nI 4 from rfl, nI_le' (by decide) (by omega)] at z
      exact ⟨by simp [up]; exact h0, by simp [up]; exact h1, by simp [up]; exact h2, by simp [up]; exact h3, by simp [up], by rw [up_s]; show _ = nI (min _ 4); rw [show min (ga r + q) 4 = 4 by omega]; rfl, by simp [up]; exact h6, by simp [up]; exact h7⟩
    · rw [show (4 : Int32) = nI 4 from rfl, nI_le' (by decide) (by omega)] at z
      exact ⟨by simp [up]; exact h0, by simp [up]; exact h1, by simp [up]; exact h2, by simp [up]; exact h3, by simp [up], by rw [up_s]; show _ = nI (min _ 4); rw [show min (ga r + q) 4 = ga r + q by omega], by simp [up]; exact h6, by simp [up]; exact h7⟩
  refine C_X3_goRound (tX3_goRound_0 hc ?_)
  rw [h7, h2, h3]
  refine ⟨fun z => ⟨rfl, ?_, Fr.rf⟩, fun z => ⟨fun z2 => ⟨fun z3 => ⟨fun z4 => ?_, fun z4 => ?_⟩, fun z3 => ?_⟩, fun z2 => ⟨rfl, ?_, Fr.rf⟩⟩⟩
  · rw [show trn r (qs (gs r) a n) = r from if_pos (Or.inl (bI_n.mp z))]
    exact hR
  · rw [pk_sub (show a ≤ a + n by omega)]
    have s1 : gs r = 1 := by
      have a1 : gs r ≠ 0 := fun y => z4 (es0.mpr y)
      have a2 : gs r ≠ 2 := fun y => z3 (es2.mpr y)
      omega
    refine go _ (fun y => y.elim (bI_0.mp z) (fun y => z2 (ew.mpr y))) (by omega) ?_
    rw [s1, qs_1]; omega
  · have s0 := es0.mp z4
    have hqs := qs_0 a n
    rw [nI_1, nI_1, show (2 : Int32) = nI 2 from rfl, pk_div (by omega) (by decide) (by decide), pk_div (by omega) (by decide) (by decide), pk_sub (by omega)]
    refine go _ (fun y => y.elim (bI_0.mp z) (fun y => z2 (ew.mpr y))) (by omega) ?_
    rw [s0]; omega
  · rw [pk_sub (show a ≤ a + n by omega), show (2 : Int32) = nI 2 from rfl, pk_mul]
    refine go _ (fun y => y.elim (bI_0.mp z) (fun y => z2 (ew.mpr y))) (by omega) ?_
    rw [es2.mp z3, qs_2]; omega
  · rw [show trn r (qs (gs r) a n) = r from if_pos (Or.inr (ew.mp z2))]
    exact hR
theorem x3_begin {c c1 n k : Nat} {cd : Nat → Nat → Nat} (hc : IsRing c) (hc1 : IsCpl c1) (hne : ∀ f, f < 4 → c1 + 1 + f ≠ c) (hC : CpX c1 cd n σ) (hn : n ≤ 8) (hk : k < n) : ∃ σ' : Hp, Call E mX3_begin [.ref c, .ref c1, .int (nI k)] σ none σ' ∧ (RgX c (ini cd k) σ' ∧ Fr (oc c) σ σ') := by
  have g : ∀ f, f < 4 → σ (c1 + 1 + f) k = nI (cd f k) := hC.2 k hk
  have g0 := g 0 (by decide)
  have g1 := g 1 (by decide)
  have g2 := g 2 (by decide)
  have g3 := g 3 (by decide)
  have n1 := hne 1 (by decide)
  have n2 := hne 2 (by decide)
  have n3 := hne 3 (by decide)
  refine C_X3_begin (tX3_begin_0 hc hc1 ⟨vin (by omega) (by decide), rfl, ?_, (ocu (ocu (ocu (ocu (ocu (ocu (ocu (ocu Fr.rf))))))))⟩)
  rw [cl (show k < 2147483648 by omega)]
  rw [up_c (σ := σ) (c := c) (c' := c1 + 2) n1, up_c (c := c) (c' := c1 + 3) n2, up_c (c := c) (c' := c1 + 3) n2, up_c (c := c) (c' := c1 + 4) n3, up_c (c := c) (c' := c1 + 4) n3, up_c (c := c) (c' := c1 + 4) n3]
  refine ⟨by simp [up]; exact g0, by simp [up]; exact g1, by simp [up]; exact g2, by simp [up]; exact g3, by simp [up]; rfl, by simp [up]; rfl, by simp [up]; rfl, by rw [up_s]; exact (bI_f Bool.false_ne_true).symm⟩
end XR
