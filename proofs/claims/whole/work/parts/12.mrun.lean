/-! THE REFERENCE: its days -/
theorem s_l : ∀ n, n < 32 → ((nI n &&& 31).toBitVec.smod 32).toNat = n := by decide +kernel
theorem shl1 {k : Nat} (h : k < 31) : (1 : Int32) <<< (nI k &&& 31) = nI (2 ^ k) := by
  have := pk_shlN (n := 1) (nI k &&& 31) k (s_l k (by omega)) (by rw [Nat.one_mul]; exact Nat.lt_trans (Nat.pow_lt_pow_right (by decide) h) (by decide))
  rw [Nat.one_mul] at this
  exact this
theorem bt_nI {B j : Nat} (hB : B < 2147483648) (hj : j < 31) : bt (nI B) j = B.testBit j := by
  unfold bt
  rw [pk_shrN hB (nI j &&& 31) j (s_l j (by omega))]
  have h1 : nI (B / 2 ^ j) &&& 1 = nI (B / 2 ^ j % 2) := by
    have := pk_andN (n := B / 2 ^ j) (Nat.lt_of_le_of_lt (Nat.div_le_self _ _) (by omega)) (m := 1) 1 (by decide)
    simpa using this
  rw [h1, show (1 : Int32) = nI 1 from rfl]
  have h2 : B / 2 ^ j % 2 < 2 := Nat.mod_lt _ (by decide)
  simp only [nI_eq' (show B / 2 ^ j % 2 < 2147483648 by omega) (show 1 < 2147483648 by decide)]
  rw [Nat.testBit_eq_decide_div_mod_eq]
theorem orI (a b : Nat) : nI a ||| nI b = nI (a ||| b) := by
  unfold nI
  apply Int32.toBitVec_inj.mp
  simp
theorem or_bit {B k : Nat} (hB : B < 256) (hk : k < 8) : nI B ||| (1 <<< (nI k &&& 31)) = nI (B ||| 2 ^ k) ∧ (B ||| 2 ^ k) < 256 := by
  rw [shl1 (by omega), orI]
  refine ⟨rfl, ?_⟩
  exact Nat.or_lt_two_pow (n := 8) hB (Nat.pow_lt_pow_right (by decide) hk)
section MR
variable {E : Ev} {σ : Hp}
theorem c8_legX {x b : Int32} {q : Nat} (hq : q < 4) : Call E mX8_legX [.int x, .int b, .int (nI q)] σ (some (.int (if q = 0 then x + b else if q = 2 then x - b else x))) σ := by
  refine K_X8_legX (tX8_legX_0 ?_)
  simp only [show (0 : Int32) = nI 0 from rfl, show (2 : Int32) = nI 2 from rfl, nI_eq' (show q < 2147483648 by omega) (show 0 < 2147483648 by decide), nI_eq' (show q < 2147483648 by omega) (show 2 < 2147483648 by decide)]
  refine ⟨fun h => ⟨fun h2 => ⟨?_, rfl⟩, fun h2 => ⟨?_, rfl⟩⟩, fun h => ⟨?_, rfl⟩⟩
  · rw [if_neg h, if_neg h2]
  · rw [if_neg h, if_pos h2]
  · rw [if_pos h]
theorem c8_legY {x b : Int32} {q : Nat} (hq : q < 4) : Call E mX8_legY [.int x, .int b, .int (nI q)] σ (some (.int (if q = 1 then x + b else if q = 3 then x - b else x))) σ := by
  refine K_X8_legY (tX8_legY_0 ?_)
  simp only [show (1 : Int32) = nI 1 from rfl, show (3 : Int32) = nI 3 from rfl, nI_eq' (show q < 2147483648 by omega) (show 1 < 2147483648 by decide), nI_eq' (show q < 2147483648 by omega) (show 3 < 2147483648 by decide)]
  refine ⟨fun h => ⟨fun h2 => ⟨?_, rfl⟩, fun h2 => ⟨?_, rfl⟩⟩, fun h => ⟨?_, rfl⟩⟩
  · rw [if_neg h, if_neg h2]
  · rw [if_neg h, if_pos h2]
  · rw [if_pos h]
/-- couple k as the reference's rows have it now; B: who is left -/
def RgM (σ : Hp) (B k : Nat) (r : Rg) : Prop := σ 67 k = gx r ∧ σ 68 k = gy r ∧ σ 69 k = nI (gw r) ∧ σ 70 k = nI (gq r) ∧ σ 71 k = nI (ga r) ∧ σ 72 k = nI (gi r) ∧ B.testBit k = gl r
theorem rem4 {n : Nat} (h : n < 2147483648) : nI n - nI n / 4 * 4 = nI (n % 4) := pk_rem (d := 4) h (by decide) (by decide)
theorem und_0 (r : Rg) (nu : Nat) : und r 0 nu = (gx r, gy r, nu, gs r, gq r, 0, gi r, gl r) := rfl
theorem und_1 (r : Rg) (nu : Nat) : und r 1 nu = (lgx r, lgy r, gw r, gs r, (gq r + 2) % 4, 0, gi r + (if 1 ≤ ga r ∧ ga r ≤ 3 then 1 else 0), gl r) := rfl
theorem und_2 (r : Rg) (nu : Nat) : und r 2 nu = (gx r, gy r, gw r, gs r, gq r, ga r, gi r, true) := rfl
theorem c8_changesOver {B k : Nat} {r : Rg} (hk : k < 8) (hr : RgM σ B k r) (ho : okR r) (nu : Nat) : ∃ σ' : Hp, Call E mX8_changesOver [.ref 53, .int (nI k)] σ none σ' ∧ (RgM σ' B k (und r 1 nu) ∧ Fr (fun c i => 67 ≤ c ∧ c ≤ 72 ∧ i = k) σ σ') := by
  obtain ⟨h1, h2, h3, h4, h5, h6, h7⟩ := hr
  obtain ⟨o1, o2, o3, o4⟩ := ho
  refine C_X8_changesOver (tX8_changesOver_0 ?_)
  rw [cl (show k < 2147483648 by omega)]
  have fr : ∀ a b c d e, Fr (fun c i => 67 ≤ c ∧ c ≤ 72 ∧ i = k) σ (up (up (up (up (up σ 67 k a) 68 k b) 70 k c) 72 k d) 71 k e) := fun a b c d e => ((((Fr.rf.up (by simp)).up (by simp)).up (by simp)).up (by simp)).up (by simp)
  have hx : (if gq r = 0 then gx r + nI (gw r) else if gq r = 2 then gx r - nI (gw r) else gx r) = lgx r := rfl
  have hy : (if gq r = 1 then gy r + nI (gw r) else if gq r = 3 then gy r - nI (gw r) else gy r) = lgy r := rfl
  have hw : nI (gq r) + 2 - (nI (gq r) + 2) / 4 * 4 = nI ((gq r + 2) % 4) := by
    rw [show (2 : Int32) = nI 2 from rfl, nI_add]
    exact rem4 (by omega)
  have h1' : σ 67 k = r.1 := h1
  refine ⟨vin hk (by decide), _, _, (by rw [h1, h3, h4]; exact c8_legX o3), _, _, (by rw [h2, h3, h4]; exact c8_legY o3), _, _, c8_in, fun q => ⟨rfl, ?_, fr _ _ _ _ _⟩, fun q => ⟨rfl, ?_, fr _ _ _ _ _⟩⟩
  · rw [bI_0, h5, show (1 : Int32) = nI 1 from rfl, show (3 : Int32) = nI 3 from rfl, nI_le' (by decide) (by omega), nI_le' (by omega) (by decide)] at q
    rw [und_1, hx, hy, h4, hw, h6, if_neg q, Int32.add_zero]
    exact ⟨by simp [up], by simp [up], by simp [up, h3], by simp [up], by simp [up]; rfl, by simp [up], h7⟩
  · rw [bI_n, h5, show (1 : Int32) = nI 1 from rfl, show (3 : Int32) = nI 3 from rfl, nI_le' (by decide) (by omega), nI_le' (by omega) (by decide)] at q
    rw [und_1, hx, hy, h4, hw, h6, if_pos q, nI_1]
    exact ⟨by simp [up], by simp [up], by simp [up, h3], by simp [up], by simp [up]; rfl, by simp [up], h7⟩
/-- the events that the reference goes by now -/
def NwM (v : Nat → Nat → Nat) (m : Nat) (σ : Hp) : Prop := σ 53 12 = nI m ∧ ∀ e, e < m → ∀ f, f < 4 → σ (63 + f) e = nI (v f e)
/-- who is left -/
def LfM (B : Nat) (σ : Hp) : Prop := B < 256 ∧ σ 53 24 = nI B
theorem tb_or {B k j : Nat} : (B ||| 2 ^ k).testBit j = (B.testBit j || decide (k = j)) := by
  rw [Nat.testBit_or, Nat.testBit_two_pow]
theorem c8_befalls {v : Nat → Nat → Nat} {m B e : Nat} {r : Rg} (hm : m ≤ 8) (hv : okE v m) (hN : NwM v m σ) (hB : LfM B σ) (he : e < m) (hr : RgM σ B (v 2 e) r) (ho : okR r) :
    ∃ σ' : Hp, Call E mX8_befalls [.ref 53, .int (nI e)] σ none σ' ∧ (∃ B', LfM B' σ' ∧ RgM σ' B' (v 2 e) (und r (v 0 e) (v 3 e)) ∧ (∀ j, j ≠ v 2 e → B'.testBit j = B.testBit j) ∧ Fr (fun c i => (67 ≤ c ∧ c ≤ 72 ∧ i = v 2 e) ∨ (c = 53 ∧ i = 24)) σ σ') := by
  obtain ⟨v0, v1, v2, v3⟩ := hv e he
  have n0 : σ 63 e = nI (v 0 e) := hN.2 e he 0 (by decide)
  have n2 : σ 65 e = nI (v 2 e) := hN.2 e he 2 (by decide)
  have n3 : σ 66 e = nI (v 3 e) := hN.2 e he 3 (by decide)
  have ce : (nI e).toNatClampNeg = e := cl (by omega)
  have ck : (nI (v 2 e)).toNatClampNeg = v 2 e := cl (by omega)
  have ve : vp_in (nI e) 8 := vin (by omega) (by decide)
  have vk : vp_in (nI (v 2 e)) 8 := vin v2 (by decide)
  have L1 : ∀ τ : Hp, σ 63 e = τ 63 e → LfM B τ → ∀ {r' : Rg}, v 0 e ≠ 2 → RgM τ B (v 2 e) r' → r' = und r (v 0 e) (v 3 e) → Fr (fun c i => (67 ≤ c ∧ c ≤ 72 ∧ i = v 2 e) ∨ (c = 53 ∧ i = 24)) σ τ →
      Ru E mX8_befalls 50 [(0, .ref 53), (1, .int (nI e)), (2, .int (nI (v 2 e)))] [] τ (PV (fun σ' => ∃ B', LfM B' σ' ∧ RgM σ' B' (v 2 e) (und r (v 0 e) (v 3 e)) ∧ (∀ j, j ≠ v 2 e → B'.testBit j = B.testBit j) ∧ Fr (fun c i => (67 ≤ c ∧ c ≤ 72 ∧ i = v 2 e) ∨ (c = 53 ∧ i = 24)) σ σ')) := by
    intro τ h63 hL r' hne hR hrr hF
    refine tX8_befalls_50 ⟨ve, fun q => ⟨rfl, B, ⟨hL.1, ?_⟩, ?_, fun _ _ => rfl, hF.up (Or.inr ⟨rfl, rfl⟩)⟩, fun q => ?_⟩
    · rw [up_s, Int32.or_zero]; exact hL.2
    · rw [← hrr]
      obtain ⟨a, b, c, d, e', f, g⟩ := hR
      exact ⟨by simp [up, a], by simp [up, b], by simp [up, c], by simp [up, d], by simp [up, e'], by simp [up, f], g⟩
    · rw [ce, ← h63, n0, show (2 : Int32) = nI 2 from rfl, nI_eq' (by omega) (by decide)] at q
      exact absurd q hne
  refine C_X8_befalls (tX8_befalls_0 ?_)
  rw [ce, n0, n2, n3, ck]
  refine ⟨ve, fun q => ?_, fun q => ⟨vk, ?_⟩⟩
  · rw [show (0 : Int32) = nI 0 from rfl, nI_eq' (by omega) (by decide)] at q
    refine tX8_befalls_35 ⟨ve, fun q2 => ?_, fun q2 => ?_⟩
    · rw [ce, n0, show (1 : Int32) = nI 1 from rfl, nI_eq' (by omega) (by decide)] at q2
      have e2 : v 0 e = 2 := by omega
      refine tX8_befalls_50 ⟨ve, fun q3 => ?_, fun q3 => ?_⟩
      · rw [ce, n0, show (2 : Int32) = nI 2 from rfl, nI_eq' (by omega) (by decide)] at q3
        exact absurd e2 q3
      · obtain ⟨ho1, ho2⟩ := or_bit hB.1 v2
        refine ⟨rfl, B ||| 2 ^ (v 2 e), ⟨ho2, by rw [up_s, hB.2, ho1]⟩, ?_, fun j hj => ?_, Fr.rf.up (Or.inr ⟨rfl, rfl⟩)⟩
        · rw [e2, und_2]
          obtain ⟨a, b, c, d, e', f, g⟩ := hr
          exact ⟨by simp [up, a], by simp [up, b], by simp [up, c], by simp [up, d], by simp [up, e'], by simp [up, f], by rw [tb_or]; simp⟩
        · rw [tb_or]; simp [Ne.symm hj]
    · rw [ce, n0, show (1 : Int32) = nI 1 from rfl, nI_eq' (by omega) (by decide)] at q2
      obtain ⟨τ, hc, hR, hF⟩ := c8_changesOver (E := E) v2 hr ho (v 3 e)
      refine ⟨τ, hc, L1 τ (hF 63 e (by omega)).symm ⟨hB.1, by rw [hF 53 24 (by omega)]; exact hB.2⟩ (by omega) hR (by rw [q2]) (hF.mono (fun c i h => Or.inl h))⟩
  · rw [show (0 : Int32) = nI 0 from rfl, nI_eq' (by omega) (by decide)] at q
    refine tX8_befalls_35 ⟨ve, fun q2 => ?_, fun q2 => ?_⟩
    · refine L1 _ (by simp [up]) ⟨hB.1, by simp [up]; exact hB.2⟩ (by omega) (r' := und r 0 (v 3 e)) ?_ (by rw [q]) ((Fr.rf.up (Or.inl ⟨by decide, by decide, rfl⟩)).up (Or.inl ⟨by decide, by decide, rfl⟩))
      rw [und_0]
      obtain ⟨a, b, c, d, e', f, g⟩ := hr
      exact ⟨by simp [up, a], by simp [up, b], by simp [up], by simp [up, d], by simp [up]; rfl, by simp [up, f], g⟩
    · have : up (up σ 69 (v 2 e) (nI (v 3 e))) 71 (v 2 e) 0 63 e = nI (v 0 e) := by simp [up, n0]
      rw [ce, this, show (1 : Int32) = nI 1 from rfl, nI_eq' (by omega) (by decide)] at q2
      omega
theorem c8_goesRound {B k d : Nat} {r : Rg} (hk : k < 8) (hd : d < 20) (hs : σ 58 k = nI (gs r)) (hB : LfM B σ) (hr : RgM σ B k r) (ho : okR r) :
    ∃ σ' : Hp, Call E mX8_goesRound [.ref 53, .int (nI k), .int (nI d)] σ none σ' ∧ (RgM σ' B k (goes r d) ∧ Fr (fun c i => (c = 70 ∨ c = 71) ∧ i = k) σ σ') := by
  obtain ⟨o1, o2, o3, o4⟩ := ho
  have ck : (nI k).toNatClampNeg = k := cl (by omega)
  have fin : ∀ q, q ≤ 2 → goes r d = trn r q → Ru E mX8_goesRound 35 [(0, .ref 53), (1, .int (nI k)), (2, .int (nI d))] [.int (nI q)] σ (PV (fun σ' => RgM σ' B k (goes r d) ∧ Fr (fun c i => (c = 70 ∨ c = 71) ∧ i = k) σ σ')) := by
    intro q hq he
    rw [he]
    obtain ⟨h1, h2, h3, h4, h5, h6, h7⟩ := hr
    refine tX8_goesRound_35 ?_
    rw [ck, h3, hB.2]
    refine ⟨vin hk (by decide), fun z => ⟨rfl, ?_, Fr.rf⟩, fun z => ⟨_, _, c8_isIn, fun z2 => ⟨rfl, ?_, Fr.rf⟩, fun z2 => ?_⟩⟩
    · rw [show (0 : Int32) = nI 0 from rfl, nI_le' (by omega) (by decide)] at z
      unfold trn
      rw [if_pos (Or.inr (by omega))]
      exact ⟨h1, h2, h3, h4, h5, h6, h7⟩
    · have hl : gl r = true := by
        rw [← h7, ← bt_nI (by have := hB.1; omega) (by omega)]
        exact bI_n.mp z2
      unfold trn
      rw [if_pos (Or.inl hl)]
      exact ⟨h1, h2, h3, h4, h5, h6, h7⟩
    · have hl : ¬ gl r = true := by
        rw [← h7, ← bt_nI (by have := hB.1; omega) (by omega)]
        exact bI_0.mp z2
      rw [show (0 : Int32) = nI 0 from rfl, nI_le' (by omega) (by decide)] at z
      have ht : trn r q = (gx r, gy r, gw r, gs r, (gq r + q) % 4, min (ga r + q) 4, gi r, gl r) := by
        unfold trn
        rw [if_neg (by rintro (y | y); exact hl y; omega)]
      rw [ht, h4, h5, nI_add, nI_add, rem4 (by omega)]
      refine ⟨fun y => ⟨rfl, ⟨by simp [up, h1], by simp [up, h2], by simp [up, h3], by simp [up], ?_, by simp [up, h6], h7⟩, (Fr.rf.up ⟨Or.inl rfl, rfl⟩).up ⟨Or.inr rfl, rfl⟩⟩, fun y => ⟨rfl, ⟨by simp [up, h1], by simp [up, h2], by simp [up, h3], by simp [up], ?_, by simp [up, h6], h7⟩, (Fr.rf.up ⟨Or.inl rfl, rfl⟩).up ⟨Or.inr rfl, rfl⟩⟩⟩
      · rw [show (4 : Int32) = nI 4 from rfl, nI_le' (by omega) (by decide)] at y
        rw [up_s]
        show nI (ga r + q) = nI (min (ga r + q) 4)
        rw [Nat.min_eq_left y]
      · rw [show (4 : Int32) = nI 4 from rfl, nI_le' (by omega) (by decide)] at y
        rw [up_s]
        show nI 4 = nI (min (ga r + q) 4)
        rw [Nat.min_eq_right (by omega)]
  refine C_X8_goesRound (tX8_goesRound_0 ?_)
  rw [ck, hs]
  refine ⟨vin (by omega) (by decide), fun z => ⟨fun z2 => ?_, fun z2 => ⟨fun z3 => ?_, fun z3 => ?_⟩⟩, fun z => ?_⟩
  · rw [show (2 : Int32) = nI 2 from rfl, nI_eq' (by omega) (by decide)] at z
    rw [show (0 : Int32) = nI 0 from rfl, nI_eq' (by omega) (by decide)] at z2
    exact fin 1 (by decide) (by unfold goes qd; rw [if_neg z, if_neg (by omega)])
  · rw [show (2 : Int32) = nI 2 from rfl, nI_eq' (by omega) (by decide)] at z
    rw [show (0 : Int32) = nI 0 from rfl, nI_eq' (by omega) (by decide)] at z2
    rw [show (2 : Int32) = nI 2 from rfl, pk_rem (by omega) (by decide) (by decide), show (1 : Int32) = nI 1 from rfl, nI_eq' (by omega) (by decide)] at z3
    exact fin 1 (by decide) (by unfold goes qd; rw [if_neg z, if_neg (by omega)])
  · rw [show (2 : Int32) = nI 2 from rfl, nI_eq' (by omega) (by decide)] at z
    rw [show (0 : Int32) = nI 0 from rfl, nI_eq' (by omega) (by decide)] at z2
    rw [show (2 : Int32) = nI 2 from rfl, pk_rem (by omega) (by decide) (by decide), show (1 : Int32) = nI 1 from rfl, nI_eq' (by omega) (by decide)] at z3
    exact fin 0 (by decide) (by unfold goes qd; rw [if_neg z, if_pos ⟨z2, z3⟩])
  · rw [show (2 : Int32) = nI 2 from rfl, nI_eq' (by omega) (by decide)] at z
    exact fin 2 (by decide) (by unfold goes qd; rw [if_pos z])
end MR
