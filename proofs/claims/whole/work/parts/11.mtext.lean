/-! THE REFERENCE: small methods, its text -/
section MT
variable {E : Ev} {σ : Hp}
theorem c8_in {v a b : Int32} : Call E mX8_in [.int v, .int a, .int b] σ (some (.int (bI (a ≤ v ∧ v ≤ b)))) σ := by
  refine K_X8_in (tX8_in_0 ⟨fun h => ⟨?_, rfl⟩, fun h => ⟨fun h2 => ⟨?_, rfl⟩, fun h2 => ⟨?_, rfl⟩⟩⟩)
  · rw [bI_f (fun q => absurd h (Int32.not_lt.mpr q.1))]
  · rw [bI_f (fun q => absurd h2 (Int32.not_lt.mpr q.2))]
  · rw [bI_t ⟨Int32.not_lt.mp h, Int32.not_lt.mp h2⟩]
theorem c8_isIn {m : Int32} {e : Nat} : Call E mX8_isIn [.int m, .int (nI e)] σ (some (.int (bI (bt m e = true)))) σ := by
  refine K_X8_isIn (tX8_isIn_0 ⟨fun h => ⟨?_, rfl⟩, fun h => ⟨?_, rfl⟩⟩)
  · rw [bI_f (fun q => h (bt_t.mp q))]
  · rw [bI_t (bt_t.mpr h)]
theorem c8_no {x : Int32} : Call E mX8_no [.int x] σ (some (.long ((-9223372036854775808) - x.toInt64))) σ := K_X8_no (tX8_no_0 ⟨rfl, rfl⟩)
theorem c8_isDay {v : Int32} : Call E mX8_isDay [.int v] σ (some (.int (bI (0 ≤ v ∧ v ≤ 19)))) σ := K_X8_isDay (tX8_isDay_0 ⟨_, _, c8_in, bI_nar, rfl, rfl⟩)
theorem c8_isEight {v : Int32} : Call E mX8_isEight [.int v] σ (some (.int (bI (0 ≤ v ∧ v ≤ 7)))) σ := K_X8_isEight (tX8_isEight_0 ⟨_, _, c8_in, bI_nar, rfl, rfl⟩)
theorem c8_isSheet {v : Int32} : Call E mX8_isSheet [.int v] σ (some (.int (bI (0 ≤ v ∧ v ≤ 3)))) σ := K_X8_isSheet (tX8_isSheet_0 ⟨_, _, c8_in, bI_nar, rfl, rfl⟩)
/-- the text that the reference holds -/
def TxM (t : Nat → Nat) (nb : Nat) (σ : Hp) : Prop := nb ≤ 39 ∧ σ 53 0 = nI nb ∧ ∀ i, i < nb → t i ≤ 255 ∧ σ 54 i = nI (t i)
def byS (t : Nat → Nat) (nb i : Nat) : Int32 := if i < nb then nI (t i) else -1
theorem c8_byteAt {t : Nat → Nat} {nb i : Nat} (hT : TxM t nb σ) (hi : i < 100) : Call E mX8_byteAt [.ref 53, .int (nI i)] σ (some (.int (byS t nb i))) σ := by
  obtain ⟨h1, h2, h3⟩ := hT
  refine K_X8_byteAt (tX8_byteAt_0 ?_)
  rw [h2]
  refine ⟨fun h => ⟨?_, rfl⟩, fun h => ?_⟩
  · rw [nI_le' (by omega) (by omega)] at h
    unfold byS
    rw [if_neg (by omega)]
  · rw [nI_le' (by omega) (by omega)] at h
    refine ⟨vin (by omega) (by decide), ?_, rfl⟩
    rw [cl (by omega), (h3 i (by omega)).2]
    unfold byS
    rw [if_pos (by omega)]
def srS (t : Nat → Nat) (nb i : Nat) : Int32 := if byS t nb i = 115 then 0 else if byS t nb i = 108 then 1 else if byS t nb i = 98 then 2 else -1
theorem c8_sortAt {t : Nat → Nat} {nb i : Nat} (hT : TxM t nb σ) (hi : i < 100) : Call E mX8_sortAt [.ref 53, .int (nI i)] σ (some (.int (srS t nb i))) σ := by
  refine K_X8_sortAt (tX8_sortAt_0 ⟨_, _, c8_byteAt hT hi, ?_, ?_⟩)
  · intro h
    refine ⟨fun h2 => ⟨fun h3 => ⟨?_, rfl⟩, fun h3 => ⟨?_, rfl⟩⟩, fun h2 => ⟨?_, rfl⟩⟩
    · unfold srS; rw [if_neg h, if_neg h2, if_neg h3]
    · unfold srS; rw [if_neg h, if_neg h2, if_pos h3]
    · unfold srS; rw [if_neg h, if_pos h2]
  · intro h
    refine ⟨?_, rfl⟩
    unfold srS; rw [if_pos h]
theorem byS_dig {t : Nat → Nat} {nb i : Nat} (ht : ∀ i, i < nb → t i ≤ 255) : ((48 : Int32) ≤ byS t nb i ∧ byS t nb i ≤ 57) ↔ i < nb ∧ 48 ≤ t i ∧ t i ≤ 57 := by
  unfold byS
  split
  · rename_i h
    have := ht i h
    rw [show (48 : Int32) = nI 48 from rfl, show (57 : Int32) = nI 57 from rfl, nI_le' (by decide) (by omega), nI_le' (by omega) (by decide)]
    constructor
    · exact fun q => ⟨h, q⟩
    · exact fun q => q.2
  · rename_i h
    constructor
    · intro q; exact absurd q.1 (by decide)
    · intro q; exact absurd q.1 h
theorem srS_no {t : Nat → Nat} {nb i : Nat} (ht : ∀ i, i < nb → t i ≤ 255) : ¬ srS t nb i = -1 ↔ i < nb ∧ (t i = 115 ∨ t i = 108 ∨ t i = 98) := by
  unfold srS byS
  by_cases h : i < nb
  · have := ht i h
    simp only [if_pos h, show (115 : Int32) = nI 115 from rfl, show (108 : Int32) = nI 108 from rfl, show (98 : Int32) = nI 98 from rfl, nI_eq' (show t i < 2147483648 by omega) (show 115 < 2147483648 by decide), nI_eq' (show t i < 2147483648 by omega) (show 108 < 2147483648 by decide), nI_eq' (show t i < 2147483648 by omega) (show 98 < 2147483648 by decide)]
    by_cases a : t i = 115
    · rw [if_pos a]; exact ⟨fun _ => ⟨h, Or.inl a⟩, fun _ => by decide⟩
    · rw [if_neg a]
      by_cases b : t i = 108
      · rw [if_pos b]; exact ⟨fun _ => ⟨h, Or.inr (Or.inl b)⟩, fun _ => by decide⟩
      · rw [if_neg b]
        by_cases c : t i = 98
        · rw [if_pos c]; exact ⟨fun _ => ⟨h, Or.inr (Or.inr c)⟩, fun _ => by decide⟩
        · rw [if_neg c]
          refine ⟨fun q => absurd rfl q, fun q => ?_⟩
          rcases q.2 with z | z | z
          · exact absurd z a
          · exact absurd z b
          · exact absurd z c
  · rw [if_neg h, if_neg (by decide), if_neg (by decide), if_neg (by decide)]
    exact ⟨fun q => absurd rfl q, fun q => absurd q.1 h⟩
theorem TxM.keep {t : Nat → Nat} {nb : Nat} {σ σ' : Hp} (h : TxM t nb σ) (h1 : σ' 53 0 = σ 53 0) (h2 : ∀ i, σ' 54 i = σ 54 i) : TxM t nb σ' := ⟨h.1, by rw [h1]; exact h.2.1, fun i hi => ⟨(h.2.2 i hi).1, by rw [h2]; exact (h.2.2 i hi).2⟩⟩
def putC (σ : Hp) (n : Nat) (a b c d : Int32) : Hp := up (up (up (up σ 55 n a) 56 n b) 57 n c) 58 n d
/-- what reading a couple finds: how many bytes fit -/
def fitN (t : Nat → Nat) (nb n g : Nat) : Prop := g ≤ 4 ∧ (∀ j, j < g → 5 * n + j < nb ∧ okB t (5 * n + j) = true) ∧ (g < 4 → ¬ (5 * n + g < nb ∧ okB t (5 * n + g) = true))
def psC (t : Nat → Nat) (nb n : Nat) (σ : Hp) (v : Int32) (σ' : Hp) : Prop := ∃ g, v = nI g ∧ fitN t nb n g ∧ (g < 4 → σ' = σ) ∧ (g = 4 → σ' = putC σ n (nI (cdS t 0 n)) (nI (cdS t 1 n)) (nI (cdS t 2 n)) (nI (cdS t 3 n)))
theorem c8_readsCouple {t : Nat → Nat} {nb n : Nat} (hT : TxM t nb σ) (hn : n < 8) : ∃ (v : Int32) (σ' : Hp), Call E mX8_readsCouple [.ref 53, .int (nI n), .int (nI (5 * n))] σ (some (.int v)) σ' ∧ psC t nb n σ v σ' := by
  have ht : ∀ i, i < nb → t i ≤ 255 := fun i hi => (hT.2.2 i hi).1
  refine C_X8_readsCouple (tX8_readsCouple_0 ?_)
  have fin : ∀ g, fitN t nb n g → g < 4 → Ru E mX8_readsCouple 58 [(0, .ref 53), (1, .int (nI n)), (2, .int (nI (5 * n))), (3, .int (nI g))] [.int 0, .int (nI g)] σ (PI (psC t nb n σ)) := by
    intro g hg h4
    refine tX8_readsCouple_58 ⟨fun _ => ⟨_, rfl, g, by rw [Int32.add_zero], hg, fun _ => rfl, fun q => by omega⟩, fun q => ?_⟩
    rw [Int32.add_zero, show (4 : Int32) = nI 4 from rfl, nI_eq' (by omega) (by decide)] at q
    omega
  have mid : ∀ g, g ≤ 3 → (∀ j, j < g → 5 * n + j < nb ∧ okB t (5 * n + j) = true) → (g < 3 → ¬ (5 * n + g < nb ∧ okB t (5 * n + g) = true)) → Ru E mX8_readsCouple 36 [(0, .ref 53), (1, .int (nI n)), (2, .int (nI (5 * n))), (3, .int (nI g))] [] σ (PI (psC t nb n σ)) := by
    intro g h3 hj hg
    refine tX8_readsCouple_36 ⟨fun q => ?_, fun q => ?_⟩
    · rw [show (3 : Int32) = nI 3 from rfl, nI_eq' (by omega) (by decide)] at q
      exact fin g ⟨by omega, hj, fun _ => hg (by omega)⟩ (by omega)
    · rw [show (3 : Int32) = nI 3 from rfl, nI_eq' (by omega) (by decide)] at q
      subst q
      have e3 : nI (5 * n) + 3 = nI (5 * n + 3) := by rw [show (3 : Int32) = nI 3 from rfl, nI_add]
      refine ⟨_, _, e3 ▸ c8_sortAt hT (by omega), fun q => ?_, fun q => ?_⟩
      · have hno : ¬ (5 * n + 3 < nb ∧ okB t (5 * n + 3) = true) := by
          intro z
          exact absurd q ((srS_no ht).mpr ⟨z.1, okB_srt.mp z.2⟩)
        exact fin 3 ⟨by decide, hj, fun _ => hno⟩ (by decide)
      · have hs := (srS_no ht).mp q
        have hall : ∀ j, j < 4 → 5 * n + j < nb ∧ okB t (5 * n + j) = true := by
          intro j h4
          rcases Nat.lt_or_ge j 3 with z | z
          · exact hj j z
          · have : j = 3 := by omega
            subst this
            exact ⟨hs.1, okB_srt.mpr hs.2⟩
        have d0 := (okB_dig (j := 0) (by decide)).mp (hj 0 (by decide)).2
        have d1 := (okB_dig (j := 1) (by decide)).mp (hj 1 (by decide)).2
        have d2 := (okB_dig (j := 2) (by decide)).mp (hj 2 (by decide)).2
        have b0 : byS t nb (5 * n) - 48 = nI (cdS t 0 n) := by
          unfold byS
          rw [if_pos (show 5 * n < nb from (hj 0 (by decide)).1), show (48 : Int32) = nI 48 from rfl, pk_sub (show 48 ≤ t (5 * n) from d0.1)]; rfl
        have b1 : byS t nb (5 * n + 1) - 48 = nI (cdS t 1 n) := by
          unfold byS
          rw [if_pos (hj 1 (by decide)).1, show (48 : Int32) = nI 48 from rfl, pk_sub d1.1]; rfl
        have b2 : byS t nb (5 * n + 2) - 48 = nI (cdS t 2 n) := by
          unfold byS
          rw [if_pos (hj 2 (by decide)).1, show (48 : Int32) = nI 48 from rfl, pk_sub d2.1]; rfl
        have b3 : srS t nb (5 * n + 3) = nI (cdS t 3 n) := by
          unfold srS byS cdS
          have := ht _ hs.1
          simp only [if_pos hs.1, if_pos, show (115 : Int32) = nI 115 from rfl, show (108 : Int32) = nI 108 from rfl, show (98 : Int32) = nI 98 from rfl, nI_eq' (show t (5 * n + 3) < 2147483648 by omega) (show 115 < 2147483648 by decide), nI_eq' (show t (5 * n + 3) < 2147483648 by omega) (show 108 < 2147483648 by decide), nI_eq' (show t (5 * n + 3) < 2147483648 by omega) (show 98 < 2147483648 by decide)]
          rcases hs.2 with z | z | z
          · rw [if_pos z, if_pos z]; rfl
          · rw [if_neg (by omega), if_pos z, if_neg (by omega), if_pos z]; rfl
          · rw [if_neg (by omega), if_neg (by omega), if_pos z, if_neg (by omega), if_neg (by omega)]; rfl
        refine tX8_readsCouple_58 ⟨fun q => absurd (by decide) q, fun _ => ?_⟩
        have e1 : nI (5 * n) + 1 = nI (5 * n + 1) := nI_1 _
        have e2 : nI (5 * n) + 2 = nI (5 * n + 2) := by rw [show (2 : Int32) = nI 2 from rfl, nI_add]
        have hv : vp_in (nI n) 9 := vin (by omega) (by decide)
        rw [e1, e2, e3, cl (show n < 2147483648 by omega)]
        refine ⟨_, _, c8_byteAt hT (by omega), hv, _, _, c8_byteAt (hT.keep (by simp [up]) (fun i => by simp [up])) (by omega), _, _, c8_byteAt (hT.keep (by simp [up]) (fun i => by simp [up])) (by omega), _, _, c8_sortAt (hT.keep (by simp [up]) (fun i => by simp [up])) (by omega), _, rfl, 4, by decide, ⟨by decide, hall, fun z => by omega⟩, fun z => by omega, fun _ => ?_⟩
        rw [b0, b1, b2, b3]
        rfl
  have loop : ∀ g s, g ≤ 3 → ((∀ j, j < g → 5 * n + j < nb ∧ okB t (5 * n + j) = true) ∧ s = (0 : Nat)) → Ru E mX8_readsCouple 2 [(0, .ref 53), (1, .int (nI n)), (2, .int (nI (5 * n))), (3, .int (nI g))] [] σ (PI (psC t nb n σ)) := by
    refine for_up 3 _ _ ?_ ?_
    · intro g s hg ⟨hj, hs⟩ ih
      refine tX8_readsCouple_2 ⟨fun q => ?_, fun _ => ⟨fun q => ?_, fun _ => ?_⟩⟩
      · rw [show (8 : Int32) = nI 8 from rfl, nI_le' (by decide) (by omega)] at q; omega
      · rw [show (3 : Int32) = nI 3 from rfl, nI_le' (by decide) (by omega)] at q; omega
      · rw [nI_add, nI_1]
        refine ⟨_, _, c8_byteAt hT (by omega), _, _, c8_in, fun q => ?_, fun q => ?_⟩
        · rw [bI_0, byS_dig ht] at q
          refine mid g (by omega) hj (fun _ z => q ⟨z.1, (okB_dig (by omega)).mp z.2⟩)
        · rw [bI_n, byS_dig ht] at q
          refine ih 0 ⟨fun j hj2 => ?_, rfl⟩
          rcases Nat.lt_or_ge j g with z | z
          · exact hj j z
          · have : j = g := by omega
            subst this
            exact ⟨q.1, (okB_dig (by omega)).mpr q.2⟩
    · intro s ⟨hj, hs⟩
      refine tX8_readsCouple_2 ⟨fun q => ?_, fun _ => ⟨fun q => ?_, fun q => ?_⟩⟩
      · exact mid 3 (by decide) hj (fun z => by omega)
      · exact mid 3 (by decide) hj (fun z => by omega)
      · exact absurd (by decide) q
  exact loop 0 0 (by decide) ⟨fun j hj => by omega, rfl⟩
/-- what reading the text leaves alone -/
def sR (c i : Nat) : Prop := (55 ≤ c ∧ c ≤ 58) ∨ (c = 53 ∧ i = 2)
/-- couples as the reference has them behind reading -/
def CpM (t : Nat → Nat) (nc : Nat) (σ : Hp) : Prop := σ 53 2 = nI nc ∧ ∀ k, k < nc → ∀ f, f < 4 → σ (55 + f) k = nI (cdS t f k)
theorem putC_rd {σ : Hp} {n k f : Nat} {t : Nat → Nat} (hf : f < 4) : putC σ n (nI (cdS t 0 n)) (nI (cdS t 1 n)) (nI (cdS t 2 n)) (nI (cdS t 3 n)) (55 + f) k = if k = n then nI (cdS t f n) else σ (55 + f) k := by
  unfold putC
  match f, hf with
  | 0, _ => simp [up]
  | 1, _ => simp [up]
  | 2, _ => simp [up]
  | 3, _ => simp [up]
theorem putC_fr {σ : Hp} {n : Nat} {a b c d : Int32} : Fr sR σ (putC σ n a b c d) := by
  unfold putC
  exact Fr.up (Fr.up (Fr.up (Fr.up Fr.rf (by simp [sR])) (by simp [sR])) (by simp [sR])) (by simp [sR])
theorem TxM.fr {t : Nat → Nat} {nb : Nat} {σ σ' : Hp} (h : TxM t nb σ) (hf : Fr sR σ σ') : TxM t nb σ' := h.keep (hf _ _ (by simp [sR])) (fun i => hf _ _ (by simp [sR]))
def psF (t : Nat → Nat) (nb : Nat) (σ : Hp) (v : Int32) (σ' : Hp) : Prop := v = fltS t nb ∧ CpM t (ncS t nb) σ' ∧ Fr sR σ σ'
theorem flt_bad {t : Nat → Nat} {nb : Nat} : ∀ i, i ≤ nb → (∀ j, j < i → okB t j = true) → (i < nb → okB t i = false) → (i = nb → 0 < nb ∧ nb % 5 ≠ 4) → fltS t nb = nI i ∧ ncS t nb = 0 := by
  intro i h1 h2 h3 h4
  have hl : lp (okB t) nb = i := lp_eq h1 h2 (by rcases Nat.lt_or_ge i nb with z | z
                                                 · exact Or.inr (h3 z)
                                                 · exact Or.inl (by omega))
  unfold fltS ncS
  rw [hl]
  rcases Nat.lt_or_ge i nb with z | z
  · rw [if_pos z, if_pos z]; exact ⟨rfl, rfl⟩
  · have e : i = nb := by omega
    have := h4 e
    rw [if_neg (by omega), if_neg (by omega), if_neg (by omega), if_neg (by omega), e]; exact ⟨rfl, rfl⟩
theorem flt_good {t : Nat → Nat} {nb : Nat} : (∀ j, j < nb → okB t j = true) → (nb = 0 ∨ nb % 5 = 4) → fltS t nb = -1 ∧ ncS t nb = (nb + 1) / 5 := by
  intro h2 h4
  have hl : lp (okB t) nb = nb := lp_eq (Nat.le_refl _) h2 (Or.inl rfl)
  have hn : ¬ nb < nb := Nat.lt_irrefl _
  unfold fltS ncS
  rw [hl, if_neg hn, if_neg hn, if_pos h4, if_pos h4]; exact ⟨rfl, rfl⟩
theorem c8_faultNow {t : Nat → Nat} {nb : Nat} (hT : TxM t nb σ) : ∃ (v : Int32) (σ' : Hp), Call E mX8_faultNow [.ref 53] σ (some (.int v)) σ' ∧ psF t nb σ v σ' := by
  refine C_X8_faultNow (tX8_faultNow_0 ?_)
  have hnb := hT.1
  have loop : ∀ m n σ1, n + m = 8 → n * 5 ≤ nb → (∀ j, j < 5 * n → okB t j = true) → (∀ k, k < n → ∀ f, f < 4 → σ1 (55 + f) k = nI (cdS t f k)) → σ1 53 2 = 0 → Fr sR σ σ1 →
      Ru E mX8_faultNow 9 [(0, .ref 53), (1, .int (nI n)), (2, .int (nI (5 * n)))] [] σ1 (PI (psF t nb σ)) := by
    intro m
    induction m with
    | zero => intro n σ1 h1 h2; omega
    | succ m ih =>
      intro n σ1 h1 h2 h3 h4 h5 h6
      have hT1 := hT.fr h6
      have body : 0 < nb → Ru E mX8_faultNow 21 [(0, .ref 53), (1, .int (nI n)), (2, .int (nI (5 * n)))] [] σ1 (PI (psF t nb σ)) := by
        intro hpos
        obtain ⟨v, σ2, hc, g, rfl, hg, hlt, h44⟩ := c8_readsCouple (E := E) hT1 (show n < 8 by omega)
        refine tX8_faultNow_21 ⟨_, _, hc, fun q => ?_, fun q => ?_⟩
        · rw [show (4 : Int32) = nI 4 from rfl, nI_le' (by decide) (by have := hg.1; omega)] at q
          have hg4 : g = 4 := by have := hg.1; omega
          subst hg4
          have e2 := h44 rfl
          have hall := hg.2.1
          have hok : ∀ j, j < 5 * n + 4 → okB t j = true := by
            intro j hj
            rcases Nat.lt_or_ge j (5 * n) with z | z
            · exact h3 j z
            · have := (hall (j - 5 * n) (by omega)).2
              rwa [show 5 * n + (j - 5 * n) = j by omega] at this
          have hle : 5 * n + 4 ≤ nb := by have := (hall 3 (by decide)).1; omega
          have f2 : Fr sR σ σ2 := by rw [e2]; exact h6.tr putC_fr
          have hT2 := hT.fr f2
          have z2 : σ2 53 2 = 0 := by rw [e2]; unfold putC; simp [up]; exact h5
          have c2 : ∀ k, k < n + 1 → ∀ f, f < 4 → σ2 (55 + f) k = nI (cdS t f k) := by
            intro k hk f hf
            rw [e2, putC_rd hf]
            split
            · rename_i z; rw [z]
            · exact h4 k (by omega) f hf
          rw [hT2.2.1, show (4 : Int32) = nI 4 from rfl, nI_add]
          refine ⟨fun q2 => ?_, fun q2 => ?_⟩
          · rw [nI_eq' (by omega) (by omega)] at q2
            refine ⟨_, _, c8_byteAt hT2 (by omega), fun q3 => ?_, fun q3 => ?_⟩
            · have hlt : 5 * n + 4 < nb := by omega
              have hs : t (5 * n + 4) = 59 := by
                have := (hT.2.2 _ hlt).1
                unfold byS at q3
                rw [if_pos hlt, show (59 : Int32) = nI 59 from rfl, nI_eq' (by omega) (by decide)] at q3
                exact q3
              have hok' : ∀ j, j < 5 * (n + 1) → okB t j = true := by
                intro j hj
                rcases Nat.lt_or_ge j (5 * n + 4) with z | z
                · exact hok j z
                · rw [show j = 5 * n + 4 by omega]; exact okB_sem.mpr hs
              rcases Nat.eq_or_lt_of_le (show n + 1 ≤ 8 by omega) with e8 | l8
              · omega
              · have := ih (n + 1) σ2 (by omega) (by omega) hok' c2 z2 f2
                rw [nI_1, nI_1]
                exact this
            · have hb := flt_bad (t := t) (nb := nb) (5 * n + 4) hle hok (fun z => by
                have : ¬ okB t (5 * n + 4) = true := by
                  intro y
                  have y := okB_sem.mp y
                  apply q3
                  unfold byS
                  rw [if_pos z, y]; rfl
                simpa using this) (fun z => absurd z q2)
              refine ⟨_, rfl, by rw [hb.1], ?_, f2⟩
              rw [hb.2]
              exact ⟨z2, fun k hk => by omega⟩
          · rw [nI_eq' (by omega) (by omega)] at q2
            have hb := flt_good (t := t) (nb := nb) (fun j hj => hok j (by omega)) (Or.inr (by omega))
            refine ⟨_, rfl, by rw [hb.1], ?_, f2.up (by simp [sR])⟩
            rw [hb.2, show (nb + 1) / 5 = n + 1 by omega]
            refine ⟨by rw [up_s, nI_1], fun k hk f hf => ?_⟩
            rw [up_c (by omega)]
            exact c2 k hk f hf
        · rw [show (4 : Int32) = nI 4 from rfl, nI_le' (by decide) (by have := hg.1; omega)] at q
          have e2 := hlt (by omega)
          subst e2
          have hno := hg.2.2 (by omega)
          have hall := hg.2.1
          have hok : ∀ j, j < 5 * n + g → okB t j = true := by
            intro j hj
            rcases Nat.lt_or_ge j (5 * n) with z | z
            · exact h3 j z
            · have := (hall (j - 5 * n) (by omega)).2
              rwa [show 5 * n + (j - 5 * n) = j by omega] at this
          have hle : 5 * n + g ≤ nb := by
            rcases Nat.eq_zero_or_pos g with z | z
            · omega
            · have := (hall (g - 1) (by omega)).1; omega
          have hb := flt_bad (t := t) (nb := nb) (5 * n + g) hle hok (fun z => by
            have : ¬ okB t (5 * n + g) = true := fun y => hno ⟨z, y⟩
            simpa using this) (fun z => ⟨hpos, by omega⟩)
          refine ⟨_, rfl, by rw [hb.1, nI_add], ?_, h6⟩
          rw [hb.2]
          exact ⟨h5, fun k hk => by omega⟩
      refine tX8_faultNow_9 ⟨fun q => ?_, fun q => ⟨fun q2 => ?_, fun q2 => ?_⟩⟩
      · rw [hT1.2.1, nI_lt' (by omega) (by omega)] at q
        exact body (by omega)
      · rw [hT1.2.1, nI_lt' (by omega) (by omega)] at q
        rw [show (0 : Int32) = nI 0 from rfl, nI_le' (by omega) (by decide)] at q2
        have hb := flt_good (t := t) (nb := nb) (fun j hj => by omega) (Or.inl (by omega))
        refine ⟨_, rfl, by rw [hb.1], ?_, h6⟩
        rw [hb.2, show (nb + 1) / 5 = 0 by omega]
        exact ⟨h5, fun k hk => by omega⟩
      · rw [show (0 : Int32) = nI 0 from rfl, nI_le' (by omega) (by decide)] at q2
        exact body (by omega)
  exact loop 8 0 _ rfl (by omega) (fun j hj => by omega) (fun k hk => by omega) (by rw [up_s]) (Fr.rf.up (by simp [sR]))
theorem c8_reads {t : Nat → Nat} {nb : Nat} (hT : TxM t nb σ) : ∃ σ' : Hp, Call E mX8_reads [.ref 53] σ none σ' ∧ (CpM t (ncS t nb) σ' ∧ Fr sR σ σ') := by
  obtain ⟨v, σ', hc, -, h⟩ := c8_faultNow (E := E) hT
  exact C_X8_reads (tX8_reads_0 ⟨_, _, hc, rfl, h⟩)
theorem c8_fault {t : Nat → Nat} {nb : Nat} (hT : TxM t nb σ) : ∃ (v : Int32) (σ' : Hp), Call E mX8_fault [.ref 53] σ (some (.int v)) σ' ∧ (v = fltS t nb ∧ CpM t (ncS t nb) σ' ∧ Fr sR σ σ') := by
  obtain ⟨v, σ', hc, h⟩ := c8_faultNow (E := E) hT
  exact C_X8_fault (tX8_fault_0 ⟨_, _, hc, _, rfl, h⟩)
theorem c8_isCouple {t : Nat → Nat} {nb : Nat} (hT : TxM t nb σ) (k : Int32) : ∃ (v : Int32) (σ' : Hp), Call E mX8_isCouple [.ref 53, .int k] σ (some (.int v)) σ' ∧ (v = bI (0 ≤ k ∧ k < nI (ncS t nb)) ∧ CpM t (ncS t nb) σ' ∧ Fr sR σ σ') := by
  obtain ⟨σ', hc, hC, hF⟩ := c8_reads (E := E) hT
  refine C_X8_isCouple (tX8_isCouple_0 ⟨_, hc, _, _, c8_in, bI_nar, _, rfl, ?_, hC, hF⟩)
  have hn := (cd_ok (t := t) hT.1).1
  apply bI_congr
  rw [hC.1, Int32.le_iff_toInt_le, Int32.le_iff_toInt_le, Int32.lt_iff_toInt_lt, Int32.toInt_zero, show (1 : Int32) = nI 1 from rfl, pk_sub_toInt (by omega) (by decide), nI_toInt (by omega)]
  omega
end MT
