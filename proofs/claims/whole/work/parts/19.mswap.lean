/-! THE REFERENCE: swap, drop -/
def swC (W : Wo) (a b : Nat) : Wo := (fun f k => if f = 2 then (if k = a then wc W 2 b else if k = b then wc W 2 a else wc W 2 k) else wc W f k, wn W, we W, wm W)
theorem swC_ok {W : Wo} {a b : Nat} (h : okW W) (ha : a < wn W) (hb : b < wn W) : okW (swC W a b) := by
  refine ⟨h.1, h.2.1, fun j hj => ?_, h.2.2.2⟩
  obtain ⟨x, y, z, u⟩ := h.2.2.1 j hj
  refine ⟨x, y, ?_, u⟩
  show (if j = a then wc W 2 b else if j = b then wc W 2 a else wc W 2 j) ≤ 9
  have h1 := (h.2.2.1 a ha).2.2.1
  have h2 := (h.2.2.1 b hb).2.2.1
  split
  · exact h2
  · split
    · exact h1
    · exact z
theorem swC_swC {W : Wo} {a b : Nat} (hab : a ≠ b) : swC (swC W a b) a b = W := by
  obtain ⟨c, n, e, m⟩ := W
  unfold swC
  congr 1
  funext f k
  show (if f = 2 then (if k = a then (if (2 : Nat) = 2 then (if b = a then c 2 b else if b = b then c 2 a else c 2 b) else c 2 b) else if k = b then (if (2 : Nat) = 2 then (if a = a then c 2 b else if a = b then c 2 a else c 2 a) else c 2 a) else (if (2 : Nat) = 2 then (if k = a then c 2 b else if k = b then c 2 a else c 2 k) else c 2 k)) else (if f = 2 then (if k = a then c 2 b else if k = b then c 2 a else c 2 k) else c f k)) = c f k
  by_cases hf : f = 2
  · subst hf
    rw [if_pos rfl, if_pos rfl]
    by_cases h1 : k = a
    · rw [if_pos h1, if_neg (Ne.symm hab), if_pos rfl, h1]
    · rw [if_neg h1]
      by_cases h2 : k = b
      · rw [if_pos h2, if_pos rfl, if_pos rfl, h2]
      · rw [if_neg h2, if_pos rfl, if_neg h1, if_neg h2]
  · rw [if_neg hf, if_neg hf]
def vldS (n c : Nat) : Bool := decide (c / 8 < c % 8) && decide (c % 8 < n)
def swp (n : Nat) (f : Nat → Nat) : Nat → Option (Nat × Nat)
  | 0 => none
  | c + 1 => if vldS n c = true then (match swp n f c with
    | none => some (c, f c)
    | some q => if f c < q.2 then some (c, f c) else some q) else swp n f c
theorem swp_succ {n c : Nat} {f : Nat → Nat} : swp n f (c + 1) = if vldS n c = true then (match swp n f c with
    | none => some (c, f c)
    | some q => if f c < q.2 then some (c, f c) else some q) else swp n f c := rfl
theorem swp_skip {n : Nat} {f : Nat → Nat} {i : Nat} : ∀ m, (∀ c, i ≤ c → c < i + m → vldS n c = false) → swp n f (i + m) = swp n f i
  | 0, _ => rfl
  | m + 1, h => by
    show swp n f (i + m + 1) = _
    rw [swp_succ, if_neg (by rw [h (i + m) (by omega) (by omega)]; decide)]
    exact swp_skip m (fun c h1 h2 => h c h1 (by omega))
theorem swp_congr {n : Nat} {f g : Nat → Nat} (h : ∀ c, vldS n c = true → f c = g c) : ∀ c, swp n f c = swp n g c
  | 0 => rfl
  | c + 1 => by
    unfold swp
    rw [swp_congr h c]
    by_cases z : vldS n c = true
    · rw [if_pos z, if_pos z, h c z]
    · rw [if_neg z, if_neg z]
theorem swp_b {n b : Nat} {f : Nat → Nat} (h : ∀ c, f c ≤ b) : ∀ c q, swp n f c = some q → q.1 < c ∧ q.2 ≤ b ∧ vldS n q.1 = true
  | 0, q, e => by cases e
  | c + 1, q, e => by
    unfold swp at e
    by_cases z : vldS n c = true
    · rw [if_pos z] at e
      cases hs : swp n f c with
      | none =>
        rw [hs] at e
        cases e
        exact ⟨Nat.lt_succ_self _, h c, z⟩
      | some p =>
        rw [hs] at e
        dsimp only at e
        have ih := swp_b h c p hs
        split at e
        · cases e; exact ⟨Nat.lt_succ_self _, h c, z⟩
        · cases e; exact ⟨by omega, ih.2⟩
    · rw [if_neg z] at e
      have ih := swp_b h c q e
      exact ⟨by omega, ih.2⟩
def swF (W : Wo) (c : Nat) : Nat := prS (wn W) (fun k => rr (swC W (c / 8) (c % 8)) allE k 19) 0
def swS (W : Wo) (w : Nat) : Int32 := match swp (wn W) (swF W) 64 with
  | none => -1
  | some q => if w = 0 then nI (q.1 / 8) else if w = 1 then nI (q.1 % 8) else nI q.2
def swA (W : Wo) (w : Int32) : Int32 := if 0 ≤ w ∧ w ≤ 2 then swS W w.toNatClampNeg else -2
def sw2 (o : Option (Nat × Nat)) : Int32 := match o with
  | none => -1
  | some q => nI q.1
def sw3 (b : Int32) (o : Option (Nat × Nat)) : Int32 := match o with
  | none => b
  | some q => nI q.2
section MSW
variable {E : Ev} {σ : Hp}
theorem c8_swaps {W : Wo} {msk : Nat → Bool} {a b : Nat} (hW : okW W) (hR : RnM W msk σ) (ha : a < wn W) (hb : b < wn W) (hab : a ≠ b) :
    ∃ σ' : Hp, Call E mX8_swaps [.ref 53, .int (nI a), .int (nI b)] σ none σ' ∧ (RnM (swC W a b) msk σ' ∧ Fr (fun c i => c = 57 ∧ (i = a ∨ i = b)) σ σ') := by
  have hn := hW.1
  refine C_X8_swaps (tX8_swaps_0 ?_)
  rw [cl (show a < 2147483648 by omega), cl (show b < 2147483648 by omega)]
  have ha2 : σ 57 a = nI (wc W 2 a) := hR.2.1 a ha 2 (by decide)
  have hb2 : σ 57 b = nI (wc W 2 b) := hR.2.1 b hb 2 (by decide)
  refine ⟨vin (by omega) (by decide), vin (by omega) (by decide), rfl, ⟨by simp [up]; exact hR.1, fun k hk f hf => ?_, ⟨by simp [up]; exact hR.2.2.1.1, fun e he f hf => ?_⟩, fun e he => ?_⟩, (Fr.rf.up ⟨rfl, Or.inl rfl⟩).up ⟨rfl, Or.inr rfl⟩⟩
  · show _ = nI (if f = 2 then (if k = a then wc W 2 b else if k = b then wc W 2 a else wc W 2 k) else wc W f k)
    by_cases h2 : f = 2
    · subst h2
      rw [if_pos rfl, ha2, hb2]
      by_cases hka : k = a
      · subst hka
        rw [if_pos rfl, up_i hab, up_s]
      · rw [if_neg hka]
        by_cases hkb : k = b
        · subst hkb
          rw [if_pos rfl, up_s]
        · rw [if_neg hkb, up_i hkb, up_i hka]
          exact hR.2.1 k hk 2 (by decide)
    · rw [if_neg h2, up_c (by omega), up_c (by omega)]
      exact hR.2.1 k hk f hf
  · rw [up_c (by omega), up_c (by omega)]
    exact hR.2.2.1.2 e he f hf
  · rw [up_c (by omega), up_c (by omega)]
    exact hR.2.2.2 e he
theorem DyM.fr {W : Wo} {msk : Nat → Bool} {σ σ' : Hp} {S : Nat → Nat → Prop} (h : DyM W msk σ) (hF : Fr S σ σ') (hS : ∀ c i, S c i → (c = 53 ∧ i = 2) ∨ (73 ≤ c ∧ c ≤ 79) → False) : DyM W msk σ' := by
  refine ⟨by rw [hF 53 2 (fun z => hS _ _ z (Or.inl ⟨rfl, rfl⟩))]; exact h.1, fun d hd k hk => ?_⟩
  exact (h.2 d hd k hk).fr hF (fun c a b z => hS _ _ z (Or.inr ⟨a, by omega⟩)) (fun z => hS _ _ z (Or.inr ⟨by decide, by decide⟩))
theorem c8_swapOf {t : Nat → Nat} {nb : Nat} {v : Nat → Nat → Nat} {m : Nat} (hT : ToM t nb v m σ) {w : Nat} (hw : w ≤ 2) :
    ∃ (v1 : Int32) (σ' : Hp), Call E mX8_swapOf [.ref 53, .int (nI w)] σ (some (.int v1)) σ' ∧ (v1 = swS (woS t nb v m) w ∧ Fr sQ σ σ') := by
  have hW := woS_ok hT
  have hn : ncS t nb ≤ 8 := hW.1
  have hb : ∀ i, swF (woS t nb v m) i ≤ 64 := fun i => prS_le hn _ _
  obtain ⟨s0, hc0, hR0, -, hF0⟩ := c8_asTold (E := E) hT
  have ew : ∀ j, j < 3 → (nI w = nI j ↔ w = j) := fun j hj => nI_eq' (by omega) (by omega)
  refine C_X8_swapOf (tX8_swapOf_0 ⟨s0, hc0, ?_⟩)
  generalize hΨ : (fun (v1 : Int32) (σ' : Hp) => v1 = swS (woS t nb v m) w ∧ Fr sQ σ σ') = Ψ
  have outer : ∀ a (s : Hp), a ≤ ncS t nb → (RnM (woS t nb v m) allE s ∧ Fr sQ σ s) → Ru E mX8_swapOf 12 [(0, .ref 53), (1, .int (nI w)), (2, .int (sw2 (swp (ncS t nb) (swF (woS t nb v m)) (8 * a)))), (3, .int (sw3 99 (swp (ncS t nb) (swF (woS t nb v m)) (8 * a)))), (4, .int (nI a))] [] s (PI Ψ) := by
    refine for_up (ncS t nb) _ _ ?_ ?_
    · intro a s ha ⟨hR, hF⟩ ih
      refine tX8_swapOf_12 ⟨fun q => ?_, fun _ => ?_⟩
      · rw [hR.1] at q
        have q := (nI_le' (show ncS t nb < 2147483648 by omega) (show a < 2147483648 by omega)).mp q; omega
      · have inner : ∀ b (s : Hp), b ≤ ncS t nb → (a < b ∧ RnM (woS t nb v m) allE s ∧ Fr sQ σ s) → Ru E mX8_swapOf 27 [(0, .ref 53), (1, .int (nI w)), (2, .int (sw2 (swp (ncS t nb) (swF (woS t nb v m)) (8 * a + b)))), (3, .int (sw3 99 (swp (ncS t nb) (swF (woS t nb v m)) (8 * a + b)))), (4, .int (nI a)), (5, .int (nI b))] [] s (PI Ψ) := by
          refine for_up (ncS t nb) _ _ ?_ ?_
          · intro b s hb2 ⟨hab, hR, hF⟩ ih2
            obtain ⟨s1, hc1, hR1, hF1⟩ := c8_swaps (E := E) hW hR ha hb2 (by omega)
            have hW1 := swC_ok (a := a) (b := b) hW ha hb2
            obtain ⟨s2, hc2, h1, -, h3, hF2⟩ := c8_runs (E := E) hW1 hR1
            obtain ⟨s3, hc3, hR3, hF3⟩ := c8_swaps (E := E) hW1 h3 ha hb2 (by omega)
            rw [swC_swC (by omega)] at hR3
            have hD : DyM (swC (woS t nb v m) a b) allE s3 := DyM.fr ⟨h3.1, h1⟩ hF3 (fun c i z y => by omega)
            have hF' : Fr sQ σ s3 := ((hF.tr (hF1.mono (fun c i h => Or.inl (Or.inl (Or.inl (by omega)))))).tr (hF2.mono (fun c i h => Or.inr h))).tr (hF3.mono (fun c i h => Or.inl (Or.inl (Or.inl (by omega)))))
            have hv : vldS (ncS t nb) (8 * a + b) = true := by
              unfold vldS
              rw [show (8 * a + b) / 8 = a by omega, show (8 * a + b) % 8 = b by omega, decide_eq_true hab, decide_eq_true hb2]; rfl
            have hf : swF (woS t nb v m) (8 * a + b) = prS (ncS t nb) (fun k => rr (swC (woS t nb v m) a b) allE k 19) 0 := by
              unfold swF
              rw [show (8 * a + b) / 8 = a by omega, show (8 * a + b) % 8 = b by omega]; rfl
            have ih2 := ih2 s3 ⟨by omega, hR3, hF'⟩
            rw [show 8 * a + (b + 1) = 8 * a + b + 1 by omega] at ih2
            rw [swp_succ, if_pos hv] at ih2
            have hbb := hb (8 * a + b)
            refine tX8_swapOf_27 ?_
            rw [ix8, nI_1 b, hR.1]
            refine ⟨fun q => ?_, fun _ => ⟨s1, hc1, s2, hc2, s3, hc3, _, _, c8_pairsNow (d := 19) (w := 0) hW1 hD (by decide) (by decide), ?_⟩⟩
            · have q := (nI_le' (show ncS t nb < 2147483648 by omega) (show b < 2147483648 by omega)).mp q; omega
            · show ((_ ≤ nI (prS (ncS t nb) (fun k => rr (swC (woS t nb v m) a b) allE k 19) 0) → _) ∧ _)
              rw [show wn (swC (woS t nb v m) a b) = ncS t nb from rfl, ← hf]
              cases hs : swp (ncS t nb) (swF (woS t nb v m)) (8 * a + b) with
              | none =>
                rw [hs] at ih2
                have h99 : ¬ sw3 99 none ≤ nI (swF (woS t nb v m) (8 * a + b)) := by
                  show ¬ nI 99 ≤ _
                  rw [nI_le' (by decide) (by omega)]; omega
                exact ⟨fun z => absurd z h99, fun z => ⟨fun z2 => absurd z2 z, fun _ => ih2⟩⟩
              | some q =>
                rw [hs] at ih2
                have hq := swp_b hb _ q hs
                have hle : sw3 99 (some q) ≤ nI (swF (woS t nb v m) (8 * a + b)) ↔ q.2 ≤ swF (woS t nb v m) (8 * a + b) := nI_le' (by omega) (by omega)
                dsimp only at ih2
                refine ⟨fun z => ⟨fun _ => ?_, fun z2 => absurd z z2⟩, fun z => ⟨fun z2 => absurd z2 z, fun _ => ?_⟩⟩
                · rw [if_neg (by have := hle.mp z; omega)] at ih2
                  exact ih2
                · rw [if_pos (by have : ¬ q.2 ≤ swF (woS t nb v m) (8 * a + b) := fun y => z (hle.mpr y); omega)] at ih2
                  exact ih2
          · intro s ⟨hab, hR, hF⟩
            refine tX8_swapOf_27 ⟨fun _ => ?_, fun q => ?_⟩
            · rw [nI_1]
              have e : swp (ncS t nb) (swF (woS t nb v m)) (8 * (a + 1)) = swp (ncS t nb) (swF (woS t nb v m)) (8 * a + ncS t nb) := by
                rw [show 8 * (a + 1) = (8 * a + ncS t nb) + (8 - ncS t nb) by omega]
                refine swp_skip _ (fun c h1 h2 => ?_)
                unfold vldS
                rw [decide_eq_false (show ¬ c % 8 < ncS t nb by omega), Bool.and_false]
              have := ih s ⟨hR, hF⟩
              rw [e] at this
              exact this
            · rw [hR.1] at q
              exact absurd (Int32.le_refl _) q
        rw [nI_1]
        have e : swp (ncS t nb) (swF (woS t nb v m)) (8 * a + (a + 1)) = swp (ncS t nb) (swF (woS t nb v m)) (8 * a) := by
          refine swp_skip _ (fun c h1 h2 => ?_)
          unfold vldS
          rw [decide_eq_false (show ¬ c / 8 < c % 8 by omega), Bool.false_and]
        have := inner (a + 1) s (by omega) ⟨by omega, hR, hF⟩
        rw [e] at this
        exact this
    · intro s ⟨hR, hF⟩
      have e : swp (ncS t nb) (swF (woS t nb v m)) 64 = swp (ncS t nb) (swF (woS t nb v m)) (8 * ncS t nb) := by
        rw [show 64 = 8 * ncS t nb + (64 - 8 * ncS t nb) by omega]
        refine swp_skip _ (fun c h1 h2 => ?_)
        unfold vldS
        by_cases h : c / 8 < c % 8
        · rw [decide_eq_false (show ¬ c % 8 < ncS t nb by omega), Bool.and_false]
        · rw [decide_eq_false h, Bool.false_and]
      subst hΨ
      refine tX8_swapOf_12 ⟨fun _ => ?_, fun q => ?_⟩
      · have hS : swS (woS t nb v m) w = (match swp (ncS t nb) (swF (woS t nb v m)) (8 * ncS t nb) with | none => -1 | some q => if w = 0 then nI (q.1 / 8) else if w = 1 then nI (q.1 % 8) else nI q.2) := by
          unfold swS
          rw [show wn (woS t nb v m) = ncS t nb from rfl, e]
        rw [hS]
        cases hs : swp (ncS t nb) (swF (woS t nb v m)) (8 * ncS t nb) with
        | none => exact ⟨fun z => absurd rfl z, fun _ => ⟨_, rfl, rfl, hF⟩⟩
        | some q =>
          have hq := swp_b hb _ q hs
          have hdv : nI q.1 / 8 = nI (q.1 / 8) := pk_div (d := 8) (by omega) (by decide) (by decide)
          have hrm := rem8 (n := q.1) (by omega)
          show ((¬ nI q.1 = -1 → _) ∧ (nI q.1 = -1 → _))
          have hne : ¬ nI q.1 = -1 := by
            intro z
            have z := congrArg Int32.toInt z
            rw [nI_toInt (by omega)] at z
            have : (-1 : Int32).toInt = -1 := by decide
            omega
          refine ⟨fun _ => ⟨fun z => ⟨fun z2 => ⟨_, rfl, ?_, hF⟩, fun z2 => ⟨_, rfl, ?_, hF⟩⟩, fun z => ⟨_, rfl, ?_, hF⟩⟩, fun z => absurd z hne⟩
          · dsimp only
            rw [if_neg (fun y => z ((ew 0 (by decide)).mpr y)), if_neg (fun y => z2 ((ew 1 (by decide)).mpr y))]; rfl
          · dsimp only
            rw [if_neg (fun y => z ((ew 0 (by decide)).mpr y)), if_pos ((ew 1 (by decide)).mp z2)]
            exact hrm
          · dsimp only
            rw [if_pos ((ew 0 (by decide)).mp z)]
            exact hdv
      · rw [hR.1] at q
        exact absurd (Int32.le_refl _) q
  exact outer 0 s0 (Nat.zero_le _) ⟨hR0, hF0.mono (fun c i h => Or.inl h)⟩
theorem c8_swap {t : Nat → Nat} {nb : Nat} {v : Nat → Nat → Nat} {m : Nat} (hT : ToM t nb v m σ) (w : Int32) :
    ∃ (v1 : Int32) (σ' : Hp), Call E mX8_swap [.ref 53, .int w] σ (some (.int v1)) σ' ∧ (v1 = swA (woS t nb v m) w ∧ Fr sQ σ σ') := by
  refine C_X8_swap (tX8_swap_0 ⟨_, _, c8_in, fun q => ⟨_, rfl, ?_, Fr.rf⟩, fun q => ?_⟩)
  · rw [bI_0] at q
    exact (if_neg q).symm
  · rw [bI_n] at q
    have hA : swA (woS t nb v m) w = swS (woS t nb v m) w.toNatClampNeg := if_pos q
    obtain ⟨w, hw, rfl⟩ := (inN_iff 2 (by decide)).mp q
    obtain ⟨v3, s3, hc3, h3, hF3⟩ := c8_swapOf (E := E) hT hw
    refine ⟨_, _, hc3, _, rfl, ?_, hF3⟩
    rw [hA, h3, cl (by omega)]
end MSW
