/-! THE CLASS: events told and untold -/
def insO (m i : Nat) (o : Nat → Nat) (j : Nat) : Nat := if j < i then o j else if j = i then m else o (j - 1)
def insP (m i : Nat) (p : Nat → Nat) (e : Nat) : Nat := if e = m then i else if p e < i then p e else p e + 1
theorem isO_ins {v : Nat → Nat → Nat} {m i : Nat} {o p : Nat → Nat} {kd d c nu : Nat} (h : isO v m o p) (hi : i ≤ m) (h1 : ∀ j, j < i → v 1 (o j) ≤ d) (h2 : ∀ j, i ≤ j → j < m → d < v 1 (o j)) : isO (upE v m kd d c nu) (m + 1) (insO m i o) (insP m i p) := by
  obtain ⟨a1, a2, a3⟩ := h
  have vm : upE v m kd d c nu 1 m = d := (if_pos rfl).trans ((if_neg (by decide)).trans (if_pos rfl))
  have ve : ∀ e, e < m → upE v m kd d c nu 1 e = v 1 e := fun e he => if_neg (by omega)
  have pi : ∀ e, e < m → (p e < i ↔ v 1 e ≤ d) := by
    intro e he
    obtain ⟨b1, b2⟩ := a2 e he
    constructor
    · intro y
      have := h1 (p e) y
      rw [b2] at this
      exact this
    · intro y
      refine Decidable.byContradiction (fun z => ?_)
      have := h2 (p e) (by omega) b1
      rw [b2] at this
      omega
  refine ⟨fun j hj => ?_, fun e he => ?_, fun e f he hf => ?_⟩
  · unfold insO
    by_cases z : j < i
    · rw [if_pos z]
      obtain ⟨b1, b2⟩ := a1 j (by omega)
      refine ⟨by omega, ?_⟩
      unfold insP
      rw [if_neg (by omega), b2, if_pos z]
    · rw [if_neg z]
      by_cases z2 : j = i
      · rw [if_pos z2]
        refine ⟨by omega, ?_⟩
        unfold insP
        rw [if_pos rfl, z2]
      · rw [if_neg z2]
        obtain ⟨b1, b2⟩ := a1 (j - 1) (by omega)
        refine ⟨by omega, ?_⟩
        unfold insP
        rw [if_neg (by omega), b2, if_neg (by omega)]
        omega
  · unfold insP
    by_cases z : e = m
    · rw [if_pos z]
      refine ⟨by omega, ?_⟩
      unfold insO
      rw [if_neg (by omega), if_pos rfl, z]
    · rw [if_neg z]
      obtain ⟨b1, b2⟩ := a2 e (by omega)
      by_cases z2 : p e < i
      · rw [if_pos z2]
        refine ⟨by omega, ?_⟩
        unfold insO
        rw [if_pos z2, b2]
      · rw [if_neg z2]
        refine ⟨by omega, ?_⟩
        unfold insO
        rw [if_neg (by omega), if_neg (by omega), show p e + 1 - 1 = p e by omega, b2]
  · unfold insP
    by_cases ze : e = m
    · by_cases zf : f = m
      · rw [if_pos ze, if_pos zf, ze, zf]
        omega
      · rw [if_pos ze, if_neg zf, ze, vm, ve f (by omega)]
        have := pi f (by omega)
        split <;> omega
    · by_cases zf : f = m
      · rw [if_neg ze, if_pos zf, zf, vm, ve e (by omega)]
        have := pi e (by omega)
        split <;> omega
      · rw [if_neg ze, if_neg zf, ve e (by omega), ve f (by omega), ← a3 e f (by omega) (by omega)]
        split <;> split <;> omega
def delO (q : Nat) (o : Nat → Nat) (j : Nat) : Nat := if j < q then o j else o (j + 1)
def delP (q : Nat) (p : Nat → Nat) (e : Nat) : Nat := if p e < q then p e else p e - 1
theorem isO_del {v : Nat → Nat → Nat} {m : Nat} {o p : Nat → Nat} (h : isO v (m + 1) o p) : isO v m (delO (p m) o) (delP (p m) p) := by
  obtain ⟨a1, a2, a3⟩ := h
  obtain ⟨c1, c2⟩ := a2 m (by omega)
  have on : ∀ j, j < m + 1 → j ≠ p m → o j < m := by
    intro j hj hne
    obtain ⟨b1, b2⟩ := a1 j hj
    have : o j ≠ m := fun y => hne (by rw [← y, b2])
    omega
  have pn : ∀ e, e < m → p e ≠ p m := by
    intro e he y
    have := (a2 e (by omega)).2
    rw [y, c2] at this
    omega
  refine ⟨fun j hj => ?_, fun e he => ?_, fun e f he hf => ?_⟩
  · unfold delO
    by_cases z : j < p m
    · rw [if_pos z]
      refine ⟨on j (by omega) (by omega), ?_⟩
      unfold delP
      rw [(a1 j (by omega)).2, if_pos z]
    · rw [if_neg z]
      refine ⟨on (j + 1) (by omega) (by omega), ?_⟩
      unfold delP
      rw [(a1 (j + 1) (by omega)).2, if_neg (by omega)]
      omega
  · have h1 := pn e he
    obtain ⟨b1, b2⟩ := a2 e (by omega)
    unfold delP
    by_cases z : p e < p m
    · rw [if_pos z]
      refine ⟨by omega, ?_⟩
      unfold delO
      rw [if_pos z, b2]
    · rw [if_neg z]
      refine ⟨by omega, ?_⟩
      unfold delO
      rw [if_neg (by omega), show p e - 1 + 1 = p e by omega, b2]
  · have h1 := pn e he
    have h2 := pn f hf
    rw [← a3 e f (by omega) (by omega)]
    unfold delP
    split <;> split <;> omega
def sEv (b c _i : Nat) : Prop := b ≤ c ∧ c ≤ b + 5
section XT
variable {E : Ev} {σ : Hp} {A : AS}
theorem x1_isFull {c m : Nat} {v : Nat → Nat → Nat} (hc : IsEvt c) (h : EvX c v m σ) (hm : m ≤ 8) : Call E mX1_isFull [.ref c] σ (some (.int (bI (m = 8)))) σ := by
  refine K_X1_isFull (tX1_isFull_0 hc ?_)
  rw [h.1, show (8 : Int32) = nI 8 from rfl, nI_lt' (by omega) (by decide)]
  exact ⟨fun z => ⟨by rw [bI_f (by omega)], rfl⟩, fun z => ⟨by rw [bI_t (show m = 8 by omega)], rfl⟩⟩
theorem x1_mayBe {k d c n : Int32} : Call E mX1_mayBe [.int k, .int d, .int c, .int n] σ (some (.int (bI ((0 ≤ k ∧ k ≤ 2) ∧ (0 ≤ d ∧ d ≤ 19) ∧ (0 ≤ c ∧ c ≤ 7) ∧ (0 ≤ n ∧ n ≤ 9))))) σ := by
  refine K_X1_mayBe (tX1_mayBe_0 ⟨_, _, x7_isWithin, fun z => ⟨?_, rfl⟩, fun z => ⟨_, _, x7_isDay, fun z2 => ⟨?_, rfl⟩, fun z2 => ⟨_, _, x7_isWithin, fun z3 => ⟨?_, rfl⟩, fun z3 => ⟨_, _, x7_isWithin, fun z4 => ⟨?_, rfl⟩, fun z4 => ⟨?_, rfl⟩⟩⟩⟩⟩)
  · rw [bI_f (fun y => bI_0.mp z y.1)]
  · rw [bI_f (fun y => bI_0.mp z2 y.2.1)]
  · rw [bI_f (fun y => bI_0.mp z3 y.2.2.1)]
  · rw [bI_f (fun y => bI_0.mp z4 y.2.2.2)]
  · rw [bI_t ⟨bI_n.mp z, bI_n.mp z2, bI_n.mp z3, bI_n.mp z4⟩]
theorem x1_tell {b m kd d c nu : Nat} {v : Nat → Nat → Nat} (hb : IsEvt b) (h : EvX b v m σ) (hv : okE v m) (hm : m < 8) (hd : d < 20) :
    ∃ σ' : Hp, Call E mX1_tell [.ref b, .int (nI kd), .int (nI d), .int (nI c), .int (nI nu)] σ none σ' ∧ (EvX b (upE v m kd d c nu) (m + 1) σ' ∧ Fr (sEv b) σ σ') := by
  have hfull := x1_isFull (E := E) hb h (by omega)
  obtain ⟨h1, h2, o, p, hO, h3⟩ := h
  have hOk := hO
  obtain ⟨a1, a2, a3⟩ := hO
  have fe : ∀ c' i, b ≤ c' → c' ≤ b + 5 → sEv b c' i := fun c' i x y => ⟨x, y⟩
  refine C_X1_tell (tX1_tell_0 hb ⟨_, _, hfull, fun _ => ?_, fun z => absurd (bI_n.mp z) (by omega)⟩)
  have u1 : ∀ x : Int32, up σ (b + 1) m x b 5 = nI m := fun x => by rw [up_c (by omega)]; exact h1
  have u2 : ∀ x y : Int32, up (up σ (b + 1) m x) (b + 2) m y b 5 = nI m := fun x y => by rw [up_c (by omega), up_c (by omega)]; exact h1
  have u3 : ∀ x y z : Int32, up (up (up σ (b + 1) m x) (b + 2) m y) (b + 3) m z b 5 = nI m := fun x y z => by rw [up_c (by omega), up_c (by omega), up_c (by omega)]; exact h1
  have u4 : ∀ x y z w : Int32, up (up (up (up σ (b + 1) m x) (b + 2) m y) (b + 3) m z) (b + 4) m w b 5 = nI m := fun x y z w => by rw [up_c (by omega), up_c (by omega), up_c (by omega), up_c (by omega)]; exact h1
  simp only [h1, cl (show m < 2147483648 by omega), u1, u2, u3, u4]
  have hvm : vp_in (nI m) 8 := vin (by omega) (by decide)
  refine ⟨hvm, hvm, hvm, hvm, ?_⟩
  have f4 : ∀ x y z w : Int32, Fr (sEv b) σ (up (up (up (up σ (b + 1) m x) (b + 2) m y) (b + 3) m z) (b + 4) m w) := fun x y z w => (((Fr.rf.up (fe _ _ (by omega) (by omega))).up (fe _ _ (by omega) (by omega))).up (fe _ _ (by omega) (by omega))).up (fe _ _ (by omega) (by omega))
  have g4 : ∀ e, e < m + 1 → ∀ f, f < 4 → up (up (up (up σ (b + 1) m (nI kd)) (b + 2) m (nI d)) (b + 3) m (nI c)) (b + 4) m (nI nu) (b + 1 + f) e = nI (upE v m kd d c nu f e) := by
    intro e he f hf
    show _ = nI (if e = m then (if f = 0 then kd else if f = 1 then d else if f = 2 then c else nu) else v f e)
    by_cases z : e = m
    · rw [if_pos z, z]
      rcases (show f = 0 ∨ f = 1 ∨ f = 2 ∨ f = 3 by omega) with rfl | rfl | rfl | rfl
      · rw [up_c (by omega), up_c (by omega), up_c (by omega), show b + 1 + 0 = b + 1 by omega, up_s]; rfl
      · rw [up_c (by omega), up_c (by omega), show b + 1 + 1 = b + 2 by omega, up_s]; rfl
      · rw [up_c (by omega), show b + 1 + 2 = b + 3 by omega, up_s]; rfl
      · rw [show b + 1 + 3 = b + 4 by omega, up_s]; rfl
    · rw [if_neg z, up_i z, up_i z, up_i z, up_i z]
      exact h2 e (by omega) f hf
  have k5 : ∀ i, i < m → up (up (up (up σ (b + 1) m (nI kd)) (b + 2) m (nI d)) (b + 3) m (nI c)) (b + 4) m (nI nu) (b + 5) i = nI (o i) := fun i hi => by
    rw [up_c (by omega), up_c (by omega), up_c (by omega), up_c (by omega)]
    exact h3 i hi
  have f4' := f4 (nI kd) (nI d) (nI c) (nI nu)
  have u4' := u4 (nI kd) (nI d) (nI c) (nI nu)
  generalize hτ : up (up (up (up σ (b + 1) m (nI kd)) (b + 2) m (nI d)) (b + 3) m (nI c)) (b + 4) m (nI nu) = τ0 at *
  have srt : ∀ i j, i ≤ j → j < m → v 1 (o i) ≤ v 1 (o j) := by
    intro i j hij hj
    by_cases z : i = j
    · rw [z]; exact Nat.le_refl _
    · have := (a3 (o i) (o j) (a1 i (by omega)).1 (a1 j hj).1).mp (by rw [(a1 i (by omega)).2, (a1 j hj).2]; omega)
      omega
  -- the end: the new event goes to place i
  have fin : ∀ i (τ : Hp), i ≤ m → Fr (sEv b) σ τ → τ b 5 = nI m → (∀ e, e < m + 1 → ∀ f, f < 4 → τ (b + 1 + f) e = nI (upE v m kd d c nu f e)) → (∀ j, j < i → τ (b + 5) j = nI (o j)) → (∀ j, i < j → j ≤ m → τ (b + 5) j = nI (o (j - 1))) → (∀ j, j < i → v 1 (o j) ≤ d) → (∀ j, i ≤ j → j < m → d < v 1 (o j)) →
      PV (fun σ' => EvX b (upE v m kd d c nu) (m + 1) σ' ∧ Fr (sEv b) σ σ') none (up (up τ (b + 5) i (nI m)) b 5 (nI (m + 1))) := by
    intro i τ hi hF t5 tg t1 t2 hl hg
    refine ⟨rfl, ⟨by rw [up_s], fun e he f hf => ?_, insO m i o, insP m i p, isO_ins hOk hi hl hg, fun j hj => ?_⟩, (hF.up (fe _ _ (by omega) (by omega))).up (fe _ _ (by omega) (by omega))⟩
    · rw [up_c (by omega), up_c (by omega)]
      exact tg e he f hf
    · rw [up_c (by omega)]
      unfold insO
      by_cases z : j < i
      · rw [if_pos z, up_i (by omega)]
        exact t1 j z
      · rw [if_neg z]
        by_cases z2 : j = i
        · rw [if_pos z2, z2, up_s]
        · rw [if_neg z2, up_i z2]
          exact t2 j (by omega) (by omega)
  have loop : ∀ i (τ : Hp), i ≤ m → Fr (sEv b) σ τ → τ b 5 = nI m → (∀ e, e < m + 1 → ∀ f, f < 4 → τ (b + 1 + f) e = nI (upE v m kd d c nu f e)) → (∀ j, j < i → τ (b + 5) j = nI (o j)) → (∀ j, i < j → j ≤ m → τ (b + 5) j = nI (o (j - 1))) → (∀ j, i ≤ j → j < m → d < v 1 (o j)) →
      Ru E mX1_tell 55 [(0, .ref b), (1, .int (nI kd)), (2, .int (nI d)), (3, .int (nI c)), (4, .int (nI nu)), (5, .int (nI i))] [] τ (PV (fun σ' => EvX b (upE v m kd d c nu) (m + 1) σ' ∧ Fr (sEv b) σ σ')) := by
    intro i
    induction i with
    | zero =>
      intro τ hi hF t5 tg t1 t2 hg
      have ff := fin 0 τ hi hF t5 tg t1 t2 (fun j hj => by omega) hg
      refine tX1_tell_55 hb ⟨fun _ => ⟨vin (by decide) (by decide), ?_⟩, fun z => absurd (by decide) z⟩
      rw [up_c (show b ≠ b + 5 by omega), t5, nI_1]
      exact ff
    | succ i ih =>
      intro τ hi hF t5 tg t1 t2 hg
      obtain ⟨b1, b2⟩ := a1 i (by omega)
      obtain ⟨o1, o2, o3, o4⟩ := hv (o i) b1
      have e1 : nI (i + 1) - 1 = nI i := by rw [show (1 : Int32) = nI 1 from rfl, pk_sub (by omega)]; rfl
      have e2 : nI (i + 1) + (-1) = nI i := by rw [← Int32.sub_eq_add_neg, e1]
      have ed : τ (b + 2) (o i) = nI (v 1 (o i)) := by
        have := tg (o i) (by omega) 1 (by decide)
        rw [show upE v m kd d c nu 1 (o i) = v 1 (o i) from if_neg (by omega)] at this
        exact this
      refine tX1_tell_55 hb ?_
      rw [e1, e2, cl (show i < 2147483648 by omega), cl (show i + 1 < 2147483648 by omega), t1 i (by omega), cl (show o i < 2147483648 by omega), ed, t5, up_c (show b ≠ b + 5 by omega), t5, nI_1 m]
      refine ⟨fun z => ?_, fun _ => ⟨vin (by omega) (by decide), vin (by omega) (by decide), fun z => ⟨vin (by omega) (by decide), ?_⟩, fun z => ⟨vin (by omega) (by decide), ?_⟩⟩⟩
      · rw [show (0 : Int32) = nI 0 from rfl, nI_le' (by omega) (by decide)] at z; omega
      · rw [nI_le' (by omega) (by omega)] at z
        exact fin (i + 1) τ hi hF t5 tg t1 t2 (fun j hj => Nat.le_trans (srt j i (by omega) (by omega)) z) hg
      · rw [nI_le' (by omega) (by omega)] at z
        refine ih _ (by omega) (hF.up (fe _ _ (by omega) (by omega))) (by rw [up_c (by omega)]; exact t5) (fun e he f hf => by rw [up_c (by omega)]; exact tg e he f hf) (fun j hj => by rw [up_i (by omega)]; exact t1 j (by omega)) (fun j hj hj2 => ?_) (fun j hj hj2 => ?_)
        · by_cases y : j = i + 1
          · rw [y, up_s]; rfl
          · rw [up_i y]; exact t2 j (by omega) hj2
        · by_cases y : j = i
          · rw [y]; omega
          · exact hg j (by omega) hj2
  exact loop m τ0 (Nat.le_refl _) f4' u4' g4 k5 (fun j hj hj2 => by omega) (fun j hj hj2 => by omega)
theorem x1_untell {b m : Nat} {v : Nat → Nat → Nat} (hb : IsEvt b) (h : EvX b v (m + 1) σ) (hm : m < 8) :
    ∃ σ' : Hp, Call E mX1_untell [.ref b] σ none σ' ∧ (EvX b v m σ' ∧ Fr (sEv b) σ σ') := by
  obtain ⟨h1, h2, o, p, hO, h3⟩ := h
  have hOd := isO_del hO
  obtain ⟨a1, a2, a3⟩ := hO
  obtain ⟨c1, c2⟩ := a2 m (by omega)
  have fe : ∀ c' i, b ≤ c' → c' ≤ b + 5 → sEv b c' i := fun c' i x y => ⟨x, y⟩
  have e1 : nI (m + 1) - 1 = nI m := by rw [show (1 : Int32) = nI 1 from rfl, pk_sub (by omega)]; rfl
  refine C_X1_untell (tX1_untell_0 hb ⟨fun _ => ?_, fun z => ?_⟩)
  · rw [h1, e1]
    have loop : ∀ i (τ : Hp), i ≤ m + 1 → (Fr (sEv b) σ τ ∧ τ b 5 = nI m ∧ (∀ e, e < m → ∀ f, f < 4 → τ (b + 1 + f) e = nI (v f e)) ∧ (∀ j, j < (if i ≤ p m then i else i - 1) → τ (b + 5) j = nI (delO (p m) o j)) ∧ (∀ j, i ≤ j → j < m + 1 → τ (b + 5) j = nI (o j))) →
        Ru E mX1_untell 22 [(0, .ref b), (1, .int (nI (if i ≤ p m then i else i - 1))), (2, .int (nI i))] [] τ (PV (fun σ' => EvX b v m σ' ∧ Fr (sEv b) σ σ')) := by
      refine for_up (m + 1) _ _ ?_ ?_
      · intro i τ hi ⟨hF, t5, tg, t1, t2⟩ ih
        obtain ⟨b1, b2⟩ := a1 i hi
        generalize hK : (if i ≤ p m then i else i - 1) = K at *
        have hKi : K ≤ i := by rw [← hK]; split <;> omega
        refine tX1_untell_22 hb ?_
        rw [t5, cl (show i < 2147483648 by omega), cl (show K < 2147483648 by omega), t2 i (Nat.le_refl _) hi, nI_eq' (show o i < 2147483648 by omega) (show m < 2147483648 by omega), nI_1 i, nI_1 K]
        refine ⟨fun z => ?_, fun _ => ⟨vin (by omega) (by decide), fun z => ?_, fun z => ⟨vin (by omega) (by decide), ?_⟩⟩⟩
        · rw [nI_lt' (by omega) (by omega)] at z; omega
        · have hip : i = p m := by rw [← b2, z]
          have eK : (if i + 1 ≤ p m then i + 1 else i + 1 - 1) = K := by rw [← hK, if_neg (by omega), if_pos (by omega)]; omega
          have := ih τ ⟨hF, t5, tg, by rw [eK]; exact t1, fun j hj hj2 => t2 j (by omega) hj2⟩
          rw [eK] at this
          exact this
        · have hip : i ≠ p m := fun y => z (by rw [y, c2])
          have eK : (if i + 1 ≤ p m then i + 1 else i + 1 - 1) = K + 1 := by
            rw [← hK]
            by_cases y : i < p m
            · rw [if_pos (by omega), if_pos (by omega)]
            · rw [if_neg (by omega), if_neg (by omega)]; omega
          have := ih (up τ (b + 5) K (nI (o i))) ⟨hF.up (fe _ _ (by omega) (by omega)), by rw [up_c (by omega)]; exact t5, fun e he f hf => by rw [up_c (by omega)]; exact tg e he f hf, by
            rw [eK]
            intro j hj
            by_cases y : j = K
            · rw [y, up_s]
              unfold delO
              by_cases y2 : i < p m
              · rw [if_pos (by omega : i ≤ p m)] at hK
                rw [if_pos (by omega), ← hK]
              · rw [if_neg (by omega : ¬ i ≤ p m)] at hK
                rw [if_neg (by omega), show K + 1 = i by omega]
            · rw [up_i y]; exact t1 j (by omega), fun j hj hj2 => by rw [up_i (by omega)]; exact t2 j (by omega) hj2⟩
          rw [eK] at this
          exact this
      · intro τ ⟨hF, t5, tg, t1, t2⟩
        refine tX1_untell_22 hb ⟨fun _ => ⟨rfl, ⟨t5, tg, _, _, hOd, fun i hi => t1 i ?_⟩, hF⟩, fun z => ?_⟩
        · rw [if_neg (by omega)]; omega
        · exfalso
          apply z
          rw [t5, nI_lt' (by omega) (by omega)]
          omega
    have := loop 0 (up σ b 5 (nI m)) (Nat.zero_le _) ⟨Fr.rf.up (fe _ _ (by omega) (by omega)), by rw [up_s], fun e he f hf => by rw [up_c (by omega)]; exact h2 e (by omega) f hf, fun j hj => by rw [if_pos (Nat.zero_le _)] at hj; omega, fun j _ hj => by rw [up_c (by omega)]; exact h3 j hj⟩
    rw [if_pos (Nat.zero_le _)] at this
    exact this
  · rw [h1, show (0 : Int32) = nI 0 from rfl, nI_eq' (by omega) (by decide)] at z; omega
theorem StX.evs {v : Nat → Nat → Nat} {m : Nat} {τ : Hp} (h : StX A σ) (hF : Fr (sEv 12) σ τ) (hE : EvX 12 v m τ) : StX (at' A, an A, v, m, aS A, aH A) τ := by
  obtain ⟨⟨h1, h2, h3, h4⟩, h5, h6, h7, h8⟩ := h
  have k : ∀ c i, ¬ sEv 12 c i → τ c i = σ c i := hF
  refine ⟨⟨by rw [k _ _ (by unfold sEv; omega)]; exact h1, fun i hi => by rw [k _ _ (by unfold sEv; omega)]; exact h2 i hi, by rw [k _ _ (by unfold sEv; omega)]; exact h3, h4.fr hF (fun c i a b => by unfold sEv; omega)⟩, hE, h6.fr hF (fun c i a b => by unfold sEv; omega), fun s hs => ?_, by rw [k _ _ (by unfold sEv; omega)]; exact h8⟩
  obtain ⟨g1, g2, g3, g4⟩ := h7 s hs
  exact ⟨by rw [k _ _ (by unfold sEv; omega)]; exact g1, by rw [k _ _ (by unfold sEv; omega)]; exact g2, by rw [k _ _ (by unfold sEv; omega)]; exact g3, fun i hi => by rw [k _ _ (by unfold sEv; omega)]; exact g4 i hi⟩
theorem sEv_X {c i : Nat} (h : sEv 12 c i) : sX c i := by unfold sEv at h; unfold sX; omega
theorem aEvent_y {k d c n : Int32} (q : (0 ≤ k ∧ k ≤ 2) ∧ (0 ≤ d ∧ d ≤ 19) ∧ (0 ≤ c ∧ c ≤ 7) ∧ (0 ≤ n ∧ n ≤ 9)) (h8 : ¬ am A = 8) : aEvent A k d c n = (nI (am A + 1), (at' A, an A, upE (av A) (am A) k.toNatClampNeg d.toNatClampNeg c.toNatClampNeg n.toNatClampNeg, am A + 1, aS A, aH A)) := by
  unfold aEvent
  rw [if_pos q, if_neg h8]
/-- what tell does, where it may be told -/
theorem x7_tell (h : StX A σ) (ho : okA A) {k d c n : Int32} (q : (0 ≤ k ∧ k ≤ 2) ∧ (0 ≤ d ∧ d ≤ 19) ∧ (0 ≤ c ∧ c ≤ 7) ∧ (0 ≤ n ∧ n ≤ 9)) (h8 : ¬ am A = 8) : ∃ σ' : Hp, Call E mX1_tell [.ref 12, .int k, .int d, .int c, .int n] σ none σ' ∧ (StX (aEvent A k d c n).2 σ' ∧ Fr sX σ σ') := by
  have hm := ho.2.2.1
  rw [aEvent_y q h8]
  obtain ⟨k, hk, rfl⟩ := (inN_iff 2 (by decide)).mp q.1
  obtain ⟨d, hd, rfl⟩ := (inN_iff 19 (by decide)).mp q.2.1
  obtain ⟨c, hc, rfl⟩ := (inN_iff 7 (by decide)).mp q.2.2.1
  obtain ⟨n, hn, rfl⟩ := (inN_iff 9 (by decide)).mp q.2.2.2
  rw [cl (show k < 2147483648 by omega), cl (show d < 2147483648 by omega), cl (show c < 2147483648 by omega), cl (show n < 2147483648 by omega)]
  obtain ⟨s, hcl, hE, hF⟩ := x1_tell (E := E) (kd := k) (d := d) (c := c) (nu := n) isEvt12 h.2.1 ho.2.2.2.1 (show am A < 8 by omega) (by omega)
  exact ⟨s, hcl, h.evs hF hE, hF.mono (fun c i z => sEv_X z)⟩
theorem x7_event (h : StX A σ) (ho : okA A) (k d c n : Int32) : ActX E mX7_event [.ref 0, .int k, .int d, .int c, .int n] σ (aEvent A k d c n) := by
  have hm := ho.2.2.1
  refine C_X7_event (tX7_event_0 ⟨_, _, x1_mayBe, fun q => ⟨_, _, x1_isFull isEvt12 h.2.1 hm, fun q2 => ?_, fun q2 => ⟨_, rfl, ?_⟩⟩, fun q => ⟨_, rfl, ?_⟩⟩)
  · obtain ⟨s, hcl, hS, hF⟩ := x7_tell (E := E) h ho (bI_n.mp q) (bI_0.mp q2)
    refine ⟨s, hcl, _, rfl, ?_, hS, hF⟩
    rw [aEvent_y (bI_n.mp q) (bI_0.mp q2)] at hS ⊢
    exact hS.2.1.1
  · unfold aEvent
    rw [if_pos (bI_n.mp q), if_pos (bI_n.mp q2)]
    exact ⟨rfl, h, Fr.rf⟩
  · unfold aEvent
    rw [if_neg (bI_0.mp q)]
    exact ⟨rfl, h, Fr.rf⟩
theorem x7_back (h : StX A σ) (ho : okA A) : ActX E mX7_back [.ref 0] σ (aBack A) := by
  have hm := ho.2.2.1
  have e0 : nI (am A) = 0 ↔ am A = 0 := nI_eq' (show am A < 2147483648 by omega) (show 0 < 2147483648 by decide)
  unfold aBack
  refine C_X7_back (tX7_back_0 ⟨fun z => ?_, fun z => ⟨_, rfl, ?_⟩⟩)
  · rw [h.2.1.1, e0] at z
    rw [if_neg z]
    have hE : EvX 12 (av A) (am A - 1 + 1) σ := by rw [show am A - 1 + 1 = am A by omega]; exact h.2.1
    obtain ⟨s, hc, hE', hF⟩ := x1_untell (E := E) isEvt12 hE (by omega)
    exact ⟨s, hc, _, rfl, hE'.1, h.evs hF hE', hF.mono (fun c i z => sEv_X z)⟩
  · rw [h.2.1.1, e0] at z
    rw [if_pos z]
    exact ⟨rfl, h, Fr.rf⟩
theorem StX.mark {x : Int32} (h : StX A σ) : StX (setF A x) (up σ 0 12 x) := by
  obtain ⟨⟨h1, h2, h3, h4⟩, h5, h6, h7, h8⟩ := h
  have hF : Fr (fun c i => c = 0 ∧ i = 12) σ (up σ 0 12 x) := Fr.rf.up ⟨rfl, rfl⟩
  refine ⟨⟨by rw [up_i (by decide)]; exact h1, fun i hi => by rw [up_c (by decide)]; exact h2 i hi, by rw [up_i (by decide)]; exact h3, h4.fr hF (fun c i a b => by omega)⟩, h5.fr hF (fun c i a b => by omega), h6.fr hF (fun c i a b => by omega), fun s hs => ?_, by rw [up_s]; rfl⟩
  obtain ⟨g1, g2, g3, g4⟩ := h7 s hs
  exact ⟨by rw [up_c (by omega)]; exact g1, by rw [up_c (by omega)]; exact g2, by rw [up_c (by omega)]; exact g3, fun i hi => by rw [up_c (by omega)]; exact g4 i hi⟩
theorem x7_find {x : Int32} : Call E mX7_find [.ref 0, .int x] σ (some (.int ((-10) - x))) (up σ 0 12 x) := K_X7_find (tX7_find_0 ⟨rfl, rfl⟩)
theorem fX {c i : Nat} {v : Int32} {σ σ' : Hp} (h : Fr sX σ σ') (hc : c < 53) : Fr sX σ (up σ' c i v) := h.up hc
theorem x7_read (h : StX A σ) (ho : okA A) (s : Int32) : ActX E mX7_read [.ref 0, .int s] σ (aRead A s) := by
  unfold aRead
  refine C_X7_read (tX7_read_0 ⟨_, _, x7_isSheet, fun q => ?_, fun q => ⟨_, rfl, ?_⟩⟩)
  · have q := bI_n.mp q
    rw [if_pos q]
    obtain ⟨s, hs, rfl⟩ := (inN_iff 3 (by decide)).mp q
    rw [cl (show s < 2147483648 by omega)]
    obtain ⟨g1, g2, g3, g4⟩ := h.2.2.2.1 s (by omega)
    refine ⟨vin (by omega) (by decide), ?_⟩
    rw [g1]
    refine ⟨fun z => ?_, fun z => ⟨_, _, x7_find, _, rfl, ?_⟩⟩
    · have ht := Decidable.of_not_not (bI_0.mp z)
      rw [if_pos ht]
      have loop : ∀ n j (B : AS) (τ : Hp), n + j = 16 → StX B τ → okA B → Fr sX σ τ → (hz (aH B) s ≤ 60) → Ru E mX7_read 35 [(0, .ref 0), (1, .int (nI s)), (2, .ref (45 + 2 * s)), (3, .int (nI j)), (4, .int (nI (4 * j)))] [] τ (PI (fun v σ' => v = nI (rdS s n j B).1 ∧ StX (rdS s n j B).2 σ' ∧ Fr sX σ σ')) := by
        intro n
        induction n with
        | zero =>
          intro j B τ hj hB hoB hF hz60
          obtain ⟨b1, b2, b3, b4⟩ := hB.2.2.2.1 s (by omega)
          refine tX7_read_35 (isSheetN s (by omega)) ⟨fun _ => ⟨_, rfl, rfl, hB, hF⟩, fun z2 => ?_⟩
          rw [b3, show (4 : Int32) = nI 4 from rfl, nI_add, nI_lt' (by omega) (by omega)] at z2
          omega
        | succ n ih =>
          intro j B τ hj hB hoB hF hz60
          have h8 := hoB.2.2.1
          obtain ⟨b1, b2, b3, b4⟩ := hB.2.2.2.1 s (by omega)
          refine tX7_read_35 (isSheetN s (by omega)) ?_
          rw [b3, show (4 : Int32) = nI 4 from rfl, show (1 : Int32) = nI 1 from rfl, show (2 : Int32) = nI 2 from rfl, show (3 : Int32) = nI 3 from rfl, nI_add, nI_add, nI_add, nI_add, nI_add]
          refine ⟨fun z2 => ?_, fun z2 => ?_⟩
          · rw [nI_lt' (by omega) (by omega)] at z2
            unfold rdS
            rw [if_neg (by omega)]
            exact ⟨_, rfl, rfl, hB, hF⟩
          · rw [nI_lt' (by omega) (by omega)] at z2
            have hb : 4 * j + 3 < 60 := by omega
            unfold rdS
            rw [if_pos (by omega)]
            refine ⟨_, _, x1_isFull isEvt12 hB.2.1 h8, fun z3 => ?_, fun z3 => ?_⟩
            · have hno : ¬ 0 < (aEvent B (hi (aH B) s (4 * j)) (hi (aH B) s (4 * j + 1)) (hi (aH B) s (4 * j + 2)) (hi (aH B) s (4 * j + 3))).1 := by
                unfold aEvent
                split
                · rw [if_pos (bI_n.mp z3)]
                  show ¬ (0 : Int32) < -4
                  decide
                · show ¬ (0 : Int32) < -2
                  decide
              rw [if_neg hno]
              exact ⟨_, rfl, rfl, hB, hF⟩
            · rw [cl (show 4 * j < 2147483648 by omega), cl (show 4 * j + 1 < 2147483648 by omega), cl (show 4 * j + 2 < 2147483648 by omega), cl (show 4 * j + 3 < 2147483648 by omega), b4 _ (by omega), b4 _ (by omega), b4 _ (by omega), b4 _ (by omega)]
              refine ⟨vin (by omega) (by decide), vin (by omega) (by decide), vin (by omega) (by decide), vin (by omega) (by decide), _, _, x1_mayBe, fun z4 => ?_, fun z4 => ?_⟩
              · obtain ⟨τ2, hc, hS, hF2⟩ := x7_tell (E := E) hB hoB (bI_n.mp z4) (bI_0.mp z3)
                have hyes : 0 < (aEvent B (hi (aH B) s (4 * j)) (hi (aH B) s (4 * j + 1)) (hi (aH B) s (4 * j + 2)) (hi (aH B) s (4 * j + 3))).1 := by
                  rw [aEvent_y (bI_n.mp z4) (bI_0.mp z3)]
                  show 0 < nI (am B + 1)
                  rw [show (0 : Int32) = nI 0 from rfl, nI_lt' (by decide) (by omega)]
                  omega
                rw [if_pos hyes]
                have := ih (j + 1) _ τ2 (by omega) hS (okA_event hoB _ _ _ _) (hF.tr hF2) (by rw [aH_event]; exact hz60)
                refine ⟨τ2, ?_, ?_⟩
                · rw [b4 _ (by omega), b4 _ (by omega), b4 _ (by omega), b4 _ (by omega)]
                  exact hc
                · rw [show 4 * (j + 1) = 4 * j + 4 by omega] at this
                  exact this
              · have hno : ¬ 0 < (aEvent B (hi (aH B) s (4 * j)) (hi (aH B) s (4 * j + 1)) (hi (aH B) s (4 * j + 2)) (hi (aH B) s (4 * j + 3))).1 := by
                  unfold aEvent
                  rw [if_neg (bI_0.mp z4)]
                  show ¬ (0 : Int32) < -2
                  decide
                rw [if_neg hno]
                exact ⟨_, rfl, rfl, hB, hF⟩
      exact loop 16 0 A σ rfl h ho Fr.rf (ho.2.2.2.2.2 s (by omega)).2
    · rw [if_neg (bI_n.mp z)]
      exact ⟨rfl, h.mark, fX Fr.rf (by decide)⟩
  · rw [if_neg (bI_0.mp q)]
    exact ⟨rfl, h, Fr.rf⟩
end XT
