/-! SPEC: numbers, truth values, what a ring is, a day of it -/
def bI (p : Prop) [Decidable p] : Int32 := if p then 1 else 0
theorem bI_t {p : Prop} [Decidable p] (h : p) : bI p = 1 := if_pos h
theorem bI_f {p : Prop} [Decidable p] (h : ¬ p) : bI p = 0 := if_neg h
theorem bI_0 {p : Prop} [Decidable p] : bI p = 0 ↔ ¬ p := by
  unfold bI
  split <;> simp_all
theorem bI_n {p : Prop} [Decidable p] : ¬ bI p = 0 ↔ p := by
  rw [bI_0]
  exact Decidable.not_not
theorem bI_1 {p : Prop} [Decidable p] : bI p = 1 ↔ p := by
  unfold bI
  split <;> simp_all
theorem bI_nar {p : Prop} [Decidable p] : narrow .boolean (.int (bI p)) = .int (bI p) := by
  unfold bI
  split <;> rfl
theorem bI_congr {p q : Prop} [Decidable p] [Decidable q] (h : p ↔ q) : bI p = bI q := by
  unfold bI
  by_cases hp : p
  · rw [if_pos hp, if_pos (h.mp hp)]
  · rw [if_neg hp, if_neg (fun z => hp (h.mpr z))]
theorem cl {n : Nat} (h : n < 2147483648) : (nI n).toNatClampNeg = n := nI_clamp h
theorem vin {n N : Nat} (h : n < N) (hN : N < 2147483648) : vp_in (nI n) N := vp_in_nI h hN
theorem vout {x : Int32} {N : Nat} (hN : N < 2147483648) : vp_in x N ↔ ∃ j, j < N ∧ x = nI j := by
  constructor
  · intro h; exact vp_in_of h hN
  · rintro ⟨j, hj, rfl⟩; exact vin hj hN
theorem up_s {σ : Hp} {c i : Nat} {v : Int32} : up σ c i v c i = v := by simp [up]
theorem up_c {σ : Hp} {c i c' i' : Nat} {v : Int32} (h : c' ≠ c) : up σ c i v c' i' = σ c' i' := by simp [up, h]
theorem up_i {σ : Hp} {c i c' i' : Nat} {v : Int32} (h : i' ≠ i) : up σ c i v c' i' = σ c' i' := by simp [up, h]
theorem nI_le' {a b : Nat} (ha : a < 2147483648) (hb : b < 2147483648) : nI a ≤ nI b ↔ a ≤ b := nI_leI ha hb
theorem nI_lt' {a b : Nat} (ha : a < 2147483648) (hb : b < 2147483648) : nI a < nI b ↔ a < b := nI_ltI ha hb
theorem nI_eq' {a b : Nat} (ha : a < 2147483648) (hb : b < 2147483648) : nI a = nI b ↔ a = b := nI_eq ha hb
/-- a loop that counts up -/
theorem for_up {α : Type} (n : Nat) (J : Nat → α → Prop) (G : Nat → α → Prop) (step : ∀ i s, i < n → J i s → (∀ s', J (i + 1) s' → G (i + 1) s') → G i s) (fin : ∀ s, J n s → G n s) : ∀ i s, i ≤ n → J i s → G i s := by
  have key : ∀ m i s, i + m = n → J i s → G i s := by
    intro m
    induction m with
    | zero => intro i s h hJ; have : i = n := by omega
              subst this; exact fin s hJ
    | succ m ih => intro i s h hJ; exact step i s (by omega) hJ (fun s' hs => ih (i + 1) s' (by omega) hs)
  intro i s h hJ
  exact key (n - i) i s (by omega) hJ
/-- bit e of m -/
def bt (m : Int32) (e : Nat) : Bool := decide (((m >>> (nI e &&& 31)) &&& 1) = 1)
theorem bt_t {m : Int32} {e : Nat} : bt m e = true ↔ ((m >>> (nI e &&& 31)) &&& 1) = 1 := by simp [bt]
theorem bt_f {m : Int32} {e : Nat} : bt m e = false ↔ ¬ ((m >>> (nI e &&& 31)) &&& 1) = 1 := by simp [bt]
/-- x, y, spread, sort, way, arcs, sighs, left -/
abbrev Rg : Type := Int32 × Int32 × Nat × Nat × Nat × Nat × Nat × Bool
abbrev gx (r : Rg) : Int32 := r.1
abbrev gy (r : Rg) : Int32 := r.2.1
abbrev gw (r : Rg) : Nat := r.2.2.1
abbrev gs (r : Rg) : Nat := r.2.2.2.1
abbrev gq (r : Rg) : Nat := r.2.2.2.2.1
abbrev ga (r : Rg) : Nat := r.2.2.2.2.2.1
abbrev gi (r : Rg) : Nat := r.2.2.2.2.2.2.1
abbrev gl (r : Rg) : Bool := r.2.2.2.2.2.2.2
def lgx (r : Rg) : Int32 := if gq r = 0 then gx r + nI (gw r) else if gq r = 2 then gx r - nI (gw r) else gx r
def lgy (r : Rg) : Int32 := if gq r = 1 then gy r + nI (gw r) else if gq r = 3 then gy r - nI (gw r) else gy r
/-- what an event does -/
def und (r : Rg) (kd nu : Nat) : Rg :=
  if kd = 0 then (gx r, gy r, nu, gs r, gq r, 0, gi r, gl r)
  else if kd = 1 then (lgx r, lgy r, gw r, gs r, (gq r + 2) % 4, 0, gi r + (if 1 ≤ ga r ∧ ga r ≤ 3 then 1 else 0), gl r)
  else (gx r, gy r, gw r, gs r, gq r, ga r, gi r, true)
/-- quarters on a day, by the sort -/
def qd (s d : Nat) : Nat := if s = 2 then 2 else if s = 0 ∧ d % 2 = 1 then 0 else 1
def trn (r : Rg) (q : Nat) : Rg := if gl r = true ∨ gw r = 0 then r else (gx r, gy r, gw r, gs r, (gq r + q) % 4, min (ga r + q) 4, gi r, gl r)
def goes (r : Rg) (d : Nat) : Rg := trn r (qd (gs r) d)
def okR (r : Rg) : Prop := gw r ≤ 9 ∧ gs r ≤ 2 ∧ gq r < 4 ∧ ga r ≤ 4
/-- couples' data (field, couple), how many, events (field, event), how many -/
abbrev Wo : Type := (Nat → Nat → Nat) × Nat × (Nat → Nat → Nat) × Nat
abbrev wc (W : Wo) : Nat → Nat → Nat := W.1
abbrev wn (W : Wo) : Nat := W.2.1
abbrev we (W : Wo) : Nat → Nat → Nat := W.2.2.1
abbrev wm (W : Wo) : Nat := W.2.2.2
def okC (c : Nat → Nat → Nat) (n : Nat) : Prop := ∀ k, k < n → c 0 k ≤ 9 ∧ c 1 k ≤ 9 ∧ c 2 k ≤ 9 ∧ c 3 k ≤ 2
def okE (v : Nat → Nat → Nat) (m : Nat) : Prop := ∀ e, e < m → v 0 e ≤ 2 ∧ v 1 e < 20 ∧ v 2 e < 8 ∧ v 3 e ≤ 9
def okW (W : Wo) : Prop := wn W ≤ 8 ∧ wm W ≤ 8 ∧ okC (wc W) (wn W) ∧ okE (we W) (wm W)
/-- the events of a day d for couple k, of those below n -/
def evs (v : Nat → Nat → Nat) (msk : Nat → Bool) (d k : Nat) : Nat → Rg → Rg
  | 0, r => r
  | e + 1, r => if v 1 e = d ∧ v 2 e = k ∧ msk e = true then und (evs v msk d k e r) (v 0 e) (v 3 e) else evs v msk d k e r
def ini (c : Nat → Nat → Nat) (k : Nat) : Rg := (nI (c 0 k), nI (c 1 k), c 2 k, c 3 k, 0, 0, 0, false)
/-- a ring ahead of day d -/
def pre (W : Wo) (msk : Nat → Bool) (k : Nat) : Nat → Rg
  | 0 => ini (wc W) k
  | d + 1 => goes (evs (we W) msk d k (wm W) (pre W msk k d)) d
/-- behind day d -/
abbrev rr (W : Wo) (msk : Nat → Bool) (k d : Nat) : Rg := pre W msk k (d + 1)
theorem und_ok {r : Rg} {kd nu : Nat} (h : okR r) (hn : nu ≤ 9) : okR (und r kd nu) := by
  obtain ⟨h1, h2, h3, h4⟩ := h
  unfold und
  split
  · exact ⟨hn, h2, h3, Nat.zero_le _⟩
  · split
    · exact ⟨h1, h2, Nat.mod_lt _ (by decide), Nat.zero_le _⟩
    · exact ⟨h1, h2, h3, h4⟩
theorem trn_ok {r : Rg} {q : Nat} (h : okR r) : okR (trn r q) := by
  obtain ⟨h1, h2, h3, h4⟩ := h
  unfold trn
  split
  · exact ⟨h1, h2, h3, h4⟩
  · exact ⟨h1, h2, Nat.mod_lt _ (by decide), Nat.min_le_right _ _⟩
theorem evs_ok {v : Nat → Nat → Nat} {msk : Nat → Bool} {d k : Nat} : ∀ {n : Nat} {r : Rg}, okE v n → okR r → okR (evs v msk d k n r)
  | 0, _, _, h => h
  | n + 1, r, hv, h => by
    have ih := evs_ok (v := v) (msk := msk) (d := d) (k := k) (n := n) (r := r) (fun e he => hv e (by omega)) h
    unfold evs
    split
    · exact und_ok ih (hv n (by omega)).2.2.2
    · exact ih
theorem pre_ok {W : Wo} {msk : Nat → Bool} {k : Nat} (hW : okW W) (hk : k < wn W) : ∀ d, okR (pre W msk k d)
  | 0 => by
    obtain ⟨a, b, c, d⟩ := hW.2.2.1 k hk
    exact ⟨c, d, Nat.zero_lt_succ 3, Nat.zero_le _⟩
  | d + 1 => trn_ok (evs_ok hW.2.2.2 (pre_ok hW hk d))
theorem und_s (r : Rg) (kd nu : Nat) : gs (und r kd nu) = gs r := by
  unfold und
  split
  · rfl
  · split <;> rfl
theorem trn_s (r : Rg) (q : Nat) : gs (trn r q) = gs r := by
  unfold trn
  split <;> rfl
theorem evs_s {v : Nat → Nat → Nat} {msk : Nat → Bool} {d k : Nat} : ∀ (n : Nat) (r : Rg), gs (evs v msk d k n r) = gs r
  | 0, _ => rfl
  | n + 1, r => by
    unfold evs
    split
    · rw [und_s]; exact evs_s n r
    · exact evs_s n r
theorem pre_s {W : Wo} {msk : Nat → Bool} {k : Nat} : ∀ d, gs (pre W msk k d) = wc W 3 k
  | 0 => rfl
  | d + 1 => by
    show gs (goes _ _) = _
    unfold goes
    rw [trn_s, evs_s]
    exact pre_s d
/-- what two rings are -/
def areS (a b : Rg) : Nat :=
  let far := (gx a - gx b) * (gx a - gx b) + (gy a - gy b) * (gy a - gy b)
  let both := nI (gw a) + nI (gw b)
  let less := nI (gw a) - nI (gw b)
  if far = 0 ∧ gw a = gw b then 5 else if both * both < far then 0 else if far = both * both then 1 else if far < less * less then 4 else if far = less * less then 3 else 2
/-- counts and bits -/
def ct (P : Nat → Bool) : Nat → Nat
  | 0 => 0
  | n + 1 => ct P n + (if P n = true then 1 else 0)
def sm (f : Nat → Nat) : Nat → Nat
  | 0 => 0
  | n + 1 => sm f n + f n
def bs (P : Nat → Bool) : Nat → Int32
  | 0 => 0
  | n + 1 => bs P n ||| (if P n = true then (1 : Int32) <<< (nI n &&& 31) else 0)
theorem ct_le (P : Nat → Bool) : ∀ n, ct P n ≤ n
  | 0 => Nat.le_refl 0
  | n + 1 => by
    have := ct_le P n
    unfold ct
    split <;> omega
theorem ct_none {P : Nat → Bool} : ∀ {n : Nat}, (∀ i, i < n → P i = false) → ct P n = 0
  | 0, _ => rfl
  | n + 1, h => by
    unfold ct
    rw [ct_none (fun i hi => h i (by omega)), h n (by omega)]
    rfl
theorem ct_congr {P Q : Nat → Bool} : ∀ {n : Nat}, (∀ i, i < n → P i = Q i) → ct P n = ct Q n
  | 0, _ => rfl
  | n + 1, h => by
    unfold ct
    rw [ct_congr (fun i hi => h i (by omega)), h n (by omega)]
theorem sm_le {f : Nat → Nat} {b : Nat} : ∀ {n : Nat}, (∀ i, i < n → f i ≤ b) → sm f n ≤ n * b
  | 0, _ => by simp [sm]
  | n + 1, h => by
    have h1 := sm_le (fun i hi => h i (by omega)) (n := n) (b := b)
    have h2 := h n (by omega)
    unfold sm
    rw [Nat.succ_mul]
    omega
/-- both closed, and so to each other: what 0: they cross; 1: they touch -/
def isP (what : Nat) (a b : Rg) : Bool := decide (ga a = 4) && (decide (ga b = 4) && (if what = 0 then decide (areS a b = 2) else (decide (areS a b = 1) || decide (areS a b = 3))))
def prS (n : Nat) (R : Nat → Rg) (what : Nat) : Nat := sm (fun a => ct (fun b => decide (a < b) && isP what (R a) (R b)) n) n
def clS (n : Nat) (R : Nat → Rg) : Int32 := bs (fun k => decide (ga (R k) = 4)) n
theorem prS_le {n : Nat} (hn : n ≤ 8) (R : Nat → Rg) (what : Nat) : prS n R what ≤ 64 := by
  have h := sm_le (f := fun a => ct (fun b => decide (a < b) && isP what (R a) (R b)) n) (b := n) (n := n) (fun i _ => ct_le _ n)
  have : n * n ≤ 8 * 8 := Nat.mul_le_mul hn hn
  unfold prS
  omega
/-! frames: nothing but S has changed -/
def Fr (S : Nat → Nat → Prop) (σ σ' : Hp) : Prop := ∀ c i, ¬ S c i → σ' c i = σ c i
theorem Fr.rf {S : Nat → Nat → Prop} {σ : Hp} : Fr S σ σ := fun _ _ _ => rfl
theorem Fr.tr {S : Nat → Nat → Prop} {σ σ1 σ2 : Hp} (h : Fr S σ σ1) (h2 : Fr S σ1 σ2) : Fr S σ σ2 := fun c i q => (h2 c i q).trans (h c i q)
theorem Fr.mono {S S' : Nat → Nat → Prop} {σ σ' : Hp} (h : Fr S σ σ') (hs : ∀ c i, S c i → S' c i) : Fr S' σ σ' := fun c i q => h c i (fun z => q (hs c i z))
theorem Fr.up {S : Nat → Nat → Prop} {σ σ' : Hp} {c i : Nat} {v : Int32} (h : Fr S σ σ') (hs : S c i) : Fr S σ (up σ' c i v) := by
  intro c' i' q
  have hne : ¬ (c' = c ∧ i' = i) := fun z => q (by rw [z.1, z.2]; exact hs)
  show (if c' = c ∧ i' = i then v else σ' c' i') = _
  rw [if_neg hne]
  exact h c' i' q
/-! the text -/
/-- the longest good beginning -/
def lp (P : Nat → Bool) : Nat → Nat
  | 0 => 0
  | n + 1 => if lp P n < n then lp P n else if P n = true then n + 1 else n
theorem lp_eq {P : Nat → Bool} : ∀ {n i : Nat}, i ≤ n → (∀ j, j < i → P j = true) → (i = n ∨ P i = false) → lp P n = i
  | 0, i, h, _, _ => by unfold lp; omega
  | n + 1, i, h, h1, h2 => by
    unfold lp
    rcases Nat.lt_or_ge i (n + 1) with q | q
    · have h2' : P i = false := by
        rcases h2 with z | z
        · omega
        · exact z
      have ih := lp_eq (n := n) (i := i) (by omega) h1 (Or.inr h2')
      rw [ih]
      rcases Nat.lt_or_ge i n with z | z
      · rw [if_pos z]
      · have : i = n := by omega
        subst this
        rw [if_neg (by omega), if_neg (by rw [h2']; decide)]
    · have : i = n + 1 := by omega
      subst this
      have ih := lp_eq (n := n) (i := n) (Nat.le_refl _) (fun j hj => h1 j (by omega)) (Or.inl rfl)
      rw [ih, if_neg (by omega), if_pos (h1 n (by omega))]
def okB (t : Nat → Nat) (i : Nat) : Bool := if i % 5 = 4 then decide (t i = 59) else if i % 5 = 3 then decide (t i = 115 ∨ t i = 108 ∨ t i = 98) else decide (48 ≤ t i ∧ t i ≤ 57)
def fltS (t : Nat → Nat) (nb : Nat) : Int32 := if lp (okB t) nb < nb then nI (lp (okB t) nb) else if nb = 0 ∨ nb % 5 = 4 then -1 else nI nb
def ncS (t : Nat → Nat) (nb : Nat) : Nat := if lp (okB t) nb < nb then 0 else if nb = 0 ∨ nb % 5 = 4 then (nb + 1) / 5 else 0
def cdS (t : Nat → Nat) (f k : Nat) : Nat := if f = 3 then (if t (5 * k + 3) = 115 then 0 else if t (5 * k + 3) = 108 then 1 else 2) else t (5 * k + f) - 48
theorem okB_dig {t : Nat → Nat} {n j : Nat} (hj : j < 3) : okB t (5 * n + j) = true ↔ 48 ≤ t (5 * n + j) ∧ t (5 * n + j) ≤ 57 := by
  have h : (5 * n + j) % 5 = j := by omega
  unfold okB
  rw [h, if_neg (by omega), if_neg (by omega)]
  exact decide_eq_true_iff
theorem okB_srt {t : Nat → Nat} {n : Nat} : okB t (5 * n + 3) = true ↔ t (5 * n + 3) = 115 ∨ t (5 * n + 3) = 108 ∨ t (5 * n + 3) = 98 := by
  have h : (5 * n + 3) % 5 = 3 := by omega
  unfold okB
  rw [h, if_neg (by omega), if_pos rfl]
  exact decide_eq_true_iff
theorem okB_sem {t : Nat → Nat} {n : Nat} : okB t (5 * n + 4) = true ↔ t (5 * n + 4) = 59 := by
  have h : (5 * n + 4) % 5 = 4 := by omega
  unfold okB
  rw [h, if_pos rfl]
  exact decide_eq_true_iff
theorem cd_ok {t : Nat → Nat} {nb : Nat} (hnb : nb ≤ 39) : ncS t nb ≤ 8 ∧ okC (cdS t) (ncS t nb) := by
  unfold ncS
  split
  · exact ⟨by decide, fun k hk => by omega⟩
  · rename_i hl
    split
    · rename_i h2
      refine ⟨by omega, fun k hk => ?_⟩
      have hall : ∀ j, j < nb → okB t j = true := by
        intro j hj
        have : ∀ n, ¬ lp (okB t) n < n → ∀ j, j < n → okB t j = true := by
          intro n
          induction n with
          | zero => intro _ j hj; omega
          | succ n ih =>
            intro h j hj
            unfold lp at h
            by_cases q : lp (okB t) n < n
            · rw [if_pos q] at h; omega
            · rw [if_neg q] at h
              by_cases z : okB t n = true
              · rcases Nat.lt_or_ge j n with y | y
                · exact ih q j y
                · have : j = n := by omega
                  subst this; exact z
              · rw [if_neg z] at h; omega
        exact this nb hl j hj
      have h0 := (okB_dig (t := t) (n := k) (j := 0) (by decide)).mp (hall _ (by omega))
      have h1 := (okB_dig (t := t) (n := k) (j := 1) (by decide)).mp (hall _ (by omega))
      have h3 := (okB_dig (t := t) (n := k) (j := 2) (by decide)).mp (hall _ (by omega))
      refine ⟨?_, ?_, ?_, ?_⟩
      · show t (5 * k + 0) - 48 ≤ 9; omega
      · show t (5 * k + 1) - 48 ≤ 9; omega
      · show t (5 * k + 2) - 48 ≤ 9; omega
      · unfold cdS
        rw [if_pos rfl]
        split
        · omega
        · split <;> omega
    · exact ⟨by decide, fun k hk => by omega⟩
