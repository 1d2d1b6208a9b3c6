/-! THE CLASS: digest -/
section XD
variable {E : Ev} {σ : Hp} {A : AS}
theorem x7_mix {h x : Int64} : Call E mX7_mix [.long h, .long x] σ (some (.long (31 * h + x))) σ := K_X7_mix (tX7_mix_0 ⟨rfl, rfl⟩)
theorem x7_mx {h : Int64} {x : Int32} : Call E mX7_mix [.long h, .long (Int32.toInt64 x)] σ (some (.long (mx1 h x))) σ := x7_mix
theorem ltw {w n : Nat} (hw : w < 2147483648) (hn : n < 2147483648) : nI n < nI w ↔ n < w := nI_lt' hn hw
theorem x7_mixOneDay (hx : StX A σ) (ho : okA A) (h : Int64) (d k : Nat) : AnsL E mX7_mixOneDay [.ref 0, .long h, .int (nI d), .int (nI k)] σ (dgDay A h d k) := by
  refine C_X7_mixOneDay (tX7_mixOneDay_0 ?_)
  have second : ∀ w (τ : Hp), w ≤ 4 → Fr sqX σ τ → Ru E mX7_mixOneDay 38 [(0, .ref 0), (1, .long h), (3, .int (nI d)), (4, .int (nI k)), (5, .long (fo (fun w h => mx1 h (plA (aW A) (nI d) (nI k) (nI w))) (fo (fun w h => mx1 h (atA (aW A) (nI d) (nI k) (nI w))) h 5) w)), (7, .int (nI w))] [] τ (PL (fun v σ' => v = dgDay A h d k ∧ Fr sqX σ σ')) := by
    refine for_up 4 _ _ ?_ ?_
    · intro w τ hw hF ih
      obtain ⟨v1, s1, hc1, rfl, hF1⟩ := x7_place (E := E) (hx.q hF) ho (nI d) (nI k) (nI w)
      have ih := ih s1 (hF.tr hF1)
      refine tX7_mixOneDay_38 ⟨fun z => ?_, fun _ => ⟨_, _, hc1, _, _, x7_mx, ?_⟩⟩
      · rw [show (3 : Int32) = nI 3 from rfl, ltw (by omega) (by decide)] at z; omega
      · rw [nI_1]
        exact ih
    · intro τ hF
      exact tX7_mixOneDay_38 ⟨fun _ => ⟨_, rfl, rfl, hF⟩, fun z => absurd (by decide) z⟩
  have first : ∀ w (τ : Hp), w ≤ 5 → Fr sqX σ τ → Ru E mX7_mixOneDay 6 [(0, .ref 0), (1, .long h), (3, .int (nI d)), (4, .int (nI k)), (5, .long (fo (fun w h => mx1 h (atA (aW A) (nI d) (nI k) (nI w))) h w)), (7, .int (nI w))] [] τ (PL (fun v σ' => v = dgDay A h d k ∧ Fr sqX σ σ')) := by
    refine for_up 5 _ _ ?_ ?_
    · intro w τ hw hF ih
      obtain ⟨v1, s1, hc1, rfl, hF1⟩ := x7_at (E := E) (hx.q hF) ho (nI d) (nI k) (nI w)
      have ih := ih s1 (hF.tr hF1)
      refine tX7_mixOneDay_6 ⟨fun z => ?_, fun _ => ⟨_, _, hc1, _, _, x7_mx, ?_⟩⟩
      · rw [show (4 : Int32) = nI 4 from rfl, ltw (by omega) (by decide)] at z; omega
      · rw [nI_1]
        exact ih
    · intro τ hF
      have t := second 0 τ (Nat.zero_le _) hF
      rw [fo_0] at t
      exact tX7_mixOneDay_6 ⟨fun _ => t, fun z => absurd (by decide) z⟩
  exact first 0 σ (Nat.zero_le _) Fr.rf
theorem x7_mixCouple (hx : StX A σ) (ho : okA A) (h : Int64) (k : Nat) : AnsL E mX7_mixCouple [.ref 0, .long h, .int (nI k)] σ (dgC A h k) := by
  refine C_X7_mixCouple (tX7_mixCouple_0 ?_)
  have third : ∀ w (τ : Hp), w ≤ 3 → Fr sqX σ τ → Ru E mX7_mixCouple 124 [(0, .ref 0), (1, .long h), (3, .int (nI k)), (4, .long (fo (fun w h => mx1 h (sdA (aW A) (nI k) 12 (nI w))) (dgC3 A h k) w)), (6, .int (nI w))] [] τ (PL (fun v σ' => v = dgC A h k ∧ Fr sqX σ σ')) := by
    refine for_up 3 _ _ ?_ ?_
    · intro w τ hw hF ih
      obtain ⟨v1, s1, hc1, rfl, hF1⟩ := x7_stand (E := E) (hx.q hF) ho (nI k) 12 (nI w)
      have ih := ih s1 (hF.tr hF1)
      refine tX7_mixCouple_124 ⟨fun z => ?_, fun _ => ⟨_, _, hc1, _, _, x7_mx, ?_⟩⟩
      · rw [show (2 : Int32) = nI 2 from rfl, ltw (by omega) (by decide)] at z; omega
      · rw [nI_1]
        exact ih
    · intro τ hF
      obtain ⟨v1, s1, hc1, rfl, hF1⟩ := x7_was (E := E) (hx.q hF) ho (nI k) 0
      have hF1 := hF.tr hF1
      obtain ⟨v2, s2, hc2, rfl, hF2⟩ := x7_was (E := E) (hx.q hF1) ho (nI k) 1
      have hF2 := hF1.tr hF2
      obtain ⟨v3, s3, hc3, rfl, hF3⟩ := x7_ask (E := E) (hx.q hF2) ho (nI k)
      have hF3 := hF2.tr hF3
      exact tX7_mixCouple_124 ⟨fun _ => ⟨_, _, hc1, _, _, x7_mx, _, _, hc2, _, _, x7_mx, _, _, hc3, _, _, x7_mx, _, rfl, rfl, hF3⟩, fun z => absurd (by decide) z⟩
  have first : ∀ w (τ : Hp), w ≤ 4 → Fr sqX σ τ → Ru E mX7_mixCouple 6 [(0, .ref 0), (1, .long h), (3, .int (nI k)), (4, .long (fo (fun w h => mx1 h (coA A (nI k) (nI w))) h w)), (6, .int (nI w))] [] τ (PL (fun v σ' => v = dgC A h k ∧ Fr sqX σ σ')) := by
    refine for_up 4 _ _ ?_ ?_
    · intro w τ hw hF ih
      obtain ⟨v1, s1, hc1, rfl, hF1⟩ := x7_couple (E := E) (hx.q hF) ho (nI k) (nI w)
      have ih := ih s1 (hF.tr hF1)
      refine tX7_mixCouple_6 ⟨fun z => ?_, fun _ => ⟨_, _, hc1, _, _, x7_mx, ?_⟩⟩
      · rw [show (3 : Int32) = nI 3 from rfl, ltw (by omega) (by decide)] at z; omega
      · rw [nI_1]
        exact ih
    · intro τ hF
      have e1 : fo (fun w h => mx1 h (coA A (nI k) (nI w))) h 4 = dgC1 A h k := rfl
      rw [e1]
      obtain ⟨v1, s1, hc1, h1, hF1⟩ := x7_mixOneDay (E := E) (hx.q hF) ho (dgC1 A h k) 0 k
      have hF1 := hF.tr hF1
      obtain ⟨v2, s2, hc2, h2, hF2⟩ := x7_mixOneDay (E := E) (hx.q hF1) ho v1 6 k
      have hF2 := hF1.tr hF2
      obtain ⟨v3, s3, hc3, h3, hF3⟩ := x7_mixOneDay (E := E) (hx.q hF2) ho v2 12 k
      have hF3 := hF2.tr hF3
      obtain ⟨v4, s4, hc4, h4, hF4⟩ := x7_mixOneDay (E := E) (hx.q hF3) ho v3 19 k
      have hF4 := hF3.tr hF4
      obtain ⟨v5, s5, hc5, h5, hF5⟩ := x7_ringed (E := E) (hx.q hF4) ho (nI k)
      have hF5 := hF4.tr hF5
      obtain ⟨v6, s6, hc6, h6, hF6⟩ := x7_open (E := E) (hx.q hF5) ho (nI k) 12 0
      have hF6 := hF5.tr hF6
      obtain ⟨v7, s7, hc7, h7, hF7⟩ := x7_open (E := E) (hx.q hF6) ho (nI k) 12 1
      have hF7 := hF6.tr hF7
      refine tX7_mixCouple_6 ⟨fun _ => ⟨_, _, hc1, _, _, hc2, _, _, hc3, _, _, hc4, _, _, hc5, _, _, x7_mx, _, _, hc6, _, _, x7_mx, _, _, hc7, _, _, x7_mx, ?_⟩, fun z => absurd (by decide) z⟩
      have e4 : v4 = dgC2 A h k := by rw [h4, h3, h2, h1]; rfl
      have t := third 0 s7 (Nat.zero_le _) hF7
      rw [fo_0] at t
      rw [e4, h5, h6, h7]
      exact t
  exact first 0 σ (Nat.zero_le _) Fr.rf
theorem x7_mixPairs (hx : StX A σ) (ho : okA A) : AnsL E mX7_mixPairs [.ref 0, .long (dg3 A)] σ (dg4 A) := by
  have hn : wn (aW A) ≤ 8 := (okA_W ho).1
  have hnn : wn (aW A) < 2147483648 := by omega
  have hsz : ∀ τ : Hp, Fr sqX σ τ → τ 2 4 = nI (wn (aW A)) := fun τ hF => (hx.q hF).cp.1
  refine C_X7_mixPairs (tX7_mixPairs_0 ?_)
  have l4 : ∀ a (τ : Hp), a ≤ wn (aW A) → Fr sqX σ τ → Ru E mX7_mixPairs 5 [(0, .ref 0), (1, .long (dg3 A)), (3, .long (fo (fun a h => fo (dgP A a) h (wn (aW A))) (dg3 A) a)), (5, .int (nI a))] [] τ (PL (fun v σ' => v = dg4 A ∧ Fr sqX σ σ')) := by
    refine for_up (wn (aW A)) _ _ ?_ ?_
    · intro a τ ha hF iha
      have inner : ∀ b (τ : Hp), b ≤ wn (aW A) → (a < b ∧ Fr sqX σ τ) → Ru E mX7_mixPairs 23 [(0, .ref 0), (1, .long (dg3 A)), (3, .long (fo (dgP A a) (fo (fun a h => fo (dgP A a) h (wn (aW A))) (dg3 A) a) b)), (5, .int (nI a)), (6, .int (nI b))] [] τ (PL (fun v σ' => v = dg4 A ∧ Fr sqX σ σ')) := by
        refine for_up (wn (aW A)) _ _ ?_ ?_
        · intro b τ hb ⟨hab, hF⟩ ih
          obtain ⟨v1, s1, hc1, h1, hF1⟩ := x7_are (E := E) (hx.q hF) ho 9 (nI a) (nI b)
          have hF1 := hF.tr hF1
          obtain ⟨v2, s2, hc2, h2, hF2⟩ := x7_are (E := E) (hx.q hF1) ho 19 (nI a) (nI b)
          have ih := ih s2 ⟨by omega, hF1.tr hF2⟩
          refine tX7_mixPairs_23 ⟨fun z => ?_, fun _ => ⟨_, _, hc1, _, _, x7_mx, _, _, hc2, _, _, x7_mx, ?_⟩⟩
          · rw [hsz τ hF, nI_le' hnn (by omega)] at z; omega
          · have e : fo (dgP A a) (fo (fun a h => fo (dgP A a) h (wn (aW A))) (dg3 A) a) (b + 1) = mx1 (mx1 (fo (dgP A a) (fo (fun a h => fo (dgP A a) h (wn (aW A))) (dg3 A) a) b) v1) v2 := by
              show dgP A a b _ = _
              unfold dgP
              rw [if_pos hab, h1, h2]
            rw [nI_1, ← e]
            exact ih
        · intro τ ⟨hab, hF⟩
          refine tX7_mixPairs_23 ⟨fun _ => ?_, fun z => absurd (by rw [hsz τ hF]; exact Int32.le_refl _) z⟩
          rw [nI_1]
          exact iha τ hF
      refine tX7_mixPairs_5 ⟨fun z => ?_, fun _ => ?_⟩
      · rw [hsz τ hF, nI_le' hnn (by omega)] at z; omega
      · have := inner (a + 1) τ ha ⟨by omega, hF⟩
        rw [fo_skip (a + 1) (Nat.le_refl _)] at this
        rw [nI_1]
        exact this
    · intro τ hF
      exact tX7_mixPairs_5 ⟨fun _ => ⟨_, rfl, rfl, hF⟩, fun z => absurd (by rw [hsz τ hF]; exact Int32.le_refl _) z⟩
  exact l4 0 σ (Nat.zero_le _) Fr.rf
theorem x7_mixDays (hx : StX A σ) (ho : okA A) : AnsL E mX7_mixDays [.ref 0, .long (dg4 A)] σ (dg5 A) := by
  refine C_X7_mixDays (tX7_mixDays_0 ?_)
  have l5 : ∀ d (τ : Hp), d ≤ 20 → Fr sqX σ τ → Ru E mX7_mixDays 5 [(0, .ref 0), (1, .long (dg4 A)), (3, .long (fo (fun d h => mx1 (mx1 (mx1 h (prA (aW A) (nI d) 0)) (prA (aW A) (nI d) 1)) (clA (aW A) (nI d))) (dg4 A) d)), (5, .int (nI d))] [] τ (PL (fun v σ' => v = dg5 A ∧ Fr sqX σ σ')) := by
    refine for_up 20 _ _ ?_ ?_
    · intro d τ hd hF ih
      obtain ⟨v1, s1, hc1, rfl, hF1⟩ := x7_pairs (E := E) (hx.q hF) ho (nI d) 0
      have hF1 := hF.tr hF1
      obtain ⟨v2, s2, hc2, rfl, hF2⟩ := x7_pairs (E := E) (hx.q hF1) ho (nI d) 1
      have hF2 := hF1.tr hF2
      obtain ⟨v3, s3, hc3, rfl, hF3⟩ := x7_closed (E := E) (hx.q hF2) ho (nI d)
      have ih := ih s3 (hF2.tr hF3)
      refine tX7_mixDays_5 ⟨fun z => ?_, fun _ => ⟨_, _, hc1, _, _, x7_mx, _, _, hc2, _, _, x7_mx, _, _, hc3, _, _, x7_mx, ?_⟩⟩
      · rw [show (20 : Int32) = nI 20 from rfl, nI_le' (by decide) (by omega)] at z; omega
      · rw [nI_1]
        exact ih
    · intro τ hF
      have e5 : fo (fun d h => mx1 (mx1 (mx1 h (prA (aW A) (nI d) 0)) (prA (aW A) (nI d) 1)) (clA (aW A) (nI d))) (dg4 A) 20 = dg5 A := rfl
      rw [e5]
      exact tX7_mixDays_5 ⟨fun _ => ⟨_, rfl, rfl, hF⟩, fun z => absurd (by decide) z⟩
  exact l5 0 σ (Nat.zero_le _) Fr.rf
theorem x7_digest (hx : StX A σ) (ho : okA A) : AnsL E mX7_digest [.ref 0] σ (dgA A) := by
  have hn : wn (aW A) ≤ 8 := (okA_W ho).1
  have hnn : wn (aW A) < 2147483648 := by omega
  have hsz : ∀ τ : Hp, Fr sqX σ τ → τ 2 4 = nI (wn (aW A)) := fun τ hF => (hx.q hF).cp.1
  refine C_X7_digest (tX7_digest_0 ?_)
  generalize hΨ : (fun (v : Int64) (σ' : Hp) => v = dgA A ∧ Fr sqX σ σ') = Ψ
  have l8 : ∀ w (τ : Hp), w ≤ 3 → Fr sqX σ τ → Ru E mX7_digest 111 [(0, .ref 0), (1, .long (fo (fun w h => mx1 h (swA (aW A) (nI w))) (dg7 A) w)), (3, .int (nI w))] [] τ (PL Ψ) := by
    refine for_up 3 _ _ ?_ ?_
    · intro w τ hw hF ih
      obtain ⟨v1, s1, hc1, rfl, hF1⟩ := x7_swap (E := E) (hx.q hF) ho (nI w)
      have ih := ih s1 (hF.tr hF1)
      refine tX7_digest_111 ⟨fun z => ?_, fun _ => ⟨_, _, hc1, _, _, x7_mx, ?_⟩⟩
      · rw [show (2 : Int32) = nI 2 from rfl, ltw (by omega) (by decide)] at z; omega
      · rw [nI_1]
        exact ih
    · intro τ hF
      obtain ⟨v1, s1, hc1, rfl, hF1⟩ := x7_drop (E := E) (hx.q hF) ho (-1)
      have hF1 := hF.tr hF1
      obtain ⟨v2, s2, hc2, rfl, hF2⟩ := x7_drop (E := E) (hx.q hF1) ho 0
      have hF2 := hF1.tr hF2
      obtain ⟨v3, s3, hc3, rfl, hF3⟩ := x7_never (E := E) (hx.q hF2) ho
      have hF3 := hF2.tr hF3
      obtain ⟨v4, s4, hc4, rfl, hF4⟩ := x7_gossip (E := E) (hx.q hF3) ho 5 14 0
      have hF4 := hF3.tr hF4
      obtain ⟨v5, s5, hc5, rfl, hF5⟩ := x7_gossip (E := E) (hx.q hF4) ho 5 14 1
      have hF5 := hF4.tr hF5
      obtain ⟨v6, s6, hc6, rfl, hF6⟩ := x7_ages (E := E) (hx.q hF5) ho 7 6 0
      have hF6 := hF5.tr hF6
      obtain ⟨v7, s7, hc7, rfl, hF7⟩ := x7_ages (E := E) (hx.q hF6) ho 7 6 1
      have hF7 := hF6.tr hF7
      subst hΨ
      exact tX7_digest_111 ⟨fun _ => ⟨_, _, hc1, _, _, x7_mx, _, _, hc2, _, _, x7_mx, _, _, hc3, _, _, x7_mx, _, _, hc4, _, _, x7_mix, _, _, hc5, _, _, x7_mix, _, _, hc6, _, _, x7_mx, _, _, hc7, _, _, x7_mx, _, rfl, rfl, hF7⟩, fun z => absurd (by decide) z⟩
  have l7 : ∀ w (τ : Hp), w ≤ 3 → Fr sqX σ τ → Ru E mX7_digest 87 [(0, .ref 0), (1, .long (fo (fun w h => mx1 h (meAns (aW A) (nI w))) (dg6 A) w)), (3, .int (nI w))] [] τ (PL Ψ) := by
    refine for_up 3 _ _ ?_ ?_
    · intro w τ hw hF ih
      obtain ⟨v1, s1, hc1, rfl, hF1⟩ := x7_meets (E := E) (hx.q hF) ho (nI w)
      have ih := ih s1 (hF.tr hF1)
      refine tX7_digest_87 ⟨fun z => ?_, fun _ => ⟨_, _, hc1, _, _, x7_mx, ?_⟩⟩
      · rw [show (2 : Int32) = nI 2 from rfl, ltw (by omega) (by decide)] at z; omega
      · rw [nI_1]
        exact ih
    · intro τ hF
      have t := l8 0 τ (Nat.zero_le _) hF
      rw [fo_0] at t
      exact tX7_digest_87 ⟨fun _ => t, fun z => absurd (by decide) z⟩
  have l3 : ∀ k (τ : Hp), k ≤ wn (aW A) → Fr sqX σ τ → Ru E mX7_digest 41 [(0, .ref 0), (1, .long (fo (fun k h => dgC A h k) (dg1 A) k)), (3, .int (nI k))] [] τ (PL Ψ) := by
    refine for_up (wn (aW A)) _ _ ?_ ?_
    · intro k τ hk hF ih
      obtain ⟨v1, s1, hc1, h1, hF1⟩ := x7_mixCouple (E := E) (hx.q hF) ho (fo (fun k h => dgC A h k) (dg1 A) k) k
      have ih := ih s1 (hF.tr hF1)
      refine tX7_digest_41 ⟨fun z => ?_, fun _ => ⟨_, _, hc1, ?_⟩⟩
      · rw [hsz τ hF, nI_le' hnn (by omega)] at z; omega
      · rw [nI_1, h1]
        exact ih
    · intro τ hF
      have e3 : fo (fun k h => dgC A h k) (dg1 A) (wn (aW A)) = dg3 A := rfl
      rw [e3]
      obtain ⟨v1, s1, hc1, rfl, hF1⟩ := x7_mixPairs (E := E) (hx.q hF) ho
      have hF1 := hF.tr hF1
      obtain ⟨v2, s2, hc2, rfl, hF2⟩ := x7_mixDays (E := E) (hx.q hF1) ho
      have hF2 := hF1.tr hF2
      obtain ⟨v0, s0, hc0, h0, hF0⟩ := x7_holes (E := E) (hx.q hF2) ho
      have t := l7 0 s0 (Nat.zero_le _) (hF2.tr hF0)
      rw [fo_0] at t
      refine tX7_digest_41 ⟨fun _ => ⟨_, _, hc1, _, _, hc2, _, _, hc0, _, _, x7_mx, ?_⟩, fun z => absurd (by rw [hsz τ hF]; exact Int32.le_refl _) z⟩
      have e6 : mx1 (dg5 A) (nI (hoS (wn (aW A)) (rr (aW A) allE))) = dg6 A := rfl
      rw [h0, e6]
      exact t
  have l1 : ∀ w (τ : Hp), w ≤ 8 → Fr sqX σ τ → Ru E mX7_digest 6 [(0, .ref 0), (1, .long (fo (fun w h => mx1 h (cnA A (nI w))) 17 w)), (3, .int (nI w))] [] τ (PL Ψ) := by
    refine for_up 8 _ _ ?_ ?_
    · intro w τ hw hF ih
      obtain ⟨v1, s1, hc1, h1, hF1⟩ := x7_count (E := E) (hx.q hF) ho (nI w)
      have ih := ih s1 (hF.tr hF1)
      refine tX7_digest_6 ⟨fun z => ?_, fun _ => ⟨_, _, hc1, _, _, x7_mx, ?_⟩⟩
      · rw [show (7 : Int32) = nI 7 from rfl, ltw (by omega) (by decide)] at z; omega
      · rw [nI_1, h1]
        exact ih
    · intro τ hF
      obtain ⟨v1, s1, hc1, h1, hF1⟩ := x7_fault (E := E) (hx.q hF)
      have t := l3 0 s1 (Nat.zero_le _) (hF.tr hF1)
      rw [fo_0] at t
      refine tX7_digest_6 ⟨fun _ => ⟨_, _, hc1, _, _, x7_mx, ?_⟩, fun z => absurd (by decide) z⟩
      rw [h1]
      exact t
  exact l1 0 σ (Nat.zero_le _) Fr.rf
def ActXL (E : Ev) (M : MI) (as : List Value) (σ : Hp) (a : Int64) (A : AS) : Prop := ∃ (v : Int64) (σ' : Hp), Call E M as σ (some (.long v)) σ' ∧ (v = a ∧ StX A σ' ∧ Fr sX σ σ')
theorem AnsL.act {M : MI} {as : List Value} {a : Int64} (h : AnsL E M as σ a) (hA : StX A σ) : ActXL E M as σ a A := by
  obtain ⟨v, s, hc, hv, hF⟩ := h
  exact ⟨v, s, hc, hv, hA.q hF, hF.mono (fun c i z => sqX_X z)⟩
end XD
