/-! THE DIGEST: what it is; the reference's -/
def mx1 (h : Int64) (a : Int32) : Int64 := 31 * h + a.toInt64
def fo (f : Nat → Int64 → Int64) (h : Int64) : Nat → Int64
  | 0 => h
  | n + 1 => f n (fo f h n)
def dgDay (A : AS) (h : Int64) (d k : Nat) : Int64 := fo (fun w h => mx1 h (plA (aW A) (nI d) (nI k) (nI w))) (fo (fun w h => mx1 h (atA (aW A) (nI d) (nI k) (nI w))) h 5) 4
def dgC1 (A : AS) (h : Int64) (k : Nat) : Int64 := fo (fun w h => mx1 h (coA A (nI k) (nI w))) h 4
def dgC2 (A : AS) (h : Int64) (k : Nat) : Int64 := dgDay A (dgDay A (dgDay A (dgDay A (dgC1 A h k) 0 k) 6 k) 12 k) 19 k
def dgC3 (A : AS) (h : Int64) (k : Nat) : Int64 := mx1 (mx1 (mx1 (dgC2 A h k) (rgA (aW A) (nI k))) (opA (aW A) (nI k) 12 0)) (opA (aW A) (nI k) 12 1)
def dgC4 (A : AS) (h : Int64) (k : Nat) : Int64 := fo (fun w h => mx1 h (sdA (aW A) (nI k) 12 (nI w))) (dgC3 A h k) 3
def dgC (A : AS) (h : Int64) (k : Nat) : Int64 := mx1 (mx1 (mx1 (dgC4 A h k) (waA (aW A) (aS A) (nI k) 0)) (waA (aW A) (aS A) (nI k) 1)) (aqA (aW A) (aS A) (nI k))
def dg1 (A : AS) : Int64 := mx1 (fo (fun w h => mx1 h (cnA A (nI w))) 17 8) (fltS (at' A) (an A))
def dg3 (A : AS) : Int64 := fo (fun k h => dgC A h k) (dg1 A) (wn (aW A))
def dgP (A : AS) (a b : Nat) (h : Int64) : Int64 := if a < b then mx1 (mx1 h (arA (aW A) 9 (nI a) (nI b))) (arA (aW A) 19 (nI a) (nI b)) else h
def dg4 (A : AS) : Int64 := fo (fun a h => fo (dgP A a) h (wn (aW A))) (dg3 A) (wn (aW A))
def dg5 (A : AS) : Int64 := fo (fun d h => mx1 (mx1 (mx1 h (prA (aW A) (nI d) 0)) (prA (aW A) (nI d) 1)) (clA (aW A) (nI d))) (dg4 A) 20
def dg6 (A : AS) : Int64 := mx1 (dg5 A) (nI (hoS (wn (aW A)) (rr (aW A) allE)))
def dg7 (A : AS) : Int64 := fo (fun w h => mx1 h (meAns (aW A) (nI w))) (dg6 A) 3
def dg8 (A : AS) : Int64 := fo (fun w h => mx1 h (swA (aW A) (nI w))) (dg7 A) 3
def dg9 (A : AS) : Int64 := 31 * (31 * mx1 (mx1 (mx1 (dg8 A) (drA (aW A) (-1))) (drA (aW A) 0)) (neS (aW A) (aS A)) + goA (aW A) 5 14 0) + goA (aW A) 5 14 1
def dgA (A : AS) : Int64 := mx1 (mx1 (dg9 A) (agA (aW A) 7 6 0)) (agA (aW A) 7 6 1)
theorem fo_skip {A : AS} {a : Nat} {h : Int64} : ∀ n, n ≤ a + 1 → fo (dgP A a) h n = h
  | 0, _ => rfl
  | n + 1, hn => by
    show dgP A a n (fo (dgP A a) h n) = h
    unfold dgP
    rw [if_neg (by omega)]
    exact fo_skip n (by omega)
theorem gN {w : Nat} (n : Nat) (h : w ≤ n) (hn : n < 2147483648) : 0 ≤ nI w ∧ nI w ≤ nI n := (inN_iff n hn).mpr ⟨w, h, rfl⟩
theorem gD {d : Nat} (h : d < 20) : 0 ≤ nI d ∧ nI d ≤ 19 := gN 19 (by omega) (by decide)
theorem gC {k n : Nat} (h : k < n) (hn : n ≤ 8) : 0 ≤ nI k ∧ nI k < nI n := (isC_iff (by omega)).mpr ⟨k, h, rfl⟩
theorem atA_n {W : Wo} {d k w : Nat} (hn : wn W ≤ 8) (hd : d < 20) (hk : k < wn W) (hw : w ≤ 4) : atA W (nI d) (nI k) (nI w) = atS (rr W allE k d) w := by
  unfold atA
  rw [if_pos ⟨gD hd, gC hk hn, gN 4 hw (by decide)⟩, cl (by omega), cl (by omega), cl (by omega)]
theorem plA_n {W : Wo} {d k w : Nat} (hn : wn W ≤ 8) (hd : d < 20) (hk : k < wn W) (hw : w ≤ 3) : plA W (nI d) (nI k) (nI w) = plS (rr W allE k d) w := by
  unfold plA
  rw [if_pos ⟨gD hd, gC hk hn, gN 3 hw (by decide)⟩, cl (by omega), cl (by omega), cl (by omega)]
theorem fo_0 {f : Nat → Int64 → Int64} {h : Int64} : fo f h 0 = h := rfl
theorem sdA_n {W : Wo} {k d w : Nat} (hn : wn W ≤ 8) (hk : k < wn W) (hd : d < 20) (hw : w ≤ 2) : sdA W (nI k) (nI d) (nI w) = (if w = 0 then nI ((arg gtB (sdF W k d) 99).1 / 10) else if w = 1 then nI ((arg gtB (sdF W k d) 99).1 % 10) else nI (arg gtB (sdF W k d) 99).2) := by
  unfold sdA
  refine (if_pos ⟨gC hk hn, gD hd, gN 2 hw (by decide)⟩).trans ?_
  rw [cl (show k < 2147483648 by omega), cl (show d < 2147483648 by omega), show (0 : Int32) = nI 0 from rfl, show (1 : Int32) = nI 1 from rfl]
  simp only [nI_eq' (show w < 2147483648 by omega) (show 0 < 2147483648 by decide), nI_eq' (show w < 2147483648 by omega) (show 1 < 2147483648 by decide)]
theorem coA_n {A : AS} {k w : Nat} (hn : wn (aW A) ≤ 8) (hk : k < wn (aW A)) (hw : w ≤ 3) : coA A (nI k) (nI w) = nI (cdS (at' A) w k) := by
  unfold coA
  refine (if_pos ⟨gC hk hn, gN 3 hw (by decide)⟩).trans ?_
  rw [cl (show w < 2147483648 by omega), cl (show k < 2147483648 by omega)]
  rfl
theorem swA_n {W : Wo} {w : Nat} (hw : w ≤ 2) : swA W (nI w) = swS W w := by
  unfold swA
  refine (if_pos (gN 2 hw (by decide))).trans ?_
  rw [cl (by omega)]
theorem meA_n {W : Wo} {w : Nat} (hw : w ≤ 2) : meAns W (nI w) = meS (wn W) (rr W allE) w := by
  unfold meAns
  refine (if_pos (gN 2 hw (by decide))).trans ?_
  rw [cl (by omega)]
section MDG
variable {E : Ev} {σ : Hp} {A : AS}
theorem c8_dayDigest (hm : StM A σ) (ho : okA A) {d k : Nat} (hd : d < 20) (hk : k < wn (aW A)) (h : Int64) : ∃ (v : Int64) (σ' : Hp), Call E mX8_dayDigest [.ref 53, .long h, .int (nI d), .int (nI k)] σ (some (.long v)) σ' ∧ (v = dgDay A h d k ∧ Fr sqM σ σ') := by
  have hn : wn (aW A) ≤ 8 := (woS_ok (hm.to ho)).1
  refine C_X8_dayDigest (tX8_dayDigest_0 ?_)
  have second : ∀ w (τ : Hp), w ≤ 4 → Fr sqM σ τ → Ru E mX8_dayDigest 40 [(0, .ref 53), (1, .long h), (3, .int (nI d)), (4, .int (nI k)), (5, .long (fo (fun w h => mx1 h (plA (aW A) (nI d) (nI k) (nI w))) (fo (fun w h => mx1 h (atA (aW A) (nI d) (nI k) (nI w))) h 5) w)), (7, .int (nI w))] [] τ (PL (fun v σ' => v = dgDay A h d k ∧ Fr sqM σ σ')) := by
    refine for_up 4 _ _ ?_ ?_
    · intro w τ hw hF ih
      obtain ⟨v1, s1, hc1, rfl, hF1⟩ := c8_placeOf (E := E) ((hm.q hF).to ho) hd hk (show w ≤ 3 by omega)
      have ih := ih s1 (hF.tr (hF1.mono (fun c i z => sQ_q z)))
      refine tX8_dayDigest_40 ⟨fun z => ?_, fun _ => ⟨_, _, hc1, ?_⟩⟩
      · rw [show (4 : Int32) = nI 4 from rfl, nI_le' (by decide) (by omega)] at z; omega
      · rw [nI_1, ← plA_n hn hd hk (show w ≤ 3 by omega)]
        exact ih
    · intro τ hF
      exact tX8_dayDigest_40 ⟨fun _ => ⟨_, rfl, rfl, hF⟩, fun z => absurd (by decide) z⟩
  have first : ∀ w (τ : Hp), w ≤ 5 → Fr sqM σ τ → Ru E mX8_dayDigest 6 [(0, .ref 53), (1, .long h), (3, .int (nI d)), (4, .int (nI k)), (5, .long (fo (fun w h => mx1 h (atA (aW A) (nI d) (nI k) (nI w))) h w)), (7, .int (nI w))] [] τ (PL (fun v σ' => v = dgDay A h d k ∧ Fr sqM σ σ')) := by
    refine for_up 5 _ _ ?_ ?_
    · intro w τ hw hF ih
      obtain ⟨v1, s1, hc1, rfl, hF1⟩ := c8_atOf (E := E) ((hm.q hF).to ho) hd hk (show w ≤ 4 by omega)
      have ih := ih s1 (hF.tr (hF1.mono (fun c i z => sQ_q z)))
      refine tX8_dayDigest_6 ⟨fun z => ?_, fun _ => ⟨_, _, hc1, ?_⟩⟩
      · rw [show (5 : Int32) = nI 5 from rfl, nI_le' (by decide) (by omega)] at z; omega
      · rw [nI_1, ← atA_n hn hd hk (show w ≤ 4 by omega)]
        exact ih
    · intro τ hF
      have t := second 0 τ (Nat.zero_le _) hF
      rw [fo_0] at t
      exact tX8_dayDigest_6 ⟨fun _ => t, fun z => absurd (by decide) z⟩
  exact first 0 σ (Nat.zero_le _) Fr.rf
theorem c8_coupleDigest (hm : StM A σ) (ho : okA A) {k : Nat} (hk : k < wn (aW A)) (hC : CpM (at' A) (wn (aW A)) σ) (h : Int64) : ∃ (v : Int64) (σ' : Hp), Call E mX8_coupleDigest [.ref 53, .long h, .int (nI k)] σ (some (.long v)) σ' ∧ (v = dgC A h k ∧ CpM (at' A) (wn (aW A)) σ' ∧ Fr sqM σ σ') := by
  have hn : wn (aW A) ≤ 8 := (woS_ok (hm.to ho)).1
  refine C_X8_coupleDigest (tX8_coupleDigest_0 ?_)
  have third : ∀ w (τ : Hp), w ≤ 3 → Fr sqM σ τ → Ru E mX8_coupleDigest 132 [(0, .ref 53), (1, .long h), (3, .int (nI k)), (4, .long (fo (fun w h => mx1 h (sdA (aW A) (nI k) 12 (nI w))) (dgC3 A h k) w)), (6, .int (nI w))] [] τ (PL (fun v σ' => v = dgC A h k ∧ CpM (at' A) (wn (aW A)) σ' ∧ Fr sqM σ σ')) := by
    refine for_up 3 _ _ ?_ ?_
    · intro w τ hw hF ih
      obtain ⟨v1, s1, hc1, h1, hF1⟩ := c8_standOf (E := E) ((hm.q hF).to ho) hk (show 12 < 20 by decide) (show w ≤ 2 by omega)
      have ih := ih s1 (hF.tr (hF1.mono (fun c i z => sQ_q z)))
      refine tX8_coupleDigest_132 ⟨fun z => ?_, fun _ => ⟨_, _, hc1, ?_⟩⟩
      · rw [show (3 : Int32) = nI 3 from rfl, nI_le' (by decide) (by omega)] at z; omega
      · have e : v1 = sdA (aW A) (nI k) 12 (nI w) := by
          exact h1.trans (sdA_n (d := 12) hn hk (by decide) (by omega)).symm
        rw [nI_1, e]
        exact ih
    · intro τ hF
      obtain ⟨v1, s1, hc1, rfl, -, -, hF1⟩ := c8_wideBy (E := E) ((hm.q hF).to ho) ho.2.2.2.2.1 (hm.q hF).2.2.1 hk
      have hF1 := hF.tr (hF1.mono (fun c i z => sP_q z))
      obtain ⟨v2, s2, hc2, rfl, hF2⟩ := c8_sortsBy (E := E) ((hm.q hF1).to ho) ho.2.2.2.2.1 (hm.q hF1).2.2.1 hk
      have hF2 := hF1.tr (hF2.mono (fun c i z => sQ_q z))
      obtain ⟨v3, s3, hc3, rfl, hC3, hF3⟩ := c8_askOf (E := E) ((hm.q hF2).to ho) ho.2.2.2.2.1 (hm.q hF2).2.2.1 hk
      have hF3 := hF2.tr (hF3.mono (fun c i z => sP_q z))
      refine tX8_coupleDigest_132 ⟨fun _ => ⟨_, _, hc1, _, _, hc2, _, _, hc3, _, rfl, ?_, hC3, hF3⟩, fun z => absurd (by decide) z⟩
      have e0 : waA (aW A) (aS A) (nI k) 0 = bs (wiB (aW A) (aS A) k) 10 := by
        unfold waA
        rw [if_pos ⟨gC hk hn, by decide⟩, if_pos rfl, cl (by omega)]
      have e1 : waA (aW A) (aS A) (nI k) 1 = bs (soB (aW A) (aS A) k) 3 := by
        unfold waA
        rw [if_pos ⟨gC hk hn, by decide⟩, if_neg (by decide), cl (by omega)]
      have e2 : aqA (aW A) (aS A) (nI k) = nI (aqS (aW A) (aS A) k) := by
        unfold aqA
        rw [if_pos (gC hk hn), cl (by omega)]
      unfold dgC
      rw [e0, e1, e2]
      rfl
  have first : ∀ w (u : Unit), w ≤ 4 → True → Ru E mX8_coupleDigest 6 [(0, .ref 53), (1, .long h), (3, .int (nI k)), (4, .long (fo (fun w h => mx1 h (coA A (nI k) (nI w))) h w)), (6, .int (nI w))] [] σ (PL (fun v σ' => v = dgC A h k ∧ CpM (at' A) (wn (aW A)) σ' ∧ Fr sqM σ σ')) := by
    refine for_up 4 _ _ ?_ ?_
    · intro w _ hw _ ih
      have ih := ih () trivial
      refine tX8_coupleDigest_6 ⟨fun z => ?_, fun _ => ⟨_, _, c8_coupleOf hC hn hk (show w ≤ 3 by omega), ?_⟩⟩
      · rw [show (4 : Int32) = nI 4 from rfl, nI_le' (by decide) (by omega)] at z; omega
      · have e : nI (cdS (at' A) w k) = coA A (nI k) (nI w) := (coA_n hn hk (by omega)).symm
        rw [nI_1, e]
        exact ih
    · intro _ _
      obtain ⟨v1, s1, hc1, h1, hF1⟩ := c8_dayDigest (E := E) hm ho (show 0 < 20 by decide) hk (dgC1 A h k)
      obtain ⟨v2, s2, hc2, h2, hF2⟩ := c8_dayDigest (E := E) (hm.q hF1) ho (show 6 < 20 by decide) hk v1
      have hF2 := hF1.tr hF2
      obtain ⟨v3, s3, hc3, h3, hF3⟩ := c8_dayDigest (E := E) (hm.q hF2) ho (show 12 < 20 by decide) hk v2
      have hF3 := hF2.tr hF3
      obtain ⟨v4, s4, hc4, h4, hF4⟩ := c8_dayDigest (E := E) (hm.q hF3) ho (show 19 < 20 by decide) hk v3
      have hF4 := hF3.tr hF4
      obtain ⟨v5, s5, hc5, h5, hF5⟩ := c8_ringedOf (E := E) ((hm.q hF4).to ho) hk
      have hF5 := hF4.tr (hF5.mono (fun c i z => sQ_q z))
      obtain ⟨v6, s6, hc6, h6, hF6⟩ := c8_openOf (E := E) ((hm.q hF5).to ho) hk (show 12 < 20 by decide) (show 0 ≤ 1 by decide)
      have hF6 := hF5.tr (hF6.mono (fun c i z => sQ_q z))
      obtain ⟨v7, s7, hc7, h7, hF7⟩ := c8_openOf (E := E) ((hm.q hF6).to ho) hk (show 12 < 20 by decide) (show 1 ≤ 1 by decide)
      have hF7 := hF6.tr (hF7.mono (fun c i z => sQ_q z))
      refine tX8_coupleDigest_6 ⟨fun _ => ⟨_, _, hc1, _, _, hc2, _, _, hc3, _, _, hc4, _, _, hc5, _, _, hc6, _, _, hc7, ?_⟩, fun z => absurd (by decide) z⟩
      have e5 : v5 = rgA (aW A) (nI k) := by
        rw [h5]
        unfold rgA
        rw [if_pos (gC hk hn), cl (by omega)]
      have e6 : v6 = opA (aW A) (nI k) 12 0 := by
        rw [h6, if_pos rfl]
        unfold opA
        rw [if_pos ⟨gC hk hn, gD (show 12 < 20 by decide), by decide⟩, if_pos rfl, cl (show k < 2147483648 by omega)]
        rfl
      have e7 : v7 = opA (aW A) (nI k) 12 1 := by
        rw [h7, if_neg (by decide)]
        unfold opA
        rw [if_pos ⟨gC hk hn, gD (show 12 < 20 by decide), by decide⟩, if_neg (by decide), cl (show k < 2147483648 by omega)]
        rfl
      have e4 : v4 = dgC2 A h k := by rw [h4, h3, h2, h1]; rfl
      have t := third 0 s7 (Nat.zero_le _) hF7
      rw [fo_0] at t
      rw [e4, e5, e6, e7]
      exact t
  exact first 0 () (Nat.zero_le _) trivial
theorem c8_areOf2 (hm : StM A σ) (ho : okA A) {d a b : Nat} (hd : d < 20) (ha : a < wn (aW A)) (hb : b < wn (aW A)) (hab : ¬ a = b) :
    ∃ (v1 : Int32) (σ' : Hp), Call E mX8_areOf [.ref 53, .int (nI d), .int (nI a), .int (nI b)] σ (some (.int v1)) σ' ∧ (v1 = arA (aW A) (nI d) (nI a) (nI b) ∧ σ' 53 2 = nI (wn (aW A)) ∧ Fr sqM σ σ') := by
  have hn : wn (aW A) ≤ 8 := (woS_ok (hm.to ho)).1
  obtain ⟨s, hc, hD, hF, -⟩ := runsT (E := E) (hm.to ho)
  refine C_X8_areOf (tX8_areOf_0 ⟨s, hc, _, _, c8_areNow (woS_ok (hm.to ho)) hD hd ha hb, _, rfl, ?_, hD.1, hF.mono (fun c i z => sQ_q z)⟩)
  unfold arA
  rw [if_pos ⟨gD hd, gC ha hn, gC hb hn, fun z => hab ((nI_eq' (by omega) (by omega)).mp z)⟩, cl (by omega), cl (by omega), cl (by omega)]
theorem c8_digest (hm : StM A σ) (ho : okA A) : ∃ (v : Int64) (σ' : Hp), Call E mX8_digest [.ref 53] σ (some (.long v)) σ' ∧ (v = dgA A ∧ Fr sqM σ σ') := by
  have hn : wn (aW A) ≤ 8 := (woS_ok (hm.to ho)).1
  have hnn : wn (aW A) < 2147483648 := by omega
  refine C_X8_digest (tX8_digest_0 ?_)
  generalize hΨ : (fun (v : Int64) (σ' : Hp) => v = dgA A ∧ Fr sqM σ σ') = Ψ
  have l8 : ∀ w (τ : Hp), w ≤ 3 → Fr sqM σ τ → Ru E mX8_digest 231 [(0, .ref 53), (1, .long (fo (fun w h => mx1 h (swA (aW A) (nI w))) (dg7 A) w)), (3, .int (nI w))] [] τ (PL Ψ) := by
    refine for_up 3 _ _ ?_ ?_
    · intro w τ hw hF ih
      obtain ⟨v1, s1, hc1, h1, hF1⟩ := c8_swapOf (E := E) ((hm.q hF).to ho) (show w ≤ 2 by omega)
      have ih := ih s1 (hF.tr (hF1.mono (fun c i z => sQ_q z)))
      refine tX8_digest_231 ⟨fun z => ?_, fun _ => ⟨_, _, hc1, ?_⟩⟩
      · rw [show (3 : Int32) = nI 3 from rfl, nI_le' (by decide) (by omega)] at z; omega
      · have e : v1 = swA (aW A) (nI w) := by
          exact h1.trans (swA_n (by omega)).symm
        rw [nI_1, e]
        exact ih
    · intro τ hF
      obtain ⟨v1, s1, hc1, h1⟩ := c8_dropBy (E := E) ((hm.q hF).to ho)
      have hF1 := hF.tr (h1.2.mono (fun c i z => sP_q z))
      have hc2 := c8_ofRow (E := E) (i := 0) (woS_ok (hm.to ho)) h1 (by decide)
      have e1 : v1 = drA (aW A) (-1) := by
        unfold drA drS
        rw [if_pos (by decide)]
        rcases h1.1 with ⟨a, rfl⟩ | ⟨a, b, rfl, -⟩ | ⟨a, b, c, rfl, -⟩ | ⟨a, b, c, rfl⟩
        · rw [if_pos a, if_pos rfl]
        · rw [if_neg a, if_pos b, if_pos rfl]
        · rw [if_neg a, if_neg b, if_pos c, if_pos rfl]
        · rw [if_neg a, if_neg b, if_neg c]
      obtain ⟨v3, s3, hc3, h3, hF3⟩ := c8_neverNow (E := E) ((hm.q hF1).to ho) ho.2.2.2.2.1 (hm.q hF1).2.2.1
      have hF3 := hF1.tr (hF3.mono (fun c i z => sQ_q z))
      obtain ⟨v4, s4, hc4, h4, hF4⟩ := c8_gossipOf (E := E) ((hm.q hF3).to ho) (show 5 ≤ 16 by decide) (show 14 < 20 by decide) (show 0 ≤ 1 by decide)
      have hF4 := hF3.tr (hF4.mono (fun c i z => sQ_q z))
      obtain ⟨v5, s5, hc5, h5, hF5⟩ := c8_gossipOf (E := E) ((hm.q hF4).to ho) (show 5 ≤ 16 by decide) (show 14 < 20 by decide) (show 1 ≤ 1 by decide)
      have hF5 := hF4.tr (hF5.mono (fun c i z => sQ_q z))
      obtain ⟨v6, s6, hc6, h6, hF6⟩ := c8_agesOf (E := E) (seed := 7) ((hm.q hF5).to ho) (show 6 ≤ 8 by decide) (show 0 ≤ 1 by decide)
      have hF6 := hF5.tr (hF6.mono (fun c i z => sQ_q z))
      obtain ⟨v7, s7, hc7, h7, hF7⟩ := c8_agesOf (E := E) (seed := 7) ((hm.q hF6).to ho) (show 6 ≤ 8 by decide) (show 1 ≤ 1 by decide)
      have hF7 := hF6.tr (hF7.mono (fun c i z => sQ_q z))
      refine tX8_digest_231 ⟨fun _ => ⟨_, _, hc1, _, _, hc2, _, _, hc3, _, _, hc4, _, _, hc5, _, _, hc6, _, _, hc7, ?_⟩, fun z => absurd (by decide) z⟩
      subst hΨ
      refine ⟨_, rfl, ?_, hF7⟩
      have e2 : drA (aW A) 0 = drS (aW A) 0 := if_pos (by decide)
      have e4 : v4 = goA (aW A) 5 14 0 := h4.trans (if_pos (by decide)).symm
      have e5 : v5 = goA (aW A) 5 14 1 := h5.trans (if_pos (by decide)).symm
      have e6 : v6 = agA (aW A) 7 6 0 := h6.trans (if_pos (by decide)).symm
      have e7 : v7 = agA (aW A) 7 6 1 := h7.trans (if_pos (by decide)).symm
      unfold dgA dg9
      rw [e1, ← e2, h3, e4, e5, e6, e7]
      rfl
  have l7 : ∀ w (τ : Hp), w ≤ 3 → Fr sqM σ τ → Ru E mX8_digest 205 [(0, .ref 53), (1, .long (fo (fun w h => mx1 h (meAns (aW A) (nI w))) (dg6 A) w)), (3, .int (nI w))] [] τ (PL Ψ) := by
    refine for_up 3 _ _ ?_ ?_
    · intro w τ hw hF ih
      obtain ⟨v1, s1, hc1, h1, hF1⟩ := c8_metOf (E := E) ((hm.q hF).to ho) (show w ≤ 2 by omega)
      have ih := ih s1 (hF.tr (hF1.mono (fun c i z => sQ_q z)))
      refine tX8_digest_205 ⟨fun z => ?_, fun _ => ⟨_, _, hc1, ?_⟩⟩
      · rw [show (3 : Int32) = nI 3 from rfl, nI_le' (by decide) (by omega)] at z; omega
      · have e : v1 = meAns (aW A) (nI w) := by
          exact h1.trans (meA_n (by omega)).symm
        rw [nI_1, e]
        exact ih
    · intro τ hF
      have t := l8 0 τ (Nat.zero_le _) hF
      rw [fo_0] at t
      exact tX8_digest_205 ⟨fun _ => t, fun z => absurd (by decide) z⟩
  have l5 : ∀ d (τ : Hp), d ≤ 20 → Fr sqM σ τ → Ru E mX8_digest 138 [(0, .ref 53), (1, .long (fo (fun d h => mx1 (mx1 (mx1 h (prA (aW A) (nI d) 0)) (prA (aW A) (nI d) 1)) (clA (aW A) (nI d))) (dg4 A) d)), (3, .int (nI d))] [] τ (PL Ψ) := by
    refine for_up 20 _ _ ?_ ?_
    · intro d τ hd hF ih
      obtain ⟨v1, s1, hc1, h1, hF1⟩ := c8_pairsOf (E := E) ((hm.q hF).to ho) hd (show 0 ≤ 1 by decide)
      have hF1 := hF.tr (hF1.mono (fun c i z => sQ_q z))
      obtain ⟨v2, s2, hc2, h2, hF2⟩ := c8_pairsOf (E := E) ((hm.q hF1).to ho) hd (show 1 ≤ 1 by decide)
      have hF2 := hF1.tr (hF2.mono (fun c i z => sQ_q z))
      obtain ⟨v3, s3, hc3, h3, hF3⟩ := c8_closedOf (E := E) ((hm.q hF2).to ho) hd
      have ih := ih s3 (hF2.tr (hF3.mono (fun c i z => sQ_q z)))
      refine tX8_digest_138 ⟨fun z => ?_, fun _ => ⟨_, _, hc1, _, _, hc2, _, _, hc3, ?_⟩⟩
      · rw [show (20 : Int32) = nI 20 from rfl, nI_le' (by decide) (by omega)] at z; omega
      · have e1 : v1 = prA (aW A) (nI d) 0 := by
          rw [h1]
          unfold prA
          rw [if_pos ⟨gD hd, by decide⟩, cl (by omega)]
          rfl
        have e2 : v2 = prA (aW A) (nI d) 1 := by
          rw [h2]
          unfold prA
          rw [if_pos ⟨gD hd, by decide⟩, cl (by omega)]
          rfl
        have e3 : v3 = clA (aW A) (nI d) := by
          rw [h3]
          unfold clA
          rw [if_pos (gD hd), cl (by omega)]
          rfl
        rw [nI_1, e1, e2, e3]
        exact ih
    · intro τ hF
      obtain ⟨v1, s1, hc1, h1, hF1⟩ := c8_holesOf (E := E) ((hm.q hF).to ho)
      have hF1 := hF.tr (hF1.mono (fun c i z => sQ_q z))
      refine tX8_digest_138 ⟨fun _ => ⟨_, _, hc1, ?_⟩, fun z => absurd (by decide) z⟩
      have t := l7 0 s1 (Nat.zero_le _) hF1
      rw [fo_0] at t
      rw [h1]
      exact t
  have l4 : ∀ a (τ : Hp), a ≤ wn (aW A) → (τ 53 2 = nI (wn (aW A)) ∧ Fr sqM σ τ) → Ru E mX8_digest 68 [(0, .ref 53), (1, .long (fo (fun a h => fo (dgP A a) h (wn (aW A))) (dg3 A) a)), (3, .int (nI a))] [] τ (PL Ψ) := by
    refine for_up (wn (aW A)) _ _ ?_ ?_
    · intro a τ ha ⟨hN, hF⟩ iha
      have inner : ∀ b (τ : Hp), b ≤ wn (aW A) → (a < b ∧ τ 53 2 = nI (wn (aW A)) ∧ Fr sqM σ τ) → Ru E mX8_digest 81 [(0, .ref 53), (1, .long (fo (dgP A a) (fo (fun a h => fo (dgP A a) h (wn (aW A))) (dg3 A) a) b)), (3, .int (nI a)), (4, .int (nI b))] [] τ (PL Ψ) := by
        refine for_up (wn (aW A)) _ _ ?_ ?_
        · intro b τ hb ⟨hab, hN, hF⟩ ih
          obtain ⟨v1, s1, hc1, h1, hN1, hF1⟩ := c8_areOf2 (E := E) (hm.q hF) ho (show 9 < 20 by decide) ha hb (by omega)
          have hF1 := hF.tr hF1
          obtain ⟨v2, s2, hc2, h2, hN2, hF2⟩ := c8_areOf2 (E := E) (hm.q hF1) ho (show 19 < 20 by decide) ha hb (by omega)
          have ih := ih s2 ⟨by omega, hN2, hF1.tr hF2⟩
          refine tX8_digest_81 ⟨fun z => ?_, fun _ => ⟨_, _, hc1, _, _, hc2, ?_⟩⟩
          · rw [hN, nI_le' hnn (by omega)] at z; omega
          · have e : fo (dgP A a) (fo (fun a h => fo (dgP A a) h (wn (aW A))) (dg3 A) a) (b + 1) = 31 * (31 * (fo (dgP A a) (fo (fun a h => fo (dgP A a) h (wn (aW A))) (dg3 A) a) b) + v1.toInt64) + v2.toInt64 := by
              show dgP A a b _ = _
              unfold dgP
              rw [if_pos hab, h1, h2]
              rfl
            rw [nI_1, ← e]
            exact ih
        · intro τ ⟨hab, hN, hF⟩
          refine tX8_digest_81 ⟨fun _ => ?_, fun z => absurd (by rw [hN]; exact Int32.le_refl _) z⟩
          rw [nI_1]
          exact iha τ ⟨hN, hF⟩
      refine tX8_digest_68 ⟨fun z => ?_, fun _ => ?_⟩
      · rw [hN, nI_le' hnn (by omega)] at z; omega
      · have := inner (a + 1) τ ha ⟨by omega, hN, hF⟩
        rw [fo_skip (a + 1) (Nat.le_refl _)] at this
        rw [nI_1]
        exact this
    · intro τ ⟨hN, hF⟩
      have t := l5 0 τ (Nat.zero_le _) hF
      rw [fo_0] at t
      exact tX8_digest_68 ⟨fun _ => t, fun z => absurd (by rw [hN]; exact Int32.le_refl _) z⟩
  have l3 : ∀ k (τ : Hp), k ≤ wn (aW A) → (CpM (at' A) (wn (aW A)) τ ∧ Fr sqM σ τ) → Ru E mX8_digest 45 [(0, .ref 53), (1, .long (fo (fun k h => dgC A h k) (dg1 A) k)), (3, .int (nI k))] [] τ (PL Ψ) := by
    refine for_up (wn (aW A)) _ _ ?_ ?_
    · intro k τ hk ⟨hC, hF⟩ ih
      obtain ⟨v1, s1, hc1, h1, hC1, hF1⟩ := c8_coupleDigest (E := E) (hm.q hF) ho hk hC (fo (fun k h => dgC A h k) (dg1 A) k)
      have ih := ih s1 ⟨hC1, hF.tr hF1⟩
      refine tX8_digest_45 ⟨fun z => ?_, fun _ => ⟨_, _, hc1, ?_⟩⟩
      · rw [hC.1, nI_le' hnn (by omega)] at z; omega
      · rw [nI_1, h1]
        exact ih
    · intro τ ⟨hC, hF⟩
      have t := l4 0 τ (Nat.zero_le _) ⟨hC.1, hF⟩
      rw [fo_0] at t
      exact tX8_digest_45 ⟨fun _ => t, fun z => absurd (by rw [hC.1]; exact Int32.le_refl _) z⟩
  have l1 : ∀ w (τ : Hp), w ≤ 8 → Fr sqM σ τ → Ru E mX8_digest 6 [(0, .ref 53), (1, .long (fo (fun w h => mx1 h (cnA A (nI w))) 17 w)), (3, .int (nI w))] [] τ (PL Ψ) := by
    refine for_up 8 _ _ ?_ ?_
    · intro w τ hw hF ih
      obtain ⟨v1, s1, hc1, h1, hF1⟩ := c8_count (E := E) (hm.q hF) ho (nI w)
      have ih := ih s1 (hF.tr hF1)
      refine tX8_digest_6 ⟨fun z => ?_, fun _ => ⟨_, _, hc1, ?_⟩⟩
      · rw [show (8 : Int32) = nI 8 from rfl, nI_le' (by decide) (by omega)] at z; omega
      · rw [nI_1, h1]
        exact ih
    · intro τ hF
      obtain ⟨v1, s1, hc1, h1, hC1, hF1⟩ := c8_faultNow (E := E) ((hm.q hF).to ho).1
      refine tX8_digest_6 ⟨fun _ => ⟨_, _, hc1, ?_⟩, fun z => absurd (by decide) z⟩
      have t := l3 0 s1 (Nat.zero_le _) ⟨hC1, hF.tr (hF1.mono (fun c i z => sQ_q (Or.inl (Or.inl z))))⟩
      rw [fo_0] at t
      rw [h1]
      exact t
  exact l1 0 σ (Nat.zero_le _) Fr.rf
/-- an act of the reference that answers a long -/
def ActL (E : Ev) (M : MI) (as : List Value) (σ : Hp) (a : Int64) (A : AS) : Prop := ∃ (v : Int64) (σ' : Hp), Call E M as σ (some (.long v)) σ' ∧ (v = a ∧ StM A σ' ∧ Fr sM σ σ')
theorem m_gossip (h : StM A σ) (ho : okA A) (c d w : Int32) : ActL E mX8_gossip [.ref 53, .int c, .int d, .int w] σ (goA (aW A) c d w) A := by
  obtain ⟨v, s, hc, hv, hF⟩ := c8_gossip (E := E) (h.to ho) c d w
  have hF := hF.mono (fun c i z => sQ_q z)
  exact ⟨v, s, hc, hv, h.q hF, hF.mono (fun c i z => sqM_M z)⟩
theorem m_digest (h : StM A σ) (ho : okA A) : ActL E mX8_digest [.ref 53] σ (dgA A) A := by
  obtain ⟨v, s, hc, hv, hF⟩ := c8_digest (E := E) h ho
  exact ⟨v, s, hc, hv, h.q hF, hF.mono (fun c i z => sqM_M z)⟩
end MDG
