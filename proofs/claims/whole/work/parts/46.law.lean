/-! THE LAW: its loop -/
section LW
variable {E : Ev} {σ : Hp} {A : AS} {Φ : Option Value → Hp → Prop}
theorem StX.m {σ' : Hp} (h : StX A σ) (hF : Fr sM σ σ') : StX A σ' := h.fr hF (fun _ _ z => Or.inr z)
theorem pairI {MX MM : MI} {aX aM : List Value} {r : Int32 × AS} {N : Hp → Prop} (hm : StM A σ) (hr : okA r.2) (hX : ActX E MX aX σ r) (hM : ∀ σ' : Hp, StM A σ' → ActM E MM aM σ' r) (next : ∀ σ' : Hp, StX r.2 σ' → StM r.2 σ' → N σ') :
    ∃ (r7 : Int32) (σ5 : Hp), Call E MX aX σ (some (.int r7)) σ5 ∧ ∃ (r11 : Int32) (σ9 : Hp), Call E MM aM σ5 (some (.int r11)) σ9 ∧ ((r7 = r11 → N σ9) ∧ (¬ r7 = r11 → Φ (some (.int 0)) σ9)) := by
  obtain ⟨v, s, hc, hv, hS, hF⟩ := hX
  obtain ⟨v2, s2, hc2, hv2, hS2, hF2⟩ := hM s (hm.fr hF)
  exact ⟨v, s, hc, v2, s2, hc2, fun _ => next s2 (hS.m hF2) hS2, fun z => absurd (hv.trans hv2.symm) z⟩
theorem pairL {MX MM : MI} {aX aM : List Value} {r : Int64} {N : Hp → Prop} (hm : StM A σ) (hX : ActXL E MX aX σ r A) (hM : ∀ σ' : Hp, StM A σ' → ActL E MM aM σ' r A) (next : ∀ σ' : Hp, StX A σ' → StM A σ' → N σ') :
    ∃ (r7 : Int64) (σ5 : Hp), Call E MX aX σ (some (.long r7)) σ5 ∧ ∃ (r11 : Int64) (σ9 : Hp), Call E MM aM σ5 (some (.long r11)) σ9 ∧ ((lg_cmp r7 r11 = 0 → N σ9) ∧ (¬ lg_cmp r7 r11 = 0 → Φ (some (.int 0)) σ9)) := by
  obtain ⟨v, s, hc, hv, hS, hF⟩ := hX
  obtain ⟨v2, s2, hc2, hv2, hS2, hF2⟩ := hM s (hm.fr hF)
  refine ⟨v, s, hc, v2, s2, hc2, fun _ => next s2 (hS.m hF2) hS2, fun z => absurd ?_ z⟩
  rw [hv, hv2]
  unfold lg_cmp
  rw [if_neg (Int64.lt_irrefl), if_pos rfl]
theorem law_loop (hL : eL E ≤ 3072) : ∀ n i (A : AS) (σ : Hp), i + n = eL E + 6 → okA A → StX A σ → StM A σ → Ru E mL_law 18 [(0, .ref 102), (1, .ref 0), (2, .ref 53), (3, .int (nI i))] [] σ (fun r _ => r = some (.int 1)) := by
  intro n
  induction n using Nat.strongRecOn with
  | _ n ih =>
    intro i A σ hi ho h hm
    have e6 : nI i + 6 = nI (i + 6) := by rw [show (6 : Int32) = nI 6 from rfl, nI_add]
    have hcmp : (Int32.ofNat (eL E)) - 6 < nI i ↔ eL E < i + 6 := by
      rw [show Int32.ofNat (eL E) = nI (eL E) from rfl, show (6 : Int32) = nI 6 from rfl, Int32.lt_iff_toInt_lt, pk_sub_toInt (by omega) (by decide), nI_toInt (by omega)]
      omega
    refine tL_law_18 ?_
    rw [hcmp, e6]
    refine ⟨fun _ => rfl, fun q => ?_⟩
    have nx : ∀ (B : AS) (τ : Hp), okA B → StX B τ → StM B τ → Ru E mL_law 18 [(0, .ref 102), (1, .ref 0), (2, .ref 53), (3, .int (nI (i + 6)))] [] τ (fun r _ => r = some (.int 1)) := fun B τ hB hx hmm => ih (n - 6) (by omega) (i + 6) B τ (by omega) hB hx hmm
    have vi : ∀ k : Nat, k < 6 → vp_in (nI (i + k)) (eL E) := fun k hk => vin (by omega) (by omega)
    have v0 : vp_in (nI i) (eL E) := vin (by omega) (by omega)
    have v1 : vp_in (nI i + 1) (eL E) := by rw [show (1 : Int32) = nI 1 from rfl, nI_add]; exact vi 1 (by decide)
    have v2 : vp_in (nI i + 2) (eL E) := by rw [show (2 : Int32) = nI 2 from rfl, nI_add]; exact vi 2 (by decide)
    have v3 : vp_in (nI i + 3) (eL E) := by rw [show (3 : Int32) = nI 3 from rfl, nI_add]; exact vi 3 (by decide)
    have v4 : vp_in (nI i + 4) (eL E) := by rw [show (4 : Int32) = nI 4 from rfl, nI_add]; exact vi 4 (by decide)
    have v5 : vp_in (nI i + 5) (eL E) := by rw [show (5 : Int32) = nI 5 from rfl, nI_add]; exact vi 5 (by decide)
    refine ⟨v0, fun _ => ⟨v1, pairI (E := E) (Φ := fun r _ => r = some (.int 1)) hm (okA_type ho _) (x7_type h ho _) (fun _ h' => m_type h' ho _) (fun τ a b => nx _ τ (okA_type ho _) a b)⟩,
      fun _ => pairI (E := E) (Φ := fun r _ => r = some (.int 1)) hm (okA_wipe ho) (x7_wipe h ho) (fun _ h' => m_wipe h' ho) (fun τ a b => nx _ τ (okA_wipe ho) a b),
      fun _ => pairI (E := E) (Φ := fun r _ => r = some (.int 1)) hm (okA_undo ho) (x7_undo h ho) (fun _ h' => m_undo h' ho) (fun τ a b => nx _ τ (okA_undo ho) a b),
      fun _ => pairI (E := E) (A := A) (Φ := fun r _ => r = some (.int 1)) hm ho ((x7_fault h).act h) (fun _ h' => m_fault h' ho) (fun τ a b => nx _ τ ho a b),
      fun _ => ⟨v1, v2, pairI (E := E) (A := A) (Φ := fun r _ => r = some (.int 1)) hm ho ((x7_couple h ho _ _).act h) (fun _ h' => m_couple h' ho _ _) (fun τ a b => nx _ τ ho a b)⟩,
      fun _ => ⟨v1, v2, v3, v4, pairI (E := E) (Φ := fun r _ => r = some (.int 1)) hm (okA_event ho _ _ _ _) (x7_event h ho _ _ _ _) (fun _ h' => m_event h' ho _ _ _ _) (fun τ a b => nx _ τ (okA_event ho _ _ _ _) a b)⟩,
      fun _ => pairI (E := E) (Φ := fun r _ => r = some (.int 1)) hm (okA_back ho) (x7_back h ho) (fun _ h' => m_back h' ho) (fun τ a b => nx _ τ (okA_back ho) a b),
      fun _ => ⟨v1, pairI (E := E) (Φ := fun r _ => r = some (.int 1)) hm (okA_read ho _) (x7_read h ho _) (fun _ h' => m_read h' ho _) (fun τ a b => nx _ τ (okA_read ho _) a b)⟩,
      fun _ => ⟨v1, v2, v3, pairI (E := E) (A := A) (Φ := fun r _ => r = some (.int 1)) hm ho ((x7_at h ho _ _ _).act h) (fun _ h' => m_at h' ho _ _ _) (fun τ a b => nx _ τ ho a b)⟩,
      fun _ => ⟨v1, v2, v3, pairI (E := E) (A := A) (Φ := fun r _ => r = some (.int 1)) hm ho ((x7_place h ho _ _ _).act h) (fun _ h' => m_place h' ho _ _ _) (fun τ a b => nx _ τ ho a b)⟩,
      fun _ => ⟨v1, v2, v3, pairI (E := E) (A := A) (Φ := fun r _ => r = some (.int 1)) hm ho ((x7_are h ho _ _ _).act h) (fun _ h' => m_are h' ho _ _ _) (fun τ a b => nx _ τ ho a b)⟩,
      fun _ => ⟨v1, v2, pairI (E := E) (A := A) (Φ := fun r _ => r = some (.int 1)) hm ho ((x7_pairs h ho _ _).act h) (fun _ h' => m_pairs h' ho _ _) (fun τ a b => nx _ τ ho a b)⟩,
      fun _ => ⟨v1, pairI (E := E) (A := A) (Φ := fun r _ => r = some (.int 1)) hm ho ((x7_closed h ho _).act h) (fun _ h' => m_closed h' ho _) (fun τ a b => nx _ τ ho a b)⟩,
      fun _ => pairI (E := E) (A := A) (Φ := fun r _ => r = some (.int 1)) hm ho ((x7_holes h ho).act h) (fun _ h' => m_holes h' ho) (fun τ a b => nx _ τ ho a b),
      fun _ => ⟨v1, pairI (E := E) (A := A) (Φ := fun r _ => r = some (.int 1)) hm ho ((x7_ringed h ho _).act h) (fun _ h' => m_ringed h' ho _) (fun τ a b => nx _ τ ho a b)⟩,
      fun _ => ⟨v1, pairI (E := E) (A := A) (Φ := fun r _ => r = some (.int 1)) hm ho ((x7_meets h ho _).act h) (fun _ h' => m_meets h' ho _) (fun τ a b => nx _ τ ho a b)⟩,
      fun _ => ⟨v1, v2, v3, pairI (E := E) (A := A) (Φ := fun r _ => r = some (.int 1)) hm ho ((x7_open h ho _ _ _).act h) (fun _ h' => m_open h' ho _ _ _) (fun τ a b => nx _ τ ho a b)⟩,
      fun _ => ⟨v1, v2, v3, pairI (E := E) (A := A) (Φ := fun r _ => r = some (.int 1)) hm ho ((x7_stand h ho _ _ _).act h) (fun _ h' => m_stand h' ho _ _ _) (fun τ a b => nx _ τ ho a b)⟩,
      fun _ => ⟨v1, pairI (E := E) (A := A) (Φ := fun r _ => r = some (.int 1)) hm ho ((x7_swap h ho _).act h) (fun _ h' => m_swap h' ho _) (fun τ a b => nx _ τ ho a b)⟩,
      fun _ => ⟨v1, pairI (E := E) (A := A) (Φ := fun r _ => r = some (.int 1)) hm ho ((x7_drop h ho _).act h) (fun _ h' => m_drop h' ho _) (fun τ a b => nx _ τ ho a b)⟩,
      fun _ => ⟨v1, v2, v3, v4, pairI (E := E) (Φ := fun r _ => r = some (.int 1)) hm (okA_seen ho _ _ _ _) (x7_seen h ho _ _ _ _) (fun _ h' => m_seen h' ho _ _ _ _) (fun τ a b => nx _ τ (okA_seen ho _ _ _ _) a b)⟩,
      fun _ => pairI (E := E) (Φ := fun r _ => r = some (.int 1)) hm (okA_forget ho) (x7_forget h ho) (fun _ h' => m_forget h' ho) (fun τ a b => nx _ τ (okA_forget ho) a b),
      fun _ => pairI (E := E) (A := A) (Φ := fun r _ => r = some (.int 1)) hm ho ((x7_never h ho).act h) (fun _ h' => m_never h' ho) (fun τ a b => nx _ τ ho a b),
      fun _ => ⟨v1, v2, pairI (E := E) (A := A) (Φ := fun r _ => r = some (.int 1)) hm ho ((x7_was h ho _ _).act h) (fun _ h' => m_was h' ho _ _) (fun τ a b => nx _ τ ho a b)⟩,
      fun _ => ⟨v1, pairI (E := E) (A := A) (Φ := fun r _ => r = some (.int 1)) hm ho ((x7_ask h ho _).act h) (fun _ h' => m_ask h' ho _) (fun τ a b => nx _ τ ho a b)⟩,
      fun _ => ⟨v1, v2, v3, pairL (E := E) (Φ := fun r _ => r = some (.int 1)) hm ((x7_gossip h ho _ _ _).act h) (fun _ h' => m_gossip h' ho _ _ _) (fun τ a b => nx _ τ ho a b)⟩,
      fun _ => ⟨v1, v2, v3, pairI (E := E) (A := A) (Φ := fun r _ => r = some (.int 1)) hm ho ((x7_ages h ho _ _ _).act h) (fun _ h' => m_ages h' ho _ _ _) (fun τ a b => nx _ τ ho a b)⟩,
      fun _ => ⟨v1, v2, v3, pairI (E := E) (Φ := fun r _ => r = some (.int 1)) hm (okA_sheet ho _ _ _) (x7_sheet h ho _ _ _) (fun _ h' => m_sheet h' ho _ _ _) (fun τ a b => nx _ τ (okA_sheet ho _ _ _) a b)⟩,
      fun _ => ⟨v1, pairI (E := E) (Φ := fun r _ => r = some (.int 1)) hm (okA_lose ho _) (x7_lose h ho _) (fun _ h' => m_lose h' ho _) (fun τ a b => nx _ τ (okA_lose ho _) a b)⟩,
      fun _ => ⟨v1, v2, v3, v4, pairI (E := E) (Φ := fun r _ => r = some (.int 1)) hm (okA_put ho _ _ _ _) (x7_put h ho _ _ _ _) (fun _ h' => m_put h' ho _ _ _ _) (fun τ a b => nx _ τ (okA_put ho _ _ _ _) a b)⟩,
      fun _ => ⟨v1, v2, v3, pairI (E := E) (Φ := fun r _ => r = some (.int 1)) hm (okA_get ho _ _ _) (x7_get h ho _ _ _) (fun _ h' => m_get h' ho _ _ _) (fun τ a b => nx _ τ (okA_get ho _ _ _) a b)⟩,
      fun _ => ⟨v1, v2, v3, v4, v5, pairI (E := E) (Φ := fun r _ => r = some (.int 1)) hm (okA_copy ho _ _ _ _ _) (x7_copy h ho _ _ _ _ _) (fun _ h' => m_copy h' ho _ _ _ _ _) (fun τ a b => nx _ τ (okA_copy ho _ _ _ _ _) a b)⟩,
      fun _ => ⟨v1, v2, pairI (E := E) (Φ := fun r _ => r = some (.int 1)) hm (okA_write ho _ _) (x7_write h ho _ _) (fun _ h' => m_write h' ho _ _) (fun τ a b => nx _ τ (okA_write ho _ _) a b)⟩,
      fun _ => ⟨v1, pairI (E := E) (A := A) (Φ := fun r _ => r = some (.int 1)) hm ho ((x7_count h ho _).act h) (fun _ h' => m_count h' ho _) (fun τ a b => nx _ τ ho a b)⟩,
      fun _ => pairL (E := E) (Φ := fun r _ => r = some (.int 1)) hm ((x7_digest h ho).act h) (fun _ h' => m_digest h' ho) (fun τ a b => nx _ τ ho a b),
      fun _ => nx A σ ho h hm⟩
end LW
