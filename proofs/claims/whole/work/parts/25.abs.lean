/-! THE ABSTRACT STATE: text, events, sightings, sheets; what each act answers and does -/
/-- sheets: there, form, size, items; the latest finding -/
abbrev Sht : Type := (Nat → Bool) × (Nat → Nat) × (Nat → Nat) × (Nat → Nat → Int32) × Int32
abbrev ht (H : Sht) : Nat → Bool := H.1
abbrev hf (H : Sht) : Nat → Nat := H.2.1
abbrev hz (H : Sht) : Nat → Nat := H.2.2.1
abbrev hi (H : Sht) : Nat → Nat → Int32 := H.2.2.2.1
abbrev hl (H : Sht) : Int32 := H.2.2.2.2
abbrev AS : Type := (Nat → Nat) × Nat × (Nat → Nat → Nat) × Nat × Sn × Sht
abbrev at' (A : AS) : Nat → Nat := A.1
abbrev an (A : AS) : Nat := A.2.1
abbrev av (A : AS) : Nat → Nat → Nat := A.2.2.1
abbrev am (A : AS) : Nat := A.2.2.2.1
abbrev aS (A : AS) : Sn := A.2.2.2.2.1
abbrev aH (A : AS) : Sht := A.2.2.2.2.2
def okH (H : Sht) : Prop := ∀ s, s < 4 → hf H s ≤ 2 ∧ hz H s ≤ 60
def okA (A : AS) : Prop := an A ≤ 39 ∧ (∀ i, i < an A → at' A i ≤ 255) ∧ am A ≤ 8 ∧ okE (av A) (am A) ∧ okS (aS A) ∧ okH (aH A)
abbrev aW (A : AS) : Wo := woS (at' A) (an A) (av A) (am A)
def setF (A : AS) (x : Int32) : AS := (at' A, an A, av A, am A, aS A, (ht (aH A), hf (aH A), hz (aH A), hi (aH A), x))
def markA (A : AS) (x : Int32) : Int32 × AS := ((-10) - x, setF A x)
def upN {α : Type} (f : Nat → α) (k : Nat) (x : α) : Nat → α := fun j => if j = k then x else f j
def aType (A : AS) (b : Int32) : Int32 × AS := if 0 ≤ b ∧ b ≤ 255 then (if an A = 39 then (-4, A) else (nI (an A + 1), (upN (at' A) (an A) b.toNatClampNeg, an A + 1, av A, am A, aS A, aH A))) else (-2, A)
def aWipe (A : AS) : Int32 × AS := (nI (an A), (at' A, 0, av A, am A, aS A, aH A))
def aUndo (A : AS) : Int32 × AS := if an A = 0 then (-3, A) else (nI (an A - 1), (at' A, an A - 1, av A, am A, aS A, aH A))
def mayE (k d c n : Int32) : Prop := (0 ≤ k ∧ k ≤ 2) ∧ (0 ≤ d ∧ d ≤ 19) ∧ (0 ≤ c ∧ c ≤ 7) ∧ (0 ≤ n ∧ n ≤ 9)
def upE (v : Nat → Nat → Nat) (m k d c n : Nat) : Nat → Nat → Nat := fun f e => if e = m then (if f = 0 then k else if f = 1 then d else if f = 2 then c else n) else v f e
def aEvent (A : AS) (k d c n : Int32) : Int32 × AS := if (0 ≤ k ∧ k ≤ 2) ∧ (0 ≤ d ∧ d ≤ 19) ∧ (0 ≤ c ∧ c ≤ 7) ∧ (0 ≤ n ∧ n ≤ 9) then (if am A = 8 then (-4, A) else (nI (am A + 1), (at' A, an A, upE (av A) (am A) k.toNatClampNeg d.toNatClampNeg c.toNatClampNeg n.toNatClampNeg, am A + 1, aS A, aH A))) else (-2, A)
def aBack (A : AS) : Int32 × AS := if am A = 0 then (-3, A) else (nI (am A - 1), (at' A, an A, av A, am A - 1, aS A, aH A))
def rdS (s : Nat) : Nat → Nat → AS → Nat × AS
  | 0, j, A => (j, A)
  | n + 1, j, A => if 4 * j + 3 < hz (aH A) s then (if 0 < (aEvent A (hi (aH A) s (4 * j)) (hi (aH A) s (4 * j + 1)) (hi (aH A) s (4 * j + 2)) (hi (aH A) s (4 * j + 3))).1 then rdS s n (j + 1) (aEvent A (hi (aH A) s (4 * j)) (hi (aH A) s (4 * j + 1)) (hi (aH A) s (4 * j + 2)) (hi (aH A) s (4 * j + 3))).2 else (j, A)) else (j, A)
def aRead (A : AS) (s : Int32) : Int32 × AS := if 0 ≤ s ∧ s ≤ 3 then (if ht (aH A) s.toNatClampNeg = true then (nI (rdS s.toNatClampNeg 16 0 A).1, (rdS s.toNatClampNeg 16 0 A).2) else markA A 1) else (-2, A)
def aSeen (A : AS) (d k x y : Int32) : Int32 × AS := if (0 ≤ d ∧ d ≤ 19) ∧ (0 ≤ k ∧ k ≤ 7) ∧ (-99 ≤ x ∧ x ≤ 99) ∧ (-99 ≤ y ∧ y ≤ 99) then (if sc (aS A) = 8 then (-4, A) else (nI (sc (aS A) + 1), (at' A, an A, av A, am A, (upN (sd (aS A)) (sc (aS A)) d.toNatClampNeg, upN (sh (aS A)) (sc (aS A)) k.toNatClampNeg, upN (sx (aS A)) (sc (aS A)) x, upN (sy (aS A)) (sc (aS A)) y, sc (aS A) + 1), aH A))) else (-2, A)
def aForget (A : AS) : Int32 × AS := (nI (sc (aS A)), (at' A, an A, av A, am A, (sd (aS A), sh (aS A), sx (aS A), sy (aS A), 0), aH A))
def setH (A : AS) (H : Sht) : AS := (at' A, an A, av A, am A, aS A, H)
def aSheet (A : AS) (s f n : Int32) : Int32 × AS := if (0 ≤ s ∧ s ≤ 3) ∧ (0 ≤ f ∧ f ≤ 2) ∧ n ≤ 60 then (if 0 ≤ n then (n, setH A (upN (ht (aH A)) s.toNatClampNeg true, upN (hf (aH A)) s.toNatClampNeg f.toNatClampNeg, upN (hz (aH A)) s.toNatClampNeg n.toNatClampNeg, upN (hi (aH A)) s.toNatClampNeg (fun _ => 0), hl (aH A))) else markA A 5) else (-2, A)
def aLose (A : AS) (s : Int32) : Int32 × AS := if 0 ≤ s ∧ s ≤ 3 then (if ht (aH A) s.toNatClampNeg = true then (nI (hz (aH A) s.toNatClampNeg), setH A (upN (ht (aH A)) s.toNatClampNeg false, hf (aH A), hz (aH A), hi (aH A), hl (aH A))) else markA A 1) else (-2, A)
def lackS (H : Sht) (s : Nat) (f i : Int32) : Nat := if ht H s = true then (if nI (hf H s) = f then (if 0 ≤ i ∧ i < nI (hz H s) then 0 else 2) else 3) else 1
def nrS (f : Nat) (x : Int32) : Int32 := if f = 0 then x.toInt8.toInt32 else if f = 1 then x.toInt16.toInt32 else x
def putH (A : AS) (s i : Nat) (x : Int32) : AS := setH A (ht (aH A), hf (aH A), hz (aH A), upN (hi (aH A)) s (upN (hi (aH A) s) i x), hl (aH A))
def aPut (A : AS) (s f i x : Int32) : Int32 × AS := if (0 ≤ s ∧ s ≤ 3) ∧ (0 ≤ f ∧ f ≤ 2) then (if lackS (aH A) s.toNatClampNeg f i = 0 then (1, putH A s.toNatClampNeg i.toNatClampNeg (nrS (hf (aH A) s.toNatClampNeg) x)) else markA A (nI (lackS (aH A) s.toNatClampNeg f i))) else (-2, A)
def aGet (A : AS) (s f i : Int32) : Int32 × AS := if (0 ≤ s ∧ s ≤ 3) ∧ (0 ≤ f ∧ f ≤ 2) then (if lackS (aH A) s.toNatClampNeg f i = 0 then (hi (aH A) s.toNatClampNeg i.toNatClampNeg, A) else (-2147483648, setF A (nI (lackS (aH A) s.toNatClampNeg f i)))) else (-2147483648, A)
def cpOk (H : Sht) (s : Nat) (i n : Int32) : Prop := 0 ≤ i ∧ 0 ≤ n ∧ i.toInt + n.toInt ≤ hz H s
def cpH (A : AS) (s i t j n : Nat) : AS := setH A (ht (aH A), hf (aH A), hz (aH A), upN (hi (aH A)) t (fun k => if j ≤ k ∧ k < j + n then hi (aH A) s (i + (k - j)) else hi (aH A) t k), hl (aH A))
def aCopy (A : AS) (s i t j n : Int32) : Int32 × AS := if (0 ≤ s ∧ s ≤ 3) ∧ (0 ≤ t ∧ t ≤ 3) then (if ht (aH A) s.toNatClampNeg = true ∧ ht (aH A) t.toNatClampNeg = true then (if hf (aH A) s.toNatClampNeg = hf (aH A) t.toNatClampNeg then (if (0 ≤ i ∧ 0 ≤ n ∧ i.toInt + n.toInt ≤ hz (aH A) s.toNatClampNeg) ∧ (0 ≤ j ∧ 0 ≤ n ∧ j.toInt + n.toInt ≤ hz (aH A) t.toNatClampNeg) then (1, cpH A s.toNatClampNeg i.toNatClampNeg t.toNatClampNeg j.toNatClampNeg n.toNatClampNeg) else markA A 2) else markA A 4) else markA A 1) else (-2, A)
def wrN (A : AS) (s : Nat) : Nat := min (hz (aH A) s) 20
def wrH (A : AS) (k s : Nat) : AS := setH A (ht (aH A), hf (aH A), hz (aH A), upN (hi (aH A)) s (fun d => if d < wrN A s then nI (ga (rr (aW A) allE k d)) else hi (aH A) s d), hl (aH A))
def aWrite (A : AS) (k s : Int32) : Int32 × AS := if (0 ≤ k ∧ k < nI (wn (aW A))) ∧ (0 ≤ s ∧ s ≤ 3) then (if ht (aH A) s.toNatClampNeg = true then (nI (wrN A s.toNatClampNeg), wrH A k.toNatClampNeg s.toNatClampNeg) else markA A 1) else (-2, A)
def cnA (A : AS) (w : Int32) : Int32 := if w = 0 then nI (wn (aW A)) else if w = 1 then nI (an A) else if w = 2 then nI (am A) else if w = 3 then nI (prS (wn (aW A)) (fun k => rr (aW A) allE k 19) 0) else if w = 4 then nI (prS (wn (aW A)) (fun k => rr (aW A) allE k 19) 1) else if w = 5 then nI (clN (wn (aW A)) (fun k => rr (aW A) allE k 19)) else if w = 6 then nI (sm (fun k => gi (rr (aW A) allE k 19)) (wn (aW A))) else if w = 7 then nI (sc (aS A)) else if w = 8 then hl (aH A) else -2
def coA (A : AS) (k w : Int32) : Int32 := if (0 ≤ k ∧ k < nI (wn (aW A))) ∧ (0 ≤ w ∧ w ≤ 3) then nI (wc (aW A) w.toNatClampNeg k.toNatClampNeg) else -2
/-- the reference holds A -/
def ShM (H : Sht) (σ : Hp) : Prop := (∀ s, s < 4 → σ 86 s = bI (ht H s = true) ∧ σ 87 s = nI (hf H s) ∧ σ 88 s = nI (hz H s) ∧ ∀ i, i < 60 → σ 89 (60 * s + i) = hi H s i) ∧ σ 53 44 = hl H
def StM (A : AS) (σ : Hp) : Prop := (σ 53 0 = nI (an A) ∧ ∀ i, i < an A → σ 54 i = nI (at' A i)) ∧ EvM (av A) (am A) σ ∧ SnM (aS A) σ ∧ ShM (aH A) σ
theorem StM.to {A : AS} {σ : Hp} (h : StM A σ) (ho : okA A) : ToM (at' A) (an A) (av A) (am A) σ := ⟨⟨ho.1, h.1.1, fun i hi => ⟨ho.2.1 i hi, h.1.2 i hi⟩⟩, h.2.1, ho.2.2.1, ho.2.2.2.1⟩
def sM (c _i : Nat) : Prop := 53 ≤ c
/-- what the reference's questions may change -/
def sqM (c i : Nat) : Prop := (c = 53 ∧ (i = 2 ∨ i = 12 ∨ i = 17 ∨ i = 24)) ∨ (55 ≤ c ∧ c ≤ 58) ∨ (63 ≤ c ∧ c ≤ 80) ∨ c = 85 ∨ c = 90
theorem sP_q {c i : Nat} (h : sP c i) : sqM c i := by unfold sP sQ sT sW sN sR at h; unfold sqM; omega
theorem sQ_q {c i : Nat} (h : sQ c i) : sqM c i := sP_q (Or.inl h)
theorem sqM_M {c i : Nat} (h : sqM c i) : sM c i := by unfold sqM at h; unfold sM; omega
theorem StM.q {A : AS} {σ σ' : Hp} (h : StM A σ) (hF : Fr sqM σ σ') : StM A σ' := by
  obtain ⟨⟨h1, h2⟩, ⟨h3, h4⟩, ⟨h5, h6⟩, h7, h8⟩ := h
  have k : ∀ c i, ¬ sqM c i → σ' c i = σ c i := hF
  refine ⟨⟨by rw [k _ _ (by unfold sqM; omega)]; exact h1, fun i hi => by rw [k _ _ (by unfold sqM; omega)]; exact h2 i hi⟩, ⟨by rw [k _ _ (by unfold sqM; omega)]; exact h3, fun e he f hf => by rw [k _ _ (by unfold sqM; omega)]; exact h4 e he f hf⟩, ⟨by rw [k _ _ (by unfold sqM; omega)]; exact h5, fun i hi => ?_⟩, fun s hs => ?_, by rw [k _ _ (by unfold sqM; omega)]; exact h8⟩
  · rw [k 81 i (by unfold sqM; omega), k 82 i (by unfold sqM; omega), k 83 i (by unfold sqM; omega), k 84 i (by unfold sqM; omega)]
    exact h6 i hi
  · obtain ⟨g1, g2, g3, g4⟩ := h7 s hs
    refine ⟨by rw [k _ _ (by unfold sqM; omega)]; exact g1, by rw [k _ _ (by unfold sqM; omega)]; exact g2, by rw [k _ _ (by unfold sqM; omega)]; exact g3, fun i hi => by rw [k _ _ (by unfold sqM; omega)]; exact g4 i hi⟩
/-- an act of the reference: it answers r.1 and holds r.2 -/
def ActM (E : Ev) (M : MI) (as : List Value) (σ : Hp) (r : Int32 × AS) : Prop := ∃ (v : Int32) (σ' : Hp), Call E M as σ (some (.int v)) σ' ∧ (v = r.1 ∧ StM r.2 σ' ∧ Fr sM σ σ')
section MA
variable {E : Ev} {σ : Hp} {A : AS}
theorem actQ {M : MI} {as : List Value} {a : Int32} (h : StM A σ) (hc : ∃ (v : Int32) (σ' : Hp), Call E M as σ (some (.int v)) σ' ∧ (v = a ∧ Fr sqM σ σ')) : ActM E M as σ (a, A) := by
  obtain ⟨v, s, hc, hv, hF⟩ := hc
  exact ⟨v, s, hc, hv, h.q hF, hF.mono (fun c i z => sqM_M z)⟩
theorem actP {M : MI} {as : List Value} {a : Int32} (h : StM A σ) (hc : ∃ (v : Int32) (σ' : Hp), Call E M as σ (some (.int v)) σ' ∧ (v = a ∧ Fr sP σ σ')) : ActM E M as σ (a, A) := by
  obtain ⟨v, s, hc, hv, hF⟩ := hc
  exact actQ h ⟨v, s, hc, hv, hF.mono (fun c i z => sP_q z)⟩
theorem actS {M : MI} {as : List Value} {a : Int32} (h : StM A σ) (hc : ∃ (v : Int32) (σ' : Hp), Call E M as σ (some (.int v)) σ' ∧ (v = a ∧ Fr sQ σ σ')) : ActM E M as σ (a, A) := by
  obtain ⟨v, s, hc, hv, hF⟩ := hc
  exact actQ h ⟨v, s, hc, hv, hF.mono (fun c i z => sQ_q z)⟩
theorem m_at (h : StM A σ) (ho : okA A) (d k w : Int32) : ActM E mX8_at [.ref 53, .int d, .int k, .int w] σ (atA (aW A) d k w, A) := actS h (c8_at (h.to ho) d k w)
theorem m_place (h : StM A σ) (ho : okA A) (d k w : Int32) : ActM E mX8_place [.ref 53, .int d, .int k, .int w] σ (plA (aW A) d k w, A) := actS h (c8_place (h.to ho) d k w)
theorem m_are (h : StM A σ) (ho : okA A) (d a b : Int32) : ActM E mX8_are [.ref 53, .int d, .int a, .int b] σ (arA (aW A) d a b, A) := actS h (c8_are (h.to ho) d a b)
theorem m_pairs (h : StM A σ) (ho : okA A) (d w : Int32) : ActM E mX8_pairs [.ref 53, .int d, .int w] σ (prA (aW A) d w, A) := actS h (c8_pairs (h.to ho) d w)
theorem m_closed (h : StM A σ) (ho : okA A) (d : Int32) : ActM E mX8_closed [.ref 53, .int d] σ (clA (aW A) d, A) := actS h (c8_closed (h.to ho) d)
theorem m_holes (h : StM A σ) (ho : okA A) : ActM E mX8_holes [.ref 53] σ (nI (hoS (wn (aW A)) (rr (aW A) allE)), A) := actS h (c8_holes (h.to ho))
theorem m_ringed (h : StM A σ) (ho : okA A) (k : Int32) : ActM E mX8_ringed [.ref 53, .int k] σ (rgA (aW A) k, A) := actS h (c8_ringed (h.to ho) k)
theorem m_meets (h : StM A σ) (ho : okA A) (w : Int32) : ActM E mX8_meets [.ref 53, .int w] σ (meAns (aW A) w, A) := actS h (c8_meets (h.to ho) w)
theorem m_open (h : StM A σ) (ho : okA A) (k d w : Int32) : ActM E mX8_open [.ref 53, .int k, .int d, .int w] σ (opA (aW A) k d w, A) := actS h (c8_open (h.to ho) k d w)
theorem m_stand (h : StM A σ) (ho : okA A) (k d w : Int32) : ActM E mX8_stand [.ref 53, .int k, .int d, .int w] σ (sdA (aW A) k d w, A) := actS h (c8_stand (h.to ho) k d w)
theorem m_swap (h : StM A σ) (ho : okA A) (w : Int32) : ActM E mX8_swap [.ref 53, .int w] σ (swA (aW A) w, A) := actS h (c8_swap (h.to ho) w)
theorem m_drop (h : StM A σ) (ho : okA A) (i : Int32) : ActM E mX8_drop [.ref 53, .int i] σ (drA (aW A) i, A) := actP h (c8_drop (h.to ho) i)
theorem m_never (h : StM A σ) (ho : okA A) : ActM E mX8_never [.ref 53] σ (neS (aW A) (aS A), A) := actS h (c8_never (h.to ho) ho.2.2.2.2.1 h.2.2.1)
theorem m_was (h : StM A σ) (ho : okA A) (k w : Int32) : ActM E mX8_was [.ref 53, .int k, .int w] σ (waA (aW A) (aS A) k w, A) := actP h (c8_was (h.to ho) ho.2.2.2.2.1 h.2.2.1 k w)
theorem m_ask (h : StM A σ) (ho : okA A) (k : Int32) : ActM E mX8_ask [.ref 53, .int k] σ (aqA (aW A) (aS A) k, A) := actP h (c8_ask (h.to ho) ho.2.2.2.2.1 h.2.2.1 k)
theorem m_ages (h : StM A σ) (ho : okA A) (x n w : Int32) : ActM E mX8_ages [.ref 53, .int x, .int n, .int w] σ (agA (aW A) x n w, A) := actS h (c8_ages (h.to ho) x n w)
theorem m_fault (h : StM A σ) (ho : okA A) : ActM E mX8_fault [.ref 53] σ (fltS (at' A) (an A), A) := by
  obtain ⟨v, s, hc, hv, -, hF⟩ := c8_fault (E := E) (h.to ho).1
  exact actS h ⟨v, s, hc, hv, hF.mono (fun c i z => Or.inl (Or.inl z))⟩
end MA
