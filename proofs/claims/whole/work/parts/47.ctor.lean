/-! CONSTRUCTORS: rows over worlds that grow -/
abbrev tz (A : Nat → ClassId) : List (ClassId × FieldType) := [(A 0, .int), (A 1, .boolean), (A 2, .object "CompassMarriage$Ring"), (A 3, .object "CompassMarriage$Sheet")]
def Bs (D : va_G) (A : Nat → ClassId) (U : State) : Prop := va_K D vwCl (tz A) U ∧ va_AO "CompassMarriage$Ring" U ∧ va_AO "CompassMarriage$Sheet" U
theorem Bs.moved {D : va_G} {A : Nat → ClassId} {u U : State} (hvm : u.vm.Alike U.vm) (h : Bs D A u) : Bs D A U := ⟨h.1.moved hvm, h.2.1.moved hvm, h.2.2.moved hvm⟩
theorem ra_one {U : State} {a b : ClassId} {ty : FieldType} (h1 : va_RA U a ty) (h2 : va_RA U b ty) : a = b := by
  cases ty with
  | object C =>
    obtain ⟨_, _, _, _, _, h⟩ := h1
    obtain ⟨_, _, _, _, _, h'⟩ := h2
    exact Option.some.inj (h.symm.trans h')
  | _ => exact Option.some.inj (Eq.trans (Eq.symm h1) h2)
abbrev cI (cA : ClassId) (q N : Nat) : Nat × va_E := (q, .inl (cA, N, .inl (fun _ => 0)))
abbrev cQ (cA : ClassId) (q N : Nat) (f : Nat → Option Nat) : Nat × va_E := (q, .inl (cA, N, .inr (.inr (.inr (.inr f)))))
def rI (M : MI) (mc ms : Nat) : Room := { frames := frM M, cells := mc, slots := ms, locals := loM M }
def ad (u : List Nat) (i : Nat) : Nat := u.getD i 0
/-- a constructor's contract: class ci, fresh fields fs; the world behind it is w at the addresses u; mc cells of ms slots come -/
def Kt (D : va_G) (A : Nat → ClassId) (M : MI) (ci : Nat) (fs : List Value) (w : Nat → List Nat → va_W) (mc ms : Nat) : Prop :=
  ∀ (l : Launch) (h0 sz : Nat), Met l (yM M) (wsM M) (rI M mc ms) (va_Pc [.ref h0] (fun U => U.heap.size = sz ∧ va_P D vwCl [(h0, .inr (ci, fs))] U.heap ∧ Bs D A U)) (va_Qv (fun _ : List Nat => True) (fun u t => va_P D vwCl (w h0 u) t.heap ∧ va_D (va_A [(h0, .inr (ci, fs))] sz) (w h0 u)) (va_A [(h0, .inr (ci, fs))] sz)) mc ms (va_A [(h0, .inr (ci, fs))] sz)
def Ci (D : va_G) (A : Nat → ClassId) (M : MI) (mc ms : Nat) (p : Program) (R : Room) (s : State) (m : MethodId) (args : Array Value) (c : Code) : Prop :=
  p.tables.exec = Jvm.exec ∧ c.code = cM M ∧ c.maxLocals = lM M ∧ s.vm.findClass (oM M) = some m.cls ∧ (∀ w ∈ tb, w.before args s = true) ∧ Bs D A s ∧ (frM M ≤ R.frames ∧ loM M ≤ R.locals ∧ mc ≤ R.cells ∧ ms ≤ R.slots)
theorem va_D1 {h0 : Nat} {e : va_E} {sz : Nat} : va_D (va_A [(h0, e)] sz) [(h0, e)] := by
  refine ⟨fun i j p q hi hj _ => ?_, fun _ _ hk => va_A.in hk⟩
  have h1 : i < 1 := (List.getElem?_eq_some_iff.mp hi).1
  have h2 : j < 1 := (List.getElem?_eq_some_iff.mp hj).1
  omega
theorem Kt.of {D : va_G} {A : Nat → ClassId} {M : MI} {ci : Nat} {fs : List Value} {w : Nat → List Nat → va_W} {mc ms : Nat} (hy : plainName (yM M).cls = true) (hcls : (yM M).cls = oM M) (hnm : (yM M).name = "<init>") (hl1 : 1 ≤ lM M) (ht : tM M = none)
    (h : ∀ (p : Program) (l : Launch) (e : Env) (R : Room) (s : State) (m : MethodId) (args : Array Value) (below : List Frame) (meth : Method) (c : Code) (Q : State → Prop) (h0 : Nat) (A0 : Nat → Prop) (ls : Array Slot),
      Ci D A M mc ms p R s m args c → meth.name = "<init>" → (∀ q, s.heap.size ≤ q → A0 q) →
      (∀ (u : List Nat) (pc : Nat) (ls : Array Slot) (H : Heap) (locs : List Loc), decode (cM M) pc = .ok (.return_, 1) → va_P D vwCl (w h0 u) H → va_D A0 (w h0 u) → va_S A0 s.heap H locs → W p l e R s m args below meth c H locs mc ms Q (F0 m pc ls [])) →
      lv_has ls (lM M) [(0, .ref h0)] → va_P D vwCl [(h0, .inr (ci, fs))] s.heap → va_D A0 [(h0, .inr (ci, fs))] → va_S A0 s.heap s.heap [] → W p l e R s m args below meth c s.heap [] 0 0 Q (F0 m 0 ls [])) : Kt D A M ci fs w mc ms := by
  intro l h0 sz
  refine Met.ofW (cc := cM M) (maxL := lM M) (ret := tM M) hy rfl ?_
  intro p e s m args below meth c s₁ B hml hv
  obtain ⟨rfl, hsz, hP, hB⟩ := hv
  have hx := B.exec
  have hb := B.bytes
  have hr := B.returns
  have hts := atoms_spec (ws := wsM M) B.pre
  have hown : s.vm.findClass (oM M) = some m.cls := by rw [← hcls]; exact findClass_of_methodNamed B.named
  have hlocks := B.notSynchronized
  have hin : meth.name = "<init>" := by rw [← hnm]; exact (name_of_methodNamed B.named B.method).1
  subst hsz
  have hl := lv_entry ([.ref h0]) (n := lM M) hl1
  rw [lg_entry_eq]
  generalize (lg_sl ([.ref h0]) ++ List.replicate (lM M - (lg_sl ([.ref h0])).length) Slot.unset).toArray = ls at hl ⊢
  have hl : lv_has ls (lM M) [(0, .ref h0)] := hl
  refine h p l e (headSpec (wsM M) (rI M mc ms)).room s m _ below meth c _ h0 (va_A [(h0, .inr (ci, fs))] s.heap.size) ls ⟨hx, hb, hml, hown, fun w hw => hts w (List.mem_cons_of_mem _ hw), hB, ⟨Nat.le_refl _, Nat.le_refl _, Nat.le_refl _, Nat.le_refl _⟩⟩ hin (fun q hq => Or.inr hq) ?_ hl hP va_D1 va_S.rf
  intro u pc ls H locs hd hP1 hD1 hS1
  exact W.vret hx hb (by rw [hr, ht]) (fun t ht hW => ⟨⟨u, rfl, trivial, by rw [ht]; exact hP1, hD1⟩, hS1.F ht⟩) hS1.2.2 hd
/-- behind a call on the last cell: the others, and what came of it -/
theorem va_jn {A0 : Nat → Prop} {D : va_G} {cl : List vw_C} {ws w1 : va_W} {x : Nat × va_E} {H H1 : Heap} (hP : va_P D cl (ws ++ [x]) H) (hD : va_D A0 (ws ++ [x])) (hk : ∀ q : Nat, q < H.size → ¬ va_A [x] H.size q → H1[q]? = H[q]?) (hF : ∀ q, va_A [x] H.size q → A0 q) (hP1 : va_P D cl w1 H1) (hD1 : va_D (va_A [x] H.size) w1) : va_P D cl (ws ++ w1) H1 ∧ va_D A0 (ws ++ w1) := by
  have hl : ∀ (k : Nat) (q : Nat × va_E), ws[k]? = some q → (ws ++ [x])[k]? = some q := by
    intro k q hq
    rw [List.getElem?_append_left (List.getElem?_eq_some_iff.mp hq).1]
    exact hq
  have hx : (ws ++ [x])[ws.length]? = some x := by
    rw [List.getElem?_append_right (Nat.le_refl _), Nat.sub_self]
    rfl
  have hw : ∀ (k : Nat) (q : Nat × va_E), ws[k]? = some q → va_at D cl q H ∧ ¬ va_A [x] H.size q.1 := by
    intro k q hq
    refine ⟨hP k q (hl k q hq), ?_⟩
    rintro (⟨i, e', h⟩ | h)
    · have hi : i < 1 := (List.getElem?_eq_some_iff.mp h).1
      have hi : i = 0 := by omega
      subst hi
      have hxe : x = (q.1, e') := Option.some.inj h
      have e1 := hD.1 k ws.length q x (hl k q hq) hx (by rw [hxe])
      have e2 := (List.getElem?_eq_some_iff.mp hq).1
      omega
    · exact absurd ((hP k q (hl k q hq)).lt) (Nat.not_lt.mpr h)
  refine ⟨va_P.app (fun k q hq => (hw k q hq).1.kept (hk _ (hw k q hq).1.lt (hw k q hq).2)) hP1, va_D.app ⟨fun i j a b ha hb e => hD.1 i j a b (hl i a ha) (hl j b hb) e, fun k q hq => hD.2 k q (hl k q hq)⟩ (hD1.weaken (fun _ _ _ h => hF _ h)) ?_⟩
  intro i j a b ha hb e
  refine (hw i a ha).2 ?_
  rw [e]
  exact hD1.2 j b hb
/-- an int is pushed -/
def Pu (cc : ByteArray) (pc pc' : Nat) (v : Int32) : Prop := (∃ n, decode cc pc = .ok (.iconst n, 1) ∧ Int32.ofInt n = v ∧ pc' = pc + 1) ∨ (∃ n, decode cc pc = .ok (.bipush n, 2) ∧ (Int8.ofInt n).toInt32 = v ∧ pc' = pc + 2) ∨ (∃ n, decode cc pc = .ok (.sipush n, 3) ∧ (Int16.ofInt n).toInt32 = v ∧ pc' = pc + 3)
/-- pool entry idx of class own is the final field k of class number ci -/
def FF (own : String) (idx ci k : Nat) (ty : FieldType) : Prop := ∃ (C : String) (T : u_T) (N : Nat) (ty0 : Nat → FieldType), vwCl[ci]? = some (C, T, N) ∧ k < N ∧ (∀ w ∈ u_ws C T N, w ∈ tb) ∧ Cond.fieldLink own idx (T k).1 (T k).2.1 (T k).2.2.1 ∈ tb ∧
  (∀ k, k < N → parseFieldDescriptor (T k).2.2.1 = some (ty0 k)) ∧ (∀ a, a < N → ∀ b, b < N → a ≠ b → (T a).2.1 ≠ (T b).2.1) ∧ (T k).2.2.2 = true ∧ (T k).1 = own ∧ parseFieldDescriptor (T k).2.2.1 = some ty
/-- pool entry idx of class own is class number ci, of n fields, fs when it is new -/
def NW (own : String) (idx ci n : Nat) (fs : List Value) : Prop := ∃ (C : String) (T : u_T) (ty0 : Nat → FieldType), vwCl[ci]? = some (C, T, n) ∧ (∀ w ∈ u_ws C T n, w ∈ tb) ∧ (∀ k, k < n → parseFieldDescriptor (T k).2.2.1 = some (ty0 k)) ∧ Cond.classLink own idx C ∈ tb ∧ Cond.instantiable C n ∈ tb ∧ Cond.initialized C ∈ tb ∧ (∀ j, j < n → defaultValue (ty0 j) = vp_V fs j)
/-- pool entry idx of class own is M's constructor -/
def LK (own : String) (idx : Nat) (M : MI) : Prop := MB M 0 ∧ (yM M).name = "<init>" ∧ Cond.instanceMethod (yM M) ∈ tb ∧ tM M = none ∧ ((∃ host, Cond.methodLinkNest own idx (yM M) host ∈ tb) ∨ Cond.methodLink own idx (yM M) ∈ tb)
section CT
variable {D : va_G} {A : Nat → ClassId} {M : MI} {mc ms : Nat} {p : Program} {l : Launch} {e : Env} {R : Room} {s : State} {m : MethodId} {args : Array Value} {below : List Frame} {meth : Method} {c : Code} {H : Heap} {locs : List Loc} {nc ns : Nat} {Q : State → Prop} {ls : Array Slot} {rest : List Value} {A0 : Nat → Prop} {ws : va_W} {h0 : Nat} {L : List (Nat × Value)}
theorem c_push {cc : ByteArray} {pc pc' : Nat} {v : Int32} (hx : p.tables.exec = Jvm.exec) (hb : c.code = cc) (h : Pu cc pc pc' v) (k : W p l e R s m args below meth c H locs nc ns Q (F0 m pc' ls (.int v :: rest))) : W p l e R s m args below meth c H locs nc ns Q (F0 m pc ls rest) := by
  rcases h with ⟨n, h1, h2, rfl⟩ | ⟨n, h1, h2, rfl⟩ | ⟨n, h1, h2, rfl⟩
  · exact lv_iconst hx hb h1 h2 k
  · exact lv_bipush hx hb h1 h2 k
  · exact lv_sipush hx hb h1 h2 k
theorem w_oi1 : Cond.instanceMethod Lib.objectInit ∈ tb := tb_in 88 (by decide +kernel) (by decide +kernel)
theorem w_oi2 : Cond.code Lib.objectInit ⟨#[0xb1]⟩ 1 none ∈ tb := tb_in 89 (by decide +kernel) (by decide +kernel)
theorem w_aI : Cond.arrayClass .int ∈ tb := tb_in 122 (by decide +kernel) (by decide +kernel)
theorem w_aZ : Cond.arrayClass .boolean ∈ tb := tb_in 892 (by decide +kernel) (by decide +kernel)
theorem c_obj {idx : Nat} (C : Ci D A M mc ms p R s m args c) (hl : lv_has ls (lM M) L) (hL : L[0]? = some (0, .ref h0)) (d0 : decode (cM M) 0 = .ok (.aload_n 0, 1)) (d1 : decode (cM M) 1 = .ok (.invokespecial idx, 3)) (hw : Cond.methodLink (oM M) idx Lib.objectInit ∈ tb) (hf : 1 ≤ frM M) (hlo : 12 ≤ loM M)
    (k : W p l e R s m args below meth c H locs nc ns Q (F0 m 4 ls [])) : W p l e R s m args below meth c H locs nc ns Q (F0 m 0 ls []) := by
  have ht := C.2.2.2.2.1
  refine lv_aload_n C.1 C.2.1 d0 rfl (lv_at hl 0 hL) ?_
  refine W.objInit C.1 C.2.1 C.2.2.2.1 (ht _ hw) (ht _ w_oi1) (ht _ w_oi2) rfl (by rw [C.2.2.1]; exact hl.1) rfl d1 (Nat.le_trans hf C.2.2.2.2.2.2.1) ?_ ?_
  · show 2 * 0 + 0 + 12 ≤ _
    exact Nat.le_trans hlo C.2.2.2.2.2.2.2.1
  · exact k
theorem c_putF {pc idx ci k q0 a : Nat} {fs : List Value} {ty : FieldType} {v : Value} (C : Ci D A M mc ms p R s m args c) (hi : meth.name = "<init>") (hd : decode (cM M) pc = .ok (.putfield idx, 3)) (hf : FF (oM M) idx ci k ty) (hn : narrow ty v = v) (hfit : fits ty v = true) (he : ws[q0]? = some (a, .inr (ci, fs))) (hk : k < fs.length) (hP : va_P D vwCl ws H) (hD : va_D A0 ws) (hS : va_S A0 s.heap H locs)
    (kk : ∀ (H : Heap) (locs : List Loc), va_P D vwCl (ws.set q0 (a, .inr (ci, fs.set k v))) H → va_D A0 (ws.set q0 (a, .inr (ci, fs.set k v))) → va_S A0 s.heap H locs → W p l e R s m args below meth c H locs nc ns Q (F0 m (pc + 3) ls rest)) : W p l e R s m args below meth c H locs nc ns Q (F0 m pc ls (v :: .ref a :: rest)) := by
  obtain ⟨C0, T, N, ty0, h1, h2, h3, h4, h5, h6, h7, h8, h9⟩ := hf
  have ht := C.2.2.2.2.1
  exact va_putF C.1 C.2.1 ht h3 ty0 h5 h6 C.2.2.2.1 C.2.2.2.2.2.1.1 hP hD hS q0 he h1 k h2 (ht _ h4) (fun _ h => h) h7 hi h8 h9 hn hfit hk hd kk
theorem c_putI {pc idx ci k q0 a : Nat} {fs : List Value} {ty : FieldType} {v : Value} (C : Ci D A M mc ms p R s m args c) (hd : decode (cM M) pc = .ok (.putfield idx, 3)) (hf : FP (oM M) idx ci k ty) (hn : narrow ty v = v) (hfit : fits ty v = true) (he : ws[q0]? = some (a, .inr (ci, fs))) (hk : k < fs.length) (hP : va_P D vwCl ws H) (hD : va_D A0 ws) (hS : va_S A0 s.heap H locs)
    (kk : ∀ (H : Heap) (locs : List Loc), va_P D vwCl (ws.set q0 (a, .inr (ci, fs.set k v))) H → va_D A0 (ws.set q0 (a, .inr (ci, fs.set k v))) → va_S A0 s.heap H locs → W p l e R s m args below meth c H locs nc ns Q (F0 m (pc + 3) ls rest)) : W p l e R s m args below meth c H locs nc ns Q (F0 m pc ls (v :: .ref a :: rest)) := by
  obtain ⟨C0, T, N, ty0, h1, h2, h3, h4, h5, h6, h7, h8⟩ := hf
  have ht := C.2.2.2.2.1
  exact va_put C.1 C.2.1 ht h3 ty0 h5 h6 C.2.2.2.1 C.2.2.2.2.2.1.1 hP hD hS q0 he h1 k h2 (ht _ h4) (fun _ h => h) h7 h8 hn hfit hk hd kk
/-- aload_0, a length, newarray, putfield -/
theorem c_arr {pc pc2 ci k idx N nc' ns' : Nat} {n : Int32} {fs : List Value} {ty : FieldType} {atype : ArrayType} (z : Nat) (C : Ci D A M mc ms p R s m args c) (hi : meth.name = "<init>") (hA : ∀ q, s.heap.size ≤ q → A0 q) (hl : lv_has ls (lM M) L) (hL : L[0]? = some (0, .ref h0))
    (d0 : decode (cM M) pc = .ok (.aload_n 0, 1)) (d1 : Pu (cM M) (pc + 1) pc2 n) (d2 : decode (cM M) pc2 = .ok (.newarray atype, 2)) (d3 : decode (cM M) (pc2 + 2) = .ok (.putfield idx, 3)) (hw : Cond.arrayClass (newarray.typeOf atype) ∈ tb) (hz : (tz A)[z]? = some (A z, newarray.typeOf atype)) (hdv : defaultValue (newarray.typeOf atype) = .int 0)
    (hf : FF (oM M) idx ci k ty) (hn : ∀ q, narrow ty (.ref q) = .ref q) (hfit : ∀ q, fits ty (.ref q) = true) (hn0 : ¬ n < 0) (hN : n.toNatClampNeg = N) (hNb : N * componentBytes (newarray.typeOf atype) ≤ 536870912) (he : ws[0]? = some (h0, .inr (ci, fs))) (hk : k < fs.length) (e1 : nc + 1 = nc') (e2 : ns + N = ns') (hc : nc' ≤ mc) (hs : ns' ≤ ms)
    (hP : va_P D vwCl ws H) (hD : va_D A0 ws) (hS : va_S A0 s.heap H locs)
    (kk : ∀ (q : Nat) (H : Heap) (locs : List Loc), va_P D vwCl ((ws ++ [cI (A z) q N]).set 0 (h0, .inr (ci, fs.set k (.ref q)))) H → va_D A0 ((ws ++ [cI (A z) q N]).set 0 (h0, .inr (ci, fs.set k (.ref q)))) → va_S A0 s.heap H locs → W p l e R s m args below meth c H locs nc' ns' Q (F0 m (pc2 + 5) ls [])) : W p l e R s m args below meth c H locs nc ns Q (F0 m pc ls []) := by
  have ht := C.2.2.2.2.1
  subst e1
  subst e2
  refine lv_aload_n C.1 C.2.1 d0 rfl (lv_at hl 0 hL) ?_
  refine c_push C.1 C.2.1 d1 ?_
  refine va_newa (a0 := (N, .inl (fun _ => 0))) C.1 C.2.1 (ht _ hw) rfl C.2.2.2.2.2.1.1 hP hD hS hA (fun cA => ?_) hn0 hN hNb (Nat.le_trans hc C.2.2.2.2.2.2.2.2.1) (Nat.le_trans hs C.2.2.2.2.2.2.2.2.2) d2 (fun q cA H1 hK1 hP1 hD1 hS1 => ?_)
  · rw [hdv]
    rfl
  have hcA : cA = A z := ra_one (hK1.2 4 _ rfl).2 (C.2.2.2.2.2.1.1.2 z _ hz).2
  subst hcA
  have h0l : 0 < ws.length := (List.getElem?_eq_some_iff.mp he).1
  exact c_putF (k := k) C hi d3 hf (hn q) (hfit q) (by rw [List.getElem?_append_left h0l]; exact he) hk hP1 hD1 hS1 (fun H locs a b d => kk q H locs a b d)
/-- aload_0, a length, anewarray, putfield -/
theorem c_arrQ {pc pc2 ci k idx i0 N nc' ns' : Nat} {n : Int32} {fs : List Value} {ty : FieldType} {C0 : String} (z : Nat) (C : Ci D A M mc ms p R s m args c) (hi : meth.name = "<init>") (hA : ∀ q, s.heap.size ≤ q → A0 q) (hl : lv_has ls (lM M) L) (hL : L[0]? = some (0, .ref h0))
    (d0 : decode (cM M) pc = .ok (.aload_n 0, 1)) (d1 : Pu (cM M) (pc + 1) pc2 n) (d2 : decode (cM M) pc2 = .ok (.anewarray i0, 3)) (d3 : decode (cM M) (pc2 + 3) = .ok (.putfield idx, 3)) (hcl : Cond.classLink (oM M) i0 C0 ∈ tb) (hao : va_AO C0 s) (hz : (tz A)[z]? = some (A z, .object C0))
    (hf : FF (oM M) idx ci k ty) (hn : ∀ q, narrow ty (.ref q) = .ref q) (hfit : ∀ q, fits ty (.ref q) = true) (hn0 : ¬ n < 0) (hN : n.toNatClampNeg = N) (hNb : N * 4 ≤ 536870912) (he : ws[0]? = some (h0, .inr (ci, fs))) (hk : k < fs.length) (e1 : nc + 1 = nc') (e2 : ns + N = ns') (hc : nc' ≤ mc) (hs : ns' ≤ ms)
    (hP : va_P D vwCl ws H) (hD : va_D A0 ws) (hS : va_S A0 s.heap H locs)
    (kk : ∀ (q : Nat) (H : Heap) (locs : List Loc), va_P D vwCl ((ws ++ [cQ (A z) q N (fun _ => none)]).set 0 (h0, .inr (ci, fs.set k (.ref q)))) H → va_D A0 ((ws ++ [cQ (A z) q N (fun _ => none)]).set 0 (h0, .inr (ci, fs.set k (.ref q)))) → va_S A0 s.heap H locs → W p l e R s m args below meth c H locs nc' ns' Q (F0 m (pc2 + 6) ls [])) : W p l e R s m args below meth c H locs nc ns Q (F0 m pc ls []) := by
  have ht := C.2.2.2.2.1
  subst e1
  subst e2
  refine lv_aload_n C.1 C.2.1 d0 rfl (lv_at hl 0 hL) ?_
  refine c_push C.1 C.2.1 d1 ?_
  refine va_newq C.1 C.2.1 C.2.2.2.1 (ht _ hcl) hao C.2.2.2.2.2.1.1 hP hD hS hA hn0 hN hNb (Nat.le_trans hc C.2.2.2.2.2.2.2.2.1) (Nat.le_trans hs C.2.2.2.2.2.2.2.2.2) d2 (fun q cA H1 hK1 hP1 hD1 hS1 => ?_)
  have hcA : cA = A z := ra_one (hK1.2 4 _ rfl).2 (C.2.2.2.2.2.1.1.2 z _ hz).2
  subst hcA
  have h0l : 0 < ws.length := (List.getElem?_eq_some_iff.mp he).1
  exact c_putF (k := k) C hi d3 hf (hn q) (hfit q) (by rw [List.getElem?_append_left h0l]; exact he) hk hP1 hD1 hS1 (fun H locs a b d => kk q H locs a b d)
/-- new, dup, invokespecial -/
theorem c_make {pc i0 i1 ci n mc' ms' nc' ns' : Nat} {fs : List Value} {M' : MI} {w : Nat → List Nat → va_W} (C : Ci D A M mc ms p R s m args c) (hA : ∀ q, s.heap.size ≤ q → A0 q) (hl : lv_has ls (lM M) L)
    (d0 : decode (cM M) pc = .ok (.new i0, 3)) (d1 : decode (cM M) (pc + 3) = .ok (.dup, 1)) (d2 : decode (cM M) (pc + 4) = .ok (.invokespecial i1, 3)) (hn : NW (oM M) i0 ci n fs) (hM : LK (oM M) i1 M') (hF : Fit M M') (hK : Kt D A M' ci fs w mc' ms') (hst : (rest.map fun v => v.category).sum ≤ 7)
    (e1 : nc + 1 + mc' = nc') (e2 : ns + n + ms' = ns') (hc : nc' ≤ mc) (hs : ns' ≤ ms) (hP : va_P D vwCl ws H) (hD : va_D A0 ws) (hS : va_S A0 s.heap H locs)
    (kk : ∀ (q : Nat) (u : List Nat) (H : Heap) (locs : List Loc), va_P D vwCl (ws ++ w q u) H → va_D A0 (ws ++ w q u) → va_S A0 s.heap H locs → W p l e R s m args below meth c H locs nc' ns' Q (F0 m (pc + 7) ls (.ref q :: rest))) : W p l e R s m args below meth c H locs nc ns Q (F0 m pc ls rest) := by
  have ht := C.2.2.2.2.1
  subst e1
  subst e2
  obtain ⟨C0, T, ty0, n1, n2, n3, n4, n5, n6, n7⟩ := hn
  have hcR : nc + 1 + mc' ≤ R.cells := Nat.le_trans hc C.2.2.2.2.2.2.2.2.1
  have hsR : ns + n + ms' ≤ R.slots := Nat.le_trans hs C.2.2.2.2.2.2.2.2.2
  refine va_new (ci := ci) (fs := fs) (C := C0) (T := T) (N := n) C.1 C.2.1 ht n2 ty0 n3 C.2.2.2.1 (ht _ n4) (ht _ n5) (ht _ n6) C.2.2.2.2.2.1.1 hP hD hS hA n1 n7 (by omega) (by omega) d0 (fun q H1 hP1 hD1 hS1 => ?_)
  refine lv_dup C.1 C.2.1 d1 rfl ?_
  have hFc : ∀ x, va_A [(q, .inr (ci, fs))] H1.size x → A0 x := by
    rintro x (⟨i, e', h⟩ | h)
    · have hi : i < 1 := (List.getElem?_eq_some_iff.mp h).1
      have hi : i = 0 := by omega
      subst hi
      cases h
      exact hD1.2 ws.length (q, .inr (ci, fs)) (by rw [List.getElem?_append_right (Nat.le_refl _), Nat.sub_self]; rfl)
    · exact hA x (Nat.le_trans hS1.1 h)
  have hPc : va_P D vwCl [(q, .inr (ci, fs))] H1 := fun k x hx => by
    have hi : k < 1 := (List.getElem?_eq_some_iff.mp hx).1
    have hi : k = 0 := by omega
    subst hi
    exact hP1 ws.length x (by rw [List.getElem?_append_right (Nat.le_refl _), Nat.sub_self]; exact hx)
  obtain ⟨⟨m1, m2, m3, m4⟩, m5, m6, m7, m8⟩ := hM
  have hpay : ∀ w ∈ wsM M', ∀ (a' : Array Value) (U : State), s.WarmedH U.vm → w.before a' U = true := by
    intro w hw a' U hW
    rcases List.mem_cons.mp hw with rfl | hw
    · exact tb_warm ht hW _ m1
    · exact tb_warm ht hW _ hw
  have hsig : ∀ sig, parseMethodDescriptor (yM M').desc = some sig → 0 = sig.parameters.length := fun sig h => by
    rw [h] at m4
    exact (Option.some.inj m4).symm
  have hpre : PreS s H1 (va_Pc [.ref q] (fun U => U.heap.size = H1.size ∧ va_P D vwCl [(q, .inr (ci, fs))] U.heap ∧ Bs D A U)) (.ref q :: []) := by
    refine ⟨fun a U g mk z => ⟨z.1, z.2.1, z.2.2.1, Bs.moved (u := U) (U := U.calling g mk a) (Vm.Alike.refl U.vm) z.2.2.2⟩, fun U hU hW => ⟨rfl, by rw [hU], by rw [hU]; exact hPc, C.2.2.2.2.2.1.moved hW.alike⟩⟩
  have hf1 := Nat.le_trans hF.1 C.2.2.2.2.2.2.1
  have hf2 := Nat.le_trans hF.2 C.2.2.2.2.2.2.2.1
  have hcode : Cond.code (yM M') (cM M') (lM M') none ∈ wsM M' := by rw [← m7]; exact List.mem_cons_self
  have hcode2 : (Cond.code (yM M') (cM M') (lM M') none).before args s = true := by rw [← m7]; exact ht _ m1
  have hrun : va_Run p l e R s m args below meth c H1 locs (nc + 1) (ns + n) mc' ms' (F0 m (pc + 4) ls (.ref q :: .ref q :: rest)) (.ref q :: rest) (va_Qv (fun _ : List Nat => True) (fun u t => va_P D vwCl (w q u) t.heap ∧ va_D (va_A [(q, .inr (ci, fs))] H1.size) (w q u)) (va_A [(q, .inr (ci, fs))] H1.size) (Value.ref q :: []).toArray) (va_A [(q, .inr (ci, fs))] H1.size) := by
    have hrm : 2 * (F0 m (pc + 4) ls (.ref q :: .ref q :: rest)).monitorRoom + ((Value.ref q :: rest).map fun v => v.category).sum ≤ 8 := by
      refine lv_room ?_
      show (1 + (rest.map fun v => v.category).sum) ≤ 8
      omega
    rcases m8 with ⟨host, m8⟩ | m8
    · exact va_runIN (As := []) (rest := .ref q :: rest) (Ts := tb) (n := 0) ⟨C.1, C.2.1, C.2.2.1, C.2.2.2.1, ht⟩ (hK l q H1.size) ⟨⟨⟨rfl, rfl, hf1, hf2, hpay, hcode⟩, hcode2, ht _ m2, m3, hsig, ht _ m8⟩, m5, ht _ m6⟩ hpre rfl rfl hl.1 rfl hrm d2 ⟨hcR, hsR⟩
    · exact va_runI (As := []) (rest := .ref q :: rest) (Ts := tb) (n := 0) ⟨C.1, C.2.1, C.2.2.1, C.2.2.2.1, ht⟩ (hK l q H1.size) ⟨⟨rfl, rfl, hf1, hf2, hpay, hcode, hcode2, ht _ m2, m3, hsig, ht _ m8⟩, m5, ht _ m6⟩ hpre rfl rfl hl.1 rfl hrm d2 ⟨hcR, hsR⟩
  refine va_callv hrun hS1 (fun x _ h => hFc x h) hFc (fun u t H2 locs2 ht2 _ _ hB _ hk2 hS2 => ?_)
  obtain ⟨hP2, hD2⟩ := hB
  rw [ht2] at hP2
  obtain ⟨hP3, hD3⟩ := va_jn hP1 hD1 hk2 hFc hP2 hD2
  exact kk q u H2 locs2 hP3 hD3 hS2
/-- aload_0, new, dup, invokespecial, putfield -/
theorem c_fld {pc i0 i1 i2 ci n mc' ms' nc' ns' ci0 k : Nat} {fs fs0 : List Value} {M' : MI} {w : Nat → List Nat → va_W} {ty : FieldType} (C : Ci D A M mc ms p R s m args c) (hi : meth.name = "<init>") (hA : ∀ q, s.heap.size ≤ q → A0 q) (hl : lv_has ls (lM M) L) (hL : L[0]? = some (0, .ref h0))
    (d : decode (cM M) pc = .ok (.aload_n 0, 1)) (d0 : decode (cM M) (pc + 1) = .ok (.new i0, 3)) (d1 : decode (cM M) (pc + 4) = .ok (.dup, 1)) (d2 : decode (cM M) (pc + 5) = .ok (.invokespecial i1, 3)) (d3 : decode (cM M) (pc + 8) = .ok (.putfield i2, 3)) (hn : NW (oM M) i0 ci n fs) (hM : LK (oM M) i1 M') (hF : Fit M M') (hK : Kt D A M' ci fs w mc' ms')
    (hf : FF (oM M) i2 ci0 k ty) (hna : ∀ q, narrow ty (.ref q) = .ref q) (hfit : ∀ q, fits ty (.ref q) = true) (he : ws[0]? = some (h0, .inr (ci0, fs0))) (hk : k < fs0.length)
    (e1 : nc + 1 + mc' = nc') (e2 : ns + n + ms' = ns') (hc : nc' ≤ mc) (hs : ns' ≤ ms) (hP : va_P D vwCl ws H) (hD : va_D A0 ws) (hS : va_S A0 s.heap H locs)
    (kk : ∀ (q : Nat) (u : List Nat) (H : Heap) (locs : List Loc), va_P D vwCl ((ws ++ w q u).set 0 (h0, .inr (ci0, fs0.set k (.ref q)))) H → va_D A0 ((ws ++ w q u).set 0 (h0, .inr (ci0, fs0.set k (.ref q)))) → va_S A0 s.heap H locs → W p l e R s m args below meth c H locs nc' ns' Q (F0 m (pc + 11) ls [])) : W p l e R s m args below meth c H locs nc ns Q (F0 m pc ls []) := by
  refine lv_aload_n C.1 C.2.1 d rfl (lv_at hl 0 hL) ?_
  refine c_make C hA hl d0 d1 d2 hn hM hF hK (by show (1 + 0) ≤ 7; decide) e1 e2 hc hs hP hD hS (fun q u H1 locs1 hP1 hD1 hS1 => ?_)
  have h0l : 0 < ws.length := (List.getElem?_eq_some_iff.mp he).1
  exact c_putF (k := k) C hi d3 hf (hna q) (hfit q) (by rw [List.getElem?_append_left h0l]; exact he) hk hP1 hD1 hS1 (fun H locs a b d => kk q u H locs a b d)
/-- aload_0, getfield, iload_1, new, dup, invokespecial, aastore, iinc, goto -/
theorem c_elem {pc hd i0 i1 i2 ci n mc' ms' nc' ns' ci0 k a j N : Nat} {i v : Int32} {fs fs0 : List Value} {M' : MI} {w : Nat → List Nat → va_W} {f : Nat → Option Nat} {off : Int} {C0 : String} {T0 : u_T} {iN : Nat} (z : Nat) (hiN : i.toNatClampNeg = iN) (C : Ci D A M mc ms p R s m args c) (hA : ∀ q, s.heap.size ≤ q → A0 q) (hl : lv_has ls (lM M) [(0, .ref h0), (1, .int i)]) (h1l : 1 < lM M)
    (d : decode (cM M) pc = .ok (.aload_n 0, 1)) (dg : decode (cM M) (pc + 1) = .ok (.getfield i2, 3)) (dl : decode (cM M) (pc + 4) = .ok (.iload_n 1, 1)) (d0 : decode (cM M) (pc + 5) = .ok (.new i0, 3)) (d1 : decode (cM M) (pc + 8) = .ok (.dup, 1)) (d2 : decode (cM M) (pc + 9) = .ok (.invokespecial i1, 3)) (d3 : decode (cM M) (pc + 12) = .ok (.aastore, 1)) (d4 : decode (cM M) (pc + 13) = .ok (.iinc 1 1, 3)) (d5 : decode (cM M) (pc + 16) = .ok (.goto off, 3)) (hoff : ((pc + 16 : Nat) : Int) + off = (hd : Int))
    (hfl : FL (oM M) i2 ci0 k) (hn : NW (oM M) i0 ci n fs) (hM : LK (oM M) i1 M') (hF : Fit M M') (hK : Kt D A M' ci fs w mc' ms') (hc0 : vwCl[ci]? = some (C0, T0, n)) (hz : (tz A)[z]? = some (A z, .object C0)) (hw0 : ∀ q u, ∃ vs, (w q u)[0]? = some (q, .inr (ci, vs)))
    (he : ws[0]? = some (h0, .inr (ci0, fs0))) (hk : fs0[k]? = some (.ref a)) (hj : ws[j]? = some (a, .inl (A z, N, .inr (.inr (.inr (.inr f)))))) (hin : vp_in i N) (hv : i + 1 = v)
    (e1 : nc + 1 + mc' = nc') (e2 : ns + n + ms' = ns') (hc : nc' ≤ mc) (hs : ns' ≤ ms) (hP : va_P D vwCl ws H) (hD : va_D A0 ws) (hS : va_S A0 s.heap H locs)
    (kk : ∀ (q : Nat) (u : List Nat) (H : Heap) (locs : List Loc) (ls : Array Slot), lv_has ls (lM M) [(0, .ref h0), (1, .int v)] → va_P D vwCl ((ws ++ w q u).set j (a, .inl (A z, N, .inr (.inr (.inr (.inr (va_up f iN (some q)))))))) H → va_D A0 ((ws ++ w q u).set j (a, .inl (A z, N, .inr (.inr (.inr (.inr (va_up f iN (some q)))))))) → va_S A0 s.heap H locs → W p l e R s m args below meth c H locs nc' ns' Q (F0 m hd ls [])) : W p l e R s m args below meth c H locs nc ns Q (F0 m pc ls []) := by
  have ht := C.2.2.2.2.1
  have hKs := C.2.2.2.2.2.1.1
  subst hiN
  obtain ⟨Cg, Tg, Ng, g1, g2, g3, g4⟩ := hfl
  refine lv_aload_n C.1 C.2.1 d rfl (lv_at hl 0 rfl) ?_
  refine va_get (v := .ref a) C.1 C.2.1 ht g3 C.2.2.2.1 hKs hP 0 he g1 k g2 (ht _ g4) (fun _ h => h) hk dg ?_
  refine lv_iload_n C.1 C.2.1 dl rfl (lv_at hl 1 rfl) ?_
  refine c_make C hA hl d0 d1 d2 hn hM hF hK (by show (1 + (1 + 0)) ≤ 7; decide) e1 e2 hc hs hP hD hS (fun q u H1 locs1 hP1 hD1 hS1 => ?_)
  obtain ⟨vs, hw1⟩ := hw0 q u
  have hjl : j < ws.length := (List.getElem?_eq_some_iff.mp hj).1
  refine va_astq (r := (C0, T0, n)) C.1 C.2.1 hKs hP1 hD1 hS1 j z ws.length ci (by rw [List.getElem?_append_left hjl]; exact hj) hz (by rw [List.getElem?_append_right (Nat.le_refl _), Nat.sub_self]; exact hw1) hc0 hin d3 (fun H2 locs2 hP2 hD2 hS2 => ?_)
  refine lv_iinc (v := v) C.1 C.2.1 d4 hl (k := 1) rfl hv h1l rfl (fun ls2 hl2 => ?_)
  refine lv_goto C.1 C.2.1 d5 hoff ?_
  exact kk q u H2 locs2 ls2 (lv_sub hl2 [1, 0] rfl) hP2 hD2 hS2
end CT
section CT2
variable {D : va_G} {A : Nat → ClassId} {M : MI} {mc ms : Nat} {p : Program} {l : Launch} {e : Env} {R : Room} {s : State} {m : MethodId} {args : Array Value} {below : List Frame} {meth : Method} {c : Code} {H : Heap} {locs : List Loc} {nc ns : Nat} {Q : State → Prop} {ls : Array Slot} {A0 : Nat → Prop} {ws : va_W} {h0 : Nat}
theorem c_in {hd pc2 : Nat} {i n : Int32} {off : Int} {tgt : Nat} (C : Ci D A M mc ms p R s m args c) (hl : lv_has ls (lM M) [(0, .ref h0), (1, .int i)]) (dl : decode (cM M) hd = .ok (.iload_n 1, 1)) (dp : Pu (cM M) (hd + 1) pc2 n) (di : decode (cM M) pc2 = .ok (.if_icmp .ge off, 3)) (ht : (pc2 : Int) + off = (tgt : Int)) (hlt : ¬ n ≤ i)
    (k : W p l e R s m args below meth c H locs nc ns Q (F0 m (pc2 + 3) ls [])) : W p l e R s m args below meth c H locs nc ns Q (F0 m hd ls []) := by
  refine lv_iload_n C.1 C.2.1 dl rfl (lv_at hl 1 rfl) ?_
  refine c_push C.1 C.2.1 dp ?_
  exact lv_icmp_ge C.1 C.2.1 di ht (fun q => absurd q hlt) (fun _ => k)
theorem c_out {hd pc2 : Nat} {i n : Int32} {off : Int} {tgt : Nat} (C : Ci D A M mc ms p R s m args c) (hl : lv_has ls (lM M) [(0, .ref h0), (1, .int i)]) (dl : decode (cM M) hd = .ok (.iload_n 1, 1)) (dp : Pu (cM M) (hd + 1) pc2 n) (di : decode (cM M) pc2 = .ok (.if_icmp .ge off, 3)) (ht : (pc2 : Int) + off = (tgt : Int)) (hlt : n ≤ i)
    (k : W p l e R s m args below meth c H locs nc ns Q (F0 m tgt ls [])) : W p l e R s m args below meth c H locs nc ns Q (F0 m hd ls []) := by
  refine lv_iload_n C.1 C.2.1 dl rfl (lv_at hl 1 rfl) ?_
  refine c_push C.1 C.2.1 dp ?_
  exact lv_icmp_ge C.1 C.2.1 di ht (fun _ => k) (fun q => absurd hlt q)
theorem c_start {pc : Nat} {v : Int32} (C : Ci D A M mc ms p R s m args c) (hl : lv_has ls (lM M) [(0, .ref h0)]) (h1l : 1 < lM M) (d0 : Pu (cM M) pc (pc + 1) v) (d1 : decode (cM M) (pc + 1) = .ok (.istore_n 1, 1))
    (k : ∀ ls : Array Slot, lv_has ls (lM M) [(0, .ref h0), (1, .int v)] → W p l e R s m args below meth c H locs nc ns Q (F0 m (pc + 2) ls [])) : W p l e R s m args below meth c H locs nc ns Q (F0 m pc ls []) := by
  refine c_push C.1 C.2.1 d0 ?_
  exact lv_istore_n C.1 C.2.1 d1 rfl hl h1l rfl (fun ls2 hl2 => k ls2 (lv_sub hl2 [1, 0] rfl))
theorem vz_re {cl : List vw_C} {j a n : Nat} {cA : ClassId} {f g : Nat → Option Nat} (hP : va_P D cl ws H) (hD : va_D A0 ws) (hj : ws[j]? = some (a, .inl (cA, n, .inr (.inr (.inr (.inr f)))))) (hfg : ∀ i, i < n → f i = g i) :
    va_P D cl (ws.set j (a, .inl (cA, n, .inr (.inr (.inr (.inr g)))))) H ∧ va_D A0 (ws.set j (a, .inl (cA, n, .inr (.inr (.inr (.inr g)))))) := by
  refine ⟨hP.set hD hj ?_ (fun _ _ => rfl), hD.set hj⟩
  have h : H[a]? = some (vp_cell cA (n, .inr (.inr (.inr (.inr f))))) := hP j _ hj
  show H[a]? = some (vp_cell cA (n, .inr (.inr (.inr (.inr g)))))
  rw [h, vp_cell_q, vp_cell_q]
  unfold arrV
  congr 2
  congr 1
  funext i
  exact congrArg va_rf (hfg i.val i.isLt)
end CT2
