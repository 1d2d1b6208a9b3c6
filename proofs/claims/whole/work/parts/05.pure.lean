/-! THE PURE WORLD: all objects and arrays of the class and of the reference are made once, by the two constructors: a fixed layout of cells;
what changes is a table of ints, Hp. -/
abbrev Hp : Type := Nat → Nat → Int32
def up (σ : Hp) (c i : Nat) (v : Int32) : Hp := fun c' i' => if c' = c ∧ i' = i then v else σ c' i'
abbrev Ly : Type := (Nat × Nat × Nat × Nat) ⊕ (Nat × List (Option Nat))
def lays : List Ly := [
  .inr (7, [some 1, none, none, some 2, some 7, some 12, some 18, some 24, some 29, some 39, some 40, some 44, none]),
  .inl (0, 39, 0, 0),
  .inr (0, [some 3, some 4, some 5, some 6, none]),
  .inl (0, 8, 0, 0),
  .inl (0, 8, 0, 0),
  .inl (0, 8, 0, 0),
  .inl (0, 8, 0, 0),
  .inr (0, [some 8, some 9, some 10, some 11, none]),
  .inl (0, 8, 0, 0),
  .inl (0, 8, 0, 0),
  .inl (0, 8, 0, 0),
  .inl (0, 8, 0, 0),
  .inr (1, [some 13, some 14, some 15, some 16, some 17, none]),
  .inl (0, 8, 0, 0),
  .inl (0, 8, 0, 0),
  .inl (0, 8, 0, 0),
  .inl (0, 8, 0, 0),
  .inl (0, 8, 0, 0),
  .inr (1, [some 19, some 20, some 21, some 22, some 23, none]),
  .inl (0, 8, 0, 0),
  .inl (0, 8, 0, 0),
  .inl (0, 8, 0, 0),
  .inl (0, 8, 0, 0),
  .inl (0, 8, 0, 0),
  .inr (5, [some 25, some 26, some 27, some 28, none]),
  .inl (0, 8, 0, 0),
  .inl (0, 8, 0, 0),
  .inl (0, 8, 0, 0),
  .inl (0, 8, 0, 0),
  .inr (6, [some 30, none]),
  .inl (2, 8, 31, 1),
  .inr (3, [none, none, none, none, none, none, none, none]),
  .inr (3, [none, none, none, none, none, none, none, none]),
  .inr (3, [none, none, none, none, none, none, none, none]),
  .inr (3, [none, none, none, none, none, none, none, none]),
  .inr (3, [none, none, none, none, none, none, none, none]),
  .inr (3, [none, none, none, none, none, none, none, none]),
  .inr (3, [none, none, none, none, none, none, none, none]),
  .inr (3, [none, none, none, none, none, none, none, none]),
  .inr (3, [none, none, none, none, none, none, none, none]),
  .inr (2, [some 41, some 42, some 43, none]),
  .inl (0, 16, 0, 0),
  .inl (0, 16, 0, 0),
  .inl (0, 16, 0, 0),
  .inl (3, 4, 45, 2),
  .inr (4, [some 46, none, none, none]),
  .inl (0, 60, 0, 0),
  .inr (4, [some 48, none, none, none]),
  .inl (0, 60, 0, 0),
  .inr (4, [some 50, none, none, none]),
  .inl (0, 60, 0, 0),
  .inr (4, [some 52, none, none, none]),
  .inl (0, 60, 0, 0),
  .inr (8, [none, some 54, none, some 55, some 56, some 57, some 58, none, some 59, some 60, some 61, some 62, none, some 63, some 64, some 65, some 66, none, some 67, some 68, some 69, some 70, some 71, some 72, none, some 73, some 74, some 75, some 76, some 77, some 78, some 79, some 80, none, some 81, some 82, some 83, some 84, some 85, some 86, some 87, some 88, some 89, some 90, none]),
  .inl (0, 39, 0, 0),
  .inl (0, 9, 0, 0),
  .inl (0, 9, 0, 0),
  .inl (0, 9, 0, 0),
  .inl (0, 9, 0, 0),
  .inl (0, 8, 0, 0),
  .inl (0, 8, 0, 0),
  .inl (0, 8, 0, 0),
  .inl (0, 8, 0, 0),
  .inl (0, 8, 0, 0),
  .inl (0, 8, 0, 0),
  .inl (0, 8, 0, 0),
  .inl (0, 8, 0, 0),
  .inl (0, 8, 0, 0),
  .inl (0, 8, 0, 0),
  .inl (0, 8, 0, 0),
  .inl (0, 8, 0, 0),
  .inl (0, 8, 0, 0),
  .inl (0, 8, 0, 0),
  .inl (0, 160, 0, 0),
  .inl (0, 160, 0, 0),
  .inl (0, 160, 0, 0),
  .inl (0, 160, 0, 0),
  .inl (0, 160, 0, 0),
  .inl (0, 160, 0, 0),
  .inl (0, 20, 0, 0),
  .inl (0, 2, 0, 0),
  .inl (0, 8, 0, 0),
  .inl (0, 8, 0, 0),
  .inl (0, 8, 0, 0),
  .inl (0, 8, 0, 0),
  .inl (0, 200, 0, 0),
  .inl (1, 4, 0, 0),
  .inl (0, 4, 0, 0),
  .inl (0, 4, 0, 0),
  .inl (0, 240, 0, 0),
  .inl (0, 60, 0, 0)]
def nCells : Nat := 91
abbrev Ev : Type := va_G × (Nat → Nat) × (Nat → ClassId) × Nat × (Nat → Int32)
abbrev eD (E : Ev) : va_G := E.1
abbrev eR (E : Ev) : Nat → Nat := E.2.1
abbrev eA (E : Ev) : Nat → ClassId := E.2.2.1
abbrev eL (E : Ev) : Nat := E.2.2.2.1
abbrev eX (E : Ev) : Nat → Int32 := E.2.2.2.2
def cv (E : Ev) (v : Value) : Value := match v with
  | .ref k => .ref (eR E k)
  | v => v
def fv (E : Ev) (σ : Hp) (c j : Nat) (f : Option Nat) : Value := match f with
  | some k => .ref (eR E k)
  | none => .int (σ c j)
def ce (E : Ev) (σ : Hp) (c : Nat) (y : Ly) : va_E := match y with
  | .inl (k, n, b, st) => if k < 2 then .inl (eA E k, n, .inl (σ c)) else .inl (eA E k, n, .inr (.inr (.inr (.inr (fun i => some (eR E (b + st * i)))))))
  | .inr (ci, fs) => .inr (ci, fs.mapIdx (fv E σ c))
def cells (E : Ev) (σ : Hp) : va_W := lays.mapIdx (fun c y => (eR E c, ce E σ c y))
abbrev tys (E : Ev) : List (ClassId × FieldType) := [(eA E 0, .int), (eA E 1, .boolean), (eA E 2, .object "CompassMarriage$Ring"), (eA E 3, .object "CompassMarriage$Sheet")]
def stX (j : Nat) : Int32 := match j with
  | 0 => 1
  | 2 => -1
  | _ => 0
def stY (j : Nat) : Int32 := match j with
  | 1 => 1
  | 3 => -1
  | _ => 0
/-- which cells may be written -/
def Ad (E : Ev) : Nat → Prop := fun q => ∃ c, c < nCells ∧ q = eR E c
/-- what is only read: the two static rows, the script -/
def St (E : Ev) (U : State) (H : Heap) : Prop :=
  va_Z "CompassMarriage" "STEP_X" "[I" (.ref (eR E 100)) (Ad E) U H ∧ va_T .int (eR E 100) 4 (fun j => .int (stX j)) (Ad E) U H ∧
  va_Z "CompassMarriage" "STEP_Y" "[I" (.ref (eR E 101)) (Ad E) U H ∧ va_T .int (eR E 101) 4 (fun j => .int (stY j)) (Ad E) U H ∧
  va_X (eR E 102) (eL E) (eX E) U H ∧ eR E 102 < H.size ∧ ¬ Ad E (eR E 102)
def Wd (E : Ev) (U : State) (H : Heap) (σ : Hp) : Prop := va_P (eD E) vwCl (cells E σ) H ∧ va_K (eD E) vwCl (tys E) U ∧ va_D (Ad E) (cells E σ) ∧ St E U H
theorem St.moved {E : Ev} {u U : State} {H : Heap} (hvm : u.vm.Alike U.vm) (h : St E u H) : St E U H :=
  ⟨h.1.moved hvm, h.2.1.moved hvm, h.2.2.1.moved hvm, h.2.2.2.1.moved hvm, h.2.2.2.2.1.moved hvm, h.2.2.2.2.2⟩
theorem St.kept {E : Ev} {U : State} {H H1 : Heap} (h : St E U H) (hz : H.size ≤ H1.size) (hq : ∀ a : Nat, a < H.size → ¬ Ad E a → H1[a]? = H[a]?) : St E U H1 :=
  ⟨h.1.kept hq, h.2.1.kept hq, h.2.2.1.kept hq, h.2.2.2.1.kept hq, h.2.2.2.2.1.kept (hq _ h.2.2.2.2.2.1 h.2.2.2.2.2.2), Nat.lt_of_lt_of_le h.2.2.2.2.2.1 hz, h.2.2.2.2.2.2⟩
theorem Wd.moved {E : Ev} {u U : State} {H : Heap} {σ : Hp} (hvm : u.vm.Alike U.vm) (h : Wd E u H σ) : Wd E U H σ := ⟨h.1, h.2.1.moved hvm, h.2.2.1, h.2.2.2.moved hvm⟩
/-! methods: own class, name, bytes, locals, answer, frames, words -/
abbrev MI : Type := String × MethodName × ByteArray × Nat × Option FieldType × Nat × Nat
abbrev oM (M : MI) : String := M.1
abbrev yM (M : MI) : MethodName := M.2.1
abbrev cM (M : MI) : ByteArray := M.2.2.1
abbrev lM (M : MI) : Nat := M.2.2.2.1
abbrev tM (M : MI) : Option FieldType := M.2.2.2.2.1
abbrev frM (M : MI) : Nat := M.2.2.2.2.2.1
abbrev loM (M : MI) : Nat := M.2.2.2.2.2.2
def rmM (M : MI) : Room := { frames := frM M, cells := 0, slots := 0, locals := loM M }
def nestw (w : Cond) : Bool := match w with
  | .fieldLinkNest _ _ _ _ _ _ => true
  | .methodLinkNest _ _ _ _ => true
  | _ => false
def okw (w : Cond) : Bool := goodWord w || nestw w
def tb : List Cond := lw_tbl.filter okw
def wsM (M : MI) : List Cond := Cond.code (yM M) (cM M) (lM M) (tM M) :: tb
theorem tb_in {w : Cond} (i : Nat) (h : lw_tbl[i]? = some w) (hw : okw w = true) : w ∈ tb := List.mem_filter.mpr ⟨List.mem_of_getElem? h, hw⟩
theorem tb_sub {w : Cond} (h : w ∈ tb) : w ∈ lw_tbl := (List.mem_filter.mp h).1
theorem ok_warm {w : Cond} (hw : okw w = true) {args a' : Array Value} {s U : State} (hW : s.WarmedH U.vm) (h : w.before args s = true) : w.before a' U = true := by
  unfold okw at hw
  rcases Bool.or_eq_true _ _ ▸ hw with h1 | h1
  · exact word_at hW (good_of_word h1) h
  · cases w with
    | fieldLinkNest a i b n d hh => exact va_Nw.use rfl (va_Nw.warmF hW (va_Nw.of rfl h))
    | methodLinkNest a i x hh => exact va_Nw.use rfl (va_Nw.warmM hW (va_Nw.of rfl h))
    | _ => cases h1
theorem tb_warm {args a' : Array Value} {s U : State} (hts : ∀ w ∈ tb, w.before args s = true) (hW : s.WarmedH U.vm) : ∀ w ∈ tb, w.before a' U = true := fun w h => ok_warm (List.mem_filter.mp h).2 hW (hts w h)
def QQ (E : Ev) (r : Option Value) (σ' : Hp) : Array Value → State → Outcome → State → Prop := fun _ st oc t => oc = .returned (r.map (cv E)) ∧ Wd E t t.heap σ' ∧ va_F (Ad E) st t
/-- a method's contract: with these arguments, in this world, it returns r and leaves that world -/
def Call (E : Ev) (M : MI) (as : List Value) (σ : Hp) (r : Option Value) (σ' : Hp) : Prop :=
  ∀ l : Launch, Met l (yM M) (wsM M) (rmM M) (va_Pc (as.map (cv E)) (fun U => Wd E U U.heap σ)) (QQ E r σ') 0 0 (Ad E)
def cL (E : Ev) (L : List (Nat × Value)) : List (Nat × Value) := L.map (fun q => (q.1, cv E q.2))
abbrev cS (E : Ev) (S : List Value) : List Value := S.map (cv E)
def Hs (E : Ev) (s : State) (H : Heap) (locs : List Loc) (σ : Hp) : Prop := va_P (eD E) vwCl (cells E σ) H ∧ va_D (Ad E) (cells E σ) ∧ va_S (Ad E) s.heap H locs
def isRet (M : MI) (pc : Nat) (r : Option Value) : Prop := match r with
  | some (.int v) => decode (cM M) pc = .ok (.ireturn, 1) ∧ ∀ ty, tM M = some ty → narrow ty (.int v) = .int v
  | some (.long _) => decode (cM M) pc = .ok (.lreturn, 1)
  | none => decode (cM M) pc = .ok (.return_, 1)
  | _ => False
def Cx (E : Ev) (M : MI) (out : Option Value × Hp) (p : Program) (l : Launch) (e : Env) (R : Room) (s : State) (m : MethodId) (args : Array Value) (below : List Frame) (meth : Method) (c : Code) (nc ns : Nat) (Q : State → Prop) : Prop :=
  p.tables.exec = Jvm.exec ∧ c.code = cM M ∧ c.maxLocals = lM M ∧ s.vm.findClass (oM M) = some m.cls ∧ (∀ w ∈ tb, w.before args s = true) ∧ va_K (eD E) vwCl (tys E) s ∧ St E s s.heap ∧
  (frM M ≤ R.frames ∧ loM M ≤ R.locals ∧ nc ≤ R.cells ∧ ns ≤ R.slots) ∧
  ∀ (pc : Nat) (ls : Array Slot) (H : Heap) (locs : List Loc), isRet M pc out.1 → Hs E s H locs out.2 → W p l e R s m args below meth c H locs nc ns Q (F0 m pc ls (out.1.map (cv E)).toList)
/-- from this pc, with these locals, this stack, in this world, the method returns out -/
def Runs (E : Ev) (M : MI) (pc : Nat) (L : List (Nat × Value)) (S : List Value) (σ : Hp) (out : Option Value × Hp) : Prop :=
  ∀ (p : Program) (l : Launch) (e : Env) (R : Room) (s : State) (m : MethodId) (args : Array Value) (below : List Frame) (meth : Method) (c : Code) (nc ns : Nat) (Q : State → Prop),
    Cx E M out p l e R s m args below meth c nc ns Q → ∀ (ls : Array Slot) (H : Heap) (locs : List Loc), lv_has ls (lM M) (cL E L) → Hs E s H locs σ → W p l e R s m args below meth c H locs nc ns Q (F0 m pc ls (cS E S))
theorem cv_cat (E : Ev) (v : Value) : (cv E v).category = v.category := by cases v <;> rfl
theorem cL_at {E : Ev} {L : List (Nat × Value)} {k : Nat} {q : Nat × Value} (h : L[k]? = some q) : (cL E L)[k]? = some (q.1, cv E q.2) := by
  unfold cL
  rw [List.getElem?_map, h]
  rfl
theorem cL_st1 {E : Ev} {L L' : List (Nat × Value)} {i : Nat} {v : Value} (h : (i, v) :: L.filter (fun q => !(q.1 == i) && !(q.1 + 1 == i && q.2.category == 2)) = L') :
    (i, cv E v) :: (cL E L).filter (fun q => !(q.1 == i) && !(q.1 + 1 == i && q.2.category == 2)) = cL E L' := by
  subst h
  unfold cL
  rw [List.filter_map, List.map_cons]
  congr 1
  congr 1
  congr 1
  funext q
  simp only [Function.comp, cv_cat]
theorem cL_st2 {E : Ev} {L L' : List (Nat × Value)} {i : Nat} {v : Value} (h : (i, v) :: L.filter (fun q => !(q.1 == i) && (!(q.1 == i + 1) && !(q.1 + 1 == i && q.2.category == 2))) = L') :
    (i, cv E v) :: (cL E L).filter (fun q => !(q.1 == i) && (!(q.1 == i + 1) && !(q.1 + 1 == i && q.2.category == 2))) = cL E L' := by
  subst h
  unfold cL
  rw [List.filter_map, List.map_cons]
  congr 1
  congr 1
  congr 1
  funext q
  simp only [Function.comp, cv_cat]
theorem cS_cat (E : Ev) (S : List Value) : ((cS E S).map fun v => v.category).sum = (S.map fun v => v.category).sum := by
  rw [List.map_map]
  congr 1
  congr 1
  funext v
  exact cv_cat E v
theorem cells_at {E : Ev} {σ : Hp} {c : Nat} {y : Ly} (h : lays[c]? = some y) : (cells E σ)[c]? = some (eR E c, ce E σ c y) := by
  unfold cells
  rw [List.getElem?_mapIdx, h]
  rfl
theorem cells_F {E : Ev} {σ : Hp} {c ci k : Nat} {fs : List (Option Nat)} {v : Int32} (h : lays[c]? = some (.inr (ci, fs))) (hk : fs[k]? = some none) :
    (cells E σ).set c (eR E c, .inr (ci, (fs.mapIdx (fv E σ c)).set k (.int v))) = cells E (up σ c k v) := by
  apply List.ext_getElem?
  intro i
  by_cases hi : i = c
  · subst hi
    have hl : i < (cells E σ).length := by unfold cells; rw [List.length_mapIdx]; exact (List.getElem?_eq_some_iff.mp h).1
    rw [List.getElem?_set_self hl, cells_at h]
    congr 2
    show Sum.inr _ = Sum.inr _
    congr 2
    apply List.ext_getElem?
    intro j
    by_cases hj : j = k
    · subst hj
      have hl2 : j < (fs.mapIdx (fv E σ i)).length := by rw [List.length_mapIdx]; exact (List.getElem?_eq_some_iff.mp hk).1
      rw [List.getElem?_set_self hl2, List.getElem?_mapIdx, hk]
      simp [fv, up]
    · rw [List.getElem?_set_ne (Ne.symm hj), List.getElem?_mapIdx, List.getElem?_mapIdx]
      cases hf : fs[j]? with
      | none => rfl
      | some f =>
        cases f with
        | none => simp [fv, up, hj]
        | some q => rfl
  · rw [List.getElem?_set_ne (Ne.symm hi)]
    unfold cells
    rw [List.getElem?_mapIdx, List.getElem?_mapIdx]
    cases hy : lays[i]? with
    | none => rfl
    | some y =>
      have e : (fun j => up σ c k v i j) = σ i := by funext j; simp [up, hi]
      have e2 : up σ c k v i = σ i := e
      cases y with
      | inl a => simp [ce, e2]
      | inr a =>
        simp only [Option.map_some, ce]
        congr 3
        congr 1
        congr 1
        funext j f
        cases f with
        | none => simp [fv, e2]
        | some q => rfl
theorem cells_A {E : Ev} {σ : Hp} {c k n b st i : Nat} {v : Int32} (h : lays[c]? = some (.inl (k, n, b, st))) (hk : k < 2) :
    (cells E σ).set c (eR E c, .inl (eA E k, n, .inl (upd (σ c) i v))) = cells E (up σ c i v) := by
  apply List.ext_getElem?
  intro j
  by_cases hj : j = c
  · subst hj
    have hl : j < (cells E σ).length := by unfold cells; rw [List.length_mapIdx]; exact (List.getElem?_eq_some_iff.mp h).1
    rw [List.getElem?_set_self hl, cells_at h]
    have e : up σ j i v j = upd (σ j) i v := by funext x; simp [up, upd]
    simp [ce, hk, e]
  · rw [List.getElem?_set_ne (Ne.symm hj)]
    unfold cells
    rw [List.getElem?_mapIdx, List.getElem?_mapIdx]
    cases hy : lays[j]? with
    | none => rfl
    | some y =>
      have e2 : up σ c i v j = σ j := by funext x; simp [up, hj]
      cases y with
      | inl a => simp [ce, e2]
      | inr a =>
        simp only [Option.map_some, ce]
        congr 3
        congr 1
        congr 1
        funext x f
        cases f with
        | none => simp [fv, e2]
        | some q => rfl
/-- a whole row written anew (arraycopy) -/
def upR (σ : Hp) (c : Nat) (f : Nat → Int32) : Hp := fun c' i' => if c' = c then f i' else σ c' i'
theorem cells_R {E : Ev} {σ : Hp} {c k n b st : Nat} {f : Nat → Int32} (h : lays[c]? = some (.inl (k, n, b, st))) (hk : k < 2) :
    (cells E σ).set c (eR E c, .inl (eA E k, n, .inl f)) = cells E (upR σ c f) := by
  apply List.ext_getElem?
  intro j
  by_cases hj : j = c
  · subst hj
    have hl : j < (cells E σ).length := by unfold cells; rw [List.length_mapIdx]; exact (List.getElem?_eq_some_iff.mp h).1
    rw [List.getElem?_set_self hl, cells_at h]
    have e : upR σ j f j = f := by funext x; simp [upR]
    simp [ce, hk, e]
  · rw [List.getElem?_set_ne (Ne.symm hj)]
    unfold cells
    rw [List.getElem?_mapIdx, List.getElem?_mapIdx]
    cases hy : lays[j]? with
    | none => rfl
    | some y =>
      have e2 : upR σ c f j = σ j := by funext x; simp [upR, hj]
      cases y with
      | inl a => simp [ce, e2]
      | inr a =>
        simp only [Option.map_some, ce]
        congr 3
        congr 1
        congr 1
        funext x q
        cases q with
        | none => simp [fv, e2]
        | some q => rfl
theorem lg_len (E : Ev) (as : List Value) : (lg_sl (as.map (cv E))).length = (lg_sl as).length := by
  unfold lg_sl
  induction as with
  | nil => rfl
  | cons a as ih =>
    simp only [List.map_cons, List.flatMap_cons, List.length_append, ih, cv_cat]
    congr 1
    split <;> rfl
theorem cL_args (E : Ev) (as : List Value) : ∀ (k : Nat), lv_args k (as.map (cv E)) = cL E (lv_args k as) := by
  induction as with
  | nil => intro k; rfl
  | cons a as ih =>
    intro k
    simp only [List.map_cons, lv_args, ih, cL, cv_cat]
/-- a method's contract out of its run -/
theorem Call.of {E : Ev} {M : MI} {as : List Value} {σ σ' : Hp} {r : Option Value} (hy : plainName (yM M).cls = true) (hcls : (yM M).cls = oM M) (hn : (lg_sl as).length ≤ lM M)
    (hty : (∃ v, r = some (.int v) ∧ ∃ ty, tM M = some ty) ∨ (∃ v, r = some (.long v) ∧ tM M = some .long) ∨ (r = none ∧ tM M = none))
    (h : Runs E M 0 (lv_args 0 as) [] σ (r, σ')) : Call E M as σ r σ' := by
  intro l
  refine Met.ofW (cc := cM M) (maxL := lM M) (ret := tM M) hy rfl ?_
  intro p e s m args below meth c s₁ B hml hv
  obtain ⟨rfl, hP, hK, hD, hSt⟩ := hv
  have hx := B.exec
  have hb := B.bytes
  have hr := B.returns
  have hts := atoms_spec (ws := wsM M) B.pre
  have hown : s.vm.findClass (oM M) = some m.cls := by rw [← hcls]; exact findClass_of_methodNamed B.named
  have hlocks := B.notSynchronized
  have e1 := lg_len E as
  have hl := lv_entry (as.map (cv E)) (n := lM M) (by rw [e1]; exact hn)
  rw [lg_entry_eq]
  generalize (lg_sl (as.map (cv E)) ++ List.replicate (lM M - (lg_sl (as.map (cv E))).length) Slot.unset).toArray = ls at hl ⊢
  have e2 := cL_args E as
  rw [e2 0] at hl
  refine h p l e (headSpec (wsM M) (rmM M)).room s m _ below meth c 0 0 _ ⟨hx, hb, hml, hown, fun w hw => hts w (List.mem_cons_of_mem _ hw), hK, hSt, ⟨Nat.le_refl _, Nat.le_refl _, Nat.le_refl _, Nat.le_refl _⟩, ?_⟩ ls s.heap [] hl ⟨hP, hD, va_S.rf⟩
  intro pc ls H locs hret hH
  have hq : ∀ (o : Option Value), o = r.map (cv E) → ∀ t : State, t.heap = H → s.WarmedH t.vm → QQ E r σ' (as.map (cv E)).toArray s (.returned o) t := by
    intro o ho t ht hW
    refine ⟨by rw [ho], ⟨by rw [ht]; exact hH.1, hK.moved hW.alike, hH.2.1, ?_⟩, hH.2.2.F ht⟩
    rw [ht]
    exact (hSt.moved hW.alike).kept hH.2.2.1 (fun a h1 h2 => hH.2.2.2.1 a h1 h2)
  rcases hty with ⟨v, rfl, ty, hty⟩ | ⟨v, rfl, hty⟩ | ⟨rfl, hty⟩
  · exact W.zret (ty := ty) hx hb (by rw [hr, hty]) (hret.2 ty hty) (hq _ rfl) hH.2.2.2.2 hret.1
  · exact W.lret hx hb (by rw [hr, hty]) (hq _ rfl) hH.2.2.2.2 hret
  · exact W.vret hx hb (by rw [hr, hty]) (hq _ rfl) hH.2.2.2.2 hret
section RUNS
variable {E : Ev} {M : MI} {pc : Nat} {L : List (Nat × Value)} {S : List Value} {σ : Hp} {out : Option Value × Hp}
/-- fewer listed locals -/
theorem r_sub {L' : List (Nat × Value)} (ks : List Nat) (hl : lv_pick L ks = L') (k : Runs E M pc L' S σ out) : Runs E M pc L S σ out := by
  intro p l e R s m args below meth c nc ns Q C ls H locs h hH
  refine k p l e R s m args below meth c nc ns Q C ls H locs (lv_sub h ks ?_) hH
  rw [← hl]
  unfold lv_pick cL
  rw [List.map_filterMap]
  congr 1
  funext q
  rw [List.getElem?_map]
theorem r_ret (h : isRet M pc out.1) (hs : S = out.1.toList) (hσ : σ = out.2) : Runs E M pc L S σ out := by
  intro p l e R s m args below meth c nc ns Q C ls H locs _ hH
  subst hs
  subst hσ
  have h0 := C.2.2.2.2.2.2.2.2 pc ls H locs h hH
  have e : (out.1.map (cv E)).toList = cS E out.1.toList := by cases out.1 <;> rfl
  rw [e] at h0
  exact h0

theorem r_iconst {n : Int} {v : Int32} (hd : decode (cM M) pc = .ok (.iconst n, 1)) (hv : Int32.ofInt n = v) (k : Runs E M (pc + 1) L (.int v :: S) σ out) : Runs E M pc L S σ out := by
  intro p l e R s m args below meth c nc ns Q C ls H locs hl hH
  exact lv_iconst C.1 C.2.1 hd hv (k p l e R s m args below meth c nc ns Q C ls H locs hl hH)
theorem r_bipush {n : Int} {v : Int32} (hd : decode (cM M) pc = .ok (.bipush n, 2)) (hv : (Int8.ofInt n).toInt32 = v) (k : Runs E M (pc + 2) L (.int v :: S) σ out) : Runs E M pc L S σ out := by
  intro p l e R s m args below meth c nc ns Q C ls H locs hl hH
  exact lv_bipush C.1 C.2.1 hd hv (k p l e R s m args below meth c nc ns Q C ls H locs hl hH)
theorem r_sipush {n : Int} {v : Int32} (hd : decode (cM M) pc = .ok (.sipush n, 3)) (hv : (Int16.ofInt n).toInt32 = v) (k : Runs E M (pc + 3) L (.int v :: S) σ out) : Runs E M pc L S σ out := by
  intro p l e R s m args below meth c nc ns Q C ls H locs hl hH
  exact lv_sipush C.1 C.2.1 hd hv (k p l e R s m args below meth c nc ns Q C ls H locs hl hH)
theorem r_lconst {n : Fin 2} {v : Int64} (hd : decode (cM M) pc = .ok (.lconst n, 1)) (hv : Int64.ofNat (n : Nat) = v) (k : Runs E M (pc + 1) L (.long v :: S) σ out) : Runs E M pc L S σ out := by
  intro p l e R s m args below meth c nc ns Q C ls H locs hl hH
  exact lv_lconst C.1 C.2.1 hd hv (k p l e R s m args below meth c nc ns Q C ls H locs hl hH)
theorem r_ldc {i : Nat} {v : Int32} (hd : decode (cM M) pc = .ok (.ldc i, 2)) (hw : Cond.constant (oM M) i v ∈ tb) (k : Runs E M (pc + 2) L (.int v :: S) σ out) : Runs E M pc L S σ out := by
  intro p l e R s m args below meth c nc ns Q C ls H locs hl hH
  exact lv_ldc C.1 C.2.1 C.2.2.2.1 (C.2.2.2.2.1 _ hw) hd (k p l e R s m args below meth c nc ns Q C ls H locs hl hH)
theorem r_ldc2 {i : Nat} {v : Int64} (hd : decode (cM M) pc = .ok (.ldc2_w i, 3)) (hw : Cond.constantLong (oM M) i v ∈ tb) (k : Runs E M (pc + 3) L (.long v :: S) σ out) : Runs E M pc L S σ out := by
  intro p l e R s m args below meth c nc ns Q C ls H locs hl hH
  exact lv_ldc2 C.1 C.2.1 C.2.2.2.1 (C.2.2.2.2.1 _ hw) hd (k p l e R s m args below meth c nc ns Q C ls H locs hl hH)
theorem r_ldcw {i : Nat} {v : Int32} (hd : decode (cM M) pc = .ok (.ldc_w i, 3)) (hw : Cond.constant (oM M) i v ∈ tb) (k : Runs E M (pc + 3) L (.int v :: S) σ out) : Runs E M pc L S σ out := by
  intro p l e R s m args below meth c nc ns Q C ls H locs hl hH
  intro T hT X
  obtain ⟨t, a, b⟩ := k p l e R s m args below meth c nc ns Q C ls H locs hl hH T hT X
  exact ⟨t, va_ldcwI X C.1 C.2.2.2.1 (C.2.2.2.2.1 _ hw) (g := F0 m pc ls (cS E S)) rfl (by rw [C.2.1]; exact hd) t a, b⟩
theorem r_iload_n {n : Fin 4} {i : Nat} {x : Int32} (j : Nat) (hd : decode (cM M) pc = .ok (.iload_n n, 1)) (hi : (n : Nat) = i) (hk : L[j]? = some (i, .int x)) (k : Runs E M (pc + 1) L (.int x :: S) σ out) : Runs E M pc L S σ out := by
  intro p l e R s m args below meth c nc ns Q C ls H locs hl hH
  exact lv_iload_n C.1 C.2.1 hd hi (lv_at hl j (cL_at hk)) (k p l e R s m args below meth c nc ns Q C ls H locs hl hH)
theorem r_iload {i : Nat} {x : Int32} (j : Nat) (hd : decode (cM M) pc = .ok (.iload i, 2)) (hk : L[j]? = some (i, .int x)) (k : Runs E M (pc + 2) L (.int x :: S) σ out) : Runs E M pc L S σ out := by
  intro p l e R s m args below meth c nc ns Q C ls H locs hl hH
  exact lv_iload C.1 C.2.1 hd (lv_at hl j (cL_at hk)) (k p l e R s m args below meth c nc ns Q C ls H locs hl hH)
theorem r_lload_n {n : Fin 4} {i : Nat} {x : Int64} (j : Nat) (hd : decode (cM M) pc = .ok (.lload_n n, 1)) (hi : (n : Nat) = i) (hk : L[j]? = some (i, .long x)) (k : Runs E M (pc + 1) L (.long x :: S) σ out) : Runs E M pc L S σ out := by
  intro p l e R s m args below meth c nc ns Q C ls H locs hl hH
  exact lv_lload_n C.1 C.2.1 hd hi (lv_at hl j (cL_at hk)) (k p l e R s m args below meth c nc ns Q C ls H locs hl hH)
theorem r_lload {i : Nat} {x : Int64} (j : Nat) (hd : decode (cM M) pc = .ok (.lload i, 2)) (hk : L[j]? = some (i, .long x)) (k : Runs E M (pc + 2) L (.long x :: S) σ out) : Runs E M pc L S σ out := by
  intro p l e R s m args below meth c nc ns Q C ls H locs hl hH
  exact lv_lload C.1 C.2.1 hd (lv_at hl j (cL_at hk)) (k p l e R s m args below meth c nc ns Q C ls H locs hl hH)
theorem r_aload_n {n : Fin 4} {i : Nat} {x : Nat} (j : Nat) (hd : decode (cM M) pc = .ok (.aload_n n, 1)) (hi : (n : Nat) = i) (hk : L[j]? = some (i, .ref x)) (k : Runs E M (pc + 1) L (.ref x :: S) σ out) : Runs E M pc L S σ out := by
  intro p l e R s m args below meth c nc ns Q C ls H locs hl hH
  exact lv_aload_n C.1 C.2.1 hd hi (lv_at hl j (cL_at hk)) (k p l e R s m args below meth c nc ns Q C ls H locs hl hH)
theorem r_aload {i : Nat} {x : Nat} (j : Nat) (hd : decode (cM M) pc = .ok (.aload i, 2)) (hk : L[j]? = some (i, .ref x)) (k : Runs E M (pc + 2) L (.ref x :: S) σ out) : Runs E M pc L S σ out := by
  intro p l e R s m args below meth c nc ns Q C ls H locs hl hH
  exact lv_aload C.1 C.2.1 hd (lv_at hl j (cL_at hk)) (k p l e R s m args below meth c nc ns Q C ls H locs hl hH)
theorem r_istore_n {n : Fin 4} {i : Nat} {x : Int32} {L' : List (Nat × Value)} (hd : decode (cM M) pc = .ok (.istore_n n, 1)) (hi : (n : Nat) = i) (hn : i < lM M) (hL : (i, Value.int x) :: L.filter (fun q => !(q.1 == i) && !(q.1 + 1 == i && q.2.category == 2)) = L') (k : Runs E M (pc + 1) L' S σ out) : Runs E M pc L (.int x :: S) σ out := by
  intro p l e R s m args below meth c nc ns Q C ls H locs hl hH
  exact lv_istore_n C.1 C.2.1 hd hi hl hn (cL_st1 hL) (fun ls hl => k p l e R s m args below meth c nc ns Q C ls H locs hl hH)
theorem r_istore {i : Nat} {x : Int32} {L' : List (Nat × Value)} (hd : decode (cM M) pc = .ok (.istore i, 2)) (hn : i < lM M) (hL : (i, Value.int x) :: L.filter (fun q => !(q.1 == i) && !(q.1 + 1 == i && q.2.category == 2)) = L') (k : Runs E M (pc + 2) L' S σ out) : Runs E M pc L (.int x :: S) σ out := by
  intro p l e R s m args below meth c nc ns Q C ls H locs hl hH
  exact lv_istore C.1 C.2.1 hd hl hn (cL_st1 hL) (fun ls hl => k p l e R s m args below meth c nc ns Q C ls H locs hl hH)
theorem r_lstore_n {n : Fin 4} {i : Nat} {x : Int64} {L' : List (Nat × Value)} (hd : decode (cM M) pc = .ok (.lstore_n n, 1)) (hi : (n : Nat) = i) (hn : i + 1 < lM M) (hL : (i, Value.long x) :: L.filter (fun q => !(q.1 == i) && (!(q.1 == i + 1) && !(q.1 + 1 == i && q.2.category == 2))) = L') (k : Runs E M (pc + 1) L' S σ out) : Runs E M pc L (.long x :: S) σ out := by
  intro p l e R s m args below meth c nc ns Q C ls H locs hl hH
  exact lv_lstore_n C.1 C.2.1 hd hi hl hn (cL_st2 hL) (fun ls hl => k p l e R s m args below meth c nc ns Q C ls H locs hl hH)
theorem r_lstore {i : Nat} {x : Int64} {L' : List (Nat × Value)} (hd : decode (cM M) pc = .ok (.lstore i, 2)) (hn : i + 1 < lM M) (hL : (i, Value.long x) :: L.filter (fun q => !(q.1 == i) && (!(q.1 == i + 1) && !(q.1 + 1 == i && q.2.category == 2))) = L') (k : Runs E M (pc + 2) L' S σ out) : Runs E M pc L (.long x :: S) σ out := by
  intro p l e R s m args below meth c nc ns Q C ls H locs hl hH
  exact lv_lstore C.1 C.2.1 hd hl hn (cL_st2 hL) (fun ls hl => k p l e R s m args below meth c nc ns Q C ls H locs hl hH)
theorem r_astore_n {n : Fin 4} {i : Nat} {x : Nat} {L' : List (Nat × Value)} (hd : decode (cM M) pc = .ok (.astore_n n, 1)) (hi : (n : Nat) = i) (hn : i < lM M) (hL : (i, Value.ref x) :: L.filter (fun q => !(q.1 == i) && !(q.1 + 1 == i && q.2.category == 2)) = L') (k : Runs E M (pc + 1) L' S σ out) : Runs E M pc L (.ref x :: S) σ out := by
  intro p l e R s m args below meth c nc ns Q C ls H locs hl hH
  exact lv_astore_n C.1 C.2.1 hd hi hl hn (cL_st1 hL) (fun ls hl => k p l e R s m args below meth c nc ns Q C ls H locs hl hH)
theorem r_astore {i : Nat} {x : Nat} {L' : List (Nat × Value)} (hd : decode (cM M) pc = .ok (.astore i, 2)) (hn : i < lM M) (hL : (i, Value.ref x) :: L.filter (fun q => !(q.1 == i) && !(q.1 + 1 == i && q.2.category == 2)) = L') (k : Runs E M (pc + 2) L' S σ out) : Runs E M pc L (.ref x :: S) σ out := by
  intro p l e R s m args below meth c nc ns Q C ls H locs hl hH
  exact lv_astore C.1 C.2.1 hd hl hn (cL_st1 hL) (fun ls hl => k p l e R s m args below meth c nc ns Q C ls H locs hl hH)
theorem r_iinc {i : Nat} {n : Int} {x v : Int32} {L' : List (Nat × Value)} (j : Nat) (hd : decode (cM M) pc = .ok (.iinc i n, 3)) (hk : L[j]? = some (i, .int x)) (hv : x + Int32.ofInt n = v) (hn : i < lM M) (hL : (i, Value.int v) :: L.filter (fun q => !(q.1 == i) && !(q.1 + 1 == i && q.2.category == 2)) = L') (k : Runs E M (pc + 3) L' S σ out) : Runs E M pc L S σ out := by
  intro p l e R s m args below meth c nc ns Q C ls H locs hl hH
  exact lv_iinc C.1 C.2.1 hd hl (cL_at hk) hv hn (cL_st1 hL) (fun ls hl => k p l e R s m args below meth c nc ns Q C ls H locs hl hH)
theorem r_iadd {x y : Int32} (hd : decode (cM M) pc = .ok (.iadd, 1)) (k : Runs E M (pc + 1) L (.int (x + y) :: S) σ out) : Runs E M pc L (.int y :: .int x :: S) σ out := by
  intro p l e R s m args below meth c nc ns Q C ls H locs hl hH
  exact lv_iadd C.1 C.2.1 hd (k p l e R s m args below meth c nc ns Q C ls H locs hl hH)
theorem r_isub {x y : Int32} (hd : decode (cM M) pc = .ok (.isub, 1)) (k : Runs E M (pc + 1) L (.int (x - y) :: S) σ out) : Runs E M pc L (.int y :: .int x :: S) σ out := by
  intro p l e R s m args below meth c nc ns Q C ls H locs hl hH
  exact lv_isub C.1 C.2.1 hd (k p l e R s m args below meth c nc ns Q C ls H locs hl hH)
theorem r_imul {x y : Int32} (hd : decode (cM M) pc = .ok (.imul, 1)) (k : Runs E M (pc + 1) L (.int (x * y) :: S) σ out) : Runs E M pc L (.int y :: .int x :: S) σ out := by
  intro p l e R s m args below meth c nc ns Q C ls H locs hl hH
  exact lv_imul C.1 C.2.1 hd (k p l e R s m args below meth c nc ns Q C ls H locs hl hH)
theorem r_iand {x y : Int32} (hd : decode (cM M) pc = .ok (.iand, 1)) (k : Runs E M (pc + 1) L (.int (x &&& y) :: S) σ out) : Runs E M pc L (.int y :: .int x :: S) σ out := by
  intro p l e R s m args below meth c nc ns Q C ls H locs hl hH
  exact lv_iand C.1 C.2.1 hd (k p l e R s m args below meth c nc ns Q C ls H locs hl hH)
theorem r_ior {x y : Int32} (hd : decode (cM M) pc = .ok (.ior, 1)) (k : Runs E M (pc + 1) L (.int (x ||| y) :: S) σ out) : Runs E M pc L (.int y :: .int x :: S) σ out := by
  intro p l e R s m args below meth c nc ns Q C ls H locs hl hH
  exact lv_ior C.1 C.2.1 hd (k p l e R s m args below meth c nc ns Q C ls H locs hl hH)
theorem r_ixor {x y : Int32} (hd : decode (cM M) pc = .ok (.ixor, 1)) (k : Runs E M (pc + 1) L (.int (x ^^^ y) :: S) σ out) : Runs E M pc L (.int y :: .int x :: S) σ out := by
  intro p l e R s m args below meth c nc ns Q C ls H locs hl hH
  exact lv_ixor C.1 C.2.1 hd (k p l e R s m args below meth c nc ns Q C ls H locs hl hH)
theorem r_ladd {x y : Int64} (hd : decode (cM M) pc = .ok (.ladd, 1)) (k : Runs E M (pc + 1) L (.long (x + y) :: S) σ out) : Runs E M pc L (.long y :: .long x :: S) σ out := by
  intro p l e R s m args below meth c nc ns Q C ls H locs hl hH
  exact lv_ladd C.1 C.2.1 hd (k p l e R s m args below meth c nc ns Q C ls H locs hl hH)
theorem r_lsub {x y : Int64} (hd : decode (cM M) pc = .ok (.lsub, 1)) (k : Runs E M (pc + 1) L (.long (x - y) :: S) σ out) : Runs E M pc L (.long y :: .long x :: S) σ out := by
  intro p l e R s m args below meth c nc ns Q C ls H locs hl hH
  exact lv_lsub C.1 C.2.1 hd (k p l e R s m args below meth c nc ns Q C ls H locs hl hH)
theorem r_lmul {x y : Int64} (hd : decode (cM M) pc = .ok (.lmul, 1)) (k : Runs E M (pc + 1) L (.long (x * y) :: S) σ out) : Runs E M pc L (.long y :: .long x :: S) σ out := by
  intro p l e R s m args below meth c nc ns Q C ls H locs hl hH
  exact lv_lmul C.1 C.2.1 hd (k p l e R s m args below meth c nc ns Q C ls H locs hl hH)
theorem r_land {x y : Int64} (hd : decode (cM M) pc = .ok (.land, 1)) (k : Runs E M (pc + 1) L (.long (x &&& y) :: S) σ out) : Runs E M pc L (.long y :: .long x :: S) σ out := by
  intro p l e R s m args below meth c nc ns Q C ls H locs hl hH
  exact lv_land C.1 C.2.1 hd (k p l e R s m args below meth c nc ns Q C ls H locs hl hH)
theorem r_ishl {x y : Int32} (hd : decode (cM M) pc = .ok (.ishl, 1)) (k : Runs E M (pc + 1) L (.int (x <<< (y &&& 31)) :: S) σ out) : Runs E M pc L (.int y :: .int x :: S) σ out := by
  intro p l e R s m args below meth c nc ns Q C ls H locs hl hH
  exact lv_ishl C.1 C.2.1 hd (k p l e R s m args below meth c nc ns Q C ls H locs hl hH)
theorem r_ishr {x y : Int32} (hd : decode (cM M) pc = .ok (.ishr, 1)) (k : Runs E M (pc + 1) L (.int (x >>> (y &&& 31)) :: S) σ out) : Runs E M pc L (.int y :: .int x :: S) σ out := by
  intro p l e R s m args below meth c nc ns Q C ls H locs hl hH
  exact lv_ishr C.1 C.2.1 hd (k p l e R s m args below meth c nc ns Q C ls H locs hl hH)
theorem r_idiv {x y : Int32} (hd : decode (cM M) pc = .ok (.idiv, 1)) (hne : ¬ y = 0) (k : Runs E M (pc + 1) L (.int (x / y) :: S) σ out) : Runs E M pc L (.int y :: .int x :: S) σ out := by
  intro p l e R s m args below meth c nc ns Q C ls H locs hl hH
  exact lv_idiv C.1 C.2.1 hd hne (k p l e R s m args below meth c nc ns Q C ls H locs hl hH)
theorem r_irem {x y : Int32} (hd : decode (cM M) pc = .ok (.irem, 1)) (hne : ¬ y = 0) (k : Runs E M (pc + 1) L (.int (x - x / y * y) :: S) σ out) : Runs E M pc L (.int y :: .int x :: S) σ out := by
  intro p l e R s m args below meth c nc ns Q C ls H locs hl hH
  exact lv_irem C.1 C.2.1 hd hne (k p l e R s m args below meth c nc ns Q C ls H locs hl hH)
theorem r_ldiv {x y : Int64} (hd : decode (cM M) pc = .ok (.ldiv, 1)) (hne : ¬ y = 0) (k : Runs E M (pc + 1) L (.long (x / y) :: S) σ out) : Runs E M pc L (.long y :: .long x :: S) σ out := by
  intro p l e R s m args below meth c nc ns Q C ls H locs hl hH
  exact lv_ldiv C.1 C.2.1 hd hne (k p l e R s m args below meth c nc ns Q C ls H locs hl hH)
theorem r_lrem {x y : Int64} (hd : decode (cM M) pc = .ok (.lrem, 1)) (hne : ¬ y = 0) (k : Runs E M (pc + 1) L (.long (x - x / y * y) :: S) σ out) : Runs E M pc L (.long y :: .long x :: S) σ out := by
  intro p l e R s m args below meth c nc ns Q C ls H locs hl hH
  exact lv_lrem C.1 C.2.1 hd hne (k p l e R s m args below meth c nc ns Q C ls H locs hl hH)
theorem r_iushr {x y : Int32} (hd : decode (cM M) pc = .ok (.iushr, 1)) (k : Runs E M (pc + 1) L (.int ((x.toUInt32 >>> (y.toUInt32 &&& Int32.toUInt32 31)).toInt32) :: S) σ out) : Runs E M pc L (.int y :: .int x :: S) σ out := by
  intro p l e R s m args below meth c nc ns Q C ls H locs hl hH
  exact lv_iushr C.1 C.2.1 hd rfl (k p l e R s m args below meth c nc ns Q C ls H locs hl hH)
theorem r_lshl {x : Int64} {y : Int32} (hd : decode (cM M) pc = .ok (.lshl, 1)) (k : Runs E M (pc + 1) L (.long (x <<< (y.toInt64 &&& 63)) :: S) σ out) : Runs E M pc L (.int y :: .long x :: S) σ out := by
  intro p l e R s m args below meth c nc ns Q C ls H locs hl hH
  exact lv_lshl C.1 C.2.1 hd rfl (k p l e R s m args below meth c nc ns Q C ls H locs hl hH)
theorem r_lshr {x : Int64} {y : Int32} (hd : decode (cM M) pc = .ok (.lshr, 1)) (k : Runs E M (pc + 1) L (.long (x >>> (y.toInt64 &&& 63)) :: S) σ out) : Runs E M pc L (.int y :: .long x :: S) σ out := by
  intro p l e R s m args below meth c nc ns Q C ls H locs hl hH
  exact lv_lshr C.1 C.2.1 hd rfl (k p l e R s m args below meth c nc ns Q C ls H locs hl hH)
theorem r_i2l {x : Int32} (hd : decode (cM M) pc = .ok (.i2l, 1)) (k : Runs E M (pc + 1) L (.long x.toInt64 :: S) σ out) : Runs E M pc L (.int x :: S) σ out := by
  intro p l e R s m args below meth c nc ns Q C ls H locs hl hH
  exact lv_i2l C.1 C.2.1 hd rfl (k p l e R s m args below meth c nc ns Q C ls H locs hl hH)
theorem r_i2b {x : Int32} (hd : decode (cM M) pc = .ok (.i2b, 1)) (k : Runs E M (pc + 1) L (.int x.toInt8.toInt32 :: S) σ out) : Runs E M pc L (.int x :: S) σ out := by
  intro p l e R s m args below meth c nc ns Q C ls H locs hl hH
  exact lv_i2b C.1 C.2.1 hd rfl (k p l e R s m args below meth c nc ns Q C ls H locs hl hH)
theorem r_i2s {x : Int32} (hd : decode (cM M) pc = .ok (.i2s, 1)) (k : Runs E M (pc + 1) L (.int x.toInt16.toInt32 :: S) σ out) : Runs E M pc L (.int x :: S) σ out := by
  intro p l e R s m args below meth c nc ns Q C ls H locs hl hH
  exact lv_i2s C.1 C.2.1 hd rfl (k p l e R s m args below meth c nc ns Q C ls H locs hl hH)
theorem r_lcmp {x y : Int64} (hd : decode (cM M) pc = .ok (.lcmp, 1)) (k : Runs E M (pc + 1) L (.int (lg_cmp x y) :: S) σ out) : Runs E M pc L (.long y :: .long x :: S) σ out := by
  intro p l e R s m args below meth c nc ns Q C ls H locs hl hH
  exact W.lcmp C.1 C.2.1 hd (k p l e R s m args below meth c nc ns Q C ls H locs hl hH)
theorem r_dup {v : Value} (hd : decode (cM M) pc = .ok (.dup, 1)) (hc : v.category = 1) (k : Runs E M (pc + 1) L (v :: v :: S) σ out) : Runs E M pc L (v :: S) σ out := by
  intro p l e R s m args below meth c nc ns Q C ls H locs hl hH
  exact lv_dup C.1 C.2.1 hd ((cv_cat E v).trans hc) (k p l e R s m args below meth c nc ns Q C ls H locs hl hH)
theorem r_pop {v : Value} (hd : decode (cM M) pc = .ok (.pop, 1)) (hc : v.category = 1) (k : Runs E M (pc + 1) L S σ out) : Runs E M pc L (v :: S) σ out := by
  intro p l e R s m args below meth c nc ns Q C ls H locs hl hH
  exact lv_pop C.1 C.2.1 hd ((cv_cat E v).trans hc) (k p l e R s m args below meth c nc ns Q C ls H locs hl hH)
theorem r_dup2 {v u : Value} (hd : decode (cM M) pc = .ok (.dup2, 1)) (hc : v.category = 1) (hc2 : u.category = 1) (k : Runs E M (pc + 1) L (v :: u :: v :: u :: S) σ out) : Runs E M pc L (v :: u :: S) σ out := by
  intro p l e R s m args below meth c nc ns Q C ls H locs hl hH
  exact lv_dup2_11 C.1 C.2.1 hd ((cv_cat E v).trans hc) ((cv_cat E u).trans hc2) (k p l e R s m args below meth c nc ns Q C ls H locs hl hH)
theorem r_if_eq {x : Int32} {off : Int} {tgt : Nat} (hd : decode (cM M) pc = .ok (.ifCond .eq off, 3)) (ht : (pc : Int) + off = (tgt : Int)) (kt : x = 0 → Runs E M tgt L S σ out) (kf : ¬ x = 0 → Runs E M (pc + 3) L S σ out) : Runs E M pc L (.int x :: S) σ out := by
  intro p l e R s m args below meth c nc ns Q C ls H locs hl hH
  exact lv_if_eq C.1 C.2.1 hd ht (fun q => kt q p l e R s m args below meth c nc ns Q C ls H locs hl hH) (fun q => kf q p l e R s m args below meth c nc ns Q C ls H locs hl hH)
theorem r_icmp_eq {x y : Int32} {off : Int} {tgt : Nat} (hd : decode (cM M) pc = .ok (.if_icmp .eq off, 3)) (ht : (pc : Int) + off = (tgt : Int)) (kt : x = y → Runs E M tgt L S σ out) (kf : ¬ x = y → Runs E M (pc + 3) L S σ out) : Runs E M pc L (.int y :: .int x :: S) σ out := by
  intro p l e R s m args below meth c nc ns Q C ls H locs hl hH
  exact lv_icmp_eq C.1 C.2.1 hd ht (fun q => kt q p l e R s m args below meth c nc ns Q C ls H locs hl hH) (fun q => kf q p l e R s m args below meth c nc ns Q C ls H locs hl hH)
theorem r_if_ne {x : Int32} {off : Int} {tgt : Nat} (hd : decode (cM M) pc = .ok (.ifCond .ne off, 3)) (ht : (pc : Int) + off = (tgt : Int)) (kt : ¬ x = 0 → Runs E M tgt L S σ out) (kf : x = 0 → Runs E M (pc + 3) L S σ out) : Runs E M pc L (.int x :: S) σ out := by
  intro p l e R s m args below meth c nc ns Q C ls H locs hl hH
  exact lv_if_ne C.1 C.2.1 hd ht (fun q => kt q p l e R s m args below meth c nc ns Q C ls H locs hl hH) (fun q => kf q p l e R s m args below meth c nc ns Q C ls H locs hl hH)
theorem r_icmp_ne {x y : Int32} {off : Int} {tgt : Nat} (hd : decode (cM M) pc = .ok (.if_icmp .ne off, 3)) (ht : (pc : Int) + off = (tgt : Int)) (kt : ¬ x = y → Runs E M tgt L S σ out) (kf : x = y → Runs E M (pc + 3) L S σ out) : Runs E M pc L (.int y :: .int x :: S) σ out := by
  intro p l e R s m args below meth c nc ns Q C ls H locs hl hH
  exact lv_icmp_ne C.1 C.2.1 hd ht (fun q => kt q p l e R s m args below meth c nc ns Q C ls H locs hl hH) (fun q => kf q p l e R s m args below meth c nc ns Q C ls H locs hl hH)
theorem r_if_lt {x : Int32} {off : Int} {tgt : Nat} (hd : decode (cM M) pc = .ok (.ifCond .lt off, 3)) (ht : (pc : Int) + off = (tgt : Int)) (kt : x < 0 → Runs E M tgt L S σ out) (kf : ¬ x < 0 → Runs E M (pc + 3) L S σ out) : Runs E M pc L (.int x :: S) σ out := by
  intro p l e R s m args below meth c nc ns Q C ls H locs hl hH
  exact lv_if_lt C.1 C.2.1 hd ht (fun q => kt q p l e R s m args below meth c nc ns Q C ls H locs hl hH) (fun q => kf q p l e R s m args below meth c nc ns Q C ls H locs hl hH)
theorem r_icmp_lt {x y : Int32} {off : Int} {tgt : Nat} (hd : decode (cM M) pc = .ok (.if_icmp .lt off, 3)) (ht : (pc : Int) + off = (tgt : Int)) (kt : x < y → Runs E M tgt L S σ out) (kf : ¬ x < y → Runs E M (pc + 3) L S σ out) : Runs E M pc L (.int y :: .int x :: S) σ out := by
  intro p l e R s m args below meth c nc ns Q C ls H locs hl hH
  exact lv_icmp_lt C.1 C.2.1 hd ht (fun q => kt q p l e R s m args below meth c nc ns Q C ls H locs hl hH) (fun q => kf q p l e R s m args below meth c nc ns Q C ls H locs hl hH)
theorem r_if_ge {x : Int32} {off : Int} {tgt : Nat} (hd : decode (cM M) pc = .ok (.ifCond .ge off, 3)) (ht : (pc : Int) + off = (tgt : Int)) (kt : 0 ≤ x → Runs E M tgt L S σ out) (kf : ¬ 0 ≤ x → Runs E M (pc + 3) L S σ out) : Runs E M pc L (.int x :: S) σ out := by
  intro p l e R s m args below meth c nc ns Q C ls H locs hl hH
  exact lv_if_ge C.1 C.2.1 hd ht (fun q => kt q p l e R s m args below meth c nc ns Q C ls H locs hl hH) (fun q => kf q p l e R s m args below meth c nc ns Q C ls H locs hl hH)
theorem r_icmp_ge {x y : Int32} {off : Int} {tgt : Nat} (hd : decode (cM M) pc = .ok (.if_icmp .ge off, 3)) (ht : (pc : Int) + off = (tgt : Int)) (kt : y ≤ x → Runs E M tgt L S σ out) (kf : ¬ y ≤ x → Runs E M (pc + 3) L S σ out) : Runs E M pc L (.int y :: .int x :: S) σ out := by
  intro p l e R s m args below meth c nc ns Q C ls H locs hl hH
  exact lv_icmp_ge C.1 C.2.1 hd ht (fun q => kt q p l e R s m args below meth c nc ns Q C ls H locs hl hH) (fun q => kf q p l e R s m args below meth c nc ns Q C ls H locs hl hH)
theorem r_if_gt {x : Int32} {off : Int} {tgt : Nat} (hd : decode (cM M) pc = .ok (.ifCond .gt off, 3)) (ht : (pc : Int) + off = (tgt : Int)) (kt : 0 < x → Runs E M tgt L S σ out) (kf : ¬ 0 < x → Runs E M (pc + 3) L S σ out) : Runs E M pc L (.int x :: S) σ out := by
  intro p l e R s m args below meth c nc ns Q C ls H locs hl hH
  exact lv_if_gt C.1 C.2.1 hd ht (fun q => kt q p l e R s m args below meth c nc ns Q C ls H locs hl hH) (fun q => kf q p l e R s m args below meth c nc ns Q C ls H locs hl hH)
theorem r_icmp_gt {x y : Int32} {off : Int} {tgt : Nat} (hd : decode (cM M) pc = .ok (.if_icmp .gt off, 3)) (ht : (pc : Int) + off = (tgt : Int)) (kt : y < x → Runs E M tgt L S σ out) (kf : ¬ y < x → Runs E M (pc + 3) L S σ out) : Runs E M pc L (.int y :: .int x :: S) σ out := by
  intro p l e R s m args below meth c nc ns Q C ls H locs hl hH
  exact lv_icmp_gt C.1 C.2.1 hd ht (fun q => kt q p l e R s m args below meth c nc ns Q C ls H locs hl hH) (fun q => kf q p l e R s m args below meth c nc ns Q C ls H locs hl hH)
theorem r_if_le {x : Int32} {off : Int} {tgt : Nat} (hd : decode (cM M) pc = .ok (.ifCond .le off, 3)) (ht : (pc : Int) + off = (tgt : Int)) (kt : x ≤ 0 → Runs E M tgt L S σ out) (kf : ¬ x ≤ 0 → Runs E M (pc + 3) L S σ out) : Runs E M pc L (.int x :: S) σ out := by
  intro p l e R s m args below meth c nc ns Q C ls H locs hl hH
  exact lv_if_le C.1 C.2.1 hd ht (fun q => kt q p l e R s m args below meth c nc ns Q C ls H locs hl hH) (fun q => kf q p l e R s m args below meth c nc ns Q C ls H locs hl hH)
theorem r_icmp_le {x y : Int32} {off : Int} {tgt : Nat} (hd : decode (cM M) pc = .ok (.if_icmp .le off, 3)) (ht : (pc : Int) + off = (tgt : Int)) (kt : x ≤ y → Runs E M tgt L S σ out) (kf : ¬ x ≤ y → Runs E M (pc + 3) L S σ out) : Runs E M pc L (.int y :: .int x :: S) σ out := by
  intro p l e R s m args below meth c nc ns Q C ls H locs hl hH
  exact lv_icmp_le C.1 C.2.1 hd ht (fun q => kt q p l e R s m args below meth c nc ns Q C ls H locs hl hH) (fun q => kf q p l e R s m args below meth c nc ns Q C ls H locs hl hH)
theorem r_goto {off : Int} {tgt : Nat} (hd : decode (cM M) pc = .ok (.goto off, 3)) (ht : (pc : Int) + off = (tgt : Int)) (k : Runs E M tgt L S σ out) : Runs E M pc L S σ out := by
  intro p l e R s m args below meth c nc ns Q C ls H locs hl hH
  exact lv_goto C.1 C.2.1 hd ht (k p l e R s m args below meth c nc ns Q C ls H locs hl hH)
theorem r_tout {dflt lo hi : Int} {offs : Array Int} {len : Nat} {x : Int32} {tgt : Nat} (hd : decode (cM M) pc = .ok (.tableswitch dflt lo hi offs, len)) (h : x.toInt < lo ∨ hi < x.toInt) (ht : (pc : Int) + dflt = (tgt : Int)) (k : Runs E M tgt L S σ out) : Runs E M pc L (.int x :: S) σ out := by
  intro p l e R s m args below meth c nc ns Q C ls H locs hl hH
  exact lv_tableOut C.1 C.2.1 hd h ht (k p l e R s m args below meth c nc ns Q C ls H locs hl hH)
theorem r_tin {dflt lo hi : Int} {offs : Array Int} {len : Nat} {x : Int32} {tgt : Nat} (v : Int) {off : Int} (hd : decode (cM M) pc = .ok (.tableswitch dflt lo hi offs, len)) (hx : x.toInt = v) (h1 : ¬ v < lo) (h2 : ¬ hi < v) (ho : offs[(v - lo).toNat]? = some off) (ht : (pc : Int) + off = (tgt : Int)) (k : Runs E M tgt L S σ out) : Runs E M pc L (.int x :: S) σ out := by
  intro p l e R s m args below meth c nc ns Q C ls H locs hl hH
  exact lv_tableIn C.1 C.2.1 hd (by rw [hx]; exact h1) (by rw [hx]; exact h2) (by rw [hx]; exact ho) ht (k p l e R s m args below meth c nc ns Q C ls H locs hl hH)
/-- pool entry 'idx' of class 'own' is field k of class number ci -/
def FL (own : String) (idx ci k : Nat) : Prop := ∃ (C : String) (T : u_T) (N : Nat), vwCl[ci]? = some (C, T, N) ∧ k < N ∧ (∀ w ∈ u_ws C T N, w ∈ tb) ∧ Cond.fieldLink own idx (T k).1 (T k).2.1 (T k).2.2.1 ∈ tb
def FP (own : String) (idx ci k : Nat) (ty : FieldType) : Prop := ∃ (C : String) (T : u_T) (N : Nat) (ty0 : Nat → FieldType), vwCl[ci]? = some (C, T, N) ∧ k < N ∧ (∀ w ∈ u_ws C T N, w ∈ tb) ∧ Cond.fieldLink own idx (T k).1 (T k).2.1 (T k).2.2.1 ∈ tb ∧
  (∀ k, k < N → parseFieldDescriptor (T k).2.2.1 = some (ty0 k)) ∧ (∀ a, a < N → ∀ b, b < N → a ≠ b → (T a).2.1 ≠ (T b).2.1) ∧ (T k).2.2.2 = false ∧ parseFieldDescriptor (T k).2.2.1 = some ty
theorem r_getI {c' ci k0 idx : Nat} {fs : List (Option Nat)} (hd : decode (cM M) pc = .ok (.getfield idx, 3)) (hf : FL (oM M) idx ci k0) (hy : lays[c']? = some (.inr (ci, fs))) (hk : fs[k0]? = some none) {v : Int32} (hv : σ c' k0 = v) (k : Runs E M (pc + 3) L (.int v :: S) σ out) : Runs E M pc L (.ref c' :: S) σ out := by
  intro p l e R s m args below meth c nc ns Q C ls H locs hl hH
  obtain ⟨C0, T, N, h1, h2, h3, h4⟩ := hf
  exact va_get (v := .int v) C.1 C.2.1 C.2.2.2.2.1 h3 C.2.2.2.1 C.2.2.2.2.2.1 hH.1 c' (cells_at hy) h1 k0 h2 (C.2.2.2.2.1 _ h4) (fun _ h => h) (by rw [List.getElem?_mapIdx, hk]; simp [fv, hv]) hd (k p l e R s m args below meth c nc ns Q C ls H locs hl hH)
theorem r_getR {c' ci k0 idx q : Nat} {fs : List (Option Nat)} (hd : decode (cM M) pc = .ok (.getfield idx, 3)) (hf : FL (oM M) idx ci k0) (hy : lays[c']? = some (.inr (ci, fs))) (hk : fs[k0]? = some (some q)) (k : Runs E M (pc + 3) L (.ref q :: S) σ out) : Runs E M pc L (.ref c' :: S) σ out := by
  intro p l e R s m args below meth c nc ns Q C ls H locs hl hH
  obtain ⟨C0, T, N, h1, h2, h3, h4⟩ := hf
  exact va_get (v := .ref (eR E q)) C.1 C.2.1 C.2.2.2.2.1 h3 C.2.2.2.1 C.2.2.2.2.2.1 hH.1 c' (cells_at hy) h1 k0 h2 (C.2.2.2.2.1 _ h4) (fun _ h => h) (by rw [List.getElem?_mapIdx, hk]; rfl) hd (k p l e R s m args below meth c nc ns Q C ls H locs hl hH)
theorem r_put {c' ci k0 idx : Nat} {fs : List (Option Nat)} {ty : FieldType} {v : Int32} (hd : decode (cM M) pc = .ok (.putfield idx, 3)) (hf : FP (oM M) idx ci k0 ty) (hy : lays[c']? = some (.inr (ci, fs))) (hk : fs[k0]? = some none) (hn : narrow ty (.int v) = .int v) (hfit : fits ty (.int v) = true) (k : Runs E M (pc + 3) L S (up σ c' k0 v) out) : Runs E M pc L (.int v :: .ref c' :: S) σ out := by
  intro p l e R s m args below meth c nc ns Q C ls H locs hl hH
  obtain ⟨C0, T, N, ty0, h1, h2, h3, h4, h5, h6, h7, h8⟩ := hf
  refine va_put (v := .int v) C.1 C.2.1 C.2.2.2.2.1 h3 ty0 h5 h6 C.2.2.2.1 C.2.2.2.2.2.1 hH.1 hH.2.1 hH.2.2 c' (cells_at hy) h1 k0 h2 (C.2.2.2.2.1 _ h4) (fun _ h => h) h7 h8 hn hfit (by rw [List.length_mapIdx]; exact (List.getElem?_eq_some_iff.mp hk).1) hd (fun H1 locs1 hP hD hS => ?_)
  rw [cells_F hy hk] at hP hD
  exact k p l e R s m args below meth c nc ns Q C ls H1 locs1 hl ⟨hP, hD, hS⟩
theorem r_iald {c' n b st : Nat} {i : Int32} (hd : decode (cM M) pc = .ok (.iaload, 1)) (hy : lays[c']? = some (.inl (0, n, b, st))) (hin : vp_in i n) (k : Runs E M (pc + 1) L (.int (σ c' i.toNatClampNeg) :: S) σ out) : Runs E M pc L (.int i :: .ref c' :: S) σ out := by
  intro p l e R s m args below meth c nc ns Q C ls H locs hl hH
  exact va_iald (cA := eA E 0) C.1 C.2.1 C.2.2.2.2.2.1 hH.1 c' 0 (cells_at hy) rfl hin hd (k p l e R s m args below meth c nc ns Q C ls H locs hl hH)
theorem r_zald {c' n b st : Nat} {i : Int32} (hd : decode (cM M) pc = .ok (.baload, 1)) (hy : lays[c']? = some (.inl (1, n, b, st))) (hin : vp_in i n) (k : Runs E M (pc + 1) L (.int (σ c' i.toNatClampNeg) :: S) σ out) : Runs E M pc L (.int i :: .ref c' :: S) σ out := by
  intro p l e R s m args below meth c nc ns Q C ls H locs hl hH
  exact va_zald (cA := eA E 1) C.1 C.2.1 C.2.2.2.2.2.1 hH.1 c' 1 (cells_at hy) rfl hin hd (k p l e R s m args below meth c nc ns Q C ls H locs hl hH)
theorem r_aaldR {c' n b st : Nat} {i : Int32} (hd : decode (cM M) pc = .ok (.aaload, 1)) (hy : lays[c']? = some (.inl (2, n, b, st))) (hin : vp_in i n) (k : Runs E M (pc + 1) L (.ref (b + st * i.toNatClampNeg) :: S) σ out) : Runs E M pc L (.int i :: .ref c' :: S) σ out := by
  intro p l e R s m args below meth c nc ns Q C ls H locs hl hH
  exact va_aldq (cA := eA E 2) (C := "CompassMarriage$Ring") C.1 C.2.1 C.2.2.2.2.2.1 hH.1 c' 2 (cells_at hy) rfl hin hd (k p l e R s m args below meth c nc ns Q C ls H locs hl hH)
theorem r_aaldS {c' n b st : Nat} {i : Int32} (hd : decode (cM M) pc = .ok (.aaload, 1)) (hy : lays[c']? = some (.inl (3, n, b, st))) (hin : vp_in i n) (k : Runs E M (pc + 1) L (.ref (b + st * i.toNatClampNeg) :: S) σ out) : Runs E M pc L (.int i :: .ref c' :: S) σ out := by
  intro p l e R s m args below meth c nc ns Q C ls H locs hl hH
  exact va_aldq (cA := eA E 3) (C := "CompassMarriage$Sheet") C.1 C.2.1 C.2.2.2.2.2.1 hH.1 c' 3 (cells_at hy) rfl hin hd (k p l e R s m args below meth c nc ns Q C ls H locs hl hH)
theorem r_iast {c' n b st : Nat} {i x : Int32} (hd : decode (cM M) pc = .ok (.iastore, 1)) (hy : lays[c']? = some (.inl (0, n, b, st))) (hin : vp_in i n) (k : Runs E M (pc + 1) L S (up σ c' i.toNatClampNeg x) out) : Runs E M pc L (.int x :: .int i :: .ref c' :: S) σ out := by
  intro p l e R s m args below meth c nc ns Q C ls H locs hl hH
  refine va_iast (cA := eA E 0) C.1 C.2.1 C.2.2.2.2.2.1 hH.1 hH.2.1 hH.2.2 c' 0 (cells_at hy) rfl hin hd (fun H1 locs1 hP hD hS => ?_)
  rw [cells_A hy (by decide)] at hP hD
  exact k p l e R s m args below meth c nc ns Q C ls H1 locs1 hl ⟨hP, hD, hS⟩
theorem r_zast {c' n b st : Nat} {i x : Int32} (hd : decode (cM M) pc = .ok (.bastore, 1)) (hy : lays[c']? = some (.inl (1, n, b, st))) (hin : vp_in i n) (hx : vp_nar .boolean x = x) (k : Runs E M (pc + 1) L S (up σ c' i.toNatClampNeg x) out) : Runs E M pc L (.int x :: .int i :: .ref c' :: S) σ out := by
  intro p l e R s m args below meth c nc ns Q C ls H locs hl hH
  refine va_zast (cA := eA E 1) C.1 C.2.1 C.2.2.2.2.2.1 hH.1 hH.2.1 hH.2.2 c' 1 (cells_at hy) rfl hin hd (fun H1 locs1 hP hD hS => ?_)
  rw [hx, cells_A hy (by decide)] at hP hD
  exact k p l e R s m args below meth c nc ns Q C ls H1 locs1 hl ⟨hP, hD, hS⟩
theorem r_sx {i : Int32} (hd : decode (cM M) pc = .ok (.iaload, 1)) (hin : vp_in i 4) (k : Runs E M (pc + 1) L (.int (stX i.toNatClampNeg) :: S) σ out) : Runs E M pc L (.int i :: .ref 100 :: S) σ out := by
  intro p l e R s m args below meth c nc ns Q C ls H locs hl hH
  exact va_ti C.1 C.2.1 C.2.2.2.2.2.2.1.2.1 hH.2.2 hin rfl hd (k p l e R s m args below meth c nc ns Q C ls H locs hl hH)
theorem r_sy {i : Int32} (hd : decode (cM M) pc = .ok (.iaload, 1)) (hin : vp_in i 4) (k : Runs E M (pc + 1) L (.int (stY i.toNatClampNeg) :: S) σ out) : Runs E M pc L (.int i :: .ref 101 :: S) σ out := by
  intro p l e R s m args below meth c nc ns Q C ls H locs hl hH
  exact va_ti C.1 C.2.1 C.2.2.2.2.2.2.1.2.2.2.1 hH.2.2 hin rfl hd (k p l e R s m args below meth c nc ns Q C ls H locs hl hH)
theorem r_scr {i : Int32} (hd : decode (cM M) pc = .ok (.iaload, 1)) (hin : vp_in i (eL E)) (k : Runs E M (pc + 1) L (.int (eX E i.toNatClampNeg) :: S) σ out) : Runs E M pc L (.int i :: .ref 102 :: S) σ out := by
  intro p l e R s m args below meth c nc ns Q C ls H locs hl hH
  exact va_sld C.1 C.2.1 C.2.2.2.2.2.2.1.2.2.2.2.1 C.2.2.2.2.2.2.1.2.2.2.2.2.1 C.2.2.2.2.2.2.1.2.2.2.2.2.2 hH.2.2 hin hd (k p l e R s m args below meth c nc ns Q C ls H locs hl hH)
theorem r_slen (hd : decode (cM M) pc = .ok (.arraylength, 1)) (k : Runs E M (pc + 1) L (.int (Int32.ofNat (eL E)) :: S) σ out) : Runs E M pc L (.ref 102 :: S) σ out := by
  intro p l e R s m args below meth c nc ns Q C ls H locs hl hH
  exact va_slen C.1 C.2.1 C.2.2.2.2.2.2.1.2.2.2.2.1 C.2.2.2.2.2.2.1.2.2.2.2.2.1 C.2.2.2.2.2.2.1.2.2.2.2.2.2 hH.2.2 hd (k p l e R s m args below meth c nc ns Q C ls H locs hl hH)
theorem r_gsx {idx : Nat} {host : String} (hd : decode (cM M) pc = .ok (.getstatic idx, 3)) (hw : Cond.fieldLinkNest (oM M) idx "CompassMarriage" "STEP_X" "[I" host ∈ tb) (k : Runs E M (pc + 3) L (.ref 100 :: S) σ out) : Runs E M pc L S σ out := by
  intro p l e R s m args below meth c nc ns Q C ls H locs hl hH
  exact va_getsN C.1 C.2.1 C.2.2.2.2.2.2.1.1 hH.2.2 C.2.2.2.1 (C.2.2.2.2.1 _ hw) (fun _ h => h) hd (k p l e R s m args below meth c nc ns Q C ls H locs hl hH)
theorem r_gsy {idx : Nat} {host : String} (hd : decode (cM M) pc = .ok (.getstatic idx, 3)) (hw : Cond.fieldLinkNest (oM M) idx "CompassMarriage" "STEP_Y" "[I" host ∈ tb) (k : Runs E M (pc + 3) L (.ref 101 :: S) σ out) : Runs E M pc L S σ out := by
  intro p l e R s m args below meth c nc ns Q C ls H locs hl hH
  exact va_getsN C.1 C.2.1 C.2.2.2.2.2.2.1.2.2.1 hH.2.2 C.2.2.2.1 (C.2.2.2.2.1 _ hw) (fun _ h => h) hd (k p l e R s m args below meth c nc ns Q C ls H locs hl hH)
/-- a callee's fixed words -/
def MB (M' : MI) (n : Nat) : Prop := Cond.code (yM M') (cM M') (lM M') (tM M') ∈ tb ∧ Cond.initialized (yM M').cls ∈ tb ∧ ((yM M').cls ≠ "java/lang/invoke/MethodHandle" ∧ (yM M').cls ≠ "java/lang/invoke/VarHandle") ∧ (parseMethodDescriptor (yM M').desc).map (fun d => d.parameters.length) = some n
/-- an instance method of ours -/
def MV (M' : MI) (n : Nat) : Prop := MB M' n ∧ Cond.instanceMethod (yM M') ∈ tb ∧ Cond.selects (yM M').cls (yM M') (yM M') ∈ tb
def MS (M' : MI) (n : Nat) : Prop := MB M' n ∧ Cond.static (yM M') ∈ tb
def Fit (M M' : MI) : Prop := frM M' + 1 ≤ frM M ∧ 8 + (lM M' + 11) + loM M' ≤ loM M
theorem after {E : Ev} {M : MI} {out : Option Value × Hp} {p : Program} {l : Launch} {e : Env} {R : Room} {s : State} {m : MethodId} {args : Array Value} {below : List Frame} {meth : Method} {c : Code} {nc ns : Nat} {Q : State → Prop} (C : Cx E M out p l e R s m args below meth c nc ns Q)
    {ls : Array Slot} {H : Heap} {locs : List Loc} {σ σ1 : Hp} {r : Option Value} {a : Array Value} {st0 rest : List Value} {pc : Nat} {S : List Value} {L : List (Nat × Value)} (hl : lv_has ls (lM M) (cL E L)) (hH : Hs E s H locs σ) (hrest : rest = cS E S)
    (hr : va_Run p l e R s m args below meth c H locs nc ns 0 0 (F0 m pc ls st0) rest (QQ E r σ1 a) (Ad E)) (k : Runs E M (pc + 3) L (r.toList ++ S) σ1 out) : W p l e R s m args below meth c H locs nc ns Q (F0 m pc ls st0) := by
  intro T hT X
  obtain ⟨v, st₀, t, T', L2, h0, X', hL, e1, e2, ⟨hv, hw, hz, hk⟩, st⟩ := hr T hT X
  cases hv
  rw [h0] at hz hk
  obtain ⟨t2, a1, b1⟩ := k p l e R s m args below meth c nc ns Q C ls T'.heap (locs ++ L2) hl ⟨by rw [e1]; exact hw.1, hw.2.2.1, ⟨Nat.le_trans hH.2.2.1 (by rw [e1]; exact hz), fun q h1 h2 => by rw [e1, hk q (Nat.lt_of_lt_of_le h1 hH.2.2.1) h2]; exact hH.2.2.2.1 q h1 h2, fun q hq => by
      rcases List.mem_append.mp hq with h | h
      · exact hH.2.2.2.2 q h
      · exact hL q h⟩⟩ T' rfl X'
  refine ⟨t2, st t2 ?_, b1⟩
  have e3 : (r.map (cv E)).toList ++ rest = cS E (r.toList ++ S) := by rw [hrest]; cases r <;> rfl
  rw [e3]
  exact a1
theorem preBlind {E : Ev} {as : List Value} {σ : Hp} : FrameBlind (va_Pc (as.map (cv E)) (fun U => Wd E U U.heap σ)) := fun a U g mk q => ⟨q.1, Wd.moved (u := U) (U := U.calling g mk a) (Vm.Alike.refl U.vm) q.2⟩
theorem preAt {E : Ev} {M : MI} {out : Option Value × Hp} {p : Program} {l : Launch} {e : Env} {R : Room} {s : State} {m : MethodId} {args : Array Value} {below : List Frame} {meth : Method} {c : Code} {nc ns : Nat} {Q : State → Prop} (C : Cx E M out p l e R s m args below meth c nc ns Q)
    {H : Heap} {locs : List Loc} {σ : Hp} (hH : Hs E s H locs σ) (as : List Value) : ∀ U : State, U.heap = H → s.WarmedH U.vm → va_Pc (as.map (cv E)) (fun U => Wd E U U.heap σ) (as.map (cv E)).toArray U := by
  intro U hU hW
  refine ⟨rfl, by rw [hU]; exact hH.1, C.2.2.2.2.2.1.moved hW.alike, hH.2.1, ?_⟩
  rw [hU]
  exact (C.2.2.2.2.2.2.1.moved hW.alike).kept hH.2.2.1 hH.2.2.2.1
theorem callB {E : Ev} {M M' : MI} {out : Option Value × Hp} {p : Program} {l : Launch} {e : Env} {R : Room} {s : State} {m : MethodId} {args : Array Value} {below : List Frame} {meth : Method} {c : Code} {nc ns : Nat} {Q : State → Prop} (C : Cx E M out p l e R s m args below meth c nc ns Q) {n idx : Nat} (hm : MB M' n) (hw : Cond.methodLink (oM M) idx (yM M') ∈ tb) (hF : Fit M M') :
    CallB R s args (oM M) idx (yM M') (cM M') (lM M') (tM M') (wsM M') (rmM M') 0 0 n := by
  have ht := C.2.2.2.2.1
  refine ⟨rfl, rfl, Nat.le_trans hF.1 C.2.2.2.2.2.2.2.1.1, Nat.le_trans hF.2 C.2.2.2.2.2.2.2.1.2.1, ?_, List.mem_cons_self, ht _ hm.1, ht _ hm.2.1, hm.2.2.1, fun sig h => ?_, ht _ hw⟩
  · intro w hw a' U hW
    rcases List.mem_cons.mp hw with rfl | hw
    · exact tb_warm ht hW _ hm.1
    · exact tb_warm ht hW _ hw
  · have h2 := hm.2.2.2
    rw [h] at h2
    exact (Option.some.inj h2).symm
theorem callN {E : Ev} {M M' : MI} {out : Option Value × Hp} {p : Program} {l : Launch} {e : Env} {R : Room} {s : State} {m : MethodId} {args : Array Value} {below : List Frame} {meth : Method} {c : Code} {nc ns : Nat} {Q : State → Prop} (C : Cx E M out p l e R s m args below meth c nc ns Q) {n idx : Nat} {host : String} (hm : MB M' n) (hw : Cond.methodLinkNest (oM M) idx (yM M') host ∈ tb) (hF : Fit M M') :
    va_CN R s args (oM M) idx (yM M') host (cM M') (lM M') (tM M') (wsM M') (rmM M') 0 0 n := by
  have ht := C.2.2.2.2.1
  refine ⟨⟨rfl, rfl, Nat.le_trans hF.1 C.2.2.2.2.2.2.2.1.1, Nat.le_trans hF.2 C.2.2.2.2.2.2.2.1.2.1, ?_, List.mem_cons_self⟩, ht _ hm.1, ht _ hm.2.1, hm.2.2.1, fun sig h => ?_, ht _ hw⟩
  · intro w hw a' U hW
    rcases List.mem_cons.mp hw with rfl | hw
    · exact tb_warm ht hW _ hm.1
    · exact tb_warm ht hW _ hw
  · have h2 := hm.2.2.2
    rw [h] at h2
    exact (Option.some.inj h2).symm
theorem r_callV {M' : MI} {idx n c' ci : Nat} {fs : List (Option Nat)} {q : vw_C} {S0 : List Value} (As : List Value) {r : Option Value} {σ1 : Hp} (hd : decode (cM M) pc = .ok (.invokevirtual idx, 3)) (hm : MV M' n) (hw : Cond.methodLink (oM M) idx (yM M') ∈ tb) (hF : Fit M M') (hs : S0 = As.reverse ++ .ref c' :: S) (hn : As.length = n) (hy : lays[c']? = some (.inr (ci, fs))) (hq : vwCl[ci]? = some q) (hqn : q.1 = (yM M').cls) (hst : (S.map fun v => v.category).sum ≤ 8)
    (hc : Call E M' (.ref c' :: As) σ r σ1) (k : Runs E M (pc + 3) L (r.toList ++ S) σ1 out) : Runs E M pc L S0 σ out := by
  intro p l e R s m args below meth c nc ns Q C ls H locs hl hH
  refine after (a := (Value.ref (eR E c') :: As.map (cv E)).toArray) C hl hH rfl ?_ k
  have ht := C.2.2.2.2.1
  refine va_runV (C := (yM M').cls) (b := eR E c') (As := As.map (cv E)) (Ts := tb) (n := n) ⟨C.1, C.2.1, C.2.2.1, C.2.2.2.1, ht⟩ (hc l) ⟨callB C hm.1 hw hF, ht _ hm.2.1, ht _ hm.2.2⟩ ⟨preBlind, ?_, ?_⟩ rfl (by rw [List.length_map]; exact hn) hl.1 ?_ (lv_room (by rw [cS_cat]; exact hst)) hd ⟨C.2.2.2.2.2.2.2.1.2.2.1, C.2.2.2.2.2.2.2.1.2.2.2⟩
  · have h := va_recv C.2.2.2.2.2.1 hH.1 hq (cells_at hy)
    rw [hqn] at h
    exact h
  · exact preAt C hH (.ref c' :: As)
  · show cS E S0 = _
    rw [hs]
    simp [cS, cv]
theorem r_callS {M' : MI} {idx n : Nat} {S0 : List Value} (As : List Value) {r : Option Value} {σ1 : Hp} (hd : decode (cM M) pc = .ok (.invokestatic idx, 3)) (hm : MS M' n) (hw : Cond.methodLink (oM M) idx (yM M') ∈ tb) (hF : Fit M M') (hs : S0 = As.reverse ++ S) (hn : As.length = n) (hst : (S.map fun v => v.category).sum ≤ 8)
    (hc : Call E M' As σ r σ1) (k : Runs E M (pc + 3) L (r.toList ++ S) σ1 out) : Runs E M pc L S0 σ out := by
  intro p l e R s m args below meth c nc ns Q C ls H locs hl hH
  refine after (a := (As.map (cv E)).toArray) C hl hH rfl ?_ k
  have ht := C.2.2.2.2.1
  refine va_runS (As := As.map (cv E)) (Ts := tb) (n := n) ⟨C.1, C.2.1, C.2.2.1, C.2.2.2.1, ht⟩ (hc l) ⟨callB C hm.1 hw hF, ht _ hm.2⟩ ⟨preBlind, ?_⟩ rfl (by rw [List.length_map]; exact hn) hl.1 ?_ (lv_room (by rw [cS_cat]; exact hst)) hd ⟨C.2.2.2.2.2.2.2.1.2.2.1, C.2.2.2.2.2.2.2.1.2.2.2⟩
  · exact preAt C hH As
  · show cS E S0 = _
    rw [hs]
    simp [cS]
theorem r_callSN {M' : MI} {idx n : Nat} {host : String} {S0 : List Value} (As : List Value) {r : Option Value} {σ1 : Hp} (hd : decode (cM M) pc = .ok (.invokestatic idx, 3)) (hm : MS M' n) (hw : Cond.methodLinkNest (oM M) idx (yM M') host ∈ tb) (hF : Fit M M') (hs : S0 = As.reverse ++ S) (hn : As.length = n) (hst : (S.map fun v => v.category).sum ≤ 8)
    (hc : Call E M' As σ r σ1) (k : Runs E M (pc + 3) L (r.toList ++ S) σ1 out) : Runs E M pc L S0 σ out := by
  intro p l e R s m args below meth c nc ns Q C ls H locs hl hH
  refine after (a := (As.map (cv E)).toArray) C hl hH rfl ?_ k
  have ht := C.2.2.2.2.1
  refine va_runSN (As := As.map (cv E)) (Ts := tb) (n := n) ⟨C.1, C.2.1, C.2.2.1, C.2.2.2.1, ht⟩ (hc l) ⟨callN C hm.1 hw hF, ht _ hm.2, trivial⟩ ⟨preBlind, ?_⟩ rfl (by rw [List.length_map]; exact hn) hl.1 ?_ (lv_room (by rw [cS_cat]; exact hst)) hd ⟨C.2.2.2.2.2.2.2.1.2.2.1, C.2.2.2.2.2.2.2.1.2.2.2⟩
  · exact preAt C hH As
  · show cS E S0 = _
    rw [hs]
    simp [cS]
theorem r_max {idx : Nat} {x y : Int32} (hd : decode (cM M) pc = .ok (.invokestatic idx, 3)) (hw : Cond.methodLink (oM M) idx Lib.Math.max.name ∈ tb) (h1 : Cond.static Lib.Math.max.name ∈ tb) (h2 : Cond.initialized "java/lang/Math" ∈ tb) (h3 : Cond.code Lib.Math.max.name Lib.Math.max.code 2 (some .int) ∈ tb) (hf : 1 ≤ frM M) (hst : (S.map fun v => v.category).sum + 13 ≤ loM M) (k : Runs E M (pc + 3) L (.int (if x < y then y else x) :: S) σ out) : Runs E M pc L (.int y :: .int x :: S) σ out := by
  intro p l e R s m args below meth c nc ns Q C ls H locs hl hH
  have ht := C.2.2.2.2.1
  exact va_mmax C.1 C.2.1 (C.2.2.1.trans hl.1.symm) C.2.2.2.1 (ht _ hw) (ht _ h1) (ht _ h2) (ht _ h3) (Nat.le_trans hf C.2.2.2.2.2.2.2.1.1) (by rw [cS_cat]; exact Nat.le_trans hst C.2.2.2.2.2.2.2.1.2.1) C.2.2.2.2.2.2.2.1.2.2.1 C.2.2.2.2.2.2.2.1.2.2.2 hd (k p l e R s m args below meth c nc ns Q C ls H locs hl hH)
theorem r_min {idx : Nat} {x y : Int32} (hd : decode (cM M) pc = .ok (.invokestatic idx, 3)) (hw : Cond.methodLink (oM M) idx Lib.Math.min.name ∈ tb) (h1 : Cond.static Lib.Math.min.name ∈ tb) (h2 : Cond.initialized "java/lang/Math" ∈ tb) (h3 : Cond.code Lib.Math.min.name Lib.Math.min.code 2 (some .int) ∈ tb) (hf : 1 ≤ frM M) (hst : (S.map fun v => v.category).sum + 13 ≤ loM M) (k : Runs E M (pc + 3) L (.int (if y < x then y else x) :: S) σ out) : Runs E M pc L (.int y :: .int x :: S) σ out := by
  intro p l e R s m args below meth c nc ns Q C ls H locs hl hH
  have ht := C.2.2.2.2.1
  exact va_mmin C.1 C.2.1 (C.2.2.1.trans hl.1.symm) C.2.2.2.1 (ht _ hw) (ht _ h1) (ht _ h2) (ht _ h3) (Nat.le_trans hf C.2.2.2.2.2.2.2.1.1) (by rw [cS_cat]; exact Nat.le_trans hst C.2.2.2.2.2.2.2.1.2.1) C.2.2.2.2.2.2.2.1.2.2.1 C.2.2.2.2.2.2.2.1.2.2.2 hd (k p l e R s m args below meth c nc ns Q C ls H locs hl hH)
theorem r_acopy {idx c0 c1 n0 n1 b0 s0 b1 s1 : Nat} {sp dp n : Int32} (hd : decode (cM M) pc = .ok (.invokestatic idx, 3)) (hw : Cond.methodLink (oM M) idx arraycopyName ∈ tb) (w1 : Cond.native arraycopyName ∈ tb) (w2 : Cond.static arraycopyName ∈ tb) (w3 : Cond.initialized "java/lang/System" ∈ tb) (hy0 : lays[c0]? = some (.inl (0, n0, b0, s0))) (hy1 : lays[c1]? = some (.inl (0, n1, b1, s1)))
    (h1 : ¬ sp < 0) (h2 : ¬ dp < 0) (h3 : ¬ n < 0) (h4 : sp.toNatClampNeg + n.toNatClampNeg ≤ n0) (h5 : dp.toNatClampNeg + n.toNatClampNeg ≤ n1) (hf : 1 ≤ frM M) (hst : (S.map fun v => v.category).sum + (nativeFrameWords "java/lang/System" "arraycopy" 5 + 11) ≤ loM M)
    (k : Runs E M (pc + 3) L S (upR σ c1 (va_cpy (σ c0) (σ c1) sp.toNatClampNeg dp.toNatClampNeg n.toNatClampNeg)) out) : Runs E M pc L (.int n :: .int dp :: .ref c1 :: .int sp :: .ref c0 :: S) σ out := by
  intro p l e R s m args below meth c nc ns Q C ls H locs hl hH
  have ht := C.2.2.2.2.1
  refine va_copyi (ty := .int) C.1 C.2.1 (C.2.2.1.trans hl.1.symm) C.2.2.2.1 (ht _ hw) (ht _ w1) (ht _ w2) (ht _ w3) C.2.2.2.2.2.1 hH.1 hH.2.1 hH.2.2 c0 c1 0 0 (cells_at hy0) (cells_at hy1) rfl rfl rfl h1 h2 h3 h4 h5 (fun _ _ => rfl) (Nat.le_trans hf C.2.2.2.2.2.2.2.1.1) (by rw [cS_cat]; exact Nat.le_trans hst C.2.2.2.2.2.2.2.1.2.1) hd (fun H1 locs1 hP hD hS => ?_)
  rw [cells_R hy1 (by decide)] at hP hD
  exact k p l e R s m args below meth c nc ns Q C ls H1 locs1 hl ⟨hP, hD, hS⟩
end RUNS
/-! the same rows with a condition on what is returned -/
def Ru (E : Ev) (M : MI) (pc : Nat) (L : List (Nat × Value)) (S : List Value) (σ : Hp) (Φ : Option Value → Hp → Prop) : Prop := ∃ out, Φ out.1 out.2 ∧ Runs E M pc L S σ out
section RU
variable {E : Ev} {M : MI} {pc : Nat} {L : List (Nat × Value)} {S : List Value} {σ : Hp} {Φ : Option Value → Hp → Prop}
theorem s_ret {r : Option Value} (h : isRet M pc r) (hs : S = r.toList) (hΦ : Φ r σ) : Ru E M pc L S σ Φ := ⟨(r, σ), hΦ, r_ret h hs rfl⟩
theorem Ru.mono {Ψ : Option Value → Hp → Prop} (h : Ru E M pc L S σ Φ) (hi : ∀ r t, Φ r t → Ψ r t) : Ru E M pc L S σ Ψ := by
  obtain ⟨out, hp, k⟩ := h
  exact ⟨out, hi _ _ hp, k⟩
theorem Call.int {as : List Value} {Ψ : Int32 → Hp → Prop} (hy : plainName (yM M).cls = true) (hcls : (yM M).cls = oM M) (hn : (lg_sl as).length ≤ lM M) {ty : FieldType} (ht : tM M = some ty)
    (h : Ru E M 0 (lv_args 0 as) [] σ (fun r t => ∃ v, r = some (.int v) ∧ Ψ v t)) : ∃ (v : Int32) (t : Hp), Call E M as σ (some (.int v)) t ∧ Ψ v t := by
  obtain ⟨⟨r, t⟩, ⟨v, hr, hp⟩, k⟩ := h
  dsimp only at hr hp
  subst hr
  exact ⟨v, t, Call.of hy hcls hn (Or.inl ⟨v, rfl, ty, ht⟩) k, hp⟩
theorem Call.long {as : List Value} {Ψ : Int64 → Hp → Prop} (hy : plainName (yM M).cls = true) (hcls : (yM M).cls = oM M) (hn : (lg_sl as).length ≤ lM M) (ht : tM M = some .long)
    (h : Ru E M 0 (lv_args 0 as) [] σ (fun r t => ∃ v, r = some (.long v) ∧ Ψ v t)) : ∃ (v : Int64) (t : Hp), Call E M as σ (some (.long v)) t ∧ Ψ v t := by
  obtain ⟨⟨r, t⟩, ⟨v, hr, hp⟩, k⟩ := h
  dsimp only at hr hp
  subst hr
  exact ⟨v, t, Call.of hy hcls hn (Or.inr (Or.inl ⟨v, rfl, ht⟩)) k, hp⟩
theorem Call.void {as : List Value} {Ψ : Hp → Prop} (hy : plainName (yM M).cls = true) (hcls : (yM M).cls = oM M) (hn : (lg_sl as).length ≤ lM M) (ht : tM M = none)
    (h : Ru E M 0 (lv_args 0 as) [] σ (fun r t => r = none ∧ Ψ t)) : ∃ t : Hp, Call E M as σ none t ∧ Ψ t := by
  obtain ⟨⟨r, t⟩, ⟨hr, hp⟩, k⟩ := h
  dsimp only at hr hp
  subst hr
  exact ⟨t, Call.of hy hcls hn (Or.inr (Or.inr ⟨rfl, ht⟩)) k, hp⟩
theorem s_sub {L' : List (Nat × Value)} (ks : List Nat) (hl : lv_pick L ks = L') (k : Ru E M pc L' S σ Φ) : Ru E M pc L S σ Φ := by
  obtain ⟨out, hp, k⟩ := k
  exact ⟨out, hp, r_sub ks hl k⟩
theorem s_iconst {n : Int} {v : Int32} (hd : decode (cM M) pc = .ok (.iconst n, 1)) (hv : Int32.ofInt n = v) (k : Ru E M (pc + 1) L (.int v :: S) σ Φ) : Ru E M pc L S σ Φ := by
  obtain ⟨out, hp, k⟩ := k
  exact ⟨out, hp, r_iconst hd hv k⟩
theorem s_bipush {n : Int} {v : Int32} (hd : decode (cM M) pc = .ok (.bipush n, 2)) (hv : (Int8.ofInt n).toInt32 = v) (k : Ru E M (pc + 2) L (.int v :: S) σ Φ) : Ru E M pc L S σ Φ := by
  obtain ⟨out, hp, k⟩ := k
  exact ⟨out, hp, r_bipush hd hv k⟩
theorem s_sipush {n : Int} {v : Int32} (hd : decode (cM M) pc = .ok (.sipush n, 3)) (hv : (Int16.ofInt n).toInt32 = v) (k : Ru E M (pc + 3) L (.int v :: S) σ Φ) : Ru E M pc L S σ Φ := by
  obtain ⟨out, hp, k⟩ := k
  exact ⟨out, hp, r_sipush hd hv k⟩
theorem s_lconst {n : Fin 2} {v : Int64} (hd : decode (cM M) pc = .ok (.lconst n, 1)) (hv : Int64.ofNat (n : Nat) = v) (k : Ru E M (pc + 1) L (.long v :: S) σ Φ) : Ru E M pc L S σ Φ := by
  obtain ⟨out, hp, k⟩ := k
  exact ⟨out, hp, r_lconst hd hv k⟩
theorem s_ldc {i : Nat} {v : Int32} (hd : decode (cM M) pc = .ok (.ldc i, 2)) (hw : Cond.constant (oM M) i v ∈ tb) (k : Ru E M (pc + 2) L (.int v :: S) σ Φ) : Ru E M pc L S σ Φ := by
  obtain ⟨out, hp, k⟩ := k
  exact ⟨out, hp, r_ldc hd hw k⟩
theorem s_ldc2 {i : Nat} {v : Int64} (hd : decode (cM M) pc = .ok (.ldc2_w i, 3)) (hw : Cond.constantLong (oM M) i v ∈ tb) (k : Ru E M (pc + 3) L (.long v :: S) σ Φ) : Ru E M pc L S σ Φ := by
  obtain ⟨out, hp, k⟩ := k
  exact ⟨out, hp, r_ldc2 hd hw k⟩
theorem s_ldcw {i : Nat} {v : Int32} (hd : decode (cM M) pc = .ok (.ldc_w i, 3)) (hw : Cond.constant (oM M) i v ∈ tb) (k : Ru E M (pc + 3) L (.int v :: S) σ Φ) : Ru E M pc L S σ Φ := by
  obtain ⟨out, hp, k⟩ := k
  exact ⟨out, hp, r_ldcw hd hw k⟩
theorem s_iload_n {n : Fin 4} {i : Nat} {x : Int32} (j : Nat) (hd : decode (cM M) pc = .ok (.iload_n n, 1)) (hi : (n : Nat) = i) (hk : L[j]? = some (i, .int x)) (k : Ru E M (pc + 1) L (.int x :: S) σ Φ) : Ru E M pc L S σ Φ := by
  obtain ⟨out, hp, k⟩ := k
  exact ⟨out, hp, r_iload_n j hd hi hk k⟩
theorem s_iload {i : Nat} {x : Int32} (j : Nat) (hd : decode (cM M) pc = .ok (.iload i, 2)) (hk : L[j]? = some (i, .int x)) (k : Ru E M (pc + 2) L (.int x :: S) σ Φ) : Ru E M pc L S σ Φ := by
  obtain ⟨out, hp, k⟩ := k
  exact ⟨out, hp, r_iload j hd hk k⟩
theorem s_lload_n {n : Fin 4} {i : Nat} {x : Int64} (j : Nat) (hd : decode (cM M) pc = .ok (.lload_n n, 1)) (hi : (n : Nat) = i) (hk : L[j]? = some (i, .long x)) (k : Ru E M (pc + 1) L (.long x :: S) σ Φ) : Ru E M pc L S σ Φ := by
  obtain ⟨out, hp, k⟩ := k
  exact ⟨out, hp, r_lload_n j hd hi hk k⟩
theorem s_lload {i : Nat} {x : Int64} (j : Nat) (hd : decode (cM M) pc = .ok (.lload i, 2)) (hk : L[j]? = some (i, .long x)) (k : Ru E M (pc + 2) L (.long x :: S) σ Φ) : Ru E M pc L S σ Φ := by
  obtain ⟨out, hp, k⟩ := k
  exact ⟨out, hp, r_lload j hd hk k⟩
theorem s_aload_n {n : Fin 4} {i : Nat} {x : Nat} (j : Nat) (hd : decode (cM M) pc = .ok (.aload_n n, 1)) (hi : (n : Nat) = i) (hk : L[j]? = some (i, .ref x)) (k : Ru E M (pc + 1) L (.ref x :: S) σ Φ) : Ru E M pc L S σ Φ := by
  obtain ⟨out, hp, k⟩ := k
  exact ⟨out, hp, r_aload_n j hd hi hk k⟩
theorem s_aload {i : Nat} {x : Nat} (j : Nat) (hd : decode (cM M) pc = .ok (.aload i, 2)) (hk : L[j]? = some (i, .ref x)) (k : Ru E M (pc + 2) L (.ref x :: S) σ Φ) : Ru E M pc L S σ Φ := by
  obtain ⟨out, hp, k⟩ := k
  exact ⟨out, hp, r_aload j hd hk k⟩
theorem s_istore_n {n : Fin 4} {i : Nat} {x : Int32} {L' : List (Nat × Value)} (hd : decode (cM M) pc = .ok (.istore_n n, 1)) (hi : (n : Nat) = i) (hn : i < lM M) (hL : (i, Value.int x) :: L.filter (fun q => !(q.1 == i) && !(q.1 + 1 == i && q.2.category == 2)) = L') (k : Ru E M (pc + 1) L' S σ Φ) : Ru E M pc L (.int x :: S) σ Φ := by
  obtain ⟨out, hp, k⟩ := k
  exact ⟨out, hp, r_istore_n hd hi hn hL k⟩
theorem s_istore {i : Nat} {x : Int32} {L' : List (Nat × Value)} (hd : decode (cM M) pc = .ok (.istore i, 2)) (hn : i < lM M) (hL : (i, Value.int x) :: L.filter (fun q => !(q.1 == i) && !(q.1 + 1 == i && q.2.category == 2)) = L') (k : Ru E M (pc + 2) L' S σ Φ) : Ru E M pc L (.int x :: S) σ Φ := by
  obtain ⟨out, hp, k⟩ := k
  exact ⟨out, hp, r_istore hd hn hL k⟩
theorem s_lstore_n {n : Fin 4} {i : Nat} {x : Int64} {L' : List (Nat × Value)} (hd : decode (cM M) pc = .ok (.lstore_n n, 1)) (hi : (n : Nat) = i) (hn : i + 1 < lM M) (hL : (i, Value.long x) :: L.filter (fun q => !(q.1 == i) && (!(q.1 == i + 1) && !(q.1 + 1 == i && q.2.category == 2))) = L') (k : Ru E M (pc + 1) L' S σ Φ) : Ru E M pc L (.long x :: S) σ Φ := by
  obtain ⟨out, hp, k⟩ := k
  exact ⟨out, hp, r_lstore_n hd hi hn hL k⟩
theorem s_lstore {i : Nat} {x : Int64} {L' : List (Nat × Value)} (hd : decode (cM M) pc = .ok (.lstore i, 2)) (hn : i + 1 < lM M) (hL : (i, Value.long x) :: L.filter (fun q => !(q.1 == i) && (!(q.1 == i + 1) && !(q.1 + 1 == i && q.2.category == 2))) = L') (k : Ru E M (pc + 2) L' S σ Φ) : Ru E M pc L (.long x :: S) σ Φ := by
  obtain ⟨out, hp, k⟩ := k
  exact ⟨out, hp, r_lstore hd hn hL k⟩
theorem s_astore_n {n : Fin 4} {i : Nat} {x : Nat} {L' : List (Nat × Value)} (hd : decode (cM M) pc = .ok (.astore_n n, 1)) (hi : (n : Nat) = i) (hn : i < lM M) (hL : (i, Value.ref x) :: L.filter (fun q => !(q.1 == i) && !(q.1 + 1 == i && q.2.category == 2)) = L') (k : Ru E M (pc + 1) L' S σ Φ) : Ru E M pc L (.ref x :: S) σ Φ := by
  obtain ⟨out, hp, k⟩ := k
  exact ⟨out, hp, r_astore_n hd hi hn hL k⟩
theorem s_astore {i : Nat} {x : Nat} {L' : List (Nat × Value)} (hd : decode (cM M) pc = .ok (.astore i, 2)) (hn : i < lM M) (hL : (i, Value.ref x) :: L.filter (fun q => !(q.1 == i) && !(q.1 + 1 == i && q.2.category == 2)) = L') (k : Ru E M (pc + 2) L' S σ Φ) : Ru E M pc L (.ref x :: S) σ Φ := by
  obtain ⟨out, hp, k⟩ := k
  exact ⟨out, hp, r_astore hd hn hL k⟩
theorem s_iinc {i : Nat} {n : Int} {x v : Int32} {L' : List (Nat × Value)} (j : Nat) (hd : decode (cM M) pc = .ok (.iinc i n, 3)) (hk : L[j]? = some (i, .int x)) (hv : x + Int32.ofInt n = v) (hn : i < lM M) (hL : (i, Value.int v) :: L.filter (fun q => !(q.1 == i) && !(q.1 + 1 == i && q.2.category == 2)) = L') (k : Ru E M (pc + 3) L' S σ Φ) : Ru E M pc L S σ Φ := by
  obtain ⟨out, hp, k⟩ := k
  exact ⟨out, hp, r_iinc j hd hk hv hn hL k⟩
theorem s_iadd {x y : Int32} (hd : decode (cM M) pc = .ok (.iadd, 1)) (k : Ru E M (pc + 1) L (.int (x + y) :: S) σ Φ) : Ru E M pc L (.int y :: .int x :: S) σ Φ := by
  obtain ⟨out, hp, k⟩ := k
  exact ⟨out, hp, r_iadd hd k⟩
theorem s_isub {x y : Int32} (hd : decode (cM M) pc = .ok (.isub, 1)) (k : Ru E M (pc + 1) L (.int (x - y) :: S) σ Φ) : Ru E M pc L (.int y :: .int x :: S) σ Φ := by
  obtain ⟨out, hp, k⟩ := k
  exact ⟨out, hp, r_isub hd k⟩
theorem s_imul {x y : Int32} (hd : decode (cM M) pc = .ok (.imul, 1)) (k : Ru E M (pc + 1) L (.int (x * y) :: S) σ Φ) : Ru E M pc L (.int y :: .int x :: S) σ Φ := by
  obtain ⟨out, hp, k⟩ := k
  exact ⟨out, hp, r_imul hd k⟩
theorem s_iand {x y : Int32} (hd : decode (cM M) pc = .ok (.iand, 1)) (k : Ru E M (pc + 1) L (.int (x &&& y) :: S) σ Φ) : Ru E M pc L (.int y :: .int x :: S) σ Φ := by
  obtain ⟨out, hp, k⟩ := k
  exact ⟨out, hp, r_iand hd k⟩
theorem s_ior {x y : Int32} (hd : decode (cM M) pc = .ok (.ior, 1)) (k : Ru E M (pc + 1) L (.int (x ||| y) :: S) σ Φ) : Ru E M pc L (.int y :: .int x :: S) σ Φ := by
  obtain ⟨out, hp, k⟩ := k
  exact ⟨out, hp, r_ior hd k⟩
theorem s_ixor {x y : Int32} (hd : decode (cM M) pc = .ok (.ixor, 1)) (k : Ru E M (pc + 1) L (.int (x ^^^ y) :: S) σ Φ) : Ru E M pc L (.int y :: .int x :: S) σ Φ := by
  obtain ⟨out, hp, k⟩ := k
  exact ⟨out, hp, r_ixor hd k⟩
theorem s_ladd {x y : Int64} (hd : decode (cM M) pc = .ok (.ladd, 1)) (k : Ru E M (pc + 1) L (.long (x + y) :: S) σ Φ) : Ru E M pc L (.long y :: .long x :: S) σ Φ := by
  obtain ⟨out, hp, k⟩ := k
  exact ⟨out, hp, r_ladd hd k⟩
theorem s_lsub {x y : Int64} (hd : decode (cM M) pc = .ok (.lsub, 1)) (k : Ru E M (pc + 1) L (.long (x - y) :: S) σ Φ) : Ru E M pc L (.long y :: .long x :: S) σ Φ := by
  obtain ⟨out, hp, k⟩ := k
  exact ⟨out, hp, r_lsub hd k⟩
theorem s_lmul {x y : Int64} (hd : decode (cM M) pc = .ok (.lmul, 1)) (k : Ru E M (pc + 1) L (.long (x * y) :: S) σ Φ) : Ru E M pc L (.long y :: .long x :: S) σ Φ := by
  obtain ⟨out, hp, k⟩ := k
  exact ⟨out, hp, r_lmul hd k⟩
theorem s_land {x y : Int64} (hd : decode (cM M) pc = .ok (.land, 1)) (k : Ru E M (pc + 1) L (.long (x &&& y) :: S) σ Φ) : Ru E M pc L (.long y :: .long x :: S) σ Φ := by
  obtain ⟨out, hp, k⟩ := k
  exact ⟨out, hp, r_land hd k⟩
theorem s_ishl {x y : Int32} (hd : decode (cM M) pc = .ok (.ishl, 1)) (k : Ru E M (pc + 1) L (.int (x <<< (y &&& 31)) :: S) σ Φ) : Ru E M pc L (.int y :: .int x :: S) σ Φ := by
  obtain ⟨out, hp, k⟩ := k
  exact ⟨out, hp, r_ishl hd k⟩
theorem s_ishr {x y : Int32} (hd : decode (cM M) pc = .ok (.ishr, 1)) (k : Ru E M (pc + 1) L (.int (x >>> (y &&& 31)) :: S) σ Φ) : Ru E M pc L (.int y :: .int x :: S) σ Φ := by
  obtain ⟨out, hp, k⟩ := k
  exact ⟨out, hp, r_ishr hd k⟩
theorem s_idiv {x y : Int32} (hd : decode (cM M) pc = .ok (.idiv, 1)) (hne : ¬ y = 0) (k : Ru E M (pc + 1) L (.int (x / y) :: S) σ Φ) : Ru E M pc L (.int y :: .int x :: S) σ Φ := by
  obtain ⟨out, hp, k⟩ := k
  exact ⟨out, hp, r_idiv hd hne k⟩
theorem s_irem {x y : Int32} (hd : decode (cM M) pc = .ok (.irem, 1)) (hne : ¬ y = 0) (k : Ru E M (pc + 1) L (.int (x - x / y * y) :: S) σ Φ) : Ru E M pc L (.int y :: .int x :: S) σ Φ := by
  obtain ⟨out, hp, k⟩ := k
  exact ⟨out, hp, r_irem hd hne k⟩
theorem s_ldiv {x y : Int64} (hd : decode (cM M) pc = .ok (.ldiv, 1)) (hne : ¬ y = 0) (k : Ru E M (pc + 1) L (.long (x / y) :: S) σ Φ) : Ru E M pc L (.long y :: .long x :: S) σ Φ := by
  obtain ⟨out, hp, k⟩ := k
  exact ⟨out, hp, r_ldiv hd hne k⟩
theorem s_lrem {x y : Int64} (hd : decode (cM M) pc = .ok (.lrem, 1)) (hne : ¬ y = 0) (k : Ru E M (pc + 1) L (.long (x - x / y * y) :: S) σ Φ) : Ru E M pc L (.long y :: .long x :: S) σ Φ := by
  obtain ⟨out, hp, k⟩ := k
  exact ⟨out, hp, r_lrem hd hne k⟩
theorem s_iushr {x y : Int32} (hd : decode (cM M) pc = .ok (.iushr, 1)) (k : Ru E M (pc + 1) L (.int ((x.toUInt32 >>> (y.toUInt32 &&& Int32.toUInt32 31)).toInt32) :: S) σ Φ) : Ru E M pc L (.int y :: .int x :: S) σ Φ := by
  obtain ⟨out, hp, k⟩ := k
  exact ⟨out, hp, r_iushr hd k⟩
theorem s_lshl {x : Int64} {y : Int32} (hd : decode (cM M) pc = .ok (.lshl, 1)) (k : Ru E M (pc + 1) L (.long (x <<< (y.toInt64 &&& 63)) :: S) σ Φ) : Ru E M pc L (.int y :: .long x :: S) σ Φ := by
  obtain ⟨out, hp, k⟩ := k
  exact ⟨out, hp, r_lshl hd k⟩
theorem s_lshr {x : Int64} {y : Int32} (hd : decode (cM M) pc = .ok (.lshr, 1)) (k : Ru E M (pc + 1) L (.long (x >>> (y.toInt64 &&& 63)) :: S) σ Φ) : Ru E M pc L (.int y :: .long x :: S) σ Φ := by
  obtain ⟨out, hp, k⟩ := k
  exact ⟨out, hp, r_lshr hd k⟩
theorem s_i2l {x : Int32} (hd : decode (cM M) pc = .ok (.i2l, 1)) (k : Ru E M (pc + 1) L (.long x.toInt64 :: S) σ Φ) : Ru E M pc L (.int x :: S) σ Φ := by
  obtain ⟨out, hp, k⟩ := k
  exact ⟨out, hp, r_i2l hd k⟩
theorem s_i2b {x : Int32} (hd : decode (cM M) pc = .ok (.i2b, 1)) (k : Ru E M (pc + 1) L (.int x.toInt8.toInt32 :: S) σ Φ) : Ru E M pc L (.int x :: S) σ Φ := by
  obtain ⟨out, hp, k⟩ := k
  exact ⟨out, hp, r_i2b hd k⟩
theorem s_i2s {x : Int32} (hd : decode (cM M) pc = .ok (.i2s, 1)) (k : Ru E M (pc + 1) L (.int x.toInt16.toInt32 :: S) σ Φ) : Ru E M pc L (.int x :: S) σ Φ := by
  obtain ⟨out, hp, k⟩ := k
  exact ⟨out, hp, r_i2s hd k⟩
theorem s_lcmp {x y : Int64} (hd : decode (cM M) pc = .ok (.lcmp, 1)) (k : Ru E M (pc + 1) L (.int (lg_cmp x y) :: S) σ Φ) : Ru E M pc L (.long y :: .long x :: S) σ Φ := by
  obtain ⟨out, hp, k⟩ := k
  exact ⟨out, hp, r_lcmp hd k⟩
theorem s_dup {v : Value} (hd : decode (cM M) pc = .ok (.dup, 1)) (hc : v.category = 1) (k : Ru E M (pc + 1) L (v :: v :: S) σ Φ) : Ru E M pc L (v :: S) σ Φ := by
  obtain ⟨out, hp, k⟩ := k
  exact ⟨out, hp, r_dup hd hc k⟩
theorem s_pop {v : Value} (hd : decode (cM M) pc = .ok (.pop, 1)) (hc : v.category = 1) (k : Ru E M (pc + 1) L S σ Φ) : Ru E M pc L (v :: S) σ Φ := by
  obtain ⟨out, hp, k⟩ := k
  exact ⟨out, hp, r_pop hd hc k⟩
theorem s_dup2 {v u : Value} (hd : decode (cM M) pc = .ok (.dup2, 1)) (hc : v.category = 1) (hc2 : u.category = 1) (k : Ru E M (pc + 1) L (v :: u :: v :: u :: S) σ Φ) : Ru E M pc L (v :: u :: S) σ Φ := by
  obtain ⟨out, hp, k⟩ := k
  exact ⟨out, hp, r_dup2 hd hc hc2 k⟩
theorem s_if_eq {x : Int32} {off : Int} {tgt : Nat} (hd : decode (cM M) pc = .ok (.ifCond .eq off, 3)) (ht : (pc : Int) + off = (tgt : Int)) (kt : x = 0 → Ru E M tgt L S σ Φ) (kf : ¬ x = 0 → Ru E M (pc + 3) L S σ Φ) : Ru E M pc L (.int x :: S) σ Φ := by
  by_cases q : x = 0
  · obtain ⟨out, hp, k⟩ := kt q
    exact ⟨out, hp, r_if_eq hd ht (fun _ => k) (fun z => absurd q z)⟩
  · obtain ⟨out, hp, k⟩ := kf q
    exact ⟨out, hp, r_if_eq hd ht (fun z => absurd z q) (fun _ => k)⟩
theorem s_icmp_eq {x y : Int32} {off : Int} {tgt : Nat} (hd : decode (cM M) pc = .ok (.if_icmp .eq off, 3)) (ht : (pc : Int) + off = (tgt : Int)) (kt : x = y → Ru E M tgt L S σ Φ) (kf : ¬ x = y → Ru E M (pc + 3) L S σ Φ) : Ru E M pc L (.int y :: .int x :: S) σ Φ := by
  by_cases q : x = y
  · obtain ⟨out, hp, k⟩ := kt q
    exact ⟨out, hp, r_icmp_eq hd ht (fun _ => k) (fun z => absurd q z)⟩
  · obtain ⟨out, hp, k⟩ := kf q
    exact ⟨out, hp, r_icmp_eq hd ht (fun z => absurd z q) (fun _ => k)⟩
theorem s_if_ne {x : Int32} {off : Int} {tgt : Nat} (hd : decode (cM M) pc = .ok (.ifCond .ne off, 3)) (ht : (pc : Int) + off = (tgt : Int)) (kt : ¬ x = 0 → Ru E M tgt L S σ Φ) (kf : x = 0 → Ru E M (pc + 3) L S σ Φ) : Ru E M pc L (.int x :: S) σ Φ := by
  by_cases q : x = 0
  · obtain ⟨out, hp, k⟩ := kf q
    exact ⟨out, hp, r_if_ne hd ht (fun z => absurd q z) (fun _ => k)⟩
  · obtain ⟨out, hp, k⟩ := kt q
    exact ⟨out, hp, r_if_ne hd ht (fun _ => k) (fun z => absurd z q)⟩
theorem s_icmp_ne {x y : Int32} {off : Int} {tgt : Nat} (hd : decode (cM M) pc = .ok (.if_icmp .ne off, 3)) (ht : (pc : Int) + off = (tgt : Int)) (kt : ¬ x = y → Ru E M tgt L S σ Φ) (kf : x = y → Ru E M (pc + 3) L S σ Φ) : Ru E M pc L (.int y :: .int x :: S) σ Φ := by
  by_cases q : x = y
  · obtain ⟨out, hp, k⟩ := kf q
    exact ⟨out, hp, r_icmp_ne hd ht (fun z => absurd q z) (fun _ => k)⟩
  · obtain ⟨out, hp, k⟩ := kt q
    exact ⟨out, hp, r_icmp_ne hd ht (fun _ => k) (fun z => absurd z q)⟩
theorem s_if_lt {x : Int32} {off : Int} {tgt : Nat} (hd : decode (cM M) pc = .ok (.ifCond .lt off, 3)) (ht : (pc : Int) + off = (tgt : Int)) (kt : x < 0 → Ru E M tgt L S σ Φ) (kf : ¬ x < 0 → Ru E M (pc + 3) L S σ Φ) : Ru E M pc L (.int x :: S) σ Φ := by
  by_cases q : x < 0
  · obtain ⟨out, hp, k⟩ := kt q
    exact ⟨out, hp, r_if_lt hd ht (fun _ => k) (fun z => absurd q z)⟩
  · obtain ⟨out, hp, k⟩ := kf q
    exact ⟨out, hp, r_if_lt hd ht (fun z => absurd z q) (fun _ => k)⟩
theorem s_icmp_lt {x y : Int32} {off : Int} {tgt : Nat} (hd : decode (cM M) pc = .ok (.if_icmp .lt off, 3)) (ht : (pc : Int) + off = (tgt : Int)) (kt : x < y → Ru E M tgt L S σ Φ) (kf : ¬ x < y → Ru E M (pc + 3) L S σ Φ) : Ru E M pc L (.int y :: .int x :: S) σ Φ := by
  by_cases q : x < y
  · obtain ⟨out, hp, k⟩ := kt q
    exact ⟨out, hp, r_icmp_lt hd ht (fun _ => k) (fun z => absurd q z)⟩
  · obtain ⟨out, hp, k⟩ := kf q
    exact ⟨out, hp, r_icmp_lt hd ht (fun z => absurd z q) (fun _ => k)⟩
theorem s_if_ge {x : Int32} {off : Int} {tgt : Nat} (hd : decode (cM M) pc = .ok (.ifCond .ge off, 3)) (ht : (pc : Int) + off = (tgt : Int)) (kt : 0 ≤ x → Ru E M tgt L S σ Φ) (kf : ¬ 0 ≤ x → Ru E M (pc + 3) L S σ Φ) : Ru E M pc L (.int x :: S) σ Φ := by
  by_cases q : 0 ≤ x
  · obtain ⟨out, hp, k⟩ := kt q
    exact ⟨out, hp, r_if_ge hd ht (fun _ => k) (fun z => absurd q z)⟩
  · obtain ⟨out, hp, k⟩ := kf q
    exact ⟨out, hp, r_if_ge hd ht (fun z => absurd z q) (fun _ => k)⟩
theorem s_icmp_ge {x y : Int32} {off : Int} {tgt : Nat} (hd : decode (cM M) pc = .ok (.if_icmp .ge off, 3)) (ht : (pc : Int) + off = (tgt : Int)) (kt : y ≤ x → Ru E M tgt L S σ Φ) (kf : ¬ y ≤ x → Ru E M (pc + 3) L S σ Φ) : Ru E M pc L (.int y :: .int x :: S) σ Φ := by
  by_cases q : y ≤ x
  · obtain ⟨out, hp, k⟩ := kt q
    exact ⟨out, hp, r_icmp_ge hd ht (fun _ => k) (fun z => absurd q z)⟩
  · obtain ⟨out, hp, k⟩ := kf q
    exact ⟨out, hp, r_icmp_ge hd ht (fun z => absurd z q) (fun _ => k)⟩
theorem s_if_gt {x : Int32} {off : Int} {tgt : Nat} (hd : decode (cM M) pc = .ok (.ifCond .gt off, 3)) (ht : (pc : Int) + off = (tgt : Int)) (kt : 0 < x → Ru E M tgt L S σ Φ) (kf : ¬ 0 < x → Ru E M (pc + 3) L S σ Φ) : Ru E M pc L (.int x :: S) σ Φ := by
  by_cases q : 0 < x
  · obtain ⟨out, hp, k⟩ := kt q
    exact ⟨out, hp, r_if_gt hd ht (fun _ => k) (fun z => absurd q z)⟩
  · obtain ⟨out, hp, k⟩ := kf q
    exact ⟨out, hp, r_if_gt hd ht (fun z => absurd z q) (fun _ => k)⟩
theorem s_icmp_gt {x y : Int32} {off : Int} {tgt : Nat} (hd : decode (cM M) pc = .ok (.if_icmp .gt off, 3)) (ht : (pc : Int) + off = (tgt : Int)) (kt : y < x → Ru E M tgt L S σ Φ) (kf : ¬ y < x → Ru E M (pc + 3) L S σ Φ) : Ru E M pc L (.int y :: .int x :: S) σ Φ := by
  by_cases q : y < x
  · obtain ⟨out, hp, k⟩ := kt q
    exact ⟨out, hp, r_icmp_gt hd ht (fun _ => k) (fun z => absurd q z)⟩
  · obtain ⟨out, hp, k⟩ := kf q
    exact ⟨out, hp, r_icmp_gt hd ht (fun z => absurd z q) (fun _ => k)⟩
theorem s_if_le {x : Int32} {off : Int} {tgt : Nat} (hd : decode (cM M) pc = .ok (.ifCond .le off, 3)) (ht : (pc : Int) + off = (tgt : Int)) (kt : x ≤ 0 → Ru E M tgt L S σ Φ) (kf : ¬ x ≤ 0 → Ru E M (pc + 3) L S σ Φ) : Ru E M pc L (.int x :: S) σ Φ := by
  by_cases q : x ≤ 0
  · obtain ⟨out, hp, k⟩ := kt q
    exact ⟨out, hp, r_if_le hd ht (fun _ => k) (fun z => absurd q z)⟩
  · obtain ⟨out, hp, k⟩ := kf q
    exact ⟨out, hp, r_if_le hd ht (fun z => absurd z q) (fun _ => k)⟩
theorem s_icmp_le {x y : Int32} {off : Int} {tgt : Nat} (hd : decode (cM M) pc = .ok (.if_icmp .le off, 3)) (ht : (pc : Int) + off = (tgt : Int)) (kt : x ≤ y → Ru E M tgt L S σ Φ) (kf : ¬ x ≤ y → Ru E M (pc + 3) L S σ Φ) : Ru E M pc L (.int y :: .int x :: S) σ Φ := by
  by_cases q : x ≤ y
  · obtain ⟨out, hp, k⟩ := kt q
    exact ⟨out, hp, r_icmp_le hd ht (fun _ => k) (fun z => absurd q z)⟩
  · obtain ⟨out, hp, k⟩ := kf q
    exact ⟨out, hp, r_icmp_le hd ht (fun z => absurd z q) (fun _ => k)⟩
theorem s_goto {off : Int} {tgt : Nat} (hd : decode (cM M) pc = .ok (.goto off, 3)) (ht : (pc : Int) + off = (tgt : Int)) (k : Ru E M tgt L S σ Φ) : Ru E M pc L S σ Φ := by
  obtain ⟨out, hp, k⟩ := k
  exact ⟨out, hp, r_goto hd ht k⟩
theorem s_tout {dflt lo hi : Int} {offs : Array Int} {len : Nat} {x : Int32} {tgt : Nat} (hd : decode (cM M) pc = .ok (.tableswitch dflt lo hi offs, len)) (h : x.toInt < lo ∨ hi < x.toInt) (ht : (pc : Int) + dflt = (tgt : Int)) (k : Ru E M tgt L S σ Φ) : Ru E M pc L (.int x :: S) σ Φ := by
  obtain ⟨out, hp, k⟩ := k
  exact ⟨out, hp, r_tout hd h ht k⟩
theorem s_tin {dflt lo hi : Int} {offs : Array Int} {len : Nat} {x : Int32} {tgt : Nat} (v : Int) {off : Int} (hd : decode (cM M) pc = .ok (.tableswitch dflt lo hi offs, len)) (hx : x.toInt = v) (h1 : ¬ v < lo) (h2 : ¬ hi < v) (ho : offs[(v - lo).toNat]? = some off) (ht : (pc : Int) + off = (tgt : Int)) (k : Ru E M tgt L S σ Φ) : Ru E M pc L (.int x :: S) σ Φ := by
  obtain ⟨out, hp, k⟩ := k
  exact ⟨out, hp, r_tin v hd hx h1 h2 ho ht k⟩
theorem s_getI {c' ci k0 idx : Nat} {fs : List (Option Nat)} (hd : decode (cM M) pc = .ok (.getfield idx, 3)) (hf : FL (oM M) idx ci k0) (hy : lays[c']? = some (.inr (ci, fs))) (hk : fs[k0]? = some none) {v : Int32} (hv : σ c' k0 = v) (k : Ru E M (pc + 3) L (.int v :: S) σ Φ) : Ru E M pc L (.ref c' :: S) σ Φ := by
  obtain ⟨out, hp, k⟩ := k
  exact ⟨out, hp, r_getI hd hf hy hk hv k⟩
theorem s_getR {c' ci k0 idx q : Nat} {fs : List (Option Nat)} (hd : decode (cM M) pc = .ok (.getfield idx, 3)) (hf : FL (oM M) idx ci k0) (hy : lays[c']? = some (.inr (ci, fs))) (hk : fs[k0]? = some (some q)) (k : Ru E M (pc + 3) L (.ref q :: S) σ Φ) : Ru E M pc L (.ref c' :: S) σ Φ := by
  obtain ⟨out, hp, k⟩ := k
  exact ⟨out, hp, r_getR hd hf hy hk k⟩
theorem s_put {c' ci k0 idx : Nat} {fs : List (Option Nat)} {ty : FieldType} {v : Int32} (hd : decode (cM M) pc = .ok (.putfield idx, 3)) (hf : FP (oM M) idx ci k0 ty) (hy : lays[c']? = some (.inr (ci, fs))) (hk : fs[k0]? = some none) (hn : narrow ty (.int v) = .int v) (hfit : fits ty (.int v) = true) (k : Ru E M (pc + 3) L S (up σ c' k0 v) Φ) : Ru E M pc L (.int v :: .ref c' :: S) σ Φ := by
  obtain ⟨out, hp, k⟩ := k
  exact ⟨out, hp, r_put hd hf hy hk hn hfit k⟩
theorem s_iald {c' n b st : Nat} {i : Int32} (hd : decode (cM M) pc = .ok (.iaload, 1)) (hy : lays[c']? = some (.inl (0, n, b, st))) (hin : vp_in i n) (k : Ru E M (pc + 1) L (.int (σ c' i.toNatClampNeg) :: S) σ Φ) : Ru E M pc L (.int i :: .ref c' :: S) σ Φ := by
  obtain ⟨out, hp, k⟩ := k
  exact ⟨out, hp, r_iald hd hy hin k⟩
theorem s_zald {c' n b st : Nat} {i : Int32} (hd : decode (cM M) pc = .ok (.baload, 1)) (hy : lays[c']? = some (.inl (1, n, b, st))) (hin : vp_in i n) (k : Ru E M (pc + 1) L (.int (σ c' i.toNatClampNeg) :: S) σ Φ) : Ru E M pc L (.int i :: .ref c' :: S) σ Φ := by
  obtain ⟨out, hp, k⟩ := k
  exact ⟨out, hp, r_zald hd hy hin k⟩
theorem s_aaldR {c' n b st : Nat} {i : Int32} (hd : decode (cM M) pc = .ok (.aaload, 1)) (hy : lays[c']? = some (.inl (2, n, b, st))) (hin : vp_in i n) (k : Ru E M (pc + 1) L (.ref (b + st * i.toNatClampNeg) :: S) σ Φ) : Ru E M pc L (.int i :: .ref c' :: S) σ Φ := by
  obtain ⟨out, hp, k⟩ := k
  exact ⟨out, hp, r_aaldR hd hy hin k⟩
theorem s_aaldS {c' n b st : Nat} {i : Int32} (hd : decode (cM M) pc = .ok (.aaload, 1)) (hy : lays[c']? = some (.inl (3, n, b, st))) (hin : vp_in i n) (k : Ru E M (pc + 1) L (.ref (b + st * i.toNatClampNeg) :: S) σ Φ) : Ru E M pc L (.int i :: .ref c' :: S) σ Φ := by
  obtain ⟨out, hp, k⟩ := k
  exact ⟨out, hp, r_aaldS hd hy hin k⟩
theorem s_iast {c' n b st : Nat} {i x : Int32} (hd : decode (cM M) pc = .ok (.iastore, 1)) (hy : lays[c']? = some (.inl (0, n, b, st))) (hin : vp_in i n) (k : Ru E M (pc + 1) L S (up σ c' i.toNatClampNeg x) Φ) : Ru E M pc L (.int x :: .int i :: .ref c' :: S) σ Φ := by
  obtain ⟨out, hp, k⟩ := k
  exact ⟨out, hp, r_iast hd hy hin k⟩
theorem s_zast {c' n b st : Nat} {i x : Int32} (hd : decode (cM M) pc = .ok (.bastore, 1)) (hy : lays[c']? = some (.inl (1, n, b, st))) (hin : vp_in i n) (hx : vp_nar .boolean x = x) (k : Ru E M (pc + 1) L S (up σ c' i.toNatClampNeg x) Φ) : Ru E M pc L (.int x :: .int i :: .ref c' :: S) σ Φ := by
  obtain ⟨out, hp, k⟩ := k
  exact ⟨out, hp, r_zast hd hy hin hx k⟩
theorem s_sx {i : Int32} (hd : decode (cM M) pc = .ok (.iaload, 1)) (hin : vp_in i 4) (k : Ru E M (pc + 1) L (.int (stX i.toNatClampNeg) :: S) σ Φ) : Ru E M pc L (.int i :: .ref 100 :: S) σ Φ := by
  obtain ⟨out, hp, k⟩ := k
  exact ⟨out, hp, r_sx hd hin k⟩
theorem s_sy {i : Int32} (hd : decode (cM M) pc = .ok (.iaload, 1)) (hin : vp_in i 4) (k : Ru E M (pc + 1) L (.int (stY i.toNatClampNeg) :: S) σ Φ) : Ru E M pc L (.int i :: .ref 101 :: S) σ Φ := by
  obtain ⟨out, hp, k⟩ := k
  exact ⟨out, hp, r_sy hd hin k⟩
theorem s_scr {i : Int32} (hd : decode (cM M) pc = .ok (.iaload, 1)) (hin : vp_in i (eL E)) (k : Ru E M (pc + 1) L (.int (eX E i.toNatClampNeg) :: S) σ Φ) : Ru E M pc L (.int i :: .ref 102 :: S) σ Φ := by
  obtain ⟨out, hp, k⟩ := k
  exact ⟨out, hp, r_scr hd hin k⟩
theorem s_slen (hd : decode (cM M) pc = .ok (.arraylength, 1)) (k : Ru E M (pc + 1) L (.int (Int32.ofNat (eL E)) :: S) σ Φ) : Ru E M pc L (.ref 102 :: S) σ Φ := by
  obtain ⟨out, hp, k⟩ := k
  exact ⟨out, hp, r_slen hd k⟩
theorem s_gsx {idx : Nat} {host : String} (hd : decode (cM M) pc = .ok (.getstatic idx, 3)) (hw : Cond.fieldLinkNest (oM M) idx "CompassMarriage" "STEP_X" "[I" host ∈ tb) (k : Ru E M (pc + 3) L (.ref 100 :: S) σ Φ) : Ru E M pc L S σ Φ := by
  obtain ⟨out, hp, k⟩ := k
  exact ⟨out, hp, r_gsx hd hw k⟩
theorem s_gsy {idx : Nat} {host : String} (hd : decode (cM M) pc = .ok (.getstatic idx, 3)) (hw : Cond.fieldLinkNest (oM M) idx "CompassMarriage" "STEP_Y" "[I" host ∈ tb) (k : Ru E M (pc + 3) L (.ref 101 :: S) σ Φ) : Ru E M pc L S σ Φ := by
  obtain ⟨out, hp, k⟩ := k
  exact ⟨out, hp, r_gsy hd hw k⟩
theorem s_callV {M' : MI} {idx n c' ci : Nat} {fs : List (Option Nat)} {q : vw_C} {S0 : List Value} (As : List Value) {r : Option Value} {σ1 : Hp} (hd : decode (cM M) pc = .ok (.invokevirtual idx, 3)) (hm : MV M' n) (hw : Cond.methodLink (oM M) idx (yM M') ∈ tb) (hF : Fit M M') (hs : S0 = As.reverse ++ .ref c' :: S) (hn : As.length = n) (hy : lays[c']? = some (.inr (ci, fs))) (hq : vwCl[ci]? = some q) (hqn : q.1 = (yM M').cls) (hst : (S.map fun v => v.category).sum ≤ 8)
    (hc : Call E M' (.ref c' :: As) σ r σ1) (k : Ru E M (pc + 3) L (r.toList ++ S) σ1 Φ) : Ru E M pc L S0 σ Φ := by
  obtain ⟨out, hp, k⟩ := k
  exact ⟨out, hp, r_callV As hd hm hw hF hs hn hy hq hqn hst hc k⟩
theorem s_callS {M' : MI} {idx n : Nat} {S0 : List Value} (As : List Value) {r : Option Value} {σ1 : Hp} (hd : decode (cM M) pc = .ok (.invokestatic idx, 3)) (hm : MS M' n) (hw : Cond.methodLink (oM M) idx (yM M') ∈ tb) (hF : Fit M M') (hs : S0 = As.reverse ++ S) (hn : As.length = n) (hst : (S.map fun v => v.category).sum ≤ 8)
    (hc : Call E M' As σ r σ1) (k : Ru E M (pc + 3) L (r.toList ++ S) σ1 Φ) : Ru E M pc L S0 σ Φ := by
  obtain ⟨out, hp, k⟩ := k
  exact ⟨out, hp, r_callS As hd hm hw hF hs hn hst hc k⟩
theorem s_callSN {M' : MI} {idx n : Nat} {host : String} {S0 : List Value} (As : List Value) {r : Option Value} {σ1 : Hp} (hd : decode (cM M) pc = .ok (.invokestatic idx, 3)) (hm : MS M' n) (hw : Cond.methodLinkNest (oM M) idx (yM M') host ∈ tb) (hF : Fit M M') (hs : S0 = As.reverse ++ S) (hn : As.length = n) (hst : (S.map fun v => v.category).sum ≤ 8)
    (hc : Call E M' As σ r σ1) (k : Ru E M (pc + 3) L (r.toList ++ S) σ1 Φ) : Ru E M pc L S0 σ Φ := by
  obtain ⟨out, hp, k⟩ := k
  exact ⟨out, hp, r_callSN As hd hm hw hF hs hn hst hc k⟩
theorem s_max {idx : Nat} {x y : Int32} (hd : decode (cM M) pc = .ok (.invokestatic idx, 3)) (hw : Cond.methodLink (oM M) idx Lib.Math.max.name ∈ tb) (h1 : Cond.static Lib.Math.max.name ∈ tb) (h2 : Cond.initialized "java/lang/Math" ∈ tb) (h3 : Cond.code Lib.Math.max.name Lib.Math.max.code 2 (some .int) ∈ tb) (hf : 1 ≤ frM M) (hst : (S.map fun v => v.category).sum + 13 ≤ loM M) (k : Ru E M (pc + 3) L (.int (if x < y then y else x) :: S) σ Φ) : Ru E M pc L (.int y :: .int x :: S) σ Φ := by
  obtain ⟨out, hp, k⟩ := k
  exact ⟨out, hp, r_max hd hw h1 h2 h3 hf hst k⟩
theorem s_min {idx : Nat} {x y : Int32} (hd : decode (cM M) pc = .ok (.invokestatic idx, 3)) (hw : Cond.methodLink (oM M) idx Lib.Math.min.name ∈ tb) (h1 : Cond.static Lib.Math.min.name ∈ tb) (h2 : Cond.initialized "java/lang/Math" ∈ tb) (h3 : Cond.code Lib.Math.min.name Lib.Math.min.code 2 (some .int) ∈ tb) (hf : 1 ≤ frM M) (hst : (S.map fun v => v.category).sum + 13 ≤ loM M) (k : Ru E M (pc + 3) L (.int (if y < x then y else x) :: S) σ Φ) : Ru E M pc L (.int y :: .int x :: S) σ Φ := by
  obtain ⟨out, hp, k⟩ := k
  exact ⟨out, hp, r_min hd hw h1 h2 h3 hf hst k⟩
theorem s_acopy {idx c0 c1 n0 n1 b0 s0 b1 s1 : Nat} {sp dp n : Int32} (hd : decode (cM M) pc = .ok (.invokestatic idx, 3)) (hw : Cond.methodLink (oM M) idx arraycopyName ∈ tb) (w1 : Cond.native arraycopyName ∈ tb) (w2 : Cond.static arraycopyName ∈ tb) (w3 : Cond.initialized "java/lang/System" ∈ tb) (hy0 : lays[c0]? = some (.inl (0, n0, b0, s0))) (hy1 : lays[c1]? = some (.inl (0, n1, b1, s1)))
    (h1 : ¬ sp < 0) (h2 : ¬ dp < 0) (h3 : ¬ n < 0) (h4 : sp.toNatClampNeg + n.toNatClampNeg ≤ n0) (h5 : dp.toNatClampNeg + n.toNatClampNeg ≤ n1) (hf : 1 ≤ frM M) (hst : (S.map fun v => v.category).sum + (nativeFrameWords "java/lang/System" "arraycopy" 5 + 11) ≤ loM M)
    (k : Ru E M (pc + 3) L S (upR σ c1 (va_cpy (σ c0) (σ c1) sp.toNatClampNeg dp.toNatClampNeg n.toNatClampNeg)) Φ) : Ru E M pc L (.int n :: .int dp :: .ref c1 :: .int sp :: .ref c0 :: S) σ Φ := by
  obtain ⟨out, hp, k⟩ := k
  exact ⟨out, hp, r_acopy hd hw w1 w2 w3 hy0 hy1 h1 h2 h3 h4 h5 hf hst k⟩
end RU
