/-! THE CLAIM OUT OF ONE WALK OF THE LAW'S BODY. Your part is whole_start (and what it stands on); all else here is the same for every law, but numbers. -/
def R_law : String := "CompassMarriageLaw"
def lw_P (b : Addr) (xs : List Int32) (args : Array Value) (s : State) : Prop := args = #[.ref b] ∧ s.IntsAt b xs ∧ xs.length ≤ 3072 ∧ (Jvm.Cond.and given_1 narrow_1).before args s = true
def lw_Q (_ : Array Value) (s : State) (o : Outcome) (t : State) : Prop := o = .returned (some (.int 1)) ∧ Framed s o t [] 600000 7302250
def lw_Z (below : List Frame) (a : Array Value) (s : State) : State → Prop := fun t => ∃ o, t.status = .running ∧ Ended t below o ∧ lw_Q a s o t
/-- the law's own end, with 1 on the stack, nothing written that was there before, its room as the claim has it -/
theorem lw_ret {p : Program} {l : Launch} {e : Env} {s : State} {m : MethodId} {below : List Frame} {meth : Method} {c : Code} {b : Nat} (hx : p.tables.exec = Jvm.exec) (hb : c.code = code) (hr : meth.sig.returnType = ret) (hlocks : meth.locks = false) {pc : Nat} {H : Heap} {ls : Array Slot} (hdg : decode code pc = .ok (.ireturn, 1)) : W p l e room_1 s m #[Value.ref b] below meth c H [] 600000 7302250 (lw_Z below #[Value.ref b] s) (F0 m pc ls [.int 1]) := by
  intro T hT X
  obtain ⟨fs, hret, hrun, hended, hW, hframe⟩ := X.leave (v := some (.int 1)) (hlocks := hlocks) (fun h => by rw [hr] at h; cases h)
  have hmeth' : T.vm.method? m = some meth := X.method'
  refine ⟨T.setFrames fs, ?_, .returned (some (.int 1)), hrun, hended, rfl, ⟨_, rfl⟩, hW, hframe⟩
  jvm_step X.here [X.here.top, hx, hb, hdg, hmeth', hr, ret, narrow_b1]
  (try refine ⟨rfl, ?_⟩); (try refine ⟨rfl, ?_⟩)
  first | (intro acts; rw [hret _ acts rfl rfl rfl]) | rw [hret _ _ rfl rfl rfl]
  exact Steps.refl _
/-- what holds at the law's entry: the machine, the code, the tables' words (any of lw_tbl by 'hts w (by decide +kernel)'), the script of L ints xs at the cell b, what the Statement gives of the start (any of its parts by flat_of_before) -/
def lw_At (p : Program) (s : State) (m : MethodId) (meth : Method) (c : Code) (b L : Nat) (xs : Nat → Int32) : Prop :=
  p.tables.exec = Jvm.exec ∧ c.code = code ∧ meth.sig.returnType = ret ∧ c.maxLocals = 4 ∧ s.vm.findClass R_law = some m.cls ∧ (∀ w ∈ lw_tbl, w.before #[Value.ref b] s = true) ∧ va_X b L xs s s.heap ∧ b < s.heap.size ∧ meth.locks = false ∧ (Jvm.Cond.and given_1 narrow_1).before #[Value.ref b] s = true
set_option maxHeartbeats 4000000 in
set_option maxRecDepth 100000 in
theorem lw_run {D : va_G} {A : Nat → ClassId} {q : Nat} {u : List Nat} {r : Nat} {v : List Nat} {tX tY : Nat} {p : Program} {e : Env} {s : State} {m : MethodId} {below : List Frame} {meth : Method} {c : Code} (l : Launch) {b L : Nat} {xs : Nat → Int32} (hL : L ≤ 3072) (C0 : lw_At p s m meth c b L xs) (hB : Bs D A s)
    (zX : va_Z "CompassMarriage" "STEP_X" "[I" (.ref tX) (fun q => s.heap.size ≤ q) s s.heap) (vX : va_T .int tX 4 (fun j => .int (stX j)) (fun q => s.heap.size ≤ q) s s.heap) (zY : va_Z "CompassMarriage" "STEP_Y" "[I" (.ref tY) (fun q => s.heap.size ≤ q) s s.heap) (vY : va_T .int tY 4 (fun j => .int (stY j)) (fun q => s.heap.size ≤ q) s s.heap)
    {ls : Array Slot} {H : Heap} {locs : List Loc} (hl : lv_has ls 4 [(3, .int 0), (2, .ref r), (1, .ref q), (0, .ref b)])
    (hP : va_P D vwCl (((wX7 A q u ++ wX8 A r v).set 30 (cQ (A 2) (ad u 29) 8 (fun i => some (e0 q u r v tX tY b (31 + 1 * i))))).set 44 (cQ (A 3) (ad u 43) 4 (fun i => some (e0 q u r v tX tY b (45 + 2 * i))))) H) (hD : va_D (fun q => s.heap.size ≤ q) (((wX7 A q u ++ wX8 A r v).set 30 (cQ (A 2) (ad u 29) 8 (fun i => some (e0 q u r v tX tY b (31 + 1 * i))))).set 44 (cQ (A 3) (ad u 43) 4 (fun i => some (e0 q u r v tX tY b (45 + 2 * i)))))) (hS : va_S (fun q => s.heap.size ≤ q) s.heap H locs) :
    W p l e room_1 s m #[Value.ref b] below meth c H locs 91 2407 (lw_Z below #[Value.ref b] s) (F0 m 18 ls []) := by
  rw [← cells0 (D := D) (L := L) (xs := xs)] at hP hD
  generalize hE : E0 D A q u r v tX tY b L xs = E at hP hD
  have hAd : ∀ x, Ad E x → s.heap.size ≤ x := by
    rintro x ⟨k, hk, rfl⟩
    have hk' : k < lays.length := hk
    exact hD.2 k _ (cells_at (List.getElem?_eq_getElem hk'))
  have hout : ∀ x : Nat, x < s.heap.size → ¬ Ad E x := fun x h z => Nat.not_le.mpr h (hAd x z)
  have hDE : va_D (Ad E) (cells E s0) := by
    refine ⟨hD.1, fun k x hx => ?_⟩
    have hk : k < lays.length := by
      have h := (List.getElem?_eq_some_iff.mp hx).1
      unfold cells at h
      rw [List.length_mapIdx] at h
      exact h
    rw [cells_at (List.getElem?_eq_getElem hk)] at hx
    cases hx
    exact ⟨k, hk, rfl⟩
  have hSt : St E s s.heap := by
    subst hE
    exact ⟨zX.narrow hAd, vX.narrow hAd, zY.narrow hAd, vY.narrow hAd, C0.2.2.2.2.2.2.1, C0.2.2.2.2.2.2.2.1, hout _ C0.2.2.2.2.2.2.2.1⟩
  have hK : va_K (eD E) vwCl (tys E) s := by
    subst hE
    exact hB.1
  have hPE : va_P (eD E) vwCl (cells E s0) H := by
    subst hE
    exact hP
  have hlE : lv_has ls (lM mL_law) (cL E [(0, .ref 102), (1, .ref 0), (2, .ref 53), (3, .int (nI 0))]) := by
    subst hE
    exact lv_sub hl [3, 2, 1, 0] rfl
  have hLE : eL E ≤ 3072 := by
    subst hE
    exact hL
  refine va_forget (fun x hx => hS.2.2 x hx) ?_
  obtain ⟨out, ho, hr⟩ := law_loop hLE (eL E + 6) 0 a0 s0 (by omega) ok_a0 stX_a0 stM_a0
  refine hr p l e room_1 s m #[Value.ref b] below meth c 91 2407 (lw_Z below #[Value.ref b] s) ⟨C0.1, C0.2.1, C0.2.2.2.1, C0.2.2.2.2.1, fun w hw => C0.2.2.2.2.2.1 w (tb_sub hw), hK, hSt, ⟨by decide, by decide, by decide, by decide⟩, ?_⟩ ls H [] hlE ⟨hPE, hDE, hS.1, fun x h1 _ => hS.2.1 x h1 (Nat.not_le.mpr h1), fun x h => by cases h⟩
  intro pc ls2 H2 locs2 hret hH2
  obtain ⟨o1, o2⟩ := out
  dsimp only at ho hret hH2
  subst ho
  refine va_forget (fun x hx => hAd _ (hH2.2.2.2.2 x hx)) ?_
  refine W.widen (k := 600000) (n := 7302250) (by decide) (by decide) ?_
  exact lw_ret C0.1 C0.2.1 C0.2.2.1 C0.2.2.2.2.2.2.2.2.1 hret.1
theorem lw_ci {D : va_G} {A : Nat → ClassId} {p : Program} {s : State} {m : MethodId} {meth : Method} {c : Code} {b L : Nat} {xs : Nat → Int32} (C0 : lw_At p s m meth c b L xs) (hB : Bs D A s) : Ci D A mL_law 91 2407 p room_1 s m #[Value.ref b] c :=
  ⟨C0.1, C0.2.1, C0.2.2.2.1, C0.2.2.2.2.1, fun w hw => C0.2.2.2.2.2.1 w (tb_sub hw), hB, ⟨by decide, by decide, by decide, by decide⟩⟩
set_option maxHeartbeats 4000000 in
set_option maxRecDepth 100000 in
theorem whole_start {p : Program} {e : Env} {s : State} {m : MethodId} {below : List Frame} {meth : Method} {c : Code} (l : Launch) {b L : Nat} {xs : Nat → Int32} (hL : L ≤ 3072) (C0 : lw_At p s m meth c b L xs) : W p l e room_1 s m #[Value.ref b] below meth c s.heap [] 0 0 (lw_Z below #[Value.ref b] s) (entryFrame m ([Value.ref b] : List Value).toArray 4) := by
  obtain ⟨D, A, hB⟩ := st_K C0.2.2.2.2.2.1
  obtain ⟨tX, zX, vX⟩ := st_stX C0.2.2.2.2.2.1 C0.2.2.2.2.2.2.2.2.2
  obtain ⟨tY, zY, vY⟩ := st_stY C0.2.2.2.2.2.1 C0.2.2.2.2.2.2.2.2.2
  have C := lw_ci C0 hB
  have hl := lv_entry ([.ref b]) (n := 4) (Nat.le_of_ble_eq_true rfl)
  rw [lg_entry_eq]
  generalize (lg_sl ([.ref b]) ++ List.replicate (4 - (lg_sl ([.ref b])).length) Slot.unset).toArray = ls at hl ⊢
  have hl : lv_has ls (lM mL_law) [(0, .ref b)] := hl
  have hA : ∀ q, s.heap.size ≤ q → (fun q => s.heap.size ≤ q) q := fun _ h => h
  have hP : va_P D vwCl [] s.heap := fun k q h => by cases h
  have hD : va_D (fun q => s.heap.size ≤ q) [] := ⟨fun i j p q h => (by cases h), fun k q h => (by cases h)⟩
  have hS : va_S (fun q => s.heap.size ≤ q) s.heap s.heap [] := va_S.rf
  refine W.eq (g2 := F0 m 0 ls []) rfl ?_
  refine c_make (pc := 0) (nc' := 53) (ns' := 649) C hA hl dL_law_0 dL_law_3 dL_law_4 nw_L_7 lk_L_9 ⟨by decide, by decide⟩ (kt_X7 D A) (Nat.zero_le _) rfl rfl (Nat.le_of_ble_eq_true rfl) (Nat.le_of_ble_eq_true rfl) hP hD hS (fun q u H locs hP hD hS => ?_)
  refine lv_astore_n C.1 C.2.1 dL_law_7 rfl hl (by decide) rfl (fun ls hl => ?_)
  refine c_make (pc := 8) (nc' := 91) (ns' := 2407) C hA hl dL_law_8 dL_law_11 dL_law_12 nw_L_10 lk_L_12 ⟨by decide, by decide⟩ (kt_X8 D A) (Nat.zero_le _) rfl rfl (Nat.le_of_ble_eq_true rfl) (Nat.le_of_ble_eq_true rfl) hP hD hS (fun r v H locs hP hD hS => ?_)
  refine lv_astore_n C.1 C.2.1 dL_law_15 rfl hl (by decide) rfl (fun ls hl => ?_)
  refine lv_iconst (v := 0) C.1 C.2.1 dL_law_16 (by decide) ?_
  refine lv_istore_n C.1 C.2.1 dL_law_17 rfl hl (by decide) rfl (fun ls hl => ?_)
  obtain ⟨hP, hD⟩ := vz_re (j := 30) (g := fun i => some (e0 q u r v tX tY b (31 + 1 * i))) hP hD rfl (fun i hi => by
    match i, hi with
    | 0, _ => rfl
    | 1, _ => rfl
    | 2, _ => rfl
    | 3, _ => rfl
    | 4, _ => rfl
    | 5, _ => rfl
    | 6, _ => rfl
    | 7, _ => rfl
    | i + 8, h => exact absurd h (by omega))
  obtain ⟨hP, hD⟩ := vz_re (j := 44) (g := fun i => some (e0 q u r v tX tY b (45 + 2 * i))) hP hD rfl (fun i hi => by
    match i, hi with
    | 0, _ => rfl
    | 1, _ => rfl
    | 2, _ => rfl
    | 3, _ => rfl
    | i + 4, h => exact absurd h (by omega))
  exact lw_run l hL C0 hB zX vX zY vY hl hP hD hS
