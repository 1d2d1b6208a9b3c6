set_option maxRecDepth 10000 in
set_option maxHeartbeats 4000000 in
theorem tL_law_18 {E : Ev} {x3 : Int32} {σ : Hp} {Φ : Option Value → Hp → Prop}  (h : ((((Int32.ofNat (eL E)) - 6) < x3 → Φ (some (.int 1)) σ) ∧ (¬ ((Int32.ofNat (eL E)) - 6) < x3 → vp_in x3 (eL E) ∧ ((((eX E (x3).toNatClampNeg) &&& 63) = (0 : Int32) → vp_in (x3 + 1) (eL E) ∧ ∃ (r7 : Int32) (σ5 : Hp), Call E mX7_type [.ref 0, .int (eX E (x3 + 1).toNatClampNeg)] σ (some (.int r7)) σ5 ∧ ∃ (r11 : Int32) (σ9 : Hp), Call E mX8_type [.ref 53, .int (eX E (x3 + 1).toNatClampNeg)] σ5 (some (.int r11)) σ9 ∧ ((r7 = r11 → Ru E mL_law 18 [(0, .ref 102), (1, .ref 0), (2, .ref 53), (3, .int (x3 + 6))] [] σ9 Φ) ∧ (¬ r7 = r11 → Φ (some (.int 0)) σ9))) ∧ (((eX E (x3).toNatClampNeg) &&& 63) = (1 : Int32) → ∃ (r16 : Int32) (σ14 : Hp), Call E mX7_wipe [.ref 0] σ (some (.int r16)) σ14 ∧ ∃ (r19 : Int32) (σ17 : Hp), Call E mX8_wipe [.ref 53] σ14 (some (.int r19)) σ17 ∧ ((r16 = r19 → Ru E mL_law 18 [(0, .ref 102), (1, .ref 0), (2, .ref 53), (3, .int (x3 + 6))] [] σ17 Φ) ∧ (¬ r16 = r19 → Φ (some (.int 0)) σ17))) ∧ (((eX E (x3).toNatClampNeg) &&& 63) = (2 : Int32) → ∃ (r24 : Int32) (σ22 : Hp), Call E mX7_undo [.ref 0] σ (some (.int r24)) σ22 ∧ ∃ (r27 : Int32) (σ25 : Hp), Call E mX8_undo [.ref 53] σ22 (some (.int r27)) σ25 ∧ ((r24 = r27 → Ru E mL_law 18 [(0, .ref 102), (1, .ref 0), (2, .ref 53), (3, .int (x3 + 6))] [] σ25 Φ) ∧ (¬ r24 = r27 → Φ (some (.int 0)) σ25))) ∧ (((eX E (x3).toNatClampNeg) &&& 63) = (3 : Int32) → ∃ (r32 : Int32) (σ30 : Hp), Call E mX7_fault [.ref 0] σ (some (.int r32)) σ30 ∧ ∃ (r35 : Int32) (σ33 : Hp), Call E mX8_fault [.ref 53] σ30 (some (.int r35)) σ33 ∧ ((r32 = r35 → Ru E mL_law 18 [(0, .ref 102), (1, .ref 0), (2, .ref 53), (3, .int (x3 + 6))] [] σ33 Φ) ∧ (¬ r32 = r35 → Φ (some (.int 0)) σ33))) ∧ (((eX E (x3).toNatClampNeg) &&& 63) = (4 : Int32) → vp_in (x3 + 1) (eL E) ∧ vp_in (x3 + 2) (eL E) ∧ ∃ (r42 : Int32) (σ40 : Hp), Call E mX7_couple [.ref 0, .int (eX E (x3 + 1).toNatClampNeg), .int (eX E (x3 + 2).toNatClampNeg)] σ (some (.int r42)) σ40 ∧ ∃ (r47 : Int32) (σ45 : Hp), Call E mX8_couple [.ref 53, .int (eX E (x3 + 1).toNatClampNeg), .int (eX E (x3 + 2).toNatClampNeg)] σ40 (some (.int r47)) σ45 ∧ ((r42 = r47 → Ru E mL_law 18 [(0, .ref 102), (1, .ref 0), (2, .ref 53), (3, .int (x3 + 6))] [] σ45 Φ) ∧ (¬ r42 = r47 → Φ (some (.int 0)) σ45))) ∧ (((eX E (x3).toNatClampNeg) &&& 63) = (5 : Int32) → vp_in (x3 + 1) (eL E) ∧ vp_in (x3 + 2) (eL E) ∧ vp_in (x3 + 3) (eL E) ∧ vp_in (x3 + 4) (eL E) ∧ ∃ (r56 : Int32) (σ54 : Hp), Call E mX7_event [.ref 0, .int (eX E (x3 + 1).toNatClampNeg), .int (eX E (x3 + 2).toNatClampNeg), .int (eX E (x3 + 3).toNatClampNeg), .int (eX E (x3 + 4).toNatClampNeg)] σ (some (.int r56)) σ54 ∧ ∃ (r63 : Int32) (σ61 : Hp), Call E mX8_event [.ref 53, .int (eX E (x3 + 1).toNatClampNeg), .int (eX E (x3 + 2).toNatClampNeg), .int (eX E (x3 + 3).toNatClampNeg), .int (eX E (x3 + 4).toNatClampNeg)] σ54 (some (.int r63)) σ61 ∧ ((r56 = r63 → Ru E mL_law 18 [(0, .ref 102), (1, .ref 0), (2, .ref 53), (3, .int (x3 + 6))] [] σ61 Φ) ∧ (¬ r56 = r63 → Φ (some (.int 0)) σ61))) ∧ (((eX E (x3).toNatClampNeg) &&& 63) = (6 : Int32) → ∃ (r68 : Int32) (σ66 : Hp), Call E mX7_back [.ref 0] σ (some (.int r68)) σ66 ∧ ∃ (r71 : Int32) (σ69 : Hp), Call E mX8_back [.ref 53] σ66 (some (.int r71)) σ69 ∧ ((r68 = r71 → Ru E mL_law 18 [(0, .ref 102), (1, .ref 0), (2, .ref 53), (3, .int (x3 + 6))] [] σ69 Φ) ∧ (¬ r68 = r71 → Φ (some (.int 0)) σ69))) ∧ (((eX E (x3).toNatClampNeg) &&& 63) = (7 : Int32) → vp_in (x3 + 1) (eL E) ∧ ∃ (r77 : Int32) (σ75 : Hp), Call E mX7_read [.ref 0, .int (eX E (x3 + 1).toNatClampNeg)] σ (some (.int r77)) σ75 ∧ ∃ (r81 : Int32) (σ79 : Hp), Call E mX8_read [.ref 53, .int (eX E (x3 + 1).toNatClampNeg)] σ75 (some (.int r81)) σ79 ∧ ((r77 = r81 → Ru E mL_law 18 [(0, .ref 102), (1, .ref 0), (2, .ref 53), (3, .int (x3 + 6))] [] σ79 Φ) ∧ (¬ r77 = r81 → Φ (some (.int 0)) σ79))) ∧ (((eX E (x3).toNatClampNeg) &&& 63) = (8 : Int32) → vp_in (x3 + 1) (eL E) ∧ vp_in (x3 + 2) (eL E) ∧ vp_in (x3 + 3) (eL E) ∧ ∃ (r89 : Int32) (σ87 : Hp), Call E mX7_at [.ref 0, .int (eX E (x3 + 1).toNatClampNeg), .int (eX E (x3 + 2).toNatClampNeg), .int (eX E (x3 + 3).toNatClampNeg)] σ (some (.int r89)) σ87 ∧ ∃ (r95 : Int32) (σ93 : Hp), Call E mX8_at [.ref 53, .int (eX E (x3 + 1).toNatClampNeg), .int (eX E (x3 + 2).toNatClampNeg), .int (eX E (x3 + 3).toNatClampNeg)] σ87 (some (.int r95)) σ93 ∧ ((r89 = r95 → Ru E mL_law 18 [(0, .ref 102), (1, .ref 0), (2, .ref 53), (3, .int (x3 + 6))] [] σ93 Φ) ∧ (¬ r89 = r95 → Φ (some (.int 0)) σ93))) ∧ (((eX E (x3).toNatClampNeg) &&& 63) = (9 : Int32) → vp_in (x3 + 1) (eL E) ∧ vp_in (x3 + 2) (eL E) ∧ vp_in (x3 + 3) (eL E) ∧ ∃ (r103 : Int32) (σ101 : Hp), Call E mX7_place [.ref 0, .int (eX E (x3 + 1).toNatClampNeg), .int (eX E (x3 + 2).toNatClampNeg), .int (eX E (x3 + 3).toNatClampNeg)] σ (some (.int r103)) σ101 ∧ ∃ (r109 : Int32) (σ107 : Hp), Call E mX8_place [.ref 53, .int (eX E (x3 + 1).toNatClampNeg), .int (eX E (x3 + 2).toNatClampNeg), .int (eX E (x3 + 3).toNatClampNeg)] σ101 (some (.int r109)) σ107 ∧ ((r103 = r109 → Ru E mL_law 18 [(0, .ref 102), (1, .ref 0), (2, .ref 53), (3, .int (x3 + 6))] [] σ107 Φ) ∧ (¬ r103 = r109 → Φ (some (.int 0)) σ107))) ∧ (((eX E (x3).toNatClampNeg) &&& 63) = (10 : Int32) → vp_in (x3 + 1) (eL E) ∧ vp_in (x3 + 2) (eL E) ∧ vp_in (x3 + 3) (eL E) ∧ ∃ (r117 : Int32) (σ115 : Hp), Call E mX7_are [.ref 0, .int (eX E (x3 + 1).toNatClampNeg), .int (eX E (x3 + 2).toNatClampNeg), .int (eX E (x3 + 3).toNatClampNeg)] σ (some (.int r117)) σ115 ∧ ∃ (r123 : Int32) (σ121 : Hp), Call E mX8_are [.ref 53, .int (eX E (x3 + 1).toNatClampNeg), .int (eX E (x3 + 2).toNatClampNeg), .int (eX E (x3 + 3).toNatClampNeg)] σ115 (some (.int r123)) σ121 ∧ ((r117 = r123 → Ru E mL_law 18 [(0, .ref 102), (1, .ref 0), (2, .ref 53), (3, .int (x3 + 6))] [] σ121 Φ) ∧ (¬ r117 = r123 → Φ (some (.int 0)) σ121))) ∧ (((eX E (x3).toNatClampNeg) &&& 63) = (11 : Int32) → vp_in (x3 + 1) (eL E) ∧ vp_in (x3 + 2) (eL E) ∧ ∃ (r130 : Int32) (σ128 : Hp), Call E mX7_pairs [.ref 0, .int (eX E (x3 + 1).toNatClampNeg), .int (eX E (x3 + 2).toNatClampNeg)] σ (some (.int r130)) σ128 ∧ ∃ (r135 : Int32) (σ133 : Hp), Call E mX8_pairs [.ref 53, .int (eX E (x3 + 1).toNatClampNeg), .int (eX E (x3 + 2).toNatClampNeg)] σ128 (some (.int r135)) σ133 ∧ ((r130 = r135 → Ru E mL_law 18 [(0, .ref 102), (1, .ref 0), (2, .ref 53), (3, .int (x3 + 6))] [] σ133 Φ) ∧ (¬ r130 = r135 → Φ (some (.int 0)) σ133))) ∧ (((eX E (x3).toNatClampNeg) &&& 63) = (12 : Int32) → vp_in (x3 + 1) (eL E) ∧ ∃ (r141 : Int32) (σ139 : Hp), Call E mX7_closed [.ref 0, .int (eX E (x3 + 1).toNatClampNeg)] σ (some (.int r141)) σ139 ∧ ∃ (r145 : Int32) (σ143 : Hp), Call E mX8_closed [.ref 53, .int (eX E (x3 + 1).toNatClampNeg)] σ139 (some (.int r145)) σ143 ∧ ((r141 = r145 → Ru E mL_law 18 [(0, .ref 102), (1, .ref 0), (2, .ref 53), (3, .int (x3 + 6))] [] σ143 Φ) ∧ (¬ r141 = r145 → Φ (some (.int 0)) σ143))) ∧ (((eX E (x3).toNatClampNeg) &&& 63) = (13 : Int32) → ∃ (r150 : Int32) (σ148 : Hp), Call E mX7_holes [.ref 0] σ (some (.int r150)) σ148 ∧ ∃ (r153 : Int32) (σ151 : Hp), Call E mX8_holes [.ref 53] σ148 (some (.int r153)) σ151 ∧ ((r150 = r153 → Ru E mL_law 18 [(0, .ref 102), (1, .ref 0), (2, .ref 53), (3, .int (x3 + 6))] [] σ151 Φ) ∧ (¬ r150 = r153 → Φ (some (.int 0)) σ151))) ∧ (((eX E (x3).toNatClampNeg) &&& 63) = (14 : Int32) → vp_in (x3 + 1) (eL E) ∧ ∃ (r159 : Int32) (σ157 : Hp), Call E mX7_ringed [.ref 0, .int (eX E (x3 + 1).toNatClampNeg)] σ (some (.int r159)) σ157 ∧ ∃ (r163 : Int32) (σ161 : Hp), Call E mX8_ringed [.ref 53, .int (eX E (x3 + 1).toNatClampNeg)] σ157 (some (.int r163)) σ161 ∧ ((r159 = r163 → Ru E mL_law 18 [(0, .ref 102), (1, .ref 0), (2, .ref 53), (3, .int (x3 + 6))] [] σ161 Φ) ∧ (¬ r159 = r163 → Φ (some (.int 0)) σ161))) ∧ (((eX E (x3).toNatClampNeg) &&& 63) = (15 : Int32) → vp_in (x3 + 1) (eL E) ∧ ∃ (r169 : Int32) (σ167 : Hp), Call E mX7_meets [.ref 0, .int (eX E (x3 + 1).toNatClampNeg)] σ (some (.int r169)) σ167 ∧ ∃ (r173 : Int32) (σ171 : Hp), Call E mX8_meets [.ref 53, .int (eX E (x3 + 1).toNatClampNeg)] σ167 (some (.int r173)) σ171 ∧ ((r169 = r173 → Ru E mL_law 18 [(0, .ref 102), (1, .ref 0), (2, .ref 53), (3, .int (x3 + 6))] [] σ171 Φ) ∧ (¬ r169 = r173 → Φ (some (.int 0)) σ171))) ∧ (((eX E (x3).toNatClampNeg) &&& 63) = (16 : Int32) → vp_in (x3 + 1) (eL E) ∧ vp_in (x3 + 2) (eL E) ∧ vp_in (x3 + 3) (eL E) ∧ ∃ (r181 : Int32) (σ179 : Hp), Call E mX7_open [.ref 0, .int (eX E (x3 + 1).toNatClampNeg), .int (eX E (x3 + 2).toNatClampNeg), .int (eX E (x3 + 3).toNatClampNeg)] σ (some (.int r181)) σ179 ∧ ∃ (r187 : Int32) (σ185 : Hp), Call E mX8_open [.ref 53, .int (eX E (x3 + 1).toNatClampNeg), .int (eX E (x3 + 2).toNatClampNeg), .int (eX E (x3 + 3).toNatClampNeg)] σ179 (some (.int r187)) σ185 ∧ ((r181 = r187 → Ru E mL_law 18 [(0, .ref 102), (1, .ref 0), (2, .ref 53), (3, .int (x3 + 6))] [] σ185 Φ) ∧ (¬ r181 = r187 → Φ (some (.int 0)) σ185))) ∧ (((eX E (x3).toNatClampNeg) &&& 63) = (17 : Int32) → vp_in (x3 + 1) (eL E) ∧ vp_in (x3 + 2) (eL E) ∧ vp_in (x3 + 3) (eL E) ∧ ∃ (r195 : Int32) (σ193 : Hp), Call E mX7_stand [.ref 0, .int (eX E (x3 + 1).toNatClampNeg), .int (eX E (x3 + 2).toNatClampNeg), .int (eX E (x3 + 3).toNatClampNeg)] σ (some (.int r195)) σ193 ∧ ∃ (r201 : Int32) (σ199 : Hp), Call E mX8_stand [.ref 53, .int (eX E (x3 + 1).toNatClampNeg), .int (eX E (x3 + 2).toNatClampNeg), .int (eX E (x3 + 3).toNatClampNeg)] σ193 (some (.int r201)) σ199 ∧ ((r195 = r201 → Ru E mL_law 18 [(0, .ref 102), (1, .ref 0), (2, .ref 53), (3, .int (x3 + 6))] [] σ199 Φ) ∧ (¬ r195 = r201 → Φ (some (.int 0)) σ199))) ∧ (((eX E (x3).toNatClampNeg) &&& 63) = (18 : Int32) → vp_in (x3 + 1) (eL E) ∧ ∃ (r207 : Int32) (σ205 : Hp), Call E mX7_swap [.ref 0, .int (eX E (x3 + 1).toNatClampNeg)] σ (some (.int r207)) σ205 ∧ ∃ (r211 : Int32) (σ209 : Hp), Call E mX8_swap [.ref 53, .int (eX E (x3 + 1).toNatClampNeg)] σ205 (some (.int r211)) σ209 ∧ ((r207 = r211 → Ru E mL_law 18 [(0, .ref 102), (1, .ref 0), (2, .ref 53), (3, .int (x3 + 6))] [] σ209 Φ) ∧ (¬ r207 = r211 → Φ (some (.int 0)) σ209))) ∧ (((eX E (x3).toNatClampNeg) &&& 63) = (19 : Int32) → vp_in (x3 + 1) (eL E) ∧ ∃ (r217 : Int32) (σ215 : Hp), Call E mX7_drop [.ref 0, .int (eX E (x3 + 1).toNatClampNeg)] σ (some (.int r217)) σ215 ∧ ∃ (r221 : Int32) (σ219 : Hp), Call E mX8_drop [.ref 53, .int (eX E (x3 + 1).toNatClampNeg)] σ215 (some (.int r221)) σ219 ∧ ((r217 = r221 → Ru E mL_law 18 [(0, .ref 102), (1, .ref 0), (2, .ref 53), (3, .int (x3 + 6))] [] σ219 Φ) ∧ (¬ r217 = r221 → Φ (some (.int 0)) σ219))) ∧ (((eX E (x3).toNatClampNeg) &&& 63) = (20 : Int32) → vp_in (x3 + 1) (eL E) ∧ vp_in (x3 + 2) (eL E) ∧ vp_in (x3 + 3) (eL E) ∧ vp_in (x3 + 4) (eL E) ∧ ∃ (r230 : Int32) (σ228 : Hp), Call E mX7_seen [.ref 0, .int (eX E (x3 + 1).toNatClampNeg), .int (eX E (x3 + 2).toNatClampNeg), .int (eX E (x3 + 3).toNatClampNeg), .int (eX E (x3 + 4).toNatClampNeg)] σ (some (.int r230)) σ228 ∧ ∃ (r237 : Int32) (σ235 : Hp), Call E mX8_seen [.ref 53, .int (eX E (x3 + 1).toNatClampNeg), .int (eX E (x3 + 2).toNatClampNeg), .int (eX E (x3 + 3).toNatClampNeg), .int (eX E (x3 + 4).toNatClampNeg)] σ228 (some (.int r237)) σ235 ∧ ((r230 = r237 → Ru E mL_law 18 [(0, .ref 102), (1, .ref 0), (2, .ref 53), (3, .int (x3 + 6))] [] σ235 Φ) ∧ (¬ r230 = r237 → Φ (some (.int 0)) σ235))) ∧ (((eX E (x3).toNatClampNeg) &&& 63) = (21 : Int32) → ∃ (r242 : Int32) (σ240 : Hp), Call E mX7_forget [.ref 0] σ (some (.int r242)) σ240 ∧ ∃ (r245 : Int32) (σ243 : Hp), Call E mX8_forget [.ref 53] σ240 (some (.int r245)) σ243 ∧ ((r242 = r245 → Ru E mL_law 18 [(0, .ref 102), (1, .ref 0), (2, .ref 53), (3, .int (x3 + 6))] [] σ243 Φ) ∧ (¬ r242 = r245 → Φ (some (.int 0)) σ243))) ∧ (((eX E (x3).toNatClampNeg) &&& 63) = (22 : Int32) → ∃ (r250 : Int32) (σ248 : Hp), Call E mX7_never [.ref 0] σ (some (.int r250)) σ248 ∧ ∃ (r253 : Int32) (σ251 : Hp), Call E mX8_never [.ref 53] σ248 (some (.int r253)) σ251 ∧ ((r250 = r253 → Ru E mL_law 18 [(0, .ref 102), (1, .ref 0), (2, .ref 53), (3, .int (x3 + 6))] [] σ251 Φ) ∧ (¬ r250 = r253 → Φ (some (.int 0)) σ251))) ∧ (((eX E (x3).toNatClampNeg) &&& 63) = (23 : Int32) → vp_in (x3 + 1) (eL E) ∧ vp_in (x3 + 2) (eL E) ∧ ∃ (r260 : Int32) (σ258 : Hp), Call E mX7_was [.ref 0, .int (eX E (x3 + 1).toNatClampNeg), .int (eX E (x3 + 2).toNatClampNeg)] σ (some (.int r260)) σ258 ∧ ∃ (r265 : Int32) (σ263 : Hp), Call E mX8_was [.ref 53, .int (eX E (x3 + 1).toNatClampNeg), .int (eX E (x3 + 2).toNatClampNeg)] σ258 (some (.int r265)) σ263 ∧ ((r260 = r265 → Ru E mL_law 18 [(0, .ref 102), (1, .ref 0), (2, .ref 53), (3, .int (x3 + 6))] [] σ263 Φ) ∧ (¬ r260 = r265 → Φ (some (.int 0)) σ263))) ∧ (((eX E (x3).toNatClampNeg) &&& 63) = (24 : Int32) → vp_in (x3 + 1) (eL E) ∧ ∃ (r271 : Int32) (σ269 : Hp), Call E mX7_ask [.ref 0, .int (eX E (x3 + 1).toNatClampNeg)] σ (some (.int r271)) σ269 ∧ ∃ (r275 : Int32) (σ273 : Hp), Call E mX8_ask [.ref 53, .int (eX E (x3 + 1).toNatClampNeg)] σ269 (some (.int r275)) σ273 ∧ ((r271 = r275 → Ru E mL_law 18 [(0, .ref 102), (1, .ref 0), (2, .ref 53), (3, .int (x3 + 6))] [] σ273 Φ) ∧ (¬ r271 = r275 → Φ (some (.int 0)) σ273))) ∧ (((eX E (x3).toNatClampNeg) &&& 63) = (25 : Int32) → vp_in (x3 + 1) (eL E) ∧ vp_in (x3 + 2) (eL E) ∧ vp_in (x3 + 3) (eL E) ∧ ∃ (r283 : Int64) (σ281 : Hp), Call E mX7_gossip [.ref 0, .int (eX E (x3 + 1).toNatClampNeg), .int (eX E (x3 + 2).toNatClampNeg), .int (eX E (x3 + 3).toNatClampNeg)] σ (some (.long r283)) σ281 ∧ ∃ (r289 : Int64) (σ287 : Hp), Call E mX8_gossip [.ref 53, .int (eX E (x3 + 1).toNatClampNeg), .int (eX E (x3 + 2).toNatClampNeg), .int (eX E (x3 + 3).toNatClampNeg)] σ281 (some (.long r289)) σ287 ∧ (((lg_cmp r283 r289) = 0 → Ru E mL_law 18 [(0, .ref 102), (1, .ref 0), (2, .ref 53), (3, .int (x3 + 6))] [] σ287 Φ) ∧ (¬ (lg_cmp r283 r289) = 0 → Φ (some (.int 0)) σ287))) ∧ (((eX E (x3).toNatClampNeg) &&& 63) = (26 : Int32) → vp_in (x3 + 1) (eL E) ∧ vp_in (x3 + 2) (eL E) ∧ vp_in (x3 + 3) (eL E) ∧ ∃ (r297 : Int32) (σ295 : Hp), Call E mX7_ages [.ref 0, .int (eX E (x3 + 1).toNatClampNeg), .int (eX E (x3 + 2).toNatClampNeg), .int (eX E (x3 + 3).toNatClampNeg)] σ (some (.int r297)) σ295 ∧ ∃ (r303 : Int32) (σ301 : Hp), Call E mX8_ages [.ref 53, .int (eX E (x3 + 1).toNatClampNeg), .int (eX E (x3 + 2).toNatClampNeg), .int (eX E (x3 + 3).toNatClampNeg)] σ295 (some (.int r303)) σ301 ∧ ((r297 = r303 → Ru E mL_law 18 [(0, .ref 102), (1, .ref 0), (2, .ref 53), (3, .int (x3 + 6))] [] σ301 Φ) ∧ (¬ r297 = r303 → Φ (some (.int 0)) σ301))) ∧ (((eX E (x3).toNatClampNeg) &&& 63) = (27 : Int32) → vp_in (x3 + 1) (eL E) ∧ vp_in (x3 + 2) (eL E) ∧ vp_in (x3 + 3) (eL E) ∧ ∃ (r311 : Int32) (σ309 : Hp), Call E mX7_sheet [.ref 0, .int (eX E (x3 + 1).toNatClampNeg), .int (eX E (x3 + 2).toNatClampNeg), .int (eX E (x3 + 3).toNatClampNeg)] σ (some (.int r311)) σ309 ∧ ∃ (r317 : Int32) (σ315 : Hp), Call E mX8_sheet [.ref 53, .int (eX E (x3 + 1).toNatClampNeg), .int (eX E (x3 + 2).toNatClampNeg), .int (eX E (x3 + 3).toNatClampNeg)] σ309 (some (.int r317)) σ315 ∧ ((r311 = r317 → Ru E mL_law 18 [(0, .ref 102), (1, .ref 0), (2, .ref 53), (3, .int (x3 + 6))] [] σ315 Φ) ∧ (¬ r311 = r317 → Φ (some (.int 0)) σ315))) ∧ (((eX E (x3).toNatClampNeg) &&& 63) = (28 : Int32) → vp_in (x3 + 1) (eL E) ∧ ∃ (r323 : Int32) (σ321 : Hp), Call E mX7_lose [.ref 0, .int (eX E (x3 + 1).toNatClampNeg)] σ (some (.int r323)) σ321 ∧ ∃ (r327 : Int32) (σ325 : Hp), Call E mX8_lose [.ref 53, .int (eX E (x3 + 1).toNatClampNeg)] σ321 (some (.int r327)) σ325 ∧ ((r323 = r327 → Ru E mL_law 18 [(0, .ref 102), (1, .ref 0), (2, .ref 53), (3, .int (x3 + 6))] [] σ325 Φ) ∧ (¬ r323 = r327 → Φ (some (.int 0)) σ325))) ∧ (((eX E (x3).toNatClampNeg) &&& 63) = (29 : Int32) → vp_in (x3 + 1) (eL E) ∧ vp_in (x3 + 2) (eL E) ∧ vp_in (x3 + 3) (eL E) ∧ vp_in (x3 + 4) (eL E) ∧ ∃ (r336 : Int32) (σ334 : Hp), Call E mX7_put [.ref 0, .int (eX E (x3 + 1).toNatClampNeg), .int (eX E (x3 + 2).toNatClampNeg), .int (eX E (x3 + 3).toNatClampNeg), .int (eX E (x3 + 4).toNatClampNeg)] σ (some (.int r336)) σ334 ∧ ∃ (r343 : Int32) (σ341 : Hp), Call E mX8_put [.ref 53, .int (eX E (x3 + 1).toNatClampNeg), .int (eX E (x3 + 2).toNatClampNeg), .int (eX E (x3 + 3).toNatClampNeg), .int (eX E (x3 + 4).toNatClampNeg)] σ334 (some (.int r343)) σ341 ∧ ((r336 = r343 → Ru E mL_law 18 [(0, .ref 102), (1, .ref 0), (2, .ref 53), (3, .int (x3 + 6))] [] σ341 Φ) ∧ (¬ r336 = r343 → Φ (some (.int 0)) σ341))) ∧ (((eX E (x3).toNatClampNeg) &&& 63) = (30 : Int32) → vp_in (x3 + 1) (eL E) ∧ vp_in (x3 + 2) (eL E) ∧ vp_in (x3 + 3) (eL E) ∧ ∃ (r351 : Int32) (σ349 : Hp), Call E mX7_get [.ref 0, .int (eX E (x3 + 1).toNatClampNeg), .int (eX E (x3 + 2).toNatClampNeg), .int (eX E (x3 + 3).toNatClampNeg)] σ (some (.int r351)) σ349 ∧ ∃ (r357 : Int32) (σ355 : Hp), Call E mX8_get [.ref 53, .int (eX E (x3 + 1).toNatClampNeg), .int (eX E (x3 + 2).toNatClampNeg), .int (eX E (x3 + 3).toNatClampNeg)] σ349 (some (.int r357)) σ355 ∧ ((r351 = r357 → Ru E mL_law 18 [(0, .ref 102), (1, .ref 0), (2, .ref 53), (3, .int (x3 + 6))] [] σ355 Φ) ∧ (¬ r351 = r357 → Φ (some (.int 0)) σ355))) ∧ (((eX E (x3).toNatClampNeg) &&& 63) = (31 : Int32) → vp_in (x3 + 1) (eL E) ∧ vp_in (x3 + 2) (eL E) ∧ vp_in (x3 + 3) (eL E) ∧ vp_in (x3 + 4) (eL E) ∧ vp_in (x3 + 5) (eL E) ∧ ∃ (r367 : Int32) (σ365 : Hp), Call E mX7_copy [.ref 0, .int (eX E (x3 + 1).toNatClampNeg), .int (eX E (x3 + 2).toNatClampNeg), .int (eX E (x3 + 3).toNatClampNeg), .int (eX E (x3 + 4).toNatClampNeg), .int (eX E (x3 + 5).toNatClampNeg)] σ (some (.int r367)) σ365 ∧ ∃ (r375 : Int32) (σ373 : Hp), Call E mX8_copy [.ref 53, .int (eX E (x3 + 1).toNatClampNeg), .int (eX E (x3 + 2).toNatClampNeg), .int (eX E (x3 + 3).toNatClampNeg), .int (eX E (x3 + 4).toNatClampNeg), .int (eX E (x3 + 5).toNatClampNeg)] σ365 (some (.int r375)) σ373 ∧ ((r367 = r375 → Ru E mL_law 18 [(0, .ref 102), (1, .ref 0), (2, .ref 53), (3, .int (x3 + 6))] [] σ373 Φ) ∧ (¬ r367 = r375 → Φ (some (.int 0)) σ373))) ∧ (((eX E (x3).toNatClampNeg) &&& 63) = (32 : Int32) → vp_in (x3 + 1) (eL E) ∧ vp_in (x3 + 2) (eL E) ∧ ∃ (r382 : Int32) (σ380 : Hp), Call E mX7_write [.ref 0, .int (eX E (x3 + 1).toNatClampNeg), .int (eX E (x3 + 2).toNatClampNeg)] σ (some (.int r382)) σ380 ∧ ∃ (r387 : Int32) (σ385 : Hp), Call E mX8_write [.ref 53, .int (eX E (x3 + 1).toNatClampNeg), .int (eX E (x3 + 2).toNatClampNeg)] σ380 (some (.int r387)) σ385 ∧ ((r382 = r387 → Ru E mL_law 18 [(0, .ref 102), (1, .ref 0), (2, .ref 53), (3, .int (x3 + 6))] [] σ385 Φ) ∧ (¬ r382 = r387 → Φ (some (.int 0)) σ385))) ∧ (((eX E (x3).toNatClampNeg) &&& 63) = (33 : Int32) → vp_in (x3 + 1) (eL E) ∧ ∃ (r393 : Int32) (σ391 : Hp), Call E mX7_count [.ref 0, .int (eX E (x3 + 1).toNatClampNeg)] σ (some (.int r393)) σ391 ∧ ∃ (r397 : Int32) (σ395 : Hp), Call E mX8_count [.ref 53, .int (eX E (x3 + 1).toNatClampNeg)] σ391 (some (.int r397)) σ395 ∧ ((r393 = r397 → Ru E mL_law 18 [(0, .ref 102), (1, .ref 0), (2, .ref 53), (3, .int (x3 + 6))] [] σ395 Φ) ∧ (¬ r393 = r397 → Φ (some (.int 0)) σ395))) ∧ (((eX E (x3).toNatClampNeg) &&& 63) = (34 : Int32) → ∃ (r402 : Int64) (σ400 : Hp), Call E mX7_digest [.ref 0] σ (some (.long r402)) σ400 ∧ ∃ (r405 : Int64) (σ403 : Hp), Call E mX8_digest [.ref 53] σ400 (some (.long r405)) σ403 ∧ (((lg_cmp r402 r405) = 0 → Ru E mL_law 18 [(0, .ref 102), (1, .ref 0), (2, .ref 53), (3, .int (x3 + 6))] [] σ403 Φ) ∧ (¬ (lg_cmp r402 r405) = 0 → Φ (some (.int 0)) σ403))) ∧ (¬ ((eX E (x3).toNatClampNeg) &&& 63) = (0 : Int32) ∧ ¬ ((eX E (x3).toNatClampNeg) &&& 63) = (1 : Int32) ∧ ¬ ((eX E (x3).toNatClampNeg) &&& 63) = (2 : Int32) ∧ ¬ ((eX E (x3).toNatClampNeg) &&& 63) = (3 : Int32) ∧ ¬ ((eX E (x3).toNatClampNeg) &&& 63) = (4 : Int32) ∧ ¬ ((eX E (x3).toNatClampNeg) &&& 63) = (5 : Int32) ∧ ¬ ((eX E (x3).toNatClampNeg) &&& 63) = (6 : Int32) ∧ ¬ ((eX E (x3).toNatClampNeg) &&& 63) = (7 : Int32) ∧ ¬ ((eX E (x3).toNatClampNeg) &&& 63) = (8 : Int32) ∧ ¬ ((eX E (x3).toNatClampNeg) &&& 63) = (9 : Int32) ∧ ¬ ((eX E (x3).toNatClampNeg) &&& 63) = (10 : Int32) ∧ ¬ ((eX E (x3).toNatClampNeg) &&& 63) = (11 : Int32) ∧ ¬ ((eX E (x3).toNatClampNeg) &&& 63) = (12 : Int32) ∧ ¬ ((eX E (x3).toNatClampNeg) &&& 63) = (13 : Int32) ∧ ¬ ((eX E (x3).toNatClampNeg) &&& 63) = (14 : Int32) ∧ ¬ ((eX E (x3).toNatClampNeg) &&& 63) = (15 : Int32) ∧ ¬ ((eX E (x3).toNatClampNeg) &&& 63) = (16 : Int32) ∧ ¬ ((eX E (x3).toNatClampNeg) &&& 63) = (17 : Int32) ∧ ¬ ((eX E (x3).toNatClampNeg) &&& 63) = (18 : Int32) ∧ ¬ ((eX E (x3).toNatClampNeg) &&& 63) = (19 : Int32) ∧ ¬ ((eX E (x3).toNatClampNeg) &&& 63) = (20 : Int32) ∧ ¬ ((eX E (x3).toNatClampNeg) &&& 63) = (21 : Int32) ∧ ¬ ((eX E (x3).toNatClampNeg) &&& 63) = (22 : Int32) ∧ ¬ ((eX E (x3).toNatClampNeg) &&& 63) = (23 : Int32) ∧ ¬ ((eX E (x3).toNatClampNeg) &&& 63) = (24 : Int32) ∧ ¬ ((eX E (x3).toNatClampNeg) &&& 63) = (25 : Int32) ∧ ¬ ((eX E (x3).toNatClampNeg) &&& 63) = (26 : Int32) ∧ ¬ ((eX E (x3).toNatClampNeg) &&& 63) = (27 : Int32) ∧ ¬ ((eX E (x3).toNatClampNeg) &&& 63) = (28 : Int32) ∧ ¬ ((eX E (x3).toNatClampNeg) &&& 63) = (29 : Int32) ∧ ¬ ((eX E (x3).toNatClampNeg) &&& 63) = (30 : Int32) ∧ ¬ ((eX E (x3).toNatClampNeg) &&& 63) = (31 : Int32) ∧ ¬ ((eX E (x3).toNatClampNeg) &&& 63) = (32 : Int32) ∧ ¬ ((eX E (x3).toNatClampNeg) &&& 63) = (33 : Int32) ∧ ¬ ((eX E (x3).toNatClampNeg) &&& 63) = (34 : Int32) → Ru E mL_law 18 [(0, .ref 102), (1, .ref 0), (2, .ref 53), (3, .int (x3 + 6))] [] σ Φ))))) : Ru E mL_law 18 [(0, .ref 102), (1, .ref 0), (2, .ref 53), (3, .int x3)] [] σ Φ := by
  refine s_iload_n 3 (pc := 18) dL_law_18 rfl rfl ?_
  refine s_aload_n 0 (pc := 19) dL_law_19 rfl rfl ?_
  refine s_slen (pc := 20) dL_law_20 ?_
  refine s_bipush (v := 6) (pc := 21) dL_law_21 rfl ?_
  refine s_isub (pc := 23) dL_law_23 ?_
  refine s_icmp_gt (pc := 24) (tgt := 1271) dL_law_24 rfl (fun q1 => ?_) (fun q1 => ?_)
  · replace h := h.1 q1
    refine s_iconst (v := 1) (pc := 1271) dL_law_1271 rfl ?_
    exact s_ret (r := some (.int 1)) ⟨dL_law_1272, fun ty e => by cases e; rfl⟩ rfl h
  · replace h := h.2 q1
    refine s_aload_n 0 (pc := 27) dL_law_27 rfl rfl ?_
    refine s_iload_n 3 (pc := 28) dL_law_28 rfl rfl ?_
    have hv2 := h.1
    replace h := h.2
    refine s_scr (pc := 29) dL_law_29 hv2 ?_
    refine s_bipush (v := 63) (pc := 30) dL_law_30 rfl ?_
    refine s_iand (pc := 32) dL_law_32 ?_
    by_cases q3 : ((eX E (x3).toNatClampNeg) &&& 63) = (0 : Int32)
    · replace h := h.1 q3
      refine s_tin (pc := 33) (tgt := 188) 0 dL_law_33 (by rw [q3]; rfl) (by decide) (by decide) rfl rfl ?_
      refine s_aload_n 1 (pc := 188) dL_law_188 rfl rfl ?_
      refine s_aload_n 0 (pc := 189) dL_law_189 rfl rfl ?_
      refine s_iload_n 3 (pc := 190) dL_law_190 rfl rfl ?_
      refine s_iconst (v := 1) (pc := 191) dL_law_191 rfl ?_
      refine s_iadd (pc := 192) dL_law_192 ?_
      have hv4 := h.1
      replace h := h.2
      refine s_scr (pc := 193) dL_law_193 hv4 ?_
      obtain ⟨r7, σ5, hk6, h⟩ := h
      refine s_callV (S := []) [.int (eX E (x3 + 1).toNatClampNeg)] (pc := 194) dL_law_194 mv_X7_type ml_L_13 ⟨Nat.le_of_ble_eq_true rfl, Nat.le_of_ble_eq_true rfl⟩ rfl rfl ly0 rfl rfl (Nat.le_of_ble_eq_true rfl) hk6 ?_
      refine s_aload_n 2 (pc := 197) dL_law_197 rfl rfl ?_
      refine s_aload_n 0 (pc := 198) dL_law_198 rfl rfl ?_
      refine s_iload_n 3 (pc := 199) dL_law_199 rfl rfl ?_
      refine s_iconst (v := 1) (pc := 200) dL_law_200 rfl ?_
      refine s_iadd (pc := 201) dL_law_201 ?_
      refine s_scr (pc := 202) dL_law_202 hv4 ?_
      obtain ⟨r11, σ9, hk10, h⟩ := h
      refine s_callV (S := [.int r7]) [.int (eX E (x3 + 1).toNatClampNeg)] (pc := 203) dL_law_203 mv_X8_type ml_L_17 ⟨Nat.le_of_ble_eq_true rfl, Nat.le_of_ble_eq_true rfl⟩ rfl rfl ly53 rfl rfl (Nat.le_of_ble_eq_true rfl) hk10 ?_
      refine s_icmp_eq (pc := 206) (tgt := 1265) dL_law_206 rfl (fun q12 => ?_) (fun q12 => ?_)
      · replace h := h.1 q12
        refine s_iinc (v := x3 + 6) (L' := [(3, .int (x3 + 6)), (0, .ref 102), (1, .ref 0), (2, .ref 53)]) 3 (pc := 1265) dL_law_1265 rfl rfl (Nat.le_of_ble_eq_true rfl) rfl ?_
        refine s_goto (pc := 1268) (tgt := 18) dL_law_1268 rfl ?_
        exact s_sub (L' := [(0, .ref 102), (1, .ref 0), (2, .ref 53), (3, .int (x3 + 6))]) [1, 2, 3, 0] rfl h
      · replace h := h.2 q12
        refine s_iconst (v := 0) (pc := 209) dL_law_209 rfl ?_
        exact s_ret (r := some (.int 0)) ⟨dL_law_210, fun ty e => by cases e; rfl⟩ rfl h
    replace h := h.2
    by_cases q13 : ((eX E (x3).toNatClampNeg) &&& 63) = (1 : Int32)
    · replace h := h.1 q13
      refine s_tin (pc := 33) (tgt := 211) 1 dL_law_33 (by rw [q13]; rfl) (by decide) (by decide) rfl rfl ?_
      refine s_aload_n 1 (pc := 211) dL_law_211 rfl rfl ?_
      obtain ⟨r16, σ14, hk15, h⟩ := h
      refine s_callV (S := []) [] (pc := 212) dL_law_212 mv_X7_wipe ml_L_18 ⟨Nat.le_of_ble_eq_true rfl, Nat.le_of_ble_eq_true rfl⟩ rfl rfl ly0 rfl rfl (Nat.le_of_ble_eq_true rfl) hk15 ?_
      refine s_aload_n 2 (pc := 215) dL_law_215 rfl rfl ?_
      obtain ⟨r19, σ17, hk18, h⟩ := h
      refine s_callV (S := [.int r16]) [] (pc := 216) dL_law_216 mv_X8_wipe ml_L_22 ⟨Nat.le_of_ble_eq_true rfl, Nat.le_of_ble_eq_true rfl⟩ rfl rfl ly53 rfl rfl (Nat.le_of_ble_eq_true rfl) hk18 ?_
      refine s_icmp_eq (pc := 219) (tgt := 1265) dL_law_219 rfl (fun q20 => ?_) (fun q20 => ?_)
      · replace h := h.1 q20
        refine s_iinc (v := x3 + 6) (L' := [(3, .int (x3 + 6)), (0, .ref 102), (1, .ref 0), (2, .ref 53)]) 3 (pc := 1265) dL_law_1265 rfl rfl (Nat.le_of_ble_eq_true rfl) rfl ?_
        refine s_goto (pc := 1268) (tgt := 18) dL_law_1268 rfl ?_
        exact s_sub (L' := [(0, .ref 102), (1, .ref 0), (2, .ref 53), (3, .int (x3 + 6))]) [1, 2, 3, 0] rfl h
      · replace h := h.2 q20
        refine s_iconst (v := 0) (pc := 222) dL_law_222 rfl ?_
        exact s_ret (r := some (.int 0)) ⟨dL_law_223, fun ty e => by cases e; rfl⟩ rfl h
    replace h := h.2
    by_cases q21 : ((eX E (x3).toNatClampNeg) &&& 63) = (2 : Int32)
    · replace h := h.1 q21
      refine s_tin (pc := 33) (tgt := 224) 2 dL_law_33 (by rw [q21]; rfl) (by decide) (by decide) rfl rfl ?_
      refine s_aload_n 1 (pc := 224) dL_law_224 rfl rfl ?_
      obtain ⟨r24, σ22, hk23, h⟩ := h
      refine s_callV (S := []) [] (pc := 225) dL_law_225 mv_X7_undo ml_L_23 ⟨Nat.le_of_ble_eq_true rfl, Nat.le_of_ble_eq_true rfl⟩ rfl rfl ly0 rfl rfl (Nat.le_of_ble_eq_true rfl) hk23 ?_
      refine s_aload_n 2 (pc := 228) dL_law_228 rfl rfl ?_
      obtain ⟨r27, σ25, hk26, h⟩ := h
      refine s_callV (S := [.int r24]) [] (pc := 229) dL_law_229 mv_X8_undo ml_L_26 ⟨Nat.le_of_ble_eq_true rfl, Nat.le_of_ble_eq_true rfl⟩ rfl rfl ly53 rfl rfl (Nat.le_of_ble_eq_true rfl) hk26 ?_
      refine s_icmp_eq (pc := 232) (tgt := 1265) dL_law_232 rfl (fun q28 => ?_) (fun q28 => ?_)
      · replace h := h.1 q28
        refine s_iinc (v := x3 + 6) (L' := [(3, .int (x3 + 6)), (0, .ref 102), (1, .ref 0), (2, .ref 53)]) 3 (pc := 1265) dL_law_1265 rfl rfl (Nat.le_of_ble_eq_true rfl) rfl ?_
        refine s_goto (pc := 1268) (tgt := 18) dL_law_1268 rfl ?_
        exact s_sub (L' := [(0, .ref 102), (1, .ref 0), (2, .ref 53), (3, .int (x3 + 6))]) [1, 2, 3, 0] rfl h
      · replace h := h.2 q28
        refine s_iconst (v := 0) (pc := 235) dL_law_235 rfl ?_
        exact s_ret (r := some (.int 0)) ⟨dL_law_236, fun ty e => by cases e; rfl⟩ rfl h
    replace h := h.2
    by_cases q29 : ((eX E (x3).toNatClampNeg) &&& 63) = (3 : Int32)
    · replace h := h.1 q29
      refine s_tin (pc := 33) (tgt := 237) 3 dL_law_33 (by rw [q29]; rfl) (by decide) (by decide) rfl rfl ?_
      refine s_aload_n 1 (pc := 237) dL_law_237 rfl rfl ?_
      obtain ⟨r32, σ30, hk31, h⟩ := h
      refine s_callV (S := []) [] (pc := 238) dL_law_238 mv_X7_fault ml_L_27 ⟨Nat.le_of_ble_eq_true rfl, Nat.le_of_ble_eq_true rfl⟩ rfl rfl ly0 rfl rfl (Nat.le_of_ble_eq_true rfl) hk31 ?_
      refine s_aload_n 2 (pc := 241) dL_law_241 rfl rfl ?_
      obtain ⟨r35, σ33, hk34, h⟩ := h
      refine s_callV (S := [.int r32]) [] (pc := 242) dL_law_242 mv_X8_fault ml_L_30 ⟨Nat.le_of_ble_eq_true rfl, Nat.le_of_ble_eq_true rfl⟩ rfl rfl ly53 rfl rfl (Nat.le_of_ble_eq_true rfl) hk34 ?_
      refine s_icmp_eq (pc := 245) (tgt := 1265) dL_law_245 rfl (fun q36 => ?_) (fun q36 => ?_)
      · replace h := h.1 q36
        refine s_iinc (v := x3 + 6) (L' := [(3, .int (x3 + 6)), (0, .ref 102), (1, .ref 0), (2, .ref 53)]) 3 (pc := 1265) dL_law_1265 rfl rfl (Nat.le_of_ble_eq_true rfl) rfl ?_
        refine s_goto (pc := 1268) (tgt := 18) dL_law_1268 rfl ?_
        exact s_sub (L' := [(0, .ref 102), (1, .ref 0), (2, .ref 53), (3, .int (x3 + 6))]) [1, 2, 3, 0] rfl h
      · replace h := h.2 q36
        refine s_iconst (v := 0) (pc := 248) dL_law_248 rfl ?_
        exact s_ret (r := some (.int 0)) ⟨dL_law_249, fun ty e => by cases e; rfl⟩ rfl h
    replace h := h.2
    by_cases q37 : ((eX E (x3).toNatClampNeg) &&& 63) = (4 : Int32)
    · replace h := h.1 q37
      refine s_tin (pc := 33) (tgt := 250) 4 dL_law_33 (by rw [q37]; rfl) (by decide) (by decide) rfl rfl ?_
      refine s_aload_n 1 (pc := 250) dL_law_250 rfl rfl ?_
      refine s_aload_n 0 (pc := 251) dL_law_251 rfl rfl ?_
      refine s_iload_n 3 (pc := 252) dL_law_252 rfl rfl ?_
      refine s_iconst (v := 1) (pc := 253) dL_law_253 rfl ?_
      refine s_iadd (pc := 254) dL_law_254 ?_
      have hv38 := h.1
      replace h := h.2
      refine s_scr (pc := 255) dL_law_255 hv38 ?_
      refine s_aload_n 0 (pc := 256) dL_law_256 rfl rfl ?_
      refine s_iload_n 3 (pc := 257) dL_law_257 rfl rfl ?_
      refine s_iconst (v := 2) (pc := 258) dL_law_258 rfl ?_
      refine s_iadd (pc := 259) dL_law_259 ?_
      have hv39 := h.1
      replace h := h.2
      refine s_scr (pc := 260) dL_law_260 hv39 ?_
      obtain ⟨r42, σ40, hk41, h⟩ := h
      refine s_callV (S := []) [.int (eX E (x3 + 1).toNatClampNeg), .int (eX E (x3 + 2).toNatClampNeg)] (pc := 261) dL_law_261 mv_X7_couple ml_L_31 ⟨Nat.le_of_ble_eq_true rfl, Nat.le_of_ble_eq_true rfl⟩ rfl rfl ly0 rfl rfl (Nat.le_of_ble_eq_true rfl) hk41 ?_
      refine s_aload_n 2 (pc := 264) dL_law_264 rfl rfl ?_
      refine s_aload_n 0 (pc := 265) dL_law_265 rfl rfl ?_
      refine s_iload_n 3 (pc := 266) dL_law_266 rfl rfl ?_
      refine s_iconst (v := 1) (pc := 267) dL_law_267 rfl ?_
      refine s_iadd (pc := 268) dL_law_268 ?_
      refine s_scr (pc := 269) dL_law_269 hv38 ?_
      refine s_aload_n 0 (pc := 270) dL_law_270 rfl rfl ?_
      refine s_iload_n 3 (pc := 271) dL_law_271 rfl rfl ?_
      refine s_iconst (v := 2) (pc := 272) dL_law_272 rfl ?_
      refine s_iadd (pc := 273) dL_law_273 ?_
      refine s_scr (pc := 274) dL_law_274 hv39 ?_
      obtain ⟨r47, σ45, hk46, h⟩ := h
      refine s_callV (S := [.int r42]) [.int (eX E (x3 + 1).toNatClampNeg), .int (eX E (x3 + 2).toNatClampNeg)] (pc := 275) dL_law_275 mv_X8_couple ml_L_35 ⟨Nat.le_of_ble_eq_true rfl, Nat.le_of_ble_eq_true rfl⟩ rfl rfl ly53 rfl rfl (Nat.le_of_ble_eq_true rfl) hk46 ?_
      refine s_icmp_eq (pc := 278) (tgt := 1265) dL_law_278 rfl (fun q48 => ?_) (fun q48 => ?_)
      · replace h := h.1 q48
        refine s_iinc (v := x3 + 6) (L' := [(3, .int (x3 + 6)), (0, .ref 102), (1, .ref 0), (2, .ref 53)]) 3 (pc := 1265) dL_law_1265 rfl rfl (Nat.le_of_ble_eq_true rfl) rfl ?_
        refine s_goto (pc := 1268) (tgt := 18) dL_law_1268 rfl ?_
        exact s_sub (L' := [(0, .ref 102), (1, .ref 0), (2, .ref 53), (3, .int (x3 + 6))]) [1, 2, 3, 0] rfl h
      · replace h := h.2 q48
        refine s_iconst (v := 0) (pc := 281) dL_law_281 rfl ?_
        exact s_ret (r := some (.int 0)) ⟨dL_law_282, fun ty e => by cases e; rfl⟩ rfl h
    replace h := h.2
    by_cases q49 : ((eX E (x3).toNatClampNeg) &&& 63) = (5 : Int32)
    · replace h := h.1 q49
      refine s_tin (pc := 33) (tgt := 283) 5 dL_law_33 (by rw [q49]; rfl) (by decide) (by decide) rfl rfl ?_
      refine s_aload_n 1 (pc := 283) dL_law_283 rfl rfl ?_
      refine s_aload_n 0 (pc := 284) dL_law_284 rfl rfl ?_
      refine s_iload_n 3 (pc := 285) dL_law_285 rfl rfl ?_
      refine s_iconst (v := 1) (pc := 286) dL_law_286 rfl ?_
      refine s_iadd (pc := 287) dL_law_287 ?_
      have hv50 := h.1
      replace h := h.2
      refine s_scr (pc := 288) dL_law_288 hv50 ?_
      refine s_aload_n 0 (pc := 289) dL_law_289 rfl rfl ?_
      refine s_iload_n 3 (pc := 290) dL_law_290 rfl rfl ?_
      refine s_iconst (v := 2) (pc := 291) dL_law_291 rfl ?_
      refine s_iadd (pc := 292) dL_law_292 ?_
      have hv51 := h.1
      replace h := h.2
      refine s_scr (pc := 293) dL_law_293 hv51 ?_
      refine s_aload_n 0 (pc := 294) dL_law_294 rfl rfl ?_
      refine s_iload_n 3 (pc := 295) dL_law_295 rfl rfl ?_
      refine s_iconst (v := 3) (pc := 296) dL_law_296 rfl ?_
      refine s_iadd (pc := 297) dL_law_297 ?_
      have hv52 := h.1
      replace h := h.2
      refine s_scr (pc := 298) dL_law_298 hv52 ?_
      refine s_aload_n 0 (pc := 299) dL_law_299 rfl rfl ?_
      refine s_iload_n 3 (pc := 300) dL_law_300 rfl rfl ?_
      refine s_iconst (v := 4) (pc := 301) dL_law_301 rfl ?_
      refine s_iadd (pc := 302) dL_law_302 ?_
      have hv53 := h.1
      replace h := h.2
      refine s_scr (pc := 303) dL_law_303 hv53 ?_
      obtain ⟨r56, σ54, hk55, h⟩ := h
      refine s_callV (S := []) [.int (eX E (x3 + 1).toNatClampNeg), .int (eX E (x3 + 2).toNatClampNeg), .int (eX E (x3 + 3).toNatClampNeg), .int (eX E (x3 + 4).toNatClampNeg)] (pc := 304) dL_law_304 mv_X7_event ml_L_36 ⟨Nat.le_of_ble_eq_true rfl, Nat.le_of_ble_eq_true rfl⟩ rfl rfl ly0 rfl rfl (Nat.le_of_ble_eq_true rfl) hk55 ?_
      refine s_aload_n 2 (pc := 307) dL_law_307 rfl rfl ?_
      refine s_aload_n 0 (pc := 308) dL_law_308 rfl rfl ?_
      refine s_iload_n 3 (pc := 309) dL_law_309 rfl rfl ?_
      refine s_iconst (v := 1) (pc := 310) dL_law_310 rfl ?_
      refine s_iadd (pc := 311) dL_law_311 ?_
      refine s_scr (pc := 312) dL_law_312 hv50 ?_
      refine s_aload_n 0 (pc := 313) dL_law_313 rfl rfl ?_
      refine s_iload_n 3 (pc := 314) dL_law_314 rfl rfl ?_
      refine s_iconst (v := 2) (pc := 315) dL_law_315 rfl ?_
      refine s_iadd (pc := 316) dL_law_316 ?_
      refine s_scr (pc := 317) dL_law_317 hv51 ?_
      refine s_aload_n 0 (pc := 318) dL_law_318 rfl rfl ?_
      refine s_iload_n 3 (pc := 319) dL_law_319 rfl rfl ?_
      refine s_iconst (v := 3) (pc := 320) dL_law_320 rfl ?_
      refine s_iadd (pc := 321) dL_law_321 ?_
      refine s_scr (pc := 322) dL_law_322 hv52 ?_
      refine s_aload_n 0 (pc := 323) dL_law_323 rfl rfl ?_
      refine s_iload_n 3 (pc := 324) dL_law_324 rfl rfl ?_
      refine s_iconst (v := 4) (pc := 325) dL_law_325 rfl ?_
      refine s_iadd (pc := 326) dL_law_326 ?_
      refine s_scr (pc := 327) dL_law_327 hv53 ?_
      obtain ⟨r63, σ61, hk62, h⟩ := h
      refine s_callV (S := [.int r56]) [.int (eX E (x3 + 1).toNatClampNeg), .int (eX E (x3 + 2).toNatClampNeg), .int (eX E (x3 + 3).toNatClampNeg), .int (eX E (x3 + 4).toNatClampNeg)] (pc := 328) dL_law_328 mv_X8_event ml_L_40 ⟨Nat.le_of_ble_eq_true rfl, Nat.le_of_ble_eq_true rfl⟩ rfl rfl ly53 rfl rfl (Nat.le_of_ble_eq_true rfl) hk62 ?_
      refine s_icmp_eq (pc := 331) (tgt := 1265) dL_law_331 rfl (fun q64 => ?_) (fun q64 => ?_)
      · replace h := h.1 q64
        refine s_iinc (v := x3 + 6) (L' := [(3, .int (x3 + 6)), (0, .ref 102), (1, .ref 0), (2, .ref 53)]) 3 (pc := 1265) dL_law_1265 rfl rfl (Nat.le_of_ble_eq_true rfl) rfl ?_
        refine s_goto (pc := 1268) (tgt := 18) dL_law_1268 rfl ?_
        exact s_sub (L' := [(0, .ref 102), (1, .ref 0), (2, .ref 53), (3, .int (x3 + 6))]) [1, 2, 3, 0] rfl h
      · replace h := h.2 q64
        refine s_iconst (v := 0) (pc := 334) dL_law_334 rfl ?_
        exact s_ret (r := some (.int 0)) ⟨dL_law_335, fun ty e => by cases e; rfl⟩ rfl h
    replace h := h.2
    by_cases q65 : ((eX E (x3).toNatClampNeg) &&& 63) = (6 : Int32)
    · replace h := h.1 q65
      refine s_tin (pc := 33) (tgt := 336) 6 dL_law_33 (by rw [q65]; rfl) (by decide) (by decide) rfl rfl ?_
      refine s_aload_n 1 (pc := 336) dL_law_336 rfl rfl ?_
      obtain ⟨r68, σ66, hk67, h⟩ := h
      refine s_callV (S := []) [] (pc := 337) dL_law_337 mv_X7_back ml_L_41 ⟨Nat.le_of_ble_eq_true rfl, Nat.le_of_ble_eq_true rfl⟩ rfl rfl ly0 rfl rfl (Nat.le_of_ble_eq_true rfl) hk67 ?_
      refine s_aload_n 2 (pc := 340) dL_law_340 rfl rfl ?_
      obtain ⟨r71, σ69, hk70, h⟩ := h
      refine s_callV (S := [.int r68]) [] (pc := 341) dL_law_341 mv_X8_back ml_L_44 ⟨Nat.le_of_ble_eq_true rfl, Nat.le_of_ble_eq_true rfl⟩ rfl rfl ly53 rfl rfl (Nat.le_of_ble_eq_true rfl) hk70 ?_
      refine s_icmp_eq (pc := 344) (tgt := 1265) dL_law_344 rfl (fun q72 => ?_) (fun q72 => ?_)
      · replace h := h.1 q72
        refine s_iinc (v := x3 + 6) (L' := [(3, .int (x3 + 6)), (0, .ref 102), (1, .ref 0), (2, .ref 53)]) 3 (pc := 1265) dL_law_1265 rfl rfl (Nat.le_of_ble_eq_true rfl) rfl ?_
        refine s_goto (pc := 1268) (tgt := 18) dL_law_1268 rfl ?_
        exact s_sub (L' := [(0, .ref 102), (1, .ref 0), (2, .ref 53), (3, .int (x3 + 6))]) [1, 2, 3, 0] rfl h
      · replace h := h.2 q72
        refine s_iconst (v := 0) (pc := 347) dL_law_347 rfl ?_
        exact s_ret (r := some (.int 0)) ⟨dL_law_348, fun ty e => by cases e; rfl⟩ rfl h
    replace h := h.2
    by_cases q73 : ((eX E (x3).toNatClampNeg) &&& 63) = (7 : Int32)
    · replace h := h.1 q73
      refine s_tin (pc := 33) (tgt := 349) 7 dL_law_33 (by rw [q73]; rfl) (by decide) (by decide) rfl rfl ?_
      refine s_aload_n 1 (pc := 349) dL_law_349 rfl rfl ?_
      refine s_aload_n 0 (pc := 350) dL_law_350 rfl rfl ?_
      refine s_iload_n 3 (pc := 351) dL_law_351 rfl rfl ?_
      refine s_iconst (v := 1) (pc := 352) dL_law_352 rfl ?_
      refine s_iadd (pc := 353) dL_law_353 ?_
      have hv74 := h.1
      replace h := h.2
      refine s_scr (pc := 354) dL_law_354 hv74 ?_
      obtain ⟨r77, σ75, hk76, h⟩ := h
      refine s_callV (S := []) [.int (eX E (x3 + 1).toNatClampNeg)] (pc := 355) dL_law_355 mv_X7_read ml_L_45 ⟨Nat.le_of_ble_eq_true rfl, Nat.le_of_ble_eq_true rfl⟩ rfl rfl ly0 rfl rfl (Nat.le_of_ble_eq_true rfl) hk76 ?_
      refine s_aload_n 2 (pc := 358) dL_law_358 rfl rfl ?_
      refine s_aload_n 0 (pc := 359) dL_law_359 rfl rfl ?_
      refine s_iload_n 3 (pc := 360) dL_law_360 rfl rfl ?_
      refine s_iconst (v := 1) (pc := 361) dL_law_361 rfl ?_
      refine s_iadd (pc := 362) dL_law_362 ?_
      refine s_scr (pc := 363) dL_law_363 hv74 ?_
      obtain ⟨r81, σ79, hk80, h⟩ := h
      refine s_callV (S := [.int r77]) [.int (eX E (x3 + 1).toNatClampNeg)] (pc := 364) dL_law_364 mv_X8_read ml_L_48 ⟨Nat.le_of_ble_eq_true rfl, Nat.le_of_ble_eq_true rfl⟩ rfl rfl ly53 rfl rfl (Nat.le_of_ble_eq_true rfl) hk80 ?_
      refine s_icmp_eq (pc := 367) (tgt := 1265) dL_law_367 rfl (fun q82 => ?_) (fun q82 => ?_)
      · replace h := h.1 q82
        refine s_iinc (v := x3 + 6) (L' := [(3, .int (x3 + 6)), (0, .ref 102), (1, .ref 0), (2, .ref 53)]) 3 (pc := 1265) dL_law_1265 rfl rfl (Nat.le_of_ble_eq_true rfl) rfl ?_
        refine s_goto (pc := 1268) (tgt := 18) dL_law_1268 rfl ?_
        exact s_sub (L' := [(0, .ref 102), (1, .ref 0), (2, .ref 53), (3, .int (x3 + 6))]) [1, 2, 3, 0] rfl h
      · replace h := h.2 q82
        refine s_iconst (v := 0) (pc := 370) dL_law_370 rfl ?_
        exact s_ret (r := some (.int 0)) ⟨dL_law_371, fun ty e => by cases e; rfl⟩ rfl h
    replace h := h.2
    by_cases q83 : ((eX E (x3).toNatClampNeg) &&& 63) = (8 : Int32)
    · replace h := h.1 q83
      refine s_tin (pc := 33) (tgt := 372) 8 dL_law_33 (by rw [q83]; rfl) (by decide) (by decide) rfl rfl ?_
      refine s_aload_n 1 (pc := 372) dL_law_372 rfl rfl ?_
      refine s_aload_n 0 (pc := 373) dL_law_373 rfl rfl ?_
      refine s_iload_n 3 (pc := 374) dL_law_374 rfl rfl ?_
      refine s_iconst (v := 1) (pc := 375) dL_law_375 rfl ?_
      refine s_iadd (pc := 376) dL_law_376 ?_
      have hv84 := h.1
      replace h := h.2
      refine s_scr (pc := 377) dL_law_377 hv84 ?_
      refine s_aload_n 0 (pc := 378) dL_law_378 rfl rfl ?_
      refine s_iload_n 3 (pc := 379) dL_law_379 rfl rfl ?_
      refine s_iconst (v := 2) (pc := 380) dL_law_380 rfl ?_
      refine s_iadd (pc := 381) dL_law_381 ?_
      have hv85 := h.1
      replace h := h.2
      refine s_scr (pc := 382) dL_law_382 hv85 ?_
      refine s_aload_n 0 (pc := 383) dL_law_383 rfl rfl ?_
      refine s_iload_n 3 (pc := 384) dL_law_384 rfl rfl ?_
      refine s_iconst (v := 3) (pc := 385) dL_law_385 rfl ?_
      refine s_iadd (pc := 386) dL_law_386 ?_
      have hv86 := h.1
      replace h := h.2
      refine s_scr (pc := 387) dL_law_387 hv86 ?_
      obtain ⟨r89, σ87, hk88, h⟩ := h
      refine s_callV (S := []) [.int (eX E (x3 + 1).toNatClampNeg), .int (eX E (x3 + 2).toNatClampNeg), .int (eX E (x3 + 3).toNatClampNeg)] (pc := 388) dL_law_388 mv_X7_at ml_L_49 ⟨Nat.le_of_ble_eq_true rfl, Nat.le_of_ble_eq_true rfl⟩ rfl rfl ly0 rfl rfl (Nat.le_of_ble_eq_true rfl) hk88 ?_
      refine s_aload_n 2 (pc := 391) dL_law_391 rfl rfl ?_
      refine s_aload_n 0 (pc := 392) dL_law_392 rfl rfl ?_
      refine s_iload_n 3 (pc := 393) dL_law_393 rfl rfl ?_
      refine s_iconst (v := 1) (pc := 394) dL_law_394 rfl ?_
      refine s_iadd (pc := 395) dL_law_395 ?_
      refine s_scr (pc := 396) dL_law_396 hv84 ?_
      refine s_aload_n 0 (pc := 397) dL_law_397 rfl rfl ?_
      refine s_iload_n 3 (pc := 398) dL_law_398 rfl rfl ?_
      refine s_iconst (v := 2) (pc := 399) dL_law_399 rfl ?_
      refine s_iadd (pc := 400) dL_law_400 ?_
      refine s_scr (pc := 401) dL_law_401 hv85 ?_
      refine s_aload_n 0 (pc := 402) dL_law_402 rfl rfl ?_
      refine s_iload_n 3 (pc := 403) dL_law_403 rfl rfl ?_
      refine s_iconst (v := 3) (pc := 404) dL_law_404 rfl ?_
      refine s_iadd (pc := 405) dL_law_405 ?_
      refine s_scr (pc := 406) dL_law_406 hv86 ?_
      obtain ⟨r95, σ93, hk94, h⟩ := h
      refine s_callV (S := [.int r89]) [.int (eX E (x3 + 1).toNatClampNeg), .int (eX E (x3 + 2).toNatClampNeg), .int (eX E (x3 + 3).toNatClampNeg)] (pc := 407) dL_law_407 mv_X8_at ml_L_53 ⟨Nat.le_of_ble_eq_true rfl, Nat.le_of_ble_eq_true rfl⟩ rfl rfl ly53 rfl rfl (Nat.le_of_ble_eq_true rfl) hk94 ?_
      refine s_icmp_eq (pc := 410) (tgt := 1265) dL_law_410 rfl (fun q96 => ?_) (fun q96 => ?_)
      · replace h := h.1 q96
        refine s_iinc (v := x3 + 6) (L' := [(3, .int (x3 + 6)), (0, .ref 102), (1, .ref 0), (2, .ref 53)]) 3 (pc := 1265) dL_law_1265 rfl rfl (Nat.le_of_ble_eq_true rfl) rfl ?_
        refine s_goto (pc := 1268) (tgt := 18) dL_law_1268 rfl ?_
        exact s_sub (L' := [(0, .ref 102), (1, .ref 0), (2, .ref 53), (3, .int (x3 + 6))]) [1, 2, 3, 0] rfl h
      · replace h := h.2 q96
        refine s_iconst (v := 0) (pc := 413) dL_law_413 rfl ?_
        exact s_ret (r := some (.int 0)) ⟨dL_law_414, fun ty e => by cases e; rfl⟩ rfl h
    replace h := h.2
    by_cases q97 : ((eX E (x3).toNatClampNeg) &&& 63) = (9 : Int32)
    · replace h := h.1 q97
      refine s_tin (pc := 33) (tgt := 415) 9 dL_law_33 (by rw [q97]; rfl) (by decide) (by decide) rfl rfl ?_
      refine s_aload_n 1 (pc := 415) dL_law_415 rfl rfl ?_
      refine s_aload_n 0 (pc := 416) dL_law_416 rfl rfl ?_
      refine s_iload_n 3 (pc := 417) dL_law_417 rfl rfl ?_
      refine s_iconst (v := 1) (pc := 418) dL_law_418 rfl ?_
      refine s_iadd (pc := 419) dL_law_419 ?_
      have hv98 := h.1
      replace h := h.2
      refine s_scr (pc := 420) dL_law_420 hv98 ?_
      refine s_aload_n 0 (pc := 421) dL_law_421 rfl rfl ?_
      refine s_iload_n 3 (pc := 422) dL_law_422 rfl rfl ?_
      refine s_iconst (v := 2) (pc := 423) dL_law_423 rfl ?_
      refine s_iadd (pc := 424) dL_law_424 ?_
      have hv99 := h.1
      replace h := h.2
      refine s_scr (pc := 425) dL_law_425 hv99 ?_
      refine s_aload_n 0 (pc := 426) dL_law_426 rfl rfl ?_
      refine s_iload_n 3 (pc := 427) dL_law_427 rfl rfl ?_
      refine s_iconst (v := 3) (pc := 428) dL_law_428 rfl ?_
      refine s_iadd (pc := 429) dL_law_429 ?_
      have hv100 := h.1
      replace h := h.2
      refine s_scr (pc := 430) dL_law_430 hv100 ?_
      obtain ⟨r103, σ101, hk102, h⟩ := h
      refine s_callV (S := []) [.int (eX E (x3 + 1).toNatClampNeg), .int (eX E (x3 + 2).toNatClampNeg), .int (eX E (x3 + 3).toNatClampNeg)] (pc := 431) dL_law_431 mv_X7_place ml_L_54 ⟨Nat.le_of_ble_eq_true rfl, Nat.le_of_ble_eq_true rfl⟩ rfl rfl ly0 rfl rfl (Nat.le_of_ble_eq_true rfl) hk102 ?_
      refine s_aload_n 2 (pc := 434) dL_law_434 rfl rfl ?_
      refine s_aload_n 0 (pc := 435) dL_law_435 rfl rfl ?_
      refine s_iload_n 3 (pc := 436) dL_law_436 rfl rfl ?_
      refine s_iconst (v := 1) (pc := 437) dL_law_437 rfl ?_
      refine s_iadd (pc := 438) dL_law_438 ?_
      refine s_scr (pc := 439) dL_law_439 hv98 ?_
      refine s_aload_n 0 (pc := 440) dL_law_440 rfl rfl ?_
      refine s_iload_n 3 (pc := 441) dL_law_441 rfl rfl ?_
      refine s_iconst (v := 2) (pc := 442) dL_law_442 rfl ?_
      refine s_iadd (pc := 443) dL_law_443 ?_
      refine s_scr (pc := 444) dL_law_444 hv99 ?_
      refine s_aload_n 0 (pc := 445) dL_law_445 rfl rfl ?_
      refine s_iload_n 3 (pc := 446) dL_law_446 rfl rfl ?_
      refine s_iconst (v := 3) (pc := 447) dL_law_447 rfl ?_
      refine s_iadd (pc := 448) dL_law_448 ?_
      refine s_scr (pc := 449) dL_law_449 hv100 ?_
      obtain ⟨r109, σ107, hk108, h⟩ := h
      refine s_callV (S := [.int r103]) [.int (eX E (x3 + 1).toNatClampNeg), .int (eX E (x3 + 2).toNatClampNeg), .int (eX E (x3 + 3).toNatClampNeg)] (pc := 450) dL_law_450 mv_X8_place ml_L_57 ⟨Nat.le_of_ble_eq_true rfl, Nat.le_of_ble_eq_true rfl⟩ rfl rfl ly53 rfl rfl (Nat.le_of_ble_eq_true rfl) hk108 ?_
      refine s_icmp_eq (pc := 453) (tgt := 1265) dL_law_453 rfl (fun q110 => ?_) (fun q110 => ?_)
      · replace h := h.1 q110
        refine s_iinc (v := x3 + 6) (L' := [(3, .int (x3 + 6)), (0, .ref 102), (1, .ref 0), (2, .ref 53)]) 3 (pc := 1265) dL_law_1265 rfl rfl (Nat.le_of_ble_eq_true rfl) rfl ?_
        refine s_goto (pc := 1268) (tgt := 18) dL_law_1268 rfl ?_
        exact s_sub (L' := [(0, .ref 102), (1, .ref 0), (2, .ref 53), (3, .int (x3 + 6))]) [1, 2, 3, 0] rfl h
      · replace h := h.2 q110
        refine s_iconst (v := 0) (pc := 456) dL_law_456 rfl ?_
        exact s_ret (r := some (.int 0)) ⟨dL_law_457, fun ty e => by cases e; rfl⟩ rfl h
    replace h := h.2
    by_cases q111 : ((eX E (x3).toNatClampNeg) &&& 63) = (10 : Int32)
    · replace h := h.1 q111
      refine s_tin (pc := 33) (tgt := 458) 10 dL_law_33 (by rw [q111]; rfl) (by decide) (by decide) rfl rfl ?_
      refine s_aload_n 1 (pc := 458) dL_law_458 rfl rfl ?_
      refine s_aload_n 0 (pc := 459) dL_law_459 rfl rfl ?_
      refine s_iload_n 3 (pc := 460) dL_law_460 rfl rfl ?_
      refine s_iconst (v := 1) (pc := 461) dL_law_461 rfl ?_
      refine s_iadd (pc := 462) dL_law_462 ?_
      have hv112 := h.1
      replace h := h.2
      refine s_scr (pc := 463) dL_law_463 hv112 ?_
      refine s_aload_n 0 (pc := 464) dL_law_464 rfl rfl ?_
      refine s_iload_n 3 (pc := 465) dL_law_465 rfl rfl ?_
      refine s_iconst (v := 2) (pc := 466) dL_law_466 rfl ?_
      refine s_iadd (pc := 467) dL_law_467 ?_
      have hv113 := h.1
      replace h := h.2
      refine s_scr (pc := 468) dL_law_468 hv113 ?_
      refine s_aload_n 0 (pc := 469) dL_law_469 rfl rfl ?_
      refine s_iload_n 3 (pc := 470) dL_law_470 rfl rfl ?_
      refine s_iconst (v := 3) (pc := 471) dL_law_471 rfl ?_
      refine s_iadd (pc := 472) dL_law_472 ?_
      have hv114 := h.1
      replace h := h.2
      refine s_scr (pc := 473) dL_law_473 hv114 ?_
      obtain ⟨r117, σ115, hk116, h⟩ := h
      refine s_callV (S := []) [.int (eX E (x3 + 1).toNatClampNeg), .int (eX E (x3 + 2).toNatClampNeg), .int (eX E (x3 + 3).toNatClampNeg)] (pc := 474) dL_law_474 mv_X7_are ml_L_58 ⟨Nat.le_of_ble_eq_true rfl, Nat.le_of_ble_eq_true rfl⟩ rfl rfl ly0 rfl rfl (Nat.le_of_ble_eq_true rfl) hk116 ?_
      refine s_aload_n 2 (pc := 477) dL_law_477 rfl rfl ?_
      refine s_aload_n 0 (pc := 478) dL_law_478 rfl rfl ?_
      refine s_iload_n 3 (pc := 479) dL_law_479 rfl rfl ?_
      refine s_iconst (v := 1) (pc := 480) dL_law_480 rfl ?_
      refine s_iadd (pc := 481) dL_law_481 ?_
      refine s_scr (pc := 482) dL_law_482 hv112 ?_
      refine s_aload_n 0 (pc := 483) dL_law_483 rfl rfl ?_
      refine s_iload_n 3 (pc := 484) dL_law_484 rfl rfl ?_
      refine s_iconst (v := 2) (pc := 485) dL_law_485 rfl ?_
      refine s_iadd (pc := 486) dL_law_486 ?_
      refine s_scr (pc := 487) dL_law_487 hv113 ?_
      refine s_aload_n 0 (pc := 488) dL_law_488 rfl rfl ?_
      refine s_iload_n 3 (pc := 489) dL_law_489 rfl rfl ?_
      refine s_iconst (v := 3) (pc := 490) dL_law_490 rfl ?_
      refine s_iadd (pc := 491) dL_law_491 ?_
      refine s_scr (pc := 492) dL_law_492 hv114 ?_
      obtain ⟨r123, σ121, hk122, h⟩ := h
      refine s_callV (S := [.int r117]) [.int (eX E (x3 + 1).toNatClampNeg), .int (eX E (x3 + 2).toNatClampNeg), .int (eX E (x3 + 3).toNatClampNeg)] (pc := 493) dL_law_493 mv_X8_are ml_L_61 ⟨Nat.le_of_ble_eq_true rfl, Nat.le_of_ble_eq_true rfl⟩ rfl rfl ly53 rfl rfl (Nat.le_of_ble_eq_true rfl) hk122 ?_
      refine s_icmp_eq (pc := 496) (tgt := 1265) dL_law_496 rfl (fun q124 => ?_) (fun q124 => ?_)
      · replace h := h.1 q124
        refine s_iinc (v := x3 + 6) (L' := [(3, .int (x3 + 6)), (0, .ref 102), (1, .ref 0), (2, .ref 53)]) 3 (pc := 1265) dL_law_1265 rfl rfl (Nat.le_of_ble_eq_true rfl) rfl ?_
        refine s_goto (pc := 1268) (tgt := 18) dL_law_1268 rfl ?_
        exact s_sub (L' := [(0, .ref 102), (1, .ref 0), (2, .ref 53), (3, .int (x3 + 6))]) [1, 2, 3, 0] rfl h
      · replace h := h.2 q124
        refine s_iconst (v := 0) (pc := 499) dL_law_499 rfl ?_
        exact s_ret (r := some (.int 0)) ⟨dL_law_500, fun ty e => by cases e; rfl⟩ rfl h
    replace h := h.2
    by_cases q125 : ((eX E (x3).toNatClampNeg) &&& 63) = (11 : Int32)
    · replace h := h.1 q125
      refine s_tin (pc := 33) (tgt := 501) 11 dL_law_33 (by rw [q125]; rfl) (by decide) (by decide) rfl rfl ?_
      refine s_aload_n 1 (pc := 501) dL_law_501 rfl rfl ?_
      refine s_aload_n 0 (pc := 502) dL_law_502 rfl rfl ?_
      refine s_iload_n 3 (pc := 503) dL_law_503 rfl rfl ?_
      refine s_iconst (v := 1) (pc := 504) dL_law_504 rfl ?_
      refine s_iadd (pc := 505) dL_law_505 ?_
      have hv126 := h.1
      replace h := h.2
      refine s_scr (pc := 506) dL_law_506 hv126 ?_
      refine s_aload_n 0 (pc := 507) dL_law_507 rfl rfl ?_
      refine s_iload_n 3 (pc := 508) dL_law_508 rfl rfl ?_
      refine s_iconst (v := 2) (pc := 509) dL_law_509 rfl ?_
      refine s_iadd (pc := 510) dL_law_510 ?_
      have hv127 := h.1
      replace h := h.2
      refine s_scr (pc := 511) dL_law_511 hv127 ?_
      obtain ⟨r130, σ128, hk129, h⟩ := h
      refine s_callV (S := []) [.int (eX E (x3 + 1).toNatClampNeg), .int (eX E (x3 + 2).toNatClampNeg)] (pc := 512) dL_law_512 mv_X7_pairs ml_L_62 ⟨Nat.le_of_ble_eq_true rfl, Nat.le_of_ble_eq_true rfl⟩ rfl rfl ly0 rfl rfl (Nat.le_of_ble_eq_true rfl) hk129 ?_
      refine s_aload_n 2 (pc := 515) dL_law_515 rfl rfl ?_
      refine s_aload_n 0 (pc := 516) dL_law_516 rfl rfl ?_
      refine s_iload_n 3 (pc := 517) dL_law_517 rfl rfl ?_
      refine s_iconst (v := 1) (pc := 518) dL_law_518 rfl ?_
      refine s_iadd (pc := 519) dL_law_519 ?_
      refine s_scr (pc := 520) dL_law_520 hv126 ?_
      refine s_aload_n 0 (pc := 521) dL_law_521 rfl rfl ?_
      refine s_iload_n 3 (pc := 522) dL_law_522 rfl rfl ?_
      refine s_iconst (v := 2) (pc := 523) dL_law_523 rfl ?_
      refine s_iadd (pc := 524) dL_law_524 ?_
      refine s_scr (pc := 525) dL_law_525 hv127 ?_
      obtain ⟨r135, σ133, hk134, h⟩ := h
      refine s_callV (S := [.int r130]) [.int (eX E (x3 + 1).toNatClampNeg), .int (eX E (x3 + 2).toNatClampNeg)] (pc := 526) dL_law_526 mv_X8_pairs ml_L_65 ⟨Nat.le_of_ble_eq_true rfl, Nat.le_of_ble_eq_true rfl⟩ rfl rfl ly53 rfl rfl (Nat.le_of_ble_eq_true rfl) hk134 ?_
      refine s_icmp_eq (pc := 529) (tgt := 1265) dL_law_529 rfl (fun q136 => ?_) (fun q136 => ?_)
      · replace h := h.1 q136
        refine s_iinc (v := x3 + 6) (L' := [(3, .int (x3 + 6)), (0, .ref 102), (1, .ref 0), (2, .ref 53)]) 3 (pc := 1265) dL_law_1265 rfl rfl (Nat.le_of_ble_eq_true rfl) rfl ?_
        refine s_goto (pc := 1268) (tgt := 18) dL_law_1268 rfl ?_
        exact s_sub (L' := [(0, .ref 102), (1, .ref 0), (2, .ref 53), (3, .int (x3 + 6))]) [1, 2, 3, 0] rfl h
      · replace h := h.2 q136
        refine s_iconst (v := 0) (pc := 532) dL_law_532 rfl ?_
        exact s_ret (r := some (.int 0)) ⟨dL_law_533, fun ty e => by cases e; rfl⟩ rfl h
    replace h := h.2
    by_cases q137 : ((eX E (x3).toNatClampNeg) &&& 63) = (12 : Int32)
    · replace h := h.1 q137
      refine s_tin (pc := 33) (tgt := 534) 12 dL_law_33 (by rw [q137]; rfl) (by decide) (by decide) rfl rfl ?_
      refine s_aload_n 1 (pc := 534) dL_law_534 rfl rfl ?_
      refine s_aload_n 0 (pc := 535) dL_law_535 rfl rfl ?_
      refine s_iload_n 3 (pc := 536) dL_law_536 rfl rfl ?_
      refine s_iconst (v := 1) (pc := 537) dL_law_537 rfl ?_
      refine s_iadd (pc := 538) dL_law_538 ?_
      have hv138 := h.1
      replace h := h.2
      refine s_scr (pc := 539) dL_law_539 hv138 ?_
      obtain ⟨r141, σ139, hk140, h⟩ := h
      refine s_callV (S := []) [.int (eX E (x3 + 1).toNatClampNeg)] (pc := 540) dL_law_540 mv_X7_closed ml_L_66 ⟨Nat.le_of_ble_eq_true rfl, Nat.le_of_ble_eq_true rfl⟩ rfl rfl ly0 rfl rfl (Nat.le_of_ble_eq_true rfl) hk140 ?_
      refine s_aload_n 2 (pc := 543) dL_law_543 rfl rfl ?_
      refine s_aload_n 0 (pc := 544) dL_law_544 rfl rfl ?_
      refine s_iload_n 3 (pc := 545) dL_law_545 rfl rfl ?_
      refine s_iconst (v := 1) (pc := 546) dL_law_546 rfl ?_
      refine s_iadd (pc := 547) dL_law_547 ?_
      refine s_scr (pc := 548) dL_law_548 hv138 ?_
      obtain ⟨r145, σ143, hk144, h⟩ := h
      refine s_callV (S := [.int r141]) [.int (eX E (x3 + 1).toNatClampNeg)] (pc := 549) dL_law_549 mv_X8_closed ml_L_69 ⟨Nat.le_of_ble_eq_true rfl, Nat.le_of_ble_eq_true rfl⟩ rfl rfl ly53 rfl rfl (Nat.le_of_ble_eq_true rfl) hk144 ?_
      refine s_icmp_eq (pc := 552) (tgt := 1265) dL_law_552 rfl (fun q146 => ?_) (fun q146 => ?_)
      · replace h := h.1 q146
        refine s_iinc (v := x3 + 6) (L' := [(3, .int (x3 + 6)), (0, .ref 102), (1, .ref 0), (2, .ref 53)]) 3 (pc := 1265) dL_law_1265 rfl rfl (Nat.le_of_ble_eq_true rfl) rfl ?_
        refine s_goto (pc := 1268) (tgt := 18) dL_law_1268 rfl ?_
        exact s_sub (L' := [(0, .ref 102), (1, .ref 0), (2, .ref 53), (3, .int (x3 + 6))]) [1, 2, 3, 0] rfl h
      · replace h := h.2 q146
        refine s_iconst (v := 0) (pc := 555) dL_law_555 rfl ?_
        exact s_ret (r := some (.int 0)) ⟨dL_law_556, fun ty e => by cases e; rfl⟩ rfl h
    replace h := h.2
    by_cases q147 : ((eX E (x3).toNatClampNeg) &&& 63) = (13 : Int32)
    · replace h := h.1 q147
      refine s_tin (pc := 33) (tgt := 557) 13 dL_law_33 (by rw [q147]; rfl) (by decide) (by decide) rfl rfl ?_
      refine s_aload_n 1 (pc := 557) dL_law_557 rfl rfl ?_
      obtain ⟨r150, σ148, hk149, h⟩ := h
      refine s_callV (S := []) [] (pc := 558) dL_law_558 mv_X7_holes ml_L_70 ⟨Nat.le_of_ble_eq_true rfl, Nat.le_of_ble_eq_true rfl⟩ rfl rfl ly0 rfl rfl (Nat.le_of_ble_eq_true rfl) hk149 ?_
      refine s_aload_n 2 (pc := 561) dL_law_561 rfl rfl ?_
      obtain ⟨r153, σ151, hk152, h⟩ := h
      refine s_callV (S := [.int r150]) [] (pc := 562) dL_law_562 mv_X8_holes ml_L_73 ⟨Nat.le_of_ble_eq_true rfl, Nat.le_of_ble_eq_true rfl⟩ rfl rfl ly53 rfl rfl (Nat.le_of_ble_eq_true rfl) hk152 ?_
      refine s_icmp_eq (pc := 565) (tgt := 1265) dL_law_565 rfl (fun q154 => ?_) (fun q154 => ?_)
      · replace h := h.1 q154
        refine s_iinc (v := x3 + 6) (L' := [(3, .int (x3 + 6)), (0, .ref 102), (1, .ref 0), (2, .ref 53)]) 3 (pc := 1265) dL_law_1265 rfl rfl (Nat.le_of_ble_eq_true rfl) rfl ?_
        refine s_goto (pc := 1268) (tgt := 18) dL_law_1268 rfl ?_
        exact s_sub (L' := [(0, .ref 102), (1, .ref 0), (2, .ref 53), (3, .int (x3 + 6))]) [1, 2, 3, 0] rfl h
      · replace h := h.2 q154
        refine s_iconst (v := 0) (pc := 568) dL_law_568 rfl ?_
        exact s_ret (r := some (.int 0)) ⟨dL_law_569, fun ty e => by cases e; rfl⟩ rfl h
    replace h := h.2
    by_cases q155 : ((eX E (x3).toNatClampNeg) &&& 63) = (14 : Int32)
    · replace h := h.1 q155
      refine s_tin (pc := 33) (tgt := 570) 14 dL_law_33 (by rw [q155]; rfl) (by decide) (by decide) rfl rfl ?_
      refine s_aload_n 1 (pc := 570) dL_law_570 rfl rfl ?_
      refine s_aload_n 0 (pc := 571) dL_law_571 rfl rfl ?_
      refine s_iload_n 3 (pc := 572) dL_law_572 rfl rfl ?_
      refine s_iconst (v := 1) (pc := 573) dL_law_573 rfl ?_
      refine s_iadd (pc := 574) dL_law_574 ?_
      have hv156 := h.1
      replace h := h.2
      refine s_scr (pc := 575) dL_law_575 hv156 ?_
      obtain ⟨r159, σ157, hk158, h⟩ := h
      refine s_callV (S := []) [.int (eX E (x3 + 1).toNatClampNeg)] (pc := 576) dL_law_576 mv_X7_ringed ml_L_74 ⟨Nat.le_of_ble_eq_true rfl, Nat.le_of_ble_eq_true rfl⟩ rfl rfl ly0 rfl rfl (Nat.le_of_ble_eq_true rfl) hk158 ?_
      refine s_aload_n 2 (pc := 579) dL_law_579 rfl rfl ?_
      refine s_aload_n 0 (pc := 580) dL_law_580 rfl rfl ?_
      refine s_iload_n 3 (pc := 581) dL_law_581 rfl rfl ?_
      refine s_iconst (v := 1) (pc := 582) dL_law_582 rfl ?_
      refine s_iadd (pc := 583) dL_law_583 ?_
      refine s_scr (pc := 584) dL_law_584 hv156 ?_
      obtain ⟨r163, σ161, hk162, h⟩ := h
      refine s_callV (S := [.int r159]) [.int (eX E (x3 + 1).toNatClampNeg)] (pc := 585) dL_law_585 mv_X8_ringed ml_L_77 ⟨Nat.le_of_ble_eq_true rfl, Nat.le_of_ble_eq_true rfl⟩ rfl rfl ly53 rfl rfl (Nat.le_of_ble_eq_true rfl) hk162 ?_
      refine s_icmp_eq (pc := 588) (tgt := 1265) dL_law_588 rfl (fun q164 => ?_) (fun q164 => ?_)
      · replace h := h.1 q164
        refine s_iinc (v := x3 + 6) (L' := [(3, .int (x3 + 6)), (0, .ref 102), (1, .ref 0), (2, .ref 53)]) 3 (pc := 1265) dL_law_1265 rfl rfl (Nat.le_of_ble_eq_true rfl) rfl ?_
        refine s_goto (pc := 1268) (tgt := 18) dL_law_1268 rfl ?_
        exact s_sub (L' := [(0, .ref 102), (1, .ref 0), (2, .ref 53), (3, .int (x3 + 6))]) [1, 2, 3, 0] rfl h
      · replace h := h.2 q164
        refine s_iconst (v := 0) (pc := 591) dL_law_591 rfl ?_
        exact s_ret (r := some (.int 0)) ⟨dL_law_592, fun ty e => by cases e; rfl⟩ rfl h
    replace h := h.2
    by_cases q165 : ((eX E (x3).toNatClampNeg) &&& 63) = (15 : Int32)
    · replace h := h.1 q165
      refine s_tin (pc := 33) (tgt := 593) 15 dL_law_33 (by rw [q165]; rfl) (by decide) (by decide) rfl rfl ?_
      refine s_aload_n 1 (pc := 593) dL_law_593 rfl rfl ?_
      refine s_aload_n 0 (pc := 594) dL_law_594 rfl rfl ?_
      refine s_iload_n 3 (pc := 595) dL_law_595 rfl rfl ?_
      refine s_iconst (v := 1) (pc := 596) dL_law_596 rfl ?_
      refine s_iadd (pc := 597) dL_law_597 ?_
      have hv166 := h.1
      replace h := h.2
      refine s_scr (pc := 598) dL_law_598 hv166 ?_
      obtain ⟨r169, σ167, hk168, h⟩ := h
      refine s_callV (S := []) [.int (eX E (x3 + 1).toNatClampNeg)] (pc := 599) dL_law_599 mv_X7_meets ml_L_78 ⟨Nat.le_of_ble_eq_true rfl, Nat.le_of_ble_eq_true rfl⟩ rfl rfl ly0 rfl rfl (Nat.le_of_ble_eq_true rfl) hk168 ?_
      refine s_aload_n 2 (pc := 602) dL_law_602 rfl rfl ?_
      refine s_aload_n 0 (pc := 603) dL_law_603 rfl rfl ?_
      refine s_iload_n 3 (pc := 604) dL_law_604 rfl rfl ?_
      refine s_iconst (v := 1) (pc := 605) dL_law_605 rfl ?_
      refine s_iadd (pc := 606) dL_law_606 ?_
      refine s_scr (pc := 607) dL_law_607 hv166 ?_
      obtain ⟨r173, σ171, hk172, h⟩ := h
      refine s_callV (S := [.int r169]) [.int (eX E (x3 + 1).toNatClampNeg)] (pc := 608) dL_law_608 mv_X8_meets ml_L_81 ⟨Nat.le_of_ble_eq_true rfl, Nat.le_of_ble_eq_true rfl⟩ rfl rfl ly53 rfl rfl (Nat.le_of_ble_eq_true rfl) hk172 ?_
      refine s_icmp_eq (pc := 611) (tgt := 1265) dL_law_611 rfl (fun q174 => ?_) (fun q174 => ?_)
      · replace h := h.1 q174
        refine s_iinc (v := x3 + 6) (L' := [(3, .int (x3 + 6)), (0, .ref 102), (1, .ref 0), (2, .ref 53)]) 3 (pc := 1265) dL_law_1265 rfl rfl (Nat.le_of_ble_eq_true rfl) rfl ?_
        refine s_goto (pc := 1268) (tgt := 18) dL_law_1268 rfl ?_
        exact s_sub (L' := [(0, .ref 102), (1, .ref 0), (2, .ref 53), (3, .int (x3 + 6))]) [1, 2, 3, 0] rfl h
      · replace h := h.2 q174
        refine s_iconst (v := 0) (pc := 614) dL_law_614 rfl ?_
        exact s_ret (r := some (.int 0)) ⟨dL_law_615, fun ty e => by cases e; rfl⟩ rfl h
    replace h := h.2
    by_cases q175 : ((eX E (x3).toNatClampNeg) &&& 63) = (16 : Int32)
    · replace h := h.1 q175
      refine s_tin (pc := 33) (tgt := 616) 16 dL_law_33 (by rw [q175]; rfl) (by decide) (by decide) rfl rfl ?_
      refine s_aload_n 1 (pc := 616) dL_law_616 rfl rfl ?_
      refine s_aload_n 0 (pc := 617) dL_law_617 rfl rfl ?_
      refine s_iload_n 3 (pc := 618) dL_law_618 rfl rfl ?_
      refine s_iconst (v := 1) (pc := 619) dL_law_619 rfl ?_
      refine s_iadd (pc := 620) dL_law_620 ?_
      have hv176 := h.1
      replace h := h.2
      refine s_scr (pc := 621) dL_law_621 hv176 ?_
      refine s_aload_n 0 (pc := 622) dL_law_622 rfl rfl ?_
      refine s_iload_n 3 (pc := 623) dL_law_623 rfl rfl ?_
      refine s_iconst (v := 2) (pc := 624) dL_law_624 rfl ?_
      refine s_iadd (pc := 625) dL_law_625 ?_
      have hv177 := h.1
      replace h := h.2
      refine s_scr (pc := 626) dL_law_626 hv177 ?_
      refine s_aload_n 0 (pc := 627) dL_law_627 rfl rfl ?_
      refine s_iload_n 3 (pc := 628) dL_law_628 rfl rfl ?_
      refine s_iconst (v := 3) (pc := 629) dL_law_629 rfl ?_
      refine s_iadd (pc := 630) dL_law_630 ?_
      have hv178 := h.1
      replace h := h.2
      refine s_scr (pc := 631) dL_law_631 hv178 ?_
      obtain ⟨r181, σ179, hk180, h⟩ := h
      refine s_callV (S := []) [.int (eX E (x3 + 1).toNatClampNeg), .int (eX E (x3 + 2).toNatClampNeg), .int (eX E (x3 + 3).toNatClampNeg)] (pc := 632) dL_law_632 mv_X7_open ml_L_82 ⟨Nat.le_of_ble_eq_true rfl, Nat.le_of_ble_eq_true rfl⟩ rfl rfl ly0 rfl rfl (Nat.le_of_ble_eq_true rfl) hk180 ?_
      refine s_aload_n 2 (pc := 635) dL_law_635 rfl rfl ?_
      refine s_aload_n 0 (pc := 636) dL_law_636 rfl rfl ?_
      refine s_iload_n 3 (pc := 637) dL_law_637 rfl rfl ?_
      refine s_iconst (v := 1) (pc := 638) dL_law_638 rfl ?_
      refine s_iadd (pc := 639) dL_law_639 ?_
      refine s_scr (pc := 640) dL_law_640 hv176 ?_
      refine s_aload_n 0 (pc := 641) dL_law_641 rfl rfl ?_
      refine s_iload_n 3 (pc := 642) dL_law_642 rfl rfl ?_
      refine s_iconst (v := 2) (pc := 643) dL_law_643 rfl ?_
      refine s_iadd (pc := 644) dL_law_644 ?_
      refine s_scr (pc := 645) dL_law_645 hv177 ?_
      refine s_aload_n 0 (pc := 646) dL_law_646 rfl rfl ?_
      refine s_iload_n 3 (pc := 647) dL_law_647 rfl rfl ?_
      refine s_iconst (v := 3) (pc := 648) dL_law_648 rfl ?_
      refine s_iadd (pc := 649) dL_law_649 ?_
      refine s_scr (pc := 650) dL_law_650 hv178 ?_
      obtain ⟨r187, σ185, hk186, h⟩ := h
      refine s_callV (S := [.int r181]) [.int (eX E (x3 + 1).toNatClampNeg), .int (eX E (x3 + 2).toNatClampNeg), .int (eX E (x3 + 3).toNatClampNeg)] (pc := 651) dL_law_651 mv_X8_open ml_L_85 ⟨Nat.le_of_ble_eq_true rfl, Nat.le_of_ble_eq_true rfl⟩ rfl rfl ly53 rfl rfl (Nat.le_of_ble_eq_true rfl) hk186 ?_
      refine s_icmp_eq (pc := 654) (tgt := 1265) dL_law_654 rfl (fun q188 => ?_) (fun q188 => ?_)
      · replace h := h.1 q188
        refine s_iinc (v := x3 + 6) (L' := [(3, .int (x3 + 6)), (0, .ref 102), (1, .ref 0), (2, .ref 53)]) 3 (pc := 1265) dL_law_1265 rfl rfl (Nat.le_of_ble_eq_true rfl) rfl ?_
        refine s_goto (pc := 1268) (tgt := 18) dL_law_1268 rfl ?_
        exact s_sub (L' := [(0, .ref 102), (1, .ref 0), (2, .ref 53), (3, .int (x3 + 6))]) [1, 2, 3, 0] rfl h
      · replace h := h.2 q188
        refine s_iconst (v := 0) (pc := 657) dL_law_657 rfl ?_
        exact s_ret (r := some (.int 0)) ⟨dL_law_658, fun ty e => by cases e; rfl⟩ rfl h
    replace h := h.2
    by_cases q189 : ((eX E (x3).toNatClampNeg) &&& 63) = (17 : Int32)
    · replace h := h.1 q189
      refine s_tin (pc := 33) (tgt := 659) 17 dL_law_33 (by rw [q189]; rfl) (by decide) (by decide) rfl rfl ?_
      refine s_aload_n 1 (pc := 659) dL_law_659 rfl rfl ?_
      refine s_aload_n 0 (pc := 660) dL_law_660 rfl rfl ?_
      refine s_iload_n 3 (pc := 661) dL_law_661 rfl rfl ?_
      refine s_iconst (v := 1) (pc := 662) dL_law_662 rfl ?_
      refine s_iadd (pc := 663) dL_law_663 ?_
      have hv190 := h.1
      replace h := h.2
      refine s_scr (pc := 664) dL_law_664 hv190 ?_
      refine s_aload_n 0 (pc := 665) dL_law_665 rfl rfl ?_
      refine s_iload_n 3 (pc := 666) dL_law_666 rfl rfl ?_
      refine s_iconst (v := 2) (pc := 667) dL_law_667 rfl ?_
      refine s_iadd (pc := 668) dL_law_668 ?_
      have hv191 := h.1
      replace h := h.2
      refine s_scr (pc := 669) dL_law_669 hv191 ?_
      refine s_aload_n 0 (pc := 670) dL_law_670 rfl rfl ?_
      refine s_iload_n 3 (pc := 671) dL_law_671 rfl rfl ?_
      refine s_iconst (v := 3) (pc := 672) dL_law_672 rfl ?_
      refine s_iadd (pc := 673) dL_law_673 ?_
      have hv192 := h.1
      replace h := h.2
      refine s_scr (pc := 674) dL_law_674 hv192 ?_
      obtain ⟨r195, σ193, hk194, h⟩ := h
      refine s_callV (S := []) [.int (eX E (x3 + 1).toNatClampNeg), .int (eX E (x3 + 2).toNatClampNeg), .int (eX E (x3 + 3).toNatClampNeg)] (pc := 675) dL_law_675 mv_X7_stand ml_L_86 ⟨Nat.le_of_ble_eq_true rfl, Nat.le_of_ble_eq_true rfl⟩ rfl rfl ly0 rfl rfl (Nat.le_of_ble_eq_true rfl) hk194 ?_
      refine s_aload_n 2 (pc := 678) dL_law_678 rfl rfl ?_
      refine s_aload_n 0 (pc := 679) dL_law_679 rfl rfl ?_
      refine s_iload_n 3 (pc := 680) dL_law_680 rfl rfl ?_
      refine s_iconst (v := 1) (pc := 681) dL_law_681 rfl ?_
      refine s_iadd (pc := 682) dL_law_682 ?_
      refine s_scr (pc := 683) dL_law_683 hv190 ?_
      refine s_aload_n 0 (pc := 684) dL_law_684 rfl rfl ?_
      refine s_iload_n 3 (pc := 685) dL_law_685 rfl rfl ?_
      refine s_iconst (v := 2) (pc := 686) dL_law_686 rfl ?_
      refine s_iadd (pc := 687) dL_law_687 ?_
      refine s_scr (pc := 688) dL_law_688 hv191 ?_
      refine s_aload_n 0 (pc := 689) dL_law_689 rfl rfl ?_
      refine s_iload_n 3 (pc := 690) dL_law_690 rfl rfl ?_
      refine s_iconst (v := 3) (pc := 691) dL_law_691 rfl ?_
      refine s_iadd (pc := 692) dL_law_692 ?_
      refine s_scr (pc := 693) dL_law_693 hv192 ?_
      obtain ⟨r201, σ199, hk200, h⟩ := h
      refine s_callV (S := [.int r195]) [.int (eX E (x3 + 1).toNatClampNeg), .int (eX E (x3 + 2).toNatClampNeg), .int (eX E (x3 + 3).toNatClampNeg)] (pc := 694) dL_law_694 mv_X8_stand ml_L_89 ⟨Nat.le_of_ble_eq_true rfl, Nat.le_of_ble_eq_true rfl⟩ rfl rfl ly53 rfl rfl (Nat.le_of_ble_eq_true rfl) hk200 ?_
      refine s_icmp_eq (pc := 697) (tgt := 1265) dL_law_697 rfl (fun q202 => ?_) (fun q202 => ?_)
      · replace h := h.1 q202
        refine s_iinc (v := x3 + 6) (L' := [(3, .int (x3 + 6)), (0, .ref 102), (1, .ref 0), (2, .ref 53)]) 3 (pc := 1265) dL_law_1265 rfl rfl (Nat.le_of_ble_eq_true rfl) rfl ?_
        refine s_goto (pc := 1268) (tgt := 18) dL_law_1268 rfl ?_
        exact s_sub (L' := [(0, .ref 102), (1, .ref 0), (2, .ref 53), (3, .int (x3 + 6))]) [1, 2, 3, 0] rfl h
      · replace h := h.2 q202
        refine s_iconst (v := 0) (pc := 700) dL_law_700 rfl ?_
        exact s_ret (r := some (.int 0)) ⟨dL_law_701, fun ty e => by cases e; rfl⟩ rfl h
    replace h := h.2
    by_cases q203 : ((eX E (x3).toNatClampNeg) &&& 63) = (18 : Int32)
    · replace h := h.1 q203
      refine s_tin (pc := 33) (tgt := 702) 18 dL_law_33 (by rw [q203]; rfl) (by decide) (by decide) rfl rfl ?_
      refine s_aload_n 1 (pc := 702) dL_law_702 rfl rfl ?_
      refine s_aload_n 0 (pc := 703) dL_law_703 rfl rfl ?_
      refine s_iload_n 3 (pc := 704) dL_law_704 rfl rfl ?_
      refine s_iconst (v := 1) (pc := 705) dL_law_705 rfl ?_
      refine s_iadd (pc := 706) dL_law_706 ?_
      have hv204 := h.1
      replace h := h.2
      refine s_scr (pc := 707) dL_law_707 hv204 ?_
      obtain ⟨r207, σ205, hk206, h⟩ := h
      refine s_callV (S := []) [.int (eX E (x3 + 1).toNatClampNeg)] (pc := 708) dL_law_708 mv_X7_swap ml_L_90 ⟨Nat.le_of_ble_eq_true rfl, Nat.le_of_ble_eq_true rfl⟩ rfl rfl ly0 rfl rfl (Nat.le_of_ble_eq_true rfl) hk206 ?_
      refine s_aload_n 2 (pc := 711) dL_law_711 rfl rfl ?_
      refine s_aload_n 0 (pc := 712) dL_law_712 rfl rfl ?_
      refine s_iload_n 3 (pc := 713) dL_law_713 rfl rfl ?_
      refine s_iconst (v := 1) (pc := 714) dL_law_714 rfl ?_
      refine s_iadd (pc := 715) dL_law_715 ?_
      refine s_scr (pc := 716) dL_law_716 hv204 ?_
      obtain ⟨r211, σ209, hk210, h⟩ := h
      refine s_callV (S := [.int r207]) [.int (eX E (x3 + 1).toNatClampNeg)] (pc := 717) dL_law_717 mv_X8_swap ml_L_93 ⟨Nat.le_of_ble_eq_true rfl, Nat.le_of_ble_eq_true rfl⟩ rfl rfl ly53 rfl rfl (Nat.le_of_ble_eq_true rfl) hk210 ?_
      refine s_icmp_eq (pc := 720) (tgt := 1265) dL_law_720 rfl (fun q212 => ?_) (fun q212 => ?_)
      · replace h := h.1 q212
        refine s_iinc (v := x3 + 6) (L' := [(3, .int (x3 + 6)), (0, .ref 102), (1, .ref 0), (2, .ref 53)]) 3 (pc := 1265) dL_law_1265 rfl rfl (Nat.le_of_ble_eq_true rfl) rfl ?_
        refine s_goto (pc := 1268) (tgt := 18) dL_law_1268 rfl ?_
        exact s_sub (L' := [(0, .ref 102), (1, .ref 0), (2, .ref 53), (3, .int (x3 + 6))]) [1, 2, 3, 0] rfl h
      · replace h := h.2 q212
        refine s_iconst (v := 0) (pc := 723) dL_law_723 rfl ?_
        exact s_ret (r := some (.int 0)) ⟨dL_law_724, fun ty e => by cases e; rfl⟩ rfl h
    replace h := h.2
    by_cases q213 : ((eX E (x3).toNatClampNeg) &&& 63) = (19 : Int32)
    · replace h := h.1 q213
      refine s_tin (pc := 33) (tgt := 725) 19 dL_law_33 (by rw [q213]; rfl) (by decide) (by decide) rfl rfl ?_
      refine s_aload_n 1 (pc := 725) dL_law_725 rfl rfl ?_
      refine s_aload_n 0 (pc := 726) dL_law_726 rfl rfl ?_
      refine s_iload_n 3 (pc := 727) dL_law_727 rfl rfl ?_
      refine s_iconst (v := 1) (pc := 728) dL_law_728 rfl ?_
      refine s_iadd (pc := 729) dL_law_729 ?_
      have hv214 := h.1
      replace h := h.2
      refine s_scr (pc := 730) dL_law_730 hv214 ?_
      obtain ⟨r217, σ215, hk216, h⟩ := h
      refine s_callV (S := []) [.int (eX E (x3 + 1).toNatClampNeg)] (pc := 731) dL_law_731 mv_X7_drop ml_L_94 ⟨Nat.le_of_ble_eq_true rfl, Nat.le_of_ble_eq_true rfl⟩ rfl rfl ly0 rfl rfl (Nat.le_of_ble_eq_true rfl) hk216 ?_
      refine s_aload_n 2 (pc := 734) dL_law_734 rfl rfl ?_
      refine s_aload_n 0 (pc := 735) dL_law_735 rfl rfl ?_
      refine s_iload_n 3 (pc := 736) dL_law_736 rfl rfl ?_
      refine s_iconst (v := 1) (pc := 737) dL_law_737 rfl ?_
      refine s_iadd (pc := 738) dL_law_738 ?_
      refine s_scr (pc := 739) dL_law_739 hv214 ?_
      obtain ⟨r221, σ219, hk220, h⟩ := h
      refine s_callV (S := [.int r217]) [.int (eX E (x3 + 1).toNatClampNeg)] (pc := 740) dL_law_740 mv_X8_drop ml_L_97 ⟨Nat.le_of_ble_eq_true rfl, Nat.le_of_ble_eq_true rfl⟩ rfl rfl ly53 rfl rfl (Nat.le_of_ble_eq_true rfl) hk220 ?_
      refine s_icmp_eq (pc := 743) (tgt := 1265) dL_law_743 rfl (fun q222 => ?_) (fun q222 => ?_)
      · replace h := h.1 q222
        refine s_iinc (v := x3 + 6) (L' := [(3, .int (x3 + 6)), (0, .ref 102), (1, .ref 0), (2, .ref 53)]) 3 (pc := 1265) dL_law_1265 rfl rfl (Nat.le_of_ble_eq_true rfl) rfl ?_
        refine s_goto (pc := 1268) (tgt := 18) dL_law_1268 rfl ?_
        exact s_sub (L' := [(0, .ref 102), (1, .ref 0), (2, .ref 53), (3, .int (x3 + 6))]) [1, 2, 3, 0] rfl h
      · replace h := h.2 q222
        refine s_iconst (v := 0) (pc := 746) dL_law_746 rfl ?_
        exact s_ret (r := some (.int 0)) ⟨dL_law_747, fun ty e => by cases e; rfl⟩ rfl h
    replace h := h.2
    by_cases q223 : ((eX E (x3).toNatClampNeg) &&& 63) = (20 : Int32)
    · replace h := h.1 q223
      refine s_tin (pc := 33) (tgt := 748) 20 dL_law_33 (by rw [q223]; rfl) (by decide) (by decide) rfl rfl ?_
      refine s_aload_n 1 (pc := 748) dL_law_748 rfl rfl ?_
      refine s_aload_n 0 (pc := 749) dL_law_749 rfl rfl ?_
      refine s_iload_n 3 (pc := 750) dL_law_750 rfl rfl ?_
      refine s_iconst (v := 1) (pc := 751) dL_law_751 rfl ?_
      refine s_iadd (pc := 752) dL_law_752 ?_
      have hv224 := h.1
      replace h := h.2
      refine s_scr (pc := 753) dL_law_753 hv224 ?_
      refine s_aload_n 0 (pc := 754) dL_law_754 rfl rfl ?_
      refine s_iload_n 3 (pc := 755) dL_law_755 rfl rfl ?_
      refine s_iconst (v := 2) (pc := 756) dL_law_756 rfl ?_
      refine s_iadd (pc := 757) dL_law_757 ?_
      have hv225 := h.1
      replace h := h.2
      refine s_scr (pc := 758) dL_law_758 hv225 ?_
      refine s_aload_n 0 (pc := 759) dL_law_759 rfl rfl ?_
      refine s_iload_n 3 (pc := 760) dL_law_760 rfl rfl ?_
      refine s_iconst (v := 3) (pc := 761) dL_law_761 rfl ?_
      refine s_iadd (pc := 762) dL_law_762 ?_
      have hv226 := h.1
      replace h := h.2
      refine s_scr (pc := 763) dL_law_763 hv226 ?_
      refine s_aload_n 0 (pc := 764) dL_law_764 rfl rfl ?_
      refine s_iload_n 3 (pc := 765) dL_law_765 rfl rfl ?_
      refine s_iconst (v := 4) (pc := 766) dL_law_766 rfl ?_
      refine s_iadd (pc := 767) dL_law_767 ?_
      have hv227 := h.1
      replace h := h.2
      refine s_scr (pc := 768) dL_law_768 hv227 ?_
      obtain ⟨r230, σ228, hk229, h⟩ := h
      refine s_callV (S := []) [.int (eX E (x3 + 1).toNatClampNeg), .int (eX E (x3 + 2).toNatClampNeg), .int (eX E (x3 + 3).toNatClampNeg), .int (eX E (x3 + 4).toNatClampNeg)] (pc := 769) dL_law_769 mv_X7_seen ml_L_98 ⟨Nat.le_of_ble_eq_true rfl, Nat.le_of_ble_eq_true rfl⟩ rfl rfl ly0 rfl rfl (Nat.le_of_ble_eq_true rfl) hk229 ?_
      refine s_aload_n 2 (pc := 772) dL_law_772 rfl rfl ?_
      refine s_aload_n 0 (pc := 773) dL_law_773 rfl rfl ?_
      refine s_iload_n 3 (pc := 774) dL_law_774 rfl rfl ?_
      refine s_iconst (v := 1) (pc := 775) dL_law_775 rfl ?_
      refine s_iadd (pc := 776) dL_law_776 ?_
      refine s_scr (pc := 777) dL_law_777 hv224 ?_
      refine s_aload_n 0 (pc := 778) dL_law_778 rfl rfl ?_
      refine s_iload_n 3 (pc := 779) dL_law_779 rfl rfl ?_
      refine s_iconst (v := 2) (pc := 780) dL_law_780 rfl ?_
      refine s_iadd (pc := 781) dL_law_781 ?_
      refine s_scr (pc := 782) dL_law_782 hv225 ?_
      refine s_aload_n 0 (pc := 783) dL_law_783 rfl rfl ?_
      refine s_iload_n 3 (pc := 784) dL_law_784 rfl rfl ?_
      refine s_iconst (v := 3) (pc := 785) dL_law_785 rfl ?_
      refine s_iadd (pc := 786) dL_law_786 ?_
      refine s_scr (pc := 787) dL_law_787 hv226 ?_
      refine s_aload_n 0 (pc := 788) dL_law_788 rfl rfl ?_
      refine s_iload_n 3 (pc := 789) dL_law_789 rfl rfl ?_
      refine s_iconst (v := 4) (pc := 790) dL_law_790 rfl ?_
      refine s_iadd (pc := 791) dL_law_791 ?_
      refine s_scr (pc := 792) dL_law_792 hv227 ?_
      obtain ⟨r237, σ235, hk236, h⟩ := h
      refine s_callV (S := [.int r230]) [.int (eX E (x3 + 1).toNatClampNeg), .int (eX E (x3 + 2).toNatClampNeg), .int (eX E (x3 + 3).toNatClampNeg), .int (eX E (x3 + 4).toNatClampNeg)] (pc := 793) dL_law_793 mv_X8_seen ml_L_101 ⟨Nat.le_of_ble_eq_true rfl, Nat.le_of_ble_eq_true rfl⟩ rfl rfl ly53 rfl rfl (Nat.le_of_ble_eq_true rfl) hk236 ?_
      refine s_icmp_eq (pc := 796) (tgt := 1265) dL_law_796 rfl (fun q238 => ?_) (fun q238 => ?_)
      · replace h := h.1 q238
        refine s_iinc (v := x3 + 6) (L' := [(3, .int (x3 + 6)), (0, .ref 102), (1, .ref 0), (2, .ref 53)]) 3 (pc := 1265) dL_law_1265 rfl rfl (Nat.le_of_ble_eq_true rfl) rfl ?_
        refine s_goto (pc := 1268) (tgt := 18) dL_law_1268 rfl ?_
        exact s_sub (L' := [(0, .ref 102), (1, .ref 0), (2, .ref 53), (3, .int (x3 + 6))]) [1, 2, 3, 0] rfl h
      · replace h := h.2 q238
        refine s_iconst (v := 0) (pc := 799) dL_law_799 rfl ?_
        exact s_ret (r := some (.int 0)) ⟨dL_law_800, fun ty e => by cases e; rfl⟩ rfl h
    replace h := h.2
    by_cases q239 : ((eX E (x3).toNatClampNeg) &&& 63) = (21 : Int32)
    · replace h := h.1 q239
      refine s_tin (pc := 33) (tgt := 801) 21 dL_law_33 (by rw [q239]; rfl) (by decide) (by decide) rfl rfl ?_
      refine s_aload_n 1 (pc := 801) dL_law_801 rfl rfl ?_
      obtain ⟨r242, σ240, hk241, h⟩ := h
      refine s_callV (S := []) [] (pc := 802) dL_law_802 mv_X7_forget ml_L_102 ⟨Nat.le_of_ble_eq_true rfl, Nat.le_of_ble_eq_true rfl⟩ rfl rfl ly0 rfl rfl (Nat.le_of_ble_eq_true rfl) hk241 ?_
      refine s_aload_n 2 (pc := 805) dL_law_805 rfl rfl ?_
      obtain ⟨r245, σ243, hk244, h⟩ := h
      refine s_callV (S := [.int r242]) [] (pc := 806) dL_law_806 mv_X8_forget ml_L_105 ⟨Nat.le_of_ble_eq_true rfl, Nat.le_of_ble_eq_true rfl⟩ rfl rfl ly53 rfl rfl (Nat.le_of_ble_eq_true rfl) hk244 ?_
      refine s_icmp_eq (pc := 809) (tgt := 1265) dL_law_809 rfl (fun q246 => ?_) (fun q246 => ?_)
      · replace h := h.1 q246
        refine s_iinc (v := x3 + 6) (L' := [(3, .int (x3 + 6)), (0, .ref 102), (1, .ref 0), (2, .ref 53)]) 3 (pc := 1265) dL_law_1265 rfl rfl (Nat.le_of_ble_eq_true rfl) rfl ?_
        refine s_goto (pc := 1268) (tgt := 18) dL_law_1268 rfl ?_
        exact s_sub (L' := [(0, .ref 102), (1, .ref 0), (2, .ref 53), (3, .int (x3 + 6))]) [1, 2, 3, 0] rfl h
      · replace h := h.2 q246
        refine s_iconst (v := 0) (pc := 812) dL_law_812 rfl ?_
        exact s_ret (r := some (.int 0)) ⟨dL_law_813, fun ty e => by cases e; rfl⟩ rfl h
    replace h := h.2
    by_cases q247 : ((eX E (x3).toNatClampNeg) &&& 63) = (22 : Int32)
    · replace h := h.1 q247
      refine s_tin (pc := 33) (tgt := 814) 22 dL_law_33 (by rw [q247]; rfl) (by decide) (by decide) rfl rfl ?_
      refine s_aload_n 1 (pc := 814) dL_law_814 rfl rfl ?_
      obtain ⟨r250, σ248, hk249, h⟩ := h
      refine s_callV (S := []) [] (pc := 815) dL_law_815 mv_X7_never ml_L_106 ⟨Nat.le_of_ble_eq_true rfl, Nat.le_of_ble_eq_true rfl⟩ rfl rfl ly0 rfl rfl (Nat.le_of_ble_eq_true rfl) hk249 ?_
      refine s_aload_n 2 (pc := 818) dL_law_818 rfl rfl ?_
      obtain ⟨r253, σ251, hk252, h⟩ := h
      refine s_callV (S := [.int r250]) [] (pc := 819) dL_law_819 mv_X8_never ml_L_109 ⟨Nat.le_of_ble_eq_true rfl, Nat.le_of_ble_eq_true rfl⟩ rfl rfl ly53 rfl rfl (Nat.le_of_ble_eq_true rfl) hk252 ?_
      refine s_icmp_eq (pc := 822) (tgt := 1265) dL_law_822 rfl (fun q254 => ?_) (fun q254 => ?_)
      · replace h := h.1 q254
        refine s_iinc (v := x3 + 6) (L' := [(3, .int (x3 + 6)), (0, .ref 102), (1, .ref 0), (2, .ref 53)]) 3 (pc := 1265) dL_law_1265 rfl rfl (Nat.le_of_ble_eq_true rfl) rfl ?_
        refine s_goto (pc := 1268) (tgt := 18) dL_law_1268 rfl ?_
        exact s_sub (L' := [(0, .ref 102), (1, .ref 0), (2, .ref 53), (3, .int (x3 + 6))]) [1, 2, 3, 0] rfl h
      · replace h := h.2 q254
        refine s_iconst (v := 0) (pc := 825) dL_law_825 rfl ?_
        exact s_ret (r := some (.int 0)) ⟨dL_law_826, fun ty e => by cases e; rfl⟩ rfl h
    replace h := h.2
    by_cases q255 : ((eX E (x3).toNatClampNeg) &&& 63) = (23 : Int32)
    · replace h := h.1 q255
      refine s_tin (pc := 33) (tgt := 827) 23 dL_law_33 (by rw [q255]; rfl) (by decide) (by decide) rfl rfl ?_
      refine s_aload_n 1 (pc := 827) dL_law_827 rfl rfl ?_
      refine s_aload_n 0 (pc := 828) dL_law_828 rfl rfl ?_
      refine s_iload_n 3 (pc := 829) dL_law_829 rfl rfl ?_
      refine s_iconst (v := 1) (pc := 830) dL_law_830 rfl ?_
      refine s_iadd (pc := 831) dL_law_831 ?_
      have hv256 := h.1
      replace h := h.2
      refine s_scr (pc := 832) dL_law_832 hv256 ?_
      refine s_aload_n 0 (pc := 833) dL_law_833 rfl rfl ?_
      refine s_iload_n 3 (pc := 834) dL_law_834 rfl rfl ?_
      refine s_iconst (v := 2) (pc := 835) dL_law_835 rfl ?_
      refine s_iadd (pc := 836) dL_law_836 ?_
      have hv257 := h.1
      replace h := h.2
      refine s_scr (pc := 837) dL_law_837 hv257 ?_
      obtain ⟨r260, σ258, hk259, h⟩ := h
      refine s_callV (S := []) [.int (eX E (x3 + 1).toNatClampNeg), .int (eX E (x3 + 2).toNatClampNeg)] (pc := 838) dL_law_838 mv_X7_was ml_L_110 ⟨Nat.le_of_ble_eq_true rfl, Nat.le_of_ble_eq_true rfl⟩ rfl rfl ly0 rfl rfl (Nat.le_of_ble_eq_true rfl) hk259 ?_
      refine s_aload_n 2 (pc := 841) dL_law_841 rfl rfl ?_
      refine s_aload_n 0 (pc := 842) dL_law_842 rfl rfl ?_
      refine s_iload_n 3 (pc := 843) dL_law_843 rfl rfl ?_
      refine s_iconst (v := 1) (pc := 844) dL_law_844 rfl ?_
      refine s_iadd (pc := 845) dL_law_845 ?_
      refine s_scr (pc := 846) dL_law_846 hv256 ?_
      refine s_aload_n 0 (pc := 847) dL_law_847 rfl rfl ?_
      refine s_iload_n 3 (pc := 848) dL_law_848 rfl rfl ?_
      refine s_iconst (v := 2) (pc := 849) dL_law_849 rfl ?_
      refine s_iadd (pc := 850) dL_law_850 ?_
      refine s_scr (pc := 851) dL_law_851 hv257 ?_
      obtain ⟨r265, σ263, hk264, h⟩ := h
      refine s_callV (S := [.int r260]) [.int (eX E (x3 + 1).toNatClampNeg), .int (eX E (x3 + 2).toNatClampNeg)] (pc := 852) dL_law_852 mv_X8_was ml_L_113 ⟨Nat.le_of_ble_eq_true rfl, Nat.le_of_ble_eq_true rfl⟩ rfl rfl ly53 rfl rfl (Nat.le_of_ble_eq_true rfl) hk264 ?_
      refine s_icmp_eq (pc := 855) (tgt := 1265) dL_law_855 rfl (fun q266 => ?_) (fun q266 => ?_)
      · replace h := h.1 q266
        refine s_iinc (v := x3 + 6) (L' := [(3, .int (x3 + 6)), (0, .ref 102), (1, .ref 0), (2, .ref 53)]) 3 (pc := 1265) dL_law_1265 rfl rfl (Nat.le_of_ble_eq_true rfl) rfl ?_
        refine s_goto (pc := 1268) (tgt := 18) dL_law_1268 rfl ?_
        exact s_sub (L' := [(0, .ref 102), (1, .ref 0), (2, .ref 53), (3, .int (x3 + 6))]) [1, 2, 3, 0] rfl h
      · replace h := h.2 q266
        refine s_iconst (v := 0) (pc := 858) dL_law_858 rfl ?_
        exact s_ret (r := some (.int 0)) ⟨dL_law_859, fun ty e => by cases e; rfl⟩ rfl h
    replace h := h.2
    by_cases q267 : ((eX E (x3).toNatClampNeg) &&& 63) = (24 : Int32)
    · replace h := h.1 q267
      refine s_tin (pc := 33) (tgt := 860) 24 dL_law_33 (by rw [q267]; rfl) (by decide) (by decide) rfl rfl ?_
      refine s_aload_n 1 (pc := 860) dL_law_860 rfl rfl ?_
      refine s_aload_n 0 (pc := 861) dL_law_861 rfl rfl ?_
      refine s_iload_n 3 (pc := 862) dL_law_862 rfl rfl ?_
      refine s_iconst (v := 1) (pc := 863) dL_law_863 rfl ?_
      refine s_iadd (pc := 864) dL_law_864 ?_
      have hv268 := h.1
      replace h := h.2
      refine s_scr (pc := 865) dL_law_865 hv268 ?_
      obtain ⟨r271, σ269, hk270, h⟩ := h
      refine s_callV (S := []) [.int (eX E (x3 + 1).toNatClampNeg)] (pc := 866) dL_law_866 mv_X7_ask ml_L_114 ⟨Nat.le_of_ble_eq_true rfl, Nat.le_of_ble_eq_true rfl⟩ rfl rfl ly0 rfl rfl (Nat.le_of_ble_eq_true rfl) hk270 ?_
      refine s_aload_n 2 (pc := 869) dL_law_869 rfl rfl ?_
      refine s_aload_n 0 (pc := 870) dL_law_870 rfl rfl ?_
      refine s_iload_n 3 (pc := 871) dL_law_871 rfl rfl ?_
      refine s_iconst (v := 1) (pc := 872) dL_law_872 rfl ?_
      refine s_iadd (pc := 873) dL_law_873 ?_
      refine s_scr (pc := 874) dL_law_874 hv268 ?_
      obtain ⟨r275, σ273, hk274, h⟩ := h
      refine s_callV (S := [.int r271]) [.int (eX E (x3 + 1).toNatClampNeg)] (pc := 875) dL_law_875 mv_X8_ask ml_L_117 ⟨Nat.le_of_ble_eq_true rfl, Nat.le_of_ble_eq_true rfl⟩ rfl rfl ly53 rfl rfl (Nat.le_of_ble_eq_true rfl) hk274 ?_
      refine s_icmp_eq (pc := 878) (tgt := 1265) dL_law_878 rfl (fun q276 => ?_) (fun q276 => ?_)
      · replace h := h.1 q276
        refine s_iinc (v := x3 + 6) (L' := [(3, .int (x3 + 6)), (0, .ref 102), (1, .ref 0), (2, .ref 53)]) 3 (pc := 1265) dL_law_1265 rfl rfl (Nat.le_of_ble_eq_true rfl) rfl ?_
        refine s_goto (pc := 1268) (tgt := 18) dL_law_1268 rfl ?_
        exact s_sub (L' := [(0, .ref 102), (1, .ref 0), (2, .ref 53), (3, .int (x3 + 6))]) [1, 2, 3, 0] rfl h
      · replace h := h.2 q276
        refine s_iconst (v := 0) (pc := 881) dL_law_881 rfl ?_
        exact s_ret (r := some (.int 0)) ⟨dL_law_882, fun ty e => by cases e; rfl⟩ rfl h
    replace h := h.2
    by_cases q277 : ((eX E (x3).toNatClampNeg) &&& 63) = (25 : Int32)
    · replace h := h.1 q277
      refine s_tin (pc := 33) (tgt := 883) 25 dL_law_33 (by rw [q277]; rfl) (by decide) (by decide) rfl rfl ?_
      refine s_aload_n 1 (pc := 883) dL_law_883 rfl rfl ?_
      refine s_aload_n 0 (pc := 884) dL_law_884 rfl rfl ?_
      refine s_iload_n 3 (pc := 885) dL_law_885 rfl rfl ?_
      refine s_iconst (v := 1) (pc := 886) dL_law_886 rfl ?_
      refine s_iadd (pc := 887) dL_law_887 ?_
      have hv278 := h.1
      replace h := h.2
      refine s_scr (pc := 888) dL_law_888 hv278 ?_
      refine s_aload_n 0 (pc := 889) dL_law_889 rfl rfl ?_
      refine s_iload_n 3 (pc := 890) dL_law_890 rfl rfl ?_
      refine s_iconst (v := 2) (pc := 891) dL_law_891 rfl ?_
      refine s_iadd (pc := 892) dL_law_892 ?_
      have hv279 := h.1
      replace h := h.2
      refine s_scr (pc := 893) dL_law_893 hv279 ?_
      refine s_aload_n 0 (pc := 894) dL_law_894 rfl rfl ?_
      refine s_iload_n 3 (pc := 895) dL_law_895 rfl rfl ?_
      refine s_iconst (v := 3) (pc := 896) dL_law_896 rfl ?_
      refine s_iadd (pc := 897) dL_law_897 ?_
      have hv280 := h.1
      replace h := h.2
      refine s_scr (pc := 898) dL_law_898 hv280 ?_
      obtain ⟨r283, σ281, hk282, h⟩ := h
      refine s_callV (S := []) [.int (eX E (x3 + 1).toNatClampNeg), .int (eX E (x3 + 2).toNatClampNeg), .int (eX E (x3 + 3).toNatClampNeg)] (pc := 899) dL_law_899 mv_X7_gossip ml_L_118 ⟨Nat.le_of_ble_eq_true rfl, Nat.le_of_ble_eq_true rfl⟩ rfl rfl ly0 rfl rfl (Nat.le_of_ble_eq_true rfl) hk282 ?_
      refine s_aload_n 2 (pc := 902) dL_law_902 rfl rfl ?_
      refine s_aload_n 0 (pc := 903) dL_law_903 rfl rfl ?_
      refine s_iload_n 3 (pc := 904) dL_law_904 rfl rfl ?_
      refine s_iconst (v := 1) (pc := 905) dL_law_905 rfl ?_
      refine s_iadd (pc := 906) dL_law_906 ?_
      refine s_scr (pc := 907) dL_law_907 hv278 ?_
      refine s_aload_n 0 (pc := 908) dL_law_908 rfl rfl ?_
      refine s_iload_n 3 (pc := 909) dL_law_909 rfl rfl ?_
      refine s_iconst (v := 2) (pc := 910) dL_law_910 rfl ?_
      refine s_iadd (pc := 911) dL_law_911 ?_
      refine s_scr (pc := 912) dL_law_912 hv279 ?_
      refine s_aload_n 0 (pc := 913) dL_law_913 rfl rfl ?_
      refine s_iload_n 3 (pc := 914) dL_law_914 rfl rfl ?_
      refine s_iconst (v := 3) (pc := 915) dL_law_915 rfl ?_
      refine s_iadd (pc := 916) dL_law_916 ?_
      refine s_scr (pc := 917) dL_law_917 hv280 ?_
      obtain ⟨r289, σ287, hk288, h⟩ := h
      refine s_callV (S := [.long r283]) [.int (eX E (x3 + 1).toNatClampNeg), .int (eX E (x3 + 2).toNatClampNeg), .int (eX E (x3 + 3).toNatClampNeg)] (pc := 918) dL_law_918 mv_X8_gossip ml_L_122 ⟨Nat.le_of_ble_eq_true rfl, Nat.le_of_ble_eq_true rfl⟩ rfl rfl ly53 rfl rfl (Nat.le_of_ble_eq_true rfl) hk288 ?_
      refine s_lcmp (pc := 921) dL_law_921 ?_
      refine s_if_eq (pc := 922) (tgt := 1265) dL_law_922 rfl (fun q290 => ?_) (fun q290 => ?_)
      · replace h := h.1 q290
        refine s_iinc (v := x3 + 6) (L' := [(3, .int (x3 + 6)), (0, .ref 102), (1, .ref 0), (2, .ref 53)]) 3 (pc := 1265) dL_law_1265 rfl rfl (Nat.le_of_ble_eq_true rfl) rfl ?_
        refine s_goto (pc := 1268) (tgt := 18) dL_law_1268 rfl ?_
        exact s_sub (L' := [(0, .ref 102), (1, .ref 0), (2, .ref 53), (3, .int (x3 + 6))]) [1, 2, 3, 0] rfl h
      · replace h := h.2 q290
        refine s_iconst (v := 0) (pc := 925) dL_law_925 rfl ?_
        exact s_ret (r := some (.int 0)) ⟨dL_law_926, fun ty e => by cases e; rfl⟩ rfl h
    replace h := h.2
    by_cases q291 : ((eX E (x3).toNatClampNeg) &&& 63) = (26 : Int32)
    · replace h := h.1 q291
      refine s_tin (pc := 33) (tgt := 927) 26 dL_law_33 (by rw [q291]; rfl) (by decide) (by decide) rfl rfl ?_
      refine s_aload_n 1 (pc := 927) dL_law_927 rfl rfl ?_
      refine s_aload_n 0 (pc := 928) dL_law_928 rfl rfl ?_
      refine s_iload_n 3 (pc := 929) dL_law_929 rfl rfl ?_
      refine s_iconst (v := 1) (pc := 930) dL_law_930 rfl ?_
      refine s_iadd (pc := 931) dL_law_931 ?_
      have hv292 := h.1
      replace h := h.2
      refine s_scr (pc := 932) dL_law_932 hv292 ?_
      refine s_aload_n 0 (pc := 933) dL_law_933 rfl rfl ?_
      refine s_iload_n 3 (pc := 934) dL_law_934 rfl rfl ?_
      refine s_iconst (v := 2) (pc := 935) dL_law_935 rfl ?_
      refine s_iadd (pc := 936) dL_law_936 ?_
      have hv293 := h.1
      replace h := h.2
      refine s_scr (pc := 937) dL_law_937 hv293 ?_
      refine s_aload_n 0 (pc := 938) dL_law_938 rfl rfl ?_
      refine s_iload_n 3 (pc := 939) dL_law_939 rfl rfl ?_
      refine s_iconst (v := 3) (pc := 940) dL_law_940 rfl ?_
      refine s_iadd (pc := 941) dL_law_941 ?_
      have hv294 := h.1
      replace h := h.2
      refine s_scr (pc := 942) dL_law_942 hv294 ?_
      obtain ⟨r297, σ295, hk296, h⟩ := h
      refine s_callV (S := []) [.int (eX E (x3 + 1).toNatClampNeg), .int (eX E (x3 + 2).toNatClampNeg), .int (eX E (x3 + 3).toNatClampNeg)] (pc := 943) dL_law_943 mv_X7_ages ml_L_123 ⟨Nat.le_of_ble_eq_true rfl, Nat.le_of_ble_eq_true rfl⟩ rfl rfl ly0 rfl rfl (Nat.le_of_ble_eq_true rfl) hk296 ?_
      refine s_aload_n 2 (pc := 946) dL_law_946 rfl rfl ?_
      refine s_aload_n 0 (pc := 947) dL_law_947 rfl rfl ?_
      refine s_iload_n 3 (pc := 948) dL_law_948 rfl rfl ?_
      refine s_iconst (v := 1) (pc := 949) dL_law_949 rfl ?_
      refine s_iadd (pc := 950) dL_law_950 ?_
      refine s_scr (pc := 951) dL_law_951 hv292 ?_
      refine s_aload_n 0 (pc := 952) dL_law_952 rfl rfl ?_
      refine s_iload_n 3 (pc := 953) dL_law_953 rfl rfl ?_
      refine s_iconst (v := 2) (pc := 954) dL_law_954 rfl ?_
      refine s_iadd (pc := 955) dL_law_955 ?_
      refine s_scr (pc := 956) dL_law_956 hv293 ?_
      refine s_aload_n 0 (pc := 957) dL_law_957 rfl rfl ?_
      refine s_iload_n 3 (pc := 958) dL_law_958 rfl rfl ?_
      refine s_iconst (v := 3) (pc := 959) dL_law_959 rfl ?_
      refine s_iadd (pc := 960) dL_law_960 ?_
      refine s_scr (pc := 961) dL_law_961 hv294 ?_
      obtain ⟨r303, σ301, hk302, h⟩ := h
      refine s_callV (S := [.int r297]) [.int (eX E (x3 + 1).toNatClampNeg), .int (eX E (x3 + 2).toNatClampNeg), .int (eX E (x3 + 3).toNatClampNeg)] (pc := 962) dL_law_962 mv_X8_ages ml_L_126 ⟨Nat.le_of_ble_eq_true rfl, Nat.le_of_ble_eq_true rfl⟩ rfl rfl ly53 rfl rfl (Nat.le_of_ble_eq_true rfl) hk302 ?_
      refine s_icmp_eq (pc := 965) (tgt := 1265) dL_law_965 rfl (fun q304 => ?_) (fun q304 => ?_)
      · replace h := h.1 q304
        refine s_iinc (v := x3 + 6) (L' := [(3, .int (x3 + 6)), (0, .ref 102), (1, .ref 0), (2, .ref 53)]) 3 (pc := 1265) dL_law_1265 rfl rfl (Nat.le_of_ble_eq_true rfl) rfl ?_
        refine s_goto (pc := 1268) (tgt := 18) dL_law_1268 rfl ?_
        exact s_sub (L' := [(0, .ref 102), (1, .ref 0), (2, .ref 53), (3, .int (x3 + 6))]) [1, 2, 3, 0] rfl h
      · replace h := h.2 q304
        refine s_iconst (v := 0) (pc := 968) dL_law_968 rfl ?_
        exact s_ret (r := some (.int 0)) ⟨dL_law_969, fun ty e => by cases e; rfl⟩ rfl h
    replace h := h.2
    by_cases q305 : ((eX E (x3).toNatClampNeg) &&& 63) = (27 : Int32)
    · replace h := h.1 q305
      refine s_tin (pc := 33) (tgt := 970) 27 dL_law_33 (by rw [q305]; rfl) (by decide) (by decide) rfl rfl ?_
      refine s_aload_n 1 (pc := 970) dL_law_970 rfl rfl ?_
      refine s_aload_n 0 (pc := 971) dL_law_971 rfl rfl ?_
      refine s_iload_n 3 (pc := 972) dL_law_972 rfl rfl ?_
      refine s_iconst (v := 1) (pc := 973) dL_law_973 rfl ?_
      refine s_iadd (pc := 974) dL_law_974 ?_
      have hv306 := h.1
      replace h := h.2
      refine s_scr (pc := 975) dL_law_975 hv306 ?_
      refine s_aload_n 0 (pc := 976) dL_law_976 rfl rfl ?_
      refine s_iload_n 3 (pc := 977) dL_law_977 rfl rfl ?_
      refine s_iconst (v := 2) (pc := 978) dL_law_978 rfl ?_
      refine s_iadd (pc := 979) dL_law_979 ?_
      have hv307 := h.1
      replace h := h.2
      refine s_scr (pc := 980) dL_law_980 hv307 ?_
      refine s_aload_n 0 (pc := 981) dL_law_981 rfl rfl ?_
      refine s_iload_n 3 (pc := 982) dL_law_982 rfl rfl ?_
      refine s_iconst (v := 3) (pc := 983) dL_law_983 rfl ?_
      refine s_iadd (pc := 984) dL_law_984 ?_
      have hv308 := h.1
      replace h := h.2
      refine s_scr (pc := 985) dL_law_985 hv308 ?_
      obtain ⟨r311, σ309, hk310, h⟩ := h
      refine s_callV (S := []) [.int (eX E (x3 + 1).toNatClampNeg), .int (eX E (x3 + 2).toNatClampNeg), .int (eX E (x3 + 3).toNatClampNeg)] (pc := 986) dL_law_986 mv_X7_sheet ml_L_127 ⟨Nat.le_of_ble_eq_true rfl, Nat.le_of_ble_eq_true rfl⟩ rfl rfl ly0 rfl rfl (Nat.le_of_ble_eq_true rfl) hk310 ?_
      refine s_aload_n 2 (pc := 989) dL_law_989 rfl rfl ?_
      refine s_aload_n 0 (pc := 990) dL_law_990 rfl rfl ?_
      refine s_iload_n 3 (pc := 991) dL_law_991 rfl rfl ?_
      refine s_iconst (v := 1) (pc := 992) dL_law_992 rfl ?_
      refine s_iadd (pc := 993) dL_law_993 ?_
      refine s_scr (pc := 994) dL_law_994 hv306 ?_
      refine s_aload_n 0 (pc := 995) dL_law_995 rfl rfl ?_
      refine s_iload_n 3 (pc := 996) dL_law_996 rfl rfl ?_
      refine s_iconst (v := 2) (pc := 997) dL_law_997 rfl ?_
      refine s_iadd (pc := 998) dL_law_998 ?_
      refine s_scr (pc := 999) dL_law_999 hv307 ?_
      refine s_aload_n 0 (pc := 1000) dL_law_1000 rfl rfl ?_
      refine s_iload_n 3 (pc := 1001) dL_law_1001 rfl rfl ?_
      refine s_iconst (v := 3) (pc := 1002) dL_law_1002 rfl ?_
      refine s_iadd (pc := 1003) dL_law_1003 ?_
      refine s_scr (pc := 1004) dL_law_1004 hv308 ?_
      obtain ⟨r317, σ315, hk316, h⟩ := h
      refine s_callV (S := [.int r311]) [.int (eX E (x3 + 1).toNatClampNeg), .int (eX E (x3 + 2).toNatClampNeg), .int (eX E (x3 + 3).toNatClampNeg)] (pc := 1005) dL_law_1005 mv_X8_sheet ml_L_130 ⟨Nat.le_of_ble_eq_true rfl, Nat.le_of_ble_eq_true rfl⟩ rfl rfl ly53 rfl rfl (Nat.le_of_ble_eq_true rfl) hk316 ?_
      refine s_icmp_eq (pc := 1008) (tgt := 1265) dL_law_1008 rfl (fun q318 => ?_) (fun q318 => ?_)
      · replace h := h.1 q318
        refine s_iinc (v := x3 + 6) (L' := [(3, .int (x3 + 6)), (0, .ref 102), (1, .ref 0), (2, .ref 53)]) 3 (pc := 1265) dL_law_1265 rfl rfl (Nat.le_of_ble_eq_true rfl) rfl ?_
        refine s_goto (pc := 1268) (tgt := 18) dL_law_1268 rfl ?_
        exact s_sub (L' := [(0, .ref 102), (1, .ref 0), (2, .ref 53), (3, .int (x3 + 6))]) [1, 2, 3, 0] rfl h
      · replace h := h.2 q318
        refine s_iconst (v := 0) (pc := 1011) dL_law_1011 rfl ?_
        exact s_ret (r := some (.int 0)) ⟨dL_law_1012, fun ty e => by cases e; rfl⟩ rfl h
    replace h := h.2
    by_cases q319 : ((eX E (x3).toNatClampNeg) &&& 63) = (28 : Int32)
    · replace h := h.1 q319
      refine s_tin (pc := 33) (tgt := 1013) 28 dL_law_33 (by rw [q319]; rfl) (by decide) (by decide) rfl rfl ?_
      refine s_aload_n 1 (pc := 1013) dL_law_1013 rfl rfl ?_
      refine s_aload_n 0 (pc := 1014) dL_law_1014 rfl rfl ?_
      refine s_iload_n 3 (pc := 1015) dL_law_1015 rfl rfl ?_
      refine s_iconst (v := 1) (pc := 1016) dL_law_1016 rfl ?_
      refine s_iadd (pc := 1017) dL_law_1017 ?_
      have hv320 := h.1
      replace h := h.2
      refine s_scr (pc := 1018) dL_law_1018 hv320 ?_
      obtain ⟨r323, σ321, hk322, h⟩ := h
      refine s_callV (S := []) [.int (eX E (x3 + 1).toNatClampNeg)] (pc := 1019) dL_law_1019 mv_X7_lose ml_L_131 ⟨Nat.le_of_ble_eq_true rfl, Nat.le_of_ble_eq_true rfl⟩ rfl rfl ly0 rfl rfl (Nat.le_of_ble_eq_true rfl) hk322 ?_
      refine s_aload_n 2 (pc := 1022) dL_law_1022 rfl rfl ?_
      refine s_aload_n 0 (pc := 1023) dL_law_1023 rfl rfl ?_
      refine s_iload_n 3 (pc := 1024) dL_law_1024 rfl rfl ?_
      refine s_iconst (v := 1) (pc := 1025) dL_law_1025 rfl ?_
      refine s_iadd (pc := 1026) dL_law_1026 ?_
      refine s_scr (pc := 1027) dL_law_1027 hv320 ?_
      obtain ⟨r327, σ325, hk326, h⟩ := h
      refine s_callV (S := [.int r323]) [.int (eX E (x3 + 1).toNatClampNeg)] (pc := 1028) dL_law_1028 mv_X8_lose ml_L_134 ⟨Nat.le_of_ble_eq_true rfl, Nat.le_of_ble_eq_true rfl⟩ rfl rfl ly53 rfl rfl (Nat.le_of_ble_eq_true rfl) hk326 ?_
      refine s_icmp_eq (pc := 1031) (tgt := 1265) dL_law_1031 rfl (fun q328 => ?_) (fun q328 => ?_)
      · replace h := h.1 q328
        refine s_iinc (v := x3 + 6) (L' := [(3, .int (x3 + 6)), (0, .ref 102), (1, .ref 0), (2, .ref 53)]) 3 (pc := 1265) dL_law_1265 rfl rfl (Nat.le_of_ble_eq_true rfl) rfl ?_
        refine s_goto (pc := 1268) (tgt := 18) dL_law_1268 rfl ?_
        exact s_sub (L' := [(0, .ref 102), (1, .ref 0), (2, .ref 53), (3, .int (x3 + 6))]) [1, 2, 3, 0] rfl h
      · replace h := h.2 q328
        refine s_iconst (v := 0) (pc := 1034) dL_law_1034 rfl ?_
        exact s_ret (r := some (.int 0)) ⟨dL_law_1035, fun ty e => by cases e; rfl⟩ rfl h
    replace h := h.2
    by_cases q329 : ((eX E (x3).toNatClampNeg) &&& 63) = (29 : Int32)
    · replace h := h.1 q329
      refine s_tin (pc := 33) (tgt := 1036) 29 dL_law_33 (by rw [q329]; rfl) (by decide) (by decide) rfl rfl ?_
      refine s_aload_n 1 (pc := 1036) dL_law_1036 rfl rfl ?_
      refine s_aload_n 0 (pc := 1037) dL_law_1037 rfl rfl ?_
      refine s_iload_n 3 (pc := 1038) dL_law_1038 rfl rfl ?_
      refine s_iconst (v := 1) (pc := 1039) dL_law_1039 rfl ?_
      refine s_iadd (pc := 1040) dL_law_1040 ?_
      have hv330 := h.1
      replace h := h.2
      refine s_scr (pc := 1041) dL_law_1041 hv330 ?_
      refine s_aload_n 0 (pc := 1042) dL_law_1042 rfl rfl ?_
      refine s_iload_n 3 (pc := 1043) dL_law_1043 rfl rfl ?_
      refine s_iconst (v := 2) (pc := 1044) dL_law_1044 rfl ?_
      refine s_iadd (pc := 1045) dL_law_1045 ?_
      have hv331 := h.1
      replace h := h.2
      refine s_scr (pc := 1046) dL_law_1046 hv331 ?_
      refine s_aload_n 0 (pc := 1047) dL_law_1047 rfl rfl ?_
      refine s_iload_n 3 (pc := 1048) dL_law_1048 rfl rfl ?_
      refine s_iconst (v := 3) (pc := 1049) dL_law_1049 rfl ?_
      refine s_iadd (pc := 1050) dL_law_1050 ?_
      have hv332 := h.1
      replace h := h.2
      refine s_scr (pc := 1051) dL_law_1051 hv332 ?_
      refine s_aload_n 0 (pc := 1052) dL_law_1052 rfl rfl ?_
      refine s_iload_n 3 (pc := 1053) dL_law_1053 rfl rfl ?_
      refine s_iconst (v := 4) (pc := 1054) dL_law_1054 rfl ?_
      refine s_iadd (pc := 1055) dL_law_1055 ?_
      have hv333 := h.1
      replace h := h.2
      refine s_scr (pc := 1056) dL_law_1056 hv333 ?_
      obtain ⟨r336, σ334, hk335, h⟩ := h
      refine s_callV (S := []) [.int (eX E (x3 + 1).toNatClampNeg), .int (eX E (x3 + 2).toNatClampNeg), .int (eX E (x3 + 3).toNatClampNeg), .int (eX E (x3 + 4).toNatClampNeg)] (pc := 1057) dL_law_1057 mv_X7_put ml_L_135 ⟨Nat.le_of_ble_eq_true rfl, Nat.le_of_ble_eq_true rfl⟩ rfl rfl ly0 rfl rfl (Nat.le_of_ble_eq_true rfl) hk335 ?_
      refine s_aload_n 2 (pc := 1060) dL_law_1060 rfl rfl ?_
      refine s_aload_n 0 (pc := 1061) dL_law_1061 rfl rfl ?_
      refine s_iload_n 3 (pc := 1062) dL_law_1062 rfl rfl ?_
      refine s_iconst (v := 1) (pc := 1063) dL_law_1063 rfl ?_
      refine s_iadd (pc := 1064) dL_law_1064 ?_
      refine s_scr (pc := 1065) dL_law_1065 hv330 ?_
      refine s_aload_n 0 (pc := 1066) dL_law_1066 rfl rfl ?_
      refine s_iload_n 3 (pc := 1067) dL_law_1067 rfl rfl ?_
      refine s_iconst (v := 2) (pc := 1068) dL_law_1068 rfl ?_
      refine s_iadd (pc := 1069) dL_law_1069 ?_
      refine s_scr (pc := 1070) dL_law_1070 hv331 ?_
      refine s_aload_n 0 (pc := 1071) dL_law_1071 rfl rfl ?_
      refine s_iload_n 3 (pc := 1072) dL_law_1072 rfl rfl ?_
      refine s_iconst (v := 3) (pc := 1073) dL_law_1073 rfl ?_
      refine s_iadd (pc := 1074) dL_law_1074 ?_
      refine s_scr (pc := 1075) dL_law_1075 hv332 ?_
      refine s_aload_n 0 (pc := 1076) dL_law_1076 rfl rfl ?_
      refine s_iload_n 3 (pc := 1077) dL_law_1077 rfl rfl ?_
      refine s_iconst (v := 4) (pc := 1078) dL_law_1078 rfl ?_
      refine s_iadd (pc := 1079) dL_law_1079 ?_
      refine s_scr (pc := 1080) dL_law_1080 hv333 ?_
      obtain ⟨r343, σ341, hk342, h⟩ := h
      refine s_callV (S := [.int r336]) [.int (eX E (x3 + 1).toNatClampNeg), .int (eX E (x3 + 2).toNatClampNeg), .int (eX E (x3 + 3).toNatClampNeg), .int (eX E (x3 + 4).toNatClampNeg)] (pc := 1081) dL_law_1081 mv_X8_put ml_L_138 ⟨Nat.le_of_ble_eq_true rfl, Nat.le_of_ble_eq_true rfl⟩ rfl rfl ly53 rfl rfl (Nat.le_of_ble_eq_true rfl) hk342 ?_
      refine s_icmp_eq (pc := 1084) (tgt := 1265) dL_law_1084 rfl (fun q344 => ?_) (fun q344 => ?_)
      · replace h := h.1 q344
        refine s_iinc (v := x3 + 6) (L' := [(3, .int (x3 + 6)), (0, .ref 102), (1, .ref 0), (2, .ref 53)]) 3 (pc := 1265) dL_law_1265 rfl rfl (Nat.le_of_ble_eq_true rfl) rfl ?_
        refine s_goto (pc := 1268) (tgt := 18) dL_law_1268 rfl ?_
        exact s_sub (L' := [(0, .ref 102), (1, .ref 0), (2, .ref 53), (3, .int (x3 + 6))]) [1, 2, 3, 0] rfl h
      · replace h := h.2 q344
        refine s_iconst (v := 0) (pc := 1087) dL_law_1087 rfl ?_
        exact s_ret (r := some (.int 0)) ⟨dL_law_1088, fun ty e => by cases e; rfl⟩ rfl h
    replace h := h.2
    by_cases q345 : ((eX E (x3).toNatClampNeg) &&& 63) = (30 : Int32)
    · replace h := h.1 q345
      refine s_tin (pc := 33) (tgt := 1089) 30 dL_law_33 (by rw [q345]; rfl) (by decide) (by decide) rfl rfl ?_
      refine s_aload_n 1 (pc := 1089) dL_law_1089 rfl rfl ?_
      refine s_aload_n 0 (pc := 1090) dL_law_1090 rfl rfl ?_
      refine s_iload_n 3 (pc := 1091) dL_law_1091 rfl rfl ?_
      refine s_iconst (v := 1) (pc := 1092) dL_law_1092 rfl ?_
      refine s_iadd (pc := 1093) dL_law_1093 ?_
      have hv346 := h.1
      replace h := h.2
      refine s_scr (pc := 1094) dL_law_1094 hv346 ?_
      refine s_aload_n 0 (pc := 1095) dL_law_1095 rfl rfl ?_
      refine s_iload_n 3 (pc := 1096) dL_law_1096 rfl rfl ?_
      refine s_iconst (v := 2) (pc := 1097) dL_law_1097 rfl ?_
      refine s_iadd (pc := 1098) dL_law_1098 ?_
      have hv347 := h.1
      replace h := h.2
      refine s_scr (pc := 1099) dL_law_1099 hv347 ?_
      refine s_aload_n 0 (pc := 1100) dL_law_1100 rfl rfl ?_
      refine s_iload_n 3 (pc := 1101) dL_law_1101 rfl rfl ?_
      refine s_iconst (v := 3) (pc := 1102) dL_law_1102 rfl ?_
      refine s_iadd (pc := 1103) dL_law_1103 ?_
      have hv348 := h.1
      replace h := h.2
      refine s_scr (pc := 1104) dL_law_1104 hv348 ?_
      obtain ⟨r351, σ349, hk350, h⟩ := h
      refine s_callV (S := []) [.int (eX E (x3 + 1).toNatClampNeg), .int (eX E (x3 + 2).toNatClampNeg), .int (eX E (x3 + 3).toNatClampNeg)] (pc := 1105) dL_law_1105 mv_X7_get ml_L_139 ⟨Nat.le_of_ble_eq_true rfl, Nat.le_of_ble_eq_true rfl⟩ rfl rfl ly0 rfl rfl (Nat.le_of_ble_eq_true rfl) hk350 ?_
      refine s_aload_n 2 (pc := 1108) dL_law_1108 rfl rfl ?_
      refine s_aload_n 0 (pc := 1109) dL_law_1109 rfl rfl ?_
      refine s_iload_n 3 (pc := 1110) dL_law_1110 rfl rfl ?_
      refine s_iconst (v := 1) (pc := 1111) dL_law_1111 rfl ?_
      refine s_iadd (pc := 1112) dL_law_1112 ?_
      refine s_scr (pc := 1113) dL_law_1113 hv346 ?_
      refine s_aload_n 0 (pc := 1114) dL_law_1114 rfl rfl ?_
      refine s_iload_n 3 (pc := 1115) dL_law_1115 rfl rfl ?_
      refine s_iconst (v := 2) (pc := 1116) dL_law_1116 rfl ?_
      refine s_iadd (pc := 1117) dL_law_1117 ?_
      refine s_scr (pc := 1118) dL_law_1118 hv347 ?_
      refine s_aload_n 0 (pc := 1119) dL_law_1119 rfl rfl ?_
      refine s_iload_n 3 (pc := 1120) dL_law_1120 rfl rfl ?_
      refine s_iconst (v := 3) (pc := 1121) dL_law_1121 rfl ?_
      refine s_iadd (pc := 1122) dL_law_1122 ?_
      refine s_scr (pc := 1123) dL_law_1123 hv348 ?_
      obtain ⟨r357, σ355, hk356, h⟩ := h
      refine s_callV (S := [.int r351]) [.int (eX E (x3 + 1).toNatClampNeg), .int (eX E (x3 + 2).toNatClampNeg), .int (eX E (x3 + 3).toNatClampNeg)] (pc := 1124) dL_law_1124 mv_X8_get ml_L_142 ⟨Nat.le_of_ble_eq_true rfl, Nat.le_of_ble_eq_true rfl⟩ rfl rfl ly53 rfl rfl (Nat.le_of_ble_eq_true rfl) hk356 ?_
      refine s_icmp_eq (pc := 1127) (tgt := 1265) dL_law_1127 rfl (fun q358 => ?_) (fun q358 => ?_)
      · replace h := h.1 q358
        refine s_iinc (v := x3 + 6) (L' := [(3, .int (x3 + 6)), (0, .ref 102), (1, .ref 0), (2, .ref 53)]) 3 (pc := 1265) dL_law_1265 rfl rfl (Nat.le_of_ble_eq_true rfl) rfl ?_
        refine s_goto (pc := 1268) (tgt := 18) dL_law_1268 rfl ?_
        exact s_sub (L' := [(0, .ref 102), (1, .ref 0), (2, .ref 53), (3, .int (x3 + 6))]) [1, 2, 3, 0] rfl h
      · replace h := h.2 q358
        refine s_iconst (v := 0) (pc := 1130) dL_law_1130 rfl ?_
        exact s_ret (r := some (.int 0)) ⟨dL_law_1131, fun ty e => by cases e; rfl⟩ rfl h
    replace h := h.2
    by_cases q359 : ((eX E (x3).toNatClampNeg) &&& 63) = (31 : Int32)
    · replace h := h.1 q359
      refine s_tin (pc := 33) (tgt := 1132) 31 dL_law_33 (by rw [q359]; rfl) (by decide) (by decide) rfl rfl ?_
      refine s_aload_n 1 (pc := 1132) dL_law_1132 rfl rfl ?_
      refine s_aload_n 0 (pc := 1133) dL_law_1133 rfl rfl ?_
      refine s_iload_n 3 (pc := 1134) dL_law_1134 rfl rfl ?_
      refine s_iconst (v := 1) (pc := 1135) dL_law_1135 rfl ?_
      refine s_iadd (pc := 1136) dL_law_1136 ?_
      have hv360 := h.1
      replace h := h.2
      refine s_scr (pc := 1137) dL_law_1137 hv360 ?_
      refine s_aload_n 0 (pc := 1138) dL_law_1138 rfl rfl ?_
      refine s_iload_n 3 (pc := 1139) dL_law_1139 rfl rfl ?_
      refine s_iconst (v := 2) (pc := 1140) dL_law_1140 rfl ?_
      refine s_iadd (pc := 1141) dL_law_1141 ?_
      have hv361 := h.1
      replace h := h.2
      refine s_scr (pc := 1142) dL_law_1142 hv361 ?_
      refine s_aload_n 0 (pc := 1143) dL_law_1143 rfl rfl ?_
      refine s_iload_n 3 (pc := 1144) dL_law_1144 rfl rfl ?_
      refine s_iconst (v := 3) (pc := 1145) dL_law_1145 rfl ?_
      refine s_iadd (pc := 1146) dL_law_1146 ?_
      have hv362 := h.1
      replace h := h.2
      refine s_scr (pc := 1147) dL_law_1147 hv362 ?_
      refine s_aload_n 0 (pc := 1148) dL_law_1148 rfl rfl ?_
      refine s_iload_n 3 (pc := 1149) dL_law_1149 rfl rfl ?_
      refine s_iconst (v := 4) (pc := 1150) dL_law_1150 rfl ?_
      refine s_iadd (pc := 1151) dL_law_1151 ?_
      have hv363 := h.1
      replace h := h.2
      refine s_scr (pc := 1152) dL_law_1152 hv363 ?_
      refine s_aload_n 0 (pc := 1153) dL_law_1153 rfl rfl ?_
      refine s_iload_n 3 (pc := 1154) dL_law_1154 rfl rfl ?_
      refine s_iconst (v := 5) (pc := 1155) dL_law_1155 rfl ?_
      refine s_iadd (pc := 1156) dL_law_1156 ?_
      have hv364 := h.1
      replace h := h.2
      refine s_scr (pc := 1157) dL_law_1157 hv364 ?_
      obtain ⟨r367, σ365, hk366, h⟩ := h
      refine s_callV (S := []) [.int (eX E (x3 + 1).toNatClampNeg), .int (eX E (x3 + 2).toNatClampNeg), .int (eX E (x3 + 3).toNatClampNeg), .int (eX E (x3 + 4).toNatClampNeg), .int (eX E (x3 + 5).toNatClampNeg)] (pc := 1158) dL_law_1158 mv_X7_copy ml_L_143 ⟨Nat.le_of_ble_eq_true rfl, Nat.le_of_ble_eq_true rfl⟩ rfl rfl ly0 rfl rfl (Nat.le_of_ble_eq_true rfl) hk366 ?_
      refine s_aload_n 2 (pc := 1161) dL_law_1161 rfl rfl ?_
      refine s_aload_n 0 (pc := 1162) dL_law_1162 rfl rfl ?_
      refine s_iload_n 3 (pc := 1163) dL_law_1163 rfl rfl ?_
      refine s_iconst (v := 1) (pc := 1164) dL_law_1164 rfl ?_
      refine s_iadd (pc := 1165) dL_law_1165 ?_
      refine s_scr (pc := 1166) dL_law_1166 hv360 ?_
      refine s_aload_n 0 (pc := 1167) dL_law_1167 rfl rfl ?_
      refine s_iload_n 3 (pc := 1168) dL_law_1168 rfl rfl ?_
      refine s_iconst (v := 2) (pc := 1169) dL_law_1169 rfl ?_
      refine s_iadd (pc := 1170) dL_law_1170 ?_
      refine s_scr (pc := 1171) dL_law_1171 hv361 ?_
      refine s_aload_n 0 (pc := 1172) dL_law_1172 rfl rfl ?_
      refine s_iload_n 3 (pc := 1173) dL_law_1173 rfl rfl ?_
      refine s_iconst (v := 3) (pc := 1174) dL_law_1174 rfl ?_
      refine s_iadd (pc := 1175) dL_law_1175 ?_
      refine s_scr (pc := 1176) dL_law_1176 hv362 ?_
      refine s_aload_n 0 (pc := 1177) dL_law_1177 rfl rfl ?_
      refine s_iload_n 3 (pc := 1178) dL_law_1178 rfl rfl ?_
      refine s_iconst (v := 4) (pc := 1179) dL_law_1179 rfl ?_
      refine s_iadd (pc := 1180) dL_law_1180 ?_
      refine s_scr (pc := 1181) dL_law_1181 hv363 ?_
      refine s_aload_n 0 (pc := 1182) dL_law_1182 rfl rfl ?_
      refine s_iload_n 3 (pc := 1183) dL_law_1183 rfl rfl ?_
      refine s_iconst (v := 5) (pc := 1184) dL_law_1184 rfl ?_
      refine s_iadd (pc := 1185) dL_law_1185 ?_
      refine s_scr (pc := 1186) dL_law_1186 hv364 ?_
      obtain ⟨r375, σ373, hk374, h⟩ := h
      refine s_callV (S := [.int r367]) [.int (eX E (x3 + 1).toNatClampNeg), .int (eX E (x3 + 2).toNatClampNeg), .int (eX E (x3 + 3).toNatClampNeg), .int (eX E (x3 + 4).toNatClampNeg), .int (eX E (x3 + 5).toNatClampNeg)] (pc := 1187) dL_law_1187 mv_X8_copy ml_L_147 ⟨Nat.le_of_ble_eq_true rfl, Nat.le_of_ble_eq_true rfl⟩ rfl rfl ly53 rfl rfl (Nat.le_of_ble_eq_true rfl) hk374 ?_
      refine s_icmp_eq (pc := 1190) (tgt := 1265) dL_law_1190 rfl (fun q376 => ?_) (fun q376 => ?_)
      · replace h := h.1 q376
        refine s_iinc (v := x3 + 6) (L' := [(3, .int (x3 + 6)), (0, .ref 102), (1, .ref 0), (2, .ref 53)]) 3 (pc := 1265) dL_law_1265 rfl rfl (Nat.le_of_ble_eq_true rfl) rfl ?_
        refine s_goto (pc := 1268) (tgt := 18) dL_law_1268 rfl ?_
        exact s_sub (L' := [(0, .ref 102), (1, .ref 0), (2, .ref 53), (3, .int (x3 + 6))]) [1, 2, 3, 0] rfl h
      · replace h := h.2 q376
        refine s_iconst (v := 0) (pc := 1193) dL_law_1193 rfl ?_
        exact s_ret (r := some (.int 0)) ⟨dL_law_1194, fun ty e => by cases e; rfl⟩ rfl h
    replace h := h.2
    by_cases q377 : ((eX E (x3).toNatClampNeg) &&& 63) = (32 : Int32)
    · replace h := h.1 q377
      refine s_tin (pc := 33) (tgt := 1195) 32 dL_law_33 (by rw [q377]; rfl) (by decide) (by decide) rfl rfl ?_
      refine s_aload_n 1 (pc := 1195) dL_law_1195 rfl rfl ?_
      refine s_aload_n 0 (pc := 1196) dL_law_1196 rfl rfl ?_
      refine s_iload_n 3 (pc := 1197) dL_law_1197 rfl rfl ?_
      refine s_iconst (v := 1) (pc := 1198) dL_law_1198 rfl ?_
      refine s_iadd (pc := 1199) dL_law_1199 ?_
      have hv378 := h.1
      replace h := h.2
      refine s_scr (pc := 1200) dL_law_1200 hv378 ?_
      refine s_aload_n 0 (pc := 1201) dL_law_1201 rfl rfl ?_
      refine s_iload_n 3 (pc := 1202) dL_law_1202 rfl rfl ?_
      refine s_iconst (v := 2) (pc := 1203) dL_law_1203 rfl ?_
      refine s_iadd (pc := 1204) dL_law_1204 ?_
      have hv379 := h.1
      replace h := h.2
      refine s_scr (pc := 1205) dL_law_1205 hv379 ?_
      obtain ⟨r382, σ380, hk381, h⟩ := h
      refine s_callV (S := []) [.int (eX E (x3 + 1).toNatClampNeg), .int (eX E (x3 + 2).toNatClampNeg)] (pc := 1206) dL_law_1206 mv_X7_write ml_L_148 ⟨Nat.le_of_ble_eq_true rfl, Nat.le_of_ble_eq_true rfl⟩ rfl rfl ly0 rfl rfl (Nat.le_of_ble_eq_true rfl) hk381 ?_
      refine s_aload_n 2 (pc := 1209) dL_law_1209 rfl rfl ?_
      refine s_aload_n 0 (pc := 1210) dL_law_1210 rfl rfl ?_
      refine s_iload_n 3 (pc := 1211) dL_law_1211 rfl rfl ?_
      refine s_iconst (v := 1) (pc := 1212) dL_law_1212 rfl ?_
      refine s_iadd (pc := 1213) dL_law_1213 ?_
      refine s_scr (pc := 1214) dL_law_1214 hv378 ?_
      refine s_aload_n 0 (pc := 1215) dL_law_1215 rfl rfl ?_
      refine s_iload_n 3 (pc := 1216) dL_law_1216 rfl rfl ?_
      refine s_iconst (v := 2) (pc := 1217) dL_law_1217 rfl ?_
      refine s_iadd (pc := 1218) dL_law_1218 ?_
      refine s_scr (pc := 1219) dL_law_1219 hv379 ?_
      obtain ⟨r387, σ385, hk386, h⟩ := h
      refine s_callV (S := [.int r382]) [.int (eX E (x3 + 1).toNatClampNeg), .int (eX E (x3 + 2).toNatClampNeg)] (pc := 1220) dL_law_1220 mv_X8_write ml_L_151 ⟨Nat.le_of_ble_eq_true rfl, Nat.le_of_ble_eq_true rfl⟩ rfl rfl ly53 rfl rfl (Nat.le_of_ble_eq_true rfl) hk386 ?_
      refine s_icmp_eq (pc := 1223) (tgt := 1265) dL_law_1223 rfl (fun q388 => ?_) (fun q388 => ?_)
      · replace h := h.1 q388
        refine s_iinc (v := x3 + 6) (L' := [(3, .int (x3 + 6)), (0, .ref 102), (1, .ref 0), (2, .ref 53)]) 3 (pc := 1265) dL_law_1265 rfl rfl (Nat.le_of_ble_eq_true rfl) rfl ?_
        refine s_goto (pc := 1268) (tgt := 18) dL_law_1268 rfl ?_
        exact s_sub (L' := [(0, .ref 102), (1, .ref 0), (2, .ref 53), (3, .int (x3 + 6))]) [1, 2, 3, 0] rfl h
      · replace h := h.2 q388
        refine s_iconst (v := 0) (pc := 1226) dL_law_1226 rfl ?_
        exact s_ret (r := some (.int 0)) ⟨dL_law_1227, fun ty e => by cases e; rfl⟩ rfl h
    replace h := h.2
    by_cases q389 : ((eX E (x3).toNatClampNeg) &&& 63) = (33 : Int32)
    · replace h := h.1 q389
      refine s_tin (pc := 33) (tgt := 1228) 33 dL_law_33 (by rw [q389]; rfl) (by decide) (by decide) rfl rfl ?_
      refine s_aload_n 1 (pc := 1228) dL_law_1228 rfl rfl ?_
      refine s_aload_n 0 (pc := 1229) dL_law_1229 rfl rfl ?_
      refine s_iload_n 3 (pc := 1230) dL_law_1230 rfl rfl ?_
      refine s_iconst (v := 1) (pc := 1231) dL_law_1231 rfl ?_
      refine s_iadd (pc := 1232) dL_law_1232 ?_
      have hv390 := h.1
      replace h := h.2
      refine s_scr (pc := 1233) dL_law_1233 hv390 ?_
      obtain ⟨r393, σ391, hk392, h⟩ := h
      refine s_callV (S := []) [.int (eX E (x3 + 1).toNatClampNeg)] (pc := 1234) dL_law_1234 mv_X7_count ml_L_152 ⟨Nat.le_of_ble_eq_true rfl, Nat.le_of_ble_eq_true rfl⟩ rfl rfl ly0 rfl rfl (Nat.le_of_ble_eq_true rfl) hk392 ?_
      refine s_aload_n 2 (pc := 1237) dL_law_1237 rfl rfl ?_
      refine s_aload_n 0 (pc := 1238) dL_law_1238 rfl rfl ?_
      refine s_iload_n 3 (pc := 1239) dL_law_1239 rfl rfl ?_
      refine s_iconst (v := 1) (pc := 1240) dL_law_1240 rfl ?_
      refine s_iadd (pc := 1241) dL_law_1241 ?_
      refine s_scr (pc := 1242) dL_law_1242 hv390 ?_
      obtain ⟨r397, σ395, hk396, h⟩ := h
      refine s_callV (S := [.int r393]) [.int (eX E (x3 + 1).toNatClampNeg)] (pc := 1243) dL_law_1243 mv_X8_count ml_L_155 ⟨Nat.le_of_ble_eq_true rfl, Nat.le_of_ble_eq_true rfl⟩ rfl rfl ly53 rfl rfl (Nat.le_of_ble_eq_true rfl) hk396 ?_
      refine s_icmp_eq (pc := 1246) (tgt := 1265) dL_law_1246 rfl (fun q398 => ?_) (fun q398 => ?_)
      · replace h := h.1 q398
        refine s_iinc (v := x3 + 6) (L' := [(3, .int (x3 + 6)), (0, .ref 102), (1, .ref 0), (2, .ref 53)]) 3 (pc := 1265) dL_law_1265 rfl rfl (Nat.le_of_ble_eq_true rfl) rfl ?_
        refine s_goto (pc := 1268) (tgt := 18) dL_law_1268 rfl ?_
        exact s_sub (L' := [(0, .ref 102), (1, .ref 0), (2, .ref 53), (3, .int (x3 + 6))]) [1, 2, 3, 0] rfl h
      · replace h := h.2 q398
        refine s_iconst (v := 0) (pc := 1249) dL_law_1249 rfl ?_
        exact s_ret (r := some (.int 0)) ⟨dL_law_1250, fun ty e => by cases e; rfl⟩ rfl h
    replace h := h.2
    by_cases q399 : ((eX E (x3).toNatClampNeg) &&& 63) = (34 : Int32)
    · replace h := h.1 q399
      refine s_tin (pc := 33) (tgt := 1251) 34 dL_law_33 (by rw [q399]; rfl) (by decide) (by decide) rfl rfl ?_
      refine s_aload_n 1 (pc := 1251) dL_law_1251 rfl rfl ?_
      obtain ⟨r402, σ400, hk401, h⟩ := h
      refine s_callV (S := []) [] (pc := 1252) dL_law_1252 mv_X7_digest ml_L_156 ⟨Nat.le_of_ble_eq_true rfl, Nat.le_of_ble_eq_true rfl⟩ rfl rfl ly0 rfl rfl (Nat.le_of_ble_eq_true rfl) hk401 ?_
      refine s_aload_n 2 (pc := 1255) dL_law_1255 rfl rfl ?_
      obtain ⟨r405, σ403, hk404, h⟩ := h
      refine s_callV (S := [.long r402]) [] (pc := 1256) dL_law_1256 mv_X8_digest ml_L_160 ⟨Nat.le_of_ble_eq_true rfl, Nat.le_of_ble_eq_true rfl⟩ rfl rfl ly53 rfl rfl (Nat.le_of_ble_eq_true rfl) hk404 ?_
      refine s_lcmp (pc := 1259) dL_law_1259 ?_
      refine s_if_eq (pc := 1260) (tgt := 1265) dL_law_1260 rfl (fun q406 => ?_) (fun q406 => ?_)
      · replace h := h.1 q406
        refine s_iinc (v := x3 + 6) (L' := [(3, .int (x3 + 6)), (0, .ref 102), (1, .ref 0), (2, .ref 53)]) 3 (pc := 1265) dL_law_1265 rfl rfl (Nat.le_of_ble_eq_true rfl) rfl ?_
        refine s_goto (pc := 1268) (tgt := 18) dL_law_1268 rfl ?_
        exact s_sub (L' := [(0, .ref 102), (1, .ref 0), (2, .ref 53), (3, .int (x3 + 6))]) [1, 2, 3, 0] rfl h
      · replace h := h.2 q406
        refine s_iconst (v := 0) (pc := 1263) dL_law_1263 rfl ?_
        exact s_ret (r := some (.int 0)) ⟨dL_law_1264, fun ty e => by cases e; rfl⟩ rfl h
    replace h := h.2
    replace h := h ⟨q3, q13, q21, q29, q37, q49, q65, q73, q83, q97, q111, q125, q137, q147, q155, q165, q175, q189, q203, q213, q223, q239, q247, q255, q267, q277, q291, q305, q319, q329, q345, q359, q377, q389, q399⟩
    refine s_tout (pc := 33) (tgt := 1265) dL_law_33 (tsw_out 35 ((eX E (x3).toNatClampNeg) &&& 63) (lt_s (lt_s (lt_s (lt_s (lt_s (lt_s (lt_s (lt_s (lt_s (lt_s (lt_s (lt_s (lt_s (lt_s (lt_s (lt_s (lt_s (lt_s (lt_s (lt_s (lt_s (lt_s (lt_s (lt_s (lt_s (lt_s (lt_s (lt_s (lt_s (lt_s (lt_s (lt_s (lt_s (lt_s (lt_s lt_0 q3) q13) q21) q29) q37) q49) q65) q73) q83) q97) q111) q125) q137) q147) q155) q165) q175) q189) q203) q213) q223) q239) q247) q255) q267) q277) q291) q305) q319) q329) q345) q359) q377) q389) q399)) rfl ?_
    refine s_iinc (v := x3 + 6) (L' := [(3, .int (x3 + 6)), (0, .ref 102), (1, .ref 0), (2, .ref 53)]) 3 (pc := 1265) dL_law_1265 rfl rfl (Nat.le_of_ble_eq_true rfl) rfl ?_
    refine s_goto (pc := 1268) (tgt := 18) dL_law_1268 rfl ?_
    exact s_sub (L' := [(0, .ref 102), (1, .ref 0), (2, .ref 53), (3, .int (x3 + 6))]) [1, 2, 3, 0] rfl h
