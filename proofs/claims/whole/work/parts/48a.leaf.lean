def mX0_init : MI := (RX0, yX0_init, cX0_init, 1, none, 1, 12)
theorem oi_X0 : Cond.methodLink RX0 3 Lib.objectInit ∈ tb := tb_in 95 (by decide +kernel) (by decide +kernel)
def mX1_init : MI := (RX1, yX1_init, cX1_init, 1, none, 1, 12)
theorem oi_X1 : Cond.methodLink RX1 3 Lib.objectInit ∈ tb := tb_in 128 (by decide +kernel) (by decide +kernel)
def mX2_init : MI := (RX2, yX2_init, cX2_init, 1, none, 1, 12)
theorem oi_X2 : Cond.methodLink RX2 3 Lib.objectInit ∈ tb := tb_in 240 (by decide +kernel) (by decide +kernel)
def mX3_init : MI := (RX3, yX3_init, cX3_init, 1, none, 1, 12)
theorem oi_X3 : Cond.methodLink RX3 3 Lib.objectInit ∈ tb := tb_in 190 (by decide +kernel) (by decide +kernel)
def mX4_init : MI := (RX4, yX4_init, cX4_init, 1, none, 1, 12)
theorem oi_X4 : Cond.methodLink RX4 3 Lib.objectInit ∈ tb := tb_in 261 (by decide +kernel) (by decide +kernel)
def mX5_init : MI := (RX5, yX5_init, cX5_init, 1, none, 1, 12)
theorem oi_X5 : Cond.methodLink RX5 3 Lib.objectInit ∈ tb := tb_in 160 (by decide +kernel) (by decide +kernel)
def mX6_init : MI := (RX6, yX6_init, cX6_init, 2, none, 2, 32)
theorem oi_X6 : Cond.methodLink RX6 3 Lib.objectInit ∈ tb := tb_in 183 (by decide +kernel) (by decide +kernel)
def mX7_init : MI := (RX7, yX7_init, cX7_init, 2, none, 3, 53)
theorem oi_X7 : Cond.methodLink RX7 3 Lib.objectInit ∈ tb := tb_in 87 (by decide +kernel) (by decide +kernel)
def mX8_init : MI := (RX8, yX8_init, cX8_init, 1, none, 1, 12)
theorem oi_X8 : Cond.methodLink RX8 1 Lib.objectInit ∈ tb := tb_in 755 (by decide +kernel) (by decide +kernel)
theorem ff_X0_9 : FF RX0 9 0 0 (.array .int) := ⟨_, _, _, tyX0, rfl, by decide, iu0, tb_in 96 (by decide +kernel) (by decide +kernel), tyX0_ok, nmX0, rfl, rfl, by decide +kernel⟩
theorem ff_X0_15 : FF RX0 15 0 1 (.array .int) := ⟨_, _, _, tyX0, rfl, by decide, iu0, tb_in 99 (by decide +kernel) (by decide +kernel), tyX0_ok, nmX0, rfl, rfl, by decide +kernel⟩
theorem ff_X0_18 : FF RX0 18 0 2 (.array .int) := ⟨_, _, _, tyX0, rfl, by decide, iu0, tb_in 102 (by decide +kernel) (by decide +kernel), tyX0_ok, nmX0, rfl, rfl, by decide +kernel⟩
theorem ff_X0_21 : FF RX0 21 0 3 (.array .int) := ⟨_, _, _, tyX0, rfl, by decide, iu0, tb_in 105 (by decide +kernel) (by decide +kernel), tyX0_ok, nmX0, rfl, rfl, by decide +kernel⟩
theorem ff_X1_9 : FF RX1 9 1 0 (.array .int) := ⟨_, _, _, tyX1, rfl, by decide, iu1, tb_in 129 (by decide +kernel) (by decide +kernel), tyX1_ok, nmX1, rfl, rfl, by decide +kernel⟩
theorem ff_X1_15 : FF RX1 15 1 1 (.array .int) := ⟨_, _, _, tyX1, rfl, by decide, iu1, tb_in 131 (by decide +kernel) (by decide +kernel), tyX1_ok, nmX1, rfl, rfl, by decide +kernel⟩
theorem ff_X1_18 : FF RX1 18 1 2 (.array .int) := ⟨_, _, _, tyX1, rfl, by decide, iu1, tb_in 133 (by decide +kernel) (by decide +kernel), tyX1_ok, nmX1, rfl, rfl, by decide +kernel⟩
theorem ff_X1_21 : FF RX1 21 1 3 (.array .int) := ⟨_, _, _, tyX1, rfl, by decide, iu1, tb_in 135 (by decide +kernel) (by decide +kernel), tyX1_ok, nmX1, rfl, rfl, by decide +kernel⟩
theorem ff_X1_24 : FF RX1 24 1 4 (.array .int) := ⟨_, _, _, tyX1, rfl, by decide, iu1, tb_in 137 (by decide +kernel) (by decide +kernel), tyX1_ok, nmX1, rfl, rfl, by decide +kernel⟩
theorem ff_X2_11 : FF RX2 11 2 0 (.array .int) := ⟨_, _, _, tyX2, rfl, by decide, iu2, tb_in 241 (by decide +kernel) (by decide +kernel), tyX2_ok, nmX2, rfl, rfl, by decide +kernel⟩
theorem ff_X2_15 : FF RX2 15 2 1 (.array .int) := ⟨_, _, _, tyX2, rfl, by decide, iu2, tb_in 242 (by decide +kernel) (by decide +kernel), tyX2_ok, nmX2, rfl, rfl, by decide +kernel⟩
theorem ff_X2_18 : FF RX2 18 2 2 (.array .int) := ⟨_, _, _, tyX2, rfl, by decide, iu2, tb_in 243 (by decide +kernel) (by decide +kernel), tyX2_ok, nmX2, rfl, rfl, by decide +kernel⟩
theorem ff_X4_9 : FF RX4 9 4 0 (.array .int) := ⟨_, _, _, tyX4, rfl, by decide, iu4, tb_in 262 (by decide +kernel) (by decide +kernel), tyX4_ok, nmX4, rfl, rfl, by decide +kernel⟩
theorem ff_X5_9 : FF RX5 9 5 0 (.array .int) := ⟨_, _, _, tyX5, rfl, by decide, iu5, tb_in 161 (by decide +kernel) (by decide +kernel), tyX5_ok, nmX5, rfl, rfl, by decide +kernel⟩
theorem ff_X5_15 : FF RX5 15 5 1 (.array .int) := ⟨_, _, _, tyX5, rfl, by decide, iu5, tb_in 162 (by decide +kernel) (by decide +kernel), tyX5_ok, nmX5, rfl, rfl, by decide +kernel⟩
theorem ff_X5_18 : FF RX5 18 5 2 (.array .int) := ⟨_, _, _, tyX5, rfl, by decide, iu5, tb_in 163 (by decide +kernel) (by decide +kernel), tyX5_ok, nmX5, rfl, rfl, by decide +kernel⟩
theorem ff_X5_21 : FF RX5 21 5 3 (.array .int) := ⟨_, _, _, tyX5, rfl, by decide, iu5, tb_in 164 (by decide +kernel) (by decide +kernel), tyX5_ok, nmX5, rfl, rfl, by decide +kernel⟩
theorem ff_X6_11 : FF RX6 11 6 0 (.array (.object "CompassMarriage$Ring")) := ⟨_, _, _, tyX6, rfl, by decide, iu6, tb_in 224 (by decide +kernel) (by decide +kernel), tyX6_ok, nmX6, rfl, rfl, by decide +kernel⟩
theorem ff_X7_9 : FF RX7 9 7 0 (.array .int) := ⟨_, _, _, tyX7, rfl, by decide, iu7, tb_in 279 (by decide +kernel) (by decide +kernel), tyX7_ok, nmX7, rfl, rfl, by decide +kernel⟩
theorem ff_X7_20 : FF RX7 20 7 3 (.object "CompassMarriage$Couples") := ⟨_, _, _, tyX7, rfl, by decide, iu7, tb_in 282 (by decide +kernel) (by decide +kernel), tyX7_ok, nmX7, rfl, rfl, by decide +kernel⟩
theorem ff_X7_24 : FF RX7 24 7 4 (.object "CompassMarriage$Couples") := ⟨_, _, _, tyX7, rfl, by decide, iu7, tb_in 283 (by decide +kernel) (by decide +kernel), tyX7_ok, nmX7, rfl, rfl, by decide +kernel⟩
theorem ff_X7_30 : FF RX7 30 7 5 (.object "CompassMarriage$Events") := ⟨_, _, _, tyX7, rfl, by decide, iu7, tb_in 284 (by decide +kernel) (by decide +kernel), tyX7_ok, nmX7, rfl, rfl, by decide +kernel⟩
theorem ff_X7_34 : FF RX7 34 7 6 (.object "CompassMarriage$Events") := ⟨_, _, _, tyX7, rfl, by decide, iu7, tb_in 285 (by decide +kernel) (by decide +kernel), tyX7_ok, nmX7, rfl, rfl, by decide +kernel⟩
theorem ff_X7_40 : FF RX7 40 7 7 (.object "CompassMarriage$Sightings") := ⟨_, _, _, tyX7, rfl, by decide, iu7, tb_in 286 (by decide +kernel) (by decide +kernel), tyX7_ok, nmX7, rfl, rfl, by decide +kernel⟩
theorem ff_X7_47 : FF RX7 47 7 8 (.object "CompassMarriage$Town") := ⟨_, _, _, tyX7, rfl, by decide, iu7, tb_in 287 (by decide +kernel) (by decide +kernel), tyX7_ok, nmX7, rfl, rfl, by decide +kernel⟩
theorem ff_X7_54 : FF RX7 54 7 9 (.object "CompassMarriage$Ring") := ⟨_, _, _, tyX7, rfl, by decide, iu7, tb_in 288 (by decide +kernel) (by decide +kernel), tyX7_ok, nmX7, rfl, rfl, by decide +kernel⟩
theorem ff_X7_61 : FF RX7 61 7 10 (.object "CompassMarriage$Places") := ⟨_, _, _, tyX7, rfl, by decide, iu7, tb_in 289 (by decide +kernel) (by decide +kernel), tyX7_ok, nmX7, rfl, rfl, by decide +kernel⟩
theorem ff_X7_67 : FF RX7 67 7 11 (.array (.object "CompassMarriage$Sheet")) := ⟨_, _, _, tyX7, rfl, by decide, iu7, tb_in 290 (by decide +kernel) (by decide +kernel), tyX7_ok, nmX7, rfl, rfl, by decide +kernel⟩
theorem ff_X8_7 : FF RX8 7 8 1 (.array .int) := ⟨_, _, _, tyX8, rfl, by decide, iu8, tb_in 757 (by decide +kernel) (by decide +kernel), tyX8_ok, nmX8, rfl, rfl, by decide +kernel⟩
theorem ff_X8_13 : FF RX8 13 8 3 (.array .int) := ⟨_, _, _, tyX8, rfl, by decide, iu8, tb_in 759 (by decide +kernel) (by decide +kernel), tyX8_ok, nmX8, rfl, rfl, by decide +kernel⟩
theorem ff_X8_16 : FF RX8 16 8 4 (.array .int) := ⟨_, _, _, tyX8, rfl, by decide, iu8, tb_in 760 (by decide +kernel) (by decide +kernel), tyX8_ok, nmX8, rfl, rfl, by decide +kernel⟩
theorem ff_X8_19 : FF RX8 19 8 5 (.array .int) := ⟨_, _, _, tyX8, rfl, by decide, iu8, tb_in 761 (by decide +kernel) (by decide +kernel), tyX8_ok, nmX8, rfl, rfl, by decide +kernel⟩
theorem ff_X8_22 : FF RX8 22 8 6 (.array .int) := ⟨_, _, _, tyX8, rfl, by decide, iu8, tb_in 762 (by decide +kernel) (by decide +kernel), tyX8_ok, nmX8, rfl, rfl, by decide +kernel⟩
theorem ff_X8_25 : FF RX8 25 8 8 (.array .int) := ⟨_, _, _, tyX8, rfl, by decide, iu8, tb_in 764 (by decide +kernel) (by decide +kernel), tyX8_ok, nmX8, rfl, rfl, by decide +kernel⟩
theorem ff_X8_28 : FF RX8 28 8 9 (.array .int) := ⟨_, _, _, tyX8, rfl, by decide, iu8, tb_in 765 (by decide +kernel) (by decide +kernel), tyX8_ok, nmX8, rfl, rfl, by decide +kernel⟩
theorem ff_X8_31 : FF RX8 31 8 10 (.array .int) := ⟨_, _, _, tyX8, rfl, by decide, iu8, tb_in 766 (by decide +kernel) (by decide +kernel), tyX8_ok, nmX8, rfl, rfl, by decide +kernel⟩
theorem ff_X8_34 : FF RX8 34 8 11 (.array .int) := ⟨_, _, _, tyX8, rfl, by decide, iu8, tb_in 767 (by decide +kernel) (by decide +kernel), tyX8_ok, nmX8, rfl, rfl, by decide +kernel⟩
theorem ff_X8_37 : FF RX8 37 8 13 (.array .int) := ⟨_, _, _, tyX8, rfl, by decide, iu8, tb_in 769 (by decide +kernel) (by decide +kernel), tyX8_ok, nmX8, rfl, rfl, by decide +kernel⟩
theorem ff_X8_40 : FF RX8 40 8 14 (.array .int) := ⟨_, _, _, tyX8, rfl, by decide, iu8, tb_in 770 (by decide +kernel) (by decide +kernel), tyX8_ok, nmX8, rfl, rfl, by decide +kernel⟩
theorem ff_X8_43 : FF RX8 43 8 15 (.array .int) := ⟨_, _, _, tyX8, rfl, by decide, iu8, tb_in 771 (by decide +kernel) (by decide +kernel), tyX8_ok, nmX8, rfl, rfl, by decide +kernel⟩
theorem ff_X8_46 : FF RX8 46 8 16 (.array .int) := ⟨_, _, _, tyX8, rfl, by decide, iu8, tb_in 772 (by decide +kernel) (by decide +kernel), tyX8_ok, nmX8, rfl, rfl, by decide +kernel⟩
theorem ff_X8_49 : FF RX8 49 8 18 (.array .int) := ⟨_, _, _, tyX8, rfl, by decide, iu8, tb_in 774 (by decide +kernel) (by decide +kernel), tyX8_ok, nmX8, rfl, rfl, by decide +kernel⟩
theorem ff_X8_52 : FF RX8 52 8 19 (.array .int) := ⟨_, _, _, tyX8, rfl, by decide, iu8, tb_in 775 (by decide +kernel) (by decide +kernel), tyX8_ok, nmX8, rfl, rfl, by decide +kernel⟩
theorem ff_X8_55 : FF RX8 55 8 20 (.array .int) := ⟨_, _, _, tyX8, rfl, by decide, iu8, tb_in 776 (by decide +kernel) (by decide +kernel), tyX8_ok, nmX8, rfl, rfl, by decide +kernel⟩
theorem ff_X8_58 : FF RX8 58 8 21 (.array .int) := ⟨_, _, _, tyX8, rfl, by decide, iu8, tb_in 777 (by decide +kernel) (by decide +kernel), tyX8_ok, nmX8, rfl, rfl, by decide +kernel⟩
theorem ff_X8_61 : FF RX8 61 8 22 (.array .int) := ⟨_, _, _, tyX8, rfl, by decide, iu8, tb_in 778 (by decide +kernel) (by decide +kernel), tyX8_ok, nmX8, rfl, rfl, by decide +kernel⟩
theorem ff_X8_64 : FF RX8 64 8 23 (.array .int) := ⟨_, _, _, tyX8, rfl, by decide, iu8, tb_in 779 (by decide +kernel) (by decide +kernel), tyX8_ok, nmX8, rfl, rfl, by decide +kernel⟩
theorem ff_X8_67 : FF RX8 67 8 25 (.array .int) := ⟨_, _, _, tyX8, rfl, by decide, iu8, tb_in 781 (by decide +kernel) (by decide +kernel), tyX8_ok, nmX8, rfl, rfl, by decide +kernel⟩
theorem ff_X8_70 : FF RX8 70 8 26 (.array .int) := ⟨_, _, _, tyX8, rfl, by decide, iu8, tb_in 782 (by decide +kernel) (by decide +kernel), tyX8_ok, nmX8, rfl, rfl, by decide +kernel⟩
theorem ff_X8_73 : FF RX8 73 8 27 (.array .int) := ⟨_, _, _, tyX8, rfl, by decide, iu8, tb_in 783 (by decide +kernel) (by decide +kernel), tyX8_ok, nmX8, rfl, rfl, by decide +kernel⟩
theorem ff_X8_76 : FF RX8 76 8 28 (.array .int) := ⟨_, _, _, tyX8, rfl, by decide, iu8, tb_in 784 (by decide +kernel) (by decide +kernel), tyX8_ok, nmX8, rfl, rfl, by decide +kernel⟩
theorem ff_X8_79 : FF RX8 79 8 29 (.array .int) := ⟨_, _, _, tyX8, rfl, by decide, iu8, tb_in 785 (by decide +kernel) (by decide +kernel), tyX8_ok, nmX8, rfl, rfl, by decide +kernel⟩
theorem ff_X8_82 : FF RX8 82 8 30 (.array .int) := ⟨_, _, _, tyX8, rfl, by decide, iu8, tb_in 786 (by decide +kernel) (by decide +kernel), tyX8_ok, nmX8, rfl, rfl, by decide +kernel⟩
theorem ff_X8_85 : FF RX8 85 8 31 (.array .int) := ⟨_, _, _, tyX8, rfl, by decide, iu8, tb_in 787 (by decide +kernel) (by decide +kernel), tyX8_ok, nmX8, rfl, rfl, by decide +kernel⟩
theorem ff_X8_88 : FF RX8 88 8 32 (.array .int) := ⟨_, _, _, tyX8, rfl, by decide, iu8, tb_in 788 (by decide +kernel) (by decide +kernel), tyX8_ok, nmX8, rfl, rfl, by decide +kernel⟩
theorem ff_X8_91 : FF RX8 91 8 34 (.array .int) := ⟨_, _, _, tyX8, rfl, by decide, iu8, tb_in 790 (by decide +kernel) (by decide +kernel), tyX8_ok, nmX8, rfl, rfl, by decide +kernel⟩
theorem ff_X8_94 : FF RX8 94 8 35 (.array .int) := ⟨_, _, _, tyX8, rfl, by decide, iu8, tb_in 791 (by decide +kernel) (by decide +kernel), tyX8_ok, nmX8, rfl, rfl, by decide +kernel⟩
theorem ff_X8_97 : FF RX8 97 8 36 (.array .int) := ⟨_, _, _, tyX8, rfl, by decide, iu8, tb_in 792 (by decide +kernel) (by decide +kernel), tyX8_ok, nmX8, rfl, rfl, by decide +kernel⟩
theorem ff_X8_100 : FF RX8 100 8 37 (.array .int) := ⟨_, _, _, tyX8, rfl, by decide, iu8, tb_in 793 (by decide +kernel) (by decide +kernel), tyX8_ok, nmX8, rfl, rfl, by decide +kernel⟩
theorem ff_X8_103 : FF RX8 103 8 38 (.array .int) := ⟨_, _, _, tyX8, rfl, by decide, iu8, tb_in 794 (by decide +kernel) (by decide +kernel), tyX8_ok, nmX8, rfl, rfl, by decide +kernel⟩
theorem ff_X8_106 : FF RX8 106 8 39 (.array .boolean) := ⟨_, _, _, tyX8, rfl, by decide, iu8, tb_in 795 (by decide +kernel) (by decide +kernel), tyX8_ok, nmX8, rfl, rfl, by decide +kernel⟩
theorem ff_X8_110 : FF RX8 110 8 40 (.array .int) := ⟨_, _, _, tyX8, rfl, by decide, iu8, tb_in 796 (by decide +kernel) (by decide +kernel), tyX8_ok, nmX8, rfl, rfl, by decide +kernel⟩
theorem ff_X8_113 : FF RX8 113 8 41 (.array .int) := ⟨_, _, _, tyX8, rfl, by decide, iu8, tb_in 797 (by decide +kernel) (by decide +kernel), tyX8_ok, nmX8, rfl, rfl, by decide +kernel⟩
theorem ff_X8_116 : FF RX8 116 8 42 (.array .int) := ⟨_, _, _, tyX8, rfl, by decide, iu8, tb_in 798 (by decide +kernel) (by decide +kernel), tyX8_ok, nmX8, rfl, rfl, by decide +kernel⟩
theorem ff_X8_119 : FF RX8 119 8 43 (.array .int) := ⟨_, _, _, tyX8, rfl, by decide, iu8, tb_in 799 (by decide +kernel) (by decide +kernel), tyX8_ok, nmX8, rfl, rfl, by decide +kernel⟩
abbrev wX0 (A : Nat → ClassId) (h : Nat) (u : List Nat) : va_W := [(h, .inr (0, [.ref (ad u 0), .ref (ad u 1), .ref (ad u 2), .ref (ad u 3), .int 0])), cI (A 0) (ad u 0) 8, cI (A 0) (ad u 1) 8, cI (A 0) (ad u 2) 8, cI (A 0) (ad u 3) 8]
set_option maxHeartbeats 4000000 in
set_option maxRecDepth 100000 in
theorem kt_X0 (D : va_G) (A : Nat → ClassId) : Kt D A mX0_init 0 [.null, .null, .null, .null, .int 0] (wX0 A) 4 32 := by
  refine Kt.of rfl rfl rfl (by decide) rfl ?_
  intro p l e R s m args below meth c Q h0 A0 ls C hi hA hret hl hP hD hS
  refine c_obj C hl rfl dX0_init_0 dX0_init_1 oi_X0 (by decide) (by decide) ?_
  refine c_arr (pc := 4) (pc2 := 7) (n := 8) (N := 8) (nc' := 1) (ns' := 8) 0 C hi hA hl rfl dX0_init_4 (Or.inr (Or.inl ⟨_, dX0_init_5, by decide, rfl⟩)) dX0_init_7 dX0_init_9 w_aI rfl rfl ff_X0_9 (fun _ => rfl) (fun _ => rfl) (by decide) (by decide) (by decide) rfl (Nat.le_of_ble_eq_true rfl) rfl rfl (Nat.le_of_ble_eq_true rfl) (Nat.le_of_ble_eq_true rfl) hP hD hS (fun q4 H locs hP hD hS => ?_)
  have hP : va_P D vwCl [(h0, .inr (0, [.ref q4, .null, .null, .null, .int 0])), cI (A 0) q4 8] H := hP
  have hD : va_D A0 [(h0, .inr (0, [.ref q4, .null, .null, .null, .int 0])), cI (A 0) q4 8] := hD
  refine c_arr (pc := 12) (pc2 := 15) (n := 8) (N := 8) (nc' := 2) (ns' := 16) 0 C hi hA hl rfl dX0_init_12 (Or.inr (Or.inl ⟨_, dX0_init_13, by decide, rfl⟩)) dX0_init_15 dX0_init_17 w_aI rfl rfl ff_X0_15 (fun _ => rfl) (fun _ => rfl) (by decide) (by decide) (by decide) rfl (Nat.le_of_ble_eq_true rfl) rfl rfl (Nat.le_of_ble_eq_true rfl) (Nat.le_of_ble_eq_true rfl) hP hD hS (fun q12 H locs hP hD hS => ?_)
  have hP : va_P D vwCl [(h0, .inr (0, [.ref q4, .ref q12, .null, .null, .int 0])), cI (A 0) q4 8, cI (A 0) q12 8] H := hP
  have hD : va_D A0 [(h0, .inr (0, [.ref q4, .ref q12, .null, .null, .int 0])), cI (A 0) q4 8, cI (A 0) q12 8] := hD
  refine c_arr (pc := 20) (pc2 := 23) (n := 8) (N := 8) (nc' := 3) (ns' := 24) 0 C hi hA hl rfl dX0_init_20 (Or.inr (Or.inl ⟨_, dX0_init_21, by decide, rfl⟩)) dX0_init_23 dX0_init_25 w_aI rfl rfl ff_X0_18 (fun _ => rfl) (fun _ => rfl) (by decide) (by decide) (by decide) rfl (Nat.le_of_ble_eq_true rfl) rfl rfl (Nat.le_of_ble_eq_true rfl) (Nat.le_of_ble_eq_true rfl) hP hD hS (fun q20 H locs hP hD hS => ?_)
  have hP : va_P D vwCl [(h0, .inr (0, [.ref q4, .ref q12, .ref q20, .null, .int 0])), cI (A 0) q4 8, cI (A 0) q12 8, cI (A 0) q20 8] H := hP
  have hD : va_D A0 [(h0, .inr (0, [.ref q4, .ref q12, .ref q20, .null, .int 0])), cI (A 0) q4 8, cI (A 0) q12 8, cI (A 0) q20 8] := hD
  refine c_arr (pc := 28) (pc2 := 31) (n := 8) (N := 8) (nc' := 4) (ns' := 32) 0 C hi hA hl rfl dX0_init_28 (Or.inr (Or.inl ⟨_, dX0_init_29, by decide, rfl⟩)) dX0_init_31 dX0_init_33 w_aI rfl rfl ff_X0_21 (fun _ => rfl) (fun _ => rfl) (by decide) (by decide) (by decide) rfl (Nat.le_of_ble_eq_true rfl) rfl rfl (Nat.le_of_ble_eq_true rfl) (Nat.le_of_ble_eq_true rfl) hP hD hS (fun q28 H locs hP hD hS => ?_)
  have hP : va_P D vwCl [(h0, .inr (0, [.ref q4, .ref q12, .ref q20, .ref q28, .int 0])), cI (A 0) q4 8, cI (A 0) q12 8, cI (A 0) q20 8, cI (A 0) q28 8] H := hP
  have hD : va_D A0 [(h0, .inr (0, [.ref q4, .ref q12, .ref q20, .ref q28, .int 0])), cI (A 0) q4 8, cI (A 0) q12 8, cI (A 0) q20 8, cI (A 0) q28 8] := hD
  exact hret [q4, q12, q20, q28] 36 ls _ _ dX0_init_36 hP hD hS
abbrev wX1 (A : Nat → ClassId) (h : Nat) (u : List Nat) : va_W := [(h, .inr (1, [.ref (ad u 0), .ref (ad u 1), .ref (ad u 2), .ref (ad u 3), .ref (ad u 4), .int 0])), cI (A 0) (ad u 0) 8, cI (A 0) (ad u 1) 8, cI (A 0) (ad u 2) 8, cI (A 0) (ad u 3) 8, cI (A 0) (ad u 4) 8]
set_option maxHeartbeats 4000000 in
set_option maxRecDepth 100000 in
theorem kt_X1 (D : va_G) (A : Nat → ClassId) : Kt D A mX1_init 1 [.null, .null, .null, .null, .null, .int 0] (wX1 A) 5 40 := by
  refine Kt.of rfl rfl rfl (by decide) rfl ?_
  intro p l e R s m args below meth c Q h0 A0 ls C hi hA hret hl hP hD hS
  refine c_obj C hl rfl dX1_init_0 dX1_init_1 oi_X1 (by decide) (by decide) ?_
  refine c_arr (pc := 4) (pc2 := 7) (n := 8) (N := 8) (nc' := 1) (ns' := 8) 0 C hi hA hl rfl dX1_init_4 (Or.inr (Or.inl ⟨_, dX1_init_5, by decide, rfl⟩)) dX1_init_7 dX1_init_9 w_aI rfl rfl ff_X1_9 (fun _ => rfl) (fun _ => rfl) (by decide) (by decide) (by decide) rfl (Nat.le_of_ble_eq_true rfl) rfl rfl (Nat.le_of_ble_eq_true rfl) (Nat.le_of_ble_eq_true rfl) hP hD hS (fun q4 H locs hP hD hS => ?_)
  have hP : va_P D vwCl [(h0, .inr (1, [.ref q4, .null, .null, .null, .null, .int 0])), cI (A 0) q4 8] H := hP
  have hD : va_D A0 [(h0, .inr (1, [.ref q4, .null, .null, .null, .null, .int 0])), cI (A 0) q4 8] := hD
  refine c_arr (pc := 12) (pc2 := 15) (n := 8) (N := 8) (nc' := 2) (ns' := 16) 0 C hi hA hl rfl dX1_init_12 (Or.inr (Or.inl ⟨_, dX1_init_13, by decide, rfl⟩)) dX1_init_15 dX1_init_17 w_aI rfl rfl ff_X1_15 (fun _ => rfl) (fun _ => rfl) (by decide) (by decide) (by decide) rfl (Nat.le_of_ble_eq_true rfl) rfl rfl (Nat.le_of_ble_eq_true rfl) (Nat.le_of_ble_eq_true rfl) hP hD hS (fun q12 H locs hP hD hS => ?_)
  have hP : va_P D vwCl [(h0, .inr (1, [.ref q4, .ref q12, .null, .null, .null, .int 0])), cI (A 0) q4 8, cI (A 0) q12 8] H := hP
  have hD : va_D A0 [(h0, .inr (1, [.ref q4, .ref q12, .null, .null, .null, .int 0])), cI (A 0) q4 8, cI (A 0) q12 8] := hD
  refine c_arr (pc := 20) (pc2 := 23) (n := 8) (N := 8) (nc' := 3) (ns' := 24) 0 C hi hA hl rfl dX1_init_20 (Or.inr (Or.inl ⟨_, dX1_init_21, by decide, rfl⟩)) dX1_init_23 dX1_init_25 w_aI rfl rfl ff_X1_18 (fun _ => rfl) (fun _ => rfl) (by decide) (by decide) (by decide) rfl (Nat.le_of_ble_eq_true rfl) rfl rfl (Nat.le_of_ble_eq_true rfl) (Nat.le_of_ble_eq_true rfl) hP hD hS (fun q20 H locs hP hD hS => ?_)
  have hP : va_P D vwCl [(h0, .inr (1, [.ref q4, .ref q12, .ref q20, .null, .null, .int 0])), cI (A 0) q4 8, cI (A 0) q12 8, cI (A 0) q20 8] H := hP
  have hD : va_D A0 [(h0, .inr (1, [.ref q4, .ref q12, .ref q20, .null, .null, .int 0])), cI (A 0) q4 8, cI (A 0) q12 8, cI (A 0) q20 8] := hD
  refine c_arr (pc := 28) (pc2 := 31) (n := 8) (N := 8) (nc' := 4) (ns' := 32) 0 C hi hA hl rfl dX1_init_28 (Or.inr (Or.inl ⟨_, dX1_init_29, by decide, rfl⟩)) dX1_init_31 dX1_init_33 w_aI rfl rfl ff_X1_21 (fun _ => rfl) (fun _ => rfl) (by decide) (by decide) (by decide) rfl (Nat.le_of_ble_eq_true rfl) rfl rfl (Nat.le_of_ble_eq_true rfl) (Nat.le_of_ble_eq_true rfl) hP hD hS (fun q28 H locs hP hD hS => ?_)
  have hP : va_P D vwCl [(h0, .inr (1, [.ref q4, .ref q12, .ref q20, .ref q28, .null, .int 0])), cI (A 0) q4 8, cI (A 0) q12 8, cI (A 0) q20 8, cI (A 0) q28 8] H := hP
  have hD : va_D A0 [(h0, .inr (1, [.ref q4, .ref q12, .ref q20, .ref q28, .null, .int 0])), cI (A 0) q4 8, cI (A 0) q12 8, cI (A 0) q20 8, cI (A 0) q28 8] := hD
  refine c_arr (pc := 36) (pc2 := 39) (n := 8) (N := 8) (nc' := 5) (ns' := 40) 0 C hi hA hl rfl dX1_init_36 (Or.inr (Or.inl ⟨_, dX1_init_37, by decide, rfl⟩)) dX1_init_39 dX1_init_41 w_aI rfl rfl ff_X1_24 (fun _ => rfl) (fun _ => rfl) (by decide) (by decide) (by decide) rfl (Nat.le_of_ble_eq_true rfl) rfl rfl (Nat.le_of_ble_eq_true rfl) (Nat.le_of_ble_eq_true rfl) hP hD hS (fun q36 H locs hP hD hS => ?_)
  have hP : va_P D vwCl [(h0, .inr (1, [.ref q4, .ref q12, .ref q20, .ref q28, .ref q36, .int 0])), cI (A 0) q4 8, cI (A 0) q12 8, cI (A 0) q20 8, cI (A 0) q28 8, cI (A 0) q36 8] H := hP
  have hD : va_D A0 [(h0, .inr (1, [.ref q4, .ref q12, .ref q20, .ref q28, .ref q36, .int 0])), cI (A 0) q4 8, cI (A 0) q12 8, cI (A 0) q20 8, cI (A 0) q28 8, cI (A 0) q36 8] := hD
  exact hret [q4, q12, q20, q28, q36] 44 ls _ _ dX1_init_44 hP hD hS
abbrev wX2 (A : Nat → ClassId) (h : Nat) (u : List Nat) : va_W := [(h, .inr (2, [.ref (ad u 0), .ref (ad u 1), .ref (ad u 2), .int 0])), cI (A 0) (ad u 0) 16, cI (A 0) (ad u 1) 16, cI (A 0) (ad u 2) 16]
set_option maxHeartbeats 4000000 in
set_option maxRecDepth 100000 in
theorem kt_X2 (D : va_G) (A : Nat → ClassId) : Kt D A mX2_init 2 [.null, .null, .null, .int 0] (wX2 A) 3 48 := by
  refine Kt.of rfl rfl rfl (by decide) rfl ?_
  intro p l e R s m args below meth c Q h0 A0 ls C hi hA hret hl hP hD hS
  refine c_obj C hl rfl dX2_init_0 dX2_init_1 oi_X2 (by decide) (by decide) ?_
  refine c_arr (pc := 4) (pc2 := 7) (n := 16) (N := 16) (nc' := 1) (ns' := 16) 0 C hi hA hl rfl dX2_init_4 (Or.inr (Or.inl ⟨_, dX2_init_5, by decide, rfl⟩)) dX2_init_7 dX2_init_9 w_aI rfl rfl ff_X2_11 (fun _ => rfl) (fun _ => rfl) (by decide) (by decide) (by decide) rfl (Nat.le_of_ble_eq_true rfl) rfl rfl (Nat.le_of_ble_eq_true rfl) (Nat.le_of_ble_eq_true rfl) hP hD hS (fun q4 H locs hP hD hS => ?_)
  have hP : va_P D vwCl [(h0, .inr (2, [.ref q4, .null, .null, .int 0])), cI (A 0) q4 16] H := hP
  have hD : va_D A0 [(h0, .inr (2, [.ref q4, .null, .null, .int 0])), cI (A 0) q4 16] := hD
  refine c_arr (pc := 12) (pc2 := 15) (n := 16) (N := 16) (nc' := 2) (ns' := 32) 0 C hi hA hl rfl dX2_init_12 (Or.inr (Or.inl ⟨_, dX2_init_13, by decide, rfl⟩)) dX2_init_15 dX2_init_17 w_aI rfl rfl ff_X2_15 (fun _ => rfl) (fun _ => rfl) (by decide) (by decide) (by decide) rfl (Nat.le_of_ble_eq_true rfl) rfl rfl (Nat.le_of_ble_eq_true rfl) (Nat.le_of_ble_eq_true rfl) hP hD hS (fun q12 H locs hP hD hS => ?_)
  have hP : va_P D vwCl [(h0, .inr (2, [.ref q4, .ref q12, .null, .int 0])), cI (A 0) q4 16, cI (A 0) q12 16] H := hP
  have hD : va_D A0 [(h0, .inr (2, [.ref q4, .ref q12, .null, .int 0])), cI (A 0) q4 16, cI (A 0) q12 16] := hD
  refine c_arr (pc := 20) (pc2 := 23) (n := 16) (N := 16) (nc' := 3) (ns' := 48) 0 C hi hA hl rfl dX2_init_20 (Or.inr (Or.inl ⟨_, dX2_init_21, by decide, rfl⟩)) dX2_init_23 dX2_init_25 w_aI rfl rfl ff_X2_18 (fun _ => rfl) (fun _ => rfl) (by decide) (by decide) (by decide) rfl (Nat.le_of_ble_eq_true rfl) rfl rfl (Nat.le_of_ble_eq_true rfl) (Nat.le_of_ble_eq_true rfl) hP hD hS (fun q20 H locs hP hD hS => ?_)
  have hP : va_P D vwCl [(h0, .inr (2, [.ref q4, .ref q12, .ref q20, .int 0])), cI (A 0) q4 16, cI (A 0) q12 16, cI (A 0) q20 16] H := hP
  have hD : va_D A0 [(h0, .inr (2, [.ref q4, .ref q12, .ref q20, .int 0])), cI (A 0) q4 16, cI (A 0) q12 16, cI (A 0) q20 16] := hD
  exact hret [q4, q12, q20] 28 ls _ _ dX2_init_28 hP hD hS
abbrev wX3 (A : Nat → ClassId) (h : Nat) (u : List Nat) : va_W := [(h, .inr (3, [.int 0, .int 0, .int 0, .int 0, .int 0, .int 0, .int 0, .int 0]))]
set_option maxHeartbeats 4000000 in
set_option maxRecDepth 100000 in
theorem kt_X3 (D : va_G) (A : Nat → ClassId) : Kt D A mX3_init 3 [.int 0, .int 0, .int 0, .int 0, .int 0, .int 0, .int 0, .int 0] (wX3 A) 0 0 := by
  refine Kt.of rfl rfl rfl (by decide) rfl ?_
  intro p l e R s m args below meth c Q h0 A0 ls C hi hA hret hl hP hD hS
  refine c_obj C hl rfl dX3_init_0 dX3_init_1 oi_X3 (by decide) (by decide) ?_
  exact hret [] 4 ls _ _ dX3_init_4 hP hD hS
abbrev wX4 (A : Nat → ClassId) (h : Nat) (u : List Nat) : va_W := [(h, .inr (4, [.ref (ad u 0), .int 1, .int 0, .int 0])), cI (A 0) (ad u 0) 60]
set_option maxHeartbeats 4000000 in
set_option maxRecDepth 100000 in
theorem kt_X4 (D : va_G) (A : Nat → ClassId) : Kt D A mX4_init 4 [.null, .int 0, .int 0, .int 0] (wX4 A) 1 60 := by
  refine Kt.of rfl rfl rfl (by decide) rfl ?_
  intro p l e R s m args below meth c Q h0 A0 ls C hi hA hret hl hP hD hS
  refine c_obj C hl rfl dX4_init_0 dX4_init_1 oi_X4 (by decide) (by decide) ?_
  refine c_arr (pc := 4) (pc2 := 7) (n := 60) (N := 60) (nc' := 1) (ns' := 60) 0 C hi hA hl rfl dX4_init_4 (Or.inr (Or.inl ⟨_, dX4_init_5, by decide, rfl⟩)) dX4_init_7 dX4_init_9 w_aI rfl rfl ff_X4_9 (fun _ => rfl) (fun _ => rfl) (by decide) (by decide) (by decide) rfl (Nat.le_of_ble_eq_true rfl) rfl rfl (Nat.le_of_ble_eq_true rfl) (Nat.le_of_ble_eq_true rfl) hP hD hS (fun q4 H locs hP hD hS => ?_)
  have hP : va_P D vwCl [(h0, .inr (4, [.ref q4, .int 0, .int 0, .int 0])), cI (A 0) q4 60] H := hP
  have hD : va_D A0 [(h0, .inr (4, [.ref q4, .int 0, .int 0, .int 0])), cI (A 0) q4 60] := hD
  refine lv_aload_n C.1 C.2.1 dX4_init_12 rfl (lv_at hl 0 rfl) ?_
  refine c_push (v := 1) C.1 C.2.1 (Or.inl ⟨_, dX4_init_13, by decide, rfl⟩) ?_
  refine c_putI (k := 1) (q0 := 0) C dX4_init_14 fp_X4_15 rfl rfl rfl (Nat.le_of_ble_eq_true rfl) hP hD hS (fun H locs hP hD hS => ?_)
  have hP : va_P D vwCl [(h0, .inr (4, [.ref q4, .int 1, .int 0, .int 0])), cI (A 0) q4 60] H := hP
  have hD : va_D A0 [(h0, .inr (4, [.ref q4, .int 1, .int 0, .int 0])), cI (A 0) q4 60] := hD
  exact hret [q4] 17 ls _ _ dX4_init_17 hP hD hS
abbrev wX5 (A : Nat → ClassId) (h : Nat) (u : List Nat) : va_W := [(h, .inr (5, [.ref (ad u 0), .ref (ad u 1), .ref (ad u 2), .ref (ad u 3), .int 0])), cI (A 0) (ad u 0) 8, cI (A 0) (ad u 1) 8, cI (A 0) (ad u 2) 8, cI (A 0) (ad u 3) 8]
set_option maxHeartbeats 4000000 in
set_option maxRecDepth 100000 in
theorem kt_X5 (D : va_G) (A : Nat → ClassId) : Kt D A mX5_init 5 [.null, .null, .null, .null, .int 0] (wX5 A) 4 32 := by
  refine Kt.of rfl rfl rfl (by decide) rfl ?_
  intro p l e R s m args below meth c Q h0 A0 ls C hi hA hret hl hP hD hS
  refine c_obj C hl rfl dX5_init_0 dX5_init_1 oi_X5 (by decide) (by decide) ?_
  refine c_arr (pc := 4) (pc2 := 7) (n := 8) (N := 8) (nc' := 1) (ns' := 8) 0 C hi hA hl rfl dX5_init_4 (Or.inr (Or.inl ⟨_, dX5_init_5, by decide, rfl⟩)) dX5_init_7 dX5_init_9 w_aI rfl rfl ff_X5_9 (fun _ => rfl) (fun _ => rfl) (by decide) (by decide) (by decide) rfl (Nat.le_of_ble_eq_true rfl) rfl rfl (Nat.le_of_ble_eq_true rfl) (Nat.le_of_ble_eq_true rfl) hP hD hS (fun q4 H locs hP hD hS => ?_)
  have hP : va_P D vwCl [(h0, .inr (5, [.ref q4, .null, .null, .null, .int 0])), cI (A 0) q4 8] H := hP
  have hD : va_D A0 [(h0, .inr (5, [.ref q4, .null, .null, .null, .int 0])), cI (A 0) q4 8] := hD
  refine c_arr (pc := 12) (pc2 := 15) (n := 8) (N := 8) (nc' := 2) (ns' := 16) 0 C hi hA hl rfl dX5_init_12 (Or.inr (Or.inl ⟨_, dX5_init_13, by decide, rfl⟩)) dX5_init_15 dX5_init_17 w_aI rfl rfl ff_X5_15 (fun _ => rfl) (fun _ => rfl) (by decide) (by decide) (by decide) rfl (Nat.le_of_ble_eq_true rfl) rfl rfl (Nat.le_of_ble_eq_true rfl) (Nat.le_of_ble_eq_true rfl) hP hD hS (fun q12 H locs hP hD hS => ?_)
  have hP : va_P D vwCl [(h0, .inr (5, [.ref q4, .ref q12, .null, .null, .int 0])), cI (A 0) q4 8, cI (A 0) q12 8] H := hP
  have hD : va_D A0 [(h0, .inr (5, [.ref q4, .ref q12, .null, .null, .int 0])), cI (A 0) q4 8, cI (A 0) q12 8] := hD
  refine c_arr (pc := 20) (pc2 := 23) (n := 8) (N := 8) (nc' := 3) (ns' := 24) 0 C hi hA hl rfl dX5_init_20 (Or.inr (Or.inl ⟨_, dX5_init_21, by decide, rfl⟩)) dX5_init_23 dX5_init_25 w_aI rfl rfl ff_X5_18 (fun _ => rfl) (fun _ => rfl) (by decide) (by decide) (by decide) rfl (Nat.le_of_ble_eq_true rfl) rfl rfl (Nat.le_of_ble_eq_true rfl) (Nat.le_of_ble_eq_true rfl) hP hD hS (fun q20 H locs hP hD hS => ?_)
  have hP : va_P D vwCl [(h0, .inr (5, [.ref q4, .ref q12, .ref q20, .null, .int 0])), cI (A 0) q4 8, cI (A 0) q12 8, cI (A 0) q20 8] H := hP
  have hD : va_D A0 [(h0, .inr (5, [.ref q4, .ref q12, .ref q20, .null, .int 0])), cI (A 0) q4 8, cI (A 0) q12 8, cI (A 0) q20 8] := hD
  refine c_arr (pc := 28) (pc2 := 31) (n := 8) (N := 8) (nc' := 4) (ns' := 32) 0 C hi hA hl rfl dX5_init_28 (Or.inr (Or.inl ⟨_, dX5_init_29, by decide, rfl⟩)) dX5_init_31 dX5_init_33 w_aI rfl rfl ff_X5_21 (fun _ => rfl) (fun _ => rfl) (by decide) (by decide) (by decide) rfl (Nat.le_of_ble_eq_true rfl) rfl rfl (Nat.le_of_ble_eq_true rfl) (Nat.le_of_ble_eq_true rfl) hP hD hS (fun q28 H locs hP hD hS => ?_)
  have hP : va_P D vwCl [(h0, .inr (5, [.ref q4, .ref q12, .ref q20, .ref q28, .int 0])), cI (A 0) q4 8, cI (A 0) q12 8, cI (A 0) q20 8, cI (A 0) q28 8] H := hP
  have hD : va_D A0 [(h0, .inr (5, [.ref q4, .ref q12, .ref q20, .ref q28, .int 0])), cI (A 0) q4 8, cI (A 0) q12 8, cI (A 0) q20 8, cI (A 0) q28 8] := hD
  exact hret [q4, q12, q20, q28] 36 ls _ _ dX5_init_36 hP hD hS
