/-! the constructor of the class -/
/-- the first memory of the class -/
def sC0 : vMem := (fun n => match n with
  | 0 => upd (fun _ => 0) 10 (-1)
  | 5 => upd (upd (upd (upd (fun _ => 0) 1 (-1)) 6 (-1)) 11 3) 12 4
  | 13 => upd (upd (fun _ => 0) 16 (-1)) 17 (-1)
  | 35 => upd (upd (upd (upd (fun _ => 0) 0 (-1)) 1 (-1)) 2 (-1)) 3 (-1)
  | 37 => upd (upd (fun _ => 0) 0 (-1)) 1 (-1)
  | _ => fun _ => 0, fun n => match n with
  | 0 => fun k => if k = 13 then 1 else 0
  | _ => fun _ => 0)
set_option maxRecDepth 20000 in
theorem kX7 {D : va_G} {cI cZ : ClassId} {h0 : Nat} : K mX7_init D cI cZ (fun w => ∃ ad : Nat → Nat, ad 0 = h0 ∧ w = vW cI cZ ad GC sC0) 2 39 838 0 (vEn [.ref h0] 1) [] [(h0, .inr (7, [.null, .null, .null, .null, .null, .null, .null, .null, .null, .null, .int 0, .null, .long 0, .long 0, .int 0]))] 0 0 := by
  refine K.aload_n dX7_init_0 rfl ?_
  refine K.objInit dX7_init_1 oi_X7 oi_ins oi_code (by decide) (by decide) ?_
  refine K.aload_n dX7_init_4 rfl ?_
  refine K.new (ci := 4) (T := TX4) (M := 2) (fs := [.null, .int 0]) (cells' := 1) (slots' := 2) dX7_init_5 clX7_7 isX4 inX4 rfl (fun j hj => df4 j hj) rfl rfl (Nat.le_of_ble_eq_true rfl) (Nat.le_of_ble_eq_true rfl) (fun q1 => ?_)
  refine K.dup rfl dX7_init_8 ?_
  refine K.bipush (v := 35) (by decide) dX7_init_9 ?_
  refine K.call (mn := mX4_init) (As := [.int 35]) (st := [.ref q1, .ref h0]) (cells' := 2) (slots' := 37) dX7_init_11 liX7_11 hiX4_init rfl (by decide) (Nat.le_of_ble_eq_true rfl) (Nat.le_of_ble_eq_true rfl) rfl rfl (Nat.le_of_ble_eq_true rfl) (Nat.le_of_ble_eq_true rfl) (kX4 (h0 := q1) (n := 35) (N := 35) (by decide) (by decide) (by decide)) (fun w1 hw => ?_)
  obtain ⟨q2, rfl⟩ := hw
  refine K.putF (ci := 7) (k := 0) (T := TX7) (M := 15) dX7_init_14 rfl klX7_14 (by decide) rfl rfl rfl rfl (Nat.le_of_ble_eq_true rfl) ?_
  refine K.aload_n dX7_init_17 rfl ?_
  refine K.new (ci := 4) (T := TX4) (M := 2) (fs := [.null, .int 0]) (cells' := 3) (slots' := 39) dX7_init_18 clX7_7 isX4 inX4 rfl (fun j hj => df4 j hj) rfl rfl (Nat.le_of_ble_eq_true rfl) (Nat.le_of_ble_eq_true rfl) (fun q3 => ?_)
  refine K.dup rfl dX7_init_21 ?_
  refine K.bipush (v := 63) (by decide) dX7_init_22 ?_
  refine K.call (mn := mX4_init) (As := [.int 63]) (st := [.ref q3, .ref h0]) (cells' := 4) (slots' := 102) dX7_init_24 liX7_11 hiX4_init rfl (by decide) (Nat.le_of_ble_eq_true rfl) (Nat.le_of_ble_eq_true rfl) rfl rfl (Nat.le_of_ble_eq_true rfl) (Nat.le_of_ble_eq_true rfl) (kX4 (h0 := q3) (n := 63) (N := 63) (by decide) (by decide) (by decide)) (fun w1 hw => ?_)
  obtain ⟨q4, rfl⟩ := hw
  refine K.putF (ci := 7) (k := 1) (T := TX7) (M := 15) dX7_init_27 rfl klX7_18 (by decide) rfl rfl rfl rfl (Nat.le_of_ble_eq_true rfl) ?_
  refine K.aload_n dX7_init_30 rfl ?_
  refine K.new (ci := 5) (T := TX5) (M := 13) (fs := [.int 0, .int 0, .null, .null, .null, .int 0, .int 0, .null, .null, .null, .null, .int 0, .int 0]) (cells' := 5) (slots' := 115) dX7_init_31 clX7_21 isX5 inX5 rfl (fun j hj => df5 j hj) rfl rfl (Nat.le_of_ble_eq_true rfl) (Nat.le_of_ble_eq_true rfl) (fun q5 => ?_)
  refine K.dup rfl dX7_init_34 ?_
  refine K.callN (mn := mX5_init) (As := []) (st := [.ref q5, .ref h0]) (cells' := 12) (slots' := 190) dX7_init_35 (host := "BreadString") (fun s h => h.1) hiX5_init rfl (by decide) (Nat.le_of_ble_eq_true rfl) (Nat.le_of_ble_eq_true rfl) rfl rfl (Nat.le_of_ble_eq_true rfl) (Nat.le_of_ble_eq_true rfl) (kX5 (h0 := q5)) (fun w1 hw => ?_)
  obtain ⟨q6, q7, q8, q9, q10, q11, q12, rfl⟩ := hw
  refine K.putF (ci := 7) (k := 2) (T := TX7) (M := 15) dX7_init_38 rfl klX7_24 (by decide) rfl rfl rfl rfl (Nat.le_of_ble_eq_true rfl) ?_
  refine K.aload_n dX7_init_41 rfl ?_
  refine K.new (ci := 6) (T := TX6) (M := 18) (fs := [.null, .int 0, .int 0, .null, .null, .null, .null, .null, .null, .null, .null, .null, .null, .null, .int 0, .int 0, .int 0, .int 0]) (cells' := 13) (slots' := 208) dX7_init_42 clX7_28 isX6 inX6 rfl (fun j hj => df6 j hj) rfl rfl (Nat.le_of_ble_eq_true rfl) (Nat.le_of_ble_eq_true rfl) (fun q13 => ?_)
  refine K.dup rfl dX7_init_45 ?_
  refine K.aload_n dX7_init_46 rfl ?_
  refine K.get2 (ci := 7) (k := 2) (T := TX7) (M := 15) (v := .ref q5) dX7_init_47 rfl klX7_24 (by decide) rfl rfl ?_
  refine K.call (mn := mX6_init) (As := [.ref q5]) (st := [.ref q13, .ref h0]) (cells' := 24) (slots' := 459) dX7_init_50 liX7_30 hiX6_init rfl (by decide) (Nat.le_of_ble_eq_true rfl) (Nat.le_of_ble_eq_true rfl) rfl rfl (Nat.le_of_ble_eq_true rfl) (Nat.le_of_ble_eq_true rfl) (kX6 (h0 := q13) (t := q5)) (fun w1 hw => ?_)
  obtain ⟨q14, q15, q16, q17, q18, q19, q20, q21, q22, q23, q24, rfl⟩ := hw
  refine K.putF (ci := 7) (k := 3) (T := TX7) (M := 15) dX7_init_53 rfl klX7_33 (by decide) rfl rfl rfl rfl (Nat.le_of_ble_eq_true rfl) ?_
  refine K.aload_n dX7_init_56 rfl ?_
  refine K.new (ci := 1) (T := TX1) (M := 2) (fs := [.null, .int 0]) (cells' := 25) (slots' := 461) dX7_init_57 clX7_37 isX1 inX1 rfl (fun j hj => df1 j hj) rfl rfl (Nat.le_of_ble_eq_true rfl) (Nat.le_of_ble_eq_true rfl) (fun q25 => ?_)
  refine K.dup rfl dX7_init_60 ?_
  refine K.callN (mn := mX1_init) (As := []) (st := [.ref q25, .ref h0]) (cells' := 26) (slots' := 467) dX7_init_61 (host := "BreadString") (fun s h => h.2.1) hiX1_init rfl (by decide) (Nat.le_of_ble_eq_true rfl) (Nat.le_of_ble_eq_true rfl) rfl rfl (Nat.le_of_ble_eq_true rfl) (Nat.le_of_ble_eq_true rfl) (kX1 (h0 := q25)) (fun w1 hw => ?_)
  obtain ⟨q26, rfl⟩ := hw
  refine K.putF (ci := 7) (k := 4) (T := TX7) (M := 15) dX7_init_64 rfl klX7_40 (by decide) rfl rfl rfl rfl (Nat.le_of_ble_eq_true rfl) ?_
  refine K.aload_n dX7_init_67 rfl ?_
  refine K.new (ci := 1) (T := TX1) (M := 2) (fs := [.null, .int 0]) (cells' := 27) (slots' := 469) dX7_init_68 clX7_37 isX1 inX1 rfl (fun j hj => df1 j hj) rfl rfl (Nat.le_of_ble_eq_true rfl) (Nat.le_of_ble_eq_true rfl) (fun q27 => ?_)
  refine K.dup rfl dX7_init_71 ?_
  refine K.callN (mn := mX1_init) (As := []) (st := [.ref q27, .ref h0]) (cells' := 28) (slots' := 475) dX7_init_72 (host := "BreadString") (fun s h => h.2.1) hiX1_init rfl (by decide) (Nat.le_of_ble_eq_true rfl) (Nat.le_of_ble_eq_true rfl) rfl rfl (Nat.le_of_ble_eq_true rfl) (Nat.le_of_ble_eq_true rfl) (kX1 (h0 := q27)) (fun w1 hw => ?_)
  obtain ⟨q28, rfl⟩ := hw
  refine K.putF (ci := 7) (k := 5) (T := TX7) (M := 15) dX7_init_75 rfl klX7_44 (by decide) rfl rfl rfl rfl (Nat.le_of_ble_eq_true rfl) ?_
  refine K.aload_n dX7_init_78 rfl ?_
  refine K.new (ci := 3) (T := TX3) (M := 4) (fs := [.null, .null, .null, .int 0]) (cells' := 29) (slots' := 479) dX7_init_79 clX7_47 isX3 inX3 rfl (fun j hj => df3 j hj) rfl rfl (Nat.le_of_ble_eq_true rfl) (Nat.le_of_ble_eq_true rfl) (fun q29 => ?_)
  refine K.dup rfl dX7_init_82 ?_
  refine K.callN (mn := mX3_init) (As := []) (st := [.ref q29, .ref h0]) (cells' := 32) (slots' := 503) dX7_init_83 (host := "BreadString") (fun s h => h.2.2.1) hiX3_init rfl (by decide) (Nat.le_of_ble_eq_true rfl) (Nat.le_of_ble_eq_true rfl) rfl rfl (Nat.le_of_ble_eq_true rfl) (Nat.le_of_ble_eq_true rfl) (kX3 (h0 := q29)) (fun w1 hw => ?_)
  obtain ⟨q30, q31, q32, rfl⟩ := hw
  refine K.putF (ci := 7) (k := 6) (T := TX7) (M := 15) dX7_init_86 rfl klX7_50 (by decide) rfl rfl rfl rfl (Nat.le_of_ble_eq_true rfl) ?_
  refine K.aload_n dX7_init_89 rfl ?_
  refine K.new (ci := 2) (T := TX2) (M := 3) (fs := [.null, .null, .null]) (cells' := 33) (slots' := 506) dX7_init_90 clX7_54 isX2 inX2 rfl (fun j hj => df2 j hj) rfl rfl (Nat.le_of_ble_eq_true rfl) (Nat.le_of_ble_eq_true rfl) (fun q33 => ?_)
  refine K.dup rfl dX7_init_93 ?_
  refine K.call (mn := mX2_init) (As := []) (st := [.ref q33, .ref h0]) (cells' := 36) (slots' := 754) dX7_init_94 liX7_56 hiX2_init rfl (by decide) (Nat.le_of_ble_eq_true rfl) (Nat.le_of_ble_eq_true rfl) rfl rfl (Nat.le_of_ble_eq_true rfl) (Nat.le_of_ble_eq_true rfl) (kX2 (h0 := q33)) (fun w1 hw => ?_)
  obtain ⟨q34, q35, q36, rfl⟩ := hw
  refine K.putF (ci := 7) (k := 7) (T := TX7) (M := 15) dX7_init_97 rfl klX7_57 (by decide) rfl rfl rfl rfl (Nat.le_of_ble_eq_true rfl) ?_
  refine K.aload_n dX7_init_100 rfl ?_
  refine K.new (ci := 0) (T := TX0) (M := 2) (fs := [.int 0, .int 0]) (cells' := 37) (slots' := 756) dX7_init_101 clX7_61 isX0 inX0 rfl (fun j hj => df0 j hj) rfl rfl (Nat.le_of_ble_eq_true rfl) (Nat.le_of_ble_eq_true rfl) (fun q37 => ?_)
  refine K.dup rfl dX7_init_104 ?_
  refine K.callN (mn := mX0_init) (As := []) (st := [.ref q37, .ref h0]) (cells' := 37) (slots' := 756) dX7_init_105 (host := "BreadString") (fun s h => h.2.2.2) hiX0_init rfl (by decide) (Nat.le_of_ble_eq_true rfl) (Nat.le_of_ble_eq_true rfl) rfl rfl (Nat.le_of_ble_eq_true rfl) (Nat.le_of_ble_eq_true rfl) (kX0 (h0 := q37)) (fun w1 hw => ?_)
  obtain ⟨rfl⟩ := hw
  refine K.putF (ci := 7) (k := 8) (T := TX7) (M := 15) dX7_init_108 rfl klX7_64 (by decide) rfl rfl rfl rfl (Nat.le_of_ble_eq_true rfl) ?_
  refine K.aload_n dX7_init_111 rfl ?_
  refine K.iconst (v := 2) (by decide) dX7_init_112 ?_
  refine K.newI (M := 2) (cells' := 38) (slots' := 758) dX7_init_113 ar_int (by decide) (by decide) (by decide) rfl rfl (Nat.le_of_ble_eq_true rfl) (Nat.le_of_ble_eq_true rfl) (fun q38 => ?_)
  refine K.putF (ci := 7) (k := 9) (T := TX7) (M := 15) dX7_init_115 rfl klX7_68 (by decide) rfl rfl rfl rfl (Nat.le_of_ble_eq_true rfl) ?_
  refine K.aload_n dX7_init_118 rfl ?_
  refine K.iconst (v := (-1)) (by decide) dX7_init_119 ?_
  refine K.put (ci := 7) (k := 10) (T := TX7) (M := 15) dX7_init_120 rfl klX7_72 (by decide) rfl rfl rfl (Nat.le_of_ble_eq_true rfl) ?_
  refine K.aload_n dX7_init_123 rfl ?_
  refine K.bipush (v := 80) (by decide) dX7_init_124 ?_
  refine K.newI (M := 80) (cells' := 39) (slots' := 838) dX7_init_126 ar_int (by decide) (by decide) (by decide) rfl rfl (Nat.le_of_ble_eq_true rfl) (Nat.le_of_ble_eq_true rfl) (fun q39 => ?_)
  refine K.putF (ci := 7) (k := 11) (T := TX7) (M := 15) dX7_init_128 rfl klX7_76 (by decide) rfl rfl rfl rfl (Nat.le_of_ble_eq_true rfl) ?_
  refine K.aload_n dX7_init_131 rfl ?_
  refine K.lconst (v := 0) (by decide) dX7_init_132 ?_
  refine K.put (ci := 7) (k := 12) (T := TX7) (M := 15) dX7_init_133 rfl klX7_79 (by decide) rfl rfl rfl (Nat.le_of_ble_eq_true rfl) ?_
  refine K.aload_n dX7_init_136 rfl ?_
  refine K.lconst (v := 1) (by decide) dX7_init_137 ?_
  refine K.put (ci := 7) (k := 13) (T := TX7) (M := 15) dX7_init_138 rfl klX7_83 (by decide) rfl rfl rfl (Nat.le_of_ble_eq_true rfl) ?_
  refine K.aload_n dX7_init_141 rfl ?_
  refine K.iconst (v := 0) (by decide) dX7_init_142 ?_
  refine K.put (ci := 7) (k := 14) (T := TX7) (M := 15) dX7_init_143 rfl klX7_86 (by decide) rfl rfl rfl (Nat.le_of_ble_eq_true rfl) ?_
  exact K.vret dX7_init_146 rfl rfl rfl ⟨fun n => [h0, q1, q2, q3, q4, q5, q6, q7, q8, q9, q10, q11, q12, q13, q14, q15, q16, q17, q18, q19, q20, q21, q22, q23, q24, q25, q26, q27, q28, q29, q30, q31, q32, q33, q34, q35, q36, q37, q38, q39].getD n 0, rfl, rfl⟩
