/-! the constructors of the class's parts -/
theorem df0 : ∀ j, j < 2 → defaultValue (vTy 0 j) = vp_V [.int 0, .int 0] j := by
  intro j hj
  match j, hj with
  | 0, _ => rfl
  | 1, _ => rfl
  | j + 2, h => exact absurd h (by omega)
theorem df1 : ∀ j, j < 2 → defaultValue (vTy 1 j) = vp_V [.null, .int 0] j := by
  intro j hj
  match j, hj with
  | 0, _ => rfl
  | 1, _ => rfl
  | j + 2, h => exact absurd h (by omega)
theorem df2 : ∀ j, j < 3 → defaultValue (vTy 2 j) = vp_V [.null, .null, .null] j := by
  intro j hj
  match j, hj with
  | 0, _ => rfl
  | 1, _ => rfl
  | 2, _ => rfl
  | j + 3, h => exact absurd h (by omega)
theorem df3 : ∀ j, j < 4 → defaultValue (vTy 3 j) = vp_V [.null, .null, .null, .int 0] j := by
  intro j hj
  match j, hj with
  | 0, _ => rfl
  | 1, _ => rfl
  | 2, _ => rfl
  | 3, _ => rfl
  | j + 4, h => exact absurd h (by omega)
theorem df4 : ∀ j, j < 2 → defaultValue (vTy 4 j) = vp_V [.null, .int 0] j := by
  intro j hj
  match j, hj with
  | 0, _ => rfl
  | 1, _ => rfl
  | j + 2, h => exact absurd h (by omega)
theorem df5 : ∀ j, j < 13 → defaultValue (vTy 5 j) = vp_V [.int 0, .int 0, .null, .null, .null, .int 0, .int 0, .null, .null, .null, .null, .int 0, .int 0] j := by
  intro j hj
  match j, hj with
  | 0, _ => rfl
  | 1, _ => rfl
  | 2, _ => rfl
  | 3, _ => rfl
  | 4, _ => rfl
  | 5, _ => rfl
  | 6, _ => rfl
  | 7, _ => rfl
  | 8, _ => rfl
  | 9, _ => rfl
  | 10, _ => rfl
  | 11, _ => rfl
  | 12, _ => rfl
  | j + 13, h => exact absurd h (by omega)
theorem df6 : ∀ j, j < 18 → defaultValue (vTy 6 j) = vp_V [.null, .int 0, .int 0, .null, .null, .null, .null, .null, .null, .null, .null, .null, .null, .null, .int 0, .int 0, .int 0, .int 0] j := by
  intro j hj
  match j, hj with
  | 0, _ => rfl
  | 1, _ => rfl
  | 2, _ => rfl
  | 3, _ => rfl
  | 4, _ => rfl
  | 5, _ => rfl
  | 6, _ => rfl
  | 7, _ => rfl
  | 8, _ => rfl
  | 9, _ => rfl
  | 10, _ => rfl
  | 11, _ => rfl
  | 12, _ => rfl
  | 13, _ => rfl
  | 14, _ => rfl
  | 15, _ => rfl
  | 16, _ => rfl
  | 17, _ => rfl
  | j + 18, h => exact absurd h (by omega)
theorem df7 : ∀ j, j < 15 → defaultValue (vTy 7 j) = vp_V [.null, .null, .null, .null, .null, .null, .null, .null, .null, .null, .int 0, .null, .long 0, .long 0, .int 0] j := by
  intro j hj
  match j, hj with
  | 0, _ => rfl
  | 1, _ => rfl
  | 2, _ => rfl
  | 3, _ => rfl
  | 4, _ => rfl
  | 5, _ => rfl
  | 6, _ => rfl
  | 7, _ => rfl
  | 8, _ => rfl
  | 9, _ => rfl
  | 10, _ => rfl
  | 11, _ => rfl
  | 12, _ => rfl
  | 13, _ => rfl
  | 14, _ => rfl
  | j + 15, h => exact absurd h (by omega)
theorem df8 : ∀ j, j < 48 → defaultValue (vTy 8 j) = vp_V [.null, .null, .int 0, .null, .null, .null, .int 0, .null, .null, .null, .null, .int 0, .int 0, .int 0, .null, .int 0, .null, .long 0, .long 0, .int 0, .null, .null, .null, .null, .null, .null, .null, .null, .null, .null, .int 0, .int 0, .null, .null, .null, .null, .null, .int 0, .null, .null, .null, .null, .null, .null, .null, .null, .null, .int 0] j := by
  intro j hj
  match j, hj with
  | 0, _ => rfl
  | 1, _ => rfl
  | 2, _ => rfl
  | 3, _ => rfl
  | 4, _ => rfl
  | 5, _ => rfl
  | 6, _ => rfl
  | 7, _ => rfl
  | 8, _ => rfl
  | 9, _ => rfl
  | 10, _ => rfl
  | 11, _ => rfl
  | 12, _ => rfl
  | 13, _ => rfl
  | 14, _ => rfl
  | 15, _ => rfl
  | 16, _ => rfl
  | 17, _ => rfl
  | 18, _ => rfl
  | 19, _ => rfl
  | 20, _ => rfl
  | 21, _ => rfl
  | 22, _ => rfl
  | 23, _ => rfl
  | 24, _ => rfl
  | 25, _ => rfl
  | 26, _ => rfl
  | 27, _ => rfl
  | 28, _ => rfl
  | 29, _ => rfl
  | 30, _ => rfl
  | 31, _ => rfl
  | 32, _ => rfl
  | 33, _ => rfl
  | 34, _ => rfl
  | 35, _ => rfl
  | 36, _ => rfl
  | 37, _ => rfl
  | 38, _ => rfl
  | 39, _ => rfl
  | 40, _ => rfl
  | 41, _ => rfl
  | 42, _ => rfl
  | 43, _ => rfl
  | 44, _ => rfl
  | 45, _ => rfl
  | 46, _ => rfl
  | 47, _ => rfl
  | j + 48, h => exact absurd h (by omega)
theorem kX0 {D : va_G} {cI cZ : ClassId} {h0 : Nat} : K mX0_init D cI cZ (fun w => w = [(h0, .inr (0, [.int (-1), .int (-1)]))]) 1 0 0 0 (vEn [.ref h0] 1) [] [(h0, .inr (0, [.int 0, .int 0]))] 0 0 := by
  refine K.aload_n dX0_init_0 rfl ?_
  refine K.objInit dX0_init_1 oi_X0 oi_ins oi_code (by decide) (by decide) ?_
  refine K.aload_n dX0_init_4 rfl ?_
  refine K.iconst (v := (-1)) (by decide) dX0_init_5 ?_
  refine K.put (ci := 0) (k := 0) (T := TX0) (M := 2) dX0_init_6 rfl klX0_9 (by decide) rfl rfl rfl (Nat.le_of_ble_eq_true rfl) ?_
  refine K.aload_n dX0_init_9 rfl ?_
  refine K.iconst (v := (-1)) (by decide) dX0_init_10 ?_
  refine K.put (ci := 0) (k := 1) (T := TX0) (M := 2) dX0_init_11 rfl klX0_15 (by decide) rfl rfl rfl (Nat.le_of_ble_eq_true rfl) ?_
  exact K.vret dX0_init_14 rfl rfl rfl rfl
theorem kX1 {D : va_G} {cI cZ : ClassId} {h0 : Nat} : K mX1_init D cI cZ (fun w => ∃ q1 : Nat, w = [(h0, .inr (1, [.ref q1, .int 0])), (q1, .inl (cI, 6, .inl (fun _ => 0)))]) 1 1 6 0 (vEn [.ref h0] 1) [] [(h0, .inr (1, [.null, .int 0]))] 0 0 := by
  refine K.aload_n dX1_init_0 rfl ?_
  refine K.objInit dX1_init_1 oi_X1 oi_ins oi_code (by decide) (by decide) ?_
  refine K.aload_n dX1_init_4 rfl ?_
  refine K.bipush (v := 6) (by decide) dX1_init_5 ?_
  refine K.newI (M := 6) (cells' := 1) (slots' := 6) dX1_init_7 ar_int (by decide) (by decide) (by decide) rfl rfl (Nat.le_of_ble_eq_true rfl) (Nat.le_of_ble_eq_true rfl) (fun q1 => ?_)
  refine K.putF (ci := 1) (k := 0) (T := TX1) (M := 2) dX1_init_9 rfl klX1_9 (by decide) rfl rfl rfl rfl (Nat.le_of_ble_eq_true rfl) ?_
  refine K.aload_n dX1_init_12 rfl ?_
  refine K.iconst (v := 0) (by decide) dX1_init_13 ?_
  refine K.put (ci := 1) (k := 1) (T := TX1) (M := 2) dX1_init_14 rfl klX1_15 (by decide) rfl rfl rfl (Nat.le_of_ble_eq_true rfl) ?_
  exact K.vret dX1_init_17 rfl rfl rfl ⟨q1, rfl⟩
theorem kX2 {D : va_G} {cI cZ : ClassId} {h0 : Nat} : K mX2_init D cI cZ (fun w => ∃ q1 : Nat, ∃ q2 : Nat, ∃ q3 : Nat, w = [(h0, .inr (2, [.ref q1, .ref q2, .ref q3])), (q1, .inl (cI, 4, .inl (fun _ => 0))), (q2, .inl (cI, 4, .inl (upd (upd (upd (upd (fun _ => 0) 0 (-1)) 1 (-1)) 2 (-1)) 3 (-1)))), (q3, .inl (cI, 240, .inl (fun _ => 0)))]) 1 3 248 0 (vEn [.ref h0] 2) [] [(h0, .inr (2, [.null, .null, .null]))] 0 0 := by
  refine K.aload_n dX2_init_0 rfl ?_
  refine K.objInit dX2_init_1 oi_X2 oi_ins oi_code (by decide) (by decide) ?_
  refine K.aload_n dX2_init_4 rfl ?_
  refine K.iconst (v := 4) (by decide) dX2_init_5 ?_
  refine K.newI (M := 4) (cells' := 1) (slots' := 4) dX2_init_6 ar_int (by decide) (by decide) (by decide) rfl rfl (Nat.le_of_ble_eq_true rfl) (Nat.le_of_ble_eq_true rfl) (fun q1 => ?_)
  refine K.putF (ci := 2) (k := 0) (T := TX2) (M := 3) dX2_init_8 rfl klX2_9 (by decide) rfl rfl rfl rfl (Nat.le_of_ble_eq_true rfl) ?_
  refine K.aload_n dX2_init_11 rfl ?_
  refine K.iconst (v := 4) (by decide) dX2_init_12 ?_
  refine K.newI (M := 4) (cells' := 2) (slots' := 8) dX2_init_13 ar_int (by decide) (by decide) (by decide) rfl rfl (Nat.le_of_ble_eq_true rfl) (Nat.le_of_ble_eq_true rfl) (fun q2 => ?_)
  refine K.putF (ci := 2) (k := 1) (T := TX2) (M := 3) dX2_init_15 rfl klX2_15 (by decide) rfl rfl rfl rfl (Nat.le_of_ble_eq_true rfl) ?_
  refine K.aload_n dX2_init_18 rfl ?_
  refine K.sipush (v := 240) (by decide) dX2_init_19 ?_
  refine K.newI (M := 240) (cells' := 3) (slots' := 248) dX2_init_22 ar_int (by decide) (by decide) (by decide) rfl rfl (Nat.le_of_ble_eq_true rfl) (Nat.le_of_ble_eq_true rfl) (fun q3 => ?_)
  refine K.putF (ci := 2) (k := 2) (T := TX2) (M := 3) dX2_init_24 rfl klX2_18 (by decide) rfl rfl rfl rfl (Nat.le_of_ble_eq_true rfl) ?_
  refine K.iconst (v := 0) (by decide) dX2_init_27 ?_
  refine K.istore_n dX2_init_28 (by decide) rfl ?_
  refine K.iload_n dX2_init_29 rfl ?_
  refine K.iconst (v := 4) (by decide) dX2_init_30 ?_
  refine K.icmp_geF (tgt := 47) dX2_init_31 (by decide) (by decide) ?_
  refine K.aload_n dX2_init_34 rfl ?_
  refine K.get (ci := 2) (k := 1) (T := TX2) (M := 3) (v := .ref q2) dX2_init_35 rfl klX2_15 (by decide) rfl ?_
  refine K.iload_n dX2_init_38 rfl ?_
  refine K.iconst (v := (-1)) (by decide) dX2_init_39 ?_
  refine K.iast (j := 2) dX2_init_40 rfl (vp_in_nI (n := 0) (N := 4) (by decide) (by decide)) ?_
  refine K.iinc (x := 0) (v := 1) dX2_init_41 rfl (by decide) (by decide) rfl ?_
  refine K.goto (tgt := 29) dX2_init_44 (by decide) ?_
  refine K.iload_n dX2_init_29 rfl ?_
  refine K.iconst (v := 4) (by decide) dX2_init_30 ?_
  refine K.icmp_geF (tgt := 47) dX2_init_31 (by decide) (by decide) ?_
  refine K.aload_n dX2_init_34 rfl ?_
  refine K.get (ci := 2) (k := 1) (T := TX2) (M := 3) (v := .ref q2) dX2_init_35 rfl klX2_15 (by decide) rfl ?_
  refine K.iload_n dX2_init_38 rfl ?_
  refine K.iconst (v := (-1)) (by decide) dX2_init_39 ?_
  refine K.iast (j := 2) dX2_init_40 rfl (vp_in_nI (n := 1) (N := 4) (by decide) (by decide)) ?_
  refine K.iinc (x := 1) (v := 2) dX2_init_41 rfl (by decide) (by decide) rfl ?_
  refine K.goto (tgt := 29) dX2_init_44 (by decide) ?_
  refine K.iload_n dX2_init_29 rfl ?_
  refine K.iconst (v := 4) (by decide) dX2_init_30 ?_
  refine K.icmp_geF (tgt := 47) dX2_init_31 (by decide) (by decide) ?_
  refine K.aload_n dX2_init_34 rfl ?_
  refine K.get (ci := 2) (k := 1) (T := TX2) (M := 3) (v := .ref q2) dX2_init_35 rfl klX2_15 (by decide) rfl ?_
  refine K.iload_n dX2_init_38 rfl ?_
  refine K.iconst (v := (-1)) (by decide) dX2_init_39 ?_
  refine K.iast (j := 2) dX2_init_40 rfl (vp_in_nI (n := 2) (N := 4) (by decide) (by decide)) ?_
  refine K.iinc (x := 2) (v := 3) dX2_init_41 rfl (by decide) (by decide) rfl ?_
  refine K.goto (tgt := 29) dX2_init_44 (by decide) ?_
  refine K.iload_n dX2_init_29 rfl ?_
  refine K.iconst (v := 4) (by decide) dX2_init_30 ?_
  refine K.icmp_geF (tgt := 47) dX2_init_31 (by decide) (by decide) ?_
  refine K.aload_n dX2_init_34 rfl ?_
  refine K.get (ci := 2) (k := 1) (T := TX2) (M := 3) (v := .ref q2) dX2_init_35 rfl klX2_15 (by decide) rfl ?_
  refine K.iload_n dX2_init_38 rfl ?_
  refine K.iconst (v := (-1)) (by decide) dX2_init_39 ?_
  refine K.iast (j := 2) dX2_init_40 rfl (vp_in_nI (n := 3) (N := 4) (by decide) (by decide)) ?_
  refine K.iinc (x := 3) (v := 4) dX2_init_41 rfl (by decide) (by decide) rfl ?_
  refine K.goto (tgt := 29) dX2_init_44 (by decide) ?_
  refine K.iload_n dX2_init_29 rfl ?_
  refine K.iconst (v := 4) (by decide) dX2_init_30 ?_
  refine K.icmp_geT (tgt := 47) dX2_init_31 (by decide) (by decide) ?_
  exact K.vret dX2_init_47 rfl rfl rfl ⟨q1, q2, q3, rfl⟩
theorem kX3 {D : va_G} {cI cZ : ClassId} {h0 : Nat} : K mX3_init D cI cZ (fun w => ∃ q1 : Nat, ∃ q2 : Nat, ∃ q3 : Nat, w = [(h0, .inr (3, [.ref q1, .ref q2, .ref q3, .int 0])), (q1, .inl (cI, 8, .inl (fun _ => 0))), (q2, .inl (cI, 8, .inl (fun _ => 0))), (q3, .inl (cI, 8, .inl (fun _ => 0)))]) 1 3 24 0 (vEn [.ref h0] 1) [] [(h0, .inr (3, [.null, .null, .null, .int 0]))] 0 0 := by
  refine K.aload_n dX3_init_0 rfl ?_
  refine K.objInit dX3_init_1 oi_X3 oi_ins oi_code (by decide) (by decide) ?_
  refine K.aload_n dX3_init_4 rfl ?_
  refine K.bipush (v := 8) (by decide) dX3_init_5 ?_
  refine K.newI (M := 8) (cells' := 1) (slots' := 8) dX3_init_7 ar_int (by decide) (by decide) (by decide) rfl rfl (Nat.le_of_ble_eq_true rfl) (Nat.le_of_ble_eq_true rfl) (fun q1 => ?_)
  refine K.putF (ci := 3) (k := 0) (T := TX3) (M := 4) dX3_init_9 rfl klX3_9 (by decide) rfl rfl rfl rfl (Nat.le_of_ble_eq_true rfl) ?_
  refine K.aload_n dX3_init_12 rfl ?_
  refine K.bipush (v := 8) (by decide) dX3_init_13 ?_
  refine K.newI (M := 8) (cells' := 2) (slots' := 16) dX3_init_15 ar_int (by decide) (by decide) (by decide) rfl rfl (Nat.le_of_ble_eq_true rfl) (Nat.le_of_ble_eq_true rfl) (fun q2 => ?_)
  refine K.putF (ci := 3) (k := 1) (T := TX3) (M := 4) dX3_init_17 rfl klX3_15 (by decide) rfl rfl rfl rfl (Nat.le_of_ble_eq_true rfl) ?_
  refine K.aload_n dX3_init_20 rfl ?_
  refine K.bipush (v := 8) (by decide) dX3_init_21 ?_
  refine K.newI (M := 8) (cells' := 3) (slots' := 24) dX3_init_23 ar_int (by decide) (by decide) (by decide) rfl rfl (Nat.le_of_ble_eq_true rfl) (Nat.le_of_ble_eq_true rfl) (fun q3 => ?_)
  refine K.putF (ci := 3) (k := 2) (T := TX3) (M := 4) dX3_init_25 rfl klX3_18 (by decide) rfl rfl rfl rfl (Nat.le_of_ble_eq_true rfl) ?_
  refine K.aload_n dX3_init_28 rfl ?_
  refine K.iconst (v := 0) (by decide) dX3_init_29 ?_
  refine K.put (ci := 3) (k := 3) (T := TX3) (M := 4) dX3_init_30 rfl klX3_21 (by decide) rfl rfl rfl (Nat.le_of_ble_eq_true rfl) ?_
  exact K.vret dX3_init_33 rfl rfl rfl ⟨q1, q2, q3, rfl⟩
theorem kX4 {D : va_G} {cI cZ : ClassId} {h0 : Nat} {n : Int32} {N : Nat} (hn : 0 ≤ n) (hN : n.toNatClampNeg = N) (hN2 : N ≤ 1000) : K mX4_init D cI cZ (fun w => ∃ q1 : Nat, w = [(h0, .inr (4, [.ref q1, .int 0])), (q1, .inl (cI, N, .inl (fun _ => 0)))]) 1 1 N 0 (vEn [.ref h0, .int n] 2) [] [(h0, .inr (4, [.null, .int 0]))] 0 0 := by
  refine K.aload_n dX4_init_0 rfl ?_
  refine K.objInit dX4_init_1 oi_X4 oi_ins oi_code (by decide) (by decide) ?_
  refine K.aload_n dX4_init_4 rfl ?_
  refine K.iconst (v := 0) (by decide) dX4_init_5 ?_
  refine K.put (ci := 4) (k := 1) (T := TX4) (M := 2) dX4_init_6 rfl klX4_7 (by decide) rfl rfl rfl (Nat.le_of_ble_eq_true rfl) ?_
  refine K.aload_n dX4_init_9 rfl ?_
  refine K.iload_n dX4_init_10 rfl ?_
  refine K.if_geT (tgt := 18) dX4_init_11 (by decide) hn ?_
  refine K.iload_n dX4_init_18 rfl ?_
  refine K.newI (M := N) (cells' := 1) (slots' := N) dX4_init_19 ar_int (by rw [i32_lt_not]; exact hn) hN hN2 rfl (Nat.zero_add N) (Nat.le_of_ble_eq_true rfl) (Nat.le_refl N) (fun q1 => ?_)
  refine K.putF (ci := 4) (k := 0) (T := TX4) (M := 2) dX4_init_21 rfl klX4_13 (by decide) rfl rfl rfl rfl (Nat.le_of_ble_eq_true rfl) ?_
  exact K.vret dX4_init_24 rfl rfl rfl ⟨q1, rfl⟩
theorem kX5 {D : va_G} {cI cZ : ClassId} {h0 : Nat} : K mX5_init D cI cZ (fun w => ∃ q1 : Nat, ∃ q2 : Nat, ∃ q3 : Nat, ∃ q4 : Nat, ∃ q5 : Nat, ∃ q6 : Nat, ∃ q7 : Nat, w = [(h0, .inr (5, [.int 0, .int (-1), .ref q1, .ref q2, .ref q3, .int 0, .int (-1), .ref q4, .ref q5, .ref q6, .ref q7, .int 3, .int 4])), (q1, .inl (cI, 9, .inl (fun _ => 0))), (q2, .inl (cI, 9, .inl (fun _ => 0))), (q3, .inl (cI, 9, .inl (fun _ => 0))), (q4, .inl (cI, 8, .inl (fun _ => 0))), (q5, .inl (cI, 8, .inl (fun _ => 0))), (q6, .inl (cI, 8, .inl (fun _ => 0))), (q7, .inl (cI, 24, .inl (fun _ => 0)))]) 1 7 75 0 (vEn [.ref h0] 1) [] [(h0, .inr (5, [.int 0, .int 0, .null, .null, .null, .int 0, .int 0, .null, .null, .null, .null, .int 0, .int 0]))] 0 0 := by
  refine K.aload_n dX5_init_0 rfl ?_
  refine K.objInit dX5_init_1 oi_X5 oi_ins oi_code (by decide) (by decide) ?_
  refine K.aload_n dX5_init_4 rfl ?_
  refine K.iconst (v := 0) (by decide) dX5_init_5 ?_
  refine K.put (ci := 5) (k := 0) (T := TX5) (M := 13) dX5_init_6 rfl klX5_9 (by decide) rfl rfl rfl (Nat.le_of_ble_eq_true rfl) ?_
  refine K.aload_n dX5_init_9 rfl ?_
  refine K.iconst (v := (-1)) (by decide) dX5_init_10 ?_
  refine K.put (ci := 5) (k := 1) (T := TX5) (M := 13) dX5_init_11 rfl klX5_15 (by decide) rfl rfl rfl (Nat.le_of_ble_eq_true rfl) ?_
  refine K.aload_n dX5_init_14 rfl ?_
  refine K.bipush (v := 9) (by decide) dX5_init_15 ?_
  refine K.newI (M := 9) (cells' := 1) (slots' := 9) dX5_init_17 ar_int (by decide) (by decide) (by decide) rfl rfl (Nat.le_of_ble_eq_true rfl) (Nat.le_of_ble_eq_true rfl) (fun q1 => ?_)
  refine K.putF (ci := 5) (k := 2) (T := TX5) (M := 13) dX5_init_19 rfl klX5_18 (by decide) rfl rfl rfl rfl (Nat.le_of_ble_eq_true rfl) ?_
  refine K.aload_n dX5_init_22 rfl ?_
  refine K.bipush (v := 9) (by decide) dX5_init_23 ?_
  refine K.newI (M := 9) (cells' := 2) (slots' := 18) dX5_init_25 ar_int (by decide) (by decide) (by decide) rfl rfl (Nat.le_of_ble_eq_true rfl) (Nat.le_of_ble_eq_true rfl) (fun q2 => ?_)
  refine K.putF (ci := 5) (k := 3) (T := TX5) (M := 13) dX5_init_27 rfl klX5_22 (by decide) rfl rfl rfl rfl (Nat.le_of_ble_eq_true rfl) ?_
  refine K.aload_n dX5_init_30 rfl ?_
  refine K.bipush (v := 9) (by decide) dX5_init_31 ?_
  refine K.newI (M := 9) (cells' := 3) (slots' := 27) dX5_init_33 ar_int (by decide) (by decide) (by decide) rfl rfl (Nat.le_of_ble_eq_true rfl) (Nat.le_of_ble_eq_true rfl) (fun q3 => ?_)
  refine K.putF (ci := 5) (k := 4) (T := TX5) (M := 13) dX5_init_35 rfl klX5_25 (by decide) rfl rfl rfl rfl (Nat.le_of_ble_eq_true rfl) ?_
  refine K.aload_n dX5_init_38 rfl ?_
  refine K.iconst (v := 0) (by decide) dX5_init_39 ?_
  refine K.put (ci := 5) (k := 5) (T := TX5) (M := 13) dX5_init_40 rfl klX5_28 (by decide) rfl rfl rfl (Nat.le_of_ble_eq_true rfl) ?_
  refine K.aload_n dX5_init_43 rfl ?_
  refine K.iconst (v := (-1)) (by decide) dX5_init_44 ?_
  refine K.put (ci := 5) (k := 6) (T := TX5) (M := 13) dX5_init_45 rfl klX5_31 (by decide) rfl rfl rfl (Nat.le_of_ble_eq_true rfl) ?_
  refine K.aload_n dX5_init_48 rfl ?_
  refine K.bipush (v := 8) (by decide) dX5_init_49 ?_
  refine K.newI (M := 8) (cells' := 4) (slots' := 35) dX5_init_51 ar_int (by decide) (by decide) (by decide) rfl rfl (Nat.le_of_ble_eq_true rfl) (Nat.le_of_ble_eq_true rfl) (fun q4 => ?_)
  refine K.putF (ci := 5) (k := 7) (T := TX5) (M := 13) dX5_init_53 rfl klX5_34 (by decide) rfl rfl rfl rfl (Nat.le_of_ble_eq_true rfl) ?_
  refine K.aload_n dX5_init_56 rfl ?_
  refine K.bipush (v := 8) (by decide) dX5_init_57 ?_
  refine K.newI (M := 8) (cells' := 5) (slots' := 43) dX5_init_59 ar_int (by decide) (by decide) (by decide) rfl rfl (Nat.le_of_ble_eq_true rfl) (Nat.le_of_ble_eq_true rfl) (fun q5 => ?_)
  refine K.putF (ci := 5) (k := 8) (T := TX5) (M := 13) dX5_init_61 rfl klX5_37 (by decide) rfl rfl rfl rfl (Nat.le_of_ble_eq_true rfl) ?_
  refine K.aload_n dX5_init_64 rfl ?_
  refine K.bipush (v := 8) (by decide) dX5_init_65 ?_
  refine K.newI (M := 8) (cells' := 6) (slots' := 51) dX5_init_67 ar_int (by decide) (by decide) (by decide) rfl rfl (Nat.le_of_ble_eq_true rfl) (Nat.le_of_ble_eq_true rfl) (fun q6 => ?_)
  refine K.putF (ci := 5) (k := 9) (T := TX5) (M := 13) dX5_init_69 rfl klX5_40 (by decide) rfl rfl rfl rfl (Nat.le_of_ble_eq_true rfl) ?_
  refine K.aload_n dX5_init_72 rfl ?_
  refine K.bipush (v := 24) (by decide) dX5_init_73 ?_
  refine K.newI (M := 24) (cells' := 7) (slots' := 75) dX5_init_75 ar_int (by decide) (by decide) (by decide) rfl rfl (Nat.le_of_ble_eq_true rfl) (Nat.le_of_ble_eq_true rfl) (fun q7 => ?_)
  refine K.putF (ci := 5) (k := 10) (T := TX5) (M := 13) dX5_init_77 rfl klX5_43 (by decide) rfl rfl rfl rfl (Nat.le_of_ble_eq_true rfl) ?_
  refine K.aload_n dX5_init_80 rfl ?_
  refine K.iconst (v := 3) (by decide) dX5_init_81 ?_
  refine K.put (ci := 5) (k := 11) (T := TX5) (M := 13) dX5_init_82 rfl klX5_46 (by decide) rfl rfl rfl (Nat.le_of_ble_eq_true rfl) ?_
  refine K.aload_n dX5_init_85 rfl ?_
  refine K.iconst (v := 4) (by decide) dX5_init_86 ?_
  refine K.put (ci := 5) (k := 12) (T := TX5) (M := 13) dX5_init_87 rfl klX5_49 (by decide) rfl rfl rfl (Nat.le_of_ble_eq_true rfl) ?_
  exact K.vret dX5_init_90 rfl rfl rfl ⟨q1, q2, q3, q4, q5, q6, q7, rfl⟩
theorem kX6 {D : va_G} {cI cZ : ClassId} {h0 : Nat} {t : Nat} : K mX6_init D cI cZ (fun w => ∃ q1 : Nat, ∃ q2 : Nat, ∃ q3 : Nat, ∃ q4 : Nat, ∃ q5 : Nat, ∃ q6 : Nat, ∃ q7 : Nat, ∃ q8 : Nat, ∃ q9 : Nat, ∃ q10 : Nat, ∃ q11 : Nat, w = [(h0, .inr (6, [.ref t, .int 0, .int 0, .ref q1, .ref q2, .ref q3, .ref q4, .ref q5, .ref q6, .ref q7, .ref q8, .ref q9, .ref q10, .ref q11, .int 0, .int 0, .int (-1), .int (-1)])), (q1, .inl (cI, 8, .inl (fun _ => 0))), (q2, .inl (cI, 8, .inl (fun _ => 0))), (q3, .inl (cI, 8, .inl (fun _ => 0))), (q4, .inl (cI, 8, .inl (fun _ => 0))), (q5, .inl (cI, 8, .inl (fun _ => 0))), (q6, .inl (cI, 168, .inl (fun _ => 0))), (q7, .inl (cI, 8, .inl (fun _ => 0))), (q8, .inl (cI, 8, .inl (fun _ => 0))), (q9, .inl (cI, 9, .inl (fun _ => 0))), (q10, .inl (cI, 9, .inl (fun _ => 0))), (q11, .inl (cI, 9, .inl (fun _ => 0)))]) 1 11 251 0 (vEn [.ref h0, .ref t] 2) [] [(h0, .inr (6, [.null, .int 0, .int 0, .null, .null, .null, .null, .null, .null, .null, .null, .null, .null, .null, .int 0, .int 0, .int 0, .int 0]))] 0 0 := by
  refine K.aload_n dX6_init_0 rfl ?_
  refine K.objInit dX6_init_1 oi_X6 oi_ins oi_code (by decide) (by decide) ?_
  refine K.aload_n dX6_init_4 rfl ?_
  refine K.iconst (v := 0) (by decide) dX6_init_5 ?_
  refine K.put (ci := 6) (k := 1) (T := TX6) (M := 18) dX6_init_6 rfl klX6_9 (by decide) rfl rfl rfl (Nat.le_of_ble_eq_true rfl) ?_
  refine K.aload_n dX6_init_9 rfl ?_
  refine K.iconst (v := 0) (by decide) dX6_init_10 ?_
  refine K.put (ci := 6) (k := 2) (T := TX6) (M := 18) dX6_init_11 rfl klX6_15 (by decide) rfl rfl rfl (Nat.le_of_ble_eq_true rfl) ?_
  refine K.aload_n dX6_init_14 rfl ?_
  refine K.bipush (v := 8) (by decide) dX6_init_15 ?_
  refine K.newI (M := 8) (cells' := 1) (slots' := 8) dX6_init_17 ar_int (by decide) (by decide) (by decide) rfl rfl (Nat.le_of_ble_eq_true rfl) (Nat.le_of_ble_eq_true rfl) (fun q1 => ?_)
  refine K.putF (ci := 6) (k := 3) (T := TX6) (M := 18) dX6_init_19 rfl klX6_18 (by decide) rfl rfl rfl rfl (Nat.le_of_ble_eq_true rfl) ?_
  refine K.aload_n dX6_init_22 rfl ?_
  refine K.bipush (v := 8) (by decide) dX6_init_23 ?_
  refine K.newI (M := 8) (cells' := 2) (slots' := 16) dX6_init_25 ar_int (by decide) (by decide) (by decide) rfl rfl (Nat.le_of_ble_eq_true rfl) (Nat.le_of_ble_eq_true rfl) (fun q2 => ?_)
  refine K.putF (ci := 6) (k := 4) (T := TX6) (M := 18) dX6_init_27 rfl klX6_22 (by decide) rfl rfl rfl rfl (Nat.le_of_ble_eq_true rfl) ?_
  refine K.aload_n dX6_init_30 rfl ?_
  refine K.bipush (v := 8) (by decide) dX6_init_31 ?_
  refine K.newI (M := 8) (cells' := 3) (slots' := 24) dX6_init_33 ar_int (by decide) (by decide) (by decide) rfl rfl (Nat.le_of_ble_eq_true rfl) (Nat.le_of_ble_eq_true rfl) (fun q3 => ?_)
  refine K.putF (ci := 6) (k := 5) (T := TX6) (M := 18) dX6_init_35 rfl klX6_25 (by decide) rfl rfl rfl rfl (Nat.le_of_ble_eq_true rfl) ?_
  refine K.aload_n dX6_init_38 rfl ?_
  refine K.bipush (v := 8) (by decide) dX6_init_39 ?_
  refine K.newI (M := 8) (cells' := 4) (slots' := 32) dX6_init_41 ar_int (by decide) (by decide) (by decide) rfl rfl (Nat.le_of_ble_eq_true rfl) (Nat.le_of_ble_eq_true rfl) (fun q4 => ?_)
  refine K.putF (ci := 6) (k := 6) (T := TX6) (M := 18) dX6_init_43 rfl klX6_28 (by decide) rfl rfl rfl rfl (Nat.le_of_ble_eq_true rfl) ?_
  refine K.aload_n dX6_init_46 rfl ?_
  refine K.bipush (v := 8) (by decide) dX6_init_47 ?_
  refine K.newI (M := 8) (cells' := 5) (slots' := 40) dX6_init_49 ar_int (by decide) (by decide) (by decide) rfl rfl (Nat.le_of_ble_eq_true rfl) (Nat.le_of_ble_eq_true rfl) (fun q5 => ?_)
  refine K.putF (ci := 6) (k := 7) (T := TX6) (M := 18) dX6_init_51 rfl klX6_31 (by decide) rfl rfl rfl rfl (Nat.le_of_ble_eq_true rfl) ?_
  refine K.aload_n dX6_init_54 rfl ?_
  refine K.sipush (v := 168) (by decide) dX6_init_55 ?_
  refine K.newI (M := 168) (cells' := 6) (slots' := 208) dX6_init_58 ar_int (by decide) (by decide) (by decide) rfl rfl (Nat.le_of_ble_eq_true rfl) (Nat.le_of_ble_eq_true rfl) (fun q6 => ?_)
  refine K.putF (ci := 6) (k := 8) (T := TX6) (M := 18) dX6_init_60 rfl klX6_34 (by decide) rfl rfl rfl rfl (Nat.le_of_ble_eq_true rfl) ?_
  refine K.aload_n dX6_init_63 rfl ?_
  refine K.bipush (v := 8) (by decide) dX6_init_64 ?_
  refine K.newI (M := 8) (cells' := 7) (slots' := 216) dX6_init_66 ar_int (by decide) (by decide) (by decide) rfl rfl (Nat.le_of_ble_eq_true rfl) (Nat.le_of_ble_eq_true rfl) (fun q7 => ?_)
  refine K.putF (ci := 6) (k := 9) (T := TX6) (M := 18) dX6_init_68 rfl klX6_37 (by decide) rfl rfl rfl rfl (Nat.le_of_ble_eq_true rfl) ?_
  refine K.aload_n dX6_init_71 rfl ?_
  refine K.bipush (v := 8) (by decide) dX6_init_72 ?_
  refine K.newI (M := 8) (cells' := 8) (slots' := 224) dX6_init_74 ar_int (by decide) (by decide) (by decide) rfl rfl (Nat.le_of_ble_eq_true rfl) (Nat.le_of_ble_eq_true rfl) (fun q8 => ?_)
  refine K.putF (ci := 6) (k := 10) (T := TX6) (M := 18) dX6_init_76 rfl klX6_40 (by decide) rfl rfl rfl rfl (Nat.le_of_ble_eq_true rfl) ?_
  refine K.aload_n dX6_init_79 rfl ?_
  refine K.bipush (v := 9) (by decide) dX6_init_80 ?_
  refine K.newI (M := 9) (cells' := 9) (slots' := 233) dX6_init_82 ar_int (by decide) (by decide) (by decide) rfl rfl (Nat.le_of_ble_eq_true rfl) (Nat.le_of_ble_eq_true rfl) (fun q9 => ?_)
  refine K.putF (ci := 6) (k := 11) (T := TX6) (M := 18) dX6_init_84 rfl klX6_43 (by decide) rfl rfl rfl rfl (Nat.le_of_ble_eq_true rfl) ?_
  refine K.aload_n dX6_init_87 rfl ?_
  refine K.bipush (v := 9) (by decide) dX6_init_88 ?_
  refine K.newI (M := 9) (cells' := 10) (slots' := 242) dX6_init_90 ar_int (by decide) (by decide) (by decide) rfl rfl (Nat.le_of_ble_eq_true rfl) (Nat.le_of_ble_eq_true rfl) (fun q10 => ?_)
  refine K.putF (ci := 6) (k := 12) (T := TX6) (M := 18) dX6_init_92 rfl klX6_46 (by decide) rfl rfl rfl rfl (Nat.le_of_ble_eq_true rfl) ?_
  refine K.aload_n dX6_init_95 rfl ?_
  refine K.bipush (v := 9) (by decide) dX6_init_96 ?_
  refine K.newI (M := 9) (cells' := 11) (slots' := 251) dX6_init_98 ar_int (by decide) (by decide) (by decide) rfl rfl (Nat.le_of_ble_eq_true rfl) (Nat.le_of_ble_eq_true rfl) (fun q11 => ?_)
  refine K.putF (ci := 6) (k := 13) (T := TX6) (M := 18) dX6_init_100 rfl klX6_49 (by decide) rfl rfl rfl rfl (Nat.le_of_ble_eq_true rfl) ?_
  refine K.aload_n dX6_init_103 rfl ?_
  refine K.iconst (v := 0) (by decide) dX6_init_104 ?_
  refine K.put (ci := 6) (k := 14) (T := TX6) (M := 18) dX6_init_105 rfl klX6_52 (by decide) rfl rfl rfl (Nat.le_of_ble_eq_true rfl) ?_
  refine K.aload_n dX6_init_108 rfl ?_
  refine K.iconst (v := 0) (by decide) dX6_init_109 ?_
  refine K.put (ci := 6) (k := 15) (T := TX6) (M := 18) dX6_init_110 rfl klX6_56 (by decide) rfl rfl rfl (Nat.le_of_ble_eq_true rfl) ?_
  refine K.aload_n dX6_init_113 rfl ?_
  refine K.iconst (v := (-1)) (by decide) dX6_init_114 ?_
  refine K.put (ci := 6) (k := 16) (T := TX6) (M := 18) dX6_init_115 rfl klX6_59 (by decide) rfl rfl rfl (Nat.le_of_ble_eq_true rfl) ?_
  refine K.aload_n dX6_init_118 rfl ?_
  refine K.iconst (v := (-1)) (by decide) dX6_init_119 ?_
  refine K.put (ci := 6) (k := 17) (T := TX6) (M := 18) dX6_init_120 rfl klX6_62 (by decide) rfl rfl rfl (Nat.le_of_ble_eq_true rfl) ?_
  refine K.aload_n dX6_init_123 rfl ?_
  refine K.aload_n dX6_init_124 rfl ?_
  refine K.putF (ci := 6) (k := 0) (T := TX6) (M := 18) dX6_init_125 rfl klX6_65 (by decide) rfl rfl rfl rfl (Nat.le_of_ble_eq_true rfl) ?_
  exact K.vret dX6_init_128 rfl rfl rfl ⟨q1, q2, q3, q4, q5, q6, q7, q8, q9, q10, q11, rfl⟩
