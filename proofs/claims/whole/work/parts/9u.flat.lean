abbrev oAx0 : va_E := .inr (0, [.int 0, .int 0, .int 0, .int 0, .int 0, .null, .null])
abbrev wAx (cy : Nat → ClassId) (h0 : Nat) (u : Nat → Nat) : va_W := [((u 1), .inl (cy 1, 8, .inl (fun _ => 0))), ((u 0), .inl (cy 1, 8, .inl (fun _ => 0))), (h0, .inr (0, [.int 0, .int 0, .int 0, .int 0, .int 0, .ref (u 0), .ref (u 1)]))]
set_option maxHeartbeats 4000000 in
set_option maxRecDepth 20000 in
theorem cAx (l : Launch) (D : va_G) (cy : Nat → ClassId) : cMet l D cy yX0_init cX0_init 1 1 12 2 16 oAx0 (wAx cy) := by
  refine cMet_of (by decide) rfl (by decide) ?_
  intro g h0 _ E Z _
  refine x_aload_n (E.X _ _) (x := h0) 0 dX0_init_0 rfl ?_
  refine c_obj E t1_170 (by decide) (by decide) dX0_init_1 ?_
  refine x_aload_n (E.X _ _) (x := h0) 0 dX0_init_4 rfl ?_
  refine x_bipush (E.X _ _) (v := 8) dX0_init_5 (by decide) ?_
  refine c_newa E (atype := .int) (ty := .int) t1_51 rfl (t0 := 1) (cT := cy 1) rfl (n := 8) (N := 8) (a0 := (8, .inl (fun _ => 0))) (fun _ => rfl) (by decide) (by decide) (Nat.le_of_ble_eq_true rfl) (Nat.le_of_ble_eq_true rfl) (Nat.le_of_ble_eq_true rfl) dX0_init_7 (fun q0 => ?_)
  refine c_putF E inX0 tyX0_ok nmX0 (ci := 0) rfl 1 (h0 := h0) (v := q0) rfl 5 (by decide) t1_180 rfl rfl (tyX0_ok 5 (by decide)) rfl rfl (Nat.le_of_ble_eq_true rfl) (ws' := [(q0, .inl (cy 1, 8, .inl (fun _ => 0))), (h0, .inr (0, [.int 0, .int 0, .int 0, .int 0, .int 0, .ref q0, .null]))]) rfl dX0_init_9 ?_
  refine x_aload_n (E.X _ _) (x := h0) 0 dX0_init_12 rfl ?_
  refine x_bipush (E.X _ _) (v := 8) dX0_init_13 (by decide) ?_
  refine c_newa E (atype := .int) (ty := .int) t1_51 rfl (t0 := 1) (cT := cy 1) rfl (n := 8) (N := 8) (a0 := (8, .inl (fun _ => 0))) (fun _ => rfl) (by decide) (by decide) (Nat.le_of_ble_eq_true rfl) (Nat.le_of_ble_eq_true rfl) (Nat.le_of_ble_eq_true rfl) dX0_init_15 (fun q1 => ?_)
  refine c_putF E inX0 tyX0_ok nmX0 (ci := 0) rfl 2 (h0 := h0) (v := q1) rfl 6 (by decide) t1_181 rfl rfl (tyX0_ok 6 (by decide)) rfl rfl (Nat.le_of_ble_eq_true rfl) (ws' := [(q1, .inl (cy 1, 8, .inl (fun _ => 0))), (q0, .inl (cy 1, 8, .inl (fun _ => 0))), (h0, .inr (0, [.int 0, .int 0, .int 0, .int 0, .int 0, .ref q0, .ref q1]))]) rfl dX0_init_17 ?_
  exact c_vret E Z dX0_init_20 (fun k => [q0, q1].getD k 0) (fun _ h => h) (fun _ h => h)
abbrev oOu0 : va_E := .inr (4, [.int 0, .int 0, .null, .null, .null])
abbrev wOu (cy : Nat → ClassId) (h0 : Nat) (u : Nat → Nat) : va_W := [((u 2), .inl (cy 1, 96, .inl (fun _ => 0))), ((u 1), .inl (cy 2, 96, .inr (.inl (fun _ => 0)))), ((u 0), .inl (cy 2, 96, .inr (.inl (fun _ => 0)))), (h0, .inr (4, [.int 0, .int 0, .ref (u 0), .ref (u 1), .ref (u 2)]))]
set_option maxHeartbeats 4000000 in
set_option maxRecDepth 20000 in
theorem cOu (l : Launch) (D : va_G) (cy : Nat → ClassId) : cMet l D cy yX4_init cX4_init 1 1 12 3 288 oOu0 (wOu cy) := by
  refine cMet_of (by decide) rfl (by decide) ?_
  intro g h0 _ E Z _
  refine x_aload_n (E.X _ _) (x := h0) 0 dX4_init_0 rfl ?_
  refine c_obj E t1_29 (by decide) (by decide) dX4_init_1 ?_
  refine x_aload_n (E.X _ _) (x := h0) 0 dX4_init_4 rfl ?_
  refine x_bipush (E.X _ _) (v := 96) dX4_init_5 (by decide) ?_
  refine c_newa E (atype := .long) (ty := .long) t1_52 rfl (t0 := 2) (cT := cy 2) rfl (n := 96) (N := 96) (a0 := (96, .inr (.inl (fun _ => 0)))) (fun _ => rfl) (by decide) (by decide) (Nat.le_of_ble_eq_true rfl) (Nat.le_of_ble_eq_true rfl) (Nat.le_of_ble_eq_true rfl) dX4_init_7 (fun q0 => ?_)
  refine c_putF E inX4 tyX4_ok nmX4 (ci := 4) rfl 1 (h0 := h0) (v := q0) rfl 2 (by decide) t1_34 rfl rfl (tyX4_ok 2 (by decide)) rfl rfl (Nat.le_of_ble_eq_true rfl) (ws' := [(q0, .inl (cy 2, 96, .inr (.inl (fun _ => 0)))), (h0, .inr (4, [.int 0, .int 0, .ref q0, .null, .null]))]) rfl dX4_init_9 ?_
  refine x_aload_n (E.X _ _) (x := h0) 0 dX4_init_12 rfl ?_
  refine x_bipush (E.X _ _) (v := 96) dX4_init_13 (by decide) ?_
  refine c_newa E (atype := .long) (ty := .long) t1_52 rfl (t0 := 2) (cT := cy 2) rfl (n := 96) (N := 96) (a0 := (96, .inr (.inl (fun _ => 0)))) (fun _ => rfl) (by decide) (by decide) (Nat.le_of_ble_eq_true rfl) (Nat.le_of_ble_eq_true rfl) (Nat.le_of_ble_eq_true rfl) dX4_init_15 (fun q1 => ?_)
  refine c_putF E inX4 tyX4_ok nmX4 (ci := 4) rfl 2 (h0 := h0) (v := q1) rfl 3 (by decide) t1_36 rfl rfl (tyX4_ok 3 (by decide)) rfl rfl (Nat.le_of_ble_eq_true rfl) (ws' := [(q1, .inl (cy 2, 96, .inr (.inl (fun _ => 0)))), (q0, .inl (cy 2, 96, .inr (.inl (fun _ => 0)))), (h0, .inr (4, [.int 0, .int 0, .ref q0, .ref q1, .null]))]) rfl dX4_init_17 ?_
  refine x_aload_n (E.X _ _) (x := h0) 0 dX4_init_20 rfl ?_
  refine x_bipush (E.X _ _) (v := 96) dX4_init_21 (by decide) ?_
  refine c_newa E (atype := .int) (ty := .int) t1_51 rfl (t0 := 1) (cT := cy 1) rfl (n := 96) (N := 96) (a0 := (96, .inl (fun _ => 0))) (fun _ => rfl) (by decide) (by decide) (Nat.le_of_ble_eq_true rfl) (Nat.le_of_ble_eq_true rfl) (Nat.le_of_ble_eq_true rfl) dX4_init_23 (fun q2 => ?_)
  refine c_putF E inX4 tyX4_ok nmX4 (ci := 4) rfl 3 (h0 := h0) (v := q2) rfl 4 (by decide) t1_38 rfl rfl (tyX4_ok 4 (by decide)) rfl rfl (Nat.le_of_ble_eq_true rfl) (ws' := [(q2, .inl (cy 1, 96, .inl (fun _ => 0))), (q1, .inl (cy 2, 96, .inr (.inl (fun _ => 0)))), (q0, .inl (cy 2, 96, .inr (.inl (fun _ => 0)))), (h0, .inr (4, [.int 0, .int 0, .ref q0, .ref q1, .ref q2]))]) rfl dX4_init_25 ?_
  exact c_vret E Z dX4_init_28 (fun k => [q0, q1, q2].getD k 0) (fun _ h => h) (fun _ h => h)
abbrev oTu0 : va_E := .inr (5, [.null, .null, .null, .int 0, .null, .null])
abbrev wTu (cy : Nat → ClassId) (h0 : Nat) (u : Nat → Nat) : va_W := [((u 4), .inl (cy 1, 25, .inl (fun _ => 0))), ((u 3), .inl (cy 1, 25, .inl (fun _ => 0))), ((u 2), .inl (cy 1, 4, .inl (fun _ => 0))), ((u 1), .inl (cy 1, 4, .inl (fun _ => 0))), ((u 0), .inl (cy 1, 4, .inl (fun _ => 0))), (h0, .inr (5, [.ref (u 0), .ref (u 1), .ref (u 2), .int 0, .ref (u 3), .ref (u 4)]))]
set_option maxHeartbeats 4000000 in
set_option maxRecDepth 20000 in
theorem cTu (l : Launch) (D : va_G) (cy : Nat → ClassId) : cMet l D cy yX5_init cX5_init 1 1 12 5 62 oTu0 (wTu cy) := by
  refine cMet_of (by decide) rfl (by decide) ?_
  intro g h0 _ E Z _
  refine x_aload_n (E.X _ _) (x := h0) 0 dX5_init_0 rfl ?_
  refine c_obj E t1_71 (by decide) (by decide) dX5_init_1 ?_
  refine x_aload_n (E.X _ _) (x := h0) 0 dX5_init_4 rfl ?_
  refine x_iconst (E.X _ _) (v := 4) dX5_init_5 (by decide) ?_
  refine c_newa E (atype := .int) (ty := .int) t1_51 rfl (t0 := 1) (cT := cy 1) rfl (n := 4) (N := 4) (a0 := (4, .inl (fun _ => 0))) (fun _ => rfl) (by decide) (by decide) (Nat.le_of_ble_eq_true rfl) (Nat.le_of_ble_eq_true rfl) (Nat.le_of_ble_eq_true rfl) dX5_init_6 (fun q0 => ?_)
  refine c_putF E inX5 tyX5_ok nmX5 (ci := 5) rfl 1 (h0 := h0) (v := q0) rfl 0 (by decide) t1_72 rfl rfl (tyX5_ok 0 (by decide)) rfl rfl (Nat.le_of_ble_eq_true rfl) (ws' := [(q0, .inl (cy 1, 4, .inl (fun _ => 0))), (h0, .inr (5, [.ref q0, .null, .null, .int 0, .null, .null]))]) rfl dX5_init_8 ?_
  refine x_aload_n (E.X _ _) (x := h0) 0 dX5_init_11 rfl ?_
  refine x_iconst (E.X _ _) (v := 4) dX5_init_12 (by decide) ?_
  refine c_newa E (atype := .int) (ty := .int) t1_51 rfl (t0 := 1) (cT := cy 1) rfl (n := 4) (N := 4) (a0 := (4, .inl (fun _ => 0))) (fun _ => rfl) (by decide) (by decide) (Nat.le_of_ble_eq_true rfl) (Nat.le_of_ble_eq_true rfl) (Nat.le_of_ble_eq_true rfl) dX5_init_13 (fun q1 => ?_)
  refine c_putF E inX5 tyX5_ok nmX5 (ci := 5) rfl 2 (h0 := h0) (v := q1) rfl 1 (by decide) t1_73 rfl rfl (tyX5_ok 1 (by decide)) rfl rfl (Nat.le_of_ble_eq_true rfl) (ws' := [(q1, .inl (cy 1, 4, .inl (fun _ => 0))), (q0, .inl (cy 1, 4, .inl (fun _ => 0))), (h0, .inr (5, [.ref q0, .ref q1, .null, .int 0, .null, .null]))]) rfl dX5_init_15 ?_
  refine x_aload_n (E.X _ _) (x := h0) 0 dX5_init_18 rfl ?_
  refine x_iconst (E.X _ _) (v := 4) dX5_init_19 (by decide) ?_
  refine c_newa E (atype := .int) (ty := .int) t1_51 rfl (t0 := 1) (cT := cy 1) rfl (n := 4) (N := 4) (a0 := (4, .inl (fun _ => 0))) (fun _ => rfl) (by decide) (by decide) (Nat.le_of_ble_eq_true rfl) (Nat.le_of_ble_eq_true rfl) (Nat.le_of_ble_eq_true rfl) dX5_init_20 (fun q2 => ?_)
  refine c_putF E inX5 tyX5_ok nmX5 (ci := 5) rfl 3 (h0 := h0) (v := q2) rfl 2 (by decide) t1_74 rfl rfl (tyX5_ok 2 (by decide)) rfl rfl (Nat.le_of_ble_eq_true rfl) (ws' := [(q2, .inl (cy 1, 4, .inl (fun _ => 0))), (q1, .inl (cy 1, 4, .inl (fun _ => 0))), (q0, .inl (cy 1, 4, .inl (fun _ => 0))), (h0, .inr (5, [.ref q0, .ref q1, .ref q2, .int 0, .null, .null]))]) rfl dX5_init_22 ?_
  refine x_aload_n (E.X _ _) (x := h0) 0 dX5_init_25 rfl ?_
  refine x_bipush (E.X _ _) (v := 25) dX5_init_26 (by decide) ?_
  refine c_newa E (atype := .int) (ty := .int) t1_51 rfl (t0 := 1) (cT := cy 1) rfl (n := 25) (N := 25) (a0 := (25, .inl (fun _ => 0))) (fun _ => rfl) (by decide) (by decide) (Nat.le_of_ble_eq_true rfl) (Nat.le_of_ble_eq_true rfl) (Nat.le_of_ble_eq_true rfl) dX5_init_28 (fun q3 => ?_)
  refine c_putF E inX5 tyX5_ok nmX5 (ci := 5) rfl 4 (h0 := h0) (v := q3) rfl 4 (by decide) t1_78 rfl rfl (tyX5_ok 4 (by decide)) rfl rfl (Nat.le_of_ble_eq_true rfl) (ws' := [(q3, .inl (cy 1, 25, .inl (fun _ => 0))), (q2, .inl (cy 1, 4, .inl (fun _ => 0))), (q1, .inl (cy 1, 4, .inl (fun _ => 0))), (q0, .inl (cy 1, 4, .inl (fun _ => 0))), (h0, .inr (5, [.ref q0, .ref q1, .ref q2, .int 0, .ref q3, .null]))]) rfl dX5_init_30 ?_
  refine x_aload_n (E.X _ _) (x := h0) 0 dX5_init_33 rfl ?_
  refine x_bipush (E.X _ _) (v := 25) dX5_init_34 (by decide) ?_
  refine c_newa E (atype := .int) (ty := .int) t1_51 rfl (t0 := 1) (cT := cy 1) rfl (n := 25) (N := 25) (a0 := (25, .inl (fun _ => 0))) (fun _ => rfl) (by decide) (by decide) (Nat.le_of_ble_eq_true rfl) (Nat.le_of_ble_eq_true rfl) (Nat.le_of_ble_eq_true rfl) dX5_init_36 (fun q4 => ?_)
  refine c_putF E inX5 tyX5_ok nmX5 (ci := 5) rfl 5 (h0 := h0) (v := q4) rfl 5 (by decide) t1_80 rfl rfl (tyX5_ok 5 (by decide)) rfl rfl (Nat.le_of_ble_eq_true rfl) (ws' := [(q4, .inl (cy 1, 25, .inl (fun _ => 0))), (q3, .inl (cy 1, 25, .inl (fun _ => 0))), (q2, .inl (cy 1, 4, .inl (fun _ => 0))), (q1, .inl (cy 1, 4, .inl (fun _ => 0))), (q0, .inl (cy 1, 4, .inl (fun _ => 0))), (h0, .inr (5, [.ref q0, .ref q1, .ref q2, .int 0, .ref q3, .ref q4]))]) rfl dX5_init_38 ?_
  exact c_vret E Z dX5_init_41 (fun k => [q0, q1, q2, q3, q4].getD k 0) (fun _ h => h) (fun _ h => h)
abbrev oTe0 : va_E := .inr (3, [.int 0, .null, .int 0, .null])
abbrev wTe (cy : Nat → ClassId) (h0 : Nat) (u : Nat → Nat) : va_W := [((u 1), .inl (cy 1, 4, .inl (fun _ => 0))), ((u 0), .inl (cy 0, 60, .inl (fun _ => 0))), (h0, .inr (3, [.int 0, .ref (u 0), .int 0, .ref (u 1)]))]
set_option maxHeartbeats 4000000 in
set_option maxRecDepth 20000 in
theorem cTe (l : Launch) (D : va_G) (cy : Nat → ClassId) : cMet l D cy yX3_init cX3_init 1 1 12 2 64 oTe0 (wTe cy) := by
  refine cMet_of (by decide) rfl (by decide) ?_
  intro g h0 _ E Z _
  refine x_aload_n (E.X _ _) (x := h0) 0 dX3_init_0 rfl ?_
  refine c_obj E t1_148 (by decide) (by decide) dX3_init_1 ?_
  refine x_aload_n (E.X _ _) (x := h0) 0 dX3_init_4 rfl ?_
  refine x_bipush (E.X _ _) (v := 60) dX3_init_5 (by decide) ?_
  refine c_newa E (atype := .char) (ty := .char) t1_165 rfl (t0 := 0) (cT := cy 0) rfl (n := 60) (N := 60) (a0 := (60, .inl (fun _ => 0))) (fun _ => rfl) (by decide) (by decide) (Nat.le_of_ble_eq_true rfl) (Nat.le_of_ble_eq_true rfl) (Nat.le_of_ble_eq_true rfl) dX3_init_7 (fun q0 => ?_)
  refine c_putF E inX3 tyX3_ok nmX3 (ci := 3) rfl 1 (h0 := h0) (v := q0) rfl 1 (by decide) t1_151 rfl rfl (tyX3_ok 1 (by decide)) rfl rfl (Nat.le_of_ble_eq_true rfl) (ws' := [(q0, .inl (cy 0, 60, .inl (fun _ => 0))), (h0, .inr (3, [.int 0, .ref q0, .int 0, .null]))]) rfl dX3_init_9 ?_
  refine x_aload_n (E.X _ _) (x := h0) 0 dX3_init_12 rfl ?_
  refine x_iconst (E.X _ _) (v := 4) dX3_init_13 (by decide) ?_
  refine c_newa E (atype := .int) (ty := .int) t1_51 rfl (t0 := 1) (cT := cy 1) rfl (n := 4) (N := 4) (a0 := (4, .inl (fun _ => 0))) (fun _ => rfl) (by decide) (by decide) (Nat.le_of_ble_eq_true rfl) (Nat.le_of_ble_eq_true rfl) (Nat.le_of_ble_eq_true rfl) dX3_init_14 (fun q1 => ?_)
  refine c_putF E inX3 tyX3_ok nmX3 (ci := 3) rfl 2 (h0 := h0) (v := q1) rfl 3 (by decide) t1_154 rfl rfl (tyX3_ok 3 (by decide)) rfl rfl (Nat.le_of_ble_eq_true rfl) (ws' := [(q1, .inl (cy 1, 4, .inl (fun _ => 0))), (q0, .inl (cy 0, 60, .inl (fun _ => 0))), (h0, .inr (3, [.int 0, .ref q0, .int 0, .ref q1]))]) rfl dX3_init_16 ?_
  exact c_vret E Z dX3_init_19 (fun k => [q0, q1].getD k 0) (fun _ h => h) (fun _ h => h)
