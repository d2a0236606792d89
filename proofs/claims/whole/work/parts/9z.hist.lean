set_option maxHeartbeats 4000000 in
set_option maxRecDepth 20000 in
theorem hi_step {g : xG} {D : va_G} {cy : Nat → ClassId} (E : cE g D cy RX2 cX2_init none 3 53 218 2610) (hN : g.2.2.2.2.2.2.2.2.2.2.2.2.2.1 = 2) {a b : Nat} (hc : a + 36 ≤ 218) (hs : b + 433 ≤ 2610) {i i2 : Int32} {n : Nat} (h1 : ¬ (6 : Int32) ≤ i) (h2 : i + 1 = i2) (h3 : i.toNatClampNeg = n) (h4 : vp_in i 6) {ar h0 : Nat} {f : Nat → Option Nat} {fs : List Value} {ws : va_W} (hf : fs[2]? = some (.ref ar))
    (kk : ∀ (t : Nat) (u : UG), Wx (gk g (a + 1 + 35) (b + 8 + 425)) (cP g D ((ar, .inl (cy 5, 6, .inr (.inr (.inr (.inr (va_up f n (some t))))))) :: (h0, .inr (2, fs)) :: (wGl cy t u ++ ws))) 23 [(1, .int i2), (0, .ref h0)] []) : Wx (gk g a b) (cP g D ((ar, .inl (cy 5, 6, .inr (.inr (.inr (.inr f))))) :: (h0, .inr (2, fs)) :: ws)) 23 [(1, .int i), (0, .ref h0)] [] := by
  refine x_iload_n (E.X _ _) (x := i) 0 dX2_init_23 rfl ?_
  refine x_bipush (E.X _ _) (v := 6) dX2_init_24 (by decide) ?_
  refine x_icmp_ge (E.X _ _) 48 dX2_init_26 (by decide) (a := (6 : Int32) ≤ i) (b := ¬ (6 : Int32) ≤ i) (by split <;> assumption) (fun h => absurd h h1) (fun _ => ?_)
  refine x_aload_n (E.X _ _) (x := h0) 1 dX2_init_29 rfl ?_
  refine c_get E inX2 (ci := 2) rfl 1 rfl 2 (by decide) t1_132 rfl hf dX2_init_30 ?_
  refine x_iload_n (E.X _ _) (x := i) 0 dX2_init_33 rfl ?_
  refine c_new E t1_59 t1_60 t1_4 inX1 tyX1_ok (ci := 1) rfl (fs := [.int 0, .int 0, .null, .null, .null, .null, .int 0, .null]) (by decide +kernel) (by omega) (by omega) dX2_init_34 (fun t => ?_)
  refine x_dup (E.X _ _) dX2_init_37 rfl ?_
  refine c_init E (W1 := wGl cy) (cGl (xL g) D cy) t1_61 t1_62 t1_4 t1_63 rfl (by decide +kernel) (Nat.le_of_ble_eq_true rfl) (Nat.le_of_ble_eq_true rfl) (by omega) (by omega) (Nat.le_of_ble_eq_true rfl) dX2_init_38 (fun u => ?_)
  refine c_aast E 36 1 (t0 := 5) (cT := cy 5) (ci := 1) rfl rfl rfl rfl h4 (ws' := wGl cy t u ++ ((ar, .inl (cy 5, 6, .inr (.inr (.inr (.inr (va_up f n (some t))))))) :: (h0, .inr (2, fs)) :: ws)) (by rw [h3]; rfl) dX2_init_41 ?_
  refine cP_sub (ws' := (ar, .inl (cy 5, 6, .inr (.inr (.inr (.inr (va_up f n (some t))))))) :: (h0, .inr (2, fs)) :: (wGl cy t u ++ ws)) (List.perm_middle.trans (List.Perm.cons _ List.perm_middle)) ?_
  refine x_iinc (E.X _ _) (x := i) (v := i2) 0 [(1, .int i2), (0, .ref h0)] dX2_init_42 rfl h2 (by rw [gkN hN]; decide) rfl ?_
  refine x_goto (E.X _ _) 23 dX2_init_45 (by decide) ?_
  exact kk t u
abbrev UH : Type := (Nat → Nat) × (Nat → Nat) × (Nat → UG)
abbrev wHi (cy : Nat → ClassId) (h0 : Nat) (u : UH) : va_W := (((u.1 1), .inl (cy 5, 6, .inr (.inr (.inr (.inr (fU 6 u.2.1)))))) :: (h0, .inr (2, [.int 0, .ref (u.1 0), .ref (u.1 1)])) :: (wGl cy (u.2.1 5) (u.2.2 5) ++ ((wGl cy (u.2.1 4) (u.2.2 4) ++ ((wGl cy (u.2.1 3) (u.2.2 3) ++ ((wGl cy (u.2.1 2) (u.2.2 2) ++ ((wGl cy (u.2.1 1) (u.2.2 1) ++ ((wGl cy (u.2.1 0) (u.2.2 0) ++ (((u.1 0), .inl (cy 1, 6, .inl (fun _ => 0))) :: [])))))))))))))
set_option maxHeartbeats 4000000 in
set_option maxRecDepth 20000 in
theorem cHi (l : Launch) (D : va_G) (cy : Nat → ClassId) : cMet l D cy yX2_init cX2_init 2 3 53 218 2610 (.inr (2, [.int 0, .null, .null])) (wHi cy) := by
  refine cMet_of (by decide) rfl (by decide) ?_
  intro g h0 _ E Z hN
  refine x_aload_n (E.X _ _) (x := h0) 0 dX2_init_0 rfl ?_
  refine c_obj E t1_58 (by decide) (by decide) dX2_init_1 ?_
  refine x_aload_n (E.X _ _) (x := h0) 0 dX2_init_4 rfl ?_
  refine x_bipush (E.X _ _) (v := 6) dX2_init_5 (by decide) ?_
  refine c_newa E (atype := .int) (ty := .int) t1_51 rfl (t0 := 1) (cT := cy 1) rfl (n := 6) (N := 6) (a0 := (6, .inl (fun _ => 0))) (fun _ => rfl) (by decide) (by decide) (Nat.le_of_ble_eq_true rfl) (Nat.le_of_ble_eq_true rfl) (Nat.le_of_ble_eq_true rfl) dX2_init_7 (fun q0 => ?_)
  refine cP_sub (ws' := (h0, .inr (2, [.int 0, .null, .null])) :: (q0, .inl (cy 1, 6, .inl (fun _ => 0))) :: []) (pm_cons (List.Perm.refl _)) ?_
  refine c_putF E inX2 tyX2_ok nmX2 (ci := 2) rfl 0 (h0 := h0) (v := q0) rfl 1 (by decide) t1_130 rfl rfl (tyX2_ok 1 (by decide)) rfl rfl (Nat.le_of_ble_eq_true rfl) (ws' := (h0, .inr (2, [.int 0, .ref q0, .null])) :: (q0, .inl (cy 1, 6, .inl (fun _ => 0))) :: []) rfl dX2_init_9 ?_
  refine x_aload_n (E.X _ _) (x := h0) 0 dX2_init_12 rfl ?_
  refine x_bipush (E.X _ _) (v := 6) dX2_init_13 (by decide) ?_
  refine c_newq E (C := "FontInstancer$Glyph") t1_59 (by decide) (t0 := 5) (cT := cy 5) rfl (n := 6) (N := 6) (by decide) (by decide) (Nat.le_of_ble_eq_true rfl) (Nat.le_of_ble_eq_true rfl) (Nat.le_of_ble_eq_true rfl) dX2_init_15 (fun q1 => ?_)
  refine cP_sub (ws' := (h0, .inr (2, [.int 0, .ref q0, .null])) :: (q1, .inl (cy 5, 6, .inr (.inr (.inr (.inr (fun _ => none)))))) :: (q0, .inl (cy 1, 6, .inl (fun _ => 0))) :: []) (pm_cons (List.Perm.refl _)) ?_
  refine c_putF E inX2 tyX2_ok nmX2 (ci := 2) rfl 0 (h0 := h0) (v := q1) rfl 2 (by decide) t1_132 rfl rfl (tyX2_ok 2 (by decide)) rfl rfl (Nat.le_of_ble_eq_true rfl) (ws' := (h0, .inr (2, [.int 0, .ref q0, .ref q1])) :: (q1, .inl (cy 5, 6, .inr (.inr (.inr (.inr (fun _ => none)))))) :: (q0, .inl (cy 1, 6, .inl (fun _ => 0))) :: []) rfl dX2_init_18 ?_
  refine x_iconst (E.X _ _) (v := 0) dX2_init_21 (by decide) ?_
  refine x_istore_n (E.X _ _) [(1, .int 0), (0, .ref h0)] dX2_init_22 (by rw [gkN hN]; decide) rfl ?_
  refine cP_sub (ws' := (q1, .inl (cy 5, 6, .inr (.inr (.inr (.inr (fun _ => none)))))) :: (h0, .inr (2, [.int 0, .ref q0, .ref q1])) :: (q0, .inl (cy 1, 6, .inl (fun _ => 0))) :: []) (pm_cons (List.Perm.refl _)) ?_
  show Wx _ (cP g D ((q1, .inl (cy 5, 6, .inr (.inr (.inr (.inr (fun _ => none)))))) :: (h0, .inr (2, [.int 0, .ref q0, .ref q1])) :: (q0, .inl (cy 1, 6, .inl (fun _ => 0))) :: [])) 23 _ _
  refine hi_step E hN (Nat.le_of_ble_eq_true rfl) (Nat.le_of_ble_eq_true rfl) (i := 0) (i2 := 1) (n := 0) (by decide) (by decide) (by decide) (by unfold vp_in; decide) rfl (fun t0 u0 => ?_)
  refine hi_step E hN (Nat.le_of_ble_eq_true rfl) (Nat.le_of_ble_eq_true rfl) (i := 1) (i2 := 2) (n := 1) (by decide) (by decide) (by decide) (by unfold vp_in; decide) rfl (fun t1 u1 => ?_)
  refine hi_step E hN (Nat.le_of_ble_eq_true rfl) (Nat.le_of_ble_eq_true rfl) (i := 2) (i2 := 3) (n := 2) (by decide) (by decide) (by decide) (by unfold vp_in; decide) rfl (fun t2 u2 => ?_)
  refine hi_step E hN (Nat.le_of_ble_eq_true rfl) (Nat.le_of_ble_eq_true rfl) (i := 3) (i2 := 4) (n := 3) (by decide) (by decide) (by decide) (by unfold vp_in; decide) rfl (fun t3 u3 => ?_)
  refine hi_step E hN (Nat.le_of_ble_eq_true rfl) (Nat.le_of_ble_eq_true rfl) (i := 4) (i2 := 5) (n := 4) (by decide) (by decide) (by decide) (by unfold vp_in; decide) rfl (fun t4 u4 => ?_)
  refine hi_step E hN (Nat.le_of_ble_eq_true rfl) (Nat.le_of_ble_eq_true rfl) (i := 5) (i2 := 6) (n := 5) (by decide) (by decide) (by decide) (by unfold vp_in; decide) rfl (fun t5 u5 => ?_)
  refine x_iload_n (E.X _ _) (x := 6) 0 dX2_init_23 rfl ?_
  refine x_bipush (E.X _ _) (v := 6) dX2_init_24 (by decide) ?_
  refine x_icmp_ge (E.X _ _) 48 dX2_init_26 (by decide) (a := True) (b := False) (by decide) (fun _ => ?_) (fun h => h.elim)
  exact c_vret E Z dX2_init_48 (fun k => [q0, q1].getD k 0, fun k => [t0, t1, t2, t3, t4, t5].getD k 0, fun k => [u0, u1, u2, u3, u4, u5].getD k u0) (fun _ h => h) (fun _ h => h)
