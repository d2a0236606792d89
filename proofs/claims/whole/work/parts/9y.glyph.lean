theorem gkN {g : xG} {n : Nat} (h : g.2.2.2.2.2.2.2.2.2.2.2.2.2.1 = n) {a b : Nat} : (gk g a b).2.2.2.2.2.2.2.2.2.2.2.2.2.1 = n := by
  obtain ⟨p, l, e, R, s, m, args, below, meth, c, H0, A, Q, nL, kc, ks⟩ := g
  exact h
theorem pm_app {α : Type} {A l l2 : List α} {x : α} (h : l.Perm (x :: l2)) : (A ++ l).Perm (x :: (A ++ l2)) := (List.Perm.append_left A h).trans List.perm_middle
theorem pm_cons {α : Type} {y : α} {l l2 : List α} {x : α} (h : l.Perm (x :: l2)) : (y :: l).Perm (x :: y :: l2) := (h.cons y).trans (List.Perm.swap ..)
def fU : Nat → (Nat → Nat) → (Nat → Option Nat)
  | 0, _ => fun _ => none
  | n + 1, t => va_up (fU n t) n (some (t n))
set_option maxHeartbeats 4000000 in
set_option maxRecDepth 20000 in
theorem gl_step {g : xG} {D : va_G} {cy : Nat → ClassId} (E : cE g D cy RX1 cX1_init none 2 32 35 425) (hN : g.2.2.2.2.2.2.2.2.2.2.2.2.2.1 = 2) {a b : Nat} (hc : a + 6 ≤ 35) (hs : b + 68 ≤ 425) {i i2 : Int32} {n : Nat} (h1 : ¬ (5 : Int32) ≤ i) (h2 : i + 1 = i2) (h3 : i.toNatClampNeg = n) (h4 : vp_in i 5) {ar h0 : Nat} {f : Nat → Option Nat} {fs : List Value} {ws : va_W} (hf : fs[7]? = some (.ref ar))
    (kk : ∀ (t : Nat) (u : (Nat → Nat)), Wx (gk g (a + 1 + 5) (b + 6 + 62)) (cP g D ((ar, .inl (cy 6, 5, .inr (.inr (.inr (.inr (va_up f n (some t))))))) :: (h0, .inr (1, fs)) :: (wTu cy t u ++ ws))) 45 [(1, .int i2), (0, .ref h0)] []) : Wx (gk g a b) (cP g D ((ar, .inl (cy 6, 5, .inr (.inr (.inr (.inr f))))) :: (h0, .inr (1, fs)) :: ws)) 45 [(1, .int i), (0, .ref h0)] [] := by
  refine x_iload_n (E.X _ _) (x := i) 0 dX1_init_45 rfl ?_
  refine x_iconst (E.X _ _) (v := 5) dX1_init_46 (by decide) ?_
  refine x_icmp_ge (E.X _ _) 69 dX1_init_47 (by decide) (a := (5 : Int32) ≤ i) (b := ¬ (5 : Int32) ≤ i) (by split <;> assumption) (fun h => absurd h h1) (fun _ => ?_)
  refine x_aload_n (E.X _ _) (x := h0) 1 dX1_init_50 rfl ?_
  refine c_get E inX1 (ci := 1) rfl 1 rfl 7 (by decide) t1_109 rfl hf dX1_init_51 ?_
  refine x_iload_n (E.X _ _) (x := i) 0 dX1_init_54 rfl ?_
  refine c_new E t1_65 t1_67 t1_5 inX5 tyX5_ok (ci := 5) rfl (fs := [.null, .null, .null, .int 0, .null, .null]) (by decide +kernel) (by omega) (by omega) dX1_init_55 (fun t => ?_)
  refine x_dup (E.X _ _) dX1_init_58 rfl ?_
  refine c_initN E (host := "FontInstancer") (W1 := wTu cy) (cTu (xL g) D cy) (List.mem_of_getElem? (i := 1) rfl) t1_69 t1_5 t1_70 rfl (by decide +kernel) (Nat.le_of_ble_eq_true rfl) (Nat.le_of_ble_eq_true rfl) (by omega) (by omega) (Nat.le_of_ble_eq_true rfl) dX1_init_59 (fun u => ?_)
  refine c_aast E 6 5 (t0 := 6) (cT := cy 6) (ci := 5) rfl rfl rfl rfl h4 (ws' := wTu cy t u ++ ((ar, .inl (cy 6, 5, .inr (.inr (.inr (.inr (va_up f n (some t))))))) :: (h0, .inr (1, fs)) :: ws)) (by rw [h3]; rfl) dX1_init_62 ?_
  refine cP_sub (ws' := (ar, .inl (cy 6, 5, .inr (.inr (.inr (.inr (va_up f n (some t))))))) :: (h0, .inr (1, fs)) :: (wTu cy t u ++ ws)) (List.perm_middle.trans (List.Perm.cons _ List.perm_middle)) ?_
  refine x_iinc (E.X _ _) (x := i) (v := i2) 0 [(1, .int i2), (0, .ref h0)] dX1_init_63 rfl h2 (by rw [gkN hN]; decide) rfl ?_
  refine x_goto (E.X _ _) 45 dX1_init_66 (by decide) ?_
  exact kk t u
abbrev UG : Type := (Nat → Nat) × (Nat → Nat) × (Nat → Nat → Nat)
abbrev wGl (cy : Nat → ClassId) (h0 : Nat) (u : UG) : va_W := (((u.1 4), .inl (cy 6, 5, .inr (.inr (.inr (.inr (fU 5 u.2.1)))))) :: (h0, .inr (1, [.int 0, .int 0, .ref (u.1 0), .ref (u.1 1), .ref (u.1 2), .ref (u.1 3), .int 0, .ref (u.1 4)])) :: (wTu cy (u.2.1 4) (u.2.2 4) ++ ((wTu cy (u.2.1 3) (u.2.2 3) ++ ((wTu cy (u.2.1 2) (u.2.2 2) ++ ((wTu cy (u.2.1 1) (u.2.2 1) ++ ((wTu cy (u.2.1 0) (u.2.2 0) ++ (((u.1 3), .inl (cy 1, 5, .inl (fun _ => 0))) :: ((u.1 2), .inl (cy 1, 25, .inl (fun _ => 0))) :: ((u.1 1), .inl (cy 1, 25, .inl (fun _ => 0))) :: ((u.1 0), .inl (cy 1, 25, .inl (fun _ => 0))) :: [])))))))))))
set_option maxHeartbeats 4000000 in
set_option maxRecDepth 20000 in
theorem cGl (l : Launch) (D : va_G) (cy : Nat → ClassId) : cMet l D cy yX1_init cX1_init 2 2 32 35 425 (.inr (1, [.int 0, .int 0, .null, .null, .null, .null, .int 0, .null])) (wGl cy) := by
  refine cMet_of (by decide) rfl (by decide) ?_
  intro g h0 _ E Z hN
  refine x_aload_n (E.X _ _) (x := h0) 0 dX1_init_0 rfl ?_
  refine c_obj E t1_64 (by decide) (by decide) dX1_init_1 ?_
  refine x_aload_n (E.X _ _) (x := h0) 0 dX1_init_4 rfl ?_
  refine x_bipush (E.X _ _) (v := 25) dX1_init_5 (by decide) ?_
  refine c_newa E (atype := .int) (ty := .int) t1_51 rfl (t0 := 1) (cT := cy 1) rfl (n := 25) (N := 25) (a0 := (25, .inl (fun _ => 0))) (fun _ => rfl) (by decide) (by decide) (Nat.le_of_ble_eq_true rfl) (Nat.le_of_ble_eq_true rfl) (Nat.le_of_ble_eq_true rfl) dX1_init_7 (fun q0 => ?_)
  refine cP_sub (ws' := (h0, .inr (1, [.int 0, .int 0, .null, .null, .null, .null, .int 0, .null])) :: (q0, .inl (cy 1, 25, .inl (fun _ => 0))) :: []) (pm_cons (List.Perm.refl _)) ?_
  refine c_putF E inX1 tyX1_ok nmX1 (ci := 1) rfl 0 (h0 := h0) (v := q0) rfl 2 (by decide) t1_99 rfl rfl (tyX1_ok 2 (by decide)) rfl rfl (Nat.le_of_ble_eq_true rfl) (ws' := (h0, .inr (1, [.int 0, .int 0, .ref q0, .null, .null, .null, .int 0, .null])) :: (q0, .inl (cy 1, 25, .inl (fun _ => 0))) :: []) rfl dX1_init_9 ?_
  refine x_aload_n (E.X _ _) (x := h0) 0 dX1_init_12 rfl ?_
  refine x_bipush (E.X _ _) (v := 25) dX1_init_13 (by decide) ?_
  refine c_newa E (atype := .int) (ty := .int) t1_51 rfl (t0 := 1) (cT := cy 1) rfl (n := 25) (N := 25) (a0 := (25, .inl (fun _ => 0))) (fun _ => rfl) (by decide) (by decide) (Nat.le_of_ble_eq_true rfl) (Nat.le_of_ble_eq_true rfl) (Nat.le_of_ble_eq_true rfl) dX1_init_15 (fun q1 => ?_)
  refine cP_sub (ws' := (h0, .inr (1, [.int 0, .int 0, .ref q0, .null, .null, .null, .int 0, .null])) :: (q1, .inl (cy 1, 25, .inl (fun _ => 0))) :: (q0, .inl (cy 1, 25, .inl (fun _ => 0))) :: []) (pm_cons (List.Perm.refl _)) ?_
  refine c_putF E inX1 tyX1_ok nmX1 (ci := 1) rfl 0 (h0 := h0) (v := q1) rfl 3 (by decide) t1_101 rfl rfl (tyX1_ok 3 (by decide)) rfl rfl (Nat.le_of_ble_eq_true rfl) (ws' := (h0, .inr (1, [.int 0, .int 0, .ref q0, .ref q1, .null, .null, .int 0, .null])) :: (q1, .inl (cy 1, 25, .inl (fun _ => 0))) :: (q0, .inl (cy 1, 25, .inl (fun _ => 0))) :: []) rfl dX1_init_17 ?_
  refine x_aload_n (E.X _ _) (x := h0) 0 dX1_init_20 rfl ?_
  refine x_bipush (E.X _ _) (v := 25) dX1_init_21 (by decide) ?_
  refine c_newa E (atype := .int) (ty := .int) t1_51 rfl (t0 := 1) (cT := cy 1) rfl (n := 25) (N := 25) (a0 := (25, .inl (fun _ => 0))) (fun _ => rfl) (by decide) (by decide) (Nat.le_of_ble_eq_true rfl) (Nat.le_of_ble_eq_true rfl) (Nat.le_of_ble_eq_true rfl) dX1_init_23 (fun q2 => ?_)
  refine cP_sub (ws' := (h0, .inr (1, [.int 0, .int 0, .ref q0, .ref q1, .null, .null, .int 0, .null])) :: (q2, .inl (cy 1, 25, .inl (fun _ => 0))) :: (q1, .inl (cy 1, 25, .inl (fun _ => 0))) :: (q0, .inl (cy 1, 25, .inl (fun _ => 0))) :: []) (pm_cons (List.Perm.refl _)) ?_
  refine c_putF E inX1 tyX1_ok nmX1 (ci := 1) rfl 0 (h0 := h0) (v := q2) rfl 4 (by decide) t1_103 rfl rfl (tyX1_ok 4 (by decide)) rfl rfl (Nat.le_of_ble_eq_true rfl) (ws' := (h0, .inr (1, [.int 0, .int 0, .ref q0, .ref q1, .ref q2, .null, .int 0, .null])) :: (q2, .inl (cy 1, 25, .inl (fun _ => 0))) :: (q1, .inl (cy 1, 25, .inl (fun _ => 0))) :: (q0, .inl (cy 1, 25, .inl (fun _ => 0))) :: []) rfl dX1_init_25 ?_
  refine x_aload_n (E.X _ _) (x := h0) 0 dX1_init_28 rfl ?_
  refine x_iconst (E.X _ _) (v := 5) dX1_init_29 (by decide) ?_
  refine c_newa E (atype := .int) (ty := .int) t1_51 rfl (t0 := 1) (cT := cy 1) rfl (n := 5) (N := 5) (a0 := (5, .inl (fun _ => 0))) (fun _ => rfl) (by decide) (by decide) (Nat.le_of_ble_eq_true rfl) (Nat.le_of_ble_eq_true rfl) (Nat.le_of_ble_eq_true rfl) dX1_init_30 (fun q3 => ?_)
  refine cP_sub (ws' := (h0, .inr (1, [.int 0, .int 0, .ref q0, .ref q1, .ref q2, .null, .int 0, .null])) :: (q3, .inl (cy 1, 5, .inl (fun _ => 0))) :: (q2, .inl (cy 1, 25, .inl (fun _ => 0))) :: (q1, .inl (cy 1, 25, .inl (fun _ => 0))) :: (q0, .inl (cy 1, 25, .inl (fun _ => 0))) :: []) (pm_cons (List.Perm.refl _)) ?_
  refine c_putF E inX1 tyX1_ok nmX1 (ci := 1) rfl 0 (h0 := h0) (v := q3) rfl 5 (by decide) t1_105 rfl rfl (tyX1_ok 5 (by decide)) rfl rfl (Nat.le_of_ble_eq_true rfl) (ws' := (h0, .inr (1, [.int 0, .int 0, .ref q0, .ref q1, .ref q2, .ref q3, .int 0, .null])) :: (q3, .inl (cy 1, 5, .inl (fun _ => 0))) :: (q2, .inl (cy 1, 25, .inl (fun _ => 0))) :: (q1, .inl (cy 1, 25, .inl (fun _ => 0))) :: (q0, .inl (cy 1, 25, .inl (fun _ => 0))) :: []) rfl dX1_init_32 ?_
  refine x_aload_n (E.X _ _) (x := h0) 0 dX1_init_35 rfl ?_
  refine x_iconst (E.X _ _) (v := 5) dX1_init_36 (by decide) ?_
  refine c_newq E (C := "FontInstancer$Tuple") t1_65 (by decide) (t0 := 6) (cT := cy 6) rfl (n := 5) (N := 5) (by decide) (by decide) (Nat.le_of_ble_eq_true rfl) (Nat.le_of_ble_eq_true rfl) (Nat.le_of_ble_eq_true rfl) dX1_init_37 (fun q4 => ?_)
  refine cP_sub (ws' := (h0, .inr (1, [.int 0, .int 0, .ref q0, .ref q1, .ref q2, .ref q3, .int 0, .null])) :: (q4, .inl (cy 6, 5, .inr (.inr (.inr (.inr (fun _ => none)))))) :: (q3, .inl (cy 1, 5, .inl (fun _ => 0))) :: (q2, .inl (cy 1, 25, .inl (fun _ => 0))) :: (q1, .inl (cy 1, 25, .inl (fun _ => 0))) :: (q0, .inl (cy 1, 25, .inl (fun _ => 0))) :: []) (pm_cons (List.Perm.refl _)) ?_
  refine c_putF E inX1 tyX1_ok nmX1 (ci := 1) rfl 0 (h0 := h0) (v := q4) rfl 7 (by decide) t1_109 rfl rfl (tyX1_ok 7 (by decide)) rfl rfl (Nat.le_of_ble_eq_true rfl) (ws' := (h0, .inr (1, [.int 0, .int 0, .ref q0, .ref q1, .ref q2, .ref q3, .int 0, .ref q4])) :: (q4, .inl (cy 6, 5, .inr (.inr (.inr (.inr (fun _ => none)))))) :: (q3, .inl (cy 1, 5, .inl (fun _ => 0))) :: (q2, .inl (cy 1, 25, .inl (fun _ => 0))) :: (q1, .inl (cy 1, 25, .inl (fun _ => 0))) :: (q0, .inl (cy 1, 25, .inl (fun _ => 0))) :: []) rfl dX1_init_40 ?_
  refine x_iconst (E.X _ _) (v := 0) dX1_init_43 (by decide) ?_
  refine x_istore_n (E.X _ _) [(1, .int 0), (0, .ref h0)] dX1_init_44 (by rw [gkN hN]; decide) rfl ?_
  refine cP_sub (ws' := (q4, .inl (cy 6, 5, .inr (.inr (.inr (.inr (fun _ => none)))))) :: (h0, .inr (1, [.int 0, .int 0, .ref q0, .ref q1, .ref q2, .ref q3, .int 0, .ref q4])) :: (q3, .inl (cy 1, 5, .inl (fun _ => 0))) :: (q2, .inl (cy 1, 25, .inl (fun _ => 0))) :: (q1, .inl (cy 1, 25, .inl (fun _ => 0))) :: (q0, .inl (cy 1, 25, .inl (fun _ => 0))) :: []) (pm_cons (List.Perm.refl _)) ?_
  show Wx _ (cP g D ((q4, .inl (cy 6, 5, .inr (.inr (.inr (.inr (fun _ => none)))))) :: (h0, .inr (1, [.int 0, .int 0, .ref q0, .ref q1, .ref q2, .ref q3, .int 0, .ref q4])) :: (q3, .inl (cy 1, 5, .inl (fun _ => 0))) :: (q2, .inl (cy 1, 25, .inl (fun _ => 0))) :: (q1, .inl (cy 1, 25, .inl (fun _ => 0))) :: (q0, .inl (cy 1, 25, .inl (fun _ => 0))) :: [])) 45 _ _
  refine gl_step E hN (Nat.le_of_ble_eq_true rfl) (Nat.le_of_ble_eq_true rfl) (i := 0) (i2 := 1) (n := 0) (by decide) (by decide) (by decide) (by unfold vp_in; decide) rfl (fun t0 u0 => ?_)
  refine gl_step E hN (Nat.le_of_ble_eq_true rfl) (Nat.le_of_ble_eq_true rfl) (i := 1) (i2 := 2) (n := 1) (by decide) (by decide) (by decide) (by unfold vp_in; decide) rfl (fun t1 u1 => ?_)
  refine gl_step E hN (Nat.le_of_ble_eq_true rfl) (Nat.le_of_ble_eq_true rfl) (i := 2) (i2 := 3) (n := 2) (by decide) (by decide) (by decide) (by unfold vp_in; decide) rfl (fun t2 u2 => ?_)
  refine gl_step E hN (Nat.le_of_ble_eq_true rfl) (Nat.le_of_ble_eq_true rfl) (i := 3) (i2 := 4) (n := 3) (by decide) (by decide) (by decide) (by unfold vp_in; decide) rfl (fun t3 u3 => ?_)
  refine gl_step E hN (Nat.le_of_ble_eq_true rfl) (Nat.le_of_ble_eq_true rfl) (i := 4) (i2 := 5) (n := 4) (by decide) (by decide) (by decide) (by unfold vp_in; decide) rfl (fun t4 u4 => ?_)
  refine x_iload_n (E.X _ _) (x := 5) 0 dX1_init_45 rfl ?_
  refine x_iconst (E.X _ _) (v := 5) dX1_init_46 (by decide) ?_
  refine x_icmp_ge (E.X _ _) 69 dX1_init_47 (by decide) (a := True) (b := False) (by decide) (fun _ => ?_) (fun h => h.elim)
  exact c_vret E Z dX1_init_69 (fun k => [q0, q1, q2, q3, q4].getD k 0, fun k => [t0, t1, t2, t3, t4].getD k 0, fun k => [u0, u1, u2, u3, u4].getD k u0) (fun _ h => h) (fun _ h => h)
