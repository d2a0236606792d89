set_option maxHeartbeats 2000000 in
set_option maxRecDepth 20000 in
theorem w_X1_pruneTuples_34 {g : xG} {D : va_G} {cy : Nat → ClassId} {ad : Nat → Nat → Nat} {a0 : Nat} {K12 : xS → Int32 → Int32 → Prop} {Q : Int32 → xS → Prop} (V : xEnv g D (xTys cy) (shC cy) ad RX1 cX1_pruneTuples (some .int) 5 125 3 (xQi Q)) (ha0 : a0 < 12) (hK12 : ∀ (S : xS) (v1 : Int32) (v2 : Int32), K12 S v1 v2 → Wx g (xW D (shC cy) ad S) 12 [(0, .ref (ad 1 a0)), (1, .int v1), (2, .int v2)] []) (S : xS) (v1 : Int32) (v2 : Int32) (h : wp_X1_pruneTuples_34 a0 K12 Q S v1 v2) : Wx g (xW D (shC cy) ad S) 34 [(0, .ref (ad 1 a0)), (1, .int v1), (2, .int v2)] [] := by
  obtain ⟨X, K, hi, hA, hR, E, hN⟩ := V
  have V := xEnv_mk X K hi hA hR E hN
  unfold wp_X1_pruneTuples_34 at h
  refine x_iinc X 2 [(2, .int (v2 + (-1 : Int32))), (0, .ref (ad 1 a0)), (1, .int v1)] dX1_pruneTuples_34 rfl rfl (by rw [hN]; decide) rfl ?_
  refine x_goto X 12 dX1_pruneTuples_37 (by decide) ?_
  refine x_sub [1, 2, 0] rfl ?_
  exact hK12 S v1 (v2 + (-1 : Int32)) h
set_option maxHeartbeats 2000000 in
set_option maxRecDepth 20000 in
theorem w_X1_pruneTuples_12_b {g : xG} {D : va_G} {cy : Nat → ClassId} {ad : Nat → Nat → Nat} {a0 : Nat} {K12 : xS → Int32 → Int32 → Prop} {Q : Int32 → xS → Prop} (V : xEnv g D (xTys cy) (shC cy) ad RX1 cX1_pruneTuples (some .int) 5 125 3 (xQi Q)) (ha0 : a0 < 12) (hK12 : ∀ (S : xS) (v1 : Int32) (v2 : Int32), K12 S v1 v2 → Wx g (xW D (shC cy) ad S) 12 [(0, .ref (ad 1 a0)), (1, .int v1), (2, .int v2)] []) (S : xS) (v1 : Int32) (v2 : Int32) (h : wp_X1_pruneTuples_12_b a0 K12 Q S v1 v2) : Wx g (xW D (shC cy) ad S) 12 [(0, .ref (ad 1 a0)), (1, .int v1), (2, .int v2)] [] := by
  obtain ⟨X, K, hi, hA, hR, E, hN⟩ := V
  have V := xEnv_mk X K hi hA hR E hN
  unfold wp_X1_pruneTuples_12_b at h
  refine x_iload_n X 2 dX1_pruneTuples_12 rfl ?_
  refine x_if_lt X 40 dX1_pruneTuples_13 (by decide) h (fun h => ?_) (fun h => ?_)
  · refine x_iload_n X 1 dX1_pruneTuples_40 rfl ?_
    refine x_aload_n X 0 dX1_pruneTuples_41 rfl ?_
    refine xg_X1_45 X K ha0 dX1_pruneTuples_42 ?_
    refine x_isub X dX1_pruneTuples_45 ?_
    exact x_iret X E dX1_pruneTuples_46 ⟨_, rfl, h⟩
  · refine x_aload_n X 0 dX1_pruneTuples_16 rfl ?_
    refine x_aload_n X 0 dX1_pruneTuples_17 rfl ?_
    refine xg_X1_26 X K ha0 dX1_pruneTuples_18 ?_
    refine x_iload_n X 2 dX1_pruneTuples_21 rfl ?_
    obtain ⟨⟨hb1, hv2⟩, h⟩ := h
    refine xa_C16 X K ha0 hb1 dX1_pruneTuples_22 ?_
    refine x_calli hA (x_runV (n := 1) (sh := shC cy) X K hR (fun _ q => q) (m_X1_movesNothing hi ha0 hv2 h) (kC_1 cy ha0) rfl rfl t3_177 t3_179 tp_22 t1_4 t3_180 ⟨by decide, by decide, by decide +kernel⟩ rfl (by decide) (by decide) rfl (Nat.le_of_ble_eq_true rfl) dX1_pruneTuples_23) (fun r4 S3 h => ?_)
    refine x_if_eq X 34 dX1_pruneTuples_26 (by decide) h (fun h => ?_) (fun h => ?_)
    · refine x_sub [0, 1, 2] rfl ?_
      exact w_X1_pruneTuples_34 V ha0 hK12 S3 v1 v2 h
    · refine x_aload_n X 0 dX1_pruneTuples_29 rfl ?_
      refine x_iload_n X 2 dX1_pruneTuples_30 rfl ?_
      refine x_callv hA (x_runV (n := 1) (sh := shC cy) X K hR (fun _ q => q) (m_X1_removeTuple hi ha0 h) (kC_1 cy ha0) rfl rfl t3_129 t3_131 tp_17 t1_4 t3_132 ⟨by decide, by decide, by decide +kernel⟩ rfl (by decide) (by decide) rfl (Nat.le_of_ble_eq_true rfl) dX1_pruneTuples_31) (fun S5 h => ?_)
      refine x_sub [0, 1, 2] rfl ?_
      exact w_X1_pruneTuples_34 V ha0 hK12 S5 v1 v2 h
set_option maxHeartbeats 2000000 in
set_option maxRecDepth 20000 in
theorem w_X1_pruneTuples_12 {g : xG} {D : va_G} {cy : Nat → ClassId} {ad : Nat → Nat → Nat} {a0 : Nat} {Q : Int32 → xS → Prop} (V : xEnv g D (xTys cy) (shC cy) ad RX1 cX1_pruneTuples (some .int) 5 125 3 (xQi Q)) (ha0 : a0 < 12) (n : Nat) : ∀ (S : xS) (v1 : Int32) (v2 : Int32), wp_X1_pruneTuples_12 a0 Q n S v1 v2 → Wx g (xW D (shC cy) ad S) 12 [(0, .ref (ad 1 a0)), (1, .int v1), (2, .int v2)] [] := by
  induction n with
  | zero => intro S v1 v2 h; exact h.elim
  | succ n ih => intro S v1 v2 h; exact w_X1_pruneTuples_12_b V ha0 (fun S v1 v2 h => ih S v1 v2 h) S v1 v2 h
set_option maxHeartbeats 2000000 in
set_option maxRecDepth 20000 in
theorem w_X1_pruneTuples {g : xG} {D : va_G} {cy : Nat → ClassId} {ad : Nat → Nat → Nat} {a0 : Nat} {S : xS} {Q : Int32 → xS → Prop} (V : xEnv g D (xTys cy) (shC cy) ad RX1 cX1_pruneTuples (some .int) 5 125 3 (xQi Q)) (ha0 : a0 < 12) (h : wp_X1_pruneTuples a0 S Q) : Wx g (xW D (shC cy) ad S) 0 [(0, .ref (ad 1 a0))] [] := by
  obtain ⟨X, K, hi, hA, hR, E, hN⟩ := V
  have V := xEnv_mk X K hi hA hR E hN
  unfold wp_X1_pruneTuples at h
  refine x_aload_n X 0 dX1_pruneTuples_0 rfl ?_
  refine xg_X1_45 X K ha0 dX1_pruneTuples_1 ?_
  refine x_istore_n X [(1, .int (S.1 1 a0 6)), (0, .ref (ad 1 a0))] dX1_pruneTuples_4 (by rw [hN]; decide) rfl ?_
  refine x_aload_n X 1 dX1_pruneTuples_5 rfl ?_
  refine xg_X1_45 X K ha0 dX1_pruneTuples_6 ?_
  refine x_iconst X (v := 1) dX1_pruneTuples_9 (by decide) ?_
  refine x_isub X dX1_pruneTuples_10 ?_
  refine x_istore_n X [(2, .int ((S.1 1 a0 6) - (1 : Int32))), (1, .int (S.1 1 a0 6)), (0, .ref (ad 1 a0))] dX1_pruneTuples_11 (by rw [hN]; decide) rfl ?_
  refine x_sub [2, 1, 0] rfl ?_
  obtain ⟨n1, h⟩ := h
  exact w_X1_pruneTuples_12 V ha0 n1 S (S.1 1 a0 6) ((S.1 1 a0 6) - (1 : Int32)) h
set_option maxHeartbeats 2000000 in
set_option maxRecDepth 20000 in
theorem m_X1_pruneTuples {l : Launch} {D : va_G} {cy : Nat → ClassId} {ad : Nat → Nat → Nat} (hi : xInj (shC cy) ad) {a0 : Nat} {S : xS} {Q : Int32 → xS → Prop} (ha0 : a0 < 12) (h : wp_X1_pruneTuples a0 S Q) : xMet l D (xTys cy) (shC cy) ad yX1_pruneTuples cX1_pruneTuples 3 (some .int) (xRm 5 125) [.ref (ad 1 a0)] S (xQi Q) := xMet_env hi (by decide +kernel) rfl (Nat.le_of_ble_eq_true rfl) (fun g hl V => w_X1_pruneTuples V ha0 h)
set_option maxHeartbeats 2000000 in
set_option maxRecDepth 20000 in
theorem w_X2_forgetOldest_9_b {g : xG} {D : va_G} {cy : Nat → ClassId} {ad : Nat → Nat → Nat} {K9 : xS → Nat → Int32 → Prop} {Q : xS → Prop} (V : xEnv g D (xTys cy) (shC cy) ad RX2 cX2_forgetOldest none 0 0 3 (xQv Q)) (hK9 : ∀ (S : xS) (v1 : Nat) (v2 : Int32), v1 < 12 → K9 S v1 v2 → Wx g (xW D (shC cy) ad S) 9 [(0, .ref (ad 2 0)), (1, .ref (ad 1 v1)), (2, .int v2)] []) (S : xS) (v1 : Nat) (v2 : Int32) (hv1 : v1 < 12) (h : wp_X2_forgetOldest_9_b K9 Q S v1 v2) : Wx g (xW D (shC cy) ad S) 9 [(0, .ref (ad 2 0)), (1, .ref (ad 1 v1)), (2, .int v2)] [] := by
  obtain ⟨X, K, hi, hA, hR, E, hN⟩ := V
  have V := xEnv_mk X K hi hA hR E hN
  unfold wp_X2_forgetOldest_9_b at h
  refine x_iload_n X 2 dX2_forgetOldest_9 rfl ?_
  refine x_iconst X (v := 1) dX2_forgetOldest_10 (by decide) ?_
  refine x_iadd X dX2_forgetOldest_11 ?_
  refine x_bipush X (v := 6) dX2_forgetOldest_12 (by decide) ?_
  refine x_icmp_ge X 51 dX2_forgetOldest_14 (by decide) h (fun h => ?_) (fun h => ?_)
  · refine x_aload_n X 0 dX2_forgetOldest_51 rfl ?_
    refine x_iconst X (v := 5) dX2_forgetOldest_52 (by decide) ?_
    refine xp_X2_22 X K hi hA (Nat.zero_lt_one) dX2_forgetOldest_53 ?_
    refine x_aload_n X 0 dX2_forgetOldest_56 rfl ?_
    refine xg_X2_17 X K (Nat.zero_lt_one) dX2_forgetOldest_57 ?_
    refine x_aload_n X 0 dX2_forgetOldest_60 rfl ?_
    refine xg_X2_22 X K (Nat.zero_lt_one) dX2_forgetOldest_61 ?_
    refine x_aload_n X 1 dX2_forgetOldest_64 rfl ?_
    obtain ⟨hb1, h⟩ := h
    refine xs_C18 X K hi hA (show 0 < 1 by decide) hb1 hv1 dX2_forgetOldest_65 ?_
    exact x_vret X E dX2_forgetOldest_66 ⟨rfl, h⟩
  · refine x_aload_n X 0 dX2_forgetOldest_17 rfl ?_
    refine xg_X2_9 X K (Nat.zero_lt_one) dX2_forgetOldest_18 ?_
    refine x_iload_n X 2 dX2_forgetOldest_21 rfl ?_
    refine x_aload_n X 0 dX2_forgetOldest_22 rfl ?_
    refine xg_X2_9 X K (Nat.zero_lt_one) dX2_forgetOldest_23 ?_
    refine x_iload_n X 2 dX2_forgetOldest_26 rfl ?_
    refine x_iconst X (v := 1) dX2_forgetOldest_27 (by decide) ?_
    refine x_iadd X dX2_forgetOldest_28 ?_
    obtain ⟨hb2, h⟩ := h
    refine xa_C17 X K (show 0 < 1 by decide) hb2 dX2_forgetOldest_29 ?_
    obtain ⟨hb3, h⟩ := h
    refine xs_C17 X K hi hA (show 0 < 1 by decide) hb3 dX2_forgetOldest_30 ?_
    refine x_aload_n X 0 dX2_forgetOldest_31 rfl ?_
    refine xg_X2_17 X K (Nat.zero_lt_one) dX2_forgetOldest_32 ?_
    refine x_iload_n X 2 dX2_forgetOldest_35 rfl ?_
    refine x_aload_n X 0 dX2_forgetOldest_36 rfl ?_
    refine xg_X2_17 X K (Nat.zero_lt_one) dX2_forgetOldest_37 ?_
    refine x_iload_n X 2 dX2_forgetOldest_40 rfl ?_
    refine x_iconst X (v := 1) dX2_forgetOldest_41 (by decide) ?_
    refine x_iadd X dX2_forgetOldest_42 ?_
    obtain ⟨⟨hb4, hv5⟩, h⟩ := h
    refine xa_C18 X K (show 0 < 1 by decide) hb4 dX2_forgetOldest_43 ?_
    obtain ⟨hb6, h⟩ := h
    refine xs_C18 X K hi hA (show 0 < 1 by decide) hb6 hv5 dX2_forgetOldest_44 ?_
    refine x_iinc X 2 [(2, .int (v2 + (1 : Int32))), (0, .ref (ad 2 0)), (1, .ref (ad 1 v1))] dX2_forgetOldest_45 rfl rfl (by rw [hN]; decide) rfl ?_
    refine x_goto X 9 dX2_forgetOldest_48 (by decide) ?_
    refine x_sub [1, 2, 0] rfl ?_
    exact hK9 (xR (xI S 17 0 v2.toNatClampNeg (S.1 17 0 (v2 + (1 : Int32)).toNatClampNeg)) 18 0 v2.toNatClampNeg ((xI S 17 0 v2.toNatClampNeg (S.1 17 0 (v2 + (1 : Int32)).toNatClampNeg)).2.2 18 0 (v2 + (1 : Int32)).toNatClampNeg)) v1 (v2 + (1 : Int32)) hv1 h
set_option maxHeartbeats 2000000 in
set_option maxRecDepth 20000 in
theorem w_X2_forgetOldest_9 {g : xG} {D : va_G} {cy : Nat → ClassId} {ad : Nat → Nat → Nat} {Q : xS → Prop} (V : xEnv g D (xTys cy) (shC cy) ad RX2 cX2_forgetOldest none 0 0 3 (xQv Q)) (n : Nat) : ∀ (S : xS) (v1 : Nat) (v2 : Int32) (hv1 : v1 < 12), wp_X2_forgetOldest_9 Q n S v1 v2 → Wx g (xW D (shC cy) ad S) 9 [(0, .ref (ad 2 0)), (1, .ref (ad 1 v1)), (2, .int v2)] [] := by
  induction n with
  | zero => intro S v1 v2 hv1 h; exact h.elim
  | succ n ih => intro S v1 v2 hv1 h; exact w_X2_forgetOldest_9_b V (fun S v1 v2 hv1 h => ih S v1 v2 hv1 h) S v1 v2 hv1 h
set_option maxHeartbeats 2000000 in
set_option maxRecDepth 20000 in
theorem w_X2_forgetOldest {g : xG} {D : va_G} {cy : Nat → ClassId} {ad : Nat → Nat → Nat} {S : xS} {Q : xS → Prop} (V : xEnv g D (xTys cy) (shC cy) ad RX2 cX2_forgetOldest none 0 0 3 (xQv Q)) (h : wp_X2_forgetOldest S Q) : Wx g (xW D (shC cy) ad S) 0 [(0, .ref (ad 2 0))] [] := by
  obtain ⟨X, K, hi, hA, hR, E, hN⟩ := V
  have V := xEnv_mk X K hi hA hR E hN
  unfold wp_X2_forgetOldest at h
  refine x_aload_n X 0 dX2_forgetOldest_0 rfl ?_
  refine xg_X2_17 X K Nat.zero_lt_one dX2_forgetOldest_1 ?_
  refine x_iconst X (v := 0) dX2_forgetOldest_4 (by decide) ?_
  obtain ⟨⟨hb1, hv2⟩, h⟩ := h
  refine xa_C18 X K (show 0 < 1 by decide) hb1 dX2_forgetOldest_5 ?_
  refine x_astore_n X [(1, .ref (ad 1 (S.2.2 18 0 (0 : Int32).toNatClampNeg))), (0, .ref (ad 2 0))] dX2_forgetOldest_6 (by rw [hN]; decide) rfl ?_
  refine x_iconst X (v := 0) dX2_forgetOldest_7 (by decide) ?_
  refine x_istore_n X [(2, .int (0 : Int32)), (1, .ref (ad 1 (S.2.2 18 0 (0 : Int32).toNatClampNeg))), (0, .ref (ad 2 0))] dX2_forgetOldest_8 (by rw [hN]; decide) rfl ?_
  refine x_sub [2, 1, 0] rfl ?_
  obtain ⟨n3, h⟩ := h
  exact w_X2_forgetOldest_9 V n3 S (S.2.2 18 0 (0 : Int32).toNatClampNeg) (0 : Int32) hv2 h
set_option maxHeartbeats 2000000 in
set_option maxRecDepth 20000 in
theorem m_X2_forgetOldest {l : Launch} {D : va_G} {cy : Nat → ClassId} {ad : Nat → Nat → Nat} (hi : xInj (shC cy) ad) {S : xS} {Q : xS → Prop} (h : wp_X2_forgetOldest S Q) : xMet l D (xTys cy) (shC cy) ad yX2_forgetOldest cX2_forgetOldest 3 none (xRm 0 0) [.ref (ad 2 0)] S (xQv Q) := xMet_env hi (by decide +kernel) rfl (Nat.le_of_ble_eq_true rfl) (fun g hl V => w_X2_forgetOldest V h)
set_option maxHeartbeats 2000000 in
set_option maxRecDepth 20000 in
theorem w_X2_remember_13 {g : xG} {D : va_G} {cy : Nat → ClassId} {ad : Nat → Nat → Nat} {a1 : Int32} {a2 : Nat} {Q : xS → Prop} (V : xEnv g D (xTys cy) (shC cy) ad RX2 cX2_remember none 3 103 3 (xQv Q)) (ha2 : a2 < 12) (S : xS) (h : wp_X2_remember_13 a1 a2 Q S) : Wx g (xW D (shC cy) ad S) 13 [(0, .ref (ad 2 0)), (1, .int a1), (2, .ref (ad 1 a2))] [] := by
  obtain ⟨X, K, hi, hA, hR, E, hN⟩ := V
  have V := xEnv_mk X K hi hA hR E hN
  unfold wp_X2_remember_13 at h
  refine x_aload_n X 0 dX2_remember_13 rfl ?_
  refine xg_X2_9 X K (Nat.zero_lt_one) dX2_remember_14 ?_
  refine x_aload_n X 0 dX2_remember_17 rfl ?_
  refine xg_X2_22 X K (Nat.zero_lt_one) dX2_remember_18 ?_
  refine x_iload_n X 1 dX2_remember_21 rfl ?_
  obtain ⟨hb1, h⟩ := h
  refine xs_C17 X K hi hA (show 0 < 1 by decide) hb1 dX2_remember_22 ?_
  refine x_aload_n X 0 dX2_remember_23 rfl ?_
  refine xg_X2_17 X K (Nat.zero_lt_one) dX2_remember_24 ?_
  refine x_aload_n X 0 dX2_remember_27 rfl ?_
  refine xg_X2_22 X K (Nat.zero_lt_one) dX2_remember_28 ?_
  obtain ⟨⟨hb2, hv3⟩, h⟩ := h
  refine xa_C18 X K (show 0 < 1 by decide) hb2 dX2_remember_31 ?_
  refine x_aload_n X 2 dX2_remember_32 rfl ?_
  refine x_callv hA (x_runV (n := 1) (sh := shC cy) X K hR (fun _ q => q) (m_X1_copyFrom hi hv3 ha2 h) (kC_1 cy hv3) rfl rfl t3_94 t3_95 t3_96 t1_4 t3_97 ⟨by decide, by decide, by decide +kernel⟩ rfl (by decide) (by decide) rfl (Nat.le_of_ble_eq_true rfl) dX2_remember_33) (fun S4 h => ?_)
  refine x_aload_n X 0 dX2_remember_36 rfl ?_
  refine x_dup X dX2_remember_37 rfl ?_
  refine xg_X2_22 X K (Nat.zero_lt_one) dX2_remember_38 ?_
  refine x_iconst X (v := 1) dX2_remember_41 (by decide) ?_
  refine x_iadd X dX2_remember_42 ?_
  refine xp_X2_22 X K hi hA (Nat.zero_lt_one) dX2_remember_43 ?_
  exact x_vret X E dX2_remember_46 ⟨rfl, h⟩
set_option maxHeartbeats 2000000 in
set_option maxRecDepth 20000 in
theorem w_X2_remember {g : xG} {D : va_G} {cy : Nat → ClassId} {ad : Nat → Nat → Nat} {a1 : Int32} {a2 : Nat} {S : xS} {Q : xS → Prop} (V : xEnv g D (xTys cy) (shC cy) ad RX2 cX2_remember none 3 103 3 (xQv Q)) (ha2 : a2 < 12) (h : wp_X2_remember a1 a2 S Q) : Wx g (xW D (shC cy) ad S) 0 [(0, .ref (ad 2 0)), (1, .int a1), (2, .ref (ad 1 a2))] [] := by
  obtain ⟨X, K, hi, hA, hR, E, hN⟩ := V
  have V := xEnv_mk X K hi hA hR E hN
  unfold wp_X2_remember at h
  refine x_aload_n X 0 dX2_remember_0 rfl ?_
  refine xg_X2_22 X K Nat.zero_lt_one dX2_remember_1 ?_
  refine x_bipush X (v := 6) dX2_remember_4 (by decide) ?_
  refine x_icmp_lt X 13 dX2_remember_6 (by decide) h (fun h => ?_) (fun h => ?_)
  · refine x_sub [0, 1, 2] rfl ?_
    exact w_X2_remember_13 V ha2 S h
  · refine x_aload_n X 0 dX2_remember_9 rfl ?_
    refine x_callv hA (x_runV (n := 0) (sh := shC cy) X K hR (fun _ q => q) (m_X2_forgetOldest hi  h) (kC_2 cy Nat.zero_lt_one) rfl rfl t3_90 t3_92 tp_13 t1_3 t3_93 ⟨by decide, by decide, by decide +kernel⟩ rfl (by decide) (by decide) rfl (Nat.le_of_ble_eq_true rfl) dX2_remember_10) (fun S1 h => ?_)
    refine x_sub [0, 1, 2] rfl ?_
    exact w_X2_remember_13 V ha2 S1 h
set_option maxHeartbeats 2000000 in
set_option maxRecDepth 20000 in
theorem m_X2_remember {l : Launch} {D : va_G} {cy : Nat → ClassId} {ad : Nat → Nat → Nat} (hi : xInj (shC cy) ad) {a1 : Int32} {a2 : Nat} {S : xS} {Q : xS → Prop} (ha2 : a2 < 12) (h : wp_X2_remember a1 a2 S Q) : xMet l D (xTys cy) (shC cy) ad yX2_remember cX2_remember 3 none (xRm 3 103) [.ref (ad 2 0), .int a1, .ref (ad 1 a2)] S (xQv Q) := xMet_env hi (by decide +kernel) rfl (Nat.le_of_ble_eq_true rfl) (fun g hl V => w_X2_remember V ha2 h)
set_option maxHeartbeats 2000000 in
set_option maxRecDepth 20000 in
theorem w_X3_append {g : xG} {D : va_G} {cy : Nat → ClassId} {ad : Nat → Nat → Nat} {a1 : Int32} {S : xS} {Q : Int32 → xS → Prop} (V : xEnv g D (xTys cy) (shC cy) ad RX3 cX3_append (some .boolean) 0 0 2 (xQi Q)) (h : wp_X3_append a1 S Q) : Wx g (xW D (shC cy) ad S) 0 [(0, .ref (ad 3 0)), (1, .int a1)] [] := by
  obtain ⟨X, K, hi, hA, hR, E, hN⟩ := V
  have V := xEnv_mk X K hi hA hR E hN
  unfold wp_X3_append at h
  refine x_aload_n X 0 dX3_append_0 rfl ?_
  refine xg_X3_19 X K Nat.zero_lt_one dX3_append_1 ?_
  refine x_bipush X (v := 60) dX3_append_4 (by decide) ?_
  refine x_icmp_lt X 11 dX3_append_6 (by decide) h (fun h => ?_) (fun h => ?_)
  · refine x_aload_n X 0 dX3_append_11 rfl ?_
    refine xg_X3_9 X K Nat.zero_lt_one dX3_append_12 ?_
    refine x_aload_n X 0 dX3_append_15 rfl ?_
    refine xg_X3_19 X K Nat.zero_lt_one dX3_append_16 ?_
    refine x_iload_n X 1 dX3_append_19 rfl ?_
    obtain ⟨hb1, h⟩ := h
    refine xs_C19 X K hi hA (show 0 < 1 by decide) hb1 dX3_append_20 ?_
    refine x_aload_n X 0 dX3_append_21 rfl ?_
    refine x_dup X dX3_append_22 rfl ?_
    refine xg_X3_19 X K Nat.zero_lt_one dX3_append_23 ?_
    refine x_iconst X (v := 1) dX3_append_26 (by decide) ?_
    refine x_iadd X dX3_append_27 ?_
    refine xp_X3_19 X K hi hA Nat.zero_lt_one dX3_append_28 ?_
    refine x_iconst X (v := 1) dX3_append_31 (by decide) ?_
    exact x_zret X E dX3_append_32 h.1 ⟨_, rfl, h.2⟩
  · refine x_iconst X (v := 0) dX3_append_9 (by decide) ?_
    exact x_zret X E dX3_append_10 h.1 ⟨_, rfl, h.2⟩
set_option maxHeartbeats 2000000 in
set_option maxRecDepth 20000 in
theorem m_X3_append {l : Launch} {D : va_G} {cy : Nat → ClassId} {ad : Nat → Nat → Nat} (hi : xInj (shC cy) ad) {a1 : Int32} {S : xS} {Q : Int32 → xS → Prop} (h : wp_X3_append a1 S Q) : xMet l D (xTys cy) (shC cy) ad yX3_append cX3_append 2 (some .boolean) (xRm 0 0) [.ref (ad 3 0), .int a1] S (xQi Q) := xMet_env hi (by decide +kernel) rfl (Nat.le_of_ble_eq_true rfl) (fun g hl V => w_X3_append V h)
set_option maxHeartbeats 2000000 in
set_option maxRecDepth 20000 in
theorem w_X3_axisAt_46 {g : xG} {D : va_G} {cy : Nat → ClassId} {ad : Nat → Nat → Nat} {Q : Int32 → xS → Prop} (V : xEnv g D (xTys cy) (shC cy) ad RX3 cX3_axisAt (some .int) 1 21 5 (xQi Q)) (S : xS) (h : wp_X3_axisAt_46 Q S) : Wx g (xW D (shC cy) ad S) 46 [] [] := by
  obtain ⟨X, K, hi, hA, hR, E, hN⟩ := V
  have V := xEnv_mk X K hi hA hR E hN
  unfold wp_X3_axisAt_46 at h
  refine x_iconst X (v := -1) dX3_axisAt_46 (by decide) ?_
  exact x_iret X E dX3_axisAt_47 ⟨_, rfl, h⟩
set_option maxHeartbeats 2000000 in
set_option maxRecDepth 20000 in
theorem w_X3_axisAt {g : xG} {D : va_G} {cy : Nat → ClassId} {ad : Nat → Nat → Nat} {a1 : Int32} {a2 : Int32} {a3 : Int32} {S : xS} {Q : Int32 → xS → Prop} (V : xEnv g D (xTys cy) (shC cy) ad RX3 cX3_axisAt (some .int) 1 21 5 (xQi Q)) (h : wp_X3_axisAt a1 a2 a3 S Q) : Wx g (xW D (shC cy) ad S) 0 [(0, .ref (ad 3 0)), (1, .int a1), (2, .int a2), (3, .int a3)] [] := by
  obtain ⟨X, K, hi, hA, hR, E, hN⟩ := V
  have V := xEnv_mk X K hi hA hR E hN
  unfold wp_X3_axisAt at h
  refine x_iload_n X 1 dX3_axisAt_0 rfl ?_
  refine x_aload_n X 0 dX3_axisAt_1 rfl ?_
  refine xg_X3_19 X K Nat.zero_lt_one dX3_axisAt_2 ?_
  refine x_icmp_lt X 10 dX3_axisAt_5 (by decide) h (fun h => ?_) (fun h => ?_)
  · refine x_aload_n X 0 dX3_axisAt_10 rfl ?_
    refine xg_X3_9 X K Nat.zero_lt_one dX3_axisAt_11 ?_
    refine x_iload_n X 1 dX3_axisAt_14 rfl ?_
    obtain ⟨hb1, h⟩ := h
    refine xa_C19 X K (show 0 < 1 by decide) hb1 dX3_axisAt_15 ?_
    refine x_bipush X (v := 97) dX3_axisAt_16 (by decide) ?_
    refine x_isub X dX3_axisAt_18 ?_
    refine x_istore X [(4, .int ((S.1 19 0 a1.toNatClampNeg) - (97 : Int32))), (0, .ref (ad 3 0)), (1, .int a1), (2, .int a2), (3, .int a3)] dX3_axisAt_19 (by rw [hN]; decide) rfl ?_
    refine x_iload X 0 dX3_axisAt_21 rfl ?_
    refine x_if_lt X 46 dX3_axisAt_23 (by decide) h (fun h => ?_) (fun h => ?_)
    · refine x_sub [] rfl ?_
      exact w_X3_axisAt_46 V S h
    · refine x_iload X 0 dX3_axisAt_26 rfl ?_
      refine x_iload_n X 3 dX3_axisAt_28 rfl ?_
      refine x_icmp_ge X 46 dX3_axisAt_29 (by decide) h (fun h => ?_) (fun h => ?_)
      · refine x_sub [] rfl ?_
        exact w_X3_axisAt_46 V S h
      · refine x_iload_n X 4 dX3_axisAt_32 rfl ?_
        refine x_aload_n X 1 dX3_axisAt_33 rfl ?_
        refine xg_X3_23 X K Nat.zero_lt_one dX3_axisAt_34 ?_
        refine x_ior X dX3_axisAt_37 ?_
        refine x_iload X 0 dX3_axisAt_38 rfl ?_
        refine x_calli hA (x_runSN (n := 2) (host := "FontInstancer") X K hR (fun _ q => q) (m_X6_hasBit hi  h) (by decide) t2_145 t1_1 t2_146 ⟨by decide, by decide, by decide +kernel⟩ rfl (by decide) (by decide) rfl (Nat.le_of_ble_eq_true rfl) dX3_axisAt_40) (fun r3 S2 h => ?_)
        refine x_if_eq X 48 dX3_axisAt_43 (by decide) h (fun h => ?_) (fun h => ?_)
        · refine x_aload_n X 1 dX3_axisAt_48 rfl ?_
          refine x_dup X dX3_axisAt_49 rfl ?_
          refine xg_X3_23 X K Nat.zero_lt_one dX3_axisAt_50 ?_
          refine x_iconst X (v := 1) dX3_axisAt_53 (by decide) ?_
          refine x_iload X 0 dX3_axisAt_54 rfl ?_
          refine x_ishl X dX3_axisAt_56 ?_
          refine x_ior X dX3_axisAt_57 ?_
          refine xp_X3_23 X K hi hA Nat.zero_lt_one dX3_axisAt_58 ?_
          refine x_iload X 0 dX3_axisAt_61 rfl ?_
          exact x_iret X E dX3_axisAt_63 ⟨_, rfl, h⟩
        · refine x_sub [] rfl ?_
          exact w_X3_axisAt_46 V S2 h
  · refine x_iconst X (v := -1) dX3_axisAt_8 (by decide) ?_
    exact x_iret X E dX3_axisAt_9 ⟨_, rfl, h⟩
set_option maxHeartbeats 2000000 in
set_option maxRecDepth 20000 in
theorem m_X3_axisAt {l : Launch} {D : va_G} {cy : Nat → ClassId} {ad : Nat → Nat → Nat} (hi : xInj (shC cy) ad) {a1 : Int32} {a2 : Int32} {a3 : Int32} {S : xS} {Q : Int32 → xS → Prop} (h : wp_X3_axisAt a1 a2 a3 S Q) : xMet l D (xTys cy) (shC cy) ad yX3_axisAt cX3_axisAt 5 (some .int) (xRm 1 21) [.ref (ad 3 0), .int a1, .int a2, .int a3] S (xQi Q) := xMet_env hi (by decide +kernel) rfl (Nat.le_of_ble_eq_true rfl) (fun g hl V => w_X3_axisAt V h)
set_option maxHeartbeats 2000000 in
set_option maxRecDepth 20000 in
theorem w_X3_isAt_23 {g : xG} {D : va_G} {cy : Nat → ClassId} {ad : Nat → Nat → Nat} {Q : Int32 → xS → Prop} (V : xEnv g D (xTys cy) (shC cy) ad RX3 cX3_isAt (some .boolean) 0 0 3 (xQi Q)) (S : xS) (s0 : Int32) (h : wp_X3_isAt_23 Q S s0) : Wx g (xW D (shC cy) ad S) 23 [] [.int s0] := by
  obtain ⟨X, K, hi, hA, hR, E, hN⟩ := V
  have V := xEnv_mk X K hi hA hR E hN
  unfold wp_X3_isAt_23 at h
  exact x_zret X E dX3_isAt_23 h.1 ⟨_, rfl, h.2⟩
set_option maxHeartbeats 2000000 in
set_option maxRecDepth 20000 in
theorem w_X3_isAt_22 {g : xG} {D : va_G} {cy : Nat → ClassId} {ad : Nat → Nat → Nat} {Q : Int32 → xS → Prop} (V : xEnv g D (xTys cy) (shC cy) ad RX3 cX3_isAt (some .boolean) 0 0 3 (xQi Q)) (S : xS) (h : wp_X3_isAt_22 Q S) : Wx g (xW D (shC cy) ad S) 22 [] [] := by
  obtain ⟨X, K, hi, hA, hR, E, hN⟩ := V
  have V := xEnv_mk X K hi hA hR E hN
  unfold wp_X3_isAt_22 at h
  refine x_iconst X (v := 0) dX3_isAt_22 (by decide) ?_
  refine x_sub [] rfl ?_
  exact w_X3_isAt_23 V S (0 : Int32) h
set_option maxHeartbeats 2000000 in
set_option maxRecDepth 20000 in
theorem w_X3_isAt {g : xG} {D : va_G} {cy : Nat → ClassId} {ad : Nat → Nat → Nat} {a1 : Int32} {a2 : Int32} {S : xS} {Q : Int32 → xS → Prop} (V : xEnv g D (xTys cy) (shC cy) ad RX3 cX3_isAt (some .boolean) 0 0 3 (xQi Q)) (h : wp_X3_isAt a1 a2 S Q) : Wx g (xW D (shC cy) ad S) 0 [(0, .ref (ad 3 0)), (1, .int a1), (2, .int a2)] [] := by
  obtain ⟨X, K, hi, hA, hR, E, hN⟩ := V
  have V := xEnv_mk X K hi hA hR E hN
  unfold wp_X3_isAt at h
  refine x_iload_n X 1 dX3_isAt_0 rfl ?_
  refine x_aload_n X 0 dX3_isAt_1 rfl ?_
  refine xg_X3_19 X K Nat.zero_lt_one dX3_isAt_2 ?_
  refine x_icmp_ge X 22 dX3_isAt_5 (by decide) h (fun h => ?_) (fun h => ?_)
  · refine x_sub [] rfl ?_
    exact w_X3_isAt_22 V S h
  · refine x_aload_n X 0 dX3_isAt_8 rfl ?_
    refine xg_X3_9 X K Nat.zero_lt_one dX3_isAt_9 ?_
    refine x_iload_n X 1 dX3_isAt_12 rfl ?_
    obtain ⟨hb1, h⟩ := h
    refine xa_C19 X K (show 0 < 1 by decide) hb1 dX3_isAt_13 ?_
    refine x_iload_n X 2 dX3_isAt_14 rfl ?_
    refine x_icmp_ne X 22 dX3_isAt_15 (by decide) h (fun h => ?_) (fun h => ?_)
    · refine x_iconst X (v := 1) dX3_isAt_18 (by decide) ?_
      refine x_goto X 23 dX3_isAt_19 (by decide) ?_
      refine x_sub [] rfl ?_
      exact w_X3_isAt_23 V S (1 : Int32) h
    · refine x_sub [] rfl ?_
      exact w_X3_isAt_22 V S h
set_option maxHeartbeats 2000000 in
set_option maxRecDepth 20000 in
theorem m_X3_isAt {l : Launch} {D : va_G} {cy : Nat → ClassId} {ad : Nat → Nat → Nat} (hi : xInj (shC cy) ad) {a1 : Int32} {a2 : Int32} {S : xS} {Q : Int32 → xS → Prop} (h : wp_X3_isAt a1 a2 S Q) : xMet l D (xTys cy) (shC cy) ad yX3_isAt cX3_isAt 3 (some .boolean) (xRm 0 0) [.ref (ad 3 0), .int a1, .int a2] S (xQi Q) := xMet_env hi (by decide +kernel) rfl (Nat.le_of_ble_eq_true rfl) (fun g hl V => w_X3_isAt V h)
set_option maxHeartbeats 2000000 in
set_option maxRecDepth 20000 in
theorem w_X3_readNumber_89 {g : xG} {D : va_G} {cy : Nat → ClassId} {ad : Nat → Nat → Nat} {Q : Int32 → xS → Prop} (V : xEnv g D (xTys cy) (shC cy) ad RX3 cX3_readNumber (some .int) 0 0 6 (xQi Q)) (S : xS) (v5 : Int32) (s1 : Int32) (s2 : Int32) (h : wp_X3_readNumber_89 Q S v5 s1 s2) : Wx g (xW D (shC cy) ad S) 89 [(5, .int v5)] [.int s2, .int s1, .ref (ad 20 0)] := by
  obtain ⟨X, K, hi, hA, hR, E, hN⟩ := V
  have V := xEnv_mk X K hi hA hR E hN
  unfold wp_X3_readNumber_89 at h
  obtain ⟨hb1, h⟩ := h
  refine xs_C20 X K hi hA (Nat.zero_lt_one) hb1 dX3_readNumber_89 ?_
  refine x_iload X 0 dX3_readNumber_90 rfl ?_
  exact x_iret X E dX3_readNumber_92 ⟨_, rfl, h⟩
set_option maxHeartbeats 2000000 in
set_option maxRecDepth 20000 in
theorem w_X3_readNumber_72 {g : xG} {D : va_G} {cy : Nat → ClassId} {ad : Nat → Nat → Nat} {a2 : Int32} {a3 : Int32} {Q : Int32 → xS → Prop} (V : xEnv g D (xTys cy) (shC cy) ad RX3 cX3_readNumber (some .int) 0 0 6 (xQi Q)) (S : xS) (v4 : Int32) (v5 : Int32) (h : wp_X3_readNumber_72 a2 a3 Q S v4 v5) : Wx g (xW D (shC cy) ad S) 72 [(0, .ref (ad 3 0)), (2, .int a2), (3, .int a3), (4, .int v4), (5, .int v5)] [] := by
  obtain ⟨X, K, hi, hA, hR, E, hN⟩ := V
  have V := xEnv_mk X K hi hA hR E hN
  unfold wp_X3_readNumber_72 at h
  refine x_aload_n X 0 dX3_readNumber_72 rfl ?_
  refine xg_X3_15 X K (Nat.zero_lt_one) dX3_readNumber_73 ?_
  refine x_iload_n X 1 dX3_readNumber_76 rfl ?_
  refine x_iload_n X 2 dX3_readNumber_77 rfl ?_
  refine x_if_eq X 87 dX3_readNumber_78 (by decide) h (fun h => ?_) (fun h => ?_)
  · refine x_iload X 3 dX3_readNumber_87 rfl ?_
    refine x_sub [4] rfl ?_
    exact w_X3_readNumber_89 V S v5 a2 v4 h
  · refine x_iload X 3 dX3_readNumber_81 rfl ?_
    refine x_ineg X dX3_readNumber_83 ?_
    refine x_goto X 89 dX3_readNumber_84 (by decide) ?_
    refine x_sub [4] rfl ?_
    exact w_X3_readNumber_89 V S v5 a2 (-v4) h
set_option maxHeartbeats 2000000 in
set_option maxRecDepth 20000 in
theorem w_X3_readNumber_6_b {g : xG} {D : va_G} {cy : Nat → ClassId} {ad : Nat → Nat → Nat} {a1 : Int32} {a2 : Int32} {a3 : Int32} {K6 : xS → Int32 → Int32 → Prop} {Q : Int32 → xS → Prop} (V : xEnv g D (xTys cy) (shC cy) ad RX3 cX3_readNumber (some .int) 0 0 6 (xQi Q)) (hK6 : ∀ (S : xS) (v4 : Int32) (v5 : Int32), K6 S v4 v5 → Wx g (xW D (shC cy) ad S) 6 [(0, .ref (ad 3 0)), (1, .int a1), (2, .int a2), (3, .int a3), (4, .int v4), (5, .int v5)] []) (S : xS) (v4 : Int32) (v5 : Int32) (h : wp_X3_readNumber_6_b a1 a2 a3 K6 Q S v4 v5) : Wx g (xW D (shC cy) ad S) 6 [(0, .ref (ad 3 0)), (1, .int a1), (2, .int a2), (3, .int a3), (4, .int v4), (5, .int v5)] [] := by
  obtain ⟨X, K, hi, hA, hR, E, hN⟩ := V
  have V := xEnv_mk X K hi hA hR E hN
  unfold wp_X3_readNumber_6_b at h
  refine x_iload X 5 dX3_readNumber_6 rfl ?_
  refine x_aload_n X 0 dX3_readNumber_8 rfl ?_
  refine xg_X3_19 X K (Nat.zero_lt_one) dX3_readNumber_9 ?_
  refine x_icmp_ge X 72 dX3_readNumber_12 (by decide) h (fun h => ?_) (fun h => ?_)
  · refine x_sub [0, 2, 3, 4, 5] rfl ?_
    exact w_X3_readNumber_72 V S v4 v5 h
  · refine x_iload X 5 dX3_readNumber_15 rfl ?_
    refine x_iload_n X 1 dX3_readNumber_17 rfl ?_
    refine x_bipush X (v := 6) dX3_readNumber_18 (by decide) ?_
    refine x_iadd X dX3_readNumber_20 ?_
    refine x_icmp_ge X 72 dX3_readNumber_21 (by decide) h (fun h => ?_) (fun h => ?_)
    · refine x_sub [0, 2, 3, 4, 5] rfl ?_
      exact w_X3_readNumber_72 V S v4 v5 h
    · refine x_aload_n X 0 dX3_readNumber_24 rfl ?_
      refine xg_X3_9 X K (Nat.zero_lt_one) dX3_readNumber_25 ?_
      refine x_iload X 5 dX3_readNumber_28 rfl ?_
      obtain ⟨hb1, h⟩ := h
      refine xa_C19 X K (show 0 < 1 by decide) hb1 dX3_readNumber_30 ?_
      refine x_bipush X (v := 48) dX3_readNumber_31 (by decide) ?_
      refine x_icmp_lt X 72 dX3_readNumber_33 (by decide) h (fun h => ?_) (fun h => ?_)
      · refine x_sub [0, 2, 3, 4, 5] rfl ?_
        exact w_X3_readNumber_72 V S v4 v5 h
      · refine x_aload_n X 0 dX3_readNumber_36 rfl ?_
        refine xg_X3_9 X K (Nat.zero_lt_one) dX3_readNumber_37 ?_
        refine x_iload X 5 dX3_readNumber_40 rfl ?_
        obtain ⟨hb2, h⟩ := h
        refine xa_C19 X K (show 0 < 1 by decide) hb2 dX3_readNumber_42 ?_
        refine x_bipush X (v := 57) dX3_readNumber_43 (by decide) ?_
        refine x_icmp_gt X 72 dX3_readNumber_45 (by decide) h (fun h => ?_) (fun h => ?_)
        · refine x_sub [0, 2, 3, 4, 5] rfl ?_
          exact w_X3_readNumber_72 V S v4 v5 h
        · refine x_iload X 4 dX3_readNumber_48 rfl ?_
          refine x_bipush X (v := 10) dX3_readNumber_50 (by decide) ?_
          refine x_imul X dX3_readNumber_52 ?_
          refine x_aload_n X 0 dX3_readNumber_53 rfl ?_
          refine xg_X3_9 X K (Nat.zero_lt_one) dX3_readNumber_54 ?_
          refine x_iload X 5 dX3_readNumber_57 rfl ?_
          obtain ⟨hb3, h⟩ := h
          refine xa_C19 X K (show 0 < 1 by decide) hb3 dX3_readNumber_59 ?_
          refine x_bipush X (v := 48) dX3_readNumber_60 (by decide) ?_
          refine x_isub X dX3_readNumber_62 ?_
          refine x_iadd X dX3_readNumber_63 ?_
          refine x_istore X [(4, .int ((v4 * (10 : Int32)) + ((S.1 19 0 v5.toNatClampNeg) - (48 : Int32)))), (0, .ref (ad 3 0)), (1, .int a1), (2, .int a2), (3, .int a3), (5, .int v5)] dX3_readNumber_64 (by rw [hN]; decide) rfl ?_
          refine x_iinc X 5 [(5, .int (v5 + (1 : Int32))), (4, .int ((v4 * (10 : Int32)) + ((S.1 19 0 v5.toNatClampNeg) - (48 : Int32)))), (0, .ref (ad 3 0)), (1, .int a1), (2, .int a2), (3, .int a3)] dX3_readNumber_66 rfl rfl (by rw [hN]; decide) rfl ?_
          refine x_goto X 6 dX3_readNumber_69 (by decide) ?_
          refine x_sub [2, 3, 4, 5, 1, 0] rfl ?_
          exact hK6 S ((v4 * (10 : Int32)) + ((S.1 19 0 v5.toNatClampNeg) - (48 : Int32))) (v5 + (1 : Int32)) h
set_option maxHeartbeats 2000000 in
set_option maxRecDepth 20000 in
theorem w_X3_readNumber_6 {g : xG} {D : va_G} {cy : Nat → ClassId} {ad : Nat → Nat → Nat} {a1 : Int32} {a2 : Int32} {a3 : Int32} {Q : Int32 → xS → Prop} (V : xEnv g D (xTys cy) (shC cy) ad RX3 cX3_readNumber (some .int) 0 0 6 (xQi Q)) (n : Nat) : ∀ (S : xS) (v4 : Int32) (v5 : Int32), wp_X3_readNumber_6 a1 a2 a3 Q n S v4 v5 → Wx g (xW D (shC cy) ad S) 6 [(0, .ref (ad 3 0)), (1, .int a1), (2, .int a2), (3, .int a3), (4, .int v4), (5, .int v5)] [] := by
  induction n with
  | zero => intro S v4 v5 h; exact h.elim
  | succ n ih => intro S v4 v5 h; exact w_X3_readNumber_6_b V (fun S v4 v5 h => ih S v4 v5 h) S v4 v5 h
set_option maxHeartbeats 2000000 in
set_option maxRecDepth 20000 in
theorem w_X3_readNumber {g : xG} {D : va_G} {cy : Nat → ClassId} {ad : Nat → Nat → Nat} {a1 : Int32} {a2 : Int32} {a3 : Int32} {S : xS} {Q : Int32 → xS → Prop} (V : xEnv g D (xTys cy) (shC cy) ad RX3 cX3_readNumber (some .int) 0 0 6 (xQi Q)) (h : wp_X3_readNumber a1 a2 a3 S Q) : Wx g (xW D (shC cy) ad S) 0 [(0, .ref (ad 3 0)), (1, .int a1), (2, .int a2), (3, .int a3)] [] := by
  obtain ⟨X, K, hi, hA, hR, E, hN⟩ := V
  have V := xEnv_mk X K hi hA hR E hN
  unfold wp_X3_readNumber at h
  refine x_iconst X (v := 0) dX3_readNumber_0 (by decide) ?_
  refine x_istore X [(4, .int (0 : Int32)), (0, .ref (ad 3 0)), (1, .int a1), (2, .int a2), (3, .int a3)] dX3_readNumber_1 (by rw [hN]; decide) rfl ?_
  refine x_iload_n X 2 dX3_readNumber_3 rfl ?_
  refine x_istore X [(5, .int a1), (4, .int (0 : Int32)), (0, .ref (ad 3 0)), (1, .int a1), (2, .int a2), (3, .int a3)] dX3_readNumber_4 (by rw [hN]; decide) rfl ?_
  refine x_sub [2, 3, 4, 5, 1, 0] rfl ?_
  obtain ⟨n1, h⟩ := h
  exact w_X3_readNumber_6 V n1 S (0 : Int32) a1 h
set_option maxHeartbeats 2000000 in
set_option maxRecDepth 20000 in
theorem m_X3_readNumber {l : Launch} {D : va_G} {cy : Nat → ClassId} {ad : Nat → Nat → Nat} (hi : xInj (shC cy) ad) {a1 : Int32} {a2 : Int32} {a3 : Int32} {S : xS} {Q : Int32 → xS → Prop} (h : wp_X3_readNumber a1 a2 a3 S Q) : xMet l D (xTys cy) (shC cy) ad yX3_readNumber cX3_readNumber 6 (some .int) (xRm 0 0) [.ref (ad 3 0), .int a1, .int a2, .int a3] S (xQi Q) := xMet_env hi (by decide +kernel) rfl (Nat.le_of_ble_eq_true rfl) (fun g hl V => w_X3_readNumber V h)
set_option maxHeartbeats 2000000 in
set_option maxRecDepth 20000 in
theorem w_X3_readItems_58 {g : xG} {D : va_G} {cy : Nat → ClassId} {ad : Nat → Nat → Nat} {a1 : Int32} {a2 : Int32} {K10 : xS → Int32 → Int32 → Prop} {Q : Int32 → xS → Prop} (V : xEnv g D (xTys cy) (shC cy) ad RX3 cX3_readItems (some .int) 2 45 8 (xQi Q)) (hK10 : ∀ (S : xS) (v3 : Int32) (v4 : Int32), K10 S v3 v4 → Wx g (xW D (shC cy) ad S) 10 [(0, .ref (ad 3 0)), (1, .int a1), (2, .int a2), (3, .int v3), (4, .int v4)] []) (S : xS) (v4 : Int32) (v5 : Int32) (v6 : Int32) (s0 : Int32) (s1 : Int32) (h : wp_X3_readItems_58 a1 a2 K10 Q S v4 v5 v6 s0 s1) : Wx g (xW D (shC cy) ad S) 58 [(0, .ref (ad 3 0)), (1, .int a1), (2, .int a2), (4, .int v4), (5, .int v5), (6, .int v6)] [.int s1, .int s0] := by
  obtain ⟨X, K, hi, hA, hR, E, hN⟩ := V
  have V := xEnv_mk X K hi hA hR E hN
  unfold wp_X3_readItems_58 at h
  refine x_iadd X dX3_readItems_58 ?_
  refine x_istore_n X [(3, .int (s0 + s1)), (0, .ref (ad 3 0)), (1, .int a1), (2, .int a2), (4, .int v4), (5, .int v5), (6, .int v6)] dX3_readItems_59 (by rw [hN]; decide) rfl ?_
  refine x_aload_n X 1 dX3_readItems_60 rfl ?_
  refine x_iload_n X 0 dX3_readItems_61 rfl ?_
  refine x_iload X 5 dX3_readItems_62 rfl ?_
  refine x_iload X 6 dX3_readItems_64 rfl ?_
  refine x_calli hA (x_runV (n := 3) (sh := shC cy) X K hR (fun _ q => q) (m_X3_readNumber hi  h) (kC_3 cy (Nat.zero_lt_one)) rfl rfl t3_232 t3_234 tp_25 t1_6 t3_235 ⟨by decide, by decide, by decide +kernel⟩ rfl (by decide) (by decide) rfl (Nat.le_of_ble_eq_true rfl) dX3_readItems_66) (fun r2 S1 h => ?_)
  refine x_istore X [(7, .int r2), (3, .int (s0 + s1)), (0, .ref (ad 3 0)), (1, .int a1), (2, .int a2), (4, .int v4), (5, .int v5), (6, .int v6)] dX3_readItems_69 (by rw [hN]; decide) rfl ?_
  refine x_iload X 0 dX3_readItems_71 rfl ?_
  refine x_iload_n X 1 dX3_readItems_73 rfl ?_
  refine x_icmp_ne X 82 dX3_readItems_74 (by decide) h (fun h => ?_) (fun h => ?_)
  · refine x_bipush X (v := -100) dX3_readItems_77 (by decide) ?_
    refine x_iload_n X 1 dX3_readItems_79 rfl ?_
    refine x_isub X dX3_readItems_80 ?_
    exact x_iret X E dX3_readItems_81 ⟨_, rfl, h⟩
  · refine x_iload X 0 dX3_readItems_82 rfl ?_
    refine x_istore_n X [(3, .int r2), (7, .int r2), (0, .ref (ad 3 0)), (1, .int a1), (2, .int a2), (4, .int v4), (5, .int v5), (6, .int v6)] dX3_readItems_84 (by rw [hN]; decide) rfl ?_
    refine x_iload_n X 0 dX3_readItems_85 rfl ?_
    refine x_aload_n X 2 dX3_readItems_86 rfl ?_
    refine xg_X3_19 X K (Nat.zero_lt_one) dX3_readItems_87 ?_
    refine x_icmp_lt X 96 dX3_readItems_90 (by decide) h (fun h => ?_) (fun h => ?_)
    · refine x_aload_n X 2 dX3_readItems_96 rfl ?_
      refine x_iload_n X 0 dX3_readItems_97 rfl ?_
      refine x_bipush X (v := 59) dX3_readItems_98 (by decide) ?_
      refine x_calli hA (x_runV (n := 2) (sh := shC cy) X K hR (fun _ q => q) (m_X3_isAt hi  h) (kC_3 cy (Nat.zero_lt_one)) rfl rfl t3_228 t3_230 tp_24 t1_6 t3_231 ⟨by decide, by decide, by decide +kernel⟩ rfl (by decide) (by decide) rfl (Nat.le_of_ble_eq_true rfl) dX3_readItems_100) (fun r4 S3 h => ?_)
      refine x_if_ne X 111 dX3_readItems_103 (by decide) h (fun h => ?_) (fun h => ?_)
      · refine x_bipush X (v := -100) dX3_readItems_106 (by decide) ?_
        refine x_iload_n X 0 dX3_readItems_108 rfl ?_
        refine x_isub X dX3_readItems_109 ?_
        exact x_iret X E dX3_readItems_110 ⟨_, rfl, h⟩
      · refine x_iinc X 0 [(3, .int (r2 + (1 : Int32))), (7, .int r2), (0, .ref (ad 3 0)), (1, .int a1), (2, .int a2), (4, .int v4), (5, .int v5), (6, .int v6)] dX3_readItems_111 rfl rfl (by rw [hN]; decide) rfl ?_
        refine x_iinc X 5 [(4, .int (v4 + (1 : Int32))), (3, .int (r2 + (1 : Int32))), (7, .int r2), (0, .ref (ad 3 0)), (1, .int a1), (2, .int a2), (5, .int v5), (6, .int v6)] dX3_readItems_114 rfl rfl (by rw [hN]; decide) rfl ?_
        refine x_goto X 10 dX3_readItems_117 (by decide) ?_
        refine x_sub [3, 4, 5, 1, 0] rfl ?_
        exact hK10 S3 (r2 + (1 : Int32)) (v4 + (1 : Int32)) h
    · refine x_iload X 5 dX3_readItems_93 rfl ?_
      exact x_iret X E dX3_readItems_95 ⟨_, rfl, h⟩
set_option maxHeartbeats 2000000 in
set_option maxRecDepth 20000 in
theorem w_X3_readItems_10_b {g : xG} {D : va_G} {cy : Nat → ClassId} {ad : Nat → Nat → Nat} {a1 : Int32} {a2 : Int32} {K10 : xS → Int32 → Int32 → Prop} {Q : Int32 → xS → Prop} (V : xEnv g D (xTys cy) (shC cy) ad RX3 cX3_readItems (some .int) 2 45 8 (xQi Q)) (hK10 : ∀ (S : xS) (v3 : Int32) (v4 : Int32), K10 S v3 v4 → Wx g (xW D (shC cy) ad S) 10 [(0, .ref (ad 3 0)), (1, .int a1), (2, .int a2), (3, .int v3), (4, .int v4)] []) (S : xS) (v3 : Int32) (v4 : Int32) (h : wp_X3_readItems_10_b a1 a2 K10 Q S v3 v4) : Wx g (xW D (shC cy) ad S) 10 [(0, .ref (ad 3 0)), (1, .int a1), (2, .int a2), (3, .int v3), (4, .int v4)] [] := by
  obtain ⟨X, K, hi, hA, hR, E, hN⟩ := V
  have V := xEnv_mk X K hi hA hR E hN
  unfold wp_X3_readItems_10_b at h
  refine x_iload X 4 dX3_readItems_10 rfl ?_
  refine x_iconst X (v := 4) dX3_readItems_12 (by decide) ?_
  refine x_icmp_gt X 120 dX3_readItems_13 (by decide) h (fun h => ?_) (fun h => ?_)
  · refine x_bipush X (v := -100) dX3_readItems_120 (by decide) ?_
    refine x_iload_n X 3 dX3_readItems_122 rfl ?_
    refine x_isub X dX3_readItems_123 ?_
    exact x_iret X E dX3_readItems_124 ⟨_, rfl, h⟩
  · refine x_aload_n X 0 dX3_readItems_16 rfl ?_
    refine x_iload_n X 3 dX3_readItems_17 rfl ?_
    refine x_iload_n X 1 dX3_readItems_18 rfl ?_
    refine x_iload_n X 2 dX3_readItems_19 rfl ?_
    refine x_calli hA (x_runV (n := 3) (sh := shC cy) X K hR (fun _ q => q) (m_X3_axisAt hi  h) (kC_3 cy (Nat.zero_lt_one)) rfl rfl t3_223 t3_225 tp_23 t1_6 t3_226 ⟨by decide, by decide, by decide +kernel⟩ rfl (by decide) (by decide) rfl (Nat.le_of_ble_eq_true rfl) dX3_readItems_20) (fun r2 S1 h => ?_)
    refine x_istore X [(5, .int r2), (0, .ref (ad 3 0)), (1, .int a1), (2, .int a2), (3, .int v3), (4, .int v4)] dX3_readItems_23 (by rw [hN]; decide) rfl ?_
    refine x_iload X 0 dX3_readItems_25 rfl ?_
    refine x_if_ge X 35 dX3_readItems_27 (by decide) h (fun h => ?_) (fun h => ?_)
    · refine x_iinc X 4 [(3, .int (v3 + (1 : Int32))), (5, .int r2), (0, .ref (ad 3 0)), (1, .int a1), (2, .int a2), (4, .int v4)] dX3_readItems_35 rfl rfl (by rw [hN]; decide) rfl ?_
      refine x_aload_n X 2 dX3_readItems_38 rfl ?_
      refine x_iload_n X 0 dX3_readItems_39 rfl ?_
      refine x_bipush X (v := 45) dX3_readItems_40 (by decide) ?_
      refine x_calli hA (x_runV (n := 2) (sh := shC cy) X K hR (fun _ q => q) (m_X3_isAt hi  h) (kC_3 cy (Nat.zero_lt_one)) rfl rfl t3_228 t3_230 tp_24 t1_6 t3_231 ⟨by decide, by decide, by decide +kernel⟩ rfl (by decide) (by decide) rfl (Nat.le_of_ble_eq_true rfl) dX3_readItems_42) (fun r4 S3 h => ?_)
      refine x_istore X [(6, .int r4), (3, .int (v3 + (1 : Int32))), (5, .int r2), (0, .ref (ad 3 0)), (1, .int a1), (2, .int a2), (4, .int v4)] dX3_readItems_45 (by rw [hN]; decide) rfl ?_
      refine x_iload_n X 1 dX3_readItems_47 rfl ?_
      refine x_iload X 0 dX3_readItems_48 rfl ?_
      refine x_if_eq X 57 dX3_readItems_50 (by decide) h (fun h => ?_) (fun h => ?_)
      · refine x_iconst X (v := 0) dX3_readItems_57 (by decide) ?_
        refine x_sub [3, 4, 5, 6, 2, 0] rfl ?_
        exact w_X3_readItems_58 V hK10 S3 v4 r2 r4 (v3 + (1 : Int32)) (0 : Int32) h
      · refine x_iconst X (v := 1) dX3_readItems_53 (by decide) ?_
        refine x_goto X 58 dX3_readItems_54 (by decide) ?_
        refine x_sub [3, 4, 5, 6, 2, 0] rfl ?_
        exact w_X3_readItems_58 V hK10 S3 v4 r2 r4 (v3 + (1 : Int32)) (1 : Int32) h
    · refine x_bipush X (v := -100) dX3_readItems_30 (by decide) ?_
      refine x_iload_n X 4 dX3_readItems_32 rfl ?_
      refine x_isub X dX3_readItems_33 ?_
      exact x_iret X E dX3_readItems_34 ⟨_, rfl, h⟩
set_option maxHeartbeats 2000000 in
set_option maxRecDepth 20000 in
theorem w_X3_readItems_10 {g : xG} {D : va_G} {cy : Nat → ClassId} {ad : Nat → Nat → Nat} {a1 : Int32} {a2 : Int32} {Q : Int32 → xS → Prop} (V : xEnv g D (xTys cy) (shC cy) ad RX3 cX3_readItems (some .int) 2 45 8 (xQi Q)) (n : Nat) : ∀ (S : xS) (v3 : Int32) (v4 : Int32), wp_X3_readItems_10 a1 a2 Q n S v3 v4 → Wx g (xW D (shC cy) ad S) 10 [(0, .ref (ad 3 0)), (1, .int a1), (2, .int a2), (3, .int v3), (4, .int v4)] [] := by
  induction n with
  | zero => intro S v3 v4 h; exact h.elim
  | succ n ih => intro S v3 v4 h; exact w_X3_readItems_10_b V (fun S v3 v4 h => ih S v3 v4 h) S v3 v4 h
set_option maxHeartbeats 2000000 in
set_option maxRecDepth 20000 in
theorem w_X3_readItems {g : xG} {D : va_G} {cy : Nat → ClassId} {ad : Nat → Nat → Nat} {a1 : Int32} {a2 : Int32} {S : xS} {Q : Int32 → xS → Prop} (V : xEnv g D (xTys cy) (shC cy) ad RX3 cX3_readItems (some .int) 2 45 8 (xQi Q)) (h : wp_X3_readItems a1 a2 S Q) : Wx g (xW D (shC cy) ad S) 0 [(0, .ref (ad 3 0)), (1, .int a1), (2, .int a2)] [] := by
  obtain ⟨X, K, hi, hA, hR, E, hN⟩ := V
  have V := xEnv_mk X K hi hA hR E hN
  unfold wp_X3_readItems at h
  refine x_aload_n X 0 dX3_readItems_0 rfl ?_
  refine x_iconst X (v := 0) dX3_readItems_1 (by decide) ?_
  refine xp_X3_23 X K hi hA Nat.zero_lt_one dX3_readItems_2 ?_
  refine x_iconst X (v := 0) dX3_readItems_5 (by decide) ?_
  refine x_istore_n X [(3, .int (0 : Int32)), (0, .ref (ad 3 0)), (1, .int a1), (2, .int a2)] dX3_readItems_6 (by rw [hN]; decide) rfl ?_
  refine x_iconst X (v := 1) dX3_readItems_7 (by decide) ?_
  refine x_istore X [(4, .int (1 : Int32)), (3, .int (0 : Int32)), (0, .ref (ad 3 0)), (1, .int a1), (2, .int a2)] dX3_readItems_8 (by rw [hN]; decide) rfl ?_
  refine x_sub [2, 3, 4, 1, 0] rfl ?_
  obtain ⟨n1, h⟩ := h
  exact w_X3_readItems_10 V n1 (xI S 3 0 2 (0 : Int32)) (0 : Int32) (1 : Int32) h
set_option maxHeartbeats 2000000 in
set_option maxRecDepth 20000 in
theorem m_X3_readItems {l : Launch} {D : va_G} {cy : Nat → ClassId} {ad : Nat → Nat → Nat} (hi : xInj (shC cy) ad) {a1 : Int32} {a2 : Int32} {S : xS} {Q : Int32 → xS → Prop} (h : wp_X3_readItems a1 a2 S Q) : xMet l D (xTys cy) (shC cy) ad yX3_readItems cX3_readItems 8 (some .int) (xRm 2 45) [.ref (ad 3 0), .int a1, .int a2] S (xQi Q) := xMet_env hi (by decide +kernel) rfl (Nat.le_of_ble_eq_true rfl) (fun g hl V => w_X3_readItems V h)
set_option maxHeartbeats 2000000 in
set_option maxRecDepth 20000 in
theorem w_X4_clear {g : xG} {D : va_G} {cy : Nat → ClassId} {ad : Nat → Nat → Nat} {a0 : Nat} {S : xS} {Q : xS → Prop} (V : xEnv g D (xTys cy) (shC cy) ad RX4 cX4_clear none 0 0 1 (xQv Q)) (ha0 : a0 < 2) (h : wp_X4_clear a0 S Q) : Wx g (xW D (shC cy) ad S) 0 [(0, .ref (ad 4 a0))] [] := by
  obtain ⟨X, K, hi, hA, hR, E, hN⟩ := V
  have V := xEnv_mk X K hi hA hR E hN
  unfold wp_X4_clear at h
  refine x_aload_n X 0 dX4_clear_0 rfl ?_
  refine x_iconst X (v := 0) dX4_clear_1 (by decide) ?_
  refine xp_X4_22 X K hi hA ha0 dX4_clear_2 ?_
  refine x_aload_n X 0 dX4_clear_5 rfl ?_
  refine x_iconst X (v := 0) dX4_clear_6 (by decide) ?_
  refine xp_X4_26 X K hi hA ha0 dX4_clear_7 ?_
  exact x_vret X E dX4_clear_10 ⟨rfl, h⟩
set_option maxHeartbeats 2000000 in
set_option maxRecDepth 20000 in
theorem m_X4_clear {l : Launch} {D : va_G} {cy : Nat → ClassId} {ad : Nat → Nat → Nat} (hi : xInj (shC cy) ad) {a0 : Nat} {S : xS} {Q : xS → Prop} (ha0 : a0 < 2) (h : wp_X4_clear a0 S Q) : xMet l D (xTys cy) (shC cy) ad yX4_clear cX4_clear 1 none (xRm 0 0) [.ref (ad 4 a0)] S (xQv Q) := xMet_env hi (by decide +kernel) rfl (Nat.le_of_ble_eq_true rfl) (fun g hl V => w_X4_clear V ha0 h)
set_option maxHeartbeats 2000000 in
set_option maxRecDepth 20000 in
theorem w_X4_append {g : xG} {D : va_G} {cy : Nat → ClassId} {ad : Nat → Nat → Nat} {a0 : Nat} {a1 : Int64} {a3 : Int64} {a5 : Int32} {S : xS} {Q : xS → Prop} (V : xEnv g D (xTys cy) (shC cy) ad RX4 cX4_append none 0 0 6 (xQv Q)) (ha0 : a0 < 2) (h : wp_X4_append a0 a1 a3 a5 S Q) : Wx g (xW D (shC cy) ad S) 0 [(0, .ref (ad 4 a0)), (1, .long a1), (3, .long a3), (5, .int a5)] [] := by
  obtain ⟨X, K, hi, hA, hR, E, hN⟩ := V
  have V := xEnv_mk X K hi hA hR E hN
  unfold wp_X4_append at h
  refine x_aload_n X 0 dX4_append_0 rfl ?_
  refine xg_X4_22 X K ha0 dX4_append_1 ?_
  refine x_bipush X (v := 96) dX4_append_4 (by decide) ?_
  refine x_icmp_lt X 10 dX4_append_6 (by decide) h (fun h => ?_) (fun h => ?_)
  · refine x_aload_n X 0 dX4_append_10 rfl ?_
    refine xg_X4_9 X K ha0 dX4_append_11 ?_
    refine x_aload_n X 0 dX4_append_14 rfl ?_
    refine xg_X4_22 X K ha0 dX4_append_15 ?_
    refine x_lload_n X 1 dX4_append_18 rfl ?_
    obtain ⟨hb1, h⟩ := h
    refine xs_C21 X K hi hA ha0 hb1 dX4_append_19 ?_
    refine x_aload_n X 0 dX4_append_20 rfl ?_
    refine xg_X4_15 X K ha0 dX4_append_21 ?_
    refine x_aload_n X 0 dX4_append_24 rfl ?_
    refine xg_X4_22 X K ha0 dX4_append_25 ?_
    refine x_lload_n X 2 dX4_append_28 rfl ?_
    obtain ⟨hb2, h⟩ := h
    refine xs_C22 X K hi hA ha0 hb2 dX4_append_29 ?_
    refine x_aload_n X 0 dX4_append_30 rfl ?_
    refine xg_X4_18 X K ha0 dX4_append_31 ?_
    refine x_aload_n X 0 dX4_append_34 rfl ?_
    refine xg_X4_22 X K ha0 dX4_append_35 ?_
    refine x_iload X 3 dX4_append_38 rfl ?_
    obtain ⟨hb3, h⟩ := h
    refine xs_C23 X K hi hA ha0 hb3 dX4_append_40 ?_
    refine x_aload_n X 0 dX4_append_41 rfl ?_
    refine x_dup X dX4_append_42 rfl ?_
    refine xg_X4_22 X K ha0 dX4_append_43 ?_
    refine x_iconst X (v := 1) dX4_append_46 (by decide) ?_
    refine x_iadd X dX4_append_47 ?_
    refine xp_X4_22 X K hi hA ha0 dX4_append_48 ?_
    refine x_aload_n X 0 dX4_append_51 rfl ?_
    refine x_iload X 3 dX4_append_52 rfl ?_
    refine x_iconst X (v := 1) dX4_append_54 (by decide) ?_
    refine x_iadd X dX4_append_55 ?_
    refine xp_X4_26 X K hi hA ha0 dX4_append_56 ?_
    exact x_vret X E dX4_append_59 ⟨rfl, h⟩
  · exact x_vret X E dX4_append_9 ⟨rfl, h⟩
set_option maxHeartbeats 2000000 in
set_option maxRecDepth 20000 in
theorem m_X4_append {l : Launch} {D : va_G} {cy : Nat → ClassId} {ad : Nat → Nat → Nat} (hi : xInj (shC cy) ad) {a0 : Nat} {a1 : Int64} {a3 : Int64} {a5 : Int32} {S : xS} {Q : xS → Prop} (ha0 : a0 < 2) (h : wp_X4_append a0 a1 a3 a5 S Q) : xMet l D (xTys cy) (shC cy) ad yX4_append cX4_append 6 none (xRm 0 0) [.ref (ad 4 a0), .long a1, .long a3, .int a5] S (xQv Q) := xMet_env hi (by decide +kernel) rfl (Nat.le_of_ble_eq_true rfl) (fun g hl V => w_X4_append V ha0 h)
set_option maxHeartbeats 2000000 in
set_option maxRecDepth 20000 in
theorem w_J9_min_f86c9_11 {g : xG} {D : va_G} {cy : Nat → ClassId} {ad : Nat → Nat → Nat} {Q : Int64 → xS → Prop} (V : xEnv g D (xTys cy) (shC cy) ad RJ9 cJ9_min_f86c9 (some .long) 0 0 4 (xQl Q)) (S : xS) (s0 : Int64) (h : wp_J9_min_f86c9_11 Q S s0) : Wx g (xW D (shC cy) ad S) 11 [] [.long s0] := by
  obtain ⟨X, K, hi, hA, hR, E, hN⟩ := V
  have V := xEnv_mk X K hi hA hR E hN
  unfold wp_J9_min_f86c9_11 at h
  exact x_lret X E dJ9_min_f86c9_11 ⟨_, rfl, h⟩
set_option maxHeartbeats 2000000 in
set_option maxRecDepth 20000 in
theorem w_J9_min_f86c9 {g : xG} {D : va_G} {cy : Nat → ClassId} {ad : Nat → Nat → Nat} {a0 : Int64} {a2 : Int64} {S : xS} {Q : Int64 → xS → Prop} (V : xEnv g D (xTys cy) (shC cy) ad RJ9 cJ9_min_f86c9 (some .long) 0 0 4 (xQl Q)) (h : wp_J9_min_f86c9 a0 a2 S Q) : Wx g (xW D (shC cy) ad S) 0 [(0, .long a0), (2, .long a2)] [] := by
  obtain ⟨X, K, hi, hA, hR, E, hN⟩ := V
  have V := xEnv_mk X K hi hA hR E hN
  unfold wp_J9_min_f86c9 at h
  refine x_lload_n X 0 dJ9_min_f86c9_0 rfl ?_
  refine x_lload_n X 1 dJ9_min_f86c9_1 rfl ?_
  refine x_lcmp X dJ9_min_f86c9_2 ?_
  refine x_if_gt X 10 dJ9_min_f86c9_3 (by decide) h (fun h => ?_) (fun h => ?_)
  · refine x_lload_n X 1 dJ9_min_f86c9_10 rfl ?_
    refine x_sub [] rfl ?_
    exact w_J9_min_f86c9_11 V S a2 h
  · refine x_lload_n X 0 dJ9_min_f86c9_6 rfl ?_
    refine x_goto X 11 dJ9_min_f86c9_7 (by decide) ?_
    refine x_sub [] rfl ?_
    exact w_J9_min_f86c9_11 V S a0 h
set_option maxHeartbeats 2000000 in
set_option maxRecDepth 20000 in
theorem m_J9_min_f86c9 {l : Launch} {D : va_G} {cy : Nat → ClassId} {ad : Nat → Nat → Nat} (hi : xInj (shC cy) ad) {a0 : Int64} {a2 : Int64} {S : xS} {Q : Int64 → xS → Prop} (h : wp_J9_min_f86c9 a0 a2 S Q) : xMet l D (xTys cy) (shC cy) ad yJ9_min_f86c9 cJ9_min_f86c9 4 (some .long) (xRm 0 0) [.long a0, .long a2] S (xQl Q) := xMet_env hi (by decide +kernel) rfl (Nat.le_of_ble_eq_true rfl) (fun g hl V => w_J9_min_f86c9 V h)
set_option maxHeartbeats 2000000 in
set_option maxRecDepth 20000 in
theorem w_X4_leastOf_38 {g : xG} {D : va_G} {cy : Nat → ClassId} {ad : Nat → Nat → Nat} {a0 : Nat} {a1 : Int32} {K7 : xS → Int64 → Int32 → Prop} {Q : Int64 → xS → Prop} (V : xEnv g D (xTys cy) (shC cy) ad RX4 cX4_leastOf (some .long) 1 23 5 (xQl Q)) (ha0 : a0 < 2) (hK7 : ∀ (S : xS) (v2 : Int64) (v4 : Int32), K7 S v2 v4 → Wx g (xW D (shC cy) ad S) 7 [(0, .ref (ad 4 a0)), (1, .int a1), (2, .long v2), (4, .int v4)] []) (S : xS) (v4 : Int32) (s0 : Int64) (s1 : Int64) (h : wp_X4_leastOf_38 a0 a1 K7 Q S v4 s0 s1) : Wx g (xW D (shC cy) ad S) 38 [(0, .ref (ad 4 a0)), (1, .int a1), (4, .int v4)] [.long s1, .long s0] := by
  obtain ⟨X, K, hi, hA, hR, E, hN⟩ := V
  have V := xEnv_mk X K hi hA hR E hN
  unfold wp_X4_leastOf_38 at h
  refine x_calll hA (x_runS (n := 2) X K hR (fun _ q => q) (m_J9_min_f86c9 hi  h) t3_39 t3_40 t1_9 t3_41 ⟨by decide, by decide, by decide +kernel⟩ rfl (by decide) (by decide) rfl (Nat.le_of_ble_eq_true rfl) dX4_leastOf_38) (fun r2 S1 h => ?_)
  refine x_lstore_n X [(2, .long r2), (0, .ref (ad 4 a0)), (1, .int a1), (4, .int v4)] dX4_leastOf_41 (by rw [hN]; decide) rfl ?_
  refine x_iinc X 3 [(4, .int (v4 + (1 : Int32))), (2, .long r2), (0, .ref (ad 4 a0)), (1, .int a1)] dX4_leastOf_42 rfl rfl (by rw [hN]; decide) rfl ?_
  refine x_goto X 7 dX4_leastOf_45 (by decide) ?_
  refine x_sub [2, 3, 1, 0] rfl ?_
  exact hK7 S1 r2 (v4 + (1 : Int32)) h
set_option maxHeartbeats 2000000 in
set_option maxRecDepth 20000 in
theorem w_X4_leastOf_7_b {g : xG} {D : va_G} {cy : Nat → ClassId} {ad : Nat → Nat → Nat} {a0 : Nat} {a1 : Int32} {K7 : xS → Int64 → Int32 → Prop} {Q : Int64 → xS → Prop} (V : xEnv g D (xTys cy) (shC cy) ad RX4 cX4_leastOf (some .long) 1 23 5 (xQl Q)) (ha0 : a0 < 2) (hK7 : ∀ (S : xS) (v2 : Int64) (v4 : Int32), K7 S v2 v4 → Wx g (xW D (shC cy) ad S) 7 [(0, .ref (ad 4 a0)), (1, .int a1), (2, .long v2), (4, .int v4)] []) (S : xS) (v2 : Int64) (v4 : Int32) (h : wp_X4_leastOf_7_b a0 a1 K7 Q S v2 v4) : Wx g (xW D (shC cy) ad S) 7 [(0, .ref (ad 4 a0)), (1, .int a1), (2, .long v2), (4, .int v4)] [] := by
  obtain ⟨X, K, hi, hA, hR, E, hN⟩ := V
  have V := xEnv_mk X K hi hA hR E hN
  unfold wp_X4_leastOf_7_b at h
  refine x_iload X 3 dX4_leastOf_7 rfl ?_
  refine x_aload_n X 0 dX4_leastOf_9 rfl ?_
  refine xg_X4_22 X K ha0 dX4_leastOf_10 ?_
  refine x_icmp_ge X 48 dX4_leastOf_13 (by decide) h (fun h => ?_) (fun h => ?_)
  · refine x_lload_n X 2 dX4_leastOf_48 rfl ?_
    exact x_lret X E dX4_leastOf_49 ⟨_, rfl, h⟩
  · refine x_lload_n X 2 dX4_leastOf_16 rfl ?_
    refine x_iload_n X 1 dX4_leastOf_17 rfl ?_
    refine x_if_eq X 31 dX4_leastOf_18 (by decide) h (fun h => ?_) (fun h => ?_)
    · refine x_aload_n X 0 dX4_leastOf_31 rfl ?_
      refine xg_X4_9 X K ha0 dX4_leastOf_32 ?_
      refine x_iload X 3 dX4_leastOf_35 rfl ?_
      obtain ⟨hb1, h⟩ := h
      refine xa_C21 X K ha0 hb1 dX4_leastOf_37 ?_
      refine x_sub [0, 1, 3] rfl ?_
      exact w_X4_leastOf_38 V ha0 hK7 S v4 v2 (S.2.1 21 a0 v4.toNatClampNeg) h
    · refine x_aload_n X 0 dX4_leastOf_21 rfl ?_
      refine xg_X4_15 X K ha0 dX4_leastOf_22 ?_
      refine x_iload X 3 dX4_leastOf_25 rfl ?_
      obtain ⟨hb2, h⟩ := h
      refine xa_C22 X K ha0 hb2 dX4_leastOf_27 ?_
      refine x_goto X 38 dX4_leastOf_28 (by decide) ?_
      refine x_sub [0, 1, 3] rfl ?_
      exact w_X4_leastOf_38 V ha0 hK7 S v4 v2 (S.2.1 22 a0 v4.toNatClampNeg) h
set_option maxHeartbeats 2000000 in
set_option maxRecDepth 20000 in
theorem w_X4_leastOf_7 {g : xG} {D : va_G} {cy : Nat → ClassId} {ad : Nat → Nat → Nat} {a0 : Nat} {a1 : Int32} {Q : Int64 → xS → Prop} (V : xEnv g D (xTys cy) (shC cy) ad RX4 cX4_leastOf (some .long) 1 23 5 (xQl Q)) (ha0 : a0 < 2) (n : Nat) : ∀ (S : xS) (v2 : Int64) (v4 : Int32), wp_X4_leastOf_7 a0 a1 Q n S v2 v4 → Wx g (xW D (shC cy) ad S) 7 [(0, .ref (ad 4 a0)), (1, .int a1), (2, .long v2), (4, .int v4)] [] := by
  induction n with
  | zero => intro S v2 v4 h; exact h.elim
  | succ n ih => intro S v2 v4 h; exact w_X4_leastOf_7_b V ha0 (fun S v2 v4 h => ih S v2 v4 h) S v2 v4 h
set_option maxHeartbeats 2000000 in
set_option maxRecDepth 20000 in
theorem w_X4_leastOf {g : xG} {D : va_G} {cy : Nat → ClassId} {ad : Nat → Nat → Nat} {a0 : Nat} {a1 : Int32} {S : xS} {Q : Int64 → xS → Prop} (V : xEnv g D (xTys cy) (shC cy) ad RX4 cX4_leastOf (some .long) 1 23 5 (xQl Q)) (ha0 : a0 < 2) (h : wp_X4_leastOf a0 a1 S Q) : Wx g (xW D (shC cy) ad S) 0 [(0, .ref (ad 4 a0)), (1, .int a1)] [] := by
  obtain ⟨X, K, hi, hA, hR, E, hN⟩ := V
  have V := xEnv_mk X K hi hA hR E hN
  unfold wp_X4_leastOf at h
  refine x_ldc2 X (v := 9223372036854775807) t3_38 dX4_leastOf_0 ?_
  refine x_lstore_n X [(2, .long (9223372036854775807 : Int64)), (0, .ref (ad 4 a0)), (1, .int a1)] dX4_leastOf_3 (by rw [hN]; decide) rfl ?_
  refine x_iconst X (v := 0) dX4_leastOf_4 (by decide) ?_
  refine x_istore X [(4, .int (0 : Int32)), (2, .long (9223372036854775807 : Int64)), (0, .ref (ad 4 a0)), (1, .int a1)] dX4_leastOf_5 (by rw [hN]; decide) rfl ?_
  refine x_sub [2, 3, 1, 0] rfl ?_
  obtain ⟨n1, h⟩ := h
  exact w_X4_leastOf_7 V ha0 n1 S (9223372036854775807 : Int64) (0 : Int32) h
set_option maxHeartbeats 2000000 in
set_option maxRecDepth 20000 in
theorem m_X4_leastOf {l : Launch} {D : va_G} {cy : Nat → ClassId} {ad : Nat → Nat → Nat} (hi : xInj (shC cy) ad) {a0 : Nat} {a1 : Int32} {S : xS} {Q : Int64 → xS → Prop} (ha0 : a0 < 2) (h : wp_X4_leastOf a0 a1 S Q) : xMet l D (xTys cy) (shC cy) ad yX4_leastOf cX4_leastOf 5 (some .long) (xRm 1 23) [.ref (ad 4 a0), .int a1] S (xQl Q) := xMet_env hi (by decide +kernel) rfl (Nat.le_of_ble_eq_true rfl) (fun g hl V => w_X4_leastOf V ha0 h)
set_option maxHeartbeats 2000000 in
set_option maxRecDepth 20000 in
theorem w_J9_max_f86c9_11 {g : xG} {D : va_G} {cy : Nat → ClassId} {ad : Nat → Nat → Nat} {Q : Int64 → xS → Prop} (V : xEnv g D (xTys cy) (shC cy) ad RJ9 cJ9_max_f86c9 (some .long) 0 0 4 (xQl Q)) (S : xS) (s0 : Int64) (h : wp_J9_max_f86c9_11 Q S s0) : Wx g (xW D (shC cy) ad S) 11 [] [.long s0] := by
  obtain ⟨X, K, hi, hA, hR, E, hN⟩ := V
  have V := xEnv_mk X K hi hA hR E hN
  unfold wp_J9_max_f86c9_11 at h
  exact x_lret X E dJ9_max_f86c9_11 ⟨_, rfl, h⟩
set_option maxHeartbeats 2000000 in
set_option maxRecDepth 20000 in
theorem w_J9_max_f86c9 {g : xG} {D : va_G} {cy : Nat → ClassId} {ad : Nat → Nat → Nat} {a0 : Int64} {a2 : Int64} {S : xS} {Q : Int64 → xS → Prop} (V : xEnv g D (xTys cy) (shC cy) ad RJ9 cJ9_max_f86c9 (some .long) 0 0 4 (xQl Q)) (h : wp_J9_max_f86c9 a0 a2 S Q) : Wx g (xW D (shC cy) ad S) 0 [(0, .long a0), (2, .long a2)] [] := by
  obtain ⟨X, K, hi, hA, hR, E, hN⟩ := V
  have V := xEnv_mk X K hi hA hR E hN
  unfold wp_J9_max_f86c9 at h
  refine x_lload_n X 0 dJ9_max_f86c9_0 rfl ?_
  refine x_lload_n X 1 dJ9_max_f86c9_1 rfl ?_
  refine x_lcmp X dJ9_max_f86c9_2 ?_
  refine x_if_lt X 10 dJ9_max_f86c9_3 (by decide) h (fun h => ?_) (fun h => ?_)
  · refine x_lload_n X 1 dJ9_max_f86c9_10 rfl ?_
    refine x_sub [] rfl ?_
    exact w_J9_max_f86c9_11 V S a2 h
  · refine x_lload_n X 0 dJ9_max_f86c9_6 rfl ?_
    refine x_goto X 11 dJ9_max_f86c9_7 (by decide) ?_
    refine x_sub [] rfl ?_
    exact w_J9_max_f86c9_11 V S a0 h
set_option maxHeartbeats 2000000 in
set_option maxRecDepth 20000 in
theorem m_J9_max_f86c9 {l : Launch} {D : va_G} {cy : Nat → ClassId} {ad : Nat → Nat → Nat} (hi : xInj (shC cy) ad) {a0 : Int64} {a2 : Int64} {S : xS} {Q : Int64 → xS → Prop} (h : wp_J9_max_f86c9 a0 a2 S Q) : xMet l D (xTys cy) (shC cy) ad yJ9_max_f86c9 cJ9_max_f86c9 4 (some .long) (xRm 0 0) [.long a0, .long a2] S (xQl Q) := xMet_env hi (by decide +kernel) rfl (Nat.le_of_ble_eq_true rfl) (fun g hl V => w_J9_max_f86c9 V h)
set_option maxHeartbeats 2000000 in
set_option maxRecDepth 20000 in
theorem w_X4_greatestOf_38 {g : xG} {D : va_G} {cy : Nat → ClassId} {ad : Nat → Nat → Nat} {a0 : Nat} {a1 : Int32} {K7 : xS → Int64 → Int32 → Prop} {Q : Int64 → xS → Prop} (V : xEnv g D (xTys cy) (shC cy) ad RX4 cX4_greatestOf (some .long) 1 23 5 (xQl Q)) (ha0 : a0 < 2) (hK7 : ∀ (S : xS) (v2 : Int64) (v4 : Int32), K7 S v2 v4 → Wx g (xW D (shC cy) ad S) 7 [(0, .ref (ad 4 a0)), (1, .int a1), (2, .long v2), (4, .int v4)] []) (S : xS) (v4 : Int32) (s0 : Int64) (s1 : Int64) (h : wp_X4_greatestOf_38 a0 a1 K7 Q S v4 s0 s1) : Wx g (xW D (shC cy) ad S) 38 [(0, .ref (ad 4 a0)), (1, .int a1), (4, .int v4)] [.long s1, .long s0] := by
  obtain ⟨X, K, hi, hA, hR, E, hN⟩ := V
  have V := xEnv_mk X K hi hA hR E hN
  unfold wp_X4_greatestOf_38 at h
  refine x_calll hA (x_runS (n := 2) X K hR (fun _ q => q) (m_J9_max_f86c9 hi  h) t3_47 t3_48 t1_9 t3_49 ⟨by decide, by decide, by decide +kernel⟩ rfl (by decide) (by decide) rfl (Nat.le_of_ble_eq_true rfl) dX4_greatestOf_38) (fun r2 S1 h => ?_)
  refine x_lstore_n X [(2, .long r2), (0, .ref (ad 4 a0)), (1, .int a1), (4, .int v4)] dX4_greatestOf_41 (by rw [hN]; decide) rfl ?_
  refine x_iinc X 3 [(4, .int (v4 + (1 : Int32))), (2, .long r2), (0, .ref (ad 4 a0)), (1, .int a1)] dX4_greatestOf_42 rfl rfl (by rw [hN]; decide) rfl ?_
  refine x_goto X 7 dX4_greatestOf_45 (by decide) ?_
  refine x_sub [2, 3, 1, 0] rfl ?_
  exact hK7 S1 r2 (v4 + (1 : Int32)) h
set_option maxHeartbeats 2000000 in
set_option maxRecDepth 20000 in
theorem w_X4_greatestOf_7_b {g : xG} {D : va_G} {cy : Nat → ClassId} {ad : Nat → Nat → Nat} {a0 : Nat} {a1 : Int32} {K7 : xS → Int64 → Int32 → Prop} {Q : Int64 → xS → Prop} (V : xEnv g D (xTys cy) (shC cy) ad RX4 cX4_greatestOf (some .long) 1 23 5 (xQl Q)) (ha0 : a0 < 2) (hK7 : ∀ (S : xS) (v2 : Int64) (v4 : Int32), K7 S v2 v4 → Wx g (xW D (shC cy) ad S) 7 [(0, .ref (ad 4 a0)), (1, .int a1), (2, .long v2), (4, .int v4)] []) (S : xS) (v2 : Int64) (v4 : Int32) (h : wp_X4_greatestOf_7_b a0 a1 K7 Q S v2 v4) : Wx g (xW D (shC cy) ad S) 7 [(0, .ref (ad 4 a0)), (1, .int a1), (2, .long v2), (4, .int v4)] [] := by
  obtain ⟨X, K, hi, hA, hR, E, hN⟩ := V
  have V := xEnv_mk X K hi hA hR E hN
  unfold wp_X4_greatestOf_7_b at h
  refine x_iload X 3 dX4_greatestOf_7 rfl ?_
  refine x_aload_n X 0 dX4_greatestOf_9 rfl ?_
  refine xg_X4_22 X K ha0 dX4_greatestOf_10 ?_
  refine x_icmp_ge X 48 dX4_greatestOf_13 (by decide) h (fun h => ?_) (fun h => ?_)
  · refine x_lload_n X 2 dX4_greatestOf_48 rfl ?_
    exact x_lret X E dX4_greatestOf_49 ⟨_, rfl, h⟩
  · refine x_lload_n X 2 dX4_greatestOf_16 rfl ?_
    refine x_iload_n X 1 dX4_greatestOf_17 rfl ?_
    refine x_if_eq X 31 dX4_greatestOf_18 (by decide) h (fun h => ?_) (fun h => ?_)
    · refine x_aload_n X 0 dX4_greatestOf_31 rfl ?_
      refine xg_X4_9 X K ha0 dX4_greatestOf_32 ?_
      refine x_iload X 3 dX4_greatestOf_35 rfl ?_
      obtain ⟨hb1, h⟩ := h
      refine xa_C21 X K ha0 hb1 dX4_greatestOf_37 ?_
      refine x_sub [0, 1, 3] rfl ?_
      exact w_X4_greatestOf_38 V ha0 hK7 S v4 v2 (S.2.1 21 a0 v4.toNatClampNeg) h
    · refine x_aload_n X 0 dX4_greatestOf_21 rfl ?_
      refine xg_X4_15 X K ha0 dX4_greatestOf_22 ?_
      refine x_iload X 3 dX4_greatestOf_25 rfl ?_
      obtain ⟨hb2, h⟩ := h
      refine xa_C22 X K ha0 hb2 dX4_greatestOf_27 ?_
      refine x_goto X 38 dX4_greatestOf_28 (by decide) ?_
      refine x_sub [0, 1, 3] rfl ?_
      exact w_X4_greatestOf_38 V ha0 hK7 S v4 v2 (S.2.1 22 a0 v4.toNatClampNeg) h
set_option maxHeartbeats 2000000 in
set_option maxRecDepth 20000 in
theorem w_X4_greatestOf_7 {g : xG} {D : va_G} {cy : Nat → ClassId} {ad : Nat → Nat → Nat} {a0 : Nat} {a1 : Int32} {Q : Int64 → xS → Prop} (V : xEnv g D (xTys cy) (shC cy) ad RX4 cX4_greatestOf (some .long) 1 23 5 (xQl Q)) (ha0 : a0 < 2) (n : Nat) : ∀ (S : xS) (v2 : Int64) (v4 : Int32), wp_X4_greatestOf_7 a0 a1 Q n S v2 v4 → Wx g (xW D (shC cy) ad S) 7 [(0, .ref (ad 4 a0)), (1, .int a1), (2, .long v2), (4, .int v4)] [] := by
  induction n with
  | zero => intro S v2 v4 h; exact h.elim
  | succ n ih => intro S v2 v4 h; exact w_X4_greatestOf_7_b V ha0 (fun S v2 v4 h => ih S v2 v4 h) S v2 v4 h
set_option maxHeartbeats 2000000 in
set_option maxRecDepth 20000 in
theorem w_X4_greatestOf {g : xG} {D : va_G} {cy : Nat → ClassId} {ad : Nat → Nat → Nat} {a0 : Nat} {a1 : Int32} {S : xS} {Q : Int64 → xS → Prop} (V : xEnv g D (xTys cy) (shC cy) ad RX4 cX4_greatestOf (some .long) 1 23 5 (xQl Q)) (ha0 : a0 < 2) (h : wp_X4_greatestOf a0 a1 S Q) : Wx g (xW D (shC cy) ad S) 0 [(0, .ref (ad 4 a0)), (1, .int a1)] [] := by
  obtain ⟨X, K, hi, hA, hR, E, hN⟩ := V
  have V := xEnv_mk X K hi hA hR E hN
  unfold wp_X4_greatestOf at h
  refine x_ldc2 X (v := -9223372036854775808) t3_46 dX4_greatestOf_0 ?_
  refine x_lstore_n X [(2, .long (-9223372036854775808 : Int64)), (0, .ref (ad 4 a0)), (1, .int a1)] dX4_greatestOf_3 (by rw [hN]; decide) rfl ?_
  refine x_iconst X (v := 0) dX4_greatestOf_4 (by decide) ?_
  refine x_istore X [(4, .int (0 : Int32)), (2, .long (-9223372036854775808 : Int64)), (0, .ref (ad 4 a0)), (1, .int a1)] dX4_greatestOf_5 (by rw [hN]; decide) rfl ?_
  refine x_sub [2, 3, 1, 0] rfl ?_
  obtain ⟨n1, h⟩ := h
  exact w_X4_greatestOf_7 V ha0 n1 S (-9223372036854775808 : Int64) (0 : Int32) h
set_option maxHeartbeats 2000000 in
set_option maxRecDepth 20000 in
theorem m_X4_greatestOf {l : Launch} {D : va_G} {cy : Nat → ClassId} {ad : Nat → Nat → Nat} (hi : xInj (shC cy) ad) {a0 : Nat} {a1 : Int32} {S : xS} {Q : Int64 → xS → Prop} (ha0 : a0 < 2) (h : wp_X4_greatestOf a0 a1 S Q) : xMet l D (xTys cy) (shC cy) ad yX4_greatestOf cX4_greatestOf 5 (some .long) (xRm 1 23) [.ref (ad 4 a0), .int a1] S (xQl Q) := xMet_env hi (by decide +kernel) rfl (Nat.le_of_ble_eq_true rfl) (fun g hl V => w_X4_greatestOf V ha0 h)
set_option maxHeartbeats 2000000 in
set_option maxRecDepth 20000 in
theorem w_X4_contourArea_125 {g : xG} {D : va_G} {cy : Nat → ClassId} {ad : Nat → Nat → Nat} {a0 : Nat} {a1 : Int32} {K8 : xS → Int64 → Int32 → Int32 → Prop} {Q : Int64 → xS → Prop} (V : xEnv g D (xTys cy) (shC cy) ad RX4 cX4_contourArea (some .long) 0 0 7 (xQl Q)) (ha0 : a0 < 2) (hK8 : ∀ (S : xS) (v2 : Int64) (v4 : Int32) (v5 : Int32), K8 S v2 v4 v5 → Wx g (xW D (shC cy) ad S) 8 [(0, .ref (ad 4 a0)), (1, .int a1), (2, .long v2), (4, .int v4), (5, .int v5)] []) (S : xS) (v2 : Int64) (v4 : Int32) (v5 : Int32) (h : wp_X4_contourArea_125 a0 a1 K8 Q S v2 v4 v5) : Wx g (xW D (shC cy) ad S) 125 [(0, .ref (ad 4 a0)), (1, .int a1), (2, .long v2), (4, .int v4), (5, .int v5)] [] := by
  obtain ⟨X, K, hi, hA, hR, E, hN⟩ := V
  have V := xEnv_mk X K hi hA hR E hN
  unfold wp_X4_contourArea_125 at h
  refine x_iinc X 4 [(5, .int (v5 + (1 : Int32))), (0, .ref (ad 4 a0)), (1, .int a1), (2, .long v2), (4, .int v4)] dX4_contourArea_125 rfl rfl (by rw [hN]; decide) rfl ?_
  refine x_goto X 8 dX4_contourArea_128 (by decide) ?_
  refine x_sub [1, 2, 3, 4, 0] rfl ?_
  exact hK8 S v2 v4 (v5 + (1 : Int32)) h
set_option maxHeartbeats 2000000 in
set_option maxRecDepth 20000 in
theorem w_X4_contourArea_89 {g : xG} {D : va_G} {cy : Nat → ClassId} {ad : Nat → Nat → Nat} {a0 : Nat} {a1 : Int32} {K8 : xS → Int64 → Int32 → Int32 → Prop} {Q : Int64 → xS → Prop} (V : xEnv g D (xTys cy) (shC cy) ad RX4 cX4_contourArea (some .long) 0 0 7 (xQl Q)) (ha0 : a0 < 2) (hK8 : ∀ (S : xS) (v2 : Int64) (v4 : Int32) (v5 : Int32), K8 S v2 v4 v5 → Wx g (xW D (shC cy) ad S) 8 [(0, .ref (ad 4 a0)), (1, .int a1), (2, .long v2), (4, .int v4), (5, .int v5)] []) (S : xS) (v2 : Int64) (v4 : Int32) (v5 : Int32) (s0 : Int32) (h : wp_X4_contourArea_89 a0 a1 K8 Q S v2 v4 v5 s0) : Wx g (xW D (shC cy) ad S) 89 [(0, .ref (ad 4 a0)), (1, .int a1), (2, .long v2), (4, .int v4), (5, .int v5)] [.int s0] := by
  obtain ⟨X, K, hi, hA, hR, E, hN⟩ := V
  have V := xEnv_mk X K hi hA hR E hN
  unfold wp_X4_contourArea_89 at h
  refine x_istore X [(6, .int s0), (0, .ref (ad 4 a0)), (1, .int a1), (2, .long v2), (4, .int v4), (5, .int v5)] dX4_contourArea_89 (by rw [hN]; decide) rfl ?_
  refine x_lload_n X 3 dX4_contourArea_91 rfl ?_
  refine x_aload_n X 1 dX4_contourArea_92 rfl ?_
  refine xg_X4_9 X K ha0 dX4_contourArea_93 ?_
  refine x_iload X 5 dX4_contourArea_96 rfl ?_
  obtain ⟨hb1, h⟩ := h
  refine xa_C21 X K ha0 hb1 dX4_contourArea_98 ?_
  refine x_aload_n X 1 dX4_contourArea_99 rfl ?_
  refine xg_X4_15 X K ha0 dX4_contourArea_100 ?_
  refine x_iload X 0 dX4_contourArea_103 rfl ?_
  obtain ⟨hb2, h⟩ := h
  refine xa_C22 X K ha0 hb2 dX4_contourArea_105 ?_
  refine x_lmul X dX4_contourArea_106 ?_
  refine x_aload_n X 1 dX4_contourArea_107 rfl ?_
  refine xg_X4_9 X K ha0 dX4_contourArea_108 ?_
  refine x_iload X 0 dX4_contourArea_111 rfl ?_
  obtain ⟨hb3, h⟩ := h
  refine xa_C21 X K ha0 hb3 dX4_contourArea_113 ?_
  refine x_aload_n X 1 dX4_contourArea_114 rfl ?_
  refine xg_X4_15 X K ha0 dX4_contourArea_115 ?_
  refine x_iload X 5 dX4_contourArea_118 rfl ?_
  obtain ⟨hb4, h⟩ := h
  refine xa_C22 X K ha0 hb4 dX4_contourArea_120 ?_
  refine x_lmul X dX4_contourArea_121 ?_
  refine x_lsub X dX4_contourArea_122 ?_
  refine x_ladd X dX4_contourArea_123 ?_
  refine x_lstore_n X [(2, .long (v2 + (((S.2.1 21 a0 v5.toNatClampNeg) * (S.2.1 22 a0 s0.toNatClampNeg)) - ((S.2.1 21 a0 s0.toNatClampNeg) * (S.2.1 22 a0 v5.toNatClampNeg))))), (6, .int s0), (0, .ref (ad 4 a0)), (1, .int a1), (4, .int v4), (5, .int v5)] dX4_contourArea_124 (by rw [hN]; decide) rfl ?_
  refine x_sub [2, 3, 0, 4, 5] rfl ?_
  exact w_X4_contourArea_125 V ha0 hK8 S (v2 + (((S.2.1 21 a0 v5.toNatClampNeg) * (S.2.1 22 a0 s0.toNatClampNeg)) - ((S.2.1 21 a0 s0.toNatClampNeg) * (S.2.1 22 a0 v5.toNatClampNeg)))) v4 v5 h
set_option maxHeartbeats 2000000 in
set_option maxRecDepth 20000 in
theorem w_X4_contourArea_87 {g : xG} {D : va_G} {cy : Nat → ClassId} {ad : Nat → Nat → Nat} {a0 : Nat} {a1 : Int32} {K8 : xS → Int64 → Int32 → Int32 → Prop} {Q : Int64 → xS → Prop} (V : xEnv g D (xTys cy) (shC cy) ad RX4 cX4_contourArea (some .long) 0 0 7 (xQl Q)) (ha0 : a0 < 2) (hK8 : ∀ (S : xS) (v2 : Int64) (v4 : Int32) (v5 : Int32), K8 S v2 v4 v5 → Wx g (xW D (shC cy) ad S) 8 [(0, .ref (ad 4 a0)), (1, .int a1), (2, .long v2), (4, .int v4), (5, .int v5)] []) (S : xS) (v2 : Int64) (v4 : Int32) (v5 : Int32) (h : wp_X4_contourArea_87 a0 a1 K8 Q S v2 v4 v5) : Wx g (xW D (shC cy) ad S) 87 [(0, .ref (ad 4 a0)), (1, .int a1), (2, .long v2), (4, .int v4), (5, .int v5)] [] := by
  obtain ⟨X, K, hi, hA, hR, E, hN⟩ := V
  have V := xEnv_mk X K hi hA hR E hN
  unfold wp_X4_contourArea_87 at h
  refine x_iload X 3 dX4_contourArea_87 rfl ?_
  refine x_sub [0, 1, 2, 3, 4] rfl ?_
  exact w_X4_contourArea_89 V ha0 hK8 S v2 v4 v5 v4 h
set_option maxHeartbeats 2000000 in
set_option maxRecDepth 20000 in
theorem w_X4_contourArea_45 {g : xG} {D : va_G} {cy : Nat → ClassId} {ad : Nat → Nat → Nat} {a0 : Nat} {a1 : Int32} {K8 : xS → Int64 → Int32 → Int32 → Prop} {Q : Int64 → xS → Prop} (V : xEnv g D (xTys cy) (shC cy) ad RX4 cX4_contourArea (some .long) 0 0 7 (xQl Q)) (ha0 : a0 < 2) (hK8 : ∀ (S : xS) (v2 : Int64) (v4 : Int32) (v5 : Int32), K8 S v2 v4 v5 → Wx g (xW D (shC cy) ad S) 8 [(0, .ref (ad 4 a0)), (1, .int a1), (2, .long v2), (4, .int v4), (5, .int v5)] []) (S : xS) (v2 : Int64) (v4 : Int32) (v5 : Int32) (h : wp_X4_contourArea_45 a0 a1 K8 Q S v2 v4 v5) : Wx g (xW D (shC cy) ad S) 45 [(0, .ref (ad 4 a0)), (1, .int a1), (2, .long v2), (4, .int v4), (5, .int v5)] [] := by
  obtain ⟨X, K, hi, hA, hR, E, hN⟩ := V
  have V := xEnv_mk X K hi hA hR E hN
  unfold wp_X4_contourArea_45 at h
  refine x_aload_n X 0 dX4_contourArea_45 rfl ?_
  refine xg_X4_18 X K ha0 dX4_contourArea_46 ?_
  refine x_iload X 4 dX4_contourArea_49 rfl ?_
  obtain ⟨hb1, h⟩ := h
  refine xa_C23 X K ha0 hb1 dX4_contourArea_51 ?_
  refine x_iload_n X 1 dX4_contourArea_52 rfl ?_
  refine x_icmp_ne X 125 dX4_contourArea_53 (by decide) h (fun h => ?_) (fun h => ?_)
  · refine x_iload X 4 dX4_contourArea_56 rfl ?_
    refine x_iconst X (v := 1) dX4_contourArea_58 (by decide) ?_
    refine x_iadd X dX4_contourArea_59 ?_
    refine x_aload_n X 0 dX4_contourArea_60 rfl ?_
    refine xg_X4_22 X K ha0 dX4_contourArea_61 ?_
    refine x_icmp_ge X 87 dX4_contourArea_64 (by decide) h (fun h => ?_) (fun h => ?_)
    · refine x_sub [0, 1, 2, 3, 4] rfl ?_
      exact w_X4_contourArea_87 V ha0 hK8 S v2 v4 v5 h
    · refine x_aload_n X 0 dX4_contourArea_67 rfl ?_
      refine xg_X4_18 X K ha0 dX4_contourArea_68 ?_
      refine x_iload X 4 dX4_contourArea_71 rfl ?_
      refine x_iconst X (v := 1) dX4_contourArea_73 (by decide) ?_
      refine x_iadd X dX4_contourArea_74 ?_
      obtain ⟨hb2, h⟩ := h
      refine xa_C23 X K ha0 hb2 dX4_contourArea_75 ?_
      refine x_iload_n X 1 dX4_contourArea_76 rfl ?_
      refine x_icmp_ne X 87 dX4_contourArea_77 (by decide) h (fun h => ?_) (fun h => ?_)
      · refine x_iload X 4 dX4_contourArea_80 rfl ?_
        refine x_iconst X (v := 1) dX4_contourArea_82 (by decide) ?_
        refine x_iadd X dX4_contourArea_83 ?_
        refine x_goto X 89 dX4_contourArea_84 (by decide) ?_
        refine x_sub [0, 1, 2, 3, 4] rfl ?_
        exact w_X4_contourArea_89 V ha0 hK8 S v2 v4 v5 (v5 + (1 : Int32)) h
      · refine x_sub [0, 1, 2, 3, 4] rfl ?_
        exact w_X4_contourArea_87 V ha0 hK8 S v2 v4 v5 h
  · refine x_sub [0, 1, 2, 3, 4] rfl ?_
    exact w_X4_contourArea_125 V ha0 hK8 S v2 v4 v5 h
set_option maxHeartbeats 2000000 in
set_option maxRecDepth 20000 in
theorem w_X4_contourArea_8_b {g : xG} {D : va_G} {cy : Nat → ClassId} {ad : Nat → Nat → Nat} {a0 : Nat} {a1 : Int32} {K8 : xS → Int64 → Int32 → Int32 → Prop} {Q : Int64 → xS → Prop} (V : xEnv g D (xTys cy) (shC cy) ad RX4 cX4_contourArea (some .long) 0 0 7 (xQl Q)) (ha0 : a0 < 2) (hK8 : ∀ (S : xS) (v2 : Int64) (v4 : Int32) (v5 : Int32), K8 S v2 v4 v5 → Wx g (xW D (shC cy) ad S) 8 [(0, .ref (ad 4 a0)), (1, .int a1), (2, .long v2), (4, .int v4), (5, .int v5)] []) (S : xS) (v2 : Int64) (v4 : Int32) (v5 : Int32) (h : wp_X4_contourArea_8_b a0 a1 K8 Q S v2 v4 v5) : Wx g (xW D (shC cy) ad S) 8 [(0, .ref (ad 4 a0)), (1, .int a1), (2, .long v2), (4, .int v4), (5, .int v5)] [] := by
  obtain ⟨X, K, hi, hA, hR, E, hN⟩ := V
  have V := xEnv_mk X K hi hA hR E hN
  unfold wp_X4_contourArea_8_b at h
  refine x_iload X 4 dX4_contourArea_8 rfl ?_
  refine x_aload_n X 0 dX4_contourArea_10 rfl ?_
  refine xg_X4_22 X K ha0 dX4_contourArea_11 ?_
  refine x_icmp_ge X 131 dX4_contourArea_14 (by decide) h (fun h => ?_) (fun h => ?_)
  · refine x_lload_n X 2 dX4_contourArea_131 rfl ?_
    exact x_lret X E dX4_contourArea_132 ⟨_, rfl, h⟩
  · refine x_iload X 4 dX4_contourArea_17 rfl ?_
    refine x_if_le X 45 dX4_contourArea_19 (by decide) h (fun h => ?_) (fun h => ?_)
    · refine x_sub [0, 1, 2, 3, 4] rfl ?_
      exact w_X4_contourArea_45 V ha0 hK8 S v2 v4 v5 h
    · refine x_aload_n X 0 dX4_contourArea_22 rfl ?_
      refine xg_X4_18 X K ha0 dX4_contourArea_23 ?_
      refine x_iload X 4 dX4_contourArea_26 rfl ?_
      obtain ⟨hb1, h⟩ := h
      refine xa_C23 X K ha0 hb1 dX4_contourArea_28 ?_
      refine x_aload_n X 0 dX4_contourArea_29 rfl ?_
      refine xg_X4_18 X K ha0 dX4_contourArea_30 ?_
      refine x_iload X 4 dX4_contourArea_33 rfl ?_
      refine x_iconst X (v := 1) dX4_contourArea_35 (by decide) ?_
      refine x_isub X dX4_contourArea_36 ?_
      obtain ⟨hb2, h⟩ := h
      refine xa_C23 X K ha0 hb2 dX4_contourArea_37 ?_
      refine x_icmp_eq X 45 dX4_contourArea_38 (by decide) h (fun h => ?_) (fun h => ?_)
      · refine x_sub [0, 1, 2, 3, 4] rfl ?_
        exact w_X4_contourArea_45 V ha0 hK8 S v2 v4 v5 h
      · refine x_iload X 4 dX4_contourArea_41 rfl ?_
        refine x_istore X [(4, .int v5), (0, .ref (ad 4 a0)), (1, .int a1), (2, .long v2), (5, .int v5)] dX4_contourArea_43 (by rw [hN]; decide) rfl ?_
        refine x_sub [1, 2, 3, 0, 4] rfl ?_
        exact w_X4_contourArea_45 V ha0 hK8 S v2 v5 v5 h
set_option maxHeartbeats 2000000 in
set_option maxRecDepth 20000 in
theorem w_X4_contourArea_8 {g : xG} {D : va_G} {cy : Nat → ClassId} {ad : Nat → Nat → Nat} {a0 : Nat} {a1 : Int32} {Q : Int64 → xS → Prop} (V : xEnv g D (xTys cy) (shC cy) ad RX4 cX4_contourArea (some .long) 0 0 7 (xQl Q)) (ha0 : a0 < 2) (n : Nat) : ∀ (S : xS) (v2 : Int64) (v4 : Int32) (v5 : Int32), wp_X4_contourArea_8 a0 a1 Q n S v2 v4 v5 → Wx g (xW D (shC cy) ad S) 8 [(0, .ref (ad 4 a0)), (1, .int a1), (2, .long v2), (4, .int v4), (5, .int v5)] [] := by
  induction n with
  | zero => intro S v2 v4 v5 h; exact h.elim
  | succ n ih => intro S v2 v4 v5 h; exact w_X4_contourArea_8_b V ha0 (fun S v2 v4 v5 h => ih S v2 v4 v5 h) S v2 v4 v5 h
set_option maxHeartbeats 2000000 in
set_option maxRecDepth 20000 in
theorem w_X4_contourArea {g : xG} {D : va_G} {cy : Nat → ClassId} {ad : Nat → Nat → Nat} {a0 : Nat} {a1 : Int32} {S : xS} {Q : Int64 → xS → Prop} (V : xEnv g D (xTys cy) (shC cy) ad RX4 cX4_contourArea (some .long) 0 0 7 (xQl Q)) (ha0 : a0 < 2) (h : wp_X4_contourArea a0 a1 S Q) : Wx g (xW D (shC cy) ad S) 0 [(0, .ref (ad 4 a0)), (1, .int a1)] [] := by
  obtain ⟨X, K, hi, hA, hR, E, hN⟩ := V
  have V := xEnv_mk X K hi hA hR E hN
  unfold wp_X4_contourArea at h
  refine x_lconst X (v := 0) dX4_contourArea_0 (by decide) ?_
  refine x_lstore_n X [(2, .long (0 : Int64)), (0, .ref (ad 4 a0)), (1, .int a1)] dX4_contourArea_1 (by rw [hN]; decide) rfl ?_
  refine x_iconst X (v := 0) dX4_contourArea_2 (by decide) ?_
  refine x_istore X [(4, .int (0 : Int32)), (2, .long (0 : Int64)), (0, .ref (ad 4 a0)), (1, .int a1)] dX4_contourArea_3 (by rw [hN]; decide) rfl ?_
  refine x_iconst X (v := 0) dX4_contourArea_5 (by decide) ?_
  refine x_istore X [(5, .int (0 : Int32)), (4, .int (0 : Int32)), (2, .long (0 : Int64)), (0, .ref (ad 4 a0)), (1, .int a1)] dX4_contourArea_6 (by rw [hN]; decide) rfl ?_
  refine x_sub [3, 4, 2, 1, 0] rfl ?_
  obtain ⟨n1, h⟩ := h
  exact w_X4_contourArea_8 V ha0 n1 S (0 : Int64) (0 : Int32) (0 : Int32) h
set_option maxHeartbeats 2000000 in
set_option maxRecDepth 20000 in
theorem m_X4_contourArea {l : Launch} {D : va_G} {cy : Nat → ClassId} {ad : Nat → Nat → Nat} (hi : xInj (shC cy) ad) {a0 : Nat} {a1 : Int32} {S : xS} {Q : Int64 → xS → Prop} (ha0 : a0 < 2) (h : wp_X4_contourArea a0 a1 S Q) : xMet l D (xTys cy) (shC cy) ad yX4_contourArea cX4_contourArea 7 (some .long) (xRm 0 0) [.ref (ad 4 a0), .int a1] S (xQl Q) := xMet_env hi (by decide +kernel) rfl (Nat.le_of_ble_eq_true rfl) (fun g hl V => w_X4_contourArea V ha0 h)
set_option maxHeartbeats 2000000 in
set_option maxRecDepth 20000 in
theorem w_X4_wholeArea_4_b {g : xG} {D : va_G} {cy : Nat → ClassId} {ad : Nat → Nat → Nat} {a0 : Nat} {K4 : xS → Int64 → Int32 → Prop} {Q : Int64 → xS → Prop} (V : xEnv g D (xTys cy) (shC cy) ad RX4 cX4_wholeArea (some .long) 1 26 4 (xQl Q)) (ha0 : a0 < 2) (hK4 : ∀ (S : xS) (v1 : Int64) (v3 : Int32), K4 S v1 v3 → Wx g (xW D (shC cy) ad S) 4 [(0, .ref (ad 4 a0)), (1, .long v1), (3, .int v3)] []) (S : xS) (v1 : Int64) (v3 : Int32) (h : wp_X4_wholeArea_4_b a0 K4 Q S v1 v3) : Wx g (xW D (shC cy) ad S) 4 [(0, .ref (ad 4 a0)), (1, .long v1), (3, .int v3)] [] := by
  obtain ⟨X, K, hi, hA, hR, E, hN⟩ := V
  have V := xEnv_mk X K hi hA hR E hN
  unfold wp_X4_wholeArea_4_b at h
  refine x_iload_n X 2 dX4_wholeArea_4 rfl ?_
  refine x_aload_n X 0 dX4_wholeArea_5 rfl ?_
  refine xg_X4_26 X K ha0 dX4_wholeArea_6 ?_
  refine x_icmp_ge X 26 dX4_wholeArea_9 (by decide) h (fun h => ?_) (fun h => ?_)
  · refine x_lload_n X 1 dX4_wholeArea_26 rfl ?_
    exact x_lret X E dX4_wholeArea_27 ⟨_, rfl, h⟩
  · refine x_lload_n X 1 dX4_wholeArea_12 rfl ?_
    refine x_aload_n X 0 dX4_wholeArea_13 rfl ?_
    refine x_iload_n X 2 dX4_wholeArea_14 rfl ?_
    refine x_calll hA (x_runV (n := 1) (sh := shC cy) X K hR (fun _ q => q) (m_X4_contourArea hi ha0 h) (kC_4 cy ha0) rfl rfl t3_63 t3_64 t3_65 t1_2 t3_66 ⟨by decide, by decide, by decide +kernel⟩ rfl (by decide) (by decide) rfl (Nat.le_of_ble_eq_true rfl) dX4_wholeArea_15) (fun r2 S1 h => ?_)
    refine x_ladd X dX4_wholeArea_18 ?_
    refine x_lstore_n X [(1, .long (v1 + r2)), (0, .ref (ad 4 a0)), (3, .int v3)] dX4_wholeArea_19 (by rw [hN]; decide) rfl ?_
    refine x_iinc X 2 [(3, .int (v3 + (1 : Int32))), (1, .long (v1 + r2)), (0, .ref (ad 4 a0))] dX4_wholeArea_20 rfl rfl (by rw [hN]; decide) rfl ?_
    refine x_goto X 4 dX4_wholeArea_23 (by decide) ?_
    refine x_sub [2, 1, 0] rfl ?_
    exact hK4 S1 (v1 + r2) (v3 + (1 : Int32)) h
set_option maxHeartbeats 2000000 in
set_option maxRecDepth 20000 in
theorem w_X4_wholeArea_4 {g : xG} {D : va_G} {cy : Nat → ClassId} {ad : Nat → Nat → Nat} {a0 : Nat} {Q : Int64 → xS → Prop} (V : xEnv g D (xTys cy) (shC cy) ad RX4 cX4_wholeArea (some .long) 1 26 4 (xQl Q)) (ha0 : a0 < 2) (n : Nat) : ∀ (S : xS) (v1 : Int64) (v3 : Int32), wp_X4_wholeArea_4 a0 Q n S v1 v3 → Wx g (xW D (shC cy) ad S) 4 [(0, .ref (ad 4 a0)), (1, .long v1), (3, .int v3)] [] := by
  induction n with
  | zero => intro S v1 v3 h; exact h.elim
  | succ n ih => intro S v1 v3 h; exact w_X4_wholeArea_4_b V ha0 (fun S v1 v3 h => ih S v1 v3 h) S v1 v3 h
set_option maxHeartbeats 2000000 in
set_option maxRecDepth 20000 in
theorem w_X4_wholeArea {g : xG} {D : va_G} {cy : Nat → ClassId} {ad : Nat → Nat → Nat} {a0 : Nat} {S : xS} {Q : Int64 → xS → Prop} (V : xEnv g D (xTys cy) (shC cy) ad RX4 cX4_wholeArea (some .long) 1 26 4 (xQl Q)) (ha0 : a0 < 2) (h : wp_X4_wholeArea a0 S Q) : Wx g (xW D (shC cy) ad S) 0 [(0, .ref (ad 4 a0))] [] := by
  obtain ⟨X, K, hi, hA, hR, E, hN⟩ := V
  have V := xEnv_mk X K hi hA hR E hN
  unfold wp_X4_wholeArea at h
  refine x_lconst X (v := 0) dX4_wholeArea_0 (by decide) ?_
  refine x_lstore_n X [(1, .long (0 : Int64)), (0, .ref (ad 4 a0))] dX4_wholeArea_1 (by rw [hN]; decide) rfl ?_
  refine x_iconst X (v := 0) dX4_wholeArea_2 (by decide) ?_
  refine x_istore_n X [(3, .int (0 : Int32)), (1, .long (0 : Int64)), (0, .ref (ad 4 a0))] dX4_wholeArea_3 (by rw [hN]; decide) rfl ?_
  refine x_sub [2, 1, 0] rfl ?_
  obtain ⟨n1, h⟩ := h
  exact w_X4_wholeArea_4 V ha0 n1 S (0 : Int64) (0 : Int32) h
set_option maxHeartbeats 2000000 in
set_option maxRecDepth 20000 in
theorem m_X4_wholeArea {l : Launch} {D : va_G} {cy : Nat → ClassId} {ad : Nat → Nat → Nat} (hi : xInj (shC cy) ad) {a0 : Nat} {S : xS} {Q : Int64 → xS → Prop} (ha0 : a0 < 2) (h : wp_X4_wholeArea a0 S Q) : xMet l D (xTys cy) (shC cy) ad yX4_wholeArea cX4_wholeArea 4 (some .long) (xRm 1 26) [.ref (ad 4 a0)] S (xQl Q) := xMet_env hi (by decide +kernel) rfl (Nat.le_of_ble_eq_true rfl) (fun g hl V => w_X4_wholeArea V ha0 h)
set_option maxHeartbeats 2000000 in
set_option maxRecDepth 20000 in
theorem w_X5_begin_7_b {g : xG} {D : va_G} {cy : Nat → ClassId} {ad : Nat → Nat → Nat} {a0 : Nat} {K7 : xS → Int32 → Prop} {Q : xS → Prop} (V : xEnv g D (xTys cy) (shC cy) ad RX5 cX5_begin none 0 0 2 (xQv Q)) (ha0 : a0 < 60) (hK7 : ∀ (S : xS) (v1 : Int32), K7 S v1 → Wx g (xW D (shC cy) ad S) 7 [(0, .ref (ad 5 a0)), (1, .int v1)] []) (S : xS) (v1 : Int32) (h : wp_X5_begin_7_b a0 K7 Q S v1) : Wx g (xW D (shC cy) ad S) 7 [(0, .ref (ad 5 a0)), (1, .int v1)] [] := by
  obtain ⟨X, K, hi, hA, hR, E, hN⟩ := V
  have V := xEnv_mk X K hi hA hR E hN
  unfold wp_X5_begin_7_b at h
  refine x_iload_n X 1 dX5_begin_7 rfl ?_
  refine x_iconst X (v := 4) dX5_begin_8 (by decide) ?_
  refine x_icmp_ge X 39 dX5_begin_9 (by decide) h (fun h => ?_) (fun h => ?_)
  · exact x_vret X E dX5_begin_39 ⟨rfl, h⟩
  · refine x_aload_n X 0 dX5_begin_12 rfl ?_
    refine xg_X5_9 X K ha0 dX5_begin_13 ?_
    refine x_iload_n X 1 dX5_begin_16 rfl ?_
    refine x_iconst X (v := 0) dX5_begin_17 (by decide) ?_
    obtain ⟨hb1, h⟩ := h
    refine xs_C24 X K hi hA ha0 hb1 dX5_begin_18 ?_
    refine x_aload_n X 0 dX5_begin_19 rfl ?_
    refine xg_X5_15 X K ha0 dX5_begin_20 ?_
    refine x_iload_n X 1 dX5_begin_23 rfl ?_
    refine x_iconst X (v := 0) dX5_begin_24 (by decide) ?_
    obtain ⟨hb2, h⟩ := h
    refine xs_C25 X K hi hA ha0 hb2 dX5_begin_25 ?_
    refine x_aload_n X 0 dX5_begin_26 rfl ?_
    refine xg_X5_18 X K ha0 dX5_begin_27 ?_
    refine x_iload_n X 1 dX5_begin_30 rfl ?_
    refine x_iconst X (v := 0) dX5_begin_31 (by decide) ?_
    obtain ⟨hb3, h⟩ := h
    refine xs_C26 X K hi hA ha0 hb3 dX5_begin_32 ?_
    refine x_iinc X 1 [(1, .int (v1 + (1 : Int32))), (0, .ref (ad 5 a0))] dX5_begin_33 rfl rfl (by rw [hN]; decide) rfl ?_
    refine x_goto X 7 dX5_begin_36 (by decide) ?_
    refine x_sub [1, 0] rfl ?_
    exact hK7 (xI (xI (xI S 24 a0 v1.toNatClampNeg (0 : Int32)) 25 a0 v1.toNatClampNeg (0 : Int32)) 26 a0 v1.toNatClampNeg (0 : Int32)) (v1 + (1 : Int32)) h
set_option maxHeartbeats 2000000 in
set_option maxRecDepth 20000 in
theorem w_X5_begin_7 {g : xG} {D : va_G} {cy : Nat → ClassId} {ad : Nat → Nat → Nat} {a0 : Nat} {Q : xS → Prop} (V : xEnv g D (xTys cy) (shC cy) ad RX5 cX5_begin none 0 0 2 (xQv Q)) (ha0 : a0 < 60) (n : Nat) : ∀ (S : xS) (v1 : Int32), wp_X5_begin_7 a0 Q n S v1 → Wx g (xW D (shC cy) ad S) 7 [(0, .ref (ad 5 a0)), (1, .int v1)] [] := by
  induction n with
  | zero => intro S v1 h; exact h.elim
  | succ n ih => intro S v1 h; exact w_X5_begin_7_b V ha0 (fun S v1 h => ih S v1 h) S v1 h
set_option maxHeartbeats 2000000 in
set_option maxRecDepth 20000 in
theorem w_X5_begin {g : xG} {D : va_G} {cy : Nat → ClassId} {ad : Nat → Nat → Nat} {a0 : Nat} {S : xS} {Q : xS → Prop} (V : xEnv g D (xTys cy) (shC cy) ad RX5 cX5_begin none 0 0 2 (xQv Q)) (ha0 : a0 < 60) (h : wp_X5_begin a0 S Q) : Wx g (xW D (shC cy) ad S) 0 [(0, .ref (ad 5 a0))] [] := by
  obtain ⟨X, K, hi, hA, hR, E, hN⟩ := V
  have V := xEnv_mk X K hi hA hR E hN
  unfold wp_X5_begin at h
  refine x_aload_n X 0 dX5_begin_0 rfl ?_
  refine x_iconst X (v := 0) dX5_begin_1 (by decide) ?_
  refine xp_X5_27 X K hi hA ha0 dX5_begin_2 ?_
  refine x_iconst X (v := 0) dX5_begin_5 (by decide) ?_
  refine x_istore_n X [(1, .int (0 : Int32)), (0, .ref (ad 5 a0))] dX5_begin_6 (by rw [hN]; decide) rfl ?_
  refine x_sub [1, 0] rfl ?_
  obtain ⟨n1, h⟩ := h
  exact w_X5_begin_7 V ha0 n1 (xI S 5 a0 3 (0 : Int32)) (0 : Int32) h
set_option maxHeartbeats 2000000 in
set_option maxRecDepth 20000 in
theorem m_X5_begin {l : Launch} {D : va_G} {cy : Nat → ClassId} {ad : Nat → Nat → Nat} (hi : xInj (shC cy) ad) {a0 : Nat} {S : xS} {Q : xS → Prop} (ha0 : a0 < 60) (h : wp_X5_begin a0 S Q) : xMet l D (xTys cy) (shC cy) ad yX5_begin cX5_begin 2 none (xRm 0 0) [.ref (ad 5 a0)] S (xQv Q) := xMet_env hi (by decide +kernel) rfl (Nat.le_of_ble_eq_true rfl) (fun g hl V => w_X5_begin V ha0 h)
set_option maxHeartbeats 2000000 in
set_option maxRecDepth 20000 in
theorem w_X5_putRegion_36 {g : xG} {D : va_G} {cy : Nat → ClassId} {ad : Nat → Nat → Nat} {a0 : Nat} {a1 : Int32} {a2 : Int32} {a3 : Int32} {a4 : Int32} {Q : Int32 → xS → Prop} (V : xEnv g D (xTys cy) (shC cy) ad RX5 cX5_putRegion (some .boolean) 0 0 6 (xQi Q)) (ha0 : a0 < 60) (S : xS) (s0 : Int32) (h : wp_X5_putRegion_36 a0 a1 a2 a3 a4 Q S s0) : Wx g (xW D (shC cy) ad S) 36 [(0, .ref (ad 5 a0)), (1, .int a1), (2, .int a2), (3, .int a3), (4, .int a4)] [.int s0] := by
  obtain ⟨X, K, hi, hA, hR, E, hN⟩ := V
  have V := xEnv_mk X K hi hA hR E hN
  unfold wp_X5_putRegion_36 at h
  refine x_istore X [(5, .int s0), (0, .ref (ad 5 a0)), (1, .int a1), (2, .int a2), (3, .int a3), (4, .int a4)] dX5_putRegion_36 (by rw [hN]; decide) rfl ?_
  refine x_aload_n X 1 dX5_putRegion_38 rfl ?_
  refine xg_X5_9 X K ha0 dX5_putRegion_39 ?_
  refine x_iload_n X 2 dX5_putRegion_42 rfl ?_
  refine x_iload_n X 3 dX5_putRegion_43 rfl ?_
  obtain ⟨hb1, h⟩ := h
  refine xs_C24 X K hi hA ha0 hb1 dX5_putRegion_44 ?_
  refine x_aload_n X 1 dX5_putRegion_45 rfl ?_
  refine xg_X5_15 X K ha0 dX5_putRegion_46 ?_
  refine x_iload_n X 2 dX5_putRegion_49 rfl ?_
  refine x_iload_n X 4 dX5_putRegion_50 rfl ?_
  obtain ⟨hb2, h⟩ := h
  refine xs_C25 X K hi hA ha0 hb2 dX5_putRegion_51 ?_
  refine x_aload_n X 1 dX5_putRegion_52 rfl ?_
  refine xg_X5_18 X K ha0 dX5_putRegion_53 ?_
  refine x_iload_n X 2 dX5_putRegion_56 rfl ?_
  refine x_iload X 5 dX5_putRegion_57 rfl ?_
  obtain ⟨hb3, h⟩ := h
  refine xs_C26 X K hi hA ha0 hb3 dX5_putRegion_59 ?_
  refine x_iload X 0 dX5_putRegion_60 rfl ?_
  exact x_zret X E dX5_putRegion_62 h.1 ⟨_, rfl, h.2⟩
set_option maxHeartbeats 2000000 in
set_option maxRecDepth 20000 in
theorem w_X5_putRegion_31 {g : xG} {D : va_G} {cy : Nat → ClassId} {ad : Nat → Nat → Nat} {a0 : Nat} {a1 : Int32} {a2 : Int32} {a3 : Int32} {a4 : Int32} {Q : Int32 → xS → Prop} (V : xEnv g D (xTys cy) (shC cy) ad RX5 cX5_putRegion (some .boolean) 0 0 6 (xQi Q)) (ha0 : a0 < 60) (S : xS) (h : wp_X5_putRegion_31 a0 a1 a2 a3 a4 Q S) : Wx g (xW D (shC cy) ad S) 31 [(0, .ref (ad 5 a0)), (1, .int a1), (2, .int a2), (3, .int a3), (4, .int a4)] [] := by
  obtain ⟨X, K, hi, hA, hR, E, hN⟩ := V
  have V := xEnv_mk X K hi hA hR E hN
  unfold wp_X5_putRegion_31 at h
  refine x_iconst X (v := 1) dX5_putRegion_31 (by decide) ?_
  refine x_goto X 36 dX5_putRegion_32 (by decide) ?_
  refine x_sub [0, 1, 2, 3, 4] rfl ?_
  exact w_X5_putRegion_36 V ha0 S (1 : Int32) h
set_option maxHeartbeats 2000000 in
set_option maxRecDepth 20000 in
theorem w_X5_putRegion {g : xG} {D : va_G} {cy : Nat → ClassId} {ad : Nat → Nat → Nat} {a0 : Nat} {a1 : Int32} {a2 : Int32} {a3 : Int32} {a4 : Int32} {S : xS} {Q : Int32 → xS → Prop} (V : xEnv g D (xTys cy) (shC cy) ad RX5 cX5_putRegion (some .boolean) 0 0 6 (xQi Q)) (ha0 : a0 < 60) (h : wp_X5_putRegion a0 a1 a2 a3 a4 S Q) : Wx g (xW D (shC cy) ad S) 0 [(0, .ref (ad 5 a0)), (1, .int a1), (2, .int a2), (3, .int a3), (4, .int a4)] [] := by
  obtain ⟨X, K, hi, hA, hR, E, hN⟩ := V
  have V := xEnv_mk X K hi hA hR E hN
  unfold wp_X5_putRegion at h
  refine x_aload_n X 0 dX5_putRegion_0 rfl ?_
  refine xg_X5_9 X K ha0 dX5_putRegion_1 ?_
  refine x_iload_n X 1 dX5_putRegion_4 rfl ?_
  obtain ⟨hb1, h⟩ := h
  refine xa_C24 X K ha0 hb1 dX5_putRegion_5 ?_
  refine x_iload_n X 2 dX5_putRegion_6 rfl ?_
  refine x_icmp_ne X 31 dX5_putRegion_7 (by decide) h (fun h => ?_) (fun h => ?_)
  · refine x_aload_n X 0 dX5_putRegion_10 rfl ?_
    refine xg_X5_15 X K ha0 dX5_putRegion_11 ?_
    refine x_iload_n X 1 dX5_putRegion_14 rfl ?_
    obtain ⟨hb2, h⟩ := h
    refine xa_C25 X K ha0 hb2 dX5_putRegion_15 ?_
    refine x_iload_n X 3 dX5_putRegion_16 rfl ?_
    refine x_icmp_ne X 31 dX5_putRegion_17 (by decide) h (fun h => ?_) (fun h => ?_)
    · refine x_aload_n X 0 dX5_putRegion_20 rfl ?_
      refine xg_X5_18 X K ha0 dX5_putRegion_21 ?_
      refine x_iload_n X 1 dX5_putRegion_24 rfl ?_
      obtain ⟨hb3, h⟩ := h
      refine xa_C26 X K ha0 hb3 dX5_putRegion_25 ?_
      refine x_iload X 4 dX5_putRegion_26 rfl ?_
      refine x_icmp_eq X 35 dX5_putRegion_28 (by decide) h (fun h => ?_) (fun h => ?_)
      · refine x_iconst X (v := 0) dX5_putRegion_35 (by decide) ?_
        refine x_sub [0, 1, 2, 3, 4] rfl ?_
        exact w_X5_putRegion_36 V ha0 S (0 : Int32) h
      · refine x_sub [0, 1, 2, 3, 4] rfl ?_
        exact w_X5_putRegion_31 V ha0 S h
    · refine x_sub [0, 1, 2, 3, 4] rfl ?_
      exact w_X5_putRegion_31 V ha0 S h
  · refine x_sub [0, 1, 2, 3, 4] rfl ?_
    exact w_X5_putRegion_31 V ha0 S h
set_option maxHeartbeats 2000000 in
set_option maxRecDepth 20000 in
theorem m_X5_putRegion {l : Launch} {D : va_G} {cy : Nat → ClassId} {ad : Nat → Nat → Nat} (hi : xInj (shC cy) ad) {a0 : Nat} {a1 : Int32} {a2 : Int32} {a3 : Int32} {a4 : Int32} {S : xS} {Q : Int32 → xS → Prop} (ha0 : a0 < 60) (h : wp_X5_putRegion a0 a1 a2 a3 a4 S Q) : xMet l D (xTys cy) (shC cy) ad yX5_putRegion cX5_putRegion 6 (some .boolean) (xRm 0 0) [.ref (ad 5 a0), .int a1, .int a2, .int a3, .int a4] S (xQi Q) := xMet_env hi (by decide +kernel) rfl (Nat.le_of_ble_eq_true rfl) (fun g hl V => w_X5_putRegion V ha0 h)
set_option maxHeartbeats 2000000 in
set_option maxRecDepth 20000 in
theorem w_X6_within_15 {g : xG} {D : va_G} {cy : Nat → ClassId} {ad : Nat → Nat → Nat} {Q : Int32 → xS → Prop} (V : xEnv g D (xTys cy) (shC cy) ad RX6 cX6_within (some .boolean) 0 0 3 (xQi Q)) (S : xS) (s0 : Int32) (h : wp_X6_within_15 Q S s0) : Wx g (xW D (shC cy) ad S) 15 [] [.int s0] := by
  obtain ⟨X, K, hi, hA, hR, E, hN⟩ := V
  have V := xEnv_mk X K hi hA hR E hN
  unfold wp_X6_within_15 at h
  exact x_zret X E dX6_within_15 h.1 ⟨_, rfl, h.2⟩
set_option maxHeartbeats 2000000 in
set_option maxRecDepth 20000 in
theorem w_X6_within_14 {g : xG} {D : va_G} {cy : Nat → ClassId} {ad : Nat → Nat → Nat} {Q : Int32 → xS → Prop} (V : xEnv g D (xTys cy) (shC cy) ad RX6 cX6_within (some .boolean) 0 0 3 (xQi Q)) (S : xS) (h : wp_X6_within_14 Q S) : Wx g (xW D (shC cy) ad S) 14 [] [] := by
  obtain ⟨X, K, hi, hA, hR, E, hN⟩ := V
  have V := xEnv_mk X K hi hA hR E hN
  unfold wp_X6_within_14 at h
  refine x_iconst X (v := 0) dX6_within_14 (by decide) ?_
  refine x_sub [] rfl ?_
  exact w_X6_within_15 V S (0 : Int32) h
set_option maxHeartbeats 2000000 in
set_option maxRecDepth 20000 in
theorem w_X6_within {g : xG} {D : va_G} {cy : Nat → ClassId} {ad : Nat → Nat → Nat} {a0 : Int32} {a1 : Int32} {a2 : Int32} {S : xS} {Q : Int32 → xS → Prop} (V : xEnv g D (xTys cy) (shC cy) ad RX6 cX6_within (some .boolean) 0 0 3 (xQi Q)) (h : wp_X6_within a0 a1 a2 S Q) : Wx g (xW D (shC cy) ad S) 0 [(0, .int a0), (1, .int a1), (2, .int a2)] [] := by
  obtain ⟨X, K, hi, hA, hR, E, hN⟩ := V
  have V := xEnv_mk X K hi hA hR E hN
  unfold wp_X6_within at h
  refine x_iload_n X 0 dX6_within_0 rfl ?_
  refine x_iload_n X 1 dX6_within_1 rfl ?_
  refine x_icmp_lt X 14 dX6_within_2 (by decide) h (fun h => ?_) (fun h => ?_)
  · refine x_sub [] rfl ?_
    exact w_X6_within_14 V S h
  · refine x_iload_n X 0 dX6_within_5 rfl ?_
    refine x_iload_n X 2 dX6_within_6 rfl ?_
    refine x_icmp_gt X 14 dX6_within_7 (by decide) h (fun h => ?_) (fun h => ?_)
    · refine x_sub [] rfl ?_
      exact w_X6_within_14 V S h
    · refine x_iconst X (v := 1) dX6_within_10 (by decide) ?_
      refine x_goto X 15 dX6_within_11 (by decide) ?_
      refine x_sub [] rfl ?_
      exact w_X6_within_15 V S (1 : Int32) h
set_option maxHeartbeats 2000000 in
set_option maxRecDepth 20000 in
theorem m_X6_within {l : Launch} {D : va_G} {cy : Nat → ClassId} {ad : Nat → Nat → Nat} (hi : xInj (shC cy) ad) {a0 : Int32} {a1 : Int32} {a2 : Int32} {S : xS} {Q : Int32 → xS → Prop} (h : wp_X6_within a0 a1 a2 S Q) : xMet l D (xTys cy) (shC cy) ad yX6_within cX6_within 3 (some .boolean) (xRm 0 0) [.int a0, .int a1, .int a2] S (xQi Q) := xMet_env hi (by decide +kernel) rfl (Nat.le_of_ble_eq_true rfl) (fun g hl V => w_X6_within V h)
set_option maxHeartbeats 2000000 in
set_option maxRecDepth 20000 in
theorem w_X6_addAxis_36 {g : xG} {D : va_G} {cy : Nat → ClassId} {ad : Nat → Nat → Nat} {Q : Int32 → xS → Prop} (V : xEnv g D (xTys cy) (shC cy) ad RX6 cX6_addAxis (some .int) 1 24 4 (xQi Q)) (S : xS) (h : wp_X6_addAxis_36 Q S) : Wx g (xW D (shC cy) ad S) 36 [] [] := by
  obtain ⟨X, K, hi, hA, hR, E, hN⟩ := V
  have V := xEnv_mk X K hi hA hR E hN
  unfold wp_X6_addAxis_36 at h
  refine x_ldc X (v := -1000005) t2_7 dX6_addAxis_36 ?_
  exact x_iret X E dX6_addAxis_38 ⟨_, rfl, h⟩
set_option maxHeartbeats 2000000 in
set_option maxRecDepth 20000 in
theorem w_X6_addAxis {g : xG} {D : va_G} {cy : Nat → ClassId} {ad : Nat → Nat → Nat} {a1 : Int32} {a2 : Int32} {a3 : Int32} {S : xS} {Q : Int32 → xS → Prop} (V : xEnv g D (xTys cy) (shC cy) ad RX6 cX6_addAxis (some .int) 1 24 4 (xQi Q)) (h : wp_X6_addAxis a1 a2 a3 S Q) : Wx g (xW D (shC cy) ad S) 0 [(0, .ref (ad 6 0)), (1, .int a1), (2, .int a2), (3, .int a3)] [] := by
  obtain ⟨X, K, hi, hA, hR, E, hN⟩ := V
  have V := xEnv_mk X K hi hA hR E hN
  unfold wp_X6_addAxis at h
  refine x_iload_n X 1 dX6_addAxis_0 rfl ?_
  refine x_ldc X (v := -100000) t2_2 dX6_addAxis_1 ?_
  refine x_ldc X (v := 100000) t2_3 dX6_addAxis_3 ?_
  refine x_calli hA (x_runS (n := 3) X K hR (fun _ q => q) (m_X6_within hi  h) t2_4 t2_5 t1_1 t2_6 ⟨by decide, by decide, by decide +kernel⟩ rfl (by decide) (by decide) rfl (Nat.le_of_ble_eq_true rfl) dX6_addAxis_5) (fun r2 S1 h => ?_)
  refine x_if_eq X 36 dX6_addAxis_8 (by decide) h (fun h => ?_) (fun h => ?_)
  · refine x_sub [] rfl ?_
    exact w_X6_addAxis_36 V S1 h
  · refine x_iload_n X 2 dX6_addAxis_11 rfl ?_
    refine x_iload_n X 1 dX6_addAxis_12 rfl ?_
    refine x_ldc X (v := 100000) t2_3 dX6_addAxis_13 ?_
    refine x_calli hA (x_runS (n := 3) X K hR (fun _ q => q) (m_X6_within hi  h) t2_4 t2_5 t1_1 t2_6 ⟨by decide, by decide, by decide +kernel⟩ rfl (by decide) (by decide) rfl (Nat.le_of_ble_eq_true rfl) dX6_addAxis_15) (fun r4 S3 h => ?_)
    refine x_if_eq X 36 dX6_addAxis_18 (by decide) h (fun h => ?_) (fun h => ?_)
    · refine x_sub [] rfl ?_
      exact w_X6_addAxis_36 V S3 h
    · refine x_iload_n X 3 dX6_addAxis_21 rfl ?_
      refine x_iload_n X 2 dX6_addAxis_22 rfl ?_
      refine x_ldc X (v := 100000) t2_3 dX6_addAxis_23 ?_
      refine x_calli hA (x_runS (n := 3) X K hR (fun _ q => q) (m_X6_within hi  h) t2_4 t2_5 t1_1 t2_6 ⟨by decide, by decide, by decide +kernel⟩ rfl (by decide) (by decide) rfl (Nat.le_of_ble_eq_true rfl) dX6_addAxis_25) (fun r6 S5 h => ?_)
      refine x_if_eq X 36 dX6_addAxis_28 (by decide) h (fun h => ?_) (fun h => ?_)
      · refine x_sub [] rfl ?_
        exact w_X6_addAxis_36 V S5 h
      · refine x_iload_n X 3 dX6_addAxis_31 rfl ?_
        refine x_iload_n X 1 dX6_addAxis_32 rfl ?_
        refine x_icmp_ne X 39 dX6_addAxis_33 (by decide) h (fun h => ?_) (fun h => ?_)
        · refine x_sub [] rfl ?_
          exact w_X6_addAxis_36 V S5 h
        · refine x_aload_n X 0 dX6_addAxis_39 rfl ?_
          refine xg_X6_71 X K Nat.zero_lt_one dX6_addAxis_40 ?_
          refine x_iconst X (v := 4) dX6_addAxis_43 (by decide) ?_
          refine x_icmp_lt X 50 dX6_addAxis_44 (by decide) h (fun h => ?_) (fun h => ?_)
          · refine x_aload_n X 0 dX6_addAxis_50 rfl ?_
            refine xg_X6_13 X K Nat.zero_lt_one dX6_addAxis_51 ?_
            refine x_aload_n X 0 dX6_addAxis_54 rfl ?_
            refine xg_X6_71 X K Nat.zero_lt_one dX6_addAxis_55 ?_
            obtain ⟨hb7, h⟩ := h
            refine xa_C29 X K (show 0 < 1 by decide) hb7 dX6_addAxis_58 ?_
            refine x_iload_n X 1 dX6_addAxis_59 rfl ?_
            refine x_iload_n X 2 dX6_addAxis_60 rfl ?_
            refine x_iload_n X 3 dX6_addAxis_61 rfl ?_
            refine x_callv hA (x_runV (n := 3) (sh := shC cy) X K hR (fun _ q => q) (m_X0_begin hi (xIn_lt hb7) h) (kC_0 cy (xIn_lt hb7)) rfl rfl t2_9 t2_10 t2_11 t1_7 t2_12 ⟨by decide, by decide, by decide +kernel⟩ rfl (by decide) (by decide) rfl (Nat.le_of_ble_eq_true rfl) dX6_addAxis_62) (fun S8 h => ?_)
            refine x_aload_n X 0 dX6_addAxis_65 rfl ?_
            refine x_dup X dX6_addAxis_66 rfl ?_
            refine xg_X6_71 X K Nat.zero_lt_one dX6_addAxis_67 ?_
            refine x_iconst X (v := 1) dX6_addAxis_70 (by decide) ?_
            refine x_iadd X dX6_addAxis_71 ?_
            refine xp_X6_71 X K hi hA Nat.zero_lt_one dX6_addAxis_72 ?_
            refine x_aload_n X 0 dX6_addAxis_75 rfl ?_
            refine xg_X6_71 X K Nat.zero_lt_one dX6_addAxis_76 ?_
            refine x_iconst X (v := 1) dX6_addAxis_79 (by decide) ?_
            refine x_isub X dX6_addAxis_80 ?_
            exact x_iret X E dX6_addAxis_81 ⟨_, rfl, h⟩
          · refine x_ldc X (v := -1000006) t2_8 dX6_addAxis_47 ?_
            exact x_iret X E dX6_addAxis_49 ⟨_, rfl, h⟩
set_option maxHeartbeats 2000000 in
set_option maxRecDepth 20000 in
theorem m_X6_addAxis {l : Launch} {D : va_G} {cy : Nat → ClassId} {ad : Nat → Nat → Nat} (hi : xInj (shC cy) ad) {a1 : Int32} {a2 : Int32} {a3 : Int32} {S : xS} {Q : Int32 → xS → Prop} (h : wp_X6_addAxis a1 a2 a3 S Q) : xMet l D (xTys cy) (shC cy) ad yX6_addAxis cX6_addAxis 4 (some .int) (xRm 1 24) [.ref (ad 6 0), .int a1, .int a2, .int a3] S (xQi Q) := xMet_env hi (by decide +kernel) rfl (Nat.le_of_ble_eq_true rfl) (fun g hl V => w_X6_addAxis V h)
set_option maxHeartbeats 2000000 in
set_option maxRecDepth 20000 in
theorem w_X6_hasAxis_17 {g : xG} {D : va_G} {cy : Nat → ClassId} {ad : Nat → Nat → Nat} {Q : Int32 → xS → Prop} (V : xEnv g D (xTys cy) (shC cy) ad RX6 cX6_hasAxis (some .boolean) 0 0 2 (xQi Q)) (S : xS) (s0 : Int32) (h : wp_X6_hasAxis_17 Q S s0) : Wx g (xW D (shC cy) ad S) 17 [] [.int s0] := by
  obtain ⟨X, K, hi, hA, hR, E, hN⟩ := V
  have V := xEnv_mk X K hi hA hR E hN
  unfold wp_X6_hasAxis_17 at h
  exact x_zret X E dX6_hasAxis_17 h.1 ⟨_, rfl, h.2⟩
set_option maxHeartbeats 2000000 in
set_option maxRecDepth 20000 in
theorem w_X6_hasAxis_16 {g : xG} {D : va_G} {cy : Nat → ClassId} {ad : Nat → Nat → Nat} {Q : Int32 → xS → Prop} (V : xEnv g D (xTys cy) (shC cy) ad RX6 cX6_hasAxis (some .boolean) 0 0 2 (xQi Q)) (S : xS) (h : wp_X6_hasAxis_16 Q S) : Wx g (xW D (shC cy) ad S) 16 [] [] := by
  obtain ⟨X, K, hi, hA, hR, E, hN⟩ := V
  have V := xEnv_mk X K hi hA hR E hN
  unfold wp_X6_hasAxis_16 at h
  refine x_iconst X (v := 0) dX6_hasAxis_16 (by decide) ?_
  refine x_sub [] rfl ?_
  exact w_X6_hasAxis_17 V S (0 : Int32) h
set_option maxHeartbeats 2000000 in
set_option maxRecDepth 20000 in
theorem w_X6_hasAxis {g : xG} {D : va_G} {cy : Nat → ClassId} {ad : Nat → Nat → Nat} {a1 : Int32} {S : xS} {Q : Int32 → xS → Prop} (V : xEnv g D (xTys cy) (shC cy) ad RX6 cX6_hasAxis (some .boolean) 0 0 2 (xQi Q)) (h : wp_X6_hasAxis a1 S Q) : Wx g (xW D (shC cy) ad S) 0 [(0, .ref (ad 6 0)), (1, .int a1)] [] := by
  obtain ⟨X, K, hi, hA, hR, E, hN⟩ := V
  have V := xEnv_mk X K hi hA hR E hN
  unfold wp_X6_hasAxis at h
  refine x_iload_n X 1 dX6_hasAxis_0 rfl ?_
  refine x_if_lt X 16 dX6_hasAxis_1 (by decide) h (fun h => ?_) (fun h => ?_)
  · refine x_sub [] rfl ?_
    exact w_X6_hasAxis_16 V S h
  · refine x_iload_n X 1 dX6_hasAxis_4 rfl ?_
    refine x_aload_n X 0 dX6_hasAxis_5 rfl ?_
    refine xg_X6_71 X K Nat.zero_lt_one dX6_hasAxis_6 ?_
    refine x_icmp_ge X 16 dX6_hasAxis_9 (by decide) h (fun h => ?_) (fun h => ?_)
    · refine x_sub [] rfl ?_
      exact w_X6_hasAxis_16 V S h
    · refine x_iconst X (v := 1) dX6_hasAxis_12 (by decide) ?_
      refine x_goto X 17 dX6_hasAxis_13 (by decide) ?_
      refine x_sub [] rfl ?_
      exact w_X6_hasAxis_17 V S (1 : Int32) h
set_option maxHeartbeats 2000000 in
set_option maxRecDepth 20000 in
theorem m_X6_hasAxis {l : Launch} {D : va_G} {cy : Nat → ClassId} {ad : Nat → Nat → Nat} (hi : xInj (shC cy) ad) {a1 : Int32} {S : xS} {Q : Int32 → xS → Prop} (h : wp_X6_hasAxis a1 S Q) : xMet l D (xTys cy) (shC cy) ad yX6_hasAxis cX6_hasAxis 2 (some .boolean) (xRm 0 0) [.ref (ad 6 0), .int a1] S (xQi Q) := xMet_env hi (by decide +kernel) rfl (Nat.le_of_ble_eq_true rfl) (fun g hl V => w_X6_hasAxis V h)
set_option maxHeartbeats 2000000 in
set_option maxRecDepth 20000 in
theorem w_X6_addMapPair_46 {g : xG} {D : va_G} {cy : Nat → ClassId} {ad : Nat → Nat → Nat} {Q : Int32 → xS → Prop} (V : xEnv g D (xTys cy) (shC cy) ad RX6 cX6_addMapPair (some .int) 2 46 5 (xQi Q)) (S : xS) (h : wp_X6_addMapPair_46 Q S) : Wx g (xW D (shC cy) ad S) 46 [] [] := by
  obtain ⟨X, K, hi, hA, hR, E, hN⟩ := V
  have V := xEnv_mk X K hi hA hR E hN
  unfold wp_X6_addMapPair_46 at h
  refine x_ldc X (v := -1000005) t2_7 dX6_addMapPair_46 ?_
  exact x_iret X E dX6_addMapPair_48 ⟨_, rfl, h⟩
set_option maxHeartbeats 2000000 in
set_option maxRecDepth 20000 in
theorem w_X6_addMapPair_71 {g : xG} {D : va_G} {cy : Nat → ClassId} {ad : Nat → Nat → Nat} {a2 : Int32} {a3 : Int32} {Q : Int32 → xS → Prop} (V : xEnv g D (xTys cy) (shC cy) ad RX6 cX6_addMapPair (some .int) 2 46 5 (xQi Q)) (S : xS) (v4 : Nat) (hv4 : v4 < 4) (h : wp_X6_addMapPair_71 a2 a3 Q S v4) : Wx g (xW D (shC cy) ad S) 71 [(2, .int a2), (3, .int a3), (4, .ref (ad 0 v4))] [] := by
  obtain ⟨X, K, hi, hA, hR, E, hN⟩ := V
  have V := xEnv_mk X K hi hA hR E hN
  unfold wp_X6_addMapPair_71 at h
  refine x_aload X 2 dX6_addMapPair_71 rfl ?_
  refine x_iload_n X 0 dX6_addMapPair_73 rfl ?_
  refine x_iload_n X 1 dX6_addMapPair_74 rfl ?_
  refine x_callv hA (x_runV (n := 2) (sh := shC cy) X K hR (fun _ q => q) (m_X0_putPair hi hv4 h) (kC_0 cy hv4) rfl rfl t2_34 t2_35 t2_36 t1_7 t2_37 ⟨by decide, by decide, by decide +kernel⟩ rfl (by decide) (by decide) rfl (Nat.le_of_ble_eq_true rfl) dX6_addMapPair_75) (fun S1 h => ?_)
  refine x_aload X 2 dX6_addMapPair_78 rfl ?_
  refine xg_X6_89 X K hv4 dX6_addMapPair_80 ?_
  exact x_iret X E dX6_addMapPair_83 ⟨_, rfl, h⟩
set_option maxHeartbeats 2000000 in
set_option maxRecDepth 20000 in
theorem w_X6_addMapPair {g : xG} {D : va_G} {cy : Nat → ClassId} {ad : Nat → Nat → Nat} {a1 : Int32} {a2 : Int32} {a3 : Int32} {S : xS} {Q : Int32 → xS → Prop} (V : xEnv g D (xTys cy) (shC cy) ad RX6 cX6_addMapPair (some .int) 2 46 5 (xQi Q)) (h : wp_X6_addMapPair a1 a2 a3 S Q) : Wx g (xW D (shC cy) ad S) 0 [(0, .ref (ad 6 0)), (1, .int a1), (2, .int a2), (3, .int a3)] [] := by
  obtain ⟨X, K, hi, hA, hR, E, hN⟩ := V
  have V := xEnv_mk X K hi hA hR E hN
  unfold wp_X6_addMapPair at h
  refine x_aload_n X 0 dX6_addMapPair_0 rfl ?_
  refine x_iload_n X 1 dX6_addMapPair_1 rfl ?_
  refine x_calli hA (x_runV (n := 1) (sh := shC cy) X K hR (fun _ q => q) (m_X6_hasAxis hi  h) (kC_6 cy Nat.zero_lt_one) rfl rfl t2_17 t2_19 tp_0 t1_1 t2_20 ⟨by decide, by decide, by decide +kernel⟩ rfl (by decide) (by decide) rfl (Nat.le_of_ble_eq_true rfl) dX6_addMapPair_2) (fun r2 S1 h => ?_)
  refine x_if_ne X 11 dX6_addMapPair_5 (by decide) h (fun h => ?_) (fun h => ?_)
  · refine x_ldc X (v := -1000001) t2_21 dX6_addMapPair_8 ?_
    exact x_iret X E dX6_addMapPair_10 ⟨_, rfl, h⟩
  · refine x_aload_n X 0 dX6_addMapPair_11 rfl ?_
    refine xg_X6_13 X K Nat.zero_lt_one dX6_addMapPair_12 ?_
    refine x_iload_n X 1 dX6_addMapPair_15 rfl ?_
    obtain ⟨hb3, h⟩ := h
    refine xa_C29 X K (show 0 < 1 by decide) hb3 dX6_addMapPair_16 ?_
    refine x_astore X [(4, .ref (ad 0 a1.toNatClampNeg)), (0, .ref (ad 6 0)), (1, .int a1), (2, .int a2), (3, .int a3)] dX6_addMapPair_17 (by rw [hN]; decide) rfl ?_
    refine x_iload_n X 3 dX6_addMapPair_19 rfl ?_
    refine x_sipush X (v := -16383) dX6_addMapPair_20 (by decide) ?_
    refine x_sipush X (v := 16383) dX6_addMapPair_23 (by decide) ?_
    refine x_calli hA (x_runS (n := 3) X K hR (fun _ q => q) (m_X6_within hi  h) t2_4 t2_5 t1_1 t2_6 ⟨by decide, by decide, by decide +kernel⟩ rfl (by decide) (by decide) rfl (Nat.le_of_ble_eq_true rfl) dX6_addMapPair_26) (fun r5 S4 h => ?_)
    refine x_if_eq X 46 dX6_addMapPair_29 (by decide) h (fun h => ?_) (fun h => ?_)
    · refine x_sub [] rfl ?_
      exact w_X6_addMapPair_46 V S4 h
    · refine x_iload_n X 3 dX6_addMapPair_32 rfl ?_
      refine x_if_eq X 46 dX6_addMapPair_33 (by decide) h (fun h => ?_) (fun h => ?_)
      · refine x_sub [] rfl ?_
        exact w_X6_addMapPair_46 V S4 h
      · refine x_aload X 0 dX6_addMapPair_36 rfl ?_
        refine x_iload_n X 3 dX6_addMapPair_38 rfl ?_
        refine x_iload_n X 4 dX6_addMapPair_39 rfl ?_
        refine x_calli hA (x_runV (n := 2) (sh := shC cy) X K hR (fun _ q => q) (m_X0_keepsOrder hi (xIn_lt hb3) h) (kC_0 cy (xIn_lt hb3)) rfl rfl t2_22 t2_23 t2_24 t1_7 t2_25 ⟨by decide, by decide, by decide +kernel⟩ rfl (by decide) (by decide) rfl (Nat.le_of_ble_eq_true rfl) dX6_addMapPair_40) (fun r7 S6 h => ?_)
        refine x_if_ne X 49 dX6_addMapPair_43 (by decide) h (fun h => ?_) (fun h => ?_)
        · refine x_sub [] rfl ?_
          exact w_X6_addMapPair_46 V S6 h
        · refine x_aload X 0 dX6_addMapPair_49 rfl ?_
          refine xg_X6_89 X K (xIn_lt hb3) dX6_addMapPair_51 ?_
          refine x_bipush X (v := 8) dX6_addMapPair_54 (by decide) ?_
          refine x_icmp_lt X 71 dX6_addMapPair_56 (by decide) h (fun h => ?_) (fun h => ?_)
          · refine x_sub [3, 4, 0] rfl ?_
            exact w_X6_addMapPair_71 V S6 a1.toNatClampNeg (xIn_lt hb3) h
          · refine x_aload X 0 dX6_addMapPair_59 rfl ?_
            refine x_iload_n X 3 dX6_addMapPair_61 rfl ?_
            refine x_calli hA (x_runV (n := 1) (sh := shC cy) X K hR (fun _ q => q) (m_X0_hasPair hi (xIn_lt hb3) h) (kC_0 cy (xIn_lt hb3)) rfl rfl t2_26 t2_27 t2_28 t1_7 t2_29 ⟨by decide, by decide, by decide +kernel⟩ rfl (by decide) (by decide) rfl (Nat.le_of_ble_eq_true rfl) dX6_addMapPair_62) (fun r9 S8 h => ?_)
            refine x_if_ne X 71 dX6_addMapPair_65 (by decide) h (fun h => ?_) (fun h => ?_)
            · refine x_ldc X (v := -1000006) t2_8 dX6_addMapPair_68 ?_
              exact x_iret X E dX6_addMapPair_70 ⟨_, rfl, h⟩
            · refine x_sub [3, 4, 0] rfl ?_
              exact w_X6_addMapPair_71 V S8 a1.toNatClampNeg (xIn_lt hb3) h
set_option maxHeartbeats 2000000 in
set_option maxRecDepth 20000 in
theorem m_X6_addMapPair {l : Launch} {D : va_G} {cy : Nat → ClassId} {ad : Nat → Nat → Nat} (hi : xInj (shC cy) ad) {a1 : Int32} {a2 : Int32} {a3 : Int32} {S : xS} {Q : Int32 → xS → Prop} (h : wp_X6_addMapPair a1 a2 a3 S Q) : xMet l D (xTys cy) (shC cy) ad yX6_addMapPair cX6_addMapPair 5 (some .int) (xRm 2 46) [.ref (ad 6 0), .int a1, .int a2, .int a3] S (xQi Q) := xMet_env hi (by decide +kernel) rfl (Nat.le_of_ble_eq_true rfl) (fun g hl V => w_X6_addMapPair V h)
set_option maxHeartbeats 2000000 in
set_option maxRecDepth 20000 in
theorem w_X6_normalize_23 {g : xG} {D : va_G} {cy : Nat → ClassId} {ad : Nat → Nat → Nat} {Q : Int32 → xS → Prop} (V : xEnv g D (xTys cy) (shC cy) ad RX6 cX6_normalize (some .int) 4 93 3 (xQi Q)) (S : xS) (s0 : Int32) (h : wp_X6_normalize_23 Q S s0) : Wx g (xW D (shC cy) ad S) 23 [] [.int s0] := by
  obtain ⟨X, K, hi, hA, hR, E, hN⟩ := V
  have V := xEnv_mk X K hi hA hR E hN
  unfold wp_X6_normalize_23 at h
  exact x_iret X E dX6_normalize_23 ⟨_, rfl, h⟩
set_option maxHeartbeats 2000000 in
set_option maxRecDepth 20000 in
theorem w_X6_normalize {g : xG} {D : va_G} {cy : Nat → ClassId} {ad : Nat → Nat → Nat} {a1 : Int32} {a2 : Int32} {S : xS} {Q : Int32 → xS → Prop} (V : xEnv g D (xTys cy) (shC cy) ad RX6 cX6_normalize (some .int) 4 93 3 (xQi Q)) (h : wp_X6_normalize a1 a2 S Q) : Wx g (xW D (shC cy) ad S) 0 [(0, .ref (ad 6 0)), (1, .int a1), (2, .int a2)] [] := by
  obtain ⟨X, K, hi, hA, hR, E, hN⟩ := V
  have V := xEnv_mk X K hi hA hR E hN
  unfold wp_X6_normalize at h
  refine x_aload_n X 0 dX6_normalize_0 rfl ?_
  refine x_iload_n X 1 dX6_normalize_1 rfl ?_
  refine x_calli hA (x_runV (n := 1) (sh := shC cy) X K hR (fun _ q => q) (m_X6_hasAxis hi  h) (kC_6 cy Nat.zero_lt_one) rfl rfl t2_17 t2_19 tp_0 t1_1 t2_20 ⟨by decide, by decide, by decide +kernel⟩ rfl (by decide) (by decide) rfl (Nat.le_of_ble_eq_true rfl) dX6_normalize_2) (fun r2 S1 h => ?_)
  refine x_if_eq X 21 dX6_normalize_5 (by decide) h (fun h => ?_) (fun h => ?_)
  · refine x_ldc X (v := -1000001) t2_21 dX6_normalize_21 ?_
    refine x_sub [] rfl ?_
    exact w_X6_normalize_23 V S1 (-1000001 : Int32) h
  · refine x_aload_n X 0 dX6_normalize_8 rfl ?_
    refine xg_X6_13 X K Nat.zero_lt_one dX6_normalize_9 ?_
    refine x_iload_n X 1 dX6_normalize_12 rfl ?_
    obtain ⟨hb3, h⟩ := h
    refine xa_C29 X K (show 0 < 1 by decide) hb3 dX6_normalize_13 ?_
    refine x_iload_n X 2 dX6_normalize_14 rfl ?_
    refine x_calli hA (x_runV (n := 1) (sh := shC cy) X K hR (fun _ q => q) (m_X0_coordinateFor hi (xIn_lt hb3) h) (kC_0 cy (xIn_lt hb3)) rfl rfl t2_42 t2_43 t2_44 t1_7 t2_45 ⟨by decide, by decide, by decide +kernel⟩ rfl (by decide) (by decide) rfl (Nat.le_of_ble_eq_true rfl) dX6_normalize_15) (fun r5 S4 h => ?_)
    refine x_goto X 23 dX6_normalize_18 (by decide) ?_
    refine x_sub [] rfl ?_
    exact w_X6_normalize_23 V S4 r5 h
set_option maxHeartbeats 2000000 in
set_option maxRecDepth 20000 in
theorem m_X6_normalize {l : Launch} {D : va_G} {cy : Nat → ClassId} {ad : Nat → Nat → Nat} (hi : xInj (shC cy) ad) {a1 : Int32} {a2 : Int32} {S : xS} {Q : Int32 → xS → Prop} (h : wp_X6_normalize a1 a2 S Q) : xMet l D (xTys cy) (shC cy) ad yX6_normalize cX6_normalize 3 (some .int) (xRm 4 93) [.ref (ad 6 0), .int a1, .int a2] S (xQi Q) := xMet_env hi (by decide +kernel) rfl (Nat.le_of_ble_eq_true rfl) (fun g hl V => w_X6_normalize V h)
set_option maxHeartbeats 2000000 in
set_option maxRecDepth 20000 in
theorem w_X6_setUser {g : xG} {D : va_G} {cy : Nat → ClassId} {ad : Nat → Nat → Nat} {a1 : Int32} {a2 : Int32} {S : xS} {Q : Int32 → xS → Prop} (V : xEnv g D (xTys cy) (shC cy) ad RX6 cX6_setUser (some .int) 4 93 3 (xQi Q)) (h : wp_X6_setUser a1 a2 S Q) : Wx g (xW D (shC cy) ad S) 0 [(0, .ref (ad 6 0)), (1, .int a1), (2, .int a2)] [] := by
  obtain ⟨X, K, hi, hA, hR, E, hN⟩ := V
  have V := xEnv_mk X K hi hA hR E hN
  unfold wp_X6_setUser at h
  refine x_aload_n X 0 dX6_setUser_0 rfl ?_
  refine x_iload_n X 1 dX6_setUser_1 rfl ?_
  refine x_calli hA (x_runV (n := 1) (sh := shC cy) X K hR (fun _ q => q) (m_X6_hasAxis hi  h) (kC_6 cy Nat.zero_lt_one) rfl rfl t2_17 t2_19 tp_0 t1_1 t2_20 ⟨by decide, by decide, by decide +kernel⟩ rfl (by decide) (by decide) rfl (Nat.le_of_ble_eq_true rfl) dX6_setUser_2) (fun r2 S1 h => ?_)
  refine x_if_ne X 11 dX6_setUser_5 (by decide) h (fun h => ?_) (fun h => ?_)
  · refine x_ldc X (v := -1000001) t2_21 dX6_setUser_8 ?_
    exact x_iret X E dX6_setUser_10 ⟨_, rfl, h⟩
  · refine x_aload_n X 0 dX6_setUser_11 rfl ?_
    refine xg_X6_13 X K Nat.zero_lt_one dX6_setUser_12 ?_
    refine x_iload_n X 1 dX6_setUser_15 rfl ?_
    obtain ⟨hb3, h⟩ := h
    refine xa_C29 X K (show 0 < 1 by decide) hb3 dX6_setUser_16 ?_
    refine xg_X6_103 X K (xIn_lt hb3) dX6_setUser_17 ?_
    refine x_if_eq X 26 dX6_setUser_20 (by decide) h (fun h => ?_) (fun h => ?_)
    · refine x_aload_n X 0 dX6_setUser_26 rfl ?_
      refine xg_X6_17 X K Nat.zero_lt_one dX6_setUser_27 ?_
      refine x_iload_n X 1 dX6_setUser_30 rfl ?_
      refine x_aload_n X 0 dX6_setUser_31 rfl ?_
      refine xg_X6_13 X K Nat.zero_lt_one dX6_setUser_32 ?_
      refine x_iload_n X 1 dX6_setUser_35 rfl ?_
      obtain ⟨hb4, h⟩ := h
      refine xa_C29 X K (show 0 < 1 by decide) hb4 dX6_setUser_36 ?_
      refine x_iload_n X 2 dX6_setUser_37 rfl ?_
      refine x_calli hA (x_runV (n := 1) (sh := shC cy) X K hR (fun _ q => q) (m_X0_coordinateFor hi (xIn_lt hb4) h) (kC_0 cy (xIn_lt hb4)) rfl rfl t2_42 t2_43 t2_44 t1_7 t2_45 ⟨by decide, by decide, by decide +kernel⟩ rfl (by decide) (by decide) rfl (Nat.le_of_ble_eq_true rfl) dX6_setUser_38) (fun r6 S5 h => ?_)
      obtain ⟨hb7, h⟩ := h
      refine xs_C30 X K hi hA (show 0 < 3 by decide) hb7 dX6_setUser_41 ?_
      refine x_aload_n X 0 dX6_setUser_42 rfl ?_
      refine xg_X6_17 X K Nat.zero_lt_one dX6_setUser_43 ?_
      refine x_iload_n X 1 dX6_setUser_46 rfl ?_
      obtain ⟨hb8, h⟩ := h
      refine xa_C30 X K (show 0 < 3 by decide) hb8 dX6_setUser_47 ?_
      exact x_iret X E dX6_setUser_48 ⟨_, rfl, h⟩
    · refine x_ldc X (v := -1000007) t2_72 dX6_setUser_23 ?_
      exact x_iret X E dX6_setUser_25 ⟨_, rfl, h⟩
set_option maxHeartbeats 2000000 in
set_option maxRecDepth 20000 in
theorem m_X6_setUser {l : Launch} {D : va_G} {cy : Nat → ClassId} {ad : Nat → Nat → Nat} (hi : xInj (shC cy) ad) {a1 : Int32} {a2 : Int32} {S : xS} {Q : Int32 → xS → Prop} (h : wp_X6_setUser a1 a2 S Q) : xMet l D (xTys cy) (shC cy) ad yX6_setUser cX6_setUser 3 (some .int) (xRm 4 93) [.ref (ad 6 0), .int a1, .int a2] S (xQi Q) := xMet_env hi (by decide +kernel) rfl (Nat.le_of_ble_eq_true rfl) (fun g hl V => w_X6_setUser V h)
set_option maxHeartbeats 2000000 in
set_option maxRecDepth 20000 in
theorem w_X6_setCoordinate {g : xG} {D : va_G} {cy : Nat → ClassId} {ad : Nat → Nat → Nat} {a1 : Int32} {a2 : Int32} {S : xS} {Q : Int32 → xS → Prop} (V : xEnv g D (xTys cy) (shC cy) ad RX6 cX6_setCoordinate (some .int) 1 22 4 (xQi Q)) (h : wp_X6_setCoordinate a1 a2 S Q) : Wx g (xW D (shC cy) ad S) 0 [(0, .ref (ad 6 0)), (1, .int a1), (2, .int a2)] [] := by
  obtain ⟨X, K, hi, hA, hR, E, hN⟩ := V
  have V := xEnv_mk X K hi hA hR E hN
  unfold wp_X6_setCoordinate at h
  refine x_aload_n X 0 dX6_setCoordinate_0 rfl ?_
  refine x_iload_n X 1 dX6_setCoordinate_1 rfl ?_
  refine x_calli hA (x_runV (n := 1) (sh := shC cy) X K hR (fun _ q => q) (m_X6_hasAxis hi  h) (kC_6 cy Nat.zero_lt_one) rfl rfl t2_17 t2_19 tp_0 t1_1 t2_20 ⟨by decide, by decide, by decide +kernel⟩ rfl (by decide) (by decide) rfl (Nat.le_of_ble_eq_true rfl) dX6_setCoordinate_2) (fun r2 S1 h => ?_)
  refine x_if_ne X 11 dX6_setCoordinate_5 (by decide) h (fun h => ?_) (fun h => ?_)
  · refine x_ldc X (v := -1000001) t2_21 dX6_setCoordinate_8 ?_
    exact x_iret X E dX6_setCoordinate_10 ⟨_, rfl, h⟩
  · refine x_iload_n X 2 dX6_setCoordinate_11 rfl ?_
    refine x_sipush X (v := -16384) dX6_setCoordinate_12 (by decide) ?_
    refine x_sipush X (v := 16384) dX6_setCoordinate_15 (by decide) ?_
    refine x_calli hA (x_runS (n := 3) X K hR (fun _ q => q) (m_X6_within hi  h) t2_4 t2_5 t1_1 t2_6 ⟨by decide, by decide, by decide +kernel⟩ rfl (by decide) (by decide) rfl (Nat.le_of_ble_eq_true rfl) dX6_setCoordinate_18) (fun r4 S3 h => ?_)
    refine x_if_ne X 27 dX6_setCoordinate_21 (by decide) h (fun h => ?_) (fun h => ?_)
    · refine x_ldc X (v := -1000005) t2_7 dX6_setCoordinate_24 ?_
      exact x_iret X E dX6_setCoordinate_26 ⟨_, rfl, h⟩
    · refine x_aload_n X 0 dX6_setCoordinate_27 rfl ?_
      refine xg_X6_13 X K Nat.zero_lt_one dX6_setCoordinate_28 ?_
      refine x_iload_n X 1 dX6_setCoordinate_31 rfl ?_
      obtain ⟨hb5, h⟩ := h
      refine xa_C29 X K (show 0 < 1 by decide) hb5 dX6_setCoordinate_32 ?_
      refine xg_X6_103 X K (xIn_lt hb5) dX6_setCoordinate_33 ?_
      refine x_if_eq X 42 dX6_setCoordinate_36 (by decide) h (fun h => ?_) (fun h => ?_)
      · refine x_aload_n X 0 dX6_setCoordinate_42 rfl ?_
        refine xg_X6_17 X K Nat.zero_lt_one dX6_setCoordinate_43 ?_
        refine x_iload_n X 1 dX6_setCoordinate_46 rfl ?_
        obtain ⟨hb6, h⟩ := h
        refine xa_C30 X K (show 0 < 3 by decide) hb6 dX6_setCoordinate_47 ?_
        refine x_istore_n X [(3, .int (S3.1 30 0 a1.toNatClampNeg)), (0, .ref (ad 6 0)), (1, .int a1), (2, .int a2)] dX6_setCoordinate_48 (by rw [hN]; decide) rfl ?_
        refine x_aload_n X 1 dX6_setCoordinate_49 rfl ?_
        refine xg_X6_17 X K Nat.zero_lt_one dX6_setCoordinate_50 ?_
        refine x_iload_n X 2 dX6_setCoordinate_53 rfl ?_
        refine x_iload_n X 3 dX6_setCoordinate_54 rfl ?_
        obtain ⟨hb7, h⟩ := h
        refine xs_C30 X K hi hA (show 0 < 3 by decide) hb7 dX6_setCoordinate_55 ?_
        refine x_iload_n X 0 dX6_setCoordinate_56 rfl ?_
        exact x_iret X E dX6_setCoordinate_57 ⟨_, rfl, h⟩
      · refine x_ldc X (v := -1000007) t2_72 dX6_setCoordinate_39 ?_
        exact x_iret X E dX6_setCoordinate_41 ⟨_, rfl, h⟩
set_option maxHeartbeats 2000000 in
set_option maxRecDepth 20000 in
theorem m_X6_setCoordinate {l : Launch} {D : va_G} {cy : Nat → ClassId} {ad : Nat → Nat → Nat} (hi : xInj (shC cy) ad) {a1 : Int32} {a2 : Int32} {S : xS} {Q : Int32 → xS → Prop} (h : wp_X6_setCoordinate a1 a2 S Q) : xMet l D (xTys cy) (shC cy) ad yX6_setCoordinate cX6_setCoordinate 4 (some .int) (xRm 1 22) [.ref (ad 6 0), .int a1, .int a2] S (xQi Q) := xMet_env hi (by decide +kernel) rfl (Nat.le_of_ble_eq_true rfl) (fun g hl V => w_X6_setCoordinate V h)
set_option maxHeartbeats 2000000 in
set_option maxRecDepth 20000 in
theorem w_X6_pin_49 {g : xG} {D : va_G} {cy : Nat → ClassId} {ad : Nat → Nat → Nat} {Q : Int32 → xS → Prop} (V : xEnv g D (xTys cy) (shC cy) ad RX6 cX6_pin (some .int) 1 21 4 (xQi Q)) (S : xS) (s0 : Int32) (h : wp_X6_pin_49 Q S s0) : Wx g (xW D (shC cy) ad S) 49 [] [.int s0] := by
  obtain ⟨X, K, hi, hA, hR, E, hN⟩ := V
  have V := xEnv_mk X K hi hA hR E hN
  unfold wp_X6_pin_49 at h
  exact x_iret X E dX6_pin_49 ⟨_, rfl, h⟩
set_option maxHeartbeats 2000000 in
set_option maxRecDepth 20000 in
theorem w_X6_pin_29 {g : xG} {D : va_G} {cy : Nat → ClassId} {ad : Nat → Nat → Nat} {a1 : Int32} {a2 : Int32} {Q : Int32 → xS → Prop} (V : xEnv g D (xTys cy) (shC cy) ad RX6 cX6_pin (some .int) 1 21 4 (xQi Q)) (S : xS) (s0 : Int32) (h : wp_X6_pin_29 a1 a2 Q S s0) : Wx g (xW D (shC cy) ad S) 29 [(0, .ref (ad 6 0)), (1, .int a1), (2, .int a2)] [.int s0] := by
  obtain ⟨X, K, hi, hA, hR, E, hN⟩ := V
  have V := xEnv_mk X K hi hA hR E hN
  unfold wp_X6_pin_29 at h
  refine x_istore_n X [(3, .int s0), (0, .ref (ad 6 0)), (1, .int a1), (2, .int a2)] dX6_pin_29 (by rw [hN]; decide) rfl ?_
  refine x_aload_n X 1 dX6_pin_30 rfl ?_
  refine xg_X6_13 X K (Nat.zero_lt_one) dX6_pin_31 ?_
  refine x_iload_n X 2 dX6_pin_34 rfl ?_
  obtain ⟨hb1, h⟩ := h
  refine xa_C29 X K (show 0 < 1 by decide) hb1 dX6_pin_35 ?_
  refine x_iload_n X 3 dX6_pin_36 rfl ?_
  obtain ⟨hb2, h⟩ := h
  refine xp_X6_103 X K hi hA (xIn_lt hb1) hb2 dX6_pin_37 ?_
  refine x_iload_n X 0 dX6_pin_40 rfl ?_
  refine x_if_eq X 48 dX6_pin_41 (by decide) h (fun h => ?_) (fun h => ?_)
  · refine x_iconst X (v := 0) dX6_pin_48 (by decide) ?_
    refine x_sub [] rfl ?_
    exact w_X6_pin_49 V (xI S 0 a1.toNatClampNeg 3 a2) (0 : Int32) h
  · refine x_iconst X (v := 1) dX6_pin_44 (by decide) ?_
    refine x_goto X 49 dX6_pin_45 (by decide) ?_
    refine x_sub [] rfl ?_
    exact w_X6_pin_49 V (xI S 0 a1.toNatClampNeg 3 a2) (1 : Int32) h
set_option maxHeartbeats 2000000 in
set_option maxRecDepth 20000 in
theorem w_X6_pin {g : xG} {D : va_G} {cy : Nat → ClassId} {ad : Nat → Nat → Nat} {a1 : Int32} {a2 : Int32} {S : xS} {Q : Int32 → xS → Prop} (V : xEnv g D (xTys cy) (shC cy) ad RX6 cX6_pin (some .int) 1 21 4 (xQi Q)) (h : wp_X6_pin a1 a2 S Q) : Wx g (xW D (shC cy) ad S) 0 [(0, .ref (ad 6 0)), (1, .int a1), (2, .int a2)] [] := by
  obtain ⟨X, K, hi, hA, hR, E, hN⟩ := V
  have V := xEnv_mk X K hi hA hR E hN
  unfold wp_X6_pin at h
  refine x_aload_n X 0 dX6_pin_0 rfl ?_
  refine x_iload_n X 1 dX6_pin_1 rfl ?_
  refine x_calli hA (x_runV (n := 1) (sh := shC cy) X K hR (fun _ q => q) (m_X6_hasAxis hi  h) (kC_6 cy Nat.zero_lt_one) rfl rfl t2_17 t2_19 tp_0 t1_1 t2_20 ⟨by decide, by decide, by decide +kernel⟩ rfl (by decide) (by decide) rfl (Nat.le_of_ble_eq_true rfl) dX6_pin_2) (fun r2 S1 h => ?_)
  refine x_if_ne X 11 dX6_pin_5 (by decide) h (fun h => ?_) (fun h => ?_)
  · refine x_ldc X (v := -1000001) t2_21 dX6_pin_8 ?_
    exact x_iret X E dX6_pin_10 ⟨_, rfl, h⟩
  · refine x_aload_n X 0 dX6_pin_11 rfl ?_
    refine xg_X6_13 X K Nat.zero_lt_one dX6_pin_12 ?_
    refine x_iload_n X 1 dX6_pin_15 rfl ?_
    obtain ⟨hb3, h⟩ := h
    refine xa_C29 X K (show 0 < 1 by decide) hb3 dX6_pin_16 ?_
    refine xg_X6_103 X K (xIn_lt hb3) dX6_pin_17 ?_
    refine x_iload_n X 2 dX6_pin_20 rfl ?_
    refine x_icmp_eq X 28 dX6_pin_21 (by decide) h (fun h => ?_) (fun h => ?_)
    · refine x_iconst X (v := 0) dX6_pin_28 (by decide) ?_
      refine x_sub [0, 1, 2] rfl ?_
      exact w_X6_pin_29 V S1 (0 : Int32) h
    · refine x_iconst X (v := 1) dX6_pin_24 (by decide) ?_
      refine x_goto X 29 dX6_pin_25 (by decide) ?_
      refine x_sub [0, 1, 2] rfl ?_
      exact w_X6_pin_29 V S1 (1 : Int32) h
set_option maxHeartbeats 2000000 in
set_option maxRecDepth 20000 in
theorem m_X6_pin {l : Launch} {D : va_G} {cy : Nat → ClassId} {ad : Nat → Nat → Nat} (hi : xInj (shC cy) ad) {a1 : Int32} {a2 : Int32} {S : xS} {Q : Int32 → xS → Prop} (h : wp_X6_pin a1 a2 S Q) : xMet l D (xTys cy) (shC cy) ad yX6_pin cX6_pin 4 (some .int) (xRm 1 21) [.ref (ad 6 0), .int a1, .int a2] S (xQi Q) := xMet_env hi (by decide +kernel) rfl (Nat.le_of_ble_eq_true rfl) (fun g hl V => w_X6_pin V h)
set_option maxHeartbeats 2000000 in
set_option maxRecDepth 20000 in
theorem w_X6_axisValue_95 {g : xG} {D : va_G} {cy : Nat → ClassId} {ad : Nat → Nat → Nat} {Q : Int32 → xS → Prop} (V : xEnv g D (xTys cy) (shC cy) ad RX6 cX6_axisValue (some .int) 1 21 4 (xQi Q)) (S : xS) (s0 : Int32) (h : wp_X6_axisValue_95 Q S s0) : Wx g (xW D (shC cy) ad S) 95 [] [.int s0] := by
  obtain ⟨X, K, hi, hA, hR, E, hN⟩ := V
  have V := xEnv_mk X K hi hA hR E hN
  unfold wp_X6_axisValue_95 at h
  exact x_iret X E dX6_axisValue_95 ⟨_, rfl, h⟩
set_option maxHeartbeats 2000000 in
set_option maxRecDepth 20000 in
theorem w_X6_axisValue {g : xG} {D : va_G} {cy : Nat → ClassId} {ad : Nat → Nat → Nat} {a1 : Int32} {a2 : Int32} {S : xS} {Q : Int32 → xS → Prop} (V : xEnv g D (xTys cy) (shC cy) ad RX6 cX6_axisValue (some .int) 1 21 4 (xQi Q)) (h : wp_X6_axisValue a1 a2 S Q) : Wx g (xW D (shC cy) ad S) 0 [(0, .ref (ad 6 0)), (1, .int a1), (2, .int a2)] [] := by
  obtain ⟨X, K, hi, hA, hR, E, hN⟩ := V
  have V := xEnv_mk X K hi hA hR E hN
  unfold wp_X6_axisValue at h
  refine x_aload_n X 0 dX6_axisValue_0 rfl ?_
  refine x_iload_n X 1 dX6_axisValue_1 rfl ?_
  refine x_calli hA (x_runV (n := 1) (sh := shC cy) X K hR (fun _ q => q) (m_X6_hasAxis hi  h) (kC_6 cy Nat.zero_lt_one) rfl rfl t2_17 t2_19 tp_0 t1_1 t2_20 ⟨by decide, by decide, by decide +kernel⟩ rfl (by decide) (by decide) rfl (Nat.le_of_ble_eq_true rfl) dX6_axisValue_2) (fun r2 S1 h => ?_)
  refine x_if_ne X 11 dX6_axisValue_5 (by decide) h (fun h => ?_) (fun h => ?_)
  · refine x_ldc X (v := -1000001) t2_21 dX6_axisValue_8 ?_
    exact x_iret X E dX6_axisValue_10 ⟨_, rfl, h⟩
  · refine x_aload_n X 0 dX6_axisValue_11 rfl ?_
    refine xg_X6_13 X K Nat.zero_lt_one dX6_axisValue_12 ?_
    refine x_iload_n X 1 dX6_axisValue_15 rfl ?_
    obtain ⟨hb3, h⟩ := h
    refine xa_C29 X K (show 0 < 1 by decide) hb3 dX6_axisValue_16 ?_
    refine x_astore_n X [(3, .ref (ad 0 a1.toNatClampNeg)), (0, .ref (ad 6 0)), (1, .int a1), (2, .int a2)] dX6_axisValue_17 (by rw [hN]; decide) rfl ?_
    refine x_iload_n X 3 dX6_axisValue_18 rfl ?_
    refine x_ite h (fun hc h => ?_) (fun hc0_19 h => ?_)
    · refine x_tableIn X 56 dX6_axisValue_19 (by rw [hc]; decide) (by rw [hc]; decide) (off := 37) (by rw [hc]; decide) (by decide) ?_
      refine x_aload_n X 1 dX6_axisValue_56 rfl ?_
      refine xg_X6_17 X K Nat.zero_lt_one dX6_axisValue_57 ?_
      refine x_iload_n X 2 dX6_axisValue_60 rfl ?_
      obtain ⟨hb4, h⟩ := h
      refine xa_C30 X K (show 0 < 3 by decide) hb4 dX6_axisValue_61 ?_
      exact x_iret X E dX6_axisValue_62 ⟨_, rfl, h⟩
    · refine x_ite h (fun hc h => ?_) (fun hc1_19 h => ?_)
      · refine x_tableIn X 63 dX6_axisValue_19 (by rw [hc]; decide) (by rw [hc]; decide) (off := 44) (by rw [hc]; decide) (by decide) ?_
        refine x_aload_n X 0 dX6_axisValue_63 rfl ?_
        refine xg_X6_108 X K (xIn_lt hb3) dX6_axisValue_64 ?_
        exact x_iret X E dX6_axisValue_67 ⟨_, rfl, h⟩
      · refine x_ite h (fun hc h => ?_) (fun hc2_19 h => ?_)
        · refine x_tableIn X 68 dX6_axisValue_19 (by rw [hc]; decide) (by rw [hc]; decide) (off := 49) (by rw [hc]; decide) (by decide) ?_
          refine x_aload_n X 0 dX6_axisValue_68 rfl ?_
          refine xg_X6_111 X K (xIn_lt hb3) dX6_axisValue_69 ?_
          exact x_iret X E dX6_axisValue_72 ⟨_, rfl, h⟩
        · refine x_ite h (fun hc h => ?_) (fun hc3_19 h => ?_)
          · refine x_tableIn X 73 dX6_axisValue_19 (by rw [hc]; decide) (by rw [hc]; decide) (off := 54) (by rw [hc]; decide) (by decide) ?_
            refine x_aload_n X 0 dX6_axisValue_73 rfl ?_
            refine xg_X6_114 X K (xIn_lt hb3) dX6_axisValue_74 ?_
            exact x_iret X E dX6_axisValue_77 ⟨_, rfl, h⟩
          · refine x_ite h (fun hc h => ?_) (fun hc4_19 h => ?_)
            · refine x_tableIn X 78 dX6_axisValue_19 (by rw [hc]; decide) (by rw [hc]; decide) (off := 59) (by rw [hc]; decide) (by decide) ?_
              refine x_aload_n X 0 dX6_axisValue_78 rfl ?_
              refine xg_X6_89 X K (xIn_lt hb3) dX6_axisValue_79 ?_
              exact x_iret X E dX6_axisValue_82 ⟨_, rfl, h⟩
            · refine x_ite h (fun hc h => ?_) (fun hc5_19 h => ?_)
              · refine x_tableIn X 83 dX6_axisValue_19 (by rw [hc]; decide) (by rw [hc]; decide) (off := 64) (by rw [hc]; decide) (by decide) ?_
                refine x_aload_n X 0 dX6_axisValue_83 rfl ?_
                refine xg_X6_103 X K (xIn_lt hb3) dX6_axisValue_84 ?_
                refine x_if_eq X 94 dX6_axisValue_87 (by decide) h (fun h => ?_) (fun h => ?_)
                · refine x_iconst X (v := 0) dX6_axisValue_94 (by decide) ?_
                  refine x_sub [] rfl ?_
                  exact w_X6_axisValue_95 V S1 (0 : Int32) h
                · refine x_iconst X (v := 1) dX6_axisValue_90 (by decide) ?_
                  refine x_goto X 95 dX6_axisValue_91 (by decide) ?_
                  refine x_sub [] rfl ?_
                  exact w_X6_axisValue_95 V S1 (1 : Int32) h
              · refine x_tableOut X 96 dX6_axisValue_19 (xSw_0_5 hc0_19 hc1_19 hc2_19 hc3_19 hc4_19 hc5_19) (by decide) ?_
                refine x_ldc X (v := -1000005) t2_7 dX6_axisValue_96 ?_
                exact x_iret X E dX6_axisValue_98 ⟨_, rfl, h⟩
set_option maxHeartbeats 2000000 in
set_option maxRecDepth 20000 in
theorem m_X6_axisValue {l : Launch} {D : va_G} {cy : Nat → ClassId} {ad : Nat → Nat → Nat} (hi : xInj (shC cy) ad) {a1 : Int32} {a2 : Int32} {S : xS} {Q : Int32 → xS → Prop} (h : wp_X6_axisValue a1 a2 S Q) : xMet l D (xTys cy) (shC cy) ad yX6_axisValue cX6_axisValue 4 (some .int) (xRm 1 21) [.ref (ad 6 0), .int a1, .int a2] S (xQi Q) := xMet_env hi (by decide +kernel) rfl (Nat.le_of_ble_eq_true rfl) (fun g hl V => w_X6_axisValue V h)
