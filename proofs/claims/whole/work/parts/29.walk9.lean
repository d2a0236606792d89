set_option maxHeartbeats 2000000 in
set_option maxRecDepth 20000 in
theorem w_X7_farFrom_45 {g : xG} {D : va_G} {cy : Nat → ClassId} {ad : Nat → Nat → Nat} {a1 : Int32} {K4 : xS → Int32 → Int32 → Prop} {Q : Int32 → xS → Prop} (V : xEnv g D (xTys cy) (shM cy) ad RX7 cX7_farFrom (some .int) 0 0 5 (xQi Q)) (hK4 : ∀ (S : xS) (v2 : Int32) (v3 : Int32), K4 S v2 v3 → Wx g (xW D (shM cy) ad S) 4 [(0, .ref (ad 0 0)), (1, .int a1), (2, .int v2), (3, .int v3)] []) (S : xS) (v3 : Int32) (s0 : Int32) (s1 : Int32) (h : wp_X7_farFrom_45 a1 K4 Q S v3 s0 s1) : Wx g (xW D (shM cy) ad S) 45 [(0, .ref (ad 0 0)), (1, .int a1), (3, .int v3)] [.int s1, .int s0] := by
  obtain ⟨X, K, hi, hA, hR, E, hN⟩ := V
  have V := xEnv_mk X K hi hA hR E hN
  unfold wp_X7_farFrom_45 at h
  refine x_iadd X dX7_farFrom_45 ?_
  refine x_istore_n X [(2, .int (s0 + s1)), (0, .ref (ad 0 0)), (1, .int a1), (3, .int v3)] dX7_farFrom_46 (by rw [hN]; decide) rfl ?_
  refine x_iinc X 3 [(3, .int (v3 + (1 : Int32))), (2, .int (s0 + s1)), (0, .ref (ad 0 0)), (1, .int a1)] dX7_farFrom_47 rfl rfl (by rw [hN]; decide) rfl ?_
  refine x_goto X 4 dX7_farFrom_50 (by decide) ?_
  refine x_sub [2, 3, 1, 0] rfl ?_
  exact hK4 S (s0 + s1) (v3 + (1 : Int32)) h
set_option maxHeartbeats 2000000 in
set_option maxRecDepth 20000 in
theorem w_X7_farFrom_4_b {g : xG} {D : va_G} {cy : Nat → ClassId} {ad : Nat → Nat → Nat} {a1 : Int32} {K4 : xS → Int32 → Int32 → Prop} {Q : Int32 → xS → Prop} (V : xEnv g D (xTys cy) (shM cy) ad RX7 cX7_farFrom (some .int) 0 0 5 (xQi Q)) (hK4 : ∀ (S : xS) (v2 : Int32) (v3 : Int32), K4 S v2 v3 → Wx g (xW D (shM cy) ad S) 4 [(0, .ref (ad 0 0)), (1, .int a1), (2, .int v2), (3, .int v3)] []) (S : xS) (v2 : Int32) (v3 : Int32) (h : wp_X7_farFrom_4_b a1 K4 Q S v2 v3) : Wx g (xW D (shM cy) ad S) 4 [(0, .ref (ad 0 0)), (1, .int a1), (2, .int v2), (3, .int v3)] [] := by
  obtain ⟨X, K, hi, hA, hR, E, hN⟩ := V
  have V := xEnv_mk X K hi hA hR E hN
  unfold wp_X7_farFrom_4_b at h
  refine x_iload_n X 3 dX7_farFrom_4 rfl ?_
  refine x_aload_n X 0 dX7_farFrom_5 rfl ?_
  refine xg_X7_107 X K (Nat.zero_lt_one) dX7_farFrom_6 ?_
  refine x_icmp_ge X 53 dX7_farFrom_9 (by decide) h (fun h => ?_) (fun h => ?_)
  · refine x_iload_n X 2 dX7_farFrom_53 rfl ?_
    exact x_iret X E dX7_farFrom_54 ⟨_, rfl, h⟩
  · refine x_aload_n X 0 dX7_farFrom_12 rfl ?_
    refine xg_X7_93 X K (Nat.zero_lt_one) dX7_farFrom_13 ?_
    refine x_iconst X (v := 4) dX7_farFrom_16 (by decide) ?_
    refine x_iload_n X 1 dX7_farFrom_17 rfl ?_
    refine x_imul X dX7_farFrom_18 ?_
    refine x_iload_n X 3 dX7_farFrom_19 rfl ?_
    refine x_iadd X dX7_farFrom_20 ?_
    obtain ⟨hb1, h⟩ := h
    refine xa_M34 X K (show 0 < 1 by decide) hb1 dX7_farFrom_21 ?_
    refine x_aload_n X 0 dX7_farFrom_22 rfl ?_
    refine xg_X7_19 X K (Nat.zero_lt_one) dX7_farFrom_23 ?_
    refine x_iload_n X 3 dX7_farFrom_26 rfl ?_
    obtain ⟨hb2, h⟩ := h
    refine xa_M5 X K (show 0 < 1 by decide) hb2 dX7_farFrom_27 ?_
    refine x_isub X dX7_farFrom_28 ?_
    refine x_istore X [(4, .int ((S.1 34 0 (((4 : Int32) * a1) + v3).toNatClampNeg) - (S.1 5 0 v3.toNatClampNeg))), (0, .ref (ad 0 0)), (1, .int a1), (2, .int v2), (3, .int v3)] dX7_farFrom_29 (by rw [hN]; decide) rfl ?_
    refine x_iload_n X 3 dX7_farFrom_31 rfl ?_
    refine x_iload X 0 dX7_farFrom_32 rfl ?_
    refine x_if_ge X 43 dX7_farFrom_34 (by decide) h (fun h => ?_) (fun h => ?_)
    · refine x_iload X 0 dX7_farFrom_43 rfl ?_
      refine x_sub [1, 2, 4] rfl ?_
      exact w_X7_farFrom_45 V hK4 S v3 v2 ((S.1 34 0 (((4 : Int32) * a1) + v3).toNatClampNeg) - (S.1 5 0 v3.toNatClampNeg)) h
    · refine x_iload X 0 dX7_farFrom_37 rfl ?_
      refine x_ineg X dX7_farFrom_39 ?_
      refine x_goto X 45 dX7_farFrom_40 (by decide) ?_
      refine x_sub [1, 2, 4] rfl ?_
      exact w_X7_farFrom_45 V hK4 S v3 v2 (-((S.1 34 0 (((4 : Int32) * a1) + v3).toNatClampNeg) - (S.1 5 0 v3.toNatClampNeg))) h
set_option maxHeartbeats 2000000 in
set_option maxRecDepth 20000 in
theorem w_X7_farFrom_4 {g : xG} {D : va_G} {cy : Nat → ClassId} {ad : Nat → Nat → Nat} {a1 : Int32} {Q : Int32 → xS → Prop} (V : xEnv g D (xTys cy) (shM cy) ad RX7 cX7_farFrom (some .int) 0 0 5 (xQi Q)) (n : Nat) : ∀ (S : xS) (v2 : Int32) (v3 : Int32), wp_X7_farFrom_4 a1 Q n S v2 v3 → Wx g (xW D (shM cy) ad S) 4 [(0, .ref (ad 0 0)), (1, .int a1), (2, .int v2), (3, .int v3)] [] := by
  induction n with
  | zero => intro S v2 v3 h; exact h.elim
  | succ n ih => intro S v2 v3 h; exact w_X7_farFrom_4_b V (fun S v2 v3 h => ih S v2 v3 h) S v2 v3 h
set_option maxHeartbeats 2000000 in
set_option maxRecDepth 20000 in
theorem w_X7_farFrom {g : xG} {D : va_G} {cy : Nat → ClassId} {ad : Nat → Nat → Nat} {a1 : Int32} {S : xS} {Q : Int32 → xS → Prop} (V : xEnv g D (xTys cy) (shM cy) ad RX7 cX7_farFrom (some .int) 0 0 5 (xQi Q)) (h : wp_X7_farFrom a1 S Q) : Wx g (xW D (shM cy) ad S) 0 [(0, .ref (ad 0 0)), (1, .int a1)] [] := by
  obtain ⟨X, K, hi, hA, hR, E, hN⟩ := V
  have V := xEnv_mk X K hi hA hR E hN
  unfold wp_X7_farFrom at h
  refine x_iconst X (v := 0) dX7_farFrom_0 (by decide) ?_
  refine x_istore_n X [(2, .int (0 : Int32)), (0, .ref (ad 0 0)), (1, .int a1)] dX7_farFrom_1 (by rw [hN]; decide) rfl ?_
  refine x_iconst X (v := 0) dX7_farFrom_2 (by decide) ?_
  refine x_istore_n X [(3, .int (0 : Int32)), (2, .int (0 : Int32)), (0, .ref (ad 0 0)), (1, .int a1)] dX7_farFrom_3 (by rw [hN]; decide) rfl ?_
  refine x_sub [2, 3, 1, 0] rfl ?_
  obtain ⟨n1, h⟩ := h
  exact w_X7_farFrom_4 V n1 S (0 : Int32) (0 : Int32) h
set_option maxHeartbeats 2000000 in
set_option maxRecDepth 20000 in
theorem m_X7_farFrom {l : Launch} {D : va_G} {cy : Nat → ClassId} {ad : Nat → Nat → Nat} (hi : xInj (shM cy) ad) {a1 : Int32} {S : xS} {Q : Int32 → xS → Prop} (h : wp_X7_farFrom a1 S Q) : xMet l D (xTys cy) (shM cy) ad yX7_farFrom cX7_farFrom 5 (some .int) (xRm 0 0) [.ref (ad 0 0), .int a1] S (xQi Q) := xMet_env hi (by decide +kernel) rfl (Nat.le_of_ble_eq_true rfl) (fun g hl V => w_X7_farFrom V h)
set_option maxHeartbeats 2000000 in
set_option maxRecDepth 20000 in
theorem w_X7_nearestInstance_43 {g : xG} {D : va_G} {cy : Nat → ClassId} {ad : Nat → Nat → Nat} {K17 : xS → Int32 → Int32 → Prop} {Q : Int32 → xS → Prop} (V : xEnv g D (xTys cy) (shM cy) ad RX7 cX7_nearestInstance (some .int) 1 24 3 (xQi Q)) (hK17 : ∀ (S : xS) (v1 : Int32) (v2 : Int32), K17 S v1 v2 → Wx g (xW D (shM cy) ad S) 17 [(0, .ref (ad 0 0)), (1, .int v1), (2, .int v2)] []) (S : xS) (v2 : Int32) (s0 : Int32) (h : wp_X7_nearestInstance_43 K17 Q S v2 s0) : Wx g (xW D (shM cy) ad S) 43 [(0, .ref (ad 0 0)), (2, .int v2)] [.int s0] := by
  obtain ⟨X, K, hi, hA, hR, E, hN⟩ := V
  have V := xEnv_mk X K hi hA hR E hN
  unfold wp_X7_nearestInstance_43 at h
  refine x_istore_n X [(1, .int s0), (0, .ref (ad 0 0)), (2, .int v2)] dX7_nearestInstance_43 (by rw [hN]; decide) rfl ?_
  refine x_iinc X 2 [(2, .int (v2 + (1 : Int32))), (1, .int s0), (0, .ref (ad 0 0))] dX7_nearestInstance_44 rfl rfl (by rw [hN]; decide) rfl ?_
  refine x_goto X 17 dX7_nearestInstance_47 (by decide) ?_
  refine x_sub [2, 1, 0] rfl ?_
  exact hK17 S s0 (v2 + (1 : Int32)) h
set_option maxHeartbeats 2000000 in
set_option maxRecDepth 20000 in
theorem w_X7_nearestInstance_17_b {g : xG} {D : va_G} {cy : Nat → ClassId} {ad : Nat → Nat → Nat} {K17 : xS → Int32 → Int32 → Prop} {Q : Int32 → xS → Prop} (V : xEnv g D (xTys cy) (shM cy) ad RX7 cX7_nearestInstance (some .int) 1 24 3 (xQi Q)) (hK17 : ∀ (S : xS) (v1 : Int32) (v2 : Int32), K17 S v1 v2 → Wx g (xW D (shM cy) ad S) 17 [(0, .ref (ad 0 0)), (1, .int v1), (2, .int v2)] []) (S : xS) (v1 : Int32) (v2 : Int32) (h : wp_X7_nearestInstance_17_b K17 Q S v1 v2) : Wx g (xW D (shM cy) ad S) 17 [(0, .ref (ad 0 0)), (1, .int v1), (2, .int v2)] [] := by
  obtain ⟨X, K, hi, hA, hR, E, hN⟩ := V
  have V := xEnv_mk X K hi hA hR E hN
  unfold wp_X7_nearestInstance_17_b at h
  refine x_iload_n X 2 dX7_nearestInstance_17 rfl ?_
  refine x_aload_n X 0 dX7_nearestInstance_18 rfl ?_
  refine xg_X7_322 X K (Nat.zero_lt_one) dX7_nearestInstance_19 ?_
  refine x_icmp_ge X 50 dX7_nearestInstance_22 (by decide) h (fun h => ?_) (fun h => ?_)
  · refine x_iload_n X 1 dX7_nearestInstance_50 rfl ?_
    exact x_iret X E dX7_nearestInstance_51 ⟨_, rfl, h⟩
  · refine x_aload_n X 0 dX7_nearestInstance_25 rfl ?_
    refine x_iload_n X 2 dX7_nearestInstance_26 rfl ?_
    refine x_calli hA (x_runV (n := 1) (sh := shM cy) X K hR (fun _ q => q) (m_X7_farFrom hi  h) (kM_0 cy (Nat.zero_lt_one)) rfl rfl t5_228 t5_230 tp_65 t1_8 t5_231 ⟨by decide, by decide, by decide +kernel⟩ rfl (by decide) (by decide) rfl (Nat.le_of_ble_eq_true rfl) dX7_nearestInstance_27) (fun r2 S1 h => ?_)
    refine x_aload_n X 0 dX7_nearestInstance_30 rfl ?_
    refine x_iload_n X 1 dX7_nearestInstance_31 rfl ?_
    refine x_calli hA (x_runV (n := 1) (sh := shM cy) X K hR (fun _ q => q) (m_X7_farFrom hi  h) (kM_0 cy (Nat.zero_lt_one)) rfl rfl t5_228 t5_230 tp_65 t1_8 t5_231 ⟨by decide, by decide, by decide +kernel⟩ rfl (by decide) (by decide) rfl (Nat.le_of_ble_eq_true rfl) dX7_nearestInstance_32) (fun r4 S3 h => ?_)
    refine x_icmp_ge X 42 dX7_nearestInstance_35 (by decide) h (fun h => ?_) (fun h => ?_)
    · refine x_iload_n X 1 dX7_nearestInstance_42 rfl ?_
      refine x_sub [0, 2] rfl ?_
      exact w_X7_nearestInstance_43 V hK17 S3 v2 v1 h
    · refine x_iload_n X 2 dX7_nearestInstance_38 rfl ?_
      refine x_goto X 43 dX7_nearestInstance_39 (by decide) ?_
      refine x_sub [0, 2] rfl ?_
      exact w_X7_nearestInstance_43 V hK17 S3 v2 v2 h
set_option maxHeartbeats 2000000 in
set_option maxRecDepth 20000 in
theorem w_X7_nearestInstance_17 {g : xG} {D : va_G} {cy : Nat → ClassId} {ad : Nat → Nat → Nat} {Q : Int32 → xS → Prop} (V : xEnv g D (xTys cy) (shM cy) ad RX7 cX7_nearestInstance (some .int) 1 24 3 (xQi Q)) (n : Nat) : ∀ (S : xS) (v1 : Int32) (v2 : Int32), wp_X7_nearestInstance_17 Q n S v1 v2 → Wx g (xW D (shM cy) ad S) 17 [(0, .ref (ad 0 0)), (1, .int v1), (2, .int v2)] [] := by
  induction n with
  | zero => intro S v1 v2 h; exact h.elim
  | succ n ih => intro S v1 v2 h; exact w_X7_nearestInstance_17_b V (fun S v1 v2 h => ih S v1 v2 h) S v1 v2 h
set_option maxHeartbeats 2000000 in
set_option maxRecDepth 20000 in
theorem w_X7_nearestInstance_14 {g : xG} {D : va_G} {cy : Nat → ClassId} {ad : Nat → Nat → Nat} {Q : Int32 → xS → Prop} (V : xEnv g D (xTys cy) (shM cy) ad RX7 cX7_nearestInstance (some .int) 1 24 3 (xQi Q)) (S : xS) (s0 : Int32) (h : wp_X7_nearestInstance_14 Q S s0) : Wx g (xW D (shM cy) ad S) 14 [(0, .ref (ad 0 0))] [.int s0] := by
  obtain ⟨X, K, hi, hA, hR, E, hN⟩ := V
  have V := xEnv_mk X K hi hA hR E hN
  unfold wp_X7_nearestInstance_14 at h
  refine x_istore_n X [(1, .int s0), (0, .ref (ad 0 0))] dX7_nearestInstance_14 (by rw [hN]; decide) rfl ?_
  refine x_iconst X (v := 1) dX7_nearestInstance_15 (by decide) ?_
  refine x_istore_n X [(2, .int (1 : Int32)), (1, .int s0), (0, .ref (ad 0 0))] dX7_nearestInstance_16 (by rw [hN]; decide) rfl ?_
  refine x_sub [2, 1, 0] rfl ?_
  obtain ⟨n1, h⟩ := h
  exact w_X7_nearestInstance_17 V n1 S s0 (1 : Int32) h
set_option maxHeartbeats 2000000 in
set_option maxRecDepth 20000 in
theorem w_X7_nearestInstance {g : xG} {D : va_G} {cy : Nat → ClassId} {ad : Nat → Nat → Nat} {S : xS} {Q : Int32 → xS → Prop} (V : xEnv g D (xTys cy) (shM cy) ad RX7 cX7_nearestInstance (some .int) 1 24 3 (xQi Q)) (h : wp_X7_nearestInstance S Q) : Wx g (xW D (shM cy) ad S) 0 [(0, .ref (ad 0 0))] [] := by
  obtain ⟨X, K, hi, hA, hR, E, hN⟩ := V
  have V := xEnv_mk X K hi hA hR E hN
  unfold wp_X7_nearestInstance at h
  refine x_aload_n X 0 dX7_nearestInstance_0 rfl ?_
  refine xg_X7_322 X K Nat.zero_lt_one dX7_nearestInstance_1 ?_
  refine x_if_ne X 13 dX7_nearestInstance_4 (by decide) h (fun h => ?_) (fun h => ?_)
  · refine x_ldc_w X (v := -1000008) t5_151 dX7_nearestInstance_7 ?_
    refine x_goto X 14 dX7_nearestInstance_10 (by decide) ?_
    refine x_sub [0] rfl ?_
    exact w_X7_nearestInstance_14 V S (-1000008 : Int32) h
  · refine x_iconst X (v := 0) dX7_nearestInstance_13 (by decide) ?_
    refine x_sub [0] rfl ?_
    exact w_X7_nearestInstance_14 V S (0 : Int32) h
set_option maxHeartbeats 2000000 in
set_option maxRecDepth 20000 in
theorem m_X7_nearestInstance {l : Launch} {D : va_G} {cy : Nat → ClassId} {ad : Nat → Nat → Nat} (hi : xInj (shM cy) ad) {S : xS} {Q : Int32 → xS → Prop} (h : wp_X7_nearestInstance S Q) : xMet l D (xTys cy) (shM cy) ad yX7_nearestInstance cX7_nearestInstance 3 (some .int) (xRm 1 24) [.ref (ad 0 0)] S (xQi Q) := xMet_env hi (by decide +kernel) rfl (Nat.le_of_ble_eq_true rfl) (fun g hl V => w_X7_nearestInstance V h)
set_option maxHeartbeats 2000000 in
set_option maxRecDepth 20000 in
theorem w_X7_type {g : xG} {D : va_G} {cy : Nat → ClassId} {ad : Nat → Nat → Nat} {a1 : Int32} {S : xS} {Q : Int32 → xS → Prop} (V : xEnv g D (xTys cy) (shM cy) ad RX7 cX7_type (some .int) 0 0 2 (xQi Q)) (h : wp_X7_type a1 S Q) : Wx g (xW D (shM cy) ad S) 0 [(0, .ref (ad 0 0)), (1, .int a1)] [] := by
  obtain ⟨X, K, hi, hA, hR, E, hN⟩ := V
  have V := xEnv_mk X K hi hA hR E hN
  unfold wp_X7_type at h
  refine x_aload_n X 0 dX7_type_0 rfl ?_
  refine xg_X7_328 X K Nat.zero_lt_one dX7_type_1 ?_
  refine x_bipush X (v := 60) dX7_type_4 (by decide) ?_
  refine x_icmp_ne X 12 dX7_type_6 (by decide) h (fun h => ?_) (fun h => ?_)
  · refine x_ldc X (v := -1000006) t4_139 dX7_type_9 ?_
    exact x_iret X E dX7_type_11 ⟨_, rfl, h⟩
  · refine x_aload_n X 0 dX7_type_12 rfl ?_
    refine xg_X7_96 X K Nat.zero_lt_one dX7_type_13 ?_
    refine x_aload_n X 0 dX7_type_16 rfl ?_
    refine xg_X7_328 X K Nat.zero_lt_one dX7_type_17 ?_
    refine x_iload_n X 1 dX7_type_20 rfl ?_
    obtain ⟨hb1, h⟩ := h
    refine xs_M36 X K hi hA (show 0 < 1 by decide) hb1 dX7_type_21 ?_
    refine x_aload_n X 0 dX7_type_22 rfl ?_
    refine x_dup X dX7_type_23 rfl ?_
    refine xg_X7_328 X K Nat.zero_lt_one dX7_type_24 ?_
    refine x_iconst X (v := 1) dX7_type_27 (by decide) ?_
    refine x_iadd X dX7_type_28 ?_
    refine xp_X7_328 X K hi hA Nat.zero_lt_one dX7_type_29 ?_
    refine x_aload_n X 0 dX7_type_32 rfl ?_
    refine xg_X7_328 X K Nat.zero_lt_one dX7_type_33 ?_
    exact x_iret X E dX7_type_36 ⟨_, rfl, h⟩
set_option maxHeartbeats 2000000 in
set_option maxRecDepth 20000 in
theorem m_X7_type {l : Launch} {D : va_G} {cy : Nat → ClassId} {ad : Nat → Nat → Nat} (hi : xInj (shM cy) ad) {a1 : Int32} {S : xS} {Q : Int32 → xS → Prop} (h : wp_X7_type a1 S Q) : xMet l D (xTys cy) (shM cy) ad yX7_type cX7_type 2 (some .int) (xRm 0 0) [.ref (ad 0 0), .int a1] S (xQi Q) := xMet_env hi (by decide +kernel) rfl (Nat.le_of_ble_eq_true rfl) (fun g hl V => w_X7_type V h)
set_option maxHeartbeats 2000000 in
set_option maxRecDepth 20000 in
theorem w_X7_clearText {g : xG} {D : va_G} {cy : Nat → ClassId} {ad : Nat → Nat → Nat} {S : xS} {Q : Int32 → xS → Prop} (V : xEnv g D (xTys cy) (shM cy) ad RX7 cX7_clearText (some .int) 0 0 2 (xQi Q)) (h : wp_X7_clearText S Q) : Wx g (xW D (shM cy) ad S) 0 [(0, .ref (ad 0 0))] [] := by
  obtain ⟨X, K, hi, hA, hR, E, hN⟩ := V
  have V := xEnv_mk X K hi hA hR E hN
  unfold wp_X7_clearText at h
  refine x_aload_n X 0 dX7_clearText_0 rfl ?_
  refine xg_X7_328 X K Nat.zero_lt_one dX7_clearText_1 ?_
  refine x_istore_n X [(1, .int (S.1 0 0 34)), (0, .ref (ad 0 0))] dX7_clearText_4 (by rw [hN]; decide) rfl ?_
  refine x_aload_n X 1 dX7_clearText_5 rfl ?_
  refine x_iconst X (v := 0) dX7_clearText_6 (by decide) ?_
  refine xp_X7_328 X K hi hA Nat.zero_lt_one dX7_clearText_7 ?_
  refine x_iload_n X 0 dX7_clearText_10 rfl ?_
  exact x_iret X E dX7_clearText_11 ⟨_, rfl, h⟩
set_option maxHeartbeats 2000000 in
set_option maxRecDepth 20000 in
theorem m_X7_clearText {l : Launch} {D : va_G} {cy : Nat → ClassId} {ad : Nat → Nat → Nat} (hi : xInj (shM cy) ad) {S : xS} {Q : Int32 → xS → Prop} (h : wp_X7_clearText S Q) : xMet l D (xTys cy) (shM cy) ad yX7_clearText cX7_clearText 2 (some .int) (xRm 0 0) [.ref (ad 0 0)] S (xQi Q) := xMet_env hi (by decide +kernel) rfl (Nat.le_of_ble_eq_true rfl) (fun g hl V => w_X7_clearText V h)
set_option maxHeartbeats 2000000 in
set_option maxRecDepth 20000 in
theorem w_X7_isDigit_44 {g : xG} {D : va_G} {cy : Nat → ClassId} {ad : Nat → Nat → Nat} {Q : Int32 → xS → Prop} (V : xEnv g D (xTys cy) (shM cy) ad RX7 cX7_isDigit (some .boolean) 0 0 1 (xQi Q)) (S : xS) (s0 : Int32) (h : wp_X7_isDigit_44 Q S s0) : Wx g (xW D (shM cy) ad S) 44 [] [.int s0] := by
  obtain ⟨X, K, hi, hA, hR, E, hN⟩ := V
  have V := xEnv_mk X K hi hA hR E hN
  unfold wp_X7_isDigit_44 at h
  exact x_zret X E dX7_isDigit_44 h.1 ⟨_, rfl, h.2⟩
set_option maxHeartbeats 2000000 in
set_option maxRecDepth 20000 in
theorem w_X7_isDigit_43 {g : xG} {D : va_G} {cy : Nat → ClassId} {ad : Nat → Nat → Nat} {Q : Int32 → xS → Prop} (V : xEnv g D (xTys cy) (shM cy) ad RX7 cX7_isDigit (some .boolean) 0 0 1 (xQi Q)) (S : xS) (h : wp_X7_isDigit_43 Q S) : Wx g (xW D (shM cy) ad S) 43 [] [] := by
  obtain ⟨X, K, hi, hA, hR, E, hN⟩ := V
  have V := xEnv_mk X K hi hA hR E hN
  unfold wp_X7_isDigit_43 at h
  refine x_iconst X (v := 0) dX7_isDigit_43 (by decide) ?_
  refine x_sub [] rfl ?_
  exact w_X7_isDigit_44 V S (0 : Int32) h
set_option maxHeartbeats 2000000 in
set_option maxRecDepth 20000 in
theorem w_X7_isDigit {g : xG} {D : va_G} {cy : Nat → ClassId} {ad : Nat → Nat → Nat} {S : xS} {Q : Int32 → xS → Prop} (V : xEnv g D (xTys cy) (shM cy) ad RX7 cX7_isDigit (some .boolean) 0 0 1 (xQi Q)) (h : wp_X7_isDigit S Q) : Wx g (xW D (shM cy) ad S) 0 [(0, .ref (ad 0 0))] [] := by
  obtain ⟨X, K, hi, hA, hR, E, hN⟩ := V
  have V := xEnv_mk X K hi hA hR E hN
  unfold wp_X7_isDigit at h
  refine x_aload_n X 0 dX7_isDigit_0 rfl ?_
  refine xg_X7_331 X K Nat.zero_lt_one dX7_isDigit_1 ?_
  refine x_aload_n X 0 dX7_isDigit_4 rfl ?_
  refine xg_X7_328 X K Nat.zero_lt_one dX7_isDigit_5 ?_
  refine x_icmp_ge X 43 dX7_isDigit_8 (by decide) h (fun h => ?_) (fun h => ?_)
  · refine x_sub [] rfl ?_
    exact w_X7_isDigit_43 V S h
  · refine x_aload_n X 0 dX7_isDigit_11 rfl ?_
    refine xg_X7_96 X K Nat.zero_lt_one dX7_isDigit_12 ?_
    refine x_aload_n X 0 dX7_isDigit_15 rfl ?_
    refine xg_X7_331 X K Nat.zero_lt_one dX7_isDigit_16 ?_
    obtain ⟨hb1, h⟩ := h
    refine xa_M36 X K (show 0 < 1 by decide) hb1 dX7_isDigit_19 ?_
    refine x_bipush X (v := 48) dX7_isDigit_20 (by decide) ?_
    refine x_icmp_lt X 43 dX7_isDigit_22 (by decide) h (fun h => ?_) (fun h => ?_)
    · refine x_sub [] rfl ?_
      exact w_X7_isDigit_43 V S h
    · refine x_aload_n X 0 dX7_isDigit_25 rfl ?_
      refine xg_X7_96 X K Nat.zero_lt_one dX7_isDigit_26 ?_
      refine x_aload_n X 0 dX7_isDigit_29 rfl ?_
      refine xg_X7_331 X K Nat.zero_lt_one dX7_isDigit_30 ?_
      obtain ⟨hb2, h⟩ := h
      refine xa_M36 X K (show 0 < 1 by decide) hb2 dX7_isDigit_33 ?_
      refine x_bipush X (v := 57) dX7_isDigit_34 (by decide) ?_
      refine x_icmp_gt X 43 dX7_isDigit_36 (by decide) h (fun h => ?_) (fun h => ?_)
      · refine x_sub [] rfl ?_
        exact w_X7_isDigit_43 V S h
      · refine x_iconst X (v := 1) dX7_isDigit_39 (by decide) ?_
        refine x_goto X 44 dX7_isDigit_40 (by decide) ?_
        refine x_sub [] rfl ?_
        exact w_X7_isDigit_44 V S (1 : Int32) h
set_option maxHeartbeats 2000000 in
set_option maxRecDepth 20000 in
theorem m_X7_isDigit {l : Launch} {D : va_G} {cy : Nat → ClassId} {ad : Nat → Nat → Nat} (hi : xInj (shM cy) ad) {S : xS} {Q : Int32 → xS → Prop} (h : wp_X7_isDigit S Q) : xMet l D (xTys cy) (shM cy) ad yX7_isDigit cX7_isDigit 1 (some .boolean) (xRm 0 0) [.ref (ad 0 0)] S (xQi Q) := xMet_env hi (by decide +kernel) rfl (Nat.le_of_ble_eq_true rfl) (fun g hl V => w_X7_isDigit V h)
set_option maxHeartbeats 2000000 in
set_option maxRecDepth 20000 in
theorem w_X7_readsNumber_138 {g : xG} {D : va_G} {cy : Nat → ClassId} {ad : Nat → Nat → Nat} {Q : Int32 → xS → Prop} (V : xEnv g D (xTys cy) (shM cy) ad RX7 cX7_readsNumber (some .boolean) 1 20 3 (xQi Q)) (S : xS) (s0 : Int32) (h : wp_X7_readsNumber_138 Q S s0) : Wx g (xW D (shM cy) ad S) 138 [] [.int s0] := by
  obtain ⟨X, K, hi, hA, hR, E, hN⟩ := V
  have V := xEnv_mk X K hi hA hR E hN
  unfold wp_X7_readsNumber_138 at h
  exact x_zret X E dX7_readsNumber_138 h.1 ⟨_, rfl, h.2⟩
set_option maxHeartbeats 2000000 in
set_option maxRecDepth 20000 in
theorem w_X7_readsNumber_126 {g : xG} {D : va_G} {cy : Nat → ClassId} {ad : Nat → Nat → Nat} {Q : Int32 → xS → Prop} (V : xEnv g D (xTys cy) (shM cy) ad RX7 cX7_readsNumber (some .boolean) 1 20 3 (xQi Q)) (S : xS) (v2 : Int32) (s1 : Int32) (h : wp_X7_readsNumber_126 Q S v2 s1) : Wx g (xW D (shM cy) ad S) 126 [(2, .int v2)] [.int s1, .ref (ad 0 0)] := by
  obtain ⟨X, K, hi, hA, hR, E, hN⟩ := V
  have V := xEnv_mk X K hi hA hR E hN
  unfold wp_X7_readsNumber_126 at h
  refine xp_X7_334 X K hi hA (Nat.zero_lt_one) dX7_readsNumber_126 ?_
  refine x_iload_n X 0 dX7_readsNumber_129 rfl ?_
  refine x_if_le X 137 dX7_readsNumber_130 (by decide) h (fun h => ?_) (fun h => ?_)
  · refine x_iconst X (v := 0) dX7_readsNumber_137 (by decide) ?_
    refine x_sub [] rfl ?_
    exact w_X7_readsNumber_138 V (xI S 0 0 37 s1) (0 : Int32) h
  · refine x_iconst X (v := 1) dX7_readsNumber_133 (by decide) ?_
    refine x_goto X 138 dX7_readsNumber_134 (by decide) ?_
    refine x_sub [] rfl ?_
    exact w_X7_readsNumber_138 V (xI S 0 0 37 s1) (1 : Int32) h
set_option maxHeartbeats 2000000 in
set_option maxRecDepth 20000 in
theorem w_X7_readsNumber_109 {g : xG} {D : va_G} {cy : Nat → ClassId} {ad : Nat → Nat → Nat} {Q : Int32 → xS → Prop} (V : xEnv g D (xTys cy) (shM cy) ad RX7 cX7_readsNumber (some .boolean) 1 20 3 (xQi Q)) (S : xS) (v1 : Int32) (v2 : Int32) (h : wp_X7_readsNumber_109 Q S v1 v2) : Wx g (xW D (shM cy) ad S) 109 [(0, .ref (ad 0 0)), (1, .int v1), (2, .int v2)] [] := by
  obtain ⟨X, K, hi, hA, hR, E, hN⟩ := V
  have V := xEnv_mk X K hi hA hR E hN
  unfold wp_X7_readsNumber_109 at h
  refine x_aload_n X 0 dX7_readsNumber_109 rfl ?_
  refine x_iload_n X 1 dX7_readsNumber_110 rfl ?_
  refine x_if_eq X 122 dX7_readsNumber_111 (by decide) h (fun h => ?_) (fun h => ?_)
  · refine x_aload_n X 0 dX7_readsNumber_122 rfl ?_
    refine xg_X7_334 X K (Nat.zero_lt_one) dX7_readsNumber_123 ?_
    refine x_sub [2] rfl ?_
    exact w_X7_readsNumber_126 V S v2 (S.1 0 0 37) h
  · refine x_aload_n X 0 dX7_readsNumber_114 rfl ?_
    refine xg_X7_334 X K (Nat.zero_lt_one) dX7_readsNumber_115 ?_
    refine x_ineg X dX7_readsNumber_118 ?_
    refine x_goto X 126 dX7_readsNumber_119 (by decide) ?_
    refine x_sub [2] rfl ?_
    exact w_X7_readsNumber_126 V S v2 (-(S.1 0 0 37)) h
set_option maxHeartbeats 2000000 in
set_option maxRecDepth 20000 in
theorem w_X7_readsNumber_56_b {g : xG} {D : va_G} {cy : Nat → ClassId} {ad : Nat → Nat → Nat} {K56 : xS → Int32 → Int32 → Prop} {Q : Int32 → xS → Prop} (V : xEnv g D (xTys cy) (shM cy) ad RX7 cX7_readsNumber (some .boolean) 1 20 3 (xQi Q)) (hK56 : ∀ (S : xS) (v1 : Int32) (v2 : Int32), K56 S v1 v2 → Wx g (xW D (shM cy) ad S) 56 [(0, .ref (ad 0 0)), (1, .int v1), (2, .int v2)] []) (S : xS) (v1 : Int32) (v2 : Int32) (h : wp_X7_readsNumber_56_b K56 Q S v1 v2) : Wx g (xW D (shM cy) ad S) 56 [(0, .ref (ad 0 0)), (1, .int v1), (2, .int v2)] [] := by
  obtain ⟨X, K, hi, hA, hR, E, hN⟩ := V
  have V := xEnv_mk X K hi hA hR E hN
  unfold wp_X7_readsNumber_56_b at h
  refine x_iload_n X 2 dX7_readsNumber_56 rfl ?_
  refine x_bipush X (v := 6) dX7_readsNumber_57 (by decide) ?_
  refine x_icmp_ge X 109 dX7_readsNumber_59 (by decide) h (fun h => ?_) (fun h => ?_)
  · refine x_sub [0, 1, 2] rfl ?_
    exact w_X7_readsNumber_109 V S v1 v2 h
  · refine x_aload_n X 0 dX7_readsNumber_62 rfl ?_
    refine x_calli hA (x_runV (n := 0) (sh := shM cy) X K hR (fun _ q => q) (m_X7_isDigit hi  h) (kM_0 cy (Nat.zero_lt_one)) rfl rfl t6_12 t6_14 tp_68 t1_8 t6_15 ⟨by decide, by decide, by decide +kernel⟩ rfl (by decide) (by decide) rfl (Nat.le_of_ble_eq_true rfl) dX7_readsNumber_63) (fun r2 S1 h => ?_)
    refine x_if_eq X 109 dX7_readsNumber_66 (by decide) h (fun h => ?_) (fun h => ?_)
    · refine x_sub [0, 1, 2] rfl ?_
      exact w_X7_readsNumber_109 V S1 v1 v2 h
    · refine x_aload_n X 0 dX7_readsNumber_69 rfl ?_
      refine x_bipush X (v := 10) dX7_readsNumber_70 (by decide) ?_
      refine x_aload_n X 0 dX7_readsNumber_72 rfl ?_
      refine xg_X7_334 X K (Nat.zero_lt_one) dX7_readsNumber_73 ?_
      refine x_imul X dX7_readsNumber_76 ?_
      refine x_aload_n X 0 dX7_readsNumber_77 rfl ?_
      refine xg_X7_96 X K (Nat.zero_lt_one) dX7_readsNumber_78 ?_
      refine x_aload_n X 0 dX7_readsNumber_81 rfl ?_
      refine xg_X7_331 X K (Nat.zero_lt_one) dX7_readsNumber_82 ?_
      obtain ⟨hb3, h⟩ := h
      refine xa_M36 X K (show 0 < 1 by decide) hb3 dX7_readsNumber_85 ?_
      refine x_iadd X dX7_readsNumber_86 ?_
      refine x_bipush X (v := 48) dX7_readsNumber_87 (by decide) ?_
      refine x_isub X dX7_readsNumber_89 ?_
      refine xp_X7_334 X K hi hA (Nat.zero_lt_one) dX7_readsNumber_90 ?_
      refine x_aload_n X 0 dX7_readsNumber_93 rfl ?_
      refine x_dup X dX7_readsNumber_94 rfl ?_
      refine xg_X7_331 X K (Nat.zero_lt_one) dX7_readsNumber_95 ?_
      refine x_iconst X (v := 1) dX7_readsNumber_98 (by decide) ?_
      refine x_iadd X dX7_readsNumber_99 ?_
      refine xp_X7_331 X K hi hA (Nat.zero_lt_one) dX7_readsNumber_100 ?_
      refine x_iinc X 2 [(2, .int (v2 + (1 : Int32))), (0, .ref (ad 0 0)), (1, .int v1)] dX7_readsNumber_103 rfl rfl (by rw [hN]; decide) rfl ?_
      refine x_goto X 56 dX7_readsNumber_106 (by decide) ?_
      refine x_sub [1, 2, 0] rfl ?_
      exact hK56 (xI (xI S1 0 0 37 ((((10 : Int32) * (S1.1 0 0 37)) + (S1.1 36 0 (S1.1 0 0 36).toNatClampNeg)) - (48 : Int32))) 0 0 36 (((xI S1 0 0 37 ((((10 : Int32) * (S1.1 0 0 37)) + (S1.1 36 0 (S1.1 0 0 36).toNatClampNeg)) - (48 : Int32))).1 0 0 36) + (1 : Int32))) v1 (v2 + (1 : Int32)) h
set_option maxHeartbeats 2000000 in
set_option maxRecDepth 20000 in
theorem w_X7_readsNumber_56 {g : xG} {D : va_G} {cy : Nat → ClassId} {ad : Nat → Nat → Nat} {Q : Int32 → xS → Prop} (V : xEnv g D (xTys cy) (shM cy) ad RX7 cX7_readsNumber (some .boolean) 1 20 3 (xQi Q)) (n : Nat) : ∀ (S : xS) (v1 : Int32) (v2 : Int32), wp_X7_readsNumber_56 Q n S v1 v2 → Wx g (xW D (shM cy) ad S) 56 [(0, .ref (ad 0 0)), (1, .int v1), (2, .int v2)] [] := by
  induction n with
  | zero => intro S v1 v2 h; exact h.elim
  | succ n ih => intro S v1 v2 h; exact w_X7_readsNumber_56_b V (fun S v1 v2 h => ih S v1 v2 h) S v1 v2 h
set_option maxHeartbeats 2000000 in
set_option maxRecDepth 20000 in
theorem w_X7_readsNumber_45 {g : xG} {D : va_G} {cy : Nat → ClassId} {ad : Nat → Nat → Nat} {Q : Int32 → xS → Prop} (V : xEnv g D (xTys cy) (shM cy) ad RX7 cX7_readsNumber (some .boolean) 1 20 3 (xQi Q)) (S : xS) (v1 : Int32) (s1 : Int32) (s2 : Int32) (h : wp_X7_readsNumber_45 Q S v1 s1 s2) : Wx g (xW D (shM cy) ad S) 45 [(0, .ref (ad 0 0)), (1, .int v1)] [.int s2, .int s1, .ref (ad 0 0)] := by
  obtain ⟨X, K, hi, hA, hR, E, hN⟩ := V
  have V := xEnv_mk X K hi hA hR E hN
  unfold wp_X7_readsNumber_45 at h
  refine x_iadd X dX7_readsNumber_45 ?_
  refine xp_X7_331 X K hi hA (Nat.zero_lt_one) dX7_readsNumber_46 ?_
  refine x_iconst X (v := 0) dX7_readsNumber_49 (by decide) ?_
  refine x_istore_n X [(2, .int (0 : Int32)), (0, .ref (ad 0 0)), (1, .int v1)] dX7_readsNumber_50 (by rw [hN]; decide) rfl ?_
  refine x_aload_n X 1 dX7_readsNumber_51 rfl ?_
  refine x_iconst X (v := 0) dX7_readsNumber_52 (by decide) ?_
  refine xp_X7_334 X K hi hA (Nat.zero_lt_one) dX7_readsNumber_53 ?_
  refine x_sub [1, 2, 0] rfl ?_
  obtain ⟨n1, h⟩ := h
  exact w_X7_readsNumber_56 V n1 (xI (xI S 0 0 36 (s1 + s2)) 0 0 37 (0 : Int32)) v1 (0 : Int32) h
set_option maxHeartbeats 2000000 in
set_option maxRecDepth 20000 in
theorem w_X7_readsNumber_30 {g : xG} {D : va_G} {cy : Nat → ClassId} {ad : Nat → Nat → Nat} {Q : Int32 → xS → Prop} (V : xEnv g D (xTys cy) (shM cy) ad RX7 cX7_readsNumber (some .boolean) 1 20 3 (xQi Q)) (S : xS) (s0 : Int32) (h : wp_X7_readsNumber_30 Q S s0) : Wx g (xW D (shM cy) ad S) 30 [(0, .ref (ad 0 0))] [.int s0] := by
  obtain ⟨X, K, hi, hA, hR, E, hN⟩ := V
  have V := xEnv_mk X K hi hA hR E hN
  unfold wp_X7_readsNumber_30 at h
  refine x_istore_n X [(1, .int s0), (0, .ref (ad 0 0))] dX7_readsNumber_30 (by rw [hN]; decide) rfl ?_
  refine x_aload_n X 1 dX7_readsNumber_31 rfl ?_
  refine x_dup X dX7_readsNumber_32 rfl ?_
  refine xg_X7_331 X K (Nat.zero_lt_one) dX7_readsNumber_33 ?_
  refine x_iload_n X 0 dX7_readsNumber_36 rfl ?_
  refine x_if_eq X 44 dX7_readsNumber_37 (by decide) h (fun h => ?_) (fun h => ?_)
  · refine x_iconst X (v := 0) dX7_readsNumber_44 (by decide) ?_
    refine x_sub [1, 0] rfl ?_
    exact w_X7_readsNumber_45 V S s0 (S.1 0 0 36) (0 : Int32) h
  · refine x_iconst X (v := 1) dX7_readsNumber_40 (by decide) ?_
    refine x_goto X 45 dX7_readsNumber_41 (by decide) ?_
    refine x_sub [1, 0] rfl ?_
    exact w_X7_readsNumber_45 V S s0 (S.1 0 0 36) (1 : Int32) h
set_option maxHeartbeats 2000000 in
set_option maxRecDepth 20000 in
theorem w_X7_readsNumber_29 {g : xG} {D : va_G} {cy : Nat → ClassId} {ad : Nat → Nat → Nat} {Q : Int32 → xS → Prop} (V : xEnv g D (xTys cy) (shM cy) ad RX7 cX7_readsNumber (some .boolean) 1 20 3 (xQi Q)) (S : xS) (h : wp_X7_readsNumber_29 Q S) : Wx g (xW D (shM cy) ad S) 29 [(0, .ref (ad 0 0))] [] := by
  obtain ⟨X, K, hi, hA, hR, E, hN⟩ := V
  have V := xEnv_mk X K hi hA hR E hN
  unfold wp_X7_readsNumber_29 at h
  refine x_iconst X (v := 0) dX7_readsNumber_29 (by decide) ?_
  refine x_sub [0] rfl ?_
  exact w_X7_readsNumber_30 V S (0 : Int32) h
set_option maxHeartbeats 2000000 in
set_option maxRecDepth 20000 in
theorem w_X7_readsNumber {g : xG} {D : va_G} {cy : Nat → ClassId} {ad : Nat → Nat → Nat} {S : xS} {Q : Int32 → xS → Prop} (V : xEnv g D (xTys cy) (shM cy) ad RX7 cX7_readsNumber (some .boolean) 1 20 3 (xQi Q)) (h : wp_X7_readsNumber S Q) : Wx g (xW D (shM cy) ad S) 0 [(0, .ref (ad 0 0))] [] := by
  obtain ⟨X, K, hi, hA, hR, E, hN⟩ := V
  have V := xEnv_mk X K hi hA hR E hN
  unfold wp_X7_readsNumber at h
  refine x_aload_n X 0 dX7_readsNumber_0 rfl ?_
  refine xg_X7_331 X K Nat.zero_lt_one dX7_readsNumber_1 ?_
  refine x_aload_n X 0 dX7_readsNumber_4 rfl ?_
  refine xg_X7_328 X K Nat.zero_lt_one dX7_readsNumber_5 ?_
  refine x_icmp_ge X 29 dX7_readsNumber_8 (by decide) h (fun h => ?_) (fun h => ?_)
  · refine x_sub [0] rfl ?_
    exact w_X7_readsNumber_29 V S h
  · refine x_aload_n X 0 dX7_readsNumber_11 rfl ?_
    refine xg_X7_96 X K Nat.zero_lt_one dX7_readsNumber_12 ?_
    refine x_aload_n X 0 dX7_readsNumber_15 rfl ?_
    refine xg_X7_331 X K Nat.zero_lt_one dX7_readsNumber_16 ?_
    obtain ⟨hb1, h⟩ := h
    refine xa_M36 X K (show 0 < 1 by decide) hb1 dX7_readsNumber_19 ?_
    refine x_bipush X (v := 45) dX7_readsNumber_20 (by decide) ?_
    refine x_icmp_ne X 29 dX7_readsNumber_22 (by decide) h (fun h => ?_) (fun h => ?_)
    · refine x_iconst X (v := 1) dX7_readsNumber_25 (by decide) ?_
      refine x_goto X 30 dX7_readsNumber_26 (by decide) ?_
      refine x_sub [0] rfl ?_
      exact w_X7_readsNumber_30 V S (1 : Int32) h
    · refine x_sub [0] rfl ?_
      exact w_X7_readsNumber_29 V S h
set_option maxHeartbeats 2000000 in
set_option maxRecDepth 20000 in
theorem m_X7_readsNumber {l : Launch} {D : va_G} {cy : Nat → ClassId} {ad : Nat → Nat → Nat} (hi : xInj (shM cy) ad) {S : xS} {Q : Int32 → xS → Prop} (h : wp_X7_readsNumber S Q) : xMet l D (xTys cy) (shM cy) ad yX7_readsNumber cX7_readsNumber 3 (some .boolean) (xRm 1 20) [.ref (ad 0 0)] S (xQi Q) := xMet_env hi (by decide +kernel) rfl (Nat.le_of_ble_eq_true rfl) (fun g hl V => w_X7_readsNumber V h)
set_option maxHeartbeats 2000000 in
set_option maxRecDepth 20000 in
theorem w_X7_readsItem_55 {g : xG} {D : va_G} {cy : Nat → ClassId} {ad : Nat → Nat → Nat} {Q : Int32 → xS → Prop} (V : xEnv g D (xTys cy) (shM cy) ad RX7 cX7_readsItem (some .boolean) 2 46 2 (xQi Q)) (S : xS) (h : wp_X7_readsItem_55 Q S) : Wx g (xW D (shM cy) ad S) 55 [] [] := by
  obtain ⟨X, K, hi, hA, hR, E, hN⟩ := V
  have V := xEnv_mk X K hi hA hR E hN
  unfold wp_X7_readsItem_55 at h
  refine x_iconst X (v := 0) dX7_readsItem_55 (by decide) ?_
  exact x_zret X E dX7_readsItem_56 h.1 ⟨_, rfl, h.2⟩
set_option maxHeartbeats 2000000 in
set_option maxRecDepth 20000 in
theorem w_X7_readsItem {g : xG} {D : va_G} {cy : Nat → ClassId} {ad : Nat → Nat → Nat} {S : xS} {Q : Int32 → xS → Prop} (V : xEnv g D (xTys cy) (shM cy) ad RX7 cX7_readsItem (some .boolean) 2 46 2 (xQi Q)) (h : wp_X7_readsItem S Q) : Wx g (xW D (shM cy) ad S) 0 [(0, .ref (ad 0 0))] [] := by
  obtain ⟨X, K, hi, hA, hR, E, hN⟩ := V
  have V := xEnv_mk X K hi hA hR E hN
  unfold wp_X7_readsItem at h
  refine x_aload_n X 0 dX7_readsItem_0 rfl ?_
  refine xg_X7_331 X K Nat.zero_lt_one dX7_readsItem_1 ?_
  refine x_aload_n X 0 dX7_readsItem_4 rfl ?_
  refine xg_X7_328 X K Nat.zero_lt_one dX7_readsItem_5 ?_
  refine x_icmp_ne X 13 dX7_readsItem_8 (by decide) h (fun h => ?_) (fun h => ?_)
  · refine x_iconst X (v := 0) dX7_readsItem_11 (by decide) ?_
    exact x_zret X E dX7_readsItem_12 h.1 ⟨_, rfl, h.2⟩
  · refine x_aload_n X 0 dX7_readsItem_13 rfl ?_
    refine xg_X7_96 X K Nat.zero_lt_one dX7_readsItem_14 ?_
    refine x_aload_n X 0 dX7_readsItem_17 rfl ?_
    refine xg_X7_331 X K Nat.zero_lt_one dX7_readsItem_18 ?_
    obtain ⟨hb1, h⟩ := h
    refine xa_M36 X K (show 0 < 1 by decide) hb1 dX7_readsItem_21 ?_
    refine x_bipush X (v := 97) dX7_readsItem_22 (by decide) ?_
    refine x_isub X dX7_readsItem_24 ?_
    refine x_istore_n X [(1, .int ((S.1 36 0 (S.1 0 0 36).toNatClampNeg) - (97 : Int32))), (0, .ref (ad 0 0))] dX7_readsItem_25 (by rw [hN]; decide) rfl ?_
    refine x_aload_n X 1 dX7_readsItem_26 rfl ?_
    refine x_iload_n X 0 dX7_readsItem_27 rfl ?_
    refine x_calli hA (x_runV (n := 1) (sh := shM cy) X K hR (fun _ q => q) (m_X7_noAxis hi  h) (kM_0 cy Nat.zero_lt_one) rfl rfl t4_144 t4_146 tp_26 t1_8 t4_147 ⟨by decide, by decide, by decide +kernel⟩ rfl (by decide) (by decide) rfl (Nat.le_of_ble_eq_true rfl) dX7_readsItem_28) (fun r3 S2 h => ?_)
    refine x_if_ne X 55 dX7_readsItem_31 (by decide) h (fun h => ?_) (fun h => ?_)
    · refine x_aload_n X 1 dX7_readsItem_34 rfl ?_
      refine xg_X7_22 X K Nat.zero_lt_one dX7_readsItem_35 ?_
      refine x_iload_n X 0 dX7_readsItem_38 rfl ?_
      obtain ⟨hb4, h⟩ := h
      refine xa_M6 X K (show 0 < 1 by decide) hb4 dX7_readsItem_39 ?_
      refine x_if_ne X 55 dX7_readsItem_40 (by decide) h (fun h => ?_) (fun h => ?_)
      · refine x_aload_n X 1 dX7_readsItem_43 rfl ?_
        refine xg_X7_341 X K Nat.zero_lt_one dX7_readsItem_44 ?_
        refine x_iload_n X 0 dX7_readsItem_47 rfl ?_
        refine x_ishr X dX7_readsItem_48 ?_
        refine x_iconst X (v := 1) dX7_readsItem_49 (by decide) ?_
        refine x_iand X dX7_readsItem_50 ?_
        refine x_iconst X (v := 1) dX7_readsItem_51 (by decide) ?_
        refine x_icmp_ne X 57 dX7_readsItem_52 (by decide) h (fun h => ?_) (fun h => ?_)
        · refine x_sub [] rfl ?_
          exact w_X7_readsItem_55 V S2 h
        · refine x_aload_n X 1 dX7_readsItem_57 rfl ?_
          refine x_dup X dX7_readsItem_58 rfl ?_
          refine xg_X7_331 X K Nat.zero_lt_one dX7_readsItem_59 ?_
          refine x_iconst X (v := 1) dX7_readsItem_62 (by decide) ?_
          refine x_iadd X dX7_readsItem_63 ?_
          refine xp_X7_331 X K hi hA Nat.zero_lt_one dX7_readsItem_64 ?_
          refine x_aload_n X 1 dX7_readsItem_67 rfl ?_
          refine x_calli hA (x_runV (n := 0) (sh := shM cy) X K hR (fun _ q => q) (m_X7_readsNumber hi  h) (kM_0 cy Nat.zero_lt_one) rfl rfl t6_8 t6_10 tp_67 t1_8 t6_11 ⟨by decide, by decide, by decide +kernel⟩ rfl (by decide) (by decide) rfl (Nat.le_of_ble_eq_true rfl) dX7_readsItem_68) (fun r6 S5 h => ?_)
          refine x_if_ne X 76 dX7_readsItem_71 (by decide) h (fun h => ?_) (fun h => ?_)
          · refine x_iconst X (v := 0) dX7_readsItem_74 (by decide) ?_
            exact x_zret X E dX7_readsItem_75 h.1 ⟨_, rfl, h.2⟩
          · refine x_aload_n X 1 dX7_readsItem_76 rfl ?_
            refine x_dup X dX7_readsItem_77 rfl ?_
            refine xg_X7_341 X K Nat.zero_lt_one dX7_readsItem_78 ?_
            refine x_iconst X (v := 1) dX7_readsItem_81 (by decide) ?_
            refine x_iload_n X 0 dX7_readsItem_82 rfl ?_
            refine x_ishl X dX7_readsItem_83 ?_
            refine x_ior X dX7_readsItem_84 ?_
            refine xp_X7_341 X K hi hA Nat.zero_lt_one dX7_readsItem_85 ?_
            refine x_aload_n X 1 dX7_readsItem_88 rfl ?_
            refine xg_X7_100 X K Nat.zero_lt_one dX7_readsItem_89 ?_
            refine x_iload_n X 0 dX7_readsItem_92 rfl ?_
            refine x_aload_n X 1 dX7_readsItem_93 rfl ?_
            refine xg_X7_334 X K Nat.zero_lt_one dX7_readsItem_94 ?_
            obtain ⟨hb7, h⟩ := h
            refine xs_M40 X K hi hA (show 0 < 1 by decide) hb7 dX7_readsItem_97 ?_
            refine x_iconst X (v := 1) dX7_readsItem_98 (by decide) ?_
            exact x_zret X E dX7_readsItem_99 h.1 ⟨_, rfl, h.2⟩
      · refine x_sub [] rfl ?_
        exact w_X7_readsItem_55 V S2 h
    · refine x_sub [] rfl ?_
      exact w_X7_readsItem_55 V S2 h
set_option maxHeartbeats 2000000 in
set_option maxRecDepth 20000 in
theorem m_X7_readsItem {l : Launch} {D : va_G} {cy : Nat → ClassId} {ad : Nat → Nat → Nat} (hi : xInj (shM cy) ad) {S : xS} {Q : Int32 → xS → Prop} (h : wp_X7_readsItem S Q) : xMet l D (xTys cy) (shM cy) ad yX7_readsItem cX7_readsItem 2 (some .boolean) (xRm 2 46) [.ref (ad 0 0)] S (xQi Q) := xMet_env hi (by decide +kernel) rfl (Nat.le_of_ble_eq_true rfl) (fun g hl V => w_X7_readsItem V h)
set_option maxHeartbeats 2000000 in
set_option maxRecDepth 20000 in
theorem w_X7_readLocation_123 {g : xG} {D : va_G} {cy : Nat → ClassId} {ad : Nat → Nat → Nat} {K88 : xS → Int32 → Int32 → Prop} {Q : Int32 → xS → Prop} (V : xEnv g D (xTys cy) (shM cy) ad RX7 cX7_readLocation (some .int) 3 73 4 (xQi Q)) (hK88 : ∀ (S : xS) (v2 : Int32) (v3 : Int32), K88 S v2 v3 → Wx g (xW D (shM cy) ad S) 88 [(0, .ref (ad 0 0)), (2, .int v2), (3, .int v3)] []) (S : xS) (v2 : Int32) (v3 : Int32) (h : wp_X7_readLocation_123 K88 Q S v2 v3) : Wx g (xW D (shM cy) ad S) 123 [(0, .ref (ad 0 0)), (2, .int v2), (3, .int v3)] [] := by
  obtain ⟨X, K, hi, hA, hR, E, hN⟩ := V
  have V := xEnv_mk X K hi hA hR E hN
  unfold wp_X7_readLocation_123 at h
  refine x_iinc X 2 [(3, .int (v3 + (1 : Int32))), (0, .ref (ad 0 0)), (2, .int v2)] dX7_readLocation_123 rfl rfl (by rw [hN]; decide) rfl ?_
  refine x_goto X 88 dX7_readLocation_126 (by decide) ?_
  refine x_sub [1, 2, 0] rfl ?_
  exact hK88 S v2 (v3 + (1 : Int32)) h
set_option maxHeartbeats 2000000 in
set_option maxRecDepth 20000 in
theorem w_X7_readLocation_88_b {g : xG} {D : va_G} {cy : Nat → ClassId} {ad : Nat → Nat → Nat} {K88 : xS → Int32 → Int32 → Prop} {Q : Int32 → xS → Prop} (V : xEnv g D (xTys cy) (shM cy) ad RX7 cX7_readLocation (some .int) 3 73 4 (xQi Q)) (hK88 : ∀ (S : xS) (v2 : Int32) (v3 : Int32), K88 S v2 v3 → Wx g (xW D (shM cy) ad S) 88 [(0, .ref (ad 0 0)), (2, .int v2), (3, .int v3)] []) (S : xS) (v2 : Int32) (v3 : Int32) (h : wp_X7_readLocation_88_b K88 Q S v2 v3) : Wx g (xW D (shM cy) ad S) 88 [(0, .ref (ad 0 0)), (2, .int v2), (3, .int v3)] [] := by
  obtain ⟨X, K, hi, hA, hR, E, hN⟩ := V
  have V := xEnv_mk X K hi hA hR E hN
  unfold wp_X7_readLocation_88_b at h
  refine x_iload_n X 2 dX7_readLocation_88 rfl ?_
  refine x_aload_n X 0 dX7_readLocation_89 rfl ?_
  refine xg_X7_107 X K (Nat.zero_lt_one) dX7_readLocation_90 ?_
  refine x_icmp_ge X 129 dX7_readLocation_93 (by decide) h (fun h => ?_) (fun h => ?_)
  · refine x_iload_n X 1 dX7_readLocation_129 rfl ?_
    exact x_iret X E dX7_readLocation_130 ⟨_, rfl, h⟩
  · refine x_aload_n X 0 dX7_readLocation_96 rfl ?_
    refine xg_X7_341 X K (Nat.zero_lt_one) dX7_readLocation_97 ?_
    refine x_iload_n X 2 dX7_readLocation_100 rfl ?_
    refine x_ishr X dX7_readLocation_101 ?_
    refine x_iconst X (v := 1) dX7_readLocation_102 (by decide) ?_
    refine x_iand X dX7_readLocation_103 ?_
    refine x_iconst X (v := 1) dX7_readLocation_104 (by decide) ?_
    refine x_icmp_ne X 123 dX7_readLocation_105 (by decide) h (fun h => ?_) (fun h => ?_)
    · refine x_aload_n X 0 dX7_readLocation_108 rfl ?_
      refine x_iload_n X 2 dX7_readLocation_109 rfl ?_
      refine x_aload_n X 0 dX7_readLocation_110 rfl ?_
      refine xg_X7_100 X K (Nat.zero_lt_one) dX7_readLocation_111 ?_
      refine x_iload_n X 2 dX7_readLocation_114 rfl ?_
      obtain ⟨hb1, h⟩ := h
      refine xa_M40 X K (show 0 < 1 by decide) hb1 dX7_readLocation_115 ?_
      refine x_calli hA (x_runV (n := 2) (sh := shM cy) X K hR (fun _ q => q) (m_X7_setUser hi  h) (kM_0 cy (Nat.zero_lt_one)) rfl rfl t6_16 t4_170 t4_171 t1_8 t4_172 ⟨by decide, by decide, by decide +kernel⟩ rfl (by decide) (by decide) rfl (Nat.le_of_ble_eq_true rfl) dX7_readLocation_116) (fun r3 S2 h => ?_)
      refine x_pop X dX7_readLocation_119 rfl ?_
      refine x_iinc X 1 [(2, .int (v2 + (1 : Int32))), (0, .ref (ad 0 0)), (3, .int v3)] dX7_readLocation_120 rfl rfl (by rw [hN]; decide) rfl ?_
      refine x_sub [1, 0, 2] rfl ?_
      exact w_X7_readLocation_123 V hK88 S2 (v2 + (1 : Int32)) v3 h
    · refine x_sub [0, 1, 2] rfl ?_
      exact w_X7_readLocation_123 V hK88 S v2 v3 h
set_option maxHeartbeats 2000000 in
set_option maxRecDepth 20000 in
theorem w_X7_readLocation_88 {g : xG} {D : va_G} {cy : Nat → ClassId} {ad : Nat → Nat → Nat} {Q : Int32 → xS → Prop} (V : xEnv g D (xTys cy) (shM cy) ad RX7 cX7_readLocation (some .int) 3 73 4 (xQi Q)) (n : Nat) : ∀ (S : xS) (v2 : Int32) (v3 : Int32), wp_X7_readLocation_88 Q n S v2 v3 → Wx g (xW D (shM cy) ad S) 88 [(0, .ref (ad 0 0)), (2, .int v2), (3, .int v3)] [] := by
  induction n with
  | zero => intro S v2 v3 h; exact h.elim
  | succ n ih => intro S v2 v3 h; exact w_X7_readLocation_88_b V (fun S v2 v3 h => ih S v2 v3 h) S v2 v3 h
set_option maxHeartbeats 2000000 in
set_option maxRecDepth 20000 in
theorem w_X7_readLocation_72 {g : xG} {D : va_G} {cy : Nat → ClassId} {ad : Nat → Nat → Nat} {Q : Int32 → xS → Prop} (V : xEnv g D (xTys cy) (shM cy) ad RX7 cX7_readLocation (some .int) 3 73 4 (xQi Q)) (S : xS) (v1 : Int32) (h : wp_X7_readLocation_72 Q S v1) : Wx g (xW D (shM cy) ad S) 72 [(0, .ref (ad 0 0)), (1, .int v1)] [] := by
  obtain ⟨X, K, hi, hA, hR, E, hN⟩ := V
  have V := xEnv_mk X K hi hA hR E hN
  unfold wp_X7_readLocation_72 at h
  refine x_iload_n X 1 dX7_readLocation_72 rfl ?_
  refine x_if_ne X 84 dX7_readLocation_73 (by decide) h (fun h => ?_) (fun h => ?_)
  · refine x_bipush X (v := -100) dX7_readLocation_76 (by decide) ?_
    refine x_aload_n X 0 dX7_readLocation_78 rfl ?_
    refine xg_X7_331 X K (Nat.zero_lt_one) dX7_readLocation_79 ?_
    refine x_isub X dX7_readLocation_82 ?_
    exact x_iret X E dX7_readLocation_83 ⟨_, rfl, h⟩
  · refine x_iconst X (v := 0) dX7_readLocation_84 (by decide) ?_
    refine x_istore_n X [(2, .int (0 : Int32)), (0, .ref (ad 0 0)), (1, .int v1)] dX7_readLocation_85 (by rw [hN]; decide) rfl ?_
    refine x_iconst X (v := 0) dX7_readLocation_86 (by decide) ?_
    refine x_istore_n X [(3, .int (0 : Int32)), (2, .int (0 : Int32)), (0, .ref (ad 0 0)), (1, .int v1)] dX7_readLocation_87 (by rw [hN]; decide) rfl ?_
    refine x_sub [2, 1, 0] rfl ?_
    obtain ⟨n1, h⟩ := h
    exact w_X7_readLocation_88 V n1 S (0 : Int32) (0 : Int32) h
set_option maxHeartbeats 2000000 in
set_option maxRecDepth 20000 in
theorem w_X7_readLocation_49 {g : xG} {D : va_G} {cy : Nat → ClassId} {ad : Nat → Nat → Nat} {K15 : xS → Int32 → Prop} {Q : Int32 → xS → Prop} (V : xEnv g D (xTys cy) (shM cy) ad RX7 cX7_readLocation (some .int) 3 73 4 (xQi Q)) (hK15 : ∀ (S : xS) (v1 : Int32), K15 S v1 → Wx g (xW D (shM cy) ad S) 15 [(0, .ref (ad 0 0)), (1, .int v1)] []) (S : xS) (s0 : Int32) (h : wp_X7_readLocation_49 K15 Q S s0) : Wx g (xW D (shM cy) ad S) 49 [(0, .ref (ad 0 0))] [.int s0] := by
  obtain ⟨X, K, hi, hA, hR, E, hN⟩ := V
  have V := xEnv_mk X K hi hA hR E hN
  unfold wp_X7_readLocation_49 at h
  refine x_istore_n X [(1, .int s0), (0, .ref (ad 0 0))] dX7_readLocation_49 (by rw [hN]; decide) rfl ?_
  refine x_iload_n X 0 dX7_readLocation_50 rfl ?_
  refine x_if_eq X 15 dX7_readLocation_51 (by decide) h (fun h => ?_) (fun h => ?_)
  · refine x_sub [1, 0] rfl ?_
    exact hK15 S s0 h
  · refine x_aload_n X 1 dX7_readLocation_54 rfl ?_
    refine x_dup X dX7_readLocation_55 rfl ?_
    refine xg_X7_331 X K (Nat.zero_lt_one) dX7_readLocation_56 ?_
    refine x_iconst X (v := 1) dX7_readLocation_59 (by decide) ?_
    refine x_iadd X dX7_readLocation_60 ?_
    refine xp_X7_331 X K hi hA (Nat.zero_lt_one) dX7_readLocation_61 ?_
    refine x_aload_n X 1 dX7_readLocation_64 rfl ?_
    refine x_calli hA (x_runV (n := 0) (sh := shM cy) X K hR (fun _ q => q) (m_X7_readsItem hi  h) (kM_0 cy (Nat.zero_lt_one)) rfl rfl t6_4 t6_6 tp_66 t1_8 t6_7 ⟨by decide, by decide, by decide +kernel⟩ rfl (by decide) (by decide) rfl (Nat.le_of_ble_eq_true rfl) dX7_readLocation_65) (fun r2 S1 h => ?_)
    refine x_istore_n X [(1, .int r2), (0, .ref (ad 0 0))] dX7_readLocation_68 (by rw [hN]; decide) rfl ?_
    refine x_goto X 15 dX7_readLocation_69 (by decide) ?_
    refine x_sub [1, 0] rfl ?_
    exact hK15 S1 r2 h
set_option maxHeartbeats 2000000 in
set_option maxRecDepth 20000 in
theorem w_X7_readLocation_15_b {g : xG} {D : va_G} {cy : Nat → ClassId} {ad : Nat → Nat → Nat} {K15 : xS → Int32 → Prop} {Q : Int32 → xS → Prop} (V : xEnv g D (xTys cy) (shM cy) ad RX7 cX7_readLocation (some .int) 3 73 4 (xQi Q)) (hK15 : ∀ (S : xS) (v1 : Int32), K15 S v1 → Wx g (xW D (shM cy) ad S) 15 [(0, .ref (ad 0 0)), (1, .int v1)] []) (S : xS) (v1 : Int32) (h : wp_X7_readLocation_15_b K15 Q S v1) : Wx g (xW D (shM cy) ad S) 15 [(0, .ref (ad 0 0)), (1, .int v1)] [] := by
  obtain ⟨X, K, hi, hA, hR, E, hN⟩ := V
  have V := xEnv_mk X K hi hA hR E hN
  unfold wp_X7_readLocation_15_b at h
  refine x_iload_n X 1 dX7_readLocation_15 rfl ?_
  refine x_if_eq X 72 dX7_readLocation_16 (by decide) h (fun h => ?_) (fun h => ?_)
  · refine x_sub [0, 1] rfl ?_
    exact w_X7_readLocation_72 V S v1 h
  · refine x_aload_n X 0 dX7_readLocation_19 rfl ?_
    refine xg_X7_331 X K (Nat.zero_lt_one) dX7_readLocation_20 ?_
    refine x_aload_n X 0 dX7_readLocation_23 rfl ?_
    refine xg_X7_328 X K (Nat.zero_lt_one) dX7_readLocation_24 ?_
    refine x_icmp_ge X 72 dX7_readLocation_27 (by decide) h (fun h => ?_) (fun h => ?_)
    · refine x_sub [0, 1] rfl ?_
      exact w_X7_readLocation_72 V S v1 h
    · refine x_aload_n X 0 dX7_readLocation_30 rfl ?_
      refine xg_X7_96 X K (Nat.zero_lt_one) dX7_readLocation_31 ?_
      refine x_aload_n X 0 dX7_readLocation_34 rfl ?_
      refine xg_X7_331 X K (Nat.zero_lt_one) dX7_readLocation_35 ?_
      obtain ⟨hb1, h⟩ := h
      refine xa_M36 X K (show 0 < 1 by decide) hb1 dX7_readLocation_38 ?_
      refine x_bipush X (v := 59) dX7_readLocation_39 (by decide) ?_
      refine x_icmp_ne X 48 dX7_readLocation_41 (by decide) h (fun h => ?_) (fun h => ?_)
      · refine x_iconst X (v := 1) dX7_readLocation_44 (by decide) ?_
        refine x_goto X 49 dX7_readLocation_45 (by decide) ?_
        refine x_sub [0] rfl ?_
        exact w_X7_readLocation_49 V hK15 S (1 : Int32) h
      · refine x_iconst X (v := 0) dX7_readLocation_48 (by decide) ?_
        refine x_sub [0] rfl ?_
        exact w_X7_readLocation_49 V hK15 S (0 : Int32) h
set_option maxHeartbeats 2000000 in
set_option maxRecDepth 20000 in
theorem w_X7_readLocation_15 {g : xG} {D : va_G} {cy : Nat → ClassId} {ad : Nat → Nat → Nat} {Q : Int32 → xS → Prop} (V : xEnv g D (xTys cy) (shM cy) ad RX7 cX7_readLocation (some .int) 3 73 4 (xQi Q)) (n : Nat) : ∀ (S : xS) (v1 : Int32), wp_X7_readLocation_15 Q n S v1 → Wx g (xW D (shM cy) ad S) 15 [(0, .ref (ad 0 0)), (1, .int v1)] [] := by
  induction n with
  | zero => intro S v1 h; exact h.elim
  | succ n ih => intro S v1 h; exact w_X7_readLocation_15_b V (fun S v1 h => ih S v1 h) S v1 h
set_option maxHeartbeats 2000000 in
set_option maxRecDepth 20000 in
theorem w_X7_readLocation {g : xG} {D : va_G} {cy : Nat → ClassId} {ad : Nat → Nat → Nat} {S : xS} {Q : Int32 → xS → Prop} (V : xEnv g D (xTys cy) (shM cy) ad RX7 cX7_readLocation (some .int) 3 73 4 (xQi Q)) (h : wp_X7_readLocation S Q) : Wx g (xW D (shM cy) ad S) 0 [(0, .ref (ad 0 0))] [] := by
  obtain ⟨X, K, hi, hA, hR, E, hN⟩ := V
  have V := xEnv_mk X K hi hA hR E hN
  unfold wp_X7_readLocation at h
  refine x_aload_n X 0 dX7_readLocation_0 rfl ?_
  refine x_iconst X (v := 0) dX7_readLocation_1 (by decide) ?_
  refine xp_X7_331 X K hi hA Nat.zero_lt_one dX7_readLocation_2 ?_
  refine x_aload_n X 0 dX7_readLocation_5 rfl ?_
  refine x_iconst X (v := 0) dX7_readLocation_6 (by decide) ?_
  refine xp_X7_341 X K hi hA Nat.zero_lt_one dX7_readLocation_7 ?_
  refine x_aload_n X 0 dX7_readLocation_10 rfl ?_
  refine x_calli hA (x_runV (n := 0) (sh := shM cy) X K hR (fun _ q => q) (m_X7_readsItem hi  h) (kM_0 cy Nat.zero_lt_one) rfl rfl t6_4 t6_6 tp_66 t1_8 t6_7 ⟨by decide, by decide, by decide +kernel⟩ rfl (by decide) (by decide) rfl (Nat.le_of_ble_eq_true rfl) dX7_readLocation_11) (fun r2 S1 h => ?_)
  refine x_istore_n X [(1, .int r2), (0, .ref (ad 0 0))] dX7_readLocation_14 (by rw [hN]; decide) rfl ?_
  refine x_sub [1, 0] rfl ?_
  obtain ⟨n3, h⟩ := h
  exact w_X7_readLocation_15 V n3 S1 r2 h
set_option maxHeartbeats 2000000 in
set_option maxRecDepth 20000 in
theorem m_X7_readLocation {l : Launch} {D : va_G} {cy : Nat → ClassId} {ad : Nat → Nat → Nat} (hi : xInj (shM cy) ad) {S : xS} {Q : Int32 → xS → Prop} (h : wp_X7_readLocation S Q) : xMet l D (xTys cy) (shM cy) ad yX7_readLocation cX7_readLocation 4 (some .int) (xRm 3 73) [.ref (ad 0 0)] S (xQi Q) := xMet_env hi (by decide +kernel) rfl (Nat.le_of_ble_eq_true rfl) (fun g hl V => w_X7_readLocation V h)
set_option maxHeartbeats 2000000 in
set_option maxRecDepth 20000 in
theorem w_X7_count_49 {g : xG} {D : va_G} {cy : Nat → ClassId} {ad : Nat → Nat → Nat} {Q : Int32 → xS → Prop} (V : xEnv g D (xTys cy) (shM cy) ad RX7 cX7_count (some .int) 0 0 2 (xQi Q)) (S : xS) (s0 : Int32) (h : wp_X7_count_49 Q S s0) : Wx g (xW D (shM cy) ad S) 49 [] [.int s0] := by
  obtain ⟨X, K, hi, hA, hR, E, hN⟩ := V
  have V := xEnv_mk X K hi hA hR E hN
  unfold wp_X7_count_49 at h
  exact x_iret X E dX7_count_49 ⟨_, rfl, h⟩
set_option maxHeartbeats 2000000 in
set_option maxRecDepth 20000 in
theorem w_X7_count {g : xG} {D : va_G} {cy : Nat → ClassId} {ad : Nat → Nat → Nat} {a1 : Int32} {S : xS} {Q : Int32 → xS → Prop} (V : xEnv g D (xTys cy) (shM cy) ad RX7 cX7_count (some .int) 0 0 2 (xQi Q)) (h : wp_X7_count a1 S Q) : Wx g (xW D (shM cy) ad S) 0 [(0, .ref (ad 0 0)), (1, .int a1)] [] := by
  obtain ⟨X, K, hi, hA, hR, E, hN⟩ := V
  have V := xEnv_mk X K hi hA hR E hN
  unfold wp_X7_count at h
  refine x_iload_n X 1 dX7_count_0 rfl ?_
  refine x_if_ne X 11 dX7_count_1 (by decide) h (fun h => ?_) (fun h => ?_)
  · refine x_aload_n X 0 dX7_count_4 rfl ?_
    refine xg_X7_107 X K Nat.zero_lt_one dX7_count_5 ?_
    refine x_goto X 49 dX7_count_8 (by decide) ?_
    refine x_sub [] rfl ?_
    exact w_X7_count_49 V S (S.1 0 0 0) h
  · refine x_iload_n X 1 dX7_count_11 rfl ?_
    refine x_iconst X (v := 1) dX7_count_12 (by decide) ?_
    refine x_icmp_ne X 23 dX7_count_13 (by decide) h (fun h => ?_) (fun h => ?_)
    · refine x_aload_n X 0 dX7_count_16 rfl ?_
      refine xg_X7_146 X K Nat.zero_lt_one dX7_count_17 ?_
      refine x_goto X 49 dX7_count_20 (by decide) ?_
      refine x_sub [] rfl ?_
      exact w_X7_count_49 V S (S.1 0 0 9) h
    · refine x_iload_n X 1 dX7_count_23 rfl ?_
      refine x_iconst X (v := 2) dX7_count_24 (by decide) ?_
      refine x_icmp_ne X 35 dX7_count_25 (by decide) h (fun h => ?_) (fun h => ?_)
      · refine x_aload_n X 0 dX7_count_28 rfl ?_
        refine xg_X7_322 X K Nat.zero_lt_one dX7_count_29 ?_
        refine x_goto X 49 dX7_count_32 (by decide) ?_
        refine x_sub [] rfl ?_
        exact w_X7_count_49 V S (S.1 0 0 32) h
      · refine x_iload_n X 1 dX7_count_35 rfl ?_
        refine x_iconst X (v := 3) dX7_count_36 (by decide) ?_
        refine x_icmp_ne X 47 dX7_count_37 (by decide) h (fun h => ?_) (fun h => ?_)
        · refine x_aload_n X 0 dX7_count_40 rfl ?_
          refine xg_X7_281 X K Nat.zero_lt_one dX7_count_41 ?_
          refine x_goto X 49 dX7_count_44 (by decide) ?_
          refine x_sub [] rfl ?_
          exact w_X7_count_49 V S (S.1 0 0 23) h
        · refine x_ldc X (v := -1000005) t4_138 dX7_count_47 ?_
          refine x_sub [] rfl ?_
          exact w_X7_count_49 V S (-1000005 : Int32) h
set_option maxHeartbeats 2000000 in
set_option maxRecDepth 20000 in
theorem m_X7_count {l : Launch} {D : va_G} {cy : Nat → ClassId} {ad : Nat → Nat → Nat} (hi : xInj (shM cy) ad) {a1 : Int32} {S : xS} {Q : Int32 → xS → Prop} (h : wp_X7_count a1 S Q) : xMet l D (xTys cy) (shM cy) ad yX7_count cX7_count 2 (some .int) (xRm 0 0) [.ref (ad 0 0), .int a1] S (xQi Q) := xMet_env hi (by decide +kernel) rfl (Nat.le_of_ble_eq_true rfl) (fun g hl V => w_X7_count V h)
