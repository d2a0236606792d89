set_option maxHeartbeats 2000000 in
set_option maxRecDepth 20000 in
theorem w_X6_middle {g : xG} {D : va_G} {cy : Nat → ClassId} {ad : Nat → Nat → Nat} {a1 : Int32} {a2 : Int32} {S : xS} {Q : UInt32 → xS → Prop} (V : xEnv g D (xTys cy) (shC cy) ad RX6 cX6_middle (some .float) 14 433 4 (xQf Q)) (h : wp_X6_middle a1 a2 S Q) : Wx g (xW D (shC cy) ad S) 0 [(0, .ref (ad 6 0)), (1, .int a1), (2, .int a2)] [] := by
  obtain ⟨X, K, hi, hA, hR, E, hN⟩ := V
  have V := xEnv_mk X K hi hA hR E hN
  unfold wp_X6_middle at h
  refine x_aload_n X 0 dX6_middle_0 rfl ?_
  refine x_iload_n X 1 dX6_middle_1 rfl ?_
  refine x_calli hA (x_runV (n := 1) (sh := shC cy) X K hR (fun _ q => q) (m_X6_hasGlyph hi  h) (kC_6 cy Nat.zero_lt_one) rfl rfl t2_97 t2_99 tp_4 t1_1 t2_100 ⟨by decide, by decide, by decide +kernel⟩ rfl (by decide) (by decide) rfl (Nat.le_of_ble_eq_true rfl) dX6_middle_2) (fun r2 S1 h => ?_)
  refine x_if_ne X 10 dX6_middle_5 (by decide) h (fun h => ?_) (fun h => ?_)
  · refine x_fconst0 X dX6_middle_8 ?_
    exact x_fret X E dX6_middle_9 ⟨_, rfl, h⟩
  · refine x_aload_n X 0 dX6_middle_10 rfl ?_
    refine x_iload_n X 1 dX6_middle_11 rfl ?_
    refine x_callr hA (x_runV (n := 1) (sh := shC cy) X K hR (fun _ q => q) (m_X6_drawnPresent hi  h) (kC_6 cy Nat.zero_lt_one) rfl rfl t2_125 t2_127 tp_7 t1_1 t2_128 ⟨by decide, by decide, by decide +kernel⟩ rfl (by decide) (by decide) rfl (Nat.le_of_ble_eq_true rfl) dX6_middle_12) (fun r4 S3 hv5 h => ?_)
    replace h := h hv5
    refine x_astore_n X [(3, .ref (ad 4 r4)), (0, .ref (ad 6 0)), (1, .int a1), (2, .int a2)] dX6_middle_15 (by rw [hN]; decide) rfl ?_
    refine x_aload_n X 0 dX6_middle_16 rfl ?_
    refine xg_X6_147 X K hv5 dX6_middle_17 ?_
    refine x_if_ne X 25 dX6_middle_20 (by decide) h (fun h => ?_) (fun h => ?_)
    · refine x_fconst0 X dX6_middle_23 ?_
      exact x_fret X E dX6_middle_24 ⟨_, rfl, h⟩
    · refine x_aload_n X 0 dX6_middle_25 rfl ?_
      refine x_iload_n X 3 dX6_middle_26 rfl ?_
      refine x_calll hA (x_runV (n := 1) (sh := shC cy) X K hR (fun _ q => q) (m_X4_leastOf hi hv5 h) (kC_4 cy hv5) rfl rfl t3_34 t3_35 t3_36 t1_2 t3_37 ⟨by decide, by decide, by decide +kernel⟩ rfl (by decide) (by decide) rfl (Nat.le_of_ble_eq_true rfl) dX6_middle_27) (fun r7 S6 h => ?_)
      refine x_aload_n X 0 dX6_middle_30 rfl ?_
      refine x_iload_n X 3 dX6_middle_31 rfl ?_
      refine x_calll hA (x_runV (n := 1) (sh := shC cy) X K hR (fun _ q => q) (m_X4_greatestOf hi hv5 h) (kC_4 cy hv5) rfl rfl t3_42 t3_43 t3_44 t1_2 t3_45 ⟨by decide, by decide, by decide +kernel⟩ rfl (by decide) (by decide) rfl (Nat.le_of_ble_eq_true rfl) dX6_middle_32) (fun r9 S8 h => ?_)
      refine x_ladd X dX6_middle_35 ?_
      refine x_l2d X dX6_middle_36 ?_
      refine x_ldc2d X (v := 4611686018427387904) t3_54 dX6_middle_37 ?_
      refine x_ddiv X dX6_middle_40 (fun r10 hr10 => ?_)
      replace h := h r10 hr10
      refine x_d2f X dX6_middle_41 (fun r11 hr11 => ?_)
      replace h := h r11 hr11
      exact x_fret X E dX6_middle_42 ⟨_, rfl, h⟩
set_option maxHeartbeats 2000000 in
set_option maxRecDepth 20000 in
theorem m_X6_middle {l : Launch} {D : va_G} {cy : Nat → ClassId} {ad : Nat → Nat → Nat} (hi : xInj (shC cy) ad) {a1 : Int32} {a2 : Int32} {S : xS} {Q : UInt32 → xS → Prop} (h : wp_X6_middle a1 a2 S Q) : xMet l D (xTys cy) (shC cy) ad yX6_middle cX6_middle 4 (some .float) (xRm 14 433) [.ref (ad 6 0), .int a1, .int a2] S (xQf Q) := xMet_env hi (by decide +kernel) rfl (Nat.le_of_ble_eq_true rfl) (fun g hl V => w_X6_middle V h)
set_option maxHeartbeats 2000000 in
set_option maxRecDepth 20000 in
theorem w_X6_area_53 {g : xG} {D : va_G} {cy : Nat → ClassId} {ad : Nat → Nat → Nat} {Q : Int64 → xS → Prop} (V : xEnv g D (xTys cy) (shC cy) ad RX6 cX6_area (some .long) 14 433 4 (xQl Q)) (S : xS) (s0 : Int64) (h : wp_X6_area_53 Q S s0) : Wx g (xW D (shC cy) ad S) 53 [] [.long s0] := by
  obtain ⟨X, K, hi, hA, hR, E, hN⟩ := V
  have V := xEnv_mk X K hi hA hR E hN
  unfold wp_X6_area_53 at h
  exact x_lret X E dX6_area_53 ⟨_, rfl, h⟩
set_option maxHeartbeats 2000000 in
set_option maxRecDepth 20000 in
theorem w_X6_area {g : xG} {D : va_G} {cy : Nat → ClassId} {ad : Nat → Nat → Nat} {a1 : Int32} {a2 : Int32} {S : xS} {Q : Int64 → xS → Prop} (V : xEnv g D (xTys cy) (shC cy) ad RX6 cX6_area (some .long) 14 433 4 (xQl Q)) (h : wp_X6_area a1 a2 S Q) : Wx g (xW D (shC cy) ad S) 0 [(0, .ref (ad 6 0)), (1, .int a1), (2, .int a2)] [] := by
  obtain ⟨X, K, hi, hA, hR, E, hN⟩ := V
  have V := xEnv_mk X K hi hA hR E hN
  unfold wp_X6_area at h
  refine x_aload_n X 0 dX6_area_0 rfl ?_
  refine x_iload_n X 1 dX6_area_1 rfl ?_
  refine x_calli hA (x_runV (n := 1) (sh := shC cy) X K hR (fun _ q => q) (m_X6_hasGlyph hi  h) (kC_6 cy Nat.zero_lt_one) rfl rfl t2_97 t2_99 tp_4 t1_1 t2_100 ⟨by decide, by decide, by decide +kernel⟩ rfl (by decide) (by decide) rfl (Nat.le_of_ble_eq_true rfl) dX6_area_2) (fun r2 S1 h => ?_)
  refine x_if_ne X 12 dX6_area_5 (by decide) h (fun h => ?_) (fun h => ?_)
  · refine x_ldc2 X (v := -9223372036854775808) t3_25 dX6_area_8 ?_
    exact x_lret X E dX6_area_11 ⟨_, rfl, h⟩
  · refine x_aload_n X 0 dX6_area_12 rfl ?_
    refine x_iload_n X 1 dX6_area_13 rfl ?_
    refine x_callr hA (x_runV (n := 1) (sh := shC cy) X K hR (fun _ q => q) (m_X6_drawnPresent hi  h) (kC_6 cy Nat.zero_lt_one) rfl rfl t2_125 t2_127 tp_7 t1_1 t2_128 ⟨by decide, by decide, by decide +kernel⟩ rfl (by decide) (by decide) rfl (Nat.le_of_ble_eq_true rfl) dX6_area_14) (fun r4 S3 hv5 h => ?_)
    replace h := h hv5
    refine x_astore_n X [(3, .ref (ad 4 r4)), (0, .ref (ad 6 0)), (1, .int a1), (2, .int a2)] dX6_area_17 (by rw [hN]; decide) rfl ?_
    refine x_iload_n X 3 dX6_area_18 rfl ?_
    refine x_iconst X (v := -1) dX6_area_19 (by decide) ?_
    refine x_aload_n X 0 dX6_area_20 rfl ?_
    refine xg_X6_154 X K hv5 dX6_area_21 ?_
    refine x_iconst X (v := 1) dX6_area_24 (by decide) ?_
    refine x_isub X dX6_area_25 ?_
    refine x_calli hA (x_runS (n := 3) X K hR (fun _ q => q) (m_X6_within hi  h) t2_4 t2_5 t1_1 t2_6 ⟨by decide, by decide, by decide +kernel⟩ rfl (by decide) (by decide) rfl (Nat.le_of_ble_eq_true rfl) dX6_area_26) (fun r7 S6 h => ?_)
    refine x_if_ne X 36 dX6_area_29 (by decide) h (fun h => ?_) (fun h => ?_)
    · refine x_ldc2 X (v := -9223372036854775808) t3_25 dX6_area_32 ?_
      exact x_lret X E dX6_area_35 ⟨_, rfl, h⟩
    · refine x_iload_n X 3 dX6_area_36 rfl ?_
      refine x_iconst X (v := -1) dX6_area_37 (by decide) ?_
      refine x_icmp_ne X 48 dX6_area_38 (by decide) h (fun h => ?_) (fun h => ?_)
      · refine x_aload_n X 0 dX6_area_41 rfl ?_
        refine x_calll hA (x_runV (n := 0) (sh := shC cy) X K hR (fun _ q => q) (m_X4_wholeArea hi hv5 h) (kC_4 cy hv5) rfl rfl t3_59 t3_60 t3_61 t1_2 t3_62 ⟨by decide, by decide, by decide +kernel⟩ rfl (by decide) (by decide) rfl (Nat.le_of_ble_eq_true rfl) dX6_area_42) (fun r9 S8 h => ?_)
        refine x_goto X 53 dX6_area_45 (by decide) ?_
        refine x_sub [] rfl ?_
        exact w_X6_area_53 V S8 r9 h
      · refine x_aload_n X 0 dX6_area_48 rfl ?_
        refine x_iload_n X 3 dX6_area_49 rfl ?_
        refine x_calll hA (x_runV (n := 1) (sh := shC cy) X K hR (fun _ q => q) (m_X4_contourArea hi hv5 h) (kC_4 cy hv5) rfl rfl t3_67 t3_64 t3_65 t1_2 t3_66 ⟨by decide, by decide, by decide +kernel⟩ rfl (by decide) (by decide) rfl (Nat.le_of_ble_eq_true rfl) dX6_area_50) (fun r11 S10 h => ?_)
        refine x_sub [] rfl ?_
        exact w_X6_area_53 V S10 r11 h
set_option maxHeartbeats 2000000 in
set_option maxRecDepth 20000 in
theorem m_X6_area {l : Launch} {D : va_G} {cy : Nat → ClassId} {ad : Nat → Nat → Nat} (hi : xInj (shC cy) ad) {a1 : Int32} {a2 : Int32} {S : xS} {Q : Int64 → xS → Prop} (h : wp_X6_area a1 a2 S Q) : xMet l D (xTys cy) (shC cy) ad yX6_area cX6_area 4 (some .long) (xRm 14 433) [.ref (ad 6 0), .int a1, .int a2] S (xQl Q) := xMet_env hi (by decide +kernel) rfl (Nat.le_of_ble_eq_true rfl) (fun g hl V => w_X6_area V h)
set_option maxHeartbeats 2000000 in
set_option maxRecDepth 20000 in
theorem w_X6_haveSameSign_55 {g : xG} {D : va_G} {cy : Nat → ClassId} {ad : Nat → Nat → Nat} {Q : Int32 → xS → Prop} (V : xEnv g D (xTys cy) (shC cy) ad RX6 cX6_haveSameSign (some .boolean) 0 0 4 (xQi Q)) (S : xS) (s0 : Int32) (h : wp_X6_haveSameSign_55 Q S s0) : Wx g (xW D (shC cy) ad S) 55 [] [.int s0] := by
  obtain ⟨X, K, hi, hA, hR, E, hN⟩ := V
  have V := xEnv_mk X K hi hA hR E hN
  unfold wp_X6_haveSameSign_55 at h
  exact x_zret X E dX6_haveSameSign_55 h.1 ⟨_, rfl, h.2⟩
set_option maxHeartbeats 2000000 in
set_option maxRecDepth 20000 in
theorem w_X6_haveSameSign_54 {g : xG} {D : va_G} {cy : Nat → ClassId} {ad : Nat → Nat → Nat} {Q : Int32 → xS → Prop} (V : xEnv g D (xTys cy) (shC cy) ad RX6 cX6_haveSameSign (some .boolean) 0 0 4 (xQi Q)) (S : xS) (h : wp_X6_haveSameSign_54 Q S) : Wx g (xW D (shC cy) ad S) 54 [] [] := by
  obtain ⟨X, K, hi, hA, hR, E, hN⟩ := V
  have V := xEnv_mk X K hi hA hR E hN
  unfold wp_X6_haveSameSign_54 at h
  refine x_iconst X (v := 0) dX6_haveSameSign_54 (by decide) ?_
  refine x_sub [] rfl ?_
  exact w_X6_haveSameSign_55 V S (0 : Int32) h
set_option maxHeartbeats 2000000 in
set_option maxRecDepth 20000 in
theorem w_X6_haveSameSign_47 {g : xG} {D : va_G} {cy : Nat → ClassId} {ad : Nat → Nat → Nat} {Q : Int32 → xS → Prop} (V : xEnv g D (xTys cy) (shC cy) ad RX6 cX6_haveSameSign (some .boolean) 0 0 4 (xQi Q)) (S : xS) (s0 : Int32) (s1 : Int32) (h : wp_X6_haveSameSign_47 Q S s0 s1) : Wx g (xW D (shC cy) ad S) 47 [] [.int s1, .int s0] := by
  obtain ⟨X, K, hi, hA, hR, E, hN⟩ := V
  have V := xEnv_mk X K hi hA hR E hN
  unfold wp_X6_haveSameSign_47 at h
  refine x_icmp_ne X 54 dX6_haveSameSign_47 (by decide) h (fun h => ?_) (fun h => ?_)
  · refine x_iconst X (v := 1) dX6_haveSameSign_50 (by decide) ?_
    refine x_goto X 55 dX6_haveSameSign_51 (by decide) ?_
    refine x_sub [] rfl ?_
    exact w_X6_haveSameSign_55 V S (1 : Int32) h
  · refine x_sub [] rfl ?_
    exact w_X6_haveSameSign_54 V S h
set_option maxHeartbeats 2000000 in
set_option maxRecDepth 20000 in
theorem w_X6_haveSameSign_36 {g : xG} {D : va_G} {cy : Nat → ClassId} {ad : Nat → Nat → Nat} {a2 : Int64} {Q : Int32 → xS → Prop} (V : xEnv g D (xTys cy) (shC cy) ad RX6 cX6_haveSameSign (some .boolean) 0 0 4 (xQi Q)) (S : xS) (s0 : Int32) (h : wp_X6_haveSameSign_36 a2 Q S s0) : Wx g (xW D (shC cy) ad S) 36 [(2, .long a2)] [.int s0] := by
  obtain ⟨X, K, hi, hA, hR, E, hN⟩ := V
  have V := xEnv_mk X K hi hA hR E hN
  unfold wp_X6_haveSameSign_36 at h
  refine x_lload_n X 0 dX6_haveSameSign_36 rfl ?_
  refine x_lconst X (v := 0) dX6_haveSameSign_37 (by decide) ?_
  refine x_lcmp X dX6_haveSameSign_38 ?_
  refine x_if_ge X 46 dX6_haveSameSign_39 (by decide) h (fun h => ?_) (fun h => ?_)
  · refine x_iconst X (v := 0) dX6_haveSameSign_46 (by decide) ?_
    refine x_sub [] rfl ?_
    exact w_X6_haveSameSign_47 V S s0 (0 : Int32) h
  · refine x_iconst X (v := 1) dX6_haveSameSign_42 (by decide) ?_
    refine x_goto X 47 dX6_haveSameSign_43 (by decide) ?_
    refine x_sub [] rfl ?_
    exact w_X6_haveSameSign_47 V S s0 (1 : Int32) h
set_option maxHeartbeats 2000000 in
set_option maxRecDepth 20000 in
theorem w_X6_haveSameSign_22 {g : xG} {D : va_G} {cy : Nat → ClassId} {ad : Nat → Nat → Nat} {a0 : Int64} {a2 : Int64} {Q : Int32 → xS → Prop} (V : xEnv g D (xTys cy) (shC cy) ad RX6 cX6_haveSameSign (some .boolean) 0 0 4 (xQi Q)) (S : xS) (s0 : Int32) (s1 : Int32) (h : wp_X6_haveSameSign_22 a0 a2 Q S s0 s1) : Wx g (xW D (shC cy) ad S) 22 [(0, .long a0), (2, .long a2)] [.int s1, .int s0] := by
  obtain ⟨X, K, hi, hA, hR, E, hN⟩ := V
  have V := xEnv_mk X K hi hA hR E hN
  unfold wp_X6_haveSameSign_22 at h
  refine x_icmp_ne X 54 dX6_haveSameSign_22 (by decide) h (fun h => ?_) (fun h => ?_)
  · refine x_lload_n X 0 dX6_haveSameSign_25 rfl ?_
    refine x_lconst X (v := 0) dX6_haveSameSign_26 (by decide) ?_
    refine x_lcmp X dX6_haveSameSign_27 ?_
    refine x_if_ge X 35 dX6_haveSameSign_28 (by decide) h (fun h => ?_) (fun h => ?_)
    · refine x_iconst X (v := 0) dX6_haveSameSign_35 (by decide) ?_
      refine x_sub [1] rfl ?_
      exact w_X6_haveSameSign_36 V S (0 : Int32) h
    · refine x_iconst X (v := 1) dX6_haveSameSign_31 (by decide) ?_
      refine x_goto X 36 dX6_haveSameSign_32 (by decide) ?_
      refine x_sub [1] rfl ?_
      exact w_X6_haveSameSign_36 V S (1 : Int32) h
  · refine x_sub [] rfl ?_
    exact w_X6_haveSameSign_54 V S h
set_option maxHeartbeats 2000000 in
set_option maxRecDepth 20000 in
theorem w_X6_haveSameSign_11 {g : xG} {D : va_G} {cy : Nat → ClassId} {ad : Nat → Nat → Nat} {a0 : Int64} {a2 : Int64} {Q : Int32 → xS → Prop} (V : xEnv g D (xTys cy) (shC cy) ad RX6 cX6_haveSameSign (some .boolean) 0 0 4 (xQi Q)) (S : xS) (s0 : Int32) (h : wp_X6_haveSameSign_11 a0 a2 Q S s0) : Wx g (xW D (shC cy) ad S) 11 [(0, .long a0), (2, .long a2)] [.int s0] := by
  obtain ⟨X, K, hi, hA, hR, E, hN⟩ := V
  have V := xEnv_mk X K hi hA hR E hN
  unfold wp_X6_haveSameSign_11 at h
  refine x_lload_n X 1 dX6_haveSameSign_11 rfl ?_
  refine x_lconst X (v := 0) dX6_haveSameSign_12 (by decide) ?_
  refine x_lcmp X dX6_haveSameSign_13 ?_
  refine x_if_le X 21 dX6_haveSameSign_14 (by decide) h (fun h => ?_) (fun h => ?_)
  · refine x_iconst X (v := 0) dX6_haveSameSign_21 (by decide) ?_
    refine x_sub [0, 1] rfl ?_
    exact w_X6_haveSameSign_22 V S s0 (0 : Int32) h
  · refine x_iconst X (v := 1) dX6_haveSameSign_17 (by decide) ?_
    refine x_goto X 22 dX6_haveSameSign_18 (by decide) ?_
    refine x_sub [0, 1] rfl ?_
    exact w_X6_haveSameSign_22 V S s0 (1 : Int32) h
set_option maxHeartbeats 2000000 in
set_option maxRecDepth 20000 in
theorem w_X6_haveSameSign {g : xG} {D : va_G} {cy : Nat → ClassId} {ad : Nat → Nat → Nat} {a0 : Int64} {a2 : Int64} {S : xS} {Q : Int32 → xS → Prop} (V : xEnv g D (xTys cy) (shC cy) ad RX6 cX6_haveSameSign (some .boolean) 0 0 4 (xQi Q)) (h : wp_X6_haveSameSign a0 a2 S Q) : Wx g (xW D (shC cy) ad S) 0 [(0, .long a0), (2, .long a2)] [] := by
  obtain ⟨X, K, hi, hA, hR, E, hN⟩ := V
  have V := xEnv_mk X K hi hA hR E hN
  unfold wp_X6_haveSameSign at h
  refine x_lload_n X 0 dX6_haveSameSign_0 rfl ?_
  refine x_lconst X (v := 0) dX6_haveSameSign_1 (by decide) ?_
  refine x_lcmp X dX6_haveSameSign_2 ?_
  refine x_if_le X 10 dX6_haveSameSign_3 (by decide) h (fun h => ?_) (fun h => ?_)
  · refine x_iconst X (v := 0) dX6_haveSameSign_10 (by decide) ?_
    refine x_sub [0, 1] rfl ?_
    exact w_X6_haveSameSign_11 V S (0 : Int32) h
  · refine x_iconst X (v := 1) dX6_haveSameSign_6 (by decide) ?_
    refine x_goto X 11 dX6_haveSameSign_7 (by decide) ?_
    refine x_sub [0, 1] rfl ?_
    exact w_X6_haveSameSign_11 V S (1 : Int32) h
set_option maxHeartbeats 2000000 in
set_option maxRecDepth 20000 in
theorem m_X6_haveSameSign {l : Launch} {D : va_G} {cy : Nat → ClassId} {ad : Nat → Nat → Nat} (hi : xInj (shC cy) ad) {a0 : Int64} {a2 : Int64} {S : xS} {Q : Int32 → xS → Prop} (h : wp_X6_haveSameSign a0 a2 S Q) : xMet l D (xTys cy) (shC cy) ad yX6_haveSameSign cX6_haveSameSign 4 (some .boolean) (xRm 0 0) [.long a0, .long a2] S (xQi Q) := xMet_env hi (by decide +kernel) rfl (Nat.le_of_ble_eq_true rfl) (fun g hl V => w_X6_haveSameSign V h)
set_option maxHeartbeats 2000000 in
set_option maxRecDepth 20000 in
theorem w_X6_flips_81 {g : xG} {D : va_G} {cy : Nat → ClassId} {ad : Nat → Nat → Nat} {K48 : xS → Nat → Int32 → Int32 → Prop} {Q : Int32 → xS → Prop} (V : xEnv g D (xTys cy) (shC cy) ad RX6 cX6_flips (some .int) 14 433 5 (xQi Q)) (hK48 : ∀ (S : xS) (v2 : Nat) (v3 : Int32) (v4 : Int32), v2 < 2 → K48 S v2 v3 v4 → Wx g (xW D (shC cy) ad S) 48 [(0, .ref (ad 6 0)), (2, .ref (ad 4 v2)), (3, .int v3), (4, .int v4)] []) (S : xS) (v2 : Nat) (v3 : Int32) (v4 : Int32) (hv2 : v2 < 2) (h : wp_X6_flips_81 K48 Q S v2 v3 v4) : Wx g (xW D (shC cy) ad S) 81 [(0, .ref (ad 6 0)), (2, .ref (ad 4 v2)), (3, .int v3), (4, .int v4)] [] := by
  obtain ⟨X, K, hi, hA, hR, E, hN⟩ := V
  have V := xEnv_mk X K hi hA hR E hN
  unfold wp_X6_flips_81 at h
  refine x_iinc X 3 [(4, .int (v4 + (1 : Int32))), (0, .ref (ad 6 0)), (2, .ref (ad 4 v2)), (3, .int v3)] dX6_flips_81 rfl rfl (by rw [hN]; decide) rfl ?_
  refine x_goto X 48 dX6_flips_84 (by decide) ?_
  refine x_sub [1, 2, 3, 0] rfl ?_
  exact hK48 S v2 v3 (v4 + (1 : Int32)) hv2 h
set_option maxHeartbeats 2000000 in
set_option maxRecDepth 20000 in
theorem w_X6_flips_48_b {g : xG} {D : va_G} {cy : Nat → ClassId} {ad : Nat → Nat → Nat} {K48 : xS → Nat → Int32 → Int32 → Prop} {Q : Int32 → xS → Prop} (V : xEnv g D (xTys cy) (shC cy) ad RX6 cX6_flips (some .int) 14 433 5 (xQi Q)) (hK48 : ∀ (S : xS) (v2 : Nat) (v3 : Int32) (v4 : Int32), v2 < 2 → K48 S v2 v3 v4 → Wx g (xW D (shC cy) ad S) 48 [(0, .ref (ad 6 0)), (2, .ref (ad 4 v2)), (3, .int v3), (4, .int v4)] []) (S : xS) (v2 : Nat) (v3 : Int32) (v4 : Int32) (hv2 : v2 < 2) (h : wp_X6_flips_48_b K48 Q S v2 v3 v4) : Wx g (xW D (shC cy) ad S) 48 [(0, .ref (ad 6 0)), (2, .ref (ad 4 v2)), (3, .int v3), (4, .int v4)] [] := by
  obtain ⟨X, K, hi, hA, hR, E, hN⟩ := V
  have V := xEnv_mk X K hi hA hR E hN
  unfold wp_X6_flips_48_b at h
  refine x_iload X 3 dX6_flips_48 rfl ?_
  refine x_aload_n X 1 dX6_flips_50 rfl ?_
  refine xg_X6_154 X K hv2 dX6_flips_51 ?_
  refine x_icmp_ge X 87 dX6_flips_54 (by decide) h (fun h => ?_) (fun h => ?_)
  · refine x_iload_n X 2 dX6_flips_87 rfl ?_
    exact x_iret X E dX6_flips_88 ⟨_, rfl, h⟩
  · refine x_aload_n X 1 dX6_flips_57 rfl ?_
    refine x_iload X 3 dX6_flips_58 rfl ?_
    refine x_calll hA (x_runV (n := 1) (sh := shC cy) X K hR (fun _ q => q) (m_X4_contourArea hi hv2 h) (kC_4 cy hv2) rfl rfl t3_67 t3_64 t3_65 t1_2 t3_66 ⟨by decide, by decide, by decide +kernel⟩ rfl (by decide) (by decide) rfl (Nat.le_of_ble_eq_true rfl) dX6_flips_60) (fun r2 S1 h => ?_)
    refine x_aload_n X 0 dX6_flips_63 rfl ?_
    refine xg_X6_40 X K (Nat.zero_lt_one) dX6_flips_64 ?_
    refine x_iload X 3 dX6_flips_67 rfl ?_
    refine x_calll hA (x_runV (n := 1) (sh := shC cy) X K hR (fun _ q => q) (m_X4_contourArea hi (show 1 < 2 by decide) h) (kC_4 cy (show 1 < 2 by decide)) rfl rfl t3_67 t3_64 t3_65 t1_2 t3_66 ⟨by decide, by decide, by decide +kernel⟩ rfl (by decide) (by decide) rfl (Nat.le_of_ble_eq_true rfl) dX6_flips_69) (fun r4 S3 h => ?_)
    refine x_calli hA (x_runS (n := 2) X K hR (fun _ q => q) (m_X6_haveSameSign hi  h) t3_72 t3_73 t1_1 t3_74 ⟨by decide, by decide, by decide +kernel⟩ rfl (by decide) (by decide) rfl (Nat.le_of_ble_eq_true rfl) dX6_flips_72) (fun r6 S5 h => ?_)
    refine x_if_ne X 81 dX6_flips_75 (by decide) h (fun h => ?_) (fun h => ?_)
    · refine x_iinc X 2 [(3, .int (v3 + (1 : Int32))), (0, .ref (ad 6 0)), (2, .ref (ad 4 v2)), (4, .int v4)] dX6_flips_78 rfl rfl (by rw [hN]; decide) rfl ?_
      refine x_sub [1, 2, 0, 3] rfl ?_
      exact w_X6_flips_81 V hK48 S5 v2 (v3 + (1 : Int32)) v4 hv2 h
    · refine x_sub [0, 1, 2, 3] rfl ?_
      exact w_X6_flips_81 V hK48 S5 v2 v3 v4 hv2 h
set_option maxHeartbeats 2000000 in
set_option maxRecDepth 20000 in
theorem w_X6_flips_48 {g : xG} {D : va_G} {cy : Nat → ClassId} {ad : Nat → Nat → Nat} {Q : Int32 → xS → Prop} (V : xEnv g D (xTys cy) (shC cy) ad RX6 cX6_flips (some .int) 14 433 5 (xQi Q)) (n : Nat) : ∀ (S : xS) (v2 : Nat) (v3 : Int32) (v4 : Int32) (hv2 : v2 < 2), wp_X6_flips_48 Q n S v2 v3 v4 → Wx g (xW D (shC cy) ad S) 48 [(0, .ref (ad 6 0)), (2, .ref (ad 4 v2)), (3, .int v3), (4, .int v4)] [] := by
  induction n with
  | zero => intro S v2 v3 v4 hv2 h; exact h.elim
  | succ n ih => intro S v2 v3 v4 hv2 h; exact w_X6_flips_48_b V (fun S v2 v3 v4 hv2 h => ih S v2 v3 v4 hv2 h) S v2 v3 v4 hv2 h
set_option maxHeartbeats 2000000 in
set_option maxRecDepth 20000 in
theorem w_X6_flips {g : xG} {D : va_G} {cy : Nat → ClassId} {ad : Nat → Nat → Nat} {a1 : Int32} {S : xS} {Q : Int32 → xS → Prop} (V : xEnv g D (xTys cy) (shC cy) ad RX6 cX6_flips (some .int) 14 433 5 (xQi Q)) (h : wp_X6_flips a1 S Q) : Wx g (xW D (shC cy) ad S) 0 [(0, .ref (ad 6 0)), (1, .int a1)] [] := by
  obtain ⟨X, K, hi, hA, hR, E, hN⟩ := V
  have V := xEnv_mk X K hi hA hR E hN
  unfold wp_X6_flips at h
  refine x_aload_n X 0 dX6_flips_0 rfl ?_
  refine x_iload_n X 1 dX6_flips_1 rfl ?_
  refine x_calli hA (x_runV (n := 1) (sh := shC cy) X K hR (fun _ q => q) (m_X6_hasGlyph hi  h) (kC_6 cy Nat.zero_lt_one) rfl rfl t2_97 t2_99 tp_4 t1_1 t2_100 ⟨by decide, by decide, by decide +kernel⟩ rfl (by decide) (by decide) rfl (Nat.le_of_ble_eq_true rfl) dX6_flips_2) (fun r2 S1 h => ?_)
  refine x_if_ne X 11 dX6_flips_5 (by decide) h (fun h => ?_) (fun h => ?_)
  · refine x_ldc X (v := -1000002) t2_101 dX6_flips_8 ?_
    exact x_iret X E dX6_flips_10 ⟨_, rfl, h⟩
  · refine x_aload_n X 0 dX6_flips_11 rfl ?_
    refine x_iload_n X 1 dX6_flips_12 rfl ?_
    refine x_callr hA (x_runV (n := 1) (sh := shC cy) X K hR (fun _ q => q) (m_X6_drawnPresent hi  h) (kC_6 cy Nat.zero_lt_one) rfl rfl t2_125 t2_127 tp_7 t1_1 t2_128 ⟨by decide, by decide, by decide +kernel⟩ rfl (by decide) (by decide) rfl (Nat.le_of_ble_eq_true rfl) dX6_flips_13) (fun r4 S3 hv5 h => ?_)
    replace h := h hv5
    refine x_astore_n X [(2, .ref (ad 4 r4)), (0, .ref (ad 6 0)), (1, .int a1)] dX6_flips_16 (by rw [hN]; decide) rfl ?_
    refine x_aload_n X 1 dX6_flips_17 rfl ?_
    refine xg_X6_40 X K Nat.zero_lt_one dX6_flips_18 ?_
    refine x_callv hA (x_runV (n := 0) (sh := shC cy) X K hR (fun _ q => q) (m_X4_clear hi (show 1 < 2 by decide) h) (kC_4 cy (show 1 < 2 by decide)) rfl rfl t2_129 t2_130 t2_131 t1_2 t2_132 ⟨by decide, by decide, by decide +kernel⟩ rfl (by decide) (by decide) rfl (Nat.le_of_ble_eq_true rfl) dX6_flips_21) (fun S6 h => ?_)
    refine x_aload_n X 1 dX6_flips_24 rfl ?_
    refine xg_X6_29 X K Nat.zero_lt_one dX6_flips_25 ?_
    refine x_iload_n X 2 dX6_flips_28 rfl ?_
    refine x_aload_n X 1 dX6_flips_29 rfl ?_
    refine xg_X6_21 X K Nat.zero_lt_one dX6_flips_30 ?_
    refine x_aload_n X 1 dX6_flips_33 rfl ?_
    refine xg_X6_40 X K Nat.zero_lt_one dX6_flips_34 ?_
    refine x_lconst X (v := 0) dX6_flips_37 (by decide) ?_
    refine x_lconst X (v := 0) dX6_flips_38 (by decide) ?_
    refine x_iconst X (v := 0) dX6_flips_39 (by decide) ?_
    refine x_callv hA (x_runS (n := 7) X K hR (fun _ q => q) (m_X6_draw hi (show 1 < 3 by decide) (show 1 < 2 by decide) h) t2_133 t2_134 t1_1 t2_135 ⟨by decide, by decide, by decide +kernel⟩ rfl (by decide) (by decide) rfl (Nat.le_of_ble_eq_true rfl) dX6_flips_40) (fun S8 h => ?_)
    refine x_iconst X (v := 0) dX6_flips_43 (by decide) ?_
    refine x_istore_n X [(3, .int (0 : Int32)), (2, .ref (ad 4 r4)), (0, .ref (ad 6 0)), (1, .int a1)] dX6_flips_44 (by rw [hN]; decide) rfl ?_
    refine x_iconst X (v := 0) dX6_flips_45 (by decide) ?_
    refine x_istore X [(4, .int (0 : Int32)), (3, .int (0 : Int32)), (2, .ref (ad 4 r4)), (0, .ref (ad 6 0)), (1, .int a1)] dX6_flips_46 (by rw [hN]; decide) rfl ?_
    refine x_sub [3, 2, 1, 0] rfl ?_
    obtain ⟨n10, h⟩ := h
    exact w_X6_flips_48 V n10 S8 r4 (0 : Int32) (0 : Int32) hv5 h
set_option maxHeartbeats 2000000 in
set_option maxRecDepth 20000 in
theorem m_X6_flips {l : Launch} {D : va_G} {cy : Nat → ClassId} {ad : Nat → Nat → Nat} (hi : xInj (shC cy) ad) {a1 : Int32} {S : xS} {Q : Int32 → xS → Prop} (h : wp_X6_flips a1 S Q) : xMet l D (xTys cy) (shC cy) ad yX6_flips cX6_flips 5 (some .int) (xRm 14 433) [.ref (ad 6 0), .int a1] S (xQi Q) := xMet_env hi (by decide +kernel) rfl (Nat.le_of_ble_eq_true rfl) (fun g hl V => w_X6_flips V h)
set_option maxHeartbeats 2000000 in
set_option maxRecDepth 20000 in
theorem w_X6_widest_100 {g : xG} {D : va_G} {cy : Nat → ClassId} {ad : Nat → Nat → Nat} {a1 : Int32} {a2 : Int32} {K50 : xS → Int32 → Int64 → Int32 → Prop} {Q : Int32 → xS → Prop} (V : xEnv g D (xTys cy) (shC cy) ad RX6 cX6_widest (some .int) 5 132 9 (xQi Q)) (hK50 : ∀ (S : xS) (v3 : Int32) (v4 : Int64) (v6 : Int32), K50 S v3 v4 v6 → Wx g (xW D (shC cy) ad S) 50 [(0, .ref (ad 6 0)), (1, .int a1), (2, .int a2), (3, .int v3), (4, .long v4), (6, .int v6)] []) (S : xS) (v3 : Int32) (v4 : Int64) (v6 : Int32) (h : wp_X6_widest_100 a1 a2 K50 Q S v3 v4 v6) : Wx g (xW D (shC cy) ad S) 100 [(0, .ref (ad 6 0)), (1, .int a1), (2, .int a2), (3, .int v3), (4, .long v4), (6, .int v6)] [] := by
  obtain ⟨X, K, hi, hA, hR, E, hN⟩ := V
  have V := xEnv_mk X K hi hA hR E hN
  unfold wp_X6_widest_100 at h
  refine x_iincW X 5 [(6, .int (v6 + (2048 : Int32))), (0, .ref (ad 6 0)), (1, .int a1), (2, .int a2), (3, .int v3), (4, .long v4)] dX6_widest_100 rfl rfl (by rw [hN]; decide) rfl ?_
  refine x_goto X 50 dX6_widest_106 (by decide) ?_
  refine x_sub [1, 2, 3, 4, 5, 0] rfl ?_
  exact hK50 S v3 v4 (v6 + (2048 : Int32)) h
set_option maxHeartbeats 2000000 in
set_option maxRecDepth 20000 in
theorem w_X6_widest_50_b {g : xG} {D : va_G} {cy : Nat → ClassId} {ad : Nat → Nat → Nat} {a1 : Int32} {a2 : Int32} {K50 : xS → Int32 → Int64 → Int32 → Prop} {Q : Int32 → xS → Prop} (V : xEnv g D (xTys cy) (shC cy) ad RX6 cX6_widest (some .int) 5 132 9 (xQi Q)) (hK50 : ∀ (S : xS) (v3 : Int32) (v4 : Int64) (v6 : Int32), K50 S v3 v4 v6 → Wx g (xW D (shC cy) ad S) 50 [(0, .ref (ad 6 0)), (1, .int a1), (2, .int a2), (3, .int v3), (4, .long v4), (6, .int v6)] []) (S : xS) (v3 : Int32) (v4 : Int64) (v6 : Int32) (h : wp_X6_widest_50_b a1 a2 K50 Q S v3 v4 v6) : Wx g (xW D (shC cy) ad S) 50 [(0, .ref (ad 6 0)), (1, .int a1), (2, .int a2), (3, .int v3), (4, .long v4), (6, .int v6)] [] := by
  obtain ⟨X, K, hi, hA, hR, E, hN⟩ := V
  have V := xEnv_mk X K hi hA hR E hN
  unfold wp_X6_widest_50_b at h
  refine x_iload X 5 dX6_widest_50 rfl ?_
  refine x_sipush X (v := 16384) dX6_widest_52 (by decide) ?_
  refine x_icmp_gt X 109 dX6_widest_55 (by decide) h (fun h => ?_) (fun h => ?_)
  · refine x_iload_n X 3 dX6_widest_109 rfl ?_
    exact x_iret X E dX6_widest_110 ⟨_, rfl, h⟩
  · refine x_aload_n X 0 dX6_widest_58 rfl ?_
    refine xg_X6_24 X K (Nat.zero_lt_one) dX6_widest_59 ?_
    refine x_iload_n X 2 dX6_widest_62 rfl ?_
    refine x_iload X 5 dX6_widest_63 rfl ?_
    obtain ⟨hb1, h⟩ := h
    refine xs_C30 X K hi hA (show 2 < 3 by decide) hb1 dX6_widest_65 ?_
    refine x_aload_n X 0 dX6_widest_66 rfl ?_
    refine xg_X6_29 X K (Nat.zero_lt_one) dX6_widest_67 ?_
    refine x_iload_n X 1 dX6_widest_70 rfl ?_
    obtain ⟨hb2, h⟩ := h
    refine xa_C31 X K (show 0 < 1 by decide) hb2 dX6_widest_71 ?_
    refine x_iconst X (v := 0) dX6_widest_72 (by decide) ?_
    refine x_iconst X (v := 0) dX6_widest_73 (by decide) ?_
    refine x_aload_n X 0 dX6_widest_74 rfl ?_
    refine xg_X6_24 X K (Nat.zero_lt_one) dX6_widest_75 ?_
    refine x_bipush X (v := 15) dX6_widest_78 (by decide) ?_
    refine x_calll hA (x_runV (n := 4) (sh := shC cy) X K hR (fun _ q => q) (m_X1_placeAt hi (Nat.lt_of_lt_of_le (xIn_lt hb2) (by decide : 6 ≤ 12)) (show 2 < 3 by decide) h) (kC_1 cy (Nat.lt_of_lt_of_le (xIn_lt hb2) (by decide : 6 ≤ 12))) rfl rfl t2_136 t2_137 t2_138 t1_4 t2_139 ⟨by decide, by decide, by decide +kernel⟩ rfl (by decide) (by decide) rfl (Nat.le_of_ble_eq_true rfl) dX6_widest_80) (fun r4 S3 h => ?_)
    refine x_lstore X [(7, .long r4), (0, .ref (ad 6 0)), (1, .int a1), (2, .int a2), (3, .int v3), (4, .long v4), (6, .int v6)] dX6_widest_83 (by rw [hN]; decide) rfl ?_
    refine x_lload X 0 dX6_widest_85 rfl ?_
    refine x_lload X 5 dX6_widest_87 rfl ?_
    refine x_lcmp X dX6_widest_89 ?_
    refine x_if_le X 100 dX6_widest_90 (by decide) h (fun h => ?_) (fun h => ?_)
    · refine x_sub [1, 2, 3, 4, 5, 6] rfl ?_
      exact w_X6_widest_100 V hK50 S3 v3 v4 v6 h
    · refine x_lload X 0 dX6_widest_93 rfl ?_
      refine x_lstore X [(4, .long r4), (7, .long r4), (0, .ref (ad 6 0)), (1, .int a1), (2, .int a2), (3, .int v3), (6, .int v6)] dX6_widest_95 (by rw [hN]; decide) rfl ?_
      refine x_iload X 6 dX6_widest_97 rfl ?_
      refine x_istore_n X [(3, .int v6), (4, .long r4), (7, .long r4), (0, .ref (ad 6 0)), (1, .int a1), (2, .int a2), (6, .int v6)] dX6_widest_99 (by rw [hN]; decide) rfl ?_
      refine x_sub [3, 4, 5, 0, 1, 6] rfl ?_
      exact w_X6_widest_100 V hK50 S3 v6 r4 v6 h
set_option maxHeartbeats 2000000 in
set_option maxRecDepth 20000 in
theorem w_X6_widest_50 {g : xG} {D : va_G} {cy : Nat → ClassId} {ad : Nat → Nat → Nat} {a1 : Int32} {a2 : Int32} {Q : Int32 → xS → Prop} (V : xEnv g D (xTys cy) (shC cy) ad RX6 cX6_widest (some .int) 5 132 9 (xQi Q)) (n : Nat) : ∀ (S : xS) (v3 : Int32) (v4 : Int64) (v6 : Int32), wp_X6_widest_50 a1 a2 Q n S v3 v4 v6 → Wx g (xW D (shC cy) ad S) 50 [(0, .ref (ad 6 0)), (1, .int a1), (2, .int a2), (3, .int v3), (4, .long v4), (6, .int v6)] [] := by
  induction n with
  | zero => intro S v3 v4 v6 h; exact h.elim
  | succ n ih => intro S v3 v4 v6 h; exact w_X6_widest_50_b V (fun S v3 v4 v6 h => ih S v3 v4 v6 h) S v3 v4 v6 h
set_option maxHeartbeats 2000000 in
set_option maxRecDepth 20000 in
theorem w_X6_widest {g : xG} {D : va_G} {cy : Nat → ClassId} {ad : Nat → Nat → Nat} {a1 : Int32} {a2 : Int32} {S : xS} {Q : Int32 → xS → Prop} (V : xEnv g D (xTys cy) (shC cy) ad RX6 cX6_widest (some .int) 5 132 9 (xQi Q)) (h : wp_X6_widest a1 a2 S Q) : Wx g (xW D (shC cy) ad S) 0 [(0, .ref (ad 6 0)), (1, .int a1), (2, .int a2)] [] := by
  obtain ⟨X, K, hi, hA, hR, E, hN⟩ := V
  have V := xEnv_mk X K hi hA hR E hN
  unfold wp_X6_widest at h
  refine x_aload_n X 0 dX6_widest_0 rfl ?_
  refine x_iload_n X 1 dX6_widest_1 rfl ?_
  refine x_calli hA (x_runV (n := 1) (sh := shC cy) X K hR (fun _ q => q) (m_X6_hasGlyph hi  h) (kC_6 cy Nat.zero_lt_one) rfl rfl t2_97 t2_99 tp_4 t1_1 t2_100 ⟨by decide, by decide, by decide +kernel⟩ rfl (by decide) (by decide) rfl (Nat.le_of_ble_eq_true rfl) dX6_widest_2) (fun r2 S1 h => ?_)
  refine x_if_ne X 11 dX6_widest_5 (by decide) h (fun h => ?_) (fun h => ?_)
  · refine x_ldc X (v := -1000002) t2_101 dX6_widest_8 ?_
    exact x_iret X E dX6_widest_10 ⟨_, rfl, h⟩
  · refine x_aload_n X 0 dX6_widest_11 rfl ?_
    refine x_iload_n X 2 dX6_widest_12 rfl ?_
    refine x_calli hA (x_runV (n := 1) (sh := shC cy) X K hR (fun _ q => q) (m_X6_hasAxis hi  h) (kC_6 cy Nat.zero_lt_one) rfl rfl t2_17 t2_19 tp_0 t1_1 t2_20 ⟨by decide, by decide, by decide +kernel⟩ rfl (by decide) (by decide) rfl (Nat.le_of_ble_eq_true rfl) dX6_widest_13) (fun r4 S3 h => ?_)
    refine x_if_ne X 22 dX6_widest_16 (by decide) h (fun h => ?_) (fun h => ?_)
    · refine x_ldc X (v := -1000001) t2_21 dX6_widest_19 ?_
      exact x_iret X E dX6_widest_21 ⟨_, rfl, h⟩
    · refine x_aload_n X 0 dX6_widest_22 rfl ?_
      refine xg_X6_17 X K Nat.zero_lt_one dX6_widest_23 ?_
      refine x_iconst X (v := 0) dX6_widest_26 (by decide) ?_
      refine x_aload_n X 0 dX6_widest_27 rfl ?_
      refine xg_X6_24 X K Nat.zero_lt_one dX6_widest_28 ?_
      refine x_iconst X (v := 0) dX6_widest_31 (by decide) ?_
      refine x_iconst X (v := 4) dX6_widest_32 (by decide) ?_
      obtain ⟨hc5, h⟩ := h
      refine x_copyi (sh := shC cy) (t0 := 1) X K hi hA hR (kC_30 cy (show 2 < 3 by decide)) (kC_30 cy (show 0 < 3 by decide)) (fun _ => rfl) rfl rfl hc5.1 hc5.2.1 hc5.2.2.1 hc5.2.2.2.1 hc5.2.2.2.2 t3_79 t3_81 t3_80 t1_11 (by decide) (by decide) dX6_widest_33 ?_
      refine x_sipush X (v := -16384) dX6_widest_36 (by decide) ?_
      refine x_istore_n X [(3, .int (-16384 : Int32)), (0, .ref (ad 6 0)), (1, .int a1), (2, .int a2)] dX6_widest_39 (by rw [hN]; decide) rfl ?_
      refine x_ldc2 X (v := -9223372036854775808) t3_25 dX6_widest_40 ?_
      refine x_lstore X [(4, .long (-9223372036854775808 : Int64)), (3, .int (-16384 : Int32)), (0, .ref (ad 6 0)), (1, .int a1), (2, .int a2)] dX6_widest_43 (by rw [hN]; decide) rfl ?_
      refine x_sipush X (v := -16384) dX6_widest_45 (by decide) ?_
      refine x_istore X [(6, .int (-16384 : Int32)), (4, .long (-9223372036854775808 : Int64)), (3, .int (-16384 : Int32)), (0, .ref (ad 6 0)), (1, .int a1), (2, .int a2)] dX6_widest_48 (by rw [hN]; decide) rfl ?_
      refine x_sub [3, 4, 5, 2, 1, 0] rfl ?_
      obtain ⟨n6, h⟩ := h
      exact w_X6_widest_50 V n6 (xC S3 30 2 (va_cpy (S3.1 30 0) (S3.1 30 2) (0 : Int32).toNatClampNeg (0 : Int32).toNatClampNeg (4 : Int32).toNatClampNeg)) (-16384 : Int32) (-9223372036854775808 : Int64) (-16384 : Int32) h
set_option maxHeartbeats 2000000 in
set_option maxRecDepth 20000 in
theorem m_X6_widest {l : Launch} {D : va_G} {cy : Nat → ClassId} {ad : Nat → Nat → Nat} (hi : xInj (shC cy) ad) {a1 : Int32} {a2 : Int32} {S : xS} {Q : Int32 → xS → Prop} (h : wp_X6_widest a1 a2 S Q) : xMet l D (xTys cy) (shC cy) ad yX6_widest cX6_widest 9 (some .int) (xRm 5 132) [.ref (ad 6 0), .int a1, .int a2] S (xQi Q) := xMet_env hi (by decide +kernel) rfl (Nat.le_of_ble_eq_true rfl) (fun g hl V => w_X6_widest V h)
set_option maxHeartbeats 2000000 in
set_option maxRecDepth 20000 in
theorem w_X6_merge {g : xG} {D : va_G} {cy : Nat → ClassId} {ad : Nat → Nat → Nat} {a1 : Int32} {S : xS} {Q : Int32 → xS → Prop} (V : xEnv g D (xTys cy) (shC cy) ad RX6 cX6_merge (some .int) 7 169 2 (xQi Q)) (h : wp_X6_merge a1 S Q) : Wx g (xW D (shC cy) ad S) 0 [(0, .ref (ad 6 0)), (1, .int a1)] [] := by
  obtain ⟨X, K, hi, hA, hR, E, hN⟩ := V
  have V := xEnv_mk X K hi hA hR E hN
  unfold wp_X6_merge at h
  refine x_aload_n X 0 dX6_merge_0 rfl ?_
  refine x_iload_n X 1 dX6_merge_1 rfl ?_
  refine x_calli hA (x_runV (n := 1) (sh := shC cy) X K hR (fun _ q => q) (m_X6_hasGlyph hi  h) (kC_6 cy Nat.zero_lt_one) rfl rfl t2_97 t2_99 tp_4 t1_1 t2_100 ⟨by decide, by decide, by decide +kernel⟩ rfl (by decide) (by decide) rfl (Nat.le_of_ble_eq_true rfl) dX6_merge_2) (fun r2 S1 h => ?_)
  refine x_if_ne X 11 dX6_merge_5 (by decide) h (fun h => ?_) (fun h => ?_)
  · refine x_ldc X (v := -1000002) t2_101 dX6_merge_8 ?_
    exact x_iret X E dX6_merge_10 ⟨_, rfl, h⟩
  · refine x_aload_n X 0 dX6_merge_11 rfl ?_
    refine xg_X6_46 X K Nat.zero_lt_one dX6_merge_12 ?_
    refine x_iload_n X 1 dX6_merge_15 rfl ?_
    refine x_aload_n X 0 dX6_merge_16 rfl ?_
    refine xg_X6_29 X K Nat.zero_lt_one dX6_merge_17 ?_
    refine x_iload_n X 1 dX6_merge_20 rfl ?_
    obtain ⟨hb3, h⟩ := h
    refine xa_C31 X K (show 0 < 1 by decide) hb3 dX6_merge_21 ?_
    refine x_callv hA (x_runV (n := 2) (sh := shC cy) X K hR (fun _ q => q) (m_X2_remember hi (Nat.lt_of_lt_of_le (xIn_lt hb3) (by decide : 6 ≤ 12)) h) (kC_2 cy (show 0 < 1 by decide)) rfl rfl t3_86 t3_87 t3_88 t1_3 t3_89 ⟨by decide, by decide, by decide +kernel⟩ rfl (by decide) (by decide) rfl (Nat.le_of_ble_eq_true rfl) dX6_merge_22) (fun S4 h => ?_)
    refine x_aload_n X 0 dX6_merge_25 rfl ?_
    refine xg_X6_29 X K Nat.zero_lt_one dX6_merge_26 ?_
    refine x_iload_n X 1 dX6_merge_29 rfl ?_
    obtain ⟨hb6, h⟩ := h
    refine xa_C31 X K (show 0 < 1 by decide) hb6 dX6_merge_30 ?_
    refine x_calli hA (x_runV (n := 0) (sh := shC cy) X K hR (fun _ q => q) (m_X1_mergeTuples hi (Nat.lt_of_lt_of_le (xIn_lt hb6) (by decide : 6 ≤ 12)) h) (kC_1 cy (Nat.lt_of_lt_of_le (xIn_lt hb6) (by decide : 6 ≤ 12))) rfl rfl t3_104 t3_105 t3_106 t1_4 t3_107 ⟨by decide, by decide, by decide +kernel⟩ rfl (by decide) (by decide) rfl (Nat.le_of_ble_eq_true rfl) dX6_merge_31) (fun r8 S7 h => ?_)
    exact x_iret X E dX6_merge_34 ⟨_, rfl, h⟩
set_option maxHeartbeats 2000000 in
set_option maxRecDepth 20000 in
theorem m_X6_merge {l : Launch} {D : va_G} {cy : Nat → ClassId} {ad : Nat → Nat → Nat} (hi : xInj (shC cy) ad) {a1 : Int32} {S : xS} {Q : Int32 → xS → Prop} (h : wp_X6_merge a1 S Q) : xMet l D (xTys cy) (shC cy) ad yX6_merge cX6_merge 2 (some .int) (xRm 7 169) [.ref (ad 6 0), .int a1] S (xQi Q) := xMet_env hi (by decide +kernel) rfl (Nat.le_of_ble_eq_true rfl) (fun g hl V => w_X6_merge V h)
set_option maxHeartbeats 2000000 in
set_option maxRecDepth 20000 in
theorem w_X6_compact {g : xG} {D : va_G} {cy : Nat → ClassId} {ad : Nat → Nat → Nat} {a1 : Int32} {a2 : Int32} {S : xS} {Q : Int32 → xS → Prop} (V : xEnv g D (xTys cy) (shC cy) ad RX6 cX6_compact (some .int) 7 170 4 (xQi Q)) (h : wp_X6_compact a1 a2 S Q) : Wx g (xW D (shC cy) ad S) 0 [(0, .ref (ad 6 0)), (1, .int a1), (2, .int a2)] [] := by
  obtain ⟨X, K, hi, hA, hR, E, hN⟩ := V
  have V := xEnv_mk X K hi hA hR E hN
  unfold wp_X6_compact at h
  refine x_aload_n X 0 dX6_compact_0 rfl ?_
  refine x_iload_n X 1 dX6_compact_1 rfl ?_
  refine x_iload_n X 2 dX6_compact_2 rfl ?_
  refine x_calli hA (x_runV (n := 2) (sh := shC cy) X K hR (fun _ q => q) (m_X6_tupleError hi  h) (kC_6 cy Nat.zero_lt_one) rfl rfl t2_200 t2_202 tp_10 t1_1 t2_203 ⟨by decide, by decide, by decide +kernel⟩ rfl (by decide) (by decide) rfl (Nat.le_of_ble_eq_true rfl) dX6_compact_3) (fun r2 S1 h => ?_)
  refine x_istore_n X [(3, .int r2), (0, .ref (ad 6 0)), (1, .int a1), (2, .int a2)] dX6_compact_6 (by rw [hN]; decide) rfl ?_
  refine x_iload_n X 0 dX6_compact_7 rfl ?_
  refine x_if_eq X 13 dX6_compact_8 (by decide) h (fun h => ?_) (fun h => ?_)
  · refine x_aload_n X 1 dX6_compact_13 rfl ?_
    refine xg_X6_46 X K Nat.zero_lt_one dX6_compact_14 ?_
    refine x_iload_n X 2 dX6_compact_17 rfl ?_
    refine x_aload_n X 1 dX6_compact_18 rfl ?_
    refine xg_X6_29 X K Nat.zero_lt_one dX6_compact_19 ?_
    refine x_iload_n X 2 dX6_compact_22 rfl ?_
    obtain ⟨hb3, h⟩ := h
    refine xa_C31 X K (show 0 < 1 by decide) hb3 dX6_compact_23 ?_
    refine x_callv hA (x_runV (n := 2) (sh := shC cy) X K hR (fun _ q => q) (m_X2_remember hi (Nat.lt_of_lt_of_le (xIn_lt hb3) (by decide : 6 ≤ 12)) h) (kC_2 cy (show 0 < 1 by decide)) rfl rfl t3_86 t3_87 t3_88 t1_3 t3_89 ⟨by decide, by decide, by decide +kernel⟩ rfl (by decide) (by decide) rfl (Nat.le_of_ble_eq_true rfl) dX6_compact_24) (fun S4 h => ?_)
    refine x_aload_n X 1 dX6_compact_27 rfl ?_
    refine xg_X6_29 X K Nat.zero_lt_one dX6_compact_28 ?_
    refine x_iload_n X 2 dX6_compact_31 rfl ?_
    obtain ⟨hb6, h⟩ := h
    refine xa_C31 X K (show 0 < 1 by decide) hb6 dX6_compact_32 ?_
    refine x_aload_n X 1 dX6_compact_33 rfl ?_
    refine xg_X6_29 X K Nat.zero_lt_one dX6_compact_34 ?_
    refine x_iload_n X 2 dX6_compact_37 rfl ?_
    obtain ⟨hb7, h⟩ := h
    refine xa_C31 X K (show 0 < 1 by decide) hb7 dX6_compact_38 ?_
    refine xg_X6_163 X K (Nat.lt_of_lt_of_le (xIn_lt hb7) (by decide : 6 ≤ 12)) dX6_compact_39 ?_
    refine x_iload_n X 3 dX6_compact_42 rfl ?_
    obtain ⟨⟨hb8, hv9⟩, h⟩ := h
    refine xa_C16 X K (Nat.lt_of_lt_of_le (xIn_lt hb7) (by decide : 6 ≤ 12)) hb8 dX6_compact_43 ?_
    refine x_calli hA (x_runV (n := 1) (sh := shC cy) X K hR (fun _ q => q) (m_X1_compactTuple hi (Nat.lt_of_lt_of_le (xIn_lt hb6) (by decide : 6 ≤ 12)) hv9 h) (kC_1 cy (Nat.lt_of_lt_of_le (xIn_lt hb6) (by decide : 6 ≤ 12))) rfl rfl t3_137 t3_138 t3_139 t1_4 t3_140 ⟨by decide, by decide, by decide +kernel⟩ rfl (by decide) (by decide) rfl (Nat.le_of_ble_eq_true rfl) dX6_compact_44) (fun r11 S10 h => ?_)
    exact x_iret X E dX6_compact_47 ⟨_, rfl, h⟩
  · refine x_iload_n X 0 dX6_compact_11 rfl ?_
    exact x_iret X E dX6_compact_12 ⟨_, rfl, h⟩
set_option maxHeartbeats 2000000 in
set_option maxRecDepth 20000 in
theorem m_X6_compact {l : Launch} {D : va_G} {cy : Nat → ClassId} {ad : Nat → Nat → Nat} (hi : xInj (shC cy) ad) {a1 : Int32} {a2 : Int32} {S : xS} {Q : Int32 → xS → Prop} (h : wp_X6_compact a1 a2 S Q) : xMet l D (xTys cy) (shC cy) ad yX6_compact cX6_compact 4 (some .int) (xRm 7 170) [.ref (ad 6 0), .int a1, .int a2] S (xQi Q) := xMet_env hi (by decide +kernel) rfl (Nat.le_of_ble_eq_true rfl) (fun g hl V => w_X6_compact V h)
set_option maxHeartbeats 2000000 in
set_option maxRecDepth 20000 in
theorem w_X6_pinnedAxes_30 {g : xG} {D : va_G} {cy : Nat → ClassId} {ad : Nat → Nat → Nat} {K4 : xS → Int32 → Int32 → Prop} {Q : Int32 → xS → Prop} (V : xEnv g D (xTys cy) (shC cy) ad RX6 cX6_pinnedAxes (some .int) 0 0 3 (xQi Q)) (hK4 : ∀ (S : xS) (v1 : Int32) (v2 : Int32), K4 S v1 v2 → Wx g (xW D (shC cy) ad S) 4 [(0, .ref (ad 6 0)), (1, .int v1), (2, .int v2)] []) (S : xS) (v1 : Int32) (v2 : Int32) (h : wp_X6_pinnedAxes_30 K4 Q S v1 v2) : Wx g (xW D (shC cy) ad S) 30 [(0, .ref (ad 6 0)), (1, .int v1), (2, .int v2)] [] := by
  obtain ⟨X, K, hi, hA, hR, E, hN⟩ := V
  have V := xEnv_mk X K hi hA hR E hN
  unfold wp_X6_pinnedAxes_30 at h
  refine x_iinc X 2 [(2, .int (v2 + (1 : Int32))), (0, .ref (ad 6 0)), (1, .int v1)] dX6_pinnedAxes_30 rfl rfl (by rw [hN]; decide) rfl ?_
  refine x_goto X 4 dX6_pinnedAxes_33 (by decide) ?_
  refine x_sub [1, 2, 0] rfl ?_
  exact hK4 S v1 (v2 + (1 : Int32)) h
set_option maxHeartbeats 2000000 in
set_option maxRecDepth 20000 in
theorem w_X6_pinnedAxes_4_b {g : xG} {D : va_G} {cy : Nat → ClassId} {ad : Nat → Nat → Nat} {K4 : xS → Int32 → Int32 → Prop} {Q : Int32 → xS → Prop} (V : xEnv g D (xTys cy) (shC cy) ad RX6 cX6_pinnedAxes (some .int) 0 0 3 (xQi Q)) (hK4 : ∀ (S : xS) (v1 : Int32) (v2 : Int32), K4 S v1 v2 → Wx g (xW D (shC cy) ad S) 4 [(0, .ref (ad 6 0)), (1, .int v1), (2, .int v2)] []) (S : xS) (v1 : Int32) (v2 : Int32) (h : wp_X6_pinnedAxes_4_b K4 Q S v1 v2) : Wx g (xW D (shC cy) ad S) 4 [(0, .ref (ad 6 0)), (1, .int v1), (2, .int v2)] [] := by
  obtain ⟨X, K, hi, hA, hR, E, hN⟩ := V
  have V := xEnv_mk X K hi hA hR E hN
  unfold wp_X6_pinnedAxes_4_b at h
  refine x_iload_n X 2 dX6_pinnedAxes_4 rfl ?_
  refine x_aload_n X 0 dX6_pinnedAxes_5 rfl ?_
  refine xg_X6_71 X K (Nat.zero_lt_one) dX6_pinnedAxes_6 ?_
  refine x_icmp_ge X 36 dX6_pinnedAxes_9 (by decide) h (fun h => ?_) (fun h => ?_)
  · refine x_iload_n X 1 dX6_pinnedAxes_36 rfl ?_
    exact x_iret X E dX6_pinnedAxes_37 ⟨_, rfl, h⟩
  · refine x_aload_n X 0 dX6_pinnedAxes_12 rfl ?_
    refine xg_X6_13 X K (Nat.zero_lt_one) dX6_pinnedAxes_13 ?_
    refine x_iload_n X 2 dX6_pinnedAxes_16 rfl ?_
    obtain ⟨hb1, h⟩ := h
    refine xa_C29 X K (show 0 < 1 by decide) hb1 dX6_pinnedAxes_17 ?_
    refine xg_X6_103 X K (xIn_lt hb1) dX6_pinnedAxes_18 ?_
    refine x_if_eq X 30 dX6_pinnedAxes_21 (by decide) h (fun h => ?_) (fun h => ?_)
    · refine x_sub [0, 1, 2] rfl ?_
      exact w_X6_pinnedAxes_30 V hK4 S v1 v2 h
    · refine x_iload_n X 1 dX6_pinnedAxes_24 rfl ?_
      refine x_iconst X (v := 1) dX6_pinnedAxes_25 (by decide) ?_
      refine x_iload_n X 2 dX6_pinnedAxes_26 rfl ?_
      refine x_ishl X dX6_pinnedAxes_27 ?_
      refine x_ior X dX6_pinnedAxes_28 ?_
      refine x_istore_n X [(1, .int (v1 ||| ((1 : Int32) <<< (v2 &&& 31)))), (0, .ref (ad 6 0)), (2, .int v2)] dX6_pinnedAxes_29 (by rw [hN]; decide) rfl ?_
      refine x_sub [1, 0, 2] rfl ?_
      exact w_X6_pinnedAxes_30 V hK4 S (v1 ||| ((1 : Int32) <<< (v2 &&& 31))) v2 h
set_option maxHeartbeats 2000000 in
set_option maxRecDepth 20000 in
theorem w_X6_pinnedAxes_4 {g : xG} {D : va_G} {cy : Nat → ClassId} {ad : Nat → Nat → Nat} {Q : Int32 → xS → Prop} (V : xEnv g D (xTys cy) (shC cy) ad RX6 cX6_pinnedAxes (some .int) 0 0 3 (xQi Q)) (n : Nat) : ∀ (S : xS) (v1 : Int32) (v2 : Int32), wp_X6_pinnedAxes_4 Q n S v1 v2 → Wx g (xW D (shC cy) ad S) 4 [(0, .ref (ad 6 0)), (1, .int v1), (2, .int v2)] [] := by
  induction n with
  | zero => intro S v1 v2 h; exact h.elim
  | succ n ih => intro S v1 v2 h; exact w_X6_pinnedAxes_4_b V (fun S v1 v2 h => ih S v1 v2 h) S v1 v2 h
set_option maxHeartbeats 2000000 in
set_option maxRecDepth 20000 in
theorem w_X6_pinnedAxes {g : xG} {D : va_G} {cy : Nat → ClassId} {ad : Nat → Nat → Nat} {S : xS} {Q : Int32 → xS → Prop} (V : xEnv g D (xTys cy) (shC cy) ad RX6 cX6_pinnedAxes (some .int) 0 0 3 (xQi Q)) (h : wp_X6_pinnedAxes S Q) : Wx g (xW D (shC cy) ad S) 0 [(0, .ref (ad 6 0))] [] := by
  obtain ⟨X, K, hi, hA, hR, E, hN⟩ := V
  have V := xEnv_mk X K hi hA hR E hN
  unfold wp_X6_pinnedAxes at h
  refine x_iconst X (v := 0) dX6_pinnedAxes_0 (by decide) ?_
  refine x_istore_n X [(1, .int (0 : Int32)), (0, .ref (ad 6 0))] dX6_pinnedAxes_1 (by rw [hN]; decide) rfl ?_
  refine x_iconst X (v := 0) dX6_pinnedAxes_2 (by decide) ?_
  refine x_istore_n X [(2, .int (0 : Int32)), (1, .int (0 : Int32)), (0, .ref (ad 6 0))] dX6_pinnedAxes_3 (by rw [hN]; decide) rfl ?_
  refine x_sub [2, 1, 0] rfl ?_
  obtain ⟨n1, h⟩ := h
  exact w_X6_pinnedAxes_4 V n1 S (0 : Int32) (0 : Int32) h
set_option maxHeartbeats 2000000 in
set_option maxRecDepth 20000 in
theorem m_X6_pinnedAxes {l : Launch} {D : va_G} {cy : Nat → ClassId} {ad : Nat → Nat → Nat} (hi : xInj (shC cy) ad) {S : xS} {Q : Int32 → xS → Prop} (h : wp_X6_pinnedAxes S Q) : xMet l D (xTys cy) (shC cy) ad yX6_pinnedAxes cX6_pinnedAxes 3 (some .int) (xRm 0 0) [.ref (ad 6 0)] S (xQi Q) := xMet_env hi (by decide +kernel) rfl (Nat.le_of_ble_eq_true rfl) (fun g hl V => w_X6_pinnedAxes V h)
set_option maxHeartbeats 2000000 in
set_option maxRecDepth 20000 in
theorem w_X6_fold {g : xG} {D : va_G} {cy : Nat → ClassId} {ad : Nat → Nat → Nat} {a1 : Int32} {S : xS} {Q : Int32 → xS → Prop} (V : xEnv g D (xTys cy) (shC cy) ad RX6 cX6_fold (some .int) 7 170 2 (xQi Q)) (h : wp_X6_fold a1 S Q) : Wx g (xW D (shC cy) ad S) 0 [(0, .ref (ad 6 0)), (1, .int a1)] [] := by
  obtain ⟨X, K, hi, hA, hR, E, hN⟩ := V
  have V := xEnv_mk X K hi hA hR E hN
  unfold wp_X6_fold at h
  refine x_aload_n X 0 dX6_fold_0 rfl ?_
  refine x_iload_n X 1 dX6_fold_1 rfl ?_
  refine x_calli hA (x_runV (n := 1) (sh := shC cy) X K hR (fun _ q => q) (m_X6_hasGlyph hi  h) (kC_6 cy Nat.zero_lt_one) rfl rfl t2_97 t2_99 tp_4 t1_1 t2_100 ⟨by decide, by decide, by decide +kernel⟩ rfl (by decide) (by decide) rfl (Nat.le_of_ble_eq_true rfl) dX6_fold_2) (fun r2 S1 h => ?_)
  refine x_if_ne X 11 dX6_fold_5 (by decide) h (fun h => ?_) (fun h => ?_)
  · refine x_ldc X (v := -1000002) t2_101 dX6_fold_8 ?_
    exact x_iret X E dX6_fold_10 ⟨_, rfl, h⟩
  · refine x_aload_n X 0 dX6_fold_11 rfl ?_
    refine xg_X6_46 X K Nat.zero_lt_one dX6_fold_12 ?_
    refine x_iload_n X 1 dX6_fold_15 rfl ?_
    refine x_aload_n X 0 dX6_fold_16 rfl ?_
    refine xg_X6_29 X K Nat.zero_lt_one dX6_fold_17 ?_
    refine x_iload_n X 1 dX6_fold_20 rfl ?_
    obtain ⟨hb3, h⟩ := h
    refine xa_C31 X K (show 0 < 1 by decide) hb3 dX6_fold_21 ?_
    refine x_callv hA (x_runV (n := 2) (sh := shC cy) X K hR (fun _ q => q) (m_X2_remember hi (Nat.lt_of_lt_of_le (xIn_lt hb3) (by decide : 6 ≤ 12)) h) (kC_2 cy (show 0 < 1 by decide)) rfl rfl t3_86 t3_87 t3_88 t1_3 t3_89 ⟨by decide, by decide, by decide +kernel⟩ rfl (by decide) (by decide) rfl (Nat.le_of_ble_eq_true rfl) dX6_fold_22) (fun S4 h => ?_)
    refine x_aload_n X 0 dX6_fold_25 rfl ?_
    refine xg_X6_29 X K Nat.zero_lt_one dX6_fold_26 ?_
    refine x_iload_n X 1 dX6_fold_29 rfl ?_
    obtain ⟨hb6, h⟩ := h
    refine xa_C31 X K (show 0 < 1 by decide) hb6 dX6_fold_30 ?_
    refine x_aload_n X 0 dX6_fold_31 rfl ?_
    refine x_calli hA (x_runV (n := 0) (sh := shC cy) X K hR (fun _ q => q) (m_X6_pinnedAxes hi  h) (kC_6 cy Nat.zero_lt_one) rfl rfl t3_156 t3_158 tp_20 t1_1 t3_159 ⟨by decide, by decide, by decide +kernel⟩ rfl (by decide) (by decide) rfl (Nat.le_of_ble_eq_true rfl) dX6_fold_32) (fun r8 S7 h => ?_)
    refine x_aload_n X 0 dX6_fold_35 rfl ?_
    refine xg_X6_17 X K Nat.zero_lt_one dX6_fold_36 ?_
    refine x_calli hA (x_runV (n := 2) (sh := shC cy) X K hR (fun _ q => q) (m_X1_foldTuples hi (Nat.lt_of_lt_of_le (xIn_lt hb6) (by decide : 6 ≤ 12)) (show 0 < 3 by decide) h) (kC_1 cy (Nat.lt_of_lt_of_le (xIn_lt hb6) (by decide : 6 ≤ 12))) rfl rfl t3_160 t3_161 t3_162 t1_4 t3_163 ⟨by decide, by decide, by decide +kernel⟩ rfl (by decide) (by decide) rfl (Nat.le_of_ble_eq_true rfl) dX6_fold_39) (fun r10 S9 h => ?_)
    exact x_iret X E dX6_fold_42 ⟨_, rfl, h⟩
set_option maxHeartbeats 2000000 in
set_option maxRecDepth 20000 in
theorem m_X6_fold {l : Launch} {D : va_G} {cy : Nat → ClassId} {ad : Nat → Nat → Nat} (hi : xInj (shC cy) ad) {a1 : Int32} {S : xS} {Q : Int32 → xS → Prop} (h : wp_X6_fold a1 S Q) : xMet l D (xTys cy) (shC cy) ad yX6_fold cX6_fold 2 (some .int) (xRm 7 170) [.ref (ad 6 0), .int a1] S (xQi Q) := xMet_env hi (by decide +kernel) rfl (Nat.le_of_ble_eq_true rfl) (fun g hl V => w_X6_fold V h)
set_option maxHeartbeats 2000000 in
set_option maxRecDepth 20000 in
theorem w_X6_prune {g : xG} {D : va_G} {cy : Nat → ClassId} {ad : Nat → Nat → Nat} {a1 : Int32} {S : xS} {Q : Int32 → xS → Prop} (V : xEnv g D (xTys cy) (shC cy) ad RX6 cX6_prune (some .int) 6 147 2 (xQi Q)) (h : wp_X6_prune a1 S Q) : Wx g (xW D (shC cy) ad S) 0 [(0, .ref (ad 6 0)), (1, .int a1)] [] := by
  obtain ⟨X, K, hi, hA, hR, E, hN⟩ := V
  have V := xEnv_mk X K hi hA hR E hN
  unfold wp_X6_prune at h
  refine x_aload_n X 0 dX6_prune_0 rfl ?_
  refine x_iload_n X 1 dX6_prune_1 rfl ?_
  refine x_calli hA (x_runV (n := 1) (sh := shC cy) X K hR (fun _ q => q) (m_X6_hasGlyph hi  h) (kC_6 cy Nat.zero_lt_one) rfl rfl t2_97 t2_99 tp_4 t1_1 t2_100 ⟨by decide, by decide, by decide +kernel⟩ rfl (by decide) (by decide) rfl (Nat.le_of_ble_eq_true rfl) dX6_prune_2) (fun r2 S1 h => ?_)
  refine x_if_ne X 11 dX6_prune_5 (by decide) h (fun h => ?_) (fun h => ?_)
  · refine x_ldc X (v := -1000002) t2_101 dX6_prune_8 ?_
    exact x_iret X E dX6_prune_10 ⟨_, rfl, h⟩
  · refine x_aload_n X 0 dX6_prune_11 rfl ?_
    refine xg_X6_46 X K Nat.zero_lt_one dX6_prune_12 ?_
    refine x_iload_n X 1 dX6_prune_15 rfl ?_
    refine x_aload_n X 0 dX6_prune_16 rfl ?_
    refine xg_X6_29 X K Nat.zero_lt_one dX6_prune_17 ?_
    refine x_iload_n X 1 dX6_prune_20 rfl ?_
    obtain ⟨hb3, h⟩ := h
    refine xa_C31 X K (show 0 < 1 by decide) hb3 dX6_prune_21 ?_
    refine x_callv hA (x_runV (n := 2) (sh := shC cy) X K hR (fun _ q => q) (m_X2_remember hi (Nat.lt_of_lt_of_le (xIn_lt hb3) (by decide : 6 ≤ 12)) h) (kC_2 cy (show 0 < 1 by decide)) rfl rfl t3_86 t3_87 t3_88 t1_3 t3_89 ⟨by decide, by decide, by decide +kernel⟩ rfl (by decide) (by decide) rfl (Nat.le_of_ble_eq_true rfl) dX6_prune_22) (fun S4 h => ?_)
    refine x_aload_n X 0 dX6_prune_25 rfl ?_
    refine xg_X6_29 X K Nat.zero_lt_one dX6_prune_26 ?_
    refine x_iload_n X 1 dX6_prune_29 rfl ?_
    obtain ⟨hb6, h⟩ := h
    refine xa_C31 X K (show 0 < 1 by decide) hb6 dX6_prune_30 ?_
    refine x_calli hA (x_runV (n := 0) (sh := shC cy) X K hR (fun _ q => q) (m_X1_pruneTuples hi (Nat.lt_of_lt_of_le (xIn_lt hb6) (by decide : 6 ≤ 12)) h) (kC_1 cy (Nat.lt_of_lt_of_le (xIn_lt hb6) (by decide : 6 ≤ 12))) rfl rfl t3_173 t3_174 t3_175 t1_4 t3_176 ⟨by decide, by decide, by decide +kernel⟩ rfl (by decide) (by decide) rfl (Nat.le_of_ble_eq_true rfl) dX6_prune_31) (fun r8 S7 h => ?_)
    exact x_iret X E dX6_prune_34 ⟨_, rfl, h⟩
set_option maxHeartbeats 2000000 in
set_option maxRecDepth 20000 in
theorem m_X6_prune {l : Launch} {D : va_G} {cy : Nat → ClassId} {ad : Nat → Nat → Nat} (hi : xInj (shC cy) ad) {a1 : Int32} {S : xS} {Q : Int32 → xS → Prop} (h : wp_X6_prune a1 S Q) : xMet l D (xTys cy) (shC cy) ad yX6_prune cX6_prune 2 (some .int) (xRm 6 147) [.ref (ad 6 0), .int a1] S (xQi Q) := xMet_env hi (by decide +kernel) rfl (Nat.le_of_ble_eq_true rfl) (fun g hl V => w_X6_prune V h)
set_option maxHeartbeats 2000000 in
set_option maxRecDepth 20000 in
theorem w_X6_undo_75 {g : xG} {D : va_G} {cy : Nat → ClassId} {ad : Nat → Nat → Nat} {Q : Int32 → xS → Prop} (V : xEnv g D (xTys cy) (shC cy) ad RX6 cX6_undo (some .int) 3 103 2 (xQi Q)) (S : xS) (v1 : Int32) (h : wp_X6_undo_75 Q S v1) : Wx g (xW D (shC cy) ad S) 75 [(1, .int v1)] [] := by
  obtain ⟨X, K, hi, hA, hR, E, hN⟩ := V
  have V := xEnv_mk X K hi hA hR E hN
  unfold wp_X6_undo_75 at h
  refine x_iload_n X 0 dX6_undo_75 rfl ?_
  exact x_iret X E dX6_undo_76 ⟨_, rfl, h⟩
set_option maxHeartbeats 2000000 in
set_option maxRecDepth 20000 in
theorem w_X6_undo {g : xG} {D : va_G} {cy : Nat → ClassId} {ad : Nat → Nat → Nat} {S : xS} {Q : Int32 → xS → Prop} (V : xEnv g D (xTys cy) (shC cy) ad RX6 cX6_undo (some .int) 3 103 2 (xQi Q)) (h : wp_X6_undo S Q) : Wx g (xW D (shC cy) ad S) 0 [(0, .ref (ad 6 0))] [] := by
  obtain ⟨X, K, hi, hA, hR, E, hN⟩ := V
  have V := xEnv_mk X K hi hA hR E hN
  unfold wp_X6_undo at h
  refine x_aload_n X 0 dX6_undo_0 rfl ?_
  refine xg_X6_46 X K Nat.zero_lt_one dX6_undo_1 ?_
  refine xg_X6_288 X K (show 0 < 1 by decide) dX6_undo_4 ?_
  refine x_if_gt X 14 dX6_undo_7 (by decide) h (fun h => ?_) (fun h => ?_)
  · refine x_aload_n X 0 dX6_undo_14 rfl ?_
    refine xg_X6_46 X K Nat.zero_lt_one dX6_undo_15 ?_
    refine x_dup X dX6_undo_18 rfl ?_
    refine xg_X6_288 X K (show 0 < 1 by decide) dX6_undo_19 ?_
    refine x_iconst X (v := 1) dX6_undo_22 (by decide) ?_
    refine x_isub X dX6_undo_23 ?_
    refine xp_X6_288 X K hi hA (show 0 < 1 by decide) dX6_undo_24 ?_
    refine x_aload_n X 0 dX6_undo_27 rfl ?_
    refine xg_X6_46 X K Nat.zero_lt_one dX6_undo_28 ?_
    refine xg_X6_290 X K (show 0 < 1 by decide) dX6_undo_31 ?_
    refine x_aload_n X 0 dX6_undo_34 rfl ?_
    refine xg_X6_46 X K Nat.zero_lt_one dX6_undo_35 ?_
    refine xg_X6_288 X K (show 0 < 1 by decide) dX6_undo_38 ?_
    obtain ⟨hb1, h⟩ := h
    refine xa_C17 X K (show 0 < 1 by decide) hb1 dX6_undo_41 ?_
    refine x_istore_n X [(1, .int ((xI S 2 0 0 ((S.1 2 0 0) - (1 : Int32))).1 17 0 ((xI S 2 0 0 ((S.1 2 0 0) - (1 : Int32))).1 2 0 0).toNatClampNeg)), (0, .ref (ad 6 0))] dX6_undo_42 (by rw [hN]; decide) rfl ?_
    refine x_aload_n X 1 dX6_undo_43 rfl ?_
    refine x_iload_n X 0 dX6_undo_44 rfl ?_
    refine x_calli hA (x_runV (n := 1) (sh := shC cy) X K hR (fun _ q => q) (m_X6_hasGlyph hi  h) (kC_6 cy Nat.zero_lt_one) rfl rfl t2_97 t2_99 tp_4 t1_1 t2_100 ⟨by decide, by decide, by decide +kernel⟩ rfl (by decide) (by decide) rfl (Nat.le_of_ble_eq_true rfl) dX6_undo_45) (fun r3 S2 h => ?_)
    refine x_if_eq X 75 dX6_undo_48 (by decide) h (fun h => ?_) (fun h => ?_)
    · refine x_sub [0] rfl ?_
      exact w_X6_undo_75 V S2 ((xI S 2 0 0 ((S.1 2 0 0) - (1 : Int32))).1 17 0 ((xI S 2 0 0 ((S.1 2 0 0) - (1 : Int32))).1 2 0 0).toNatClampNeg) h
    · refine x_aload_n X 1 dX6_undo_51 rfl ?_
      refine xg_X6_29 X K Nat.zero_lt_one dX6_undo_52 ?_
      refine x_iload_n X 0 dX6_undo_55 rfl ?_
      obtain ⟨hb4, h⟩ := h
      refine xa_C31 X K (show 0 < 1 by decide) hb4 dX6_undo_56 ?_
      refine x_aload_n X 1 dX6_undo_57 rfl ?_
      refine xg_X6_46 X K Nat.zero_lt_one dX6_undo_58 ?_
      refine xg_X6_293 X K (show 0 < 1 by decide) dX6_undo_61 ?_
      refine x_aload_n X 1 dX6_undo_64 rfl ?_
      refine xg_X6_46 X K Nat.zero_lt_one dX6_undo_65 ?_
      refine xg_X6_288 X K (show 0 < 1 by decide) dX6_undo_68 ?_
      obtain ⟨⟨hb5, hv6⟩, h⟩ := h
      refine xa_C18 X K (show 0 < 1 by decide) hb5 dX6_undo_71 ?_
      refine x_callv hA (x_runV (n := 1) (sh := shC cy) X K hR (fun _ q => q) (m_X1_copyFrom hi (Nat.lt_of_lt_of_le (xIn_lt hb4) (by decide : 6 ≤ 12)) hv6 h) (kC_1 cy (Nat.lt_of_lt_of_le (xIn_lt hb4) (by decide : 6 ≤ 12))) rfl rfl t3_186 t3_95 t3_96 t1_4 t3_97 ⟨by decide, by decide, by decide +kernel⟩ rfl (by decide) (by decide) rfl (Nat.le_of_ble_eq_true rfl) dX6_undo_72) (fun S7 h => ?_)
      refine x_sub [0] rfl ?_
      exact w_X6_undo_75 V S7 ((xI S 2 0 0 ((S.1 2 0 0) - (1 : Int32))).1 17 0 ((xI S 2 0 0 ((S.1 2 0 0) - (1 : Int32))).1 2 0 0).toNatClampNeg) h
  · refine x_ldc_w X (v := -1000008) t3_185 dX6_undo_10 ?_
    exact x_iret X E dX6_undo_13 ⟨_, rfl, h⟩
set_option maxHeartbeats 2000000 in
set_option maxRecDepth 20000 in
theorem m_X6_undo {l : Launch} {D : va_G} {cy : Nat → ClassId} {ad : Nat → Nat → Nat} (hi : xInj (shC cy) ad) {S : xS} {Q : Int32 → xS → Prop} (h : wp_X6_undo S Q) : xMet l D (xTys cy) (shC cy) ad yX6_undo cX6_undo 2 (some .int) (xRm 3 103) [.ref (ad 6 0)] S (xQi Q) := xMet_env hi (by decide +kernel) rfl (Nat.le_of_ble_eq_true rfl) (fun g hl V => w_X6_undo V h)
set_option maxHeartbeats 2000000 in
set_option maxRecDepth 20000 in
theorem w_X6_addInstance {g : xG} {D : va_G} {cy : Nat → ClassId} {ad : Nat → Nat → Nat} {S : xS} {Q : Int32 → xS → Prop} (V : xEnv g D (xTys cy) (shC cy) ad RX6 cX6_addInstance (some .int) 1 60 1 (xQi Q)) (h : wp_X6_addInstance S Q) : Wx g (xW D (shC cy) ad S) 0 [(0, .ref (ad 6 0))] [] := by
  obtain ⟨X, K, hi, hA, hR, E, hN⟩ := V
  have V := xEnv_mk X K hi hA hR E hN
  unfold wp_X6_addInstance at h
  refine x_aload_n X 0 dX6_addInstance_0 rfl ?_
  refine xg_X6_300 X K Nat.zero_lt_one dX6_addInstance_1 ?_
  refine x_bipush X (v := 6) dX6_addInstance_4 (by decide) ?_
  refine x_icmp_lt X 12 dX6_addInstance_6 (by decide) h (fun h => ?_) (fun h => ?_)
  · refine x_aload_n X 0 dX6_addInstance_12 rfl ?_
    refine xg_X6_17 X K Nat.zero_lt_one dX6_addInstance_13 ?_
    refine x_iconst X (v := 0) dX6_addInstance_16 (by decide) ?_
    refine x_aload_n X 0 dX6_addInstance_17 rfl ?_
    refine xg_X6_52 X K Nat.zero_lt_one dX6_addInstance_18 ?_
    refine x_aload_n X 0 dX6_addInstance_21 rfl ?_
    refine xg_X6_300 X K Nat.zero_lt_one dX6_addInstance_22 ?_
    obtain ⟨hb1, h⟩ := h
    refine xa_C32 X K (show 0 < 1 by decide) hb1 dX6_addInstance_25 ?_
    refine x_iconst X (v := 0) dX6_addInstance_26 (by decide) ?_
    refine x_iconst X (v := 4) dX6_addInstance_27 (by decide) ?_
    obtain ⟨hc2, h⟩ := h
    refine x_copyi (sh := shC cy) (t0 := 1) X K hi hA hR (kC_33 cy (xIn_lt hb1)) (kC_30 cy (show 0 < 3 by decide)) (fun _ => rfl) rfl rfl hc2.1 hc2.2.1 hc2.2.2.1 hc2.2.2.2.1 hc2.2.2.2.2 t3_79 t3_81 t3_80 t1_11 (by decide) (by decide) dX6_addInstance_28 ?_
    refine x_aload_n X 0 dX6_addInstance_31 rfl ?_
    refine x_dup X dX6_addInstance_32 rfl ?_
    refine xg_X6_300 X K Nat.zero_lt_one dX6_addInstance_33 ?_
    refine x_iconst X (v := 1) dX6_addInstance_36 (by decide) ?_
    refine x_iadd X dX6_addInstance_37 ?_
    refine xp_X6_300 X K hi hA Nat.zero_lt_one dX6_addInstance_38 ?_
    refine x_aload_n X 0 dX6_addInstance_41 rfl ?_
    refine xg_X6_300 X K Nat.zero_lt_one dX6_addInstance_42 ?_
    refine x_iconst X (v := 1) dX6_addInstance_45 (by decide) ?_
    refine x_isub X dX6_addInstance_46 ?_
    exact x_iret X E dX6_addInstance_47 ⟨_, rfl, h⟩
  · refine x_ldc X (v := -1000006) t2_8 dX6_addInstance_9 ?_
    exact x_iret X E dX6_addInstance_11 ⟨_, rfl, h⟩
set_option maxHeartbeats 2000000 in
set_option maxRecDepth 20000 in
theorem m_X6_addInstance {l : Launch} {D : va_G} {cy : Nat → ClassId} {ad : Nat → Nat → Nat} (hi : xInj (shC cy) ad) {S : xS} {Q : Int32 → xS → Prop} (h : wp_X6_addInstance S Q) : xMet l D (xTys cy) (shC cy) ad yX6_addInstance cX6_addInstance 1 (some .int) (xRm 1 60) [.ref (ad 6 0)] S (xQi Q) := xMet_env hi (by decide +kernel) rfl (Nat.le_of_ble_eq_true rfl) (fun g hl V => w_X6_addInstance V h)
set_option maxHeartbeats 2000000 in
set_option maxRecDepth 20000 in
theorem w_X6_applyInstance_73 {g : xG} {D : va_G} {cy : Nat → ClassId} {ad : Nat → Nat → Nat} {a1 : Int32} {K21 : xS → Int32 → Int32 → Prop} {Q : Int32 → xS → Prop} (V : xEnv g D (xTys cy) (shC cy) ad RX6 cX6_applyInstance (some .int) 1 22 5 (xQi Q)) (hK21 : ∀ (S : xS) (v2 : Int32) (v3 : Int32), K21 S v2 v3 → Wx g (xW D (shC cy) ad S) 21 [(0, .ref (ad 6 0)), (1, .int a1), (2, .int v2), (3, .int v3)] []) (S : xS) (v2 : Int32) (v3 : Int32) (h : wp_X6_applyInstance_73 a1 K21 Q S v2 v3) : Wx g (xW D (shC cy) ad S) 73 [(0, .ref (ad 6 0)), (1, .int a1), (2, .int v2), (3, .int v3)] [] := by
  obtain ⟨X, K, hi, hA, hR, E, hN⟩ := V
  have V := xEnv_mk X K hi hA hR E hN
  unfold wp_X6_applyInstance_73 at h
  refine x_iinc X 3 [(3, .int (v3 + (1 : Int32))), (0, .ref (ad 6 0)), (1, .int a1), (2, .int v2)] dX6_applyInstance_73 rfl rfl (by rw [hN]; decide) rfl ?_
  refine x_goto X 21 dX6_applyInstance_76 (by decide) ?_
  refine x_sub [1, 2, 3, 0] rfl ?_
  exact hK21 S v2 (v3 + (1 : Int32)) h
set_option maxHeartbeats 2000000 in
set_option maxRecDepth 20000 in
theorem w_X6_applyInstance_21_b {g : xG} {D : va_G} {cy : Nat → ClassId} {ad : Nat → Nat → Nat} {a1 : Int32} {K21 : xS → Int32 → Int32 → Prop} {Q : Int32 → xS → Prop} (V : xEnv g D (xTys cy) (shC cy) ad RX6 cX6_applyInstance (some .int) 1 22 5 (xQi Q)) (hK21 : ∀ (S : xS) (v2 : Int32) (v3 : Int32), K21 S v2 v3 → Wx g (xW D (shC cy) ad S) 21 [(0, .ref (ad 6 0)), (1, .int a1), (2, .int v2), (3, .int v3)] []) (S : xS) (v2 : Int32) (v3 : Int32) (h : wp_X6_applyInstance_21_b a1 K21 Q S v2 v3) : Wx g (xW D (shC cy) ad S) 21 [(0, .ref (ad 6 0)), (1, .int a1), (2, .int v2), (3, .int v3)] [] := by
  obtain ⟨X, K, hi, hA, hR, E, hN⟩ := V
  have V := xEnv_mk X K hi hA hR E hN
  unfold wp_X6_applyInstance_21_b at h
  refine x_iload_n X 3 dX6_applyInstance_21 rfl ?_
  refine x_aload_n X 0 dX6_applyInstance_22 rfl ?_
  refine xg_X6_71 X K (Nat.zero_lt_one) dX6_applyInstance_23 ?_
  refine x_icmp_ge X 79 dX6_applyInstance_26 (by decide) h (fun h => ?_) (fun h => ?_)
  · refine x_iload_n X 2 dX6_applyInstance_79 rfl ?_
    exact x_iret X E dX6_applyInstance_80 ⟨_, rfl, h⟩
  · refine x_aload_n X 0 dX6_applyInstance_29 rfl ?_
    refine xg_X6_52 X K (Nat.zero_lt_one) dX6_applyInstance_30 ?_
    refine x_iload_n X 1 dX6_applyInstance_33 rfl ?_
    obtain ⟨hb1, h⟩ := h
    refine xa_C32 X K (show 0 < 1 by decide) hb1 dX6_applyInstance_34 ?_
    refine x_iload_n X 3 dX6_applyInstance_35 rfl ?_
    obtain ⟨hb2, h⟩ := h
    refine xa_C33 X K (xIn_lt hb1) hb2 dX6_applyInstance_36 ?_
    refine x_istore X [(4, .int (S.1 33 a1.toNatClampNeg v3.toNatClampNeg)), (0, .ref (ad 6 0)), (1, .int a1), (2, .int v2), (3, .int v3)] dX6_applyInstance_37 (by rw [hN]; decide) rfl ?_
    refine x_aload_n X 1 dX6_applyInstance_39 rfl ?_
    refine xg_X6_13 X K (Nat.zero_lt_one) dX6_applyInstance_40 ?_
    refine x_iload_n X 4 dX6_applyInstance_43 rfl ?_
    obtain ⟨hb3, h⟩ := h
    refine xa_C29 X K (show 0 < 1 by decide) hb3 dX6_applyInstance_44 ?_
    refine xg_X6_103 X K (xIn_lt hb3) dX6_applyInstance_45 ?_
    refine x_if_ne X 73 dX6_applyInstance_48 (by decide) h (fun h => ?_) (fun h => ?_)
    · refine x_aload_n X 1 dX6_applyInstance_51 rfl ?_
      refine xg_X6_17 X K (Nat.zero_lt_one) dX6_applyInstance_52 ?_
      refine x_iload_n X 4 dX6_applyInstance_55 rfl ?_
      obtain ⟨hb4, h⟩ := h
      refine xa_C30 X K (show 0 < 3 by decide) hb4 dX6_applyInstance_56 ?_
      refine x_iload X 0 dX6_applyInstance_57 rfl ?_
      refine x_icmp_eq X 73 dX6_applyInstance_59 (by decide) h (fun h => ?_) (fun h => ?_)
      · refine x_sub [1, 2, 3, 4] rfl ?_
        exact w_X6_applyInstance_73 V hK21 S v2 v3 h
      · refine x_aload_n X 1 dX6_applyInstance_62 rfl ?_
        refine xg_X6_17 X K (Nat.zero_lt_one) dX6_applyInstance_63 ?_
        refine x_iload_n X 4 dX6_applyInstance_66 rfl ?_
        refine x_iload X 0 dX6_applyInstance_67 rfl ?_
        obtain ⟨hb5, h⟩ := h
        refine xs_C30 X K hi hA (show 0 < 3 by decide) hb5 dX6_applyInstance_69 ?_
        refine x_iinc X 3 [(2, .int (v2 + (1 : Int32))), (4, .int (S.1 33 a1.toNatClampNeg v3.toNatClampNeg)), (0, .ref (ad 6 0)), (1, .int a1), (3, .int v3)] dX6_applyInstance_70 rfl rfl (by rw [hN]; decide) rfl ?_
        refine x_sub [2, 3, 0, 4] rfl ?_
        exact w_X6_applyInstance_73 V hK21 (xI S 30 0 v3.toNatClampNeg (S.1 33 a1.toNatClampNeg v3.toNatClampNeg)) (v2 + (1 : Int32)) v3 h
    · refine x_sub [1, 2, 3, 4] rfl ?_
      exact w_X6_applyInstance_73 V hK21 S v2 v3 h
set_option maxHeartbeats 2000000 in
set_option maxRecDepth 20000 in
theorem w_X6_applyInstance_21 {g : xG} {D : va_G} {cy : Nat → ClassId} {ad : Nat → Nat → Nat} {a1 : Int32} {Q : Int32 → xS → Prop} (V : xEnv g D (xTys cy) (shC cy) ad RX6 cX6_applyInstance (some .int) 1 22 5 (xQi Q)) (n : Nat) : ∀ (S : xS) (v2 : Int32) (v3 : Int32), wp_X6_applyInstance_21 a1 Q n S v2 v3 → Wx g (xW D (shC cy) ad S) 21 [(0, .ref (ad 6 0)), (1, .int a1), (2, .int v2), (3, .int v3)] [] := by
  induction n with
  | zero => intro S v2 v3 h; exact h.elim
  | succ n ih => intro S v2 v3 h; exact w_X6_applyInstance_21_b V (fun S v2 v3 h => ih S v2 v3 h) S v2 v3 h
set_option maxHeartbeats 2000000 in
set_option maxRecDepth 20000 in
theorem w_X6_applyInstance {g : xG} {D : va_G} {cy : Nat → ClassId} {ad : Nat → Nat → Nat} {a1 : Int32} {S : xS} {Q : Int32 → xS → Prop} (V : xEnv g D (xTys cy) (shC cy) ad RX6 cX6_applyInstance (some .int) 1 22 5 (xQi Q)) (h : wp_X6_applyInstance a1 S Q) : Wx g (xW D (shC cy) ad S) 0 [(0, .ref (ad 6 0)), (1, .int a1)] [] := by
  obtain ⟨X, K, hi, hA, hR, E, hN⟩ := V
  have V := xEnv_mk X K hi hA hR E hN
  unfold wp_X6_applyInstance at h
  refine x_iload_n X 1 dX6_applyInstance_0 rfl ?_
  refine x_iconst X (v := 0) dX6_applyInstance_1 (by decide) ?_
  refine x_aload_n X 0 dX6_applyInstance_2 rfl ?_
  refine xg_X6_300 X K Nat.zero_lt_one dX6_applyInstance_3 ?_
  refine x_iconst X (v := 1) dX6_applyInstance_6 (by decide) ?_
  refine x_isub X dX6_applyInstance_7 ?_
  refine x_calli hA (x_runS (n := 3) X K hR (fun _ q => q) (m_X6_within hi  h) t2_4 t2_5 t1_1 t2_6 ⟨by decide, by decide, by decide +kernel⟩ rfl (by decide) (by decide) rfl (Nat.le_of_ble_eq_true rfl) dX6_applyInstance_8) (fun r2 S1 h => ?_)
  refine x_if_ne X 17 dX6_applyInstance_11 (by decide) h (fun h => ?_) (fun h => ?_)
  · refine x_ldc X (v := -1000005) t2_7 dX6_applyInstance_14 ?_
    exact x_iret X E dX6_applyInstance_16 ⟨_, rfl, h⟩
  · refine x_iconst X (v := 0) dX6_applyInstance_17 (by decide) ?_
    refine x_istore_n X [(2, .int (0 : Int32)), (0, .ref (ad 6 0)), (1, .int a1)] dX6_applyInstance_18 (by rw [hN]; decide) rfl ?_
    refine x_iconst X (v := 0) dX6_applyInstance_19 (by decide) ?_
    refine x_istore_n X [(3, .int (0 : Int32)), (2, .int (0 : Int32)), (0, .ref (ad 6 0)), (1, .int a1)] dX6_applyInstance_20 (by rw [hN]; decide) rfl ?_
    refine x_sub [2, 3, 1, 0] rfl ?_
    obtain ⟨n3, h⟩ := h
    exact w_X6_applyInstance_21 V n3 S1 (0 : Int32) (0 : Int32) h
set_option maxHeartbeats 2000000 in
set_option maxRecDepth 20000 in
theorem m_X6_applyInstance {l : Launch} {D : va_G} {cy : Nat → ClassId} {ad : Nat → Nat → Nat} (hi : xInj (shC cy) ad) {a1 : Int32} {S : xS} {Q : Int32 → xS → Prop} (h : wp_X6_applyInstance a1 S Q) : xMet l D (xTys cy) (shC cy) ad yX6_applyInstance cX6_applyInstance 5 (some .int) (xRm 1 22) [.ref (ad 6 0), .int a1] S (xQi Q) := xMet_env hi (by decide +kernel) rfl (Nat.le_of_ble_eq_true rfl) (fun g hl V => w_X6_applyInstance V h)
set_option maxHeartbeats 2000000 in
set_option maxRecDepth 20000 in
theorem w_J9_abs_0f7a4_10 {g : xG} {D : va_G} {cy : Nat → ClassId} {ad : Nat → Nat → Nat} {Q : Int32 → xS → Prop} (V : xEnv g D (xTys cy) (shC cy) ad RJ9 cJ9_abs_0f7a4 (some .int) 0 0 1 (xQi Q)) (S : xS) (s0 : Int32) (h : wp_J9_abs_0f7a4_10 Q S s0) : Wx g (xW D (shC cy) ad S) 10 [] [.int s0] := by
  obtain ⟨X, K, hi, hA, hR, E, hN⟩ := V
  have V := xEnv_mk X K hi hA hR E hN
  unfold wp_J9_abs_0f7a4_10 at h
  exact x_iret X E dJ9_abs_0f7a4_10 ⟨_, rfl, h⟩
set_option maxHeartbeats 2000000 in
set_option maxRecDepth 20000 in
theorem w_J9_abs_0f7a4 {g : xG} {D : va_G} {cy : Nat → ClassId} {ad : Nat → Nat → Nat} {a0 : Int32} {S : xS} {Q : Int32 → xS → Prop} (V : xEnv g D (xTys cy) (shC cy) ad RJ9 cJ9_abs_0f7a4 (some .int) 0 0 1 (xQi Q)) (h : wp_J9_abs_0f7a4 a0 S Q) : Wx g (xW D (shC cy) ad S) 0 [(0, .int a0)] [] := by
  obtain ⟨X, K, hi, hA, hR, E, hN⟩ := V
  have V := xEnv_mk X K hi hA hR E hN
  unfold wp_J9_abs_0f7a4 at h
  refine x_iload_n X 0 dJ9_abs_0f7a4_0 rfl ?_
  refine x_if_ge X 9 dJ9_abs_0f7a4_1 (by decide) h (fun h => ?_) (fun h => ?_)
  · refine x_iload_n X 0 dJ9_abs_0f7a4_9 rfl ?_
    refine x_sub [] rfl ?_
    exact w_J9_abs_0f7a4_10 V S a0 h
  · refine x_iload_n X 0 dJ9_abs_0f7a4_4 rfl ?_
    refine x_ineg X dJ9_abs_0f7a4_5 ?_
    refine x_goto X 10 dJ9_abs_0f7a4_6 (by decide) ?_
    refine x_sub [] rfl ?_
    exact w_J9_abs_0f7a4_10 V S (-a0) h
set_option maxHeartbeats 2000000 in
set_option maxRecDepth 20000 in
theorem m_J9_abs_0f7a4 {l : Launch} {D : va_G} {cy : Nat → ClassId} {ad : Nat → Nat → Nat} (hi : xInj (shC cy) ad) {a0 : Int32} {S : xS} {Q : Int32 → xS → Prop} (h : wp_J9_abs_0f7a4 a0 S Q) : xMet l D (xTys cy) (shC cy) ad yJ9_abs_0f7a4 cJ9_abs_0f7a4 1 (some .int) (xRm 0 0) [.int a0] S (xQi Q) := xMet_env hi (by decide +kernel) rfl (Nat.le_of_ble_eq_true rfl) (fun g hl V => w_J9_abs_0f7a4 V h)
set_option maxHeartbeats 2000000 in
set_option maxRecDepth 20000 in
theorem w_X6_nearestInstance_75 {g : xG} {D : va_G} {cy : Nat → ClassId} {ad : Nat → Nat → Nat} {K10 : xS → Int32 → Int32 → Int32 → Prop} {Q : Int32 → xS → Prop} (V : xEnv g D (xTys cy) (shC cy) ad RX6 cX6_nearestInstance (some .int) 1 20 6 (xQi Q)) (hK10 : ∀ (S : xS) (v1 : Int32) (v2 : Int32) (v3 : Int32), K10 S v1 v2 v3 → Wx g (xW D (shC cy) ad S) 10 [(0, .ref (ad 6 0)), (1, .int v1), (2, .int v2), (3, .int v3)] []) (S : xS) (v1 : Int32) (v2 : Int32) (v3 : Int32) (h : wp_X6_nearestInstance_75 K10 Q S v1 v2 v3) : Wx g (xW D (shC cy) ad S) 75 [(0, .ref (ad 6 0)), (1, .int v1), (2, .int v2), (3, .int v3)] [] := by
  obtain ⟨X, K, hi, hA, hR, E, hN⟩ := V
  have V := xEnv_mk X K hi hA hR E hN
  unfold wp_X6_nearestInstance_75 at h
  refine x_iinc X 3 [(3, .int (v3 + (1 : Int32))), (0, .ref (ad 6 0)), (1, .int v1), (2, .int v2)] dX6_nearestInstance_75 rfl rfl (by rw [hN]; decide) rfl ?_
  refine x_goto X 10 dX6_nearestInstance_78 (by decide) ?_
  refine x_sub [1, 2, 3, 0] rfl ?_
  exact hK10 S v1 v2 (v3 + (1 : Int32)) h
set_option maxHeartbeats 2000000 in
set_option maxRecDepth 20000 in
theorem w_X6_nearestInstance_24_b {g : xG} {D : va_G} {cy : Nat → ClassId} {ad : Nat → Nat → Nat} {K10 : xS → Int32 → Int32 → Int32 → Prop} {K24 : xS → Int32 → Int32 → Int32 → Int32 → Int32 → Prop} {Q : Int32 → xS → Prop} (V : xEnv g D (xTys cy) (shC cy) ad RX6 cX6_nearestInstance (some .int) 1 20 6 (xQi Q)) (hK10 : ∀ (S : xS) (v1 : Int32) (v2 : Int32) (v3 : Int32), K10 S v1 v2 v3 → Wx g (xW D (shC cy) ad S) 10 [(0, .ref (ad 6 0)), (1, .int v1), (2, .int v2), (3, .int v3)] []) (hK24 : ∀ (S : xS) (v1 : Int32) (v2 : Int32) (v3 : Int32) (v4 : Int32) (v5 : Int32), K24 S v1 v2 v3 v4 v5 → Wx g (xW D (shC cy) ad S) 24 [(0, .ref (ad 6 0)), (1, .int v1), (2, .int v2), (3, .int v3), (4, .int v4), (5, .int v5)] []) (S : xS) (v1 : Int32) (v2 : Int32) (v3 : Int32) (v4 : Int32) (v5 : Int32) (h : wp_X6_nearestInstance_24_b K10 K24 Q S v1 v2 v3 v4 v5) : Wx g (xW D (shC cy) ad S) 24 [(0, .ref (ad 6 0)), (1, .int v1), (2, .int v2), (3, .int v3), (4, .int v4), (5, .int v5)] [] := by
  obtain ⟨X, K, hi, hA, hR, E, hN⟩ := V
  have V := xEnv_mk X K hi hA hR E hN
  unfold wp_X6_nearestInstance_24_b at h
  refine x_iload X 5 dX6_nearestInstance_24 rfl ?_
  refine x_aload_n X 0 dX6_nearestInstance_26 rfl ?_
  refine xg_X6_71 X K (Nat.zero_lt_one) dX6_nearestInstance_27 ?_
  refine x_icmp_ge X 64 dX6_nearestInstance_30 (by decide) h (fun h => ?_) (fun h => ?_)
  · refine x_iload X 4 dX6_nearestInstance_64 rfl ?_
    refine x_iload_n X 2 dX6_nearestInstance_66 rfl ?_
    refine x_icmp_ge X 75 dX6_nearestInstance_67 (by decide) h (fun h => ?_) (fun h => ?_)
    · refine x_sub [0, 1, 2, 3] rfl ?_
      exact w_X6_nearestInstance_75 V hK10 S v1 v2 v3 h
    · refine x_iload X 4 dX6_nearestInstance_70 rfl ?_
      refine x_istore_n X [(2, .int v4), (0, .ref (ad 6 0)), (1, .int v1), (3, .int v3), (4, .int v4), (5, .int v5)] dX6_nearestInstance_72 (by rw [hN]; decide) rfl ?_
      refine x_iload_n X 3 dX6_nearestInstance_73 rfl ?_
      refine x_istore_n X [(1, .int v3), (2, .int v4), (0, .ref (ad 6 0)), (3, .int v3), (4, .int v4), (5, .int v5)] dX6_nearestInstance_74 (by rw [hN]; decide) rfl ?_
      refine x_sub [2, 0, 1, 3] rfl ?_
      exact w_X6_nearestInstance_75 V hK10 S v3 v4 v3 h
  · refine x_iload X 4 dX6_nearestInstance_33 rfl ?_
    refine x_aload_n X 0 dX6_nearestInstance_35 rfl ?_
    refine xg_X6_52 X K (Nat.zero_lt_one) dX6_nearestInstance_36 ?_
    refine x_iload_n X 3 dX6_nearestInstance_39 rfl ?_
    obtain ⟨hb1, h⟩ := h
    refine xa_C32 X K (show 0 < 1 by decide) hb1 dX6_nearestInstance_40 ?_
    refine x_iload X 5 dX6_nearestInstance_41 rfl ?_
    obtain ⟨hb2, h⟩ := h
    refine xa_C33 X K (xIn_lt hb1) hb2 dX6_nearestInstance_43 ?_
    refine x_aload_n X 0 dX6_nearestInstance_44 rfl ?_
    refine xg_X6_17 X K (Nat.zero_lt_one) dX6_nearestInstance_45 ?_
    refine x_iload X 5 dX6_nearestInstance_48 rfl ?_
    obtain ⟨hb3, h⟩ := h
    refine xa_C30 X K (show 0 < 3 by decide) hb3 dX6_nearestInstance_50 ?_
    refine x_isub X dX6_nearestInstance_51 ?_
    refine x_calli hA (x_runS (n := 1) X K hR (fun _ q => q) (m_J9_abs_0f7a4 hi  h) t3_200 t3_201 t1_9 t3_202 ⟨by decide, by decide, by decide +kernel⟩ rfl (by decide) (by decide) rfl (Nat.le_of_ble_eq_true rfl) dX6_nearestInstance_52) (fun r5 S4 h => ?_)
    refine x_iadd X dX6_nearestInstance_55 ?_
    refine x_istore X [(4, .int (v4 + r5)), (0, .ref (ad 6 0)), (1, .int v1), (2, .int v2), (3, .int v3), (5, .int v5)] dX6_nearestInstance_56 (by rw [hN]; decide) rfl ?_
    refine x_iinc X 5 [(5, .int (v5 + (1 : Int32))), (4, .int (v4 + r5)), (0, .ref (ad 6 0)), (1, .int v1), (2, .int v2), (3, .int v3)] dX6_nearestInstance_58 rfl rfl (by rw [hN]; decide) rfl ?_
    refine x_goto X 24 dX6_nearestInstance_61 (by decide) ?_
    refine x_sub [2, 3, 4, 5, 1, 0] rfl ?_
    exact hK24 S4 v1 v2 v3 (v4 + r5) (v5 + (1 : Int32)) h
set_option maxHeartbeats 2000000 in
set_option maxRecDepth 20000 in
theorem w_X6_nearestInstance_24 {g : xG} {D : va_G} {cy : Nat → ClassId} {ad : Nat → Nat → Nat} {K10 : xS → Int32 → Int32 → Int32 → Prop} {Q : Int32 → xS → Prop} (V : xEnv g D (xTys cy) (shC cy) ad RX6 cX6_nearestInstance (some .int) 1 20 6 (xQi Q)) (hK10 : ∀ (S : xS) (v1 : Int32) (v2 : Int32) (v3 : Int32), K10 S v1 v2 v3 → Wx g (xW D (shC cy) ad S) 10 [(0, .ref (ad 6 0)), (1, .int v1), (2, .int v2), (3, .int v3)] []) (n : Nat) : ∀ (S : xS) (v1 : Int32) (v2 : Int32) (v3 : Int32) (v4 : Int32) (v5 : Int32), wp_X6_nearestInstance_24 K10 Q n S v1 v2 v3 v4 v5 → Wx g (xW D (shC cy) ad S) 24 [(0, .ref (ad 6 0)), (1, .int v1), (2, .int v2), (3, .int v3), (4, .int v4), (5, .int v5)] [] := by
  induction n with
  | zero => intro S v1 v2 v3 v4 v5 h; exact h.elim
  | succ n ih => intro S v1 v2 v3 v4 v5 h; exact w_X6_nearestInstance_24_b V hK10 (fun S v1 v2 v3 v4 v5 h => ih S v1 v2 v3 v4 v5 h) S v1 v2 v3 v4 v5 h
set_option maxHeartbeats 2000000 in
set_option maxRecDepth 20000 in
theorem w_X6_nearestInstance_10_b {g : xG} {D : va_G} {cy : Nat → ClassId} {ad : Nat → Nat → Nat} {K10 : xS → Int32 → Int32 → Int32 → Prop} {Q : Int32 → xS → Prop} (V : xEnv g D (xTys cy) (shC cy) ad RX6 cX6_nearestInstance (some .int) 1 20 6 (xQi Q)) (hK10 : ∀ (S : xS) (v1 : Int32) (v2 : Int32) (v3 : Int32), K10 S v1 v2 v3 → Wx g (xW D (shC cy) ad S) 10 [(0, .ref (ad 6 0)), (1, .int v1), (2, .int v2), (3, .int v3)] []) (S : xS) (v1 : Int32) (v2 : Int32) (v3 : Int32) (h : wp_X6_nearestInstance_10_b K10 Q S v1 v2 v3) : Wx g (xW D (shC cy) ad S) 10 [(0, .ref (ad 6 0)), (1, .int v1), (2, .int v2), (3, .int v3)] [] := by
  obtain ⟨X, K, hi, hA, hR, E, hN⟩ := V
  have V := xEnv_mk X K hi hA hR E hN
  unfold wp_X6_nearestInstance_10_b at h
  refine x_iload_n X 3 dX6_nearestInstance_10 rfl ?_
  refine x_aload_n X 0 dX6_nearestInstance_11 rfl ?_
  refine xg_X6_300 X K (Nat.zero_lt_one) dX6_nearestInstance_12 ?_
  refine x_icmp_ge X 81 dX6_nearestInstance_15 (by decide) h (fun h => ?_) (fun h => ?_)
  · refine x_iload_n X 1 dX6_nearestInstance_81 rfl ?_
    exact x_iret X E dX6_nearestInstance_82 ⟨_, rfl, h⟩
  · refine x_iconst X (v := 0) dX6_nearestInstance_18 (by decide) ?_
    refine x_istore X [(4, .int (0 : Int32)), (0, .ref (ad 6 0)), (1, .int v1), (2, .int v2), (3, .int v3)] dX6_nearestInstance_19 (by rw [hN]; decide) rfl ?_
    refine x_iconst X (v := 0) dX6_nearestInstance_21 (by decide) ?_
    refine x_istore X [(5, .int (0 : Int32)), (4, .int (0 : Int32)), (0, .ref (ad 6 0)), (1, .int v1), (2, .int v2), (3, .int v3)] dX6_nearestInstance_22 (by rw [hN]; decide) rfl ?_
    refine x_sub [2, 3, 4, 5, 1, 0] rfl ?_
    obtain ⟨n1, h⟩ := h
    exact w_X6_nearestInstance_24 V hK10 n1 S v1 v2 v3 (0 : Int32) (0 : Int32) h
set_option maxHeartbeats 2000000 in
set_option maxRecDepth 20000 in
theorem w_X6_nearestInstance_10 {g : xG} {D : va_G} {cy : Nat → ClassId} {ad : Nat → Nat → Nat} {Q : Int32 → xS → Prop} (V : xEnv g D (xTys cy) (shC cy) ad RX6 cX6_nearestInstance (some .int) 1 20 6 (xQi Q)) (n : Nat) : ∀ (S : xS) (v1 : Int32) (v2 : Int32) (v3 : Int32), wp_X6_nearestInstance_10 Q n S v1 v2 v3 → Wx g (xW D (shC cy) ad S) 10 [(0, .ref (ad 6 0)), (1, .int v1), (2, .int v2), (3, .int v3)] [] := by
  induction n with
  | zero => intro S v1 v2 v3 h; exact h.elim
  | succ n ih => intro S v1 v2 v3 h; exact w_X6_nearestInstance_10_b V (fun S v1 v2 v3 h => ih S v1 v2 v3 h) S v1 v2 v3 h
set_option maxHeartbeats 2000000 in
set_option maxRecDepth 20000 in
theorem w_X6_nearestInstance {g : xG} {D : va_G} {cy : Nat → ClassId} {ad : Nat → Nat → Nat} {S : xS} {Q : Int32 → xS → Prop} (V : xEnv g D (xTys cy) (shC cy) ad RX6 cX6_nearestInstance (some .int) 1 20 6 (xQi Q)) (h : wp_X6_nearestInstance S Q) : Wx g (xW D (shC cy) ad S) 0 [(0, .ref (ad 6 0))] [] := by
  obtain ⟨X, K, hi, hA, hR, E, hN⟩ := V
  have V := xEnv_mk X K hi hA hR E hN
  unfold wp_X6_nearestInstance at h
  refine x_ldc_w X (v := -1000008) t3_185 dX6_nearestInstance_0 ?_
  refine x_istore_n X [(1, .int (-1000008 : Int32)), (0, .ref (ad 6 0))] dX6_nearestInstance_3 (by rw [hN]; decide) rfl ?_
  refine x_ldc_w X (v := 2147483647) t3_199 dX6_nearestInstance_4 ?_
  refine x_istore_n X [(2, .int (2147483647 : Int32)), (1, .int (-1000008 : Int32)), (0, .ref (ad 6 0))] dX6_nearestInstance_7 (by rw [hN]; decide) rfl ?_
  refine x_iconst X (v := 0) dX6_nearestInstance_8 (by decide) ?_
  refine x_istore_n X [(3, .int (0 : Int32)), (2, .int (2147483647 : Int32)), (1, .int (-1000008 : Int32)), (0, .ref (ad 6 0))] dX6_nearestInstance_9 (by rw [hN]; decide) rfl ?_
  refine x_sub [3, 2, 1, 0] rfl ?_
  obtain ⟨n1, h⟩ := h
  exact w_X6_nearestInstance_10 V n1 S (-1000008 : Int32) (2147483647 : Int32) (0 : Int32) h
set_option maxHeartbeats 2000000 in
set_option maxRecDepth 20000 in
theorem m_X6_nearestInstance {l : Launch} {D : va_G} {cy : Nat → ClassId} {ad : Nat → Nat → Nat} (hi : xInj (shC cy) ad) {S : xS} {Q : Int32 → xS → Prop} (h : wp_X6_nearestInstance S Q) : xMet l D (xTys cy) (shC cy) ad yX6_nearestInstance cX6_nearestInstance 6 (some .int) (xRm 1 20) [.ref (ad 6 0)] S (xQi Q) := xMet_env hi (by decide +kernel) rfl (Nat.le_of_ble_eq_true rfl) (fun g hl V => w_X6_nearestInstance V h)
set_option maxHeartbeats 2000000 in
set_option maxRecDepth 20000 in
theorem w_X6_type_23 {g : xG} {D : va_G} {cy : Nat → ClassId} {ad : Nat → Nat → Nat} {Q : Int32 → xS → Prop} (V : xEnv g D (xTys cy) (shC cy) ad RX6 cX6_type (some .int) 1 21 2 (xQi Q)) (S : xS) (s0 : Int32) (h : wp_X6_type_23 Q S s0) : Wx g (xW D (shC cy) ad S) 23 [] [.int s0] := by
  obtain ⟨X, K, hi, hA, hR, E, hN⟩ := V
  have V := xEnv_mk X K hi hA hR E hN
  unfold wp_X6_type_23 at h
  exact x_iret X E dX6_type_23 ⟨_, rfl, h⟩
set_option maxHeartbeats 2000000 in
set_option maxRecDepth 20000 in
theorem w_X6_type {g : xG} {D : va_G} {cy : Nat → ClassId} {ad : Nat → Nat → Nat} {a1 : Int32} {S : xS} {Q : Int32 → xS → Prop} (V : xEnv g D (xTys cy) (shC cy) ad RX6 cX6_type (some .int) 1 21 2 (xQi Q)) (h : wp_X6_type a1 S Q) : Wx g (xW D (shC cy) ad S) 0 [(0, .ref (ad 6 0)), (1, .int a1)] [] := by
  obtain ⟨X, K, hi, hA, hR, E, hN⟩ := V
  have V := xEnv_mk X K hi hA hR E hN
  unfold wp_X6_type at h
  refine x_aload_n X 0 dX6_type_0 rfl ?_
  refine xg_X6_58 X K Nat.zero_lt_one dX6_type_1 ?_
  refine x_iload_n X 1 dX6_type_4 rfl ?_
  refine x_calli hA (x_runV (n := 1) (sh := shC cy) X K hR (fun _ q => q) (m_X3_append hi  h) (kC_3 cy (show 0 < 1 by decide)) rfl rfl t3_207 t3_208 t3_209 t1_6 t3_210 ⟨by decide, by decide, by decide +kernel⟩ rfl (by decide) (by decide) rfl (Nat.le_of_ble_eq_true rfl) dX6_type_5) (fun r2 S1 h => ?_)
  refine x_if_eq X 21 dX6_type_8 (by decide) h (fun h => ?_) (fun h => ?_)
  · refine x_ldc X (v := -1000006) t2_8 dX6_type_21 ?_
    refine x_sub [] rfl ?_
    exact w_X6_type_23 V S1 (-1000006 : Int32) h
  · refine x_aload_n X 0 dX6_type_11 rfl ?_
    refine xg_X6_58 X K Nat.zero_lt_one dX6_type_12 ?_
    refine xg_X6_313 X K (show 0 < 1 by decide) dX6_type_15 ?_
    refine x_goto X 23 dX6_type_18 (by decide) ?_
    refine x_sub [] rfl ?_
    exact w_X6_type_23 V S1 (S1.1 3 0 0) h
set_option maxHeartbeats 2000000 in
set_option maxRecDepth 20000 in
theorem m_X6_type {l : Launch} {D : va_G} {cy : Nat → ClassId} {ad : Nat → Nat → Nat} (hi : xInj (shC cy) ad) {a1 : Int32} {S : xS} {Q : Int32 → xS → Prop} (h : wp_X6_type a1 S Q) : xMet l D (xTys cy) (shC cy) ad yX6_type cX6_type 2 (some .int) (xRm 1 21) [.ref (ad 6 0), .int a1] S (xQi Q) := xMet_env hi (by decide +kernel) rfl (Nat.le_of_ble_eq_true rfl) (fun g hl V => w_X6_type V h)
set_option maxHeartbeats 2000000 in
set_option maxRecDepth 20000 in
theorem w_X6_clearText {g : xG} {D : va_G} {cy : Nat → ClassId} {ad : Nat → Nat → Nat} {S : xS} {Q : Int32 → xS → Prop} (V : xEnv g D (xTys cy) (shC cy) ad RX6 cX6_clearText (some .int) 0 0 2 (xQi Q)) (h : wp_X6_clearText S Q) : Wx g (xW D (shC cy) ad S) 0 [(0, .ref (ad 6 0))] [] := by
  obtain ⟨X, K, hi, hA, hR, E, hN⟩ := V
  have V := xEnv_mk X K hi hA hR E hN
  unfold wp_X6_clearText at h
  refine x_aload_n X 0 dX6_clearText_0 rfl ?_
  refine xg_X6_58 X K Nat.zero_lt_one dX6_clearText_1 ?_
  refine xg_X6_313 X K (show 0 < 1 by decide) dX6_clearText_4 ?_
  refine x_istore_n X [(1, .int (S.1 3 0 0)), (0, .ref (ad 6 0))] dX6_clearText_7 (by rw [hN]; decide) rfl ?_
  refine x_aload_n X 1 dX6_clearText_8 rfl ?_
  refine xg_X6_58 X K Nat.zero_lt_one dX6_clearText_9 ?_
  refine x_iconst X (v := 0) dX6_clearText_12 (by decide) ?_
  refine xp_X6_313 X K hi hA (show 0 < 1 by decide) dX6_clearText_13 ?_
  refine x_iload_n X 0 dX6_clearText_16 rfl ?_
  exact x_iret X E dX6_clearText_17 ⟨_, rfl, h⟩
set_option maxHeartbeats 2000000 in
set_option maxRecDepth 20000 in
theorem m_X6_clearText {l : Launch} {D : va_G} {cy : Nat → ClassId} {ad : Nat → Nat → Nat} (hi : xInj (shC cy) ad) {S : xS} {Q : Int32 → xS → Prop} (h : wp_X6_clearText S Q) : xMet l D (xTys cy) (shC cy) ad yX6_clearText cX6_clearText 2 (some .int) (xRm 0 0) [.ref (ad 6 0)] S (xQi Q) := xMet_env hi (by decide +kernel) rfl (Nat.le_of_ble_eq_true rfl) (fun g hl V => w_X6_clearText V h)
set_option maxHeartbeats 2000000 in
set_option maxRecDepth 20000 in
theorem w_X6_readLocation_70 {g : xG} {D : va_G} {cy : Nat → ClassId} {ad : Nat → Nat → Nat} {K24 : xS → Int32 → Int32 → Prop} {Q : Int32 → xS → Prop} (V : xEnv g D (xTys cy) (shC cy) ad RX6 cX6_readLocation (some .int) 4 93 3 (xQi Q)) (hK24 : ∀ (S : xS) (v1 : Int32) (v2 : Int32), K24 S v1 v2 → Wx g (xW D (shC cy) ad S) 24 [(0, .ref (ad 6 0)), (1, .int v1), (2, .int v2)] []) (S : xS) (v1 : Int32) (v2 : Int32) (h : wp_X6_readLocation_70 K24 Q S v1 v2) : Wx g (xW D (shC cy) ad S) 70 [(0, .ref (ad 6 0)), (1, .int v1), (2, .int v2)] [] := by
  obtain ⟨X, K, hi, hA, hR, E, hN⟩ := V
  have V := xEnv_mk X K hi hA hR E hN
  unfold wp_X6_readLocation_70 at h
  refine x_iinc X 2 [(2, .int (v2 + (1 : Int32))), (0, .ref (ad 6 0)), (1, .int v1)] dX6_readLocation_70 rfl rfl (by rw [hN]; decide) rfl ?_
  refine x_goto X 24 dX6_readLocation_73 (by decide) ?_
  refine x_sub [1, 2, 0] rfl ?_
  exact hK24 S v1 (v2 + (1 : Int32)) h
set_option maxHeartbeats 2000000 in
set_option maxRecDepth 20000 in
theorem w_X6_readLocation_24_b {g : xG} {D : va_G} {cy : Nat → ClassId} {ad : Nat → Nat → Nat} {K24 : xS → Int32 → Int32 → Prop} {Q : Int32 → xS → Prop} (V : xEnv g D (xTys cy) (shC cy) ad RX6 cX6_readLocation (some .int) 4 93 3 (xQi Q)) (hK24 : ∀ (S : xS) (v1 : Int32) (v2 : Int32), K24 S v1 v2 → Wx g (xW D (shC cy) ad S) 24 [(0, .ref (ad 6 0)), (1, .int v1), (2, .int v2)] []) (S : xS) (v1 : Int32) (v2 : Int32) (h : wp_X6_readLocation_24_b K24 Q S v1 v2) : Wx g (xW D (shC cy) ad S) 24 [(0, .ref (ad 6 0)), (1, .int v1), (2, .int v2)] [] := by
  obtain ⟨X, K, hi, hA, hR, E, hN⟩ := V
  have V := xEnv_mk X K hi hA hR E hN
  unfold wp_X6_readLocation_24_b at h
  refine x_iload_n X 2 dX6_readLocation_24 rfl ?_
  refine x_aload_n X 0 dX6_readLocation_25 rfl ?_
  refine xg_X6_71 X K (Nat.zero_lt_one) dX6_readLocation_26 ?_
  refine x_icmp_ge X 76 dX6_readLocation_29 (by decide) h (fun h => ?_) (fun h => ?_)
  · refine x_iload_n X 1 dX6_readLocation_76 rfl ?_
    exact x_iret X E dX6_readLocation_77 ⟨_, rfl, h⟩
  · refine x_aload_n X 0 dX6_readLocation_32 rfl ?_
    refine xg_X6_58 X K (Nat.zero_lt_one) dX6_readLocation_33 ?_
    refine xg_X6_319 X K (show 0 < 1 by decide) dX6_readLocation_36 ?_
    refine x_iload_n X 2 dX6_readLocation_39 rfl ?_
    refine x_calli hA (x_runS (n := 2) X K hR (fun _ q => q) (m_X6_hasBit hi  h) t3_236 t2_145 t1_1 t2_146 ⟨by decide, by decide, by decide +kernel⟩ rfl (by decide) (by decide) rfl (Nat.le_of_ble_eq_true rfl) dX6_readLocation_40) (fun r2 S1 h => ?_)
    refine x_if_eq X 70 dX6_readLocation_43 (by decide) h (fun h => ?_) (fun h => ?_)
    · refine x_sub [0, 1, 2] rfl ?_
      exact w_X6_readLocation_70 V hK24 S1 v1 v2 h
    · refine x_aload_n X 0 dX6_readLocation_46 rfl ?_
      refine xg_X6_17 X K (Nat.zero_lt_one) dX6_readLocation_47 ?_
      refine x_iload_n X 2 dX6_readLocation_50 rfl ?_
      refine x_aload_n X 0 dX6_readLocation_51 rfl ?_
      refine xg_X6_13 X K (Nat.zero_lt_one) dX6_readLocation_52 ?_
      refine x_iload_n X 2 dX6_readLocation_55 rfl ?_
      obtain ⟨hb3, h⟩ := h
      refine xa_C29 X K (show 0 < 1 by decide) hb3 dX6_readLocation_56 ?_
      refine x_aload_n X 0 dX6_readLocation_57 rfl ?_
      refine xg_X6_58 X K (Nat.zero_lt_one) dX6_readLocation_58 ?_
      refine xg_X6_325 X K (show 0 < 1 by decide) dX6_readLocation_61 ?_
      refine x_iload_n X 2 dX6_readLocation_64 rfl ?_
      obtain ⟨hb4, h⟩ := h
      refine xa_C20 X K (show 0 < 1 by decide) hb4 dX6_readLocation_65 ?_
      refine x_calli hA (x_runV (n := 1) (sh := shC cy) X K hR (fun _ q => q) (m_X0_coordinateFor hi (xIn_lt hb3) h) (kC_0 cy (xIn_lt hb3)) rfl rfl t2_42 t2_43 t2_44 t1_7 t2_45 ⟨by decide, by decide, by decide +kernel⟩ rfl (by decide) (by decide) rfl (Nat.le_of_ble_eq_true rfl) dX6_readLocation_66) (fun r6 S5 h => ?_)
      obtain ⟨hb7, h⟩ := h
      refine xs_C30 X K hi hA (show 0 < 3 by decide) hb7 dX6_readLocation_69 ?_
      refine x_sub [0, 1, 2] rfl ?_
      exact w_X6_readLocation_70 V hK24 (xI S5 30 0 v2.toNatClampNeg r6) v1 v2 h
set_option maxHeartbeats 2000000 in
set_option maxRecDepth 20000 in
theorem w_X6_readLocation_24 {g : xG} {D : va_G} {cy : Nat → ClassId} {ad : Nat → Nat → Nat} {Q : Int32 → xS → Prop} (V : xEnv g D (xTys cy) (shC cy) ad RX6 cX6_readLocation (some .int) 4 93 3 (xQi Q)) (n : Nat) : ∀ (S : xS) (v1 : Int32) (v2 : Int32), wp_X6_readLocation_24 Q n S v1 v2 → Wx g (xW D (shC cy) ad S) 24 [(0, .ref (ad 6 0)), (1, .int v1), (2, .int v2)] [] := by
  induction n with
  | zero => intro S v1 v2 h; exact h.elim
  | succ n ih => intro S v1 v2 h; exact w_X6_readLocation_24_b V (fun S v1 v2 h => ih S v1 v2 h) S v1 v2 h
set_option maxHeartbeats 2000000 in
set_option maxRecDepth 20000 in
theorem w_X6_readLocation {g : xG} {D : va_G} {cy : Nat → ClassId} {ad : Nat → Nat → Nat} {S : xS} {Q : Int32 → xS → Prop} (V : xEnv g D (xTys cy) (shC cy) ad RX6 cX6_readLocation (some .int) 4 93 3 (xQi Q)) (h : wp_X6_readLocation S Q) : Wx g (xW D (shC cy) ad S) 0 [(0, .ref (ad 6 0))] [] := by
  obtain ⟨X, K, hi, hA, hR, E, hN⟩ := V
  have V := xEnv_mk X K hi hA hR E hN
  unfold wp_X6_readLocation at h
  refine x_aload_n X 0 dX6_readLocation_0 rfl ?_
  refine xg_X6_58 X K Nat.zero_lt_one dX6_readLocation_1 ?_
  refine x_aload_n X 0 dX6_readLocation_4 rfl ?_
  refine xg_X6_71 X K Nat.zero_lt_one dX6_readLocation_5 ?_
  refine x_aload_n X 0 dX6_readLocation_8 rfl ?_
  refine x_calli hA (x_runV (n := 0) (sh := shC cy) X K hR (fun _ q => q) (m_X6_pinnedAxes hi  h) (kC_6 cy Nat.zero_lt_one) rfl rfl t3_156 t3_158 tp_20 t1_1 t3_159 ⟨by decide, by decide, by decide +kernel⟩ rfl (by decide) (by decide) rfl (Nat.le_of_ble_eq_true rfl) dX6_readLocation_9) (fun r2 S1 h => ?_)
  refine x_calli hA (x_runV (n := 2) (sh := shC cy) X K hR (fun _ q => q) (m_X3_readItems hi  h) (kC_3 cy (show 0 < 1 by decide)) rfl rfl t3_219 t3_220 t3_221 t1_6 t3_222 ⟨by decide, by decide, by decide +kernel⟩ rfl (by decide) (by decide) rfl (Nat.le_of_ble_eq_true rfl) dX6_readLocation_12) (fun r4 S3 h => ?_)
  refine x_istore_n X [(1, .int r4), (0, .ref (ad 6 0))] dX6_readLocation_15 (by rw [hN]; decide) rfl ?_
  refine x_iload_n X 0 dX6_readLocation_16 rfl ?_
  refine x_if_ge X 22 dX6_readLocation_17 (by decide) h (fun h => ?_) (fun h => ?_)
  · refine x_iconst X (v := 0) dX6_readLocation_22 (by decide) ?_
    refine x_istore_n X [(2, .int (0 : Int32)), (1, .int r4), (0, .ref (ad 6 0))] dX6_readLocation_23 (by rw [hN]; decide) rfl ?_
    refine x_sub [2, 1, 0] rfl ?_
    obtain ⟨n5, h⟩ := h
    exact w_X6_readLocation_24 V n5 S3 r4 (0 : Int32) h
  · refine x_iload_n X 0 dX6_readLocation_20 rfl ?_
    exact x_iret X E dX6_readLocation_21 ⟨_, rfl, h⟩
set_option maxHeartbeats 2000000 in
set_option maxRecDepth 20000 in
theorem m_X6_readLocation {l : Launch} {D : va_G} {cy : Nat → ClassId} {ad : Nat → Nat → Nat} (hi : xInj (shC cy) ad) {S : xS} {Q : Int32 → xS → Prop} (h : wp_X6_readLocation S Q) : xMet l D (xTys cy) (shC cy) ad yX6_readLocation cX6_readLocation 3 (some .int) (xRm 4 93) [.ref (ad 6 0)] S (xQi Q) := xMet_env hi (by decide +kernel) rfl (Nat.le_of_ble_eq_true rfl) (fun g hl V => w_X6_readLocation V h)
set_option maxHeartbeats 2000000 in
set_option maxRecDepth 20000 in
theorem w_X6_count {g : xG} {D : va_G} {cy : Nat → ClassId} {ad : Nat → Nat → Nat} {a1 : Int32} {S : xS} {Q : Int32 → xS → Prop} (V : xEnv g D (xTys cy) (shC cy) ad RX6 cX6_count (some .int) 0 0 2 (xQi Q)) (h : wp_X6_count a1 S Q) : Wx g (xW D (shC cy) ad S) 0 [(0, .ref (ad 6 0)), (1, .int a1)] [] := by
  obtain ⟨X, K, hi, hA, hR, E, hN⟩ := V
  have V := xEnv_mk X K hi hA hR E hN
  unfold wp_X6_count at h
  refine x_iload_n X 1 dX6_count_0 rfl ?_
  refine x_ite h (fun hc h => ?_) (fun hc0_1 h => ?_)
  · refine x_tableIn X 32 dX6_count_1 (by rw [hc]; decide) (by rw [hc]; decide) (off := 31) (by rw [hc]; decide) (by decide) ?_
    refine x_aload_n X 0 dX6_count_32 rfl ?_
    refine xg_X6_71 X K Nat.zero_lt_one dX6_count_33 ?_
    exact x_iret X E dX6_count_36 ⟨_, rfl, h⟩
  · refine x_ite h (fun hc h => ?_) (fun hc1_1 h => ?_)
    · refine x_tableIn X 37 dX6_count_1 (by rw [hc]; decide) (by rw [hc]; decide) (off := 36) (by rw [hc]; decide) (by decide) ?_
      refine x_aload_n X 0 dX6_count_37 rfl ?_
      refine xg_X6_117 X K Nat.zero_lt_one dX6_count_38 ?_
      exact x_iret X E dX6_count_41 ⟨_, rfl, h⟩
    · refine x_ite h (fun hc h => ?_) (fun hc2_1 h => ?_)
      · refine x_tableIn X 42 dX6_count_1 (by rw [hc]; decide) (by rw [hc]; decide) (off := 41) (by rw [hc]; decide) (by decide) ?_
        refine x_aload_n X 0 dX6_count_42 rfl ?_
        refine xg_X6_300 X K Nat.zero_lt_one dX6_count_43 ?_
        exact x_iret X E dX6_count_46 ⟨_, rfl, h⟩
      · refine x_ite h (fun hc h => ?_) (fun hc3_1 h => ?_)
        · refine x_tableIn X 47 dX6_count_1 (by rw [hc]; decide) (by rw [hc]; decide) (off := 46) (by rw [hc]; decide) (by decide) ?_
          refine x_aload_n X 0 dX6_count_47 rfl ?_
          refine xg_X6_46 X K Nat.zero_lt_one dX6_count_48 ?_
          refine xg_X6_288 X K (show 0 < 1 by decide) dX6_count_51 ?_
          exact x_iret X E dX6_count_54 ⟨_, rfl, h⟩
        · refine x_tableOut X 55 dX6_count_1 (xSw_0_3 hc0_1 hc1_1 hc2_1 hc3_1) (by decide) ?_
          refine x_ldc X (v := -1000005) t2_7 dX6_count_55 ?_
          exact x_iret X E dX6_count_57 ⟨_, rfl, h⟩
set_option maxHeartbeats 2000000 in
set_option maxRecDepth 20000 in
theorem m_X6_count {l : Launch} {D : va_G} {cy : Nat → ClassId} {ad : Nat → Nat → Nat} (hi : xInj (shC cy) ad) {a1 : Int32} {S : xS} {Q : Int32 → xS → Prop} (h : wp_X6_count a1 S Q) : xMet l D (xTys cy) (shC cy) ad yX6_count cX6_count 2 (some .int) (xRm 0 0) [.ref (ad 6 0), .int a1] S (xQi Q) := xMet_env hi (by decide +kernel) rfl (Nat.le_of_ble_eq_true rfl) (fun g hl V => w_X6_count V h)
set_option maxHeartbeats 2000000 in
set_option maxRecDepth 20000 in
theorem w_X7_in_18 {g : xG} {D : va_G} {cy : Nat → ClassId} {ad : Nat → Nat → Nat} {Q : Int32 → xS → Prop} (V : xEnv g D (xTys cy) (shM cy) ad RX7 cX7_in (some .boolean) 0 0 6 (xQi Q)) (S : xS) (s0 : Int32) (h : wp_X7_in_18 Q S s0) : Wx g (xW D (shM cy) ad S) 18 [] [.int s0] := by
  obtain ⟨X, K, hi, hA, hR, E, hN⟩ := V
  have V := xEnv_mk X K hi hA hR E hN
  unfold wp_X7_in_18 at h
  exact x_zret X E dX7_in_18 h.1 ⟨_, rfl, h.2⟩
set_option maxHeartbeats 2000000 in
set_option maxRecDepth 20000 in
theorem w_X7_in_17 {g : xG} {D : va_G} {cy : Nat → ClassId} {ad : Nat → Nat → Nat} {Q : Int32 → xS → Prop} (V : xEnv g D (xTys cy) (shM cy) ad RX7 cX7_in (some .boolean) 0 0 6 (xQi Q)) (S : xS) (h : wp_X7_in_17 Q S) : Wx g (xW D (shM cy) ad S) 17 [] [] := by
  obtain ⟨X, K, hi, hA, hR, E, hN⟩ := V
  have V := xEnv_mk X K hi hA hR E hN
  unfold wp_X7_in_17 at h
  refine x_iconst X (v := 0) dX7_in_17 (by decide) ?_
  refine x_sub [] rfl ?_
  exact w_X7_in_18 V S (0 : Int32) h
set_option maxHeartbeats 2000000 in
set_option maxRecDepth 20000 in
theorem w_X7_in {g : xG} {D : va_G} {cy : Nat → ClassId} {ad : Nat → Nat → Nat} {a0 : Int64} {a2 : Int64} {a4 : Int64} {S : xS} {Q : Int32 → xS → Prop} (V : xEnv g D (xTys cy) (shM cy) ad RX7 cX7_in (some .boolean) 0 0 6 (xQi Q)) (h : wp_X7_in a0 a2 a4 S Q) : Wx g (xW D (shM cy) ad S) 0 [(0, .long a0), (2, .long a2), (4, .long a4)] [] := by
  obtain ⟨X, K, hi, hA, hR, E, hN⟩ := V
  have V := xEnv_mk X K hi hA hR E hN
  unfold wp_X7_in at h
  refine x_lload_n X 0 dX7_in_0 rfl ?_
  refine x_lload_n X 1 dX7_in_1 rfl ?_
  refine x_lcmp X dX7_in_2 ?_
  refine x_if_lt X 17 dX7_in_3 (by decide) h (fun h => ?_) (fun h => ?_)
  · refine x_sub [] rfl ?_
    exact w_X7_in_17 V S h
  · refine x_lload_n X 0 dX7_in_6 rfl ?_
    refine x_lload X 2 dX7_in_7 rfl ?_
    refine x_lcmp X dX7_in_9 ?_
    refine x_if_gt X 17 dX7_in_10 (by decide) h (fun h => ?_) (fun h => ?_)
    · refine x_sub [] rfl ?_
      exact w_X7_in_17 V S h
    · refine x_iconst X (v := 1) dX7_in_13 (by decide) ?_
      refine x_goto X 18 dX7_in_14 (by decide) ?_
      refine x_sub [] rfl ?_
      exact w_X7_in_18 V S (1 : Int32) h
set_option maxHeartbeats 2000000 in
set_option maxRecDepth 20000 in
theorem m_X7_in {l : Launch} {D : va_G} {cy : Nat → ClassId} {ad : Nat → Nat → Nat} (hi : xInj (shM cy) ad) {a0 : Int64} {a2 : Int64} {a4 : Int64} {S : xS} {Q : Int32 → xS → Prop} (h : wp_X7_in a0 a2 a4 S Q) : xMet l D (xTys cy) (shM cy) ad yX7_in cX7_in 6 (some .boolean) (xRm 0 0) [.long a0, .long a2, .long a4] S (xQi Q) := xMet_env hi (by decide +kernel) rfl (Nat.le_of_ble_eq_true rfl) (fun g hl V => w_X7_in V h)
set_option maxHeartbeats 2000000 in
set_option maxRecDepth 20000 in
theorem w_X7_lost {g : xG} {D : va_G} {cy : Nat → ClassId} {ad : Nat → Nat → Nat} {S : xS} {Q : Int64 → xS → Prop} (V : xEnv g D (xTys cy) (shM cy) ad RX7 cX7_lost (some .long) 0 0 0 (xQl Q)) (h : wp_X7_lost S Q) : Wx g (xW D (shM cy) ad S) 0 [] [] := by
  obtain ⟨X, K, hi, hA, hR, E, hN⟩ := V
  have V := xEnv_mk X K hi hA hR E hN
  unfold wp_X7_lost at h
  refine x_ldc2 X (v := -9223372036854775808) t5_90 dX7_lost_0 ?_
  exact x_lret X E dX7_lost_3 ⟨_, rfl, h⟩
set_option maxHeartbeats 2000000 in
set_option maxRecDepth 20000 in
theorem m_X7_lost {l : Launch} {D : va_G} {cy : Nat → ClassId} {ad : Nat → Nat → Nat} (hi : xInj (shM cy) ad) {S : xS} {Q : Int64 → xS → Prop} (h : wp_X7_lost S Q) : xMet l D (xTys cy) (shM cy) ad yX7_lost cX7_lost 0 (some .long) (xRm 0 0) [] S (xQl Q) := xMet_env hi (by decide +kernel) rfl (Nat.le_of_ble_eq_true rfl) (fun g hl V => w_X7_lost V h)
set_option maxHeartbeats 2000000 in
set_option maxRecDepth 20000 in
theorem w_X7_near_42 {g : xG} {D : va_G} {cy : Nat → ClassId} {ad : Nat → Nat → Nat} {Q : Int64 → xS → Prop} (V : xEnv g D (xTys cy) (shM cy) ad RX7 cX7_near (some .long) 0 0 8 (xQl Q)) (S : xS) (s0 : Int64) (h : wp_X7_near_42 Q S s0) : Wx g (xW D (shM cy) ad S) 42 [] [.long s0] := by
  obtain ⟨X, K, hi, hA, hR, E, hN⟩ := V
  have V := xEnv_mk X K hi hA hR E hN
  unfold wp_X7_near_42 at h
  exact x_lret X E dX7_near_42 ⟨_, rfl, h⟩
set_option maxHeartbeats 2000000 in
set_option maxRecDepth 20000 in
theorem w_X7_near {g : xG} {D : va_G} {cy : Nat → ClassId} {ad : Nat → Nat → Nat} {a0 : Int64} {a2 : Int64} {S : xS} {Q : Int64 → xS → Prop} (V : xEnv g D (xTys cy) (shM cy) ad RX7 cX7_near (some .long) 0 0 8 (xQl Q)) (h : wp_X7_near a0 a2 S Q) : Wx g (xW D (shM cy) ad S) 0 [(0, .long a0), (2, .long a2)] [] := by
  obtain ⟨X, K, hi, hA, hR, E, hN⟩ := V
  have V := xEnv_mk X K hi hA hR E hN
  unfold wp_X7_near at h
  refine x_ldc2 X (v := 2) t4_164 dX7_near_0 ?_
  refine x_lload_n X 0 dX7_near_3 rfl ?_
  refine x_lmul X dX7_near_4 ?_
  refine x_lload_n X 1 dX7_near_5 rfl ?_
  refine x_ladd X dX7_near_6 ?_
  refine x_lstore X [(4, .long (((2 : Int64) * a0) + a2)), (0, .long a0), (2, .long a2)] dX7_near_7 (by rw [hN]; decide) rfl ?_
  refine x_lload X 0 dX7_near_9 rfl ?_
  refine x_ldc2 X (v := 2) t4_164 dX7_near_11 ?_
  refine x_lload_n X 2 dX7_near_14 rfl ?_
  refine x_lmul X dX7_near_15 ?_
  obtain ⟨hy1, h⟩ := h
  refine x_ldiv X dX7_near_16 hy1 ?_
  refine x_lstore X [(6, .long ((((2 : Int64) * a0) + a2) / ((2 : Int64) * a2))), (4, .long (((2 : Int64) * a0) + a2)), (0, .long a0), (2, .long a2)] dX7_near_17 (by rw [hN]; decide) rfl ?_
  refine x_lload X 0 dX7_near_19 rfl ?_
  refine x_ldc2 X (v := 2) t4_164 dX7_near_21 ?_
  refine x_lmul X dX7_near_24 ?_
  refine x_lload_n X 3 dX7_near_25 rfl ?_
  refine x_lmul X dX7_near_26 ?_
  refine x_lload X 1 dX7_near_27 rfl ?_
  refine x_lcmp X dX7_near_29 ?_
  refine x_if_le X 40 dX7_near_30 (by decide) h (fun h => ?_) (fun h => ?_)
  · refine x_lload X 0 dX7_near_40 rfl ?_
    refine x_sub [] rfl ?_
    exact w_X7_near_42 V S ((((2 : Int64) * a0) + a2) / ((2 : Int64) * a2)) h
  · refine x_lload X 0 dX7_near_33 rfl ?_
    refine x_lconst X (v := 1) dX7_near_35 (by decide) ?_
    refine x_lsub X dX7_near_36 ?_
    refine x_goto X 42 dX7_near_37 (by decide) ?_
    refine x_sub [] rfl ?_
    exact w_X7_near_42 V S (((((2 : Int64) * a0) + a2) / ((2 : Int64) * a2)) - (1 : Int64)) h
set_option maxHeartbeats 2000000 in
set_option maxRecDepth 20000 in
theorem m_X7_near {l : Launch} {D : va_G} {cy : Nat → ClassId} {ad : Nat → Nat → Nat} (hi : xInj (shM cy) ad) {a0 : Int64} {a2 : Int64} {S : xS} {Q : Int64 → xS → Prop} (h : wp_X7_near a0 a2 S Q) : xMet l D (xTys cy) (shM cy) ad yX7_near cX7_near 8 (some .long) (xRm 0 0) [.long a0, .long a2] S (xQl Q) := xMet_env hi (by decide +kernel) rfl (Nat.le_of_ble_eq_true rfl) (fun g hl V => w_X7_near V h)
set_option maxHeartbeats 2000000 in
set_option maxRecDepth 20000 in
theorem w_X7_noAxis_21 {g : xG} {D : va_G} {cy : Nat → ClassId} {ad : Nat → Nat → Nat} {Q : Int32 → xS → Prop} (V : xEnv g D (xTys cy) (shM cy) ad RX7 cX7_noAxis (some .boolean) 1 25 2 (xQi Q)) (S : xS) (s0 : Int32) (h : wp_X7_noAxis_21 Q S s0) : Wx g (xW D (shM cy) ad S) 21 [] [.int s0] := by
  obtain ⟨X, K, hi, hA, hR, E, hN⟩ := V
  have V := xEnv_mk X K hi hA hR E hN
  unfold wp_X7_noAxis_21 at h
  exact x_zret X E dX7_noAxis_21 h.1 ⟨_, rfl, h.2⟩
set_option maxHeartbeats 2000000 in
set_option maxRecDepth 20000 in
theorem w_X7_noAxis {g : xG} {D : va_G} {cy : Nat → ClassId} {ad : Nat → Nat → Nat} {a1 : Int32} {S : xS} {Q : Int32 → xS → Prop} (V : xEnv g D (xTys cy) (shM cy) ad RX7 cX7_noAxis (some .boolean) 1 25 2 (xQi Q)) (h : wp_X7_noAxis a1 S Q) : Wx g (xW D (shM cy) ad S) 0 [(0, .ref (ad 0 0)), (1, .int a1)] [] := by
  obtain ⟨X, K, hi, hA, hR, E, hN⟩ := V
  have V := xEnv_mk X K hi hA hR E hN
  unfold wp_X7_noAxis at h
  refine x_iload_n X 1 dX7_noAxis_0 rfl ?_
  refine x_i2l X dX7_noAxis_1 ?_
  refine x_lconst X (v := 0) dX7_noAxis_2 (by decide) ?_
  refine x_aload_n X 0 dX7_noAxis_3 rfl ?_
  refine xg_X7_107 X K Nat.zero_lt_one dX7_noAxis_4 ?_
  refine x_i2l X dX7_noAxis_7 ?_
  refine x_lconst X (v := 1) dX7_noAxis_8 (by decide) ?_
  refine x_lsub X dX7_noAxis_9 ?_
  refine x_calli hA (x_runS (n := 3) X K hR (fun _ q => q) (m_X7_in hi  h) t4_135 t4_136 t1_8 t4_137 ⟨by decide, by decide, by decide +kernel⟩ rfl (by decide) (by decide) rfl (Nat.le_of_ble_eq_true rfl) dX7_noAxis_10) (fun r2 S1 h => ?_)
  refine x_if_ne X 20 dX7_noAxis_13 (by decide) h (fun h => ?_) (fun h => ?_)
  · refine x_iconst X (v := 1) dX7_noAxis_16 (by decide) ?_
    refine x_goto X 21 dX7_noAxis_17 (by decide) ?_
    refine x_sub [] rfl ?_
    exact w_X7_noAxis_21 V S1 (1 : Int32) h
  · refine x_iconst X (v := 0) dX7_noAxis_20 (by decide) ?_
    refine x_sub [] rfl ?_
    exact w_X7_noAxis_21 V S1 (0 : Int32) h
set_option maxHeartbeats 2000000 in
set_option maxRecDepth 20000 in
theorem m_X7_noAxis {l : Launch} {D : va_G} {cy : Nat → ClassId} {ad : Nat → Nat → Nat} (hi : xInj (shM cy) ad) {a1 : Int32} {S : xS} {Q : Int32 → xS → Prop} (h : wp_X7_noAxis a1 S Q) : xMet l D (xTys cy) (shM cy) ad yX7_noAxis cX7_noAxis 2 (some .boolean) (xRm 1 25) [.ref (ad 0 0), .int a1] S (xQi Q) := xMet_env hi (by decide +kernel) rfl (Nat.le_of_ble_eq_true rfl) (fun g hl V => w_X7_noAxis V h)
set_option maxHeartbeats 2000000 in
set_option maxRecDepth 20000 in
theorem w_X7_addAxis_45 {g : xG} {D : va_G} {cy : Nat → ClassId} {ad : Nat → Nat → Nat} {Q : Int32 → xS → Prop} (V : xEnv g D (xTys cy) (shM cy) ad RX7 cX7_addAxis (some .int) 1 25 5 (xQi Q)) (S : xS) (h : wp_X7_addAxis_45 Q S) : Wx g (xW D (shM cy) ad S) 45 [] [] := by
  obtain ⟨X, K, hi, hA, hR, E, hN⟩ := V
  have V := xEnv_mk X K hi hA hR E hN
  unfold wp_X7_addAxis_45 at h
  refine x_ldc X (v := -1000005) t4_138 dX7_addAxis_45 ?_
  exact x_iret X E dX7_addAxis_47 ⟨_, rfl, h⟩
set_option maxHeartbeats 2000000 in
set_option maxRecDepth 20000 in
theorem w_X7_addAxis_112_b {g : xG} {D : va_G} {cy : Nat → ClassId} {ad : Nat → Nat → Nat} {K112 : xS → Int32 → Prop} {Q : Int32 → xS → Prop} (V : xEnv g D (xTys cy) (shM cy) ad RX7 cX7_addAxis (some .int) 1 25 5 (xQi Q)) (hK112 : ∀ (S : xS) (v4 : Int32), K112 S v4 → Wx g (xW D (shM cy) ad S) 112 [(0, .ref (ad 0 0)), (4, .int v4)] []) (S : xS) (v4 : Int32) (h : wp_X7_addAxis_112_b K112 Q S v4) : Wx g (xW D (shM cy) ad S) 112 [(0, .ref (ad 0 0)), (4, .int v4)] [] := by
  obtain ⟨X, K, hi, hA, hR, E, hN⟩ := V
  have V := xEnv_mk X K hi hA hR E hN
  unfold wp_X7_addAxis_112_b at h
  refine x_iload X 1 dX7_addAxis_112 rfl ?_
  refine x_iconst X (v := 3) dX7_addAxis_114 (by decide) ?_
  refine x_icmp_ge X 170 dX7_addAxis_115 (by decide) h (fun h => ?_) (fun h => ?_)
  · refine x_aload_n X 0 dX7_addAxis_170 rfl ?_
    refine x_dup X dX7_addAxis_171 rfl ?_
    refine xg_X7_107 X K (Nat.zero_lt_one) dX7_addAxis_172 ?_
    refine x_iconst X (v := 1) dX7_addAxis_175 (by decide) ?_
    refine x_iadd X dX7_addAxis_176 ?_
    refine xp_X7_107 X K hi hA (Nat.zero_lt_one) dX7_addAxis_177 ?_
    refine x_aload_n X 0 dX7_addAxis_180 rfl ?_
    refine xg_X7_107 X K (Nat.zero_lt_one) dX7_addAxis_181 ?_
    refine x_iconst X (v := 1) dX7_addAxis_184 (by decide) ?_
    refine x_isub X dX7_addAxis_185 ?_
    exact x_iret X E dX7_addAxis_186 ⟨_, rfl, h⟩
  · refine x_aload_n X 0 dX7_addAxis_118 rfl ?_
    refine xg_X7_29 X K (Nat.zero_lt_one) dX7_addAxis_119 ?_
    refine x_bipush X (v := 8) dX7_addAxis_122 (by decide) ?_
    refine x_aload_n X 0 dX7_addAxis_124 rfl ?_
    refine xg_X7_107 X K (Nat.zero_lt_one) dX7_addAxis_125 ?_
    refine x_imul X dX7_addAxis_128 ?_
    refine x_iload X 1 dX7_addAxis_129 rfl ?_
    refine x_iadd X dX7_addAxis_131 ?_
    refine x_sipush X (v := 16384) dX7_addAxis_132 (by decide) ?_
    refine x_iload X 1 dX7_addAxis_135 rfl ?_
    refine x_iconst X (v := 1) dX7_addAxis_137 (by decide) ?_
    refine x_isub X dX7_addAxis_138 ?_
    refine x_imul X dX7_addAxis_139 ?_
    obtain ⟨hb1, h⟩ := h
    refine xs_M8 X K hi hA (show 0 < 1 by decide) hb1 dX7_addAxis_140 ?_
    refine x_aload_n X 0 dX7_addAxis_141 rfl ?_
    refine xg_X7_32 X K (Nat.zero_lt_one) dX7_addAxis_142 ?_
    refine x_bipush X (v := 8) dX7_addAxis_145 (by decide) ?_
    refine x_aload_n X 0 dX7_addAxis_147 rfl ?_
    refine xg_X7_107 X K (Nat.zero_lt_one) dX7_addAxis_148 ?_
    refine x_imul X dX7_addAxis_151 ?_
    refine x_iload X 1 dX7_addAxis_152 rfl ?_
    refine x_iadd X dX7_addAxis_154 ?_
    refine x_sipush X (v := 16384) dX7_addAxis_155 (by decide) ?_
    refine x_iload X 1 dX7_addAxis_158 rfl ?_
    refine x_iconst X (v := 1) dX7_addAxis_160 (by decide) ?_
    refine x_isub X dX7_addAxis_161 ?_
    refine x_imul X dX7_addAxis_162 ?_
    obtain ⟨hb2, h⟩ := h
    refine xs_M9 X K hi hA (show 0 < 1 by decide) hb2 dX7_addAxis_163 ?_
    refine x_iinc X 1 [(4, .int (v4 + (1 : Int32))), (0, .ref (ad 0 0))] dX7_addAxis_164 rfl rfl (by rw [hN]; decide) rfl ?_
    refine x_goto X 112 dX7_addAxis_167 (by decide) ?_
    refine x_sub [1, 0] rfl ?_
    exact hK112 (xI (xI S 8 0 (((8 : Int32) * (S.1 0 0 0)) + v4).toNatClampNeg ((16384 : Int32) * (v4 - (1 : Int32)))) 9 0 (((8 : Int32) * ((xI S 8 0 (((8 : Int32) * (S.1 0 0 0)) + v4).toNatClampNeg ((16384 : Int32) * (v4 - (1 : Int32)))).1 0 0 0)) + v4).toNatClampNeg ((16384 : Int32) * (v4 - (1 : Int32)))) (v4 + (1 : Int32)) h
set_option maxHeartbeats 2000000 in
set_option maxRecDepth 20000 in
theorem w_X7_addAxis_112 {g : xG} {D : va_G} {cy : Nat → ClassId} {ad : Nat → Nat → Nat} {Q : Int32 → xS → Prop} (V : xEnv g D (xTys cy) (shM cy) ad RX7 cX7_addAxis (some .int) 1 25 5 (xQi Q)) (n : Nat) : ∀ (S : xS) (v4 : Int32), wp_X7_addAxis_112 Q n S v4 → Wx g (xW D (shM cy) ad S) 112 [(0, .ref (ad 0 0)), (4, .int v4)] [] := by
  induction n with
  | zero => intro S v4 h; exact h.elim
  | succ n ih => intro S v4 h; exact w_X7_addAxis_112_b V (fun S v4 h => ih S v4 h) S v4 h
set_option maxHeartbeats 2000000 in
set_option maxRecDepth 20000 in
theorem w_X7_addAxis {g : xG} {D : va_G} {cy : Nat → ClassId} {ad : Nat → Nat → Nat} {a1 : Int32} {a2 : Int32} {a3 : Int32} {S : xS} {Q : Int32 → xS → Prop} (V : xEnv g D (xTys cy) (shM cy) ad RX7 cX7_addAxis (some .int) 1 25 5 (xQi Q)) (h : wp_X7_addAxis a1 a2 a3 S Q) : Wx g (xW D (shM cy) ad S) 0 [(0, .ref (ad 0 0)), (1, .int a1), (2, .int a2), (3, .int a3)] [] := by
  obtain ⟨X, K, hi, hA, hR, E, hN⟩ := V
  have V := xEnv_mk X K hi hA hR E hN
  unfold wp_X7_addAxis at h
  refine x_iload_n X 1 dX7_addAxis_0 rfl ?_
  refine x_i2l X dX7_addAxis_1 ?_
  refine x_ldc2 X (v := -100000) t4_133 dX7_addAxis_2 ?_
  refine x_ldc2 X (v := 100000) t4_134 dX7_addAxis_5 ?_
  refine x_calli hA (x_runS (n := 3) X K hR (fun _ q => q) (m_X7_in hi  h) t4_135 t4_136 t1_8 t4_137 ⟨by decide, by decide, by decide +kernel⟩ rfl (by decide) (by decide) rfl (Nat.le_of_ble_eq_true rfl) dX7_addAxis_8) (fun r2 S1 h => ?_)
  refine x_if_eq X 45 dX7_addAxis_11 (by decide) h (fun h => ?_) (fun h => ?_)
  · refine x_sub [] rfl ?_
    exact w_X7_addAxis_45 V S1 h
  · refine x_iload_n X 2 dX7_addAxis_14 rfl ?_
    refine x_i2l X dX7_addAxis_15 ?_
    refine x_iload_n X 1 dX7_addAxis_16 rfl ?_
    refine x_i2l X dX7_addAxis_17 ?_
    refine x_ldc2 X (v := 100000) t4_134 dX7_addAxis_18 ?_
    refine x_calli hA (x_runS (n := 3) X K hR (fun _ q => q) (m_X7_in hi  h) t4_135 t4_136 t1_8 t4_137 ⟨by decide, by decide, by decide +kernel⟩ rfl (by decide) (by decide) rfl (Nat.le_of_ble_eq_true rfl) dX7_addAxis_21) (fun r4 S3 h => ?_)
    refine x_if_eq X 45 dX7_addAxis_24 (by decide) h (fun h => ?_) (fun h => ?_)
    · refine x_sub [] rfl ?_
      exact w_X7_addAxis_45 V S3 h
    · refine x_iload_n X 3 dX7_addAxis_27 rfl ?_
      refine x_i2l X dX7_addAxis_28 ?_
      refine x_iload_n X 2 dX7_addAxis_29 rfl ?_
      refine x_i2l X dX7_addAxis_30 ?_
      refine x_ldc2 X (v := 100000) t4_134 dX7_addAxis_31 ?_
      refine x_calli hA (x_runS (n := 3) X K hR (fun _ q => q) (m_X7_in hi  h) t4_135 t4_136 t1_8 t4_137 ⟨by decide, by decide, by decide +kernel⟩ rfl (by decide) (by decide) rfl (Nat.le_of_ble_eq_true rfl) dX7_addAxis_34) (fun r6 S5 h => ?_)
      refine x_if_eq X 45 dX7_addAxis_37 (by decide) h (fun h => ?_) (fun h => ?_)
      · refine x_sub [] rfl ?_
        exact w_X7_addAxis_45 V S5 h
      · refine x_iload_n X 3 dX7_addAxis_40 rfl ?_
        refine x_iload_n X 1 dX7_addAxis_41 rfl ?_
        refine x_icmp_ne X 48 dX7_addAxis_42 (by decide) h (fun h => ?_) (fun h => ?_)
        · refine x_sub [] rfl ?_
          exact w_X7_addAxis_45 V S5 h
        · refine x_aload_n X 0 dX7_addAxis_48 rfl ?_
          refine xg_X7_107 X K Nat.zero_lt_one dX7_addAxis_49 ?_
          refine x_iconst X (v := 4) dX7_addAxis_52 (by decide) ?_
          refine x_icmp_ne X 59 dX7_addAxis_53 (by decide) h (fun h => ?_) (fun h => ?_)
          · refine x_ldc X (v := -1000006) t4_139 dX7_addAxis_56 ?_
            exact x_iret X E dX7_addAxis_58 ⟨_, rfl, h⟩
          · refine x_aload_n X 0 dX7_addAxis_59 rfl ?_
            refine xg_X7_7 X K Nat.zero_lt_one dX7_addAxis_60 ?_
            refine x_aload_n X 0 dX7_addAxis_63 rfl ?_
            refine xg_X7_107 X K Nat.zero_lt_one dX7_addAxis_64 ?_
            refine x_iload_n X 1 dX7_addAxis_67 rfl ?_
            obtain ⟨hb7, h⟩ := h
            refine xs_M2 X K hi hA (show 0 < 1 by decide) hb7 dX7_addAxis_68 ?_
            refine x_aload_n X 0 dX7_addAxis_69 rfl ?_
            refine xg_X7_13 X K Nat.zero_lt_one dX7_addAxis_70 ?_
            refine x_aload_n X 0 dX7_addAxis_73 rfl ?_
            refine xg_X7_107 X K Nat.zero_lt_one dX7_addAxis_74 ?_
            refine x_iload_n X 2 dX7_addAxis_77 rfl ?_
            obtain ⟨hb8, h⟩ := h
            refine xs_M3 X K hi hA (show 0 < 1 by decide) hb8 dX7_addAxis_78 ?_
            refine x_aload_n X 0 dX7_addAxis_79 rfl ?_
            refine xg_X7_16 X K Nat.zero_lt_one dX7_addAxis_80 ?_
            refine x_aload_n X 0 dX7_addAxis_83 rfl ?_
            refine xg_X7_107 X K Nat.zero_lt_one dX7_addAxis_84 ?_
            refine x_iload_n X 3 dX7_addAxis_87 rfl ?_
            obtain ⟨hb9, h⟩ := h
            refine xs_M4 X K hi hA (show 0 < 1 by decide) hb9 dX7_addAxis_88 ?_
            refine x_aload_n X 0 dX7_addAxis_89 rfl ?_
            refine xg_X7_19 X K Nat.zero_lt_one dX7_addAxis_90 ?_
            refine x_aload_n X 0 dX7_addAxis_93 rfl ?_
            refine xg_X7_107 X K Nat.zero_lt_one dX7_addAxis_94 ?_
            refine x_iconst X (v := 0) dX7_addAxis_97 (by decide) ?_
            obtain ⟨hb10, h⟩ := h
            refine xs_M5 X K hi hA (show 0 < 1 by decide) hb10 dX7_addAxis_98 ?_
            refine x_aload_n X 0 dX7_addAxis_99 rfl ?_
            refine xg_X7_26 X K Nat.zero_lt_one dX7_addAxis_100 ?_
            refine x_aload_n X 0 dX7_addAxis_103 rfl ?_
            refine xg_X7_107 X K Nat.zero_lt_one dX7_addAxis_104 ?_
            refine x_iconst X (v := 3) dX7_addAxis_107 (by decide) ?_
            obtain ⟨hb11, h⟩ := h
            refine xs_M7 X K hi hA (show 0 < 1 by decide) hb11 dX7_addAxis_108 ?_
            refine x_iconst X (v := 0) dX7_addAxis_109 (by decide) ?_
            refine x_istore X [(4, .int (0 : Int32)), (0, .ref (ad 0 0)), (1, .int a1), (2, .int a2), (3, .int a3)] dX7_addAxis_110 (by rw [hN]; decide) rfl ?_
            refine x_sub [1, 0] rfl ?_
            obtain ⟨n12, h⟩ := h
            exact w_X7_addAxis_112 V n12 (xI (xI (xI (xI (xI S5 2 0 (S5.1 0 0 0).toNatClampNeg a1) 3 0 ((xI S5 2 0 (S5.1 0 0 0).toNatClampNeg a1).1 0 0 0).toNatClampNeg a2) 4 0 ((xI (xI S5 2 0 (S5.1 0 0 0).toNatClampNeg a1) 3 0 ((xI S5 2 0 (S5.1 0 0 0).toNatClampNeg a1).1 0 0 0).toNatClampNeg a2).1 0 0 0).toNatClampNeg a3) 5 0 ((xI (xI (xI S5 2 0 (S5.1 0 0 0).toNatClampNeg a1) 3 0 ((xI S5 2 0 (S5.1 0 0 0).toNatClampNeg a1).1 0 0 0).toNatClampNeg a2) 4 0 ((xI (xI S5 2 0 (S5.1 0 0 0).toNatClampNeg a1) 3 0 ((xI S5 2 0 (S5.1 0 0 0).toNatClampNeg a1).1 0 0 0).toNatClampNeg a2).1 0 0 0).toNatClampNeg a3).1 0 0 0).toNatClampNeg (0 : Int32)) 7 0 ((xI (xI (xI (xI S5 2 0 (S5.1 0 0 0).toNatClampNeg a1) 3 0 ((xI S5 2 0 (S5.1 0 0 0).toNatClampNeg a1).1 0 0 0).toNatClampNeg a2) 4 0 ((xI (xI S5 2 0 (S5.1 0 0 0).toNatClampNeg a1) 3 0 ((xI S5 2 0 (S5.1 0 0 0).toNatClampNeg a1).1 0 0 0).toNatClampNeg a2).1 0 0 0).toNatClampNeg a3) 5 0 ((xI (xI (xI S5 2 0 (S5.1 0 0 0).toNatClampNeg a1) 3 0 ((xI S5 2 0 (S5.1 0 0 0).toNatClampNeg a1).1 0 0 0).toNatClampNeg a2) 4 0 ((xI (xI S5 2 0 (S5.1 0 0 0).toNatClampNeg a1) 3 0 ((xI S5 2 0 (S5.1 0 0 0).toNatClampNeg a1).1 0 0 0).toNatClampNeg a2).1 0 0 0).toNatClampNeg a3).1 0 0 0).toNatClampNeg (0 : Int32)).1 0 0 0).toNatClampNeg (3 : Int32)) (0 : Int32) h
set_option maxHeartbeats 2000000 in
set_option maxRecDepth 20000 in
theorem m_X7_addAxis {l : Launch} {D : va_G} {cy : Nat → ClassId} {ad : Nat → Nat → Nat} (hi : xInj (shM cy) ad) {a1 : Int32} {a2 : Int32} {a3 : Int32} {S : xS} {Q : Int32 → xS → Prop} (h : wp_X7_addAxis a1 a2 a3 S Q) : xMet l D (xTys cy) (shM cy) ad yX7_addAxis cX7_addAxis 5 (some .int) (xRm 1 25) [.ref (ad 0 0), .int a1, .int a2, .int a3] S (xQi Q) := xMet_env hi (by decide +kernel) rfl (Nat.le_of_ble_eq_true rfl) (fun g hl V => w_X7_addAxis V h)
set_option maxHeartbeats 2000000 in
set_option maxRecDepth 20000 in
theorem w_X7_addMapPair_43 {g : xG} {D : va_G} {cy : Nat → ClassId} {ad : Nat → Nat → Nat} {Q : Int32 → xS → Prop} (V : xEnv g D (xTys cy) (shM cy) ad RX7 cX7_addMapPair (some .int) 2 46 8 (xQi Q)) (S : xS) (h : wp_X7_addMapPair_43 Q S) : Wx g (xW D (shM cy) ad S) 43 [] [] := by
  obtain ⟨X, K, hi, hA, hR, E, hN⟩ := V
  have V := xEnv_mk X K hi hA hR E hN
  unfold wp_X7_addMapPair_43 at h
  refine x_ldc X (v := -1000005) t4_138 dX7_addMapPair_43 ?_
  exact x_iret X E dX7_addMapPair_45 ⟨_, rfl, h⟩
set_option maxHeartbeats 2000000 in
set_option maxRecDepth 20000 in
theorem w_X7_addMapPair_127 {g : xG} {D : va_G} {cy : Nat → ClassId} {ad : Nat → Nat → Nat} {Q : Int32 → xS → Prop} (V : xEnv g D (xTys cy) (shM cy) ad RX7 cX7_addMapPair (some .int) 2 46 8 (xQi Q)) (S : xS) (h : wp_X7_addMapPair_127 Q S) : Wx g (xW D (shM cy) ad S) 127 [] [] := by
  obtain ⟨X, K, hi, hA, hR, E, hN⟩ := V
  have V := xEnv_mk X K hi hA hR E hN
  unfold wp_X7_addMapPair_127 at h
  refine x_ldc X (v := -1000005) t4_138 dX7_addMapPair_127 ?_
  exact x_iret X E dX7_addMapPair_129 ⟨_, rfl, h⟩
set_option maxHeartbeats 2000000 in
set_option maxRecDepth 20000 in
theorem w_X7_addMapPair_222 {g : xG} {D : va_G} {cy : Nat → ClassId} {ad : Nat → Nat → Nat} {a1 : Int32} {a2 : Int32} {a3 : Int32} {Q : Int32 → xS → Prop} (V : xEnv g D (xTys cy) (shM cy) ad RX7 cX7_addMapPair (some .int) 2 46 8 (xQi Q)) (S : xS) (v4 : Int32) (h : wp_X7_addMapPair_222 a1 a2 a3 Q S v4) : Wx g (xW D (shM cy) ad S) 222 [(0, .ref (ad 0 0)), (1, .int a1), (2, .int a2), (3, .int a3), (4, .int v4)] [] := by
  obtain ⟨X, K, hi, hA, hR, E, hN⟩ := V
  have V := xEnv_mk X K hi hA hR E hN
  unfold wp_X7_addMapPair_222 at h
  refine x_aload_n X 0 dX7_addMapPair_222 rfl ?_
  refine xg_X7_29 X K (Nat.zero_lt_one) dX7_addMapPair_223 ?_
  refine x_iload X 4 dX7_addMapPair_226 rfl ?_
  refine x_iload_n X 2 dX7_addMapPair_228 rfl ?_
  obtain ⟨hb1, h⟩ := h
  refine xs_M8 X K hi hA (show 0 < 1 by decide) hb1 dX7_addMapPair_229 ?_
  refine x_aload_n X 0 dX7_addMapPair_230 rfl ?_
  refine xg_X7_32 X K (Nat.zero_lt_one) dX7_addMapPair_231 ?_
  refine x_iload X 4 dX7_addMapPair_234 rfl ?_
  refine x_iload_n X 3 dX7_addMapPair_236 rfl ?_
  obtain ⟨hb2, h⟩ := h
  refine xs_M9 X K hi hA (show 0 < 1 by decide) hb2 dX7_addMapPair_237 ?_
  refine x_aload_n X 0 dX7_addMapPair_238 rfl ?_
  refine xg_X7_26 X K (Nat.zero_lt_one) dX7_addMapPair_239 ?_
  refine x_iload_n X 1 dX7_addMapPair_242 rfl ?_
  obtain ⟨hb3, h⟩ := h
  refine xa_M7 X K (show 0 < 1 by decide) hb3 dX7_addMapPair_243 ?_
  exact x_iret X E dX7_addMapPair_244 ⟨_, rfl, h⟩
set_option maxHeartbeats 2000000 in
set_option maxRecDepth 20000 in
theorem w_X7_addMapPair_167_b {g : xG} {D : va_G} {cy : Nat → ClassId} {ad : Nat → Nat → Nat} {a1 : Int32} {a2 : Int32} {a3 : Int32} {K167 : xS → Int32 → Int32 → Prop} {Q : Int32 → xS → Prop} (V : xEnv g D (xTys cy) (shM cy) ad RX7 cX7_addMapPair (some .int) 2 46 8 (xQi Q)) (hK167 : ∀ (S : xS) (v4 : Int32) (v7 : Int32), K167 S v4 v7 → Wx g (xW D (shM cy) ad S) 167 [(0, .ref (ad 0 0)), (1, .int a1), (2, .int a2), (3, .int a3), (4, .int v4), (7, .int v7)] []) (S : xS) (v4 : Int32) (v7 : Int32) (h : wp_X7_addMapPair_167_b a1 a2 a3 K167 Q S v4 v7) : Wx g (xW D (shM cy) ad S) 167 [(0, .ref (ad 0 0)), (1, .int a1), (2, .int a2), (3, .int a3), (4, .int v4), (7, .int v7)] [] := by
  obtain ⟨X, K, hi, hA, hR, E, hN⟩ := V
  have V := xEnv_mk X K hi hA hR E hN
  unfold wp_X7_addMapPair_167_b at h
  refine x_iload X 5 dX7_addMapPair_167 rfl ?_
  refine x_iload X 4 dX7_addMapPair_169 rfl ?_
  refine x_icmp_le X 212 dX7_addMapPair_171 (by decide) h (fun h => ?_) (fun h => ?_)
  · refine x_aload_n X 0 dX7_addMapPair_212 rfl ?_
    refine xg_X7_26 X K (Nat.zero_lt_one) dX7_addMapPair_213 ?_
    refine x_iload_n X 1 dX7_addMapPair_216 rfl ?_
    refine x_dup2 X dX7_addMapPair_217 rfl rfl ?_
    obtain ⟨hb1, h⟩ := h
    refine xa_M7 X K (show 0 < 1 by decide) hb1 dX7_addMapPair_218 ?_
    refine x_iconst X (v := 1) dX7_addMapPair_219 (by decide) ?_
    refine x_iadd X dX7_addMapPair_220 ?_
    obtain ⟨hb2, h⟩ := h
    refine xs_M7 X K hi hA (show 0 < 1 by decide) hb2 dX7_addMapPair_221 ?_
    refine x_sub [0, 1, 2, 3, 4] rfl ?_
    exact w_X7_addMapPair_222 V (xI S 7 0 a1.toNatClampNeg ((S.1 7 0 a1.toNatClampNeg) + (1 : Int32))) v4 h
  · refine x_aload_n X 0 dX7_addMapPair_174 rfl ?_
    refine xg_X7_29 X K (Nat.zero_lt_one) dX7_addMapPair_175 ?_
    refine x_iload X 5 dX7_addMapPair_178 rfl ?_
    refine x_aload_n X 0 dX7_addMapPair_180 rfl ?_
    refine xg_X7_29 X K (Nat.zero_lt_one) dX7_addMapPair_181 ?_
    refine x_iload X 5 dX7_addMapPair_184 rfl ?_
    refine x_iconst X (v := 1) dX7_addMapPair_186 (by decide) ?_
    refine x_isub X dX7_addMapPair_187 ?_
    obtain ⟨hb3, h⟩ := h
    refine xa_M8 X K (show 0 < 1 by decide) hb3 dX7_addMapPair_188 ?_
    obtain ⟨hb4, h⟩ := h
    refine xs_M8 X K hi hA (show 0 < 1 by decide) hb4 dX7_addMapPair_189 ?_
    refine x_aload_n X 0 dX7_addMapPair_190 rfl ?_
    refine xg_X7_32 X K (Nat.zero_lt_one) dX7_addMapPair_191 ?_
    refine x_iload X 5 dX7_addMapPair_194 rfl ?_
    refine x_aload_n X 0 dX7_addMapPair_196 rfl ?_
    refine xg_X7_32 X K (Nat.zero_lt_one) dX7_addMapPair_197 ?_
    refine x_iload X 5 dX7_addMapPair_200 rfl ?_
    refine x_iconst X (v := 1) dX7_addMapPair_202 (by decide) ?_
    refine x_isub X dX7_addMapPair_203 ?_
    obtain ⟨hb5, h⟩ := h
    refine xa_M9 X K (show 0 < 1 by decide) hb5 dX7_addMapPair_204 ?_
    obtain ⟨hb6, h⟩ := h
    refine xs_M9 X K hi hA (show 0 < 1 by decide) hb6 dX7_addMapPair_205 ?_
    refine x_iinc X 5 [(7, .int (v7 + (-1 : Int32))), (0, .ref (ad 0 0)), (1, .int a1), (2, .int a2), (3, .int a3), (4, .int v4)] dX7_addMapPair_206 rfl rfl (by rw [hN]; decide) rfl ?_
    refine x_goto X 167 dX7_addMapPair_209 (by decide) ?_
    refine x_sub [1, 2, 3, 4, 5, 0] rfl ?_
    exact hK167 (xI (xI S 8 0 v7.toNatClampNeg (S.1 8 0 (v7 - (1 : Int32)).toNatClampNeg)) 9 0 v7.toNatClampNeg ((xI S 8 0 v7.toNatClampNeg (S.1 8 0 (v7 - (1 : Int32)).toNatClampNeg)).1 9 0 (v7 - (1 : Int32)).toNatClampNeg)) v4 (v7 + (-1 : Int32)) h
set_option maxHeartbeats 2000000 in
set_option maxRecDepth 20000 in
theorem w_X7_addMapPair_167 {g : xG} {D : va_G} {cy : Nat → ClassId} {ad : Nat → Nat → Nat} {a1 : Int32} {a2 : Int32} {a3 : Int32} {Q : Int32 → xS → Prop} (V : xEnv g D (xTys cy) (shM cy) ad RX7 cX7_addMapPair (some .int) 2 46 8 (xQi Q)) (n : Nat) : ∀ (S : xS) (v4 : Int32) (v7 : Int32), wp_X7_addMapPair_167 a1 a2 a3 Q n S v4 v7 → Wx g (xW D (shM cy) ad S) 167 [(0, .ref (ad 0 0)), (1, .int a1), (2, .int a2), (3, .int a3), (4, .int v4), (7, .int v7)] [] := by
  induction n with
  | zero => intro S v4 v7 h; exact h.elim
  | succ n ih => intro S v4 v7 h; exact w_X7_addMapPair_167_b V (fun S v4 v7 h => ih S v4 v7 h) S v4 v7 h
set_option maxHeartbeats 2000000 in
set_option maxRecDepth 20000 in
theorem w_X7_addMapPair_149 {g : xG} {D : va_G} {cy : Nat → ClassId} {ad : Nat → Nat → Nat} {a1 : Int32} {a2 : Int32} {a3 : Int32} {Q : Int32 → xS → Prop} (V : xEnv g D (xTys cy) (shM cy) ad RX7 cX7_addMapPair (some .int) 2 46 8 (xQi Q)) (S : xS) (v4 : Int32) (v5 : Int32) (h : wp_X7_addMapPair_149 a1 a2 a3 Q S v4 v5) : Wx g (xW D (shM cy) ad S) 149 [(0, .ref (ad 0 0)), (1, .int a1), (2, .int a2), (3, .int a3), (4, .int v4), (5, .int v5)] [] := by
  obtain ⟨X, K, hi, hA, hR, E, hN⟩ := V
  have V := xEnv_mk X K hi hA hR E hN
  unfold wp_X7_addMapPair_149 at h
  refine x_iload X 5 dX7_addMapPair_149 rfl ?_
  refine x_if_ne X 222 dX7_addMapPair_151 (by decide) h (fun h => ?_) (fun h => ?_)
  · refine x_bipush X (v := 8) dX7_addMapPair_154 (by decide) ?_
    refine x_iload_n X 1 dX7_addMapPair_156 rfl ?_
    refine x_imul X dX7_addMapPair_157 ?_
    refine x_aload_n X 0 dX7_addMapPair_158 rfl ?_
    refine xg_X7_26 X K (Nat.zero_lt_one) dX7_addMapPair_159 ?_
    refine x_iload_n X 1 dX7_addMapPair_162 rfl ?_
    obtain ⟨hb1, h⟩ := h
    refine xa_M7 X K (show 0 < 1 by decide) hb1 dX7_addMapPair_163 ?_
    refine x_iadd X dX7_addMapPair_164 ?_
    refine x_istore X [(7, .int (((8 : Int32) * a1) + (S.1 7 0 a1.toNatClampNeg))), (0, .ref (ad 0 0)), (1, .int a1), (2, .int a2), (3, .int a3), (4, .int v4), (5, .int v5)] dX7_addMapPair_165 (by rw [hN]; decide) rfl ?_
    refine x_sub [1, 2, 3, 4, 5, 0] rfl ?_
    obtain ⟨n2, h⟩ := h
    exact w_X7_addMapPair_167 V n2 S v4 (((8 : Int32) * a1) + (S.1 7 0 a1.toNatClampNeg)) h
  · refine x_sub [0, 1, 2, 3, 4] rfl ?_
    exact w_X7_addMapPair_222 V S v4 h
set_option maxHeartbeats 2000000 in
set_option maxRecDepth 20000 in
theorem w_X7_addMapPair_101 {g : xG} {D : va_G} {cy : Nat → ClassId} {ad : Nat → Nat → Nat} {a1 : Int32} {a2 : Int32} {a3 : Int32} {Q : Int32 → xS → Prop} (V : xEnv g D (xTys cy) (shM cy) ad RX7 cX7_addMapPair (some .int) 2 46 8 (xQi Q)) (S : xS) (v4 : Int32) (v5 : Int32) (s0 : Int32) (h : wp_X7_addMapPair_101 a1 a2 a3 Q S v4 v5 s0) : Wx g (xW D (shM cy) ad S) 101 [(0, .ref (ad 0 0)), (1, .int a1), (2, .int a2), (3, .int a3), (4, .int v4), (5, .int v5)] [.int s0] := by
  obtain ⟨X, K, hi, hA, hR, E, hN⟩ := V
  have V := xEnv_mk X K hi hA hR E hN
  unfold wp_X7_addMapPair_101 at h
  refine x_istore X [(6, .int s0), (0, .ref (ad 0 0)), (1, .int a1), (2, .int a2), (3, .int a3), (4, .int v4), (5, .int v5)] dX7_addMapPair_101 (by rw [hN]; decide) rfl ?_
  refine x_iload_n X 4 dX7_addMapPair_103 rfl ?_
  refine x_aload_n X 1 dX7_addMapPair_104 rfl ?_
  refine xg_X7_32 X K (Nat.zero_lt_one) dX7_addMapPair_105 ?_
  refine x_iload X 5 dX7_addMapPair_108 rfl ?_
  refine x_iconst X (v := 1) dX7_addMapPair_110 (by decide) ?_
  refine x_isub X dX7_addMapPair_111 ?_
  obtain ⟨hb1, h⟩ := h
  refine xa_M9 X K (show 0 < 1 by decide) hb1 dX7_addMapPair_112 ?_
  refine x_icmp_lt X 127 dX7_addMapPair_113 (by decide) h (fun h => ?_) (fun h => ?_)
  · refine x_sub [] rfl ?_
    exact w_X7_addMapPair_127 V S h
  · refine x_iload_n X 4 dX7_addMapPair_116 rfl ?_
    refine x_aload_n X 1 dX7_addMapPair_117 rfl ?_
    refine xg_X7_32 X K (Nat.zero_lt_one) dX7_addMapPair_118 ?_
    refine x_iload X 0 dX7_addMapPair_121 rfl ?_
    obtain ⟨hb2, h⟩ := h
    refine xa_M9 X K (show 0 < 1 by decide) hb2 dX7_addMapPair_123 ?_
    refine x_icmp_le X 130 dX7_addMapPair_124 (by decide) h (fun h => ?_) (fun h => ?_)
    · refine x_iload X 6 dX7_addMapPair_130 rfl ?_
      refine x_if_ne X 149 dX7_addMapPair_132 (by decide) h (fun h => ?_) (fun h => ?_)
      · refine x_aload_n X 1 dX7_addMapPair_135 rfl ?_
        refine xg_X7_26 X K (Nat.zero_lt_one) dX7_addMapPair_136 ?_
        refine x_iload_n X 2 dX7_addMapPair_139 rfl ?_
        obtain ⟨hb3, h⟩ := h
        refine xa_M7 X K (show 0 < 1 by decide) hb3 dX7_addMapPair_140 ?_
        refine x_bipush X (v := 8) dX7_addMapPair_141 (by decide) ?_
        refine x_icmp_ne X 149 dX7_addMapPair_143 (by decide) h (fun h => ?_) (fun h => ?_)
        · refine x_ldc X (v := -1000006) t4_139 dX7_addMapPair_146 ?_
          exact x_iret X E dX7_addMapPair_148 ⟨_, rfl, h⟩
        · refine x_sub [1, 2, 3, 4, 5, 6] rfl ?_
          exact w_X7_addMapPair_149 V S v4 v5 h
      · refine x_sub [1, 2, 3, 4, 5, 6] rfl ?_
        exact w_X7_addMapPair_149 V S v4 v5 h
    · refine x_sub [] rfl ?_
      exact w_X7_addMapPair_127 V S h
set_option maxHeartbeats 2000000 in
set_option maxRecDepth 20000 in
theorem w_X7_addMapPair_85 {g : xG} {D : va_G} {cy : Nat → ClassId} {ad : Nat → Nat → Nat} {a1 : Int32} {a2 : Int32} {a3 : Int32} {Q : Int32 → xS → Prop} (V : xEnv g D (xTys cy) (shM cy) ad RX7 cX7_addMapPair (some .int) 2 46 8 (xQi Q)) (S : xS) (v4 : Int32) (s0 : Int32) (h : wp_X7_addMapPair_85 a1 a2 a3 Q S v4 s0) : Wx g (xW D (shM cy) ad S) 85 [(0, .ref (ad 0 0)), (1, .int a1), (2, .int a2), (3, .int a3), (4, .int v4)] [.int s0] := by
  obtain ⟨X, K, hi, hA, hR, E, hN⟩ := V
  have V := xEnv_mk X K hi hA hR E hN
  unfold wp_X7_addMapPair_85 at h
  refine x_istore X [(5, .int s0), (0, .ref (ad 0 0)), (1, .int a1), (2, .int a2), (3, .int a3), (4, .int v4)] dX7_addMapPair_85 (by rw [hN]; decide) rfl ?_
  refine x_iload X 0 dX7_addMapPair_87 rfl ?_
  refine x_if_eq X 99 dX7_addMapPair_89 (by decide) h (fun h => ?_) (fun h => ?_)
  · refine x_iload X 5 dX7_addMapPair_99 rfl ?_
    refine x_sub [1, 2, 3, 4, 5, 0] rfl ?_
    exact w_X7_addMapPair_101 V S v4 s0 v4 h
  · refine x_iload X 5 dX7_addMapPair_92 rfl ?_
    refine x_iconst X (v := 1) dX7_addMapPair_94 (by decide) ?_
    refine x_iadd X dX7_addMapPair_95 ?_
    refine x_goto X 101 dX7_addMapPair_96 (by decide) ?_
    refine x_sub [1, 2, 3, 4, 5, 0] rfl ?_
    exact w_X7_addMapPair_101 V S v4 s0 (v4 + (1 : Int32)) h
set_option maxHeartbeats 2000000 in
set_option maxRecDepth 20000 in
theorem w_X7_addMapPair_52_b {g : xG} {D : va_G} {cy : Nat → ClassId} {ad : Nat → Nat → Nat} {a1 : Int32} {a2 : Int32} {a3 : Int32} {K52 : xS → Int32 → Prop} {Q : Int32 → xS → Prop} (V : xEnv g D (xTys cy) (shM cy) ad RX7 cX7_addMapPair (some .int) 2 46 8 (xQi Q)) (hK52 : ∀ (S : xS) (v4 : Int32), K52 S v4 → Wx g (xW D (shM cy) ad S) 52 [(0, .ref (ad 0 0)), (1, .int a1), (2, .int a2), (3, .int a3), (4, .int v4)] []) (S : xS) (v4 : Int32) (h : wp_X7_addMapPair_52_b a1 a2 a3 K52 Q S v4) : Wx g (xW D (shM cy) ad S) 52 [(0, .ref (ad 0 0)), (1, .int a1), (2, .int a2), (3, .int a3), (4, .int v4)] [] := by
  obtain ⟨X, K, hi, hA, hR, E, hN⟩ := V
  have V := xEnv_mk X K hi hA hR E hN
  unfold wp_X7_addMapPair_52_b at h
  refine x_aload_n X 0 dX7_addMapPair_52 rfl ?_
  refine xg_X7_29 X K (Nat.zero_lt_one) dX7_addMapPair_53 ?_
  refine x_iload X 4 dX7_addMapPair_56 rfl ?_
  obtain ⟨hb1, h⟩ := h
  refine xa_M8 X K (show 0 < 1 by decide) hb1 dX7_addMapPair_58 ?_
  refine x_iload_n X 2 dX7_addMapPair_59 rfl ?_
  refine x_icmp_ge X 69 dX7_addMapPair_60 (by decide) h (fun h => ?_) (fun h => ?_)
  · refine x_aload_n X 0 dX7_addMapPair_69 rfl ?_
    refine xg_X7_29 X K (Nat.zero_lt_one) dX7_addMapPair_70 ?_
    refine x_iload X 4 dX7_addMapPair_73 rfl ?_
    obtain ⟨hb2, h⟩ := h
    refine xa_M8 X K (show 0 < 1 by decide) hb2 dX7_addMapPair_75 ?_
    refine x_iload_n X 2 dX7_addMapPair_76 rfl ?_
    refine x_icmp_ne X 84 dX7_addMapPair_77 (by decide) h (fun h => ?_) (fun h => ?_)
    · refine x_iconst X (v := 1) dX7_addMapPair_80 (by decide) ?_
      refine x_goto X 85 dX7_addMapPair_81 (by decide) ?_
      refine x_sub [0, 1, 2, 3, 4] rfl ?_
      exact w_X7_addMapPair_85 V S v4 (1 : Int32) h
    · refine x_iconst X (v := 0) dX7_addMapPair_84 (by decide) ?_
      refine x_sub [0, 1, 2, 3, 4] rfl ?_
      exact w_X7_addMapPair_85 V S v4 (0 : Int32) h
  · refine x_iinc X 4 [(4, .int (v4 + (1 : Int32))), (0, .ref (ad 0 0)), (1, .int a1), (2, .int a2), (3, .int a3)] dX7_addMapPair_63 rfl rfl (by rw [hN]; decide) rfl ?_
    refine x_goto X 52 dX7_addMapPair_66 (by decide) ?_
    refine x_sub [1, 2, 3, 4, 0] rfl ?_
    exact hK52 S (v4 + (1 : Int32)) h
set_option maxHeartbeats 2000000 in
set_option maxRecDepth 20000 in
theorem w_X7_addMapPair_52 {g : xG} {D : va_G} {cy : Nat → ClassId} {ad : Nat → Nat → Nat} {a1 : Int32} {a2 : Int32} {a3 : Int32} {Q : Int32 → xS → Prop} (V : xEnv g D (xTys cy) (shM cy) ad RX7 cX7_addMapPair (some .int) 2 46 8 (xQi Q)) (n : Nat) : ∀ (S : xS) (v4 : Int32), wp_X7_addMapPair_52 a1 a2 a3 Q n S v4 → Wx g (xW D (shM cy) ad S) 52 [(0, .ref (ad 0 0)), (1, .int a1), (2, .int a2), (3, .int a3), (4, .int v4)] [] := by
  induction n with
  | zero => intro S v4 h; exact h.elim
  | succ n ih => intro S v4 h; exact w_X7_addMapPair_52_b V (fun S v4 h => ih S v4 h) S v4 h
set_option maxHeartbeats 2000000 in
set_option maxRecDepth 20000 in
theorem w_X7_addMapPair {g : xG} {D : va_G} {cy : Nat → ClassId} {ad : Nat → Nat → Nat} {a1 : Int32} {a2 : Int32} {a3 : Int32} {S : xS} {Q : Int32 → xS → Prop} (V : xEnv g D (xTys cy) (shM cy) ad RX7 cX7_addMapPair (some .int) 2 46 8 (xQi Q)) (h : wp_X7_addMapPair a1 a2 a3 S Q) : Wx g (xW D (shM cy) ad S) 0 [(0, .ref (ad 0 0)), (1, .int a1), (2, .int a2), (3, .int a3)] [] := by
  obtain ⟨X, K, hi, hA, hR, E, hN⟩ := V
  have V := xEnv_mk X K hi hA hR E hN
  unfold wp_X7_addMapPair at h
  refine x_aload_n X 0 dX7_addMapPair_0 rfl ?_
  refine x_iload_n X 1 dX7_addMapPair_1 rfl ?_
  refine x_calli hA (x_runV (n := 1) (sh := shM cy) X K hR (fun _ q => q) (m_X7_noAxis hi  h) (kM_0 cy Nat.zero_lt_one) rfl rfl t4_144 t4_146 tp_26 t1_8 t4_147 ⟨by decide, by decide, by decide +kernel⟩ rfl (by decide) (by decide) rfl (Nat.le_of_ble_eq_true rfl) dX7_addMapPair_2) (fun r2 S1 h => ?_)
  refine x_if_eq X 11 dX7_addMapPair_5 (by decide) h (fun h => ?_) (fun h => ?_)
  · refine x_iload_n X 2 dX7_addMapPair_11 rfl ?_
    refine x_i2l X dX7_addMapPair_12 ?_
    refine x_ldc2 X (v := -16383) t4_149 dX7_addMapPair_13 ?_
    refine x_ldc2 X (v := 16383) t4_150 dX7_addMapPair_16 ?_
    refine x_calli hA (x_runS (n := 3) X K hR (fun _ q => q) (m_X7_in hi  h) t4_135 t4_136 t1_8 t4_137 ⟨by decide, by decide, by decide +kernel⟩ rfl (by decide) (by decide) rfl (Nat.le_of_ble_eq_true rfl) dX7_addMapPair_19) (fun r4 S3 h => ?_)
    refine x_if_eq X 43 dX7_addMapPair_22 (by decide) h (fun h => ?_) (fun h => ?_)
    · refine x_sub [] rfl ?_
      exact w_X7_addMapPair_43 V S3 h
    · refine x_iload_n X 2 dX7_addMapPair_25 rfl ?_
      refine x_if_eq X 43 dX7_addMapPair_26 (by decide) h (fun h => ?_) (fun h => ?_)
      · refine x_sub [] rfl ?_
        exact w_X7_addMapPair_43 V S3 h
      · refine x_iload_n X 3 dX7_addMapPair_29 rfl ?_
        refine x_i2l X dX7_addMapPair_30 ?_
        refine x_ldc2 X (v := -16384) t4_151 dX7_addMapPair_31 ?_
        refine x_ldc2 X (v := 16384) t4_152 dX7_addMapPair_34 ?_
        refine x_calli hA (x_runS (n := 3) X K hR (fun _ q => q) (m_X7_in hi  h) t4_135 t4_136 t1_8 t4_137 ⟨by decide, by decide, by decide +kernel⟩ rfl (by decide) (by decide) rfl (Nat.le_of_ble_eq_true rfl) dX7_addMapPair_37) (fun r6 S5 h => ?_)
        refine x_if_ne X 46 dX7_addMapPair_40 (by decide) h (fun h => ?_) (fun h => ?_)
        · refine x_sub [] rfl ?_
          exact w_X7_addMapPair_43 V S5 h
        · refine x_bipush X (v := 8) dX7_addMapPair_46 (by decide) ?_
          refine x_iload_n X 1 dX7_addMapPair_48 rfl ?_
          refine x_imul X dX7_addMapPair_49 ?_
          refine x_istore X [(4, .int ((8 : Int32) * a1)), (0, .ref (ad 0 0)), (1, .int a1), (2, .int a2), (3, .int a3)] dX7_addMapPair_50 (by rw [hN]; decide) rfl ?_
          refine x_sub [1, 2, 3, 4, 0] rfl ?_
          obtain ⟨n7, h⟩ := h
          exact w_X7_addMapPair_52 V n7 S5 ((8 : Int32) * a1) h
  · refine x_ldc X (v := -1000001) t4_148 dX7_addMapPair_8 ?_
    exact x_iret X E dX7_addMapPair_10 ⟨_, rfl, h⟩
set_option maxHeartbeats 2000000 in
set_option maxRecDepth 20000 in
theorem m_X7_addMapPair {l : Launch} {D : va_G} {cy : Nat → ClassId} {ad : Nat → Nat → Nat} (hi : xInj (shM cy) ad) {a1 : Int32} {a2 : Int32} {a3 : Int32} {S : xS} {Q : Int32 → xS → Prop} (h : wp_X7_addMapPair a1 a2 a3 S Q) : xMet l D (xTys cy) (shM cy) ad yX7_addMapPair cX7_addMapPair 8 (some .int) (xRm 2 46) [.ref (ad 0 0), .int a1, .int a2, .int a3] S (xQi Q) := xMet_env hi (by decide +kernel) rfl (Nat.le_of_ble_eq_true rfl) (fun g hl V => w_X7_addMapPair V h)
