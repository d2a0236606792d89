set_option maxHeartbeats 2000000 in
set_option maxRecDepth 20000 in
theorem w_X7_noTuple_23 {g : xG} {D : va_G} {cy : Nat → ClassId} {ad : Nat → Nat → Nat} {Q : Int32 → xS → Prop} (V : xEnv g D (xTys cy) (shM cy) ad RX7 cX7_noTuple (some .boolean) 1 25 3 (xQi Q)) (S : xS) (s0 : Int32) (h : wp_X7_noTuple_23 Q S s0) : Wx g (xW D (shM cy) ad S) 23 [] [.int s0] := by
  obtain ⟨X, K, hi, hA, hR, E, hN⟩ := V
  have V := xEnv_mk X K hi hA hR E hN
  unfold wp_X7_noTuple_23 at h
  exact x_zret X E dX7_noTuple_23 h.1 ⟨_, rfl, h.2⟩
set_option maxHeartbeats 2000000 in
set_option maxRecDepth 20000 in
theorem w_X7_noTuple {g : xG} {D : va_G} {cy : Nat → ClassId} {ad : Nat → Nat → Nat} {a1 : Int32} {a2 : Int32} {S : xS} {Q : Int32 → xS → Prop} (V : xEnv g D (xTys cy) (shM cy) ad RX7 cX7_noTuple (some .boolean) 1 25 3 (xQi Q)) (h : wp_X7_noTuple a1 a2 S Q) : Wx g (xW D (shM cy) ad S) 0 [(0, .ref (ad 0 0)), (1, .int a1), (2, .int a2)] [] := by
  obtain ⟨X, K, hi, hA, hR, E, hN⟩ := V
  have V := xEnv_mk X K hi hA hR E hN
  unfold wp_X7_noTuple at h
  refine x_iload_n X 2 dX7_noTuple_0 rfl ?_
  refine x_i2l X dX7_noTuple_1 ?_
  refine x_lconst X (v := 0) dX7_noTuple_2 (by decide) ?_
  refine x_aload_n X 0 dX7_noTuple_3 rfl ?_
  refine x_iload_n X 1 dX7_noTuple_4 rfl ?_
  refine x_iconst X (v := 3) dX7_noTuple_5 (by decide) ?_
  refine x_calli hA (x_runV (n := 2) (sh := shM cy) X K hR (fun _ q => q) (m_X7_of hi  h) (kM_0 cy Nat.zero_lt_one) rfl rfl t4_208 t4_210 tp_31 t1_8 t4_211 ⟨by decide, by decide, by decide +kernel⟩ rfl (by decide) (by decide) rfl (Nat.le_of_ble_eq_true rfl) dX7_noTuple_6) (fun r2 S1 h => ?_)
  refine x_i2l X dX7_noTuple_9 ?_
  refine x_lconst X (v := 1) dX7_noTuple_10 (by decide) ?_
  refine x_lsub X dX7_noTuple_11 ?_
  refine x_calli hA (x_runS (n := 3) X K hR (fun _ q => q) (m_X7_in hi  h) t4_135 t4_136 t1_8 t4_137 ⟨by decide, by decide, by decide +kernel⟩ rfl (by decide) (by decide) rfl (Nat.le_of_ble_eq_true rfl) dX7_noTuple_12) (fun r4 S3 h => ?_)
  refine x_if_ne X 22 dX7_noTuple_15 (by decide) h (fun h => ?_) (fun h => ?_)
  · refine x_iconst X (v := 1) dX7_noTuple_18 (by decide) ?_
    refine x_goto X 23 dX7_noTuple_19 (by decide) ?_
    refine x_sub [] rfl ?_
    exact w_X7_noTuple_23 V S3 (1 : Int32) h
  · refine x_iconst X (v := 0) dX7_noTuple_22 (by decide) ?_
    refine x_sub [] rfl ?_
    exact w_X7_noTuple_23 V S3 (0 : Int32) h
set_option maxHeartbeats 2000000 in
set_option maxRecDepth 20000 in
theorem m_X7_noTuple {l : Launch} {D : va_G} {cy : Nat → ClassId} {ad : Nat → Nat → Nat} (hi : xInj (shM cy) ad) {a1 : Int32} {a2 : Int32} {S : xS} {Q : Int32 → xS → Prop} (h : wp_X7_noTuple a1 a2 S Q) : xMet l D (xTys cy) (shM cy) ad yX7_noTuple cX7_noTuple 3 (some .boolean) (xRm 1 25) [.ref (ad 0 0), .int a1, .int a2] S (xQi Q) := xMet_env hi (by decide +kernel) rfl (Nat.le_of_ble_eq_true rfl) (fun g hl V => w_X7_noTuple V h)
set_option maxHeartbeats 2000000 in
set_option maxRecDepth 20000 in
theorem w_X7_noPoint_25 {g : xG} {D : va_G} {cy : Nat → ClassId} {ad : Nat → Nat → Nat} {Q : Int32 → xS → Prop} (V : xEnv g D (xTys cy) (shM cy) ad RX7 cX7_noPoint (some .boolean) 1 25 3 (xQi Q)) (S : xS) (s0 : Int32) (h : wp_X7_noPoint_25 Q S s0) : Wx g (xW D (shM cy) ad S) 25 [] [.int s0] := by
  obtain ⟨X, K, hi, hA, hR, E, hN⟩ := V
  have V := xEnv_mk X K hi hA hR E hN
  unfold wp_X7_noPoint_25 at h
  exact x_zret X E dX7_noPoint_25 h.1 ⟨_, rfl, h.2⟩
set_option maxHeartbeats 2000000 in
set_option maxRecDepth 20000 in
theorem w_X7_noPoint {g : xG} {D : va_G} {cy : Nat → ClassId} {ad : Nat → Nat → Nat} {a1 : Int32} {a2 : Int32} {S : xS} {Q : Int32 → xS → Prop} (V : xEnv g D (xTys cy) (shM cy) ad RX7 cX7_noPoint (some .boolean) 1 25 3 (xQi Q)) (h : wp_X7_noPoint a1 a2 S Q) : Wx g (xW D (shM cy) ad S) 0 [(0, .ref (ad 0 0)), (1, .int a1), (2, .int a2)] [] := by
  obtain ⟨X, K, hi, hA, hR, E, hN⟩ := V
  have V := xEnv_mk X K hi hA hR E hN
  unfold wp_X7_noPoint at h
  refine x_iload_n X 2 dX7_noPoint_0 rfl ?_
  refine x_i2l X dX7_noPoint_1 ?_
  refine x_ldc2 X (v := -1) t5_24 dX7_noPoint_2 ?_
  refine x_aload_n X 0 dX7_noPoint_5 rfl ?_
  refine x_iload_n X 1 dX7_noPoint_6 rfl ?_
  refine x_iconst X (v := 2) dX7_noPoint_7 (by decide) ?_
  refine x_calli hA (x_runV (n := 2) (sh := shM cy) X K hR (fun _ q => q) (m_X7_of hi  h) (kM_0 cy Nat.zero_lt_one) rfl rfl t4_208 t4_210 tp_31 t1_8 t4_211 ⟨by decide, by decide, by decide +kernel⟩ rfl (by decide) (by decide) rfl (Nat.le_of_ble_eq_true rfl) dX7_noPoint_8) (fun r2 S1 h => ?_)
  refine x_i2l X dX7_noPoint_11 ?_
  refine x_lconst X (v := 1) dX7_noPoint_12 (by decide) ?_
  refine x_lsub X dX7_noPoint_13 ?_
  refine x_calli hA (x_runS (n := 3) X K hR (fun _ q => q) (m_X7_in hi  h) t4_135 t4_136 t1_8 t4_137 ⟨by decide, by decide, by decide +kernel⟩ rfl (by decide) (by decide) rfl (Nat.le_of_ble_eq_true rfl) dX7_noPoint_14) (fun r4 S3 h => ?_)
  refine x_if_ne X 24 dX7_noPoint_17 (by decide) h (fun h => ?_) (fun h => ?_)
  · refine x_iconst X (v := 1) dX7_noPoint_20 (by decide) ?_
    refine x_goto X 25 dX7_noPoint_21 (by decide) ?_
    refine x_sub [] rfl ?_
    exact w_X7_noPoint_25 V S3 (1 : Int32) h
  · refine x_iconst X (v := 0) dX7_noPoint_24 (by decide) ?_
    refine x_sub [] rfl ?_
    exact w_X7_noPoint_25 V S3 (0 : Int32) h
set_option maxHeartbeats 2000000 in
set_option maxRecDepth 20000 in
theorem m_X7_noPoint {l : Launch} {D : va_G} {cy : Nat → ClassId} {ad : Nat → Nat → Nat} (hi : xInj (shM cy) ad) {a1 : Int32} {a2 : Int32} {S : xS} {Q : Int32 → xS → Prop} (h : wp_X7_noPoint a1 a2 S Q) : xMet l D (xTys cy) (shM cy) ad yX7_noPoint cX7_noPoint 3 (some .boolean) (xRm 1 25) [.ref (ad 0 0), .int a1, .int a2] S (xQi Q) := xMet_env hi (by decide +kernel) rfl (Nat.le_of_ble_eq_true rfl) (fun g hl V => w_X7_noPoint V h)
set_option maxHeartbeats 2000000 in
set_option maxRecDepth 20000 in
theorem w_X7_tupleBarred_28 {g : xG} {D : va_G} {cy : Nat → ClassId} {ad : Nat → Nat → Nat} {Q : Int32 → xS → Prop} (V : xEnv g D (xTys cy) (shM cy) ad RX7 cX7_tupleBarred (some .int) 2 47 3 (xQi Q)) (S : xS) (s0 : Int32) (h : wp_X7_tupleBarred_28 Q S s0) : Wx g (xW D (shM cy) ad S) 28 [] [.int s0] := by
  obtain ⟨X, K, hi, hA, hR, E, hN⟩ := V
  have V := xEnv_mk X K hi hA hR E hN
  unfold wp_X7_tupleBarred_28 at h
  exact x_iret X E dX7_tupleBarred_28 ⟨_, rfl, h⟩
set_option maxHeartbeats 2000000 in
set_option maxRecDepth 20000 in
theorem w_X7_tupleBarred {g : xG} {D : va_G} {cy : Nat → ClassId} {ad : Nat → Nat → Nat} {a1 : Int32} {a2 : Int32} {S : xS} {Q : Int32 → xS → Prop} (V : xEnv g D (xTys cy) (shM cy) ad RX7 cX7_tupleBarred (some .int) 2 47 3 (xQi Q)) (h : wp_X7_tupleBarred a1 a2 S Q) : Wx g (xW D (shM cy) ad S) 0 [(0, .ref (ad 0 0)), (1, .int a1), (2, .int a2)] [] := by
  obtain ⟨X, K, hi, hA, hR, E, hN⟩ := V
  have V := xEnv_mk X K hi hA hR E hN
  unfold wp_X7_tupleBarred at h
  refine x_aload_n X 0 dX7_tupleBarred_0 rfl ?_
  refine x_iload_n X 1 dX7_tupleBarred_1 rfl ?_
  refine x_calli hA (x_runV (n := 1) (sh := shM cy) X K hR (fun _ q => q) (m_X7_noGlyph hi  h) (kM_0 cy Nat.zero_lt_one) rfl rfl t4_199 t4_201 tp_30 t1_8 t4_202 ⟨by decide, by decide, by decide +kernel⟩ rfl (by decide) (by decide) rfl (Nat.le_of_ble_eq_true rfl) dX7_tupleBarred_2) (fun r2 S1 h => ?_)
  refine x_if_eq X 13 dX7_tupleBarred_5 (by decide) h (fun h => ?_) (fun h => ?_)
  · refine x_aload_n X 0 dX7_tupleBarred_13 rfl ?_
    refine x_iload_n X 1 dX7_tupleBarred_14 rfl ?_
    refine x_iload_n X 2 dX7_tupleBarred_15 rfl ?_
    refine x_calli hA (x_runV (n := 2) (sh := shM cy) X K hR (fun _ q => q) (m_X7_noTuple hi  h) (kM_0 cy Nat.zero_lt_one) rfl rfl t5_7 t5_9 tp_36 t1_8 t5_10 ⟨by decide, by decide, by decide +kernel⟩ rfl (by decide) (by decide) rfl (Nat.le_of_ble_eq_true rfl) dX7_tupleBarred_16) (fun r4 S3 h => ?_)
    refine x_if_eq X 27 dX7_tupleBarred_19 (by decide) h (fun h => ?_) (fun h => ?_)
    · refine x_iconst X (v := 0) dX7_tupleBarred_27 (by decide) ?_
      refine x_sub [] rfl ?_
      exact w_X7_tupleBarred_28 V S3 (0 : Int32) h
    · refine x_ldc X (v := -1000003) t5_11 dX7_tupleBarred_22 ?_
      refine x_goto X 28 dX7_tupleBarred_24 (by decide) ?_
      refine x_sub [] rfl ?_
      exact w_X7_tupleBarred_28 V S3 (-1000003 : Int32) h
  · refine x_ldc X (v := -1000002) t4_203 dX7_tupleBarred_8 ?_
    refine x_goto X 28 dX7_tupleBarred_10 (by decide) ?_
    refine x_sub [] rfl ?_
    exact w_X7_tupleBarred_28 V S1 (-1000002 : Int32) h
set_option maxHeartbeats 2000000 in
set_option maxRecDepth 20000 in
theorem m_X7_tupleBarred {l : Launch} {D : va_G} {cy : Nat → ClassId} {ad : Nat → Nat → Nat} (hi : xInj (shM cy) ad) {a1 : Int32} {a2 : Int32} {S : xS} {Q : Int32 → xS → Prop} (h : wp_X7_tupleBarred a1 a2 S Q) : xMet l D (xTys cy) (shM cy) ad yX7_tupleBarred cX7_tupleBarred 3 (some .int) (xRm 2 47) [.ref (ad 0 0), .int a1, .int a2] S (xQi Q) := xMet_env hi (by decide +kernel) rfl (Nat.le_of_ble_eq_true rfl) (fun g hl V => w_X7_tupleBarred V h)
set_option maxHeartbeats 2000000 in
set_option maxRecDepth 20000 in
theorem w_X7_pointBarred_33 {g : xG} {D : va_G} {cy : Nat → ClassId} {ad : Nat → Nat → Nat} {Q : Int32 → xS → Prop} (V : xEnv g D (xTys cy) (shM cy) ad RX7 cX7_pointBarred (some .int) 3 69 5 (xQi Q)) (S : xS) (s0 : Int32) (h : wp_X7_pointBarred_33 Q S s0) : Wx g (xW D (shM cy) ad S) 33 [] [.int s0] := by
  obtain ⟨X, K, hi, hA, hR, E, hN⟩ := V
  have V := xEnv_mk X K hi hA hR E hN
  unfold wp_X7_pointBarred_33 at h
  exact x_iret X E dX7_pointBarred_33 ⟨_, rfl, h⟩
set_option maxHeartbeats 2000000 in
set_option maxRecDepth 20000 in
theorem w_X7_pointBarred {g : xG} {D : va_G} {cy : Nat → ClassId} {ad : Nat → Nat → Nat} {a1 : Int32} {a2 : Int32} {a3 : Int32} {S : xS} {Q : Int32 → xS → Prop} (V : xEnv g D (xTys cy) (shM cy) ad RX7 cX7_pointBarred (some .int) 3 69 5 (xQi Q)) (h : wp_X7_pointBarred a1 a2 a3 S Q) : Wx g (xW D (shM cy) ad S) 0 [(0, .ref (ad 0 0)), (1, .int a1), (2, .int a2), (3, .int a3)] [] := by
  obtain ⟨X, K, hi, hA, hR, E, hN⟩ := V
  have V := xEnv_mk X K hi hA hR E hN
  unfold wp_X7_pointBarred at h
  refine x_aload_n X 0 dX7_pointBarred_0 rfl ?_
  refine x_iload_n X 1 dX7_pointBarred_1 rfl ?_
  refine x_iload_n X 2 dX7_pointBarred_2 rfl ?_
  refine x_calli hA (x_runV (n := 2) (sh := shM cy) X K hR (fun _ q => q) (m_X7_tupleBarred hi  h) (kM_0 cy Nat.zero_lt_one) rfl rfl t5_3 t5_5 tp_35 t1_8 t5_6 ⟨by decide, by decide, by decide +kernel⟩ rfl (by decide) (by decide) rfl (Nat.le_of_ble_eq_true rfl) dX7_pointBarred_3) (fun r2 S1 h => ?_)
  refine x_istore X [(4, .int r2), (0, .ref (ad 0 0)), (1, .int a1), (2, .int a2), (3, .int a3)] dX7_pointBarred_6 (by rw [hN]; decide) rfl ?_
  refine x_iload X 0 dX7_pointBarred_8 rfl ?_
  refine x_if_ge X 18 dX7_pointBarred_10 (by decide) h (fun h => ?_) (fun h => ?_)
  · refine x_aload_n X 1 dX7_pointBarred_18 rfl ?_
    refine x_iload_n X 2 dX7_pointBarred_19 rfl ?_
    refine x_iload_n X 4 dX7_pointBarred_20 rfl ?_
    refine x_calli hA (x_runV (n := 2) (sh := shM cy) X K hR (fun _ q => q) (m_X7_noPoint hi  h) (kM_0 cy Nat.zero_lt_one) rfl rfl t5_20 t5_22 tp_38 t1_8 t5_23 ⟨by decide, by decide, by decide +kernel⟩ rfl (by decide) (by decide) rfl (Nat.le_of_ble_eq_true rfl) dX7_pointBarred_21) (fun r4 S3 h => ?_)
    refine x_if_eq X 32 dX7_pointBarred_24 (by decide) h (fun h => ?_) (fun h => ?_)
    · refine x_iconst X (v := 0) dX7_pointBarred_32 (by decide) ?_
      refine x_sub [] rfl ?_
      exact w_X7_pointBarred_33 V S3 (0 : Int32) h
    · refine x_ldc X (v := -1000004) t5_25 dX7_pointBarred_27 ?_
      refine x_goto X 33 dX7_pointBarred_29 (by decide) ?_
      refine x_sub [] rfl ?_
      exact w_X7_pointBarred_33 V S3 (-1000004 : Int32) h
  · refine x_iload X 0 dX7_pointBarred_13 rfl ?_
    refine x_goto X 33 dX7_pointBarred_15 (by decide) ?_
    refine x_sub [] rfl ?_
    exact w_X7_pointBarred_33 V S1 r2 h
set_option maxHeartbeats 2000000 in
set_option maxRecDepth 20000 in
theorem m_X7_pointBarred {l : Launch} {D : va_G} {cy : Nat → ClassId} {ad : Nat → Nat → Nat} (hi : xInj (shM cy) ad) {a1 : Int32} {a2 : Int32} {a3 : Int32} {S : xS} {Q : Int32 → xS → Prop} (h : wp_X7_pointBarred a1 a2 a3 S Q) : xMet l D (xTys cy) (shM cy) ad yX7_pointBarred cX7_pointBarred 5 (some .int) (xRm 3 69) [.ref (ad 0 0), .int a1, .int a2, .int a3] S (xQi Q) := xMet_env hi (by decide +kernel) rfl (Nat.le_of_ble_eq_true rfl) (fun g hl V => w_X7_pointBarred V h)
set_option maxHeartbeats 2000000 in
set_option maxRecDepth 20000 in
theorem w_X7_setRegion_87 {g : xG} {D : va_G} {cy : Nat → ClassId} {ad : Nat → Nat → Nat} {Q : Int32 → xS → Prop} (V : xEnv g D (xTys cy) (shM cy) ad RX7 cX7_setRegion (some .int) 3 69 10 (xQi Q)) (S : xS) (h : wp_X7_setRegion_87 Q S) : Wx g (xW D (shM cy) ad S) 87 [] [] := by
  obtain ⟨X, K, hi, hA, hR, E, hN⟩ := V
  have V := xEnv_mk X K hi hA hR E hN
  unfold wp_X7_setRegion_87 at h
  refine x_ldc X (v := -1000005) t4_138 dX7_setRegion_87 ?_
  exact x_iret X E dX7_setRegion_89 ⟨_, rfl, h⟩
set_option maxHeartbeats 2000000 in
set_option maxRecDepth 20000 in
theorem w_X7_setRegion_145 {g : xG} {D : va_G} {cy : Nat → ClassId} {ad : Nat → Nat → Nat} {a1 : Int32} {a4 : Int32} {a5 : Int32} {a6 : Int32} {Q : Int32 → xS → Prop} (V : xEnv g D (xTys cy) (shM cy) ad RX7 cX7_setRegion (some .int) 3 69 10 (xQi Q)) (S : xS) (v8 : Int32) (s0 : Int32) (h : wp_X7_setRegion_145 a1 a4 a5 a6 Q S v8 s0) : Wx g (xW D (shM cy) ad S) 145 [(0, .ref (ad 0 0)), (1, .int a1), (4, .int a4), (5, .int a5), (6, .int a6), (8, .int v8)] [.int s0] := by
  obtain ⟨X, K, hi, hA, hR, E, hN⟩ := V
  have V := xEnv_mk X K hi hA hR E hN
  unfold wp_X7_setRegion_145 at h
  refine x_istore X [(9, .int s0), (0, .ref (ad 0 0)), (1, .int a1), (4, .int a4), (5, .int a5), (6, .int a6), (8, .int v8)] dX7_setRegion_145 (by rw [hN]; decide) rfl ?_
  refine x_aload_n X 1 dX7_setRegion_147 rfl ?_
  refine x_iload_n X 2 dX7_setRegion_148 rfl ?_
  refine x_iload X 6 dX7_setRegion_149 rfl ?_
  refine x_iload X 3 dX7_setRegion_151 rfl ?_
  refine x_callv hA (x_runV (n := 3) (sh := shM cy) X K hR (fun _ q => q) (m_X7_put hi  h) (kM_0 cy (Nat.zero_lt_one)) rfl rfl t4_191 t4_193 tp_29 t1_8 t4_194 ⟨by decide, by decide, by decide +kernel⟩ rfl (by decide) (by decide) rfl (Nat.le_of_ble_eq_true rfl) dX7_setRegion_153) (fun S1 h => ?_)
  refine x_aload_n X 1 dX7_setRegion_156 rfl ?_
  refine x_iload_n X 2 dX7_setRegion_157 rfl ?_
  refine x_iload X 6 dX7_setRegion_158 rfl ?_
  refine x_iconst X (v := 1) dX7_setRegion_160 (by decide) ?_
  refine x_iadd X dX7_setRegion_161 ?_
  refine x_iload X 4 dX7_setRegion_162 rfl ?_
  refine x_callv hA (x_runV (n := 3) (sh := shM cy) X K hR (fun _ q => q) (m_X7_put hi  h) (kM_0 cy (Nat.zero_lt_one)) rfl rfl t4_191 t4_193 tp_29 t1_8 t4_194 ⟨by decide, by decide, by decide +kernel⟩ rfl (by decide) (by decide) rfl (Nat.le_of_ble_eq_true rfl) dX7_setRegion_164) (fun S3 h => ?_)
  refine x_aload_n X 1 dX7_setRegion_167 rfl ?_
  refine x_iload_n X 2 dX7_setRegion_168 rfl ?_
  refine x_iload X 6 dX7_setRegion_169 rfl ?_
  refine x_iconst X (v := 2) dX7_setRegion_171 (by decide) ?_
  refine x_iadd X dX7_setRegion_172 ?_
  refine x_iload X 5 dX7_setRegion_173 rfl ?_
  refine x_callv hA (x_runV (n := 3) (sh := shM cy) X K hR (fun _ q => q) (m_X7_put hi  h) (kM_0 cy (Nat.zero_lt_one)) rfl rfl t4_191 t4_193 tp_29 t1_8 t4_194 ⟨by decide, by decide, by decide +kernel⟩ rfl (by decide) (by decide) rfl (Nat.le_of_ble_eq_true rfl) dX7_setRegion_175) (fun S5 h => ?_)
  refine x_iload X 0 dX7_setRegion_178 rfl ?_
  exact x_iret X E dX7_setRegion_180 ⟨_, rfl, h⟩
set_option maxHeartbeats 2000000 in
set_option maxRecDepth 20000 in
theorem w_X7_setRegion_140 {g : xG} {D : va_G} {cy : Nat → ClassId} {ad : Nat → Nat → Nat} {a1 : Int32} {a4 : Int32} {a5 : Int32} {a6 : Int32} {Q : Int32 → xS → Prop} (V : xEnv g D (xTys cy) (shM cy) ad RX7 cX7_setRegion (some .int) 3 69 10 (xQi Q)) (S : xS) (v8 : Int32) (h : wp_X7_setRegion_140 a1 a4 a5 a6 Q S v8) : Wx g (xW D (shM cy) ad S) 140 [(0, .ref (ad 0 0)), (1, .int a1), (4, .int a4), (5, .int a5), (6, .int a6), (8, .int v8)] [] := by
  obtain ⟨X, K, hi, hA, hR, E, hN⟩ := V
  have V := xEnv_mk X K hi hA hR E hN
  unfold wp_X7_setRegion_140 at h
  refine x_iconst X (v := 1) dX7_setRegion_140 (by decide) ?_
  refine x_goto X 145 dX7_setRegion_141 (by decide) ?_
  refine x_sub [0, 1, 2, 3, 4, 5] rfl ?_
  exact w_X7_setRegion_145 V S v8 (1 : Int32) h
set_option maxHeartbeats 2000000 in
set_option maxRecDepth 20000 in
theorem w_X7_setRegion_90 {g : xG} {D : va_G} {cy : Nat → ClassId} {ad : Nat → Nat → Nat} {a1 : Int32} {a2 : Int32} {a3 : Int32} {a4 : Int32} {a5 : Int32} {a6 : Int32} {Q : Int32 → xS → Prop} (V : xEnv g D (xTys cy) (shM cy) ad RX7 cX7_setRegion (some .int) 3 69 10 (xQi Q)) (S : xS) (h : wp_X7_setRegion_90 a1 a2 a3 a4 a5 a6 Q S) : Wx g (xW D (shM cy) ad S) 90 [(0, .ref (ad 0 0)), (1, .int a1), (2, .int a2), (3, .int a3), (4, .int a4), (5, .int a5), (6, .int a6)] [] := by
  obtain ⟨X, K, hi, hA, hR, E, hN⟩ := V
  have V := xEnv_mk X K hi hA hR E hN
  unfold wp_X7_setRegion_90 at h
  refine x_iload_n X 2 dX7_setRegion_90 rfl ?_
  refine x_calli hA (x_runS (n := 1) X K hR (fun _ q => q) (m_X7_tupleAt hi  h) t4_236 t4_237 t1_8 t4_238 ⟨by decide, by decide, by decide +kernel⟩ rfl (by decide) (by decide) rfl (Nat.le_of_ble_eq_true rfl) dX7_setRegion_91) (fun r2 S1 h => ?_)
  refine x_iconst X (v := 3) dX7_setRegion_94 (by decide) ?_
  refine x_iload_n X 3 dX7_setRegion_95 rfl ?_
  refine x_imul X dX7_setRegion_96 ?_
  refine x_iadd X dX7_setRegion_97 ?_
  refine x_istore X [(8, .int (r2 + ((3 : Int32) * a3))), (0, .ref (ad 0 0)), (1, .int a1), (2, .int a2), (3, .int a3), (4, .int a4), (5, .int a5), (6, .int a6)] dX7_setRegion_98 (by rw [hN]; decide) rfl ?_
  refine x_aload_n X 1 dX7_setRegion_100 rfl ?_
  refine x_iload_n X 2 dX7_setRegion_101 rfl ?_
  refine x_iload X 0 dX7_setRegion_102 rfl ?_
  refine x_calli hA (x_runV (n := 2) (sh := shM cy) X K hR (fun _ q => q) (m_X7_of hi  h) (kM_0 cy (Nat.zero_lt_one)) rfl rfl t4_208 t4_210 tp_31 t1_8 t4_211 ⟨by decide, by decide, by decide +kernel⟩ rfl (by decide) (by decide) rfl (Nat.le_of_ble_eq_true rfl) dX7_setRegion_104) (fun r4 S3 h => ?_)
  refine x_iload X 5 dX7_setRegion_107 rfl ?_
  refine x_icmp_ne X 140 dX7_setRegion_109 (by decide) h (fun h => ?_) (fun h => ?_)
  · refine x_aload_n X 1 dX7_setRegion_112 rfl ?_
    refine x_iload_n X 2 dX7_setRegion_113 rfl ?_
    refine x_iload X 0 dX7_setRegion_114 rfl ?_
    refine x_iconst X (v := 1) dX7_setRegion_116 (by decide) ?_
    refine x_iadd X dX7_setRegion_117 ?_
    refine x_calli hA (x_runV (n := 2) (sh := shM cy) X K hR (fun _ q => q) (m_X7_of hi  h) (kM_0 cy (Nat.zero_lt_one)) rfl rfl t4_208 t4_210 tp_31 t1_8 t4_211 ⟨by decide, by decide, by decide +kernel⟩ rfl (by decide) (by decide) rfl (Nat.le_of_ble_eq_true rfl) dX7_setRegion_118) (fun r6 S5 h => ?_)
    refine x_iload X 6 dX7_setRegion_121 rfl ?_
    refine x_icmp_ne X 140 dX7_setRegion_123 (by decide) h (fun h => ?_) (fun h => ?_)
    · refine x_aload_n X 1 dX7_setRegion_126 rfl ?_
      refine x_iload_n X 2 dX7_setRegion_127 rfl ?_
      refine x_iload X 0 dX7_setRegion_128 rfl ?_
      refine x_iconst X (v := 2) dX7_setRegion_130 (by decide) ?_
      refine x_iadd X dX7_setRegion_131 ?_
      refine x_calli hA (x_runV (n := 2) (sh := shM cy) X K hR (fun _ q => q) (m_X7_of hi  h) (kM_0 cy (Nat.zero_lt_one)) rfl rfl t4_208 t4_210 tp_31 t1_8 t4_211 ⟨by decide, by decide, by decide +kernel⟩ rfl (by decide) (by decide) rfl (Nat.le_of_ble_eq_true rfl) dX7_setRegion_132) (fun r8 S7 h => ?_)
      refine x_iload X 7 dX7_setRegion_135 rfl ?_
      refine x_icmp_eq X 144 dX7_setRegion_137 (by decide) h (fun h => ?_) (fun h => ?_)
      · refine x_iconst X (v := 0) dX7_setRegion_144 (by decide) ?_
        refine x_sub [1, 2, 5, 6, 7, 0] rfl ?_
        exact w_X7_setRegion_145 V S7 (r2 + ((3 : Int32) * a3)) (0 : Int32) h
      · refine x_sub [1, 2, 5, 6, 7, 0] rfl ?_
        exact w_X7_setRegion_140 V S7 (r2 + ((3 : Int32) * a3)) h
    · refine x_sub [1, 2, 5, 6, 7, 0] rfl ?_
      exact w_X7_setRegion_140 V S5 (r2 + ((3 : Int32) * a3)) h
  · refine x_sub [1, 2, 5, 6, 7, 0] rfl ?_
    exact w_X7_setRegion_140 V S3 (r2 + ((3 : Int32) * a3)) h
set_option maxHeartbeats 2000000 in
set_option maxRecDepth 20000 in
theorem w_X7_setRegion {g : xG} {D : va_G} {cy : Nat → ClassId} {ad : Nat → Nat → Nat} {a1 : Int32} {a2 : Int32} {a3 : Int32} {a4 : Int32} {a5 : Int32} {a6 : Int32} {S : xS} {Q : Int32 → xS → Prop} (V : xEnv g D (xTys cy) (shM cy) ad RX7 cX7_setRegion (some .int) 3 69 10 (xQi Q)) (h : wp_X7_setRegion a1 a2 a3 a4 a5 a6 S Q) : Wx g (xW D (shM cy) ad S) 0 [(0, .ref (ad 0 0)), (1, .int a1), (2, .int a2), (3, .int a3), (4, .int a4), (5, .int a5), (6, .int a6)] [] := by
  obtain ⟨X, K, hi, hA, hR, E, hN⟩ := V
  have V := xEnv_mk X K hi hA hR E hN
  unfold wp_X7_setRegion at h
  refine x_aload_n X 0 dX7_setRegion_0 rfl ?_
  refine x_iload_n X 1 dX7_setRegion_1 rfl ?_
  refine x_iload_n X 2 dX7_setRegion_2 rfl ?_
  refine x_calli hA (x_runV (n := 2) (sh := shM cy) X K hR (fun _ q => q) (m_X7_tupleBarred hi  h) (kM_0 cy Nat.zero_lt_one) rfl rfl t5_3 t5_5 tp_35 t1_8 t5_6 ⟨by decide, by decide, by decide +kernel⟩ rfl (by decide) (by decide) rfl (Nat.le_of_ble_eq_true rfl) dX7_setRegion_3) (fun r2 S1 h => ?_)
  refine x_istore X [(7, .int r2), (0, .ref (ad 0 0)), (1, .int a1), (2, .int a2), (3, .int a3), (4, .int a4), (5, .int a5), (6, .int a6)] dX7_setRegion_6 (by rw [hN]; decide) rfl ?_
  refine x_iload X 0 dX7_setRegion_8 rfl ?_
  refine x_if_ge X 16 dX7_setRegion_10 (by decide) h (fun h => ?_) (fun h => ?_)
  · refine x_aload_n X 1 dX7_setRegion_16 rfl ?_
    refine x_iload_n X 4 dX7_setRegion_17 rfl ?_
    refine x_calli hA (x_runV (n := 1) (sh := shM cy) X K hR (fun _ q => q) (m_X7_noAxis hi  h) (kM_0 cy Nat.zero_lt_one) rfl rfl t4_144 t4_146 tp_26 t1_8 t4_147 ⟨by decide, by decide, by decide +kernel⟩ rfl (by decide) (by decide) rfl (Nat.le_of_ble_eq_true rfl) dX7_setRegion_18) (fun r4 S3 h => ?_)
    refine x_if_eq X 27 dX7_setRegion_21 (by decide) h (fun h => ?_) (fun h => ?_)
    · refine x_iload X 6 dX7_setRegion_27 rfl ?_
      refine x_i2l X dX7_setRegion_29 ?_
      refine x_ldc2 X (v := -16384) t4_151 dX7_setRegion_30 ?_
      refine x_ldc2 X (v := 16384) t4_152 dX7_setRegion_33 ?_
      refine x_calli hA (x_runS (n := 3) X K hR (fun _ q => q) (m_X7_in hi  h) t4_135 t4_136 t1_8 t4_137 ⟨by decide, by decide, by decide +kernel⟩ rfl (by decide) (by decide) rfl (Nat.le_of_ble_eq_true rfl) dX7_setRegion_36) (fun r6 S5 h => ?_)
      refine x_if_eq X 87 dX7_setRegion_39 (by decide) h (fun h => ?_) (fun h => ?_)
      · refine x_sub [] rfl ?_
        exact w_X7_setRegion_87 V S5 h
      · refine x_iload X 5 dX7_setRegion_42 rfl ?_
        refine x_i2l X dX7_setRegion_44 ?_
        refine x_ldc2 X (v := -16384) t4_151 dX7_setRegion_45 ?_
        refine x_iload X 6 dX7_setRegion_48 rfl ?_
        refine x_i2l X dX7_setRegion_50 ?_
        refine x_calli hA (x_runS (n := 3) X K hR (fun _ q => q) (m_X7_in hi  h) t4_135 t4_136 t1_8 t4_137 ⟨by decide, by decide, by decide +kernel⟩ rfl (by decide) (by decide) rfl (Nat.le_of_ble_eq_true rfl) dX7_setRegion_51) (fun r8 S7 h => ?_)
        refine x_if_eq X 87 dX7_setRegion_54 (by decide) h (fun h => ?_) (fun h => ?_)
        · refine x_sub [] rfl ?_
          exact w_X7_setRegion_87 V S7 h
        · refine x_iload X 7 dX7_setRegion_57 rfl ?_
          refine x_i2l X dX7_setRegion_59 ?_
          refine x_iload X 6 dX7_setRegion_60 rfl ?_
          refine x_i2l X dX7_setRegion_62 ?_
          refine x_ldc2 X (v := 16384) t4_152 dX7_setRegion_63 ?_
          refine x_calli hA (x_runS (n := 3) X K hR (fun _ q => q) (m_X7_in hi  h) t4_135 t4_136 t1_8 t4_137 ⟨by decide, by decide, by decide +kernel⟩ rfl (by decide) (by decide) rfl (Nat.le_of_ble_eq_true rfl) dX7_setRegion_66) (fun r10 S9 h => ?_)
          refine x_if_eq X 87 dX7_setRegion_69 (by decide) h (fun h => ?_) (fun h => ?_)
          · refine x_sub [] rfl ?_
            exact w_X7_setRegion_87 V S9 h
          · refine x_iload X 6 dX7_setRegion_72 rfl ?_
            refine x_if_eq X 90 dX7_setRegion_74 (by decide) h (fun h => ?_) (fun h => ?_)
            · refine x_sub [1, 2, 3, 4, 5, 6, 7] rfl ?_
              exact w_X7_setRegion_90 V S9 h
            · refine x_iload X 5 dX7_setRegion_77 rfl ?_
              refine x_if_ge X 90 dX7_setRegion_79 (by decide) h (fun h => ?_) (fun h => ?_)
              · refine x_sub [1, 2, 3, 4, 5, 6, 7] rfl ?_
                exact w_X7_setRegion_90 V S9 h
              · refine x_iload X 7 dX7_setRegion_82 rfl ?_
                refine x_if_le X 90 dX7_setRegion_84 (by decide) h (fun h => ?_) (fun h => ?_)
                · refine x_sub [1, 2, 3, 4, 5, 6, 7] rfl ?_
                  exact w_X7_setRegion_90 V S9 h
                · refine x_sub [] rfl ?_
                  exact w_X7_setRegion_87 V S9 h
    · refine x_ldc X (v := -1000001) t4_148 dX7_setRegion_24 ?_
      exact x_iret X E dX7_setRegion_26 ⟨_, rfl, h⟩
  · refine x_iload X 0 dX7_setRegion_13 rfl ?_
    exact x_iret X E dX7_setRegion_15 ⟨_, rfl, h⟩
set_option maxHeartbeats 2000000 in
set_option maxRecDepth 20000 in
theorem m_X7_setRegion {l : Launch} {D : va_G} {cy : Nat → ClassId} {ad : Nat → Nat → Nat} (hi : xInj (shM cy) ad) {a1 : Int32} {a2 : Int32} {a3 : Int32} {a4 : Int32} {a5 : Int32} {a6 : Int32} {S : xS} {Q : Int32 → xS → Prop} (h : wp_X7_setRegion a1 a2 a3 a4 a5 a6 S Q) : xMet l D (xTys cy) (shM cy) ad yX7_setRegion cX7_setRegion 10 (some .int) (xRm 3 69) [.ref (ad 0 0), .int a1, .int a2, .int a3, .int a4, .int a5, .int a6] S (xQi Q) := xMet_env hi (by decide +kernel) rfl (Nat.le_of_ble_eq_true rfl) (fun g hl V => w_X7_setRegion V h)
set_option maxHeartbeats 2000000 in
set_option maxRecDepth 20000 in
theorem w_X7_touch_56 {g : xG} {D : va_G} {cy : Nat → ClassId} {ad : Nat → Nat → Nat} {Q : Int32 → xS → Prop} (V : xEnv g D (xTys cy) (shM cy) ad RX7 cX7_touch (some .int) 4 93 8 (xQi Q)) (S : xS) (h : wp_X7_touch_56 Q S) : Wx g (xW D (shM cy) ad S) 56 [] [] := by
  obtain ⟨X, K, hi, hA, hR, E, hN⟩ := V
  have V := xEnv_mk X K hi hA hR E hN
  unfold wp_X7_touch_56 at h
  refine x_ldc X (v := -1000005) t4_138 dX7_touch_56 ?_
  exact x_iret X E dX7_touch_58 ⟨_, rfl, h⟩
set_option maxHeartbeats 2000000 in
set_option maxRecDepth 20000 in
theorem w_X7_touch_77 {g : xG} {D : va_G} {cy : Nat → ClassId} {ad : Nat → Nat → Nat} {a1 : Int32} {a2 : Int32} {a3 : Int32} {a4 : Int32} {a5 : Int32} {Q : Int32 → xS → Prop} (V : xEnv g D (xTys cy) (shM cy) ad RX7 cX7_touch (some .int) 4 93 8 (xQi Q)) (S : xS) (s0 : Int32) (h : wp_X7_touch_77 a1 a2 a3 a4 a5 Q S s0) : Wx g (xW D (shM cy) ad S) 77 [(0, .ref (ad 0 0)), (1, .int a1), (2, .int a2), (3, .int a3), (4, .int a4), (5, .int a5)] [.int s0] := by
  obtain ⟨X, K, hi, hA, hR, E, hN⟩ := V
  have V := xEnv_mk X K hi hA hR E hN
  unfold wp_X7_touch_77 at h
  refine x_istore X [(7, .int s0), (0, .ref (ad 0 0)), (1, .int a1), (2, .int a2), (3, .int a3), (4, .int a4), (5, .int a5)] dX7_touch_77 (by rw [hN]; decide) rfl ?_
  refine x_aload_n X 1 dX7_touch_79 rfl ?_
  refine x_iload_n X 2 dX7_touch_80 rfl ?_
  refine x_iload_n X 3 dX7_touch_81 rfl ?_
  refine x_iload_n X 4 dX7_touch_82 rfl ?_
  refine x_calli hA (x_runS (n := 1) X K hR (fun _ q => q) (m_X7_slot hi  h) t5_28 t5_29 t1_8 t5_30 ⟨by decide, by decide, by decide +kernel⟩ rfl (by decide) (by decide) rfl (Nat.le_of_ble_eq_true rfl) dX7_touch_83) (fun r2 S1 h => ?_)
  refine x_iload X 5 dX7_touch_86 rfl ?_
  refine x_iload X 6 dX7_touch_88 rfl ?_
  refine x_callv hA (x_runV (n := 5) (sh := shM cy) X K hR (fun _ q => q) (m_X7_gives hi  h) (kM_0 cy (Nat.zero_lt_one)) rfl rfl t5_35 t5_37 tp_40 t1_8 t5_38 ⟨by decide, by decide, by decide +kernel⟩ rfl (by decide) (by decide) rfl (Nat.le_of_ble_eq_true rfl) dX7_touch_90) (fun S3 h => ?_)
  refine x_iload X 0 dX7_touch_93 rfl ?_
  exact x_iret X E dX7_touch_95 ⟨_, rfl, h⟩
set_option maxHeartbeats 2000000 in
set_option maxRecDepth 20000 in
theorem w_X7_touch_59 {g : xG} {D : va_G} {cy : Nat → ClassId} {ad : Nat → Nat → Nat} {a1 : Int32} {a2 : Int32} {a3 : Int32} {a4 : Int32} {a5 : Int32} {Q : Int32 → xS → Prop} (V : xEnv g D (xTys cy) (shM cy) ad RX7 cX7_touch (some .int) 4 93 8 (xQi Q)) (S : xS) (h : wp_X7_touch_59 a1 a2 a3 a4 a5 Q S) : Wx g (xW D (shM cy) ad S) 59 [(0, .ref (ad 0 0)), (1, .int a1), (2, .int a2), (3, .int a3), (4, .int a4), (5, .int a5)] [] := by
  obtain ⟨X, K, hi, hA, hR, E, hN⟩ := V
  have V := xEnv_mk X K hi hA hR E hN
  unfold wp_X7_touch_59 at h
  refine x_aload_n X 0 dX7_touch_59 rfl ?_
  refine x_iload_n X 1 dX7_touch_60 rfl ?_
  refine x_iload_n X 2 dX7_touch_61 rfl ?_
  refine x_iload_n X 3 dX7_touch_62 rfl ?_
  refine x_calli hA (x_runS (n := 1) X K hR (fun _ q => q) (m_X7_slot hi  h) t5_28 t5_29 t1_8 t5_30 ⟨by decide, by decide, by decide +kernel⟩ rfl (by decide) (by decide) rfl (Nat.le_of_ble_eq_true rfl) dX7_touch_63) (fun r2 S1 h => ?_)
  refine x_calli hA (x_runV (n := 3) (sh := shM cy) X K hR (fun _ q => q) (m_X7_touches hi  h) (kM_0 cy (Nat.zero_lt_one)) rfl rfl t5_31 t5_33 tp_39 t1_8 t5_34 ⟨by decide, by decide, by decide +kernel⟩ rfl (by decide) (by decide) rfl (Nat.le_of_ble_eq_true rfl) dX7_touch_66) (fun r4 S3 h => ?_)
  refine x_if_eq X 76 dX7_touch_69 (by decide) h (fun h => ?_) (fun h => ?_)
  · refine x_iconst X (v := 1) dX7_touch_76 (by decide) ?_
    refine x_sub [0, 1, 2, 3, 4, 5] rfl ?_
    exact w_X7_touch_77 V S3 (1 : Int32) h
  · refine x_iconst X (v := 0) dX7_touch_72 (by decide) ?_
    refine x_goto X 77 dX7_touch_73 (by decide) ?_
    refine x_sub [0, 1, 2, 3, 4, 5] rfl ?_
    exact w_X7_touch_77 V S3 (0 : Int32) h
set_option maxHeartbeats 2000000 in
set_option maxRecDepth 20000 in
theorem w_X7_touch {g : xG} {D : va_G} {cy : Nat → ClassId} {ad : Nat → Nat → Nat} {a1 : Int32} {a2 : Int32} {a3 : Int32} {a4 : Int32} {a5 : Int32} {S : xS} {Q : Int32 → xS → Prop} (V : xEnv g D (xTys cy) (shM cy) ad RX7 cX7_touch (some .int) 4 93 8 (xQi Q)) (h : wp_X7_touch a1 a2 a3 a4 a5 S Q) : Wx g (xW D (shM cy) ad S) 0 [(0, .ref (ad 0 0)), (1, .int a1), (2, .int a2), (3, .int a3), (4, .int a4), (5, .int a5)] [] := by
  obtain ⟨X, K, hi, hA, hR, E, hN⟩ := V
  have V := xEnv_mk X K hi hA hR E hN
  unfold wp_X7_touch at h
  refine x_aload_n X 0 dX7_touch_0 rfl ?_
  refine x_iload_n X 1 dX7_touch_1 rfl ?_
  refine x_iload_n X 2 dX7_touch_2 rfl ?_
  refine x_iload_n X 3 dX7_touch_3 rfl ?_
  refine x_calli hA (x_runV (n := 3) (sh := shM cy) X K hR (fun _ q => q) (m_X7_pointBarred hi  h) (kM_0 cy Nat.zero_lt_one) rfl rfl t5_16 t5_18 tp_37 t1_8 t5_19 ⟨by decide, by decide, by decide +kernel⟩ rfl (by decide) (by decide) rfl (Nat.le_of_ble_eq_true rfl) dX7_touch_4) (fun r2 S1 h => ?_)
  refine x_istore X [(6, .int r2), (0, .ref (ad 0 0)), (1, .int a1), (2, .int a2), (3, .int a3), (4, .int a4), (5, .int a5)] dX7_touch_7 (by rw [hN]; decide) rfl ?_
  refine x_iload X 0 dX7_touch_9 rfl ?_
  refine x_if_ge X 17 dX7_touch_11 (by decide) h (fun h => ?_) (fun h => ?_)
  · refine x_iload X 5 dX7_touch_17 rfl ?_
    refine x_i2l X dX7_touch_19 ?_
    refine x_ldc2 X (v := -2000) t5_26 dX7_touch_20 ?_
    refine x_ldc2 X (v := 2000) t5_27 dX7_touch_23 ?_
    refine x_calli hA (x_runS (n := 3) X K hR (fun _ q => q) (m_X7_in hi  h) t4_135 t4_136 t1_8 t4_137 ⟨by decide, by decide, by decide +kernel⟩ rfl (by decide) (by decide) rfl (Nat.le_of_ble_eq_true rfl) dX7_touch_26) (fun r4 S3 h => ?_)
    refine x_if_eq X 56 dX7_touch_29 (by decide) h (fun h => ?_) (fun h => ?_)
    · refine x_sub [] rfl ?_
      exact w_X7_touch_56 V S3 h
    · refine x_iload X 6 dX7_touch_32 rfl ?_
      refine x_i2l X dX7_touch_34 ?_
      refine x_ldc2 X (v := -2000) t5_26 dX7_touch_35 ?_
      refine x_ldc2 X (v := 2000) t5_27 dX7_touch_38 ?_
      refine x_calli hA (x_runS (n := 3) X K hR (fun _ q => q) (m_X7_in hi  h) t4_135 t4_136 t1_8 t4_137 ⟨by decide, by decide, by decide +kernel⟩ rfl (by decide) (by decide) rfl (Nat.le_of_ble_eq_true rfl) dX7_touch_41) (fun r6 S5 h => ?_)
      refine x_if_eq X 56 dX7_touch_44 (by decide) h (fun h => ?_) (fun h => ?_)
      · refine x_sub [] rfl ?_
        exact w_X7_touch_56 V S5 h
      · refine x_iload_n X 4 dX7_touch_47 rfl ?_
        refine x_if_ge X 59 dX7_touch_48 (by decide) h (fun h => ?_) (fun h => ?_)
        · refine x_sub [1, 2, 3, 4, 5, 6] rfl ?_
          exact w_X7_touch_59 V S5 h
        · refine x_iload X 6 dX7_touch_51 rfl ?_
          refine x_if_eq X 59 dX7_touch_53 (by decide) h (fun h => ?_) (fun h => ?_)
          · refine x_sub [1, 2, 3, 4, 5, 6] rfl ?_
            exact w_X7_touch_59 V S5 h
          · refine x_sub [] rfl ?_
            exact w_X7_touch_56 V S5 h
  · refine x_iload X 0 dX7_touch_14 rfl ?_
    exact x_iret X E dX7_touch_16 ⟨_, rfl, h⟩
set_option maxHeartbeats 2000000 in
set_option maxRecDepth 20000 in
theorem m_X7_touch {l : Launch} {D : va_G} {cy : Nat → ClassId} {ad : Nat → Nat → Nat} (hi : xInj (shM cy) ad) {a1 : Int32} {a2 : Int32} {a3 : Int32} {a4 : Int32} {a5 : Int32} {S : xS} {Q : Int32 → xS → Prop} (h : wp_X7_touch a1 a2 a3 a4 a5 S Q) : xMet l D (xTys cy) (shM cy) ad yX7_touch cX7_touch 8 (some .int) (xRm 4 93) [.ref (ad 0 0), .int a1, .int a2, .int a3, .int a4, .int a5] S (xQi Q) := xMet_env hi (by decide +kernel) rfl (Nat.le_of_ble_eq_true rfl) (fun g hl V => w_X7_touch V h)
set_option maxHeartbeats 2000000 in
set_option maxRecDepth 20000 in
theorem w_X7_release {g : xG} {D : va_G} {cy : Nat → ClassId} {ad : Nat → Nat → Nat} {a1 : Int32} {a2 : Int32} {a3 : Int32} {S : xS} {Q : Int32 → xS → Prop} (V : xEnv g D (xTys cy) (shM cy) ad RX7 cX7_release (some .int) 4 93 6 (xQi Q)) (h : wp_X7_release a1 a2 a3 S Q) : Wx g (xW D (shM cy) ad S) 0 [(0, .ref (ad 0 0)), (1, .int a1), (2, .int a2), (3, .int a3)] [] := by
  obtain ⟨X, K, hi, hA, hR, E, hN⟩ := V
  have V := xEnv_mk X K hi hA hR E hN
  unfold wp_X7_release at h
  refine x_aload_n X 0 dX7_release_0 rfl ?_
  refine x_iload_n X 1 dX7_release_1 rfl ?_
  refine x_iload_n X 2 dX7_release_2 rfl ?_
  refine x_iload_n X 3 dX7_release_3 rfl ?_
  refine x_calli hA (x_runV (n := 3) (sh := shM cy) X K hR (fun _ q => q) (m_X7_pointBarred hi  h) (kM_0 cy Nat.zero_lt_one) rfl rfl t5_16 t5_18 tp_37 t1_8 t5_19 ⟨by decide, by decide, by decide +kernel⟩ rfl (by decide) (by decide) rfl (Nat.le_of_ble_eq_true rfl) dX7_release_4) (fun r2 S1 h => ?_)
  refine x_istore X [(4, .int r2), (0, .ref (ad 0 0)), (1, .int a1), (2, .int a2), (3, .int a3)] dX7_release_7 (by rw [hN]; decide) rfl ?_
  refine x_iload X 0 dX7_release_9 rfl ?_
  refine x_if_ge X 17 dX7_release_11 (by decide) h (fun h => ?_) (fun h => ?_)
  · refine x_aload_n X 1 dX7_release_17 rfl ?_
    refine x_iload_n X 2 dX7_release_18 rfl ?_
    refine x_iload_n X 3 dX7_release_19 rfl ?_
    refine x_calli hA (x_runS (n := 1) X K hR (fun _ q => q) (m_X7_tupleAt hi  h) t4_236 t4_237 t1_8 t4_238 ⟨by decide, by decide, by decide +kernel⟩ rfl (by decide) (by decide) rfl (Nat.le_of_ble_eq_true rfl) dX7_release_20) (fun r4 S3 h => ?_)
    refine x_bipush X (v := 12) dX7_release_23 (by decide) ?_
    refine x_iadd X dX7_release_25 ?_
    refine x_iload_n X 4 dX7_release_26 rfl ?_
    refine x_calli hA (x_runS (n := 1) X K hR (fun _ q => q) (m_X7_slot hi  h) t5_28 t5_29 t1_8 t5_30 ⟨by decide, by decide, by decide +kernel⟩ rfl (by decide) (by decide) rfl (Nat.le_of_ble_eq_true rfl) dX7_release_27) (fun r6 S5 h => ?_)
    refine x_iadd X dX7_release_30 ?_
    refine x_calli hA (x_runV (n := 2) (sh := shM cy) X K hR (fun _ q => q) (m_X7_of hi  h) (kM_0 cy Nat.zero_lt_one) rfl rfl t4_208 t4_210 tp_31 t1_8 t4_211 ⟨by decide, by decide, by decide +kernel⟩ rfl (by decide) (by decide) rfl (Nat.le_of_ble_eq_true rfl) dX7_release_31) (fun r8 S7 h => ?_)
    refine x_istore X [(5, .int r8), (4, .int r2), (0, .ref (ad 0 0)), (1, .int a1), (2, .int a2), (3, .int a3)] dX7_release_34 (by rw [hN]; decide) rfl ?_
    refine x_aload_n X 2 dX7_release_36 rfl ?_
    refine x_iload_n X 3 dX7_release_37 rfl ?_
    refine x_iload_n X 4 dX7_release_38 rfl ?_
    refine x_calli hA (x_runS (n := 1) X K hR (fun _ q => q) (m_X7_tupleAt hi  h) t4_236 t4_237 t1_8 t4_238 ⟨by decide, by decide, by decide +kernel⟩ rfl (by decide) (by decide) rfl (Nat.le_of_ble_eq_true rfl) dX7_release_39) (fun r10 S9 h => ?_)
    refine x_bipush X (v := 12) dX7_release_42 (by decide) ?_
    refine x_iadd X dX7_release_44 ?_
    refine x_iload_n X 5 dX7_release_45 rfl ?_
    refine x_calli hA (x_runS (n := 1) X K hR (fun _ q => q) (m_X7_slot hi  h) t5_28 t5_29 t1_8 t5_30 ⟨by decide, by decide, by decide +kernel⟩ rfl (by decide) (by decide) rfl (Nat.le_of_ble_eq_true rfl) dX7_release_46) (fun r12 S11 h => ?_)
    refine x_iadd X dX7_release_49 ?_
    refine x_iconst X (v := 0) dX7_release_50 (by decide) ?_
    refine x_callv hA (x_runV (n := 3) (sh := shM cy) X K hR (fun _ q => q) (m_X7_put hi  h) (kM_0 cy Nat.zero_lt_one) rfl rfl t4_191 t4_193 tp_29 t1_8 t4_194 ⟨by decide, by decide, by decide +kernel⟩ rfl (by decide) (by decide) rfl (Nat.le_of_ble_eq_true rfl) dX7_release_51) (fun S13 h => ?_)
    refine x_iload X 0 dX7_release_54 rfl ?_
    exact x_iret X E dX7_release_56 ⟨_, rfl, h⟩
  · refine x_iload X 0 dX7_release_14 rfl ?_
    exact x_iret X E dX7_release_16 ⟨_, rfl, h⟩
set_option maxHeartbeats 2000000 in
set_option maxRecDepth 20000 in
theorem m_X7_release {l : Launch} {D : va_G} {cy : Nat → ClassId} {ad : Nat → Nat → Nat} (hi : xInj (shM cy) ad) {a1 : Int32} {a2 : Int32} {a3 : Int32} {S : xS} {Q : Int32 → xS → Prop} (h : wp_X7_release a1 a2 a3 S Q) : xMet l D (xTys cy) (shM cy) ad yX7_release cX7_release 6 (some .int) (xRm 4 93) [.ref (ad 0 0), .int a1, .int a2, .int a3] S (xQi Q) := xMet_env hi (by decide +kernel) rfl (Nat.le_of_ble_eq_true rfl) (fun g hl V => w_X7_release V h)
set_option maxHeartbeats 2000000 in
set_option maxRecDepth 20000 in
theorem w_X7_beside_90 {g : xG} {D : va_G} {cy : Nat → ClassId} {ad : Nat → Nat → Nat} {Q : Int32 → xS → Prop} (V : xEnv g D (xTys cy) (shM cy) ad RX7 cX7_beside (some .int) 1 22 7 (xQi Q)) (S : xS) (s0 : Int32) (h : wp_X7_beside_90 Q S s0) : Wx g (xW D (shM cy) ad S) 90 [] [.int s0] := by
  obtain ⟨X, K, hi, hA, hR, E, hN⟩ := V
  have V := xEnv_mk X K hi hA hR E hN
  unfold wp_X7_beside_90 at h
  exact x_iret X E dX7_beside_90 ⟨_, rfl, h⟩
set_option maxHeartbeats 2000000 in
set_option maxRecDepth 20000 in
theorem w_X7_beside_59 {g : xG} {D : va_G} {cy : Nat → ClassId} {ad : Nat → Nat → Nat} {a2 : Int32} {a3 : Int32} {Q : Int32 → xS → Prop} (V : xEnv g D (xTys cy) (shM cy) ad RX7 cX7_beside (some .int) 1 22 7 (xQi Q)) (S : xS) (v4 : Int32) (v5 : Int32) (h : wp_X7_beside_59 a2 a3 Q S v4 v5) : Wx g (xW D (shM cy) ad S) 59 [(2, .int a2), (3, .int a3), (4, .int v4), (5, .int v5)] [] := by
  obtain ⟨X, K, hi, hA, hR, E, hN⟩ := V
  have V := xEnv_mk X K hi hA hR E hN
  unfold wp_X7_beside_59 at h
  refine x_iload_n X 0 dX7_beside_59 rfl ?_
  refine x_iload_n X 1 dX7_beside_60 rfl ?_
  refine x_iadd X dX7_beside_61 ?_
  refine x_istore X [(6, .int (a2 + a3)), (2, .int a2), (3, .int a3), (4, .int v4), (5, .int v5)] dX7_beside_62 (by rw [hN]; decide) rfl ?_
  refine x_iload X 0 dX7_beside_64 rfl ?_
  refine x_iload X 3 dX7_beside_66 rfl ?_
  refine x_icmp_ge X 76 dX7_beside_68 (by decide) h (fun h => ?_) (fun h => ?_)
  · refine x_iload X 0 dX7_beside_76 rfl ?_
    refine x_iload X 4 dX7_beside_78 rfl ?_
    refine x_icmp_le X 88 dX7_beside_80 (by decide) h (fun h => ?_) (fun h => ?_)
    · refine x_iload X 0 dX7_beside_88 rfl ?_
      refine x_sub [] rfl ?_
      exact w_X7_beside_90 V S (a2 + a3) h
    · refine x_iload X 3 dX7_beside_83 rfl ?_
      refine x_goto X 90 dX7_beside_85 (by decide) ?_
      refine x_sub [] rfl ?_
      exact w_X7_beside_90 V S v4 h
  · refine x_iload X 4 dX7_beside_71 rfl ?_
    refine x_goto X 90 dX7_beside_73 (by decide) ?_
    refine x_sub [] rfl ?_
    exact w_X7_beside_90 V S v5 h
set_option maxHeartbeats 2000000 in
set_option maxRecDepth 20000 in
theorem w_X7_beside_25_b {g : xG} {D : va_G} {cy : Nat → ClassId} {ad : Nat → Nat → Nat} {a1 : Int32} {a2 : Int32} {a3 : Int32} {K25 : xS → Int32 → Int32 → Prop} {Q : Int32 → xS → Prop} (V : xEnv g D (xTys cy) (shM cy) ad RX7 cX7_beside (some .int) 1 22 7 (xQi Q)) (hK25 : ∀ (S : xS) (v4 : Int32) (v5 : Int32), K25 S v4 v5 → Wx g (xW D (shM cy) ad S) 25 [(0, .ref (ad 0 0)), (1, .int a1), (2, .int a2), (3, .int a3), (4, .int v4), (5, .int v5)] []) (S : xS) (v4 : Int32) (v5 : Int32) (h : wp_X7_beside_25_b a1 a2 a3 K25 Q S v4 v5) : Wx g (xW D (shM cy) ad S) 25 [(0, .ref (ad 0 0)), (1, .int a1), (2, .int a2), (3, .int a3), (4, .int v4), (5, .int v5)] [] := by
  obtain ⟨X, K, hi, hA, hR, E, hN⟩ := V
  have V := xEnv_mk X K hi hA hR E hN
  unfold wp_X7_beside_25_b at h
  refine x_iload X 5 dX7_beside_25 rfl ?_
  refine x_iconst X (v := 1) dX7_beside_27 (by decide) ?_
  refine x_iadd X dX7_beside_28 ?_
  refine x_aload_n X 0 dX7_beside_29 rfl ?_
  refine x_iload_n X 1 dX7_beside_30 rfl ?_
  refine x_iconst X (v := 2) dX7_beside_31 (by decide) ?_
  refine x_calli hA (x_runV (n := 2) (sh := shM cy) X K hR (fun _ q => q) (m_X7_of hi  h) (kM_0 cy (Nat.zero_lt_one)) rfl rfl t4_208 t4_210 tp_31 t1_8 t4_211 ⟨by decide, by decide, by decide +kernel⟩ rfl (by decide) (by decide) rfl (Nat.le_of_ble_eq_true rfl) dX7_beside_32) (fun r2 S1 h => ?_)
  refine x_icmp_ge X 59 dX7_beside_35 (by decide) h (fun h => ?_) (fun h => ?_)
  · refine x_sub [2, 3, 4, 5] rfl ?_
    exact w_X7_beside_59 V S1 v4 v5 h
  · refine x_aload_n X 0 dX7_beside_38 rfl ?_
    refine x_iload_n X 1 dX7_beside_39 rfl ?_
    refine x_bipush X (v := 52) dX7_beside_40 (by decide) ?_
    refine x_iload X 5 dX7_beside_42 rfl ?_
    refine x_iadd X dX7_beside_44 ?_
    refine x_iconst X (v := 1) dX7_beside_45 (by decide) ?_
    refine x_iadd X dX7_beside_46 ?_
    refine x_calli hA (x_runV (n := 2) (sh := shM cy) X K hR (fun _ q => q) (m_X7_of hi  h) (kM_0 cy (Nat.zero_lt_one)) rfl rfl t4_208 t4_210 tp_31 t1_8 t4_211 ⟨by decide, by decide, by decide +kernel⟩ rfl (by decide) (by decide) rfl (Nat.le_of_ble_eq_true rfl) dX7_beside_47) (fun r4 S3 h => ?_)
    refine x_if_ne X 59 dX7_beside_50 (by decide) h (fun h => ?_) (fun h => ?_)
    · refine x_iinc X 5 [(5, .int (v5 + (1 : Int32))), (0, .ref (ad 0 0)), (1, .int a1), (2, .int a2), (3, .int a3), (4, .int v4)] dX7_beside_53 rfl rfl (by rw [hN]; decide) rfl ?_
      refine x_goto X 25 dX7_beside_56 (by decide) ?_
      refine x_sub [1, 2, 3, 4, 5, 0] rfl ?_
      exact hK25 S3 v4 (v5 + (1 : Int32)) h
    · refine x_sub [2, 3, 4, 5] rfl ?_
      exact w_X7_beside_59 V S3 v4 v5 h
set_option maxHeartbeats 2000000 in
set_option maxRecDepth 20000 in
theorem w_X7_beside_25 {g : xG} {D : va_G} {cy : Nat → ClassId} {ad : Nat → Nat → Nat} {a1 : Int32} {a2 : Int32} {a3 : Int32} {Q : Int32 → xS → Prop} (V : xEnv g D (xTys cy) (shM cy) ad RX7 cX7_beside (some .int) 1 22 7 (xQi Q)) (n : Nat) : ∀ (S : xS) (v4 : Int32) (v5 : Int32), wp_X7_beside_25 a1 a2 a3 Q n S v4 v5 → Wx g (xW D (shM cy) ad S) 25 [(0, .ref (ad 0 0)), (1, .int a1), (2, .int a2), (3, .int a3), (4, .int v4), (5, .int v5)] [] := by
  induction n with
  | zero => intro S v4 v5 h; exact h.elim
  | succ n ih => intro S v4 v5 h; exact w_X7_beside_25_b V (fun S v4 v5 h => ih S v4 v5 h) S v4 v5 h
set_option maxHeartbeats 2000000 in
set_option maxRecDepth 20000 in
theorem w_X7_beside_3_b {g : xG} {D : va_G} {cy : Nat → ClassId} {ad : Nat → Nat → Nat} {a1 : Int32} {a2 : Int32} {a3 : Int32} {K3 : xS → Int32 → Prop} {Q : Int32 → xS → Prop} (V : xEnv g D (xTys cy) (shM cy) ad RX7 cX7_beside (some .int) 1 22 7 (xQi Q)) (hK3 : ∀ (S : xS) (v4 : Int32), K3 S v4 → Wx g (xW D (shM cy) ad S) 3 [(0, .ref (ad 0 0)), (1, .int a1), (2, .int a2), (3, .int a3), (4, .int v4)] []) (S : xS) (v4 : Int32) (h : wp_X7_beside_3_b a1 a2 a3 K3 Q S v4) : Wx g (xW D (shM cy) ad S) 3 [(0, .ref (ad 0 0)), (1, .int a1), (2, .int a2), (3, .int a3), (4, .int v4)] [] := by
  obtain ⟨X, K, hi, hA, hR, E, hN⟩ := V
  have V := xEnv_mk X K hi hA hR E hN
  unfold wp_X7_beside_3_b at h
  refine x_aload_n X 0 dX7_beside_3 rfl ?_
  refine x_iload_n X 1 dX7_beside_4 rfl ?_
  refine x_bipush X (v := 52) dX7_beside_5 (by decide) ?_
  refine x_iload X 4 dX7_beside_7 rfl ?_
  refine x_iadd X dX7_beside_9 ?_
  refine x_calli hA (x_runV (n := 2) (sh := shM cy) X K hR (fun _ q => q) (m_X7_of hi  h) (kM_0 cy (Nat.zero_lt_one)) rfl rfl t4_208 t4_210 tp_31 t1_8 t4_211 ⟨by decide, by decide, by decide +kernel⟩ rfl (by decide) (by decide) rfl (Nat.le_of_ble_eq_true rfl) dX7_beside_10) (fun r2 S1 h => ?_)
  refine x_if_ne X 22 dX7_beside_13 (by decide) h (fun h => ?_) (fun h => ?_)
  · refine x_iinc X 4 [(4, .int (v4 + (-1 : Int32))), (0, .ref (ad 0 0)), (1, .int a1), (2, .int a2), (3, .int a3)] dX7_beside_16 rfl rfl (by rw [hN]; decide) rfl ?_
    refine x_goto X 3 dX7_beside_19 (by decide) ?_
    refine x_sub [1, 2, 3, 4, 0] rfl ?_
    exact hK3 S1 (v4 + (-1 : Int32)) h
  · refine x_iload_n X 2 dX7_beside_22 rfl ?_
    refine x_istore X [(5, .int a2), (0, .ref (ad 0 0)), (1, .int a1), (2, .int a2), (3, .int a3), (4, .int v4)] dX7_beside_23 (by rw [hN]; decide) rfl ?_
    refine x_sub [1, 2, 3, 4, 5, 0] rfl ?_
    obtain ⟨n3, h⟩ := h
    exact w_X7_beside_25 V n3 S1 v4 a2 h
set_option maxHeartbeats 2000000 in
set_option maxRecDepth 20000 in
theorem w_X7_beside_3 {g : xG} {D : va_G} {cy : Nat → ClassId} {ad : Nat → Nat → Nat} {a1 : Int32} {a2 : Int32} {a3 : Int32} {Q : Int32 → xS → Prop} (V : xEnv g D (xTys cy) (shM cy) ad RX7 cX7_beside (some .int) 1 22 7 (xQi Q)) (n : Nat) : ∀ (S : xS) (v4 : Int32), wp_X7_beside_3 a1 a2 a3 Q n S v4 → Wx g (xW D (shM cy) ad S) 3 [(0, .ref (ad 0 0)), (1, .int a1), (2, .int a2), (3, .int a3), (4, .int v4)] [] := by
  induction n with
  | zero => intro S v4 h; exact h.elim
  | succ n ih => intro S v4 h; exact w_X7_beside_3_b V (fun S v4 h => ih S v4 h) S v4 h
set_option maxHeartbeats 2000000 in
set_option maxRecDepth 20000 in
theorem w_X7_beside {g : xG} {D : va_G} {cy : Nat → ClassId} {ad : Nat → Nat → Nat} {a1 : Int32} {a2 : Int32} {a3 : Int32} {S : xS} {Q : Int32 → xS → Prop} (V : xEnv g D (xTys cy) (shM cy) ad RX7 cX7_beside (some .int) 1 22 7 (xQi Q)) (h : wp_X7_beside a1 a2 a3 S Q) : Wx g (xW D (shM cy) ad S) 0 [(0, .ref (ad 0 0)), (1, .int a1), (2, .int a2), (3, .int a3)] [] := by
  obtain ⟨X, K, hi, hA, hR, E, hN⟩ := V
  have V := xEnv_mk X K hi hA hR E hN
  unfold wp_X7_beside at h
  refine x_iload_n X 2 dX7_beside_0 rfl ?_
  refine x_istore X [(4, .int a2), (0, .ref (ad 0 0)), (1, .int a1), (2, .int a2), (3, .int a3)] dX7_beside_1 (by rw [hN]; decide) rfl ?_
  refine x_sub [1, 2, 3, 4, 0] rfl ?_
  obtain ⟨n1, h⟩ := h
  exact w_X7_beside_3 V n1 S a2 h
set_option maxHeartbeats 2000000 in
set_option maxRecDepth 20000 in
theorem m_X7_beside {l : Launch} {D : va_G} {cy : Nat → ClassId} {ad : Nat → Nat → Nat} (hi : xInj (shM cy) ad) {a1 : Int32} {a2 : Int32} {a3 : Int32} {S : xS} {Q : Int32 → xS → Prop} (h : wp_X7_beside a1 a2 a3 S Q) : xMet l D (xTys cy) (shM cy) ad yX7_beside cX7_beside 7 (some .int) (xRm 1 22) [.ref (ad 0 0), .int a1, .int a2, .int a3] S (xQi Q) := xMet_env hi (by decide +kernel) rfl (Nat.le_of_ble_eq_true rfl) (fun g hl V => w_X7_beside V h)
set_option maxHeartbeats 2000000 in
set_option maxRecDepth 20000 in
theorem w_X7_touchedFrom_58 {g : xG} {D : va_G} {cy : Nat → ClassId} {ad : Nat → Nat → Nat} {Q : Int32 → xS → Prop} (V : xEnv g D (xTys cy) (shM cy) ad RX7 cX7_touchedFrom (some .int) 2 48 6 (xQi Q)) (S : xS) (s0 : Int32) (h : wp_X7_touchedFrom_58 Q S s0) : Wx g (xW D (shM cy) ad S) 58 [] [.int s0] := by
  obtain ⟨X, K, hi, hA, hR, E, hN⟩ := V
  have V := xEnv_mk X K hi hA hR E hN
  unfold wp_X7_touchedFrom_58 at h
  exact x_iret X E dX7_touchedFrom_58 ⟨_, rfl, h⟩
set_option maxHeartbeats 2000000 in
set_option maxRecDepth 20000 in
theorem w_X7_touchedFrom_41 {g : xG} {D : va_G} {cy : Nat → ClassId} {ad : Nat → Nat → Nat} {a1 : Int32} {a2 : Int32} {Q : Int32 → xS → Prop} (V : xEnv g D (xTys cy) (shM cy) ad RX7 cX7_touchedFrom (some .int) 2 48 6 (xQi Q)) (S : xS) (v5 : Int32) (h : wp_X7_touchedFrom_41 a1 a2 Q S v5) : Wx g (xW D (shM cy) ad S) 41 [(0, .ref (ad 0 0)), (1, .int a1), (2, .int a2), (5, .int v5)] [] := by
  obtain ⟨X, K, hi, hA, hR, E, hN⟩ := V
  have V := xEnv_mk X K hi hA hR E hN
  unfold wp_X7_touchedFrom_41 at h
  refine x_aload_n X 0 dX7_touchedFrom_41 rfl ?_
  refine x_iload_n X 1 dX7_touchedFrom_42 rfl ?_
  refine x_iload_n X 2 dX7_touchedFrom_43 rfl ?_
  refine x_iload X 3 dX7_touchedFrom_44 rfl ?_
  refine x_calli hA (x_runV (n := 3) (sh := shM cy) X K hR (fun _ q => q) (m_X7_touches hi  h) (kM_0 cy (Nat.zero_lt_one)) rfl rfl t5_31 t5_33 tp_39 t1_8 t5_34 ⟨by decide, by decide, by decide +kernel⟩ rfl (by decide) (by decide) rfl (Nat.le_of_ble_eq_true rfl) dX7_touchedFrom_46) (fun r2 S1 h => ?_)
  refine x_if_eq X 57 dX7_touchedFrom_49 (by decide) h (fun h => ?_) (fun h => ?_)
  · refine x_iconst X (v := -1) dX7_touchedFrom_57 (by decide) ?_
    refine x_sub [] rfl ?_
    exact w_X7_touchedFrom_58 V S1 (-1 : Int32) h
  · refine x_iload X 3 dX7_touchedFrom_52 rfl ?_
    refine x_goto X 58 dX7_touchedFrom_54 (by decide) ?_
    refine x_sub [] rfl ?_
    exact w_X7_touchedFrom_58 V S1 v5 h
set_option maxHeartbeats 2000000 in
set_option maxRecDepth 20000 in
theorem w_X7_touchedFrom_10_b {g : xG} {D : va_G} {cy : Nat → ClassId} {ad : Nat → Nat → Nat} {a1 : Int32} {a2 : Int32} {a3 : Int32} {a4 : Int32} {K10 : xS → Int32 → Prop} {Q : Int32 → xS → Prop} (V : xEnv g D (xTys cy) (shM cy) ad RX7 cX7_touchedFrom (some .int) 2 48 6 (xQi Q)) (hK10 : ∀ (S : xS) (v5 : Int32), K10 S v5 → Wx g (xW D (shM cy) ad S) 10 [(0, .ref (ad 0 0)), (1, .int a1), (2, .int a2), (3, .int a3), (4, .int a4), (5, .int v5)] []) (S : xS) (v5 : Int32) (h : wp_X7_touchedFrom_10_b a1 a2 a3 a4 K10 Q S v5) : Wx g (xW D (shM cy) ad S) 10 [(0, .ref (ad 0 0)), (1, .int a1), (2, .int a2), (3, .int a3), (4, .int a4), (5, .int v5)] [] := by
  obtain ⟨X, K, hi, hA, hR, E, hN⟩ := V
  have V := xEnv_mk X K hi hA hR E hN
  unfold wp_X7_touchedFrom_10_b at h
  refine x_iload X 5 dX7_touchedFrom_10 rfl ?_
  refine x_iload_n X 3 dX7_touchedFrom_12 rfl ?_
  refine x_icmp_eq X 41 dX7_touchedFrom_13 (by decide) h (fun h => ?_) (fun h => ?_)
  · refine x_sub [0, 1, 2, 5] rfl ?_
    exact w_X7_touchedFrom_41 V S v5 h
  · refine x_aload_n X 0 dX7_touchedFrom_16 rfl ?_
    refine x_iload_n X 1 dX7_touchedFrom_17 rfl ?_
    refine x_iload_n X 2 dX7_touchedFrom_18 rfl ?_
    refine x_iload X 5 dX7_touchedFrom_19 rfl ?_
    refine x_calli hA (x_runV (n := 3) (sh := shM cy) X K hR (fun _ q => q) (m_X7_touches hi  h) (kM_0 cy (Nat.zero_lt_one)) rfl rfl t5_31 t5_33 tp_39 t1_8 t5_34 ⟨by decide, by decide, by decide +kernel⟩ rfl (by decide) (by decide) rfl (Nat.le_of_ble_eq_true rfl) dX7_touchedFrom_21) (fun r2 S1 h => ?_)
    refine x_if_ne X 41 dX7_touchedFrom_24 (by decide) h (fun h => ?_) (fun h => ?_)
    · refine x_aload_n X 0 dX7_touchedFrom_27 rfl ?_
      refine x_iload_n X 1 dX7_touchedFrom_28 rfl ?_
      refine x_iload X 5 dX7_touchedFrom_29 rfl ?_
      refine x_iload X 4 dX7_touchedFrom_31 rfl ?_
      refine x_calli hA (x_runV (n := 3) (sh := shM cy) X K hR (fun _ q => q) (m_X7_beside hi  h) (kM_0 cy (Nat.zero_lt_one)) rfl rfl t5_59 t5_61 tp_44 t1_8 t5_62 ⟨by decide, by decide, by decide +kernel⟩ rfl (by decide) (by decide) rfl (Nat.le_of_ble_eq_true rfl) dX7_touchedFrom_33) (fun r4 S3 h => ?_)
      refine x_istore X [(5, .int r4), (0, .ref (ad 0 0)), (1, .int a1), (2, .int a2), (3, .int a3), (4, .int a4)] dX7_touchedFrom_36 (by rw [hN]; decide) rfl ?_
      refine x_goto X 10 dX7_touchedFrom_38 (by decide) ?_
      refine x_sub [1, 2, 3, 4, 5, 0] rfl ?_
      exact hK10 S3 r4 h
    · refine x_sub [0, 1, 2, 5] rfl ?_
      exact w_X7_touchedFrom_41 V S1 v5 h
set_option maxHeartbeats 2000000 in
set_option maxRecDepth 20000 in
theorem w_X7_touchedFrom_10 {g : xG} {D : va_G} {cy : Nat → ClassId} {ad : Nat → Nat → Nat} {a1 : Int32} {a2 : Int32} {a3 : Int32} {a4 : Int32} {Q : Int32 → xS → Prop} (V : xEnv g D (xTys cy) (shM cy) ad RX7 cX7_touchedFrom (some .int) 2 48 6 (xQi Q)) (n : Nat) : ∀ (S : xS) (v5 : Int32), wp_X7_touchedFrom_10 a1 a2 a3 a4 Q n S v5 → Wx g (xW D (shM cy) ad S) 10 [(0, .ref (ad 0 0)), (1, .int a1), (2, .int a2), (3, .int a3), (4, .int a4), (5, .int v5)] [] := by
  induction n with
  | zero => intro S v5 h; exact h.elim
  | succ n ih => intro S v5 h; exact w_X7_touchedFrom_10_b V (fun S v5 h => ih S v5 h) S v5 h
set_option maxHeartbeats 2000000 in
set_option maxRecDepth 20000 in
theorem w_X7_touchedFrom {g : xG} {D : va_G} {cy : Nat → ClassId} {ad : Nat → Nat → Nat} {a1 : Int32} {a2 : Int32} {a3 : Int32} {a4 : Int32} {S : xS} {Q : Int32 → xS → Prop} (V : xEnv g D (xTys cy) (shM cy) ad RX7 cX7_touchedFrom (some .int) 2 48 6 (xQi Q)) (h : wp_X7_touchedFrom a1 a2 a3 a4 S Q) : Wx g (xW D (shM cy) ad S) 0 [(0, .ref (ad 0 0)), (1, .int a1), (2, .int a2), (3, .int a3), (4, .int a4)] [] := by
  obtain ⟨X, K, hi, hA, hR, E, hN⟩ := V
  have V := xEnv_mk X K hi hA hR E hN
  unfold wp_X7_touchedFrom at h
  refine x_aload_n X 0 dX7_touchedFrom_0 rfl ?_
  refine x_iload_n X 1 dX7_touchedFrom_1 rfl ?_
  refine x_iload_n X 3 dX7_touchedFrom_2 rfl ?_
  refine x_iload X 4 dX7_touchedFrom_3 rfl ?_
  refine x_calli hA (x_runV (n := 3) (sh := shM cy) X K hR (fun _ q => q) (m_X7_beside hi  h) (kM_0 cy Nat.zero_lt_one) rfl rfl t5_59 t5_61 tp_44 t1_8 t5_62 ⟨by decide, by decide, by decide +kernel⟩ rfl (by decide) (by decide) rfl (Nat.le_of_ble_eq_true rfl) dX7_touchedFrom_5) (fun r2 S1 h => ?_)
  refine x_istore X [(5, .int r2), (0, .ref (ad 0 0)), (1, .int a1), (2, .int a2), (3, .int a3), (4, .int a4)] dX7_touchedFrom_8 (by rw [hN]; decide) rfl ?_
  refine x_sub [1, 2, 3, 4, 5, 0] rfl ?_
  obtain ⟨n3, h⟩ := h
  exact w_X7_touchedFrom_10 V n3 S1 r2 h
set_option maxHeartbeats 2000000 in
set_option maxRecDepth 20000 in
theorem m_X7_touchedFrom {l : Launch} {D : va_G} {cy : Nat → ClassId} {ad : Nat → Nat → Nat} (hi : xInj (shM cy) ad) {a1 : Int32} {a2 : Int32} {a3 : Int32} {a4 : Int32} {S : xS} {Q : Int32 → xS → Prop} (h : wp_X7_touchedFrom a1 a2 a3 a4 S Q) : xMet l D (xTys cy) (shM cy) ad yX7_touchedFrom cX7_touchedFrom 6 (some .int) (xRm 2 48) [.ref (ad 0 0), .int a1, .int a2, .int a3, .int a4] S (xQi Q) := xMet_env hi (by decide +kernel) rfl (Nat.le_of_ble_eq_true rfl) (fun g hl V => w_X7_touchedFrom V h)
set_option maxHeartbeats 2000000 in
set_option maxRecDepth 20000 in
theorem w_X7_deltaOf_36 {g : xG} {D : va_G} {cy : Nat → ClassId} {ad : Nat → Nat → Nat} {Q : Int32 → xS → Prop} (V : xEnv g D (xTys cy) (shM cy) ad RX7 cX7_deltaOf (some .int) 3 73 16 (xQi Q)) (S : xS) (h : wp_X7_deltaOf_36 Q S) : Wx g (xW D (shM cy) ad S) 36 [] [] := by
  obtain ⟨X, K, hi, hA, hR, E, hN⟩ := V
  have V := xEnv_mk X K hi hA hR E hN
  unfold wp_X7_deltaOf_36 at h
  refine x_iconst X (v := 0) dX7_deltaOf_36 (by decide) ?_
  exact x_iret X E dX7_deltaOf_37 ⟨_, rfl, h⟩
set_option maxHeartbeats 2000000 in
set_option maxRecDepth 20000 in
theorem w_X7_deltaOf_138 {g : xG} {D : va_G} {cy : Nat → ClassId} {ad : Nat → Nat → Nat} {Q : Int32 → xS → Prop} (V : xEnv g D (xTys cy) (shM cy) ad RX7 cX7_deltaOf (some .int) 3 73 16 (xQi Q)) (S : xS) (s0 : Int32) (h : wp_X7_deltaOf_138 Q S s0) : Wx g (xW D (shM cy) ad S) 138 [] [.int s0] := by
  obtain ⟨X, K, hi, hA, hR, E, hN⟩ := V
  have V := xEnv_mk X K hi hA hR E hN
  unfold wp_X7_deltaOf_138 at h
  exact x_iret X E dX7_deltaOf_138 ⟨_, rfl, h⟩
set_option maxHeartbeats 2000000 in
set_option maxRecDepth 20000 in
theorem w_X7_deltaOf_302 {g : xG} {D : va_G} {cy : Nat → ClassId} {ad : Nat → Nat → Nat} {Q : Int32 → xS → Prop} (V : xEnv g D (xTys cy) (shM cy) ad RX7 cX7_deltaOf (some .int) 3 73 16 (xQi Q)) (S : xS) (s0 : Int32) (h : wp_X7_deltaOf_302 Q S s0) : Wx g (xW D (shM cy) ad S) 302 [] [.int s0] := by
  obtain ⟨X, K, hi, hA, hR, E, hN⟩ := V
  have V := xEnv_mk X K hi hA hR E hN
  unfold wp_X7_deltaOf_302 at h
  exact x_iret X E dX7_deltaOf_302 ⟨_, rfl, h⟩
set_option maxHeartbeats 2000000 in
set_option maxRecDepth 20000 in
theorem w_X7_deltaOf_239 {g : xG} {D : va_G} {cy : Nat → ClassId} {ad : Nat → Nat → Nat} {a1 : Int32} {a3 : Int32} {Q : Int32 → xS → Prop} (V : xEnv g D (xTys cy) (shM cy) ad RX7 cX7_deltaOf (some .int) 3 73 16 (xQi Q)) (S : xS) (v7 : Int32) (v11 : Int32) (v12 : Int32) (v13 : Int32) (s0 : Int32) (h : wp_X7_deltaOf_239 a1 a3 Q S v7 v11 v12 v13 s0) : Wx g (xW D (shM cy) ad S) 239 [(0, .ref (ad 0 0)), (1, .int a1), (3, .int a3), (7, .int v7), (11, .int v11), (12, .int v12), (13, .int v13)] [.int s0] := by
  obtain ⟨X, K, hi, hA, hR, E, hN⟩ := V
  have V := xEnv_mk X K hi hA hR E hN
  unfold wp_X7_deltaOf_239 at h
  refine x_istore X [(14, .int s0), (0, .ref (ad 0 0)), (1, .int a1), (3, .int a3), (7, .int v7), (11, .int v11), (12, .int v12), (13, .int v13)] dX7_deltaOf_239 (by rw [hN]; decide) rfl ?_
  refine x_aload_n X 1 dX7_deltaOf_241 rfl ?_
  refine x_iload_n X 2 dX7_deltaOf_242 rfl ?_
  refine x_iload X 4 dX7_deltaOf_243 rfl ?_
  refine x_iload_n X 3 dX7_deltaOf_245 rfl ?_
  refine x_iadd X dX7_deltaOf_246 ?_
  refine x_calli hA (x_runV (n := 2) (sh := shM cy) X K hR (fun _ q => q) (m_X7_of hi  h) (kM_0 cy (Nat.zero_lt_one)) rfl rfl t4_208 t4_210 tp_31 t1_8 t4_211 ⟨by decide, by decide, by decide +kernel⟩ rfl (by decide) (by decide) rfl (Nat.le_of_ble_eq_true rfl) dX7_deltaOf_247) (fun r2 S1 h => ?_)
  refine x_istore X [(15, .int r2), (14, .int s0), (0, .ref (ad 0 0)), (1, .int a1), (3, .int a3), (7, .int v7), (11, .int v11), (12, .int v12), (13, .int v13)] dX7_deltaOf_250 (by rw [hN]; decide) rfl ?_
  refine x_iload X 0 dX7_deltaOf_252 rfl ?_
  refine x_iload X 6 dX7_deltaOf_254 rfl ?_
  refine x_icmp_gt X 264 dX7_deltaOf_256 (by decide) h (fun h => ?_) (fun h => ?_)
  · refine x_iload X 0 dX7_deltaOf_264 rfl ?_
    refine x_iload X 7 dX7_deltaOf_266 rfl ?_
    refine x_icmp_lt X 276 dX7_deltaOf_268 (by decide) h (fun h => ?_) (fun h => ?_)
    · refine x_iload X 8 dX7_deltaOf_276 rfl ?_
      refine x_iload X 0 dX7_deltaOf_278 rfl ?_
      refine x_iload X 6 dX7_deltaOf_280 rfl ?_
      refine x_isub X dX7_deltaOf_282 ?_
      refine x_i2l X dX7_deltaOf_283 ?_
      refine x_iload X 1 dX7_deltaOf_284 rfl ?_
      refine x_iload X 8 dX7_deltaOf_286 rfl ?_
      refine x_isub X dX7_deltaOf_288 ?_
      refine x_i2l X dX7_deltaOf_289 ?_
      refine x_lmul X dX7_deltaOf_290 ?_
      refine x_iload X 7 dX7_deltaOf_291 rfl ?_
      refine x_iload X 6 dX7_deltaOf_293 rfl ?_
      refine x_isub X dX7_deltaOf_295 ?_
      refine x_i2l X dX7_deltaOf_296 ?_
      refine x_calll hA (x_runS (n := 2) X K hR (fun _ q => q) (m_X7_near hi  h) t4_161 t4_162 t1_8 t4_163 ⟨by decide, by decide, by decide +kernel⟩ rfl (by decide) (by decide) rfl (Nat.le_of_ble_eq_true rfl) dX7_deltaOf_297) (fun r4 S3 h => ?_)
      refine x_l2i X dX7_deltaOf_300 ?_
      refine x_iadd X dX7_deltaOf_301 ?_
      refine x_sub [] rfl ?_
      exact w_X7_deltaOf_302 V S3 (v13 + (Int64.toInt32 r4)) h
    · refine x_iload X 1 dX7_deltaOf_271 rfl ?_
      refine x_goto X 302 dX7_deltaOf_273 (by decide) ?_
      refine x_sub [] rfl ?_
      exact w_X7_deltaOf_302 V S1 s0 h
  · refine x_iload X 8 dX7_deltaOf_259 rfl ?_
    refine x_goto X 302 dX7_deltaOf_261 (by decide) ?_
    refine x_sub [] rfl ?_
    exact w_X7_deltaOf_302 V S1 v13 h
set_option maxHeartbeats 2000000 in
set_option maxRecDepth 20000 in
theorem w_X7_deltaOf_225 {g : xG} {D : va_G} {cy : Nat → ClassId} {ad : Nat → Nat → Nat} {a1 : Int32} {a3 : Int32} {Q : Int32 → xS → Prop} (V : xEnv g D (xTys cy) (shM cy) ad RX7 cX7_deltaOf (some .int) 3 73 16 (xQi Q)) (S : xS) (v7 : Int32) (v8 : Int32) (v9 : Int32) (v10 : Int32) (v11 : Int32) (v12 : Int32) (s0 : Int32) (h : wp_X7_deltaOf_225 a1 a3 Q S v7 v8 v9 v10 v11 v12 s0) : Wx g (xW D (shM cy) ad S) 225 [(0, .ref (ad 0 0)), (1, .int a1), (3, .int a3), (7, .int v7), (8, .int v8), (9, .int v9), (10, .int v10), (11, .int v11), (12, .int v12)] [.int s0] := by
  obtain ⟨X, K, hi, hA, hR, E, hN⟩ := V
  have V := xEnv_mk X K hi hA hR E hN
  unfold wp_X7_deltaOf_225 at h
  refine x_istore X [(13, .int s0), (0, .ref (ad 0 0)), (1, .int a1), (3, .int a3), (7, .int v7), (8, .int v8), (9, .int v9), (10, .int v10), (11, .int v11), (12, .int v12)] dX7_deltaOf_225 (by rw [hN]; decide) rfl ?_
  refine x_iload X 7 dX7_deltaOf_227 rfl ?_
  refine x_if_eq X 237 dX7_deltaOf_229 (by decide) h (fun h => ?_) (fun h => ?_)
  · refine x_iload X 5 dX7_deltaOf_237 rfl ?_
    refine x_sub [1, 2, 3, 4, 8, 9, 0] rfl ?_
    exact w_X7_deltaOf_239 V S v7 v11 v12 s0 v8 h
  · refine x_iload X 6 dX7_deltaOf_232 rfl ?_
    refine x_goto X 239 dX7_deltaOf_234 (by decide) ?_
    refine x_sub [1, 2, 3, 4, 8, 9, 0] rfl ?_
    exact w_X7_deltaOf_239 V S v7 v11 v12 s0 v9 h
set_option maxHeartbeats 2000000 in
set_option maxRecDepth 20000 in
theorem w_X7_deltaOf_207 {g : xG} {D : va_G} {cy : Nat → ClassId} {ad : Nat → Nat → Nat} {a1 : Int32} {a3 : Int32} {Q : Int32 → xS → Prop} (V : xEnv g D (xTys cy) (shM cy) ad RX7 cX7_deltaOf (some .int) 3 73 16 (xQi Q)) (S : xS) (v7 : Int32) (v8 : Int32) (v9 : Int32) (v10 : Int32) (v11 : Int32) (s1 : Int32) (s2 : Int32) (s3 : Int32) (h : wp_X7_deltaOf_207 a1 a3 Q S v7 v8 v9 v10 v11 s1 s2 s3) : Wx g (xW D (shM cy) ad S) 207 [(0, .ref (ad 0 0)), (1, .int a1), (3, .int a3), (7, .int v7), (8, .int v8), (9, .int v9), (10, .int v10), (11, .int v11)] [.int s3, .int s2, .int s1, .ref (ad 0 0)] := by
  obtain ⟨X, K, hi, hA, hR, E, hN⟩ := V
  have V := xEnv_mk X K hi hA hR E hN
  unfold wp_X7_deltaOf_207 at h
  refine x_iadd X dX7_deltaOf_207 ?_
  refine x_calli hA (x_runV (n := 2) (sh := shM cy) X K hR (fun _ q => q) (m_X7_of hi  h) (kM_0 cy (Nat.zero_lt_one)) rfl rfl t4_208 t4_210 tp_31 t1_8 t4_211 ⟨by decide, by decide, by decide +kernel⟩ rfl (by decide) (by decide) rfl (Nat.le_of_ble_eq_true rfl) dX7_deltaOf_208) (fun r2 S1 h => ?_)
  refine x_istore X [(12, .int r2), (0, .ref (ad 0 0)), (1, .int a1), (3, .int a3), (7, .int v7), (8, .int v8), (9, .int v9), (10, .int v10), (11, .int v11)] dX7_deltaOf_211 (by rw [hN]; decide) rfl ?_
  refine x_iload X 7 dX7_deltaOf_213 rfl ?_
  refine x_if_eq X 223 dX7_deltaOf_215 (by decide) h (fun h => ?_) (fun h => ?_)
  · refine x_iload X 6 dX7_deltaOf_223 rfl ?_
    refine x_sub [1, 2, 3, 4, 5, 6, 7, 8, 0] rfl ?_
    exact w_X7_deltaOf_225 V S1 v7 v8 v9 v10 v11 r2 v9 h
  · refine x_iload X 5 dX7_deltaOf_218 rfl ?_
    refine x_goto X 225 dX7_deltaOf_220 (by decide) ?_
    refine x_sub [1, 2, 3, 4, 5, 6, 7, 8, 0] rfl ?_
    exact w_X7_deltaOf_225 V S1 v7 v8 v9 v10 v11 r2 v8 h
set_option maxHeartbeats 2000000 in
set_option maxRecDepth 20000 in
theorem w_X7_deltaOf_185 {g : xG} {D : va_G} {cy : Nat → ClassId} {ad : Nat → Nat → Nat} {a1 : Int32} {a3 : Int32} {Q : Int32 → xS → Prop} (V : xEnv g D (xTys cy) (shM cy) ad RX7 cX7_deltaOf (some .int) 3 73 16 (xQi Q)) (S : xS) (v5 : Int32) (v6 : Int32) (v7 : Int32) (v8 : Int32) (v9 : Int32) (v10 : Int32) (s1 : Int32) (s2 : Int32) (s3 : Int32) (h : wp_X7_deltaOf_185 a1 a3 Q S v5 v6 v7 v8 v9 v10 s1 s2 s3) : Wx g (xW D (shM cy) ad S) 185 [(0, .ref (ad 0 0)), (1, .int a1), (3, .int a3), (5, .int v5), (6, .int v6), (7, .int v7), (8, .int v8), (9, .int v9), (10, .int v10)] [.int s3, .int s2, .int s1, .ref (ad 0 0)] := by
  obtain ⟨X, K, hi, hA, hR, E, hN⟩ := V
  have V := xEnv_mk X K hi hA hR E hN
  unfold wp_X7_deltaOf_185 at h
  refine x_iadd X dX7_deltaOf_185 ?_
  refine x_calli hA (x_runV (n := 2) (sh := shM cy) X K hR (fun _ q => q) (m_X7_of hi  h) (kM_0 cy (Nat.zero_lt_one)) rfl rfl t4_208 t4_210 tp_31 t1_8 t4_211 ⟨by decide, by decide, by decide +kernel⟩ rfl (by decide) (by decide) rfl (Nat.le_of_ble_eq_true rfl) dX7_deltaOf_186) (fun r2 S1 h => ?_)
  refine x_istore X [(11, .int r2), (0, .ref (ad 0 0)), (1, .int a1), (3, .int a3), (5, .int v5), (6, .int v6), (7, .int v7), (8, .int v8), (9, .int v9), (10, .int v10)] dX7_deltaOf_189 (by rw [hN]; decide) rfl ?_
  refine x_aload_n X 1 dX7_deltaOf_191 rfl ?_
  refine x_iload_n X 2 dX7_deltaOf_192 rfl ?_
  refine x_iload X 6 dX7_deltaOf_193 rfl ?_
  refine x_iload X 9 dX7_deltaOf_195 rfl ?_
  refine x_if_eq X 205 dX7_deltaOf_197 (by decide) h (fun h => ?_) (fun h => ?_)
  · refine x_iload X 4 dX7_deltaOf_205 rfl ?_
    refine x_sub [1, 2, 3, 6, 7, 8, 9, 0] rfl ?_
    exact w_X7_deltaOf_207 V S1 v7 v8 v9 v10 r2 a1 v7 v5 h
  · refine x_iload X 5 dX7_deltaOf_200 rfl ?_
    refine x_goto X 207 dX7_deltaOf_202 (by decide) ?_
    refine x_sub [1, 2, 3, 6, 7, 8, 9, 0] rfl ?_
    exact w_X7_deltaOf_207 V S1 v7 v8 v9 v10 r2 a1 v7 v6 h
set_option maxHeartbeats 2000000 in
set_option maxRecDepth 20000 in
theorem w_X7_deltaOf_167 {g : xG} {D : va_G} {cy : Nat → ClassId} {ad : Nat → Nat → Nat} {a1 : Int32} {a3 : Int32} {Q : Int32 → xS → Prop} (V : xEnv g D (xTys cy) (shM cy) ad RX7 cX7_deltaOf (some .int) 3 73 16 (xQi Q)) (S : xS) (v5 : Int32) (v6 : Int32) (v7 : Int32) (v8 : Int32) (v9 : Int32) (s0 : Int32) (h : wp_X7_deltaOf_167 a1 a3 Q S v5 v6 v7 v8 v9 s0) : Wx g (xW D (shM cy) ad S) 167 [(0, .ref (ad 0 0)), (1, .int a1), (3, .int a3), (5, .int v5), (6, .int v6), (7, .int v7), (8, .int v8), (9, .int v9)] [.int s0] := by
  obtain ⟨X, K, hi, hA, hR, E, hN⟩ := V
  have V := xEnv_mk X K hi hA hR E hN
  unfold wp_X7_deltaOf_167 at h
  refine x_istore X [(10, .int s0), (0, .ref (ad 0 0)), (1, .int a1), (3, .int a3), (5, .int v5), (6, .int v6), (7, .int v7), (8, .int v8), (9, .int v9)] dX7_deltaOf_167 (by rw [hN]; decide) rfl ?_
  refine x_aload_n X 1 dX7_deltaOf_169 rfl ?_
  refine x_iload_n X 2 dX7_deltaOf_170 rfl ?_
  refine x_iload X 6 dX7_deltaOf_171 rfl ?_
  refine x_iload X 0 dX7_deltaOf_173 rfl ?_
  refine x_if_eq X 183 dX7_deltaOf_175 (by decide) h (fun h => ?_) (fun h => ?_)
  · refine x_iload X 5 dX7_deltaOf_183 rfl ?_
    refine x_sub [1, 2, 3, 4, 5, 6, 7, 8, 0] rfl ?_
    exact w_X7_deltaOf_185 V S v5 v6 v7 v8 v9 s0 a1 v7 v6 h
  · refine x_iload X 4 dX7_deltaOf_178 rfl ?_
    refine x_goto X 185 dX7_deltaOf_180 (by decide) ?_
    refine x_sub [1, 2, 3, 4, 5, 6, 7, 8, 0] rfl ?_
    exact w_X7_deltaOf_185 V S v5 v6 v7 v8 v9 s0 a1 v7 v5 h
set_option maxHeartbeats 2000000 in
set_option maxRecDepth 20000 in
theorem w_X7_deltaOf_76 {g : xG} {D : va_G} {cy : Nat → ClassId} {ad : Nat → Nat → Nat} {a1 : Int32} {a2 : Int32} {a3 : Int32} {a4 : Int32} {Q : Int32 → xS → Prop} (V : xEnv g D (xTys cy) (shM cy) ad RX7 cX7_deltaOf (some .int) 3 73 16 (xQi Q)) (S : xS) (v5 : Int32) (v6 : Int32) (s0 : Int32) (h : wp_X7_deltaOf_76 a1 a2 a3 a4 Q S v5 v6 s0) : Wx g (xW D (shM cy) ad S) 76 [(0, .ref (ad 0 0)), (1, .int a1), (2, .int a2), (3, .int a3), (4, .int a4), (5, .int v5), (6, .int v6)] [.int s0] := by
  obtain ⟨X, K, hi, hA, hR, E, hN⟩ := V
  have V := xEnv_mk X K hi hA hR E hN
  unfold wp_X7_deltaOf_76 at h
  refine x_istore X [(7, .int s0), (0, .ref (ad 0 0)), (1, .int a1), (2, .int a2), (3, .int a3), (4, .int a4), (5, .int v5), (6, .int v6)] dX7_deltaOf_76 (by rw [hN]; decide) rfl ?_
  refine x_aload_n X 1 dX7_deltaOf_78 rfl ?_
  refine x_iload_n X 2 dX7_deltaOf_79 rfl ?_
  refine x_iload_n X 3 dX7_deltaOf_80 rfl ?_
  refine x_iload X 6 dX7_deltaOf_81 rfl ?_
  refine x_iload X 5 dX7_deltaOf_83 rfl ?_
  refine x_calli hA (x_runV (n := 4) (sh := shM cy) X K hR (fun _ q => q) (m_X7_given hi  h) (kM_0 cy (Nat.zero_lt_one)) rfl rfl t5_51 t5_53 tp_42 t1_8 t5_54 ⟨by decide, by decide, by decide +kernel⟩ rfl (by decide) (by decide) rfl (Nat.le_of_ble_eq_true rfl) dX7_deltaOf_85) (fun r2 S1 h => ?_)
  refine x_istore X [(8, .int r2), (7, .int s0), (0, .ref (ad 0 0)), (1, .int a1), (2, .int a2), (3, .int a3), (4, .int a4), (5, .int v5), (6, .int v6)] dX7_deltaOf_88 (by rw [hN]; decide) rfl ?_
  refine x_aload_n X 2 dX7_deltaOf_90 rfl ?_
  refine x_iload_n X 3 dX7_deltaOf_91 rfl ?_
  refine x_iload_n X 4 dX7_deltaOf_92 rfl ?_
  refine x_iload X 8 dX7_deltaOf_93 rfl ?_
  refine x_iload X 6 dX7_deltaOf_95 rfl ?_
  refine x_calli hA (x_runV (n := 4) (sh := shM cy) X K hR (fun _ q => q) (m_X7_given hi  h) (kM_0 cy (Nat.zero_lt_one)) rfl rfl t5_51 t5_53 tp_42 t1_8 t5_54 ⟨by decide, by decide, by decide +kernel⟩ rfl (by decide) (by decide) rfl (Nat.le_of_ble_eq_true rfl) dX7_deltaOf_97) (fun r4 S3 h => ?_)
  refine x_istore X [(9, .int r4), (8, .int r2), (7, .int s0), (0, .ref (ad 0 0)), (1, .int a1), (2, .int a2), (3, .int a3), (4, .int a4), (5, .int v5), (6, .int v6)] dX7_deltaOf_100 (by rw [hN]; decide) rfl ?_
  refine x_aload_n X 3 dX7_deltaOf_102 rfl ?_
  refine x_iload_n X 4 dX7_deltaOf_103 rfl ?_
  refine x_iload X 2 dX7_deltaOf_104 rfl ?_
  refine x_iload X 8 dX7_deltaOf_106 rfl ?_
  refine x_iadd X dX7_deltaOf_108 ?_
  refine x_calli hA (x_runV (n := 2) (sh := shM cy) X K hR (fun _ q => q) (m_X7_of hi  h) (kM_0 cy (Nat.zero_lt_one)) rfl rfl t4_208 t4_210 tp_31 t1_8 t4_211 ⟨by decide, by decide, by decide +kernel⟩ rfl (by decide) (by decide) rfl (Nat.le_of_ble_eq_true rfl) dX7_deltaOf_109) (fun r6 S5 h => ?_)
  refine x_aload_n X 3 dX7_deltaOf_112 rfl ?_
  refine x_iload_n X 4 dX7_deltaOf_113 rfl ?_
  refine x_iload X 2 dX7_deltaOf_114 rfl ?_
  refine x_iload X 9 dX7_deltaOf_116 rfl ?_
  refine x_iadd X dX7_deltaOf_118 ?_
  refine x_calli hA (x_runV (n := 2) (sh := shM cy) X K hR (fun _ q => q) (m_X7_of hi  h) (kM_0 cy (Nat.zero_lt_one)) rfl rfl t4_208 t4_210 tp_31 t1_8 t4_211 ⟨by decide, by decide, by decide +kernel⟩ rfl (by decide) (by decide) rfl (Nat.le_of_ble_eq_true rfl) dX7_deltaOf_119) (fun r8 S7 h => ?_)
  refine x_icmp_ne X 139 dX7_deltaOf_122 (by decide) h (fun h => ?_) (fun h => ?_)
  · refine x_iload X 1 dX7_deltaOf_125 rfl ?_
    refine x_iload X 0 dX7_deltaOf_127 rfl ?_
    refine x_icmp_ne X 137 dX7_deltaOf_129 (by decide) h (fun h => ?_) (fun h => ?_)
    · refine x_iload X 1 dX7_deltaOf_132 rfl ?_
      refine x_goto X 138 dX7_deltaOf_134 (by decide) ?_
      refine x_sub [] rfl ?_
      exact w_X7_deltaOf_138 V S7 r2 h
    · refine x_iconst X (v := 0) dX7_deltaOf_137 (by decide) ?_
      refine x_sub [] rfl ?_
      exact w_X7_deltaOf_138 V S7 (0 : Int32) h
  · refine x_aload_n X 3 dX7_deltaOf_139 rfl ?_
    refine x_iload_n X 4 dX7_deltaOf_140 rfl ?_
    refine x_iload X 2 dX7_deltaOf_141 rfl ?_
    refine x_iload X 8 dX7_deltaOf_143 rfl ?_
    refine x_iadd X dX7_deltaOf_145 ?_
    refine x_calli hA (x_runV (n := 2) (sh := shM cy) X K hR (fun _ q => q) (m_X7_of hi  h) (kM_0 cy (Nat.zero_lt_one)) rfl rfl t4_208 t4_210 tp_31 t1_8 t4_211 ⟨by decide, by decide, by decide +kernel⟩ rfl (by decide) (by decide) rfl (Nat.le_of_ble_eq_true rfl) dX7_deltaOf_146) (fun r10 S9 h => ?_)
    refine x_aload_n X 3 dX7_deltaOf_149 rfl ?_
    refine x_iload_n X 4 dX7_deltaOf_150 rfl ?_
    refine x_iload X 2 dX7_deltaOf_151 rfl ?_
    refine x_iload X 9 dX7_deltaOf_153 rfl ?_
    refine x_iadd X dX7_deltaOf_155 ?_
    refine x_calli hA (x_runV (n := 2) (sh := shM cy) X K hR (fun _ q => q) (m_X7_of hi  h) (kM_0 cy (Nat.zero_lt_one)) rfl rfl t4_208 t4_210 tp_31 t1_8 t4_211 ⟨by decide, by decide, by decide +kernel⟩ rfl (by decide) (by decide) rfl (Nat.le_of_ble_eq_true rfl) dX7_deltaOf_156) (fun r12 S11 h => ?_)
    refine x_icmp_ge X 166 dX7_deltaOf_159 (by decide) h (fun h => ?_) (fun h => ?_)
    · refine x_iconst X (v := 0) dX7_deltaOf_166 (by decide) ?_
      refine x_sub [3, 4, 6, 8, 9, 2, 1, 0] rfl ?_
      exact w_X7_deltaOf_167 V S11 v5 v6 s0 r2 r4 (0 : Int32) h
    · refine x_iconst X (v := 1) dX7_deltaOf_162 (by decide) ?_
      refine x_goto X 167 dX7_deltaOf_163 (by decide) ?_
      refine x_sub [3, 4, 6, 8, 9, 2, 1, 0] rfl ?_
      exact w_X7_deltaOf_167 V S11 v5 v6 s0 r2 r4 (1 : Int32) h
set_option maxHeartbeats 2000000 in
set_option maxRecDepth 20000 in
theorem w_X7_deltaOf {g : xG} {D : va_G} {cy : Nat → ClassId} {ad : Nat → Nat → Nat} {a1 : Int32} {a2 : Int32} {a3 : Int32} {a4 : Int32} {S : xS} {Q : Int32 → xS → Prop} (V : xEnv g D (xTys cy) (shM cy) ad RX7 cX7_deltaOf (some .int) 3 73 16 (xQi Q)) (h : wp_X7_deltaOf a1 a2 a3 a4 S Q) : Wx g (xW D (shM cy) ad S) 0 [(0, .ref (ad 0 0)), (1, .int a1), (2, .int a2), (3, .int a3), (4, .int a4)] [] := by
  obtain ⟨X, K, hi, hA, hR, E, hN⟩ := V
  have V := xEnv_mk X K hi hA hR E hN
  unfold wp_X7_deltaOf at h
  refine x_aload_n X 0 dX7_deltaOf_0 rfl ?_
  refine x_iload_n X 1 dX7_deltaOf_1 rfl ?_
  refine x_iload_n X 2 dX7_deltaOf_2 rfl ?_
  refine x_iload_n X 3 dX7_deltaOf_3 rfl ?_
  refine x_calli hA (x_runV (n := 3) (sh := shM cy) X K hR (fun _ q => q) (m_X7_touches hi  h) (kM_0 cy Nat.zero_lt_one) rfl rfl t5_31 t5_33 tp_39 t1_8 t5_34 ⟨by decide, by decide, by decide +kernel⟩ rfl (by decide) (by decide) rfl (Nat.le_of_ble_eq_true rfl) dX7_deltaOf_4) (fun r2 S1 h => ?_)
  refine x_if_eq X 20 dX7_deltaOf_7 (by decide) h (fun h => ?_) (fun h => ?_)
  · refine x_iload_n X 3 dX7_deltaOf_20 rfl ?_
    refine x_bipush X (v := 24) dX7_deltaOf_21 (by decide) ?_
    refine x_icmp_eq X 36 dX7_deltaOf_23 (by decide) h (fun h => ?_) (fun h => ?_)
    · refine x_sub [] rfl ?_
      exact w_X7_deltaOf_36 V S1 h
    · refine x_aload_n X 0 dX7_deltaOf_26 rfl ?_
      refine x_iload_n X 1 dX7_deltaOf_27 rfl ?_
      refine x_iconst X (v := 0) dX7_deltaOf_28 (by decide) ?_
      refine x_calli hA (x_runV (n := 2) (sh := shM cy) X K hR (fun _ q => q) (m_X7_of hi  h) (kM_0 cy Nat.zero_lt_one) rfl rfl t4_208 t4_210 tp_31 t1_8 t4_211 ⟨by decide, by decide, by decide +kernel⟩ rfl (by decide) (by decide) rfl (Nat.le_of_ble_eq_true rfl) dX7_deltaOf_29) (fun r4 S3 h => ?_)
      refine x_iconst X (v := 1) dX7_deltaOf_32 (by decide) ?_
      refine x_icmp_ne X 38 dX7_deltaOf_33 (by decide) h (fun h => ?_) (fun h => ?_)
      · refine x_sub [] rfl ?_
        exact w_X7_deltaOf_36 V S3 h
      · refine x_aload_n X 0 dX7_deltaOf_38 rfl ?_
        refine x_iload_n X 1 dX7_deltaOf_39 rfl ?_
        refine x_iload_n X 2 dX7_deltaOf_40 rfl ?_
        refine x_iload_n X 3 dX7_deltaOf_41 rfl ?_
        refine x_iconst X (v := -1) dX7_deltaOf_42 (by decide) ?_
        refine x_calli hA (x_runV (n := 4) (sh := shM cy) X K hR (fun _ q => q) (m_X7_touchedFrom hi  h) (kM_0 cy Nat.zero_lt_one) rfl rfl t5_55 t5_57 tp_43 t1_8 t5_58 ⟨by decide, by decide, by decide +kernel⟩ rfl (by decide) (by decide) rfl (Nat.le_of_ble_eq_true rfl) dX7_deltaOf_43) (fun r6 S5 h => ?_)
        refine x_istore X [(5, .int r6), (0, .ref (ad 0 0)), (1, .int a1), (2, .int a2), (3, .int a3), (4, .int a4)] dX7_deltaOf_46 (by rw [hN]; decide) rfl ?_
        refine x_iload X 0 dX7_deltaOf_48 rfl ?_
        refine x_if_ge X 55 dX7_deltaOf_50 (by decide) h (fun h => ?_) (fun h => ?_)
        · refine x_aload_n X 1 dX7_deltaOf_55 rfl ?_
          refine x_iload_n X 2 dX7_deltaOf_56 rfl ?_
          refine x_iload_n X 3 dX7_deltaOf_57 rfl ?_
          refine x_iload_n X 4 dX7_deltaOf_58 rfl ?_
          refine x_iconst X (v := 1) dX7_deltaOf_59 (by decide) ?_
          refine x_calli hA (x_runV (n := 4) (sh := shM cy) X K hR (fun _ q => q) (m_X7_touchedFrom hi  h) (kM_0 cy Nat.zero_lt_one) rfl rfl t5_55 t5_57 tp_43 t1_8 t5_58 ⟨by decide, by decide, by decide +kernel⟩ rfl (by decide) (by decide) rfl (Nat.le_of_ble_eq_true rfl) dX7_deltaOf_60) (fun r8 S7 h => ?_)
          refine x_istore X [(6, .int r8), (5, .int r6), (0, .ref (ad 0 0)), (1, .int a1), (2, .int a2), (3, .int a3), (4, .int a4)] dX7_deltaOf_63 (by rw [hN]; decide) rfl ?_
          refine x_iload X 6 dX7_deltaOf_65 rfl ?_
          refine x_if_eq X 75 dX7_deltaOf_67 (by decide) h (fun h => ?_) (fun h => ?_)
          · refine x_iconst X (v := 4) dX7_deltaOf_75 (by decide) ?_
            refine x_sub [2, 3, 4, 5, 6, 1, 0] rfl ?_
            exact w_X7_deltaOf_76 V S7 r6 r8 (4 : Int32) h
          · refine x_bipush X (v := 28) dX7_deltaOf_70 (by decide) ?_
            refine x_goto X 76 dX7_deltaOf_72 (by decide) ?_
            refine x_sub [2, 3, 4, 5, 6, 1, 0] rfl ?_
            exact w_X7_deltaOf_76 V S7 r6 r8 (28 : Int32) h
        · refine x_iconst X (v := 0) dX7_deltaOf_53 (by decide) ?_
          exact x_iret X E dX7_deltaOf_54 ⟨_, rfl, h⟩
  · refine x_aload_n X 0 dX7_deltaOf_10 rfl ?_
    refine x_iload_n X 1 dX7_deltaOf_11 rfl ?_
    refine x_iload_n X 2 dX7_deltaOf_12 rfl ?_
    refine x_iload_n X 3 dX7_deltaOf_13 rfl ?_
    refine x_iload X 4 dX7_deltaOf_14 rfl ?_
    refine x_calli hA (x_runV (n := 4) (sh := shM cy) X K hR (fun _ q => q) (m_X7_given hi  h) (kM_0 cy Nat.zero_lt_one) rfl rfl t5_51 t5_53 tp_42 t1_8 t5_54 ⟨by decide, by decide, by decide +kernel⟩ rfl (by decide) (by decide) rfl (Nat.le_of_ble_eq_true rfl) dX7_deltaOf_16) (fun r10 S9 h => ?_)
    exact x_iret X E dX7_deltaOf_19 ⟨_, rfl, h⟩
set_option maxHeartbeats 2000000 in
set_option maxRecDepth 20000 in
theorem m_X7_deltaOf {l : Launch} {D : va_G} {cy : Nat → ClassId} {ad : Nat → Nat → Nat} (hi : xInj (shM cy) ad) {a1 : Int32} {a2 : Int32} {a3 : Int32} {a4 : Int32} {S : xS} {Q : Int32 → xS → Prop} (h : wp_X7_deltaOf a1 a2 a3 a4 S Q) : xMet l D (xTys cy) (shM cy) ad yX7_deltaOf cX7_deltaOf 16 (some .int) (xRm 3 73) [.ref (ad 0 0), .int a1, .int a2, .int a3, .int a4] S (xQi Q) := xMet_env hi (by decide +kernel) rfl (Nat.le_of_ble_eq_true rfl) (fun g hl V => w_X7_deltaOf V h)
set_option maxHeartbeats 2000000 in
set_option maxRecDepth 20000 in
theorem w_X7_delta_31 {g : xG} {D : va_G} {cy : Nat → ClassId} {ad : Nat → Nat → Nat} {Q : Int32 → xS → Prop} (V : xEnv g D (xTys cy) (shM cy) ad RX7 cX7_delta (some .int) 4 108 6 (xQi Q)) (S : xS) (s0 : Int32) (h : wp_X7_delta_31 Q S s0) : Wx g (xW D (shM cy) ad S) 31 [] [.int s0] := by
  obtain ⟨X, K, hi, hA, hR, E, hN⟩ := V
  have V := xEnv_mk X K hi hA hR E hN
  unfold wp_X7_delta_31 at h
  exact x_iret X E dX7_delta_31 ⟨_, rfl, h⟩
set_option maxHeartbeats 2000000 in
set_option maxRecDepth 20000 in
theorem w_X7_delta {g : xG} {D : va_G} {cy : Nat → ClassId} {ad : Nat → Nat → Nat} {a1 : Int32} {a2 : Int32} {a3 : Int32} {a4 : Int32} {S : xS} {Q : Int32 → xS → Prop} (V : xEnv g D (xTys cy) (shM cy) ad RX7 cX7_delta (some .int) 4 108 6 (xQi Q)) (h : wp_X7_delta a1 a2 a3 a4 S Q) : Wx g (xW D (shM cy) ad S) 0 [(0, .ref (ad 0 0)), (1, .int a1), (2, .int a2), (3, .int a3), (4, .int a4)] [] := by
  obtain ⟨X, K, hi, hA, hR, E, hN⟩ := V
  have V := xEnv_mk X K hi hA hR E hN
  unfold wp_X7_delta at h
  refine x_aload_n X 0 dX7_delta_0 rfl ?_
  refine x_iload_n X 1 dX7_delta_1 rfl ?_
  refine x_iload_n X 2 dX7_delta_2 rfl ?_
  refine x_iload_n X 3 dX7_delta_3 rfl ?_
  refine x_calli hA (x_runV (n := 3) (sh := shM cy) X K hR (fun _ q => q) (m_X7_pointBarred hi  h) (kM_0 cy Nat.zero_lt_one) rfl rfl t5_16 t5_18 tp_37 t1_8 t5_19 ⟨by decide, by decide, by decide +kernel⟩ rfl (by decide) (by decide) rfl (Nat.le_of_ble_eq_true rfl) dX7_delta_4) (fun r2 S1 h => ?_)
  refine x_istore X [(5, .int r2), (0, .ref (ad 0 0)), (1, .int a1), (2, .int a2), (3, .int a3), (4, .int a4)] dX7_delta_7 (by rw [hN]; decide) rfl ?_
  refine x_iload X 0 dX7_delta_9 rfl ?_
  refine x_if_ge X 19 dX7_delta_11 (by decide) h (fun h => ?_) (fun h => ?_)
  · refine x_aload_n X 1 dX7_delta_19 rfl ?_
    refine x_iload_n X 2 dX7_delta_20 rfl ?_
    refine x_iload_n X 3 dX7_delta_21 rfl ?_
    refine x_iload_n X 4 dX7_delta_22 rfl ?_
    refine x_calli hA (x_runS (n := 1) X K hR (fun _ q => q) (m_X7_slot hi  h) t5_28 t5_29 t1_8 t5_30 ⟨by decide, by decide, by decide +kernel⟩ rfl (by decide) (by decide) rfl (Nat.le_of_ble_eq_true rfl) dX7_delta_23) (fun r4 S3 h => ?_)
    refine x_iload X 5 dX7_delta_26 rfl ?_
    refine x_calli hA (x_runV (n := 4) (sh := shM cy) X K hR (fun _ q => q) (m_X7_deltaOf hi  h) (kM_0 cy Nat.zero_lt_one) rfl rfl t5_47 t5_49 tp_41 t1_8 t5_50 ⟨by decide, by decide, by decide +kernel⟩ rfl (by decide) (by decide) rfl (Nat.le_of_ble_eq_true rfl) dX7_delta_28) (fun r6 S5 h => ?_)
    refine x_sub [] rfl ?_
    exact w_X7_delta_31 V S5 r6 h
  · refine x_iload X 0 dX7_delta_14 rfl ?_
    refine x_goto X 31 dX7_delta_16 (by decide) ?_
    refine x_sub [] rfl ?_
    exact w_X7_delta_31 V S1 r2 h
set_option maxHeartbeats 2000000 in
set_option maxRecDepth 20000 in
theorem m_X7_delta {l : Launch} {D : va_G} {cy : Nat → ClassId} {ad : Nat → Nat → Nat} (hi : xInj (shM cy) ad) {a1 : Int32} {a2 : Int32} {a3 : Int32} {a4 : Int32} {S : xS} {Q : Int32 → xS → Prop} (h : wp_X7_delta a1 a2 a3 a4 S Q) : xMet l D (xTys cy) (shM cy) ad yX7_delta cX7_delta 6 (some .int) (xRm 4 108) [.ref (ad 0 0), .int a1, .int a2, .int a3, .int a4] S (xQi Q) := xMet_env hi (by decide +kernel) rfl (Nat.le_of_ble_eq_true rfl) (fun g hl V => w_X7_delta V h)
set_option maxHeartbeats 2000000 in
set_option maxRecDepth 20000 in
theorem w_X7_touchedCount_44 {g : xG} {D : va_G} {cy : Nat → ClassId} {ad : Nat → Nat → Nat} {a1 : Int32} {a2 : Int32} {K19 : xS → Int32 → Int32 → Prop} {Q : Int32 → xS → Prop} (V : xEnv g D (xTys cy) (shM cy) ad RX7 cX7_touchedCount (some .int) 3 69 6 (xQi Q)) (hK19 : ∀ (S : xS) (v4 : Int32) (v5 : Int32), K19 S v4 v5 → Wx g (xW D (shM cy) ad S) 19 [(0, .ref (ad 0 0)), (1, .int a1), (2, .int a2), (4, .int v4), (5, .int v5)] []) (S : xS) (v5 : Int32) (s0 : Int32) (s1 : Int32) (h : wp_X7_touchedCount_44 a1 a2 K19 Q S v5 s0 s1) : Wx g (xW D (shM cy) ad S) 44 [(0, .ref (ad 0 0)), (1, .int a1), (2, .int a2), (5, .int v5)] [.int s1, .int s0] := by
  obtain ⟨X, K, hi, hA, hR, E, hN⟩ := V
  have V := xEnv_mk X K hi hA hR E hN
  unfold wp_X7_touchedCount_44 at h
  refine x_iadd X dX7_touchedCount_44 ?_
  refine x_istore X [(4, .int (s0 + s1)), (0, .ref (ad 0 0)), (1, .int a1), (2, .int a2), (5, .int v5)] dX7_touchedCount_45 (by rw [hN]; decide) rfl ?_
  refine x_iinc X 4 [(5, .int (v5 + (1 : Int32))), (4, .int (s0 + s1)), (0, .ref (ad 0 0)), (1, .int a1), (2, .int a2)] dX7_touchedCount_47 rfl rfl (by rw [hN]; decide) rfl ?_
  refine x_goto X 19 dX7_touchedCount_50 (by decide) ?_
  refine x_sub [2, 3, 4, 1, 0] rfl ?_
  exact hK19 S (s0 + s1) (v5 + (1 : Int32)) h
set_option maxHeartbeats 2000000 in
set_option maxRecDepth 20000 in
theorem w_X7_touchedCount_19_b {g : xG} {D : va_G} {cy : Nat → ClassId} {ad : Nat → Nat → Nat} {a1 : Int32} {a2 : Int32} {K19 : xS → Int32 → Int32 → Prop} {Q : Int32 → xS → Prop} (V : xEnv g D (xTys cy) (shM cy) ad RX7 cX7_touchedCount (some .int) 3 69 6 (xQi Q)) (hK19 : ∀ (S : xS) (v4 : Int32) (v5 : Int32), K19 S v4 v5 → Wx g (xW D (shM cy) ad S) 19 [(0, .ref (ad 0 0)), (1, .int a1), (2, .int a2), (4, .int v4), (5, .int v5)] []) (S : xS) (v4 : Int32) (v5 : Int32) (h : wp_X7_touchedCount_19_b a1 a2 K19 Q S v4 v5) : Wx g (xW D (shM cy) ad S) 19 [(0, .ref (ad 0 0)), (1, .int a1), (2, .int a2), (4, .int v4), (5, .int v5)] [] := by
  obtain ⟨X, K, hi, hA, hR, E, hN⟩ := V
  have V := xEnv_mk X K hi hA hR E hN
  unfold wp_X7_touchedCount_19_b at h
  refine x_iload X 4 dX7_touchedCount_19 rfl ?_
  refine x_bipush X (v := 24) dX7_touchedCount_21 (by decide) ?_
  refine x_icmp_gt X 53 dX7_touchedCount_23 (by decide) h (fun h => ?_) (fun h => ?_)
  · refine x_iload X 3 dX7_touchedCount_53 rfl ?_
    exact x_iret X E dX7_touchedCount_55 ⟨_, rfl, h⟩
  · refine x_iload X 3 dX7_touchedCount_26 rfl ?_
    refine x_aload_n X 0 dX7_touchedCount_28 rfl ?_
    refine x_iload_n X 1 dX7_touchedCount_29 rfl ?_
    refine x_iload_n X 2 dX7_touchedCount_30 rfl ?_
    refine x_iload X 4 dX7_touchedCount_31 rfl ?_
    refine x_calli hA (x_runV (n := 3) (sh := shM cy) X K hR (fun _ q => q) (m_X7_touches hi  h) (kM_0 cy (Nat.zero_lt_one)) rfl rfl t5_31 t5_33 tp_39 t1_8 t5_34 ⟨by decide, by decide, by decide +kernel⟩ rfl (by decide) (by decide) rfl (Nat.le_of_ble_eq_true rfl) dX7_touchedCount_33) (fun r2 S1 h => ?_)
    refine x_if_eq X 43 dX7_touchedCount_36 (by decide) h (fun h => ?_) (fun h => ?_)
    · refine x_iconst X (v := 0) dX7_touchedCount_43 (by decide) ?_
      refine x_sub [0, 1, 2, 4] rfl ?_
      exact w_X7_touchedCount_44 V hK19 S1 v5 v4 (0 : Int32) h
    · refine x_iconst X (v := 1) dX7_touchedCount_39 (by decide) ?_
      refine x_goto X 44 dX7_touchedCount_40 (by decide) ?_
      refine x_sub [0, 1, 2, 4] rfl ?_
      exact w_X7_touchedCount_44 V hK19 S1 v5 v4 (1 : Int32) h
set_option maxHeartbeats 2000000 in
set_option maxRecDepth 20000 in
theorem w_X7_touchedCount_19 {g : xG} {D : va_G} {cy : Nat → ClassId} {ad : Nat → Nat → Nat} {a1 : Int32} {a2 : Int32} {Q : Int32 → xS → Prop} (V : xEnv g D (xTys cy) (shM cy) ad RX7 cX7_touchedCount (some .int) 3 69 6 (xQi Q)) (n : Nat) : ∀ (S : xS) (v4 : Int32) (v5 : Int32), wp_X7_touchedCount_19 a1 a2 Q n S v4 v5 → Wx g (xW D (shM cy) ad S) 19 [(0, .ref (ad 0 0)), (1, .int a1), (2, .int a2), (4, .int v4), (5, .int v5)] [] := by
  induction n with
  | zero => intro S v4 v5 h; exact h.elim
  | succ n ih => intro S v4 v5 h; exact w_X7_touchedCount_19_b V (fun S v4 v5 h => ih S v4 v5 h) S v4 v5 h
set_option maxHeartbeats 2000000 in
set_option maxRecDepth 20000 in
theorem w_X7_touchedCount {g : xG} {D : va_G} {cy : Nat → ClassId} {ad : Nat → Nat → Nat} {a1 : Int32} {a2 : Int32} {S : xS} {Q : Int32 → xS → Prop} (V : xEnv g D (xTys cy) (shM cy) ad RX7 cX7_touchedCount (some .int) 3 69 6 (xQi Q)) (h : wp_X7_touchedCount a1 a2 S Q) : Wx g (xW D (shM cy) ad S) 0 [(0, .ref (ad 0 0)), (1, .int a1), (2, .int a2)] [] := by
  obtain ⟨X, K, hi, hA, hR, E, hN⟩ := V
  have V := xEnv_mk X K hi hA hR E hN
  unfold wp_X7_touchedCount at h
  refine x_aload_n X 0 dX7_touchedCount_0 rfl ?_
  refine x_iload_n X 1 dX7_touchedCount_1 rfl ?_
  refine x_iload_n X 2 dX7_touchedCount_2 rfl ?_
  refine x_calli hA (x_runV (n := 2) (sh := shM cy) X K hR (fun _ q => q) (m_X7_tupleBarred hi  h) (kM_0 cy Nat.zero_lt_one) rfl rfl t5_3 t5_5 tp_35 t1_8 t5_6 ⟨by decide, by decide, by decide +kernel⟩ rfl (by decide) (by decide) rfl (Nat.le_of_ble_eq_true rfl) dX7_touchedCount_3) (fun r2 S1 h => ?_)
  refine x_istore_n X [(3, .int r2), (0, .ref (ad 0 0)), (1, .int a1), (2, .int a2)] dX7_touchedCount_6 (by rw [hN]; decide) rfl ?_
  refine x_iload_n X 0 dX7_touchedCount_7 rfl ?_
  refine x_if_ge X 13 dX7_touchedCount_8 (by decide) h (fun h => ?_) (fun h => ?_)
  · refine x_iconst X (v := 0) dX7_touchedCount_13 (by decide) ?_
    refine x_istore X [(4, .int (0 : Int32)), (3, .int r2), (0, .ref (ad 0 0)), (1, .int a1), (2, .int a2)] dX7_touchedCount_14 (by rw [hN]; decide) rfl ?_
    refine x_iconst X (v := 0) dX7_touchedCount_16 (by decide) ?_
    refine x_istore X [(5, .int (0 : Int32)), (4, .int (0 : Int32)), (3, .int r2), (0, .ref (ad 0 0)), (1, .int a1), (2, .int a2)] dX7_touchedCount_17 (by rw [hN]; decide) rfl ?_
    refine x_sub [3, 4, 5, 1, 0] rfl ?_
    obtain ⟨n3, h⟩ := h
    exact w_X7_touchedCount_19 V n3 S1 (0 : Int32) (0 : Int32) h
  · refine x_iload_n X 0 dX7_touchedCount_11 rfl ?_
    exact x_iret X E dX7_touchedCount_12 ⟨_, rfl, h⟩
set_option maxHeartbeats 2000000 in
set_option maxRecDepth 20000 in
theorem m_X7_touchedCount {l : Launch} {D : va_G} {cy : Nat → ClassId} {ad : Nat → Nat → Nat} (hi : xInj (shM cy) ad) {a1 : Int32} {a2 : Int32} {S : xS} {Q : Int32 → xS → Prop} (h : wp_X7_touchedCount a1 a2 S Q) : xMet l D (xTys cy) (shM cy) ad yX7_touchedCount cX7_touchedCount 6 (some .int) (xRm 3 69) [.ref (ad 0 0), .int a1, .int a2] S (xQi Q) := xMet_env hi (by decide +kernel) rfl (Nat.le_of_ble_eq_true rfl) (fun g hl V => w_X7_touchedCount V h)
set_option maxHeartbeats 2000000 in
set_option maxRecDepth 20000 in
theorem w_X7_scalarOf_156 {g : xG} {D : va_G} {cy : Nat → ClassId} {ad : Nat → Nat → Nat} {a1 : Int32} {a2 : Int32} {K7 : xS → Int64 → Int32 → Prop} {Q : Int64 → xS → Prop} (V : xEnv g D (xTys cy) (shM cy) ad RX7 cX7_scalarOf (some .long) 1 27 10 (xQl Q)) (hK7 : ∀ (S : xS) (v3 : Int64) (v5 : Int32), K7 S v3 v5 → Wx g (xW D (shM cy) ad S) 7 [(0, .ref (ad 0 0)), (1, .int a1), (2, .int a2), (3, .long v3), (5, .int v5)] []) (S : xS) (v3 : Int64) (v5 : Int32) (h : wp_X7_scalarOf_156 a1 a2 K7 Q S v3 v5) : Wx g (xW D (shM cy) ad S) 156 [(0, .ref (ad 0 0)), (1, .int a1), (2, .int a2), (3, .long v3), (5, .int v5)] [] := by
  obtain ⟨X, K, hi, hA, hR, E, hN⟩ := V
  have V := xEnv_mk X K hi hA hR E hN
  unfold wp_X7_scalarOf_156 at h
  refine x_iinc X 4 [(5, .int (v5 + (1 : Int32))), (0, .ref (ad 0 0)), (1, .int a1), (2, .int a2), (3, .long v3)] dX7_scalarOf_156 rfl rfl (by rw [hN]; decide) rfl ?_
  refine x_goto X 7 dX7_scalarOf_159 (by decide) ?_
  refine x_sub [1, 2, 3, 4, 0] rfl ?_
  exact hK7 S v3 (v5 + (1 : Int32)) h
set_option maxHeartbeats 2000000 in
set_option maxRecDepth 20000 in
theorem w_X7_scalarOf_155 {g : xG} {D : va_G} {cy : Nat → ClassId} {ad : Nat → Nat → Nat} {a1 : Int32} {a2 : Int32} {K7 : xS → Int64 → Int32 → Prop} {Q : Int64 → xS → Prop} (V : xEnv g D (xTys cy) (shM cy) ad RX7 cX7_scalarOf (some .long) 1 27 10 (xQl Q)) (hK7 : ∀ (S : xS) (v3 : Int64) (v5 : Int32), K7 S v3 v5 → Wx g (xW D (shM cy) ad S) 7 [(0, .ref (ad 0 0)), (1, .int a1), (2, .int a2), (3, .long v3), (5, .int v5)] []) (S : xS) (v5 : Int32) (s0 : Int64) (h : wp_X7_scalarOf_155 a1 a2 K7 Q S v5 s0) : Wx g (xW D (shM cy) ad S) 155 [(0, .ref (ad 0 0)), (1, .int a1), (2, .int a2), (5, .int v5)] [.long s0] := by
  obtain ⟨X, K, hi, hA, hR, E, hN⟩ := V
  have V := xEnv_mk X K hi hA hR E hN
  unfold wp_X7_scalarOf_155 at h
  refine x_lstore_n X [(3, .long s0), (0, .ref (ad 0 0)), (1, .int a1), (2, .int a2), (5, .int v5)] dX7_scalarOf_155 (by rw [hN]; decide) rfl ?_
  refine x_sub [1, 2, 3, 0, 4] rfl ?_
  exact w_X7_scalarOf_156 V hK7 S s0 v5 h
set_option maxHeartbeats 2000000 in
set_option maxRecDepth 20000 in
theorem w_X7_scalarOf_96 {g : xG} {D : va_G} {cy : Nat → ClassId} {ad : Nat → Nat → Nat} {a1 : Int32} {a2 : Int32} {K7 : xS → Int64 → Int32 → Prop} {Q : Int64 → xS → Prop} (V : xEnv g D (xTys cy) (shM cy) ad RX7 cX7_scalarOf (some .long) 1 27 10 (xQl Q)) (hK7 : ∀ (S : xS) (v3 : Int64) (v5 : Int32), K7 S v3 v5 → Wx g (xW D (shM cy) ad S) 7 [(0, .ref (ad 0 0)), (1, .int a1), (2, .int a2), (3, .long v3), (5, .int v5)] []) (S : xS) (v5 : Int32) (h : wp_X7_scalarOf_96 a1 a2 K7 Q S v5) : Wx g (xW D (shM cy) ad S) 96 [(0, .ref (ad 0 0)), (1, .int a1), (2, .int a2), (5, .int v5)] [] := by
  obtain ⟨X, K, hi, hA, hR, E, hN⟩ := V
  have V := xEnv_mk X K hi hA hR E hN
  unfold wp_X7_scalarOf_96 at h
  refine x_lconst X (v := 0) dX7_scalarOf_96 (by decide) ?_
  refine x_goto X 155 dX7_scalarOf_97 (by decide) ?_
  refine x_sub [0, 1, 2, 3] rfl ?_
  exact w_X7_scalarOf_155 V hK7 S v5 (0 : Int64) h
set_option maxHeartbeats 2000000 in
set_option maxRecDepth 20000 in
theorem w_X7_scalarOf_7_b {g : xG} {D : va_G} {cy : Nat → ClassId} {ad : Nat → Nat → Nat} {a1 : Int32} {a2 : Int32} {K7 : xS → Int64 → Int32 → Prop} {Q : Int64 → xS → Prop} (V : xEnv g D (xTys cy) (shM cy) ad RX7 cX7_scalarOf (some .long) 1 27 10 (xQl Q)) (hK7 : ∀ (S : xS) (v3 : Int64) (v5 : Int32), K7 S v3 v5 → Wx g (xW D (shM cy) ad S) 7 [(0, .ref (ad 0 0)), (1, .int a1), (2, .int a2), (3, .long v3), (5, .int v5)] []) (S : xS) (v3 : Int64) (v5 : Int32) (h : wp_X7_scalarOf_7_b a1 a2 K7 Q S v3 v5) : Wx g (xW D (shM cy) ad S) 7 [(0, .ref (ad 0 0)), (1, .int a1), (2, .int a2), (3, .long v3), (5, .int v5)] [] := by
  obtain ⟨X, K, hi, hA, hR, E, hN⟩ := V
  have V := xEnv_mk X K hi hA hR E hN
  unfold wp_X7_scalarOf_7_b at h
  refine x_iload X 4 dX7_scalarOf_7 rfl ?_
  refine x_aload_n X 0 dX7_scalarOf_9 rfl ?_
  refine xg_X7_107 X K (Nat.zero_lt_one) dX7_scalarOf_10 ?_
  refine x_icmp_ge X 162 dX7_scalarOf_13 (by decide) h (fun h => ?_) (fun h => ?_)
  · refine x_lload_n X 3 dX7_scalarOf_162 rfl ?_
    exact x_lret X E dX7_scalarOf_163 ⟨_, rfl, h⟩
  · refine x_aload_n X 0 dX7_scalarOf_16 rfl ?_
    refine x_iload_n X 1 dX7_scalarOf_17 rfl ?_
    refine x_iload_n X 2 dX7_scalarOf_18 rfl ?_
    refine x_calli hA (x_runS (n := 1) X K hR (fun _ q => q) (m_X7_tupleAt hi  h) t4_236 t4_237 t1_8 t4_238 ⟨by decide, by decide, by decide +kernel⟩ rfl (by decide) (by decide) rfl (Nat.le_of_ble_eq_true rfl) dX7_scalarOf_19) (fun r2 S1 h => ?_)
    refine x_iconst X (v := 3) dX7_scalarOf_22 (by decide) ?_
    refine x_iload X 4 dX7_scalarOf_23 rfl ?_
    refine x_imul X dX7_scalarOf_25 ?_
    refine x_iadd X dX7_scalarOf_26 ?_
    refine x_calli hA (x_runV (n := 2) (sh := shM cy) X K hR (fun _ q => q) (m_X7_of hi  h) (kM_0 cy (Nat.zero_lt_one)) rfl rfl t4_208 t4_210 tp_31 t1_8 t4_211 ⟨by decide, by decide, by decide +kernel⟩ rfl (by decide) (by decide) rfl (Nat.le_of_ble_eq_true rfl) dX7_scalarOf_27) (fun r4 S3 h => ?_)
    refine x_istore X [(6, .int r4), (0, .ref (ad 0 0)), (1, .int a1), (2, .int a2), (3, .long v3), (5, .int v5)] dX7_scalarOf_30 (by rw [hN]; decide) rfl ?_
    refine x_aload_n X 1 dX7_scalarOf_32 rfl ?_
    refine x_iload_n X 2 dX7_scalarOf_33 rfl ?_
    refine x_iload_n X 3 dX7_scalarOf_34 rfl ?_
    refine x_calli hA (x_runS (n := 1) X K hR (fun _ q => q) (m_X7_tupleAt hi  h) t4_236 t4_237 t1_8 t4_238 ⟨by decide, by decide, by decide +kernel⟩ rfl (by decide) (by decide) rfl (Nat.le_of_ble_eq_true rfl) dX7_scalarOf_35) (fun r6 S5 h => ?_)
    refine x_iconst X (v := 3) dX7_scalarOf_38 (by decide) ?_
    refine x_iload X 5 dX7_scalarOf_39 rfl ?_
    refine x_imul X dX7_scalarOf_41 ?_
    refine x_iadd X dX7_scalarOf_42 ?_
    refine x_iconst X (v := 1) dX7_scalarOf_43 (by decide) ?_
    refine x_iadd X dX7_scalarOf_44 ?_
    refine x_calli hA (x_runV (n := 2) (sh := shM cy) X K hR (fun _ q => q) (m_X7_of hi  h) (kM_0 cy (Nat.zero_lt_one)) rfl rfl t4_208 t4_210 tp_31 t1_8 t4_211 ⟨by decide, by decide, by decide +kernel⟩ rfl (by decide) (by decide) rfl (Nat.le_of_ble_eq_true rfl) dX7_scalarOf_45) (fun r8 S7 h => ?_)
    refine x_istore X [(7, .int r8), (6, .int r4), (0, .ref (ad 0 0)), (1, .int a1), (2, .int a2), (3, .long v3), (5, .int v5)] dX7_scalarOf_48 (by rw [hN]; decide) rfl ?_
    refine x_aload_n X 2 dX7_scalarOf_50 rfl ?_
    refine x_iload_n X 3 dX7_scalarOf_51 rfl ?_
    refine x_iload_n X 4 dX7_scalarOf_52 rfl ?_
    refine x_calli hA (x_runS (n := 1) X K hR (fun _ q => q) (m_X7_tupleAt hi  h) t4_236 t4_237 t1_8 t4_238 ⟨by decide, by decide, by decide +kernel⟩ rfl (by decide) (by decide) rfl (Nat.le_of_ble_eq_true rfl) dX7_scalarOf_53) (fun r10 S9 h => ?_)
    refine x_iconst X (v := 3) dX7_scalarOf_56 (by decide) ?_
    refine x_iload X 6 dX7_scalarOf_57 rfl ?_
    refine x_imul X dX7_scalarOf_59 ?_
    refine x_iadd X dX7_scalarOf_60 ?_
    refine x_iconst X (v := 2) dX7_scalarOf_61 (by decide) ?_
    refine x_iadd X dX7_scalarOf_62 ?_
    refine x_calli hA (x_runV (n := 2) (sh := shM cy) X K hR (fun _ q => q) (m_X7_of hi  h) (kM_0 cy (Nat.zero_lt_one)) rfl rfl t4_208 t4_210 tp_31 t1_8 t4_211 ⟨by decide, by decide, by decide +kernel⟩ rfl (by decide) (by decide) rfl (Nat.le_of_ble_eq_true rfl) dX7_scalarOf_63) (fun r12 S11 h => ?_)
    refine x_istore X [(8, .int r12), (7, .int r8), (6, .int r4), (0, .ref (ad 0 0)), (1, .int a1), (2, .int a2), (3, .long v3), (5, .int v5)] dX7_scalarOf_66 (by rw [hN]; decide) rfl ?_
    refine x_aload_n X 3 dX7_scalarOf_68 rfl ?_
    refine xg_X7_19 X K (Nat.zero_lt_one) dX7_scalarOf_69 ?_
    refine x_iload X 7 dX7_scalarOf_72 rfl ?_
    obtain ⟨hb13, h⟩ := h
    refine xa_M5 X K (show 0 < 1 by decide) hb13 dX7_scalarOf_74 ?_
    refine x_istore X [(9, .int (S11.1 5 0 v5.toNatClampNeg)), (8, .int r12), (7, .int r8), (6, .int r4), (0, .ref (ad 0 0)), (1, .int a1), (2, .int a2), (3, .long v3), (5, .int v5)] dX7_scalarOf_75 (by rw [hN]; decide) rfl ?_
    refine x_iload X 2 dX7_scalarOf_77 rfl ?_
    refine x_if_eq X 156 dX7_scalarOf_79 (by decide) h (fun h => ?_) (fun h => ?_)
    · refine x_sub [4, 5, 6, 7, 8] rfl ?_
      exact w_X7_scalarOf_156 V hK7 S11 v3 v5 h
    · refine x_iload X 0 dX7_scalarOf_82 rfl ?_
      refine x_iload X 3 dX7_scalarOf_84 rfl ?_
      refine x_icmp_lt X 96 dX7_scalarOf_86 (by decide) h (fun h => ?_) (fun h => ?_)
      · refine x_sub [4, 5, 6, 8] rfl ?_
        exact w_X7_scalarOf_96 V hK7 S11 v5 h
      · refine x_iload X 0 dX7_scalarOf_89 rfl ?_
        refine x_iload X 1 dX7_scalarOf_91 rfl ?_
        refine x_icmp_le X 100 dX7_scalarOf_93 (by decide) h (fun h => ?_) (fun h => ?_)
        · refine x_iload X 0 dX7_scalarOf_100 rfl ?_
          refine x_iload X 2 dX7_scalarOf_102 rfl ?_
          refine x_icmp_ne X 111 dX7_scalarOf_104 (by decide) h (fun h => ?_) (fun h => ?_)
          · refine x_lload_n X 7 dX7_scalarOf_107 rfl ?_
            refine x_goto X 155 dX7_scalarOf_108 (by decide) ?_
            refine x_sub [4, 5, 6, 8] rfl ?_
            exact w_X7_scalarOf_155 V hK7 S11 v5 v3 h
          · refine x_iload X 0 dX7_scalarOf_111 rfl ?_
            refine x_iload X 2 dX7_scalarOf_113 rfl ?_
            refine x_icmp_ge X 138 dX7_scalarOf_115 (by decide) h (fun h => ?_) (fun h => ?_)
            · refine x_lload_n X 7 dX7_scalarOf_138 rfl ?_
              refine x_iload X 1 dX7_scalarOf_139 rfl ?_
              refine x_iload X 0 dX7_scalarOf_141 rfl ?_
              refine x_isub X dX7_scalarOf_143 ?_
              refine x_i2l X dX7_scalarOf_144 ?_
              refine x_lmul X dX7_scalarOf_145 ?_
              refine x_iload X 1 dX7_scalarOf_146 rfl ?_
              refine x_iload X 2 dX7_scalarOf_148 rfl ?_
              refine x_isub X dX7_scalarOf_150 ?_
              refine x_i2l X dX7_scalarOf_151 ?_
              refine x_calll hA (x_runS (n := 2) X K hR (fun _ q => q) (m_X7_near hi  h) t4_161 t4_162 t1_8 t4_163 ⟨by decide, by decide, by decide +kernel⟩ rfl (by decide) (by decide) rfl (Nat.le_of_ble_eq_true rfl) dX7_scalarOf_152) (fun r15 S14 h => ?_)
              refine x_sub [4, 5, 6, 8] rfl ?_
              exact w_X7_scalarOf_155 V hK7 S14 v5 r15 h
            · refine x_lload_n X 7 dX7_scalarOf_118 rfl ?_
              refine x_iload X 0 dX7_scalarOf_119 rfl ?_
              refine x_iload X 3 dX7_scalarOf_121 rfl ?_
              refine x_isub X dX7_scalarOf_123 ?_
              refine x_i2l X dX7_scalarOf_124 ?_
              refine x_lmul X dX7_scalarOf_125 ?_
              refine x_iload X 2 dX7_scalarOf_126 rfl ?_
              refine x_iload X 3 dX7_scalarOf_128 rfl ?_
              refine x_isub X dX7_scalarOf_130 ?_
              refine x_i2l X dX7_scalarOf_131 ?_
              refine x_calll hA (x_runS (n := 2) X K hR (fun _ q => q) (m_X7_near hi  h) t4_161 t4_162 t1_8 t4_163 ⟨by decide, by decide, by decide +kernel⟩ rfl (by decide) (by decide) rfl (Nat.le_of_ble_eq_true rfl) dX7_scalarOf_132) (fun r17 S16 h => ?_)
              refine x_goto X 155 dX7_scalarOf_135 (by decide) ?_
              refine x_sub [4, 5, 6, 8] rfl ?_
              exact w_X7_scalarOf_155 V hK7 S16 v5 r17 h
        · refine x_sub [4, 5, 6, 8] rfl ?_
          exact w_X7_scalarOf_96 V hK7 S11 v5 h
set_option maxHeartbeats 2000000 in
set_option maxRecDepth 20000 in
theorem w_X7_scalarOf_7 {g : xG} {D : va_G} {cy : Nat → ClassId} {ad : Nat → Nat → Nat} {a1 : Int32} {a2 : Int32} {Q : Int64 → xS → Prop} (V : xEnv g D (xTys cy) (shM cy) ad RX7 cX7_scalarOf (some .long) 1 27 10 (xQl Q)) (n : Nat) : ∀ (S : xS) (v3 : Int64) (v5 : Int32), wp_X7_scalarOf_7 a1 a2 Q n S v3 v5 → Wx g (xW D (shM cy) ad S) 7 [(0, .ref (ad 0 0)), (1, .int a1), (2, .int a2), (3, .long v3), (5, .int v5)] [] := by
  induction n with
  | zero => intro S v3 v5 h; exact h.elim
  | succ n ih => intro S v3 v5 h; exact w_X7_scalarOf_7_b V (fun S v3 v5 h => ih S v3 v5 h) S v3 v5 h
set_option maxHeartbeats 2000000 in
set_option maxRecDepth 20000 in
theorem w_X7_scalarOf {g : xG} {D : va_G} {cy : Nat → ClassId} {ad : Nat → Nat → Nat} {a1 : Int32} {a2 : Int32} {S : xS} {Q : Int64 → xS → Prop} (V : xEnv g D (xTys cy) (shM cy) ad RX7 cX7_scalarOf (some .long) 1 27 10 (xQl Q)) (h : wp_X7_scalarOf a1 a2 S Q) : Wx g (xW D (shM cy) ad S) 0 [(0, .ref (ad 0 0)), (1, .int a1), (2, .int a2)] [] := by
  obtain ⟨X, K, hi, hA, hR, E, hN⟩ := V
  have V := xEnv_mk X K hi hA hR E hN
  unfold wp_X7_scalarOf at h
  refine x_ldc2 X (v := 268435456) t5_75 dX7_scalarOf_0 ?_
  refine x_lstore_n X [(3, .long (268435456 : Int64)), (0, .ref (ad 0 0)), (1, .int a1), (2, .int a2)] dX7_scalarOf_3 (by rw [hN]; decide) rfl ?_
  refine x_iconst X (v := 0) dX7_scalarOf_4 (by decide) ?_
  refine x_istore X [(5, .int (0 : Int32)), (3, .long (268435456 : Int64)), (0, .ref (ad 0 0)), (1, .int a1), (2, .int a2)] dX7_scalarOf_5 (by rw [hN]; decide) rfl ?_
  refine x_sub [2, 3, 4, 1, 0] rfl ?_
  obtain ⟨n1, h⟩ := h
  exact w_X7_scalarOf_7 V n1 S (268435456 : Int64) (0 : Int32) h
set_option maxHeartbeats 2000000 in
set_option maxRecDepth 20000 in
theorem m_X7_scalarOf {l : Launch} {D : va_G} {cy : Nat → ClassId} {ad : Nat → Nat → Nat} (hi : xInj (shM cy) ad) {a1 : Int32} {a2 : Int32} {S : xS} {Q : Int64 → xS → Prop} (h : wp_X7_scalarOf a1 a2 S Q) : xMet l D (xTys cy) (shM cy) ad yX7_scalarOf cX7_scalarOf 10 (some .long) (xRm 1 27) [.ref (ad 0 0), .int a1, .int a2] S (xQl Q) := xMet_env hi (by decide +kernel) rfl (Nat.le_of_ble_eq_true rfl) (fun g hl V => w_X7_scalarOf V h)
set_option maxHeartbeats 2000000 in
set_option maxRecDepth 20000 in
theorem w_X7_scalar_22 {g : xG} {D : va_G} {cy : Nat → ClassId} {ad : Nat → Nat → Nat} {Q : Int32 → xS → Prop} (V : xEnv g D (xTys cy) (shM cy) ad RX7 cX7_scalar (some .int) 3 69 4 (xQi Q)) (S : xS) (s0 : Int32) (h : wp_X7_scalar_22 Q S s0) : Wx g (xW D (shM cy) ad S) 22 [] [.int s0] := by
  obtain ⟨X, K, hi, hA, hR, E, hN⟩ := V
  have V := xEnv_mk X K hi hA hR E hN
  unfold wp_X7_scalar_22 at h
  exact x_iret X E dX7_scalar_22 ⟨_, rfl, h⟩
set_option maxHeartbeats 2000000 in
set_option maxRecDepth 20000 in
theorem w_X7_scalar {g : xG} {D : va_G} {cy : Nat → ClassId} {ad : Nat → Nat → Nat} {a1 : Int32} {a2 : Int32} {S : xS} {Q : Int32 → xS → Prop} (V : xEnv g D (xTys cy) (shM cy) ad RX7 cX7_scalar (some .int) 3 69 4 (xQi Q)) (h : wp_X7_scalar a1 a2 S Q) : Wx g (xW D (shM cy) ad S) 0 [(0, .ref (ad 0 0)), (1, .int a1), (2, .int a2)] [] := by
  obtain ⟨X, K, hi, hA, hR, E, hN⟩ := V
  have V := xEnv_mk X K hi hA hR E hN
  unfold wp_X7_scalar at h
  refine x_aload_n X 0 dX7_scalar_0 rfl ?_
  refine x_iload_n X 1 dX7_scalar_1 rfl ?_
  refine x_iload_n X 2 dX7_scalar_2 rfl ?_
  refine x_calli hA (x_runV (n := 2) (sh := shM cy) X K hR (fun _ q => q) (m_X7_tupleBarred hi  h) (kM_0 cy Nat.zero_lt_one) rfl rfl t5_3 t5_5 tp_35 t1_8 t5_6 ⟨by decide, by decide, by decide +kernel⟩ rfl (by decide) (by decide) rfl (Nat.le_of_ble_eq_true rfl) dX7_scalar_3) (fun r2 S1 h => ?_)
  refine x_istore_n X [(3, .int r2), (0, .ref (ad 0 0)), (1, .int a1), (2, .int a2)] dX7_scalar_6 (by rw [hN]; decide) rfl ?_
  refine x_iload_n X 0 dX7_scalar_7 rfl ?_
  refine x_if_ge X 15 dX7_scalar_8 (by decide) h (fun h => ?_) (fun h => ?_)
  · refine x_aload_n X 1 dX7_scalar_15 rfl ?_
    refine x_iload_n X 2 dX7_scalar_16 rfl ?_
    refine x_iload_n X 3 dX7_scalar_17 rfl ?_
    refine x_calll hA (x_runV (n := 2) (sh := shM cy) X K hR (fun _ q => q) (m_X7_scalarOf hi  h) (kM_0 cy Nat.zero_lt_one) rfl rfl t5_71 t5_73 tp_45 t1_8 t5_74 ⟨by decide, by decide, by decide +kernel⟩ rfl (by decide) (by decide) rfl (Nat.le_of_ble_eq_true rfl) dX7_scalar_18) (fun r4 S3 h => ?_)
    refine x_l2i X dX7_scalar_21 ?_
    refine x_sub [] rfl ?_
    exact w_X7_scalar_22 V S3 (Int64.toInt32 r4) h
  · refine x_iload_n X 0 dX7_scalar_11 rfl ?_
    refine x_goto X 22 dX7_scalar_12 (by decide) ?_
    refine x_sub [] rfl ?_
    exact w_X7_scalar_22 V S1 r2 h
set_option maxHeartbeats 2000000 in
set_option maxRecDepth 20000 in
theorem m_X7_scalar {l : Launch} {D : va_G} {cy : Nat → ClassId} {ad : Nat → Nat → Nat} (hi : xInj (shM cy) ad) {a1 : Int32} {a2 : Int32} {S : xS} {Q : Int32 → xS → Prop} (h : wp_X7_scalar a1 a2 S Q) : xMet l D (xTys cy) (shM cy) ad yX7_scalar cX7_scalar 4 (some .int) (xRm 3 69) [.ref (ad 0 0), .int a1, .int a2] S (xQi Q) := xMet_env hi (by decide +kernel) rfl (Nat.le_of_ble_eq_true rfl) (fun g hl V => w_X7_scalar V h)
set_option maxHeartbeats 2000000 in
set_option maxRecDepth 20000 in
theorem w_X7_share_26 {g : xG} {D : va_G} {cy : Nat → ClassId} {ad : Nat → Nat → Nat} {Q : UInt64 → xS → Prop} (V : xEnv g D (xTys cy) (shM cy) ad RX7 cX7_share (some .double) 3 69 3 (xQd Q)) (S : xS) (s0 : UInt64) (h : wp_X7_share_26 Q S s0) : Wx g (xW D (shM cy) ad S) 26 [] [.double s0] := by
  obtain ⟨X, K, hi, hA, hR, E, hN⟩ := V
  have V := xEnv_mk X K hi hA hR E hN
  unfold wp_X7_share_26 at h
  exact x_dret X E dX7_share_26 ⟨_, rfl, h⟩
set_option maxHeartbeats 2000000 in
set_option maxRecDepth 20000 in
theorem w_X7_share {g : xG} {D : va_G} {cy : Nat → ClassId} {ad : Nat → Nat → Nat} {a1 : Int32} {a2 : Int32} {S : xS} {Q : UInt64 → xS → Prop} (V : xEnv g D (xTys cy) (shM cy) ad RX7 cX7_share (some .double) 3 69 3 (xQd Q)) (h : wp_X7_share a1 a2 S Q) : Wx g (xW D (shM cy) ad S) 0 [(0, .ref (ad 0 0)), (1, .int a1), (2, .int a2)] [] := by
  obtain ⟨X, K, hi, hA, hR, E, hN⟩ := V
  have V := xEnv_mk X K hi hA hR E hN
  unfold wp_X7_share at h
  refine x_aload_n X 0 dX7_share_0 rfl ?_
  refine x_iload_n X 1 dX7_share_1 rfl ?_
  refine x_iload_n X 2 dX7_share_2 rfl ?_
  refine x_calli hA (x_runV (n := 2) (sh := shM cy) X K hR (fun _ q => q) (m_X7_tupleBarred hi  h) (kM_0 cy Nat.zero_lt_one) rfl rfl t5_3 t5_5 tp_35 t1_8 t5_6 ⟨by decide, by decide, by decide +kernel⟩ rfl (by decide) (by decide) rfl (Nat.le_of_ble_eq_true rfl) dX7_share_3) (fun r2 S1 h => ?_)
  refine x_if_ge X 15 dX7_share_6 (by decide) h (fun h => ?_) (fun h => ?_)
  · refine x_aload_n X 0 dX7_share_15 rfl ?_
    refine x_iload_n X 1 dX7_share_16 rfl ?_
    refine x_iload_n X 2 dX7_share_17 rfl ?_
    refine x_calll hA (x_runV (n := 2) (sh := shM cy) X K hR (fun _ q => q) (m_X7_scalarOf hi  h) (kM_0 cy Nat.zero_lt_one) rfl rfl t5_71 t5_73 tp_45 t1_8 t5_74 ⟨by decide, by decide, by decide +kernel⟩ rfl (by decide) (by decide) rfl (Nat.le_of_ble_eq_true rfl) dX7_share_18) (fun r4 S3 h => ?_)
    refine x_l2d X dX7_share_21 ?_
    refine x_ldc2d X (v := 4733283208366391296) t5_81 dX7_share_22 ?_
    refine x_ddiv X dX7_share_25 (fun r5 hr5 => ?_)
    replace h := h r5 hr5
    refine x_sub [] rfl ?_
    exact w_X7_share_26 V S3 r5 h
  · refine x_ldc2d X (v := 13830554455654793216) t5_80 dX7_share_9 ?_
    refine x_goto X 26 dX7_share_12 (by decide) ?_
    refine x_sub [] rfl ?_
    exact w_X7_share_26 V S1 (13830554455654793216 : UInt64) h
set_option maxHeartbeats 2000000 in
set_option maxRecDepth 20000 in
theorem m_X7_share {l : Launch} {D : va_G} {cy : Nat → ClassId} {ad : Nat → Nat → Nat} (hi : xInj (shM cy) ad) {a1 : Int32} {a2 : Int32} {S : xS} {Q : UInt64 → xS → Prop} (h : wp_X7_share a1 a2 S Q) : xMet l D (xTys cy) (shM cy) ad yX7_share cX7_share 3 (some .double) (xRm 3 69) [.ref (ad 0 0), .int a1, .int a2] S (xQd Q) := xMet_env hi (by decide +kernel) rfl (Nat.le_of_ble_eq_true rfl) (fun g hl V => w_X7_share V h)
set_option maxHeartbeats 2000000 in
set_option maxRecDepth 20000 in
theorem w_X7_base_40 {g : xG} {D : va_G} {cy : Nat → ClassId} {ad : Nat → Nat → Nat} {Q : Int32 → xS → Prop} (V : xEnv g D (xTys cy) (shM cy) ad RX7 cX7_base (some .int) 1 22 4 (xQi Q)) (S : xS) (s0 : Int32) (h : wp_X7_base_40 Q S s0) : Wx g (xW D (shM cy) ad S) 40 [] [.int s0] := by
  obtain ⟨X, K, hi, hA, hR, E, hN⟩ := V
  have V := xEnv_mk X K hi hA hR E hN
  unfold wp_X7_base_40 at h
  exact x_iret X E dX7_base_40 ⟨_, rfl, h⟩
set_option maxHeartbeats 2000000 in
set_option maxRecDepth 20000 in
theorem w_X7_base_35 {g : xG} {D : va_G} {cy : Nat → ClassId} {ad : Nat → Nat → Nat} {a2 : Int32} {Q : Int32 → xS → Prop} (V : xEnv g D (xTys cy) (shM cy) ad RX7 cX7_base (some .int) 1 22 4 (xQi Q)) (S : xS) (s1 : Int32) (s2 : Int32) (h : wp_X7_base_35 a2 Q S s1 s2) : Wx g (xW D (shM cy) ad S) 35 [(2, .int a2)] [.int s2, .int s1, .ref (ad 0 0)] := by
  obtain ⟨X, K, hi, hA, hR, E, hN⟩ := V
  have V := xEnv_mk X K hi hA hR E hN
  unfold wp_X7_base_35 at h
  refine x_iload_n X 0 dX7_base_35 rfl ?_
  refine x_iadd X dX7_base_36 ?_
  refine x_calli hA (x_runV (n := 2) (sh := shM cy) X K hR (fun _ q => q) (m_X7_of hi  h) (kM_0 cy (Nat.zero_lt_one)) rfl rfl t4_208 t4_210 tp_31 t1_8 t4_211 ⟨by decide, by decide, by decide +kernel⟩ rfl (by decide) (by decide) rfl (Nat.le_of_ble_eq_true rfl) dX7_base_37) (fun r2 S1 h => ?_)
  refine x_sub [] rfl ?_
  exact w_X7_base_40 V S1 r2 h
set_option maxHeartbeats 2000000 in
set_option maxRecDepth 20000 in
theorem w_X7_base {g : xG} {D : va_G} {cy : Nat → ClassId} {ad : Nat → Nat → Nat} {a1 : Int32} {a2 : Int32} {a3 : Int32} {S : xS} {Q : Int32 → xS → Prop} (V : xEnv g D (xTys cy) (shM cy) ad RX7 cX7_base (some .int) 1 22 4 (xQi Q)) (h : wp_X7_base a1 a2 a3 S Q) : Wx g (xW D (shM cy) ad S) 0 [(0, .ref (ad 0 0)), (1, .int a1), (2, .int a2), (3, .int a3)] [] := by
  obtain ⟨X, K, hi, hA, hR, E, hN⟩ := V
  have V := xEnv_mk X K hi hA hR E hN
  unfold wp_X7_base at h
  refine x_iload_n X 2 dX7_base_0 rfl ?_
  refine x_bipush X (v := 24) dX7_base_1 (by decide) ?_
  refine x_icmp_ne X 23 dX7_base_3 (by decide) h (fun h => ?_) (fun h => ?_)
  · refine x_iload_n X 3 dX7_base_6 rfl ?_
    refine x_if_eq X 14 dX7_base_7 (by decide) h (fun h => ?_) (fun h => ?_)
    · refine x_aload_n X 0 dX7_base_14 rfl ?_
      refine x_iload_n X 1 dX7_base_15 rfl ?_
      refine x_iconst X (v := 1) dX7_base_16 (by decide) ?_
      refine x_calli hA (x_runV (n := 2) (sh := shM cy) X K hR (fun _ q => q) (m_X7_of hi  h) (kM_0 cy Nat.zero_lt_one) rfl rfl t4_208 t4_210 tp_31 t1_8 t4_211 ⟨by decide, by decide, by decide +kernel⟩ rfl (by decide) (by decide) rfl (Nat.le_of_ble_eq_true rfl) dX7_base_17) (fun r2 S1 h => ?_)
      refine x_goto X 40 dX7_base_20 (by decide) ?_
      refine x_sub [] rfl ?_
      exact w_X7_base_40 V S1 r2 h
    · refine x_iconst X (v := 0) dX7_base_10 (by decide) ?_
      refine x_goto X 40 dX7_base_11 (by decide) ?_
      refine x_sub [] rfl ?_
      exact w_X7_base_40 V S (0 : Int32) h
  · refine x_aload_n X 0 dX7_base_23 rfl ?_
    refine x_iload_n X 1 dX7_base_24 rfl ?_
    refine x_iload_n X 3 dX7_base_25 rfl ?_
    refine x_if_eq X 34 dX7_base_26 (by decide) h (fun h => ?_) (fun h => ?_)
    · refine x_iconst X (v := 4) dX7_base_34 (by decide) ?_
      refine x_sub [2] rfl ?_
      exact w_X7_base_35 V S a1 (4 : Int32) h
    · refine x_bipush X (v := 28) dX7_base_29 (by decide) ?_
      refine x_goto X 35 dX7_base_31 (by decide) ?_
      refine x_sub [2] rfl ?_
      exact w_X7_base_35 V S a1 (28 : Int32) h
set_option maxHeartbeats 2000000 in
set_option maxRecDepth 20000 in
theorem m_X7_base {l : Launch} {D : va_G} {cy : Nat → ClassId} {ad : Nat → Nat → Nat} (hi : xInj (shM cy) ad) {a1 : Int32} {a2 : Int32} {a3 : Int32} {S : xS} {Q : Int32 → xS → Prop} (h : wp_X7_base a1 a2 a3 S Q) : xMet l D (xTys cy) (shM cy) ad yX7_base cX7_base 4 (some .int) (xRm 1 22) [.ref (ad 0 0), .int a1, .int a2, .int a3] S (xQi Q) := xMet_env hi (by decide +kernel) rfl (Nat.le_of_ble_eq_true rfl) (fun g hl V => w_X7_base V h)
set_option maxHeartbeats 2000000 in
set_option maxRecDepth 20000 in
theorem w_X7_placeNow_6_b {g : xG} {D : va_G} {cy : Nat → ClassId} {ad : Nat → Nat → Nat} {a1 : Int32} {a2 : Int32} {a3 : Int32} {K6 : xS → Int64 → Int32 → Prop} {Q : Int64 → xS → Prop} (V : xEnv g D (xTys cy) (shM cy) ad RX7 cX7_placeNow (some .long) 4 108 7 (xQl Q)) (hK6 : ∀ (S : xS) (v4 : Int64) (v6 : Int32), K6 S v4 v6 → Wx g (xW D (shM cy) ad S) 6 [(0, .ref (ad 0 0)), (1, .int a1), (2, .int a2), (3, .int a3), (4, .long v4), (6, .int v6)] []) (S : xS) (v4 : Int64) (v6 : Int32) (h : wp_X7_placeNow_6_b a1 a2 a3 K6 Q S v4 v6) : Wx g (xW D (shM cy) ad S) 6 [(0, .ref (ad 0 0)), (1, .int a1), (2, .int a2), (3, .int a3), (4, .long v4), (6, .int v6)] [] := by
  obtain ⟨X, K, hi, hA, hR, E, hN⟩ := V
  have V := xEnv_mk X K hi hA hR E hN
  unfold wp_X7_placeNow_6_b at h
  refine x_iload X 5 dX7_placeNow_6 rfl ?_
  refine x_aload_n X 0 dX7_placeNow_8 rfl ?_
  refine x_iload_n X 1 dX7_placeNow_9 rfl ?_
  refine x_iconst X (v := 3) dX7_placeNow_10 (by decide) ?_
  refine x_calli hA (x_runV (n := 2) (sh := shM cy) X K hR (fun _ q => q) (m_X7_of hi  h) (kM_0 cy (Nat.zero_lt_one)) rfl rfl t4_208 t4_210 tp_31 t1_8 t4_211 ⟨by decide, by decide, by decide +kernel⟩ rfl (by decide) (by decide) rfl (Nat.le_of_ble_eq_true rfl) dX7_placeNow_11) (fun r2 S1 h => ?_)
  refine x_icmp_ge X 46 dX7_placeNow_14 (by decide) h (fun h => ?_) (fun h => ?_)
  · refine x_aload_n X 0 dX7_placeNow_46 rfl ?_
    refine x_iload_n X 1 dX7_placeNow_47 rfl ?_
    refine x_iload_n X 2 dX7_placeNow_48 rfl ?_
    refine x_iload_n X 3 dX7_placeNow_49 rfl ?_
    refine x_calli hA (x_runV (n := 3) (sh := shM cy) X K hR (fun _ q => q) (m_X7_base hi  h) (kM_0 cy (Nat.zero_lt_one)) rfl rfl t5_91 t5_93 tp_46 t1_8 t5_94 ⟨by decide, by decide, by decide +kernel⟩ rfl (by decide) (by decide) rfl (Nat.le_of_ble_eq_true rfl) dX7_placeNow_50) (fun r4 S3 h => ?_)
    refine x_i2l X dX7_placeNow_53 ?_
    refine x_lload X 4 dX7_placeNow_54 rfl ?_
    refine x_ldc2 X (v := 268435456) t5_75 dX7_placeNow_56 ?_
    refine x_calll hA (x_runS (n := 2) X K hR (fun _ q => q) (m_X7_near hi  h) t4_161 t4_162 t1_8 t4_163 ⟨by decide, by decide, by decide +kernel⟩ rfl (by decide) (by decide) rfl (Nat.le_of_ble_eq_true rfl) dX7_placeNow_59) (fun r6 S5 h => ?_)
    refine x_ladd X dX7_placeNow_62 ?_
    exact x_lret X E dX7_placeNow_63 ⟨_, rfl, h⟩
  · refine x_lload X 4 dX7_placeNow_17 rfl ?_
    refine x_aload_n X 0 dX7_placeNow_19 rfl ?_
    refine x_iload_n X 1 dX7_placeNow_20 rfl ?_
    refine x_iload X 5 dX7_placeNow_21 rfl ?_
    refine x_calll hA (x_runV (n := 2) (sh := shM cy) X K hR (fun _ q => q) (m_X7_scalarOf hi  h) (kM_0 cy (Nat.zero_lt_one)) rfl rfl t5_71 t5_73 tp_45 t1_8 t5_74 ⟨by decide, by decide, by decide +kernel⟩ rfl (by decide) (by decide) rfl (Nat.le_of_ble_eq_true rfl) dX7_placeNow_23) (fun r8 S7 h => ?_)
    refine x_aload_n X 0 dX7_placeNow_26 rfl ?_
    refine x_iload_n X 1 dX7_placeNow_27 rfl ?_
    refine x_iload X 5 dX7_placeNow_28 rfl ?_
    refine x_iload_n X 2 dX7_placeNow_30 rfl ?_
    refine x_iload_n X 3 dX7_placeNow_31 rfl ?_
    refine x_calli hA (x_runV (n := 4) (sh := shM cy) X K hR (fun _ q => q) (m_X7_deltaOf hi  h) (kM_0 cy (Nat.zero_lt_one)) rfl rfl t5_47 t5_49 tp_41 t1_8 t5_50 ⟨by decide, by decide, by decide +kernel⟩ rfl (by decide) (by decide) rfl (Nat.le_of_ble_eq_true rfl) dX7_placeNow_32) (fun r10 S9 h => ?_)
    refine x_i2l X dX7_placeNow_35 ?_
    refine x_lmul X dX7_placeNow_36 ?_
    refine x_ladd X dX7_placeNow_37 ?_
    refine x_lstore X [(4, .long (v4 + (r8 * (Int32.toInt64 r10)))), (0, .ref (ad 0 0)), (1, .int a1), (2, .int a2), (3, .int a3), (6, .int v6)] dX7_placeNow_38 (by rw [hN]; decide) rfl ?_
    refine x_iinc X 5 [(6, .int (v6 + (1 : Int32))), (4, .long (v4 + (r8 * (Int32.toInt64 r10)))), (0, .ref (ad 0 0)), (1, .int a1), (2, .int a2), (3, .int a3)] dX7_placeNow_40 rfl rfl (by rw [hN]; decide) rfl ?_
    refine x_goto X 6 dX7_placeNow_43 (by decide) ?_
    refine x_sub [2, 3, 4, 5, 1, 0] rfl ?_
    exact hK6 S9 (v4 + (r8 * (Int32.toInt64 r10))) (v6 + (1 : Int32)) h
set_option maxHeartbeats 2000000 in
set_option maxRecDepth 20000 in
theorem w_X7_placeNow_6 {g : xG} {D : va_G} {cy : Nat → ClassId} {ad : Nat → Nat → Nat} {a1 : Int32} {a2 : Int32} {a3 : Int32} {Q : Int64 → xS → Prop} (V : xEnv g D (xTys cy) (shM cy) ad RX7 cX7_placeNow (some .long) 4 108 7 (xQl Q)) (n : Nat) : ∀ (S : xS) (v4 : Int64) (v6 : Int32), wp_X7_placeNow_6 a1 a2 a3 Q n S v4 v6 → Wx g (xW D (shM cy) ad S) 6 [(0, .ref (ad 0 0)), (1, .int a1), (2, .int a2), (3, .int a3), (4, .long v4), (6, .int v6)] [] := by
  induction n with
  | zero => intro S v4 v6 h; exact h.elim
  | succ n ih => intro S v4 v6 h; exact w_X7_placeNow_6_b V (fun S v4 v6 h => ih S v4 v6 h) S v4 v6 h
set_option maxHeartbeats 2000000 in
set_option maxRecDepth 20000 in
theorem w_X7_placeNow {g : xG} {D : va_G} {cy : Nat → ClassId} {ad : Nat → Nat → Nat} {a1 : Int32} {a2 : Int32} {a3 : Int32} {S : xS} {Q : Int64 → xS → Prop} (V : xEnv g D (xTys cy) (shM cy) ad RX7 cX7_placeNow (some .long) 4 108 7 (xQl Q)) (h : wp_X7_placeNow a1 a2 a3 S Q) : Wx g (xW D (shM cy) ad S) 0 [(0, .ref (ad 0 0)), (1, .int a1), (2, .int a2), (3, .int a3)] [] := by
  obtain ⟨X, K, hi, hA, hR, E, hN⟩ := V
  have V := xEnv_mk X K hi hA hR E hN
  unfold wp_X7_placeNow at h
  refine x_lconst X (v := 0) dX7_placeNow_0 (by decide) ?_
  refine x_lstore X [(4, .long (0 : Int64)), (0, .ref (ad 0 0)), (1, .int a1), (2, .int a2), (3, .int a3)] dX7_placeNow_1 (by rw [hN]; decide) rfl ?_
  refine x_iconst X (v := 0) dX7_placeNow_3 (by decide) ?_
  refine x_istore X [(6, .int (0 : Int32)), (4, .long (0 : Int64)), (0, .ref (ad 0 0)), (1, .int a1), (2, .int a2), (3, .int a3)] dX7_placeNow_4 (by rw [hN]; decide) rfl ?_
  refine x_sub [2, 3, 4, 5, 1, 0] rfl ?_
  obtain ⟨n1, h⟩ := h
  exact w_X7_placeNow_6 V n1 S (0 : Int64) (0 : Int32) h
set_option maxHeartbeats 2000000 in
set_option maxRecDepth 20000 in
theorem m_X7_placeNow {l : Launch} {D : va_G} {cy : Nat → ClassId} {ad : Nat → Nat → Nat} (hi : xInj (shM cy) ad) {a1 : Int32} {a2 : Int32} {a3 : Int32} {S : xS} {Q : Int64 → xS → Prop} (h : wp_X7_placeNow a1 a2 a3 S Q) : xMet l D (xTys cy) (shM cy) ad yX7_placeNow cX7_placeNow 7 (some .long) (xRm 4 108) [.ref (ad 0 0), .int a1, .int a2, .int a3] S (xQl Q) := xMet_env hi (by decide +kernel) rfl (Nat.le_of_ble_eq_true rfl) (fun g hl V => w_X7_placeNow V h)
set_option maxHeartbeats 2000000 in
set_option maxRecDepth 20000 in
theorem w_X7_position_29 {g : xG} {D : va_G} {cy : Nat → ClassId} {ad : Nat → Nat → Nat} {Q : Int64 → xS → Prop} (V : xEnv g D (xTys cy) (shM cy) ad RX7 cX7_position (some .long) 5 134 4 (xQl Q)) (S : xS) (h : wp_X7_position_29 Q S) : Wx g (xW D (shM cy) ad S) 29 [] [] := by
  obtain ⟨X, K, hi, hA, hR, E, hN⟩ := V
  have V := xEnv_mk X K hi hA hR E hN
  unfold wp_X7_position_29 at h
  refine x_calll hA (x_runS (n := 0) X K hR (fun _ q => q) (m_X7_lost hi  h) t5_87 t5_88 t1_8 t5_89 ⟨by decide, by decide, by decide +kernel⟩ rfl (by decide) (by decide) rfl (Nat.le_of_ble_eq_true rfl) dX7_position_29) (fun r2 S1 h => ?_)
  exact x_lret X E dX7_position_32 ⟨_, rfl, h⟩
set_option maxHeartbeats 2000000 in
set_option maxRecDepth 20000 in
theorem w_X7_position_80 {g : xG} {D : va_G} {cy : Nat → ClassId} {ad : Nat → Nat → Nat} {Q : Int64 → xS → Prop} (V : xEnv g D (xTys cy) (shM cy) ad RX7 cX7_position (some .long) 5 134 4 (xQl Q)) (S : xS) (s0 : Int64) (h : wp_X7_position_80 Q S s0) : Wx g (xW D (shM cy) ad S) 80 [] [.long s0] := by
  obtain ⟨X, K, hi, hA, hR, E, hN⟩ := V
  have V := xEnv_mk X K hi hA hR E hN
  unfold wp_X7_position_80 at h
  exact x_lret X E dX7_position_80 ⟨_, rfl, h⟩
set_option maxHeartbeats 2000000 in
set_option maxRecDepth 20000 in
theorem w_X7_position_77 {g : xG} {D : va_G} {cy : Nat → ClassId} {ad : Nat → Nat → Nat} {Q : Int64 → xS → Prop} (V : xEnv g D (xTys cy) (shM cy) ad RX7 cX7_position (some .long) 5 134 4 (xQl Q)) (S : xS) (s1 : Int32) (s2 : Int32) (s3 : Int32) (h : wp_X7_position_77 Q S s1 s2 s3) : Wx g (xW D (shM cy) ad S) 77 [] [.int s3, .int s2, .int s1, .ref (ad 0 0)] := by
  obtain ⟨X, K, hi, hA, hR, E, hN⟩ := V
  have V := xEnv_mk X K hi hA hR E hN
  unfold wp_X7_position_77 at h
  refine x_calll hA (x_runV (n := 3) (sh := shM cy) X K hR (fun _ q => q) (m_X7_placeNow hi  h) (kM_0 cy (Nat.zero_lt_one)) rfl rfl t5_95 t5_97 tp_47 t1_8 t5_98 ⟨by decide, by decide, by decide +kernel⟩ rfl (by decide) (by decide) rfl (Nat.le_of_ble_eq_true rfl) dX7_position_77) (fun r2 S1 h => ?_)
  refine x_sub [] rfl ?_
  exact w_X7_position_80 V S1 r2 h
set_option maxHeartbeats 2000000 in
set_option maxRecDepth 20000 in
theorem w_X7_position_54 {g : xG} {D : va_G} {cy : Nat → ClassId} {ad : Nat → Nat → Nat} {Q : Int64 → xS → Prop} (V : xEnv g D (xTys cy) (shM cy) ad RX7 cX7_position (some .long) 5 134 4 (xQl Q)) (S : xS) (s1 : Int32) (s2 : Int32) (s3 : Int32) (h : wp_X7_position_54 Q S s1 s2 s3) : Wx g (xW D (shM cy) ad S) 54 [] [.int s3, .int s2, .int s1, .ref (ad 0 0)] := by
  obtain ⟨X, K, hi, hA, hR, E, hN⟩ := V
  have V := xEnv_mk X K hi hA hR E hN
  unfold wp_X7_position_54 at h
  refine x_calli hA (x_runV (n := 3) (sh := shM cy) X K hR (fun _ q => q) (m_X7_base hi  h) (kM_0 cy (Nat.zero_lt_one)) rfl rfl t5_91 t5_93 tp_46 t1_8 t5_94 ⟨by decide, by decide, by decide +kernel⟩ rfl (by decide) (by decide) rfl (Nat.le_of_ble_eq_true rfl) dX7_position_54) (fun r2 S1 h => ?_)
  refine x_i2l X dX7_position_57 ?_
  refine x_goto X 80 dX7_position_58 (by decide) ?_
  refine x_sub [] rfl ?_
  exact w_X7_position_80 V S1 (Int32.toInt64 r2) h
set_option maxHeartbeats 2000000 in
set_option maxRecDepth 20000 in
theorem w_X7_position {g : xG} {D : va_G} {cy : Nat → ClassId} {ad : Nat → Nat → Nat} {a1 : Int32} {a2 : Int32} {a3 : Int32} {S : xS} {Q : Int64 → xS → Prop} (V : xEnv g D (xTys cy) (shM cy) ad RX7 cX7_position (some .long) 5 134 4 (xQl Q)) (h : wp_X7_position a1 a2 a3 S Q) : Wx g (xW D (shM cy) ad S) 0 [(0, .ref (ad 0 0)), (1, .int a1), (2, .int a2), (3, .int a3)] [] := by
  obtain ⟨X, K, hi, hA, hR, E, hN⟩ := V
  have V := xEnv_mk X K hi hA hR E hN
  unfold wp_X7_position at h
  refine x_aload_n X 0 dX7_position_0 rfl ?_
  refine x_iload_n X 1 dX7_position_1 rfl ?_
  refine x_calli hA (x_runV (n := 1) (sh := shM cy) X K hR (fun _ q => q) (m_X7_noGlyph hi  h) (kM_0 cy Nat.zero_lt_one) rfl rfl t4_199 t4_201 tp_30 t1_8 t4_202 ⟨by decide, by decide, by decide +kernel⟩ rfl (by decide) (by decide) rfl (Nat.le_of_ble_eq_true rfl) dX7_position_2) (fun r2 S1 h => ?_)
  refine x_if_ne X 29 dX7_position_5 (by decide) h (fun h => ?_) (fun h => ?_)
  · refine x_aload_n X 0 dX7_position_8 rfl ?_
    refine x_iload_n X 1 dX7_position_9 rfl ?_
    refine x_iload_n X 2 dX7_position_10 rfl ?_
    refine x_calli hA (x_runV (n := 2) (sh := shM cy) X K hR (fun _ q => q) (m_X7_noPoint hi  h) (kM_0 cy Nat.zero_lt_one) rfl rfl t5_20 t5_22 tp_38 t1_8 t5_23 ⟨by decide, by decide, by decide +kernel⟩ rfl (by decide) (by decide) rfl (Nat.le_of_ble_eq_true rfl) dX7_position_11) (fun r4 S3 h => ?_)
    refine x_if_ne X 29 dX7_position_14 (by decide) h (fun h => ?_) (fun h => ?_)
    · refine x_iload_n X 3 dX7_position_17 rfl ?_
      refine x_i2l X dX7_position_18 ?_
      refine x_lconst X (v := 0) dX7_position_19 (by decide) ?_
      refine x_ldc2 X (v := 3) t5_86 dX7_position_20 ?_
      refine x_calli hA (x_runS (n := 3) X K hR (fun _ q => q) (m_X7_in hi  h) t4_135 t4_136 t1_8 t4_137 ⟨by decide, by decide, by decide +kernel⟩ rfl (by decide) (by decide) rfl (Nat.le_of_ble_eq_true rfl) dX7_position_23) (fun r6 S5 h => ?_)
      refine x_if_ne X 33 dX7_position_26 (by decide) h (fun h => ?_) (fun h => ?_)
      · refine x_sub [] rfl ?_
        exact w_X7_position_29 V S5 h
      · refine x_iload_n X 3 dX7_position_33 rfl ?_
        refine x_iconst X (v := 2) dX7_position_34 (by decide) ?_
        refine x_icmp_ge X 61 dX7_position_35 (by decide) h (fun h => ?_) (fun h => ?_)
        · refine x_aload_n X 0 dX7_position_61 rfl ?_
          refine x_iload_n X 1 dX7_position_62 rfl ?_
          refine x_iload_n X 2 dX7_position_63 rfl ?_
          refine x_calli hA (x_runS (n := 1) X K hR (fun _ q => q) (m_X7_slot hi  h) t5_28 t5_29 t1_8 t5_30 ⟨by decide, by decide, by decide +kernel⟩ rfl (by decide) (by decide) rfl (Nat.le_of_ble_eq_true rfl) dX7_position_64) (fun r8 S7 h => ?_)
          refine x_iload_n X 3 dX7_position_67 rfl ?_
          refine x_iconst X (v := 3) dX7_position_68 (by decide) ?_
          refine x_icmp_ne X 76 dX7_position_69 (by decide) h (fun h => ?_) (fun h => ?_)
          · refine x_iconst X (v := 1) dX7_position_72 (by decide) ?_
            refine x_goto X 77 dX7_position_73 (by decide) ?_
            refine x_sub [] rfl ?_
            exact w_X7_position_77 V S7 a1 r8 (1 : Int32) h
          · refine x_iconst X (v := 0) dX7_position_76 (by decide) ?_
            refine x_sub [] rfl ?_
            exact w_X7_position_77 V S7 a1 r8 (0 : Int32) h
        · refine x_aload_n X 0 dX7_position_38 rfl ?_
          refine x_iload_n X 1 dX7_position_39 rfl ?_
          refine x_iload_n X 2 dX7_position_40 rfl ?_
          refine x_calli hA (x_runS (n := 1) X K hR (fun _ q => q) (m_X7_slot hi  h) t5_28 t5_29 t1_8 t5_30 ⟨by decide, by decide, by decide +kernel⟩ rfl (by decide) (by decide) rfl (Nat.le_of_ble_eq_true rfl) dX7_position_41) (fun r10 S9 h => ?_)
          refine x_iload_n X 3 dX7_position_44 rfl ?_
          refine x_iconst X (v := 1) dX7_position_45 (by decide) ?_
          refine x_icmp_ne X 53 dX7_position_46 (by decide) h (fun h => ?_) (fun h => ?_)
          · refine x_iconst X (v := 1) dX7_position_49 (by decide) ?_
            refine x_goto X 54 dX7_position_50 (by decide) ?_
            refine x_sub [] rfl ?_
            exact w_X7_position_54 V S9 a1 r10 (1 : Int32) h
          · refine x_iconst X (v := 0) dX7_position_53 (by decide) ?_
            refine x_sub [] rfl ?_
            exact w_X7_position_54 V S9 a1 r10 (0 : Int32) h
    · refine x_sub [] rfl ?_
      exact w_X7_position_29 V S3 h
  · refine x_sub [] rfl ?_
    exact w_X7_position_29 V S1 h
set_option maxHeartbeats 2000000 in
set_option maxRecDepth 20000 in
theorem m_X7_position {l : Launch} {D : va_G} {cy : Nat → ClassId} {ad : Nat → Nat → Nat} (hi : xInj (shM cy) ad) {a1 : Int32} {a2 : Int32} {a3 : Int32} {S : xS} {Q : Int64 → xS → Prop} (h : wp_X7_position a1 a2 a3 S Q) : xMet l D (xTys cy) (shM cy) ad yX7_position cX7_position 4 (some .long) (xRm 5 134) [.ref (ad 0 0), .int a1, .int a2, .int a3] S (xQl Q) := xMet_env hi (by decide +kernel) rfl (Nat.le_of_ble_eq_true rfl) (fun g hl V => w_X7_position V h)
