set_option maxHeartbeats 2000000 in
set_option maxRecDepth 20000 in
theorem w_X1_inferredDelta_16 {g : xG} {D : va_G} {cy : Nat → ClassId} {ad : Nat → Nat → Nat} {Q : Int32 → xS → Prop} (V : xEnv g D (xTys cy) (shC cy) ad RX1 cX1_inferredDelta (some .int) 2 48 11 (xQi Q)) (S : xS) (s0 : Int32) (h : wp_X1_inferredDelta_16 Q S s0) : Wx g (xW D (shC cy) ad S) 16 [] [.int s0] := by
  obtain ⟨X, K, hi, hA, hR, E, hN⟩ := V
  have V := xEnv_mk X K hi hA hR E hN
  unfold wp_X1_inferredDelta_16 at h
  exact x_iret X E dX1_inferredDelta_16 ⟨_, rfl, h⟩
set_option maxHeartbeats 2000000 in
set_option maxRecDepth 20000 in
theorem w_X1_inferredDelta_55 {g : xG} {D : va_G} {cy : Nat → ClassId} {ad : Nat → Nat → Nat} {a0 : Int32} {Q : Int32 → xS → Prop} (V : xEnv g D (xTys cy) (shC cy) ad RX1 cX1_inferredDelta (some .int) 2 48 11 (xQi Q)) (S : xS) (v5 : Int32) (v6 : Int32) (v7 : Int32) (s0 : Int32) (h : wp_X1_inferredDelta_55 a0 Q S v5 v6 v7 s0) : Wx g (xW D (shC cy) ad S) 55 [(0, .int a0), (5, .int v5), (6, .int v6), (7, .int v7)] [.int s0] := by
  obtain ⟨X, K, hi, hA, hR, E, hN⟩ := V
  have V := xEnv_mk X K hi hA hR E hN
  unfold wp_X1_inferredDelta_55 at h
  refine x_istore X [(8, .int s0), (0, .int a0), (5, .int v5), (6, .int v6), (7, .int v7)] dX1_inferredDelta_55 (by rw [hN]; decide) rfl ?_
  refine x_iload_n X 1 dX1_inferredDelta_57 rfl ?_
  refine x_iload X 2 dX1_inferredDelta_58 rfl ?_
  refine x_icmp_gt X 66 dX1_inferredDelta_60 (by decide) h (fun h => ?_) (fun h => ?_)
  · refine x_iload_n X 1 dX1_inferredDelta_66 rfl ?_
    refine x_iload X 3 dX1_inferredDelta_67 rfl ?_
    refine x_icmp_lt X 75 dX1_inferredDelta_69 (by decide) h (fun h => ?_) (fun h => ?_)
    · refine x_iload_n X 1 dX1_inferredDelta_75 rfl ?_
      refine x_i2l X dX1_inferredDelta_76 ?_
      refine x_iload X 2 dX1_inferredDelta_77 rfl ?_
      refine x_i2l X dX1_inferredDelta_79 ?_
      refine x_lsub X dX1_inferredDelta_80 ?_
      refine x_iload X 0 dX1_inferredDelta_81 rfl ?_
      refine x_i2l X dX1_inferredDelta_83 ?_
      refine x_iload X 4 dX1_inferredDelta_84 rfl ?_
      refine x_i2l X dX1_inferredDelta_86 ?_
      refine x_lsub X dX1_inferredDelta_87 ?_
      refine x_lmul X dX1_inferredDelta_88 ?_
      refine x_lstore X [(9, .long (((Int32.toInt64 a0) - (Int32.toInt64 v5)) * ((Int32.toInt64 s0) - (Int32.toInt64 v7)))), (8, .int s0), (0, .int a0), (5, .int v5), (6, .int v6), (7, .int v7)] dX1_inferredDelta_89 (by rw [hN]; decide) rfl ?_
      refine x_iload X 5 dX1_inferredDelta_91 rfl ?_
      refine x_lload X 0 dX1_inferredDelta_93 rfl ?_
      refine x_iload X 4 dX1_inferredDelta_95 rfl ?_
      refine x_i2l X dX1_inferredDelta_97 ?_
      refine x_iload X 3 dX1_inferredDelta_98 rfl ?_
      refine x_i2l X dX1_inferredDelta_100 ?_
      refine x_lsub X dX1_inferredDelta_101 ?_
      refine x_calll hA (x_runSN (n := 2) (host := "FontInstancer") X K hR (fun _ q => q) (m_X6_roundedQuotient hi  h) (by decide) t2_58 t1_1 t2_59 ⟨by decide, by decide, by decide +kernel⟩ rfl (by decide) (by decide) rfl (Nat.le_of_ble_eq_true rfl) dX1_inferredDelta_102) (fun r2 S1 h => ?_)
      refine x_l2i X dX1_inferredDelta_105 ?_
      refine x_iadd X dX1_inferredDelta_106 ?_
      exact x_iret X E dX1_inferredDelta_107 ⟨_, rfl, h⟩
    · refine x_iload X 0 dX1_inferredDelta_72 rfl ?_
      exact x_iret X E dX1_inferredDelta_74 ⟨_, rfl, h⟩
  · refine x_iload X 4 dX1_inferredDelta_63 rfl ?_
    exact x_iret X E dX1_inferredDelta_65 ⟨_, rfl, h⟩
set_option maxHeartbeats 2000000 in
set_option maxRecDepth 20000 in
theorem w_X1_inferredDelta_42 {g : xG} {D : va_G} {cy : Nat → ClassId} {ad : Nat → Nat → Nat} {a0 : Int32} {a1 : Int32} {a2 : Int32} {a3 : Int32} {a4 : Int32} {Q : Int32 → xS → Prop} (V : xEnv g D (xTys cy) (shC cy) ad RX1 cX1_inferredDelta (some .int) 2 48 11 (xQi Q)) (S : xS) (v5 : Int32) (v6 : Int32) (s0 : Int32) (h : wp_X1_inferredDelta_42 a0 a1 a2 a3 a4 Q S v5 v6 s0) : Wx g (xW D (shC cy) ad S) 42 [(0, .int a0), (1, .int a1), (2, .int a2), (3, .int a3), (4, .int a4), (5, .int v5), (6, .int v6)] [.int s0] := by
  obtain ⟨X, K, hi, hA, hR, E, hN⟩ := V
  have V := xEnv_mk X K hi hA hR E hN
  unfold wp_X1_inferredDelta_42 at h
  refine x_istore X [(7, .int s0), (0, .int a0), (1, .int a1), (2, .int a2), (3, .int a3), (4, .int a4), (5, .int v5), (6, .int v6)] dX1_inferredDelta_42 (by rw [hN]; decide) rfl ?_
  refine x_iload_n X 2 dX1_inferredDelta_44 rfl ?_
  refine x_iload_n X 3 dX1_inferredDelta_45 rfl ?_
  refine x_icmp_ge X 54 dX1_inferredDelta_46 (by decide) h (fun h => ?_) (fun h => ?_)
  · refine x_iload_n X 4 dX1_inferredDelta_54 rfl ?_
    refine x_sub [1, 6, 7, 0] rfl ?_
    exact w_X1_inferredDelta_55 V S v5 v6 s0 a3 h
  · refine x_iload X 5 dX1_inferredDelta_49 rfl ?_
    refine x_goto X 55 dX1_inferredDelta_51 (by decide) ?_
    refine x_sub [1, 6, 7, 0] rfl ?_
    exact w_X1_inferredDelta_55 V S v5 v6 s0 a4 h
set_option maxHeartbeats 2000000 in
set_option maxRecDepth 20000 in
theorem w_X1_inferredDelta {g : xG} {D : va_G} {cy : Nat → ClassId} {ad : Nat → Nat → Nat} {a0 : Int32} {a1 : Int32} {a2 : Int32} {a3 : Int32} {a4 : Int32} {S : xS} {Q : Int32 → xS → Prop} (V : xEnv g D (xTys cy) (shC cy) ad RX1 cX1_inferredDelta (some .int) 2 48 11 (xQi Q)) (h : wp_X1_inferredDelta a0 a1 a2 a3 a4 S Q) : Wx g (xW D (shC cy) ad S) 0 [(0, .int a0), (1, .int a1), (2, .int a2), (3, .int a3), (4, .int a4)] [] := by
  obtain ⟨X, K, hi, hA, hR, E, hN⟩ := V
  have V := xEnv_mk X K hi hA hR E hN
  unfold wp_X1_inferredDelta at h
  refine x_iload_n X 1 dX1_inferredDelta_0 rfl ?_
  refine x_iload_n X 2 dX1_inferredDelta_1 rfl ?_
  refine x_icmp_ne X 17 dX1_inferredDelta_2 (by decide) h (fun h => ?_) (fun h => ?_)
  · refine x_iload_n X 3 dX1_inferredDelta_5 rfl ?_
    refine x_iload X 4 dX1_inferredDelta_6 rfl ?_
    refine x_icmp_ne X 15 dX1_inferredDelta_8 (by decide) h (fun h => ?_) (fun h => ?_)
    · refine x_iload_n X 3 dX1_inferredDelta_11 rfl ?_
      refine x_goto X 16 dX1_inferredDelta_12 (by decide) ?_
      refine x_sub [] rfl ?_
      exact w_X1_inferredDelta_16 V S a3 h
    · refine x_iconst X (v := 0) dX1_inferredDelta_15 (by decide) ?_
      refine x_sub [] rfl ?_
      exact w_X1_inferredDelta_16 V S (0 : Int32) h
  · refine x_iload_n X 1 dX1_inferredDelta_17 rfl ?_
    refine x_iload_n X 2 dX1_inferredDelta_18 rfl ?_
    refine x_calli hA (x_runS (n := 2) X K hR (fun _ q => q) (m_J9_min_7cf53 hi  h) t2_172 t2_47 t1_9 t2_48 ⟨by decide, by decide, by decide +kernel⟩ rfl (by decide) (by decide) rfl (Nat.le_of_ble_eq_true rfl) dX1_inferredDelta_19) (fun r2 S1 h => ?_)
    refine x_istore X [(5, .int r2), (0, .int a0), (1, .int a1), (2, .int a2), (3, .int a3), (4, .int a4)] dX1_inferredDelta_22 (by rw [hN]; decide) rfl ?_
    refine x_iload_n X 2 dX1_inferredDelta_24 rfl ?_
    refine x_iload_n X 3 dX1_inferredDelta_25 rfl ?_
    refine x_calli hA (x_runS (n := 2) X K hR (fun _ q => q) (m_J9_max_7cf53 hi  h) t2_173 t2_50 t1_9 t2_51 ⟨by decide, by decide, by decide +kernel⟩ rfl (by decide) (by decide) rfl (Nat.le_of_ble_eq_true rfl) dX1_inferredDelta_26) (fun r4 S3 h => ?_)
    refine x_istore X [(6, .int r4), (5, .int r2), (0, .int a0), (1, .int a1), (2, .int a2), (3, .int a3), (4, .int a4)] dX1_inferredDelta_29 (by rw [hN]; decide) rfl ?_
    refine x_iload_n X 3 dX1_inferredDelta_31 rfl ?_
    refine x_iload_n X 4 dX1_inferredDelta_32 rfl ?_
    refine x_icmp_ge X 40 dX1_inferredDelta_33 (by decide) h (fun h => ?_) (fun h => ?_)
    · refine x_iload X 6 dX1_inferredDelta_40 rfl ?_
      refine x_sub [2, 3, 4, 5, 6, 1, 0] rfl ?_
      exact w_X1_inferredDelta_42 V S3 r2 r4 a4 h
    · refine x_iload_n X 5 dX1_inferredDelta_36 rfl ?_
      refine x_goto X 42 dX1_inferredDelta_37 (by decide) ?_
      refine x_sub [2, 3, 4, 5, 6, 1, 0] rfl ?_
      exact w_X1_inferredDelta_42 V S3 r2 r4 a3 h
set_option maxHeartbeats 2000000 in
set_option maxRecDepth 20000 in
theorem m_X1_inferredDelta {l : Launch} {D : va_G} {cy : Nat → ClassId} {ad : Nat → Nat → Nat} (hi : xInj (shC cy) ad) {a0 : Int32} {a1 : Int32} {a2 : Int32} {a3 : Int32} {a4 : Int32} {S : xS} {Q : Int32 → xS → Prop} (h : wp_X1_inferredDelta a0 a1 a2 a3 a4 S Q) : xMet l D (xTys cy) (shC cy) ad yX1_inferredDelta cX1_inferredDelta 11 (some .int) (xRm 2 48) [.int a0, .int a1, .int a2, .int a3, .int a4] S (xQi Q) := xMet_env hi (by decide +kernel) rfl (Nat.le_of_ble_eq_true rfl) (fun g hl V => w_X1_inferredDelta V h)
set_option maxHeartbeats 2000000 in
set_option maxRecDepth 20000 in
theorem w_X1_deltaAt_39 {g : xG} {D : va_G} {cy : Nat → ClassId} {ad : Nat → Nat → Nat} {Q : Int32 → xS → Prop} (V : xEnv g D (xTys cy) (shC cy) ad RX1 cX1_deltaAt (some .int) 3 78 6 (xQi Q)) (S : xS) (h : wp_X1_deltaAt_39 Q S) : Wx g (xW D (shC cy) ad S) 39 [] [] := by
  obtain ⟨X, K, hi, hA, hR, E, hN⟩ := V
  have V := xEnv_mk X K hi hA hR E hN
  unfold wp_X1_deltaAt_39 at h
  refine x_iconst X (v := 0) dX1_deltaAt_39 (by decide) ?_
  exact x_iret X E dX1_deltaAt_40 ⟨_, rfl, h⟩
set_option maxHeartbeats 2000000 in
set_option maxRecDepth 20000 in
theorem w_X1_deltaAt_69 {g : xG} {D : va_G} {cy : Nat → ClassId} {ad : Nat → Nat → Nat} {Q : Int32 → xS → Prop} (V : xEnv g D (xTys cy) (shC cy) ad RX1 cX1_deltaAt (some .int) 3 78 6 (xQi Q)) (S : xS) (h : wp_X1_deltaAt_69 Q S) : Wx g (xW D (shC cy) ad S) 69 [] [] := by
  obtain ⟨X, K, hi, hA, hR, E, hN⟩ := V
  have V := xEnv_mk X K hi hA hR E hN
  unfold wp_X1_deltaAt_69 at h
  refine x_iconst X (v := 0) dX1_deltaAt_69 (by decide) ?_
  exact x_iret X E dX1_deltaAt_70 ⟨_, rfl, h⟩
set_option maxHeartbeats 2000000 in
set_option maxRecDepth 20000 in
theorem w_X1_deltaAt_152 {g : xG} {D : va_G} {cy : Nat → ClassId} {ad : Nat → Nat → Nat} {Q : Int32 → xS → Prop} (V : xEnv g D (xTys cy) (shC cy) ad RX1 cX1_deltaAt (some .int) 3 78 6 (xQi Q)) (S : xS) (s0 : Int32) (h : wp_X1_deltaAt_152 Q S s0) : Wx g (xW D (shC cy) ad S) 152 [] [.int s0] := by
  obtain ⟨X, K, hi, hA, hR, E, hN⟩ := V
  have V := xEnv_mk X K hi hA hR E hN
  unfold wp_X1_deltaAt_152 at h
  exact x_iret X E dX1_deltaAt_152 ⟨_, rfl, h⟩
set_option maxHeartbeats 2000000 in
set_option maxRecDepth 20000 in
theorem w_X1_deltaAt_27 {g : xG} {D : va_G} {cy : Nat → ClassId} {ad : Nat → Nat → Nat} {Q : Int32 → xS → Prop} (V : xEnv g D (xTys cy) (shC cy) ad RX1 cX1_deltaAt (some .int) 3 78 6 (xQi Q)) (S : xS) (s0 : Int32) (h : wp_X1_deltaAt_27 Q S s0) : Wx g (xW D (shC cy) ad S) 27 [] [.int s0] := by
  obtain ⟨X, K, hi, hA, hR, E, hN⟩ := V
  have V := xEnv_mk X K hi hA hR E hN
  unfold wp_X1_deltaAt_27 at h
  exact x_iret X E dX1_deltaAt_27 ⟨_, rfl, h⟩
set_option maxHeartbeats 2000000 in
set_option maxRecDepth 20000 in
theorem w_X1_deltaAt {g : xG} {D : va_G} {cy : Nat → ClassId} {ad : Nat → Nat → Nat} {a0 : Nat} {a1 : Nat} {a2 : Int32} {a3 : Int32} {S : xS} {Q : Int32 → xS → Prop} (V : xEnv g D (xTys cy) (shC cy) ad RX1 cX1_deltaAt (some .int) 3 78 6 (xQi Q)) (ha0 : a0 < 12) (ha1 : a1 < 60) (h : wp_X1_deltaAt a0 a1 a2 a3 S Q) : Wx g (xW D (shC cy) ad S) 0 [(0, .ref (ad 1 a0)), (1, .ref (ad 5 a1)), (2, .int a2), (3, .int a3)] [] := by
  obtain ⟨X, K, hi, hA, hR, E, hN⟩ := V
  have V := xEnv_mk X K hi hA hR E hN
  unfold wp_X1_deltaAt at h
  refine x_aload_n X 1 dX1_deltaAt_0 rfl ?_
  refine x_iload_n X 2 dX1_deltaAt_1 rfl ?_
  refine x_calli hA (x_runV (n := 1) (sh := shC cy) X K hR (fun _ q => q) (m_X5_touches hi ha1 h) (kC_5 cy ha1) rfl rfl t2_161 t2_162 t2_163 t1_5 t2_164 ⟨by decide, by decide, by decide +kernel⟩ rfl (by decide) (by decide) rfl (Nat.le_of_ble_eq_true rfl) dX1_deltaAt_2) (fun r2 S1 h => ?_)
  refine x_if_eq X 28 dX1_deltaAt_5 (by decide) h (fun h => ?_) (fun h => ?_)
  · refine x_aload_n X 0 dX1_deltaAt_28 rfl ?_
    refine xg_X1_31 X K ha0 dX1_deltaAt_29 ?_
    refine x_if_ne X 39 dX1_deltaAt_32 (by decide) h (fun h => ?_) (fun h => ?_)
    · refine x_iload_n X 2 dX1_deltaAt_35 rfl ?_
      refine x_if_ne X 41 dX1_deltaAt_36 (by decide) h (fun h => ?_) (fun h => ?_)
      · refine x_sub [] rfl ?_
        exact w_X1_deltaAt_39 V S1 h
      · refine x_aload_n X 0 dX1_deltaAt_41 rfl ?_
        refine x_aload_n X 1 dX1_deltaAt_42 rfl ?_
        refine x_iload_n X 2 dX1_deltaAt_43 rfl ?_
        refine x_iconst X (v := 0) dX1_deltaAt_44 (by decide) ?_
        refine x_calli hA (x_runV (n := 3) (sh := shC cy) X K hR (fun _ q => q) (m_X1_touchedNear hi ha0 ha1 h) (kC_1 cy ha0) rfl rfl t2_165 t2_167 tp_9 t1_4 t2_168 ⟨by decide, by decide, by decide +kernel⟩ rfl (by decide) (by decide) rfl (Nat.le_of_ble_eq_true rfl) dX1_deltaAt_45) (fun r4 S3 h => ?_)
        refine x_istore X [(4, .int r4), (0, .ref (ad 1 a0)), (1, .ref (ad 5 a1)), (2, .int a2), (3, .int a3)] dX1_deltaAt_48 (by rw [hN]; decide) rfl ?_
        refine x_aload_n X 1 dX1_deltaAt_50 rfl ?_
        refine x_aload_n X 2 dX1_deltaAt_51 rfl ?_
        refine x_iload_n X 3 dX1_deltaAt_52 rfl ?_
        refine x_iconst X (v := 1) dX1_deltaAt_53 (by decide) ?_
        refine x_calli hA (x_runV (n := 3) (sh := shC cy) X K hR (fun _ q => q) (m_X1_touchedNear hi ha0 ha1 h) (kC_1 cy ha0) rfl rfl t2_165 t2_167 tp_9 t1_4 t2_168 ⟨by decide, by decide, by decide +kernel⟩ rfl (by decide) (by decide) rfl (Nat.le_of_ble_eq_true rfl) dX1_deltaAt_54) (fun r6 S5 h => ?_)
        refine x_istore X [(5, .int r6), (4, .int r4), (0, .ref (ad 1 a0)), (1, .ref (ad 5 a1)), (2, .int a2), (3, .int a3)] dX1_deltaAt_57 (by rw [hN]; decide) rfl ?_
        refine x_iload X 1 dX1_deltaAt_59 rfl ?_
        refine x_if_eq X 69 dX1_deltaAt_61 (by decide) h (fun h => ?_) (fun h => ?_)
        · refine x_sub [] rfl ?_
          exact w_X1_deltaAt_69 V S5 h
        · refine x_iload X 0 dX1_deltaAt_64 rfl ?_
          refine x_if_ne X 71 dX1_deltaAt_66 (by decide) h (fun h => ?_) (fun h => ?_)
          · refine x_sub [] rfl ?_
            exact w_X1_deltaAt_69 V S5 h
          · refine x_iload_n X 5 dX1_deltaAt_71 rfl ?_
            refine x_if_eq X 115 dX1_deltaAt_72 (by decide) h (fun h => ?_) (fun h => ?_)
            · refine x_aload_n X 2 dX1_deltaAt_115 rfl ?_
              refine xg_X1_9 X K ha0 dX1_deltaAt_116 ?_
              refine x_iload_n X 4 dX1_deltaAt_119 rfl ?_
              obtain ⟨hb7, h⟩ := h
              refine xa_C12 X K ha0 hb7 dX1_deltaAt_120 ?_
              refine x_aload_n X 2 dX1_deltaAt_121 rfl ?_
              refine xg_X1_9 X K ha0 dX1_deltaAt_122 ?_
              refine x_iload X 1 dX1_deltaAt_125 rfl ?_
              obtain ⟨hb8, h⟩ := h
              refine xa_C12 X K ha0 hb8 dX1_deltaAt_127 ?_
              refine x_aload_n X 2 dX1_deltaAt_128 rfl ?_
              refine xg_X1_9 X K ha0 dX1_deltaAt_129 ?_
              refine x_iload X 0 dX1_deltaAt_132 rfl ?_
              obtain ⟨hb9, h⟩ := h
              refine xa_C12 X K ha0 hb9 dX1_deltaAt_134 ?_
              refine x_aload_n X 3 dX1_deltaAt_135 rfl ?_
              refine xg_X1_78 X K ha1 dX1_deltaAt_136 ?_
              refine x_iload X 1 dX1_deltaAt_139 rfl ?_
              obtain ⟨hb10, h⟩ := h
              refine xa_C27 X K ha1 hb10 dX1_deltaAt_141 ?_
              refine x_aload_n X 3 dX1_deltaAt_142 rfl ?_
              refine xg_X1_78 X K ha1 dX1_deltaAt_143 ?_
              refine x_iload X 0 dX1_deltaAt_146 rfl ?_
              obtain ⟨hb11, h⟩ := h
              refine xa_C27 X K ha1 hb11 dX1_deltaAt_148 ?_
              refine x_calli hA (x_runS (n := 5) X K hR (fun _ q => q) (m_X1_inferredDelta hi  h) t2_169 t2_170 t1_4 t2_171 ⟨by decide, by decide, by decide +kernel⟩ rfl (by decide) (by decide) rfl (Nat.le_of_ble_eq_true rfl) dX1_deltaAt_149) (fun r13 S12 h => ?_)
              refine x_sub [] rfl ?_
              exact w_X1_deltaAt_152 V S12 r13 h
            · refine x_aload_n X 2 dX1_deltaAt_75 rfl ?_
              refine xg_X1_15 X K ha0 dX1_deltaAt_76 ?_
              refine x_iload_n X 4 dX1_deltaAt_79 rfl ?_
              obtain ⟨hb14, h⟩ := h
              refine xa_C13 X K ha0 hb14 dX1_deltaAt_80 ?_
              refine x_aload_n X 2 dX1_deltaAt_81 rfl ?_
              refine xg_X1_15 X K ha0 dX1_deltaAt_82 ?_
              refine x_iload X 1 dX1_deltaAt_85 rfl ?_
              obtain ⟨hb15, h⟩ := h
              refine xa_C13 X K ha0 hb15 dX1_deltaAt_87 ?_
              refine x_aload_n X 2 dX1_deltaAt_88 rfl ?_
              refine xg_X1_15 X K ha0 dX1_deltaAt_89 ?_
              refine x_iload X 0 dX1_deltaAt_92 rfl ?_
              obtain ⟨hb16, h⟩ := h
              refine xa_C13 X K ha0 hb16 dX1_deltaAt_94 ?_
              refine x_aload_n X 3 dX1_deltaAt_95 rfl ?_
              refine xg_X1_77 X K ha1 dX1_deltaAt_96 ?_
              refine x_iload X 1 dX1_deltaAt_99 rfl ?_
              obtain ⟨hb17, h⟩ := h
              refine xa_C28 X K ha1 hb17 dX1_deltaAt_101 ?_
              refine x_aload_n X 3 dX1_deltaAt_102 rfl ?_
              refine xg_X1_77 X K ha1 dX1_deltaAt_103 ?_
              refine x_iload X 0 dX1_deltaAt_106 rfl ?_
              obtain ⟨hb18, h⟩ := h
              refine xa_C28 X K ha1 hb18 dX1_deltaAt_108 ?_
              refine x_calli hA (x_runS (n := 5) X K hR (fun _ q => q) (m_X1_inferredDelta hi  h) t2_169 t2_170 t1_4 t2_171 ⟨by decide, by decide, by decide +kernel⟩ rfl (by decide) (by decide) rfl (Nat.le_of_ble_eq_true rfl) dX1_deltaAt_109) (fun r20 S19 h => ?_)
              refine x_goto X 152 dX1_deltaAt_112 (by decide) ?_
              refine x_sub [] rfl ?_
              exact w_X1_deltaAt_152 V S19 r20 h
    · refine x_sub [] rfl ?_
      exact w_X1_deltaAt_39 V S1 h
  · refine x_iload_n X 3 dX1_deltaAt_8 rfl ?_
    refine x_if_eq X 21 dX1_deltaAt_9 (by decide) h (fun h => ?_) (fun h => ?_)
    · refine x_aload_n X 1 dX1_deltaAt_21 rfl ?_
      refine xg_X1_78 X K ha1 dX1_deltaAt_22 ?_
      refine x_iload_n X 2 dX1_deltaAt_25 rfl ?_
      obtain ⟨hb21, h⟩ := h
      refine xa_C27 X K ha1 hb21 dX1_deltaAt_26 ?_
      refine x_sub [] rfl ?_
      exact w_X1_deltaAt_27 V S1 (S1.1 27 a1 a2.toNatClampNeg) h
    · refine x_aload_n X 1 dX1_deltaAt_12 rfl ?_
      refine xg_X1_77 X K ha1 dX1_deltaAt_13 ?_
      refine x_iload_n X 2 dX1_deltaAt_16 rfl ?_
      obtain ⟨hb22, h⟩ := h
      refine xa_C28 X K ha1 hb22 dX1_deltaAt_17 ?_
      refine x_goto X 27 dX1_deltaAt_18 (by decide) ?_
      refine x_sub [] rfl ?_
      exact w_X1_deltaAt_27 V S1 (S1.1 28 a1 a2.toNatClampNeg) h
set_option maxHeartbeats 2000000 in
set_option maxRecDepth 20000 in
theorem m_X1_deltaAt {l : Launch} {D : va_G} {cy : Nat → ClassId} {ad : Nat → Nat → Nat} (hi : xInj (shC cy) ad) {a0 : Nat} {a1 : Nat} {a2 : Int32} {a3 : Int32} {S : xS} {Q : Int32 → xS → Prop} (ha0 : a0 < 12) (ha1 : a1 < 60) (h : wp_X1_deltaAt a0 a1 a2 a3 S Q) : xMet l D (xTys cy) (shC cy) ad yX1_deltaAt cX1_deltaAt 6 (some .int) (xRm 3 78) [.ref (ad 1 a0), .ref (ad 5 a1), .int a2, .int a3] S (xQi Q) := xMet_env hi (by decide +kernel) rfl (Nat.le_of_ble_eq_true rfl) (fun g hl V => w_X1_deltaAt V ha0 ha1 h)
set_option maxHeartbeats 2000000 in
set_option maxRecDepth 20000 in
theorem w_X1_placeAt_102 {g : xG} {D : va_G} {cy : Nat → ClassId} {ad : Nat → Nat → Nat} {Q : Int64 → xS → Prop} (V : xEnv g D (xTys cy) (shC cy) ad RX1 cX1_placeAt (some .long) 4 103 10 (xQl Q)) (S : xS) (v5 : Int64) (s0 : Int32) (h : wp_X1_placeAt_102 Q S v5 s0) : Wx g (xW D (shC cy) ad S) 102 [(5, .long v5)] [.int s0] := by
  obtain ⟨X, K, hi, hA, hR, E, hN⟩ := V
  have V := xEnv_mk X K hi hA hR E hN
  unfold wp_X1_placeAt_102 at h
  refine x_i2l X dX1_placeAt_102 ?_
  refine x_lload X 0 dX1_placeAt_103 rfl ?_
  refine x_ldc2 X (v := 268435456) t2_175 dX1_placeAt_105 ?_
  refine x_calll hA (x_runSN (n := 2) (host := "FontInstancer") X K hR (fun _ q => q) (m_X6_roundedQuotient hi  h) (by decide) t2_58 t1_1 t2_59 ⟨by decide, by decide, by decide +kernel⟩ rfl (by decide) (by decide) rfl (Nat.le_of_ble_eq_true rfl) dX1_placeAt_108) (fun r2 S1 h => ?_)
  refine x_ladd X dX1_placeAt_111 ?_
  exact x_lret X E dX1_placeAt_112 ⟨_, rfl, h⟩
set_option maxHeartbeats 2000000 in
set_option maxRecDepth 20000 in
theorem w_X1_placeAt_77 {g : xG} {D : va_G} {cy : Nat → ClassId} {ad : Nat → Nat → Nat} {a0 : Nat} {a1 : Int32} {a2 : Int32} {a3 : Nat} {a4 : Int32} {K6 : xS → Int64 → Int32 → Prop} {Q : Int64 → xS → Prop} (V : xEnv g D (xTys cy) (shC cy) ad RX1 cX1_placeAt (some .long) 4 103 10 (xQl Q)) (ha0 : a0 < 12) (ha3 : a3 < 3) (hK6 : ∀ (S : xS) (v5 : Int64) (v7 : Int32), K6 S v5 v7 → Wx g (xW D (shC cy) ad S) 6 [(0, .ref (ad 1 a0)), (1, .int a1), (2, .int a2), (3, .ref (ad 30 a3)), (4, .int a4), (5, .long v5), (7, .int v7)] []) (S : xS) (v5 : Int64) (v7 : Int32) (h : wp_X1_placeAt_77 a0 a1 a2 a3 a4 K6 Q S v5 v7) : Wx g (xW D (shC cy) ad S) 77 [(0, .ref (ad 1 a0)), (1, .int a1), (2, .int a2), (3, .ref (ad 30 a3)), (4, .int a4), (5, .long v5), (7, .int v7)] [] := by
  obtain ⟨X, K, hi, hA, hR, E, hN⟩ := V
  have V := xEnv_mk X K hi hA hR E hN
  unfold wp_X1_placeAt_77 at h
  refine x_iinc X 6 [(7, .int (v7 + (1 : Int32))), (0, .ref (ad 1 a0)), (1, .int a1), (2, .int a2), (3, .ref (ad 30 a3)), (4, .int a4), (5, .long v5)] dX1_placeAt_77 rfl rfl (by rw [hN]; decide) rfl ?_
  refine x_goto X 6 dX1_placeAt_80 (by decide) ?_
  refine x_sub [1, 2, 3, 4, 5, 6, 0] rfl ?_
  exact hK6 S v5 (v7 + (1 : Int32)) h
set_option maxHeartbeats 2000000 in
set_option maxRecDepth 20000 in
theorem w_X1_placeAt_46 {g : xG} {D : va_G} {cy : Nat → ClassId} {ad : Nat → Nat → Nat} {a0 : Nat} {a1 : Int32} {a2 : Int32} {a3 : Nat} {a4 : Int32} {K6 : xS → Int64 → Int32 → Prop} {Q : Int64 → xS → Prop} (V : xEnv g D (xTys cy) (shC cy) ad RX1 cX1_placeAt (some .long) 4 103 10 (xQl Q)) (ha0 : a0 < 12) (ha3 : a3 < 3) (hK6 : ∀ (S : xS) (v5 : Int64) (v7 : Int32), K6 S v5 v7 → Wx g (xW D (shC cy) ad S) 6 [(0, .ref (ad 1 a0)), (1, .int a1), (2, .int a2), (3, .ref (ad 30 a3)), (4, .int a4), (5, .long v5), (7, .int v7)] []) (S : xS) (v5 : Int64) (v7 : Int32) (s0 : Int64) (h : wp_X1_placeAt_46 a0 a1 a2 a3 a4 K6 Q S v5 v7 s0) : Wx g (xW D (shC cy) ad S) 46 [(0, .ref (ad 1 a0)), (1, .int a1), (2, .int a2), (3, .ref (ad 30 a3)), (4, .int a4), (5, .long v5), (7, .int v7)] [.long s0] := by
  obtain ⟨X, K, hi, hA, hR, E, hN⟩ := V
  have V := xEnv_mk X K hi hA hR E hN
  unfold wp_X1_placeAt_46 at h
  refine x_lstore X [(8, .long s0), (0, .ref (ad 1 a0)), (1, .int a1), (2, .int a2), (3, .ref (ad 30 a3)), (4, .int a4), (5, .long v5), (7, .int v7)] dX1_placeAt_46 (by rw [hN]; decide) rfl ?_
  refine x_lload X 0 dX1_placeAt_48 rfl ?_
  refine x_lconst X (v := 0) dX1_placeAt_50 (by decide) ?_
  refine x_lcmp X dX1_placeAt_51 ?_
  refine x_if_eq X 77 dX1_placeAt_52 (by decide) h (fun h => ?_) (fun h => ?_)
  · refine x_sub [1, 2, 3, 4, 5, 6, 7] rfl ?_
    exact w_X1_placeAt_77 V ha0 ha3 hK6 S v5 v7 h
  · refine x_lload X 6 dX1_placeAt_55 rfl ?_
    refine x_lload X 0 dX1_placeAt_57 rfl ?_
    refine x_aload_n X 1 dX1_placeAt_59 rfl ?_
    refine x_aload_n X 1 dX1_placeAt_60 rfl ?_
    refine xg_X1_26 X K ha0 dX1_placeAt_61 ?_
    refine x_iload X 7 dX1_placeAt_64 rfl ?_
    obtain ⟨⟨hb1, hv2⟩, h⟩ := h
    refine xa_C16 X K ha0 hb1 dX1_placeAt_66 ?_
    refine x_iload_n X 2 dX1_placeAt_67 rfl ?_
    refine x_iload_n X 3 dX1_placeAt_68 rfl ?_
    refine x_calli hA (x_runV (n := 3) (sh := shC cy) X K hR (fun _ q => q) (m_X1_deltaAt hi ha0 hv2 h) (kC_1 cy ha0) rfl rfl t2_157 t2_158 t2_159 t1_4 t2_160 ⟨by decide, by decide, by decide +kernel⟩ rfl (by decide) (by decide) rfl (Nat.le_of_ble_eq_true rfl) dX1_placeAt_69) (fun r4 S3 h => ?_)
    refine x_i2l X dX1_placeAt_72 ?_
    refine x_lmul X dX1_placeAt_73 ?_
    refine x_ladd X dX1_placeAt_74 ?_
    refine x_lstore X [(5, .long (v5 + (s0 * (Int32.toInt64 r4)))), (8, .long s0), (0, .ref (ad 1 a0)), (1, .int a1), (2, .int a2), (3, .ref (ad 30 a3)), (4, .int a4), (7, .int v7)] dX1_placeAt_75 (by rw [hN]; decide) rfl ?_
    refine x_sub [2, 3, 4, 5, 6, 0, 7] rfl ?_
    exact w_X1_placeAt_77 V ha0 ha3 hK6 S3 (v5 + (s0 * (Int32.toInt64 r4))) v7 h
set_option maxHeartbeats 2000000 in
set_option maxRecDepth 20000 in
theorem w_X1_placeAt_6_b {g : xG} {D : va_G} {cy : Nat → ClassId} {ad : Nat → Nat → Nat} {a0 : Nat} {a1 : Int32} {a2 : Int32} {a3 : Nat} {a4 : Int32} {K6 : xS → Int64 → Int32 → Prop} {Q : Int64 → xS → Prop} (V : xEnv g D (xTys cy) (shC cy) ad RX1 cX1_placeAt (some .long) 4 103 10 (xQl Q)) (ha0 : a0 < 12) (ha3 : a3 < 3) (hK6 : ∀ (S : xS) (v5 : Int64) (v7 : Int32), K6 S v5 v7 → Wx g (xW D (shC cy) ad S) 6 [(0, .ref (ad 1 a0)), (1, .int a1), (2, .int a2), (3, .ref (ad 30 a3)), (4, .int a4), (5, .long v5), (7, .int v7)] []) (S : xS) (v5 : Int64) (v7 : Int32) (h : wp_X1_placeAt_6_b a0 a1 a2 a3 a4 K6 Q S v5 v7) : Wx g (xW D (shC cy) ad S) 6 [(0, .ref (ad 1 a0)), (1, .int a1), (2, .int a2), (3, .ref (ad 30 a3)), (4, .int a4), (5, .long v5), (7, .int v7)] [] := by
  obtain ⟨X, K, hi, hA, hR, E, hN⟩ := V
  have V := xEnv_mk X K hi hA hR E hN
  unfold wp_X1_placeAt_6_b at h
  refine x_iload X 6 dX1_placeAt_6 rfl ?_
  refine x_aload_n X 0 dX1_placeAt_8 rfl ?_
  refine xg_X1_45 X K ha0 dX1_placeAt_9 ?_
  refine x_icmp_ge X 83 dX1_placeAt_12 (by decide) h (fun h => ?_) (fun h => ?_)
  · refine x_iload_n X 2 dX1_placeAt_83 rfl ?_
    refine x_if_eq X 96 dX1_placeAt_84 (by decide) h (fun h => ?_) (fun h => ?_)
    · refine x_aload_n X 0 dX1_placeAt_96 rfl ?_
      refine xg_X1_9 X K ha0 dX1_placeAt_97 ?_
      refine x_iload_n X 1 dX1_placeAt_100 rfl ?_
      obtain ⟨hb1, h⟩ := h
      refine xa_C12 X K ha0 hb1 dX1_placeAt_101 ?_
      refine x_sub [5] rfl ?_
      exact w_X1_placeAt_102 V S v5 (S.1 12 a0 a1.toNatClampNeg) h
    · refine x_aload_n X 0 dX1_placeAt_87 rfl ?_
      refine xg_X1_15 X K ha0 dX1_placeAt_88 ?_
      refine x_iload_n X 1 dX1_placeAt_91 rfl ?_
      obtain ⟨hb2, h⟩ := h
      refine xa_C13 X K ha0 hb2 dX1_placeAt_92 ?_
      refine x_goto X 102 dX1_placeAt_93 (by decide) ?_
      refine x_sub [5] rfl ?_
      exact w_X1_placeAt_102 V S v5 (S.1 13 a0 a1.toNatClampNeg) h
  · refine x_aload_n X 0 dX1_placeAt_15 rfl ?_
    refine xg_X1_26 X K ha0 dX1_placeAt_16 ?_
    refine x_iload X 6 dX1_placeAt_19 rfl ?_
    obtain ⟨⟨hb3, hv4⟩, h⟩ := h
    refine xa_C16 X K ha0 hb3 dX1_placeAt_21 ?_
    refine x_iload X 4 dX1_placeAt_22 rfl ?_
    refine x_calli hA (x_runV (n := 1) (sh := shC cy) X K hR (fun _ q => q) (m_X5_dependsOnlyOn hi hv4 h) (kC_5 cy hv4) rfl rfl t2_140 t2_141 t2_142 t1_5 t2_143 ⟨by decide, by decide, by decide +kernel⟩ rfl (by decide) (by decide) rfl (Nat.le_of_ble_eq_true rfl) dX1_placeAt_24) (fun r6 S5 h => ?_)
    refine x_if_eq X 45 dX1_placeAt_27 (by decide) h (fun h => ?_) (fun h => ?_)
    · refine x_lconst X (v := 0) dX1_placeAt_45 (by decide) ?_
      refine x_sub [0, 1, 2, 3, 4, 5, 6] rfl ?_
      exact w_X1_placeAt_46 V ha0 ha3 hK6 S5 v5 v7 (0 : Int64) h
    · refine x_aload_n X 0 dX1_placeAt_30 rfl ?_
      refine xg_X1_26 X K ha0 dX1_placeAt_31 ?_
      refine x_iload X 6 dX1_placeAt_34 rfl ?_
      obtain ⟨⟨hb7, hv8⟩, h⟩ := h
      refine xa_C16 X K ha0 hb7 dX1_placeAt_36 ?_
      refine x_aload_n X 3 dX1_placeAt_37 rfl ?_
      refine x_calli hA (x_runV (n := 1) (sh := shC cy) X K hR (fun _ q => q) (m_X5_scalarAt hi hv8 ha3 h) (kC_5 cy hv8) rfl rfl t2_147 t2_148 t2_149 t1_5 t2_150 ⟨by decide, by decide, by decide +kernel⟩ rfl (by decide) (by decide) rfl (Nat.le_of_ble_eq_true rfl) dX1_placeAt_38) (fun r10 S9 h => ?_)
      refine x_i2l X dX1_placeAt_41 ?_
      refine x_goto X 46 dX1_placeAt_42 (by decide) ?_
      refine x_sub [0, 1, 2, 3, 4, 5, 6] rfl ?_
      exact w_X1_placeAt_46 V ha0 ha3 hK6 S9 v5 v7 (Int32.toInt64 r10) h
set_option maxHeartbeats 2000000 in
set_option maxRecDepth 20000 in
theorem w_X1_placeAt_6 {g : xG} {D : va_G} {cy : Nat → ClassId} {ad : Nat → Nat → Nat} {a0 : Nat} {a1 : Int32} {a2 : Int32} {a3 : Nat} {a4 : Int32} {Q : Int64 → xS → Prop} (V : xEnv g D (xTys cy) (shC cy) ad RX1 cX1_placeAt (some .long) 4 103 10 (xQl Q)) (ha0 : a0 < 12) (ha3 : a3 < 3) (n : Nat) : ∀ (S : xS) (v5 : Int64) (v7 : Int32), wp_X1_placeAt_6 a0 a1 a2 a3 a4 Q n S v5 v7 → Wx g (xW D (shC cy) ad S) 6 [(0, .ref (ad 1 a0)), (1, .int a1), (2, .int a2), (3, .ref (ad 30 a3)), (4, .int a4), (5, .long v5), (7, .int v7)] [] := by
  induction n with
  | zero => intro S v5 v7 h; exact h.elim
  | succ n ih => intro S v5 v7 h; exact w_X1_placeAt_6_b V ha0 ha3 (fun S v5 v7 h => ih S v5 v7 h) S v5 v7 h
set_option maxHeartbeats 2000000 in
set_option maxRecDepth 20000 in
theorem w_X1_placeAt {g : xG} {D : va_G} {cy : Nat → ClassId} {ad : Nat → Nat → Nat} {a0 : Nat} {a1 : Int32} {a2 : Int32} {a3 : Nat} {a4 : Int32} {S : xS} {Q : Int64 → xS → Prop} (V : xEnv g D (xTys cy) (shC cy) ad RX1 cX1_placeAt (some .long) 4 103 10 (xQl Q)) (ha0 : a0 < 12) (ha3 : a3 < 3) (h : wp_X1_placeAt a0 a1 a2 a3 a4 S Q) : Wx g (xW D (shC cy) ad S) 0 [(0, .ref (ad 1 a0)), (1, .int a1), (2, .int a2), (3, .ref (ad 30 a3)), (4, .int a4)] [] := by
  obtain ⟨X, K, hi, hA, hR, E, hN⟩ := V
  have V := xEnv_mk X K hi hA hR E hN
  unfold wp_X1_placeAt at h
  refine x_lconst X (v := 0) dX1_placeAt_0 (by decide) ?_
  refine x_lstore X [(5, .long (0 : Int64)), (0, .ref (ad 1 a0)), (1, .int a1), (2, .int a2), (3, .ref (ad 30 a3)), (4, .int a4)] dX1_placeAt_1 (by rw [hN]; decide) rfl ?_
  refine x_iconst X (v := 0) dX1_placeAt_3 (by decide) ?_
  refine x_istore X [(7, .int (0 : Int32)), (5, .long (0 : Int64)), (0, .ref (ad 1 a0)), (1, .int a1), (2, .int a2), (3, .ref (ad 30 a3)), (4, .int a4)] dX1_placeAt_4 (by rw [hN]; decide) rfl ?_
  refine x_sub [2, 3, 4, 5, 6, 1, 0] rfl ?_
  obtain ⟨n1, h⟩ := h
  exact w_X1_placeAt_6 V ha0 ha3 n1 S (0 : Int64) (0 : Int32) h
set_option maxHeartbeats 2000000 in
set_option maxRecDepth 20000 in
theorem m_X1_placeAt {l : Launch} {D : va_G} {cy : Nat → ClassId} {ad : Nat → Nat → Nat} (hi : xInj (shC cy) ad) {a0 : Nat} {a1 : Int32} {a2 : Int32} {a3 : Nat} {a4 : Int32} {S : xS} {Q : Int64 → xS → Prop} (ha0 : a0 < 12) (ha3 : a3 < 3) (h : wp_X1_placeAt a0 a1 a2 a3 a4 S Q) : xMet l D (xTys cy) (shC cy) ad yX1_placeAt cX1_placeAt 10 (some .long) (xRm 4 103) [.ref (ad 1 a0), .int a1, .int a2, .ref (ad 30 a3), .int a4] S (xQl Q) := xMet_env hi (by decide +kernel) rfl (Nat.le_of_ble_eq_true rfl) (fun g hl V => w_X1_placeAt V ha0 ha3 h)
set_option maxHeartbeats 2000000 in
set_option maxRecDepth 20000 in
theorem w_X1_writeInferred_44 {g : xG} {D : va_G} {cy : Nat → ClassId} {ad : Nat → Nat → Nat} {a0 : Nat} {a1 : Nat} {K2 : xS → Int32 → Prop} {Q : xS → Prop} (V : xEnv g D (xTys cy) (shC cy) ad RX1 cX1_writeInferred none 4 103 3 (xQv Q)) (ha0 : a0 < 12) (ha1 : a1 < 60) (hK2 : ∀ (S : xS) (v2 : Int32), K2 S v2 → Wx g (xW D (shC cy) ad S) 2 [(0, .ref (ad 1 a0)), (1, .ref (ad 5 a1)), (2, .int v2)] []) (S : xS) (v2 : Int32) (h : wp_X1_writeInferred_44 a0 a1 K2 Q S v2) : Wx g (xW D (shC cy) ad S) 44 [(0, .ref (ad 1 a0)), (1, .ref (ad 5 a1)), (2, .int v2)] [] := by
  obtain ⟨X, K, hi, hA, hR, E, hN⟩ := V
  have V := xEnv_mk X K hi hA hR E hN
  unfold wp_X1_writeInferred_44 at h
  refine x_iinc X 2 [(2, .int (v2 + (1 : Int32))), (0, .ref (ad 1 a0)), (1, .ref (ad 5 a1))] dX1_writeInferred_44 rfl rfl (by rw [hN]; decide) rfl ?_
  refine x_goto X 2 dX1_writeInferred_47 (by decide) ?_
  refine x_sub [1, 2, 0] rfl ?_
  exact hK2 S (v2 + (1 : Int32)) h
set_option maxHeartbeats 2000000 in
set_option maxRecDepth 20000 in
theorem w_X1_writeInferred_2_b {g : xG} {D : va_G} {cy : Nat → ClassId} {ad : Nat → Nat → Nat} {a0 : Nat} {a1 : Nat} {K2 : xS → Int32 → Prop} {Q : xS → Prop} (V : xEnv g D (xTys cy) (shC cy) ad RX1 cX1_writeInferred none 4 103 3 (xQv Q)) (ha0 : a0 < 12) (ha1 : a1 < 60) (hK2 : ∀ (S : xS) (v2 : Int32), K2 S v2 → Wx g (xW D (shC cy) ad S) 2 [(0, .ref (ad 1 a0)), (1, .ref (ad 5 a1)), (2, .int v2)] []) (S : xS) (v2 : Int32) (h : wp_X1_writeInferred_2_b a0 a1 K2 Q S v2) : Wx g (xW D (shC cy) ad S) 2 [(0, .ref (ad 1 a0)), (1, .ref (ad 5 a1)), (2, .int v2)] [] := by
  obtain ⟨X, K, hi, hA, hR, E, hN⟩ := V
  have V := xEnv_mk X K hi hA hR E hN
  unfold wp_X1_writeInferred_2_b at h
  refine x_iload_n X 2 dX1_writeInferred_2 rfl ?_
  refine x_aload_n X 0 dX1_writeInferred_3 rfl ?_
  refine xg_X1_35 X K ha0 dX1_writeInferred_4 ?_
  refine x_icmp_gt X 50 dX1_writeInferred_7 (by decide) h (fun h => ?_) (fun h => ?_)
  · exact x_vret X E dX1_writeInferred_50 ⟨rfl, h⟩
  · refine x_aload_n X 1 dX1_writeInferred_10 rfl ?_
    refine x_iload_n X 2 dX1_writeInferred_11 rfl ?_
    refine x_calli hA (x_runV (n := 1) (sh := shC cy) X K hR (fun _ q => q) (m_X5_touches hi ha1 h) (kC_5 cy ha1) rfl rfl t2_161 t2_162 t2_163 t1_5 t2_164 ⟨by decide, by decide, by decide +kernel⟩ rfl (by decide) (by decide) rfl (Nat.le_of_ble_eq_true rfl) dX1_writeInferred_12) (fun r2 S1 h => ?_)
    refine x_if_ne X 44 dX1_writeInferred_15 (by decide) h (fun h => ?_) (fun h => ?_)
    · refine x_aload_n X 1 dX1_writeInferred_18 rfl ?_
      refine xg_X1_78 X K ha1 dX1_writeInferred_19 ?_
      refine x_iload_n X 2 dX1_writeInferred_22 rfl ?_
      refine x_aload_n X 0 dX1_writeInferred_23 rfl ?_
      refine x_aload_n X 1 dX1_writeInferred_24 rfl ?_
      refine x_iload_n X 2 dX1_writeInferred_25 rfl ?_
      refine x_iconst X (v := 0) dX1_writeInferred_26 (by decide) ?_
      refine x_calli hA (x_runV (n := 3) (sh := shC cy) X K hR (fun _ q => q) (m_X1_deltaAt hi ha0 ha1 h) (kC_1 cy ha0) rfl rfl t2_157 t2_158 t2_159 t1_4 t2_160 ⟨by decide, by decide, by decide +kernel⟩ rfl (by decide) (by decide) rfl (Nat.le_of_ble_eq_true rfl) dX1_writeInferred_27) (fun r4 S3 h => ?_)
      obtain ⟨hb5, h⟩ := h
      refine xs_C27 X K hi hA ha1 hb5 dX1_writeInferred_30 ?_
      refine x_aload_n X 1 dX1_writeInferred_31 rfl ?_
      refine xg_X1_77 X K ha1 dX1_writeInferred_32 ?_
      refine x_iload_n X 2 dX1_writeInferred_35 rfl ?_
      refine x_aload_n X 0 dX1_writeInferred_36 rfl ?_
      refine x_aload_n X 1 dX1_writeInferred_37 rfl ?_
      refine x_iload_n X 2 dX1_writeInferred_38 rfl ?_
      refine x_iconst X (v := 1) dX1_writeInferred_39 (by decide) ?_
      refine x_calli hA (x_runV (n := 3) (sh := shC cy) X K hR (fun _ q => q) (m_X1_deltaAt hi ha0 ha1 h) (kC_1 cy ha0) rfl rfl t2_157 t2_158 t2_159 t1_4 t2_160 ⟨by decide, by decide, by decide +kernel⟩ rfl (by decide) (by decide) rfl (Nat.le_of_ble_eq_true rfl) dX1_writeInferred_40) (fun r7 S6 h => ?_)
      obtain ⟨hb8, h⟩ := h
      refine xs_C28 X K hi hA ha1 hb8 dX1_writeInferred_43 ?_
      refine x_sub [0, 1, 2] rfl ?_
      exact w_X1_writeInferred_44 V ha0 ha1 hK2 (xI S6 28 a1 v2.toNatClampNeg r7) v2 h
    · refine x_sub [0, 1, 2] rfl ?_
      exact w_X1_writeInferred_44 V ha0 ha1 hK2 S1 v2 h
set_option maxHeartbeats 2000000 in
set_option maxRecDepth 20000 in
theorem w_X1_writeInferred_2 {g : xG} {D : va_G} {cy : Nat → ClassId} {ad : Nat → Nat → Nat} {a0 : Nat} {a1 : Nat} {Q : xS → Prop} (V : xEnv g D (xTys cy) (shC cy) ad RX1 cX1_writeInferred none 4 103 3 (xQv Q)) (ha0 : a0 < 12) (ha1 : a1 < 60) (n : Nat) : ∀ (S : xS) (v2 : Int32), wp_X1_writeInferred_2 a0 a1 Q n S v2 → Wx g (xW D (shC cy) ad S) 2 [(0, .ref (ad 1 a0)), (1, .ref (ad 5 a1)), (2, .int v2)] [] := by
  induction n with
  | zero => intro S v2 h; exact h.elim
  | succ n ih => intro S v2 h; exact w_X1_writeInferred_2_b V ha0 ha1 (fun S v2 h => ih S v2 h) S v2 h
set_option maxHeartbeats 2000000 in
set_option maxRecDepth 20000 in
theorem w_X1_writeInferred {g : xG} {D : va_G} {cy : Nat → ClassId} {ad : Nat → Nat → Nat} {a0 : Nat} {a1 : Nat} {S : xS} {Q : xS → Prop} (V : xEnv g D (xTys cy) (shC cy) ad RX1 cX1_writeInferred none 4 103 3 (xQv Q)) (ha0 : a0 < 12) (ha1 : a1 < 60) (h : wp_X1_writeInferred a0 a1 S Q) : Wx g (xW D (shC cy) ad S) 0 [(0, .ref (ad 1 a0)), (1, .ref (ad 5 a1))] [] := by
  obtain ⟨X, K, hi, hA, hR, E, hN⟩ := V
  have V := xEnv_mk X K hi hA hR E hN
  unfold wp_X1_writeInferred at h
  refine x_iconst X (v := 0) dX1_writeInferred_0 (by decide) ?_
  refine x_istore_n X [(2, .int (0 : Int32)), (0, .ref (ad 1 a0)), (1, .ref (ad 5 a1))] dX1_writeInferred_1 (by rw [hN]; decide) rfl ?_
  refine x_sub [1, 2, 0] rfl ?_
  obtain ⟨n1, h⟩ := h
  exact w_X1_writeInferred_2 V ha0 ha1 n1 S (0 : Int32) h
set_option maxHeartbeats 2000000 in
set_option maxRecDepth 20000 in
theorem m_X1_writeInferred {l : Launch} {D : va_G} {cy : Nat → ClassId} {ad : Nat → Nat → Nat} (hi : xInj (shC cy) ad) {a0 : Nat} {a1 : Nat} {S : xS} {Q : xS → Prop} (ha0 : a0 < 12) (ha1 : a1 < 60) (h : wp_X1_writeInferred a0 a1 S Q) : xMet l D (xTys cy) (shC cy) ad yX1_writeInferred cX1_writeInferred 3 none (xRm 4 103) [.ref (ad 1 a0), .ref (ad 5 a1)] S (xQv Q) := xMet_env hi (by decide +kernel) rfl (Nat.le_of_ble_eq_true rfl) (fun g hl V => w_X1_writeInferred V ha0 ha1 h)
set_option maxHeartbeats 2000000 in
set_option maxRecDepth 20000 in
theorem w_X1_touchAll {g : xG} {D : va_G} {cy : Nat → ClassId} {ad : Nat → Nat → Nat} {a0 : Nat} {a1 : Nat} {S : xS} {Q : xS → Prop} (V : xEnv g D (xTys cy) (shC cy) ad RX1 cX1_touchAll none 5 125 2 (xQv Q)) (ha0 : a0 < 12) (ha1 : a1 < 60) (h : wp_X1_touchAll a0 a1 S Q) : Wx g (xW D (shC cy) ad S) 0 [(0, .ref (ad 1 a0)), (1, .ref (ad 5 a1))] [] := by
  obtain ⟨X, K, hi, hA, hR, E, hN⟩ := V
  have V := xEnv_mk X K hi hA hR E hN
  unfold wp_X1_touchAll at h
  refine x_aload_n X 0 dX1_touchAll_0 rfl ?_
  refine x_aload_n X 1 dX1_touchAll_1 rfl ?_
  refine x_callv hA (x_runV (n := 1) (sh := shC cy) X K hR (fun _ q => q) (m_X1_writeInferred hi ha0 ha1 h) (kC_1 cy ha0) rfl rfl t3_120 t3_122 tp_16 t1_4 t3_123 ⟨by decide, by decide, by decide +kernel⟩ rfl (by decide) (by decide) rfl (Nat.le_of_ble_eq_true rfl) dX1_touchAll_2) (fun S1 h => ?_)
  refine x_aload_n X 1 dX1_touchAll_5 rfl ?_
  refine x_iconst X (v := 1) dX1_touchAll_6 (by decide) ?_
  refine x_aload_n X 0 dX1_touchAll_7 rfl ?_
  refine xg_X1_35 X K ha0 dX1_touchAll_8 ?_
  refine x_iconst X (v := 1) dX1_touchAll_11 (by decide) ?_
  refine x_iadd X dX1_touchAll_12 ?_
  refine x_ishl X dX1_touchAll_13 ?_
  refine x_iconst X (v := 1) dX1_touchAll_14 (by decide) ?_
  refine x_isub X dX1_touchAll_15 ?_
  refine xp_X1_98 X K hi hA ha1 dX1_touchAll_16 ?_
  exact x_vret X E dX1_touchAll_19 ⟨rfl, h⟩
set_option maxHeartbeats 2000000 in
set_option maxRecDepth 20000 in
theorem m_X1_touchAll {l : Launch} {D : va_G} {cy : Nat → ClassId} {ad : Nat → Nat → Nat} (hi : xInj (shC cy) ad) {a0 : Nat} {a1 : Nat} {S : xS} {Q : xS → Prop} (ha0 : a0 < 12) (ha1 : a1 < 60) (h : wp_X1_touchAll a0 a1 S Q) : xMet l D (xTys cy) (shC cy) ad yX1_touchAll cX1_touchAll 2 none (xRm 5 125) [.ref (ad 1 a0), .ref (ad 5 a1)] S (xQv Q) := xMet_env hi (by decide +kernel) rfl (Nat.le_of_ble_eq_true rfl) (fun g hl V => w_X1_touchAll V ha0 ha1 h)
set_option maxHeartbeats 2000000 in
set_option maxRecDepth 20000 in
theorem w_X1_removeTuple_9_b {g : xG} {D : va_G} {cy : Nat → ClassId} {ad : Nat → Nat → Nat} {a0 : Nat} {K9 : xS → Nat → Int32 → Prop} {Q : xS → Prop} (V : xEnv g D (xTys cy) (shC cy) ad RX1 cX1_removeTuple none 0 0 4 (xQv Q)) (ha0 : a0 < 12) (hK9 : ∀ (S : xS) (v2 : Nat) (v3 : Int32), v2 < 60 → K9 S v2 v3 → Wx g (xW D (shC cy) ad S) 9 [(0, .ref (ad 1 a0)), (2, .ref (ad 5 v2)), (3, .int v3)] []) (S : xS) (v2 : Nat) (v3 : Int32) (hv2 : v2 < 60) (h : wp_X1_removeTuple_9_b a0 K9 Q S v2 v3) : Wx g (xW D (shC cy) ad S) 9 [(0, .ref (ad 1 a0)), (2, .ref (ad 5 v2)), (3, .int v3)] [] := by
  obtain ⟨X, K, hi, hA, hR, E, hN⟩ := V
  have V := xEnv_mk X K hi hA hR E hN
  unfold wp_X1_removeTuple_9_b at h
  refine x_iload_n X 2 dX1_removeTuple_9 rfl ?_
  refine x_iconst X (v := 1) dX1_removeTuple_10 (by decide) ?_
  refine x_iadd X dX1_removeTuple_11 ?_
  refine x_aload_n X 0 dX1_removeTuple_12 rfl ?_
  refine xg_X1_45 X K ha0 dX1_removeTuple_13 ?_
  refine x_icmp_ge X 39 dX1_removeTuple_16 (by decide) h (fun h => ?_) (fun h => ?_)
  · refine x_aload_n X 0 dX1_removeTuple_39 rfl ?_
    refine x_dup X dX1_removeTuple_40 rfl ?_
    refine xg_X1_45 X K ha0 dX1_removeTuple_41 ?_
    refine x_iconst X (v := 1) dX1_removeTuple_44 (by decide) ?_
    refine x_isub X dX1_removeTuple_45 ?_
    refine xp_X1_45 X K hi hA ha0 dX1_removeTuple_46 ?_
    refine x_aload_n X 0 dX1_removeTuple_49 rfl ?_
    refine xg_X1_26 X K ha0 dX1_removeTuple_50 ?_
    refine x_aload_n X 0 dX1_removeTuple_53 rfl ?_
    refine xg_X1_45 X K ha0 dX1_removeTuple_54 ?_
    refine x_aload_n X 1 dX1_removeTuple_57 rfl ?_
    obtain ⟨hb1, h⟩ := h
    refine xs_C16 X K hi hA ha0 hb1 hv2 dX1_removeTuple_58 ?_
    exact x_vret X E dX1_removeTuple_59 ⟨rfl, h⟩
  · refine x_aload_n X 0 dX1_removeTuple_19 rfl ?_
    refine xg_X1_26 X K ha0 dX1_removeTuple_20 ?_
    refine x_iload_n X 2 dX1_removeTuple_23 rfl ?_
    refine x_aload_n X 0 dX1_removeTuple_24 rfl ?_
    refine xg_X1_26 X K ha0 dX1_removeTuple_25 ?_
    refine x_iload_n X 2 dX1_removeTuple_28 rfl ?_
    refine x_iconst X (v := 1) dX1_removeTuple_29 (by decide) ?_
    refine x_iadd X dX1_removeTuple_30 ?_
    obtain ⟨⟨hb2, hv3⟩, h⟩ := h
    refine xa_C16 X K ha0 hb2 dX1_removeTuple_31 ?_
    obtain ⟨hb4, h⟩ := h
    refine xs_C16 X K hi hA ha0 hb4 hv3 dX1_removeTuple_32 ?_
    refine x_iinc X 2 [(3, .int (v3 + (1 : Int32))), (0, .ref (ad 1 a0)), (2, .ref (ad 5 v2))] dX1_removeTuple_33 rfl rfl (by rw [hN]; decide) rfl ?_
    refine x_goto X 9 dX1_removeTuple_36 (by decide) ?_
    refine x_sub [1, 2, 0] rfl ?_
    exact hK9 (xR S 16 a0 v3.toNatClampNeg (S.2.2 16 a0 (v3 + (1 : Int32)).toNatClampNeg)) v2 (v3 + (1 : Int32)) hv2 h
set_option maxHeartbeats 2000000 in
set_option maxRecDepth 20000 in
theorem w_X1_removeTuple_9 {g : xG} {D : va_G} {cy : Nat → ClassId} {ad : Nat → Nat → Nat} {a0 : Nat} {Q : xS → Prop} (V : xEnv g D (xTys cy) (shC cy) ad RX1 cX1_removeTuple none 0 0 4 (xQv Q)) (ha0 : a0 < 12) (n : Nat) : ∀ (S : xS) (v2 : Nat) (v3 : Int32) (hv2 : v2 < 60), wp_X1_removeTuple_9 a0 Q n S v2 v3 → Wx g (xW D (shC cy) ad S) 9 [(0, .ref (ad 1 a0)), (2, .ref (ad 5 v2)), (3, .int v3)] [] := by
  induction n with
  | zero => intro S v2 v3 hv2 h; exact h.elim
  | succ n ih => intro S v2 v3 hv2 h; exact w_X1_removeTuple_9_b V ha0 (fun S v2 v3 hv2 h => ih S v2 v3 hv2 h) S v2 v3 hv2 h
set_option maxHeartbeats 2000000 in
set_option maxRecDepth 20000 in
theorem w_X1_removeTuple {g : xG} {D : va_G} {cy : Nat → ClassId} {ad : Nat → Nat → Nat} {a0 : Nat} {a1 : Int32} {S : xS} {Q : xS → Prop} (V : xEnv g D (xTys cy) (shC cy) ad RX1 cX1_removeTuple none 0 0 4 (xQv Q)) (ha0 : a0 < 12) (h : wp_X1_removeTuple a0 a1 S Q) : Wx g (xW D (shC cy) ad S) 0 [(0, .ref (ad 1 a0)), (1, .int a1)] [] := by
  obtain ⟨X, K, hi, hA, hR, E, hN⟩ := V
  have V := xEnv_mk X K hi hA hR E hN
  unfold wp_X1_removeTuple at h
  refine x_aload_n X 0 dX1_removeTuple_0 rfl ?_
  refine xg_X1_26 X K ha0 dX1_removeTuple_1 ?_
  refine x_iload_n X 1 dX1_removeTuple_4 rfl ?_
  obtain ⟨⟨hb1, hv2⟩, h⟩ := h
  refine xa_C16 X K ha0 hb1 dX1_removeTuple_5 ?_
  refine x_astore_n X [(2, .ref (ad 5 (S.2.2 16 a0 a1.toNatClampNeg))), (0, .ref (ad 1 a0)), (1, .int a1)] dX1_removeTuple_6 (by rw [hN]; decide) rfl ?_
  refine x_iload_n X 2 dX1_removeTuple_7 rfl ?_
  refine x_istore_n X [(3, .int a1), (2, .ref (ad 5 (S.2.2 16 a0 a1.toNatClampNeg))), (0, .ref (ad 1 a0)), (1, .int a1)] dX1_removeTuple_8 (by rw [hN]; decide) rfl ?_
  refine x_sub [2, 1, 0] rfl ?_
  obtain ⟨n3, h⟩ := h
  exact w_X1_removeTuple_9 V ha0 n3 S (S.2.2 16 a0 a1.toNatClampNeg) a1 hv2 h
set_option maxHeartbeats 2000000 in
set_option maxRecDepth 20000 in
theorem m_X1_removeTuple {l : Launch} {D : va_G} {cy : Nat → ClassId} {ad : Nat → Nat → Nat} (hi : xInj (shC cy) ad) {a0 : Nat} {a1 : Int32} {S : xS} {Q : xS → Prop} (ha0 : a0 < 12) (h : wp_X1_removeTuple a0 a1 S Q) : xMet l D (xTys cy) (shC cy) ad yX1_removeTuple cX1_removeTuple 4 none (xRm 0 0) [.ref (ad 1 a0), .int a1] S (xQv Q) := xMet_env hi (by decide +kernel) rfl (Nat.le_of_ble_eq_true rfl) (fun g hl V => w_X1_removeTuple V ha0 h)
set_option maxHeartbeats 2000000 in
set_option maxRecDepth 20000 in
theorem w_X5_hasRegionOf_52 {g : xG} {D : va_G} {cy : Nat → ClassId} {ad : Nat → Nat → Nat} {Q : Int32 → xS → Prop} (V : xEnv g D (xTys cy) (shC cy) ad RX5 cX5_hasRegionOf (some .boolean) 0 0 3 (xQi Q)) (S : xS) (h : wp_X5_hasRegionOf_52 Q S) : Wx g (xW D (shC cy) ad S) 52 [] [] := by
  obtain ⟨X, K, hi, hA, hR, E, hN⟩ := V
  have V := xEnv_mk X K hi hA hR E hN
  unfold wp_X5_hasRegionOf_52 at h
  refine x_iconst X (v := 0) dX5_hasRegionOf_52 (by decide) ?_
  exact x_zret X E dX5_hasRegionOf_53 h.1 ⟨_, rfl, h.2⟩
set_option maxHeartbeats 2000000 in
set_option maxRecDepth 20000 in
theorem w_X5_hasRegionOf_2_b {g : xG} {D : va_G} {cy : Nat → ClassId} {ad : Nat → Nat → Nat} {a0 : Nat} {a1 : Nat} {K2 : xS → Int32 → Prop} {Q : Int32 → xS → Prop} (V : xEnv g D (xTys cy) (shC cy) ad RX5 cX5_hasRegionOf (some .boolean) 0 0 3 (xQi Q)) (ha0 : a0 < 60) (ha1 : a1 < 60) (hK2 : ∀ (S : xS) (v2 : Int32), K2 S v2 → Wx g (xW D (shC cy) ad S) 2 [(0, .ref (ad 5 a0)), (1, .ref (ad 5 a1)), (2, .int v2)] []) (S : xS) (v2 : Int32) (h : wp_X5_hasRegionOf_2_b a0 a1 K2 Q S v2) : Wx g (xW D (shC cy) ad S) 2 [(0, .ref (ad 5 a0)), (1, .ref (ad 5 a1)), (2, .int v2)] [] := by
  obtain ⟨X, K, hi, hA, hR, E, hN⟩ := V
  have V := xEnv_mk X K hi hA hR E hN
  unfold wp_X5_hasRegionOf_2_b at h
  refine x_iload_n X 2 dX5_hasRegionOf_2 rfl ?_
  refine x_iconst X (v := 4) dX5_hasRegionOf_3 (by decide) ?_
  refine x_icmp_ge X 60 dX5_hasRegionOf_4 (by decide) h (fun h => ?_) (fun h => ?_)
  · refine x_iconst X (v := 1) dX5_hasRegionOf_60 (by decide) ?_
    exact x_zret X E dX5_hasRegionOf_61 h.1 ⟨_, rfl, h.2⟩
  · refine x_aload_n X 0 dX5_hasRegionOf_7 rfl ?_
    refine xg_X5_9 X K ha0 dX5_hasRegionOf_8 ?_
    refine x_iload_n X 2 dX5_hasRegionOf_11 rfl ?_
    obtain ⟨hb1, h⟩ := h
    refine xa_C24 X K ha0 hb1 dX5_hasRegionOf_12 ?_
    refine x_aload_n X 1 dX5_hasRegionOf_13 rfl ?_
    refine xg_X5_9 X K ha1 dX5_hasRegionOf_14 ?_
    refine x_iload_n X 2 dX5_hasRegionOf_17 rfl ?_
    obtain ⟨hb2, h⟩ := h
    refine xa_C24 X K ha1 hb2 dX5_hasRegionOf_18 ?_
    refine x_icmp_ne X 52 dX5_hasRegionOf_19 (by decide) h (fun h => ?_) (fun h => ?_)
    · refine x_aload_n X 0 dX5_hasRegionOf_22 rfl ?_
      refine xg_X5_15 X K ha0 dX5_hasRegionOf_23 ?_
      refine x_iload_n X 2 dX5_hasRegionOf_26 rfl ?_
      obtain ⟨hb3, h⟩ := h
      refine xa_C25 X K ha0 hb3 dX5_hasRegionOf_27 ?_
      refine x_aload_n X 1 dX5_hasRegionOf_28 rfl ?_
      refine xg_X5_15 X K ha1 dX5_hasRegionOf_29 ?_
      refine x_iload_n X 2 dX5_hasRegionOf_32 rfl ?_
      obtain ⟨hb4, h⟩ := h
      refine xa_C25 X K ha1 hb4 dX5_hasRegionOf_33 ?_
      refine x_icmp_ne X 52 dX5_hasRegionOf_34 (by decide) h (fun h => ?_) (fun h => ?_)
      · refine x_aload_n X 0 dX5_hasRegionOf_37 rfl ?_
        refine xg_X5_18 X K ha0 dX5_hasRegionOf_38 ?_
        refine x_iload_n X 2 dX5_hasRegionOf_41 rfl ?_
        obtain ⟨hb5, h⟩ := h
        refine xa_C26 X K ha0 hb5 dX5_hasRegionOf_42 ?_
        refine x_aload_n X 1 dX5_hasRegionOf_43 rfl ?_
        refine xg_X5_18 X K ha1 dX5_hasRegionOf_44 ?_
        refine x_iload_n X 2 dX5_hasRegionOf_47 rfl ?_
        obtain ⟨hb6, h⟩ := h
        refine xa_C26 X K ha1 hb6 dX5_hasRegionOf_48 ?_
        refine x_icmp_eq X 54 dX5_hasRegionOf_49 (by decide) h (fun h => ?_) (fun h => ?_)
        · refine x_iinc X 2 [(2, .int (v2 + (1 : Int32))), (0, .ref (ad 5 a0)), (1, .ref (ad 5 a1))] dX5_hasRegionOf_54 rfl rfl (by rw [hN]; decide) rfl ?_
          refine x_goto X 2 dX5_hasRegionOf_57 (by decide) ?_
          refine x_sub [1, 2, 0] rfl ?_
          exact hK2 S (v2 + (1 : Int32)) h
        · refine x_sub [] rfl ?_
          exact w_X5_hasRegionOf_52 V S h
      · refine x_sub [] rfl ?_
        exact w_X5_hasRegionOf_52 V S h
    · refine x_sub [] rfl ?_
      exact w_X5_hasRegionOf_52 V S h
set_option maxHeartbeats 2000000 in
set_option maxRecDepth 20000 in
theorem w_X5_hasRegionOf_2 {g : xG} {D : va_G} {cy : Nat → ClassId} {ad : Nat → Nat → Nat} {a0 : Nat} {a1 : Nat} {Q : Int32 → xS → Prop} (V : xEnv g D (xTys cy) (shC cy) ad RX5 cX5_hasRegionOf (some .boolean) 0 0 3 (xQi Q)) (ha0 : a0 < 60) (ha1 : a1 < 60) (n : Nat) : ∀ (S : xS) (v2 : Int32), wp_X5_hasRegionOf_2 a0 a1 Q n S v2 → Wx g (xW D (shC cy) ad S) 2 [(0, .ref (ad 5 a0)), (1, .ref (ad 5 a1)), (2, .int v2)] [] := by
  induction n with
  | zero => intro S v2 h; exact h.elim
  | succ n ih => intro S v2 h; exact w_X5_hasRegionOf_2_b V ha0 ha1 (fun S v2 h => ih S v2 h) S v2 h
set_option maxHeartbeats 2000000 in
set_option maxRecDepth 20000 in
theorem w_X5_hasRegionOf {g : xG} {D : va_G} {cy : Nat → ClassId} {ad : Nat → Nat → Nat} {a0 : Nat} {a1 : Nat} {S : xS} {Q : Int32 → xS → Prop} (V : xEnv g D (xTys cy) (shC cy) ad RX5 cX5_hasRegionOf (some .boolean) 0 0 3 (xQi Q)) (ha0 : a0 < 60) (ha1 : a1 < 60) (h : wp_X5_hasRegionOf a0 a1 S Q) : Wx g (xW D (shC cy) ad S) 0 [(0, .ref (ad 5 a0)), (1, .ref (ad 5 a1))] [] := by
  obtain ⟨X, K, hi, hA, hR, E, hN⟩ := V
  have V := xEnv_mk X K hi hA hR E hN
  unfold wp_X5_hasRegionOf at h
  refine x_iconst X (v := 0) dX5_hasRegionOf_0 (by decide) ?_
  refine x_istore_n X [(2, .int (0 : Int32)), (0, .ref (ad 5 a0)), (1, .ref (ad 5 a1))] dX5_hasRegionOf_1 (by rw [hN]; decide) rfl ?_
  refine x_sub [1, 2, 0] rfl ?_
  obtain ⟨n1, h⟩ := h
  exact w_X5_hasRegionOf_2 V ha0 ha1 n1 S (0 : Int32) h
set_option maxHeartbeats 2000000 in
set_option maxRecDepth 20000 in
theorem m_X5_hasRegionOf {l : Launch} {D : va_G} {cy : Nat → ClassId} {ad : Nat → Nat → Nat} (hi : xInj (shC cy) ad) {a0 : Nat} {a1 : Nat} {S : xS} {Q : Int32 → xS → Prop} (ha0 : a0 < 60) (ha1 : a1 < 60) (h : wp_X5_hasRegionOf a0 a1 S Q) : xMet l D (xTys cy) (shC cy) ad yX5_hasRegionOf cX5_hasRegionOf 3 (some .boolean) (xRm 0 0) [.ref (ad 5 a0), .ref (ad 5 a1)] S (xQi Q) := xMet_env hi (by decide +kernel) rfl (Nat.le_of_ble_eq_true rfl) (fun g hl V => w_X5_hasRegionOf V ha0 ha1 h)
set_option maxHeartbeats 2000000 in
set_option maxRecDepth 20000 in
theorem w_X1_earliestWithRegionOf_2_b {g : xG} {D : va_G} {cy : Nat → ClassId} {ad : Nat → Nat → Nat} {a0 : Nat} {a1 : Int32} {K2 : xS → Int32 → Prop} {Q : Int32 → xS → Prop} (V : xEnv g D (xTys cy) (shC cy) ad RX1 cX1_earliestWithRegionOf (some .int) 1 22 3 (xQi Q)) (ha0 : a0 < 12) (hK2 : ∀ (S : xS) (v2 : Int32), K2 S v2 → Wx g (xW D (shC cy) ad S) 2 [(0, .ref (ad 1 a0)), (1, .int a1), (2, .int v2)] []) (S : xS) (v2 : Int32) (h : wp_X1_earliestWithRegionOf_2_b a0 a1 K2 Q S v2) : Wx g (xW D (shC cy) ad S) 2 [(0, .ref (ad 1 a0)), (1, .int a1), (2, .int v2)] [] := by
  obtain ⟨X, K, hi, hA, hR, E, hN⟩ := V
  have V := xEnv_mk X K hi hA hR E hN
  unfold wp_X1_earliestWithRegionOf_2_b at h
  refine x_iload_n X 2 dX1_earliestWithRegionOf_2 rfl ?_
  refine x_iload_n X 1 dX1_earliestWithRegionOf_3 rfl ?_
  refine x_icmp_ge X 33 dX1_earliestWithRegionOf_4 (by decide) h (fun h => ?_) (fun h => ?_)
  · refine x_iload_n X 1 dX1_earliestWithRegionOf_33 rfl ?_
    exact x_iret X E dX1_earliestWithRegionOf_34 ⟨_, rfl, h⟩
  · refine x_aload_n X 0 dX1_earliestWithRegionOf_7 rfl ?_
    refine xg_X1_26 X K ha0 dX1_earliestWithRegionOf_8 ?_
    refine x_iload_n X 2 dX1_earliestWithRegionOf_11 rfl ?_
    obtain ⟨⟨hb1, hv2⟩, h⟩ := h
    refine xa_C16 X K ha0 hb1 dX1_earliestWithRegionOf_12 ?_
    refine x_aload_n X 0 dX1_earliestWithRegionOf_13 rfl ?_
    refine xg_X1_26 X K ha0 dX1_earliestWithRegionOf_14 ?_
    refine x_iload_n X 1 dX1_earliestWithRegionOf_17 rfl ?_
    obtain ⟨⟨hb3, hv4⟩, h⟩ := h
    refine xa_C16 X K ha0 hb3 dX1_earliestWithRegionOf_18 ?_
    refine x_calli hA (x_runV (n := 1) (sh := shC cy) X K hR (fun _ q => q) (m_X5_hasRegionOf hi hv2 hv4 h) (kC_5 cy hv2) rfl rfl t3_112 t3_113 t3_114 t1_5 t3_115 ⟨by decide, by decide, by decide +kernel⟩ rfl (by decide) (by decide) rfl (Nat.le_of_ble_eq_true rfl) dX1_earliestWithRegionOf_19) (fun r6 S5 h => ?_)
    refine x_if_eq X 27 dX1_earliestWithRegionOf_22 (by decide) h (fun h => ?_) (fun h => ?_)
    · refine x_iinc X 2 [(2, .int (v2 + (1 : Int32))), (0, .ref (ad 1 a0)), (1, .int a1)] dX1_earliestWithRegionOf_27 rfl rfl (by rw [hN]; decide) rfl ?_
      refine x_goto X 2 dX1_earliestWithRegionOf_30 (by decide) ?_
      refine x_sub [1, 2, 0] rfl ?_
      exact hK2 S5 (v2 + (1 : Int32)) h
    · refine x_iload_n X 2 dX1_earliestWithRegionOf_25 rfl ?_
      exact x_iret X E dX1_earliestWithRegionOf_26 ⟨_, rfl, h⟩
set_option maxHeartbeats 2000000 in
set_option maxRecDepth 20000 in
theorem w_X1_earliestWithRegionOf_2 {g : xG} {D : va_G} {cy : Nat → ClassId} {ad : Nat → Nat → Nat} {a0 : Nat} {a1 : Int32} {Q : Int32 → xS → Prop} (V : xEnv g D (xTys cy) (shC cy) ad RX1 cX1_earliestWithRegionOf (some .int) 1 22 3 (xQi Q)) (ha0 : a0 < 12) (n : Nat) : ∀ (S : xS) (v2 : Int32), wp_X1_earliestWithRegionOf_2 a0 a1 Q n S v2 → Wx g (xW D (shC cy) ad S) 2 [(0, .ref (ad 1 a0)), (1, .int a1), (2, .int v2)] [] := by
  induction n with
  | zero => intro S v2 h; exact h.elim
  | succ n ih => intro S v2 h; exact w_X1_earliestWithRegionOf_2_b V ha0 (fun S v2 h => ih S v2 h) S v2 h
set_option maxHeartbeats 2000000 in
set_option maxRecDepth 20000 in
theorem w_X1_earliestWithRegionOf {g : xG} {D : va_G} {cy : Nat → ClassId} {ad : Nat → Nat → Nat} {a0 : Nat} {a1 : Int32} {S : xS} {Q : Int32 → xS → Prop} (V : xEnv g D (xTys cy) (shC cy) ad RX1 cX1_earliestWithRegionOf (some .int) 1 22 3 (xQi Q)) (ha0 : a0 < 12) (h : wp_X1_earliestWithRegionOf a0 a1 S Q) : Wx g (xW D (shC cy) ad S) 0 [(0, .ref (ad 1 a0)), (1, .int a1)] [] := by
  obtain ⟨X, K, hi, hA, hR, E, hN⟩ := V
  have V := xEnv_mk X K hi hA hR E hN
  unfold wp_X1_earliestWithRegionOf at h
  refine x_iconst X (v := 0) dX1_earliestWithRegionOf_0 (by decide) ?_
  refine x_istore_n X [(2, .int (0 : Int32)), (0, .ref (ad 1 a0)), (1, .int a1)] dX1_earliestWithRegionOf_1 (by rw [hN]; decide) rfl ?_
  refine x_sub [1, 2, 0] rfl ?_
  obtain ⟨n1, h⟩ := h
  exact w_X1_earliestWithRegionOf_2 V ha0 n1 S (0 : Int32) h
set_option maxHeartbeats 2000000 in
set_option maxRecDepth 20000 in
theorem m_X1_earliestWithRegionOf {l : Launch} {D : va_G} {cy : Nat → ClassId} {ad : Nat → Nat → Nat} (hi : xInj (shC cy) ad) {a0 : Nat} {a1 : Int32} {S : xS} {Q : Int32 → xS → Prop} (ha0 : a0 < 12) (h : wp_X1_earliestWithRegionOf a0 a1 S Q) : xMet l D (xTys cy) (shC cy) ad yX1_earliestWithRegionOf cX1_earliestWithRegionOf 3 (some .int) (xRm 1 22) [.ref (ad 1 a0), .int a1] S (xQi Q) := xMet_env hi (by decide +kernel) rfl (Nat.le_of_ble_eq_true rfl) (fun g hl V => w_X1_earliestWithRegionOf V ha0 h)
set_option maxHeartbeats 2000000 in
set_option maxRecDepth 20000 in
theorem w_X5_addDeltas_46 {g : xG} {D : va_G} {cy : Nat → ClassId} {ad : Nat → Nat → Nat} {a0 : Nat} {a1 : Nat} {K2 : xS → Int32 → Prop} {Q : xS → Prop} (V : xEnv g D (xTys cy) (shC cy) ad RX5 cX5_addDeltas none 2 42 3 (xQv Q)) (ha0 : a0 < 60) (ha1 : a1 < 60) (hK2 : ∀ (S : xS) (v2 : Int32), K2 S v2 → Wx g (xW D (shC cy) ad S) 2 [(0, .ref (ad 5 a0)), (1, .ref (ad 5 a1)), (2, .int v2)] []) (S : xS) (v2 : Int32) (h : wp_X5_addDeltas_46 a0 a1 K2 Q S v2) : Wx g (xW D (shC cy) ad S) 46 [(0, .ref (ad 5 a0)), (1, .ref (ad 5 a1)), (2, .int v2)] [] := by
  obtain ⟨X, K, hi, hA, hR, E, hN⟩ := V
  have V := xEnv_mk X K hi hA hR E hN
  unfold wp_X5_addDeltas_46 at h
  refine x_iinc X 2 [(2, .int (v2 + (1 : Int32))), (0, .ref (ad 5 a0)), (1, .ref (ad 5 a1))] dX5_addDeltas_46 rfl rfl (by rw [hN]; decide) rfl ?_
  refine x_goto X 2 dX5_addDeltas_49 (by decide) ?_
  refine x_sub [1, 2, 0] rfl ?_
  exact hK2 S (v2 + (1 : Int32)) h
set_option maxHeartbeats 2000000 in
set_option maxRecDepth 20000 in
theorem w_X5_addDeltas_2_b {g : xG} {D : va_G} {cy : Nat → ClassId} {ad : Nat → Nat → Nat} {a0 : Nat} {a1 : Nat} {K2 : xS → Int32 → Prop} {Q : xS → Prop} (V : xEnv g D (xTys cy) (shC cy) ad RX5 cX5_addDeltas none 2 42 3 (xQv Q)) (ha0 : a0 < 60) (ha1 : a1 < 60) (hK2 : ∀ (S : xS) (v2 : Int32), K2 S v2 → Wx g (xW D (shC cy) ad S) 2 [(0, .ref (ad 5 a0)), (1, .ref (ad 5 a1)), (2, .int v2)] []) (S : xS) (v2 : Int32) (h : wp_X5_addDeltas_2_b a0 a1 K2 Q S v2) : Wx g (xW D (shC cy) ad S) 2 [(0, .ref (ad 5 a0)), (1, .ref (ad 5 a1)), (2, .int v2)] [] := by
  obtain ⟨X, K, hi, hA, hR, E, hN⟩ := V
  have V := xEnv_mk X K hi hA hR E hN
  unfold wp_X5_addDeltas_2_b at h
  refine x_iload_n X 2 dX5_addDeltas_2 rfl ?_
  refine x_bipush X (v := 25) dX5_addDeltas_3 (by decide) ?_
  refine x_icmp_ge X 52 dX5_addDeltas_5 (by decide) h (fun h => ?_) (fun h => ?_)
  · exact x_vret X E dX5_addDeltas_52 ⟨rfl, h⟩
  · refine x_aload_n X 0 dX5_addDeltas_8 rfl ?_
    refine x_iload_n X 2 dX5_addDeltas_9 rfl ?_
    refine x_calli hA (x_runV (n := 1) (sh := shC cy) X K hR (fun _ q => q) (m_X5_touches hi ha0 h) (kC_5 cy ha0) rfl rfl t3_128 t2_162 t2_163 t1_5 t2_164 ⟨by decide, by decide, by decide +kernel⟩ rfl (by decide) (by decide) rfl (Nat.le_of_ble_eq_true rfl) dX5_addDeltas_10) (fun r2 S1 h => ?_)
    refine x_if_eq X 46 dX5_addDeltas_13 (by decide) h (fun h => ?_) (fun h => ?_)
    · refine x_sub [0, 1, 2] rfl ?_
      exact w_X5_addDeltas_46 V ha0 ha1 hK2 S1 v2 h
    · refine x_aload_n X 0 dX5_addDeltas_16 rfl ?_
      refine xg_X5_21 X K ha0 dX5_addDeltas_17 ?_
      refine x_iload_n X 2 dX5_addDeltas_20 rfl ?_
      refine x_dup2 X dX5_addDeltas_21 rfl rfl ?_
      obtain ⟨hb3, h⟩ := h
      refine xa_C27 X K ha0 hb3 dX5_addDeltas_22 ?_
      refine x_aload_n X 1 dX5_addDeltas_23 rfl ?_
      refine xg_X5_21 X K ha1 dX5_addDeltas_24 ?_
      refine x_iload_n X 2 dX5_addDeltas_27 rfl ?_
      obtain ⟨hb4, h⟩ := h
      refine xa_C27 X K ha1 hb4 dX5_addDeltas_28 ?_
      refine x_iadd X dX5_addDeltas_29 ?_
      obtain ⟨hb5, h⟩ := h
      refine xs_C27 X K hi hA ha0 hb5 dX5_addDeltas_30 ?_
      refine x_aload_n X 0 dX5_addDeltas_31 rfl ?_
      refine xg_X5_24 X K ha0 dX5_addDeltas_32 ?_
      refine x_iload_n X 2 dX5_addDeltas_35 rfl ?_
      refine x_dup2 X dX5_addDeltas_36 rfl rfl ?_
      obtain ⟨hb6, h⟩ := h
      refine xa_C28 X K ha0 hb6 dX5_addDeltas_37 ?_
      refine x_aload_n X 1 dX5_addDeltas_38 rfl ?_
      refine xg_X5_24 X K ha1 dX5_addDeltas_39 ?_
      refine x_iload_n X 2 dX5_addDeltas_42 rfl ?_
      obtain ⟨hb7, h⟩ := h
      refine xa_C28 X K ha1 hb7 dX5_addDeltas_43 ?_
      refine x_iadd X dX5_addDeltas_44 ?_
      obtain ⟨hb8, h⟩ := h
      refine xs_C28 X K hi hA ha0 hb8 dX5_addDeltas_45 ?_
      refine x_sub [0, 1, 2] rfl ?_
      exact w_X5_addDeltas_46 V ha0 ha1 hK2 (xI (xI S1 27 a0 v2.toNatClampNeg ((S1.1 27 a0 v2.toNatClampNeg) + (S1.1 27 a1 v2.toNatClampNeg))) 28 a0 v2.toNatClampNeg (((xI S1 27 a0 v2.toNatClampNeg ((S1.1 27 a0 v2.toNatClampNeg) + (S1.1 27 a1 v2.toNatClampNeg))).1 28 a0 v2.toNatClampNeg) + ((xI S1 27 a0 v2.toNatClampNeg ((S1.1 27 a0 v2.toNatClampNeg) + (S1.1 27 a1 v2.toNatClampNeg))).1 28 a1 v2.toNatClampNeg))) v2 h
set_option maxHeartbeats 2000000 in
set_option maxRecDepth 20000 in
theorem w_X5_addDeltas_2 {g : xG} {D : va_G} {cy : Nat → ClassId} {ad : Nat → Nat → Nat} {a0 : Nat} {a1 : Nat} {Q : xS → Prop} (V : xEnv g D (xTys cy) (shC cy) ad RX5 cX5_addDeltas none 2 42 3 (xQv Q)) (ha0 : a0 < 60) (ha1 : a1 < 60) (n : Nat) : ∀ (S : xS) (v2 : Int32), wp_X5_addDeltas_2 a0 a1 Q n S v2 → Wx g (xW D (shC cy) ad S) 2 [(0, .ref (ad 5 a0)), (1, .ref (ad 5 a1)), (2, .int v2)] [] := by
  induction n with
  | zero => intro S v2 h; exact h.elim
  | succ n ih => intro S v2 h; exact w_X5_addDeltas_2_b V ha0 ha1 (fun S v2 h => ih S v2 h) S v2 h
set_option maxHeartbeats 2000000 in
set_option maxRecDepth 20000 in
theorem w_X5_addDeltas {g : xG} {D : va_G} {cy : Nat → ClassId} {ad : Nat → Nat → Nat} {a0 : Nat} {a1 : Nat} {S : xS} {Q : xS → Prop} (V : xEnv g D (xTys cy) (shC cy) ad RX5 cX5_addDeltas none 2 42 3 (xQv Q)) (ha0 : a0 < 60) (ha1 : a1 < 60) (h : wp_X5_addDeltas a0 a1 S Q) : Wx g (xW D (shC cy) ad S) 0 [(0, .ref (ad 5 a0)), (1, .ref (ad 5 a1))] [] := by
  obtain ⟨X, K, hi, hA, hR, E, hN⟩ := V
  have V := xEnv_mk X K hi hA hR E hN
  unfold wp_X5_addDeltas at h
  refine x_iconst X (v := 0) dX5_addDeltas_0 (by decide) ?_
  refine x_istore_n X [(2, .int (0 : Int32)), (0, .ref (ad 5 a0)), (1, .ref (ad 5 a1))] dX5_addDeltas_1 (by rw [hN]; decide) rfl ?_
  refine x_sub [1, 2, 0] rfl ?_
  obtain ⟨n1, h⟩ := h
  exact w_X5_addDeltas_2 V ha0 ha1 n1 S (0 : Int32) h
set_option maxHeartbeats 2000000 in
set_option maxRecDepth 20000 in
theorem m_X5_addDeltas {l : Launch} {D : va_G} {cy : Nat → ClassId} {ad : Nat → Nat → Nat} (hi : xInj (shC cy) ad) {a0 : Nat} {a1 : Nat} {S : xS} {Q : xS → Prop} (ha0 : a0 < 60) (ha1 : a1 < 60) (h : wp_X5_addDeltas a0 a1 S Q) : xMet l D (xTys cy) (shC cy) ad yX5_addDeltas cX5_addDeltas 3 none (xRm 2 42) [.ref (ad 5 a0), .ref (ad 5 a1)] S (xQv Q) := xMet_env hi (by decide +kernel) rfl (Nat.le_of_ble_eq_true rfl) (fun g hl V => w_X5_addDeltas V ha0 ha1 h)
set_option maxHeartbeats 2000000 in
set_option maxRecDepth 20000 in
theorem w_X1_mergeTuples_67 {g : xG} {D : va_G} {cy : Nat → ClassId} {ad : Nat → Nat → Nat} {a0 : Nat} {K12 : xS → Int32 → Int32 → Prop} {Q : Int32 → xS → Prop} (V : xEnv g D (xTys cy) (shC cy) ad RX1 cX1_mergeTuples (some .int) 6 146 4 (xQi Q)) (ha0 : a0 < 12) (hK12 : ∀ (S : xS) (v1 : Int32) (v2 : Int32), K12 S v1 v2 → Wx g (xW D (shC cy) ad S) 12 [(0, .ref (ad 1 a0)), (1, .int v1), (2, .int v2)] []) (S : xS) (v1 : Int32) (v2 : Int32) (h : wp_X1_mergeTuples_67 a0 K12 Q S v1 v2) : Wx g (xW D (shC cy) ad S) 67 [(0, .ref (ad 1 a0)), (1, .int v1), (2, .int v2)] [] := by
  obtain ⟨X, K, hi, hA, hR, E, hN⟩ := V
  have V := xEnv_mk X K hi hA hR E hN
  unfold wp_X1_mergeTuples_67 at h
  refine x_iinc X 2 [(2, .int (v2 + (-1 : Int32))), (0, .ref (ad 1 a0)), (1, .int v1)] dX1_mergeTuples_67 rfl rfl (by rw [hN]; decide) rfl ?_
  refine x_goto X 12 dX1_mergeTuples_70 (by decide) ?_
  refine x_sub [1, 2, 0] rfl ?_
  exact hK12 S v1 (v2 + (-1 : Int32)) h
set_option maxHeartbeats 2000000 in
set_option maxRecDepth 20000 in
theorem w_X1_mergeTuples_12_b {g : xG} {D : va_G} {cy : Nat → ClassId} {ad : Nat → Nat → Nat} {a0 : Nat} {K12 : xS → Int32 → Int32 → Prop} {Q : Int32 → xS → Prop} (V : xEnv g D (xTys cy) (shC cy) ad RX1 cX1_mergeTuples (some .int) 6 146 4 (xQi Q)) (ha0 : a0 < 12) (hK12 : ∀ (S : xS) (v1 : Int32) (v2 : Int32), K12 S v1 v2 → Wx g (xW D (shC cy) ad S) 12 [(0, .ref (ad 1 a0)), (1, .int v1), (2, .int v2)] []) (S : xS) (v1 : Int32) (v2 : Int32) (h : wp_X1_mergeTuples_12_b a0 K12 Q S v1 v2) : Wx g (xW D (shC cy) ad S) 12 [(0, .ref (ad 1 a0)), (1, .int v1), (2, .int v2)] [] := by
  obtain ⟨X, K, hi, hA, hR, E, hN⟩ := V
  have V := xEnv_mk X K hi hA hR E hN
  unfold wp_X1_mergeTuples_12_b at h
  refine x_iload_n X 2 dX1_mergeTuples_12 rfl ?_
  refine x_if_le X 73 dX1_mergeTuples_13 (by decide) h (fun h => ?_) (fun h => ?_)
  · refine x_iload_n X 1 dX1_mergeTuples_73 rfl ?_
    refine x_aload_n X 0 dX1_mergeTuples_74 rfl ?_
    refine xg_X1_45 X K ha0 dX1_mergeTuples_75 ?_
    refine x_isub X dX1_mergeTuples_78 ?_
    exact x_iret X E dX1_mergeTuples_79 ⟨_, rfl, h⟩
  · refine x_aload_n X 0 dX1_mergeTuples_16 rfl ?_
    refine x_iload_n X 2 dX1_mergeTuples_17 rfl ?_
    refine x_calli hA (x_runV (n := 1) (sh := shC cy) X K hR (fun _ q => q) (m_X1_earliestWithRegionOf hi ha0 h) (kC_1 cy ha0) rfl rfl t3_108 t3_110 tp_14 t1_4 t3_111 ⟨by decide, by decide, by decide +kernel⟩ rfl (by decide) (by decide) rfl (Nat.le_of_ble_eq_true rfl) dX1_mergeTuples_18) (fun r2 S1 h => ?_)
    refine x_istore_n X [(3, .int r2), (0, .ref (ad 1 a0)), (1, .int v1), (2, .int v2)] dX1_mergeTuples_21 (by rw [hN]; decide) rfl ?_
    refine x_iload_n X 0 dX1_mergeTuples_22 rfl ?_
    refine x_iload_n X 3 dX1_mergeTuples_23 rfl ?_
    refine x_icmp_ge X 67 dX1_mergeTuples_24 (by decide) h (fun h => ?_) (fun h => ?_)
    · refine x_sub [1, 2, 3] rfl ?_
      exact w_X1_mergeTuples_67 V ha0 hK12 S1 v1 v2 h
    · refine x_aload_n X 1 dX1_mergeTuples_27 rfl ?_
      refine x_aload_n X 1 dX1_mergeTuples_28 rfl ?_
      refine xg_X1_26 X K ha0 dX1_mergeTuples_29 ?_
      refine x_iload_n X 0 dX1_mergeTuples_32 rfl ?_
      obtain ⟨⟨hb3, hv4⟩, h⟩ := h
      refine xa_C16 X K ha0 hb3 dX1_mergeTuples_33 ?_
      refine x_callv hA (x_runV (n := 1) (sh := shC cy) X K hR (fun _ q => q) (m_X1_touchAll hi ha0 hv4 h) (kC_1 cy ha0) rfl rfl t3_116 t3_118 tp_15 t1_4 t3_119 ⟨by decide, by decide, by decide +kernel⟩ rfl (by decide) (by decide) rfl (Nat.le_of_ble_eq_true rfl) dX1_mergeTuples_34) (fun S5 h => ?_)
      refine x_aload_n X 1 dX1_mergeTuples_37 rfl ?_
      refine x_aload_n X 1 dX1_mergeTuples_38 rfl ?_
      refine xg_X1_26 X K ha0 dX1_mergeTuples_39 ?_
      refine x_iload_n X 3 dX1_mergeTuples_42 rfl ?_
      obtain ⟨⟨hb7, hv8⟩, h⟩ := h
      refine xa_C16 X K ha0 hb7 dX1_mergeTuples_43 ?_
      refine x_callv hA (x_runV (n := 1) (sh := shC cy) X K hR (fun _ q => q) (m_X1_touchAll hi ha0 hv8 h) (kC_1 cy ha0) rfl rfl t3_116 t3_118 tp_15 t1_4 t3_119 ⟨by decide, by decide, by decide +kernel⟩ rfl (by decide) (by decide) rfl (Nat.le_of_ble_eq_true rfl) dX1_mergeTuples_44) (fun S9 h => ?_)
      refine x_aload_n X 1 dX1_mergeTuples_47 rfl ?_
      refine xg_X1_26 X K ha0 dX1_mergeTuples_48 ?_
      refine x_iload_n X 0 dX1_mergeTuples_51 rfl ?_
      obtain ⟨⟨hb11, hv12⟩, h⟩ := h
      refine xa_C16 X K ha0 hb11 dX1_mergeTuples_52 ?_
      refine x_aload_n X 1 dX1_mergeTuples_53 rfl ?_
      refine xg_X1_26 X K ha0 dX1_mergeTuples_54 ?_
      refine x_iload_n X 3 dX1_mergeTuples_57 rfl ?_
      obtain ⟨⟨hb13, hv14⟩, h⟩ := h
      refine xa_C16 X K ha0 hb13 dX1_mergeTuples_58 ?_
      refine x_callv hA (x_runV (n := 1) (sh := shC cy) X K hR (fun _ q => q) (m_X5_addDeltas hi hv12 hv14 h) (kC_5 cy hv12) rfl rfl t3_124 t3_125 t3_126 t1_5 t3_127 ⟨by decide, by decide, by decide +kernel⟩ rfl (by decide) (by decide) rfl (Nat.le_of_ble_eq_true rfl) dX1_mergeTuples_59) (fun S15 h => ?_)
      refine x_aload_n X 1 dX1_mergeTuples_62 rfl ?_
      refine x_iload_n X 3 dX1_mergeTuples_63 rfl ?_
      refine x_callv hA (x_runV (n := 1) (sh := shC cy) X K hR (fun _ q => q) (m_X1_removeTuple hi ha0 h) (kC_1 cy ha0) rfl rfl t3_129 t3_131 tp_17 t1_4 t3_132 ⟨by decide, by decide, by decide +kernel⟩ rfl (by decide) (by decide) rfl (Nat.le_of_ble_eq_true rfl) dX1_mergeTuples_64) (fun S17 h => ?_)
      refine x_sub [1, 2, 3] rfl ?_
      exact w_X1_mergeTuples_67 V ha0 hK12 S17 v1 v2 h
set_option maxHeartbeats 2000000 in
set_option maxRecDepth 20000 in
theorem w_X1_mergeTuples_12 {g : xG} {D : va_G} {cy : Nat → ClassId} {ad : Nat → Nat → Nat} {a0 : Nat} {Q : Int32 → xS → Prop} (V : xEnv g D (xTys cy) (shC cy) ad RX1 cX1_mergeTuples (some .int) 6 146 4 (xQi Q)) (ha0 : a0 < 12) (n : Nat) : ∀ (S : xS) (v1 : Int32) (v2 : Int32), wp_X1_mergeTuples_12 a0 Q n S v1 v2 → Wx g (xW D (shC cy) ad S) 12 [(0, .ref (ad 1 a0)), (1, .int v1), (2, .int v2)] [] := by
  induction n with
  | zero => intro S v1 v2 h; exact h.elim
  | succ n ih => intro S v1 v2 h; exact w_X1_mergeTuples_12_b V ha0 (fun S v1 v2 h => ih S v1 v2 h) S v1 v2 h
set_option maxHeartbeats 2000000 in
set_option maxRecDepth 20000 in
theorem w_X1_mergeTuples {g : xG} {D : va_G} {cy : Nat → ClassId} {ad : Nat → Nat → Nat} {a0 : Nat} {S : xS} {Q : Int32 → xS → Prop} (V : xEnv g D (xTys cy) (shC cy) ad RX1 cX1_mergeTuples (some .int) 6 146 4 (xQi Q)) (ha0 : a0 < 12) (h : wp_X1_mergeTuples a0 S Q) : Wx g (xW D (shC cy) ad S) 0 [(0, .ref (ad 1 a0))] [] := by
  obtain ⟨X, K, hi, hA, hR, E, hN⟩ := V
  have V := xEnv_mk X K hi hA hR E hN
  unfold wp_X1_mergeTuples at h
  refine x_aload_n X 0 dX1_mergeTuples_0 rfl ?_
  refine xg_X1_45 X K ha0 dX1_mergeTuples_1 ?_
  refine x_istore_n X [(1, .int (S.1 1 a0 6)), (0, .ref (ad 1 a0))] dX1_mergeTuples_4 (by rw [hN]; decide) rfl ?_
  refine x_aload_n X 1 dX1_mergeTuples_5 rfl ?_
  refine xg_X1_45 X K ha0 dX1_mergeTuples_6 ?_
  refine x_iconst X (v := 1) dX1_mergeTuples_9 (by decide) ?_
  refine x_isub X dX1_mergeTuples_10 ?_
  refine x_istore_n X [(2, .int ((S.1 1 a0 6) - (1 : Int32))), (1, .int (S.1 1 a0 6)), (0, .ref (ad 1 a0))] dX1_mergeTuples_11 (by rw [hN]; decide) rfl ?_
  refine x_sub [2, 1, 0] rfl ?_
  obtain ⟨n1, h⟩ := h
  exact w_X1_mergeTuples_12 V ha0 n1 S (S.1 1 a0 6) ((S.1 1 a0 6) - (1 : Int32)) h
set_option maxHeartbeats 2000000 in
set_option maxRecDepth 20000 in
theorem m_X1_mergeTuples {l : Launch} {D : va_G} {cy : Nat → ClassId} {ad : Nat → Nat → Nat} (hi : xInj (shC cy) ad) {a0 : Nat} {S : xS} {Q : Int32 → xS → Prop} (ha0 : a0 < 12) (h : wp_X1_mergeTuples a0 S Q) : xMet l D (xTys cy) (shC cy) ad yX1_mergeTuples cX1_mergeTuples 4 (some .int) (xRm 6 146) [.ref (ad 1 a0)] S (xQi Q) := xMet_env hi (by decide +kernel) rfl (Nat.le_of_ble_eq_true rfl) (fun g hl V => w_X1_mergeTuples V ha0 h)
set_option maxHeartbeats 2000000 in
set_option maxRecDepth 20000 in
theorem w_J6_bitCount_0f7a4 {g : xG} {D : va_G} {cy : Nat → ClassId} {ad : Nat → Nat → Nat} {a0 : Int32} {S : xS} {Q : Int32 → xS → Prop} (V : xEnv g D (xTys cy) (shC cy) ad RJ6 cJ6_bitCount_0f7a4 (some .int) 0 0 1 (xQi Q)) (h : wp_J6_bitCount_0f7a4 a0 S Q) : Wx g (xW D (shC cy) ad S) 0 [(0, .int a0)] [] := by
  obtain ⟨X, K, hi, hA, hR, E, hN⟩ := V
  have V := xEnv_mk X K hi hA hR E hN
  unfold wp_J6_bitCount_0f7a4 at h
  refine x_iload_n X 0 dJ6_bitCount_0f7a4_0 rfl ?_
  refine x_iload_n X 0 dJ6_bitCount_0f7a4_1 rfl ?_
  refine x_iconst X (v := 1) dJ6_bitCount_0f7a4_2 (by decide) ?_
  refine x_iushr X dJ6_bitCount_0f7a4_3 ?_
  refine x_ldc_w X (v := 1431655765) t3_7 dJ6_bitCount_0f7a4_4 ?_
  refine x_iand X dJ6_bitCount_0f7a4_7 ?_
  refine x_isub X dJ6_bitCount_0f7a4_8 ?_
  refine x_istore_n X [(0, .int (a0 - (((Int32.toUInt32 a0 >>> (Int32.toUInt32 (1 : Int32) &&& Int32.toUInt32 31)).toInt32) &&& (1431655765 : Int32))))] dJ6_bitCount_0f7a4_9 (by rw [hN]; decide) rfl ?_
  refine x_iload_n X 0 dJ6_bitCount_0f7a4_10 rfl ?_
  refine x_ldc_w X (v := 858993459) t3_8 dJ6_bitCount_0f7a4_11 ?_
  refine x_iand X dJ6_bitCount_0f7a4_14 ?_
  refine x_iload_n X 0 dJ6_bitCount_0f7a4_15 rfl ?_
  refine x_iconst X (v := 2) dJ6_bitCount_0f7a4_16 (by decide) ?_
  refine x_iushr X dJ6_bitCount_0f7a4_17 ?_
  refine x_ldc_w X (v := 858993459) t3_8 dJ6_bitCount_0f7a4_18 ?_
  refine x_iand X dJ6_bitCount_0f7a4_21 ?_
  refine x_iadd X dJ6_bitCount_0f7a4_22 ?_
  refine x_istore_n X [(0, .int (((a0 - (((Int32.toUInt32 a0 >>> (Int32.toUInt32 (1 : Int32) &&& Int32.toUInt32 31)).toInt32) &&& (1431655765 : Int32))) &&& (858993459 : Int32)) + (((Int32.toUInt32 (a0 - (((Int32.toUInt32 a0 >>> (Int32.toUInt32 (1 : Int32) &&& Int32.toUInt32 31)).toInt32) &&& (1431655765 : Int32))) >>> (Int32.toUInt32 (2 : Int32) &&& Int32.toUInt32 31)).toInt32) &&& (858993459 : Int32))))] dJ6_bitCount_0f7a4_23 (by rw [hN]; decide) rfl ?_
  refine x_iload_n X 0 dJ6_bitCount_0f7a4_24 rfl ?_
  refine x_iload_n X 0 dJ6_bitCount_0f7a4_25 rfl ?_
  refine x_iconst X (v := 4) dJ6_bitCount_0f7a4_26 (by decide) ?_
  refine x_iushr X dJ6_bitCount_0f7a4_27 ?_
  refine x_iadd X dJ6_bitCount_0f7a4_28 ?_
  refine x_ldc_w X (v := 252645135) t3_9 dJ6_bitCount_0f7a4_29 ?_
  refine x_iand X dJ6_bitCount_0f7a4_32 ?_
  refine x_istore_n X [(0, .int (((((a0 - (((Int32.toUInt32 a0 >>> (Int32.toUInt32 (1 : Int32) &&& Int32.toUInt32 31)).toInt32) &&& (1431655765 : Int32))) &&& (858993459 : Int32)) + (((Int32.toUInt32 (a0 - (((Int32.toUInt32 a0 >>> (Int32.toUInt32 (1 : Int32) &&& Int32.toUInt32 31)).toInt32) &&& (1431655765 : Int32))) >>> (Int32.toUInt32 (2 : Int32) &&& Int32.toUInt32 31)).toInt32) &&& (858993459 : Int32))) + ((Int32.toUInt32 (((a0 - (((Int32.toUInt32 a0 >>> (Int32.toUInt32 (1 : Int32) &&& Int32.toUInt32 31)).toInt32) &&& (1431655765 : Int32))) &&& (858993459 : Int32)) + (((Int32.toUInt32 (a0 - (((Int32.toUInt32 a0 >>> (Int32.toUInt32 (1 : Int32) &&& Int32.toUInt32 31)).toInt32) &&& (1431655765 : Int32))) >>> (Int32.toUInt32 (2 : Int32) &&& Int32.toUInt32 31)).toInt32) &&& (858993459 : Int32))) >>> (Int32.toUInt32 (4 : Int32) &&& Int32.toUInt32 31)).toInt32)) &&& (252645135 : Int32)))] dJ6_bitCount_0f7a4_33 (by rw [hN]; decide) rfl ?_
  refine x_iload_n X 0 dJ6_bitCount_0f7a4_34 rfl ?_
  refine x_iload_n X 0 dJ6_bitCount_0f7a4_35 rfl ?_
  refine x_bipush X (v := 8) dJ6_bitCount_0f7a4_36 (by decide) ?_
  refine x_iushr X dJ6_bitCount_0f7a4_38 ?_
  refine x_iadd X dJ6_bitCount_0f7a4_39 ?_
  refine x_istore_n X [(0, .int ((((((a0 - (((Int32.toUInt32 a0 >>> (Int32.toUInt32 (1 : Int32) &&& Int32.toUInt32 31)).toInt32) &&& (1431655765 : Int32))) &&& (858993459 : Int32)) + (((Int32.toUInt32 (a0 - (((Int32.toUInt32 a0 >>> (Int32.toUInt32 (1 : Int32) &&& Int32.toUInt32 31)).toInt32) &&& (1431655765 : Int32))) >>> (Int32.toUInt32 (2 : Int32) &&& Int32.toUInt32 31)).toInt32) &&& (858993459 : Int32))) + ((Int32.toUInt32 (((a0 - (((Int32.toUInt32 a0 >>> (Int32.toUInt32 (1 : Int32) &&& Int32.toUInt32 31)).toInt32) &&& (1431655765 : Int32))) &&& (858993459 : Int32)) + (((Int32.toUInt32 (a0 - (((Int32.toUInt32 a0 >>> (Int32.toUInt32 (1 : Int32) &&& Int32.toUInt32 31)).toInt32) &&& (1431655765 : Int32))) >>> (Int32.toUInt32 (2 : Int32) &&& Int32.toUInt32 31)).toInt32) &&& (858993459 : Int32))) >>> (Int32.toUInt32 (4 : Int32) &&& Int32.toUInt32 31)).toInt32)) &&& (252645135 : Int32)) + ((Int32.toUInt32 (((((a0 - (((Int32.toUInt32 a0 >>> (Int32.toUInt32 (1 : Int32) &&& Int32.toUInt32 31)).toInt32) &&& (1431655765 : Int32))) &&& (858993459 : Int32)) + (((Int32.toUInt32 (a0 - (((Int32.toUInt32 a0 >>> (Int32.toUInt32 (1 : Int32) &&& Int32.toUInt32 31)).toInt32) &&& (1431655765 : Int32))) >>> (Int32.toUInt32 (2 : Int32) &&& Int32.toUInt32 31)).toInt32) &&& (858993459 : Int32))) + ((Int32.toUInt32 (((a0 - (((Int32.toUInt32 a0 >>> (Int32.toUInt32 (1 : Int32) &&& Int32.toUInt32 31)).toInt32) &&& (1431655765 : Int32))) &&& (858993459 : Int32)) + (((Int32.toUInt32 (a0 - (((Int32.toUInt32 a0 >>> (Int32.toUInt32 (1 : Int32) &&& Int32.toUInt32 31)).toInt32) &&& (1431655765 : Int32))) >>> (Int32.toUInt32 (2 : Int32) &&& Int32.toUInt32 31)).toInt32) &&& (858993459 : Int32))) >>> (Int32.toUInt32 (4 : Int32) &&& Int32.toUInt32 31)).toInt32)) &&& (252645135 : Int32)) >>> (Int32.toUInt32 (8 : Int32) &&& Int32.toUInt32 31)).toInt32)))] dJ6_bitCount_0f7a4_40 (by rw [hN]; decide) rfl ?_
  refine x_iload_n X 0 dJ6_bitCount_0f7a4_41 rfl ?_
  refine x_iload_n X 0 dJ6_bitCount_0f7a4_42 rfl ?_
  refine x_bipush X (v := 16) dJ6_bitCount_0f7a4_43 (by decide) ?_
  refine x_iushr X dJ6_bitCount_0f7a4_45 ?_
  refine x_iadd X dJ6_bitCount_0f7a4_46 ?_
  refine x_istore_n X [(0, .int (((((((a0 - (((Int32.toUInt32 a0 >>> (Int32.toUInt32 (1 : Int32) &&& Int32.toUInt32 31)).toInt32) &&& (1431655765 : Int32))) &&& (858993459 : Int32)) + (((Int32.toUInt32 (a0 - (((Int32.toUInt32 a0 >>> (Int32.toUInt32 (1 : Int32) &&& Int32.toUInt32 31)).toInt32) &&& (1431655765 : Int32))) >>> (Int32.toUInt32 (2 : Int32) &&& Int32.toUInt32 31)).toInt32) &&& (858993459 : Int32))) + ((Int32.toUInt32 (((a0 - (((Int32.toUInt32 a0 >>> (Int32.toUInt32 (1 : Int32) &&& Int32.toUInt32 31)).toInt32) &&& (1431655765 : Int32))) &&& (858993459 : Int32)) + (((Int32.toUInt32 (a0 - (((Int32.toUInt32 a0 >>> (Int32.toUInt32 (1 : Int32) &&& Int32.toUInt32 31)).toInt32) &&& (1431655765 : Int32))) >>> (Int32.toUInt32 (2 : Int32) &&& Int32.toUInt32 31)).toInt32) &&& (858993459 : Int32))) >>> (Int32.toUInt32 (4 : Int32) &&& Int32.toUInt32 31)).toInt32)) &&& (252645135 : Int32)) + ((Int32.toUInt32 (((((a0 - (((Int32.toUInt32 a0 >>> (Int32.toUInt32 (1 : Int32) &&& Int32.toUInt32 31)).toInt32) &&& (1431655765 : Int32))) &&& (858993459 : Int32)) + (((Int32.toUInt32 (a0 - (((Int32.toUInt32 a0 >>> (Int32.toUInt32 (1 : Int32) &&& Int32.toUInt32 31)).toInt32) &&& (1431655765 : Int32))) >>> (Int32.toUInt32 (2 : Int32) &&& Int32.toUInt32 31)).toInt32) &&& (858993459 : Int32))) + ((Int32.toUInt32 (((a0 - (((Int32.toUInt32 a0 >>> (Int32.toUInt32 (1 : Int32) &&& Int32.toUInt32 31)).toInt32) &&& (1431655765 : Int32))) &&& (858993459 : Int32)) + (((Int32.toUInt32 (a0 - (((Int32.toUInt32 a0 >>> (Int32.toUInt32 (1 : Int32) &&& Int32.toUInt32 31)).toInt32) &&& (1431655765 : Int32))) >>> (Int32.toUInt32 (2 : Int32) &&& Int32.toUInt32 31)).toInt32) &&& (858993459 : Int32))) >>> (Int32.toUInt32 (4 : Int32) &&& Int32.toUInt32 31)).toInt32)) &&& (252645135 : Int32)) >>> (Int32.toUInt32 (8 : Int32) &&& Int32.toUInt32 31)).toInt32)) + ((Int32.toUInt32 ((((((a0 - (((Int32.toUInt32 a0 >>> (Int32.toUInt32 (1 : Int32) &&& Int32.toUInt32 31)).toInt32) &&& (1431655765 : Int32))) &&& (858993459 : Int32)) + (((Int32.toUInt32 (a0 - (((Int32.toUInt32 a0 >>> (Int32.toUInt32 (1 : Int32) &&& Int32.toUInt32 31)).toInt32) &&& (1431655765 : Int32))) >>> (Int32.toUInt32 (2 : Int32) &&& Int32.toUInt32 31)).toInt32) &&& (858993459 : Int32))) + ((Int32.toUInt32 (((a0 - (((Int32.toUInt32 a0 >>> (Int32.toUInt32 (1 : Int32) &&& Int32.toUInt32 31)).toInt32) &&& (1431655765 : Int32))) &&& (858993459 : Int32)) + (((Int32.toUInt32 (a0 - (((Int32.toUInt32 a0 >>> (Int32.toUInt32 (1 : Int32) &&& Int32.toUInt32 31)).toInt32) &&& (1431655765 : Int32))) >>> (Int32.toUInt32 (2 : Int32) &&& Int32.toUInt32 31)).toInt32) &&& (858993459 : Int32))) >>> (Int32.toUInt32 (4 : Int32) &&& Int32.toUInt32 31)).toInt32)) &&& (252645135 : Int32)) + ((Int32.toUInt32 (((((a0 - (((Int32.toUInt32 a0 >>> (Int32.toUInt32 (1 : Int32) &&& Int32.toUInt32 31)).toInt32) &&& (1431655765 : Int32))) &&& (858993459 : Int32)) + (((Int32.toUInt32 (a0 - (((Int32.toUInt32 a0 >>> (Int32.toUInt32 (1 : Int32) &&& Int32.toUInt32 31)).toInt32) &&& (1431655765 : Int32))) >>> (Int32.toUInt32 (2 : Int32) &&& Int32.toUInt32 31)).toInt32) &&& (858993459 : Int32))) + ((Int32.toUInt32 (((a0 - (((Int32.toUInt32 a0 >>> (Int32.toUInt32 (1 : Int32) &&& Int32.toUInt32 31)).toInt32) &&& (1431655765 : Int32))) &&& (858993459 : Int32)) + (((Int32.toUInt32 (a0 - (((Int32.toUInt32 a0 >>> (Int32.toUInt32 (1 : Int32) &&& Int32.toUInt32 31)).toInt32) &&& (1431655765 : Int32))) >>> (Int32.toUInt32 (2 : Int32) &&& Int32.toUInt32 31)).toInt32) &&& (858993459 : Int32))) >>> (Int32.toUInt32 (4 : Int32) &&& Int32.toUInt32 31)).toInt32)) &&& (252645135 : Int32)) >>> (Int32.toUInt32 (8 : Int32) &&& Int32.toUInt32 31)).toInt32)) >>> (Int32.toUInt32 (16 : Int32) &&& Int32.toUInt32 31)).toInt32)))] dJ6_bitCount_0f7a4_47 (by rw [hN]; decide) rfl ?_
  refine x_iload_n X 0 dJ6_bitCount_0f7a4_48 rfl ?_
  refine x_bipush X (v := 63) dJ6_bitCount_0f7a4_49 (by decide) ?_
  refine x_iand X dJ6_bitCount_0f7a4_51 ?_
  exact x_iret X E dJ6_bitCount_0f7a4_52 ⟨_, rfl, h⟩
set_option maxHeartbeats 2000000 in
set_option maxRecDepth 20000 in
theorem m_J6_bitCount_0f7a4 {l : Launch} {D : va_G} {cy : Nat → ClassId} {ad : Nat → Nat → Nat} (hi : xInj (shC cy) ad) {a0 : Int32} {S : xS} {Q : Int32 → xS → Prop} (h : wp_J6_bitCount_0f7a4 a0 S Q) : xMet l D (xTys cy) (shC cy) ad yJ6_bitCount_0f7a4 cJ6_bitCount_0f7a4 1 (some .int) (xRm 0 0) [.int a0] S (xQi Q) := xMet_env hi (by decide +kernel) rfl (Nat.le_of_ble_eq_true rfl) (fun g hl V => w_J6_bitCount_0f7a4 V h)
set_option maxHeartbeats 2000000 in
set_option maxRecDepth 20000 in
theorem w_X5_dropTouch {g : xG} {D : va_G} {cy : Nat → ClassId} {ad : Nat → Nat → Nat} {a0 : Nat} {a1 : Int32} {S : xS} {Q : xS → Prop} (V : xEnv g D (xTys cy) (shC cy) ad RX5 cX5_dropTouch none 0 0 2 (xQv Q)) (ha0 : a0 < 60) (h : wp_X5_dropTouch a0 a1 S Q) : Wx g (xW D (shC cy) ad S) 0 [(0, .ref (ad 5 a0)), (1, .int a1)] [] := by
  obtain ⟨X, K, hi, hA, hR, E, hN⟩ := V
  have V := xEnv_mk X K hi hA hR E hN
  unfold wp_X5_dropTouch at h
  refine x_aload_n X 0 dX5_dropTouch_0 rfl ?_
  refine x_dup X dX5_dropTouch_1 rfl ?_
  refine xg_X5_27 X K ha0 dX5_dropTouch_2 ?_
  refine x_iconst X (v := 1) dX5_dropTouch_5 (by decide) ?_
  refine x_iload_n X 1 dX5_dropTouch_6 rfl ?_
  refine x_ishl X dX5_dropTouch_7 ?_
  refine x_iconst X (v := -1) dX5_dropTouch_8 (by decide) ?_
  refine x_ixor X dX5_dropTouch_9 ?_
  refine x_iand X dX5_dropTouch_10 ?_
  refine xp_X5_27 X K hi hA ha0 dX5_dropTouch_11 ?_
  exact x_vret X E dX5_dropTouch_14 ⟨rfl, h⟩
set_option maxHeartbeats 2000000 in
set_option maxRecDepth 20000 in
theorem m_X5_dropTouch {l : Launch} {D : va_G} {cy : Nat → ClassId} {ad : Nat → Nat → Nat} (hi : xInj (shC cy) ad) {a0 : Nat} {a1 : Int32} {S : xS} {Q : xS → Prop} (ha0 : a0 < 60) (h : wp_X5_dropTouch a0 a1 S Q) : xMet l D (xTys cy) (shC cy) ad yX5_dropTouch cX5_dropTouch 2 none (xRm 0 0) [.ref (ad 5 a0), .int a1] S (xQv Q) := xMet_env hi (by decide +kernel) rfl (Nat.le_of_ble_eq_true rfl) (fun g hl V => w_X5_dropTouch V ha0 h)
set_option maxHeartbeats 2000000 in
set_option maxRecDepth 20000 in
theorem w_X1_keepsWrittenDeltas_42 {g : xG} {D : va_G} {cy : Nat → ClassId} {ad : Nat → Nat → Nat} {Q : Int32 → xS → Prop} (V : xEnv g D (xTys cy) (shC cy) ad RX1 cX1_keepsWrittenDeltas (some .boolean) 4 103 3 (xQi Q)) (S : xS) (h : wp_X1_keepsWrittenDeltas_42 Q S) : Wx g (xW D (shC cy) ad S) 42 [] [] := by
  obtain ⟨X, K, hi, hA, hR, E, hN⟩ := V
  have V := xEnv_mk X K hi hA hR E hN
  unfold wp_X1_keepsWrittenDeltas_42 at h
  refine x_iconst X (v := 0) dX1_keepsWrittenDeltas_42 (by decide) ?_
  exact x_zret X E dX1_keepsWrittenDeltas_43 h.1 ⟨_, rfl, h.2⟩
set_option maxHeartbeats 2000000 in
set_option maxRecDepth 20000 in
theorem w_X1_keepsWrittenDeltas_2_b {g : xG} {D : va_G} {cy : Nat → ClassId} {ad : Nat → Nat → Nat} {a0 : Nat} {a1 : Nat} {K2 : xS → Int32 → Prop} {Q : Int32 → xS → Prop} (V : xEnv g D (xTys cy) (shC cy) ad RX1 cX1_keepsWrittenDeltas (some .boolean) 4 103 3 (xQi Q)) (ha0 : a0 < 12) (ha1 : a1 < 60) (hK2 : ∀ (S : xS) (v2 : Int32), K2 S v2 → Wx g (xW D (shC cy) ad S) 2 [(0, .ref (ad 1 a0)), (1, .ref (ad 5 a1)), (2, .int v2)] []) (S : xS) (v2 : Int32) (h : wp_X1_keepsWrittenDeltas_2_b a0 a1 K2 Q S v2) : Wx g (xW D (shC cy) ad S) 2 [(0, .ref (ad 1 a0)), (1, .ref (ad 5 a1)), (2, .int v2)] [] := by
  obtain ⟨X, K, hi, hA, hR, E, hN⟩ := V
  have V := xEnv_mk X K hi hA hR E hN
  unfold wp_X1_keepsWrittenDeltas_2_b at h
  refine x_iload_n X 2 dX1_keepsWrittenDeltas_2 rfl ?_
  refine x_aload_n X 0 dX1_keepsWrittenDeltas_3 rfl ?_
  refine xg_X1_35 X K ha0 dX1_keepsWrittenDeltas_4 ?_
  refine x_icmp_gt X 50 dX1_keepsWrittenDeltas_7 (by decide) h (fun h => ?_) (fun h => ?_)
  · refine x_iconst X (v := 1) dX1_keepsWrittenDeltas_50 (by decide) ?_
    exact x_zret X E dX1_keepsWrittenDeltas_51 h.1 ⟨_, rfl, h.2⟩
  · refine x_aload_n X 0 dX1_keepsWrittenDeltas_10 rfl ?_
    refine x_aload_n X 1 dX1_keepsWrittenDeltas_11 rfl ?_
    refine x_iload_n X 2 dX1_keepsWrittenDeltas_12 rfl ?_
    refine x_iconst X (v := 0) dX1_keepsWrittenDeltas_13 (by decide) ?_
    refine x_calli hA (x_runV (n := 3) (sh := shC cy) X K hR (fun _ q => q) (m_X1_deltaAt hi ha0 ha1 h) (kC_1 cy ha0) rfl rfl t2_157 t2_158 t2_159 t1_4 t2_160 ⟨by decide, by decide, by decide +kernel⟩ rfl (by decide) (by decide) rfl (Nat.le_of_ble_eq_true rfl) dX1_keepsWrittenDeltas_14) (fun r2 S1 h => ?_)
    refine x_aload_n X 1 dX1_keepsWrittenDeltas_17 rfl ?_
    refine xg_X1_78 X K ha1 dX1_keepsWrittenDeltas_18 ?_
    refine x_iload_n X 2 dX1_keepsWrittenDeltas_21 rfl ?_
    obtain ⟨hb3, h⟩ := h
    refine xa_C27 X K ha1 hb3 dX1_keepsWrittenDeltas_22 ?_
    refine x_icmp_ne X 42 dX1_keepsWrittenDeltas_23 (by decide) h (fun h => ?_) (fun h => ?_)
    · refine x_aload_n X 0 dX1_keepsWrittenDeltas_26 rfl ?_
      refine x_aload_n X 1 dX1_keepsWrittenDeltas_27 rfl ?_
      refine x_iload_n X 2 dX1_keepsWrittenDeltas_28 rfl ?_
      refine x_iconst X (v := 1) dX1_keepsWrittenDeltas_29 (by decide) ?_
      refine x_calli hA (x_runV (n := 3) (sh := shC cy) X K hR (fun _ q => q) (m_X1_deltaAt hi ha0 ha1 h) (kC_1 cy ha0) rfl rfl t2_157 t2_158 t2_159 t1_4 t2_160 ⟨by decide, by decide, by decide +kernel⟩ rfl (by decide) (by decide) rfl (Nat.le_of_ble_eq_true rfl) dX1_keepsWrittenDeltas_30) (fun r5 S4 h => ?_)
      refine x_aload_n X 1 dX1_keepsWrittenDeltas_33 rfl ?_
      refine xg_X1_77 X K ha1 dX1_keepsWrittenDeltas_34 ?_
      refine x_iload_n X 2 dX1_keepsWrittenDeltas_37 rfl ?_
      obtain ⟨hb6, h⟩ := h
      refine xa_C28 X K ha1 hb6 dX1_keepsWrittenDeltas_38 ?_
      refine x_icmp_eq X 44 dX1_keepsWrittenDeltas_39 (by decide) h (fun h => ?_) (fun h => ?_)
      · refine x_iinc X 2 [(2, .int (v2 + (1 : Int32))), (0, .ref (ad 1 a0)), (1, .ref (ad 5 a1))] dX1_keepsWrittenDeltas_44 rfl rfl (by rw [hN]; decide) rfl ?_
        refine x_goto X 2 dX1_keepsWrittenDeltas_47 (by decide) ?_
        refine x_sub [1, 2, 0] rfl ?_
        exact hK2 S4 (v2 + (1 : Int32)) h
      · refine x_sub [] rfl ?_
        exact w_X1_keepsWrittenDeltas_42 V S4 h
    · refine x_sub [] rfl ?_
      exact w_X1_keepsWrittenDeltas_42 V S1 h
set_option maxHeartbeats 2000000 in
set_option maxRecDepth 20000 in
theorem w_X1_keepsWrittenDeltas_2 {g : xG} {D : va_G} {cy : Nat → ClassId} {ad : Nat → Nat → Nat} {a0 : Nat} {a1 : Nat} {Q : Int32 → xS → Prop} (V : xEnv g D (xTys cy) (shC cy) ad RX1 cX1_keepsWrittenDeltas (some .boolean) 4 103 3 (xQi Q)) (ha0 : a0 < 12) (ha1 : a1 < 60) (n : Nat) : ∀ (S : xS) (v2 : Int32), wp_X1_keepsWrittenDeltas_2 a0 a1 Q n S v2 → Wx g (xW D (shC cy) ad S) 2 [(0, .ref (ad 1 a0)), (1, .ref (ad 5 a1)), (2, .int v2)] [] := by
  induction n with
  | zero => intro S v2 h; exact h.elim
  | succ n ih => intro S v2 h; exact w_X1_keepsWrittenDeltas_2_b V ha0 ha1 (fun S v2 h => ih S v2 h) S v2 h
set_option maxHeartbeats 2000000 in
set_option maxRecDepth 20000 in
theorem w_X1_keepsWrittenDeltas {g : xG} {D : va_G} {cy : Nat → ClassId} {ad : Nat → Nat → Nat} {a0 : Nat} {a1 : Nat} {S : xS} {Q : Int32 → xS → Prop} (V : xEnv g D (xTys cy) (shC cy) ad RX1 cX1_keepsWrittenDeltas (some .boolean) 4 103 3 (xQi Q)) (ha0 : a0 < 12) (ha1 : a1 < 60) (h : wp_X1_keepsWrittenDeltas a0 a1 S Q) : Wx g (xW D (shC cy) ad S) 0 [(0, .ref (ad 1 a0)), (1, .ref (ad 5 a1))] [] := by
  obtain ⟨X, K, hi, hA, hR, E, hN⟩ := V
  have V := xEnv_mk X K hi hA hR E hN
  unfold wp_X1_keepsWrittenDeltas at h
  refine x_iconst X (v := 0) dX1_keepsWrittenDeltas_0 (by decide) ?_
  refine x_istore_n X [(2, .int (0 : Int32)), (0, .ref (ad 1 a0)), (1, .ref (ad 5 a1))] dX1_keepsWrittenDeltas_1 (by rw [hN]; decide) rfl ?_
  refine x_sub [1, 2, 0] rfl ?_
  obtain ⟨n1, h⟩ := h
  exact w_X1_keepsWrittenDeltas_2 V ha0 ha1 n1 S (0 : Int32) h
set_option maxHeartbeats 2000000 in
set_option maxRecDepth 20000 in
theorem m_X1_keepsWrittenDeltas {l : Launch} {D : va_G} {cy : Nat → ClassId} {ad : Nat → Nat → Nat} (hi : xInj (shC cy) ad) {a0 : Nat} {a1 : Nat} {S : xS} {Q : Int32 → xS → Prop} (ha0 : a0 < 12) (ha1 : a1 < 60) (h : wp_X1_keepsWrittenDeltas a0 a1 S Q) : xMet l D (xTys cy) (shC cy) ad yX1_keepsWrittenDeltas cX1_keepsWrittenDeltas 3 (some .boolean) (xRm 4 103) [.ref (ad 1 a0), .ref (ad 5 a1)] S (xQi Q) := xMet_env hi (by decide +kernel) rfl (Nat.le_of_ble_eq_true rfl) (fun g hl V => w_X1_keepsWrittenDeltas V ha0 ha1 h)
set_option maxHeartbeats 2000000 in
set_option maxRecDepth 20000 in
theorem w_X5_putDelta {g : xG} {D : va_G} {cy : Nat → ClassId} {ad : Nat → Nat → Nat} {a0 : Nat} {a1 : Int32} {a2 : Int32} {a3 : Int32} {S : xS} {Q : xS → Prop} (V : xEnv g D (xTys cy) (shC cy) ad RX5 cX5_putDelta none 0 0 4 (xQv Q)) (ha0 : a0 < 60) (h : wp_X5_putDelta a0 a1 a2 a3 S Q) : Wx g (xW D (shC cy) ad S) 0 [(0, .ref (ad 5 a0)), (1, .int a1), (2, .int a2), (3, .int a3)] [] := by
  obtain ⟨X, K, hi, hA, hR, E, hN⟩ := V
  have V := xEnv_mk X K hi hA hR E hN
  unfold wp_X5_putDelta at h
  refine x_aload_n X 0 dX5_putDelta_0 rfl ?_
  refine x_dup X dX5_putDelta_1 rfl ?_
  refine xg_X5_27 X K ha0 dX5_putDelta_2 ?_
  refine x_iconst X (v := 1) dX5_putDelta_5 (by decide) ?_
  refine x_iload_n X 1 dX5_putDelta_6 rfl ?_
  refine x_ishl X dX5_putDelta_7 ?_
  refine x_ior X dX5_putDelta_8 ?_
  refine xp_X5_27 X K hi hA ha0 dX5_putDelta_9 ?_
  refine x_aload_n X 0 dX5_putDelta_12 rfl ?_
  refine xg_X5_21 X K ha0 dX5_putDelta_13 ?_
  refine x_iload_n X 1 dX5_putDelta_16 rfl ?_
  refine x_iload_n X 2 dX5_putDelta_17 rfl ?_
  obtain ⟨hb1, h⟩ := h
  refine xs_C27 X K hi hA ha0 hb1 dX5_putDelta_18 ?_
  refine x_aload_n X 0 dX5_putDelta_19 rfl ?_
  refine xg_X5_24 X K ha0 dX5_putDelta_20 ?_
  refine x_iload_n X 1 dX5_putDelta_23 rfl ?_
  refine x_iload_n X 3 dX5_putDelta_24 rfl ?_
  obtain ⟨hb2, h⟩ := h
  refine xs_C28 X K hi hA ha0 hb2 dX5_putDelta_25 ?_
  exact x_vret X E dX5_putDelta_26 ⟨rfl, h⟩
set_option maxHeartbeats 2000000 in
set_option maxRecDepth 20000 in
theorem m_X5_putDelta {l : Launch} {D : va_G} {cy : Nat → ClassId} {ad : Nat → Nat → Nat} (hi : xInj (shC cy) ad) {a0 : Nat} {a1 : Int32} {a2 : Int32} {a3 : Int32} {S : xS} {Q : xS → Prop} (ha0 : a0 < 60) (h : wp_X5_putDelta a0 a1 a2 a3 S Q) : xMet l D (xTys cy) (shC cy) ad yX5_putDelta cX5_putDelta 4 none (xRm 0 0) [.ref (ad 5 a0), .int a1, .int a2, .int a3] S (xQv Q) := xMet_env hi (by decide +kernel) rfl (Nat.le_of_ble_eq_true rfl) (fun g hl V => w_X5_putDelta V ha0 h)
set_option maxHeartbeats 2000000 in
set_option maxRecDepth 20000 in
theorem w_X1_releaseIfNeedless_30 {g : xG} {D : va_G} {cy : Nat → ClassId} {ad : Nat → Nat → Nat} {Q : xS → Prop} (V : xEnv g D (xTys cy) (shC cy) ad RX1 cX1_releaseIfNeedless none 5 125 3 (xQv Q)) (S : xS) (h : wp_X1_releaseIfNeedless_30 Q S) : Wx g (xW D (shC cy) ad S) 30 [] [] := by
  obtain ⟨X, K, hi, hA, hR, E, hN⟩ := V
  have V := xEnv_mk X K hi hA hR E hN
  unfold wp_X1_releaseIfNeedless_30 at h
  exact x_vret X E dX1_releaseIfNeedless_30 ⟨rfl, h⟩
set_option maxHeartbeats 2000000 in
set_option maxRecDepth 20000 in
theorem w_X1_releaseIfNeedless {g : xG} {D : va_G} {cy : Nat → ClassId} {ad : Nat → Nat → Nat} {a0 : Nat} {a1 : Nat} {a2 : Int32} {S : xS} {Q : xS → Prop} (V : xEnv g D (xTys cy) (shC cy) ad RX1 cX1_releaseIfNeedless none 5 125 3 (xQv Q)) (ha0 : a0 < 12) (ha1 : a1 < 60) (h : wp_X1_releaseIfNeedless a0 a1 a2 S Q) : Wx g (xW D (shC cy) ad S) 0 [(0, .ref (ad 1 a0)), (1, .ref (ad 5 a1)), (2, .int a2)] [] := by
  obtain ⟨X, K, hi, hA, hR, E, hN⟩ := V
  have V := xEnv_mk X K hi hA hR E hN
  unfold wp_X1_releaseIfNeedless at h
  refine x_aload_n X 1 dX1_releaseIfNeedless_0 rfl ?_
  refine x_iload_n X 2 dX1_releaseIfNeedless_1 rfl ?_
  refine x_callv hA (x_runV (n := 1) (sh := shC cy) X K hR (fun _ q => q) (m_X5_dropTouch hi ha1 h) (kC_5 cy ha1) rfl rfl t3_146 t2_232 t2_233 t1_5 t2_234 ⟨by decide, by decide, by decide +kernel⟩ rfl (by decide) (by decide) rfl (Nat.le_of_ble_eq_true rfl) dX1_releaseIfNeedless_2) (fun S1 h => ?_)
  refine x_aload_n X 0 dX1_releaseIfNeedless_5 rfl ?_
  refine x_aload_n X 1 dX1_releaseIfNeedless_6 rfl ?_
  refine x_calli hA (x_runV (n := 1) (sh := shC cy) X K hR (fun _ q => q) (m_X1_keepsWrittenDeltas hi ha0 ha1 h) (kC_1 cy ha0) rfl rfl t3_147 t3_149 tp_19 t1_4 t3_150 ⟨by decide, by decide, by decide +kernel⟩ rfl (by decide) (by decide) rfl (Nat.le_of_ble_eq_true rfl) dX1_releaseIfNeedless_7) (fun r4 S3 h => ?_)
  refine x_if_ne X 30 dX1_releaseIfNeedless_10 (by decide) h (fun h => ?_) (fun h => ?_)
  · refine x_aload_n X 1 dX1_releaseIfNeedless_13 rfl ?_
    refine x_iload_n X 2 dX1_releaseIfNeedless_14 rfl ?_
    refine x_aload_n X 1 dX1_releaseIfNeedless_15 rfl ?_
    refine xg_X1_78 X K ha1 dX1_releaseIfNeedless_16 ?_
    refine x_iload_n X 2 dX1_releaseIfNeedless_19 rfl ?_
    obtain ⟨hb5, h⟩ := h
    refine xa_C27 X K ha1 hb5 dX1_releaseIfNeedless_20 ?_
    refine x_aload_n X 1 dX1_releaseIfNeedless_21 rfl ?_
    refine xg_X1_77 X K ha1 dX1_releaseIfNeedless_22 ?_
    refine x_iload_n X 2 dX1_releaseIfNeedless_25 rfl ?_
    obtain ⟨hb6, h⟩ := h
    refine xa_C28 X K ha1 hb6 dX1_releaseIfNeedless_26 ?_
    refine x_callv hA (x_runV (n := 3) (sh := shC cy) X K hR (fun _ q => q) (m_X5_putDelta hi ha1 h) (kC_5 cy ha1) rfl rfl t3_151 t2_224 t2_225 t1_5 t2_226 ⟨by decide, by decide, by decide +kernel⟩ rfl (by decide) (by decide) rfl (Nat.le_of_ble_eq_true rfl) dX1_releaseIfNeedless_27) (fun S7 h => ?_)
    refine x_sub [] rfl ?_
    exact w_X1_releaseIfNeedless_30 V S7 h
  · refine x_sub [] rfl ?_
    exact w_X1_releaseIfNeedless_30 V S3 h
set_option maxHeartbeats 2000000 in
set_option maxRecDepth 20000 in
theorem m_X1_releaseIfNeedless {l : Launch} {D : va_G} {cy : Nat → ClassId} {ad : Nat → Nat → Nat} (hi : xInj (shC cy) ad) {a0 : Nat} {a1 : Nat} {a2 : Int32} {S : xS} {Q : xS → Prop} (ha0 : a0 < 12) (ha1 : a1 < 60) (h : wp_X1_releaseIfNeedless a0 a1 a2 S Q) : xMet l D (xTys cy) (shC cy) ad yX1_releaseIfNeedless cX1_releaseIfNeedless 3 none (xRm 5 125) [.ref (ad 1 a0), .ref (ad 5 a1), .int a2] S (xQv Q) := xMet_env hi (by decide +kernel) rfl (Nat.le_of_ble_eq_true rfl) (fun g hl V => w_X1_releaseIfNeedless V ha0 ha1 h)
set_option maxHeartbeats 2000000 in
set_option maxRecDepth 20000 in
theorem w_X1_compactTuple_37 {g : xG} {D : va_G} {cy : Nat → ClassId} {ad : Nat → Nat → Nat} {a0 : Nat} {a1 : Nat} {K15 : xS → Int32 → Int32 → Prop} {Q : Int32 → xS → Prop} (V : xEnv g D (xTys cy) (shC cy) ad RX1 cX1_compactTuple (some .int) 6 147 4 (xQi Q)) (ha0 : a0 < 12) (ha1 : a1 < 60) (hK15 : ∀ (S : xS) (v2 : Int32) (v3 : Int32), K15 S v2 v3 → Wx g (xW D (shC cy) ad S) 15 [(0, .ref (ad 1 a0)), (1, .ref (ad 5 a1)), (2, .int v2), (3, .int v3)] []) (S : xS) (v2 : Int32) (v3 : Int32) (h : wp_X1_compactTuple_37 a0 a1 K15 Q S v2 v3) : Wx g (xW D (shC cy) ad S) 37 [(0, .ref (ad 1 a0)), (1, .ref (ad 5 a1)), (2, .int v2), (3, .int v3)] [] := by
  obtain ⟨X, K, hi, hA, hR, E, hN⟩ := V
  have V := xEnv_mk X K hi hA hR E hN
  unfold wp_X1_compactTuple_37 at h
  refine x_iinc X 3 [(3, .int (v3 + (1 : Int32))), (0, .ref (ad 1 a0)), (1, .ref (ad 5 a1)), (2, .int v2)] dX1_compactTuple_37 rfl rfl (by rw [hN]; decide) rfl ?_
  refine x_goto X 15 dX1_compactTuple_40 (by decide) ?_
  refine x_sub [1, 2, 3, 0] rfl ?_
  exact hK15 S v2 (v3 + (1 : Int32)) h
set_option maxHeartbeats 2000000 in
set_option maxRecDepth 20000 in
theorem w_X1_compactTuple_15_b {g : xG} {D : va_G} {cy : Nat → ClassId} {ad : Nat → Nat → Nat} {a0 : Nat} {a1 : Nat} {K15 : xS → Int32 → Int32 → Prop} {Q : Int32 → xS → Prop} (V : xEnv g D (xTys cy) (shC cy) ad RX1 cX1_compactTuple (some .int) 6 147 4 (xQi Q)) (ha0 : a0 < 12) (ha1 : a1 < 60) (hK15 : ∀ (S : xS) (v2 : Int32) (v3 : Int32), K15 S v2 v3 → Wx g (xW D (shC cy) ad S) 15 [(0, .ref (ad 1 a0)), (1, .ref (ad 5 a1)), (2, .int v2), (3, .int v3)] []) (S : xS) (v2 : Int32) (v3 : Int32) (h : wp_X1_compactTuple_15_b a0 a1 K15 Q S v2 v3) : Wx g (xW D (shC cy) ad S) 15 [(0, .ref (ad 1 a0)), (1, .ref (ad 5 a1)), (2, .int v2), (3, .int v3)] [] := by
  obtain ⟨X, K, hi, hA, hR, E, hN⟩ := V
  have V := xEnv_mk X K hi hA hR E hN
  unfold wp_X1_compactTuple_15_b at h
  refine x_iload_n X 3 dX1_compactTuple_15 rfl ?_
  refine x_aload_n X 0 dX1_compactTuple_16 rfl ?_
  refine xg_X1_35 X K ha0 dX1_compactTuple_17 ?_
  refine x_icmp_gt X 43 dX1_compactTuple_20 (by decide) h (fun h => ?_) (fun h => ?_)
  · refine x_iload_n X 2 dX1_compactTuple_43 rfl ?_
    refine x_aload_n X 1 dX1_compactTuple_44 rfl ?_
    refine xg_X1_98 X K ha1 dX1_compactTuple_45 ?_
    refine x_calli hA (x_runS (n := 1) X K hR (fun _ q => q) (m_J6_bitCount_0f7a4 hi  h) t3_141 t3_5 t1_10 t3_6 ⟨by decide, by decide, by decide +kernel⟩ rfl (by decide) (by decide) rfl (Nat.le_of_ble_eq_true rfl) dX1_compactTuple_48) (fun r2 S1 h => ?_)
    refine x_isub X dX1_compactTuple_51 ?_
    exact x_iret X E dX1_compactTuple_52 ⟨_, rfl, h⟩
  · refine x_aload_n X 1 dX1_compactTuple_23 rfl ?_
    refine x_iload_n X 3 dX1_compactTuple_24 rfl ?_
    refine x_calli hA (x_runV (n := 1) (sh := shC cy) X K hR (fun _ q => q) (m_X5_touches hi ha1 h) (kC_5 cy ha1) rfl rfl t2_161 t2_162 t2_163 t1_5 t2_164 ⟨by decide, by decide, by decide +kernel⟩ rfl (by decide) (by decide) rfl (Nat.le_of_ble_eq_true rfl) dX1_compactTuple_25) (fun r4 S3 h => ?_)
    refine x_if_eq X 37 dX1_compactTuple_28 (by decide) h (fun h => ?_) (fun h => ?_)
    · refine x_sub [0, 1, 2, 3] rfl ?_
      exact w_X1_compactTuple_37 V ha0 ha1 hK15 S3 v2 v3 h
    · refine x_aload_n X 0 dX1_compactTuple_31 rfl ?_
      refine x_aload_n X 1 dX1_compactTuple_32 rfl ?_
      refine x_iload_n X 3 dX1_compactTuple_33 rfl ?_
      refine x_callv hA (x_runV (n := 2) (sh := shC cy) X K hR (fun _ q => q) (m_X1_releaseIfNeedless hi ha0 ha1 h) (kC_1 cy ha0) rfl rfl t3_142 t3_144 tp_18 t1_4 t3_145 ⟨by decide, by decide, by decide +kernel⟩ rfl (by decide) (by decide) rfl (Nat.le_of_ble_eq_true rfl) dX1_compactTuple_34) (fun S5 h => ?_)
      refine x_sub [0, 1, 2, 3] rfl ?_
      exact w_X1_compactTuple_37 V ha0 ha1 hK15 S5 v2 v3 h
set_option maxHeartbeats 2000000 in
set_option maxRecDepth 20000 in
theorem w_X1_compactTuple_15 {g : xG} {D : va_G} {cy : Nat → ClassId} {ad : Nat → Nat → Nat} {a0 : Nat} {a1 : Nat} {Q : Int32 → xS → Prop} (V : xEnv g D (xTys cy) (shC cy) ad RX1 cX1_compactTuple (some .int) 6 147 4 (xQi Q)) (ha0 : a0 < 12) (ha1 : a1 < 60) (n : Nat) : ∀ (S : xS) (v2 : Int32) (v3 : Int32), wp_X1_compactTuple_15 a0 a1 Q n S v2 v3 → Wx g (xW D (shC cy) ad S) 15 [(0, .ref (ad 1 a0)), (1, .ref (ad 5 a1)), (2, .int v2), (3, .int v3)] [] := by
  induction n with
  | zero => intro S v2 v3 h; exact h.elim
  | succ n ih => intro S v2 v3 h; exact w_X1_compactTuple_15_b V ha0 ha1 (fun S v2 v3 h => ih S v2 v3 h) S v2 v3 h
set_option maxHeartbeats 2000000 in
set_option maxRecDepth 20000 in
theorem w_X1_compactTuple {g : xG} {D : va_G} {cy : Nat → ClassId} {ad : Nat → Nat → Nat} {a0 : Nat} {a1 : Nat} {S : xS} {Q : Int32 → xS → Prop} (V : xEnv g D (xTys cy) (shC cy) ad RX1 cX1_compactTuple (some .int) 6 147 4 (xQi Q)) (ha0 : a0 < 12) (ha1 : a1 < 60) (h : wp_X1_compactTuple a0 a1 S Q) : Wx g (xW D (shC cy) ad S) 0 [(0, .ref (ad 1 a0)), (1, .ref (ad 5 a1))] [] := by
  obtain ⟨X, K, hi, hA, hR, E, hN⟩ := V
  have V := xEnv_mk X K hi hA hR E hN
  unfold wp_X1_compactTuple at h
  refine x_aload_n X 1 dX1_compactTuple_0 rfl ?_
  refine xg_X1_98 X K ha1 dX1_compactTuple_1 ?_
  refine x_calli hA (x_runS (n := 1) X K hR (fun _ q => q) (m_J6_bitCount_0f7a4 hi  h) t3_141 t3_5 t1_10 t3_6 ⟨by decide, by decide, by decide +kernel⟩ rfl (by decide) (by decide) rfl (Nat.le_of_ble_eq_true rfl) dX1_compactTuple_4) (fun r2 S1 h => ?_)
  refine x_istore_n X [(2, .int r2), (0, .ref (ad 1 a0)), (1, .ref (ad 5 a1))] dX1_compactTuple_7 (by rw [hN]; decide) rfl ?_
  refine x_aload_n X 1 dX1_compactTuple_8 rfl ?_
  refine x_aload_n X 2 dX1_compactTuple_9 rfl ?_
  refine x_callv hA (x_runV (n := 1) (sh := shC cy) X K hR (fun _ q => q) (m_X1_writeInferred hi ha0 ha1 h) (kC_1 cy ha0) rfl rfl t3_120 t3_122 tp_16 t1_4 t3_123 ⟨by decide, by decide, by decide +kernel⟩ rfl (by decide) (by decide) rfl (Nat.le_of_ble_eq_true rfl) dX1_compactTuple_10) (fun S3 h => ?_)
  refine x_iconst X (v := 0) dX1_compactTuple_13 (by decide) ?_
  refine x_istore_n X [(3, .int (0 : Int32)), (2, .int r2), (0, .ref (ad 1 a0)), (1, .ref (ad 5 a1))] dX1_compactTuple_14 (by rw [hN]; decide) rfl ?_
  refine x_sub [2, 3, 1, 0] rfl ?_
  obtain ⟨n5, h⟩ := h
  exact w_X1_compactTuple_15 V ha0 ha1 n5 S3 r2 (0 : Int32) h
set_option maxHeartbeats 2000000 in
set_option maxRecDepth 20000 in
theorem m_X1_compactTuple {l : Launch} {D : va_G} {cy : Nat → ClassId} {ad : Nat → Nat → Nat} (hi : xInj (shC cy) ad) {a0 : Nat} {a1 : Nat} {S : xS} {Q : Int32 → xS → Prop} (ha0 : a0 < 12) (ha1 : a1 < 60) (h : wp_X1_compactTuple a0 a1 S Q) : xMet l D (xTys cy) (shC cy) ad yX1_compactTuple cX1_compactTuple 4 (some .int) (xRm 6 147) [.ref (ad 1 a0), .ref (ad 5 a1)] S (xQi Q) := xMet_env hi (by decide +kernel) rfl (Nat.le_of_ble_eq_true rfl) (fun g hl V => w_X1_compactTuple V ha0 ha1 h)
set_option maxHeartbeats 2000000 in
set_option maxRecDepth 20000 in
theorem w_X1_hasTupleToFold_2_b {g : xG} {D : va_G} {cy : Nat → ClassId} {ad : Nat → Nat → Nat} {a0 : Nat} {a1 : Int32} {K2 : xS → Int32 → Prop} {Q : Int32 → xS → Prop} (V : xEnv g D (xTys cy) (shC cy) ad RX1 cX1_hasTupleToFold (some .boolean) 2 43 3 (xQi Q)) (ha0 : a0 < 12) (hK2 : ∀ (S : xS) (v2 : Int32), K2 S v2 → Wx g (xW D (shC cy) ad S) 2 [(0, .ref (ad 1 a0)), (1, .int a1), (2, .int v2)] []) (S : xS) (v2 : Int32) (h : wp_X1_hasTupleToFold_2_b a0 a1 K2 Q S v2) : Wx g (xW D (shC cy) ad S) 2 [(0, .ref (ad 1 a0)), (1, .int a1), (2, .int v2)] [] := by
  obtain ⟨X, K, hi, hA, hR, E, hN⟩ := V
  have V := xEnv_mk X K hi hA hR E hN
  unfold wp_X1_hasTupleToFold_2_b at h
  refine x_iload_n X 2 dX1_hasTupleToFold_2 rfl ?_
  refine x_aload_n X 0 dX1_hasTupleToFold_3 rfl ?_
  refine xg_X1_45 X K ha0 dX1_hasTupleToFold_4 ?_
  refine x_icmp_ge X 31 dX1_hasTupleToFold_7 (by decide) h (fun h => ?_) (fun h => ?_)
  · refine x_iconst X (v := 0) dX1_hasTupleToFold_31 (by decide) ?_
    exact x_zret X E dX1_hasTupleToFold_32 h.1 ⟨_, rfl, h.2⟩
  · refine x_aload_n X 0 dX1_hasTupleToFold_10 rfl ?_
    refine xg_X1_26 X K ha0 dX1_hasTupleToFold_11 ?_
    refine x_iload_n X 2 dX1_hasTupleToFold_14 rfl ?_
    obtain ⟨⟨hb1, hv2⟩, h⟩ := h
    refine xa_C16 X K ha0 hb1 dX1_hasTupleToFold_15 ?_
    refine x_iload_n X 1 dX1_hasTupleToFold_16 rfl ?_
    refine x_calli hA (x_runV (n := 1) (sh := shC cy) X K hR (fun _ q => q) (m_X5_dependsOnlyOn hi hv2 h) (kC_5 cy hv2) rfl rfl t2_140 t2_141 t2_142 t1_5 t2_143 ⟨by decide, by decide, by decide +kernel⟩ rfl (by decide) (by decide) rfl (Nat.le_of_ble_eq_true rfl) dX1_hasTupleToFold_17) (fun r4 S3 h => ?_)
    refine x_if_eq X 25 dX1_hasTupleToFold_20 (by decide) h (fun h => ?_) (fun h => ?_)
    · refine x_iinc X 2 [(2, .int (v2 + (1 : Int32))), (0, .ref (ad 1 a0)), (1, .int a1)] dX1_hasTupleToFold_25 rfl rfl (by rw [hN]; decide) rfl ?_
      refine x_goto X 2 dX1_hasTupleToFold_28 (by decide) ?_
      refine x_sub [1, 2, 0] rfl ?_
      exact hK2 S3 (v2 + (1 : Int32)) h
    · refine x_iconst X (v := 1) dX1_hasTupleToFold_23 (by decide) ?_
      exact x_zret X E dX1_hasTupleToFold_24 h.1 ⟨_, rfl, h.2⟩
set_option maxHeartbeats 2000000 in
set_option maxRecDepth 20000 in
theorem w_X1_hasTupleToFold_2 {g : xG} {D : va_G} {cy : Nat → ClassId} {ad : Nat → Nat → Nat} {a0 : Nat} {a1 : Int32} {Q : Int32 → xS → Prop} (V : xEnv g D (xTys cy) (shC cy) ad RX1 cX1_hasTupleToFold (some .boolean) 2 43 3 (xQi Q)) (ha0 : a0 < 12) (n : Nat) : ∀ (S : xS) (v2 : Int32), wp_X1_hasTupleToFold_2 a0 a1 Q n S v2 → Wx g (xW D (shC cy) ad S) 2 [(0, .ref (ad 1 a0)), (1, .int a1), (2, .int v2)] [] := by
  induction n with
  | zero => intro S v2 h; exact h.elim
  | succ n ih => intro S v2 h; exact w_X1_hasTupleToFold_2_b V ha0 (fun S v2 h => ih S v2 h) S v2 h
set_option maxHeartbeats 2000000 in
set_option maxRecDepth 20000 in
theorem w_X1_hasTupleToFold {g : xG} {D : va_G} {cy : Nat → ClassId} {ad : Nat → Nat → Nat} {a0 : Nat} {a1 : Int32} {S : xS} {Q : Int32 → xS → Prop} (V : xEnv g D (xTys cy) (shC cy) ad RX1 cX1_hasTupleToFold (some .boolean) 2 43 3 (xQi Q)) (ha0 : a0 < 12) (h : wp_X1_hasTupleToFold a0 a1 S Q) : Wx g (xW D (shC cy) ad S) 0 [(0, .ref (ad 1 a0)), (1, .int a1)] [] := by
  obtain ⟨X, K, hi, hA, hR, E, hN⟩ := V
  have V := xEnv_mk X K hi hA hR E hN
  unfold wp_X1_hasTupleToFold at h
  refine x_iconst X (v := 0) dX1_hasTupleToFold_0 (by decide) ?_
  refine x_istore_n X [(2, .int (0 : Int32)), (0, .ref (ad 1 a0)), (1, .int a1)] dX1_hasTupleToFold_1 (by rw [hN]; decide) rfl ?_
  refine x_sub [1, 2, 0] rfl ?_
  obtain ⟨n1, h⟩ := h
  exact w_X1_hasTupleToFold_2 V ha0 n1 S (0 : Int32) h
set_option maxHeartbeats 2000000 in
set_option maxRecDepth 20000 in
theorem m_X1_hasTupleToFold {l : Launch} {D : va_G} {cy : Nat → ClassId} {ad : Nat → Nat → Nat} (hi : xInj (shC cy) ad) {a0 : Nat} {a1 : Int32} {S : xS} {Q : Int32 → xS → Prop} (ha0 : a0 < 12) (h : wp_X1_hasTupleToFold a0 a1 S Q) : xMet l D (xTys cy) (shC cy) ad yX1_hasTupleToFold cX1_hasTupleToFold 3 (some .boolean) (xRm 2 43) [.ref (ad 1 a0), .int a1] S (xQi Q) := xMet_env hi (by decide +kernel) rfl (Nat.le_of_ble_eq_true rfl) (fun g hl V => w_X1_hasTupleToFold V ha0 h)
set_option maxHeartbeats 2000000 in
set_option maxRecDepth 20000 in
theorem w_X1_foldTuples_127 {g : xG} {D : va_G} {cy : Nat → ClassId} {ad : Nat → Nat → Nat} {a0 : Nat} {a1 : Int32} {K102 : xS → Int32 → Int32 → Prop} {Q : Int32 → xS → Prop} (V : xEnv g D (xTys cy) (shC cy) ad RX1 cX1_foldTuples (some .int) 6 146 5 (xQi Q)) (ha0 : a0 < 12) (hK102 : ∀ (S : xS) (v3 : Int32) (v4 : Int32), K102 S v3 v4 → Wx g (xW D (shC cy) ad S) 102 [(0, .ref (ad 1 a0)), (1, .int a1), (3, .int v3), (4, .int v4)] []) (S : xS) (v3 : Int32) (v4 : Int32) (h : wp_X1_foldTuples_127 a0 a1 K102 Q S v3 v4) : Wx g (xW D (shC cy) ad S) 127 [(0, .ref (ad 1 a0)), (1, .int a1), (3, .int v3), (4, .int v4)] [] := by
  obtain ⟨X, K, hi, hA, hR, E, hN⟩ := V
  have V := xEnv_mk X K hi hA hR E hN
  unfold wp_X1_foldTuples_127 at h
  refine x_iinc X 3 [(4, .int (v4 + (-1 : Int32))), (0, .ref (ad 1 a0)), (1, .int a1), (3, .int v3)] dX1_foldTuples_127 rfl rfl (by rw [hN]; decide) rfl ?_
  refine x_goto X 102 dX1_foldTuples_130 (by decide) ?_
  refine x_sub [1, 2, 3, 0] rfl ?_
  exact hK102 S v3 (v4 + (-1 : Int32)) h
set_option maxHeartbeats 2000000 in
set_option maxRecDepth 20000 in
theorem w_X1_foldTuples_102_b {g : xG} {D : va_G} {cy : Nat → ClassId} {ad : Nat → Nat → Nat} {a0 : Nat} {a1 : Int32} {K102 : xS → Int32 → Int32 → Prop} {Q : Int32 → xS → Prop} (V : xEnv g D (xTys cy) (shC cy) ad RX1 cX1_foldTuples (some .int) 6 146 5 (xQi Q)) (ha0 : a0 < 12) (hK102 : ∀ (S : xS) (v3 : Int32) (v4 : Int32), K102 S v3 v4 → Wx g (xW D (shC cy) ad S) 102 [(0, .ref (ad 1 a0)), (1, .int a1), (3, .int v3), (4, .int v4)] []) (S : xS) (v3 : Int32) (v4 : Int32) (h : wp_X1_foldTuples_102_b a0 a1 K102 Q S v3 v4) : Wx g (xW D (shC cy) ad S) 102 [(0, .ref (ad 1 a0)), (1, .int a1), (3, .int v3), (4, .int v4)] [] := by
  obtain ⟨X, K, hi, hA, hR, E, hN⟩ := V
  have V := xEnv_mk X K hi hA hR E hN
  unfold wp_X1_foldTuples_102_b at h
  refine x_iload X 3 dX1_foldTuples_102 rfl ?_
  refine x_if_lt X 133 dX1_foldTuples_104 (by decide) h (fun h => ?_) (fun h => ?_)
  · refine x_iload_n X 2 dX1_foldTuples_133 rfl ?_
    refine x_aload_n X 0 dX1_foldTuples_134 rfl ?_
    refine xg_X1_45 X K ha0 dX1_foldTuples_135 ?_
    refine x_isub X dX1_foldTuples_138 ?_
    exact x_iret X E dX1_foldTuples_139 ⟨_, rfl, h⟩
  · refine x_aload_n X 0 dX1_foldTuples_107 rfl ?_
    refine xg_X1_26 X K ha0 dX1_foldTuples_108 ?_
    refine x_iload X 3 dX1_foldTuples_111 rfl ?_
    obtain ⟨⟨hb1, hv2⟩, h⟩ := h
    refine xa_C16 X K ha0 hb1 dX1_foldTuples_113 ?_
    refine x_iload_n X 1 dX1_foldTuples_114 rfl ?_
    refine x_calli hA (x_runV (n := 1) (sh := shC cy) X K hR (fun _ q => q) (m_X5_dependsOnlyOn hi hv2 h) (kC_5 cy hv2) rfl rfl t2_140 t2_141 t2_142 t1_5 t2_143 ⟨by decide, by decide, by decide +kernel⟩ rfl (by decide) (by decide) rfl (Nat.le_of_ble_eq_true rfl) dX1_foldTuples_115) (fun r4 S3 h => ?_)
    refine x_if_eq X 127 dX1_foldTuples_118 (by decide) h (fun h => ?_) (fun h => ?_)
    · refine x_sub [0, 1, 2, 3] rfl ?_
      exact w_X1_foldTuples_127 V ha0 hK102 S3 v3 v4 h
    · refine x_aload_n X 0 dX1_foldTuples_121 rfl ?_
      refine x_iload X 3 dX1_foldTuples_122 rfl ?_
      refine x_callv hA (x_runV (n := 1) (sh := shC cy) X K hR (fun _ q => q) (m_X1_removeTuple hi ha0 h) (kC_1 cy ha0) rfl rfl t3_129 t3_131 tp_17 t1_4 t3_132 ⟨by decide, by decide, by decide +kernel⟩ rfl (by decide) (by decide) rfl (Nat.le_of_ble_eq_true rfl) dX1_foldTuples_124) (fun S5 h => ?_)
      refine x_sub [0, 1, 2, 3] rfl ?_
      exact w_X1_foldTuples_127 V ha0 hK102 S5 v3 v4 h
set_option maxHeartbeats 2000000 in
set_option maxRecDepth 20000 in
theorem w_X1_foldTuples_102 {g : xG} {D : va_G} {cy : Nat → ClassId} {ad : Nat → Nat → Nat} {a0 : Nat} {a1 : Int32} {Q : Int32 → xS → Prop} (V : xEnv g D (xTys cy) (shC cy) ad RX1 cX1_foldTuples (some .int) 6 146 5 (xQi Q)) (ha0 : a0 < 12) (n : Nat) : ∀ (S : xS) (v3 : Int32) (v4 : Int32), wp_X1_foldTuples_102 a0 a1 Q n S v3 v4 → Wx g (xW D (shC cy) ad S) 102 [(0, .ref (ad 1 a0)), (1, .int a1), (3, .int v3), (4, .int v4)] [] := by
  induction n with
  | zero => intro S v3 v4 h; exact h.elim
  | succ n ih => intro S v3 v4 h; exact w_X1_foldTuples_102_b V ha0 (fun S v3 v4 h => ih S v3 v4 h) S v3 v4 h
set_option maxHeartbeats 2000000 in
set_option maxRecDepth 20000 in
theorem w_X1_foldTuples_45_b {g : xG} {D : va_G} {cy : Nat → ClassId} {ad : Nat → Nat → Nat} {a0 : Nat} {a1 : Int32} {a2 : Nat} {K45 : xS → Int32 → Prop} {Q : Int32 → xS → Prop} (V : xEnv g D (xTys cy) (shC cy) ad RX1 cX1_foldTuples (some .int) 6 146 5 (xQi Q)) (ha0 : a0 < 12) (ha2 : a2 < 3) (hK45 : ∀ (S : xS) (v3 : Int32), K45 S v3 → Wx g (xW D (shC cy) ad S) 45 [(0, .ref (ad 1 a0)), (1, .int a1), (2, .ref (ad 30 a2)), (3, .int v3)] []) (S : xS) (v3 : Int32) (h : wp_X1_foldTuples_45_b a0 a1 a2 K45 Q S v3) : Wx g (xW D (shC cy) ad S) 45 [(0, .ref (ad 1 a0)), (1, .int a1), (2, .ref (ad 30 a2)), (3, .int v3)] [] := by
  obtain ⟨X, K, hi, hA, hR, E, hN⟩ := V
  have V := xEnv_mk X K hi hA hR E hN
  unfold wp_X1_foldTuples_45_b at h
  refine x_iload_n X 3 dX1_foldTuples_45 rfl ?_
  refine x_aload_n X 0 dX1_foldTuples_46 rfl ?_
  refine xg_X1_35 X K ha0 dX1_foldTuples_47 ?_
  refine x_icmp_gt X 89 dX1_foldTuples_50 (by decide) h (fun h => ?_) (fun h => ?_)
  · refine x_aload_n X 0 dX1_foldTuples_89 rfl ?_
    refine xg_X1_45 X K ha0 dX1_foldTuples_90 ?_
    refine x_istore_n X [(3, .int (S.1 1 a0 6)), (0, .ref (ad 1 a0)), (1, .int a1), (2, .ref (ad 30 a2))] dX1_foldTuples_93 (by rw [hN]; decide) rfl ?_
    refine x_aload_n X 1 dX1_foldTuples_94 rfl ?_
    refine xg_X1_45 X K ha0 dX1_foldTuples_95 ?_
    refine x_iconst X (v := 1) dX1_foldTuples_98 (by decide) ?_
    refine x_isub X dX1_foldTuples_99 ?_
    refine x_istore X [(4, .int ((S.1 1 a0 6) - (1 : Int32))), (3, .int (S.1 1 a0 6)), (0, .ref (ad 1 a0)), (1, .int a1), (2, .ref (ad 30 a2))] dX1_foldTuples_100 (by rw [hN]; decide) rfl ?_
    refine x_sub [2, 3, 1, 0] rfl ?_
    obtain ⟨n1, h⟩ := h
    exact w_X1_foldTuples_102 V ha0 n1 S (S.1 1 a0 6) ((S.1 1 a0 6) - (1 : Int32)) h
  · refine x_aload_n X 0 dX1_foldTuples_53 rfl ?_
    refine xg_X1_9 X K ha0 dX1_foldTuples_54 ?_
    refine x_iload_n X 3 dX1_foldTuples_57 rfl ?_
    refine x_aload_n X 0 dX1_foldTuples_58 rfl ?_
    refine x_iload_n X 3 dX1_foldTuples_59 rfl ?_
    refine x_iconst X (v := 0) dX1_foldTuples_60 (by decide) ?_
    refine x_aload_n X 2 dX1_foldTuples_61 rfl ?_
    refine x_iload_n X 1 dX1_foldTuples_62 rfl ?_
    refine x_calll hA (x_runV (n := 4) (sh := shC cy) X K hR (fun _ q => q) (m_X1_placeAt hi ha0 ha2 h) (kC_1 cy ha0) rfl rfl t3_168 t2_137 t2_138 t1_4 t2_139 ⟨by decide, by decide, by decide +kernel⟩ rfl (by decide) (by decide) rfl (Nat.le_of_ble_eq_true rfl) dX1_foldTuples_63) (fun r3 S2 h => ?_)
    refine x_l2i X dX1_foldTuples_66 ?_
    obtain ⟨hb4, h⟩ := h
    refine xs_C12 X K hi hA ha0 hb4 dX1_foldTuples_67 ?_
    refine x_aload_n X 0 dX1_foldTuples_68 rfl ?_
    refine xg_X1_15 X K ha0 dX1_foldTuples_69 ?_
    refine x_iload_n X 3 dX1_foldTuples_72 rfl ?_
    refine x_aload_n X 0 dX1_foldTuples_73 rfl ?_
    refine x_iload_n X 3 dX1_foldTuples_74 rfl ?_
    refine x_iconst X (v := 1) dX1_foldTuples_75 (by decide) ?_
    refine x_aload_n X 2 dX1_foldTuples_76 rfl ?_
    refine x_iload_n X 1 dX1_foldTuples_77 rfl ?_
    refine x_calll hA (x_runV (n := 4) (sh := shC cy) X K hR (fun _ q => q) (m_X1_placeAt hi ha0 ha2 h) (kC_1 cy ha0) rfl rfl t3_168 t2_137 t2_138 t1_4 t2_139 ⟨by decide, by decide, by decide +kernel⟩ rfl (by decide) (by decide) rfl (Nat.le_of_ble_eq_true rfl) dX1_foldTuples_78) (fun r6 S5 h => ?_)
    refine x_l2i X dX1_foldTuples_81 ?_
    obtain ⟨hb7, h⟩ := h
    refine xs_C13 X K hi hA ha0 hb7 dX1_foldTuples_82 ?_
    refine x_iinc X 3 [(3, .int (v3 + (1 : Int32))), (0, .ref (ad 1 a0)), (1, .int a1), (2, .ref (ad 30 a2))] dX1_foldTuples_83 rfl rfl (by rw [hN]; decide) rfl ?_
    refine x_goto X 45 dX1_foldTuples_86 (by decide) ?_
    refine x_sub [1, 2, 3, 0] rfl ?_
    exact hK45 (xI S5 13 a0 v3.toNatClampNeg (Int64.toInt32 r6)) (v3 + (1 : Int32)) h
set_option maxHeartbeats 2000000 in
set_option maxRecDepth 20000 in
theorem w_X1_foldTuples_45 {g : xG} {D : va_G} {cy : Nat → ClassId} {ad : Nat → Nat → Nat} {a0 : Nat} {a1 : Int32} {a2 : Nat} {Q : Int32 → xS → Prop} (V : xEnv g D (xTys cy) (shC cy) ad RX1 cX1_foldTuples (some .int) 6 146 5 (xQi Q)) (ha0 : a0 < 12) (ha2 : a2 < 3) (n : Nat) : ∀ (S : xS) (v3 : Int32), wp_X1_foldTuples_45 a0 a1 a2 Q n S v3 → Wx g (xW D (shC cy) ad S) 45 [(0, .ref (ad 1 a0)), (1, .int a1), (2, .ref (ad 30 a2)), (3, .int v3)] [] := by
  induction n with
  | zero => intro S v3 h; exact h.elim
  | succ n ih => intro S v3 h; exact w_X1_foldTuples_45_b V ha0 ha2 (fun S v3 h => ih S v3 h) S v3 h
set_option maxHeartbeats 2000000 in
set_option maxRecDepth 20000 in
theorem w_X1_foldTuples_43 {g : xG} {D : va_G} {cy : Nat → ClassId} {ad : Nat → Nat → Nat} {a0 : Nat} {a1 : Int32} {a2 : Nat} {Q : Int32 → xS → Prop} (V : xEnv g D (xTys cy) (shC cy) ad RX1 cX1_foldTuples (some .int) 6 146 5 (xQi Q)) (ha0 : a0 < 12) (ha2 : a2 < 3) (S : xS) (h : wp_X1_foldTuples_43 a0 a1 a2 Q S) : Wx g (xW D (shC cy) ad S) 43 [(0, .ref (ad 1 a0)), (1, .int a1), (2, .ref (ad 30 a2))] [] := by
  obtain ⟨X, K, hi, hA, hR, E, hN⟩ := V
  have V := xEnv_mk X K hi hA hR E hN
  unfold wp_X1_foldTuples_43 at h
  refine x_iconst X (v := 0) dX1_foldTuples_43 (by decide) ?_
  refine x_istore_n X [(3, .int (0 : Int32)), (0, .ref (ad 1 a0)), (1, .int a1), (2, .ref (ad 30 a2))] dX1_foldTuples_44 (by rw [hN]; decide) rfl ?_
  refine x_sub [1, 2, 3, 0] rfl ?_
  obtain ⟨n1, h⟩ := h
  exact w_X1_foldTuples_45 V ha0 ha2 n1 S (0 : Int32) h
set_option maxHeartbeats 2000000 in
set_option maxRecDepth 20000 in
theorem w_X1_foldTuples_12_b {g : xG} {D : va_G} {cy : Nat → ClassId} {ad : Nat → Nat → Nat} {a0 : Nat} {a1 : Int32} {a2 : Nat} {K12 : xS → Int32 → Prop} {Q : Int32 → xS → Prop} (V : xEnv g D (xTys cy) (shC cy) ad RX1 cX1_foldTuples (some .int) 6 146 5 (xQi Q)) (ha0 : a0 < 12) (ha2 : a2 < 3) (hK12 : ∀ (S : xS) (v3 : Int32), K12 S v3 → Wx g (xW D (shC cy) ad S) 12 [(0, .ref (ad 1 a0)), (1, .int a1), (2, .ref (ad 30 a2)), (3, .int v3)] []) (S : xS) (v3 : Int32) (h : wp_X1_foldTuples_12_b a0 a1 a2 K12 Q S v3) : Wx g (xW D (shC cy) ad S) 12 [(0, .ref (ad 1 a0)), (1, .int a1), (2, .ref (ad 30 a2)), (3, .int v3)] [] := by
  obtain ⟨X, K, hi, hA, hR, E, hN⟩ := V
  have V := xEnv_mk X K hi hA hR E hN
  unfold wp_X1_foldTuples_12_b at h
  refine x_aload_n X 0 dX1_foldTuples_12 rfl ?_
  refine xg_X1_31 X K ha0 dX1_foldTuples_13 ?_
  refine x_if_ne X 43 dX1_foldTuples_16 (by decide) h (fun h => ?_) (fun h => ?_)
  · refine x_iload_n X 3 dX1_foldTuples_19 rfl ?_
    refine x_aload_n X 0 dX1_foldTuples_20 rfl ?_
    refine xg_X1_45 X K ha0 dX1_foldTuples_21 ?_
    refine x_icmp_ge X 43 dX1_foldTuples_24 (by decide) h (fun h => ?_) (fun h => ?_)
    · refine x_sub [0, 1, 2] rfl ?_
      exact w_X1_foldTuples_43 V ha0 ha2 S h
    · refine x_aload_n X 0 dX1_foldTuples_27 rfl ?_
      refine x_aload_n X 0 dX1_foldTuples_28 rfl ?_
      refine xg_X1_26 X K ha0 dX1_foldTuples_29 ?_
      refine x_iload_n X 3 dX1_foldTuples_32 rfl ?_
      obtain ⟨⟨hb1, hv2⟩, h⟩ := h
      refine xa_C16 X K ha0 hb1 dX1_foldTuples_33 ?_
      refine x_callv hA (x_runV (n := 1) (sh := shC cy) X K hR (fun _ q => q) (m_X1_touchAll hi ha0 hv2 h) (kC_1 cy ha0) rfl rfl t3_116 t3_118 tp_15 t1_4 t3_119 ⟨by decide, by decide, by decide +kernel⟩ rfl (by decide) (by decide) rfl (Nat.le_of_ble_eq_true rfl) dX1_foldTuples_34) (fun S3 h => ?_)
      refine x_iinc X 3 [(3, .int (v3 + (1 : Int32))), (0, .ref (ad 1 a0)), (1, .int a1), (2, .ref (ad 30 a2))] dX1_foldTuples_37 rfl rfl (by rw [hN]; decide) rfl ?_
      refine x_goto X 12 dX1_foldTuples_40 (by decide) ?_
      refine x_sub [1, 2, 3, 0] rfl ?_
      exact hK12 S3 (v3 + (1 : Int32)) h
  · refine x_sub [0, 1, 2] rfl ?_
    exact w_X1_foldTuples_43 V ha0 ha2 S h
set_option maxHeartbeats 2000000 in
set_option maxRecDepth 20000 in
theorem w_X1_foldTuples_12 {g : xG} {D : va_G} {cy : Nat → ClassId} {ad : Nat → Nat → Nat} {a0 : Nat} {a1 : Int32} {a2 : Nat} {Q : Int32 → xS → Prop} (V : xEnv g D (xTys cy) (shC cy) ad RX1 cX1_foldTuples (some .int) 6 146 5 (xQi Q)) (ha0 : a0 < 12) (ha2 : a2 < 3) (n : Nat) : ∀ (S : xS) (v3 : Int32), wp_X1_foldTuples_12 a0 a1 a2 Q n S v3 → Wx g (xW D (shC cy) ad S) 12 [(0, .ref (ad 1 a0)), (1, .int a1), (2, .ref (ad 30 a2)), (3, .int v3)] [] := by
  induction n with
  | zero => intro S v3 h; exact h.elim
  | succ n ih => intro S v3 h; exact w_X1_foldTuples_12_b V ha0 ha2 (fun S v3 h => ih S v3 h) S v3 h
set_option maxHeartbeats 2000000 in
set_option maxRecDepth 20000 in
theorem w_X1_foldTuples {g : xG} {D : va_G} {cy : Nat → ClassId} {ad : Nat → Nat → Nat} {a0 : Nat} {a1 : Int32} {a2 : Nat} {S : xS} {Q : Int32 → xS → Prop} (V : xEnv g D (xTys cy) (shC cy) ad RX1 cX1_foldTuples (some .int) 6 146 5 (xQi Q)) (ha0 : a0 < 12) (ha2 : a2 < 3) (h : wp_X1_foldTuples a0 a1 a2 S Q) : Wx g (xW D (shC cy) ad S) 0 [(0, .ref (ad 1 a0)), (1, .int a1), (2, .ref (ad 30 a2))] [] := by
  obtain ⟨X, K, hi, hA, hR, E, hN⟩ := V
  have V := xEnv_mk X K hi hA hR E hN
  unfold wp_X1_foldTuples at h
  refine x_aload_n X 0 dX1_foldTuples_0 rfl ?_
  refine x_iload_n X 1 dX1_foldTuples_1 rfl ?_
  refine x_calli hA (x_runV (n := 1) (sh := shC cy) X K hR (fun _ q => q) (m_X1_hasTupleToFold hi ha0 h) (kC_1 cy ha0) rfl rfl t3_164 t3_166 tp_21 t1_4 t3_167 ⟨by decide, by decide, by decide +kernel⟩ rfl (by decide) (by decide) rfl (Nat.le_of_ble_eq_true rfl) dX1_foldTuples_2) (fun r2 S1 h => ?_)
  refine x_if_ne X 10 dX1_foldTuples_5 (by decide) h (fun h => ?_) (fun h => ?_)
  · refine x_iconst X (v := 0) dX1_foldTuples_8 (by decide) ?_
    exact x_iret X E dX1_foldTuples_9 ⟨_, rfl, h⟩
  · refine x_iconst X (v := 0) dX1_foldTuples_10 (by decide) ?_
    refine x_istore_n X [(3, .int (0 : Int32)), (0, .ref (ad 1 a0)), (1, .int a1), (2, .ref (ad 30 a2))] dX1_foldTuples_11 (by rw [hN]; decide) rfl ?_
    refine x_sub [1, 2, 3, 0] rfl ?_
    obtain ⟨n3, h⟩ := h
    exact w_X1_foldTuples_12 V ha0 ha2 n3 S1 (0 : Int32) h
set_option maxHeartbeats 2000000 in
set_option maxRecDepth 20000 in
theorem m_X1_foldTuples {l : Launch} {D : va_G} {cy : Nat → ClassId} {ad : Nat → Nat → Nat} (hi : xInj (shC cy) ad) {a0 : Nat} {a1 : Int32} {a2 : Nat} {S : xS} {Q : Int32 → xS → Prop} (ha0 : a0 < 12) (ha2 : a2 < 3) (h : wp_X1_foldTuples a0 a1 a2 S Q) : xMet l D (xTys cy) (shC cy) ad yX1_foldTuples cX1_foldTuples 5 (some .int) (xRm 6 146) [.ref (ad 1 a0), .int a1, .ref (ad 30 a2)] S (xQi Q) := xMet_env hi (by decide +kernel) rfl (Nat.le_of_ble_eq_true rfl) (fun g hl V => w_X1_foldTuples V ha0 ha2 h)
set_option maxHeartbeats 2000000 in
set_option maxRecDepth 20000 in
theorem w_X1_movesNothing_30 {g : xG} {D : va_G} {cy : Nat → ClassId} {ad : Nat → Nat → Nat} {Q : Int32 → xS → Prop} (V : xEnv g D (xTys cy) (shC cy) ad RX1 cX1_movesNothing (some .boolean) 4 103 3 (xQi Q)) (S : xS) (h : wp_X1_movesNothing_30 Q S) : Wx g (xW D (shC cy) ad S) 30 [] [] := by
  obtain ⟨X, K, hi, hA, hR, E, hN⟩ := V
  have V := xEnv_mk X K hi hA hR E hN
  unfold wp_X1_movesNothing_30 at h
  refine x_iconst X (v := 0) dX1_movesNothing_30 (by decide) ?_
  exact x_zret X E dX1_movesNothing_31 h.1 ⟨_, rfl, h.2⟩
set_option maxHeartbeats 2000000 in
set_option maxRecDepth 20000 in
theorem w_X1_movesNothing_2_b {g : xG} {D : va_G} {cy : Nat → ClassId} {ad : Nat → Nat → Nat} {a0 : Nat} {a1 : Nat} {K2 : xS → Int32 → Prop} {Q : Int32 → xS → Prop} (V : xEnv g D (xTys cy) (shC cy) ad RX1 cX1_movesNothing (some .boolean) 4 103 3 (xQi Q)) (ha0 : a0 < 12) (ha1 : a1 < 60) (hK2 : ∀ (S : xS) (v2 : Int32), K2 S v2 → Wx g (xW D (shC cy) ad S) 2 [(0, .ref (ad 1 a0)), (1, .ref (ad 5 a1)), (2, .int v2)] []) (S : xS) (v2 : Int32) (h : wp_X1_movesNothing_2_b a0 a1 K2 Q S v2) : Wx g (xW D (shC cy) ad S) 2 [(0, .ref (ad 1 a0)), (1, .ref (ad 5 a1)), (2, .int v2)] [] := by
  obtain ⟨X, K, hi, hA, hR, E, hN⟩ := V
  have V := xEnv_mk X K hi hA hR E hN
  unfold wp_X1_movesNothing_2_b at h
  refine x_iload_n X 2 dX1_movesNothing_2 rfl ?_
  refine x_aload_n X 0 dX1_movesNothing_3 rfl ?_
  refine xg_X1_35 X K ha0 dX1_movesNothing_4 ?_
  refine x_icmp_gt X 38 dX1_movesNothing_7 (by decide) h (fun h => ?_) (fun h => ?_)
  · refine x_iconst X (v := 1) dX1_movesNothing_38 (by decide) ?_
    exact x_zret X E dX1_movesNothing_39 h.1 ⟨_, rfl, h.2⟩
  · refine x_aload_n X 0 dX1_movesNothing_10 rfl ?_
    refine x_aload_n X 1 dX1_movesNothing_11 rfl ?_
    refine x_iload_n X 2 dX1_movesNothing_12 rfl ?_
    refine x_iconst X (v := 0) dX1_movesNothing_13 (by decide) ?_
    refine x_calli hA (x_runV (n := 3) (sh := shC cy) X K hR (fun _ q => q) (m_X1_deltaAt hi ha0 ha1 h) (kC_1 cy ha0) rfl rfl t2_157 t2_158 t2_159 t1_4 t2_160 ⟨by decide, by decide, by decide +kernel⟩ rfl (by decide) (by decide) rfl (Nat.le_of_ble_eq_true rfl) dX1_movesNothing_14) (fun r2 S1 h => ?_)
    refine x_if_ne X 30 dX1_movesNothing_17 (by decide) h (fun h => ?_) (fun h => ?_)
    · refine x_aload_n X 0 dX1_movesNothing_20 rfl ?_
      refine x_aload_n X 1 dX1_movesNothing_21 rfl ?_
      refine x_iload_n X 2 dX1_movesNothing_22 rfl ?_
      refine x_iconst X (v := 1) dX1_movesNothing_23 (by decide) ?_
      refine x_calli hA (x_runV (n := 3) (sh := shC cy) X K hR (fun _ q => q) (m_X1_deltaAt hi ha0 ha1 h) (kC_1 cy ha0) rfl rfl t2_157 t2_158 t2_159 t1_4 t2_160 ⟨by decide, by decide, by decide +kernel⟩ rfl (by decide) (by decide) rfl (Nat.le_of_ble_eq_true rfl) dX1_movesNothing_24) (fun r4 S3 h => ?_)
      refine x_if_eq X 32 dX1_movesNothing_27 (by decide) h (fun h => ?_) (fun h => ?_)
      · refine x_iinc X 2 [(2, .int (v2 + (1 : Int32))), (0, .ref (ad 1 a0)), (1, .ref (ad 5 a1))] dX1_movesNothing_32 rfl rfl (by rw [hN]; decide) rfl ?_
        refine x_goto X 2 dX1_movesNothing_35 (by decide) ?_
        refine x_sub [1, 2, 0] rfl ?_
        exact hK2 S3 (v2 + (1 : Int32)) h
      · refine x_sub [] rfl ?_
        exact w_X1_movesNothing_30 V S3 h
    · refine x_sub [] rfl ?_
      exact w_X1_movesNothing_30 V S1 h
set_option maxHeartbeats 2000000 in
set_option maxRecDepth 20000 in
theorem w_X1_movesNothing_2 {g : xG} {D : va_G} {cy : Nat → ClassId} {ad : Nat → Nat → Nat} {a0 : Nat} {a1 : Nat} {Q : Int32 → xS → Prop} (V : xEnv g D (xTys cy) (shC cy) ad RX1 cX1_movesNothing (some .boolean) 4 103 3 (xQi Q)) (ha0 : a0 < 12) (ha1 : a1 < 60) (n : Nat) : ∀ (S : xS) (v2 : Int32), wp_X1_movesNothing_2 a0 a1 Q n S v2 → Wx g (xW D (shC cy) ad S) 2 [(0, .ref (ad 1 a0)), (1, .ref (ad 5 a1)), (2, .int v2)] [] := by
  induction n with
  | zero => intro S v2 h; exact h.elim
  | succ n ih => intro S v2 h; exact w_X1_movesNothing_2_b V ha0 ha1 (fun S v2 h => ih S v2 h) S v2 h
set_option maxHeartbeats 2000000 in
set_option maxRecDepth 20000 in
theorem w_X1_movesNothing {g : xG} {D : va_G} {cy : Nat → ClassId} {ad : Nat → Nat → Nat} {a0 : Nat} {a1 : Nat} {S : xS} {Q : Int32 → xS → Prop} (V : xEnv g D (xTys cy) (shC cy) ad RX1 cX1_movesNothing (some .boolean) 4 103 3 (xQi Q)) (ha0 : a0 < 12) (ha1 : a1 < 60) (h : wp_X1_movesNothing a0 a1 S Q) : Wx g (xW D (shC cy) ad S) 0 [(0, .ref (ad 1 a0)), (1, .ref (ad 5 a1))] [] := by
  obtain ⟨X, K, hi, hA, hR, E, hN⟩ := V
  have V := xEnv_mk X K hi hA hR E hN
  unfold wp_X1_movesNothing at h
  refine x_iconst X (v := 0) dX1_movesNothing_0 (by decide) ?_
  refine x_istore_n X [(2, .int (0 : Int32)), (0, .ref (ad 1 a0)), (1, .ref (ad 5 a1))] dX1_movesNothing_1 (by rw [hN]; decide) rfl ?_
  refine x_sub [1, 2, 0] rfl ?_
  obtain ⟨n1, h⟩ := h
  exact w_X1_movesNothing_2 V ha0 ha1 n1 S (0 : Int32) h
set_option maxHeartbeats 2000000 in
set_option maxRecDepth 20000 in
theorem m_X1_movesNothing {l : Launch} {D : va_G} {cy : Nat → ClassId} {ad : Nat → Nat → Nat} (hi : xInj (shC cy) ad) {a0 : Nat} {a1 : Nat} {S : xS} {Q : Int32 → xS → Prop} (ha0 : a0 < 12) (ha1 : a1 < 60) (h : wp_X1_movesNothing a0 a1 S Q) : xMet l D (xTys cy) (shC cy) ad yX1_movesNothing cX1_movesNothing 3 (some .boolean) (xRm 4 103) [.ref (ad 1 a0), .ref (ad 5 a1)] S (xQi Q) := xMet_env hi (by decide +kernel) rfl (Nat.le_of_ble_eq_true rfl) (fun g hl V => w_X1_movesNothing V ha0 ha1 h)
