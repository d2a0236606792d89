set_option maxHeartbeats 2000000 in
set_option maxRecDepth 20000 in
theorem w_X7_normal_112 {g : xG} {D : va_G} {cy : Nat → ClassId} {ad : Nat → Nat → Nat} {Q : Int32 → xS → Prop} (V : xEnv g D (xTys cy) (shM cy) ad RX7 cX7_normal (some .int) 1 27 5 (xQi Q)) (S : xS) (s0 : Int32) (h : wp_X7_normal_112 Q S s0) : Wx g (xW D (shM cy) ad S) 112 [] [.int s0] := by
  obtain ⟨X, K, hi, hA, hR, E, hN⟩ := V
  have V := xEnv_mk X K hi hA hR E hN
  unfold wp_X7_normal_112 at h
  exact x_iret X E dX7_normal_112 ⟨_, rfl, h⟩
set_option maxHeartbeats 2000000 in
set_option maxRecDepth 20000 in
theorem w_X7_normal_39 {g : xG} {D : va_G} {cy : Nat → ClassId} {ad : Nat → Nat → Nat} {a1 : Int32} {Q : Int32 → xS → Prop} (V : xEnv g D (xTys cy) (shM cy) ad RX7 cX7_normal (some .int) 1 27 5 (xQi Q)) (S : xS) (s0 : Int32) (h : wp_X7_normal_39 a1 Q S s0) : Wx g (xW D (shM cy) ad S) 39 [(0, .ref (ad 0 0)), (1, .int a1)] [.int s0] := by
  obtain ⟨X, K, hi, hA, hR, E, hN⟩ := V
  have V := xEnv_mk X K hi hA hR E hN
  unfold wp_X7_normal_39 at h
  refine x_istore_n X [(3, .int s0), (0, .ref (ad 0 0)), (1, .int a1)] dX7_normal_39 (by rw [hN]; decide) rfl ?_
  refine x_aload_n X 1 dX7_normal_40 rfl ?_
  refine xg_X7_13 X K (Nat.zero_lt_one) dX7_normal_41 ?_
  refine x_iload_n X 2 dX7_normal_44 rfl ?_
  obtain ⟨hb1, h⟩ := h
  refine xa_M3 X K (show 0 < 1 by decide) hb1 dX7_normal_45 ?_
  refine x_istore X [(4, .int (S.1 3 0 a1.toNatClampNeg)), (3, .int s0), (0, .ref (ad 0 0)), (1, .int a1)] dX7_normal_46 (by rw [hN]; decide) rfl ?_
  refine x_iload_n X 1 dX7_normal_48 rfl ?_
  refine x_iload X 0 dX7_normal_49 rfl ?_
  refine x_icmp_ne X 56 dX7_normal_51 (by decide) h (fun h => ?_) (fun h => ?_)
  · refine x_iconst X (v := 0) dX7_normal_54 (by decide) ?_
    exact x_iret X E dX7_normal_55 ⟨_, rfl, h⟩
  · refine x_iload_n X 1 dX7_normal_56 rfl ?_
    refine x_iload X 0 dX7_normal_57 rfl ?_
    refine x_icmp_ge X 89 dX7_normal_59 (by decide) h (fun h => ?_) (fun h => ?_)
    · refine x_iload_n X 1 dX7_normal_89 rfl ?_
      refine x_iload X 0 dX7_normal_90 rfl ?_
      refine x_isub X dX7_normal_92 ?_
      refine x_i2l X dX7_normal_93 ?_
      refine x_ldc2 X (v := 16384) t4_152 dX7_normal_94 ?_
      refine x_lmul X dX7_normal_97 ?_
      refine x_aload_n X 2 dX7_normal_98 rfl ?_
      refine xg_X7_16 X K (Nat.zero_lt_one) dX7_normal_99 ?_
      refine x_iload_n X 3 dX7_normal_102 rfl ?_
      obtain ⟨hb2, h⟩ := h
      refine xa_M4 X K (show 0 < 1 by decide) hb2 dX7_normal_103 ?_
      refine x_iload X 0 dX7_normal_104 rfl ?_
      refine x_isub X dX7_normal_106 ?_
      refine x_i2l X dX7_normal_107 ?_
      refine x_calll hA (x_runS (n := 2) X K hR (fun _ q => q) (m_X7_near hi  h) t4_161 t4_162 t1_8 t4_163 ⟨by decide, by decide, by decide +kernel⟩ rfl (by decide) (by decide) rfl (Nat.le_of_ble_eq_true rfl) dX7_normal_108) (fun r4 S3 h => ?_)
      refine x_l2i X dX7_normal_111 ?_
      refine x_sub [] rfl ?_
      exact w_X7_normal_112 V S3 (Int64.toInt32 r4) h
    · refine x_iload X 0 dX7_normal_62 rfl ?_
      refine x_iload_n X 1 dX7_normal_64 rfl ?_
      refine x_isub X dX7_normal_65 ?_
      refine x_i2l X dX7_normal_66 ?_
      refine x_ldc2 X (v := 16384) t4_152 dX7_normal_67 ?_
      refine x_lmul X dX7_normal_70 ?_
      refine x_iload X 0 dX7_normal_71 rfl ?_
      refine x_aload_n X 2 dX7_normal_73 rfl ?_
      refine xg_X7_7 X K (Nat.zero_lt_one) dX7_normal_74 ?_
      refine x_iload_n X 3 dX7_normal_77 rfl ?_
      obtain ⟨hb5, h⟩ := h
      refine xa_M2 X K (show 0 < 1 by decide) hb5 dX7_normal_78 ?_
      refine x_isub X dX7_normal_79 ?_
      refine x_i2l X dX7_normal_80 ?_
      refine x_calll hA (x_runS (n := 2) X K hR (fun _ q => q) (m_X7_near hi  h) t4_161 t4_162 t1_8 t4_163 ⟨by decide, by decide, by decide +kernel⟩ rfl (by decide) (by decide) rfl (Nat.le_of_ble_eq_true rfl) dX7_normal_81) (fun r7 S6 h => ?_)
      refine x_l2i X dX7_normal_84 ?_
      refine x_ineg X dX7_normal_85 ?_
      refine x_goto X 112 dX7_normal_86 (by decide) ?_
      refine x_sub [] rfl ?_
      exact w_X7_normal_112 V S6 (-(Int64.toInt32 r7)) h
set_option maxHeartbeats 2000000 in
set_option maxRecDepth 20000 in
theorem w_X7_normal {g : xG} {D : va_G} {cy : Nat → ClassId} {ad : Nat → Nat → Nat} {a1 : Int32} {a2 : Int32} {S : xS} {Q : Int32 → xS → Prop} (V : xEnv g D (xTys cy) (shM cy) ad RX7 cX7_normal (some .int) 1 27 5 (xQi Q)) (h : wp_X7_normal a1 a2 S Q) : Wx g (xW D (shM cy) ad S) 0 [(0, .ref (ad 0 0)), (1, .int a1), (2, .int a2)] [] := by
  obtain ⟨X, K, hi, hA, hR, E, hN⟩ := V
  have V := xEnv_mk X K hi hA hR E hN
  unfold wp_X7_normal at h
  refine x_iload_n X 2 dX7_normal_0 rfl ?_
  refine x_aload_n X 0 dX7_normal_1 rfl ?_
  refine xg_X7_7 X K Nat.zero_lt_one dX7_normal_2 ?_
  refine x_iload_n X 1 dX7_normal_5 rfl ?_
  obtain ⟨hb1, h⟩ := h
  refine xa_M2 X K (show 0 < 1 by decide) hb1 dX7_normal_6 ?_
  refine x_icmp_ge X 19 dX7_normal_7 (by decide) h (fun h => ?_) (fun h => ?_)
  · refine x_iload_n X 2 dX7_normal_19 rfl ?_
    refine x_aload_n X 0 dX7_normal_20 rfl ?_
    refine xg_X7_16 X K Nat.zero_lt_one dX7_normal_21 ?_
    refine x_iload_n X 1 dX7_normal_24 rfl ?_
    obtain ⟨hb2, h⟩ := h
    refine xa_M4 X K (show 0 < 1 by decide) hb2 dX7_normal_25 ?_
    refine x_icmp_le X 38 dX7_normal_26 (by decide) h (fun h => ?_) (fun h => ?_)
    · refine x_iload_n X 2 dX7_normal_38 rfl ?_
      refine x_sub [0, 1] rfl ?_
      exact w_X7_normal_39 V S a2 h
    · refine x_aload_n X 0 dX7_normal_29 rfl ?_
      refine xg_X7_16 X K Nat.zero_lt_one dX7_normal_30 ?_
      refine x_iload_n X 1 dX7_normal_33 rfl ?_
      obtain ⟨hb3, h⟩ := h
      refine xa_M4 X K (show 0 < 1 by decide) hb3 dX7_normal_34 ?_
      refine x_goto X 39 dX7_normal_35 (by decide) ?_
      refine x_sub [0, 1] rfl ?_
      exact w_X7_normal_39 V S (S.1 4 0 a1.toNatClampNeg) h
  · refine x_aload_n X 0 dX7_normal_10 rfl ?_
    refine xg_X7_7 X K Nat.zero_lt_one dX7_normal_11 ?_
    refine x_iload_n X 1 dX7_normal_14 rfl ?_
    obtain ⟨hb4, h⟩ := h
    refine xa_M2 X K (show 0 < 1 by decide) hb4 dX7_normal_15 ?_
    refine x_goto X 39 dX7_normal_16 (by decide) ?_
    refine x_sub [0, 1] rfl ?_
    exact w_X7_normal_39 V S (S.1 2 0 a1.toNatClampNeg) h
set_option maxHeartbeats 2000000 in
set_option maxRecDepth 20000 in
theorem m_X7_normal {l : Launch} {D : va_G} {cy : Nat → ClassId} {ad : Nat → Nat → Nat} (hi : xInj (shM cy) ad) {a1 : Int32} {a2 : Int32} {S : xS} {Q : Int32 → xS → Prop} (h : wp_X7_normal a1 a2 S Q) : xMet l D (xTys cy) (shM cy) ad yX7_normal cX7_normal 5 (some .int) (xRm 1 27) [.ref (ad 0 0), .int a1, .int a2] S (xQi Q) := xMet_env hi (by decide +kernel) rfl (Nat.le_of_ble_eq_true rfl) (fun g hl V => w_X7_normal V h)
set_option maxHeartbeats 2000000 in
set_option maxRecDepth 20000 in
theorem w_X7_mapped_16_b {g : xG} {D : va_G} {cy : Nat → ClassId} {ad : Nat → Nat → Nat} {a2 : Int32} {K16 : xS → Int32 → Prop} {Q : Int32 → xS → Prop} (V : xEnv g D (xTys cy) (shM cy) ad RX7 cX7_mapped (some .int) 1 27 4 (xQi Q)) (hK16 : ∀ (S : xS) (v3 : Int32), K16 S v3 → Wx g (xW D (shM cy) ad S) 16 [(0, .ref (ad 0 0)), (2, .int a2), (3, .int v3)] []) (S : xS) (v3 : Int32) (h : wp_X7_mapped_16_b a2 K16 Q S v3) : Wx g (xW D (shM cy) ad S) 16 [(0, .ref (ad 0 0)), (2, .int a2), (3, .int v3)] [] := by
  obtain ⟨X, K, hi, hA, hR, E, hN⟩ := V
  have V := xEnv_mk X K hi hA hR E hN
  unfold wp_X7_mapped_16_b at h
  refine x_aload_n X 0 dX7_mapped_16 rfl ?_
  refine xg_X7_29 X K (Nat.zero_lt_one) dX7_mapped_17 ?_
  refine x_iload_n X 2 dX7_mapped_20 rfl ?_
  refine x_iconst X (v := 1) dX7_mapped_21 (by decide) ?_
  refine x_iadd X dX7_mapped_22 ?_
  obtain ⟨hb1, h⟩ := h
  refine xa_M8 X K (show 0 < 1 by decide) hb1 dX7_mapped_23 ?_
  refine x_iload_n X 1 dX7_mapped_24 rfl ?_
  refine x_icmp_gt X 34 dX7_mapped_25 (by decide) h (fun h => ?_) (fun h => ?_)
  · refine x_aload_n X 0 dX7_mapped_34 rfl ?_
    refine xg_X7_32 X K (Nat.zero_lt_one) dX7_mapped_35 ?_
    refine x_iload_n X 2 dX7_mapped_38 rfl ?_
    obtain ⟨hb2, h⟩ := h
    refine xa_M9 X K (show 0 < 1 by decide) hb2 dX7_mapped_39 ?_
    refine x_iload_n X 1 dX7_mapped_40 rfl ?_
    refine x_aload_n X 0 dX7_mapped_41 rfl ?_
    refine xg_X7_29 X K (Nat.zero_lt_one) dX7_mapped_42 ?_
    refine x_iload_n X 2 dX7_mapped_45 rfl ?_
    obtain ⟨hb3, h⟩ := h
    refine xa_M8 X K (show 0 < 1 by decide) hb3 dX7_mapped_46 ?_
    refine x_isub X dX7_mapped_47 ?_
    refine x_i2l X dX7_mapped_48 ?_
    refine x_aload_n X 0 dX7_mapped_49 rfl ?_
    refine xg_X7_32 X K (Nat.zero_lt_one) dX7_mapped_50 ?_
    refine x_iload_n X 2 dX7_mapped_53 rfl ?_
    refine x_iconst X (v := 1) dX7_mapped_54 (by decide) ?_
    refine x_iadd X dX7_mapped_55 ?_
    obtain ⟨hb4, h⟩ := h
    refine xa_M9 X K (show 0 < 1 by decide) hb4 dX7_mapped_56 ?_
    refine x_aload_n X 0 dX7_mapped_57 rfl ?_
    refine xg_X7_32 X K (Nat.zero_lt_one) dX7_mapped_58 ?_
    refine x_iload_n X 2 dX7_mapped_61 rfl ?_
    obtain ⟨hb5, h⟩ := h
    refine xa_M9 X K (show 0 < 1 by decide) hb5 dX7_mapped_62 ?_
    refine x_isub X dX7_mapped_63 ?_
    refine x_i2l X dX7_mapped_64 ?_
    refine x_lmul X dX7_mapped_65 ?_
    refine x_aload_n X 0 dX7_mapped_66 rfl ?_
    refine xg_X7_29 X K (Nat.zero_lt_one) dX7_mapped_67 ?_
    refine x_iload_n X 2 dX7_mapped_70 rfl ?_
    refine x_iconst X (v := 1) dX7_mapped_71 (by decide) ?_
    refine x_iadd X dX7_mapped_72 ?_
    obtain ⟨hb6, h⟩ := h
    refine xa_M8 X K (show 0 < 1 by decide) hb6 dX7_mapped_73 ?_
    refine x_aload_n X 0 dX7_mapped_74 rfl ?_
    refine xg_X7_29 X K (Nat.zero_lt_one) dX7_mapped_75 ?_
    refine x_iload_n X 2 dX7_mapped_78 rfl ?_
    obtain ⟨hb7, h⟩ := h
    refine xa_M8 X K (show 0 < 1 by decide) hb7 dX7_mapped_79 ?_
    refine x_isub X dX7_mapped_80 ?_
    refine x_i2l X dX7_mapped_81 ?_
    refine x_calll hA (x_runS (n := 2) X K hR (fun _ q => q) (m_X7_near hi  h) t4_161 t4_162 t1_8 t4_163 ⟨by decide, by decide, by decide +kernel⟩ rfl (by decide) (by decide) rfl (Nat.le_of_ble_eq_true rfl) dX7_mapped_82) (fun r9 S8 h => ?_)
    refine x_l2i X dX7_mapped_85 ?_
    refine x_iadd X dX7_mapped_86 ?_
    exact x_iret X E dX7_mapped_87 ⟨_, rfl, h⟩
  · refine x_iinc X 2 [(3, .int (v3 + (1 : Int32))), (0, .ref (ad 0 0)), (2, .int a2)] dX7_mapped_28 rfl rfl (by rw [hN]; decide) rfl ?_
    refine x_goto X 16 dX7_mapped_31 (by decide) ?_
    refine x_sub [1, 2, 0] rfl ?_
    exact hK16 S (v3 + (1 : Int32)) h
set_option maxHeartbeats 2000000 in
set_option maxRecDepth 20000 in
theorem w_X7_mapped_16 {g : xG} {D : va_G} {cy : Nat → ClassId} {ad : Nat → Nat → Nat} {a2 : Int32} {Q : Int32 → xS → Prop} (V : xEnv g D (xTys cy) (shM cy) ad RX7 cX7_mapped (some .int) 1 27 4 (xQi Q)) (n : Nat) : ∀ (S : xS) (v3 : Int32), wp_X7_mapped_16 a2 Q n S v3 → Wx g (xW D (shM cy) ad S) 16 [(0, .ref (ad 0 0)), (2, .int a2), (3, .int v3)] [] := by
  induction n with
  | zero => intro S v3 h; exact h.elim
  | succ n ih => intro S v3 h; exact w_X7_mapped_16_b V (fun S v3 h => ih S v3 h) S v3 h
set_option maxHeartbeats 2000000 in
set_option maxRecDepth 20000 in
theorem w_X7_mapped {g : xG} {D : va_G} {cy : Nat → ClassId} {ad : Nat → Nat → Nat} {a1 : Int32} {a2 : Int32} {S : xS} {Q : Int32 → xS → Prop} (V : xEnv g D (xTys cy) (shM cy) ad RX7 cX7_mapped (some .int) 1 27 4 (xQi Q)) (h : wp_X7_mapped a1 a2 S Q) : Wx g (xW D (shM cy) ad S) 0 [(0, .ref (ad 0 0)), (1, .int a1), (2, .int a2)] [] := by
  obtain ⟨X, K, hi, hA, hR, E, hN⟩ := V
  have V := xEnv_mk X K hi hA hR E hN
  unfold wp_X7_mapped at h
  refine x_iload_n X 2 dX7_mapped_0 rfl ?_
  refine x_sipush X (v := 16384) dX7_mapped_1 (by decide) ?_
  refine x_icmp_ne X 11 dX7_mapped_4 (by decide) h (fun h => ?_) (fun h => ?_)
  · refine x_sipush X (v := 16384) dX7_mapped_7 (by decide) ?_
    exact x_iret X E dX7_mapped_10 ⟨_, rfl, h⟩
  · refine x_bipush X (v := 8) dX7_mapped_11 (by decide) ?_
    refine x_iload_n X 1 dX7_mapped_13 rfl ?_
    refine x_imul X dX7_mapped_14 ?_
    refine x_istore_n X [(3, .int ((8 : Int32) * a1)), (0, .ref (ad 0 0)), (1, .int a1), (2, .int a2)] dX7_mapped_15 (by rw [hN]; decide) rfl ?_
    refine x_sub [1, 3, 0] rfl ?_
    obtain ⟨n1, h⟩ := h
    exact w_X7_mapped_16 V n1 S ((8 : Int32) * a1) h
set_option maxHeartbeats 2000000 in
set_option maxRecDepth 20000 in
theorem m_X7_mapped {l : Launch} {D : va_G} {cy : Nat → ClassId} {ad : Nat → Nat → Nat} (hi : xInj (shM cy) ad) {a1 : Int32} {a2 : Int32} {S : xS} {Q : Int32 → xS → Prop} (h : wp_X7_mapped a1 a2 S Q) : xMet l D (xTys cy) (shM cy) ad yX7_mapped cX7_mapped 4 (some .int) (xRm 1 27) [.ref (ad 0 0), .int a1, .int a2] S (xQi Q) := xMet_env hi (by decide +kernel) rfl (Nat.le_of_ble_eq_true rfl) (fun g hl V => w_X7_mapped V h)
set_option maxHeartbeats 2000000 in
set_option maxRecDepth 20000 in
theorem w_X7_normalize_24 {g : xG} {D : va_G} {cy : Nat → ClassId} {ad : Nat → Nat → Nat} {Q : Int32 → xS → Prop} (V : xEnv g D (xTys cy) (shM cy) ad RX7 cX7_normalize (some .int) 2 51 3 (xQi Q)) (S : xS) (s0 : Int32) (h : wp_X7_normalize_24 Q S s0) : Wx g (xW D (shM cy) ad S) 24 [] [.int s0] := by
  obtain ⟨X, K, hi, hA, hR, E, hN⟩ := V
  have V := xEnv_mk X K hi hA hR E hN
  unfold wp_X7_normalize_24 at h
  exact x_iret X E dX7_normalize_24 ⟨_, rfl, h⟩
set_option maxHeartbeats 2000000 in
set_option maxRecDepth 20000 in
theorem w_X7_normalize {g : xG} {D : va_G} {cy : Nat → ClassId} {ad : Nat → Nat → Nat} {a1 : Int32} {a2 : Int32} {S : xS} {Q : Int32 → xS → Prop} (V : xEnv g D (xTys cy) (shM cy) ad RX7 cX7_normalize (some .int) 2 51 3 (xQi Q)) (h : wp_X7_normalize a1 a2 S Q) : Wx g (xW D (shM cy) ad S) 0 [(0, .ref (ad 0 0)), (1, .int a1), (2, .int a2)] [] := by
  obtain ⟨X, K, hi, hA, hR, E, hN⟩ := V
  have V := xEnv_mk X K hi hA hR E hN
  unfold wp_X7_normalize at h
  refine x_aload_n X 0 dX7_normalize_0 rfl ?_
  refine x_iload_n X 1 dX7_normalize_1 rfl ?_
  refine x_calli hA (x_runV (n := 1) (sh := shM cy) X K hR (fun _ q => q) (m_X7_noAxis hi  h) (kM_0 cy Nat.zero_lt_one) rfl rfl t4_144 t4_146 tp_26 t1_8 t4_147 ⟨by decide, by decide, by decide +kernel⟩ rfl (by decide) (by decide) rfl (Nat.le_of_ble_eq_true rfl) dX7_normalize_2) (fun r2 S1 h => ?_)
  refine x_if_eq X 13 dX7_normalize_5 (by decide) h (fun h => ?_) (fun h => ?_)
  · refine x_aload_n X 0 dX7_normalize_13 rfl ?_
    refine x_iload_n X 1 dX7_normalize_14 rfl ?_
    refine x_aload_n X 0 dX7_normalize_15 rfl ?_
    refine x_iload_n X 1 dX7_normalize_16 rfl ?_
    refine x_iload_n X 2 dX7_normalize_17 rfl ?_
    refine x_calli hA (x_runV (n := 2) (sh := shM cy) X K hR (fun _ q => q) (m_X7_normal hi  h) (kM_0 cy Nat.zero_lt_one) rfl rfl t4_157 t4_159 tp_27 t1_8 t4_160 ⟨by decide, by decide, by decide +kernel⟩ rfl (by decide) (by decide) rfl (Nat.le_of_ble_eq_true rfl) dX7_normalize_18) (fun r4 S3 h => ?_)
    refine x_calli hA (x_runV (n := 2) (sh := shM cy) X K hR (fun _ q => q) (m_X7_mapped hi  h) (kM_0 cy Nat.zero_lt_one) rfl rfl t4_165 t4_167 tp_28 t1_8 t4_168 ⟨by decide, by decide, by decide +kernel⟩ rfl (by decide) (by decide) rfl (Nat.le_of_ble_eq_true rfl) dX7_normalize_21) (fun r6 S5 h => ?_)
    refine x_sub [] rfl ?_
    exact w_X7_normalize_24 V S5 r6 h
  · refine x_ldc X (v := -1000001) t4_148 dX7_normalize_8 ?_
    refine x_goto X 24 dX7_normalize_10 (by decide) ?_
    refine x_sub [] rfl ?_
    exact w_X7_normalize_24 V S1 (-1000001 : Int32) h
set_option maxHeartbeats 2000000 in
set_option maxRecDepth 20000 in
theorem m_X7_normalize {l : Launch} {D : va_G} {cy : Nat → ClassId} {ad : Nat → Nat → Nat} (hi : xInj (shM cy) ad) {a1 : Int32} {a2 : Int32} {S : xS} {Q : Int32 → xS → Prop} (h : wp_X7_normalize a1 a2 S Q) : xMet l D (xTys cy) (shM cy) ad yX7_normalize cX7_normalize 3 (some .int) (xRm 2 51) [.ref (ad 0 0), .int a1, .int a2] S (xQi Q) := xMet_env hi (by decide +kernel) rfl (Nat.le_of_ble_eq_true rfl) (fun g hl V => w_X7_normalize V h)
set_option maxHeartbeats 2000000 in
set_option maxRecDepth 20000 in
theorem w_X7_setUser {g : xG} {D : va_G} {cy : Nat → ClassId} {ad : Nat → Nat → Nat} {a1 : Int32} {a2 : Int32} {S : xS} {Q : Int32 → xS → Prop} (V : xEnv g D (xTys cy) (shM cy) ad RX7 cX7_setUser (some .int) 2 51 3 (xQi Q)) (h : wp_X7_setUser a1 a2 S Q) : Wx g (xW D (shM cy) ad S) 0 [(0, .ref (ad 0 0)), (1, .int a1), (2, .int a2)] [] := by
  obtain ⟨X, K, hi, hA, hR, E, hN⟩ := V
  have V := xEnv_mk X K hi hA hR E hN
  unfold wp_X7_setUser at h
  refine x_aload_n X 0 dX7_setUser_0 rfl ?_
  refine x_iload_n X 1 dX7_setUser_1 rfl ?_
  refine x_calli hA (x_runV (n := 1) (sh := shM cy) X K hR (fun _ q => q) (m_X7_noAxis hi  h) (kM_0 cy Nat.zero_lt_one) rfl rfl t4_144 t4_146 tp_26 t1_8 t4_147 ⟨by decide, by decide, by decide +kernel⟩ rfl (by decide) (by decide) rfl (Nat.le_of_ble_eq_true rfl) dX7_setUser_2) (fun r2 S1 h => ?_)
  refine x_if_eq X 11 dX7_setUser_5 (by decide) h (fun h => ?_) (fun h => ?_)
  · refine x_aload_n X 0 dX7_setUser_11 rfl ?_
    refine xg_X7_22 X K Nat.zero_lt_one dX7_setUser_12 ?_
    refine x_iload_n X 1 dX7_setUser_15 rfl ?_
    obtain ⟨hb3, h⟩ := h
    refine xa_M6 X K (show 0 < 1 by decide) hb3 dX7_setUser_16 ?_
    refine x_if_eq X 23 dX7_setUser_17 (by decide) h (fun h => ?_) (fun h => ?_)
    · refine x_aload_n X 0 dX7_setUser_23 rfl ?_
      refine xg_X7_19 X K Nat.zero_lt_one dX7_setUser_24 ?_
      refine x_iload_n X 1 dX7_setUser_27 rfl ?_
      refine x_aload_n X 0 dX7_setUser_28 rfl ?_
      refine x_iload_n X 1 dX7_setUser_29 rfl ?_
      refine x_aload_n X 0 dX7_setUser_30 rfl ?_
      refine x_iload_n X 1 dX7_setUser_31 rfl ?_
      refine x_iload_n X 2 dX7_setUser_32 rfl ?_
      refine x_calli hA (x_runV (n := 2) (sh := shM cy) X K hR (fun _ q => q) (m_X7_normal hi  h) (kM_0 cy Nat.zero_lt_one) rfl rfl t4_157 t4_159 tp_27 t1_8 t4_160 ⟨by decide, by decide, by decide +kernel⟩ rfl (by decide) (by decide) rfl (Nat.le_of_ble_eq_true rfl) dX7_setUser_33) (fun r5 S4 h => ?_)
      refine x_calli hA (x_runV (n := 2) (sh := shM cy) X K hR (fun _ q => q) (m_X7_mapped hi  h) (kM_0 cy Nat.zero_lt_one) rfl rfl t4_165 t4_167 tp_28 t1_8 t4_168 ⟨by decide, by decide, by decide +kernel⟩ rfl (by decide) (by decide) rfl (Nat.le_of_ble_eq_true rfl) dX7_setUser_36) (fun r7 S6 h => ?_)
      obtain ⟨hb8, h⟩ := h
      refine xs_M5 X K hi hA (show 0 < 1 by decide) hb8 dX7_setUser_39 ?_
      refine x_aload_n X 0 dX7_setUser_40 rfl ?_
      refine xg_X7_19 X K Nat.zero_lt_one dX7_setUser_41 ?_
      refine x_iload_n X 1 dX7_setUser_44 rfl ?_
      obtain ⟨hb9, h⟩ := h
      refine xa_M5 X K (show 0 < 1 by decide) hb9 dX7_setUser_45 ?_
      exact x_iret X E dX7_setUser_46 ⟨_, rfl, h⟩
    · refine x_ldc X (v := -1000007) t4_173 dX7_setUser_20 ?_
      exact x_iret X E dX7_setUser_22 ⟨_, rfl, h⟩
  · refine x_ldc X (v := -1000001) t4_148 dX7_setUser_8 ?_
    exact x_iret X E dX7_setUser_10 ⟨_, rfl, h⟩
set_option maxHeartbeats 2000000 in
set_option maxRecDepth 20000 in
theorem m_X7_setUser {l : Launch} {D : va_G} {cy : Nat → ClassId} {ad : Nat → Nat → Nat} (hi : xInj (shM cy) ad) {a1 : Int32} {a2 : Int32} {S : xS} {Q : Int32 → xS → Prop} (h : wp_X7_setUser a1 a2 S Q) : xMet l D (xTys cy) (shM cy) ad yX7_setUser cX7_setUser 3 (some .int) (xRm 2 51) [.ref (ad 0 0), .int a1, .int a2] S (xQi Q) := xMet_env hi (by decide +kernel) rfl (Nat.le_of_ble_eq_true rfl) (fun g hl V => w_X7_setUser V h)
set_option maxHeartbeats 2000000 in
set_option maxRecDepth 20000 in
theorem w_X7_setCoordinate {g : xG} {D : va_G} {cy : Nat → ClassId} {ad : Nat → Nat → Nat} {a1 : Int32} {a2 : Int32} {S : xS} {Q : Int32 → xS → Prop} (V : xEnv g D (xTys cy) (shM cy) ad RX7 cX7_setCoordinate (some .int) 2 46 4 (xQi Q)) (h : wp_X7_setCoordinate a1 a2 S Q) : Wx g (xW D (shM cy) ad S) 0 [(0, .ref (ad 0 0)), (1, .int a1), (2, .int a2)] [] := by
  obtain ⟨X, K, hi, hA, hR, E, hN⟩ := V
  have V := xEnv_mk X K hi hA hR E hN
  unfold wp_X7_setCoordinate at h
  refine x_aload_n X 0 dX7_setCoordinate_0 rfl ?_
  refine x_iload_n X 1 dX7_setCoordinate_1 rfl ?_
  refine x_calli hA (x_runV (n := 1) (sh := shM cy) X K hR (fun _ q => q) (m_X7_noAxis hi  h) (kM_0 cy Nat.zero_lt_one) rfl rfl t4_144 t4_146 tp_26 t1_8 t4_147 ⟨by decide, by decide, by decide +kernel⟩ rfl (by decide) (by decide) rfl (Nat.le_of_ble_eq_true rfl) dX7_setCoordinate_2) (fun r2 S1 h => ?_)
  refine x_if_eq X 11 dX7_setCoordinate_5 (by decide) h (fun h => ?_) (fun h => ?_)
  · refine x_iload_n X 2 dX7_setCoordinate_11 rfl ?_
    refine x_i2l X dX7_setCoordinate_12 ?_
    refine x_ldc2 X (v := -16384) t4_151 dX7_setCoordinate_13 ?_
    refine x_ldc2 X (v := 16384) t4_152 dX7_setCoordinate_16 ?_
    refine x_calli hA (x_runS (n := 3) X K hR (fun _ q => q) (m_X7_in hi  h) t4_135 t4_136 t1_8 t4_137 ⟨by decide, by decide, by decide +kernel⟩ rfl (by decide) (by decide) rfl (Nat.le_of_ble_eq_true rfl) dX7_setCoordinate_19) (fun r4 S3 h => ?_)
    refine x_if_ne X 28 dX7_setCoordinate_22 (by decide) h (fun h => ?_) (fun h => ?_)
    · refine x_ldc X (v := -1000005) t4_138 dX7_setCoordinate_25 ?_
      exact x_iret X E dX7_setCoordinate_27 ⟨_, rfl, h⟩
    · refine x_aload_n X 0 dX7_setCoordinate_28 rfl ?_
      refine xg_X7_22 X K Nat.zero_lt_one dX7_setCoordinate_29 ?_
      refine x_iload_n X 1 dX7_setCoordinate_32 rfl ?_
      obtain ⟨hb5, h⟩ := h
      refine xa_M6 X K (show 0 < 1 by decide) hb5 dX7_setCoordinate_33 ?_
      refine x_if_eq X 40 dX7_setCoordinate_34 (by decide) h (fun h => ?_) (fun h => ?_)
      · refine x_aload_n X 0 dX7_setCoordinate_40 rfl ?_
        refine xg_X7_19 X K Nat.zero_lt_one dX7_setCoordinate_41 ?_
        refine x_iload_n X 1 dX7_setCoordinate_44 rfl ?_
        obtain ⟨hb6, h⟩ := h
        refine xa_M5 X K (show 0 < 1 by decide) hb6 dX7_setCoordinate_45 ?_
        refine x_istore_n X [(3, .int (S3.1 5 0 a1.toNatClampNeg)), (0, .ref (ad 0 0)), (1, .int a1), (2, .int a2)] dX7_setCoordinate_46 (by rw [hN]; decide) rfl ?_
        refine x_aload_n X 1 dX7_setCoordinate_47 rfl ?_
        refine xg_X7_19 X K Nat.zero_lt_one dX7_setCoordinate_48 ?_
        refine x_iload_n X 2 dX7_setCoordinate_51 rfl ?_
        refine x_iload_n X 3 dX7_setCoordinate_52 rfl ?_
        obtain ⟨hb7, h⟩ := h
        refine xs_M5 X K hi hA (show 0 < 1 by decide) hb7 dX7_setCoordinate_53 ?_
        refine x_iload_n X 0 dX7_setCoordinate_54 rfl ?_
        exact x_iret X E dX7_setCoordinate_55 ⟨_, rfl, h⟩
      · refine x_ldc X (v := -1000007) t4_173 dX7_setCoordinate_37 ?_
        exact x_iret X E dX7_setCoordinate_39 ⟨_, rfl, h⟩
  · refine x_ldc X (v := -1000001) t4_148 dX7_setCoordinate_8 ?_
    exact x_iret X E dX7_setCoordinate_10 ⟨_, rfl, h⟩
set_option maxHeartbeats 2000000 in
set_option maxRecDepth 20000 in
theorem m_X7_setCoordinate {l : Launch} {D : va_G} {cy : Nat → ClassId} {ad : Nat → Nat → Nat} (hi : xInj (shM cy) ad) {a1 : Int32} {a2 : Int32} {S : xS} {Q : Int32 → xS → Prop} (h : wp_X7_setCoordinate a1 a2 S Q) : xMet l D (xTys cy) (shM cy) ad yX7_setCoordinate cX7_setCoordinate 4 (some .int) (xRm 2 46) [.ref (ad 0 0), .int a1, .int a2] S (xQi Q) := xMet_env hi (by decide +kernel) rfl (Nat.le_of_ble_eq_true rfl) (fun g hl V => w_X7_setCoordinate V h)
set_option maxHeartbeats 2000000 in
set_option maxRecDepth 20000 in
theorem w_X7_pin_26 {g : xG} {D : va_G} {cy : Nat → ClassId} {ad : Nat → Nat → Nat} {a1 : Int32} {a2 : Int32} {Q : Int32 → xS → Prop} (V : xEnv g D (xTys cy) (shM cy) ad RX7 cX7_pin (some .int) 2 46 4 (xQi Q)) (S : xS) (s0 : Int32) (h : wp_X7_pin_26 a1 a2 Q S s0) : Wx g (xW D (shM cy) ad S) 26 [(0, .ref (ad 0 0)), (1, .int a1), (2, .int a2)] [.int s0] := by
  obtain ⟨X, K, hi, hA, hR, E, hN⟩ := V
  have V := xEnv_mk X K hi hA hR E hN
  unfold wp_X7_pin_26 at h
  refine x_istore_n X [(3, .int s0), (0, .ref (ad 0 0)), (1, .int a1), (2, .int a2)] dX7_pin_26 (by rw [hN]; decide) rfl ?_
  refine x_aload_n X 1 dX7_pin_27 rfl ?_
  refine xg_X7_22 X K (Nat.zero_lt_one) dX7_pin_28 ?_
  refine x_iload_n X 2 dX7_pin_31 rfl ?_
  refine x_iload_n X 3 dX7_pin_32 rfl ?_
  obtain ⟨hb1, h⟩ := h
  refine xs_M6 X K hi hA (show 0 < 1 by decide) hb1 dX7_pin_33 ?_
  refine x_iload_n X 0 dX7_pin_34 rfl ?_
  exact x_iret X E dX7_pin_35 ⟨_, rfl, h⟩
set_option maxHeartbeats 2000000 in
set_option maxRecDepth 20000 in
theorem w_X7_pin {g : xG} {D : va_G} {cy : Nat → ClassId} {ad : Nat → Nat → Nat} {a1 : Int32} {a2 : Int32} {S : xS} {Q : Int32 → xS → Prop} (V : xEnv g D (xTys cy) (shM cy) ad RX7 cX7_pin (some .int) 2 46 4 (xQi Q)) (h : wp_X7_pin a1 a2 S Q) : Wx g (xW D (shM cy) ad S) 0 [(0, .ref (ad 0 0)), (1, .int a1), (2, .int a2)] [] := by
  obtain ⟨X, K, hi, hA, hR, E, hN⟩ := V
  have V := xEnv_mk X K hi hA hR E hN
  unfold wp_X7_pin at h
  refine x_aload_n X 0 dX7_pin_0 rfl ?_
  refine x_iload_n X 1 dX7_pin_1 rfl ?_
  refine x_calli hA (x_runV (n := 1) (sh := shM cy) X K hR (fun _ q => q) (m_X7_noAxis hi  h) (kM_0 cy Nat.zero_lt_one) rfl rfl t4_144 t4_146 tp_26 t1_8 t4_147 ⟨by decide, by decide, by decide +kernel⟩ rfl (by decide) (by decide) rfl (Nat.le_of_ble_eq_true rfl) dX7_pin_2) (fun r2 S1 h => ?_)
  refine x_if_eq X 11 dX7_pin_5 (by decide) h (fun h => ?_) (fun h => ?_)
  · refine x_aload_n X 0 dX7_pin_11 rfl ?_
    refine xg_X7_22 X K Nat.zero_lt_one dX7_pin_12 ?_
    refine x_iload_n X 1 dX7_pin_15 rfl ?_
    obtain ⟨hb3, h⟩ := h
    refine xa_M6 X K (show 0 < 1 by decide) hb3 dX7_pin_16 ?_
    refine x_iload_n X 2 dX7_pin_17 rfl ?_
    refine x_icmp_ne X 25 dX7_pin_18 (by decide) h (fun h => ?_) (fun h => ?_)
    · refine x_iconst X (v := 0) dX7_pin_21 (by decide) ?_
      refine x_goto X 26 dX7_pin_22 (by decide) ?_
      refine x_sub [0, 1, 2] rfl ?_
      exact w_X7_pin_26 V S1 (0 : Int32) h
    · refine x_iconst X (v := 1) dX7_pin_25 (by decide) ?_
      refine x_sub [0, 1, 2] rfl ?_
      exact w_X7_pin_26 V S1 (1 : Int32) h
  · refine x_ldc X (v := -1000001) t4_148 dX7_pin_8 ?_
    exact x_iret X E dX7_pin_10 ⟨_, rfl, h⟩
set_option maxHeartbeats 2000000 in
set_option maxRecDepth 20000 in
theorem m_X7_pin {l : Launch} {D : va_G} {cy : Nat → ClassId} {ad : Nat → Nat → Nat} (hi : xInj (shM cy) ad) {a1 : Int32} {a2 : Int32} {S : xS} {Q : Int32 → xS → Prop} (h : wp_X7_pin a1 a2 S Q) : xMet l D (xTys cy) (shM cy) ad yX7_pin cX7_pin 4 (some .int) (xRm 2 46) [.ref (ad 0 0), .int a1, .int a2] S (xQi Q) := xMet_env hi (by decide +kernel) rfl (Nat.le_of_ble_eq_true rfl) (fun g hl V => w_X7_pin V h)
set_option maxHeartbeats 2000000 in
set_option maxRecDepth 20000 in
theorem w_X7_axisValue_101 {g : xG} {D : va_G} {cy : Nat → ClassId} {ad : Nat → Nat → Nat} {Q : Int32 → xS → Prop} (V : xEnv g D (xTys cy) (shM cy) ad RX7 cX7_axisValue (some .int) 2 46 3 (xQi Q)) (S : xS) (s0 : Int32) (h : wp_X7_axisValue_101 Q S s0) : Wx g (xW D (shM cy) ad S) 101 [] [.int s0] := by
  obtain ⟨X, K, hi, hA, hR, E, hN⟩ := V
  have V := xEnv_mk X K hi hA hR E hN
  unfold wp_X7_axisValue_101 at h
  exact x_iret X E dX7_axisValue_101 ⟨_, rfl, h⟩
set_option maxHeartbeats 2000000 in
set_option maxRecDepth 20000 in
theorem w_X7_axisValue {g : xG} {D : va_G} {cy : Nat → ClassId} {ad : Nat → Nat → Nat} {a1 : Int32} {a2 : Int32} {S : xS} {Q : Int32 → xS → Prop} (V : xEnv g D (xTys cy) (shM cy) ad RX7 cX7_axisValue (some .int) 2 46 3 (xQi Q)) (h : wp_X7_axisValue a1 a2 S Q) : Wx g (xW D (shM cy) ad S) 0 [(0, .ref (ad 0 0)), (1, .int a1), (2, .int a2)] [] := by
  obtain ⟨X, K, hi, hA, hR, E, hN⟩ := V
  have V := xEnv_mk X K hi hA hR E hN
  unfold wp_X7_axisValue at h
  refine x_aload_n X 0 dX7_axisValue_0 rfl ?_
  refine x_iload_n X 1 dX7_axisValue_1 rfl ?_
  refine x_calli hA (x_runV (n := 1) (sh := shM cy) X K hR (fun _ q => q) (m_X7_noAxis hi  h) (kM_0 cy Nat.zero_lt_one) rfl rfl t4_144 t4_146 tp_26 t1_8 t4_147 ⟨by decide, by decide, by decide +kernel⟩ rfl (by decide) (by decide) rfl (Nat.le_of_ble_eq_true rfl) dX7_axisValue_2) (fun r2 S1 h => ?_)
  refine x_if_eq X 11 dX7_axisValue_5 (by decide) h (fun h => ?_) (fun h => ?_)
  · refine x_iload_n X 2 dX7_axisValue_11 rfl ?_
    refine x_ite h (fun hc h => ?_) (fun hc0_12 h => ?_)
    · refine x_tableIn X 52 dX7_axisValue_12 (by rw [hc]; decide) (by rw [hc]; decide) (off := 40) (by rw [hc]; decide) (by decide) ?_
      refine x_aload_n X 0 dX7_axisValue_52 rfl ?_
      refine xg_X7_19 X K Nat.zero_lt_one dX7_axisValue_53 ?_
      refine x_iload_n X 1 dX7_axisValue_56 rfl ?_
      obtain ⟨hb3, h⟩ := h
      refine xa_M5 X K (show 0 < 1 by decide) hb3 dX7_axisValue_57 ?_
      exact x_iret X E dX7_axisValue_58 ⟨_, rfl, h⟩
    · refine x_ite h (fun hc h => ?_) (fun hc1_12 h => ?_)
      · refine x_tableIn X 59 dX7_axisValue_12 (by rw [hc]; decide) (by rw [hc]; decide) (off := 47) (by rw [hc]; decide) (by decide) ?_
        refine x_aload_n X 0 dX7_axisValue_59 rfl ?_
        refine xg_X7_7 X K Nat.zero_lt_one dX7_axisValue_60 ?_
        refine x_iload_n X 1 dX7_axisValue_63 rfl ?_
        obtain ⟨hb4, h⟩ := h
        refine xa_M2 X K (show 0 < 1 by decide) hb4 dX7_axisValue_64 ?_
        exact x_iret X E dX7_axisValue_65 ⟨_, rfl, h⟩
      · refine x_ite h (fun hc h => ?_) (fun hc2_12 h => ?_)
        · refine x_tableIn X 66 dX7_axisValue_12 (by rw [hc]; decide) (by rw [hc]; decide) (off := 54) (by rw [hc]; decide) (by decide) ?_
          refine x_aload_n X 0 dX7_axisValue_66 rfl ?_
          refine xg_X7_13 X K Nat.zero_lt_one dX7_axisValue_67 ?_
          refine x_iload_n X 1 dX7_axisValue_70 rfl ?_
          obtain ⟨hb5, h⟩ := h
          refine xa_M3 X K (show 0 < 1 by decide) hb5 dX7_axisValue_71 ?_
          exact x_iret X E dX7_axisValue_72 ⟨_, rfl, h⟩
        · refine x_ite h (fun hc h => ?_) (fun hc3_12 h => ?_)
          · refine x_tableIn X 73 dX7_axisValue_12 (by rw [hc]; decide) (by rw [hc]; decide) (off := 61) (by rw [hc]; decide) (by decide) ?_
            refine x_aload_n X 0 dX7_axisValue_73 rfl ?_
            refine xg_X7_16 X K Nat.zero_lt_one dX7_axisValue_74 ?_
            refine x_iload_n X 1 dX7_axisValue_77 rfl ?_
            obtain ⟨hb6, h⟩ := h
            refine xa_M4 X K (show 0 < 1 by decide) hb6 dX7_axisValue_78 ?_
            exact x_iret X E dX7_axisValue_79 ⟨_, rfl, h⟩
          · refine x_ite h (fun hc h => ?_) (fun hc4_12 h => ?_)
            · refine x_tableIn X 80 dX7_axisValue_12 (by rw [hc]; decide) (by rw [hc]; decide) (off := 68) (by rw [hc]; decide) (by decide) ?_
              refine x_aload_n X 0 dX7_axisValue_80 rfl ?_
              refine xg_X7_26 X K Nat.zero_lt_one dX7_axisValue_81 ?_
              refine x_iload_n X 1 dX7_axisValue_84 rfl ?_
              obtain ⟨hb7, h⟩ := h
              refine xa_M7 X K (show 0 < 1 by decide) hb7 dX7_axisValue_85 ?_
              exact x_iret X E dX7_axisValue_86 ⟨_, rfl, h⟩
            · refine x_ite h (fun hc h => ?_) (fun hc5_12 h => ?_)
              · refine x_tableIn X 87 dX7_axisValue_12 (by rw [hc]; decide) (by rw [hc]; decide) (off := 75) (by rw [hc]; decide) (by decide) ?_
                refine x_aload_n X 0 dX7_axisValue_87 rfl ?_
                refine xg_X7_22 X K Nat.zero_lt_one dX7_axisValue_88 ?_
                refine x_iload_n X 1 dX7_axisValue_91 rfl ?_
                obtain ⟨hb8, h⟩ := h
                refine xa_M6 X K (show 0 < 1 by decide) hb8 dX7_axisValue_92 ?_
                refine x_if_eq X 100 dX7_axisValue_93 (by decide) h (fun h => ?_) (fun h => ?_)
                · refine x_iconst X (v := 0) dX7_axisValue_100 (by decide) ?_
                  refine x_sub [] rfl ?_
                  exact w_X7_axisValue_101 V S1 (0 : Int32) h
                · refine x_iconst X (v := 1) dX7_axisValue_96 (by decide) ?_
                  refine x_goto X 101 dX7_axisValue_97 (by decide) ?_
                  refine x_sub [] rfl ?_
                  exact w_X7_axisValue_101 V S1 (1 : Int32) h
              · refine x_tableOut X 102 dX7_axisValue_12 (xSw_0_5 hc0_12 hc1_12 hc2_12 hc3_12 hc4_12 hc5_12) (by decide) ?_
                refine x_ldc X (v := -1000005) t4_138 dX7_axisValue_102 ?_
                exact x_iret X E dX7_axisValue_104 ⟨_, rfl, h⟩
  · refine x_ldc X (v := -1000001) t4_148 dX7_axisValue_8 ?_
    exact x_iret X E dX7_axisValue_10 ⟨_, rfl, h⟩
set_option maxHeartbeats 2000000 in
set_option maxRecDepth 20000 in
theorem m_X7_axisValue {l : Launch} {D : va_G} {cy : Nat → ClassId} {ad : Nat → Nat → Nat} (hi : xInj (shM cy) ad) {a1 : Int32} {a2 : Int32} {S : xS} {Q : Int32 → xS → Prop} (h : wp_X7_axisValue a1 a2 S Q) : xMet l D (xTys cy) (shM cy) ad yX7_axisValue cX7_axisValue 3 (some .int) (xRm 2 46) [.ref (ad 0 0), .int a1, .int a2] S (xQi Q) := xMet_env hi (by decide +kernel) rfl (Nat.le_of_ble_eq_true rfl) (fun g hl V => w_X7_axisValue V h)
set_option maxHeartbeats 2000000 in
set_option maxRecDepth 20000 in
theorem w_X7_of {g : xG} {D : va_G} {cy : Nat → ClassId} {ad : Nat → Nat → Nat} {a1 : Int32} {a2 : Int32} {S : xS} {Q : Int32 → xS → Prop} (V : xEnv g D (xTys cy) (shM cy) ad RX7 cX7_of (some .int) 0 0 3 (xQi Q)) (h : wp_X7_of a1 a2 S Q) : Wx g (xW D (shM cy) ad S) 0 [(0, .ref (ad 0 0)), (1, .int a1), (2, .int a2)] [] := by
  obtain ⟨X, K, hi, hA, hR, E, hN⟩ := V
  have V := xEnv_mk X K hi hA hR E hN
  unfold wp_X7_of at h
  refine x_aload_n X 0 dX7_of_0 rfl ?_
  refine xg_X7_35 X K Nat.zero_lt_one dX7_of_1 ?_
  refine x_sipush X (v := 511) dX7_of_4 (by decide) ?_
  refine x_iload_n X 1 dX7_of_7 rfl ?_
  refine x_imul X dX7_of_8 ?_
  refine x_iload_n X 2 dX7_of_9 rfl ?_
  refine x_iadd X dX7_of_10 ?_
  obtain ⟨hb1, h⟩ := h
  refine xa_M11 X K (show 0 < 1 by decide) hb1 dX7_of_11 ?_
  exact x_iret X E dX7_of_12 ⟨_, rfl, h⟩
set_option maxHeartbeats 2000000 in
set_option maxRecDepth 20000 in
theorem m_X7_of {l : Launch} {D : va_G} {cy : Nat → ClassId} {ad : Nat → Nat → Nat} (hi : xInj (shM cy) ad) {a1 : Int32} {a2 : Int32} {S : xS} {Q : Int32 → xS → Prop} (h : wp_X7_of a1 a2 S Q) : xMet l D (xTys cy) (shM cy) ad yX7_of cX7_of 3 (some .int) (xRm 0 0) [.ref (ad 0 0), .int a1, .int a2] S (xQi Q) := xMet_env hi (by decide +kernel) rfl (Nat.le_of_ble_eq_true rfl) (fun g hl V => w_X7_of V h)
set_option maxHeartbeats 2000000 in
set_option maxRecDepth 20000 in
theorem w_X7_put {g : xG} {D : va_G} {cy : Nat → ClassId} {ad : Nat → Nat → Nat} {a1 : Int32} {a2 : Int32} {a3 : Int32} {S : xS} {Q : xS → Prop} (V : xEnv g D (xTys cy) (shM cy) ad RX7 cX7_put none 0 0 4 (xQv Q)) (h : wp_X7_put a1 a2 a3 S Q) : Wx g (xW D (shM cy) ad S) 0 [(0, .ref (ad 0 0)), (1, .int a1), (2, .int a2), (3, .int a3)] [] := by
  obtain ⟨X, K, hi, hA, hR, E, hN⟩ := V
  have V := xEnv_mk X K hi hA hR E hN
  unfold wp_X7_put at h
  refine x_aload_n X 0 dX7_put_0 rfl ?_
  refine xg_X7_35 X K Nat.zero_lt_one dX7_put_1 ?_
  refine x_sipush X (v := 511) dX7_put_4 (by decide) ?_
  refine x_iload_n X 1 dX7_put_7 rfl ?_
  refine x_imul X dX7_put_8 ?_
  refine x_iload_n X 2 dX7_put_9 rfl ?_
  refine x_iadd X dX7_put_10 ?_
  refine x_iload_n X 3 dX7_put_11 rfl ?_
  obtain ⟨hb1, h⟩ := h
  refine xs_M11 X K hi hA (show 0 < 1 by decide) hb1 dX7_put_12 ?_
  exact x_vret X E dX7_put_13 ⟨rfl, h⟩
set_option maxHeartbeats 2000000 in
set_option maxRecDepth 20000 in
theorem m_X7_put {l : Launch} {D : va_G} {cy : Nat → ClassId} {ad : Nat → Nat → Nat} (hi : xInj (shM cy) ad) {a1 : Int32} {a2 : Int32} {a3 : Int32} {S : xS} {Q : xS → Prop} (h : wp_X7_put a1 a2 a3 S Q) : xMet l D (xTys cy) (shM cy) ad yX7_put cX7_put 4 none (xRm 0 0) [.ref (ad 0 0), .int a1, .int a2, .int a3] S (xQv Q) := xMet_env hi (by decide +kernel) rfl (Nat.le_of_ble_eq_true rfl) (fun g hl V => w_X7_put V h)
set_option maxHeartbeats 2000000 in
set_option maxRecDepth 20000 in
theorem w_X7_noGlyph_21 {g : xG} {D : va_G} {cy : Nat → ClassId} {ad : Nat → Nat → Nat} {Q : Int32 → xS → Prop} (V : xEnv g D (xTys cy) (shM cy) ad RX7 cX7_noGlyph (some .boolean) 1 25 2 (xQi Q)) (S : xS) (s0 : Int32) (h : wp_X7_noGlyph_21 Q S s0) : Wx g (xW D (shM cy) ad S) 21 [] [.int s0] := by
  obtain ⟨X, K, hi, hA, hR, E, hN⟩ := V
  have V := xEnv_mk X K hi hA hR E hN
  unfold wp_X7_noGlyph_21 at h
  exact x_zret X E dX7_noGlyph_21 h.1 ⟨_, rfl, h.2⟩
set_option maxHeartbeats 2000000 in
set_option maxRecDepth 20000 in
theorem w_X7_noGlyph {g : xG} {D : va_G} {cy : Nat → ClassId} {ad : Nat → Nat → Nat} {a1 : Int32} {S : xS} {Q : Int32 → xS → Prop} (V : xEnv g D (xTys cy) (shM cy) ad RX7 cX7_noGlyph (some .boolean) 1 25 2 (xQi Q)) (h : wp_X7_noGlyph a1 S Q) : Wx g (xW D (shM cy) ad S) 0 [(0, .ref (ad 0 0)), (1, .int a1)] [] := by
  obtain ⟨X, K, hi, hA, hR, E, hN⟩ := V
  have V := xEnv_mk X K hi hA hR E hN
  unfold wp_X7_noGlyph at h
  refine x_iload_n X 1 dX7_noGlyph_0 rfl ?_
  refine x_i2l X dX7_noGlyph_1 ?_
  refine x_lconst X (v := 0) dX7_noGlyph_2 (by decide) ?_
  refine x_aload_n X 0 dX7_noGlyph_3 rfl ?_
  refine xg_X7_146 X K Nat.zero_lt_one dX7_noGlyph_4 ?_
  refine x_i2l X dX7_noGlyph_7 ?_
  refine x_lconst X (v := 1) dX7_noGlyph_8 (by decide) ?_
  refine x_lsub X dX7_noGlyph_9 ?_
  refine x_calli hA (x_runS (n := 3) X K hR (fun _ q => q) (m_X7_in hi  h) t4_135 t4_136 t1_8 t4_137 ⟨by decide, by decide, by decide +kernel⟩ rfl (by decide) (by decide) rfl (Nat.le_of_ble_eq_true rfl) dX7_noGlyph_10) (fun r2 S1 h => ?_)
  refine x_if_ne X 20 dX7_noGlyph_13 (by decide) h (fun h => ?_) (fun h => ?_)
  · refine x_iconst X (v := 1) dX7_noGlyph_16 (by decide) ?_
    refine x_goto X 21 dX7_noGlyph_17 (by decide) ?_
    refine x_sub [] rfl ?_
    exact w_X7_noGlyph_21 V S1 (1 : Int32) h
  · refine x_iconst X (v := 0) dX7_noGlyph_20 (by decide) ?_
    refine x_sub [] rfl ?_
    exact w_X7_noGlyph_21 V S1 (0 : Int32) h
set_option maxHeartbeats 2000000 in
set_option maxRecDepth 20000 in
theorem m_X7_noGlyph {l : Launch} {D : va_G} {cy : Nat → ClassId} {ad : Nat → Nat → Nat} (hi : xInj (shM cy) ad) {a1 : Int32} {S : xS} {Q : Int32 → xS → Prop} (h : wp_X7_noGlyph a1 S Q) : xMet l D (xTys cy) (shM cy) ad yX7_noGlyph cX7_noGlyph 2 (some .boolean) (xRm 1 25) [.ref (ad 0 0), .int a1] S (xQi Q) := xMet_env hi (by decide +kernel) rfl (Nat.le_of_ble_eq_true rfl) (fun g hl V => w_X7_noGlyph V h)
set_option maxHeartbeats 2000000 in
set_option maxRecDepth 20000 in
theorem w_X7_addGlyph_42 {g : xG} {D : va_G} {cy : Nat → ClassId} {ad : Nat → Nat → Nat} {a2 : Int32} {Q : Int32 → xS → Prop} (V : xEnv g D (xTys cy) (shM cy) ad RX7 cX7_addGlyph (some .int) 1 25 3 (xQi Q)) (S : xS) (s1 : Int32) (s2 : Int32) (s3 : Int32) (h : wp_X7_addGlyph_42 a2 Q S s1 s2 s3) : Wx g (xW D (shM cy) ad S) 42 [(0, .ref (ad 0 0)), (2, .int a2)] [.int s3, .int s2, .int s1, .ref (ad 0 0)] := by
  obtain ⟨X, K, hi, hA, hR, E, hN⟩ := V
  have V := xEnv_mk X K hi hA hR E hN
  unfold wp_X7_addGlyph_42 at h
  refine x_callv hA (x_runV (n := 3) (sh := shM cy) X K hR (fun _ q => q) (m_X7_put hi  h) (kM_0 cy (Nat.zero_lt_one)) rfl rfl t4_191 t4_193 tp_29 t1_8 t4_194 ⟨by decide, by decide, by decide +kernel⟩ rfl (by decide) (by decide) rfl (Nat.le_of_ble_eq_true rfl) dX7_addGlyph_42) (fun S1 h => ?_)
  refine x_aload_n X 0 dX7_addGlyph_45 rfl ?_
  refine x_aload_n X 0 dX7_addGlyph_46 rfl ?_
  refine xg_X7_146 X K (Nat.zero_lt_one) dX7_addGlyph_47 ?_
  refine x_iconst X (v := 1) dX7_addGlyph_50 (by decide) ?_
  refine x_iload_n X 1 dX7_addGlyph_51 rfl ?_
  refine x_callv hA (x_runV (n := 3) (sh := shM cy) X K hR (fun _ q => q) (m_X7_put hi  h) (kM_0 cy (Nat.zero_lt_one)) rfl rfl t4_191 t4_193 tp_29 t1_8 t4_194 ⟨by decide, by decide, by decide +kernel⟩ rfl (by decide) (by decide) rfl (Nat.le_of_ble_eq_true rfl) dX7_addGlyph_52) (fun S3 h => ?_)
  refine x_aload_n X 0 dX7_addGlyph_55 rfl ?_
  refine x_dup X dX7_addGlyph_56 rfl ?_
  refine xg_X7_146 X K (Nat.zero_lt_one) dX7_addGlyph_57 ?_
  refine x_iconst X (v := 1) dX7_addGlyph_60 (by decide) ?_
  refine x_iadd X dX7_addGlyph_61 ?_
  refine xp_X7_146 X K hi hA (Nat.zero_lt_one) dX7_addGlyph_62 ?_
  refine x_aload_n X 0 dX7_addGlyph_65 rfl ?_
  refine xg_X7_146 X K (Nat.zero_lt_one) dX7_addGlyph_66 ?_
  refine x_iconst X (v := 1) dX7_addGlyph_69 (by decide) ?_
  refine x_isub X dX7_addGlyph_70 ?_
  exact x_iret X E dX7_addGlyph_71 ⟨_, rfl, h⟩
set_option maxHeartbeats 2000000 in
set_option maxRecDepth 20000 in
theorem w_X7_addGlyph {g : xG} {D : va_G} {cy : Nat → ClassId} {ad : Nat → Nat → Nat} {a1 : Int32} {a2 : Int32} {S : xS} {Q : Int32 → xS → Prop} (V : xEnv g D (xTys cy) (shM cy) ad RX7 cX7_addGlyph (some .int) 1 25 3 (xQi Q)) (h : wp_X7_addGlyph a1 a2 S Q) : Wx g (xW D (shM cy) ad S) 0 [(0, .ref (ad 0 0)), (1, .int a1), (2, .int a2)] [] := by
  obtain ⟨X, K, hi, hA, hR, E, hN⟩ := V
  have V := xEnv_mk X K hi hA hR E hN
  unfold wp_X7_addGlyph at h
  refine x_iload_n X 2 dX7_addGlyph_0 rfl ?_
  refine x_i2l X dX7_addGlyph_1 ?_
  refine x_lconst X (v := 0) dX7_addGlyph_2 (by decide) ?_
  refine x_ldc2 X (v := 4000) t4_190 dX7_addGlyph_3 ?_
  refine x_calli hA (x_runS (n := 3) X K hR (fun _ q => q) (m_X7_in hi  h) t4_135 t4_136 t1_8 t4_137 ⟨by decide, by decide, by decide +kernel⟩ rfl (by decide) (by decide) rfl (Nat.le_of_ble_eq_true rfl) dX7_addGlyph_6) (fun r2 S1 h => ?_)
  refine x_if_ne X 15 dX7_addGlyph_9 (by decide) h (fun h => ?_) (fun h => ?_)
  · refine x_ldc X (v := -1000005) t4_138 dX7_addGlyph_12 ?_
    exact x_iret X E dX7_addGlyph_14 ⟨_, rfl, h⟩
  · refine x_aload_n X 0 dX7_addGlyph_15 rfl ?_
    refine xg_X7_146 X K Nat.zero_lt_one dX7_addGlyph_16 ?_
    refine x_bipush X (v := 6) dX7_addGlyph_19 (by decide) ?_
    refine x_icmp_ne X 27 dX7_addGlyph_21 (by decide) h (fun h => ?_) (fun h => ?_)
    · refine x_ldc X (v := -1000006) t4_139 dX7_addGlyph_24 ?_
      exact x_iret X E dX7_addGlyph_26 ⟨_, rfl, h⟩
    · refine x_aload_n X 0 dX7_addGlyph_27 rfl ?_
      refine x_aload_n X 0 dX7_addGlyph_28 rfl ?_
      refine xg_X7_146 X K Nat.zero_lt_one dX7_addGlyph_29 ?_
      refine x_iconst X (v := 0) dX7_addGlyph_32 (by decide) ?_
      refine x_iload_n X 1 dX7_addGlyph_33 rfl ?_
      refine x_if_eq X 41 dX7_addGlyph_34 (by decide) h (fun h => ?_) (fun h => ?_)
      · refine x_iconst X (v := 0) dX7_addGlyph_41 (by decide) ?_
        refine x_sub [0, 2] rfl ?_
        exact w_X7_addGlyph_42 V S1 (S1.1 0 0 9) (0 : Int32) (0 : Int32) h
      · refine x_iconst X (v := 1) dX7_addGlyph_37 (by decide) ?_
        refine x_goto X 42 dX7_addGlyph_38 (by decide) ?_
        refine x_sub [0, 2] rfl ?_
        exact w_X7_addGlyph_42 V S1 (S1.1 0 0 9) (0 : Int32) (1 : Int32) h
set_option maxHeartbeats 2000000 in
set_option maxRecDepth 20000 in
theorem m_X7_addGlyph {l : Launch} {D : va_G} {cy : Nat → ClassId} {ad : Nat → Nat → Nat} (hi : xInj (shM cy) ad) {a1 : Int32} {a2 : Int32} {S : xS} {Q : Int32 → xS → Prop} (h : wp_X7_addGlyph a1 a2 S Q) : xMet l D (xTys cy) (shM cy) ad yX7_addGlyph cX7_addGlyph 3 (some .int) (xRm 1 25) [.ref (ad 0 0), .int a1, .int a2] S (xQi Q) := xMet_env hi (by decide +kernel) rfl (Nat.le_of_ble_eq_true rfl) (fun g hl V => w_X7_addGlyph V h)
set_option maxHeartbeats 2000000 in
set_option maxRecDepth 20000 in
theorem w_X7_isPart_68 {g : xG} {D : va_G} {cy : Nat → ClassId} {ad : Nat → Nat → Nat} {a1 : Int32} {K6 : xS → Int32 → Int32 → Prop} {Q : Int32 → xS → Prop} (V : xEnv g D (xTys cy) (shM cy) ad RX7 cX7_isPart (some .boolean) 1 22 5 (xQi Q)) (hK6 : ∀ (S : xS) (v2 : Int32) (v3 : Int32), K6 S v2 v3 → Wx g (xW D (shM cy) ad S) 6 [(0, .ref (ad 0 0)), (1, .int a1), (2, .int v2), (3, .int v3)] []) (S : xS) (v2 : Int32) (v3 : Int32) (h : wp_X7_isPart_68 a1 K6 Q S v2 v3) : Wx g (xW D (shM cy) ad S) 68 [(0, .ref (ad 0 0)), (1, .int a1), (2, .int v2), (3, .int v3)] [] := by
  obtain ⟨X, K, hi, hA, hR, E, hN⟩ := V
  have V := xEnv_mk X K hi hA hR E hN
  unfold wp_X7_isPart_68 at h
  refine x_iinc X 3 [(3, .int (v3 + (1 : Int32))), (0, .ref (ad 0 0)), (1, .int a1), (2, .int v2)] dX7_isPart_68 rfl rfl (by rw [hN]; decide) rfl ?_
  refine x_goto X 6 dX7_isPart_71 (by decide) ?_
  refine x_sub [1, 2, 3, 0] rfl ?_
  exact hK6 S v2 (v3 + (1 : Int32)) h
set_option maxHeartbeats 2000000 in
set_option maxRecDepth 20000 in
theorem w_X7_isPart_61 {g : xG} {D : va_G} {cy : Nat → ClassId} {ad : Nat → Nat → Nat} {a1 : Int32} {K6 : xS → Int32 → Int32 → Prop} {K17 : xS → Int32 → Int32 → Int32 → Prop} {Q : Int32 → xS → Prop} (V : xEnv g D (xTys cy) (shM cy) ad RX7 cX7_isPart (some .boolean) 1 22 5 (xQi Q)) (hK6 : ∀ (S : xS) (v2 : Int32) (v3 : Int32), K6 S v2 v3 → Wx g (xW D (shM cy) ad S) 6 [(0, .ref (ad 0 0)), (1, .int a1), (2, .int v2), (3, .int v3)] []) (hK17 : ∀ (S : xS) (v2 : Int32) (v3 : Int32) (v4 : Int32), K17 S v2 v3 v4 → Wx g (xW D (shM cy) ad S) 17 [(0, .ref (ad 0 0)), (1, .int a1), (2, .int v2), (3, .int v3), (4, .int v4)] []) (S : xS) (v3 : Int32) (v4 : Int32) (s0 : Int32) (h : wp_X7_isPart_61 a1 K6 K17 Q S v3 v4 s0) : Wx g (xW D (shM cy) ad S) 61 [(0, .ref (ad 0 0)), (1, .int a1), (3, .int v3), (4, .int v4)] [.int s0] := by
  obtain ⟨X, K, hi, hA, hR, E, hN⟩ := V
  have V := xEnv_mk X K hi hA hR E hN
  unfold wp_X7_isPart_61 at h
  refine x_istore_n X [(2, .int s0), (0, .ref (ad 0 0)), (1, .int a1), (3, .int v3), (4, .int v4)] dX7_isPart_61 (by rw [hN]; decide) rfl ?_
  refine x_iinc X 4 [(4, .int (v4 + (1 : Int32))), (2, .int s0), (0, .ref (ad 0 0)), (1, .int a1), (3, .int v3)] dX7_isPart_62 rfl rfl (by rw [hN]; decide) rfl ?_
  refine x_goto X 17 dX7_isPart_65 (by decide) ?_
  refine x_sub [2, 3, 1, 4, 0] rfl ?_
  exact hK17 S s0 v3 (v4 + (1 : Int32)) h
set_option maxHeartbeats 2000000 in
set_option maxRecDepth 20000 in
theorem w_X7_isPart_56 {g : xG} {D : va_G} {cy : Nat → ClassId} {ad : Nat → Nat → Nat} {a1 : Int32} {K6 : xS → Int32 → Int32 → Prop} {K17 : xS → Int32 → Int32 → Int32 → Prop} {Q : Int32 → xS → Prop} (V : xEnv g D (xTys cy) (shM cy) ad RX7 cX7_isPart (some .boolean) 1 22 5 (xQi Q)) (hK6 : ∀ (S : xS) (v2 : Int32) (v3 : Int32), K6 S v2 v3 → Wx g (xW D (shM cy) ad S) 6 [(0, .ref (ad 0 0)), (1, .int a1), (2, .int v2), (3, .int v3)] []) (hK17 : ∀ (S : xS) (v2 : Int32) (v3 : Int32) (v4 : Int32), K17 S v2 v3 v4 → Wx g (xW D (shM cy) ad S) 17 [(0, .ref (ad 0 0)), (1, .int a1), (2, .int v2), (3, .int v3), (4, .int v4)] []) (S : xS) (v3 : Int32) (v4 : Int32) (h : wp_X7_isPart_56 a1 K6 K17 Q S v3 v4) : Wx g (xW D (shM cy) ad S) 56 [(0, .ref (ad 0 0)), (1, .int a1), (3, .int v3), (4, .int v4)] [] := by
  obtain ⟨X, K, hi, hA, hR, E, hN⟩ := V
  have V := xEnv_mk X K hi hA hR E hN
  unfold wp_X7_isPart_56 at h
  refine x_iconst X (v := 1) dX7_isPart_56 (by decide) ?_
  refine x_goto X 61 dX7_isPart_57 (by decide) ?_
  refine x_sub [0, 1, 2, 3] rfl ?_
  exact w_X7_isPart_61 V hK6 hK17 S v3 v4 (1 : Int32) h
set_option maxHeartbeats 2000000 in
set_option maxRecDepth 20000 in
theorem w_X7_isPart_17_b {g : xG} {D : va_G} {cy : Nat → ClassId} {ad : Nat → Nat → Nat} {a1 : Int32} {K6 : xS → Int32 → Int32 → Prop} {K17 : xS → Int32 → Int32 → Int32 → Prop} {Q : Int32 → xS → Prop} (V : xEnv g D (xTys cy) (shM cy) ad RX7 cX7_isPart (some .boolean) 1 22 5 (xQi Q)) (hK6 : ∀ (S : xS) (v2 : Int32) (v3 : Int32), K6 S v2 v3 → Wx g (xW D (shM cy) ad S) 6 [(0, .ref (ad 0 0)), (1, .int a1), (2, .int v2), (3, .int v3)] []) (hK17 : ∀ (S : xS) (v2 : Int32) (v3 : Int32) (v4 : Int32), K17 S v2 v3 v4 → Wx g (xW D (shM cy) ad S) 17 [(0, .ref (ad 0 0)), (1, .int a1), (2, .int v2), (3, .int v3), (4, .int v4)] []) (S : xS) (v2 : Int32) (v3 : Int32) (v4 : Int32) (h : wp_X7_isPart_17_b a1 K6 K17 Q S v2 v3 v4) : Wx g (xW D (shM cy) ad S) 17 [(0, .ref (ad 0 0)), (1, .int a1), (2, .int v2), (3, .int v3), (4, .int v4)] [] := by
  obtain ⟨X, K, hi, hA, hR, E, hN⟩ := V
  have V := xEnv_mk X K hi hA hR E hN
  unfold wp_X7_isPart_17_b at h
  refine x_iload X 4 dX7_isPart_17 rfl ?_
  refine x_aload_n X 0 dX7_isPart_19 rfl ?_
  refine x_iload_n X 3 dX7_isPart_20 rfl ?_
  refine x_iconst X (v := 2) dX7_isPart_21 (by decide) ?_
  refine x_calli hA (x_runV (n := 2) (sh := shM cy) X K hR (fun _ q => q) (m_X7_of hi  h) (kM_0 cy (Nat.zero_lt_one)) rfl rfl t4_208 t4_210 tp_31 t1_8 t4_211 ⟨by decide, by decide, by decide +kernel⟩ rfl (by decide) (by decide) rfl (Nat.le_of_ble_eq_true rfl) dX7_isPart_22) (fun r2 S1 h => ?_)
  refine x_icmp_ge X 68 dX7_isPart_25 (by decide) h (fun h => ?_) (fun h => ?_)
  · refine x_sub [0, 1, 2, 3] rfl ?_
    exact w_X7_isPart_68 V hK6 S1 v2 v3 h
  · refine x_aload_n X 0 dX7_isPart_28 rfl ?_
    refine x_iload_n X 3 dX7_isPart_29 rfl ?_
    refine x_iconst X (v := 0) dX7_isPart_30 (by decide) ?_
    refine x_calli hA (x_runV (n := 2) (sh := shM cy) X K hR (fun _ q => q) (m_X7_of hi  h) (kM_0 cy (Nat.zero_lt_one)) rfl rfl t4_208 t4_210 tp_31 t1_8 t4_211 ⟨by decide, by decide, by decide +kernel⟩ rfl (by decide) (by decide) rfl (Nat.le_of_ble_eq_true rfl) dX7_isPart_31) (fun r4 S3 h => ?_)
    refine x_iconst X (v := 1) dX7_isPart_34 (by decide) ?_
    refine x_icmp_ne X 68 dX7_isPart_35 (by decide) h (fun h => ?_) (fun h => ?_)
    · refine x_iload_n X 2 dX7_isPart_38 rfl ?_
      refine x_if_ne X 56 dX7_isPart_39 (by decide) h (fun h => ?_) (fun h => ?_)
      · refine x_aload_n X 0 dX7_isPart_42 rfl ?_
        refine x_iload_n X 3 dX7_isPart_43 rfl ?_
        refine x_bipush X (v := 52) dX7_isPart_44 (by decide) ?_
        refine x_iload X 4 dX7_isPart_46 rfl ?_
        refine x_iadd X dX7_isPart_48 ?_
        refine x_calli hA (x_runV (n := 2) (sh := shM cy) X K hR (fun _ q => q) (m_X7_of hi  h) (kM_0 cy (Nat.zero_lt_one)) rfl rfl t4_208 t4_210 tp_31 t1_8 t4_211 ⟨by decide, by decide, by decide +kernel⟩ rfl (by decide) (by decide) rfl (Nat.le_of_ble_eq_true rfl) dX7_isPart_49) (fun r6 S5 h => ?_)
        refine x_iload_n X 1 dX7_isPart_52 rfl ?_
        refine x_icmp_ne X 60 dX7_isPart_53 (by decide) h (fun h => ?_) (fun h => ?_)
        · refine x_sub [0, 1, 3, 4] rfl ?_
          exact w_X7_isPart_56 V hK6 hK17 S5 v3 v4 h
        · refine x_iconst X (v := 0) dX7_isPart_60 (by decide) ?_
          refine x_sub [0, 1, 3, 4] rfl ?_
          exact w_X7_isPart_61 V hK6 hK17 S5 v3 v4 (0 : Int32) h
      · refine x_sub [0, 1, 3, 4] rfl ?_
        exact w_X7_isPart_56 V hK6 hK17 S3 v3 v4 h
    · refine x_sub [0, 1, 2, 3] rfl ?_
      exact w_X7_isPart_68 V hK6 S3 v2 v3 h
set_option maxHeartbeats 2000000 in
set_option maxRecDepth 20000 in
theorem w_X7_isPart_17 {g : xG} {D : va_G} {cy : Nat → ClassId} {ad : Nat → Nat → Nat} {a1 : Int32} {K6 : xS → Int32 → Int32 → Prop} {Q : Int32 → xS → Prop} (V : xEnv g D (xTys cy) (shM cy) ad RX7 cX7_isPart (some .boolean) 1 22 5 (xQi Q)) (hK6 : ∀ (S : xS) (v2 : Int32) (v3 : Int32), K6 S v2 v3 → Wx g (xW D (shM cy) ad S) 6 [(0, .ref (ad 0 0)), (1, .int a1), (2, .int v2), (3, .int v3)] []) (n : Nat) : ∀ (S : xS) (v2 : Int32) (v3 : Int32) (v4 : Int32), wp_X7_isPart_17 a1 K6 Q n S v2 v3 v4 → Wx g (xW D (shM cy) ad S) 17 [(0, .ref (ad 0 0)), (1, .int a1), (2, .int v2), (3, .int v3), (4, .int v4)] [] := by
  induction n with
  | zero => intro S v2 v3 v4 h; exact h.elim
  | succ n ih => intro S v2 v3 v4 h; exact w_X7_isPart_17_b V hK6 (fun S v2 v3 v4 h => ih S v2 v3 v4 h) S v2 v3 v4 h
set_option maxHeartbeats 2000000 in
set_option maxRecDepth 20000 in
theorem w_X7_isPart_6_b {g : xG} {D : va_G} {cy : Nat → ClassId} {ad : Nat → Nat → Nat} {a1 : Int32} {K6 : xS → Int32 → Int32 → Prop} {Q : Int32 → xS → Prop} (V : xEnv g D (xTys cy) (shM cy) ad RX7 cX7_isPart (some .boolean) 1 22 5 (xQi Q)) (hK6 : ∀ (S : xS) (v2 : Int32) (v3 : Int32), K6 S v2 v3 → Wx g (xW D (shM cy) ad S) 6 [(0, .ref (ad 0 0)), (1, .int a1), (2, .int v2), (3, .int v3)] []) (S : xS) (v2 : Int32) (v3 : Int32) (h : wp_X7_isPart_6_b a1 K6 Q S v2 v3) : Wx g (xW D (shM cy) ad S) 6 [(0, .ref (ad 0 0)), (1, .int a1), (2, .int v2), (3, .int v3)] [] := by
  obtain ⟨X, K, hi, hA, hR, E, hN⟩ := V
  have V := xEnv_mk X K hi hA hR E hN
  unfold wp_X7_isPart_6_b at h
  refine x_iload_n X 3 dX7_isPart_6 rfl ?_
  refine x_aload_n X 0 dX7_isPart_7 rfl ?_
  refine xg_X7_146 X K (Nat.zero_lt_one) dX7_isPart_8 ?_
  refine x_icmp_ge X 74 dX7_isPart_11 (by decide) h (fun h => ?_) (fun h => ?_)
  · refine x_iload_n X 2 dX7_isPart_74 rfl ?_
    exact x_zret X E dX7_isPart_75 h.1 ⟨_, rfl, h.2⟩
  · refine x_iconst X (v := 0) dX7_isPart_14 (by decide) ?_
    refine x_istore X [(4, .int (0 : Int32)), (0, .ref (ad 0 0)), (1, .int a1), (2, .int v2), (3, .int v3)] dX7_isPart_15 (by rw [hN]; decide) rfl ?_
    refine x_sub [1, 2, 3, 4, 0] rfl ?_
    obtain ⟨n1, h⟩ := h
    exact w_X7_isPart_17 V hK6 n1 S v2 v3 (0 : Int32) h
set_option maxHeartbeats 2000000 in
set_option maxRecDepth 20000 in
theorem w_X7_isPart_6 {g : xG} {D : va_G} {cy : Nat → ClassId} {ad : Nat → Nat → Nat} {a1 : Int32} {Q : Int32 → xS → Prop} (V : xEnv g D (xTys cy) (shM cy) ad RX7 cX7_isPart (some .boolean) 1 22 5 (xQi Q)) (n : Nat) : ∀ (S : xS) (v2 : Int32) (v3 : Int32), wp_X7_isPart_6 a1 Q n S v2 v3 → Wx g (xW D (shM cy) ad S) 6 [(0, .ref (ad 0 0)), (1, .int a1), (2, .int v2), (3, .int v3)] [] := by
  induction n with
  | zero => intro S v2 v3 h; exact h.elim
  | succ n ih => intro S v2 v3 h; exact w_X7_isPart_6_b V (fun S v2 v3 h => ih S v2 v3 h) S v2 v3 h
set_option maxHeartbeats 2000000 in
set_option maxRecDepth 20000 in
theorem w_X7_isPart {g : xG} {D : va_G} {cy : Nat → ClassId} {ad : Nat → Nat → Nat} {a1 : Int32} {S : xS} {Q : Int32 → xS → Prop} (V : xEnv g D (xTys cy) (shM cy) ad RX7 cX7_isPart (some .boolean) 1 22 5 (xQi Q)) (h : wp_X7_isPart a1 S Q) : Wx g (xW D (shM cy) ad S) 0 [(0, .ref (ad 0 0)), (1, .int a1)] [] := by
  obtain ⟨X, K, hi, hA, hR, E, hN⟩ := V
  have V := xEnv_mk X K hi hA hR E hN
  unfold wp_X7_isPart at h
  refine x_iconst X (v := 0) dX7_isPart_0 (by decide) ?_
  refine x_istore_n X [(2, .int (0 : Int32)), (0, .ref (ad 0 0)), (1, .int a1)] dX7_isPart_1 (by rw [hN]; decide) rfl ?_
  refine x_iload_n X 2 dX7_isPart_2 rfl ?_
  refine x_iconst X (v := 1) dX7_isPart_3 (by decide) ?_
  refine x_iadd X dX7_isPart_4 ?_
  refine x_istore_n X [(3, .int (a1 + (1 : Int32))), (2, .int (0 : Int32)), (0, .ref (ad 0 0)), (1, .int a1)] dX7_isPart_5 (by rw [hN]; decide) rfl ?_
  refine x_sub [2, 3, 1, 0] rfl ?_
  obtain ⟨n1, h⟩ := h
  exact w_X7_isPart_6 V n1 S (0 : Int32) (a1 + (1 : Int32)) h
set_option maxHeartbeats 2000000 in
set_option maxRecDepth 20000 in
theorem m_X7_isPart {l : Launch} {D : va_G} {cy : Nat → ClassId} {ad : Nat → Nat → Nat} (hi : xInj (shM cy) ad) {a1 : Int32} {S : xS} {Q : Int32 → xS → Prop} (h : wp_X7_isPart a1 S Q) : xMet l D (xTys cy) (shM cy) ad yX7_isPart cX7_isPart 5 (some .boolean) (xRm 1 22) [.ref (ad 0 0), .int a1] S (xQi Q) := xMet_env hi (by decide +kernel) rfl (Nat.le_of_ble_eq_true rfl) (fun g hl V => w_X7_isPart V h)
set_option maxHeartbeats 2000000 in
set_option maxRecDepth 20000 in
theorem w_X7_isPlace_33 {g : xG} {D : va_G} {cy : Nat → ClassId} {ad : Nat → Nat → Nat} {Q : Int32 → xS → Prop} (V : xEnv g D (xTys cy) (shM cy) ad RX7 cX7_isPlace (some .boolean) 1 25 2 (xQi Q)) (S : xS) (s0 : Int32) (h : wp_X7_isPlace_33 Q S s0) : Wx g (xW D (shM cy) ad S) 33 [] [.int s0] := by
  obtain ⟨X, K, hi, hA, hR, E, hN⟩ := V
  have V := xEnv_mk X K hi hA hR E hN
  unfold wp_X7_isPlace_33 at h
  exact x_zret X E dX7_isPlace_33 h.1 ⟨_, rfl, h.2⟩
set_option maxHeartbeats 2000000 in
set_option maxRecDepth 20000 in
theorem w_X7_isPlace_32 {g : xG} {D : va_G} {cy : Nat → ClassId} {ad : Nat → Nat → Nat} {Q : Int32 → xS → Prop} (V : xEnv g D (xTys cy) (shM cy) ad RX7 cX7_isPlace (some .boolean) 1 25 2 (xQi Q)) (S : xS) (h : wp_X7_isPlace_32 Q S) : Wx g (xW D (shM cy) ad S) 32 [] [] := by
  obtain ⟨X, K, hi, hA, hR, E, hN⟩ := V
  have V := xEnv_mk X K hi hA hR E hN
  unfold wp_X7_isPlace_32 at h
  refine x_iconst X (v := 0) dX7_isPlace_32 (by decide) ?_
  refine x_sub [] rfl ?_
  exact w_X7_isPlace_33 V S (0 : Int32) h
set_option maxHeartbeats 2000000 in
set_option maxRecDepth 20000 in
theorem w_X7_isPlace {g : xG} {D : va_G} {cy : Nat → ClassId} {ad : Nat → Nat → Nat} {a0 : Int32} {a1 : Int32} {S : xS} {Q : Int32 → xS → Prop} (V : xEnv g D (xTys cy) (shM cy) ad RX7 cX7_isPlace (some .boolean) 1 25 2 (xQi Q)) (h : wp_X7_isPlace a0 a1 S Q) : Wx g (xW D (shM cy) ad S) 0 [(0, .int a0), (1, .int a1)] [] := by
  obtain ⟨X, K, hi, hA, hR, E, hN⟩ := V
  have V := xEnv_mk X K hi hA hR E hN
  unfold wp_X7_isPlace at h
  refine x_iload_n X 0 dX7_isPlace_0 rfl ?_
  refine x_i2l X dX7_isPlace_1 ?_
  refine x_ldc2 X (v := -4000) t4_207 dX7_isPlace_2 ?_
  refine x_ldc2 X (v := 4000) t4_190 dX7_isPlace_5 ?_
  refine x_calli hA (x_runS (n := 3) X K hR (fun _ q => q) (m_X7_in hi  h) t4_135 t4_136 t1_8 t4_137 ⟨by decide, by decide, by decide +kernel⟩ rfl (by decide) (by decide) rfl (Nat.le_of_ble_eq_true rfl) dX7_isPlace_8) (fun r2 S1 h => ?_)
  refine x_if_eq X 32 dX7_isPlace_11 (by decide) h (fun h => ?_) (fun h => ?_)
  · refine x_sub [] rfl ?_
    exact w_X7_isPlace_32 V S1 h
  · refine x_iload_n X 1 dX7_isPlace_14 rfl ?_
    refine x_i2l X dX7_isPlace_15 ?_
    refine x_ldc2 X (v := -4000) t4_207 dX7_isPlace_16 ?_
    refine x_ldc2 X (v := 4000) t4_190 dX7_isPlace_19 ?_
    refine x_calli hA (x_runS (n := 3) X K hR (fun _ q => q) (m_X7_in hi  h) t4_135 t4_136 t1_8 t4_137 ⟨by decide, by decide, by decide +kernel⟩ rfl (by decide) (by decide) rfl (Nat.le_of_ble_eq_true rfl) dX7_isPlace_22) (fun r4 S3 h => ?_)
    refine x_if_eq X 32 dX7_isPlace_25 (by decide) h (fun h => ?_) (fun h => ?_)
    · refine x_sub [] rfl ?_
      exact w_X7_isPlace_32 V S3 h
    · refine x_iconst X (v := 1) dX7_isPlace_28 (by decide) ?_
      refine x_goto X 33 dX7_isPlace_29 (by decide) ?_
      refine x_sub [] rfl ?_
      exact w_X7_isPlace_33 V S3 (1 : Int32) h
set_option maxHeartbeats 2000000 in
set_option maxRecDepth 20000 in
theorem m_X7_isPlace {l : Launch} {D : va_G} {cy : Nat → ClassId} {ad : Nat → Nat → Nat} (hi : xInj (shM cy) ad) {a0 : Int32} {a1 : Int32} {S : xS} {Q : Int32 → xS → Prop} (h : wp_X7_isPlace a0 a1 S Q) : xMet l D (xTys cy) (shM cy) ad yX7_isPlace cX7_isPlace 2 (some .boolean) (xRm 1 25) [.int a0, .int a1] S (xQi Q) := xMet_env hi (by decide +kernel) rfl (Nat.le_of_ble_eq_true rfl) (fun g hl V => w_X7_isPlace V h)
set_option maxHeartbeats 2000000 in
set_option maxRecDepth 20000 in
theorem w_X7_addPlace_44_b {g : xG} {D : va_G} {cy : Nat → ClassId} {ad : Nat → Nat → Nat} {a1 : Int32} {K44 : xS → Int32 → Int32 → Prop} {Q : Int32 → xS → Prop} (V : xEnv g D (xTys cy) (shM cy) ad RX7 cX7_addPlace (some .int) 1 23 7 (xQi Q)) (hK44 : ∀ (S : xS) (v5 : Int32) (v6 : Int32), K44 S v5 v6 → Wx g (xW D (shM cy) ad S) 44 [(0, .ref (ad 0 0)), (1, .int a1), (5, .int v5), (6, .int v6)] []) (S : xS) (v5 : Int32) (v6 : Int32) (h : wp_X7_addPlace_44_b a1 K44 Q S v5 v6) : Wx g (xW D (shM cy) ad S) 44 [(0, .ref (ad 0 0)), (1, .int a1), (5, .int v5), (6, .int v6)] [] := by
  obtain ⟨X, K, hi, hA, hR, E, hN⟩ := V
  have V := xEnv_mk X K hi hA hR E hN
  unfold wp_X7_addPlace_44_b at h
  refine x_iload X 3 dX7_addPlace_44 rfl ?_
  refine x_aload_n X 0 dX7_addPlace_46 rfl ?_
  refine x_iload_n X 1 dX7_addPlace_47 rfl ?_
  refine x_iconst X (v := 3) dX7_addPlace_48 (by decide) ?_
  refine x_calli hA (x_runV (n := 2) (sh := shM cy) X K hR (fun _ q => q) (m_X7_of hi  h) (kM_0 cy (Nat.zero_lt_one)) rfl rfl t4_208 t4_210 tp_31 t1_8 t4_211 ⟨by decide, by decide, by decide +kernel⟩ rfl (by decide) (by decide) rfl (Nat.le_of_ble_eq_true rfl) dX7_addPlace_49) (fun r2 S1 h => ?_)
  refine x_icmp_ge X 81 dX7_addPlace_52 (by decide) h (fun h => ?_) (fun h => ?_)
  · refine x_aload_n X 0 dX7_addPlace_81 rfl ?_
    refine x_iload_n X 1 dX7_addPlace_82 rfl ?_
    refine x_iconst X (v := 2) dX7_addPlace_83 (by decide) ?_
    refine x_iload X 2 dX7_addPlace_84 rfl ?_
    refine x_iconst X (v := 1) dX7_addPlace_86 (by decide) ?_
    refine x_iadd X dX7_addPlace_87 ?_
    refine x_callv hA (x_runV (n := 3) (sh := shM cy) X K hR (fun _ q => q) (m_X7_put hi  h) (kM_0 cy (Nat.zero_lt_one)) rfl rfl t4_191 t4_193 tp_29 t1_8 t4_194 ⟨by decide, by decide, by decide +kernel⟩ rfl (by decide) (by decide) rfl (Nat.le_of_ble_eq_true rfl) dX7_addPlace_88) (fun S3 h => ?_)
    refine x_iload X 2 dX7_addPlace_91 rfl ?_
    exact x_iret X E dX7_addPlace_93 ⟨_, rfl, h⟩
  · refine x_aload_n X 0 dX7_addPlace_55 rfl ?_
    refine x_iload_n X 1 dX7_addPlace_56 rfl ?_
    refine x_bipush X (v := 76) dX7_addPlace_57 (by decide) ?_
    refine x_bipush X (v := 87) dX7_addPlace_59 (by decide) ?_
    refine x_iload X 3 dX7_addPlace_61 rfl ?_
    refine x_imul X dX7_addPlace_63 ?_
    refine x_iadd X dX7_addPlace_64 ?_
    refine x_bipush X (v := 12) dX7_addPlace_65 (by decide) ?_
    refine x_iadd X dX7_addPlace_67 ?_
    refine x_iload X 2 dX7_addPlace_68 rfl ?_
    refine x_iadd X dX7_addPlace_70 ?_
    refine x_iconst X (v := 0) dX7_addPlace_71 (by decide) ?_
    refine x_callv hA (x_runV (n := 3) (sh := shM cy) X K hR (fun _ q => q) (m_X7_put hi  h) (kM_0 cy (Nat.zero_lt_one)) rfl rfl t4_191 t4_193 tp_29 t1_8 t4_194 ⟨by decide, by decide, by decide +kernel⟩ rfl (by decide) (by decide) rfl (Nat.le_of_ble_eq_true rfl) dX7_addPlace_72) (fun S5 h => ?_)
    refine x_iinc X 3 [(6, .int (v6 + (1 : Int32))), (0, .ref (ad 0 0)), (1, .int a1), (5, .int v5)] dX7_addPlace_75 rfl rfl (by rw [hN]; decide) rfl ?_
    refine x_goto X 44 dX7_addPlace_78 (by decide) ?_
    refine x_sub [1, 2, 3, 0] rfl ?_
    exact hK44 S5 v5 (v6 + (1 : Int32)) h
set_option maxHeartbeats 2000000 in
set_option maxRecDepth 20000 in
theorem w_X7_addPlace_44 {g : xG} {D : va_G} {cy : Nat → ClassId} {ad : Nat → Nat → Nat} {a1 : Int32} {Q : Int32 → xS → Prop} (V : xEnv g D (xTys cy) (shM cy) ad RX7 cX7_addPlace (some .int) 1 23 7 (xQi Q)) (n : Nat) : ∀ (S : xS) (v5 : Int32) (v6 : Int32), wp_X7_addPlace_44 a1 Q n S v5 v6 → Wx g (xW D (shM cy) ad S) 44 [(0, .ref (ad 0 0)), (1, .int a1), (5, .int v5), (6, .int v6)] [] := by
  induction n with
  | zero => intro S v5 v6 h; exact h.elim
  | succ n ih => intro S v5 v6 h; exact w_X7_addPlace_44_b V (fun S v5 v6 h => ih S v5 v6 h) S v5 v6 h
set_option maxHeartbeats 2000000 in
set_option maxRecDepth 20000 in
theorem w_X7_addPlace {g : xG} {D : va_G} {cy : Nat → ClassId} {ad : Nat → Nat → Nat} {a1 : Int32} {a2 : Int32} {a3 : Int32} {a4 : Int32} {S : xS} {Q : Int32 → xS → Prop} (V : xEnv g D (xTys cy) (shM cy) ad RX7 cX7_addPlace (some .int) 1 23 7 (xQi Q)) (h : wp_X7_addPlace a1 a2 a3 a4 S Q) : Wx g (xW D (shM cy) ad S) 0 [(0, .ref (ad 0 0)), (1, .int a1), (2, .int a2), (3, .int a3), (4, .int a4)] [] := by
  obtain ⟨X, K, hi, hA, hR, E, hN⟩ := V
  have V := xEnv_mk X K hi hA hR E hN
  unfold wp_X7_addPlace at h
  refine x_aload_n X 0 dX7_addPlace_0 rfl ?_
  refine x_iload_n X 1 dX7_addPlace_1 rfl ?_
  refine x_iconst X (v := 2) dX7_addPlace_2 (by decide) ?_
  refine x_calli hA (x_runV (n := 2) (sh := shM cy) X K hR (fun _ q => q) (m_X7_of hi  h) (kM_0 cy Nat.zero_lt_one) rfl rfl t4_208 t4_210 tp_31 t1_8 t4_211 ⟨by decide, by decide, by decide +kernel⟩ rfl (by decide) (by decide) rfl (Nat.le_of_ble_eq_true rfl) dX7_addPlace_3) (fun r2 S1 h => ?_)
  refine x_istore X [(5, .int r2), (0, .ref (ad 0 0)), (1, .int a1), (2, .int a2), (3, .int a3), (4, .int a4)] dX7_addPlace_6 (by rw [hN]; decide) rfl ?_
  refine x_aload_n X 1 dX7_addPlace_8 rfl ?_
  refine x_iload_n X 2 dX7_addPlace_9 rfl ?_
  refine x_iconst X (v := 4) dX7_addPlace_10 (by decide) ?_
  refine x_iload X 0 dX7_addPlace_11 rfl ?_
  refine x_iadd X dX7_addPlace_13 ?_
  refine x_iload_n X 3 dX7_addPlace_14 rfl ?_
  refine x_callv hA (x_runV (n := 3) (sh := shM cy) X K hR (fun _ q => q) (m_X7_put hi  h) (kM_0 cy Nat.zero_lt_one) rfl rfl t4_191 t4_193 tp_29 t1_8 t4_194 ⟨by decide, by decide, by decide +kernel⟩ rfl (by decide) (by decide) rfl (Nat.le_of_ble_eq_true rfl) dX7_addPlace_15) (fun S3 h => ?_)
  refine x_aload_n X 1 dX7_addPlace_18 rfl ?_
  refine x_iload_n X 2 dX7_addPlace_19 rfl ?_
  refine x_bipush X (v := 28) dX7_addPlace_20 (by decide) ?_
  refine x_iload X 0 dX7_addPlace_22 rfl ?_
  refine x_iadd X dX7_addPlace_24 ?_
  refine x_iload_n X 4 dX7_addPlace_25 rfl ?_
  refine x_callv hA (x_runV (n := 3) (sh := shM cy) X K hR (fun _ q => q) (m_X7_put hi  h) (kM_0 cy Nat.zero_lt_one) rfl rfl t4_191 t4_193 tp_29 t1_8 t4_194 ⟨by decide, by decide, by decide +kernel⟩ rfl (by decide) (by decide) rfl (Nat.le_of_ble_eq_true rfl) dX7_addPlace_26) (fun S5 h => ?_)
  refine x_aload_n X 1 dX7_addPlace_29 rfl ?_
  refine x_iload_n X 2 dX7_addPlace_30 rfl ?_
  refine x_bipush X (v := 52) dX7_addPlace_31 (by decide) ?_
  refine x_iload X 0 dX7_addPlace_33 rfl ?_
  refine x_iadd X dX7_addPlace_35 ?_
  refine x_iload X 5 dX7_addPlace_36 rfl ?_
  refine x_callv hA (x_runV (n := 3) (sh := shM cy) X K hR (fun _ q => q) (m_X7_put hi  h) (kM_0 cy Nat.zero_lt_one) rfl rfl t4_191 t4_193 tp_29 t1_8 t4_194 ⟨by decide, by decide, by decide +kernel⟩ rfl (by decide) (by decide) rfl (Nat.le_of_ble_eq_true rfl) dX7_addPlace_38) (fun S7 h => ?_)
  refine x_iconst X (v := 0) dX7_addPlace_41 (by decide) ?_
  refine x_istore X [(6, .int (0 : Int32)), (5, .int r2), (0, .ref (ad 0 0)), (1, .int a1), (2, .int a2), (3, .int a3), (4, .int a4)] dX7_addPlace_42 (by rw [hN]; decide) rfl ?_
  refine x_sub [2, 3, 1, 0] rfl ?_
  obtain ⟨n9, h⟩ := h
  exact w_X7_addPlace_44 V n9 S7 r2 (0 : Int32) h
set_option maxHeartbeats 2000000 in
set_option maxRecDepth 20000 in
theorem m_X7_addPlace {l : Launch} {D : va_G} {cy : Nat → ClassId} {ad : Nat → Nat → Nat} (hi : xInj (shM cy) ad) {a1 : Int32} {a2 : Int32} {a3 : Int32} {a4 : Int32} {S : xS} {Q : Int32 → xS → Prop} (h : wp_X7_addPlace a1 a2 a3 a4 S Q) : xMet l D (xTys cy) (shM cy) ad yX7_addPlace cX7_addPlace 7 (some .int) (xRm 1 23) [.ref (ad 0 0), .int a1, .int a2, .int a3, .int a4] S (xQi Q) := xMet_env hi (by decide +kernel) rfl (Nat.le_of_ble_eq_true rfl) (fun g hl V => w_X7_addPlace V h)
set_option maxHeartbeats 2000000 in
set_option maxRecDepth 20000 in
theorem w_X7_addPoint_40 {g : xG} {D : va_G} {cy : Nat → ClassId} {ad : Nat → Nat → Nat} {Q : Int32 → xS → Prop} (V : xEnv g D (xTys cy) (shM cy) ad RX7 cX7_addPoint (some .int) 2 49 5 (xQi Q)) (S : xS) (h : wp_X7_addPoint_40 Q S) : Wx g (xW D (shM cy) ad S) 40 [] [] := by
  obtain ⟨X, K, hi, hA, hR, E, hN⟩ := V
  have V := xEnv_mk X K hi hA hR E hN
  unfold wp_X7_addPoint_40 at h
  refine x_ldc X (v := -1000007) t4_173 dX7_addPoint_40 ?_
  exact x_iret X E dX7_addPoint_42 ⟨_, rfl, h⟩
set_option maxHeartbeats 2000000 in
set_option maxRecDepth 20000 in
theorem w_X7_addPoint_80 {g : xG} {D : va_G} {cy : Nat → ClassId} {ad : Nat → Nat → Nat} {Q : Int32 → xS → Prop} (V : xEnv g D (xTys cy) (shM cy) ad RX7 cX7_addPoint (some .int) 2 49 5 (xQi Q)) (S : xS) (s1 : Int32) (s2 : Int32) (s3 : Int32) (s4 : Int32) (h : wp_X7_addPoint_80 Q S s1 s2 s3 s4) : Wx g (xW D (shM cy) ad S) 80 [] [.int s4, .int s3, .int s2, .int s1, .ref (ad 0 0)] := by
  obtain ⟨X, K, hi, hA, hR, E, hN⟩ := V
  have V := xEnv_mk X K hi hA hR E hN
  unfold wp_X7_addPoint_80 at h
  refine x_calli hA (x_runV (n := 4) (sh := shM cy) X K hR (fun _ q => q) (m_X7_addPlace hi  h) (kM_0 cy (Nat.zero_lt_one)) rfl rfl t4_216 t4_218 tp_33 t1_8 t4_219 ⟨by decide, by decide, by decide +kernel⟩ rfl (by decide) (by decide) rfl (Nat.le_of_ble_eq_true rfl) dX7_addPoint_80) (fun r2 S1 h => ?_)
  exact x_iret X E dX7_addPoint_83 ⟨_, rfl, h⟩
set_option maxHeartbeats 2000000 in
set_option maxRecDepth 20000 in
theorem w_X7_addPoint_75 {g : xG} {D : va_G} {cy : Nat → ClassId} {ad : Nat → Nat → Nat} {Q : Int32 → xS → Prop} (V : xEnv g D (xTys cy) (shM cy) ad RX7 cX7_addPoint (some .int) 2 49 5 (xQi Q)) (S : xS) (s1 : Int32) (s2 : Int32) (s3 : Int32) (h : wp_X7_addPoint_75 Q S s1 s2 s3) : Wx g (xW D (shM cy) ad S) 75 [] [.int s3, .int s2, .int s1, .ref (ad 0 0)] := by
  obtain ⟨X, K, hi, hA, hR, E, hN⟩ := V
  have V := xEnv_mk X K hi hA hR E hN
  unfold wp_X7_addPoint_75 at h
  refine x_iconst X (v := 1) dX7_addPoint_75 (by decide) ?_
  refine x_goto X 80 dX7_addPoint_76 (by decide) ?_
  refine x_sub [] rfl ?_
  exact w_X7_addPoint_80 V S s1 s2 s3 (1 : Int32) h
set_option maxHeartbeats 2000000 in
set_option maxRecDepth 20000 in
theorem w_X7_addPoint {g : xG} {D : va_G} {cy : Nat → ClassId} {ad : Nat → Nat → Nat} {a1 : Int32} {a2 : Int32} {a3 : Int32} {a4 : Int32} {S : xS} {Q : Int32 → xS → Prop} (V : xEnv g D (xTys cy) (shM cy) ad RX7 cX7_addPoint (some .int) 2 49 5 (xQi Q)) (h : wp_X7_addPoint a1 a2 a3 a4 S Q) : Wx g (xW D (shM cy) ad S) 0 [(0, .ref (ad 0 0)), (1, .int a1), (2, .int a2), (3, .int a3), (4, .int a4)] [] := by
  obtain ⟨X, K, hi, hA, hR, E, hN⟩ := V
  have V := xEnv_mk X K hi hA hR E hN
  unfold wp_X7_addPoint at h
  refine x_aload_n X 0 dX7_addPoint_0 rfl ?_
  refine x_iload_n X 1 dX7_addPoint_1 rfl ?_
  refine x_calli hA (x_runV (n := 1) (sh := shM cy) X K hR (fun _ q => q) (m_X7_noGlyph hi  h) (kM_0 cy Nat.zero_lt_one) rfl rfl t4_199 t4_201 tp_30 t1_8 t4_202 ⟨by decide, by decide, by decide +kernel⟩ rfl (by decide) (by decide) rfl (Nat.le_of_ble_eq_true rfl) dX7_addPoint_2) (fun r2 S1 h => ?_)
  refine x_if_eq X 11 dX7_addPoint_5 (by decide) h (fun h => ?_) (fun h => ?_)
  · refine x_iload_n X 2 dX7_addPoint_11 rfl ?_
    refine x_iload_n X 3 dX7_addPoint_12 rfl ?_
    refine x_calli hA (x_runS (n := 2) X K hR (fun _ q => q) (m_X7_isPlace hi  h) t4_204 t4_205 t1_8 t4_206 ⟨by decide, by decide, by decide +kernel⟩ rfl (by decide) (by decide) rfl (Nat.le_of_ble_eq_true rfl) dX7_addPoint_13) (fun r4 S3 h => ?_)
    refine x_if_ne X 22 dX7_addPoint_16 (by decide) h (fun h => ?_) (fun h => ?_)
    · refine x_ldc X (v := -1000005) t4_138 dX7_addPoint_19 ?_
      exact x_iret X E dX7_addPoint_21 ⟨_, rfl, h⟩
    · refine x_aload_n X 0 dX7_addPoint_22 rfl ?_
      refine x_iload_n X 1 dX7_addPoint_23 rfl ?_
      refine x_iconst X (v := 0) dX7_addPoint_24 (by decide) ?_
      refine x_calli hA (x_runV (n := 2) (sh := shM cy) X K hR (fun _ q => q) (m_X7_of hi  h) (kM_0 cy Nat.zero_lt_one) rfl rfl t4_208 t4_210 tp_31 t1_8 t4_211 ⟨by decide, by decide, by decide +kernel⟩ rfl (by decide) (by decide) rfl (Nat.le_of_ble_eq_true rfl) dX7_addPoint_25) (fun r6 S5 h => ?_)
      refine x_iconst X (v := 1) dX7_addPoint_28 (by decide) ?_
      refine x_icmp_eq X 40 dX7_addPoint_29 (by decide) h (fun h => ?_) (fun h => ?_)
      · refine x_sub [] rfl ?_
        exact w_X7_addPoint_40 V S5 h
      · refine x_aload_n X 0 dX7_addPoint_32 rfl ?_
        refine x_iload_n X 1 dX7_addPoint_33 rfl ?_
        refine x_calli hA (x_runV (n := 1) (sh := shM cy) X K hR (fun _ q => q) (m_X7_isPart hi  h) (kM_0 cy Nat.zero_lt_one) rfl rfl t4_212 t4_214 tp_32 t1_8 t4_215 ⟨by decide, by decide, by decide +kernel⟩ rfl (by decide) (by decide) rfl (Nat.le_of_ble_eq_true rfl) dX7_addPoint_34) (fun r8 S7 h => ?_)
        refine x_if_eq X 43 dX7_addPoint_37 (by decide) h (fun h => ?_) (fun h => ?_)
        · refine x_aload_n X 0 dX7_addPoint_43 rfl ?_
          refine x_iload_n X 1 dX7_addPoint_44 rfl ?_
          refine x_iconst X (v := 2) dX7_addPoint_45 (by decide) ?_
          refine x_calli hA (x_runV (n := 2) (sh := shM cy) X K hR (fun _ q => q) (m_X7_of hi  h) (kM_0 cy Nat.zero_lt_one) rfl rfl t4_208 t4_210 tp_31 t1_8 t4_211 ⟨by decide, by decide, by decide +kernel⟩ rfl (by decide) (by decide) rfl (Nat.le_of_ble_eq_true rfl) dX7_addPoint_46) (fun r10 S9 h => ?_)
          refine x_bipush X (v := 24) dX7_addPoint_49 (by decide) ?_
          refine x_icmp_ne X 57 dX7_addPoint_51 (by decide) h (fun h => ?_) (fun h => ?_)
          · refine x_ldc X (v := -1000006) t4_139 dX7_addPoint_54 ?_
            exact x_iret X E dX7_addPoint_56 ⟨_, rfl, h⟩
          · refine x_aload_n X 0 dX7_addPoint_57 rfl ?_
            refine x_iload_n X 1 dX7_addPoint_58 rfl ?_
            refine x_iload_n X 2 dX7_addPoint_59 rfl ?_
            refine x_iload_n X 3 dX7_addPoint_60 rfl ?_
            refine x_iload X 4 dX7_addPoint_61 rfl ?_
            refine x_if_ne X 75 dX7_addPoint_63 (by decide) h (fun h => ?_) (fun h => ?_)
            · refine x_aload_n X 0 dX7_addPoint_66 rfl ?_
              refine x_iload_n X 1 dX7_addPoint_67 rfl ?_
              refine x_iconst X (v := 2) dX7_addPoint_68 (by decide) ?_
              refine x_calli hA (x_runV (n := 2) (sh := shM cy) X K hR (fun _ q => q) (m_X7_of hi  h) (kM_0 cy Nat.zero_lt_one) rfl rfl t4_208 t4_210 tp_31 t1_8 t4_211 ⟨by decide, by decide, by decide +kernel⟩ rfl (by decide) (by decide) rfl (Nat.le_of_ble_eq_true rfl) dX7_addPoint_69) (fun r12 S11 h => ?_)
              refine x_if_ne X 79 dX7_addPoint_72 (by decide) h (fun h => ?_) (fun h => ?_)
              · refine x_sub [] rfl ?_
                exact w_X7_addPoint_75 V S11 a1 a2 a3 h
              · refine x_iconst X (v := 0) dX7_addPoint_79 (by decide) ?_
                refine x_sub [] rfl ?_
                exact w_X7_addPoint_80 V S11 a1 a2 a3 (0 : Int32) h
            · refine x_sub [] rfl ?_
              exact w_X7_addPoint_75 V S9 a1 a2 a3 h
        · refine x_sub [] rfl ?_
          exact w_X7_addPoint_40 V S7 h
  · refine x_ldc X (v := -1000002) t4_203 dX7_addPoint_8 ?_
    exact x_iret X E dX7_addPoint_10 ⟨_, rfl, h⟩
set_option maxHeartbeats 2000000 in
set_option maxRecDepth 20000 in
theorem m_X7_addPoint {l : Launch} {D : va_G} {cy : Nat → ClassId} {ad : Nat → Nat → Nat} (hi : xInj (shM cy) ad) {a1 : Int32} {a2 : Int32} {a3 : Int32} {a4 : Int32} {S : xS} {Q : Int32 → xS → Prop} (h : wp_X7_addPoint a1 a2 a3 a4 S Q) : xMet l D (xTys cy) (shM cy) ad yX7_addPoint cX7_addPoint 5 (some .int) (xRm 2 49) [.ref (ad 0 0), .int a1, .int a2, .int a3, .int a4] S (xQi Q) := xMet_env hi (by decide +kernel) rfl (Nat.le_of_ble_eq_true rfl) (fun g hl V => w_X7_addPoint V h)
set_option maxHeartbeats 2000000 in
set_option maxRecDepth 20000 in
theorem w_X7_countOutlines_132 {g : xG} {D : va_G} {cy : Nat → ClassId} {ad : Nat → Nat → Nat} {K2 : xS → Int32 → Prop} {K54 : xS → Int32 → Int32 → Int32 → Prop} {Q : xS → Prop} (V : xEnv g D (xTys cy) (shM cy) ad RX7 cX7_countOutlines none 1 22 4 (xQv Q)) (hK2 : ∀ (S : xS) (v1 : Int32), K2 S v1 → Wx g (xW D (shM cy) ad S) 2 [(0, .ref (ad 0 0)), (1, .int v1)] []) (hK54 : ∀ (S : xS) (v1 : Int32) (v2 : Int32) (v3 : Int32), K54 S v1 v2 v3 → Wx g (xW D (shM cy) ad S) 54 [(0, .ref (ad 0 0)), (1, .int v1), (2, .int v2), (3, .int v3)] []) (S : xS) (v1 : Int32) (v2 : Int32) (v3 : Int32) (s1 : Int32) (s2 : Int32) (s3 : Int32) (h : wp_X7_countOutlines_132 K2 K54 Q S v1 v2 v3 s1 s2 s3) : Wx g (xW D (shM cy) ad S) 132 [(0, .ref (ad 0 0)), (1, .int v1), (2, .int v2), (3, .int v3)] [.int s3, .int s2, .int s1, .ref (ad 13 0)] := by
  obtain ⟨X, K, hi, hA, hR, E, hN⟩ := V
  have V := xEnv_mk X K hi hA hR E hN
  unfold wp_X7_countOutlines_132 at h
  refine x_iadd X dX7_countOutlines_132 ?_
  obtain ⟨hb1, h⟩ := h
  refine xs_M13 X K hi hA (Nat.zero_lt_one) hb1 dX7_countOutlines_133 ?_
  refine x_iinc X 3 [(3, .int (v3 + (1 : Int32))), (0, .ref (ad 0 0)), (1, .int v1), (2, .int v2)] dX7_countOutlines_134 rfl rfl (by rw [hN]; decide) rfl ?_
  refine x_goto X 54 dX7_countOutlines_137 (by decide) ?_
  refine x_sub [1, 2, 3, 0] rfl ?_
  exact hK54 (xI S 13 0 s1.toNatClampNeg (s2 + s3)) v1 v2 (v3 + (1 : Int32)) h
set_option maxHeartbeats 2000000 in
set_option maxRecDepth 20000 in
theorem w_X7_countOutlines_93 {g : xG} {D : va_G} {cy : Nat → ClassId} {ad : Nat → Nat → Nat} {K2 : xS → Int32 → Prop} {K54 : xS → Int32 → Int32 → Int32 → Prop} {Q : xS → Prop} (V : xEnv g D (xTys cy) (shM cy) ad RX7 cX7_countOutlines none 1 22 4 (xQv Q)) (hK2 : ∀ (S : xS) (v1 : Int32), K2 S v1 → Wx g (xW D (shM cy) ad S) 2 [(0, .ref (ad 0 0)), (1, .int v1)] []) (hK54 : ∀ (S : xS) (v1 : Int32) (v2 : Int32) (v3 : Int32), K54 S v1 v2 v3 → Wx g (xW D (shM cy) ad S) 54 [(0, .ref (ad 0 0)), (1, .int v1), (2, .int v2), (3, .int v3)] []) (S : xS) (v1 : Int32) (v2 : Int32) (v3 : Int32) (s1 : Int32) (s2 : Int32) (s3 : Int32) (h : wp_X7_countOutlines_93 K2 K54 Q S v1 v2 v3 s1 s2 s3) : Wx g (xW D (shM cy) ad S) 93 [(0, .ref (ad 0 0)), (1, .int v1), (2, .int v2), (3, .int v3)] [.int s3, .int s2, .int s1, .ref (ad 12 0)] := by
  obtain ⟨X, K, hi, hA, hR, E, hN⟩ := V
  have V := xEnv_mk X K hi hA hR E hN
  unfold wp_X7_countOutlines_93 at h
  refine x_iadd X dX7_countOutlines_93 ?_
  obtain ⟨hb1, h⟩ := h
  refine xs_M12 X K hi hA (Nat.zero_lt_one) hb1 dX7_countOutlines_94 ?_
  refine x_aload_n X 0 dX7_countOutlines_95 rfl ?_
  refine xg_X7_41 X K (Nat.zero_lt_one) dX7_countOutlines_96 ?_
  refine x_iload_n X 1 dX7_countOutlines_99 rfl ?_
  refine x_dup2 X dX7_countOutlines_100 rfl rfl ?_
  obtain ⟨hb2, h⟩ := h
  refine xa_M13 X K (show 0 < 1 by decide) hb2 dX7_countOutlines_101 ?_
  refine x_iload_n X 2 dX7_countOutlines_102 rfl ?_
  refine x_if_eq X 118 dX7_countOutlines_103 (by decide) h (fun h => ?_) (fun h => ?_)
  · refine x_aload_n X 0 dX7_countOutlines_118 rfl ?_
    refine xg_X7_41 X K (Nat.zero_lt_one) dX7_countOutlines_119 ?_
    refine x_aload_n X 0 dX7_countOutlines_122 rfl ?_
    refine x_iload_n X 1 dX7_countOutlines_123 rfl ?_
    refine x_bipush X (v := 52) dX7_countOutlines_124 (by decide) ?_
    refine x_iload_n X 3 dX7_countOutlines_126 rfl ?_
    refine x_iadd X dX7_countOutlines_127 ?_
    refine x_calli hA (x_runV (n := 2) (sh := shM cy) X K hR (fun _ q => q) (m_X7_of hi  h) (kM_0 cy (Nat.zero_lt_one)) rfl rfl t4_208 t4_210 tp_31 t1_8 t4_211 ⟨by decide, by decide, by decide +kernel⟩ rfl (by decide) (by decide) rfl (Nat.le_of_ble_eq_true rfl) dX7_countOutlines_128) (fun r4 S3 h => ?_)
    obtain ⟨hb5, h⟩ := h
    refine xa_M13 X K (show 0 < 1 by decide) hb5 dX7_countOutlines_131 ?_
    refine x_sub [0, 1, 2, 3] rfl ?_
    exact w_X7_countOutlines_132 V hK2 hK54 S3 v1 v2 v3 v1 ((xI S 12 0 s1.toNatClampNeg (s2 + s3)).1 13 0 v1.toNatClampNeg) (S3.1 13 0 r4.toNatClampNeg) h
  · refine x_aload_n X 0 dX7_countOutlines_106 rfl ?_
    refine x_iload_n X 1 dX7_countOutlines_107 rfl ?_
    refine x_bipush X (v := 52) dX7_countOutlines_108 (by decide) ?_
    refine x_iload_n X 3 dX7_countOutlines_110 rfl ?_
    refine x_iadd X dX7_countOutlines_111 ?_
    refine x_calli hA (x_runV (n := 2) (sh := shM cy) X K hR (fun _ q => q) (m_X7_of hi  h) (kM_0 cy (Nat.zero_lt_one)) rfl rfl t4_208 t4_210 tp_31 t1_8 t4_211 ⟨by decide, by decide, by decide +kernel⟩ rfl (by decide) (by decide) rfl (Nat.le_of_ble_eq_true rfl) dX7_countOutlines_112) (fun r7 S6 h => ?_)
    refine x_goto X 132 dX7_countOutlines_115 (by decide) ?_
    refine x_sub [0, 1, 2, 3] rfl ?_
    exact w_X7_countOutlines_132 V hK2 hK54 S6 v1 v2 v3 v1 ((xI S 12 0 s1.toNatClampNeg (s2 + s3)).1 13 0 v1.toNatClampNeg) r7 h
set_option maxHeartbeats 2000000 in
set_option maxRecDepth 20000 in
theorem w_X7_countOutlines_54_b {g : xG} {D : va_G} {cy : Nat → ClassId} {ad : Nat → Nat → Nat} {K2 : xS → Int32 → Prop} {K54 : xS → Int32 → Int32 → Int32 → Prop} {Q : xS → Prop} (V : xEnv g D (xTys cy) (shM cy) ad RX7 cX7_countOutlines none 1 22 4 (xQv Q)) (hK2 : ∀ (S : xS) (v1 : Int32), K2 S v1 → Wx g (xW D (shM cy) ad S) 2 [(0, .ref (ad 0 0)), (1, .int v1)] []) (hK54 : ∀ (S : xS) (v1 : Int32) (v2 : Int32) (v3 : Int32), K54 S v1 v2 v3 → Wx g (xW D (shM cy) ad S) 54 [(0, .ref (ad 0 0)), (1, .int v1), (2, .int v2), (3, .int v3)] []) (S : xS) (v1 : Int32) (v2 : Int32) (v3 : Int32) (h : wp_X7_countOutlines_54_b K2 K54 Q S v1 v2 v3) : Wx g (xW D (shM cy) ad S) 54 [(0, .ref (ad 0 0)), (1, .int v1), (2, .int v2), (3, .int v3)] [] := by
  obtain ⟨X, K, hi, hA, hR, E, hN⟩ := V
  have V := xEnv_mk X K hi hA hR E hN
  unfold wp_X7_countOutlines_54_b at h
  refine x_iload_n X 3 dX7_countOutlines_54 rfl ?_
  refine x_aload_n X 0 dX7_countOutlines_55 rfl ?_
  refine x_iload_n X 1 dX7_countOutlines_56 rfl ?_
  refine x_iconst X (v := 2) dX7_countOutlines_57 (by decide) ?_
  refine x_calli hA (x_runV (n := 2) (sh := shM cy) X K hR (fun _ q => q) (m_X7_of hi  h) (kM_0 cy (Nat.zero_lt_one)) rfl rfl t4_208 t4_210 tp_31 t1_8 t4_211 ⟨by decide, by decide, by decide +kernel⟩ rfl (by decide) (by decide) rfl (Nat.le_of_ble_eq_true rfl) dX7_countOutlines_58) (fun r2 S1 h => ?_)
  refine x_icmp_ge X 140 dX7_countOutlines_61 (by decide) h (fun h => ?_) (fun h => ?_)
  · refine x_iinc X 1 [(1, .int (v1 + (1 : Int32))), (0, .ref (ad 0 0)), (2, .int v2), (3, .int v3)] dX7_countOutlines_140 rfl rfl (by rw [hN]; decide) rfl ?_
    refine x_goto X 2 dX7_countOutlines_143 (by decide) ?_
    refine x_sub [1, 0] rfl ?_
    exact hK2 S1 (v1 + (1 : Int32)) h
  · refine x_aload_n X 0 dX7_countOutlines_64 rfl ?_
    refine xg_X7_38 X K (Nat.zero_lt_one) dX7_countOutlines_65 ?_
    refine x_iload_n X 1 dX7_countOutlines_68 rfl ?_
    refine x_dup2 X dX7_countOutlines_69 rfl rfl ?_
    obtain ⟨hb3, h⟩ := h
    refine xa_M12 X K (show 0 < 1 by decide) hb3 dX7_countOutlines_70 ?_
    refine x_iload_n X 2 dX7_countOutlines_71 rfl ?_
    refine x_if_eq X 79 dX7_countOutlines_72 (by decide) h (fun h => ?_) (fun h => ?_)
    · refine x_aload_n X 0 dX7_countOutlines_79 rfl ?_
      refine xg_X7_38 X K (Nat.zero_lt_one) dX7_countOutlines_80 ?_
      refine x_aload_n X 0 dX7_countOutlines_83 rfl ?_
      refine x_iload_n X 1 dX7_countOutlines_84 rfl ?_
      refine x_bipush X (v := 52) dX7_countOutlines_85 (by decide) ?_
      refine x_iload_n X 3 dX7_countOutlines_87 rfl ?_
      refine x_iadd X dX7_countOutlines_88 ?_
      refine x_calli hA (x_runV (n := 2) (sh := shM cy) X K hR (fun _ q => q) (m_X7_of hi  h) (kM_0 cy (Nat.zero_lt_one)) rfl rfl t4_208 t4_210 tp_31 t1_8 t4_211 ⟨by decide, by decide, by decide +kernel⟩ rfl (by decide) (by decide) rfl (Nat.le_of_ble_eq_true rfl) dX7_countOutlines_89) (fun r5 S4 h => ?_)
      obtain ⟨hb6, h⟩ := h
      refine xa_M12 X K (show 0 < 1 by decide) hb6 dX7_countOutlines_92 ?_
      refine x_sub [0, 1, 2, 3] rfl ?_
      exact w_X7_countOutlines_93 V hK2 hK54 S4 v1 v2 v3 v1 (S1.1 12 0 v1.toNatClampNeg) (S4.1 12 0 r5.toNatClampNeg) h
    · refine x_iconst X (v := 0) dX7_countOutlines_75 (by decide) ?_
      refine x_goto X 93 dX7_countOutlines_76 (by decide) ?_
      refine x_sub [0, 1, 2, 3] rfl ?_
      exact w_X7_countOutlines_93 V hK2 hK54 S1 v1 v2 v3 v1 (S1.1 12 0 v1.toNatClampNeg) (0 : Int32) h
set_option maxHeartbeats 2000000 in
set_option maxRecDepth 20000 in
theorem w_X7_countOutlines_54 {g : xG} {D : va_G} {cy : Nat → ClassId} {ad : Nat → Nat → Nat} {K2 : xS → Int32 → Prop} {Q : xS → Prop} (V : xEnv g D (xTys cy) (shM cy) ad RX7 cX7_countOutlines none 1 22 4 (xQv Q)) (hK2 : ∀ (S : xS) (v1 : Int32), K2 S v1 → Wx g (xW D (shM cy) ad S) 2 [(0, .ref (ad 0 0)), (1, .int v1)] []) (n : Nat) : ∀ (S : xS) (v1 : Int32) (v2 : Int32) (v3 : Int32), wp_X7_countOutlines_54 K2 Q n S v1 v2 v3 → Wx g (xW D (shM cy) ad S) 54 [(0, .ref (ad 0 0)), (1, .int v1), (2, .int v2), (3, .int v3)] [] := by
  induction n with
  | zero => intro S v1 v2 v3 h; exact h.elim
  | succ n ih => intro S v1 v2 v3 h; exact w_X7_countOutlines_54_b V hK2 (fun S v1 v2 v3 h => ih S v1 v2 v3 h) S v1 v2 v3 h
set_option maxHeartbeats 2000000 in
set_option maxRecDepth 20000 in
theorem w_X7_countOutlines_44 {g : xG} {D : va_G} {cy : Nat → ClassId} {ad : Nat → Nat → Nat} {K2 : xS → Int32 → Prop} {Q : xS → Prop} (V : xEnv g D (xTys cy) (shM cy) ad RX7 cX7_countOutlines none 1 22 4 (xQv Q)) (hK2 : ∀ (S : xS) (v1 : Int32), K2 S v1 → Wx g (xW D (shM cy) ad S) 2 [(0, .ref (ad 0 0)), (1, .int v1)] []) (S : xS) (v1 : Int32) (v2 : Int32) (s1 : Int32) (s2 : Int32) (h : wp_X7_countOutlines_44 K2 Q S v1 v2 s1 s2) : Wx g (xW D (shM cy) ad S) 44 [(0, .ref (ad 0 0)), (1, .int v1), (2, .int v2)] [.int s2, .int s1, .ref (ad 12 0)] := by
  obtain ⟨X, K, hi, hA, hR, E, hN⟩ := V
  have V := xEnv_mk X K hi hA hR E hN
  unfold wp_X7_countOutlines_44 at h
  obtain ⟨hb1, h⟩ := h
  refine xs_M12 X K hi hA (Nat.zero_lt_one) hb1 dX7_countOutlines_44 ?_
  refine x_aload_n X 0 dX7_countOutlines_45 rfl ?_
  refine xg_X7_41 X K (Nat.zero_lt_one) dX7_countOutlines_46 ?_
  refine x_iload_n X 1 dX7_countOutlines_49 rfl ?_
  refine x_iconst X (v := 0) dX7_countOutlines_50 (by decide) ?_
  obtain ⟨hb2, h⟩ := h
  refine xs_M13 X K hi hA (show 0 < 1 by decide) hb2 dX7_countOutlines_51 ?_
  refine x_iconst X (v := 0) dX7_countOutlines_52 (by decide) ?_
  refine x_istore_n X [(3, .int (0 : Int32)), (0, .ref (ad 0 0)), (1, .int v1), (2, .int v2)] dX7_countOutlines_53 (by rw [hN]; decide) rfl ?_
  refine x_sub [1, 2, 3, 0] rfl ?_
  obtain ⟨n3, h⟩ := h
  exact w_X7_countOutlines_54 V hK2 n3 (xI (xI S 12 0 s1.toNatClampNeg s2) 13 0 v1.toNatClampNeg (0 : Int32)) v1 v2 (0 : Int32) h
set_option maxHeartbeats 2000000 in
set_option maxRecDepth 20000 in
theorem w_X7_countOutlines_24 {g : xG} {D : va_G} {cy : Nat → ClassId} {ad : Nat → Nat → Nat} {K2 : xS → Int32 → Prop} {Q : xS → Prop} (V : xEnv g D (xTys cy) (shM cy) ad RX7 cX7_countOutlines none 1 22 4 (xQv Q)) (hK2 : ∀ (S : xS) (v1 : Int32), K2 S v1 → Wx g (xW D (shM cy) ad S) 2 [(0, .ref (ad 0 0)), (1, .int v1)] []) (S : xS) (v1 : Int32) (s0 : Int32) (h : wp_X7_countOutlines_24 K2 Q S v1 s0) : Wx g (xW D (shM cy) ad S) 24 [(0, .ref (ad 0 0)), (1, .int v1)] [.int s0] := by
  obtain ⟨X, K, hi, hA, hR, E, hN⟩ := V
  have V := xEnv_mk X K hi hA hR E hN
  unfold wp_X7_countOutlines_24 at h
  refine x_istore_n X [(2, .int s0), (0, .ref (ad 0 0)), (1, .int v1)] dX7_countOutlines_24 (by rw [hN]; decide) rfl ?_
  refine x_aload_n X 1 dX7_countOutlines_25 rfl ?_
  refine xg_X7_38 X K (Nat.zero_lt_one) dX7_countOutlines_26 ?_
  refine x_iload_n X 2 dX7_countOutlines_29 rfl ?_
  refine x_iload_n X 0 dX7_countOutlines_30 rfl ?_
  refine x_if_eq X 43 dX7_countOutlines_31 (by decide) h (fun h => ?_) (fun h => ?_)
  · refine x_iconst X (v := 0) dX7_countOutlines_43 (by decide) ?_
    refine x_sub [1, 2, 0] rfl ?_
    exact w_X7_countOutlines_44 V hK2 S v1 s0 v1 (0 : Int32) h
  · refine x_aload_n X 1 dX7_countOutlines_34 rfl ?_
    refine x_iload_n X 2 dX7_countOutlines_35 rfl ?_
    refine x_iconst X (v := 2) dX7_countOutlines_36 (by decide) ?_
    refine x_calli hA (x_runV (n := 2) (sh := shM cy) X K hR (fun _ q => q) (m_X7_of hi  h) (kM_0 cy (Nat.zero_lt_one)) rfl rfl t4_208 t4_210 tp_31 t1_8 t4_211 ⟨by decide, by decide, by decide +kernel⟩ rfl (by decide) (by decide) rfl (Nat.le_of_ble_eq_true rfl) dX7_countOutlines_37) (fun r2 S1 h => ?_)
    refine x_goto X 44 dX7_countOutlines_40 (by decide) ?_
    refine x_sub [1, 2, 0] rfl ?_
    exact w_X7_countOutlines_44 V hK2 S1 v1 s0 v1 r2 h
set_option maxHeartbeats 2000000 in
set_option maxRecDepth 20000 in
theorem w_X7_countOutlines_2_b {g : xG} {D : va_G} {cy : Nat → ClassId} {ad : Nat → Nat → Nat} {K2 : xS → Int32 → Prop} {Q : xS → Prop} (V : xEnv g D (xTys cy) (shM cy) ad RX7 cX7_countOutlines none 1 22 4 (xQv Q)) (hK2 : ∀ (S : xS) (v1 : Int32), K2 S v1 → Wx g (xW D (shM cy) ad S) 2 [(0, .ref (ad 0 0)), (1, .int v1)] []) (S : xS) (v1 : Int32) (h : wp_X7_countOutlines_2_b K2 Q S v1) : Wx g (xW D (shM cy) ad S) 2 [(0, .ref (ad 0 0)), (1, .int v1)] [] := by
  obtain ⟨X, K, hi, hA, hR, E, hN⟩ := V
  have V := xEnv_mk X K hi hA hR E hN
  unfold wp_X7_countOutlines_2_b at h
  refine x_iload_n X 1 dX7_countOutlines_2 rfl ?_
  refine x_aload_n X 0 dX7_countOutlines_3 rfl ?_
  refine xg_X7_146 X K (Nat.zero_lt_one) dX7_countOutlines_4 ?_
  refine x_icmp_ge X 146 dX7_countOutlines_7 (by decide) h (fun h => ?_) (fun h => ?_)
  · exact x_vret X E dX7_countOutlines_146 ⟨rfl, h⟩
  · refine x_aload_n X 0 dX7_countOutlines_10 rfl ?_
    refine x_iload_n X 1 dX7_countOutlines_11 rfl ?_
    refine x_iconst X (v := 0) dX7_countOutlines_12 (by decide) ?_
    refine x_calli hA (x_runV (n := 2) (sh := shM cy) X K hR (fun _ q => q) (m_X7_of hi  h) (kM_0 cy (Nat.zero_lt_one)) rfl rfl t4_208 t4_210 tp_31 t1_8 t4_211 ⟨by decide, by decide, by decide +kernel⟩ rfl (by decide) (by decide) rfl (Nat.le_of_ble_eq_true rfl) dX7_countOutlines_13) (fun r2 S1 h => ?_)
    refine x_if_ne X 23 dX7_countOutlines_16 (by decide) h (fun h => ?_) (fun h => ?_)
    · refine x_iconst X (v := 1) dX7_countOutlines_19 (by decide) ?_
      refine x_goto X 24 dX7_countOutlines_20 (by decide) ?_
      refine x_sub [0, 1] rfl ?_
      exact w_X7_countOutlines_24 V hK2 S1 v1 (1 : Int32) h
    · refine x_iconst X (v := 0) dX7_countOutlines_23 (by decide) ?_
      refine x_sub [0, 1] rfl ?_
      exact w_X7_countOutlines_24 V hK2 S1 v1 (0 : Int32) h
set_option maxHeartbeats 2000000 in
set_option maxRecDepth 20000 in
theorem w_X7_countOutlines_2 {g : xG} {D : va_G} {cy : Nat → ClassId} {ad : Nat → Nat → Nat} {Q : xS → Prop} (V : xEnv g D (xTys cy) (shM cy) ad RX7 cX7_countOutlines none 1 22 4 (xQv Q)) (n : Nat) : ∀ (S : xS) (v1 : Int32), wp_X7_countOutlines_2 Q n S v1 → Wx g (xW D (shM cy) ad S) 2 [(0, .ref (ad 0 0)), (1, .int v1)] [] := by
  induction n with
  | zero => intro S v1 h; exact h.elim
  | succ n ih => intro S v1 h; exact w_X7_countOutlines_2_b V (fun S v1 h => ih S v1 h) S v1 h
set_option maxHeartbeats 2000000 in
set_option maxRecDepth 20000 in
theorem w_X7_countOutlines {g : xG} {D : va_G} {cy : Nat → ClassId} {ad : Nat → Nat → Nat} {S : xS} {Q : xS → Prop} (V : xEnv g D (xTys cy) (shM cy) ad RX7 cX7_countOutlines none 1 22 4 (xQv Q)) (h : wp_X7_countOutlines S Q) : Wx g (xW D (shM cy) ad S) 0 [(0, .ref (ad 0 0))] [] := by
  obtain ⟨X, K, hi, hA, hR, E, hN⟩ := V
  have V := xEnv_mk X K hi hA hR E hN
  unfold wp_X7_countOutlines at h
  refine x_iconst X (v := 0) dX7_countOutlines_0 (by decide) ?_
  refine x_istore_n X [(1, .int (0 : Int32)), (0, .ref (ad 0 0))] dX7_countOutlines_1 (by rw [hN]; decide) rfl ?_
  refine x_sub [1, 0] rfl ?_
  obtain ⟨n1, h⟩ := h
  exact w_X7_countOutlines_2 V n1 S (0 : Int32) h
set_option maxHeartbeats 2000000 in
set_option maxRecDepth 20000 in
theorem m_X7_countOutlines {l : Launch} {D : va_G} {cy : Nat → ClassId} {ad : Nat → Nat → Nat} (hi : xInj (shM cy) ad) {S : xS} {Q : xS → Prop} (h : wp_X7_countOutlines S Q) : xMet l D (xTys cy) (shM cy) ad yX7_countOutlines cX7_countOutlines 4 none (xRm 1 22) [.ref (ad 0 0)] S (xQv Q) := xMet_env hi (by decide +kernel) rfl (Nat.le_of_ble_eq_true rfl) (fun g hl V => w_X7_countOutlines V h)
set_option maxHeartbeats 2000000 in
set_option maxRecDepth 20000 in
theorem w_X7_addComponent_21 {g : xG} {D : va_G} {cy : Nat → ClassId} {ad : Nat → Nat → Nat} {Q : Int32 → xS → Prop} (V : xEnv g D (xTys cy) (shM cy) ad RX7 cX7_addComponent (some .int) 2 49 5 (xQi Q)) (S : xS) (h : wp_X7_addComponent_21 Q S) : Wx g (xW D (shM cy) ad S) 21 [] [] := by
  obtain ⟨X, K, hi, hA, hR, E, hN⟩ := V
  have V := xEnv_mk X K hi hA hR E hN
  unfold wp_X7_addComponent_21 at h
  refine x_ldc X (v := -1000002) t4_203 dX7_addComponent_21 ?_
  exact x_iret X E dX7_addComponent_23 ⟨_, rfl, h⟩
set_option maxHeartbeats 2000000 in
set_option maxRecDepth 20000 in
theorem w_X7_addComponent_53 {g : xG} {D : va_G} {cy : Nat → ClassId} {ad : Nat → Nat → Nat} {Q : Int32 → xS → Prop} (V : xEnv g D (xTys cy) (shM cy) ad RX7 cX7_addComponent (some .int) 2 49 5 (xQi Q)) (S : xS) (h : wp_X7_addComponent_53 Q S) : Wx g (xW D (shM cy) ad S) 53 [] [] := by
  obtain ⟨X, K, hi, hA, hR, E, hN⟩ := V
  have V := xEnv_mk X K hi hA hR E hN
  unfold wp_X7_addComponent_53 at h
  refine x_ldc X (v := -1000007) t4_173 dX7_addComponent_53 ?_
  exact x_iret X E dX7_addComponent_55 ⟨_, rfl, h⟩
set_option maxHeartbeats 2000000 in
set_option maxRecDepth 20000 in
theorem w_X7_addComponent_88 {g : xG} {D : va_G} {cy : Nat → ClassId} {ad : Nat → Nat → Nat} {Q : Int32 → xS → Prop} (V : xEnv g D (xTys cy) (shM cy) ad RX7 cX7_addComponent (some .int) 2 49 5 (xQi Q)) (S : xS) (h : wp_X7_addComponent_88 Q S) : Wx g (xW D (shM cy) ad S) 88 [] [] := by
  obtain ⟨X, K, hi, hA, hR, E, hN⟩ := V
  have V := xEnv_mk X K hi hA hR E hN
  unfold wp_X7_addComponent_88 at h
  refine x_ldc X (v := -1000006) t4_139 dX7_addComponent_88 ?_
  exact x_iret X E dX7_addComponent_90 ⟨_, rfl, h⟩
set_option maxHeartbeats 2000000 in
set_option maxRecDepth 20000 in
theorem w_X7_addComponent {g : xG} {D : va_G} {cy : Nat → ClassId} {ad : Nat → Nat → Nat} {a1 : Int32} {a2 : Int32} {a3 : Int32} {a4 : Int32} {S : xS} {Q : Int32 → xS → Prop} (V : xEnv g D (xTys cy) (shM cy) ad RX7 cX7_addComponent (some .int) 2 49 5 (xQi Q)) (h : wp_X7_addComponent a1 a2 a3 a4 S Q) : Wx g (xW D (shM cy) ad S) 0 [(0, .ref (ad 0 0)), (1, .int a1), (2, .int a2), (3, .int a3), (4, .int a4)] [] := by
  obtain ⟨X, K, hi, hA, hR, E, hN⟩ := V
  have V := xEnv_mk X K hi hA hR E hN
  unfold wp_X7_addComponent at h
  refine x_aload_n X 0 dX7_addComponent_0 rfl ?_
  refine x_iload_n X 1 dX7_addComponent_1 rfl ?_
  refine x_calli hA (x_runV (n := 1) (sh := shM cy) X K hR (fun _ q => q) (m_X7_noGlyph hi  h) (kM_0 cy Nat.zero_lt_one) rfl rfl t4_199 t4_201 tp_30 t1_8 t4_202 ⟨by decide, by decide, by decide +kernel⟩ rfl (by decide) (by decide) rfl (Nat.le_of_ble_eq_true rfl) dX7_addComponent_2) (fun r2 S1 h => ?_)
  refine x_if_ne X 21 dX7_addComponent_5 (by decide) h (fun h => ?_) (fun h => ?_)
  · refine x_iload_n X 2 dX7_addComponent_8 rfl ?_
    refine x_i2l X dX7_addComponent_9 ?_
    refine x_lconst X (v := 0) dX7_addComponent_10 (by decide) ?_
    refine x_iload_n X 1 dX7_addComponent_11 rfl ?_
    refine x_i2l X dX7_addComponent_12 ?_
    refine x_lconst X (v := 1) dX7_addComponent_13 (by decide) ?_
    refine x_lsub X dX7_addComponent_14 ?_
    refine x_calli hA (x_runS (n := 3) X K hR (fun _ q => q) (m_X7_in hi  h) t4_135 t4_136 t1_8 t4_137 ⟨by decide, by decide, by decide +kernel⟩ rfl (by decide) (by decide) rfl (Nat.le_of_ble_eq_true rfl) dX7_addComponent_15) (fun r4 S3 h => ?_)
    refine x_if_ne X 24 dX7_addComponent_18 (by decide) h (fun h => ?_) (fun h => ?_)
    · refine x_sub [] rfl ?_
      exact w_X7_addComponent_21 V S3 h
    · refine x_iload_n X 3 dX7_addComponent_24 rfl ?_
      refine x_iload X 4 dX7_addComponent_25 rfl ?_
      refine x_calli hA (x_runS (n := 2) X K hR (fun _ q => q) (m_X7_isPlace hi  h) t4_204 t4_205 t1_8 t4_206 ⟨by decide, by decide, by decide +kernel⟩ rfl (by decide) (by decide) rfl (Nat.le_of_ble_eq_true rfl) dX7_addComponent_27) (fun r6 S5 h => ?_)
      refine x_if_ne X 36 dX7_addComponent_30 (by decide) h (fun h => ?_) (fun h => ?_)
      · refine x_ldc X (v := -1000005) t4_138 dX7_addComponent_33 ?_
        exact x_iret X E dX7_addComponent_35 ⟨_, rfl, h⟩
      · refine x_aload_n X 0 dX7_addComponent_36 rfl ?_
        refine x_iload_n X 1 dX7_addComponent_37 rfl ?_
        refine x_iconst X (v := 0) dX7_addComponent_38 (by decide) ?_
        refine x_calli hA (x_runV (n := 2) (sh := shM cy) X K hR (fun _ q => q) (m_X7_of hi  h) (kM_0 cy Nat.zero_lt_one) rfl rfl t4_208 t4_210 tp_31 t1_8 t4_211 ⟨by decide, by decide, by decide +kernel⟩ rfl (by decide) (by decide) rfl (Nat.le_of_ble_eq_true rfl) dX7_addComponent_39) (fun r8 S7 h => ?_)
        refine x_if_eq X 53 dX7_addComponent_42 (by decide) h (fun h => ?_) (fun h => ?_)
        · refine x_sub [] rfl ?_
          exact w_X7_addComponent_53 V S7 h
        · refine x_aload_n X 0 dX7_addComponent_45 rfl ?_
          refine x_iload_n X 1 dX7_addComponent_46 rfl ?_
          refine x_calli hA (x_runV (n := 1) (sh := shM cy) X K hR (fun _ q => q) (m_X7_isPart hi  h) (kM_0 cy Nat.zero_lt_one) rfl rfl t4_212 t4_214 tp_32 t1_8 t4_215 ⟨by decide, by decide, by decide +kernel⟩ rfl (by decide) (by decide) rfl (Nat.le_of_ble_eq_true rfl) dX7_addComponent_47) (fun r10 S9 h => ?_)
          refine x_if_eq X 56 dX7_addComponent_50 (by decide) h (fun h => ?_) (fun h => ?_)
          · refine x_aload_n X 0 dX7_addComponent_56 rfl ?_
            refine x_callv hA (x_runV (n := 0) (sh := shM cy) X K hR (fun _ q => q) (m_X7_countOutlines hi  h) (kM_0 cy Nat.zero_lt_one) rfl rfl t4_224 t4_226 tp_34 t1_8 t4_227 ⟨by decide, by decide, by decide +kernel⟩ rfl (by decide) (by decide) rfl (Nat.le_of_ble_eq_true rfl) dX7_addComponent_57) (fun S11 h => ?_)
            refine x_aload_n X 0 dX7_addComponent_60 rfl ?_
            refine x_iload_n X 1 dX7_addComponent_61 rfl ?_
            refine x_iconst X (v := 2) dX7_addComponent_62 (by decide) ?_
            refine x_calli hA (x_runV (n := 2) (sh := shM cy) X K hR (fun _ q => q) (m_X7_of hi  h) (kM_0 cy Nat.zero_lt_one) rfl rfl t4_208 t4_210 tp_31 t1_8 t4_211 ⟨by decide, by decide, by decide +kernel⟩ rfl (by decide) (by decide) rfl (Nat.le_of_ble_eq_true rfl) dX7_addComponent_63) (fun r14 S13 h => ?_)
            refine x_iconst X (v := 4) dX7_addComponent_66 (by decide) ?_
            refine x_icmp_eq X 88 dX7_addComponent_67 (by decide) h (fun h => ?_) (fun h => ?_)
            · refine x_sub [] rfl ?_
              exact w_X7_addComponent_88 V S13 h
            · refine x_aload_n X 0 dX7_addComponent_70 rfl ?_
              refine xg_X7_38 X K Nat.zero_lt_one dX7_addComponent_71 ?_
              refine x_iload_n X 1 dX7_addComponent_74 rfl ?_
              obtain ⟨hb15, h⟩ := h
              refine xa_M12 X K (show 0 < 1 by decide) hb15 dX7_addComponent_75 ?_
              refine x_aload_n X 0 dX7_addComponent_76 rfl ?_
              refine xg_X7_38 X K Nat.zero_lt_one dX7_addComponent_77 ?_
              refine x_iload_n X 2 dX7_addComponent_80 rfl ?_
              obtain ⟨hb16, h⟩ := h
              refine xa_M12 X K (show 0 < 1 by decide) hb16 dX7_addComponent_81 ?_
              refine x_iadd X dX7_addComponent_82 ?_
              refine x_bipush X (v := 96) dX7_addComponent_83 (by decide) ?_
              refine x_icmp_le X 91 dX7_addComponent_85 (by decide) h (fun h => ?_) (fun h => ?_)
              · refine x_aload_n X 0 dX7_addComponent_91 rfl ?_
                refine x_iload_n X 1 dX7_addComponent_92 rfl ?_
                refine x_iload_n X 3 dX7_addComponent_93 rfl ?_
                refine x_iload X 4 dX7_addComponent_94 rfl ?_
                refine x_iload_n X 2 dX7_addComponent_96 rfl ?_
                refine x_calli hA (x_runV (n := 4) (sh := shM cy) X K hR (fun _ q => q) (m_X7_addPlace hi  h) (kM_0 cy Nat.zero_lt_one) rfl rfl t4_216 t4_218 tp_33 t1_8 t4_219 ⟨by decide, by decide, by decide +kernel⟩ rfl (by decide) (by decide) rfl (Nat.le_of_ble_eq_true rfl) dX7_addComponent_97) (fun r18 S17 h => ?_)
                exact x_iret X E dX7_addComponent_100 ⟨_, rfl, h⟩
              · refine x_sub [] rfl ?_
                exact w_X7_addComponent_88 V S13 h
          · refine x_sub [] rfl ?_
            exact w_X7_addComponent_53 V S9 h
  · refine x_sub [] rfl ?_
    exact w_X7_addComponent_21 V S1 h
set_option maxHeartbeats 2000000 in
set_option maxRecDepth 20000 in
theorem m_X7_addComponent {l : Launch} {D : va_G} {cy : Nat → ClassId} {ad : Nat → Nat → Nat} (hi : xInj (shM cy) ad) {a1 : Int32} {a2 : Int32} {a3 : Int32} {a4 : Int32} {S : xS} {Q : Int32 → xS → Prop} (h : wp_X7_addComponent a1 a2 a3 a4 S Q) : xMet l D (xTys cy) (shM cy) ad yX7_addComponent cX7_addComponent 5 (some .int) (xRm 2 49) [.ref (ad 0 0), .int a1, .int a2, .int a3, .int a4] S (xQi Q) := xMet_env hi (by decide +kernel) rfl (Nat.le_of_ble_eq_true rfl) (fun g hl V => w_X7_addComponent V h)
set_option maxHeartbeats 2000000 in
set_option maxRecDepth 20000 in
theorem w_X7_glyphValue {g : xG} {D : va_G} {cy : Nat → ClassId} {ad : Nat → Nat → Nat} {a1 : Int32} {a2 : Int32} {S : xS} {Q : Int32 → xS → Prop} (V : xEnv g D (xTys cy) (shM cy) ad RX7 cX7_glyphValue (some .int) 2 46 3 (xQi Q)) (h : wp_X7_glyphValue a1 a2 S Q) : Wx g (xW D (shM cy) ad S) 0 [(0, .ref (ad 0 0)), (1, .int a1), (2, .int a2)] [] := by
  obtain ⟨X, K, hi, hA, hR, E, hN⟩ := V
  have V := xEnv_mk X K hi hA hR E hN
  unfold wp_X7_glyphValue at h
  refine x_aload_n X 0 dX7_glyphValue_0 rfl ?_
  refine x_iload_n X 1 dX7_glyphValue_1 rfl ?_
  refine x_calli hA (x_runV (n := 1) (sh := shM cy) X K hR (fun _ q => q) (m_X7_noGlyph hi  h) (kM_0 cy Nat.zero_lt_one) rfl rfl t4_199 t4_201 tp_30 t1_8 t4_202 ⟨by decide, by decide, by decide +kernel⟩ rfl (by decide) (by decide) rfl (Nat.le_of_ble_eq_true rfl) dX7_glyphValue_2) (fun r2 S1 h => ?_)
  refine x_if_eq X 11 dX7_glyphValue_5 (by decide) h (fun h => ?_) (fun h => ?_)
  · refine x_aload_n X 0 dX7_glyphValue_11 rfl ?_
    refine x_callv hA (x_runV (n := 0) (sh := shM cy) X K hR (fun _ q => q) (m_X7_countOutlines hi  h) (kM_0 cy Nat.zero_lt_one) rfl rfl t4_224 t4_226 tp_34 t1_8 t4_227 ⟨by decide, by decide, by decide +kernel⟩ rfl (by decide) (by decide) rfl (Nat.le_of_ble_eq_true rfl) dX7_glyphValue_12) (fun S3 h => ?_)
    refine x_iload_n X 2 dX7_glyphValue_15 rfl ?_
    refine x_ite h (fun hc h => ?_) (fun hc0_16 h => ?_)
    · refine x_tableIn X 56 dX7_glyphValue_16 (by rw [hc]; decide) (by rw [hc]; decide) (off := 40) (by rw [hc]; decide) (by decide) ?_
      refine x_aload_n X 0 dX7_glyphValue_56 rfl ?_
      refine x_iload_n X 1 dX7_glyphValue_57 rfl ?_
      refine x_iconst X (v := 0) dX7_glyphValue_58 (by decide) ?_
      refine x_calli hA (x_runV (n := 2) (sh := shM cy) X K hR (fun _ q => q) (m_X7_of hi  h) (kM_0 cy Nat.zero_lt_one) rfl rfl t4_208 t4_210 tp_31 t1_8 t4_211 ⟨by decide, by decide, by decide +kernel⟩ rfl (by decide) (by decide) rfl (Nat.le_of_ble_eq_true rfl) dX7_glyphValue_59) (fun r6 S5 h => ?_)
      exact x_iret X E dX7_glyphValue_62 ⟨_, rfl, h⟩
    · refine x_ite h (fun hc h => ?_) (fun hc1_16 h => ?_)
      · refine x_tableIn X 63 dX7_glyphValue_16 (by rw [hc]; decide) (by rw [hc]; decide) (off := 47) (by rw [hc]; decide) (by decide) ?_
        refine x_aload_n X 0 dX7_glyphValue_63 rfl ?_
        refine x_iload_n X 1 dX7_glyphValue_64 rfl ?_
        refine x_iconst X (v := 2) dX7_glyphValue_65 (by decide) ?_
        refine x_calli hA (x_runV (n := 2) (sh := shM cy) X K hR (fun _ q => q) (m_X7_of hi  h) (kM_0 cy Nat.zero_lt_one) rfl rfl t4_208 t4_210 tp_31 t1_8 t4_211 ⟨by decide, by decide, by decide +kernel⟩ rfl (by decide) (by decide) rfl (Nat.le_of_ble_eq_true rfl) dX7_glyphValue_66) (fun r8 S7 h => ?_)
        exact x_iret X E dX7_glyphValue_69 ⟨_, rfl, h⟩
      · refine x_ite h (fun hc h => ?_) (fun hc2_16 h => ?_)
        · refine x_tableIn X 70 dX7_glyphValue_16 (by rw [hc]; decide) (by rw [hc]; decide) (off := 54) (by rw [hc]; decide) (by decide) ?_
          refine x_aload_n X 0 dX7_glyphValue_70 rfl ?_
          refine xg_X7_41 X K Nat.zero_lt_one dX7_glyphValue_71 ?_
          refine x_iload_n X 1 dX7_glyphValue_74 rfl ?_
          obtain ⟨hb9, h⟩ := h
          refine xa_M13 X K (show 0 < 1 by decide) hb9 dX7_glyphValue_75 ?_
          exact x_iret X E dX7_glyphValue_76 ⟨_, rfl, h⟩
        · refine x_ite h (fun hc h => ?_) (fun hc3_16 h => ?_)
          · refine x_tableIn X 77 dX7_glyphValue_16 (by rw [hc]; decide) (by rw [hc]; decide) (off := 61) (by rw [hc]; decide) (by decide) ?_
            refine x_aload_n X 0 dX7_glyphValue_77 rfl ?_
            refine xg_X7_38 X K Nat.zero_lt_one dX7_glyphValue_78 ?_
            refine x_iload_n X 1 dX7_glyphValue_81 rfl ?_
            obtain ⟨hb10, h⟩ := h
            refine xa_M12 X K (show 0 < 1 by decide) hb10 dX7_glyphValue_82 ?_
            exact x_iret X E dX7_glyphValue_83 ⟨_, rfl, h⟩
          · refine x_ite h (fun hc h => ?_) (fun hc4_16 h => ?_)
            · refine x_tableIn X 84 dX7_glyphValue_16 (by rw [hc]; decide) (by rw [hc]; decide) (off := 68) (by rw [hc]; decide) (by decide) ?_
              refine x_aload_n X 0 dX7_glyphValue_84 rfl ?_
              refine x_iload_n X 1 dX7_glyphValue_85 rfl ?_
              refine x_iconst X (v := 3) dX7_glyphValue_86 (by decide) ?_
              refine x_calli hA (x_runV (n := 2) (sh := shM cy) X K hR (fun _ q => q) (m_X7_of hi  h) (kM_0 cy Nat.zero_lt_one) rfl rfl t4_208 t4_210 tp_31 t1_8 t4_211 ⟨by decide, by decide, by decide +kernel⟩ rfl (by decide) (by decide) rfl (Nat.le_of_ble_eq_true rfl) dX7_glyphValue_87) (fun r12 S11 h => ?_)
              exact x_iret X E dX7_glyphValue_90 ⟨_, rfl, h⟩
            · refine x_ite h (fun hc h => ?_) (fun hc5_16 h => ?_)
              · refine x_tableIn X 91 dX7_glyphValue_16 (by rw [hc]; decide) (by rw [hc]; decide) (off := 75) (by rw [hc]; decide) (by decide) ?_
                refine x_aload_n X 0 dX7_glyphValue_91 rfl ?_
                refine x_iload_n X 1 dX7_glyphValue_92 rfl ?_
                refine x_iconst X (v := 1) dX7_glyphValue_93 (by decide) ?_
                refine x_calli hA (x_runV (n := 2) (sh := shM cy) X K hR (fun _ q => q) (m_X7_of hi  h) (kM_0 cy Nat.zero_lt_one) rfl rfl t4_208 t4_210 tp_31 t1_8 t4_211 ⟨by decide, by decide, by decide +kernel⟩ rfl (by decide) (by decide) rfl (Nat.le_of_ble_eq_true rfl) dX7_glyphValue_94) (fun r14 S13 h => ?_)
                exact x_iret X E dX7_glyphValue_97 ⟨_, rfl, h⟩
              · refine x_tableOut X 98 dX7_glyphValue_16 (xSw_0_5 hc0_16 hc1_16 hc2_16 hc3_16 hc4_16 hc5_16) (by decide) ?_
                refine x_ldc X (v := -1000005) t4_138 dX7_glyphValue_98 ?_
                exact x_iret X E dX7_glyphValue_100 ⟨_, rfl, h⟩
  · refine x_ldc X (v := -1000002) t4_203 dX7_glyphValue_8 ?_
    exact x_iret X E dX7_glyphValue_10 ⟨_, rfl, h⟩
set_option maxHeartbeats 2000000 in
set_option maxRecDepth 20000 in
theorem m_X7_glyphValue {l : Launch} {D : va_G} {cy : Nat → ClassId} {ad : Nat → Nat → Nat} (hi : xInj (shM cy) ad) {a1 : Int32} {a2 : Int32} {S : xS} {Q : Int32 → xS → Prop} (h : wp_X7_glyphValue a1 a2 S Q) : xMet l D (xTys cy) (shM cy) ad yX7_glyphValue cX7_glyphValue 3 (some .int) (xRm 2 46) [.ref (ad 0 0), .int a1, .int a2] S (xQi Q) := xMet_env hi (by decide +kernel) rfl (Nat.le_of_ble_eq_true rfl) (fun g hl V => w_X7_glyphValue V h)
set_option maxHeartbeats 2000000 in
set_option maxRecDepth 20000 in
theorem w_X7_tupleAt {g : xG} {D : va_G} {cy : Nat → ClassId} {ad : Nat → Nat → Nat} {a0 : Int32} {S : xS} {Q : Int32 → xS → Prop} (V : xEnv g D (xTys cy) (shM cy) ad RX7 cX7_tupleAt (some .int) 0 0 1 (xQi Q)) (h : wp_X7_tupleAt a0 S Q) : Wx g (xW D (shM cy) ad S) 0 [(0, .int a0)] [] := by
  obtain ⟨X, K, hi, hA, hR, E, hN⟩ := V
  have V := xEnv_mk X K hi hA hR E hN
  unfold wp_X7_tupleAt at h
  refine x_bipush X (v := 76) dX7_tupleAt_0 (by decide) ?_
  refine x_bipush X (v := 87) dX7_tupleAt_2 (by decide) ?_
  refine x_iload_n X 0 dX7_tupleAt_4 rfl ?_
  refine x_imul X dX7_tupleAt_5 ?_
  refine x_iadd X dX7_tupleAt_6 ?_
  exact x_iret X E dX7_tupleAt_7 ⟨_, rfl, h⟩
set_option maxHeartbeats 2000000 in
set_option maxRecDepth 20000 in
theorem m_X7_tupleAt {l : Launch} {D : va_G} {cy : Nat → ClassId} {ad : Nat → Nat → Nat} (hi : xInj (shM cy) ad) {a0 : Int32} {S : xS} {Q : Int32 → xS → Prop} (h : wp_X7_tupleAt a0 S Q) : xMet l D (xTys cy) (shM cy) ad yX7_tupleAt cX7_tupleAt 1 (some .int) (xRm 0 0) [.int a0] S (xQi Q) := xMet_env hi (by decide +kernel) rfl (Nat.le_of_ble_eq_true rfl) (fun g hl V => w_X7_tupleAt V h)
set_option maxHeartbeats 2000000 in
set_option maxRecDepth 20000 in
theorem w_X7_slot_10 {g : xG} {D : va_G} {cy : Nat → ClassId} {ad : Nat → Nat → Nat} {Q : Int32 → xS → Prop} (V : xEnv g D (xTys cy) (shM cy) ad RX7 cX7_slot (some .int) 0 0 1 (xQi Q)) (S : xS) (s0 : Int32) (h : wp_X7_slot_10 Q S s0) : Wx g (xW D (shM cy) ad S) 10 [] [.int s0] := by
  obtain ⟨X, K, hi, hA, hR, E, hN⟩ := V
  have V := xEnv_mk X K hi hA hR E hN
  unfold wp_X7_slot_10 at h
  exact x_iret X E dX7_slot_10 ⟨_, rfl, h⟩
set_option maxHeartbeats 2000000 in
set_option maxRecDepth 20000 in
theorem w_X7_slot {g : xG} {D : va_G} {cy : Nat → ClassId} {ad : Nat → Nat → Nat} {a0 : Int32} {S : xS} {Q : Int32 → xS → Prop} (V : xEnv g D (xTys cy) (shM cy) ad RX7 cX7_slot (some .int) 0 0 1 (xQi Q)) (h : wp_X7_slot a0 S Q) : Wx g (xW D (shM cy) ad S) 0 [(0, .int a0)] [] := by
  obtain ⟨X, K, hi, hA, hR, E, hN⟩ := V
  have V := xEnv_mk X K hi hA hR E hN
  unfold wp_X7_slot at h
  refine x_iload_n X 0 dX7_slot_0 rfl ?_
  refine x_if_ge X 9 dX7_slot_1 (by decide) h (fun h => ?_) (fun h => ?_)
  · refine x_iload_n X 0 dX7_slot_9 rfl ?_
    refine x_sub [] rfl ?_
    exact w_X7_slot_10 V S a0 h
  · refine x_bipush X (v := 24) dX7_slot_4 (by decide) ?_
    refine x_goto X 10 dX7_slot_6 (by decide) ?_
    refine x_sub [] rfl ?_
    exact w_X7_slot_10 V S (24 : Int32) h
set_option maxHeartbeats 2000000 in
set_option maxRecDepth 20000 in
theorem m_X7_slot {l : Launch} {D : va_G} {cy : Nat → ClassId} {ad : Nat → Nat → Nat} (hi : xInj (shM cy) ad) {a0 : Int32} {S : xS} {Q : Int32 → xS → Prop} (h : wp_X7_slot a0 S Q) : xMet l D (xTys cy) (shM cy) ad yX7_slot cX7_slot 1 (some .int) (xRm 0 0) [.int a0] S (xQi Q) := xMet_env hi (by decide +kernel) rfl (Nat.le_of_ble_eq_true rfl) (fun g hl V => w_X7_slot V h)
set_option maxHeartbeats 2000000 in
set_option maxRecDepth 20000 in
theorem w_X7_touches_23 {g : xG} {D : va_G} {cy : Nat → ClassId} {ad : Nat → Nat → Nat} {Q : Int32 → xS → Prop} (V : xEnv g D (xTys cy) (shM cy) ad RX7 cX7_touches (some .boolean) 1 22 4 (xQi Q)) (S : xS) (s0 : Int32) (h : wp_X7_touches_23 Q S s0) : Wx g (xW D (shM cy) ad S) 23 [] [.int s0] := by
  obtain ⟨X, K, hi, hA, hR, E, hN⟩ := V
  have V := xEnv_mk X K hi hA hR E hN
  unfold wp_X7_touches_23 at h
  exact x_zret X E dX7_touches_23 h.1 ⟨_, rfl, h.2⟩
set_option maxHeartbeats 2000000 in
set_option maxRecDepth 20000 in
theorem w_X7_touches {g : xG} {D : va_G} {cy : Nat → ClassId} {ad : Nat → Nat → Nat} {a1 : Int32} {a2 : Int32} {a3 : Int32} {S : xS} {Q : Int32 → xS → Prop} (V : xEnv g D (xTys cy) (shM cy) ad RX7 cX7_touches (some .boolean) 1 22 4 (xQi Q)) (h : wp_X7_touches a1 a2 a3 S Q) : Wx g (xW D (shM cy) ad S) 0 [(0, .ref (ad 0 0)), (1, .int a1), (2, .int a2), (3, .int a3)] [] := by
  obtain ⟨X, K, hi, hA, hR, E, hN⟩ := V
  have V := xEnv_mk X K hi hA hR E hN
  unfold wp_X7_touches at h
  refine x_aload_n X 0 dX7_touches_0 rfl ?_
  refine x_iload_n X 1 dX7_touches_1 rfl ?_
  refine x_iload_n X 2 dX7_touches_2 rfl ?_
  refine x_calli hA (x_runS (n := 1) X K hR (fun _ q => q) (m_X7_tupleAt hi  h) t4_236 t4_237 t1_8 t4_238 ⟨by decide, by decide, by decide +kernel⟩ rfl (by decide) (by decide) rfl (Nat.le_of_ble_eq_true rfl) dX7_touches_3) (fun r2 S1 h => ?_)
  refine x_bipush X (v := 12) dX7_touches_6 (by decide) ?_
  refine x_iadd X dX7_touches_8 ?_
  refine x_iload_n X 3 dX7_touches_9 rfl ?_
  refine x_iadd X dX7_touches_10 ?_
  refine x_calli hA (x_runV (n := 2) (sh := shM cy) X K hR (fun _ q => q) (m_X7_of hi  h) (kM_0 cy Nat.zero_lt_one) rfl rfl t4_208 t4_210 tp_31 t1_8 t4_211 ⟨by decide, by decide, by decide +kernel⟩ rfl (by decide) (by decide) rfl (Nat.le_of_ble_eq_true rfl) dX7_touches_11) (fun r4 S3 h => ?_)
  refine x_iconst X (v := 1) dX7_touches_14 (by decide) ?_
  refine x_icmp_ne X 22 dX7_touches_15 (by decide) h (fun h => ?_) (fun h => ?_)
  · refine x_iconst X (v := 1) dX7_touches_18 (by decide) ?_
    refine x_goto X 23 dX7_touches_19 (by decide) ?_
    refine x_sub [] rfl ?_
    exact w_X7_touches_23 V S3 (1 : Int32) h
  · refine x_iconst X (v := 0) dX7_touches_22 (by decide) ?_
    refine x_sub [] rfl ?_
    exact w_X7_touches_23 V S3 (0 : Int32) h
set_option maxHeartbeats 2000000 in
set_option maxRecDepth 20000 in
theorem m_X7_touches {l : Launch} {D : va_G} {cy : Nat → ClassId} {ad : Nat → Nat → Nat} (hi : xInj (shM cy) ad) {a1 : Int32} {a2 : Int32} {a3 : Int32} {S : xS} {Q : Int32 → xS → Prop} (h : wp_X7_touches a1 a2 a3 S Q) : xMet l D (xTys cy) (shM cy) ad yX7_touches cX7_touches 4 (some .boolean) (xRm 1 22) [.ref (ad 0 0), .int a1, .int a2, .int a3] S (xQi Q) := xMet_env hi (by decide +kernel) rfl (Nat.le_of_ble_eq_true rfl) (fun g hl V => w_X7_touches V h)
set_option maxHeartbeats 2000000 in
set_option maxRecDepth 20000 in
theorem w_X7_given_18 {g : xG} {D : va_G} {cy : Nat → ClassId} {ad : Nat → Nat → Nat} {a3 : Int32} {Q : Int32 → xS → Prop} (V : xEnv g D (xTys cy) (shM cy) ad RX7 cX7_given (some .int) 1 22 5 (xQi Q)) (S : xS) (s1 : Int32) (s2 : Int32) (s3 : Int32) (h : wp_X7_given_18 a3 Q S s1 s2 s3) : Wx g (xW D (shM cy) ad S) 18 [(3, .int a3)] [.int s3, .int s2, .int s1, .ref (ad 0 0)] := by
  obtain ⟨X, K, hi, hA, hR, E, hN⟩ := V
  have V := xEnv_mk X K hi hA hR E hN
  unfold wp_X7_given_18 at h
  refine x_iadd X dX7_given_18 ?_
  refine x_iload_n X 0 dX7_given_19 rfl ?_
  refine x_iadd X dX7_given_20 ?_
  refine x_calli hA (x_runV (n := 2) (sh := shM cy) X K hR (fun _ q => q) (m_X7_of hi  h) (kM_0 cy (Nat.zero_lt_one)) rfl rfl t4_208 t4_210 tp_31 t1_8 t4_211 ⟨by decide, by decide, by decide +kernel⟩ rfl (by decide) (by decide) rfl (Nat.le_of_ble_eq_true rfl) dX7_given_21) (fun r2 S1 h => ?_)
  exact x_iret X E dX7_given_24 ⟨_, rfl, h⟩
set_option maxHeartbeats 2000000 in
set_option maxRecDepth 20000 in
theorem w_X7_given {g : xG} {D : va_G} {cy : Nat → ClassId} {ad : Nat → Nat → Nat} {a1 : Int32} {a2 : Int32} {a3 : Int32} {a4 : Int32} {S : xS} {Q : Int32 → xS → Prop} (V : xEnv g D (xTys cy) (shM cy) ad RX7 cX7_given (some .int) 1 22 5 (xQi Q)) (h : wp_X7_given a1 a2 a3 a4 S Q) : Wx g (xW D (shM cy) ad S) 0 [(0, .ref (ad 0 0)), (1, .int a1), (2, .int a2), (3, .int a3), (4, .int a4)] [] := by
  obtain ⟨X, K, hi, hA, hR, E, hN⟩ := V
  have V := xEnv_mk X K hi hA hR E hN
  unfold wp_X7_given at h
  refine x_aload_n X 0 dX7_given_0 rfl ?_
  refine x_iload_n X 1 dX7_given_1 rfl ?_
  refine x_iload_n X 2 dX7_given_2 rfl ?_
  refine x_calli hA (x_runS (n := 1) X K hR (fun _ q => q) (m_X7_tupleAt hi  h) t4_236 t4_237 t1_8 t4_238 ⟨by decide, by decide, by decide +kernel⟩ rfl (by decide) (by decide) rfl (Nat.le_of_ble_eq_true rfl) dX7_given_3) (fun r2 S1 h => ?_)
  refine x_iload X 4 dX7_given_6 rfl ?_
  refine x_if_eq X 16 dX7_given_8 (by decide) h (fun h => ?_) (fun h => ?_)
  · refine x_bipush X (v := 37) dX7_given_16 (by decide) ?_
    refine x_sub [3] rfl ?_
    exact w_X7_given_18 V S1 a1 r2 (37 : Int32) h
  · refine x_bipush X (v := 62) dX7_given_11 (by decide) ?_
    refine x_goto X 18 dX7_given_13 (by decide) ?_
    refine x_sub [3] rfl ?_
    exact w_X7_given_18 V S1 a1 r2 (62 : Int32) h
set_option maxHeartbeats 2000000 in
set_option maxRecDepth 20000 in
theorem m_X7_given {l : Launch} {D : va_G} {cy : Nat → ClassId} {ad : Nat → Nat → Nat} (hi : xInj (shM cy) ad) {a1 : Int32} {a2 : Int32} {a3 : Int32} {a4 : Int32} {S : xS} {Q : Int32 → xS → Prop} (h : wp_X7_given a1 a2 a3 a4 S Q) : xMet l D (xTys cy) (shM cy) ad yX7_given cX7_given 5 (some .int) (xRm 1 22) [.ref (ad 0 0), .int a1, .int a2, .int a3, .int a4] S (xQi Q) := xMet_env hi (by decide +kernel) rfl (Nat.le_of_ble_eq_true rfl) (fun g hl V => w_X7_given V h)
set_option maxHeartbeats 2000000 in
set_option maxRecDepth 20000 in
theorem w_X7_gives {g : xG} {D : va_G} {cy : Nat → ClassId} {ad : Nat → Nat → Nat} {a1 : Int32} {a2 : Int32} {a3 : Int32} {a4 : Int32} {a5 : Int32} {S : xS} {Q : xS → Prop} (V : xEnv g D (xTys cy) (shM cy) ad RX7 cX7_gives none 1 23 6 (xQv Q)) (h : wp_X7_gives a1 a2 a3 a4 a5 S Q) : Wx g (xW D (shM cy) ad S) 0 [(0, .ref (ad 0 0)), (1, .int a1), (2, .int a2), (3, .int a3), (4, .int a4), (5, .int a5)] [] := by
  obtain ⟨X, K, hi, hA, hR, E, hN⟩ := V
  have V := xEnv_mk X K hi hA hR E hN
  unfold wp_X7_gives at h
  refine x_aload_n X 0 dX7_gives_0 rfl ?_
  refine x_iload_n X 1 dX7_gives_1 rfl ?_
  refine x_iload_n X 2 dX7_gives_2 rfl ?_
  refine x_calli hA (x_runS (n := 1) X K hR (fun _ q => q) (m_X7_tupleAt hi  h) t4_236 t4_237 t1_8 t4_238 ⟨by decide, by decide, by decide +kernel⟩ rfl (by decide) (by decide) rfl (Nat.le_of_ble_eq_true rfl) dX7_gives_3) (fun r2 S1 h => ?_)
  refine x_bipush X (v := 12) dX7_gives_6 (by decide) ?_
  refine x_iadd X dX7_gives_8 ?_
  refine x_iload_n X 3 dX7_gives_9 rfl ?_
  refine x_iadd X dX7_gives_10 ?_
  refine x_iconst X (v := 1) dX7_gives_11 (by decide) ?_
  refine x_callv hA (x_runV (n := 3) (sh := shM cy) X K hR (fun _ q => q) (m_X7_put hi  h) (kM_0 cy Nat.zero_lt_one) rfl rfl t4_191 t4_193 tp_29 t1_8 t4_194 ⟨by decide, by decide, by decide +kernel⟩ rfl (by decide) (by decide) rfl (Nat.le_of_ble_eq_true rfl) dX7_gives_12) (fun S3 h => ?_)
  refine x_aload_n X 0 dX7_gives_15 rfl ?_
  refine x_iload_n X 1 dX7_gives_16 rfl ?_
  refine x_iload_n X 2 dX7_gives_17 rfl ?_
  refine x_calli hA (x_runS (n := 1) X K hR (fun _ q => q) (m_X7_tupleAt hi  h) t4_236 t4_237 t1_8 t4_238 ⟨by decide, by decide, by decide +kernel⟩ rfl (by decide) (by decide) rfl (Nat.le_of_ble_eq_true rfl) dX7_gives_18) (fun r6 S5 h => ?_)
  refine x_bipush X (v := 37) dX7_gives_21 (by decide) ?_
  refine x_iadd X dX7_gives_23 ?_
  refine x_iload_n X 3 dX7_gives_24 rfl ?_
  refine x_iadd X dX7_gives_25 ?_
  refine x_iload X 4 dX7_gives_26 rfl ?_
  refine x_callv hA (x_runV (n := 3) (sh := shM cy) X K hR (fun _ q => q) (m_X7_put hi  h) (kM_0 cy Nat.zero_lt_one) rfl rfl t4_191 t4_193 tp_29 t1_8 t4_194 ⟨by decide, by decide, by decide +kernel⟩ rfl (by decide) (by decide) rfl (Nat.le_of_ble_eq_true rfl) dX7_gives_28) (fun S7 h => ?_)
  refine x_aload_n X 0 dX7_gives_31 rfl ?_
  refine x_iload_n X 1 dX7_gives_32 rfl ?_
  refine x_iload_n X 2 dX7_gives_33 rfl ?_
  refine x_calli hA (x_runS (n := 1) X K hR (fun _ q => q) (m_X7_tupleAt hi  h) t4_236 t4_237 t1_8 t4_238 ⟨by decide, by decide, by decide +kernel⟩ rfl (by decide) (by decide) rfl (Nat.le_of_ble_eq_true rfl) dX7_gives_34) (fun r10 S9 h => ?_)
  refine x_bipush X (v := 62) dX7_gives_37 (by decide) ?_
  refine x_iadd X dX7_gives_39 ?_
  refine x_iload_n X 3 dX7_gives_40 rfl ?_
  refine x_iadd X dX7_gives_41 ?_
  refine x_iload X 5 dX7_gives_42 rfl ?_
  refine x_callv hA (x_runV (n := 3) (sh := shM cy) X K hR (fun _ q => q) (m_X7_put hi  h) (kM_0 cy Nat.zero_lt_one) rfl rfl t4_191 t4_193 tp_29 t1_8 t4_194 ⟨by decide, by decide, by decide +kernel⟩ rfl (by decide) (by decide) rfl (Nat.le_of_ble_eq_true rfl) dX7_gives_44) (fun S11 h => ?_)
  exact x_vret X E dX7_gives_47 ⟨rfl, h⟩
set_option maxHeartbeats 2000000 in
set_option maxRecDepth 20000 in
theorem m_X7_gives {l : Launch} {D : va_G} {cy : Nat → ClassId} {ad : Nat → Nat → Nat} (hi : xInj (shM cy) ad) {a1 : Int32} {a2 : Int32} {a3 : Int32} {a4 : Int32} {a5 : Int32} {S : xS} {Q : xS → Prop} (h : wp_X7_gives a1 a2 a3 a4 a5 S Q) : xMet l D (xTys cy) (shM cy) ad yX7_gives cX7_gives 6 none (xRm 1 23) [.ref (ad 0 0), .int a1, .int a2, .int a3, .int a4, .int a5] S (xQv Q) := xMet_env hi (by decide +kernel) rfl (Nat.le_of_ble_eq_true rfl) (fun g hl V => w_X7_gives V h)
set_option maxHeartbeats 2000000 in
set_option maxRecDepth 20000 in
theorem w_X7_addTuple_28_b {g : xG} {D : va_G} {cy : Nat → ClassId} {ad : Nat → Nat → Nat} {a1 : Int32} {K28 : xS → Int32 → Int32 → Prop} {Q : Int32 → xS → Prop} (V : xEnv g D (xTys cy) (shM cy) ad RX7 cX7_addTuple (some .int) 2 46 4 (xQi Q)) (hK28 : ∀ (S : xS) (v2 : Int32) (v3 : Int32), K28 S v2 v3 → Wx g (xW D (shM cy) ad S) 28 [(0, .ref (ad 0 0)), (1, .int a1), (2, .int v2), (3, .int v3)] []) (S : xS) (v2 : Int32) (v3 : Int32) (h : wp_X7_addTuple_28_b a1 K28 Q S v2 v3) : Wx g (xW D (shM cy) ad S) 28 [(0, .ref (ad 0 0)), (1, .int a1), (2, .int v2), (3, .int v3)] [] := by
  obtain ⟨X, K, hi, hA, hR, E, hN⟩ := V
  have V := xEnv_mk X K hi hA hR E hN
  unfold wp_X7_addTuple_28_b at h
  refine x_iload_n X 3 dX7_addTuple_28 rfl ?_
  refine x_bipush X (v := 87) dX7_addTuple_29 (by decide) ?_
  refine x_icmp_ge X 52 dX7_addTuple_31 (by decide) h (fun h => ?_) (fun h => ?_)
  · refine x_aload_n X 0 dX7_addTuple_52 rfl ?_
    refine x_iload_n X 1 dX7_addTuple_53 rfl ?_
    refine x_iconst X (v := 3) dX7_addTuple_54 (by decide) ?_
    refine x_iload_n X 2 dX7_addTuple_55 rfl ?_
    refine x_iconst X (v := 1) dX7_addTuple_56 (by decide) ?_
    refine x_iadd X dX7_addTuple_57 ?_
    refine x_callv hA (x_runV (n := 3) (sh := shM cy) X K hR (fun _ q => q) (m_X7_put hi  h) (kM_0 cy (Nat.zero_lt_one)) rfl rfl t4_191 t4_193 tp_29 t1_8 t4_194 ⟨by decide, by decide, by decide +kernel⟩ rfl (by decide) (by decide) rfl (Nat.le_of_ble_eq_true rfl) dX7_addTuple_58) (fun S1 h => ?_)
    refine x_iload_n X 2 dX7_addTuple_61 rfl ?_
    exact x_iret X E dX7_addTuple_62 ⟨_, rfl, h⟩
  · refine x_aload_n X 0 dX7_addTuple_34 rfl ?_
    refine x_iload_n X 1 dX7_addTuple_35 rfl ?_
    refine x_iload_n X 2 dX7_addTuple_36 rfl ?_
    refine x_calli hA (x_runS (n := 1) X K hR (fun _ q => q) (m_X7_tupleAt hi  h) t4_236 t4_237 t1_8 t4_238 ⟨by decide, by decide, by decide +kernel⟩ rfl (by decide) (by decide) rfl (Nat.le_of_ble_eq_true rfl) dX7_addTuple_37) (fun r4 S3 h => ?_)
    refine x_iload_n X 3 dX7_addTuple_40 rfl ?_
    refine x_iadd X dX7_addTuple_41 ?_
    refine x_iconst X (v := 0) dX7_addTuple_42 (by decide) ?_
    refine x_callv hA (x_runV (n := 3) (sh := shM cy) X K hR (fun _ q => q) (m_X7_put hi  h) (kM_0 cy (Nat.zero_lt_one)) rfl rfl t4_191 t4_193 tp_29 t1_8 t4_194 ⟨by decide, by decide, by decide +kernel⟩ rfl (by decide) (by decide) rfl (Nat.le_of_ble_eq_true rfl) dX7_addTuple_43) (fun S5 h => ?_)
    refine x_iinc X 3 [(3, .int (v3 + (1 : Int32))), (0, .ref (ad 0 0)), (1, .int a1), (2, .int v2)] dX7_addTuple_46 rfl rfl (by rw [hN]; decide) rfl ?_
    refine x_goto X 28 dX7_addTuple_49 (by decide) ?_
    refine x_sub [1, 2, 3, 0] rfl ?_
    exact hK28 S5 v2 (v3 + (1 : Int32)) h
set_option maxHeartbeats 2000000 in
set_option maxRecDepth 20000 in
theorem w_X7_addTuple_28 {g : xG} {D : va_G} {cy : Nat → ClassId} {ad : Nat → Nat → Nat} {a1 : Int32} {Q : Int32 → xS → Prop} (V : xEnv g D (xTys cy) (shM cy) ad RX7 cX7_addTuple (some .int) 2 46 4 (xQi Q)) (n : Nat) : ∀ (S : xS) (v2 : Int32) (v3 : Int32), wp_X7_addTuple_28 a1 Q n S v2 v3 → Wx g (xW D (shM cy) ad S) 28 [(0, .ref (ad 0 0)), (1, .int a1), (2, .int v2), (3, .int v3)] [] := by
  induction n with
  | zero => intro S v2 v3 h; exact h.elim
  | succ n ih => intro S v2 v3 h; exact w_X7_addTuple_28_b V (fun S v2 v3 h => ih S v2 v3 h) S v2 v3 h
set_option maxHeartbeats 2000000 in
set_option maxRecDepth 20000 in
theorem w_X7_addTuple {g : xG} {D : va_G} {cy : Nat → ClassId} {ad : Nat → Nat → Nat} {a1 : Int32} {S : xS} {Q : Int32 → xS → Prop} (V : xEnv g D (xTys cy) (shM cy) ad RX7 cX7_addTuple (some .int) 2 46 4 (xQi Q)) (h : wp_X7_addTuple a1 S Q) : Wx g (xW D (shM cy) ad S) 0 [(0, .ref (ad 0 0)), (1, .int a1)] [] := by
  obtain ⟨X, K, hi, hA, hR, E, hN⟩ := V
  have V := xEnv_mk X K hi hA hR E hN
  unfold wp_X7_addTuple at h
  refine x_aload_n X 0 dX7_addTuple_0 rfl ?_
  refine x_iload_n X 1 dX7_addTuple_1 rfl ?_
  refine x_calli hA (x_runV (n := 1) (sh := shM cy) X K hR (fun _ q => q) (m_X7_noGlyph hi  h) (kM_0 cy Nat.zero_lt_one) rfl rfl t4_199 t4_201 tp_30 t1_8 t4_202 ⟨by decide, by decide, by decide +kernel⟩ rfl (by decide) (by decide) rfl (Nat.le_of_ble_eq_true rfl) dX7_addTuple_2) (fun r2 S1 h => ?_)
  refine x_if_eq X 11 dX7_addTuple_5 (by decide) h (fun h => ?_) (fun h => ?_)
  · refine x_aload_n X 0 dX7_addTuple_11 rfl ?_
    refine x_iload_n X 1 dX7_addTuple_12 rfl ?_
    refine x_iconst X (v := 3) dX7_addTuple_13 (by decide) ?_
    refine x_calli hA (x_runV (n := 2) (sh := shM cy) X K hR (fun _ q => q) (m_X7_of hi  h) (kM_0 cy Nat.zero_lt_one) rfl rfl t4_208 t4_210 tp_31 t1_8 t4_211 ⟨by decide, by decide, by decide +kernel⟩ rfl (by decide) (by decide) rfl (Nat.le_of_ble_eq_true rfl) dX7_addTuple_14) (fun r4 S3 h => ?_)
    refine x_istore_n X [(2, .int r4), (0, .ref (ad 0 0)), (1, .int a1)] dX7_addTuple_17 (by rw [hN]; decide) rfl ?_
    refine x_iload_n X 0 dX7_addTuple_18 rfl ?_
    refine x_iconst X (v := 5) dX7_addTuple_19 (by decide) ?_
    refine x_icmp_ne X 26 dX7_addTuple_20 (by decide) h (fun h => ?_) (fun h => ?_)
    · refine x_ldc X (v := -1000006) t4_139 dX7_addTuple_23 ?_
      exact x_iret X E dX7_addTuple_25 ⟨_, rfl, h⟩
    · refine x_iconst X (v := 0) dX7_addTuple_26 (by decide) ?_
      refine x_istore_n X [(3, .int (0 : Int32)), (2, .int r4), (0, .ref (ad 0 0)), (1, .int a1)] dX7_addTuple_27 (by rw [hN]; decide) rfl ?_
      refine x_sub [2, 3, 1, 0] rfl ?_
      obtain ⟨n5, h⟩ := h
      exact w_X7_addTuple_28 V n5 S3 r4 (0 : Int32) h
  · refine x_ldc X (v := -1000002) t4_203 dX7_addTuple_8 ?_
    exact x_iret X E dX7_addTuple_10 ⟨_, rfl, h⟩
set_option maxHeartbeats 2000000 in
set_option maxRecDepth 20000 in
theorem m_X7_addTuple {l : Launch} {D : va_G} {cy : Nat → ClassId} {ad : Nat → Nat → Nat} (hi : xInj (shM cy) ad) {a1 : Int32} {S : xS} {Q : Int32 → xS → Prop} (h : wp_X7_addTuple a1 S Q) : xMet l D (xTys cy) (shM cy) ad yX7_addTuple cX7_addTuple 4 (some .int) (xRm 2 46) [.ref (ad 0 0), .int a1] S (xQi Q) := xMet_env hi (by decide +kernel) rfl (Nat.le_of_ble_eq_true rfl) (fun g hl V => w_X7_addTuple V h)
