set_option maxHeartbeats 2000000 in
set_option maxRecDepth 20000 in
theorem w_X7_slotBy_16 {g : xG} {D : va_G} {cy : Nat → ClassId} {ad : Nat → Nat → Nat} {Q : Int32 → xS → Prop} (V : xEnv g D (xTys cy) (shM cy) ad RX7 cX7_slotBy (some .int) 1 22 3 (xQi Q)) (S : xS) (s0 : Int32) (h : wp_X7_slotBy_16 Q S s0) : Wx g (xW D (shM cy) ad S) 16 [] [.int s0] := by
  obtain ⟨X, K, hi, hA, hR, E, hN⟩ := V
  have V := xEnv_mk X K hi hA hR E hN
  unfold wp_X7_slotBy_16 at h
  exact x_iret X E dX7_slotBy_16 ⟨_, rfl, h⟩
set_option maxHeartbeats 2000000 in
set_option maxRecDepth 20000 in
theorem w_X7_slotBy {g : xG} {D : va_G} {cy : Nat → ClassId} {ad : Nat → Nat → Nat} {a1 : Int32} {a2 : Int32} {S : xS} {Q : Int32 → xS → Prop} (V : xEnv g D (xTys cy) (shM cy) ad RX7 cX7_slotBy (some .int) 1 22 3 (xQi Q)) (h : wp_X7_slotBy a1 a2 S Q) : Wx g (xW D (shM cy) ad S) 0 [(0, .ref (ad 0 0)), (1, .int a1), (2, .int a2)] [] := by
  obtain ⟨X, K, hi, hA, hR, E, hN⟩ := V
  have V := xEnv_mk X K hi hA hR E hN
  unfold wp_X7_slotBy at h
  refine x_iload_n X 2 dX7_slotBy_0 rfl ?_
  refine x_aload_n X 0 dX7_slotBy_1 rfl ?_
  refine x_iload_n X 1 dX7_slotBy_2 rfl ?_
  refine x_iconst X (v := 2) dX7_slotBy_3 (by decide) ?_
  refine x_calli hA (x_runV (n := 2) (sh := shM cy) X K hR (fun _ q => q) (m_X7_of hi  h) (kM_0 cy Nat.zero_lt_one) rfl rfl t4_208 t4_210 tp_31 t1_8 t4_211 ⟨by decide, by decide, by decide +kernel⟩ rfl (by decide) (by decide) rfl (Nat.le_of_ble_eq_true rfl) dX7_slotBy_4) (fun r2 S1 h => ?_)
  refine x_icmp_ne X 15 dX7_slotBy_7 (by decide) h (fun h => ?_) (fun h => ?_)
  · refine x_bipush X (v := 24) dX7_slotBy_10 (by decide) ?_
    refine x_goto X 16 dX7_slotBy_12 (by decide) ?_
    refine x_sub [] rfl ?_
    exact w_X7_slotBy_16 V S1 (24 : Int32) h
  · refine x_iload_n X 2 dX7_slotBy_15 rfl ?_
    refine x_sub [] rfl ?_
    exact w_X7_slotBy_16 V S1 a2 h
set_option maxHeartbeats 2000000 in
set_option maxRecDepth 20000 in
theorem m_X7_slotBy {l : Launch} {D : va_G} {cy : Nat → ClassId} {ad : Nat → Nat → Nat} (hi : xInj (shM cy) ad) {a1 : Int32} {a2 : Int32} {S : xS} {Q : Int32 → xS → Prop} (h : wp_X7_slotBy a1 a2 S Q) : xMet l D (xTys cy) (shM cy) ad yX7_slotBy cX7_slotBy 3 (some .int) (xRm 1 22) [.ref (ad 0 0), .int a1, .int a2] S (xQi Q) := xMet_env hi (by decide +kernel) rfl (Nat.le_of_ble_eq_true rfl) (fun g hl V => w_X7_slotBy V h)
set_option maxHeartbeats 2000000 in
set_option maxRecDepth 20000 in
theorem w_X7_layDeltas_2_b {g : xG} {D : va_G} {cy : Nat → ClassId} {ad : Nat → Nat → Nat} {a1 : Int32} {a2 : Int32} {K2 : xS → Int32 → Prop} {Q : xS → Prop} (V : xEnv g D (xTys cy) (shM cy) ad RX7 cX7_layDeltas none 4 108 5 (xQv Q)) (hK2 : ∀ (S : xS) (v3 : Int32), K2 S v3 → Wx g (xW D (shM cy) ad S) 2 [(0, .ref (ad 0 0)), (1, .int a1), (2, .int a2), (3, .int v3)] []) (S : xS) (v3 : Int32) (h : wp_X7_layDeltas_2_b a1 a2 K2 Q S v3) : Wx g (xW D (shM cy) ad S) 2 [(0, .ref (ad 0 0)), (1, .int a1), (2, .int a2), (3, .int v3)] [] := by
  obtain ⟨X, K, hi, hA, hR, E, hN⟩ := V
  have V := xEnv_mk X K hi hA hR E hN
  unfold wp_X7_layDeltas_2_b at h
  refine x_iload_n X 3 dX7_layDeltas_2 rfl ?_
  refine x_aload_n X 0 dX7_layDeltas_3 rfl ?_
  refine x_iload_n X 1 dX7_layDeltas_4 rfl ?_
  refine x_iconst X (v := 2) dX7_layDeltas_5 (by decide) ?_
  refine x_calli hA (x_runV (n := 2) (sh := shM cy) X K hR (fun _ q => q) (m_X7_of hi  h) (kM_0 cy (Nat.zero_lt_one)) rfl rfl t4_208 t4_210 tp_31 t1_8 t4_211 ⟨by decide, by decide, by decide +kernel⟩ rfl (by decide) (by decide) rfl (Nat.le_of_ble_eq_true rfl) dX7_layDeltas_6) (fun r2 S1 h => ?_)
  refine x_icmp_gt X 58 dX7_layDeltas_9 (by decide) h (fun h => ?_) (fun h => ?_)
  · exact x_vret X E dX7_layDeltas_58 ⟨rfl, h⟩
  · refine x_aload_n X 0 dX7_layDeltas_12 rfl ?_
    refine x_iload_n X 1 dX7_layDeltas_13 rfl ?_
    refine x_iload_n X 3 dX7_layDeltas_14 rfl ?_
    refine x_calli hA (x_runV (n := 2) (sh := shM cy) X K hR (fun _ q => q) (m_X7_slotBy hi  h) (kM_0 cy (Nat.zero_lt_one)) rfl rfl t5_172 t5_174 tp_57 t1_8 t5_175 ⟨by decide, by decide, by decide +kernel⟩ rfl (by decide) (by decide) rfl (Nat.le_of_ble_eq_true rfl) dX7_layDeltas_15) (fun r4 S3 h => ?_)
    refine x_istore X [(4, .int r4), (0, .ref (ad 0 0)), (1, .int a1), (2, .int a2), (3, .int v3)] dX7_layDeltas_18 (by rw [hN]; decide) rfl ?_
    refine x_aload_n X 1 dX7_layDeltas_20 rfl ?_
    refine xg_X7_75 X K (Nat.zero_lt_one) dX7_layDeltas_21 ?_
    refine x_iload X 0 dX7_layDeltas_24 rfl ?_
    refine x_aload_n X 1 dX7_layDeltas_26 rfl ?_
    refine x_iload_n X 2 dX7_layDeltas_27 rfl ?_
    refine x_iload_n X 3 dX7_layDeltas_28 rfl ?_
    refine x_iload X 0 dX7_layDeltas_29 rfl ?_
    refine x_iconst X (v := 0) dX7_layDeltas_31 (by decide) ?_
    refine x_calli hA (x_runV (n := 4) (sh := shM cy) X K hR (fun _ q => q) (m_X7_deltaOf hi  h) (kM_0 cy (Nat.zero_lt_one)) rfl rfl t5_47 t5_49 tp_41 t1_8 t5_50 ⟨by decide, by decide, by decide +kernel⟩ rfl (by decide) (by decide) rfl (Nat.le_of_ble_eq_true rfl) dX7_layDeltas_32) (fun r6 S5 h => ?_)
    obtain ⟨hb7, h⟩ := h
    refine xs_M27 X K hi hA (show 0 < 1 by decide) hb7 dX7_layDeltas_35 ?_
    refine x_aload_n X 1 dX7_layDeltas_36 rfl ?_
    refine xg_X7_78 X K (Nat.zero_lt_one) dX7_layDeltas_37 ?_
    refine x_iload X 0 dX7_layDeltas_40 rfl ?_
    refine x_aload_n X 1 dX7_layDeltas_42 rfl ?_
    refine x_iload_n X 2 dX7_layDeltas_43 rfl ?_
    refine x_iload_n X 3 dX7_layDeltas_44 rfl ?_
    refine x_iload X 0 dX7_layDeltas_45 rfl ?_
    refine x_iconst X (v := 1) dX7_layDeltas_47 (by decide) ?_
    refine x_calli hA (x_runV (n := 4) (sh := shM cy) X K hR (fun _ q => q) (m_X7_deltaOf hi  h) (kM_0 cy (Nat.zero_lt_one)) rfl rfl t5_47 t5_49 tp_41 t1_8 t5_50 ⟨by decide, by decide, by decide +kernel⟩ rfl (by decide) (by decide) rfl (Nat.le_of_ble_eq_true rfl) dX7_layDeltas_48) (fun r9 S8 h => ?_)
    obtain ⟨hb10, h⟩ := h
    refine xs_M28 X K hi hA (show 0 < 1 by decide) hb10 dX7_layDeltas_51 ?_
    refine x_iinc X 4 [(3, .int (v3 + (1 : Int32))), (4, .int r4), (0, .ref (ad 0 0)), (1, .int a1), (2, .int a2)] dX7_layDeltas_52 rfl rfl (by rw [hN]; decide) rfl ?_
    refine x_goto X 2 dX7_layDeltas_55 (by decide) ?_
    refine x_sub [2, 3, 4, 0] rfl ?_
    exact hK2 (xI S8 28 0 r4.toNatClampNeg r9) (v3 + (1 : Int32)) h
set_option maxHeartbeats 2000000 in
set_option maxRecDepth 20000 in
theorem w_X7_layDeltas_2 {g : xG} {D : va_G} {cy : Nat → ClassId} {ad : Nat → Nat → Nat} {a1 : Int32} {a2 : Int32} {Q : xS → Prop} (V : xEnv g D (xTys cy) (shM cy) ad RX7 cX7_layDeltas none 4 108 5 (xQv Q)) (n : Nat) : ∀ (S : xS) (v3 : Int32), wp_X7_layDeltas_2 a1 a2 Q n S v3 → Wx g (xW D (shM cy) ad S) 2 [(0, .ref (ad 0 0)), (1, .int a1), (2, .int a2), (3, .int v3)] [] := by
  induction n with
  | zero => intro S v3 h; exact h.elim
  | succ n ih => intro S v3 h; exact w_X7_layDeltas_2_b V (fun S v3 h => ih S v3 h) S v3 h
set_option maxHeartbeats 2000000 in
set_option maxRecDepth 20000 in
theorem w_X7_layDeltas {g : xG} {D : va_G} {cy : Nat → ClassId} {ad : Nat → Nat → Nat} {a1 : Int32} {a2 : Int32} {S : xS} {Q : xS → Prop} (V : xEnv g D (xTys cy) (shM cy) ad RX7 cX7_layDeltas none 4 108 5 (xQv Q)) (h : wp_X7_layDeltas a1 a2 S Q) : Wx g (xW D (shM cy) ad S) 0 [(0, .ref (ad 0 0)), (1, .int a1), (2, .int a2)] [] := by
  obtain ⟨X, K, hi, hA, hR, E, hN⟩ := V
  have V := xEnv_mk X K hi hA hR E hN
  unfold wp_X7_layDeltas at h
  refine x_iconst X (v := 0) dX7_layDeltas_0 (by decide) ?_
  refine x_istore_n X [(3, .int (0 : Int32)), (0, .ref (ad 0 0)), (1, .int a1), (2, .int a2)] dX7_layDeltas_1 (by rw [hN]; decide) rfl ?_
  refine x_sub [1, 2, 3, 0] rfl ?_
  obtain ⟨n1, h⟩ := h
  exact w_X7_layDeltas_2 V n1 S (0 : Int32) h
set_option maxHeartbeats 2000000 in
set_option maxRecDepth 20000 in
theorem m_X7_layDeltas {l : Launch} {D : va_G} {cy : Nat → ClassId} {ad : Nat → Nat → Nat} (hi : xInj (shM cy) ad) {a1 : Int32} {a2 : Int32} {S : xS} {Q : xS → Prop} (h : wp_X7_layDeltas a1 a2 S Q) : xMet l D (xTys cy) (shM cy) ad yX7_layDeltas cX7_layDeltas 5 none (xRm 4 108) [.ref (ad 0 0), .int a1, .int a2] S (xQv Q) := xMet_env hi (by decide +kernel) rfl (Nat.le_of_ble_eq_true rfl) (fun g hl V => w_X7_layDeltas V h)
set_option maxHeartbeats 2000000 in
set_option maxRecDepth 20000 in
theorem w_X7_touchAll_2_b {g : xG} {D : va_G} {cy : Nat → ClassId} {ad : Nat → Nat → Nat} {a1 : Int32} {a2 : Int32} {K2 : xS → Int32 → Prop} {Q : xS → Prop} (V : xEnv g D (xTys cy) (shM cy) ad RX7 cX7_touchAll none 2 48 5 (xQv Q)) (hK2 : ∀ (S : xS) (v3 : Int32), K2 S v3 → Wx g (xW D (shM cy) ad S) 2 [(0, .ref (ad 0 0)), (1, .int a1), (2, .int a2), (3, .int v3)] []) (S : xS) (v3 : Int32) (h : wp_X7_touchAll_2_b a1 a2 K2 Q S v3) : Wx g (xW D (shM cy) ad S) 2 [(0, .ref (ad 0 0)), (1, .int a1), (2, .int a2), (3, .int v3)] [] := by
  obtain ⟨X, K, hi, hA, hR, E, hN⟩ := V
  have V := xEnv_mk X K hi hA hR E hN
  unfold wp_X7_touchAll_2_b at h
  refine x_iload_n X 3 dX7_touchAll_2 rfl ?_
  refine x_aload_n X 0 dX7_touchAll_3 rfl ?_
  refine x_iload_n X 1 dX7_touchAll_4 rfl ?_
  refine x_iconst X (v := 2) dX7_touchAll_5 (by decide) ?_
  refine x_calli hA (x_runV (n := 2) (sh := shM cy) X K hR (fun _ q => q) (m_X7_of hi  h) (kM_0 cy (Nat.zero_lt_one)) rfl rfl t4_208 t4_210 tp_31 t1_8 t4_211 ⟨by decide, by decide, by decide +kernel⟩ rfl (by decide) (by decide) rfl (Nat.le_of_ble_eq_true rfl) dX7_touchAll_6) (fun r2 S1 h => ?_)
  refine x_icmp_gt X 48 dX7_touchAll_9 (by decide) h (fun h => ?_) (fun h => ?_)
  · exact x_vret X E dX7_touchAll_48 ⟨rfl, h⟩
  · refine x_aload_n X 0 dX7_touchAll_12 rfl ?_
    refine x_iload_n X 1 dX7_touchAll_13 rfl ?_
    refine x_iload_n X 3 dX7_touchAll_14 rfl ?_
    refine x_calli hA (x_runV (n := 2) (sh := shM cy) X K hR (fun _ q => q) (m_X7_slotBy hi  h) (kM_0 cy (Nat.zero_lt_one)) rfl rfl t5_172 t5_174 tp_57 t1_8 t5_175 ⟨by decide, by decide, by decide +kernel⟩ rfl (by decide) (by decide) rfl (Nat.le_of_ble_eq_true rfl) dX7_touchAll_15) (fun r4 S3 h => ?_)
    refine x_istore X [(4, .int r4), (0, .ref (ad 0 0)), (1, .int a1), (2, .int a2), (3, .int v3)] dX7_touchAll_18 (by rw [hN]; decide) rfl ?_
    refine x_aload_n X 1 dX7_touchAll_20 rfl ?_
    refine x_iload_n X 2 dX7_touchAll_21 rfl ?_
    refine x_iload_n X 3 dX7_touchAll_22 rfl ?_
    refine x_iload X 0 dX7_touchAll_23 rfl ?_
    refine x_aload_n X 1 dX7_touchAll_25 rfl ?_
    refine xg_X7_75 X K (Nat.zero_lt_one) dX7_touchAll_26 ?_
    refine x_iload X 0 dX7_touchAll_29 rfl ?_
    obtain ⟨hb5, h⟩ := h
    refine xa_M27 X K (show 0 < 1 by decide) hb5 dX7_touchAll_31 ?_
    refine x_aload_n X 1 dX7_touchAll_32 rfl ?_
    refine xg_X7_78 X K (Nat.zero_lt_one) dX7_touchAll_33 ?_
    refine x_iload X 0 dX7_touchAll_36 rfl ?_
    obtain ⟨hb6, h⟩ := h
    refine xa_M28 X K (show 0 < 1 by decide) hb6 dX7_touchAll_38 ?_
    refine x_callv hA (x_runV (n := 5) (sh := shM cy) X K hR (fun _ q => q) (m_X7_gives hi  h) (kM_0 cy (Nat.zero_lt_one)) rfl rfl t5_35 t5_37 tp_40 t1_8 t5_38 ⟨by decide, by decide, by decide +kernel⟩ rfl (by decide) (by decide) rfl (Nat.le_of_ble_eq_true rfl) dX7_touchAll_39) (fun S7 h => ?_)
    refine x_iinc X 4 [(3, .int (v3 + (1 : Int32))), (4, .int r4), (0, .ref (ad 0 0)), (1, .int a1), (2, .int a2)] dX7_touchAll_42 rfl rfl (by rw [hN]; decide) rfl ?_
    refine x_goto X 2 dX7_touchAll_45 (by decide) ?_
    refine x_sub [2, 3, 4, 0] rfl ?_
    exact hK2 S7 (v3 + (1 : Int32)) h
set_option maxHeartbeats 2000000 in
set_option maxRecDepth 20000 in
theorem w_X7_touchAll_2 {g : xG} {D : va_G} {cy : Nat → ClassId} {ad : Nat → Nat → Nat} {a1 : Int32} {a2 : Int32} {Q : xS → Prop} (V : xEnv g D (xTys cy) (shM cy) ad RX7 cX7_touchAll none 2 48 5 (xQv Q)) (n : Nat) : ∀ (S : xS) (v3 : Int32), wp_X7_touchAll_2 a1 a2 Q n S v3 → Wx g (xW D (shM cy) ad S) 2 [(0, .ref (ad 0 0)), (1, .int a1), (2, .int a2), (3, .int v3)] [] := by
  induction n with
  | zero => intro S v3 h; exact h.elim
  | succ n ih => intro S v3 h; exact w_X7_touchAll_2_b V (fun S v3 h => ih S v3 h) S v3 h
set_option maxHeartbeats 2000000 in
set_option maxRecDepth 20000 in
theorem w_X7_touchAll {g : xG} {D : va_G} {cy : Nat → ClassId} {ad : Nat → Nat → Nat} {a1 : Int32} {a2 : Int32} {S : xS} {Q : xS → Prop} (V : xEnv g D (xTys cy) (shM cy) ad RX7 cX7_touchAll none 2 48 5 (xQv Q)) (h : wp_X7_touchAll a1 a2 S Q) : Wx g (xW D (shM cy) ad S) 0 [(0, .ref (ad 0 0)), (1, .int a1), (2, .int a2)] [] := by
  obtain ⟨X, K, hi, hA, hR, E, hN⟩ := V
  have V := xEnv_mk X K hi hA hR E hN
  unfold wp_X7_touchAll at h
  refine x_iconst X (v := 0) dX7_touchAll_0 (by decide) ?_
  refine x_istore_n X [(3, .int (0 : Int32)), (0, .ref (ad 0 0)), (1, .int a1), (2, .int a2)] dX7_touchAll_1 (by rw [hN]; decide) rfl ?_
  refine x_sub [1, 2, 3, 0] rfl ?_
  obtain ⟨n1, h⟩ := h
  exact w_X7_touchAll_2 V n1 S (0 : Int32) h
set_option maxHeartbeats 2000000 in
set_option maxRecDepth 20000 in
theorem m_X7_touchAll {l : Launch} {D : va_G} {cy : Nat → ClassId} {ad : Nat → Nat → Nat} (hi : xInj (shM cy) ad) {a1 : Int32} {a2 : Int32} {S : xS} {Q : xS → Prop} (h : wp_X7_touchAll a1 a2 S Q) : xMet l D (xTys cy) (shM cy) ad yX7_touchAll cX7_touchAll 5 none (xRm 2 48) [.ref (ad 0 0), .int a1, .int a2] S (xQv Q) := xMet_env hi (by decide +kernel) rfl (Nat.le_of_ble_eq_true rfl) (fun g hl V => w_X7_touchAll V h)
set_option maxHeartbeats 2000000 in
set_option maxRecDepth 20000 in
theorem w_X7_isSameRegion_3_b {g : xG} {D : va_G} {cy : Nat → ClassId} {ad : Nat → Nat → Nat} {a1 : Int32} {a2 : Int32} {a3 : Int32} {K3 : xS → Int32 → Prop} {Q : Int32 → xS → Prop} (V : xEnv g D (xTys cy) (shM cy) ad RX7 cX7_isSameRegion (some .boolean) 1 22 5 (xQi Q)) (hK3 : ∀ (S : xS) (v4 : Int32), K3 S v4 → Wx g (xW D (shM cy) ad S) 3 [(0, .ref (ad 0 0)), (1, .int a1), (2, .int a2), (3, .int a3), (4, .int v4)] []) (S : xS) (v4 : Int32) (h : wp_X7_isSameRegion_3_b a1 a2 a3 K3 Q S v4) : Wx g (xW D (shM cy) ad S) 3 [(0, .ref (ad 0 0)), (1, .int a1), (2, .int a2), (3, .int a3), (4, .int v4)] [] := by
  obtain ⟨X, K, hi, hA, hR, E, hN⟩ := V
  have V := xEnv_mk X K hi hA hR E hN
  unfold wp_X7_isSameRegion_3_b at h
  refine x_iload X 4 dX7_isSameRegion_3 rfl ?_
  refine x_bipush X (v := 12) dX7_isSameRegion_5 (by decide) ?_
  refine x_icmp_ge X 45 dX7_isSameRegion_7 (by decide) h (fun h => ?_) (fun h => ?_)
  · refine x_iconst X (v := 1) dX7_isSameRegion_45 (by decide) ?_
    exact x_zret X E dX7_isSameRegion_46 h.1 ⟨_, rfl, h.2⟩
  · refine x_aload_n X 0 dX7_isSameRegion_10 rfl ?_
    refine x_iload_n X 1 dX7_isSameRegion_11 rfl ?_
    refine x_iload_n X 2 dX7_isSameRegion_12 rfl ?_
    refine x_calli hA (x_runS (n := 1) X K hR (fun _ q => q) (m_X7_tupleAt hi  h) t4_236 t4_237 t1_8 t4_238 ⟨by decide, by decide, by decide +kernel⟩ rfl (by decide) (by decide) rfl (Nat.le_of_ble_eq_true rfl) dX7_isSameRegion_13) (fun r2 S1 h => ?_)
    refine x_iload X 4 dX7_isSameRegion_16 rfl ?_
    refine x_iadd X dX7_isSameRegion_18 ?_
    refine x_calli hA (x_runV (n := 2) (sh := shM cy) X K hR (fun _ q => q) (m_X7_of hi  h) (kM_0 cy (Nat.zero_lt_one)) rfl rfl t4_208 t4_210 tp_31 t1_8 t4_211 ⟨by decide, by decide, by decide +kernel⟩ rfl (by decide) (by decide) rfl (Nat.le_of_ble_eq_true rfl) dX7_isSameRegion_19) (fun r4 S3 h => ?_)
    refine x_aload_n X 0 dX7_isSameRegion_22 rfl ?_
    refine x_iload_n X 1 dX7_isSameRegion_23 rfl ?_
    refine x_iload_n X 3 dX7_isSameRegion_24 rfl ?_
    refine x_calli hA (x_runS (n := 1) X K hR (fun _ q => q) (m_X7_tupleAt hi  h) t4_236 t4_237 t1_8 t4_238 ⟨by decide, by decide, by decide +kernel⟩ rfl (by decide) (by decide) rfl (Nat.le_of_ble_eq_true rfl) dX7_isSameRegion_25) (fun r6 S5 h => ?_)
    refine x_iload X 4 dX7_isSameRegion_28 rfl ?_
    refine x_iadd X dX7_isSameRegion_30 ?_
    refine x_calli hA (x_runV (n := 2) (sh := shM cy) X K hR (fun _ q => q) (m_X7_of hi  h) (kM_0 cy (Nat.zero_lt_one)) rfl rfl t4_208 t4_210 tp_31 t1_8 t4_211 ⟨by decide, by decide, by decide +kernel⟩ rfl (by decide) (by decide) rfl (Nat.le_of_ble_eq_true rfl) dX7_isSameRegion_31) (fun r8 S7 h => ?_)
    refine x_icmp_eq X 39 dX7_isSameRegion_34 (by decide) h (fun h => ?_) (fun h => ?_)
    · refine x_iinc X 4 [(4, .int (v4 + (1 : Int32))), (0, .ref (ad 0 0)), (1, .int a1), (2, .int a2), (3, .int a3)] dX7_isSameRegion_39 rfl rfl (by rw [hN]; decide) rfl ?_
      refine x_goto X 3 dX7_isSameRegion_42 (by decide) ?_
      refine x_sub [1, 2, 3, 4, 0] rfl ?_
      exact hK3 S7 (v4 + (1 : Int32)) h
    · refine x_iconst X (v := 0) dX7_isSameRegion_37 (by decide) ?_
      exact x_zret X E dX7_isSameRegion_38 h.1 ⟨_, rfl, h.2⟩
set_option maxHeartbeats 2000000 in
set_option maxRecDepth 20000 in
theorem w_X7_isSameRegion_3 {g : xG} {D : va_G} {cy : Nat → ClassId} {ad : Nat → Nat → Nat} {a1 : Int32} {a2 : Int32} {a3 : Int32} {Q : Int32 → xS → Prop} (V : xEnv g D (xTys cy) (shM cy) ad RX7 cX7_isSameRegion (some .boolean) 1 22 5 (xQi Q)) (n : Nat) : ∀ (S : xS) (v4 : Int32), wp_X7_isSameRegion_3 a1 a2 a3 Q n S v4 → Wx g (xW D (shM cy) ad S) 3 [(0, .ref (ad 0 0)), (1, .int a1), (2, .int a2), (3, .int a3), (4, .int v4)] [] := by
  induction n with
  | zero => intro S v4 h; exact h.elim
  | succ n ih => intro S v4 h; exact w_X7_isSameRegion_3_b V (fun S v4 h => ih S v4 h) S v4 h
set_option maxHeartbeats 2000000 in
set_option maxRecDepth 20000 in
theorem w_X7_isSameRegion {g : xG} {D : va_G} {cy : Nat → ClassId} {ad : Nat → Nat → Nat} {a1 : Int32} {a2 : Int32} {a3 : Int32} {S : xS} {Q : Int32 → xS → Prop} (V : xEnv g D (xTys cy) (shM cy) ad RX7 cX7_isSameRegion (some .boolean) 1 22 5 (xQi Q)) (h : wp_X7_isSameRegion a1 a2 a3 S Q) : Wx g (xW D (shM cy) ad S) 0 [(0, .ref (ad 0 0)), (1, .int a1), (2, .int a2), (3, .int a3)] [] := by
  obtain ⟨X, K, hi, hA, hR, E, hN⟩ := V
  have V := xEnv_mk X K hi hA hR E hN
  unfold wp_X7_isSameRegion at h
  refine x_iconst X (v := 0) dX7_isSameRegion_0 (by decide) ?_
  refine x_istore X [(4, .int (0 : Int32)), (0, .ref (ad 0 0)), (1, .int a1), (2, .int a2), (3, .int a3)] dX7_isSameRegion_1 (by rw [hN]; decide) rfl ?_
  refine x_sub [1, 2, 3, 4, 0] rfl ?_
  obtain ⟨n1, h⟩ := h
  exact w_X7_isSameRegion_3 V n1 S (0 : Int32) h
set_option maxHeartbeats 2000000 in
set_option maxRecDepth 20000 in
theorem m_X7_isSameRegion {l : Launch} {D : va_G} {cy : Nat → ClassId} {ad : Nat → Nat → Nat} (hi : xInj (shM cy) ad) {a1 : Int32} {a2 : Int32} {a3 : Int32} {S : xS} {Q : Int32 → xS → Prop} (h : wp_X7_isSameRegion a1 a2 a3 S Q) : xMet l D (xTys cy) (shM cy) ad yX7_isSameRegion cX7_isSameRegion 5 (some .boolean) (xRm 1 22) [.ref (ad 0 0), .int a1, .int a2, .int a3] S (xQi Q) := xMet_env hi (by decide +kernel) rfl (Nat.le_of_ble_eq_true rfl) (fun g hl V => w_X7_isSameRegion V h)
set_option maxHeartbeats 2000000 in
set_option maxRecDepth 20000 in
theorem w_X7_joins_86_b {g : xG} {D : va_G} {cy : Nat → ClassId} {ad : Nat → Nat → Nat} {a1 : Int32} {a2 : Int32} {a3 : Int32} {K86 : xS → Int32 → Prop} {Q : xS → Prop} (V : xEnv g D (xTys cy) (shM cy) ad RX7 cX7_joins none 5 132 6 (xQv Q)) (hK86 : ∀ (S : xS) (v4 : Int32), K86 S v4 → Wx g (xW D (shM cy) ad S) 86 [(0, .ref (ad 0 0)), (1, .int a1), (2, .int a2), (3, .int a3), (4, .int v4)] []) (S : xS) (v4 : Int32) (h : wp_X7_joins_86_b a1 a2 a3 K86 Q S v4) : Wx g (xW D (shM cy) ad S) 86 [(0, .ref (ad 0 0)), (1, .int a1), (2, .int a2), (3, .int a3), (4, .int v4)] [] := by
  obtain ⟨X, K, hi, hA, hR, E, hN⟩ := V
  have V := xEnv_mk X K hi hA hR E hN
  unfold wp_X7_joins_86_b at h
  refine x_iload X 4 dX7_joins_86 rfl ?_
  refine x_bipush X (v := 24) dX7_joins_88 (by decide) ?_
  refine x_icmp_gt X 127 dX7_joins_90 (by decide) h (fun h => ?_) (fun h => ?_)
  · refine x_aload_n X 0 dX7_joins_127 rfl ?_
    refine x_iload_n X 1 dX7_joins_128 rfl ?_
    refine x_iload_n X 2 dX7_joins_129 rfl ?_
    refine x_callv hA (x_runV (n := 2) (sh := shM cy) X K hR (fun _ q => q) (m_X7_touchAll hi  h) (kM_0 cy (Nat.zero_lt_one)) rfl rfl t5_176 t5_178 tp_58 t1_8 t5_179 ⟨by decide, by decide, by decide +kernel⟩ rfl (by decide) (by decide) rfl (Nat.le_of_ble_eq_true rfl) dX7_joins_130) (fun S1 h => ?_)
    refine x_aload_n X 0 dX7_joins_133 rfl ?_
    refine x_iload_n X 1 dX7_joins_134 rfl ?_
    refine x_iload_n X 3 dX7_joins_135 rfl ?_
    refine x_callv hA (x_runV (n := 2) (sh := shM cy) X K hR (fun _ q => q) (m_X7_removeTuple hi  h) (kM_0 cy (Nat.zero_lt_one)) rfl rfl t5_180 t5_182 tp_59 t1_8 t5_183 ⟨by decide, by decide, by decide +kernel⟩ rfl (by decide) (by decide) rfl (Nat.le_of_ble_eq_true rfl) dX7_joins_136) (fun S3 h => ?_)
    exact x_vret X E dX7_joins_139 ⟨rfl, h⟩
  · refine x_aload_n X 0 dX7_joins_93 rfl ?_
    refine xg_X7_75 X K (Nat.zero_lt_one) dX7_joins_94 ?_
    refine x_iload X 4 dX7_joins_97 rfl ?_
    refine x_aload_n X 0 dX7_joins_99 rfl ?_
    refine xg_X7_81 X K (Nat.zero_lt_one) dX7_joins_100 ?_
    refine x_iload X 4 dX7_joins_103 rfl ?_
    obtain ⟨hb5, h⟩ := h
    refine xa_M29 X K (show 0 < 1 by decide) hb5 dX7_joins_105 ?_
    obtain ⟨hb6, h⟩ := h
    refine xs_M27 X K hi hA (show 0 < 1 by decide) hb6 dX7_joins_106 ?_
    refine x_aload_n X 0 dX7_joins_107 rfl ?_
    refine xg_X7_78 X K (Nat.zero_lt_one) dX7_joins_108 ?_
    refine x_iload X 4 dX7_joins_111 rfl ?_
    refine x_aload_n X 0 dX7_joins_113 rfl ?_
    refine xg_X7_84 X K (Nat.zero_lt_one) dX7_joins_114 ?_
    refine x_iload X 4 dX7_joins_117 rfl ?_
    obtain ⟨hb7, h⟩ := h
    refine xa_M30 X K (show 0 < 1 by decide) hb7 dX7_joins_119 ?_
    obtain ⟨hb8, h⟩ := h
    refine xs_M28 X K hi hA (show 0 < 1 by decide) hb8 dX7_joins_120 ?_
    refine x_iinc X 4 [(4, .int (v4 + (1 : Int32))), (0, .ref (ad 0 0)), (1, .int a1), (2, .int a2), (3, .int a3)] dX7_joins_121 rfl rfl (by rw [hN]; decide) rfl ?_
    refine x_goto X 86 dX7_joins_124 (by decide) ?_
    refine x_sub [1, 2, 3, 4, 0] rfl ?_
    exact hK86 (xI (xI S 27 0 v4.toNatClampNeg (S.1 29 0 v4.toNatClampNeg)) 28 0 v4.toNatClampNeg ((xI S 27 0 v4.toNatClampNeg (S.1 29 0 v4.toNatClampNeg)).1 30 0 v4.toNatClampNeg)) (v4 + (1 : Int32)) h
set_option maxHeartbeats 2000000 in
set_option maxRecDepth 20000 in
theorem w_X7_joins_86 {g : xG} {D : va_G} {cy : Nat → ClassId} {ad : Nat → Nat → Nat} {a1 : Int32} {a2 : Int32} {a3 : Int32} {Q : xS → Prop} (V : xEnv g D (xTys cy) (shM cy) ad RX7 cX7_joins none 5 132 6 (xQv Q)) (n : Nat) : ∀ (S : xS) (v4 : Int32), wp_X7_joins_86 a1 a2 a3 Q n S v4 → Wx g (xW D (shM cy) ad S) 86 [(0, .ref (ad 0 0)), (1, .int a1), (2, .int a2), (3, .int a3), (4, .int v4)] [] := by
  induction n with
  | zero => intro S v4 h; exact h.elim
  | succ n ih => intro S v4 h; exact w_X7_joins_86_b V (fun S v4 h => ih S v4 h) S v4 h
set_option maxHeartbeats 2000000 in
set_option maxRecDepth 20000 in
theorem w_X7_joins_9_b {g : xG} {D : va_G} {cy : Nat → ClassId} {ad : Nat → Nat → Nat} {a1 : Int32} {a2 : Int32} {a3 : Int32} {K9 : xS → Int32 → Prop} {Q : xS → Prop} (V : xEnv g D (xTys cy) (shM cy) ad RX7 cX7_joins none 5 132 6 (xQv Q)) (hK9 : ∀ (S : xS) (v4 : Int32), K9 S v4 → Wx g (xW D (shM cy) ad S) 9 [(0, .ref (ad 0 0)), (1, .int a1), (2, .int a2), (3, .int a3), (4, .int v4)] []) (S : xS) (v4 : Int32) (h : wp_X7_joins_9_b a1 a2 a3 K9 Q S v4) : Wx g (xW D (shM cy) ad S) 9 [(0, .ref (ad 0 0)), (1, .int a1), (2, .int a2), (3, .int a3), (4, .int v4)] [] := by
  obtain ⟨X, K, hi, hA, hR, E, hN⟩ := V
  have V := xEnv_mk X K hi hA hR E hN
  unfold wp_X7_joins_9_b at h
  refine x_iload X 4 dX7_joins_9 rfl ?_
  refine x_aload_n X 0 dX7_joins_11 rfl ?_
  refine x_iload_n X 1 dX7_joins_12 rfl ?_
  refine x_iconst X (v := 2) dX7_joins_13 (by decide) ?_
  refine x_calli hA (x_runV (n := 2) (sh := shM cy) X K hR (fun _ q => q) (m_X7_of hi  h) (kM_0 cy (Nat.zero_lt_one)) rfl rfl t4_208 t4_210 tp_31 t1_8 t4_211 ⟨by decide, by decide, by decide +kernel⟩ rfl (by decide) (by decide) rfl (Nat.le_of_ble_eq_true rfl) dX7_joins_14) (fun r2 S1 h => ?_)
  refine x_icmp_gt X 83 dX7_joins_17 (by decide) h (fun h => ?_) (fun h => ?_)
  · refine x_iconst X (v := 0) dX7_joins_83 (by decide) ?_
    refine x_istore X [(4, .int (0 : Int32)), (0, .ref (ad 0 0)), (1, .int a1), (2, .int a2), (3, .int a3)] dX7_joins_84 (by rw [hN]; decide) rfl ?_
    refine x_sub [1, 2, 3, 4, 0] rfl ?_
    obtain ⟨n3, h⟩ := h
    exact w_X7_joins_86 V n3 S1 (0 : Int32) h
  · refine x_aload_n X 0 dX7_joins_20 rfl ?_
    refine x_iload_n X 1 dX7_joins_21 rfl ?_
    refine x_iload X 4 dX7_joins_22 rfl ?_
    refine x_calli hA (x_runV (n := 2) (sh := shM cy) X K hR (fun _ q => q) (m_X7_slotBy hi  h) (kM_0 cy (Nat.zero_lt_one)) rfl rfl t5_172 t5_174 tp_57 t1_8 t5_175 ⟨by decide, by decide, by decide +kernel⟩ rfl (by decide) (by decide) rfl (Nat.le_of_ble_eq_true rfl) dX7_joins_24) (fun r5 S4 h => ?_)
    refine x_istore X [(5, .int r5), (0, .ref (ad 0 0)), (1, .int a1), (2, .int a2), (3, .int a3), (4, .int v4)] dX7_joins_27 (by rw [hN]; decide) rfl ?_
    refine x_aload_n X 1 dX7_joins_29 rfl ?_
    refine xg_X7_81 X K (Nat.zero_lt_one) dX7_joins_30 ?_
    refine x_iload X 0 dX7_joins_33 rfl ?_
    refine x_aload_n X 1 dX7_joins_35 rfl ?_
    refine xg_X7_75 X K (Nat.zero_lt_one) dX7_joins_36 ?_
    refine x_iload X 0 dX7_joins_39 rfl ?_
    obtain ⟨hb6, h⟩ := h
    refine xa_M27 X K (show 0 < 1 by decide) hb6 dX7_joins_41 ?_
    refine x_aload_n X 1 dX7_joins_42 rfl ?_
    refine x_iload_n X 2 dX7_joins_43 rfl ?_
    refine x_iload_n X 3 dX7_joins_44 rfl ?_
    refine x_iload X 0 dX7_joins_45 rfl ?_
    refine x_iconst X (v := 0) dX7_joins_47 (by decide) ?_
    refine x_calli hA (x_runV (n := 4) (sh := shM cy) X K hR (fun _ q => q) (m_X7_deltaOf hi  h) (kM_0 cy (Nat.zero_lt_one)) rfl rfl t5_47 t5_49 tp_41 t1_8 t5_50 ⟨by decide, by decide, by decide +kernel⟩ rfl (by decide) (by decide) rfl (Nat.le_of_ble_eq_true rfl) dX7_joins_48) (fun r8 S7 h => ?_)
    refine x_iadd X dX7_joins_51 ?_
    obtain ⟨hb9, h⟩ := h
    refine xs_M29 X K hi hA (show 0 < 1 by decide) hb9 dX7_joins_52 ?_
    refine x_aload_n X 1 dX7_joins_53 rfl ?_
    refine xg_X7_84 X K (Nat.zero_lt_one) dX7_joins_54 ?_
    refine x_iload X 0 dX7_joins_57 rfl ?_
    refine x_aload_n X 1 dX7_joins_59 rfl ?_
    refine xg_X7_78 X K (Nat.zero_lt_one) dX7_joins_60 ?_
    refine x_iload X 0 dX7_joins_63 rfl ?_
    obtain ⟨hb10, h⟩ := h
    refine xa_M28 X K (show 0 < 1 by decide) hb10 dX7_joins_65 ?_
    refine x_aload_n X 1 dX7_joins_66 rfl ?_
    refine x_iload_n X 2 dX7_joins_67 rfl ?_
    refine x_iload_n X 3 dX7_joins_68 rfl ?_
    refine x_iload X 0 dX7_joins_69 rfl ?_
    refine x_iconst X (v := 1) dX7_joins_71 (by decide) ?_
    refine x_calli hA (x_runV (n := 4) (sh := shM cy) X K hR (fun _ q => q) (m_X7_deltaOf hi  h) (kM_0 cy (Nat.zero_lt_one)) rfl rfl t5_47 t5_49 tp_41 t1_8 t5_50 ⟨by decide, by decide, by decide +kernel⟩ rfl (by decide) (by decide) rfl (Nat.le_of_ble_eq_true rfl) dX7_joins_72) (fun r12 S11 h => ?_)
    refine x_iadd X dX7_joins_75 ?_
    obtain ⟨hb13, h⟩ := h
    refine xs_M30 X K hi hA (show 0 < 1 by decide) hb13 dX7_joins_76 ?_
    refine x_iinc X 5 [(4, .int (v4 + (1 : Int32))), (5, .int r5), (0, .ref (ad 0 0)), (1, .int a1), (2, .int a2), (3, .int a3)] dX7_joins_77 rfl rfl (by rw [hN]; decide) rfl ?_
    refine x_goto X 9 dX7_joins_80 (by decide) ?_
    refine x_sub [2, 3, 4, 5, 0] rfl ?_
    exact hK9 (xI S11 30 0 r5.toNatClampNeg (((xI S7 29 0 r5.toNatClampNeg ((S4.1 27 0 r5.toNatClampNeg) + r8)).1 28 0 r5.toNatClampNeg) + r12)) (v4 + (1 : Int32)) h
set_option maxHeartbeats 2000000 in
set_option maxRecDepth 20000 in
theorem w_X7_joins_9 {g : xG} {D : va_G} {cy : Nat → ClassId} {ad : Nat → Nat → Nat} {a1 : Int32} {a2 : Int32} {a3 : Int32} {Q : xS → Prop} (V : xEnv g D (xTys cy) (shM cy) ad RX7 cX7_joins none 5 132 6 (xQv Q)) (n : Nat) : ∀ (S : xS) (v4 : Int32), wp_X7_joins_9 a1 a2 a3 Q n S v4 → Wx g (xW D (shM cy) ad S) 9 [(0, .ref (ad 0 0)), (1, .int a1), (2, .int a2), (3, .int a3), (4, .int v4)] [] := by
  induction n with
  | zero => intro S v4 h; exact h.elim
  | succ n ih => intro S v4 h; exact w_X7_joins_9_b V (fun S v4 h => ih S v4 h) S v4 h
set_option maxHeartbeats 2000000 in
set_option maxRecDepth 20000 in
theorem w_X7_joins {g : xG} {D : va_G} {cy : Nat → ClassId} {ad : Nat → Nat → Nat} {a1 : Int32} {a2 : Int32} {a3 : Int32} {S : xS} {Q : xS → Prop} (V : xEnv g D (xTys cy) (shM cy) ad RX7 cX7_joins none 5 132 6 (xQv Q)) (h : wp_X7_joins a1 a2 a3 S Q) : Wx g (xW D (shM cy) ad S) 0 [(0, .ref (ad 0 0)), (1, .int a1), (2, .int a2), (3, .int a3)] [] := by
  obtain ⟨X, K, hi, hA, hR, E, hN⟩ := V
  have V := xEnv_mk X K hi hA hR E hN
  unfold wp_X7_joins at h
  refine x_aload_n X 0 dX7_joins_0 rfl ?_
  refine x_iload_n X 1 dX7_joins_1 rfl ?_
  refine x_iload_n X 3 dX7_joins_2 rfl ?_
  refine x_callv hA (x_runV (n := 2) (sh := shM cy) X K hR (fun _ q => q) (m_X7_layDeltas hi  h) (kM_0 cy Nat.zero_lt_one) rfl rfl t5_168 t5_170 tp_56 t1_8 t5_171 ⟨by decide, by decide, by decide +kernel⟩ rfl (by decide) (by decide) rfl (Nat.le_of_ble_eq_true rfl) dX7_joins_3) (fun S1 h => ?_)
  refine x_iconst X (v := 0) dX7_joins_6 (by decide) ?_
  refine x_istore X [(4, .int (0 : Int32)), (0, .ref (ad 0 0)), (1, .int a1), (2, .int a2), (3, .int a3)] dX7_joins_7 (by rw [hN]; decide) rfl ?_
  refine x_sub [1, 2, 3, 4, 0] rfl ?_
  obtain ⟨n3, h⟩ := h
  exact w_X7_joins_9 V n3 S1 (0 : Int32) h
set_option maxHeartbeats 2000000 in
set_option maxRecDepth 20000 in
theorem m_X7_joins {l : Launch} {D : va_G} {cy : Nat → ClassId} {ad : Nat → Nat → Nat} (hi : xInj (shM cy) ad) {a1 : Int32} {a2 : Int32} {a3 : Int32} {S : xS} {Q : xS → Prop} (h : wp_X7_joins a1 a2 a3 S Q) : xMet l D (xTys cy) (shM cy) ad yX7_joins cX7_joins 6 none (xRm 5 132) [.ref (ad 0 0), .int a1, .int a2, .int a3] S (xQv Q) := xMet_env hi (by decide +kernel) rfl (Nat.le_of_ble_eq_true rfl) (fun g hl V => w_X7_joins V h)
set_option maxHeartbeats 2000000 in
set_option maxRecDepth 20000 in
theorem w_X7_merge_79 {g : xG} {D : va_G} {cy : Nat → ClassId} {ad : Nat → Nat → Nat} {a1 : Int32} {K20 : xS → Int32 → Int32 → Prop} {Q : Int32 → xS → Prop} (V : xEnv g D (xTys cy) (shM cy) ad RX7 cX7_merge (some .int) 6 157 5 (xQi Q)) (hK20 : ∀ (S : xS) (v2 : Int32) (v3 : Int32), K20 S v2 v3 → Wx g (xW D (shM cy) ad S) 20 [(0, .ref (ad 0 0)), (1, .int a1), (2, .int v2), (3, .int v3)] []) (S : xS) (v2 : Int32) (v3 : Int32) (h : wp_X7_merge_79 a1 K20 Q S v2 v3) : Wx g (xW D (shM cy) ad S) 79 [(0, .ref (ad 0 0)), (1, .int a1), (2, .int v2), (3, .int v3)] [] := by
  obtain ⟨X, K, hi, hA, hR, E, hN⟩ := V
  have V := xEnv_mk X K hi hA hR E hN
  unfold wp_X7_merge_79 at h
  refine x_goto X 20 dX7_merge_79 (by decide) ?_
  refine x_sub [0, 1, 2, 3] rfl ?_
  exact hK20 S v2 v3 h
set_option maxHeartbeats 2000000 in
set_option maxRecDepth 20000 in
theorem w_X7_merge_56 {g : xG} {D : va_G} {cy : Nat → ClassId} {ad : Nat → Nat → Nat} {a1 : Int32} {K20 : xS → Int32 → Int32 → Prop} {Q : Int32 → xS → Prop} (V : xEnv g D (xTys cy) (shM cy) ad RX7 cX7_merge (some .int) 6 157 5 (xQi Q)) (hK20 : ∀ (S : xS) (v2 : Int32) (v3 : Int32), K20 S v2 v3 → Wx g (xW D (shM cy) ad S) 20 [(0, .ref (ad 0 0)), (1, .int a1), (2, .int v2), (3, .int v3)] []) (S : xS) (v2 : Int32) (v3 : Int32) (v4 : Int32) (h : wp_X7_merge_56 a1 K20 Q S v2 v3 v4) : Wx g (xW D (shM cy) ad S) 56 [(0, .ref (ad 0 0)), (1, .int a1), (2, .int v2), (3, .int v3), (4, .int v4)] [] := by
  obtain ⟨X, K, hi, hA, hR, E, hN⟩ := V
  have V := xEnv_mk X K hi hA hR E hN
  unfold wp_X7_merge_56 at h
  refine x_iload X 4 dX7_merge_56 rfl ?_
  refine x_iload_n X 3 dX7_merge_58 rfl ?_
  refine x_icmp_ge X 76 dX7_merge_59 (by decide) h (fun h => ?_) (fun h => ?_)
  · refine x_iinc X 3 [(3, .int (v3 + (1 : Int32))), (0, .ref (ad 0 0)), (1, .int a1), (2, .int v2), (4, .int v4)] dX7_merge_76 rfl rfl (by rw [hN]; decide) rfl ?_
    refine x_sub [1, 2, 3, 0] rfl ?_
    exact w_X7_merge_79 V hK20 S v2 (v3 + (1 : Int32)) h
  · refine x_aload_n X 0 dX7_merge_62 rfl ?_
    refine x_iload_n X 1 dX7_merge_63 rfl ?_
    refine x_iload X 4 dX7_merge_64 rfl ?_
    refine x_iload_n X 3 dX7_merge_66 rfl ?_
    refine x_callv hA (x_runV (n := 3) (sh := shM cy) X K hR (fun _ q => q) (m_X7_joins hi  h) (kM_0 cy (Nat.zero_lt_one)) rfl rfl t5_164 t5_166 tp_55 t1_8 t5_167 ⟨by decide, by decide, by decide +kernel⟩ rfl (by decide) (by decide) rfl (Nat.le_of_ble_eq_true rfl) dX7_merge_67) (fun S1 h => ?_)
    refine x_iinc X 2 [(2, .int (v2 + (1 : Int32))), (0, .ref (ad 0 0)), (1, .int a1), (3, .int v3), (4, .int v4)] dX7_merge_70 rfl rfl (by rw [hN]; decide) rfl ?_
    refine x_goto X 79 dX7_merge_73 (by decide) ?_
    refine x_sub [1, 2, 0, 3] rfl ?_
    exact w_X7_merge_79 V hK20 S1 (v2 + (1 : Int32)) v3 h
set_option maxHeartbeats 2000000 in
set_option maxRecDepth 20000 in
theorem w_X7_merge_33_b {g : xG} {D : va_G} {cy : Nat → ClassId} {ad : Nat → Nat → Nat} {a1 : Int32} {K20 : xS → Int32 → Int32 → Prop} {K33 : xS → Int32 → Int32 → Int32 → Prop} {Q : Int32 → xS → Prop} (V : xEnv g D (xTys cy) (shM cy) ad RX7 cX7_merge (some .int) 6 157 5 (xQi Q)) (hK20 : ∀ (S : xS) (v2 : Int32) (v3 : Int32), K20 S v2 v3 → Wx g (xW D (shM cy) ad S) 20 [(0, .ref (ad 0 0)), (1, .int a1), (2, .int v2), (3, .int v3)] []) (hK33 : ∀ (S : xS) (v2 : Int32) (v3 : Int32) (v4 : Int32), K33 S v2 v3 v4 → Wx g (xW D (shM cy) ad S) 33 [(0, .ref (ad 0 0)), (1, .int a1), (2, .int v2), (3, .int v3), (4, .int v4)] []) (S : xS) (v2 : Int32) (v3 : Int32) (v4 : Int32) (h : wp_X7_merge_33_b a1 K20 K33 Q S v2 v3 v4) : Wx g (xW D (shM cy) ad S) 33 [(0, .ref (ad 0 0)), (1, .int a1), (2, .int v2), (3, .int v3), (4, .int v4)] [] := by
  obtain ⟨X, K, hi, hA, hR, E, hN⟩ := V
  have V := xEnv_mk X K hi hA hR E hN
  unfold wp_X7_merge_33_b at h
  refine x_iload X 4 dX7_merge_33 rfl ?_
  refine x_iload_n X 3 dX7_merge_35 rfl ?_
  refine x_icmp_ge X 56 dX7_merge_36 (by decide) h (fun h => ?_) (fun h => ?_)
  · refine x_sub [0, 1, 2, 3, 4] rfl ?_
    exact w_X7_merge_56 V hK20 S v2 v3 v4 h
  · refine x_aload_n X 0 dX7_merge_39 rfl ?_
    refine x_iload_n X 1 dX7_merge_40 rfl ?_
    refine x_iload_n X 3 dX7_merge_41 rfl ?_
    refine x_iload X 4 dX7_merge_42 rfl ?_
    refine x_calli hA (x_runV (n := 3) (sh := shM cy) X K hR (fun _ q => q) (m_X7_isSameRegion hi  h) (kM_0 cy (Nat.zero_lt_one)) rfl rfl t5_160 t5_162 tp_54 t1_8 t5_163 ⟨by decide, by decide, by decide +kernel⟩ rfl (by decide) (by decide) rfl (Nat.le_of_ble_eq_true rfl) dX7_merge_44) (fun r2 S1 h => ?_)
    refine x_if_ne X 56 dX7_merge_47 (by decide) h (fun h => ?_) (fun h => ?_)
    · refine x_iinc X 4 [(4, .int (v4 + (1 : Int32))), (0, .ref (ad 0 0)), (1, .int a1), (2, .int v2), (3, .int v3)] dX7_merge_50 rfl rfl (by rw [hN]; decide) rfl ?_
      refine x_goto X 33 dX7_merge_53 (by decide) ?_
      refine x_sub [1, 2, 3, 4, 0] rfl ?_
      exact hK33 S1 v2 v3 (v4 + (1 : Int32)) h
    · refine x_sub [0, 1, 2, 3, 4] rfl ?_
      exact w_X7_merge_56 V hK20 S1 v2 v3 v4 h
set_option maxHeartbeats 2000000 in
set_option maxRecDepth 20000 in
theorem w_X7_merge_33 {g : xG} {D : va_G} {cy : Nat → ClassId} {ad : Nat → Nat → Nat} {a1 : Int32} {K20 : xS → Int32 → Int32 → Prop} {Q : Int32 → xS → Prop} (V : xEnv g D (xTys cy) (shM cy) ad RX7 cX7_merge (some .int) 6 157 5 (xQi Q)) (hK20 : ∀ (S : xS) (v2 : Int32) (v3 : Int32), K20 S v2 v3 → Wx g (xW D (shM cy) ad S) 20 [(0, .ref (ad 0 0)), (1, .int a1), (2, .int v2), (3, .int v3)] []) (n : Nat) : ∀ (S : xS) (v2 : Int32) (v3 : Int32) (v4 : Int32), wp_X7_merge_33 a1 K20 Q n S v2 v3 v4 → Wx g (xW D (shM cy) ad S) 33 [(0, .ref (ad 0 0)), (1, .int a1), (2, .int v2), (3, .int v3), (4, .int v4)] [] := by
  induction n with
  | zero => intro S v2 v3 v4 h; exact h.elim
  | succ n ih => intro S v2 v3 v4 h; exact w_X7_merge_33_b V hK20 (fun S v2 v3 v4 h => ih S v2 v3 v4 h) S v2 v3 v4 h
set_option maxHeartbeats 2000000 in
set_option maxRecDepth 20000 in
theorem w_X7_merge_20_b {g : xG} {D : va_G} {cy : Nat → ClassId} {ad : Nat → Nat → Nat} {a1 : Int32} {K20 : xS → Int32 → Int32 → Prop} {Q : Int32 → xS → Prop} (V : xEnv g D (xTys cy) (shM cy) ad RX7 cX7_merge (some .int) 6 157 5 (xQi Q)) (hK20 : ∀ (S : xS) (v2 : Int32) (v3 : Int32), K20 S v2 v3 → Wx g (xW D (shM cy) ad S) 20 [(0, .ref (ad 0 0)), (1, .int a1), (2, .int v2), (3, .int v3)] []) (S : xS) (v2 : Int32) (v3 : Int32) (h : wp_X7_merge_20_b a1 K20 Q S v2 v3) : Wx g (xW D (shM cy) ad S) 20 [(0, .ref (ad 0 0)), (1, .int a1), (2, .int v2), (3, .int v3)] [] := by
  obtain ⟨X, K, hi, hA, hR, E, hN⟩ := V
  have V := xEnv_mk X K hi hA hR E hN
  unfold wp_X7_merge_20_b at h
  refine x_iload_n X 3 dX7_merge_20 rfl ?_
  refine x_aload_n X 0 dX7_merge_21 rfl ?_
  refine x_iload_n X 1 dX7_merge_22 rfl ?_
  refine x_iconst X (v := 3) dX7_merge_23 (by decide) ?_
  refine x_calli hA (x_runV (n := 2) (sh := shM cy) X K hR (fun _ q => q) (m_X7_of hi  h) (kM_0 cy (Nat.zero_lt_one)) rfl rfl t4_208 t4_210 tp_31 t1_8 t4_211 ⟨by decide, by decide, by decide +kernel⟩ rfl (by decide) (by decide) rfl (Nat.le_of_ble_eq_true rfl) dX7_merge_24) (fun r2 S1 h => ?_)
  refine x_icmp_ge X 82 dX7_merge_27 (by decide) h (fun h => ?_) (fun h => ?_)
  · refine x_iload_n X 2 dX7_merge_82 rfl ?_
    exact x_iret X E dX7_merge_83 ⟨_, rfl, h⟩
  · refine x_iconst X (v := 0) dX7_merge_30 (by decide) ?_
    refine x_istore X [(4, .int (0 : Int32)), (0, .ref (ad 0 0)), (1, .int a1), (2, .int v2), (3, .int v3)] dX7_merge_31 (by rw [hN]; decide) rfl ?_
    refine x_sub [1, 2, 3, 4, 0] rfl ?_
    obtain ⟨n3, h⟩ := h
    exact w_X7_merge_33 V hK20 n3 S1 v2 v3 (0 : Int32) h
set_option maxHeartbeats 2000000 in
set_option maxRecDepth 20000 in
theorem w_X7_merge_20 {g : xG} {D : va_G} {cy : Nat → ClassId} {ad : Nat → Nat → Nat} {a1 : Int32} {Q : Int32 → xS → Prop} (V : xEnv g D (xTys cy) (shM cy) ad RX7 cX7_merge (some .int) 6 157 5 (xQi Q)) (n : Nat) : ∀ (S : xS) (v2 : Int32) (v3 : Int32), wp_X7_merge_20 a1 Q n S v2 v3 → Wx g (xW D (shM cy) ad S) 20 [(0, .ref (ad 0 0)), (1, .int a1), (2, .int v2), (3, .int v3)] [] := by
  induction n with
  | zero => intro S v2 v3 h; exact h.elim
  | succ n ih => intro S v2 v3 h; exact w_X7_merge_20_b V (fun S v2 v3 h => ih S v2 v3 h) S v2 v3 h
set_option maxHeartbeats 2000000 in
set_option maxRecDepth 20000 in
theorem w_X7_merge {g : xG} {D : va_G} {cy : Nat → ClassId} {ad : Nat → Nat → Nat} {a1 : Int32} {S : xS} {Q : Int32 → xS → Prop} (V : xEnv g D (xTys cy) (shM cy) ad RX7 cX7_merge (some .int) 6 157 5 (xQi Q)) (h : wp_X7_merge a1 S Q) : Wx g (xW D (shM cy) ad S) 0 [(0, .ref (ad 0 0)), (1, .int a1)] [] := by
  obtain ⟨X, K, hi, hA, hR, E, hN⟩ := V
  have V := xEnv_mk X K hi hA hR E hN
  unfold wp_X7_merge at h
  refine x_aload_n X 0 dX7_merge_0 rfl ?_
  refine x_iload_n X 1 dX7_merge_1 rfl ?_
  refine x_calli hA (x_runV (n := 1) (sh := shM cy) X K hR (fun _ q => q) (m_X7_noGlyph hi  h) (kM_0 cy Nat.zero_lt_one) rfl rfl t4_199 t4_201 tp_30 t1_8 t4_202 ⟨by decide, by decide, by decide +kernel⟩ rfl (by decide) (by decide) rfl (Nat.le_of_ble_eq_true rfl) dX7_merge_2) (fun r2 S1 h => ?_)
  refine x_if_eq X 11 dX7_merge_5 (by decide) h (fun h => ?_) (fun h => ?_)
  · refine x_aload_n X 0 dX7_merge_11 rfl ?_
    refine x_iload_n X 1 dX7_merge_12 rfl ?_
    refine x_callv hA (x_runV (n := 1) (sh := shM cy) X K hR (fun _ q => q) (m_X7_keeps hi  h) (kM_0 cy Nat.zero_lt_one) rfl rfl t5_156 t5_158 tp_53 t1_8 t5_159 ⟨by decide, by decide, by decide +kernel⟩ rfl (by decide) (by decide) rfl (Nat.le_of_ble_eq_true rfl) dX7_merge_13) (fun S3 h => ?_)
    refine x_iconst X (v := 0) dX7_merge_16 (by decide) ?_
    refine x_istore_n X [(2, .int (0 : Int32)), (0, .ref (ad 0 0)), (1, .int a1)] dX7_merge_17 (by rw [hN]; decide) rfl ?_
    refine x_iconst X (v := 1) dX7_merge_18 (by decide) ?_
    refine x_istore_n X [(3, .int (1 : Int32)), (2, .int (0 : Int32)), (0, .ref (ad 0 0)), (1, .int a1)] dX7_merge_19 (by rw [hN]; decide) rfl ?_
    refine x_sub [2, 3, 1, 0] rfl ?_
    obtain ⟨n5, h⟩ := h
    exact w_X7_merge_20 V n5 S3 (0 : Int32) (1 : Int32) h
  · refine x_ldc X (v := -1000002) t4_203 dX7_merge_8 ?_
    exact x_iret X E dX7_merge_10 ⟨_, rfl, h⟩
set_option maxHeartbeats 2000000 in
set_option maxRecDepth 20000 in
theorem m_X7_merge {l : Launch} {D : va_G} {cy : Nat → ClassId} {ad : Nat → Nat → Nat} (hi : xInj (shM cy) ad) {a1 : Int32} {S : xS} {Q : Int32 → xS → Prop} (h : wp_X7_merge a1 S Q) : xMet l D (xTys cy) (shM cy) ad yX7_merge cX7_merge 5 (some .int) (xRm 6 157) [.ref (ad 0 0), .int a1] S (xQi Q) := xMet_env hi (by decide +kernel) rfl (Nat.le_of_ble_eq_true rfl) (fun g hl V => w_X7_merge V h)
set_option maxHeartbeats 2000000 in
set_option maxRecDepth 20000 in
theorem w_X7_isAsLaid_58 {g : xG} {D : va_G} {cy : Nat → ClassId} {ad : Nat → Nat → Nat} {Q : Int32 → xS → Prop} (V : xEnv g D (xTys cy) (shM cy) ad RX7 cX7_isAsLaid (some .boolean) 4 108 5 (xQi Q)) (S : xS) (h : wp_X7_isAsLaid_58 Q S) : Wx g (xW D (shM cy) ad S) 58 [] [] := by
  obtain ⟨X, K, hi, hA, hR, E, hN⟩ := V
  have V := xEnv_mk X K hi hA hR E hN
  unfold wp_X7_isAsLaid_58 at h
  refine x_iconst X (v := 0) dX7_isAsLaid_58 (by decide) ?_
  exact x_zret X E dX7_isAsLaid_59 h.1 ⟨_, rfl, h.2⟩
set_option maxHeartbeats 2000000 in
set_option maxRecDepth 20000 in
theorem w_X7_isAsLaid_2_b {g : xG} {D : va_G} {cy : Nat → ClassId} {ad : Nat → Nat → Nat} {a1 : Int32} {a2 : Int32} {K2 : xS → Int32 → Prop} {Q : Int32 → xS → Prop} (V : xEnv g D (xTys cy) (shM cy) ad RX7 cX7_isAsLaid (some .boolean) 4 108 5 (xQi Q)) (hK2 : ∀ (S : xS) (v3 : Int32), K2 S v3 → Wx g (xW D (shM cy) ad S) 2 [(0, .ref (ad 0 0)), (1, .int a1), (2, .int a2), (3, .int v3)] []) (S : xS) (v3 : Int32) (h : wp_X7_isAsLaid_2_b a1 a2 K2 Q S v3) : Wx g (xW D (shM cy) ad S) 2 [(0, .ref (ad 0 0)), (1, .int a1), (2, .int a2), (3, .int v3)] [] := by
  obtain ⟨X, K, hi, hA, hR, E, hN⟩ := V
  have V := xEnv_mk X K hi hA hR E hN
  unfold wp_X7_isAsLaid_2_b at h
  refine x_iload_n X 3 dX7_isAsLaid_2 rfl ?_
  refine x_aload_n X 0 dX7_isAsLaid_3 rfl ?_
  refine x_iload_n X 1 dX7_isAsLaid_4 rfl ?_
  refine x_iconst X (v := 2) dX7_isAsLaid_5 (by decide) ?_
  refine x_calli hA (x_runV (n := 2) (sh := shM cy) X K hR (fun _ q => q) (m_X7_of hi  h) (kM_0 cy (Nat.zero_lt_one)) rfl rfl t4_208 t4_210 tp_31 t1_8 t4_211 ⟨by decide, by decide, by decide +kernel⟩ rfl (by decide) (by decide) rfl (Nat.le_of_ble_eq_true rfl) dX7_isAsLaid_6) (fun r2 S1 h => ?_)
  refine x_icmp_gt X 66 dX7_isAsLaid_9 (by decide) h (fun h => ?_) (fun h => ?_)
  · refine x_iconst X (v := 1) dX7_isAsLaid_66 (by decide) ?_
    exact x_zret X E dX7_isAsLaid_67 h.1 ⟨_, rfl, h.2⟩
  · refine x_aload_n X 0 dX7_isAsLaid_12 rfl ?_
    refine x_iload_n X 1 dX7_isAsLaid_13 rfl ?_
    refine x_iload_n X 3 dX7_isAsLaid_14 rfl ?_
    refine x_calli hA (x_runV (n := 2) (sh := shM cy) X K hR (fun _ q => q) (m_X7_slotBy hi  h) (kM_0 cy (Nat.zero_lt_one)) rfl rfl t5_172 t5_174 tp_57 t1_8 t5_175 ⟨by decide, by decide, by decide +kernel⟩ rfl (by decide) (by decide) rfl (Nat.le_of_ble_eq_true rfl) dX7_isAsLaid_15) (fun r4 S3 h => ?_)
    refine x_istore X [(4, .int r4), (0, .ref (ad 0 0)), (1, .int a1), (2, .int a2), (3, .int v3)] dX7_isAsLaid_18 (by rw [hN]; decide) rfl ?_
    refine x_aload_n X 1 dX7_isAsLaid_20 rfl ?_
    refine xg_X7_75 X K (Nat.zero_lt_one) dX7_isAsLaid_21 ?_
    refine x_iload X 0 dX7_isAsLaid_24 rfl ?_
    obtain ⟨hb5, h⟩ := h
    refine xa_M27 X K (show 0 < 1 by decide) hb5 dX7_isAsLaid_26 ?_
    refine x_aload_n X 1 dX7_isAsLaid_27 rfl ?_
    refine x_iload_n X 2 dX7_isAsLaid_28 rfl ?_
    refine x_iload_n X 3 dX7_isAsLaid_29 rfl ?_
    refine x_iload X 0 dX7_isAsLaid_30 rfl ?_
    refine x_iconst X (v := 0) dX7_isAsLaid_32 (by decide) ?_
    refine x_calli hA (x_runV (n := 4) (sh := shM cy) X K hR (fun _ q => q) (m_X7_deltaOf hi  h) (kM_0 cy (Nat.zero_lt_one)) rfl rfl t5_47 t5_49 tp_41 t1_8 t5_50 ⟨by decide, by decide, by decide +kernel⟩ rfl (by decide) (by decide) rfl (Nat.le_of_ble_eq_true rfl) dX7_isAsLaid_33) (fun r7 S6 h => ?_)
    refine x_icmp_ne X 58 dX7_isAsLaid_36 (by decide) h (fun h => ?_) (fun h => ?_)
    · refine x_aload_n X 1 dX7_isAsLaid_39 rfl ?_
      refine xg_X7_78 X K (Nat.zero_lt_one) dX7_isAsLaid_40 ?_
      refine x_iload X 0 dX7_isAsLaid_43 rfl ?_
      obtain ⟨hb8, h⟩ := h
      refine xa_M28 X K (show 0 < 1 by decide) hb8 dX7_isAsLaid_45 ?_
      refine x_aload_n X 1 dX7_isAsLaid_46 rfl ?_
      refine x_iload_n X 2 dX7_isAsLaid_47 rfl ?_
      refine x_iload_n X 3 dX7_isAsLaid_48 rfl ?_
      refine x_iload X 0 dX7_isAsLaid_49 rfl ?_
      refine x_iconst X (v := 1) dX7_isAsLaid_51 (by decide) ?_
      refine x_calli hA (x_runV (n := 4) (sh := shM cy) X K hR (fun _ q => q) (m_X7_deltaOf hi  h) (kM_0 cy (Nat.zero_lt_one)) rfl rfl t5_47 t5_49 tp_41 t1_8 t5_50 ⟨by decide, by decide, by decide +kernel⟩ rfl (by decide) (by decide) rfl (Nat.le_of_ble_eq_true rfl) dX7_isAsLaid_52) (fun r10 S9 h => ?_)
      refine x_icmp_eq X 60 dX7_isAsLaid_55 (by decide) h (fun h => ?_) (fun h => ?_)
      · refine x_iinc X 4 [(3, .int (v3 + (1 : Int32))), (4, .int r4), (0, .ref (ad 0 0)), (1, .int a1), (2, .int a2)] dX7_isAsLaid_60 rfl rfl (by rw [hN]; decide) rfl ?_
        refine x_goto X 2 dX7_isAsLaid_63 (by decide) ?_
        refine x_sub [2, 3, 4, 0] rfl ?_
        exact hK2 S9 (v3 + (1 : Int32)) h
      · refine x_sub [] rfl ?_
        exact w_X7_isAsLaid_58 V S9 h
    · refine x_sub [] rfl ?_
      exact w_X7_isAsLaid_58 V S6 h
set_option maxHeartbeats 2000000 in
set_option maxRecDepth 20000 in
theorem w_X7_isAsLaid_2 {g : xG} {D : va_G} {cy : Nat → ClassId} {ad : Nat → Nat → Nat} {a1 : Int32} {a2 : Int32} {Q : Int32 → xS → Prop} (V : xEnv g D (xTys cy) (shM cy) ad RX7 cX7_isAsLaid (some .boolean) 4 108 5 (xQi Q)) (n : Nat) : ∀ (S : xS) (v3 : Int32), wp_X7_isAsLaid_2 a1 a2 Q n S v3 → Wx g (xW D (shM cy) ad S) 2 [(0, .ref (ad 0 0)), (1, .int a1), (2, .int a2), (3, .int v3)] [] := by
  induction n with
  | zero => intro S v3 h; exact h.elim
  | succ n ih => intro S v3 h; exact w_X7_isAsLaid_2_b V (fun S v3 h => ih S v3 h) S v3 h
set_option maxHeartbeats 2000000 in
set_option maxRecDepth 20000 in
theorem w_X7_isAsLaid {g : xG} {D : va_G} {cy : Nat → ClassId} {ad : Nat → Nat → Nat} {a1 : Int32} {a2 : Int32} {S : xS} {Q : Int32 → xS → Prop} (V : xEnv g D (xTys cy) (shM cy) ad RX7 cX7_isAsLaid (some .boolean) 4 108 5 (xQi Q)) (h : wp_X7_isAsLaid a1 a2 S Q) : Wx g (xW D (shM cy) ad S) 0 [(0, .ref (ad 0 0)), (1, .int a1), (2, .int a2)] [] := by
  obtain ⟨X, K, hi, hA, hR, E, hN⟩ := V
  have V := xEnv_mk X K hi hA hR E hN
  unfold wp_X7_isAsLaid at h
  refine x_iconst X (v := 0) dX7_isAsLaid_0 (by decide) ?_
  refine x_istore_n X [(3, .int (0 : Int32)), (0, .ref (ad 0 0)), (1, .int a1), (2, .int a2)] dX7_isAsLaid_1 (by rw [hN]; decide) rfl ?_
  refine x_sub [1, 2, 3, 0] rfl ?_
  obtain ⟨n1, h⟩ := h
  exact w_X7_isAsLaid_2 V n1 S (0 : Int32) h
set_option maxHeartbeats 2000000 in
set_option maxRecDepth 20000 in
theorem m_X7_isAsLaid {l : Launch} {D : va_G} {cy : Nat → ClassId} {ad : Nat → Nat → Nat} (hi : xInj (shM cy) ad) {a1 : Int32} {a2 : Int32} {S : xS} {Q : Int32 → xS → Prop} (h : wp_X7_isAsLaid a1 a2 S Q) : xMet l D (xTys cy) (shM cy) ad yX7_isAsLaid cX7_isAsLaid 5 (some .boolean) (xRm 4 108) [.ref (ad 0 0), .int a1, .int a2] S (xQi Q) := xMet_env hi (by decide +kernel) rfl (Nat.le_of_ble_eq_true rfl) (fun g hl V => w_X7_isAsLaid V h)
set_option maxHeartbeats 2000000 in
set_option maxRecDepth 20000 in
theorem w_X7_compact_117 {g : xG} {D : va_G} {cy : Nat → ClassId} {ad : Nat → Nat → Nat} {a1 : Int32} {a2 : Int32} {K30 : xS → Int32 → Int32 → Prop} {Q : Int32 → xS → Prop} (V : xEnv g D (xTys cy) (shM cy) ad RX7 cX7_compact (some .int) 5 132 8 (xQi Q)) (hK30 : ∀ (S : xS) (v4 : Int32) (v5 : Int32), K30 S v4 v5 → Wx g (xW D (shM cy) ad S) 30 [(0, .ref (ad 0 0)), (1, .int a1), (2, .int a2), (4, .int v4), (5, .int v5)] []) (S : xS) (v4 : Int32) (v5 : Int32) (h : wp_X7_compact_117 a1 a2 K30 Q S v4 v5) : Wx g (xW D (shM cy) ad S) 117 [(0, .ref (ad 0 0)), (1, .int a1), (2, .int a2), (4, .int v4), (5, .int v5)] [] := by
  obtain ⟨X, K, hi, hA, hR, E, hN⟩ := V
  have V := xEnv_mk X K hi hA hR E hN
  unfold wp_X7_compact_117 at h
  refine x_iinc X 4 [(5, .int (v5 + (1 : Int32))), (0, .ref (ad 0 0)), (1, .int a1), (2, .int a2), (4, .int v4)] dX7_compact_117 rfl rfl (by rw [hN]; decide) rfl ?_
  refine x_goto X 30 dX7_compact_120 (by decide) ?_
  refine x_sub [1, 2, 3, 4, 0] rfl ?_
  exact hK30 S v4 (v5 + (1 : Int32)) h
set_option maxHeartbeats 2000000 in
set_option maxRecDepth 20000 in
theorem w_X7_compact_114 {g : xG} {D : va_G} {cy : Nat → ClassId} {ad : Nat → Nat → Nat} {a1 : Int32} {a2 : Int32} {K30 : xS → Int32 → Int32 → Prop} {Q : Int32 → xS → Prop} (V : xEnv g D (xTys cy) (shM cy) ad RX7 cX7_compact (some .int) 5 132 8 (xQi Q)) (hK30 : ∀ (S : xS) (v4 : Int32) (v5 : Int32), K30 S v4 v5 → Wx g (xW D (shM cy) ad S) 30 [(0, .ref (ad 0 0)), (1, .int a1), (2, .int a2), (4, .int v4), (5, .int v5)] []) (S : xS) (v5 : Int32) (s0 : Int32) (s1 : Int32) (h : wp_X7_compact_114 a1 a2 K30 Q S v5 s0 s1) : Wx g (xW D (shM cy) ad S) 114 [(0, .ref (ad 0 0)), (1, .int a1), (2, .int a2), (5, .int v5)] [.int s1, .int s0] := by
  obtain ⟨X, K, hi, hA, hR, E, hN⟩ := V
  have V := xEnv_mk X K hi hA hR E hN
  unfold wp_X7_compact_114 at h
  refine x_iadd X dX7_compact_114 ?_
  refine x_istore X [(4, .int (s0 + s1)), (0, .ref (ad 0 0)), (1, .int a1), (2, .int a2), (5, .int v5)] dX7_compact_115 (by rw [hN]; decide) rfl ?_
  refine x_sub [1, 2, 3, 0, 4] rfl ?_
  exact w_X7_compact_117 V hK30 S (s0 + s1) v5 h
set_option maxHeartbeats 2000000 in
set_option maxRecDepth 20000 in
theorem w_X7_compact_99 {g : xG} {D : va_G} {cy : Nat → ClassId} {ad : Nat → Nat → Nat} {a1 : Int32} {a2 : Int32} {K30 : xS → Int32 → Int32 → Prop} {Q : Int32 → xS → Prop} (V : xEnv g D (xTys cy) (shM cy) ad RX7 cX7_compact (some .int) 5 132 8 (xQi Q)) (hK30 : ∀ (S : xS) (v4 : Int32) (v5 : Int32), K30 S v4 v5 → Wx g (xW D (shM cy) ad S) 30 [(0, .ref (ad 0 0)), (1, .int a1), (2, .int a2), (4, .int v4), (5, .int v5)] []) (S : xS) (v4 : Int32) (v5 : Int32) (v7 : Int32) (s1 : Int32) (s2 : Int32) (s3 : Int32) (h : wp_X7_compact_99 a1 a2 K30 Q S v4 v5 v7 s1 s2 s3) : Wx g (xW D (shM cy) ad S) 99 [(0, .ref (ad 0 0)), (1, .int a1), (2, .int a2), (4, .int v4), (5, .int v5), (7, .int v7)] [.int s3, .int s2, .int s1, .ref (ad 0 0)] := by
  obtain ⟨X, K, hi, hA, hR, E, hN⟩ := V
  have V := xEnv_mk X K hi hA hR E hN
  unfold wp_X7_compact_99 at h
  refine x_callv hA (x_runV (n := 3) (sh := shM cy) X K hR (fun _ q => q) (m_X7_put hi  h) (kM_0 cy (Nat.zero_lt_one)) rfl rfl t4_191 t4_193 tp_29 t1_8 t4_194 ⟨by decide, by decide, by decide +kernel⟩ rfl (by decide) (by decide) rfl (Nat.le_of_ble_eq_true rfl) dX7_compact_99) (fun S1 h => ?_)
  refine x_iload X 3 dX7_compact_102 rfl ?_
  refine x_iload X 5 dX7_compact_104 rfl ?_
  refine x_if_eq X 113 dX7_compact_106 (by decide) h (fun h => ?_) (fun h => ?_)
  · refine x_iconst X (v := 0) dX7_compact_113 (by decide) ?_
    refine x_sub [0, 1, 2, 4] rfl ?_
    exact w_X7_compact_114 V hK30 S1 v5 v4 (0 : Int32) h
  · refine x_iconst X (v := 1) dX7_compact_109 (by decide) ?_
    refine x_goto X 114 dX7_compact_110 (by decide) ?_
    refine x_sub [0, 1, 2, 4] rfl ?_
    exact w_X7_compact_114 V hK30 S1 v5 v4 (1 : Int32) h
set_option maxHeartbeats 2000000 in
set_option maxRecDepth 20000 in
theorem w_X7_compact_30_b {g : xG} {D : va_G} {cy : Nat → ClassId} {ad : Nat → Nat → Nat} {a1 : Int32} {a2 : Int32} {K30 : xS → Int32 → Int32 → Prop} {Q : Int32 → xS → Prop} (V : xEnv g D (xTys cy) (shM cy) ad RX7 cX7_compact (some .int) 5 132 8 (xQi Q)) (hK30 : ∀ (S : xS) (v4 : Int32) (v5 : Int32), K30 S v4 v5 → Wx g (xW D (shM cy) ad S) 30 [(0, .ref (ad 0 0)), (1, .int a1), (2, .int a2), (4, .int v4), (5, .int v5)] []) (S : xS) (v4 : Int32) (v5 : Int32) (h : wp_X7_compact_30_b a1 a2 K30 Q S v4 v5) : Wx g (xW D (shM cy) ad S) 30 [(0, .ref (ad 0 0)), (1, .int a1), (2, .int a2), (4, .int v4), (5, .int v5)] [] := by
  obtain ⟨X, K, hi, hA, hR, E, hN⟩ := V
  have V := xEnv_mk X K hi hA hR E hN
  unfold wp_X7_compact_30_b at h
  refine x_iload X 4 dX7_compact_30 rfl ?_
  refine x_aload_n X 0 dX7_compact_32 rfl ?_
  refine x_iload_n X 1 dX7_compact_33 rfl ?_
  refine x_iconst X (v := 2) dX7_compact_34 (by decide) ?_
  refine x_calli hA (x_runV (n := 2) (sh := shM cy) X K hR (fun _ q => q) (m_X7_of hi  h) (kM_0 cy (Nat.zero_lt_one)) rfl rfl t4_208 t4_210 tp_31 t1_8 t4_211 ⟨by decide, by decide, by decide +kernel⟩ rfl (by decide) (by decide) rfl (Nat.le_of_ble_eq_true rfl) dX7_compact_35) (fun r2 S1 h => ?_)
  refine x_icmp_gt X 123 dX7_compact_38 (by decide) h (fun h => ?_) (fun h => ?_)
  · refine x_iload X 3 dX7_compact_123 rfl ?_
    exact x_iret X E dX7_compact_125 ⟨_, rfl, h⟩
  · refine x_iload_n X 2 dX7_compact_41 rfl ?_
    refine x_calli hA (x_runS (n := 1) X K hR (fun _ q => q) (m_X7_tupleAt hi  h) t4_236 t4_237 t1_8 t4_238 ⟨by decide, by decide, by decide +kernel⟩ rfl (by decide) (by decide) rfl (Nat.le_of_ble_eq_true rfl) dX7_compact_42) (fun r4 S3 h => ?_)
    refine x_bipush X (v := 12) dX7_compact_45 (by decide) ?_
    refine x_iadd X dX7_compact_47 ?_
    refine x_aload_n X 0 dX7_compact_48 rfl ?_
    refine x_iload_n X 1 dX7_compact_49 rfl ?_
    refine x_iload X 4 dX7_compact_50 rfl ?_
    refine x_calli hA (x_runV (n := 2) (sh := shM cy) X K hR (fun _ q => q) (m_X7_slotBy hi  h) (kM_0 cy (Nat.zero_lt_one)) rfl rfl t5_172 t5_174 tp_57 t1_8 t5_175 ⟨by decide, by decide, by decide +kernel⟩ rfl (by decide) (by decide) rfl (Nat.le_of_ble_eq_true rfl) dX7_compact_52) (fun r6 S5 h => ?_)
    refine x_iadd X dX7_compact_55 ?_
    refine x_istore X [(6, .int ((r4 + (12 : Int32)) + r6)), (0, .ref (ad 0 0)), (1, .int a1), (2, .int a2), (4, .int v4), (5, .int v5)] dX7_compact_56 (by rw [hN]; decide) rfl ?_
    refine x_aload_n X 1 dX7_compact_58 rfl ?_
    refine x_iload_n X 2 dX7_compact_59 rfl ?_
    refine x_iload X 0 dX7_compact_60 rfl ?_
    refine x_calli hA (x_runV (n := 2) (sh := shM cy) X K hR (fun _ q => q) (m_X7_of hi  h) (kM_0 cy (Nat.zero_lt_one)) rfl rfl t4_208 t4_210 tp_31 t1_8 t4_211 ⟨by decide, by decide, by decide +kernel⟩ rfl (by decide) (by decide) rfl (Nat.le_of_ble_eq_true rfl) dX7_compact_62) (fun r8 S7 h => ?_)
    refine x_iconst X (v := 1) dX7_compact_65 (by decide) ?_
    refine x_icmp_ne X 117 dX7_compact_66 (by decide) h (fun h => ?_) (fun h => ?_)
    · refine x_aload_n X 1 dX7_compact_69 rfl ?_
      refine x_iload_n X 2 dX7_compact_70 rfl ?_
      refine x_iload X 0 dX7_compact_71 rfl ?_
      refine x_iconst X (v := 0) dX7_compact_73 (by decide) ?_
      refine x_callv hA (x_runV (n := 3) (sh := shM cy) X K hR (fun _ q => q) (m_X7_put hi  h) (kM_0 cy (Nat.zero_lt_one)) rfl rfl t4_191 t4_193 tp_29 t1_8 t4_194 ⟨by decide, by decide, by decide +kernel⟩ rfl (by decide) (by decide) rfl (Nat.le_of_ble_eq_true rfl) dX7_compact_74) (fun S9 h => ?_)
      refine x_aload_n X 1 dX7_compact_77 rfl ?_
      refine x_iload_n X 2 dX7_compact_78 rfl ?_
      refine x_iload_n X 3 dX7_compact_79 rfl ?_
      refine x_calli hA (x_runV (n := 2) (sh := shM cy) X K hR (fun _ q => q) (m_X7_isAsLaid hi  h) (kM_0 cy (Nat.zero_lt_one)) rfl rfl t5_188 t5_190 tp_60 t1_8 t5_191 ⟨by decide, by decide, by decide +kernel⟩ rfl (by decide) (by decide) rfl (Nat.le_of_ble_eq_true rfl) dX7_compact_80) (fun r12 S11 h => ?_)
      refine x_istore X [(7, .int r12), (6, .int ((r4 + (12 : Int32)) + r6)), (0, .ref (ad 0 0)), (1, .int a1), (2, .int a2), (4, .int v4), (5, .int v5)] dX7_compact_83 (by rw [hN]; decide) rfl ?_
      refine x_aload_n X 2 dX7_compact_85 rfl ?_
      refine x_iload_n X 3 dX7_compact_86 rfl ?_
      refine x_iload X 1 dX7_compact_87 rfl ?_
      refine x_iload X 0 dX7_compact_89 rfl ?_
      refine x_if_eq X 98 dX7_compact_91 (by decide) h (fun h => ?_) (fun h => ?_)
      · refine x_iconst X (v := 1) dX7_compact_98 (by decide) ?_
        refine x_sub [2, 3, 4, 5, 6, 0] rfl ?_
        exact w_X7_compact_99 V hK30 S11 v4 v5 r12 a1 ((r4 + (12 : Int32)) + r6) (1 : Int32) h
      · refine x_iconst X (v := 0) dX7_compact_94 (by decide) ?_
        refine x_goto X 99 dX7_compact_95 (by decide) ?_
        refine x_sub [2, 3, 4, 5, 6, 0] rfl ?_
        exact w_X7_compact_99 V hK30 S11 v4 v5 r12 a1 ((r4 + (12 : Int32)) + r6) (0 : Int32) h
    · refine x_sub [1, 2, 3, 4, 5] rfl ?_
      exact w_X7_compact_117 V hK30 S7 v4 v5 h
set_option maxHeartbeats 2000000 in
set_option maxRecDepth 20000 in
theorem w_X7_compact_30 {g : xG} {D : va_G} {cy : Nat → ClassId} {ad : Nat → Nat → Nat} {a1 : Int32} {a2 : Int32} {Q : Int32 → xS → Prop} (V : xEnv g D (xTys cy) (shM cy) ad RX7 cX7_compact (some .int) 5 132 8 (xQi Q)) (n : Nat) : ∀ (S : xS) (v4 : Int32) (v5 : Int32), wp_X7_compact_30 a1 a2 Q n S v4 v5 → Wx g (xW D (shM cy) ad S) 30 [(0, .ref (ad 0 0)), (1, .int a1), (2, .int a2), (4, .int v4), (5, .int v5)] [] := by
  induction n with
  | zero => intro S v4 v5 h; exact h.elim
  | succ n ih => intro S v4 v5 h; exact w_X7_compact_30_b V (fun S v4 v5 h => ih S v4 v5 h) S v4 v5 h
set_option maxHeartbeats 2000000 in
set_option maxRecDepth 20000 in
theorem w_X7_compact {g : xG} {D : va_G} {cy : Nat → ClassId} {ad : Nat → Nat → Nat} {a1 : Int32} {a2 : Int32} {S : xS} {Q : Int32 → xS → Prop} (V : xEnv g D (xTys cy) (shM cy) ad RX7 cX7_compact (some .int) 5 132 8 (xQi Q)) (h : wp_X7_compact a1 a2 S Q) : Wx g (xW D (shM cy) ad S) 0 [(0, .ref (ad 0 0)), (1, .int a1), (2, .int a2)] [] := by
  obtain ⟨X, K, hi, hA, hR, E, hN⟩ := V
  have V := xEnv_mk X K hi hA hR E hN
  unfold wp_X7_compact at h
  refine x_aload_n X 0 dX7_compact_0 rfl ?_
  refine x_iload_n X 1 dX7_compact_1 rfl ?_
  refine x_iload_n X 2 dX7_compact_2 rfl ?_
  refine x_calli hA (x_runV (n := 2) (sh := shM cy) X K hR (fun _ q => q) (m_X7_tupleBarred hi  h) (kM_0 cy Nat.zero_lt_one) rfl rfl t5_3 t5_5 tp_35 t1_8 t5_6 ⟨by decide, by decide, by decide +kernel⟩ rfl (by decide) (by decide) rfl (Nat.le_of_ble_eq_true rfl) dX7_compact_3) (fun r2 S1 h => ?_)
  refine x_istore_n X [(3, .int r2), (0, .ref (ad 0 0)), (1, .int a1), (2, .int a2)] dX7_compact_6 (by rw [hN]; decide) rfl ?_
  refine x_iload_n X 0 dX7_compact_7 rfl ?_
  refine x_if_ge X 13 dX7_compact_8 (by decide) h (fun h => ?_) (fun h => ?_)
  · refine x_aload_n X 1 dX7_compact_13 rfl ?_
    refine x_iload_n X 2 dX7_compact_14 rfl ?_
    refine x_callv hA (x_runV (n := 1) (sh := shM cy) X K hR (fun _ q => q) (m_X7_keeps hi  h) (kM_0 cy Nat.zero_lt_one) rfl rfl t5_156 t5_158 tp_53 t1_8 t5_159 ⟨by decide, by decide, by decide +kernel⟩ rfl (by decide) (by decide) rfl (Nat.le_of_ble_eq_true rfl) dX7_compact_15) (fun S3 h => ?_)
    refine x_aload_n X 1 dX7_compact_18 rfl ?_
    refine x_iload_n X 2 dX7_compact_19 rfl ?_
    refine x_iload_n X 3 dX7_compact_20 rfl ?_
    refine x_callv hA (x_runV (n := 2) (sh := shM cy) X K hR (fun _ q => q) (m_X7_layDeltas hi  h) (kM_0 cy Nat.zero_lt_one) rfl rfl t5_168 t5_170 tp_56 t1_8 t5_171 ⟨by decide, by decide, by decide +kernel⟩ rfl (by decide) (by decide) rfl (Nat.le_of_ble_eq_true rfl) dX7_compact_21) (fun S5 h => ?_)
    refine x_iconst X (v := 0) dX7_compact_24 (by decide) ?_
    refine x_istore X [(4, .int (0 : Int32)), (3, .int r2), (0, .ref (ad 0 0)), (1, .int a1), (2, .int a2)] dX7_compact_25 (by rw [hN]; decide) rfl ?_
    refine x_iconst X (v := 0) dX7_compact_27 (by decide) ?_
    refine x_istore X [(5, .int (0 : Int32)), (4, .int (0 : Int32)), (3, .int r2), (0, .ref (ad 0 0)), (1, .int a1), (2, .int a2)] dX7_compact_28 (by rw [hN]; decide) rfl ?_
    refine x_sub [3, 4, 5, 1, 0] rfl ?_
    obtain ⟨n7, h⟩ := h
    exact w_X7_compact_30 V n7 S5 (0 : Int32) (0 : Int32) h
  · refine x_iload_n X 0 dX7_compact_11 rfl ?_
    exact x_iret X E dX7_compact_12 ⟨_, rfl, h⟩
set_option maxHeartbeats 2000000 in
set_option maxRecDepth 20000 in
theorem m_X7_compact {l : Launch} {D : va_G} {cy : Nat → ClassId} {ad : Nat → Nat → Nat} (hi : xInj (shM cy) ad) {a1 : Int32} {a2 : Int32} {S : xS} {Q : Int32 → xS → Prop} (h : wp_X7_compact a1 a2 S Q) : xMet l D (xTys cy) (shM cy) ad yX7_compact cX7_compact 8 (some .int) (xRm 5 132) [.ref (ad 0 0), .int a1, .int a2] S (xQi Q) := xMet_env hi (by decide +kernel) rfl (Nat.le_of_ble_eq_true rfl) (fun g hl V => w_X7_compact V h)
set_option maxHeartbeats 2000000 in
set_option maxRecDepth 20000 in
theorem w_X7_isFolded_52 {g : xG} {D : va_G} {cy : Nat → ClassId} {ad : Nat → Nat → Nat} {a1 : Int32} {a2 : Int32} {K5 : xS → Int32 → Int32 → Prop} {Q : Int32 → xS → Prop} (V : xEnv g D (xTys cy) (shM cy) ad RX7 cX7_isFolded (some .boolean) 1 22 5 (xQi Q)) (hK5 : ∀ (S : xS) (v3 : Int32) (v4 : Int32), K5 S v3 v4 → Wx g (xW D (shM cy) ad S) 5 [(0, .ref (ad 0 0)), (1, .int a1), (2, .int a2), (3, .int v3), (4, .int v4)] []) (S : xS) (v4 : Int32) (s0 : Int32) (h : wp_X7_isFolded_52 a1 a2 K5 Q S v4 s0) : Wx g (xW D (shM cy) ad S) 52 [(0, .ref (ad 0 0)), (1, .int a1), (2, .int a2), (4, .int v4)] [.int s0] := by
  obtain ⟨X, K, hi, hA, hR, E, hN⟩ := V
  have V := xEnv_mk X K hi hA hR E hN
  unfold wp_X7_isFolded_52 at h
  refine x_istore_n X [(3, .int s0), (0, .ref (ad 0 0)), (1, .int a1), (2, .int a2), (4, .int v4)] dX7_isFolded_52 (by rw [hN]; decide) rfl ?_
  refine x_iinc X 4 [(4, .int (v4 + (1 : Int32))), (3, .int s0), (0, .ref (ad 0 0)), (1, .int a1), (2, .int a2)] dX7_isFolded_53 rfl rfl (by rw [hN]; decide) rfl ?_
  refine x_goto X 5 dX7_isFolded_56 (by decide) ?_
  refine x_sub [2, 3, 4, 1, 0] rfl ?_
  exact hK5 S s0 (v4 + (1 : Int32)) h
set_option maxHeartbeats 2000000 in
set_option maxRecDepth 20000 in
theorem w_X7_isFolded_51 {g : xG} {D : va_G} {cy : Nat → ClassId} {ad : Nat → Nat → Nat} {a1 : Int32} {a2 : Int32} {K5 : xS → Int32 → Int32 → Prop} {Q : Int32 → xS → Prop} (V : xEnv g D (xTys cy) (shM cy) ad RX7 cX7_isFolded (some .boolean) 1 22 5 (xQi Q)) (hK5 : ∀ (S : xS) (v3 : Int32) (v4 : Int32), K5 S v3 v4 → Wx g (xW D (shM cy) ad S) 5 [(0, .ref (ad 0 0)), (1, .int a1), (2, .int a2), (3, .int v3), (4, .int v4)] []) (S : xS) (v4 : Int32) (h : wp_X7_isFolded_51 a1 a2 K5 Q S v4) : Wx g (xW D (shM cy) ad S) 51 [(0, .ref (ad 0 0)), (1, .int a1), (2, .int a2), (4, .int v4)] [] := by
  obtain ⟨X, K, hi, hA, hR, E, hN⟩ := V
  have V := xEnv_mk X K hi hA hR E hN
  unfold wp_X7_isFolded_51 at h
  refine x_iconst X (v := 0) dX7_isFolded_51 (by decide) ?_
  refine x_sub [0, 1, 2, 3] rfl ?_
  exact w_X7_isFolded_52 V hK5 S v4 (0 : Int32) h
set_option maxHeartbeats 2000000 in
set_option maxRecDepth 20000 in
theorem w_X7_isFolded_47 {g : xG} {D : va_G} {cy : Nat → ClassId} {ad : Nat → Nat → Nat} {a1 : Int32} {a2 : Int32} {K5 : xS → Int32 → Int32 → Prop} {Q : Int32 → xS → Prop} (V : xEnv g D (xTys cy) (shM cy) ad RX7 cX7_isFolded (some .boolean) 1 22 5 (xQi Q)) (hK5 : ∀ (S : xS) (v3 : Int32) (v4 : Int32), K5 S v3 v4 → Wx g (xW D (shM cy) ad S) 5 [(0, .ref (ad 0 0)), (1, .int a1), (2, .int a2), (3, .int v3), (4, .int v4)] []) (S : xS) (v4 : Int32) (h : wp_X7_isFolded_47 a1 a2 K5 Q S v4) : Wx g (xW D (shM cy) ad S) 47 [(0, .ref (ad 0 0)), (1, .int a1), (2, .int a2), (4, .int v4)] [] := by
  obtain ⟨X, K, hi, hA, hR, E, hN⟩ := V
  have V := xEnv_mk X K hi hA hR E hN
  unfold wp_X7_isFolded_47 at h
  refine x_iconst X (v := 1) dX7_isFolded_47 (by decide) ?_
  refine x_goto X 52 dX7_isFolded_48 (by decide) ?_
  refine x_sub [0, 1, 2, 3] rfl ?_
  exact w_X7_isFolded_52 V hK5 S v4 (1 : Int32) h
set_option maxHeartbeats 2000000 in
set_option maxRecDepth 20000 in
theorem w_X7_isFolded_5_b {g : xG} {D : va_G} {cy : Nat → ClassId} {ad : Nat → Nat → Nat} {a1 : Int32} {a2 : Int32} {K5 : xS → Int32 → Int32 → Prop} {Q : Int32 → xS → Prop} (V : xEnv g D (xTys cy) (shM cy) ad RX7 cX7_isFolded (some .boolean) 1 22 5 (xQi Q)) (hK5 : ∀ (S : xS) (v3 : Int32) (v4 : Int32), K5 S v3 v4 → Wx g (xW D (shM cy) ad S) 5 [(0, .ref (ad 0 0)), (1, .int a1), (2, .int a2), (3, .int v3), (4, .int v4)] []) (S : xS) (v3 : Int32) (v4 : Int32) (h : wp_X7_isFolded_5_b a1 a2 K5 Q S v3 v4) : Wx g (xW D (shM cy) ad S) 5 [(0, .ref (ad 0 0)), (1, .int a1), (2, .int a2), (3, .int v3), (4, .int v4)] [] := by
  obtain ⟨X, K, hi, hA, hR, E, hN⟩ := V
  have V := xEnv_mk X K hi hA hR E hN
  unfold wp_X7_isFolded_5_b at h
  refine x_iload X 4 dX7_isFolded_5 rfl ?_
  refine x_aload_n X 0 dX7_isFolded_7 rfl ?_
  refine xg_X7_107 X K (Nat.zero_lt_one) dX7_isFolded_8 ?_
  refine x_icmp_ge X 59 dX7_isFolded_11 (by decide) h (fun h => ?_) (fun h => ?_)
  · refine x_iload_n X 3 dX7_isFolded_59 rfl ?_
    exact x_zret X E dX7_isFolded_60 h.1 ⟨_, rfl, h.2⟩
  · refine x_iload_n X 3 dX7_isFolded_14 rfl ?_
    refine x_if_eq X 51 dX7_isFolded_15 (by decide) h (fun h => ?_) (fun h => ?_)
    · refine x_sub [0, 1, 2, 4] rfl ?_
      exact w_X7_isFolded_51 V hK5 S v4 h
    · refine x_aload_n X 0 dX7_isFolded_18 rfl ?_
      refine x_iload_n X 1 dX7_isFolded_19 rfl ?_
      refine x_iload_n X 2 dX7_isFolded_20 rfl ?_
      refine x_calli hA (x_runS (n := 1) X K hR (fun _ q => q) (m_X7_tupleAt hi  h) t4_236 t4_237 t1_8 t4_238 ⟨by decide, by decide, by decide +kernel⟩ rfl (by decide) (by decide) rfl (Nat.le_of_ble_eq_true rfl) dX7_isFolded_21) (fun r2 S1 h => ?_)
      refine x_iconst X (v := 3) dX7_isFolded_24 (by decide) ?_
      refine x_iload X 4 dX7_isFolded_25 rfl ?_
      refine x_imul X dX7_isFolded_27 ?_
      refine x_iadd X dX7_isFolded_28 ?_
      refine x_iconst X (v := 1) dX7_isFolded_29 (by decide) ?_
      refine x_iadd X dX7_isFolded_30 ?_
      refine x_calli hA (x_runV (n := 2) (sh := shM cy) X K hR (fun _ q => q) (m_X7_of hi  h) (kM_0 cy (Nat.zero_lt_one)) rfl rfl t4_208 t4_210 tp_31 t1_8 t4_211 ⟨by decide, by decide, by decide +kernel⟩ rfl (by decide) (by decide) rfl (Nat.le_of_ble_eq_true rfl) dX7_isFolded_31) (fun r4 S3 h => ?_)
      refine x_if_eq X 47 dX7_isFolded_34 (by decide) h (fun h => ?_) (fun h => ?_)
      · refine x_sub [0, 1, 2, 4] rfl ?_
        exact w_X7_isFolded_47 V hK5 S3 v4 h
      · refine x_aload_n X 0 dX7_isFolded_37 rfl ?_
        refine xg_X7_22 X K (Nat.zero_lt_one) dX7_isFolded_38 ?_
        refine x_iload X 4 dX7_isFolded_41 rfl ?_
        obtain ⟨hb5, h⟩ := h
        refine xa_M6 X K (show 0 < 1 by decide) hb5 dX7_isFolded_43 ?_
        refine x_if_eq X 51 dX7_isFolded_44 (by decide) h (fun h => ?_) (fun h => ?_)
        · refine x_sub [0, 1, 2, 4] rfl ?_
          exact w_X7_isFolded_51 V hK5 S3 v4 h
        · refine x_sub [0, 1, 2, 4] rfl ?_
          exact w_X7_isFolded_47 V hK5 S3 v4 h
set_option maxHeartbeats 2000000 in
set_option maxRecDepth 20000 in
theorem w_X7_isFolded_5 {g : xG} {D : va_G} {cy : Nat → ClassId} {ad : Nat → Nat → Nat} {a1 : Int32} {a2 : Int32} {Q : Int32 → xS → Prop} (V : xEnv g D (xTys cy) (shM cy) ad RX7 cX7_isFolded (some .boolean) 1 22 5 (xQi Q)) (n : Nat) : ∀ (S : xS) (v3 : Int32) (v4 : Int32), wp_X7_isFolded_5 a1 a2 Q n S v3 v4 → Wx g (xW D (shM cy) ad S) 5 [(0, .ref (ad 0 0)), (1, .int a1), (2, .int a2), (3, .int v3), (4, .int v4)] [] := by
  induction n with
  | zero => intro S v3 v4 h; exact h.elim
  | succ n ih => intro S v3 v4 h; exact w_X7_isFolded_5_b V (fun S v3 v4 h => ih S v3 v4 h) S v3 v4 h
set_option maxHeartbeats 2000000 in
set_option maxRecDepth 20000 in
theorem w_X7_isFolded {g : xG} {D : va_G} {cy : Nat → ClassId} {ad : Nat → Nat → Nat} {a1 : Int32} {a2 : Int32} {S : xS} {Q : Int32 → xS → Prop} (V : xEnv g D (xTys cy) (shM cy) ad RX7 cX7_isFolded (some .boolean) 1 22 5 (xQi Q)) (h : wp_X7_isFolded a1 a2 S Q) : Wx g (xW D (shM cy) ad S) 0 [(0, .ref (ad 0 0)), (1, .int a1), (2, .int a2)] [] := by
  obtain ⟨X, K, hi, hA, hR, E, hN⟩ := V
  have V := xEnv_mk X K hi hA hR E hN
  unfold wp_X7_isFolded at h
  refine x_iconst X (v := 1) dX7_isFolded_0 (by decide) ?_
  refine x_istore_n X [(3, .int (1 : Int32)), (0, .ref (ad 0 0)), (1, .int a1), (2, .int a2)] dX7_isFolded_1 (by rw [hN]; decide) rfl ?_
  refine x_iconst X (v := 0) dX7_isFolded_2 (by decide) ?_
  refine x_istore X [(4, .int (0 : Int32)), (3, .int (1 : Int32)), (0, .ref (ad 0 0)), (1, .int a1), (2, .int a2)] dX7_isFolded_3 (by rw [hN]; decide) rfl ?_
  refine x_sub [2, 3, 4, 1, 0] rfl ?_
  obtain ⟨n1, h⟩ := h
  exact w_X7_isFolded_5 V n1 S (1 : Int32) (0 : Int32) h
set_option maxHeartbeats 2000000 in
set_option maxRecDepth 20000 in
theorem m_X7_isFolded {l : Launch} {D : va_G} {cy : Nat → ClassId} {ad : Nat → Nat → Nat} (hi : xInj (shM cy) ad) {a1 : Int32} {a2 : Int32} {S : xS} {Q : Int32 → xS → Prop} (h : wp_X7_isFolded a1 a2 S Q) : xMet l D (xTys cy) (shM cy) ad yX7_isFolded cX7_isFolded 5 (some .boolean) (xRm 1 22) [.ref (ad 0 0), .int a1, .int a2] S (xQi Q) := xMet_env hi (by decide +kernel) rfl (Nat.le_of_ble_eq_true rfl) (fun g hl V => w_X7_isFolded V h)
set_option maxHeartbeats 2000000 in
set_option maxRecDepth 20000 in
theorem w_X7_addMoves_10_b {g : xG} {D : va_G} {cy : Nat → ClassId} {ad : Nat → Nat → Nat} {a1 : Int32} {a2 : Int32} {K10 : xS → Int64 → Int32 → Prop} {Q : xS → Prop} (V : xEnv g D (xTys cy) (shM cy) ad RX7 cX7_addMoves none 4 108 7 (xQv Q)) (hK10 : ∀ (S : xS) (v3 : Int64) (v5 : Int32), K10 S v3 v5 → Wx g (xW D (shM cy) ad S) 10 [(0, .ref (ad 0 0)), (1, .int a1), (2, .int a2), (3, .long v3), (5, .int v5)] []) (S : xS) (v3 : Int64) (v5 : Int32) (h : wp_X7_addMoves_10_b a1 a2 K10 Q S v3 v5) : Wx g (xW D (shM cy) ad S) 10 [(0, .ref (ad 0 0)), (1, .int a1), (2, .int a2), (3, .long v3), (5, .int v5)] [] := by
  obtain ⟨X, K, hi, hA, hR, E, hN⟩ := V
  have V := xEnv_mk X K hi hA hR E hN
  unfold wp_X7_addMoves_10_b at h
  refine x_iload X 4 dX7_addMoves_10 rfl ?_
  refine x_aload_n X 0 dX7_addMoves_12 rfl ?_
  refine x_iload_n X 1 dX7_addMoves_13 rfl ?_
  refine x_iconst X (v := 2) dX7_addMoves_14 (by decide) ?_
  refine x_calli hA (x_runV (n := 2) (sh := shM cy) X K hR (fun _ q => q) (m_X7_of hi  h) (kM_0 cy (Nat.zero_lt_one)) rfl rfl t4_208 t4_210 tp_31 t1_8 t4_211 ⟨by decide, by decide, by decide +kernel⟩ rfl (by decide) (by decide) rfl (Nat.le_of_ble_eq_true rfl) dX7_addMoves_15) (fun r2 S1 h => ?_)
  refine x_icmp_gt X 80 dX7_addMoves_18 (by decide) h (fun h => ?_) (fun h => ?_)
  · exact x_vret X E dX7_addMoves_80 ⟨rfl, h⟩
  · refine x_aload_n X 0 dX7_addMoves_21 rfl ?_
    refine x_iload_n X 1 dX7_addMoves_22 rfl ?_
    refine x_iload X 4 dX7_addMoves_23 rfl ?_
    refine x_calli hA (x_runV (n := 2) (sh := shM cy) X K hR (fun _ q => q) (m_X7_slotBy hi  h) (kM_0 cy (Nat.zero_lt_one)) rfl rfl t5_172 t5_174 tp_57 t1_8 t5_175 ⟨by decide, by decide, by decide +kernel⟩ rfl (by decide) (by decide) rfl (Nat.le_of_ble_eq_true rfl) dX7_addMoves_25) (fun r4 S3 h => ?_)
    refine x_istore X [(6, .int r4), (0, .ref (ad 0 0)), (1, .int a1), (2, .int a2), (3, .long v3), (5, .int v5)] dX7_addMoves_28 (by rw [hN]; decide) rfl ?_
    refine x_aload_n X 1 dX7_addMoves_30 rfl ?_
    refine xg_X7_87 X K (Nat.zero_lt_one) dX7_addMoves_31 ?_
    refine x_iload X 0 dX7_addMoves_34 rfl ?_
    refine x_dup2 X dX7_addMoves_36 rfl rfl ?_
    obtain ⟨hb5, h⟩ := h
    refine xa_M31 X K (show 0 < 1 by decide) hb5 dX7_addMoves_37 ?_
    refine x_lload_n X 4 dX7_addMoves_38 rfl ?_
    refine x_aload_n X 1 dX7_addMoves_39 rfl ?_
    refine x_iload_n X 2 dX7_addMoves_40 rfl ?_
    refine x_iload_n X 3 dX7_addMoves_41 rfl ?_
    refine x_iload X 0 dX7_addMoves_42 rfl ?_
    refine x_iconst X (v := 0) dX7_addMoves_44 (by decide) ?_
    refine x_calli hA (x_runV (n := 4) (sh := shM cy) X K hR (fun _ q => q) (m_X7_deltaOf hi  h) (kM_0 cy (Nat.zero_lt_one)) rfl rfl t5_47 t5_49 tp_41 t1_8 t5_50 ⟨by decide, by decide, by decide +kernel⟩ rfl (by decide) (by decide) rfl (Nat.le_of_ble_eq_true rfl) dX7_addMoves_45) (fun r7 S6 h => ?_)
    refine x_i2l X dX7_addMoves_48 ?_
    refine x_lmul X dX7_addMoves_49 ?_
    refine x_ladd X dX7_addMoves_50 ?_
    obtain ⟨hb8, h⟩ := h
    refine xs_M31 X K hi hA (show 0 < 1 by decide) hb8 dX7_addMoves_51 ?_
    refine x_aload_n X 1 dX7_addMoves_52 rfl ?_
    refine xg_X7_90 X K (Nat.zero_lt_one) dX7_addMoves_53 ?_
    refine x_iload X 0 dX7_addMoves_56 rfl ?_
    refine x_dup2 X dX7_addMoves_58 rfl rfl ?_
    obtain ⟨hb9, h⟩ := h
    refine xa_M32 X K (show 0 < 1 by decide) hb9 dX7_addMoves_59 ?_
    refine x_lload_n X 4 dX7_addMoves_60 rfl ?_
    refine x_aload_n X 1 dX7_addMoves_61 rfl ?_
    refine x_iload_n X 2 dX7_addMoves_62 rfl ?_
    refine x_iload_n X 3 dX7_addMoves_63 rfl ?_
    refine x_iload X 0 dX7_addMoves_64 rfl ?_
    refine x_iconst X (v := 1) dX7_addMoves_66 (by decide) ?_
    refine x_calli hA (x_runV (n := 4) (sh := shM cy) X K hR (fun _ q => q) (m_X7_deltaOf hi  h) (kM_0 cy (Nat.zero_lt_one)) rfl rfl t5_47 t5_49 tp_41 t1_8 t5_50 ⟨by decide, by decide, by decide +kernel⟩ rfl (by decide) (by decide) rfl (Nat.le_of_ble_eq_true rfl) dX7_addMoves_67) (fun r11 S10 h => ?_)
    refine x_i2l X dX7_addMoves_70 ?_
    refine x_lmul X dX7_addMoves_71 ?_
    refine x_ladd X dX7_addMoves_72 ?_
    obtain ⟨hb12, h⟩ := h
    refine xs_M32 X K hi hA (show 0 < 1 by decide) hb12 dX7_addMoves_73 ?_
    refine x_iinc X 5 [(5, .int (v5 + (1 : Int32))), (6, .int r4), (0, .ref (ad 0 0)), (1, .int a1), (2, .int a2), (3, .long v3)] dX7_addMoves_74 rfl rfl (by rw [hN]; decide) rfl ?_
    refine x_goto X 10 dX7_addMoves_77 (by decide) ?_
    refine x_sub [2, 3, 4, 5, 0] rfl ?_
    exact hK10 (xJ S10 32 0 r4.toNatClampNeg (((xJ S6 31 0 r4.toNatClampNeg ((S3.2.1 31 0 r4.toNatClampNeg) + (v3 * (Int32.toInt64 r7)))).2.1 32 0 r4.toNatClampNeg) + (v3 * (Int32.toInt64 r11)))) v3 (v5 + (1 : Int32)) h
set_option maxHeartbeats 2000000 in
set_option maxRecDepth 20000 in
theorem w_X7_addMoves_10 {g : xG} {D : va_G} {cy : Nat → ClassId} {ad : Nat → Nat → Nat} {a1 : Int32} {a2 : Int32} {Q : xS → Prop} (V : xEnv g D (xTys cy) (shM cy) ad RX7 cX7_addMoves none 4 108 7 (xQv Q)) (n : Nat) : ∀ (S : xS) (v3 : Int64) (v5 : Int32), wp_X7_addMoves_10 a1 a2 Q n S v3 v5 → Wx g (xW D (shM cy) ad S) 10 [(0, .ref (ad 0 0)), (1, .int a1), (2, .int a2), (3, .long v3), (5, .int v5)] [] := by
  induction n with
  | zero => intro S v3 v5 h; exact h.elim
  | succ n ih => intro S v3 v5 h; exact w_X7_addMoves_10_b V (fun S v3 v5 h => ih S v3 v5 h) S v3 v5 h
set_option maxHeartbeats 2000000 in
set_option maxRecDepth 20000 in
theorem w_X7_addMoves {g : xG} {D : va_G} {cy : Nat → ClassId} {ad : Nat → Nat → Nat} {a1 : Int32} {a2 : Int32} {S : xS} {Q : xS → Prop} (V : xEnv g D (xTys cy) (shM cy) ad RX7 cX7_addMoves none 4 108 7 (xQv Q)) (h : wp_X7_addMoves a1 a2 S Q) : Wx g (xW D (shM cy) ad S) 0 [(0, .ref (ad 0 0)), (1, .int a1), (2, .int a2)] [] := by
  obtain ⟨X, K, hi, hA, hR, E, hN⟩ := V
  have V := xEnv_mk X K hi hA hR E hN
  unfold wp_X7_addMoves at h
  refine x_aload_n X 0 dX7_addMoves_0 rfl ?_
  refine x_iload_n X 1 dX7_addMoves_1 rfl ?_
  refine x_iload_n X 2 dX7_addMoves_2 rfl ?_
  refine x_calll hA (x_runV (n := 2) (sh := shM cy) X K hR (fun _ q => q) (m_X7_scalarOf hi  h) (kM_0 cy Nat.zero_lt_one) rfl rfl t5_71 t5_73 tp_45 t1_8 t5_74 ⟨by decide, by decide, by decide +kernel⟩ rfl (by decide) (by decide) rfl (Nat.le_of_ble_eq_true rfl) dX7_addMoves_3) (fun r2 S1 h => ?_)
  refine x_lstore_n X [(3, .long r2), (0, .ref (ad 0 0)), (1, .int a1), (2, .int a2)] dX7_addMoves_6 (by rw [hN]; decide) rfl ?_
  refine x_iconst X (v := 0) dX7_addMoves_7 (by decide) ?_
  refine x_istore X [(5, .int (0 : Int32)), (3, .long r2), (0, .ref (ad 0 0)), (1, .int a1), (2, .int a2)] dX7_addMoves_8 (by rw [hN]; decide) rfl ?_
  refine x_sub [2, 3, 4, 1, 0] rfl ?_
  obtain ⟨n3, h⟩ := h
  exact w_X7_addMoves_10 V n3 S1 r2 (0 : Int32) h
set_option maxHeartbeats 2000000 in
set_option maxRecDepth 20000 in
theorem m_X7_addMoves {l : Launch} {D : va_G} {cy : Nat → ClassId} {ad : Nat → Nat → Nat} (hi : xInj (shM cy) ad) {a1 : Int32} {a2 : Int32} {S : xS} {Q : xS → Prop} (h : wp_X7_addMoves a1 a2 S Q) : xMet l D (xTys cy) (shM cy) ad yX7_addMoves cX7_addMoves 7 none (xRm 4 108) [.ref (ad 0 0), .int a1, .int a2] S (xQv Q) := xMet_env hi (by decide +kernel) rfl (Nat.le_of_ble_eq_true rfl) (fun g hl V => w_X7_addMoves V h)
set_option maxHeartbeats 2000000 in
set_option maxRecDepth 20000 in
theorem w_X7_moveBases_2_b {g : xG} {D : va_G} {cy : Nat → ClassId} {ad : Nat → Nat → Nat} {a1 : Int32} {K2 : xS → Int32 → Prop} {Q : xS → Prop} (V : xEnv g D (xTys cy) (shM cy) ad RX7 cX7_moveBases none 1 27 3 (xQv Q)) (hK2 : ∀ (S : xS) (v2 : Int32), K2 S v2 → Wx g (xW D (shM cy) ad S) 2 [(0, .ref (ad 0 0)), (1, .int a1), (2, .int v2)] []) (S : xS) (v2 : Int32) (h : wp_X7_moveBases_2_b a1 K2 Q S v2) : Wx g (xW D (shM cy) ad S) 2 [(0, .ref (ad 0 0)), (1, .int a1), (2, .int v2)] [] := by
  obtain ⟨X, K, hi, hA, hR, E, hN⟩ := V
  have V := xEnv_mk X K hi hA hR E hN
  unfold wp_X7_moveBases_2_b at h
  refine x_iload_n X 2 dX7_moveBases_2 rfl ?_
  refine x_aload_n X 0 dX7_moveBases_3 rfl ?_
  refine x_iload_n X 1 dX7_moveBases_4 rfl ?_
  refine x_iconst X (v := 2) dX7_moveBases_5 (by decide) ?_
  refine x_calli hA (x_runV (n := 2) (sh := shM cy) X K hR (fun _ q => q) (m_X7_of hi  h) (kM_0 cy (Nat.zero_lt_one)) rfl rfl t4_208 t4_210 tp_31 t1_8 t4_211 ⟨by decide, by decide, by decide +kernel⟩ rfl (by decide) (by decide) rfl (Nat.le_of_ble_eq_true rfl) dX7_moveBases_6) (fun r2 S1 h => ?_)
  refine x_icmp_ge X 80 dX7_moveBases_9 (by decide) h (fun h => ?_) (fun h => ?_)
  · refine x_aload_n X 0 dX7_moveBases_80 rfl ?_
    refine x_iload_n X 1 dX7_moveBases_81 rfl ?_
    refine x_iconst X (v := 1) dX7_moveBases_82 (by decide) ?_
    refine x_aload_n X 0 dX7_moveBases_83 rfl ?_
    refine x_iload_n X 1 dX7_moveBases_84 rfl ?_
    refine x_iconst X (v := 1) dX7_moveBases_85 (by decide) ?_
    refine x_calli hA (x_runV (n := 2) (sh := shM cy) X K hR (fun _ q => q) (m_X7_of hi  h) (kM_0 cy (Nat.zero_lt_one)) rfl rfl t4_208 t4_210 tp_31 t1_8 t4_211 ⟨by decide, by decide, by decide +kernel⟩ rfl (by decide) (by decide) rfl (Nat.le_of_ble_eq_true rfl) dX7_moveBases_86) (fun r4 S3 h => ?_)
    refine x_aload_n X 0 dX7_moveBases_89 rfl ?_
    refine xg_X7_87 X K (Nat.zero_lt_one) dX7_moveBases_90 ?_
    refine x_bipush X (v := 24) dX7_moveBases_93 (by decide) ?_
    obtain ⟨hb5, h⟩ := h
    refine xa_M31 X K (show 0 < 1 by decide) hb5 dX7_moveBases_95 ?_
    refine x_ldc2 X (v := 268435456) t5_75 dX7_moveBases_96 ?_
    refine x_calll hA (x_runS (n := 2) X K hR (fun _ q => q) (m_X7_near hi  h) t4_161 t4_162 t1_8 t4_163 ⟨by decide, by decide, by decide +kernel⟩ rfl (by decide) (by decide) rfl (Nat.le_of_ble_eq_true rfl) dX7_moveBases_99) (fun r7 S6 h => ?_)
    refine x_l2i X dX7_moveBases_102 ?_
    refine x_iadd X dX7_moveBases_103 ?_
    refine x_callv hA (x_runV (n := 3) (sh := shM cy) X K hR (fun _ q => q) (m_X7_put hi  h) (kM_0 cy (Nat.zero_lt_one)) rfl rfl t4_191 t4_193 tp_29 t1_8 t4_194 ⟨by decide, by decide, by decide +kernel⟩ rfl (by decide) (by decide) rfl (Nat.le_of_ble_eq_true rfl) dX7_moveBases_104) (fun S8 h => ?_)
    exact x_vret X E dX7_moveBases_107 ⟨rfl, h⟩
  · refine x_aload_n X 0 dX7_moveBases_12 rfl ?_
    refine x_iload_n X 1 dX7_moveBases_13 rfl ?_
    refine x_iconst X (v := 4) dX7_moveBases_14 (by decide) ?_
    refine x_iload_n X 2 dX7_moveBases_15 rfl ?_
    refine x_iadd X dX7_moveBases_16 ?_
    refine x_aload_n X 0 dX7_moveBases_17 rfl ?_
    refine x_iload_n X 1 dX7_moveBases_18 rfl ?_
    refine x_iconst X (v := 4) dX7_moveBases_19 (by decide) ?_
    refine x_iload_n X 2 dX7_moveBases_20 rfl ?_
    refine x_iadd X dX7_moveBases_21 ?_
    refine x_calli hA (x_runV (n := 2) (sh := shM cy) X K hR (fun _ q => q) (m_X7_of hi  h) (kM_0 cy (Nat.zero_lt_one)) rfl rfl t4_208 t4_210 tp_31 t1_8 t4_211 ⟨by decide, by decide, by decide +kernel⟩ rfl (by decide) (by decide) rfl (Nat.le_of_ble_eq_true rfl) dX7_moveBases_22) (fun r11 S10 h => ?_)
    refine x_aload_n X 0 dX7_moveBases_25 rfl ?_
    refine xg_X7_87 X K (Nat.zero_lt_one) dX7_moveBases_26 ?_
    refine x_iload_n X 2 dX7_moveBases_29 rfl ?_
    obtain ⟨hb12, h⟩ := h
    refine xa_M31 X K (show 0 < 1 by decide) hb12 dX7_moveBases_30 ?_
    refine x_ldc2 X (v := 268435456) t5_75 dX7_moveBases_31 ?_
    refine x_calll hA (x_runS (n := 2) X K hR (fun _ q => q) (m_X7_near hi  h) t4_161 t4_162 t1_8 t4_163 ⟨by decide, by decide, by decide +kernel⟩ rfl (by decide) (by decide) rfl (Nat.le_of_ble_eq_true rfl) dX7_moveBases_34) (fun r14 S13 h => ?_)
    refine x_l2i X dX7_moveBases_37 ?_
    refine x_iadd X dX7_moveBases_38 ?_
    refine x_callv hA (x_runV (n := 3) (sh := shM cy) X K hR (fun _ q => q) (m_X7_put hi  h) (kM_0 cy (Nat.zero_lt_one)) rfl rfl t4_191 t4_193 tp_29 t1_8 t4_194 ⟨by decide, by decide, by decide +kernel⟩ rfl (by decide) (by decide) rfl (Nat.le_of_ble_eq_true rfl) dX7_moveBases_39) (fun S15 h => ?_)
    refine x_aload_n X 0 dX7_moveBases_42 rfl ?_
    refine x_iload_n X 1 dX7_moveBases_43 rfl ?_
    refine x_bipush X (v := 28) dX7_moveBases_44 (by decide) ?_
    refine x_iload_n X 2 dX7_moveBases_46 rfl ?_
    refine x_iadd X dX7_moveBases_47 ?_
    refine x_aload_n X 0 dX7_moveBases_48 rfl ?_
    refine x_iload_n X 1 dX7_moveBases_49 rfl ?_
    refine x_bipush X (v := 28) dX7_moveBases_50 (by decide) ?_
    refine x_iload_n X 2 dX7_moveBases_52 rfl ?_
    refine x_iadd X dX7_moveBases_53 ?_
    refine x_calli hA (x_runV (n := 2) (sh := shM cy) X K hR (fun _ q => q) (m_X7_of hi  h) (kM_0 cy (Nat.zero_lt_one)) rfl rfl t4_208 t4_210 tp_31 t1_8 t4_211 ⟨by decide, by decide, by decide +kernel⟩ rfl (by decide) (by decide) rfl (Nat.le_of_ble_eq_true rfl) dX7_moveBases_54) (fun r18 S17 h => ?_)
    refine x_aload_n X 0 dX7_moveBases_57 rfl ?_
    refine xg_X7_90 X K (Nat.zero_lt_one) dX7_moveBases_58 ?_
    refine x_iload_n X 2 dX7_moveBases_61 rfl ?_
    obtain ⟨hb19, h⟩ := h
    refine xa_M32 X K (show 0 < 1 by decide) hb19 dX7_moveBases_62 ?_
    refine x_ldc2 X (v := 268435456) t5_75 dX7_moveBases_63 ?_
    refine x_calll hA (x_runS (n := 2) X K hR (fun _ q => q) (m_X7_near hi  h) t4_161 t4_162 t1_8 t4_163 ⟨by decide, by decide, by decide +kernel⟩ rfl (by decide) (by decide) rfl (Nat.le_of_ble_eq_true rfl) dX7_moveBases_66) (fun r21 S20 h => ?_)
    refine x_l2i X dX7_moveBases_69 ?_
    refine x_iadd X dX7_moveBases_70 ?_
    refine x_callv hA (x_runV (n := 3) (sh := shM cy) X K hR (fun _ q => q) (m_X7_put hi  h) (kM_0 cy (Nat.zero_lt_one)) rfl rfl t4_191 t4_193 tp_29 t1_8 t4_194 ⟨by decide, by decide, by decide +kernel⟩ rfl (by decide) (by decide) rfl (Nat.le_of_ble_eq_true rfl) dX7_moveBases_71) (fun S22 h => ?_)
    refine x_iinc X 2 [(2, .int (v2 + (1 : Int32))), (0, .ref (ad 0 0)), (1, .int a1)] dX7_moveBases_74 rfl rfl (by rw [hN]; decide) rfl ?_
    refine x_goto X 2 dX7_moveBases_77 (by decide) ?_
    refine x_sub [1, 2, 0] rfl ?_
    exact hK2 S22 (v2 + (1 : Int32)) h
set_option maxHeartbeats 2000000 in
set_option maxRecDepth 20000 in
theorem w_X7_moveBases_2 {g : xG} {D : va_G} {cy : Nat → ClassId} {ad : Nat → Nat → Nat} {a1 : Int32} {Q : xS → Prop} (V : xEnv g D (xTys cy) (shM cy) ad RX7 cX7_moveBases none 1 27 3 (xQv Q)) (n : Nat) : ∀ (S : xS) (v2 : Int32), wp_X7_moveBases_2 a1 Q n S v2 → Wx g (xW D (shM cy) ad S) 2 [(0, .ref (ad 0 0)), (1, .int a1), (2, .int v2)] [] := by
  induction n with
  | zero => intro S v2 h; exact h.elim
  | succ n ih => intro S v2 h; exact w_X7_moveBases_2_b V (fun S v2 h => ih S v2 h) S v2 h
set_option maxHeartbeats 2000000 in
set_option maxRecDepth 20000 in
theorem w_X7_moveBases {g : xG} {D : va_G} {cy : Nat → ClassId} {ad : Nat → Nat → Nat} {a1 : Int32} {S : xS} {Q : xS → Prop} (V : xEnv g D (xTys cy) (shM cy) ad RX7 cX7_moveBases none 1 27 3 (xQv Q)) (h : wp_X7_moveBases a1 S Q) : Wx g (xW D (shM cy) ad S) 0 [(0, .ref (ad 0 0)), (1, .int a1)] [] := by
  obtain ⟨X, K, hi, hA, hR, E, hN⟩ := V
  have V := xEnv_mk X K hi hA hR E hN
  unfold wp_X7_moveBases at h
  refine x_iconst X (v := 0) dX7_moveBases_0 (by decide) ?_
  refine x_istore_n X [(2, .int (0 : Int32)), (0, .ref (ad 0 0)), (1, .int a1)] dX7_moveBases_1 (by rw [hN]; decide) rfl ?_
  refine x_sub [1, 2, 0] rfl ?_
  obtain ⟨n1, h⟩ := h
  exact w_X7_moveBases_2 V n1 S (0 : Int32) h
set_option maxHeartbeats 2000000 in
set_option maxRecDepth 20000 in
theorem m_X7_moveBases {l : Launch} {D : va_G} {cy : Nat → ClassId} {ad : Nat → Nat → Nat} (hi : xInj (shM cy) ad) {a1 : Int32} {S : xS} {Q : xS → Prop} (h : wp_X7_moveBases a1 S Q) : xMet l D (xTys cy) (shM cy) ad yX7_moveBases cX7_moveBases 3 none (xRm 1 27) [.ref (ad 0 0), .int a1] S (xQv Q) := xMet_env hi (by decide +kernel) rfl (Nat.le_of_ble_eq_true rfl) (fun g hl V => w_X7_moveBases V h)
set_option maxHeartbeats 2000000 in
set_option maxRecDepth 20000 in
theorem w_X7_fold_140 {g : xG} {D : va_G} {cy : Nat → ClassId} {ad : Nat → Nat → Nat} {a1 : Int32} {K97 : xS → Int32 → Int32 → Prop} {Q : Int32 → xS → Prop} (V : xEnv g D (xTys cy) (shM cy) ad RX7 cX7_fold (some .int) 5 134 4 (xQi Q)) (hK97 : ∀ (S : xS) (v2 : Int32) (v3 : Int32), K97 S v2 v3 → Wx g (xW D (shM cy) ad S) 97 [(0, .ref (ad 0 0)), (1, .int a1), (2, .int v2), (3, .int v3)] []) (S : xS) (v2 : Int32) (v3 : Int32) (h : wp_X7_fold_140 a1 K97 Q S v2 v3) : Wx g (xW D (shM cy) ad S) 140 [(0, .ref (ad 0 0)), (1, .int a1), (2, .int v2), (3, .int v3)] [] := by
  obtain ⟨X, K, hi, hA, hR, E, hN⟩ := V
  have V := xEnv_mk X K hi hA hR E hN
  unfold wp_X7_fold_140 at h
  refine x_iinc X 3 [(3, .int (v3 + (-1 : Int32))), (0, .ref (ad 0 0)), (1, .int a1), (2, .int v2)] dX7_fold_140 rfl rfl (by rw [hN]; decide) rfl ?_
  refine x_goto X 97 dX7_fold_143 (by decide) ?_
  refine x_sub [1, 2, 3, 0] rfl ?_
  exact hK97 S v2 (v3 + (-1 : Int32)) h
set_option maxHeartbeats 2000000 in
set_option maxRecDepth 20000 in
theorem w_X7_fold_97_b {g : xG} {D : va_G} {cy : Nat → ClassId} {ad : Nat → Nat → Nat} {a1 : Int32} {K97 : xS → Int32 → Int32 → Prop} {Q : Int32 → xS → Prop} (V : xEnv g D (xTys cy) (shM cy) ad RX7 cX7_fold (some .int) 5 134 4 (xQi Q)) (hK97 : ∀ (S : xS) (v2 : Int32) (v3 : Int32), K97 S v2 v3 → Wx g (xW D (shM cy) ad S) 97 [(0, .ref (ad 0 0)), (1, .int a1), (2, .int v2), (3, .int v3)] []) (S : xS) (v2 : Int32) (v3 : Int32) (h : wp_X7_fold_97_b a1 K97 Q S v2 v3) : Wx g (xW D (shM cy) ad S) 97 [(0, .ref (ad 0 0)), (1, .int a1), (2, .int v2), (3, .int v3)] [] := by
  obtain ⟨X, K, hi, hA, hR, E, hN⟩ := V
  have V := xEnv_mk X K hi hA hR E hN
  unfold wp_X7_fold_97_b at h
  refine x_iload_n X 3 dX7_fold_97 rfl ?_
  refine x_if_lt X 146 dX7_fold_98 (by decide) h (fun h => ?_) (fun h => ?_)
  · refine x_aload_n X 0 dX7_fold_146 rfl ?_
    refine x_iload_n X 1 dX7_fold_147 rfl ?_
    refine x_callv hA (x_runV (n := 1) (sh := shM cy) X K hR (fun _ q => q) (m_X7_moveBases hi  h) (kM_0 cy (Nat.zero_lt_one)) rfl rfl t5_204 t5_206 tp_63 t1_8 t5_207 ⟨by decide, by decide, by decide +kernel⟩ rfl (by decide) (by decide) rfl (Nat.le_of_ble_eq_true rfl) dX7_fold_148) (fun S1 h => ?_)
    refine x_iload_n X 2 dX7_fold_151 rfl ?_
    exact x_iret X E dX7_fold_152 ⟨_, rfl, h⟩
  · refine x_aload_n X 0 dX7_fold_101 rfl ?_
    refine x_iload_n X 1 dX7_fold_102 rfl ?_
    refine x_iload_n X 3 dX7_fold_103 rfl ?_
    refine x_calli hA (x_runV (n := 2) (sh := shM cy) X K hR (fun _ q => q) (m_X7_isFolded hi  h) (kM_0 cy (Nat.zero_lt_one)) rfl rfl t5_196 t5_198 tp_61 t1_8 t5_199 ⟨by decide, by decide, by decide +kernel⟩ rfl (by decide) (by decide) rfl (Nat.le_of_ble_eq_true rfl) dX7_fold_104) (fun r4 S3 h => ?_)
    refine x_if_eq X 119 dX7_fold_107 (by decide) h (fun h => ?_) (fun h => ?_)
    · refine x_aload_n X 0 dX7_fold_119 rfl ?_
      refine x_iload_n X 1 dX7_fold_120 rfl ?_
      refine x_iconst X (v := 0) dX7_fold_121 (by decide) ?_
      refine x_calli hA (x_runV (n := 2) (sh := shM cy) X K hR (fun _ q => q) (m_X7_of hi  h) (kM_0 cy (Nat.zero_lt_one)) rfl rfl t4_208 t4_210 tp_31 t1_8 t4_211 ⟨by decide, by decide, by decide +kernel⟩ rfl (by decide) (by decide) rfl (Nat.le_of_ble_eq_true rfl) dX7_fold_122) (fun r6 S5 h => ?_)
      refine x_if_ne X 140 dX7_fold_125 (by decide) h (fun h => ?_) (fun h => ?_)
      · refine x_aload_n X 0 dX7_fold_128 rfl ?_
        refine x_iload_n X 1 dX7_fold_129 rfl ?_
        refine x_iload_n X 3 dX7_fold_130 rfl ?_
        refine x_callv hA (x_runV (n := 2) (sh := shM cy) X K hR (fun _ q => q) (m_X7_layDeltas hi  h) (kM_0 cy (Nat.zero_lt_one)) rfl rfl t5_168 t5_170 tp_56 t1_8 t5_171 ⟨by decide, by decide, by decide +kernel⟩ rfl (by decide) (by decide) rfl (Nat.le_of_ble_eq_true rfl) dX7_fold_131) (fun S7 h => ?_)
        refine x_aload_n X 0 dX7_fold_134 rfl ?_
        refine x_iload_n X 1 dX7_fold_135 rfl ?_
        refine x_iload_n X 3 dX7_fold_136 rfl ?_
        refine x_callv hA (x_runV (n := 2) (sh := shM cy) X K hR (fun _ q => q) (m_X7_touchAll hi  h) (kM_0 cy (Nat.zero_lt_one)) rfl rfl t5_176 t5_178 tp_58 t1_8 t5_179 ⟨by decide, by decide, by decide +kernel⟩ rfl (by decide) (by decide) rfl (Nat.le_of_ble_eq_true rfl) dX7_fold_137) (fun S9 h => ?_)
        refine x_sub [0, 1, 2, 3] rfl ?_
        exact w_X7_fold_140 V hK97 S9 v2 v3 h
      · refine x_sub [0, 1, 2, 3] rfl ?_
        exact w_X7_fold_140 V hK97 S5 v2 v3 h
    · refine x_aload_n X 0 dX7_fold_110 rfl ?_
      refine x_iload_n X 1 dX7_fold_111 rfl ?_
      refine x_iload_n X 3 dX7_fold_112 rfl ?_
      refine x_callv hA (x_runV (n := 2) (sh := shM cy) X K hR (fun _ q => q) (m_X7_removeTuple hi  h) (kM_0 cy (Nat.zero_lt_one)) rfl rfl t5_180 t5_182 tp_59 t1_8 t5_183 ⟨by decide, by decide, by decide +kernel⟩ rfl (by decide) (by decide) rfl (Nat.le_of_ble_eq_true rfl) dX7_fold_113) (fun S11 h => ?_)
      refine x_goto X 140 dX7_fold_116 (by decide) ?_
      refine x_sub [0, 1, 2, 3] rfl ?_
      exact w_X7_fold_140 V hK97 S11 v2 v3 h
set_option maxHeartbeats 2000000 in
set_option maxRecDepth 20000 in
theorem w_X7_fold_97 {g : xG} {D : va_G} {cy : Nat → ClassId} {ad : Nat → Nat → Nat} {a1 : Int32} {Q : Int32 → xS → Prop} (V : xEnv g D (xTys cy) (shM cy) ad RX7 cX7_fold (some .int) 5 134 4 (xQi Q)) (n : Nat) : ∀ (S : xS) (v2 : Int32) (v3 : Int32), wp_X7_fold_97 a1 Q n S v2 v3 → Wx g (xW D (shM cy) ad S) 97 [(0, .ref (ad 0 0)), (1, .int a1), (2, .int v2), (3, .int v3)] [] := by
  induction n with
  | zero => intro S v2 v3 h; exact h.elim
  | succ n ih => intro S v2 v3 h; exact w_X7_fold_97_b V (fun S v2 v3 h => ih S v2 v3 h) S v2 v3 h
set_option maxHeartbeats 2000000 in
set_option maxRecDepth 20000 in
theorem w_X7_fold_76 {g : xG} {D : va_G} {cy : Nat → ClassId} {ad : Nat → Nat → Nat} {a1 : Int32} {K48 : xS → Int32 → Int32 → Prop} {Q : Int32 → xS → Prop} (V : xEnv g D (xTys cy) (shM cy) ad RX7 cX7_fold (some .int) 5 134 4 (xQi Q)) (hK48 : ∀ (S : xS) (v2 : Int32) (v3 : Int32), K48 S v2 v3 → Wx g (xW D (shM cy) ad S) 48 [(0, .ref (ad 0 0)), (1, .int a1), (2, .int v2), (3, .int v3)] []) (S : xS) (v2 : Int32) (v3 : Int32) (h : wp_X7_fold_76 a1 K48 Q S v2 v3) : Wx g (xW D (shM cy) ad S) 76 [(0, .ref (ad 0 0)), (1, .int a1), (2, .int v2), (3, .int v3)] [] := by
  obtain ⟨X, K, hi, hA, hR, E, hN⟩ := V
  have V := xEnv_mk X K hi hA hR E hN
  unfold wp_X7_fold_76 at h
  refine x_iinc X 3 [(3, .int (v3 + (1 : Int32))), (0, .ref (ad 0 0)), (1, .int a1), (2, .int v2)] dX7_fold_76 rfl rfl (by rw [hN]; decide) rfl ?_
  refine x_goto X 48 dX7_fold_79 (by decide) ?_
  refine x_sub [1, 2, 3, 0] rfl ?_
  exact hK48 S v2 (v3 + (1 : Int32)) h
set_option maxHeartbeats 2000000 in
set_option maxRecDepth 20000 in
theorem w_X7_fold_48_b {g : xG} {D : va_G} {cy : Nat → ClassId} {ad : Nat → Nat → Nat} {a1 : Int32} {K48 : xS → Int32 → Int32 → Prop} {Q : Int32 → xS → Prop} (V : xEnv g D (xTys cy) (shM cy) ad RX7 cX7_fold (some .int) 5 134 4 (xQi Q)) (hK48 : ∀ (S : xS) (v2 : Int32) (v3 : Int32), K48 S v2 v3 → Wx g (xW D (shM cy) ad S) 48 [(0, .ref (ad 0 0)), (1, .int a1), (2, .int v2), (3, .int v3)] []) (S : xS) (v2 : Int32) (v3 : Int32) (h : wp_X7_fold_48_b a1 K48 Q S v2 v3) : Wx g (xW D (shM cy) ad S) 48 [(0, .ref (ad 0 0)), (1, .int a1), (2, .int v2), (3, .int v3)] [] := by
  obtain ⟨X, K, hi, hA, hR, E, hN⟩ := V
  have V := xEnv_mk X K hi hA hR E hN
  unfold wp_X7_fold_48_b at h
  refine x_iload_n X 3 dX7_fold_48 rfl ?_
  refine x_aload_n X 0 dX7_fold_49 rfl ?_
  refine x_iload_n X 1 dX7_fold_50 rfl ?_
  refine x_iconst X (v := 3) dX7_fold_51 (by decide) ?_
  refine x_calli hA (x_runV (n := 2) (sh := shM cy) X K hR (fun _ q => q) (m_X7_of hi  h) (kM_0 cy (Nat.zero_lt_one)) rfl rfl t4_208 t4_210 tp_31 t1_8 t4_211 ⟨by decide, by decide, by decide +kernel⟩ rfl (by decide) (by decide) rfl (Nat.le_of_ble_eq_true rfl) dX7_fold_52) (fun r2 S1 h => ?_)
  refine x_icmp_ge X 82 dX7_fold_55 (by decide) h (fun h => ?_) (fun h => ?_)
  · refine x_iload_n X 2 dX7_fold_82 rfl ?_
    refine x_if_ne X 88 dX7_fold_83 (by decide) h (fun h => ?_) (fun h => ?_)
    · refine x_iconst X (v := 0) dX7_fold_86 (by decide) ?_
      exact x_iret X E dX7_fold_87 ⟨_, rfl, h⟩
    · refine x_aload_n X 0 dX7_fold_88 rfl ?_
      refine x_iload_n X 1 dX7_fold_89 rfl ?_
      refine x_iconst X (v := 3) dX7_fold_90 (by decide) ?_
      refine x_calli hA (x_runV (n := 2) (sh := shM cy) X K hR (fun _ q => q) (m_X7_of hi  h) (kM_0 cy (Nat.zero_lt_one)) rfl rfl t4_208 t4_210 tp_31 t1_8 t4_211 ⟨by decide, by decide, by decide +kernel⟩ rfl (by decide) (by decide) rfl (Nat.le_of_ble_eq_true rfl) dX7_fold_91) (fun r4 S3 h => ?_)
      refine x_iconst X (v := 1) dX7_fold_94 (by decide) ?_
      refine x_isub X dX7_fold_95 ?_
      refine x_istore_n X [(3, .int (r4 - (1 : Int32))), (0, .ref (ad 0 0)), (1, .int a1), (2, .int v2)] dX7_fold_96 (by rw [hN]; decide) rfl ?_
      refine x_sub [1, 2, 3, 0] rfl ?_
      obtain ⟨n5, h⟩ := h
      exact w_X7_fold_97 V n5 S3 v2 (r4 - (1 : Int32)) h
  · refine x_aload_n X 0 dX7_fold_58 rfl ?_
    refine x_iload_n X 1 dX7_fold_59 rfl ?_
    refine x_iload_n X 3 dX7_fold_60 rfl ?_
    refine x_calli hA (x_runV (n := 2) (sh := shM cy) X K hR (fun _ q => q) (m_X7_isFolded hi  h) (kM_0 cy (Nat.zero_lt_one)) rfl rfl t5_196 t5_198 tp_61 t1_8 t5_199 ⟨by decide, by decide, by decide +kernel⟩ rfl (by decide) (by decide) rfl (Nat.le_of_ble_eq_true rfl) dX7_fold_61) (fun r7 S6 h => ?_)
    refine x_if_eq X 76 dX7_fold_64 (by decide) h (fun h => ?_) (fun h => ?_)
    · refine x_sub [0, 1, 2, 3] rfl ?_
      exact w_X7_fold_76 V hK48 S6 v2 v3 h
    · refine x_aload_n X 0 dX7_fold_67 rfl ?_
      refine x_iload_n X 1 dX7_fold_68 rfl ?_
      refine x_iload_n X 3 dX7_fold_69 rfl ?_
      refine x_callv hA (x_runV (n := 2) (sh := shM cy) X K hR (fun _ q => q) (m_X7_addMoves hi  h) (kM_0 cy (Nat.zero_lt_one)) rfl rfl t5_200 t5_202 tp_62 t1_8 t5_203 ⟨by decide, by decide, by decide +kernel⟩ rfl (by decide) (by decide) rfl (Nat.le_of_ble_eq_true rfl) dX7_fold_70) (fun S8 h => ?_)
      refine x_iinc X 2 [(2, .int (v2 + (1 : Int32))), (0, .ref (ad 0 0)), (1, .int a1), (3, .int v3)] dX7_fold_73 rfl rfl (by rw [hN]; decide) rfl ?_
      refine x_sub [1, 2, 0, 3] rfl ?_
      exact w_X7_fold_76 V hK48 S8 (v2 + (1 : Int32)) v3 h
set_option maxHeartbeats 2000000 in
set_option maxRecDepth 20000 in
theorem w_X7_fold_48 {g : xG} {D : va_G} {cy : Nat → ClassId} {ad : Nat → Nat → Nat} {a1 : Int32} {Q : Int32 → xS → Prop} (V : xEnv g D (xTys cy) (shM cy) ad RX7 cX7_fold (some .int) 5 134 4 (xQi Q)) (n : Nat) : ∀ (S : xS) (v2 : Int32) (v3 : Int32), wp_X7_fold_48 a1 Q n S v2 v3 → Wx g (xW D (shM cy) ad S) 48 [(0, .ref (ad 0 0)), (1, .int a1), (2, .int v2), (3, .int v3)] [] := by
  induction n with
  | zero => intro S v2 v3 h; exact h.elim
  | succ n ih => intro S v2 v3 h; exact w_X7_fold_48_b V (fun S v2 v3 h => ih S v2 v3 h) S v2 v3 h
set_option maxHeartbeats 2000000 in
set_option maxRecDepth 20000 in
theorem w_X7_fold_20_b {g : xG} {D : va_G} {cy : Nat → ClassId} {ad : Nat → Nat → Nat} {a1 : Int32} {K20 : xS → Int32 → Int32 → Prop} {Q : Int32 → xS → Prop} (V : xEnv g D (xTys cy) (shM cy) ad RX7 cX7_fold (some .int) 5 134 4 (xQi Q)) (hK20 : ∀ (S : xS) (v2 : Int32) (v3 : Int32), K20 S v2 v3 → Wx g (xW D (shM cy) ad S) 20 [(0, .ref (ad 0 0)), (1, .int a1), (2, .int v2), (3, .int v3)] []) (S : xS) (v2 : Int32) (v3 : Int32) (h : wp_X7_fold_20_b a1 K20 Q S v2 v3) : Wx g (xW D (shM cy) ad S) 20 [(0, .ref (ad 0 0)), (1, .int a1), (2, .int v2), (3, .int v3)] [] := by
  obtain ⟨X, K, hi, hA, hR, E, hN⟩ := V
  have V := xEnv_mk X K hi hA hR E hN
  unfold wp_X7_fold_20_b at h
  refine x_iload_n X 3 dX7_fold_20 rfl ?_
  refine x_bipush X (v := 24) dX7_fold_21 (by decide) ?_
  refine x_icmp_gt X 46 dX7_fold_23 (by decide) h (fun h => ?_) (fun h => ?_)
  · refine x_iconst X (v := 0) dX7_fold_46 (by decide) ?_
    refine x_istore_n X [(3, .int (0 : Int32)), (0, .ref (ad 0 0)), (1, .int a1), (2, .int v2)] dX7_fold_47 (by rw [hN]; decide) rfl ?_
    refine x_sub [1, 2, 3, 0] rfl ?_
    obtain ⟨n1, h⟩ := h
    exact w_X7_fold_48 V n1 S v2 (0 : Int32) h
  · refine x_aload_n X 0 dX7_fold_26 rfl ?_
    refine xg_X7_87 X K (Nat.zero_lt_one) dX7_fold_27 ?_
    refine x_iload_n X 3 dX7_fold_30 rfl ?_
    refine x_lconst X (v := 0) dX7_fold_31 (by decide) ?_
    obtain ⟨hb2, h⟩ := h
    refine xs_M31 X K hi hA (show 0 < 1 by decide) hb2 dX7_fold_32 ?_
    refine x_aload_n X 0 dX7_fold_33 rfl ?_
    refine xg_X7_90 X K (Nat.zero_lt_one) dX7_fold_34 ?_
    refine x_iload_n X 3 dX7_fold_37 rfl ?_
    refine x_lconst X (v := 0) dX7_fold_38 (by decide) ?_
    obtain ⟨hb3, h⟩ := h
    refine xs_M32 X K hi hA (show 0 < 1 by decide) hb3 dX7_fold_39 ?_
    refine x_iinc X 3 [(3, .int (v3 + (1 : Int32))), (0, .ref (ad 0 0)), (1, .int a1), (2, .int v2)] dX7_fold_40 rfl rfl (by rw [hN]; decide) rfl ?_
    refine x_goto X 20 dX7_fold_43 (by decide) ?_
    refine x_sub [1, 2, 3, 0] rfl ?_
    exact hK20 (xJ (xJ S 31 0 v3.toNatClampNeg (0 : Int64)) 32 0 v3.toNatClampNeg (0 : Int64)) v2 (v3 + (1 : Int32)) h
set_option maxHeartbeats 2000000 in
set_option maxRecDepth 20000 in
theorem w_X7_fold_20 {g : xG} {D : va_G} {cy : Nat → ClassId} {ad : Nat → Nat → Nat} {a1 : Int32} {Q : Int32 → xS → Prop} (V : xEnv g D (xTys cy) (shM cy) ad RX7 cX7_fold (some .int) 5 134 4 (xQi Q)) (n : Nat) : ∀ (S : xS) (v2 : Int32) (v3 : Int32), wp_X7_fold_20 a1 Q n S v2 v3 → Wx g (xW D (shM cy) ad S) 20 [(0, .ref (ad 0 0)), (1, .int a1), (2, .int v2), (3, .int v3)] [] := by
  induction n with
  | zero => intro S v2 v3 h; exact h.elim
  | succ n ih => intro S v2 v3 h; exact w_X7_fold_20_b V (fun S v2 v3 h => ih S v2 v3 h) S v2 v3 h
set_option maxHeartbeats 2000000 in
set_option maxRecDepth 20000 in
theorem w_X7_fold {g : xG} {D : va_G} {cy : Nat → ClassId} {ad : Nat → Nat → Nat} {a1 : Int32} {S : xS} {Q : Int32 → xS → Prop} (V : xEnv g D (xTys cy) (shM cy) ad RX7 cX7_fold (some .int) 5 134 4 (xQi Q)) (h : wp_X7_fold a1 S Q) : Wx g (xW D (shM cy) ad S) 0 [(0, .ref (ad 0 0)), (1, .int a1)] [] := by
  obtain ⟨X, K, hi, hA, hR, E, hN⟩ := V
  have V := xEnv_mk X K hi hA hR E hN
  unfold wp_X7_fold at h
  refine x_aload_n X 0 dX7_fold_0 rfl ?_
  refine x_iload_n X 1 dX7_fold_1 rfl ?_
  refine x_calli hA (x_runV (n := 1) (sh := shM cy) X K hR (fun _ q => q) (m_X7_noGlyph hi  h) (kM_0 cy Nat.zero_lt_one) rfl rfl t4_199 t4_201 tp_30 t1_8 t4_202 ⟨by decide, by decide, by decide +kernel⟩ rfl (by decide) (by decide) rfl (Nat.le_of_ble_eq_true rfl) dX7_fold_2) (fun r2 S1 h => ?_)
  refine x_if_eq X 11 dX7_fold_5 (by decide) h (fun h => ?_) (fun h => ?_)
  · refine x_aload_n X 0 dX7_fold_11 rfl ?_
    refine x_iload_n X 1 dX7_fold_12 rfl ?_
    refine x_callv hA (x_runV (n := 1) (sh := shM cy) X K hR (fun _ q => q) (m_X7_keeps hi  h) (kM_0 cy Nat.zero_lt_one) rfl rfl t5_156 t5_158 tp_53 t1_8 t5_159 ⟨by decide, by decide, by decide +kernel⟩ rfl (by decide) (by decide) rfl (Nat.le_of_ble_eq_true rfl) dX7_fold_13) (fun S3 h => ?_)
    refine x_iconst X (v := 0) dX7_fold_16 (by decide) ?_
    refine x_istore_n X [(2, .int (0 : Int32)), (0, .ref (ad 0 0)), (1, .int a1)] dX7_fold_17 (by rw [hN]; decide) rfl ?_
    refine x_iconst X (v := 0) dX7_fold_18 (by decide) ?_
    refine x_istore_n X [(3, .int (0 : Int32)), (2, .int (0 : Int32)), (0, .ref (ad 0 0)), (1, .int a1)] dX7_fold_19 (by rw [hN]; decide) rfl ?_
    refine x_sub [2, 3, 1, 0] rfl ?_
    obtain ⟨n5, h⟩ := h
    exact w_X7_fold_20 V n5 S3 (0 : Int32) (0 : Int32) h
  · refine x_ldc X (v := -1000002) t4_203 dX7_fold_8 ?_
    exact x_iret X E dX7_fold_10 ⟨_, rfl, h⟩
set_option maxHeartbeats 2000000 in
set_option maxRecDepth 20000 in
theorem m_X7_fold {l : Launch} {D : va_G} {cy : Nat → ClassId} {ad : Nat → Nat → Nat} (hi : xInj (shM cy) ad) {a1 : Int32} {S : xS} {Q : Int32 → xS → Prop} (h : wp_X7_fold a1 S Q) : xMet l D (xTys cy) (shM cy) ad yX7_fold cX7_fold 4 (some .int) (xRm 5 134) [.ref (ad 0 0), .int a1] S (xQi Q) := xMet_env hi (by decide +kernel) rfl (Nat.le_of_ble_eq_true rfl) (fun g hl V => w_X7_fold V h)
set_option maxHeartbeats 2000000 in
set_option maxRecDepth 20000 in
theorem w_X7_isNothing_44 {g : xG} {D : va_G} {cy : Nat → ClassId} {ad : Nat → Nat → Nat} {Q : Int32 → xS → Prop} (V : xEnv g D (xTys cy) (shM cy) ad RX7 cX7_isNothing (some .boolean) 4 108 5 (xQi Q)) (S : xS) (h : wp_X7_isNothing_44 Q S) : Wx g (xW D (shM cy) ad S) 44 [] [] := by
  obtain ⟨X, K, hi, hA, hR, E, hN⟩ := V
  have V := xEnv_mk X K hi hA hR E hN
  unfold wp_X7_isNothing_44 at h
  refine x_iconst X (v := 0) dX7_isNothing_44 (by decide) ?_
  exact x_zret X E dX7_isNothing_45 h.1 ⟨_, rfl, h.2⟩
set_option maxHeartbeats 2000000 in
set_option maxRecDepth 20000 in
theorem w_X7_isNothing_2_b {g : xG} {D : va_G} {cy : Nat → ClassId} {ad : Nat → Nat → Nat} {a1 : Int32} {a2 : Int32} {K2 : xS → Int32 → Prop} {Q : Int32 → xS → Prop} (V : xEnv g D (xTys cy) (shM cy) ad RX7 cX7_isNothing (some .boolean) 4 108 5 (xQi Q)) (hK2 : ∀ (S : xS) (v3 : Int32), K2 S v3 → Wx g (xW D (shM cy) ad S) 2 [(0, .ref (ad 0 0)), (1, .int a1), (2, .int a2), (3, .int v3)] []) (S : xS) (v3 : Int32) (h : wp_X7_isNothing_2_b a1 a2 K2 Q S v3) : Wx g (xW D (shM cy) ad S) 2 [(0, .ref (ad 0 0)), (1, .int a1), (2, .int a2), (3, .int v3)] [] := by
  obtain ⟨X, K, hi, hA, hR, E, hN⟩ := V
  have V := xEnv_mk X K hi hA hR E hN
  unfold wp_X7_isNothing_2_b at h
  refine x_iload_n X 3 dX7_isNothing_2 rfl ?_
  refine x_aload_n X 0 dX7_isNothing_3 rfl ?_
  refine x_iload_n X 1 dX7_isNothing_4 rfl ?_
  refine x_iconst X (v := 2) dX7_isNothing_5 (by decide) ?_
  refine x_calli hA (x_runV (n := 2) (sh := shM cy) X K hR (fun _ q => q) (m_X7_of hi  h) (kM_0 cy (Nat.zero_lt_one)) rfl rfl t4_208 t4_210 tp_31 t1_8 t4_211 ⟨by decide, by decide, by decide +kernel⟩ rfl (by decide) (by decide) rfl (Nat.le_of_ble_eq_true rfl) dX7_isNothing_6) (fun r2 S1 h => ?_)
  refine x_icmp_gt X 52 dX7_isNothing_9 (by decide) h (fun h => ?_) (fun h => ?_)
  · refine x_iconst X (v := 1) dX7_isNothing_52 (by decide) ?_
    exact x_zret X E dX7_isNothing_53 h.1 ⟨_, rfl, h.2⟩
  · refine x_aload_n X 0 dX7_isNothing_12 rfl ?_
    refine x_iload_n X 1 dX7_isNothing_13 rfl ?_
    refine x_iload_n X 3 dX7_isNothing_14 rfl ?_
    refine x_calli hA (x_runV (n := 2) (sh := shM cy) X K hR (fun _ q => q) (m_X7_slotBy hi  h) (kM_0 cy (Nat.zero_lt_one)) rfl rfl t5_172 t5_174 tp_57 t1_8 t5_175 ⟨by decide, by decide, by decide +kernel⟩ rfl (by decide) (by decide) rfl (Nat.le_of_ble_eq_true rfl) dX7_isNothing_15) (fun r4 S3 h => ?_)
    refine x_istore X [(4, .int r4), (0, .ref (ad 0 0)), (1, .int a1), (2, .int a2), (3, .int v3)] dX7_isNothing_18 (by rw [hN]; decide) rfl ?_
    refine x_aload_n X 1 dX7_isNothing_20 rfl ?_
    refine x_iload_n X 2 dX7_isNothing_21 rfl ?_
    refine x_iload_n X 3 dX7_isNothing_22 rfl ?_
    refine x_iload X 0 dX7_isNothing_23 rfl ?_
    refine x_iconst X (v := 0) dX7_isNothing_25 (by decide) ?_
    refine x_calli hA (x_runV (n := 4) (sh := shM cy) X K hR (fun _ q => q) (m_X7_deltaOf hi  h) (kM_0 cy (Nat.zero_lt_one)) rfl rfl t5_47 t5_49 tp_41 t1_8 t5_50 ⟨by decide, by decide, by decide +kernel⟩ rfl (by decide) (by decide) rfl (Nat.le_of_ble_eq_true rfl) dX7_isNothing_26) (fun r6 S5 h => ?_)
    refine x_if_ne X 44 dX7_isNothing_29 (by decide) h (fun h => ?_) (fun h => ?_)
    · refine x_aload_n X 1 dX7_isNothing_32 rfl ?_
      refine x_iload_n X 2 dX7_isNothing_33 rfl ?_
      refine x_iload_n X 3 dX7_isNothing_34 rfl ?_
      refine x_iload X 0 dX7_isNothing_35 rfl ?_
      refine x_iconst X (v := 1) dX7_isNothing_37 (by decide) ?_
      refine x_calli hA (x_runV (n := 4) (sh := shM cy) X K hR (fun _ q => q) (m_X7_deltaOf hi  h) (kM_0 cy (Nat.zero_lt_one)) rfl rfl t5_47 t5_49 tp_41 t1_8 t5_50 ⟨by decide, by decide, by decide +kernel⟩ rfl (by decide) (by decide) rfl (Nat.le_of_ble_eq_true rfl) dX7_isNothing_38) (fun r8 S7 h => ?_)
      refine x_if_eq X 46 dX7_isNothing_41 (by decide) h (fun h => ?_) (fun h => ?_)
      · refine x_iinc X 4 [(3, .int (v3 + (1 : Int32))), (4, .int r4), (0, .ref (ad 0 0)), (1, .int a1), (2, .int a2)] dX7_isNothing_46 rfl rfl (by rw [hN]; decide) rfl ?_
        refine x_goto X 2 dX7_isNothing_49 (by decide) ?_
        refine x_sub [2, 3, 4, 0] rfl ?_
        exact hK2 S7 (v3 + (1 : Int32)) h
      · refine x_sub [] rfl ?_
        exact w_X7_isNothing_44 V S7 h
    · refine x_sub [] rfl ?_
      exact w_X7_isNothing_44 V S5 h
set_option maxHeartbeats 2000000 in
set_option maxRecDepth 20000 in
theorem w_X7_isNothing_2 {g : xG} {D : va_G} {cy : Nat → ClassId} {ad : Nat → Nat → Nat} {a1 : Int32} {a2 : Int32} {Q : Int32 → xS → Prop} (V : xEnv g D (xTys cy) (shM cy) ad RX7 cX7_isNothing (some .boolean) 4 108 5 (xQi Q)) (n : Nat) : ∀ (S : xS) (v3 : Int32), wp_X7_isNothing_2 a1 a2 Q n S v3 → Wx g (xW D (shM cy) ad S) 2 [(0, .ref (ad 0 0)), (1, .int a1), (2, .int a2), (3, .int v3)] [] := by
  induction n with
  | zero => intro S v3 h; exact h.elim
  | succ n ih => intro S v3 h; exact w_X7_isNothing_2_b V (fun S v3 h => ih S v3 h) S v3 h
set_option maxHeartbeats 2000000 in
set_option maxRecDepth 20000 in
theorem w_X7_isNothing {g : xG} {D : va_G} {cy : Nat → ClassId} {ad : Nat → Nat → Nat} {a1 : Int32} {a2 : Int32} {S : xS} {Q : Int32 → xS → Prop} (V : xEnv g D (xTys cy) (shM cy) ad RX7 cX7_isNothing (some .boolean) 4 108 5 (xQi Q)) (h : wp_X7_isNothing a1 a2 S Q) : Wx g (xW D (shM cy) ad S) 0 [(0, .ref (ad 0 0)), (1, .int a1), (2, .int a2)] [] := by
  obtain ⟨X, K, hi, hA, hR, E, hN⟩ := V
  have V := xEnv_mk X K hi hA hR E hN
  unfold wp_X7_isNothing at h
  refine x_iconst X (v := 0) dX7_isNothing_0 (by decide) ?_
  refine x_istore_n X [(3, .int (0 : Int32)), (0, .ref (ad 0 0)), (1, .int a1), (2, .int a2)] dX7_isNothing_1 (by rw [hN]; decide) rfl ?_
  refine x_sub [1, 2, 3, 0] rfl ?_
  obtain ⟨n1, h⟩ := h
  exact w_X7_isNothing_2 V n1 S (0 : Int32) h
set_option maxHeartbeats 2000000 in
set_option maxRecDepth 20000 in
theorem m_X7_isNothing {l : Launch} {D : va_G} {cy : Nat → ClassId} {ad : Nat → Nat → Nat} (hi : xInj (shM cy) ad) {a1 : Int32} {a2 : Int32} {S : xS} {Q : Int32 → xS → Prop} (h : wp_X7_isNothing a1 a2 S Q) : xMet l D (xTys cy) (shM cy) ad yX7_isNothing cX7_isNothing 5 (some .boolean) (xRm 4 108) [.ref (ad 0 0), .int a1, .int a2] S (xQi Q) := xMet_env hi (by decide +kernel) rfl (Nat.le_of_ble_eq_true rfl) (fun g hl V => w_X7_isNothing V h)
set_option maxHeartbeats 2000000 in
set_option maxRecDepth 20000 in
theorem w_X7_prune_49 {g : xG} {D : va_G} {cy : Nat → ClassId} {ad : Nat → Nat → Nat} {a1 : Int32} {K27 : xS → Int32 → Int32 → Prop} {Q : Int32 → xS → Prop} (V : xEnv g D (xTys cy) (shM cy) ad RX7 cX7_prune (some .int) 5 132 4 (xQi Q)) (hK27 : ∀ (S : xS) (v2 : Int32) (v3 : Int32), K27 S v2 v3 → Wx g (xW D (shM cy) ad S) 27 [(0, .ref (ad 0 0)), (1, .int a1), (2, .int v2), (3, .int v3)] []) (S : xS) (v2 : Int32) (v3 : Int32) (h : wp_X7_prune_49 a1 K27 Q S v2 v3) : Wx g (xW D (shM cy) ad S) 49 [(0, .ref (ad 0 0)), (1, .int a1), (2, .int v2), (3, .int v3)] [] := by
  obtain ⟨X, K, hi, hA, hR, E, hN⟩ := V
  have V := xEnv_mk X K hi hA hR E hN
  unfold wp_X7_prune_49 at h
  refine x_iinc X 3 [(3, .int (v3 + (-1 : Int32))), (0, .ref (ad 0 0)), (1, .int a1), (2, .int v2)] dX7_prune_49 rfl rfl (by rw [hN]; decide) rfl ?_
  refine x_goto X 27 dX7_prune_52 (by decide) ?_
  refine x_sub [1, 2, 3, 0] rfl ?_
  exact hK27 S v2 (v3 + (-1 : Int32)) h
set_option maxHeartbeats 2000000 in
set_option maxRecDepth 20000 in
theorem w_X7_prune_27_b {g : xG} {D : va_G} {cy : Nat → ClassId} {ad : Nat → Nat → Nat} {a1 : Int32} {K27 : xS → Int32 → Int32 → Prop} {Q : Int32 → xS → Prop} (V : xEnv g D (xTys cy) (shM cy) ad RX7 cX7_prune (some .int) 5 132 4 (xQi Q)) (hK27 : ∀ (S : xS) (v2 : Int32) (v3 : Int32), K27 S v2 v3 → Wx g (xW D (shM cy) ad S) 27 [(0, .ref (ad 0 0)), (1, .int a1), (2, .int v2), (3, .int v3)] []) (S : xS) (v2 : Int32) (v3 : Int32) (h : wp_X7_prune_27_b a1 K27 Q S v2 v3) : Wx g (xW D (shM cy) ad S) 27 [(0, .ref (ad 0 0)), (1, .int a1), (2, .int v2), (3, .int v3)] [] := by
  obtain ⟨X, K, hi, hA, hR, E, hN⟩ := V
  have V := xEnv_mk X K hi hA hR E hN
  unfold wp_X7_prune_27_b at h
  refine x_iload_n X 3 dX7_prune_27 rfl ?_
  refine x_if_lt X 55 dX7_prune_28 (by decide) h (fun h => ?_) (fun h => ?_)
  · refine x_iload_n X 2 dX7_prune_55 rfl ?_
    exact x_iret X E dX7_prune_56 ⟨_, rfl, h⟩
  · refine x_aload_n X 0 dX7_prune_31 rfl ?_
    refine x_iload_n X 1 dX7_prune_32 rfl ?_
    refine x_iload_n X 3 dX7_prune_33 rfl ?_
    refine x_calli hA (x_runV (n := 2) (sh := shM cy) X K hR (fun _ q => q) (m_X7_isNothing hi  h) (kM_0 cy (Nat.zero_lt_one)) rfl rfl t5_212 t5_214 tp_64 t1_8 t5_215 ⟨by decide, by decide, by decide +kernel⟩ rfl (by decide) (by decide) rfl (Nat.le_of_ble_eq_true rfl) dX7_prune_34) (fun r2 S1 h => ?_)
    refine x_if_eq X 49 dX7_prune_37 (by decide) h (fun h => ?_) (fun h => ?_)
    · refine x_sub [0, 1, 2, 3] rfl ?_
      exact w_X7_prune_49 V hK27 S1 v2 v3 h
    · refine x_aload_n X 0 dX7_prune_40 rfl ?_
      refine x_iload_n X 1 dX7_prune_41 rfl ?_
      refine x_iload_n X 3 dX7_prune_42 rfl ?_
      refine x_callv hA (x_runV (n := 2) (sh := shM cy) X K hR (fun _ q => q) (m_X7_removeTuple hi  h) (kM_0 cy (Nat.zero_lt_one)) rfl rfl t5_180 t5_182 tp_59 t1_8 t5_183 ⟨by decide, by decide, by decide +kernel⟩ rfl (by decide) (by decide) rfl (Nat.le_of_ble_eq_true rfl) dX7_prune_43) (fun S3 h => ?_)
      refine x_iinc X 2 [(2, .int (v2 + (1 : Int32))), (0, .ref (ad 0 0)), (1, .int a1), (3, .int v3)] dX7_prune_46 rfl rfl (by rw [hN]; decide) rfl ?_
      refine x_sub [1, 2, 0, 3] rfl ?_
      exact w_X7_prune_49 V hK27 S3 (v2 + (1 : Int32)) v3 h
set_option maxHeartbeats 2000000 in
set_option maxRecDepth 20000 in
theorem w_X7_prune_27 {g : xG} {D : va_G} {cy : Nat → ClassId} {ad : Nat → Nat → Nat} {a1 : Int32} {Q : Int32 → xS → Prop} (V : xEnv g D (xTys cy) (shM cy) ad RX7 cX7_prune (some .int) 5 132 4 (xQi Q)) (n : Nat) : ∀ (S : xS) (v2 : Int32) (v3 : Int32), wp_X7_prune_27 a1 Q n S v2 v3 → Wx g (xW D (shM cy) ad S) 27 [(0, .ref (ad 0 0)), (1, .int a1), (2, .int v2), (3, .int v3)] [] := by
  induction n with
  | zero => intro S v2 v3 h; exact h.elim
  | succ n ih => intro S v2 v3 h; exact w_X7_prune_27_b V (fun S v2 v3 h => ih S v2 v3 h) S v2 v3 h
set_option maxHeartbeats 2000000 in
set_option maxRecDepth 20000 in
theorem w_X7_prune {g : xG} {D : va_G} {cy : Nat → ClassId} {ad : Nat → Nat → Nat} {a1 : Int32} {S : xS} {Q : Int32 → xS → Prop} (V : xEnv g D (xTys cy) (shM cy) ad RX7 cX7_prune (some .int) 5 132 4 (xQi Q)) (h : wp_X7_prune a1 S Q) : Wx g (xW D (shM cy) ad S) 0 [(0, .ref (ad 0 0)), (1, .int a1)] [] := by
  obtain ⟨X, K, hi, hA, hR, E, hN⟩ := V
  have V := xEnv_mk X K hi hA hR E hN
  unfold wp_X7_prune at h
  refine x_aload_n X 0 dX7_prune_0 rfl ?_
  refine x_iload_n X 1 dX7_prune_1 rfl ?_
  refine x_calli hA (x_runV (n := 1) (sh := shM cy) X K hR (fun _ q => q) (m_X7_noGlyph hi  h) (kM_0 cy Nat.zero_lt_one) rfl rfl t4_199 t4_201 tp_30 t1_8 t4_202 ⟨by decide, by decide, by decide +kernel⟩ rfl (by decide) (by decide) rfl (Nat.le_of_ble_eq_true rfl) dX7_prune_2) (fun r2 S1 h => ?_)
  refine x_if_eq X 11 dX7_prune_5 (by decide) h (fun h => ?_) (fun h => ?_)
  · refine x_aload_n X 0 dX7_prune_11 rfl ?_
    refine x_iload_n X 1 dX7_prune_12 rfl ?_
    refine x_callv hA (x_runV (n := 1) (sh := shM cy) X K hR (fun _ q => q) (m_X7_keeps hi  h) (kM_0 cy Nat.zero_lt_one) rfl rfl t5_156 t5_158 tp_53 t1_8 t5_159 ⟨by decide, by decide, by decide +kernel⟩ rfl (by decide) (by decide) rfl (Nat.le_of_ble_eq_true rfl) dX7_prune_13) (fun S3 h => ?_)
    refine x_iconst X (v := 0) dX7_prune_16 (by decide) ?_
    refine x_istore_n X [(2, .int (0 : Int32)), (0, .ref (ad 0 0)), (1, .int a1)] dX7_prune_17 (by rw [hN]; decide) rfl ?_
    refine x_aload_n X 1 dX7_prune_18 rfl ?_
    refine x_iload_n X 2 dX7_prune_19 rfl ?_
    refine x_iconst X (v := 3) dX7_prune_20 (by decide) ?_
    refine x_calli hA (x_runV (n := 2) (sh := shM cy) X K hR (fun _ q => q) (m_X7_of hi  h) (kM_0 cy Nat.zero_lt_one) rfl rfl t4_208 t4_210 tp_31 t1_8 t4_211 ⟨by decide, by decide, by decide +kernel⟩ rfl (by decide) (by decide) rfl (Nat.le_of_ble_eq_true rfl) dX7_prune_21) (fun r6 S5 h => ?_)
    refine x_iconst X (v := 1) dX7_prune_24 (by decide) ?_
    refine x_isub X dX7_prune_25 ?_
    refine x_istore_n X [(3, .int (r6 - (1 : Int32))), (2, .int (0 : Int32)), (0, .ref (ad 0 0)), (1, .int a1)] dX7_prune_26 (by rw [hN]; decide) rfl ?_
    refine x_sub [2, 3, 1, 0] rfl ?_
    obtain ⟨n7, h⟩ := h
    exact w_X7_prune_27 V n7 S5 (0 : Int32) (r6 - (1 : Int32)) h
  · refine x_ldc X (v := -1000002) t4_203 dX7_prune_8 ?_
    exact x_iret X E dX7_prune_10 ⟨_, rfl, h⟩
set_option maxHeartbeats 2000000 in
set_option maxRecDepth 20000 in
theorem m_X7_prune {l : Launch} {D : va_G} {cy : Nat → ClassId} {ad : Nat → Nat → Nat} (hi : xInj (shM cy) ad) {a1 : Int32} {S : xS} {Q : Int32 → xS → Prop} (h : wp_X7_prune a1 S Q) : xMet l D (xTys cy) (shM cy) ad yX7_prune cX7_prune 4 (some .int) (xRm 5 132) [.ref (ad 0 0), .int a1] S (xQi Q) := xMet_env hi (by decide +kernel) rfl (Nat.le_of_ble_eq_true rfl) (fun g hl V => w_X7_prune V h)
set_option maxHeartbeats 2000000 in
set_option maxRecDepth 20000 in
theorem w_X7_addInstance_49 {g : xG} {D : va_G} {cy : Nat → ClassId} {ad : Nat → Nat → Nat} {K14 : xS → Int32 → Prop} {Q : Int32 → xS → Prop} (V : xEnv g D (xTys cy) (shM cy) ad RX7 cX7_addInstance (some .int) 0 0 2 (xQi Q)) (hK14 : ∀ (S : xS) (v1 : Int32), K14 S v1 → Wx g (xW D (shM cy) ad S) 14 [(0, .ref (ad 0 0)), (1, .int v1)] []) (S : xS) (v1 : Int32) (s1 : Int32) (s2 : Int32) (h : wp_X7_addInstance_49 K14 Q S v1 s1 s2) : Wx g (xW D (shM cy) ad S) 49 [(0, .ref (ad 0 0)), (1, .int v1)] [.int s2, .int s1, .ref (ad 34 0)] := by
  obtain ⟨X, K, hi, hA, hR, E, hN⟩ := V
  have V := xEnv_mk X K hi hA hR E hN
  unfold wp_X7_addInstance_49 at h
  obtain ⟨hb1, h⟩ := h
  refine xs_M34 X K hi hA (Nat.zero_lt_one) hb1 dX7_addInstance_49 ?_
  refine x_iinc X 1 [(1, .int (v1 + (1 : Int32))), (0, .ref (ad 0 0))] dX7_addInstance_50 rfl rfl (by rw [hN]; decide) rfl ?_
  refine x_goto X 14 dX7_addInstance_53 (by decide) ?_
  refine x_sub [1, 0] rfl ?_
  exact hK14 (xI S 34 0 s1.toNatClampNeg s2) (v1 + (1 : Int32)) h
set_option maxHeartbeats 2000000 in
set_option maxRecDepth 20000 in
theorem w_X7_addInstance_14_b {g : xG} {D : va_G} {cy : Nat → ClassId} {ad : Nat → Nat → Nat} {K14 : xS → Int32 → Prop} {Q : Int32 → xS → Prop} (V : xEnv g D (xTys cy) (shM cy) ad RX7 cX7_addInstance (some .int) 0 0 2 (xQi Q)) (hK14 : ∀ (S : xS) (v1 : Int32), K14 S v1 → Wx g (xW D (shM cy) ad S) 14 [(0, .ref (ad 0 0)), (1, .int v1)] []) (S : xS) (v1 : Int32) (h : wp_X7_addInstance_14_b K14 Q S v1) : Wx g (xW D (shM cy) ad S) 14 [(0, .ref (ad 0 0)), (1, .int v1)] [] := by
  obtain ⟨X, K, hi, hA, hR, E, hN⟩ := V
  have V := xEnv_mk X K hi hA hR E hN
  unfold wp_X7_addInstance_14_b at h
  refine x_iload_n X 1 dX7_addInstance_14 rfl ?_
  refine x_iconst X (v := 4) dX7_addInstance_15 (by decide) ?_
  refine x_icmp_ge X 56 dX7_addInstance_16 (by decide) h (fun h => ?_) (fun h => ?_)
  · refine x_aload_n X 0 dX7_addInstance_56 rfl ?_
    refine x_dup X dX7_addInstance_57 rfl ?_
    refine xg_X7_322 X K (Nat.zero_lt_one) dX7_addInstance_58 ?_
    refine x_iconst X (v := 1) dX7_addInstance_61 (by decide) ?_
    refine x_iadd X dX7_addInstance_62 ?_
    refine xp_X7_322 X K hi hA (Nat.zero_lt_one) dX7_addInstance_63 ?_
    refine x_aload_n X 0 dX7_addInstance_66 rfl ?_
    refine xg_X7_322 X K (Nat.zero_lt_one) dX7_addInstance_67 ?_
    refine x_iconst X (v := 1) dX7_addInstance_70 (by decide) ?_
    refine x_isub X dX7_addInstance_71 ?_
    exact x_iret X E dX7_addInstance_72 ⟨_, rfl, h⟩
  · refine x_aload_n X 0 dX7_addInstance_19 rfl ?_
    refine xg_X7_93 X K (Nat.zero_lt_one) dX7_addInstance_20 ?_
    refine x_iconst X (v := 4) dX7_addInstance_23 (by decide) ?_
    refine x_aload_n X 0 dX7_addInstance_24 rfl ?_
    refine xg_X7_322 X K (Nat.zero_lt_one) dX7_addInstance_25 ?_
    refine x_imul X dX7_addInstance_28 ?_
    refine x_iload_n X 1 dX7_addInstance_29 rfl ?_
    refine x_iadd X dX7_addInstance_30 ?_
    refine x_iload_n X 1 dX7_addInstance_31 rfl ?_
    refine x_aload_n X 0 dX7_addInstance_32 rfl ?_
    refine xg_X7_107 X K (Nat.zero_lt_one) dX7_addInstance_33 ?_
    refine x_icmp_ge X 48 dX7_addInstance_36 (by decide) h (fun h => ?_) (fun h => ?_)
    · refine x_iconst X (v := 0) dX7_addInstance_48 (by decide) ?_
      refine x_sub [0, 1] rfl ?_
      exact w_X7_addInstance_49 V hK14 S v1 (((4 : Int32) * (S.1 0 0 32)) + v1) (0 : Int32) h
    · refine x_aload_n X 0 dX7_addInstance_39 rfl ?_
      refine xg_X7_19 X K (Nat.zero_lt_one) dX7_addInstance_40 ?_
      refine x_iload_n X 1 dX7_addInstance_43 rfl ?_
      obtain ⟨hb1, h⟩ := h
      refine xa_M5 X K (show 0 < 1 by decide) hb1 dX7_addInstance_44 ?_
      refine x_goto X 49 dX7_addInstance_45 (by decide) ?_
      refine x_sub [0, 1] rfl ?_
      exact w_X7_addInstance_49 V hK14 S v1 (((4 : Int32) * (S.1 0 0 32)) + v1) (S.1 5 0 v1.toNatClampNeg) h
set_option maxHeartbeats 2000000 in
set_option maxRecDepth 20000 in
theorem w_X7_addInstance_14 {g : xG} {D : va_G} {cy : Nat → ClassId} {ad : Nat → Nat → Nat} {Q : Int32 → xS → Prop} (V : xEnv g D (xTys cy) (shM cy) ad RX7 cX7_addInstance (some .int) 0 0 2 (xQi Q)) (n : Nat) : ∀ (S : xS) (v1 : Int32), wp_X7_addInstance_14 Q n S v1 → Wx g (xW D (shM cy) ad S) 14 [(0, .ref (ad 0 0)), (1, .int v1)] [] := by
  induction n with
  | zero => intro S v1 h; exact h.elim
  | succ n ih => intro S v1 h; exact w_X7_addInstance_14_b V (fun S v1 h => ih S v1 h) S v1 h
set_option maxHeartbeats 2000000 in
set_option maxRecDepth 20000 in
theorem w_X7_addInstance {g : xG} {D : va_G} {cy : Nat → ClassId} {ad : Nat → Nat → Nat} {S : xS} {Q : Int32 → xS → Prop} (V : xEnv g D (xTys cy) (shM cy) ad RX7 cX7_addInstance (some .int) 0 0 2 (xQi Q)) (h : wp_X7_addInstance S Q) : Wx g (xW D (shM cy) ad S) 0 [(0, .ref (ad 0 0))] [] := by
  obtain ⟨X, K, hi, hA, hR, E, hN⟩ := V
  have V := xEnv_mk X K hi hA hR E hN
  unfold wp_X7_addInstance at h
  refine x_aload_n X 0 dX7_addInstance_0 rfl ?_
  refine xg_X7_322 X K Nat.zero_lt_one dX7_addInstance_1 ?_
  refine x_bipush X (v := 6) dX7_addInstance_4 (by decide) ?_
  refine x_icmp_ne X 12 dX7_addInstance_6 (by decide) h (fun h => ?_) (fun h => ?_)
  · refine x_ldc X (v := -1000006) t4_139 dX7_addInstance_9 ?_
    exact x_iret X E dX7_addInstance_11 ⟨_, rfl, h⟩
  · refine x_iconst X (v := 0) dX7_addInstance_12 (by decide) ?_
    refine x_istore_n X [(1, .int (0 : Int32)), (0, .ref (ad 0 0))] dX7_addInstance_13 (by rw [hN]; decide) rfl ?_
    refine x_sub [1, 0] rfl ?_
    obtain ⟨n1, h⟩ := h
    exact w_X7_addInstance_14 V n1 S (0 : Int32) h
set_option maxHeartbeats 2000000 in
set_option maxRecDepth 20000 in
theorem m_X7_addInstance {l : Launch} {D : va_G} {cy : Nat → ClassId} {ad : Nat → Nat → Nat} (hi : xInj (shM cy) ad) {S : xS} {Q : Int32 → xS → Prop} (h : wp_X7_addInstance S Q) : xMet l D (xTys cy) (shM cy) ad yX7_addInstance cX7_addInstance 2 (some .int) (xRm 0 0) [.ref (ad 0 0)] S (xQi Q) := xMet_env hi (by decide +kernel) rfl (Nat.le_of_ble_eq_true rfl) (fun g hl V => w_X7_addInstance V h)
set_option maxHeartbeats 2000000 in
set_option maxRecDepth 20000 in
theorem w_X7_applyInstance_74 {g : xG} {D : va_G} {cy : Nat → ClassId} {ad : Nat → Nat → Nat} {a1 : Int32} {K23 : xS → Int32 → Int32 → Prop} {Q : Int32 → xS → Prop} (V : xEnv g D (xTys cy) (shM cy) ad RX7 cX7_applyInstance (some .int) 1 25 5 (xQi Q)) (hK23 : ∀ (S : xS) (v2 : Int32) (v3 : Int32), K23 S v2 v3 → Wx g (xW D (shM cy) ad S) 23 [(0, .ref (ad 0 0)), (1, .int a1), (2, .int v2), (3, .int v3)] []) (S : xS) (v2 : Int32) (v3 : Int32) (h : wp_X7_applyInstance_74 a1 K23 Q S v2 v3) : Wx g (xW D (shM cy) ad S) 74 [(0, .ref (ad 0 0)), (1, .int a1), (2, .int v2), (3, .int v3)] [] := by
  obtain ⟨X, K, hi, hA, hR, E, hN⟩ := V
  have V := xEnv_mk X K hi hA hR E hN
  unfold wp_X7_applyInstance_74 at h
  refine x_iinc X 3 [(3, .int (v3 + (1 : Int32))), (0, .ref (ad 0 0)), (1, .int a1), (2, .int v2)] dX7_applyInstance_74 rfl rfl (by rw [hN]; decide) rfl ?_
  refine x_goto X 23 dX7_applyInstance_77 (by decide) ?_
  refine x_sub [1, 2, 3, 0] rfl ?_
  exact hK23 S v2 (v3 + (1 : Int32)) h
set_option maxHeartbeats 2000000 in
set_option maxRecDepth 20000 in
theorem w_X7_applyInstance_23_b {g : xG} {D : va_G} {cy : Nat → ClassId} {ad : Nat → Nat → Nat} {a1 : Int32} {K23 : xS → Int32 → Int32 → Prop} {Q : Int32 → xS → Prop} (V : xEnv g D (xTys cy) (shM cy) ad RX7 cX7_applyInstance (some .int) 1 25 5 (xQi Q)) (hK23 : ∀ (S : xS) (v2 : Int32) (v3 : Int32), K23 S v2 v3 → Wx g (xW D (shM cy) ad S) 23 [(0, .ref (ad 0 0)), (1, .int a1), (2, .int v2), (3, .int v3)] []) (S : xS) (v2 : Int32) (v3 : Int32) (h : wp_X7_applyInstance_23_b a1 K23 Q S v2 v3) : Wx g (xW D (shM cy) ad S) 23 [(0, .ref (ad 0 0)), (1, .int a1), (2, .int v2), (3, .int v3)] [] := by
  obtain ⟨X, K, hi, hA, hR, E, hN⟩ := V
  have V := xEnv_mk X K hi hA hR E hN
  unfold wp_X7_applyInstance_23_b at h
  refine x_iload_n X 3 dX7_applyInstance_23 rfl ?_
  refine x_aload_n X 0 dX7_applyInstance_24 rfl ?_
  refine xg_X7_107 X K (Nat.zero_lt_one) dX7_applyInstance_25 ?_
  refine x_icmp_ge X 80 dX7_applyInstance_28 (by decide) h (fun h => ?_) (fun h => ?_)
  · refine x_iload_n X 2 dX7_applyInstance_80 rfl ?_
    exact x_iret X E dX7_applyInstance_81 ⟨_, rfl, h⟩
  · refine x_aload_n X 0 dX7_applyInstance_31 rfl ?_
    refine xg_X7_93 X K (Nat.zero_lt_one) dX7_applyInstance_32 ?_
    refine x_iconst X (v := 4) dX7_applyInstance_35 (by decide) ?_
    refine x_iload_n X 1 dX7_applyInstance_36 rfl ?_
    refine x_imul X dX7_applyInstance_37 ?_
    refine x_iload_n X 3 dX7_applyInstance_38 rfl ?_
    refine x_iadd X dX7_applyInstance_39 ?_
    obtain ⟨hb1, h⟩ := h
    refine xa_M34 X K (show 0 < 1 by decide) hb1 dX7_applyInstance_40 ?_
    refine x_istore X [(4, .int (S.1 34 0 (((4 : Int32) * a1) + v3).toNatClampNeg)), (0, .ref (ad 0 0)), (1, .int a1), (2, .int v2), (3, .int v3)] dX7_applyInstance_41 (by rw [hN]; decide) rfl ?_
    refine x_aload_n X 1 dX7_applyInstance_43 rfl ?_
    refine xg_X7_22 X K (Nat.zero_lt_one) dX7_applyInstance_44 ?_
    refine x_iload_n X 4 dX7_applyInstance_47 rfl ?_
    obtain ⟨hb2, h⟩ := h
    refine xa_M6 X K (show 0 < 1 by decide) hb2 dX7_applyInstance_48 ?_
    refine x_if_ne X 74 dX7_applyInstance_49 (by decide) h (fun h => ?_) (fun h => ?_)
    · refine x_aload_n X 1 dX7_applyInstance_52 rfl ?_
      refine xg_X7_19 X K (Nat.zero_lt_one) dX7_applyInstance_53 ?_
      refine x_iload_n X 4 dX7_applyInstance_56 rfl ?_
      obtain ⟨hb3, h⟩ := h
      refine xa_M5 X K (show 0 < 1 by decide) hb3 dX7_applyInstance_57 ?_
      refine x_iload X 0 dX7_applyInstance_58 rfl ?_
      refine x_icmp_eq X 74 dX7_applyInstance_60 (by decide) h (fun h => ?_) (fun h => ?_)
      · refine x_sub [1, 2, 3, 4] rfl ?_
        exact w_X7_applyInstance_74 V hK23 S v2 v3 h
      · refine x_aload_n X 1 dX7_applyInstance_63 rfl ?_
        refine xg_X7_19 X K (Nat.zero_lt_one) dX7_applyInstance_64 ?_
        refine x_iload_n X 4 dX7_applyInstance_67 rfl ?_
        refine x_iload X 0 dX7_applyInstance_68 rfl ?_
        obtain ⟨hb4, h⟩ := h
        refine xs_M5 X K hi hA (show 0 < 1 by decide) hb4 dX7_applyInstance_70 ?_
        refine x_iinc X 3 [(2, .int (v2 + (1 : Int32))), (4, .int (S.1 34 0 (((4 : Int32) * a1) + v3).toNatClampNeg)), (0, .ref (ad 0 0)), (1, .int a1), (3, .int v3)] dX7_applyInstance_71 rfl rfl (by rw [hN]; decide) rfl ?_
        refine x_sub [2, 3, 0, 4] rfl ?_
        exact w_X7_applyInstance_74 V hK23 (xI S 5 0 v3.toNatClampNeg (S.1 34 0 (((4 : Int32) * a1) + v3).toNatClampNeg)) (v2 + (1 : Int32)) v3 h
    · refine x_sub [1, 2, 3, 4] rfl ?_
      exact w_X7_applyInstance_74 V hK23 S v2 v3 h
set_option maxHeartbeats 2000000 in
set_option maxRecDepth 20000 in
theorem w_X7_applyInstance_23 {g : xG} {D : va_G} {cy : Nat → ClassId} {ad : Nat → Nat → Nat} {a1 : Int32} {Q : Int32 → xS → Prop} (V : xEnv g D (xTys cy) (shM cy) ad RX7 cX7_applyInstance (some .int) 1 25 5 (xQi Q)) (n : Nat) : ∀ (S : xS) (v2 : Int32) (v3 : Int32), wp_X7_applyInstance_23 a1 Q n S v2 v3 → Wx g (xW D (shM cy) ad S) 23 [(0, .ref (ad 0 0)), (1, .int a1), (2, .int v2), (3, .int v3)] [] := by
  induction n with
  | zero => intro S v2 v3 h; exact h.elim
  | succ n ih => intro S v2 v3 h; exact w_X7_applyInstance_23_b V (fun S v2 v3 h => ih S v2 v3 h) S v2 v3 h
set_option maxHeartbeats 2000000 in
set_option maxRecDepth 20000 in
theorem w_X7_applyInstance {g : xG} {D : va_G} {cy : Nat → ClassId} {ad : Nat → Nat → Nat} {a1 : Int32} {S : xS} {Q : Int32 → xS → Prop} (V : xEnv g D (xTys cy) (shM cy) ad RX7 cX7_applyInstance (some .int) 1 25 5 (xQi Q)) (h : wp_X7_applyInstance a1 S Q) : Wx g (xW D (shM cy) ad S) 0 [(0, .ref (ad 0 0)), (1, .int a1)] [] := by
  obtain ⟨X, K, hi, hA, hR, E, hN⟩ := V
  have V := xEnv_mk X K hi hA hR E hN
  unfold wp_X7_applyInstance at h
  refine x_iload_n X 1 dX7_applyInstance_0 rfl ?_
  refine x_i2l X dX7_applyInstance_1 ?_
  refine x_lconst X (v := 0) dX7_applyInstance_2 (by decide) ?_
  refine x_aload_n X 0 dX7_applyInstance_3 rfl ?_
  refine xg_X7_322 X K Nat.zero_lt_one dX7_applyInstance_4 ?_
  refine x_i2l X dX7_applyInstance_7 ?_
  refine x_lconst X (v := 1) dX7_applyInstance_8 (by decide) ?_
  refine x_lsub X dX7_applyInstance_9 ?_
  refine x_calli hA (x_runS (n := 3) X K hR (fun _ q => q) (m_X7_in hi  h) t4_135 t4_136 t1_8 t4_137 ⟨by decide, by decide, by decide +kernel⟩ rfl (by decide) (by decide) rfl (Nat.le_of_ble_eq_true rfl) dX7_applyInstance_10) (fun r2 S1 h => ?_)
  refine x_if_ne X 19 dX7_applyInstance_13 (by decide) h (fun h => ?_) (fun h => ?_)
  · refine x_ldc X (v := -1000005) t4_138 dX7_applyInstance_16 ?_
    exact x_iret X E dX7_applyInstance_18 ⟨_, rfl, h⟩
  · refine x_iconst X (v := 0) dX7_applyInstance_19 (by decide) ?_
    refine x_istore_n X [(2, .int (0 : Int32)), (0, .ref (ad 0 0)), (1, .int a1)] dX7_applyInstance_20 (by rw [hN]; decide) rfl ?_
    refine x_iconst X (v := 0) dX7_applyInstance_21 (by decide) ?_
    refine x_istore_n X [(3, .int (0 : Int32)), (2, .int (0 : Int32)), (0, .ref (ad 0 0)), (1, .int a1)] dX7_applyInstance_22 (by rw [hN]; decide) rfl ?_
    refine x_sub [2, 3, 1, 0] rfl ?_
    obtain ⟨n3, h⟩ := h
    exact w_X7_applyInstance_23 V n3 S1 (0 : Int32) (0 : Int32) h
set_option maxHeartbeats 2000000 in
set_option maxRecDepth 20000 in
theorem m_X7_applyInstance {l : Launch} {D : va_G} {cy : Nat → ClassId} {ad : Nat → Nat → Nat} (hi : xInj (shM cy) ad) {a1 : Int32} {S : xS} {Q : Int32 → xS → Prop} (h : wp_X7_applyInstance a1 S Q) : xMet l D (xTys cy) (shM cy) ad yX7_applyInstance cX7_applyInstance 5 (some .int) (xRm 1 25) [.ref (ad 0 0), .int a1] S (xQi Q) := xMet_env hi (by decide +kernel) rfl (Nat.le_of_ble_eq_true rfl) (fun g hl V => w_X7_applyInstance V h)
