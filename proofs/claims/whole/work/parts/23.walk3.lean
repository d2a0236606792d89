set_option maxHeartbeats 2000000 in
set_option maxRecDepth 20000 in
theorem w_X6_addGlyph {g : xG} {D : va_G} {cy : Nat → ClassId} {ad : Nat → Nat → Nat} {a1 : Int32} {a2 : Int32} {S : xS} {Q : Int32 → xS → Prop} (V : xEnv g D (xTys cy) (shC cy) ad RX6 cX6_addGlyph (some .int) 1 22 3 (xQi Q)) (h : wp_X6_addGlyph a1 a2 S Q) : Wx g (xW D (shC cy) ad S) 0 [(0, .ref (ad 6 0)), (1, .int a1), (2, .int a2)] [] := by
  obtain ⟨X, K, hi, hA, hR, E, hN⟩ := V
  have V := xEnv_mk X K hi hA hR E hN
  unfold wp_X6_addGlyph at h
  refine x_iload_n X 2 dX6_addGlyph_0 rfl ?_
  refine x_iconst X (v := 0) dX6_addGlyph_1 (by decide) ?_
  refine x_sipush X (v := 4000) dX6_addGlyph_2 (by decide) ?_
  refine x_calli hA (x_runS (n := 3) X K hR (fun _ q => q) (m_X6_within hi  h) t2_4 t2_5 t1_1 t2_6 ⟨by decide, by decide, by decide +kernel⟩ rfl (by decide) (by decide) rfl (Nat.le_of_ble_eq_true rfl) dX6_addGlyph_5) (fun r2 S1 h => ?_)
  refine x_if_ne X 14 dX6_addGlyph_8 (by decide) h (fun h => ?_) (fun h => ?_)
  · refine x_ldc X (v := -1000005) t2_7 dX6_addGlyph_11 ?_
    exact x_iret X E dX6_addGlyph_13 ⟨_, rfl, h⟩
  · refine x_aload_n X 0 dX6_addGlyph_14 rfl ?_
    refine xg_X6_117 X K Nat.zero_lt_one dX6_addGlyph_15 ?_
    refine x_bipush X (v := 6) dX6_addGlyph_18 (by decide) ?_
    refine x_icmp_lt X 26 dX6_addGlyph_20 (by decide) h (fun h => ?_) (fun h => ?_)
    · refine x_aload_n X 0 dX6_addGlyph_26 rfl ?_
      refine xg_X6_29 X K Nat.zero_lt_one dX6_addGlyph_27 ?_
      refine x_aload_n X 0 dX6_addGlyph_30 rfl ?_
      refine xg_X6_117 X K Nat.zero_lt_one dX6_addGlyph_31 ?_
      obtain ⟨hb3, h⟩ := h
      refine xa_C31 X K (show 0 < 1 by decide) hb3 dX6_addGlyph_34 ?_
      refine x_iload_n X 1 dX6_addGlyph_35 rfl ?_
      refine x_iload_n X 2 dX6_addGlyph_36 rfl ?_
      refine x_callv hA (x_runV (n := 2) (sh := shC cy) X K hR (fun _ q => q) (m_X1_begin hi (Nat.lt_of_lt_of_le (xIn_lt hb3) (by decide : 6 ≤ 12)) h) (kC_1 cy (Nat.lt_of_lt_of_le (xIn_lt hb3) (by decide : 6 ≤ 12))) rfl rfl t2_89 t2_90 t2_91 t1_4 t2_92 ⟨by decide, by decide, by decide +kernel⟩ rfl (by decide) (by decide) rfl (Nat.le_of_ble_eq_true rfl) dX6_addGlyph_37) (fun S4 h => ?_)
      refine x_aload_n X 0 dX6_addGlyph_40 rfl ?_
      refine x_dup X dX6_addGlyph_41 rfl ?_
      refine xg_X6_117 X K Nat.zero_lt_one dX6_addGlyph_42 ?_
      refine x_iconst X (v := 1) dX6_addGlyph_45 (by decide) ?_
      refine x_iadd X dX6_addGlyph_46 ?_
      refine xp_X6_117 X K hi hA Nat.zero_lt_one dX6_addGlyph_47 ?_
      refine x_aload_n X 0 dX6_addGlyph_50 rfl ?_
      refine xg_X6_117 X K Nat.zero_lt_one dX6_addGlyph_51 ?_
      refine x_iconst X (v := 1) dX6_addGlyph_54 (by decide) ?_
      refine x_isub X dX6_addGlyph_55 ?_
      exact x_iret X E dX6_addGlyph_56 ⟨_, rfl, h⟩
    · refine x_ldc X (v := -1000006) t2_8 dX6_addGlyph_23 ?_
      exact x_iret X E dX6_addGlyph_25 ⟨_, rfl, h⟩
set_option maxHeartbeats 2000000 in
set_option maxRecDepth 20000 in
theorem m_X6_addGlyph {l : Launch} {D : va_G} {cy : Nat → ClassId} {ad : Nat → Nat → Nat} (hi : xInj (shC cy) ad) {a1 : Int32} {a2 : Int32} {S : xS} {Q : Int32 → xS → Prop} (h : wp_X6_addGlyph a1 a2 S Q) : xMet l D (xTys cy) (shC cy) ad yX6_addGlyph cX6_addGlyph 3 (some .int) (xRm 1 22) [.ref (ad 6 0), .int a1, .int a2] S (xQi Q) := xMet_env hi (by decide +kernel) rfl (Nat.le_of_ble_eq_true rfl) (fun g hl V => w_X6_addGlyph V h)
set_option maxHeartbeats 2000000 in
set_option maxRecDepth 20000 in
theorem w_X6_hasGlyph_17 {g : xG} {D : va_G} {cy : Nat → ClassId} {ad : Nat → Nat → Nat} {Q : Int32 → xS → Prop} (V : xEnv g D (xTys cy) (shC cy) ad RX6 cX6_hasGlyph (some .boolean) 0 0 2 (xQi Q)) (S : xS) (s0 : Int32) (h : wp_X6_hasGlyph_17 Q S s0) : Wx g (xW D (shC cy) ad S) 17 [] [.int s0] := by
  obtain ⟨X, K, hi, hA, hR, E, hN⟩ := V
  have V := xEnv_mk X K hi hA hR E hN
  unfold wp_X6_hasGlyph_17 at h
  exact x_zret X E dX6_hasGlyph_17 h.1 ⟨_, rfl, h.2⟩
set_option maxHeartbeats 2000000 in
set_option maxRecDepth 20000 in
theorem w_X6_hasGlyph_16 {g : xG} {D : va_G} {cy : Nat → ClassId} {ad : Nat → Nat → Nat} {Q : Int32 → xS → Prop} (V : xEnv g D (xTys cy) (shC cy) ad RX6 cX6_hasGlyph (some .boolean) 0 0 2 (xQi Q)) (S : xS) (h : wp_X6_hasGlyph_16 Q S) : Wx g (xW D (shC cy) ad S) 16 [] [] := by
  obtain ⟨X, K, hi, hA, hR, E, hN⟩ := V
  have V := xEnv_mk X K hi hA hR E hN
  unfold wp_X6_hasGlyph_16 at h
  refine x_iconst X (v := 0) dX6_hasGlyph_16 (by decide) ?_
  refine x_sub [] rfl ?_
  exact w_X6_hasGlyph_17 V S (0 : Int32) h
set_option maxHeartbeats 2000000 in
set_option maxRecDepth 20000 in
theorem w_X6_hasGlyph {g : xG} {D : va_G} {cy : Nat → ClassId} {ad : Nat → Nat → Nat} {a1 : Int32} {S : xS} {Q : Int32 → xS → Prop} (V : xEnv g D (xTys cy) (shC cy) ad RX6 cX6_hasGlyph (some .boolean) 0 0 2 (xQi Q)) (h : wp_X6_hasGlyph a1 S Q) : Wx g (xW D (shC cy) ad S) 0 [(0, .ref (ad 6 0)), (1, .int a1)] [] := by
  obtain ⟨X, K, hi, hA, hR, E, hN⟩ := V
  have V := xEnv_mk X K hi hA hR E hN
  unfold wp_X6_hasGlyph at h
  refine x_iload_n X 1 dX6_hasGlyph_0 rfl ?_
  refine x_if_lt X 16 dX6_hasGlyph_1 (by decide) h (fun h => ?_) (fun h => ?_)
  · refine x_sub [] rfl ?_
    exact w_X6_hasGlyph_16 V S h
  · refine x_iload_n X 1 dX6_hasGlyph_4 rfl ?_
    refine x_aload_n X 0 dX6_hasGlyph_5 rfl ?_
    refine xg_X6_117 X K Nat.zero_lt_one dX6_hasGlyph_6 ?_
    refine x_icmp_ge X 16 dX6_hasGlyph_9 (by decide) h (fun h => ?_) (fun h => ?_)
    · refine x_sub [] rfl ?_
      exact w_X6_hasGlyph_16 V S h
    · refine x_iconst X (v := 1) dX6_hasGlyph_12 (by decide) ?_
      refine x_goto X 17 dX6_hasGlyph_13 (by decide) ?_
      refine x_sub [] rfl ?_
      exact w_X6_hasGlyph_17 V S (1 : Int32) h
set_option maxHeartbeats 2000000 in
set_option maxRecDepth 20000 in
theorem m_X6_hasGlyph {l : Launch} {D : va_G} {cy : Nat → ClassId} {ad : Nat → Nat → Nat} (hi : xInj (shC cy) ad) {a1 : Int32} {S : xS} {Q : Int32 → xS → Prop} (h : wp_X6_hasGlyph a1 S Q) : xMet l D (xTys cy) (shC cy) ad yX6_hasGlyph cX6_hasGlyph 2 (some .boolean) (xRm 0 0) [.ref (ad 6 0), .int a1] S (xQi Q) := xMet_env hi (by decide +kernel) rfl (Nat.le_of_ble_eq_true rfl) (fun g hl V => w_X6_hasGlyph V h)
set_option maxHeartbeats 2000000 in
set_option maxRecDepth 20000 in
theorem w_X6_isPosition_31 {g : xG} {D : va_G} {cy : Nat → ClassId} {ad : Nat → Nat → Nat} {Q : Int32 → xS → Prop} (V : xEnv g D (xTys cy) (shC cy) ad RX6 cX6_isPosition (some .boolean) 1 22 2 (xQi Q)) (S : xS) (s0 : Int32) (h : wp_X6_isPosition_31 Q S s0) : Wx g (xW D (shC cy) ad S) 31 [] [.int s0] := by
  obtain ⟨X, K, hi, hA, hR, E, hN⟩ := V
  have V := xEnv_mk X K hi hA hR E hN
  unfold wp_X6_isPosition_31 at h
  exact x_zret X E dX6_isPosition_31 h.1 ⟨_, rfl, h.2⟩
set_option maxHeartbeats 2000000 in
set_option maxRecDepth 20000 in
theorem w_X6_isPosition_30 {g : xG} {D : va_G} {cy : Nat → ClassId} {ad : Nat → Nat → Nat} {Q : Int32 → xS → Prop} (V : xEnv g D (xTys cy) (shC cy) ad RX6 cX6_isPosition (some .boolean) 1 22 2 (xQi Q)) (S : xS) (h : wp_X6_isPosition_30 Q S) : Wx g (xW D (shC cy) ad S) 30 [] [] := by
  obtain ⟨X, K, hi, hA, hR, E, hN⟩ := V
  have V := xEnv_mk X K hi hA hR E hN
  unfold wp_X6_isPosition_30 at h
  refine x_iconst X (v := 0) dX6_isPosition_30 (by decide) ?_
  refine x_sub [] rfl ?_
  exact w_X6_isPosition_31 V S (0 : Int32) h
set_option maxHeartbeats 2000000 in
set_option maxRecDepth 20000 in
theorem w_X6_isPosition {g : xG} {D : va_G} {cy : Nat → ClassId} {ad : Nat → Nat → Nat} {a0 : Int32} {a1 : Int32} {S : xS} {Q : Int32 → xS → Prop} (V : xEnv g D (xTys cy) (shC cy) ad RX6 cX6_isPosition (some .boolean) 1 22 2 (xQi Q)) (h : wp_X6_isPosition a0 a1 S Q) : Wx g (xW D (shC cy) ad S) 0 [(0, .int a0), (1, .int a1)] [] := by
  obtain ⟨X, K, hi, hA, hR, E, hN⟩ := V
  have V := xEnv_mk X K hi hA hR E hN
  unfold wp_X6_isPosition at h
  refine x_iload_n X 0 dX6_isPosition_0 rfl ?_
  refine x_sipush X (v := -4000) dX6_isPosition_1 (by decide) ?_
  refine x_sipush X (v := 4000) dX6_isPosition_4 (by decide) ?_
  refine x_calli hA (x_runS (n := 3) X K hR (fun _ q => q) (m_X6_within hi  h) t2_4 t2_5 t1_1 t2_6 ⟨by decide, by decide, by decide +kernel⟩ rfl (by decide) (by decide) rfl (Nat.le_of_ble_eq_true rfl) dX6_isPosition_7) (fun r2 S1 h => ?_)
  refine x_if_eq X 30 dX6_isPosition_10 (by decide) h (fun h => ?_) (fun h => ?_)
  · refine x_sub [] rfl ?_
    exact w_X6_isPosition_30 V S1 h
  · refine x_iload_n X 1 dX6_isPosition_13 rfl ?_
    refine x_sipush X (v := -4000) dX6_isPosition_14 (by decide) ?_
    refine x_sipush X (v := 4000) dX6_isPosition_17 (by decide) ?_
    refine x_calli hA (x_runS (n := 3) X K hR (fun _ q => q) (m_X6_within hi  h) t2_4 t2_5 t1_1 t2_6 ⟨by decide, by decide, by decide +kernel⟩ rfl (by decide) (by decide) rfl (Nat.le_of_ble_eq_true rfl) dX6_isPosition_20) (fun r4 S3 h => ?_)
    refine x_if_eq X 30 dX6_isPosition_23 (by decide) h (fun h => ?_) (fun h => ?_)
    · refine x_sub [] rfl ?_
      exact w_X6_isPosition_30 V S3 h
    · refine x_iconst X (v := 1) dX6_isPosition_26 (by decide) ?_
      refine x_goto X 31 dX6_isPosition_27 (by decide) ?_
      refine x_sub [] rfl ?_
      exact w_X6_isPosition_31 V S3 (1 : Int32) h
set_option maxHeartbeats 2000000 in
set_option maxRecDepth 20000 in
theorem m_X6_isPosition {l : Launch} {D : va_G} {cy : Nat → ClassId} {ad : Nat → Nat → Nat} (hi : xInj (shC cy) ad) {a0 : Int32} {a1 : Int32} {S : xS} {Q : Int32 → xS → Prop} (h : wp_X6_isPosition a0 a1 S Q) : xMet l D (xTys cy) (shC cy) ad yX6_isPosition cX6_isPosition 2 (some .boolean) (xRm 1 22) [.int a0, .int a1] S (xQi Q) := xMet_env hi (by decide +kernel) rfl (Nat.le_of_ble_eq_true rfl) (fun g hl V => w_X6_isPosition V h)
set_option maxHeartbeats 2000000 in
set_option maxRecDepth 20000 in
theorem w_X6_isComponent_4_b {g : xG} {D : va_G} {cy : Nat → ClassId} {ad : Nat → Nat → Nat} {a1 : Int32} {K4 : xS → Int32 → Prop} {Q : Int32 → xS → Prop} (V : xEnv g D (xTys cy) (shC cy) ad RX6 cX6_isComponent (some .boolean) 1 22 3 (xQi Q)) (hK4 : ∀ (S : xS) (v2 : Int32), K4 S v2 → Wx g (xW D (shC cy) ad S) 4 [(0, .ref (ad 6 0)), (1, .int a1), (2, .int v2)] []) (S : xS) (v2 : Int32) (h : wp_X6_isComponent_4_b a1 K4 Q S v2) : Wx g (xW D (shC cy) ad S) 4 [(0, .ref (ad 6 0)), (1, .int a1), (2, .int v2)] [] := by
  obtain ⟨X, K, hi, hA, hR, E, hN⟩ := V
  have V := xEnv_mk X K hi hA hR E hN
  unfold wp_X6_isComponent_4_b at h
  refine x_iload_n X 2 dX6_isComponent_4 rfl ?_
  refine x_aload_n X 0 dX6_isComponent_5 rfl ?_
  refine xg_X6_117 X K (Nat.zero_lt_one) dX6_isComponent_6 ?_
  refine x_icmp_ge X 33 dX6_isComponent_9 (by decide) h (fun h => ?_) (fun h => ?_)
  · refine x_iconst X (v := 0) dX6_isComponent_33 (by decide) ?_
    exact x_zret X E dX6_isComponent_34 h.1 ⟨_, rfl, h.2⟩
  · refine x_aload_n X 0 dX6_isComponent_12 rfl ?_
    refine xg_X6_29 X K (Nat.zero_lt_one) dX6_isComponent_13 ?_
    refine x_iload_n X 2 dX6_isComponent_16 rfl ?_
    obtain ⟨hb1, h⟩ := h
    refine xa_C31 X K (show 0 < 1 by decide) hb1 dX6_isComponent_17 ?_
    refine x_iload_n X 1 dX6_isComponent_18 rfl ?_
    refine x_calli hA (x_runV (n := 1) (sh := shC cy) X K hR (fun _ q => q) (m_X1_hasChild hi (Nat.lt_of_lt_of_le (xIn_lt hb1) (by decide : 6 ≤ 12)) h) (kC_1 cy (Nat.lt_of_lt_of_le (xIn_lt hb1) (by decide : 6 ≤ 12))) rfl rfl t2_109 t2_110 t2_111 t1_4 t2_112 ⟨by decide, by decide, by decide +kernel⟩ rfl (by decide) (by decide) rfl (Nat.le_of_ble_eq_true rfl) dX6_isComponent_19) (fun r3 S2 h => ?_)
    refine x_if_eq X 27 dX6_isComponent_22 (by decide) h (fun h => ?_) (fun h => ?_)
    · refine x_iinc X 2 [(2, .int (v2 + (1 : Int32))), (0, .ref (ad 6 0)), (1, .int a1)] dX6_isComponent_27 rfl rfl (by rw [hN]; decide) rfl ?_
      refine x_goto X 4 dX6_isComponent_30 (by decide) ?_
      refine x_sub [1, 2, 0] rfl ?_
      exact hK4 S2 (v2 + (1 : Int32)) h
    · refine x_iconst X (v := 1) dX6_isComponent_25 (by decide) ?_
      exact x_zret X E dX6_isComponent_26 h.1 ⟨_, rfl, h.2⟩
set_option maxHeartbeats 2000000 in
set_option maxRecDepth 20000 in
theorem w_X6_isComponent_4 {g : xG} {D : va_G} {cy : Nat → ClassId} {ad : Nat → Nat → Nat} {a1 : Int32} {Q : Int32 → xS → Prop} (V : xEnv g D (xTys cy) (shC cy) ad RX6 cX6_isComponent (some .boolean) 1 22 3 (xQi Q)) (n : Nat) : ∀ (S : xS) (v2 : Int32), wp_X6_isComponent_4 a1 Q n S v2 → Wx g (xW D (shC cy) ad S) 4 [(0, .ref (ad 6 0)), (1, .int a1), (2, .int v2)] [] := by
  induction n with
  | zero => intro S v2 h; exact h.elim
  | succ n ih => intro S v2 h; exact w_X6_isComponent_4_b V (fun S v2 h => ih S v2 h) S v2 h
set_option maxHeartbeats 2000000 in
set_option maxRecDepth 20000 in
theorem w_X6_isComponent {g : xG} {D : va_G} {cy : Nat → ClassId} {ad : Nat → Nat → Nat} {a1 : Int32} {S : xS} {Q : Int32 → xS → Prop} (V : xEnv g D (xTys cy) (shC cy) ad RX6 cX6_isComponent (some .boolean) 1 22 3 (xQi Q)) (h : wp_X6_isComponent a1 S Q) : Wx g (xW D (shC cy) ad S) 0 [(0, .ref (ad 6 0)), (1, .int a1)] [] := by
  obtain ⟨X, K, hi, hA, hR, E, hN⟩ := V
  have V := xEnv_mk X K hi hA hR E hN
  unfold wp_X6_isComponent at h
  refine x_iload_n X 1 dX6_isComponent_0 rfl ?_
  refine x_iconst X (v := 1) dX6_isComponent_1 (by decide) ?_
  refine x_iadd X dX6_isComponent_2 ?_
  refine x_istore_n X [(2, .int (a1 + (1 : Int32))), (0, .ref (ad 6 0)), (1, .int a1)] dX6_isComponent_3 (by rw [hN]; decide) rfl ?_
  refine x_sub [1, 2, 0] rfl ?_
  obtain ⟨n1, h⟩ := h
  exact w_X6_isComponent_4 V n1 S (a1 + (1 : Int32)) h
set_option maxHeartbeats 2000000 in
set_option maxRecDepth 20000 in
theorem m_X6_isComponent {l : Launch} {D : va_G} {cy : Nat → ClassId} {ad : Nat → Nat → Nat} (hi : xInj (shC cy) ad) {a1 : Int32} {S : xS} {Q : Int32 → xS → Prop} (h : wp_X6_isComponent a1 S Q) : xMet l D (xTys cy) (shC cy) ad yX6_isComponent cX6_isComponent 3 (some .boolean) (xRm 1 22) [.ref (ad 6 0), .int a1] S (xQi Q) := xMet_env hi (by decide +kernel) rfl (Nat.le_of_ble_eq_true rfl) (fun g hl V => w_X6_isComponent V h)
set_option maxHeartbeats 2000000 in
set_option maxRecDepth 20000 in
theorem w_X6_addPoint_42 {g : xG} {D : va_G} {cy : Nat → ClassId} {ad : Nat → Nat → Nat} {Q : Int32 → xS → Prop} (V : xEnv g D (xTys cy) (shC cy) ad RX6 cX6_addPoint (some .int) 2 45 5 (xQi Q)) (S : xS) (h : wp_X6_addPoint_42 Q S) : Wx g (xW D (shC cy) ad S) 42 [] [] := by
  obtain ⟨X, K, hi, hA, hR, E, hN⟩ := V
  have V := xEnv_mk X K hi hA hR E hN
  unfold wp_X6_addPoint_42 at h
  refine x_ldc X (v := -1000007) t2_72 dX6_addPoint_42 ?_
  exact x_iret X E dX6_addPoint_44 ⟨_, rfl, h⟩
set_option maxHeartbeats 2000000 in
set_option maxRecDepth 20000 in
theorem w_X6_addPoint {g : xG} {D : va_G} {cy : Nat → ClassId} {ad : Nat → Nat → Nat} {a1 : Int32} {a2 : Int32} {a3 : Int32} {a4 : Int32} {S : xS} {Q : Int32 → xS → Prop} (V : xEnv g D (xTys cy) (shC cy) ad RX6 cX6_addPoint (some .int) 2 45 5 (xQi Q)) (h : wp_X6_addPoint a1 a2 a3 a4 S Q) : Wx g (xW D (shC cy) ad S) 0 [(0, .ref (ad 6 0)), (1, .int a1), (2, .int a2), (3, .int a3), (4, .int a4)] [] := by
  obtain ⟨X, K, hi, hA, hR, E, hN⟩ := V
  have V := xEnv_mk X K hi hA hR E hN
  unfold wp_X6_addPoint at h
  refine x_aload_n X 0 dX6_addPoint_0 rfl ?_
  refine x_iload_n X 1 dX6_addPoint_1 rfl ?_
  refine x_calli hA (x_runV (n := 1) (sh := shC cy) X K hR (fun _ q => q) (m_X6_hasGlyph hi  h) (kC_6 cy Nat.zero_lt_one) rfl rfl t2_97 t2_99 tp_4 t1_1 t2_100 ⟨by decide, by decide, by decide +kernel⟩ rfl (by decide) (by decide) rfl (Nat.le_of_ble_eq_true rfl) dX6_addPoint_2) (fun r2 S1 h => ?_)
  refine x_if_ne X 11 dX6_addPoint_5 (by decide) h (fun h => ?_) (fun h => ?_)
  · refine x_ldc X (v := -1000002) t2_101 dX6_addPoint_8 ?_
    exact x_iret X E dX6_addPoint_10 ⟨_, rfl, h⟩
  · refine x_iload_n X 2 dX6_addPoint_11 rfl ?_
    refine x_iload_n X 3 dX6_addPoint_12 rfl ?_
    refine x_calli hA (x_runS (n := 2) X K hR (fun _ q => q) (m_X6_isPosition hi  h) t2_102 t2_103 t1_1 t2_104 ⟨by decide, by decide, by decide +kernel⟩ rfl (by decide) (by decide) rfl (Nat.le_of_ble_eq_true rfl) dX6_addPoint_13) (fun r4 S3 h => ?_)
    refine x_if_ne X 22 dX6_addPoint_16 (by decide) h (fun h => ?_) (fun h => ?_)
    · refine x_ldc X (v := -1000005) t2_7 dX6_addPoint_19 ?_
      exact x_iret X E dX6_addPoint_21 ⟨_, rfl, h⟩
    · refine x_aload_n X 0 dX6_addPoint_22 rfl ?_
      refine xg_X6_29 X K Nat.zero_lt_one dX6_addPoint_23 ?_
      refine x_iload_n X 1 dX6_addPoint_26 rfl ?_
      obtain ⟨hb5, h⟩ := h
      refine xa_C31 X K (show 0 < 1 by decide) hb5 dX6_addPoint_27 ?_
      refine xg_X6_130 X K (Nat.lt_of_lt_of_le (xIn_lt hb5) (by decide : 6 ≤ 12)) dX6_addPoint_28 ?_
      refine x_if_ne X 42 dX6_addPoint_31 (by decide) h (fun h => ?_) (fun h => ?_)
      · refine x_aload_n X 0 dX6_addPoint_34 rfl ?_
        refine x_iload_n X 1 dX6_addPoint_35 rfl ?_
        refine x_calli hA (x_runV (n := 1) (sh := shC cy) X K hR (fun _ q => q) (m_X6_isComponent hi  h) (kC_6 cy Nat.zero_lt_one) rfl rfl t2_105 t2_107 tp_5 t1_1 t2_108 ⟨by decide, by decide, by decide +kernel⟩ rfl (by decide) (by decide) rfl (Nat.le_of_ble_eq_true rfl) dX6_addPoint_36) (fun r7 S6 h => ?_)
        refine x_if_eq X 45 dX6_addPoint_39 (by decide) h (fun h => ?_) (fun h => ?_)
        · refine x_aload_n X 0 dX6_addPoint_45 rfl ?_
          refine xg_X6_29 X K Nat.zero_lt_one dX6_addPoint_46 ?_
          refine x_iload_n X 1 dX6_addPoint_49 rfl ?_
          obtain ⟨hb8, h⟩ := h
          refine xa_C31 X K (show 0 < 1 by decide) hb8 dX6_addPoint_50 ?_
          refine xg_X6_136 X K (Nat.lt_of_lt_of_le (xIn_lt hb8) (by decide : 6 ≤ 12)) dX6_addPoint_51 ?_
          refine x_bipush X (v := 24) dX6_addPoint_54 (by decide) ?_
          refine x_icmp_lt X 62 dX6_addPoint_56 (by decide) h (fun h => ?_) (fun h => ?_)
          · refine x_aload_n X 0 dX6_addPoint_62 rfl ?_
            refine xg_X6_29 X K Nat.zero_lt_one dX6_addPoint_63 ?_
            refine x_iload_n X 1 dX6_addPoint_66 rfl ?_
            obtain ⟨hb9, h⟩ := h
            refine xa_C31 X K (show 0 < 1 by decide) hb9 dX6_addPoint_67 ?_
            refine x_iload_n X 2 dX6_addPoint_68 rfl ?_
            refine x_iload_n X 3 dX6_addPoint_69 rfl ?_
            refine x_iload X 4 dX6_addPoint_70 rfl ?_
            refine x_calli hA (x_runV (n := 3) (sh := shC cy) X K hR (fun _ q => q) (m_X1_appendPoint hi (Nat.lt_of_lt_of_le (xIn_lt hb9) (by decide : 6 ≤ 12)) h) (kC_1 cy (Nat.lt_of_lt_of_le (xIn_lt hb9) (by decide : 6 ≤ 12))) rfl rfl t2_113 t2_114 t2_115 t1_4 t2_116 ⟨by decide, by decide, by decide +kernel⟩ rfl (by decide) (by decide) rfl (Nat.le_of_ble_eq_true rfl) dX6_addPoint_72) (fun r11 S10 h => ?_)
            exact x_iret X E dX6_addPoint_75 ⟨_, rfl, h⟩
          · refine x_ldc X (v := -1000006) t2_8 dX6_addPoint_59 ?_
            exact x_iret X E dX6_addPoint_61 ⟨_, rfl, h⟩
        · refine x_sub [] rfl ?_
          exact w_X6_addPoint_42 V S6 h
      · refine x_sub [] rfl ?_
        exact w_X6_addPoint_42 V S3 h
set_option maxHeartbeats 2000000 in
set_option maxRecDepth 20000 in
theorem m_X6_addPoint {l : Launch} {D : va_G} {cy : Nat → ClassId} {ad : Nat → Nat → Nat} (hi : xInj (shC cy) ad) {a1 : Int32} {a2 : Int32} {a3 : Int32} {a4 : Int32} {S : xS} {Q : Int32 → xS → Prop} (h : wp_X6_addPoint a1 a2 a3 a4 S Q) : xMet l D (xTys cy) (shC cy) ad yX6_addPoint cX6_addPoint 5 (some .int) (xRm 2 45) [.ref (ad 6 0), .int a1, .int a2, .int a3, .int a4] S (xQi Q) := xMet_env hi (by decide +kernel) rfl (Nat.le_of_ble_eq_true rfl) (fun g hl V => w_X6_addPoint V h)
set_option maxHeartbeats 2000000 in
set_option maxRecDepth 20000 in
theorem w_X6_draw_17 {g : xG} {D : va_G} {cy : Nat → ClassId} {ad : Nat → Nat → Nat} {fr lo : Nat} {REC : Int32 → Nat → Nat → Int64 → Int64 → Int32 → xS → (xS → Prop) → Prop} {Q : xS → Prop} (V : xEnv g D (xTys cy) (shC cy) ad RX6 cX6_draw none fr lo 16 (xQv Q)) (hREC : ∀ (x1 : Int32) (x2 : Nat) (x3 : Nat) (x4 : Int64) (x6 : Int64) (x8 : Int32) (S : xS) (Q : xS → Prop), x2 < 3 → x3 < 2 → REC x1 x2 x3 x4 x6 x8 S Q → xMet (xL g) D (xTys cy) (shC cy) ad yX6_draw cX6_draw 16 none (xRm (fr - 1) (lo - 35)) [.ref (ad 31 0), .int x1, .ref (ad 30 x2), .ref (ad 4 x3), .long x4, .long x6, .int x8] S (xQv Q)) (hfr : 5 < fr) (hlo : 132 + 35 ≤ lo) (S : xS) (h : wp_X6_draw_17 REC Q S) : Wx g (xW D (shC cy) ad S) 17 [] [] := by
  obtain ⟨X, K, hi, hA, hR, E, hN⟩ := V
  have V := xEnv_mk X K hi hA hR E hN
  unfold wp_X6_draw_17 at h
  exact x_vret X E dX6_draw_17 ⟨rfl, h⟩
set_option maxHeartbeats 2000000 in
set_option maxRecDepth 20000 in
theorem w_X6_draw_126 {g : xG} {D : va_G} {cy : Nat → ClassId} {ad : Nat → Nat → Nat} {fr lo : Nat} {a2 : Nat} {a3 : Nat} {a4 : Int64} {a6 : Int64} {a8 : Int32} {REC : Int32 → Nat → Nat → Int64 → Int64 → Int32 → xS → (xS → Prop) → Prop} {K32 : xS → Nat → Int32 → Int32 → Prop} {Q : xS → Prop} (V : xEnv g D (xTys cy) (shC cy) ad RX6 cX6_draw none fr lo 16 (xQv Q)) (ha2 : a2 < 3) (ha3 : a3 < 2) (hREC : ∀ (x1 : Int32) (x2 : Nat) (x3 : Nat) (x4 : Int64) (x6 : Int64) (x8 : Int32) (S : xS) (Q : xS → Prop), x2 < 3 → x3 < 2 → REC x1 x2 x3 x4 x6 x8 S Q → xMet (xL g) D (xTys cy) (shC cy) ad yX6_draw cX6_draw 16 none (xRm (fr - 1) (lo - 35)) [.ref (ad 31 0), .int x1, .ref (ad 30 x2), .ref (ad 4 x3), .long x4, .long x6, .int x8] S (xQv Q)) (hfr : 5 < fr) (hlo : 132 + 35 ≤ lo) (hK32 : ∀ (S : xS) (v9 : Nat) (v10 : Int32) (v11 : Int32), v9 < 12 → K32 S v9 v10 v11 → Wx g (xW D (shC cy) ad S) 32 [(0, .ref (ad 31 0)), (2, .ref (ad 30 a2)), (3, .ref (ad 4 a3)), (4, .long a4), (6, .long a6), (8, .int a8), (9, .ref (ad 1 v9)), (10, .int v10), (11, .int v11)] []) (S : xS) (v9 : Nat) (v10 : Int32) (v11 : Int32) (hv9 : v9 < 12) (h : wp_X6_draw_126 a2 a3 a4 a6 a8 REC K32 Q S v9 v10 v11) : Wx g (xW D (shC cy) ad S) 126 [(0, .ref (ad 31 0)), (2, .ref (ad 30 a2)), (3, .ref (ad 4 a3)), (4, .long a4), (6, .long a6), (8, .int a8), (9, .ref (ad 1 v9)), (10, .int v10), (11, .int v11)] [] := by
  obtain ⟨X, K, hi, hA, hR, E, hN⟩ := V
  have V := xEnv_mk X K hi hA hR E hN
  unfold wp_X6_draw_126 at h
  refine x_iinc X 8 [(11, .int (v11 + (1 : Int32))), (0, .ref (ad 31 0)), (2, .ref (ad 30 a2)), (3, .ref (ad 4 a3)), (4, .long a4), (6, .long a6), (8, .int a8), (9, .ref (ad 1 v9)), (10, .int v10)] dX6_draw_126 rfl rfl (by rw [hN]; decide) rfl ?_
  refine x_goto X 32 dX6_draw_129 (by decide) ?_
  refine x_sub [1, 2, 3, 4, 5, 6, 7, 8, 0] rfl ?_
  exact hK32 S v9 v10 (v11 + (1 : Int32)) hv9 h
set_option maxHeartbeats 2000000 in
set_option maxRecDepth 20000 in
theorem w_X6_draw_32_b {g : xG} {D : va_G} {cy : Nat → ClassId} {ad : Nat → Nat → Nat} {fr lo : Nat} {a2 : Nat} {a3 : Nat} {a4 : Int64} {a6 : Int64} {a8 : Int32} {REC : Int32 → Nat → Nat → Int64 → Int64 → Int32 → xS → (xS → Prop) → Prop} {K32 : xS → Nat → Int32 → Int32 → Prop} {Q : xS → Prop} (V : xEnv g D (xTys cy) (shC cy) ad RX6 cX6_draw none fr lo 16 (xQv Q)) (ha2 : a2 < 3) (ha3 : a3 < 2) (hREC : ∀ (x1 : Int32) (x2 : Nat) (x3 : Nat) (x4 : Int64) (x6 : Int64) (x8 : Int32) (S : xS) (Q : xS → Prop), x2 < 3 → x3 < 2 → REC x1 x2 x3 x4 x6 x8 S Q → xMet (xL g) D (xTys cy) (shC cy) ad yX6_draw cX6_draw 16 none (xRm (fr - 1) (lo - 35)) [.ref (ad 31 0), .int x1, .ref (ad 30 x2), .ref (ad 4 x3), .long x4, .long x6, .int x8] S (xQv Q)) (hfr : 5 < fr) (hlo : 132 + 35 ≤ lo) (hK32 : ∀ (S : xS) (v9 : Nat) (v10 : Int32) (v11 : Int32), v9 < 12 → K32 S v9 v10 v11 → Wx g (xW D (shC cy) ad S) 32 [(0, .ref (ad 31 0)), (2, .ref (ad 30 a2)), (3, .ref (ad 4 a3)), (4, .long a4), (6, .long a6), (8, .int a8), (9, .ref (ad 1 v9)), (10, .int v10), (11, .int v11)] []) (S : xS) (v9 : Nat) (v10 : Int32) (v11 : Int32) (hv9 : v9 < 12) (h : wp_X6_draw_32_b a2 a3 a4 a6 a8 REC K32 Q S v9 v10 v11) : Wx g (xW D (shC cy) ad S) 32 [(0, .ref (ad 31 0)), (2, .ref (ad 30 a2)), (3, .ref (ad 4 a3)), (4, .long a4), (6, .long a6), (8, .int a8), (9, .ref (ad 1 v9)), (10, .int v10), (11, .int v11)] [] := by
  obtain ⟨X, K, hi, hA, hR, E, hN⟩ := V
  have V := xEnv_mk X K hi hA hR E hN
  unfold wp_X6_draw_32_b at h
  refine x_iload X 8 dX6_draw_32 rfl ?_
  refine x_aload X 6 dX6_draw_34 rfl ?_
  refine xg_X6_136 X K hv9 dX6_draw_36 ?_
  refine x_icmp_gt X 132 dX6_draw_39 (by decide) h (fun h => ?_) (fun h => ?_)
  · exact x_vret X E dX6_draw_132 ⟨rfl, h⟩
  · refine x_lload X 3 dX6_draw_42 rfl ?_
    refine x_aload X 6 dX6_draw_44 rfl ?_
    refine x_iload X 8 dX6_draw_46 rfl ?_
    refine x_iconst X (v := 0) dX6_draw_48 (by decide) ?_
    refine x_aload_n X 1 dX6_draw_49 rfl ?_
    refine x_bipush X (v := 15) dX6_draw_50 (by decide) ?_
    refine x_calll hA (x_runV (n := 4) (sh := shC cy) X K hR (fun _ q => q) (m_X1_placeAt hi hv9 ha2 h) (kC_1 cy hv9) rfl rfl t2_136 t2_137 t2_138 t1_4 t2_139 ⟨by decide, by decide, by decide +kernel⟩ rfl (by omega) (by omega) rfl (Nat.le_of_ble_eq_true rfl) dX6_draw_52) (fun r2 S1 h => ?_)
    refine x_ladd X dX6_draw_55 ?_
    refine x_lstore X [(12, .long (a4 + r2)), (0, .ref (ad 31 0)), (2, .ref (ad 30 a2)), (3, .ref (ad 4 a3)), (4, .long a4), (6, .long a6), (8, .int a8), (9, .ref (ad 1 v9)), (10, .int v10), (11, .int v11)] dX6_draw_56 (by rw [hN]; decide) rfl ?_
    refine x_lload X 5 dX6_draw_58 rfl ?_
    refine x_aload X 7 dX6_draw_60 rfl ?_
    refine x_iload X 9 dX6_draw_62 rfl ?_
    refine x_iconst X (v := 1) dX6_draw_64 (by decide) ?_
    refine x_aload_n X 2 dX6_draw_65 rfl ?_
    refine x_bipush X (v := 15) dX6_draw_66 (by decide) ?_
    refine x_calll hA (x_runV (n := 4) (sh := shC cy) X K hR (fun _ q => q) (m_X1_placeAt hi hv9 ha2 h) (kC_1 cy hv9) rfl rfl t2_136 t2_137 t2_138 t1_4 t2_139 ⟨by decide, by decide, by decide +kernel⟩ rfl (by omega) (by omega) rfl (Nat.le_of_ble_eq_true rfl) dX6_draw_68) (fun r4 S3 h => ?_)
    refine x_ladd X dX6_draw_71 ?_
    refine x_lstore X [(14, .long (a6 + r4)), (12, .long (a4 + r2)), (0, .ref (ad 31 0)), (2, .ref (ad 30 a2)), (3, .ref (ad 4 a3)), (4, .long a4), (6, .long a6), (8, .int a8), (9, .ref (ad 1 v9)), (10, .int v10), (11, .int v11)] dX6_draw_72 (by rw [hN]; decide) rfl ?_
    refine x_aload X 8 dX6_draw_74 rfl ?_
    refine xg_X6_130 X K hv9 dX6_draw_76 ?_
    refine x_if_eq X 107 dX6_draw_79 (by decide) h (fun h => ?_) (fun h => ?_)
    · refine x_aload_n X 4 dX6_draw_107 rfl ?_
      refine x_lload X 1 dX6_draw_108 rfl ?_
      refine x_lload X 0 dX6_draw_110 rfl ?_
      refine x_iload X 9 dX6_draw_112 rfl ?_
      refine x_aload X 8 dX6_draw_114 rfl ?_
      refine xg_X6_342 X K hv9 dX6_draw_116 ?_
      refine x_iload X 10 dX6_draw_119 rfl ?_
      obtain ⟨hb5, h⟩ := h
      refine xa_C14 X K hv9 hb5 dX6_draw_121 ?_
      refine x_iadd X dX6_draw_122 ?_
      refine x_callv hA (x_runV (n := 3) (sh := shC cy) X K hR (fun _ q => q) (m_X4_append hi ha3 h) (kC_4 cy ha3) rfl rfl t2_176 t2_177 t2_178 t1_2 t2_179 ⟨by decide, by decide, by decide +kernel⟩ rfl (by omega) (by omega) rfl (Nat.le_of_ble_eq_true rfl) dX6_draw_123) (fun S6 h => ?_)
      refine x_sub [2, 3, 4, 5, 6, 7, 8, 9, 10] rfl ?_
      exact w_X6_draw_126 V ha2 ha3 hREC hfr hlo hK32 S6 v9 v10 v11 hv9 h
    · refine x_aload_n X 2 dX6_draw_82 rfl ?_
      refine x_aload X 8 dX6_draw_83 rfl ?_
      refine xg_X6_339 X K hv9 dX6_draw_85 ?_
      refine x_iload X 10 dX6_draw_88 rfl ?_
      obtain ⟨hb8, h⟩ := h
      refine xa_C15 X K hv9 hb8 dX6_draw_90 ?_
      refine x_aload_n X 3 dX6_draw_91 rfl ?_
      refine x_aload_n X 4 dX6_draw_92 rfl ?_
      refine x_lload X 1 dX6_draw_93 rfl ?_
      refine x_lload X 0 dX6_draw_95 rfl ?_
      refine x_iload X 7 dX6_draw_97 rfl ?_
      refine x_iconst X (v := 1) dX6_draw_99 (by decide) ?_
      refine x_iadd X dX6_draw_100 ?_
      refine x_callv hA (x_runS (n := 7) X K hR (fun _ q => q) (hREC _ _ _ _ _ _ _ _ ha2 ha3 h) t2_133 t2_134 t1_1 t2_135 ⟨by decide, by decide, by decide +kernel⟩ rfl (by omega) (by omega) rfl (Nat.le_of_ble_eq_true rfl) dX6_draw_101) (fun S9 h => ?_)
      refine x_goto X 126 dX6_draw_104 (by decide) ?_
      refine x_sub [2, 3, 4, 5, 6, 7, 8, 9, 10] rfl ?_
      exact w_X6_draw_126 V ha2 ha3 hREC hfr hlo hK32 S9 v9 v10 v11 hv9 h
set_option maxHeartbeats 2000000 in
set_option maxRecDepth 20000 in
theorem w_X6_draw_32 {g : xG} {D : va_G} {cy : Nat → ClassId} {ad : Nat → Nat → Nat} {fr lo : Nat} {a2 : Nat} {a3 : Nat} {a4 : Int64} {a6 : Int64} {a8 : Int32} {REC : Int32 → Nat → Nat → Int64 → Int64 → Int32 → xS → (xS → Prop) → Prop} {Q : xS → Prop} (V : xEnv g D (xTys cy) (shC cy) ad RX6 cX6_draw none fr lo 16 (xQv Q)) (ha2 : a2 < 3) (ha3 : a3 < 2) (hREC : ∀ (x1 : Int32) (x2 : Nat) (x3 : Nat) (x4 : Int64) (x6 : Int64) (x8 : Int32) (S : xS) (Q : xS → Prop), x2 < 3 → x3 < 2 → REC x1 x2 x3 x4 x6 x8 S Q → xMet (xL g) D (xTys cy) (shC cy) ad yX6_draw cX6_draw 16 none (xRm (fr - 1) (lo - 35)) [.ref (ad 31 0), .int x1, .ref (ad 30 x2), .ref (ad 4 x3), .long x4, .long x6, .int x8] S (xQv Q)) (hfr : 5 < fr) (hlo : 132 + 35 ≤ lo) (n : Nat) : ∀ (S : xS) (v9 : Nat) (v10 : Int32) (v11 : Int32) (hv9 : v9 < 12), wp_X6_draw_32 a2 a3 a4 a6 a8 REC Q n S v9 v10 v11 → Wx g (xW D (shC cy) ad S) 32 [(0, .ref (ad 31 0)), (2, .ref (ad 30 a2)), (3, .ref (ad 4 a3)), (4, .long a4), (6, .long a6), (8, .int a8), (9, .ref (ad 1 v9)), (10, .int v10), (11, .int v11)] [] := by
  induction n with
  | zero => intro S v9 v10 v11 hv9 h; exact h.elim
  | succ n ih => intro S v9 v10 v11 hv9 h; exact w_X6_draw_32_b V ha2 ha3 hREC hfr hlo (fun S v9 v10 v11 hv9 h => ih S v9 v10 v11 hv9 h) S v9 v10 v11 hv9 h
set_option maxHeartbeats 2000000 in
set_option maxRecDepth 20000 in
theorem w_X6_draw {g : xG} {D : va_G} {cy : Nat → ClassId} {ad : Nat → Nat → Nat} {fr lo : Nat} {REC : Int32 → Nat → Nat → Int64 → Int64 → Int32 → xS → (xS → Prop) → Prop} {a1 : Int32} {a2 : Nat} {a3 : Nat} {a4 : Int64} {a6 : Int64} {a8 : Int32} {S : xS} {Q : xS → Prop} (V : xEnv g D (xTys cy) (shC cy) ad RX6 cX6_draw none fr lo 16 (xQv Q)) (ha2 : a2 < 3) (ha3 : a3 < 2) (hREC : ∀ (x1 : Int32) (x2 : Nat) (x3 : Nat) (x4 : Int64) (x6 : Int64) (x8 : Int32) (S : xS) (Q : xS → Prop), x2 < 3 → x3 < 2 → REC x1 x2 x3 x4 x6 x8 S Q → xMet (xL g) D (xTys cy) (shC cy) ad yX6_draw cX6_draw 16 none (xRm (fr - 1) (lo - 35)) [.ref (ad 31 0), .int x1, .ref (ad 30 x2), .ref (ad 4 x3), .long x4, .long x6, .int x8] S (xQv Q)) (hfr : 5 < fr) (hlo : 132 + 35 ≤ lo) (h : wp_X6_draw_b REC a1 a2 a3 a4 a6 a8 S Q) : Wx g (xW D (shC cy) ad S) 0 [(0, .ref (ad 31 0)), (1, .int a1), (2, .ref (ad 30 a2)), (3, .ref (ad 4 a3)), (4, .long a4), (6, .long a6), (8, .int a8)] [] := by
  obtain ⟨X, K, hi, hA, hR, E, hN⟩ := V
  have V := xEnv_mk X K hi hA hR E hN
  unfold wp_X6_draw_b at h
  refine x_iload_n X 1 dX6_draw_0 rfl ?_
  refine x_if_lt X 17 dX6_draw_1 (by decide) h (fun h => ?_) (fun h => ?_)
  · refine x_sub [] rfl ?_
    exact w_X6_draw_17 V hREC hfr hlo S h
  · refine x_iload_n X 1 dX6_draw_4 rfl ?_
    refine x_bipush X (v := 6) dX6_draw_5 (by decide) ?_
    refine x_icmp_ge X 17 dX6_draw_7 (by decide) h (fun h => ?_) (fun h => ?_)
    · refine x_sub [] rfl ?_
      exact w_X6_draw_17 V hREC hfr hlo S h
    · refine x_iload X 6 dX6_draw_10 rfl ?_
      refine x_bipush X (v := 6) dX6_draw_12 (by decide) ?_
      refine x_icmp_lt X 18 dX6_draw_14 (by decide) h (fun h => ?_) (fun h => ?_)
      · refine x_aload_n X 0 dX6_draw_18 rfl ?_
        refine x_iload_n X 1 dX6_draw_19 rfl ?_
        obtain ⟨hb1, h⟩ := h
        refine xa_C31 X K Nat.zero_lt_one hb1 dX6_draw_20 ?_
        refine x_astore X [(9, .ref (ad 1 a1.toNatClampNeg)), (0, .ref (ad 31 0)), (1, .int a1), (2, .ref (ad 30 a2)), (3, .ref (ad 4 a3)), (4, .long a4), (6, .long a6), (8, .int a8)] dX6_draw_21 (by rw [hN]; decide) rfl ?_
        refine x_aload_n X 4 dX6_draw_23 rfl ?_
        refine xg_X6_154 X K ha3 dX6_draw_24 ?_
        refine x_istore X [(10, .int (S.1 4 a3 1)), (9, .ref (ad 1 a1.toNatClampNeg)), (0, .ref (ad 31 0)), (1, .int a1), (2, .ref (ad 30 a2)), (3, .ref (ad 4 a3)), (4, .long a4), (6, .long a6), (8, .int a8)] dX6_draw_27 (by rw [hN]; decide) rfl ?_
        refine x_iconst X (v := 1) dX6_draw_29 (by decide) ?_
        refine x_istore X [(11, .int (1 : Int32)), (10, .int (S.1 4 a3 1)), (9, .ref (ad 1 a1.toNatClampNeg)), (0, .ref (ad 31 0)), (1, .int a1), (2, .ref (ad 30 a2)), (3, .ref (ad 4 a3)), (4, .long a4), (6, .long a6), (8, .int a8)] dX6_draw_30 (by rw [hN]; decide) rfl ?_
        refine x_sub [3, 5, 6, 7, 8, 9, 2, 1, 0] rfl ?_
        obtain ⟨n2, h⟩ := h
        exact w_X6_draw_32 V ha2 ha3 hREC hfr hlo n2 S a1.toNatClampNeg (S.1 4 a3 1) (1 : Int32) (Nat.lt_of_lt_of_le (xIn_lt hb1) (by decide : 6 ≤ 12)) h
      · refine x_sub [] rfl ?_
        exact w_X6_draw_17 V hREC hfr hlo S h
set_option maxHeartbeats 2000000 in
set_option maxRecDepth 20000 in
theorem m_X6_draw_r {l : Launch} {D : va_G} {cy : Nat → ClassId} {ad : Nat → Nat → Nat} (hi : xInj (shC cy) ad) (n : Nat) : ∀ (a1 : Int32) (a2 : Nat) (a3 : Nat) (a4 : Int64) (a6 : Int64) (a8 : Int32) (S : xS) (Q : xS → Prop), a2 < 3 → a3 < 2 → wp_X6_draw_r n a1 a2 a3 a4 a6 a8 S Q → xMet l D (xTys cy) (shC cy) ad yX6_draw cX6_draw 16 none (xRm (5 + n) (132 + n * 35)) [.ref (ad 31 0), .int a1, .ref (ad 30 a2), .ref (ad 4 a3), .long a4, .long a6, .int a8] S (xQv Q) := by
  induction n with
  | zero => intro a1 a2 a3 a4 a6 a8 S Q ha2 ha3 h; exact h.elim
  | succ n ih =>
    intro a1 a2 a3 a4 a6 a8 S Q ha2 ha3 h
    refine xMet_env hi (by decide +kernel) rfl (Nat.le_of_ble_eq_true rfl) (fun g hl V => w_X6_draw V ha2 ha3 ?_ (by omega) (by omega) h)
    rw [hl, show 5 + (n + 1) - 1 = 5 + n by omega, show 132 + (n + 1) * 35 - 35 = 132 + n * 35 by omega]
    exact ih
set_option maxHeartbeats 2000000 in
set_option maxRecDepth 20000 in
theorem m_X6_draw {l : Launch} {D : va_G} {cy : Nat → ClassId} {ad : Nat → Nat → Nat} (hi : xInj (shC cy) ad) {a1 : Int32} {a2 : Nat} {a3 : Nat} {a4 : Int64} {a6 : Int64} {a8 : Int32} {S : xS} {Q : xS → Prop} (ha2 : a2 < 3) (ha3 : a3 < 2) (h : wp_X6_draw a1 a2 a3 a4 a6 a8 S Q) : xMet l D (xTys cy) (shC cy) ad yX6_draw cX6_draw 16 none (xRm 12 377) [.ref (ad 31 0), .int a1, .ref (ad 30 a2), .ref (ad 4 a3), .long a4, .long a6, .int a8] S (xQv Q) := m_X6_draw_r hi 7 _ _ _ _ _ _ _ _ ha2 ha3 h
set_option maxHeartbeats 2000000 in
set_option maxRecDepth 20000 in
theorem w_X6_drawnPresent {g : xG} {D : va_G} {cy : Nat → ClassId} {ad : Nat → Nat → Nat} {a1 : Int32} {S : xS} {Q : Nat → xS → Prop} (V : xEnv g D (xTys cy) (shC cy) ad RX6 cX6_drawnPresent (some (.object "FontInstancer$Outline")) 13 412 2 (xQr ad 4 2 Q)) (h : wp_X6_drawnPresent a1 S Q) : Wx g (xW D (shC cy) ad S) 0 [(0, .ref (ad 6 0)), (1, .int a1)] [] := by
  obtain ⟨X, K, hi, hA, hR, E, hN⟩ := V
  have V := xEnv_mk X K hi hA hR E hN
  unfold wp_X6_drawnPresent at h
  refine x_aload_n X 0 dX6_drawnPresent_0 rfl ?_
  refine xg_X6_36 X K Nat.zero_lt_one dX6_drawnPresent_1 ?_
  refine x_callv hA (x_runV (n := 0) (sh := shC cy) X K hR (fun _ q => q) (m_X4_clear hi (show 0 < 2 by decide) h) (kC_4 cy (show 0 < 2 by decide)) rfl rfl t2_129 t2_130 t2_131 t1_2 t2_132 ⟨by decide, by decide, by decide +kernel⟩ rfl (by decide) (by decide) rfl (Nat.le_of_ble_eq_true rfl) dX6_drawnPresent_4) (fun S1 h => ?_)
  refine x_aload_n X 0 dX6_drawnPresent_7 rfl ?_
  refine xg_X6_29 X K Nat.zero_lt_one dX6_drawnPresent_8 ?_
  refine x_iload_n X 1 dX6_drawnPresent_11 rfl ?_
  refine x_aload_n X 0 dX6_drawnPresent_12 rfl ?_
  refine xg_X6_17 X K Nat.zero_lt_one dX6_drawnPresent_13 ?_
  refine x_aload_n X 0 dX6_drawnPresent_16 rfl ?_
  refine xg_X6_36 X K Nat.zero_lt_one dX6_drawnPresent_17 ?_
  refine x_lconst X (v := 0) dX6_drawnPresent_20 (by decide) ?_
  refine x_lconst X (v := 0) dX6_drawnPresent_21 (by decide) ?_
  refine x_iconst X (v := 0) dX6_drawnPresent_22 (by decide) ?_
  refine x_callv hA (x_runS (n := 7) X K hR (fun _ q => q) (m_X6_draw hi (show 0 < 3 by decide) (show 0 < 2 by decide) h) t2_133 t2_134 t1_1 t2_135 ⟨by decide, by decide, by decide +kernel⟩ rfl (by decide) (by decide) rfl (Nat.le_of_ble_eq_true rfl) dX6_drawnPresent_23) (fun S3 h => ?_)
  refine x_aload_n X 0 dX6_drawnPresent_26 rfl ?_
  refine xg_X6_36 X K Nat.zero_lt_one dX6_drawnPresent_27 ?_
  exact x_aret X E dX6_drawnPresent_30 ⟨_, rfl, (show 0 < 2 by decide), h⟩
set_option maxHeartbeats 2000000 in
set_option maxRecDepth 20000 in
theorem m_X6_drawnPresent {l : Launch} {D : va_G} {cy : Nat → ClassId} {ad : Nat → Nat → Nat} (hi : xInj (shC cy) ad) {a1 : Int32} {S : xS} {Q : Nat → xS → Prop} (h : wp_X6_drawnPresent a1 S Q) : xMet l D (xTys cy) (shC cy) ad yX6_drawnPresent cX6_drawnPresent 2 (some (.object "FontInstancer$Outline")) (xRm 13 412) [.ref (ad 6 0), .int a1] S (xQr ad 4 2 Q) := xMet_env hi (by decide +kernel) rfl (Nat.le_of_ble_eq_true rfl) (fun g hl V => w_X6_drawnPresent V h)
set_option maxHeartbeats 2000000 in
set_option maxRecDepth 20000 in
theorem w_X6_addComponent_17 {g : xG} {D : va_G} {cy : Nat → ClassId} {ad : Nat → Nat → Nat} {Q : Int32 → xS → Prop} (V : xEnv g D (xTys cy) (shC cy) ad RX6 cX6_addComponent (some .int) 14 433 6 (xQi Q)) (S : xS) (h : wp_X6_addComponent_17 Q S) : Wx g (xW D (shC cy) ad S) 17 [] [] := by
  obtain ⟨X, K, hi, hA, hR, E, hN⟩ := V
  have V := xEnv_mk X K hi hA hR E hN
  unfold wp_X6_addComponent_17 at h
  refine x_ldc X (v := -1000002) t2_101 dX6_addComponent_17 ?_
  exact x_iret X E dX6_addComponent_19 ⟨_, rfl, h⟩
set_option maxHeartbeats 2000000 in
set_option maxRecDepth 20000 in
theorem w_X6_addComponent_52 {g : xG} {D : va_G} {cy : Nat → ClassId} {ad : Nat → Nat → Nat} {Q : Int32 → xS → Prop} (V : xEnv g D (xTys cy) (shC cy) ad RX6 cX6_addComponent (some .int) 14 433 6 (xQi Q)) (S : xS) (h : wp_X6_addComponent_52 Q S) : Wx g (xW D (shC cy) ad S) 52 [] [] := by
  obtain ⟨X, K, hi, hA, hR, E, hN⟩ := V
  have V := xEnv_mk X K hi hA hR E hN
  unfold wp_X6_addComponent_52 at h
  refine x_ldc X (v := -1000007) t2_72 dX6_addComponent_52 ?_
  exact x_iret X E dX6_addComponent_54 ⟨_, rfl, h⟩
set_option maxHeartbeats 2000000 in
set_option maxRecDepth 20000 in
theorem w_X6_addComponent_98 {g : xG} {D : va_G} {cy : Nat → ClassId} {ad : Nat → Nat → Nat} {Q : Int32 → xS → Prop} (V : xEnv g D (xTys cy) (shC cy) ad RX6 cX6_addComponent (some .int) 14 433 6 (xQi Q)) (S : xS) (h : wp_X6_addComponent_98 Q S) : Wx g (xW D (shC cy) ad S) 98 [] [] := by
  obtain ⟨X, K, hi, hA, hR, E, hN⟩ := V
  have V := xEnv_mk X K hi hA hR E hN
  unfold wp_X6_addComponent_98 at h
  refine x_ldc X (v := -1000006) t2_8 dX6_addComponent_98 ?_
  exact x_iret X E dX6_addComponent_100 ⟨_, rfl, h⟩
set_option maxHeartbeats 2000000 in
set_option maxRecDepth 20000 in
theorem w_X6_addComponent {g : xG} {D : va_G} {cy : Nat → ClassId} {ad : Nat → Nat → Nat} {a1 : Int32} {a2 : Int32} {a3 : Int32} {a4 : Int32} {S : xS} {Q : Int32 → xS → Prop} (V : xEnv g D (xTys cy) (shC cy) ad RX6 cX6_addComponent (some .int) 14 433 6 (xQi Q)) (h : wp_X6_addComponent a1 a2 a3 a4 S Q) : Wx g (xW D (shC cy) ad S) 0 [(0, .ref (ad 6 0)), (1, .int a1), (2, .int a2), (3, .int a3), (4, .int a4)] [] := by
  obtain ⟨X, K, hi, hA, hR, E, hN⟩ := V
  have V := xEnv_mk X K hi hA hR E hN
  unfold wp_X6_addComponent at h
  refine x_aload_n X 0 dX6_addComponent_0 rfl ?_
  refine x_iload_n X 1 dX6_addComponent_1 rfl ?_
  refine x_calli hA (x_runV (n := 1) (sh := shC cy) X K hR (fun _ q => q) (m_X6_hasGlyph hi  h) (kC_6 cy Nat.zero_lt_one) rfl rfl t2_97 t2_99 tp_4 t1_1 t2_100 ⟨by decide, by decide, by decide +kernel⟩ rfl (by decide) (by decide) rfl (Nat.le_of_ble_eq_true rfl) dX6_addComponent_2) (fun r2 S1 h => ?_)
  refine x_if_eq X 17 dX6_addComponent_5 (by decide) h (fun h => ?_) (fun h => ?_)
  · refine x_sub [] rfl ?_
    exact w_X6_addComponent_17 V S1 h
  · refine x_iload_n X 2 dX6_addComponent_8 rfl ?_
    refine x_if_lt X 17 dX6_addComponent_9 (by decide) h (fun h => ?_) (fun h => ?_)
    · refine x_sub [] rfl ?_
      exact w_X6_addComponent_17 V S1 h
    · refine x_iload_n X 2 dX6_addComponent_12 rfl ?_
      refine x_iload_n X 1 dX6_addComponent_13 rfl ?_
      refine x_icmp_lt X 20 dX6_addComponent_14 (by decide) h (fun h => ?_) (fun h => ?_)
      · refine x_iload_n X 3 dX6_addComponent_20 rfl ?_
        refine x_iload X 4 dX6_addComponent_21 rfl ?_
        refine x_calli hA (x_runS (n := 2) X K hR (fun _ q => q) (m_X6_isPosition hi  h) t2_102 t2_103 t1_1 t2_104 ⟨by decide, by decide, by decide +kernel⟩ rfl (by decide) (by decide) rfl (Nat.le_of_ble_eq_true rfl) dX6_addComponent_23) (fun r4 S3 h => ?_)
        refine x_if_ne X 32 dX6_addComponent_26 (by decide) h (fun h => ?_) (fun h => ?_)
        · refine x_ldc X (v := -1000005) t2_7 dX6_addComponent_29 ?_
          exact x_iret X E dX6_addComponent_31 ⟨_, rfl, h⟩
        · refine x_aload_n X 0 dX6_addComponent_32 rfl ?_
          refine xg_X6_29 X K Nat.zero_lt_one dX6_addComponent_33 ?_
          refine x_iload_n X 1 dX6_addComponent_36 rfl ?_
          obtain ⟨hb5, h⟩ := h
          refine xa_C31 X K (show 0 < 1 by decide) hb5 dX6_addComponent_37 ?_
          refine xg_X6_130 X K (Nat.lt_of_lt_of_le (xIn_lt hb5) (by decide : 6 ≤ 12)) dX6_addComponent_38 ?_
          refine x_if_eq X 52 dX6_addComponent_41 (by decide) h (fun h => ?_) (fun h => ?_)
          · refine x_sub [] rfl ?_
            exact w_X6_addComponent_52 V S3 h
          · refine x_aload_n X 0 dX6_addComponent_44 rfl ?_
            refine x_iload_n X 1 dX6_addComponent_45 rfl ?_
            refine x_calli hA (x_runV (n := 1) (sh := shC cy) X K hR (fun _ q => q) (m_X6_isComponent hi  h) (kC_6 cy Nat.zero_lt_one) rfl rfl t2_105 t2_107 tp_5 t1_1 t2_108 ⟨by decide, by decide, by decide +kernel⟩ rfl (by decide) (by decide) rfl (Nat.le_of_ble_eq_true rfl) dX6_addComponent_46) (fun r7 S6 h => ?_)
            refine x_if_eq X 55 dX6_addComponent_49 (by decide) h (fun h => ?_) (fun h => ?_)
            · refine x_aload_n X 0 dX6_addComponent_55 rfl ?_
              refine x_iload_n X 1 dX6_addComponent_56 rfl ?_
              refine x_callr hA (x_runV (n := 1) (sh := shC cy) X K hR (fun _ q => q) (m_X6_drawnPresent hi  h) (kC_6 cy Nat.zero_lt_one) rfl rfl t2_125 t2_127 tp_7 t1_1 t2_128 ⟨by decide, by decide, by decide +kernel⟩ rfl (by decide) (by decide) rfl (Nat.le_of_ble_eq_true rfl) dX6_addComponent_57) (fun r9 S8 hv10 h => ?_)
              replace h := h hv10
              refine xg_X6_147 X K hv10 dX6_addComponent_60 ?_
              refine x_istore X [(5, .int (S8.1 4 r9 0)), (0, .ref (ad 6 0)), (1, .int a1), (2, .int a2), (3, .int a3), (4, .int a4)] dX6_addComponent_63 (by rw [hN]; decide) rfl ?_
              refine x_iload X 0 dX6_addComponent_65 rfl ?_
              refine x_aload_n X 1 dX6_addComponent_67 rfl ?_
              refine x_iload_n X 3 dX6_addComponent_68 rfl ?_
              refine x_callr hA (x_runV (n := 1) (sh := shC cy) X K hR (fun _ q => q) (m_X6_drawnPresent hi  h) (kC_6 cy Nat.zero_lt_one) rfl rfl t2_125 t2_127 tp_7 t1_1 t2_128 ⟨by decide, by decide, by decide +kernel⟩ rfl (by decide) (by decide) rfl (Nat.le_of_ble_eq_true rfl) dX6_addComponent_69) (fun r12 S11 hv13 h => ?_)
              replace h := h hv13
              refine xg_X6_147 X K hv13 dX6_addComponent_72 ?_
              refine x_iadd X dX6_addComponent_75 ?_
              refine x_istore X [(5, .int ((S8.1 4 r9 0) + (S11.1 4 r12 0))), (0, .ref (ad 6 0)), (1, .int a1), (2, .int a2), (3, .int a3), (4, .int a4)] dX6_addComponent_76 (by rw [hN]; decide) rfl ?_
              refine x_aload_n X 1 dX6_addComponent_78 rfl ?_
              refine xg_X6_29 X K Nat.zero_lt_one dX6_addComponent_79 ?_
              refine x_iload_n X 2 dX6_addComponent_82 rfl ?_
              obtain ⟨hb14, h⟩ := h
              refine xa_C31 X K (show 0 < 1 by decide) hb14 dX6_addComponent_83 ?_
              refine xg_X6_136 X K (Nat.lt_of_lt_of_le (xIn_lt hb14) (by decide : 6 ≤ 12)) dX6_addComponent_84 ?_
              refine x_iconst X (v := 4) dX6_addComponent_87 (by decide) ?_
              refine x_icmp_ge X 98 dX6_addComponent_88 (by decide) h (fun h => ?_) (fun h => ?_)
              · refine x_sub [] rfl ?_
                exact w_X6_addComponent_98 V S11 h
              · refine x_iload X 0 dX6_addComponent_91 rfl ?_
                refine x_bipush X (v := 96) dX6_addComponent_93 (by decide) ?_
                refine x_icmp_le X 101 dX6_addComponent_95 (by decide) h (fun h => ?_) (fun h => ?_)
                · refine x_aload_n X 1 dX6_addComponent_101 rfl ?_
                  refine xg_X6_29 X K Nat.zero_lt_one dX6_addComponent_102 ?_
                  refine x_iload_n X 2 dX6_addComponent_105 rfl ?_
                  obtain ⟨hb15, h⟩ := h
                  refine xa_C31 X K (show 0 < 1 by decide) hb15 dX6_addComponent_106 ?_
                  refine x_iload_n X 3 dX6_addComponent_107 rfl ?_
                  refine x_iload_n X 4 dX6_addComponent_108 rfl ?_
                  refine x_iload X 5 dX6_addComponent_109 rfl ?_
                  refine x_calli hA (x_runV (n := 3) (sh := shC cy) X K hR (fun _ q => q) (m_X1_appendComponent hi (Nat.lt_of_lt_of_le (xIn_lt hb15) (by decide : 6 ≤ 12)) h) (kC_1 cy (Nat.lt_of_lt_of_le (xIn_lt hb15) (by decide : 6 ≤ 12))) rfl rfl t2_180 t2_181 t2_182 t1_4 t2_183 ⟨by decide, by decide, by decide +kernel⟩ rfl (by decide) (by decide) rfl (Nat.le_of_ble_eq_true rfl) dX6_addComponent_111) (fun r17 S16 h => ?_)
                  exact x_iret X E dX6_addComponent_114 ⟨_, rfl, h⟩
                · refine x_sub [] rfl ?_
                  exact w_X6_addComponent_98 V S11 h
            · refine x_sub [] rfl ?_
              exact w_X6_addComponent_52 V S6 h
      · refine x_sub [] rfl ?_
        exact w_X6_addComponent_17 V S1 h
set_option maxHeartbeats 2000000 in
set_option maxRecDepth 20000 in
theorem m_X6_addComponent {l : Launch} {D : va_G} {cy : Nat → ClassId} {ad : Nat → Nat → Nat} (hi : xInj (shC cy) ad) {a1 : Int32} {a2 : Int32} {a3 : Int32} {a4 : Int32} {S : xS} {Q : Int32 → xS → Prop} (h : wp_X6_addComponent a1 a2 a3 a4 S Q) : xMet l D (xTys cy) (shC cy) ad yX6_addComponent cX6_addComponent 6 (some .int) (xRm 14 433) [.ref (ad 6 0), .int a1, .int a2, .int a3, .int a4] S (xQi Q) := xMet_env hi (by decide +kernel) rfl (Nat.le_of_ble_eq_true rfl) (fun g hl V => w_X6_addComponent V h)
set_option maxHeartbeats 2000000 in
set_option maxRecDepth 20000 in
theorem w_X6_glyphValue_68 {g : xG} {D : va_G} {cy : Nat → ClassId} {ad : Nat → Nat → Nat} {Q : Int32 → xS → Prop} (V : xEnv g D (xTys cy) (shC cy) ad RX6 cX6_glyphValue (some .int) 14 433 4 (xQi Q)) (S : xS) (s0 : Int32) (h : wp_X6_glyphValue_68 Q S s0) : Wx g (xW D (shC cy) ad S) 68 [] [.int s0] := by
  obtain ⟨X, K, hi, hA, hR, E, hN⟩ := V
  have V := xEnv_mk X K hi hA hR E hN
  unfold wp_X6_glyphValue_68 at h
  exact x_iret X E dX6_glyphValue_68 ⟨_, rfl, h⟩
set_option maxHeartbeats 2000000 in
set_option maxRecDepth 20000 in
theorem w_X6_glyphValue {g : xG} {D : va_G} {cy : Nat → ClassId} {ad : Nat → Nat → Nat} {a1 : Int32} {a2 : Int32} {S : xS} {Q : Int32 → xS → Prop} (V : xEnv g D (xTys cy) (shC cy) ad RX6 cX6_glyphValue (some .int) 14 433 4 (xQi Q)) (h : wp_X6_glyphValue a1 a2 S Q) : Wx g (xW D (shC cy) ad S) 0 [(0, .ref (ad 6 0)), (1, .int a1), (2, .int a2)] [] := by
  obtain ⟨X, K, hi, hA, hR, E, hN⟩ := V
  have V := xEnv_mk X K hi hA hR E hN
  unfold wp_X6_glyphValue at h
  refine x_aload_n X 0 dX6_glyphValue_0 rfl ?_
  refine x_iload_n X 1 dX6_glyphValue_1 rfl ?_
  refine x_calli hA (x_runV (n := 1) (sh := shC cy) X K hR (fun _ q => q) (m_X6_hasGlyph hi  h) (kC_6 cy Nat.zero_lt_one) rfl rfl t2_97 t2_99 tp_4 t1_1 t2_100 ⟨by decide, by decide, by decide +kernel⟩ rfl (by decide) (by decide) rfl (Nat.le_of_ble_eq_true rfl) dX6_glyphValue_2) (fun r2 S1 h => ?_)
  refine x_if_ne X 11 dX6_glyphValue_5 (by decide) h (fun h => ?_) (fun h => ?_)
  · refine x_ldc X (v := -1000002) t2_101 dX6_glyphValue_8 ?_
    exact x_iret X E dX6_glyphValue_10 ⟨_, rfl, h⟩
  · refine x_aload_n X 0 dX6_glyphValue_11 rfl ?_
    refine xg_X6_29 X K Nat.zero_lt_one dX6_glyphValue_12 ?_
    refine x_iload_n X 1 dX6_glyphValue_15 rfl ?_
    obtain ⟨hb3, h⟩ := h
    refine xa_C31 X K (show 0 < 1 by decide) hb3 dX6_glyphValue_16 ?_
    refine x_astore_n X [(3, .ref (ad 1 a1.toNatClampNeg)), (0, .ref (ad 6 0)), (1, .int a1), (2, .int a2)] dX6_glyphValue_17 (by rw [hN]; decide) rfl ?_
    refine x_iload_n X 3 dX6_glyphValue_18 rfl ?_
    refine x_ite h (fun hc h => ?_) (fun hc0_19 h => ?_)
    · refine x_tableIn X 56 dX6_glyphValue_19 (by rw [hc]; decide) (by rw [hc]; decide) (off := 37) (by rw [hc]; decide) (by decide) ?_
      refine x_aload_n X 0 dX6_glyphValue_56 rfl ?_
      refine xg_X6_130 X K (Nat.lt_of_lt_of_le (xIn_lt hb3) (by decide : 6 ≤ 12)) dX6_glyphValue_57 ?_
      refine x_if_eq X 67 dX6_glyphValue_60 (by decide) h (fun h => ?_) (fun h => ?_)
      · refine x_iconst X (v := 0) dX6_glyphValue_67 (by decide) ?_
        refine x_sub [] rfl ?_
        exact w_X6_glyphValue_68 V S1 (0 : Int32) h
      · refine x_iconst X (v := 1) dX6_glyphValue_63 (by decide) ?_
        refine x_goto X 68 dX6_glyphValue_64 (by decide) ?_
        refine x_sub [] rfl ?_
        exact w_X6_glyphValue_68 V S1 (1 : Int32) h
    · refine x_ite h (fun hc h => ?_) (fun hc1_19 h => ?_)
      · refine x_tableIn X 69 dX6_glyphValue_19 (by rw [hc]; decide) (by rw [hc]; decide) (off := 50) (by rw [hc]; decide) (by decide) ?_
        refine x_aload_n X 0 dX6_glyphValue_69 rfl ?_
        refine xg_X6_136 X K (Nat.lt_of_lt_of_le (xIn_lt hb3) (by decide : 6 ≤ 12)) dX6_glyphValue_70 ?_
        exact x_iret X E dX6_glyphValue_73 ⟨_, rfl, h⟩
      · refine x_ite h (fun hc h => ?_) (fun hc2_19 h => ?_)
        · refine x_tableIn X 74 dX6_glyphValue_19 (by rw [hc]; decide) (by rw [hc]; decide) (off := 55) (by rw [hc]; decide) (by decide) ?_
          refine x_aload_n X 1 dX6_glyphValue_74 rfl ?_
          refine x_iload_n X 2 dX6_glyphValue_75 rfl ?_
          refine x_callr hA (x_runV (n := 1) (sh := shC cy) X K hR (fun _ q => q) (m_X6_drawnPresent hi  h) (kC_6 cy Nat.zero_lt_one) rfl rfl t2_125 t2_127 tp_7 t1_1 t2_128 ⟨by decide, by decide, by decide +kernel⟩ rfl (by decide) (by decide) rfl (Nat.le_of_ble_eq_true rfl) dX6_glyphValue_76) (fun r5 S4 hv6 h => ?_)
          replace h := h hv6
          refine xg_X6_154 X K hv6 dX6_glyphValue_79 ?_
          exact x_iret X E dX6_glyphValue_82 ⟨_, rfl, h⟩
        · refine x_ite h (fun hc h => ?_) (fun hc3_19 h => ?_)
          · refine x_tableIn X 83 dX6_glyphValue_19 (by rw [hc]; decide) (by rw [hc]; decide) (off := 64) (by rw [hc]; decide) (by decide) ?_
            refine x_aload_n X 1 dX6_glyphValue_83 rfl ?_
            refine x_iload_n X 2 dX6_glyphValue_84 rfl ?_
            refine x_callr hA (x_runV (n := 1) (sh := shC cy) X K hR (fun _ q => q) (m_X6_drawnPresent hi  h) (kC_6 cy Nat.zero_lt_one) rfl rfl t2_125 t2_127 tp_7 t1_1 t2_128 ⟨by decide, by decide, by decide +kernel⟩ rfl (by decide) (by decide) rfl (Nat.le_of_ble_eq_true rfl) dX6_glyphValue_85) (fun r8 S7 hv9 h => ?_)
            replace h := h hv9
            refine xg_X6_147 X K hv9 dX6_glyphValue_88 ?_
            exact x_iret X E dX6_glyphValue_91 ⟨_, rfl, h⟩
          · refine x_ite h (fun hc h => ?_) (fun hc4_19 h => ?_)
            · refine x_tableIn X 92 dX6_glyphValue_19 (by rw [hc]; decide) (by rw [hc]; decide) (off := 73) (by rw [hc]; decide) (by decide) ?_
              refine x_aload_n X 0 dX6_glyphValue_92 rfl ?_
              refine xg_X6_157 X K (Nat.lt_of_lt_of_le (xIn_lt hb3) (by decide : 6 ≤ 12)) dX6_glyphValue_93 ?_
              exact x_iret X E dX6_glyphValue_96 ⟨_, rfl, h⟩
            · refine x_ite h (fun hc h => ?_) (fun hc5_19 h => ?_)
              · refine x_tableIn X 97 dX6_glyphValue_19 (by rw [hc]; decide) (by rw [hc]; decide) (off := 78) (by rw [hc]; decide) (by decide) ?_
                refine x_aload_n X 0 dX6_glyphValue_97 rfl ?_
                refine xg_X6_160 X K (Nat.lt_of_lt_of_le (xIn_lt hb3) (by decide : 6 ≤ 12)) dX6_glyphValue_98 ?_
                refine x_iconst X (v := 0) dX6_glyphValue_101 (by decide) ?_
                obtain ⟨hb10, h⟩ := h
                refine xa_C12 X K (Nat.lt_of_lt_of_le (xIn_lt hb3) (by decide : 6 ≤ 12)) hb10 dX6_glyphValue_102 ?_
                exact x_iret X E dX6_glyphValue_103 ⟨_, rfl, h⟩
              · refine x_tableOut X 104 dX6_glyphValue_19 (xSw_0_5 hc0_19 hc1_19 hc2_19 hc3_19 hc4_19 hc5_19) (by decide) ?_
                refine x_ldc X (v := -1000005) t2_7 dX6_glyphValue_104 ?_
                exact x_iret X E dX6_glyphValue_106 ⟨_, rfl, h⟩
set_option maxHeartbeats 2000000 in
set_option maxRecDepth 20000 in
theorem m_X6_glyphValue {l : Launch} {D : va_G} {cy : Nat → ClassId} {ad : Nat → Nat → Nat} (hi : xInj (shC cy) ad) {a1 : Int32} {a2 : Int32} {S : xS} {Q : Int32 → xS → Prop} (h : wp_X6_glyphValue a1 a2 S Q) : xMet l D (xTys cy) (shC cy) ad yX6_glyphValue cX6_glyphValue 4 (some .int) (xRm 14 433) [.ref (ad 6 0), .int a1, .int a2] S (xQi Q) := xMet_env hi (by decide +kernel) rfl (Nat.le_of_ble_eq_true rfl) (fun g hl V => w_X6_glyphValue V h)
set_option maxHeartbeats 2000000 in
set_option maxRecDepth 20000 in
theorem w_X6_addTuple {g : xG} {D : va_G} {cy : Nat → ClassId} {ad : Nat → Nat → Nat} {a1 : Int32} {S : xS} {Q : Int32 → xS → Prop} (V : xEnv g D (xTys cy) (shC cy) ad RX6 cX6_addTuple (some .int) 1 21 3 (xQi Q)) (h : wp_X6_addTuple a1 S Q) : Wx g (xW D (shC cy) ad S) 0 [(0, .ref (ad 6 0)), (1, .int a1)] [] := by
  obtain ⟨X, K, hi, hA, hR, E, hN⟩ := V
  have V := xEnv_mk X K hi hA hR E hN
  unfold wp_X6_addTuple at h
  refine x_aload_n X 0 dX6_addTuple_0 rfl ?_
  refine x_iload_n X 1 dX6_addTuple_1 rfl ?_
  refine x_calli hA (x_runV (n := 1) (sh := shC cy) X K hR (fun _ q => q) (m_X6_hasGlyph hi  h) (kC_6 cy Nat.zero_lt_one) rfl rfl t2_97 t2_99 tp_4 t1_1 t2_100 ⟨by decide, by decide, by decide +kernel⟩ rfl (by decide) (by decide) rfl (Nat.le_of_ble_eq_true rfl) dX6_addTuple_2) (fun r2 S1 h => ?_)
  refine x_if_ne X 11 dX6_addTuple_5 (by decide) h (fun h => ?_) (fun h => ?_)
  · refine x_ldc X (v := -1000002) t2_101 dX6_addTuple_8 ?_
    exact x_iret X E dX6_addTuple_10 ⟨_, rfl, h⟩
  · refine x_aload_n X 0 dX6_addTuple_11 rfl ?_
    refine xg_X6_29 X K Nat.zero_lt_one dX6_addTuple_12 ?_
    refine x_iload_n X 1 dX6_addTuple_15 rfl ?_
    obtain ⟨hb3, h⟩ := h
    refine xa_C31 X K (show 0 < 1 by decide) hb3 dX6_addTuple_16 ?_
    refine x_astore_n X [(2, .ref (ad 1 a1.toNatClampNeg)), (0, .ref (ad 6 0)), (1, .int a1)] dX6_addTuple_17 (by rw [hN]; decide) rfl ?_
    refine x_aload_n X 0 dX6_addTuple_18 rfl ?_
    refine xg_X6_157 X K (Nat.lt_of_lt_of_le (xIn_lt hb3) (by decide : 6 ≤ 12)) dX6_addTuple_19 ?_
    refine x_iconst X (v := 5) dX6_addTuple_22 (by decide) ?_
    refine x_icmp_lt X 29 dX6_addTuple_23 (by decide) h (fun h => ?_) (fun h => ?_)
    · refine x_aload_n X 0 dX6_addTuple_29 rfl ?_
      refine xg_X6_163 X K (Nat.lt_of_lt_of_le (xIn_lt hb3) (by decide : 6 ≤ 12)) dX6_addTuple_30 ?_
      refine x_aload_n X 0 dX6_addTuple_33 rfl ?_
      refine xg_X6_157 X K (Nat.lt_of_lt_of_le (xIn_lt hb3) (by decide : 6 ≤ 12)) dX6_addTuple_34 ?_
      obtain ⟨⟨hb4, hv5⟩, h⟩ := h
      refine xa_C16 X K (Nat.lt_of_lt_of_le (xIn_lt hb3) (by decide : 6 ≤ 12)) hb4 dX6_addTuple_37 ?_
      refine x_callv hA (x_runV (n := 0) (sh := shC cy) X K hR (fun _ q => q) (m_X5_begin hi hv5 h) (kC_5 cy hv5) rfl rfl t2_192 t2_193 t2_194 t1_5 t2_195 ⟨by decide, by decide, by decide +kernel⟩ rfl (by decide) (by decide) rfl (Nat.le_of_ble_eq_true rfl) dX6_addTuple_38) (fun S6 h => ?_)
      refine x_aload_n X 0 dX6_addTuple_41 rfl ?_
      refine x_dup X dX6_addTuple_42 rfl ?_
      refine xg_X6_157 X K (Nat.lt_of_lt_of_le (xIn_lt hb3) (by decide : 6 ≤ 12)) dX6_addTuple_43 ?_
      refine x_iconst X (v := 1) dX6_addTuple_46 (by decide) ?_
      refine x_iadd X dX6_addTuple_47 ?_
      refine xp_X6_157 X K hi hA (Nat.lt_of_lt_of_le (xIn_lt hb3) (by decide : 6 ≤ 12)) dX6_addTuple_48 ?_
      refine x_aload_n X 0 dX6_addTuple_51 rfl ?_
      refine xg_X6_157 X K (Nat.lt_of_lt_of_le (xIn_lt hb3) (by decide : 6 ≤ 12)) dX6_addTuple_52 ?_
      refine x_iconst X (v := 1) dX6_addTuple_55 (by decide) ?_
      refine x_isub X dX6_addTuple_56 ?_
      exact x_iret X E dX6_addTuple_57 ⟨_, rfl, h⟩
    · refine x_ldc X (v := -1000006) t2_8 dX6_addTuple_26 ?_
      exact x_iret X E dX6_addTuple_28 ⟨_, rfl, h⟩
set_option maxHeartbeats 2000000 in
set_option maxRecDepth 20000 in
theorem m_X6_addTuple {l : Launch} {D : va_G} {cy : Nat → ClassId} {ad : Nat → Nat → Nat} (hi : xInj (shC cy) ad) {a1 : Int32} {S : xS} {Q : Int32 → xS → Prop} (h : wp_X6_addTuple a1 S Q) : xMet l D (xTys cy) (shC cy) ad yX6_addTuple cX6_addTuple 3 (some .int) (xRm 1 21) [.ref (ad 6 0), .int a1] S (xQi Q) := xMet_env hi (by decide +kernel) rfl (Nat.le_of_ble_eq_true rfl) (fun g hl V => w_X6_addTuple V h)
set_option maxHeartbeats 2000000 in
set_option maxRecDepth 20000 in
theorem w_X6_tupleError_37 {g : xG} {D : va_G} {cy : Nat → ClassId} {ad : Nat → Nat → Nat} {Q : Int32 → xS → Prop} (V : xEnv g D (xTys cy) (shC cy) ad RX6 cX6_tupleError (some .int) 1 22 3 (xQi Q)) (S : xS) (s0 : Int32) (h : wp_X6_tupleError_37 Q S s0) : Wx g (xW D (shC cy) ad S) 37 [] [.int s0] := by
  obtain ⟨X, K, hi, hA, hR, E, hN⟩ := V
  have V := xEnv_mk X K hi hA hR E hN
  unfold wp_X6_tupleError_37 at h
  exact x_iret X E dX6_tupleError_37 ⟨_, rfl, h⟩
set_option maxHeartbeats 2000000 in
set_option maxRecDepth 20000 in
theorem w_X6_tupleError {g : xG} {D : va_G} {cy : Nat → ClassId} {ad : Nat → Nat → Nat} {a1 : Int32} {a2 : Int32} {S : xS} {Q : Int32 → xS → Prop} (V : xEnv g D (xTys cy) (shC cy) ad RX6 cX6_tupleError (some .int) 1 22 3 (xQi Q)) (h : wp_X6_tupleError a1 a2 S Q) : Wx g (xW D (shC cy) ad S) 0 [(0, .ref (ad 6 0)), (1, .int a1), (2, .int a2)] [] := by
  obtain ⟨X, K, hi, hA, hR, E, hN⟩ := V
  have V := xEnv_mk X K hi hA hR E hN
  unfold wp_X6_tupleError at h
  refine x_aload_n X 0 dX6_tupleError_0 rfl ?_
  refine x_iload_n X 1 dX6_tupleError_1 rfl ?_
  refine x_calli hA (x_runV (n := 1) (sh := shC cy) X K hR (fun _ q => q) (m_X6_hasGlyph hi  h) (kC_6 cy Nat.zero_lt_one) rfl rfl t2_97 t2_99 tp_4 t1_1 t2_100 ⟨by decide, by decide, by decide +kernel⟩ rfl (by decide) (by decide) rfl (Nat.le_of_ble_eq_true rfl) dX6_tupleError_2) (fun r2 S1 h => ?_)
  refine x_if_ne X 11 dX6_tupleError_5 (by decide) h (fun h => ?_) (fun h => ?_)
  · refine x_ldc X (v := -1000002) t2_101 dX6_tupleError_8 ?_
    exact x_iret X E dX6_tupleError_10 ⟨_, rfl, h⟩
  · refine x_iload_n X 2 dX6_tupleError_11 rfl ?_
    refine x_iconst X (v := 0) dX6_tupleError_12 (by decide) ?_
    refine x_aload_n X 0 dX6_tupleError_13 rfl ?_
    refine xg_X6_29 X K Nat.zero_lt_one dX6_tupleError_14 ?_
    refine x_iload_n X 1 dX6_tupleError_17 rfl ?_
    obtain ⟨hb3, h⟩ := h
    refine xa_C31 X K (show 0 < 1 by decide) hb3 dX6_tupleError_18 ?_
    refine xg_X6_157 X K (Nat.lt_of_lt_of_le (xIn_lt hb3) (by decide : 6 ≤ 12)) dX6_tupleError_19 ?_
    refine x_iconst X (v := 1) dX6_tupleError_22 (by decide) ?_
    refine x_isub X dX6_tupleError_23 ?_
    refine x_calli hA (x_runS (n := 3) X K hR (fun _ q => q) (m_X6_within hi  h) t2_4 t2_5 t1_1 t2_6 ⟨by decide, by decide, by decide +kernel⟩ rfl (by decide) (by decide) rfl (Nat.le_of_ble_eq_true rfl) dX6_tupleError_24) (fun r5 S4 h => ?_)
    refine x_if_eq X 34 dX6_tupleError_27 (by decide) h (fun h => ?_) (fun h => ?_)
    · refine x_ldc_w X (v := -1000003) t2_204 dX6_tupleError_34 ?_
      refine x_sub [] rfl ?_
      exact w_X6_tupleError_37 V S4 (-1000003 : Int32) h
    · refine x_iconst X (v := 0) dX6_tupleError_30 (by decide) ?_
      refine x_goto X 37 dX6_tupleError_31 (by decide) ?_
      refine x_sub [] rfl ?_
      exact w_X6_tupleError_37 V S4 (0 : Int32) h
set_option maxHeartbeats 2000000 in
set_option maxRecDepth 20000 in
theorem m_X6_tupleError {l : Launch} {D : va_G} {cy : Nat → ClassId} {ad : Nat → Nat → Nat} (hi : xInj (shC cy) ad) {a1 : Int32} {a2 : Int32} {S : xS} {Q : Int32 → xS → Prop} (h : wp_X6_tupleError a1 a2 S Q) : xMet l D (xTys cy) (shC cy) ad yX6_tupleError cX6_tupleError 3 (some .int) (xRm 1 22) [.ref (ad 6 0), .int a1, .int a2] S (xQi Q) := xMet_env hi (by decide +kernel) rfl (Nat.le_of_ble_eq_true rfl) (fun g hl V => w_X6_tupleError V h)
set_option maxHeartbeats 2000000 in
set_option maxRecDepth 20000 in
theorem w_X6_setRegion_82 {g : xG} {D : va_G} {cy : Nat → ClassId} {ad : Nat → Nat → Nat} {Q : Int32 → xS → Prop} (V : xEnv g D (xTys cy) (shC cy) ad RX6 cX6_setRegion (some .int) 2 44 8 (xQi Q)) (S : xS) (h : wp_X6_setRegion_82 Q S) : Wx g (xW D (shC cy) ad S) 82 [] [] := by
  obtain ⟨X, K, hi, hA, hR, E, hN⟩ := V
  have V := xEnv_mk X K hi hA hR E hN
  unfold wp_X6_setRegion_82 at h
  refine x_ldc X (v := -1000005) t2_7 dX6_setRegion_82 ?_
  exact x_iret X E dX6_setRegion_84 ⟨_, rfl, h⟩
set_option maxHeartbeats 2000000 in
set_option maxRecDepth 20000 in
theorem w_X6_setRegion_114 {g : xG} {D : va_G} {cy : Nat → ClassId} {ad : Nat → Nat → Nat} {Q : Int32 → xS → Prop} (V : xEnv g D (xTys cy) (shC cy) ad RX6 cX6_setRegion (some .int) 2 44 8 (xQi Q)) (S : xS) (s0 : Int32) (h : wp_X6_setRegion_114 Q S s0) : Wx g (xW D (shC cy) ad S) 114 [] [.int s0] := by
  obtain ⟨X, K, hi, hA, hR, E, hN⟩ := V
  have V := xEnv_mk X K hi hA hR E hN
  unfold wp_X6_setRegion_114 at h
  exact x_iret X E dX6_setRegion_114 ⟨_, rfl, h⟩
set_option maxHeartbeats 2000000 in
set_option maxRecDepth 20000 in
theorem w_X6_setRegion_85 {g : xG} {D : va_G} {cy : Nat → ClassId} {ad : Nat → Nat → Nat} {a1 : Int32} {a2 : Int32} {a3 : Int32} {a4 : Int32} {a5 : Int32} {a6 : Int32} {Q : Int32 → xS → Prop} (V : xEnv g D (xTys cy) (shC cy) ad RX6 cX6_setRegion (some .int) 2 44 8 (xQi Q)) (S : xS) (h : wp_X6_setRegion_85 a1 a2 a3 a4 a5 a6 Q S) : Wx g (xW D (shC cy) ad S) 85 [(0, .ref (ad 6 0)), (1, .int a1), (2, .int a2), (3, .int a3), (4, .int a4), (5, .int a5), (6, .int a6)] [] := by
  obtain ⟨X, K, hi, hA, hR, E, hN⟩ := V
  have V := xEnv_mk X K hi hA hR E hN
  unfold wp_X6_setRegion_85 at h
  refine x_aload_n X 0 dX6_setRegion_85 rfl ?_
  refine xg_X6_29 X K (Nat.zero_lt_one) dX6_setRegion_86 ?_
  refine x_iload_n X 1 dX6_setRegion_89 rfl ?_
  obtain ⟨hb1, h⟩ := h
  refine xa_C31 X K (show 0 < 1 by decide) hb1 dX6_setRegion_90 ?_
  refine xg_X6_163 X K (Nat.lt_of_lt_of_le (xIn_lt hb1) (by decide : 6 ≤ 12)) dX6_setRegion_91 ?_
  refine x_iload_n X 2 dX6_setRegion_94 rfl ?_
  obtain ⟨⟨hb2, hv3⟩, h⟩ := h
  refine xa_C16 X K (Nat.lt_of_lt_of_le (xIn_lt hb1) (by decide : 6 ≤ 12)) hb2 dX6_setRegion_95 ?_
  refine x_iload_n X 3 dX6_setRegion_96 rfl ?_
  refine x_iload X 4 dX6_setRegion_97 rfl ?_
  refine x_iload X 5 dX6_setRegion_99 rfl ?_
  refine x_iload X 6 dX6_setRegion_101 rfl ?_
  refine x_calli hA (x_runV (n := 4) (sh := shC cy) X K hR (fun _ q => q) (m_X5_putRegion hi hv3 h) (kC_5 cy hv3) rfl rfl t2_205 t2_206 t2_207 t1_5 t2_208 ⟨by decide, by decide, by decide +kernel⟩ rfl (by decide) (by decide) rfl (Nat.le_of_ble_eq_true rfl) dX6_setRegion_103) (fun r5 S4 h => ?_)
  refine x_if_eq X 113 dX6_setRegion_106 (by decide) h (fun h => ?_) (fun h => ?_)
  · refine x_iconst X (v := 0) dX6_setRegion_113 (by decide) ?_
    refine x_sub [] rfl ?_
    exact w_X6_setRegion_114 V S4 (0 : Int32) h
  · refine x_iconst X (v := 1) dX6_setRegion_109 (by decide) ?_
    refine x_goto X 114 dX6_setRegion_110 (by decide) ?_
    refine x_sub [] rfl ?_
    exact w_X6_setRegion_114 V S4 (1 : Int32) h
set_option maxHeartbeats 2000000 in
set_option maxRecDepth 20000 in
theorem w_X6_setRegion {g : xG} {D : va_G} {cy : Nat → ClassId} {ad : Nat → Nat → Nat} {a1 : Int32} {a2 : Int32} {a3 : Int32} {a4 : Int32} {a5 : Int32} {a6 : Int32} {S : xS} {Q : Int32 → xS → Prop} (V : xEnv g D (xTys cy) (shC cy) ad RX6 cX6_setRegion (some .int) 2 44 8 (xQi Q)) (h : wp_X6_setRegion a1 a2 a3 a4 a5 a6 S Q) : Wx g (xW D (shC cy) ad S) 0 [(0, .ref (ad 6 0)), (1, .int a1), (2, .int a2), (3, .int a3), (4, .int a4), (5, .int a5), (6, .int a6)] [] := by
  obtain ⟨X, K, hi, hA, hR, E, hN⟩ := V
  have V := xEnv_mk X K hi hA hR E hN
  unfold wp_X6_setRegion at h
  refine x_aload_n X 0 dX6_setRegion_0 rfl ?_
  refine x_iload_n X 1 dX6_setRegion_1 rfl ?_
  refine x_iload_n X 2 dX6_setRegion_2 rfl ?_
  refine x_calli hA (x_runV (n := 2) (sh := shC cy) X K hR (fun _ q => q) (m_X6_tupleError hi  h) (kC_6 cy Nat.zero_lt_one) rfl rfl t2_200 t2_202 tp_10 t1_1 t2_203 ⟨by decide, by decide, by decide +kernel⟩ rfl (by decide) (by decide) rfl (Nat.le_of_ble_eq_true rfl) dX6_setRegion_3) (fun r2 S1 h => ?_)
  refine x_istore X [(7, .int r2), (0, .ref (ad 6 0)), (1, .int a1), (2, .int a2), (3, .int a3), (4, .int a4), (5, .int a5), (6, .int a6)] dX6_setRegion_6 (by rw [hN]; decide) rfl ?_
  refine x_iload X 0 dX6_setRegion_8 rfl ?_
  refine x_if_eq X 16 dX6_setRegion_10 (by decide) h (fun h => ?_) (fun h => ?_)
  · refine x_aload_n X 1 dX6_setRegion_16 rfl ?_
    refine x_iload_n X 4 dX6_setRegion_17 rfl ?_
    refine x_calli hA (x_runV (n := 1) (sh := shC cy) X K hR (fun _ q => q) (m_X6_hasAxis hi  h) (kC_6 cy Nat.zero_lt_one) rfl rfl t2_17 t2_19 tp_0 t1_1 t2_20 ⟨by decide, by decide, by decide +kernel⟩ rfl (by decide) (by decide) rfl (Nat.le_of_ble_eq_true rfl) dX6_setRegion_18) (fun r4 S3 h => ?_)
    refine x_if_ne X 27 dX6_setRegion_21 (by decide) h (fun h => ?_) (fun h => ?_)
    · refine x_ldc X (v := -1000001) t2_21 dX6_setRegion_24 ?_
      exact x_iret X E dX6_setRegion_26 ⟨_, rfl, h⟩
    · refine x_iload X 6 dX6_setRegion_27 rfl ?_
      refine x_sipush X (v := -16384) dX6_setRegion_29 (by decide) ?_
      refine x_sipush X (v := 16384) dX6_setRegion_32 (by decide) ?_
      refine x_calli hA (x_runS (n := 3) X K hR (fun _ q => q) (m_X6_within hi  h) t2_4 t2_5 t1_1 t2_6 ⟨by decide, by decide, by decide +kernel⟩ rfl (by decide) (by decide) rfl (Nat.le_of_ble_eq_true rfl) dX6_setRegion_35) (fun r6 S5 h => ?_)
      refine x_if_eq X 82 dX6_setRegion_38 (by decide) h (fun h => ?_) (fun h => ?_)
      · refine x_sub [] rfl ?_
        exact w_X6_setRegion_82 V S5 h
      · refine x_iload X 5 dX6_setRegion_41 rfl ?_
        refine x_sipush X (v := -16384) dX6_setRegion_43 (by decide) ?_
        refine x_iload X 6 dX6_setRegion_46 rfl ?_
        refine x_calli hA (x_runS (n := 3) X K hR (fun _ q => q) (m_X6_within hi  h) t2_4 t2_5 t1_1 t2_6 ⟨by decide, by decide, by decide +kernel⟩ rfl (by decide) (by decide) rfl (Nat.le_of_ble_eq_true rfl) dX6_setRegion_48) (fun r8 S7 h => ?_)
        refine x_if_eq X 82 dX6_setRegion_51 (by decide) h (fun h => ?_) (fun h => ?_)
        · refine x_sub [] rfl ?_
          exact w_X6_setRegion_82 V S7 h
        · refine x_iload X 7 dX6_setRegion_54 rfl ?_
          refine x_iload X 6 dX6_setRegion_56 rfl ?_
          refine x_sipush X (v := 16384) dX6_setRegion_58 (by decide) ?_
          refine x_calli hA (x_runS (n := 3) X K hR (fun _ q => q) (m_X6_within hi  h) t2_4 t2_5 t1_1 t2_6 ⟨by decide, by decide, by decide +kernel⟩ rfl (by decide) (by decide) rfl (Nat.le_of_ble_eq_true rfl) dX6_setRegion_61) (fun r10 S9 h => ?_)
          refine x_if_eq X 82 dX6_setRegion_64 (by decide) h (fun h => ?_) (fun h => ?_)
          · refine x_sub [] rfl ?_
            exact w_X6_setRegion_82 V S9 h
          · refine x_iload X 6 dX6_setRegion_67 rfl ?_
            refine x_if_eq X 85 dX6_setRegion_69 (by decide) h (fun h => ?_) (fun h => ?_)
            · refine x_sub [1, 2, 3, 4, 5, 6, 7] rfl ?_
              exact w_X6_setRegion_85 V S9 h
            · refine x_iload X 5 dX6_setRegion_72 rfl ?_
              refine x_if_ge X 85 dX6_setRegion_74 (by decide) h (fun h => ?_) (fun h => ?_)
              · refine x_sub [1, 2, 3, 4, 5, 6, 7] rfl ?_
                exact w_X6_setRegion_85 V S9 h
              · refine x_iload X 7 dX6_setRegion_77 rfl ?_
                refine x_if_le X 85 dX6_setRegion_79 (by decide) h (fun h => ?_) (fun h => ?_)
                · refine x_sub [1, 2, 3, 4, 5, 6, 7] rfl ?_
                  exact w_X6_setRegion_85 V S9 h
                · refine x_sub [] rfl ?_
                  exact w_X6_setRegion_82 V S9 h
  · refine x_iload X 0 dX6_setRegion_13 rfl ?_
    exact x_iret X E dX6_setRegion_15 ⟨_, rfl, h⟩
set_option maxHeartbeats 2000000 in
set_option maxRecDepth 20000 in
theorem m_X6_setRegion {l : Launch} {D : va_G} {cy : Nat → ClassId} {ad : Nat → Nat → Nat} (hi : xInj (shC cy) ad) {a1 : Int32} {a2 : Int32} {a3 : Int32} {a4 : Int32} {a5 : Int32} {a6 : Int32} {S : xS} {Q : Int32 → xS → Prop} (h : wp_X6_setRegion a1 a2 a3 a4 a5 a6 S Q) : xMet l D (xTys cy) (shC cy) ad yX6_setRegion cX6_setRegion 8 (some .int) (xRm 2 44) [.ref (ad 6 0), .int a1, .int a2, .int a3, .int a4, .int a5, .int a6] S (xQi Q) := xMet_env hi (by decide +kernel) rfl (Nat.le_of_ble_eq_true rfl) (fun g hl V => w_X6_setRegion V h)
set_option maxHeartbeats 2000000 in
set_option maxRecDepth 20000 in
theorem w_X6_hasPlace_23 {g : xG} {D : va_G} {cy : Nat → ClassId} {ad : Nat → Nat → Nat} {Q : Int32 → xS → Prop} (V : xEnv g D (xTys cy) (shC cy) ad RX6 cX6_hasPlace (some .boolean) 0 0 3 (xQi Q)) (S : xS) (s0 : Int32) (h : wp_X6_hasPlace_23 Q S s0) : Wx g (xW D (shC cy) ad S) 23 [] [.int s0] := by
  obtain ⟨X, K, hi, hA, hR, E, hN⟩ := V
  have V := xEnv_mk X K hi hA hR E hN
  unfold wp_X6_hasPlace_23 at h
  exact x_zret X E dX6_hasPlace_23 h.1 ⟨_, rfl, h.2⟩
set_option maxHeartbeats 2000000 in
set_option maxRecDepth 20000 in
theorem w_X6_hasPlace_22 {g : xG} {D : va_G} {cy : Nat → ClassId} {ad : Nat → Nat → Nat} {Q : Int32 → xS → Prop} (V : xEnv g D (xTys cy) (shC cy) ad RX6 cX6_hasPlace (some .boolean) 0 0 3 (xQi Q)) (S : xS) (h : wp_X6_hasPlace_22 Q S) : Wx g (xW D (shC cy) ad S) 22 [] [] := by
  obtain ⟨X, K, hi, hA, hR, E, hN⟩ := V
  have V := xEnv_mk X K hi hA hR E hN
  unfold wp_X6_hasPlace_22 at h
  refine x_iconst X (v := 0) dX6_hasPlace_22 (by decide) ?_
  refine x_sub [] rfl ?_
  exact w_X6_hasPlace_23 V S (0 : Int32) h
set_option maxHeartbeats 2000000 in
set_option maxRecDepth 20000 in
theorem w_X6_hasPlace {g : xG} {D : va_G} {cy : Nat → ClassId} {ad : Nat → Nat → Nat} {a1 : Int32} {a2 : Int32} {S : xS} {Q : Int32 → xS → Prop} (V : xEnv g D (xTys cy) (shC cy) ad RX6 cX6_hasPlace (some .boolean) 0 0 3 (xQi Q)) (h : wp_X6_hasPlace a1 a2 S Q) : Wx g (xW D (shC cy) ad S) 0 [(0, .ref (ad 6 0)), (1, .int a1), (2, .int a2)] [] := by
  obtain ⟨X, K, hi, hA, hR, E, hN⟩ := V
  have V := xEnv_mk X K hi hA hR E hN
  unfold wp_X6_hasPlace at h
  refine x_iload_n X 2 dX6_hasPlace_0 rfl ?_
  refine x_iconst X (v := -1) dX6_hasPlace_1 (by decide) ?_
  refine x_icmp_lt X 22 dX6_hasPlace_2 (by decide) h (fun h => ?_) (fun h => ?_)
  · refine x_sub [] rfl ?_
    exact w_X6_hasPlace_22 V S h
  · refine x_iload_n X 2 dX6_hasPlace_5 rfl ?_
    refine x_aload_n X 0 dX6_hasPlace_6 rfl ?_
    refine xg_X6_29 X K Nat.zero_lt_one dX6_hasPlace_7 ?_
    refine x_iload_n X 1 dX6_hasPlace_10 rfl ?_
    obtain ⟨hb1, h⟩ := h
    refine xa_C31 X K (show 0 < 1 by decide) hb1 dX6_hasPlace_11 ?_
    refine xg_X6_136 X K (Nat.lt_of_lt_of_le (xIn_lt hb1) (by decide : 6 ≤ 12)) dX6_hasPlace_12 ?_
    refine x_icmp_ge X 22 dX6_hasPlace_15 (by decide) h (fun h => ?_) (fun h => ?_)
    · refine x_sub [] rfl ?_
      exact w_X6_hasPlace_22 V S h
    · refine x_iconst X (v := 1) dX6_hasPlace_18 (by decide) ?_
      refine x_goto X 23 dX6_hasPlace_19 (by decide) ?_
      refine x_sub [] rfl ?_
      exact w_X6_hasPlace_23 V S (1 : Int32) h
set_option maxHeartbeats 2000000 in
set_option maxRecDepth 20000 in
theorem m_X6_hasPlace {l : Launch} {D : va_G} {cy : Nat → ClassId} {ad : Nat → Nat → Nat} (hi : xInj (shC cy) ad) {a1 : Int32} {a2 : Int32} {S : xS} {Q : Int32 → xS → Prop} (h : wp_X6_hasPlace a1 a2 S Q) : xMet l D (xTys cy) (shC cy) ad yX6_hasPlace cX6_hasPlace 3 (some .boolean) (xRm 0 0) [.ref (ad 6 0), .int a1, .int a2] S (xQi Q) := xMet_env hi (by decide +kernel) rfl (Nat.le_of_ble_eq_true rfl) (fun g hl V => w_X6_hasPlace V h)
set_option maxHeartbeats 2000000 in
set_option maxRecDepth 20000 in
theorem w_X6_pointError_32 {g : xG} {D : va_G} {cy : Nat → ClassId} {ad : Nat → Nat → Nat} {Q : Int32 → xS → Prop} (V : xEnv g D (xTys cy) (shC cy) ad RX6 cX6_pointError (some .int) 2 44 5 (xQi Q)) (S : xS) (s0 : Int32) (h : wp_X6_pointError_32 Q S s0) : Wx g (xW D (shC cy) ad S) 32 [] [.int s0] := by
  obtain ⟨X, K, hi, hA, hR, E, hN⟩ := V
  have V := xEnv_mk X K hi hA hR E hN
  unfold wp_X6_pointError_32 at h
  exact x_iret X E dX6_pointError_32 ⟨_, rfl, h⟩
set_option maxHeartbeats 2000000 in
set_option maxRecDepth 20000 in
theorem w_X6_pointError {g : xG} {D : va_G} {cy : Nat → ClassId} {ad : Nat → Nat → Nat} {a1 : Int32} {a2 : Int32} {a3 : Int32} {S : xS} {Q : Int32 → xS → Prop} (V : xEnv g D (xTys cy) (shC cy) ad RX6 cX6_pointError (some .int) 2 44 5 (xQi Q)) (h : wp_X6_pointError a1 a2 a3 S Q) : Wx g (xW D (shC cy) ad S) 0 [(0, .ref (ad 6 0)), (1, .int a1), (2, .int a2), (3, .int a3)] [] := by
  obtain ⟨X, K, hi, hA, hR, E, hN⟩ := V
  have V := xEnv_mk X K hi hA hR E hN
  unfold wp_X6_pointError at h
  refine x_aload_n X 0 dX6_pointError_0 rfl ?_
  refine x_iload_n X 1 dX6_pointError_1 rfl ?_
  refine x_iload_n X 2 dX6_pointError_2 rfl ?_
  refine x_calli hA (x_runV (n := 2) (sh := shC cy) X K hR (fun _ q => q) (m_X6_tupleError hi  h) (kC_6 cy Nat.zero_lt_one) rfl rfl t2_200 t2_202 tp_10 t1_1 t2_203 ⟨by decide, by decide, by decide +kernel⟩ rfl (by decide) (by decide) rfl (Nat.le_of_ble_eq_true rfl) dX6_pointError_3) (fun r2 S1 h => ?_)
  refine x_istore X [(4, .int r2), (0, .ref (ad 6 0)), (1, .int a1), (2, .int a2), (3, .int a3)] dX6_pointError_6 (by rw [hN]; decide) rfl ?_
  refine x_iload X 0 dX6_pointError_8 rfl ?_
  refine x_if_eq X 16 dX6_pointError_10 (by decide) h (fun h => ?_) (fun h => ?_)
  · refine x_aload_n X 1 dX6_pointError_16 rfl ?_
    refine x_iload_n X 2 dX6_pointError_17 rfl ?_
    refine x_iload_n X 4 dX6_pointError_18 rfl ?_
    refine x_calli hA (x_runV (n := 2) (sh := shC cy) X K hR (fun _ q => q) (m_X6_hasPlace hi  h) (kC_6 cy Nat.zero_lt_one) rfl rfl t2_217 t2_219 tp_12 t1_1 t2_220 ⟨by decide, by decide, by decide +kernel⟩ rfl (by decide) (by decide) rfl (Nat.le_of_ble_eq_true rfl) dX6_pointError_19) (fun r4 S3 h => ?_)
    refine x_if_eq X 29 dX6_pointError_22 (by decide) h (fun h => ?_) (fun h => ?_)
    · refine x_ldc_w X (v := -1000004) t2_221 dX6_pointError_29 ?_
      refine x_sub [] rfl ?_
      exact w_X6_pointError_32 V S3 (-1000004 : Int32) h
    · refine x_iconst X (v := 0) dX6_pointError_25 (by decide) ?_
      refine x_goto X 32 dX6_pointError_26 (by decide) ?_
      refine x_sub [] rfl ?_
      exact w_X6_pointError_32 V S3 (0 : Int32) h
  · refine x_iload X 0 dX6_pointError_13 rfl ?_
    exact x_iret X E dX6_pointError_15 ⟨_, rfl, h⟩
set_option maxHeartbeats 2000000 in
set_option maxRecDepth 20000 in
theorem m_X6_pointError {l : Launch} {D : va_G} {cy : Nat → ClassId} {ad : Nat → Nat → Nat} (hi : xInj (shC cy) ad) {a1 : Int32} {a2 : Int32} {a3 : Int32} {S : xS} {Q : Int32 → xS → Prop} (h : wp_X6_pointError a1 a2 a3 S Q) : xMet l D (xTys cy) (shC cy) ad yX6_pointError cX6_pointError 5 (some .int) (xRm 2 44) [.ref (ad 6 0), .int a1, .int a2, .int a3] S (xQi Q) := xMet_env hi (by decide +kernel) rfl (Nat.le_of_ble_eq_true rfl) (fun g hl V => w_X6_pointError V h)
set_option maxHeartbeats 2000000 in
set_option maxRecDepth 20000 in
theorem w_X6_touch_59 {g : xG} {D : va_G} {cy : Nat → ClassId} {ad : Nat → Nat → Nat} {Q : Int32 → xS → Prop} (V : xEnv g D (xTys cy) (shC cy) ad RX6 cX6_touch (some .int) 3 68 10 (xQi Q)) (S : xS) (h : wp_X6_touch_59 Q S) : Wx g (xW D (shC cy) ad S) 59 [] [] := by
  obtain ⟨X, K, hi, hA, hR, E, hN⟩ := V
  have V := xEnv_mk X K hi hA hR E hN
  unfold wp_X6_touch_59 at h
  refine x_ldc X (v := -1000005) t2_7 dX6_touch_59 ?_
  exact x_iret X E dX6_touch_61 ⟨_, rfl, h⟩
set_option maxHeartbeats 2000000 in
set_option maxRecDepth 20000 in
theorem w_X6_touch_107 {g : xG} {D : va_G} {cy : Nat → ClassId} {ad : Nat → Nat → Nat} {Q : Int32 → xS → Prop} (V : xEnv g D (xTys cy) (shC cy) ad RX6 cX6_touch (some .int) 3 68 10 (xQi Q)) (S : xS) (s0 : Int32) (h : wp_X6_touch_107 Q S s0) : Wx g (xW D (shC cy) ad S) 107 [] [.int s0] := by
  obtain ⟨X, K, hi, hA, hR, E, hN⟩ := V
  have V := xEnv_mk X K hi hA hR E hN
  unfold wp_X6_touch_107 at h
  exact x_iret X E dX6_touch_107 ⟨_, rfl, h⟩
set_option maxHeartbeats 2000000 in
set_option maxRecDepth 20000 in
theorem w_X6_touch_30 {g : xG} {D : va_G} {cy : Nat → ClassId} {ad : Nat → Nat → Nat} {a1 : Int32} {a2 : Int32} {a3 : Int32} {a4 : Int32} {a5 : Int32} {Q : Int32 → xS → Prop} (V : xEnv g D (xTys cy) (shC cy) ad RX6 cX6_touch (some .int) 3 68 10 (xQi Q)) (S : xS) (s0 : Int32) (h : wp_X6_touch_30 a1 a2 a3 a4 a5 Q S s0) : Wx g (xW D (shC cy) ad S) 30 [(0, .ref (ad 6 0)), (1, .int a1), (2, .int a2), (3, .int a3), (4, .int a4), (5, .int a5)] [.int s0] := by
  obtain ⟨X, K, hi, hA, hR, E, hN⟩ := V
  have V := xEnv_mk X K hi hA hR E hN
  unfold wp_X6_touch_30 at h
  refine x_istore X [(7, .int s0), (0, .ref (ad 6 0)), (1, .int a1), (2, .int a2), (3, .int a3), (4, .int a4), (5, .int a5)] dX6_touch_30 (by rw [hN]; decide) rfl ?_
  refine x_iload X 5 dX6_touch_32 rfl ?_
  refine x_sipush X (v := -2000) dX6_touch_34 (by decide) ?_
  refine x_sipush X (v := 2000) dX6_touch_37 (by decide) ?_
  refine x_calli hA (x_runS (n := 3) X K hR (fun _ q => q) (m_X6_within hi  h) t2_4 t2_5 t1_1 t2_6 ⟨by decide, by decide, by decide +kernel⟩ rfl (by decide) (by decide) rfl (Nat.le_of_ble_eq_true rfl) dX6_touch_40) (fun r2 S1 h => ?_)
  refine x_if_eq X 59 dX6_touch_43 (by decide) h (fun h => ?_) (fun h => ?_)
  · refine x_sub [] rfl ?_
    exact w_X6_touch_59 V S1 h
  · refine x_iload X 6 dX6_touch_46 rfl ?_
    refine x_iload X 0 dX6_touch_48 rfl ?_
    refine x_ineg X dX6_touch_50 ?_
    refine x_iload X 0 dX6_touch_51 rfl ?_
    refine x_calli hA (x_runS (n := 3) X K hR (fun _ q => q) (m_X6_within hi  h) t2_4 t2_5 t1_1 t2_6 ⟨by decide, by decide, by decide +kernel⟩ rfl (by decide) (by decide) rfl (Nat.le_of_ble_eq_true rfl) dX6_touch_53) (fun r4 S3 h => ?_)
    refine x_if_ne X 62 dX6_touch_56 (by decide) h (fun h => ?_) (fun h => ?_)
    · refine x_sub [] rfl ?_
      exact w_X6_touch_59 V S3 h
    · refine x_aload_n X 1 dX6_touch_62 rfl ?_
      refine xg_X6_29 X K (Nat.zero_lt_one) dX6_touch_63 ?_
      refine x_iload_n X 2 dX6_touch_66 rfl ?_
      obtain ⟨hb5, h⟩ := h
      refine xa_C31 X K (show 0 < 1 by decide) hb5 dX6_touch_67 ?_
      refine xg_X6_163 X K (Nat.lt_of_lt_of_le (xIn_lt hb5) (by decide : 6 ≤ 12)) dX6_touch_68 ?_
      refine x_iload_n X 3 dX6_touch_71 rfl ?_
      obtain ⟨⟨hb6, hv7⟩, h⟩ := h
      refine xa_C16 X K (Nat.lt_of_lt_of_le (xIn_lt hb5) (by decide : 6 ≤ 12)) hb6 dX6_touch_72 ?_
      refine x_astore X [(8, .ref (ad 5 (S3.2.2 16 a1.toNatClampNeg a2.toNatClampNeg))), (7, .int s0), (0, .ref (ad 6 0)), (1, .int a1), (2, .int a2), (3, .int a3), (4, .int a4), (5, .int a5)] dX6_touch_73 (by rw [hN]; decide) rfl ?_
      refine x_aload X 0 dX6_touch_75 rfl ?_
      refine x_iload_n X 5 dX6_touch_77 rfl ?_
      refine x_iconst X (v := 1) dX6_touch_78 (by decide) ?_
      refine x_iadd X dX6_touch_79 ?_
      refine x_calli hA (x_runV (n := 1) (sh := shC cy) X K hR (fun _ q => q) (m_X5_touches hi hv7 h) (kC_5 cy hv7) rfl rfl t2_222 t2_162 t2_163 t1_5 t2_164 ⟨by decide, by decide, by decide +kernel⟩ rfl (by decide) (by decide) rfl (Nat.le_of_ble_eq_true rfl) dX6_touch_80) (fun r9 S8 h => ?_)
      refine x_istore X [(9, .int r9), (8, .ref (ad 5 (S3.2.2 16 a1.toNatClampNeg a2.toNatClampNeg))), (7, .int s0), (0, .ref (ad 6 0)), (1, .int a1), (2, .int a2), (3, .int a3), (4, .int a4), (5, .int a5)] dX6_touch_83 (by rw [hN]; decide) rfl ?_
      refine x_aload X 1 dX6_touch_85 rfl ?_
      refine x_iload_n X 6 dX6_touch_87 rfl ?_
      refine x_iconst X (v := 1) dX6_touch_88 (by decide) ?_
      refine x_iadd X dX6_touch_89 ?_
      refine x_iload X 7 dX6_touch_90 rfl ?_
      refine x_iload X 8 dX6_touch_92 rfl ?_
      refine x_callv hA (x_runV (n := 3) (sh := shC cy) X K hR (fun _ q => q) (m_X5_putDelta hi hv7 h) (kC_5 cy hv7) rfl rfl t2_223 t2_224 t2_225 t1_5 t2_226 ⟨by decide, by decide, by decide +kernel⟩ rfl (by decide) (by decide) rfl (Nat.le_of_ble_eq_true rfl) dX6_touch_94) (fun S10 h => ?_)
      refine x_iload X 0 dX6_touch_97 rfl ?_
      refine x_if_eq X 106 dX6_touch_99 (by decide) h (fun h => ?_) (fun h => ?_)
      · refine x_iconst X (v := 1) dX6_touch_106 (by decide) ?_
        refine x_sub [] rfl ?_
        exact w_X6_touch_107 V S10 (1 : Int32) h
      · refine x_iconst X (v := 0) dX6_touch_102 (by decide) ?_
        refine x_goto X 107 dX6_touch_103 (by decide) ?_
        refine x_sub [] rfl ?_
        exact w_X6_touch_107 V S10 (0 : Int32) h
set_option maxHeartbeats 2000000 in
set_option maxRecDepth 20000 in
theorem w_X6_touch {g : xG} {D : va_G} {cy : Nat → ClassId} {ad : Nat → Nat → Nat} {a1 : Int32} {a2 : Int32} {a3 : Int32} {a4 : Int32} {a5 : Int32} {S : xS} {Q : Int32 → xS → Prop} (V : xEnv g D (xTys cy) (shC cy) ad RX6 cX6_touch (some .int) 3 68 10 (xQi Q)) (h : wp_X6_touch a1 a2 a3 a4 a5 S Q) : Wx g (xW D (shC cy) ad S) 0 [(0, .ref (ad 6 0)), (1, .int a1), (2, .int a2), (3, .int a3), (4, .int a4), (5, .int a5)] [] := by
  obtain ⟨X, K, hi, hA, hR, E, hN⟩ := V
  have V := xEnv_mk X K hi hA hR E hN
  unfold wp_X6_touch at h
  refine x_aload_n X 0 dX6_touch_0 rfl ?_
  refine x_iload_n X 1 dX6_touch_1 rfl ?_
  refine x_iload_n X 2 dX6_touch_2 rfl ?_
  refine x_iload_n X 3 dX6_touch_3 rfl ?_
  refine x_calli hA (x_runV (n := 3) (sh := shC cy) X K hR (fun _ q => q) (m_X6_pointError hi  h) (kC_6 cy Nat.zero_lt_one) rfl rfl t2_213 t2_215 tp_11 t1_1 t2_216 ⟨by decide, by decide, by decide +kernel⟩ rfl (by decide) (by decide) rfl (Nat.le_of_ble_eq_true rfl) dX6_touch_4) (fun r2 S1 h => ?_)
  refine x_istore X [(6, .int r2), (0, .ref (ad 6 0)), (1, .int a1), (2, .int a2), (3, .int a3), (4, .int a4), (5, .int a5)] dX6_touch_7 (by rw [hN]; decide) rfl ?_
  refine x_iload X 0 dX6_touch_9 rfl ?_
  refine x_if_eq X 17 dX6_touch_11 (by decide) h (fun h => ?_) (fun h => ?_)
  · refine x_iload_n X 4 dX6_touch_17 rfl ?_
    refine x_iconst X (v := 1) dX6_touch_18 (by decide) ?_
    refine x_iadd X dX6_touch_19 ?_
    refine x_if_ne X 27 dX6_touch_20 (by decide) h (fun h => ?_) (fun h => ?_)
    · refine x_iconst X (v := 0) dX6_touch_23 (by decide) ?_
      refine x_goto X 30 dX6_touch_24 (by decide) ?_
      refine x_sub [1, 2, 3, 4, 5, 6] rfl ?_
      exact w_X6_touch_30 V S1 (0 : Int32) h
    · refine x_sipush X (v := 2000) dX6_touch_27 (by decide) ?_
      refine x_sub [1, 2, 3, 4, 5, 6] rfl ?_
      exact w_X6_touch_30 V S1 (2000 : Int32) h
  · refine x_iload X 0 dX6_touch_14 rfl ?_
    exact x_iret X E dX6_touch_16 ⟨_, rfl, h⟩
set_option maxHeartbeats 2000000 in
set_option maxRecDepth 20000 in
theorem m_X6_touch {l : Launch} {D : va_G} {cy : Nat → ClassId} {ad : Nat → Nat → Nat} (hi : xInj (shC cy) ad) {a1 : Int32} {a2 : Int32} {a3 : Int32} {a4 : Int32} {a5 : Int32} {S : xS} {Q : Int32 → xS → Prop} (h : wp_X6_touch a1 a2 a3 a4 a5 S Q) : xMet l D (xTys cy) (shC cy) ad yX6_touch cX6_touch 10 (some .int) (xRm 3 68) [.ref (ad 6 0), .int a1, .int a2, .int a3, .int a4, .int a5] S (xQi Q) := xMet_env hi (by decide +kernel) rfl (Nat.le_of_ble_eq_true rfl) (fun g hl V => w_X6_touch V h)
set_option maxHeartbeats 2000000 in
set_option maxRecDepth 20000 in
theorem w_X6_release_58 {g : xG} {D : va_G} {cy : Nat → ClassId} {ad : Nat → Nat → Nat} {Q : Int32 → xS → Prop} (V : xEnv g D (xTys cy) (shC cy) ad RX6 cX6_release (some .int) 3 68 7 (xQi Q)) (S : xS) (s0 : Int32) (h : wp_X6_release_58 Q S s0) : Wx g (xW D (shC cy) ad S) 58 [] [.int s0] := by
  obtain ⟨X, K, hi, hA, hR, E, hN⟩ := V
  have V := xEnv_mk X K hi hA hR E hN
  unfold wp_X6_release_58 at h
  exact x_iret X E dX6_release_58 ⟨_, rfl, h⟩
set_option maxHeartbeats 2000000 in
set_option maxRecDepth 20000 in
theorem w_X6_release {g : xG} {D : va_G} {cy : Nat → ClassId} {ad : Nat → Nat → Nat} {a1 : Int32} {a2 : Int32} {a3 : Int32} {S : xS} {Q : Int32 → xS → Prop} (V : xEnv g D (xTys cy) (shC cy) ad RX6 cX6_release (some .int) 3 68 7 (xQi Q)) (h : wp_X6_release a1 a2 a3 S Q) : Wx g (xW D (shC cy) ad S) 0 [(0, .ref (ad 6 0)), (1, .int a1), (2, .int a2), (3, .int a3)] [] := by
  obtain ⟨X, K, hi, hA, hR, E, hN⟩ := V
  have V := xEnv_mk X K hi hA hR E hN
  unfold wp_X6_release at h
  refine x_aload_n X 0 dX6_release_0 rfl ?_
  refine x_iload_n X 1 dX6_release_1 rfl ?_
  refine x_iload_n X 2 dX6_release_2 rfl ?_
  refine x_iload_n X 3 dX6_release_3 rfl ?_
  refine x_calli hA (x_runV (n := 3) (sh := shC cy) X K hR (fun _ q => q) (m_X6_pointError hi  h) (kC_6 cy Nat.zero_lt_one) rfl rfl t2_213 t2_215 tp_11 t1_1 t2_216 ⟨by decide, by decide, by decide +kernel⟩ rfl (by decide) (by decide) rfl (Nat.le_of_ble_eq_true rfl) dX6_release_4) (fun r2 S1 h => ?_)
  refine x_istore X [(4, .int r2), (0, .ref (ad 6 0)), (1, .int a1), (2, .int a2), (3, .int a3)] dX6_release_7 (by rw [hN]; decide) rfl ?_
  refine x_iload X 0 dX6_release_9 rfl ?_
  refine x_if_eq X 17 dX6_release_11 (by decide) h (fun h => ?_) (fun h => ?_)
  · refine x_aload_n X 1 dX6_release_17 rfl ?_
    refine xg_X6_29 X K Nat.zero_lt_one dX6_release_18 ?_
    refine x_iload_n X 2 dX6_release_21 rfl ?_
    obtain ⟨hb3, h⟩ := h
    refine xa_C31 X K (show 0 < 1 by decide) hb3 dX6_release_22 ?_
    refine xg_X6_163 X K (Nat.lt_of_lt_of_le (xIn_lt hb3) (by decide : 6 ≤ 12)) dX6_release_23 ?_
    refine x_iload_n X 3 dX6_release_26 rfl ?_
    obtain ⟨⟨hb4, hv5⟩, h⟩ := h
    refine xa_C16 X K (Nat.lt_of_lt_of_le (xIn_lt hb3) (by decide : 6 ≤ 12)) hb4 dX6_release_27 ?_
    refine x_astore X [(5, .ref (ad 5 (S1.2.2 16 a1.toNatClampNeg a2.toNatClampNeg))), (4, .int r2), (0, .ref (ad 6 0)), (1, .int a1), (2, .int a2), (3, .int a3)] dX6_release_28 (by rw [hN]; decide) rfl ?_
    refine x_aload X 0 dX6_release_30 rfl ?_
    refine x_iload_n X 5 dX6_release_32 rfl ?_
    refine x_iconst X (v := 1) dX6_release_33 (by decide) ?_
    refine x_iadd X dX6_release_34 ?_
    refine x_calli hA (x_runV (n := 1) (sh := shC cy) X K hR (fun _ q => q) (m_X5_touches hi hv5 h) (kC_5 cy hv5) rfl rfl t2_222 t2_162 t2_163 t1_5 t2_164 ⟨by decide, by decide, by decide +kernel⟩ rfl (by decide) (by decide) rfl (Nat.le_of_ble_eq_true rfl) dX6_release_35) (fun r7 S6 h => ?_)
    refine x_istore X [(6, .int r7), (5, .ref (ad 5 (S1.2.2 16 a1.toNatClampNeg a2.toNatClampNeg))), (4, .int r2), (0, .ref (ad 6 0)), (1, .int a1), (2, .int a2), (3, .int a3)] dX6_release_38 (by rw [hN]; decide) rfl ?_
    refine x_aload X 1 dX6_release_40 rfl ?_
    refine x_iload_n X 6 dX6_release_42 rfl ?_
    refine x_iconst X (v := 1) dX6_release_43 (by decide) ?_
    refine x_iadd X dX6_release_44 ?_
    refine x_callv hA (x_runV (n := 1) (sh := shC cy) X K hR (fun _ q => q) (m_X5_dropTouch hi hv5 h) (kC_5 cy hv5) rfl rfl t2_231 t2_232 t2_233 t1_5 t2_234 ⟨by decide, by decide, by decide +kernel⟩ rfl (by decide) (by decide) rfl (Nat.le_of_ble_eq_true rfl) dX6_release_45) (fun S8 h => ?_)
    refine x_iload X 0 dX6_release_48 rfl ?_
    refine x_if_eq X 57 dX6_release_50 (by decide) h (fun h => ?_) (fun h => ?_)
    · refine x_iconst X (v := 0) dX6_release_57 (by decide) ?_
      refine x_sub [] rfl ?_
      exact w_X6_release_58 V S8 (0 : Int32) h
    · refine x_iconst X (v := 1) dX6_release_53 (by decide) ?_
      refine x_goto X 58 dX6_release_54 (by decide) ?_
      refine x_sub [] rfl ?_
      exact w_X6_release_58 V S8 (1 : Int32) h
  · refine x_iload X 0 dX6_release_14 rfl ?_
    exact x_iret X E dX6_release_16 ⟨_, rfl, h⟩
set_option maxHeartbeats 2000000 in
set_option maxRecDepth 20000 in
theorem m_X6_release {l : Launch} {D : va_G} {cy : Nat → ClassId} {ad : Nat → Nat → Nat} (hi : xInj (shC cy) ad) {a1 : Int32} {a2 : Int32} {a3 : Int32} {S : xS} {Q : Int32 → xS → Prop} (h : wp_X6_release a1 a2 a3 S Q) : xMet l D (xTys cy) (shC cy) ad yX6_release cX6_release 7 (some .int) (xRm 3 68) [.ref (ad 6 0), .int a1, .int a2, .int a3] S (xQi Q) := xMet_env hi (by decide +kernel) rfl (Nat.le_of_ble_eq_true rfl) (fun g hl V => w_X6_release V h)
set_option maxHeartbeats 2000000 in
set_option maxRecDepth 20000 in
theorem w_X6_delta {g : xG} {D : va_G} {cy : Nat → ClassId} {ad : Nat → Nat → Nat} {a1 : Int32} {a2 : Int32} {a3 : Int32} {a4 : Int32} {S : xS} {Q : Int32 → xS → Prop} (V : xEnv g D (xTys cy) (shC cy) ad RX6 cX6_delta (some .int) 4 103 7 (xQi Q)) (h : wp_X6_delta a1 a2 a3 a4 S Q) : Wx g (xW D (shC cy) ad S) 0 [(0, .ref (ad 6 0)), (1, .int a1), (2, .int a2), (3, .int a3), (4, .int a4)] [] := by
  obtain ⟨X, K, hi, hA, hR, E, hN⟩ := V
  have V := xEnv_mk X K hi hA hR E hN
  unfold wp_X6_delta at h
  refine x_aload_n X 0 dX6_delta_0 rfl ?_
  refine x_iload_n X 1 dX6_delta_1 rfl ?_
  refine x_iload_n X 2 dX6_delta_2 rfl ?_
  refine x_iload_n X 3 dX6_delta_3 rfl ?_
  refine x_calli hA (x_runV (n := 3) (sh := shC cy) X K hR (fun _ q => q) (m_X6_pointError hi  h) (kC_6 cy Nat.zero_lt_one) rfl rfl t2_213 t2_215 tp_11 t1_1 t2_216 ⟨by decide, by decide, by decide +kernel⟩ rfl (by decide) (by decide) rfl (Nat.le_of_ble_eq_true rfl) dX6_delta_4) (fun r2 S1 h => ?_)
  refine x_istore X [(5, .int r2), (0, .ref (ad 6 0)), (1, .int a1), (2, .int a2), (3, .int a3), (4, .int a4)] dX6_delta_7 (by rw [hN]; decide) rfl ?_
  refine x_iload X 0 dX6_delta_9 rfl ?_
  refine x_if_eq X 17 dX6_delta_11 (by decide) h (fun h => ?_) (fun h => ?_)
  · refine x_aload_n X 1 dX6_delta_17 rfl ?_
    refine xg_X6_29 X K Nat.zero_lt_one dX6_delta_18 ?_
    refine x_iload_n X 2 dX6_delta_21 rfl ?_
    obtain ⟨hb3, h⟩ := h
    refine xa_C31 X K (show 0 < 1 by decide) hb3 dX6_delta_22 ?_
    refine x_astore X [(6, .ref (ad 1 a1.toNatClampNeg)), (5, .int r2), (0, .ref (ad 6 0)), (1, .int a1), (2, .int a2), (3, .int a3), (4, .int a4)] dX6_delta_23 (by rw [hN]; decide) rfl ?_
    refine x_aload X 0 dX6_delta_25 rfl ?_
    refine x_aload X 0 dX6_delta_27 rfl ?_
    refine xg_X6_163 X K (Nat.lt_of_lt_of_le (xIn_lt hb3) (by decide : 6 ≤ 12)) dX6_delta_29 ?_
    refine x_iload_n X 4 dX6_delta_32 rfl ?_
    obtain ⟨⟨hb4, hv5⟩, h⟩ := h
    refine xa_C16 X K (Nat.lt_of_lt_of_le (xIn_lt hb3) (by decide : 6 ≤ 12)) hb4 dX6_delta_33 ?_
    refine x_iload_n X 5 dX6_delta_34 rfl ?_
    refine x_iconst X (v := 1) dX6_delta_35 (by decide) ?_
    refine x_iadd X dX6_delta_36 ?_
    refine x_iload X 6 dX6_delta_37 rfl ?_
    refine x_calli hA (x_runV (n := 3) (sh := shC cy) X K hR (fun _ q => q) (m_X1_deltaAt hi (Nat.lt_of_lt_of_le (xIn_lt hb3) (by decide : 6 ≤ 12)) hv5 h) (kC_1 cy (Nat.lt_of_lt_of_le (xIn_lt hb3) (by decide : 6 ≤ 12))) rfl rfl t2_239 t2_158 t2_159 t1_4 t2_160 ⟨by decide, by decide, by decide +kernel⟩ rfl (by decide) (by decide) rfl (Nat.le_of_ble_eq_true rfl) dX6_delta_39) (fun r7 S6 h => ?_)
    exact x_iret X E dX6_delta_42 ⟨_, rfl, h⟩
  · refine x_iload X 0 dX6_delta_14 rfl ?_
    exact x_iret X E dX6_delta_16 ⟨_, rfl, h⟩
set_option maxHeartbeats 2000000 in
set_option maxRecDepth 20000 in
theorem m_X6_delta {l : Launch} {D : va_G} {cy : Nat → ClassId} {ad : Nat → Nat → Nat} (hi : xInj (shC cy) ad) {a1 : Int32} {a2 : Int32} {a3 : Int32} {a4 : Int32} {S : xS} {Q : Int32 → xS → Prop} (h : wp_X6_delta a1 a2 a3 a4 S Q) : xMet l D (xTys cy) (shC cy) ad yX6_delta cX6_delta 7 (some .int) (xRm 4 103) [.ref (ad 6 0), .int a1, .int a2, .int a3, .int a4] S (xQi Q) := xMet_env hi (by decide +kernel) rfl (Nat.le_of_ble_eq_true rfl) (fun g hl V => w_X6_delta V h)
set_option maxHeartbeats 2000000 in
set_option maxRecDepth 20000 in
theorem w_X6_touchedCount_32 {g : xG} {D : va_G} {cy : Nat → ClassId} {ad : Nat → Nat → Nat} {Q : Int32 → xS → Prop} (V : xEnv g D (xTys cy) (shC cy) ad RX6 cX6_touchedCount (some .int) 2 44 4 (xQi Q)) (S : xS) (s0 : Int32) (h : wp_X6_touchedCount_32 Q S s0) : Wx g (xW D (shC cy) ad S) 32 [] [.int s0] := by
  obtain ⟨X, K, hi, hA, hR, E, hN⟩ := V
  have V := xEnv_mk X K hi hA hR E hN
  unfold wp_X6_touchedCount_32 at h
  exact x_iret X E dX6_touchedCount_32 ⟨_, rfl, h⟩
set_option maxHeartbeats 2000000 in
set_option maxRecDepth 20000 in
theorem w_X6_touchedCount {g : xG} {D : va_G} {cy : Nat → ClassId} {ad : Nat → Nat → Nat} {a1 : Int32} {a2 : Int32} {S : xS} {Q : Int32 → xS → Prop} (V : xEnv g D (xTys cy) (shC cy) ad RX6 cX6_touchedCount (some .int) 2 44 4 (xQi Q)) (h : wp_X6_touchedCount a1 a2 S Q) : Wx g (xW D (shC cy) ad S) 0 [(0, .ref (ad 6 0)), (1, .int a1), (2, .int a2)] [] := by
  obtain ⟨X, K, hi, hA, hR, E, hN⟩ := V
  have V := xEnv_mk X K hi hA hR E hN
  unfold wp_X6_touchedCount at h
  refine x_aload_n X 0 dX6_touchedCount_0 rfl ?_
  refine x_iload_n X 1 dX6_touchedCount_1 rfl ?_
  refine x_iload_n X 2 dX6_touchedCount_2 rfl ?_
  refine x_calli hA (x_runV (n := 2) (sh := shC cy) X K hR (fun _ q => q) (m_X6_tupleError hi  h) (kC_6 cy Nat.zero_lt_one) rfl rfl t2_200 t2_202 tp_10 t1_1 t2_203 ⟨by decide, by decide, by decide +kernel⟩ rfl (by decide) (by decide) rfl (Nat.le_of_ble_eq_true rfl) dX6_touchedCount_3) (fun r2 S1 h => ?_)
  refine x_istore_n X [(3, .int r2), (0, .ref (ad 6 0)), (1, .int a1), (2, .int a2)] dX6_touchedCount_6 (by rw [hN]; decide) rfl ?_
  refine x_iload_n X 0 dX6_touchedCount_7 rfl ?_
  refine x_if_eq X 15 dX6_touchedCount_8 (by decide) h (fun h => ?_) (fun h => ?_)
  · refine x_aload_n X 1 dX6_touchedCount_15 rfl ?_
    refine xg_X6_29 X K Nat.zero_lt_one dX6_touchedCount_16 ?_
    refine x_iload_n X 2 dX6_touchedCount_19 rfl ?_
    obtain ⟨hb3, h⟩ := h
    refine xa_C31 X K (show 0 < 1 by decide) hb3 dX6_touchedCount_20 ?_
    refine xg_X6_163 X K (Nat.lt_of_lt_of_le (xIn_lt hb3) (by decide : 6 ≤ 12)) dX6_touchedCount_21 ?_
    refine x_iload_n X 3 dX6_touchedCount_24 rfl ?_
    obtain ⟨⟨hb4, hv5⟩, h⟩ := h
    refine xa_C16 X K (Nat.lt_of_lt_of_le (xIn_lt hb3) (by decide : 6 ≤ 12)) hb4 dX6_touchedCount_25 ?_
    refine xg_X6_196 X K hv5 dX6_touchedCount_26 ?_
    refine x_calli hA (x_runS (n := 1) X K hR (fun _ q => q) (m_J6_bitCount_0f7a4 hi  h) t3_4 t3_5 t1_10 t3_6 ⟨by decide, by decide, by decide +kernel⟩ rfl (by decide) (by decide) rfl (Nat.le_of_ble_eq_true rfl) dX6_touchedCount_29) (fun r7 S6 h => ?_)
    refine x_sub [] rfl ?_
    exact w_X6_touchedCount_32 V S6 r7 h
  · refine x_iload_n X 0 dX6_touchedCount_11 rfl ?_
    refine x_goto X 32 dX6_touchedCount_12 (by decide) ?_
    refine x_sub [] rfl ?_
    exact w_X6_touchedCount_32 V S1 r2 h
set_option maxHeartbeats 2000000 in
set_option maxRecDepth 20000 in
theorem m_X6_touchedCount {l : Launch} {D : va_G} {cy : Nat → ClassId} {ad : Nat → Nat → Nat} (hi : xInj (shC cy) ad) {a1 : Int32} {a2 : Int32} {S : xS} {Q : Int32 → xS → Prop} (h : wp_X6_touchedCount a1 a2 S Q) : xMet l D (xTys cy) (shC cy) ad yX6_touchedCount cX6_touchedCount 4 (some .int) (xRm 2 44) [.ref (ad 6 0), .int a1, .int a2] S (xQi Q) := xMet_env hi (by decide +kernel) rfl (Nat.le_of_ble_eq_true rfl) (fun g hl V => w_X6_touchedCount V h)
set_option maxHeartbeats 2000000 in
set_option maxRecDepth 20000 in
theorem w_X6_scalar_33 {g : xG} {D : va_G} {cy : Nat → ClassId} {ad : Nat → Nat → Nat} {Q : Int32 → xS → Prop} (V : xEnv g D (xTys cy) (shC cy) ad RX6 cX6_scalar (some .int) 4 96 4 (xQi Q)) (S : xS) (s0 : Int32) (h : wp_X6_scalar_33 Q S s0) : Wx g (xW D (shC cy) ad S) 33 [] [.int s0] := by
  obtain ⟨X, K, hi, hA, hR, E, hN⟩ := V
  have V := xEnv_mk X K hi hA hR E hN
  unfold wp_X6_scalar_33 at h
  exact x_iret X E dX6_scalar_33 ⟨_, rfl, h⟩
set_option maxHeartbeats 2000000 in
set_option maxRecDepth 20000 in
theorem w_X6_scalar {g : xG} {D : va_G} {cy : Nat → ClassId} {ad : Nat → Nat → Nat} {a1 : Int32} {a2 : Int32} {S : xS} {Q : Int32 → xS → Prop} (V : xEnv g D (xTys cy) (shC cy) ad RX6 cX6_scalar (some .int) 4 96 4 (xQi Q)) (h : wp_X6_scalar a1 a2 S Q) : Wx g (xW D (shC cy) ad S) 0 [(0, .ref (ad 6 0)), (1, .int a1), (2, .int a2)] [] := by
  obtain ⟨X, K, hi, hA, hR, E, hN⟩ := V
  have V := xEnv_mk X K hi hA hR E hN
  unfold wp_X6_scalar at h
  refine x_aload_n X 0 dX6_scalar_0 rfl ?_
  refine x_iload_n X 1 dX6_scalar_1 rfl ?_
  refine x_iload_n X 2 dX6_scalar_2 rfl ?_
  refine x_calli hA (x_runV (n := 2) (sh := shC cy) X K hR (fun _ q => q) (m_X6_tupleError hi  h) (kC_6 cy Nat.zero_lt_one) rfl rfl t2_200 t2_202 tp_10 t1_1 t2_203 ⟨by decide, by decide, by decide +kernel⟩ rfl (by decide) (by decide) rfl (Nat.le_of_ble_eq_true rfl) dX6_scalar_3) (fun r2 S1 h => ?_)
  refine x_istore_n X [(3, .int r2), (0, .ref (ad 6 0)), (1, .int a1), (2, .int a2)] dX6_scalar_6 (by rw [hN]; decide) rfl ?_
  refine x_iload_n X 0 dX6_scalar_7 rfl ?_
  refine x_if_eq X 15 dX6_scalar_8 (by decide) h (fun h => ?_) (fun h => ?_)
  · refine x_aload_n X 1 dX6_scalar_15 rfl ?_
    refine xg_X6_29 X K Nat.zero_lt_one dX6_scalar_16 ?_
    refine x_iload_n X 2 dX6_scalar_19 rfl ?_
    obtain ⟨hb3, h⟩ := h
    refine xa_C31 X K (show 0 < 1 by decide) hb3 dX6_scalar_20 ?_
    refine xg_X6_163 X K (Nat.lt_of_lt_of_le (xIn_lt hb3) (by decide : 6 ≤ 12)) dX6_scalar_21 ?_
    refine x_iload_n X 3 dX6_scalar_24 rfl ?_
    obtain ⟨⟨hb4, hv5⟩, h⟩ := h
    refine xa_C16 X K (Nat.lt_of_lt_of_le (xIn_lt hb3) (by decide : 6 ≤ 12)) hb4 dX6_scalar_25 ?_
    refine x_aload_n X 1 dX6_scalar_26 rfl ?_
    refine xg_X6_17 X K Nat.zero_lt_one dX6_scalar_27 ?_
    refine x_calli hA (x_runV (n := 1) (sh := shC cy) X K hR (fun _ q => q) (m_X5_scalarAt hi hv5 (show 0 < 3 by decide) h) (kC_5 cy hv5) rfl rfl t3_14 t2_148 t2_149 t1_5 t2_150 ⟨by decide, by decide, by decide +kernel⟩ rfl (by decide) (by decide) rfl (Nat.le_of_ble_eq_true rfl) dX6_scalar_30) (fun r7 S6 h => ?_)
    refine x_sub [] rfl ?_
    exact w_X6_scalar_33 V S6 r7 h
  · refine x_iload_n X 0 dX6_scalar_11 rfl ?_
    refine x_goto X 33 dX6_scalar_12 (by decide) ?_
    refine x_sub [] rfl ?_
    exact w_X6_scalar_33 V S1 r2 h
set_option maxHeartbeats 2000000 in
set_option maxRecDepth 20000 in
theorem m_X6_scalar {l : Launch} {D : va_G} {cy : Nat → ClassId} {ad : Nat → Nat → Nat} (hi : xInj (shC cy) ad) {a1 : Int32} {a2 : Int32} {S : xS} {Q : Int32 → xS → Prop} (h : wp_X6_scalar a1 a2 S Q) : xMet l D (xTys cy) (shC cy) ad yX6_scalar cX6_scalar 4 (some .int) (xRm 4 96) [.ref (ad 6 0), .int a1, .int a2] S (xQi Q) := xMet_env hi (by decide +kernel) rfl (Nat.le_of_ble_eq_true rfl) (fun g hl V => w_X6_scalar V h)
set_option maxHeartbeats 2000000 in
set_option maxRecDepth 20000 in
theorem w_X6_share {g : xG} {D : va_G} {cy : Nat → ClassId} {ad : Nat → Nat → Nat} {a1 : Int32} {a2 : Int32} {S : xS} {Q : UInt64 → xS → Prop} (V : xEnv g D (xTys cy) (shC cy) ad RX6 cX6_share (some .double) 4 96 3 (xQd Q)) (h : wp_X6_share a1 a2 S Q) : Wx g (xW D (shC cy) ad S) 0 [(0, .ref (ad 6 0)), (1, .int a1), (2, .int a2)] [] := by
  obtain ⟨X, K, hi, hA, hR, E, hN⟩ := V
  have V := xEnv_mk X K hi hA hR E hN
  unfold wp_X6_share at h
  refine x_aload_n X 0 dX6_share_0 rfl ?_
  refine x_iload_n X 1 dX6_share_1 rfl ?_
  refine x_iload_n X 2 dX6_share_2 rfl ?_
  refine x_calli hA (x_runV (n := 2) (sh := shC cy) X K hR (fun _ q => q) (m_X6_tupleError hi  h) (kC_6 cy Nat.zero_lt_one) rfl rfl t2_200 t2_202 tp_10 t1_1 t2_203 ⟨by decide, by decide, by decide +kernel⟩ rfl (by decide) (by decide) rfl (Nat.le_of_ble_eq_true rfl) dX6_share_3) (fun r2 S1 h => ?_)
  refine x_if_eq X 13 dX6_share_6 (by decide) h (fun h => ?_) (fun h => ?_)
  · refine x_aload_n X 0 dX6_share_13 rfl ?_
    refine xg_X6_29 X K Nat.zero_lt_one dX6_share_14 ?_
    refine x_iload_n X 1 dX6_share_17 rfl ?_
    obtain ⟨hb3, h⟩ := h
    refine xa_C31 X K (show 0 < 1 by decide) hb3 dX6_share_18 ?_
    refine xg_X6_163 X K (Nat.lt_of_lt_of_le (xIn_lt hb3) (by decide : 6 ≤ 12)) dX6_share_19 ?_
    refine x_iload_n X 2 dX6_share_22 rfl ?_
    obtain ⟨⟨hb4, hv5⟩, h⟩ := h
    refine xa_C16 X K (Nat.lt_of_lt_of_le (xIn_lt hb3) (by decide : 6 ≤ 12)) hb4 dX6_share_23 ?_
    refine x_aload_n X 0 dX6_share_24 rfl ?_
    refine xg_X6_17 X K Nat.zero_lt_one dX6_share_25 ?_
    refine x_calli hA (x_runV (n := 1) (sh := shC cy) X K hR (fun _ q => q) (m_X5_scalarAt hi hv5 (show 0 < 3 by decide) h) (kC_5 cy hv5) rfl rfl t3_14 t2_148 t2_149 t1_5 t2_150 ⟨by decide, by decide, by decide +kernel⟩ rfl (by decide) (by decide) rfl (Nat.le_of_ble_eq_true rfl) dX6_share_28) (fun r7 S6 h => ?_)
    refine x_i2d X dX6_share_31 ?_
    refine x_ldc2d X (v := 4733283208366391296) t3_20 dX6_share_32 ?_
    refine x_ddiv X dX6_share_35 (fun r8 hr8 => ?_)
    replace h := h r8 hr8
    exact x_dret X E dX6_share_36 ⟨_, rfl, h⟩
  · refine x_ldc2d X (v := 13830554455654793216) t3_19 dX6_share_9 ?_
    exact x_dret X E dX6_share_12 ⟨_, rfl, h⟩
set_option maxHeartbeats 2000000 in
set_option maxRecDepth 20000 in
theorem m_X6_share {l : Launch} {D : va_G} {cy : Nat → ClassId} {ad : Nat → Nat → Nat} (hi : xInj (shC cy) ad) {a1 : Int32} {a2 : Int32} {S : xS} {Q : UInt64 → xS → Prop} (h : wp_X6_share a1 a2 S Q) : xMet l D (xTys cy) (shC cy) ad yX6_share cX6_share 3 (some .double) (xRm 4 96) [.ref (ad 6 0), .int a1, .int a2] S (xQd Q) := xMet_env hi (by decide +kernel) rfl (Nat.le_of_ble_eq_true rfl) (fun g hl V => w_X6_share V h)
set_option maxHeartbeats 2000000 in
set_option maxRecDepth 20000 in
theorem w_X6_position_26 {g : xG} {D : va_G} {cy : Nat → ClassId} {ad : Nat → Nat → Nat} {Q : Int64 → xS → Prop} (V : xEnv g D (xTys cy) (shC cy) ad RX6 cX6_position (some .long) 5 132 6 (xQl Q)) (S : xS) (h : wp_X6_position_26 Q S) : Wx g (xW D (shC cy) ad S) 26 [] [] := by
  obtain ⟨X, K, hi, hA, hR, E, hN⟩ := V
  have V := xEnv_mk X K hi hA hR E hN
  unfold wp_X6_position_26 at h
  refine x_ldc2 X (v := -9223372036854775808) t3_25 dX6_position_26 ?_
  exact x_lret X E dX6_position_29 ⟨_, rfl, h⟩
set_option maxHeartbeats 2000000 in
set_option maxRecDepth 20000 in
theorem w_X6_position_88 {g : xG} {D : va_G} {cy : Nat → ClassId} {ad : Nat → Nat → Nat} {Q : Int64 → xS → Prop} (V : xEnv g D (xTys cy) (shC cy) ad RX6 cX6_position (some .long) 5 132 6 (xQl Q)) (S : xS) (s0 : Int64) (h : wp_X6_position_88 Q S s0) : Wx g (xW D (shC cy) ad S) 88 [] [.long s0] := by
  obtain ⟨X, K, hi, hA, hR, E, hN⟩ := V
  have V := xEnv_mk X K hi hA hR E hN
  unfold wp_X6_position_88 at h
  exact x_lret X E dX6_position_88 ⟨_, rfl, h⟩
set_option maxHeartbeats 2000000 in
set_option maxRecDepth 20000 in
theorem w_X6_position_53 {g : xG} {D : va_G} {cy : Nat → ClassId} {ad : Nat → Nat → Nat} {a2 : Int32} {a3 : Int32} {Q : Int64 → xS → Prop} (V : xEnv g D (xTys cy) (shC cy) ad RX6 cX6_position (some .long) 5 132 6 (xQl Q)) (S : xS) (v4 : Nat) (s0 : Int32) (hv4 : v4 < 12) (h : wp_X6_position_53 a2 a3 Q S v4 s0) : Wx g (xW D (shC cy) ad S) 53 [(0, .ref (ad 6 0)), (2, .int a2), (3, .int a3), (4, .ref (ad 1 v4))] [.int s0] := by
  obtain ⟨X, K, hi, hA, hR, E, hN⟩ := V
  have V := xEnv_mk X K hi hA hR E hN
  unfold wp_X6_position_53 at h
  refine x_istore X [(5, .int s0), (0, .ref (ad 6 0)), (2, .int a2), (3, .int a3), (4, .ref (ad 1 v4))] dX6_position_53 (by rw [hN]; decide) rfl ?_
  refine x_iload_n X 3 dX6_position_55 rfl ?_
  refine x_iconst X (v := 2) dX6_position_56 (by decide) ?_
  refine x_icmp_ge X 89 dX6_position_57 (by decide) h (fun h => ?_) (fun h => ?_)
  · refine x_aload X 4 dX6_position_89 rfl ?_
    refine x_iload_n X 2 dX6_position_91 rfl ?_
    refine x_iconst X (v := 1) dX6_position_92 (by decide) ?_
    refine x_iadd X dX6_position_93 ?_
    refine x_iload X 0 dX6_position_94 rfl ?_
    refine x_aload_n X 1 dX6_position_96 rfl ?_
    refine xg_X6_17 X K (Nat.zero_lt_one) dX6_position_97 ?_
    refine x_bipush X (v := 15) dX6_position_100 (by decide) ?_
    refine x_calll hA (x_runV (n := 4) (sh := shC cy) X K hR (fun _ q => q) (m_X1_placeAt hi hv4 (show 0 < 3 by decide) h) (kC_1 cy hv4) rfl rfl t2_136 t2_137 t2_138 t1_4 t2_139 ⟨by decide, by decide, by decide +kernel⟩ rfl (by decide) (by decide) rfl (Nat.le_of_ble_eq_true rfl) dX6_position_102) (fun r2 S1 h => ?_)
    exact x_lret X E dX6_position_105 ⟨_, rfl, h⟩
  · refine x_iload X 0 dX6_position_60 rfl ?_
    refine x_if_eq X 78 dX6_position_62 (by decide) h (fun h => ?_) (fun h => ?_)
    · refine x_aload X 4 dX6_position_78 rfl ?_
      refine xg_X6_160 X K hv4 dX6_position_80 ?_
      refine x_iload_n X 2 dX6_position_83 rfl ?_
      refine x_iconst X (v := 1) dX6_position_84 (by decide) ?_
      refine x_iadd X dX6_position_85 ?_
      obtain ⟨hb3, h⟩ := h
      refine xa_C12 X K hv4 hb3 dX6_position_86 ?_
      refine x_i2l X dX6_position_87 ?_
      refine x_sub [] rfl ?_
      exact w_X6_position_88 V S (Int32.toInt64 (S.1 12 v4 (a2 + (1 : Int32)).toNatClampNeg)) h
    · refine x_aload X 4 dX6_position_65 rfl ?_
      refine xg_X6_217 X K hv4 dX6_position_67 ?_
      refine x_iload_n X 2 dX6_position_70 rfl ?_
      refine x_iconst X (v := 1) dX6_position_71 (by decide) ?_
      refine x_iadd X dX6_position_72 ?_
      obtain ⟨hb4, h⟩ := h
      refine xa_C13 X K hv4 hb4 dX6_position_73 ?_
      refine x_i2l X dX6_position_74 ?_
      refine x_goto X 88 dX6_position_75 (by decide) ?_
      refine x_sub [] rfl ?_
      exact w_X6_position_88 V S (Int32.toInt64 (S.1 13 v4 (a2 + (1 : Int32)).toNatClampNeg)) h
set_option maxHeartbeats 2000000 in
set_option maxRecDepth 20000 in
theorem w_X6_position_48 {g : xG} {D : va_G} {cy : Nat → ClassId} {ad : Nat → Nat → Nat} {a2 : Int32} {a3 : Int32} {Q : Int64 → xS → Prop} (V : xEnv g D (xTys cy) (shC cy) ad RX6 cX6_position (some .long) 5 132 6 (xQl Q)) (S : xS) (v4 : Nat) (hv4 : v4 < 12) (h : wp_X6_position_48 a2 a3 Q S v4) : Wx g (xW D (shC cy) ad S) 48 [(0, .ref (ad 6 0)), (2, .int a2), (3, .int a3), (4, .ref (ad 1 v4))] [] := by
  obtain ⟨X, K, hi, hA, hR, E, hN⟩ := V
  have V := xEnv_mk X K hi hA hR E hN
  unfold wp_X6_position_48 at h
  refine x_iconst X (v := 1) dX6_position_48 (by decide) ?_
  refine x_goto X 53 dX6_position_49 (by decide) ?_
  refine x_sub [0, 1, 2, 3] rfl ?_
  exact w_X6_position_53 V S v4 (1 : Int32) hv4 h
set_option maxHeartbeats 2000000 in
set_option maxRecDepth 20000 in
theorem w_X6_position {g : xG} {D : va_G} {cy : Nat → ClassId} {ad : Nat → Nat → Nat} {a1 : Int32} {a2 : Int32} {a3 : Int32} {S : xS} {Q : Int64 → xS → Prop} (V : xEnv g D (xTys cy) (shC cy) ad RX6 cX6_position (some .long) 5 132 6 (xQl Q)) (h : wp_X6_position a1 a2 a3 S Q) : Wx g (xW D (shC cy) ad S) 0 [(0, .ref (ad 6 0)), (1, .int a1), (2, .int a2), (3, .int a3)] [] := by
  obtain ⟨X, K, hi, hA, hR, E, hN⟩ := V
  have V := xEnv_mk X K hi hA hR E hN
  unfold wp_X6_position at h
  refine x_aload_n X 0 dX6_position_0 rfl ?_
  refine x_iload_n X 1 dX6_position_1 rfl ?_
  refine x_calli hA (x_runV (n := 1) (sh := shC cy) X K hR (fun _ q => q) (m_X6_hasGlyph hi  h) (kC_6 cy Nat.zero_lt_one) rfl rfl t2_97 t2_99 tp_4 t1_1 t2_100 ⟨by decide, by decide, by decide +kernel⟩ rfl (by decide) (by decide) rfl (Nat.le_of_ble_eq_true rfl) dX6_position_2) (fun r2 S1 h => ?_)
  refine x_if_eq X 26 dX6_position_5 (by decide) h (fun h => ?_) (fun h => ?_)
  · refine x_sub [] rfl ?_
    exact w_X6_position_26 V S1 h
  · refine x_aload_n X 0 dX6_position_8 rfl ?_
    refine x_iload_n X 1 dX6_position_9 rfl ?_
    refine x_iload_n X 2 dX6_position_10 rfl ?_
    refine x_calli hA (x_runV (n := 2) (sh := shC cy) X K hR (fun _ q => q) (m_X6_hasPlace hi  h) (kC_6 cy Nat.zero_lt_one) rfl rfl t2_217 t2_219 tp_12 t1_1 t2_220 ⟨by decide, by decide, by decide +kernel⟩ rfl (by decide) (by decide) rfl (Nat.le_of_ble_eq_true rfl) dX6_position_11) (fun r4 S3 h => ?_)
    refine x_if_eq X 26 dX6_position_14 (by decide) h (fun h => ?_) (fun h => ?_)
    · refine x_sub [] rfl ?_
      exact w_X6_position_26 V S3 h
    · refine x_iload_n X 3 dX6_position_17 rfl ?_
      refine x_iconst X (v := 0) dX6_position_18 (by decide) ?_
      refine x_iconst X (v := 3) dX6_position_19 (by decide) ?_
      refine x_calli hA (x_runS (n := 3) X K hR (fun _ q => q) (m_X6_within hi  h) t2_4 t2_5 t1_1 t2_6 ⟨by decide, by decide, by decide +kernel⟩ rfl (by decide) (by decide) rfl (Nat.le_of_ble_eq_true rfl) dX6_position_20) (fun r6 S5 h => ?_)
      refine x_if_ne X 30 dX6_position_23 (by decide) h (fun h => ?_) (fun h => ?_)
      · refine x_sub [] rfl ?_
        exact w_X6_position_26 V S5 h
      · refine x_aload_n X 0 dX6_position_30 rfl ?_
        refine xg_X6_29 X K Nat.zero_lt_one dX6_position_31 ?_
        refine x_iload_n X 1 dX6_position_34 rfl ?_
        obtain ⟨hb7, h⟩ := h
        refine xa_C31 X K (show 0 < 1 by decide) hb7 dX6_position_35 ?_
        refine x_astore X [(4, .ref (ad 1 a1.toNatClampNeg)), (0, .ref (ad 6 0)), (1, .int a1), (2, .int a2), (3, .int a3)] dX6_position_36 (by rw [hN]; decide) rfl ?_
        refine x_iload_n X 4 dX6_position_38 rfl ?_
        refine x_iconst X (v := 1) dX6_position_39 (by decide) ?_
        refine x_icmp_eq X 48 dX6_position_40 (by decide) h (fun h => ?_) (fun h => ?_)
        · refine x_sub [1, 3, 4, 0] rfl ?_
          exact w_X6_position_48 V S5 a1.toNatClampNeg (Nat.lt_of_lt_of_le (xIn_lt hb7) (by decide : 6 ≤ 12)) h
        · refine x_iload_n X 4 dX6_position_43 rfl ?_
          refine x_iconst X (v := 3) dX6_position_44 (by decide) ?_
          refine x_icmp_ne X 52 dX6_position_45 (by decide) h (fun h => ?_) (fun h => ?_)
          · refine x_sub [1, 3, 4, 0] rfl ?_
            exact w_X6_position_48 V S5 a1.toNatClampNeg (Nat.lt_of_lt_of_le (xIn_lt hb7) (by decide : 6 ≤ 12)) h
          · refine x_iconst X (v := 0) dX6_position_52 (by decide) ?_
            refine x_sub [1, 3, 4, 0] rfl ?_
            exact w_X6_position_53 V S5 a1.toNatClampNeg (0 : Int32) (Nat.lt_of_lt_of_le (xIn_lt hb7) (by decide : 6 ≤ 12)) h
set_option maxHeartbeats 2000000 in
set_option maxRecDepth 20000 in
theorem m_X6_position {l : Launch} {D : va_G} {cy : Nat → ClassId} {ad : Nat → Nat → Nat} (hi : xInj (shC cy) ad) {a1 : Int32} {a2 : Int32} {a3 : Int32} {S : xS} {Q : Int64 → xS → Prop} (h : wp_X6_position a1 a2 a3 S Q) : xMet l D (xTys cy) (shC cy) ad yX6_position cX6_position 6 (some .long) (xRm 5 132) [.ref (ad 6 0), .int a1, .int a2, .int a3] S (xQl Q) := xMet_env hi (by decide +kernel) rfl (Nat.le_of_ble_eq_true rfl) (fun g hl V => w_X6_position V h)
set_option maxHeartbeats 2000000 in
set_option maxRecDepth 20000 in
theorem w_X6_outline_17 {g : xG} {D : va_G} {cy : Nat → ClassId} {ad : Nat → Nat → Nat} {Q : Int64 → xS → Prop} (V : xEnv g D (xTys cy) (shC cy) ad RX6 cX6_outline (some .long) 14 433 5 (xQl Q)) (S : xS) (h : wp_X6_outline_17 Q S) : Wx g (xW D (shC cy) ad S) 17 [] [] := by
  obtain ⟨X, K, hi, hA, hR, E, hN⟩ := V
  have V := xEnv_mk X K hi hA hR E hN
  unfold wp_X6_outline_17 at h
  refine x_ldc2 X (v := -9223372036854775808) t3_25 dX6_outline_17 ?_
  exact x_lret X E dX6_outline_20 ⟨_, rfl, h⟩
set_option maxHeartbeats 2000000 in
set_option maxRecDepth 20000 in
theorem w_X6_outline {g : xG} {D : va_G} {cy : Nat → ClassId} {ad : Nat → Nat → Nat} {a1 : Int32} {a2 : Int32} {a3 : Int32} {S : xS} {Q : Int64 → xS → Prop} (V : xEnv g D (xTys cy) (shC cy) ad RX6 cX6_outline (some .long) 14 433 5 (xQl Q)) (h : wp_X6_outline a1 a2 a3 S Q) : Wx g (xW D (shC cy) ad S) 0 [(0, .ref (ad 6 0)), (1, .int a1), (2, .int a2), (3, .int a3)] [] := by
  obtain ⟨X, K, hi, hA, hR, E, hN⟩ := V
  have V := xEnv_mk X K hi hA hR E hN
  unfold wp_X6_outline at h
  refine x_aload_n X 0 dX6_outline_0 rfl ?_
  refine x_iload_n X 1 dX6_outline_1 rfl ?_
  refine x_calli hA (x_runV (n := 1) (sh := shC cy) X K hR (fun _ q => q) (m_X6_hasGlyph hi  h) (kC_6 cy Nat.zero_lt_one) rfl rfl t2_97 t2_99 tp_4 t1_1 t2_100 ⟨by decide, by decide, by decide +kernel⟩ rfl (by decide) (by decide) rfl (Nat.le_of_ble_eq_true rfl) dX6_outline_2) (fun r2 S1 h => ?_)
  refine x_if_eq X 17 dX6_outline_5 (by decide) h (fun h => ?_) (fun h => ?_)
  · refine x_sub [] rfl ?_
    exact w_X6_outline_17 V S1 h
  · refine x_iload_n X 3 dX6_outline_8 rfl ?_
    refine x_iconst X (v := 0) dX6_outline_9 (by decide) ?_
    refine x_iconst X (v := 2) dX6_outline_10 (by decide) ?_
    refine x_calli hA (x_runS (n := 3) X K hR (fun _ q => q) (m_X6_within hi  h) t2_4 t2_5 t1_1 t2_6 ⟨by decide, by decide, by decide +kernel⟩ rfl (by decide) (by decide) rfl (Nat.le_of_ble_eq_true rfl) dX6_outline_11) (fun r4 S3 h => ?_)
    refine x_if_ne X 21 dX6_outline_14 (by decide) h (fun h => ?_) (fun h => ?_)
    · refine x_sub [] rfl ?_
      exact w_X6_outline_17 V S3 h
    · refine x_aload_n X 0 dX6_outline_21 rfl ?_
      refine x_iload_n X 1 dX6_outline_22 rfl ?_
      refine x_callr hA (x_runV (n := 1) (sh := shC cy) X K hR (fun _ q => q) (m_X6_drawnPresent hi  h) (kC_6 cy Nat.zero_lt_one) rfl rfl t2_125 t2_127 tp_7 t1_1 t2_128 ⟨by decide, by decide, by decide +kernel⟩ rfl (by decide) (by decide) rfl (Nat.le_of_ble_eq_true rfl) dX6_outline_23) (fun r6 S5 hv7 h => ?_)
      replace h := h hv7
      refine x_astore X [(4, .ref (ad 4 r6)), (0, .ref (ad 6 0)), (1, .int a1), (2, .int a2), (3, .int a3)] dX6_outline_26 (by rw [hN]; decide) rfl ?_
      refine x_iload_n X 3 dX6_outline_28 rfl ?_
      refine x_iconst X (v := 0) dX6_outline_29 (by decide) ?_
      refine x_aload X 0 dX6_outline_30 rfl ?_
      refine xg_X6_147 X K hv7 dX6_outline_32 ?_
      refine x_iconst X (v := 1) dX6_outline_35 (by decide) ?_
      refine x_isub X dX6_outline_36 ?_
      refine x_calli hA (x_runS (n := 3) X K hR (fun _ q => q) (m_X6_within hi  h) t2_4 t2_5 t1_1 t2_6 ⟨by decide, by decide, by decide +kernel⟩ rfl (by decide) (by decide) rfl (Nat.le_of_ble_eq_true rfl) dX6_outline_37) (fun r9 S8 h => ?_)
      refine x_if_ne X 47 dX6_outline_40 (by decide) h (fun h => ?_) (fun h => ?_)
      · refine x_ldc2 X (v := -9223372036854775808) t3_25 dX6_outline_43 ?_
        exact x_lret X E dX6_outline_46 ⟨_, rfl, h⟩
      · refine x_iload_n X 4 dX6_outline_47 rfl ?_
        refine x_ite h (fun hc h => ?_) (fun hc0_48 h => ?_)
        · refine x_lookup X 76 dX6_outline_48 (by decide) (off := 28) (by rw [hc]; decide) (by decide) ?_
          refine x_aload X 0 dX6_outline_76 rfl ?_
          refine xg_X6_224 X K hv7 dX6_outline_78 ?_
          refine x_iload_n X 3 dX6_outline_81 rfl ?_
          obtain ⟨hb10, h⟩ := h
          refine xa_C21 X K hv7 hb10 dX6_outline_82 ?_
          exact x_lret X E dX6_outline_83 ⟨_, rfl, h⟩
        · refine x_ite h (fun hc h => ?_) (fun hc1_48 h => ?_)
          · refine x_lookup X 84 dX6_outline_48 (by decide) (off := 36) (by rw [hc]; decide) (by decide) ?_
            refine x_aload X 0 dX6_outline_84 rfl ?_
            refine xg_X6_227 X K hv7 dX6_outline_86 ?_
            refine x_iload_n X 3 dX6_outline_89 rfl ?_
            obtain ⟨hb11, h⟩ := h
            refine xa_C22 X K hv7 hb11 dX6_outline_90 ?_
            exact x_lret X E dX6_outline_91 ⟨_, rfl, h⟩
          · refine x_lookup X 92 dX6_outline_48 (by decide) (off := 44) ((lv_osw (k := 0) hc0_48 (by decide)).trans ((lv_osw (k := 1) hc1_48 (by decide)).trans rfl)) (by decide) ?_
            refine x_aload X 0 dX6_outline_92 rfl ?_
            refine xg_X6_229 X K hv7 dX6_outline_94 ?_
            refine x_iload_n X 3 dX6_outline_97 rfl ?_
            obtain ⟨hb12, h⟩ := h
            refine xa_C23 X K hv7 hb12 dX6_outline_98 ?_
            refine x_i2l X dX6_outline_99 ?_
            exact x_lret X E dX6_outline_100 ⟨_, rfl, h⟩
set_option maxHeartbeats 2000000 in
set_option maxRecDepth 20000 in
theorem m_X6_outline {l : Launch} {D : va_G} {cy : Nat → ClassId} {ad : Nat → Nat → Nat} (hi : xInj (shC cy) ad) {a1 : Int32} {a2 : Int32} {a3 : Int32} {S : xS} {Q : Int64 → xS → Prop} (h : wp_X6_outline a1 a2 a3 S Q) : xMet l D (xTys cy) (shC cy) ad yX6_outline cX6_outline 5 (some .long) (xRm 14 433) [.ref (ad 6 0), .int a1, .int a2, .int a3] S (xQl Q) := xMet_env hi (by decide +kernel) rfl (Nat.le_of_ble_eq_true rfl) (fun g hl V => w_X6_outline V h)
set_option maxHeartbeats 2000000 in
set_option maxRecDepth 20000 in
theorem w_X6_box_17 {g : xG} {D : va_G} {cy : Nat → ClassId} {ad : Nat → Nat → Nat} {Q : Int64 → xS → Prop} (V : xEnv g D (xTys cy) (shC cy) ad RX6 cX6_box (some .long) 14 433 5 (xQl Q)) (S : xS) (h : wp_X6_box_17 Q S) : Wx g (xW D (shC cy) ad S) 17 [] [] := by
  obtain ⟨X, K, hi, hA, hR, E, hN⟩ := V
  have V := xEnv_mk X K hi hA hR E hN
  unfold wp_X6_box_17 at h
  refine x_ldc2 X (v := -9223372036854775808) t3_25 dX6_box_17 ?_
  exact x_lret X E dX6_box_20 ⟨_, rfl, h⟩
set_option maxHeartbeats 2000000 in
set_option maxRecDepth 20000 in
theorem w_X6_box_71 {g : xG} {D : va_G} {cy : Nat → ClassId} {ad : Nat → Nat → Nat} {Q : Int64 → xS → Prop} (V : xEnv g D (xTys cy) (shC cy) ad RX6 cX6_box (some .long) 14 433 5 (xQl Q)) (S : xS) (s0 : Int64) (h : wp_X6_box_71 Q S s0) : Wx g (xW D (shC cy) ad S) 71 [] [.long s0] := by
  obtain ⟨X, K, hi, hA, hR, E, hN⟩ := V
  have V := xEnv_mk X K hi hA hR E hN
  unfold wp_X6_box_71 at h
  exact x_lret X E dX6_box_71 ⟨_, rfl, h⟩
set_option maxHeartbeats 2000000 in
set_option maxRecDepth 20000 in
theorem w_X6_box_48 {g : xG} {D : va_G} {cy : Nat → ClassId} {ad : Nat → Nat → Nat} {a2 : Int32} {Q : Int64 → xS → Prop} (V : xEnv g D (xTys cy) (shC cy) ad RX6 cX6_box (some .long) 14 433 5 (xQl Q)) (S : xS) (v3 : Nat) (s0 : Int32) (hv3 : v3 < 2) (h : wp_X6_box_48 a2 Q S v3 s0) : Wx g (xW D (shC cy) ad S) 48 [(2, .int a2), (3, .ref (ad 4 v3))] [.int s0] := by
  obtain ⟨X, K, hi, hA, hR, E, hN⟩ := V
  have V := xEnv_mk X K hi hA hR E hN
  unfold wp_X6_box_48 at h
  refine x_istore X [(4, .int s0), (2, .int a2), (3, .ref (ad 4 v3))] dX6_box_48 (by rw [hN]; decide) rfl ?_
  refine x_iload_n X 1 dX6_box_50 rfl ?_
  refine x_iconst X (v := 2) dX6_box_51 (by decide) ?_
  obtain ⟨hy1, h⟩ := h
  refine x_irem X dX6_box_52 hy1 ?_
  refine x_if_ne X 65 dX6_box_53 (by decide) h (fun h => ?_) (fun h => ?_)
  · refine x_aload_n X 2 dX6_box_56 rfl ?_
    refine x_iload X 0 dX6_box_57 rfl ?_
    refine x_calll hA (x_runV (n := 1) (sh := shC cy) X K hR (fun _ q => q) (m_X4_leastOf hi hv3 h) (kC_4 cy hv3) rfl rfl t3_34 t3_35 t3_36 t1_2 t3_37 ⟨by decide, by decide, by decide +kernel⟩ rfl (by decide) (by decide) rfl (Nat.le_of_ble_eq_true rfl) dX6_box_59) (fun r3 S2 h => ?_)
    refine x_goto X 71 dX6_box_62 (by decide) ?_
    refine x_sub [] rfl ?_
    exact w_X6_box_71 V S2 r3 h
  · refine x_aload_n X 2 dX6_box_65 rfl ?_
    refine x_iload X 0 dX6_box_66 rfl ?_
    refine x_calll hA (x_runV (n := 1) (sh := shC cy) X K hR (fun _ q => q) (m_X4_greatestOf hi hv3 h) (kC_4 cy hv3) rfl rfl t3_42 t3_43 t3_44 t1_2 t3_45 ⟨by decide, by decide, by decide +kernel⟩ rfl (by decide) (by decide) rfl (Nat.le_of_ble_eq_true rfl) dX6_box_68) (fun r5 S4 h => ?_)
    refine x_sub [] rfl ?_
    exact w_X6_box_71 V S4 r5 h
set_option maxHeartbeats 2000000 in
set_option maxRecDepth 20000 in
theorem w_X6_box {g : xG} {D : va_G} {cy : Nat → ClassId} {ad : Nat → Nat → Nat} {a1 : Int32} {a2 : Int32} {S : xS} {Q : Int64 → xS → Prop} (V : xEnv g D (xTys cy) (shC cy) ad RX6 cX6_box (some .long) 14 433 5 (xQl Q)) (h : wp_X6_box a1 a2 S Q) : Wx g (xW D (shC cy) ad S) 0 [(0, .ref (ad 6 0)), (1, .int a1), (2, .int a2)] [] := by
  obtain ⟨X, K, hi, hA, hR, E, hN⟩ := V
  have V := xEnv_mk X K hi hA hR E hN
  unfold wp_X6_box at h
  refine x_aload_n X 0 dX6_box_0 rfl ?_
  refine x_iload_n X 1 dX6_box_1 rfl ?_
  refine x_calli hA (x_runV (n := 1) (sh := shC cy) X K hR (fun _ q => q) (m_X6_hasGlyph hi  h) (kC_6 cy Nat.zero_lt_one) rfl rfl t2_97 t2_99 tp_4 t1_1 t2_100 ⟨by decide, by decide, by decide +kernel⟩ rfl (by decide) (by decide) rfl (Nat.le_of_ble_eq_true rfl) dX6_box_2) (fun r2 S1 h => ?_)
  refine x_if_eq X 17 dX6_box_5 (by decide) h (fun h => ?_) (fun h => ?_)
  · refine x_sub [] rfl ?_
    exact w_X6_box_17 V S1 h
  · refine x_iload_n X 2 dX6_box_8 rfl ?_
    refine x_iconst X (v := 0) dX6_box_9 (by decide) ?_
    refine x_iconst X (v := 3) dX6_box_10 (by decide) ?_
    refine x_calli hA (x_runS (n := 3) X K hR (fun _ q => q) (m_X6_within hi  h) t2_4 t2_5 t1_1 t2_6 ⟨by decide, by decide, by decide +kernel⟩ rfl (by decide) (by decide) rfl (Nat.le_of_ble_eq_true rfl) dX6_box_11) (fun r4 S3 h => ?_)
    refine x_if_ne X 21 dX6_box_14 (by decide) h (fun h => ?_) (fun h => ?_)
    · refine x_sub [] rfl ?_
      exact w_X6_box_17 V S3 h
    · refine x_aload_n X 0 dX6_box_21 rfl ?_
      refine x_iload_n X 1 dX6_box_22 rfl ?_
      refine x_callr hA (x_runV (n := 1) (sh := shC cy) X K hR (fun _ q => q) (m_X6_drawnPresent hi  h) (kC_6 cy Nat.zero_lt_one) rfl rfl t2_125 t2_127 tp_7 t1_1 t2_128 ⟨by decide, by decide, by decide +kernel⟩ rfl (by decide) (by decide) rfl (Nat.le_of_ble_eq_true rfl) dX6_box_23) (fun r6 S5 hv7 h => ?_)
      replace h := h hv7
      refine x_astore_n X [(3, .ref (ad 4 r6)), (0, .ref (ad 6 0)), (1, .int a1), (2, .int a2)] dX6_box_26 (by rw [hN]; decide) rfl ?_
      refine x_aload_n X 0 dX6_box_27 rfl ?_
      refine xg_X6_147 X K hv7 dX6_box_28 ?_
      refine x_if_ne X 38 dX6_box_31 (by decide) h (fun h => ?_) (fun h => ?_)
      · refine x_ldc2 X (v := -9223372036854775808) t3_25 dX6_box_34 ?_
        exact x_lret X E dX6_box_37 ⟨_, rfl, h⟩
      · refine x_iload_n X 3 dX6_box_38 rfl ?_
        refine x_iconst X (v := 2) dX6_box_39 (by decide) ?_
        refine x_icmp_lt X 47 dX6_box_40 (by decide) h (fun h => ?_) (fun h => ?_)
        · refine x_iconst X (v := 0) dX6_box_47 (by decide) ?_
          refine x_sub [3, 0] rfl ?_
          exact w_X6_box_48 V S5 r6 (0 : Int32) hv7 h
        · refine x_iconst X (v := 1) dX6_box_43 (by decide) ?_
          refine x_goto X 48 dX6_box_44 (by decide) ?_
          refine x_sub [3, 0] rfl ?_
          exact w_X6_box_48 V S5 r6 (1 : Int32) hv7 h
set_option maxHeartbeats 2000000 in
set_option maxRecDepth 20000 in
theorem m_X6_box {l : Launch} {D : va_G} {cy : Nat → ClassId} {ad : Nat → Nat → Nat} (hi : xInj (shC cy) ad) {a1 : Int32} {a2 : Int32} {S : xS} {Q : Int64 → xS → Prop} (h : wp_X6_box a1 a2 S Q) : xMet l D (xTys cy) (shC cy) ad yX6_box cX6_box 5 (some .long) (xRm 14 433) [.ref (ad 6 0), .int a1, .int a2] S (xQl Q) := xMet_env hi (by decide +kernel) rfl (Nat.le_of_ble_eq_true rfl) (fun g hl V => w_X6_box V h)
