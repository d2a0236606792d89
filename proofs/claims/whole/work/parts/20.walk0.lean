set_option maxHeartbeats 2000000 in
set_option maxRecDepth 20000 in
theorem w_X0_begin_18_b {g : xG} {D : va_G} {cy : Nat → ClassId} {ad : Nat → Nat → Nat} {a0 : Nat} {K18 : xS → Int32 → Prop} {Q : xS → Prop} (V : xEnv g D (xTys cy) (shC cy) ad RX0 cX0_begin none 0 0 5 (xQv Q)) (ha0 : a0 < 4) (hK18 : ∀ (S : xS) (v4 : Int32), K18 S v4 → Wx g (xW D (shC cy) ad S) 18 [(0, .ref (ad 0 a0)), (4, .int v4)] []) (S : xS) (v4 : Int32) (h : wp_X0_begin_18_b a0 K18 Q S v4) : Wx g (xW D (shC cy) ad S) 18 [(0, .ref (ad 0 a0)), (4, .int v4)] [] := by
  obtain ⟨X, K, hi, hA, hR, E, hN⟩ := V
  have V := xEnv_mk X K hi hA hR E hN
  unfold wp_X0_begin_18_b at h
  refine x_iload X 1 dX0_begin_18 rfl ?_
  refine x_iconst X (v := 3) dX0_begin_20 (by decide) ?_
  refine x_icmp_ge X 59 dX0_begin_21 (by decide) h (fun h => ?_) (fun h => ?_)
  · refine x_aload_n X 0 dX0_begin_59 rfl ?_
    refine x_iconst X (v := 3) dX0_begin_60 (by decide) ?_
    refine xp_X0_28 X K hi hA ha0 dX0_begin_61 ?_
    exact x_vret X E dX0_begin_64 ⟨rfl, h⟩
  · refine x_aload_n X 0 dX0_begin_24 rfl ?_
    refine xg_X0_9 X K ha0 dX0_begin_25 ?_
    refine x_iload X 1 dX0_begin_28 rfl ?_
    refine x_iload X 1 dX0_begin_30 rfl ?_
    refine x_iconst X (v := 1) dX0_begin_32 (by decide) ?_
    refine x_isub X dX0_begin_33 ?_
    refine x_sipush X (v := 16384) dX0_begin_34 (by decide) ?_
    refine x_imul X dX0_begin_37 ?_
    obtain ⟨hb1, h⟩ := h
    refine xs_C10 X K hi hA ha0 hb1 dX0_begin_38 ?_
    refine x_aload_n X 0 dX0_begin_39 rfl ?_
    refine xg_X0_15 X K ha0 dX0_begin_40 ?_
    refine x_iload X 1 dX0_begin_43 rfl ?_
    refine x_aload_n X 0 dX0_begin_45 rfl ?_
    refine xg_X0_9 X K ha0 dX0_begin_46 ?_
    refine x_iload X 1 dX0_begin_49 rfl ?_
    obtain ⟨hb2, h⟩ := h
    refine xa_C10 X K ha0 hb2 dX0_begin_51 ?_
    obtain ⟨hb3, h⟩ := h
    refine xs_C11 X K hi hA ha0 hb3 dX0_begin_52 ?_
    refine x_iinc X 1 [(4, .int (v4 + (1 : Int32))), (0, .ref (ad 0 a0))] dX0_begin_53 rfl rfl (by rw [hN]; decide) rfl ?_
    refine x_goto X 18 dX0_begin_56 (by decide) ?_
    refine x_sub [1, 0] rfl ?_
    exact hK18 (xI (xI S 10 a0 v4.toNatClampNeg ((v4 - (1 : Int32)) * (16384 : Int32))) 11 a0 v4.toNatClampNeg ((xI S 10 a0 v4.toNatClampNeg ((v4 - (1 : Int32)) * (16384 : Int32))).1 10 a0 v4.toNatClampNeg)) (v4 + (1 : Int32)) h
set_option maxHeartbeats 2000000 in
set_option maxRecDepth 20000 in
theorem w_X0_begin_18 {g : xG} {D : va_G} {cy : Nat → ClassId} {ad : Nat → Nat → Nat} {a0 : Nat} {Q : xS → Prop} (V : xEnv g D (xTys cy) (shC cy) ad RX0 cX0_begin none 0 0 5 (xQv Q)) (ha0 : a0 < 4) (n : Nat) : ∀ (S : xS) (v4 : Int32), wp_X0_begin_18 a0 Q n S v4 → Wx g (xW D (shC cy) ad S) 18 [(0, .ref (ad 0 a0)), (4, .int v4)] [] := by
  induction n with
  | zero => intro S v4 h; exact h.elim
  | succ n ih => intro S v4 h; exact w_X0_begin_18_b V ha0 (fun S v4 h => ih S v4 h) S v4 h
set_option maxHeartbeats 2000000 in
set_option maxRecDepth 20000 in
theorem w_X0_begin {g : xG} {D : va_G} {cy : Nat → ClassId} {ad : Nat → Nat → Nat} {a0 : Nat} {a1 : Int32} {a2 : Int32} {a3 : Int32} {S : xS} {Q : xS → Prop} (V : xEnv g D (xTys cy) (shC cy) ad RX0 cX0_begin none 0 0 5 (xQv Q)) (ha0 : a0 < 4) (h : wp_X0_begin a0 a1 a2 a3 S Q) : Wx g (xW D (shC cy) ad S) 0 [(0, .ref (ad 0 a0)), (1, .int a1), (2, .int a2), (3, .int a3)] [] := by
  obtain ⟨X, K, hi, hA, hR, E, hN⟩ := V
  have V := xEnv_mk X K hi hA hR E hN
  unfold wp_X0_begin at h
  refine x_aload_n X 0 dX0_begin_0 rfl ?_
  refine x_iload_n X 1 dX0_begin_1 rfl ?_
  refine xp_X0_18 X K hi hA ha0 dX0_begin_2 ?_
  refine x_aload_n X 0 dX0_begin_5 rfl ?_
  refine x_iload_n X 2 dX0_begin_6 rfl ?_
  refine xp_X0_22 X K hi hA ha0 dX0_begin_7 ?_
  refine x_aload_n X 0 dX0_begin_10 rfl ?_
  refine x_iload_n X 3 dX0_begin_11 rfl ?_
  refine xp_X0_25 X K hi hA ha0 dX0_begin_12 ?_
  refine x_iconst X (v := 0) dX0_begin_15 (by decide) ?_
  refine x_istore X [(4, .int (0 : Int32)), (0, .ref (ad 0 a0)), (1, .int a1), (2, .int a2), (3, .int a3)] dX0_begin_16 (by rw [hN]; decide) rfl ?_
  refine x_sub [1, 0] rfl ?_
  obtain ⟨n1, h⟩ := h
  exact w_X0_begin_18 V ha0 n1 (xI (xI (xI S 0 a0 0 a1) 0 a0 1 a2) 0 a0 2 a3) (0 : Int32) h
set_option maxHeartbeats 2000000 in
set_option maxRecDepth 20000 in
theorem m_X0_begin {l : Launch} {D : va_G} {cy : Nat → ClassId} {ad : Nat → Nat → Nat} (hi : xInj (shC cy) ad) {a0 : Nat} {a1 : Int32} {a2 : Int32} {a3 : Int32} {S : xS} {Q : xS → Prop} (ha0 : a0 < 4) (h : wp_X0_begin a0 a1 a2 a3 S Q) : xMet l D (xTys cy) (shC cy) ad yX0_begin cX0_begin 5 none (xRm 0 0) [.ref (ad 0 a0), .int a1, .int a2, .int a3] S (xQv Q) := xMet_env hi (by decide +kernel) rfl (Nat.le_of_ble_eq_true rfl) (fun g hl V => w_X0_begin V ha0 h)
set_option maxHeartbeats 2000000 in
set_option maxRecDepth 20000 in
theorem w_J9_min_7cf53_10 {g : xG} {D : va_G} {cy : Nat → ClassId} {ad : Nat → Nat → Nat} {Q : Int32 → xS → Prop} (V : xEnv g D (xTys cy) (shC cy) ad RJ9 cJ9_min_7cf53 (some .int) 0 0 2 (xQi Q)) (S : xS) (s0 : Int32) (h : wp_J9_min_7cf53_10 Q S s0) : Wx g (xW D (shC cy) ad S) 10 [] [.int s0] := by
  obtain ⟨X, K, hi, hA, hR, E, hN⟩ := V
  have V := xEnv_mk X K hi hA hR E hN
  unfold wp_J9_min_7cf53_10 at h
  exact x_iret X E dJ9_min_7cf53_10 ⟨_, rfl, h⟩
set_option maxHeartbeats 2000000 in
set_option maxRecDepth 20000 in
theorem w_J9_min_7cf53 {g : xG} {D : va_G} {cy : Nat → ClassId} {ad : Nat → Nat → Nat} {a0 : Int32} {a1 : Int32} {S : xS} {Q : Int32 → xS → Prop} (V : xEnv g D (xTys cy) (shC cy) ad RJ9 cJ9_min_7cf53 (some .int) 0 0 2 (xQi Q)) (h : wp_J9_min_7cf53 a0 a1 S Q) : Wx g (xW D (shC cy) ad S) 0 [(0, .int a0), (1, .int a1)] [] := by
  obtain ⟨X, K, hi, hA, hR, E, hN⟩ := V
  have V := xEnv_mk X K hi hA hR E hN
  unfold wp_J9_min_7cf53 at h
  refine x_iload_n X 0 dJ9_min_7cf53_0 rfl ?_
  refine x_iload_n X 1 dJ9_min_7cf53_1 rfl ?_
  refine x_icmp_gt X 9 dJ9_min_7cf53_2 (by decide) h (fun h => ?_) (fun h => ?_)
  · refine x_iload_n X 1 dJ9_min_7cf53_9 rfl ?_
    refine x_sub [] rfl ?_
    exact w_J9_min_7cf53_10 V S a1 h
  · refine x_iload_n X 0 dJ9_min_7cf53_5 rfl ?_
    refine x_goto X 10 dJ9_min_7cf53_6 (by decide) ?_
    refine x_sub [] rfl ?_
    exact w_J9_min_7cf53_10 V S a0 h
set_option maxHeartbeats 2000000 in
set_option maxRecDepth 20000 in
theorem m_J9_min_7cf53 {l : Launch} {D : va_G} {cy : Nat → ClassId} {ad : Nat → Nat → Nat} (hi : xInj (shC cy) ad) {a0 : Int32} {a1 : Int32} {S : xS} {Q : Int32 → xS → Prop} (h : wp_J9_min_7cf53 a0 a1 S Q) : xMet l D (xTys cy) (shC cy) ad yJ9_min_7cf53 cJ9_min_7cf53 2 (some .int) (xRm 0 0) [.int a0, .int a1] S (xQi Q) := xMet_env hi (by decide +kernel) rfl (Nat.le_of_ble_eq_true rfl) (fun g hl V => w_J9_min_7cf53 V h)
set_option maxHeartbeats 2000000 in
set_option maxRecDepth 20000 in
theorem w_J9_max_7cf53_10 {g : xG} {D : va_G} {cy : Nat → ClassId} {ad : Nat → Nat → Nat} {Q : Int32 → xS → Prop} (V : xEnv g D (xTys cy) (shC cy) ad RJ9 cJ9_max_7cf53 (some .int) 0 0 2 (xQi Q)) (S : xS) (s0 : Int32) (h : wp_J9_max_7cf53_10 Q S s0) : Wx g (xW D (shC cy) ad S) 10 [] [.int s0] := by
  obtain ⟨X, K, hi, hA, hR, E, hN⟩ := V
  have V := xEnv_mk X K hi hA hR E hN
  unfold wp_J9_max_7cf53_10 at h
  exact x_iret X E dJ9_max_7cf53_10 ⟨_, rfl, h⟩
set_option maxHeartbeats 2000000 in
set_option maxRecDepth 20000 in
theorem w_J9_max_7cf53 {g : xG} {D : va_G} {cy : Nat → ClassId} {ad : Nat → Nat → Nat} {a0 : Int32} {a1 : Int32} {S : xS} {Q : Int32 → xS → Prop} (V : xEnv g D (xTys cy) (shC cy) ad RJ9 cJ9_max_7cf53 (some .int) 0 0 2 (xQi Q)) (h : wp_J9_max_7cf53 a0 a1 S Q) : Wx g (xW D (shC cy) ad S) 0 [(0, .int a0), (1, .int a1)] [] := by
  obtain ⟨X, K, hi, hA, hR, E, hN⟩ := V
  have V := xEnv_mk X K hi hA hR E hN
  unfold wp_J9_max_7cf53 at h
  refine x_iload_n X 0 dJ9_max_7cf53_0 rfl ?_
  refine x_iload_n X 1 dJ9_max_7cf53_1 rfl ?_
  refine x_icmp_lt X 9 dJ9_max_7cf53_2 (by decide) h (fun h => ?_) (fun h => ?_)
  · refine x_iload_n X 1 dJ9_max_7cf53_9 rfl ?_
    refine x_sub [] rfl ?_
    exact w_J9_max_7cf53_10 V S a1 h
  · refine x_iload_n X 0 dJ9_max_7cf53_5 rfl ?_
    refine x_goto X 10 dJ9_max_7cf53_6 (by decide) ?_
    refine x_sub [] rfl ?_
    exact w_J9_max_7cf53_10 V S a0 h
set_option maxHeartbeats 2000000 in
set_option maxRecDepth 20000 in
theorem m_J9_max_7cf53 {l : Launch} {D : va_G} {cy : Nat → ClassId} {ad : Nat → Nat → Nat} (hi : xInj (shC cy) ad) {a0 : Int32} {a1 : Int32} {S : xS} {Q : Int32 → xS → Prop} (h : wp_J9_max_7cf53 a0 a1 S Q) : xMet l D (xTys cy) (shC cy) ad yJ9_max_7cf53 cJ9_max_7cf53 2 (some .int) (xRm 0 0) [.int a0, .int a1] S (xQi Q) := xMet_env hi (by decide +kernel) rfl (Nat.le_of_ble_eq_true rfl) (fun g hl V => w_J9_max_7cf53 V h)
set_option maxHeartbeats 2000000 in
set_option maxRecDepth 20000 in
theorem w_J9_floorDiv_f86c9_27 {g : xG} {D : va_G} {cy : Nat → ClassId} {ad : Nat → Nat → Nat} {Q : Int64 → xS → Prop} (V : xEnv g D (xTys cy) (shC cy) ad RJ9 cJ9_floorDiv_f86c9 (some .long) 0 0 6 (xQl Q)) (S : xS) (v4 : Int64) (h : wp_J9_floorDiv_f86c9_27 Q S v4) : Wx g (xW D (shC cy) ad S) 27 [(4, .long v4)] [] := by
  obtain ⟨X, K, hi, hA, hR, E, hN⟩ := V
  have V := xEnv_mk X K hi hA hR E hN
  unfold wp_J9_floorDiv_f86c9_27 at h
  refine x_lload X 0 dJ9_floorDiv_f86c9_27 rfl ?_
  exact x_lret X E dJ9_floorDiv_f86c9_29 ⟨_, rfl, h⟩
set_option maxHeartbeats 2000000 in
set_option maxRecDepth 20000 in
theorem w_J9_floorDiv_f86c9 {g : xG} {D : va_G} {cy : Nat → ClassId} {ad : Nat → Nat → Nat} {a0 : Int64} {a2 : Int64} {S : xS} {Q : Int64 → xS → Prop} (V : xEnv g D (xTys cy) (shC cy) ad RJ9 cJ9_floorDiv_f86c9 (some .long) 0 0 6 (xQl Q)) (h : wp_J9_floorDiv_f86c9 a0 a2 S Q) : Wx g (xW D (shC cy) ad S) 0 [(0, .long a0), (2, .long a2)] [] := by
  obtain ⟨X, K, hi, hA, hR, E, hN⟩ := V
  have V := xEnv_mk X K hi hA hR E hN
  unfold wp_J9_floorDiv_f86c9 at h
  refine x_lload_n X 0 dJ9_floorDiv_f86c9_0 rfl ?_
  refine x_lload_n X 1 dJ9_floorDiv_f86c9_1 rfl ?_
  obtain ⟨hy1, h⟩ := h
  refine x_ldiv X dJ9_floorDiv_f86c9_2 hy1 ?_
  refine x_lstore X [(4, .long (a0 / a2)), (0, .long a0), (2, .long a2)] dJ9_floorDiv_f86c9_3 (by rw [hN]; decide) rfl ?_
  refine x_lload_n X 1 dJ9_floorDiv_f86c9_5 rfl ?_
  refine x_lload_n X 2 dJ9_floorDiv_f86c9_6 rfl ?_
  refine x_lxor X dJ9_floorDiv_f86c9_7 ?_
  refine x_lconst X (v := 0) dJ9_floorDiv_f86c9_8 (by decide) ?_
  refine x_lcmp X dJ9_floorDiv_f86c9_9 ?_
  refine x_if_ge X 27 dJ9_floorDiv_f86c9_10 (by decide) h (fun h => ?_) (fun h => ?_)
  · refine x_sub [0] rfl ?_
    exact w_J9_floorDiv_f86c9_27 V S (a0 / a2) h
  · refine x_lload X 0 dJ9_floorDiv_f86c9_13 rfl ?_
    refine x_lload_n X 2 dJ9_floorDiv_f86c9_15 rfl ?_
    refine x_lmul X dJ9_floorDiv_f86c9_16 ?_
    refine x_lload_n X 1 dJ9_floorDiv_f86c9_17 rfl ?_
    refine x_lcmp X dJ9_floorDiv_f86c9_18 ?_
    refine x_if_eq X 27 dJ9_floorDiv_f86c9_19 (by decide) h (fun h => ?_) (fun h => ?_)
    · refine x_sub [0] rfl ?_
      exact w_J9_floorDiv_f86c9_27 V S (a0 / a2) h
    · refine x_lload X 0 dJ9_floorDiv_f86c9_22 rfl ?_
      refine x_lconst X (v := 1) dJ9_floorDiv_f86c9_24 (by decide) ?_
      refine x_lsub X dJ9_floorDiv_f86c9_25 ?_
      exact x_lret X E dJ9_floorDiv_f86c9_26 ⟨_, rfl, h⟩
set_option maxHeartbeats 2000000 in
set_option maxRecDepth 20000 in
theorem m_J9_floorDiv_f86c9 {l : Launch} {D : va_G} {cy : Nat → ClassId} {ad : Nat → Nat → Nat} (hi : xInj (shC cy) ad) {a0 : Int64} {a2 : Int64} {S : xS} {Q : Int64 → xS → Prop} (h : wp_J9_floorDiv_f86c9 a0 a2 S Q) : xMet l D (xTys cy) (shC cy) ad yJ9_floorDiv_f86c9 cJ9_floorDiv_f86c9 6 (some .long) (xRm 0 0) [.long a0, .long a2] S (xQl Q) := xMet_env hi (by decide +kernel) rfl (Nat.le_of_ble_eq_true rfl) (fun g hl V => w_J9_floorDiv_f86c9 V h)
set_option maxHeartbeats 2000000 in
set_option maxRecDepth 20000 in
theorem w_X6_roundedQuotient {g : xG} {D : va_G} {cy : Nat → ClassId} {ad : Nat → Nat → Nat} {a0 : Int64} {a2 : Int64} {S : xS} {Q : Int64 → xS → Prop} (V : xEnv g D (xTys cy) (shC cy) ad RX6 cX6_roundedQuotient (some .long) 1 25 4 (xQl Q)) (h : wp_X6_roundedQuotient a0 a2 S Q) : Wx g (xW D (shC cy) ad S) 0 [(0, .long a0), (2, .long a2)] [] := by
  obtain ⟨X, K, hi, hA, hR, E, hN⟩ := V
  have V := xEnv_mk X K hi hA hR E hN
  unfold wp_X6_roundedQuotient at h
  refine x_lload_n X 1 dX6_roundedQuotient_0 rfl ?_
  refine x_lconst X (v := 0) dX6_roundedQuotient_1 (by decide) ?_
  refine x_lcmp X dX6_roundedQuotient_2 ?_
  refine x_if_gt X 8 dX6_roundedQuotient_3 (by decide) h (fun h => ?_) (fun h => ?_)
  · refine x_ldc2 X (v := 2) t2_60 dX6_roundedQuotient_8 ?_
    refine x_lload_n X 0 dX6_roundedQuotient_11 rfl ?_
    refine x_lmul X dX6_roundedQuotient_12 ?_
    refine x_lload_n X 1 dX6_roundedQuotient_13 rfl ?_
    refine x_ladd X dX6_roundedQuotient_14 ?_
    refine x_ldc2 X (v := 2) t2_60 dX6_roundedQuotient_15 ?_
    refine x_lload_n X 1 dX6_roundedQuotient_18 rfl ?_
    refine x_lmul X dX6_roundedQuotient_19 ?_
    refine x_calll hA (x_runS (n := 2) X K hR (fun _ q => q) (m_J9_floorDiv_f86c9 hi  h) t2_61 t2_62 t1_9 t2_63 ⟨by decide, by decide, by decide +kernel⟩ rfl (by decide) (by decide) rfl (Nat.le_of_ble_eq_true rfl) dX6_roundedQuotient_20) (fun r2 S1 h => ?_)
    exact x_lret X E dX6_roundedQuotient_23 ⟨_, rfl, h⟩
  · refine x_lconst X (v := 0) dX6_roundedQuotient_6 (by decide) ?_
    exact x_lret X E dX6_roundedQuotient_7 ⟨_, rfl, h⟩
set_option maxHeartbeats 2000000 in
set_option maxRecDepth 20000 in
theorem m_X6_roundedQuotient {l : Launch} {D : va_G} {cy : Nat → ClassId} {ad : Nat → Nat → Nat} (hi : xInj (shC cy) ad) {a0 : Int64} {a2 : Int64} {S : xS} {Q : Int64 → xS → Prop} (h : wp_X6_roundedQuotient a0 a2 S Q) : xMet l D (xTys cy) (shC cy) ad yX6_roundedQuotient cX6_roundedQuotient 4 (some .long) (xRm 1 25) [.long a0, .long a2] S (xQl Q) := xMet_env hi (by decide +kernel) rfl (Nat.le_of_ble_eq_true rfl) (fun g hl V => w_X6_roundedQuotient V h)
set_option maxHeartbeats 2000000 in
set_option maxRecDepth 20000 in
theorem w_X0_unmapped {g : xG} {D : va_G} {cy : Nat → ClassId} {ad : Nat → Nat → Nat} {a0 : Nat} {a1 : Int32} {S : xS} {Q : Int32 → xS → Prop} (V : xEnv g D (xTys cy) (shC cy) ad RX0 cX0_unmapped (some .int) 2 48 2 (xQi Q)) (ha0 : a0 < 4) (h : wp_X0_unmapped a0 a1 S Q) : Wx g (xW D (shC cy) ad S) 0 [(0, .ref (ad 0 a0)), (1, .int a1)] [] := by
  obtain ⟨X, K, hi, hA, hR, E, hN⟩ := V
  have V := xEnv_mk X K hi hA hR E hN
  unfold wp_X0_unmapped at h
  refine x_iload_n X 1 dX0_unmapped_0 rfl ?_
  refine x_aload_n X 0 dX0_unmapped_1 rfl ?_
  refine xg_X0_22 X K ha0 dX0_unmapped_2 ?_
  refine x_icmp_ge X 35 dX0_unmapped_5 (by decide) h (fun h => ?_) (fun h => ?_)
  · refine x_iload_n X 1 dX0_unmapped_35 rfl ?_
    refine x_aload_n X 0 dX0_unmapped_36 rfl ?_
    refine xg_X0_22 X K ha0 dX0_unmapped_37 ?_
    refine x_icmp_le X 69 dX0_unmapped_40 (by decide) h (fun h => ?_) (fun h => ?_)
    · refine x_iconst X (v := 0) dX0_unmapped_69 (by decide) ?_
      exact x_iret X E dX0_unmapped_70 ⟨_, rfl, h⟩
    · refine x_iload_n X 1 dX0_unmapped_43 rfl ?_
      refine x_aload_n X 0 dX0_unmapped_44 rfl ?_
      refine xg_X0_22 X K ha0 dX0_unmapped_45 ?_
      refine x_isub X dX0_unmapped_48 ?_
      refine x_i2l X dX0_unmapped_49 ?_
      refine x_ldc2 X (v := 16384) t2_56 dX0_unmapped_50 ?_
      refine x_lmul X dX0_unmapped_53 ?_
      refine x_aload_n X 0 dX0_unmapped_54 rfl ?_
      refine xg_X0_25 X K ha0 dX0_unmapped_55 ?_
      refine x_aload_n X 0 dX0_unmapped_58 rfl ?_
      refine xg_X0_22 X K ha0 dX0_unmapped_59 ?_
      refine x_isub X dX0_unmapped_62 ?_
      refine x_i2l X dX0_unmapped_63 ?_
      refine x_calll hA (x_runSN (n := 2) (host := "FontInstancer") X K hR (fun _ q => q) (m_X6_roundedQuotient hi  h) (by decide) t2_58 t1_1 t2_59 ⟨by decide, by decide, by decide +kernel⟩ rfl (by decide) (by decide) rfl (Nat.le_of_ble_eq_true rfl) dX0_unmapped_64) (fun r2 S1 h => ?_)
      refine x_l2i X dX0_unmapped_67 ?_
      exact x_iret X E dX0_unmapped_68 ⟨_, rfl, h⟩
  · refine x_aload_n X 0 dX0_unmapped_8 rfl ?_
    refine xg_X0_22 X K ha0 dX0_unmapped_9 ?_
    refine x_iload_n X 1 dX0_unmapped_12 rfl ?_
    refine x_isub X dX0_unmapped_13 ?_
    refine x_i2l X dX0_unmapped_14 ?_
    refine x_ldc2 X (v := 16384) t2_56 dX0_unmapped_15 ?_
    refine x_lmul X dX0_unmapped_18 ?_
    refine x_aload_n X 0 dX0_unmapped_19 rfl ?_
    refine xg_X0_22 X K ha0 dX0_unmapped_20 ?_
    refine x_aload_n X 0 dX0_unmapped_23 rfl ?_
    refine xg_X0_18 X K ha0 dX0_unmapped_24 ?_
    refine x_isub X dX0_unmapped_27 ?_
    refine x_i2l X dX0_unmapped_28 ?_
    refine x_calll hA (x_runSN (n := 2) (host := "FontInstancer") X K hR (fun _ q => q) (m_X6_roundedQuotient hi  h) (by decide) t2_58 t1_1 t2_59 ⟨by decide, by decide, by decide +kernel⟩ rfl (by decide) (by decide) rfl (Nat.le_of_ble_eq_true rfl) dX0_unmapped_29) (fun r4 S3 h => ?_)
    refine x_l2i X dX0_unmapped_32 ?_
    refine x_ineg X dX0_unmapped_33 ?_
    exact x_iret X E dX0_unmapped_34 ⟨_, rfl, h⟩
set_option maxHeartbeats 2000000 in
set_option maxRecDepth 20000 in
theorem m_X0_unmapped {l : Launch} {D : va_G} {cy : Nat → ClassId} {ad : Nat → Nat → Nat} (hi : xInj (shC cy) ad) {a0 : Nat} {a1 : Int32} {S : xS} {Q : Int32 → xS → Prop} (ha0 : a0 < 4) (h : wp_X0_unmapped a0 a1 S Q) : xMet l D (xTys cy) (shC cy) ad yX0_unmapped cX0_unmapped 2 (some .int) (xRm 2 48) [.ref (ad 0 a0), .int a1] S (xQi Q) := xMet_env hi (by decide +kernel) rfl (Nat.le_of_ble_eq_true rfl) (fun g hl V => w_X0_unmapped V ha0 h)
set_option maxHeartbeats 2000000 in
set_option maxRecDepth 20000 in
theorem w_X0_mapped_90 {g : xG} {D : va_G} {cy : Nat → ClassId} {ad : Nat → Nat → Nat} {a0 : Nat} {a1 : Int32} {K2 : xS → Int32 → Prop} {Q : Int32 → xS → Prop} (V : xEnv g D (xTys cy) (shC cy) ad RX0 cX0_mapped (some .int) 2 48 5 (xQi Q)) (ha0 : a0 < 4) (hK2 : ∀ (S : xS) (v2 : Int32), K2 S v2 → Wx g (xW D (shC cy) ad S) 2 [(0, .ref (ad 0 a0)), (1, .int a1), (2, .int v2)] []) (S : xS) (v2 : Int32) (h : wp_X0_mapped_90 a0 a1 K2 Q S v2) : Wx g (xW D (shC cy) ad S) 90 [(0, .ref (ad 0 a0)), (1, .int a1), (2, .int v2)] [] := by
  obtain ⟨X, K, hi, hA, hR, E, hN⟩ := V
  have V := xEnv_mk X K hi hA hR E hN
  unfold wp_X0_mapped_90 at h
  refine x_iinc X 2 [(2, .int (v2 + (1 : Int32))), (0, .ref (ad 0 a0)), (1, .int a1)] dX0_mapped_90 rfl rfl (by rw [hN]; decide) rfl ?_
  refine x_goto X 2 dX0_mapped_93 (by decide) ?_
  refine x_sub [1, 2, 0] rfl ?_
  exact hK2 S (v2 + (1 : Int32)) h
set_option maxHeartbeats 2000000 in
set_option maxRecDepth 20000 in
theorem w_X0_mapped_2_b {g : xG} {D : va_G} {cy : Nat → ClassId} {ad : Nat → Nat → Nat} {a0 : Nat} {a1 : Int32} {K2 : xS → Int32 → Prop} {Q : Int32 → xS → Prop} (V : xEnv g D (xTys cy) (shC cy) ad RX0 cX0_mapped (some .int) 2 48 5 (xQi Q)) (ha0 : a0 < 4) (hK2 : ∀ (S : xS) (v2 : Int32), K2 S v2 → Wx g (xW D (shC cy) ad S) 2 [(0, .ref (ad 0 a0)), (1, .int a1), (2, .int v2)] []) (S : xS) (v2 : Int32) (h : wp_X0_mapped_2_b a0 a1 K2 Q S v2) : Wx g (xW D (shC cy) ad S) 2 [(0, .ref (ad 0 a0)), (1, .int a1), (2, .int v2)] [] := by
  obtain ⟨X, K, hi, hA, hR, E, hN⟩ := V
  have V := xEnv_mk X K hi hA hR E hN
  unfold wp_X0_mapped_2_b at h
  refine x_iload_n X 2 dX0_mapped_2 rfl ?_
  refine x_iconst X (v := 1) dX0_mapped_3 (by decide) ?_
  refine x_iadd X dX0_mapped_4 ?_
  refine x_aload_n X 0 dX0_mapped_5 rfl ?_
  refine xg_X0_28 X K ha0 dX0_mapped_6 ?_
  refine x_icmp_ge X 96 dX0_mapped_9 (by decide) h (fun h => ?_) (fun h => ?_)
  · refine x_sipush X (v := 16384) dX0_mapped_96 (by decide) ?_
    exact x_iret X E dX0_mapped_99 ⟨_, rfl, h⟩
  · refine x_aload_n X 0 dX0_mapped_12 rfl ?_
    refine xg_X0_9 X K ha0 dX0_mapped_13 ?_
    refine x_iload_n X 2 dX0_mapped_16 rfl ?_
    obtain ⟨hb1, h⟩ := h
    refine xa_C10 X K ha0 hb1 dX0_mapped_17 ?_
    refine x_iload_n X 1 dX0_mapped_18 rfl ?_
    refine x_icmp_gt X 90 dX0_mapped_19 (by decide) h (fun h => ?_) (fun h => ?_)
    · refine x_sub [0, 1, 2] rfl ?_
      exact w_X0_mapped_90 V ha0 hK2 S v2 h
    · refine x_iload_n X 1 dX0_mapped_22 rfl ?_
      refine x_aload_n X 0 dX0_mapped_23 rfl ?_
      refine xg_X0_9 X K ha0 dX0_mapped_24 ?_
      refine x_iload_n X 2 dX0_mapped_27 rfl ?_
      refine x_iconst X (v := 1) dX0_mapped_28 (by decide) ?_
      refine x_iadd X dX0_mapped_29 ?_
      obtain ⟨hb2, h⟩ := h
      refine xa_C10 X K ha0 hb2 dX0_mapped_30 ?_
      refine x_icmp_ge X 90 dX0_mapped_31 (by decide) h (fun h => ?_) (fun h => ?_)
      · refine x_sub [0, 1, 2] rfl ?_
        exact w_X0_mapped_90 V ha0 hK2 S v2 h
      · refine x_iload_n X 1 dX0_mapped_34 rfl ?_
        refine x_aload_n X 0 dX0_mapped_35 rfl ?_
        refine xg_X0_9 X K ha0 dX0_mapped_36 ?_
        refine x_iload_n X 2 dX0_mapped_39 rfl ?_
        obtain ⟨hb3, h⟩ := h
        refine xa_C10 X K ha0 hb3 dX0_mapped_40 ?_
        refine x_isub X dX0_mapped_41 ?_
        refine x_i2l X dX0_mapped_42 ?_
        refine x_aload_n X 0 dX0_mapped_43 rfl ?_
        refine xg_X0_15 X K ha0 dX0_mapped_44 ?_
        refine x_iload_n X 2 dX0_mapped_47 rfl ?_
        refine x_iconst X (v := 1) dX0_mapped_48 (by decide) ?_
        refine x_iadd X dX0_mapped_49 ?_
        obtain ⟨hb4, h⟩ := h
        refine xa_C11 X K ha0 hb4 dX0_mapped_50 ?_
        refine x_aload_n X 0 dX0_mapped_51 rfl ?_
        refine xg_X0_15 X K ha0 dX0_mapped_52 ?_
        refine x_iload_n X 2 dX0_mapped_55 rfl ?_
        obtain ⟨hb5, h⟩ := h
        refine xa_C11 X K ha0 hb5 dX0_mapped_56 ?_
        refine x_isub X dX0_mapped_57 ?_
        refine x_i2l X dX0_mapped_58 ?_
        refine x_lmul X dX0_mapped_59 ?_
        refine x_lstore_n X [(3, .long ((Int32.toInt64 (a1 - (S.1 10 a0 v2.toNatClampNeg))) * (Int32.toInt64 ((S.1 11 a0 (v2 + (1 : Int32)).toNatClampNeg) - (S.1 11 a0 v2.toNatClampNeg))))), (0, .ref (ad 0 a0)), (1, .int a1), (2, .int v2)] dX0_mapped_60 (by rw [hN]; decide) rfl ?_
        refine x_aload_n X 1 dX0_mapped_61 rfl ?_
        refine xg_X0_15 X K ha0 dX0_mapped_62 ?_
        refine x_iload_n X 3 dX0_mapped_65 rfl ?_
        obtain ⟨hb6, h⟩ := h
        refine xa_C11 X K ha0 hb6 dX0_mapped_66 ?_
        refine x_lload_n X 0 dX0_mapped_67 rfl ?_
        refine x_aload_n X 1 dX0_mapped_68 rfl ?_
        refine xg_X0_9 X K ha0 dX0_mapped_69 ?_
        refine x_iload_n X 3 dX0_mapped_72 rfl ?_
        refine x_iconst X (v := 1) dX0_mapped_73 (by decide) ?_
        refine x_iadd X dX0_mapped_74 ?_
        obtain ⟨hb7, h⟩ := h
        refine xa_C10 X K ha0 hb7 dX0_mapped_75 ?_
        refine x_aload_n X 1 dX0_mapped_76 rfl ?_
        refine xg_X0_9 X K ha0 dX0_mapped_77 ?_
        refine x_iload_n X 3 dX0_mapped_80 rfl ?_
        obtain ⟨hb8, h⟩ := h
        refine xa_C10 X K ha0 hb8 dX0_mapped_81 ?_
        refine x_isub X dX0_mapped_82 ?_
        refine x_i2l X dX0_mapped_83 ?_
        refine x_calll hA (x_runSN (n := 2) (host := "FontInstancer") X K hR (fun _ q => q) (m_X6_roundedQuotient hi  h) (by decide) t2_58 t1_1 t2_59 ⟨by decide, by decide, by decide +kernel⟩ rfl (by decide) (by decide) rfl (Nat.le_of_ble_eq_true rfl) dX0_mapped_84) (fun r10 S9 h => ?_)
        refine x_l2i X dX0_mapped_87 ?_
        refine x_iadd X dX0_mapped_88 ?_
        exact x_iret X E dX0_mapped_89 ⟨_, rfl, h⟩
set_option maxHeartbeats 2000000 in
set_option maxRecDepth 20000 in
theorem w_X0_mapped_2 {g : xG} {D : va_G} {cy : Nat → ClassId} {ad : Nat → Nat → Nat} {a0 : Nat} {a1 : Int32} {Q : Int32 → xS → Prop} (V : xEnv g D (xTys cy) (shC cy) ad RX0 cX0_mapped (some .int) 2 48 5 (xQi Q)) (ha0 : a0 < 4) (n : Nat) : ∀ (S : xS) (v2 : Int32), wp_X0_mapped_2 a0 a1 Q n S v2 → Wx g (xW D (shC cy) ad S) 2 [(0, .ref (ad 0 a0)), (1, .int a1), (2, .int v2)] [] := by
  induction n with
  | zero => intro S v2 h; exact h.elim
  | succ n ih => intro S v2 h; exact w_X0_mapped_2_b V ha0 (fun S v2 h => ih S v2 h) S v2 h
set_option maxHeartbeats 2000000 in
set_option maxRecDepth 20000 in
theorem w_X0_mapped {g : xG} {D : va_G} {cy : Nat → ClassId} {ad : Nat → Nat → Nat} {a0 : Nat} {a1 : Int32} {S : xS} {Q : Int32 → xS → Prop} (V : xEnv g D (xTys cy) (shC cy) ad RX0 cX0_mapped (some .int) 2 48 5 (xQi Q)) (ha0 : a0 < 4) (h : wp_X0_mapped a0 a1 S Q) : Wx g (xW D (shC cy) ad S) 0 [(0, .ref (ad 0 a0)), (1, .int a1)] [] := by
  obtain ⟨X, K, hi, hA, hR, E, hN⟩ := V
  have V := xEnv_mk X K hi hA hR E hN
  unfold wp_X0_mapped at h
  refine x_iconst X (v := 0) dX0_mapped_0 (by decide) ?_
  refine x_istore_n X [(2, .int (0 : Int32)), (0, .ref (ad 0 a0)), (1, .int a1)] dX0_mapped_1 (by rw [hN]; decide) rfl ?_
  refine x_sub [1, 2, 0] rfl ?_
  obtain ⟨n1, h⟩ := h
  exact w_X0_mapped_2 V ha0 n1 S (0 : Int32) h
set_option maxHeartbeats 2000000 in
set_option maxRecDepth 20000 in
theorem m_X0_mapped {l : Launch} {D : va_G} {cy : Nat → ClassId} {ad : Nat → Nat → Nat} (hi : xInj (shC cy) ad) {a0 : Nat} {a1 : Int32} {S : xS} {Q : Int32 → xS → Prop} (ha0 : a0 < 4) (h : wp_X0_mapped a0 a1 S Q) : xMet l D (xTys cy) (shC cy) ad yX0_mapped cX0_mapped 5 (some .int) (xRm 2 48) [.ref (ad 0 a0), .int a1] S (xQi Q) := xMet_env hi (by decide +kernel) rfl (Nat.le_of_ble_eq_true rfl) (fun g hl V => w_X0_mapped V ha0 h)
set_option maxHeartbeats 2000000 in
set_option maxRecDepth 20000 in
theorem w_X0_coordinateFor {g : xG} {D : va_G} {cy : Nat → ClassId} {ad : Nat → Nat → Nat} {a0 : Nat} {a1 : Int32} {S : xS} {Q : Int32 → xS → Prop} (V : xEnv g D (xTys cy) (shC cy) ad RX0 cX0_coordinateFor (some .int) 3 72 2 (xQi Q)) (ha0 : a0 < 4) (h : wp_X0_coordinateFor a0 a1 S Q) : Wx g (xW D (shC cy) ad S) 0 [(0, .ref (ad 0 a0)), (1, .int a1)] [] := by
  obtain ⟨X, K, hi, hA, hR, E, hN⟩ := V
  have V := xEnv_mk X K hi hA hR E hN
  unfold wp_X0_coordinateFor at h
  refine x_aload_n X 0 dX0_coordinateFor_0 rfl ?_
  refine x_aload_n X 0 dX0_coordinateFor_1 rfl ?_
  refine x_aload_n X 0 dX0_coordinateFor_2 rfl ?_
  refine xg_X0_18 X K ha0 dX0_coordinateFor_3 ?_
  refine x_iload_n X 1 dX0_coordinateFor_6 rfl ?_
  refine x_aload_n X 0 dX0_coordinateFor_7 rfl ?_
  refine xg_X0_25 X K ha0 dX0_coordinateFor_8 ?_
  refine x_calli hA (x_runS (n := 2) X K hR (fun _ q => q) (m_J9_min_7cf53 hi  h) t2_46 t2_47 t1_9 t2_48 ⟨by decide, by decide, by decide +kernel⟩ rfl (by decide) (by decide) rfl (Nat.le_of_ble_eq_true rfl) dX0_coordinateFor_11) (fun r2 S1 h => ?_)
  refine x_calli hA (x_runS (n := 2) X K hR (fun _ q => q) (m_J9_max_7cf53 hi  h) t2_49 t2_50 t1_9 t2_51 ⟨by decide, by decide, by decide +kernel⟩ rfl (by decide) (by decide) rfl (Nat.le_of_ble_eq_true rfl) dX0_coordinateFor_14) (fun r4 S3 h => ?_)
  refine x_calli hA (x_runV (n := 1) (sh := shC cy) X K hR (fun _ q => q) (m_X0_unmapped hi ha0 h) (kC_0 cy ha0) rfl rfl t2_52 t2_54 tp_2 t1_7 t2_55 ⟨by decide, by decide, by decide +kernel⟩ rfl (by decide) (by decide) rfl (Nat.le_of_ble_eq_true rfl) dX0_coordinateFor_17) (fun r6 S5 h => ?_)
  refine x_calli hA (x_runV (n := 1) (sh := shC cy) X K hR (fun _ q => q) (m_X0_mapped hi ha0 h) (kC_0 cy ha0) rfl rfl t2_64 t2_66 tp_3 t1_7 t2_67 ⟨by decide, by decide, by decide +kernel⟩ rfl (by decide) (by decide) rfl (Nat.le_of_ble_eq_true rfl) dX0_coordinateFor_20) (fun r8 S7 h => ?_)
  exact x_iret X E dX0_coordinateFor_23 ⟨_, rfl, h⟩
set_option maxHeartbeats 2000000 in
set_option maxRecDepth 20000 in
theorem m_X0_coordinateFor {l : Launch} {D : va_G} {cy : Nat → ClassId} {ad : Nat → Nat → Nat} (hi : xInj (shC cy) ad) {a0 : Nat} {a1 : Int32} {S : xS} {Q : Int32 → xS → Prop} (ha0 : a0 < 4) (h : wp_X0_coordinateFor a0 a1 S Q) : xMet l D (xTys cy) (shC cy) ad yX0_coordinateFor cX0_coordinateFor 2 (some .int) (xRm 3 72) [.ref (ad 0 a0), .int a1] S (xQi Q) := xMet_env hi (by decide +kernel) rfl (Nat.le_of_ble_eq_true rfl) (fun g hl V => w_X0_coordinateFor V ha0 h)
set_option maxHeartbeats 2000000 in
set_option maxRecDepth 20000 in
theorem w_X0_firstPairNotBefore_28 {g : xG} {D : va_G} {cy : Nat → ClassId} {ad : Nat → Nat → Nat} {Q : Int32 → xS → Prop} (V : xEnv g D (xTys cy) (shC cy) ad RX0 cX0_firstPairNotBefore (some .int) 0 0 3 (xQi Q)) (S : xS) (v2 : Int32) (h : wp_X0_firstPairNotBefore_28 Q S v2) : Wx g (xW D (shC cy) ad S) 28 [(2, .int v2)] [] := by
  obtain ⟨X, K, hi, hA, hR, E, hN⟩ := V
  have V := xEnv_mk X K hi hA hR E hN
  unfold wp_X0_firstPairNotBefore_28 at h
  refine x_iload_n X 0 dX0_firstPairNotBefore_28 rfl ?_
  exact x_iret X E dX0_firstPairNotBefore_29 ⟨_, rfl, h⟩
set_option maxHeartbeats 2000000 in
set_option maxRecDepth 20000 in
theorem w_X0_firstPairNotBefore_2_b {g : xG} {D : va_G} {cy : Nat → ClassId} {ad : Nat → Nat → Nat} {a0 : Nat} {a1 : Int32} {K2 : xS → Int32 → Prop} {Q : Int32 → xS → Prop} (V : xEnv g D (xTys cy) (shC cy) ad RX0 cX0_firstPairNotBefore (some .int) 0 0 3 (xQi Q)) (ha0 : a0 < 4) (hK2 : ∀ (S : xS) (v2 : Int32), K2 S v2 → Wx g (xW D (shC cy) ad S) 2 [(0, .ref (ad 0 a0)), (1, .int a1), (2, .int v2)] []) (S : xS) (v2 : Int32) (h : wp_X0_firstPairNotBefore_2_b a0 a1 K2 Q S v2) : Wx g (xW D (shC cy) ad S) 2 [(0, .ref (ad 0 a0)), (1, .int a1), (2, .int v2)] [] := by
  obtain ⟨X, K, hi, hA, hR, E, hN⟩ := V
  have V := xEnv_mk X K hi hA hR E hN
  unfold wp_X0_firstPairNotBefore_2_b at h
  refine x_iload_n X 2 dX0_firstPairNotBefore_2 rfl ?_
  refine x_iconst X (v := 1) dX0_firstPairNotBefore_3 (by decide) ?_
  refine x_iadd X dX0_firstPairNotBefore_4 ?_
  refine x_aload_n X 0 dX0_firstPairNotBefore_5 rfl ?_
  refine xg_X0_28 X K ha0 dX0_firstPairNotBefore_6 ?_
  refine x_icmp_ge X 28 dX0_firstPairNotBefore_9 (by decide) h (fun h => ?_) (fun h => ?_)
  · refine x_sub [2] rfl ?_
    exact w_X0_firstPairNotBefore_28 V S v2 h
  · refine x_aload_n X 0 dX0_firstPairNotBefore_12 rfl ?_
    refine xg_X0_9 X K ha0 dX0_firstPairNotBefore_13 ?_
    refine x_iload_n X 2 dX0_firstPairNotBefore_16 rfl ?_
    obtain ⟨hb1, h⟩ := h
    refine xa_C10 X K ha0 hb1 dX0_firstPairNotBefore_17 ?_
    refine x_iload_n X 1 dX0_firstPairNotBefore_18 rfl ?_
    refine x_icmp_ge X 28 dX0_firstPairNotBefore_19 (by decide) h (fun h => ?_) (fun h => ?_)
    · refine x_sub [2] rfl ?_
      exact w_X0_firstPairNotBefore_28 V S v2 h
    · refine x_iinc X 2 [(2, .int (v2 + (1 : Int32))), (0, .ref (ad 0 a0)), (1, .int a1)] dX0_firstPairNotBefore_22 rfl rfl (by rw [hN]; decide) rfl ?_
      refine x_goto X 2 dX0_firstPairNotBefore_25 (by decide) ?_
      refine x_sub [1, 2, 0] rfl ?_
      exact hK2 S (v2 + (1 : Int32)) h
set_option maxHeartbeats 2000000 in
set_option maxRecDepth 20000 in
theorem w_X0_firstPairNotBefore_2 {g : xG} {D : va_G} {cy : Nat → ClassId} {ad : Nat → Nat → Nat} {a0 : Nat} {a1 : Int32} {Q : Int32 → xS → Prop} (V : xEnv g D (xTys cy) (shC cy) ad RX0 cX0_firstPairNotBefore (some .int) 0 0 3 (xQi Q)) (ha0 : a0 < 4) (n : Nat) : ∀ (S : xS) (v2 : Int32), wp_X0_firstPairNotBefore_2 a0 a1 Q n S v2 → Wx g (xW D (shC cy) ad S) 2 [(0, .ref (ad 0 a0)), (1, .int a1), (2, .int v2)] [] := by
  induction n with
  | zero => intro S v2 h; exact h.elim
  | succ n ih => intro S v2 h; exact w_X0_firstPairNotBefore_2_b V ha0 (fun S v2 h => ih S v2 h) S v2 h
set_option maxHeartbeats 2000000 in
set_option maxRecDepth 20000 in
theorem w_X0_firstPairNotBefore {g : xG} {D : va_G} {cy : Nat → ClassId} {ad : Nat → Nat → Nat} {a0 : Nat} {a1 : Int32} {S : xS} {Q : Int32 → xS → Prop} (V : xEnv g D (xTys cy) (shC cy) ad RX0 cX0_firstPairNotBefore (some .int) 0 0 3 (xQi Q)) (ha0 : a0 < 4) (h : wp_X0_firstPairNotBefore a0 a1 S Q) : Wx g (xW D (shC cy) ad S) 0 [(0, .ref (ad 0 a0)), (1, .int a1)] [] := by
  obtain ⟨X, K, hi, hA, hR, E, hN⟩ := V
  have V := xEnv_mk X K hi hA hR E hN
  unfold wp_X0_firstPairNotBefore at h
  refine x_iconst X (v := 0) dX0_firstPairNotBefore_0 (by decide) ?_
  refine x_istore_n X [(2, .int (0 : Int32)), (0, .ref (ad 0 a0)), (1, .int a1)] dX0_firstPairNotBefore_1 (by rw [hN]; decide) rfl ?_
  refine x_sub [1, 2, 0] rfl ?_
  obtain ⟨n1, h⟩ := h
  exact w_X0_firstPairNotBefore_2 V ha0 n1 S (0 : Int32) h
set_option maxHeartbeats 2000000 in
set_option maxRecDepth 20000 in
theorem m_X0_firstPairNotBefore {l : Launch} {D : va_G} {cy : Nat → ClassId} {ad : Nat → Nat → Nat} (hi : xInj (shC cy) ad) {a0 : Nat} {a1 : Int32} {S : xS} {Q : Int32 → xS → Prop} (ha0 : a0 < 4) (h : wp_X0_firstPairNotBefore a0 a1 S Q) : xMet l D (xTys cy) (shC cy) ad yX0_firstPairNotBefore cX0_firstPairNotBefore 3 (some .int) (xRm 0 0) [.ref (ad 0 a0), .int a1] S (xQi Q) := xMet_env hi (by decide +kernel) rfl (Nat.le_of_ble_eq_true rfl) (fun g hl V => w_X0_firstPairNotBefore V ha0 h)
set_option maxHeartbeats 2000000 in
set_option maxRecDepth 20000 in
theorem w_X0_hasPair_19 {g : xG} {D : va_G} {cy : Nat → ClassId} {ad : Nat → Nat → Nat} {Q : Int32 → xS → Prop} (V : xEnv g D (xTys cy) (shC cy) ad RX0 cX0_hasPair (some .boolean) 1 22 2 (xQi Q)) (S : xS) (s0 : Int32) (h : wp_X0_hasPair_19 Q S s0) : Wx g (xW D (shC cy) ad S) 19 [] [.int s0] := by
  obtain ⟨X, K, hi, hA, hR, E, hN⟩ := V
  have V := xEnv_mk X K hi hA hR E hN
  unfold wp_X0_hasPair_19 at h
  exact x_zret X E dX0_hasPair_19 h.1 ⟨_, rfl, h.2⟩
set_option maxHeartbeats 2000000 in
set_option maxRecDepth 20000 in
theorem w_X0_hasPair {g : xG} {D : va_G} {cy : Nat → ClassId} {ad : Nat → Nat → Nat} {a0 : Nat} {a1 : Int32} {S : xS} {Q : Int32 → xS → Prop} (V : xEnv g D (xTys cy) (shC cy) ad RX0 cX0_hasPair (some .boolean) 1 22 2 (xQi Q)) (ha0 : a0 < 4) (h : wp_X0_hasPair a0 a1 S Q) : Wx g (xW D (shC cy) ad S) 0 [(0, .ref (ad 0 a0)), (1, .int a1)] [] := by
  obtain ⟨X, K, hi, hA, hR, E, hN⟩ := V
  have V := xEnv_mk X K hi hA hR E hN
  unfold wp_X0_hasPair at h
  refine x_aload_n X 0 dX0_hasPair_0 rfl ?_
  refine xg_X0_9 X K ha0 dX0_hasPair_1 ?_
  refine x_aload_n X 0 dX0_hasPair_4 rfl ?_
  refine x_iload_n X 1 dX0_hasPair_5 rfl ?_
  refine x_calli hA (x_runV (n := 1) (sh := shC cy) X K hR (fun _ q => q) (m_X0_firstPairNotBefore hi ha0 h) (kC_0 cy ha0) rfl rfl t2_30 t2_32 tp_1 t1_7 t2_33 ⟨by decide, by decide, by decide +kernel⟩ rfl (by decide) (by decide) rfl (Nat.le_of_ble_eq_true rfl) dX0_hasPair_6) (fun r2 S1 h => ?_)
  obtain ⟨hb3, h⟩ := h
  refine xa_C10 X K ha0 hb3 dX0_hasPair_9 ?_
  refine x_iload_n X 1 dX0_hasPair_10 rfl ?_
  refine x_icmp_ne X 18 dX0_hasPair_11 (by decide) h (fun h => ?_) (fun h => ?_)
  · refine x_iconst X (v := 1) dX0_hasPair_14 (by decide) ?_
    refine x_goto X 19 dX0_hasPair_15 (by decide) ?_
    refine x_sub [] rfl ?_
    exact w_X0_hasPair_19 V S1 (1 : Int32) h
  · refine x_iconst X (v := 0) dX0_hasPair_18 (by decide) ?_
    refine x_sub [] rfl ?_
    exact w_X0_hasPair_19 V S1 (0 : Int32) h
set_option maxHeartbeats 2000000 in
set_option maxRecDepth 20000 in
theorem m_X0_hasPair {l : Launch} {D : va_G} {cy : Nat → ClassId} {ad : Nat → Nat → Nat} (hi : xInj (shC cy) ad) {a0 : Nat} {a1 : Int32} {S : xS} {Q : Int32 → xS → Prop} (ha0 : a0 < 4) (h : wp_X0_hasPair a0 a1 S Q) : xMet l D (xTys cy) (shC cy) ad yX0_hasPair cX0_hasPair 2 (some .boolean) (xRm 1 22) [.ref (ad 0 a0), .int a1] S (xQi Q) := xMet_env hi (by decide +kernel) rfl (Nat.le_of_ble_eq_true rfl) (fun g hl V => w_X0_hasPair V ha0 h)
set_option maxHeartbeats 2000000 in
set_option maxRecDepth 20000 in
theorem w_X0_keepsOrder_52 {g : xG} {D : va_G} {cy : Nat → ClassId} {ad : Nat → Nat → Nat} {a0 : Nat} {a1 : Int32} {a2 : Int32} {K2 : xS → Int32 → Prop} {Q : Int32 → xS → Prop} (V : xEnv g D (xTys cy) (shC cy) ad RX0 cX0_keepsOrder (some .boolean) 0 0 4 (xQi Q)) (ha0 : a0 < 4) (hK2 : ∀ (S : xS) (v3 : Int32), K2 S v3 → Wx g (xW D (shC cy) ad S) 2 [(0, .ref (ad 0 a0)), (1, .int a1), (2, .int a2), (3, .int v3)] []) (S : xS) (v3 : Int32) (h : wp_X0_keepsOrder_52 a0 a1 a2 K2 Q S v3) : Wx g (xW D (shC cy) ad S) 52 [(0, .ref (ad 0 a0)), (1, .int a1), (2, .int a2), (3, .int v3)] [] := by
  obtain ⟨X, K, hi, hA, hR, E, hN⟩ := V
  have V := xEnv_mk X K hi hA hR E hN
  unfold wp_X0_keepsOrder_52 at h
  refine x_iinc X 3 [(3, .int (v3 + (1 : Int32))), (0, .ref (ad 0 a0)), (1, .int a1), (2, .int a2)] dX0_keepsOrder_52 rfl rfl (by rw [hN]; decide) rfl ?_
  refine x_goto X 2 dX0_keepsOrder_55 (by decide) ?_
  refine x_sub [1, 2, 3, 0] rfl ?_
  exact hK2 S (v3 + (1 : Int32)) h
set_option maxHeartbeats 2000000 in
set_option maxRecDepth 20000 in
theorem w_X0_keepsOrder_50 {g : xG} {D : va_G} {cy : Nat → ClassId} {ad : Nat → Nat → Nat} {Q : Int32 → xS → Prop} (V : xEnv g D (xTys cy) (shC cy) ad RX0 cX0_keepsOrder (some .boolean) 0 0 4 (xQi Q)) (S : xS) (h : wp_X0_keepsOrder_50 Q S) : Wx g (xW D (shC cy) ad S) 50 [] [] := by
  obtain ⟨X, K, hi, hA, hR, E, hN⟩ := V
  have V := xEnv_mk X K hi hA hR E hN
  unfold wp_X0_keepsOrder_50 at h
  refine x_iconst X (v := 0) dX0_keepsOrder_50 (by decide) ?_
  exact x_zret X E dX0_keepsOrder_51 h.1 ⟨_, rfl, h.2⟩
set_option maxHeartbeats 2000000 in
set_option maxRecDepth 20000 in
theorem w_X0_keepsOrder_30 {g : xG} {D : va_G} {cy : Nat → ClassId} {ad : Nat → Nat → Nat} {a0 : Nat} {a1 : Int32} {a2 : Int32} {K2 : xS → Int32 → Prop} {Q : Int32 → xS → Prop} (V : xEnv g D (xTys cy) (shC cy) ad RX0 cX0_keepsOrder (some .boolean) 0 0 4 (xQi Q)) (ha0 : a0 < 4) (hK2 : ∀ (S : xS) (v3 : Int32), K2 S v3 → Wx g (xW D (shC cy) ad S) 2 [(0, .ref (ad 0 a0)), (1, .int a1), (2, .int a2), (3, .int v3)] []) (S : xS) (v3 : Int32) (h : wp_X0_keepsOrder_30 a0 a1 a2 K2 Q S v3) : Wx g (xW D (shC cy) ad S) 30 [(0, .ref (ad 0 a0)), (1, .int a1), (2, .int a2), (3, .int v3)] [] := by
  obtain ⟨X, K, hi, hA, hR, E, hN⟩ := V
  have V := xEnv_mk X K hi hA hR E hN
  unfold wp_X0_keepsOrder_30 at h
  refine x_aload_n X 0 dX0_keepsOrder_30 rfl ?_
  refine xg_X0_9 X K ha0 dX0_keepsOrder_31 ?_
  refine x_iload_n X 3 dX0_keepsOrder_34 rfl ?_
  obtain ⟨hb1, h⟩ := h
  refine xa_C10 X K ha0 hb1 dX0_keepsOrder_35 ?_
  refine x_iload_n X 1 dX0_keepsOrder_36 rfl ?_
  refine x_icmp_le X 52 dX0_keepsOrder_37 (by decide) h (fun h => ?_) (fun h => ?_)
  · refine x_sub [0, 1, 2, 3] rfl ?_
    exact w_X0_keepsOrder_52 V ha0 hK2 S v3 h
  · refine x_aload_n X 0 dX0_keepsOrder_40 rfl ?_
    refine xg_X0_15 X K ha0 dX0_keepsOrder_41 ?_
    refine x_iload_n X 3 dX0_keepsOrder_44 rfl ?_
    obtain ⟨hb2, h⟩ := h
    refine xa_C11 X K ha0 hb2 dX0_keepsOrder_45 ?_
    refine x_iload_n X 2 dX0_keepsOrder_46 rfl ?_
    refine x_icmp_ge X 52 dX0_keepsOrder_47 (by decide) h (fun h => ?_) (fun h => ?_)
    · refine x_sub [0, 1, 2, 3] rfl ?_
      exact w_X0_keepsOrder_52 V ha0 hK2 S v3 h
    · refine x_sub [] rfl ?_
      exact w_X0_keepsOrder_50 V S h
set_option maxHeartbeats 2000000 in
set_option maxRecDepth 20000 in
theorem w_X0_keepsOrder_2_b {g : xG} {D : va_G} {cy : Nat → ClassId} {ad : Nat → Nat → Nat} {a0 : Nat} {a1 : Int32} {a2 : Int32} {K2 : xS → Int32 → Prop} {Q : Int32 → xS → Prop} (V : xEnv g D (xTys cy) (shC cy) ad RX0 cX0_keepsOrder (some .boolean) 0 0 4 (xQi Q)) (ha0 : a0 < 4) (hK2 : ∀ (S : xS) (v3 : Int32), K2 S v3 → Wx g (xW D (shC cy) ad S) 2 [(0, .ref (ad 0 a0)), (1, .int a1), (2, .int a2), (3, .int v3)] []) (S : xS) (v3 : Int32) (h : wp_X0_keepsOrder_2_b a0 a1 a2 K2 Q S v3) : Wx g (xW D (shC cy) ad S) 2 [(0, .ref (ad 0 a0)), (1, .int a1), (2, .int a2), (3, .int v3)] [] := by
  obtain ⟨X, K, hi, hA, hR, E, hN⟩ := V
  have V := xEnv_mk X K hi hA hR E hN
  unfold wp_X0_keepsOrder_2_b at h
  refine x_iload_n X 3 dX0_keepsOrder_2 rfl ?_
  refine x_aload_n X 0 dX0_keepsOrder_3 rfl ?_
  refine xg_X0_28 X K ha0 dX0_keepsOrder_4 ?_
  refine x_icmp_ge X 58 dX0_keepsOrder_7 (by decide) h (fun h => ?_) (fun h => ?_)
  · refine x_iconst X (v := 1) dX0_keepsOrder_58 (by decide) ?_
    exact x_zret X E dX0_keepsOrder_59 h.1 ⟨_, rfl, h.2⟩
  · refine x_aload_n X 0 dX0_keepsOrder_10 rfl ?_
    refine xg_X0_9 X K ha0 dX0_keepsOrder_11 ?_
    refine x_iload_n X 3 dX0_keepsOrder_14 rfl ?_
    obtain ⟨hb1, h⟩ := h
    refine xa_C10 X K ha0 hb1 dX0_keepsOrder_15 ?_
    refine x_iload_n X 1 dX0_keepsOrder_16 rfl ?_
    refine x_icmp_ge X 30 dX0_keepsOrder_17 (by decide) h (fun h => ?_) (fun h => ?_)
    · refine x_sub [0, 1, 2, 3] rfl ?_
      exact w_X0_keepsOrder_30 V ha0 hK2 S v3 h
    · refine x_aload_n X 0 dX0_keepsOrder_20 rfl ?_
      refine xg_X0_15 X K ha0 dX0_keepsOrder_21 ?_
      refine x_iload_n X 3 dX0_keepsOrder_24 rfl ?_
      obtain ⟨hb2, h⟩ := h
      refine xa_C11 X K ha0 hb2 dX0_keepsOrder_25 ?_
      refine x_iload_n X 2 dX0_keepsOrder_26 rfl ?_
      refine x_icmp_gt X 50 dX0_keepsOrder_27 (by decide) h (fun h => ?_) (fun h => ?_)
      · refine x_sub [] rfl ?_
        exact w_X0_keepsOrder_50 V S h
      · refine x_sub [0, 1, 2, 3] rfl ?_
        exact w_X0_keepsOrder_30 V ha0 hK2 S v3 h
set_option maxHeartbeats 2000000 in
set_option maxRecDepth 20000 in
theorem w_X0_keepsOrder_2 {g : xG} {D : va_G} {cy : Nat → ClassId} {ad : Nat → Nat → Nat} {a0 : Nat} {a1 : Int32} {a2 : Int32} {Q : Int32 → xS → Prop} (V : xEnv g D (xTys cy) (shC cy) ad RX0 cX0_keepsOrder (some .boolean) 0 0 4 (xQi Q)) (ha0 : a0 < 4) (n : Nat) : ∀ (S : xS) (v3 : Int32), wp_X0_keepsOrder_2 a0 a1 a2 Q n S v3 → Wx g (xW D (shC cy) ad S) 2 [(0, .ref (ad 0 a0)), (1, .int a1), (2, .int a2), (3, .int v3)] [] := by
  induction n with
  | zero => intro S v3 h; exact h.elim
  | succ n ih => intro S v3 h; exact w_X0_keepsOrder_2_b V ha0 (fun S v3 h => ih S v3 h) S v3 h
set_option maxHeartbeats 2000000 in
set_option maxRecDepth 20000 in
theorem w_X0_keepsOrder {g : xG} {D : va_G} {cy : Nat → ClassId} {ad : Nat → Nat → Nat} {a0 : Nat} {a1 : Int32} {a2 : Int32} {S : xS} {Q : Int32 → xS → Prop} (V : xEnv g D (xTys cy) (shC cy) ad RX0 cX0_keepsOrder (some .boolean) 0 0 4 (xQi Q)) (ha0 : a0 < 4) (h : wp_X0_keepsOrder a0 a1 a2 S Q) : Wx g (xW D (shC cy) ad S) 0 [(0, .ref (ad 0 a0)), (1, .int a1), (2, .int a2)] [] := by
  obtain ⟨X, K, hi, hA, hR, E, hN⟩ := V
  have V := xEnv_mk X K hi hA hR E hN
  unfold wp_X0_keepsOrder at h
  refine x_iconst X (v := 0) dX0_keepsOrder_0 (by decide) ?_
  refine x_istore_n X [(3, .int (0 : Int32)), (0, .ref (ad 0 a0)), (1, .int a1), (2, .int a2)] dX0_keepsOrder_1 (by rw [hN]; decide) rfl ?_
  refine x_sub [1, 2, 3, 0] rfl ?_
  obtain ⟨n1, h⟩ := h
  exact w_X0_keepsOrder_2 V ha0 n1 S (0 : Int32) h
set_option maxHeartbeats 2000000 in
set_option maxRecDepth 20000 in
theorem m_X0_keepsOrder {l : Launch} {D : va_G} {cy : Nat → ClassId} {ad : Nat → Nat → Nat} (hi : xInj (shC cy) ad) {a0 : Nat} {a1 : Int32} {a2 : Int32} {S : xS} {Q : Int32 → xS → Prop} (ha0 : a0 < 4) (h : wp_X0_keepsOrder a0 a1 a2 S Q) : xMet l D (xTys cy) (shC cy) ad yX0_keepsOrder cX0_keepsOrder 4 (some .boolean) (xRm 0 0) [.ref (ad 0 a0), .int a1, .int a2] S (xQi Q) := xMet_env hi (by decide +kernel) rfl (Nat.le_of_ble_eq_true rfl) (fun g hl V => w_X0_keepsOrder V ha0 h)
set_option maxHeartbeats 2000000 in
set_option maxRecDepth 20000 in
theorem w_X0_putPair_92 {g : xG} {D : va_G} {cy : Nat → ClassId} {ad : Nat → Nat → Nat} {a0 : Nat} {a2 : Int32} {Q : xS → Prop} (V : xEnv g D (xTys cy) (shC cy) ad RX0 cX0_putPair none 1 22 5 (xQv Q)) (ha0 : a0 < 4) (S : xS) (v3 : Int32) (h : wp_X0_putPair_92 a0 a2 Q S v3) : Wx g (xW D (shC cy) ad S) 92 [(0, .ref (ad 0 a0)), (2, .int a2), (3, .int v3)] [] := by
  obtain ⟨X, K, hi, hA, hR, E, hN⟩ := V
  have V := xEnv_mk X K hi hA hR E hN
  unfold wp_X0_putPair_92 at h
  refine x_aload_n X 0 dX0_putPair_92 rfl ?_
  refine xg_X0_15 X K ha0 dX0_putPair_93 ?_
  refine x_iload_n X 2 dX0_putPair_96 rfl ?_
  refine x_iload_n X 1 dX0_putPair_97 rfl ?_
  obtain ⟨hb1, h⟩ := h
  refine xs_C11 X K hi hA ha0 hb1 dX0_putPair_98 ?_
  exact x_vret X E dX0_putPair_99 ⟨rfl, h⟩
set_option maxHeartbeats 2000000 in
set_option maxRecDepth 20000 in
theorem w_X0_putPair_31_b {g : xG} {D : va_G} {cy : Nat → ClassId} {ad : Nat → Nat → Nat} {a0 : Nat} {a1 : Int32} {a2 : Int32} {K31 : xS → Int32 → Int32 → Prop} {Q : xS → Prop} (V : xEnv g D (xTys cy) (shC cy) ad RX0 cX0_putPair none 1 22 5 (xQv Q)) (ha0 : a0 < 4) (hK31 : ∀ (S : xS) (v3 : Int32) (v4 : Int32), K31 S v3 v4 → Wx g (xW D (shC cy) ad S) 31 [(0, .ref (ad 0 a0)), (1, .int a1), (2, .int a2), (3, .int v3), (4, .int v4)] []) (S : xS) (v3 : Int32) (v4 : Int32) (h : wp_X0_putPair_31_b a0 a1 a2 K31 Q S v3 v4) : Wx g (xW D (shC cy) ad S) 31 [(0, .ref (ad 0 a0)), (1, .int a1), (2, .int a2), (3, .int v3), (4, .int v4)] [] := by
  obtain ⟨X, K, hi, hA, hR, E, hN⟩ := V
  have V := xEnv_mk X K hi hA hR E hN
  unfold wp_X0_putPair_31_b at h
  refine x_iload X 4 dX0_putPair_31 rfl ?_
  refine x_iload_n X 3 dX0_putPair_33 rfl ?_
  refine x_icmp_le X 75 dX0_putPair_34 (by decide) h (fun h => ?_) (fun h => ?_)
  · refine x_aload_n X 0 dX0_putPair_75 rfl ?_
    refine xg_X0_9 X K ha0 dX0_putPair_76 ?_
    refine x_iload_n X 3 dX0_putPair_79 rfl ?_
    refine x_iload_n X 1 dX0_putPair_80 rfl ?_
    obtain ⟨hb1, h⟩ := h
    refine xs_C10 X K hi hA ha0 hb1 dX0_putPair_81 ?_
    refine x_aload_n X 0 dX0_putPair_82 rfl ?_
    refine x_dup X dX0_putPair_83 rfl ?_
    refine xg_X0_28 X K ha0 dX0_putPair_84 ?_
    refine x_iconst X (v := 1) dX0_putPair_87 (by decide) ?_
    refine x_iadd X dX0_putPair_88 ?_
    refine xp_X0_28 X K hi hA ha0 dX0_putPair_89 ?_
    refine x_sub [0, 2, 3] rfl ?_
    exact w_X0_putPair_92 V ha0 (xI (xI S 10 a0 v3.toNatClampNeg a1) 0 a0 4 (((xI S 10 a0 v3.toNatClampNeg a1).1 0 a0 4) + (1 : Int32))) v3 h
  · refine x_aload_n X 0 dX0_putPair_37 rfl ?_
    refine xg_X0_9 X K ha0 dX0_putPair_38 ?_
    refine x_iload X 4 dX0_putPair_41 rfl ?_
    refine x_aload_n X 0 dX0_putPair_43 rfl ?_
    refine xg_X0_9 X K ha0 dX0_putPair_44 ?_
    refine x_iload X 4 dX0_putPair_47 rfl ?_
    refine x_iconst X (v := 1) dX0_putPair_49 (by decide) ?_
    refine x_isub X dX0_putPair_50 ?_
    obtain ⟨hb2, h⟩ := h
    refine xa_C10 X K ha0 hb2 dX0_putPair_51 ?_
    obtain ⟨hb3, h⟩ := h
    refine xs_C10 X K hi hA ha0 hb3 dX0_putPair_52 ?_
    refine x_aload_n X 0 dX0_putPair_53 rfl ?_
    refine xg_X0_15 X K ha0 dX0_putPair_54 ?_
    refine x_iload X 4 dX0_putPair_57 rfl ?_
    refine x_aload_n X 0 dX0_putPair_59 rfl ?_
    refine xg_X0_15 X K ha0 dX0_putPair_60 ?_
    refine x_iload X 4 dX0_putPair_63 rfl ?_
    refine x_iconst X (v := 1) dX0_putPair_65 (by decide) ?_
    refine x_isub X dX0_putPair_66 ?_
    obtain ⟨hb4, h⟩ := h
    refine xa_C11 X K ha0 hb4 dX0_putPair_67 ?_
    obtain ⟨hb5, h⟩ := h
    refine xs_C11 X K hi hA ha0 hb5 dX0_putPair_68 ?_
    refine x_iinc X 4 [(4, .int (v4 + (-1 : Int32))), (0, .ref (ad 0 a0)), (1, .int a1), (2, .int a2), (3, .int v3)] dX0_putPair_69 rfl rfl (by rw [hN]; decide) rfl ?_
    refine x_goto X 31 dX0_putPair_72 (by decide) ?_
    refine x_sub [1, 2, 3, 4, 0] rfl ?_
    exact hK31 (xI (xI S 10 a0 v4.toNatClampNeg (S.1 10 a0 (v4 - (1 : Int32)).toNatClampNeg)) 11 a0 v4.toNatClampNeg ((xI S 10 a0 v4.toNatClampNeg (S.1 10 a0 (v4 - (1 : Int32)).toNatClampNeg)).1 11 a0 (v4 - (1 : Int32)).toNatClampNeg)) v3 (v4 + (-1 : Int32)) h
set_option maxHeartbeats 2000000 in
set_option maxRecDepth 20000 in
theorem w_X0_putPair_31 {g : xG} {D : va_G} {cy : Nat → ClassId} {ad : Nat → Nat → Nat} {a0 : Nat} {a1 : Int32} {a2 : Int32} {Q : xS → Prop} (V : xEnv g D (xTys cy) (shC cy) ad RX0 cX0_putPair none 1 22 5 (xQv Q)) (ha0 : a0 < 4) (n : Nat) : ∀ (S : xS) (v3 : Int32) (v4 : Int32), wp_X0_putPair_31 a0 a1 a2 Q n S v3 v4 → Wx g (xW D (shC cy) ad S) 31 [(0, .ref (ad 0 a0)), (1, .int a1), (2, .int a2), (3, .int v3), (4, .int v4)] [] := by
  induction n with
  | zero => intro S v3 v4 h; exact h.elim
  | succ n ih => intro S v3 v4 h; exact w_X0_putPair_31_b V ha0 (fun S v3 v4 h => ih S v3 v4 h) S v3 v4 h
set_option maxHeartbeats 2000000 in
set_option maxRecDepth 20000 in
theorem w_X0_putPair {g : xG} {D : va_G} {cy : Nat → ClassId} {ad : Nat → Nat → Nat} {a0 : Nat} {a1 : Int32} {a2 : Int32} {S : xS} {Q : xS → Prop} (V : xEnv g D (xTys cy) (shC cy) ad RX0 cX0_putPair none 1 22 5 (xQv Q)) (ha0 : a0 < 4) (h : wp_X0_putPair a0 a1 a2 S Q) : Wx g (xW D (shC cy) ad S) 0 [(0, .ref (ad 0 a0)), (1, .int a1), (2, .int a2)] [] := by
  obtain ⟨X, K, hi, hA, hR, E, hN⟩ := V
  have V := xEnv_mk X K hi hA hR E hN
  unfold wp_X0_putPair at h
  refine x_aload_n X 0 dX0_putPair_0 rfl ?_
  refine x_iload_n X 1 dX0_putPair_1 rfl ?_
  refine x_calli hA (x_runV (n := 1) (sh := shC cy) X K hR (fun _ q => q) (m_X0_firstPairNotBefore hi ha0 h) (kC_0 cy ha0) rfl rfl t2_30 t2_32 tp_1 t1_7 t2_33 ⟨by decide, by decide, by decide +kernel⟩ rfl (by decide) (by decide) rfl (Nat.le_of_ble_eq_true rfl) dX0_putPair_2) (fun r2 S1 h => ?_)
  refine x_istore_n X [(3, .int r2), (0, .ref (ad 0 a0)), (1, .int a1), (2, .int a2)] dX0_putPair_5 (by rw [hN]; decide) rfl ?_
  refine x_aload_n X 1 dX0_putPair_6 rfl ?_
  refine xg_X0_9 X K ha0 dX0_putPair_7 ?_
  refine x_iload_n X 0 dX0_putPair_10 rfl ?_
  obtain ⟨hb3, h⟩ := h
  refine xa_C10 X K ha0 hb3 dX0_putPair_11 ?_
  refine x_iload_n X 2 dX0_putPair_12 rfl ?_
  refine x_icmp_eq X 92 dX0_putPair_13 (by decide) h (fun h => ?_) (fun h => ?_)
  · refine x_sub [1, 3, 0] rfl ?_
    exact w_X0_putPair_92 V ha0 S1 r2 h
  · refine x_aload_n X 1 dX0_putPair_16 rfl ?_
    refine xg_X0_28 X K ha0 dX0_putPair_17 ?_
    refine x_bipush X (v := 8) dX0_putPair_20 (by decide) ?_
    refine x_icmp_ge X 92 dX0_putPair_22 (by decide) h (fun h => ?_) (fun h => ?_)
    · refine x_sub [1, 3, 0] rfl ?_
      exact w_X0_putPair_92 V ha0 S1 r2 h
    · refine x_aload_n X 1 dX0_putPair_25 rfl ?_
      refine xg_X0_28 X K ha0 dX0_putPair_26 ?_
      refine x_istore X [(4, .int (S1.1 0 a0 4)), (3, .int r2), (0, .ref (ad 0 a0)), (1, .int a1), (2, .int a2)] dX0_putPair_29 (by rw [hN]; decide) rfl ?_
      refine x_sub [2, 3, 4, 1, 0] rfl ?_
      obtain ⟨n4, h⟩ := h
      exact w_X0_putPair_31 V ha0 n4 S1 r2 (S1.1 0 a0 4) h
set_option maxHeartbeats 2000000 in
set_option maxRecDepth 20000 in
theorem m_X0_putPair {l : Launch} {D : va_G} {cy : Nat → ClassId} {ad : Nat → Nat → Nat} (hi : xInj (shC cy) ad) {a0 : Nat} {a1 : Int32} {a2 : Int32} {S : xS} {Q : xS → Prop} (ha0 : a0 < 4) (h : wp_X0_putPair a0 a1 a2 S Q) : xMet l D (xTys cy) (shC cy) ad yX0_putPair cX0_putPair 5 none (xRm 1 22) [.ref (ad 0 a0), .int a1, .int a2] S (xQv Q) := xMet_env hi (by decide +kernel) rfl (Nat.le_of_ble_eq_true rfl) (fun g hl V => w_X0_putPair V ha0 h)
set_option maxHeartbeats 2000000 in
set_option maxRecDepth 20000 in
theorem w_X1_begin {g : xG} {D : va_G} {cy : Nat → ClassId} {ad : Nat → Nat → Nat} {a0 : Nat} {a1 : Int32} {a2 : Int32} {S : xS} {Q : xS → Prop} (V : xEnv g D (xTys cy) (shC cy) ad RX1 cX1_begin none 0 0 3 (xQv Q)) (ha0 : a0 < 12) (h : wp_X1_begin a0 a1 a2 S Q) : Wx g (xW D (shC cy) ad S) 0 [(0, .ref (ad 1 a0)), (1, .int a1), (2, .int a2)] [] := by
  obtain ⟨X, K, hi, hA, hR, E, hN⟩ := V
  have V := xEnv_mk X K hi hA hR E hN
  unfold wp_X1_begin at h
  refine x_aload_n X 0 dX1_begin_0 rfl ?_
  refine x_iload_n X 1 dX1_begin_1 rfl ?_
  obtain ⟨hb1, h⟩ := h
  refine xp_X1_31 X K hi hA ha0 hb1 dX1_begin_2 ?_
  refine x_aload_n X 0 dX1_begin_5 rfl ?_
  refine xg_X1_9 X K ha0 dX1_begin_6 ?_
  refine x_iconst X (v := 0) dX1_begin_9 (by decide) ?_
  refine x_iload_n X 2 dX1_begin_10 rfl ?_
  obtain ⟨hb2, h⟩ := h
  refine xs_C12 X K hi hA ha0 hb2 dX1_begin_11 ?_
  exact x_vret X E dX1_begin_12 ⟨rfl, h⟩
set_option maxHeartbeats 2000000 in
set_option maxRecDepth 20000 in
theorem m_X1_begin {l : Launch} {D : va_G} {cy : Nat → ClassId} {ad : Nat → Nat → Nat} (hi : xInj (shC cy) ad) {a0 : Nat} {a1 : Int32} {a2 : Int32} {S : xS} {Q : xS → Prop} (ha0 : a0 < 12) (h : wp_X1_begin a0 a1 a2 S Q) : xMet l D (xTys cy) (shC cy) ad yX1_begin cX1_begin 3 none (xRm 0 0) [.ref (ad 1 a0), .int a1, .int a2] S (xQv Q) := xMet_env hi (by decide +kernel) rfl (Nat.le_of_ble_eq_true rfl) (fun g hl V => w_X1_begin V ha0 h)
set_option maxHeartbeats 2000000 in
set_option maxRecDepth 20000 in
theorem w_X5_copyFrom {g : xG} {D : va_G} {cy : Nat → ClassId} {ad : Nat → Nat → Nat} {a0 : Nat} {a1 : Nat} {S : xS} {Q : xS → Prop} (V : xEnv g D (xTys cy) (shC cy) ad RX5 cX5_copyFrom none 1 60 2 (xQv Q)) (ha0 : a0 < 60) (ha1 : a1 < 60) (h : wp_X5_copyFrom a0 a1 S Q) : Wx g (xW D (shC cy) ad S) 0 [(0, .ref (ad 5 a0)), (1, .ref (ad 5 a1))] [] := by
  obtain ⟨X, K, hi, hA, hR, E, hN⟩ := V
  have V := xEnv_mk X K hi hA hR E hN
  unfold wp_X5_copyFrom at h
  refine x_aload_n X 1 dX5_copyFrom_0 rfl ?_
  refine xg_X5_9 X K ha1 dX5_copyFrom_1 ?_
  refine x_iconst X (v := 0) dX5_copyFrom_4 (by decide) ?_
  refine x_aload_n X 0 dX5_copyFrom_5 rfl ?_
  refine xg_X5_9 X K ha0 dX5_copyFrom_6 ?_
  refine x_iconst X (v := 0) dX5_copyFrom_9 (by decide) ?_
  refine x_iconst X (v := 4) dX5_copyFrom_10 (by decide) ?_
  obtain ⟨hc1, h⟩ := h
  refine x_copyi (sh := shC cy) (t0 := 1) X K hi hA hR (kC_24 cy ha0) (kC_24 cy ha1) (fun _ => rfl) rfl rfl hc1.1 hc1.2.1 hc1.2.2.1 hc1.2.2.2.1 hc1.2.2.2.2 t3_103 t3_81 t3_80 t1_11 (by decide) (by decide) dX5_copyFrom_11 ?_
  refine x_aload_n X 1 dX5_copyFrom_14 rfl ?_
  refine xg_X5_15 X K ha1 dX5_copyFrom_15 ?_
  refine x_iconst X (v := 0) dX5_copyFrom_18 (by decide) ?_
  refine x_aload_n X 0 dX5_copyFrom_19 rfl ?_
  refine xg_X5_15 X K ha0 dX5_copyFrom_20 ?_
  refine x_iconst X (v := 0) dX5_copyFrom_23 (by decide) ?_
  refine x_iconst X (v := 4) dX5_copyFrom_24 (by decide) ?_
  obtain ⟨hc2, h⟩ := h
  refine x_copyi (sh := shC cy) (t0 := 1) X K hi hA hR (kC_25 cy ha0) (kC_25 cy ha1) (fun _ => rfl) rfl rfl hc2.1 hc2.2.1 hc2.2.2.1 hc2.2.2.2.1 hc2.2.2.2.2 t3_103 t3_81 t3_80 t1_11 (by decide) (by decide) dX5_copyFrom_25 ?_
  refine x_aload_n X 1 dX5_copyFrom_28 rfl ?_
  refine xg_X5_18 X K ha1 dX5_copyFrom_29 ?_
  refine x_iconst X (v := 0) dX5_copyFrom_32 (by decide) ?_
  refine x_aload_n X 0 dX5_copyFrom_33 rfl ?_
  refine xg_X5_18 X K ha0 dX5_copyFrom_34 ?_
  refine x_iconst X (v := 0) dX5_copyFrom_37 (by decide) ?_
  refine x_iconst X (v := 4) dX5_copyFrom_38 (by decide) ?_
  obtain ⟨hc3, h⟩ := h
  refine x_copyi (sh := shC cy) (t0 := 1) X K hi hA hR (kC_26 cy ha0) (kC_26 cy ha1) (fun _ => rfl) rfl rfl hc3.1 hc3.2.1 hc3.2.2.1 hc3.2.2.2.1 hc3.2.2.2.2 t3_103 t3_81 t3_80 t1_11 (by decide) (by decide) dX5_copyFrom_39 ?_
  refine x_aload_n X 0 dX5_copyFrom_42 rfl ?_
  refine x_aload_n X 1 dX5_copyFrom_43 rfl ?_
  refine xg_X5_27 X K ha1 dX5_copyFrom_44 ?_
  refine xp_X5_27 X K hi hA ha0 dX5_copyFrom_47 ?_
  refine x_aload_n X 1 dX5_copyFrom_50 rfl ?_
  refine xg_X5_21 X K ha1 dX5_copyFrom_51 ?_
  refine x_iconst X (v := 0) dX5_copyFrom_54 (by decide) ?_
  refine x_aload_n X 0 dX5_copyFrom_55 rfl ?_
  refine xg_X5_21 X K ha0 dX5_copyFrom_56 ?_
  refine x_iconst X (v := 0) dX5_copyFrom_59 (by decide) ?_
  refine x_bipush X (v := 25) dX5_copyFrom_60 (by decide) ?_
  obtain ⟨hc4, h⟩ := h
  refine x_copyi (sh := shC cy) (t0 := 1) X K hi hA hR (kC_27 cy ha0) (kC_27 cy ha1) (fun _ => rfl) rfl rfl hc4.1 hc4.2.1 hc4.2.2.1 hc4.2.2.2.1 hc4.2.2.2.2 t3_103 t3_81 t3_80 t1_11 (by decide) (by decide) dX5_copyFrom_62 ?_
  refine x_aload_n X 1 dX5_copyFrom_65 rfl ?_
  refine xg_X5_24 X K ha1 dX5_copyFrom_66 ?_
  refine x_iconst X (v := 0) dX5_copyFrom_69 (by decide) ?_
  refine x_aload_n X 0 dX5_copyFrom_70 rfl ?_
  refine xg_X5_24 X K ha0 dX5_copyFrom_71 ?_
  refine x_iconst X (v := 0) dX5_copyFrom_74 (by decide) ?_
  refine x_bipush X (v := 25) dX5_copyFrom_75 (by decide) ?_
  obtain ⟨hc5, h⟩ := h
  refine x_copyi (sh := shC cy) (t0 := 1) X K hi hA hR (kC_28 cy ha0) (kC_28 cy ha1) (fun _ => rfl) rfl rfl hc5.1 hc5.2.1 hc5.2.2.1 hc5.2.2.2.1 hc5.2.2.2.2 t3_103 t3_81 t3_80 t1_11 (by decide) (by decide) dX5_copyFrom_77 ?_
  exact x_vret X E dX5_copyFrom_80 ⟨rfl, h⟩
set_option maxHeartbeats 2000000 in
set_option maxRecDepth 20000 in
theorem m_X5_copyFrom {l : Launch} {D : va_G} {cy : Nat → ClassId} {ad : Nat → Nat → Nat} (hi : xInj (shC cy) ad) {a0 : Nat} {a1 : Nat} {S : xS} {Q : xS → Prop} (ha0 : a0 < 60) (ha1 : a1 < 60) (h : wp_X5_copyFrom a0 a1 S Q) : xMet l D (xTys cy) (shC cy) ad yX5_copyFrom cX5_copyFrom 2 none (xRm 1 60) [.ref (ad 5 a0), .ref (ad 5 a1)] S (xQv Q) := xMet_env hi (by decide +kernel) rfl (Nat.le_of_ble_eq_true rfl) (fun g hl V => w_X5_copyFrom V ha0 ha1 h)
set_option maxHeartbeats 2000000 in
set_option maxRecDepth 20000 in
theorem w_X1_copyFrom_85_b {g : xG} {D : va_G} {cy : Nat → ClassId} {ad : Nat → Nat → Nat} {a0 : Nat} {a1 : Nat} {K85 : xS → Int32 → Prop} {Q : xS → Prop} (V : xEnv g D (xTys cy) (shC cy) ad RX1 cX1_copyFrom none 2 81 3 (xQv Q)) (ha0 : a0 < 12) (ha1 : a1 < 12) (hK85 : ∀ (S : xS) (v2 : Int32), K85 S v2 → Wx g (xW D (shC cy) ad S) 85 [(0, .ref (ad 1 a0)), (1, .ref (ad 1 a1)), (2, .int v2)] []) (S : xS) (v2 : Int32) (h : wp_X1_copyFrom_85_b a0 a1 K85 Q S v2) : Wx g (xW D (shC cy) ad S) 85 [(0, .ref (ad 1 a0)), (1, .ref (ad 1 a1)), (2, .int v2)] [] := by
  obtain ⟨X, K, hi, hA, hR, E, hN⟩ := V
  have V := xEnv_mk X K hi hA hR E hN
  unfold wp_X1_copyFrom_85_b at h
  refine x_iload_n X 2 dX1_copyFrom_85 rfl ?_
  refine x_aload_n X 0 dX1_copyFrom_86 rfl ?_
  refine xg_X1_45 X K ha0 dX1_copyFrom_87 ?_
  refine x_icmp_ge X 114 dX1_copyFrom_90 (by decide) h (fun h => ?_) (fun h => ?_)
  · exact x_vret X E dX1_copyFrom_114 ⟨rfl, h⟩
  · refine x_aload_n X 0 dX1_copyFrom_93 rfl ?_
    refine xg_X1_26 X K ha0 dX1_copyFrom_94 ?_
    refine x_iload_n X 2 dX1_copyFrom_97 rfl ?_
    obtain ⟨⟨hb1, hv2⟩, h⟩ := h
    refine xa_C16 X K ha0 hb1 dX1_copyFrom_98 ?_
    refine x_aload_n X 1 dX1_copyFrom_99 rfl ?_
    refine xg_X1_26 X K ha1 dX1_copyFrom_100 ?_
    refine x_iload_n X 2 dX1_copyFrom_103 rfl ?_
    obtain ⟨⟨hb3, hv4⟩, h⟩ := h
    refine xa_C16 X K ha1 hb3 dX1_copyFrom_104 ?_
    refine x_callv hA (x_runV (n := 1) (sh := shC cy) X K hR (fun _ q => q) (m_X5_copyFrom hi hv2 hv4 h) (kC_5 cy hv2) rfl rfl t3_99 t3_100 t3_101 t1_5 t3_102 ⟨by decide, by decide, by decide +kernel⟩ rfl (by decide) (by decide) rfl (Nat.le_of_ble_eq_true rfl) dX1_copyFrom_105) (fun S5 h => ?_)
    refine x_iinc X 2 [(2, .int (v2 + (1 : Int32))), (0, .ref (ad 1 a0)), (1, .ref (ad 1 a1))] dX1_copyFrom_108 rfl rfl (by rw [hN]; decide) rfl ?_
    refine x_goto X 85 dX1_copyFrom_111 (by decide) ?_
    refine x_sub [1, 2, 0] rfl ?_
    exact hK85 S5 (v2 + (1 : Int32)) h
set_option maxHeartbeats 2000000 in
set_option maxRecDepth 20000 in
theorem w_X1_copyFrom_85 {g : xG} {D : va_G} {cy : Nat → ClassId} {ad : Nat → Nat → Nat} {a0 : Nat} {a1 : Nat} {Q : xS → Prop} (V : xEnv g D (xTys cy) (shC cy) ad RX1 cX1_copyFrom none 2 81 3 (xQv Q)) (ha0 : a0 < 12) (ha1 : a1 < 12) (n : Nat) : ∀ (S : xS) (v2 : Int32), wp_X1_copyFrom_85 a0 a1 Q n S v2 → Wx g (xW D (shC cy) ad S) 85 [(0, .ref (ad 1 a0)), (1, .ref (ad 1 a1)), (2, .int v2)] [] := by
  induction n with
  | zero => intro S v2 h; exact h.elim
  | succ n ih => intro S v2 h; exact w_X1_copyFrom_85_b V ha0 ha1 (fun S v2 h => ih S v2 h) S v2 h
set_option maxHeartbeats 2000000 in
set_option maxRecDepth 20000 in
theorem w_X1_copyFrom {g : xG} {D : va_G} {cy : Nat → ClassId} {ad : Nat → Nat → Nat} {a0 : Nat} {a1 : Nat} {S : xS} {Q : xS → Prop} (V : xEnv g D (xTys cy) (shC cy) ad RX1 cX1_copyFrom none 2 81 3 (xQv Q)) (ha0 : a0 < 12) (ha1 : a1 < 12) (h : wp_X1_copyFrom a0 a1 S Q) : Wx g (xW D (shC cy) ad S) 0 [(0, .ref (ad 1 a0)), (1, .ref (ad 1 a1))] [] := by
  obtain ⟨X, K, hi, hA, hR, E, hN⟩ := V
  have V := xEnv_mk X K hi hA hR E hN
  unfold wp_X1_copyFrom at h
  refine x_aload_n X 0 dX1_copyFrom_0 rfl ?_
  refine x_aload_n X 1 dX1_copyFrom_1 rfl ?_
  refine xg_X1_31 X K ha1 dX1_copyFrom_2 ?_
  obtain ⟨hb1, h⟩ := h
  refine xp_X1_31 X K hi hA ha0 hb1 dX1_copyFrom_5 ?_
  refine x_aload_n X 0 dX1_copyFrom_8 rfl ?_
  refine x_aload_n X 1 dX1_copyFrom_9 rfl ?_
  refine xg_X1_35 X K ha1 dX1_copyFrom_10 ?_
  refine xp_X1_35 X K hi hA ha0 dX1_copyFrom_13 ?_
  refine x_aload_n X 1 dX1_copyFrom_16 rfl ?_
  refine xg_X1_9 X K ha1 dX1_copyFrom_17 ?_
  refine x_iconst X (v := 0) dX1_copyFrom_20 (by decide) ?_
  refine x_aload_n X 0 dX1_copyFrom_21 rfl ?_
  refine xg_X1_9 X K ha0 dX1_copyFrom_22 ?_
  refine x_iconst X (v := 0) dX1_copyFrom_25 (by decide) ?_
  refine x_bipush X (v := 25) dX1_copyFrom_26 (by decide) ?_
  obtain ⟨hc2, h⟩ := h
  refine x_copyi (sh := shC cy) (t0 := 1) X K hi hA hR (kC_12 cy ha0) (kC_12 cy ha1) (fun _ => rfl) rfl rfl hc2.1 hc2.2.1 hc2.2.2.1 hc2.2.2.2.1 hc2.2.2.2.2 t3_98 t3_81 t3_80 t1_11 (by decide) (by decide) dX1_copyFrom_28 ?_
  refine x_aload_n X 1 dX1_copyFrom_31 rfl ?_
  refine xg_X1_15 X K ha1 dX1_copyFrom_32 ?_
  refine x_iconst X (v := 0) dX1_copyFrom_35 (by decide) ?_
  refine x_aload_n X 0 dX1_copyFrom_36 rfl ?_
  refine xg_X1_15 X K ha0 dX1_copyFrom_37 ?_
  refine x_iconst X (v := 0) dX1_copyFrom_40 (by decide) ?_
  refine x_bipush X (v := 25) dX1_copyFrom_41 (by decide) ?_
  obtain ⟨hc3, h⟩ := h
  refine x_copyi (sh := shC cy) (t0 := 1) X K hi hA hR (kC_13 cy ha0) (kC_13 cy ha1) (fun _ => rfl) rfl rfl hc3.1 hc3.2.1 hc3.2.2.1 hc3.2.2.2.1 hc3.2.2.2.2 t3_98 t3_81 t3_80 t1_11 (by decide) (by decide) dX1_copyFrom_43 ?_
  refine x_aload_n X 1 dX1_copyFrom_46 rfl ?_
  refine xg_X1_18 X K ha1 dX1_copyFrom_47 ?_
  refine x_iconst X (v := 0) dX1_copyFrom_50 (by decide) ?_
  refine x_aload_n X 0 dX1_copyFrom_51 rfl ?_
  refine xg_X1_18 X K ha0 dX1_copyFrom_52 ?_
  refine x_iconst X (v := 0) dX1_copyFrom_55 (by decide) ?_
  refine x_bipush X (v := 25) dX1_copyFrom_56 (by decide) ?_
  obtain ⟨hc4, h⟩ := h
  refine x_copyi (sh := shC cy) (t0 := 1) X K hi hA hR (kC_14 cy ha0) (kC_14 cy ha1) (fun _ => rfl) rfl rfl hc4.1 hc4.2.1 hc4.2.2.1 hc4.2.2.2.1 hc4.2.2.2.2 t3_98 t3_81 t3_80 t1_11 (by decide) (by decide) dX1_copyFrom_58 ?_
  refine x_aload_n X 1 dX1_copyFrom_61 rfl ?_
  refine xg_X1_21 X K ha1 dX1_copyFrom_62 ?_
  refine x_iconst X (v := 0) dX1_copyFrom_65 (by decide) ?_
  refine x_aload_n X 0 dX1_copyFrom_66 rfl ?_
  refine xg_X1_21 X K ha0 dX1_copyFrom_67 ?_
  refine x_iconst X (v := 0) dX1_copyFrom_70 (by decide) ?_
  refine x_iconst X (v := 5) dX1_copyFrom_71 (by decide) ?_
  obtain ⟨hc5, h⟩ := h
  refine x_copyi (sh := shC cy) (t0 := 1) X K hi hA hR (kC_15 cy ha0) (kC_15 cy ha1) (fun _ => rfl) rfl rfl hc5.1 hc5.2.1 hc5.2.2.1 hc5.2.2.2.1 hc5.2.2.2.2 t3_98 t3_81 t3_80 t1_11 (by decide) (by decide) dX1_copyFrom_72 ?_
  refine x_aload_n X 0 dX1_copyFrom_75 rfl ?_
  refine x_aload_n X 1 dX1_copyFrom_76 rfl ?_
  refine xg_X1_45 X K ha1 dX1_copyFrom_77 ?_
  refine xp_X1_45 X K hi hA ha0 dX1_copyFrom_80 ?_
  refine x_iconst X (v := 0) dX1_copyFrom_83 (by decide) ?_
  refine x_istore_n X [(2, .int (0 : Int32)), (0, .ref (ad 1 a0)), (1, .ref (ad 1 a1))] dX1_copyFrom_84 (by rw [hN]; decide) rfl ?_
  refine x_sub [1, 2, 0] rfl ?_
  obtain ⟨n6, h⟩ := h
  exact w_X1_copyFrom_85 V ha0 ha1 n6 (xI (xC (xC (xC (xC (xI (xI S 1 a0 0 (S.1 1 a1 0)) 1 a0 1 ((xI S 1 a0 0 (S.1 1 a1 0)).1 1 a1 1)) 12 a0 (va_cpy ((xI (xI S 1 a0 0 (S.1 1 a1 0)) 1 a0 1 ((xI S 1 a0 0 (S.1 1 a1 0)).1 1 a1 1)).1 12 a1) ((xI (xI S 1 a0 0 (S.1 1 a1 0)) 1 a0 1 ((xI S 1 a0 0 (S.1 1 a1 0)).1 1 a1 1)).1 12 a0) (0 : Int32).toNatClampNeg (0 : Int32).toNatClampNeg (25 : Int32).toNatClampNeg)) 13 a0 (va_cpy ((xC (xI (xI S 1 a0 0 (S.1 1 a1 0)) 1 a0 1 ((xI S 1 a0 0 (S.1 1 a1 0)).1 1 a1 1)) 12 a0 (va_cpy ((xI (xI S 1 a0 0 (S.1 1 a1 0)) 1 a0 1 ((xI S 1 a0 0 (S.1 1 a1 0)).1 1 a1 1)).1 12 a1) ((xI (xI S 1 a0 0 (S.1 1 a1 0)) 1 a0 1 ((xI S 1 a0 0 (S.1 1 a1 0)).1 1 a1 1)).1 12 a0) (0 : Int32).toNatClampNeg (0 : Int32).toNatClampNeg (25 : Int32).toNatClampNeg)).1 13 a1) ((xC (xI (xI S 1 a0 0 (S.1 1 a1 0)) 1 a0 1 ((xI S 1 a0 0 (S.1 1 a1 0)).1 1 a1 1)) 12 a0 (va_cpy ((xI (xI S 1 a0 0 (S.1 1 a1 0)) 1 a0 1 ((xI S 1 a0 0 (S.1 1 a1 0)).1 1 a1 1)).1 12 a1) ((xI (xI S 1 a0 0 (S.1 1 a1 0)) 1 a0 1 ((xI S 1 a0 0 (S.1 1 a1 0)).1 1 a1 1)).1 12 a0) (0 : Int32).toNatClampNeg (0 : Int32).toNatClampNeg (25 : Int32).toNatClampNeg)).1 13 a0) (0 : Int32).toNatClampNeg (0 : Int32).toNatClampNeg (25 : Int32).toNatClampNeg)) 14 a0 (va_cpy ((xC (xC (xI (xI S 1 a0 0 (S.1 1 a1 0)) 1 a0 1 ((xI S 1 a0 0 (S.1 1 a1 0)).1 1 a1 1)) 12 a0 (va_cpy ((xI (xI S 1 a0 0 (S.1 1 a1 0)) 1 a0 1 ((xI S 1 a0 0 (S.1 1 a1 0)).1 1 a1 1)).1 12 a1) ((xI (xI S 1 a0 0 (S.1 1 a1 0)) 1 a0 1 ((xI S 1 a0 0 (S.1 1 a1 0)).1 1 a1 1)).1 12 a0) (0 : Int32).toNatClampNeg (0 : Int32).toNatClampNeg (25 : Int32).toNatClampNeg)) 13 a0 (va_cpy ((xC (xI (xI S 1 a0 0 (S.1 1 a1 0)) 1 a0 1 ((xI S 1 a0 0 (S.1 1 a1 0)).1 1 a1 1)) 12 a0 (va_cpy ((xI (xI S 1 a0 0 (S.1 1 a1 0)) 1 a0 1 ((xI S 1 a0 0 (S.1 1 a1 0)).1 1 a1 1)).1 12 a1) ((xI (xI S 1 a0 0 (S.1 1 a1 0)) 1 a0 1 ((xI S 1 a0 0 (S.1 1 a1 0)).1 1 a1 1)).1 12 a0) (0 : Int32).toNatClampNeg (0 : Int32).toNatClampNeg (25 : Int32).toNatClampNeg)).1 13 a1) ((xC (xI (xI S 1 a0 0 (S.1 1 a1 0)) 1 a0 1 ((xI S 1 a0 0 (S.1 1 a1 0)).1 1 a1 1)) 12 a0 (va_cpy ((xI (xI S 1 a0 0 (S.1 1 a1 0)) 1 a0 1 ((xI S 1 a0 0 (S.1 1 a1 0)).1 1 a1 1)).1 12 a1) ((xI (xI S 1 a0 0 (S.1 1 a1 0)) 1 a0 1 ((xI S 1 a0 0 (S.1 1 a1 0)).1 1 a1 1)).1 12 a0) (0 : Int32).toNatClampNeg (0 : Int32).toNatClampNeg (25 : Int32).toNatClampNeg)).1 13 a0) (0 : Int32).toNatClampNeg (0 : Int32).toNatClampNeg (25 : Int32).toNatClampNeg)).1 14 a1) ((xC (xC (xI (xI S 1 a0 0 (S.1 1 a1 0)) 1 a0 1 ((xI S 1 a0 0 (S.1 1 a1 0)).1 1 a1 1)) 12 a0 (va_cpy ((xI (xI S 1 a0 0 (S.1 1 a1 0)) 1 a0 1 ((xI S 1 a0 0 (S.1 1 a1 0)).1 1 a1 1)).1 12 a1) ((xI (xI S 1 a0 0 (S.1 1 a1 0)) 1 a0 1 ((xI S 1 a0 0 (S.1 1 a1 0)).1 1 a1 1)).1 12 a0) (0 : Int32).toNatClampNeg (0 : Int32).toNatClampNeg (25 : Int32).toNatClampNeg)) 13 a0 (va_cpy ((xC (xI (xI S 1 a0 0 (S.1 1 a1 0)) 1 a0 1 ((xI S 1 a0 0 (S.1 1 a1 0)).1 1 a1 1)) 12 a0 (va_cpy ((xI (xI S 1 a0 0 (S.1 1 a1 0)) 1 a0 1 ((xI S 1 a0 0 (S.1 1 a1 0)).1 1 a1 1)).1 12 a1) ((xI (xI S 1 a0 0 (S.1 1 a1 0)) 1 a0 1 ((xI S 1 a0 0 (S.1 1 a1 0)).1 1 a1 1)).1 12 a0) (0 : Int32).toNatClampNeg (0 : Int32).toNatClampNeg (25 : Int32).toNatClampNeg)).1 13 a1) ((xC (xI (xI S 1 a0 0 (S.1 1 a1 0)) 1 a0 1 ((xI S 1 a0 0 (S.1 1 a1 0)).1 1 a1 1)) 12 a0 (va_cpy ((xI (xI S 1 a0 0 (S.1 1 a1 0)) 1 a0 1 ((xI S 1 a0 0 (S.1 1 a1 0)).1 1 a1 1)).1 12 a1) ((xI (xI S 1 a0 0 (S.1 1 a1 0)) 1 a0 1 ((xI S 1 a0 0 (S.1 1 a1 0)).1 1 a1 1)).1 12 a0) (0 : Int32).toNatClampNeg (0 : Int32).toNatClampNeg (25 : Int32).toNatClampNeg)).1 13 a0) (0 : Int32).toNatClampNeg (0 : Int32).toNatClampNeg (25 : Int32).toNatClampNeg)).1 14 a0) (0 : Int32).toNatClampNeg (0 : Int32).toNatClampNeg (25 : Int32).toNatClampNeg)) 15 a0 (va_cpy ((xC (xC (xC (xI (xI S 1 a0 0 (S.1 1 a1 0)) 1 a0 1 ((xI S 1 a0 0 (S.1 1 a1 0)).1 1 a1 1)) 12 a0 (va_cpy ((xI (xI S 1 a0 0 (S.1 1 a1 0)) 1 a0 1 ((xI S 1 a0 0 (S.1 1 a1 0)).1 1 a1 1)).1 12 a1) ((xI (xI S 1 a0 0 (S.1 1 a1 0)) 1 a0 1 ((xI S 1 a0 0 (S.1 1 a1 0)).1 1 a1 1)).1 12 a0) (0 : Int32).toNatClampNeg (0 : Int32).toNatClampNeg (25 : Int32).toNatClampNeg)) 13 a0 (va_cpy ((xC (xI (xI S 1 a0 0 (S.1 1 a1 0)) 1 a0 1 ((xI S 1 a0 0 (S.1 1 a1 0)).1 1 a1 1)) 12 a0 (va_cpy ((xI (xI S 1 a0 0 (S.1 1 a1 0)) 1 a0 1 ((xI S 1 a0 0 (S.1 1 a1 0)).1 1 a1 1)).1 12 a1) ((xI (xI S 1 a0 0 (S.1 1 a1 0)) 1 a0 1 ((xI S 1 a0 0 (S.1 1 a1 0)).1 1 a1 1)).1 12 a0) (0 : Int32).toNatClampNeg (0 : Int32).toNatClampNeg (25 : Int32).toNatClampNeg)).1 13 a1) ((xC (xI (xI S 1 a0 0 (S.1 1 a1 0)) 1 a0 1 ((xI S 1 a0 0 (S.1 1 a1 0)).1 1 a1 1)) 12 a0 (va_cpy ((xI (xI S 1 a0 0 (S.1 1 a1 0)) 1 a0 1 ((xI S 1 a0 0 (S.1 1 a1 0)).1 1 a1 1)).1 12 a1) ((xI (xI S 1 a0 0 (S.1 1 a1 0)) 1 a0 1 ((xI S 1 a0 0 (S.1 1 a1 0)).1 1 a1 1)).1 12 a0) (0 : Int32).toNatClampNeg (0 : Int32).toNatClampNeg (25 : Int32).toNatClampNeg)).1 13 a0) (0 : Int32).toNatClampNeg (0 : Int32).toNatClampNeg (25 : Int32).toNatClampNeg)) 14 a0 (va_cpy ((xC (xC (xI (xI S 1 a0 0 (S.1 1 a1 0)) 1 a0 1 ((xI S 1 a0 0 (S.1 1 a1 0)).1 1 a1 1)) 12 a0 (va_cpy ((xI (xI S 1 a0 0 (S.1 1 a1 0)) 1 a0 1 ((xI S 1 a0 0 (S.1 1 a1 0)).1 1 a1 1)).1 12 a1) ((xI (xI S 1 a0 0 (S.1 1 a1 0)) 1 a0 1 ((xI S 1 a0 0 (S.1 1 a1 0)).1 1 a1 1)).1 12 a0) (0 : Int32).toNatClampNeg (0 : Int32).toNatClampNeg (25 : Int32).toNatClampNeg)) 13 a0 (va_cpy ((xC (xI (xI S 1 a0 0 (S.1 1 a1 0)) 1 a0 1 ((xI S 1 a0 0 (S.1 1 a1 0)).1 1 a1 1)) 12 a0 (va_cpy ((xI (xI S 1 a0 0 (S.1 1 a1 0)) 1 a0 1 ((xI S 1 a0 0 (S.1 1 a1 0)).1 1 a1 1)).1 12 a1) ((xI (xI S 1 a0 0 (S.1 1 a1 0)) 1 a0 1 ((xI S 1 a0 0 (S.1 1 a1 0)).1 1 a1 1)).1 12 a0) (0 : Int32).toNatClampNeg (0 : Int32).toNatClampNeg (25 : Int32).toNatClampNeg)).1 13 a1) ((xC (xI (xI S 1 a0 0 (S.1 1 a1 0)) 1 a0 1 ((xI S 1 a0 0 (S.1 1 a1 0)).1 1 a1 1)) 12 a0 (va_cpy ((xI (xI S 1 a0 0 (S.1 1 a1 0)) 1 a0 1 ((xI S 1 a0 0 (S.1 1 a1 0)).1 1 a1 1)).1 12 a1) ((xI (xI S 1 a0 0 (S.1 1 a1 0)) 1 a0 1 ((xI S 1 a0 0 (S.1 1 a1 0)).1 1 a1 1)).1 12 a0) (0 : Int32).toNatClampNeg (0 : Int32).toNatClampNeg (25 : Int32).toNatClampNeg)).1 13 a0) (0 : Int32).toNatClampNeg (0 : Int32).toNatClampNeg (25 : Int32).toNatClampNeg)).1 14 a1) ((xC (xC (xI (xI S 1 a0 0 (S.1 1 a1 0)) 1 a0 1 ((xI S 1 a0 0 (S.1 1 a1 0)).1 1 a1 1)) 12 a0 (va_cpy ((xI (xI S 1 a0 0 (S.1 1 a1 0)) 1 a0 1 ((xI S 1 a0 0 (S.1 1 a1 0)).1 1 a1 1)).1 12 a1) ((xI (xI S 1 a0 0 (S.1 1 a1 0)) 1 a0 1 ((xI S 1 a0 0 (S.1 1 a1 0)).1 1 a1 1)).1 12 a0) (0 : Int32).toNatClampNeg (0 : Int32).toNatClampNeg (25 : Int32).toNatClampNeg)) 13 a0 (va_cpy ((xC (xI (xI S 1 a0 0 (S.1 1 a1 0)) 1 a0 1 ((xI S 1 a0 0 (S.1 1 a1 0)).1 1 a1 1)) 12 a0 (va_cpy ((xI (xI S 1 a0 0 (S.1 1 a1 0)) 1 a0 1 ((xI S 1 a0 0 (S.1 1 a1 0)).1 1 a1 1)).1 12 a1) ((xI (xI S 1 a0 0 (S.1 1 a1 0)) 1 a0 1 ((xI S 1 a0 0 (S.1 1 a1 0)).1 1 a1 1)).1 12 a0) (0 : Int32).toNatClampNeg (0 : Int32).toNatClampNeg (25 : Int32).toNatClampNeg)).1 13 a1) ((xC (xI (xI S 1 a0 0 (S.1 1 a1 0)) 1 a0 1 ((xI S 1 a0 0 (S.1 1 a1 0)).1 1 a1 1)) 12 a0 (va_cpy ((xI (xI S 1 a0 0 (S.1 1 a1 0)) 1 a0 1 ((xI S 1 a0 0 (S.1 1 a1 0)).1 1 a1 1)).1 12 a1) ((xI (xI S 1 a0 0 (S.1 1 a1 0)) 1 a0 1 ((xI S 1 a0 0 (S.1 1 a1 0)).1 1 a1 1)).1 12 a0) (0 : Int32).toNatClampNeg (0 : Int32).toNatClampNeg (25 : Int32).toNatClampNeg)).1 13 a0) (0 : Int32).toNatClampNeg (0 : Int32).toNatClampNeg (25 : Int32).toNatClampNeg)).1 14 a0) (0 : Int32).toNatClampNeg (0 : Int32).toNatClampNeg (25 : Int32).toNatClampNeg)).1 15 a1) ((xC (xC (xC (xI (xI S 1 a0 0 (S.1 1 a1 0)) 1 a0 1 ((xI S 1 a0 0 (S.1 1 a1 0)).1 1 a1 1)) 12 a0 (va_cpy ((xI (xI S 1 a0 0 (S.1 1 a1 0)) 1 a0 1 ((xI S 1 a0 0 (S.1 1 a1 0)).1 1 a1 1)).1 12 a1) ((xI (xI S 1 a0 0 (S.1 1 a1 0)) 1 a0 1 ((xI S 1 a0 0 (S.1 1 a1 0)).1 1 a1 1)).1 12 a0) (0 : Int32).toNatClampNeg (0 : Int32).toNatClampNeg (25 : Int32).toNatClampNeg)) 13 a0 (va_cpy ((xC (xI (xI S 1 a0 0 (S.1 1 a1 0)) 1 a0 1 ((xI S 1 a0 0 (S.1 1 a1 0)).1 1 a1 1)) 12 a0 (va_cpy ((xI (xI S 1 a0 0 (S.1 1 a1 0)) 1 a0 1 ((xI S 1 a0 0 (S.1 1 a1 0)).1 1 a1 1)).1 12 a1) ((xI (xI S 1 a0 0 (S.1 1 a1 0)) 1 a0 1 ((xI S 1 a0 0 (S.1 1 a1 0)).1 1 a1 1)).1 12 a0) (0 : Int32).toNatClampNeg (0 : Int32).toNatClampNeg (25 : Int32).toNatClampNeg)).1 13 a1) ((xC (xI (xI S 1 a0 0 (S.1 1 a1 0)) 1 a0 1 ((xI S 1 a0 0 (S.1 1 a1 0)).1 1 a1 1)) 12 a0 (va_cpy ((xI (xI S 1 a0 0 (S.1 1 a1 0)) 1 a0 1 ((xI S 1 a0 0 (S.1 1 a1 0)).1 1 a1 1)).1 12 a1) ((xI (xI S 1 a0 0 (S.1 1 a1 0)) 1 a0 1 ((xI S 1 a0 0 (S.1 1 a1 0)).1 1 a1 1)).1 12 a0) (0 : Int32).toNatClampNeg (0 : Int32).toNatClampNeg (25 : Int32).toNatClampNeg)).1 13 a0) (0 : Int32).toNatClampNeg (0 : Int32).toNatClampNeg (25 : Int32).toNatClampNeg)) 14 a0 (va_cpy ((xC (xC (xI (xI S 1 a0 0 (S.1 1 a1 0)) 1 a0 1 ((xI S 1 a0 0 (S.1 1 a1 0)).1 1 a1 1)) 12 a0 (va_cpy ((xI (xI S 1 a0 0 (S.1 1 a1 0)) 1 a0 1 ((xI S 1 a0 0 (S.1 1 a1 0)).1 1 a1 1)).1 12 a1) ((xI (xI S 1 a0 0 (S.1 1 a1 0)) 1 a0 1 ((xI S 1 a0 0 (S.1 1 a1 0)).1 1 a1 1)).1 12 a0) (0 : Int32).toNatClampNeg (0 : Int32).toNatClampNeg (25 : Int32).toNatClampNeg)) 13 a0 (va_cpy ((xC (xI (xI S 1 a0 0 (S.1 1 a1 0)) 1 a0 1 ((xI S 1 a0 0 (S.1 1 a1 0)).1 1 a1 1)) 12 a0 (va_cpy ((xI (xI S 1 a0 0 (S.1 1 a1 0)) 1 a0 1 ((xI S 1 a0 0 (S.1 1 a1 0)).1 1 a1 1)).1 12 a1) ((xI (xI S 1 a0 0 (S.1 1 a1 0)) 1 a0 1 ((xI S 1 a0 0 (S.1 1 a1 0)).1 1 a1 1)).1 12 a0) (0 : Int32).toNatClampNeg (0 : Int32).toNatClampNeg (25 : Int32).toNatClampNeg)).1 13 a1) ((xC (xI (xI S 1 a0 0 (S.1 1 a1 0)) 1 a0 1 ((xI S 1 a0 0 (S.1 1 a1 0)).1 1 a1 1)) 12 a0 (va_cpy ((xI (xI S 1 a0 0 (S.1 1 a1 0)) 1 a0 1 ((xI S 1 a0 0 (S.1 1 a1 0)).1 1 a1 1)).1 12 a1) ((xI (xI S 1 a0 0 (S.1 1 a1 0)) 1 a0 1 ((xI S 1 a0 0 (S.1 1 a1 0)).1 1 a1 1)).1 12 a0) (0 : Int32).toNatClampNeg (0 : Int32).toNatClampNeg (25 : Int32).toNatClampNeg)).1 13 a0) (0 : Int32).toNatClampNeg (0 : Int32).toNatClampNeg (25 : Int32).toNatClampNeg)).1 14 a1) ((xC (xC (xI (xI S 1 a0 0 (S.1 1 a1 0)) 1 a0 1 ((xI S 1 a0 0 (S.1 1 a1 0)).1 1 a1 1)) 12 a0 (va_cpy ((xI (xI S 1 a0 0 (S.1 1 a1 0)) 1 a0 1 ((xI S 1 a0 0 (S.1 1 a1 0)).1 1 a1 1)).1 12 a1) ((xI (xI S 1 a0 0 (S.1 1 a1 0)) 1 a0 1 ((xI S 1 a0 0 (S.1 1 a1 0)).1 1 a1 1)).1 12 a0) (0 : Int32).toNatClampNeg (0 : Int32).toNatClampNeg (25 : Int32).toNatClampNeg)) 13 a0 (va_cpy ((xC (xI (xI S 1 a0 0 (S.1 1 a1 0)) 1 a0 1 ((xI S 1 a0 0 (S.1 1 a1 0)).1 1 a1 1)) 12 a0 (va_cpy ((xI (xI S 1 a0 0 (S.1 1 a1 0)) 1 a0 1 ((xI S 1 a0 0 (S.1 1 a1 0)).1 1 a1 1)).1 12 a1) ((xI (xI S 1 a0 0 (S.1 1 a1 0)) 1 a0 1 ((xI S 1 a0 0 (S.1 1 a1 0)).1 1 a1 1)).1 12 a0) (0 : Int32).toNatClampNeg (0 : Int32).toNatClampNeg (25 : Int32).toNatClampNeg)).1 13 a1) ((xC (xI (xI S 1 a0 0 (S.1 1 a1 0)) 1 a0 1 ((xI S 1 a0 0 (S.1 1 a1 0)).1 1 a1 1)) 12 a0 (va_cpy ((xI (xI S 1 a0 0 (S.1 1 a1 0)) 1 a0 1 ((xI S 1 a0 0 (S.1 1 a1 0)).1 1 a1 1)).1 12 a1) ((xI (xI S 1 a0 0 (S.1 1 a1 0)) 1 a0 1 ((xI S 1 a0 0 (S.1 1 a1 0)).1 1 a1 1)).1 12 a0) (0 : Int32).toNatClampNeg (0 : Int32).toNatClampNeg (25 : Int32).toNatClampNeg)).1 13 a0) (0 : Int32).toNatClampNeg (0 : Int32).toNatClampNeg (25 : Int32).toNatClampNeg)).1 14 a0) (0 : Int32).toNatClampNeg (0 : Int32).toNatClampNeg (25 : Int32).toNatClampNeg)).1 15 a0) (0 : Int32).toNatClampNeg (0 : Int32).toNatClampNeg (5 : Int32).toNatClampNeg)) 1 a0 6 ((xC (xC (xC (xC (xI (xI S 1 a0 0 (S.1 1 a1 0)) 1 a0 1 ((xI S 1 a0 0 (S.1 1 a1 0)).1 1 a1 1)) 12 a0 (va_cpy ((xI (xI S 1 a0 0 (S.1 1 a1 0)) 1 a0 1 ((xI S 1 a0 0 (S.1 1 a1 0)).1 1 a1 1)).1 12 a1) ((xI (xI S 1 a0 0 (S.1 1 a1 0)) 1 a0 1 ((xI S 1 a0 0 (S.1 1 a1 0)).1 1 a1 1)).1 12 a0) (0 : Int32).toNatClampNeg (0 : Int32).toNatClampNeg (25 : Int32).toNatClampNeg)) 13 a0 (va_cpy ((xC (xI (xI S 1 a0 0 (S.1 1 a1 0)) 1 a0 1 ((xI S 1 a0 0 (S.1 1 a1 0)).1 1 a1 1)) 12 a0 (va_cpy ((xI (xI S 1 a0 0 (S.1 1 a1 0)) 1 a0 1 ((xI S 1 a0 0 (S.1 1 a1 0)).1 1 a1 1)).1 12 a1) ((xI (xI S 1 a0 0 (S.1 1 a1 0)) 1 a0 1 ((xI S 1 a0 0 (S.1 1 a1 0)).1 1 a1 1)).1 12 a0) (0 : Int32).toNatClampNeg (0 : Int32).toNatClampNeg (25 : Int32).toNatClampNeg)).1 13 a1) ((xC (xI (xI S 1 a0 0 (S.1 1 a1 0)) 1 a0 1 ((xI S 1 a0 0 (S.1 1 a1 0)).1 1 a1 1)) 12 a0 (va_cpy ((xI (xI S 1 a0 0 (S.1 1 a1 0)) 1 a0 1 ((xI S 1 a0 0 (S.1 1 a1 0)).1 1 a1 1)).1 12 a1) ((xI (xI S 1 a0 0 (S.1 1 a1 0)) 1 a0 1 ((xI S 1 a0 0 (S.1 1 a1 0)).1 1 a1 1)).1 12 a0) (0 : Int32).toNatClampNeg (0 : Int32).toNatClampNeg (25 : Int32).toNatClampNeg)).1 13 a0) (0 : Int32).toNatClampNeg (0 : Int32).toNatClampNeg (25 : Int32).toNatClampNeg)) 14 a0 (va_cpy ((xC (xC (xI (xI S 1 a0 0 (S.1 1 a1 0)) 1 a0 1 ((xI S 1 a0 0 (S.1 1 a1 0)).1 1 a1 1)) 12 a0 (va_cpy ((xI (xI S 1 a0 0 (S.1 1 a1 0)) 1 a0 1 ((xI S 1 a0 0 (S.1 1 a1 0)).1 1 a1 1)).1 12 a1) ((xI (xI S 1 a0 0 (S.1 1 a1 0)) 1 a0 1 ((xI S 1 a0 0 (S.1 1 a1 0)).1 1 a1 1)).1 12 a0) (0 : Int32).toNatClampNeg (0 : Int32).toNatClampNeg (25 : Int32).toNatClampNeg)) 13 a0 (va_cpy ((xC (xI (xI S 1 a0 0 (S.1 1 a1 0)) 1 a0 1 ((xI S 1 a0 0 (S.1 1 a1 0)).1 1 a1 1)) 12 a0 (va_cpy ((xI (xI S 1 a0 0 (S.1 1 a1 0)) 1 a0 1 ((xI S 1 a0 0 (S.1 1 a1 0)).1 1 a1 1)).1 12 a1) ((xI (xI S 1 a0 0 (S.1 1 a1 0)) 1 a0 1 ((xI S 1 a0 0 (S.1 1 a1 0)).1 1 a1 1)).1 12 a0) (0 : Int32).toNatClampNeg (0 : Int32).toNatClampNeg (25 : Int32).toNatClampNeg)).1 13 a1) ((xC (xI (xI S 1 a0 0 (S.1 1 a1 0)) 1 a0 1 ((xI S 1 a0 0 (S.1 1 a1 0)).1 1 a1 1)) 12 a0 (va_cpy ((xI (xI S 1 a0 0 (S.1 1 a1 0)) 1 a0 1 ((xI S 1 a0 0 (S.1 1 a1 0)).1 1 a1 1)).1 12 a1) ((xI (xI S 1 a0 0 (S.1 1 a1 0)) 1 a0 1 ((xI S 1 a0 0 (S.1 1 a1 0)).1 1 a1 1)).1 12 a0) (0 : Int32).toNatClampNeg (0 : Int32).toNatClampNeg (25 : Int32).toNatClampNeg)).1 13 a0) (0 : Int32).toNatClampNeg (0 : Int32).toNatClampNeg (25 : Int32).toNatClampNeg)).1 14 a1) ((xC (xC (xI (xI S 1 a0 0 (S.1 1 a1 0)) 1 a0 1 ((xI S 1 a0 0 (S.1 1 a1 0)).1 1 a1 1)) 12 a0 (va_cpy ((xI (xI S 1 a0 0 (S.1 1 a1 0)) 1 a0 1 ((xI S 1 a0 0 (S.1 1 a1 0)).1 1 a1 1)).1 12 a1) ((xI (xI S 1 a0 0 (S.1 1 a1 0)) 1 a0 1 ((xI S 1 a0 0 (S.1 1 a1 0)).1 1 a1 1)).1 12 a0) (0 : Int32).toNatClampNeg (0 : Int32).toNatClampNeg (25 : Int32).toNatClampNeg)) 13 a0 (va_cpy ((xC (xI (xI S 1 a0 0 (S.1 1 a1 0)) 1 a0 1 ((xI S 1 a0 0 (S.1 1 a1 0)).1 1 a1 1)) 12 a0 (va_cpy ((xI (xI S 1 a0 0 (S.1 1 a1 0)) 1 a0 1 ((xI S 1 a0 0 (S.1 1 a1 0)).1 1 a1 1)).1 12 a1) ((xI (xI S 1 a0 0 (S.1 1 a1 0)) 1 a0 1 ((xI S 1 a0 0 (S.1 1 a1 0)).1 1 a1 1)).1 12 a0) (0 : Int32).toNatClampNeg (0 : Int32).toNatClampNeg (25 : Int32).toNatClampNeg)).1 13 a1) ((xC (xI (xI S 1 a0 0 (S.1 1 a1 0)) 1 a0 1 ((xI S 1 a0 0 (S.1 1 a1 0)).1 1 a1 1)) 12 a0 (va_cpy ((xI (xI S 1 a0 0 (S.1 1 a1 0)) 1 a0 1 ((xI S 1 a0 0 (S.1 1 a1 0)).1 1 a1 1)).1 12 a1) ((xI (xI S 1 a0 0 (S.1 1 a1 0)) 1 a0 1 ((xI S 1 a0 0 (S.1 1 a1 0)).1 1 a1 1)).1 12 a0) (0 : Int32).toNatClampNeg (0 : Int32).toNatClampNeg (25 : Int32).toNatClampNeg)).1 13 a0) (0 : Int32).toNatClampNeg (0 : Int32).toNatClampNeg (25 : Int32).toNatClampNeg)).1 14 a0) (0 : Int32).toNatClampNeg (0 : Int32).toNatClampNeg (25 : Int32).toNatClampNeg)) 15 a0 (va_cpy ((xC (xC (xC (xI (xI S 1 a0 0 (S.1 1 a1 0)) 1 a0 1 ((xI S 1 a0 0 (S.1 1 a1 0)).1 1 a1 1)) 12 a0 (va_cpy ((xI (xI S 1 a0 0 (S.1 1 a1 0)) 1 a0 1 ((xI S 1 a0 0 (S.1 1 a1 0)).1 1 a1 1)).1 12 a1) ((xI (xI S 1 a0 0 (S.1 1 a1 0)) 1 a0 1 ((xI S 1 a0 0 (S.1 1 a1 0)).1 1 a1 1)).1 12 a0) (0 : Int32).toNatClampNeg (0 : Int32).toNatClampNeg (25 : Int32).toNatClampNeg)) 13 a0 (va_cpy ((xC (xI (xI S 1 a0 0 (S.1 1 a1 0)) 1 a0 1 ((xI S 1 a0 0 (S.1 1 a1 0)).1 1 a1 1)) 12 a0 (va_cpy ((xI (xI S 1 a0 0 (S.1 1 a1 0)) 1 a0 1 ((xI S 1 a0 0 (S.1 1 a1 0)).1 1 a1 1)).1 12 a1) ((xI (xI S 1 a0 0 (S.1 1 a1 0)) 1 a0 1 ((xI S 1 a0 0 (S.1 1 a1 0)).1 1 a1 1)).1 12 a0) (0 : Int32).toNatClampNeg (0 : Int32).toNatClampNeg (25 : Int32).toNatClampNeg)).1 13 a1) ((xC (xI (xI S 1 a0 0 (S.1 1 a1 0)) 1 a0 1 ((xI S 1 a0 0 (S.1 1 a1 0)).1 1 a1 1)) 12 a0 (va_cpy ((xI (xI S 1 a0 0 (S.1 1 a1 0)) 1 a0 1 ((xI S 1 a0 0 (S.1 1 a1 0)).1 1 a1 1)).1 12 a1) ((xI (xI S 1 a0 0 (S.1 1 a1 0)) 1 a0 1 ((xI S 1 a0 0 (S.1 1 a1 0)).1 1 a1 1)).1 12 a0) (0 : Int32).toNatClampNeg (0 : Int32).toNatClampNeg (25 : Int32).toNatClampNeg)).1 13 a0) (0 : Int32).toNatClampNeg (0 : Int32).toNatClampNeg (25 : Int32).toNatClampNeg)) 14 a0 (va_cpy ((xC (xC (xI (xI S 1 a0 0 (S.1 1 a1 0)) 1 a0 1 ((xI S 1 a0 0 (S.1 1 a1 0)).1 1 a1 1)) 12 a0 (va_cpy ((xI (xI S 1 a0 0 (S.1 1 a1 0)) 1 a0 1 ((xI S 1 a0 0 (S.1 1 a1 0)).1 1 a1 1)).1 12 a1) ((xI (xI S 1 a0 0 (S.1 1 a1 0)) 1 a0 1 ((xI S 1 a0 0 (S.1 1 a1 0)).1 1 a1 1)).1 12 a0) (0 : Int32).toNatClampNeg (0 : Int32).toNatClampNeg (25 : Int32).toNatClampNeg)) 13 a0 (va_cpy ((xC (xI (xI S 1 a0 0 (S.1 1 a1 0)) 1 a0 1 ((xI S 1 a0 0 (S.1 1 a1 0)).1 1 a1 1)) 12 a0 (va_cpy ((xI (xI S 1 a0 0 (S.1 1 a1 0)) 1 a0 1 ((xI S 1 a0 0 (S.1 1 a1 0)).1 1 a1 1)).1 12 a1) ((xI (xI S 1 a0 0 (S.1 1 a1 0)) 1 a0 1 ((xI S 1 a0 0 (S.1 1 a1 0)).1 1 a1 1)).1 12 a0) (0 : Int32).toNatClampNeg (0 : Int32).toNatClampNeg (25 : Int32).toNatClampNeg)).1 13 a1) ((xC (xI (xI S 1 a0 0 (S.1 1 a1 0)) 1 a0 1 ((xI S 1 a0 0 (S.1 1 a1 0)).1 1 a1 1)) 12 a0 (va_cpy ((xI (xI S 1 a0 0 (S.1 1 a1 0)) 1 a0 1 ((xI S 1 a0 0 (S.1 1 a1 0)).1 1 a1 1)).1 12 a1) ((xI (xI S 1 a0 0 (S.1 1 a1 0)) 1 a0 1 ((xI S 1 a0 0 (S.1 1 a1 0)).1 1 a1 1)).1 12 a0) (0 : Int32).toNatClampNeg (0 : Int32).toNatClampNeg (25 : Int32).toNatClampNeg)).1 13 a0) (0 : Int32).toNatClampNeg (0 : Int32).toNatClampNeg (25 : Int32).toNatClampNeg)).1 14 a1) ((xC (xC (xI (xI S 1 a0 0 (S.1 1 a1 0)) 1 a0 1 ((xI S 1 a0 0 (S.1 1 a1 0)).1 1 a1 1)) 12 a0 (va_cpy ((xI (xI S 1 a0 0 (S.1 1 a1 0)) 1 a0 1 ((xI S 1 a0 0 (S.1 1 a1 0)).1 1 a1 1)).1 12 a1) ((xI (xI S 1 a0 0 (S.1 1 a1 0)) 1 a0 1 ((xI S 1 a0 0 (S.1 1 a1 0)).1 1 a1 1)).1 12 a0) (0 : Int32).toNatClampNeg (0 : Int32).toNatClampNeg (25 : Int32).toNatClampNeg)) 13 a0 (va_cpy ((xC (xI (xI S 1 a0 0 (S.1 1 a1 0)) 1 a0 1 ((xI S 1 a0 0 (S.1 1 a1 0)).1 1 a1 1)) 12 a0 (va_cpy ((xI (xI S 1 a0 0 (S.1 1 a1 0)) 1 a0 1 ((xI S 1 a0 0 (S.1 1 a1 0)).1 1 a1 1)).1 12 a1) ((xI (xI S 1 a0 0 (S.1 1 a1 0)) 1 a0 1 ((xI S 1 a0 0 (S.1 1 a1 0)).1 1 a1 1)).1 12 a0) (0 : Int32).toNatClampNeg (0 : Int32).toNatClampNeg (25 : Int32).toNatClampNeg)).1 13 a1) ((xC (xI (xI S 1 a0 0 (S.1 1 a1 0)) 1 a0 1 ((xI S 1 a0 0 (S.1 1 a1 0)).1 1 a1 1)) 12 a0 (va_cpy ((xI (xI S 1 a0 0 (S.1 1 a1 0)) 1 a0 1 ((xI S 1 a0 0 (S.1 1 a1 0)).1 1 a1 1)).1 12 a1) ((xI (xI S 1 a0 0 (S.1 1 a1 0)) 1 a0 1 ((xI S 1 a0 0 (S.1 1 a1 0)).1 1 a1 1)).1 12 a0) (0 : Int32).toNatClampNeg (0 : Int32).toNatClampNeg (25 : Int32).toNatClampNeg)).1 13 a0) (0 : Int32).toNatClampNeg (0 : Int32).toNatClampNeg (25 : Int32).toNatClampNeg)).1 14 a0) (0 : Int32).toNatClampNeg (0 : Int32).toNatClampNeg (25 : Int32).toNatClampNeg)).1 15 a1) ((xC (xC (xC (xI (xI S 1 a0 0 (S.1 1 a1 0)) 1 a0 1 ((xI S 1 a0 0 (S.1 1 a1 0)).1 1 a1 1)) 12 a0 (va_cpy ((xI (xI S 1 a0 0 (S.1 1 a1 0)) 1 a0 1 ((xI S 1 a0 0 (S.1 1 a1 0)).1 1 a1 1)).1 12 a1) ((xI (xI S 1 a0 0 (S.1 1 a1 0)) 1 a0 1 ((xI S 1 a0 0 (S.1 1 a1 0)).1 1 a1 1)).1 12 a0) (0 : Int32).toNatClampNeg (0 : Int32).toNatClampNeg (25 : Int32).toNatClampNeg)) 13 a0 (va_cpy ((xC (xI (xI S 1 a0 0 (S.1 1 a1 0)) 1 a0 1 ((xI S 1 a0 0 (S.1 1 a1 0)).1 1 a1 1)) 12 a0 (va_cpy ((xI (xI S 1 a0 0 (S.1 1 a1 0)) 1 a0 1 ((xI S 1 a0 0 (S.1 1 a1 0)).1 1 a1 1)).1 12 a1) ((xI (xI S 1 a0 0 (S.1 1 a1 0)) 1 a0 1 ((xI S 1 a0 0 (S.1 1 a1 0)).1 1 a1 1)).1 12 a0) (0 : Int32).toNatClampNeg (0 : Int32).toNatClampNeg (25 : Int32).toNatClampNeg)).1 13 a1) ((xC (xI (xI S 1 a0 0 (S.1 1 a1 0)) 1 a0 1 ((xI S 1 a0 0 (S.1 1 a1 0)).1 1 a1 1)) 12 a0 (va_cpy ((xI (xI S 1 a0 0 (S.1 1 a1 0)) 1 a0 1 ((xI S 1 a0 0 (S.1 1 a1 0)).1 1 a1 1)).1 12 a1) ((xI (xI S 1 a0 0 (S.1 1 a1 0)) 1 a0 1 ((xI S 1 a0 0 (S.1 1 a1 0)).1 1 a1 1)).1 12 a0) (0 : Int32).toNatClampNeg (0 : Int32).toNatClampNeg (25 : Int32).toNatClampNeg)).1 13 a0) (0 : Int32).toNatClampNeg (0 : Int32).toNatClampNeg (25 : Int32).toNatClampNeg)) 14 a0 (va_cpy ((xC (xC (xI (xI S 1 a0 0 (S.1 1 a1 0)) 1 a0 1 ((xI S 1 a0 0 (S.1 1 a1 0)).1 1 a1 1)) 12 a0 (va_cpy ((xI (xI S 1 a0 0 (S.1 1 a1 0)) 1 a0 1 ((xI S 1 a0 0 (S.1 1 a1 0)).1 1 a1 1)).1 12 a1) ((xI (xI S 1 a0 0 (S.1 1 a1 0)) 1 a0 1 ((xI S 1 a0 0 (S.1 1 a1 0)).1 1 a1 1)).1 12 a0) (0 : Int32).toNatClampNeg (0 : Int32).toNatClampNeg (25 : Int32).toNatClampNeg)) 13 a0 (va_cpy ((xC (xI (xI S 1 a0 0 (S.1 1 a1 0)) 1 a0 1 ((xI S 1 a0 0 (S.1 1 a1 0)).1 1 a1 1)) 12 a0 (va_cpy ((xI (xI S 1 a0 0 (S.1 1 a1 0)) 1 a0 1 ((xI S 1 a0 0 (S.1 1 a1 0)).1 1 a1 1)).1 12 a1) ((xI (xI S 1 a0 0 (S.1 1 a1 0)) 1 a0 1 ((xI S 1 a0 0 (S.1 1 a1 0)).1 1 a1 1)).1 12 a0) (0 : Int32).toNatClampNeg (0 : Int32).toNatClampNeg (25 : Int32).toNatClampNeg)).1 13 a1) ((xC (xI (xI S 1 a0 0 (S.1 1 a1 0)) 1 a0 1 ((xI S 1 a0 0 (S.1 1 a1 0)).1 1 a1 1)) 12 a0 (va_cpy ((xI (xI S 1 a0 0 (S.1 1 a1 0)) 1 a0 1 ((xI S 1 a0 0 (S.1 1 a1 0)).1 1 a1 1)).1 12 a1) ((xI (xI S 1 a0 0 (S.1 1 a1 0)) 1 a0 1 ((xI S 1 a0 0 (S.1 1 a1 0)).1 1 a1 1)).1 12 a0) (0 : Int32).toNatClampNeg (0 : Int32).toNatClampNeg (25 : Int32).toNatClampNeg)).1 13 a0) (0 : Int32).toNatClampNeg (0 : Int32).toNatClampNeg (25 : Int32).toNatClampNeg)).1 14 a1) ((xC (xC (xI (xI S 1 a0 0 (S.1 1 a1 0)) 1 a0 1 ((xI S 1 a0 0 (S.1 1 a1 0)).1 1 a1 1)) 12 a0 (va_cpy ((xI (xI S 1 a0 0 (S.1 1 a1 0)) 1 a0 1 ((xI S 1 a0 0 (S.1 1 a1 0)).1 1 a1 1)).1 12 a1) ((xI (xI S 1 a0 0 (S.1 1 a1 0)) 1 a0 1 ((xI S 1 a0 0 (S.1 1 a1 0)).1 1 a1 1)).1 12 a0) (0 : Int32).toNatClampNeg (0 : Int32).toNatClampNeg (25 : Int32).toNatClampNeg)) 13 a0 (va_cpy ((xC (xI (xI S 1 a0 0 (S.1 1 a1 0)) 1 a0 1 ((xI S 1 a0 0 (S.1 1 a1 0)).1 1 a1 1)) 12 a0 (va_cpy ((xI (xI S 1 a0 0 (S.1 1 a1 0)) 1 a0 1 ((xI S 1 a0 0 (S.1 1 a1 0)).1 1 a1 1)).1 12 a1) ((xI (xI S 1 a0 0 (S.1 1 a1 0)) 1 a0 1 ((xI S 1 a0 0 (S.1 1 a1 0)).1 1 a1 1)).1 12 a0) (0 : Int32).toNatClampNeg (0 : Int32).toNatClampNeg (25 : Int32).toNatClampNeg)).1 13 a1) ((xC (xI (xI S 1 a0 0 (S.1 1 a1 0)) 1 a0 1 ((xI S 1 a0 0 (S.1 1 a1 0)).1 1 a1 1)) 12 a0 (va_cpy ((xI (xI S 1 a0 0 (S.1 1 a1 0)) 1 a0 1 ((xI S 1 a0 0 (S.1 1 a1 0)).1 1 a1 1)).1 12 a1) ((xI (xI S 1 a0 0 (S.1 1 a1 0)) 1 a0 1 ((xI S 1 a0 0 (S.1 1 a1 0)).1 1 a1 1)).1 12 a0) (0 : Int32).toNatClampNeg (0 : Int32).toNatClampNeg (25 : Int32).toNatClampNeg)).1 13 a0) (0 : Int32).toNatClampNeg (0 : Int32).toNatClampNeg (25 : Int32).toNatClampNeg)).1 14 a0) (0 : Int32).toNatClampNeg (0 : Int32).toNatClampNeg (25 : Int32).toNatClampNeg)).1 15 a0) (0 : Int32).toNatClampNeg (0 : Int32).toNatClampNeg (5 : Int32).toNatClampNeg)).1 1 a1 6)) (0 : Int32) h
set_option maxHeartbeats 2000000 in
set_option maxRecDepth 20000 in
theorem m_X1_copyFrom {l : Launch} {D : va_G} {cy : Nat → ClassId} {ad : Nat → Nat → Nat} (hi : xInj (shC cy) ad) {a0 : Nat} {a1 : Nat} {S : xS} {Q : xS → Prop} (ha0 : a0 < 12) (ha1 : a1 < 12) (h : wp_X1_copyFrom a0 a1 S Q) : xMet l D (xTys cy) (shC cy) ad yX1_copyFrom cX1_copyFrom 3 none (xRm 2 81) [.ref (ad 1 a0), .ref (ad 1 a1)] S (xQv Q) := xMet_env hi (by decide +kernel) rfl (Nat.le_of_ble_eq_true rfl) (fun g hl V => w_X1_copyFrom V ha0 ha1 h)
set_option maxHeartbeats 2000000 in
set_option maxRecDepth 20000 in
theorem w_X1_appendPlace {g : xG} {D : va_G} {cy : Nat → ClassId} {ad : Nat → Nat → Nat} {a0 : Nat} {a1 : Int32} {a2 : Int32} {S : xS} {Q : xS → Prop} (V : xEnv g D (xTys cy) (shC cy) ad RX1 cX1_appendPlace none 0 0 3 (xQv Q)) (ha0 : a0 < 12) (h : wp_X1_appendPlace a0 a1 a2 S Q) : Wx g (xW D (shC cy) ad S) 0 [(0, .ref (ad 1 a0)), (1, .int a1), (2, .int a2)] [] := by
  obtain ⟨X, K, hi, hA, hR, E, hN⟩ := V
  have V := xEnv_mk X K hi hA hR E hN
  unfold wp_X1_appendPlace at h
  refine x_aload_n X 0 dX1_appendPlace_0 rfl ?_
  refine x_dup X dX1_appendPlace_1 rfl ?_
  refine xg_X1_35 X K ha0 dX1_appendPlace_2 ?_
  refine x_iconst X (v := 1) dX1_appendPlace_5 (by decide) ?_
  refine x_iadd X dX1_appendPlace_6 ?_
  refine xp_X1_35 X K hi hA ha0 dX1_appendPlace_7 ?_
  refine x_aload_n X 0 dX1_appendPlace_10 rfl ?_
  refine xg_X1_9 X K ha0 dX1_appendPlace_11 ?_
  refine x_aload_n X 0 dX1_appendPlace_14 rfl ?_
  refine xg_X1_35 X K ha0 dX1_appendPlace_15 ?_
  refine x_iload_n X 1 dX1_appendPlace_18 rfl ?_
  obtain ⟨hb1, h⟩ := h
  refine xs_C12 X K hi hA ha0 hb1 dX1_appendPlace_19 ?_
  refine x_aload_n X 0 dX1_appendPlace_20 rfl ?_
  refine xg_X1_15 X K ha0 dX1_appendPlace_21 ?_
  refine x_aload_n X 0 dX1_appendPlace_24 rfl ?_
  refine xg_X1_35 X K ha0 dX1_appendPlace_25 ?_
  refine x_iload_n X 2 dX1_appendPlace_28 rfl ?_
  obtain ⟨hb2, h⟩ := h
  refine xs_C13 X K hi hA ha0 hb2 dX1_appendPlace_29 ?_
  exact x_vret X E dX1_appendPlace_30 ⟨rfl, h⟩
set_option maxHeartbeats 2000000 in
set_option maxRecDepth 20000 in
theorem m_X1_appendPlace {l : Launch} {D : va_G} {cy : Nat → ClassId} {ad : Nat → Nat → Nat} (hi : xInj (shC cy) ad) {a0 : Nat} {a1 : Int32} {a2 : Int32} {S : xS} {Q : xS → Prop} (ha0 : a0 < 12) (h : wp_X1_appendPlace a0 a1 a2 S Q) : xMet l D (xTys cy) (shC cy) ad yX1_appendPlace cX1_appendPlace 3 none (xRm 0 0) [.ref (ad 1 a0), .int a1, .int a2] S (xQv Q) := xMet_env hi (by decide +kernel) rfl (Nat.le_of_ble_eq_true rfl) (fun g hl V => w_X1_appendPlace V ha0 h)
set_option maxHeartbeats 2000000 in
set_option maxRecDepth 20000 in
theorem w_X1_appendPoint_47 {g : xG} {D : va_G} {cy : Nat → ClassId} {ad : Nat → Nat → Nat} {a0 : Nat} {Q : Int32 → xS → Prop} (V : xEnv g D (xTys cy) (shC cy) ad RX1 cX1_appendPoint (some .int) 1 22 4 (xQi Q)) (ha0 : a0 < 12) (S : xS) (s0 : Nat) (s1 : Int32) (s2 : Int32) (hs0 : s0 < 12) (h : wp_X1_appendPoint_47 a0 Q S s0 s1 s2) : Wx g (xW D (shC cy) ad S) 47 [(0, .ref (ad 1 a0))] [.int s2, .int s1, .ref (ad 14 s0)] := by
  obtain ⟨X, K, hi, hA, hR, E, hN⟩ := V
  have V := xEnv_mk X K hi hA hR E hN
  unfold wp_X1_appendPoint_47 at h
  obtain ⟨hb1, h⟩ := h
  refine xs_C14 X K hi hA hs0 hb1 dX1_appendPoint_47 ?_
  refine x_aload_n X 0 dX1_appendPoint_48 rfl ?_
  refine xg_X1_35 X K ha0 dX1_appendPoint_49 ?_
  refine x_iconst X (v := 1) dX1_appendPoint_52 (by decide) ?_
  refine x_isub X dX1_appendPoint_53 ?_
  exact x_iret X E dX1_appendPoint_54 ⟨_, rfl, h⟩
set_option maxHeartbeats 2000000 in
set_option maxRecDepth 20000 in
theorem w_X1_appendPoint_46 {g : xG} {D : va_G} {cy : Nat → ClassId} {ad : Nat → Nat → Nat} {a0 : Nat} {Q : Int32 → xS → Prop} (V : xEnv g D (xTys cy) (shC cy) ad RX1 cX1_appendPoint (some .int) 1 22 4 (xQi Q)) (ha0 : a0 < 12) (S : xS) (s0 : Nat) (s1 : Int32) (s2 : Int32) (s3 : Int32) (hs0 : s0 < 12) (h : wp_X1_appendPoint_46 a0 Q S s0 s1 s2 s3) : Wx g (xW D (shC cy) ad S) 46 [(0, .ref (ad 1 a0))] [.int s3, .int s2, .int s1, .ref (ad 14 s0)] := by
  obtain ⟨X, K, hi, hA, hR, E, hN⟩ := V
  have V := xEnv_mk X K hi hA hR E hN
  unfold wp_X1_appendPoint_46 at h
  refine x_iadd X dX1_appendPoint_46 ?_
  refine x_sub [0] rfl ?_
  exact w_X1_appendPoint_47 V ha0 S s0 s1 (s2 + s3) hs0 h
set_option maxHeartbeats 2000000 in
set_option maxRecDepth 20000 in
theorem w_X1_appendPoint {g : xG} {D : va_G} {cy : Nat → ClassId} {ad : Nat → Nat → Nat} {a0 : Nat} {a1 : Int32} {a2 : Int32} {a3 : Int32} {S : xS} {Q : Int32 → xS → Prop} (V : xEnv g D (xTys cy) (shC cy) ad RX1 cX1_appendPoint (some .int) 1 22 4 (xQi Q)) (ha0 : a0 < 12) (h : wp_X1_appendPoint a0 a1 a2 a3 S Q) : Wx g (xW D (shC cy) ad S) 0 [(0, .ref (ad 1 a0)), (1, .int a1), (2, .int a2), (3, .int a3)] [] := by
  obtain ⟨X, K, hi, hA, hR, E, hN⟩ := V
  have V := xEnv_mk X K hi hA hR E hN
  unfold wp_X1_appendPoint at h
  refine x_aload_n X 0 dX1_appendPoint_0 rfl ?_
  refine x_iload_n X 1 dX1_appendPoint_1 rfl ?_
  refine x_iload_n X 2 dX1_appendPoint_2 rfl ?_
  refine x_callv hA (x_runV (n := 2) (sh := shC cy) X K hR (fun _ q => q) (m_X1_appendPlace hi ha0 h) (kC_1 cy ha0) rfl rfl t2_117 t2_119 tp_6 t1_4 t2_120 ⟨by decide, by decide, by decide +kernel⟩ rfl (by decide) (by decide) rfl (Nat.le_of_ble_eq_true rfl) dX1_appendPoint_3) (fun S1 h => ?_)
  refine x_aload_n X 0 dX1_appendPoint_6 rfl ?_
  refine xg_X1_18 X K ha0 dX1_appendPoint_7 ?_
  refine x_aload_n X 0 dX1_appendPoint_10 rfl ?_
  refine xg_X1_35 X K ha0 dX1_appendPoint_11 ?_
  refine x_aload_n X 0 dX1_appendPoint_14 rfl ?_
  refine xg_X1_35 X K ha0 dX1_appendPoint_15 ?_
  refine x_iconst X (v := 1) dX1_appendPoint_18 (by decide) ?_
  refine x_icmp_ne X 26 dX1_appendPoint_19 (by decide) h (fun h => ?_) (fun h => ?_)
  · refine x_iconst X (v := 0) dX1_appendPoint_22 (by decide) ?_
    refine x_goto X 47 dX1_appendPoint_23 (by decide) ?_
    refine x_sub [0] rfl ?_
    exact w_X1_appendPoint_47 V ha0 S1 a0 (S1.1 1 a0 1) (0 : Int32) ha0 h
  · refine x_aload_n X 0 dX1_appendPoint_26 rfl ?_
    refine xg_X1_18 X K ha0 dX1_appendPoint_27 ?_
    refine x_aload_n X 0 dX1_appendPoint_30 rfl ?_
    refine xg_X1_35 X K ha0 dX1_appendPoint_31 ?_
    refine x_iconst X (v := 1) dX1_appendPoint_34 (by decide) ?_
    refine x_isub X dX1_appendPoint_35 ?_
    obtain ⟨hb3, h⟩ := h
    refine xa_C14 X K ha0 hb3 dX1_appendPoint_36 ?_
    refine x_iload_n X 3 dX1_appendPoint_37 rfl ?_
    refine x_if_eq X 45 dX1_appendPoint_38 (by decide) h (fun h => ?_) (fun h => ?_)
    · refine x_iconst X (v := 0) dX1_appendPoint_45 (by decide) ?_
      refine x_sub [0] rfl ?_
      exact w_X1_appendPoint_46 V ha0 S1 a0 (S1.1 1 a0 1) (S1.1 14 a0 ((S1.1 1 a0 1) - (1 : Int32)).toNatClampNeg) (0 : Int32) ha0 h
    · refine x_iconst X (v := 1) dX1_appendPoint_41 (by decide) ?_
      refine x_goto X 46 dX1_appendPoint_42 (by decide) ?_
      refine x_sub [0] rfl ?_
      exact w_X1_appendPoint_46 V ha0 S1 a0 (S1.1 1 a0 1) (S1.1 14 a0 ((S1.1 1 a0 1) - (1 : Int32)).toNatClampNeg) (1 : Int32) ha0 h
set_option maxHeartbeats 2000000 in
set_option maxRecDepth 20000 in
theorem m_X1_appendPoint {l : Launch} {D : va_G} {cy : Nat → ClassId} {ad : Nat → Nat → Nat} (hi : xInj (shC cy) ad) {a0 : Nat} {a1 : Int32} {a2 : Int32} {a3 : Int32} {S : xS} {Q : Int32 → xS → Prop} (ha0 : a0 < 12) (h : wp_X1_appendPoint a0 a1 a2 a3 S Q) : xMet l D (xTys cy) (shC cy) ad yX1_appendPoint cX1_appendPoint 4 (some .int) (xRm 1 22) [.ref (ad 1 a0), .int a1, .int a2, .int a3] S (xQi Q) := xMet_env hi (by decide +kernel) rfl (Nat.le_of_ble_eq_true rfl) (fun g hl V => w_X1_appendPoint V ha0 h)
set_option maxHeartbeats 2000000 in
set_option maxRecDepth 20000 in
theorem w_X1_appendComponent {g : xG} {D : va_G} {cy : Nat → ClassId} {ad : Nat → Nat → Nat} {a0 : Nat} {a1 : Int32} {a2 : Int32} {a3 : Int32} {S : xS} {Q : Int32 → xS → Prop} (V : xEnv g D (xTys cy) (shC cy) ad RX1 cX1_appendComponent (some .int) 1 22 4 (xQi Q)) (ha0 : a0 < 12) (h : wp_X1_appendComponent a0 a1 a2 a3 S Q) : Wx g (xW D (shC cy) ad S) 0 [(0, .ref (ad 1 a0)), (1, .int a1), (2, .int a2), (3, .int a3)] [] := by
  obtain ⟨X, K, hi, hA, hR, E, hN⟩ := V
  have V := xEnv_mk X K hi hA hR E hN
  unfold wp_X1_appendComponent at h
  refine x_aload_n X 0 dX1_appendComponent_0 rfl ?_
  refine x_iload_n X 2 dX1_appendComponent_1 rfl ?_
  refine x_iload_n X 3 dX1_appendComponent_2 rfl ?_
  refine x_callv hA (x_runV (n := 2) (sh := shC cy) X K hR (fun _ q => q) (m_X1_appendPlace hi ha0 h) (kC_1 cy ha0) rfl rfl t2_117 t2_119 tp_6 t1_4 t2_120 ⟨by decide, by decide, by decide +kernel⟩ rfl (by decide) (by decide) rfl (Nat.le_of_ble_eq_true rfl) dX1_appendComponent_3) (fun S1 h => ?_)
  refine x_aload_n X 0 dX1_appendComponent_6 rfl ?_
  refine xg_X1_21 X K ha0 dX1_appendComponent_7 ?_
  refine x_aload_n X 0 dX1_appendComponent_10 rfl ?_
  refine xg_X1_35 X K ha0 dX1_appendComponent_11 ?_
  refine x_iload_n X 1 dX1_appendComponent_14 rfl ?_
  obtain ⟨hb3, h⟩ := h
  refine xs_C15 X K hi hA ha0 hb3 dX1_appendComponent_15 ?_
  refine x_aload_n X 0 dX1_appendComponent_16 rfl ?_
  refine xg_X1_35 X K ha0 dX1_appendComponent_17 ?_
  refine x_iconst X (v := 1) dX1_appendComponent_20 (by decide) ?_
  refine x_isub X dX1_appendComponent_21 ?_
  exact x_iret X E dX1_appendComponent_22 ⟨_, rfl, h⟩
set_option maxHeartbeats 2000000 in
set_option maxRecDepth 20000 in
theorem m_X1_appendComponent {l : Launch} {D : va_G} {cy : Nat → ClassId} {ad : Nat → Nat → Nat} (hi : xInj (shC cy) ad) {a0 : Nat} {a1 : Int32} {a2 : Int32} {a3 : Int32} {S : xS} {Q : Int32 → xS → Prop} (ha0 : a0 < 12) (h : wp_X1_appendComponent a0 a1 a2 a3 S Q) : xMet l D (xTys cy) (shC cy) ad yX1_appendComponent cX1_appendComponent 4 (some .int) (xRm 1 22) [.ref (ad 1 a0), .int a1, .int a2, .int a3] S (xQi Q) := xMet_env hi (by decide +kernel) rfl (Nat.le_of_ble_eq_true rfl) (fun g hl V => w_X1_appendComponent V ha0 h)
set_option maxHeartbeats 2000000 in
set_option maxRecDepth 20000 in
theorem w_X1_hasChild_35 {g : xG} {D : va_G} {cy : Nat → ClassId} {ad : Nat → Nat → Nat} {Q : Int32 → xS → Prop} (V : xEnv g D (xTys cy) (shC cy) ad RX1 cX1_hasChild (some .boolean) 0 0 3 (xQi Q)) (S : xS) (h : wp_X1_hasChild_35 Q S) : Wx g (xW D (shC cy) ad S) 35 [] [] := by
  obtain ⟨X, K, hi, hA, hR, E, hN⟩ := V
  have V := xEnv_mk X K hi hA hR E hN
  unfold wp_X1_hasChild_35 at h
  refine x_iconst X (v := 0) dX1_hasChild_35 (by decide) ?_
  exact x_zret X E dX1_hasChild_36 h.1 ⟨_, rfl, h.2⟩
set_option maxHeartbeats 2000000 in
set_option maxRecDepth 20000 in
theorem w_X1_hasChild_2_b {g : xG} {D : va_G} {cy : Nat → ClassId} {ad : Nat → Nat → Nat} {a0 : Nat} {a1 : Int32} {K2 : xS → Int32 → Prop} {Q : Int32 → xS → Prop} (V : xEnv g D (xTys cy) (shC cy) ad RX1 cX1_hasChild (some .boolean) 0 0 3 (xQi Q)) (ha0 : a0 < 12) (hK2 : ∀ (S : xS) (v2 : Int32), K2 S v2 → Wx g (xW D (shC cy) ad S) 2 [(0, .ref (ad 1 a0)), (1, .int a1), (2, .int v2)] []) (S : xS) (v2 : Int32) (h : wp_X1_hasChild_2_b a0 a1 K2 Q S v2) : Wx g (xW D (shC cy) ad S) 2 [(0, .ref (ad 1 a0)), (1, .int a1), (2, .int v2)] [] := by
  obtain ⟨X, K, hi, hA, hR, E, hN⟩ := V
  have V := xEnv_mk X K hi hA hR E hN
  unfold wp_X1_hasChild_2_b at h
  refine x_aload_n X 0 dX1_hasChild_2 rfl ?_
  refine xg_X1_31 X K ha0 dX1_hasChild_3 ?_
  refine x_if_eq X 35 dX1_hasChild_6 (by decide) h (fun h => ?_) (fun h => ?_)
  · refine x_sub [] rfl ?_
    exact w_X1_hasChild_35 V S h
  · refine x_iload_n X 2 dX1_hasChild_9 rfl ?_
    refine x_aload_n X 0 dX1_hasChild_10 rfl ?_
    refine xg_X1_35 X K ha0 dX1_hasChild_11 ?_
    refine x_icmp_gt X 35 dX1_hasChild_14 (by decide) h (fun h => ?_) (fun h => ?_)
    · refine x_sub [] rfl ?_
      exact w_X1_hasChild_35 V S h
    · refine x_aload_n X 0 dX1_hasChild_17 rfl ?_
      refine xg_X1_21 X K ha0 dX1_hasChild_18 ?_
      refine x_iload_n X 2 dX1_hasChild_21 rfl ?_
      obtain ⟨hb1, h⟩ := h
      refine xa_C15 X K ha0 hb1 dX1_hasChild_22 ?_
      refine x_iload_n X 1 dX1_hasChild_23 rfl ?_
      refine x_icmp_ne X 29 dX1_hasChild_24 (by decide) h (fun h => ?_) (fun h => ?_)
      · refine x_iconst X (v := 1) dX1_hasChild_27 (by decide) ?_
        exact x_zret X E dX1_hasChild_28 h.1 ⟨_, rfl, h.2⟩
      · refine x_iinc X 2 [(2, .int (v2 + (1 : Int32))), (0, .ref (ad 1 a0)), (1, .int a1)] dX1_hasChild_29 rfl rfl (by rw [hN]; decide) rfl ?_
        refine x_goto X 2 dX1_hasChild_32 (by decide) ?_
        refine x_sub [1, 2, 0] rfl ?_
        exact hK2 S (v2 + (1 : Int32)) h
set_option maxHeartbeats 2000000 in
set_option maxRecDepth 20000 in
theorem w_X1_hasChild_2 {g : xG} {D : va_G} {cy : Nat → ClassId} {ad : Nat → Nat → Nat} {a0 : Nat} {a1 : Int32} {Q : Int32 → xS → Prop} (V : xEnv g D (xTys cy) (shC cy) ad RX1 cX1_hasChild (some .boolean) 0 0 3 (xQi Q)) (ha0 : a0 < 12) (n : Nat) : ∀ (S : xS) (v2 : Int32), wp_X1_hasChild_2 a0 a1 Q n S v2 → Wx g (xW D (shC cy) ad S) 2 [(0, .ref (ad 1 a0)), (1, .int a1), (2, .int v2)] [] := by
  induction n with
  | zero => intro S v2 h; exact h.elim
  | succ n ih => intro S v2 h; exact w_X1_hasChild_2_b V ha0 (fun S v2 h => ih S v2 h) S v2 h
set_option maxHeartbeats 2000000 in
set_option maxRecDepth 20000 in
theorem w_X1_hasChild {g : xG} {D : va_G} {cy : Nat → ClassId} {ad : Nat → Nat → Nat} {a0 : Nat} {a1 : Int32} {S : xS} {Q : Int32 → xS → Prop} (V : xEnv g D (xTys cy) (shC cy) ad RX1 cX1_hasChild (some .boolean) 0 0 3 (xQi Q)) (ha0 : a0 < 12) (h : wp_X1_hasChild a0 a1 S Q) : Wx g (xW D (shC cy) ad S) 0 [(0, .ref (ad 1 a0)), (1, .int a1)] [] := by
  obtain ⟨X, K, hi, hA, hR, E, hN⟩ := V
  have V := xEnv_mk X K hi hA hR E hN
  unfold wp_X1_hasChild at h
  refine x_iconst X (v := 1) dX1_hasChild_0 (by decide) ?_
  refine x_istore_n X [(2, .int (1 : Int32)), (0, .ref (ad 1 a0)), (1, .int a1)] dX1_hasChild_1 (by rw [hN]; decide) rfl ?_
  refine x_sub [1, 2, 0] rfl ?_
  obtain ⟨n1, h⟩ := h
  exact w_X1_hasChild_2 V ha0 n1 S (1 : Int32) h
set_option maxHeartbeats 2000000 in
set_option maxRecDepth 20000 in
theorem m_X1_hasChild {l : Launch} {D : va_G} {cy : Nat → ClassId} {ad : Nat → Nat → Nat} (hi : xInj (shC cy) ad) {a0 : Nat} {a1 : Int32} {S : xS} {Q : Int32 → xS → Prop} (ha0 : a0 < 12) (h : wp_X1_hasChild a0 a1 S Q) : xMet l D (xTys cy) (shC cy) ad yX1_hasChild cX1_hasChild 3 (some .boolean) (xRm 0 0) [.ref (ad 1 a0), .int a1] S (xQi Q) := xMet_env hi (by decide +kernel) rfl (Nat.le_of_ble_eq_true rfl) (fun g hl V => w_X1_hasChild V ha0 h)
set_option maxHeartbeats 2000000 in
set_option maxRecDepth 20000 in
theorem w_X6_hasBit_13 {g : xG} {D : va_G} {cy : Nat → ClassId} {ad : Nat → Nat → Nat} {Q : Int32 → xS → Prop} (V : xEnv g D (xTys cy) (shC cy) ad RX6 cX6_hasBit (some .boolean) 0 0 2 (xQi Q)) (S : xS) (s0 : Int32) (h : wp_X6_hasBit_13 Q S s0) : Wx g (xW D (shC cy) ad S) 13 [] [.int s0] := by
  obtain ⟨X, K, hi, hA, hR, E, hN⟩ := V
  have V := xEnv_mk X K hi hA hR E hN
  unfold wp_X6_hasBit_13 at h
  exact x_zret X E dX6_hasBit_13 h.1 ⟨_, rfl, h.2⟩
set_option maxHeartbeats 2000000 in
set_option maxRecDepth 20000 in
theorem w_X6_hasBit {g : xG} {D : va_G} {cy : Nat → ClassId} {ad : Nat → Nat → Nat} {a0 : Int32} {a1 : Int32} {S : xS} {Q : Int32 → xS → Prop} (V : xEnv g D (xTys cy) (shC cy) ad RX6 cX6_hasBit (some .boolean) 0 0 2 (xQi Q)) (h : wp_X6_hasBit a0 a1 S Q) : Wx g (xW D (shC cy) ad S) 0 [(0, .int a0), (1, .int a1)] [] := by
  obtain ⟨X, K, hi, hA, hR, E, hN⟩ := V
  have V := xEnv_mk X K hi hA hR E hN
  unfold wp_X6_hasBit at h
  refine x_iload_n X 0 dX6_hasBit_0 rfl ?_
  refine x_iconst X (v := 1) dX6_hasBit_1 (by decide) ?_
  refine x_iload_n X 1 dX6_hasBit_2 rfl ?_
  refine x_ishl X dX6_hasBit_3 ?_
  refine x_iand X dX6_hasBit_4 ?_
  refine x_if_eq X 12 dX6_hasBit_5 (by decide) h (fun h => ?_) (fun h => ?_)
  · refine x_iconst X (v := 0) dX6_hasBit_12 (by decide) ?_
    refine x_sub [] rfl ?_
    exact w_X6_hasBit_13 V S (0 : Int32) h
  · refine x_iconst X (v := 1) dX6_hasBit_8 (by decide) ?_
    refine x_goto X 13 dX6_hasBit_9 (by decide) ?_
    refine x_sub [] rfl ?_
    exact w_X6_hasBit_13 V S (1 : Int32) h
set_option maxHeartbeats 2000000 in
set_option maxRecDepth 20000 in
theorem m_X6_hasBit {l : Launch} {D : va_G} {cy : Nat → ClassId} {ad : Nat → Nat → Nat} (hi : xInj (shC cy) ad) {a0 : Int32} {a1 : Int32} {S : xS} {Q : Int32 → xS → Prop} (h : wp_X6_hasBit a0 a1 S Q) : xMet l D (xTys cy) (shC cy) ad yX6_hasBit cX6_hasBit 2 (some .boolean) (xRm 0 0) [.int a0, .int a1] S (xQi Q) := xMet_env hi (by decide +kernel) rfl (Nat.le_of_ble_eq_true rfl) (fun g hl V => w_X6_hasBit V h)
set_option maxHeartbeats 2000000 in
set_option maxRecDepth 20000 in
theorem w_X5_dependsOnlyOn_26 {g : xG} {D : va_G} {cy : Nat → ClassId} {ad : Nat → Nat → Nat} {a0 : Nat} {a1 : Int32} {K2 : xS → Int32 → Prop} {Q : Int32 → xS → Prop} (V : xEnv g D (xTys cy) (shC cy) ad RX5 cX5_dependsOnlyOn (some .boolean) 1 21 3 (xQi Q)) (ha0 : a0 < 60) (hK2 : ∀ (S : xS) (v2 : Int32), K2 S v2 → Wx g (xW D (shC cy) ad S) 2 [(0, .ref (ad 5 a0)), (1, .int a1), (2, .int v2)] []) (S : xS) (v2 : Int32) (h : wp_X5_dependsOnlyOn_26 a0 a1 K2 Q S v2) : Wx g (xW D (shC cy) ad S) 26 [(0, .ref (ad 5 a0)), (1, .int a1), (2, .int v2)] [] := by
  obtain ⟨X, K, hi, hA, hR, E, hN⟩ := V
  have V := xEnv_mk X K hi hA hR E hN
  unfold wp_X5_dependsOnlyOn_26 at h
  refine x_iinc X 2 [(2, .int (v2 + (1 : Int32))), (0, .ref (ad 5 a0)), (1, .int a1)] dX5_dependsOnlyOn_26 rfl rfl (by rw [hN]; decide) rfl ?_
  refine x_goto X 2 dX5_dependsOnlyOn_29 (by decide) ?_
  refine x_sub [1, 2, 0] rfl ?_
  exact hK2 S (v2 + (1 : Int32)) h
set_option maxHeartbeats 2000000 in
set_option maxRecDepth 20000 in
theorem w_X5_dependsOnlyOn_2_b {g : xG} {D : va_G} {cy : Nat → ClassId} {ad : Nat → Nat → Nat} {a0 : Nat} {a1 : Int32} {K2 : xS → Int32 → Prop} {Q : Int32 → xS → Prop} (V : xEnv g D (xTys cy) (shC cy) ad RX5 cX5_dependsOnlyOn (some .boolean) 1 21 3 (xQi Q)) (ha0 : a0 < 60) (hK2 : ∀ (S : xS) (v2 : Int32), K2 S v2 → Wx g (xW D (shC cy) ad S) 2 [(0, .ref (ad 5 a0)), (1, .int a1), (2, .int v2)] []) (S : xS) (v2 : Int32) (h : wp_X5_dependsOnlyOn_2_b a0 a1 K2 Q S v2) : Wx g (xW D (shC cy) ad S) 2 [(0, .ref (ad 5 a0)), (1, .int a1), (2, .int v2)] [] := by
  obtain ⟨X, K, hi, hA, hR, E, hN⟩ := V
  have V := xEnv_mk X K hi hA hR E hN
  unfold wp_X5_dependsOnlyOn_2_b at h
  refine x_iload_n X 2 dX5_dependsOnlyOn_2 rfl ?_
  refine x_iconst X (v := 4) dX5_dependsOnlyOn_3 (by decide) ?_
  refine x_icmp_ge X 32 dX5_dependsOnlyOn_4 (by decide) h (fun h => ?_) (fun h => ?_)
  · refine x_iconst X (v := 1) dX5_dependsOnlyOn_32 (by decide) ?_
    exact x_zret X E dX5_dependsOnlyOn_33 h.1 ⟨_, rfl, h.2⟩
  · refine x_aload_n X 0 dX5_dependsOnlyOn_7 rfl ?_
    refine xg_X5_15 X K ha0 dX5_dependsOnlyOn_8 ?_
    refine x_iload_n X 2 dX5_dependsOnlyOn_11 rfl ?_
    obtain ⟨hb1, h⟩ := h
    refine xa_C25 X K ha0 hb1 dX5_dependsOnlyOn_12 ?_
    refine x_if_eq X 26 dX5_dependsOnlyOn_13 (by decide) h (fun h => ?_) (fun h => ?_)
    · refine x_sub [0, 1, 2] rfl ?_
      exact w_X5_dependsOnlyOn_26 V ha0 hK2 S v2 h
    · refine x_iload_n X 1 dX5_dependsOnlyOn_16 rfl ?_
      refine x_iload_n X 2 dX5_dependsOnlyOn_17 rfl ?_
      refine x_calli hA (x_runSN (n := 2) (host := "FontInstancer") X K hR (fun _ q => q) (m_X6_hasBit hi  h) (by decide) t2_145 t1_1 t2_146 ⟨by decide, by decide, by decide +kernel⟩ rfl (by decide) (by decide) rfl (Nat.le_of_ble_eq_true rfl) dX5_dependsOnlyOn_18) (fun r3 S2 h => ?_)
      refine x_if_ne X 26 dX5_dependsOnlyOn_21 (by decide) h (fun h => ?_) (fun h => ?_)
      · refine x_iconst X (v := 0) dX5_dependsOnlyOn_24 (by decide) ?_
        exact x_zret X E dX5_dependsOnlyOn_25 h.1 ⟨_, rfl, h.2⟩
      · refine x_sub [0, 1, 2] rfl ?_
        exact w_X5_dependsOnlyOn_26 V ha0 hK2 S2 v2 h
set_option maxHeartbeats 2000000 in
set_option maxRecDepth 20000 in
theorem w_X5_dependsOnlyOn_2 {g : xG} {D : va_G} {cy : Nat → ClassId} {ad : Nat → Nat → Nat} {a0 : Nat} {a1 : Int32} {Q : Int32 → xS → Prop} (V : xEnv g D (xTys cy) (shC cy) ad RX5 cX5_dependsOnlyOn (some .boolean) 1 21 3 (xQi Q)) (ha0 : a0 < 60) (n : Nat) : ∀ (S : xS) (v2 : Int32), wp_X5_dependsOnlyOn_2 a0 a1 Q n S v2 → Wx g (xW D (shC cy) ad S) 2 [(0, .ref (ad 5 a0)), (1, .int a1), (2, .int v2)] [] := by
  induction n with
  | zero => intro S v2 h; exact h.elim
  | succ n ih => intro S v2 h; exact w_X5_dependsOnlyOn_2_b V ha0 (fun S v2 h => ih S v2 h) S v2 h
set_option maxHeartbeats 2000000 in
set_option maxRecDepth 20000 in
theorem w_X5_dependsOnlyOn {g : xG} {D : va_G} {cy : Nat → ClassId} {ad : Nat → Nat → Nat} {a0 : Nat} {a1 : Int32} {S : xS} {Q : Int32 → xS → Prop} (V : xEnv g D (xTys cy) (shC cy) ad RX5 cX5_dependsOnlyOn (some .boolean) 1 21 3 (xQi Q)) (ha0 : a0 < 60) (h : wp_X5_dependsOnlyOn a0 a1 S Q) : Wx g (xW D (shC cy) ad S) 0 [(0, .ref (ad 5 a0)), (1, .int a1)] [] := by
  obtain ⟨X, K, hi, hA, hR, E, hN⟩ := V
  have V := xEnv_mk X K hi hA hR E hN
  unfold wp_X5_dependsOnlyOn at h
  refine x_iconst X (v := 0) dX5_dependsOnlyOn_0 (by decide) ?_
  refine x_istore_n X [(2, .int (0 : Int32)), (0, .ref (ad 5 a0)), (1, .int a1)] dX5_dependsOnlyOn_1 (by rw [hN]; decide) rfl ?_
  refine x_sub [1, 2, 0] rfl ?_
  obtain ⟨n1, h⟩ := h
  exact w_X5_dependsOnlyOn_2 V ha0 n1 S (0 : Int32) h
set_option maxHeartbeats 2000000 in
set_option maxRecDepth 20000 in
theorem m_X5_dependsOnlyOn {l : Launch} {D : va_G} {cy : Nat → ClassId} {ad : Nat → Nat → Nat} (hi : xInj (shC cy) ad) {a0 : Nat} {a1 : Int32} {S : xS} {Q : Int32 → xS → Prop} (ha0 : a0 < 60) (h : wp_X5_dependsOnlyOn a0 a1 S Q) : xMet l D (xTys cy) (shC cy) ad yX5_dependsOnlyOn cX5_dependsOnlyOn 3 (some .boolean) (xRm 1 21) [.ref (ad 5 a0), .int a1] S (xQi Q) := xMet_env hi (by decide +kernel) rfl (Nat.le_of_ble_eq_true rfl) (fun g hl V => w_X5_dependsOnlyOn V ha0 h)
set_option maxHeartbeats 2000000 in
set_option maxRecDepth 20000 in
theorem w_X5_timesFactor_33 {g : xG} {D : va_G} {cy : Nat → ClassId} {ad : Nat → Nat → Nat} {Q : Int64 → xS → Prop} (V : xEnv g D (xTys cy) (shC cy) ad RX5 cX5_timesFactor (some .long) 2 48 5 (xQl Q)) (S : xS) (h : wp_X5_timesFactor_33 Q S) : Wx g (xW D (shC cy) ad S) 33 [] [] := by
  obtain ⟨X, K, hi, hA, hR, E, hN⟩ := V
  have V := xEnv_mk X K hi hA hR E hN
  unfold wp_X5_timesFactor_33 at h
  refine x_lconst X (v := 0) dX5_timesFactor_33 (by decide) ?_
  exact x_lret X E dX5_timesFactor_34 ⟨_, rfl, h⟩
set_option maxHeartbeats 2000000 in
set_option maxRecDepth 20000 in
theorem w_X5_timesFactor_120 {g : xG} {D : va_G} {cy : Nat → ClassId} {ad : Nat → Nat → Nat} {Q : Int64 → xS → Prop} (V : xEnv g D (xTys cy) (shC cy) ad RX5 cX5_timesFactor (some .long) 2 48 5 (xQl Q)) (S : xS) (s0 : Int64) (h : wp_X5_timesFactor_120 Q S s0) : Wx g (xW D (shC cy) ad S) 120 [] [.long s0] := by
  obtain ⟨X, K, hi, hA, hR, E, hN⟩ := V
  have V := xEnv_mk X K hi hA hR E hN
  unfold wp_X5_timesFactor_120 at h
  exact x_lret X E dX5_timesFactor_120 ⟨_, rfl, h⟩
set_option maxHeartbeats 2000000 in
set_option maxRecDepth 20000 in
theorem w_X5_timesFactor {g : xG} {D : va_G} {cy : Nat → ClassId} {ad : Nat → Nat → Nat} {a0 : Nat} {a1 : Int64} {a3 : Int32} {a4 : Int32} {S : xS} {Q : Int64 → xS → Prop} (V : xEnv g D (xTys cy) (shC cy) ad RX5 cX5_timesFactor (some .long) 2 48 5 (xQl Q)) (ha0 : a0 < 60) (h : wp_X5_timesFactor a0 a1 a3 a4 S Q) : Wx g (xW D (shC cy) ad S) 0 [(0, .ref (ad 5 a0)), (1, .long a1), (3, .int a3), (4, .int a4)] [] := by
  obtain ⟨X, K, hi, hA, hR, E, hN⟩ := V
  have V := xEnv_mk X K hi hA hR E hN
  unfold wp_X5_timesFactor at h
  refine x_aload_n X 0 dX5_timesFactor_0 rfl ?_
  refine xg_X5_15 X K ha0 dX5_timesFactor_1 ?_
  refine x_iload_n X 2 dX5_timesFactor_4 rfl ?_
  obtain ⟨hb1, h⟩ := h
  refine xa_C25 X K ha0 hb1 dX5_timesFactor_5 ?_
  refine x_if_ne X 11 dX5_timesFactor_6 (by decide) h (fun h => ?_) (fun h => ?_)
  · refine x_lload_n X 1 dX5_timesFactor_9 rfl ?_
    exact x_lret X E dX5_timesFactor_10 ⟨_, rfl, h⟩
  · refine x_iload X 3 dX5_timesFactor_11 rfl ?_
    refine x_aload_n X 0 dX5_timesFactor_13 rfl ?_
    refine xg_X5_9 X K ha0 dX5_timesFactor_14 ?_
    refine x_iload_n X 2 dX5_timesFactor_17 rfl ?_
    obtain ⟨hb2, h⟩ := h
    refine xa_C24 X K ha0 hb2 dX5_timesFactor_18 ?_
    refine x_icmp_lt X 33 dX5_timesFactor_19 (by decide) h (fun h => ?_) (fun h => ?_)
    · refine x_sub [] rfl ?_
      exact w_X5_timesFactor_33 V S h
    · refine x_iload X 3 dX5_timesFactor_22 rfl ?_
      refine x_aload_n X 0 dX5_timesFactor_24 rfl ?_
      refine xg_X5_18 X K ha0 dX5_timesFactor_25 ?_
      refine x_iload_n X 2 dX5_timesFactor_28 rfl ?_
      obtain ⟨hb3, h⟩ := h
      refine xa_C26 X K ha0 hb3 dX5_timesFactor_29 ?_
      refine x_icmp_le X 35 dX5_timesFactor_30 (by decide) h (fun h => ?_) (fun h => ?_)
      · refine x_iload X 3 dX5_timesFactor_35 rfl ?_
        refine x_aload_n X 0 dX5_timesFactor_37 rfl ?_
        refine xg_X5_15 X K ha0 dX5_timesFactor_38 ?_
        refine x_iload_n X 2 dX5_timesFactor_41 rfl ?_
        obtain ⟨hb4, h⟩ := h
        refine xa_C25 X K ha0 hb4 dX5_timesFactor_42 ?_
        refine x_icmp_ne X 48 dX5_timesFactor_43 (by decide) h (fun h => ?_) (fun h => ?_)
        · refine x_lload_n X 1 dX5_timesFactor_46 rfl ?_
          exact x_lret X E dX5_timesFactor_47 ⟨_, rfl, h⟩
        · refine x_iload X 3 dX5_timesFactor_48 rfl ?_
          refine x_aload_n X 0 dX5_timesFactor_50 rfl ?_
          refine xg_X5_15 X K ha0 dX5_timesFactor_51 ?_
          refine x_iload_n X 2 dX5_timesFactor_54 rfl ?_
          obtain ⟨hb5, h⟩ := h
          refine xa_C25 X K ha0 hb5 dX5_timesFactor_55 ?_
          refine x_icmp_ge X 91 dX5_timesFactor_56 (by decide) h (fun h => ?_) (fun h => ?_)
          · refine x_lload_n X 1 dX5_timesFactor_91 rfl ?_
            refine x_aload_n X 0 dX5_timesFactor_92 rfl ?_
            refine xg_X5_18 X K ha0 dX5_timesFactor_93 ?_
            refine x_iload_n X 2 dX5_timesFactor_96 rfl ?_
            obtain ⟨hb6, h⟩ := h
            refine xa_C26 X K ha0 hb6 dX5_timesFactor_97 ?_
            refine x_iload X 3 dX5_timesFactor_98 rfl ?_
            refine x_isub X dX5_timesFactor_100 ?_
            refine x_i2l X dX5_timesFactor_101 ?_
            refine x_lmul X dX5_timesFactor_102 ?_
            refine x_aload_n X 0 dX5_timesFactor_103 rfl ?_
            refine xg_X5_18 X K ha0 dX5_timesFactor_104 ?_
            refine x_iload_n X 2 dX5_timesFactor_107 rfl ?_
            obtain ⟨hb7, h⟩ := h
            refine xa_C26 X K ha0 hb7 dX5_timesFactor_108 ?_
            refine x_aload_n X 0 dX5_timesFactor_109 rfl ?_
            refine xg_X5_15 X K ha0 dX5_timesFactor_110 ?_
            refine x_iload_n X 2 dX5_timesFactor_113 rfl ?_
            obtain ⟨hb8, h⟩ := h
            refine xa_C25 X K ha0 hb8 dX5_timesFactor_114 ?_
            refine x_isub X dX5_timesFactor_115 ?_
            refine x_i2l X dX5_timesFactor_116 ?_
            refine x_calll hA (x_runSN (n := 2) (host := "FontInstancer") X K hR (fun _ q => q) (m_X6_roundedQuotient hi  h) (by decide) t2_58 t1_1 t2_59 ⟨by decide, by decide, by decide +kernel⟩ rfl (by decide) (by decide) rfl (Nat.le_of_ble_eq_true rfl) dX5_timesFactor_117) (fun r10 S9 h => ?_)
            refine x_sub [] rfl ?_
            exact w_X5_timesFactor_120 V S9 r10 h
          · refine x_lload_n X 1 dX5_timesFactor_59 rfl ?_
            refine x_iload X 3 dX5_timesFactor_60 rfl ?_
            refine x_aload_n X 0 dX5_timesFactor_62 rfl ?_
            refine xg_X5_9 X K ha0 dX5_timesFactor_63 ?_
            refine x_iload_n X 2 dX5_timesFactor_66 rfl ?_
            obtain ⟨hb11, h⟩ := h
            refine xa_C24 X K ha0 hb11 dX5_timesFactor_67 ?_
            refine x_isub X dX5_timesFactor_68 ?_
            refine x_i2l X dX5_timesFactor_69 ?_
            refine x_lmul X dX5_timesFactor_70 ?_
            refine x_aload_n X 0 dX5_timesFactor_71 rfl ?_
            refine xg_X5_15 X K ha0 dX5_timesFactor_72 ?_
            refine x_iload_n X 2 dX5_timesFactor_75 rfl ?_
            obtain ⟨hb12, h⟩ := h
            refine xa_C25 X K ha0 hb12 dX5_timesFactor_76 ?_
            refine x_aload_n X 0 dX5_timesFactor_77 rfl ?_
            refine xg_X5_9 X K ha0 dX5_timesFactor_78 ?_
            refine x_iload_n X 2 dX5_timesFactor_81 rfl ?_
            obtain ⟨hb13, h⟩ := h
            refine xa_C24 X K ha0 hb13 dX5_timesFactor_82 ?_
            refine x_isub X dX5_timesFactor_83 ?_
            refine x_i2l X dX5_timesFactor_84 ?_
            refine x_calll hA (x_runSN (n := 2) (host := "FontInstancer") X K hR (fun _ q => q) (m_X6_roundedQuotient hi  h) (by decide) t2_58 t1_1 t2_59 ⟨by decide, by decide, by decide +kernel⟩ rfl (by decide) (by decide) rfl (Nat.le_of_ble_eq_true rfl) dX5_timesFactor_85) (fun r15 S14 h => ?_)
            refine x_goto X 120 dX5_timesFactor_88 (by decide) ?_
            refine x_sub [] rfl ?_
            exact w_X5_timesFactor_120 V S14 r15 h
      · refine x_sub [] rfl ?_
        exact w_X5_timesFactor_33 V S h
set_option maxHeartbeats 2000000 in
set_option maxRecDepth 20000 in
theorem m_X5_timesFactor {l : Launch} {D : va_G} {cy : Nat → ClassId} {ad : Nat → Nat → Nat} (hi : xInj (shC cy) ad) {a0 : Nat} {a1 : Int64} {a3 : Int32} {a4 : Int32} {S : xS} {Q : Int64 → xS → Prop} (ha0 : a0 < 60) (h : wp_X5_timesFactor a0 a1 a3 a4 S Q) : xMet l D (xTys cy) (shC cy) ad yX5_timesFactor cX5_timesFactor 5 (some .long) (xRm 2 48) [.ref (ad 5 a0), .long a1, .int a3, .int a4] S (xQl Q) := xMet_env hi (by decide +kernel) rfl (Nat.le_of_ble_eq_true rfl) (fun g hl V => w_X5_timesFactor V ha0 h)
set_option maxHeartbeats 2000000 in
set_option maxRecDepth 20000 in
theorem w_X5_scalarAt_7_b {g : xG} {D : va_G} {cy : Nat → ClassId} {ad : Nat → Nat → Nat} {a0 : Nat} {a1 : Nat} {K7 : xS → Int64 → Int32 → Prop} {Q : Int32 → xS → Prop} (V : xEnv g D (xTys cy) (shC cy) ad RX5 cX5_scalarAt (some .int) 3 72 5 (xQi Q)) (ha0 : a0 < 60) (ha1 : a1 < 3) (hK7 : ∀ (S : xS) (v2 : Int64) (v4 : Int32), K7 S v2 v4 → Wx g (xW D (shC cy) ad S) 7 [(0, .ref (ad 5 a0)), (1, .ref (ad 30 a1)), (2, .long v2), (4, .int v4)] []) (S : xS) (v2 : Int64) (v4 : Int32) (h : wp_X5_scalarAt_7_b a0 a1 K7 Q S v2 v4) : Wx g (xW D (shC cy) ad S) 7 [(0, .ref (ad 5 a0)), (1, .ref (ad 30 a1)), (2, .long v2), (4, .int v4)] [] := by
  obtain ⟨X, K, hi, hA, hR, E, hN⟩ := V
  have V := xEnv_mk X K hi hA hR E hN
  unfold wp_X5_scalarAt_7_b at h
  refine x_iload X 3 dX5_scalarAt_7 rfl ?_
  refine x_iconst X (v := 4) dX5_scalarAt_9 (by decide) ?_
  refine x_icmp_ge X 31 dX5_scalarAt_10 (by decide) h (fun h => ?_) (fun h => ?_)
  · refine x_lload_n X 2 dX5_scalarAt_31 rfl ?_
    refine x_l2i X dX5_scalarAt_32 ?_
    exact x_iret X E dX5_scalarAt_33 ⟨_, rfl, h⟩
  · refine x_aload_n X 0 dX5_scalarAt_13 rfl ?_
    refine x_lload_n X 2 dX5_scalarAt_14 rfl ?_
    refine x_iload X 3 dX5_scalarAt_15 rfl ?_
    refine x_aload_n X 1 dX5_scalarAt_17 rfl ?_
    refine x_iload X 3 dX5_scalarAt_18 rfl ?_
    obtain ⟨hb1, h⟩ := h
    refine xa_C30 X K ha1 hb1 dX5_scalarAt_20 ?_
    refine x_calll hA (x_runV (n := 3) (sh := shC cy) X K hR (fun _ q => q) (m_X5_timesFactor hi ha0 h) (kC_5 cy ha0) rfl rfl t2_152 t2_154 tp_8 t1_5 t2_155 ⟨by decide, by decide, by decide +kernel⟩ rfl (by decide) (by decide) rfl (Nat.le_of_ble_eq_true rfl) dX5_scalarAt_21) (fun r3 S2 h => ?_)
    refine x_lstore_n X [(2, .long r3), (0, .ref (ad 5 a0)), (1, .ref (ad 30 a1)), (4, .int v4)] dX5_scalarAt_24 (by rw [hN]; decide) rfl ?_
    refine x_iinc X 3 [(4, .int (v4 + (1 : Int32))), (2, .long r3), (0, .ref (ad 5 a0)), (1, .ref (ad 30 a1))] dX5_scalarAt_25 rfl rfl (by rw [hN]; decide) rfl ?_
    refine x_goto X 7 dX5_scalarAt_28 (by decide) ?_
    refine x_sub [2, 3, 1, 0] rfl ?_
    exact hK7 S2 r3 (v4 + (1 : Int32)) h
set_option maxHeartbeats 2000000 in
set_option maxRecDepth 20000 in
theorem w_X5_scalarAt_7 {g : xG} {D : va_G} {cy : Nat → ClassId} {ad : Nat → Nat → Nat} {a0 : Nat} {a1 : Nat} {Q : Int32 → xS → Prop} (V : xEnv g D (xTys cy) (shC cy) ad RX5 cX5_scalarAt (some .int) 3 72 5 (xQi Q)) (ha0 : a0 < 60) (ha1 : a1 < 3) (n : Nat) : ∀ (S : xS) (v2 : Int64) (v4 : Int32), wp_X5_scalarAt_7 a0 a1 Q n S v2 v4 → Wx g (xW D (shC cy) ad S) 7 [(0, .ref (ad 5 a0)), (1, .ref (ad 30 a1)), (2, .long v2), (4, .int v4)] [] := by
  induction n with
  | zero => intro S v2 v4 h; exact h.elim
  | succ n ih => intro S v2 v4 h; exact w_X5_scalarAt_7_b V ha0 ha1 (fun S v2 v4 h => ih S v2 v4 h) S v2 v4 h
set_option maxHeartbeats 2000000 in
set_option maxRecDepth 20000 in
theorem w_X5_scalarAt {g : xG} {D : va_G} {cy : Nat → ClassId} {ad : Nat → Nat → Nat} {a0 : Nat} {a1 : Nat} {S : xS} {Q : Int32 → xS → Prop} (V : xEnv g D (xTys cy) (shC cy) ad RX5 cX5_scalarAt (some .int) 3 72 5 (xQi Q)) (ha0 : a0 < 60) (ha1 : a1 < 3) (h : wp_X5_scalarAt a0 a1 S Q) : Wx g (xW D (shC cy) ad S) 0 [(0, .ref (ad 5 a0)), (1, .ref (ad 30 a1))] [] := by
  obtain ⟨X, K, hi, hA, hR, E, hN⟩ := V
  have V := xEnv_mk X K hi hA hR E hN
  unfold wp_X5_scalarAt at h
  refine x_ldc2 X (v := 268435456) t2_151 dX5_scalarAt_0 ?_
  refine x_lstore_n X [(2, .long (268435456 : Int64)), (0, .ref (ad 5 a0)), (1, .ref (ad 30 a1))] dX5_scalarAt_3 (by rw [hN]; decide) rfl ?_
  refine x_iconst X (v := 0) dX5_scalarAt_4 (by decide) ?_
  refine x_istore X [(4, .int (0 : Int32)), (2, .long (268435456 : Int64)), (0, .ref (ad 5 a0)), (1, .ref (ad 30 a1))] dX5_scalarAt_5 (by rw [hN]; decide) rfl ?_
  refine x_sub [2, 3, 1, 0] rfl ?_
  obtain ⟨n1, h⟩ := h
  exact w_X5_scalarAt_7 V ha0 ha1 n1 S (268435456 : Int64) (0 : Int32) h
set_option maxHeartbeats 2000000 in
set_option maxRecDepth 20000 in
theorem m_X5_scalarAt {l : Launch} {D : va_G} {cy : Nat → ClassId} {ad : Nat → Nat → Nat} (hi : xInj (shC cy) ad) {a0 : Nat} {a1 : Nat} {S : xS} {Q : Int32 → xS → Prop} (ha0 : a0 < 60) (ha1 : a1 < 3) (h : wp_X5_scalarAt a0 a1 S Q) : xMet l D (xTys cy) (shC cy) ad yX5_scalarAt cX5_scalarAt 5 (some .int) (xRm 3 72) [.ref (ad 5 a0), .ref (ad 30 a1)] S (xQi Q) := xMet_env hi (by decide +kernel) rfl (Nat.le_of_ble_eq_true rfl) (fun g hl V => w_X5_scalarAt V ha0 ha1 h)
set_option maxHeartbeats 2000000 in
set_option maxRecDepth 20000 in
theorem w_X5_touches {g : xG} {D : va_G} {cy : Nat → ClassId} {ad : Nat → Nat → Nat} {a0 : Nat} {a1 : Int32} {S : xS} {Q : Int32 → xS → Prop} (V : xEnv g D (xTys cy) (shC cy) ad RX5 cX5_touches (some .boolean) 1 21 2 (xQi Q)) (ha0 : a0 < 60) (h : wp_X5_touches a0 a1 S Q) : Wx g (xW D (shC cy) ad S) 0 [(0, .ref (ad 5 a0)), (1, .int a1)] [] := by
  obtain ⟨X, K, hi, hA, hR, E, hN⟩ := V
  have V := xEnv_mk X K hi hA hR E hN
  unfold wp_X5_touches at h
  refine x_aload_n X 0 dX5_touches_0 rfl ?_
  refine xg_X5_27 X K ha0 dX5_touches_1 ?_
  refine x_iload_n X 1 dX5_touches_4 rfl ?_
  refine x_calli hA (x_runSN (n := 2) (host := "FontInstancer") X K hR (fun _ q => q) (m_X6_hasBit hi  h) (by decide) t2_145 t1_1 t2_146 ⟨by decide, by decide, by decide +kernel⟩ rfl (by decide) (by decide) rfl (Nat.le_of_ble_eq_true rfl) dX5_touches_5) (fun r2 S1 h => ?_)
  exact x_zret X E dX5_touches_8 h.1 ⟨_, rfl, h.2⟩
set_option maxHeartbeats 2000000 in
set_option maxRecDepth 20000 in
theorem m_X5_touches {l : Launch} {D : va_G} {cy : Nat → ClassId} {ad : Nat → Nat → Nat} (hi : xInj (shC cy) ad) {a0 : Nat} {a1 : Int32} {S : xS} {Q : Int32 → xS → Prop} (ha0 : a0 < 60) (h : wp_X5_touches a0 a1 S Q) : xMet l D (xTys cy) (shC cy) ad yX5_touches cX5_touches 2 (some .boolean) (xRm 1 21) [.ref (ad 5 a0), .int a1] S (xQi Q) := xMet_env hi (by decide +kernel) rfl (Nat.le_of_ble_eq_true rfl) (fun g hl V => w_X5_touches V ha0 h)
set_option maxHeartbeats 2000000 in
set_option maxRecDepth 20000 in
theorem w_X1_touchedNear_88 {g : xG} {D : va_G} {cy : Nat → ClassId} {ad : Nat → Nat → Nat} {a0 : Nat} {a1 : Nat} {a2 : Int32} {a3 : Int32} {K6 : xS → Int32 → Int32 → Prop} {Q : Int32 → xS → Prop} (V : xEnv g D (xTys cy) (shC cy) ad RX1 cX1_touchedNear (some .int) 2 42 6 (xQi Q)) (ha0 : a0 < 12) (ha1 : a1 < 60) (hK6 : ∀ (S : xS) (v4 : Int32) (v5 : Int32), K6 S v4 v5 → Wx g (xW D (shC cy) ad S) 6 [(0, .ref (ad 1 a0)), (1, .ref (ad 5 a1)), (2, .int a2), (3, .int a3), (4, .int v4), (5, .int v5)] []) (S : xS) (v4 : Int32) (v5 : Int32) (h : wp_X1_touchedNear_88 a0 a1 a2 a3 K6 Q S v4 v5) : Wx g (xW D (shC cy) ad S) 88 [(0, .ref (ad 1 a0)), (1, .ref (ad 5 a1)), (2, .int a2), (3, .int a3), (4, .int v4), (5, .int v5)] [] := by
  obtain ⟨X, K, hi, hA, hR, E, hN⟩ := V
  have V := xEnv_mk X K hi hA hR E hN
  unfold wp_X1_touchedNear_88 at h
  refine x_iinc X 5 [(5, .int (v5 + (1 : Int32))), (0, .ref (ad 1 a0)), (1, .ref (ad 5 a1)), (2, .int a2), (3, .int a3), (4, .int v4)] dX1_touchedNear_88 rfl rfl (by rw [hN]; decide) rfl ?_
  refine x_goto X 6 dX1_touchedNear_91 (by decide) ?_
  refine x_sub [1, 2, 3, 4, 5, 0] rfl ?_
  exact hK6 S v4 (v5 + (1 : Int32)) h
set_option maxHeartbeats 2000000 in
set_option maxRecDepth 20000 in
theorem w_X1_touchedNear_60 {g : xG} {D : va_G} {cy : Nat → ClassId} {ad : Nat → Nat → Nat} {a0 : Nat} {a1 : Nat} {a2 : Int32} {a3 : Int32} {K6 : xS → Int32 → Int32 → Prop} {Q : Int32 → xS → Prop} (V : xEnv g D (xTys cy) (shC cy) ad RX1 cX1_touchedNear (some .int) 2 42 6 (xQi Q)) (ha0 : a0 < 12) (ha1 : a1 < 60) (hK6 : ∀ (S : xS) (v4 : Int32) (v5 : Int32), K6 S v4 v5 → Wx g (xW D (shC cy) ad S) 6 [(0, .ref (ad 1 a0)), (1, .ref (ad 5 a1)), (2, .int a2), (3, .int a3), (4, .int v4), (5, .int v5)] []) (S : xS) (v4 : Int32) (v5 : Int32) (h : wp_X1_touchedNear_60 a0 a1 a2 a3 K6 Q S v4 v5) : Wx g (xW D (shC cy) ad S) 60 [(0, .ref (ad 1 a0)), (1, .ref (ad 5 a1)), (2, .int a2), (3, .int a3), (4, .int v4), (5, .int v5)] [] := by
  obtain ⟨X, K, hi, hA, hR, E, hN⟩ := V
  have V := xEnv_mk X K hi hA hR E hN
  unfold wp_X1_touchedNear_60 at h
  refine x_aload_n X 0 dX1_touchedNear_60 rfl ?_
  refine xg_X1_18 X K ha0 dX1_touchedNear_61 ?_
  refine x_iload X 4 dX1_touchedNear_64 rfl ?_
  obtain ⟨hb1, h⟩ := h
  refine xa_C14 X K ha0 hb1 dX1_touchedNear_66 ?_
  refine x_aload_n X 0 dX1_touchedNear_67 rfl ?_
  refine xg_X1_18 X K ha0 dX1_touchedNear_68 ?_
  refine x_iload_n X 2 dX1_touchedNear_71 rfl ?_
  obtain ⟨hb2, h⟩ := h
  refine xa_C14 X K ha0 hb2 dX1_touchedNear_72 ?_
  refine x_icmp_ne X 88 dX1_touchedNear_73 (by decide) h (fun h => ?_) (fun h => ?_)
  · refine x_aload_n X 1 dX1_touchedNear_76 rfl ?_
    refine x_iload X 4 dX1_touchedNear_77 rfl ?_
    refine x_calli hA (x_runV (n := 1) (sh := shC cy) X K hR (fun _ q => q) (m_X5_touches hi ha1 h) (kC_5 cy ha1) rfl rfl t2_161 t2_162 t2_163 t1_5 t2_164 ⟨by decide, by decide, by decide +kernel⟩ rfl (by decide) (by decide) rfl (Nat.le_of_ble_eq_true rfl) dX1_touchedNear_79) (fun r4 S3 h => ?_)
    refine x_if_eq X 88 dX1_touchedNear_82 (by decide) h (fun h => ?_) (fun h => ?_)
    · refine x_sub [0, 1, 2, 3, 4, 5] rfl ?_
      exact w_X1_touchedNear_88 V ha0 ha1 hK6 S3 v4 v5 h
    · refine x_iload X 4 dX1_touchedNear_85 rfl ?_
      exact x_iret X E dX1_touchedNear_87 ⟨_, rfl, h⟩
  · refine x_sub [0, 1, 2, 3, 4, 5] rfl ?_
    exact w_X1_touchedNear_88 V ha0 ha1 hK6 S v4 v5 h
set_option maxHeartbeats 2000000 in
set_option maxRecDepth 20000 in
theorem w_X1_touchedNear_58 {g : xG} {D : va_G} {cy : Nat → ClassId} {ad : Nat → Nat → Nat} {a0 : Nat} {a1 : Nat} {a2 : Int32} {a3 : Int32} {K6 : xS → Int32 → Int32 → Prop} {Q : Int32 → xS → Prop} (V : xEnv g D (xTys cy) (shC cy) ad RX1 cX1_touchedNear (some .int) 2 42 6 (xQi Q)) (ha0 : a0 < 12) (ha1 : a1 < 60) (hK6 : ∀ (S : xS) (v4 : Int32) (v5 : Int32), K6 S v4 v5 → Wx g (xW D (shC cy) ad S) 6 [(0, .ref (ad 1 a0)), (1, .ref (ad 5 a1)), (2, .int a2), (3, .int a3), (4, .int v4), (5, .int v5)] []) (S : xS) (v5 : Int32) (s0 : Int32) (h : wp_X1_touchedNear_58 a0 a1 a2 a3 K6 Q S v5 s0) : Wx g (xW D (shC cy) ad S) 58 [(0, .ref (ad 1 a0)), (1, .ref (ad 5 a1)), (2, .int a2), (3, .int a3), (5, .int v5)] [.int s0] := by
  obtain ⟨X, K, hi, hA, hR, E, hN⟩ := V
  have V := xEnv_mk X K hi hA hR E hN
  unfold wp_X1_touchedNear_58 at h
  refine x_istore X [(4, .int s0), (0, .ref (ad 1 a0)), (1, .ref (ad 5 a1)), (2, .int a2), (3, .int a3), (5, .int v5)] dX1_touchedNear_58 (by rw [hN]; decide) rfl ?_
  refine x_sub [1, 2, 3, 4, 0, 5] rfl ?_
  exact w_X1_touchedNear_60 V ha0 ha1 hK6 S s0 v5 h
set_option maxHeartbeats 2000000 in
set_option maxRecDepth 20000 in
theorem w_X1_touchedNear_36 {g : xG} {D : va_G} {cy : Nat → ClassId} {ad : Nat → Nat → Nat} {a0 : Nat} {a1 : Nat} {a2 : Int32} {a3 : Int32} {K6 : xS → Int32 → Int32 → Prop} {Q : Int32 → xS → Prop} (V : xEnv g D (xTys cy) (shC cy) ad RX1 cX1_touchedNear (some .int) 2 42 6 (xQi Q)) (ha0 : a0 < 12) (ha1 : a1 < 60) (hK6 : ∀ (S : xS) (v4 : Int32) (v5 : Int32), K6 S v4 v5 → Wx g (xW D (shC cy) ad S) 6 [(0, .ref (ad 1 a0)), (1, .ref (ad 5 a1)), (2, .int a2), (3, .int a3), (4, .int v4), (5, .int v5)] []) (S : xS) (v5 : Int32) (s0 : Int32) (h : wp_X1_touchedNear_36 a0 a1 a2 a3 K6 Q S v5 s0) : Wx g (xW D (shC cy) ad S) 36 [(0, .ref (ad 1 a0)), (1, .ref (ad 5 a1)), (2, .int a2), (3, .int a3), (5, .int v5)] [.int s0] := by
  obtain ⟨X, K, hi, hA, hR, E, hN⟩ := V
  have V := xEnv_mk X K hi hA hR E hN
  unfold wp_X1_touchedNear_36 at h
  refine x_istore X [(4, .int s0), (0, .ref (ad 1 a0)), (1, .ref (ad 5 a1)), (2, .int a2), (3, .int a3), (5, .int v5)] dX1_touchedNear_36 (by rw [hN]; decide) rfl ?_
  refine x_goto X 60 dX1_touchedNear_38 (by decide) ?_
  refine x_sub [1, 2, 3, 4, 0, 5] rfl ?_
  exact w_X1_touchedNear_60 V ha0 ha1 hK6 S s0 v5 h
set_option maxHeartbeats 2000000 in
set_option maxRecDepth 20000 in
theorem w_X1_touchedNear_6_b {g : xG} {D : va_G} {cy : Nat → ClassId} {ad : Nat → Nat → Nat} {a0 : Nat} {a1 : Nat} {a2 : Int32} {a3 : Int32} {K6 : xS → Int32 → Int32 → Prop} {Q : Int32 → xS → Prop} (V : xEnv g D (xTys cy) (shC cy) ad RX1 cX1_touchedNear (some .int) 2 42 6 (xQi Q)) (ha0 : a0 < 12) (ha1 : a1 < 60) (hK6 : ∀ (S : xS) (v4 : Int32) (v5 : Int32), K6 S v4 v5 → Wx g (xW D (shC cy) ad S) 6 [(0, .ref (ad 1 a0)), (1, .ref (ad 5 a1)), (2, .int a2), (3, .int a3), (4, .int v4), (5, .int v5)] []) (S : xS) (v4 : Int32) (v5 : Int32) (h : wp_X1_touchedNear_6_b a0 a1 a2 a3 K6 Q S v4 v5) : Wx g (xW D (shC cy) ad S) 6 [(0, .ref (ad 1 a0)), (1, .ref (ad 5 a1)), (2, .int a2), (3, .int a3), (4, .int v4), (5, .int v5)] [] := by
  obtain ⟨X, K, hi, hA, hR, E, hN⟩ := V
  have V := xEnv_mk X K hi hA hR E hN
  unfold wp_X1_touchedNear_6_b at h
  refine x_iload X 5 dX1_touchedNear_6 rfl ?_
  refine x_aload_n X 0 dX1_touchedNear_8 rfl ?_
  refine xg_X1_35 X K ha0 dX1_touchedNear_9 ?_
  refine x_icmp_ge X 94 dX1_touchedNear_12 (by decide) h (fun h => ?_) (fun h => ?_)
  · refine x_iconst X (v := 0) dX1_touchedNear_94 (by decide) ?_
    exact x_iret X E dX1_touchedNear_95 ⟨_, rfl, h⟩
  · refine x_iload_n X 3 dX1_touchedNear_15 rfl ?_
    refine x_if_eq X 41 dX1_touchedNear_16 (by decide) h (fun h => ?_) (fun h => ?_)
    · refine x_iload X 4 dX1_touchedNear_41 rfl ?_
      refine x_iconst X (v := 1) dX1_touchedNear_43 (by decide) ?_
      refine x_icmp_le X 54 dX1_touchedNear_44 (by decide) h (fun h => ?_) (fun h => ?_)
      · refine x_aload_n X 0 dX1_touchedNear_54 rfl ?_
        refine xg_X1_35 X K ha0 dX1_touchedNear_55 ?_
        refine x_sub [0, 1, 2, 3, 5] rfl ?_
        exact w_X1_touchedNear_58 V ha0 ha1 hK6 S v5 (S.1 1 a0 1) h
      · refine x_iload X 4 dX1_touchedNear_47 rfl ?_
        refine x_iconst X (v := 1) dX1_touchedNear_49 (by decide) ?_
        refine x_isub X dX1_touchedNear_50 ?_
        refine x_goto X 58 dX1_touchedNear_51 (by decide) ?_
        refine x_sub [0, 1, 2, 3, 5] rfl ?_
        exact w_X1_touchedNear_58 V ha0 ha1 hK6 S v5 (v4 - (1 : Int32)) h
    · refine x_iload X 4 dX1_touchedNear_19 rfl ?_
      refine x_aload_n X 0 dX1_touchedNear_21 rfl ?_
      refine xg_X1_35 X K ha0 dX1_touchedNear_22 ?_
      refine x_icmp_ge X 35 dX1_touchedNear_25 (by decide) h (fun h => ?_) (fun h => ?_)
      · refine x_iconst X (v := 1) dX1_touchedNear_35 (by decide) ?_
        refine x_sub [0, 1, 2, 3, 5] rfl ?_
        exact w_X1_touchedNear_36 V ha0 ha1 hK6 S v5 (1 : Int32) h
      · refine x_iload X 4 dX1_touchedNear_28 rfl ?_
        refine x_iconst X (v := 1) dX1_touchedNear_30 (by decide) ?_
        refine x_iadd X dX1_touchedNear_31 ?_
        refine x_goto X 36 dX1_touchedNear_32 (by decide) ?_
        refine x_sub [0, 1, 2, 3, 5] rfl ?_
        exact w_X1_touchedNear_36 V ha0 ha1 hK6 S v5 (v4 + (1 : Int32)) h
set_option maxHeartbeats 2000000 in
set_option maxRecDepth 20000 in
theorem w_X1_touchedNear_6 {g : xG} {D : va_G} {cy : Nat → ClassId} {ad : Nat → Nat → Nat} {a0 : Nat} {a1 : Nat} {a2 : Int32} {a3 : Int32} {Q : Int32 → xS → Prop} (V : xEnv g D (xTys cy) (shC cy) ad RX1 cX1_touchedNear (some .int) 2 42 6 (xQi Q)) (ha0 : a0 < 12) (ha1 : a1 < 60) (n : Nat) : ∀ (S : xS) (v4 : Int32) (v5 : Int32), wp_X1_touchedNear_6 a0 a1 a2 a3 Q n S v4 v5 → Wx g (xW D (shC cy) ad S) 6 [(0, .ref (ad 1 a0)), (1, .ref (ad 5 a1)), (2, .int a2), (3, .int a3), (4, .int v4), (5, .int v5)] [] := by
  induction n with
  | zero => intro S v4 v5 h; exact h.elim
  | succ n ih => intro S v4 v5 h; exact w_X1_touchedNear_6_b V ha0 ha1 (fun S v4 v5 h => ih S v4 v5 h) S v4 v5 h
set_option maxHeartbeats 2000000 in
set_option maxRecDepth 20000 in
theorem w_X1_touchedNear {g : xG} {D : va_G} {cy : Nat → ClassId} {ad : Nat → Nat → Nat} {a0 : Nat} {a1 : Nat} {a2 : Int32} {a3 : Int32} {S : xS} {Q : Int32 → xS → Prop} (V : xEnv g D (xTys cy) (shC cy) ad RX1 cX1_touchedNear (some .int) 2 42 6 (xQi Q)) (ha0 : a0 < 12) (ha1 : a1 < 60) (h : wp_X1_touchedNear a0 a1 a2 a3 S Q) : Wx g (xW D (shC cy) ad S) 0 [(0, .ref (ad 1 a0)), (1, .ref (ad 5 a1)), (2, .int a2), (3, .int a3)] [] := by
  obtain ⟨X, K, hi, hA, hR, E, hN⟩ := V
  have V := xEnv_mk X K hi hA hR E hN
  unfold wp_X1_touchedNear at h
  refine x_iload_n X 2 dX1_touchedNear_0 rfl ?_
  refine x_istore X [(4, .int a2), (0, .ref (ad 1 a0)), (1, .ref (ad 5 a1)), (2, .int a2), (3, .int a3)] dX1_touchedNear_1 (by rw [hN]; decide) rfl ?_
  refine x_iconst X (v := 1) dX1_touchedNear_3 (by decide) ?_
  refine x_istore X [(5, .int (1 : Int32)), (4, .int a2), (0, .ref (ad 1 a0)), (1, .ref (ad 5 a1)), (2, .int a2), (3, .int a3)] dX1_touchedNear_4 (by rw [hN]; decide) rfl ?_
  refine x_sub [2, 3, 4, 5, 1, 0] rfl ?_
  obtain ⟨n1, h⟩ := h
  exact w_X1_touchedNear_6 V ha0 ha1 n1 S a2 (1 : Int32) h
set_option maxHeartbeats 2000000 in
set_option maxRecDepth 20000 in
theorem m_X1_touchedNear {l : Launch} {D : va_G} {cy : Nat → ClassId} {ad : Nat → Nat → Nat} (hi : xInj (shC cy) ad) {a0 : Nat} {a1 : Nat} {a2 : Int32} {a3 : Int32} {S : xS} {Q : Int32 → xS → Prop} (ha0 : a0 < 12) (ha1 : a1 < 60) (h : wp_X1_touchedNear a0 a1 a2 a3 S Q) : xMet l D (xTys cy) (shC cy) ad yX1_touchedNear cX1_touchedNear 6 (some .int) (xRm 2 42) [.ref (ad 1 a0), .ref (ad 5 a1), .int a2, .int a3] S (xQi Q) := xMet_env hi (by decide +kernel) rfl (Nat.le_of_ble_eq_true rfl) (fun g hl V => w_X1_touchedNear V ha0 ha1 h)
