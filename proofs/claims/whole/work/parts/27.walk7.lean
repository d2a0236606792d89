set_option maxHeartbeats 2000000 in
set_option maxRecDepth 20000 in
theorem w_X7_layOutline_267 {g : xG} {D : va_G} {cy : Nat → ClassId} {ad : Nat → Nat → Nat} {K33 : xS → Int32 → Prop} {Q : xS → Prop} (V : xEnv g D (xTys cy) (shM cy) ad RX7 cX7_layOutline none 5 134 10 (xQv Q)) (hK33 : ∀ (S : xS) (v2 : Int32), K33 S v2 → Wx g (xW D (shM cy) ad S) 33 [(0, .ref (ad 0 0)), (2, .int v2)] []) (S : xS) (v2 : Int32) (h : wp_X7_layOutline_267 K33 Q S v2) : Wx g (xW D (shM cy) ad S) 267 [(0, .ref (ad 0 0)), (2, .int v2)] [] := by
  obtain ⟨X, K, hi, hA, hR, E, hN⟩ := V
  have V := xEnv_mk X K hi hA hR E hN
  unfold wp_X7_layOutline_267 at h
  refine x_goto X 33 dX7_layOutline_267 (by decide) ?_
  refine x_sub [0, 1] rfl ?_
  exact hK33 S v2 h
set_option maxHeartbeats 2000000 in
set_option maxRecDepth 20000 in
theorem w_X7_layOutline_198_b {g : xG} {D : va_G} {cy : Nat → ClassId} {ad : Nat → Nat → Nat} {K33 : xS → Int32 → Prop} {K198 : xS → Int32 → Int32 → Int64 → Int64 → Int32 → Int32 → Prop} {Q : xS → Prop} (V : xEnv g D (xTys cy) (shM cy) ad RX7 cX7_layOutline none 5 134 10 (xQv Q)) (hK33 : ∀ (S : xS) (v2 : Int32), K33 S v2 → Wx g (xW D (shM cy) ad S) 33 [(0, .ref (ad 0 0)), (2, .int v2)] []) (hK198 : ∀ (S : xS) (v2 : Int32) (v3 : Int32) (v4 : Int64) (v6 : Int64) (v8 : Int32) (v9 : Int32), K198 S v2 v3 v4 v6 v8 v9 → Wx g (xW D (shM cy) ad S) 198 [(0, .ref (ad 0 0)), (2, .int v2), (3, .int v3), (4, .long v4), (6, .long v6), (8, .int v8), (9, .int v9)] []) (S : xS) (v2 : Int32) (v3 : Int32) (v4 : Int64) (v6 : Int64) (v8 : Int32) (v9 : Int32) (h : wp_X7_layOutline_198_b K33 K198 Q S v2 v3 v4 v6 v8 v9) : Wx g (xW D (shM cy) ad S) 198 [(0, .ref (ad 0 0)), (2, .int v2), (3, .int v3), (4, .long v4), (6, .long v6), (8, .int v8), (9, .int v9)] [] := by
  obtain ⟨X, K, hi, hA, hR, E, hN⟩ := V
  have V := xEnv_mk X K hi hA hR E hN
  unfold wp_X7_layOutline_198_b at h
  refine x_iload X 6 dX7_layOutline_198 rfl ?_
  refine x_if_lt X 267 dX7_layOutline_200 (by decide) h (fun h => ?_) (fun h => ?_)
  · refine x_sub [0, 1] rfl ?_
    exact w_X7_layOutline_267 V hK33 S v2 h
  · refine x_iload X 5 dX7_layOutline_203 rfl ?_
    refine x_if_ne X 267 dX7_layOutline_205 (by decide) h (fun h => ?_) (fun h => ?_)
    · refine x_aload_n X 0 dX7_layOutline_208 rfl ?_
      refine xg_X7_54 X K (Nat.zero_lt_one) dX7_layOutline_209 ?_
      refine x_iload_n X 1 dX7_layOutline_212 rfl ?_
      refine x_aload_n X 0 dX7_layOutline_213 rfl ?_
      refine x_iload_n X 2 dX7_layOutline_214 rfl ?_
      refine x_bipush X (v := 52) dX7_layOutline_215 (by decide) ?_
      refine x_iload X 6 dX7_layOutline_217 rfl ?_
      refine x_iadd X dX7_layOutline_219 ?_
      refine x_calli hA (x_runV (n := 2) (sh := shM cy) X K hR (fun _ q => q) (m_X7_of hi  h) (kM_0 cy (Nat.zero_lt_one)) rfl rfl t4_208 t4_210 tp_31 t1_8 t4_211 ⟨by decide, by decide, by decide +kernel⟩ rfl (by decide) (by decide) rfl (Nat.le_of_ble_eq_true rfl) dX7_layOutline_220) (fun r2 S1 h => ?_)
      obtain ⟨hb3, h⟩ := h
      refine xs_M19 X K hi hA (show 0 < 1 by decide) hb3 dX7_layOutline_223 ?_
      refine x_aload_n X 0 dX7_layOutline_224 rfl ?_
      refine xg_X7_57 X K (Nat.zero_lt_one) dX7_layOutline_225 ?_
      refine x_iload_n X 1 dX7_layOutline_228 rfl ?_
      refine x_lload X 3 dX7_layOutline_229 rfl ?_
      refine x_aload_n X 0 dX7_layOutline_231 rfl ?_
      refine x_iload_n X 2 dX7_layOutline_232 rfl ?_
      refine x_iload X 6 dX7_layOutline_233 rfl ?_
      refine x_iconst X (v := 0) dX7_layOutline_235 (by decide) ?_
      refine x_calll hA (x_runV (n := 3) (sh := shM cy) X K hR (fun _ q => q) (m_X7_placeNow hi  h) (kM_0 cy (Nat.zero_lt_one)) rfl rfl t5_95 t5_97 tp_47 t1_8 t5_98 ⟨by decide, by decide, by decide +kernel⟩ rfl (by decide) (by decide) rfl (Nat.le_of_ble_eq_true rfl) dX7_layOutline_236) (fun r5 S4 h => ?_)
      refine x_ladd X dX7_layOutline_239 ?_
      obtain ⟨hb6, h⟩ := h
      refine xs_M20 X K hi hA (show 0 < 1 by decide) hb6 dX7_layOutline_240 ?_
      refine x_aload_n X 0 dX7_layOutline_241 rfl ?_
      refine xg_X7_60 X K (Nat.zero_lt_one) dX7_layOutline_242 ?_
      refine x_iload_n X 1 dX7_layOutline_245 rfl ?_
      refine x_lload X 4 dX7_layOutline_246 rfl ?_
      refine x_aload_n X 0 dX7_layOutline_248 rfl ?_
      refine x_iload_n X 2 dX7_layOutline_249 rfl ?_
      refine x_iload X 6 dX7_layOutline_250 rfl ?_
      refine x_iconst X (v := 1) dX7_layOutline_252 (by decide) ?_
      refine x_calll hA (x_runV (n := 3) (sh := shM cy) X K hR (fun _ q => q) (m_X7_placeNow hi  h) (kM_0 cy (Nat.zero_lt_one)) rfl rfl t5_95 t5_97 tp_47 t1_8 t5_98 ⟨by decide, by decide, by decide +kernel⟩ rfl (by decide) (by decide) rfl (Nat.le_of_ble_eq_true rfl) dX7_layOutline_253) (fun r8 S7 h => ?_)
      refine x_ladd X dX7_layOutline_256 ?_
      obtain ⟨hb9, h⟩ := h
      refine xs_M21 X K hi hA (show 0 < 1 by decide) hb9 dX7_layOutline_257 ?_
      refine x_iinc X 1 [(2, .int (v2 + (1 : Int32))), (0, .ref (ad 0 0)), (3, .int v3), (4, .long v4), (6, .long v6), (8, .int v8), (9, .int v9)] dX7_layOutline_258 rfl rfl (by rw [hN]; decide) rfl ?_
      refine x_iinc X 6 [(9, .int (v9 + (-1 : Int32))), (2, .int (v2 + (1 : Int32))), (0, .ref (ad 0 0)), (3, .int v3), (4, .long v4), (6, .long v6), (8, .int v8)] dX7_layOutline_261 rfl rfl (by rw [hN]; decide) rfl ?_
      refine x_goto X 198 dX7_layOutline_264 (by decide) ?_
      refine x_sub [2, 1, 3, 4, 5, 6, 0] rfl ?_
      exact hK198 (xJ S7 21 0 v2.toNatClampNeg (v6 + r8)) (v2 + (1 : Int32)) v3 v4 v6 v8 (v9 + (-1 : Int32)) h
    · refine x_sub [0, 1] rfl ?_
      exact w_X7_layOutline_267 V hK33 S v2 h
set_option maxHeartbeats 2000000 in
set_option maxRecDepth 20000 in
theorem w_X7_layOutline_198 {g : xG} {D : va_G} {cy : Nat → ClassId} {ad : Nat → Nat → Nat} {K33 : xS → Int32 → Prop} {Q : xS → Prop} (V : xEnv g D (xTys cy) (shM cy) ad RX7 cX7_layOutline none 5 134 10 (xQv Q)) (hK33 : ∀ (S : xS) (v2 : Int32), K33 S v2 → Wx g (xW D (shM cy) ad S) 33 [(0, .ref (ad 0 0)), (2, .int v2)] []) (n : Nat) : ∀ (S : xS) (v2 : Int32) (v3 : Int32) (v4 : Int64) (v6 : Int64) (v8 : Int32) (v9 : Int32), wp_X7_layOutline_198 K33 Q n S v2 v3 v4 v6 v8 v9 → Wx g (xW D (shM cy) ad S) 198 [(0, .ref (ad 0 0)), (2, .int v2), (3, .int v3), (4, .long v4), (6, .long v6), (8, .int v8), (9, .int v9)] [] := by
  induction n with
  | zero => intro S v2 v3 v4 v6 v8 v9 h; exact h.elim
  | succ n ih => intro S v2 v3 v4 v6 v8 v9 h; exact w_X7_layOutline_198_b V hK33 (fun S v2 v3 v4 v6 v8 v9 h => ih S v2 v3 v4 v6 v8 v9 h) S v2 v3 v4 v6 v8 v9 h
set_option maxHeartbeats 2000000 in
set_option maxRecDepth 20000 in
theorem w_X7_layOutline_188 {g : xG} {D : va_G} {cy : Nat → ClassId} {ad : Nat → Nat → Nat} {K33 : xS → Int32 → Prop} {Q : xS → Prop} (V : xEnv g D (xTys cy) (shM cy) ad RX7 cX7_layOutline none 5 134 10 (xQv Q)) (hK33 : ∀ (S : xS) (v2 : Int32), K33 S v2 → Wx g (xW D (shM cy) ad S) 33 [(0, .ref (ad 0 0)), (2, .int v2)] []) (S : xS) (v2 : Int32) (v3 : Int32) (v4 : Int64) (v6 : Int64) (v8 : Int32) (h : wp_X7_layOutline_188 K33 Q S v2 v3 v4 v6 v8) : Wx g (xW D (shM cy) ad S) 188 [(0, .ref (ad 0 0)), (2, .int v2), (3, .int v3), (4, .long v4), (6, .long v6), (8, .int v8)] [] := by
  obtain ⟨X, K, hi, hA, hR, E, hN⟩ := V
  have V := xEnv_mk X K hi hA hR E hN
  unfold wp_X7_layOutline_188 at h
  refine x_aload_n X 0 dX7_layOutline_188 rfl ?_
  refine x_iload_n X 2 dX7_layOutline_189 rfl ?_
  refine x_iconst X (v := 2) dX7_layOutline_190 (by decide) ?_
  refine x_calli hA (x_runV (n := 2) (sh := shM cy) X K hR (fun _ q => q) (m_X7_of hi  h) (kM_0 cy (Nat.zero_lt_one)) rfl rfl t4_208 t4_210 tp_31 t1_8 t4_211 ⟨by decide, by decide, by decide +kernel⟩ rfl (by decide) (by decide) rfl (Nat.le_of_ble_eq_true rfl) dX7_layOutline_191) (fun r2 S1 h => ?_)
  refine x_iconst X (v := 1) dX7_layOutline_194 (by decide) ?_
  refine x_isub X dX7_layOutline_195 ?_
  refine x_istore X [(9, .int (r2 - (1 : Int32))), (0, .ref (ad 0 0)), (2, .int v2), (3, .int v3), (4, .long v4), (6, .long v6), (8, .int v8)] dX7_layOutline_196 (by rw [hN]; decide) rfl ?_
  refine x_sub [1, 2, 3, 4, 5, 6, 0] rfl ?_
  obtain ⟨n3, h⟩ := h
  exact w_X7_layOutline_198 V hK33 n3 S1 v2 v3 v4 v6 v8 (r2 - (1 : Int32)) h
set_option maxHeartbeats 2000000 in
set_option maxRecDepth 20000 in
theorem w_X7_layOutline_82_b {g : xG} {D : va_G} {cy : Nat → ClassId} {ad : Nat → Nat → Nat} {K33 : xS → Int32 → Prop} {K82 : xS → Int32 → Int32 → Int64 → Int64 → Int32 → Int32 → Prop} {Q : xS → Prop} (V : xEnv g D (xTys cy) (shM cy) ad RX7 cX7_layOutline none 5 134 10 (xQv Q)) (hK33 : ∀ (S : xS) (v2 : Int32), K33 S v2 → Wx g (xW D (shM cy) ad S) 33 [(0, .ref (ad 0 0)), (2, .int v2)] []) (hK82 : ∀ (S : xS) (v2 : Int32) (v3 : Int32) (v4 : Int64) (v6 : Int64) (v8 : Int32) (v9 : Int32), K82 S v2 v3 v4 v6 v8 v9 → Wx g (xW D (shM cy) ad S) 82 [(0, .ref (ad 0 0)), (2, .int v2), (3, .int v3), (4, .long v4), (6, .long v6), (8, .int v8), (9, .int v9)] []) (S : xS) (v2 : Int32) (v3 : Int32) (v4 : Int64) (v6 : Int64) (v8 : Int32) (v9 : Int32) (h : wp_X7_layOutline_82_b K33 K82 Q S v2 v3 v4 v6 v8 v9) : Wx g (xW D (shM cy) ad S) 82 [(0, .ref (ad 0 0)), (2, .int v2), (3, .int v3), (4, .long v4), (6, .long v6), (8, .int v8), (9, .int v9)] [] := by
  obtain ⟨X, K, hi, hA, hR, E, hN⟩ := V
  have V := xEnv_mk X K hi hA hR E hN
  unfold wp_X7_layOutline_82_b at h
  refine x_iload X 6 dX7_layOutline_82 rfl ?_
  refine x_aload_n X 0 dX7_layOutline_84 rfl ?_
  refine x_iload_n X 2 dX7_layOutline_85 rfl ?_
  refine x_iconst X (v := 2) dX7_layOutline_86 (by decide) ?_
  refine x_calli hA (x_runV (n := 2) (sh := shM cy) X K hR (fun _ q => q) (m_X7_of hi  h) (kM_0 cy (Nat.zero_lt_one)) rfl rfl t4_208 t4_210 tp_31 t1_8 t4_211 ⟨by decide, by decide, by decide +kernel⟩ rfl (by decide) (by decide) rfl (Nat.le_of_ble_eq_true rfl) dX7_layOutline_87) (fun r2 S1 h => ?_)
  refine x_icmp_ge X 188 dX7_layOutline_90 (by decide) h (fun h => ?_) (fun h => ?_)
  · refine x_sub [0, 1, 2, 3, 4, 5] rfl ?_
    exact w_X7_layOutline_188 V hK33 S1 v2 v3 v4 v6 v8 h
  · refine x_iload X 5 dX7_layOutline_93 rfl ?_
    refine x_if_eq X 188 dX7_layOutline_95 (by decide) h (fun h => ?_) (fun h => ?_)
    · refine x_sub [0, 1, 2, 3, 4, 5] rfl ?_
      exact w_X7_layOutline_188 V hK33 S1 v2 v3 v4 v6 v8 h
    · refine x_aload_n X 0 dX7_layOutline_98 rfl ?_
      refine x_dup X dX7_layOutline_99 rfl ?_
      refine xg_X7_254 X K (Nat.zero_lt_one) dX7_layOutline_100 ?_
      refine x_aload_n X 0 dX7_layOutline_103 rfl ?_
      refine x_iload_n X 2 dX7_layOutline_104 rfl ?_
      refine x_bipush X (v := 52) dX7_layOutline_105 (by decide) ?_
      refine x_iload X 6 dX7_layOutline_107 rfl ?_
      refine x_iadd X dX7_layOutline_109 ?_
      refine x_calli hA (x_runV (n := 2) (sh := shM cy) X K hR (fun _ q => q) (m_X7_of hi  h) (kM_0 cy (Nat.zero_lt_one)) rfl rfl t4_208 t4_210 tp_31 t1_8 t4_211 ⟨by decide, by decide, by decide +kernel⟩ rfl (by decide) (by decide) rfl (Nat.le_of_ble_eq_true rfl) dX7_layOutline_110) (fun r4 S3 h => ?_)
      refine x_iadd X dX7_layOutline_113 ?_
      refine xp_X7_254 X K hi hA (Nat.zero_lt_one) dX7_layOutline_114 ?_
      refine x_aload_n X 0 dX7_layOutline_117 rfl ?_
      refine xg_X7_44 X K (Nat.zero_lt_one) dX7_layOutline_118 ?_
      refine x_aload_n X 0 dX7_layOutline_121 rfl ?_
      refine xg_X7_251 X K (Nat.zero_lt_one) dX7_layOutline_122 ?_
      refine x_lload X 3 dX7_layOutline_125 rfl ?_
      refine x_aload_n X 0 dX7_layOutline_127 rfl ?_
      refine x_iload_n X 2 dX7_layOutline_128 rfl ?_
      refine x_iload X 6 dX7_layOutline_129 rfl ?_
      refine x_iconst X (v := 0) dX7_layOutline_131 (by decide) ?_
      refine x_calll hA (x_runV (n := 3) (sh := shM cy) X K hR (fun _ q => q) (m_X7_placeNow hi  h) (kM_0 cy (Nat.zero_lt_one)) rfl rfl t5_95 t5_97 tp_47 t1_8 t5_98 ⟨by decide, by decide, by decide +kernel⟩ rfl (by decide) (by decide) rfl (Nat.le_of_ble_eq_true rfl) dX7_layOutline_132) (fun r6 S5 h => ?_)
      refine x_ladd X dX7_layOutline_135 ?_
      obtain ⟨hb7, h⟩ := h
      refine xs_M16 X K hi hA (show 0 < 1 by decide) hb7 dX7_layOutline_136 ?_
      refine x_aload_n X 0 dX7_layOutline_137 rfl ?_
      refine xg_X7_48 X K (Nat.zero_lt_one) dX7_layOutline_138 ?_
      refine x_aload_n X 0 dX7_layOutline_141 rfl ?_
      refine xg_X7_251 X K (Nat.zero_lt_one) dX7_layOutline_142 ?_
      refine x_lload X 4 dX7_layOutline_145 rfl ?_
      refine x_aload_n X 0 dX7_layOutline_147 rfl ?_
      refine x_iload_n X 2 dX7_layOutline_148 rfl ?_
      refine x_iload X 6 dX7_layOutline_149 rfl ?_
      refine x_iconst X (v := 1) dX7_layOutline_151 (by decide) ?_
      refine x_calll hA (x_runV (n := 3) (sh := shM cy) X K hR (fun _ q => q) (m_X7_placeNow hi  h) (kM_0 cy (Nat.zero_lt_one)) rfl rfl t5_95 t5_97 tp_47 t1_8 t5_98 ⟨by decide, by decide, by decide +kernel⟩ rfl (by decide) (by decide) rfl (Nat.le_of_ble_eq_true rfl) dX7_layOutline_152) (fun r9 S8 h => ?_)
      refine x_ladd X dX7_layOutline_155 ?_
      obtain ⟨hb10, h⟩ := h
      refine xs_M17 X K hi hA (show 0 < 1 by decide) hb10 dX7_layOutline_156 ?_
      refine x_aload_n X 0 dX7_layOutline_157 rfl ?_
      refine xg_X7_51 X K (Nat.zero_lt_one) dX7_layOutline_158 ?_
      refine x_aload_n X 0 dX7_layOutline_161 rfl ?_
      refine xg_X7_251 X K (Nat.zero_lt_one) dX7_layOutline_162 ?_
      refine x_aload_n X 0 dX7_layOutline_165 rfl ?_
      refine xg_X7_254 X K (Nat.zero_lt_one) dX7_layOutline_166 ?_
      refine x_iconst X (v := 1) dX7_layOutline_169 (by decide) ?_
      refine x_isub X dX7_layOutline_170 ?_
      obtain ⟨hb11, h⟩ := h
      refine xs_M18 X K hi hA (show 0 < 1 by decide) hb11 dX7_layOutline_171 ?_
      refine x_aload_n X 0 dX7_layOutline_172 rfl ?_
      refine x_dup X dX7_layOutline_173 rfl ?_
      refine xg_X7_251 X K (Nat.zero_lt_one) dX7_layOutline_174 ?_
      refine x_iconst X (v := 1) dX7_layOutline_177 (by decide) ?_
      refine x_iadd X dX7_layOutline_178 ?_
      refine xp_X7_251 X K hi hA (Nat.zero_lt_one) dX7_layOutline_179 ?_
      refine x_iinc X 6 [(9, .int (v9 + (1 : Int32))), (0, .ref (ad 0 0)), (2, .int v2), (3, .int v3), (4, .long v4), (6, .long v6), (8, .int v8)] dX7_layOutline_182 rfl rfl (by rw [hN]; decide) rfl ?_
      refine x_goto X 82 dX7_layOutline_185 (by decide) ?_
      refine x_sub [1, 2, 3, 4, 5, 6, 0] rfl ?_
      exact hK82 (xI (xI (xJ S8 17 0 ((xJ S5 16 0 ((xI S3 0 0 14 ((S1.1 0 0 14) + r4)).1 0 0 13).toNatClampNeg (v4 + r6)).1 0 0 13).toNatClampNeg (v6 + r9)) 18 0 ((xJ S8 17 0 ((xJ S5 16 0 ((xI S3 0 0 14 ((S1.1 0 0 14) + r4)).1 0 0 13).toNatClampNeg (v4 + r6)).1 0 0 13).toNatClampNeg (v6 + r9)).1 0 0 13).toNatClampNeg (((xJ S8 17 0 ((xJ S5 16 0 ((xI S3 0 0 14 ((S1.1 0 0 14) + r4)).1 0 0 13).toNatClampNeg (v4 + r6)).1 0 0 13).toNatClampNeg (v6 + r9)).1 0 0 14) - (1 : Int32))) 0 0 13 (((xI (xJ S8 17 0 ((xJ S5 16 0 ((xI S3 0 0 14 ((S1.1 0 0 14) + r4)).1 0 0 13).toNatClampNeg (v4 + r6)).1 0 0 13).toNatClampNeg (v6 + r9)) 18 0 ((xJ S8 17 0 ((xJ S5 16 0 ((xI S3 0 0 14 ((S1.1 0 0 14) + r4)).1 0 0 13).toNatClampNeg (v4 + r6)).1 0 0 13).toNatClampNeg (v6 + r9)).1 0 0 13).toNatClampNeg (((xJ S8 17 0 ((xJ S5 16 0 ((xI S3 0 0 14 ((S1.1 0 0 14) + r4)).1 0 0 13).toNatClampNeg (v4 + r6)).1 0 0 13).toNatClampNeg (v6 + r9)).1 0 0 14) - (1 : Int32))).1 0 0 13) + (1 : Int32))) v2 v3 v4 v6 v8 (v9 + (1 : Int32)) h
set_option maxHeartbeats 2000000 in
set_option maxRecDepth 20000 in
theorem w_X7_layOutline_82 {g : xG} {D : va_G} {cy : Nat → ClassId} {ad : Nat → Nat → Nat} {K33 : xS → Int32 → Prop} {Q : xS → Prop} (V : xEnv g D (xTys cy) (shM cy) ad RX7 cX7_layOutline none 5 134 10 (xQv Q)) (hK33 : ∀ (S : xS) (v2 : Int32), K33 S v2 → Wx g (xW D (shM cy) ad S) 33 [(0, .ref (ad 0 0)), (2, .int v2)] []) (n : Nat) : ∀ (S : xS) (v2 : Int32) (v3 : Int32) (v4 : Int64) (v6 : Int64) (v8 : Int32) (v9 : Int32), wp_X7_layOutline_82 K33 Q n S v2 v3 v4 v6 v8 v9 → Wx g (xW D (shM cy) ad S) 82 [(0, .ref (ad 0 0)), (2, .int v2), (3, .int v3), (4, .long v4), (6, .long v6), (8, .int v8), (9, .int v9)] [] := by
  induction n with
  | zero => intro S v2 v3 v4 v6 v8 v9 h; exact h.elim
  | succ n ih => intro S v2 v3 v4 v6 v8 v9 h; exact w_X7_layOutline_82_b V hK33 (fun S v2 v3 v4 v6 v8 v9 h => ih S v2 v3 v4 v6 v8 v9 h) S v2 v3 v4 v6 v8 v9 h
set_option maxHeartbeats 2000000 in
set_option maxRecDepth 20000 in
theorem w_X7_layOutline_77 {g : xG} {D : va_G} {cy : Nat → ClassId} {ad : Nat → Nat → Nat} {K33 : xS → Int32 → Prop} {Q : xS → Prop} (V : xEnv g D (xTys cy) (shM cy) ad RX7 cX7_layOutline none 5 134 10 (xQv Q)) (hK33 : ∀ (S : xS) (v2 : Int32), K33 S v2 → Wx g (xW D (shM cy) ad S) 33 [(0, .ref (ad 0 0)), (2, .int v2)] []) (S : xS) (v2 : Int32) (v3 : Int32) (v4 : Int64) (v6 : Int64) (s0 : Int32) (h : wp_X7_layOutline_77 K33 Q S v2 v3 v4 v6 s0) : Wx g (xW D (shM cy) ad S) 77 [(0, .ref (ad 0 0)), (2, .int v2), (3, .int v3), (4, .long v4), (6, .long v6)] [.int s0] := by
  obtain ⟨X, K, hi, hA, hR, E, hN⟩ := V
  have V := xEnv_mk X K hi hA hR E hN
  unfold wp_X7_layOutline_77 at h
  refine x_istore X [(8, .int s0), (0, .ref (ad 0 0)), (2, .int v2), (3, .int v3), (4, .long v4), (6, .long v6)] dX7_layOutline_77 (by rw [hN]; decide) rfl ?_
  refine x_iconst X (v := 0) dX7_layOutline_79 (by decide) ?_
  refine x_istore X [(9, .int (0 : Int32)), (8, .int s0), (0, .ref (ad 0 0)), (2, .int v2), (3, .int v3), (4, .long v4), (6, .long v6)] dX7_layOutline_80 (by rw [hN]; decide) rfl ?_
  refine x_sub [2, 3, 4, 5, 6, 1, 0] rfl ?_
  obtain ⟨n1, h⟩ := h
  exact w_X7_layOutline_82 V hK33 n1 S v2 v3 v4 v6 s0 (0 : Int32) h
set_option maxHeartbeats 2000000 in
set_option maxRecDepth 20000 in
theorem w_X7_layOutline_33_b {g : xG} {D : va_G} {cy : Nat → ClassId} {ad : Nat → Nat → Nat} {K33 : xS → Int32 → Prop} {Q : xS → Prop} (V : xEnv g D (xTys cy) (shM cy) ad RX7 cX7_layOutline none 5 134 10 (xQv Q)) (hK33 : ∀ (S : xS) (v2 : Int32), K33 S v2 → Wx g (xW D (shM cy) ad S) 33 [(0, .ref (ad 0 0)), (2, .int v2)] []) (S : xS) (v2 : Int32) (h : wp_X7_layOutline_33_b K33 Q S v2) : Wx g (xW D (shM cy) ad S) 33 [(0, .ref (ad 0 0)), (2, .int v2)] [] := by
  obtain ⟨X, K, hi, hA, hR, E, hN⟩ := V
  have V := xEnv_mk X K hi hA hR E hN
  unfold wp_X7_layOutline_33_b at h
  refine x_iload_n X 1 dX7_layOutline_33 rfl ?_
  refine x_if_le X 270 dX7_layOutline_34 (by decide) h (fun h => ?_) (fun h => ?_)
  · exact x_vret X E dX7_layOutline_270 ⟨rfl, h⟩
  · refine x_iinc X 1 [(2, .int (v2 + (-1 : Int32))), (0, .ref (ad 0 0))] dX7_layOutline_37 rfl rfl (by rw [hN]; decide) rfl ?_
    refine x_aload_n X 1 dX7_layOutline_40 rfl ?_
    refine xg_X7_54 X K (Nat.zero_lt_one) dX7_layOutline_41 ?_
    refine x_iload_n X 0 dX7_layOutline_44 rfl ?_
    obtain ⟨hb1, h⟩ := h
    refine xa_M19 X K (show 0 < 1 by decide) hb1 dX7_layOutline_45 ?_
    refine x_istore_n X [(3, .int (S.1 19 0 (v2 + (-1 : Int32)).toNatClampNeg)), (2, .int (v2 + (-1 : Int32))), (0, .ref (ad 0 0))] dX7_layOutline_46 (by rw [hN]; decide) rfl ?_
    refine x_aload_n X 2 dX7_layOutline_47 rfl ?_
    refine xg_X7_57 X K (Nat.zero_lt_one) dX7_layOutline_48 ?_
    refine x_iload_n X 1 dX7_layOutline_51 rfl ?_
    obtain ⟨hb2, h⟩ := h
    refine xa_M20 X K (show 0 < 1 by decide) hb2 dX7_layOutline_52 ?_
    refine x_lstore X [(4, .long (S.2.1 20 0 (v2 + (-1 : Int32)).toNatClampNeg)), (3, .int (S.1 19 0 (v2 + (-1 : Int32)).toNatClampNeg)), (2, .int (v2 + (-1 : Int32))), (0, .ref (ad 0 0))] dX7_layOutline_53 (by rw [hN]; decide) rfl ?_
    refine x_aload_n X 3 dX7_layOutline_55 rfl ?_
    refine xg_X7_60 X K (Nat.zero_lt_one) dX7_layOutline_56 ?_
    refine x_iload_n X 2 dX7_layOutline_59 rfl ?_
    obtain ⟨hb3, h⟩ := h
    refine xa_M21 X K (show 0 < 1 by decide) hb3 dX7_layOutline_60 ?_
    refine x_lstore X [(6, .long (S.2.1 21 0 (v2 + (-1 : Int32)).toNatClampNeg)), (4, .long (S.2.1 20 0 (v2 + (-1 : Int32)).toNatClampNeg)), (3, .int (S.1 19 0 (v2 + (-1 : Int32)).toNatClampNeg)), (2, .int (v2 + (-1 : Int32))), (0, .ref (ad 0 0))] dX7_layOutline_61 (by rw [hN]; decide) rfl ?_
    refine x_aload_n X 4 dX7_layOutline_63 rfl ?_
    refine x_iload_n X 2 dX7_layOutline_64 rfl ?_
    refine x_iconst X (v := 0) dX7_layOutline_65 (by decide) ?_
    refine x_calli hA (x_runV (n := 2) (sh := shM cy) X K hR (fun _ q => q) (m_X7_of hi  h) (kM_0 cy (Nat.zero_lt_one)) rfl rfl t4_208 t4_210 tp_31 t1_8 t4_211 ⟨by decide, by decide, by decide +kernel⟩ rfl (by decide) (by decide) rfl (Nat.le_of_ble_eq_true rfl) dX7_layOutline_66) (fun r5 S4 h => ?_)
    refine x_if_ne X 76 dX7_layOutline_69 (by decide) h (fun h => ?_) (fun h => ?_)
    · refine x_iconst X (v := 1) dX7_layOutline_72 (by decide) ?_
      refine x_goto X 77 dX7_layOutline_73 (by decide) ?_
      refine x_sub [4, 3, 2, 1, 0] rfl ?_
      exact w_X7_layOutline_77 V hK33 S4 (v2 + (-1 : Int32)) (S.1 19 0 (v2 + (-1 : Int32)).toNatClampNeg) (S.2.1 20 0 (v2 + (-1 : Int32)).toNatClampNeg) (S.2.1 21 0 (v2 + (-1 : Int32)).toNatClampNeg) (1 : Int32) h
    · refine x_iconst X (v := 0) dX7_layOutline_76 (by decide) ?_
      refine x_sub [4, 3, 2, 1, 0] rfl ?_
      exact w_X7_layOutline_77 V hK33 S4 (v2 + (-1 : Int32)) (S.1 19 0 (v2 + (-1 : Int32)).toNatClampNeg) (S.2.1 20 0 (v2 + (-1 : Int32)).toNatClampNeg) (S.2.1 21 0 (v2 + (-1 : Int32)).toNatClampNeg) (0 : Int32) h
set_option maxHeartbeats 2000000 in
set_option maxRecDepth 20000 in
theorem w_X7_layOutline_33 {g : xG} {D : va_G} {cy : Nat → ClassId} {ad : Nat → Nat → Nat} {Q : xS → Prop} (V : xEnv g D (xTys cy) (shM cy) ad RX7 cX7_layOutline none 5 134 10 (xQv Q)) (n : Nat) : ∀ (S : xS) (v2 : Int32), wp_X7_layOutline_33 Q n S v2 → Wx g (xW D (shM cy) ad S) 33 [(0, .ref (ad 0 0)), (2, .int v2)] [] := by
  induction n with
  | zero => intro S v2 h; exact h.elim
  | succ n ih => intro S v2 h; exact w_X7_layOutline_33_b V (fun S v2 h => ih S v2 h) S v2 h
set_option maxHeartbeats 2000000 in
set_option maxRecDepth 20000 in
theorem w_X7_layOutline {g : xG} {D : va_G} {cy : Nat → ClassId} {ad : Nat → Nat → Nat} {a1 : Int32} {S : xS} {Q : xS → Prop} (V : xEnv g D (xTys cy) (shM cy) ad RX7 cX7_layOutline none 5 134 10 (xQv Q)) (h : wp_X7_layOutline a1 S Q) : Wx g (xW D (shM cy) ad S) 0 [(0, .ref (ad 0 0)), (1, .int a1)] [] := by
  obtain ⟨X, K, hi, hA, hR, E, hN⟩ := V
  have V := xEnv_mk X K hi hA hR E hN
  unfold wp_X7_layOutline at h
  refine x_aload_n X 0 dX7_layOutline_0 rfl ?_
  refine x_iconst X (v := 0) dX7_layOutline_1 (by decide) ?_
  refine xp_X7_251 X K hi hA Nat.zero_lt_one dX7_layOutline_2 ?_
  refine x_aload_n X 0 dX7_layOutline_5 rfl ?_
  refine x_iconst X (v := 0) dX7_layOutline_6 (by decide) ?_
  refine xp_X7_254 X K hi hA Nat.zero_lt_one dX7_layOutline_7 ?_
  refine x_iconst X (v := 1) dX7_layOutline_10 (by decide) ?_
  refine x_istore_n X [(2, .int (1 : Int32)), (0, .ref (ad 0 0)), (1, .int a1)] dX7_layOutline_11 (by rw [hN]; decide) rfl ?_
  refine x_aload_n X 1 dX7_layOutline_12 rfl ?_
  refine xg_X7_54 X K Nat.zero_lt_one dX7_layOutline_13 ?_
  refine x_iconst X (v := 0) dX7_layOutline_16 (by decide) ?_
  refine x_iload_n X 2 dX7_layOutline_17 rfl ?_
  obtain ⟨hb1, h⟩ := h
  refine xs_M19 X K hi hA (show 0 < 1 by decide) hb1 dX7_layOutline_18 ?_
  refine x_aload_n X 1 dX7_layOutline_19 rfl ?_
  refine xg_X7_57 X K Nat.zero_lt_one dX7_layOutline_20 ?_
  refine x_iconst X (v := 0) dX7_layOutline_23 (by decide) ?_
  refine x_lconst X (v := 0) dX7_layOutline_24 (by decide) ?_
  obtain ⟨hb2, h⟩ := h
  refine xs_M20 X K hi hA (show 0 < 1 by decide) hb2 dX7_layOutline_25 ?_
  refine x_aload_n X 1 dX7_layOutline_26 rfl ?_
  refine xg_X7_60 X K Nat.zero_lt_one dX7_layOutline_27 ?_
  refine x_iconst X (v := 0) dX7_layOutline_30 (by decide) ?_
  refine x_lconst X (v := 0) dX7_layOutline_31 (by decide) ?_
  obtain ⟨hb3, h⟩ := h
  refine xs_M21 X K hi hA (show 0 < 1 by decide) hb3 dX7_layOutline_32 ?_
  refine x_sub [1, 0] rfl ?_
  obtain ⟨n4, h⟩ := h
  exact w_X7_layOutline_33 V n4 (xJ (xJ (xI (xI (xI S 0 0 13 (0 : Int32)) 0 0 14 (0 : Int32)) 19 0 (0 : Int32).toNatClampNeg a1) 20 0 (0 : Int32).toNatClampNeg (0 : Int64)) 21 0 (0 : Int32).toNatClampNeg (0 : Int64)) (1 : Int32) h
set_option maxHeartbeats 2000000 in
set_option maxRecDepth 20000 in
theorem m_X7_layOutline {l : Launch} {D : va_G} {cy : Nat → ClassId} {ad : Nat → Nat → Nat} (hi : xInj (shM cy) ad) {a1 : Int32} {S : xS} {Q : xS → Prop} (h : wp_X7_layOutline a1 S Q) : xMet l D (xTys cy) (shM cy) ad yX7_layOutline cX7_layOutline 10 none (xRm 5 134) [.ref (ad 0 0), .int a1] S (xQv Q) := xMet_env hi (by decide +kernel) rfl (Nat.le_of_ble_eq_true rfl) (fun g hl V => w_X7_layOutline V h)
set_option maxHeartbeats 2000000 in
set_option maxRecDepth 20000 in
theorem w_X7_outline_20 {g : xG} {D : va_G} {cy : Nat → ClassId} {ad : Nat → Nat → Nat} {Q : Int64 → xS → Prop} (V : xEnv g D (xTys cy) (shM cy) ad RX7 cX7_outline (some .long) 6 163 4 (xQl Q)) (S : xS) (h : wp_X7_outline_20 Q S) : Wx g (xW D (shM cy) ad S) 20 [] [] := by
  obtain ⟨X, K, hi, hA, hR, E, hN⟩ := V
  have V := xEnv_mk X K hi hA hR E hN
  unfold wp_X7_outline_20 at h
  refine x_calll hA (x_runS (n := 0) X K hR (fun _ q => q) (m_X7_lost hi  h) t5_87 t5_88 t1_8 t5_89 ⟨by decide, by decide, by decide +kernel⟩ rfl (by decide) (by decide) rfl (Nat.le_of_ble_eq_true rfl) dX7_outline_20) (fun r2 S1 h => ?_)
  exact x_lret X E dX7_outline_23 ⟨_, rfl, h⟩
set_option maxHeartbeats 2000000 in
set_option maxRecDepth 20000 in
theorem w_X7_outline_83 {g : xG} {D : va_G} {cy : Nat → ClassId} {ad : Nat → Nat → Nat} {Q : Int64 → xS → Prop} (V : xEnv g D (xTys cy) (shM cy) ad RX7 cX7_outline (some .long) 6 163 4 (xQl Q)) (S : xS) (s0 : Int64) (h : wp_X7_outline_83 Q S s0) : Wx g (xW D (shM cy) ad S) 83 [] [.long s0] := by
  obtain ⟨X, K, hi, hA, hR, E, hN⟩ := V
  have V := xEnv_mk X K hi hA hR E hN
  unfold wp_X7_outline_83 at h
  exact x_lret X E dX7_outline_83 ⟨_, rfl, h⟩
set_option maxHeartbeats 2000000 in
set_option maxRecDepth 20000 in
theorem w_X7_outline {g : xG} {D : va_G} {cy : Nat → ClassId} {ad : Nat → Nat → Nat} {a1 : Int32} {a2 : Int32} {a3 : Int32} {S : xS} {Q : Int64 → xS → Prop} (V : xEnv g D (xTys cy) (shM cy) ad RX7 cX7_outline (some .long) 6 163 4 (xQl Q)) (h : wp_X7_outline a1 a2 a3 S Q) : Wx g (xW D (shM cy) ad S) 0 [(0, .ref (ad 0 0)), (1, .int a1), (2, .int a2), (3, .int a3)] [] := by
  obtain ⟨X, K, hi, hA, hR, E, hN⟩ := V
  have V := xEnv_mk X K hi hA hR E hN
  unfold wp_X7_outline at h
  refine x_aload_n X 0 dX7_outline_0 rfl ?_
  refine x_iload_n X 1 dX7_outline_1 rfl ?_
  refine x_calli hA (x_runV (n := 1) (sh := shM cy) X K hR (fun _ q => q) (m_X7_noGlyph hi  h) (kM_0 cy Nat.zero_lt_one) rfl rfl t4_199 t4_201 tp_30 t1_8 t4_202 ⟨by decide, by decide, by decide +kernel⟩ rfl (by decide) (by decide) rfl (Nat.le_of_ble_eq_true rfl) dX7_outline_2) (fun r2 S1 h => ?_)
  refine x_if_ne X 20 dX7_outline_5 (by decide) h (fun h => ?_) (fun h => ?_)
  · refine x_iload_n X 3 dX7_outline_8 rfl ?_
    refine x_i2l X dX7_outline_9 ?_
    refine x_lconst X (v := 0) dX7_outline_10 (by decide) ?_
    refine x_ldc2 X (v := 2) t4_164 dX7_outline_11 ?_
    refine x_calli hA (x_runS (n := 3) X K hR (fun _ q => q) (m_X7_in hi  h) t4_135 t4_136 t1_8 t4_137 ⟨by decide, by decide, by decide +kernel⟩ rfl (by decide) (by decide) rfl (Nat.le_of_ble_eq_true rfl) dX7_outline_14) (fun r4 S3 h => ?_)
    refine x_if_ne X 24 dX7_outline_17 (by decide) h (fun h => ?_) (fun h => ?_)
    · refine x_sub [] rfl ?_
      exact w_X7_outline_20 V S3 h
    · refine x_aload_n X 0 dX7_outline_24 rfl ?_
      refine x_iload_n X 1 dX7_outline_25 rfl ?_
      refine x_callv hA (x_runV (n := 1) (sh := shM cy) X K hR (fun _ q => q) (m_X7_layOutline hi  h) (kM_0 cy Nat.zero_lt_one) rfl rfl t5_103 t5_105 tp_48 t1_8 t5_106 ⟨by decide, by decide, by decide +kernel⟩ rfl (by decide) (by decide) rfl (Nat.le_of_ble_eq_true rfl) dX7_outline_26) (fun S5 h => ?_)
      refine x_iload_n X 2 dX7_outline_29 rfl ?_
      refine x_i2l X dX7_outline_30 ?_
      refine x_lconst X (v := 0) dX7_outline_31 (by decide) ?_
      refine x_aload_n X 0 dX7_outline_32 rfl ?_
      refine xg_X7_251 X K Nat.zero_lt_one dX7_outline_33 ?_
      refine x_i2l X dX7_outline_36 ?_
      refine x_lconst X (v := 1) dX7_outline_37 (by decide) ?_
      refine x_lsub X dX7_outline_38 ?_
      refine x_calli hA (x_runS (n := 3) X K hR (fun _ q => q) (m_X7_in hi  h) t4_135 t4_136 t1_8 t4_137 ⟨by decide, by decide, by decide +kernel⟩ rfl (by decide) (by decide) rfl (Nat.le_of_ble_eq_true rfl) dX7_outline_39) (fun r8 S7 h => ?_)
      refine x_if_ne X 49 dX7_outline_42 (by decide) h (fun h => ?_) (fun h => ?_)
      · refine x_calll hA (x_runS (n := 0) X K hR (fun _ q => q) (m_X7_lost hi  h) t5_87 t5_88 t1_8 t5_89 ⟨by decide, by decide, by decide +kernel⟩ rfl (by decide) (by decide) rfl (Nat.le_of_ble_eq_true rfl) dX7_outline_45) (fun r10 S9 h => ?_)
        exact x_lret X E dX7_outline_48 ⟨_, rfl, h⟩
      · refine x_iload_n X 3 dX7_outline_49 rfl ?_
        refine x_if_ne X 62 dX7_outline_50 (by decide) h (fun h => ?_) (fun h => ?_)
        · refine x_aload_n X 0 dX7_outline_53 rfl ?_
          refine xg_X7_44 X K Nat.zero_lt_one dX7_outline_54 ?_
          refine x_iload_n X 2 dX7_outline_57 rfl ?_
          obtain ⟨hb11, h⟩ := h
          refine xa_M16 X K (show 0 < 1 by decide) hb11 dX7_outline_58 ?_
          refine x_goto X 83 dX7_outline_59 (by decide) ?_
          refine x_sub [] rfl ?_
          exact w_X7_outline_83 V S7 (S7.2.1 16 0 a2.toNatClampNeg) h
        · refine x_iload_n X 3 dX7_outline_62 rfl ?_
          refine x_iconst X (v := 1) dX7_outline_63 (by decide) ?_
          refine x_icmp_ne X 76 dX7_outline_64 (by decide) h (fun h => ?_) (fun h => ?_)
          · refine x_aload_n X 0 dX7_outline_67 rfl ?_
            refine xg_X7_48 X K Nat.zero_lt_one dX7_outline_68 ?_
            refine x_iload_n X 2 dX7_outline_71 rfl ?_
            obtain ⟨hb12, h⟩ := h
            refine xa_M17 X K (show 0 < 1 by decide) hb12 dX7_outline_72 ?_
            refine x_goto X 83 dX7_outline_73 (by decide) ?_
            refine x_sub [] rfl ?_
            exact w_X7_outline_83 V S7 (S7.2.1 17 0 a2.toNatClampNeg) h
          · refine x_aload_n X 0 dX7_outline_76 rfl ?_
            refine xg_X7_51 X K Nat.zero_lt_one dX7_outline_77 ?_
            refine x_iload_n X 2 dX7_outline_80 rfl ?_
            obtain ⟨hb13, h⟩ := h
            refine xa_M18 X K (show 0 < 1 by decide) hb13 dX7_outline_81 ?_
            refine x_i2l X dX7_outline_82 ?_
            refine x_sub [] rfl ?_
            exact w_X7_outline_83 V S7 (Int32.toInt64 (S7.1 18 0 a2.toNatClampNeg)) h
  · refine x_sub [] rfl ?_
    exact w_X7_outline_20 V S1 h
set_option maxHeartbeats 2000000 in
set_option maxRecDepth 20000 in
theorem m_X7_outline {l : Launch} {D : va_G} {cy : Nat → ClassId} {ad : Nat → Nat → Nat} (hi : xInj (shM cy) ad) {a1 : Int32} {a2 : Int32} {a3 : Int32} {S : xS} {Q : Int64 → xS → Prop} (h : wp_X7_outline a1 a2 a3 S Q) : xMet l D (xTys cy) (shM cy) ad yX7_outline cX7_outline 4 (some .long) (xRm 6 163) [.ref (ad 0 0), .int a1, .int a2, .int a3] S (xQl Q) := xMet_env hi (by decide +kernel) rfl (Nat.le_of_ble_eq_true rfl) (fun g hl V => w_X7_outline V h)
set_option maxHeartbeats 2000000 in
set_option maxRecDepth 20000 in
theorem w_X7_endOf_88 {g : xG} {D : va_G} {cy : Nat → ClassId} {ad : Nat → Nat → Nat} {a1 : Int32} {a2 : Int32} {K23 : xS → Int64 → Int32 → Prop} {Q : Int64 → xS → Prop} (V : xEnv g D (xTys cy) (shM cy) ad RX7 cX7_endOf (some .long) 0 0 8 (xQl Q)) (hK23 : ∀ (S : xS) (v3 : Int64) (v5 : Int32), K23 S v3 v5 → Wx g (xW D (shM cy) ad S) 23 [(0, .ref (ad 0 0)), (1, .int a1), (2, .int a2), (3, .long v3), (5, .int v5)] []) (S : xS) (v5 : Int32) (s0 : Int64) (h : wp_X7_endOf_88 a1 a2 K23 Q S v5 s0) : Wx g (xW D (shM cy) ad S) 88 [(0, .ref (ad 0 0)), (1, .int a1), (2, .int a2), (5, .int v5)] [.long s0] := by
  obtain ⟨X, K, hi, hA, hR, E, hN⟩ := V
  have V := xEnv_mk X K hi hA hR E hN
  unfold wp_X7_endOf_88 at h
  refine x_lstore_n X [(3, .long s0), (0, .ref (ad 0 0)), (1, .int a1), (2, .int a2), (5, .int v5)] dX7_endOf_88 (by rw [hN]; decide) rfl ?_
  refine x_iinc X 4 [(5, .int (v5 + (1 : Int32))), (3, .long s0), (0, .ref (ad 0 0)), (1, .int a1), (2, .int a2)] dX7_endOf_89 rfl rfl (by rw [hN]; decide) rfl ?_
  refine x_goto X 23 dX7_endOf_92 (by decide) ?_
  refine x_sub [2, 3, 4, 1, 0] rfl ?_
  exact hK23 S s0 (v5 + (1 : Int32)) h
set_option maxHeartbeats 2000000 in
set_option maxRecDepth 20000 in
theorem w_X7_endOf_53 {g : xG} {D : va_G} {cy : Nat → ClassId} {ad : Nat → Nat → Nat} {a1 : Int32} {a2 : Int32} {K23 : xS → Int64 → Int32 → Prop} {Q : Int64 → xS → Prop} (V : xEnv g D (xTys cy) (shM cy) ad RX7 cX7_endOf (some .long) 0 0 8 (xQl Q)) (hK23 : ∀ (S : xS) (v3 : Int64) (v5 : Int32), K23 S v3 v5 → Wx g (xW D (shM cy) ad S) 23 [(0, .ref (ad 0 0)), (1, .int a1), (2, .int a2), (3, .long v3), (5, .int v5)] []) (S : xS) (v3 : Int64) (v5 : Int32) (s0 : Int64) (h : wp_X7_endOf_53 a1 a2 K23 Q S v3 v5 s0) : Wx g (xW D (shM cy) ad S) 53 [(0, .ref (ad 0 0)), (1, .int a1), (2, .int a2), (3, .long v3), (5, .int v5)] [.long s0] := by
  obtain ⟨X, K, hi, hA, hR, E, hN⟩ := V
  have V := xEnv_mk X K hi hA hR E hN
  unfold wp_X7_endOf_53 at h
  refine x_lstore X [(6, .long s0), (0, .ref (ad 0 0)), (1, .int a1), (2, .int a2), (3, .long v3), (5, .int v5)] dX7_endOf_53 (by rw [hN]; decide) rfl ?_
  refine x_iload_n X 3 dX7_endOf_55 rfl ?_
  refine x_if_eq X 75 dX7_endOf_56 (by decide) h (fun h => ?_) (fun h => ?_)
  · refine x_lload X 0 dX7_endOf_75 rfl ?_
    refine x_lload_n X 4 dX7_endOf_77 rfl ?_
    refine x_lcmp X dX7_endOf_78 ?_
    refine x_if_ge X 87 dX7_endOf_79 (by decide) h (fun h => ?_) (fun h => ?_)
    · refine x_lload_n X 4 dX7_endOf_87 rfl ?_
      refine x_sub [1, 2, 3, 5] rfl ?_
      exact w_X7_endOf_88 V hK23 S v5 v3 h
    · refine x_lload X 0 dX7_endOf_82 rfl ?_
      refine x_goto X 88 dX7_endOf_84 (by decide) ?_
      refine x_sub [1, 2, 3, 5] rfl ?_
      exact w_X7_endOf_88 V hK23 S v5 s0 h
  · refine x_lload X 0 dX7_endOf_59 rfl ?_
    refine x_lload_n X 4 dX7_endOf_61 rfl ?_
    refine x_lcmp X dX7_endOf_62 ?_
    refine x_if_le X 71 dX7_endOf_63 (by decide) h (fun h => ?_) (fun h => ?_)
    · refine x_lload_n X 4 dX7_endOf_71 rfl ?_
      refine x_goto X 88 dX7_endOf_72 (by decide) ?_
      refine x_sub [1, 2, 3, 5] rfl ?_
      exact w_X7_endOf_88 V hK23 S v5 v3 h
    · refine x_lload X 0 dX7_endOf_66 rfl ?_
      refine x_goto X 88 dX7_endOf_68 (by decide) ?_
      refine x_sub [1, 2, 3, 5] rfl ?_
      exact w_X7_endOf_88 V hK23 S v5 s0 h
set_option maxHeartbeats 2000000 in
set_option maxRecDepth 20000 in
theorem w_X7_endOf_23_b {g : xG} {D : va_G} {cy : Nat → ClassId} {ad : Nat → Nat → Nat} {a1 : Int32} {a2 : Int32} {K23 : xS → Int64 → Int32 → Prop} {Q : Int64 → xS → Prop} (V : xEnv g D (xTys cy) (shM cy) ad RX7 cX7_endOf (some .long) 0 0 8 (xQl Q)) (hK23 : ∀ (S : xS) (v3 : Int64) (v5 : Int32), K23 S v3 v5 → Wx g (xW D (shM cy) ad S) 23 [(0, .ref (ad 0 0)), (1, .int a1), (2, .int a2), (3, .long v3), (5, .int v5)] []) (S : xS) (v3 : Int64) (v5 : Int32) (h : wp_X7_endOf_23_b a1 a2 K23 Q S v3 v5) : Wx g (xW D (shM cy) ad S) 23 [(0, .ref (ad 0 0)), (1, .int a1), (2, .int a2), (3, .long v3), (5, .int v5)] [] := by
  obtain ⟨X, K, hi, hA, hR, E, hN⟩ := V
  have V := xEnv_mk X K hi hA hR E hN
  unfold wp_X7_endOf_23_b at h
  refine x_iload X 4 dX7_endOf_23 rfl ?_
  refine x_aload_n X 0 dX7_endOf_25 rfl ?_
  refine xg_X7_251 X K (Nat.zero_lt_one) dX7_endOf_26 ?_
  refine x_icmp_ge X 95 dX7_endOf_29 (by decide) h (fun h => ?_) (fun h => ?_)
  · refine x_lload_n X 3 dX7_endOf_95 rfl ?_
    exact x_lret X E dX7_endOf_96 ⟨_, rfl, h⟩
  · refine x_iload_n X 1 dX7_endOf_32 rfl ?_
    refine x_if_eq X 46 dX7_endOf_33 (by decide) h (fun h => ?_) (fun h => ?_)
    · refine x_aload_n X 0 dX7_endOf_46 rfl ?_
      refine xg_X7_44 X K (Nat.zero_lt_one) dX7_endOf_47 ?_
      refine x_iload X 4 dX7_endOf_50 rfl ?_
      obtain ⟨hb1, h⟩ := h
      refine xa_M16 X K (show 0 < 1 by decide) hb1 dX7_endOf_52 ?_
      refine x_sub [0, 1, 2, 3, 4] rfl ?_
      exact w_X7_endOf_53 V hK23 S v3 v5 (S.2.1 16 0 v5.toNatClampNeg) h
    · refine x_aload_n X 0 dX7_endOf_36 rfl ?_
      refine xg_X7_48 X K (Nat.zero_lt_one) dX7_endOf_37 ?_
      refine x_iload X 4 dX7_endOf_40 rfl ?_
      obtain ⟨hb2, h⟩ := h
      refine xa_M17 X K (show 0 < 1 by decide) hb2 dX7_endOf_42 ?_
      refine x_goto X 53 dX7_endOf_43 (by decide) ?_
      refine x_sub [0, 1, 2, 3, 4] rfl ?_
      exact w_X7_endOf_53 V hK23 S v3 v5 (S.2.1 17 0 v5.toNatClampNeg) h
set_option maxHeartbeats 2000000 in
set_option maxRecDepth 20000 in
theorem w_X7_endOf_23 {g : xG} {D : va_G} {cy : Nat → ClassId} {ad : Nat → Nat → Nat} {a1 : Int32} {a2 : Int32} {Q : Int64 → xS → Prop} (V : xEnv g D (xTys cy) (shM cy) ad RX7 cX7_endOf (some .long) 0 0 8 (xQl Q)) (n : Nat) : ∀ (S : xS) (v3 : Int64) (v5 : Int32), wp_X7_endOf_23 a1 a2 Q n S v3 v5 → Wx g (xW D (shM cy) ad S) 23 [(0, .ref (ad 0 0)), (1, .int a1), (2, .int a2), (3, .long v3), (5, .int v5)] [] := by
  induction n with
  | zero => intro S v3 v5 h; exact h.elim
  | succ n ih => intro S v3 v5 h; exact w_X7_endOf_23_b V (fun S v3 v5 h => ih S v3 v5 h) S v3 v5 h
set_option maxHeartbeats 2000000 in
set_option maxRecDepth 20000 in
theorem w_X7_endOf_19 {g : xG} {D : va_G} {cy : Nat → ClassId} {ad : Nat → Nat → Nat} {a1 : Int32} {a2 : Int32} {Q : Int64 → xS → Prop} (V : xEnv g D (xTys cy) (shM cy) ad RX7 cX7_endOf (some .long) 0 0 8 (xQl Q)) (S : xS) (s0 : Int64) (h : wp_X7_endOf_19 a1 a2 Q S s0) : Wx g (xW D (shM cy) ad S) 19 [(0, .ref (ad 0 0)), (1, .int a1), (2, .int a2)] [.long s0] := by
  obtain ⟨X, K, hi, hA, hR, E, hN⟩ := V
  have V := xEnv_mk X K hi hA hR E hN
  unfold wp_X7_endOf_19 at h
  refine x_lstore_n X [(3, .long s0), (0, .ref (ad 0 0)), (1, .int a1), (2, .int a2)] dX7_endOf_19 (by rw [hN]; decide) rfl ?_
  refine x_iconst X (v := 1) dX7_endOf_20 (by decide) ?_
  refine x_istore X [(5, .int (1 : Int32)), (3, .long s0), (0, .ref (ad 0 0)), (1, .int a1), (2, .int a2)] dX7_endOf_21 (by rw [hN]; decide) rfl ?_
  refine x_sub [2, 3, 4, 1, 0] rfl ?_
  obtain ⟨n1, h⟩ := h
  exact w_X7_endOf_23 V n1 S s0 (1 : Int32) h
set_option maxHeartbeats 2000000 in
set_option maxRecDepth 20000 in
theorem w_X7_endOf {g : xG} {D : va_G} {cy : Nat → ClassId} {ad : Nat → Nat → Nat} {a1 : Int32} {a2 : Int32} {S : xS} {Q : Int64 → xS → Prop} (V : xEnv g D (xTys cy) (shM cy) ad RX7 cX7_endOf (some .long) 0 0 8 (xQl Q)) (h : wp_X7_endOf a1 a2 S Q) : Wx g (xW D (shM cy) ad S) 0 [(0, .ref (ad 0 0)), (1, .int a1), (2, .int a2)] [] := by
  obtain ⟨X, K, hi, hA, hR, E, hN⟩ := V
  have V := xEnv_mk X K hi hA hR E hN
  unfold wp_X7_endOf at h
  refine x_iload_n X 1 dX7_endOf_0 rfl ?_
  refine x_if_eq X 13 dX7_endOf_1 (by decide) h (fun h => ?_) (fun h => ?_)
  · refine x_aload_n X 0 dX7_endOf_13 rfl ?_
    refine xg_X7_44 X K Nat.zero_lt_one dX7_endOf_14 ?_
    refine x_iconst X (v := 0) dX7_endOf_17 (by decide) ?_
    obtain ⟨hb1, h⟩ := h
    refine xa_M16 X K (show 0 < 1 by decide) hb1 dX7_endOf_18 ?_
    refine x_sub [0, 1, 2] rfl ?_
    exact w_X7_endOf_19 V S (S.2.1 16 0 (0 : Int32).toNatClampNeg) h
  · refine x_aload_n X 0 dX7_endOf_4 rfl ?_
    refine xg_X7_48 X K Nat.zero_lt_one dX7_endOf_5 ?_
    refine x_iconst X (v := 0) dX7_endOf_8 (by decide) ?_
    obtain ⟨hb2, h⟩ := h
    refine xa_M17 X K (show 0 < 1 by decide) hb2 dX7_endOf_9 ?_
    refine x_goto X 19 dX7_endOf_10 (by decide) ?_
    refine x_sub [0, 1, 2] rfl ?_
    exact w_X7_endOf_19 V S (S.2.1 17 0 (0 : Int32).toNatClampNeg) h
set_option maxHeartbeats 2000000 in
set_option maxRecDepth 20000 in
theorem m_X7_endOf {l : Launch} {D : va_G} {cy : Nat → ClassId} {ad : Nat → Nat → Nat} (hi : xInj (shM cy) ad) {a1 : Int32} {a2 : Int32} {S : xS} {Q : Int64 → xS → Prop} (h : wp_X7_endOf a1 a2 S Q) : xMet l D (xTys cy) (shM cy) ad yX7_endOf cX7_endOf 8 (some .long) (xRm 0 0) [.ref (ad 0 0), .int a1, .int a2] S (xQl Q) := xMet_env hi (by decide +kernel) rfl (Nat.le_of_ble_eq_true rfl) (fun g hl V => w_X7_endOf V h)
set_option maxHeartbeats 2000000 in
set_option maxRecDepth 20000 in
theorem w_X7_box_20 {g : xG} {D : va_G} {cy : Nat → ClassId} {ad : Nat → Nat → Nat} {Q : Int64 → xS → Prop} (V : xEnv g D (xTys cy) (shM cy) ad RX7 cX7_box (some .long) 6 163 3 (xQl Q)) (S : xS) (h : wp_X7_box_20 Q S) : Wx g (xW D (shM cy) ad S) 20 [] [] := by
  obtain ⟨X, K, hi, hA, hR, E, hN⟩ := V
  have V := xEnv_mk X K hi hA hR E hN
  unfold wp_X7_box_20 at h
  refine x_calll hA (x_runS (n := 0) X K hR (fun _ q => q) (m_X7_lost hi  h) t5_87 t5_88 t1_8 t5_89 ⟨by decide, by decide, by decide +kernel⟩ rfl (by decide) (by decide) rfl (Nat.le_of_ble_eq_true rfl) dX7_box_20) (fun r2 S1 h => ?_)
  exact x_lret X E dX7_box_23 ⟨_, rfl, h⟩
set_option maxHeartbeats 2000000 in
set_option maxRecDepth 20000 in
theorem w_X7_box_68 {g : xG} {D : va_G} {cy : Nat → ClassId} {ad : Nat → Nat → Nat} {Q : Int64 → xS → Prop} (V : xEnv g D (xTys cy) (shM cy) ad RX7 cX7_box (some .long) 6 163 3 (xQl Q)) (S : xS) (s0 : Int64) (h : wp_X7_box_68 Q S s0) : Wx g (xW D (shM cy) ad S) 68 [] [.long s0] := by
  obtain ⟨X, K, hi, hA, hR, E, hN⟩ := V
  have V := xEnv_mk X K hi hA hR E hN
  unfold wp_X7_box_68 at h
  exact x_lret X E dX7_box_68 ⟨_, rfl, h⟩
set_option maxHeartbeats 2000000 in
set_option maxRecDepth 20000 in
theorem w_X7_box_65 {g : xG} {D : va_G} {cy : Nat → ClassId} {ad : Nat → Nat → Nat} {Q : Int64 → xS → Prop} (V : xEnv g D (xTys cy) (shM cy) ad RX7 cX7_box (some .long) 6 163 3 (xQl Q)) (S : xS) (s1 : Int32) (s2 : Int32) (h : wp_X7_box_65 Q S s1 s2) : Wx g (xW D (shM cy) ad S) 65 [] [.int s2, .int s1, .ref (ad 0 0)] := by
  obtain ⟨X, K, hi, hA, hR, E, hN⟩ := V
  have V := xEnv_mk X K hi hA hR E hN
  unfold wp_X7_box_65 at h
  refine x_calll hA (x_runV (n := 2) (sh := shM cy) X K hR (fun _ q => q) (m_X7_endOf hi  h) (kM_0 cy (Nat.zero_lt_one)) rfl rfl t5_111 t5_113 tp_49 t1_8 t5_114 ⟨by decide, by decide, by decide +kernel⟩ rfl (by decide) (by decide) rfl (Nat.le_of_ble_eq_true rfl) dX7_box_65) (fun r2 S1 h => ?_)
  refine x_sub [] rfl ?_
  exact w_X7_box_68 V S1 r2 h
set_option maxHeartbeats 2000000 in
set_option maxRecDepth 20000 in
theorem w_X7_box_53 {g : xG} {D : va_G} {cy : Nat → ClassId} {ad : Nat → Nat → Nat} {a2 : Int32} {Q : Int64 → xS → Prop} (V : xEnv g D (xTys cy) (shM cy) ad RX7 cX7_box (some .long) 6 163 3 (xQl Q)) (S : xS) (s1 : Int32) (h : wp_X7_box_53 a2 Q S s1) : Wx g (xW D (shM cy) ad S) 53 [(2, .int a2)] [.int s1, .ref (ad 0 0)] := by
  obtain ⟨X, K, hi, hA, hR, E, hN⟩ := V
  have V := xEnv_mk X K hi hA hR E hN
  unfold wp_X7_box_53 at h
  refine x_iload_n X 0 dX7_box_53 rfl ?_
  refine x_iconst X (v := 2) dX7_box_54 (by decide) ?_
  obtain ⟨hy1, h⟩ := h
  refine x_irem X dX7_box_55 hy1 ?_
  refine x_iconst X (v := 1) dX7_box_56 (by decide) ?_
  refine x_icmp_ne X 64 dX7_box_57 (by decide) h (fun h => ?_) (fun h => ?_)
  · refine x_iconst X (v := 1) dX7_box_60 (by decide) ?_
    refine x_goto X 65 dX7_box_61 (by decide) ?_
    refine x_sub [] rfl ?_
    exact w_X7_box_65 V S s1 (1 : Int32) h
  · refine x_iconst X (v := 0) dX7_box_64 (by decide) ?_
    refine x_sub [] rfl ?_
    exact w_X7_box_65 V S s1 (0 : Int32) h
set_option maxHeartbeats 2000000 in
set_option maxRecDepth 20000 in
theorem w_X7_box {g : xG} {D : va_G} {cy : Nat → ClassId} {ad : Nat → Nat → Nat} {a1 : Int32} {a2 : Int32} {S : xS} {Q : Int64 → xS → Prop} (V : xEnv g D (xTys cy) (shM cy) ad RX7 cX7_box (some .long) 6 163 3 (xQl Q)) (h : wp_X7_box a1 a2 S Q) : Wx g (xW D (shM cy) ad S) 0 [(0, .ref (ad 0 0)), (1, .int a1), (2, .int a2)] [] := by
  obtain ⟨X, K, hi, hA, hR, E, hN⟩ := V
  have V := xEnv_mk X K hi hA hR E hN
  unfold wp_X7_box at h
  refine x_aload_n X 0 dX7_box_0 rfl ?_
  refine x_iload_n X 1 dX7_box_1 rfl ?_
  refine x_calli hA (x_runV (n := 1) (sh := shM cy) X K hR (fun _ q => q) (m_X7_noGlyph hi  h) (kM_0 cy Nat.zero_lt_one) rfl rfl t4_199 t4_201 tp_30 t1_8 t4_202 ⟨by decide, by decide, by decide +kernel⟩ rfl (by decide) (by decide) rfl (Nat.le_of_ble_eq_true rfl) dX7_box_2) (fun r2 S1 h => ?_)
  refine x_if_ne X 20 dX7_box_5 (by decide) h (fun h => ?_) (fun h => ?_)
  · refine x_iload_n X 2 dX7_box_8 rfl ?_
    refine x_i2l X dX7_box_9 ?_
    refine x_lconst X (v := 0) dX7_box_10 (by decide) ?_
    refine x_ldc2 X (v := 3) t5_86 dX7_box_11 ?_
    refine x_calli hA (x_runS (n := 3) X K hR (fun _ q => q) (m_X7_in hi  h) t4_135 t4_136 t1_8 t4_137 ⟨by decide, by decide, by decide +kernel⟩ rfl (by decide) (by decide) rfl (Nat.le_of_ble_eq_true rfl) dX7_box_14) (fun r4 S3 h => ?_)
    refine x_if_ne X 24 dX7_box_17 (by decide) h (fun h => ?_) (fun h => ?_)
    · refine x_sub [] rfl ?_
      exact w_X7_box_20 V S3 h
    · refine x_aload_n X 0 dX7_box_24 rfl ?_
      refine x_iload_n X 1 dX7_box_25 rfl ?_
      refine x_callv hA (x_runV (n := 1) (sh := shM cy) X K hR (fun _ q => q) (m_X7_layOutline hi  h) (kM_0 cy Nat.zero_lt_one) rfl rfl t5_103 t5_105 tp_48 t1_8 t5_106 ⟨by decide, by decide, by decide +kernel⟩ rfl (by decide) (by decide) rfl (Nat.le_of_ble_eq_true rfl) dX7_box_26) (fun S5 h => ?_)
      refine x_aload_n X 0 dX7_box_29 rfl ?_
      refine xg_X7_251 X K Nat.zero_lt_one dX7_box_30 ?_
      refine x_if_ne X 42 dX7_box_33 (by decide) h (fun h => ?_) (fun h => ?_)
      · refine x_calll hA (x_runS (n := 0) X K hR (fun _ q => q) (m_X7_lost hi  h) t5_87 t5_88 t1_8 t5_89 ⟨by decide, by decide, by decide +kernel⟩ rfl (by decide) (by decide) rfl (Nat.le_of_ble_eq_true rfl) dX7_box_36) (fun r8 S7 h => ?_)
        refine x_goto X 68 dX7_box_39 (by decide) ?_
        refine x_sub [] rfl ?_
        exact w_X7_box_68 V S7 r8 h
      · refine x_aload_n X 0 dX7_box_42 rfl ?_
        refine x_iload_n X 2 dX7_box_43 rfl ?_
        refine x_iconst X (v := 1) dX7_box_44 (by decide) ?_
        refine x_icmp_le X 52 dX7_box_45 (by decide) h (fun h => ?_) (fun h => ?_)
        · refine x_iconst X (v := 0) dX7_box_52 (by decide) ?_
          refine x_sub [2] rfl ?_
          exact w_X7_box_53 V S5 (0 : Int32) h
        · refine x_iconst X (v := 1) dX7_box_48 (by decide) ?_
          refine x_goto X 53 dX7_box_49 (by decide) ?_
          refine x_sub [2] rfl ?_
          exact w_X7_box_53 V S5 (1 : Int32) h
  · refine x_sub [] rfl ?_
    exact w_X7_box_20 V S1 h
set_option maxHeartbeats 2000000 in
set_option maxRecDepth 20000 in
theorem m_X7_box {l : Launch} {D : va_G} {cy : Nat → ClassId} {ad : Nat → Nat → Nat} (hi : xInj (shM cy) ad) {a1 : Int32} {a2 : Int32} {S : xS} {Q : Int64 → xS → Prop} (h : wp_X7_box a1 a2 S Q) : xMet l D (xTys cy) (shM cy) ad yX7_box cX7_box 3 (some .long) (xRm 6 163) [.ref (ad 0 0), .int a1, .int a2] S (xQl Q) := xMet_env hi (by decide +kernel) rfl (Nat.le_of_ble_eq_true rfl) (fun g hl V => w_X7_box V h)
set_option maxHeartbeats 2000000 in
set_option maxRecDepth 20000 in
theorem w_X7_middle_45 {g : xG} {D : va_G} {cy : Nat → ClassId} {ad : Nat → Nat → Nat} {Q : UInt32 → xS → Prop} (V : xEnv g D (xTys cy) (shM cy) ad RX7 cX7_middle (some .float) 6 163 3 (xQf Q)) (S : xS) (s0 : UInt32) (h : wp_X7_middle_45 Q S s0) : Wx g (xW D (shM cy) ad S) 45 [] [.float s0] := by
  obtain ⟨X, K, hi, hA, hR, E, hN⟩ := V
  have V := xEnv_mk X K hi hA hR E hN
  unfold wp_X7_middle_45 at h
  exact x_fret X E dX7_middle_45 ⟨_, rfl, h⟩
set_option maxHeartbeats 2000000 in
set_option maxRecDepth 20000 in
theorem w_X7_middle {g : xG} {D : va_G} {cy : Nat → ClassId} {ad : Nat → Nat → Nat} {a1 : Int32} {a2 : Int32} {S : xS} {Q : UInt32 → xS → Prop} (V : xEnv g D (xTys cy) (shM cy) ad RX7 cX7_middle (some .float) 6 163 3 (xQf Q)) (h : wp_X7_middle a1 a2 S Q) : Wx g (xW D (shM cy) ad S) 0 [(0, .ref (ad 0 0)), (1, .int a1), (2, .int a2)] [] := by
  obtain ⟨X, K, hi, hA, hR, E, hN⟩ := V
  have V := xEnv_mk X K hi hA hR E hN
  unfold wp_X7_middle at h
  refine x_aload_n X 0 dX7_middle_0 rfl ?_
  refine x_iload_n X 1 dX7_middle_1 rfl ?_
  refine x_calli hA (x_runV (n := 1) (sh := shM cy) X K hR (fun _ q => q) (m_X7_noGlyph hi  h) (kM_0 cy Nat.zero_lt_one) rfl rfl t4_199 t4_201 tp_30 t1_8 t4_202 ⟨by decide, by decide, by decide +kernel⟩ rfl (by decide) (by decide) rfl (Nat.le_of_ble_eq_true rfl) dX7_middle_2) (fun r2 S1 h => ?_)
  refine x_if_eq X 10 dX7_middle_5 (by decide) h (fun h => ?_) (fun h => ?_)
  · refine x_aload_n X 0 dX7_middle_10 rfl ?_
    refine x_iload_n X 1 dX7_middle_11 rfl ?_
    refine x_callv hA (x_runV (n := 1) (sh := shM cy) X K hR (fun _ q => q) (m_X7_layOutline hi  h) (kM_0 cy Nat.zero_lt_one) rfl rfl t5_103 t5_105 tp_48 t1_8 t5_106 ⟨by decide, by decide, by decide +kernel⟩ rfl (by decide) (by decide) rfl (Nat.le_of_ble_eq_true rfl) dX7_middle_12) (fun S3 h => ?_)
    refine x_aload_n X 0 dX7_middle_15 rfl ?_
    refine xg_X7_251 X K Nat.zero_lt_one dX7_middle_16 ?_
    refine x_if_ne X 26 dX7_middle_19 (by decide) h (fun h => ?_) (fun h => ?_)
    · refine x_fconst0 X dX7_middle_22 ?_
      refine x_goto X 45 dX7_middle_23 (by decide) ?_
      refine x_sub [] rfl ?_
      exact w_X7_middle_45 V S3 FP.fconst0 h
    · refine x_aload_n X 0 dX7_middle_26 rfl ?_
      refine x_iload_n X 2 dX7_middle_27 rfl ?_
      refine x_iconst X (v := 0) dX7_middle_28 (by decide) ?_
      refine x_calll hA (x_runV (n := 2) (sh := shM cy) X K hR (fun _ q => q) (m_X7_endOf hi  h) (kM_0 cy Nat.zero_lt_one) rfl rfl t5_111 t5_113 tp_49 t1_8 t5_114 ⟨by decide, by decide, by decide +kernel⟩ rfl (by decide) (by decide) rfl (Nat.le_of_ble_eq_true rfl) dX7_middle_29) (fun r6 S5 h => ?_)
      refine x_aload_n X 0 dX7_middle_32 rfl ?_
      refine x_iload_n X 2 dX7_middle_33 rfl ?_
      refine x_iconst X (v := 1) dX7_middle_34 (by decide) ?_
      refine x_calll hA (x_runV (n := 2) (sh := shM cy) X K hR (fun _ q => q) (m_X7_endOf hi  h) (kM_0 cy Nat.zero_lt_one) rfl rfl t5_111 t5_113 tp_49 t1_8 t5_114 ⟨by decide, by decide, by decide +kernel⟩ rfl (by decide) (by decide) rfl (Nat.le_of_ble_eq_true rfl) dX7_middle_35) (fun r8 S7 h => ?_)
      refine x_ladd X dX7_middle_38 ?_
      refine x_l2d X dX7_middle_39 ?_
      refine x_ldc2d X (v := 4611686018427387904) t5_119 dX7_middle_40 ?_
      refine x_ddiv X dX7_middle_43 (fun r9 hr9 => ?_)
      replace h := h r9 hr9
      refine x_d2f X dX7_middle_44 (fun r10 hr10 => ?_)
      replace h := h r10 hr10
      refine x_sub [] rfl ?_
      exact w_X7_middle_45 V S7 r10 h
  · refine x_fconst0 X dX7_middle_8 ?_
    exact x_fret X E dX7_middle_9 ⟨_, rfl, h⟩
set_option maxHeartbeats 2000000 in
set_option maxRecDepth 20000 in
theorem m_X7_middle {l : Launch} {D : va_G} {cy : Nat → ClassId} {ad : Nat → Nat → Nat} (hi : xInj (shM cy) ad) {a1 : Int32} {a2 : Int32} {S : xS} {Q : UInt32 → xS → Prop} (h : wp_X7_middle a1 a2 S Q) : xMet l D (xTys cy) (shM cy) ad yX7_middle cX7_middle 3 (some .float) (xRm 6 163) [.ref (ad 0 0), .int a1, .int a2] S (xQf Q) := xMet_env hi (by decide +kernel) rfl (Nat.le_of_ble_eq_true rfl) (fun g hl V => w_X7_middle V h)
set_option maxHeartbeats 2000000 in
set_option maxRecDepth 20000 in
theorem w_X7_areaOf_135 {g : xG} {D : va_G} {cy : Nat → ClassId} {ad : Nat → Nat → Nat} {a1 : Int32} {K8 : xS → Int64 → Int32 → Int32 → Prop} {Q : Int64 → xS → Prop} (V : xEnv g D (xTys cy) (shM cy) ad RX7 cX7_areaOf (some .long) 0 0 7 (xQl Q)) (hK8 : ∀ (S : xS) (v2 : Int64) (v4 : Int32) (v5 : Int32), K8 S v2 v4 v5 → Wx g (xW D (shM cy) ad S) 8 [(0, .ref (ad 0 0)), (1, .int a1), (2, .long v2), (4, .int v4), (5, .int v5)] []) (S : xS) (v4 : Int32) (v5 : Int32) (s0 : Int64) (s1 : Int64) (h : wp_X7_areaOf_135 a1 K8 Q S v4 v5 s0 s1) : Wx g (xW D (shM cy) ad S) 135 [(0, .ref (ad 0 0)), (1, .int a1), (4, .int v4), (5, .int v5)] [.long s1, .long s0] := by
  obtain ⟨X, K, hi, hA, hR, E, hN⟩ := V
  have V := xEnv_mk X K hi hA hR E hN
  unfold wp_X7_areaOf_135 at h
  refine x_ladd X dX7_areaOf_135 ?_
  refine x_lstore_n X [(2, .long (s0 + s1)), (0, .ref (ad 0 0)), (1, .int a1), (4, .int v4), (5, .int v5)] dX7_areaOf_136 (by rw [hN]; decide) rfl ?_
  refine x_iinc X 4 [(5, .int (v5 + (1 : Int32))), (2, .long (s0 + s1)), (0, .ref (ad 0 0)), (1, .int a1), (4, .int v4)] dX7_areaOf_137 rfl rfl (by rw [hN]; decide) rfl ?_
  refine x_goto X 8 dX7_areaOf_140 (by decide) ?_
  refine x_sub [2, 3, 1, 4, 0] rfl ?_
  exact hK8 S (s0 + s1) v4 (v5 + (1 : Int32)) h
set_option maxHeartbeats 2000000 in
set_option maxRecDepth 20000 in
theorem w_X7_areaOf_100 {g : xG} {D : va_G} {cy : Nat → ClassId} {ad : Nat → Nat → Nat} {a1 : Int32} {K8 : xS → Int64 → Int32 → Int32 → Prop} {Q : Int64 → xS → Prop} (V : xEnv g D (xTys cy) (shM cy) ad RX7 cX7_areaOf (some .long) 0 0 7 (xQl Q)) (hK8 : ∀ (S : xS) (v2 : Int64) (v4 : Int32) (v5 : Int32), K8 S v2 v4 v5 → Wx g (xW D (shM cy) ad S) 8 [(0, .ref (ad 0 0)), (1, .int a1), (2, .long v2), (4, .int v4), (5, .int v5)] []) (S : xS) (v4 : Int32) (v5 : Int32) (v6 : Int32) (s0 : Int64) (h : wp_X7_areaOf_100 a1 K8 Q S v4 v5 v6 s0) : Wx g (xW D (shM cy) ad S) 100 [(0, .ref (ad 0 0)), (1, .int a1), (4, .int v4), (5, .int v5), (6, .int v6)] [.long s0] := by
  obtain ⟨X, K, hi, hA, hR, E, hN⟩ := V
  have V := xEnv_mk X K hi hA hR E hN
  unfold wp_X7_areaOf_100 at h
  refine x_aload_n X 0 dX7_areaOf_100 rfl ?_
  refine xg_X7_44 X K (Nat.zero_lt_one) dX7_areaOf_101 ?_
  refine x_iload X 3 dX7_areaOf_104 rfl ?_
  obtain ⟨hb1, h⟩ := h
  refine xa_M16 X K (show 0 < 1 by decide) hb1 dX7_areaOf_106 ?_
  refine x_aload_n X 0 dX7_areaOf_107 rfl ?_
  refine xg_X7_48 X K (Nat.zero_lt_one) dX7_areaOf_108 ?_
  refine x_iload X 4 dX7_areaOf_111 rfl ?_
  obtain ⟨hb2, h⟩ := h
  refine xa_M17 X K (show 0 < 1 by decide) hb2 dX7_areaOf_113 ?_
  refine x_lmul X dX7_areaOf_114 ?_
  refine x_aload_n X 0 dX7_areaOf_115 rfl ?_
  refine xg_X7_44 X K (Nat.zero_lt_one) dX7_areaOf_116 ?_
  refine x_iload X 4 dX7_areaOf_119 rfl ?_
  obtain ⟨hb3, h⟩ := h
  refine xa_M16 X K (show 0 < 1 by decide) hb3 dX7_areaOf_121 ?_
  refine x_aload_n X 0 dX7_areaOf_122 rfl ?_
  refine xg_X7_48 X K (Nat.zero_lt_one) dX7_areaOf_123 ?_
  refine x_iload X 3 dX7_areaOf_126 rfl ?_
  obtain ⟨hb4, h⟩ := h
  refine xa_M17 X K (show 0 < 1 by decide) hb4 dX7_areaOf_128 ?_
  refine x_lmul X dX7_areaOf_129 ?_
  refine x_lsub X dX7_areaOf_130 ?_
  refine x_goto X 135 dX7_areaOf_131 (by decide) ?_
  refine x_sub [0, 1, 2, 3] rfl ?_
  exact w_X7_areaOf_135 V hK8 S v4 v5 s0 (((S.2.1 16 0 v5.toNatClampNeg) * (S.2.1 17 0 v6.toNatClampNeg)) - ((S.2.1 16 0 v6.toNatClampNeg) * (S.2.1 17 0 v5.toNatClampNeg))) h
set_option maxHeartbeats 2000000 in
set_option maxRecDepth 20000 in
theorem w_X7_areaOf_82 {g : xG} {D : va_G} {cy : Nat → ClassId} {ad : Nat → Nat → Nat} {a1 : Int32} {K8 : xS → Int64 → Int32 → Int32 → Prop} {Q : Int64 → xS → Prop} (V : xEnv g D (xTys cy) (shM cy) ad RX7 cX7_areaOf (some .long) 0 0 7 (xQl Q)) (hK8 : ∀ (S : xS) (v2 : Int64) (v4 : Int32) (v5 : Int32), K8 S v2 v4 v5 → Wx g (xW D (shM cy) ad S) 8 [(0, .ref (ad 0 0)), (1, .int a1), (2, .long v2), (4, .int v4), (5, .int v5)] []) (S : xS) (v2 : Int64) (v4 : Int32) (v5 : Int32) (s0 : Int32) (h : wp_X7_areaOf_82 a1 K8 Q S v2 v4 v5 s0) : Wx g (xW D (shM cy) ad S) 82 [(0, .ref (ad 0 0)), (1, .int a1), (2, .long v2), (4, .int v4), (5, .int v5)] [.int s0] := by
  obtain ⟨X, K, hi, hA, hR, E, hN⟩ := V
  have V := xEnv_mk X K hi hA hR E hN
  unfold wp_X7_areaOf_82 at h
  refine x_istore X [(6, .int s0), (0, .ref (ad 0 0)), (1, .int a1), (2, .long v2), (4, .int v4), (5, .int v5)] dX7_areaOf_82 (by rw [hN]; decide) rfl ?_
  refine x_lload_n X 3 dX7_areaOf_84 rfl ?_
  refine x_iload_n X 2 dX7_areaOf_85 rfl ?_
  refine x_if_lt X 100 dX7_areaOf_86 (by decide) h (fun h => ?_) (fun h => ?_)
  · refine x_sub [1, 2, 4, 5, 0] rfl ?_
    exact w_X7_areaOf_100 V hK8 S v4 v5 s0 v2 h
  · refine x_aload_n X 1 dX7_areaOf_89 rfl ?_
    refine xg_X7_51 X K (Nat.zero_lt_one) dX7_areaOf_90 ?_
    refine x_iload X 5 dX7_areaOf_93 rfl ?_
    obtain ⟨hb1, h⟩ := h
    refine xa_M18 X K (show 0 < 1 by decide) hb1 dX7_areaOf_95 ?_
    refine x_iload_n X 2 dX7_areaOf_96 rfl ?_
    refine x_icmp_ne X 134 dX7_areaOf_97 (by decide) h (fun h => ?_) (fun h => ?_)
    · refine x_sub [1, 2, 4, 5, 0] rfl ?_
      exact w_X7_areaOf_100 V hK8 S v4 v5 s0 v2 h
    · refine x_lconst X (v := 0) dX7_areaOf_134 (by decide) ?_
      refine x_sub [1, 2, 4, 5] rfl ?_
      exact w_X7_areaOf_135 V hK8 S v4 v5 v2 (0 : Int64) h
set_option maxHeartbeats 2000000 in
set_option maxRecDepth 20000 in
theorem w_X7_areaOf_80 {g : xG} {D : va_G} {cy : Nat → ClassId} {ad : Nat → Nat → Nat} {a1 : Int32} {K8 : xS → Int64 → Int32 → Int32 → Prop} {Q : Int64 → xS → Prop} (V : xEnv g D (xTys cy) (shM cy) ad RX7 cX7_areaOf (some .long) 0 0 7 (xQl Q)) (hK8 : ∀ (S : xS) (v2 : Int64) (v4 : Int32) (v5 : Int32), K8 S v2 v4 v5 → Wx g (xW D (shM cy) ad S) 8 [(0, .ref (ad 0 0)), (1, .int a1), (2, .long v2), (4, .int v4), (5, .int v5)] []) (S : xS) (v2 : Int64) (v4 : Int32) (v5 : Int32) (h : wp_X7_areaOf_80 a1 K8 Q S v2 v4 v5) : Wx g (xW D (shM cy) ad S) 80 [(0, .ref (ad 0 0)), (1, .int a1), (2, .long v2), (4, .int v4), (5, .int v5)] [] := by
  obtain ⟨X, K, hi, hA, hR, E, hN⟩ := V
  have V := xEnv_mk X K hi hA hR E hN
  unfold wp_X7_areaOf_80 at h
  refine x_iload X 3 dX7_areaOf_80 rfl ?_
  refine x_sub [0, 1, 2, 3, 4] rfl ?_
  exact w_X7_areaOf_82 V hK8 S v2 v4 v5 v4 h
set_option maxHeartbeats 2000000 in
set_option maxRecDepth 20000 in
theorem w_X7_areaOf_41 {g : xG} {D : va_G} {cy : Nat → ClassId} {ad : Nat → Nat → Nat} {a1 : Int32} {K8 : xS → Int64 → Int32 → Int32 → Prop} {Q : Int64 → xS → Prop} (V : xEnv g D (xTys cy) (shM cy) ad RX7 cX7_areaOf (some .long) 0 0 7 (xQl Q)) (hK8 : ∀ (S : xS) (v2 : Int64) (v4 : Int32) (v5 : Int32), K8 S v2 v4 v5 → Wx g (xW D (shM cy) ad S) 8 [(0, .ref (ad 0 0)), (1, .int a1), (2, .long v2), (4, .int v4), (5, .int v5)] []) (S : xS) (v2 : Int64) (v5 : Int32) (s0 : Int32) (h : wp_X7_areaOf_41 a1 K8 Q S v2 v5 s0) : Wx g (xW D (shM cy) ad S) 41 [(0, .ref (ad 0 0)), (1, .int a1), (2, .long v2), (5, .int v5)] [.int s0] := by
  obtain ⟨X, K, hi, hA, hR, E, hN⟩ := V
  have V := xEnv_mk X K hi hA hR E hN
  unfold wp_X7_areaOf_41 at h
  refine x_istore X [(4, .int s0), (0, .ref (ad 0 0)), (1, .int a1), (2, .long v2), (5, .int v5)] dX7_areaOf_41 (by rw [hN]; decide) rfl ?_
  refine x_iload X 4 dX7_areaOf_43 rfl ?_
  refine x_iconst X (v := 1) dX7_areaOf_45 (by decide) ?_
  refine x_iadd X dX7_areaOf_46 ?_
  refine x_aload_n X 1 dX7_areaOf_47 rfl ?_
  refine xg_X7_251 X K (Nat.zero_lt_one) dX7_areaOf_48 ?_
  refine x_icmp_ge X 80 dX7_areaOf_51 (by decide) h (fun h => ?_) (fun h => ?_)
  · refine x_sub [1, 2, 3, 0, 4] rfl ?_
    exact w_X7_areaOf_80 V hK8 S v2 s0 v5 h
  · refine x_aload_n X 1 dX7_areaOf_54 rfl ?_
    refine xg_X7_51 X K (Nat.zero_lt_one) dX7_areaOf_55 ?_
    refine x_iload X 4 dX7_areaOf_58 rfl ?_
    refine x_iconst X (v := 1) dX7_areaOf_60 (by decide) ?_
    refine x_iadd X dX7_areaOf_61 ?_
    obtain ⟨hb1, h⟩ := h
    refine xa_M18 X K (show 0 < 1 by decide) hb1 dX7_areaOf_62 ?_
    refine x_aload_n X 1 dX7_areaOf_63 rfl ?_
    refine xg_X7_51 X K (Nat.zero_lt_one) dX7_areaOf_64 ?_
    refine x_iload X 4 dX7_areaOf_67 rfl ?_
    obtain ⟨hb2, h⟩ := h
    refine xa_M18 X K (show 0 < 1 by decide) hb2 dX7_areaOf_69 ?_
    refine x_icmp_ne X 80 dX7_areaOf_70 (by decide) h (fun h => ?_) (fun h => ?_)
    · refine x_iload X 4 dX7_areaOf_73 rfl ?_
      refine x_iconst X (v := 1) dX7_areaOf_75 (by decide) ?_
      refine x_iadd X dX7_areaOf_76 ?_
      refine x_goto X 82 dX7_areaOf_77 (by decide) ?_
      refine x_sub [1, 2, 3, 0, 4] rfl ?_
      exact w_X7_areaOf_82 V hK8 S v2 s0 v5 (v5 + (1 : Int32)) h
    · refine x_sub [1, 2, 3, 0, 4] rfl ?_
      exact w_X7_areaOf_80 V hK8 S v2 s0 v5 h
set_option maxHeartbeats 2000000 in
set_option maxRecDepth 20000 in
theorem w_X7_areaOf_8_b {g : xG} {D : va_G} {cy : Nat → ClassId} {ad : Nat → Nat → Nat} {a1 : Int32} {K8 : xS → Int64 → Int32 → Int32 → Prop} {Q : Int64 → xS → Prop} (V : xEnv g D (xTys cy) (shM cy) ad RX7 cX7_areaOf (some .long) 0 0 7 (xQl Q)) (hK8 : ∀ (S : xS) (v2 : Int64) (v4 : Int32) (v5 : Int32), K8 S v2 v4 v5 → Wx g (xW D (shM cy) ad S) 8 [(0, .ref (ad 0 0)), (1, .int a1), (2, .long v2), (4, .int v4), (5, .int v5)] []) (S : xS) (v2 : Int64) (v4 : Int32) (v5 : Int32) (h : wp_X7_areaOf_8_b a1 K8 Q S v2 v4 v5) : Wx g (xW D (shM cy) ad S) 8 [(0, .ref (ad 0 0)), (1, .int a1), (2, .long v2), (4, .int v4), (5, .int v5)] [] := by
  obtain ⟨X, K, hi, hA, hR, E, hN⟩ := V
  have V := xEnv_mk X K hi hA hR E hN
  unfold wp_X7_areaOf_8_b at h
  refine x_iload X 4 dX7_areaOf_8 rfl ?_
  refine x_aload_n X 0 dX7_areaOf_10 rfl ?_
  refine xg_X7_251 X K (Nat.zero_lt_one) dX7_areaOf_11 ?_
  refine x_icmp_ge X 143 dX7_areaOf_14 (by decide) h (fun h => ?_) (fun h => ?_)
  · refine x_lload_n X 2 dX7_areaOf_143 rfl ?_
    exact x_lret X E dX7_areaOf_144 ⟨_, rfl, h⟩
  · refine x_aload_n X 0 dX7_areaOf_17 rfl ?_
    refine xg_X7_51 X K (Nat.zero_lt_one) dX7_areaOf_18 ?_
    refine x_iload X 4 dX7_areaOf_21 rfl ?_
    obtain ⟨hb1, h⟩ := h
    refine xa_M18 X K (show 0 < 1 by decide) hb1 dX7_areaOf_23 ?_
    refine x_aload_n X 0 dX7_areaOf_24 rfl ?_
    refine xg_X7_51 X K (Nat.zero_lt_one) dX7_areaOf_25 ?_
    refine x_iload X 3 dX7_areaOf_28 rfl ?_
    obtain ⟨hb2, h⟩ := h
    refine xa_M18 X K (show 0 < 1 by decide) hb2 dX7_areaOf_30 ?_
    refine x_icmp_ne X 39 dX7_areaOf_31 (by decide) h (fun h => ?_) (fun h => ?_)
    · refine x_iload X 3 dX7_areaOf_34 rfl ?_
      refine x_goto X 41 dX7_areaOf_36 (by decide) ?_
      refine x_sub [0, 1, 2, 4] rfl ?_
      exact w_X7_areaOf_41 V hK8 S v2 v5 v4 h
    · refine x_iload X 4 dX7_areaOf_39 rfl ?_
      refine x_sub [0, 1, 2, 4] rfl ?_
      exact w_X7_areaOf_41 V hK8 S v2 v5 v5 h
set_option maxHeartbeats 2000000 in
set_option maxRecDepth 20000 in
theorem w_X7_areaOf_8 {g : xG} {D : va_G} {cy : Nat → ClassId} {ad : Nat → Nat → Nat} {a1 : Int32} {Q : Int64 → xS → Prop} (V : xEnv g D (xTys cy) (shM cy) ad RX7 cX7_areaOf (some .long) 0 0 7 (xQl Q)) (n : Nat) : ∀ (S : xS) (v2 : Int64) (v4 : Int32) (v5 : Int32), wp_X7_areaOf_8 a1 Q n S v2 v4 v5 → Wx g (xW D (shM cy) ad S) 8 [(0, .ref (ad 0 0)), (1, .int a1), (2, .long v2), (4, .int v4), (5, .int v5)] [] := by
  induction n with
  | zero => intro S v2 v4 v5 h; exact h.elim
  | succ n ih => intro S v2 v4 v5 h; exact w_X7_areaOf_8_b V (fun S v2 v4 v5 h => ih S v2 v4 v5 h) S v2 v4 v5 h
set_option maxHeartbeats 2000000 in
set_option maxRecDepth 20000 in
theorem w_X7_areaOf {g : xG} {D : va_G} {cy : Nat → ClassId} {ad : Nat → Nat → Nat} {a1 : Int32} {S : xS} {Q : Int64 → xS → Prop} (V : xEnv g D (xTys cy) (shM cy) ad RX7 cX7_areaOf (some .long) 0 0 7 (xQl Q)) (h : wp_X7_areaOf a1 S Q) : Wx g (xW D (shM cy) ad S) 0 [(0, .ref (ad 0 0)), (1, .int a1)] [] := by
  obtain ⟨X, K, hi, hA, hR, E, hN⟩ := V
  have V := xEnv_mk X K hi hA hR E hN
  unfold wp_X7_areaOf at h
  refine x_lconst X (v := 0) dX7_areaOf_0 (by decide) ?_
  refine x_lstore_n X [(2, .long (0 : Int64)), (0, .ref (ad 0 0)), (1, .int a1)] dX7_areaOf_1 (by rw [hN]; decide) rfl ?_
  refine x_iconst X (v := 0) dX7_areaOf_2 (by decide) ?_
  refine x_istore X [(4, .int (0 : Int32)), (2, .long (0 : Int64)), (0, .ref (ad 0 0)), (1, .int a1)] dX7_areaOf_3 (by rw [hN]; decide) rfl ?_
  refine x_iconst X (v := 0) dX7_areaOf_5 (by decide) ?_
  refine x_istore X [(5, .int (0 : Int32)), (4, .int (0 : Int32)), (2, .long (0 : Int64)), (0, .ref (ad 0 0)), (1, .int a1)] dX7_areaOf_6 (by rw [hN]; decide) rfl ?_
  refine x_sub [3, 4, 2, 1, 0] rfl ?_
  obtain ⟨n1, h⟩ := h
  exact w_X7_areaOf_8 V n1 S (0 : Int64) (0 : Int32) (0 : Int32) h
set_option maxHeartbeats 2000000 in
set_option maxRecDepth 20000 in
theorem m_X7_areaOf {l : Launch} {D : va_G} {cy : Nat → ClassId} {ad : Nat → Nat → Nat} (hi : xInj (shM cy) ad) {a1 : Int32} {S : xS} {Q : Int64 → xS → Prop} (h : wp_X7_areaOf a1 S Q) : xMet l D (xTys cy) (shM cy) ad yX7_areaOf cX7_areaOf 7 (some .long) (xRm 0 0) [.ref (ad 0 0), .int a1] S (xQl Q) := xMet_env hi (by decide +kernel) rfl (Nat.le_of_ble_eq_true rfl) (fun g hl V => w_X7_areaOf V h)
set_option maxHeartbeats 2000000 in
set_option maxRecDepth 20000 in
theorem w_X7_area_46 {g : xG} {D : va_G} {cy : Nat → ClassId} {ad : Nat → Nat → Nat} {Q : Int64 → xS → Prop} (V : xEnv g D (xTys cy) (shM cy) ad RX7 cX7_area (some .long) 6 163 3 (xQl Q)) (S : xS) (s0 : Int64) (h : wp_X7_area_46 Q S s0) : Wx g (xW D (shM cy) ad S) 46 [] [.long s0] := by
  obtain ⟨X, K, hi, hA, hR, E, hN⟩ := V
  have V := xEnv_mk X K hi hA hR E hN
  unfold wp_X7_area_46 at h
  exact x_lret X E dX7_area_46 ⟨_, rfl, h⟩
set_option maxHeartbeats 2000000 in
set_option maxRecDepth 20000 in
theorem w_X7_area {g : xG} {D : va_G} {cy : Nat → ClassId} {ad : Nat → Nat → Nat} {a1 : Int32} {a2 : Int32} {S : xS} {Q : Int64 → xS → Prop} (V : xEnv g D (xTys cy) (shM cy) ad RX7 cX7_area (some .long) 6 163 3 (xQl Q)) (h : wp_X7_area a1 a2 S Q) : Wx g (xW D (shM cy) ad S) 0 [(0, .ref (ad 0 0)), (1, .int a1), (2, .int a2)] [] := by
  obtain ⟨X, K, hi, hA, hR, E, hN⟩ := V
  have V := xEnv_mk X K hi hA hR E hN
  unfold wp_X7_area at h
  refine x_aload_n X 0 dX7_area_0 rfl ?_
  refine x_iload_n X 1 dX7_area_1 rfl ?_
  refine x_calli hA (x_runV (n := 1) (sh := shM cy) X K hR (fun _ q => q) (m_X7_noGlyph hi  h) (kM_0 cy Nat.zero_lt_one) rfl rfl t4_199 t4_201 tp_30 t1_8 t4_202 ⟨by decide, by decide, by decide +kernel⟩ rfl (by decide) (by decide) rfl (Nat.le_of_ble_eq_true rfl) dX7_area_2) (fun r2 S1 h => ?_)
  refine x_if_eq X 12 dX7_area_5 (by decide) h (fun h => ?_) (fun h => ?_)
  · refine x_aload_n X 0 dX7_area_12 rfl ?_
    refine x_iload_n X 1 dX7_area_13 rfl ?_
    refine x_callv hA (x_runV (n := 1) (sh := shM cy) X K hR (fun _ q => q) (m_X7_layOutline hi  h) (kM_0 cy Nat.zero_lt_one) rfl rfl t5_103 t5_105 tp_48 t1_8 t5_106 ⟨by decide, by decide, by decide +kernel⟩ rfl (by decide) (by decide) rfl (Nat.le_of_ble_eq_true rfl) dX7_area_14) (fun S3 h => ?_)
    refine x_iload_n X 2 dX7_area_17 rfl ?_
    refine x_i2l X dX7_area_18 ?_
    refine x_ldc2 X (v := -1) t5_24 dX7_area_19 ?_
    refine x_aload_n X 0 dX7_area_22 rfl ?_
    refine xg_X7_254 X K Nat.zero_lt_one dX7_area_23 ?_
    refine x_i2l X dX7_area_26 ?_
    refine x_lconst X (v := 1) dX7_area_27 (by decide) ?_
    refine x_lsub X dX7_area_28 ?_
    refine x_calli hA (x_runS (n := 3) X K hR (fun _ q => q) (m_X7_in hi  h) t4_135 t4_136 t1_8 t4_137 ⟨by decide, by decide, by decide +kernel⟩ rfl (by decide) (by decide) rfl (Nat.le_of_ble_eq_true rfl) dX7_area_29) (fun r6 S5 h => ?_)
    refine x_if_eq X 43 dX7_area_32 (by decide) h (fun h => ?_) (fun h => ?_)
    · refine x_calll hA (x_runS (n := 0) X K hR (fun _ q => q) (m_X7_lost hi  h) t5_87 t5_88 t1_8 t5_89 ⟨by decide, by decide, by decide +kernel⟩ rfl (by decide) (by decide) rfl (Nat.le_of_ble_eq_true rfl) dX7_area_43) (fun r8 S7 h => ?_)
      refine x_sub [] rfl ?_
      exact w_X7_area_46 V S7 r8 h
    · refine x_aload_n X 0 dX7_area_35 rfl ?_
      refine x_iload_n X 2 dX7_area_36 rfl ?_
      refine x_calll hA (x_runV (n := 1) (sh := shM cy) X K hR (fun _ q => q) (m_X7_areaOf hi  h) (kM_0 cy Nat.zero_lt_one) rfl rfl t5_124 t5_126 tp_50 t1_8 t5_127 ⟨by decide, by decide, by decide +kernel⟩ rfl (by decide) (by decide) rfl (Nat.le_of_ble_eq_true rfl) dX7_area_37) (fun r10 S9 h => ?_)
      refine x_goto X 46 dX7_area_40 (by decide) ?_
      refine x_sub [] rfl ?_
      exact w_X7_area_46 V S9 r10 h
  · refine x_calll hA (x_runS (n := 0) X K hR (fun _ q => q) (m_X7_lost hi  h) t5_87 t5_88 t1_8 t5_89 ⟨by decide, by decide, by decide +kernel⟩ rfl (by decide) (by decide) rfl (Nat.le_of_ble_eq_true rfl) dX7_area_8) (fun r12 S11 h => ?_)
    exact x_lret X E dX7_area_11 ⟨_, rfl, h⟩
set_option maxHeartbeats 2000000 in
set_option maxRecDepth 20000 in
theorem m_X7_area {l : Launch} {D : va_G} {cy : Nat → ClassId} {ad : Nat → Nat → Nat} (hi : xInj (shM cy) ad) {a1 : Int32} {a2 : Int32} {S : xS} {Q : Int64 → xS → Prop} (h : wp_X7_area a1 a2 S Q) : xMet l D (xTys cy) (shM cy) ad yX7_area cX7_area 3 (some .long) (xRm 6 163) [.ref (ad 0 0), .int a1, .int a2] S (xQl Q) := xMet_env hi (by decide +kernel) rfl (Nat.le_of_ble_eq_true rfl) (fun g hl V => w_X7_area V h)
set_option maxHeartbeats 2000000 in
set_option maxRecDepth 20000 in
theorem w_X7_sign_21 {g : xG} {D : va_G} {cy : Nat → ClassId} {ad : Nat → Nat → Nat} {Q : Int32 → xS → Prop} (V : xEnv g D (xTys cy) (shM cy) ad RX7 cX7_sign (some .int) 0 0 2 (xQi Q)) (S : xS) (s0 : Int32) (h : wp_X7_sign_21 Q S s0) : Wx g (xW D (shM cy) ad S) 21 [] [.int s0] := by
  obtain ⟨X, K, hi, hA, hR, E, hN⟩ := V
  have V := xEnv_mk X K hi hA hR E hN
  unfold wp_X7_sign_21 at h
  exact x_iret X E dX7_sign_21 ⟨_, rfl, h⟩
set_option maxHeartbeats 2000000 in
set_option maxRecDepth 20000 in
theorem w_X7_sign {g : xG} {D : va_G} {cy : Nat → ClassId} {ad : Nat → Nat → Nat} {a0 : Int64} {S : xS} {Q : Int32 → xS → Prop} (V : xEnv g D (xTys cy) (shM cy) ad RX7 cX7_sign (some .int) 0 0 2 (xQi Q)) (h : wp_X7_sign a0 S Q) : Wx g (xW D (shM cy) ad S) 0 [(0, .long a0)] [] := by
  obtain ⟨X, K, hi, hA, hR, E, hN⟩ := V
  have V := xEnv_mk X K hi hA hR E hN
  unfold wp_X7_sign at h
  refine x_lload_n X 0 dX7_sign_0 rfl ?_
  refine x_lconst X (v := 0) dX7_sign_1 (by decide) ?_
  refine x_lcmp X dX7_sign_2 ?_
  refine x_if_le X 10 dX7_sign_3 (by decide) h (fun h => ?_) (fun h => ?_)
  · refine x_lload_n X 0 dX7_sign_10 rfl ?_
    refine x_lconst X (v := 0) dX7_sign_11 (by decide) ?_
    refine x_lcmp X dX7_sign_12 ?_
    refine x_if_ge X 20 dX7_sign_13 (by decide) h (fun h => ?_) (fun h => ?_)
    · refine x_iconst X (v := 0) dX7_sign_20 (by decide) ?_
      refine x_sub [] rfl ?_
      exact w_X7_sign_21 V S (0 : Int32) h
    · refine x_iconst X (v := -1) dX7_sign_16 (by decide) ?_
      refine x_goto X 21 dX7_sign_17 (by decide) ?_
      refine x_sub [] rfl ?_
      exact w_X7_sign_21 V S (-1 : Int32) h
  · refine x_iconst X (v := 1) dX7_sign_6 (by decide) ?_
    refine x_goto X 21 dX7_sign_7 (by decide) ?_
    refine x_sub [] rfl ?_
    exact w_X7_sign_21 V S (1 : Int32) h
set_option maxHeartbeats 2000000 in
set_option maxRecDepth 20000 in
theorem m_X7_sign {l : Launch} {D : va_G} {cy : Nat → ClassId} {ad : Nat → Nat → Nat} (hi : xInj (shM cy) ad) {a0 : Int64} {S : xS} {Q : Int32 → xS → Prop} (h : wp_X7_sign a0 S Q) : xMet l D (xTys cy) (shM cy) ad yX7_sign cX7_sign 2 (some .int) (xRm 0 0) [.long a0] S (xQi Q) := xMet_env hi (by decide +kernel) rfl (Nat.le_of_ble_eq_true rfl) (fun g hl V => w_X7_sign V h)
set_option maxHeartbeats 2000000 in
set_option maxRecDepth 20000 in
theorem w_X7_keepCoordinates_2_b {g : xG} {D : va_G} {cy : Nat → ClassId} {ad : Nat → Nat → Nat} {K2 : xS → Int32 → Prop} {Q : xS → Prop} (V : xEnv g D (xTys cy) (shM cy) ad RX7 cX7_keepCoordinates none 0 0 2 (xQv Q)) (hK2 : ∀ (S : xS) (v1 : Int32), K2 S v1 → Wx g (xW D (shM cy) ad S) 2 [(0, .ref (ad 0 0)), (1, .int v1)] []) (S : xS) (v1 : Int32) (h : wp_X7_keepCoordinates_2_b K2 Q S v1) : Wx g (xW D (shM cy) ad S) 2 [(0, .ref (ad 0 0)), (1, .int v1)] [] := by
  obtain ⟨X, K, hi, hA, hR, E, hN⟩ := V
  have V := xEnv_mk X K hi hA hR E hN
  unfold wp_X7_keepCoordinates_2_b at h
  refine x_iload_n X 1 dX7_keepCoordinates_2 rfl ?_
  refine x_iconst X (v := 4) dX7_keepCoordinates_3 (by decide) ?_
  refine x_icmp_ge X 25 dX7_keepCoordinates_4 (by decide) h (fun h => ?_) (fun h => ?_)
  · exact x_vret X E dX7_keepCoordinates_25 ⟨rfl, h⟩
  · refine x_aload_n X 0 dX7_keepCoordinates_7 rfl ?_
    refine xg_X7_66 X K (Nat.zero_lt_one) dX7_keepCoordinates_8 ?_
    refine x_iload_n X 1 dX7_keepCoordinates_11 rfl ?_
    refine x_aload_n X 0 dX7_keepCoordinates_12 rfl ?_
    refine xg_X7_19 X K (Nat.zero_lt_one) dX7_keepCoordinates_13 ?_
    refine x_iload_n X 1 dX7_keepCoordinates_16 rfl ?_
    obtain ⟨hb1, h⟩ := h
    refine xa_M5 X K (show 0 < 1 by decide) hb1 dX7_keepCoordinates_17 ?_
    obtain ⟨hb2, h⟩ := h
    refine xs_M23 X K hi hA (show 0 < 1 by decide) hb2 dX7_keepCoordinates_18 ?_
    refine x_iinc X 1 [(1, .int (v1 + (1 : Int32))), (0, .ref (ad 0 0))] dX7_keepCoordinates_19 rfl rfl (by rw [hN]; decide) rfl ?_
    refine x_goto X 2 dX7_keepCoordinates_22 (by decide) ?_
    refine x_sub [1, 0] rfl ?_
    exact hK2 (xI S 23 0 v1.toNatClampNeg (S.1 5 0 v1.toNatClampNeg)) (v1 + (1 : Int32)) h
set_option maxHeartbeats 2000000 in
set_option maxRecDepth 20000 in
theorem w_X7_keepCoordinates_2 {g : xG} {D : va_G} {cy : Nat → ClassId} {ad : Nat → Nat → Nat} {Q : xS → Prop} (V : xEnv g D (xTys cy) (shM cy) ad RX7 cX7_keepCoordinates none 0 0 2 (xQv Q)) (n : Nat) : ∀ (S : xS) (v1 : Int32), wp_X7_keepCoordinates_2 Q n S v1 → Wx g (xW D (shM cy) ad S) 2 [(0, .ref (ad 0 0)), (1, .int v1)] [] := by
  induction n with
  | zero => intro S v1 h; exact h.elim
  | succ n ih => intro S v1 h; exact w_X7_keepCoordinates_2_b V (fun S v1 h => ih S v1 h) S v1 h
set_option maxHeartbeats 2000000 in
set_option maxRecDepth 20000 in
theorem w_X7_keepCoordinates {g : xG} {D : va_G} {cy : Nat → ClassId} {ad : Nat → Nat → Nat} {S : xS} {Q : xS → Prop} (V : xEnv g D (xTys cy) (shM cy) ad RX7 cX7_keepCoordinates none 0 0 2 (xQv Q)) (h : wp_X7_keepCoordinates S Q) : Wx g (xW D (shM cy) ad S) 0 [(0, .ref (ad 0 0))] [] := by
  obtain ⟨X, K, hi, hA, hR, E, hN⟩ := V
  have V := xEnv_mk X K hi hA hR E hN
  unfold wp_X7_keepCoordinates at h
  refine x_iconst X (v := 0) dX7_keepCoordinates_0 (by decide) ?_
  refine x_istore_n X [(1, .int (0 : Int32)), (0, .ref (ad 0 0))] dX7_keepCoordinates_1 (by rw [hN]; decide) rfl ?_
  refine x_sub [1, 0] rfl ?_
  obtain ⟨n1, h⟩ := h
  exact w_X7_keepCoordinates_2 V n1 S (0 : Int32) h
set_option maxHeartbeats 2000000 in
set_option maxRecDepth 20000 in
theorem m_X7_keepCoordinates {l : Launch} {D : va_G} {cy : Nat → ClassId} {ad : Nat → Nat → Nat} (hi : xInj (shM cy) ad) {S : xS} {Q : xS → Prop} (h : wp_X7_keepCoordinates S Q) : xMet l D (xTys cy) (shM cy) ad yX7_keepCoordinates cX7_keepCoordinates 2 none (xRm 0 0) [.ref (ad 0 0)] S (xQv Q) := xMet_env hi (by decide +kernel) rfl (Nat.le_of_ble_eq_true rfl) (fun g hl V => w_X7_keepCoordinates V h)
set_option maxHeartbeats 2000000 in
set_option maxRecDepth 20000 in
theorem w_X7_takeCoordinates_2_b {g : xG} {D : va_G} {cy : Nat → ClassId} {ad : Nat → Nat → Nat} {K2 : xS → Int32 → Prop} {Q : xS → Prop} (V : xEnv g D (xTys cy) (shM cy) ad RX7 cX7_takeCoordinates none 0 0 2 (xQv Q)) (hK2 : ∀ (S : xS) (v1 : Int32), K2 S v1 → Wx g (xW D (shM cy) ad S) 2 [(0, .ref (ad 0 0)), (1, .int v1)] []) (S : xS) (v1 : Int32) (h : wp_X7_takeCoordinates_2_b K2 Q S v1) : Wx g (xW D (shM cy) ad S) 2 [(0, .ref (ad 0 0)), (1, .int v1)] [] := by
  obtain ⟨X, K, hi, hA, hR, E, hN⟩ := V
  have V := xEnv_mk X K hi hA hR E hN
  unfold wp_X7_takeCoordinates_2_b at h
  refine x_iload_n X 1 dX7_takeCoordinates_2 rfl ?_
  refine x_iconst X (v := 4) dX7_takeCoordinates_3 (by decide) ?_
  refine x_icmp_ge X 25 dX7_takeCoordinates_4 (by decide) h (fun h => ?_) (fun h => ?_)
  · exact x_vret X E dX7_takeCoordinates_25 ⟨rfl, h⟩
  · refine x_aload_n X 0 dX7_takeCoordinates_7 rfl ?_
    refine xg_X7_19 X K (Nat.zero_lt_one) dX7_takeCoordinates_8 ?_
    refine x_iload_n X 1 dX7_takeCoordinates_11 rfl ?_
    refine x_aload_n X 0 dX7_takeCoordinates_12 rfl ?_
    refine xg_X7_66 X K (Nat.zero_lt_one) dX7_takeCoordinates_13 ?_
    refine x_iload_n X 1 dX7_takeCoordinates_16 rfl ?_
    obtain ⟨hb1, h⟩ := h
    refine xa_M23 X K (show 0 < 1 by decide) hb1 dX7_takeCoordinates_17 ?_
    obtain ⟨hb2, h⟩ := h
    refine xs_M5 X K hi hA (show 0 < 1 by decide) hb2 dX7_takeCoordinates_18 ?_
    refine x_iinc X 1 [(1, .int (v1 + (1 : Int32))), (0, .ref (ad 0 0))] dX7_takeCoordinates_19 rfl rfl (by rw [hN]; decide) rfl ?_
    refine x_goto X 2 dX7_takeCoordinates_22 (by decide) ?_
    refine x_sub [1, 0] rfl ?_
    exact hK2 (xI S 5 0 v1.toNatClampNeg (S.1 23 0 v1.toNatClampNeg)) (v1 + (1 : Int32)) h
set_option maxHeartbeats 2000000 in
set_option maxRecDepth 20000 in
theorem w_X7_takeCoordinates_2 {g : xG} {D : va_G} {cy : Nat → ClassId} {ad : Nat → Nat → Nat} {Q : xS → Prop} (V : xEnv g D (xTys cy) (shM cy) ad RX7 cX7_takeCoordinates none 0 0 2 (xQv Q)) (n : Nat) : ∀ (S : xS) (v1 : Int32), wp_X7_takeCoordinates_2 Q n S v1 → Wx g (xW D (shM cy) ad S) 2 [(0, .ref (ad 0 0)), (1, .int v1)] [] := by
  induction n with
  | zero => intro S v1 h; exact h.elim
  | succ n ih => intro S v1 h; exact w_X7_takeCoordinates_2_b V (fun S v1 h => ih S v1 h) S v1 h
set_option maxHeartbeats 2000000 in
set_option maxRecDepth 20000 in
theorem w_X7_takeCoordinates {g : xG} {D : va_G} {cy : Nat → ClassId} {ad : Nat → Nat → Nat} {S : xS} {Q : xS → Prop} (V : xEnv g D (xTys cy) (shM cy) ad RX7 cX7_takeCoordinates none 0 0 2 (xQv Q)) (h : wp_X7_takeCoordinates S Q) : Wx g (xW D (shM cy) ad S) 0 [(0, .ref (ad 0 0))] [] := by
  obtain ⟨X, K, hi, hA, hR, E, hN⟩ := V
  have V := xEnv_mk X K hi hA hR E hN
  unfold wp_X7_takeCoordinates at h
  refine x_iconst X (v := 0) dX7_takeCoordinates_0 (by decide) ?_
  refine x_istore_n X [(1, .int (0 : Int32)), (0, .ref (ad 0 0))] dX7_takeCoordinates_1 (by rw [hN]; decide) rfl ?_
  refine x_sub [1, 0] rfl ?_
  obtain ⟨n1, h⟩ := h
  exact w_X7_takeCoordinates_2 V n1 S (0 : Int32) h
set_option maxHeartbeats 2000000 in
set_option maxRecDepth 20000 in
theorem m_X7_takeCoordinates {l : Launch} {D : va_G} {cy : Nat → ClassId} {ad : Nat → Nat → Nat} (hi : xInj (shM cy) ad) {S : xS} {Q : xS → Prop} (h : wp_X7_takeCoordinates S Q) : xMet l D (xTys cy) (shM cy) ad yX7_takeCoordinates cX7_takeCoordinates 2 none (xRm 0 0) [.ref (ad 0 0)] S (xQv Q) := xMet_env hi (by decide +kernel) rfl (Nat.le_of_ble_eq_true rfl) (fun g hl V => w_X7_takeCoordinates V h)
set_option maxHeartbeats 2000000 in
set_option maxRecDepth 20000 in
theorem w_X7_flips_113 {g : xG} {D : va_G} {cy : Nat → ClassId} {ad : Nat → Nat → Nat} {K82 : xS → Int32 → Int32 → Prop} {Q : Int32 → xS → Prop} (V : xEnv g D (xTys cy) (shM cy) ad RX7 cX7_flips (some .int) 6 163 4 (xQi Q)) (hK82 : ∀ (S : xS) (v2 : Int32) (v3 : Int32), K82 S v2 v3 → Wx g (xW D (shM cy) ad S) 82 [(0, .ref (ad 0 0)), (2, .int v2), (3, .int v3)] []) (S : xS) (v3 : Int32) (s0 : Int32) (s1 : Int32) (h : wp_X7_flips_113 K82 Q S v3 s0 s1) : Wx g (xW D (shM cy) ad S) 113 [(0, .ref (ad 0 0)), (3, .int v3)] [.int s1, .int s0] := by
  obtain ⟨X, K, hi, hA, hR, E, hN⟩ := V
  have V := xEnv_mk X K hi hA hR E hN
  unfold wp_X7_flips_113 at h
  refine x_iadd X dX7_flips_113 ?_
  refine x_istore_n X [(2, .int (s0 + s1)), (0, .ref (ad 0 0)), (3, .int v3)] dX7_flips_114 (by rw [hN]; decide) rfl ?_
  refine x_iinc X 2 [(3, .int (v3 + (1 : Int32))), (2, .int (s0 + s1)), (0, .ref (ad 0 0))] dX7_flips_115 rfl rfl (by rw [hN]; decide) rfl ?_
  refine x_goto X 82 dX7_flips_118 (by decide) ?_
  refine x_sub [2, 1, 0] rfl ?_
  exact hK82 S (s0 + s1) (v3 + (1 : Int32)) h
set_option maxHeartbeats 2000000 in
set_option maxRecDepth 20000 in
theorem w_X7_flips_82_b {g : xG} {D : va_G} {cy : Nat → ClassId} {ad : Nat → Nat → Nat} {K82 : xS → Int32 → Int32 → Prop} {Q : Int32 → xS → Prop} (V : xEnv g D (xTys cy) (shM cy) ad RX7 cX7_flips (some .int) 6 163 4 (xQi Q)) (hK82 : ∀ (S : xS) (v2 : Int32) (v3 : Int32), K82 S v2 v3 → Wx g (xW D (shM cy) ad S) 82 [(0, .ref (ad 0 0)), (2, .int v2), (3, .int v3)] []) (S : xS) (v2 : Int32) (v3 : Int32) (h : wp_X7_flips_82_b K82 Q S v2 v3) : Wx g (xW D (shM cy) ad S) 82 [(0, .ref (ad 0 0)), (2, .int v2), (3, .int v3)] [] := by
  obtain ⟨X, K, hi, hA, hR, E, hN⟩ := V
  have V := xEnv_mk X K hi hA hR E hN
  unfold wp_X7_flips_82_b at h
  refine x_iload_n X 2 dX7_flips_82 rfl ?_
  refine x_aload_n X 0 dX7_flips_83 rfl ?_
  refine xg_X7_254 X K (Nat.zero_lt_one) dX7_flips_84 ?_
  refine x_icmp_ge X 121 dX7_flips_87 (by decide) h (fun h => ?_) (fun h => ?_)
  · refine x_aload_n X 0 dX7_flips_121 rfl ?_
    refine x_callv hA (x_runV (n := 0) (sh := shM cy) X K hR (fun _ q => q) (m_X7_takeCoordinates hi  h) (kM_0 cy (Nat.zero_lt_one)) rfl rfl t5_139 t5_141 tp_52 t1_8 t5_142 ⟨by decide, by decide, by decide +kernel⟩ rfl (by decide) (by decide) rfl (Nat.le_of_ble_eq_true rfl) dX7_flips_122) (fun S1 h => ?_)
    refine x_iload_n X 1 dX7_flips_125 rfl ?_
    exact x_iret X E dX7_flips_126 ⟨_, rfl, h⟩
  · refine x_iload_n X 1 dX7_flips_90 rfl ?_
    refine x_aload_n X 0 dX7_flips_91 rfl ?_
    refine xg_X7_63 X K (Nat.zero_lt_one) dX7_flips_92 ?_
    refine x_iload_n X 2 dX7_flips_95 rfl ?_
    obtain ⟨hb3, h⟩ := h
    refine xa_M22 X K (show 0 < 1 by decide) hb3 dX7_flips_96 ?_
    refine x_aload_n X 0 dX7_flips_97 rfl ?_
    refine x_iload_n X 2 dX7_flips_98 rfl ?_
    refine x_calll hA (x_runV (n := 1) (sh := shM cy) X K hR (fun _ q => q) (m_X7_areaOf hi  h) (kM_0 cy (Nat.zero_lt_one)) rfl rfl t5_124 t5_126 tp_50 t1_8 t5_127 ⟨by decide, by decide, by decide +kernel⟩ rfl (by decide) (by decide) rfl (Nat.le_of_ble_eq_true rfl) dX7_flips_99) (fun r5 S4 h => ?_)
    refine x_calli hA (x_runS (n := 1) X K hR (fun _ q => q) (m_X7_sign hi  h) t5_132 t5_133 t1_8 t5_134 ⟨by decide, by decide, by decide +kernel⟩ rfl (by decide) (by decide) rfl (Nat.le_of_ble_eq_true rfl) dX7_flips_102) (fun r7 S6 h => ?_)
    refine x_icmp_eq X 112 dX7_flips_105 (by decide) h (fun h => ?_) (fun h => ?_)
    · refine x_iconst X (v := 0) dX7_flips_112 (by decide) ?_
      refine x_sub [0, 2] rfl ?_
      exact w_X7_flips_113 V hK82 S6 v3 v2 (0 : Int32) h
    · refine x_iconst X (v := 1) dX7_flips_108 (by decide) ?_
      refine x_goto X 113 dX7_flips_109 (by decide) ?_
      refine x_sub [0, 2] rfl ?_
      exact w_X7_flips_113 V hK82 S6 v3 v2 (1 : Int32) h
set_option maxHeartbeats 2000000 in
set_option maxRecDepth 20000 in
theorem w_X7_flips_82 {g : xG} {D : va_G} {cy : Nat → ClassId} {ad : Nat → Nat → Nat} {Q : Int32 → xS → Prop} (V : xEnv g D (xTys cy) (shM cy) ad RX7 cX7_flips (some .int) 6 163 4 (xQi Q)) (n : Nat) : ∀ (S : xS) (v2 : Int32) (v3 : Int32), wp_X7_flips_82 Q n S v2 v3 → Wx g (xW D (shM cy) ad S) 82 [(0, .ref (ad 0 0)), (2, .int v2), (3, .int v3)] [] := by
  induction n with
  | zero => intro S v2 v3 h; exact h.elim
  | succ n ih => intro S v2 v3 h; exact w_X7_flips_82_b V (fun S v2 v3 h => ih S v2 v3 h) S v2 v3 h
set_option maxHeartbeats 2000000 in
set_option maxRecDepth 20000 in
theorem w_X7_flips_52_b {g : xG} {D : va_G} {cy : Nat → ClassId} {ad : Nat → Nat → Nat} {a1 : Int32} {K52 : xS → Int32 → Prop} {Q : Int32 → xS → Prop} (V : xEnv g D (xTys cy) (shM cy) ad RX7 cX7_flips (some .int) 6 163 4 (xQi Q)) (hK52 : ∀ (S : xS) (v2 : Int32), K52 S v2 → Wx g (xW D (shM cy) ad S) 52 [(0, .ref (ad 0 0)), (1, .int a1), (2, .int v2)] []) (S : xS) (v2 : Int32) (h : wp_X7_flips_52_b a1 K52 Q S v2) : Wx g (xW D (shM cy) ad S) 52 [(0, .ref (ad 0 0)), (1, .int a1), (2, .int v2)] [] := by
  obtain ⟨X, K, hi, hA, hR, E, hN⟩ := V
  have V := xEnv_mk X K hi hA hR E hN
  unfold wp_X7_flips_52_b at h
  refine x_iload_n X 2 dX7_flips_52 rfl ?_
  refine x_aload_n X 0 dX7_flips_53 rfl ?_
  refine xg_X7_107 X K (Nat.zero_lt_one) dX7_flips_54 ?_
  refine x_icmp_ge X 73 dX7_flips_57 (by decide) h (fun h => ?_) (fun h => ?_)
  · refine x_aload_n X 0 dX7_flips_73 rfl ?_
    refine x_iload_n X 1 dX7_flips_74 rfl ?_
    refine x_callv hA (x_runV (n := 1) (sh := shM cy) X K hR (fun _ q => q) (m_X7_layOutline hi  h) (kM_0 cy (Nat.zero_lt_one)) rfl rfl t5_103 t5_105 tp_48 t1_8 t5_106 ⟨by decide, by decide, by decide +kernel⟩ rfl (by decide) (by decide) rfl (Nat.le_of_ble_eq_true rfl) dX7_flips_75) (fun S1 h => ?_)
    refine x_iconst X (v := 0) dX7_flips_78 (by decide) ?_
    refine x_istore_n X [(2, .int (0 : Int32)), (0, .ref (ad 0 0)), (1, .int a1)] dX7_flips_79 (by rw [hN]; decide) rfl ?_
    refine x_iconst X (v := 0) dX7_flips_80 (by decide) ?_
    refine x_istore_n X [(3, .int (0 : Int32)), (2, .int (0 : Int32)), (0, .ref (ad 0 0)), (1, .int a1)] dX7_flips_81 (by rw [hN]; decide) rfl ?_
    refine x_sub [2, 1, 0] rfl ?_
    obtain ⟨n3, h⟩ := h
    exact w_X7_flips_82 V n3 S1 (0 : Int32) (0 : Int32) h
  · refine x_aload_n X 0 dX7_flips_60 rfl ?_
    refine xg_X7_19 X K (Nat.zero_lt_one) dX7_flips_61 ?_
    refine x_iload_n X 2 dX7_flips_64 rfl ?_
    refine x_iconst X (v := 0) dX7_flips_65 (by decide) ?_
    obtain ⟨hb4, h⟩ := h
    refine xs_M5 X K hi hA (show 0 < 1 by decide) hb4 dX7_flips_66 ?_
    refine x_iinc X 2 [(2, .int (v2 + (1 : Int32))), (0, .ref (ad 0 0)), (1, .int a1)] dX7_flips_67 rfl rfl (by rw [hN]; decide) rfl ?_
    refine x_goto X 52 dX7_flips_70 (by decide) ?_
    refine x_sub [1, 2, 0] rfl ?_
    exact hK52 (xI S 5 0 v2.toNatClampNeg (0 : Int32)) (v2 + (1 : Int32)) h
set_option maxHeartbeats 2000000 in
set_option maxRecDepth 20000 in
theorem w_X7_flips_52 {g : xG} {D : va_G} {cy : Nat → ClassId} {ad : Nat → Nat → Nat} {a1 : Int32} {Q : Int32 → xS → Prop} (V : xEnv g D (xTys cy) (shM cy) ad RX7 cX7_flips (some .int) 6 163 4 (xQi Q)) (n : Nat) : ∀ (S : xS) (v2 : Int32), wp_X7_flips_52 a1 Q n S v2 → Wx g (xW D (shM cy) ad S) 52 [(0, .ref (ad 0 0)), (1, .int a1), (2, .int v2)] [] := by
  induction n with
  | zero => intro S v2 h; exact h.elim
  | succ n ih => intro S v2 h; exact w_X7_flips_52_b V (fun S v2 h => ih S v2 h) S v2 h
set_option maxHeartbeats 2000000 in
set_option maxRecDepth 20000 in
theorem w_X7_flips_18_b {g : xG} {D : va_G} {cy : Nat → ClassId} {ad : Nat → Nat → Nat} {a1 : Int32} {K18 : xS → Int32 → Prop} {Q : Int32 → xS → Prop} (V : xEnv g D (xTys cy) (shM cy) ad RX7 cX7_flips (some .int) 6 163 4 (xQi Q)) (hK18 : ∀ (S : xS) (v2 : Int32), K18 S v2 → Wx g (xW D (shM cy) ad S) 18 [(0, .ref (ad 0 0)), (1, .int a1), (2, .int v2)] []) (S : xS) (v2 : Int32) (h : wp_X7_flips_18_b a1 K18 Q S v2) : Wx g (xW D (shM cy) ad S) 18 [(0, .ref (ad 0 0)), (1, .int a1), (2, .int v2)] [] := by
  obtain ⟨X, K, hi, hA, hR, E, hN⟩ := V
  have V := xEnv_mk X K hi hA hR E hN
  unfold wp_X7_flips_18_b at h
  refine x_iload_n X 2 dX7_flips_18 rfl ?_
  refine x_aload_n X 0 dX7_flips_19 rfl ?_
  refine xg_X7_254 X K (Nat.zero_lt_one) dX7_flips_20 ?_
  refine x_icmp_ge X 46 dX7_flips_23 (by decide) h (fun h => ?_) (fun h => ?_)
  · refine x_aload_n X 0 dX7_flips_46 rfl ?_
    refine x_callv hA (x_runV (n := 0) (sh := shM cy) X K hR (fun _ q => q) (m_X7_keepCoordinates hi  h) (kM_0 cy (Nat.zero_lt_one)) rfl rfl t5_135 t5_137 tp_51 t1_8 t5_138 ⟨by decide, by decide, by decide +kernel⟩ rfl (by decide) (by decide) rfl (Nat.le_of_ble_eq_true rfl) dX7_flips_47) (fun S1 h => ?_)
    refine x_iconst X (v := 0) dX7_flips_50 (by decide) ?_
    refine x_istore_n X [(2, .int (0 : Int32)), (0, .ref (ad 0 0)), (1, .int a1)] dX7_flips_51 (by rw [hN]; decide) rfl ?_
    refine x_sub [1, 2, 0] rfl ?_
    obtain ⟨n3, h⟩ := h
    exact w_X7_flips_52 V n3 S1 (0 : Int32) h
  · refine x_aload_n X 0 dX7_flips_26 rfl ?_
    refine xg_X7_63 X K (Nat.zero_lt_one) dX7_flips_27 ?_
    refine x_iload_n X 2 dX7_flips_30 rfl ?_
    refine x_aload_n X 0 dX7_flips_31 rfl ?_
    refine x_iload_n X 2 dX7_flips_32 rfl ?_
    refine x_calll hA (x_runV (n := 1) (sh := shM cy) X K hR (fun _ q => q) (m_X7_areaOf hi  h) (kM_0 cy (Nat.zero_lt_one)) rfl rfl t5_124 t5_126 tp_50 t1_8 t5_127 ⟨by decide, by decide, by decide +kernel⟩ rfl (by decide) (by decide) rfl (Nat.le_of_ble_eq_true rfl) dX7_flips_33) (fun r5 S4 h => ?_)
    refine x_calli hA (x_runS (n := 1) X K hR (fun _ q => q) (m_X7_sign hi  h) t5_132 t5_133 t1_8 t5_134 ⟨by decide, by decide, by decide +kernel⟩ rfl (by decide) (by decide) rfl (Nat.le_of_ble_eq_true rfl) dX7_flips_36) (fun r7 S6 h => ?_)
    obtain ⟨hb8, h⟩ := h
    refine xs_M22 X K hi hA (show 0 < 1 by decide) hb8 dX7_flips_39 ?_
    refine x_iinc X 2 [(2, .int (v2 + (1 : Int32))), (0, .ref (ad 0 0)), (1, .int a1)] dX7_flips_40 rfl rfl (by rw [hN]; decide) rfl ?_
    refine x_goto X 18 dX7_flips_43 (by decide) ?_
    refine x_sub [1, 2, 0] rfl ?_
    exact hK18 (xI S6 22 0 v2.toNatClampNeg r7) (v2 + (1 : Int32)) h
set_option maxHeartbeats 2000000 in
set_option maxRecDepth 20000 in
theorem w_X7_flips_18 {g : xG} {D : va_G} {cy : Nat → ClassId} {ad : Nat → Nat → Nat} {a1 : Int32} {Q : Int32 → xS → Prop} (V : xEnv g D (xTys cy) (shM cy) ad RX7 cX7_flips (some .int) 6 163 4 (xQi Q)) (n : Nat) : ∀ (S : xS) (v2 : Int32), wp_X7_flips_18 a1 Q n S v2 → Wx g (xW D (shM cy) ad S) 18 [(0, .ref (ad 0 0)), (1, .int a1), (2, .int v2)] [] := by
  induction n with
  | zero => intro S v2 h; exact h.elim
  | succ n ih => intro S v2 h; exact w_X7_flips_18_b V (fun S v2 h => ih S v2 h) S v2 h
set_option maxHeartbeats 2000000 in
set_option maxRecDepth 20000 in
theorem w_X7_flips {g : xG} {D : va_G} {cy : Nat → ClassId} {ad : Nat → Nat → Nat} {a1 : Int32} {S : xS} {Q : Int32 → xS → Prop} (V : xEnv g D (xTys cy) (shM cy) ad RX7 cX7_flips (some .int) 6 163 4 (xQi Q)) (h : wp_X7_flips a1 S Q) : Wx g (xW D (shM cy) ad S) 0 [(0, .ref (ad 0 0)), (1, .int a1)] [] := by
  obtain ⟨X, K, hi, hA, hR, E, hN⟩ := V
  have V := xEnv_mk X K hi hA hR E hN
  unfold wp_X7_flips at h
  refine x_aload_n X 0 dX7_flips_0 rfl ?_
  refine x_iload_n X 1 dX7_flips_1 rfl ?_
  refine x_calli hA (x_runV (n := 1) (sh := shM cy) X K hR (fun _ q => q) (m_X7_noGlyph hi  h) (kM_0 cy Nat.zero_lt_one) rfl rfl t4_199 t4_201 tp_30 t1_8 t4_202 ⟨by decide, by decide, by decide +kernel⟩ rfl (by decide) (by decide) rfl (Nat.le_of_ble_eq_true rfl) dX7_flips_2) (fun r2 S1 h => ?_)
  refine x_if_eq X 11 dX7_flips_5 (by decide) h (fun h => ?_) (fun h => ?_)
  · refine x_aload_n X 0 dX7_flips_11 rfl ?_
    refine x_iload_n X 1 dX7_flips_12 rfl ?_
    refine x_callv hA (x_runV (n := 1) (sh := shM cy) X K hR (fun _ q => q) (m_X7_layOutline hi  h) (kM_0 cy Nat.zero_lt_one) rfl rfl t5_103 t5_105 tp_48 t1_8 t5_106 ⟨by decide, by decide, by decide +kernel⟩ rfl (by decide) (by decide) rfl (Nat.le_of_ble_eq_true rfl) dX7_flips_13) (fun S3 h => ?_)
    refine x_iconst X (v := 0) dX7_flips_16 (by decide) ?_
    refine x_istore_n X [(2, .int (0 : Int32)), (0, .ref (ad 0 0)), (1, .int a1)] dX7_flips_17 (by rw [hN]; decide) rfl ?_
    refine x_sub [1, 2, 0] rfl ?_
    obtain ⟨n5, h⟩ := h
    exact w_X7_flips_18 V n5 S3 (0 : Int32) h
  · refine x_ldc X (v := -1000002) t4_203 dX7_flips_8 ?_
    exact x_iret X E dX7_flips_10 ⟨_, rfl, h⟩
set_option maxHeartbeats 2000000 in
set_option maxRecDepth 20000 in
theorem m_X7_flips {l : Launch} {D : va_G} {cy : Nat → ClassId} {ad : Nat → Nat → Nat} (hi : xInj (shM cy) ad) {a1 : Int32} {S : xS} {Q : Int32 → xS → Prop} (h : wp_X7_flips a1 S Q) : xMet l D (xTys cy) (shM cy) ad yX7_flips cX7_flips 4 (some .int) (xRm 6 163) [.ref (ad 0 0), .int a1] S (xQi Q) := xMet_env hi (by decide +kernel) rfl (Nat.le_of_ble_eq_true rfl) (fun g hl V => w_X7_flips V h)
set_option maxHeartbeats 2000000 in
set_option maxRecDepth 20000 in
theorem w_X7_widest_110 {g : xG} {D : va_G} {cy : Nat → ClassId} {ad : Nat → Nat → Nat} {a1 : Int32} {a2 : Int32} {K38 : xS → Int32 → Int64 → Int32 → Prop} {Q : Int32 → xS → Prop} (V : xEnv g D (xTys cy) (shM cy) ad RX7 cX7_widest (some .int) 5 134 9 (xQi Q)) (hK38 : ∀ (S : xS) (v3 : Int32) (v4 : Int64) (v6 : Int32), K38 S v3 v4 v6 → Wx g (xW D (shM cy) ad S) 38 [(0, .ref (ad 0 0)), (1, .int a1), (2, .int a2), (3, .int v3), (4, .long v4), (6, .int v6)] []) (S : xS) (v3 : Int32) (v6 : Int32) (s0 : Int64) (h : wp_X7_widest_110 a1 a2 K38 Q S v3 v6 s0) : Wx g (xW D (shM cy) ad S) 110 [(0, .ref (ad 0 0)), (1, .int a1), (2, .int a2), (3, .int v3), (6, .int v6)] [.long s0] := by
  obtain ⟨X, K, hi, hA, hR, E, hN⟩ := V
  have V := xEnv_mk X K hi hA hR E hN
  unfold wp_X7_widest_110 at h
  refine x_lstore X [(4, .long s0), (0, .ref (ad 0 0)), (1, .int a1), (2, .int a2), (3, .int v3), (6, .int v6)] dX7_widest_110 (by rw [hN]; decide) rfl ?_
  refine x_iincW X 5 [(6, .int (v6 + (2048 : Int32))), (4, .long s0), (0, .ref (ad 0 0)), (1, .int a1), (2, .int a2), (3, .int v3)] dX7_widest_112 rfl rfl (by rw [hN]; decide) rfl ?_
  refine x_goto X 38 dX7_widest_118 (by decide) ?_
  refine x_sub [2, 3, 4, 5, 1, 0] rfl ?_
  exact hK38 S v3 s0 (v6 + (2048 : Int32)) h
set_option maxHeartbeats 2000000 in
set_option maxRecDepth 20000 in
theorem w_X7_widest_103 {g : xG} {D : va_G} {cy : Nat → ClassId} {ad : Nat → Nat → Nat} {a1 : Int32} {a2 : Int32} {K38 : xS → Int32 → Int64 → Int32 → Prop} {Q : Int32 → xS → Prop} (V : xEnv g D (xTys cy) (shM cy) ad RX7 cX7_widest (some .int) 5 134 9 (xQi Q)) (hK38 : ∀ (S : xS) (v3 : Int32) (v4 : Int64) (v6 : Int32), K38 S v3 v4 v6 → Wx g (xW D (shM cy) ad S) 38 [(0, .ref (ad 0 0)), (1, .int a1), (2, .int a2), (3, .int v3), (4, .long v4), (6, .int v6)] []) (S : xS) (v3 : Int32) (v6 : Int32) (v7 : Int64) (h : wp_X7_widest_103 a1 a2 K38 Q S v3 v6 v7) : Wx g (xW D (shM cy) ad S) 103 [(0, .ref (ad 0 0)), (1, .int a1), (2, .int a2), (3, .int v3), (6, .int v6), (7, .long v7)] [] := by
  obtain ⟨X, K, hi, hA, hR, E, hN⟩ := V
  have V := xEnv_mk X K hi hA hR E hN
  unfold wp_X7_widest_103 at h
  refine x_lload X 5 dX7_widest_103 rfl ?_
  refine x_goto X 110 dX7_widest_105 (by decide) ?_
  refine x_sub [0, 1, 2, 3, 4] rfl ?_
  exact w_X7_widest_110 V hK38 S v3 v6 v7 h
set_option maxHeartbeats 2000000 in
set_option maxRecDepth 20000 in
theorem w_X7_widest_86 {g : xG} {D : va_G} {cy : Nat → ClassId} {ad : Nat → Nat → Nat} {a1 : Int32} {a2 : Int32} {K38 : xS → Int32 → Int64 → Int32 → Prop} {Q : Int32 → xS → Prop} (V : xEnv g D (xTys cy) (shM cy) ad RX7 cX7_widest (some .int) 5 134 9 (xQi Q)) (hK38 : ∀ (S : xS) (v3 : Int32) (v4 : Int64) (v6 : Int32), K38 S v3 v4 v6 → Wx g (xW D (shM cy) ad S) 38 [(0, .ref (ad 0 0)), (1, .int a1), (2, .int a2), (3, .int v3), (4, .long v4), (6, .int v6)] []) (S : xS) (v4 : Int64) (v6 : Int32) (v7 : Int64) (s0 : Int32) (h : wp_X7_widest_86 a1 a2 K38 Q S v4 v6 v7 s0) : Wx g (xW D (shM cy) ad S) 86 [(0, .ref (ad 0 0)), (1, .int a1), (2, .int a2), (4, .long v4), (6, .int v6), (7, .long v7)] [.int s0] := by
  obtain ⟨X, K, hi, hA, hR, E, hN⟩ := V
  have V := xEnv_mk X K hi hA hR E hN
  unfold wp_X7_widest_86 at h
  refine x_istore_n X [(3, .int s0), (0, .ref (ad 0 0)), (1, .int a1), (2, .int a2), (4, .long v4), (6, .int v6), (7, .long v7)] dX7_widest_86 (by rw [hN]; decide) rfl ?_
  refine x_iload X 5 dX7_widest_87 rfl ?_
  refine x_sipush X (v := -16384) dX7_widest_89 (by decide) ?_
  refine x_icmp_eq X 103 dX7_widest_92 (by decide) h (fun h => ?_) (fun h => ?_)
  · refine x_sub [1, 2, 3, 0, 5, 6] rfl ?_
    exact w_X7_widest_103 V hK38 S s0 v6 v7 h
  · refine x_lload X 6 dX7_widest_95 rfl ?_
    refine x_lload X 4 dX7_widest_97 rfl ?_
    refine x_lcmp X dX7_widest_99 ?_
    refine x_if_le X 108 dX7_widest_100 (by decide) h (fun h => ?_) (fun h => ?_)
    · refine x_lload X 4 dX7_widest_108 rfl ?_
      refine x_sub [1, 2, 3, 0, 5] rfl ?_
      exact w_X7_widest_110 V hK38 S s0 v6 v4 h
    · refine x_sub [1, 2, 3, 0, 5, 6] rfl ?_
      exact w_X7_widest_103 V hK38 S s0 v6 v7 h
set_option maxHeartbeats 2000000 in
set_option maxRecDepth 20000 in
theorem w_X7_widest_80 {g : xG} {D : va_G} {cy : Nat → ClassId} {ad : Nat → Nat → Nat} {a1 : Int32} {a2 : Int32} {K38 : xS → Int32 → Int64 → Int32 → Prop} {Q : Int32 → xS → Prop} (V : xEnv g D (xTys cy) (shM cy) ad RX7 cX7_widest (some .int) 5 134 9 (xQi Q)) (hK38 : ∀ (S : xS) (v3 : Int32) (v4 : Int64) (v6 : Int32), K38 S v3 v4 v6 → Wx g (xW D (shM cy) ad S) 38 [(0, .ref (ad 0 0)), (1, .int a1), (2, .int a2), (3, .int v3), (4, .long v4), (6, .int v6)] []) (S : xS) (v4 : Int64) (v6 : Int32) (v7 : Int64) (h : wp_X7_widest_80 a1 a2 K38 Q S v4 v6 v7) : Wx g (xW D (shM cy) ad S) 80 [(0, .ref (ad 0 0)), (1, .int a1), (2, .int a2), (4, .long v4), (6, .int v6), (7, .long v7)] [] := by
  obtain ⟨X, K, hi, hA, hR, E, hN⟩ := V
  have V := xEnv_mk X K hi hA hR E hN
  unfold wp_X7_widest_80 at h
  refine x_iload X 4 dX7_widest_80 rfl ?_
  refine x_goto X 86 dX7_widest_82 (by decide) ?_
  refine x_sub [0, 1, 2, 3, 4, 5] rfl ?_
  exact w_X7_widest_86 V hK38 S v4 v6 v7 v6 h
set_option maxHeartbeats 2000000 in
set_option maxRecDepth 20000 in
theorem w_X7_widest_38_b {g : xG} {D : va_G} {cy : Nat → ClassId} {ad : Nat → Nat → Nat} {a1 : Int32} {a2 : Int32} {K38 : xS → Int32 → Int64 → Int32 → Prop} {Q : Int32 → xS → Prop} (V : xEnv g D (xTys cy) (shM cy) ad RX7 cX7_widest (some .int) 5 134 9 (xQi Q)) (hK38 : ∀ (S : xS) (v3 : Int32) (v4 : Int64) (v6 : Int32), K38 S v3 v4 v6 → Wx g (xW D (shM cy) ad S) 38 [(0, .ref (ad 0 0)), (1, .int a1), (2, .int a2), (3, .int v3), (4, .long v4), (6, .int v6)] []) (S : xS) (v3 : Int32) (v4 : Int64) (v6 : Int32) (h : wp_X7_widest_38_b a1 a2 K38 Q S v3 v4 v6) : Wx g (xW D (shM cy) ad S) 38 [(0, .ref (ad 0 0)), (1, .int a1), (2, .int a2), (3, .int v3), (4, .long v4), (6, .int v6)] [] := by
  obtain ⟨X, K, hi, hA, hR, E, hN⟩ := V
  have V := xEnv_mk X K hi hA hR E hN
  unfold wp_X7_widest_38_b at h
  refine x_iload X 5 dX7_widest_38 rfl ?_
  refine x_sipush X (v := 16384) dX7_widest_40 (by decide) ?_
  refine x_icmp_gt X 121 dX7_widest_43 (by decide) h (fun h => ?_) (fun h => ?_)
  · refine x_aload_n X 0 dX7_widest_121 rfl ?_
    refine x_callv hA (x_runV (n := 0) (sh := shM cy) X K hR (fun _ q => q) (m_X7_takeCoordinates hi  h) (kM_0 cy (Nat.zero_lt_one)) rfl rfl t5_139 t5_141 tp_52 t1_8 t5_142 ⟨by decide, by decide, by decide +kernel⟩ rfl (by decide) (by decide) rfl (Nat.le_of_ble_eq_true rfl) dX7_widest_122) (fun S1 h => ?_)
    refine x_iload_n X 3 dX7_widest_125 rfl ?_
    exact x_iret X E dX7_widest_126 ⟨_, rfl, h⟩
  · refine x_aload_n X 0 dX7_widest_46 rfl ?_
    refine xg_X7_19 X K (Nat.zero_lt_one) dX7_widest_47 ?_
    refine x_iload_n X 2 dX7_widest_50 rfl ?_
    refine x_iload X 5 dX7_widest_51 rfl ?_
    obtain ⟨hb3, h⟩ := h
    refine xs_M5 X K hi hA (show 0 < 1 by decide) hb3 dX7_widest_53 ?_
    refine x_aload_n X 0 dX7_widest_54 rfl ?_
    refine x_iload_n X 1 dX7_widest_55 rfl ?_
    refine x_bipush X (v := 24) dX7_widest_56 (by decide) ?_
    refine x_iconst X (v := 0) dX7_widest_58 (by decide) ?_
    refine x_calll hA (x_runV (n := 3) (sh := shM cy) X K hR (fun _ q => q) (m_X7_placeNow hi  h) (kM_0 cy (Nat.zero_lt_one)) rfl rfl t5_95 t5_97 tp_47 t1_8 t5_98 ⟨by decide, by decide, by decide +kernel⟩ rfl (by decide) (by decide) rfl (Nat.le_of_ble_eq_true rfl) dX7_widest_59) (fun r5 S4 h => ?_)
    refine x_lstore X [(7, .long r5), (0, .ref (ad 0 0)), (1, .int a1), (2, .int a2), (3, .int v3), (4, .long v4), (6, .int v6)] dX7_widest_62 (by rw [hN]; decide) rfl ?_
    refine x_iload X 6 dX7_widest_64 rfl ?_
    refine x_sipush X (v := -16384) dX7_widest_66 (by decide) ?_
    refine x_icmp_eq X 80 dX7_widest_69 (by decide) h (fun h => ?_) (fun h => ?_)
    · refine x_sub [1, 2, 3, 5, 6, 0] rfl ?_
      exact w_X7_widest_80 V hK38 S4 v4 v6 r5 h
    · refine x_lload X 0 dX7_widest_72 rfl ?_
      refine x_lload X 5 dX7_widest_74 rfl ?_
      refine x_lcmp X dX7_widest_76 ?_
      refine x_if_le X 85 dX7_widest_77 (by decide) h (fun h => ?_) (fun h => ?_)
      · refine x_iload_n X 4 dX7_widest_85 rfl ?_
        refine x_sub [1, 2, 3, 5, 6, 0] rfl ?_
        exact w_X7_widest_86 V hK38 S4 v4 v6 r5 v3 h
      · refine x_sub [1, 2, 3, 5, 6, 0] rfl ?_
        exact w_X7_widest_80 V hK38 S4 v4 v6 r5 h
set_option maxHeartbeats 2000000 in
set_option maxRecDepth 20000 in
theorem w_X7_widest_38 {g : xG} {D : va_G} {cy : Nat → ClassId} {ad : Nat → Nat → Nat} {a1 : Int32} {a2 : Int32} {Q : Int32 → xS → Prop} (V : xEnv g D (xTys cy) (shM cy) ad RX7 cX7_widest (some .int) 5 134 9 (xQi Q)) (n : Nat) : ∀ (S : xS) (v3 : Int32) (v4 : Int64) (v6 : Int32), wp_X7_widest_38 a1 a2 Q n S v3 v4 v6 → Wx g (xW D (shM cy) ad S) 38 [(0, .ref (ad 0 0)), (1, .int a1), (2, .int a2), (3, .int v3), (4, .long v4), (6, .int v6)] [] := by
  induction n with
  | zero => intro S v3 v4 v6 h; exact h.elim
  | succ n ih => intro S v3 v4 v6 h; exact w_X7_widest_38_b V (fun S v3 v4 v6 h => ih S v3 v4 v6 h) S v3 v4 v6 h
set_option maxHeartbeats 2000000 in
set_option maxRecDepth 20000 in
theorem w_X7_widest {g : xG} {D : va_G} {cy : Nat → ClassId} {ad : Nat → Nat → Nat} {a1 : Int32} {a2 : Int32} {S : xS} {Q : Int32 → xS → Prop} (V : xEnv g D (xTys cy) (shM cy) ad RX7 cX7_widest (some .int) 5 134 9 (xQi Q)) (h : wp_X7_widest a1 a2 S Q) : Wx g (xW D (shM cy) ad S) 0 [(0, .ref (ad 0 0)), (1, .int a1), (2, .int a2)] [] := by
  obtain ⟨X, K, hi, hA, hR, E, hN⟩ := V
  have V := xEnv_mk X K hi hA hR E hN
  unfold wp_X7_widest at h
  refine x_aload_n X 0 dX7_widest_0 rfl ?_
  refine x_iload_n X 1 dX7_widest_1 rfl ?_
  refine x_calli hA (x_runV (n := 1) (sh := shM cy) X K hR (fun _ q => q) (m_X7_noGlyph hi  h) (kM_0 cy Nat.zero_lt_one) rfl rfl t4_199 t4_201 tp_30 t1_8 t4_202 ⟨by decide, by decide, by decide +kernel⟩ rfl (by decide) (by decide) rfl (Nat.le_of_ble_eq_true rfl) dX7_widest_2) (fun r2 S1 h => ?_)
  refine x_if_eq X 11 dX7_widest_5 (by decide) h (fun h => ?_) (fun h => ?_)
  · refine x_aload_n X 0 dX7_widest_11 rfl ?_
    refine x_iload_n X 2 dX7_widest_12 rfl ?_
    refine x_calli hA (x_runV (n := 1) (sh := shM cy) X K hR (fun _ q => q) (m_X7_noAxis hi  h) (kM_0 cy Nat.zero_lt_one) rfl rfl t4_144 t4_146 tp_26 t1_8 t4_147 ⟨by decide, by decide, by decide +kernel⟩ rfl (by decide) (by decide) rfl (Nat.le_of_ble_eq_true rfl) dX7_widest_13) (fun r4 S3 h => ?_)
    refine x_if_eq X 22 dX7_widest_16 (by decide) h (fun h => ?_) (fun h => ?_)
    · refine x_aload_n X 0 dX7_widest_22 rfl ?_
      refine x_callv hA (x_runV (n := 0) (sh := shM cy) X K hR (fun _ q => q) (m_X7_keepCoordinates hi  h) (kM_0 cy Nat.zero_lt_one) rfl rfl t5_135 t5_137 tp_51 t1_8 t5_138 ⟨by decide, by decide, by decide +kernel⟩ rfl (by decide) (by decide) rfl (Nat.le_of_ble_eq_true rfl) dX7_widest_23) (fun S5 h => ?_)
      refine x_sipush X (v := -16384) dX7_widest_26 (by decide) ?_
      refine x_istore_n X [(3, .int (-16384 : Int32)), (0, .ref (ad 0 0)), (1, .int a1), (2, .int a2)] dX7_widest_29 (by rw [hN]; decide) rfl ?_
      refine x_lconst X (v := 0) dX7_widest_30 (by decide) ?_
      refine x_lstore X [(4, .long (0 : Int64)), (3, .int (-16384 : Int32)), (0, .ref (ad 0 0)), (1, .int a1), (2, .int a2)] dX7_widest_31 (by rw [hN]; decide) rfl ?_
      refine x_sipush X (v := -16384) dX7_widest_33 (by decide) ?_
      refine x_istore X [(6, .int (-16384 : Int32)), (4, .long (0 : Int64)), (3, .int (-16384 : Int32)), (0, .ref (ad 0 0)), (1, .int a1), (2, .int a2)] dX7_widest_36 (by rw [hN]; decide) rfl ?_
      refine x_sub [3, 4, 5, 2, 1, 0] rfl ?_
      obtain ⟨n7, h⟩ := h
      exact w_X7_widest_38 V n7 S5 (-16384 : Int32) (0 : Int64) (-16384 : Int32) h
    · refine x_ldc X (v := -1000001) t4_148 dX7_widest_19 ?_
      exact x_iret X E dX7_widest_21 ⟨_, rfl, h⟩
  · refine x_ldc X (v := -1000002) t4_203 dX7_widest_8 ?_
    exact x_iret X E dX7_widest_10 ⟨_, rfl, h⟩
set_option maxHeartbeats 2000000 in
set_option maxRecDepth 20000 in
theorem m_X7_widest {l : Launch} {D : va_G} {cy : Nat → ClassId} {ad : Nat → Nat → Nat} (hi : xInj (shM cy) ad) {a1 : Int32} {a2 : Int32} {S : xS} {Q : Int32 → xS → Prop} (h : wp_X7_widest a1 a2 S Q) : xMet l D (xTys cy) (shM cy) ad yX7_widest cX7_widest 9 (some .int) (xRm 5 134) [.ref (ad 0 0), .int a1, .int a2] S (xQi Q) := xMet_env hi (by decide +kernel) rfl (Nat.le_of_ble_eq_true rfl) (fun g hl V => w_X7_widest V h)
set_option maxHeartbeats 2000000 in
set_option maxRecDepth 20000 in
theorem w_X7_keeps_97_b {g : xG} {D : va_G} {cy : Nat → ClassId} {ad : Nat → Nat → Nat} {a1 : Int32} {K97 : xS → Int32 → Prop} {Q : xS → Prop} (V : xEnv g D (xTys cy) (shM cy) ad RX7 cX7_keeps none 1 22 3 (xQv Q)) (hK97 : ∀ (S : xS) (v2 : Int32), K97 S v2 → Wx g (xW D (shM cy) ad S) 97 [(0, .ref (ad 0 0)), (1, .int a1), (2, .int v2)] []) (S : xS) (v2 : Int32) (h : wp_X7_keeps_97_b a1 K97 Q S v2) : Wx g (xW D (shM cy) ad S) 97 [(0, .ref (ad 0 0)), (1, .int a1), (2, .int v2)] [] := by
  obtain ⟨X, K, hi, hA, hR, E, hN⟩ := V
  have V := xEnv_mk X K hi hA hR E hN
  unfold wp_X7_keeps_97_b at h
  refine x_iload_n X 2 dX7_keeps_97 rfl ?_
  refine x_sipush X (v := 511) dX7_keeps_98 (by decide) ?_
  refine x_icmp_ge X 131 dX7_keeps_101 (by decide) h (fun h => ?_) (fun h => ?_)
  · refine x_aload_n X 0 dX7_keeps_131 rfl ?_
    refine x_dup X dX7_keeps_132 rfl ?_
    refine xg_X7_281 X K (Nat.zero_lt_one) dX7_keeps_133 ?_
    refine x_iconst X (v := 1) dX7_keeps_136 (by decide) ?_
    refine x_iadd X dX7_keeps_137 ?_
    refine xp_X7_281 X K hi hA (Nat.zero_lt_one) dX7_keeps_138 ?_
    exact x_vret X E dX7_keeps_141 ⟨rfl, h⟩
  · refine x_aload_n X 0 dX7_keeps_104 rfl ?_
    refine xg_X7_72 X K (Nat.zero_lt_one) dX7_keeps_105 ?_
    refine x_sipush X (v := 511) dX7_keeps_108 (by decide) ?_
    refine x_aload_n X 0 dX7_keeps_111 rfl ?_
    refine xg_X7_281 X K (Nat.zero_lt_one) dX7_keeps_112 ?_
    refine x_imul X dX7_keeps_115 ?_
    refine x_iload_n X 2 dX7_keeps_116 rfl ?_
    refine x_iadd X dX7_keeps_117 ?_
    refine x_aload_n X 0 dX7_keeps_118 rfl ?_
    refine x_iload_n X 1 dX7_keeps_119 rfl ?_
    refine x_iload_n X 2 dX7_keeps_120 rfl ?_
    refine x_calli hA (x_runV (n := 2) (sh := shM cy) X K hR (fun _ q => q) (m_X7_of hi  h) (kM_0 cy (Nat.zero_lt_one)) rfl rfl t4_208 t4_210 tp_31 t1_8 t4_211 ⟨by decide, by decide, by decide +kernel⟩ rfl (by decide) (by decide) rfl (Nat.le_of_ble_eq_true rfl) dX7_keeps_121) (fun r2 S1 h => ?_)
    obtain ⟨hb3, h⟩ := h
    refine xs_M26 X K hi hA (show 0 < 1 by decide) hb3 dX7_keeps_124 ?_
    refine x_iinc X 2 [(2, .int (v2 + (1 : Int32))), (0, .ref (ad 0 0)), (1, .int a1)] dX7_keeps_125 rfl rfl (by rw [hN]; decide) rfl ?_
    refine x_goto X 97 dX7_keeps_128 (by decide) ?_
    refine x_sub [1, 2, 0] rfl ?_
    exact hK97 (xI S1 26 0 (((511 : Int32) * (S.1 0 0 23)) + v2).toNatClampNeg r2) (v2 + (1 : Int32)) h
set_option maxHeartbeats 2000000 in
set_option maxRecDepth 20000 in
theorem w_X7_keeps_97 {g : xG} {D : va_G} {cy : Nat → ClassId} {ad : Nat → Nat → Nat} {a1 : Int32} {Q : xS → Prop} (V : xEnv g D (xTys cy) (shM cy) ad RX7 cX7_keeps none 1 22 3 (xQv Q)) (n : Nat) : ∀ (S : xS) (v2 : Int32), wp_X7_keeps_97 a1 Q n S v2 → Wx g (xW D (shM cy) ad S) 97 [(0, .ref (ad 0 0)), (1, .int a1), (2, .int v2)] [] := by
  induction n with
  | zero => intro S v2 h; exact h.elim
  | succ n ih => intro S v2 h; exact w_X7_keeps_97_b V (fun S v2 h => ih S v2 h) S v2 h
set_option maxHeartbeats 2000000 in
set_option maxRecDepth 20000 in
theorem w_X7_keeps_85 {g : xG} {D : va_G} {cy : Nat → ClassId} {ad : Nat → Nat → Nat} {a1 : Int32} {Q : xS → Prop} (V : xEnv g D (xTys cy) (shM cy) ad RX7 cX7_keeps none 1 22 3 (xQv Q)) (S : xS) (h : wp_X7_keeps_85 a1 Q S) : Wx g (xW D (shM cy) ad S) 85 [(0, .ref (ad 0 0)), (1, .int a1)] [] := by
  obtain ⟨X, K, hi, hA, hR, E, hN⟩ := V
  have V := xEnv_mk X K hi hA hR E hN
  unfold wp_X7_keeps_85 at h
  refine x_aload_n X 0 dX7_keeps_85 rfl ?_
  refine xg_X7_69 X K (Nat.zero_lt_one) dX7_keeps_86 ?_
  refine x_aload_n X 0 dX7_keeps_89 rfl ?_
  refine xg_X7_281 X K (Nat.zero_lt_one) dX7_keeps_90 ?_
  refine x_iload_n X 1 dX7_keeps_93 rfl ?_
  obtain ⟨hb1, h⟩ := h
  refine xs_M25 X K hi hA (show 0 < 1 by decide) hb1 dX7_keeps_94 ?_
  refine x_iconst X (v := 0) dX7_keeps_95 (by decide) ?_
  refine x_istore_n X [(2, .int (0 : Int32)), (0, .ref (ad 0 0)), (1, .int a1)] dX7_keeps_96 (by rw [hN]; decide) rfl ?_
  refine x_sub [1, 2, 0] rfl ?_
  obtain ⟨n2, h⟩ := h
  exact w_X7_keeps_97 V n2 (xI S 25 0 (S.1 0 0 23).toNatClampNeg a1) (0 : Int32) h
set_option maxHeartbeats 2000000 in
set_option maxRecDepth 20000 in
theorem w_X7_keeps_51_b {g : xG} {D : va_G} {cy : Nat → ClassId} {ad : Nat → Nat → Nat} {a1 : Int32} {K51 : xS → Int32 → Prop} {Q : xS → Prop} (V : xEnv g D (xTys cy) (shM cy) ad RX7 cX7_keeps none 1 22 3 (xQv Q)) (hK51 : ∀ (S : xS) (v2 : Int32), K51 S v2 → Wx g (xW D (shM cy) ad S) 51 [(0, .ref (ad 0 0)), (1, .int a1), (2, .int v2)] []) (S : xS) (v2 : Int32) (h : wp_X7_keeps_51_b a1 K51 Q S v2) : Wx g (xW D (shM cy) ad S) 51 [(0, .ref (ad 0 0)), (1, .int a1), (2, .int v2)] [] := by
  obtain ⟨X, K, hi, hA, hR, E, hN⟩ := V
  have V := xEnv_mk X K hi hA hR E hN
  unfold wp_X7_keeps_51_b at h
  refine x_iload_n X 2 dX7_keeps_51 rfl ?_
  refine x_sipush X (v := 511) dX7_keeps_52 (by decide) ?_
  refine x_aload_n X 0 dX7_keeps_55 rfl ?_
  refine xg_X7_281 X K (Nat.zero_lt_one) dX7_keeps_56 ?_
  refine x_imul X dX7_keeps_59 ?_
  refine x_icmp_ge X 85 dX7_keeps_60 (by decide) h (fun h => ?_) (fun h => ?_)
  · refine x_sub [0, 1] rfl ?_
    exact w_X7_keeps_85 V S h
  · refine x_aload_n X 0 dX7_keeps_63 rfl ?_
    refine xg_X7_72 X K (Nat.zero_lt_one) dX7_keeps_64 ?_
    refine x_iload_n X 2 dX7_keeps_67 rfl ?_
    refine x_aload_n X 0 dX7_keeps_68 rfl ?_
    refine xg_X7_72 X K (Nat.zero_lt_one) dX7_keeps_69 ?_
    refine x_iload_n X 2 dX7_keeps_72 rfl ?_
    refine x_sipush X (v := 511) dX7_keeps_73 (by decide) ?_
    refine x_iadd X dX7_keeps_76 ?_
    obtain ⟨hb1, h⟩ := h
    refine xa_M26 X K (show 0 < 1 by decide) hb1 dX7_keeps_77 ?_
    obtain ⟨hb2, h⟩ := h
    refine xs_M26 X K hi hA (show 0 < 1 by decide) hb2 dX7_keeps_78 ?_
    refine x_iinc X 2 [(2, .int (v2 + (1 : Int32))), (0, .ref (ad 0 0)), (1, .int a1)] dX7_keeps_79 rfl rfl (by rw [hN]; decide) rfl ?_
    refine x_goto X 51 dX7_keeps_82 (by decide) ?_
    refine x_sub [1, 2, 0] rfl ?_
    exact hK51 (xI S 26 0 v2.toNatClampNeg (S.1 26 0 (v2 + (511 : Int32)).toNatClampNeg)) (v2 + (1 : Int32)) h
set_option maxHeartbeats 2000000 in
set_option maxRecDepth 20000 in
theorem w_X7_keeps_51 {g : xG} {D : va_G} {cy : Nat → ClassId} {ad : Nat → Nat → Nat} {a1 : Int32} {Q : xS → Prop} (V : xEnv g D (xTys cy) (shM cy) ad RX7 cX7_keeps none 1 22 3 (xQv Q)) (n : Nat) : ∀ (S : xS) (v2 : Int32), wp_X7_keeps_51 a1 Q n S v2 → Wx g (xW D (shM cy) ad S) 51 [(0, .ref (ad 0 0)), (1, .int a1), (2, .int v2)] [] := by
  induction n with
  | zero => intro S v2 h; exact h.elim
  | succ n ih => intro S v2 h; exact w_X7_keeps_51_b V (fun S v2 h => ih S v2 h) S v2 h
set_option maxHeartbeats 2000000 in
set_option maxRecDepth 20000 in
theorem w_X7_keeps_21_b {g : xG} {D : va_G} {cy : Nat → ClassId} {ad : Nat → Nat → Nat} {a1 : Int32} {K21 : xS → Int32 → Prop} {Q : xS → Prop} (V : xEnv g D (xTys cy) (shM cy) ad RX7 cX7_keeps none 1 22 3 (xQv Q)) (hK21 : ∀ (S : xS) (v2 : Int32), K21 S v2 → Wx g (xW D (shM cy) ad S) 21 [(0, .ref (ad 0 0)), (1, .int a1), (2, .int v2)] []) (S : xS) (v2 : Int32) (h : wp_X7_keeps_21_b a1 K21 Q S v2) : Wx g (xW D (shM cy) ad S) 21 [(0, .ref (ad 0 0)), (1, .int a1), (2, .int v2)] [] := by
  obtain ⟨X, K, hi, hA, hR, E, hN⟩ := V
  have V := xEnv_mk X K hi hA hR E hN
  unfold wp_X7_keeps_21_b at h
  refine x_iload_n X 2 dX7_keeps_21 rfl ?_
  refine x_aload_n X 0 dX7_keeps_22 rfl ?_
  refine xg_X7_281 X K (Nat.zero_lt_one) dX7_keeps_23 ?_
  refine x_icmp_ge X 49 dX7_keeps_26 (by decide) h (fun h => ?_) (fun h => ?_)
  · refine x_iconst X (v := 0) dX7_keeps_49 (by decide) ?_
    refine x_istore_n X [(2, .int (0 : Int32)), (0, .ref (ad 0 0)), (1, .int a1)] dX7_keeps_50 (by rw [hN]; decide) rfl ?_
    refine x_sub [1, 2, 0] rfl ?_
    obtain ⟨n1, h⟩ := h
    exact w_X7_keeps_51 V n1 S (0 : Int32) h
  · refine x_aload_n X 0 dX7_keeps_29 rfl ?_
    refine xg_X7_69 X K (Nat.zero_lt_one) dX7_keeps_30 ?_
    refine x_iload_n X 2 dX7_keeps_33 rfl ?_
    refine x_aload_n X 0 dX7_keeps_34 rfl ?_
    refine xg_X7_69 X K (Nat.zero_lt_one) dX7_keeps_35 ?_
    refine x_iload_n X 2 dX7_keeps_38 rfl ?_
    refine x_iconst X (v := 1) dX7_keeps_39 (by decide) ?_
    refine x_iadd X dX7_keeps_40 ?_
    obtain ⟨hb2, h⟩ := h
    refine xa_M25 X K (show 0 < 1 by decide) hb2 dX7_keeps_41 ?_
    obtain ⟨hb3, h⟩ := h
    refine xs_M25 X K hi hA (show 0 < 1 by decide) hb3 dX7_keeps_42 ?_
    refine x_iinc X 2 [(2, .int (v2 + (1 : Int32))), (0, .ref (ad 0 0)), (1, .int a1)] dX7_keeps_43 rfl rfl (by rw [hN]; decide) rfl ?_
    refine x_goto X 21 dX7_keeps_46 (by decide) ?_
    refine x_sub [1, 2, 0] rfl ?_
    exact hK21 (xI S 25 0 v2.toNatClampNeg (S.1 25 0 (v2 + (1 : Int32)).toNatClampNeg)) (v2 + (1 : Int32)) h
set_option maxHeartbeats 2000000 in
set_option maxRecDepth 20000 in
theorem w_X7_keeps_21 {g : xG} {D : va_G} {cy : Nat → ClassId} {ad : Nat → Nat → Nat} {a1 : Int32} {Q : xS → Prop} (V : xEnv g D (xTys cy) (shM cy) ad RX7 cX7_keeps none 1 22 3 (xQv Q)) (n : Nat) : ∀ (S : xS) (v2 : Int32), wp_X7_keeps_21 a1 Q n S v2 → Wx g (xW D (shM cy) ad S) 21 [(0, .ref (ad 0 0)), (1, .int a1), (2, .int v2)] [] := by
  induction n with
  | zero => intro S v2 h; exact h.elim
  | succ n ih => intro S v2 h; exact w_X7_keeps_21_b V (fun S v2 h => ih S v2 h) S v2 h
set_option maxHeartbeats 2000000 in
set_option maxRecDepth 20000 in
theorem w_X7_keeps {g : xG} {D : va_G} {cy : Nat → ClassId} {ad : Nat → Nat → Nat} {a1 : Int32} {S : xS} {Q : xS → Prop} (V : xEnv g D (xTys cy) (shM cy) ad RX7 cX7_keeps none 1 22 3 (xQv Q)) (h : wp_X7_keeps a1 S Q) : Wx g (xW D (shM cy) ad S) 0 [(0, .ref (ad 0 0)), (1, .int a1)] [] := by
  obtain ⟨X, K, hi, hA, hR, E, hN⟩ := V
  have V := xEnv_mk X K hi hA hR E hN
  unfold wp_X7_keeps at h
  refine x_aload_n X 0 dX7_keeps_0 rfl ?_
  refine xg_X7_281 X K Nat.zero_lt_one dX7_keeps_1 ?_
  refine x_bipush X (v := 6) dX7_keeps_4 (by decide) ?_
  refine x_icmp_ne X 85 dX7_keeps_6 (by decide) h (fun h => ?_) (fun h => ?_)
  · refine x_aload_n X 0 dX7_keeps_9 rfl ?_
    refine x_dup X dX7_keeps_10 rfl ?_
    refine xg_X7_281 X K Nat.zero_lt_one dX7_keeps_11 ?_
    refine x_iconst X (v := 1) dX7_keeps_14 (by decide) ?_
    refine x_isub X dX7_keeps_15 ?_
    refine xp_X7_281 X K hi hA Nat.zero_lt_one dX7_keeps_16 ?_
    refine x_iconst X (v := 0) dX7_keeps_19 (by decide) ?_
    refine x_istore_n X [(2, .int (0 : Int32)), (0, .ref (ad 0 0)), (1, .int a1)] dX7_keeps_20 (by rw [hN]; decide) rfl ?_
    refine x_sub [1, 2, 0] rfl ?_
    obtain ⟨n1, h⟩ := h
    exact w_X7_keeps_21 V n1 (xI S 0 0 23 ((S.1 0 0 23) - (1 : Int32))) (0 : Int32) h
  · refine x_sub [0, 1] rfl ?_
    exact w_X7_keeps_85 V S h
set_option maxHeartbeats 2000000 in
set_option maxRecDepth 20000 in
theorem m_X7_keeps {l : Launch} {D : va_G} {cy : Nat → ClassId} {ad : Nat → Nat → Nat} (hi : xInj (shM cy) ad) {a1 : Int32} {S : xS} {Q : xS → Prop} (h : wp_X7_keeps a1 S Q) : xMet l D (xTys cy) (shM cy) ad yX7_keeps cX7_keeps 3 none (xRm 1 22) [.ref (ad 0 0), .int a1] S (xQv Q) := xMet_env hi (by decide +kernel) rfl (Nat.le_of_ble_eq_true rfl) (fun g hl V => w_X7_keeps V h)
set_option maxHeartbeats 2000000 in
set_option maxRecDepth 20000 in
theorem w_X7_undo_23_b {g : xG} {D : va_G} {cy : Nat → ClassId} {ad : Nat → Nat → Nat} {K23 : xS → Int32 → Prop} {Q : Int32 → xS → Prop} (V : xEnv g D (xTys cy) (shM cy) ad RX7 cX7_undo (some .int) 1 23 2 (xQi Q)) (hK23 : ∀ (S : xS) (v1 : Int32), K23 S v1 → Wx g (xW D (shM cy) ad S) 23 [(0, .ref (ad 0 0)), (1, .int v1)] []) (S : xS) (v1 : Int32) (h : wp_X7_undo_23_b K23 Q S v1) : Wx g (xW D (shM cy) ad S) 23 [(0, .ref (ad 0 0)), (1, .int v1)] [] := by
  obtain ⟨X, K, hi, hA, hR, E, hN⟩ := V
  have V := xEnv_mk X K hi hA hR E hN
  unfold wp_X7_undo_23_b at h
  refine x_iload_n X 1 dX7_undo_23 rfl ?_
  refine x_sipush X (v := 511) dX7_undo_24 (by decide) ?_
  refine x_icmp_ge X 65 dX7_undo_27 (by decide) h (fun h => ?_) (fun h => ?_)
  · refine x_aload_n X 0 dX7_undo_65 rfl ?_
    refine xg_X7_69 X K (Nat.zero_lt_one) dX7_undo_66 ?_
    refine x_aload_n X 0 dX7_undo_69 rfl ?_
    refine xg_X7_281 X K (Nat.zero_lt_one) dX7_undo_70 ?_
    obtain ⟨hb1, h⟩ := h
    refine xa_M25 X K (show 0 < 1 by decide) hb1 dX7_undo_73 ?_
    exact x_iret X E dX7_undo_74 ⟨_, rfl, h⟩
  · refine x_aload_n X 0 dX7_undo_30 rfl ?_
    refine x_aload_n X 0 dX7_undo_31 rfl ?_
    refine xg_X7_69 X K (Nat.zero_lt_one) dX7_undo_32 ?_
    refine x_aload_n X 0 dX7_undo_35 rfl ?_
    refine xg_X7_281 X K (Nat.zero_lt_one) dX7_undo_36 ?_
    obtain ⟨hb2, h⟩ := h
    refine xa_M25 X K (show 0 < 1 by decide) hb2 dX7_undo_39 ?_
    refine x_iload_n X 1 dX7_undo_40 rfl ?_
    refine x_aload_n X 0 dX7_undo_41 rfl ?_
    refine xg_X7_72 X K (Nat.zero_lt_one) dX7_undo_42 ?_
    refine x_sipush X (v := 511) dX7_undo_45 (by decide) ?_
    refine x_aload_n X 0 dX7_undo_48 rfl ?_
    refine xg_X7_281 X K (Nat.zero_lt_one) dX7_undo_49 ?_
    refine x_imul X dX7_undo_52 ?_
    refine x_iload_n X 1 dX7_undo_53 rfl ?_
    refine x_iadd X dX7_undo_54 ?_
    obtain ⟨hb3, h⟩ := h
    refine xa_M26 X K (show 0 < 1 by decide) hb3 dX7_undo_55 ?_
    refine x_callv hA (x_runV (n := 3) (sh := shM cy) X K hR (fun _ q => q) (m_X7_put hi  h) (kM_0 cy (Nat.zero_lt_one)) rfl rfl t4_191 t4_193 tp_29 t1_8 t4_194 ⟨by decide, by decide, by decide +kernel⟩ rfl (by decide) (by decide) rfl (Nat.le_of_ble_eq_true rfl) dX7_undo_56) (fun S4 h => ?_)
    refine x_iinc X 1 [(1, .int (v1 + (1 : Int32))), (0, .ref (ad 0 0))] dX7_undo_59 rfl rfl (by rw [hN]; decide) rfl ?_
    refine x_goto X 23 dX7_undo_62 (by decide) ?_
    refine x_sub [1, 0] rfl ?_
    exact hK23 S4 (v1 + (1 : Int32)) h
set_option maxHeartbeats 2000000 in
set_option maxRecDepth 20000 in
theorem w_X7_undo_23 {g : xG} {D : va_G} {cy : Nat → ClassId} {ad : Nat → Nat → Nat} {Q : Int32 → xS → Prop} (V : xEnv g D (xTys cy) (shM cy) ad RX7 cX7_undo (some .int) 1 23 2 (xQi Q)) (n : Nat) : ∀ (S : xS) (v1 : Int32), wp_X7_undo_23 Q n S v1 → Wx g (xW D (shM cy) ad S) 23 [(0, .ref (ad 0 0)), (1, .int v1)] [] := by
  induction n with
  | zero => intro S v1 h; exact h.elim
  | succ n ih => intro S v1 h; exact w_X7_undo_23_b V (fun S v1 h => ih S v1 h) S v1 h
set_option maxHeartbeats 2000000 in
set_option maxRecDepth 20000 in
theorem w_X7_undo {g : xG} {D : va_G} {cy : Nat → ClassId} {ad : Nat → Nat → Nat} {S : xS} {Q : Int32 → xS → Prop} (V : xEnv g D (xTys cy) (shM cy) ad RX7 cX7_undo (some .int) 1 23 2 (xQi Q)) (h : wp_X7_undo S Q) : Wx g (xW D (shM cy) ad S) 0 [(0, .ref (ad 0 0))] [] := by
  obtain ⟨X, K, hi, hA, hR, E, hN⟩ := V
  have V := xEnv_mk X K hi hA hR E hN
  unfold wp_X7_undo at h
  refine x_aload_n X 0 dX7_undo_0 rfl ?_
  refine xg_X7_281 X K Nat.zero_lt_one dX7_undo_1 ?_
  refine x_if_ne X 11 dX7_undo_4 (by decide) h (fun h => ?_) (fun h => ?_)
  · refine x_ldc_w X (v := -1000008) t5_151 dX7_undo_7 ?_
    exact x_iret X E dX7_undo_10 ⟨_, rfl, h⟩
  · refine x_aload_n X 0 dX7_undo_11 rfl ?_
    refine x_dup X dX7_undo_12 rfl ?_
    refine xg_X7_281 X K Nat.zero_lt_one dX7_undo_13 ?_
    refine x_iconst X (v := 1) dX7_undo_16 (by decide) ?_
    refine x_isub X dX7_undo_17 ?_
    refine xp_X7_281 X K hi hA Nat.zero_lt_one dX7_undo_18 ?_
    refine x_iconst X (v := 0) dX7_undo_21 (by decide) ?_
    refine x_istore_n X [(1, .int (0 : Int32)), (0, .ref (ad 0 0))] dX7_undo_22 (by rw [hN]; decide) rfl ?_
    refine x_sub [1, 0] rfl ?_
    obtain ⟨n1, h⟩ := h
    exact w_X7_undo_23 V n1 (xI S 0 0 23 ((S.1 0 0 23) - (1 : Int32))) (0 : Int32) h
set_option maxHeartbeats 2000000 in
set_option maxRecDepth 20000 in
theorem m_X7_undo {l : Launch} {D : va_G} {cy : Nat → ClassId} {ad : Nat → Nat → Nat} (hi : xInj (shM cy) ad) {S : xS} {Q : Int32 → xS → Prop} (h : wp_X7_undo S Q) : xMet l D (xTys cy) (shM cy) ad yX7_undo cX7_undo 2 (some .int) (xRm 1 23) [.ref (ad 0 0)] S (xQi Q) := xMet_env hi (by decide +kernel) rfl (Nat.le_of_ble_eq_true rfl) (fun g hl V => w_X7_undo V h)
set_option maxHeartbeats 2000000 in
set_option maxRecDepth 20000 in
theorem w_X7_removeTuple_15_b {g : xG} {D : va_G} {cy : Nat → ClassId} {ad : Nat → Nat → Nat} {a1 : Int32} {K15 : xS → Int32 → Int32 → Prop} {Q : xS → Prop} (V : xEnv g D (xTys cy) (shM cy) ad RX7 cX7_removeTuple none 1 23 5 (xQv Q)) (hK15 : ∀ (S : xS) (v3 : Int32) (v4 : Int32), K15 S v3 v4 → Wx g (xW D (shM cy) ad S) 15 [(0, .ref (ad 0 0)), (1, .int a1), (3, .int v3), (4, .int v4)] []) (S : xS) (v3 : Int32) (v4 : Int32) (h : wp_X7_removeTuple_15_b a1 K15 Q S v3 v4) : Wx g (xW D (shM cy) ad S) 15 [(0, .ref (ad 0 0)), (1, .int a1), (3, .int v3), (4, .int v4)] [] := by
  obtain ⟨X, K, hi, hA, hR, E, hN⟩ := V
  have V := xEnv_mk X K hi hA hR E hN
  unfold wp_X7_removeTuple_15_b at h
  refine x_iload X 3 dX7_removeTuple_15 rfl ?_
  refine x_iload_n X 2 dX7_removeTuple_17 rfl ?_
  refine x_calli hA (x_runS (n := 1) X K hR (fun _ q => q) (m_X7_tupleAt hi  h) t4_236 t4_237 t1_8 t4_238 ⟨by decide, by decide, by decide +kernel⟩ rfl (by decide) (by decide) rfl (Nat.le_of_ble_eq_true rfl) dX7_removeTuple_18) (fun r2 S1 h => ?_)
  refine x_icmp_ge X 47 dX7_removeTuple_21 (by decide) h (fun h => ?_) (fun h => ?_)
  · refine x_aload_n X 0 dX7_removeTuple_47 rfl ?_
    refine x_iload_n X 1 dX7_removeTuple_48 rfl ?_
    refine x_iconst X (v := 3) dX7_removeTuple_49 (by decide) ?_
    refine x_iload_n X 2 dX7_removeTuple_50 rfl ?_
    refine x_callv hA (x_runV (n := 3) (sh := shM cy) X K hR (fun _ q => q) (m_X7_put hi  h) (kM_0 cy (Nat.zero_lt_one)) rfl rfl t4_191 t4_193 tp_29 t1_8 t4_194 ⟨by decide, by decide, by decide +kernel⟩ rfl (by decide) (by decide) rfl (Nat.le_of_ble_eq_true rfl) dX7_removeTuple_51) (fun S3 h => ?_)
    exact x_vret X E dX7_removeTuple_54 ⟨rfl, h⟩
  · refine x_aload_n X 0 dX7_removeTuple_24 rfl ?_
    refine x_iload_n X 1 dX7_removeTuple_25 rfl ?_
    refine x_iload X 3 dX7_removeTuple_26 rfl ?_
    refine x_aload_n X 0 dX7_removeTuple_28 rfl ?_
    refine x_iload_n X 1 dX7_removeTuple_29 rfl ?_
    refine x_iload X 3 dX7_removeTuple_30 rfl ?_
    refine x_bipush X (v := 87) dX7_removeTuple_32 (by decide) ?_
    refine x_iadd X dX7_removeTuple_34 ?_
    refine x_calli hA (x_runV (n := 2) (sh := shM cy) X K hR (fun _ q => q) (m_X7_of hi  h) (kM_0 cy (Nat.zero_lt_one)) rfl rfl t4_208 t4_210 tp_31 t1_8 t4_211 ⟨by decide, by decide, by decide +kernel⟩ rfl (by decide) (by decide) rfl (Nat.le_of_ble_eq_true rfl) dX7_removeTuple_35) (fun r6 S5 h => ?_)
    refine x_callv hA (x_runV (n := 3) (sh := shM cy) X K hR (fun _ q => q) (m_X7_put hi  h) (kM_0 cy (Nat.zero_lt_one)) rfl rfl t4_191 t4_193 tp_29 t1_8 t4_194 ⟨by decide, by decide, by decide +kernel⟩ rfl (by decide) (by decide) rfl (Nat.le_of_ble_eq_true rfl) dX7_removeTuple_38) (fun S7 h => ?_)
    refine x_iinc X 3 [(4, .int (v4 + (1 : Int32))), (0, .ref (ad 0 0)), (1, .int a1), (3, .int v3)] dX7_removeTuple_41 rfl rfl (by rw [hN]; decide) rfl ?_
    refine x_goto X 15 dX7_removeTuple_44 (by decide) ?_
    refine x_sub [1, 2, 3, 0] rfl ?_
    exact hK15 S7 v3 (v4 + (1 : Int32)) h
set_option maxHeartbeats 2000000 in
set_option maxRecDepth 20000 in
theorem w_X7_removeTuple_15 {g : xG} {D : va_G} {cy : Nat → ClassId} {ad : Nat → Nat → Nat} {a1 : Int32} {Q : xS → Prop} (V : xEnv g D (xTys cy) (shM cy) ad RX7 cX7_removeTuple none 1 23 5 (xQv Q)) (n : Nat) : ∀ (S : xS) (v3 : Int32) (v4 : Int32), wp_X7_removeTuple_15 a1 Q n S v3 v4 → Wx g (xW D (shM cy) ad S) 15 [(0, .ref (ad 0 0)), (1, .int a1), (3, .int v3), (4, .int v4)] [] := by
  induction n with
  | zero => intro S v3 v4 h; exact h.elim
  | succ n ih => intro S v3 v4 h; exact w_X7_removeTuple_15_b V (fun S v3 v4 h => ih S v3 v4 h) S v3 v4 h
set_option maxHeartbeats 2000000 in
set_option maxRecDepth 20000 in
theorem w_X7_removeTuple {g : xG} {D : va_G} {cy : Nat → ClassId} {ad : Nat → Nat → Nat} {a1 : Int32} {a2 : Int32} {S : xS} {Q : xS → Prop} (V : xEnv g D (xTys cy) (shM cy) ad RX7 cX7_removeTuple none 1 23 5 (xQv Q)) (h : wp_X7_removeTuple a1 a2 S Q) : Wx g (xW D (shM cy) ad S) 0 [(0, .ref (ad 0 0)), (1, .int a1), (2, .int a2)] [] := by
  obtain ⟨X, K, hi, hA, hR, E, hN⟩ := V
  have V := xEnv_mk X K hi hA hR E hN
  unfold wp_X7_removeTuple at h
  refine x_aload_n X 0 dX7_removeTuple_0 rfl ?_
  refine x_iload_n X 1 dX7_removeTuple_1 rfl ?_
  refine x_iconst X (v := 3) dX7_removeTuple_2 (by decide) ?_
  refine x_calli hA (x_runV (n := 2) (sh := shM cy) X K hR (fun _ q => q) (m_X7_of hi  h) (kM_0 cy Nat.zero_lt_one) rfl rfl t4_208 t4_210 tp_31 t1_8 t4_211 ⟨by decide, by decide, by decide +kernel⟩ rfl (by decide) (by decide) rfl (Nat.le_of_ble_eq_true rfl) dX7_removeTuple_3) (fun r2 S1 h => ?_)
  refine x_iconst X (v := 1) dX7_removeTuple_6 (by decide) ?_
  refine x_isub X dX7_removeTuple_7 ?_
  refine x_istore_n X [(3, .int (r2 - (1 : Int32))), (0, .ref (ad 0 0)), (1, .int a1), (2, .int a2)] dX7_removeTuple_8 (by rw [hN]; decide) rfl ?_
  refine x_iload_n X 3 dX7_removeTuple_9 rfl ?_
  refine x_calli hA (x_runS (n := 1) X K hR (fun _ q => q) (m_X7_tupleAt hi  h) t4_236 t4_237 t1_8 t4_238 ⟨by decide, by decide, by decide +kernel⟩ rfl (by decide) (by decide) rfl (Nat.le_of_ble_eq_true rfl) dX7_removeTuple_10) (fun r4 S3 h => ?_)
  refine x_istore X [(4, .int r4), (3, .int (r2 - (1 : Int32))), (0, .ref (ad 0 0)), (1, .int a1), (2, .int a2)] dX7_removeTuple_13 (by rw [hN]; decide) rfl ?_
  refine x_sub [2, 3, 1, 0] rfl ?_
  obtain ⟨n5, h⟩ := h
  exact w_X7_removeTuple_15 V n5 S3 (r2 - (1 : Int32)) r4 h
set_option maxHeartbeats 2000000 in
set_option maxRecDepth 20000 in
theorem m_X7_removeTuple {l : Launch} {D : va_G} {cy : Nat → ClassId} {ad : Nat → Nat → Nat} (hi : xInj (shM cy) ad) {a1 : Int32} {a2 : Int32} {S : xS} {Q : xS → Prop} (h : wp_X7_removeTuple a1 a2 S Q) : xMet l D (xTys cy) (shM cy) ad yX7_removeTuple cX7_removeTuple 5 none (xRm 1 23) [.ref (ad 0 0), .int a1, .int a2] S (xQv Q) := xMet_env hi (by decide +kernel) rfl (Nat.le_of_ble_eq_true rfl) (fun g hl V => w_X7_removeTuple V h)
