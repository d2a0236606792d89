/- what a drawing leaves -/
def ScS (S S' : xS) : Prop := (∀ k, k ≠ 4 → k ≠ 23 → k ≠ 30 → S'.1 k = S.1 k) ∧ (∀ a, S'.1 30 0 a = S.1 30 0 a ∧ S'.1 30 1 a = S.1 30 1 a) ∧ S'.2.2 = S.2.2
def ScM (M M' : xS) : Prop := (∀ k, k ≠ 0 → k ≠ 12 → k ≠ 13 → k ≠ 18 → k ≠ 19 → k ≠ 22 → k ≠ 23 → M'.1 k = M.1 k) ∧ (∀ j, j ≠ 13 → j ≠ 14 → M'.1 0 0 j = M.1 0 0 j)
theorem ScS.refl (S : xS) : ScS S S := ⟨fun _ _ _ _ => rfl, fun _ => ⟨rfl, rfl⟩, rfl⟩
theorem ScM.refl (S : xS) : ScM S S := ⟨fun _ _ _ _ _ _ _ _ => rfl, fun _ _ _ => rfl⟩
theorem ScS.trans {S S' S'' : xS} (h : ScS S S') (h2 : ScS S' S'') : ScS S S'' := ⟨fun k a b c => (h2.1 k a b c).trans (h.1 k a b c), fun a => ⟨(h2.2.1 a).1.trans (h.2.1 a).1, (h2.2.1 a).2.trans (h.2.1 a).2⟩, h2.2.2.trans h.2.2⟩
theorem ScM.trans {S S' S'' : xS} (h : ScM S S') (h2 : ScM S' S'') : ScM S S'' := ⟨fun k a b c d e f g => (h2.1 k a b c d e f g).trans (h.1 k a b c d e f g), fun j a b => (h2.2 j a b).trans (h.2 j a b)⟩
theorem OutS.sc {S S' : xS} {o : Nat} {a : xOS} (h : OutS S S' o a) : ScS S S' := ⟨fun k a b _ => h.1 k a b, fun a => by rw [h.1 30 (by omega) (by omega)]; exact ⟨rfl, rfl⟩, h.2.2.1⟩
theorem OutM.sc {M M' : xS} {a : xOS} (h : OutM M M' a) : ScM M M' := ⟨fun k a _ _ b c _ _ => h.1 k a b c, h.2.1⟩
theorem Inv.sc {n : Nat} {S M S' M' : xS} (I : Inv n S M) (h : ScS S S') (h2 : ScM M M') : Inv (n + 1) S' M' :=
  I.scr (fun k hk => h.1 k (by unfold kG at hk; omega) (by unfold kG at hk; omega) (by unfold kG at hk; omega)) (by rw [h.1 3 (by omega) (by omega) (by omega)]) h.2.1 (by rw [h.2.2]) (by rw [h.2.2])
    (fun k hk => h2.1 k (by omega) (by omega) (by omega) (by omega) (by omega) (by omega) (by omega)) (fun j hj => h2.2 j (by omega) (by omega))
theorem Inv.locS {n : Nat} {S M : xS} (I : Inv n S M) : ∀ a, a < cntM M 0 → M.1 5 0 a = S.1 30 0 a := fun a ha => ((I.1.2.1 a ha).2.2.2.1.1).symm
def dwA (S M : xS) (g : Nat) : xOS := otD M (fun i => S.1 30 0 i) 7 g 0 0 ([], 0)
theorem drawn_ctx {n : Nat} {S M : xS} (I : Inv n S M) (hn : n ≤ 600) :
    (∀ z, z < cntM M 9 → GlRel S z (mrow M z) ∧ RowOk (cntM M 0) z (mrow M z) ∧ ∀ t, t < 5 → S.2.2 16 z t < 60) ∧ (∀ z, z < cntM M 9 → RowOk (cntM M 0) z (mrow M z) ∧ BdP (mrow M z)) ∧
    (∀ z, z < cntM M 9 → ptsOf M 7 z ≤ 96 ∧ ptsOf M 7 z = ptsOf M 6 z ∧ ctsOf M 7 z = ctsOf M 6 z) := by
  obtain ⟨⟨b1, b2, b3⟩, b4, b5, b6⟩ := I.2.1
  have hP : PN n ≤ PP := by unfold PN PP; omega
  refine ⟨fun z hz => ⟨(b5 z hz).1, (b5 z hz).2.1, fun t ht => by have := b4.1 z (by omega) t ht; omega⟩, fun z hz => ⟨(b5 z hz).2.1, (b5 z hz).2.2.p hP (b5 z hz).2.1.2.2.2.1.1⟩, fun z hz => ?_⟩
  obtain ⟨e1, e2⟩ := fuel_s (M := M) b1 (fun z hz => (b5 z hz).2.1) 6 z hz (by omega)
  have e1 : ptsOf M 7 z = ptsOf M 6 z := e1
  have := I.2.2.2.2.2.1 z hz
  exact ⟨by omega, e1, e2⟩
theorem drawn_6 {n : Nat} {S M : xS} (I : Inv n S M) (hn : n ≤ 600) {g : Nat} (hg : g < cntM M 9) {Q : Nat → xS → Prop} (k : ∀ S', OutS S S' 0 (dwA S M g) → Q 0 S') : wp_X6_drawnPresent (nI g) S Q := by
  obtain ⟨h1, h2, h3⟩ := drawn_ctx I hn
  exact v6_drawn I.2.1.1.1 h1 (fun _ _ => rfl) hg (h3 g hg).1 k
theorem drawn_7 {n : Nat} {S M : xS} (I : Inv n S M) (hn : n ≤ 600) {g : Nat} (hg : g < cntM M 9) {Q : xS → Prop} (k : ∀ M', OutM M M' (dwA S M g) → Q M') : wp_X7_layOutline (nI g) M Q := by
  obtain ⟨h1, h2, h3⟩ := drawn_ctx I hn
  exact w7_layOutline I.2.1.1.1 I.1.1.1 I.1.1.2.1 h2 I.locS hg (h3 g hg).1 k
theorem dwA_ok {n : Nat} {S M : xS} (I : Inv n S M) (hn : n ≤ 600) {g : Nat} (hg : g < cntM M 9) : (dwA S M g).1.length ≤ 96 ∧ (dwA S M g).2 ≤ (dwA S M g).1.length ∧ CtB (dwA S M g) ∧ (dwA S M g).1.length = ptsOf M 7 g ∧ (dwA S M g).2 = ctsOf M 7 g := by
  obtain ⟨h1, h2, h3⟩ := drawn_ctx I hn
  have e := otD_len M (fun i => S.1 30 0 i) 7 g 0 0 ([], 0)
  have e1 : (dwA S M g).1.length = ptsOf M 7 g := by
    have : (dwA S M g).1.length = 0 + ptsOf M 7 g := e.1
    omega
  have e2 : (dwA S M g).2 = ctsOf M 7 g := by
    have : (dwA S M g).2 = 0 + ctsOf M 7 g := e.2
    omega
  have := ctsOf_le M 7 g
  have := (h3 g hg).1
  exact ⟨by omega, by omega, otD_ctb 7 g 0 0 ([], 0) (fun p hp => absurd hp (by simp)), e1, e2⟩
theorem lost_k {A : xS → Prop} {M : xS} (k : A M) : wp_X7_lost M (fun r S => if (lg_cmp (-9223372036854775808) r) = 0 then A S else False) := by
  have h : ∀ Q : Int64 → xS → Prop, Q (-9223372036854775808) M → wp_X7_lost M Q := fun Q k => k
  exact h _ (gt (by rw [cmp_eq0]) k)
theorem op_outline {n : Nat} {S M : xS} {K : xS → xS → Prop} (I : Inv n S M) (hn : n ≤ 600) (a b c : Int32) (hK : ∀ S' M', Inv (n + 1) S' M' → K S' M') :
    wp_X6_outline a b c S (fun r1 S1 => wp_X7_outline a b c M (fun r2 M1 => if (lg_cmp r1 r2) = 0 then K S1 M1 else False)) := by
  obtain ⟨⟨b1, b2, b3⟩, b4, b5, b6⟩ := I.2.1
  have hS1 := b3.trans b2
  have z0 : (0 : Int32).toInt = 0 := rfl
  have z2 : (2 : Int32).toInt = 2 := rfl
  have y0 : (0 : Int64).toInt = 0 := rfl
  have y2 : (2 : Int64).toInt = 2 := rfl
  by_cases ca : 0 ≤ a.toInt ∧ a.toInt < cntM M 9
  rotate_left
  · exact op_ofL (w6 := wp_X6_outline a b c S) (w7 := wp_X7_outline a b c M) (r := -9223372036854775808) (fun Q k => v6_hasGlyph_f b1 hS1 ca (g0 k)) (fun Q k => v7_noGlyph_f b1 b2 ca (g1 k)) (hK _ _ I.next)
  obtain ⟨g, rfl, eg, hgg⟩ := vv_nat ca.1
  have hg : g < cntM M 9 := by omega
  obtain ⟨o1, o2, o3, o4, o5⟩ := dwA_ok I hn hg
  by_cases cc : 0 ≤ c.toInt ∧ c.toInt ≤ 2
  rotate_left
  · exact op_ofL (w6 := wp_X6_outline (nI g) b c S) (w7 := wp_X7_outline (nI g) b c M) (r := -9223372036854775808) (fun Q k => v6_hasGlyph_t b1 hS1 hg (g1 (v6_within_f (by rw [z0, z2]; exact cc) (g0 k)))) (fun Q k => v7_noGlyph_t b1 b2 hg (g0 (v7_in_f (by rw [i2l_toInt, y0, y2]; exact cc) (g0 k)))) (hK _ _ I.next)
  refine v6_hasGlyph_t b1 hS1 hg (g1 (v6_within_t (by rw [z0, z2]; exact cc) (g1 (drawn_6 I hn hg (fun S' hO _ => ?_)))))
  have p7 : ∀ Q : Int64 → xS → Prop, (∀ M', OutM M M' (dwA S M g) → wp_X7_in (Int32.toInt64 b) 0 ((Int32.toInt64 (M'.1 0 0 13)) - 1) M' (fun r8 S7 => (if r8 = 0 then (wp_X7_lost S7 (fun r10 S9 => (Q r10 S9))) else (if c = 0 then (vp_in b 96 ∧ (wp_X7_outline_83 Q S7 (S7.2.1 16 0 b.toNatClampNeg))) else (if c = 1 then (vp_in b 96 ∧ (wp_X7_outline_83 Q S7 (S7.2.1 17 0 b.toNatClampNeg))) else (vp_in b 96 ∧ (wp_X7_outline_83 Q S7 (Int32.toInt64 (S7.1 18 0 b.toNatClampNeg))))))))) → wp_X7_outline (nI g) b c M Q := fun Q k =>
    v7_noGlyph_t b1 b2 hg (g0 (v7_in_t (by rw [i2l_toInt, y0, y2]; exact cc) (g1 (drawn_7 I hn hg k))))
  rw [hO.2.2.2.1]
  by_cases cb : 0 ≤ b.toInt ∧ b.toInt ≤ ((dwA S M g).1.length : Int) - 1
  rotate_left
  · refine v6_within_f (by rw [l32_sub1 (by omega), z0]; exact cb) (g0 (p7 _ (fun M' hM => ?_)))
    rw [hM.2.2.1]
    exact v7_in_f (by rw [l64_sub1 (by omega), y0, i2l_toInt]; exact cb) (g0 (lost_k (A := fun m => K S' m) (hK _ _ (I.sc hO.sc hM.sc))))
  refine v6_within_t (by rw [l32_sub1 (by omega), z0]; exact cb) (g1 ?_)
  obtain ⟨j, rfl, ej, hjj⟩ := vv_nat cb.1
  have hj : j < (dwA S M g).1.length := by omega
  have hin := vv_in (k := j) (N := 96) (by omega) (by omega)
  obtain ⟨x1, x2, x3⟩ := hO.2.2.2.2.2.to hj
  have q7 : ∀ Q : Int64 → xS → Prop, (∀ M', OutM M M' (dwA S M g) → (if c = 0 then Q (lX (dwA S M g).1 j) M' else if c = 1 then Q (lY (dwA S M g).1 j) M' else Q (Int32.toInt64 (nI (lC (dwA S M g).1 j))) M')) → wp_X7_outline (nI g) (nI j) c M Q := fun Q k => p7 Q (fun M' hM => by
    have k' := k M' hM
    obtain ⟨y1, y2, y3⟩ := hM.2.2.2.2.to hj
    rw [hM.2.2.1]
    refine v7_in_t (by rw [l64_sub1 (by omega), y0, i2l_toInt]; exact cb) (g1 ?_)
    rw [vv_clI (by omega), y1, y2, y3]
    by_cases c0 : c = 0
    · rw [if_pos c0] at k'; exact gt c0 ⟨hin, k'⟩
    · rw [if_neg c0] at k'
      refine gf c0 ?_
      by_cases c1 : c = 1
      · rw [if_pos c1] at k'; exact gt c1 ⟨hin, k'⟩
      · rw [if_neg c1] at k'; exact gf c1 ⟨hin, k'⟩)
  rw [vv_clI (by omega), x1, x2, x3]
  by_cases c0 : c = 0
  · exact gt c0 ⟨hin, q7 _ (fun M' hM => gt c0 (gt (by rw [cmp_eq0]) (hK _ _ (I.sc hO.sc hM.sc))))⟩
  · refine gf c0 ?_
    by_cases c1 : c = 1
    · exact gt c1 ⟨hin, q7 _ (fun M' hM => gf c0 (gt c1 (gt (by rw [cmp_eq0]) (hK _ _ (I.sc hO.sc hM.sc)))))⟩
    · exact gf c1 ⟨hin, q7 _ (fun M' hM => gf c0 (gf c1 (gt (by rw [cmp_eq0]) (hK _ _ (I.sc hO.sc hM.sc)))))⟩
theorem op_area {n : Nat} {S M : xS} {K : xS → xS → Prop} (I : Inv n S M) (hn : n ≤ 600) (a b : Int32) (hK : ∀ S' M', Inv (n + 1) S' M' → K S' M') :
    wp_X6_area a b S (fun r1 S1 => wp_X7_area a b M (fun r2 M1 => if (lg_cmp r1 r2) = 0 then K S1 M1 else False)) := by
  obtain ⟨⟨b1, b2, b3⟩, b4, b5, b6⟩ := I.2.1
  have hS1 := b3.trans b2
  have z1 : (-1 : Int32).toInt = -1 := rfl
  have y1 : (-1 : Int64).toInt = -1 := rfl
  by_cases ca : 0 ≤ a.toInt ∧ a.toInt < cntM M 9
  rotate_left
  · exact op_ofL (w6 := wp_X6_area a b S) (w7 := wp_X7_area a b M) (r := -9223372036854775808) (fun Q k => v6_hasGlyph_f b1 hS1 ca (g0 k)) (fun Q k => v7_noGlyph_f b1 b2 ca (g1 k)) (hK _ _ I.next)
  obtain ⟨g, rfl, eg, hgg⟩ := vv_nat ca.1
  have hg : g < cntM M 9 := by omega
  obtain ⟨o1, o2, o3, o4, o5⟩ := dwA_ok I hn hg
  refine v6_hasGlyph_t b1 hS1 hg (g1 (drawn_6 I hn hg (fun S' hO _ => ?_)))
  rw [hO.2.2.2.2.1]
  by_cases cb : -1 ≤ b.toInt ∧ b.toInt ≤ ((dwA S M g).2 : Int) - 1
  rotate_left
  · refine v6_within_f (by rw [l32_sub1 (by omega), z1]; exact cb) (g0 (v7_noGlyph_t b1 b2 hg (g0 (drawn_7 I hn hg (fun M' hM => ?_)))))
    rw [hM.2.2.2.1]
    exact v7_in_f (by rw [l64_sub1 (by omega), y1, i2l_toInt]; exact cb) (g0 (lost_k (A := fun m => K S' m) (hK _ _ (I.sc hO.sc hM.sc))))
  refine v6_within_t (by rw [l32_sub1 (by omega), z1]; exact cb) (g1 ?_)
  have q7 : ∀ (sel : Nat → Bool) (Q : Int64 → xS → Prop), (∀ c, c < 1000 → (b < 0 ∨ nI c = b) = (sel c = true)) → (∀ M', OutM M M' (dwA S M g) → Q (arL (dwA S M g).1 sel) M') → wp_X7_area (nI g) b M Q := fun sel Q hs k => by
    refine v7_noGlyph_t b1 b2 hg (g0 (drawn_7 I hn hg (fun M' hM => ?_)))
    rw [hM.2.2.2.1]
    exact v7_in_t (by rw [l64_sub1 (by omega), y1, i2l_toInt]; exact cb) (g1 (w7_areaOf hM.2.2.1 hM.2.2.2.2 o1 o3 (by omega) hs (k M' hM)))
  by_cases c1 : b = -1
  · refine gt c1 (w4_whole hO.2.2.2.1 hO.2.2.2.2.1 hO.2.2.2.2.2 o1 o3 (by omega) (q7 _ _ (fun c _ => ?_) (fun M' hM => gt (by rw [cmp_eq0]) (hK _ _ (I.sc hO.sc hM.sc)))))
    rw [c1]
    exact propext ⟨fun _ => rfl, fun _ => Or.inl (by decide)⟩
  · have hb0 : 0 ≤ b.toInt := by
      have : b.toInt ≠ -1 := fun e => c1 (Int32.toInt_inj.mp (e.trans z1.symm))
      omega
    obtain ⟨j, rfl, ej, hjj⟩ := vv_nat hb0
    refine gf c1 (w4_area hO.2.2.2.1 hO.2.2.2.2.2 o1 o3 (by omega) (sel := fun c => decide (c = j)) (fun c hc => by rw [vv_eq (by omega) (by omega), decide_eq_true_eq]) (q7 _ _ (fun c hc => ?_) (fun M' hM => gt (by rw [cmp_eq0]) (hK _ _ (I.sc hO.sc hM.sc)))))
    rw [vv_eq (by omega) (by omega), decide_eq_true_eq]
    have : ¬ nI j < 0 := by rw [nl0, vv_lt (by omega) (by omega)]; omega
    exact propext ⟨fun h => h.resolve_left this, Or.inr⟩
