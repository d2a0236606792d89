def RemP (S S' : xS) (g c : Nat) (r : Nat → Int32) : Prop :=
  (∀ k, k ≠ 2 → k ≠ 17 → ¬ kG k → S'.1 k = S.1 k) ∧ S'.2.1 = S.2.1 ∧ (∀ k, k ≠ 18 → S'.2.2 k = S.2.2 k) ∧ S'.1 2 0 0 = nI (hC c + 1) ∧ (∀ i, i < hC c → S'.1 17 0 i = S.1 17 0 (i + hS c)) ∧ S'.1 17 0 (hC c) = nI g ∧ (∀ i, i < 6 → S'.2.2 18 0 i = rot (S.2.2 18 0) c i) ∧ GlRel S' (rot (S.2.2 18 0) c (hC c)) r ∧ (∀ k z, k = 1 ∨ 12 ≤ k ∧ k ≤ 15 → z ≠ rot (S.2.2 18 0) c (hC c) → S'.1 k z = S.1 k z) ∧ (∀ k z, k = 5 ∨ 24 ≤ k ∧ k ≤ 28 → z < 5 * rot (S.2.2 18 0) c (hC c) ∨ 5 * rot (S.2.2 18 0) c (hC c) + 5 ≤ z → S'.1 k z = S.1 k z)
def KeepP (M M' : xS) (g c : Nat) : Prop :=
  (∀ k, k ≠ 0 → k ≠ 25 → k ≠ 26 → M'.1 k = M.1 k) ∧ (∀ j, j ≠ 23 → M'.1 0 0 j = M.1 0 0 j) ∧ M'.1 0 0 23 = nI (hC c + 1) ∧ (∀ i, i < hC c → M'.1 25 0 i = M.1 25 0 (i + hS c) ∧ ∀ x, x < 511 → krow M' i x = krow M (i + hS c) x) ∧ M'.1 25 0 (hC c) = nI g ∧ (∀ x, x < 511 → krow M' (hC c) x = mrow M g x)
theorem keep_inv {n : Nat} {S M S' M' : xS} (I : Inv n S M) {g : Nat} (hg : g < cntM M 9) (hR : RemP S S' g (cntM M 23) (mrow M g)) (hM : KeepP M M' g (cntM M 23)) : Inv n S' M' := by
  obtain ⟨a1, ⟨⟨b1, b2, b3⟩, b4, b5, b6⟩, ⟨⟨c1, c2, c3⟩, c4⟩, a4, a5, ⟨a6, a7, a8⟩⟩ := I
  obtain ⟨d1, d2, d3⟩ := b5 g hg
  obtain ⟨s1, s2, s3, s4, s5, s6, s7, s8, s9, s10⟩ := hR
  obtain ⟨m1, m2, m3, m4, m5, m6⟩ := hM
  obtain ⟨ro1, ro2, ro3⟩ := rot_ok (f := S.2.2 18 0) (c := cntM M 23) b4.2.2.1 b4.2.2.2
  have hCle : hC (cntM M 23) < 6 := by unfold hC; split <;> omega
  have hCS : ∀ i, i < hC (cntM M 23) → i + hS (cntM M 23) < cntM M 23 := by
    intro i hi
    unfold hC at hi
    unfold hS
    by_cases q : cntM M 23 = 6
    · rw [if_pos q] at hi; rw [if_pos q]; omega
    · rw [if_neg q] at hi; rw [if_neg q]; omega
  have hlast := ro1 (hC (cntM M 23)) hCle
  have e0 : cntM M' 0 = cntM M 0 := by unfold cntM; rw [m2 0 (by omega)]
  have e9 : cntM M' 9 = cntM M 9 := by unfold cntM; rw [m2 9 (by omega)]
  have e23 : cntM M' 23 = hC (cntM M 23) + 1 := by
    show (M'.1 0 0 23).toNatClampNeg = _
    rw [m3, vv_clI (by omega)]
  have nk : ∀ k, k = 0 ∨ k = 3 ∨ k = 6 ∨ k = 10 ∨ k = 11 ∨ k = 19 ∨ k = 30 ∨ k = 33 → S'.1 k = S.1 k := fun k hk => s1 k (by omega) (by omega) (by unfold kG; omega)
  have er : ∀ z, mrow M' z = mrow M z := fun z => by unfold mrow; rw [m1 11 (by omega) (by omega) (by omega)]
  have e16 : S'.2.2 16 = S.2.2 16 := s3 16 (by omega)
  have glf : ∀ {G : Nat} {r r' : Nat → Int32}, G < 12 → G ≠ rot (S.2.2 18 0) (cntM M 23) (hC (cntM M 23)) → GlRel S G r → rN r ≤ 24 → rT r ≤ 5 → (∀ x, x < 511 → r' x = r x) → GlRel S' G r' := by
    intro G r r' hG12 hne h hn hT hr
    have hid := fun t (ht : t < 5) => b4.1 G hG12 t ht
    exact h.fr hn hT (fun k hk => s9 k G hk hne) (fun t _ => by rw [e16]) (fun t ht k hk => s10 k _ hk (by have := hid t ht; omega)) hr
  refine ⟨a1.fr (fun k hk => nk k (by omega)) (by rw [nk 6 (by omega)]) (fun k h1 h2 => m1 k (by omega) (by omega) (by omega)) (m2 0 (by omega)), ⟨⟨by rw [e9]; exact b1, by rw [m2 9 (by omega), e9]; exact b2, by rw [nk 6 (by omega), m2 9 (by omega)]; exact b3⟩, ⟨by rw [e16]; exact b4.1, by rw [e16]; exact b4.2.1, fun i hi => by rw [s7 i hi]; exact ro1 i hi, fun i j hi hj q => by rw [s7 i hi, s7 j hj] at q; exact ro2 i j hi hj q⟩, fun z hz => ?_, fun z hz hz6 => ?_⟩,
    ⟨⟨by rw [e23]; omega, by rw [m3, e23], by rw [s4, m3]⟩, fun i hi => ?_⟩, a4.fr (by rw [nk 6 (by omega)]) (nk 33 (by omega)) (m1 34 (by omega) (by omega) (by omega)) (m2 32 (by omega)), a5.fr (by rw [nk 3 (by omega)]) (nk 19 (by omega)) (m1 36 (by omega) (by omega) (by omega)) (m2 34 (by omega)), ⟨fun z hz => ?_, fun i x hi hx hx9 => ?_, fun i j hij hj q => ?_⟩⟩
  · rw [e9] at hz
    rw [er, e0]
    obtain ⟨x1, x2, x3⟩ := b5 z hz
    exact ⟨glf (by omega) (by omega) x1 x2.2.1.1 x2.2.2.2.1.1 (fun _ _ => rfl), x2, x3⟩
  · rw [e9] at hz
    rw [er, s9 1 z (by omega) (by omega), s9 13 z (by omega) (by omega)]
    exact b6 z hz hz6
  · rw [e23] at hi
    by_cases ei : i = hC (cntM M 23)
    · rw [ei]
      refine ⟨g, m5, s6, by rw [e9]; exact hg, ?_, ?_, ?_⟩
      · rw [s7 _ hCle]
        exact s8.fr d2.2.1.1 d2.2.2.2.1.1 (fun _ _ => rfl) (fun _ _ => rfl) (fun _ _ _ _ => rfl) m6
      · rw [e0]; exact d2.fr (Nat.le_refl _) m6
      · exact d3.fr (Int.le_refl _) d2.2.1.1 d2.2.2.2.1.1 m6
    · have hi' : i < hC (cntM M 23) := by omega
      obtain ⟨x, y1, y2, y3, y4, y5, y6⟩ := c4 (i + hS (cntM M 23)) (hCS i hi')
      obtain ⟨k1, k2⟩ := m4 i hi'
      refine ⟨x, by rw [k1]; exact y1, by rw [s5 i hi']; exact y2, by rw [e9]; exact y3, ?_, by rw [e0]; exact y5.fr (Nat.le_refl _) k2, y6.fr (Int.le_refl _) y5.2.1.1 y5.2.2.2.1.1 k2⟩
      rw [s7 i (by omega), ro3 i hi' c1]
      have hb := b4.2.2.1 (i + hS (cntM M 23)) (by have := hCS i hi'; omega)
      refine glf hb.2 (fun q => ?_) y4 y5.2.1.1 y5.2.2.2.1.1 k2
      rw [← ro3 i hi' c1] at q
      exact ei (ro2 i _ (by omega) hCle q)
  · rw [e9] at hz
    rw [ptsOf_fr (m1 11 (by omega) (by omega) (by omega))]
    exact a6 z hz
  · rw [e23] at hi
    rw [e9] at hx9
    rw [er]
    by_cases ei : i = hC (cntM M 23)
    · rw [ei] at hx ⊢
      rw [m5, vv_eq (by omega) (by omega)] at hx
      subst hx
      have hN := d2.2.1.1
      exact ⟨m6 0 (by omega), Nat.le_of_eq (rN_fr (m6 2 (by omega))), fun c hc => m6 _ (by rw [rN_fr (m6 2 (by omega))] at hc; omega)⟩
    · have hi' : i < hC (cntM M 23) := by omega
      obtain ⟨k1, k2⟩ := m4 i hi'
      rw [k1] at hx
      obtain ⟨w, y1, y2, y3, y4, y5, y6⟩ := c4 (i + hS (cntM M 23)) (hCS i hi')
      have hp := a7 (i + hS (cntM M 23)) x (hCS i hi') hx hx9
      have hN := y5.2.1.1
      exact pre_trans ⟨k2 0 (by omega), Nat.le_of_eq (rN_fr (k2 2 (by omega))), fun c hc => k2 _ (by rw [rN_fr (k2 2 (by omega))] at hc; omega)⟩ hp
  · rw [e23] at hj
    have hi' : i < hC (cntM M 23) := by omega
    obtain ⟨k1, k2⟩ := m4 i hi'
    obtain ⟨w, y1, y2, y3, y4, y5, y6⟩ := c4 (i + hS (cntM M 23)) (hCS i hi')
    have hN := y5.2.1.1
    have p1 : pre (krow M' i) (krow M (i + hS (cntM M 23))) := ⟨k2 0 (by omega), Nat.le_of_eq (rN_fr (k2 2 (by omega))), fun c hc => k2 _ (by rw [rN_fr (k2 2 (by omega))] at hc; omega)⟩
    by_cases ej : j = hC (cntM M 23)
    · rw [ej] at q ⊢
      rw [m5, k1, y1, vv_eq (by omega) (by omega)] at q
      subst q
      have p2 := a7 (i + hS (cntM M 23)) w (hCS i hi') y1 y3
      refine pre_trans p1 (pre_trans p2 ⟨(m6 0 (by omega)).symm, Nat.le_of_eq (rN_fr (m6 2 (by omega))).symm, fun c hc => (m6 _ (by have := d2.2.1.1; omega)).symm⟩)
    · have hj' : j < hC (cntM M 23) := by omega
      obtain ⟨l1, l2⟩ := m4 j hj'
      rw [k1, l1] at q
      have p2 := a8 (i + hS (cntM M 23)) (j + hS (cntM M 23)) (by omega) (hCS j hj') q
      refine pre_trans p1 (pre_trans p2 ⟨(l2 0 (by omega)).symm, Nat.le_of_eq (rN_fr (l2 2 (by omega))).symm, fun c hc => (l2 _ ?_).symm⟩)
      obtain ⟨w', z1, z2, z3, z4, z5, z6⟩ := c4 (j + hS (cntM M 23)) (hCS j hj')
      have := z5.2.1.1
      omega
theorem v2_remember {n : Nat} {S M : xS} (I : Inv n S M) {g : Nat} (hg : g < cntM M 9) {Q : xS → Prop} (k : ∀ S', RemP S S' g (cntM M 23) (mrow M g) → GlRel S' g (mrow M g) → PermG S' g → Q S') : wp_X2_remember (nI g) g S Q := by
  obtain ⟨a1, ⟨⟨b1, b2, b3⟩, b4, b5, b6⟩, ⟨⟨c1, c2, c3⟩, c4⟩, a4, a5, a6⟩ := I
  obtain ⟨d1, d2, d3⟩ := b5 g hg
  obtain ⟨ro1, ro2, ro3⟩ := rot_ok (f := S.2.2 18 0) (c := cntM M 23) b4.2.2.1 b4.2.2.2
  have hCle : hC (cntM M 23) < 6 := by unfold hC; split <;> omega
  have hlast := ro1 (hC (cntM M 23)) hCle
  refine w2_remember (by omega) c1 (c3.trans c2) d1 d2 b4 (fun S' s1 s2 s3 s4 s5 s6 s7 s8 s9 s10 => k S' ⟨s1, s2, s3, s4, s5, s6, s7, s8, s9, s10⟩ ?_ ?_)
  · have hid := fun t (ht : t < 5) => b4.1 g (by omega) t ht
    exact d1.fr d2.2.1.1 d2.2.2.2.1.1 (fun k hk => s9 k g hk (by omega)) (fun t _ => by rw [s3 16 (by omega)]) (fun t ht k hk => s10 k _ hk (by have := hid t ht; omega)) (fun _ _ => rfl)
  · exact ⟨fun j hj => by rw [s3 16 (by omega)]; exact b4.1 g (by omega) j hj, fun i j hi hj q => by rw [s3 16 (by omega)] at q; exact b4.2.1 g (by omega) i j hi hj q⟩
theorem v7_keeps {n : Nat} {S M : xS} (I : Inv n S M) {g : Nat} (hg : g < cntM M 9) {Q : xS → Prop} (k : ∀ M', KeepP M M' g (cntM M 23) → Q M') : wp_X7_keeps (nI g) M Q := by
  have := I.2.1.1.1
  exact w7_keeps (by omega) I.2.2.1.1.2.1 I.2.2.1.1.1 (fun M' m1 m2 m3 m4 m5 m6 => k M' ⟨m1, m2, m3, m4, m5, m6⟩)
theorem KeepP.row {M M' : xS} {g c : Nat} (h : KeepP M M' g c) : ∀ z, mrow M' z = mrow M z := fun z => by unfold mrow; rw [h.1 11 (by omega) (by omega) (by omega)]
theorem op_prune {n : Nat} {S M : xS} {K : xS → xS → Prop} (I : Inv n S M) (hn : n ≤ 600) (a : Int32) (hK : ∀ S' M', Inv (n + 1) S' M' → K S' M') :
    wp_X6_prune a S (fun r1 S1 => wp_X7_prune a M (fun r2 M1 => if r1 = r2 then K S1 M1 else False)) := by
  obtain ⟨⟨b1, b2, b3⟩, b4, b5, b6⟩ := I.2.1
  have hS1 := b3.trans b2
  unfold wp_X6_prune wp_X7_prune
  by_cases c : 0 ≤ a.toInt ∧ a.toInt < cntM M 9
  rotate_left
  · exact v6_hasGlyph_f b1 hS1 c (g0 (v7_noGlyph_f b1 b2 c (g1 (ge (hK _ _ I.next)))))
  obtain ⟨g, rfl, eg, hg⟩ := vv_nat c.1
  have hg9 : g < cntM M 9 := by omega
  obtain ⟨d1, d2, d3⟩ := b5 g hg9
  have hT5 := d2.2.2.2.1.1
  have hin := vv_in (k := g) (N := 6) (by omega) (by omega)
  have hP : PN n ≤ PP := by unfold PN PP; omega
  refine v6_hasGlyph_t b1 hS1 hg9 (g1 ⟨hin, ?_⟩)
  rw [vv_clI (by omega)]
  refine v2_remember I hg9 (fun S' hR hG hp => ⟨hin, ?_⟩)
  refine w1_prune (by omega) ⟨hG, d2, hp⟩ (fun S'' f1 f2 => ?_)
  refine v7_noGlyph_t b1 b2 hg9 (g0 (v7_keeps I hg9 (fun M' hM => ?_)))
  have I' := keep_inv I hg9 hR hM
  have er := hM.row g
  refine v7_of rfl nl3 (by omega) (by omega) ?_
  rw [er, d2.2.2.2.1.2, dnI_sub (by omega)]
  have e0 : cntM M' 0 = cntM M 0 := by unfold cntM; rw [hM.2.1 0 (by omega)]
  have e9 : cntM M' 9 = cntM M 9 := by unfold cntM; rw [hM.2.1 9 (by omega)]
  have fin := w7_prune (M := M') (g := g) (na := cntM M 0) (gi := g) (P := PN n) (Q := fun r2 M1 => if nI (rT (mrow M g)) - nI (rT (prR noth (mrow M g) (rT (mrow M g)))) = r2 then K S'' M1 else False) (by omega) hP (by rw [er]; exact d2) (by rw [er]; exact d3)
  rw [er] at fin
  refine fin (fun M'' q1 q2 q3 => ge (hK _ _ ?_))
  refine I'.gl (by rw [e9]; exact hg9) f1 q1 f2.2.2 (by rw [q2]; exact f2.1) (by rw [e0, q2]; exact f2.2.1) (q3.fr (PN_le n) (by rw [q2]; exact f2.2.1.2.1.1) (by rw [q2]; exact f2.2.1.2.2.2.1.1) (fun _ _ => rfl)) ?_ ?_ (fun c hc => ?_)
  · rw [q2, er]; exact prR_keep _ _ 0 (by omega) (by omega)
  · rw [q2, er]; exact prR_keep _ _ 2 (by omega) (by omega)
  · have := d2.2.1.1
    rw [er] at hc
    rw [q2, er]; exact prR_keep _ _ (52 + c) (by omega) (by omega)
