theorem l2i_add (a : Int32) (b : Int64) : a + Int64.toInt32 b = Int64.toInt32 (Int32.toInt64 a + b) := by
  apply Int32.toInt_inj.mp
  rw [Int32.toInt_add, Int64.toInt_toInt32, Int64.toInt_toInt32, Int64.toInt_add, i2l_toInt, Int.bmod_bmod_of_dvd (show (2 ^ 32 : Nat) ∣ 2 ^ 64 from ⟨2 ^ 32, rfl⟩), Int.add_bmod_bmod]
section MOVEB
variable {M : xS} {g na gi pb : Nat} {r r' : Nat → Int32}
theorem w7_moveB {F : Nat → Int32 → Int32} (hg : g < 6) (hr : mrow M g = r') (h2 : r' 2 = nI (rN r')) (hN : rN r' ≤ 24) (h24 : r' 1 + Int64.toInt32 (nearS (M.2.1 31 0 24) 268435456) = F 24 0) (hp : ∀ p, p < rN r' → r' (4 + p) + Int64.toInt32 (nearS (M.2.1 31 0 p) 268435456) = F p 0 ∧ r' (28 + p) + Int64.toInt32 (nearS (M.2.1 32 0 p) 268435456) = F p 1) {Q : xS → Prop}
    (k : ∀ M', MFr M M' g → mrow M' g = mvR r' F (rN r' + 1) (rN r' + 1) → Q M') : wp_X7_moveBases (nI g) M Q := by
  have nn : ¬ 2 * (268435456 : Int64) = 0 := by decide
  unfold wp_X7_moveBases
  refine wl1 (wp_X7_moveBases_2 (nI g) Q) (fun K => wp_X7_moveBases_2_b (nI g) K Q) (fun _ _ _ => rfl)
    (fun M' v => ∃ j, j ≤ rN r' ∧ v = nI j ∧ MFr M M' g ∧ M'.2 = M.2 ∧ ∀ y, mrow M' g y = if 4 ≤ y ∧ y < 4 + j then F (y - 4) 0 else if 28 ≤ y ∧ y < 28 + j then F (y - 28) 1 else r' y) (fun _ v => 50 - v.toNatClampNeg)
    ⟨0, by omega, rfl, MFr.refl _ _, rfl, fun y => by rw [hr, if_neg (by omega), if_neg (by omega)]⟩ ?_
  rintro M' v K ⟨j, hj, rfl, hfr, hf2, hrow⟩ hK
  unfold wp_X7_moveBases_2_b
  have e2 : mrow M' g 2 = nI (rN r') := by rw [hrow, if_neg (by omega), if_neg (by omega)]; exact h2
  refine v7_of rfl nl2 hg (by omega) ?_
  rw [e2]
  by_cases c : j = rN r'
  · subst c
    refine gt (by rw [vv_le (by omega) (by omega)]; omega) (v7_of rfl nl1 hg (by omega) ⟨vv_in (k := 24) (by omega) (by omega), v7_near nn ?_⟩)
    rw [show (24 : Int32).toNatClampNeg = 24 from rfl, hf2]
    have e1 : mrow M' g 1 = r' 1 := by rw [hrow, if_neg (by omega), if_neg (by omega)]
    rw [e1, h24]
    refine v7_put rfl nl1 hg (by omega) (k _ (hfr.trans ⟨fun k hk => by rw [xI_k (by unfold kM at hk; omega)], fun z y hz hy => mrow_put_ne _ _ hz (by omega) hy⟩) ?_)
    funext y
    rw [mrow_put, hrow]
    unfold mvR
    by_cases c1 : y = 1
    · rw [if_pos c1, if_pos c1, if_pos (by omega)]
    · rw [if_neg c1, if_neg c1]
      by_cases c2 : 4 ≤ y ∧ y < 28
      · rw [if_pos c2]
        by_cases c3 : y < 4 + rN r'
        · rw [if_pos ⟨c2.1, c3⟩, if_pos (by omega)]
        · rw [if_neg (by omega), if_neg (by omega), if_neg (by omega)]
      · rw [if_neg c2, if_neg (by omega)]
        by_cases c4 : 28 ≤ y ∧ y < 52
        · rw [if_pos c4]
          by_cases c3 : y < 28 + rN r'
          · rw [if_pos ⟨c4.1, c3⟩, if_pos (by omega)]
          · rw [if_neg (by omega), if_neg (by omega)]
        · rw [if_neg c4, if_neg (by omega)]
  · have hin := vv_in (k := j) (N := 25) (by omega) (by omega)
    obtain ⟨p1, p2⟩ := hp j (by omega)
    have e4 : mrow M' g (4 + j) = r' (4 + j) := by rw [hrow, if_neg (by omega), if_neg (by omega)]
    refine gf (by rw [vv_le (by omega) (by omega)]; omega) (v7_of (y := 4 + j) rfl (by rw [nl4, nI_add]) hg (by omega) ⟨hin, v7_near nn ?_⟩)
    rw [vv_clI (k := j) (by omega), hf2, e4, p1]
    refine v7_put (y := 4 + j) rfl (by rw [nl4, nI_add]) hg (by omega) (v7_of (y := 28 + j) rfl (by rw [nl28, nI_add]) hg (by omega) ⟨hin, v7_near nn ?_⟩)
    have e28 : mrow (xI M' 11 0 (511 * g + (4 + j)) (F j 0)) g (28 + j) = r' (28 + j) := by rw [mrow_put, if_neg (by omega), hrow, if_neg (by omega), if_neg (by omega)]
    have hf3 : (xI M' 11 0 (511 * g + (4 + j)) (F j 0)).2 = M.2 := hf2
    rw [e28, hf3, p2]
    refine v7_put (y := 28 + j) rfl (by rw [nl28, nI_add]) hg (by omega) ?_
    rw [nI_1]
    refine hK _ _ ⟨j + 1, by omega, rfl, hfr.trans ⟨fun k hk => by rw [xI_k (by unfold kM at hk; omega), xI_k (by unfold kM at hk; omega)], fun z y hz hy => by rw [mrow_put_ne _ _ hz (by omega) hy, mrow_put_ne _ _ hz (by omega) hy]⟩, hf2, fun y => ?_⟩ (by rw [vv_clI (by omega), vv_clI (by omega)]; omega)
    rw [mrow_put, mrow_put, hrow]
    by_cases a1 : y = 28 + j
    · rw [if_pos a1, if_neg (by omega), if_pos (by omega), a1, Nat.add_sub_cancel_left]
    · rw [if_neg a1]
      by_cases a2 : y = 4 + j
      · rw [if_pos a2, if_pos (by omega), a2, Nat.add_sub_cancel_left]
      · rw [if_neg a2]
        by_cases a3 : 4 ≤ y ∧ y < 4 + j
        · rw [if_pos a3, if_pos (by omega)]
        · rw [if_neg a3, if_neg (show ¬ (4 ≤ y ∧ y < 4 + (j + 1)) by omega)]
          by_cases a4 : 28 ≤ y ∧ y < 28 + j
          · rw [if_pos a4, if_pos (by omega)]
          · rw [if_neg a4, if_neg (by omega)]
end MOVEB
/- bounds -/
theorem plS_rng {na gi : Nat} {P B : Int} {D : Nat → Int} {r loc : Nat → Int32} {s : Nat} {v : Int32} {sel : Nat → Bool} (hR : RowOk na gi r) (hP : P ≤ PP) (hB : 4000 ≤ B) (h2 : ∀ t, 0 ≤ D t) (h3 : B + D 0 + D 1 + D 2 + D 3 + D 4 ≤ P) (hb : BdP r) (h6 : ∀ t, t < rT r → ∀ s, s < 25 → fl r t s = 1 → rng (dlx r t s) (-D t) (D t) ∧ rng (dly r t s) (-D t) (D t)) (hs : inS (rN r) s = true) :
    ∀ T, T ≤ rT r → -(268435456 * eU D sel T) ≤ (plS r loc s v sel T).toInt ∧ (plS r loc s v sel T).toInt ≤ 268435456 * eU D sel T ∧ eU D sel T ≤ D 0 + D 1 + D 2 + D 3 + D 4 ∧ 0 ≤ eU D sel T := by
  have hN := hR.2.1.1
  have hT5 := hR.2.2.2.1.1
  have hD := Bd.le5 (r := r) hB h2 h3
  have a0 := h2 0
  have a1 := h2 1
  have a2 := h2 2
  have a3 := h2 3
  have a4 := h2 4
  have le : ∀ T, T ≤ 5 → eU D sel T ≤ (if 0 < T then D 0 else 0) + (if 1 < T then D 1 else 0) + (if 2 < T then D 2 else 0) + (if 3 < T then D 3 else 0) + (if 4 < T then D 4 else 0) := by
    intro T hT
    have st : ∀ k, eU D sel (k + 1) ≤ eU D sel k + D k := fun k => by
      show eU D sel k + (if sel k = true then D k else 0) ≤ _
      have := h2 k
      split <;> omega
    have s0 : eU D sel 1 ≤ eU D sel 0 + D 0 := st 0
    have s1 : eU D sel 2 ≤ eU D sel 1 + D 1 := st 1
    have s2 : eU D sel 3 ≤ eU D sel 2 + D 2 := st 2
    have s3 : eU D sel 4 ≤ eU D sel 3 + D 3 := st 3
    have s4 : eU D sel 5 ≤ eU D sel 4 + D 4 := st 4
    have z : eU D sel 0 = 0 := rfl
    have : T = 0 ∨ T = 1 ∨ T = 2 ∨ T = 3 ∨ T = 4 ∨ T = 5 := by omega
    rcases this with rfl | rfl | rfl | rfl | rfl | rfl <;> simp <;> omega
  intro T
  induction T with
  | zero =>
    intro _
    have z : eU D sel 0 = 0 := rfl
    have z2 : (plS r loc s v sel 0).toInt = 0 := rfl
    rw [z, z2]; omega
  | succ T ih =>
    intro hT
    obtain ⟨i1, i2, i3, i4⟩ := ih (by omega)
    have hle := le (T + 1) (by omega)
    have hle2 : eU D sel (T + 1) ≤ D 0 + D 1 + D 2 + D 3 + D 4 := by
      have q0 : (if 0 < T + 1 then D 0 else 0) ≤ D 0 := by split <;> omega
      have q1 : (if 1 < T + 1 then D 1 else 0) ≤ D 1 := by split <;> omega
      have q2 : (if 2 < T + 1 then D 2 else 0) ≤ D 2 := by split <;> omega
      have q3 : (if 3 < T + 1 then D 3 else 0) ≤ D 3 := by split <;> omega
      have q4 : (if 4 < T + 1 then D 4 else 0) ≤ D 4 := by split <;> omega
      omega
    have e1 : eU D sel (T + 1) = eU D sel T + (if sel T = true then D T else 0) := rfl
    have e2 : plS r loc s v sel (T + 1) = plS r loc s v sel T + (if sel T = true then scV r T loc 4 * Int32.toInt64 (dvV r T s v) else 0) := rfl
    have dT := h2 T
    have hDT := hD.2 T (by omega)
    cases hs2 : sel T
    · rw [hs2, if_neg (by decide), i64_zero_add] at e2
      rw [hs2, if_neg (by decide), Int.add_zero] at e1
      rw [e2, e1]; omega
    · rw [hs2, if_pos rfl] at e1 e2
      have rd := dv_rng (v := v) hb hN (inS_iff.mp hs) dT (by omega) (h6 T (by omega))
      obtain ⟨s1, s2⟩ := scV_rng (hR.2.2.2.2.2.2 T (by omega)) (loc := loc) 4 (Nat.le_refl _)
      have m := mul_rng (a := (scV r T loc 4).toInt) (b := (dvV r T s v).toInt) (A := 268435456) (B := D T) s1 s2 rd.1 rd.2
      unfold PP at hP
      have em : (scV r T loc 4 * Int32.toInt64 (dvV r T s v)).toInt = (scV r T loc 4).toInt * (dvV r T s v).toInt := by
        rw [i64_mul, i2l_toInt] <;> rw [i2l_toInt] <;> omega
      have ea : (plS r loc s v sel (T + 1)).toInt = (plS r loc s v sel T).toInt + (scV r T loc 4).toInt * (dvV r T s v).toInt := by
        rw [e2, i64_add, em] <;> rw [em] <;> omega
      rw [ea]
      omega
theorem mvF_rng {na gi pb : Nat} {P B : Int} {D : Nat → Int} {r loc : Nat → Int32} {s : Nat} {v : Int32} (hR : RowOk na gi r) (hP : P ≤ PP) (hB : 4000 ≤ B) (h2 : ∀ t, 0 ≤ D t) (h3 : B + D 0 + D 1 + D 2 + D 3 + D 4 ≤ P) (hb : BdP r) (hbs : rng (bsS r s v) (-B) B) (h6 : ∀ t, t < rT r → ∀ s, s < 25 → fl r t s = 1 → rng (dlx r t s) (-D t) (D t) ∧ rng (dly r t s) (-D t) (D t)) (hs : inS (rN r) s = true) : rng (mvF r loc pb s v) (-(B + eU D (selF r pb) (rT r))) (B + eU D (selF r pb) (rT r)) := by
  obtain ⟨p1, p2, p3, p4⟩ := plS_rng (loc := loc) (v := v) (sel := selF r pb) hR hP hB h2 h3 hb h6 hs (rT r) (Nat.le_refl _)
  have a0 := h2 0
  have a1 := h2 1
  have a2 := h2 2
  have a3 := h2 3
  have a4 := h2 4
  unfold PP at hP
  have eW : (268435456 : Int64).toInt = 268435456 := rfl
  have en := near_toInt (a := plS r loc s v (selF r pb) (rT r)) (b := 268435456) (by rw [eW]; omega) (by rw [eW]; omega) (by omega) (by omega)
  rw [eW] at en
  have rn := nearI_rng (a := (plS r loc s v (selF r pb) (rT r)).toInt) (b := 268435456) (lo := -(eU D (selF r pb) (rT r))) (hi := eU D (selF r pb) (rT r)) (by omega) (by omega) (by omega)
  have rn2 : -(eU D (selF r pb) (rT r)) ≤ (nearS (plS r loc s v (selF r pb) (rT r)) 268435456).toInt ∧ (nearS (plS r loc s v (selF r pb) (rT r)) 268435456).toInt ≤ eU D (selF r pb) (rT r) := by rw [en]; exact rn
  unfold rng at hbs ⊢
  unfold mvF plV
  clear en rn eW p1 p2
  generalize nearS (plS r loc s v (selF r pb) (rT r)) 268435456 = N at rn2 ⊢
  generalize eU D (selF r pb) (rT r) = E at p3 p4 rn2 ⊢
  generalize bsS r s v = x at hbs ⊢
  have ea : (Int32.toInt64 x + N).toInt = x.toInt + N.toInt := by
    rw [i64_add, i2l_toInt] <;> rw [i2l_toInt] <;> omega
  have el : (Int64.toInt32 (Int32.toInt64 x + N)).toInt = x.toInt + N.toInt := by
    rw [l2i_toInt, ea] <;> rw [ea] <;> omega
  rw [el]
  omega
theorem op_fold {n : Nat} {S M : xS} {K : xS → xS → Prop} (I : Inv n S M) (hn : n ≤ 600) (a : Int32) (hK : ∀ S' M', Inv (n + 1) S' M' → K S' M') :
    wp_X6_fold a S (fun r1 S1 => wp_X7_fold a M (fun r2 M1 => if r1 = r2 then K S1 M1 else False)) := by
  obtain ⟨⟨b1, b2, b3⟩, b4, b5, b6⟩ := I.2.1
  obtain ⟨⟨a1, a2, a3⟩, a4, a5, a6⟩ := id I.1
  have hS1 := b3.trans b2
  have hA1 := a3.trans a2
  unfold wp_X6_fold wp_X7_fold
  by_cases c : 0 ≤ a.toInt ∧ a.toInt < cntM M 9
  rotate_left
  · exact v6_hasGlyph_f b1 hS1 c (g0 (v7_noGlyph_f b1 b2 c (g1 (ge (hK _ _ I.next)))))
  obtain ⟨g, rfl, eg, hg⟩ := vv_nat c.1
  have hg9 : g < cntM M 9 := by omega
  obtain ⟨d1, d2, d3⟩ := b5 g hg9
  have hN := d2.2.1.1
  have hT5 := d2.2.2.2.1.1
  have hin := vv_in (k := g) (N := 6) (by omega) (by omega)
  have hP : PN n ≤ PP := by unfold PN PP; omega
  have hbp := d3.p hP hT5
  refine v6_hasGlyph_t b1 hS1 hg9 (g1 ⟨hin, ?_⟩)
  rw [vv_clI (by omega)]
  refine v2_remember I hg9 (fun S' hR hG hp => ⟨hin, ?_⟩)
  have nk : ∀ k, k = 0 ∨ k = 6 ∨ k = 30 → S'.1 k = S.1 k := fun k hk => hR.1 k (by omega) (by omega) (by unfold kG; omega)
  refine w6_pinned (na := cntM M 0) a1 (by rw [nk 6 (by omega)]; exact hA1) (fun pb hpb hPb => ?_)
  have hPb2 : ∀ z, pb.testBit z = decide (z < cntM M 0 ∧ ¬ M.1 6 0 z = 0) := fun z => by
    rw [hPb z, nk 0 (by omega)]
    by_cases cz : z < cntM M 0
    · rw [(a4 z cz).2.2.1.1]
    · rw [decide_eq_false (fun h => cz h.1), decide_eq_false (fun h => cz h.1)]
  have ref : ∀ Q : Int32 → xS → Prop, (∀ M', KeepP M M' g (cntM M 23) → ∃ n5, wp_X7_fold_20 (nI g) Q n5 M' 0 0) → wp_X7_keeps (nI g) M (fun S3 => ∃ n5, wp_X7_fold_20 (nI g) Q n5 S3 0 0) := fun Q k => v7_keeps I hg9 k
  have frM : ∀ M', KeepP M M' g (cntM M 23) → M'.1 0 0 0 = nI (cntM M 0) ∧ (∀ z, pb.testBit z = decide (z < cntM M 0 ∧ ¬ M'.1 6 0 z = 0)) ∧ (∀ z, z < cntM M 0 → M'.1 5 0 z = (fun z => S.1 30 0 z) z) := fun M' hM =>
    ⟨by rw [hM.2.1 0 (by omega)]; exact a2, fun z => by rw [hM.1 6 (by omega) (by omega) (by omega)]; exact hPb2 z, fun z hz => by rw [hM.1 5 (by omega) (by omega) (by omega)]; exact I.locS z hz⟩
  refine w1_fold (loc := fun z => S.1 30 0 z) (na := cntM M 0) (gi := g) (by omega) ⟨hG, d2, hp⟩ (by omega) (fun z _ => by rw [nk 30 (by omega)]) (fun hnone => ?_) (fun hex S'' rc f1 f2 low1 tl1 => ?_)
  · refine v7_noGlyph_t b1 b2 hg9 (g0 (ref _ (fun M' hM => ?_)))
    have I' := keep_inv I hg9 hR hM
    obtain ⟨m0, m6, m5⟩ := frM M' hM
    refine w7_sums (r := mrow M g) (pb := pb) (gi := g) (loc := fun z => S.1 30 0 z) (by omega) (hM.row g) a1 m0 m6 d2 hbp m5 (fun _ M2 e2 => gt rfl (hK _ _ ?_)) (fun ⟨t, ht, hs⟩ => ?_)
    · exact I'.scr (fun k _ => rfl) rfl (fun _ => ⟨rfl, rfl⟩) rfl rfl (fun k _ => by rw [e2]) (fun j _ => by rw [e2])
    · rw [hnone t ht] at hs; exact absurd hs (by decide)
  · refine v7_noGlyph_t b1 b2 hg9 (g0 (ref _ (fun M' hM => ?_)))
    have I' := keep_inv I hg9 hR hM
    have er := hM.row g
    obtain ⟨m0, m6, m5⟩ := frM M' hM
    have e0 : cntM M' 0 = cntM M 0 := by unfold cntM; rw [hM.2.1 0 (by omega)]
    have e9 : cntM M' 9 = cntM M 9 := by unfold cntM; rw [hM.2.1 9 (by omega)]
    obtain ⟨B, D, k1, k2, k3, k4, k5, k6⟩ := d3
    refine w7_sums (r := mrow M g) (pb := pb) (gi := g) (loc := fun z => S.1 30 0 z) (by omega) er a1 m0 m6 d2 hbp m5 (fun hnone => ?_) (fun _ M2 e2 hsum => ?_)
    · obtain ⟨t, ht, hs⟩ := hex
      rw [hnone t ht] at hs; exact absurd hs (by decide)
    refine w7_foldDown (r := mrow M g) (na := cntM M 0) (gi := g) (P := PN n) (B := B) (D0 := D) (by omega) (by unfold mrow; rw [e2]; exact er) a1 (by rw [e2]; exact m0) (by rw [e2]; exact m6) d2 hP k1 k2 ⟨k4, k5⟩ ⟨D, k2, fun _ _ => rfl, by omega, k6⟩ (fun M3 f3 e3 low3 tl3 ok3 bd3 => ?_)
    have eN3 : rN (mrow M3 g) = rN (mrow M g) := rN_fr (low3 2 (by omega) (by omega)).symm
    have hbs : ∀ s v, inS (rN (mrow M g)) s = true → (s = 24 → v = 0) → rng (bsS (mrow M g) s v) (-B) B := fun s v hs h0 => by
      unfold bsS bsp
      by_cases cs : s = 24
      · rw [if_pos cs, if_pos (h0 cs)]; exact k4
      · have hs' : s < rN (mrow M g) := (inS_iff.mp hs).resolve_right cs
        rw [if_neg cs]
        split
        · exact (k5 s hs').1
        · exact (k5 s hs').2
    have mr : ∀ s v, inS (rN (mrow M g)) s = true → (s = 24 → v = 0) → rng (mvF (mrow M g) (fun z => S.1 30 0 z) pb s v) (-(B + eU D (selF (mrow M g) pb) (rT (mrow M g)))) (B + eU D (selF (mrow M g) pb) (rT (mrow M g))) := fun s v hs h0 => mvF_rng d2 hP k1 k2 k3 hbp (hbs s v hs h0) k6 hs
    refine w7_moveB (r' := mrow M3 g) (F := mvF (mrow M g) (fun z => S.1 30 0 z) pb) (by omega) rfl ok3.2.1.2 ok3.2.1.1 ?_ (fun p hp2 => ?_) (fun M4 f4 er4 => ?_)
    · rw [e3, (hsum 24 (inS_iff.mpr (Or.inr rfl))).1, ← low3 1 (by omega) (by omega), l2i_add]
      rfl
    · rw [eN3] at hp2
      obtain ⟨q1, q2⟩ := hsum p (inS_iff.mpr (Or.inl hp2))
      rw [e3, q1, q2, ← low3 (4 + p) (by omega) (by omega), ← low3 (28 + p) (by omega) (by omega), l2i_add, l2i_add]
      have n24 : ¬ p = 24 := by omega
      unfold mvF plV bsS bsp
      rw [if_neg n24, if_neg n24, if_pos rfl, if_neg (show ¬ (1 : Int32) = 0 by decide)]
      exact ⟨rfl, rfl⟩
    · have hlen := fd_len (r := mrow M g) (pb := pb)
      refine gt (by rw [vv_sub (by omega) (by omega)]; congr 1; omega) (hK _ _ ?_)
      have ok4 : RowOk (cntM M 0) g (mrow M4 g) := by rw [er4]; exact ok_base ok3 (fun y hy => mv_o hy)
      have low4 : ∀ y, y < 76 → y ≠ 3 → mrow M4 g y = rc y := fun y hy h3 => by
        rw [er4, ← low1 y hy h3, eN3]
        unfold mvR
        rw [← low3 1 (by omega) (by omega), ← low3 y hy h3]
      have tl4 : tl (mrow M4 g) = tl rc := by rw [er4, mv_tl, tl3, tl1, fd7_eq]
      have gg := gl_tl f2 low4 tl4 ok4.2.2.2.1.2
      have f24 : MFr M' M4 g := (show MFr M' M2 g from ⟨fun k _ => by rw [e2], fun z y _ _ => by unfold mrow; rw [e2]⟩).trans (f3.trans f4)
      have eE := (plS_rng (loc := fun z => S.1 30 0 z) (v := 0) (s := 24) (sel := selF (mrow M g) pb) d2 hP k1 k2 k3 hbp k6 (inS_iff.mpr (Or.inr rfl)) (rT (mrow M g)) (Nat.le_refl _)).2.2.2
      refine I'.gl (by rw [e9]; exact hg9) f1 f24 f2.2.2 gg (by rw [e0]; exact ok4) ?_ ?_ ?_ (fun c hc => ?_)
      · obtain ⟨D', z1, z2, z3, z4⟩ := bd3
        have hPn := PN_le n
        rw [er4]
        refine ⟨B + eU D (selF (mrow M g) pb) (rT (mrow M g)), D', by omega, z1, by omega, ?_, fun p hp2 => ?_, fun t ht s hs hf => ?_⟩
        · rw [mv_1, if_pos (by omega)]
          exact mr 24 0 (inS_iff.mpr (Or.inr rfl)) (fun _ => rfl)
        · rw [mv_N, eN3] at hp2
          rw [mv_x (by omega), mv_y (by omega), eN3, if_pos (by omega), if_pos (by omega)]
          exact ⟨mr p 0 (inS_iff.mpr (Or.inl hp2)) (fun _ => rfl), mr p 1 (inS_iff.mpr (Or.inl hp2)) (fun h => by omega)⟩
        · rw [mv_T] at ht
          have w1 : fl (mvR (mrow M3 g) (mvF (mrow M g) (fun z => S.1 30 0 z) pb) (rN (mrow M3 g) + 1) (rN (mrow M3 g) + 1)) t s = fl (mrow M3 g) t s := by unfold fl; rw [Nat.add_assoc, mv_t]
          have w2 : dlx (mvR (mrow M3 g) (mvF (mrow M g) (fun z => S.1 30 0 z) pb) (rN (mrow M3 g) + 1) (rN (mrow M3 g) + 1)) t s = dlx (mrow M3 g) t s := by unfold dlx; rw [Nat.add_assoc, mv_t]
          have w3 : dly (mvR (mrow M3 g) (mvF (mrow M g) (fun z => S.1 30 0 z) pb) (rN (mrow M3 g) + 1) (rN (mrow M3 g) + 1)) t s = dly (mrow M3 g) t s := by unfold dly; rw [Nat.add_assoc, mv_t]
          rw [w1] at hf
          rw [w2, w3]
          exact z4 t ht s hs hf
      · rw [er4, mv_o (by omega), er, low3 0 (by omega) (by omega)]
      · rw [er4, mv_o (by omega), er, low3 2 (by omega) (by omega)]
      · rw [er] at hc
        rw [er4, mv_o (by omega), er, low3 (52 + c) (by omega) (by omega)]
