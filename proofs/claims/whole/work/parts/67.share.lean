theorem ord_self (d : FP.Core.Datum) : FP.Core.order d d = none ∨ FP.Core.order d d = some .eq := by
  cases d with
  | nan => exact Or.inl rfl
  | inf s => exact Or.inr (by cases s <;> rfl)
  | fin s c q => exact Or.inr (by simp [FP.Core.order, compare, compareOfLessAndEq])
theorem nan_dec {x : UInt64} (h : isNaN64 x = true) : FP.Core.decode FP.Core.b64 x.toNat = .nan := by
  rw [isNaN64_iff] at h
  have e : x.toNat &&& 0x7fffffffffffffff = x.toNat % 2 ^ 63 := Nat.and_two_pow_sub_one_eq_mod x.toNat 63
  rw [e] at h
  have e1 : FP.Core.fieldE FP.Core.b64 x.toNat = x.toNat / 4503599627370496 % 2048 := rfl
  have e2 : FP.Core.fieldT FP.Core.b64 x.toNat = x.toNat % 4503599627370496 := rfl
  have e3 : FP.Core.b64.exps - 1 = 2047 := rfl
  unfold FP.Core.decode
  rw [e1, e2, e3, if_pos (by omega), if_neg (by omega)]
theorem nan_cmp {x : UInt64} (h : isNaN64 x = true) : FP.dcmp x x = none := by
  show FP.Core.order (FP.Core.decode FP.Core.b64 x.toNat) (FP.Core.decode FP.Core.b64 x.toNat) = none
  rw [nan_dec h]
  rfl
def alD (r1 r2 : UInt64) : Prop := Op.cmpValue (FP.dcmp r1 r2) CmpOp.l = 0 ∨ (¬ Op.cmpValue (FP.dcmp r1 r1) CmpOp.l = 0 ∧ ¬ Op.cmpValue (FP.dcmp r2 r2) CmpOp.l = 0)
theorem al_both {z r1 r2 : UInt64} (h1 : alike64 r1 z = true) (h2 : alike64 r2 z = true) : alD r1 r2 := by
  have nn : ∀ x : UInt64, isNaN64 x = true → ¬ Op.cmpValue (FP.dcmp x x) CmpOp.l = 0 := fun x hx => by rw [nan_cmp hx]; decide
  have same : ∀ x : UInt64, alD x x := fun x => by
    rcases ord_self (FP.Core.decode FP.Core.b64 x.toNat) with h | h
    · have e : FP.dcmp x x = none := h
      exact Or.inr ⟨by rw [e]; decide, by rw [e]; decide⟩
    · have e : FP.dcmp x x = some .eq := h
      exact Or.inl (by rw [e]; rfl)
  simp only [alike64, Bool.or_eq_true, Bool.and_eq_true, decide_eq_true_eq] at h1 h2
  rcases h1 with e1 | ⟨a1, a2⟩
  · subst e1
    rcases h2 with e2 | ⟨b1, b2⟩
    · subst e2; exact same _
    · exact Or.inr ⟨nn _ b2, nn _ b1⟩
  · rcases h2 with e2 | ⟨b1, b2⟩
    · subst e2; exact Or.inr ⟨nn _ a1, nn _ a2⟩
    · exact Or.inr ⟨nn _ a1, nn _ b1⟩
theorem al_if {r1 r2 : UInt64} (h : alD r1 r2) {A : Prop} (k : A) : if (Op.cmpValue (FP.dcmp r1 r2) CmpOp.l) = 0 then A else (if (Op.cmpValue (FP.dcmp r1 r1) CmpOp.l) = 0 then False else (if (Op.cmpValue (FP.dcmp r2 r2) CmpOp.l) = 0 then False else A)) := by
  by_cases c : Op.cmpValue (FP.dcmp r1 r2) CmpOp.l = 0
  · exact gt c k
  · obtain ⟨h1, h2⟩ := h.resolve_left c
    exact gf c (gf h1 (gf h2 k))
theorem i2d_l2d {x : Int32} {y : Int64} (h : x.toInt = y.toInt) : FP.i2d x = FP.l2d y := by
  show UInt64.ofNat (FP.Core.fromInt FP.Core.b64 x.toInt) = UInt64.ofNat (FP.Core.fromInt FP.Core.b64 y.toInt)
  rw [h]
theorem op_share {n : Nat} {S M : xS} {K : xS → xS → Prop} (I : Inv n S M) (a b : Int32) (hK : ∀ S' M', Inv (n + 1) S' M' → K S' M') :
    wp_X6_share a b S (fun r1 S1 => wp_X7_share a b M (fun r2 M1 => if (Op.cmpValue (FP.dcmp r1 r2) CmpOp.l) = 0 then K S1 M1 else (if (Op.cmpValue (FP.dcmp r1 r1) CmpOp.l) = 0 then False else (if (Op.cmpValue (FP.dcmp r2 r2) CmpOp.l) = 0 then False else K S1 M1)))) := by
  unfold wp_X6_share wp_X7_share wp_X7_share_26
  rcases tupErr I a b with ⟨e, e1, e2, e3, e4⟩ | ⟨g, t, rfl, rfl, hg, ht, e3, e4⟩
  · exact e3 _ (gf e1 (e4 _ (gf e2 (al_if (al_both (alike64_refl _) (alike64_refl _)) (hK _ _ I.next)))))
  · obtain ⟨d1, d2, d3⟩ := I.2.1.2.2.1 g hg
    have hg6 := I.2.1.1.1
    have hT := d2.2.2.2.1.1
    have hid := I.2.1.2.1.1 g (by omega) t (by omega)
    have hO := d2.2.2.2.2.2.2 t ht
    refine e3 _ (g0 ⟨vv_in (by omega) (by omega), ⟨vv_in (by omega) (by omega), ?_⟩, ?_⟩)
    · rw [vv_clI (by omega), vv_clI (by omega)]; omega
    · rw [vv_clI (by omega), vv_clI (by omega)]
      refine w5_scalar (d1.2.2.2.2.2.2.2.2 t ht) hO (loc := fun a => S.1 30 0 a) (fun _ _ => rfl) (fun r8 h8 => e4 _ (gt (by decide) (w7_scalar (by omega) (by omega) I.1.1.1 I.1.1.2.1 hO (loc := fun a => S.1 30 0 a) (fun a ha => ((I.1.2.1 a ha).2.2.2.1.1).symm) (fun r5 h5 => ?_))))
      obtain ⟨s1, s2⟩ := scV_rng hO (loc := fun a => S.1 30 0 a) 4 (Nat.le_refl _)
      rw [i2d_l2d (l2i_toInt (by omega) (by omega))] at h8
      exact al_if (al_both h8 h5) (hK _ _ I.next)
def RunL (w : (Int64 → xS → Prop) → Prop) (r : Int64) (S' : xS) : Prop := ∀ Q, Q r S' → w Q
theorem op_ofL {w6 w7 : (Int64 → xS → Prop) → Prop} {r : Int64} {S' M' : xS} {K : xS → xS → Prop} (h6 : RunL w6 r S') (h7 : RunL w7 r M') (k : K S' M') : w6 (fun r1 S1 => w7 (fun r2 M1 => if (lg_cmp r1 r2) = 0 then K S1 M1 else False)) := h6 _ (h7 _ (gt (by rw [cmp_eq0]) k))
theorem v6_hasPlace_t {S : xS} {g pl N : Nat} {c : Int32} {Q : Int32 → xS → Prop} (hg : g < 6) (e : S.1 1 g 1 = nI N) (hN : N ≤ 24) (hc : c.toInt = (pl : Int) - 1) (hp : pl ≤ N) (k : Q 1 S) : wp_X6_hasPlace (nI g) c S Q := by
  unfold wp_X6_hasPlace
  refine gf (by rw [i32_lt, show (-1 : Int32).toInt = -1 from rfl]; omega) ⟨vv_in (by omega) (by omega), gf ?_ ⟨Or.inr rfl, k⟩⟩
  rw [vv_clI (by omega), e, i32_le, nI_toInt' (by omega)]; omega
theorem v6_hasPlace_f {S : xS} {g N : Nat} {c : Int32} {Q : Int32 → xS → Prop} (hg : g < 6) (e : S.1 1 g 1 = nI N) (hN : N ≤ 24) (hc : ¬ (-1 ≤ c.toInt ∧ c.toInt ≤ (N : Int) - 1)) (k : Q 0 S) : wp_X6_hasPlace (nI g) c S Q := by
  unfold wp_X6_hasPlace
  by_cases c3 : c < -1
  · exact gt c3 ⟨Or.inl rfl, k⟩
  · rw [i32_lt, show (-1 : Int32).toInt = -1 from rfl] at c3
    refine gf (by rw [i32_lt, show (-1 : Int32).toInt = -1 from rfl]; exact c3) ⟨vv_in (by omega) (by omega), gt ?_ ⟨Or.inl rfl, k⟩⟩
    rw [vv_clI (by omega), e, i32_le, nI_toInt' (by omega)]; omega
theorem v7_noPoint_t {M : xS} {g N : Nat} {c : Int32} {Q : Int32 → xS → Prop} (hg : g < 6) (e : mrow M g 2 = nI N) (hN : N ≤ 24) (hc : -1 ≤ c.toInt ∧ c.toInt ≤ (N : Int) - 1) (k : Q 0 M) : wp_X7_noPoint (nI g) c M Q := by
  unfold wp_X7_noPoint
  refine v7_of rfl nl2 hg (by omega) ?_
  rw [e]
  exact v7_in_t (by rw [l64_sub1 (by omega), show (-1 : Int64).toInt = -1 from rfl, i2l_toInt]; exact hc) (g1 ⟨Or.inl rfl, k⟩)
theorem v7_noPoint_f {M : xS} {g N : Nat} {c : Int32} {Q : Int32 → xS → Prop} (hg : g < 6) (e : mrow M g 2 = nI N) (hN : N ≤ 24) (hc : ¬ (-1 ≤ c.toInt ∧ c.toInt ≤ (N : Int) - 1)) (k : Q 1 M) : wp_X7_noPoint (nI g) c M Q := by
  unfold wp_X7_noPoint
  refine v7_of rfl nl2 hg (by omega) ?_
  rw [e]
  exact v7_in_f (by rw [l64_sub1 (by omega), show (-1 : Int64).toInt = -1 from rfl, i2l_toInt]; exact hc) (g0 ⟨Or.inr rfl, k⟩)
theorem op_position {n : Nat} {S M : xS} {K : xS → xS → Prop} (I : Inv n S M) (hn : n ≤ 600) (a b c : Int32) (hK : ∀ S' M', Inv (n + 1) S' M' → K S' M') :
    wp_X6_position a b c S (fun r1 S1 => wp_X7_position a b c M (fun r2 M1 => if (lg_cmp r1 r2) = 0 then K S1 M1 else False)) := by
  obtain ⟨⟨b1, b2, b3⟩, b4, b5, b6⟩ := I.2.1
  have hS1 := b3.trans b2
  have z0 : (0 : Int32).toInt = 0 := rfl
  have z3 : (3 : Int32).toInt = 3 := rfl
  have y0 : (0 : Int64).toInt = 0 := rfl
  have y3 : (3 : Int64).toInt = 3 := rfl
  by_cases ca : 0 ≤ a.toInt ∧ a.toInt < cntM M 9
  rotate_left
  · exact op_ofL (w6 := wp_X6_position a b c S) (w7 := wp_X7_position a b c M) (r := -9223372036854775808) (fun Q k => v6_hasGlyph_f b1 hS1 ca (g0 k)) (fun Q k => v7_noGlyph_f b1 b2 ca (g1 k)) (hK _ _ I.next)
  obtain ⟨g, rfl, eg, hgg⟩ := vv_nat ca.1
  have hg : g < cntM M 9 := by omega
  obtain ⟨d1, d2, d3⟩ := b5 g hg
  have hN := d2.2.1.1
  have hT := d2.2.2.2.1.1
  have eN : S.1 1 g 1 = nI (rN (mrow M g)) := d1.2.1.trans d2.2.1.2
  have hP : PN n ≤ PP := by unfold PN PP; omega
  by_cases cb : -1 ≤ b.toInt ∧ b.toInt ≤ (rN (mrow M g) : Int) - 1
  rotate_left
  · exact op_ofL (w6 := wp_X6_position (nI g) b c S) (w7 := wp_X7_position (nI g) b c M) (r := -9223372036854775808) (fun Q k => v6_hasGlyph_t b1 hS1 hg (g1 (v6_hasPlace_f (by omega) eN hN cb (g0 k)))) (fun Q k => v7_noGlyph_t b1 b2 hg (g0 (v7_noPoint_f (by omega) d2.2.1.2 hN cb (g1 k)))) (hK _ _ I.next)
  have hb : b.toInt = ((b.toInt + 1).toNat : Int) - 1 := by omega
  have hb1 : b + 1 = nI (b.toInt + 1).toNat := by
    apply Int32.toInt_inj.mp
    rw [l32_add1 (by omega) (by omega), nI_toInt' (by omega)]
    omega
  have hpl : (b.toInt + 1).toNat ≤ rN (mrow M g) := by omega
  generalize (b.toInt + 1).toNat = pl at *
  by_cases cc : 0 ≤ c.toInt ∧ c.toInt ≤ 3
  rotate_left
  · exact op_ofL (w6 := wp_X6_position (nI g) b c S) (w7 := wp_X7_position (nI g) b c M) (r := -9223372036854775808) (fun Q k => v6_hasGlyph_t b1 hS1 hg (g1 (v6_hasPlace_t (by omega) eN hN hb hpl (g1 (v6_within_f (by rw [z0, z3]; exact cc) (g0 k)))))) (fun Q k => v7_noGlyph_t b1 b2 hg (g0 (v7_noPoint_t (by omega) d2.2.1.2 hN cb (g0 (v7_in_f (by rw [i2l_toInt, y0, y3]; exact cc) (g0 k)))))) (hK _ _ I.next)
  have p6 : ∀ Q : Int64 → xS → Prop, (if c = 1 then (wp_X6_position_48 b c Q S g) else (if c = 3 then (wp_X6_position_48 b c Q S g) else (wp_X6_position_53 b c Q S g 0))) → wp_X6_position (nI g) b c S Q := fun Q k => v6_hasGlyph_t b1 hS1 hg (g1 (v6_hasPlace_t (by omega) eN hN hb hpl (g1 (v6_within_t (by rw [z0, z3]; exact cc) (g1 ⟨vv_in (by omega) (by omega), by rw [vv_clI (by omega)]; exact k⟩)))))
  have p7 : ∀ Q : Int64 → xS → Prop, (if 2 ≤ c then (if c = 3 then (wp_X7_position_77 Q M (nI g) (nI (slo pl)) 1) else (wp_X7_position_77 Q M (nI g) (nI (slo pl)) 0)) else (if c = 1 then (wp_X7_position_54 Q M (nI g) (nI (slo pl)) 1) else (wp_X7_position_54 Q M (nI g) (nI (slo pl)) 0))) → wp_X7_position (nI g) b c M Q := fun Q k => by
    refine v7_noGlyph_t b1 b2 hg (g0 (v7_noPoint_t (by omega) d2.2.1.2 hN cb (g0 (v7_in_t (by rw [i2l_toInt, y0, y3]; exact cc) (g1 ?_)))))
    by_cases c2 : 2 ≤ c
    · rw [if_pos c2] at k
      exact gt c2 (v7_slot hb (by omega) k)
    · rw [if_neg c2] at k
      exact gf c2 (v7_slot hb (by omega) k)
  have hid : ∀ t, t < 5 → S.2.2 16 g t < 60 := fun t ht => by have := b4.1 g (by omega) t ht; omega
  have hsl : slo pl < rN (mrow M g) ∨ slo pl = 24 := by unfold slo; split <;> omega
  have s53 : ∀ (v : Int32) (Q : Int64 → xS → Prop), ¬ 2 ≤ c → Q (Int32.toInt64 (bsS (mrow M g) (slo pl) v)) S → wp_X6_position_53 b c Q S g v := by
    intro v Q h2 k
    unfold wp_X6_position_53 wp_X6_position_88
    refine gf h2 ?_
    rw [hb1, vv_clI (by omega)]
    have hin := vv_in (k := pl) (N := 25) (by omega) (by omega)
    unfold bsS at k
    by_cases e0 : pl = 0
    · subst e0
      rw [if_pos (show slo 0 = 24 from rfl)] at k
      by_cases cv : v = 0
      · rw [if_pos cv] at k; exact gt cv ⟨hin, by rw [d1.2.2.2.1]; exact k⟩
      · rw [if_neg cv] at k; exact gf cv ⟨hin, by rw [d1.2.2.2.2.1]; exact k⟩
    · have es : slo pl = pl - 1 := by unfold slo; rw [if_neg e0]
      have hx := d1.2.2.2.2.2.1 (pl - 1) (by omega)
      rw [show pl - 1 + 1 = pl by omega] at hx
      rw [if_neg (by rw [es]; omega), es] at k
      unfold bsp at k
      by_cases cv : v = 0
      · rw [if_pos cv] at k; exact gt cv ⟨hin, by rw [hx.1]; exact k⟩
      · rw [if_neg cv] at k; exact gf cv ⟨hin, by rw [hx.2]; exact k⟩
  have s53' : ∀ (v : Int32) (Q : Int64 → xS → Prop), 2 ≤ c → Q (plV (mrow M g) (fun a => S.1 30 0 a) (slo pl) v (fun t => depB (mrow M g) t 15 4)) S → wp_X6_position_53 b c Q S g v := by
    intro v Q h2 k
    unfold wp_X6_position_53
    refine gt h2 ?_
    rw [hb1]
    exact w1_place (bits := 15) d1 d2 hid hpl (fun _ _ => rfl) (by omega) k
  have hsg : slo pl < 24 ∨ slo pl = 24 := by omega
  have t54 : ∀ (v : Int32) (Q : Int64 → xS → Prop), Q (Int32.toInt64 (bsS (mrow M g) (slo pl) v)) M → wp_X7_position_54 Q M (nI g) (nI (slo pl)) v := fun v Q k => v7_base (by omega) hsg k
  have t77 : ∀ (v : Int32) (Q : Int64 → xS → Prop), Q (plV (mrow M g) (fun a => S.1 30 0 a) (slo pl) v (fun t => depB (mrow M g) t 15 4)) M → wp_X7_position_77 Q M (nI g) (nI (slo pl)) v := fun v Q k => w7_place (by omega) I.1.1.1 I.1.1.2.1 d2 (d3.p hP hT) hsl (fun a ha => ((I.1.2.1 a ha).2.2.2.1.1).symm) k
  have l2 : (2 ≤ c) = (2 ≤ c.toInt) := by rw [i32_le]; rfl
  have k3 : c = 3 → 2 ≤ c := fun h => by rw [h]; decide
  have k1 : c = 1 → ¬ 2 ≤ c := fun h => by rw [h]; decide
  by_cases c2 : 2 ≤ c
  · have n1 : ¬ c = 1 := fun h => k1 h c2
    by_cases e3 : c = 3
    · exact op_ofL (w6 := wp_X6_position (nI g) b c S) (w7 := wp_X7_position (nI g) b c M) (fun Q k => p6 Q (gf n1 (gt e3 (s53' 1 Q c2 k)))) (fun Q k => p7 Q (gt c2 (gt e3 (t77 1 Q k)))) (hK _ _ I.next)
    · exact op_ofL (w6 := wp_X6_position (nI g) b c S) (w7 := wp_X7_position (nI g) b c M) (fun Q k => p6 Q (gf n1 (gf e3 (s53' 0 Q c2 k)))) (fun Q k => p7 Q (gt c2 (gf e3 (t77 0 Q k)))) (hK _ _ I.next)
  · have n3 : ¬ c = 3 := fun h => c2 (k3 h)
    by_cases e1 : c = 1
    · exact op_ofL (w6 := wp_X6_position (nI g) b c S) (w7 := wp_X7_position (nI g) b c M) (fun Q k => p6 Q (gt e1 (s53 1 Q c2 k))) (fun Q k => p7 Q (gf c2 (gt e1 (t54 1 Q k)))) (hK _ _ I.next)
    · exact op_ofL (w6 := wp_X6_position (nI g) b c S) (w7 := wp_X7_position (nI g) b c M) (fun Q k => p6 Q (gf e1 (gf n3 (s53 0 Q c2 k)))) (fun Q k => p7 Q (gf c2 (gf e1 (t54 0 Q k)))) (hK _ _ I.next)
