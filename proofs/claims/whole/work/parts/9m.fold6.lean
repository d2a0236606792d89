def selF (r : Nat → Int32) (pb : Nat) : Nat → Bool := fun t => depB r t pb 4
def mvF (r loc : Nat → Int32) (pb s : Nat) (v : Int32) : Int32 := Int64.toInt32 (plV r loc s v (selF r pb))
def tcF (r b : Nat → Int32) : Nat → Int32 := if r 0 = 0 then tcL r b else b
def kpF (pb : Nat) (b : Nat → Int32) : Bool := !dpk b pb 4
def fdL (r : Nat → Int32) (pb : Nat) : List (Nat → Int32) := ((tl r).map (tcF r)).filter (kpF pb)
theorem rm_tl {r : Nat → Int32} {p rest : List (Nat → Int32)} {u : Nat → Int32} (hT5 : rT r ≤ 5) (h : tl r = p ++ u :: rest) : tl (rmR r p.length (rT r)) = p ++ rest := by
  have hlen : rT r = p.length + (rest.length + 1) := by rw [← tl_len r, h, List.length_append]; rfl
  refine tl_ext (by rw [rm_T hT5, List.length_append]; omega) (fun j hj => ?_)
  rw [rm_T hT5] at hj
  rw [blk_rm (by omega)]
  by_cases c : j < p.length
  · rw [if_pos c, List.getElem?_append_left c, ← tl_get (by omega), h, List.getElem?_append_left c]
  · have h2 := tl_get (r := r) (j := j + 1) (by omega)
    rw [h, List.getElem?_append_right (by omega), show j + 1 - p.length = (j - p.length) + 1 by omega] at h2
    rw [if_neg c, List.getElem?_append_right (by omega)]
    exact h2
theorem pl_24 {r loc : Nat → Int32} {sel : Nat → Bool} (h : ∀ t, t < rT r → dvV r t 24 1 = 0) : plV r loc 24 1 sel = 0 := by
  have key : ∀ T, T ≤ rT r → plS r loc 24 1 sel T = 0 := by
    intro T
    induction T with
    | zero => intro _; rfl
    | succ T ih =>
      intro hT
      show plS r loc 24 1 sel T + (if sel T = true then scV r T loc 4 * Int32.toInt64 (dvV r T 24 1) else 0) = 0
      rw [ih (by omega), h T (by omega), show Int32.toInt64 (0 : Int32) = 0 from rfl, Int64.mul_zero]
      split <;> rfl
  unfold plV
  rw [key _ (Nat.le_refl _)]
  have e : bsS r 24 1 = 0 := by unfold bsS; rw [if_pos rfl, if_neg (by decide)]
  rw [e]
  decide
theorem pl_ta {r loc : Nat → Int32} {s k : Nat} {v : Int32} {sel : Nat → Bool} (hN : rN r ≤ 24) (hs : inS (rN r) s = true) (hv : v = 0 ∨ v = 1) : plV (taU r k) loc s v sel = plV r loc s v sel := by
  have key : ∀ T, plS (taU r k) loc s v sel T = plS r loc s v sel T := by
    intro T
    induction T with
    | zero => rfl
    | succ T ih =>
      show plS (taU r k) loc s v sel T + (if sel T = true then scV (taU r k) T loc 4 * Int32.toInt64 (dvV (taU r k) T s v) else 0) = plS r loc s v sel T + (if sel T = true then scV r T loc 4 * Int32.toInt64 (dvV r T s v) else 0)
      rw [ih, taU_dv hN hs hv, scV_reg (fun x hx => taU_reg hx k) 4 (by omega)]
  have hs' := inS_iff.mp hs
  have eb : bsS (taU r k) s v = bsS r s v := by
    unfold bsS bsp
    rw [taU_low (by omega)]
    by_cases c : s = 24
    · rw [if_pos c, if_pos c]
    · rw [if_neg c, if_neg c, taU_low (by omega), taU_low (by omega)]
  unfold plV
  rw [eb, taU_T, key]
def cxF (r : Nat → Int32) (F : Nat → Int32 → Int32) (a p : Nat) : Int32 := if p < a then F (slo p) 0 else if p = 0 then r 1 else r (4 + (p - 1))
def cyF (r : Nat → Int32) (F : Nat → Int32 → Int32) (b p : Nat) : Int32 := if p = 0 then 0 else if p < b then F (slo p) 1 else r (28 + (p - 1))
theorem mv_cx {r : Nat → Int32} {F : Nat → Int32 → Int32} {a b : Nat} : mvR r F a b 1 = cxF r F a 0 ∧ (∀ p, p < 24 → mvR r F a b (4 + p) = cxF r F a (p + 1)) ∧ (∀ p, p < 24 → mvR r F a b (28 + p) = cyF r F b (p + 1)) := by
  refine ⟨?_, fun p hp => ?_, fun p hp => ?_⟩
  · rw [mv_1]; rfl
  · rw [mv_x hp]
    unfold cxF
    rw [show slo (p + 1) = p from rfl, if_neg (show ¬ p + 1 = 0 by omega), Nat.add_sub_cancel]
  · rw [mv_y hp]
    unfold cyF
    rw [show slo (p + 1) = p from rfl, if_neg (show ¬ p + 1 = 0 by omega), Nat.add_sub_cancel]
theorem cx_lt {r : Nat → Int32} {F : Nat → Int32 → Int32} {a p : Nat} (h : p < a) : cxF r F a p = F (slo p) 0 := by unfold cxF; rw [if_pos h]
theorem cx_ge {r : Nat → Int32} {F : Nat → Int32 → Int32} {a p : Nat} (h : ¬ p < a) : cxF r F a p = if p = 0 then r 1 else r (4 + (p - 1)) := by unfold cxF; rw [if_neg h]
theorem cy_0 {r : Nat → Int32} {F : Nat → Int32 → Int32} {b p : Nat} (h : p = 0) : cyF r F b p = 0 := by unfold cyF; rw [if_pos h]
theorem cy_lt {r : Nat → Int32} {F : Nat → Int32 → Int32} {b p : Nat} (h0 : ¬ p = 0) (h : p < b) : cyF r F b p = F (slo p) 1 := by unfold cyF; rw [if_neg h0, if_pos h]
theorem cy_ge {r : Nat → Int32} {F : Nat → Int32 → Int32} {b p : Nat} (h0 : ¬ p = 0) (h : ¬ p < b) : cyF r F b p = r (28 + (p - 1)) := by unfold cyF; rw [if_neg h0, if_neg h]
def MvF (S S' : xS) (G : Nat) : Prop := (∀ k, k ≠ 12 → k ≠ 13 → S'.1 k = S.1 k) ∧ (∀ k z, z ≠ G → S'.1 k z = S.1 k z) ∧ S'.2 = S.2
theorem MvF.g {S S' : xS} {G : Nat} (h : MvF S S' G) : GFr S S' G :=
  ⟨fun k hk => h.1 k (by unfold kG at hk; omega) (by unfold kG at hk; omega), fun k z _ hz => h.2.1 k z hz, fun k z hk _ => by rw [h.1 k (by omega) (by omega)], by rw [h.2.2], fun k _ => by rw [h.2.2], fun z _ => by rw [h.2.2]⟩
section FOLD6
variable {S : xS} {G na gi : Nat} {r : Nat → Int32}
theorem Gd.mv {S' : xS} {F : Nat → Int32 → Int32} {a b : Nat} (hg : Gd S G na gi r) (hF : MvF S S' G) (hc : ∀ p, p ≤ rN r → S'.1 12 G p = cxF r F a p ∧ S'.1 13 G p = cyF r F b p) : Gd S' G na gi (mvR r F a b) := by
  obtain ⟨hG, hR, hP⟩ := hg
  have hN := hR.2.1.1
  obtain ⟨e1, e2, e3, e4, e5, e6, e7, e8, e9⟩ := hG
  obtain ⟨m1, m2, m3⟩ := mv_cx (r := r) (F := F) (a := a) (b := b)
  refine ⟨?_, ok_base hR (fun y hy => mv_o hy), fun j hj => by rw [hF.2.2]; exact hP.1 j hj, fun i j hi hj q => by rw [hF.2.2] at q; exact hP.2 i j hi hj q⟩
  unfold GlRel
  rw [mv_N, mv_T, mv_o (y := 0) (by omega), mv_o (y := 2) (by omega), mv_o (y := 3) (by omega), hF.1 1 (by omega) (by omega), hF.1 14 (by omega) (by omega), hF.1 15 (by omega) (by omega), hF.2.2, m1]
  refine ⟨e1, e2, e3, (hc 0 (by omega)).1, (hc 0 (by omega)).2, fun p hp => ?_, fun hz p hp => ?_, fun hz c hc2 => ?_, fun t ht => ?_⟩
  · rw [m2 p (by omega), m3 p (by omega)]; exact hc (p + 1) (by omega)
  · have : cno (mvR r F a b) p = cno r p := by
      have key : ∀ q, q < 24 → cno (mvR r F a b) q = cno r q := by
        intro q
        induction q with
        | zero => intro _; rfl
        | succ q ih =>
          intro hq
          show cno (mvR r F a b) q + _ = cno r q + _
          rw [ih (by omega), mv_o (by omega)]
      exact key p (by omega)
    rw [this]; exact e7 hz p hp
  · rw [mv_o (by omega)]; exact e8 hz c hc2
  · exact (e9 t ht).fr2 (fun k hk => by rw [hF.1 k (by omega) (by omega)]) (fun x h1 _ => mv_o (by unfold tb at h1; omega))
/- the bases of the class move -/
theorem w1_bases {L pb : Nat} {loc : Nat → Int32} {F : Nat → Int32 → Int32} (hG12 : G < 12) (hg : Gd S G na gi r) (hpb : pb < 2 ^ 31) (hl : ∀ a, a < 4 → S.1 30 L a = loc a) (hfl : ∀ t s, t < rT r → inS (rN r) s = true → fl r t s = 1 ∨ s = 24 ∨ r 0 = 1) (hF : ∀ s v, inS (rN r) s = true → v = 0 ∨ v = 1 → F s v = Int64.toInt32 (plV r loc s v (selF r pb))) (h24 : F 24 1 = 0) {Q : Int32 → xS → Prop}
    (k : ∀ S', MvF S S' G → Gd S' G na gi (mvR r F (rN r + 1) (rN r + 1)) → ∃ n1, wp_X1_foldTuples_102 G (nI pb) Q n1 S' (S'.1 1 G 6) ((S'.1 1 G 6) - 1)) : wp_X1_foldTuples_43 G (nI pb) L Q S := by
  obtain ⟨hG, hR, hP⟩ := id hg
  have hN := hR.2.1.1
  have hT5 := hR.2.2.2.1.1
  have hid : ∀ t, t < 5 → S.2.2 16 G t < 60 := fun t ht => by have := hP.1 t ht; omega
  unfold wp_X1_foldTuples_43
  refine wl1 (wp_X1_foldTuples_45 G (nI pb) L Q) (fun K => wp_X1_foldTuples_45_b G (nI pb) L K Q) (fun _ _ _ => rfl)
    (fun S' v => ∃ j, j ≤ rN r + 1 ∧ v = nI j ∧ MvF S S' G ∧ ∀ p, p ≤ rN r → S'.1 12 G p = cxF r F j p ∧ S'.1 13 G p = cyF r F j p) (fun _ v => 100 - v.toNatClampNeg) ⟨0, by omega, rfl, ⟨fun _ _ _ => rfl, fun _ _ _ => rfl, rfl⟩, fun p hp => ?_⟩ ?_
  · rw [cx_ge (by omega)]
    by_cases c : p = 0
    · rw [if_pos c, cy_0 c, c]; exact ⟨hG.2.2.2.1, hG.2.2.2.2.1⟩
    · rw [if_neg c, cy_ge c (by omega)]
      have := hG.2.2.2.2.2.1 (p - 1) (by omega)
      rw [show p - 1 + 1 = p by omega] at this
      exact this
  rintro S' v K ⟨j, hj, rfl, hM, hc⟩ hK
  have gj : Gd S' G na gi (mvR r F j j) := hg.mv hM hc
  unfold wp_X1_foldTuples_45_b
  have eN : S'.1 1 G 1 = nI (rN r) := by rw [hM.1 1 (by omega) (by omega)]; exact hG.2.1.trans hR.2.1.2
  rw [eN]
  by_cases cj : j = rN r + 1
  · subst cj
    exact gt (by rw [vv_lt (by omega) (by omega)]; omega) (k S' hM gj)
  · have hin := vv_in (k := j) (N := 25) (by omega) (by omega)
    have hi : inS (rN r) (slo j) = true := by rw [slo_in hN (by omega), decide_eq_true (by omega)]
    have hid' : ∀ t, t < 5 → S'.2.2 16 G t < 60 := fun t ht => by rw [hM.2.2]; exact hid t ht
    have hl' : ∀ a, a < 4 → S'.1 30 L a = loc a := fun a ha => by rw [hM.1 30 (by omega) (by omega)]; exact hl a ha
    have hfs : ∀ t, t < rT r → fl r t (slo j) = 1 ∨ slo j = 24 ∨ r 0 = 1 := fun t ht => hfl t _ ht hi
    have hsel : ∀ a b, (fun t => depB (mvR r F a b) t pb 4) = selF r pb := fun a b => funext fun t => depB_reg (fun x _ => mv_t) 4 (by omega)
    refine gf (by rw [vv_lt (by omega) (by omega)]; omega) (w1_place (pl := j) (bits := pb) (loc := loc) (r := mvR r F j j) gj.1 gj.2.1 hid' (by rw [mv_N]; omega) hl' hpb ⟨hin, ?_⟩)
    have b0 : bsS (mvR r F j j) (slo j) 0 = bsS r (slo j) 0 := by
      unfold bsS bsp
      by_cases c : slo j = 24
      · have : j = 0 := by unfold slo at c; split at c <;> omega
        rw [if_pos c, if_pos c, if_pos rfl, if_pos rfl, mv_1, if_neg (by omega)]
      · have hj0 : j ≠ 0 := fun e => c (by rw [e]; rfl)
        have es : slo j = j - 1 := by unfold slo; rw [if_neg hj0]
        rw [if_neg c, if_neg c, if_pos rfl, if_pos rfl, es, mv_x (by omega), if_neg (by omega)]
    rw [plV_mv (hsel j j) hfs b0, ← hF _ 0 hi (Or.inl rfl), vv_clI (by omega)]
    have M1 : MvF S (xI S' 12 G j (F (slo j) 0)) G := ⟨fun k h1 h2 => by rw [xI_k h1]; exact hM.1 k h1 h2, fun k z hz => by
      funext w
      rw [xI_1, if_neg (by omega), hM.2.1 k z hz], hM.2.2⟩
    have c1 : ∀ p, p ≤ rN r → (xI S' 12 G j (F (slo j) 0)).1 12 G p = cxF r F (j + 1) p ∧ (xI S' 12 G j (F (slo j) 0)).1 13 G p = cyF r F j p := fun p hp => by
      rw [xI_k (k' := 13) (by omega), xI_1]
      refine ⟨?_, (hc p hp).2⟩
      by_cases e : p = j
      · rw [if_pos ⟨rfl, rfl, e⟩, cx_lt (by omega), e]
      · rw [if_neg (fun h => e h.2.2), (hc p hp).1]
        by_cases q : p < j
        · rw [cx_lt q, cx_lt (by omega)]
        · rw [cx_ge q, cx_ge (by omega)]
    have g1 : Gd (xI S' 12 G j (F (slo j) 0)) G na gi (mvR r F (j + 1) j) := hg.mv M1 c1
    refine w1_place (pl := j) (bits := pb) (loc := loc) (r := mvR r F (j + 1) j) g1.1 g1.2.1 hid' (by rw [mv_N]; omega) (fun a ha => by rw [xI_k (by omega)]; exact hl' a ha) hpb ⟨hin, ?_⟩
    have b1 : bsS (mvR r F (j + 1) j) (slo j) 1 = bsS r (slo j) 1 := by
      unfold bsS bsp
      by_cases c : slo j = 24
      · rw [if_pos c, if_pos c, if_neg (by decide), if_neg (by decide)]
      · have hj0 : j ≠ 0 := fun e => c (by rw [e]; rfl)
        have es : slo j = j - 1 := by unfold slo; rw [if_neg hj0]
        rw [if_neg c, if_neg c, if_neg (by decide), if_neg (by decide), es, mv_y (by omega), if_neg (by omega)]
    rw [plV_mv (hsel (j + 1) j) hfs b1, ← hF _ 1 hi (Or.inr rfl), nI_1]
    refine hK _ _ ⟨j + 1, by omega, rfl, ⟨fun k h1 h2 => by rw [xI_k h2]; exact M1.1 k h1 h2, fun k z hz => ?_, hM.2.2⟩, fun p hp => ?_⟩ (by rw [vv_clI (by omega), vv_clI (by omega)]; omega)
    · funext w
      rw [xI_1, if_neg (by omega)]
      exact congrFun (M1.2.1 k z hz) w
    · rw [xI_k (k := 13) (k' := 12) (by omega), xI_1 _ 13]
      refine ⟨(c1 p hp).1, ?_⟩
      by_cases e : p = j
      · rw [if_pos ⟨rfl, rfl, e⟩]
        by_cases e0 : p = 0
        · rw [cy_0 e0, ← e, e0]; exact h24
        · rw [cy_lt e0 (by omega), e]
      · rw [if_neg (fun h => e h.2.2), (c1 p hp).2]
        by_cases e0 : p = 0
        · rw [cy_0 e0, cy_0 e0]
        · by_cases q : p < j
          · rw [cy_lt e0 q, cy_lt e0 (by omega)]
          · rw [cy_ge e0 q, cy_ge e0 (by omega)]
/- the class removes what it folded -/
theorem w1_unfold {pb : Nat} (hG12 : G < 12) (hg : Gd S G na gi r) (hpb : pb < 2 ^ 31) {Q : Int32 → xS → Prop}
    (k : ∀ S' r', GFr S S' G → Gd S' G na gi r' → (∀ y, y < 76 → y ≠ 3 → r y = r' y) → tl r' = (tl r).filter (kpF pb) → Q (nI (rT r) - nI ((tl r).filter (kpF pb)).length) S') : ∃ n1, wp_X1_foldTuples_102 G (nI pb) Q n1 S (S.1 1 G 6) ((S.1 1 G 6) - 1) := by
  have hT5 := hg.2.1.2.2.2.1.1
  rw [hg.1.2.2.1.trans hg.2.1.2.2.2.1.2, dnI_sub (by omega)]
  refine wl2 (wp_X1_foldTuples_102 G (nI pb) Q) (fun K => wp_X1_foldTuples_102_b G (nI pb) K Q) (fun _ _ _ _ => rfl)
    (fun S' v1 v2 => v1 = nI (rT r) ∧ ∃ (j : Nat) (r' : Nat → Int32) (p rest : List (Nat → Int32)), v2 = dnI j ∧ p.length = j ∧ tl r' = p ++ rest ∧ p.filter (kpF pb) ++ rest = (tl r).filter (kpF pb) ∧ (∀ y, y < 76 → y ≠ 3 → r y = r' y) ∧ Gd S' G na gi r' ∧ GFr S S' G)
    (fun _ _ v => v.toInt.toNat + (if v < 0 then 0 else 1)) ⟨rfl, rT r, r, tl r, [], rfl, tl_len r, by rw [List.append_nil], by rw [List.append_nil], fun _ _ _ => rfl, hg, GFr.refl _ _⟩ ?_
  rintro S' v1 v2 K ⟨rfl, j, r', p, rest, rfl, hp, htl, hfin, hlow, hgd, hfr⟩ hK
  have hT5' := hgd.2.1.2.2.2.1.1
  have hlen : rT r' = p.length + rest.length := by rw [← tl_len r', htl, List.length_append]
  unfold wp_X1_foldTuples_102_b wp_X1_foldTuples_127
  cases j with
  | zero =>
    have hpn : p = [] := List.eq_nil_of_length_eq_zero hp
    subst hpn
    have ht : tl r' = (tl r).filter (kpF pb) := htl.trans hfin
    refine gt ((dnI_lt (by omega)).mpr rfl) ?_
    rw [hgd.1.2.2.1.trans hgd.2.1.2.2.2.1.2, show rT r' = ((tl r).filter (kpF pb)).length by rw [← tl_len r', ht]]
    exact k S' r' hfr hgd hlow ht
  | succ i =>
    obtain ⟨p1, u, rfl, hp1⟩ := snoc_ex p i hp
    have htl2 : tl r' = p1 ++ u :: rest := by rw [htl, List.append_assoc]; rfl
    have hi : i < rT r' := by omega
    have gu : u = blk r' i := by
      have := tl_get hi
      rw [htl2, List.getElem?_append_right (by omega), hp1, Nat.sub_self] at this
      exact Option.some.inj this
    have hid : ∀ t, t < 5 → S'.2.2 16 G t < 60 := fun t ht => by have := hgd.2.2.1 t ht; omega
    rw [dnI_s] at hK ⊢
    have mu := dn_mu (j := i) (by omega)
    refine gf (by rw [nl0, vv_lt (by omega) (by omega)]; omega) ⟨⟨vv_in (by omega) (by omega), by rw [vv_clI (by omega)]; exact hid i (by omega)⟩, ?_⟩
    rw [vv_clI (k := i) (by omega)]
    refine w5_depends (hgd.1.2.2.2.2.2.2.2.2 i hi) hpb ?_
    rw [List.filter_append] at hfin
    have eu : dpk u pb 4 = depB r' i pb 4 := by rw [gu]; exact dpk_blk 4 (by omega)
    rw [← eu]
    cases hd : dpk u pb 4
    · refine gt rfl ?_
      rw [dnI_dn (by omega)]
      have hu : kpF pb u = true := by unfold kpF; rw [hd]; rfl
      have e1 : List.filter (kpF pb) [u] = [u] := by rw [List.filter_cons, if_pos hu]; rfl
      rw [e1, List.append_assoc] at hfin
      exact hK _ _ _ ⟨rfl, i, r', p1, u :: rest, rfl, hp1, htl2, hfin, hlow, hgd, hfr⟩ mu
    · have hu : kpF pb u = false := by unfold kpF; rw [hd]; rfl
      have e1 : List.filter (kpF pb) [u] = [] := by rw [List.filter_cons, if_neg (by rw [hu]; decide)]; rfl
      rw [e1, List.append_nil] at hfin
      refine gf (by decide) (w1_remove (hgd.1.2.2.1.trans hgd.2.1.2.2.2.1.2) hT5' hi hid (fun S2 s1 s2 s3 s4 => ?_))
      rw [dnI_dn (by omega)]
      have htl3 : tl (rmR r' i (rT r')) = p1 ++ rest := by
        have := rm_tl hT5' htl2
        rw [hp1] at this
        exact this
      exact hK _ _ _ ⟨rfl, i, rmR r' i (rT r'), p1, rest, rfl, hp1, htl3, hfin, fun y hy h3 => by rw [rm_lo hy h3]; exact hlow y hy h3, hgd.rm (S' := S2) hi s1 s4, hfr.trans (GFr.rm s1 s2 s3)⟩ mu
end FOLD6
