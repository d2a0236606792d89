def PermG (S : xS) (G : Nat) : Prop := (∀ j, j < 5 → 5 * G ≤ S.2.2 16 G j ∧ S.2.2 16 G j < 5 * G + 5) ∧ (∀ i j, i < 5 → j < 5 → S.2.2 16 G i = S.2.2 16 G j → i = j)
def GFr (S S' : xS) (G : Nat) : Prop := (∀ k, ¬ kG k → S'.1 k = S.1 k) ∧ (∀ k z, k = 1 ∨ 12 ≤ k ∧ k ≤ 15 → z ≠ G → S'.1 k z = S.1 k z) ∧ (∀ k z, k = 5 ∨ 24 ≤ k ∧ k ≤ 28 → z < 5 * G ∨ 5 * G + 5 ≤ z → S'.1 k z = S.1 k z) ∧ S'.2.1 = S.2.1 ∧ (∀ k, k ≠ 16 → S'.2.2 k = S.2.2 k) ∧ (∀ z, z ≠ G → S'.2.2 16 z = S.2.2 16 z)
theorem GFr.refl (S : xS) (G : Nat) : GFr S S G := ⟨fun _ _ => rfl, fun _ _ _ _ => rfl, fun _ _ _ _ => rfl, rfl, fun _ _ => rfl, fun _ _ => rfl⟩
theorem GFr.trans {S S' S'' : xS} {G : Nat} (h : GFr S S' G) (h2 : GFr S' S'' G) : GFr S S'' G :=
  ⟨fun k hk => (h2.1 k hk).trans (h.1 k hk), fun k z hk hz => (h2.2.1 k z hk hz).trans (h.2.1 k z hk hz), fun k z hk hz => (h2.2.2.1 k z hk hz).trans (h.2.2.1 k z hk hz), h2.2.2.2.1.trans h.2.2.2.1, fun k hk => (h2.2.2.2.2.1 k hk).trans (h.2.2.2.2.1 k hk), fun z hz => (h2.2.2.2.2.2 z hz).trans (h.2.2.2.2.2 z hz)⟩
def kM (k : Nat) : Prop := k = 0 ∨ 2 ≤ k ∧ k ≤ 9 ∨ k = 25 ∨ k = 26 ∨ k = 34 ∨ k = 36
def MFr (M M' : xS) (g : Nat) : Prop := (∀ k, kM k → M'.1 k = M.1 k) ∧ (∀ z y, z ≠ g → y < 511 → mrow M' z y = mrow M z y)
theorem MFr.refl (M : xS) (g : Nat) : MFr M M g := ⟨fun _ _ => rfl, fun _ _ _ _ => rfl⟩
theorem MFr.trans {M M' M'' : xS} {g : Nat} (h : MFr M M' g) (h2 : MFr M' M'' g) : MFr M M'' g := ⟨fun k hk => (h2.1 k hk).trans (h.1 k hk), fun z y hz hy => (h2.2 z y hz hy).trans (h.2 z y hz hy)⟩
theorem Inv.gl {n : Nat} {S M S' M' : xS} (I : Inv n S M) {g : Nat} (hg : g < cntM M 9) (hS : GFr S S' g) (hM : MFr M M' g) (hp : PermG S' g) (hG : GlRel S' g (mrow M' g)) (hR : RowOk (cntM M 0) g (mrow M' g)) (hB : Bd (PN (n + 1)) (mrow M' g))
    (h0 : mrow M' g 0 = mrow M g 0) (h2 : mrow M' g 2 = mrow M g 2) (hc : ∀ c, c < rN (mrow M g) → mrow M' g (52 + c) = mrow M g (52 + c)) : Inv (n + 1) S' M' := by
  obtain ⟨⟨b1, b2, b3⟩, b4, b5, b6⟩ := I.2.1
  have keep : ∀ z, z < cntM M 9 → mrow M' z 0 = mrow M z 0 ∧ rN (mrow M' z) = rN (mrow M z) ∧ ∀ c, c < rN (mrow M z) → mrow M' z (52 + c) = mrow M z (52 + c) := by
    intro z hz
    by_cases ez : z = g
    · subst ez; exact ⟨h0, rN_fr h2, hc⟩
    · have := (b5 z hz).2.1.2.1.1
      exact ⟨hM.2 z 0 ez (by omega), rN_fr (hM.2 z 2 ez (by omega)), fun c hc => hM.2 z _ ez (by omega)⟩
  have nk : ∀ k, k = 0 ∨ k = 2 ∨ k = 3 ∨ k = 6 ∨ k = 10 ∨ k = 11 ∨ k = 17 ∨ k = 19 ∨ k = 30 ∨ k = 33 → ¬ kG k := fun k hk => by unfold kG; omega
  have hp' : PermOk S' := by
    refine ⟨fun G hG j hj => ?_, fun G hG i j hi hj e => ?_, by rw [hS.2.2.2.2.1 18 (by omega)]; exact b4.2.2.1, by rw [hS.2.2.2.2.1 18 (by omega)]; exact b4.2.2.2⟩
    · by_cases e : G = g
      · rw [e]; exact hp.1 j hj
      · rw [hS.2.2.2.2.2 G e]; exact b4.1 G hG j hj
    · by_cases e2 : G = g
      · rw [e2] at e; exact hp.2 i j hi hj e
      · rw [hS.2.2.2.2.2 G e2] at e; exact b4.2.1 G hG i j hi hj e
  refine I.row hg (fun k hk => hS.1 k (nk k (by omega))) (by rw [hS.1 3 (nk 3 (by omega))]) hS.2.1 hS.2.2.1 hS.2.2.2.2.2 (hS.2.2.2.2.1 18 (by omega)) hp' (fun k hk => hM.1 k (by unfold kM; omega)) (fun j hj => by rw [hM.1 0 (Or.inl rfl)]) hM.2 hG hR hB ?_
  refine I.2.2.2.2.2.pre (fun z hz => ?_) (fun z hz => ?_) (hM.1 26 (by unfold kM; omega)) (hM.1 25 (by unfold kM; omega)) (by rw [hM.1 0 (Or.inl rfl)]) (by rw [hM.1 0 (Or.inl rfl)])
  · rw [ptsOf_keep b1 (fun z hz => (b5 z hz).2.1) keep 6 z hz]; exact I.2.2.2.2.2.1 z hz
  · obtain ⟨k1, k2, k3⟩ := keep z hz
    exact ⟨k1.symm, by omega, fun c hc => (k3 c hc).symm⟩
def rmR (r : Nat → Int32) (t T y : Nat) : Int32 := if y = 3 then nI (T - 1) else if tb t ≤ y ∧ y < tb (T - 1) then r (y + 87) else r y
def rmI (f : Nat → Nat) (t T j : Nat) : Nat := if j < t then f j else if j + 1 < T then f (j + 1) else if j + 1 = T then f t else f j
theorem w1_remove {S : xS} {G t T : Nat} {Q : xS → Prop} (hT : S.1 1 G 6 = nI T) (hT5 : T ≤ 5) (ht : t < T) (hid : ∀ j, j < 5 → S.2.2 16 G j < 60)
    (k : ∀ S', S'.1 = (xI S 1 G 6 (nI (T - 1))).1 → S'.2.1 = S.2.1 → (∀ k z, k ≠ 16 ∨ z ≠ G → S'.2.2 k z = S.2.2 k z) → (∀ j, S'.2.2 16 G j = rmI (S.2.2 16 G) t T j) → Q S') : wp_X1_removeTuple G (nI t) S Q := by
  unfold wp_X1_removeTuple
  refine ⟨⟨vv_in (by omega) (by omega), by rw [vv_clI (by omega)]; exact hid t (by omega)⟩, ?_⟩
  rw [vv_clI (k := t) (by omega)]
  refine wl2 (wp_X1_removeTuple_9 G Q) (fun K => wp_X1_removeTuple_9_b G K Q) (fun _ _ _ _ => rfl)
    (fun S' v2 v3 => ∃ j, t ≤ j ∧ j < T ∧ v2 = S.2.2 16 G t ∧ v3 = nI j ∧ S'.1 = S.1 ∧ S'.2.1 = S.2.1 ∧ (∀ k z, k ≠ 16 ∨ z ≠ G → S'.2.2 k z = S.2.2 k z) ∧ (∀ i, S'.2.2 16 G i = if t ≤ i ∧ i < j then S.2.2 16 G (i + 1) else S.2.2 16 G i))
    (fun _ _ v => 10 - v.toNatClampNeg) ⟨t, by omega, ht, rfl, rfl, rfl, rfl, fun _ _ _ => rfl, fun i => by rw [if_neg (by omega)]⟩ ?_
  rintro S' v2 v3 K ⟨j, hj1, hj2, rfl, rfl, h1, h2, h3, h4⟩ hK
  have e : S'.1 1 G 6 = nI T := by rw [h1]; exact hT
  have e2 : (xI S' 1 G 6 (nI (T - 1))).1 1 G 6 = nI (T - 1) := by rw [xI_1, if_pos ⟨rfl, rfl, rfl⟩]
  unfold wp_X1_removeTuple_9_b
  rw [e, nI_1]
  by_cases c : j + 1 = T
  · refine gt (by rw [vv_le (by omega) (by omega)]; omega) ?_
    rw [nI_s1 (by omega) (by omega), e2, vv_clI (k := T - 1) (by omega)]
    refine ⟨vv_in (by omega) (by omega), k _ ?_ h2 (fun k z hz => ?_) (fun i => ?_)⟩
    · show (xI S' 1 G 6 (nI (T - 1))).1 = _
      unfold xI
      rw [h1]
    · show (xR (xI S' 1 G 6 (nI (T - 1))) 16 G (T - 1) (S.2.2 16 G t)).2.2 k z = _
      funext i
      rw [xR_22, if_neg (by omega)]
      show S'.2.2 k z i = _
      rw [h3 k z hz]
    · show (xR (xI S' 1 G 6 (nI (T - 1))) 16 G (T - 1) (S.2.2 16 G t)).2.2 16 G i = _
      rw [xR_22]
      unfold rmI
      by_cases ei : i = T - 1
      · rw [if_pos (by omega), if_neg (by omega), if_neg (by omega), if_pos (by omega)]
      · rw [if_neg (by omega)]
        show S'.2.2 16 G i = _
        rw [h4]
        by_cases c1 : i < t
        · rw [if_neg (by omega), if_pos c1]
        · rw [if_neg c1]
          by_cases c2 : i + 1 < T
          · rw [if_pos (by omega), if_pos c2]
          · rw [if_neg (by omega), if_neg c2, if_neg (by omega)]
  · refine gf (by rw [vv_le (by omega) (by omega)]; omega) ?_
    rw [vv_clI (k := j + 1) (by omega), vv_clI (k := j) (by omega)]
    have e5 : S'.2.2 16 G (j + 1) = S.2.2 16 G (j + 1) := by rw [h4, if_neg (by omega)]
    rw [e5]
    refine ⟨⟨vv_in (by omega) (by omega), hid _ (by omega)⟩, vv_in (by omega) (by omega), hK _ _ _ ⟨j + 1, by omega, by omega, rfl, rfl, h1, h2, fun k z hz => ?_, fun i => ?_⟩ (by rw [vv_clI (by omega), vv_clI (by omega)]; omega)⟩
    · funext i
      rw [xR_22, if_neg (by omega), h3 k z hz]
    · rw [xR_22]
      by_cases ei : i = j
      · rw [if_pos (by omega), if_pos (by omega), ei]
      · rw [if_neg (by omega), h4]
        by_cases c1 : t ≤ i ∧ i < j
        · rw [if_pos c1, if_pos (by omega)]
        · rw [if_neg c1, if_neg (by omega)]
theorem w7_remove {M : xS} {g t T : Nat} {Q : xS → Prop} (hg : g < 6) (hT : mrow M g 3 = nI T) (hT5 : T ≤ 5) (ht : t < T)
    (k : ∀ M', (∀ k, k ≠ 11 → M'.1 k = M.1 k) → (∀ z y, z ≠ g → y < 511 → mrow M' z y = mrow M z y) → (∀ y, mrow M' g y = rmR (mrow M g) t T y) → Q M') : wp_X7_removeTuple (nI g) (nI t) M Q := by
  have tbl : tb T ≤ 511 := by unfold tb; omega
  have t76 : 76 ≤ tb t := by unfold tb; omega
  have tle : tb t ≤ tb (T - 1) := by unfold tb; omega
  have tT : tb (T - 1) + 87 = tb T := by unfold tb; omega
  unfold wp_X7_removeTuple wp_X7_tupleAt
  refine v7_of rfl nl3 hg (by omega) ?_
  rw [hT, nI_s1 (by omega) (by omega)]
  have e0 : (76 : Int32) + 87 * nI t = nI (tb t) := by simp only [nl76, nl87, vv_mul, nI_add]; rfl
  have e1 : (76 : Int32) + 87 * nI (T - 1) = nI (tb (T - 1)) := by simp only [nl76, nl87, vv_mul, nI_add]; rfl
  rw [e0]
  refine wl2 (wp_X7_removeTuple_15 (nI g) Q) (fun K => wp_X7_removeTuple_15_b (nI g) K Q) (fun _ _ _ _ => rfl)
    (fun M' v3 v4 => ∃ j, tb t ≤ j ∧ j ≤ tb (T - 1) ∧ v3 = nI (T - 1) ∧ v4 = nI j ∧ (∀ k, k ≠ 11 → M'.1 k = M.1 k) ∧ (∀ z y, z ≠ g → y < 511 → mrow M' z y = mrow M z y) ∧ (∀ y, mrow M' g y = if tb t ≤ y ∧ y < j then mrow M g (y + 87) else mrow M g y))
    (fun _ _ v => 600 - v.toNatClampNeg) ⟨tb t, by omega, tle, rfl, rfl, fun _ _ => rfl, fun _ _ _ _ => rfl, fun y => by rw [if_neg (by omega)]⟩ ?_
  rintro M' v3 v4 K ⟨j, hj1, hj2, rfl, rfl, h1, h2, h3⟩ hK
  unfold wp_X7_removeTuple_15_b wp_X7_tupleAt
  rw [e1]
  by_cases c : j = tb (T - 1)
  · refine gt (by rw [vv_le (by omega) (by omega)]; omega) (v7_put rfl nl3 hg (by omega) (k _ (fun k hk => by rw [xI_k hk]; exact h1 k hk) (fun z y hz hy => by rw [mrow_put_ne M' _ hz (by omega) hy]; exact h2 z y hz hy) (fun y => ?_)))
    rw [mrow_put, h3, c]
    rfl
  · refine gf (by rw [vv_le (by omega) (by omega)]; omega) (v7_of (y := j + 87) rfl (by rw [nl87, nI_add]) hg (by omega) (v7_put rfl rfl hg (by omega) ?_))
    rw [nI_1]
    refine hK _ _ _ ⟨j + 1, by omega, by omega, rfl, rfl, fun k hk => by rw [xI_k hk]; exact h1 k hk, fun z y hz hy => by rw [mrow_put_ne M' _ hz (by omega) hy]; exact h2 z y hz hy, fun y => ?_⟩ (by rw [vv_clI (by omega), vv_clI (by omega)]; omega)
    rw [mrow_put, h3, h3]
    by_cases e : y = j
    · rw [if_pos e, if_neg (by omega), if_pos (by omega), e]
    · rw [if_neg e]
      by_cases c1 : tb t ≤ y ∧ y < j
      · rw [if_pos c1, if_pos (by omega)]
      · rw [if_neg c1, if_neg (by omega)]
theorem TupRel.sh {S S' : xS} {T : Nat} {r r' : Nat → Int32} {t t' : Nat} (h : TupRel S T r t) (hS : ∀ k, (k = 5 ∨ 24 ≤ k ∧ k ≤ 28) → S'.1 k T = S.1 k T) (hr : ∀ x, x < 87 → r' (tb t' + x) = r (tb t + x)) : TupRel S' T r' t' := by
  obtain ⟨h1, ⟨m, h2, h3, h4⟩, h5⟩ := h
  have hf : ∀ s, s < 25 → fl r' t' s = fl r t s := fun s hs => by unfold fl; rw [Nat.add_assoc, hr _ (by omega), ← Nat.add_assoc]
  have hx : ∀ s, s < 25 → dlx r' t' s = dlx r t s := fun s hs => by unfold dlx; rw [Nat.add_assoc, hr _ (by omega), ← Nat.add_assoc]
  have hy : ∀ s, s < 25 → dly r' t' s = dly r t s := fun s hs => by unfold dly; rw [Nat.add_assoc, hr _ (by omega), ← Nat.add_assoc]
  refine ⟨fun a ha => ?_, ⟨m, ?_, h3, fun pl hp => ?_⟩, fun pl hp hq => ?_⟩
  · rw [hS 24 (by omega), hS 25 (by omega), hS 26 (by omega), hr _ (by omega), Nat.add_assoc (tb t'), hr _ (by omega), Nat.add_assoc (tb t'), hr _ (by omega), ← Nat.add_assoc, ← Nat.add_assoc]
    exact h1 a ha
  · rw [hS 5 (by omega)]; exact h2
  · rw [hf _ (slo_lt hp)]; exact h4 pl hp
  · rw [hf _ (slo_lt hp)] at hq
    rw [hS 27 (by omega), hS 28 (by omega), hx _ (slo_lt hp), hy _ (slo_lt hp)]
    exact h5 pl hp hq
theorem TupOk.sh {na n : Nat} {r r' : Nat → Int32} {t t' : Nat} (h : TupOk na n r t) (hr : ∀ x, x < 87 → r' (tb t' + x) = r (tb t + x)) : TupOk na n r' t' := by
  obtain ⟨h1, h2, h3, h4, h5⟩ := h
  have hf : ∀ s, s < 25 → fl r' t' s = fl r t s := fun s hs => by unfold fl; rw [Nat.add_assoc, hr _ (by omega), ← Nat.add_assoc]
  have hy : ∀ s, s < 25 → dly r' t' s = dly r t s := fun s hs => by unfold dly; rw [Nat.add_assoc, hr _ (by omega), ← Nat.add_assoc]
  have e0 : ∀ a, a < 4 → r' (tb t' + 3 * a) = r (tb t + 3 * a) := fun a ha => hr _ (by omega)
  have e1 : ∀ a, a < 4 → r' (tb t' + 3 * a + 1) = r (tb t + 3 * a + 1) := fun a ha => by rw [Nat.add_assoc, hr _ (by omega), ← Nat.add_assoc]
  have e2 : ∀ a, a < 4 → r' (tb t' + 3 * a + 2) = r (tb t + 3 * a + 2) := fun a ha => by rw [Nat.add_assoc, hr _ (by omega), ← Nat.add_assoc]
  refine ⟨fun a ha => ?_, fun a ha hb => ?_, fun s hs => ?_, fun s hs hq => ?_, fun hq => ?_⟩
  · rw [e0 a ha, e1 a ha, e2 a ha]; exact h1 a ha
  · rw [e0 a hb, e1 a hb, e2 a hb]; exact h2 a ha hb
  · rw [hf s hs]; exact h3 s hs
  · rw [hf s (by omega)]; exact h4 s hs hq
  · rw [hf 24 (by omega)] at hq
    rw [hy 24 (by omega)]
    exact h5 hq
theorem rm_lo {r : Nat → Int32} {t T y : Nat} (h : y < 76) (h3 : y ≠ 3) : rmR r t T y = r y := by
  unfold rmR
  rw [if_neg h3, if_neg (by unfold tb; omega)]
theorem rm_tup {r : Nat → Int32} {t T j x : Nat} (hj : j + 1 < T) (hx : x < 87) : rmR r t T (tb j + x) = r (tb (if j < t then j else j + 1) + x) := by
  unfold rmR
  rw [if_neg (by unfold tb; omega)]
  by_cases c : j < t
  · rw [if_pos c, if_neg (by unfold tb; omega)]
  · rw [if_neg c, if_pos (by unfold tb; omega)]
    congr 1
    unfold tb
    omega
theorem rm_N {r : Nat → Int32} {t T : Nat} : rN (rmR r t T) = rN r := rN_fr (rm_lo (by omega) (by omega))
theorem rm_T {r : Nat → Int32} {t T : Nat} (h : T ≤ 5) : rT (rmR r t T) = T - 1 := by
  show (rmR r t T 3).toNatClampNeg = _
  rw [show rmR r t T 3 = nI (T - 1) from rfl, vv_clI (by omega)]
theorem rm_cno {r : Nat → Int32} {t T : Nat} : ∀ p, p < 24 → cno (rmR r t T) p = cno r p
  | 0, _ => rfl
  | p + 1, h => by
    show cno _ p + _ = cno r p + _
    rw [rm_cno p (by omega), rm_lo (by omega) (by omega)]
theorem rm_rel {S S' : xS} {G t T : Nat} {r : Nat → Int32} (hG : GlRel S G r) (hN : rN r ≤ 24) (hT : rT r = T) (hT5 : T ≤ 5) (ht : t < T) (h1 : S'.1 = (xI S 1 G 6 (nI (T - 1))).1) (h2 : ∀ j, S'.2.2 16 G j = rmI (S.2.2 16 G) t T j) : GlRel S' G (rmR r t T) := by
  obtain ⟨e1, e2, e3, e4, e5, e6, e7, e8, e9⟩ := hG
  have sk : ∀ k, k ≠ 1 → S'.1 k = S.1 k := fun k hk => by rw [h1, xI_k hk]
  unfold GlRel
  rw [rm_N, rm_T hT5, sk 12 (by omega), sk 13 (by omega), sk 14 (by omega), sk 15 (by omega), h1, xI_1, if_neg (by omega), xI_1, if_neg (by omega), xI_1, if_pos ⟨rfl, rfl, rfl⟩, rm_lo (y := 0) (by omega) (by omega), rm_lo (y := 1) (by omega) (by omega), rm_lo (y := 2) (by omega) (by omega)]
  refine ⟨e1, e2, rfl, e4, e5, fun p hp => ?_, fun hz p hp => ?_, fun hz c hc => ?_, fun j hj => ?_⟩
  · rw [rm_lo (by omega) (by omega), rm_lo (by omega) (by omega)]; exact e6 p hp
  · rw [rm_cno p (by omega)]; exact e7 hz p hp
  · rw [rm_lo (by omega) (by omega)]; exact e8 hz c hc
  · rw [h2]
    have ej : rmI (S.2.2 16 G) t T j = S.2.2 16 G (if j < t then j else j + 1) := by
      unfold rmI
      by_cases c : j < t
      · rw [if_pos c, if_pos c]
      · rw [if_neg c, if_neg c, if_pos (by omega)]
    rw [ej]
    exact (e9 (if j < t then j else j + 1) (by split <;> omega)).sh (fun k hk => by rw [sk k (by omega)]) (fun x hx => rm_tup (by omega) hx)
theorem rm_ok {na gi t T : Nat} {r : Nat → Int32} (hR : RowOk na gi r) (hT : rT r = T) (ht : t < T) : RowOk na gi (rmR r t T) := by
  obtain ⟨e1, e2, e3, e4, e5, e6, e7⟩ := hR
  have hT5 : T ≤ 5 := by omega
  unfold RowOk
  rw [rm_N, rm_T hT5, rm_lo (y := 0) (by omega) (by omega), rm_lo (y := 2) (by omega) (by omega)]
  refine ⟨e1, e2, e3, ⟨by omega, rfl⟩, fun hz => ⟨fun p hp => ?_, fun hp => ?_⟩, fun hz c hc => ?_, fun j hj => ?_⟩
  · rw [rm_lo (by omega) (by omega)]; exact (e5 hz).1 p hp
  · rw [rm_lo (by omega) (by omega)]; exact (e5 hz).2 hp
  · rw [rm_lo (by omega) (by omega)]; exact e6 hz c hc
  · exact (e7 (if j < t then j else j + 1) (by split <;> omega)).sh (fun x hx => rm_tup (by omega) hx)
theorem rm_bd {P : Int} {t T : Nat} {r : Nat → Int32} (hN : rN r ≤ 24) (hB : Bd P r) (hT : rT r = T) (hT5 : T ≤ 5) (ht : t < T) : Bd P (rmR r t T) := by
  obtain ⟨B, D, f1, f2, f3, f4, f5, f6⟩ := hB
  refine ⟨B, fun j => if j < t then D j else if j < 4 then D (j + 1) else 0, f1, fun j => ?_, ?_, by rw [rm_lo (by omega) (by omega)]; exact f4, fun p hp => ?_, fun j hj s hs hf => ?_⟩
  · show 0 ≤ if j < t then D j else if j < 4 then D (j + 1) else 0
    split
    · exact f2 j
    · split
      · exact f2 _
      · omega
  · have := f2 t
    have ht5 : t = 0 ∨ t = 1 ∨ t = 2 ∨ t = 3 ∨ t = 4 := by omega
    rcases ht5 with rfl | rfl | rfl | rfl | rfl <;> simp <;> omega
  · rw [rm_N] at hp
    rw [rm_lo (by omega) (by omega), rm_lo (by omega) (by omega)]; exact f5 p hp
  · rw [rm_T hT5] at hj
    have ef : fl (rmR r t T) j s = fl r (if j < t then j else j + 1) s := by unfold fl; rw [Nat.add_assoc, rm_tup (by omega) (by omega), ← Nat.add_assoc]
    have ex : dlx (rmR r t T) j s = dlx r (if j < t then j else j + 1) s := by unfold dlx; rw [Nat.add_assoc, rm_tup (by omega) (by omega), ← Nat.add_assoc]
    have ey : dly (rmR r t T) j s = dly r (if j < t then j else j + 1) s := by unfold dly; rw [Nat.add_assoc, rm_tup (by omega) (by omega), ← Nat.add_assoc]
    rw [ef] at hf
    rw [ex, ey]
    have := f6 (if j < t then j else j + 1) (by split <;> omega) s hs hf
    show rng _ (-(if j < t then D j else if j < 4 then D (j + 1) else 0)) (if j < t then D j else if j < 4 then D (j + 1) else 0) ∧ rng _ (-(if j < t then D j else if j < 4 then D (j + 1) else 0)) (if j < t then D j else if j < 4 then D (j + 1) else 0)
    have De : (if j < t then D j else if j < 4 then D (j + 1) else 0) = D (if j < t then j else j + 1) := by
      by_cases c : j < t
      · rw [if_pos c, if_pos c]
      · rw [if_neg c, if_neg c, if_pos (by omega)]
    rw [De]
    exact this
theorem rm_perm {S S' : xS} {G t T : Nat} (h : PermG S G) (hT5 : T ≤ 5) (ht : t < T) (h2 : ∀ j, S'.2.2 16 G j = rmI (S.2.2 16 G) t T j) : PermG S' G := by
  have e : ∀ j, j < 5 → ∃ i, i < 5 ∧ rmI (S.2.2 16 G) t T j = S.2.2 16 G i ∧ i = (if j < t then j else if j + 1 < T then j + 1 else if j + 1 = T then t else j) := by
    intro j hj
    refine ⟨_, ?_, ?_, rfl⟩
    · split
      · omega
      · split
        · omega
        · split <;> omega
    · unfold rmI
      split
      · rfl
      · split
        · rfl
        · split <;> rfl
  refine ⟨fun j hj => ?_, fun i j hi hj q => ?_⟩
  · obtain ⟨i, i1, i2, _⟩ := e j hj
    rw [h2, i2]; exact h.1 i i1
  · obtain ⟨a, a1, a2, a3⟩ := e i hi
    obtain ⟨b, b1, b2, b3⟩ := e j hj
    rw [h2, h2, a2, b2] at q
    have := h.2 a b a1 b1 q
    rw [a3, b3] at this
    by_cases c1 : i < t <;> by_cases c2 : i + 1 < T <;> by_cases c3 : i + 1 = T <;> by_cases c4 : j < t <;> by_cases c5 : j + 1 < T <;> by_cases c6 : j + 1 = T <;> simp [c1, c2, c3, c4, c5, c6] at this <;> omega
