def dX (r : Nat → Int32) (t s : Nat) : Int32 := dvV r t s 0
def dY (r : Nat → Int32) (t s : Nat) : Int32 := dvV r t s 1
def taR (r : Nat → Int32) (t : Nat) : Nat → Int32 := upT r t (wrB r t (dX r t) (dY r t))
theorem dY24 {na n t : Nat} {r : Nat → Int32} (hO : TupOk na n r t) : dY r t 24 = 0 := by
  unfold dY dvV
  by_cases c : fl r t 24 = 1
  · rw [if_pos c]; exact hO.2.2.2.2 c
  · rw [if_neg c, if_pos (Or.inl rfl)]
def WrF (S S' : xS) (T : Nat) : Prop := (∀ k, k ≠ 27 → k ≠ 28 → S'.1 k = S.1 k) ∧ (∀ k z, z ≠ T → S'.1 k z = S.1 k z) ∧ S'.2 = S.2
theorem TupRel.un {S : xS} {T t pl : Nat} {r : Nat → Int32} {v : Int32} {k : Nat} (h : TupRel S T r t) (hp : ¬ fl r t (slo pl) = 1) (hk : k = 27 ∨ k = 28) : TupRel (xI S k T pl v) T r t := by
  obtain ⟨h1, ⟨m, h2, h3, h4⟩, h5⟩ := h
  refine ⟨fun a ha => ?_, ⟨m, ?_, h3, h4⟩, fun q hq hf => ?_⟩
  · rw [xI_k (by omega), xI_k (by omega), xI_k (by omega)]; exact h1 a ha
  · rw [xI_k (by omega)]; exact h2
  · have hne : ¬ q = pl := fun e => hp (by rw [← e]; exact hf)
    rw [xI_1, if_neg (by omega), xI_1, if_neg (by omega)]
    exact h5 q hq hf
theorem gl_same {S S' : xS} {G t : Nat} {r : Nat → Int32} (hG : GlRel S G r) (hT5 : rT r ≤ 5) (h16 : S'.2.2 16 G = S.2.2 16 G) (hid : ∀ i j, i < 5 → j < 5 → S.2.2 16 G i = S.2.2 16 G j → i = j) (ht : t < rT r) (hS1 : ∀ k, k = 1 ∨ 12 ≤ k ∧ k ≤ 15 → S'.1 k G = S.1 k G) (hU : ∀ k z, k = 5 ∨ 24 ≤ k ∧ k ≤ 28 → z ≠ S.2.2 16 G t → S'.1 k z = S.1 k z) (hTn : TupRel S' (S.2.2 16 G t) r t) : GlRel S' G r := by
  obtain ⟨e1, e2, e3, e4, e5, e6, e7, e8, e9⟩ := hG
  unfold GlRel
  rw [hS1 1 (by omega), hS1 12 (by omega), hS1 13 (by omega), hS1 14 (by omega), hS1 15 (by omega), h16]
  refine ⟨e1, e2, e3, e4, e5, e6, e7, e8, fun j hj => ?_⟩
  by_cases e : j = t
  · rw [e]; exact hTn
  · exact (e9 j hj).fr2 (fun k hk => hU k _ hk (fun q => e (hid j t (by omega) (by omega) q))) (fun _ _ _ => rfl)
section WRITE
variable {S : xS} {G na gi t : Nat} {r : Nat → Int32}
theorem w1_write (hg : Gd S G na gi r) (ht : t < rT r) {Q : xS → Prop} (k : ∀ S', WrF S S' (S.2.2 16 G t) → TupRel S' (S.2.2 16 G t) r t → (∀ pl, pl ≤ rN r → S'.1 27 (S.2.2 16 G t) pl = dX r t (slo pl) ∧ S'.1 28 (S.2.2 16 G t) pl = dY r t (slo pl)) → Q S') : wp_X1_writeInferred G (S.2.2 16 G t) S Q := by
  obtain ⟨hG, hR, hP⟩ := hg
  have hN := hR.2.1.1
  have hT5 := hR.2.2.2.1.1
  have hT := hG.2.2.2.2.2.2.2.2 t ht
  unfold wp_X1_writeInferred
  generalize hTe : S.2.2 16 G t = T at *
  refine wl1 (wp_X1_writeInferred_2 G T Q) (fun K => wp_X1_writeInferred_2_b G T K Q) (fun _ _ _ => rfl)
    (fun S' v => ∃ j, j ≤ rN r + 1 ∧ v = nI j ∧ WrF S S' T ∧ TupRel S' T r t ∧ ∀ pl, pl < j → S'.1 27 T pl = dX r t (slo pl) ∧ S'.1 28 T pl = dY r t (slo pl)) (fun _ v => 100 - v.toNatClampNeg) ⟨0, by omega, rfl, ⟨fun _ _ _ => rfl, fun _ _ _ => rfl, rfl⟩, hT, fun pl h => by omega⟩ ?_
  rintro S' v K ⟨j, hj, rfl, hF, hT', hv⟩ hK
  have hG' : GlRel S' G r := gl_same hG hT5 (by rw [hF.2.2]) hP.2 ht (fun k hk => by rw [hF.1 k (by omega) (by omega)]) (fun k z _ hz => hF.2.1 k z (by rw [hTe] at hz; exact hz)) (by rw [hTe]; exact hT')
  unfold wp_X1_writeInferred_2_b wp_X1_writeInferred_44
  rw [hG'.2.1.trans hR.2.1.2]
  by_cases c : j = rN r + 1
  · subst c
    exact gt (by rw [vv_lt (by omega) (by omega)]; omega) (k S' hF hT' (fun pl hp => hv pl (by omega)))
  · obtain ⟨m, m1, m2, m3⟩ := hT'.2.1
    refine gf (by rw [vv_lt (by omega) (by omega)]; omega) (v5_touches m1 m2 (by omega) ?_)
    have hin := vv_in (k := j) (N := 25) (by omega) (by omega)
    rw [m3 j (by omega), nI_1]
    have mu : 100 - (nI (j + 1)).toNatClampNeg < 100 - (nI j).toNatClampNeg := by rw [vv_clI (by omega), vv_clI (by omega)]; omega
    by_cases cf : fl r t (slo j) = 1
    · rw [decide_eq_true cf]
      refine g1 (hK _ _ ⟨j + 1, by omega, rfl, hF, hT', fun pl hp => ?_⟩ mu)
      by_cases e : pl = j
      · rw [e]
        obtain ⟨q1, q2⟩ := hT'.2.2 j (by omega) cf
        rw [q1, q2]
        unfold dX dY dvV
        rw [if_pos cf, if_pos cf]
        exact ⟨rfl, rfl⟩
      · exact hv pl (by omega)
    · rw [decide_eq_false cf]
      have t1 : TupRel (xI S' 27 T j (dX r t (slo j))) T r t := hT'.un cf (Or.inl rfl)
      have f1 : WrF S (xI S' 27 T j (dX r t (slo j))) T := ⟨fun k h1 h2 => by rw [xI_k h1]; exact hF.1 k h1 h2, fun k z hz => by
        funext w
        rw [xI_1, if_neg (by omega), hF.2.1 k z hz], hF.2.2⟩
      have g1' : GlRel (xI S' 27 T j (dX r t (slo j))) G r := gl_same hG hT5 (by rw [f1.2.2]) hP.2 ht (fun k hk => by rw [f1.1 k (by omega) (by omega)]) (fun k z _ hz => f1.2.1 k z (by rw [hTe] at hz; exact hz)) (by rw [hTe]; exact t1)
      refine g0 (w1_delta hG' hR hT' (by omega) ⟨hin, ?_⟩)
      rw [vv_clI (k := j) (by omega)]
      refine w1_delta g1' hR t1 (by omega) ⟨hin, hK _ _ ⟨j + 1, by omega, rfl, ⟨fun k h1 h2 => by rw [xI_k h2]; exact f1.1 k h1 h2, fun k z hz => by
        funext w
        rw [xI_1, if_neg (by omega)]
        exact congrFun (f1.2.1 k z hz) w, f1.2.2⟩, t1.un cf (Or.inr rfl), fun pl hp => ?_⟩ mu⟩
      rw [xI_k (k' := 27) (by omega), xI_1 _ 27, xI_1 _ 28]
      by_cases e : pl = j
      · rw [if_pos ⟨rfl, rfl, e⟩, if_pos ⟨rfl, rfl, e⟩, e]; exact ⟨rfl, rfl⟩
      · rw [if_neg (by omega), if_neg (by omega), xI_k (by omega)]; exact hv pl (by omega)
theorem slo_in {N pl : Nat} (hN : N ≤ 24) (hp : pl < 25) : inS N (slo pl) = decide (pl ≤ N) := by
  unfold inS slo
  by_cases c : pl = 0
  · rw [if_pos c, decide_eq_true (Or.inr rfl), decide_eq_true (by omega)]
  · rw [if_neg c]
    by_cases c2 : pl ≤ N
    · rw [decide_eq_true (by omega), decide_eq_true c2]
    · rw [decide_eq_false (by omega), decide_eq_false c2]
theorem WrF.g {S S' : xS} {G t : Nat} (hP : PermG S G) (ht : t < 5) (h : WrF S S' (S.2.2 16 G t)) : GFr S S' G := by
  have := hP.1 t ht
  refine ⟨fun k hk => h.1 k (by unfold kG at hk; omega) (by unfold kG at hk; omega), fun k z hk hz => by rw [h.1 k (by omega) (by omega)], fun k z hk hz => h.2.1 k z (by omega), by rw [h.2.2], fun k _ => by rw [h.2.2], fun z _ => by rw [h.2.2]⟩
/- a tuple of the class that has a new block -/
theorem Gd.up {S' : xS} {X Y : Nat → Int32} {m : Nat} (hg : Gd S G na gi r) (ht : t < rT r) (h0 : Y 24 = 0) (h2 : S'.2 = S.2) (hk : ∀ k, ¬ (k = 5 ∨ 27 ≤ k ∧ k ≤ 28) → S'.1 k = S.1 k) (hz : ∀ k z, z ≠ S.2.2 16 G t → S'.1 k z = S.1 k z)
    (h5 : S'.1 5 (S.2.2 16 G t) 3 = nI m) (hm : m < 2 ^ 25) (hb : ∀ pl, pl < 25 → m.testBit pl = decide (pl ≤ rN r)) (hv : ∀ pl, pl ≤ rN r → S'.1 27 (S.2.2 16 G t) pl = X (slo pl) ∧ S'.1 28 (S.2.2 16 G t) pl = Y (slo pl)) : Gd S' G na gi (upT r t (wrB r t X Y)) := by
  obtain ⟨hG, hR, hP⟩ := hg
  have hN := hR.2.1.1
  have hT5 := hR.2.2.2.1.1
  have hT := hG.2.2.2.2.2.2.2.2 t ht
  have hO := hR.2.2.2.2.2.2 t ht
  refine ⟨up_gl hG hN hT5 (by rw [h2]) hP.2 ht (fun k hk' => by rw [hk k (by omega)]) (fun k z _ h => hz k z h) ⟨fun a ha => ?_, ⟨m, h5, hm, fun pl hp => ?_⟩, fun pl hp hf => ?_⟩, up_ok hR ht (wr_tup hN hO h0), ?_⟩
  · rw [hk 24 (by omega), hk 25 (by omega), hk 26 (by omega), Nat.add_assoc (tb t), Nat.add_assoc (tb t), wr_rg (by omega), wr_rg (by omega), wr_rg (by omega), ← Nat.add_assoc, ← Nat.add_assoc]
    exact hT.1 a ha
  · rw [hb pl hp, wr_fl (slo_lt hp), slo_in hN hp]
    by_cases c : pl ≤ rN r
    · rw [decide_eq_true c, if_pos rfl, decide_eq_true rfl]
    · rw [decide_eq_false c, if_neg (by decide)]
      have hs : slo pl = pl - 1 := by unfold slo; rw [if_neg (by omega)]
      rw [hs, hO.2.2.2.1 (pl - 1) (by omega) (by omega), decide_eq_false (by decide)]
  · rw [wr_fl (slo_lt hp), slo_in hN hp] at hf
    rw [wr_dx (slo_lt hp), wr_dy (slo_lt hp), slo_in hN hp]
    by_cases c : pl ≤ rN r
    · rw [decide_eq_true c, if_pos rfl, if_pos rfl]; exact hv pl c
    · rw [decide_eq_false c, if_neg (by decide)] at hf
      have hs : slo pl = pl - 1 := by unfold slo; rw [if_neg (by omega)]
      rw [hs, hO.2.2.2.1 (pl - 1) (by omega) (by omega)] at hf
      exact absurd hf (by decide)
  · exact ⟨fun j hj => by rw [h2]; exact hP.1 j hj, fun i j hi hj q => by rw [h2] at q; exact hP.2 i j hi hj q⟩
theorem w1_touchAll (hg : Gd S G na gi r) (ht : t < rT r) {Q : xS → Prop} (k : ∀ S', GFr S S' G → S'.2 = S.2 → Gd S' G na gi (taR r t) → Q S') : wp_X1_touchAll G (S.2.2 16 G t) S Q := by
  obtain ⟨hG, hR, hP⟩ := id hg
  have hN := hR.2.1.1
  have hT5 := hR.2.2.2.1.1
  have hO := hR.2.2.2.2.2.2 t ht
  have hb := hP.1 t (by omega)
  unfold wp_X1_touchAll
  refine w1_write hg ht (fun S' hF hT' hv => ?_)
  have e1 : S'.1 1 G 1 = nI (rN r) := by rw [hF.1 1 (by omega) (by omega)]; exact hG.2.1.trans hR.2.1.2
  have e2 : ((1 : Int32) <<< ((S'.1 1 G 1 + 1) &&& 31)) - 1 = nI (2 ^ (rN r + 1) - 1) := by
    rw [e1, nI_1, nI_bit ⟨rN r + 1, by omega⟩]
    have : 2 ^ (rN r + 1) ≤ 2 ^ 25 := Nat.pow_le_pow_right (by omega) (by omega)
    have : 0 < 2 ^ (rN r + 1) := Nat.pow_pos (by omega)
    show nI (2 ^ (rN r + 1)) - 1 = _
    rw [nI_s1 (by omega) (by omega)]
  have e3 : 2 ^ (rN r + 1) - 1 < 2 ^ 25 := by
    have : 2 ^ (rN r + 1) ≤ 2 ^ 25 := Nat.pow_le_pow_right (by omega) (by omega)
    have : 0 < 2 ^ (rN r + 1) := Nat.pow_pos (by omega)
    omega
  rw [e2]
  refine k _ ?_ hF.2.2 (hg.up ht (dY24 hO) hF.2.2 (fun k hk => by rw [xI_k (by omega), hF.1 k (by omega) (by omega)]) (fun k z hz => ?_) (xI_s _ _ _ _ _) e3 (fun pl hp => by rw [Nat.testBit_two_pow_sub_one]; congr 1; exact propext ⟨fun h => by omega, fun h => by omega⟩) (fun pl hp => by rw [xI_k (by omega), xI_k (by omega)]; exact hv pl hp))
  · refine (hF.g hP (by omega)).trans ⟨fun k hk => by rw [xI_k (by unfold kG at hk; omega)], fun k z hk hz => by rw [xI_k (by omega)], fun k z hk hz => ?_, rfl, fun _ _ => rfl, fun _ _ => rfl⟩
    funext w
    rw [xI_1, if_neg (by omega)]
  · funext w
    rw [xI_1, if_neg (by omega), hF.2.1 k z hz]
end WRITE
