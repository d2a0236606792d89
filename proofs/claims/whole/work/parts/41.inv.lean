def mrow (M : xS) (g : Nat) : Nat → Int32 := fun x => M.1 11 0 (511 * g + x)
def krow (M : xS) (k : Nat) : Nat → Int32 := fun x => M.1 26 0 (511 * k + x)
def slo (pl : Nat) : Nat := if pl = 0 then 24 else pl - 1
def tb (t : Nat) : Nat := 76 + 87 * t
def fl (r : Nat → Int32) (t s : Nat) : Int32 := r (tb t + 12 + s)
def dlx (r : Nat → Int32) (t s : Nat) : Int32 := r (tb t + 37 + s)
def dly (r : Nat → Int32) (t s : Nat) : Int32 := r (tb t + 62 + s)
def rN (r : Nat → Int32) : Nat := (r 2).toNatClampNeg
def rT (r : Nat → Int32) : Nat := (r 3).toNatClampNeg
def cno (r : Nat → Int32) : Nat → Nat
  | 0 => 0
  | p + 1 => cno r p + (if r (52 + (p + 1)) = 1 then 1 else 0)
def rng (x : Int32) (lo hi : Int) : Prop := lo ≤ x.toInt ∧ x.toInt ≤ hi
def TupRel (S : xS) (T : Nat) (r : Nat → Int32) (t : Nat) : Prop :=
  (∀ a, a < 4 → S.1 24 T a = r (tb t + 3 * a) ∧ S.1 25 T a = r (tb t + 3 * a + 1) ∧ S.1 26 T a = r (tb t + 3 * a + 2)) ∧
  (∃ m, S.1 5 T 3 = nI m ∧ m < 2 ^ 25 ∧ ∀ pl, pl < 25 → m.testBit pl = decide (fl r t (slo pl) = 1)) ∧
  (∀ pl, pl < 25 → fl r t (slo pl) = 1 → S.1 27 T pl = dlx r t (slo pl) ∧ S.1 28 T pl = dly r t (slo pl))
def TupOk (na n : Nat) (r : Nat → Int32) (t : Nat) : Prop :=
  (∀ a, a < 4 → -16384 ≤ (r (tb t + 3 * a)).toInt ∧ (r (tb t + 3 * a)).toInt ≤ (r (tb t + 3 * a + 1)).toInt ∧ (r (tb t + 3 * a + 1)).toInt ≤ (r (tb t + 3 * a + 2)).toInt ∧ (r (tb t + 3 * a + 2)).toInt ≤ 16384) ∧
  (∀ a, na ≤ a → a < 4 → r (tb t + 3 * a) = 0 ∧ r (tb t + 3 * a + 1) = 0 ∧ r (tb t + 3 * a + 2) = 0) ∧
  (∀ s, s < 25 → fl r t s = 0 ∨ fl r t s = 1) ∧ (∀ s, n ≤ s → s < 24 → fl r t s = 0) ∧ (fl r t 24 = 1 → dly r t 24 = 0)
def RowOk (na gi : Nat) (r : Nat → Int32) : Prop :=
  (r 0 = 0 ∨ r 0 = 1) ∧ (rN r ≤ 24 ∧ r 2 = nI (rN r)) ∧ (r 0 = 1 → rN r ≤ 4) ∧ (rT r ≤ 5 ∧ r 3 = nI (rT r)) ∧
  (r 0 = 0 → (∀ p, p < rN r → r (52 + p) = 0 ∨ r (52 + p) = 1) ∧ (0 < rN r → r 52 = 1)) ∧
  (r 0 = 1 → ∀ c, c < rN r → ∃ h, r (52 + c) = nI h ∧ h < gi) ∧
  (∀ t, t < rT r → TupOk na (rN r) r t)
def GlRel (S : xS) (G : Nat) (r : Nat → Int32) : Prop :=
  S.1 1 G 0 = r 0 ∧ S.1 1 G 1 = r 2 ∧ S.1 1 G 6 = r 3 ∧ S.1 12 G 0 = r 1 ∧ S.1 13 G 0 = 0 ∧
  (∀ p, p < rN r → S.1 12 G (p + 1) = r (4 + p) ∧ S.1 13 G (p + 1) = r (28 + p)) ∧
  (r 0 = 0 → ∀ p, p < rN r → S.1 14 G (p + 1) = nI (cno r p)) ∧
  (r 0 = 1 → ∀ c, c < rN r → S.1 15 G (c + 1) = r (52 + c)) ∧
  (∀ t, t < rT r → TupRel S (S.2.2 16 G t) r t)
def Bd (P : Int) (r : Nat → Int32) : Prop := ∃ (B : Int) (D : Nat → Int), 4000 ≤ B ∧ (∀ t, 0 ≤ D t) ∧ B + D 0 + D 1 + D 2 + D 3 + D 4 ≤ P ∧ rng (r 1) (-B) B ∧
  (∀ p, p < rN r → rng (r (4 + p)) (-B) B ∧ rng (r (28 + p)) (-B) B) ∧
  (∀ t, t < rT r → ∀ s, s < 25 → fl r t s = 1 → rng (dlx r t s) (-D t) (D t) ∧ rng (dly r t s) (-D t) (D t))
def cntM (M : xS) (j : Nat) : Nat := (M.1 0 0 j).toNatClampNeg
def AxRel (S M : xS) (a : Nat) : Prop :=
  (S.1 0 a 0 = M.1 2 0 a ∧ S.1 0 a 1 = M.1 3 0 a ∧ S.1 0 a 2 = M.1 4 0 a) ∧
  (-100000 ≤ (M.1 2 0 a).toInt ∧ (M.1 2 0 a).toInt ≤ (M.1 3 0 a).toInt ∧ (M.1 3 0 a).toInt ≤ (M.1 4 0 a).toInt ∧ (M.1 4 0 a).toInt ≤ 100000 ∧ (M.1 2 0 a).toInt < (M.1 4 0 a).toInt) ∧
  (S.1 0 a 3 = M.1 6 0 a ∧ (M.1 6 0 a = 0 ∨ M.1 6 0 a = 1)) ∧ (S.1 30 0 a = M.1 5 0 a ∧ rng (M.1 5 0 a) (-16384) 16384) ∧
  S.1 0 a 4 = M.1 7 0 a ∧ ∃ np, M.1 7 0 a = nI np ∧ 3 ≤ np ∧ np ≤ 8 ∧ (∀ i, i < np → S.1 10 a i = M.1 8 0 (8 * a + i) ∧ S.1 11 a i = M.1 9 0 (8 * a + i)) ∧
  (M.1 8 0 (8 * a) = -16384 ∧ M.1 9 0 (8 * a) = -16384 ∧ M.1 8 0 (8 * a + (np - 1)) = 16384 ∧ M.1 9 0 (8 * a + (np - 1)) = 16384) ∧
  (∀ i, i + 1 < np → (M.1 8 0 (8 * a + i)).toInt < (M.1 8 0 (8 * a + (i + 1))).toInt ∧ (M.1 9 0 (8 * a + i)).toInt ≤ (M.1 9 0 (8 * a + (i + 1))).toInt)
def InvA (S M : xS) : Prop := (cntM M 0 ≤ 4 ∧ M.1 0 0 0 = nI (cntM M 0) ∧ S.1 6 0 1 = M.1 0 0 0) ∧ (∀ a, a < cntM M 0 → AxRel S M a) ∧ (∀ a, cntM M 0 ≤ a → a < 4 → S.1 30 0 a = 0 ∧ S.1 0 a 3 = 0 ∧ M.1 6 0 a = 0) ∧ (∀ a, a < 4 → S.1 30 1 a = 0)
def PermOk (S : xS) : Prop :=
  (∀ G, G < 12 → ∀ j, j < 5 → 5 * G ≤ S.2.2 16 G j ∧ S.2.2 16 G j < 5 * G + 5) ∧ (∀ G, G < 12 → ∀ i j, i < 5 → j < 5 → S.2.2 16 G i = S.2.2 16 G j → i = j) ∧
  (∀ k, k < 6 → 6 ≤ S.2.2 18 0 k ∧ S.2.2 18 0 k < 12) ∧ (∀ i j, i < 6 → j < 6 → S.2.2 18 0 i = S.2.2 18 0 j → i = j)
def InvG (P : Int) (S M : xS) : Prop := (cntM M 9 ≤ 6 ∧ M.1 0 0 9 = nI (cntM M 9) ∧ S.1 6 0 6 = M.1 0 0 9) ∧ PermOk S ∧
  (∀ g, g < cntM M 9 → GlRel S g (mrow M g) ∧ RowOk (cntM M 0) g (mrow M g) ∧ Bd P (mrow M g)) ∧
  (∀ g, cntM M 9 ≤ g → g < 6 → S.1 1 g 1 = 0 ∧ S.1 1 g 6 = 0 ∧ S.1 13 g 0 = 0 ∧ mrow M g 2 = 0 ∧ mrow M g 3 = 0)
def InvH (P : Int) (S M : xS) : Prop := (cntM M 23 ≤ 6 ∧ M.1 0 0 23 = nI (cntM M 23) ∧ S.1 2 0 0 = M.1 0 0 23) ∧
  (∀ k, k < cntM M 23 → ∃ g, M.1 25 0 k = nI g ∧ S.1 17 0 k = nI g ∧ g < cntM M 9 ∧ GlRel S (S.2.2 18 0 k) (krow M k) ∧ RowOk (cntM M 0) g (krow M k) ∧ Bd P (krow M k))
def InvI (S M : xS) : Prop := (cntM M 32 ≤ 6 ∧ M.1 0 0 32 = nI (cntM M 32) ∧ S.1 6 0 11 = M.1 0 0 32) ∧ (∀ i, i < cntM M 32 → ∀ a, a < 4 → S.1 33 i a = M.1 34 0 (4 * i + a) ∧ rng (M.1 34 0 (4 * i + a)) (-16384) 16384)
def InvT (S M : xS) : Prop := (cntM M 34 ≤ 60 ∧ M.1 0 0 34 = nI (cntM M 34) ∧ S.1 3 0 0 = M.1 0 0 34) ∧ (∀ j, j < cntM M 34 → S.1 19 0 j = M.1 36 0 j)
def pre (r r' : Nat → Int32) : Prop := r 0 = r' 0 ∧ rN r ≤ rN r' ∧ ∀ c, c < rN r → r (52 + c) = r' (52 + c)
def ptsOf (M : xS) : Nat → Nat → Nat
  | 0, _ => 0
  | f + 1, g => if mrow M g 0 = 1 then ((List.range (rN (mrow M g))).map (fun c => ptsOf M f (mrow M g (52 + c)).toNatClampNeg)).sum else rN (mrow M g)
def InvF (M : xS) : Prop := (∀ g, g < cntM M 9 → ptsOf M 6 g ≤ 96) ∧
  (∀ k g, k < cntM M 23 → M.1 25 0 k = nI g → g < cntM M 9 → pre (krow M k) (mrow M g)) ∧ (∀ k k', k < k' → k' < cntM M 23 → M.1 25 0 k = M.1 25 0 k' → pre (krow M k) (krow M k'))
def PN (n : Nat) : Int := 4000 + 2000 * (n : Int)
def Inv (n : Nat) (S M : xS) : Prop := InvA S M ∧ InvG (PN n) S M ∧ InvH (PN n) S M ∧ InvI S M ∧ InvT S M ∧ InvF M
theorem xI_k {S : xS} {k i j : Nat} {v : Int32} {k' : Nat} (h : k' ≠ k) : (xI S k i j v).1 k' = S.1 k' := by simp [xI, xRow, h]
theorem xJ_k {S : xS} {k i j : Nat} {v : Int64} {k' : Nat} (h : k' ≠ k) : (xJ S k i j v).2.1 k' = S.2.1 k' := by simp [xJ, xRow, h]
theorem xR_k {S : xS} {k i j v : Nat} {k' : Nat} (h : k' ≠ k) : (xR S k i j v).2.2 k' = S.2.2 k' := by simp [xR, xRow, h]
theorem xC_k {S : xS} {k i : Nat} {r : Nat → Int32} {k' : Nat} (h : k' ≠ k) : (xC S k i r).1 k' = S.1 k' := by simp [xC, xRow, h]
theorem TupRel.fr {S S' : xS} {T : Nat} {r r' : Nat → Int32} {t : Nat} (h : TupRel S T r t) (hS : ∀ k, (k = 5 ∨ 24 ≤ k ∧ k ≤ 28) → S'.1 k T = S.1 k T) (hr : ∀ x, x < 511 → r' x = r x) (ht : t < 5) : TupRel S' T r' t := by
  obtain ⟨h1, ⟨m, h2, h3, h4⟩, h5⟩ := h
  have hf : ∀ s, s < 25 → fl r' t s = fl r t s := fun s hs => hr _ (by unfold tb; omega)
  have hx : ∀ s, s < 25 → dlx r' t s = dlx r t s := fun s hs => hr _ (by unfold tb; omega)
  have hy : ∀ s, s < 25 → dly r' t s = dly r t s := fun s hs => hr _ (by unfold tb; omega)
  have hsl : ∀ pl, pl < 25 → slo pl < 25 := fun pl h => by unfold slo; split <;> omega
  refine ⟨fun a ha => ?_, ⟨m, ?_, h3, fun pl hp => ?_⟩, fun pl hp hq => ?_⟩
  · rw [hS 24 (by omega), hS 25 (by omega), hS 26 (by omega), hr _ (by unfold tb; omega), hr _ (by unfold tb; omega), hr _ (by unfold tb; omega)]
    exact h1 a ha
  · rw [hS 5 (by omega)]; exact h2
  · rw [hf _ (hsl pl hp)]; exact h4 pl hp
  · rw [hf _ (hsl pl hp)] at hq
    rw [hS 27 (by omega), hS 28 (by omega), hx _ (hsl pl hp), hy _ (hsl pl hp)]
    exact h5 pl hp hq
theorem cno_fr {r r' : Nat → Int32} : ∀ p, p < 24 → (∀ x, x < 511 → r' x = r x) → cno r' p = cno r p
  | 0, _, _ => rfl
  | p + 1, hp, h => by
    show cno r' p + _ = cno r p + _
    rw [cno_fr p (by omega) h, h (52 + (p + 1)) (by omega)]
theorem GlRel.fr {S S' : xS} {G : Nat} {r r' : Nat → Int32} (h : GlRel S G r) (hn : rN r ≤ 24) (hT : rT r ≤ 5) (hS : ∀ k, (k = 1 ∨ 12 ≤ k ∧ k ≤ 15) → S'.1 k G = S.1 k G) (hR : ∀ t, t < 5 → S'.2.2 16 G t = S.2.2 16 G t)
    (hU : ∀ t, t < 5 → ∀ k, (k = 5 ∨ 24 ≤ k ∧ k ≤ 28) → S'.1 k (S.2.2 16 G t) = S.1 k (S.2.2 16 G t)) (hr : ∀ x, x < 511 → r' x = r x) : GlRel S' G r' := by
  obtain ⟨h1, h2, h3, h4, h5, h6, h7, h8, h9⟩ := h
  have e0 := hr 0 (by omega)
  have e2 : rN r' = rN r := by unfold rN; rw [hr 2 (by omega)]
  have e3 : rT r' = rT r := by unfold rT; rw [hr 3 (by omega)]
  refine ⟨by rw [hS 1 (by omega), e0]; exact h1, by rw [hS 1 (by omega), hr 2 (by omega)]; exact h2, by rw [hS 1 (by omega), hr 3 (by omega)]; exact h3, by rw [hS 12 (by omega), hr 1 (by omega)]; exact h4, by rw [hS 13 (by omega)]; exact h5, ?_, ?_, ?_, ?_⟩
  · intro p hp
    rw [e2] at hp
    rw [hS 12 (by omega), hS 13 (by omega), hr (4 + p) (by omega), hr (28 + p) (by omega)]
    exact h6 p hp
  · intro hz p hp
    rw [e2] at hp
    rw [e0] at hz
    rw [hS 14 (by omega), cno_fr p (by omega) hr]
    exact h7 hz p hp
  · intro hz p hp
    rw [e2] at hp
    rw [e0] at hz
    rw [hS 15 (by omega), hr (52 + p) (by omega)]
    exact h8 hz p hp
  · intro t ht
    rw [e3] at ht
    rw [hR t (by omega)]
    exact (h9 t ht).fr (fun k hk => hU t (by omega) k hk) hr (by omega)
theorem TupOk.fr {na na' n : Nat} {r r' : Nat → Int32} {t : Nat} (h : TupOk na n r t) (hn : na ≤ na') (hr : ∀ x, x < 511 → r' x = r x) (ht : t < 5) : TupOk na' n r' t := by
  obtain ⟨h1, h2, h3, h4, h5⟩ := h
  have hf : ∀ s, s < 25 → fl r' t s = fl r t s := fun s hs => hr _ (by unfold tb; omega)
  refine ⟨fun a ha => ?_, fun a ha hb => ?_, fun s hs => ?_, fun s hs hq => ?_, fun hq => ?_⟩
  · rw [hr _ (by unfold tb; omega), hr _ (by unfold tb; omega), hr _ (by unfold tb; omega)]; exact h1 a ha
  · rw [hr _ (by unfold tb; omega), hr _ (by unfold tb; omega), hr _ (by unfold tb; omega)]; exact h2 a (by omega) hb
  · rw [hf s hs]; exact h3 s hs
  · rw [hf s (by omega)]; exact h4 s hs hq
  · rw [hf 24 (by omega)] at hq
    show r' _ = 0
    rw [hr _ (by unfold tb; omega)]
    exact h5 hq
theorem RowOk.fr {na na' gi : Nat} {r r' : Nat → Int32} (h : RowOk na gi r) (hn : na ≤ na') (hr : ∀ x, x < 511 → r' x = r x) : RowOk na' gi r' := by
  obtain ⟨h1, h2, h3, h4, h5, h6, h7⟩ := h
  have e0 := hr 0 (by omega)
  have e2 : rN r' = rN r := by unfold rN; rw [hr 2 (by omega)]
  have e3 : rT r' = rT r := by unfold rT; rw [hr 3 (by omega)]
  refine ⟨by rw [e0]; exact h1, by rw [e2, hr 2 (by omega)]; exact h2, by rw [e0, e2]; exact h3, by rw [e3, hr 3 (by omega)]; exact h4, ?_, ?_, ?_⟩
  · rw [e0, e2]
    intro hz
    refine ⟨fun p hp => ?_, fun hp => ?_⟩
    · rw [hr (52 + p) (by omega)]; exact (h5 hz).1 p hp
    · rw [hr 52 (by omega)]; exact (h5 hz).2 hp
  · rw [e0, e2]
    intro hz c hc
    rw [hr (52 + c) (by omega)]
    exact h6 hz c hc
  · rw [e2, e3]
    intro t ht
    exact (h7 t ht).fr hn hr (by omega)
theorem Bd.fr {P P' : Int} {r r' : Nat → Int32} (h : Bd P r) (hP : P ≤ P') (hn : rN r ≤ 24) (hT : rT r ≤ 5) (hr : ∀ x, x < 511 → r' x = r x) : Bd P' r' := by
  obtain ⟨B, D, h1, h2, h3, h4, h5, h6⟩ := h
  have e2 : rN r' = rN r := by unfold rN; rw [hr 2 (by omega)]
  have e3 : rT r' = rT r := by unfold rT; rw [hr 3 (by omega)]
  refine ⟨B, D, h1, h2, by omega, by rw [hr 1 (by omega)]; exact h4, ?_, ?_⟩
  · intro p hp
    rw [e2] at hp
    rw [hr (4 + p) (by omega), hr (28 + p) (by omega)]
    exact h5 p hp
  · intro t ht s hs hq
    rw [e3] at ht
    have hf : fl r' t s = fl r t s := hr _ (by unfold tb; omega)
    have hx : dlx r' t s = dlx r t s := hr _ (by unfold tb; omega)
    have hy : dly r' t s = dly r t s := hr _ (by unfold tb; omega)
    rw [hx, hy]
    rw [hf] at hq
    exact h6 t ht s hs hq
theorem PermOk.fr {S S' : xS} (h : PermOk S) (h16 : S'.2.2 16 = S.2.2 16) (h18 : S'.2.2 18 = S.2.2 18) : PermOk S' := by
  obtain ⟨h1, h2, h3, h4⟩ := h
  exact ⟨by rw [h16]; exact h1, by rw [h16]; exact h2, by rw [h18]; exact h3, by rw [h18]; exact h4⟩
