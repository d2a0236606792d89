/- folding: regions of a block, touched blocks, moved bases -/
def dpk (b : Nat → Int32) (bits : Nat) : Nat → Bool
  | 0 => true
  | a + 1 => dpk b bits a && (decide (b (3 * a + 1) = 0) || bits.testBit a)
theorem dpk_blk {r : Nat → Int32} {t bits : Nat} : ∀ a, a ≤ 4 → dpk (blk r t) bits a = depB r t bits a
  | 0, _ => rfl
  | a + 1, h => by
    show (dpk (blk r t) bits a && (decide (blk r t (3 * a + 1) = 0) || bits.testBit a)) = (depB r t bits a && (decide (r (tb t + 3 * a + 1) = 0) || bits.testBit a))
    rw [dpk_blk a (by omega)]
    unfold blk
    rw [if_pos (by omega), ← Nat.add_assoc]
theorem dpk_key {b c : Nat → Int32} {bits : Nat} (h : ∀ x, x < 12 → b x = c x) : ∀ a, a ≤ 4 → dpk b bits a = dpk c bits a
  | 0, _ => rfl
  | a + 1, ha => by
    show (dpk b bits a && (decide (b (3 * a + 1) = 0) || bits.testBit a)) = (dpk c bits a && (decide (c (3 * a + 1) = 0) || bits.testBit a))
    rw [dpk_key h a (by omega), h (3 * a + 1) (by omega)]
theorem scV_reg {r r' loc : Nat → Int32} {t t' : Nat} (h : ∀ x, x < 12 → r' (tb t' + x) = r (tb t + x)) : ∀ a, a ≤ 4 → scV r' t' loc a = scV r t loc a
  | 0, _ => rfl
  | a + 1, ha => by
    show scF (scV r' t' loc a) (r' (tb t' + 3 * a)) (r' (tb t' + 3 * a + 1)) (r' (tb t' + 3 * a + 2)) (loc a) = scF (scV r t loc a) (r (tb t + 3 * a)) (r (tb t + 3 * a + 1)) (r (tb t + 3 * a + 2)) (loc a)
    rw [scV_reg h a (by omega), Nat.add_assoc (tb t'), Nat.add_assoc (tb t'), h _ (by omega), h _ (by omega), h _ (by omega), ← Nat.add_assoc, ← Nat.add_assoc]
theorem depB_reg {r r' : Nat → Int32} {t t' bits : Nat} (h : ∀ x, x < 12 → r' (tb t' + x) = r (tb t + x)) : ∀ a, a ≤ 4 → depB r' t' bits a = depB r t bits a
  | 0, _ => rfl
  | a + 1, ha => by
    show (depB r' t' bits a && (decide (r' (tb t' + 3 * a + 1) = 0) || bits.testBit a)) = (depB r t bits a && (decide (r (tb t + 3 * a + 1) = 0) || bits.testBit a))
    rw [depB_reg h a (by omega), Nat.add_assoc (tb t'), h _ (by omega), ← Nat.add_assoc]
def tcL (b0 b : Nat → Int32) (x : Nat) : Int32 :=
  if 87 ≤ x then 0 else if x < 12 then b x else if x < 37 then (if inS (rN b0) (x - 12) = true then 1 else b x) else if x < 62 then (if inS (rN b0) (x - 37) = true then dvB b0 b (x - 37) 0 else b x) else (if inS (rN b0) (x - 62) = true then dvB b0 b (x - 62) 1 else b x)
theorem tcL_key {b0 b : Nat → Int32} {x : Nat} (h : x < 12) : tcL b0 b x = b x := by unfold tcL; rw [if_neg (by omega), if_pos h]
theorem wr_tc {r b0 : Nat → Int32} {t : Nat} {X Y : Nat → Int32} (hN : rN r ≤ 24) (hlow : ∀ y, y < 76 → y ≠ 3 → b0 y = r y) (hX : ∀ s, inS (rN r) s = true → X s = dX r t s ∧ Y s = dY r t s) : wrB r t X Y = tcL b0 (blk r t) := by
  have eN : rN b0 = rN r := rN_fr (hlow 2 (by omega) (by omega))
  funext x
  unfold wrB tcL
  rw [eN]
  by_cases q1 : 87 ≤ x
  · rw [if_pos q1, if_pos q1]
  rw [if_neg q1, if_neg q1]
  have eb : blk r t x = r (tb t + x) := by unfold blk; rw [if_pos (by omega)]
  rw [eb]
  by_cases q2 : x < 12
  · rw [if_pos q2, if_pos q2]
  rw [if_neg q2, if_neg q2]
  by_cases q3 : x < 37
  · rw [if_pos q3, if_pos q3]
  rw [if_neg q3, if_neg q3]
  by_cases q4 : x < 62
  · rw [if_pos q4, if_pos q4]
    cases c : inS (rN r) (x - 37)
    · rw [if_neg (by decide), if_neg (by decide)]
    · rw [if_pos rfl, if_pos rfl, dv_blk hN hlow c]; exact (hX _ c).1
  rw [if_neg q4, if_neg q4]
  cases c : inS (rN r) (x - 62)
  · rw [if_neg (by decide), if_neg (by decide)]
  · rw [if_pos rfl, if_pos rfl, dv_blk hN hlow c]; exact (hX _ c).2
def taU (r : Nat → Int32) : Nat → (Nat → Int32)
  | 0 => r
  | k + 1 => taR (taU r k) k
section TAU
variable {r : Nat → Int32}
theorem taU_low {y : Nat} (h : y < 76) : ∀ k, taU r k y = r y
  | 0 => rfl
  | k + 1 => by
    show taR (taU r k) k y = r y
    rw [ta_low h, taU_low h k]
theorem taU_N (k : Nat) : rN (taU r k) = rN r := rN_fr (taU_low (by omega) k)
theorem taU_T (k : Nat) : rT (taU r k) = rT r := rT_fr (taU_low (by omega) k)
theorem taU_dv {j s : Nat} {v : Int32} (hN : rN r ≤ 24) (hs : inS (rN r) s = true) (hv : v = 0 ∨ v = 1) : ∀ k, dvV (taU r k) j s v = dvV r j s v
  | 0 => rfl
  | k + 1 => by
    show dvV (taR (taU r k) k) j s v = _
    rw [ta_dv (by rw [taU_N]; exact hN) (by rw [taU_N]; exact hs) hv, taU_dv hN hs hv k]
theorem taU_ne {j : Nat} : ∀ k, k ≤ j → blk (taU r k) j = blk r j
  | 0, _ => rfl
  | k + 1, h => by
    show blk (taR (taU r k) k) j = _
    rw [ta_blk (by omega), taU_ne k (by omega)]
theorem taU_blk {j : Nat} (hN : rN r ≤ 24) : ∀ k, j < k → blk (taU r k) j = tcL r (blk r j)
  | 0, h => by omega
  | k + 1, h => by
    show blk (taR (taU r k) k) j = _
    by_cases e : j = k
    · subst e
      unfold taR
      rw [blk_up (fun x hx => wrB_hi hx)]
      have h1 := wr_tc (r := taU r j) (b0 := r) (t := j) (by rw [taU_N]; exact hN) (fun y hy _ => (taU_low hy j).symm) (X := dX (taU r j) j) (Y := dY (taU r j) j) (fun _ _ => ⟨rfl, rfl⟩)
      rw [taU_ne j (Nat.le_refl _)] at h1
      exact h1
    · rw [ta_blk e, taU_blk hN k (by omega)]
theorem taU_reg {j x : Nat} (hx : x < 12) : ∀ k, taU r k (tb j + x) = r (tb j + x)
  | 0 => rfl
  | k + 1 => by
    show taR (taU r k) k (tb j + x) = _
    by_cases e : j = k
    · have h := taU_reg (j := j) hx k
      rw [e] at h ⊢
      unfold taR
      rw [wr_rg hx]
      exact h
    · unfold taR
      rw [up_ne (by omega) e, taU_reg hx k]
theorem taU_fl {j s : Nat} (hN : rN r ≤ 24) (hs : inS (rN r) s = true) : ∀ k, j < k → fl (taU r k) j s = 1
  | 0, h => by omega
  | k + 1, h => by
    have := inS_iff.mp hs
    show fl (taR (taU r k) k) j s = 1
    by_cases e : j = k
    · rw [e]
      exact ta_fl (by rw [taU_N]; exact hN) (by rw [taU_N]; exact hs)
    · unfold taR fl
      rw [Nat.add_assoc, up_ne (by omega) e, ← Nat.add_assoc]
      exact taU_fl hN hs k (by omega)
end TAU
def mvR (r : Nat → Int32) (F : Nat → Int32 → Int32) (a b y : Nat) : Int32 :=
  if y = 1 then (if 0 < a then F 24 0 else r 1) else if 4 ≤ y ∧ y < 28 then (if y - 4 + 1 < a then F (y - 4) 0 else r y) else if 28 ≤ y ∧ y < 52 then (if y - 28 + 1 < b then F (y - 28) 1 else r y) else r y
section MVR
variable {r : Nat → Int32} {F : Nat → Int32 → Int32} {a b : Nat}
theorem mv_o {y : Nat} (h : y = 0 ∨ y = 2 ∨ y = 3 ∨ 52 ≤ y) : mvR r F a b y = r y := by unfold mvR; rw [if_neg (by omega), if_neg (by omega), if_neg (by omega)]
theorem mv_1 : mvR r F a b 1 = if 0 < a then F 24 0 else r 1 := by unfold mvR; rw [if_pos rfl]
theorem mv_x {p : Nat} (h : p < 24) : mvR r F a b (4 + p) = if p + 1 < a then F p 0 else r (4 + p) := by unfold mvR; rw [if_neg (by omega), if_pos (by omega), Nat.add_sub_cancel_left]
theorem mv_y {p : Nat} (h : p < 24) : mvR r F a b (28 + p) = if p + 1 < b then F p 1 else r (28 + p) := by unfold mvR; rw [if_neg (by omega), if_neg (by omega), if_pos (by omega), Nat.add_sub_cancel_left]
theorem mv_N : rN (mvR r F a b) = rN r := rN_fr (mv_o (by omega))
theorem mv_T : rT (mvR r F a b) = rT r := rT_fr (mv_o (by omega))
theorem mv_t {t x : Nat} : mvR r F a b (tb t + x) = r (tb t + x) := mv_o (by unfold tb; omega)
theorem mv_blk {t : Nat} : blk (mvR r F a b) t = blk r t := by
  funext x
  unfold blk
  rw [mv_t]
theorem mv_tl : tl (mvR r F a b) = tl r := by
  refine tl_ext (by rw [tl_len, mv_T]) (fun j hj => ?_)
  rw [mv_T] at hj
  rw [mv_blk, tl_get hj]
theorem mv_00 : mvR r F 0 0 = r := by
  funext y
  unfold mvR
  by_cases c1 : y = 1
  · rw [if_pos c1, if_neg (by omega), c1]
  · rw [if_neg c1]
    by_cases c2 : 4 ≤ y ∧ y < 28
    · rw [if_pos c2, if_neg (by omega)]
    · rw [if_neg c2]
      by_cases c3 : 28 ≤ y ∧ y < 52
      · rw [if_pos c3, if_neg (by omega)]
      · rw [if_neg c3]
theorem ok_base {na gi : Nat} {r r' : Nat → Int32} (hR : RowOk na gi r) (h : ∀ y, y = 0 ∨ y = 2 ∨ y = 3 ∨ 52 ≤ y → r' y = r y) : RowOk na gi r' := by
  obtain ⟨e1, e2, e3, e4, e5, e6, e7⟩ := hR
  have eN : rN r' = rN r := rN_fr (h 2 (by omega))
  have eT : rT r' = rT r := rT_fr (h 3 (by omega))
  unfold RowOk
  rw [eN, eT, h 0 (by omega), h 2 (by omega), h 3 (by omega)]
  refine ⟨e1, e2, e3, e4, fun hz => ⟨fun p hp => ?_, fun hp => ?_⟩, fun hz c hc => ?_, fun t ht => ?_⟩
  · rw [h (52 + p) (by omega)]; exact (e5 hz).1 p hp
  · rw [h 52 (by omega)]; exact (e5 hz).2 hp
  · rw [h (52 + c) (by omega)]; exact e6 hz c hc
  · exact (e7 t ht).fr2 (fun x h1 _ => h x (by unfold tb at h1; omega))
theorem mv_dv {t s : Nat} {v : Int32} (h : fl r t s = 1 ∨ s = 24 ∨ r 0 = 1) : dvV (mvR r F a b) t s v = dvV r t s v := by
  have f1 : fl (mvR r F a b) t s = fl r t s := by unfold fl; rw [Nat.add_assoc, mv_t]
  have g1 : gvn (mvR r F a b) t s v = gvn r t s v := by
    unfold gvn dlx dly
    rw [Nat.add_assoc, Nat.add_assoc, mv_t, mv_t]
  unfold dvV
  rw [f1, g1, mv_o (y := 0) (by omega)]
  by_cases c1 : fl r t s = 1
  · rw [if_pos c1, if_pos c1]
  · rw [if_neg c1, if_neg c1, if_pos (h.resolve_left c1), if_pos (h.resolve_left c1)]
theorem plS_mv {loc : Nat → Int32} {s : Nat} {v : Int32} {sel : Nat → Bool} : ∀ T, (∀ t, t < T → fl r t s = 1 ∨ s = 24 ∨ r 0 = 1) → plS (mvR r F a b) loc s v sel T = plS r loc s v sel T
  | 0, _ => rfl
  | T + 1, h => by
    show plS (mvR r F a b) loc s v sel T + (if sel T = true then scV (mvR r F a b) T loc 4 * Int32.toInt64 (dvV (mvR r F a b) T s v) else 0) = plS r loc s v sel T + (if sel T = true then scV r T loc 4 * Int32.toInt64 (dvV r T s v) else 0)
    rw [plS_mv T (fun t ht => h t (by omega)), mv_dv (h T (by omega)), scV_reg (fun x _ => mv_t) 4 (by omega)]
theorem plV_mv {loc : Nat → Int32} {s : Nat} {v : Int32} {sel sel' : Nat → Bool} (hsel : sel' = sel) (h : ∀ t, t < rT r → fl r t s = 1 ∨ s = 24 ∨ r 0 = 1) (hb : bsS (mvR r F a b) s v = bsS r s v) : plV (mvR r F a b) loc s v sel' = plV r loc s v sel := by
  unfold plV
  rw [hsel, hb, mv_T, plS_mv _ h]
end MVR
