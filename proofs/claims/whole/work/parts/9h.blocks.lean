def tl (r : Nat → Int32) : List (Nat → Int32) := (List.range (rT r)).map (blk r)
theorem tl_len (r : Nat → Int32) : (tl r).length = rT r := by unfold tl; rw [List.length_map, List.length_range]
theorem tl_get {r : Nat → Int32} {j : Nat} (h : j < rT r) : (tl r)[j]? = some (blk r j) := by
  unfold tl
  rw [List.getElem?_map, List.getElem?_range h]
  rfl
theorem tl_ext {r : Nat → Int32} {l : List (Nat → Int32)} (h1 : l.length = rT r) (h2 : ∀ j, j < rT r → l[j]? = some (blk r j)) : tl r = l := by
  apply List.ext_getElem?
  intro j
  by_cases c : j < rT r
  · rw [tl_get c, h2 j c]
  · rw [List.getElem?_eq_none (by rw [tl_len]; omega), List.getElem?_eq_none (by omega)]
def eqK : Nat → (Nat → Int32) → (Nat → Int32) → Bool
  | 0, _, _ => true
  | n + 1, b1, b2 => eqK n b1 b2 && decide (b1 n = b2 n)
theorem eqK_iff {b1 b2 : Nat → Int32} : ∀ n, eqK n b1 b2 = true ↔ ∀ x, x < n → b1 x = b2 x
  | 0 => ⟨fun _ x h => by omega, fun _ => rfl⟩
  | n + 1 => by
    show (eqK n b1 b2 && decide (b1 n = b2 n)) = true ↔ _
    rw [Bool.and_eq_true, decide_eq_true_eq, eqK_iff n]
    refine ⟨fun h x hx => ?_, fun h => ⟨fun x hx => h x (by omega), h n (by omega)⟩⟩
    by_cases c : x = n
    · rw [c]; exact h.2
    · exact h.1 x (by omega)
def sameK (b1 b2 : Nat → Int32) : Bool := eqK 12 b1 b2
theorem sameK_iff {b1 b2 : Nat → Int32} : sameK b1 b2 = true ↔ ∀ x, x < 12 → b1 x = b2 x := eqK_iff 12
theorem sameK_congr {b1 b2 c1 c2 : Nat → Int32} (h : (∀ x, x < 12 → b1 x = b2 x) ↔ (∀ x, x < 12 → c1 x = c2 x)) : sameK b1 b2 = sameK c1 c2 := by
  cases h1 : sameK b1 b2 <;> cases h2 : sameK c1 c2
  · rfl
  · rw [sameK_iff.mpr (h.mpr (sameK_iff.mp h2))] at h1; exact absurd h1 (by decide)
  · rw [sameK_iff.mpr (h.mp (sameK_iff.mp h1))] at h2; exact absurd h2 (by decide)
  · rfl
theorem sameK_symm (b1 b2 : Nat → Int32) : sameK b1 b2 = sameK b2 b1 :=
  sameK_congr ⟨fun h x hx => (h x hx).symm, fun h x hx => (h x hx).symm⟩
def dvB (b0 b : Nat → Int32) (s : Nat) (v : Int32) : Int32 := dvV (upT b0 0 b) 0 s v
def jnL (b0 b1 b2 : Nat → Int32) (x : Nat) : Int32 :=
  if 87 ≤ x then 0 else if x < 12 then b1 x else if x < 37 then (if inS (rN b0) (x - 12) = true then 1 else b1 x) else if x < 62 then (if inS (rN b0) (x - 37) = true then dvB b0 b1 (x - 37) 0 + dvB b0 b2 (x - 37) 0 else b1 x) else (if inS (rN b0) (x - 62) = true then dvB b0 b1 (x - 62) 1 + dvB b0 b2 (x - 62) 1 else b1 x)
theorem dv_blk {r b0 : Nat → Int32} {e s : Nat} {v : Int32} (hN : rN r ≤ 24) (hlow : ∀ y, y < 76 → y ≠ 3 → b0 y = r y) (hs : inS (rN r) s = true) : dvB b0 (blk r e) s v = dvV r e s v := by
  have hs' := inS_iff.mp hs
  have own : ∀ x, x < 87 → upT b0 0 (blk r e) (tb 0 + x) = r (tb e + x) := fun x hx => by
    rw [up_own hx]
    unfold blk
    rw [if_pos hx]
  unfold dvB
  refine dvV_gen hN (fun y hy h3 => by rw [up_low hy]; exact hlow y hy h3) (fun z hz => ?_) (fun z hz => ⟨?_, ?_⟩) hs'
  · unfold fl; rw [Nat.add_assoc, own _ (by omega), Nat.add_assoc]
  · unfold dlx; rw [Nat.add_assoc, own _ (by omega), Nat.add_assoc]
  · unfold dly; rw [Nat.add_assoc, own _ (by omega), Nat.add_assoc]
theorem dv_jn {b0 b1 b2 : Nat → Int32} {s : Nat} (hN : rN b0 ≤ 24) (hs : inS (rN b0) s = true) : dvB b0 (jnL b0 b1 b2) s 0 = dvB b0 b1 s 0 + dvB b0 b2 s 0 ∧ dvB b0 (jnL b0 b1 b2) s 1 = dvB b0 b1 s 1 + dvB b0 b2 s 1 := by
  have hs' := inS_iff.mp hs
  have e1 : fl (upT b0 0 (jnL b0 b1 b2)) 0 s = 1 := by
    unfold fl
    rw [Nat.add_assoc, up_own (by omega)]
    unfold jnL
    rw [if_neg (by omega), if_neg (by omega), if_pos (by omega), Nat.add_sub_cancel_left, if_pos hs]
  have e2 : dlx (upT b0 0 (jnL b0 b1 b2)) 0 s = dvB b0 b1 s 0 + dvB b0 b2 s 0 := by
    unfold dlx
    rw [Nat.add_assoc, up_own (by omega)]
    unfold jnL
    rw [if_neg (by omega), if_neg (by omega), if_neg (by omega), if_pos (by omega), Nat.add_sub_cancel_left, if_pos hs]
  have e3 : dly (upT b0 0 (jnL b0 b1 b2)) 0 s = dvB b0 b1 s 1 + dvB b0 b2 s 1 := by
    unfold dly
    rw [Nat.add_assoc, up_own (by omega)]
    unfold jnL
    rw [if_neg (by omega), if_neg (by omega), if_neg (by omega), if_neg (by omega), Nat.add_sub_cancel_left, if_pos hs]
  have h : ∀ v, dvB b0 (jnL b0 b1 b2) s v = gvn (upT b0 0 (jnL b0 b1 b2)) 0 s v := fun v => by
    show dvV _ 0 s v = _
    unfold dvV
    rw [e1, if_pos rfl]
  rw [h, h]
  unfold gvn
  rw [if_pos rfl, if_neg (by decide), e2, e3]
  exact ⟨rfl, rfl⟩
theorem jnL_key {b0 b1 b2 : Nat → Int32} {x : Nat} (h : x < 12) : jnL b0 b1 b2 x = b1 x := by unfold jnL; rw [if_neg (by omega), if_pos h]
theorem jnL_eq {b0 b1 b2 c1 c2 : Nat → Int32} (h1 : ∀ x, x < 12 → b1 x = c1 x) (h2 : ∀ x, x < 87 → 12 ≤ x → inS (rN b0) (x - 12) = false → x < 37 → b1 x = c1 x) (h3 : ∀ x, x < 62 → 37 ≤ x → inS (rN b0) (x - 37) = false → b1 x = c1 x) (h4 : ∀ x, x < 87 → 62 ≤ x → inS (rN b0) (x - 62) = false → b1 x = c1 x) (h5 : ∀ s, inS (rN b0) s = true → dvB b0 b1 s 0 + dvB b0 b2 s 0 = dvB b0 c1 s 0 + dvB b0 c2 s 0 ∧ dvB b0 b1 s 1 + dvB b0 b2 s 1 = dvB b0 c1 s 1 + dvB b0 c2 s 1) : jnL b0 b1 b2 = jnL b0 c1 c2 := by
  funext x
  unfold jnL
  by_cases q1 : 87 ≤ x
  · rw [if_pos q1, if_pos q1]
  rw [if_neg q1, if_neg q1]
  by_cases q2 : x < 12
  · rw [if_pos q2, if_pos q2]; exact h1 x q2
  rw [if_neg q2, if_neg q2]
  by_cases q3 : x < 37
  · rw [if_pos q3, if_pos q3]
    cases c : inS (rN b0) (x - 12)
    · rw [if_neg (by decide), if_neg (by decide)]; exact h2 x (by omega) (by omega) c q3
    · rw [if_pos rfl, if_pos rfl]
  rw [if_neg q3, if_neg q3]
  by_cases q4 : x < 62
  · rw [if_pos q4, if_pos q4]
    cases c : inS (rN b0) (x - 37)
    · rw [if_neg (by decide), if_neg (by decide)]; exact h3 x q4 (by omega) c
    · rw [if_pos rfl, if_pos rfl]; exact (h5 _ c).1
  rw [if_neg q4, if_neg q4]
  cases c : inS (rN b0) (x - 62)
  · rw [if_neg (by decide), if_neg (by decide)]; exact h4 x (by omega) (by omega) c
  · rw [if_pos rfl, if_pos rfl]; exact (h5 _ c).2
theorem jnL_out {b0 b1 b2 : Nat → Int32} {x : Nat} (h : x < 87) (h1 : 12 ≤ x → x < 37 → inS (rN b0) (x - 12) = false) (h2 : 37 ≤ x → x < 62 → inS (rN b0) (x - 37) = false) (h3 : 62 ≤ x → inS (rN b0) (x - 62) = false) : jnL b0 b1 b2 x = b1 x := by
  unfold jnL
  rw [if_neg (by omega)]
  by_cases q2 : x < 12
  · rw [if_pos q2]
  rw [if_neg q2]
  by_cases q3 : x < 37
  · rw [if_pos q3, h1 (by omega) q3, if_neg (by decide)]
  rw [if_neg q3]
  by_cases q4 : x < 62
  · rw [if_pos q4, h2 (by omega) q4, if_neg (by decide)]
  rw [if_neg q4, h3 (by omega), if_neg (by decide)]
theorem jn_ok {b0 : Nat → Int32} (hN : rN b0 ≤ 24) : JnOk sameK (jnL b0) := by
  have k1 : ∀ e t u, sameK (jnL b0 e t) u = sameK e u := fun e t u => sameK_congr ⟨fun h x hx => by rw [← h x hx, jnL_key hx], fun h x hx => by rw [jnL_key hx]; exact h x hx⟩
  refine ⟨fun u v w h => ?_, k1, fun e t u => by rw [sameK_symm, k1, sameK_symm], fun e a c => ?_, fun y x u => ?_, fun x => sameK_iff.mpr (fun _ _ => rfl)⟩
  · have h := sameK_iff.mp h
    exact sameK_congr ⟨fun k x hx => by rw [← h x hx]; exact k x hx, fun k x hx => by rw [h x hx]; exact k x hx⟩
  · refine jnL_eq (fun x hx => by rw [jnL_key hx, jnL_key hx]) (fun x h1 h2 h3 h4 => ?_) (fun x h1 h2 h3 => ?_) (fun x h1 h2 h3 => ?_) (fun s hs => ?_)
    · rw [jnL_out h1 (fun _ _ => h3) (fun _ _ => by omega) (fun _ => by omega), jnL_out h1 (fun _ _ => h3) (fun _ _ => by omega) (fun _ => by omega)]
    · rw [jnL_out (by omega) (fun _ _ => by omega) (fun _ _ => h3) (fun _ => by omega), jnL_out (by omega) (fun _ _ => by omega) (fun _ _ => h3) (fun _ => by omega)]
    · rw [jnL_out h1 (fun _ _ => by omega) (fun _ _ => by omega) (fun _ => h3), jnL_out h1 (fun _ _ => by omega) (fun _ _ => by omega) (fun _ => h3)]
    · rw [(dv_jn hN hs).1, (dv_jn hN hs).1, (dv_jn hN hs).2, (dv_jn hN hs).2]
      exact ⟨by rw [Int32.add_assoc, Int32.add_comm (dvB b0 a s 0), ← Int32.add_assoc], by rw [Int32.add_assoc, Int32.add_comm (dvB b0 a s 1), ← Int32.add_assoc]⟩
  · refine jnL_eq (fun x hx => by rw [jnL_key hx]) (fun x h1 h2 h3 h4 => ?_) (fun x h1 h2 h3 => ?_) (fun x h1 h2 h3 => ?_) (fun s hs => ?_)
    · rw [jnL_out h1 (fun _ _ => h3) (fun _ _ => by omega) (fun _ => by omega)]
    · rw [jnL_out (by omega) (fun _ _ => by omega) (fun _ _ => h3) (fun _ => by omega)]
    · rw [jnL_out h1 (fun _ _ => by omega) (fun _ _ => by omega) (fun _ => h3)]
    · rw [(dv_jn hN hs).1, (dv_jn hN hs).1, (dv_jn hN hs).2, (dv_jn hN hs).2]
      exact ⟨(Int32.add_assoc _ _ _).symm, (Int32.add_assoc _ _ _).symm⟩
/- a block that is written is the joined one -/
theorem wr_jn {r b0 : Nat → Int32} {e t : Nat} {X Y : Nat → Int32} (hN : rN r ≤ 24) (hlow : ∀ y, y < 76 → y ≠ 3 → b0 y = r y) (hX : ∀ s, inS (rN r) s = true → X s = dX r e s + dX r t s ∧ Y s = dY r e s + dY r t s) : wrB r e X Y = jnL b0 (blk r e) (blk r t) := by
  have eN : rN b0 = rN r := rN_fr (hlow 2 (by omega) (by omega))
  funext x
  unfold wrB jnL
  rw [eN]
  by_cases q1 : 87 ≤ x
  · rw [if_pos q1, if_pos q1]
  rw [if_neg q1, if_neg q1]
  have eb : blk r e x = r (tb e + x) := by unfold blk; rw [if_pos (by omega)]
  rw [eb]
  by_cases q2 : x < 12
  · rw [if_pos q2, if_pos q2]
  rw [if_neg q2, if_neg q2]
  by_cases q3 : x < 37
  · rw [if_pos q3, if_pos q3]
  rw [if_neg q3, if_neg q3]
  by_cases q4 : x < 62
  · rw [if_pos q4, if_pos q4]
    cases c : inS (rN r) (x - 37)
    · rw [if_neg (by decide), if_neg (by decide)]
    · rw [if_pos rfl, if_pos rfl, dv_blk hN hlow c, dv_blk hN hlow c]; exact (hX _ c).1
  rw [if_neg q4, if_neg q4]
  cases c : inS (rN r) (x - 62)
  · rw [if_neg (by decide), if_neg (by decide)]
  · rw [if_pos rfl, if_pos rfl, dv_blk hN hlow c, dv_blk hN hlow c]; exact (hX _ c).2
theorem blk_up {r b : Nat → Int32} {t : Nat} (hb : ∀ x, 87 ≤ x → b x = 0) : blk (upT r t b) t = b := by
  funext x
  unfold blk
  by_cases c : x < 87
  · rw [if_pos c, up_own c]
  · rw [if_neg c]; exact (hb x (by omega)).symm
theorem blk_ne {r b : Nat → Int32} {t j : Nat} (h : j ≠ t) : blk (upT r t b) j = blk r j := by
  funext x
  unfold blk
  by_cases c : x < 87
  · rw [if_pos c, if_pos c, up_ne c h]
  · rw [if_neg c, if_neg c]
theorem wrB_hi {r : Nat → Int32} {t : Nat} {X Y : Nat → Int32} {x : Nat} (h : 87 ≤ x) : wrB r t X Y x = 0 := by unfold wrB; rw [if_pos h]
theorem blk_rm {r : Nat → Int32} {t T j : Nat} (hj : j + 1 < T) : blk (rmR r t T) j = blk r (if j < t then j else j + 1) := by
  funext x
  unfold blk
  by_cases c : x < 87
  · rw [if_pos c, if_pos c, rm_tup hj c]
  · rw [if_neg c, if_neg c]
theorem jn_tl {r r3 b0 : Nat → Int32} {e t : Nat} (hT5 : rT r ≤ 5) (ht : t < rT r) (he : e < t) (h3 : rT r3 = rT r) (hbe : blk r3 e = jnL b0 (blk r e) (blk r t)) (hbo : ∀ j, j ≠ e → j ≠ t → blk r3 j = blk r j) {p rest : List (Nat → Int32)} {u : Nat → Int32} (htl : tl r = p ++ u :: rest) (hp : p.length = t) (hs : sameK (blk r e) (blk r t) = true) (hf : ∀ j, j < e → sameK (blk r j) (blk r t) = false) : tl (rmR r3 t (rT r)) = insB sameK (jnL b0) p u ++ rest := by
  have hlen : rT r = p.length + (rest.length + 1) := by rw [← tl_len r, htl, List.length_append]; rfl
  have g1 : ∀ j, j < t → p[j]? = some (blk r j) := fun j hj => by
    rw [← tl_get (r := r) (by omega), htl, List.getElem?_append_left (by omega)]
  have g2 : u = blk r t := by
    have := tl_get (r := r) ht
    rw [htl, List.getElem?_append_right (by omega), hp, Nat.sub_self] at this
    exact Option.some.inj this
  have g3 : ∀ j, t + 1 + j < rT r → rest[j]? = some (blk r (t + 1 + j)) := fun j hj => by
    have := tl_get (r := r) hj
    rw [htl, List.getElem?_append_right (by omega), show t + 1 + j - p.length = j + 1 by omega] at this
    exact this
  obtain ⟨i1, i2⟩ := ins_at (same := sameK) (jn := jnL b0) (u := u) (g1 e he) (by rw [g2]; exact hs) (fun j y hj hy => by
    rw [g1 j (by omega)] at hy
    rw [← Option.some.inj hy, g2]
    exact hf j hj)
  have eT : rT (rmR r3 t (rT r)) = rT r - 1 := rm_T hT5
  refine tl_ext (by rw [eT, List.length_append, i1]; omega) (fun j hj => ?_)
  rw [eT] at hj
  rw [blk_rm (by omega)]
  by_cases c : j < t
  · rw [if_pos c, List.getElem?_append_left (by omega), i2]
    by_cases c2 : j = e
    · rw [if_pos c2, c2, hbe, g2]
    · rw [if_neg c2, hbo j c2 (by omega)]; exact g1 j c
  · rw [if_neg c, List.getElem?_append_right (by omega), i1, hp, hbo (j + 1) (by omega) (by omega), g3 (j - t) (by omega)]
    rw [show t + 1 + (j - t) = j + 1 by omega]
