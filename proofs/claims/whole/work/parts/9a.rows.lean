/- deltas depend on the base and on the tuple's own numbers alone -/
theorem dnF_congr {F F' : Nat → Bool} : ∀ k, (∀ z, z < k → F' z = F z) → dnF F' k = dnF F k
  | 0, _ => rfl
  | k + 1, h => by
    show (if F' k then k + 1 else dnF F' k) = (if F k then k + 1 else dnF F k)
    rw [h k (by omega), dnF_congr k (fun z hz => h z (by omega))]
theorem upF_congr {F F' : Nat → Bool} : ∀ n k, (∀ z, z < k + n → F' z = F z) → upF F' k n = upF F k n
  | 0, _, _ => rfl
  | n + 1, k, h => by
    show (if F' k then k + 1 else upF F' (k + 1) n) = (if F k then k + 1 else upF F (k + 1) n)
    rw [h k (by omega), upF_congr n (k + 1) (fun z hz => h z (by omega))]
theorem bkF_congr {F F' : Nat → Bool} {N p : Nat} (hp : p < N) (h : ∀ z, z < N → F' z = F z) : bkF F' N p = bkF F N p := by
  unfold bkF
  rw [dnF_congr p (fun z hz => h z (by omega)), dnF_congr N h]
theorem fwF_congr {F F' : Nat → Bool} {N p : Nat} (hp : p < N) (h : ∀ z, z < N → F' z = F z) : fwF F' N p = fwF F N p := by
  unfold fwF
  rw [upF_congr _ _ (fun z hz => h z (by omega)), upF_congr N 0 (fun z hz => h z (by omega))]
theorem bkF_le {F : Nat → Bool} {N p : Nat} (hp : p < N) : bkF F N p ≤ N := by
  unfold bkF
  have h1 := dnF_spec (F := F) p
  have h2 := dnF_spec (F := F) N
  split
  · rcases h2 with ⟨h, _⟩ | ⟨i, h, h3, _⟩ <;> omega
  · rcases h1 with ⟨h, _⟩ | ⟨i, h, h3, _⟩ <;> omega
theorem fwF_le {F : Nat → Bool} {N p : Nat} (hp : p < N) : fwF F N p ≤ N := by
  unfold fwF
  have h1 := upF_spec (F := F) (N - (p + 1)) (p + 1)
  have h2 := upF_spec (F := F) N 0
  split
  · rcases h2 with ⟨h, _⟩ | ⟨i, h, h3, _⟩ <;> omega
  · rcases h1 with ⟨h, _⟩ | ⟨i, h, h3, _⟩ <;> omega
theorem cno_low {r r' : Nat → Int32} : ∀ p, p < 24 → (∀ y, y < 76 → y ≠ 3 → r' y = r y) → cno r' p = cno r p
  | 0, _, _ => rfl
  | p + 1, hp, h => by
    show cno r' p + _ = cno r p + _
    rw [cno_low p (by omega) h, h (52 + (p + 1)) (by omega) (by omega)]
theorem dvV_gen {r r' : Nat → Int32} {t t' s : Nat} {v : Int32} (hN : rN r ≤ 24) (hlow : ∀ y, y < 76 → y ≠ 3 → r' y = r y) (hf : ∀ z, z < rN r ∨ z = s → fl r' t' z = fl r t z) (hx : ∀ z, z < 25 → dlx r' t' z = dlx r t z ∧ dly r' t' z = dly r t z) (hs : s < rN r ∨ s = 24) : dvV r' t' s v = dvV r t s v := by
  have eN : rN r' = rN r := rN_fr (hlow 2 (by omega) (by omega))
  have gv : ∀ z, z < 25 → gvn r' t' z v = gvn r t z v := fun z hz => by unfold gvn; rw [(hx z hz).1, (hx z hz).2]
  have bs : ∀ z, z < 24 → bsp r' z v = bsp r z v := fun z hz => by unfold bsp; rw [hlow (4 + z) (by omega) (by omega), hlow (28 + z) (by omega) (by omega)]
  unfold dvV
  rw [hf s (by omega), hlow 0 (by omega) (by omega), gv s (by omega), eN]
  by_cases c1 : fl r t s = 1
  · rw [if_pos c1, if_pos c1]
  · rw [if_neg c1, if_neg c1]
    by_cases c2 : s = 24 ∨ r 0 = 1
    · rw [if_pos c2, if_pos c2]
    · rw [if_neg c2, if_neg c2]
      have hs' : s < rN r := by
        rcases hs with h | h
        · exact h
        · exact absurd (Or.inl h) c2
      have eF : ∀ z, z < rN r → FF r' t' s z = FF r t s z := fun z hz => by
        unfold FF
        rw [cno_low z (by omega) hlow, cno_low s (by omega) hlow, hf z (Or.inl hz)]
      have b1 := bkF_le (F := FF r t s) hs'
      have b2 := fwF_le (F := FF r t s) hs'
      rw [bkF_congr hs' eF, fwF_congr hs' eF, bs s (by omega), bs _ (by omega), bs _ (by omega), gv _ (by omega), gv _ (by omega)]
def inS (N s : Nat) : Bool := decide (s < N ∨ s = 24)
theorem inS_iff {N s : Nat} : inS N s = true ↔ (s < N ∨ s = 24) := by unfold inS; rw [decide_eq_true_eq]
def upT (r : Nat → Int32) (t : Nat) (b : Nat → Int32) (y : Nat) : Int32 := if tb t ≤ y ∧ y < tb t + 87 then b (y - tb t) else r y
def blk (r : Nat → Int32) (t x : Nat) : Int32 := if x < 87 then r (tb t + x) else 0
def wrB (r : Nat → Int32) (t : Nat) (X Y : Nat → Int32) (x : Nat) : Int32 :=
  if 87 ≤ x then 0 else if x < 12 then r (tb t + x) else if x < 37 then (if inS (rN r) (x - 12) = true then 1 else r (tb t + x)) else if x < 62 then (if inS (rN r) (x - 37) = true then X (x - 37) else r (tb t + x)) else (if inS (rN r) (x - 62) = true then Y (x - 62) else r (tb t + x))
theorem up_low {r : Nat → Int32} {t : Nat} {b : Nat → Int32} {y : Nat} (h : y < 76) : upT r t b y = r y := by unfold upT tb; rw [if_neg (by omega)]
theorem up_own {r : Nat → Int32} {t : Nat} {b : Nat → Int32} {x : Nat} (h : x < 87) : upT r t b (tb t + x) = b x := by unfold upT; rw [if_pos (by omega), Nat.add_sub_cancel_left]
theorem up_ne {r : Nat → Int32} {t t' : Nat} {b : Nat → Int32} {x : Nat} (h : x < 87) (hne : t' ≠ t) : upT r t b (tb t' + x) = r (tb t' + x) := by unfold upT; rw [if_neg (by unfold tb; omega)]
theorem up_N {r : Nat → Int32} {t : Nat} {b : Nat → Int32} : rN (upT r t b) = rN r := rN_fr (up_low (by omega))
theorem up_T {r : Nat → Int32} {t : Nat} {b : Nat → Int32} : rT (upT r t b) = rT r := rT_fr (up_low (by omega))
section WR
variable {r : Nat → Int32} {t : Nat} {X Y : Nat → Int32}
theorem wr_rg {x : Nat} (h : x < 12) : upT r t (wrB r t X Y) (tb t + x) = r (tb t + x) := by rw [up_own (by omega)]; unfold wrB; rw [if_neg (by omega), if_pos h]
theorem wr_fl {s : Nat} (h : s < 25) : fl (upT r t (wrB r t X Y)) t s = if inS (rN r) s = true then 1 else fl r t s := by
  unfold fl
  rw [Nat.add_assoc, up_own (by omega)]
  unfold wrB
  rw [if_neg (by omega), if_neg (by omega), if_pos (by omega), Nat.add_sub_cancel_left]
theorem wr_dx {s : Nat} (h : s < 25) : dlx (upT r t (wrB r t X Y)) t s = if inS (rN r) s = true then X s else dlx r t s := by
  unfold dlx
  rw [Nat.add_assoc, up_own (by omega)]
  unfold wrB
  rw [if_neg (by omega), if_neg (by omega), if_neg (by omega), if_pos (by omega), Nat.add_sub_cancel_left]
theorem wr_dy {s : Nat} (h : s < 25) : dly (upT r t (wrB r t X Y)) t s = if inS (rN r) s = true then Y s else dly r t s := by
  unfold dly
  rw [Nat.add_assoc, up_own (by omega)]
  unfold wrB
  rw [if_neg (by omega), if_neg (by omega), if_neg (by omega), if_neg (by omega), Nat.add_sub_cancel_left]
theorem wr_dv {s : Nat} {v : Int32} (hN : rN r ≤ 24) (h : s < rN r ∨ s = 24) : dvV (upT r t (wrB r t X Y)) t s v = if v = 0 then X s else Y s := by
  have hi : inS (rN r) s = true := inS_iff.mpr h
  unfold dvV
  rw [wr_fl (by omega), if_pos hi, if_pos rfl]
  unfold gvn
  rw [wr_dx (by omega), wr_dy (by omega), if_pos hi, if_pos hi]
theorem up_dv {b : Nat → Int32} {t' s : Nat} {v : Int32} (hN : rN r ≤ 24) (hne : t' ≠ t) (h : s < rN r ∨ s = 24) : dvV (upT r t b) t' s v = dvV r t' s v := by
  refine dvV_gen hN (fun y hy _ => up_low hy) (fun z hz => ?_) (fun z hz => ⟨?_, ?_⟩) h
  · unfold fl; rw [Nat.add_assoc, up_ne (by omega) hne]
  · unfold dlx; rw [Nat.add_assoc, up_ne (by omega) hne]
  · unfold dly; rw [Nat.add_assoc, up_ne (by omega) hne]
end WR
/- a row with one block anew -/
theorem up_ok {na gi t : Nat} {r b : Nat → Int32} (hR : RowOk na gi r) (ht : t < rT r) (hO : TupOk na (rN r) (upT r t b) t) : RowOk na gi (upT r t b) := by
  obtain ⟨e1, e2, e3, e4, e5, e6, e7⟩ := hR
  unfold RowOk
  rw [up_N, up_T, up_low (y := 0) (by omega), up_low (y := 2) (by omega), up_low (y := 3) (by omega)]
  refine ⟨e1, e2, e3, e4, fun hz => ⟨fun p hp => ?_, fun hp => ?_⟩, fun hz c hc => ?_, fun j hj => ?_⟩
  · rw [up_low (by omega)]; exact (e5 hz).1 p hp
  · rw [up_low (by omega)]; exact (e5 hz).2 hp
  · rw [up_low (by omega)]; exact e6 hz c hc
  · by_cases e : j = t
    · rw [e]; exact hO
    · refine (e7 j hj).fr2 (fun x h1 h2 => ?_)
      obtain ⟨d, rfl⟩ : ∃ d, x = tb j + d := ⟨x - tb j, by omega⟩
      exact up_ne (by omega) e
theorem wr_tup {na t : Nat} {r X Y : Nat → Int32} (hN : rN r ≤ 24) (hO : TupOk na (rN r) r t) (h0 : Y 24 = 0) : TupOk na (rN r) (upT r t (wrB r t X Y)) t := by
  obtain ⟨h1, h2, h3, h4, h5⟩ := hO
  have e : ∀ x, x < 12 → upT r t (wrB r t X Y) (tb t + x) = r (tb t + x) := fun x hx => wr_rg hx
  refine ⟨fun a ha => ?_, fun a ha hb => ?_, fun s hs => ?_, fun s hs hq => ?_, fun hq => ?_⟩
  · rw [Nat.add_assoc (tb t), Nat.add_assoc (tb t), e _ (by omega), e _ (by omega), e _ (by omega), ← Nat.add_assoc, ← Nat.add_assoc]; exact h1 a ha
  · rw [Nat.add_assoc (tb t), Nat.add_assoc (tb t), e _ (by omega), e _ (by omega), e _ (by omega), ← Nat.add_assoc, ← Nat.add_assoc]; exact h2 a ha hb
  · rw [wr_fl hs]; split
    · exact Or.inr rfl
    · exact h3 s hs
  · rw [wr_fl (by omega), if_neg (by rw [inS_iff]; omega)]; exact h4 s hs hq
  · rw [wr_dy (by omega), if_pos (inS_iff.mpr (Or.inr rfl))]; exact h0
theorem up_gl {S S' : xS} {G t : Nat} {r b : Nat → Int32} (hG : GlRel S G r) (hN : rN r ≤ 24) (hT5 : rT r ≤ 5) (h16 : S'.2.2 16 G = S.2.2 16 G) (hid : ∀ i j, i < 5 → j < 5 → S.2.2 16 G i = S.2.2 16 G j → i = j) (ht : t < rT r) (hS1 : ∀ k, k = 1 ∨ 12 ≤ k ∧ k ≤ 15 → S'.1 k G = S.1 k G) (hU : ∀ k z, k = 5 ∨ 24 ≤ k ∧ k ≤ 28 → z ≠ S.2.2 16 G t → S'.1 k z = S.1 k z) (hTn : TupRel S' (S.2.2 16 G t) (upT r t b) t) : GlRel S' G (upT r t b) := by
  obtain ⟨e1, e2, e3, e4, e5, e6, e7, e8, e9⟩ := hG
  unfold GlRel
  rw [up_N, up_T, hS1 1 (by omega), hS1 12 (by omega), hS1 13 (by omega), hS1 14 (by omega), hS1 15 (by omega), h16, up_low (y := 0) (by omega), up_low (y := 1) (by omega), up_low (y := 2) (by omega), up_low (y := 3) (by omega)]
  refine ⟨e1, e2, e3, e4, e5, fun p hp => ?_, fun hz p hp => ?_, fun hz c hc => ?_, fun j hj => ?_⟩
  · rw [up_low (by omega), up_low (by omega)]; exact e6 p hp
  · rw [cno_low p (by omega) (fun y hy _ => up_low hy)]; exact e7 hz p hp
  · rw [up_low (by omega)]; exact e8 hz c hc
  · by_cases e : j = t
    · rw [e]; exact hTn
    · refine (e9 j hj).fr2 (fun k hk => hU k _ hk (fun q => e (hid j t (by omega) (by omega) q))) (fun x h1 h2 => ?_)
      obtain ⟨d, rfl⟩ : ∃ d, x = tb j + d := ⟨x - tb j, by omega⟩
      exact up_ne (by omega) e
