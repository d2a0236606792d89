/- a row with other flags in one tuple -/
def updB (F : Nat → Bool) (s : Nat) (b : Bool) (z : Nat) : Bool := if z = s then b else F z
def flR (r : Nat → Int32) (t : Nat) (F : Nat → Bool) (y : Nat) : Int32 := if tb t + 12 ≤ y ∧ y < tb t + 37 then (if F (y - (tb t + 12)) = true then 1 else 0) else r y
def F0b (r : Nat → Int32) (t s : Nat) : Bool := decide (fl r t s = 1)
section FLR
variable {r : Nat → Int32} {t : Nat} {F : Nat → Bool}
theorem fr_low {y : Nat} (h : y < 76) : flR r t F y = r y := by unfold flR tb; rw [if_neg (by omega)]
theorem fr_N : rN (flR r t F) = rN r := rN_fr (fr_low (by omega))
theorem fr_T : rT (flR r t F) = rT r := rT_fr (fr_low (by omega))
theorem fr_fl {s : Nat} (h : s < 25) : fl (flR r t F) t s = if F s = true then 1 else 0 := by
  unfold fl flR
  rw [if_pos (by omega), Nat.add_sub_cancel_left]
theorem fr_dx {s : Nat} (h : s < 25) : dlx (flR r t F) t s = dlx r t s := by
  unfold dlx flR
  rw [if_neg (by omega)]
theorem fr_dy {s : Nat} (h : s < 25) : dly (flR r t F) t s = dly r t s := by
  unfold dly flR
  rw [if_neg (by omega)]
theorem fr_rg {x : Nat} (h : x < 12) : flR r t F (tb t + x) = r (tb t + x) := by unfold flR; rw [if_neg (by omega)]
theorem fr_ne {t' x : Nat} (h : x < 87) (hne : t' ≠ t) : flR r t F (tb t' + x) = r (tb t' + x) := by unfold flR; rw [if_neg (by unfold tb; omega)]
theorem fr_up (s : Nat) (h : s < 25) (b : Bool) : (fun y => if y = tb t + 12 + s then (if b = true then (1 : Int32) else 0) else flR r t F y) = flR r t (updB F s b) := by
  funext y
  unfold flR updB
  by_cases c : y = tb t + 12 + s
  · rw [if_pos c, if_pos (show tb t + 12 ≤ y ∧ y < tb t + 37 by omega), if_pos (show y - (tb t + 12) = s by omega)]
  · rw [if_neg c]
    by_cases c2 : tb t + 12 ≤ y ∧ y < tb t + 37
    · rw [if_pos c2, if_pos c2, if_neg (show ¬ y - (tb t + 12) = s by omega)]
    · rw [if_neg c2, if_neg c2]
theorem fr_self {na : Nat} (hO : TupOk na (rN r) r t) : flR r t (F0b r t) = r := by
  funext y
  unfold flR
  by_cases c2 : tb t + 12 ≤ y ∧ y < tb t + 37
  · rw [if_pos c2]
    obtain ⟨s, rfl⟩ : ∃ s, y = tb t + 12 + s := ⟨y - (tb t + 12), by omega⟩
    rw [Nat.add_sub_cancel_left]
    unfold F0b
    rcases hO.2.2.1 s (by omega) with h | h
    · rw [h, decide_eq_false (by decide), if_neg (by decide)]; exact h.symm
    · rw [h, decide_eq_true rfl, if_pos rfl]; exact h.symm
  · rw [if_neg c2]
theorem fr_tup {na : Nat} (hO : TupOk na (rN r) r t) (hF : ∀ s, s < 25 → F s = true → fl r t s = 1) : TupOk na (rN r) (flR r t F) t := by
  obtain ⟨h1, h2, h3, h4, h5⟩ := hO
  refine ⟨fun a ha => ?_, fun a ha hb => ?_, fun s hs => ?_, fun s hs hq => ?_, fun hq => ?_⟩
  · rw [Nat.add_assoc (tb t), Nat.add_assoc (tb t), fr_rg (by omega), fr_rg (by omega), fr_rg (by omega), ← Nat.add_assoc, ← Nat.add_assoc]; exact h1 a ha
  · rw [Nat.add_assoc (tb t), Nat.add_assoc (tb t), fr_rg (by omega), fr_rg (by omega), fr_rg (by omega), ← Nat.add_assoc, ← Nat.add_assoc]; exact h2 a ha hb
  · rw [fr_fl hs]; split
    · exact Or.inr rfl
    · exact Or.inl rfl
  · rw [fr_fl (by omega)]
    cases hf : F s
    · rw [if_neg (by decide)]
    · have := hF s (by omega) hf
      rw [h4 s hs hq] at this
      exact absurd this (by decide)
  · rw [fr_fl (by omega)] at hq
    rw [fr_dy (by omega)]
    cases hf : F 24
    · rw [hf, if_neg (by decide)] at hq; exact absurd hq (by decide)
    · exact h5 (hF 24 (by omega) hf)
theorem fr_ok {na gi : Nat} (hR : RowOk na gi r) (ht : t < rT r) (hF : ∀ s, s < 25 → F s = true → fl r t s = 1) : RowOk na gi (flR r t F) := by
  have hO := hR.2.2.2.2.2.2 t ht
  obtain ⟨e1, e2, e3, e4, e5, e6, e7⟩ := hR
  unfold RowOk
  rw [fr_N, fr_T, fr_low (y := 0) (by omega), fr_low (y := 2) (by omega), fr_low (y := 3) (by omega)]
  refine ⟨e1, e2, e3, e4, fun hz => ⟨fun p hp => ?_, fun hp => ?_⟩, fun hz c hc => ?_, fun j hj => ?_⟩
  · rw [fr_low (by omega)]; exact (e5 hz).1 p hp
  · rw [fr_low (by omega)]; exact (e5 hz).2 hp
  · rw [fr_low (by omega)]; exact e6 hz c hc
  · by_cases e : j = t
    · rw [e]; exact fr_tup hO hF
    · refine (e7 j hj).fr2 (fun x h1 h2 => ?_)
      obtain ⟨d, rfl⟩ : ∃ d, x = tb j + d := ⟨x - tb j, by omega⟩
      exact fr_ne (by omega) e
theorem fr_bd {P : Int} (hB : Bd P r) (hN : rN r ≤ 24) (hT5 : rT r ≤ 5) (hF : ∀ s, s < 25 → F s = true → fl r t s = 1) : Bd P (flR r t F) := by
  obtain ⟨B, D, f1, f2, f3, f4, f5, f6⟩ := hB
  refine ⟨B, D, f1, f2, f3, by rw [fr_low (by omega)]; exact f4, fun p hp => ?_, fun j hj s hs hf => ?_⟩
  · rw [fr_N] at hp
    rw [fr_low (by omega), fr_low (by omega)]; exact f5 p hp
  · rw [fr_T] at hj
    by_cases e : j = t
    · subst e
      rw [fr_dx hs, fr_dy hs]
      rw [fr_fl hs] at hf
      cases h : F s
      · rw [h, if_neg (by decide)] at hf; exact absurd hf (by decide)
      · exact f6 j hj s hs (hF s hs h)
    · have e1 : fl (flR r t F) j s = fl r j s := by unfold fl; rw [Nat.add_assoc, fr_ne (by omega) e]
      have e2 : dlx (flR r t F) j s = dlx r j s := by unfold dlx; rw [Nat.add_assoc, fr_ne (by omega) e]
      have e3 : dly (flR r t F) j s = dly r j s := by unfold dly; rw [Nat.add_assoc, fr_ne (by omega) e]
      rw [e1] at hf
      rw [e2, e3]
      exact f6 j hj s hs hf
theorem fr_dv {s : Nat} {v : Int32} (hN : rN r ≤ 24) {F' : Nat → Bool} (hF : ∀ z, z < rN r ∨ z = s → F' z = F z) (hs : s < rN r ∨ s = 24) : dvV (flR r t F') t s v = dvV (flR r t F) t s v := by
  refine dvV_gen (by rw [fr_N]; exact hN) (fun y hy _ => by rw [fr_low hy, fr_low hy]) (fun z hz => ?_) (fun z hz => ⟨by rw [fr_dx hz, fr_dx hz], by rw [fr_dy hz, fr_dy hz]⟩) (by rw [fr_N]; exact hs)
  rw [fr_N] at hz
  rw [fr_fl (by omega), fr_fl (by omega), hF z hz]
end FLR
/- what may be released -/
def kpP (r : Nat → Int32) (t : Nat) (F : Nat → Bool) : Bool := decide (∀ s, s < rN r → dvV (flR r t F) t s 0 = dX r t s ∧ dvV (flR r t F) t s 1 = dY r t s)
def kpA (r : Nat → Int32) (t : Nat) : Bool := decide (dX r t 24 = 0 ∧ dY r t 24 = 0)
def hFl (r : Nat → Int32) (t : Nat) : Nat → (Nat → Bool)
  | 0 => F0b r t
  | k + 1 => if hFl r t k k = true then (if kpP r t (updB (hFl r t k) k false) = true then updB (hFl r t k) k false else hFl r t k) else hFl r t k
def mkB (r : Nat → Int32) (t : Nat) (b : Bool) (k : Nat) (s : Nat) : Bool := if s = 24 then b else hFl r t k s
def advB (r : Nat → Int32) (t : Nat) : Bool := F0b r t 24 && !kpA r t
def allB (r : Nat → Int32) (t : Nat) (F : Nat → Bool) : Prop := ∀ p, p ≤ rN r → dvV (flR r t F) t (slo p) 0 = dX r t (slo p) ∧ dvV (flR r t F) t (slo p) 1 = dY r t (slo p)
section CPT
variable {r : Nat → Int32} {t na : Nat}
theorem hF_sub : ∀ k s, hFl r t k s = true → F0b r t s = true
  | 0, _, h => h
  | k + 1, s, h => by
    have e : hFl r t (k + 1) = if hFl r t k k = true then (if kpP r t (updB (hFl r t k) k false) = true then updB (hFl r t k) k false else hFl r t k) else hFl r t k := rfl
    rw [e] at h
    by_cases c1 : hFl r t k k = true
    · rw [if_pos c1] at h
      by_cases c2 : kpP r t (updB (hFl r t k) k false) = true
      · rw [if_pos c2] at h
        unfold updB at h
        by_cases c3 : s = k
        · rw [if_pos c3] at h; exact absurd h (by decide)
        · rw [if_neg c3] at h; exact hF_sub k s h
      · rw [if_neg c2] at h; exact hF_sub k s h
    · rw [if_neg c1] at h; exact hF_sub k s h
theorem kpP_congr (hN : rN r ≤ 24) {F F' : Nat → Bool} (h : ∀ s, s < rN r → F' s = F s) : kpP r t F' = kpP r t F := by
  unfold kpP
  congr 1
  refine propext ⟨fun H s hs => ?_, fun H s hs => ?_⟩
  · have e : ∀ v, dvV (flR r t F') t s v = dvV (flR r t F) t s v := fun v => fr_dv hN (fun z hz => h z (by omega)) (Or.inl hs)
    rw [← e, ← e]; exact H s hs
  · have e : ∀ v, dvV (flR r t F') t s v = dvV (flR r t F) t s v := fun v => fr_dv hN (fun z hz => h z (by omega)) (Or.inl hs)
    rw [e, e]; exact H s hs
theorem hF_kp (hO : TupOk na (rN r) r t) : ∀ k, kpP r t (hFl r t k) = true
  | 0 => by
    show kpP r t (F0b r t) = true
    unfold kpP
    rw [fr_self hO]
    exact decide_eq_true (fun s _ => ⟨rfl, rfl⟩)
  | k + 1 => by
    have e : hFl r t (k + 1) = if hFl r t k k = true then (if kpP r t (updB (hFl r t k) k false) = true then updB (hFl r t k) k false else hFl r t k) else hFl r t k := rfl
    rw [e]
    by_cases c1 : hFl r t k k = true
    · rw [if_pos c1]
      by_cases c2 : kpP r t (updB (hFl r t k) k false) = true
      · rw [if_pos c2]; exact c2
      · rw [if_neg c2]; exact hF_kp hO k
    · rw [if_neg c1]; exact hF_kp hO k
theorem adv_dv (hO : TupOk na (rN r) r t) (hN : rN r ≤ 24) {F : Nat → Bool} (h : F 24 = F0b r t 24 ∨ (F 24 = false ∧ kpA r t = true)) : dvV (flR r t F) t 24 0 = dX r t 24 ∧ dvV (flR r t F) t 24 1 = dY r t 24 := by
  by_cases hf : F 24 = true
  · have h0 : F0b r t 24 = true := by
      rcases h with h | h
      · rw [← h]; exact hf
      · rw [h.1] at hf; exact absurd hf (by decide)
    have h1 : fl r t 24 = 1 := of_decide_eq_true h0
    have e : ∀ v, dvV (flR r t F) t 24 v = dvV r t 24 v := fun v => by
      unfold dvV
      rw [fr_fl (by omega), if_pos hf, if_pos rfl, if_pos h1]
      unfold gvn
      rw [fr_dx (by omega), fr_dy (by omega)]
    exact ⟨e 0, e 1⟩
  · have hz : dX r t 24 = 0 ∧ dY r t 24 = 0 := by
      rcases h with h | h
      · have h1 : ¬ fl r t 24 = 1 := fun q => hf (by rw [h]; exact decide_eq_true q)
        unfold dX dY dvV
        rw [if_neg h1, if_neg h1, if_pos (Or.inl rfl), if_pos (Or.inl rfl)]
        exact ⟨rfl, rfl⟩
      · exact of_decide_eq_true h.2
    have e : ∀ v, dvV (flR r t F) t 24 v = 0 := fun v => by
      unfold dvV
      rw [fr_fl (by omega), if_neg hf, if_neg (by decide), if_pos (Or.inl rfl)]
    rw [e, e, hz.1, hz.2]
    exact ⟨rfl, rfl⟩
theorem adv_no (hN : rN r ≤ 24) {F : Nat → Bool} (h : F 24 = false) (h2 : dvV (flR r t F) t 24 0 = dX r t 24 ∧ dvV (flR r t F) t 24 1 = dY r t 24) : kpA r t = true := by
  have e : ∀ v, dvV (flR r t F) t 24 v = 0 := fun v => by
    unfold dvV
    rw [fr_fl (by omega), h, if_neg (by decide), if_pos (Or.inl rfl)]
  rw [e, e] at h2
  exact decide_eq_true ⟨h2.1.symm, h2.2.symm⟩
theorem allB_iff {F : Nat → Bool} : allB r t F ↔ (kpP r t F = true ∧ dvV (flR r t F) t 24 0 = dX r t 24 ∧ dvV (flR r t F) t 24 1 = dY r t 24) := by
  unfold kpP
  rw [decide_eq_true_eq]
  constructor
  · intro h
    refine ⟨fun s hs => ?_, h 0 (by omega)⟩
    have := h (s + 1) (by omega)
    rw [show slo (s + 1) = s from rfl] at this
    exact this
  · rintro ⟨h1, h2⟩ p hp
    cases p with
    | zero => exact h2
    | succ p => exact h1 p (by omega)
/- a step at a point -/
theorem mkB_pt (hO : TupOk na (rN r) r t) (hN : rN r ≤ 24) {b : Bool} (hb : b = F0b r t 24 ∨ (b = false ∧ kpA r t = true)) {k : Nat} (hk : k < rN r) :
    mkB r t b k k = hFl r t k k ∧ (hFl r t k k = true → (allB r t (updB (mkB r t b k) k false) ↔ kpP r t (updB (hFl r t k) k false) = true)) ∧ mkB r t b (k + 1) = (if hFl r t k k = true then (if kpP r t (updB (hFl r t k) k false) = true then updB (mkB r t b k) k false else mkB r t b k) else mkB r t b k) := by
  refine ⟨by unfold mkB; rw [if_neg (by omega)], fun _ => ?_, ?_⟩
  · rw [allB_iff, kpP_congr hN (F := updB (hFl r t k) k false) (fun s hs => by unfold updB mkB; by_cases c : s = k; rw [if_pos c, if_pos c]; rw [if_neg c, if_neg c, if_neg (by omega)])]
    have h24 : updB (mkB r t b k) k false 24 = b := by unfold updB mkB; rw [if_neg (by omega), if_pos rfl]
    exact ⟨fun h => h.1, fun h => ⟨h, adv_dv hO hN (by rw [h24]; exact hb)⟩⟩
  · funext s
    have e : hFl r t (k + 1) = if hFl r t k k = true then (if kpP r t (updB (hFl r t k) k false) = true then updB (hFl r t k) k false else hFl r t k) else hFl r t k := rfl
    show (if s = 24 then b else hFl r t (k + 1) s) = _
    rw [e]
    by_cases c1 : hFl r t k k = true
    · rw [if_pos c1, if_pos c1]
      by_cases c2 : kpP r t (updB (hFl r t k) k false) = true
      · rw [if_pos c2, if_pos c2]
        unfold updB mkB
        by_cases c : s = k
        · rw [if_neg (by omega), if_pos c, if_pos c]
        · rw [if_neg c, if_neg c]
      · rw [if_neg c2, if_neg c2]; rfl
    · rw [if_neg c1, if_neg c1]; rfl
/- a step at the advance -/
theorem mkB_adv (hO : TupOk na (rN r) r t) (hN : rN r ≤ 24) {k : Nat} : mkB r t (F0b r t 24) k 24 = F0b r t 24 ∧ (allB r t (updB (mkB r t (F0b r t 24) k) 24 false) ↔ kpA r t = true) ∧ mkB r t (advB r t) k = (if F0b r t 24 = true then (if kpA r t = true then updB (mkB r t (F0b r t 24) k) 24 false else mkB r t (F0b r t 24) k) else mkB r t (F0b r t 24) k) := by
  refine ⟨by unfold mkB; rw [if_pos rfl], ?_, ?_⟩
  · have h24 : updB (mkB r t (F0b r t 24) k) 24 false 24 = false := by unfold updB; rw [if_pos rfl]
    rw [allB_iff]
    refine ⟨fun h => adv_no hN h24 h.2, fun h => ⟨?_, adv_dv hO hN (Or.inr ⟨h24, h⟩)⟩⟩
    rw [kpP_congr hN (F := hFl r t k) (fun s hs => by unfold updB mkB; rw [if_neg (by omega), if_neg (by omega)])]
    exact hF_kp hO k
  · funext s
    unfold advB
    by_cases c1 : F0b r t 24 = true
    · rw [if_pos c1, c1, Bool.true_and]
      by_cases c2 : kpA r t = true
      · rw [if_pos c2, c2]
        unfold updB mkB
        by_cases c : s = 24
        · rw [if_pos c, if_pos c]; rfl
        · rw [if_neg c, if_neg c, if_neg c]
      · rw [if_neg c2]
        rw [Bool.not_eq_true] at c2
        rw [c2]; rfl
    · rw [if_neg c1]
      rw [Bool.not_eq_true] at c1
      rw [c1]; rfl
theorem mkB_sub {b : Bool} (hb : b = true → F0b r t 24 = true) {k s : Nat} (h : mkB r t b k s = true) : fl r t s = 1 := by
  unfold mkB at h
  by_cases c : s = 24
  · rw [if_pos c] at h
    rw [c]
    exact of_decide_eq_true (hb h)
  · rw [if_neg c] at h
    exact of_decide_eq_true (hF_sub k s h)
end CPT
theorem cntB_upd {F : Nat → Bool} {s : Nat} (h : F s = true) : ∀ k, cntB F k = cntB (updB F s false) k + (if s < k then 1 else 0)
  | 0 => by rw [if_neg (by omega)]; rfl
  | k + 1 => by
    show cntB F k + (if F k = true then 1 else 0) = cntB (updB F s false) k + (if updB F s false k = true then 1 else 0) + (if s < k + 1 then 1 else 0)
    rw [cntB_upd h k]
    have eu : updB F s false k = if k = s then false else F k := rfl
    rw [eu]
    by_cases e : k = s
    · rw [if_pos e, e, h, if_neg (show ¬ s < s by omega), if_pos (rfl : true = true), if_neg (show ¬ (false = true) by decide), if_pos (show s < s + 1 by omega)]
    · rw [if_neg e]
      by_cases e2 : s < k
      · rw [if_pos e2, if_pos (show s < k + 1 by omega)]; omega
      · rw [if_neg e2, if_neg (show ¬ s < k + 1 by omega)]; omega
