def xPL (D : va_G) (cy : Nat → ClassId) (adC adM : Nat → Nat → Nat) (S M : xS) : Heap → Prop := fun H => xW D (shC cy) adC S H ∧ xW D (shM cy) adM M H
theorem xW_kept {D : va_G} {sh : xSh} {ad : Nat → Nat → Nat} {S : xS} {H H1 : Heap} (h : xW D sh ad S H) (hk : ∀ q : Nat, q < H.size → xA sh ad q → H1[q]? = H[q]?) : xW D sh ad S H1 := by
  refine va_P.kept h (fun k q hq => ?_)
  have hlt := va_at.lt (h k q hq)
  refine hk q.1 hlt ?_
  unfold xl at hq
  rw [List.getElem?_map] at hq
  cases hz : sh.1[k]? with
  | none => rw [hz] at hq; cases hq
  | some z => rw [hz] at hq; cases hq; exact ⟨z, List.mem_of_getElem? hz, rfl⟩
theorem xPL_C {D : va_G} {cy : Nat → ClassId} {adC adM : Nat → Nat → Nat} {S M : xS} (hd : ∀ a, xA (shC cy) adC a → xA (shM cy) adM a → False) (H : Heap) (S' : xS) (H1 : Heap) (h : xPL D cy adC adM S M H) (h1 : xW D (shC cy) adC S' H1) (_ : H.size ≤ H1.size) (hk : ∀ q : Nat, q < H.size → ¬ xA (shC cy) adC q → H1[q]? = H[q]?) : xPL D cy adC adM S' M H1 :=
  ⟨h1, xW_kept h.2 (fun q hq ha => hk q hq (fun hc => hd q hc ha))⟩
theorem xPL_M {D : va_G} {cy : Nat → ClassId} {adC adM : Nat → Nat → Nat} {S M : xS} (hd : ∀ a, xA (shC cy) adC a → xA (shM cy) adM a → False) (H : Heap) (M' : xS) (H1 : Heap) (h : xPL D cy adC adM S M H) (h1 : xW D (shM cy) adM M' H1) (_ : H.size ≤ H1.size) (hk : ∀ q : Nat, q < H.size → ¬ xA (shM cy) adM q → H1[q]? = H[q]?) : xPL D cy adC adM S M' H1 :=
  ⟨xW_kept h.1 (fun q hq ha => hk q hq (fun hc => hd q ha hc)), h1⟩
def xScr (g : xG) (b L : Nat) (xs : Nat → Int32) : Prop :=
  match g with
  | (_, _, _, R, s, _, args, below, _, _, H0, A, Q, _, kc, ks) => va_X b L xs s H0 ∧ b < H0.size ∧ ¬ A b ∧ R = room_1 ∧ args = #[Value.ref b] ∧ H0 = s.heap ∧ A = (fun q : Nat => s.heap.size ≤ q) ∧ Q = lw_Z below #[Value.ref b] s ∧ kc = 600000 ∧ ks = 7302250
theorem x_sld {g : xG} {own : String} {cc : ByteArray} {ret : Option FieldType} {P : Heap → Prop} {pc : Nat} {lvs : List (Nat × Value)} {st : List Value} (X : xOK g own cc ret) {b L : Nat} {xs : Nat → Int32} (Z : xScr g b L xs) {i : Int32} (hin : vp_in i L) (d : decode cc pc = .ok (.iaload, 1)) (kk : Wx g P (pc + 1) lvs (.int (xs i.toNatClampNeg) :: st)) : Wx g P pc lvs (.int i :: .ref b :: st) := by
  obtain ⟨p, l, e, R, s, m, args, below, meth, c, H0, A, Q, nL, kc, ks⟩ := g
  obtain ⟨⟨hx, hb, hml, hown, hts⟩, hr, hlk⟩ := X
  obtain ⟨hX, hbl, hbA, -⟩ := Z
  intro d0 hd0 ls H locs hl hP hS
  exact va_sld (s := s.setDrawn d0) hx hb hX hbl hbA hS hin d (kk d0 hd0 ls H locs hl hP hS)
theorem x_slen {g : xG} {own : String} {cc : ByteArray} {ret : Option FieldType} {P : Heap → Prop} {pc : Nat} {lvs : List (Nat × Value)} {st : List Value} (X : xOK g own cc ret) {b L : Nat} {xs : Nat → Int32} (Z : xScr g b L xs) (d : decode cc pc = .ok (.arraylength, 1)) (kk : Wx g P (pc + 1) lvs (.int (nI L) :: st)) : Wx g P pc lvs (.ref b :: st) := by
  obtain ⟨p, l, e, R, s, m, args, below, meth, c, H0, A, Q, nL, kc, ks⟩ := g
  obtain ⟨⟨hx, hb, hml, hown, hts⟩, hr, hlk⟩ := X
  obtain ⟨hX, hbl, hbA, -⟩ := Z
  intro d0 hd0 ls H locs hl hP hS
  exact va_slen (s := s.setDrawn d0) hx hb hX hbl hbA hS d (kk d0 hd0 ls H locs hl hP hS)
theorem x_lend {g : xG} {own : String} {P : Heap → Prop} {pc : Nat} {lvs : List (Nat × Value)} (X : xOK g own code ret) {b L : Nat} {xs : Nat → Int32} (Z : xScr g b L xs) (d : decode code pc = .ok (.ireturn, 1)) : Wx g P pc lvs [.int 1] := by
  obtain ⟨p, l, e, R, s, m, args, below, meth, c, H0, A, Q, nL, kc, ks⟩ := g
  obtain ⟨⟨hx, hb, hml, hown, hts⟩, hr, hlk⟩ := X
  obtain ⟨-, -, -, rfl, rfl, rfl, rfl, rfl, rfl, rfl⟩ := Z
  intro d0 hd0 ls H locs hl hP hS
  refine va_forget (s := s.setDrawn d0) (fun q hq => hS.2.2 q hq) ?_
  exact lw_ret hd0 hx hb hr hlk d
theorem x_callf {g : xG} {P : Heap → Prop} {P' : xS → Heap → Prop} {pc : Nat} {lvs : List (Nat × Value)} {st0 st : List Value} {D : va_G} {sh : xSh} {ad : Nat → Nat → Nat} {QQ : UInt32 → xS → Prop} {a : Array Value} (hA : xHA g sh ad)
    (hP' : ∀ (H : Heap) (S' : xS) (H1 : Heap), P H → xW D sh ad S' H1 → H.size ≤ H1.size → (∀ q : Nat, q < H.size → ¬ xA sh ad q → H1[q]? = H[q]?) → P' S' H1)
    (run : xRun g P D sh ad (xQf QQ) a pc lvs st0 st) (kk : ∀ (r : UInt32) (S' : xS), QQ r S' → Wx g (P' S') (pc + 3) lvs (.float r :: st)) : Wx g P pc lvs st0 := x_core hA hP' run (fun r S' h => by obtain ⟨v, rfl, hq⟩ := h; exact kk v S' hq)
theorem x_calld {g : xG} {P : Heap → Prop} {P' : xS → Heap → Prop} {pc : Nat} {lvs : List (Nat × Value)} {st0 st : List Value} {D : va_G} {sh : xSh} {ad : Nat → Nat → Nat} {QQ : UInt64 → xS → Prop} {a : Array Value} (hA : xHA g sh ad)
    (hP' : ∀ (H : Heap) (S' : xS) (H1 : Heap), P H → xW D sh ad S' H1 → H.size ≤ H1.size → (∀ q : Nat, q < H.size → ¬ xA sh ad q → H1[q]? = H[q]?) → P' S' H1)
    (run : xRun g P D sh ad (xQd QQ) a pc lvs st0 st) (kk : ∀ (r : UInt64) (S' : xS), QQ r S' → Wx g (P' S') (pc + 3) lvs (.double r :: st)) : Wx g P pc lvs st0 := x_core hA hP' run (fun r S' h => by obtain ⟨v, rfl, hq⟩ := h; exact kk v S' hq)
theorem x_callLi {g : xG} {P : Heap → Prop} {P' : xS → Heap → Prop} {pc : Nat} {lvs : List (Nat × Value)} {st0 st : List Value} {D : va_G} {sh : xSh} {ad : Nat → Nat → Nat} {QQ : Int32 → xS → Prop} {a : Array Value} (hA : xHA g sh ad)
    (hP' : ∀ (H : Heap) (S' : xS) (H1 : Heap), P H → xW D sh ad S' H1 → H.size ≤ H1.size → (∀ q : Nat, q < H.size → ¬ xA sh ad q → H1[q]? = H[q]?) → P' S' H1)
    (run : xRun g P D sh ad (xQi QQ) a pc lvs st0 st) (kk : ∀ (r : Int32) (S' : xS), QQ r S' → Wx g (P' S') (pc + 3) lvs (.int r :: st)) : Wx g P pc lvs st0 := x_core hA hP' run (fun r S' h => by obtain ⟨v, rfl, hq⟩ := h; exact kk v S' hq)
theorem x_callLl {g : xG} {P : Heap → Prop} {P' : xS → Heap → Prop} {pc : Nat} {lvs : List (Nat × Value)} {st0 st : List Value} {D : va_G} {sh : xSh} {ad : Nat → Nat → Nat} {QQ : Int64 → xS → Prop} {a : Array Value} (hA : xHA g sh ad)
    (hP' : ∀ (H : Heap) (S' : xS) (H1 : Heap), P H → xW D sh ad S' H1 → H.size ≤ H1.size → (∀ q : Nat, q < H.size → ¬ xA sh ad q → H1[q]? = H[q]?) → P' S' H1)
    (run : xRun g P D sh ad (xQl QQ) a pc lvs st0 st) (kk : ∀ (r : Int64) (S' : xS), QQ r S' → Wx g (P' S') (pc + 3) lvs (.long r :: st)) : Wx g P pc lvs st0 := x_core hA hP' run (fun r S' h => by obtain ⟨v, rfl, hq⟩ := h; exact kk v S' hq)
def xEnvL (g : xG) (D : va_G) (cy : Nat → ClassId) (adC adM : Nat → Nat → Nat) (b L : Nat) (xs : Nat → Int32) : Prop := xOK g RL code ret ∧ xKK g D (xTys cy) ∧ xHA g (shC cy) adC ∧ xHA g (shM cy) adM ∧ xInj (shC cy) adC ∧ xInj (shM cy) adM ∧ (∀ a, xA (shC cy) adC a → xA (shM cy) adM a → False) ∧ xRoom g 2048 84000 ∧ xScr g b L xs ∧ g.2.2.2.2.2.2.2.2.2.2.2.2.2.1 = 8
theorem xEnvL_mk {g : xG} {D : va_G} {cy : Nat → ClassId} {adC adM : Nat → Nat → Nat} {b L : Nat} {xs : Nat → Int32} (X : xOK g RL code ret) (K : xKK g D (xTys cy)) (hA : xHA g (shC cy) adC) (hB : xHA g (shM cy) adM) (hi : xInj (shC cy) adC) (hj : xInj (shM cy) adM) (hd : ∀ a, xA (shC cy) adC a → xA (shM cy) adM a → False) (hR : xRoom g 2048 84000) (Z : xScr g b L xs) (hN : g.2.2.2.2.2.2.2.2.2.2.2.2.2.1 = 8) : xEnvL g D cy adC adM b L xs := ⟨X, K, hA, hB, hi, hj, hd, hR, Z, hN⟩
