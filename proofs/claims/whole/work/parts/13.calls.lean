theorem xGood {w : Cond} (h : w ∈ xWs) : goodWord w = true := (List.mem_filter.mp h).2
theorem xGoodIn (l : List Cond) (hl : ∀ w ∈ l, w ∈ xWs) {c : Cond} (hc : c ∈ xWs) : GoodIn xWs (l ++ (c :: xWs)) := by
  intro w hw
  have hm : w ∈ xWs := by
    rcases List.mem_append.mp hw with h | h
    · exact hl w h
    · rcases List.mem_cons.mp h with h | h
      · rw [h]; exact hc
      · exact h
  exact ⟨hm, good_of_word (xGood hm)⟩
def xRun (g : xG) (P : Heap → Prop) (D : va_G) (sh : xSh) (ad : Nat → Nat → Nat) (QQ : Option Value → xS → Prop) (a : Array Value) (pc : Nat) (lvs : List (Nat × Value)) (st0 st : List Value) : Prop :=
  match g with
  | (p, l, e, R, s, m, args, below, meth, c, _, _, _, nL, kc, ks) => ∀ (d0 : Drawn), s.drawn.sameBut d0 lw_cs → ∀ (ls : Array Slot) (H : Heap) (locs : List Loc), lv_has ls nL lvs → P H → va_RunD lw_cs p l e R (s.setDrawn d0) m args below meth c H locs kc ks 0 0 (F0 m pc ls st0) st (xQc D sh ad QQ a) (xA sh ad)
set_option maxHeartbeats 1000000 in
theorem x_core {g : xG} {P : Heap → Prop} {P' : xS → Heap → Prop} {pc : Nat} {lvs : List (Nat × Value)} {st0 st : List Value} {D : va_G} {sh : xSh} {ad : Nat → Nat → Nat} {QQ : Option Value → xS → Prop} {a : Array Value} (hA : xHA g sh ad)
    (hP' : ∀ (H : Heap) (S' : xS) (H1 : Heap), P H → xW D sh ad S' H1 → H.size ≤ H1.size → (∀ q : Nat, q < H.size → ¬ xA sh ad q → H1[q]? = H[q]?) → P' S' H1)
    (run : xRun g P D sh ad QQ a pc lvs st0 st) (kk : ∀ (r : Option Value) (S' : xS), QQ r S' → Wx g (P' S') (pc + 3) lvs (r.toList ++ st)) : Wx g P pc lvs st0 := by
  obtain ⟨p, l, e, R, s, m, args, below, meth, c, H0, A, Q, nL, kc, ks⟩ := g
  intro d0 hd0 ls H locs hl hP hS T hT Xs
  obtain ⟨v, st₀, t, T', L, d', hd', h0, X', hL, e1, e2, ⟨⟨r, S', hoc, hqq, hW⟩, hz, hk⟩, stp⟩ := run d0 hd0 ls H locs hl hP T hT Xs
  cases hoc
  rw [h0] at hz hk
  obtain ⟨t2, a1, b1⟩ := kk v S' hqq d' (hd0.trans hd') ls T'.heap (locs ++ L) hl (hP' H S' T'.heap hP (by rw [e1]; exact hW) (by rw [e1]; exact hz) (fun q h1 h2 => by rw [e1]; exact hk q h1 h2))
    ⟨Nat.le_trans hS.1 (by rw [e1]; exact hz), fun q h1 h2 => by rw [e1, hk q (Nat.lt_of_lt_of_le h1 hS.1) (fun z => h2 (hA q z))]; exact hS.2.1 q h1 h2, fun q hq => by
      rcases List.mem_append.mp hq with h | h
      · exact hS.2.2 q h
      · exact hA _ (hL q h)⟩ T' rfl X'
  exact ⟨t2, stp t2 a1, b1⟩
theorem x_blind {D : va_G} {tys : List (ClassId × FieldType)} {sh : xSh} {ad : Nat → Nat → Nat} {S : xS} {as : List Value} : FrameBlind (va_Pc as (fun U => xW D sh ad S U.heap ∧ xK D tys U)) := fun _ _ _ _ h => ⟨h.1, h.2.1, h.2.2.same rfl⟩
abbrev xDec (y : MethodName) (n : Nat) : Prop := (parseMethodDescriptor y.desc).map (fun d => d.parameters.length) = some n
set_option maxHeartbeats 1000000 in
theorem x_runV {g : xG} {own : String} {cc : ByteArray} {ret0 : Option FieldType} {pc : Nat} {lvs : List (Nat × Value)} {st0 st : List Value} (X : xOK g own cc ret0) {D : va_G} {tys : List (ClassId × FieldType)} (K : xKK g D tys) {sh : xSh} {ad : Nat → Nat → Nat} {S : xS} {fr lo fr2 lo2 maxL n index k i ci : Nat} (hR : xRoom g fr lo) {P : Heap → Prop}
    (hPW : ∀ H, P H → xW D sh ad S H) {y : MethodName} {bytes : ByteArray} {ret : Option FieldType} {As : List Value} {QQ : Option Value → xS → Prop} (hM : xMet (xL g) D tys sh ad y bytes maxL ret (xRm fr2 lo2) (.ref (ad k i) :: As) S QQ)
    (hki : (k, i) ∈ sh.1) {fs : List Value} (he : sh.2 ad k i (S.1 k i) (S.2.1 k i) (S.2.2 k i) = .inr (ci, fs)) {T : u_T} {N : Nat} (hc : vwCl[ci]? = some (y.cls, T, N))
    (w1 : Cond.methodLink own index y ∈ xWs) (w2 : Cond.instanceMethod y ∈ xWs) (w3 : Cond.selects y.cls y y ∈ xWs) (w4 : Cond.initialized y.cls ∈ xWs) (w5 : Cond.code y bytes maxL ret ∈ xWs)
    (hy : y.cls ≠ "java/lang/invoke/MethodHandle" ∧ y.cls ≠ "java/lang/invoke/VarHandle" ∧ xDec y n) (hn : As.length = n) (hfr : fr2 + 1 ≤ fr) (hlo : 8 + (maxL + 11) + lo2 ≤ lo) (hst : st0 = As.reverse ++ .ref (ad k i) :: st) (hw : (st.map fun v => v.category).sum ≤ 8) (d : decode cc pc = .ok (.invokevirtual index, 3)) :
    xRun g P D sh ad QQ (.ref (ad k i) :: As).toArray pc lvs st0 st := by
  obtain ⟨p, l, e, R, s, m, args, below, meth, c, H0, A, Q, nL, kc, ks⟩ := g
  obtain ⟨⟨hx, hb, hml, hown, hts⟩, hr, hlk⟩ := X
  obtain ⟨hr1, hr2, hr3, hr4⟩ := hR
  obtain ⟨q0, hq⟩ := xl_at hki
  intro d0 hd0 ls H locs hl hP
  have hx1 := xl_get (ad := ad) (S := S) hq
  rw [he] at hx1
  subst hst
  exact va_runV_D (s := s.setDrawn d0) (C := y.cls) ⟨hx, hb, hml, hown, dr_words hts d0⟩ hM
    (cwV n (dr_words hts d0) (xGoodIn [.methodLink own index y, .instanceMethod y, .selects y.cls y y, .initialized y.cls] (by simp only [List.forall_mem_cons]; exact ⟨w1, w2, w3, w4, fun _ h => absurd h List.not_mem_nil⟩) w5) rfl rfl rfl ⟨rfl, hy⟩ ⟨Nat.le_trans hfr hr1, Nat.le_trans hlo hr2⟩)
    ⟨x_blind, va_recv (s := s.setDrawn d0) K.1 (hPW H hP) hc hx1, fun U hU hW => ⟨rfl, by rw [hU]; exact hPW H hP, (xK.same (U := s.setDrawn d0) K rfl).warm hW⟩⟩ rfl hn hl.1 rfl (lv_room hw) d ⟨hr3, hr4⟩
set_option maxHeartbeats 1000000 in
theorem x_runS {g : xG} {own : String} {cc : ByteArray} {ret0 : Option FieldType} {pc : Nat} {lvs : List (Nat × Value)} {st0 st : List Value} (X : xOK g own cc ret0) {D : va_G} {tys : List (ClassId × FieldType)} (K : xKK g D tys) {sh : xSh} {ad : Nat → Nat → Nat} {S : xS} {fr lo fr2 lo2 maxL n index : Nat} (hR : xRoom g fr lo) {P : Heap → Prop}
    (hPW : ∀ H, P H → xW D sh ad S H) {y : MethodName} {bytes : ByteArray} {ret : Option FieldType} {As : List Value} {QQ : Option Value → xS → Prop} (hM : xMet (xL g) D tys sh ad y bytes maxL ret (xRm fr2 lo2) As S QQ)
    (w1 : Cond.methodLink own index y ∈ xWs) (w2 : Cond.static y ∈ xWs) (w4 : Cond.initialized y.cls ∈ xWs) (w5 : Cond.code y bytes maxL ret ∈ xWs)
    (hy : y.cls ≠ "java/lang/invoke/MethodHandle" ∧ y.cls ≠ "java/lang/invoke/VarHandle" ∧ xDec y n) (hn : As.length = n) (hfr : fr2 + 1 ≤ fr) (hlo : 8 + (maxL + 11) + lo2 ≤ lo) (hst : st0 = As.reverse ++ st) (hw : (st.map fun v => v.category).sum ≤ 8) (d : decode cc pc = .ok (.invokestatic index, 3)) :
    xRun g P D sh ad QQ As.toArray pc lvs st0 st := by
  obtain ⟨p, l, e, R, s, m, args, below, meth, c, H0, A, Q, nL, kc, ks⟩ := g
  obtain ⟨⟨hx, hb, hml, hown, hts⟩, hr, hlk⟩ := X
  obtain ⟨hr1, hr2, hr3, hr4⟩ := hR
  intro d0 hd0 ls H locs hl hP
  subst hst
  exact va_runS_D (s := s.setDrawn d0) ⟨hx, hb, hml, hown, dr_words hts d0⟩ hM
    (va_cwS n (dr_words hts d0) (xGoodIn [.methodLink own index y, .static y, .initialized y.cls] (by simp only [List.forall_mem_cons]; exact ⟨w1, w2, w4, fun _ h => absurd h List.not_mem_nil⟩) w5) rfl rfl rfl hy ⟨Nat.le_trans hfr hr1, Nat.le_trans hlo hr2⟩)
    ⟨x_blind, fun U hU hW => ⟨rfl, by rw [hU]; exact hPW H hP, (xK.same (U := s.setDrawn d0) K rfl).warm hW⟩⟩ rfl hn hl.1 rfl (lv_room hw) d ⟨hr3, hr4⟩
set_option maxHeartbeats 1000000 in
theorem x_runSN {g : xG} {own host : String} {cc : ByteArray} {ret0 : Option FieldType} {pc : Nat} {lvs : List (Nat × Value)} {st0 st : List Value} (X : xOK g own cc ret0) {D : va_G} {tys : List (ClassId × FieldType)} (K : xKK g D tys) {sh : xSh} {ad : Nat → Nat → Nat} {S : xS} {fr lo fr2 lo2 maxL n index : Nat} (hR : xRoom g fr lo) {P : Heap → Prop}
    (hPW : ∀ H, P H → xW D sh ad S H) {y : MethodName} {bytes : ByteArray} {ret : Option FieldType} {As : List Value} {QQ : Option Value → xS → Prop} (hM : xMet (xL g) D tys sh ad y bytes maxL ret (xRm fr2 lo2) As S QQ)
    (w1 : (own, index, y, host) ∈ xNests) (w2 : Cond.static y ∈ xWs) (w4 : Cond.initialized y.cls ∈ xWs) (w5 : Cond.code y bytes maxL ret ∈ xWs)
    (hy : y.cls ≠ "java/lang/invoke/MethodHandle" ∧ y.cls ≠ "java/lang/invoke/VarHandle" ∧ xDec y n) (hn : As.length = n) (hfr : fr2 + 1 ≤ fr) (hlo : 8 + (maxL + 11) + lo2 ≤ lo) (hst : st0 = As.reverse ++ st) (hw : (st.map fun v => v.category).sum ≤ 8) (d : decode cc pc = .ok (.invokestatic index, 3)) :
    xRun g P D sh ad QQ As.toArray pc lvs st0 st := by
  obtain ⟨p, l, e, R, s, m, args, below, meth, c, H0, A, Q, nL, kc, ks⟩ := g
  obtain ⟨⟨hx, hb, hml, hown, hts⟩, hr, hlk⟩ := X
  obtain ⟨hr1, hr2, hr3, hr4⟩ := hR
  intro d0 hd0 ls H locs hl hP
  subst hst
  exact va_runSN_D (s := s.setDrawn d0) ⟨hx, hb, hml, hown, dr_words hts d0⟩ hM
    ⟨va_cnB n (dr_words hts d0) (xGoodIn [] (fun _ h => absurd h List.not_mem_nil) w5) rfl rfl rfl ((xK.same (U := s.setDrawn d0) K rfl).2 (own, index, y, host) w1) (dr_words hts d0 _ w4) hy ⟨Nat.le_trans hfr hr1, Nat.le_trans hlo hr2⟩, dr_words hts d0 _ w2, trivial⟩
    ⟨x_blind, fun U hU hW => ⟨rfl, by rw [hU]; exact hPW H hP, (xK.same (U := s.setDrawn d0) K rfl).warm hW⟩⟩ rfl hn hl.1 rfl (lv_room hw) d ⟨hr3, hr4⟩
theorem x_call {g : xG} {pc : Nat} {lvs : List (Nat × Value)} {st0 st : List Value} {D : va_G} {sh : xSh} {ad : Nat → Nat → Nat} {S : xS} {QQ : Option Value → xS → Prop} {a : Array Value} (hA : xHA g sh ad) (run : xRun g (xW D sh ad S) D sh ad QQ a pc lvs st0 st)
    (kk : ∀ (r : Option Value) (S' : xS), QQ r S' → Wx g (xW D sh ad S') (pc + 3) lvs (r.toList ++ st)) : Wx g (xW D sh ad S) pc lvs st0 := x_core hA (fun _ _ _ _ h _ _ => h) run kk
theorem x_calli {g : xG} {pc : Nat} {lvs : List (Nat × Value)} {st0 st : List Value} {D : va_G} {sh : xSh} {ad : Nat → Nat → Nat} {S : xS} {QQ : Int32 → xS → Prop} {a : Array Value} (hA : xHA g sh ad) (run : xRun g (xW D sh ad S) D sh ad (xQi QQ) a pc lvs st0 st)
    (kk : ∀ (r : Int32) (S' : xS), QQ r S' → Wx g (xW D sh ad S') (pc + 3) lvs (.int r :: st)) : Wx g (xW D sh ad S) pc lvs st0 := x_call hA run (fun r S' h => by obtain ⟨v, rfl, hq⟩ := h; exact kk v S' hq)
theorem x_calll {g : xG} {pc : Nat} {lvs : List (Nat × Value)} {st0 st : List Value} {D : va_G} {sh : xSh} {ad : Nat → Nat → Nat} {S : xS} {QQ : Int64 → xS → Prop} {a : Array Value} (hA : xHA g sh ad) (run : xRun g (xW D sh ad S) D sh ad (xQl QQ) a pc lvs st0 st)
    (kk : ∀ (r : Int64) (S' : xS), QQ r S' → Wx g (xW D sh ad S') (pc + 3) lvs (.long r :: st)) : Wx g (xW D sh ad S) pc lvs st0 := x_call hA run (fun r S' h => by obtain ⟨v, rfl, hq⟩ := h; exact kk v S' hq)
theorem x_callv {g : xG} {pc : Nat} {lvs : List (Nat × Value)} {st0 st : List Value} {D : va_G} {sh : xSh} {ad : Nat → Nat → Nat} {S : xS} {QQ : xS → Prop} {a : Array Value} (hA : xHA g sh ad) (run : xRun g (xW D sh ad S) D sh ad (xQv QQ) a pc lvs st0 st)
    (kk : ∀ (S' : xS), QQ S' → Wx g (xW D sh ad S') (pc + 3) lvs st) : Wx g (xW D sh ad S) pc lvs st0 := x_call hA run (fun r S' h => by obtain ⟨rfl, hq⟩ := h; exact kk S' hq)
theorem x_callr {g : xG} {pc : Nat} {lvs : List (Nat × Value)} {st0 st : List Value} {D : va_G} {sh : xSh} {ad : Nat → Nat → Nat} {S : xS} {k n : Nat} {QQ : Nat → xS → Prop} {a : Array Value} (hA : xHA g sh ad) (run : xRun g (xW D sh ad S) D sh ad (xQr ad k n QQ) a pc lvs st0 st)
    (kk : ∀ (i : Nat) (S' : xS), i < n → QQ i S' → Wx g (xW D sh ad S') (pc + 3) lvs (.ref (ad k i) :: st)) : Wx g (xW D sh ad S) pc lvs st0 := x_call hA run (fun r S' h => by obtain ⟨i, rfl, hi, hq⟩ := h; exact kk i S' hi hq)
