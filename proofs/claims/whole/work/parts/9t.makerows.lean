/-- a constructor's contract: out of the one cell o at h0 come the cells W1 u -/
def cA0 (h0 sz : Nat) : Nat → Prop := fun q => q = h0 ∨ sz ≤ q
abbrev cRm (fr lo mc ms : Nat) : Room := { frames := fr, cells := mc, slots := ms, locals := lo }
def cQ {U : Type} (D : va_G) (h0 sz : Nat) (W1 : U → va_W) : Array Value → State → Outcome → State → Prop := va_Qv (fun _ : U => True) (fun u t => va_P D vwCl (W1 u) t.heap ∧ va_D (cA0 h0 sz) (W1 u)) (cA0 h0 sz)
def cMet {U : Type} (l : Launch) (D : va_G) (cy : Nat → ClassId) (y : MethodName) (bytes : ByteArray) (maxL fr lo mc ms : Nat) (o : va_E) (W1 : Nat → U → va_W) : Prop :=
  ∀ h0 sz : Nat, MetD lw_cs l y (Cond.code y bytes maxL none :: xWs) (cRm fr lo mc ms) (va_Pc [.ref h0] (fun U => U.heap.size = sz ∧ va_P D vwCl [(h0, o)] U.heap ∧ xK D (xTys cy) U ∧ xAO U)) (cQ D h0 sz (W1 h0)) mc ms (cA0 h0 sz)
def cEnd {U : Type} (g : xG) (D : va_G) (h0 mc ms : Nat) (W1 : U → va_W) : Prop :=
  match g with
  | (_, _, _, _, s, _, args, below, _, _, H0, A, Q, _, _, _) => Q = MQD lw_cs below (cQ D h0 s.heap.size W1) args s mc ms (cA0 h0 s.heap.size) ∧ H0 = s.heap ∧ A = cA0 h0 s.heap.size
set_option maxHeartbeats 4000000 in
theorem cMet_of {U : Type} {l : Launch} {D : va_G} {cy : Nat → ClassId} {y : MethodName} {bytes : ByteArray} {maxL fr lo mc ms : Nat} {o : va_E} {W1 : Nat → U → va_W} (hy : plainName y.cls = true) (hn : y.name = "<init>") (hm : 1 ≤ maxL)
    (body : ∀ (g : xG) (h0 : Nat), xL g = l → cE g D cy y.cls bytes none fr lo mc ms → cEnd g D h0 mc ms (W1 h0) → g.2.2.2.2.2.2.2.2.2.2.2.2.2.1 = maxL → Wx (gk g 0 0) (cP g D [(h0, o)]) 0 [(0, .ref h0)] []) : cMet l D cy y bytes maxL fr lo mc ms o W1 := by
  intro h0 sz
  refine MetD.ofW (cc := bytes) (maxL := maxL) (ret := none) hy rfl ?_
  intro p e s m args below meth c s₁ B hml hv hd0
  obtain ⟨rfl, hsz, hP, hK, hAO⟩ := hv
  subst hsz
  have hts := atoms_spec (ws := Cond.code y bytes maxL none :: xWs) B.pre
  have hl := lv_entry ([.ref h0]) (n := maxL) hm
  rw [lg_entry_eq]
  generalize (lg_sl ([.ref h0]) ++ List.replicate (maxL - (lg_sl ([.ref h0])).length) Slot.unset).toArray = ls at hl ⊢
  have hD : va_D (cA0 h0 s.heap.size) [(h0, o)] := ⟨fun i j p q h1 h2 _ => by
    have a := (List.getElem?_eq_some_iff.mp h1).1
    have b := (List.getElem?_eq_some_iff.mp h2).1
    simp only [List.length_cons, List.length_nil] at a b
    omega, fun k q h => by
    have a := List.mem_of_getElem? h
    rw [List.mem_singleton] at a
    rw [a]
    exact Or.inl rfl⟩
  have hin : meth.name = "<init>" := by rw [← hn]; exact (name_of_methodNamed B.named B.method).1
  exact body (p, l, e, _, s, m, _, below, meth, c, s.heap, cA0 h0 s.heap.size, _, maxL, 0, 0) h0 rfl ⟨⟨⟨B.exec, B.bytes, hml, findClass_of_methodNamed B.named, fun w h => hts w (List.mem_cons_of_mem _ h)⟩, B.returns, B.notSynchronized⟩, hK, ⟨Nat.le_refl _, Nat.le_refl _, Nat.le_refl _, Nat.le_refl _⟩, fun q h => Or.inr h, hAO, fun _ => hin⟩ ⟨rfl, rfl, rfl⟩ rfl s.drawn hd0 ls s.heap [] hl ⟨hP, hD⟩ va_S.rf
set_option maxHeartbeats 1000000 in
theorem c_vret {U : Type} {g : xG} {D : va_G} {cy : Nat → ClassId} {own : String} {cc : ByteArray} {fr lo mc ms h0 : Nat} {W1 : U → va_W} (E : cE g D cy own cc none fr lo mc ms) (Z : cEnd g D h0 mc ms W1) {ws : va_W} {pc : Nat} {lvs : List (Nat × Value)} (d : decode cc pc = .ok (.return_, 1)) (u : U) (hP' : ∀ H, va_P D vwCl ws H → va_P D vwCl (W1 u) H) (hD' : ∀ A, va_D A ws → va_D A (W1 u)) : Wx (gk g mc ms) (cP g D ws) pc lvs [] := by
  obtain ⟨p, l, e, R, s, m, args, below, meth, c, H0, A, Q, nL, kc, ks⟩ := g
  obtain ⟨⟨⟨hx, hb, hml, hown, hts⟩, hr, hlk⟩, hK, hR, hA, hAO, hin⟩ := E
  obtain ⟨rfl, rfl, rfl⟩ := Z
  intro d0 hd0 ls H locs hl hP hS
  refine W.endD hd0 ?_
  exact W.vret hx hb hr (fun t ht hW => ⟨⟨u, rfl, trivial, by rw [ht]; exact hP' H hP.1, hD' _ hP.2⟩, hS.F ht⟩) hS.2.2 d hlk
set_option maxHeartbeats 1000000 in
theorem c_obj {g : xG} {D : va_G} {cy : Nat → ClassId} {own : String} {cc : ByteArray} {rt : Option FieldType} {fr lo mc ms : Nat} (E : cE g D cy own cc rt fr lo mc ms) {a b idx q : Nat} {P : Heap → Prop} {pc : Nat} {lvs : List (Nat × Value)} (hw : Cond.methodLink own idx Lib.objectInit ∈ xWs) (hfr : 1 ≤ fr) (hlo : 12 ≤ lo) (d : decode cc pc = .ok (.invokespecial idx, 3)) (kk : Wx (gk g a b) P (pc + 3) lvs []) : Wx (gk g a b) P pc lvs [.ref q] := by
  obtain ⟨p, l, e, R, s, m, args, below, meth, c, H0, A, Q, nL, kc, ks⟩ := g
  obtain ⟨⟨⟨hx, hb, hml, hown, hts⟩, hr, hlk⟩, hK, ⟨hR1, hR2, -⟩, hA, hAO, hin⟩ := E
  intro d0 hd0 ls H locs hl hP hS
  refine W.objInit (s := s.setDrawn d0) hx hb hown (dr_words hts d0 _ hw) (dr_words hts d0 _ t1_18) (dr_words hts d0 _ t1_19) rfl (by rw [hml]; exact hl.1) rfl d (Nat.le_trans hfr hR1) (Nat.le_trans hlo hR2) ?_
  exact W.eq (g2 := F0 m (pc + 3) ls []) rfl (kk d0 hd0 ls H locs hl hP hS)
set_option maxHeartbeats 1000000 in
theorem c_newa {g : xG} {D : va_G} {cy : Nat → ClassId} {own : String} {cc : ByteArray} {rt : Option FieldType} {fr lo mc ms : Nat} (E : cE g D cy own cc rt fr lo mc ms) {a b : Nat} {ws : va_W} {pc : Nat} {lvs : List (Nat × Value)} {st : List Value} {atype : ArrayType} {ty : FieldType} (hw : Cond.arrayClass (newarray.typeOf atype) ∈ xWs) (hty : newarray.typeOf atype = ty) {t0 : Nat} {cT : ClassId} (ht : (xTys cy)[t0]? = some (cT, ty)) {n : Int32} {N : Nat} {a0 : vp_A} (ha : ∀ cA : ClassId, vp_cell cA a0 = arrV cA N (fun _ => defaultValue ty)) (hn : ¬ n < 0) (hN : n.toNatClampNeg = N) (hbytes : N * componentBytes ty ≤ 536870912) (hc : a + 1 ≤ mc) (hs : b + N ≤ ms) (d : decode cc pc = .ok (.newarray atype, 2))
    (kk : ∀ q : Nat, Wx (gk g (a + 1) (b + N)) (cP g D ((q, .inl (cT, a0)) :: ws)) (pc + 2) lvs (.ref q :: st)) : Wx (gk g a b) (cP g D ws) pc lvs (.int n :: st) := by
  obtain ⟨p, l, e, R, s, m, args, below, meth, c, H0, A, Q, nL, kc, ks⟩ := g
  obtain ⟨⟨⟨hx, hb, hml, hown, hts⟩, hr, hlk⟩, hK, ⟨hR1, hR2, hR3, hR4⟩, hA, hAO, hin⟩ := E
  intro d0 hd0 ls H locs hl hP hS
  refine va_newa (s := s.setDrawn d0) (D := D) (atype := atype) hx hb (dr_words hts d0 _ hw) hty hK.1 hP.1 hP.2 hS hA ha hn hN hbytes (Nat.le_trans hc hR3) (Nat.le_trans hs hR4) d (fun q cA H1 hK2 hP2 hD2 hS2 => ?_)
  have e1 : cA = cT := va_RA_inj (hK2.2 8 (cA, ty) rfl).2 (hK.1.2 _ _ ht).2
  subst e1
  exact kk q d0 hd0 ls H1 locs hl ⟨nwP hP2, nwD hD2⟩ hS2
set_option maxHeartbeats 1000000 in
theorem c_newq {g : xG} {D : va_G} {cy : Nat → ClassId} {own : String} {cc : ByteArray} {rt : Option FieldType} {fr lo mc ms : Nat} (E : cE g D cy own cc rt fr lo mc ms) {a b : Nat} {ws : va_W} {pc : Nat} {lvs : List (Nat × Value)} {st : List Value} {C : String} {index : Nat} (hw : Cond.classLink own index C ∈ xWs) (hC : C ∈ xArrs) {t0 : Nat} {cT : ClassId} (ht : (xTys cy)[t0]? = some (cT, .object C)) {n : Int32} {N : Nat} (hn : ¬ n < 0) (hN : n.toNatClampNeg = N) (hbytes : N * 4 ≤ 536870912) (hc : a + 1 ≤ mc) (hs : b + N ≤ ms) (d : decode cc pc = .ok (.anewarray index, 3))
    (kk : ∀ q : Nat, Wx (gk g (a + 1) (b + N)) (cP g D ((q, .inl (cT, N, .inr (.inr (.inr (.inr (fun _ => none)))))) :: ws)) (pc + 3) lvs (.ref q :: st)) : Wx (gk g a b) (cP g D ws) pc lvs (.int n :: st) := by
  obtain ⟨p, l, e, R, s, m, args, below, meth, c, H0, A, Q, nL, kc, ks⟩ := g
  obtain ⟨⟨⟨hx, hb, hml, hown, hts⟩, hr, hlk⟩, hK, ⟨hR1, hR2, hR3, hR4⟩, hA, hAO, hin⟩ := E
  intro d0 hd0 ls H locs hl hP hS
  refine va_newq (s := s.setDrawn d0) (D := D) hx hb hown (dr_words hts d0 _ hw) (hAO.1 C hC) hK.1 hP.1 hP.2 hS hA hn hN hbytes (Nat.le_trans hc hR3) (Nat.le_trans hs hR4) d (fun q cA H1 hK2 hP2 hD2 hS2 => ?_)
  have e1 : cA = cT := va_RA_inj (hK2.2 8 (cA, .object C) rfl).2 (hK.1.2 _ _ ht).2
  subst e1
  exact kk q d0 hd0 ls H1 locs hl ⟨nwP hP2, nwD hD2⟩ hS2
set_option maxHeartbeats 1000000 in
theorem c_new {g : xG} {D : va_G} {cy : Nat → ClassId} {own : String} {cc : ByteArray} {rt : Option FieldType} {fr lo mc ms : Nat} (E : cE g D cy own cc rt fr lo mc ms) {a b : Nat} {ws : va_W} {pc : Nat} {lvs : List (Nat × Value)} {st : List Value} {C : String} {T : u_T} {N ci index : Nat} (hcw : Cond.classLink own index C ∈ xWs) (hiw : Cond.instantiable C N ∈ xWs) (hnw : Cond.initialized C ∈ xWs) (hin0 : ∀ w ∈ u_ws C T N, w ∈ xWs) {ty : Nat → FieldType} (hty : ∀ k, k < N → parseFieldDescriptor (T k).2.2.1 = some (ty k)) (hci : vwCl[ci]? = some (C, T, N)) {fs : List Value} (hfs : ∀ j, j < N → defaultValue (ty j) = vp_V fs j) (hc : a + 1 ≤ mc) (hs : b + N ≤ ms) (d : decode cc pc = .ok (.new index, 3))
    (kk : ∀ q : Nat, Wx (gk g (a + 1) (b + N)) (cP g D ((q, .inr (ci, fs)) :: ws)) (pc + 3) lvs (.ref q :: st)) : Wx (gk g a b) (cP g D ws) pc lvs st := by
  obtain ⟨p, l, e, R, s, m, args, below, meth, c, H0, A, Q, nL, kc, ks⟩ := g
  obtain ⟨⟨⟨hx, hb, hml, hown, hts⟩, hr, hlk⟩, hK, ⟨hR1, hR2, hR3, hR4⟩, hA, hAO, hin⟩ := E
  intro d0 hd0 ls H locs hl hP hS
  refine va_new (s := s.setDrawn d0) (D := D) hx hb (dr_words hts d0) hin0 ty hty hown (dr_words hts d0 _ hcw) (dr_words hts d0 _ hiw) (dr_words hts d0 _ hnw) hK.1 hP.1 hP.2 hS hA hci hfs (Nat.le_trans hc hR3) (Nat.le_trans hs hR4) d (fun q H1 hP2 hD2 hS2 => ?_)
  exact kk q d0 hd0 ls H1 locs hl ⟨nwP hP2, nwD hD2⟩ hS2
set_option maxHeartbeats 1000000 in
theorem c_putF {g : xG} {D : va_G} {cy : Nat → ClassId} {own : String} {cc : ByteArray} {fr lo mc ms : Nat} (E : cE g D cy own cc none fr lo mc ms) {a b : Nat} {ws ws' : va_W} {pc : Nat} {lvs : List (Nat × Value)} {st : List Value} {T : u_T} {N ci index : Nat} (hin0 : ∀ w ∈ u_ws own T N, w ∈ xWs) {ty0 : Nat → FieldType} (hty : ∀ k, k < N → parseFieldDescriptor (T k).2.2.1 = some (ty0 k)) (hnm : ∀ a, a < N → ∀ b, b < N → a ≠ b → (T a).2.1 ≠ (T b).2.1) (hci : vwCl[ci]? = some (own, T, N)) (q0 : Nat) {h0 v : Nat} {fs : List Value} (he : ws[q0]? = some (h0, .inr (ci, fs))) (k : Nat) (hk : k < N) (hw : Cond.fieldLink own index own (T k).2.1 (T k).2.2.1 ∈ xWs) (hfin : (T k).2.2.2 = true) (hdecl : (T k).1 = own) {ty : FieldType} (hd : parseFieldDescriptor (T k).2.2.1 = some ty) (hn : narrow ty (.ref v) = .ref v) (hfit : fits ty (.ref v) = true) (hl : k < fs.length) (hws : ws.set q0 (h0, .inr (ci, fs.set k (.ref v))) = ws') (d : decode cc pc = .ok (.putfield index, 3))
    (kk : Wx (gk g a b) (cP g D ws') (pc + 3) lvs st) : Wx (gk g a b) (cP g D ws) pc lvs (.ref v :: .ref h0 :: st) := by
  obtain ⟨p, l, e, R, s, m, args, below, meth, c, H0, A, Q, nL, kc, ks⟩ := g
  obtain ⟨⟨⟨hx, hb, hml, hown, hts⟩, hr, hlk⟩, hK, ⟨hR1, hR2, hR3, hR4⟩, hA, hAO, hin⟩ := E
  intro d0 hd0 ls H locs hl2 hP hS
  refine va_putF (s := s.setDrawn d0) (D := D) hx hb (dr_words hts d0) hin0 ty0 hty hnm hown hK.1 hP.1 hP.2 hS q0 he hci k hk (dr_words hts d0 _ hw) (fun x h => by rw [hdecl] at h; exact h) hfin (hin rfl) hdecl hd hn hfit hl d (fun H1 locs1 hP1 hD1 hS1 => ?_)
  rw [hws] at hP1 hD1
  exact kk d0 hd0 ls H1 locs1 hl2 ⟨hP1, hD1⟩ hS1
set_option maxHeartbeats 1000000 in
theorem c_get {g : xG} {D : va_G} {cy : Nat → ClassId} {own : String} {cc : ByteArray} {rt : Option FieldType} {fr lo mc ms : Nat} (E : cE g D cy own cc rt fr lo mc ms) {a b : Nat} {ws : va_W} {pc : Nat} {lvs : List (Nat × Value)} {st : List Value} {T : u_T} {N ci index : Nat} (hin0 : ∀ w ∈ u_ws own T N, w ∈ xWs) (hci : vwCl[ci]? = some (own, T, N)) (q0 : Nat) {h0 : Nat} {v : Value} {fs : List Value} (he : ws[q0]? = some (h0, .inr (ci, fs))) (k : Nat) (hk : k < N) (hw : Cond.fieldLink own index own (T k).2.1 (T k).2.2.1 ∈ xWs) (hdecl : (T k).1 = own) (hv : fs[k]? = some v) (d : decode cc pc = .ok (.getfield index, 3))
    (kk : Wx (gk g a b) (cP g D ws) (pc + 3) lvs (v :: st)) : Wx (gk g a b) (cP g D ws) pc lvs (.ref h0 :: st) := by
  obtain ⟨p, l, e, R, s, m, args, below, meth, c, H0, A, Q, nL, kc, ks⟩ := g
  obtain ⟨⟨⟨hx, hb, hml, hown, hts⟩, hr, hlk⟩, hK, ⟨hR1, hR2, hR3, hR4⟩, hA, hAO, hin⟩ := E
  intro d0 hd0 ls H locs hl2 hP hS
  exact va_get (D := D) (s := s.setDrawn d0) hx hb (dr_words hts d0) hin0 hown hK.1 hP.1 q0 he hci k hk (dr_words hts d0 _ hw) (fun x h => by rw [hdecl] at h; exact h) hv d (kk d0 hd0 ls H locs hl2 hP hS)
set_option maxHeartbeats 1000000 in
theorem c_aast {g : xG} {D : va_G} {cy : Nat → ClassId} {own : String} {cc : ByteArray} {rt : Option FieldType} {fr lo mc ms : Nat} (E : cE g D cy own cc rt fr lo mc ms) {a b : Nat} {ws ws' : va_W} {pc : Nat} {lvs : List (Nat × Value)} {st : List Value} {C : String} {T : u_T} {N ci t0 n : Nat} {cT : ClassId} (q0 q1 : Nat) {ar h1 : Nat} {f : Nat → Option Nat} {fs : List Value} (ha : ws[q0]? = some (ar, .inl (cT, n, .inr (.inr (.inr (.inr f)))))) (ht : (xTys cy)[t0]? = some (cT, .object C)) (ho : ws[q1]? = some (h1, .inr (ci, fs))) (hci : vwCl[ci]? = some (C, T, N)) {i : Int32} (hin2 : vp_in i n) (hws : ws.set q0 (ar, .inl (cT, n, .inr (.inr (.inr (.inr (va_up f i.toNatClampNeg (some h1))))))) = ws') (d : decode cc pc = .ok (.aastore, 1))
    (kk : Wx (gk g a b) (cP g D ws') (pc + 1) lvs st) : Wx (gk g a b) (cP g D ws) pc lvs (.ref h1 :: .int i :: .ref ar :: st) := by
  obtain ⟨p, l, e, R, s, m, args, below, meth, c, H0, A, Q, nL, kc, ks⟩ := g
  obtain ⟨⟨⟨hx, hb, hml, hown, hts⟩, hr, hlk⟩, hK, ⟨hR1, hR2, hR3, hR4⟩, hA, hAO, hin⟩ := E
  intro d0 hd0 ls H locs hl2 hP hS
  refine va_astq (D := D) (s := s.setDrawn d0) (r := (C, T, N)) hx hb hK.1 hP.1 hP.2 hS q0 t0 q1 ci ha ht ho hci hin2 d (fun H1 locs1 hP1 hD1 hS1 => ?_)
  rw [hws] at hP1 hD1
  exact kk d0 hd0 ls H1 locs1 hl2 ⟨hP1, hD1⟩ hS1
theorem cP_sub {g : xG} {D : va_G} {ws ws' : va_W} {pc : Nat} {lvs : List (Nat × Value)} {st : List Value} {a b : Nat} (hp : ws.Perm ws') (kk : Wx (gk g a b) (cP g D ws') pc lvs st) : Wx (gk g a b) (cP g D ws) pc lvs st := by
  obtain ⟨p, l, e, R, s, m, args, below, meth, c, H0, A, Q, nL, kc, ks⟩ := g
  intro d0 hd0 ls H locs hl2 hP hS
  exact kk d0 hd0 ls H locs hl2 ⟨hP.1.mem (fun q hq => hp.mem_iff.mpr hq), hP.2.perm hp⟩ hS
theorem c_blind {D : va_G} {cy : Nat → ClassId} {h0 sz : Nat} {o : va_E} {as : List Value} : FrameBlind (va_Pc as (fun U => U.heap.size = sz ∧ va_P D vwCl [(h0, o)] U.heap ∧ xK D (xTys cy) U ∧ xAO U)) := fun _ _ _ _ h => ⟨h.1, h.2.1, h.2.2.1, h.2.2.2.1.same rfl, h.2.2.2.2.alike (Vm.Alike.refl _)⟩
theorem c_join {A0 : Nat → Prop} {D : va_G} {cl : List vw_C} {ws0 w1 : va_W} {h0 : Nat} {o : va_E} {H H1 : Heap} (hP : va_P D cl ((h0, o) :: ws0) H) (hD : va_D A0 ((h0, o) :: ws0)) (hk : ∀ q : Nat, q < H.size → ¬ cA0 h0 H.size q → H1[q]? = H[q]?) (hF : ∀ q, cA0 h0 H.size q → A0 q) (hP1 : va_P D cl w1 H1) (hD1 : va_D (cA0 h0 H.size) w1) : va_P D cl (w1 ++ ws0) H1 ∧ va_D A0 (w1 ++ ws0) := by
  have hP0 : va_P D cl ws0 H := fun k q hq => hP (k + 1) q hq
  have hD0 : va_D A0 ws0 := ⟨fun i j p q h1 h2 he => Nat.succ.inj (hD.1 (i + 1) (j + 1) p q h1 h2 he), fun k q h => hD.2 (k + 1) q h⟩
  have apart : ∀ (k : Nat) (q : Nat × va_E), ws0[k]? = some q → q.1 < H.size ∧ ¬ cA0 h0 H.size q.1 := by
    intro k q hq
    have hl := (hP0 k q hq).lt
    refine ⟨hl, fun h => ?_⟩
    rcases h with h | h
    · have := hD.1 (k + 1) 0 q (h0, o) hq rfl h
      omega
    · omega
  refine ⟨va_P.app hP1 (hP0.kept (fun k q hq => hk q.1 (apart k q hq).1 (apart k q hq).2)), va_D.app (hD1.weaken (fun k q _ h => hF q.1 h)) hD0 (fun i j x y hx hy hxy => ?_)⟩
  exact (apart j y hy).2 (hxy ▸ hD1.2 i x hx)
set_option maxHeartbeats 1000000 in
theorem c_initX {U : Type} {g : xG} {D : va_G} {cy : Nat → ClassId} {own : String} {cc : ByteArray} {rt : Option FieldType} {fr lo mc ms : Nat} (E : cE g D cy own cc rt fr lo mc ms) {a b mc2 ms2 : Nat} {ws0 : va_W} {pc : Nat} {lvs : List (Nat × Value)} {st : List Value} {h0 : Nat} {o : va_E} {W1 : U → va_W}
    (run : ∀ (d0 : Drawn), xKK g D (xTys cy) → ∀ (ls : Array Slot) (H : Heap) (locs : List Loc), lv_has ls (g.2.2.2.2.2.2.2.2.2.2.2.2.2.1) lvs → cP g D ((h0, o) :: ws0) H →
      match g with
      | (p, l, e, R, s, m, args, below, meth, c, _, _, _, _, _, _) => va_RunD lw_cs p l e R (s.setDrawn d0) m args below meth c H locs a b mc2 ms2 (F0 m pc ls (.ref h0 :: st)) st (cQ D h0 H.size W1 #[.ref h0]) (cA0 h0 H.size))
    (kk : ∀ u : U, Wx (gk g (a + mc2) (b + ms2)) (cP g D (W1 u ++ ws0)) (pc + 3) lvs st) : Wx (gk g a b) (cP g D ((h0, o) :: ws0)) pc lvs (.ref h0 :: st) := by
  obtain ⟨p, l, e, R, s, m, args, below, meth, c, H0, A, Q, nL, kc, ks⟩ := g
  obtain ⟨⟨⟨hx, hb, hml, hown, hts⟩, hr, hlk⟩, hK, ⟨hR1, hR2, hR3, hR4⟩, hA, hAO, hin⟩ := E
  intro d0 hd0 ls H locs hl hP hS
  have hF : ∀ q, cA0 h0 H.size q → A q := by
    intro q hq
    rcases hq with rfl | hq
    · exact hP.2.2 0 (q, o) rfl
    · exact hA q (Nat.le_trans hS.1 hq)
  refine va_callvD hd0 (run d0 hK ls H locs hl hP) hS (fun q _ h => hF q h) hF (fun u t H1 locs1 ht hvm _ hB hz1 hk1 hS1 d1 hd1 => ?_)
  obtain ⟨hP1, hD1⟩ := hB
  rw [ht] at hP1
  exact kk u d1 hd1 ls H1 locs1 hl (c_join hP.1 hP.2 hk1 hF hP1 hD1) hS1
set_option maxHeartbeats 1000000 in
theorem c_init {U : Type} {g : xG} {D : va_G} {cy : Nat → ClassId} {own : String} {cc : ByteArray} {rt : Option FieldType} {fr lo mc ms : Nat} (E : cE g D cy own cc rt fr lo mc ms) {a b mc2 ms2 fr2 lo2 maxL index : Nat} {ws0 : va_W} {pc : Nat} {lvs : List (Nat × Value)} {st : List Value} {h0 : Nat} {o : va_E} {y : MethodName} {bytes : ByteArray} {W1 : Nat → U → va_W} (hM : cMet (xL g) D cy y bytes maxL fr2 lo2 mc2 ms2 o W1)
    (w1 : Cond.methodLink own index y ∈ xWs) (w2 : Cond.instanceMethod y ∈ xWs) (w4 : Cond.initialized y.cls ∈ xWs) (w5 : Cond.code y bytes maxL none ∈ xWs) (hn : y.name = "<init>") (hy : y.cls ≠ "java/lang/invoke/MethodHandle" ∧ y.cls ≠ "java/lang/invoke/VarHandle" ∧ xDec y 0) (hfr : fr2 + 1 ≤ fr) (hlo : 8 + (maxL + 11) + lo2 ≤ lo) (hc : a + mc2 ≤ mc) (hs : b + ms2 ≤ ms) (hst : (st.map fun v => v.category).sum ≤ 8) (d : decode cc pc = .ok (.invokespecial index, 3))
    (kk : ∀ u : U, Wx (gk g (a + mc2) (b + ms2)) (cP g D (W1 h0 u ++ ws0)) (pc + 3) lvs st) : Wx (gk g a b) (cP g D ((h0, o) :: ws0)) pc lvs (.ref h0 :: st) := by
  refine c_initX E ?_ kk
  obtain ⟨p, l, e, R, s, m, args, below, meth, c, H0, A, Q, nL, kc, ks⟩ := g
  obtain ⟨⟨⟨hx, hb, hml, hown, hts⟩, hr, hlk⟩, hK, ⟨hR1, hR2, hR3, hR4⟩, hA, hAO, hin⟩ := E
  intro d0 K ls H locs hl hP
  exact va_runI_D (s := s.setDrawn d0) (As := []) ⟨hx, hb, hml, hown, dr_words hts d0⟩ (hM h0 H.size)
    (cwI 0 (dr_words hts d0) (xGoodIn [] (fun _ h => absurd h List.not_mem_nil) w5) rfl rfl rfl (dr_words hts d0 _ w4) (dr_words hts d0 _ w1) (dr_words hts d0 _ w2) hn hy ⟨Nat.le_trans hfr hR1, Nat.le_trans hlo hR2⟩)
    ⟨c_blind, fun V hV hW => ⟨rfl, by rw [hV], by rw [hV]; exact hP.1.sub [0] rfl, (xK.same (U := s.setDrawn d0) K rfl).warm hW, hAO.alike hW.alike⟩⟩ rfl rfl hl.1 rfl (lv_room hst) d ⟨Nat.le_trans hc hR3, Nat.le_trans hs hR4⟩
set_option maxHeartbeats 1000000 in
theorem c_initN {U : Type} {g : xG} {D : va_G} {cy : Nat → ClassId} {own host : String} {cc : ByteArray} {rt : Option FieldType} {fr lo mc ms : Nat} (E : cE g D cy own cc rt fr lo mc ms) {a b mc2 ms2 fr2 lo2 maxL index : Nat} {ws0 : va_W} {pc : Nat} {lvs : List (Nat × Value)} {st : List Value} {h0 : Nat} {o : va_E} {y : MethodName} {bytes : ByteArray} {W1 : Nat → U → va_W} (hM : cMet (xL g) D cy y bytes maxL fr2 lo2 mc2 ms2 o W1)
    (w1 : (own, index, y, host) ∈ xNests) (w2 : Cond.instanceMethod y ∈ xWs) (w4 : Cond.initialized y.cls ∈ xWs) (w5 : Cond.code y bytes maxL none ∈ xWs) (hn : y.name = "<init>") (hy : y.cls ≠ "java/lang/invoke/MethodHandle" ∧ y.cls ≠ "java/lang/invoke/VarHandle" ∧ xDec y 0) (hfr : fr2 + 1 ≤ fr) (hlo : 8 + (maxL + 11) + lo2 ≤ lo) (hc : a + mc2 ≤ mc) (hs : b + ms2 ≤ ms) (hst : (st.map fun v => v.category).sum ≤ 8) (d : decode cc pc = .ok (.invokespecial index, 3))
    (kk : ∀ u : U, Wx (gk g (a + mc2) (b + ms2)) (cP g D (W1 h0 u ++ ws0)) (pc + 3) lvs st) : Wx (gk g a b) (cP g D ((h0, o) :: ws0)) pc lvs (.ref h0 :: st) := by
  refine c_initX E ?_ kk
  obtain ⟨p, l, e, R, s, m, args, below, meth, c, H0, A, Q, nL, kc, ks⟩ := g
  obtain ⟨⟨⟨hx, hb, hml, hown, hts⟩, hr, hlk⟩, hK, ⟨hR1, hR2, hR3, hR4⟩, hA, hAO, hin⟩ := E
  intro d0 K ls H locs hl hP
  exact va_runIN_D (s := s.setDrawn d0) (As := []) ⟨hx, hb, hml, hown, dr_words hts d0⟩ (hM h0 H.size)
    ⟨va_cnB 0 (dr_words hts d0) (xGoodIn [] (fun _ h => absurd h List.not_mem_nil) w5) rfl rfl rfl ((xK.same (U := s.setDrawn d0) K rfl).2 (own, index, y, host) w1) (dr_words hts d0 _ w4) hy ⟨Nat.le_trans hfr hR1, Nat.le_trans hlo hR2⟩, hn, dr_words hts d0 _ w2⟩
    ⟨c_blind, fun V hV hW => ⟨rfl, by rw [hV], by rw [hV]; exact hP.1.sub [0] rfl, (xK.same (U := s.setDrawn d0) K rfl).warm hW, hAO.alike hW.alike⟩⟩ rfl rfl hl.1 rfl (lv_room hst) d ⟨Nat.le_trans hc hR3, Nat.le_trans hs hR4⟩
