set_option maxHeartbeats 1000000 in
theorem x_get {g : xG} {own : String} {cc : ByteArray} {ret : Option FieldType} {pc : Nat} {lvs : List (Nat × Value)} {st : List Value} (X : xOK g own cc ret) {D : va_G} {tys : List (ClassId × FieldType)} (K : xKK g D tys) {sh : xSh} {ad : Nat → Nat → Nat} {S : xS} {k i ci N index j : Nat} {C : String} {T : u_T} {fs : List Value} {v : Value} (hki : (k, i) ∈ sh.1) (he : sh.2 ad k i (S.1 k i) (S.2.1 k i) (S.2.2 k i) = .inr (ci, fs)) (hc : vwCl[ci]? = some (C, T, N)) (hin : ∀ w ∈ u_ws C T N, w ∈ xWs) (hj : j < N) (hd : (T j).1 = C) (hw : Cond.fieldLink own index C (T j).2.1 (T j).2.2.1 ∈ xWs) (hv : fs[j]? = some v) (d : decode cc pc = .ok (.getfield index, 3)) (kk : Wx g (xW D sh ad S) (pc + 3) lvs (v :: st)) : Wx g (xW D sh ad S) pc lvs (.ref (ad k i) :: st) := by
  obtain ⟨p, l, e, R, s, m, args, below, meth, c, H0, A, Q, nL, kc, ks⟩ := g
  obtain ⟨⟨hx, hb, hml, hown, hts⟩, hr, hlk⟩ := X
  obtain ⟨q0, hq⟩ := xl_at hki
  intro d0 hd0 ls H locs hl hP hS
  have hx1 := xl_get (ad := ad) (S := S) hq
  rw [he] at hx1
  exact va_get (D := D) (s := s.setDrawn d0) hx hb (dr_words hts d0) hin hown K.1 hP q0 hx1 hc j hj (dr_words hts d0 _ hw) (fun x h => by rw [hd] at h; exact h) hv d (kk d0 hd0 ls H locs hl hP hS)
set_option maxHeartbeats 1000000 in
theorem x_put {g : xG} {own : String} {cc : ByteArray} {ret : Option FieldType} {pc : Nat} {lvs : List (Nat × Value)} {st : List Value} (X : xOK g own cc ret) {D : va_G} {tys : List (ClassId × FieldType)} (K : xKK g D tys) {sh : xSh} {ad : Nat → Nat → Nat} {S : xS}(hi : xInj sh ad) (hA : xHA g sh ad) {k i ci N index j j0 : Nat} {C : String} {T : u_T} {fs : List Value} {v : Int32} {ty : FieldType} {ty0 : Nat → FieldType} (hki : (k, i) ∈ sh.1) (he : sh.2 ad k i (S.1 k i) (S.2.1 k i) (S.2.2 k i) = .inr (ci, fs)) (he2 : .inr (ci, fs.set j (.int v)) = sh.2 ad k i (xU (S.1 k i) j0 v) (S.2.1 k i) (S.2.2 k i)) (hc : vwCl[ci]? = some (C, T, N)) (hin : ∀ w ∈ u_ws C T N, w ∈ xWs) (hty : ∀ k, k < N → parseFieldDescriptor (T k).2.2.1 = some (ty0 k)) (hnm : ∀ a, a < N → ∀ b, b < N → a ≠ b → (T a).2.1 ≠ (T b).2.1) (hj : j < N) (hd : (T j).1 = C) (hw : Cond.fieldLink own index C (T j).2.1 (T j).2.2.1 ∈ xWs) (hfin : (T j).2.2.2 = false) (hde : parseFieldDescriptor (T j).2.2.1 = some ty) (hn : narrow ty (.int v) = .int v) (hfit : fits ty (.int v) = true) (hlen : j < fs.length) (d : decode cc pc = .ok (.putfield index, 3)) (kk : Wx g (xW D sh ad (xI S k i j0 v)) (pc + 3) lvs (st)) : Wx g (xW D sh ad S) pc lvs (.int v :: .ref (ad k i) :: st) := by
  obtain ⟨p, l, e, R, s, m, args, below, meth, c, H0, A, Q, nL, kc, ks⟩ := g
  obtain ⟨⟨hx, hb, hml, hown, hts⟩, hr, hlk⟩ := X
  obtain ⟨q0, hq⟩ := xl_at hki
  intro d0 hd0 ls H locs hl hP hS
  have hx1 := xl_get (ad := ad) (S := S) hq
  rw [he] at hx1
  have hx2 : (xl sh ad S).set q0 (ad k i, .inr (ci, fs.set j (.int v))) = xl sh ad (xI S k i j0 v) := xl_set hi.1 hq (by show _ = sh.2 ad k i (xRow _ k i _ k i) (S.2.1 k i) (S.2.2 k i); rw [xRow_self]; exact he2) (fun q hne => ⟨xRow_ne _ _ _ _ hne, rfl, rfl⟩)
  refine va_put (D := D) (s := s.setDrawn d0) hx hb (dr_words hts d0) hin ty0 hty hnm hown K.1 hP (xD hi hA S) hS q0 hx1 hc j hj (dr_words hts d0 _ hw) (fun x h => by rw [hd] at h; exact h) hfin hde hn hfit hlen d (fun H1 locs1 hP1 _ hS1 => ?_)
  rw [hx2] at hP1
  exact kk d0 hd0 ls H1 locs1 hl hP1 hS1
set_option maxHeartbeats 1000000 in
theorem x_iald {g : xG} {own : String} {cc : ByteArray} {ret : Option FieldType} {pc : Nat} {lvs : List (Nat × Value)} {st : List Value} (X : xOK g own cc ret) {D : va_G} {tys : List (ClassId × FieldType)} (K : xKK g D tys) {sh : xSh} {ad : Nat → Nat → Nat} {S : xS} {k i n t0 : Nat} {cA : ClassId} {f : Nat → Int32} {j : Int32} (hki : (k, i) ∈ sh.1) (he : sh.2 ad k i (S.1 k i) (S.2.1 k i) (S.2.2 k i) = .inl (cA, n, .inl f)) (ht : tys[t0]? = some (cA, .int)) (hin : vp_in j n) (d : decode cc pc = .ok (.iaload, 1)) (kk : Wx g (xW D sh ad S) (pc + 1) lvs (.int (f j.toNatClampNeg) :: st)) : Wx g (xW D sh ad S) pc lvs (.int j :: .ref (ad k i) :: st) := by
  obtain ⟨p, l, e, R, s, m, args, below, meth, c, H0, A, Q, nL, kc, ks⟩ := g
  obtain ⟨⟨hx, hb, hml, hown, hts⟩, hr, hlk⟩ := X
  obtain ⟨q0, hq⟩ := xl_at hki
  intro d0 hd0 ls H locs hl hP hS
  have hx1 := xl_get (ad := ad) (S := S) hq
  rw [he] at hx1
  exact va_iald (D := D) (s := s.setDrawn d0) hx hb K.1 hP q0 t0 hx1 ht hin d (kk d0 hd0 ls H locs hl hP hS)
set_option maxHeartbeats 1000000 in
theorem x_cald {g : xG} {own : String} {cc : ByteArray} {ret : Option FieldType} {pc : Nat} {lvs : List (Nat × Value)} {st : List Value} (X : xOK g own cc ret) {D : va_G} {tys : List (ClassId × FieldType)} (K : xKK g D tys) {sh : xSh} {ad : Nat → Nat → Nat} {S : xS} {k i n t0 : Nat} {cA : ClassId} {f : Nat → Int32} {j : Int32} (hki : (k, i) ∈ sh.1) (he : sh.2 ad k i (S.1 k i) (S.2.1 k i) (S.2.2 k i) = .inl (cA, n, .inl f)) (ht : tys[t0]? = some (cA, .char)) (hin : vp_in j n) (d : decode cc pc = .ok (.caload, 1)) (kk : Wx g (xW D sh ad S) (pc + 1) lvs (.int (f j.toNatClampNeg) :: st)) : Wx g (xW D sh ad S) pc lvs (.int j :: .ref (ad k i) :: st) := by
  obtain ⟨p, l, e, R, s, m, args, below, meth, c, H0, A, Q, nL, kc, ks⟩ := g
  obtain ⟨⟨hx, hb, hml, hown, hts⟩, hr, hlk⟩ := X
  obtain ⟨q0, hq⟩ := xl_at hki
  intro d0 hd0 ls H locs hl hP hS
  have hx1 := xl_get (ad := ad) (S := S) hq
  rw [he] at hx1
  exact va_cald (D := D) (s := s.setDrawn d0) hx hb K.1 hP q0 t0 hx1 ht hin d (kk d0 hd0 ls H locs hl hP hS)
set_option maxHeartbeats 1000000 in
theorem x_zald {g : xG} {own : String} {cc : ByteArray} {ret : Option FieldType} {pc : Nat} {lvs : List (Nat × Value)} {st : List Value} (X : xOK g own cc ret) {D : va_G} {tys : List (ClassId × FieldType)} (K : xKK g D tys) {sh : xSh} {ad : Nat → Nat → Nat} {S : xS} {k i n t0 : Nat} {cA : ClassId} {f : Nat → Int32} {j : Int32} (hki : (k, i) ∈ sh.1) (he : sh.2 ad k i (S.1 k i) (S.2.1 k i) (S.2.2 k i) = .inl (cA, n, .inl f)) (ht : tys[t0]? = some (cA, .boolean)) (hin : vp_in j n) (d : decode cc pc = .ok (.baload, 1)) (kk : Wx g (xW D sh ad S) (pc + 1) lvs (.int (f j.toNatClampNeg) :: st)) : Wx g (xW D sh ad S) pc lvs (.int j :: .ref (ad k i) :: st) := by
  obtain ⟨p, l, e, R, s, m, args, below, meth, c, H0, A, Q, nL, kc, ks⟩ := g
  obtain ⟨⟨hx, hb, hml, hown, hts⟩, hr, hlk⟩ := X
  obtain ⟨q0, hq⟩ := xl_at hki
  intro d0 hd0 ls H locs hl hP hS
  have hx1 := xl_get (ad := ad) (S := S) hq
  rw [he] at hx1
  exact va_zald (D := D) (s := s.setDrawn d0) hx hb K.1 hP q0 t0 hx1 ht hin d (kk d0 hd0 ls H locs hl hP hS)
set_option maxHeartbeats 1000000 in
theorem x_lald {g : xG} {own : String} {cc : ByteArray} {ret : Option FieldType} {pc : Nat} {lvs : List (Nat × Value)} {st : List Value} (X : xOK g own cc ret) {D : va_G} {tys : List (ClassId × FieldType)} (K : xKK g D tys) {sh : xSh} {ad : Nat → Nat → Nat} {S : xS} {k i n t0 : Nat} {cA : ClassId} {f : Nat → Int64} {j : Int32} (hki : (k, i) ∈ sh.1) (he : sh.2 ad k i (S.1 k i) (S.2.1 k i) (S.2.2 k i) = .inl (cA, n, .inr (.inl f))) (ht : tys[t0]? = some (cA, .long)) (hin : vp_in j n) (d : decode cc pc = .ok (.laload, 1)) (kk : Wx g (xW D sh ad S) (pc + 1) lvs (.long (f j.toNatClampNeg) :: st)) : Wx g (xW D sh ad S) pc lvs (.int j :: .ref (ad k i) :: st) := by
  obtain ⟨p, l, e, R, s, m, args, below, meth, c, H0, A, Q, nL, kc, ks⟩ := g
  obtain ⟨⟨hx, hb, hml, hown, hts⟩, hr, hlk⟩ := X
  obtain ⟨q0, hq⟩ := xl_at hki
  intro d0 hd0 ls H locs hl hP hS
  have hx1 := xl_get (ad := ad) (S := S) hq
  rw [he] at hx1
  exact va_lald (D := D) (s := s.setDrawn d0) hx hb K.1 hP q0 t0 hx1 ht hin d (kk d0 hd0 ls H locs hl hP hS)
set_option maxHeartbeats 1000000 in
theorem x_aald {g : xG} {own : String} {cc : ByteArray} {ret : Option FieldType} {pc : Nat} {lvs : List (Nat × Value)} {st : List Value} (X : xOK g own cc ret) {D : va_G} {tys : List (ClassId × FieldType)} (K : xKK g D tys) {sh : xSh} {ad : Nat → Nat → Nat} {S : xS} {k i n t0 : Nat} {cA : ClassId} {f : Nat → Option Nat} {a : Nat} {ty : FieldType} {j : Int32} (hki : (k, i) ∈ sh.1) (he : sh.2 ad k i (S.1 k i) (S.2.1 k i) (S.2.2 k i) = .inl (cA, n, .inr (.inr (.inr (.inr f))))) (ht : tys[t0]? = some (cA, ty)) (hty : ty.isReference = true) (hin : vp_in j n) (hf : f j.toNatClampNeg = some a) (d : decode cc pc = .ok (.aaload, 1)) (kk : Wx g (xW D sh ad S) (pc + 1) lvs (.ref a :: st)) : Wx g (xW D sh ad S) pc lvs (.int j :: .ref (ad k i) :: st) := by
  obtain ⟨p, l, e, R, s, m, args, below, meth, c, H0, A, Q, nL, kc, ks⟩ := g
  obtain ⟨⟨hx, hb, hml, hown, hts⟩, hr, hlk⟩ := X
  obtain ⟨q0, hq⟩ := xl_at hki
  intro d0 hd0 ls H locs hl hP hS
  have hx1 := xl_get (ad := ad) (S := S) hq
  rw [he] at hx1
  have hlt : j.toNatClampNeg < n := Nat.not_le.mp fun q => hin (Or.inr q)
  have hv : va_rf (f j.toNatClampNeg) = .ref a := by rw [hf]; rfl
  exact W.aald (s := s.setDrawn d0) (v := .ref a) (ty := ty) hx hb (hP q0 _ hx1) ((K.1.2 t0 _ ht).1 n (fun j => va_rf (f j))) hty (fun q => by cases q) (by show ¬ (j < 0 ∨ (arrV _ _ _).slots.size ≤ _); rw [arrV_size]; exact hin) (by show (arrV _ _ _).slots[_]? = _; rw [arrV_read _ _ hlt, hv]) rfl rfl d (kk d0 hd0 ls H locs hl hP hS)
set_option maxHeartbeats 1000000 in
theorem x_iast {g : xG} {own : String} {cc : ByteArray} {ret : Option FieldType} {pc : Nat} {lvs : List (Nat × Value)} {st : List Value} (X : xOK g own cc ret) {D : va_G} {tys : List (ClassId × FieldType)} (K : xKK g D tys) {sh : xSh} {ad : Nat → Nat → Nat} {S : xS}(hi : xInj sh ad) (hA : xHA g sh ad) {k i n t0 : Nat} {cA : ClassId} {j x : Int32} (hki : (k, i) ∈ sh.1) (he : ∀ r : Nat → Int32, sh.2 ad k i r (S.2.1 k i) (S.2.2 k i) = .inl (cA, n, .inl r)) (ht : tys[t0]? = some (cA, .int)) (hin : vp_in j n) (d : decode cc pc = .ok (.iastore, 1)) (kk : Wx g (xW D sh ad (xI S k i j.toNatClampNeg x)) (pc + 1) lvs (st)) : Wx g (xW D sh ad S) pc lvs (.int x :: .int j :: .ref (ad k i) :: st) := by
  obtain ⟨p, l, e, R, s, m, args, below, meth, c, H0, A, Q, nL, kc, ks⟩ := g
  obtain ⟨⟨hx, hb, hml, hown, hts⟩, hr, hlk⟩ := X
  obtain ⟨q0, hq⟩ := xl_at hki
  intro d0 hd0 ls H locs hl hP hS
  have hx1 := xl_get (ad := ad) (S := S) hq
  rw [he] at hx1
  have hx2 : (xl sh ad S).set q0 (ad k i, .inl (cA, n, .inl (upd (S.1 k i) j.toNatClampNeg x))) = xl sh ad (xI S k i j.toNatClampNeg x) := xl_set hi.1 hq (by show _ = sh.2 ad k i (xRow _ k i _ k i) (S.2.1 k i) (S.2.2 k i); rw [xRow_self, he]; rfl) (fun q hne => ⟨xRow_ne _ _ _ _ hne, rfl, rfl⟩)
  refine va_iast (D := D) (s := s.setDrawn d0) hx hb K.1 hP (xD hi hA S) hS q0 t0 hx1 ht hin d (fun H1 locs1 hP1 _ hS1 => ?_)
  rw [hx2] at hP1
  exact kk d0 hd0 ls H1 locs1 hl hP1 hS1
set_option maxHeartbeats 1000000 in
theorem x_cast {g : xG} {own : String} {cc : ByteArray} {ret : Option FieldType} {pc : Nat} {lvs : List (Nat × Value)} {st : List Value} (X : xOK g own cc ret) {D : va_G} {tys : List (ClassId × FieldType)} (K : xKK g D tys) {sh : xSh} {ad : Nat → Nat → Nat} {S : xS}(hi : xInj sh ad) (hA : xHA g sh ad) {k i n t0 : Nat} {cA : ClassId} {j x : Int32} (hki : (k, i) ∈ sh.1) (he : ∀ r : Nat → Int32, sh.2 ad k i r (S.2.1 k i) (S.2.2 k i) = .inl (cA, n, .inl r)) (ht : tys[t0]? = some (cA, .char)) (hin : vp_in j n) (d : decode cc pc = .ok (.castore, 1)) (kk : Wx g (xW D sh ad (xI S k i j.toNatClampNeg (vp_nar .char x))) (pc + 1) lvs (st)) : Wx g (xW D sh ad S) pc lvs (.int x :: .int j :: .ref (ad k i) :: st) := by
  obtain ⟨p, l, e, R, s, m, args, below, meth, c, H0, A, Q, nL, kc, ks⟩ := g
  obtain ⟨⟨hx, hb, hml, hown, hts⟩, hr, hlk⟩ := X
  obtain ⟨q0, hq⟩ := xl_at hki
  intro d0 hd0 ls H locs hl hP hS
  have hx1 := xl_get (ad := ad) (S := S) hq
  rw [he] at hx1
  have hx2 : (xl sh ad S).set q0 (ad k i, .inl (cA, n, .inl (upd (S.1 k i) j.toNatClampNeg (vp_nar .char x)))) = xl sh ad (xI S k i j.toNatClampNeg (vp_nar .char x)) := xl_set hi.1 hq (by show _ = sh.2 ad k i (xRow _ k i _ k i) (S.2.1 k i) (S.2.2 k i); rw [xRow_self, he]; rfl) (fun q hne => ⟨xRow_ne _ _ _ _ hne, rfl, rfl⟩)
  refine va_cast (D := D) (s := s.setDrawn d0) hx hb K.1 hP (xD hi hA S) hS q0 t0 hx1 ht hin d (fun H1 locs1 hP1 _ hS1 => ?_)
  rw [hx2] at hP1
  exact kk d0 hd0 ls H1 locs1 hl hP1 hS1
set_option maxHeartbeats 1000000 in
theorem x_zast {g : xG} {own : String} {cc : ByteArray} {ret : Option FieldType} {pc : Nat} {lvs : List (Nat × Value)} {st : List Value} (X : xOK g own cc ret) {D : va_G} {tys : List (ClassId × FieldType)} (K : xKK g D tys) {sh : xSh} {ad : Nat → Nat → Nat} {S : xS}(hi : xInj sh ad) (hA : xHA g sh ad) {k i n t0 : Nat} {cA : ClassId} {j x : Int32} (hki : (k, i) ∈ sh.1) (he : ∀ r : Nat → Int32, sh.2 ad k i r (S.2.1 k i) (S.2.2 k i) = .inl (cA, n, .inl r)) (ht : tys[t0]? = some (cA, .boolean)) (hin : vp_in j n) (d : decode cc pc = .ok (.bastore, 1)) (kk : Wx g (xW D sh ad (xI S k i j.toNatClampNeg (vp_nar .boolean x))) (pc + 1) lvs (st)) : Wx g (xW D sh ad S) pc lvs (.int x :: .int j :: .ref (ad k i) :: st) := by
  obtain ⟨p, l, e, R, s, m, args, below, meth, c, H0, A, Q, nL, kc, ks⟩ := g
  obtain ⟨⟨hx, hb, hml, hown, hts⟩, hr, hlk⟩ := X
  obtain ⟨q0, hq⟩ := xl_at hki
  intro d0 hd0 ls H locs hl hP hS
  have hx1 := xl_get (ad := ad) (S := S) hq
  rw [he] at hx1
  have hx2 : (xl sh ad S).set q0 (ad k i, .inl (cA, n, .inl (upd (S.1 k i) j.toNatClampNeg (vp_nar .boolean x)))) = xl sh ad (xI S k i j.toNatClampNeg (vp_nar .boolean x)) := xl_set hi.1 hq (by show _ = sh.2 ad k i (xRow _ k i _ k i) (S.2.1 k i) (S.2.2 k i); rw [xRow_self, he]; rfl) (fun q hne => ⟨xRow_ne _ _ _ _ hne, rfl, rfl⟩)
  refine va_zast (D := D) (s := s.setDrawn d0) hx hb K.1 hP (xD hi hA S) hS q0 t0 hx1 ht hin d (fun H1 locs1 hP1 _ hS1 => ?_)
  rw [hx2] at hP1
  exact kk d0 hd0 ls H1 locs1 hl hP1 hS1
set_option maxHeartbeats 1000000 in
theorem x_last {g : xG} {own : String} {cc : ByteArray} {ret : Option FieldType} {pc : Nat} {lvs : List (Nat × Value)} {st : List Value} (X : xOK g own cc ret) {D : va_G} {tys : List (ClassId × FieldType)} (K : xKK g D tys) {sh : xSh} {ad : Nat → Nat → Nat} {S : xS}(hi : xInj sh ad) (hA : xHA g sh ad) {k i n t0 : Nat} {cA : ClassId} {j : Int32} {x : Int64} (hki : (k, i) ∈ sh.1) (he : ∀ r : Nat → Int64, sh.2 ad k i (S.1 k i) r (S.2.2 k i) = .inl (cA, n, .inr (.inl r))) (ht : tys[t0]? = some (cA, .long)) (hin : vp_in j n) (d : decode cc pc = .ok (.lastore, 1)) (kk : Wx g (xW D sh ad (xJ S k i j.toNatClampNeg x)) (pc + 1) lvs (st)) : Wx g (xW D sh ad S) pc lvs (.long x :: .int j :: .ref (ad k i) :: st) := by
  obtain ⟨p, l, e, R, s, m, args, below, meth, c, H0, A, Q, nL, kc, ks⟩ := g
  obtain ⟨⟨hx, hb, hml, hown, hts⟩, hr, hlk⟩ := X
  obtain ⟨q0, hq⟩ := xl_at hki
  intro d0 hd0 ls H locs hl hP hS
  have hx1 := xl_get (ad := ad) (S := S) hq
  rw [he] at hx1
  have hx2 : (xl sh ad S).set q0 (ad k i, .inl (cA, n, .inr (.inl (vp_updL (S.2.1 k i) j.toNatClampNeg x)))) = xl sh ad (xJ S k i j.toNatClampNeg x) := xl_set hi.1 hq (by show _ = sh.2 ad k i (S.1 k i) (xRow _ k i _ k i) (S.2.2 k i); rw [xRow_self, he]; rfl) (fun q hne => ⟨rfl, xRow_ne _ _ _ _ hne, rfl⟩)
  refine va_last (D := D) (s := s.setDrawn d0) hx hb K.1 hP (xD hi hA S) hS q0 t0 hx1 ht hin d (fun H1 locs1 hP1 _ hS1 => ?_)
  rw [hx2] at hP1
  exact kk d0 hd0 ls H1 locs1 hl hP1 hS1
set_option maxHeartbeats 1000000 in
theorem x_aast {g : xG} {own : String} {cc : ByteArray} {ret : Option FieldType} {pc : Nat} {lvs : List (Nat × Value)} {st : List Value} (X : xOK g own cc ret) {D : va_G} {tys : List (ClassId × FieldType)} (K : xKK g D tys) {sh : xSh} {ad : Nat → Nat → Nat} {S : xS}(hi : xInj sh ad) (hA : xHA g sh ad) {k i n t0 k2 i2 ci N : Nat} {cA : ClassId} {C : String} {T : u_T} {vs : List Value} {j : Int32} (hki : (k, i) ∈ sh.1) (hki2 : (k2, i2) ∈ sh.1) (he : ∀ r : Nat → Nat, sh.2 ad k i (S.1 k i) (S.2.1 k i) r = .inl (cA, n, .inr (.inr (.inr (.inr (fun j => some (ad k2 (r j)))))))) (he2 : sh.2 ad k2 i2 (S.1 k2 i2) (S.2.1 k2 i2) (S.2.2 k2 i2) = .inr (ci, vs)) (hc : vwCl[ci]? = some (C, T, N)) (ht : tys[t0]? = some (cA, .object C)) (hin : vp_in j n) (d : decode cc pc = .ok (.aastore, 1)) (kk : Wx g (xW D sh ad (xR S k i j.toNatClampNeg i2)) (pc + 1) lvs (st)) : Wx g (xW D sh ad S) pc lvs (.ref (ad k2 i2) :: .int j :: .ref (ad k i) :: st) := by
  obtain ⟨p, l, e, R, s, m, args, below, meth, c, H0, A, Q, nL, kc, ks⟩ := g
  obtain ⟨⟨hx, hb, hml, hown, hts⟩, hr, hlk⟩ := X
  obtain ⟨q0, hq⟩ := xl_at hki
  obtain ⟨q2, hq2⟩ := xl_at hki2
  intro d0 hd0 ls H locs hl hP hS
  have hx1 := xl_get (ad := ad) (S := S) hq
  rw [he] at hx1
  have hxk := xl_get (ad := ad) (S := S) hq2
  rw [he2] at hxk
  have hx2 : (xl sh ad S).set q0 (ad k i, .inl (cA, n, .inr (.inr (.inr (.inr (va_up (fun j => some (ad k2 (S.2.2 k i j))) j.toNatClampNeg (some (ad k2 i2)))))))) = xl sh ad (xR S k i j.toNatClampNeg i2) := xl_set hi.1 hq (by
    show _ = sh.2 ad k i (S.1 k i) (S.2.1 k i) (xRow _ k i _ k i)
    rw [xRow_self, he]
    congr 7
    funext z
    simp only [va_up, xU]
    split <;> rfl) (fun q hne => ⟨rfl, rfl, xRow_ne _ _ _ _ hne⟩)
  refine va_astq (D := D) (s := s.setDrawn d0) (r := (C, T, N)) hx hb K.1 hP (xD hi hA S) hS q0 t0 q2 ci hx1 ht hxk hc hin d (fun H1 locs1 hP1 _ hS1 => ?_)
  rw [hx2] at hP1
  exact kk d0 hd0 ls H1 locs1 hl hP1 hS1
set_option maxHeartbeats 1000000 in
theorem x_copyi {g : xG} {own : String} {cc : ByteArray} {ret : Option FieldType} {pc : Nat} {lvs : List (Nat × Value)} {st : List Value} (X : xOK g own cc ret) {D : va_G} {tys : List (ClassId × FieldType)} (K : xKK g D tys) {sh : xSh} {ad : Nat → Nat → Nat} {S : xS}(hi : xInj sh ad) (hA : xHA g sh ad) {fr lo k i n k0 i0 n0 t0 index : Nat} (hR : xRoom g fr lo) {cA : ClassId} {sp dp ln : Int32} (hki : (k, i) ∈ sh.1) (hki0 : (k0, i0) ∈ sh.1) (he : ∀ r : Nat → Int32, sh.2 ad k i r (S.2.1 k i) (S.2.2 k i) = .inl (cA, n, .inl r)) (he0 : sh.2 ad k0 i0 (S.1 k0 i0) (S.2.1 k0 i0) (S.2.2 k0 i0) = .inl (cA, n0, .inl (S.1 k0 i0))) (ht : tys[t0]? = some (cA, .int)) (h1 : ¬ sp < 0) (h2 : ¬ dp < 0) (h3 : ¬ ln < 0) (h4 : sp.toNatClampNeg + ln.toNatClampNeg ≤ n0) (h5 : dp.toNatClampNeg + ln.toNatClampNeg ≤ n) (hw1 : Cond.methodLink own index arraycopyName ∈ xWs) (hw2 : Cond.native arraycopyName ∈ xWs) (hw3 : Cond.static arraycopyName ∈ xWs) (hw4 : Cond.initialized "java/lang/System" ∈ xWs) (hfr : 1 ≤ fr) (hlo : (st.map fun v => v.category).sum + (nativeFrameWords "java/lang/System" "arraycopy" 5 + 11) ≤ lo) (d : decode cc pc = .ok (.invokestatic index, 3)) (kk : Wx g (xW D sh ad (xC S k i (va_cpy (S.1 k0 i0) (S.1 k i) sp.toNatClampNeg dp.toNatClampNeg ln.toNatClampNeg))) (pc + 3) lvs (st)) : Wx g (xW D sh ad S) pc lvs (.int ln :: .int dp :: .ref (ad k i) :: .int sp :: .ref (ad k0 i0) :: st) := by
  obtain ⟨p, l, e, R, s, m, args, below, meth, c, H0, A, Q, nL, kc, ks⟩ := g
  obtain ⟨⟨hx, hb, hml, hown, hts⟩, hr, hlk⟩ := X
  obtain ⟨q0, hq⟩ := xl_at hki
  obtain ⟨q2, hq2⟩ := xl_at hki0
  intro d0 hd0 ls H locs hl hP hS
  have hx1 := xl_get (ad := ad) (S := S) hq
  rw [he] at hx1
  have hxk := xl_get (ad := ad) (S := S) hq2
  rw [he0] at hxk
  have hx2 : (xl sh ad S).set q0 (ad k i, .inl (cA, n, .inl (va_cpy (S.1 k0 i0) (S.1 k i) sp.toNatClampNeg dp.toNatClampNeg ln.toNatClampNeg))) = xl sh ad (xC S k i (va_cpy (S.1 k0 i0) (S.1 k i) sp.toNatClampNeg dp.toNatClampNeg ln.toNatClampNeg)) := xl_set hi.1 hq (by show _ = sh.2 ad k i (xRow _ k i _ k i) (S.2.1 k i) (S.2.2 k i); rw [xRow_self, he]) (fun q hne => ⟨xRow_ne _ _ _ _ hne, rfl, rfl⟩)
  refine va_copyi (D := D) (s := s.setDrawn d0) (ty := .int) hx hb (hml.trans hl.1.symm) hown (dr_words hts d0 _ hw1) (dr_words hts d0 _ hw2) (dr_words hts d0 _ hw3) (dr_words hts d0 _ hw4) K.1 hP (xD hi hA S) hS q2 q0 t0 t0 hxk hx1 ht ht rfl h1 h2 h3 h4 h5 (fun _ _ => rfl) (Nat.le_trans hfr hR.1) (Nat.le_trans hlo hR.2.1) d (fun H1 locs1 hP1 _ hS1 => ?_)
  rw [hx2] at hP1
  exact kk d0 hd0 ls H1 locs1 hl hP1 hS1
