theorem x_iload_n {g : xG} {own : String} {cc : ByteArray} {ret : Option FieldType} {P : Heap → Prop} {pc : Nat} {lvs : List (Nat × Value)} {st : List Value} (X : xOK g own cc ret) {k : Fin 4} {x : Int32} (pos : Nat) (d : decode cc pc = .ok (.iload_n k, 1)) (hp : lvs[pos]? = some ((k : Nat), .int x)) (kk : Wx g P (pc + 1) lvs (.int x :: st)) : Wx g P pc lvs (st) := by
  obtain ⟨p, l, e, R, s, m, args, below, meth, c, H0, A, Q, nL, kc, ks⟩ := g
  obtain ⟨⟨hx, hb, hml, hown, hts⟩, hr, hlk⟩ := X
  intro d0 hd0 ls H locs hl hP hS
  exact lv_iload_n hx hb d rfl (lv_at hl pos hp) (kk d0 hd0 ls H locs hl hP hS)
theorem x_iload {g : xG} {own : String} {cc : ByteArray} {ret : Option FieldType} {P : Heap → Prop} {pc : Nat} {lvs : List (Nat × Value)} {st : List Value} (X : xOK g own cc ret) {k : Nat} {x : Int32} (pos : Nat) (d : decode cc pc = .ok (.iload k, 2)) (hp : lvs[pos]? = some (k, .int x)) (kk : Wx g P (pc + 2) lvs (.int x :: st)) : Wx g P pc lvs (st) := by
  obtain ⟨p, l, e, R, s, m, args, below, meth, c, H0, A, Q, nL, kc, ks⟩ := g
  obtain ⟨⟨hx, hb, hml, hown, hts⟩, hr, hlk⟩ := X
  intro d0 hd0 ls H locs hl hP hS
  exact lv_iload hx hb d (lv_at hl pos hp) (kk d0 hd0 ls H locs hl hP hS)
theorem x_aload_n {g : xG} {own : String} {cc : ByteArray} {ret : Option FieldType} {P : Heap → Prop} {pc : Nat} {lvs : List (Nat × Value)} {st : List Value} (X : xOK g own cc ret) {k : Fin 4} {x : Nat} (pos : Nat) (d : decode cc pc = .ok (.aload_n k, 1)) (hp : lvs[pos]? = some ((k : Nat), .ref x)) (kk : Wx g P (pc + 1) lvs (.ref x :: st)) : Wx g P pc lvs (st) := by
  obtain ⟨p, l, e, R, s, m, args, below, meth, c, H0, A, Q, nL, kc, ks⟩ := g
  obtain ⟨⟨hx, hb, hml, hown, hts⟩, hr, hlk⟩ := X
  intro d0 hd0 ls H locs hl hP hS
  exact lv_aload_n hx hb d rfl (lv_at hl pos hp) (kk d0 hd0 ls H locs hl hP hS)
theorem x_aload {g : xG} {own : String} {cc : ByteArray} {ret : Option FieldType} {P : Heap → Prop} {pc : Nat} {lvs : List (Nat × Value)} {st : List Value} (X : xOK g own cc ret) {k : Nat} {x : Nat} (pos : Nat) (d : decode cc pc = .ok (.aload k, 2)) (hp : lvs[pos]? = some (k, .ref x)) (kk : Wx g P (pc + 2) lvs (.ref x :: st)) : Wx g P pc lvs (st) := by
  obtain ⟨p, l, e, R, s, m, args, below, meth, c, H0, A, Q, nL, kc, ks⟩ := g
  obtain ⟨⟨hx, hb, hml, hown, hts⟩, hr, hlk⟩ := X
  intro d0 hd0 ls H locs hl hP hS
  exact lv_aload hx hb d (lv_at hl pos hp) (kk d0 hd0 ls H locs hl hP hS)
theorem x_lload_n {g : xG} {own : String} {cc : ByteArray} {ret : Option FieldType} {P : Heap → Prop} {pc : Nat} {lvs : List (Nat × Value)} {st : List Value} (X : xOK g own cc ret) {k : Fin 4} {x : Int64} (pos : Nat) (d : decode cc pc = .ok (.lload_n k, 1)) (hp : lvs[pos]? = some ((k : Nat), .long x)) (kk : Wx g P (pc + 1) lvs (.long x :: st)) : Wx g P pc lvs (st) := by
  obtain ⟨p, l, e, R, s, m, args, below, meth, c, H0, A, Q, nL, kc, ks⟩ := g
  obtain ⟨⟨hx, hb, hml, hown, hts⟩, hr, hlk⟩ := X
  intro d0 hd0 ls H locs hl hP hS
  exact lv_lload_n hx hb d rfl (lv_at hl pos hp) (kk d0 hd0 ls H locs hl hP hS)
theorem x_lload {g : xG} {own : String} {cc : ByteArray} {ret : Option FieldType} {P : Heap → Prop} {pc : Nat} {lvs : List (Nat × Value)} {st : List Value} (X : xOK g own cc ret) {k : Nat} {x : Int64} (pos : Nat) (d : decode cc pc = .ok (.lload k, 2)) (hp : lvs[pos]? = some (k, .long x)) (kk : Wx g P (pc + 2) lvs (.long x :: st)) : Wx g P pc lvs (st) := by
  obtain ⟨p, l, e, R, s, m, args, below, meth, c, H0, A, Q, nL, kc, ks⟩ := g
  obtain ⟨⟨hx, hb, hml, hown, hts⟩, hr, hlk⟩ := X
  intro d0 hd0 ls H locs hl hP hS
  exact lv_lload hx hb d (lv_at hl pos hp) (kk d0 hd0 ls H locs hl hP hS)
theorem x_dload_n {g : xG} {own : String} {cc : ByteArray} {ret : Option FieldType} {P : Heap → Prop} {pc : Nat} {lvs : List (Nat × Value)} {st : List Value} (X : xOK g own cc ret) {k : Fin 4} {x : UInt64} (pos : Nat) (d : decode cc pc = .ok (.dload_n k, 1)) (hp : lvs[pos]? = some ((k : Nat), .double x)) (kk : Wx g P (pc + 1) lvs (.double x :: st)) : Wx g P pc lvs (st) := by
  obtain ⟨p, l, e, R, s, m, args, below, meth, c, H0, A, Q, nL, kc, ks⟩ := g
  obtain ⟨⟨hx, hb, hml, hown, hts⟩, hr, hlk⟩ := X
  intro d0 hd0 ls H locs hl hP hS
  exact lv_dload_n hx hb d rfl (lv_at hl pos hp) (kk d0 hd0 ls H locs hl hP hS)
theorem x_dload {g : xG} {own : String} {cc : ByteArray} {ret : Option FieldType} {P : Heap → Prop} {pc : Nat} {lvs : List (Nat × Value)} {st : List Value} (X : xOK g own cc ret) {k : Nat} {x : UInt64} (pos : Nat) (d : decode cc pc = .ok (.dload k, 2)) (hp : lvs[pos]? = some (k, .double x)) (kk : Wx g P (pc + 2) lvs (.double x :: st)) : Wx g P pc lvs (st) := by
  obtain ⟨p, l, e, R, s, m, args, below, meth, c, H0, A, Q, nL, kc, ks⟩ := g
  obtain ⟨⟨hx, hb, hml, hown, hts⟩, hr, hlk⟩ := X
  intro d0 hd0 ls H locs hl hP hS
  exact lv_dload hx hb d (lv_at hl pos hp) (kk d0 hd0 ls H locs hl hP hS)
theorem x_istore_n {g : xG} {own : String} {cc : ByteArray} {ret : Option FieldType} {P : Heap → Prop} {pc : Nat} {lvs : List (Nat × Value)} {st : List Value} (X : xOK g own cc ret) {k : Fin 4} {x : Int32} (lv' : List (Nat × Value)) (d : decode cc pc = .ok (.istore_n k, 1)) (hn : (k : Nat) < g.2.2.2.2.2.2.2.2.2.2.2.2.2.1) (hlv : ((k : Nat), Value.int x) :: lvs.filter (fun q => !(q.1 == (k : Nat)) && !(q.1 + 1 == (k : Nat) && q.2.category == 2)) = lv') (kk : Wx g P (pc + 1) lv' (st)) : Wx g P pc lvs (.int x :: st) := by
  obtain ⟨p, l, e, R, s, m, args, below, meth, c, H0, A, Q, nL, kc, ks⟩ := g
  obtain ⟨⟨hx, hb, hml, hown, hts⟩, hr, hlk⟩ := X
  intro d0 hd0 ls H locs hl hP hS
  exact lv_istore_n hx hb d rfl hl hn hlv (fun ls hl => kk d0 hd0 ls H locs hl hP hS)
theorem x_istore {g : xG} {own : String} {cc : ByteArray} {ret : Option FieldType} {P : Heap → Prop} {pc : Nat} {lvs : List (Nat × Value)} {st : List Value} (X : xOK g own cc ret) {k : Nat} {x : Int32} (lv' : List (Nat × Value)) (d : decode cc pc = .ok (.istore k, 2)) (hn : (k : Nat) < g.2.2.2.2.2.2.2.2.2.2.2.2.2.1) (hlv : (k, Value.int x) :: lvs.filter (fun q => !(q.1 == k) && !(q.1 + 1 == k && q.2.category == 2)) = lv') (kk : Wx g P (pc + 2) lv' (st)) : Wx g P pc lvs (.int x :: st) := by
  obtain ⟨p, l, e, R, s, m, args, below, meth, c, H0, A, Q, nL, kc, ks⟩ := g
  obtain ⟨⟨hx, hb, hml, hown, hts⟩, hr, hlk⟩ := X
  intro d0 hd0 ls H locs hl hP hS
  exact lv_istore hx hb d hl hn hlv (fun ls hl => kk d0 hd0 ls H locs hl hP hS)
theorem x_astore_n {g : xG} {own : String} {cc : ByteArray} {ret : Option FieldType} {P : Heap → Prop} {pc : Nat} {lvs : List (Nat × Value)} {st : List Value} (X : xOK g own cc ret) {k : Fin 4} {x : Nat} (lv' : List (Nat × Value)) (d : decode cc pc = .ok (.astore_n k, 1)) (hn : (k : Nat) < g.2.2.2.2.2.2.2.2.2.2.2.2.2.1) (hlv : ((k : Nat), Value.ref x) :: lvs.filter (fun q => !(q.1 == (k : Nat)) && !(q.1 + 1 == (k : Nat) && q.2.category == 2)) = lv') (kk : Wx g P (pc + 1) lv' (st)) : Wx g P pc lvs (.ref x :: st) := by
  obtain ⟨p, l, e, R, s, m, args, below, meth, c, H0, A, Q, nL, kc, ks⟩ := g
  obtain ⟨⟨hx, hb, hml, hown, hts⟩, hr, hlk⟩ := X
  intro d0 hd0 ls H locs hl hP hS
  exact lv_astore_n hx hb d rfl hl hn hlv (fun ls hl => kk d0 hd0 ls H locs hl hP hS)
theorem x_astore {g : xG} {own : String} {cc : ByteArray} {ret : Option FieldType} {P : Heap → Prop} {pc : Nat} {lvs : List (Nat × Value)} {st : List Value} (X : xOK g own cc ret) {k : Nat} {x : Nat} (lv' : List (Nat × Value)) (d : decode cc pc = .ok (.astore k, 2)) (hn : (k : Nat) < g.2.2.2.2.2.2.2.2.2.2.2.2.2.1) (hlv : (k, Value.ref x) :: lvs.filter (fun q => !(q.1 == k) && !(q.1 + 1 == k && q.2.category == 2)) = lv') (kk : Wx g P (pc + 2) lv' (st)) : Wx g P pc lvs (.ref x :: st) := by
  obtain ⟨p, l, e, R, s, m, args, below, meth, c, H0, A, Q, nL, kc, ks⟩ := g
  obtain ⟨⟨hx, hb, hml, hown, hts⟩, hr, hlk⟩ := X
  intro d0 hd0 ls H locs hl hP hS
  exact lv_astore hx hb d hl hn hlv (fun ls hl => kk d0 hd0 ls H locs hl hP hS)
theorem x_lstore_n {g : xG} {own : String} {cc : ByteArray} {ret : Option FieldType} {P : Heap → Prop} {pc : Nat} {lvs : List (Nat × Value)} {st : List Value} (X : xOK g own cc ret) {k : Fin 4} {x : Int64} (lv' : List (Nat × Value)) (d : decode cc pc = .ok (.lstore_n k, 1)) (hn : (k : Nat) + 1 < g.2.2.2.2.2.2.2.2.2.2.2.2.2.1) (hlv : ((k : Nat), Value.long x) :: lvs.filter (fun q => !(q.1 == (k : Nat)) && (!(q.1 == (k : Nat) + 1) && !(q.1 + 1 == (k : Nat) && q.2.category == 2))) = lv') (kk : Wx g P (pc + 1) lv' (st)) : Wx g P pc lvs (.long x :: st) := by
  obtain ⟨p, l, e, R, s, m, args, below, meth, c, H0, A, Q, nL, kc, ks⟩ := g
  obtain ⟨⟨hx, hb, hml, hown, hts⟩, hr, hlk⟩ := X
  intro d0 hd0 ls H locs hl hP hS
  exact lv_lstore_n hx hb d rfl hl hn hlv (fun ls hl => kk d0 hd0 ls H locs hl hP hS)
theorem x_lstore {g : xG} {own : String} {cc : ByteArray} {ret : Option FieldType} {P : Heap → Prop} {pc : Nat} {lvs : List (Nat × Value)} {st : List Value} (X : xOK g own cc ret) {k : Nat} {x : Int64} (lv' : List (Nat × Value)) (d : decode cc pc = .ok (.lstore k, 2)) (hn : (k : Nat) + 1 < g.2.2.2.2.2.2.2.2.2.2.2.2.2.1) (hlv : (k, Value.long x) :: lvs.filter (fun q => !(q.1 == k) && (!(q.1 == k + 1) && !(q.1 + 1 == k && q.2.category == 2))) = lv') (kk : Wx g P (pc + 2) lv' (st)) : Wx g P pc lvs (.long x :: st) := by
  obtain ⟨p, l, e, R, s, m, args, below, meth, c, H0, A, Q, nL, kc, ks⟩ := g
  obtain ⟨⟨hx, hb, hml, hown, hts⟩, hr, hlk⟩ := X
  intro d0 hd0 ls H locs hl hP hS
  exact lv_lstore hx hb d hl hn hlv (fun ls hl => kk d0 hd0 ls H locs hl hP hS)
theorem x_dstore_n {g : xG} {own : String} {cc : ByteArray} {ret : Option FieldType} {P : Heap → Prop} {pc : Nat} {lvs : List (Nat × Value)} {st : List Value} (X : xOK g own cc ret) {k : Fin 4} {x : UInt64} (lv' : List (Nat × Value)) (d : decode cc pc = .ok (.dstore_n k, 1)) (hn : (k : Nat) + 1 < g.2.2.2.2.2.2.2.2.2.2.2.2.2.1) (hlv : ((k : Nat), Value.double x) :: lvs.filter (fun q => !(q.1 == (k : Nat)) && (!(q.1 == (k : Nat) + 1) && !(q.1 + 1 == (k : Nat) && q.2.category == 2))) = lv') (kk : Wx g P (pc + 1) lv' (st)) : Wx g P pc lvs (.double x :: st) := by
  obtain ⟨p, l, e, R, s, m, args, below, meth, c, H0, A, Q, nL, kc, ks⟩ := g
  obtain ⟨⟨hx, hb, hml, hown, hts⟩, hr, hlk⟩ := X
  intro d0 hd0 ls H locs hl hP hS
  exact lv_dstore_n hx hb d rfl hl hn hlv (fun ls hl => kk d0 hd0 ls H locs hl hP hS)
theorem x_dstore {g : xG} {own : String} {cc : ByteArray} {ret : Option FieldType} {P : Heap → Prop} {pc : Nat} {lvs : List (Nat × Value)} {st : List Value} (X : xOK g own cc ret) {k : Nat} {x : UInt64} (lv' : List (Nat × Value)) (d : decode cc pc = .ok (.dstore k, 2)) (hn : (k : Nat) + 1 < g.2.2.2.2.2.2.2.2.2.2.2.2.2.1) (hlv : (k, Value.double x) :: lvs.filter (fun q => !(q.1 == k) && (!(q.1 == k + 1) && !(q.1 + 1 == k && q.2.category == 2))) = lv') (kk : Wx g P (pc + 2) lv' (st)) : Wx g P pc lvs (.double x :: st) := by
  obtain ⟨p, l, e, R, s, m, args, below, meth, c, H0, A, Q, nL, kc, ks⟩ := g
  obtain ⟨⟨hx, hb, hml, hown, hts⟩, hr, hlk⟩ := X
  intro d0 hd0 ls H locs hl hP hS
  exact lv_dstore hx hb d hl hn hlv (fun ls hl => kk d0 hd0 ls H locs hl hP hS)
theorem x_iinc {g : xG} {own : String} {cc : ByteArray} {ret : Option FieldType} {P : Heap → Prop} {pc : Nat} {lvs : List (Nat × Value)} {st : List Value} (X : xOK g own cc ret) {k : Nat} {n : Int} {x v : Int32} (pos : Nat) (lv' : List (Nat × Value)) (d : decode cc pc = .ok (.iinc k n, 3)) (hp : lvs[pos]? = some (k, .int x)) (hv : x + Int32.ofInt n = v) (hn : (k : Nat) < g.2.2.2.2.2.2.2.2.2.2.2.2.2.1) (hlv : (k, Value.int v) :: lvs.filter (fun q => !(q.1 == k) && !(q.1 + 1 == k && q.2.category == 2)) = lv') (kk : Wx g P (pc + 3) lv' (st)) : Wx g P pc lvs (st) := by
  obtain ⟨p, l, e, R, s, m, args, below, meth, c, H0, A, Q, nL, kc, ks⟩ := g
  obtain ⟨⟨hx, hb, hml, hown, hts⟩, hr, hlk⟩ := X
  intro d0 hd0 ls H locs hl hP hS
  exact lv_iinc hx hb d hl hp hv hn hlv (fun ls hl => kk d0 hd0 ls H locs hl hP hS)
theorem x_iincW {g : xG} {own : String} {cc : ByteArray} {ret : Option FieldType} {P : Heap → Prop} {pc : Nat} {lvs : List (Nat × Value)} {st : List Value} (X : xOK g own cc ret) {k : Nat} {n : Int} {x v : Int32} (pos : Nat) (lv' : List (Nat × Value)) (d : decode cc pc = .ok (.iinc k n, 6)) (hp : lvs[pos]? = some (k, .int x)) (hv : x + Int32.ofInt n = v) (hn : (k : Nat) < g.2.2.2.2.2.2.2.2.2.2.2.2.2.1) (hlv : (k, Value.int v) :: lvs.filter (fun q => !(q.1 == k) && !(q.1 + 1 == k && q.2.category == 2)) = lv') (kk : Wx g P (pc + 6) lv' (st)) : Wx g P pc lvs (st) := by
  obtain ⟨p, l, e, R, s, m, args, below, meth, c, H0, A, Q, nL, kc, ks⟩ := g
  obtain ⟨⟨hx, hb, hml, hown, hts⟩, hr, hlk⟩ := X
  intro d0 hd0 ls H locs hl hP hS
  exact lv_iincW hx hb d hl hp hv hn hlv (fun ls hl => kk d0 hd0 ls H locs hl hP hS)
theorem x_iconst {g : xG} {own : String} {cc : ByteArray} {ret : Option FieldType} {P : Heap → Prop} {pc : Nat} {lvs : List (Nat × Value)} {st : List Value} (X : xOK g own cc ret) {n : Int} {v : Int32} (d : decode cc pc = .ok (.iconst n, 1)) (hv : Int32.ofInt n = v) (kk : Wx g P (pc + 1) lvs (.int v :: st)) : Wx g P pc lvs (st) := by
  obtain ⟨p, l, e, R, s, m, args, below, meth, c, H0, A, Q, nL, kc, ks⟩ := g
  obtain ⟨⟨hx, hb, hml, hown, hts⟩, hr, hlk⟩ := X
  intro d0 hd0 ls H locs hl hP hS
  exact lv_iconst hx hb d hv (kk d0 hd0 ls H locs hl hP hS)
theorem x_bipush {g : xG} {own : String} {cc : ByteArray} {ret : Option FieldType} {P : Heap → Prop} {pc : Nat} {lvs : List (Nat × Value)} {st : List Value} (X : xOK g own cc ret) {n : Int} {v : Int32} (d : decode cc pc = .ok (.bipush n, 2)) (hv : (Int8.ofInt n).toInt32 = v) (kk : Wx g P (pc + 2) lvs (.int v :: st)) : Wx g P pc lvs (st) := by
  obtain ⟨p, l, e, R, s, m, args, below, meth, c, H0, A, Q, nL, kc, ks⟩ := g
  obtain ⟨⟨hx, hb, hml, hown, hts⟩, hr, hlk⟩ := X
  intro d0 hd0 ls H locs hl hP hS
  exact lv_bipush hx hb d hv (kk d0 hd0 ls H locs hl hP hS)
theorem x_sipush {g : xG} {own : String} {cc : ByteArray} {ret : Option FieldType} {P : Heap → Prop} {pc : Nat} {lvs : List (Nat × Value)} {st : List Value} (X : xOK g own cc ret) {n : Int} {v : Int32} (d : decode cc pc = .ok (.sipush n, 3)) (hv : (Int16.ofInt n).toInt32 = v) (kk : Wx g P (pc + 3) lvs (.int v :: st)) : Wx g P pc lvs (st) := by
  obtain ⟨p, l, e, R, s, m, args, below, meth, c, H0, A, Q, nL, kc, ks⟩ := g
  obtain ⟨⟨hx, hb, hml, hown, hts⟩, hr, hlk⟩ := X
  intro d0 hd0 ls H locs hl hP hS
  exact lv_sipush hx hb d hv (kk d0 hd0 ls H locs hl hP hS)
theorem x_lconst {g : xG} {own : String} {cc : ByteArray} {ret : Option FieldType} {P : Heap → Prop} {pc : Nat} {lvs : List (Nat × Value)} {st : List Value} (X : xOK g own cc ret) {n : Fin 2} {v : Int64} (d : decode cc pc = .ok (.lconst n, 1)) (hv : Int64.ofNat (n : Nat) = v) (kk : Wx g P (pc + 1) lvs (.long v :: st)) : Wx g P pc lvs (st) := by
  obtain ⟨p, l, e, R, s, m, args, below, meth, c, H0, A, Q, nL, kc, ks⟩ := g
  obtain ⟨⟨hx, hb, hml, hown, hts⟩, hr, hlk⟩ := X
  intro d0 hd0 ls H locs hl hP hS
  exact lv_lconst hx hb d hv (kk d0 hd0 ls H locs hl hP hS)
theorem x_ldc {g : xG} {own : String} {cc : ByteArray} {ret : Option FieldType} {P : Heap → Prop} {pc : Nat} {lvs : List (Nat × Value)} {st : List Value} (X : xOK g own cc ret) {i : Nat} {v : Int32} (w : Cond.constant own i v ∈ xWs) (d : decode cc pc = .ok (.ldc i, 2)) (kk : Wx g P (pc + 2) lvs (.int v :: st)) : Wx g P pc lvs (st) := by
  obtain ⟨p, l, e, R, s, m, args, below, meth, c, H0, A, Q, nL, kc, ks⟩ := g
  obtain ⟨⟨hx, hb, hml, hown, hts⟩, hr, hlk⟩ := X
  intro d0 hd0 ls H locs hl hP hS
  exact lv_ldc hx hb hown (dr_words hts d0 _ w) d (kk d0 hd0 ls H locs hl hP hS)
theorem x_ldc_w {g : xG} {own : String} {cc : ByteArray} {ret : Option FieldType} {P : Heap → Prop} {pc : Nat} {lvs : List (Nat × Value)} {st : List Value} (X : xOK g own cc ret) {i : Nat} {v : Int32} (w : Cond.constant own i v ∈ xWs) (d : decode cc pc = .ok (.ldc_w i, 3)) (kk : Wx g P (pc + 3) lvs (.int v :: st)) : Wx g P pc lvs (st) := by
  obtain ⟨p, l, e, R, s, m, args, below, meth, c, H0, A, Q, nL, kc, ks⟩ := g
  obtain ⟨⟨hx, hb, hml, hown, hts⟩, hr, hlk⟩ := X
  intro d0 hd0 ls H locs hl hP hS
  exact lv_ldcw hx hb hown (dr_words hts d0 _ w) d (kk d0 hd0 ls H locs hl hP hS)
theorem x_ldc2 {g : xG} {own : String} {cc : ByteArray} {ret : Option FieldType} {P : Heap → Prop} {pc : Nat} {lvs : List (Nat × Value)} {st : List Value} (X : xOK g own cc ret) {i : Nat} {v : Int64} (w : Cond.constantLong own i v ∈ xWs) (d : decode cc pc = .ok (.ldc2_w i, 3)) (kk : Wx g P (pc + 3) lvs (.long v :: st)) : Wx g P pc lvs (st) := by
  obtain ⟨p, l, e, R, s, m, args, below, meth, c, H0, A, Q, nL, kc, ks⟩ := g
  obtain ⟨⟨hx, hb, hml, hown, hts⟩, hr, hlk⟩ := X
  intro d0 hd0 ls H locs hl hP hS
  exact lv_ldc2 hx hb hown (dr_words hts d0 _ w) d (kk d0 hd0 ls H locs hl hP hS)
theorem x_ldc2d {g : xG} {own : String} {cc : ByteArray} {ret : Option FieldType} {P : Heap → Prop} {pc : Nat} {lvs : List (Nat × Value)} {st : List Value} (X : xOK g own cc ret) {i : Nat} {v : UInt64} (w : Cond.constantDouble own i v ∈ xWs) (d : decode cc pc = .ok (.ldc2_w i, 3)) (kk : Wx g P (pc + 3) lvs (.double v :: st)) : Wx g P pc lvs (st) := by
  obtain ⟨p, l, e, R, s, m, args, below, meth, c, H0, A, Q, nL, kc, ks⟩ := g
  obtain ⟨⟨hx, hb, hml, hown, hts⟩, hr, hlk⟩ := X
  intro d0 hd0 ls H locs hl hP hS
  exact lv_ldc2d hx hb hown (dr_words hts d0 _ w) d (kk d0 hd0 ls H locs hl hP hS)
theorem x_iadd {g : xG} {own : String} {cc : ByteArray} {ret : Option FieldType} {P : Heap → Prop} {pc : Nat} {lvs : List (Nat × Value)} {st : List Value} (X : xOK g own cc ret) {x y : Int32} (d : decode cc pc = .ok (.iadd, 1)) (kk : Wx g P (pc + 1) lvs (.int (x + y) :: st)) : Wx g P pc lvs (.int y :: .int x :: st) := by
  obtain ⟨p, l, e, R, s, m, args, below, meth, c, H0, A, Q, nL, kc, ks⟩ := g
  obtain ⟨⟨hx, hb, hml, hown, hts⟩, hr, hlk⟩ := X
  intro d0 hd0 ls H locs hl hP hS
  exact lv_iadd hx hb d (kk d0 hd0 ls H locs hl hP hS)
theorem x_isub {g : xG} {own : String} {cc : ByteArray} {ret : Option FieldType} {P : Heap → Prop} {pc : Nat} {lvs : List (Nat × Value)} {st : List Value} (X : xOK g own cc ret) {x y : Int32} (d : decode cc pc = .ok (.isub, 1)) (kk : Wx g P (pc + 1) lvs (.int (x - y) :: st)) : Wx g P pc lvs (.int y :: .int x :: st) := by
  obtain ⟨p, l, e, R, s, m, args, below, meth, c, H0, A, Q, nL, kc, ks⟩ := g
  obtain ⟨⟨hx, hb, hml, hown, hts⟩, hr, hlk⟩ := X
  intro d0 hd0 ls H locs hl hP hS
  exact lv_isub hx hb d (kk d0 hd0 ls H locs hl hP hS)
theorem x_imul {g : xG} {own : String} {cc : ByteArray} {ret : Option FieldType} {P : Heap → Prop} {pc : Nat} {lvs : List (Nat × Value)} {st : List Value} (X : xOK g own cc ret) {x y : Int32} (d : decode cc pc = .ok (.imul, 1)) (kk : Wx g P (pc + 1) lvs (.int (x * y) :: st)) : Wx g P pc lvs (.int y :: .int x :: st) := by
  obtain ⟨p, l, e, R, s, m, args, below, meth, c, H0, A, Q, nL, kc, ks⟩ := g
  obtain ⟨⟨hx, hb, hml, hown, hts⟩, hr, hlk⟩ := X
  intro d0 hd0 ls H locs hl hP hS
  exact lv_imul hx hb d (kk d0 hd0 ls H locs hl hP hS)
theorem x_iand {g : xG} {own : String} {cc : ByteArray} {ret : Option FieldType} {P : Heap → Prop} {pc : Nat} {lvs : List (Nat × Value)} {st : List Value} (X : xOK g own cc ret) {x y : Int32} (d : decode cc pc = .ok (.iand, 1)) (kk : Wx g P (pc + 1) lvs (.int (x &&& y) :: st)) : Wx g P pc lvs (.int y :: .int x :: st) := by
  obtain ⟨p, l, e, R, s, m, args, below, meth, c, H0, A, Q, nL, kc, ks⟩ := g
  obtain ⟨⟨hx, hb, hml, hown, hts⟩, hr, hlk⟩ := X
  intro d0 hd0 ls H locs hl hP hS
  exact lv_iand hx hb d (kk d0 hd0 ls H locs hl hP hS)
theorem x_ior {g : xG} {own : String} {cc : ByteArray} {ret : Option FieldType} {P : Heap → Prop} {pc : Nat} {lvs : List (Nat × Value)} {st : List Value} (X : xOK g own cc ret) {x y : Int32} (d : decode cc pc = .ok (.ior, 1)) (kk : Wx g P (pc + 1) lvs (.int (x ||| y) :: st)) : Wx g P pc lvs (.int y :: .int x :: st) := by
  obtain ⟨p, l, e, R, s, m, args, below, meth, c, H0, A, Q, nL, kc, ks⟩ := g
  obtain ⟨⟨hx, hb, hml, hown, hts⟩, hr, hlk⟩ := X
  intro d0 hd0 ls H locs hl hP hS
  exact lv_ior hx hb d (kk d0 hd0 ls H locs hl hP hS)
theorem x_ixor {g : xG} {own : String} {cc : ByteArray} {ret : Option FieldType} {P : Heap → Prop} {pc : Nat} {lvs : List (Nat × Value)} {st : List Value} (X : xOK g own cc ret) {x y : Int32} (d : decode cc pc = .ok (.ixor, 1)) (kk : Wx g P (pc + 1) lvs (.int (x ^^^ y) :: st)) : Wx g P pc lvs (.int y :: .int x :: st) := by
  obtain ⟨p, l, e, R, s, m, args, below, meth, c, H0, A, Q, nL, kc, ks⟩ := g
  obtain ⟨⟨hx, hb, hml, hown, hts⟩, hr, hlk⟩ := X
  intro d0 hd0 ls H locs hl hP hS
  exact lv_ixor hx hb d (kk d0 hd0 ls H locs hl hP hS)
theorem x_ishl {g : xG} {own : String} {cc : ByteArray} {ret : Option FieldType} {P : Heap → Prop} {pc : Nat} {lvs : List (Nat × Value)} {st : List Value} (X : xOK g own cc ret) {x y : Int32} (d : decode cc pc = .ok (.ishl, 1)) (kk : Wx g P (pc + 1) lvs (.int (x <<< (y &&& 31)) :: st)) : Wx g P pc lvs (.int y :: .int x :: st) := by
  obtain ⟨p, l, e, R, s, m, args, below, meth, c, H0, A, Q, nL, kc, ks⟩ := g
  obtain ⟨⟨hx, hb, hml, hown, hts⟩, hr, hlk⟩ := X
  intro d0 hd0 ls H locs hl hP hS
  exact lv_ishl hx hb d (kk d0 hd0 ls H locs hl hP hS)
theorem x_ishr {g : xG} {own : String} {cc : ByteArray} {ret : Option FieldType} {P : Heap → Prop} {pc : Nat} {lvs : List (Nat × Value)} {st : List Value} (X : xOK g own cc ret) {x y : Int32} (d : decode cc pc = .ok (.ishr, 1)) (kk : Wx g P (pc + 1) lvs (.int (x >>> (y &&& 31)) :: st)) : Wx g P pc lvs (.int y :: .int x :: st) := by
  obtain ⟨p, l, e, R, s, m, args, below, meth, c, H0, A, Q, nL, kc, ks⟩ := g
  obtain ⟨⟨hx, hb, hml, hown, hts⟩, hr, hlk⟩ := X
  intro d0 hd0 ls H locs hl hP hS
  exact lv_ishr hx hb d (kk d0 hd0 ls H locs hl hP hS)
theorem x_iushr {g : xG} {own : String} {cc : ByteArray} {ret : Option FieldType} {P : Heap → Prop} {pc : Nat} {lvs : List (Nat × Value)} {st : List Value} (X : xOK g own cc ret) {x y : Int32} (d : decode cc pc = .ok (.iushr, 1)) (kk : Wx g P (pc + 1) lvs (.int ((x.toUInt32 >>> (y.toUInt32 &&& Int32.toUInt32 31)).toInt32) :: st)) : Wx g P pc lvs (.int y :: .int x :: st) := by
  obtain ⟨p, l, e, R, s, m, args, below, meth, c, H0, A, Q, nL, kc, ks⟩ := g
  obtain ⟨⟨hx, hb, hml, hown, hts⟩, hr, hlk⟩ := X
  intro d0 hd0 ls H locs hl hP hS
  exact lv_iushr hx hb d rfl (kk d0 hd0 ls H locs hl hP hS)
theorem x_ineg {g : xG} {own : String} {cc : ByteArray} {ret : Option FieldType} {P : Heap → Prop} {pc : Nat} {lvs : List (Nat × Value)} {st : List Value} (X : xOK g own cc ret) {x : Int32} (d : decode cc pc = .ok (.ineg, 1)) (kk : Wx g P (pc + 1) lvs (.int (-x) :: st)) : Wx g P pc lvs (.int x :: st) := by
  obtain ⟨p, l, e, R, s, m, args, below, meth, c, H0, A, Q, nL, kc, ks⟩ := g
  obtain ⟨⟨hx, hb, hml, hown, hts⟩, hr, hlk⟩ := X
  intro d0 hd0 ls H locs hl hP hS
  exact lv_ineg hx hb d (kk d0 hd0 ls H locs hl hP hS)
theorem x_irem {g : xG} {own : String} {cc : ByteArray} {ret : Option FieldType} {P : Heap → Prop} {pc : Nat} {lvs : List (Nat × Value)} {st : List Value} (X : xOK g own cc ret) {x y : Int32} (d : decode cc pc = .ok (.irem, 1)) (hy : ¬ y = 0) (kk : Wx g P (pc + 1) lvs (.int (x - x / y * y) :: st)) : Wx g P pc lvs (.int y :: .int x :: st) := by
  obtain ⟨p, l, e, R, s, m, args, below, meth, c, H0, A, Q, nL, kc, ks⟩ := g
  obtain ⟨⟨hx, hb, hml, hown, hts⟩, hr, hlk⟩ := X
  intro d0 hd0 ls H locs hl hP hS
  exact lv_irem hx hb d hy (kk d0 hd0 ls H locs hl hP hS)
theorem x_ladd {g : xG} {own : String} {cc : ByteArray} {ret : Option FieldType} {P : Heap → Prop} {pc : Nat} {lvs : List (Nat × Value)} {st : List Value} (X : xOK g own cc ret) {x y : Int64} (d : decode cc pc = .ok (.ladd, 1)) (kk : Wx g P (pc + 1) lvs (.long (x + y) :: st)) : Wx g P pc lvs (.long y :: .long x :: st) := by
  obtain ⟨p, l, e, R, s, m, args, below, meth, c, H0, A, Q, nL, kc, ks⟩ := g
  obtain ⟨⟨hx, hb, hml, hown, hts⟩, hr, hlk⟩ := X
  intro d0 hd0 ls H locs hl hP hS
  exact lv_ladd hx hb d (kk d0 hd0 ls H locs hl hP hS)
theorem x_lsub {g : xG} {own : String} {cc : ByteArray} {ret : Option FieldType} {P : Heap → Prop} {pc : Nat} {lvs : List (Nat × Value)} {st : List Value} (X : xOK g own cc ret) {x y : Int64} (d : decode cc pc = .ok (.lsub, 1)) (kk : Wx g P (pc + 1) lvs (.long (x - y) :: st)) : Wx g P pc lvs (.long y :: .long x :: st) := by
  obtain ⟨p, l, e, R, s, m, args, below, meth, c, H0, A, Q, nL, kc, ks⟩ := g
  obtain ⟨⟨hx, hb, hml, hown, hts⟩, hr, hlk⟩ := X
  intro d0 hd0 ls H locs hl hP hS
  exact lv_lsub hx hb d (kk d0 hd0 ls H locs hl hP hS)
theorem x_lmul {g : xG} {own : String} {cc : ByteArray} {ret : Option FieldType} {P : Heap → Prop} {pc : Nat} {lvs : List (Nat × Value)} {st : List Value} (X : xOK g own cc ret) {x y : Int64} (d : decode cc pc = .ok (.lmul, 1)) (kk : Wx g P (pc + 1) lvs (.long (x * y) :: st)) : Wx g P pc lvs (.long y :: .long x :: st) := by
  obtain ⟨p, l, e, R, s, m, args, below, meth, c, H0, A, Q, nL, kc, ks⟩ := g
  obtain ⟨⟨hx, hb, hml, hown, hts⟩, hr, hlk⟩ := X
  intro d0 hd0 ls H locs hl hP hS
  exact lv_lmul hx hb d (kk d0 hd0 ls H locs hl hP hS)
theorem x_lxor {g : xG} {own : String} {cc : ByteArray} {ret : Option FieldType} {P : Heap → Prop} {pc : Nat} {lvs : List (Nat × Value)} {st : List Value} (X : xOK g own cc ret) {x y : Int64} (d : decode cc pc = .ok (.lxor, 1)) (kk : Wx g P (pc + 1) lvs (.long (x ^^^ y) :: st)) : Wx g P pc lvs (.long y :: .long x :: st) := by
  obtain ⟨p, l, e, R, s, m, args, below, meth, c, H0, A, Q, nL, kc, ks⟩ := g
  obtain ⟨⟨hx, hb, hml, hown, hts⟩, hr, hlk⟩ := X
  intro d0 hd0 ls H locs hl hP hS
  exact lv_lxor hx hb d (kk d0 hd0 ls H locs hl hP hS)
theorem x_ldiv {g : xG} {own : String} {cc : ByteArray} {ret : Option FieldType} {P : Heap → Prop} {pc : Nat} {lvs : List (Nat × Value)} {st : List Value} (X : xOK g own cc ret) {x y : Int64} (d : decode cc pc = .ok (.ldiv, 1)) (hy : ¬ y = 0) (kk : Wx g P (pc + 1) lvs (.long (x / y) :: st)) : Wx g P pc lvs (.long y :: .long x :: st) := by
  obtain ⟨p, l, e, R, s, m, args, below, meth, c, H0, A, Q, nL, kc, ks⟩ := g
  obtain ⟨⟨hx, hb, hml, hown, hts⟩, hr, hlk⟩ := X
  intro d0 hd0 ls H locs hl hP hS
  exact lv_ldiv hx hb d hy (kk d0 hd0 ls H locs hl hP hS)
theorem x_i2l {g : xG} {own : String} {cc : ByteArray} {ret : Option FieldType} {P : Heap → Prop} {pc : Nat} {lvs : List (Nat × Value)} {st : List Value} (X : xOK g own cc ret) {x : Int32} (d : decode cc pc = .ok (.i2l, 1)) (kk : Wx g P (pc + 1) lvs (.long x.toInt64 :: st)) : Wx g P pc lvs (.int x :: st) := by
  obtain ⟨p, l, e, R, s, m, args, below, meth, c, H0, A, Q, nL, kc, ks⟩ := g
  obtain ⟨⟨hx, hb, hml, hown, hts⟩, hr, hlk⟩ := X
  intro d0 hd0 ls H locs hl hP hS
  exact lv_i2l hx hb d rfl (kk d0 hd0 ls H locs hl hP hS)
theorem x_l2i {g : xG} {own : String} {cc : ByteArray} {ret : Option FieldType} {P : Heap → Prop} {pc : Nat} {lvs : List (Nat × Value)} {st : List Value} (X : xOK g own cc ret) {x : Int64} (d : decode cc pc = .ok (.l2i, 1)) (kk : Wx g P (pc + 1) lvs (.int x.toInt32 :: st)) : Wx g P pc lvs (.long x :: st) := by
  obtain ⟨p, l, e, R, s, m, args, below, meth, c, H0, A, Q, nL, kc, ks⟩ := g
  obtain ⟨⟨hx, hb, hml, hown, hts⟩, hr, hlk⟩ := X
  intro d0 hd0 ls H locs hl hP hS
  exact lv_l2i hx hb d rfl (kk d0 hd0 ls H locs hl hP hS)
theorem x_i2c {g : xG} {own : String} {cc : ByteArray} {ret : Option FieldType} {P : Heap → Prop} {pc : Nat} {lvs : List (Nat × Value)} {st : List Value} (X : xOK g own cc ret) {x : Int32} (d : decode cc pc = .ok (.i2c, 1)) (kk : Wx g P (pc + 1) lvs (.int (x.toUInt32 % 65536).toInt32 :: st)) : Wx g P pc lvs (.int x :: st) := by
  obtain ⟨p, l, e, R, s, m, args, below, meth, c, H0, A, Q, nL, kc, ks⟩ := g
  obtain ⟨⟨hx, hb, hml, hown, hts⟩, hr, hlk⟩ := X
  intro d0 hd0 ls H locs hl hP hS
  exact lv_i2c hx hb d rfl (kk d0 hd0 ls H locs hl hP hS)
theorem x_lcmp {g : xG} {own : String} {cc : ByteArray} {ret : Option FieldType} {P : Heap → Prop} {pc : Nat} {lvs : List (Nat × Value)} {st : List Value} (X : xOK g own cc ret) {x y : Int64} (d : decode cc pc = .ok (.lcmp, 1)) (kk : Wx g P (pc + 1) lvs (.int (lg_cmp x y) :: st)) : Wx g P pc lvs (.long y :: .long x :: st) := by
  obtain ⟨p, l, e, R, s, m, args, below, meth, c, H0, A, Q, nL, kc, ks⟩ := g
  obtain ⟨⟨hx, hb, hml, hown, hts⟩, hr, hlk⟩ := X
  intro d0 hd0 ls H locs hl hP hS
  exact W.lcmp hx hb d (kk d0 hd0 ls H locs hl hP hS)
theorem x_dcmp {g : xG} {own : String} {cc : ByteArray} {ret : Option FieldType} {P : Heap → Prop} {pc : Nat} {lvs : List (Nat × Value)} {st : List Value} (X : xOK g own cc ret) {x y : UInt64} {op : CmpOp} (d : decode cc pc = .ok (.dcmp op, 1)) (kk : Wx g P (pc + 1) lvs (.int (Op.cmpValue (FP.dcmp x y) op) :: st)) : Wx g P pc lvs (.double y :: .double x :: st) := by
  obtain ⟨p, l, e, R, s, m, args, below, meth, c, H0, A, Q, nL, kc, ks⟩ := g
  obtain ⟨⟨hx, hb, hml, hown, hts⟩, hr, hlk⟩ := X
  intro d0 hd0 ls H locs hl hP hS
  exact lv_dcmp hx hb d (kk d0 hd0 ls H locs hl hP hS)
theorem x_l2d {g : xG} {own : String} {cc : ByteArray} {ret : Option FieldType} {P : Heap → Prop} {pc : Nat} {lvs : List (Nat × Value)} {st : List Value} (X : xOK g own cc ret) {x : Int64} (d : decode cc pc = .ok (.l2d, 1)) (kk : Wx g P (pc + 1) lvs (.double (FP.l2d x) :: st)) : Wx g P pc lvs (.long x :: st) := by
  obtain ⟨p, l, e, R, s, m, args, below, meth, c, H0, A, Q, nL, kc, ks⟩ := g
  obtain ⟨⟨hx, hb, hml, hown, hts⟩, hr, hlk⟩ := X
  intro d0 hd0 ls H locs hl hP hS
  exact lv_l2d hx hb d (kk d0 hd0 ls H locs hl hP hS)
theorem x_i2d {g : xG} {own : String} {cc : ByteArray} {ret : Option FieldType} {P : Heap → Prop} {pc : Nat} {lvs : List (Nat × Value)} {st : List Value} (X : xOK g own cc ret) {x : Int32} (d : decode cc pc = .ok (.i2d, 1)) (kk : Wx g P (pc + 1) lvs (.double (FP.i2d x) :: st)) : Wx g P pc lvs (.int x :: st) := by
  obtain ⟨p, l, e, R, s, m, args, below, meth, c, H0, A, Q, nL, kc, ks⟩ := g
  obtain ⟨⟨hx, hb, hml, hown, hts⟩, hr, hlk⟩ := X
  intro d0 hd0 ls H locs hl hP hS
  exact lv_i2d hx hb d (kk d0 hd0 ls H locs hl hP hS)
theorem x_ddiv {g : xG} {own : String} {cc : ByteArray} {ret : Option FieldType} {P : Heap → Prop} {pc : Nat} {lvs : List (Nat × Value)} {st : List Value} (X : xOK g own cc ret) {x y : UInt64} (d : decode cc pc = .ok (.ddiv, 1)) (kk : ∀ r : UInt64, alike64 r (FP.ddiv x y) = true → Wx g P (pc + 1) lvs (.double r :: st)) : Wx g P pc lvs (.double y :: .double x :: st) := by
  obtain ⟨p, l, e, R, s, m, args, below, meth, c, H0, A, Q, nL, kc, ks⟩ := g
  obtain ⟨⟨hx, hb, hml, hown, hts⟩, hr, hlk⟩ := X
  intro d0 hd0 ls H locs hl hP hS
  exact lv_ddiv_any hd0 lw_bits hx hb d (fun r d1 hal hd1 => kk r hal d1 hd1 ls H locs hl hP hS)
theorem x_d2f {g : xG} {own : String} {cc : ByteArray} {ret : Option FieldType} {P : Heap → Prop} {pc : Nat} {lvs : List (Nat × Value)} {st : List Value} (X : xOK g own cc ret) {x : UInt64} (d : decode cc pc = .ok (.d2f, 1)) (kk : ∀ r : UInt32, alike32 r (FP.d2f x) = true → Wx g P (pc + 1) lvs (.float r :: st)) : Wx g P pc lvs (.double x :: st) := by
  obtain ⟨p, l, e, R, s, m, args, below, meth, c, H0, A, Q, nL, kc, ks⟩ := g
  obtain ⟨⟨hx, hb, hml, hown, hts⟩, hr, hlk⟩ := X
  intro d0 hd0 ls H locs hl hP hS
  exact lv_d2f_any hd0 lw_bits hx hb d (fun r d1 hal hd1 => kk r hal d1 hd1 ls H locs hl hP hS)
theorem x_f2d {g : xG} {own : String} {cc : ByteArray} {ret : Option FieldType} {P : Heap → Prop} {pc : Nat} {lvs : List (Nat × Value)} {st : List Value} (X : xOK g own cc ret) {x : UInt32} (d : decode cc pc = .ok (.f2d, 1)) (kk : ∀ r : UInt64, alike64 r (FP.f2d x) = true → Wx g P (pc + 1) lvs (.double r :: st)) : Wx g P pc lvs (.float x :: st) := by
  obtain ⟨p, l, e, R, s, m, args, below, meth, c, H0, A, Q, nL, kc, ks⟩ := g
  obtain ⟨⟨hx, hb, hml, hown, hts⟩, hr, hlk⟩ := X
  intro d0 hd0 ls H locs hl hP hS
  exact lv_f2d_any hd0 lw_bits hx hb d (fun r d1 hal hd1 => kk r hal d1 hd1 ls H locs hl hP hS)
theorem x_dup {g : xG} {own : String} {cc : ByteArray} {ret : Option FieldType} {P : Heap → Prop} {pc : Nat} {lvs : List (Nat × Value)} {st : List Value} (X : xOK g own cc ret) {v : Value} (d : decode cc pc = .ok (.dup, 1)) (hv : v.category = 1) (kk : Wx g P (pc + 1) lvs (v :: v :: st)) : Wx g P pc lvs (v :: st) := by
  obtain ⟨p, l, e, R, s, m, args, below, meth, c, H0, A, Q, nL, kc, ks⟩ := g
  obtain ⟨⟨hx, hb, hml, hown, hts⟩, hr, hlk⟩ := X
  intro d0 hd0 ls H locs hl hP hS
  exact lv_dup hx hb d hv (kk d0 hd0 ls H locs hl hP hS)
theorem x_pop {g : xG} {own : String} {cc : ByteArray} {ret : Option FieldType} {P : Heap → Prop} {pc : Nat} {lvs : List (Nat × Value)} {st : List Value} (X : xOK g own cc ret) {v : Value} (d : decode cc pc = .ok (.pop, 1)) (hv : v.category = 1) (kk : Wx g P (pc + 1) lvs (st)) : Wx g P pc lvs (v :: st) := by
  obtain ⟨p, l, e, R, s, m, args, below, meth, c, H0, A, Q, nL, kc, ks⟩ := g
  obtain ⟨⟨hx, hb, hml, hown, hts⟩, hr, hlk⟩ := X
  intro d0 hd0 ls H locs hl hP hS
  exact lv_pop hx hb d hv (kk d0 hd0 ls H locs hl hP hS)
theorem x_dup2 {g : xG} {own : String} {cc : ByteArray} {ret : Option FieldType} {P : Heap → Prop} {pc : Nat} {lvs : List (Nat × Value)} {st : List Value} (X : xOK g own cc ret) {v u : Value} (d : decode cc pc = .ok (.dup2, 1)) (hv : v.category = 1) (hu : u.category = 1) (kk : Wx g P (pc + 1) lvs (v :: u :: v :: u :: st)) : Wx g P pc lvs (v :: u :: st) := by
  obtain ⟨p, l, e, R, s, m, args, below, meth, c, H0, A, Q, nL, kc, ks⟩ := g
  obtain ⟨⟨hx, hb, hml, hown, hts⟩, hr, hlk⟩ := X
  intro d0 hd0 ls H locs hl hP hS
  exact lv_dup2_11 hx hb d hv hu (kk d0 hd0 ls H locs hl hP hS)
theorem x_goto {g : xG} {own : String} {cc : ByteArray} {ret : Option FieldType} {P : Heap → Prop} {pc : Nat} {lvs : List (Nat × Value)} {st : List Value} (X : xOK g own cc ret) {off : Int} (tgt : Nat) (d : decode cc pc = .ok (.goto off, 3)) (ht : (pc : Int) + off = (tgt : Int)) (kk : Wx g P tgt lvs (st)) : Wx g P pc lvs (st) := by
  obtain ⟨p, l, e, R, s, m, args, below, meth, c, H0, A, Q, nL, kc, ks⟩ := g
  obtain ⟨⟨hx, hb, hml, hown, hts⟩, hr, hlk⟩ := X
  intro d0 hd0 ls H locs hl hP hS
  exact lv_goto hx hb d ht (kk d0 hd0 ls H locs hl hP hS)
theorem x_icmp_eq {g : xG} {own : String} {cc : ByteArray} {ret : Option FieldType} {P : Heap → Prop} {pc : Nat} {lvs : List (Nat × Value)} {st : List Value} (X : xOK g own cc ret) {x y : Int32} {off : Int} (tgt : Nat) (d : decode cc pc = .ok (.if_icmp .eq off, 3)) (ht : (pc : Int) + off = (tgt : Int)) {a b : Prop} (h : if x = y then a else b) (ka : a → Wx g P tgt lvs (st)) (kb : b → Wx g P (pc + 3) lvs (st)) : Wx g P pc lvs (.int y :: .int x :: st) := by
  obtain ⟨p, l, e, R, s, m, args, below, meth, c, H0, A, Q, nL, kc, ks⟩ := g
  obtain ⟨⟨hx, hb, hml, hown, hts⟩, hr, hlk⟩ := X
  intro d0 hd0 ls H locs hl hP hS
  exact lv_icmp_eq hx hb d ht (fun hc => ka (by rw [if_pos hc] at h; exact h) d0 hd0 ls H locs hl hP hS) (fun hc => kb (by rw [if_neg hc] at h; exact h) d0 hd0 ls H locs hl hP hS)
theorem x_if_eq {g : xG} {own : String} {cc : ByteArray} {ret : Option FieldType} {P : Heap → Prop} {pc : Nat} {lvs : List (Nat × Value)} {st : List Value} (X : xOK g own cc ret) {x : Int32} {off : Int} (tgt : Nat) (d : decode cc pc = .ok (.ifCond .eq off, 3)) (ht : (pc : Int) + off = (tgt : Int)) {a b : Prop} (h : if x = 0 then a else b) (ka : a → Wx g P tgt lvs (st)) (kb : b → Wx g P (pc + 3) lvs (st)) : Wx g P pc lvs (.int x :: st) := by
  obtain ⟨p, l, e, R, s, m, args, below, meth, c, H0, A, Q, nL, kc, ks⟩ := g
  obtain ⟨⟨hx, hb, hml, hown, hts⟩, hr, hlk⟩ := X
  intro d0 hd0 ls H locs hl hP hS
  exact lv_if_eq hx hb d ht (fun hc => ka (by rw [if_pos hc] at h; exact h) d0 hd0 ls H locs hl hP hS) (fun hc => kb (by rw [if_neg hc] at h; exact h) d0 hd0 ls H locs hl hP hS)
theorem x_icmp_ne {g : xG} {own : String} {cc : ByteArray} {ret : Option FieldType} {P : Heap → Prop} {pc : Nat} {lvs : List (Nat × Value)} {st : List Value} (X : xOK g own cc ret) {x y : Int32} {off : Int} (tgt : Nat) (d : decode cc pc = .ok (.if_icmp .ne off, 3)) (ht : (pc : Int) + off = (tgt : Int)) {a b : Prop} (h : if x = y then a else b) (ka : a → Wx g P (pc + 3) lvs (st)) (kb : b → Wx g P tgt lvs (st)) : Wx g P pc lvs (.int y :: .int x :: st) := by
  obtain ⟨p, l, e, R, s, m, args, below, meth, c, H0, A, Q, nL, kc, ks⟩ := g
  obtain ⟨⟨hx, hb, hml, hown, hts⟩, hr, hlk⟩ := X
  intro d0 hd0 ls H locs hl hP hS
  exact lv_icmp_ne hx hb d ht (fun hc => kb (by rw [if_neg hc] at h; exact h) d0 hd0 ls H locs hl hP hS) (fun hc => ka (by rw [if_pos hc] at h; exact h) d0 hd0 ls H locs hl hP hS)
theorem x_if_ne {g : xG} {own : String} {cc : ByteArray} {ret : Option FieldType} {P : Heap → Prop} {pc : Nat} {lvs : List (Nat × Value)} {st : List Value} (X : xOK g own cc ret) {x : Int32} {off : Int} (tgt : Nat) (d : decode cc pc = .ok (.ifCond .ne off, 3)) (ht : (pc : Int) + off = (tgt : Int)) {a b : Prop} (h : if x = 0 then a else b) (ka : a → Wx g P (pc + 3) lvs (st)) (kb : b → Wx g P tgt lvs (st)) : Wx g P pc lvs (.int x :: st) := by
  obtain ⟨p, l, e, R, s, m, args, below, meth, c, H0, A, Q, nL, kc, ks⟩ := g
  obtain ⟨⟨hx, hb, hml, hown, hts⟩, hr, hlk⟩ := X
  intro d0 hd0 ls H locs hl hP hS
  exact lv_if_ne hx hb d ht (fun hc => kb (by rw [if_neg hc] at h; exact h) d0 hd0 ls H locs hl hP hS) (fun hc => ka (by rw [if_pos hc] at h; exact h) d0 hd0 ls H locs hl hP hS)
theorem x_icmp_lt {g : xG} {own : String} {cc : ByteArray} {ret : Option FieldType} {P : Heap → Prop} {pc : Nat} {lvs : List (Nat × Value)} {st : List Value} (X : xOK g own cc ret) {x y : Int32} {off : Int} (tgt : Nat) (d : decode cc pc = .ok (.if_icmp .lt off, 3)) (ht : (pc : Int) + off = (tgt : Int)) {a b : Prop} (h : if x < y then a else b) (ka : a → Wx g P tgt lvs (st)) (kb : b → Wx g P (pc + 3) lvs (st)) : Wx g P pc lvs (.int y :: .int x :: st) := by
  obtain ⟨p, l, e, R, s, m, args, below, meth, c, H0, A, Q, nL, kc, ks⟩ := g
  obtain ⟨⟨hx, hb, hml, hown, hts⟩, hr, hlk⟩ := X
  intro d0 hd0 ls H locs hl hP hS
  exact lv_icmp_lt hx hb d ht (fun hc => ka (by rw [if_pos hc] at h; exact h) d0 hd0 ls H locs hl hP hS) (fun hc => kb (by rw [if_neg hc] at h; exact h) d0 hd0 ls H locs hl hP hS)
theorem x_if_lt {g : xG} {own : String} {cc : ByteArray} {ret : Option FieldType} {P : Heap → Prop} {pc : Nat} {lvs : List (Nat × Value)} {st : List Value} (X : xOK g own cc ret) {x : Int32} {off : Int} (tgt : Nat) (d : decode cc pc = .ok (.ifCond .lt off, 3)) (ht : (pc : Int) + off = (tgt : Int)) {a b : Prop} (h : if x < 0 then a else b) (ka : a → Wx g P tgt lvs (st)) (kb : b → Wx g P (pc + 3) lvs (st)) : Wx g P pc lvs (.int x :: st) := by
  obtain ⟨p, l, e, R, s, m, args, below, meth, c, H0, A, Q, nL, kc, ks⟩ := g
  obtain ⟨⟨hx, hb, hml, hown, hts⟩, hr, hlk⟩ := X
  intro d0 hd0 ls H locs hl hP hS
  exact lv_if_lt hx hb d ht (fun hc => ka (by rw [if_pos hc] at h; exact h) d0 hd0 ls H locs hl hP hS) (fun hc => kb (by rw [if_neg hc] at h; exact h) d0 hd0 ls H locs hl hP hS)
theorem x_icmp_ge {g : xG} {own : String} {cc : ByteArray} {ret : Option FieldType} {P : Heap → Prop} {pc : Nat} {lvs : List (Nat × Value)} {st : List Value} (X : xOK g own cc ret) {x y : Int32} {off : Int} (tgt : Nat) (d : decode cc pc = .ok (.if_icmp .ge off, 3)) (ht : (pc : Int) + off = (tgt : Int)) {a b : Prop} (h : if y ≤ x then a else b) (ka : a → Wx g P tgt lvs (st)) (kb : b → Wx g P (pc + 3) lvs (st)) : Wx g P pc lvs (.int y :: .int x :: st) := by
  obtain ⟨p, l, e, R, s, m, args, below, meth, c, H0, A, Q, nL, kc, ks⟩ := g
  obtain ⟨⟨hx, hb, hml, hown, hts⟩, hr, hlk⟩ := X
  intro d0 hd0 ls H locs hl hP hS
  exact lv_icmp_ge hx hb d ht (fun hc => ka (by rw [if_pos hc] at h; exact h) d0 hd0 ls H locs hl hP hS) (fun hc => kb (by rw [if_neg hc] at h; exact h) d0 hd0 ls H locs hl hP hS)
theorem x_if_ge {g : xG} {own : String} {cc : ByteArray} {ret : Option FieldType} {P : Heap → Prop} {pc : Nat} {lvs : List (Nat × Value)} {st : List Value} (X : xOK g own cc ret) {x : Int32} {off : Int} (tgt : Nat) (d : decode cc pc = .ok (.ifCond .ge off, 3)) (ht : (pc : Int) + off = (tgt : Int)) {a b : Prop} (h : if 0 ≤ x then a else b) (ka : a → Wx g P tgt lvs (st)) (kb : b → Wx g P (pc + 3) lvs (st)) : Wx g P pc lvs (.int x :: st) := by
  obtain ⟨p, l, e, R, s, m, args, below, meth, c, H0, A, Q, nL, kc, ks⟩ := g
  obtain ⟨⟨hx, hb, hml, hown, hts⟩, hr, hlk⟩ := X
  intro d0 hd0 ls H locs hl hP hS
  exact lv_if_ge hx hb d ht (fun hc => ka (by rw [if_pos hc] at h; exact h) d0 hd0 ls H locs hl hP hS) (fun hc => kb (by rw [if_neg hc] at h; exact h) d0 hd0 ls H locs hl hP hS)
theorem x_icmp_gt {g : xG} {own : String} {cc : ByteArray} {ret : Option FieldType} {P : Heap → Prop} {pc : Nat} {lvs : List (Nat × Value)} {st : List Value} (X : xOK g own cc ret) {x y : Int32} {off : Int} (tgt : Nat) (d : decode cc pc = .ok (.if_icmp .gt off, 3)) (ht : (pc : Int) + off = (tgt : Int)) {a b : Prop} (h : if y < x then a else b) (ka : a → Wx g P tgt lvs (st)) (kb : b → Wx g P (pc + 3) lvs (st)) : Wx g P pc lvs (.int y :: .int x :: st) := by
  obtain ⟨p, l, e, R, s, m, args, below, meth, c, H0, A, Q, nL, kc, ks⟩ := g
  obtain ⟨⟨hx, hb, hml, hown, hts⟩, hr, hlk⟩ := X
  intro d0 hd0 ls H locs hl hP hS
  exact lv_icmp_gt hx hb d ht (fun hc => ka (by rw [if_pos hc] at h; exact h) d0 hd0 ls H locs hl hP hS) (fun hc => kb (by rw [if_neg hc] at h; exact h) d0 hd0 ls H locs hl hP hS)
theorem x_if_gt {g : xG} {own : String} {cc : ByteArray} {ret : Option FieldType} {P : Heap → Prop} {pc : Nat} {lvs : List (Nat × Value)} {st : List Value} (X : xOK g own cc ret) {x : Int32} {off : Int} (tgt : Nat) (d : decode cc pc = .ok (.ifCond .gt off, 3)) (ht : (pc : Int) + off = (tgt : Int)) {a b : Prop} (h : if 0 < x then a else b) (ka : a → Wx g P tgt lvs (st)) (kb : b → Wx g P (pc + 3) lvs (st)) : Wx g P pc lvs (.int x :: st) := by
  obtain ⟨p, l, e, R, s, m, args, below, meth, c, H0, A, Q, nL, kc, ks⟩ := g
  obtain ⟨⟨hx, hb, hml, hown, hts⟩, hr, hlk⟩ := X
  intro d0 hd0 ls H locs hl hP hS
  exact lv_if_gt hx hb d ht (fun hc => ka (by rw [if_pos hc] at h; exact h) d0 hd0 ls H locs hl hP hS) (fun hc => kb (by rw [if_neg hc] at h; exact h) d0 hd0 ls H locs hl hP hS)
theorem x_icmp_le {g : xG} {own : String} {cc : ByteArray} {ret : Option FieldType} {P : Heap → Prop} {pc : Nat} {lvs : List (Nat × Value)} {st : List Value} (X : xOK g own cc ret) {x y : Int32} {off : Int} (tgt : Nat) (d : decode cc pc = .ok (.if_icmp .le off, 3)) (ht : (pc : Int) + off = (tgt : Int)) {a b : Prop} (h : if x ≤ y then a else b) (ka : a → Wx g P tgt lvs (st)) (kb : b → Wx g P (pc + 3) lvs (st)) : Wx g P pc lvs (.int y :: .int x :: st) := by
  obtain ⟨p, l, e, R, s, m, args, below, meth, c, H0, A, Q, nL, kc, ks⟩ := g
  obtain ⟨⟨hx, hb, hml, hown, hts⟩, hr, hlk⟩ := X
  intro d0 hd0 ls H locs hl hP hS
  exact lv_icmp_le hx hb d ht (fun hc => ka (by rw [if_pos hc] at h; exact h) d0 hd0 ls H locs hl hP hS) (fun hc => kb (by rw [if_neg hc] at h; exact h) d0 hd0 ls H locs hl hP hS)
theorem x_if_le {g : xG} {own : String} {cc : ByteArray} {ret : Option FieldType} {P : Heap → Prop} {pc : Nat} {lvs : List (Nat × Value)} {st : List Value} (X : xOK g own cc ret) {x : Int32} {off : Int} (tgt : Nat) (d : decode cc pc = .ok (.ifCond .le off, 3)) (ht : (pc : Int) + off = (tgt : Int)) {a b : Prop} (h : if x ≤ 0 then a else b) (ka : a → Wx g P tgt lvs (st)) (kb : b → Wx g P (pc + 3) lvs (st)) : Wx g P pc lvs (.int x :: st) := by
  obtain ⟨p, l, e, R, s, m, args, below, meth, c, H0, A, Q, nL, kc, ks⟩ := g
  obtain ⟨⟨hx, hb, hml, hown, hts⟩, hr, hlk⟩ := X
  intro d0 hd0 ls H locs hl hP hS
  exact lv_if_le hx hb d ht (fun hc => ka (by rw [if_pos hc] at h; exact h) d0 hd0 ls H locs hl hP hS) (fun hc => kb (by rw [if_neg hc] at h; exact h) d0 hd0 ls H locs hl hP hS)
theorem x_tableOut {g : xG} {own : String} {cc : ByteArray} {ret : Option FieldType} {P : Heap → Prop} {pc : Nat} {lvs : List (Nat × Value)} {st : List Value} (X : xOK g own cc ret) {dflt lo hi : Int} {offs : Array Int} {len : Nat} {x : Int32} (tgt : Nat) (d : decode cc pc = .ok (.tableswitch dflt lo hi offs, len)) (h : x.toInt < lo ∨ hi < x.toInt) (ht : (pc : Int) + dflt = (tgt : Int)) (kk : Wx g P tgt lvs (st)) : Wx g P pc lvs (.int x :: st) := by
  obtain ⟨p, l, e, R, s, m, args, below, meth, c, H0, A, Q, nL, kc, ks⟩ := g
  obtain ⟨⟨hx, hb, hml, hown, hts⟩, hr, hlk⟩ := X
  intro d0 hd0 ls H locs hl hP hS
  exact lv_tableOut hx hb d h ht (kk d0 hd0 ls H locs hl hP hS)
theorem x_tableIn {g : xG} {own : String} {cc : ByteArray} {ret : Option FieldType} {P : Heap → Prop} {pc : Nat} {lvs : List (Nat × Value)} {st : List Value} (X : xOK g own cc ret) {dflt lo hi off : Int} {offs : Array Int} {len : Nat} {x : Int32} (tgt : Nat) (d : decode cc pc = .ok (.tableswitch dflt lo hi offs, len)) (h1 : ¬ x.toInt < lo) (h2 : ¬ hi < x.toInt) (ho : offs[(x.toInt - lo).toNat]? = some off) (ht : (pc : Int) + off = (tgt : Int)) (kk : Wx g P tgt lvs (st)) : Wx g P pc lvs (.int x :: st) := by
  obtain ⟨p, l, e, R, s, m, args, below, meth, c, H0, A, Q, nL, kc, ks⟩ := g
  obtain ⟨⟨hx, hb, hml, hown, hts⟩, hr, hlk⟩ := X
  intro d0 hd0 ls H locs hl hP hS
  exact lv_tableIn hx hb d h1 h2 ho ht (kk d0 hd0 ls H locs hl hP hS)
theorem x_lookup {g : xG} {own : String} {cc : ByteArray} {ret : Option FieldType} {P : Heap → Prop} {pc : Nat} {lvs : List (Nat × Value)} {st : List Value} (X : xOK g own cc ret) {dflt off : Int} {ps : Array (Int × Int)} {len : Nat} {x : Int32} (tgt : Nat) (d : decode cc pc = .ok (.lookupswitch dflt ps, len)) (hp : (ps.toList.zip (ps.toList.drop 1)).all (fun (a, next) => a.1 < next.1) = true) (ho : Op.lookupswitch.offset ps.toList dflt x.toInt = off) (ht : (pc : Int) + off = (tgt : Int)) (kk : Wx g P tgt lvs (st)) : Wx g P pc lvs (.int x :: st) := by
  obtain ⟨p, l, e, R, s, m, args, below, meth, c, H0, A, Q, nL, kc, ks⟩ := g
  obtain ⟨⟨hx, hb, hml, hown, hts⟩, hr, hlk⟩ := X
  intro d0 hd0 ls H locs hl hP hS
  exact lv_lookup hx hb d hp ho ht (kk d0 hd0 ls H locs hl hP hS)
theorem x_fconst0 {g : xG} {own : String} {cc : ByteArray} {ret : Option FieldType} {P : Heap → Prop} {pc : Nat} {lvs : List (Nat × Value)} {st : List Value} (X : xOK g own cc ret) (d : decode cc pc = .ok (.fconst 0, 1)) (kk : Wx g P (pc + 1) lvs (.float FP.fconst0 :: st)) : Wx g P pc lvs (st) := by
  obtain ⟨p, l, e, R, s, m, args, below, meth, c, H0, A, Q, nL, kc, ks⟩ := g
  obtain ⟨⟨hx, hb, hml, hown, hts⟩, hr, hlk⟩ := X
  intro d0 hd0 ls H locs hl hP hS
  exact lv_fconst0 hx hb d (kk d0 hd0 ls H locs hl hP hS)
theorem x_iret {g : xG} {own : String} {cc : ByteArray} {pc : Nat} {lvs : List (Nat × Value)} (X : xOK g own cc (some .int)) {D : va_G} {sh : xSh} {ad : Nat → Nat → Nat} {S : xS} {QQ : Option Value → xS → Prop} (E : xEnd g D sh ad QQ) {v : Int32} (d : decode cc pc = .ok (.ireturn, 1)) (hq : QQ (some (.int v)) S) : Wx g (xW D sh ad S) pc lvs [.int v] := by
  obtain ⟨p, l, e, R, s, m, args, below, meth, c, H0, A, Q, nL, kc, ks⟩ := g
  obtain ⟨⟨hx, hb, hml, hown, hts⟩, hr, hlk⟩ := X
  obtain ⟨rfl, rfl, rfl⟩ := E
  intro d0 hd0 ls H locs hl hP hS
  refine W.endD hd0 ?_
  exact W.iret hx hb hr (fun t ht hW => ⟨⟨some (.int v), S, rfl, hq, by rw [ht]; exact hP⟩, hS.F ht⟩) hS.2.2 d hlk
theorem x_zret {g : xG} {own : String} {cc : ByteArray} {pc : Nat} {lvs : List (Nat × Value)} (X : xOK g own cc (some .boolean)) {D : va_G} {sh : xSh} {ad : Nat → Nat → Nat} {S : xS} {QQ : Option Value → xS → Prop} (E : xEnd g D sh ad QQ) {v : Int32} (d : decode cc pc = .ok (.ireturn, 1)) (hv : v = 0 ∨ v = 1) (hq : QQ (some (.int v)) S) : Wx g (xW D sh ad S) pc lvs [.int v] := by
  obtain ⟨p, l, e, R, s, m, args, below, meth, c, H0, A, Q, nL, kc, ks⟩ := g
  obtain ⟨⟨hx, hb, hml, hown, hts⟩, hr, hlk⟩ := X
  obtain ⟨rfl, rfl, rfl⟩ := E
  intro d0 hd0 ls H locs hl hP hS
  refine W.endD hd0 ?_
  exact W.zret hx hb hr (by rcases hv with rfl | rfl <;> decide) (fun t ht hW => ⟨⟨some (.int v), S, rfl, hq, by rw [ht]; exact hP⟩, hS.F ht⟩) hS.2.2 d hlk
theorem x_lret {g : xG} {own : String} {cc : ByteArray} {pc : Nat} {lvs : List (Nat × Value)} (X : xOK g own cc (some .long)) {D : va_G} {sh : xSh} {ad : Nat → Nat → Nat} {S : xS} {QQ : Option Value → xS → Prop} (E : xEnd g D sh ad QQ) {v : Int64} (d : decode cc pc = .ok (.lreturn, 1)) (hq : QQ (some (.long v)) S) : Wx g (xW D sh ad S) pc lvs [.long v] := by
  obtain ⟨p, l, e, R, s, m, args, below, meth, c, H0, A, Q, nL, kc, ks⟩ := g
  obtain ⟨⟨hx, hb, hml, hown, hts⟩, hr, hlk⟩ := X
  obtain ⟨rfl, rfl, rfl⟩ := E
  intro d0 hd0 ls H locs hl hP hS
  refine W.endD hd0 ?_
  exact W.lret hx hb hr (fun t ht hW => ⟨⟨some (.long v), S, rfl, hq, by rw [ht]; exact hP⟩, hS.F ht⟩) hS.2.2 d hlk
theorem x_dret {g : xG} {own : String} {cc : ByteArray} {pc : Nat} {lvs : List (Nat × Value)} (X : xOK g own cc (some .double)) {D : va_G} {sh : xSh} {ad : Nat → Nat → Nat} {S : xS} {QQ : Option Value → xS → Prop} (E : xEnd g D sh ad QQ) {v : UInt64} (d : decode cc pc = .ok (.dreturn, 1)) (hq : QQ (some (.double v)) S) : Wx g (xW D sh ad S) pc lvs [.double v] := by
  obtain ⟨p, l, e, R, s, m, args, below, meth, c, H0, A, Q, nL, kc, ks⟩ := g
  obtain ⟨⟨hx, hb, hml, hown, hts⟩, hr, hlk⟩ := X
  obtain ⟨rfl, rfl, rfl⟩ := E
  intro d0 hd0 ls H locs hl hP hS
  refine W.endD hd0 ?_
  exact W.dret hx hb hr (fun t ht hW => ⟨⟨some (.double v), S, rfl, hq, by rw [ht]; exact hP⟩, hS.F ht⟩) hS.2.2 d hlk
theorem x_fret {g : xG} {own : String} {cc : ByteArray} {pc : Nat} {lvs : List (Nat × Value)} (X : xOK g own cc (some .float)) {D : va_G} {sh : xSh} {ad : Nat → Nat → Nat} {S : xS} {QQ : Option Value → xS → Prop} (E : xEnd g D sh ad QQ) {v : UInt32} (d : decode cc pc = .ok (.freturn, 1)) (hq : QQ (some (.float v)) S) : Wx g (xW D sh ad S) pc lvs [.float v] := by
  obtain ⟨p, l, e, R, s, m, args, below, meth, c, H0, A, Q, nL, kc, ks⟩ := g
  obtain ⟨⟨hx, hb, hml, hown, hts⟩, hr, hlk⟩ := X
  obtain ⟨rfl, rfl, rfl⟩ := E
  intro d0 hd0 ls H locs hl hP hS
  refine W.endD hd0 ?_
  exact W.fret hx hb hr (fun t ht hW => ⟨⟨some (.float v), S, rfl, hq, by rw [ht]; exact hP⟩, hS.F ht⟩) hS.2.2 d hlk
theorem x_aret {g : xG} {own nm : String} {cc : ByteArray} {pc : Nat} {lvs : List (Nat × Value)} (X : xOK g own cc (some (.object nm))) {D : va_G} {sh : xSh} {ad : Nat → Nat → Nat} {S : xS} {QQ : Option Value → xS → Prop} (E : xEnd g D sh ad QQ) {a : Nat} (d : decode cc pc = .ok (.areturn, 1)) (hq : QQ (some (.ref a)) S) : Wx g (xW D sh ad S) pc lvs [.ref a] := by
  obtain ⟨p, l, e, R, s, m, args, below, meth, c, H0, A, Q, nL, kc, ks⟩ := g
  obtain ⟨⟨hx, hb, hml, hown, hts⟩, hr, hlk⟩ := X
  obtain ⟨rfl, rfl, rfl⟩ := E
  intro d0 hd0 ls H locs hl hP hS
  refine W.endD hd0 ?_
  exact W.aret hx hb hr (Or.inl ⟨_, rfl⟩) (Or.inr ⟨_, rfl⟩) (fun t ht hW => ⟨⟨some (.ref a), S, rfl, hq, by rw [ht]; exact hP⟩, hS.F ht⟩) hS.2.2 d hlk
theorem x_vret {g : xG} {own : String} {cc : ByteArray} {pc : Nat} {lvs : List (Nat × Value)} (X : xOK g own cc none) {D : va_G} {sh : xSh} {ad : Nat → Nat → Nat} {S : xS} {QQ : Option Value → xS → Prop} (E : xEnd g D sh ad QQ) (d : decode cc pc = .ok (.return_, 1)) (hq : QQ none S) : Wx g (xW D sh ad S) pc lvs [] := by
  obtain ⟨p, l, e, R, s, m, args, below, meth, c, H0, A, Q, nL, kc, ks⟩ := g
  obtain ⟨⟨hx, hb, hml, hown, hts⟩, hr, hlk⟩ := X
  obtain ⟨rfl, rfl, rfl⟩ := E
  intro d0 hd0 ls H locs hl hP hS
  refine W.endD hd0 ?_
  exact W.vret hx hb hr (fun t ht hW => ⟨⟨none, S, rfl, hq, by rw [ht]; exact hP⟩, hS.F ht⟩) hS.2.2 d hlk
