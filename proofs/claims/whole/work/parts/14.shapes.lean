def xPairs (l : List (Nat × Nat)) : List (Nat × Nat) := l.flatMap (fun q => (List.range q.2).map (fun i => (q.1, i)))
theorem xPairs_mem {l : List (Nat × Nat)} {k n i : Nat} (h : (k, n) ∈ l) (hi : i < n) : (k, i) ∈ xPairs l := List.mem_flatMap.mpr ⟨(k, n), h, List.mem_map.mpr ⟨i, List.mem_range.mpr hi, rfl⟩⟩
abbrev xTys (cy : Nat → ClassId) : List (ClassId × FieldType) := [(cy 0, .char), (cy 1, .int), (cy 2, .long), (cy 3, .boolean), (cy 4, .object "FontInstancer$Axis"), (cy 5, .object "FontInstancer$Glyph"), (cy 6, .object "FontInstancer$Tuple"), (cy 7, .array .int)]
def kindsC : List (Nat × Nat) := [(0, 4), (1, 12), (2, 1), (3, 1), (4, 2), (5, 60), (6, 1), (10, 4), (11, 4), (12, 12), (13, 12), (14, 12), (15, 12), (16, 12), (17, 1), (18, 1), (19, 1), (20, 1), (21, 2), (22, 2), (23, 2), (24, 60), (25, 60), (26, 60), (27, 60), (28, 60), (29, 1), (30, 3), (31, 1), (32, 1), (33, 6)]
def cellC (cy : Nat → ClassId) : xCell := fun ad k i r lr rr => match k with
  | 0 => .inr (0, [.int (r 0), .int (r 1), .int (r 2), .int (r 3), .int (r 4), .ref (ad 10 i), .ref (ad 11 i)])
  | 1 => .inr (1, [.int (r 0), .int (r 1), .ref (ad 12 i), .ref (ad 13 i), .ref (ad 14 i), .ref (ad 15 i), .int (r 6), .ref (ad 16 i)])
  | 2 => .inr (2, [.int (r 0), .ref (ad 17 0), .ref (ad 18 0)])
  | 3 => .inr (3, [.int (r 0), .ref (ad 19 0), .int (r 2), .ref (ad 20 0)])
  | 4 => .inr (4, [.int (r 0), .int (r 1), .ref (ad 21 i), .ref (ad 22 i), .ref (ad 23 i)])
  | 5 => .inr (5, [.ref (ad 24 i), .ref (ad 25 i), .ref (ad 26 i), .int (r 3), .ref (ad 27 i), .ref (ad 28 i)])
  | 6 => .inr (6, [.ref (ad 29 0), .int (r 1), .ref (ad 30 0), .ref (ad 30 1), .ref (ad 30 2), .ref (ad 31 0), .int (r 6), .ref (ad 4 0), .ref (ad 4 1), .ref (ad 2 0), .ref (ad 32 0), .int (r 11), .ref (ad 3 0)])
  | 10 => .inl (cy 1, 8, .inl r)
  | 11 => .inl (cy 1, 8, .inl r)
  | 12 => .inl (cy 1, 25, .inl r)
  | 13 => .inl (cy 1, 25, .inl r)
  | 14 => .inl (cy 1, 25, .inl r)
  | 15 => .inl (cy 1, 5, .inl r)
  | 16 => .inl (cy 6, 5, .inr (.inr (.inr (.inr (fun j => some (ad 5 (rr j)))))))
  | 17 => .inl (cy 1, 6, .inl r)
  | 18 => .inl (cy 5, 6, .inr (.inr (.inr (.inr (fun j => some (ad 1 (rr j)))))))
  | 19 => .inl (cy 0, 60, .inl r)
  | 20 => .inl (cy 1, 4, .inl r)
  | 21 => .inl (cy 2, 96, .inr (.inl lr))
  | 22 => .inl (cy 2, 96, .inr (.inl lr))
  | 23 => .inl (cy 1, 96, .inl r)
  | 24 => .inl (cy 1, 4, .inl r)
  | 25 => .inl (cy 1, 4, .inl r)
  | 26 => .inl (cy 1, 4, .inl r)
  | 27 => .inl (cy 1, 25, .inl r)
  | 28 => .inl (cy 1, 25, .inl r)
  | 29 => .inl (cy 4, 4, .inr (.inr (.inr (.inr (fun j => some (ad 0 j))))))
  | 30 => .inl (cy 1, 4, .inl r)
  | 31 => .inl (cy 5, 6, .inr (.inr (.inr (.inr (fun j => some (ad 1 j))))))
  | 32 => .inl (cy 7, 6, .inr (.inr (.inr (.inr (fun j => some (ad 33 j))))))
  | 33 => .inl (cy 1, 4, .inl r)
  | _ => .inr (99, [])
def shC (cy : Nat → ClassId) : xSh := (xPairs kindsC, cellC cy)
theorem kC_0 {i : Nat} (cy : Nat → ClassId) (hi : i < 4) : (0, i) ∈ (shC cy).1 := xPairs_mem (l := kindsC) (n := 4) (by decide) hi
theorem kC_1 {i : Nat} (cy : Nat → ClassId) (hi : i < 12) : (1, i) ∈ (shC cy).1 := xPairs_mem (l := kindsC) (n := 12) (by decide) hi
theorem kC_2 {i : Nat} (cy : Nat → ClassId) (hi : i < 1) : (2, i) ∈ (shC cy).1 := xPairs_mem (l := kindsC) (n := 1) (by decide) hi
theorem kC_3 {i : Nat} (cy : Nat → ClassId) (hi : i < 1) : (3, i) ∈ (shC cy).1 := xPairs_mem (l := kindsC) (n := 1) (by decide) hi
theorem kC_4 {i : Nat} (cy : Nat → ClassId) (hi : i < 2) : (4, i) ∈ (shC cy).1 := xPairs_mem (l := kindsC) (n := 2) (by decide) hi
theorem kC_5 {i : Nat} (cy : Nat → ClassId) (hi : i < 60) : (5, i) ∈ (shC cy).1 := xPairs_mem (l := kindsC) (n := 60) (by decide) hi
theorem kC_6 {i : Nat} (cy : Nat → ClassId) (hi : i < 1) : (6, i) ∈ (shC cy).1 := xPairs_mem (l := kindsC) (n := 1) (by decide) hi
theorem kC_10 {i : Nat} (cy : Nat → ClassId) (hi : i < 4) : (10, i) ∈ (shC cy).1 := xPairs_mem (l := kindsC) (n := 4) (by decide) hi
theorem kC_11 {i : Nat} (cy : Nat → ClassId) (hi : i < 4) : (11, i) ∈ (shC cy).1 := xPairs_mem (l := kindsC) (n := 4) (by decide) hi
theorem kC_12 {i : Nat} (cy : Nat → ClassId) (hi : i < 12) : (12, i) ∈ (shC cy).1 := xPairs_mem (l := kindsC) (n := 12) (by decide) hi
theorem kC_13 {i : Nat} (cy : Nat → ClassId) (hi : i < 12) : (13, i) ∈ (shC cy).1 := xPairs_mem (l := kindsC) (n := 12) (by decide) hi
theorem kC_14 {i : Nat} (cy : Nat → ClassId) (hi : i < 12) : (14, i) ∈ (shC cy).1 := xPairs_mem (l := kindsC) (n := 12) (by decide) hi
theorem kC_15 {i : Nat} (cy : Nat → ClassId) (hi : i < 12) : (15, i) ∈ (shC cy).1 := xPairs_mem (l := kindsC) (n := 12) (by decide) hi
theorem kC_16 {i : Nat} (cy : Nat → ClassId) (hi : i < 12) : (16, i) ∈ (shC cy).1 := xPairs_mem (l := kindsC) (n := 12) (by decide) hi
theorem kC_17 {i : Nat} (cy : Nat → ClassId) (hi : i < 1) : (17, i) ∈ (shC cy).1 := xPairs_mem (l := kindsC) (n := 1) (by decide) hi
theorem kC_18 {i : Nat} (cy : Nat → ClassId) (hi : i < 1) : (18, i) ∈ (shC cy).1 := xPairs_mem (l := kindsC) (n := 1) (by decide) hi
theorem kC_19 {i : Nat} (cy : Nat → ClassId) (hi : i < 1) : (19, i) ∈ (shC cy).1 := xPairs_mem (l := kindsC) (n := 1) (by decide) hi
theorem kC_20 {i : Nat} (cy : Nat → ClassId) (hi : i < 1) : (20, i) ∈ (shC cy).1 := xPairs_mem (l := kindsC) (n := 1) (by decide) hi
theorem kC_21 {i : Nat} (cy : Nat → ClassId) (hi : i < 2) : (21, i) ∈ (shC cy).1 := xPairs_mem (l := kindsC) (n := 2) (by decide) hi
theorem kC_22 {i : Nat} (cy : Nat → ClassId) (hi : i < 2) : (22, i) ∈ (shC cy).1 := xPairs_mem (l := kindsC) (n := 2) (by decide) hi
theorem kC_23 {i : Nat} (cy : Nat → ClassId) (hi : i < 2) : (23, i) ∈ (shC cy).1 := xPairs_mem (l := kindsC) (n := 2) (by decide) hi
theorem kC_24 {i : Nat} (cy : Nat → ClassId) (hi : i < 60) : (24, i) ∈ (shC cy).1 := xPairs_mem (l := kindsC) (n := 60) (by decide) hi
theorem kC_25 {i : Nat} (cy : Nat → ClassId) (hi : i < 60) : (25, i) ∈ (shC cy).1 := xPairs_mem (l := kindsC) (n := 60) (by decide) hi
theorem kC_26 {i : Nat} (cy : Nat → ClassId) (hi : i < 60) : (26, i) ∈ (shC cy).1 := xPairs_mem (l := kindsC) (n := 60) (by decide) hi
theorem kC_27 {i : Nat} (cy : Nat → ClassId) (hi : i < 60) : (27, i) ∈ (shC cy).1 := xPairs_mem (l := kindsC) (n := 60) (by decide) hi
theorem kC_28 {i : Nat} (cy : Nat → ClassId) (hi : i < 60) : (28, i) ∈ (shC cy).1 := xPairs_mem (l := kindsC) (n := 60) (by decide) hi
theorem kC_29 {i : Nat} (cy : Nat → ClassId) (hi : i < 1) : (29, i) ∈ (shC cy).1 := xPairs_mem (l := kindsC) (n := 1) (by decide) hi
theorem kC_30 {i : Nat} (cy : Nat → ClassId) (hi : i < 3) : (30, i) ∈ (shC cy).1 := xPairs_mem (l := kindsC) (n := 3) (by decide) hi
theorem kC_31 {i : Nat} (cy : Nat → ClassId) (hi : i < 1) : (31, i) ∈ (shC cy).1 := xPairs_mem (l := kindsC) (n := 1) (by decide) hi
theorem kC_32 {i : Nat} (cy : Nat → ClassId) (hi : i < 1) : (32, i) ∈ (shC cy).1 := xPairs_mem (l := kindsC) (n := 1) (by decide) hi
theorem kC_33 {i : Nat} (cy : Nat → ClassId) (hi : i < 6) : (33, i) ∈ (shC cy).1 := xPairs_mem (l := kindsC) (n := 6) (by decide) hi
def kindsM : List (Nat × Nat) := [(0, 1), (2, 1), (3, 1), (4, 1), (5, 1), (6, 1), (7, 1), (8, 1), (9, 1), (11, 1), (12, 1), (13, 1), (16, 1), (17, 1), (18, 1), (19, 1), (20, 1), (21, 1), (22, 1), (23, 1), (25, 1), (26, 1), (27, 1), (28, 1), (29, 1), (30, 1), (31, 1), (32, 1), (34, 1), (36, 1), (40, 1)]
def cellM (cy : Nat → ClassId) : xCell := fun ad k i r lr rr => match k with
  | 0 => .inr (7, [.int (r 0), .ref (ad 2 0), .ref (ad 3 0), .ref (ad 4 0), .ref (ad 5 0), .ref (ad 6 0), .ref (ad 7 0), .ref (ad 8 0), .ref (ad 9 0), .int (r 9), .ref (ad 11 0), .ref (ad 12 0), .ref (ad 13 0), .int (r 13), .int (r 14), .ref (ad 16 0), .ref (ad 17 0), .ref (ad 18 0), .ref (ad 19 0), .ref (ad 20 0), .ref (ad 21 0), .ref (ad 22 0), .ref (ad 23 0), .int (r 23), .ref (ad 25 0), .ref (ad 26 0), .ref (ad 27 0), .ref (ad 28 0), .ref (ad 29 0), .ref (ad 30 0), .ref (ad 31 0), .ref (ad 32 0), .int (r 32), .ref (ad 34 0), .int (r 34), .ref (ad 36 0), .int (r 36), .int (r 37), .int (r 38), .ref (ad 40 0)])
  | 2 => .inl (cy 1, 4, .inl r)
  | 3 => .inl (cy 1, 4, .inl r)
  | 4 => .inl (cy 1, 4, .inl r)
  | 5 => .inl (cy 1, 4, .inl r)
  | 6 => .inl (cy 3, 4, .inl r)
  | 7 => .inl (cy 1, 4, .inl r)
  | 8 => .inl (cy 1, 32, .inl r)
  | 9 => .inl (cy 1, 32, .inl r)
  | 11 => .inl (cy 1, 3066, .inl r)
  | 12 => .inl (cy 1, 6, .inl r)
  | 13 => .inl (cy 1, 6, .inl r)
  | 16 => .inl (cy 2, 96, .inr (.inl lr))
  | 17 => .inl (cy 2, 96, .inr (.inl lr))
  | 18 => .inl (cy 1, 96, .inl r)
  | 19 => .inl (cy 1, 64, .inl r)
  | 20 => .inl (cy 2, 64, .inr (.inl lr))
  | 21 => .inl (cy 2, 64, .inr (.inl lr))
  | 22 => .inl (cy 1, 96, .inl r)
  | 23 => .inl (cy 1, 4, .inl r)
  | 25 => .inl (cy 1, 6, .inl r)
  | 26 => .inl (cy 1, 3066, .inl r)
  | 27 => .inl (cy 1, 25, .inl r)
  | 28 => .inl (cy 1, 25, .inl r)
  | 29 => .inl (cy 1, 25, .inl r)
  | 30 => .inl (cy 1, 25, .inl r)
  | 31 => .inl (cy 2, 25, .inr (.inl lr))
  | 32 => .inl (cy 2, 25, .inr (.inl lr))
  | 34 => .inl (cy 1, 24, .inl r)
  | 36 => .inl (cy 0, 60, .inl r)
  | 40 => .inl (cy 1, 4, .inl r)
  | _ => .inr (99, [])
def shM (cy : Nat → ClassId) : xSh := (xPairs kindsM, cellM cy)
theorem kM_0 {i : Nat} (cy : Nat → ClassId) (hi : i < 1) : (0, i) ∈ (shM cy).1 := xPairs_mem (l := kindsM) (n := 1) (by decide) hi
theorem kM_2 {i : Nat} (cy : Nat → ClassId) (hi : i < 1) : (2, i) ∈ (shM cy).1 := xPairs_mem (l := kindsM) (n := 1) (by decide) hi
theorem kM_3 {i : Nat} (cy : Nat → ClassId) (hi : i < 1) : (3, i) ∈ (shM cy).1 := xPairs_mem (l := kindsM) (n := 1) (by decide) hi
theorem kM_4 {i : Nat} (cy : Nat → ClassId) (hi : i < 1) : (4, i) ∈ (shM cy).1 := xPairs_mem (l := kindsM) (n := 1) (by decide) hi
theorem kM_5 {i : Nat} (cy : Nat → ClassId) (hi : i < 1) : (5, i) ∈ (shM cy).1 := xPairs_mem (l := kindsM) (n := 1) (by decide) hi
theorem kM_6 {i : Nat} (cy : Nat → ClassId) (hi : i < 1) : (6, i) ∈ (shM cy).1 := xPairs_mem (l := kindsM) (n := 1) (by decide) hi
theorem kM_7 {i : Nat} (cy : Nat → ClassId) (hi : i < 1) : (7, i) ∈ (shM cy).1 := xPairs_mem (l := kindsM) (n := 1) (by decide) hi
theorem kM_8 {i : Nat} (cy : Nat → ClassId) (hi : i < 1) : (8, i) ∈ (shM cy).1 := xPairs_mem (l := kindsM) (n := 1) (by decide) hi
theorem kM_9 {i : Nat} (cy : Nat → ClassId) (hi : i < 1) : (9, i) ∈ (shM cy).1 := xPairs_mem (l := kindsM) (n := 1) (by decide) hi
theorem kM_11 {i : Nat} (cy : Nat → ClassId) (hi : i < 1) : (11, i) ∈ (shM cy).1 := xPairs_mem (l := kindsM) (n := 1) (by decide) hi
theorem kM_12 {i : Nat} (cy : Nat → ClassId) (hi : i < 1) : (12, i) ∈ (shM cy).1 := xPairs_mem (l := kindsM) (n := 1) (by decide) hi
theorem kM_13 {i : Nat} (cy : Nat → ClassId) (hi : i < 1) : (13, i) ∈ (shM cy).1 := xPairs_mem (l := kindsM) (n := 1) (by decide) hi
theorem kM_16 {i : Nat} (cy : Nat → ClassId) (hi : i < 1) : (16, i) ∈ (shM cy).1 := xPairs_mem (l := kindsM) (n := 1) (by decide) hi
theorem kM_17 {i : Nat} (cy : Nat → ClassId) (hi : i < 1) : (17, i) ∈ (shM cy).1 := xPairs_mem (l := kindsM) (n := 1) (by decide) hi
theorem kM_18 {i : Nat} (cy : Nat → ClassId) (hi : i < 1) : (18, i) ∈ (shM cy).1 := xPairs_mem (l := kindsM) (n := 1) (by decide) hi
theorem kM_19 {i : Nat} (cy : Nat → ClassId) (hi : i < 1) : (19, i) ∈ (shM cy).1 := xPairs_mem (l := kindsM) (n := 1) (by decide) hi
theorem kM_20 {i : Nat} (cy : Nat → ClassId) (hi : i < 1) : (20, i) ∈ (shM cy).1 := xPairs_mem (l := kindsM) (n := 1) (by decide) hi
theorem kM_21 {i : Nat} (cy : Nat → ClassId) (hi : i < 1) : (21, i) ∈ (shM cy).1 := xPairs_mem (l := kindsM) (n := 1) (by decide) hi
theorem kM_22 {i : Nat} (cy : Nat → ClassId) (hi : i < 1) : (22, i) ∈ (shM cy).1 := xPairs_mem (l := kindsM) (n := 1) (by decide) hi
theorem kM_23 {i : Nat} (cy : Nat → ClassId) (hi : i < 1) : (23, i) ∈ (shM cy).1 := xPairs_mem (l := kindsM) (n := 1) (by decide) hi
theorem kM_25 {i : Nat} (cy : Nat → ClassId) (hi : i < 1) : (25, i) ∈ (shM cy).1 := xPairs_mem (l := kindsM) (n := 1) (by decide) hi
theorem kM_26 {i : Nat} (cy : Nat → ClassId) (hi : i < 1) : (26, i) ∈ (shM cy).1 := xPairs_mem (l := kindsM) (n := 1) (by decide) hi
theorem kM_27 {i : Nat} (cy : Nat → ClassId) (hi : i < 1) : (27, i) ∈ (shM cy).1 := xPairs_mem (l := kindsM) (n := 1) (by decide) hi
theorem kM_28 {i : Nat} (cy : Nat → ClassId) (hi : i < 1) : (28, i) ∈ (shM cy).1 := xPairs_mem (l := kindsM) (n := 1) (by decide) hi
theorem kM_29 {i : Nat} (cy : Nat → ClassId) (hi : i < 1) : (29, i) ∈ (shM cy).1 := xPairs_mem (l := kindsM) (n := 1) (by decide) hi
theorem kM_30 {i : Nat} (cy : Nat → ClassId) (hi : i < 1) : (30, i) ∈ (shM cy).1 := xPairs_mem (l := kindsM) (n := 1) (by decide) hi
theorem kM_31 {i : Nat} (cy : Nat → ClassId) (hi : i < 1) : (31, i) ∈ (shM cy).1 := xPairs_mem (l := kindsM) (n := 1) (by decide) hi
theorem kM_32 {i : Nat} (cy : Nat → ClassId) (hi : i < 1) : (32, i) ∈ (shM cy).1 := xPairs_mem (l := kindsM) (n := 1) (by decide) hi
theorem kM_34 {i : Nat} (cy : Nat → ClassId) (hi : i < 1) : (34, i) ∈ (shM cy).1 := xPairs_mem (l := kindsM) (n := 1) (by decide) hi
theorem kM_36 {i : Nat} (cy : Nat → ClassId) (hi : i < 1) : (36, i) ∈ (shM cy).1 := xPairs_mem (l := kindsM) (n := 1) (by decide) hi
theorem kM_40 {i : Nat} (cy : Nat → ClassId) (hi : i < 1) : (40, i) ∈ (shM cy).1 := xPairs_mem (l := kindsM) (n := 1) (by decide) hi
