def cp4 (a b c d : Nat) : Nat := a + 256 * b + 65536 * c + 16777216 * d
theorem and_split {a b k K : Nat} (ha : a < 256) (hk : k < 256) : (a + 256 * b) &&& (k + 256 * K) = (a &&& k) + 256 * (b &&& K) := by
  have h1 : ∀ j, (a + 256 * b).testBit j = if j < 8 then a.testBit j else b.testBit (j - 8) := fun j => by
    rw [Nat.add_comm, show (256 : Nat) = 2 ^ 8 from rfl, Nat.testBit_two_pow_mul_add _ (by omega)]
  have h2 : ∀ j, (k + 256 * K).testBit j = if j < 8 then k.testBit j else K.testBit (j - 8) := fun j => by
    rw [Nat.add_comm, show (256 : Nat) = 2 ^ 8 from rfl, Nat.testBit_two_pow_mul_add _ (by omega)]
  have h3 : ∀ j, ((a &&& k) + 256 * (b &&& K)).testBit j = if j < 8 then (a &&& k).testBit j else (b &&& K).testBit (j - 8) := fun j => by
    have : a &&& k < 2 ^ 8 := Nat.lt_of_le_of_lt Nat.and_le_left ha
    rw [Nat.add_comm, show (256 : Nat) = 2 ^ 8 from rfl, Nat.testBit_two_pow_mul_add _ this]
  apply Nat.eq_of_testBit_eq
  intro j
  rw [Nat.testBit_and, h1, h2, h3]
  by_cases c : j < 8
  · rw [if_pos c, if_pos c, if_pos c, Nat.testBit_and]
  · rw [if_neg c, if_neg c, if_neg c, Nat.testBit_and]
theorem and_cp4 {a b c d x y z w : Nat} (ha : a < 256) (hb : b < 256) (hc : c < 256) (hx : x < 256) (hy : y < 256) (hz : z < 256) : cp4 a b c d &&& cp4 x y z w = cp4 (a &&& x) (b &&& y) (c &&& z) (d &&& w) := by
  have e : ∀ a b c d, cp4 a b c d = a + 256 * (b + 256 * (c + 256 * d)) := fun a b c d => by unfold cp4; omega
  rw [e, e, e, and_split ha hx, and_split hb hy, and_split hc hz]
theorem bc_1 : ∀ a : Fin 256, ∀ e : Fin 2, (a.val / 2 + 128 * e.val) &&& 85 = (a.val / 2) &&& 85 ∧ (a.val / 2) &&& 85 ≤ a.val := by decide +kernel
theorem bc_2 : ∀ a : Fin 256, ∀ e : Fin 4, (a.val / 4 + 64 * e.val) &&& 51 = (a.val / 4) &&& 51 ∧ (a.val &&& 51) + ((a.val / 4) &&& 51) ≤ 102 := by decide +kernel
def bcY (a : Nat) : Nat := a - ((a / 2) &&& 85)
def bcZ (a : Nat) : Nat := (bcY a &&& 51) + ((bcY a / 4) &&& 51)
def bcC (a : Nat) : Nat := (bcZ a + bcZ a / 16) &&& 15
def cntB (f : Nat → Bool) : Nat → Nat
  | 0 => 0
  | k + 1 => cntB f k + (if f k = true then 1 else 0)
theorem bc_3 : ∀ a : Fin 256, bcZ a.val ≤ 68 ∧ bcZ a.val % 16 ≤ 4 ∧ bcC a.val = cntB a.val.testBit 8 ∧ cntB a.val.testBit 8 ≤ 8 := by decide +kernel
theorem bc_4 : ∀ z : Fin 69, ∀ e : Fin 5, (z.val + z.val / 16 + 16 * e.val) &&& 15 = (z.val + z.val / 16) &&& 15 := by decide +kernel
theorem bc_sh {x k : Nat} (hx : x < 4294967296) (hk : k < 32) : ((Int32.toUInt32 (nI x) >>> (Int32.toUInt32 (nI k) &&& Int32.toUInt32 31)).toInt32) = nI (x / 2 ^ k) := by
  have e1 : Int32.toUInt32 (nI x) = UInt32.ofNat x := rfl
  have e2 : (Int32.toUInt32 (nI k) &&& Int32.toUInt32 31) = UInt32.ofNat k := by
    apply UInt32.toNat_inj.mp
    show (UInt32.ofNat k &&& 31).toNat = _
    rw [UInt32.toNat_and, UInt32.toNat_ofNat', Nat.mod_eq_of_lt (by omega), show (31 : UInt32).toNat = 2 ^ 5 - 1 from rfl, Nat.and_two_pow_sub_one_eq_mod, Nat.mod_eq_of_lt (by omega)]
  rw [e1, e2]
  have e3 : UInt32.ofNat x >>> UInt32.ofNat k = UInt32.ofNat (x / 2 ^ k) := by
    apply UInt32.toNat_inj.mp
    have : x / 2 ^ k ≤ x := Nat.div_le_self _ _
    rw [UInt32.toNat_shiftRight, UInt32.toNat_ofNat', UInt32.toNat_ofNat', UInt32.toNat_ofNat', Nat.mod_eq_of_lt (by omega), Nat.mod_eq_of_lt (a := k) (by omega), Nat.mod_eq_of_lt (a := x / 2 ^ k) (by omega), Nat.mod_eq_of_lt hk, Nat.shiftRight_eq_div_pow]
  rw [e3]
  rfl
theorem bc_byte {a b c d : Nat} (ha : a < 256) (hb : b < 256) (hc : c < 256) (hd : d < 64) :
    ∃ c0 c1 c2 c3, c0 = bcC a ∧ c1 = bcC b ∧ c2 = bcC c ∧ c3 = bcC d ∧
    (let m := cp4 a b c d
     let y := m - ((m / 2) &&& 1431655765)
     let z := (y &&& 858993459) + ((y / 4) &&& 858993459)
     let w := (z + z / 16) &&& 252645135
     y ≤ m ∧ y < 2147483648 ∧ z < 2147483648 ∧ z + z / 16 < 2147483648 ∧ w = cp4 c0 c1 c2 c3) := by
  refine ⟨_, _, _, _, rfl, rfl, rfl, rfl, ?_⟩
  obtain ⟨a1, a2⟩ := bc_1 ⟨a, ha⟩ ⟨b % 2, by omega⟩
  obtain ⟨b1, b2⟩ := bc_1 ⟨b, hb⟩ ⟨c % 2, by omega⟩
  obtain ⟨c1, c2⟩ := bc_1 ⟨c, hc⟩ ⟨d % 2, by omega⟩
  obtain ⟨d1, d2⟩ := bc_1 ⟨d, by omega⟩ ⟨0, by omega⟩
  dsimp only at a1 a2 b1 b2 c1 c2 d1 d2
  have m2 : cp4 a b c d / 2 = cp4 (a / 2 + 128 * (b % 2)) (b / 2 + 128 * (c % 2)) (c / 2 + 128 * (d % 2)) (d / 2) := by unfold cp4; omega
  have k1 : (1431655765 : Nat) = cp4 85 85 85 85 := rfl
  have h2 : cp4 a b c d / 2 &&& 1431655765 = cp4 ((a / 2) &&& 85) ((b / 2) &&& 85) ((c / 2) &&& 85) ((d / 2) &&& 85) := by
    rw [m2, k1, and_cp4 (by omega) (by omega) (by omega) (by omega) (by omega) (by omega), a1, b1, c1]
  have ey : cp4 a b c d - (cp4 a b c d / 2 &&& 1431655765) = cp4 (bcY a) (bcY b) (bcY c) (bcY d) := by
    rw [h2]; unfold cp4 bcY; omega
  have ya : bcY a ≤ a := Nat.sub_le _ _
  have yb : bcY b ≤ b := Nat.sub_le _ _
  have yc : bcY c ≤ c := Nat.sub_le _ _
  have yd : bcY d ≤ d := Nat.sub_le _ _
  dsimp only
  rw [ey]
  obtain ⟨p1, p2⟩ := bc_2 ⟨bcY a, by omega⟩ ⟨bcY b % 4, by omega⟩
  obtain ⟨q1, q2⟩ := bc_2 ⟨bcY b, by omega⟩ ⟨bcY c % 4, by omega⟩
  obtain ⟨r1, r2⟩ := bc_2 ⟨bcY c, by omega⟩ ⟨bcY d % 4, by omega⟩
  obtain ⟨s1, s2⟩ := bc_2 ⟨bcY d, by omega⟩ ⟨0, by omega⟩
  dsimp only at p1 p2 q1 q2 r1 r2 s1 s2
  have k2 : (858993459 : Nat) = cp4 51 51 51 51 := rfl
  have m4 : cp4 (bcY a) (bcY b) (bcY c) (bcY d) / 4 = cp4 (bcY a / 4 + 64 * (bcY b % 4)) (bcY b / 4 + 64 * (bcY c % 4)) (bcY c / 4 + 64 * (bcY d % 4)) (bcY d / 4) := by unfold cp4; omega
  have ez : (cp4 (bcY a) (bcY b) (bcY c) (bcY d) &&& 858993459) + (cp4 (bcY a) (bcY b) (bcY c) (bcY d) / 4 &&& 858993459) = cp4 (bcZ a) (bcZ b) (bcZ c) (bcZ d) := by
    rw [m4, k2, and_cp4 (by omega) (by omega) (by omega) (by omega) (by omega) (by omega), and_cp4 (by omega) (by omega) (by omega) (by omega) (by omega) (by omega), p1, q1, r1]
    unfold cp4 bcZ; omega
  rw [ez]
  obtain ⟨za, za4, _⟩ := bc_3 ⟨a, ha⟩
  obtain ⟨zb, zb4, _⟩ := bc_3 ⟨b, hb⟩
  obtain ⟨zc, zc4, _⟩ := bc_3 ⟨c, hc⟩
  obtain ⟨zd, zd4, _⟩ := bc_3 ⟨d, by omega⟩
  dsimp only at za zb zc zd za4 zb4 zc4 zd4
  have u1 := bc_4 ⟨bcZ a, by omega⟩ ⟨bcZ b % 16, by omega⟩
  have u2 := bc_4 ⟨bcZ b, by omega⟩ ⟨bcZ c % 16, by omega⟩
  have u3 := bc_4 ⟨bcZ c, by omega⟩ ⟨bcZ d % 16, by omega⟩
  dsimp only at u1 u2 u3
  have m16 : cp4 (bcZ a) (bcZ b) (bcZ c) (bcZ d) + cp4 (bcZ a) (bcZ b) (bcZ c) (bcZ d) / 16 = cp4 (bcZ a + bcZ a / 16 + 16 * (bcZ b % 16)) (bcZ b + bcZ b / 16 + 16 * (bcZ c % 16)) (bcZ c + bcZ c / 16 + 16 * (bcZ d % 16)) (bcZ d + bcZ d / 16) := by unfold cp4; omega
  have k3 : (252645135 : Nat) = cp4 15 15 15 15 := rfl
  refine ⟨?_, ?_, ?_, ?_, ?_⟩
  · unfold cp4; omega
  · unfold cp4; omega
  · unfold cp4; omega
  · unfold cp4; omega
  · rw [m16, k3, and_cp4 (by omega) (by omega) (by omega) (by omega) (by omega) (by omega), u1, u2, u3]
    rfl
theorem cntB_split {a b : Nat} (ha : a < 256) : ∀ k, cntB (a + 256 * b).testBit (8 + k) = cntB a.testBit 8 + cntB b.testBit k
  | 0 => by
    have h1 : ∀ j, j < 8 → (a + 256 * b).testBit j = a.testBit j := fun j hj => by
      rw [Nat.add_comm, show (256 : Nat) = 2 ^ 8 from rfl, Nat.testBit_two_pow_mul_add _ (by omega), if_pos hj]
    have : ∀ k, k ≤ 8 → cntB (a + 256 * b).testBit k = cntB a.testBit k := by
      intro k
      induction k with
      | zero => intro _; rfl
      | succ k ih =>
        intro hk
        show cntB _ k + _ = cntB _ k + _
        rw [ih (by omega), h1 k (by omega)]
    exact this 8 (by omega)
  | k + 1 => by
    show cntB (a + 256 * b).testBit (8 + k) + (if (a + 256 * b).testBit (8 + k) = true then 1 else 0) = cntB a.testBit 8 + (cntB b.testBit k + (if b.testBit k = true then 1 else 0))
    rw [cntB_split ha k]
    have e : (a + 256 * b).testBit (8 + k) = b.testBit k := by
      rw [Nat.add_comm a, show (256 : Nat) = 2 ^ 8 from rfl, Nat.testBit_two_pow_mul_add _ (by omega), if_neg (by omega), Nat.add_sub_cancel_left]
    rw [e]
    omega
theorem bc_dvd {m : Nat} (hm : m < 1073741824) : ∃ a b c d, a < 256 ∧ b < 256 ∧ c < 256 ∧ d < 64 ∧ m = cp4 a b c d := by
  refine ⟨m % 256, m / 256 % 256, m / 65536 % 256, m / 16777216, by omega, by omega, by omega, by omega, ?_⟩
  unfold cp4
  omega
theorem bc_fin {a b c d : Nat} (ha : a ≤ 8) (hb : b ≤ 8) (hc : c ≤ 8) (hd : d ≤ 8) : (cp4 a b c d + cp4 a b c d / 2 ^ 8 + (cp4 a b c d + cp4 a b c d / 2 ^ 8) / 2 ^ 16) &&& 63 = a + b + c + d := by
  have h1 : cp4 a b c d / 2 ^ 8 = b + 256 * c + 65536 * d := by unfold cp4; omega
  have h2 : (cp4 a b c d + (b + 256 * c + 65536 * d)) / 2 ^ 16 = c + d + 256 * d := by unfold cp4; omega
  rw [show 63 = 2 ^ 6 - 1 from rfl, Nat.and_two_pow_sub_one_eq_mod, h1, h2]
  unfold cp4
  omega
theorem w_bitCount {m : Nat} {S : xS} {Q : Int32 → xS → Prop} (hm : m < 1073741824) (k : Q (nI (cntB m.testBit 32)) S) : wp_J6_bitCount_0f7a4 (nI m) S Q := by
  obtain ⟨a, b, c, d, ha, hb, hc, hd, e⟩ := bc_dvd hm
  obtain ⟨c0, c1, c2, c3, e0, e1, e2, e3, h1, h2, h3, h4, h5⟩ := bc_byte ha hb hc hd
  rw [← e] at h1 h2 h3 h4 h5
  obtain ⟨_, _, f0, g0⟩ := bc_3 ⟨a, ha⟩
  obtain ⟨_, _, f1, g1⟩ := bc_3 ⟨b, hb⟩
  obtain ⟨_, _, f2, g2⟩ := bc_3 ⟨c, hc⟩
  obtain ⟨_, _, f3, g3⟩ := bc_3 ⟨d, by omega⟩
  dsimp only at f0 f1 f2 f3 g0 g1 g2 g3
  have es : cntB m.testBit 32 = c0 + c1 + c2 + c3 := by
    have : m = a + 256 * (b + 256 * (c + 256 * d)) := by rw [e]; unfold cp4; omega
    rw [this, show 32 = 8 + 24 from rfl, cntB_split ha 24, show 24 = 8 + 16 from rfl, cntB_split hb 16, show 16 = 8 + 8 from rfl, cntB_split hc 8]
    omega
  unfold wp_J6_bitCount_0f7a4
  have l1 : (1431655765 : Int32) = nI 1431655765 := rfl
  have l2 : (858993459 : Int32) = nI 858993459 := rfl
  have l3 : (252645135 : Int32) = nI 252645135 := rfl
  have l16 : (16 : Int32) = nI 16 := rfl
  have l63 : (63 : Int32) = nI 63 := rfl
  rw [nl1, bc_sh (by omega) (by omega), l1, nI_and, vv_sub (Nat.le_trans Nat.and_le_left (by omega)) (by omega)]
  rw [show m / 2 ^ 1 = m / 2 from rfl]
  generalize m - (m / 2 &&& 1431655765) = y at *
  rw [l2, nI_and, nl2, bc_sh (by omega) (by omega), nI_and, nI_add, show y / 2 ^ 2 = y / 4 from rfl]
  generalize (y &&& 858993459) + (y / 4 &&& 858993459) = z at *
  rw [nl4, bc_sh (by omega) (by omega), nI_add, l3, nI_and, show z / 2 ^ 4 = z / 16 from rfl]
  rw [h5]
  have w1 : cp4 c0 c1 c2 c3 < 2147483648 := by unfold cp4; omega
  rw [nl8, bc_sh (by omega) (by omega), nI_add, l16]
  have w2 : cp4 c0 c1 c2 c3 + cp4 c0 c1 c2 c3 / 2 ^ 8 < 4294967296 := by
    have : cp4 c0 c1 c2 c3 / 2 ^ 8 ≤ cp4 c0 c1 c2 c3 := Nat.div_le_self _ _
    omega
  rw [bc_sh w2 (by omega), nI_add, l63, nI_and]
  rw [es] at k
  have fin : (cp4 c0 c1 c2 c3 + cp4 c0 c1 c2 c3 / 2 ^ 8 + (cp4 c0 c1 c2 c3 + cp4 c0 c1 c2 c3 / 2 ^ 8) / 2 ^ 16) &&& 63 = c0 + c1 + c2 + c3 := bc_fin (by omega) (by omega) (by omega) (by omega)
  rw [fin]
  exact k
theorem cntB_slo {f : Nat → Bool} : ∀ k, cntB (fun p => f (slo p)) (k + 1) = (if f 24 = true then 1 else 0) + cntB f k
  | 0 => by
    show 0 + (if f (slo 0) = true then 1 else 0) = _ + 0
    rw [show slo 0 = 24 from rfl]
    omega
  | k + 1 => by
    show cntB (fun p => f (slo p)) (k + 1) + (if f (slo (k + 1)) = true then 1 else 0) = _ + (cntB f k + (if f k = true then 1 else 0))
    rw [cntB_slo k, show slo (k + 1) = k from rfl]
    omega
theorem cntB_fr {f f' : Nat → Bool} : ∀ k, (∀ j, j < k → f' j = f j) → cntB f' k = cntB f k
  | 0, _ => rfl
  | k + 1, h => by
    show cntB f' k + _ = cntB f k + _
    rw [cntB_fr k (fun j hj => h j (by omega)), h k (by omega)]
theorem cntB_le {f : Nat → Bool} : ∀ k, cntB f k ≤ k
  | 0 => Nat.le_refl 0
  | k + 1 => by
    have := cntB_le (f := f) k
    show cntB f k + _ ≤ k + 1
    split <;> omega
theorem cntB_hi {f : Nat → Bool} {a : Nat} : ∀ k, (∀ j, a ≤ j → j < a + k → f j = false) → cntB f (a + k) = cntB f a
  | 0, _ => rfl
  | k + 1, h => by
    show cntB f (a + k) + (if f (a + k) = true then 1 else 0) = _
    rw [cntB_hi k (fun j h1 h2 => h j h1 (by omega)), h (a + k) (by omega) (by omega), if_neg (by decide)]
    rfl
theorem bits_fl {S : xS} {T t m : Nat} {r : Nat → Int32} (hm : m < 2 ^ 25) (hb : ∀ pl, pl < 25 → m.testBit pl = decide (fl r t (slo pl) = 1)) : cntB m.testBit 32 = cntB (fun s => decide (fl r t s = 1)) 25 := by
  rw [show 32 = 25 + 7 from rfl, cntB_hi 7 (fun j h1 h2 => Nat.testBit_lt_two_pow (Nat.lt_of_lt_of_le hm (Nat.pow_le_pow_right (by omega) h1)))]
  rw [cntB_fr 25 hb, cntB_slo (f := fun s => decide (fl r t s = 1)) 24]
  exact Nat.add_comm _ _
theorem w7_count {M : xS} {g t : Nat} {Q : Int32 → xS → Prop} (hg : g < 6) (ht : t < 5) (k : Q (nI (cntB (fun s => decide (fl (mrow M g) t s = 1)) 25)) M) : ∃ n, wp_X7_touchedCount_19 (nI g) (nI t) Q n M 0 0 := by
  refine wl2 (wp_X7_touchedCount_19 (nI g) (nI t) Q) (fun K => wp_X7_touchedCount_19_b (nI g) (nI t) K Q) (fun _ _ _ _ => rfl)
    (fun M' v w => M' = M ∧ ∃ j, j ≤ 25 ∧ w = nI j ∧ v = nI (cntB (fun s => decide (fl (mrow M g) t s = 1)) j)) (fun _ _ w => 25 - w.toNatClampNeg) ⟨rfl, 0, by omega, rfl, rfl⟩ ?_
  rintro M' v w K ⟨rfl, j, hj, rfl, rfl⟩ hK
  unfold wp_X7_touchedCount_19_b wp_X7_touchedCount_44
  by_cases c : j = 25
  · subst c
    exact gt (by rw [nl24, vv_lt (by omega) (by omega)]; omega) k
  · have fin : ∀ x : Int32, x = nI (cntB (fun s => decide (fl (mrow M' g) t s = 1)) (j + 1)) → K M' x (nI j + 1) := fun x hx => by
      rw [nI_1]
      exact hK _ _ _ ⟨rfl, j + 1, by omega, rfl, hx⟩ (by rw [vv_clI (by omega), vv_clI (by omega)]; omega)
    have es : cntB (fun s => decide (fl (mrow M' g) t s = 1)) (j + 1) = cntB (fun s => decide (fl (mrow M' g) t s = 1)) j + (if decide (fl (mrow M' g) t j = 1) = true then 1 else 0) := rfl
    refine gf (by rw [nl24, vv_lt (by omega) (by omega)]; omega) (v7_touches hg ht (by omega) ?_)
    by_cases cf : fl (mrow M' g) t j = 1
    · rw [decide_eq_true cf]
      refine g1 (fin _ ?_)
      rw [es, decide_eq_true cf, if_pos rfl, nI_1]
    · rw [decide_eq_false cf]
      refine g0 (fin _ ?_)
      rw [es, decide_eq_false cf, if_neg (by decide), nl0, nI_add]
theorem op_touchedCount {n : Nat} {S M : xS} {K : xS → xS → Prop} (I : Inv n S M) (a b : Int32) (hK : ∀ S' M', Inv (n + 1) S' M' → K S' M') :
    wp_X6_touchedCount a b S (fun r1 S1 => wp_X7_touchedCount a b M (fun r2 M1 => if r1 = r2 then K S1 M1 else False)) := by
  rcases tupErr I a b with ⟨e, e1, e2, e3, e4⟩ | ⟨g, t, rfl, rfl, hg, ht, e3, e4⟩
  · exact op_of (w6 := wp_X6_touchedCount a b S) (w7 := wp_X7_touchedCount a b M) (r := e) (fun Q k => e3 _ (gf e1 k)) (fun Q k => e4 _ (gf e2 k)) (hK _ _ I.next)
  · obtain ⟨d1, d2, d3⟩ := I.2.1.2.2.1 g hg
    have hg6 := I.2.1.1.1
    have hT := d2.2.2.2.1.1
    have hid := I.2.1.2.1.1 g (by omega) t (by omega)
    obtain ⟨m, u1, u2, u3⟩ := (d1.2.2.2.2.2.2.2.2 t ht).2.1
    refine op_of (w6 := wp_X6_touchedCount (nI g) (nI t) S) (w7 := wp_X7_touchedCount (nI g) (nI t) M) (r := nI (cntB (fun s => decide (fl (mrow M g) t s = 1)) 25)) (fun Q k => e3 _ (g0 ⟨vv_in (by omega) (by omega), ⟨vv_in (by omega) (by omega), ?_⟩, ?_⟩)) (fun Q k => e4 _ (gt (by decide) (w7_count (by omega) (by omega) k))) (hK _ _ I.next)
    · rw [vv_clI (by omega), vv_clI (by omega)]; omega
    · rw [vv_clI (by omega), vv_clI (by omega), u1]
      exact w_bitCount (by omega) (by rw [bits_fl (S := S) (T := 0) u2 u3]; exact k)
