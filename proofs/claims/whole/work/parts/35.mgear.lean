-- the reference's acts: a train put in
section Gear1
variable {h : Hp} {m : Nat} {A : HV}
theorem ix_7 : ix 7 = 7 := by decide
/-- upper and lower of the train that the reference looks at -/
theorem mUL_t (H : MdR h m A) (V : VA A) {x0 x1 x2 x3 : Int} (e0 : (gi h (m + 7) 0).toInt = x0) (e1 : (gi h (m + 7) 1).toInt = x1) (e2 : (gi h (m + 7) 2).toInt = x2) (e3 : (gi h (m + 7) 3).toInt = x3) (r0 : 0 ≤ x0 ∧ x0 < A 0 4) (r1 : 0 ≤ x1 ∧ x1 < A 0 4) (r2 : gi h m 18 = 4 → (0 ≤ x2 ∧ x2 < A 0 4) ∧ 0 ≤ x3 ∧ x3 < A 0 4) :
    (mUp h m).toInt = te A x0 * (if gi h m 18 = 4 then te A x2 else 1) ∧ (mLw h m).toInt = te A x1 * (if gi h m 18 = 4 then te A x3 else 1) ∧ (0 < (mUp h m).toInt ∧ (mUp h m).toInt ≤ 10000) ∧ (0 < (mLw h m).toInt ∧ (mLw h m).toInt ≤ 10000) ∧ inb (41 + gi h (m + 7) (ix 0)) 732 ∧ (gi h m 18 = 4 → inb (41 + gi h (m + 7) (ix 2)) 732) ∧ inb (41 + gi h (m + 7) (ix 1)) 732 ∧ (gi h m 18 = 4 → inb (41 + gi h (m + 7) (ix 3)) 732) := by
  unfold mUp mLw
  rw [ix_0, ix_1, ix_2, ix_3]
  obtain ⟨a1, a2, a3, a4⟩ := H.tth V (g := gi h (m + 7) 0) (by omega) (by omega)
  obtain ⟨b1, b2, b3, b4⟩ := H.tth V (g := gi h (m + 7) 1) (by omega) (by omega)
  rw [e0] at a2 a3 a4
  rw [e1] at b2 b3 b4
  have l1 : (Int32.toInt64 1).toInt = 1 := rfl
  by_cases h4 : gi h m 18 = 4
  · obtain ⟨q2, q3⟩ := r2 h4
    obtain ⟨c1, c2, c3, c4⟩ := H.tth V (g := gi h (m + 7) 2) (by omega) (by omega)
    obtain ⟨d1, d2, d3, d4⟩ := H.tth V (g := gi h (m + 7) 3) (by omega) (by omega)
    rw [e2] at c2 c3 c4
    rw [e3] at d2 d3 d4
    rw [if_pos h4, if_pos h4, if_pos h4, if_pos h4]
    have m1 := mul_bd (a := te A x0) (b := te A x2) (M := 100) (K := 100) (by omega) (by omega) (by omega) (by omega)
    have m2 := mul_bd (a := te A x1) (b := te A x3) (M := 100) (K := 100) (by omega) (by omega) (by omega) (by omega)
    have m3 : 0 < te A x0 * te A x2 := Int.mul_pos (by omega) (by omega)
    have m4 : 0 < te A x1 * te A x3 := Int.mul_pos (by omega) (by omega)
    have t1 : ((gi h (m + 3) (ix (41 + gi h (m + 7) 0))).toInt64 * (gi h (m + 3) (ix (41 + gi h (m + 7) 2))).toInt64).toInt = te A x0 * te A x2 := by rw [lmul_t] <;> rw [i2l_t, i2l_t, a2, c2] <;> omega
    have t2 : ((gi h (m + 3) (ix (41 + gi h (m + 7) 1))).toInt64 * (gi h (m + 3) (ix (41 + gi h (m + 7) 3))).toInt64).toInt = te A x1 * te A x3 := by rw [lmul_t] <;> rw [i2l_t, i2l_t, b2, d2] <;> omega
    exact ⟨t1, t2, by omega, by omega, a1, fun _ => c1, b1, fun _ => d1⟩
  · rw [if_neg h4, if_neg h4, if_neg h4, if_neg h4]
    have t1 : ((gi h (m + 3) (ix (41 + gi h (m + 7) 0))).toInt64 * Int32.toInt64 1).toInt = te A x0 * 1 := by rw [lmul_t] <;> rw [i2l_t, l1, a2] <;> omega
    have t2 : ((gi h (m + 3) (ix (41 + gi h (m + 7) 1))).toInt64 * Int32.toInt64 1).toInt = te A x1 * 1 := by rw [lmul_t] <;> rw [i2l_t, l1, b2] <;> omega
    exact ⟨t1, t2, by omega, by omega, a1, fun q => absurd q h4, b1, fun q => absurd q h4⟩
/-- the first i gears are gears, all unlike -/
def okG (g : Nat → Int) (n : Int) (i : Nat) : Prop := ∀ j, j < i → (0 ≤ g j ∧ g j < n) ∧ ∀ k, k < j → g k ≠ g j
theorem okG_2 {g : Nat → Int} {A : HV} : okG g (A 0 4) 2 ↔ prP A (g 0) (g 1) := by
  constructor
  · intro q
    have q0 := q 0 (by omega)
    have q1 := q 1 (by omega)
    exact ⟨q0.1.1, q0.1.2, q1.1.1, q1.1.2, q1.2 0 (by omega)⟩
  · rintro ⟨h1, h2, h3, h4, h5⟩ j hj
    have : j = 0 ∨ j = 1 := by omega
    rcases this with rfl | rfl
    · exact ⟨⟨h1, h2⟩, fun k hk => by omega⟩
    · refine ⟨⟨h3, h4⟩, fun k hk => ?_⟩
      have : k = 0 := by omega
      rw [this]; exact h5
theorem okG_4 {g : Nat → Int} {A : HV} : okG g (A 0 4) 4 ↔ prP A (g 0) (g 1) ∧ (prP A (g 2) (g 3) ∧ g 0 ≠ g 2 ∧ g 0 ≠ g 3 ∧ g 1 ≠ g 2 ∧ g 1 ≠ g 3) := by
  constructor
  · intro q
    have q0 := q 0 (by omega)
    have q1 := q 1 (by omega)
    have q2 := q 2 (by omega)
    have q3 := q 3 (by omega)
    exact ⟨⟨q0.1.1, q0.1.2, q1.1.1, q1.1.2, q1.2 0 (by omega)⟩, ⟨q2.1.1, q2.1.2, q3.1.1, q3.1.2, q3.2 2 (by omega)⟩, q2.2 0 (by omega), q3.2 0 (by omega), q2.2 1 (by omega), q3.2 1 (by omega)⟩
  · rintro ⟨⟨h1, h2, h3, h4, h5⟩, ⟨k1, k2, k3, k4, k5⟩, n1, n2, n3, n4⟩ j hj
    have : j = 0 ∨ j = 1 ∨ j = 2 ∨ j = 3 := by omega
    rcases this with rfl | rfl | rfl | rfl
    · exact ⟨⟨h1, h2⟩, fun k hk => by omega⟩
    · refine ⟨⟨h3, h4⟩, fun k hk => ?_⟩
      have : k = 0 := by omega
      rw [this]; exact h5
    · refine ⟨⟨k1, k2⟩, fun k hk => ?_⟩
      have : k = 0 ∨ k = 1 := by omega
      rcases this with rfl | rfl
      · exact n1
      · exact n3
    · refine ⟨⟨k3, k4⟩, fun k hk => ?_⟩
      have : k = 0 ∨ k = 1 ∨ k = 2 := by omega
      rcases this with rfl | rfl | rfl
      · exact n2
      · exact n4
      · exact k5
theorem mUn_0 {g : Int32} : mUn h m g = 0 ↔ ¬ ∀ i, i < ix g → (gi h (m + 7) i).toInt ≠ (gi h (m + 7) (ix g)).toInt := by
  unfold mUn
  have : (∀ i, i < ix g → gi h (m + 7) i ≠ gi h (m + 7) (ix g)) ↔ ∀ i, i < ix g → (gi h (m + 7) i).toInt ≠ (gi h (m + 7) (ix g)).toInt := by
    constructor
    · intro q i hi e; exact q i hi (Int32.toInt_inj.mp e)
    · intro q i hi e; exact q i hi (by rw [e])
  by_cases q : ∀ i, i < ix g → gi h (m + 7) i ≠ gi h (m + 7) (ix g)
  · rw [if_pos q]
    exact ⟨fun z => absurd z p1_ne, fun z => absurd (this.mp q) z⟩
  · rw [if_neg q]
    exact ⟨fun _ z => q (this.mpr z), fun _ => rfl⟩
end Gear1
section Gear2
variable {X : Ctx} {l : Launch} {D : Dt} {h : Hp} {m : Nat} {A : HV} {Q : Pq}
theorem ma_geared_loop (C : C_X10_gearedOne X) (H : MdR h m A) (V : VA A) {z s : Int32} (hz : z.toInt = 2 ∨ z.toInt = 4) {S : Prop} (hend : ∀ v : Int32, (v = 0 ↔ ¬ (S ∧ okG (fun j => (gi h (m + 7) j).toInt) (A 0 4) (ix z))) → Wj X 0 0 Q 69 [(0, .ref m), (5, .int s), (6, .int z), (7, .int v), (8, .int z)] [] h) (d : Nat) : ∀ (v i : Int32), 0 ≤ i.toInt → i.toInt + d = z.toInt → (v = 0 ↔ ¬ (S ∧ okG (fun j => (gi h (m + 7) j).toInt) (A 0 4) (ix i))) → Wj X 0 0 Q 69 [(0, .ref m), (5, .int s), (6, .int z), (7, .int v), (8, .int i)] [] h := by
  induction d with
  | zero =>
    intro v i hi hd hv
    have e : i = z := by rw [i32_eq]; omega
    rw [e] at hv ⊢
    exact hend v hv
  | succ d ih =>
    intro v i hi hd hv
    obtain ⟨x1, x2⟩ := ix_succ hi (by omega)
    have hk := ix_t hi
    have e4 := m1sub H V (Or.inr rfl)
    have stp : okG (fun j => (gi h (m + 7) j).toInt) (A 0 4) (ix (i + Int32.ofInt 1)) ↔ okG (fun j => (gi h (m + 7) j).toInt) (A 0 4) (ix i) ∧ (0 ≤ (gi h (m + 7) (ix i)).toInt ∧ (gi h (m + 7) (ix i)).toInt < A 0 4) ∧ ∀ k, k < ix i → (gi h (m + 7) k).toInt ≠ (gi h (m + 7) (ix i)).toInt := by
      rw [x1]
      constructor
      · intro q
        exact ⟨fun j hj => q j (by omega), q (ix i) (by omega)⟩
      · rintro ⟨q1, q2⟩ j hj
        by_cases e : j = ix i
        · rw [e]; exact q2
        · exact q1 j (by omega)
    refine V_X10_gearedOne_69 C ⟨fun q => ?_, fun _ => ⟨fun q => ih 0 _ (by omega) (by omega) ?_, fun q => ⟨H.1, ⟨by omega, by omega⟩, fun q1 => ih 0 _ (by omega) (by omega) ?_, fun q1 => ⟨fun q2 => ih 0 _ (by omega) (by omega) ?_, fun q2 => ih 1 _ (by omega) (by omega) ?_⟩⟩⟩⟩
    · rw [i32_le] at q; omega
    · rw [stp]
      exact ⟨fun _ w => hv.mp q ⟨w.1, w.2.1⟩, fun _ => rfl⟩
    · rw [btL_0, i2l_t, l0_t, i2l_t, ix_4, e4] at q1
      rw [stp]
      exact ⟨fun _ w => by have := w.2.2.1; omega, fun _ => rfl⟩
    · rw [mUn_0] at q2
      rw [stp]
      exact ⟨fun _ w => q2 w.2.2.2, fun _ => rfl⟩
    · rw [btL_0, i2l_t, l0_t, i2l_t, ix_4, e4] at q1
      rw [mUn_0] at q2
      rw [stp]
      have hv' := Classical.not_not.mp (fun w => q (hv.mpr w))
      exact ⟨fun w => absurd w p1_ne, fun w => absurd ⟨hv'.1, hv'.2, by omega, Classical.not_not.mp q2⟩ w⟩
/-- the gears of the train, or none, laid into the head -/
theorem ma_geared_lay (C : C_X10_gearedOne X) {h0 : Hp} (F : St10 h0 m) {z : Int32} (hz : z.toInt = 2 ∨ z.toInt = 4) (hend : ∀ h', FrA m h0 h' → (∀ c j, gl h' c j = gl h0 c j) → (∀ c j, ¬ (c = m + 3 ∧ 55 ≤ j ∧ j < 59) → gi h' c j = gi h0 c j) → (∀ j, j < 4 → (gi h' (m + 3) (55 + j)).toInt = if (j : Int) < z.toInt then (gi h0 (m + 7) j).toInt else -1) → Q (some (.int z)) h') (d : Nat) : ∀ (i : Int32) (h' : Hp), 0 ≤ i.toInt → i.toInt + d = 4 → FrA m h0 h' → (∀ c j, gl h' c j = gl h0 c j) → (∀ c j, ¬ (c = m + 3 ∧ 55 ≤ j ∧ j < 59) → gi h' c j = gi h0 c j) → (∀ j, j < ix i → (gi h' (m + 3) (55 + j)).toInt = if (j : Int) < z.toInt then (gi h0 (m + 7) j).toInt else -1) → Wj X 0 0 Q 176 [(0, .ref m), (6, .int z), (8, .int i)] [] h' := by
  induction d with
  | zero =>
    intro i h' hi hd f g1 g2 g3
    refine V_X10_gearedOne_176 C ⟨fun _ => hend h' f g1 g2 (fun j hj => g3 j (by unfold ix; omega)), fun q => ?_⟩
    rw [i32_le, i4_t] at q; omega
  | succ d ih =>
    intro i h' hi hd f g1 g2 g3
    obtain ⟨x1, x2⟩ := ix_succ hi (by omega)
    have hk := ix_t hi
    obtain ⟨y1, -⟩ := ix_add (c := 55) (v := i) (a := 55) (b := ix i) rfl hk.symm (by omega)
    have yb : inb (55 + i) 732 := inb_add (a := 55) (b := ix i) rfl hk.symm (by omega) (by omega)
    have go : ∀ v : Int32, (v.toInt = if ((ix i : Nat) : Int) < z.toInt then (gi h0 (m + 7) (ix i)).toInt else -1) → Wj X 0 0 Q 176 [(0, .ref m), (6, .int z), (8, .int (i + Int32.ofInt 1))] [] (si h' (m + 3) (ix (55 + i)) v) := by
      intro v hv
      rw [y1]
      refine ih _ _ (by omega) (by omega) (f.si (Or.inr (Or.inl ⟨rfl, by omega⟩))) (fun c j => g1 c j) (fun c j hc => ?_) (fun j hj => ?_)
      · rw [gi_si, if_neg (fun w => hc ⟨w.1, by omega, by omega⟩)]; exact g2 c j hc
      · rw [gi_si]
        by_cases e : j = ix i
        · rw [if_pos ⟨rfl, by omega⟩, e]; exact hv
        · rw [if_neg (by omega)]; exact g3 j (by omega)
    refine V_X10_gearedOne_176 C ⟨fun q => ?_, fun _ => ⟨f.st10 F, fun q => ⟨yb, go _ ?_⟩, fun q => ⟨⟨by omega, by omega⟩, yb, go _ ?_⟩⟩⟩
    · rw [i32_le, i4_t] at q; omega
    · rw [i32_le] at q; rw [if_neg (by omega)]; rfl
    · rw [i32_le] at q; rw [if_pos (by omega), g2 _ _ (by omega)]
/-- what is left behind for upper() and lower() -/
def gLeft (h' : Hp) (m : Nat) (A : HV) (a b c d : Int) : Prop := (mUp h' m).toInt = gupP A a c d ∧ (mLw h' m).toInt = glwP A b c d ∧ inb (41 + gi h' (m + 7) (ix 0)) 732 ∧ (gi h' m 18 = 4 → inb (41 + gi h' (m + 7) (ix 2)) 732) ∧ inb (41 + gi h' (m + 7) (ix 1)) 732 ∧ (gi h' m 18 = 4 → inb (41 + gi h' (m + 7) (ix 3)) 732)
theorem rd_eqv {u w a b : Int} (hw : 0 < w) (s : Int) : (rdU u w * s = a * rdL u w) ↔ (s * u = a * w) := by
  obtain ⟨r1, r2⟩ := rd_mul (u := u) hw
  have gp := gcd_pos' (u := u) hw
  generalize rdU u w = x at *
  generalize rdL u w = y at *
  generalize (Int.gcd u w : Int) = g at *
  have e1 : s * u = g * (x * s) := by rw [← r1]; simp only [Int.mul_assoc, Int.mul_left_comm, Int.mul_comm]
  have e2 : a * w = g * (a * y) := by rw [← r2]; simp only [Int.mul_assoc, Int.mul_left_comm, Int.mul_comm]
  rw [e1, e2]
  have gne : g ≠ 0 := by
    intro z
    rw [z, Int.zero_mul] at r2
    omega
  exact ⟨fun q => by rw [q], fun q => Int.eq_of_mul_eq_mul_left gne q⟩
theorem TrB.put {I : Nat → Int} {A : HV} {a b c d s : Int} (hok : okPut A a b c d s) (i55 : I 55 = a) (i56 : I 56 = b) (i57 : ¬ twoP c d → I 57 = c) (i58 : ¬ twoP c d → I 58 = d) (i59 : I 59 = s) : TrB I (putInV A (gupP A a c d) (glwP A b c d) s (if twoP c d then 2 else 4)) := by
  obtain ⟨-, pab, pcd⟩ := hok
  have B6 : putInV A (gupP A a c d) (glwP A b c d) s (if twoP c d then 2 else 4) 0 6 = if twoP c d then 2 else 4 := rfl
  have tB : ∀ x, te (putInV A (gupP A a c d) (glwP A b c d) s (if twoP c d then 2 else 4)) x = te A x := fun x => rfl
  have b4 : putInV A (gupP A a c d) (glwP A b c d) s (if twoP c d then 2 else 4) 0 4 = A 0 4 := rfl
  have b8 : putInV A (gupP A a c d) (glwP A b c d) s (if twoP c d then 2 else 4) 0 8 = rdU (gupP A a c d) (glwP A b c d) := rfl
  have b9 : putInV A (gupP A a c d) (glwP A b c d) s (if twoP c d then 2 else 4) 0 9 = rdL (gupP A a c d) (glwP A b c d) := rfl
  have b12 : putInV A (gupP A a c d) (glwP A b c d) s (if twoP c d then 2 else 4) 0 12 = s := rfl
  unfold TrB tuP tlP
  rw [tB, tB, tB, tB, b4, b8, b9, b12, i55, i56, i59, B6]
  unfold gupP glwP
  by_cases tw : twoP c d
  · rw [if_pos tw]
    have n4 : ¬ (2 : Int) = 4 := by decide
    rw [if_neg n4, if_neg n4, if_pos tw, if_pos tw]
    exact ⟨rfl, ⟨pab.1, pab.2.1⟩, ⟨pab.2.2.1, pab.2.2.2.1⟩, fun q => absurd q n4, rfl, rfl⟩
  · rw [if_neg tw, if_pos rfl, if_pos rfl, i57 tw, i58 tw, if_neg tw, if_neg tw]
    obtain ⟨pcd, -⟩ := pcd.resolve_left tw
    exact ⟨rfl, ⟨pab.1, pab.2.1⟩, ⟨pab.2.2.1, pab.2.2.2.1⟩, fun _ => ⟨⟨pcd.1, pcd.2.1⟩, pcd.2.2.1, pcd.2.2.2.1⟩, rfl, rfl⟩
theorem gLeft_of {h : Hp} {m : Nat} {A B : HV} {a b c d s : Int} {z : Int32} (H : MdR h m B) (VB : VA B) (e4 : B 0 4 = A 0 4) (e3 : ∀ x, te B x = te A x) (hok : okPut A a b c d s) (z4 : (z = 4) ↔ ¬ twoP c d) (e18 : gi h m 18 = z) (e0 : (gi h (m + 7) 0).toInt = a) (e1 : (gi h (m + 7) 1).toInt = b) (e2 : (gi h (m + 7) 2).toInt = c) (e3' : (gi h (m + 7) 3).toInt = d) : gLeft h m A a b c d ∧ (0 < (mUp h m).toInt ∧ (mUp h m).toInt ≤ 10000) ∧ (0 < (mLw h m).toInt ∧ (mLw h m).toInt ≤ 10000) := by
  obtain ⟨-, pab, pcd⟩ := hok
  obtain ⟨u1, u2, u3, u4, u5, u6, u7, u8⟩ := mUL_t H VB e0 e1 e2 e3' (by rw [e4]; exact ⟨pab.1, pab.2.1⟩) (by rw [e4]; exact ⟨pab.2.2.1, pab.2.2.2.1⟩) (fun q => by
    rw [e18] at q
    obtain ⟨pcd, -⟩ := pcd.resolve_left (z4.mp q)
    rw [e4]
    exact ⟨⟨pcd.1, pcd.2.1⟩, pcd.2.2.1, pcd.2.2.2.1⟩)
  refine ⟨⟨?_, ?_, u5, u6, u7, u8⟩, u3, u4⟩
  · rw [u1, e18, e3, e3]
    unfold gupP
    by_cases tw : twoP c d
    · rw [if_neg (fun q => z4.mp q tw), if_pos tw]
    · rw [if_pos (z4.mpr tw), if_neg tw]
  · rw [u2, e18, e3, e3]
    unfold glwP
    by_cases tw : twoP c d
    · rw [if_neg (fun q => z4.mp q tw), if_pos tw]
    · rw [if_pos (z4.mpr tw), if_neg tw]
set_option maxHeartbeats 4000000 in
theorem ma_gearedOne (H : MdR h m A) (V : VA A) {a b c d s : Int32} : S_X10_gearedOne l D 0 0 [.ref m, .int a, .int b, .int c, .int d, .int s] h (QI fun x h' => x.toInt = (putInP A a.toInt b.toInt c.toInt d.toInt s.toInt).1 ∧ MdR h' m (putInP A a.toInt b.toInt c.toInt d.toInt s.toInt).2 ∧ FrA m h h' ∧ (0 ≤ x.toInt → gLeft h' m A a.toInt b.toInt c.toInt d.toInt)) := Sp.of rfl (Nat.le_of_ble_eq_true rfl) (fun X C _ _ _ _ => by
  generalize hQ : (QI fun x h' => x.toInt = (putInP A a.toInt b.toInt c.toInt d.toInt s.toInt).1 ∧ MdR h' m (putInP A a.toInt b.toInt c.toInt d.toInt s.toInt).2 ∧ FrA m h h' ∧ (0 ≤ x.toInt → gLeft h' m A a.toInt b.toInt c.toInt d.toInt)) = Q
  have h0 : (gi h (m + 3) 0).toInt = A 0 0 := H.n (i := 0) (by omega)
  have w0 := V.worm
  -- with the gears laid down
  have p69 : ∀ (z : Int32) (h1 : Hp), (z.toInt = if twoP c.toInt d.toInt then 2 else 4) → FrA m h h1 → MdR h1 m A → (∀ cc j, gl h1 cc j = gl h cc j) → (gi h1 (m + 7) 0).toInt = a.toInt → (gi h1 (m + 7) 1).toInt = b.toInt → (gi h1 (m + 7) 2).toInt = c.toInt → (gi h1 (m + 7) 3).toInt = d.toInt → ∀ v : Int32, (v = 0 ↔ ¬ (s.toInt = 1 ∨ s.toInt = -1)) → Wj X 0 0 Q 69 [(0, .ref m), (5, .int s), (6, .int z), (7, .int v), (8, .int 0)] [] h1 := by
    intro z h1 hz f1 H1 hl e0 e1 e2 e3 v hv
    have hz2 : z.toInt = 2 ∨ z.toInt = 4 := by rw [hz]; split <;> simp
    have zp0 : ((0 : Nat) : Int) < z.toInt := by clear hv; rcases hz2 with e | e <;> rw [e] <;> decide
    have zp1 : ((1 : Nat) : Int) < z.toInt := by clear hv; rcases hz2 with e | e <;> rw [e] <;> decide
    have zf : ¬ twoP c.toInt d.toInt → z.toInt = 4 := fun tw => by rw [hz, if_neg tw]
    have okE : ((s.toInt = 1 ∨ s.toInt = -1) ∧ okG (fun j => (gi h1 (m + 7) j).toInt) (A 0 4) (ix z)) ↔ okPut A a.toInt b.toInt c.toInt d.toInt s.toInt := by
      unfold okPut
      by_cases tw : twoP c.toInt d.toInt
      · rw [if_pos tw] at hz
        have : ix z = 2 := by unfold ix; omega
        rw [this, okG_2, e0, e1]
        exact ⟨fun q => ⟨q.1, q.2, Or.inl tw⟩, fun q => ⟨q.1, q.2.1⟩⟩
      · rw [if_neg tw] at hz
        have : ix z = 4 := by unfold ix; omega
        rw [this, okG_4, e0, e1, e2, e3]
        exact ⟨fun q => ⟨q.1, q.2.1, Or.inr q.2.2⟩, fun q => ⟨q.1, q.2.1, q.2.2.resolve_left tw⟩⟩
    refine ma_geared_loop C H1 V hz2 (S := s.toInt = 1 ∨ s.toInt = -1) (fun v' hv' => ?_) (ix z) v 0 (by rw [i0_t]; omega) (by rw [i0_t]; unfold ix; omega) ⟨fun q w => hv.mp q w.1, fun q => hv.mpr (fun w => q ⟨w, fun j hj => by unfold ix at hj; rw [i0_t] at hj; simp at hj⟩)⟩
    rw [okE] at hv'
    have f2 : FrA m h1 (si h1 m 18 z) := FrW.rf.si (Or.inl ⟨rfl, rfl⟩)
    have H2 : MdR (si h1 m 18 z) m A := H1.fr V (FrW.rf.si (P := fun b j => b = m) (R := fun _ _ => False) rfl) (fun _ _ q => by omega) (fun _ _ => id)
    have g18 : gi (si h1 m 18 z) m 18 = z := by rw [gi_si, if_pos ⟨rfl, rfl⟩]
    have g7 : ∀ j, gi (si h1 m 18 z) (m + 7) j = gi h1 (m + 7) j := fun j => by rw [gi_si, if_neg (by omega)]
    have z4 : (z = 4) ↔ ¬ twoP c.toInt d.toInt := by
      rw [i32_eq, i4_t, hz]
      split
      · rename_i tw; exact ⟨fun q => absurd q (by decide), fun q => absurd tw q⟩
      · rename_i tw; exact ⟨fun _ => tw, fun _ => rfl⟩
    refine V_X10_gearedOne_69 C ⟨fun _ => ⟨fun q => ?_, fun q => ?_⟩, fun q => absurd (Int32.le_refl z) q⟩
    · have hok : okPut A a.toInt b.toInt c.toInt d.toInt s.toInt := Classical.not_not.mp (fun w => q (hv'.mpr w))
      obtain ⟨lf, lu, ll⟩ := gLeft_of H2 V rfl (fun _ => rfl) hok z4 g18 (by rw [g7, e0]) (by rw [g7, e1]) (by rw [g7, e2]) (by rw [g7, e3])
      obtain ⟨l1, l2, l3, l4, l5, l6⟩ := id lf
      have hs := hok.1
      have t1 : (s.toInt64 * mUp (si h1 m 18 z) m).toInt = s.toInt * gupP A a.toInt c.toInt d.toInt := by
        rw [lmul_t] <;> rw [i2l_t, l1] <;> rw [l1] at lu <;> rcases hs with e | e <;> rw [e] <;> omega
      have e00 : (gi (si h1 m 18 z) (m + 3) (ix 0)).toInt = A 0 0 := by rw [ix_0]; exact H2.n (i := 0) (by omega)
      have t2 : ((gi (si h1 m 18 z) (m + 3) (ix 0)).toInt64 * mLw (si h1 m 18 z) m).toInt = A 0 0 * glwP A b.toInt c.toInt d.toInt := by
        have m1 := mul_bd (a := A 0 0) (b := glwP A b.toInt c.toInt d.toInt) (M := 120) (K := 10000) (by omega) (by omega) (by omega) (by omega)
        rw [lmul_t] <;> rw [i2l_t, e00, l2] <;> omega
      have key := rd_eqv (u := gupP A a.toInt c.toInt d.toInt) (w := glwP A b.toInt c.toInt d.toInt) (a := A 0 0) (b := 0) (by omega) s.toInt
      refine ⟨H1.1, l3, l4, l5, l6, fun q2 => ?_, fun q2 => ?_⟩
      · rw [i64_eq, t1, t2, ← key] at q2
        refine V_X10_gearedOne_173 C (ma_geared_lay C (h0 := si (si (si h1 m 18 z) (m + 3) (ix 54) z) (m + 3) (ix 59) s) H1.1 hz2 (fun h4 f4 k1 k2 k3 => ?_) 4 0 _ (by rw [i0_t]; omega) (by rw [i0_t]; omega) FrW.rf (fun _ _ => rfl) (fun _ _ _ => rfl) (fun j hj => by unfold ix at hj; rw [i0_t] at hj; simp at hj))
        have f3 : FrA m h1 (si (si (si h1 m 18 z) (m + 3) (ix 54) z) (m + 3) (ix 59) s) := (f2.si (Or.inr (Or.inl ⟨rfl, by rw [ix_54]; omega⟩))).si (Or.inr (Or.inl ⟨rfl, by rw [ix_59]; omega⟩))
        have f5 := (f1.tr f3).tr f4
        have gg : ∀ cc j, ¬ (cc = m + 3 ∧ 54 ≤ j ∧ j < 60) → ¬ (cc = m ∧ j = 18) → gi h4 cc j = gi h1 cc j := fun cc j h1' h2' => by
          rw [k2 cc j (fun w => h1' ⟨w.1, by omega, by omega⟩), gi_si, ix_59, if_neg (fun w => h1' ⟨w.1, by omega, by omega⟩), gi_si, ix_54, if_neg (fun w => h1' ⟨w.1, by omega, by omega⟩), gi_si, if_neg h2']
        have gx : ∀ j, j < 4 → (gi h4 (m + 3) (55 + j)).toInt = if (j : Int) < z.toInt then (gi h1 (m + 7) j).toInt else -1 := fun j hj => by
          have e7 : gi (si (si (si h1 m 18 z) (m + 3) (ix 54) z) (m + 3) (ix 59) s) (m + 7) j = gi h1 (m + 7) j := by rw [gi_si, if_neg (by omega), gi_si, if_neg (by omega), gi_si, if_neg (by omega)]
          rw [k3 j hj, e7]
        have g54 : gi h4 (m + 3) 54 = z := by rw [k2 _ _ (by omega), gi_si, ix_59, if_neg (by omega), gi_si, ix_54, if_pos ⟨rfl, rfl⟩]
        have g59 : gi h4 (m + 3) 59 = s := by rw [k2 _ _ (by omega), gi_si, ix_59, if_pos ⟨rfl, rfl⟩]
        have gl4 : ∀ cc j, gl h4 cc j = gl h1 cc j := fun cc j => by rw [k1]; rfl
        rw [← hQ]
        refine ⟨z, rfl, ?_⟩
        unfold putInP
        rw [if_pos hok, if_neg q2]
        have B6 : putInV A (gupP A a.toInt c.toInt d.toInt) (glwP A b.toInt c.toInt d.toInt) s.toInt (if twoP c.toInt d.toInt then 2 else 4) 0 6 = z.toInt := by rw [hz]; rfl
        have HB : MdR h4 m (putInV A (gupP A a.toInt c.toInt d.toInt) (glwP A b.toInt c.toInt d.toInt) s.toInt (if twoP c.toInt d.toInt then 2 else 4)) := by
          refine ⟨f5.st10 H.1, H1.2.mach V (fun j hj => ?_) (fun i hi => ?_) (fun i j h1 h2 => ?_) ?_ ?_ ?_ ?_ ?_ (fun j hj => ?_) (fun _ => ?_)⟩
          · unfold mI; rw [gg _ _ (by omega) (by omega)]
          · unfold putInV; rw [uv_eq, if_neg (by omega), uv_eq, if_neg (by omega), uv_eq, if_neg (by omega), uv_eq, if_neg (by omega)]
          · unfold putInV; rw [uv_eq, if_neg (by omega), uv_eq, if_neg (by omega), uv_eq, if_neg (by omega), uv_eq, if_neg (by omega)]
          · unfold mI; rw [gg _ _ (by omega) (by omega)]; exact H1.circ
          · rw [B6]; unfold mI; rw [show 54 + 61 * 0 = 54 from rfl, g54]
          · unfold mI; rw [gg _ _ (by omega) (by omega)]; exact H1.marks
          · unfold mL; rw [gl4]; exact H1.up
          · unfold mL; rw [gl4]; exact H1.low
          · unfold mL; rw [gl4, gl4]; exact H1.mark hj
          · have i55 : mI h4 m 0 55 = a.toInt := by
              have := gx 0 (by decide)
              rw [if_pos zp0, e0] at this
              exact this
            have i56 : mI h4 m 0 56 = b.toInt := by
              have := gx 1 (by decide)
              rw [if_pos zp1, e1] at this
              exact this
            have i57 : ¬ twoP c.toInt d.toInt → mI h4 m 0 57 = c.toInt := fun tw => by
              have := gx 2 (by decide)
              rw [if_pos (by rw [zf tw]; decide), e2] at this
              exact this
            have i58 : ¬ twoP c.toInt d.toInt → mI h4 m 0 58 = d.toInt := fun tw => by
              have := gx 3 (by decide)
              rw [if_pos (by rw [zf tw]; decide), e3] at this
              exact this
            have i59 : mI h4 m 0 59 = s.toInt := by
              unfold mI
              rw [show 59 + 61 * 0 = 59 from rfl, g59]
            exact TrB.put hok i55 i56 i57 i58 i59
        refine ⟨hz, HB, f5, fun _ => ?_⟩
        have VB := V.putIn a.toInt b.toInt c.toInt d.toInt s.toInt
        unfold putInP at VB
        rw [if_pos hok, if_neg q2] at VB
        refine (gLeft_of HB VB rfl (fun _ => rfl) hok z4 ?_ ?_ ?_ ?_ ?_).1
        · rw [k2 _ _ (by omega), gi_si, if_neg (by omega), gi_si, if_neg (by omega)]; exact g18
        · rw [gg _ _ (by omega) (by omega), e0]
        · rw [gg _ _ (by omega) (by omega), e1]
        · rw [gg _ _ (by omega) (by omega), e2]
        · rw [gg _ _ (by omega) (by omega), e3]
      · rw [i64_eq, t1, t2, ← key] at q2
        rw [← hQ]
        refine ⟨_, rfl, ?_⟩
        unfold putInP
        rw [if_pos hok, if_pos q2]
        exact ⟨rfl, H2, f1.tr f2, fun q => by rw [im4_t] at q; omega⟩
    · rw [← hQ]
      refine ⟨_, rfl, ?_⟩
      unfold putInP
      rw [if_neg (hv'.mp q)]
      exact ⟨rfl, H1, f1, fun q => by rw [im1_t] at q; omega⟩
  have p16 : ∀ z : Int32, (z.toInt = if twoP c.toInt d.toInt then 2 else 4) → Wj X 0 0 Q 16 [(0, .ref m), (1, .int a), (2, .int b), (3, .int c), (4, .int d), (5, .int s)] [.int z] h := by
    intro z hz
    refine V_X10_gearedOne_16 C ⟨H.1, V_X10_gearedOne_39 C ⟨H.1, ?_⟩⟩
    rw [ix_0, ix_1, ix_2, ix_3]
    have f : FrA m h (si (si (si (si h (m + 7) 0 a) (m + 7) 1 b) (m + 7) 2 c) (m + 7) 3 d) := (((FrW.rf.si (Or.inr (Or.inr rfl))).si (Or.inr (Or.inr rfl))).si (Or.inr (Or.inr rfl))).si (Or.inr (Or.inr rfl))
    have HH : MdR (si (si (si (si h (m + 7) 0 a) (m + 7) 1 b) (m + 7) 2 c) (m + 7) 3 d) m A := H.fr V ((((FrW.rf.si (P := fun b _ => b = m + 7) (R := fun _ _ => False) rfl).si rfl).si rfl).si rfl) (fun _ _ q => by omega) (fun _ _ => id)
    have go := p69 z _ hz f HH (fun _ _ => rfl) (by simp [gi_si]) (by simp [gi_si]) (by simp [gi_si]) (by simp [gi_si])
    refine ⟨fun q => go 1 ?_, fun q => ⟨fun q1 => go 0 ?_, fun q1 => go 1 ?_⟩⟩
    all_goals rw [i32_eq, i1_t] at q
    all_goals try rw [i32_eq, im1_t] at q1
    · exact ⟨fun w => absurd w p1_ne, fun w => absurd (Or.inl q) w⟩
    · exact ⟨fun _ w => w.elim q q1, fun _ => rfl⟩
    · exact ⟨fun w => absurd w p1_ne, fun w => absurd (Or.inr q1) w⟩
  refine V_X10_gearedOne_0 C ⟨fun q => p16 4 ?_, fun q => ⟨fun q1 => p16 4 ?_, fun q1 => p16 2 ?_⟩⟩
  all_goals rw [i32_eq, im1_t] at q
  all_goals try rw [i32_eq, im1_t] at q1
  · rw [if_neg (fun w => q w.1)]; rfl
  · rw [if_neg (fun w => q1 w.2)]; rfl
  · rw [if_pos ⟨q, q1⟩]; rfl)
end Gear2
