-- the reference's heads: a block of its two rows as a head's value
/-- only the places P (ints) and R (longs) have other numbers -/
def FrW (P R : Nat → Nat → Prop) (h h' : Hp) : Prop := hn h' = hn h ∧ kd h' = kd h ∧ ln h' = ln h ∧ gr h' = gr h ∧ (∀ b j, ¬ P b j → gi h' b j = gi h b j) ∧ ∀ b j, ¬ R b j → gl h' b j = gl h b j
section FrWs
variable {P R P' R' : Nat → Nat → Prop} {h h' h1 h2 : Hp}
theorem FrW.rf : FrW P R h h := ⟨rfl, rfl, rfl, rfl, fun _ _ _ => rfl, fun _ _ _ => rfl⟩
theorem FrW.tr (f : FrW P R h h1) (g : FrW P R h1 h2) : FrW P R h h2 := by
  obtain ⟨f1, f2, f3, f4, f5, f6⟩ := f
  obtain ⟨g1, g2, g3, g4, g5, g6⟩ := g
  exact ⟨g1.trans f1, g2.trans f2, g3.trans f3, g4.trans f4, fun b j q => (g5 b j q).trans (f5 b j q), fun b j q => (g6 b j q).trans (f6 b j q)⟩
theorem FrW.mono (f : FrW P R h h') (st : ∀ b j, P b j → P' b j) (su : ∀ b j, R b j → R' b j) : FrW P' R' h h' := by
  obtain ⟨f1, f2, f3, f4, f5, f6⟩ := f
  exact ⟨f1, f2, f3, f4, fun b j q => f5 b j (fun z => q (st b j z)), fun b j q => f6 b j (fun z => q (su b j z))⟩
theorem FrW.si (f : FrW P R h h') {a k : Nat} {v : Int32} (ha : P a k) : FrW P R h (si h' a k v) := by
  obtain ⟨f1, f2, f3, f4, f5, f6⟩ := f
  refine ⟨f1, f2, f3, f4, fun b j q => ?_, f6⟩
  rw [gi_si, if_neg (fun z => q (by rw [z.1, z.2]; exact ha))]
  exact f5 b j q
theorem FrW.sl (f : FrW P R h h') {a k : Nat} {v : Int64} (ha : R a k) : FrW P R h (sl h' a k v) := by
  obtain ⟨f1, f2, f3, f4, f5, f6⟩ := f
  refine ⟨f1, f2, f3, f4, f5, fun b j q => ?_⟩
  rw [gl_sl, if_neg (fun z => q (by rw [z.1, z.2]; exact ha))]
  exact f6 b j q
theorem FrW.st10 (f : FrW P R h h') {m : Nat} (F : St10 h m) : St10 h' m := St10_same F f.2.1 f.2.2.1 f.2.2.2.1
theorem FrW.xi (f : FrW P R h h') {b j : Nat} (q : ¬ P b j) : gi h' b j = gi h b j := f.2.2.2.2.1 b j q
theorem FrW.xl (f : FrW P R h h') {b j : Nat} (q : ¬ R b j) : gl h' b j = gl h b j := f.2.2.2.2.2 b j q
end FrWs
def mI (h : Hp) (m b k : Nat) : Int := (gi h (m + 3) (k + 61 * b)).toInt
def mL (h : Hp) (m b k : Nat) : Int := (gl h (m + 4) (k + 122 * b)).toInt
def tuP (A : HV) (I : Nat → Int) : Int := te A (I 55) * (if A 0 6 = 4 then te A (I 57) else 1)
def tlP (A : HV) (I : Nat → Int) : Int := te A (I 56) * (if A 0 6 = 4 then te A (I 58) else 1)
def TrB (I : Nat → Int) (A : HV) : Prop := I 59 = A 0 12 ∧ (0 ≤ I 55 ∧ I 55 < A 0 4) ∧ (0 ≤ I 56 ∧ I 56 < A 0 4) ∧ (A 0 6 = 4 → (0 ≤ I 57 ∧ I 57 < A 0 4) ∧ 0 ≤ I 58 ∧ I 58 < A 0 4) ∧ A 0 8 = rdU (tuP A I) (tlP A I) ∧ A 0 9 = rdL (tuP A I) (tlP A I)
/-- a block that holds a head -/
def MB (I L : Nat → Int) (A : HV) : Prop :=
  (∀ i, i < 5 → I i = A 0 i) ∧ I 53 = A 0 5 ∧ I 54 = A 0 6 ∧ I 60 = A 0 7 ∧ L 0 = A 0 10 ∧ L 1 = A 0 11 ∧
  (∀ k : Nat, (k : Int) < A 0 3 → I (23 + k) = A 1 k ∧ I (5 + k) = A 2 k) ∧ (∀ k : Nat, (k : Int) < A 0 4 → I (41 + k) = A 3 k) ∧ (∀ k : Nat, (k : Int) < A 0 7 → L (2 + 2 * k) = A 4 k ∧ L (2 + 2 * k + 1) = A 5 k) ∧ (A 0 6 ≠ 0 → TrB I A)
theorem MB.ext {I L I' L' : Nat → Int} {A : HV} (H : MB I L A) (V : VA A) (e1 : ∀ k, k < 61 → I' k = I k) (e2 : ∀ k, k < 122 → L' k = L k) : MB I' L' A := by
  obtain ⟨H0, H1, H2, H3, H4, H5, H6, H7, H8, H9⟩ := H
  obtain ⟨-, -, -, v3, v4, -, -, v7, -⟩ := V
  refine ⟨fun i hi => by rw [e1 i (by omega)]; exact H0 i hi, by rw [e1 _ (by omega)]; exact H1, by rw [e1 _ (by omega)]; exact H2, by rw [e1 _ (by omega)]; exact H3, by rw [e2 _ (by omega)]; exact H4, by rw [e2 _ (by omega)]; exact H5, fun k hk => ?_, fun k hk => ?_, fun k hk => ?_, fun q => ?_⟩
  · rw [e1 _ (by omega), e1 _ (by omega)]; exact H6 k hk
  · rw [e1 _ (by omega)]; exact H7 k hk
  · rw [e2 _ (by omega), e2 _ (by omega)]; exact H8 k hk
  · have := H9 q
    unfold TrB tuP tlP at *
    rw [e1 55 (by omega), e1 56 (by omega), e1 57 (by omega), e1 58 (by omega), e1 59 (by omega)]; exact this
/-- the outfit stays, the machine is another -/
theorem MB.mach {I L I' L' : Nat → Int} {A B : HV} (H : MB I L A) (V : VA A) (e : ∀ k, k < 53 → I' k = I k) (ea : ∀ i, i < 5 → B 0 i = A 0 i) (eb : ∀ i k, 1 ≤ i → i ≤ 3 → B i k = A i k) (c53 : I' 53 = B 0 5) (c54 : I' 54 = B 0 6) (c60 : I' 60 = B 0 7) (l0 : L' 0 = B 0 10) (l1 : L' 1 = B 0 11) (hm : ∀ k : Nat, (k : Int) < B 0 7 → L' (2 + 2 * k) = B 4 k ∧ L' (2 + 2 * k + 1) = B 5 k) (ht : B 0 6 ≠ 0 → TrB I' B) : MB I' L' B := by
  obtain ⟨H0, H1, H2, H3, H4, H5, H6, H7, H8, H9⟩ := H
  obtain ⟨-, -, -, v3, v4, -, -, v7, -⟩ := V
  refine ⟨fun i hi => by rw [e i (by omega), ea i hi]; exact H0 i hi, c53, c54, c60, l0, l1, fun k hk => ?_, fun k hk => ?_, hm, ht⟩
  · rw [ea 3 (by omega)] at hk
    rw [e _ (by omega), e _ (by omega), eb _ _ (by omega) (by omega), eb _ _ (by omega) (by omega)]; exact H6 k hk
  · rw [ea 4 (by omega)] at hk
    rw [e _ (by omega), eb _ _ (by omega) (by omega)]; exact H7 k hk
/-- a train's facts depend on few numbers -/
theorem TrB.ext {I I' : Nat → Int} {A B : HV} (H : TrB I A) (e : ∀ k, 55 ≤ k → k < 60 → I' k = I k) (e4 : B 0 4 = A 0 4) (e6 : B 0 6 = A 0 6) (e8 : B 0 8 = A 0 8) (e9 : B 0 9 = A 0 9) (e12 : B 0 12 = A 0 12) (e3 : ∀ k, B 3 k = A 3 k) : TrB I' B := by
  unfold TrB tuP tlP te at *
  rw [e 55 (by omega) (by omega), e 56 (by omega) (by omega), e 57 (by omega) (by omega), e 58 (by omega) (by omega), e 59 (by omega) (by omega), e4, e6, e8, e9, e12, e3, e3, e3, e3]
  exact H
/-- the places that acts write -/
def aI (m b j : Nat) : Prop := b = m ∧ j = 18 ∨ b = m + 3 ∧ j < 61 ∨ b = m + 7
def aL (m b j : Nat) : Prop := b = m ∧ 29 ≤ j ∧ j ≤ 32 ∨ b = m + 4 ∧ j < 122
abbrev FrA (m : Nat) (h h' : Hp) : Prop := FrW (aI m) (aL m) h h'
def MdR (h : Hp) (m : Nat) (A : HV) : Prop := St10 h m ∧ MB (mI h m 0) (mL h m 0) A
theorem ix_add {c v : Int32} {a b : Nat} (hc : c.toInt = a) (hv : v.toInt = b) (h : a + b < 100000) : ix (c + v) = a + b ∧ (c + v).toInt = ((a + b : Nat) : Int) := by
  have e : (c + v).toInt = c.toInt + v.toInt := iadd_t (by omega) (by omega)
  unfold ix
  omega
theorem inb_add {c v : Int32} {a b N : Nat} (hc : c.toInt = a) (hv : v.toInt = b) (h : a + b < N) (hN : N < 100000) : inb (c + v) N := by
  have e : (c + v).toInt = c.toInt + v.toInt := iadd_t (by omega) (by omega)
  unfold inb
  omega
theorem ix_mk {v : Int32} {k : Nat} (h : v.toInt = k) (hk : k < 100) : ix (2 + 2 * v) = 2 + 2 * k ∧ ix (2 + 2 * v + 1) = 2 + 2 * k + 1 ∧ inb (2 + 2 * v) 1464 ∧ inb (2 + 2 * v + 1) 1464 := by
  have e1 : (2 * v).toInt = 2 * v.toInt := imul_t (by rw [i2_t]; omega) (by rw [i2_t]; omega)
  have e2 : (2 + 2 * v).toInt = 2 + 2 * v.toInt := by rw [iadd_t] <;> rw [i2_t, e1] <;> omega
  have e3 : (2 + 2 * v + 1).toInt = 2 + 2 * v.toInt + 1 := by rw [iadd_t] <;> rw [i1_t, e2] <;> omega
  unfold ix inb
  omega
theorem ix_3 : ix 3 = 3 := by decide
theorem ix_4 : ix 4 = 4 := by decide
theorem ix_1 : ix 1 = 1 := by decide
theorem ix_2 : ix 2 = 2 := by decide
theorem ix_53 : ix 53 = 53 := by decide
theorem ix_54 : ix 54 = 54 := by decide
theorem ix_55 : ix 55 = 55 := by decide
theorem ix_56 : ix 56 = 56 := by decide
theorem ix_57 : ix 57 = 57 := by decide
theorem ix_58 : ix 58 = 58 := by decide
theorem ix_59 : ix 59 = 59 := by decide
theorem i23_t : (23 : Int32).toInt = 23 := rfl
theorem i41_t : (41 : Int32).toInt = 41 := rfl
theorem i55_t : (55 : Int32).toInt = 55 := rfl
theorem im2_t : (-2 : Int32).toInt = -2 := rfl
theorem im4_t : (-4 : Int32).toInt = -4 := rfl
theorem im3_t : (-3 : Int32).toInt = -3 := rfl
theorem l99_t : (99 : Int64).toInt = 99 := rfl
section Acts1
variable {l : Launch} {D : Dt} {h : Hp} {m : Nat} {A : HV}
theorem MdR.n (H : MdR h m A) {i : Nat} (hi : i < 5) : (gi h (m + 3) i).toInt = A 0 i := H.2.1 i hi
theorem MdR.circ (H : MdR h m A) : (gi h (m + 3) 53).toInt = A 0 5 := H.2.2.1
theorem MdR.many (H : MdR h m A) : (gi h (m + 3) 54).toInt = A 0 6 := H.2.2.2.1
theorem MdR.marks (H : MdR h m A) : (gi h (m + 3) 60).toInt = A 0 7 := H.2.2.2.2.1
theorem MdR.up (H : MdR h m A) : (gl h (m + 4) 0).toInt = A 0 10 := H.2.2.2.2.2.1
theorem MdR.low (H : MdR h m A) : (gl h (m + 4) 1).toInt = A 0 11 := H.2.2.2.2.2.2.1
theorem MdR.hole (H : MdR h m A) {k : Nat} (hk : (k : Int) < A 0 3) : (gi h (m + 3) (23 + k)).toInt = A 1 k := (H.2.2.2.2.2.2.2.1 k hk).1
theorem MdR.plate (H : MdR h m A) {k : Nat} (hk : (k : Int) < A 0 3) : (gi h (m + 3) (5 + k)).toInt = A 2 k := (H.2.2.2.2.2.2.2.1 k hk).2
theorem MdR.tooth (H : MdR h m A) {k : Nat} (hk : (k : Int) < A 0 4) : (gi h (m + 3) (41 + k)).toInt = A 3 k := H.2.2.2.2.2.2.2.2.1 k hk
theorem MdR.mark (H : MdR h m A) {k : Nat} (hk : (k : Int) < A 0 7) : (gl h (m + 4) (2 + 2 * k)).toInt = A 4 k ∧ (gl h (m + 4) (2 + 2 * k + 1)).toInt = A 5 k := H.2.2.2.2.2.2.2.2.2.1 k hk
theorem MdR.train (H : MdR h m A) (h6 : A 0 6 ≠ 0) : TrB (mI h m 0) A := H.2.2.2.2.2.2.2.2.2.2 h6
theorem m1sub (H : MdR h m A) (V : VA A) {i : Nat} (hi : i = 3 ∨ i = 4) : (gi h (m + 3) i - 1).toInt = A 0 i - 1 := by
  have e := H.n (i := i) (by omega)
  obtain ⟨-, -, -, v3, v4, -⟩ := V
  rw [isub_t] <;> rw [i1_t] <;> rcases hi with rfl | rfl <;> omega
theorem ma_usesOne (H : MdR h m A) (V : VA A) {k : Int32} : S_X10_usesOne l D 0 0 [.ref m, .int k] h (QI fun x h' => x.toInt = (chooseP A k.toInt).1 ∧ MdR h' m (chooseP A k.toInt).2 ∧ FrA m h h') := Sp.of rfl (Nat.le_of_ble_eq_true rfl) (fun X C _ _ _ _ => V_X10_usesOne_0 C (by
  have e3 := m1sub H V (Or.inl rfl)
  have e53 := H.circ
  rw [ix_3, ix_53]
  have f : FrA m h (si h (m + 3) 53 k) := FrW.rf.si (Or.inr (Or.inl ⟨rfl, by omega⟩))
  have hB : 0 ≤ k.toInt ∧ k.toInt < A 0 3 → MdR (si h (m + 3) 53 k) m (uv A 0 5 k.toInt) := fun q => by
    refine ⟨f.st10 H.1, H.2.mach V (fun j hj => ?_) (fun i hi => ?_) (fun i j h1 h2 => ?_) ?_ ?_ ?_ ?_ ?_ (fun j hj => ?_) (fun q => ?_)⟩
    · unfold mI; rw [gi_si, if_neg (by omega)]
    · rw [uv_eq, if_neg (by omega)]
    · rw [uv_eq, if_neg (by omega)]
    · unfold mI; rw [gi_si, if_pos ⟨rfl, rfl⟩]; rfl
    · unfold mI; rw [gi_si, if_neg (by omega)]; exact H.many
    · unfold mI; rw [gi_si, if_neg (by omega)]; exact H.marks
    · exact H.up
    · exact H.low
    · exact H.mark hj
    · refine (H.train q).ext (fun j h1 h2 => ?_) rfl rfl rfl rfl rfl (fun _ => rfl)
      unfold mI; rw [gi_si, if_neg (by omega)]
  unfold chooseP
  refine ⟨H.1, fun q => ⟨fun q1 => ⟨_, rfl, ?_⟩, fun q1 => ⟨_, rfl, ?_⟩⟩, fun q => ⟨_, rfl, ?_⟩⟩
  all_goals rw [btL_0, i2l_t, i2l_t, e3, l0_t] at q
  all_goals try rw [i32_eq, e53] at q1
  · rw [if_pos (by omega), if_neg (by omega)]
    exact ⟨e53, hB (by omega), f⟩
  · rw [if_pos (by omega), if_pos q1.symm]
    have e : uv A 0 5 k.toInt = A := by
      funext i j
      rw [uv_eq]
      by_cases z : i = 0 ∧ j = 5
      · rw [if_pos z, z.1, z.2, q1]
      · rw [if_neg z]
    have := hB (by omega)
    rw [e] at this
    exact ⟨rfl, this, f⟩
  · rw [if_neg (by omega)]
    exact ⟨rfl, H, FrW.rf⟩))
theorem ma_ungearedOne (H : MdR h m A) (V : VA A) : S_X10_ungearedOne l D 0 0 [.ref m] h (QI fun x h' => x.toInt = (takeOutP A).1 ∧ MdR h' m (takeOutP A).2 ∧ FrA m h h') := Sp.of rfl (Nat.le_of_ble_eq_true rfl) (fun X C _ _ _ _ => V_X10_ungearedOne_0 C (by
  have e54 := H.many
  rw [ix_54]
  have f : FrA m h (si h (m + 3) 54 0) := FrW.rf.si (Or.inr (Or.inl ⟨rfl, by omega⟩))
  have hB : MdR (si h (m + 3) 54 0) m (takeOutV A) := by
    refine ⟨f.st10 H.1, H.2.mach V (fun j hj => ?_) (fun i hi => ?_) (fun i j h1 h2 => ?_) ?_ ?_ ?_ ?_ ?_ (fun j hj => ?_) (fun q => absurd rfl q)⟩
    · unfold mI; rw [gi_si, if_neg (by omega)]
    · unfold takeOutV; rw [uv_eq, if_neg (by omega), uv_eq, if_neg (by omega), uv_eq, if_neg (by omega), uv_eq, if_neg (by omega)]
    · unfold takeOutV; rw [uv_eq, if_neg (by omega), uv_eq, if_neg (by omega), uv_eq, if_neg (by omega), uv_eq, if_neg (by omega)]
    · unfold mI; rw [gi_si, if_neg (by omega)]; exact H.circ
    · unfold mI; rw [gi_si, if_pos ⟨rfl, rfl⟩]; rfl
    · unfold mI; rw [gi_si, if_neg (by omega)]; exact H.marks
    · exact H.up
    · exact H.low
    · exact H.mark hj
  unfold takeOutP
  refine ⟨H.1, fun q1 => ⟨_, rfl, ?_⟩, fun q1 => ⟨_, rfl, ?_⟩⟩
  all_goals rw [i32_eq, i0_t, e54] at q1
  · rw [if_neg q1]
    exact ⟨e54, hB, f⟩
  · rw [if_pos q1]
    have e : takeOutV A = A := by
      obtain ⟨n1, n2, n3⟩ := V.none q1
      funext i j
      unfold takeOutV
      simp only [uv_eq]
      by_cases z : i = 0 ∧ j = 12
      · rw [if_pos z, z.1, z.2, n3]
      · rw [if_neg z]
        by_cases z : i = 0 ∧ j = 9
        · rw [if_pos z, z.1, z.2, n2]
        · rw [if_neg z]
          by_cases z : i = 0 ∧ j = 8
          · rw [if_pos z, z.1, z.2, n1]
          · rw [if_neg z]
            by_cases z : i = 0 ∧ j = 6
            · rw [if_pos z, z.1, z.2, q1]
            · rw [if_neg z]
    rw [e] at hB
    exact ⟨rfl, hB, f⟩))
theorem ma_wipesOne (H : MdR h m A) (V : VA A) : S_X10_wipesOne l D 0 0 [.ref m] h (QI fun x h' => x.toInt = (wipeP A).1 ∧ MdR h' m (wipeP A).2 ∧ FrA m h h') := Sp.of rfl (Nat.le_of_ble_eq_true rfl) (fun X C _ _ _ _ => V_X10_wipesOne_0 C (by
  rw [ix_60, ix_0, ix_1]
  have f : FrA m h (sl (sl (si h (m + 3) 60 0) (m + 4) 0 0) (m + 4) 1 1) := ((FrW.rf.si (Or.inr (Or.inl ⟨rfl, by omega⟩))).sl (Or.inr ⟨rfl, by omega⟩)).sl (Or.inr ⟨rfl, by omega⟩)
  refine ⟨H.1, _, rfl, H.marks, ⟨f.st10 H.1, H.2.mach V (fun j hj => ?_) (fun i hi => ?_) (fun i j h1 h2 => ?_) ?_ ?_ ?_ ?_ ?_ (fun j hj => ?_) (fun q => ?_)⟩, f⟩
  · unfold mI; rw [gi_sl, gi_sl, gi_si, if_neg (by omega)]
  · unfold wipeP wipeV; dsimp only; rw [uv_eq, if_neg (by omega), uv_eq, if_neg (by omega), uv_eq, if_neg (by omega)]
  · unfold wipeP wipeV; dsimp only; rw [uv_eq, if_neg (by omega), uv_eq, if_neg (by omega), uv_eq, if_neg (by omega)]
  · unfold mI; rw [gi_sl, gi_sl, gi_si, if_neg (by omega)]; exact H.circ
  · unfold mI; rw [gi_sl, gi_sl, gi_si, if_neg (by omega)]; exact H.many
  · unfold mI; rw [gi_sl, gi_sl, gi_si, if_pos ⟨rfl, rfl⟩]; rfl
  · unfold mL; rw [gl_sl, if_neg (by omega), gl_sl, if_pos ⟨rfl, rfl⟩]; rfl
  · unfold mL; rw [gl_sl, if_pos ⟨rfl, rfl⟩]; rfl
  · exfalso
    have : (wipeP A).2 0 7 = 0 := rfl
    omega
  · refine (H.train q).ext (fun j h1 h2 => ?_) rfl rfl rfl rfl rfl (fun _ => rfl)
    unfold mI; rw [gi_sl, gi_sl, gi_si, if_neg (by omega)]))
end Acts1
