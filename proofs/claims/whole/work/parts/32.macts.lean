-- the reference's acts: the crank
theorem ldiv_x {x y : Int64} (hy : 0 < y.toInt) (hd : y.toInt ∣ x.toInt) : (x / y).toInt = x.toInt / y.toInt := by
  have bx := b64 x
  obtain ⟨q, hq⟩ := hd
  have e : x.toInt / y.toInt = q := by rw [hq]; exact Int.mul_ediv_cancel_left _ (by omega)
  have e2 : x.toInt.tdiv y.toInt = q := by rw [hq]; exact Int.mul_tdiv_cancel_left _ (by omega)
  rw [Int64.toInt_div, e, e2]
  rcases Int.le_total 0 q with h0 | h0
  · have : 1 * q ≤ y.toInt * q := Int.mul_le_mul_of_nonneg_right (by omega) h0
    exact bm64 (by omega) (by omega)
  · have : y.toInt * q ≤ 1 * q := Int.mul_le_mul_of_nonpos_right (by omega) h0
    exact bm64 (by omega) (by omega)
theorem gcd_dl (u w : Int) : (Int.gcd u w : Int) ∣ u := Int.gcd_dvd_left _ _
theorem gcd_dr (u w : Int) : (Int.gcd u w : Int) ∣ w := Int.gcd_dvd_right _ _
theorem cm_tp {u w : Int64} (hw : 0 < w.toInt) : 0 < (cm u w).toInt := by rw [cm_g hw]; have := gcd_pos' (u := u.toInt) hw; omega
/-- a fraction made small, its upper number of any sign -/
theorem fr_x {u w : Int64} (hw : 0 < w.toInt) : (u / cm u w).toInt = rdU u.toInt w.toInt ∧ (w / cm u w).toInt = rdL u.toInt w.toInt := by
  have hp := cm_tp (u := u) hw
  have hg := cm_g (u := u) hw
  exact ⟨by rw [ldiv_x hp (by rw [hg]; exact gcd_dl _ _), hg]; rfl, by rw [ldiv_x hp (by rw [hg]; exact gcd_dr _ _), hg]; rfl⟩
section Tr
variable {h : Hp} {m : Nat} {A : HV} {P R : Nat → Nat → Prop} {h' : Hp}
theorem MdR.fr (H : MdR h m A) (V : VA A) (f : FrW P R h h') (hp : ∀ j, j < 61 → ¬ P (m + 3) j) (hr : ∀ j, j < 122 → ¬ R (m + 4) j) : MdR h' m A :=
  ⟨f.st10 H.1, H.2.ext V (fun k hk => by show (gi h' (m + 3) k).toInt = (gi h (m + 3) k).toInt; rw [f.xi (hp k hk)]) (fun k hk => by show (gl h' (m + 4) k).toInt = (gl h (m + 4) k).toInt; rw [f.xl (hr k hk)])⟩
theorem MdR.tth (H : MdR h m A) (V : VA A) {g : Int32} (h1 : 0 ≤ g.toInt) (h2 : g.toInt < A 0 4) : inb (41 + g) 732 ∧ (gi h (m + 3) (ix (41 + g))).toInt = te A g.toInt ∧ 20 ≤ te A g.toInt ∧ te A g.toInt ≤ 100 := by
  have v4 := V.2.2.2.2.1
  have hg : g.toInt = ((ix g : Nat) : Int) := (ix_t h1).symm
  obtain ⟨e1, e2⟩ := ix_add (c := 41) (v := g) (a := 41) (b := ix g) rfl hg (by omega)
  refine ⟨inb_add (a := 41) (b := ix g) rfl hg (by omega) (by omega), ?_, V.teeth h1 h2⟩
  rw [e1]
  exact H.tooth (k := ix g) (by omega)
theorem if4 {x : Int32} (h : x = 0 ∨ x = 2 ∨ x = 4) : (x = 4) = (x.toInt = 4) := by
  rcases h with rfl | rfl | rfl <;> decide
/-- the train that is put in, as the reference reckons it -/
theorem trn_t (H : MdR h m A) (V : VA A) : ∃ g : Int, 0 < g ∧ g ≤ 10000 ∧ (mTL h m).toInt = g * A 0 9 ∧ (mTU h m).toInt = A 0 12 * (g * A 0 8) ∧ g * A 0 9 ≤ 10000 ∧ g * A 0 8 ≤ 10000 ∧ (¬ gi h (m + 3) (ix 54) = 0 → inb (41 + gi h (m + 3) (ix 55)) 732 ∧ inb (41 + gi h (m + 3) (ix 56)) 732) ∧ (gi h (m + 3) (ix 54) = 4 → inb (41 + gi h (m + 3) (ix 57)) 732 ∧ inb (41 + gi h (m + 3) (ix 58)) 732) := by
  have e54 := H.many
  rw [ix_54, ix_55, ix_56, ix_57, ix_58]
  unfold mTL mTU
  rw [ix_54, ix_55, ix_56, ix_57, ix_58, ix_59]
  have w := V.wheels
  by_cases h0 : A 0 6 = 0
  · have z : gi h (m + 3) 54 = 0 := by rw [i32_eq, e54, h0]; rfl
    obtain ⟨n1, n2, n3⟩ := V.none h0
    refine ⟨1, by omega, by omega, ?_, ?_, by rw [n2]; omega, by rw [n1]; omega, fun q => absurd z q, fun q => ?_⟩
    · rw [if_pos z, n2]; rfl
    · rw [if_pos z, n1, n3]; rfl
    · rw [z] at q; exact absurd q (by decide)
  · have z : ¬ gi h (m + 3) 54 = 0 := by rw [i32_eq, e54]; exact h0
    obtain ⟨t0, t1, t2, t3, t4, t5⟩ := H.train h0
    have g0 : gi h (m + 3) 55 = gi h (m + 3) 55 := rfl
    obtain ⟨a1, a2, a3, a4⟩ := H.tth V (g := gi h (m + 3) 55) t1.1 t1.2
    obtain ⟨b1, b2, b3, b4⟩ := H.tth V (g := gi h (m + 3) 56) t2.1 t2.2
    have l1 : (Int32.toInt64 1).toInt = 1 := rfl
    have sd := V.side
    have e59 : (gi h (m + 3) 59).toInt = A 0 12 := t0
    by_cases h4 : A 0 6 = 4
    · have z4 : gi h (m + 3) 54 = 4 := by rw [i32_eq, e54, h4]; rfl
      obtain ⟨t6, t7⟩ := t3 h4
      obtain ⟨c1, c2, c3, c4⟩ := H.tth V (g := gi h (m + 3) 57) t6.1 t6.2
      obtain ⟨d1, d2, d3, d4⟩ := H.tth V (g := gi h (m + 3) 58) t7.1 t7.2
      have eu : tuP A (mI h m 0) = te A (gi h (m + 3) 55).toInt * te A (gi h (m + 3) 57).toInt := by unfold tuP; rw [if_pos h4]; rfl
      have el : tlP A (mI h m 0) = te A (gi h (m + 3) 56).toInt * te A (gi h (m + 3) 58).toInt := by unfold tlP; rw [if_pos h4]; rfl
      rw [eu, el] at t4 t5
      generalize te A (gi h (m + 3) 55).toInt = x1 at *
      generalize te A (gi h (m + 3) 56).toInt = x2 at *
      generalize te A (gi h (m + 3) 57).toInt = x3 at *
      generalize te A (gi h (m + 3) 58).toInt = x4 at *
      have m1 := mul_bd (a := x1) (b := x3) (M := 100) (K := 100) (by omega) (by omega) (by omega) (by omega)
      have m2 := mul_bd (a := x2) (b := x4) (M := 100) (K := 100) (by omega) (by omega) (by omega) (by omega)
      have p2 : 0 < x2 * x4 := Int.mul_pos (by omega) (by omega)
      obtain ⟨r1, r2⟩ := rd_mul (u := x1 * x3) p2
      have gp := gcd_pos' (u := x1 * x3) p2
      rw [← t4] at r1
      rw [← t5] at r2
      have gle : (Int.gcd (x1 * x3) (x2 * x4) : Int) ≤ x2 * x4 := Int.le_of_dvd p2 (gcd_dr _ _)
      refine ⟨(Int.gcd (x1 * x3) (x2 * x4) : Int), by omega, by omega, ?_, ?_, by omega, by omega, fun _ => ⟨a1, b1⟩, fun _ => ⟨c1, d1⟩⟩
      · rw [if_neg z, if_pos z4, r2, lmul_t] <;> rw [i2l_t, i2l_t, b2, d2] <;> omega
      · have q1 : ((gi h (m + 3) 59).toInt64 * (gi h (m + 3) (ix (41 + gi h (m + 3) 55))).toInt64).toInt = A 0 12 * x1 := by
          rw [lmul_t] <;> rw [i2l_t, i2l_t, e59, a2] <;> rcases sd with e | e <;> rw [e] <;> omega
        rw [if_neg z, if_pos z4, r1, lmul_t] <;> rw [q1, i2l_t, c2, Int.mul_assoc] <;> rcases sd with e | e <;> rw [e] <;> omega
    · have z4 : ¬ gi h (m + 3) 54 = 4 := by rw [i32_eq, e54]; exact h4
      have eu : tuP A (mI h m 0) = te A (gi h (m + 3) 55).toInt := by unfold tuP; rw [if_neg h4, Int.mul_one]; rfl
      have el : tlP A (mI h m 0) = te A (gi h (m + 3) 56).toInt := by unfold tlP; rw [if_neg h4, Int.mul_one]; rfl
      rw [eu, el] at t4 t5
      generalize te A (gi h (m + 3) 55).toInt = x1 at *
      generalize te A (gi h (m + 3) 56).toInt = x2 at *
      have p2 : 0 < x2 := by omega
      obtain ⟨r1, r2⟩ := rd_mul (u := x1) p2
      have gp := gcd_pos' (u := x1) p2
      rw [← t4] at r1
      rw [← t5] at r2
      have gle : (Int.gcd x1 x2 : Int) ≤ x2 := Int.le_of_dvd p2 (gcd_dr _ _)
      refine ⟨(Int.gcd x1 x2 : Int), by omega, by omega, ?_, ?_, by omega, by omega, fun _ => ⟨a1, b1⟩, fun q => absurd q z4⟩
      · rw [if_neg z, if_neg z4, r2, lmul_t] <;> rw [i2l_t, l1, b2] <;> omega
      · have q1 : ((gi h (m + 3) 59).toInt64 * (gi h (m + 3) (ix (41 + gi h (m + 3) 55))).toInt64).toInt = A 0 12 * x1 := by
          rw [lmul_t] <;> rw [i2l_t, i2l_t, e59, a2] <;> rcases sd with e | e <;> rw [e] <;> omega
        rw [if_neg z, if_neg z4, r1, lmul_t] <;> rw [q1, l1] <;> rcases sd with e | e <;> rw [e] <;> omega
end Tr
/-- a head that has circle k -/
abbrev atC (A : HV) (k : Int) : HV := uv A 0 5 k
theorem VA.toC {A : HV} (V : VA A) {k : Int} (h1 : 0 ≤ k) (h2 : k < A 0 3) : VA (atC A k) := by
  have := V.choose k
  unfold chooseP at this
  rw [if_pos ⟨h1, h2⟩] at this
  split at this
  · rename_i e
    have e2 : atC A k = A := by
      funext i j
      show uv A 0 5 k i j = A i j
      rw [uv_eq]
      by_cases z : i = 0 ∧ j = 5
      · rw [if_pos z, z.1, z.2, e]
      · rw [if_neg z]
    rw [e2]; exact V
  · exact this
def stU (A : HV) : Int := rdU ((Nv A).sign * A 0 9) (Nv A).natAbs
def stL (A : HV) : Int := rdL ((Nv A).sign * A 0 9) (Nv A).natAbs
theorem gcd_sg {u w s : Int} (hs : s = 1 ∨ s = -1) : Int.gcd (s * u) w = Int.gcd u w := by
  rcases hs with rfl | rfl
  · rw [Int.one_mul]
  · rw [Int.neg_mul, Int.one_mul, Int.neg_gcd]
section Lay
variable {l : Launch} {D : Dt} {h : Hp} {m : Nat} {A : HV}
theorem ma_laysStep (H : MdR h m A) (V : VA A) {k : Int32} (h1 : 0 ≤ k.toInt) (h2 : k.toInt < A 0 3) : S_X10_laysStep l D 0 0 [.ref m, .int k] h (QV fun h' => (gl h' m 29).toInt = stU (atC A k.toInt) ∧ (gl h' m 30).toInt = stL (atC A k.toInt) ∧ MdR h' m A ∧ FrA m h h') := Sp.of rfl (Nat.le_of_ble_eq_true rfl) (fun X C _ _ _ _ => V_X10_laysStep_0 C (by
  obtain ⟨g, g0, g1, eL, eU, b9, b8, i1, i2⟩ := trn_t H V
  have v3 := V.2.2.2.1
  have hk : k.toInt = ((ix k : Nat) : Int) := (ix_t h1).symm
  obtain ⟨x1, -⟩ := ix_add (c := 23) (v := k) (a := 23) (b := ix k) rfl hk (by omega)
  have V1 := V.toC h1 h2
  have nv := V1.nv
  have hcc := V1.hc
  have eh : (gi h (m + 3) (ix (23 + k))).toInt = Hc (atC A k.toInt) := by rw [x1]; exact H.hole (by omega)
  have e0 : (gi h (m + 3) (ix 0)).toInt = A 0 0 := by rw [ix_0]; exact H.n (by omega)
  have eN : Nv (atC A k.toInt) = Hc (atC A k.toInt) * (A 0 0 * A 0 9 - A 0 12 * A 0 8) := rfl
  have e9 : atC A k.toInt 0 9 = A 0 9 := rfl
  have r := V.ratio
  have w0 := V.worm
  generalize hD : A 0 0 * A 0 9 - A 0 12 * A 0 8 = d at *
  have nd : -1210000 ≤ d ∧ d ≤ 1210000 := by
    have := nv.2.2.2
    have q : atC A k.toInt 0 0 * atC A k.toInt 0 9 - atC A k.toInt 0 12 * atC A k.toInt 0 8 = d := hD
    omega
  have m1 := mul_bd (a := A 0 0) (b := g * A 0 9) (M := 120) (K := 10000) (by omega) (by omega) (Int.mul_nonneg (by omega) (by omega)) b9
  have t1 : ((gi h (m + 3) (ix 0)).toInt64 * mTL h m).toInt = A 0 0 * (g * A 0 9) := by rw [lmul_t] <;> rw [i2l_t, e0, eL] <;> omega
  have p8 : 0 ≤ g * A 0 8 := Int.mul_nonneg (by omega) (by omega)
  have t2 : ((gi h (m + 3) (ix 0)).toInt64 * mTL h m - mTU h m).toInt = g * d := by
    have : A 0 0 * (g * A 0 9) - A 0 12 * (g * A 0 8) = g * d := by
      rw [← hD, Int.mul_sub]; simp only [Int.mul_assoc, Int.mul_left_comm, Int.mul_comm]
    rw [lsub_t] <;> rw [t1, eU]
    · exact this
    all_goals rcases V.side with e | e <;> rw [e] <;> omega
  have bgd : -1210000 ≤ g * d ∧ g * d ≤ 1210000 := by
    rw [← hD, Int.mul_sub]
    have q1 : g * (A 0 0 * A 0 9) = A 0 0 * (g * A 0 9) := by simp only [Int.mul_assoc, Int.mul_left_comm, Int.mul_comm]
    have q2 : g * (A 0 12 * A 0 8) = A 0 12 * (g * A 0 8) := by simp only [Int.mul_assoc, Int.mul_left_comm, Int.mul_comm]
    rw [q1, q2]
    rcases V.side with e | e <;> rw [e] <;> omega
  have bl : -84700000 ≤ Hc (atC A k.toInt) * (g * d) ∧ Hc (atC A k.toInt) * (g * d) ≤ 84700000 := by
    rcases Int.le_total 0 (g * d) with q | q
    · have := mul_bd (a := Hc (atC A k.toInt)) (b := g * d) (M := 70) (K := 1210000) (by omega) (by omega) q (by omega); omega
    · have := mul_bd (a := Hc (atC A k.toInt)) (b := -(g * d)) (M := 70) (K := 1210000) (by omega) (by omega) (by omega) (by omega)
      rw [Int.mul_neg] at this; omega
  have t3 : ((gi h (m + 3) (ix (23 + k))).toInt64 * ((gi h (m + 3) (ix 0)).toInt64 * mTL h m - mTU h m)).toInt = g * Nv (atC A k.toInt) := by
    have e : Hc (atC A k.toInt) * (g * d) = g * Nv (atC A k.toInt) := by rw [eN]; simp only [Int.mul_assoc, Int.mul_left_comm, Int.mul_comm]
    rw [← e, lmul_t] <;> rw [i2l_t, eh, t2] <;> omega
  have fin : ∀ (z s : Int64), z.toInt = g * Nv (atC A k.toInt) → s.toInt = (Nv (atC A k.toInt)).sign → Wj X 0 0 (QV fun h' => (gl h' m 29).toInt = stU (atC A k.toInt) ∧ (gl h' m 30).toInt = stL (atC A k.toInt) ∧ MdR h' m A ∧ FrA m h h') 43 [(0, .ref m), (2, .long (mTL h m)), (4, .long z)] [.long s] h := by
    intro z s hz hs
    generalize hNN : Nv (atC A k.toInt) = N at *
    have hs1 : s.toInt = 1 ∧ 0 < N ∨ s.toInt = -1 ∧ N < 0 := by
      rw [hs]
      rcases Int.lt_trichotomy N 0 with q | q | q
      · exact Or.inr ⟨Int.sign_eq_neg_one_of_neg q, q⟩
      · exact absurd q nv.1
      · exact Or.inl ⟨Int.sign_eq_one_of_pos q, q⟩
    have hs2 : s.toInt = 1 ∨ s.toInt = -1 := by omega
    have q1 : (s * z).toInt = g * (N.natAbs : Int) := by
      have e : s.toInt * z.toInt = g * (N.natAbs : Int) := by
        rw [hz]
        rcases hs1 with ⟨e, q⟩ | ⟨e, q⟩
        · rw [e, Int.one_mul]; congr 1; omega
        · rw [e, Int.neg_mul, Int.one_mul, ← Int.mul_neg]; congr 1; omega
      have eb : Hc (atC A k.toInt) * (g * d) = g * N := by rw [eN]; simp only [Int.mul_assoc, Int.mul_left_comm, Int.mul_comm]
      have : -84700000 ≤ s.toInt * z.toInt ∧ s.toInt * z.toInt ≤ 84700000 := by rcases hs2 with e | e <;> rw [e, hz] <;> omega
      rw [lmul_t (by omega) (by omega), e]
    have p9 : 0 ≤ g * A 0 9 := Int.mul_nonneg (by omega) (by omega)
    have q2 : (s * mTL h m).toInt = s.toInt * (g * A 0 9) := by
      rw [lmul_t] <;> rw [eL]
      all_goals rcases hs2 with e | e <;> rw [e] <;> omega
    have Np : 0 < (N.natAbs : Int) := by omega
    have lp : 0 < g * (N.natAbs : Int) := Int.mul_pos g0 Np
    have hcm : (cm (mTL h m) (s * z)).toInt = (Int.gcd (s.toInt * (g * A 0 9)) (g * (N.natAbs : Int)) : Int) := by
      rw [cm_g (by rw [q1]; exact lp), q1, eL, gcd_sg hs2]
    have hcp : 0 < (cm (mTL h m) (s * z)).toInt := cm_tp (by rw [q1]; exact lp)
    obtain ⟨u1, u2⟩ := rd_unique (u := s.toInt * (g * A 0 9)) (w := g * (N.natAbs : Int)) (u' := s.toInt * A 0 9) (w' := (N.natAbs : Int)) lp Np (by simp only [Int.mul_assoc, Int.mul_left_comm, Int.mul_comm])
    have f : FrA m h (sl (sl h m 29 ((s * mTL h m) / cm (mTL h m) (s * z))) m 30 ((s * z) / cm (mTL h m) (s * z))) := (FrW.rf.sl (Or.inl ⟨rfl, by omega, by omega⟩)).sl (Or.inl ⟨rfl, by omega, by omega⟩)
    refine V_X10_laysStep_43 C ⟨by rw [eL]; have := Int.mul_nonneg (a := g) (b := A 0 9) (by omega) (by omega); omega, by rw [q1]; exact lp, by rw [i64_eq, l0_t]; omega, H.1, rfl, ?_, ?_, ?_, f⟩
    · rw [gl_sl, if_neg (by omega), gl_sl, if_pos ⟨rfl, rfl⟩, ldiv_x hcp (by rw [hcm, q2]; exact gcd_dl _ _), q2, hcm]
      unfold stU
      rw [hNN, e9, ← hs, ← u1]; rfl
    · rw [gl_sl, if_pos ⟨rfl, rfl⟩, ldiv_x hcp (by rw [hcm, q1]; exact gcd_dr _ _), q1, hcm]
      unfold stL
      rw [hNN, e9, ← hs, ← u2]; rfl
    · exact H.fr V ((FrW.rf.sl (P := fun _ _ => False) (R := fun b _ => b = m) rfl).sl rfl) (fun _ _ => id) (fun _ _ q => by omega)
  have gN : (0 ≤ g * Nv (atC A k.toInt)) ↔ 0 ≤ Nv (atC A k.toInt) := by
    constructor
    · intro q
      rcases Int.lt_or_le (Nv (atC A k.toInt)) 0 with z | z
      · have := Int.mul_neg_of_pos_of_neg g0 z; omega
      · exact z
    · intro q; exact Int.mul_nonneg (by omega) q
  refine ⟨H.1, fun q => (i1 q).2, fun q => (i2 q).2, inb_add (a := 23) (b := ix k) rfl hk (by omega) (by omega), fun q => (i1 q).1, fun q => (i2 q).1, fun z hz => ⟨fun q => fin z 1 (by rw [hz]; exact t3) ?_, fun q => fin z (-1) (by rw [hz]; exact t3) ?_⟩⟩
  · rw [hz, i64_le, l0_t, t3, gN] at q
    have := nv.1
    rw [Int.sign_eq_one_of_pos (by omega)]; rfl
  · rw [hz, i64_le, l0_t, t3, gN] at q
    rw [Int.sign_eq_neg_one_of_neg (by omega)]; rfl))
end Lay
