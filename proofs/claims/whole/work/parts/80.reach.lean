-- reaches(): the least number of holes that leads to a mark
def hitY (A : HV) (n : Int) : Int := A 0 10 * stL A + n * stU A * A 0 11
/-- n holes on lies mark k -/
def Hit (A : HV) (n : Int) (k : Nat) : Prop := ∃ z : Int, hitY A n * A 5 k = A 0 11 * stL A * (A 4 k + z * A 5 k)
def RcOk (A : HV) (p : Nat × Nat) : Prop := 1 ≤ p.1 ∧ p.1 ≤ 20000 ∧ (p.2 : Int) < A 0 7 ∧ Hit A p.1 p.2 ∧ ∀ n k : Nat, 1 ≤ n → n < p.1 → (k : Int) < A 0 7 → ¬ Hit A n k
theorem rc_ex (A : HV) : ∃ o : Option (Nat × Nat), (∀ p, o = some p → RcOk A p) ∧ (o = none → ∀ p, ¬ RcOk A p) := by
  by_cases h : ∃ p, RcOk A p
  · obtain ⟨p, hp⟩ := h
    exact ⟨some p, fun q e => by cases e; exact hp, fun e => by cases e⟩
  · exact ⟨none, fun q e => (by cases e), fun _ p hp => h ⟨p, hp⟩⟩
noncomputable def rcQ (A : HV) : Option (Nat × Nat) := Classical.choose (rc_ex A)
theorem rcQ_s (A : HV) : (∀ p, rcQ A = some p → RcOk A p) ∧ (rcQ A = none → ∀ p, ¬ RcOk A p) := Classical.choose_spec (rc_ex A)
theorem reach_ab {M a b c d z1 z2 Y : Int} (hM : 0 < M) (e1 : Y * b = M * (a + z1 * b)) (e2 : Y * d = M * (c + z2 * d)) : a * d + z1 * (b * d) = c * b + z2 * (b * d) := by
  have h1 : M * (a * d + z1 * (b * d)) = Y * b * d := by rw [e1]; grind
  have h2 : M * (c * b + z2 * (b * d)) = Y * b * d := by
    have : Y * b * d = Y * d * b := by grind
    rw [this, e2]; grind
  exact Int.eq_of_mul_eq_mul_left (Int.ne_of_gt hM) (h1.trans h2.symm)
theorem hit_one {A : HV} (V : VA A) {n : Int} {i j : Nat} (hij : i < j) (hj : (j : Int) < A 0 7) (h1 : Hit A n i) (h2 : Hit A n j) : False := by
  obtain ⟨z1, e1⟩ := h1
  obtain ⟨z2, e2⟩ := h2
  have mi := V.mk (k := i) (by omega)
  have mj := V.mk (k := j) hj
  have hs := V.srt hij hj
  have pl := V.place
  have st := st_facts V
  have hM : 0 < A 0 11 * stL A := Int.mul_pos (by omega) st.1
  have e := reach_ab hM e1 e2
  have w1 : A 4 j * A 5 i < A 5 j * A 5 i := Int.mul_lt_mul_of_pos_right mj.2.1 (by omega)
  have w2 : 0 ≤ A 4 i * A 5 j := Int.mul_nonneg mi.1 (by omega)
  have w3 : A 5 j * A 5 i = A 5 i * A 5 j := Int.mul_comm _ _
  rw [w3] at w1
  generalize A 5 i * A 5 j = w at *
  generalize A 4 i * A 5 j = x at *
  generalize A 4 j * A 5 i = y at *
  rcases Int.lt_or_le z2 z1 with q | q
  · have := Int.mul_le_mul_of_nonneg_right (show z2 + 1 ≤ z1 by omega) (show 0 ≤ w by omega)
    rw [Int.add_mul, Int.one_mul] at this
    omega
  · have := Int.mul_le_mul_of_nonneg_right q (show 0 ≤ w by omega)
    omega
theorem rcQ_is {A : HV} (V : VA A) {p : Nat × Nat} (hp : RcOk A p) : rcQ A = some p := by
  obtain ⟨q1, q2⟩ := rcQ_s A
  cases e : rcQ A with
  | none => exact absurd hp (q2 e p)
  | some r =>
    have hr := q1 r e
    obtain ⟨a1, a2, a3, a4, a5⟩ := hp
    obtain ⟨b1, b2, b3, b4, b5⟩ := hr
    have e1 : r.1 = p.1 := by
      rcases Nat.lt_trichotomy r.1 p.1 with z | z | z
      · exact absurd b4 (a5 r.1 r.2 b1 z b3)
      · exact z
      · exact absurd a4 (b5 p.1 p.2 a1 z a3)
    have e2 : r.2 = p.2 := by
      rw [e1] at b4
      rcases Nat.lt_trichotomy r.2 p.2 with z | z | z
      · exact absurd (hit_one V z a3 b4 a4) id
      · exact z
      · exact absurd (hit_one V z b3 a4 b4) id
    rw [show r = p from Prod.ext e1 e2]
theorem rcQ_no {A : HV} (h : ∀ n k : Nat, 1 ≤ n → n ≤ 20000 → (k : Int) < A 0 7 → ¬ Hit A n k) : rcQ A = none := by
  obtain ⟨q1, q2⟩ := rcQ_s A
  cases e : rcQ A with
  | none => rfl
  | some r =>
    obtain ⟨b1, b2, b3, b4, b5⟩ := q1 r e
    exact absurd b4 (h r.1 r.2 b1 b2 b3)
noncomputable def reachesP (s : Sv) : Int × Sv := match rcQ (sA s) with
  | none => (-2, s)
  | some p => ((p.1 : Int), rowS s [(p.2 : Int)])
-- inverse()
/-- what Euclid's way keeps to -/
def InvI (a w r r' f f' : Int) : Prop := 0 < r ∧ 0 ≤ r' ∧ r' < r ∧ r ≤ w ∧ (∃ z, a * f = r + z * w) ∧ (∃ z, a * f' = r' + z * w) ∧ Int.gcd r r' = 1 ∧ ((f ≤ 0 ∧ 0 ≤ f' ∧ f' * r - f * r' = w) ∨ (0 ≤ f ∧ f' ≤ 0 ∧ f * r' - f' * r = w))
theorem InvI.bd {a w r r' f f' : Int} (I : InvI a w r r' f f') (h : 0 < r') : -w ≤ f ∧ f ≤ w ∧ -w ≤ f' ∧ f' ≤ w ∧ -w ≤ (r / r') * f' ∧ (r / r') * f' ≤ w ∧ 0 ≤ r / r' ∧ r / r' ≤ w := by
  obtain ⟨i1, i2, i3, i4, i5, i6, i7, i8⟩ := I
  have q0 : 0 ≤ r / r' := Int.ediv_nonneg (by omega) (by omega)
  have q1 : r / r' ≤ r := Int.ediv_le_self _ (by omega)
  generalize r / r' = q at *
  rcases i8 with ⟨a1, a2, a3⟩ | ⟨a1, a2, a3⟩
  · have m1 : q * f' ≤ r * f' := Int.mul_le_mul_of_nonneg_right q1 a2
    have m2 : 0 ≤ q * f' := Int.mul_nonneg q0 a2
    have m3 : f' * 1 ≤ f' * r := Int.mul_le_mul_of_nonneg_left (by omega) a2
    have m4 : (-f) * 1 ≤ (-f) * r' := Int.mul_le_mul_of_nonneg_left (by omega) (by omega)
    have m5 : r * f' = f' * r := Int.mul_comm _ _
    rw [Int.neg_mul] at m4
    have m6 : (-f) * r' = -(f * r') := Int.neg_mul _ _
    omega
  · have m1 : q * (-f') ≤ r * (-f') := Int.mul_le_mul_of_nonneg_right q1 (by omega)
    have m2 : 0 ≤ q * (-f') := Int.mul_nonneg q0 (by omega)
    have m3 : (-f') * 1 ≤ (-f') * r := Int.mul_le_mul_of_nonneg_left (by omega) (by omega)
    have m4 : f * 1 ≤ f * r' := Int.mul_le_mul_of_nonneg_left (by omega) (by omega)
    have m5 : r * (-f') = -(f' * r) := by rw [Int.mul_neg, Int.mul_comm]
    have m6 : q * (-f') = -(q * f') := Int.mul_neg _ _
    have m7 : (-f') * r = -(f' * r) := Int.neg_mul _ _
    omega
theorem InvI.step {a w r r' f f' : Int} (I : InvI a w r r' f f') (h : 0 < r') : InvI a w r' (r - (r / r') * r') f' (f - (r / r') * f') ∧ r - (r / r') * r' = r % r' := by
  obtain ⟨i1, i2, i3, i4, ⟨z, i5⟩, ⟨z', i6⟩, i7, i8⟩ := I
  have e := Int.emod_add_mul_ediv r r'
  have e2 : r' * (r / r') = (r / r') * r' := Int.mul_comm _ _
  have em : r - (r / r') * r' = r % r' := by omega
  have n0 := Int.emod_nonneg r (Int.ne_of_gt h)
  have n1 := Int.emod_lt_of_pos r h
  refine ⟨⟨h, by omega, by omega, by omega, ⟨z', i6⟩, ⟨z - (r / r') * z', ?_⟩, ?_, ?_⟩, em⟩
  · generalize r / r' = q at *
    have h1 : a * (f - q * f') = a * f - q * (a * f') := by grind
    rw [h1, i5, i6]; grind
  · rw [em]
    have := gcd_step (x := r) (y := r') (by omega) h
    show Nat.gcd r'.natAbs (r % r').natAbs = 1
    rw [this]; exact i7
  · generalize r / r' = q at *
    have q0 : 0 ≤ q := by
      rcases Int.lt_or_le q 0 with y | y
      · have : q * r' ≤ (-1) * r' := Int.mul_le_mul_of_nonneg_right (by omega) (by omega)
        omega
      · exact y
    rcases i8 with ⟨a1, a2, a3⟩ | ⟨a1, a2, a3⟩
    · right
      have := Int.mul_nonneg q0 a2
      refine ⟨a2, by omega, ?_⟩
      rw [← a3]; grind
    · left
      have := Int.mul_nonneg q0 (show 0 ≤ -f' by omega)
      rw [Int.mul_neg] at this
      refine ⟨a2, by omega, ?_⟩
      rw [← a3]; grind
section Inv
variable {X : Ctx} {l : Launch} {D : Dt} {h : Hp} {Q : Pq}
theorem inv_end (C : C_X9_inverse X) {w f : Int64} {a : Int} (w0 : 0 < w.toInt) (e : ∃ z, a * f.toInt = 1 + z * w.toInt) (hq : ∀ y : Int64, 0 ≤ y.toInt → y.toInt < w.toInt → (∃ z, a * y.toInt = 1 + z * w.toInt) → Q (some (.long y)) h) : Wj X 0 0 Q 87 [(2, .long w), (8, .long f)] [] h := by
  refine V_X9_inverse_87 C ((sf_J9_floorMod_f86c9 w0).mono (fun v h1 hp => ?_))
  obtain ⟨rfl, rfl⟩ := hp
  have t := fmL_t (a := f) w0
  refine ⟨_, rfl, hq _ ?_ ?_ ?_⟩
  · rw [t]; exact Int.emod_nonneg _ (Int.ne_of_gt w0)
  · rw [t]; exact Int.emod_lt_of_pos _ w0
  · obtain ⟨z, e⟩ := e
    have d := Int.emod_add_mul_ediv f.toInt w.toInt
    refine ⟨z - a * (f.toInt / w.toInt), ?_⟩
    rw [t]
    generalize f.toInt / w.toInt = q at *
    generalize f.toInt % w.toInt = r at *
    have : r = f.toInt - w.toInt * q := by omega
    rw [this]
    have h1 : a * (f.toInt - w.toInt * q) = a * f.toInt - a * w.toInt * q := by grind
    rw [h1, e]; grind
theorem inv_loop (C : C_X9_inverse X) {w : Int64} {a : Int} (w0 : 0 < w.toInt) (w1 : w.toInt ≤ 84700000) (hq : ∀ y : Int64, 0 ≤ y.toInt → y.toInt < w.toInt → (∃ z, a * y.toInt = 1 + z * w.toInt) → Q (some (.long y)) h) (m : Nat) : ∀ (r r' f f' : Int64) (i : Int32), InvI a w.toInt r.toInt r'.toInt f.toInt f'.toInt → r.toInt * r'.toInt < 2 ^ m → 0 ≤ i.toInt → i.toInt + m ≤ 190 → Wj X 0 0 Q 23 [(2, .long w), (4, .long r), (6, .long r'), (8, .long f), (10, .long f'), (12, .int i)] [] h := by
  have base : ∀ (r r' f f' : Int64) (i : Int32), InvI a w.toInt r.toInt r'.toInt f.toInt f'.toInt → r'.toInt = 0 → Wj X 0 0 Q 23 [(2, .long w), (4, .long r), (6, .long r'), (8, .long f), (10, .long f'), (12, .int i)] [] h := by
    intro r r' f f' i I e
    obtain ⟨i1, i2, i3, i4, ⟨z, i5⟩, i6, i7, i8⟩ := I
    rw [e] at i7
    have r1 : r.toInt = 1 := by
      have : r.toInt.natAbs = 1 := by
        have := i7
        unfold Int.gcd at this
        simpa using this
      omega
    have fin := inv_end C w0 (a := a) (f := f) ⟨z, by rw [i5, r1]⟩ hq
    refine V_X9_inverse_23 C ⟨fun _ => fin, fun _ => ⟨fun _ => fin, fun q => ?_⟩⟩
    rw [i64_eq, l0_t] at q; exact absurd e q
  induction m with
  | zero =>
    intro r r' f f' i I hm hi him
    refine base r r' f f' i I ?_
    obtain ⟨i1, i2, -⟩ := I
    rcases Int.lt_or_le 0 r'.toInt with z | z
    · have := Int.mul_pos i1 z
      simp at hm; omega
    · omega
  | succ m ih =>
    intro r r' f f' i I hm hi him
    by_cases z : r'.toInt = 0
    · exact base r r' f f' i I z
    · have rp : 0 < r'.toInt := by have := I.2.1; omega
      obtain ⟨b1, b2, b3, b4, b5, b6, b7, b8⟩ := I.bd rp
      obtain ⟨I2, em⟩ := I.step rp
      obtain ⟨x1, x2⟩ := ix_succ hi (by omega)
      obtain ⟨i1, i2, i3, i4, -⟩ := I
      have td : (r / r').toInt = r.toInt / r'.toInt := ldiv_p (by omega) (by omega)
      have n0 := Int.emod_nonneg r.toInt (Int.ne_of_gt rp)
      have n1 := Int.emod_lt_of_pos r.toInt rp
      have n2 := half_mod (y := r.toInt) rp i3
      have t1 : (r / r' * r').toInt = r.toInt / r'.toInt * r'.toInt := by rw [lmul_t] <;> rw [td] <;> omega
      have t2 : (r - r / r' * r').toInt = r.toInt - r.toInt / r'.toInt * r'.toInt := by rw [lsub_t] <;> rw [t1] <;> omega
      have t3 : (r / r' * f').toInt = r.toInt / r'.toInt * f'.toInt := by rw [lmul_t] <;> rw [td] <;> omega
      have t4 : (f - r / r' * f').toInt = f.toInt - r.toInt / r'.toInt * f'.toInt := by rw [lsub_t] <;> rw [t3] <;> omega
      have h200 : (200 : Int32).toInt = 200 := rfl
      refine V_X9_inverse_23 C ⟨fun q => ?_, fun _ => ⟨fun q => ?_, fun q => ⟨q, ih _ _ _ _ _ ?_ ?_ (by omega) (by omega)⟩⟩⟩
      · rw [i32_le] at q; omega
      · rw [i64_eq, l0_t] at q; omega
      · rw [t2, t4]; exact I2
      · rw [t2, em]
        have k1 : r'.toInt * (2 * (r.toInt % r'.toInt)) ≤ r'.toInt * r.toInt := Int.mul_le_mul_of_nonneg_left (by omega) (by omega)
        have k2 : r'.toInt * (2 * (r.toInt % r'.toInt)) = 2 * (r'.toInt * (r.toInt % r'.toInt)) := by rw [Int.mul_left_comm]
        have k3 : r'.toInt * r.toInt = r.toInt * r'.toInt := Int.mul_comm _ _
        rw [Int.pow_succ] at hm
        omega
theorem cl_inverse {a w : Int64} (h0 : 0 ≤ a.toInt) (h1 : a.toInt < w.toInt) (hw : w.toInt ≤ 84700000) (hg : Int.gcd a.toInt w.toInt = 1) : S_X9_inverse l D 0 0 [.long a, .long w] h (QL fun y h' => (0 ≤ y.toInt ∧ y.toInt < w.toInt ∧ (∃ z, a.toInt * y.toInt = 1 + z * w.toInt)) ∧ h' = h) := Sp.of rfl (Nat.le_of_ble_eq_true rfl) (fun X C _ _ _ _ => V_X9_inverse_0 C (by
  refine ⟨fun _ => inv_loop C (a := a.toInt) (by omega) hw (fun y y0 y1 y2 => ⟨y, rfl, ⟨y0, y1, y2⟩, rfl⟩) 60 w a 0 1 0 ?_ ?_ (by decide) (by decide), fun q => ?_⟩
  · have e0 : (0 : Int64).toInt = 0 := rfl
    have e1 : (1 : Int64).toInt = 1 := rfl
    rw [e0, e1]
    refine ⟨by omega, h0, h1, by omega, ⟨-1, by omega⟩, ⟨0, by omega⟩, ?_, Or.inl ⟨by omega, by omega, by omega⟩⟩
    rw [Int.gcd_comm]; exact hg
  · have := mul_bd (a := w.toInt) (b := a.toInt) (M := 84700000) (K := 84700000) (by omega) hw h0 (by omega)
    have e : (2 : Int) ^ 60 = 1152921504606846976 := by decide
    omega
  · rw [i64_lt, l0_t] at q; omega))
end Inv
