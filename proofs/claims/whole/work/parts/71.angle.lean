-- angle(): the pure value, and the class
/-- a whole turn in seconds of arc, hidden from the kernel -/
noncomputable def arc : Int := Classical.choose (⟨1296000, rfl⟩ : ∃ n : Int, n = 1296000)
theorem arc_e : arc = 1296000 := Classical.choose_spec (⟨1296000, rfl⟩ : ∃ n : Int, n = 1296000)
noncomputable def anF (v : Int) (c : Int × Int) : Int := ((c.1 * arc - v * c.2).natAbs : Int)
abbrev anB (v : Int) (b c : Int × Int) : Prop := anF v c * b.2 < anF v b * c.2 ∨ (anF v c * b.2 = anF v b * c.2 ∧ c.1 * b.2 < b.1 * c.2)
noncomputable def anS (v : Int) (b : Option (Nat × Int × Int)) (c : Nat × Int × Int) : Option (Nat × Int × Int) := match b with
  | none => some c
  | some b => if anB v b.2 c.2 then some c else some b
def anW (A : HV) (k : Nat) : Int := A 1 k * A 0 0
noncomputable def anU (A : HV) (v : Int) (k : Nat) : Int := v * anW A k / arc
noncomputable def anI (A : HV) (v : Int) : Nat → Option (Nat × Int × Int)
  | 0 => none
  | k + 1 => anS v (anS v (anI A v k) (k, anU A v k, anW A k)) (k, anU A v k + 1, anW A k)
noncomputable def angleP (s : Sv) (v : Int) : Int × Sv := if 1 ≤ v ∧ v ≤ 1295999 then (match anI (sA s) v (sA s 0 3).toNat with
    | none => (-1, s)
    | some b => (if anF v b.2 = 0 then 1 else 0, rowS s [(b.1 : Int), b.2.1 / sA s 1 b.1, b.2.1 % sA s 1 b.1, rdU (anF v b.2) b.2.2, rdL (anF v b.2) b.2.2])) else (-1, s)
theorem anF_nn (v : Int) (c : Int × Int) : 0 ≤ anF v c := by unfold anF; omega
/-- what a candidate keeps to -/
def anOk (A : HV) (v : Int) (c : Nat × Int × Int) : Prop := (c.1 : Int) < A 0 3 ∧ c.2.2 = anW A c.1 ∧ 0 ≤ c.2.1 ∧ c.2.1 ≤ 8400 ∧ 10 ≤ c.2.2 ∧ c.2.2 ≤ 8400 ∧ anF v c.2 ≤ 1296000
theorem an_c {A : HV} (V : VA A) {v : Int} (v1 : 1 ≤ v) (v2 : v ≤ 1295999) {k : Nat} (hk : (k : Int) < A 0 3) : anOk A v (k, anU A v k, anW A k) ∧ anOk A v (k, anU A v k + 1, anW A k) := by
  have v13 := V.2.2.2.2.2.2.2.2.2.2.2.2.2.1 k hk
  have bw := V.worm
  have bb := mul_bd (a := A 1 k) (b := A 0 0) (M := 70) (K := 120) (by omega) (by omega) (by omega) (by omega)
  have b10 : 10 * 1 ≤ A 1 k * A 0 0 := Int.mul_le_mul (by omega) (by omega) (by omega) (by omega)
  have ew : anW A k = A 1 k * A 0 0 := rfl
  rw [← ew] at bb b10
  generalize hw : anW A k = w at *
  have m1 : 0 ≤ v * w := Int.mul_nonneg (by omega) (by omega)
  have m2 : v * w ≤ 1295999 * w := Int.mul_le_mul_of_nonneg_right v2 (by omega)
  have eu : anU A v k = v * w / 1296000 := by unfold anU; rw [hw, arc_e]
  generalize hu : anU A v k = u at *
  have e1 : anF v (u, w) ≤ 1296000 := by unfold anF; dsimp only; rw [arc_e]; omega
  have e2 : anF v (u + 1, w) ≤ 1296000 := by unfold anF; dsimp only; rw [arc_e]; omega
  exact ⟨⟨hk, hw.symm, by dsimp only; omega, by dsimp only; omega, by dsimp only; omega, by dsimp only; omega, e1⟩, ⟨hk, hw.symm, by dsimp only; omega, by dsimp only; omega, by dsimp only; omega, by dsimp only; omega, e2⟩⟩
theorem anOk_S {A : HV} {v : Int} {b : Option (Nat × Int × Int)} {c : Nat × Int × Int} (hb : ∀ b', b = some b' → anOk A v b') (hc : anOk A v c) : ∀ b', anS v b c = some b' → anOk A v b' := by
  intro b' e
  unfold anS at e
  cases b with
  | none => cases e; exact hc
  | some b0 =>
    dsimp only at e
    by_cases z : anB v b0.2 c.2
    · rw [if_pos z] at e; cases e; exact hc
    · rw [if_neg z] at e; cases e; exact hb _ rfl
theorem anS_some (v : Int) (b : Option (Nat × Int × Int)) (c : Nat × Int × Int) : ∃ b', anS v b c = some b' := by
  unfold anS
  cases b with
  | none => exact ⟨_, rfl⟩
  | some b0 =>
    dsimp only
    split
    · exact ⟨_, rfl⟩
    · exact ⟨_, rfl⟩
theorem anI_ok {A : HV} (V : VA A) {v : Int} (v1 : 1 ≤ v) (v2 : v ≤ 1295999) (k : Nat) (hk : (k : Int) ≤ A 0 3) : ∀ b', anI A v k = some b' → anOk A v b' := by
  induction k with
  | zero => intro b' e; cases e
  | succ k ih =>
    obtain ⟨c1, c2⟩ := an_c V v1 v2 (k := k) (by omega)
    unfold anI
    exact anOk_S (anOk_S (ih (by omega)) c1) c2
theorem anI_some {A : HV} (V : VA A) (v : Int) : ∃ b, anI A v (A 0 3).toNat = some b := by
  have v3 := V.2.2.2.1
  have : ∃ n, (A 0 3).toNat = n + 1 := ⟨(A 0 3).toNat - 1, by omega⟩
  obtain ⟨n, e⟩ := this
  rw [e]
  unfold anI
  exact anS_some _ _ _
def ANc (v : Int) (b : Option (Nat × Int × Int)) (v2 : Int32) (v3 v5 v7 : Int64) : Prop := match b with
  | none => v2 = -1 ∧ v3 = 0 ∧ v5 = 1 ∧ v7 = 0
  | some b => v2.toInt = b.1 ∧ v3.toInt = b.2.1 ∧ v5.toInt = b.2.2 ∧ v7.toInt = anF v b.2
theorem l129_t : (1296000 : Int64).toInt = 1296000 := by decide
section AngC
variable {X : Ctx} {l : Launch} {D : Dt} {h : Hp} {x m : Nat} {Q : Pq} {A : HV} {s : Sv}
theorem ca_an1 (C : C_X9_angle X) {v1 v2 v9 : Int32} {v3 v5 v7 v10 v12 v14 : Int64} {b : Option (Nat × Int × Int)} {k : Nat} {u w : Int} (b1 : 1 ≤ v1.toInt) (b2 : v1.toInt ≤ 1295999) (R : ANc v1.toInt b v2 v3 v5 v7) (O : ∀ b', b = some b' → anOk A v1.toInt b') (o : anOk A v1.toInt (k, u, w)) (e9 : v9.toInt = k) (e10 : v10.toInt = w) (e14 : v14.toInt = u) (z : ¬ (v12 + 1) < v14)
    (nx : ∀ v2' v3' v5' v7', ANc v1.toInt (anS v1.toInt b (k, u, w)) v2' v3' v5' v7' → Wj X 0 0 Q 74 [(0, .ref x), (1, .int v1), (2, .int v2'), (3, .long v3'), (5, .long v5'), (7, .long v7'), (9, .int v9), (10, .long v10), (12, .long v12), (14, .long (v14 + 1))] [] h) :
    Wj X 0 0 Q 74 [(0, .ref x), (1, .int v1), (2, .int v2), (3, .long v3), (5, .long v5), (7, .long v7), (9, .int v9), (10, .long v10), (12, .long v12), (14, .long v14)] [] h := by
  obtain ⟨-, -, o3, o4, o5, o6, o7⟩ := o
  dsimp only at o3 o4 o5 o6 o7
  have m1 := mul_bd (a := v1.toInt) (b := w) (M := 1295999) (K := 8400) (by omega) b2 (by omega) o6
  have t1 : (v14 * 1296000).toInt = u * 1296000 := by rw [lmul_t] <;> rw [e14, l129_t] <;> omega
  have t2 : (v1.toInt64 * v10).toInt = v1.toInt * w := by rw [lmul_t] <;> rw [i2l_t, e10] <;> omega
  have t3 : (v14 * 1296000 - v1.toInt64 * v10).toInt = u * 1296000 - v1.toInt * w := by rw [lsub_t] <;> rw [t1, t2] <;> omega
  have t4 : (abL (v14 * 1296000 - v1.toInt64 * v10)).toInt = anF v1.toInt (u, w) := by rw [abL_t (by rw [t3]; omega), t3]; unfold anF; rw [arc_e]
  have fn := anF_nn v1.toInt (u, w)
  have put : (∀ b', b = some b' → anB v1.toInt b'.2 (u, w)) → Wj X 0 0 Q 146 [(0, .ref x), (1, .int v1), (9, .int v9), (10, .long v10), (12, .long v12), (14, .long v14), (16, .long (abL (v14 * 1296000 - v1.toInt64 * v10)))] [] h := by
    intro hb
    refine V_X9_angle_146 C (nx _ _ _ _ ?_)
    have e : anS v1.toInt b (k, u, w) = some (k, u, w) := by
      cases b with
      | none => rfl
      | some b0 => exact if_pos (hb b0 rfl)
    rw [e]
    exact ⟨e9, e14, e10, t4⟩
  refine V_X9_angle_74 C ⟨fun q => absurd q z, fun _ z1 ez => ⟨fun q => put ?_, fun q => ?_⟩⟩
  · rintro b' rfl
    have : v2.toInt = b'.1 := R.1
    rw [i32_eq, im1_t] at q; omega
  · cases b with
    | none => exact absurd R.1 q
    | some b0 =>
      obtain ⟨r1, r2, r3, r4⟩ := R
      obtain ⟨-, -, p3, p4, p5, p6, p7⟩ := O b0 rfl
      have fb := anF_nn v1.toInt b0.2
      have k1 := mul_bd (a := anF v1.toInt (u, w)) (b := b0.2.2) (M := 1296000) (K := 8400) fn o7 (by omega) p6
      have k2 := mul_bd (a := anF v1.toInt b0.2) (b := w) (M := 1296000) (K := 8400) fb p7 (by omega) o6
      have k3 := mul_bd (a := b0.2.1) (b := w) (M := 8400) (K := 8400) p3 p4 (by omega) o6
      have k4 := mul_bd (a := u) (b := b0.2.2) (M := 8400) (K := 8400) o3 o4 (by omega) p6
      have s1 : (abL (v14 * 1296000 - v1.toInt64 * v10) * v5).toInt = anF v1.toInt (u, w) * b0.2.2 := by rw [lmul_t] <;> rw [t4, r3] <;> omega
      have s2 : (v7 * v10).toInt = anF v1.toInt b0.2 * w := by rw [lmul_t] <;> rw [r4, e10] <;> omega
      have s3 : z1.toInt = anF v1.toInt (u, w) * b0.2.2 - anF v1.toInt b0.2 * w := by rw [ez, lsub_t] <;> rw [s1, s2] <;> omega
      have s4 : (v3 * v10).toInt = b0.2.1 * w := by rw [lmul_t] <;> rw [r2, e10] <;> omega
      have s5 : (v14 * v5).toInt = u * b0.2.2 := by rw [lmul_t] <;> rw [e14, r3] <;> omega
      have stay : ¬ anB v1.toInt b0.2 (u, w) → Wj X 0 0 Q 74 [(0, .ref x), (1, .int v1), (2, .int v2), (3, .long v3), (5, .long v5), (7, .long v7), (9, .int v9), (10, .long v10), (12, .long v12), (14, .long (v14 + 1))] [] h := by
        intro hb
        refine nx _ _ _ _ ?_
        have e : anS v1.toInt (some b0) (k, u, w) = some b0 := if_neg hb
        rw [e]; exact ⟨r1, r2, r3, r4⟩
      refine ⟨fun q1 => put ?_, fun q1 => ⟨fun q2 => stay ?_, fun q2 => ⟨fun q3 => stay ?_, fun q3 => put ?_⟩⟩⟩
      all_goals rw [i64_lt, s3, l0_t] at q1
      · rintro b' ⟨⟩; left; dsimp only; omega
      all_goals rw [i64_eq, s3, l0_t] at q2
      · rintro (y | ⟨y, -⟩) <;> dsimp only at y <;> omega
      all_goals rw [i64_le, s4, s5] at q3
      · rintro (y | ⟨y, y2⟩)
        · dsimp only at y; omega
        · dsimp only at y2; omega
      · rintro b' ⟨⟩; right; exact ⟨by dsimp only; omega, by dsimp only; omega⟩
end AngC
