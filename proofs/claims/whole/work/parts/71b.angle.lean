-- angle() of the class: one candidate
section AngC
variable {X : Ctx} {l : Launch} {D : Dt} {h : Hp} {x m : Nat} {Q : Pq} {A : HV} {s : Sv}
/-- a long that stands for a large number, so that nobody unrolls it -/
theorem hide64 (k : Int64) : ∃ K : Int64, K = k ∧ K.toInt = k.toInt := ⟨k, rfl, rfl⟩
theorem ca_an1 (C : C_X9_angle X) {v1 v2 v9 : Int32} {v3 v5 v7 v10 v12 v14 : Int64} {b : Option (Nat × Int × Int)} {k : Nat} {u w : Int} (b1 : 1 ≤ v1.toInt) (b2 : v1.toInt ≤ 1295999) (R : ANc v1.toInt b v2 v3 v5 v7) (O : ∀ b', b = some b' → anOk A v1.toInt b') (o : anOk A v1.toInt (k, u, w)) (e9 : v9.toInt = k) (e10 : v10.toInt = w) (e14 : v14.toInt = u) (z : ¬ (v12 + 1) < v14)
    (nx : ∀ v2' v3' v5' v7', ANc v1.toInt (anS v1.toInt b (k, u, w)) v2' v3' v5' v7' → Wj X 0 0 Q 74 [(0, .ref x), (1, .int v1), (2, .int v2'), (3, .long v3'), (5, .long v5'), (7, .long v7'), (9, .int v9), (10, .long v10), (12, .long v12), (14, .long (v14 + 1))] [] h) :
    Wj X 0 0 Q 74 [(0, .ref x), (1, .int v1), (2, .int v2), (3, .long v3), (5, .long v5), (7, .long v7), (9, .int v9), (10, .long v10), (12, .long v12), (14, .long v14)] [] h := by
  obtain ⟨K, hK, eK⟩ := hide64 1296000
  rw [l129_t] at eK
  obtain ⟨-, -, o3, o4, o5, o6, o7⟩ := o
  dsimp only at o3 o4 o5 o6 o7
  have tF : (abL (v14 * K - v1.toInt64 * v10)).toInt = anF v1.toInt (u, w) := by
    have m1 := mul_bd (a := v1.toInt) (b := w) (M := 1295999) (K := 8400) (by omega) b2 (by omega) o6
    have t1 : (v14 * K).toInt = u * 1296000 := by rw [lmul_t] <;> rw [e14, eK] <;> omega
    have t2 : (v1.toInt64 * v10).toInt = v1.toInt * w := by rw [lmul_t] <;> rw [i2l_t, e10] <;> omega
    have t3 : (v14 * K - v1.toInt64 * v10).toInt = u * 1296000 - v1.toInt * w := by rw [lsub_t] <;> rw [t1, t2] <;> omega
    have ea : anF v1.toInt (u, w) = ((u * arc - v1.toInt * w).natAbs : Int) := rfl
    rw [abL_t (by rw [t3]; omega), t3, ea, arc_e]
  have fn := anF_nn v1.toInt (u, w)
  refine V_X9_angle_74 C ⟨fun q => absurd q z, fun _ => ?_⟩
  rw [← hK]
  generalize abL (v14 * K - v1.toInt64 * v10) = F at *
  intro z1 ez
  clear hK eK K
  have put : (∀ b', b = some b' → anB v1.toInt b'.2 (u, w)) → Wj X 0 0 Q 146 [(0, .ref x), (1, .int v1), (9, .int v9), (10, .long v10), (12, .long v12), (14, .long v14), (16, .long F)] [] h := by
    intro hb
    refine V_X9_angle_146 C (nx _ _ _ _ ?_)
    have e : anS v1.toInt b (k, u, w) = some (k, u, w) := by
      cases b with
      | none => rfl
      | some b0 => exact if_pos (hb b0 rfl)
    rw [e]
    exact ⟨e9, e14, e10, tF⟩
  refine ⟨fun q => put ?_, fun q => ?_⟩
  · rintro b' rfl
    have : v2.toInt = b'.1 := R.1
    rw [i32_eq, im1_t] at q; omega
  · cases b with
    | none => exact absurd R.1 q
    | some b0 =>
      obtain ⟨r1, r2, r3, r4⟩ := R
      obtain ⟨-, -, p3, p4, p5, p6, p7⟩ := O b0 rfl
      have fb := anF_nn v1.toInt b0.2
      have bb : anB v1.toInt b0.2 (u, w) ↔ (anF v1.toInt (u, w) * b0.2.2 < anF v1.toInt b0.2 * w ∨ (anF v1.toInt (u, w) * b0.2.2 = anF v1.toInt b0.2 * w ∧ u * b0.2.2 < b0.2.1 * w)) := Iff.rfl
      have stay : ¬ anB v1.toInt b0.2 (u, w) → Wj X 0 0 Q 74 [(0, .ref x), (1, .int v1), (2, .int v2), (3, .long v3), (5, .long v5), (7, .long v7), (9, .int v9), (10, .long v10), (12, .long v12), (14, .long (v14 + 1))] [] h := by
        intro hb
        refine nx _ _ _ _ ?_
        have e : anS v1.toInt (some b0) (k, u, w) = some b0 := if_neg hb
        rw [e]; exact ⟨r1, r2, r3, r4⟩
      have put' : anB v1.toInt b0.2 (u, w) → Wj X 0 0 Q 146 [(0, .ref x), (1, .int v1), (9, .int v9), (10, .long v10), (12, .long v12), (14, .long v14), (16, .long F)] [] h := fun hb => put (fun b' e => by cases e; exact hb)
      rw [bb] at stay put'
      generalize anF v1.toInt (u, w) = f1 at *
      generalize anF v1.toInt b0.2 = f0 at *
      have k1 := mul_bd (a := f1) (b := b0.2.2) (M := 1296000) (K := 8400) fn o7 (by omega) p6
      have k2 := mul_bd (a := f0) (b := w) (M := 1296000) (K := 8400) fb p7 (by omega) o6
      have k3 := mul_bd (a := b0.2.1) (b := w) (M := 8400) (K := 8400) p3 p4 (by omega) o6
      have k4 := mul_bd (a := u) (b := b0.2.2) (M := 8400) (K := 8400) o3 o4 (by omega) p6
      have s1 : (F * v5).toInt = f1 * b0.2.2 := by rw [lmul_t] <;> rw [tF, r3] <;> omega
      have s2 : (v7 * v10).toInt = f0 * w := by rw [lmul_t] <;> rw [r4, e10] <;> omega
      have s3 : z1.toInt = f1 * b0.2.2 - f0 * w := by rw [ez, lsub_t] <;> rw [s1, s2] <;> omega
      have s4 : (v3 * v10).toInt = b0.2.1 * w := by rw [lmul_t] <;> rw [r2, e10] <;> omega
      have s5 : (v14 * v5).toInt = u * b0.2.2 := by rw [lmul_t] <;> rw [e14, r3] <;> omega
      refine ⟨fun q1 => put' ?_, fun q1 => ⟨fun q2 => stay ?_, fun q2 => ⟨fun q3 => stay ?_, fun q3 => put' ?_⟩⟩⟩
      all_goals rw [i64_lt, s3, l0_t] at q1
      · left; omega
      all_goals rw [i64_eq, s3, l0_t] at q2
      · omega
      all_goals rw [i64_le, s4, s5] at q3
      · omega
      · right; omega
end AngC
