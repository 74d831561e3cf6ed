-- compound() of the class: offer
section CCm
variable {X : Ctx} {l : Launch} {D : Dt} {h : Hp} {x m a w : Nat} {Q : Pq} {A : HV} {s : Sv}
theorem cl_offer (kw : kd h w = 1) {S : CW} (R : CWo h w S) (s0 : 0 ≤ S.1) {p r k : Int32} (i j : Int) (p1 : 1 ≤ p.toInt) (p2 : p.toInt ≤ 100) (k1 : 1 ≤ k.toInt) (k2 : k.toInt ≤ 70) (r1 : -1000000 ≤ r.toInt) (r2 : r.toInt ≤ 1000000) : S_X0_offer l D 0 0 [.ref w, .int p, .int r, .int k] h (QI fun y h' => CWo h' w (cwOffer S i j p.toInt r.toInt k.toInt) ∧ (y = 0 → cwOffer S i j p.toInt r.toInt k.toInt = S) ∧ (¬ y = 0 → (cwOffer S i j p.toInt r.toInt k.toInt).2.1 = i ∧ (cwOffer S i j p.toInt r.toInt k.toInt).2.2.1 = j) ∧ (gf h' w 1 = gf h w 1 ∧ gf h' w 2 = gf h w 2) ∧ FrC w h h') := Sp.of rfl (Nat.le_of_ble_eq_true rfl) (fun X C _ _ _ _ => V_X0_offer_0 C (by
  have tm := fmI_t (a := r) (b := k) (by omega)
  have td := fdI_t (a := r) (b := k) (by omega)
  have m0 := Int.emod_nonneg r.toInt (b := k.toInt) (by omega)
  have m1 := Int.emod_lt_of_pos r.toInt (b := k.toInt) (by omega)
  have d1 : r.toInt / k.toInt ≤ 1000000 := Int.ediv_le_of_le_mul (by omega) (by
    have : (1000000 : Int) * 1 ≤ 1000000 * k.toInt := Int.mul_le_mul_of_nonneg_left (by omega) (by omega)
    omega)
  have d0 : -1000000 ≤ r.toInt / k.toInt := Int.le_ediv_of_mul_le (by omega) (by
    have : (1000000 : Int) * 1 ≤ 1000000 * k.toInt := Int.mul_le_mul_of_nonneg_left (by omega) (by omega)
    omega)
  have tk : (fmI r k - k).toInt = r.toInt % k.toInt - k.toInt := by rw [isub_t] <;> rw [tm] <;> omega
  have tw : (fdI r k + 1).toInt = r.toInt / k.toInt + 1 := by rw [iadd_t] <;> rw [td, i1_t] <;> omega
  generalize hQ : (QI fun y h' => CWo h' w (cwOffer S i j p.toInt r.toInt k.toInt) ∧ (y = 0 → cwOffer S i j p.toInt r.toInt k.toInt = S) ∧ (¬ y = 0 → (cwOffer S i j p.toInt r.toInt k.toInt).2.1 = i ∧ (cwOffer S i j p.toInt r.toInt k.toInt).2.2.1 = j) ∧ (gf h' w 1 = gf h w 1 ∧ gf h' w 2 = gf h w 2) ∧ FrC w h h') = Q
  refine ⟨fun _ => ⟨by omega, fun z => ?_, fun z => ⟨kw, ?_⟩⟩, fun z => ?_⟩
  · rw [i32_eq, tm, i0_t] at z
    have e : cwOffer S i j p.toInt r.toInt k.toInt = S := if_pos z
    refine V_X0_offer_46 C ⟨fun _ => ?_, fun z2 => absurd (by rw [i32_eq, tm, i0_t]; exact z) z2⟩
    refine V_X0_offer_70 C ⟨fun z3 => absurd rfl z3, fun _ => ⟨fun _ => ?_, fun z3 => absurd rfl z3⟩⟩
    rw [← hQ]
    exact ⟨0, rfl, by rw [e]; exact R, fun _ => e, fun y => absurd rfl y, ⟨rfl, rfl⟩, FrC.rf⟩
  · have z' : ¬ r.toInt % k.toInt = 0 := by rw [i32_eq, tm, i0_t] at z; exact z
    have e : cwOffer S i j p.toInt r.toInt k.toInt = cwTake (cwTake S i j p.toInt (r.toInt % k.toInt - k.toInt) (r.toInt / k.toInt + 1)) i j p.toInt (r.toInt % k.toInt) (r.toInt / k.toInt) := if_neg z'
    refine (cl_take kw R s0 (p := p) (q := fmI r k - k) (t := fdI r k + 1) i j p1 p2 (by omega) (by omega)).mono (fun v h3 hp => ?_)
    obtain ⟨y1, rfl, R1, a1, a2, a3, f3⟩ := hp
    rw [tk, tw] at R1 a1 a2
    have s1 : 0 ≤ (cwTake S i j p.toInt (r.toInt % k.toInt - k.toInt) (r.toInt / k.toInt + 1)).1 := by
      by_cases y : y1 = 0
      · rw [a1 y]; exact s0
      · rw [a2 y]; dsimp only; omega
    generalize hS1 : cwTake S i j p.toInt (r.toInt % k.toInt - k.toInt) (r.toInt / k.toInt + 1) = S1 at *
    have kw3 : kd h3 w = 1 := by rw [f3.2.1]; exact kw
    have go : ∀ s0 : Int32, (s0 = 0 ↔ y1 = 0) → Wj X 0 0 Q 46 [(0, .ref w), (1, .int p), (4, .int (fmI r k)), (5, .int (fdI r k))] [.int s0] h3 := by
      intro b0 hb
      refine V_X0_offer_46 C ⟨fun y => absurd y z, fun _ => ⟨kw3, (cl_take kw3 R1 s1 (p := p) (q := fmI r k) (t := fdI r k) i j p1 p2 (by omega) (by omega)).mono (fun v h5 hp => ?_)⟩⟩
      obtain ⟨y2, rfl, R2, c1, c2, c3, f5⟩ := hp
      rw [tm, td, ← e] at R2 c1 c2
      have fin : ∀ y : Int32, (y = 0 ↔ y1 = 0 ∧ y2 = 0) → Q (some (.int y)) h5 := by
        intro y hy
        rw [← hQ]
        refine ⟨y, rfl, R2, fun q => ?_, fun q => ?_, ⟨c3.1.trans a3.1, c3.2.trans a3.2⟩, f3.tr f5⟩
        · obtain ⟨q1, q2⟩ := hy.mp q
          rw [c1 q2, a1 q1]
        · by_cases q2 : y2 = 0
          · have q1 : ¬ y1 = 0 := fun q1 => q (hy.mpr ⟨q1, q2⟩)
            rw [c1 q2, a2 q1]; exact ⟨rfl, rfl⟩
          · rw [c2 q2]; exact ⟨rfl, rfl⟩
      have j70 : ∀ b2 : Int32, (b2 = 0 ↔ y2 = 0) → Wj X 0 0 Q 70 [(6, .int b0)] [.int b2] h5 := by
        intro b2 hb2
        refine V_X0_offer_70 C ⟨fun q => fin 1 ⟨fun q2 => absurd q2 p1_ne, fun q2 => absurd (hb.mpr q2.1) q⟩, fun q => ⟨fun q2 => fin 0 ⟨fun _ => ⟨hb.mp q, hb2.mp q2⟩, fun _ => rfl⟩, fun q2 => fin 1 ⟨fun q3 => absurd q3 p1_ne, fun q3 => absurd (hb2.mpr q3.2) q2⟩⟩⟩
      exact ⟨y2, rfl, fun q => j70 0 ⟨fun _ => q, fun _ => rfl⟩, fun q => j70 1 ⟨fun q2 => absurd q2 p1_ne, fun q2 => absurd q2 q⟩⟩
    exact ⟨y1, rfl, fun q => go 0 ⟨fun _ => q, fun _ => rfl⟩, fun q => go 1 ⟨fun q2 => absurd q2 p1_ne, fun q2 => absurd q2 q⟩⟩
  · rw [i32_lt, i0_t] at z; omega))
end CCm
