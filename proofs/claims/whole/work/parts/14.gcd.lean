-- common(): the greatest common divisor, in the class and in the reference
theorem cm_zero {x y : Int64} (hx : 0 ≤ x.toInt) (hy : y.toInt = 0) : cm x y = x := by
  have := b64 x
  unfold cm
  rw [hy, i64_eq, Int64.toInt_ofNat']
  simp only [Int.natAbs_zero, Nat.gcd_zero_right]
  rw [bm64] <;> omega
theorem gcd_step {x y : Int} (hx : 0 ≤ x) (hy : 0 < y) : Nat.gcd y.natAbs (x % y).natAbs = Nat.gcd x.natAbs y.natAbs := by
  have e : (x % y).natAbs = x.natAbs % y.natAbs := by
    have := Int.natAbs_emod_of_nonneg hx (b := y)
    exact this
  rw [e, Nat.gcd_comm y.natAbs, ← Nat.gcd_rec, Nat.gcd_comm]
theorem cm_step {x y : Int64} (hx : 0 ≤ x.toInt) (hy : 0 < y.toInt) : cm y (x % y) = cm x y := by
  unfold cm
  rw [lrem_p hx, gcd_step hx hy]
theorem cm_neg {x y : Int64} (hx : -9223372036854775807 ≤ x.toInt) : cm (-x) y = cm x y := by
  unfold cm
  rw [lneg_t hx, Int.natAbs_neg]
theorem half_mod {y r : Int} (h0 : 0 < r) (h1 : r < y) : 2 * (y % r) < y := by
  have h2 := Int.emod_nonneg y (Int.ne_of_gt h0)
  have h3 := Int.emod_lt_of_pos y h0
  have h4 := Int.emod_add_mul_ediv y r
  have h5 : 1 ≤ y / r := Int.le_ediv_of_mul_le h0 (by omega)
  have h6 : r * 1 ≤ r * (y / r) := Int.mul_le_mul_of_nonneg_left h5 (by omega)
  omega
theorem i0_t : (0 : Int32).toInt = 0 := rfl
theorem l0_t : (0 : Int64).toInt = 0 := rfl
section Gcd
variable {X : Ctx} {k n : Nat} {Q : Pq} {h : Hp}
theorem common_end (C : C_X9_common X) {x y : Int64} (hx : 0 ≤ x.toInt) (hy : y.toInt = 0) (hpos : 0 < x.toInt) (hq : Q (some (.long (cm x y))) h) : Wj X k n Q 67 [(4, .long x)] [] h := by
  refine V_X9_common_67 C ⟨fun _ => ?_, fun h1 => ?_⟩
  · rw [cm_zero hx hy] at hq; exact hq
  · rw [i64_lt, l0_t] at h1; omega
theorem ii_1 : (Int32.ofInt 1).toInt = 1 := rfl
theorem common_loop (m : Nat) : ∀ {x y : Int64} {i : Int32}, C_X9_common X → 0 ≤ x.toInt → 0 ≤ y.toInt → y.toInt < 2 ^ m → 0 ≤ i.toInt → i.toInt + 2 * m ≤ 200 → (0 < x.toInt ∨ 0 < y.toInt) → Q (some (.long (cm x y))) h → Wj X k n Q 31 [(4, .long x), (6, .long y), (8, .int i)] [] h := by
  have base : ∀ {x y : Int64} {i : Int32}, C_X9_common X → 0 ≤ x.toInt → y.toInt = 0 → 0 < x.toInt → Q (some (.long (cm x y))) h → Wj X k n Q 31 [(4, .long x), (6, .long y), (8, .int i)] [] h := by
    intro x y i C hx hy hp hq
    refine V_X9_common_31 C ⟨fun _ => common_end C hx hy hp hq, fun _ => ⟨fun _ => common_end C hx hy hp hq, fun h1 => ?_⟩⟩
    rw [i64_eq, l0_t] at h1; omega
  induction m with
  | zero =>
    intro x y i C hx hy hm hi him hp hq
    have : y.toInt = 0 := by simp at hm; omega
    exact base C hx this (by omega) hq
  | succ m ih =>
    intro x y i C hx hy hm hi him hp hq
    by_cases h0 : y.toInt = 0
    · exact base C hx h0 (by omega) hq
    · have hyp : 0 < y.toInt := by omega
      have hr := lrem_p (x := x) (y := y) hx
      have hr0 := Int.emod_nonneg x.toInt (Int.ne_of_gt hyp)
      have hr1 := Int.emod_lt_of_pos x.toInt hyp
      have hb := b32 i
      have hi1 : (i + Int32.ofInt 1).toInt = i.toInt + 1 := by rw [iadd_t] <;> rw [ii_1] <;> omega
      refine V_X9_common_31 C ⟨fun h1 => ?_, fun h1 => ⟨fun h2 => ?_, fun h2 => ⟨h2, ?_⟩⟩⟩
      · rw [i32_le] at h1
        have : (200 : Int32).toInt = 200 := rfl
        omega
      · rw [i64_eq, l0_t] at h2; omega
      · rw [← cm_step hx hyp] at hq
        by_cases hz : (x % y).toInt = 0
        · exact base C (by omega) hz hyp hq
        · have hrp : 0 < (x % y).toInt := by omega
          have hs := lrem_p (x := y) (y := x % y) hy
          have hs0 := Int.emod_nonneg y.toInt (Int.ne_of_gt hrp)
          have hs1 := half_mod (y := y.toInt) hrp (by omega)
          refine V_X9_common_31 C ⟨fun h1 => ?_, fun h1 => ⟨fun h2 => ?_, fun h2 => ⟨h2, ?_⟩⟩⟩
          · rw [i32_le] at h1
            have : (200 : Int32).toInt = 200 := rfl
            omega
          · rw [i64_eq, l0_t] at h2; omega
          · have hi2 : (i + Int32.ofInt 1 + Int32.ofInt 1).toInt = i.toInt + 2 := by rw [iadd_t] <;> rw [hi1, ii_1] <;> omega
            refine ih C (by omega) (by omega) ?_ (by omega) (by omega) (by omega) (by rw [cm_step hy hrp]; exact hq)
            rw [Int.pow_succ] at hm
            omega
theorem commonM_loop (m : Nat) : ∀ {x y : Int64}, C_X10_common X → 0 ≤ x.toInt → 0 ≤ y.toInt → y.toInt < m → Q (some (.long (cm x y))) h → Wj X k n Q 17 [(4, .long x), (6, .long y)] [] h := by
  induction m with
  | zero => intro x y C hx hy hm; omega
  | succ m ih =>
    intro x y C hx hy hm hq
    refine V_X10_common_17 C ⟨fun h1 => ?_, fun h1 => ⟨h1, ?_⟩⟩
    · rw [i64_eq, l0_t] at h1
      rw [cm_zero hx h1] at hq; exact hq
    · rw [i64_eq, l0_t] at h1
      have hyp : 0 < y.toInt := by omega
      have hr := lrem_p (x := x) (y := y) hx
      have hr0 := Int.emod_nonneg x.toInt (Int.ne_of_gt hyp)
      have hr1 := Int.emod_lt_of_pos x.toInt hyp
      exact ih C hy (by omega) (by omega) (by rw [cm_step hx hyp]; exact hq)
end Gcd
section Gcd2
variable {l : Launch} {D : Dt} {h : Hp}
theorem sf_X9_common {a b : Int64} (ha : -9223372036854775807 ≤ a.toInt) (hb : 0 < b.toInt) : S_X9_common l D 0 0 [.long a, .long b] h (PF (.long (cm a b)) h) := Sp.of rfl (Nat.le_of_ble_eq_true rfl) (fun X C _ _ _ _ => V_X9_common_0 C (by
  have hbb := b64 b
  have h2 : b.toInt < 2 ^ 63 := by omega
  refine ⟨fun h1 => V_X9_common_12 C ⟨fun _ => ?_, fun h3 => ?_⟩, fun h1 => V_X9_common_12 C ⟨fun _ => ?_, fun h3 => ?_⟩⟩
  · rw [i64_le, l0_t] at h1
    exact common_loop 63 C h1 (by omega) h2 (by decide) (by decide) (by omega) ⟨rfl, rfl⟩
  · rw [i64_le, l0_t] at h3; omega
  · rw [i64_le, l0_t] at h1
    have := lneg_t ha
    refine common_loop 63 C (by omega) (by omega) h2 (by decide) (by decide) (by omega) ?_
    rw [cm_neg ha]; exact ⟨rfl, rfl⟩
  · rw [i64_le, l0_t] at h3; omega))
theorem sf_X10_common {a b : Int64} (ha : -9223372036854775807 ≤ a.toInt) (hb : 0 < b.toInt) : S_X10_common l D 0 0 [.long a, .long b] h (PF (.long (cm a b)) h) := Sp.of rfl (Nat.le_of_ble_eq_true rfl) (fun X C _ _ _ _ => V_X10_common_0 C (by
  have hbb := b64 b
  refine ⟨fun h1 => ?_, fun h1 => ?_⟩
  · rw [i64_le, l0_t] at h1
    exact commonM_loop (b.toInt.toNat + 1) C h1 (by omega) (by omega) ⟨rfl, rfl⟩
  · rw [i64_le, l0_t] at h1
    have := lneg_t ha
    refine commonM_loop (b.toInt.toNat + 1) C (by omega) (by omega) (by omega) ?_
    rw [cm_neg ha]; exact ⟨rfl, rfl⟩))
end Gcd2
