-- compound() of the class
theorem idiv_x {x y : Int32} (hy : 0 < y.toInt) (hd : y.toInt ∣ x.toInt) : (x / y).toInt = x.toInt / y.toInt := by
  have h0 := b32 x
  have h1 : x.toInt / y.toInt ≤ 2147483647 := Int.ediv_le_of_le_mul hy (by
    have : (2147483647 : Int) * 1 ≤ 2147483647 * y.toInt := Int.mul_le_mul_of_nonneg_left (by omega) (by omega)
    omega)
  have h2 : -2147483648 ≤ x.toInt / y.toInt := Int.le_ediv_of_mul_le hy (by
    have : (2147483648 : Int) * 1 ≤ 2147483648 * y.toInt := Int.mul_le_mul_of_nonneg_left (by omega) (by omega)
    omega)
  rw [Int32.toInt_div, Int.tdiv_eq_ediv_of_dvd hd, bm32 h2 h1]
theorem irem_0 {x y : Int32} : x % y = 0 ↔ x.toInt % y.toInt = 0 := by
  rw [i32_eq, irem_t, i0_t]
  constructor
  · intro h; exact Int.emod_eq_zero_of_dvd (Int.dvd_of_tmod_eq_zero h)
  · intro h; exact Int.tmod_eq_zero_of_dvd (Int.dvd_of_emod_eq_zero h)
theorem hPl_t {h : Hp} {a : Nat} {A : HV} (H : HdR h a A) (V : VA A) {k : Int32} (h1 : 0 ≤ k.toInt) (h2 : k.toInt < A 0 3) : (hPl h a k).toInt = A 2 (ix k) := by
  have h3 := H.2.1 3 (by omega)
  have v3 := V.2.2.2.1
  unfold hPl
  rw [h3, if_pos (by omega)]
  exact (H.2.2.2.2.2.2.2.1 (ix k) (by rw [ix_t h1]; omega)).2
