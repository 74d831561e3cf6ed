-- isNearer() of the reference
/-- what the reference holds for nearest: nothing yet, or b with how far off it is -/
def NRm (h : Hp) (m : Nat) (p q : Int) (b : Option (Int × Int)) : Prop := match b with
  | none => (gl h m 24).toInt = 0
  | some b => (gl h m 23).toInt = b.1 ∧ (gl h m 24).toInt = b.2 ∧ 0 < b.2 ∧ (gl h m 25).toInt = rdU (farN p q b) (b.2 * q) ∧ (gl h m 26).toInt = rdL (farN p q b) (b.2 * q)
/-- small enough to be compared -/
def nrOk (p q : Int) (c : Int × Int) : Prop := 0 ≤ c.1 ∧ c.1 ≤ 100000000000 ∧ 0 < c.2 ∧ c.2 ≤ 1000000 ∧ farN p q c ≤ 1000000000 ∧ c.2 * q ≤ 1000000000
def nrO (p q : Int) (b : Option (Int × Int)) (c : Int × Int) : Int × Int := match b with
  | none => c
  | some b => nrS p q b c
/-- the same as without reducing -/
theorem nr_cmp {p q : Int} (hq : 0 < q) {b c : Int × Int} (hb : 0 < b.2) (hc : 0 < c.2) : (rdU (farN p q c) (c.2 * q) * rdL (farN p q b) (b.2 * q) < rdU (farN p q b) (b.2 * q) * rdL (farN p q c) (c.2 * q) ↔ farN p q c * b.2 < farN p q b * c.2) ∧ (rdU (farN p q c) (c.2 * q) * rdL (farN p q b) (b.2 * q) = rdU (farN p q b) (b.2 * q) * rdL (farN p q c) (c.2 * q) ↔ farN p q c * b.2 = farN p q b * c.2) := by
  have pc : 0 < c.2 * q := Int.mul_pos hc hq
  have pb : 0 < b.2 * q := Int.mul_pos hb hq
  obtain ⟨r1, r2⟩ := rd_mul (u := farN p q c) pc
  obtain ⟨s1, s2⟩ := rd_mul (u := farN p q b) pb
  have g1 := gcd_pos' (u := farN p q c) pc
  have g2 := gcd_pos' (u := farN p q b) pb
  generalize rdU (farN p q c) (c.2 * q) = x at *
  generalize rdL (farN p q c) (c.2 * q) = y at *
  generalize rdU (farN p q b) (b.2 * q) = u at *
  generalize rdL (farN p q b) (b.2 * q) = w at *
  generalize hG : (Int.gcd (farN p q c) (c.2 * q) : Int) = g at *
  generalize hH : (Int.gcd (farN p q b) (b.2 * q) : Int) = k at *
  have gk : 0 < g * k := Int.mul_pos (by omega) (by omega)
  have e1 : g * k * (x * w) = farN p q c * b.2 * q := by
    have : farN p q c * b.2 * q = (g * x) * (k * w) := by rw [r1, s2, Int.mul_assoc]
    rw [this]; simp only [Int.mul_assoc, Int.mul_left_comm, Int.mul_comm]
  have e2 : g * k * (u * y) = farN p q b * c.2 * q := by
    have : farN p q b * c.2 * q = (k * u) * (g * y) := by rw [s1, r2, Int.mul_assoc]
    rw [this]; simp only [Int.mul_assoc, Int.mul_left_comm, Int.mul_comm]
  constructor
  · constructor
    · intro z
      have := Int.mul_lt_mul_of_pos_left z gk
      rw [e1, e2] at this
      exact Int.lt_of_mul_lt_mul_right this (by omega)
    · intro z
      have := Int.mul_lt_mul_of_pos_right z hq
      rw [← e1, ← e2] at this
      exact Int.lt_of_mul_lt_mul_left this (by omega)
  · constructor
    · intro z
      have e3 : farN p q c * b.2 * q = farN p q b * c.2 * q := by rw [← e1, ← e2, z]
      exact Int.eq_of_mul_eq_mul_right (by omega) e3
    · intro z
      have e3 : g * k * (x * w) = g * k * (u * y) := by rw [e1, e2, z]
      exact Int.eq_of_mul_eq_mul_left (by omega) e3
