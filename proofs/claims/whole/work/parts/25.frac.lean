-- fractions in least terms; what turning the crank does
theorem mul_bd {a b M K : Int} (h1 : 0 ≤ a) (h2 : a ≤ M) (h3 : 0 ≤ b) (h4 : b ≤ K) : 0 ≤ a * b ∧ a * b ≤ M * K := by
  refine ⟨Int.mul_nonneg h1 h3, ?_⟩
  have e1 : a * b ≤ M * b := Int.mul_le_mul_of_nonneg_right h2 h3
  have e2 : M * b ≤ M * K := Int.mul_le_mul_of_nonneg_left h4 (by omega)
  omega
def rdU (u w : Int) : Int := u / (Int.gcd u w : Int)
def rdL (u w : Int) : Int := w / (Int.gcd u w : Int)
theorem gcd_pos' {u w : Int} (h : 0 < w) : 0 < Int.gcd u w := Nat.gcd_pos_of_pos_right _ (by omega)
theorem rd_mul {u w : Int} (h : 0 < w) : (Int.gcd u w : Int) * rdU u w = u ∧ (Int.gcd u w : Int) * rdL u w = w := by
  have hg := gcd_pos' (u := u) h
  exact ⟨Int.mul_ediv_cancel' (Int.gcd_dvd_left _ _), Int.mul_ediv_cancel' (Int.gcd_dvd_right _ _)⟩
theorem rdL_pos {u w : Int} (h : 0 < w) : 0 < rdL u w := by
  have h1 := (rd_mul (u := u) h).2
  have hg := gcd_pos' (u := u) h
  rcases Int.lt_or_le 0 (rdL u w) with q | q
  · exact q
  · have : (Int.gcd u w : Int) * rdL u w ≤ 0 := Int.mul_nonpos_of_nonneg_of_nonpos (by omega) q
    omega
theorem rdU_nn {u w : Int} (h0 : 0 ≤ u) (h : 0 < w) : 0 ≤ rdU u w := Int.ediv_nonneg h0 (by omega)
theorem rdL_le {u w : Int} (h : 0 < w) : rdL u w ≤ w := Int.ediv_le_self _ (by omega)
theorem rdU_le {u w : Int} (h0 : 0 ≤ u) : rdU u w ≤ u := Int.ediv_le_self _ h0
theorem rdU_lt {u w : Int} (h1 : u < w) (h : 0 < w) : rdU u w < rdL u w := by
  obtain ⟨e1, e2⟩ := rd_mul (u := u) h
  have hg := gcd_pos' (u := u) h
  rcases Int.lt_or_le (rdU u w) (rdL u w) with q | q
  · exact q
  · have : (Int.gcd u w : Int) * rdL u w ≤ (Int.gcd u w : Int) * rdU u w := Int.mul_le_mul_of_nonneg_left q (by omega)
    omega
theorem rd_cop {u w : Int} (h : 0 < w) : Int.gcd (rdU u w) (rdL u w) = 1 := by
  have hg := gcd_pos' (u := u) h
  unfold rdU rdL
  exact Int.gcd_ediv_gcd_ediv_gcd hg
theorem dvd_cop {a b d : Int} (h1 : Int.gcd a b = 1) (h : b ∣ a * d) : b ∣ d := by
  have h2 := Int.natAbs_dvd_natAbs.mpr h
  rw [Int.natAbs_mul] at h2
  have h3 : Nat.Coprime b.natAbs a.natAbs := by rw [Nat.coprime_comm]; exact h1
  exact Int.natAbs_dvd_natAbs.mp (h3.dvd_of_dvd_mul_left h2)
theorem cop_unique {a b c d : Int} (h1 : Int.gcd a b = 1) (h2 : Int.gcd c d = 1) (hb : 0 < b) (hd : 0 < d) (h : a * d = c * b) : a = c ∧ b = d := by
  have e1 : b ∣ d := by
    have : b ∣ a * d := ⟨c, by rw [h, Int.mul_comm]⟩
    exact dvd_cop h1 this
  have e2 : d ∣ b := by
    have : d ∣ c * b := ⟨a, by rw [← h, Int.mul_comm]⟩
    exact dvd_cop h2 this
  have e3 : b = d := Int.le_antisymm (Int.le_of_dvd hd e1) (Int.le_of_dvd hb e2)
  subst e3
  exact ⟨Int.eq_of_mul_eq_mul_right (by omega) h, rfl⟩
theorem rd_unique {u w u' w' : Int} (hw : 0 < w) (hw' : 0 < w') (h : u * w' = u' * w) : rdU u w = rdU u' w' ∧ rdL u w = rdL u' w' := by
  obtain ⟨e1, e2⟩ := rd_mul (u := u) hw
  obtain ⟨e3, e4⟩ := rd_mul (u := u') hw'
  have hg := gcd_pos' (u := u) hw
  have hg' := gcd_pos' (u := u') hw'
  refine cop_unique (rd_cop hw) (rd_cop hw') (rdL_pos hw) (rdL_pos hw') ?_
  have e5 : ((Int.gcd u w : Int) * (Int.gcd u' w' : Int)) * (rdU u w * rdL u' w') = ((Int.gcd u w : Int) * (Int.gcd u' w' : Int)) * (rdU u' w' * rdL u w) := by
    have q1 : ((Int.gcd u w : Int) * (Int.gcd u' w' : Int)) * (rdU u w * rdL u' w') = ((Int.gcd u w : Int) * rdU u w) * ((Int.gcd u' w' : Int) * rdL u' w') := by
      simp only [Int.mul_assoc, Int.mul_left_comm, Int.mul_comm]
    have q2 : ((Int.gcd u w : Int) * (Int.gcd u' w' : Int)) * (rdU u' w' * rdL u w) = ((Int.gcd u' w' : Int) * rdU u' w') * ((Int.gcd u w : Int) * rdL u w) := by
      simp only [Int.mul_assoc, Int.mul_left_comm, Int.mul_comm]
    rw [q1, q2, e1, e2, e3, e4]; exact h
  exact Int.eq_of_mul_eq_mul_left (Int.ne_of_gt (Int.mul_pos (by omega) (by omega))) e5
theorem rd_self {u w : Int} (h : Int.gcd u w = 1) : rdU u w = u ∧ rdL u w = w := by unfold rdU rdL; rw [h]; simp
theorem cm_g {u w : Int64} (hw : 0 < w.toInt) : (cm u w).toInt = (Int.gcd u.toInt w.toInt : Int) := cm_t hw
theorem fr_t {u w : Int64} (hu : 0 ≤ u.toInt) (hw : 0 < w.toInt) : (u / cm u w).toInt = rdU u.toInt w.toInt ∧ (w / cm u w).toInt = rdL u.toInt w.toInt := by
  have h1 := cm_g (u := u) hw
  unfold rdU rdL
  rw [ldiv_p hu (by rw [h1]; omega), ldiv_p (by omega) (by rw [h1]; omega), h1]
  exact ⟨rfl, rfl⟩
/-- what holds of a head's value -/
def VA (A : HV) : Prop :=
  (1 ≤ A 0 0 ∧ A 0 0 ≤ 120) ∧ (10 ≤ A 0 1 ∧ A 0 1 ≤ 100) ∧ (1 ≤ A 0 2 ∧ A 0 2 ≤ 3) ∧ (1 ≤ A 0 3 ∧ A 0 3 ≤ 18) ∧ (0 ≤ A 0 4 ∧ A 0 4 ≤ 12) ∧ (0 ≤ A 0 5 ∧ A 0 5 < A 0 3) ∧ (A 0 6 = 0 ∨ A 0 6 = 2 ∨ A 0 6 = 4) ∧ (0 ≤ A 0 7 ∧ A 0 7 ≤ 60) ∧
  (0 ≤ A 0 8 ∧ A 0 8 ≤ 10000 ∧ 1 ≤ A 0 9 ∧ A 0 9 ≤ 10000 ∧ Int.gcd (A 0 8) (A 0 9) = 1) ∧ (A 0 12 = 1 ∨ A 0 12 = -1) ∧ (A 0 6 = 0 → A 0 8 = 0 ∧ A 0 9 = 1 ∧ A 0 12 = 1) ∧ ¬ A 0 0 * A 0 9 = A 0 12 * A 0 8 ∧
  (0 ≤ A 0 10 ∧ A 0 10 < A 0 11 ∧ A 0 11 ≤ 1000000000 ∧ Int.gcd (A 0 10) (A 0 11) = 1) ∧ (∀ k : Nat, (k : Int) < A 0 3 → 10 ≤ A 1 k ∧ A 1 k ≤ 70 ∧ 0 ≤ A 2 k ∧ A 2 k < A 0 2) ∧ (∀ k : Nat, (k : Int) + 1 < A 0 3 → A 2 k ≤ A 2 (k + 1)) ∧ (∀ k : Nat, (k : Int) < A 0 4 → 20 ≤ A 3 k ∧ A 3 k ≤ 100) ∧
  (∀ k : Nat, (k : Int) < A 0 7 → 0 ≤ A 4 k ∧ A 4 k < A 5 k ∧ A 5 k ≤ 1000000000 ∧ Int.gcd (A 4 k) (A 5 k) = 1) ∧ ∀ i j : Nat, i < j → (j : Int) < A 0 7 → A 4 i * A 5 j < A 4 j * A 5 i
/-- holes of the circle in use; how far the work goes: by how many, with its sign -/
def Hc (A : HV) : Int := A 1 (A 0 5).toNat
def Nv (A : HV) : Int := Hc A * (A 0 0 * A 0 9 - A 0 12 * A 0 8)
def wdL (A : HV) : Int := A 0 11 * (Nv A).natAbs
def wdU (A : HV) (q : Int) : Int := (A 0 10 * (Nv A).natAbs + (Nv A).sign * (q * A 0 9) * A 0 11) % wdL A
def windQ (A : HV) (q : Int) : Int × HV := if rdL (wdU A q) (wdL A) ≤ 1000000000 then (0, uv (uv A 0 10 (rdU (wdU A q) (wdL A))) 0 11 (rdL (wdU A q) (wdL A))) else (-4, A)
def windP (A : HV) (t m b : Int) : Int × HV := if (0 ≤ t ∧ t ≤ 99) ∧ (0 ≤ m ∧ m ≤ Hc A - 1) ∧ (0 ≤ b ∧ b ≤ 1) then windQ A (if b = 1 then -(t * Hc A + m) else t * Hc A + m) else (-1, A)
theorem VA.hc {A : HV} (V : VA A) : 10 ≤ Hc A ∧ Hc A ≤ 70 := by
  obtain ⟨-, -, -, v3, -, v5, -, -, -, -, -, -, -, v13, -⟩ := V
  have := v13 (A 0 5).toNat (by omega)
  exact ⟨this.1, this.2.1⟩
theorem VA.nv {A : HV} (V : VA A) : Nv A ≠ 0 ∧ -84700000 ≤ Nv A ∧ Nv A ≤ 84700000 ∧ -1210000 ≤ A 0 0 * A 0 9 - A 0 12 * A 0 8 ∧ A 0 0 * A 0 9 - A 0 12 * A 0 8 ≤ 1210000 := by
  obtain ⟨c1, c2⟩ := V.hc
  obtain ⟨v0, -, -, v3, -, v5, -, -, v8, v9, -, v11, -⟩ := V
  have m1 := mul_bd (a := A 0 0) (b := A 0 9) (M := 120) (K := 10000) (by omega) (by omega) (by omega) (by omega)
  have m2 : -10000 ≤ A 0 12 * A 0 8 ∧ A 0 12 * A 0 8 ≤ 10000 := by rcases v9 with e | e <;> rw [e] <;> omega
  have hd : A 0 0 * A 0 9 - A 0 12 * A 0 8 ≠ 0 := by omega
  have m3 : -1210000 ≤ A 0 0 * A 0 9 - A 0 12 * A 0 8 ∧ A 0 0 * A 0 9 - A 0 12 * A 0 8 ≤ 1210000 := by omega
  refine ⟨Int.mul_ne_zero (by omega) hd, ?_, ?_, m3.1, m3.2⟩
  · unfold Nv
    rcases Int.le_total 0 (A 0 0 * A 0 9 - A 0 12 * A 0 8) with q | q
    · have := Int.mul_nonneg (a := Hc A) (by omega) q; omega
    · have := (mul_bd (a := Hc A) (b := -(A 0 0 * A 0 9 - A 0 12 * A 0 8)) (M := 70) (K := 1210000) (by omega) (by omega) (by omega) (by omega)).2
      rw [Int.mul_neg] at this; omega
  · unfold Nv
    rcases Int.le_total 0 (A 0 0 * A 0 9 - A 0 12 * A 0 8) with q | q
    · have := (mul_bd (a := Hc A) (b := A 0 0 * A 0 9 - A 0 12 * A 0 8) (M := 70) (K := 1210000) (by omega) (by omega) (by omega) (by omega)).2; omega
    · have := Int.mul_nonpos_of_nonneg_of_nonpos (a := Hc A) (by omega) q; omega
/-- the place behind q holes, by whatever fraction s by w the step is: as long as it is the same one -/
theorem wd_same {A : HV} (V : VA A) {q s w g : Int} (hw : 0 < w) (hg : 0 < g) (hN : g * w = (Nv A).natAbs) (hs : ∃ z, g * s = (Nv A).sign * A 0 9 + z * (Nv A).natAbs) {U L : Int} (hL : L = A 0 11 * w) (hU : U = (A 0 10 * w + q * s * A 0 11) % L) : rdU U L = rdU (wdU A q) (wdL A) ∧ rdL U L = rdL (wdU A q) (wdL A) := by
  have v := V
  obtain ⟨-, -, -, -, -, -, -, -, -, -, -, -, v12, -⟩ := v
  have hp : 0 < A 0 11 := by omega
  have hLp : 0 < L := by rw [hL]; exact Int.mul_pos hp hw
  have hW : wdL A = L * g := by unfold wdL; rw [← hN, hL, Int.mul_comm g, Int.mul_assoc]
  obtain ⟨z, hz⟩ := hs
  have hU2 : U * g = wdU A q := by
    rw [hU, Int.mul_comm _ g, ← Int.mul_emod_mul_of_pos _ _ hg, Int.mul_comm g, Int.mul_comm g]
    unfold wdU
    rw [hW, ← hN]
    have e : (A 0 10 * w + q * s * A 0 11) * g = (A 0 10 * (g * w) + (Nv A).sign * (q * A 0 9) * A 0 11) + (L * g) * (q * z) := by
      have e1 : (A 0 10 * w + q * s * A 0 11) * g = A 0 10 * (g * w) + q * (g * s) * A 0 11 := by
        rw [Int.add_mul]; simp only [Int.mul_assoc, Int.mul_left_comm, Int.mul_comm]
      rw [e1, hz, ← hN, hL, Int.mul_add, Int.add_mul, ← Int.add_assoc]
      simp only [Int.mul_assoc, Int.mul_left_comm, Int.mul_comm]
    rw [e, Int.add_mul_emod_self_left]
  refine rd_unique hLp (by rw [hW]; exact Int.mul_pos hLp hg) ?_
  rw [hW, ← hU2]
  simp only [Int.mul_assoc, Int.mul_left_comm, Int.mul_comm]
