-- the reference's acts: where the work comes to
theorem jmod {x y : Int} (h : 0 < y) : (x.tmod y + y).tmod y = x % y ∧ 0 < x.tmod y + y ∧ x.tmod y + y < 2 * y := by
  have h1 : -y < x.tmod y ∧ x.tmod y < y := by
    have a := Int.tmod_lt_of_pos x h
    have b := Int.tmod_lt_of_pos (-x) h
    rw [Int.neg_tmod] at b
    omega
  refine ⟨?_, by omega, by omega⟩
  rw [Int.tmod_eq_emod_of_nonneg (by omega)]
  have e := Int.tmod_add_mul_tdiv x y
  have e2 : x.tmod y + y = x + y * (1 - x.tdiv y) := by rw [Int.mul_sub]; omega
  rw [e2, Int.add_mul_emod_self_left]
theorem jmod_t {x y : Int64} (hy : 0 < y.toInt) (hb : y.toInt ≤ 4000000000000000000) : ((x % y + y) % y).toInt = x.toInt % y.toInt := by
  obtain ⟨e, q1, q2⟩ := jmod (x := x.toInt) hy
  rw [lrem_t, ladd_t] <;> rw [lrem_t]
  · exact e
  all_goals omega
theorem nx_same {P0 P1 s w q X : Int} (hw : 0 < w) (hP : 0 < P1) (hX : X = P0 * rdL P1 (rdL (q * s) w) + (rdU (q * s) w).tmod (rdL (q * s) w) * rdU P1 (rdL (q * s) w)) : rdU (X % (rdU P1 (rdL (q * s) w) * rdL (q * s) w)) (rdU P1 (rdL (q * s) w) * rdL (q * s) w) = rdU ((P0 * w + q * s * P1) % (P1 * w)) (P1 * w) ∧ rdL (X % (rdU P1 (rdL (q * s) w) * rdL (q * s) w)) (rdU P1 (rdL (q * s) w) * rdL (q * s) w) = rdL ((P0 * w + q * s * P1) % (P1 * w)) (P1 * w) ∧ 0 < rdU P1 (rdL (q * s) w) * rdL (q * s) w := by
  obtain ⟨c1, c2⟩ := rd_mul (u := q * s) hw
  have cp := gcd_pos' (u := q * s) hw
  have Lp := rdL_pos (u := q * s) hw
  generalize (Int.gcd (q * s) w : Int) = c at *
  generalize rdU (q * s) w = u at *
  generalize rdL (q * s) w = L at *
  obtain ⟨g1, g2⟩ := rd_mul (u := P1) Lp
  have gp := gcd_pos' (u := P1) Lp
  have pn := rdU_nn (u := P1) (w := L) (by omega) Lp
  generalize (Int.gcd P1 L : Int) = g at *
  generalize rdU P1 L = p1 at *
  generalize rdL P1 L = l1 at *
  have cpos : 0 < c := by
    rcases Int.lt_or_le 0 c with z | z
    · exact z
    · have := Int.mul_nonpos_of_nonpos_of_nonneg z (Int.le_of_lt Lp); omega
  have gpos : 0 < g := by
    rcases Int.lt_or_le 0 g with z | z
    · exact z
    · have := Int.mul_nonpos_of_nonpos_of_nonneg z pn; omega
  have p1p : 0 < p1 := by
    rcases Int.lt_or_le 0 p1 with z | z
    · exact z
    · have : p1 = 0 := by omega
      rw [this] at g1; omega
  have lowp : 0 < p1 * L := Int.mul_pos p1p Lp
  have gcp : 0 < g * c := Int.mul_pos gpos cpos
  have e1 : P1 * w = g * c * (p1 * L) := by rw [← g1, ← c2]; simp only [Int.mul_assoc, Int.mul_left_comm, Int.mul_comm]
  have e2 : P0 * w + q * s * P1 = g * c * (P0 * l1 + u * p1) := by
    rw [← c2, ← c1, Int.mul_add]
    have : P0 * (c * L) = P0 * (c * (g * l1)) := by rw [g2]
    rw [this, ← g1]
    simp only [Int.mul_assoc, Int.mul_left_comm, Int.mul_comm]
  have e3 : X = (P0 * l1 + u * p1) + (p1 * L) * (-(u.tdiv L)) := by
    have t := Int.tmod_add_mul_tdiv u L
    have t2 : u.tmod L = u - L * u.tdiv L := by omega
    rw [hX, t2, Int.sub_mul, Int.mul_neg]
    have : L * u.tdiv L * p1 = p1 * L * u.tdiv L := by simp only [Int.mul_assoc, Int.mul_left_comm, Int.mul_comm]
    omega
  have e4 : X % (p1 * L) = (P0 * l1 + u * p1) % (p1 * L) := by rw [e3, Int.add_mul_emod_self_left]
  have e5 : (P0 * w + q * s * P1) % (P1 * w) = g * c * (X % (p1 * L)) := by rw [e1, e2, e4, Int.mul_emod_mul_of_pos _ _ gcp]
  have := rd_unique (u := X % (p1 * L)) (w := p1 * L) (u' := (P0 * w + q * s * P1) % (P1 * w)) (w' := P1 * w) lowp (by rw [e1]; exact Int.mul_pos gcp lowp) (by
    rw [e5, e1]; simp only [Int.mul_assoc, Int.mul_left_comm, Int.mul_comm])
  exact ⟨this.1, this.2, lowp⟩
theorem natAbs_pos' {N : Int} (h : N ≠ 0) : 0 < (N.natAbs : Int) := by omega
theorem st_facts {A : HV} (V : VA A) : 0 < stL A ∧ stL A ≤ 84700000 ∧ -10000 ≤ stU A ∧ stU A ≤ 10000 ∧ Int.gcd (stU A) (stL A) = 1 ∧ ∃ g : Int, 0 < g ∧ g * stL A = (Nv A).natAbs ∧ g * stU A = (Nv A).sign * A 0 9 := by
  have nv := V.nv
  have Np := natAbs_pos' nv.1
  have r := V.ratio
  obtain ⟨r1, r2⟩ := rd_mul (u := (Nv A).sign * A 0 9) Np
  have gp := gcd_pos' (u := (Nv A).sign * A 0 9) Np
  have lp := rdL_pos (u := (Nv A).sign * A 0 9) Np
  have ll := rdL_le (u := (Nv A).sign * A 0 9) Np
  have hs : (Nv A).sign = 1 ∨ (Nv A).sign = -1 := by
    rcases Int.lt_trichotomy (Nv A) 0 with q | q | q
    · exact Or.inr (Int.sign_eq_neg_one_of_neg q)
    · exact absurd q nv.1
    · exact Or.inl (Int.sign_eq_one_of_pos q)
  refine ⟨lp, by unfold stL; omega, ?_, ?_, rd_cop Np, _, by omega, r2, r1⟩
  · unfold stU
    generalize rdU ((Nv A).sign * A 0 9) (Nv A).natAbs = u at *
    generalize hg : (Int.gcd ((Nv A).sign * A 0 9) (Nv A).natAbs : Int) = g at *
    rcases Int.lt_or_le u 0 with z | z
    · have : g * u ≤ 1 * u := Int.mul_le_mul_of_nonpos_right (by omega) (by omega)
      rcases hs with e | e <;> rw [e] at r1 <;> omega
    · omega
  · unfold stU
    generalize rdU ((Nv A).sign * A 0 9) (Nv A).natAbs = u at *
    generalize hg : (Int.gcd ((Nv A).sign * A 0 9) (Nv A).natAbs : Int) = g at *
    rcases Int.lt_or_le u 0 with z | z
    · omega
    · have : 1 * u ≤ g * u := Int.mul_le_mul_of_nonneg_right (by omega) z
      rcases hs with e | e <;> rw [e] at r1 <;> omega
def nxU (A : HV) (q : Int) : Int := rdU (wdU A q) (wdL A)
def nxL (A : HV) (q : Int) : Int := rdL (wdU A q) (wdL A)
def goQ (A : HV) (k q : Int) : Int × HV := if nxL (atC A k) q ≤ 1000000000 then (0, uv (uv A 0 10 (nxU (atC A k) q)) 0 11 (nxL (atC A k) q)) else (-4, A)
theorem atC_self (A : HV) : atC A (A 0 5) = A := by
  funext i j
  show uv A 0 5 (A 0 5) i j = A i j
  rw [uv_eq]
  by_cases z : i = 0 ∧ j = 5
  · rw [if_pos z, z.1, z.2]
  · rw [if_neg z]
theorem goQ_self (A : HV) (q : Int) : goQ A (A 0 5) q = windQ A q := by
  unfold goQ windQ nxU nxL
  rw [atC_self]
section Lay2
variable {l : Launch} {D : Dt} {h : Hp} {m : Nat} {A : HV}
theorem lM_t : (1000000000 : Int64).toInt = 1000000000 := rfl
theorem ma_laysNext (H : MdR h m A) (V : VA A) {k : Int32} {q : Int64} (h1 : 0 ≤ k.toInt) (h2 : k.toInt < A 0 3) (q1 : -10000 ≤ q.toInt) (q2 : q.toInt ≤ 10000) : S_X10_laysNext l D 0 0 [.ref m, .int k, .long q] h (QI fun x h' => (x = 0 ↔ ¬ nxL (atC A k.toInt) q.toInt ≤ 1000000000) ∧ (gl h' m 31).toInt = nxU (atC A k.toInt) q.toInt ∧ (gl h' m 32).toInt = nxL (atC A k.toInt) q.toInt ∧ MdR h' m A ∧ FrA m h h') := Sp.of rfl (Nat.le_of_ble_eq_true rfl) (fun X C _ _ _ _ => V_X10_laysNext_0 C (by
  refine ⟨H.1, (ma_laysStep H V h1 h2).mono (fun v h3 hp => ?_)⟩
  obtain ⟨rfl, eu, el, H3, f3⟩ := hp
  have V1 := V.toC h1 h2
  obtain ⟨s1, s2, s3, s4, s5, g, g0, gL, gU⟩ := st_facts V1
  have pl := V.place
  have eP0 : (gl h3 (m + 4) (ix 0)).toInt = A 0 10 := by rw [ix_0]; exact H3.up
  have eP1 : (gl h3 (m + 4) (ix 1)).toInt = A 0 11 := by rw [ix_1]; exact H3.low
  have hw := wd_same V1 (q := q.toInt) (s := stU (atC A k.toInt)) (w := stL (atC A k.toInt)) (g := g) s1 g0 gL ⟨0, by rw [gU]; omega⟩ (L := A 0 11 * stL (atC A k.toInt)) (U := (A 0 10 * stL (atC A k.toInt) + q.toInt * stU (atC A k.toInt) * A 0 11) % (A 0 11 * stL (atC A k.toInt))) rfl rfl
  have enU : nxU (atC A k.toInt) q.toInt = rdU (wdU (atC A k.toInt) q.toInt) (wdL (atC A k.toInt)) := rfl
  have enL : nxL (atC A k.toInt) q.toInt = rdL (wdU (atC A k.toInt) q.toInt) (wdL (atC A k.toInt)) := rfl
  rw [← enU, ← enL] at hw
  generalize nxU (atC A k.toInt) q.toInt = nU at *
  generalize nxL (atC A k.toInt) q.toInt = nL at *
  generalize stU (atC A k.toInt) = s at *
  generalize stL (atC A k.toInt) = w at *
  have bqs : -100000000 ≤ q.toInt * s ∧ q.toInt * s ≤ 100000000 := by
    rcases Int.le_total 0 q.toInt with a | a <;> rcases Int.le_total 0 s with b | b
    · have := mul_bd (a := q.toInt) (b := s) (M := 10000) (K := 10000) a q2 b s4; omega
    · have := mul_bd (a := q.toInt) (b := -s) (M := 10000) (K := 10000) a q2 (by omega) (by omega); rw [Int.mul_neg] at this; omega
    · have := mul_bd (a := -q.toInt) (b := s) (M := 10000) (K := 10000) (by omega) (by omega) b s4; rw [Int.neg_mul] at this; omega
    · have := mul_bd (a := -q.toInt) (b := -s) (M := 10000) (K := 10000) (by omega) (by omega) (by omega) (by omega); rw [Int.neg_mul, Int.mul_neg] at this; omega
  have t1 : (q * gl h3 m 29).toInt = q.toInt * s := by rw [lmul_t] <;> rw [eu] <;> omega
  have wp : 0 < (gl h3 m 30).toInt := by omega
  obtain ⟨x1, x2⟩ := fr_x (u := q * gl h3 m 29) wp
  rw [t1, el] at x1 x2
  have cz := cm_tp (u := q * gl h3 m 29) wp
  have Lp := rdL_pos (u := q.toInt * s) s1
  have Ll := rdL_le (u := q.toInt * s) s1
  have nx := nx_same (P0 := A 0 10) (P1 := A 0 11) (s := s) (w := w) (q := q.toInt) s1 (by omega) rfl
  have bU : -100000000 ≤ rdU (q.toInt * s) w ∧ rdU (q.toInt * s) w ≤ 100000000 := by
    obtain ⟨c1, c2⟩ := rd_mul (u := q.toInt * s) s1
    have cp := gcd_pos' (u := q.toInt * s) s1
    generalize rdU (q.toInt * s) w = u at *
    generalize hg : (Int.gcd (q.toInt * s) w : Int) = c at *
    rcases Int.le_total 0 u with a | a
    · have : 1 * u ≤ c * u := Int.mul_le_mul_of_nonneg_right (by omega) a; omega
    · have : c * u ≤ 1 * u := Int.mul_le_mul_of_nonpos_right (by omega) a; omega
  generalize rdU (q.toInt * s) w = u at *
  generalize rdL (q.toInt * s) w = L at *
  refine ⟨rfl, H3.1, by rw [t1]; omega, wp, by rw [i64_eq, l0_t]; omega, fun z7 e7 => ⟨by rw [eP1]; omega, by rw [x2]; exact Lp, fun z10 e10 => ?_⟩⟩
  have lP : 0 < (gl h3 m 30 / cm (q * gl h3 m 29) (gl h3 m 30)).toInt := by rw [x2]; exact Lp
  generalize hl : gl h3 m 30 / cm (q * gl h3 m 29) (gl h3 m 30) = lz at *
  obtain ⟨y1, y2⟩ := fr_x (u := gl h3 (m + 4) (ix 1)) (w := lz) lP
  rw [← e10, eP1, x2] at y1 y2
  have c10 : 0 < z10.toInt := by rw [e10]; exact cm_tp lP
  have p1n := rdU_nn (u := A 0 11) (w := L) (by omega) Lp
  have p1l := rdU_le (u := A 0 11) (w := L) (by omega)
  have l1p := rdL_pos (u := A 0 11) (w := L) Lp
  have l1l := rdL_le (u := A 0 11) (w := L) Lp
  obtain ⟨nx1, nx2, nx3⟩ := nx
  generalize rdU (A 0 11) L = p1 at *
  generalize rdL (A 0 11) L = l1 at *
  have b12 := mul_bd (a := p1) (b := L) (M := 1000000000) (K := 84700000) p1n (by omega) (by omega) (by omega)
  refine ⟨by rw [i64_eq, l0_t]; omega, fun z12 e12 => ⟨by rw [i64_eq, l0_t, x2]; omega, fun z14 e14 => ?_⟩⟩
  have t12 : z12.toInt = p1 * L := by rw [e12, lmul_t] <;> rw [y1, x2] <;> omega
  have tm1 : -L < u.tmod L ∧ u.tmod L < L := by
    have a := Int.tmod_lt_of_pos u Lp
    have b := Int.tmod_lt_of_pos (-u) Lp
    rw [Int.neg_tmod] at b
    omega
  have e7t : z7.toInt = u := by rw [e7, x1]
  have a1 : (gl h3 (m + 4) (ix 0) * (lz / z10)).toInt = A 0 10 * l1 := by
    have := mul_bd (a := A 0 10) (b := l1) (M := 1000000000) (K := 84700000) (by omega) (by omega) (by omega) (by omega)
    rw [lmul_t] <;> rw [eP0, y2] <;> omega
  have bb1 := mul_bd (a := A 0 10) (b := l1) (M := 1000000000) (K := 84700000) (by omega) (by omega) (by omega) (by omega)
  have bb2 : -84700000000000000 ≤ u.tmod L * p1 ∧ u.tmod L * p1 ≤ 84700000000000000 := by
    rcases Int.le_total 0 (u.tmod L) with a | a
    · have := mul_bd (a := u.tmod L) (b := p1) (M := 84700000) (K := 1000000000) a (by omega) p1n (by omega); omega
    · have := mul_bd (a := -(u.tmod L)) (b := p1) (M := 84700000) (K := 1000000000) (by omega) (by omega) p1n (by omega)
      rw [Int.neg_mul] at this; omega
  have a2 : (z7 % lz * (gl h3 (m + 4) (ix 1) / z10)).toInt = u.tmod L * p1 := by
    rw [lmul_t] <;> rw [lrem_t, e7t, x2, y1] <;> omega
  have t14 : z14.toInt = A 0 10 * l1 + u.tmod L * p1 := by rw [e14, ladd_t] <;> rw [a1, a2] <;> omega
  have p12 : 0 < z12.toInt := by rw [t12]; exact nx3
  have tj : ((z14 % z12 + z12) % z12).toInt = (A 0 10 * l1 + u.tmod L * p1) % (p1 * L) := by rw [jmod_t p12 (by rw [t12]; omega), t14, t12]
  generalize hy : (z14 % z12 + z12) % z12 = y at *
  have yn : 0 ≤ y.toInt := by rw [tj]; exact Int.emod_nonneg _ (by omega)
  obtain ⟨w1, w2⟩ := fr_x (u := y) p12
  rw [tj, t12, nx1, hw.1] at w1
  rw [tj, t12, nx2, hw.2] at w2
  have cy := cm_tp (u := y) p12
  have f : FrA m h (sl (sl h3 m 31 (y / cm y z12)) m 32 (z12 / cm y z12)) := (f3.sl (Or.inl ⟨rfl, by omega, by omega⟩)).sl (Or.inl ⟨rfl, by omega, by omega⟩)
  have HH : MdR (sl (sl h3 m 31 (y / cm y z12)) m 32 (z12 / cm y z12)) m A := H3.fr V ((FrW.rf.sl (P := fun _ _ => False) (R := fun b _ => b = m) rfl).sl rfl) (fun _ _ => id) (fun _ _ q => by omega)
  have g1 : (gl (sl (sl h3 m 31 (y / cm y z12)) m 32 (z12 / cm y z12)) m 31).toInt = nU := by rw [gl_sl, if_neg (by omega), gl_sl, if_pos ⟨rfl, rfl⟩, w1]
  have g2 : (gl (sl (sl h3 m 31 (y / cm y z12)) m 32 (z12 / cm y z12)) m 32).toInt = nL := by rw [gl_sl, if_pos ⟨rfl, rfl⟩, w2]
  refine ⟨by rw [i64_eq, l0_t]; omega, by omega, p12, by rw [i64_eq, l0_t]; omega, fun q => ⟨_, rfl, ?_, g1, g2, HH, f⟩, fun q => ⟨_, rfl, ?_, g1, g2, HH, f⟩⟩
  · rw [i64_lt, g2, lM_t] at q
    exact ⟨fun _ => by omega, fun _ => rfl⟩
  · rw [i64_lt, g2, lM_t] at q
    exact ⟨fun z => absurd z p1_ne, fun z => by omega⟩))
theorem ma_goesBy (H : MdR h m A) (V : VA A) {k : Int32} {q : Int64} (h1 : 0 ≤ k.toInt) (h2 : k.toInt < A 0 3) (q1 : -10000 ≤ q.toInt) (q2 : q.toInt ≤ 10000) : S_X10_goesBy l D 0 0 [.ref m, .int k, .long q] h (QI fun x h' => x.toInt = (goQ A k.toInt q.toInt).1 ∧ MdR h' m (goQ A k.toInt q.toInt).2 ∧ FrA m h h') := Sp.of rfl (Nat.le_of_ble_eq_true rfl) (fun X C _ _ _ _ => V_X10_goesBy_0 C (by
  refine ⟨H.1, (ma_laysNext H V h1 h2 q1 q2).mono (fun v h3 hp => ?_)⟩
  obtain ⟨x, rfl, hx, e1, e2, H3, f3⟩ := hp
  unfold goQ
  refine ⟨x, rfl, fun z => ⟨H3.1, ?_⟩, fun z => ?_⟩
  · have hle : nxL (atC A k.toInt) q.toInt ≤ 1000000000 := Decidable.not_not.mp (fun y => z (hx.mpr y))
    rw [ix_0, ix_1, if_pos hle]
    have e3 : gl (sl h3 (m + 4) 0 (gl h3 m 31)) m 32 = gl h3 m 32 := by rw [gl_sl, if_neg (by omega)]
    rw [e3]
    have f : FrA m h (sl (sl h3 (m + 4) 0 (gl h3 m 31)) (m + 4) 1 (gl h3 m 32)) := (f3.sl (Or.inr ⟨rfl, by omega⟩)).sl (Or.inr ⟨rfl, by omega⟩)
    refine ⟨_, rfl, rfl, ⟨f.st10 H.1, H3.2.mach V (fun j hj => rfl) (fun i hi => ?_) (fun i j h1 h2 => ?_) ?_ ?_ ?_ ?_ ?_ (fun j hj => ?_) (fun q => ?_)⟩, f⟩
    · dsimp only; rw [uv_eq, if_neg (by omega), uv_eq, if_neg (by omega)]
    · dsimp only; rw [uv_eq, if_neg (by omega), uv_eq, if_neg (by omega)]
    · exact H3.circ
    · exact H3.many
    · exact H3.marks
    · unfold mL; rw [gl_sl, if_neg (by omega), gl_sl, if_pos ⟨rfl, rfl⟩]; exact e1
    · unfold mL; rw [gl_sl, if_pos ⟨rfl, rfl⟩]; exact e2
    · unfold mL
      rw [gl_sl, if_neg (by omega), gl_sl, if_neg (by omega), gl_sl, if_neg (by omega), gl_sl, if_neg (by omega)]
      exact H3.mark hj
    · exact (H3.train q).ext (fun j h1 h2 => rfl) rfl rfl rfl rfl rfl (fun _ => rfl)
  · rw [if_neg (hx.mp z)]
    exact ⟨_, rfl, rfl, H3, f3⟩))
theorem ma_turnsOne (H : MdR h m A) (V : VA A) {t c b : Int32} : S_X10_turnsOne l D 0 0 [.ref m, .int t, .int c, .int b] h (QI fun x h' => x.toInt = (windP A t.toInt c.toInt b.toInt).1 ∧ MdR h' m (windP A t.toInt c.toInt b.toInt).2 ∧ FrA m h h') := Sp.of rfl (Nat.le_of_ble_eq_true rfl) (fun X C _ _ _ _ => V_X10_turnsOne_0 C (by
  rw [ix_53]
  have e5 := H.circ
  have vc := V.circ
  have v3 := V.2.2.2.1
  have hk : (gi h (m + 3) 53).toInt = ((ix (gi h (m + 3) 53) : Nat) : Int) := (ix_t (by omega)).symm
  obtain ⟨x1, -⟩ := ix_add (c := 23) (v := gi h (m + 3) 53) (a := 23) (b := ix (gi h (m + 3) 53)) rfl hk (by omega)
  have eh : (gi h (m + 3) (ix (23 + gi h (m + 3) 53))).toInt = Hc A := by
    rw [x1, H.hole (by omega)]
    unfold Hc ix
    rw [e5]
  have hc := V.hc
  have bad : ¬ ((0 ≤ t.toInt ∧ t.toInt ≤ 99) ∧ (0 ≤ c.toInt ∧ c.toInt ≤ Hc A - 1) ∧ (0 ≤ b.toInt ∧ b.toInt ≤ 1)) → (QI fun x h' => x.toInt = (windP A t.toInt c.toInt b.toInt).1 ∧ MdR h' m (windP A t.toInt c.toInt b.toInt).2 ∧ FrA m h h') (some (.int (-1))) h := fun q => by
    unfold windP
    rw [if_neg q]
    exact ⟨_, rfl, rfl, H, FrW.rf⟩
  have es : (gi h (m + 3) (ix (23 + gi h (m + 3) 53)) - 1).toInt = Hc A - 1 := by rw [isub_t] <;> rw [i1_t, eh] <;> omega
  have go : ∀ (z : Int64) (q : Int), z.toInt = q → -10000 ≤ q → q ≤ 10000 → ((0 ≤ t.toInt ∧ t.toInt ≤ 99) ∧ (0 ≤ c.toInt ∧ c.toInt ≤ Hc A - 1) ∧ (0 ≤ b.toInt ∧ b.toInt ≤ 1)) → (q = if b.toInt = 1 then -(t.toInt * Hc A + c.toInt) else t.toInt * Hc A + c.toInt) → S_X10_goesBy (lX X) (dtX X) 0 0 [.ref m, .int (gi h (m + 3) 53), .long z] h (QI fun x5 h4 => (QI fun x h' => x.toInt = (windP A t.toInt c.toInt b.toInt).1 ∧ MdR h' m (windP A t.toInt c.toInt b.toInt).2 ∧ FrA m h h') (some (.int x5)) h4) := by
    intro z q hz q1 q2 hok hq
    refine (ma_goesBy H V (k := gi h (m + 3) 53) (q := z) (by omega) (by omega) (by omega) (by omega)).mono (fun v h3 hp => ?_)
    obtain ⟨x, rfl, r1, r2, r3⟩ := hp
    refine ⟨x, rfl, x, rfl, ?_⟩
    rw [e5, goQ_self, hz, hq] at r1 r2
    unfold windP
    rw [if_pos hok]
    exact ⟨r1, r2, r3⟩
  refine ⟨H.1, fun q => bad ?_, fun q => ⟨inb_add (a := 23) (b := ix (gi h (m + 3) 53)) rfl hk (by omega) (by omega), fun q' => bad ?_, fun q' => ⟨fun q2 => fun z hz => ?_, fun q2 => bad ?_⟩⟩⟩
  all_goals rw [btL_0, i2l_t, l0_t, l99_t] at q
  · omega
  all_goals rw [btL_0, i2l_t, l0_t, i2l_t, es] at q'
  · omega
  all_goals rw [btL_0, i2l_t, l0_t, l1_t] at q2
  · have b2 := mul_bd (a := t.toInt) (b := Hc A) (M := 99) (K := 70) (by omega) (by omega) (by omega) (by omega)
    have t2 : ((t.toInt64) * (gi h (m + 3) (ix (23 + gi h (m + 3) 53))).toInt64).toInt = t.toInt * Hc A := by rw [lmul_t] <;> rw [i2l_t, i2l_t, eh] <;> omega
    have t3 : z.toInt = t.toInt * Hc A + c.toInt := by rw [hz, ladd_t] <;> rw [t2, i2l_t] <;> omega
    refine ⟨fun q3 => go z _ t3 (by omega) (by omega) (by omega) ?_, fun q3 => go (-z) _ (by rw [lneg_t (by omega), t3]) (by omega) (by omega) (by omega) ?_⟩
    · rw [i32_eq, i1_t] at q3; rw [if_neg q3]
    · rw [i32_eq, i1_t] at q3; rw [if_pos q3]
  · omega))
end Lay2
