-- near() of the class, whole
section Near3
variable {l : Launch} {D : Dt} {h : Hp} {x m : Nat} {s : Sv}
theorem i1e5_t : (100000 : Int32).toInt = 100000 := rfl
theorem i1000_t : (1000 : Int32).toInt = 1000 := rfl
theorem rd_far {p q : Int} (hq : 0 < q) {c : Int × Int} (hc : 0 < c.2) : rdU (farN p q (rdU c.1 c.2, rdL c.1 c.2)) (q * rdL c.1 c.2) = rdU (farN p q c) (q * c.2) ∧ rdL (farN p q (rdU c.1 c.2, rdL c.1 c.2)) (q * rdL c.1 c.2) = rdL (farN p q c) (q * c.2) := by
  obtain ⟨r1, r2⟩ := rd_mul (u := c.1) hc
  have gp := gcd_pos' (u := c.1) hc
  have lp := rdL_pos (u := c.1) hc
  generalize hg : (Int.gcd c.1 c.2 : Int) = g at *
  have e : farN p q c = g * farN p q (rdU c.1 c.2, rdL c.1 c.2) := by
    have e1 : p * c.2 - c.1 * q = g * (p * rdL c.1 c.2 - rdU c.1 c.2 * q) := by
      have a1 : p * c.2 = p * (g * rdL c.1 c.2) := by rw [r2]
      have a2 : c.1 * q = (g * rdU c.1 c.2) * q := by rw [r1]
      rw [a1, a2, Int.mul_sub]
      simp only [Int.mul_assoc, Int.mul_left_comm, Int.mul_comm]
    unfold farN
    dsimp only
    rw [e1, Int.natAbs_mul, Int.natCast_mul]
    congr 1
    omega
  refine rd_unique (Int.mul_pos hq lp) (Int.mul_pos hq hc) ?_
  have e3 : q * c.2 = q * (g * rdL c.1 c.2) := by rw [r2]
  rw [e, e3]
  simp only [Int.mul_assoc, Int.mul_left_comm, Int.mul_comm]
theorem ca_near (S : CSt h x m s) {p q k : Int32} : S_X9_near l D 0 0 [.ref x, .int p, .int q, .int k] h (QI fun y h' => y.toInt = (nearP s p.toInt q.toInt k.toInt).1 ∧ CSt h' x m (nearP s p.toInt q.toInt k.toInt).2 ∧ FrX (inC x m) h h') := Sp.of rfl (Nat.le_of_ble_eq_true rfl) (fun X C _ _ _ _ => V_X9_near_0 C (by
  unfold nearP
  refine ⟨fun z => ⟨_, rfl, ?_⟩, fun z => ⟨fun z2 => ⟨_, rfl, ?_⟩, fun z2 => ⟨fun z3 => ⟨S.1, ?_⟩, fun z3 => ⟨_, rfl, ?_⟩⟩⟩⟩
  all_goals rw [bt_0, i1_t, i1e5_t] at z
  · rw [if_neg (by omega)]; exact ⟨rfl, S, FrX.rf⟩
  all_goals rw [bt_0, i1_t, i1e5_t] at z2
  · rw [if_neg (by omega)]; exact ⟨rfl, S, FrX.rf⟩
  all_goals rw [bt_0, i1_t, i1000_t] at z3
  · have hz : (1 ≤ p.toInt ∧ p.toInt ≤ 100000) ∧ (1 ≤ q.toInt ∧ q.toInt ≤ 100000) ∧ (1 ≤ k.toInt ∧ k.toInt ≤ 1000) := by omega
    rw [if_pos hz]
    refine (cl_findNear S.1 (p := p.toInt64) (q := q.toInt64) (by rw [i2l_t]; omega) (by rw [i2l_t]; omega) (by rw [i2l_t]; omega) (by rw [i2l_t]; omega) hz.2.2.1 hz.2.2.2).mono (fun w h2 hp => ?_)
    obtain ⟨rfl, g1, g2, f2⟩ := hp
    rw [i2l_t, i2l_t] at g1 g2
    have nb := nrI_b hz.1.1 hz.1.2 hz.2.1.1 k.toInt.toNat (by omega)
    generalize nrI p.toInt q.toInt k.toInt.toNat = c at *
    obtain ⟨S2, p2, x2⟩ := S.scr f2 (fun _ _ q => absurd q id) (fun b j (q : b = x + 13) => by omega)
    have lp := rdL_pos (u := c.1) (w := c.2) (by omega)
    have ll := rdL_le (u := c.1) (w := c.2) (by omega)
    have un := rdU_nn (u := c.1) (w := c.2) (by omega) (by omega)
    have ul := rdU_le (u := c.1) (w := c.2) (by omega)
    have rf := rd_far (p := p.toInt) (q := q.toInt) (by omega) (c := c) (by omega)
    refine ⟨rfl, S2.1, (cl_addF (h := tcl h2 (x + 3)) (L := []) (b := x + 13) (St9_s1 S2.1) (St9_k6 S2.1) TdC.clr (by decide) g1 g2).mono (fun w h4 hp => ?_)⟩
    obtain ⟨rfl, w4, f4⟩ := hp
    have f24 : FrW (dI (x + 3)) (dL (x + 3)) h2 h4 := (FrW.rf.tcl).tr f4
    obtain ⟨S4, p4, x4⟩ := S2.row f24 w4
    have k0 : (gl h4 (x + 13) 0).toInt = rdU c.1 c.2 := by rw [f24.xl (fun (z : x + 13 = x + 3 + 1) => by omega)]; exact g1
    have k1 : (gl h4 (x + 13) 1).toInt = rdL c.1 c.2 := by rw [f24.xl (fun (z : x + 13 = x + 3 + 1) => by omega)]; exact g2
    obtain ⟨b1, b2, b3⟩ := farN_b (p := p.toInt) (q := q.toInt) (c := (rdU c.1 c.2, rdL c.1 c.2)) hz.1.1 hz.1.2 hz.2.1.1 hz.2.1.2 un (by dsimp only; omega) (by dsimp only; omega) (by dsimp only; omega)
    dsimp only at b1 b2
    have t1 : (p.toInt64 * gl h4 (x + 13) 1).toInt = p.toInt * rdL c.1 c.2 := by rw [lmul_t] <;> rw [i2l_t, k1] <;> omega
    have t2 : (gl h4 (x + 13) 0 * q.toInt64).toInt = rdU c.1 c.2 * q.toInt := by rw [lmul_t] <;> rw [i2l_t, k0] <;> omega
    have t3 : (p.toInt64 * gl h4 (x + 13) 1 - gl h4 (x + 13) 0 * q.toInt64).toInt = p.toInt * rdL c.1 c.2 - rdU c.1 c.2 * q.toInt := by rw [lsub_t] <;> rw [t1, t2] <;> omega
    have ef : (abL (p.toInt64 * gl h4 (x + 13) 1 - gl h4 (x + 13) 0 * q.toInt64)).toInt = farN p.toInt q.toInt (rdU c.1 c.2, rdL c.1 c.2) := by rw [abL_t (by rw [t3]; omega), t3]; rfl
    have m5 := mul_bd (a := q.toInt) (b := rdL c.1 c.2) (M := 100000) (K := 1000) (by omega) (by omega) (by omega) (by omega)
    have mp : 0 < q.toInt * rdL c.1 c.2 := Int.mul_pos (by omega) lp
    have t5 : (q.toInt64 * gl h4 (x + 13) 1).toInt = q.toInt * rdL c.1 c.2 := by rw [lmul_t] <;> rw [i2l_t, k1] <;> omega
    have fn := farN_nn p.toInt q.toInt (rdU c.1 c.2, rdL c.1 c.2)
    refine ⟨rfl, S4.1, by rw [ef]; omega, by rw [t5]; exact mp, ?_⟩
    generalize hu : abL (p.toInt64 * gl h4 (x + 13) 1 - gl h4 (x + 13) 0 * q.toInt64) = U at *
    generalize hw : q.toInt64 * gl h4 (x + 13) 1 = W at *
    obtain ⟨o1, o2⟩ := gl_fpt0 h4 (x + 14) U W
    obtain ⟨r1, r2⟩ := fr_x (u := U) (w := W) (by omega)
    rw [ef, t5, rf.1] at r1
    rw [ef, t5, rf.2] at r2
    have f6 : FrW (fun _ _ => False) (fun b _ => b = x + 14) h4 (fpt h4 (x + 14) U W) := FrW.sl (P := fun _ _ => False) (R := fun c _ => c = x + 14) (FrW.sl (P := fun _ _ => False) (R := fun c _ => c = x + 14) FrW.rf rfl) rfl
    obtain ⟨S6, p6, x6⟩ := S4.scr f6 (fun _ _ q => absurd q id) (fun b j (q : b = x + 14) => by omega)
    refine (cl_addF (h := fpt h4 (x + 14) U W) (b := x + 14) (St9_s1 S6.1) (St9_k7 S6.1) S6.2.2.2.2.2.2.1 (by show ([] ++ [_, _] : List Int).length < 59; simp) (u := rdU (farN p.toInt q.toInt c) (q.toInt * c.2)) (v := rdL (farN p.toInt q.toInt c) (q.toInt * c.2)) (by rw [o1]; exact r1) (by rw [o2]; exact r2)).mono (fun w h8 hp => ?_)
    obtain ⟨rfl, w8, f8⟩ := hp
    obtain ⟨S8, p8, x8⟩ := S6.row f8 w8
    have y0 : gl h8 (x + 13) 0 = gl h4 (x + 13) 0 := by rw [f8.xl (fun (z : x + 13 = x + 3 + 1) => by omega), f6.xl (fun (z : x + 13 = x + 14) => by omega)]
    have y1 : gl h8 (x + 13) 1 = gl h4 (x + 13) 1 := by rw [f8.xl (fun (z : x + 13 = x + 3 + 1) => by omega), f6.xl (fun (z : x + 13 = x + 14) => by omega)]
    refine ⟨rfl, S8.1, ?_⟩
    rw [y0, y1]
    refine (cl_treeSteps (by omega) (by omega) (by omega) (by omega)).mono (fun w h10 hp => ?_)
    obtain ⟨y, rfl, ey, e10⟩ := hp
    subst h10
    rw [k0, k1] at ey
    refine ⟨y, rfl, y, rfl, ?_, S8, ((x2.tr x4).tr x6).tr x8⟩
    rw [ey]
    obtain ⟨m1, m2⟩ := rd_mul (u := c.1) (w := c.2) (by omega)
    by_cases e : c.1 = 0
    · have e0 : rdU c.1 c.2 = 0 := by omega
      rw [if_pos e0, if_pos e]
    · have e0 : ¬ rdU c.1 c.2 = 0 := fun z => by rw [z, Int.mul_zero] at m1; omega
      rw [if_neg e0, if_neg e, trP_rd (p := c.1) (q := c.2) (by omega) (by omega)]
  · rw [if_neg (by omega)]; exact ⟨rfl, S, FrX.rf⟩))
end Near3
