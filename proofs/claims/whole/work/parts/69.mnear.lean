-- isNearer() of the reference
/-- what the reference holds for nearest: nothing yet, or b with how far off it is -/
def NRm (h : Hp) (m : Nat) (p q : Int) (b : Option (Int × Int)) : Prop := match b with
  | none => (gl h m 24).toInt = 0
  | some b => (gl h m 23).toInt = b.1 ∧ (gl h m 24).toInt = b.2 ∧ 0 < b.2 ∧ (gl h m 25).toInt = rdU (farN p q b) (b.2 * q) ∧ (gl h m 26).toInt = rdL (farN p q b) (b.2 * q)
/-- small enough to be compared -/
def nrOk (p q : Int) (c : Int × Int) : Prop := 0 ≤ c.1 ∧ c.1 ≤ 100000000000 ∧ 0 < c.2 ∧ c.2 ≤ 1000000 ∧ farN p q c ≤ 1000000000 ∧ c.2 * q ≤ 1000000000
def nrO (p q : Int) (b : Option (Int × Int)) (c : Int × Int) : Int × Int := match b with
  | none => c
  | some b => nrS p q b c
/-- the same as without reducing -/
theorem nr_cmp {p q : Int} (hq : 0 < q) {b c : Int × Int} (hb : 0 < b.2) (hc : 0 < c.2) : (rdU (farN p q c) (c.2 * q) * rdL (farN p q b) (b.2 * q) < rdU (farN p q b) (b.2 * q) * rdL (farN p q c) (c.2 * q) ↔ farN p q c * b.2 < farN p q b * c.2) ∧ (rdU (farN p q c) (c.2 * q) * rdL (farN p q b) (b.2 * q) = rdU (farN p q b) (b.2 * q) * rdL (farN p q c) (c.2 * q) ↔ farN p q c * b.2 = farN p q b * c.2) := by
  have pc : 0 < c.2 * q := Int.mul_pos hc hq
  have pb : 0 < b.2 * q := Int.mul_pos hb hq
  obtain ⟨r1, r2⟩ := rd_mul (u := farN p q c) pc
  obtain ⟨s1, s2⟩ := rd_mul (u := farN p q b) pb
  have g1 := gcd_pos' (u := farN p q c) pc
  have g2 := gcd_pos' (u := farN p q b) pb
  generalize rdU (farN p q c) (c.2 * q) = x at *
  generalize rdL (farN p q c) (c.2 * q) = y at *
  generalize rdU (farN p q b) (b.2 * q) = u at *
  generalize rdL (farN p q b) (b.2 * q) = w at *
  generalize hG : (Int.gcd (farN p q c) (c.2 * q) : Int) = g at *
  generalize hH : (Int.gcd (farN p q b) (b.2 * q) : Int) = k at *
  have gk : 0 < g * k := Int.mul_pos (by omega) (by omega)
  have e1 : g * k * (x * w) = farN p q c * b.2 * q := by
    have : farN p q c * b.2 * q = (g * x) * (k * w) := by rw [r1, s2, Int.mul_assoc]
    rw [this]; simp only [Int.mul_assoc, Int.mul_left_comm, Int.mul_comm]
  have e2 : g * k * (u * y) = farN p q b * c.2 * q := by
    have : farN p q b * c.2 * q = (k * u) * (g * y) := by rw [s1, r2, Int.mul_assoc]
    rw [this]; simp only [Int.mul_assoc, Int.mul_left_comm, Int.mul_comm]
  constructor
  · constructor
    · intro z
      have := Int.mul_lt_mul_of_pos_left z gk
      rw [e1, e2] at this
      exact Int.lt_of_mul_lt_mul_right this (by omega)
    · intro z
      have := Int.mul_lt_mul_of_pos_right z hq
      rw [← e1, ← e2] at this
      exact Int.lt_of_mul_lt_mul_left this (by omega)
  · constructor
    · intro z
      have e3 : farN p q c * b.2 * q = farN p q b * c.2 * q := by rw [← e1, ← e2, z]
      exact Int.eq_of_mul_eq_mul_right (by omega) e3
    · intro z
      have e3 : g * k * (x * w) = g * k * (u * y) := by rw [e1, e2, z]
      exact Int.eq_of_mul_eq_mul_left (by omega) e3
def nrT (p q : Int) (b : Option (Int × Int)) (c : Int × Int) : Prop := match b with
  | none => True
  | some b => nrB p q b c
def nL (m b j : Nat) : Prop := b = m ∧ 23 ≤ j ∧ j ≤ 26
section IsN
variable {X : Ctx} {l : Launch} {D : Dt} {h : Hp} {m : Nat} {Q : Pq}
theorem ma_isNearer (F : St10 h m) {u w p q : Int64} {b : Option (Int × Int)} (hp0 : 0 ≤ p.toInt) (hp : p.toInt ≤ 100000000) (hq : 0 < q.toInt) (N : NRm h m p.toInt q.toInt b) (ob : ∀ b', b = some b' → nrOk p.toInt q.toInt b') (oc : nrOk p.toInt q.toInt (u.toInt, w.toInt)) : S_X10_isNearer l D 0 0 [.ref m, .long u, .long w, .long p, .long q] h (QI fun y h' => (y = 0 ↔ ¬ nrT p.toInt q.toInt b (u.toInt, w.toInt)) ∧ NRm h' m p.toInt q.toInt (some (nrO p.toInt q.toInt b (u.toInt, w.toInt))) ∧ FrW (fun _ _ => False) (nL m) h h') := Sp.of rfl (Nat.le_of_ble_eq_true rfl) (fun X C _ _ _ _ => by
  generalize hQ : (QI fun y h' => (y = 0 ↔ ¬ nrT p.toInt q.toInt b (u.toInt, w.toInt)) ∧ NRm h' m p.toInt q.toInt (some (nrO p.toInt q.toInt b (u.toInt, w.toInt))) ∧ FrW (fun _ _ => False) (nL m) h h') = Q
  obtain ⟨c1, c2, c3, c4, c5, c6⟩ := id oc
  dsimp only at c1 c2 c3 c4 c6
  have ef : farN p.toInt q.toInt (u.toInt, w.toInt) = ((p.toInt * w.toInt - u.toInt * q.toInt).natAbs : Int) := rfl
  have mpw := mul_bd (a := p.toInt) (b := w.toInt) (M := 100000000) (K := 1000000) hp0 hp (by omega) c4
  have muq : 0 ≤ u.toInt * q.toInt := Int.mul_nonneg c1 (by omega)
  have t1 : (u * q).toInt = u.toInt * q.toInt := lmul_t (by omega) (by omega)
  have t2 : (p * w).toInt = p.toInt * w.toInt := lmul_t (by omega) (by omega)
  have t3 : (u * q - p * w).toInt = u.toInt * q.toInt - p.toInt * w.toInt := by rw [lsub_t] <;> rw [t1, t2] <;> omega
  have mwq : 0 < w.toInt * q.toInt := Int.mul_pos c3 hq
  have t4 : (w * q).toInt = w.toInt * q.toInt := lmul_t (by omega) (by omega)
  have fnn := farN_nn p.toInt q.toInt (u.toInt, w.toInt)
  -- the fields laid anew
  have put : ∀ s0 : Int64, s0.toInt = farN p.toInt q.toInt (u.toInt, w.toInt) → nrT p.toInt q.toInt b (u.toInt, w.toInt) → Wj X 0 0 Q 123 [(0, .ref m), (1, .long u), (3, .long w), (17, .long (s0 / cm s0 (w * q))), (19, .long ((w * q) / cm s0 (w * q)))] [.int 1] h := by
    intro s0 hs hT
    obtain ⟨r1, r2⟩ := fr_x (u := s0) (w := w * q) (by omega)
    rw [hs, t4] at r1 r2
    have eO : nrO p.toInt q.toInt b (u.toInt, w.toInt) = (u.toInt, w.toInt) := by
      cases b with
      | none => rfl
      | some b' => exact if_pos hT
    refine V_X10_isNearer_123 C ⟨fun z => absurd z p1_ne, fun _ => ⟨F, Or.inr rfl, ?_⟩⟩
    rw [← hQ]
    refine ⟨1, rfl, ⟨fun z => absurd z p1_ne, fun z => absurd hT z⟩, ?_, (((FrW.rf.sl ⟨rfl, by omega, by omega⟩).sl ⟨rfl, by omega, by omega⟩).sl ⟨rfl, by omega, by omega⟩).sl ⟨rfl, by omega, by omega⟩⟩
    rw [eO]
    refine ⟨?_, ?_, c3, ?_, ?_⟩
    · rw [gl_sl, if_neg (by omega), gl_sl, if_neg (by omega), gl_sl, if_neg (by omega), gl_sl, if_pos ⟨rfl, rfl⟩]
    · rw [gl_sl, if_neg (by omega), gl_sl, if_neg (by omega), gl_sl, if_pos ⟨rfl, rfl⟩]
    · rw [gl_sl, if_neg (by omega), gl_sl, if_pos ⟨rfl, rfl⟩]; exact r1
    · rw [gl_sl, if_pos ⟨rfl, rfl⟩]; exact r2
  have keep : ∀ s0 : Int64, ¬ nrT p.toInt q.toInt b (u.toInt, w.toInt) → Wj X 0 0 Q 123 [(0, .ref m), (1, .long u), (3, .long w), (17, .long (s0 / cm s0 (w * q))), (19, .long ((w * q) / cm s0 (w * q)))] [.int 0] h := by
    intro s0 hT
    refine V_X10_isNearer_123 C ⟨fun _ => ⟨Or.inl rfl, ?_⟩, fun z => absurd rfl z⟩
    rw [← hQ]
    refine ⟨0, rfl, ⟨fun _ => hT, fun _ => rfl⟩, ?_, FrW.rf⟩
    cases b with
    | none => exact absurd trivial hT
    | some b' =>
      have eO : nrO p.toInt q.toInt (some b') (u.toInt, w.toInt) = b' := if_neg hT
      rw [eO]; exact N
  have p26 : ∀ s0 : Int64, s0.toInt = farN p.toInt q.toInt (u.toInt, w.toInt) → Wj X 0 0 Q 26 [(0, .ref m), (1, .long u), (3, .long w), (7, .long q)] [.long s0] h := by
    intro s0 hs
    obtain ⟨r1, r2⟩ := fr_x (u := s0) (w := w * q) (by omega)
    rw [hs, t4] at r1 r2
    have cz := cm_tp (u := s0) (w := w * q) (by omega)
    have x0 := rdU_nn (u := farN p.toInt q.toInt (u.toInt, w.toInt)) (w := w.toInt * q.toInt) fnn mwq
    have x1 := rdU_le (u := farN p.toInt q.toInt (u.toInt, w.toInt)) (w := w.toInt * q.toInt) fnn
    have y0 := rdL_pos (u := farN p.toInt q.toInt (u.toInt, w.toInt)) mwq
    have y1 := rdL_le (u := farN p.toInt q.toInt (u.toInt, w.toInt)) mwq
    refine V_X10_isNearer_26 C ⟨by omega, by omega, by rw [i64_eq, l0_t]; omega, F, fun z => put s0 hs ?_, fun z => ?_⟩
    · cases b with
      | none => trivial
      | some b' =>
        obtain ⟨-, n2, n3, -⟩ := N
        rw [i64_eq, n2, l0_t] at z; omega
    · cases b with
      | none => rw [i64_eq, l0_t] at z; exact absurd N z
      | some b' =>
        obtain ⟨n1, n2, n3, n4, n5⟩ := id N
        obtain ⟨d1, d2, d3, d4, d5, d6⟩ := ob b' rfl
        have bq : 0 < b'.2 * q.toInt := Int.mul_pos n3 hq
        have bnn := farN_nn p.toInt q.toInt b'
        have a0 := rdU_nn (u := farN p.toInt q.toInt b') (w := b'.2 * q.toInt) bnn bq
        have a1 := rdU_le (u := farN p.toInt q.toInt b') (w := b'.2 * q.toInt) bnn
        have b0 := rdL_pos (u := farN p.toInt q.toInt b') bq
        have b1 := rdL_le (u := farN p.toInt q.toInt b') bq
        have cmp := nr_cmp (p := p.toInt) hq (b := b') (c := (u.toInt, w.toInt)) n3 c3
        dsimp only at cmp
        have k1 := mul_bd (a := rdU (farN p.toInt q.toInt (u.toInt, w.toInt)) (w.toInt * q.toInt)) (b := rdL (farN p.toInt q.toInt b') (b'.2 * q.toInt)) (M := 1000000000) (K := 1000000000) x0 (by omega) (by omega) (by omega)
        have k2 := mul_bd (a := rdU (farN p.toInt q.toInt b') (b'.2 * q.toInt)) (b := rdL (farN p.toInt q.toInt (u.toInt, w.toInt)) (w.toInt * q.toInt)) (M := 1000000000) (K := 1000000000) a0 (by omega) (by omega) (by omega)
        have k3 := mul_bd (a := b'.1) (b := w.toInt) (M := 100000000000) (K := 1000000) d1 d2 (by omega) c4
        have k4 := mul_bd (a := u.toInt) (b := b'.2) (M := 100000000000) (K := 1000000) c1 c2 (by omega) d4
        have e1 : (s0 / cm s0 (w * q) * gl h m 26).toInt = rdU (farN p.toInt q.toInt (u.toInt, w.toInt)) (w.toInt * q.toInt) * rdL (farN p.toInt q.toInt b') (b'.2 * q.toInt) := by rw [lmul_t] <;> rw [r1, n5] <;> omega
        have e2 : (gl h m 25 * ((w * q) / cm s0 (w * q))).toInt = rdU (farN p.toInt q.toInt b') (b'.2 * q.toInt) * rdL (farN p.toInt q.toInt (u.toInt, w.toInt)) (w.toInt * q.toInt) := by rw [lmul_t] <;> rw [n4, r2] <;> omega
        have e3 : (gl h m 23 * w).toInt = b'.1 * w.toInt := by rw [lmul_t] <;> rw [n1] <;> omega
        have e4 : (u * gl h m 24).toInt = u.toInt * b'.2 := by rw [lmul_t] <;> rw [n2] <;> omega
        refine ⟨fun z2 => put s0 hs (Or.inl ?_), fun z2 => ⟨fun z3 => keep s0 ?_, fun z3 => ⟨fun z4 => keep s0 ?_, fun z4 => put s0 hs (Or.inr ⟨?_, ?_⟩)⟩⟩⟩
        all_goals rw [i64_lt, e1, e2, cmp.1] at z2
        · exact z2
        all_goals rw [i64_eq, e1, e2, cmp.2] at z3
        · rintro (y | ⟨y, -⟩)
          · exact z2 y
          · exact z3 y
        all_goals rw [i64_le, e3, e4] at z4
        · rintro (y | ⟨-, y⟩)
          · exact z2 y
          · have y' : u.toInt * b'.2 < b'.1 * w.toInt := y
            omega
        · exact z3
        · show u.toInt * b'.2 < b'.1 * w.toInt
          omega
  refine V_X10_isNearer_0 C ⟨fun z => p26 _ ?_, fun z => p26 _ ?_⟩
  · rw [i64_le, l0_t, t3] at z; rw [t3, ef]; omega
  · rw [i64_le, l0_t, t3] at z; rw [lneg_t (by rw [t3]; omega), t3, ef]; omega)
end IsN
