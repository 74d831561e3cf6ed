-- angle() of the reference
theorem lt_sc {g a b : Int} (h : 0 < g) : a < b ↔ g * a < g * b := ⟨fun z => Int.mul_lt_mul_of_pos_left z h, fun z => Int.lt_of_mul_lt_mul_left z (Int.le_of_lt h)⟩
theorem eq_sc {g a b : Int} (h : 0 < g) : a = b ↔ g * a = g * b := ⟨fun z => by rw [z], fun z => Int.eq_of_mul_eq_mul_left (Int.ne_of_gt h) z⟩
theorem arc_pos : 0 < arc := by rw [arc_e]; omega
noncomputable def anR (c : Int × Int) : Int × Int := (rdU (c.1 * arc) c.2, rdL (c.1 * arc) c.2)
theorem anR_far {v : Int} {c : Int × Int} (hc : 0 < c.2) : ∃ g : Int, 0 < g ∧ g * farN v 1 (anR c) = anF v c ∧ g * (anR c).2 = c.2 ∧ g * (anR c).1 = c.1 * arc := by
  obtain ⟨r1, r2⟩ := rd_mul (u := c.1 * arc) hc
  have gp : (0 : Int) < (Int.gcd (c.1 * arc) c.2 : Int) := by have := gcd_pos' (u := c.1 * arc) hc; omega
  refine ⟨(Int.gcd (c.1 * arc) c.2 : Int), gp, ?_, r2, r1⟩
  unfold farN anF anR
  dsimp only
  generalize rdU (c.1 * arc) c.2 = x at *
  generalize rdL (c.1 * arc) c.2 = y at *
  generalize (Int.gcd (c.1 * arc) c.2 : Int) = g at *
  have a1 : v * c.2 = g * (v * y) := by rw [← r2, Int.mul_left_comm]
  have e : c.1 * arc - v * c.2 = g * (x - v * y) := by rw [a1, ← r1, Int.mul_sub]
  have e2 : v * y - x * 1 = -(x - v * y) := by omega
  have e3 : (g.natAbs : Int) = g := by omega
  rw [e, Int.natAbs_mul, Int.natCast_mul, e3, e2, Int.natAbs_neg]
theorem anR_cmp {v : Int} {b c : Int × Int} (hb : 0 < b.2) (hc : 0 < c.2) : nrB v 1 (anR b) (anR c) ↔ anB v b c := by
  obtain ⟨g, g0, g1, g2, g3⟩ := anR_far (v := v) hb
  obtain ⟨k, k0, k1, k2, k3⟩ := anR_far (v := v) hc
  have gk : 0 < g * k := Int.mul_pos g0 k0
  show (farN v 1 (anR c) * (anR b).2 < farN v 1 (anR b) * (anR c).2 ∨ (farN v 1 (anR c) * (anR b).2 = farN v 1 (anR b) * (anR c).2 ∧ (anR c).1 * (anR b).2 < (anR b).1 * (anR c).2)) ↔ (anF v c * b.2 < anF v b * c.2 ∨ (anF v c * b.2 = anF v b * c.2 ∧ c.1 * b.2 < b.1 * c.2))
  rw [← g1, ← k1]
  generalize farN v 1 (anR b) = x at *
  generalize farN v 1 (anR c) = y at *
  generalize anR b = B at *
  generalize anR c = C at *
  have e1 : k * y * b.2 = g * k * (y * B.2) := by rw [← g2]; simp only [Int.mul_assoc, Int.mul_left_comm, Int.mul_comm]
  have e2 : g * x * c.2 = g * k * (x * C.2) := by rw [← k2]; simp only [Int.mul_assoc, Int.mul_left_comm, Int.mul_comm]
  have e3 : arc * (c.1 * b.2) = g * k * (C.1 * B.2) := by
    have : arc * (c.1 * b.2) = (c.1 * arc) * b.2 := by simp only [Int.mul_assoc, Int.mul_left_comm, Int.mul_comm]
    rw [this, ← k3, ← g2]; simp only [Int.mul_assoc, Int.mul_left_comm, Int.mul_comm]
  have e4 : arc * (b.1 * c.2) = g * k * (B.1 * C.2) := by
    have : arc * (b.1 * c.2) = (b.1 * arc) * c.2 := by simp only [Int.mul_assoc, Int.mul_left_comm, Int.mul_comm]
    rw [this, ← g3, ← k2]; simp only [Int.mul_assoc, Int.mul_left_comm, Int.mul_comm]
  have i1 : y * B.2 < x * C.2 ↔ k * y * b.2 < g * x * c.2 := by rw [e1, e2]; exact lt_sc gk
  have i2 : y * B.2 = x * C.2 ↔ k * y * b.2 = g * x * c.2 := by rw [e1, e2]; exact eq_sc gk
  have i3 : C.1 * B.2 < B.1 * C.2 ↔ c.1 * b.2 < b.1 * c.2 := by rw [lt_sc (a := c.1 * b.2) arc_pos, e3, e4]; exact lt_sc gk
  rw [i1, i2, i3]
theorem anR_ok {A : HV} {v : Int} {c : Nat × Int × Int} (o : anOk A v c) : nrOk v 1 (anR c.2) := by
  obtain ⟨-, -, o3, o4, o5, o6, o7⟩ := o
  obtain ⟨g, g0, g1, g2, g3⟩ := anR_far (v := v) (c := c.2) (by omega)
  have m1 : 0 ≤ c.2.1 * arc := Int.mul_nonneg o3 (Int.le_of_lt arc_pos)
  have m2 : c.2.1 * arc ≤ 10886400000 := by rw [arc_e]; omega
  have u0 := rdU_nn (u := c.2.1 * arc) (w := c.2.2) m1 (by omega)
  have u1 := rdU_le (u := c.2.1 * arc) (w := c.2.2) m1
  have l0 := rdL_pos (u := c.2.1 * arc) (w := c.2.2) (by omega)
  have l1 := rdL_le (u := c.2.1 * arc) (w := c.2.2) (by omega)
  have fn := farN_nn v 1 (anR c.2)
  have := Int.mul_le_mul_of_nonneg_right (show (1 : Int) ≤ g by omega) fn
  have q1 : (anR c.2).1 = rdU (c.2.1 * arc) c.2.2 := rfl
  have q2 : (anR c.2).2 = rdL (c.2.1 * arc) c.2.2 := rfl
  unfold nrOk
  rw [q1, q2]
  omega
/-- what the reference holds for an angle -/
noncomputable def ANm (h : Hp) (m : Nat) (v : Int) (b : Option (Nat × Int × Int)) (v2 v3 : Int32) : Prop := NRm h m v 1 (b.map (fun c => anR c.2)) ∧ match b with
  | none => v2 = -1 ∧ v3 = 0
  | some b => v2.toInt = b.1 ∧ v3.toInt = b.2.1
theorem an_T {A : HV} {v : Int} {b : Option (Nat × Int × Int)} {c : Nat × Int × Int} (O : ∀ b', b = some b' → anOk A v b') (o : anOk A v c) : (nrT v 1 (b.map (fun c => anR c.2)) (anR c.2) → anS v b c = some c) ∧ (¬ nrT v 1 (b.map (fun c => anR c.2)) (anR c.2) → ∃ b', b = some b' ∧ anS v b c = some b') ∧ (anS v b c).map (fun c => anR c.2) = some (nrO v 1 (b.map (fun c => anR c.2)) (anR c.2)) := by
  cases b with
  | none => exact ⟨fun _ => rfl, fun z => absurd trivial z, rfl⟩
  | some b0 =>
    obtain ⟨-, -, -, -, p5, -⟩ := O b0 rfl
    obtain ⟨-, -, -, -, o5, -⟩ := o
    have cmp := anR_cmp (v := v) (b := b0.2) (c := c.2) (by omega) (by omega)
    by_cases z : anB v b0.2 c.2
    · have e1 : anS v (some b0) c = some c := if_pos z
      have e2 : nrO v 1 ((some b0).map (fun c => anR c.2)) (anR c.2) = anR c.2 := if_pos (cmp.mpr z)
      refine ⟨fun _ => e1, fun y => absurd (cmp.mpr z) y, ?_⟩
      rw [e1, e2]; rfl
    · have e1 : anS v (some b0) c = some b0 := if_neg z
      have e2 : nrO v 1 ((some b0).map (fun c => anR c.2)) (anR c.2) = anR b0.2 := if_neg (fun y => z (cmp.mp y))
      refine ⟨fun y => absurd (cmp.mp y) z, fun _ => ⟨b0, rfl, e1⟩, ?_⟩
      rw [e1, e2]; rfl
section AngM
variable {X : Ctx} {l : Launch} {D : Dt} {h : Hp} {m : Nat} {Q : Pq} {A : HV} {s : Sv}
theorem ma_an1 (C : C_X10_angle X) (F : St10 h m) {v1 v2 v3 v4 : Int32} {v5 v7 v9 : Int64} {b : Option (Nat × Int × Int)} {k : Nat} {u w : Int} (b1 : 1 ≤ v1.toInt) (b2 : v1.toInt ≤ 1295999) (R : ANm h m v1.toInt b v2 v3) (O : ∀ b', b = some b' → anOk A v1.toInt b') (o : anOk A v1.toInt (k, u, w)) (e4 : v4.toInt = k) (e5 : v5.toInt = w) (e9 : v9.toInt = u) (z : ¬ (v7 + 1) < v9)
    (nx : ∀ (h' : Hp) (v2' v3' : Int32), FrW (fun _ _ => False) (nL m) h h' → ANm h' m v1.toInt (anS v1.toInt b (k, u, w)) v2' v3' → Wj X 0 0 Q 70 [(0, .ref m), (1, .int v1), (2, .int v2'), (3, .int v3'), (4, .int v4), (5, .long v5), (7, .long v7), (9, .long (v9 + 1))] [] h') :
    Wj X 0 0 Q 70 [(0, .ref m), (1, .int v1), (2, .int v2), (3, .int v3), (4, .int v4), (5, .long v5), (7, .long v7), (9, .long v9)] [] h := by
  obtain ⟨-, -, o3, o4, o5, o6, o7⟩ := id o
  dsimp only at o3 o4 o5 o6 o7
  obtain ⟨K, hK, eK⟩ := hide64 1296000
  rw [l129_t] at eK
  have t1 : (v9 * K).toInt = u * 1296000 := by rw [lmul_t] <;> rw [e9, eK] <;> omega
  obtain ⟨r1, r2⟩ := fr_x (u := v9 * K) (w := v5) (by omega)
  have cz := cm_tp (u := v9 * K) (w := v5) (by omega)
  have ea : u * 1296000 = u * arc := by rw [arc_e]
  rw [t1, e5, ea] at r1 r2
  refine V_X10_angle_70 C ⟨fun q => absurd q z, fun _ => ?_⟩
  rw [← hK]
  generalize v9 * K = U9 at *
  clear hK eK K
  refine ⟨by omega, by omega, by rw [i64_eq, l0_t]; omega, F, ?_⟩
  have eP : v1.toInt64.toInt = v1.toInt := i2l_t v1
  obtain ⟨T1, T2, T3⟩ := an_T O o
  have ok := anR_ok o
  have ec : ((U9 / cm U9 v5).toInt, (v5 / cm U9 v5).toInt) = anR (u, w) := by rw [r1, r2]; rfl
  have hO : ∀ b', b.map (fun c => anR c.2) = some b' → nrOk v1.toInt 1 b' := by
    intro b' e
    cases b with
    | none => cases e
    | some b0 => cases e; exact anR_ok (O b0 rfl)
  refine (ma_isNearer F (u := U9 / cm U9 v5) (w := v5 / cm U9 v5) (p := v1.toInt64) (q := 1) (b := b.map (fun c => anR c.2)) (by omega) (by omega) (by rw [l1_t]; omega) (by rw [eP, l1_t]; exact R.1) (by rw [eP, l1_t]; exact hO) (by rw [eP, l1_t, ec]; exact ok)).mono (fun y h5 hp => ?_)
  obtain ⟨x6, rfl, hx, N5, f5⟩ := hp
  rw [eP, l1_t, ec] at hx N5
  have R5 : ∀ v2' v3' : Int32, (∀ b', anS v1.toInt b (k, u, w) = some b' → v2'.toInt = b'.1 ∧ v3'.toInt = b'.2.1) → ANm h5 m v1.toInt (anS v1.toInt b (k, u, w)) v2' v3' := by
    intro v2' v3' hb
    refine ⟨by rw [T3]; exact N5, ?_⟩
    cases e : anS v1.toInt b (k, u, w) with
    | none => obtain ⟨b', eb⟩ := anS_some v1.toInt b (k, u, w); rw [eb] at e; cases e
    | some b' => exact hb b' e
  refine ⟨x6, rfl, fun q => nx h5 _ _ f5 (R5 _ _ ?_), fun q => nx h5 _ _ f5 (R5 _ _ ?_)⟩
  · intro b' e
    obtain ⟨b0, e0, e1⟩ := T2 (hx.mp q)
    rw [e1] at e
    cases e
    subst e0
    exact R.2
  · intro b' e
    rw [T1 (Classical.not_not.mp (fun z => q (hx.mpr z)))] at e
    cases e
    exact ⟨e4, by rw [l2i_t (by omega) (by omega)]; exact e9⟩
theorem ma_an_loop (C : C_X10_angle X) (S : MSt h m s) {v1 : Int32} (b1 : 1 ≤ v1.toInt) (b2 : v1.toInt ≤ 1295999)
    (hend : ∀ (h' : Hp) (v2 v3 v4 : Int32), FrW (fun _ _ => False) (nL m) h h' → ANm h' m v1.toInt (anI (sA s) v1.toInt (sA s 0 3).toNat) v2 v3 → v4.toInt = sA s 0 3 → Wj X 0 0 Q 31 [(0, .ref m), (1, .int v1), (2, .int v2), (3, .int v3), (4, .int v4)] [] h') (d : Nat) : ∀ (h' : Hp) (v2 v3 v4 : Int32), 0 ≤ v4.toInt → v4.toInt + d = sA s 0 3 → FrW (fun _ _ => False) (nL m) h h' → ANm h' m v1.toInt (anI (sA s) v1.toInt (ix v4)) v2 v3 → Wj X 0 0 Q 31 [(0, .ref m), (1, .int v1), (2, .int v2), (3, .int v3), (4, .int v4)] [] h' := by
  have V := S.1.va
  have w3 := V.2.2.2.1
  induction d with
  | zero =>
    intro h' v2 v3 v4 h0 hd f R
    refine hend _ _ _ _ f ?_ (by omega)
    have : ix v4 = (sA s 0 3).toNat := by unfold ix; omega
    rw [← this]; exact R
  | succ d ih =>
    intro h' v2 v3 v4 h0 hd f R
    have S' : MSt h' m s := S.fr f (fun _ _ => id) id (fun _ => id) (fun j _ q => by have := q.1; omega) id (fun j q => by have := q.1; omega) id (fun _ => id)
    have H := S'.1.md
    have e3 := H.n (i := 3) (by omega)
    obtain ⟨x1, x2⟩ := ix_succ h0 (by omega)
    have hk := ix_t h0
    obtain ⟨y1, -⟩ := ix_add (c := 23) (v := v4) (a := 23) (b := ix v4) rfl hk.symm (by omega)
    have e0 : (gi h' (m + 3) (ix 0)).toInt = sA s 0 0 := by rw [ix_0]; exact H.n (by omega)
    have eh : (gi h' (m + 3) (ix (23 + v4))).toInt = sA s 1 (ix v4) := by rw [y1]; exact H.hole (by omega)
    obtain ⟨o1, o2⟩ := an_c V b1 b2 (k := ix v4) (by omega)
    obtain ⟨-, -, p1, p2, p3, p4, -⟩ := id o1
    have ew : anW (sA s) (ix v4) = sA s 0 0 * sA s 1 (ix v4) := Int.mul_comm _ _
    dsimp only at p1 p2 p3 p4
    refine V_X10_angle_31 C ⟨S'.1.1, fun q => ?_, fun _ => ⟨inb_add (a := 23) (b := ix v4) rfl hk.symm (by omega) (by omega), fun z10 e10 => ?_⟩⟩
    · rw [ix_3, i32_le, e3] at q; omega
    · have t10 : z10.toInt = anW (sA s) (ix v4) := by rw [e10, lmul_t] <;> rw [i2l_t, i2l_t, eh, e0] <;> omega
      generalize hw : anW (sA s) (ix v4) = w at *
      have m1 := mul_bd (a := v1.toInt) (b := w) (M := 1295999) (K := 8400) (by omega) b2 (by omega) p4
      have tm : (v1.toInt64 * z10).toInt = v1.toInt * w := by rw [lmul_t] <;> rw [i2l_t, t10] <;> omega
      have tu : (v1.toInt64 * z10 / 1296000).toInt = anU (sA s) v1.toInt (ix v4) := by
        rw [ldiv_p (by rw [tm]; omega) (by rw [l129_t]; omega), tm, l129_t]; unfold anU; rw [hw, arc_e]
      generalize v1.toInt64 * z10 / 1296000 = u at *
      have tu1 : (u + 1).toInt = anU (sA s) v1.toInt (ix v4) + 1 := by rw [ladd_t] <;> rw [tu, l1_t] <;> omega
      have tu2 : (u + 1 + 1).toInt = anU (sA s) v1.toInt (ix v4) + 2 := by rw [ladd_t] <;> rw [tu1, l1_t] <;> omega
      have O0 := anI_ok V b1 b2 (ix v4) (by omega)
      refine ma_an1 C S'.1.1 b1 b2 R O0 o1 hk.symm t10 tu (by rw [i64_lt, tu1, tu]; omega) (fun h1 w2 w3 f1 R1 => ?_)
      refine ma_an1 C (f1.st10 S'.1.1) b1 b2 R1 (anOk_S O0 o1) o2 hk.symm t10 tu1 (by rw [i64_lt, tu1]; omega) (fun h2 y2 y3 f2 R2 => ?_)
      refine V_X10_angle_70 C ⟨fun _ => ih _ _ _ _ (by omega) (by omega) ((f.tr f1).tr f2) ?_, fun q => absurd (by rw [i64_lt, tu1, tu2]; omega) q⟩
      rw [x1]
      show ANm _ _ v1.toInt (anS v1.toInt (anS v1.toInt (anI (sA s) v1.toInt (ix v4)) (ix v4, anU (sA s) v1.toInt (ix v4), anW (sA s) (ix v4))) (ix v4, anU (sA s) v1.toInt (ix v4) + 1, anW (sA s) (ix v4))) _ _
      rw [hw]; exact R2
theorem l1295_t : (1295999 : Int64).toInt = 1295999 := rfl
theorem ma_angle (S : MSt h m s) {v : Int32} : S_X10_angle l D 0 0 [.ref m, .int v] h (QI fun y h' => y.toInt = (angleP s v.toInt).1 ∧ MSt h' m (angleP s v.toInt).2 ∧ FrO (inM m) h h') := Sp.of rfl (Nat.le_of_ble_eq_true rfl) (fun X C _ _ _ _ => V_X10_angle_0 C (by
  obtain ⟨S1, f1⟩ := S.t0
  have V := S.1.va
  have w3 := V.2.2.2.1
  unfold angleP
  refine ⟨S.1.1, fun q => ?_, fun q => ⟨_, rfl, ?_⟩⟩
  all_goals rw [btL_0, i2l_t, l1_t, l1295_t] at q
  · have hq : 1 ≤ v.toInt ∧ v.toInt ≤ 1295999 := by omega
    rw [if_pos hq]
    obtain ⟨b, eb⟩ := anI_some V v.toInt
    have ob := anI_ok V hq.1 hq.2 (sA s 0 3).toNat (by omega) b eb
    have f24 : FrW (fun _ _ => False) (nL m) (si h m 0 0) (sl (si h m 0 0) m 24 0) := FrW.rf.sl ⟨rfl, by omega, by omega⟩
    refine ma_an_loop C S1 hq.1 hq.2 (fun h2 v2 v3 v4 f2 R e4 => ?_) (sA s 0 3).toNat _ (-1) 0 0 (by rw [i0_t]; omega) (by rw [i0_t]; omega) f24 (by rw [ix_0]; exact ⟨by show (gl (sl (si h m 0 0) m 24 0) m 24).toInt = 0; rw [gl_sl, if_pos ⟨rfl, rfl⟩]; rfl, rfl, rfl⟩)
    rw [eb] at R ⊢
    obtain ⟨N2, r2, r3⟩ := R
    obtain ⟨o1, o2, o3, o4, o5, o6, o7⟩ := id ob
    have S2 : MSt h2 m s := S1.fr f2 (fun _ _ => id) id (fun _ => id) (fun j _ q => by have := q.1; omega) id (fun j q => by have := q.1; omega) id (fun _ => id)
    have g2 : FrO (inM m) (si h m 0 0) h2 := f2.toM (fun _ _ q => absurd q id) (fun b j q => ⟨by have := q.1; omega, by have := q.1; omega⟩)
    have v13 := V.2.2.2.2.2.2.2.2.2.2.2.2.2.1 b.1 o1
    have e3 : (gi h2 (m + 3) 3).toInt = sA s 0 3 := S2.1.md.n (i := 3) (by omega)
    obtain ⟨y1, -⟩ := ix_add (c := 23) (v := v2) (a := 23) (b := b.1) rfl r2 (by omega)
    have ib : inb (23 + v2) 732 := inb_add (a := 23) (b := b.1) rfl r2 (by omega) (by omega)
    refine V_X10_angle_31 C ⟨S2.1.1, fun _ => ?_, fun q => ?_⟩
    · refine (ma_enters (h := si h2 m 1 0) (L := []) S2.1.1 (RwM.clr 0 rfl) (by decide) (z := (b.1 : Int)) (by rw [i2l_t]; exact r2)).mono (fun w h5 hp => ?_)
      obtain ⟨rfl, w5, f5⟩ := hp
      have f25 : FrW (rI m) (rL m) h2 h5 := (FrW.rf.si (v := 0) ⟨rfl, rfl⟩).tr f5
      have M : ∀ h', FrW (rI m) (rL m) h2 h' → MdR h' m (sA s) := fun h' f => S2.1.md.fr V f (fun j _ q => by have := q.1; omega) (fun j _ (q : m + 4 = m + 1) => by omega)
      have hh : ∀ h', FrW (rI m) (rL m) h2 h' → (gi h' (m + 3) (ix (23 + v2))).toInt = sA s 1 b.1 := fun h' f => by rw [y1]; exact (M h' f).hole o1
      have ee := hh h5 f25
      refine ⟨rfl, (M h5 f25).1, ib, by rw [i32_eq, ee, i0_t]; omega, (ma_enters (M h5 f25).1 w5 (by simp) (z := b.2.1 / sA s 1 b.1) (by rw [i2l_t, idiv_p (by omega) (by omega), ee, r3])).mono (fun w h7 hp => ?_)⟩
      obtain ⟨rfl, w7, f7⟩ := hp
      have f27 := f25.tr f7
      have e7 := hh h7 f27
      refine ⟨rfl, (M h7 f27).1, ib, by rw [i32_eq, e7, i0_t]; omega, (ma_enters (M h7 f27).1 w7 (by simp) (z := b.2.1 % sA s 1 b.1) (by rw [i2l_t, irem_p (by omega), e7, r3])).mono (fun w h10 hp => ?_)⟩
      obtain ⟨rfl, w10, f10⟩ := hp
      have f210 := f27.tr f10
      obtain ⟨n1, n2, n3, n4, n5⟩ := N2
      obtain ⟨g, g0, q1, q2, q3⟩ := anR_far (v := v.toInt) (c := b.2) (by omega)
      have fn := farN_nn v.toInt 1 (anR b.2)
      have n3' : 0 < (anR b.2).2 * 1 := by have q : 0 < (anR b.2).2 := n3; omega
      have x25 : ∀ h', FrW (rI m) (rL m) h2 h' → (gl h' m 25).toInt = rdU (farN v.toInt 1 (anR b.2)) ((anR b.2).2 * 1) := fun h' f => by rw [f.xl (fun (z : m = m + 1) => by omega)]; exact n4
      have x26 : ∀ h', FrW (rI m) (rL m) h2 h' → (gl h' m 26).toInt = rdL (farN v.toInt 1 (anR b.2)) ((anR b.2).2 * 1) := fun h' f => by rw [f.xl (fun (z : m = m + 1) => by omega)]; exact n5
      have u0 := rdU_nn (u := farN v.toInt 1 (anR b.2)) (w := (anR b.2).2 * 1) fn n3'
      have l0 := rdL_pos (u := farN v.toInt 1 (anR b.2)) n3'
      have ru := rd_unique (u := farN v.toInt 1 (anR b.2)) (w := (anR b.2).2 * 1) (u' := anF v.toInt b.2) (w' := b.2.2) n3' (by omega) (by rw [← q1]; generalize farN v.toInt 1 (anR b.2) = y; generalize (anR b.2).2 = z at q2 ⊢; rw [← q2]; simp only [Int.mul_assoc, Int.mul_left_comm, Int.mul_comm, Int.mul_one])
      refine ⟨rfl, (M h10 f210).1, (ma_entersPart (M h10 f210).1 w10 (by simp) (x25 h10 f210) (x26 h10 f210) (by omega) l0).mono (fun w h12 hp => ?_)⟩
      obtain ⟨rfl, w12, f12⟩ := hp
      have f212 := f210.tr f12
      rw [(rd_again n3').1, (rd_again n3').2, ru.1, ru.2] at w12
      obtain ⟨S12, g12⟩ := S2.row f212 w12
      have z25 := x25 h12 f212
      rw [ru.1] at z25
      have zz : rdU (anF v.toInt b.2) b.2.2 = 0 ↔ anF v.toInt b.2 = 0 := by
        obtain ⟨k1, -⟩ := rd_mul (u := anF v.toInt b.2) (w := b.2.2) (by omega)
        constructor
        · intro z; rw [← k1, z, Int.mul_zero]
        · intro z; unfold rdU; rw [z, Int.zero_ediv]
      refine ⟨rfl, (M h12 f212).1, fun z => ⟨_, rfl, ?_, S12, (f1.tr g2).tr g12⟩, fun z => ⟨_, rfl, ?_, S12, (f1.tr g2).tr g12⟩⟩
      all_goals rw [i64_eq, z25, l0_t, zz] at z
      · dsimp only; rw [if_neg z]; decide
      · dsimp only; rw [if_pos z]; decide
    · rw [ix_3, i32_le, e3] at q; omega
  · rw [if_neg (by omega)]; exact ⟨rfl, S1, f1⟩))
end AngM
