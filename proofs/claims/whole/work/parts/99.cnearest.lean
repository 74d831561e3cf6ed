-- nearest() and lead() of the class
theorem vV_b {pr p q u w : Int} (ask : nrAsk pr p q) (u0 : 0 < u) (u1 : u ≤ 10000) (w0 : 0 < w) (w1 : w ≤ 10000) : 0 < (vV pr u w).1 ∧ (vV pr u w).1 ≤ 120000000 ∧ 0 < (vV pr u w).2 ∧ (vV pr u w).2 ≤ 10000 ∧ farN p q (vV pr u w) ≤ 1000000000 ∧ 0 ≤ (vV pr u w).1 * q ∧ (vV pr u w).1 * q ≤ 120000000 ∧ 0 ≤ p * (vV pr u w).2 ∧ p * (vV pr u w).2 ≤ 200000000 := by
  obtain ⟨⟨a1, a2⟩, ⟨b1, b2⟩, ⟨c1, c2⟩, d⟩ := ask
  have hv : 0 < (vV pr u w).1 ∧ (vV pr u w).1 ≤ 120000000 ∧ 0 < (vV pr u w).2 ∧ (vV pr u w).2 ≤ 10000 ∧ (vV pr u w).1 * q ≤ 120000000 := by
    unfold vV
    by_cases z : pr = 0
    · rw [if_pos z]
      dsimp only
      have := mul_bd (a := u) (b := q) (M := 10000) (K := 400) (by omega) (by omega) (by omega) (by omega)
      omega
    · rw [if_neg z]
      dsimp only
      have m1 := mul_bd (a := pr) (b := w) (M := 12000) (K := 10000) (by omega) a2 (by omega) (by omega)
      have m2 : 0 < pr * w := Int.mul_pos (by omega) (by omega)
      have eq : q = 1 := by omega
      rw [eq, Int.mul_one]
      omega
  obtain ⟨v1, v2, v3, v4, v5⟩ := hv
  have m1 := mul_bd (a := p) (b := (vV pr u w).2) (M := 20000) (K := 10000) (by omega) (by omega) (by omega) (by omega)
  have m3 : 0 ≤ (vV pr u w).1 * q := Int.mul_nonneg (by omega) (by omega)
  have fe : farN p q (vV pr u w) = ((p * (vV pr u w).2 - (vV pr u w).1 * q).natAbs : Int) := rfl
  refine ⟨v1, v2, v3, v4, by omega, m3, v5, m1.1, by omega⟩
theorem vV_sc {pr g u w : Int} : vV pr (g * u) (g * w) = (g * (vV pr u w).1, g * (vV pr u w).2) := by
  unfold vV
  by_cases z : pr = 0
  · rw [if_pos z, if_pos z]
  · rw [if_neg z, if_neg z]
    dsimp only
    rw [Int.mul_left_comm]
/-- entries are small numbers in least terms -/
theorem ShE.b {A : HV} {n : Nat} {u w pp : Nat → Int} (V : VA A) (E : ShE A n u w pp) {e : Nat} (he : e < n) : 0 < u e ∧ u e ≤ 10000 ∧ 0 < w e ∧ w e ≤ 10000 := by
  obtain ⟨t, t1, t2, t3, -⟩ := E.2.1 e he
  have ub := tU_b V.teo (tOk_all t1)
  have r1 := rdU_le (u := tU (A 3) t) (w := tL (A 3) t) (by omega)
  have r2 := rdU_nn (u := tU (A 3) t) (w := tL (A 3) t) (by omega) (by omega)
  have r3 := rdL_pos (u := tU (A 3) t) (w := tL (A 3) t) (by omega)
  have r4 := rdL_le (u := tU (A 3) t) (w := tL (A 3) t) (by omega)
  obtain ⟨m1, -⟩ := rd_mul (u := tU (A 3) t) (w := tL (A 3) t) (by omega)
  have r5 : rdU (tU (A 3) t) (tL (A 3) t) ≠ 0 := fun z => by rw [z, Int.mul_zero] at m1; omega
  rw [t2, t3]; omega
/-- the number of a train by its entry -/
theorem ShE.v {A : HV} (V : VA A) {t : Nat} (ok : tOk (gN A) t) (pr : Int) {u w : Int} (hu : u = rdU (tU (A 3) t) (tL (A 3) t)) (hw : w = rdL (tU (A 3) t) (tL (A 3) t)) : ∃ g : Int, 0 < g ∧ tV pr (A 3) t = (g * (vV pr u w).1, g * (vV pr u w).2) := by
  have ub := tU_b V.teo (tOk_all ok)
  obtain ⟨m1, m2⟩ := rd_mul (u := tU (A 3) t) (w := tL (A 3) t) (by omega)
  have gp := gcd_pos' (u := tU (A 3) t) (w := tL (A 3) t) (by omega)
  refine ⟨(Int.gcd (tU (A 3) t) (tL (A 3) t) : Int), by omega, ?_⟩
  rw [tV_v, ← vV_sc, hu, hw, m1, m2]
theorem ShE.near {A : HV} {n : Nat} {u w pp : Nat → Int} (V : VA A) (E : ShE A n u w pp) {pr p q : Int} (ask : nrAsk pr p q) {e : Nat} (he : e < n) (best : ∀ e', e' < n → ¬ nrB p q (vV pr (u e) (w e)) (vV pr (u e') (w e'))) : ∃ t, tOk (gN A) t ∧ nearQ A pr p q = some t ∧ pp e = tP t ∧ ∃ g : Int, 0 < g ∧ tV pr (A 3) t = (g * (vV pr (u e) (w e)).1, g * (vV pr (u e) (w e)).2) := by
  obtain ⟨t, t1, t2, t3, t4, t5⟩ := E.2.1 e he
  obtain ⟨g, g0, eg⟩ := ShE.v V t1 pr t2 t3
  have bst : tBest A pr p q t := by
    refine ⟨t1, fun t' ok' => ?_⟩
    obtain ⟨e', a1, a2, a3⟩ := E.2.2 t' ok'
    obtain ⟨k, k0, ek⟩ := ShE.v V ok' pr a2 a3
    rw [eg, ek, nrB_sc g0 k0]
    exact best e' a1
  refine ⟨t, t1, lsQ_is bst (fun t' h1 h2 => ?_), t4, g, g0, eg⟩
  have eq := nrB_eq (bst.2 t' h2.1) (h2.2 t t1)
  have ub := tU_b V.teo (tOk_all t1)
  have ub' := tU_b V.teo (tOk_all h2.1)
  have cr : tU (A 3) t' * tL (A 3) t = tU (A 3) t * tL (A 3) t' := by
    unfold tV at eq
    by_cases z : pr = 0
    · rw [if_pos z, if_pos z] at eq
      exact eq.symm
    · rw [if_neg z, if_neg z] at eq
      dsimp only at eq
      refine Int.eq_of_mul_eq_mul_left (show pr ≠ 0 from z) ?_
      have e1 : pr * (tU (A 3) t' * tL (A 3) t) = pr * tL (A 3) t * tU (A 3) t' := by grind
      have e2 : pr * (tU (A 3) t * tL (A 3) t') = pr * tL (A 3) t' * tU (A 3) t := by grind
      rw [e1, e2]; exact eq
  obtain ⟨r1, r2⟩ := rd_unique (u := tU (A 3) t') (w := tL (A 3) t') (u' := tU (A 3) t) (w' := tL (A 3) t) (by omega) (by omega) cr
  exact t5 t' h1 h2.1 ⟨by rw [r1, t2], by rw [r2, t3]⟩
section CNr
variable {X : Ctx} {l : Launch} {D : Dt} {h : Hp} {x m sh : Nat} {Q : Pq} {A : HV} {s : Sv}
theorem sUp_t {v : Int32} {e : Nat} (ev : v.toInt = e) (he : e < 3102) : (sUp h sh v).toInt = gf h (sh + 2) e ∧ (sLo h sh v).toInt = gf h (sh + 3) e := by
  unfold sUp sLo
  rw [if_pos (by omega), if_pos (by omega), ix_of ev]; exact ⟨rfl, rfl⟩
theorem cl_upper (F : St5 h sh) {pr : Int64} (p0 : 0 ≤ pr.toInt) {v : Int32} {e : Nat} (ev : v.toInt = e) (he : e < 3102) (b : pr.toInt * gf h (sh + 3) e ≤ 1000000000 ∧ 0 ≤ pr.toInt * gf h (sh + 3) e) : S_X5_upper l D 0 0 [.ref sh, .long pr, .int v] h (QL fun y h' => y.toInt = (vV pr.toInt (gf h (sh + 2) e) (gf h (sh + 3) e)).1 ∧ h' = h) := Sp.of rfl (Nat.le_of_ble_eq_true rfl) (fun X C _ _ _ _ => V_X5_upper_0 C (by
  obtain ⟨u1, u2⟩ := sUp_t (h := h) (sh := sh) ev he
  unfold vV
  refine ⟨fun q => ⟨F, _, rfl, ?_, rfl⟩, fun q => ⟨F, _, rfl, ?_, rfl⟩⟩
  all_goals rw [i64_le, l0_t] at q
  · rw [if_pos (by omega), i2l_t]; exact u1
  · rw [if_neg (by omega), lmul_t] <;> rw [i2l_t, u2] <;> omega))
theorem cl_lower (F : St5 h sh) {pr : Int64} (p0 : 0 ≤ pr.toInt) {v : Int32} {e : Nat} (ev : v.toInt = e) (he : e < 3102) : S_X5_lower l D 0 0 [.ref sh, .long pr, .int v] h (QL fun y h' => y.toInt = (vV pr.toInt (gf h (sh + 2) e) (gf h (sh + 3) e)).2 ∧ h' = h) := Sp.of rfl (Nat.le_of_ble_eq_true rfl) (fun X C _ _ _ _ => V_X5_lower_0 C (by
  obtain ⟨u1, u2⟩ := sUp_t (h := h) (sh := sh) ev he
  unfold vV
  refine ⟨fun q => ⟨F, _, rfl, ?_, rfl⟩, fun q => ⟨F, _, rfl, ?_, rfl⟩⟩
  all_goals rw [i64_le, l0_t] at q
  · rw [if_pos (by omega), i2l_t]; exact u2
  · rw [if_neg (by omega), i2l_t]; exact u1))
theorem pr_b {pr p q w : Int} (ask : nrAsk pr p q) (w0 : 0 < w) (w1 : w ≤ 10000) : pr * w ≤ 1000000000 ∧ 0 ≤ pr * w := by
  have := mul_bd (a := pr) (b := w) (M := 12000) (K := 10000) ask.1.1 ask.1.2 (by omega) w1
  omega
theorem far_t {p q x3 x6 : Int64} {v : Int × Int} (e3 : x3.toInt = v.1) (e6 : x6.toInt = v.2) (b1 : 0 ≤ v.1 * q.toInt ∧ v.1 * q.toInt ≤ 120000000) (b2 : 0 ≤ p.toInt * v.2 ∧ p.toInt * v.2 ≤ 200000000) : (abL (x3 * q - p * x6)).toInt = farN p.toInt q.toInt v := by
  have t1 : (x3 * q).toInt = v.1 * q.toInt := by rw [lmul_t] <;> rw [e3] <;> omega
  have t2 : (p * x6).toInt = p.toInt * v.2 := by rw [lmul_t] <;> rw [e6] <;> omega
  have t3 : (x3 * q - p * x6).toInt = v.1 * q.toInt - p.toInt * v.2 := by rw [lsub_t] <;> rw [t1, t2] <;> omega
  rw [abL_t (by rw [t3]; omega), t3]
  unfold farN
  omega
theorem cl_closest (V : VA A) {n : Nat} (G : ShG h sh (gN A) 20880 n) (E : ShE A n (gf h (sh + 2)) (gf h (sh + 3)) (gf h (sh + 4))) (n0 : 0 < n) {pr p q : Int64} (ask : nrAsk pr.toInt p.toInt q.toInt) : S_X5_closest l D 0 0 [.ref sh, .long pr, .long p, .long q] h (QI fun y h' => (∃ e : Nat, e < n ∧ y.toInt = e ∧ ∀ e', e' < n → ¬ nrB p.toInt q.toInt (vV pr.toInt (gf h (sh + 2) e) (gf h (sh + 3) e)) (vV pr.toInt (gf h (sh + 2) e') (gf h (sh + 3) e'))) ∧ h' = h) := Sp.of rfl (Nat.le_of_ble_eq_true rfl) (fun X C _ _ _ _ => V_X5_closest_0 C (by
  have n1 := E.1
  have s0 : (gi h sh 0).toInt = n := G.2.2.1
  have eb : ∀ e, e < n → _ := fun e he => ShE.b V E he
  have vb : ∀ e, e < n → _ := fun e he => vV_b ask (eb e he).1 (eb e he).2.1 (eb e he).2.2.1 (eb e he).2.2.2
  generalize hQ : (QI fun y h' => (∃ e : Nat, e < n ∧ y.toInt = e ∧ ∀ e', e' < n → ¬ nrB p.toInt q.toInt (vV pr.toInt (gf h (sh + 2) e) (gf h (sh + 3) e)) (vV pr.toInt (gf h (sh + 2) e') (gf h (sh + 3) e'))) ∧ h' = h) = Q
  have key : ∀ (d : Nat) (v7 v14 : Int32) (v8 v10 v12 : Int64) (be i : Nat), v7.toInt = be → v14.toInt = i → i + d = n → be < i → v8.toInt = (vV pr.toInt (gf h (sh + 2) be) (gf h (sh + 3) be)).1 → v10.toInt = (vV pr.toInt (gf h (sh + 2) be) (gf h (sh + 3) be)).2 → v12.toInt = farN p.toInt q.toInt (vV pr.toInt (gf h (sh + 2) be) (gf h (sh + 3) be)) → (∀ e', e' < i → ¬ nrB p.toInt q.toInt (vV pr.toInt (gf h (sh + 2) be) (gf h (sh + 3) be)) (vV pr.toInt (gf h (sh + 2) e') (gf h (sh + 3) e'))) → Wj X 0 0 Q 37 [(0, .ref sh), (1, .long pr), (3, .long p), (5, .long q), (7, .int v7), (8, .long v8), (10, .long v10), (12, .long v12), (14, .int v14)] [] h := by
    intro d
    induction d with
    | zero =>
      intro v7 v14 v8 v10 v12 be i e7 e14 hd hb e8 e10 e12 best
      have hin : i = n := by omega
      subst hin
      refine V_X5_closest_37 C ⟨G.1, fun _ => ?_, fun z => ?_⟩
      · rw [← hQ]; exact ⟨v7, rfl, ⟨be, by omega, e7, best⟩, rfl⟩
      · rw [i32_le, s0] at z; omega
    | succ d ih =>
      intro v7 v14 v8 v10 v12 be i e7 e14 hd hb e8 e10 e12 best
      have iN : i < n := by omega
      have bi := eb i iN
      obtain ⟨x1, x2⟩ := ix_succ (i := v14) (by omega) (by omega)
      obtain ⟨a1, a2, a3, a4, a5, a6, a7, a8, a9⟩ := vb i iN
      obtain ⟨c1, c2, c3, c4, c5, c6, c7, c8, c9⟩ := vb be (by omega)
      refine V_X5_closest_37 C ⟨G.1, fun z => ?_, fun _ => (cl_upper G.1 ask.1.1 e14 (by omega) (pr_b ask bi.2.2.1 bi.2.2.2)).mono (fun w h2 hp => ?_)⟩
      · rw [i32_le, s0] at z; omega
      · obtain ⟨x3, rfl, t3, eh2⟩ := hp
        rw [eh2]
        refine ⟨x3, rfl, G.1, (cl_lower G.1 ask.1.1 e14 (by omega)).mono (fun w h5 hp => ?_)⟩
        obtain ⟨x6, rfl, t6, eh5⟩ := hp
        rw [eh5]
        refine ⟨x6, rfl, ?_⟩
        try dsimp only
        have tf := far_t (p := p) (q := q) t3 t6 ⟨a6, a7⟩ ⟨a8, a9⟩
        generalize abL (x3 * q - p * x6) = F at *
        have fn := farN_nn p.toInt q.toInt (vV pr.toInt (gf h (sh + 2) i) (gf h (sh + 3) i))
        have fb := farN_nn p.toInt q.toInt (vV pr.toInt (gf h (sh + 2) be) (gf h (sh + 3) be))
        have bb : nrB p.toInt q.toInt (vV pr.toInt (gf h (sh + 2) be) (gf h (sh + 3) be)) (vV pr.toInt (gf h (sh + 2) i) (gf h (sh + 3) i)) ↔ (farN p.toInt q.toInt (vV pr.toInt (gf h (sh + 2) i) (gf h (sh + 3) i)) * (vV pr.toInt (gf h (sh + 2) be) (gf h (sh + 3) be)).2 < farN p.toInt q.toInt (vV pr.toInt (gf h (sh + 2) be) (gf h (sh + 3) be)) * (vV pr.toInt (gf h (sh + 2) i) (gf h (sh + 3) i)).2 ∨ (farN p.toInt q.toInt (vV pr.toInt (gf h (sh + 2) i) (gf h (sh + 3) i)) * (vV pr.toInt (gf h (sh + 2) be) (gf h (sh + 3) be)).2 = farN p.toInt q.toInt (vV pr.toInt (gf h (sh + 2) be) (gf h (sh + 3) be)) * (vV pr.toInt (gf h (sh + 2) i) (gf h (sh + 3) i)).2 ∧ (vV pr.toInt (gf h (sh + 2) i) (gf h (sh + 3) i)).1 * (vV pr.toInt (gf h (sh + 2) be) (gf h (sh + 3) be)).2 < (vV pr.toInt (gf h (sh + 2) be) (gf h (sh + 3) be)).1 * (vV pr.toInt (gf h (sh + 2) i) (gf h (sh + 3) i)).2)) := Iff.rfl
        have stay : ¬ nrB p.toInt q.toInt (vV pr.toInt (gf h (sh + 2) be) (gf h (sh + 3) be)) (vV pr.toInt (gf h (sh + 2) i) (gf h (sh + 3) i)) → Wj X 0 0 Q 37 [(0, .ref sh), (1, .long pr), (3, .long p), (5, .long q), (7, .int v7), (8, .long v8), (10, .long v10), (12, .long v12), (14, .int (v14 + Int32.ofInt 1))] [] h := by
          intro nb
          refine ih _ _ _ _ _ be (i + 1) e7 (by omega) (by omega) (by omega) e8 e10 e12 (fun e' he' => ?_)
          by_cases y : e' = i
          · rw [y]; exact nb
          · exact best e' (by omega)
        have put : nrB p.toInt q.toInt (vV pr.toInt (gf h (sh + 2) be) (gf h (sh + 3) be)) (vV pr.toInt (gf h (sh + 2) i) (gf h (sh + 3) i)) → Wj X 0 0 Q 120 [(0, .ref sh), (1, .long pr), (3, .long p), (5, .long q), (14, .int v14), (15, .long x3), (17, .long x6), (19, .long F)] [] h := by
          intro nb
          refine V_X5_closest_120 C (ih _ _ _ _ _ i (i + 1) e14 (by omega) (by omega) (by omega) t3 t6 tf (fun e' he' => ?_))
          by_cases y : e' = i
          · rw [y]; exact fun z => nrB_tot z z
          · intro z
            have z1 := (vb e' (by omega)).2.2.1
            exact nrB_tr c3 z1 a3 (best e' (by omega)) (nrB_tot z) nb
        rw [bb] at stay put
        clear bb best ih
        generalize farN p.toInt q.toInt (vV pr.toInt (gf h (sh + 2) i) (gf h (sh + 3) i)) = fi at *
        generalize farN p.toInt q.toInt (vV pr.toInt (gf h (sh + 2) be) (gf h (sh + 3) be)) = fe at *
        generalize vV pr.toInt (gf h (sh + 2) i) (gf h (sh + 3) i) = vi at *
        generalize vV pr.toInt (gf h (sh + 2) be) (gf h (sh + 3) be) = ve at *
        have k1 := mul_bd (a := fi) (b := ve.2) (M := 1000000000) (K := 10000) fn a5 (by omega) c4
        have k2 := mul_bd (a := fe) (b := vi.2) (M := 1000000000) (K := 10000) fb c5 (by omega) a4
        have k3 := mul_bd (a := ve.1) (b := vi.2) (M := 120000000) (K := 10000) (by omega) c2 (by omega) a4
        have k4 := mul_bd (a := vi.1) (b := ve.2) (M := 120000000) (K := 10000) (by omega) a2 (by omega) c4
        have q1 : (F * v10).toInt = fi * ve.2 := by rw [lmul_t] <;> rw [tf, e10] <;> omega
        have q2 : (v12 * x6).toInt = fe * vi.2 := by rw [lmul_t] <;> rw [e12, t6] <;> omega
        have q3 : (F * v10 - v12 * x6).toInt = fi * ve.2 - fe * vi.2 := by rw [lsub_t] <;> rw [q1, q2] <;> omega
        have q4 : (v8 * x6).toInt = ve.1 * vi.2 := by rw [lmul_t] <;> rw [e8, t6] <;> omega
        have q5 : (x3 * v10).toInt = vi.1 * ve.2 := by rw [lmul_t] <;> rw [t3, e10] <;> omega
        refine ⟨fun z1 => put ?_, fun z1 => ⟨fun z2 => stay ?_, fun z2 => ⟨fun z3 => stay ?_, fun z3 => put ?_⟩⟩⟩
        all_goals rw [i64_lt, q3, l0_t] at z1
        · left; omega
        all_goals rw [i64_eq, q3, l0_t] at z2
        · omega
        all_goals rw [i64_le, q4, q5] at z3
        · omega
        · right; omega
  have b0 := eb 0 n0
  obtain ⟨a1, a2, a3, a4, a5, a6, a7, a8, a9⟩ := vb 0 n0
  refine ⟨G.1, (cl_upper G.1 ask.1.1 (v := 0) (e := 0) rfl (by omega) (pr_b ask b0.2.2.1 b0.2.2.2)).mono (fun w h2 hp => ?_)⟩
  obtain ⟨x3, rfl, t3, eh2⟩ := hp
  rw [eh2]
  refine ⟨x3, rfl, G.1, (cl_lower G.1 ask.1.1 (v := 0) (e := 0) rfl (by omega)).mono (fun w h5 hp => ?_)⟩
  obtain ⟨x6, rfl, t6, eh5⟩ := hp
  rw [eh5]
  refine ⟨x6, rfl, key (n - 1) 0 1 x3 x6 _ 0 1 rfl rfl (by omega) (by omega) t3 t6 (far_t t3 t6 ⟨a6, a7⟩ ⟨a8, a9⟩) (fun e' he' => ?_)⟩
  have : e' = 0 := by omega
  rw [this]; exact fun z => nrB_tot z z))
theorem cl_tellClosest (S : CSt h x m s) {pr p q : Int64} (ask : nrAsk pr.toInt p.toInt q.toInt) : S_X9_tellClosest l D (shC h x) (shM h x) [.ref x, .long pr, .long p, .long q] h (QI fun y h' => y.toInt = (tellP s pr.toInt p.toInt q.toInt).1 ∧ CSt h' x m (tellP s pr.toInt p.toInt q.toInt).2 ∧ FrX (inC x m) h h') := Sp.of rfl (Nat.le_of_ble_eq_true rfl) (fun X C _ _ hmc hms => V_X9_tellClosest_0 C (by
  have V := S.2.2.2.2.1.1
  have vg := V.gn
  refine ⟨S.1, shC h x, shM h x, by omega, by omega, (cl_fitted S).mono (fun v h2 hp => ?_)⟩
  obtain ⟨sh, rfl, S2, e2, T2, p2, x2⟩ := hp
  obtain ⟨n, G, E⟩ := T2.e V
  have s0 : (gi h2 sh 0).toInt = n := G.2.2.1
  have dj := S2.shx e2
  have n1 := E.1
  refine ⟨sh, rfl, G.1, fun z => ?_, fun z => ?_⟩
  all_goals rw [i32_eq, s0, i0_t] at z
  · refine (cl_closest V G E (by omega) ask).mono (fun w h7 hp => ?_)
    obtain ⟨y, rfl, ⟨e, e1, y1, best⟩, e7⟩ := hp
    rw [e7]
    obtain ⟨t, t1, t2, t3, g, g0, eg⟩ := E.near V ask e1 best
    have be := ShE.b V E e1
    obtain ⟨a1, a2, a3, a4, a5, a6, a7, a8, a9⟩ := vV_b ask be.1 be.2.1 be.2.2.1 be.2.2.2
    have fc : FrW (dI (x + 3)) (dL (x + 3)) h2 (tcl h2 (x + 3)) := FrW.rf.tcl
    refine ⟨y, rfl, S2.1, (cl_tellWheels (h := tcl h2 (x + 3)) (St9_same S2.1 fc.2.1 fc.2.2.1 fc.2.2.2.1) (St5_same G.1 fc.2.1 fc.2.2.1 fc.2.2.2.1) dj TdC.clr vg.1 t1 (by unfold gf; rw [fc.xi (fun q => by have := q.1; omega)]; exact t3) y1 (by omega)).mono (fun v h10 hp => ?_)⟩
    obtain ⟨w, rfl, ew, t10, f10⟩ := hp
    have f210 := fc.tr f10
    obtain ⟨S10, p10, x10⟩ := S2.row f210 t10
    have F10 : St5 h10 sh := St5_same G.1 f210.2.1 f210.2.2.1 f210.2.2.2.1
    have k2 : gf h10 (sh + 2) e = gf h2 (sh + 2) e := by unfold gf; rw [f210.xi (fun q => by have := q.1; omega)]
    have k3 : gf h10 (sh + 3) e = gf h2 (sh + 3) e := by unfold gf; rw [f210.xi (fun q => by have := q.1; omega)]
    refine ⟨w, rfl, S10.1, F10, (cl_upper F10 ask.1.1 y1 (by omega) (by rw [k3]; exact pr_b ask be.2.2.1 be.2.2.2)).mono (fun v h14 hp => ?_)⟩
    obtain ⟨x15, rfl, t15, e14⟩ := hp
    rw [e14]
    rw [k2, k3] at t15
    refine ⟨x15, rfl, F10, (cl_lower F10 ask.1.1 y1 (by omega)).mono (fun v h17 hp => ?_)⟩
    obtain ⟨x18, rfl, t18, e17⟩ := hp
    rw [e17]
    rw [k2, k3] at t18
    generalize vV pr.toInt (gf h2 (sh + 2) e) (gf h2 (sh + 3) e) = vv at *
    refine ⟨x18, rfl, St9_k6 S10.1, by omega, by omega, S10.1, ?_⟩
    obtain ⟨g1, g2⟩ := gl_fpt0 h10 (x + 13) x15 x18
    obtain ⟨r1, r2⟩ := fr_x (u := x15) (w := x18) (by omega)
    rw [t15, t18] at r1 r2
    have f19 : FrW (fun _ _ => False) (fun b _ => b = x + 13) h10 (fpt h10 (x + 13) x15 x18) := FrW.sl (P := fun _ _ => False) (R := fun c _ => c = x + 13) (FrW.sl (P := fun _ _ => False) (R := fun c _ => c = x + 13) FrW.rf rfl) rfl
    obtain ⟨S19, p19, x19⟩ := S10.scr f19 (fun _ _ q => absurd q id) (fun b j (q : b = x + 13) => by omega)
    rw [← g1] at r1
    rw [← g2] at r2
    generalize fpt h10 (x + 13) x15 x18 = h19 at *
    have tn := tN_24 t
    have ll : (tWl t).length ≤ 4 := by unfold tWl; rw [List.length_map, List.length_range]; omega
    refine (cl_addF (b := x + 13) (St9_s1 S19.1) (St9_k6 S19.1) S19.2.2.2.2.2.2.1 (by show (tWl t).length < 59; omega) r1 r2).mono (fun v h23 hp => ?_)
    obtain ⟨rfl, t23, f23⟩ := hp
    obtain ⟨S23, p23, x23⟩ := S19.row f23 t23
    have u0 := rdU_nn (u := vv.1) (w := vv.2) (by omega) a3
    have u1 := rdU_le (u := vv.1) (w := vv.2) (by omega)
    have l0 := rdL_pos (u := vv.1) a3
    have l1 := rdL_le (u := vv.1) a3
    have y0 : (gl h23 (x + 13) 0).toInt = rdU vv.1 vv.2 := by rw [f23.xl (fun (z : x + 13 = x + 3 + 1) => by omega)]; exact r1
    have y2 : (gl h23 (x + 13) 1).toInt = rdL vv.1 vv.2 := by rw [f23.xl (fun (z : x + 13 = x + 3 + 1) => by omega)]; exact r2
    have q0 := ask.2.2.1
    have b1 : rdU vv.1 vv.2 * q.toInt ≤ vv.1 * q.toInt := Int.mul_le_mul_of_nonneg_right u1 (by omega)
    have b2 : 0 ≤ rdU vv.1 vv.2 * q.toInt := Int.mul_nonneg u0 (by omega)
    have b3 : p.toInt * rdL vv.1 vv.2 ≤ p.toInt * vv.2 := Int.mul_le_mul_of_nonneg_left l1 (by have := ask.2.1; omega)
    have b4 : 0 ≤ p.toInt * rdL vv.1 vv.2 := Int.mul_nonneg (by have := ask.2.1; omega) (by omega)
    have tf := far_t (p := p) (q := q) (v := rdV vv) (x3 := gl h23 (x + 13) 0) (x6 := gl h23 (x + 13) 1) y0 y2 ⟨b2, by show rdU vv.1 vv.2 * q.toInt ≤ _; omega⟩ ⟨b4, by show p.toInt * rdL vv.1 vv.2 ≤ _; omega⟩
    have b5 := mul_bd (a := rdL vv.1 vv.2) (b := q.toInt) (M := 10000) (K := 400) (by omega) (by omega) (by omega) (by omega)
    have b6 : 0 < rdL vv.1 vv.2 * q.toInt := Int.mul_pos l0 (by omega)
    have tl : (gl h23 (x + 13) 1 * q).toInt = rdL vv.1 vv.2 * q.toInt := by rw [lmul_t] <;> rw [y2] <;> omega
    have fnn := farN_nn p.toInt q.toInt (rdV vv)
    refine ⟨rfl, S23.1, by rw [tf]; omega, by rw [tl]; exact b6, ?_⟩
    generalize abL (gl h23 (x + 13) 0 * q - p * gl h23 (x + 13) 1) = U at *
    generalize gl h23 (x + 13) 1 * q = W at *
    obtain ⟨o1, o2⟩ := gl_fpt0 h23 (x + 14) U W
    obtain ⟨c1, c2⟩ := fr_x (u := U) (w := W) (by omega)
    have rf := rd_far (p := p.toInt) (q := q.toInt) (by omega) (c := vv) a3
    rw [tf, tl, Int.mul_comm (rdL vv.1 vv.2)] at c1 c2
    have ef : farN p.toInt q.toInt (rdV vv) = farN p.toInt q.toInt (rdU vv.1 vv.2, rdL vv.1 vv.2) := rfl
    rw [ef, rf.1] at c1
    rw [ef, rf.2] at c2
    have f26 : FrW (fun _ _ => False) (fun b _ => b = x + 14) h23 (fpt h23 (x + 14) U W) := FrW.sl (P := fun _ _ => False) (R := fun c _ => c = x + 14) (FrW.sl (P := fun _ _ => False) (R := fun c _ => c = x + 14) FrW.rf rfl) rfl
    obtain ⟨S26, p26, x26⟩ := S23.scr f26 (fun _ _ q => absurd q id) (fun b j (q : b = x + 14) => by omega)
    rw [← o1] at c1
    rw [← o2] at c2
    generalize fpt h23 (x + 14) U W = h26 at *
    refine (cl_addF (b := x + 14) (St9_s1 S26.1) (St9_k7 S26.1) S26.2.2.2.2.2.2.1 (by show (tWl t ++ [_, _]).length < 59; rw [List.length_append]; simp; omega) c1 c2).mono (fun v h27 hp => ?_)
    obtain ⟨rfl, t27, f27⟩ := hp
    obtain ⟨S27, p27, x27⟩ := S26.row f27 t27
    -- the same as of the train's own numbers
    have vt : 0 < (g * vv.1, g * vv.2).2 := Int.mul_pos g0 a3
    have ru := rd_unique (u := g * vv.1) (w := g * vv.2) (u' := vv.1) (w' := vv.2) vt a3 (by grind)
    have fs := farN_sc (p := p.toInt) (q := q.toInt) g0 (b := vv)
    have fu := rd_unique (u := farN p.toInt q.toInt (g * vv.1, g * vv.2)) (w := q.toInt * (g * vv.2)) (u' := farN p.toInt q.toInt vv) (w' := q.toInt * vv.2) (Int.mul_pos (by omega) vt) (Int.mul_pos (by omega) a3) (by rw [fs]; grind)
    have fin : tellP s pr.toInt p.toInt q.toInt = (tN t, rowS s (tWl t ++ [rdU vv.1 vv.2, rdL vv.1 vv.2, rdU (farN p.toInt q.toInt vv) (q.toInt * vv.2), rdL (farN p.toInt q.toInt vv) (q.toInt * vv.2)])) := by
      unfold tellP
      rw [t2]
      dsimp only
      rw [eg]
      dsimp only
      rw [ru.1, ru.2, fu.1, fu.2]
    refine ⟨rfl, w, rfl, ?_, ?_, (((((x2.tr x10).tr x19).tr x23).tr x26).tr x27)⟩
    · rw [fin]; exact ew
    · rw [fin]
      have ea : tWl t ++ [rdU vv.1 vv.2, rdL vv.1 vv.2, rdU (farN p.toInt q.toInt vv) (q.toInt * vv.2), rdL (farN p.toInt q.toInt vv) (q.toInt * vv.2)] = (tWl t ++ [rdU vv.1 vv.2, rdL vv.1 vv.2]) ++ [rdU (farN p.toInt q.toInt vv) (q.toInt * vv.2), rdL (farN p.toInt q.toInt vv) (q.toInt * vv.2)] := by rw [List.append_assoc]; rfl
      rw [ea]; exact S27
  · have no : nearQ (sA s) pr.toInt p.toInt q.toInt = none := lsQ_no (fun t ht => by
      obtain ⟨e, e1, -⟩ := E.2.2 t ht.1
      omega)
    unfold tellP
    rw [no]
    exact ⟨_, rfl, rfl, S2, x2⟩))
theorem ca_nearest (S : CSt h x m s) {p q : Int32} : S_X9_nearest l D (shC h x) (shM h x) [.ref x, .int p, .int q] h (QI fun y h' => y.toInt = (nearestP s p.toInt q.toInt).1 ∧ CSt h' x m (nearestP s p.toInt q.toInt).2 ∧ FrX (inC x m) h h') := Sp.of rfl (Nat.le_of_ble_eq_true rfl) (fun X C _ _ hmc hms => V_X9_nearest_0 C (by
  have e400 : (400 : Int32).toInt = 400 := rfl
  unfold nearestP
  refine ⟨fun z => ⟨_, rfl, ?_⟩, fun z => ⟨fun z2 => ⟨S.1, shC h x, shM h x, by omega, by omega, ?_⟩, fun z2 => ⟨_, rfl, ?_⟩⟩⟩
  all_goals rw [bt_0, i1_t, e400] at z
  · rw [if_neg (by omega)]; exact ⟨rfl, S, FrX.rf⟩
  all_goals rw [bt_0, i1_t, e400] at z2
  · rw [if_pos (by omega)]
    have l0 : (0 : Int64).toInt = 0 := rfl
    refine (cl_tellClosest S (pr := 0) (p := p.toInt64) (q := q.toInt64) (by rw [i2l_t, i2l_t, l0]; exact ⟨by omega, by omega, by omega, Or.inl rfl⟩)).mono (fun v h2 hp => ?_)
    obtain ⟨y, rfl, ey, S2, x2⟩ := hp
    rw [i2l_t, i2l_t, l0] at ey S2
    exact ⟨y, rfl, y, rfl, ey, S2, x2⟩
  · rw [if_neg (by omega)]; exact ⟨rfl, S, FrX.rf⟩))
theorem ca_lead (S : CSt h x m s) {v : Int32} : S_X9_lead l D (shC h x) (shM h x) [.ref x, .int v] h (QI fun y h' => y.toInt = (leadP s v.toInt).1 ∧ CSt h' x m (leadP s v.toInt).2 ∧ FrX (inC x m) h h') := Sp.of rfl (Nat.le_of_ble_eq_true rfl) (fun X C _ _ hmc hms => V_X9_lead_0 C (by
  have e20 : (20000 : Int32).toInt = 20000 := rfl
  have V := S.2.2.2.2.1.1
  obtain ⟨a, ea, Ha, ba⟩ := S.now
  obtain ⟨n12, g12⟩ := nn_of ea
  unfold leadP
  refine ⟨fun z => ⟨S.1, n12, by rw [g12]; exact Ha.1, shC h x, shM h x, by omega, by omega, ?_⟩, fun z => ⟨_, rfl, ?_⟩⟩
  all_goals rw [bt_0, i1_t, e20] at z
  · rw [if_pos (by omega), g12]
    have w := V.worm
    have pt := V.2.1
    have mb := mul_bd (a := sA s 0 0) (b := sA s 0 1) (M := 120) (K := 100) (by omega) (by omega) (by omega) (by omega)
    have e0 : (gi h a 0).toInt = sA s 0 0 := Ha.2.1 0 (by omega)
    have e1 : (gi h a 1).toInt = sA s 0 1 := Ha.2.1 1 (by omega)
    have ep : ((gi h a 0).toInt64 * (gi h a 1).toInt64).toInt = sA s 0 0 * sA s 0 1 := by rw [lmul_t] <;> rw [i2l_t, i2l_t, e0, e1] <;> omega
    generalize (gi h a 0).toInt64 * (gi h a 1).toInt64 = pr at *
    refine (cl_tellClosest S (pr := pr) (p := v.toInt64) (q := 1) (by rw [i2l_t, ep, l1_t]; exact ⟨by omega, by omega, by omega, Or.inr rfl⟩)).mono (fun w h2 hp => ?_)
    obtain ⟨y, rfl, ey, S2, x2⟩ := hp
    rw [i2l_t, ep, l1_t] at ey S2
    exact ⟨y, rfl, y, rfl, ey, S2, x2⟩
  · rw [if_neg (by omega)]; exact ⟨rfl, S, FrX.rf⟩))
end CNr
