-- the calls that need the shelf: where they need it, it stands behind them
section NshS
variable {X : Ctx} {l : Launch} {D : Dt} {h h' : Hp} {x m t : Nat} {Q : Pq} {A B : HV} {s : Sv}
theorem NSh.of {sh : Nat} (e : gr h x 14 = some sh) : NSh h x := by unfold NSh; rw [e]; exact fun q => by cases q
theorem NSh.fw {P R : Nat → Nat → Prop} (n : NSh h x) (f : FrW P R h h') : NSh h' x := by unfold NSh at n ⊢; rw [f.2.2.2.1]; exact n
theorem NSh.same (n : NSh h x) (e : gr h' x 14 = gr h x 14) : NSh h' x := by unfold NSh at n ⊢; rw [e]; exact n
/-- a call that needs the shelf where V holds -/
theorem Sp.shelf {y : MethodName} {cc : ByteArray} {nL : Nat} {ret : Option FieldType} {fr lo c0 m0 : Nat} {av : List Value} {zv : Int} {s' : Sv} {V : Prop} (hk : c0 ≤ 9) (hn4 : m0 ≤ 191) (z : 0 < D.2.2.size) (S : CSt h x m s)
    (hs : ∀ h, CSt h x m s → Sp l D y cc nL ret fr lo (c0 + shC h x) (m0 + shM h x) av h (QI fun y h' => y.toInt = zv ∧ CSt h' x m s' ∧ FrX (inC x m) h h'))
    (hb : ∀ cc9 mm, c0 ≤ cc9 → m0 ≤ mm → (V → c0 + shC h x ≤ cc9 ∧ m0 + shM h x ≤ mm) → Sp l D y cc nL ret fr lo cc9 mm av h (QI fun y h' => y.toInt = zv ∧ CSt h' x m s' ∧ FrX (inC x m) h h' ∧ (V → NSh h' x))) :
    ∃ k3 n4, k3 ≤ 9 + shC h x ∧ n4 ≤ 191 + shM h x ∧ Sp l D y cc nL ret fr lo k3 n4 av h (CP zv s' k3 n4 h x m) := by
  by_cases e : gr h x 14 = none
  · obtain ⟨c1, c2⟩ := shC_none e
    by_cases v : V
    · refine ⟨c0 + shC h x, m0 + shM h x, by omega, by omega, (hb _ _ (by omega) (by omega) (fun _ => ⟨Nat.le_refl _, Nat.le_refl _⟩)).mono (fun r h' hp => ?_)⟩
      obtain ⟨y, rfl, ey, S', f, n⟩ := hp
      obtain ⟨d1, d2⟩ := shC_ns (n v)
      exact ⟨⟨y, rfl, ey⟩, S', f, by omega, by omega⟩
    · refine ⟨c0, m0, by omega, by omega, (hb _ _ (Nat.le_refl _) (Nat.le_refl _) (fun q => absurd q v)).mono (fun r h' hp => ?_)⟩
      obtain ⟨y, rfl, ey, S', f, n⟩ := hp
      obtain ⟨d1, d2⟩ := shC_le h' x
      exact ⟨⟨y, rfl, ey⟩, S', f, by omega, by omega⟩
  · obtain ⟨c1, c2⟩ := shC_ns (h := h) (x := x) e
    have e2 : NSh (sr h 0 0 (some 0)) x := NSh.same (h := h) e (by rw [gr_sr, if_neg (by have := S.2.1.2.2.1; omega)])
    obtain ⟨g1, g2⟩ := shC_ns e2
    refine ⟨c0, m0, by omega, by omega, (Sp.ns (P := fun v => ∃ y : Int32, v = some (.int y) ∧ y.toInt = zv) (s' := s') z S e (fun S1 => ?_)).mono (fun v h' hp => ?_)⟩
    · have := hs _ S1
      rw [g1, g2, Nat.add_zero, Nat.add_zero] at this
      refine this.mono (fun v h' hp => ?_)
      obtain ⟨y, rfl, ey, S', f⟩ := hp
      exact ⟨⟨y, rfl, ey⟩, S', f⟩
    · obtain ⟨p, S', f, n⟩ := hp
      obtain ⟨d1, d2⟩ := shC_ns n
      exact ⟨p, S', f, by omega, by omega⟩
theorem Wj.le {k n pc : Nat} {lv : List (Nat × Value)} {st : List Value} (K : k ≤ mcX X → n ≤ msX X → Wj X k n Q pc lv st h) : Wj X k n Q pc lv st h := by
  obtain ⟨p, l, e, R, s, m, args, below, meth, c, D, mc, ms⟩ := X
  exact fun h1 h2 => K h1 h2 h1 h2
theorem sumN_mono {f : Int → Int} (hf : ∀ n, 0 ≤ f n) (lo : Int) (c d : Nat) : sumN f lo c ≤ sumN f lo (c + d) := by
  induction d with
  | zero => exact Int.le_refl _
  | succ d ih =>
    have e : sumN f lo (c + (d + 1)) = sumN f lo (c + d) + f (lo + ((c + d : Nat) : Int)) := rfl
    have := hf (lo + ((c + d : Nat) : Int))
    omega
theorem cb_train (S : CSt h x m s) {p q : Int32} {cc9 mm : Nat} (h0 : 0 ≤ cc9) (h1 : 0 ≤ mm) (hC : ((1 ≤ p.toInt ∧ p.toInt ≤ 400) ∧ 1 ≤ q.toInt ∧ q.toInt ≤ 400) → 0 + shC h x ≤ cc9 ∧ 0 + shM h x ≤ mm) : S_X9_train l D cc9 mm [.ref x, .int p, .int q] h (QI fun y h' => y.toInt = (trainP s p.toInt q.toInt).1 ∧ CSt h' x m (trainP s p.toInt q.toInt).2 ∧ FrX (inC x m) h h' ∧ (((1 ≤ p.toInt ∧ p.toInt ≤ 400) ∧ 1 ≤ q.toInt ∧ q.toInt ≤ 400) → NSh h' x)) := Sp.of rfl (Nat.le_of_ble_eq_true rfl) (fun X C _ _ hmc hms => V_X9_train_0 C (by
  have V := S.2.2.2.2.1.1
  have vg := V.gn
  have e400 : (400 : Int32).toInt = 400 := rfl
  unfold trainP
  refine ⟨fun z => ⟨_, rfl, ?_⟩, fun z => ⟨fun z2 => ⟨S.1, shC h x, shM h x, ?_, ?_, (cl_fitted S).mono (fun v h2 hp => ?_)⟩, fun z2 => ⟨_, rfl, ?_⟩⟩⟩
  all_goals rw [bt_0, i1_t, e400] at z
  · rw [if_neg (by omega)]; exact ⟨rfl, S, FrX.rf, fun w => False.elim (by omega)⟩
  all_goals rw [bt_0, i1_t, e400] at z2
  · have := hC (by omega); omega
  · have := hC (by omega); omega
  · rw [if_pos (by omega)]
    obtain ⟨sh, rfl, S2, e2, T2, p2, x2⟩ := hp
    obtain ⟨n, G, E⟩ := T2.e V
    obtain ⟨et1, et2⟩ := E.train V (p := p.toInt) (q := q.toInt) (by omega)
    refine ⟨sh, rfl, G.1, (cl_sfind G (p := p.toInt64) (q := q.toInt64) (by rw [i2l_t]; omega) (by rw [i2l_t]; omega) (by rw [i2l_t]; omega) (by rw [i2l_t]; omega)).mono (fun v h7 hp => ?_)⟩
    obtain ⟨y, rfl, hy, e7⟩ := hp
    rw [i2l_t, i2l_t] at hy
    subst e7
    rcases hy with ⟨y1, no⟩ | ⟨e, e1, y1, u1, w1⟩
    · rw [et1 no]
      exact ⟨y, rfl, fun q => by rw [i32_le, i0_t] at q; omega, fun _ => ⟨_, rfl, rfl, S2, x2, fun _ => NSh.of e2⟩⟩
    · obtain ⟨t, t1, t2, t3⟩ := et2 e e1 u1 w1
      rw [t2]
      have en := E.1
      refine ⟨y, rfl, fun _ => ⟨S2.1, ?_⟩, fun q => absurd (by rw [i32_le, i0_t]; omega) q⟩
      have fc : FrW (dI (x + 3)) (dL (x + 3)) h7 (tcl h7 (x + 3)) := FrW.rf.tcl
      have dj := S2.shx e2
      refine (cl_tellWheels (h := tcl h7 (x + 3)) (St9_same S2.1 fc.2.1 fc.2.2.1 fc.2.2.2.1) (St5_same G.1 fc.2.1 fc.2.2.1 fc.2.2.2.1) dj TdC.clr vg.1 t1 (by unfold gf; rw [fc.xi (fun q => by have := q.1; omega)]; exact t3) y1 (by omega)).mono (fun v h10 hp => ?_)
      obtain ⟨w, rfl, ew, t10, f10⟩ := hp
      obtain ⟨S10, p10, x10⟩ := S2.row (fc.tr f10) t10
      exact ⟨w, rfl, w, rfl, ew, S10, x2.tr x10, fun _ => (NSh.of e2).fw (fc.tr f10)⟩
  · rw [if_neg (by omega)]; exact ⟨rfl, S, FrX.rf, fun w => False.elim (by omega)⟩))
theorem cb_tellClosest (S : CSt h x m s) {pr p q : Int64} (ask : nrAsk pr.toInt p.toInt q.toInt) : S_X9_tellClosest l D (shC h x) (shM h x) [.ref x, .long pr, .long p, .long q] h (QI fun y h' => y.toInt = (tellP s pr.toInt p.toInt q.toInt).1 ∧ CSt h' x m (tellP s pr.toInt p.toInt q.toInt).2 ∧ FrX (inC x m) h h' ∧ NSh h' x) := Sp.of rfl (Nat.le_of_ble_eq_true rfl) (fun X C _ _ hmc hms => V_X9_tellClosest_0 C (by
  have V := S.2.2.2.2.1.1
  have vg := V.gn
  refine ⟨S.1, shC h x, shM h x, by omega, by omega, (cl_fitted S).mono (fun v h2 hp => ?_)⟩
  obtain ⟨sh, rfl, S2, e2, T2, p2, x2⟩ := hp
  obtain ⟨n, G, E⟩ := T2.e V
  have s0 : (gi h2 sh 0).toInt = n := G.2.2.1
  have dj := S2.shx e2
  have n1 := E.1
  refine ⟨sh, rfl, G.1, fun z => ?_, fun z => ?_⟩
  all_goals rw [i32_eq, s0, i0_t] at z
  · refine (cl_closest V G E (by omega) ask).mono (fun w h7 hp => ?_)
    obtain ⟨y, rfl, ⟨e, e1, y1, best⟩, e7⟩ := hp
    rw [e7]
    obtain ⟨t, t1, t2, t3, g, g0, eg⟩ := E.near V ask e1 best
    have be := ShE.b V E e1
    obtain ⟨a1, a2, a3, a4, a5, a6, a7, a8, a9⟩ := vV_b ask be.1 be.2.1 be.2.2.1 be.2.2.2
    have fc : FrW (dI (x + 3)) (dL (x + 3)) h2 (tcl h2 (x + 3)) := FrW.rf.tcl
    refine ⟨y, rfl, S2.1, (cl_tellWheels (h := tcl h2 (x + 3)) (St9_same S2.1 fc.2.1 fc.2.2.1 fc.2.2.2.1) (St5_same G.1 fc.2.1 fc.2.2.1 fc.2.2.2.1) dj TdC.clr vg.1 t1 (by unfold gf; rw [fc.xi (fun q => by have := q.1; omega)]; exact t3) y1 (by omega)).mono (fun v h10 hp => ?_)⟩
    obtain ⟨w, rfl, ew, t10, f10⟩ := hp
    have f210 := fc.tr f10
    obtain ⟨S10, p10, x10⟩ := S2.row f210 t10
    have F10 : St5 h10 sh := St5_same G.1 f210.2.1 f210.2.2.1 f210.2.2.2.1
    have k2 : gf h10 (sh + 2) e = gf h2 (sh + 2) e := by unfold gf; rw [f210.xi (fun q => by have := q.1; omega)]
    have k3 : gf h10 (sh + 3) e = gf h2 (sh + 3) e := by unfold gf; rw [f210.xi (fun q => by have := q.1; omega)]
    refine ⟨w, rfl, S10.1, F10, (cl_upper F10 ask.1.1 y1 (by omega) (by rw [k3]; exact pr_b ask be.2.2.1 be.2.2.2)).mono (fun v h14 hp => ?_)⟩
    obtain ⟨x15, rfl, t15, e14⟩ := hp
    rw [e14]
    rw [k2, k3] at t15
    refine ⟨x15, rfl, F10, (cl_lower F10 ask.1.1 y1 (by omega)).mono (fun v h17 hp => ?_)⟩
    obtain ⟨x18, rfl, t18, e17⟩ := hp
    rw [e17]
    rw [k2, k3] at t18
    generalize vV pr.toInt (gf h2 (sh + 2) e) (gf h2 (sh + 3) e) = vv at *
    refine ⟨x18, rfl, St9_k6 S10.1, by omega, by omega, S10.1, ?_⟩
    obtain ⟨g1, g2⟩ := gl_fpt0 h10 (x + 13) x15 x18
    obtain ⟨r1, r2⟩ := fr_x (u := x15) (w := x18) (by omega)
    rw [t15, t18] at r1 r2
    have f19 : FrW (fun _ _ => False) (fun b _ => b = x + 13) h10 (fpt h10 (x + 13) x15 x18) := FrW.sl (P := fun _ _ => False) (R := fun c _ => c = x + 13) (FrW.sl (P := fun _ _ => False) (R := fun c _ => c = x + 13) FrW.rf rfl) rfl
    obtain ⟨S19, p19, x19⟩ := S10.scr f19 (fun _ _ q => absurd q id) (fun b j (q : b = x + 13) => by omega)
    rw [← g1] at r1
    rw [← g2] at r2
    generalize fpt h10 (x + 13) x15 x18 = h19 at *
    have tn := tN_24 t
    have ll : (tWl t).length ≤ 4 := by unfold tWl; rw [List.length_map, List.length_range]; omega
    refine (cl_addF (b := x + 13) (St9_s1 S19.1) (St9_k6 S19.1) S19.2.2.2.2.2.2.1 (by show (tWl t).length < 59; omega) r1 r2).mono (fun v h23 hp => ?_)
    obtain ⟨rfl, t23, f23⟩ := hp
    obtain ⟨S23, p23, x23⟩ := S19.row f23 t23
    have u0 := rdU_nn (u := vv.1) (w := vv.2) (by omega) a3
    have u1 := rdU_le (u := vv.1) (w := vv.2) (by omega)
    have l0 := rdL_pos (u := vv.1) a3
    have l1 := rdL_le (u := vv.1) a3
    have y0 : (gl h23 (x + 13) 0).toInt = rdU vv.1 vv.2 := by rw [f23.xl (fun (z : x + 13 = x + 3 + 1) => by omega)]; exact r1
    have y2 : (gl h23 (x + 13) 1).toInt = rdL vv.1 vv.2 := by rw [f23.xl (fun (z : x + 13 = x + 3 + 1) => by omega)]; exact r2
    have q0 := ask.2.2.1
    have b1 : rdU vv.1 vv.2 * q.toInt ≤ vv.1 * q.toInt := Int.mul_le_mul_of_nonneg_right u1 (by omega)
    have b2 : 0 ≤ rdU vv.1 vv.2 * q.toInt := Int.mul_nonneg u0 (by omega)
    have b3 : p.toInt * rdL vv.1 vv.2 ≤ p.toInt * vv.2 := Int.mul_le_mul_of_nonneg_left l1 (by have := ask.2.1; omega)
    have b4 : 0 ≤ p.toInt * rdL vv.1 vv.2 := Int.mul_nonneg (by have := ask.2.1; omega) (by omega)
    have tf := far_t (p := p) (q := q) (v := rdV vv) (x3 := gl h23 (x + 13) 0) (x6 := gl h23 (x + 13) 1) y0 y2 ⟨b2, by show rdU vv.1 vv.2 * q.toInt ≤ _; omega⟩ ⟨b4, by show p.toInt * rdL vv.1 vv.2 ≤ _; omega⟩
    have b5 := mul_bd (a := rdL vv.1 vv.2) (b := q.toInt) (M := 10000) (K := 400) (by omega) (by omega) (by omega) (by omega)
    have b6 : 0 < rdL vv.1 vv.2 * q.toInt := Int.mul_pos l0 (by omega)
    have tl : (gl h23 (x + 13) 1 * q).toInt = rdL vv.1 vv.2 * q.toInt := by rw [lmul_t] <;> rw [y2] <;> omega
    have fnn := farN_nn p.toInt q.toInt (rdV vv)
    refine ⟨rfl, S23.1, by rw [tf]; omega, by rw [tl]; exact b6, ?_⟩
    generalize abL (gl h23 (x + 13) 0 * q - p * gl h23 (x + 13) 1) = U at *
    generalize gl h23 (x + 13) 1 * q = W at *
    obtain ⟨o1, o2⟩ := gl_fpt0 h23 (x + 14) U W
    obtain ⟨c1, c2⟩ := fr_x (u := U) (w := W) (by omega)
    have rf := rd_far (p := p.toInt) (q := q.toInt) (by omega) (c := vv) a3
    rw [tf, tl, Int.mul_comm (rdL vv.1 vv.2)] at c1 c2
    have ef : farN p.toInt q.toInt (rdV vv) = farN p.toInt q.toInt (rdU vv.1 vv.2, rdL vv.1 vv.2) := rfl
    rw [ef, rf.1] at c1
    rw [ef, rf.2] at c2
    have f26 : FrW (fun _ _ => False) (fun b _ => b = x + 14) h23 (fpt h23 (x + 14) U W) := FrW.sl (P := fun _ _ => False) (R := fun c _ => c = x + 14) (FrW.sl (P := fun _ _ => False) (R := fun c _ => c = x + 14) FrW.rf rfl) rfl
    obtain ⟨S26, p26, x26⟩ := S23.scr f26 (fun _ _ q => absurd q id) (fun b j (q : b = x + 14) => by omega)
    rw [← o1] at c1
    rw [← o2] at c2
    generalize fpt h23 (x + 14) U W = h26 at *
    refine (cl_addF (b := x + 14) (St9_s1 S26.1) (St9_k7 S26.1) S26.2.2.2.2.2.2.1 (by show (tWl t ++ [_, _]).length < 59; rw [List.length_append]; simp; omega) c1 c2).mono (fun v h27 hp => ?_)
    obtain ⟨rfl, t27, f27⟩ := hp
    obtain ⟨S27, p27, x27⟩ := S26.row f27 t27
    -- the same as of the train's own numbers
    have vt : 0 < (g * vv.1, g * vv.2).2 := Int.mul_pos g0 a3
    have ru := rd_unique (u := g * vv.1) (w := g * vv.2) (u' := vv.1) (w' := vv.2) vt a3 (by grind)
    have fs := farN_sc (p := p.toInt) (q := q.toInt) g0 (b := vv)
    have fu := rd_unique (u := farN p.toInt q.toInt (g * vv.1, g * vv.2)) (w := q.toInt * (g * vv.2)) (u' := farN p.toInt q.toInt vv) (w' := q.toInt * vv.2) (Int.mul_pos (by omega) vt) (Int.mul_pos (by omega) a3) (by rw [fs]; grind)
    have fin : tellP s pr.toInt p.toInt q.toInt = (tN t, rowS s (tWl t ++ [rdU vv.1 vv.2, rdL vv.1 vv.2, rdU (farN p.toInt q.toInt vv) (q.toInt * vv.2), rdL (farN p.toInt q.toInt vv) (q.toInt * vv.2)])) := by
      unfold tellP
      rw [t2]
      dsimp only
      rw [eg]
      dsimp only
      rw [ru.1, ru.2, fu.1, fu.2]
    refine ⟨rfl, w, rfl, ?_, ?_, (((((x2.tr x10).tr x19).tr x23).tr x26).tr x27), (((((NSh.of e2).fw f210).fw f19).fw f23).fw f26).fw f27⟩
    · rw [fin]; exact ew
    · rw [fin]
      have ea : tWl t ++ [rdU vv.1 vv.2, rdL vv.1 vv.2, rdU (farN p.toInt q.toInt vv) (q.toInt * vv.2), rdL (farN p.toInt q.toInt vv) (q.toInt * vv.2)] = (tWl t ++ [rdU vv.1 vv.2, rdL vv.1 vv.2]) ++ [rdU (farN p.toInt q.toInt vv) (q.toInt * vv.2), rdL (farN p.toInt q.toInt vv) (q.toInt * vv.2)] := by rw [List.append_assoc]; rfl
      rw [ea]; exact S27
  · have no : nearQ (sA s) pr.toInt p.toInt q.toInt = none := lsQ_no (fun t ht => by
      obtain ⟨e, e1, -⟩ := E.2.2 t ht.1
      omega)
    unfold tellP
    rw [no]
    exact ⟨_, rfl, rfl, S2, x2, NSh.of e2⟩))
theorem cb_nearest (S : CSt h x m s) {p q : Int32} {cc9 mm : Nat} (h0 : 0 ≤ cc9) (h1 : 0 ≤ mm) (hC : ((1 ≤ p.toInt ∧ p.toInt ≤ 400) ∧ 1 ≤ q.toInt ∧ q.toInt ≤ 400) → 0 + shC h x ≤ cc9 ∧ 0 + shM h x ≤ mm) : S_X9_nearest l D cc9 mm [.ref x, .int p, .int q] h (QI fun y h' => y.toInt = (nearestP s p.toInt q.toInt).1 ∧ CSt h' x m (nearestP s p.toInt q.toInt).2 ∧ FrX (inC x m) h h' ∧ (((1 ≤ p.toInt ∧ p.toInt ≤ 400) ∧ 1 ≤ q.toInt ∧ q.toInt ≤ 400) → NSh h' x)) := Sp.of rfl (Nat.le_of_ble_eq_true rfl) (fun X C _ _ hmc hms => V_X9_nearest_0 C (by
  have e400 : (400 : Int32).toInt = 400 := rfl
  unfold nearestP
  refine ⟨fun z => ⟨_, rfl, ?_⟩, fun z => ⟨fun z2 => ⟨S.1, shC h x, shM h x, ?_, ?_, ?_⟩, fun z2 => ⟨_, rfl, ?_⟩⟩⟩
  all_goals rw [bt_0, i1_t, e400] at z
  · rw [if_neg (by omega)]; exact ⟨rfl, S, FrX.rf, fun w => False.elim (by omega)⟩
  all_goals rw [bt_0, i1_t, e400] at z2
  · have := hC (by omega); omega
  · have := hC (by omega); omega
  · rw [if_pos (by omega)]
    have l0 : (0 : Int64).toInt = 0 := rfl
    refine (cb_tellClosest S (pr := 0) (p := p.toInt64) (q := q.toInt64) (by rw [i2l_t, i2l_t, l0]; exact ⟨by omega, by omega, by omega, Or.inl rfl⟩)).mono (fun v h2 hp => ?_)
    obtain ⟨y, rfl, ey, S2, x2, n2⟩ := hp
    rw [i2l_t, i2l_t, l0] at ey S2
    exact ⟨y, rfl, y, rfl, ey, S2, x2, fun _ => n2⟩
  · rw [if_neg (by omega)]; exact ⟨rfl, S, FrX.rf, fun w => False.elim (by omega)⟩))
theorem cb_lead (S : CSt h x m s) {v : Int32} {cc9 mm : Nat} (h0 : 0 ≤ cc9) (h1 : 0 ≤ mm) (hC : (1 ≤ v.toInt ∧ v.toInt ≤ 20000) → 0 + shC h x ≤ cc9 ∧ 0 + shM h x ≤ mm) : S_X9_lead l D cc9 mm [.ref x, .int v] h (QI fun y h' => y.toInt = (leadP s v.toInt).1 ∧ CSt h' x m (leadP s v.toInt).2 ∧ FrX (inC x m) h h' ∧ ((1 ≤ v.toInt ∧ v.toInt ≤ 20000) → NSh h' x)) := Sp.of rfl (Nat.le_of_ble_eq_true rfl) (fun X C _ _ hmc hms => V_X9_lead_0 C (by
  have e20 : (20000 : Int32).toInt = 20000 := rfl
  have V := S.2.2.2.2.1.1
  obtain ⟨a, ea, Ha, ba⟩ := S.now
  obtain ⟨n12, g12⟩ := nn_of ea
  unfold leadP
  refine ⟨fun z => ⟨S.1, n12, by rw [g12]; exact Ha.1, shC h x, shM h x, ?_, ?_, ?_⟩, fun z => ⟨_, rfl, ?_⟩⟩
  all_goals rw [bt_0, i1_t, e20] at z
  · have := hC (by omega); omega
  · have := hC (by omega); omega
  · rw [if_pos (by omega), g12]
    have w := V.worm
    have pt := V.2.1
    have mb := mul_bd (a := sA s 0 0) (b := sA s 0 1) (M := 120) (K := 100) (by omega) (by omega) (by omega) (by omega)
    have e0 : (gi h a 0).toInt = sA s 0 0 := Ha.2.1 0 (by omega)
    have e1 : (gi h a 1).toInt = sA s 0 1 := Ha.2.1 1 (by omega)
    have ep : ((gi h a 0).toInt64 * (gi h a 1).toInt64).toInt = sA s 0 0 * sA s 0 1 := by rw [lmul_t] <;> rw [i2l_t, i2l_t, e0, e1] <;> omega
    generalize (gi h a 0).toInt64 * (gi h a 1).toInt64 = pr at *
    refine (cb_tellClosest S (pr := pr) (p := v.toInt64) (q := 1) (by rw [i2l_t, ep, l1_t]; exact ⟨by omega, by omega, by omega, Or.inr rfl⟩)).mono (fun w h2 hp => ?_)
    obtain ⟨y, rfl, ey, S2, x2, n2⟩ := hp
    rw [i2l_t, ep, l1_t] at ey S2
    exact ⟨y, rfl, y, rfl, ey, S2, x2, fun _ => n2⟩
  · rw [if_neg (by omega)]; exact ⟨rfl, S, FrX.rf, fun w => False.elim (by omega)⟩))
theorem cb_differential (S : CSt h x m s) {n : Int32} {cc9 mm : Nat} (h0 : 0 ≤ cc9) (h1 : 0 ≤ mm) (hC : (2 ≤ n.toInt ∧ n.toInt ≤ 400) → 0 + shC h x ≤ cc9 ∧ 0 + shM h x ≤ mm) : S_X9_differential l D cc9 mm [.ref x, .int n] h (QI fun y h' => y.toInt = (differentialP s n.toInt).1 ∧ CSt h' x m (differentialP s n.toInt).2 ∧ FrX (inC x m) h h' ∧ ((2 ≤ n.toInt ∧ n.toInt ≤ 400) → NSh h' x)) := Sp.of rfl (Nat.le_of_ble_eq_true rfl) (fun X C _ _ hmc hms => V_X9_differential_0 C (by
  have e2 : (2 : Int32).toInt = 2 := rfl
  have e400 : (400 : Int32).toInt = 400 := rfl
  have i4 : (4 : Int32).toInt = 4 := rfl
  have V := S.2.2.2.2.1.1
  have vg := V.gn
  unfold differentialP
  refine ⟨fun q => ⟨S.1, shC h x, shM h x, ?_, ?_, (cl_fitted S).mono (fun v h2 hp => ?_)⟩, fun q => ⟨_, rfl, ?_⟩⟩
  all_goals rw [bt_0, e2, e400] at q
  · have := hC (by omega); omega
  · have := hC (by omega); omega
  · have hq : 2 ≤ n.toInt ∧ n.toInt ≤ 400 := by omega
    rw [if_pos hq]
    obtain ⟨sh, rfl, S2, e14, T2, p2, x2⟩ := hp
    obtain ⟨a, ea, Ha, ba⟩ := S2.now
    obtain ⟨n12, g12⟩ := nn_of ea
    refine ⟨sh, rfl, S2.1, n12, ?_⟩
    rw [g12]
    refine (cl_look1C S2 ea e14 T2 hq.1 hq.2).mono (fun w h8 hp => ?_)
    obtain ⟨rfl, R8, S8, p8, e8, T8, f8, x8⟩ := hp
    have dj := S8.shx e8
    obtain ⟨nn8, G8, -⟩ := T8
    refine ⟨rfl, S8.1, fun q1 => ?_, fun q1 => ?_⟩
    · cases eq : difQ (sA s) n.toInt with
      | none =>
        rw [eq] at R8
        have g1 : (gi h8 (x + 7) 1).toInt = 0 := R8
        rw [i32_eq, g1, i0_t] at q1; exact absurd rfl q1
      | some d =>
        rw [eq] at R8
        obtain ⟨r1, r2, ⟨e, e3102, r3, r4⟩, tk, sw⟩ := R8
        obtain ⟨d1, d2, d3, d4, -⟩ := difQ_b hq.2 eq
        obtain ⟨w1, w2, w3⟩ := sw.2 d3
        have keep : ∀ h', FrW (dI (x + 3)) (dL (x + 3)) h8 h' → ∀ b j, b ≠ x + 3 → gi h' b j = gi h8 b j := fun h' f b j hb => f.xi (fun q => hb q.1)
        have fc : FrW (dI (x + 3)) (dL (x + 3)) h8 (tcl h8 (x + 3)) := FrW.rf.tcl
        rw [keep _ fc (x + 7 + 1) 1 (by omega)]
        refine (cl_add (h := tcl h8 (x + 3)) (L := []) (St9_s1 S8.1) TdC.clr (by decide) (z := (fS (sA s) d.1 : Int)) (by rw [i2l_t]; exact w1)).mono (fun w h10 hp => ?_)
        obtain ⟨rfl, t10, f10⟩ := hp
        have f810 := fc.tr f10
        have F10 : St9 h10 x := St9_same S8.1 f810.2.1 f810.2.2.1 f810.2.2.2.1
        refine ⟨rfl, F10, (cl_add (St9_s1 F10) t10 (by simp) (z := sA s 0 0 / d.1) (by rw [i2l_t, keep h10 f810 _ _ (by omega)]; exact w2)).mono (fun w h12 hp => ?_)⟩
        obtain ⟨rfl, t12, f12⟩ := hp
        have f812 := f810.tr f12
        have F12 : St9 h12 x := St9_same S8.1 f812.2.1 f812.2.2.1 f812.2.2.2.1
        refine ⟨rfl, F12, (cl_add (St9_s1 F12) t12 (by simp) (z := smH (sA s) d.1 (fS (sA s) d.1) % sA s 1 (fS (sA s) d.1)) (by rw [i2l_t, keep h12 f812 _ _ (by omega)]; exact w3)).mono (fun w h14 hp => ?_)⟩
        obtain ⟨rfl, t14, f14⟩ := hp
        have f814 := f812.tr f14
        have eL : ∀ (L : List Int), ([] ++ [(fS (sA s) d.1 : Int)]) ++ [sA s 0 0 / d.1] ++ [smH (sA s) d.1 (fS (sA s) d.1) % sA s 1 (fS (sA s) d.1)] = smRow (sA s) d.1 := fun _ => rfl
        rw [eL []] at t14
        have lr : (smRow (sA s) d.1).length = 3 := rfl
        generalize hL : smRow (sA s) d.1 = L3 at *
        -- the wheels
        have key : ∀ (c : Nat) (k i : Nat) (h' : Hp) (v : Int32), 0 ≤ v.toInt → v.toInt + c = 4 → FrW (dI (x + 3)) (dL (x + 3)) h8 h' → TdC h' (x + 3) (L3 ++ (List.range (ix v)).map (fun i => tW d.2.2 i)) → Wj X k i (QI fun y h' => y.toInt = d.1 ∧ CSt h' x m (rowS s (difRow (sA s) d)) ∧ FrX (inC x m) h h' ∧ ((2 ≤ n.toInt ∧ n.toInt ≤ 400) → NSh h' x)) 103 [(0, .ref x), (2, .ref sh), (3, .int v)] [] h' := by
          intro c
          induction c with
          | zero =>
            intro k i h' v v0 hc f t
            have F' : St9 h' x := St9_same S8.1 f.2.1 f.2.2.1 f.2.2.2.1
            have ev : ix v = 4 := by unfold ix; omega
            rw [ev] at t
            refine V_X9_differential_103 C ⟨fun _ => ⟨F', (cl_add (St9_s1 F') t (by rw [List.length_append, List.length_map, List.length_range]; omega) (z := d.2.1) (by rw [i2l_t, keep h' f _ _ (by omega)]; exact r2)).mono (fun w h2 hp => ?_)⟩, fun z => ?_⟩
            · obtain ⟨rfl, t2, f2⟩ := hp
              have f82 := f.tr f2
              have er : L3 ++ (List.range 4).map (fun i => tW d.2.2 i) ++ [d.2.1] = difRow (sA s) d := by
                unfold difRow
                rw [hL, List.append_assoc]; rfl
              rw [er] at t2
              obtain ⟨S9, p9, x9⟩ := S8.row f82 t2
              exact ⟨rfl, S9.1, _, rfl, by rw [keep h2 f82 _ _ (by omega)]; exact r1, S9, (x2.tr x8).tr x9, fun _ => (NSh.of e8).fw f82⟩
            · rw [i32_le, i4] at z; omega
          | succ c ih =>
            intro k i h' v v0 hc f t
            obtain ⟨x1, x2'⟩ := ix_succ v0 (by omega)
            have hv := ix_t v0
            have F' : St9 h' x := St9_same S8.1 f.2.1 f.2.2.1 f.2.2.2.1
            have F5' : St5 h' sh := St5_same G8.1 f.2.1 f.2.2.1 f.2.2.2.1
            have ep' : gf h' (sh + 4) e = tP d.2.2 := by unfold gf; rw [keep h' f _ _ (by omega)]; exact r4
            have ee : (gi h' (x + 7) 2).toInt = e := by rw [keep h' f _ _ (by omega)]; exact r3
            refine V_X9_differential_103 C ⟨fun z => ?_, fun _ => ⟨F', F5', (cl_add (St9_s1 F') t (by rw [List.length_append, List.length_map, List.length_range]; omega) (z := tW d.2.2 (ix v)) (by rw [i2l_t]; exact sWh_t vg.1 tk ep' ee e3102 hv.symm (by omega))).mono (fun w h6 hp => ?_)⟩⟩
            · rw [i32_le, i4] at z; omega
            · obtain ⟨rfl, t6, f6⟩ := hp
              refine ⟨rfl, ih _ _ h6 _ (by omega) (by omega) (f.tr f6) ?_⟩
              rw [x1, map_succ, ← List.append_assoc]; exact t6
        refine ⟨rfl, key 4 _ _ h14 0 (by decide) (by decide) f814 ?_⟩
        rw [ix_0]
        show TdC h14 (x + 3) (L3 ++ [])
        rw [List.append_nil]; exact t14
    · cases eq : difQ (sA s) n.toInt with
      | none => exact ⟨_, rfl, rfl, S8, x2.tr x8, fun _ => NSh.of e8⟩
      | some d =>
        rw [eq] at R8
        have d1 := (difQ_b hq.2 eq).1
        have g1 : (gi h8 (x + 7) 1).toInt = d.1 := R8.1
        rw [i32_eq, g1, i0_t] at q1; omega
  · rw [if_neg (by omega)]; exact ⟨rfl, S, FrX.rf, fun w => False.elim (by omega)⟩))
theorem cb_ratios (S : CSt h x m s) {cc9 mm : Nat} (h0 : 0 ≤ cc9) (h1 : 0 ≤ mm) (hC : True → 0 + shC h x ≤ cc9 ∧ 0 + shM h x ≤ mm) : S_X9_ratios l D cc9 mm [.ref x] h (QI fun y h' => y.toInt = (ratiosP s).1 ∧ CSt h' x m (ratiosP s).2 ∧ FrX (inC x m) h h' ∧ (True → NSh h' x)) := Sp.of rfl (Nat.le_of_ble_eq_true rfl) (fun X C _ _ hmc hms => V_X9_ratios_0 C (by
  have V := S.2.2.2.2.1.1
  have vg := V.gn
  unfold ratiosP
  refine ⟨S.1, shC h x, shM h x, by have := hC trivial; omega, by have := hC trivial; omega, (cl_fitted S).mono (fun v h2 hp => ?_)⟩
  obtain ⟨sh, rfl, S2, e2, T2, p2, x2⟩ := hp
  obtain ⟨n, G, E⟩ := T2.e V
  have dj := S2.shx e2
  obtain ⟨F5, -, g0, sp⟩ := id G
  have inj := sp.2.2.2.1
  have g0' : (gi h2 sh 0).toInt = n := g0
  have RE : RtE (sA s) n (fun e => (gf h2 (sh + 2) e, gf h2 (sh + 3) e)) := by
    refine ⟨fun e e' he he' q => ?_, fun e he => ?_, fun t ht => ?_⟩
    · have q := Prod.mk.inj q
      exact inj e e' he he' q.1 q.2
    · obtain ⟨t, t1, t2, t3, -⟩ := E.2.1 e he
      exact ⟨t, tOk_all t1, by unfold rp; rw [← t2, ← t3]⟩
    · obtain ⟨t', t1, t2⟩ := rp_ok V ht
      obtain ⟨e, he, a1, a2⟩ := E.2.2 t' t1
      refine ⟨e, he, ?_⟩
      rw [← t2]
      unfold rp
      rw [← a1, ← a2]
  have bd : ∀ e, e < n → (0 < gf h2 (sh + 2) e ∧ gf h2 (sh + 2) e ≤ 10000) ∧ 0 < gf h2 (sh + 3) e ∧ gf h2 (sh + 3) e ≤ 10000 := fun e he => by
    obtain ⟨t, t1, t2, t3, -⟩ := E.2.1 e he
    have b := tU_b V.teo (tOk_all t1)
    have u0 := rdU_pos (u := tU (sA s 3) t) (w := tL (sA s 3) t) b.1.1 b.2.1
    have u1 := rdU_le (u := tU (sA s 3) t) (w := tL (sA s 3) t) (by omega)
    have l0 := rdL_pos (u := tU (sA s 3) t) (w := tL (sA s 3) t) b.2.1
    have l1 := rdL_le (u := tU (sA s 3) t) (w := tL (sA s 3) t) b.2.1
    omega
  refine ⟨sh, rfl, F5, fun q => ?_, fun q => ⟨_, rfl, ?_⟩⟩
  all_goals rw [i32_eq, g0', i0_t] at q
  · have n0 : 0 < n := by omega
    have hg : ¬ sA s 0 4 < 2 := fun z => by
      obtain ⟨t, t1, -⟩ := E.2.1 0 n0
      obtain ⟨-, o1, o2, o3, -⟩ := t1
      omega
    rw [if_neg hg]
    have ft : FrW (dI (x + 3)) (dL (x + 3)) h2 (tcl h2 (x + 3)) := FrW.rf.tcl
    have sT9 : ∀ h', FrW (dI (x + 3)) (dL (x + 3)) h2 h' → St9 h' x := fun h' f => St9_same S2.1 f.2.1 f.2.2.1 f.2.2.2.1
    have sT5 : ∀ h', FrW (dI (x + 3)) (dL (x + 3)) h2 h' → St5 h' sh := fun h' f => St5_same F5 f.2.1 f.2.2.1 f.2.2.2.1
    have gg : ∀ h', FrW (dI (x + 3)) (dL (x + 3)) h2 h' → ∀ j i, j < 6 → gf h' (sh + j) i = gf h2 (sh + j) i := fun h' f j i hj => by unfold gf; rw [f.xi (fun q => by have := q.1; omega)]
    have n1 := E.1
    have ex : ∀ h' {v : Int32}, FrW (dI (x + 3)) (dL (x + 3)) h2 h' → (v.toInt = 1 ∨ v.toInt = -1) → S_X5_extreme (lX X) (dtX X) 0 0 [.ref sh, .int v] h' (QI fun y h'' => (∃ e : Nat, y.toInt = e ∧ e < n ∧ ∀ e', e' < n → (v.toInt = 1 → gf h2 (sh + 2) e' * gf h2 (sh + 3) e ≤ gf h2 (sh + 2) e * gf h2 (sh + 3) e') ∧ (v.toInt = -1 → gf h2 (sh + 2) e * gf h2 (sh + 3) e' ≤ gf h2 (sh + 2) e' * gf h2 (sh + 3) e)) ∧ h'' = h') := fun h' v f hv => by
      refine (cl_extreme (sT5 h' f) (n := n) (by rw [show sh = sh + 0 from rfl, gg h' f 0 0 (by omega)]; exact g0) n0 n1 (fun e he => by rw [gg h' f 2 e (by omega), gg h' f 3 e (by omega)]; exact bd e he) hv).mono (fun r h'' hp => ?_)
      obtain ⟨y, rfl, ⟨e, e1, e2, e3⟩, e4⟩ := hp
      refine ⟨y, rfl, ⟨e, e1, e2, fun e' he' => ?_⟩, e4⟩
      have := e3 e' he'
      rw [gg h' f 2 e (by omega), gg h' f 3 e (by omega), gg h' f 2 e' (by omega), gg h' f 3 e' (by omega)] at this
      exact this
    have up : ∀ h' {k : Int32} {e : Nat}, FrW (dI (x + 3)) (dL (x + 3)) h2 h' → k.toInt = e → e < n → (Int32.toInt64 (sUp h' sh k)).toInt = gf h2 (sh + 2) e ∧ (Int32.toInt64 (sLo h' sh k)).toInt = gf h2 (sh + 3) e := fun h' k e f ek he => by
      rw [i2l_t, i2l_t, ← gg h' f 2 e (by omega), ← gg h' f 3 e (by omega)]
      unfold sUp sLo gf
      rw [if_pos (by omega), if_pos (by omega), ix_of ek]; exact ⟨rfl, rfl⟩
    refine ⟨S2.1, (ex _ (v := -1) ft (Or.inr rfl)).mono (fun r h8 hp => ?_)⟩
    obtain ⟨y1, rfl, ⟨a, a1, a2, a3⟩, e8⟩ := hp
    have f8 : FrW (dI (x + 3)) (dL (x + 3)) h2 h8 := by rw [e8]; exact ft
    have w8 : TdC h8 (x + 3) [] := by rw [e8]; exact TdC.clr
    refine ⟨y1, rfl, sT9 h8 f8, sT5 h8 f8, (cl_add (St9_s1 (sT9 h8 f8)) w8 (by decide) (up h8 f8 a1 a2).1).mono (fun r h12 hp => ?_)⟩
    obtain ⟨rfl, w12, g12⟩ := hp
    have f12 := f8.tr g12
    refine ⟨rfl, sT9 h12 f12, sT5 h12 f12, (cl_add (St9_s1 (sT9 h12 f12)) w12 (by simp) (up h12 f12 a1 a2).2).mono (fun r h15 hp => ?_)⟩
    obtain ⟨rfl, w15, g15⟩ := hp
    have f15 := f12.tr g15
    refine ⟨rfl, sT5 h15 f15, (ex _ (v := 1) f15 (Or.inl rfl)).mono (fun r h17 hp => ?_)⟩
    obtain ⟨y2, rfl, ⟨b, b1, b2, b3⟩, e17⟩ := hp
    rw [e17]
    refine ⟨y2, rfl, sT9 h15 f15, sT5 h15 f15, (cl_add (St9_s1 (sT9 h15 f15)) w15 (by simp) (up h15 f15 b1 b2).1).mono (fun r h21 hp => ?_)⟩
    obtain ⟨rfl, w21, g21⟩ := hp
    have f21 := f15.tr g21
    refine ⟨rfl, sT9 h21 f21, sT5 h21 f21, (cl_add (St9_s1 (sT9 h21 f21)) w21 (by simp) (up h21 f21 b1 b2).2).mono (fun r h24 hp => ?_)⟩
    obtain ⟨rfl, w24, g24⟩ := hp
    have f24 := f21.tr g24
    have RS : RtS (sA s) ((n : Int), (gf h2 (sh + 2) a, gf h2 (sh + 3) a), (gf h2 (sh + 2) b, gf h2 (sh + 3) b)) := ⟨n, _, RE, rfl, ⟨⟨a, a2, rfl⟩, fun e he => (a3 e he).2 rfl⟩, ⟨b, b2, rfl⟩, fun e he => (b3 e he).1 rfl⟩
    have eq := rtQ_eq V RS
    have er : rtRow (sA s) = [] ++ [gf h2 (sh + 2) a] ++ [gf h2 (sh + 3) a] ++ [gf h2 (sh + 2) b] ++ [gf h2 (sh + 3) b] := by unfold rtRow; rw [eq]; rfl
    rw [er, eq]
    obtain ⟨S24, p24, x24⟩ := S2.row f24 w24
    refine ⟨rfl, sT5 h24 f24, _, rfl, ?_, S24, x2.tr x24, fun _ => (NSh.of e2).fw f24⟩
    have := gg h24 f24 0 0 (by omega)
    exact this.trans g0
  · have hg : sA s 0 4 < 2 := by
      apply Classical.byContradiction
      intro z
      obtain ⟨e, he, -⟩ := E.2.2 1 (by
        refine ⟨by decide, ?_, ?_, by decide, fun z => absurd z (by decide)⟩
        · have : tA 1 = 0 := by decide
          omega
        · have : tB 1 = 1 := by decide
          omega)
      omega
    rw [if_pos hg]; exact ⟨rfl, S2, x2, fun _ => NSh.of e2⟩))
theorem cb_ways (S : CSt h x m s) {n : Int32} {cc9 mm : Nat} (h0 : 0 ≤ cc9) (h1 : 0 ≤ mm) (hC : (2 ≤ n.toInt ∧ n.toInt ≤ 400) → 0 + shC h x ≤ cc9 ∧ 0 + shM h x ≤ mm) : S_X9_ways l D cc9 mm [.ref x, .int n] h (QI fun y h' => y.toInt = (waysP s n.toInt).1 ∧ CSt h' x m (waysP s n.toInt).2 ∧ FrX (inC x m) h h' ∧ ((2 ≤ n.toInt ∧ n.toInt ≤ 400) → NSh h' x)) := Sp.of rfl (Nat.le_of_ble_eq_true rfl) (fun X C _ _ hmc hms => V_X9_ways_0 C (by
  have e2 : (2 : Int32).toInt = 2 := rfl
  have e3 : (3 : Int32).toInt = 3 := rfl
  have e400 : (400 : Int32).toInt = 400 := rfl
  unfold waysP
  refine ⟨fun q => ?_, fun q => ⟨_, rfl, ?_⟩⟩
  all_goals rw [bt_0, e2, e400] at q
  · have hq : 2 ≤ n.toInt ∧ n.toInt ≤ 400 := by omega
    rw [if_pos hq]
    have hcc := hC hq
    have w0 := hw_01 (A := sA s) (n := n.toInt) (k := 0)
    have w1 := hw_01 (A := sA s) (n := n.toInt) (k := 1)
    have w2 := hw_01 (A := sA s) (n := n.toInt) (k := 2)
    have t1 : (0 : Int32) + Int32.ofInt 1 = 1 := rfl
    have t2 : (1 : Int32) + Int32.ofInt 1 = 2 := rfl
    have t3 : (2 : Int32) + Int32.ofInt 1 = 3 := rfl
    generalize eW0 : hw (sA s) n.toInt 0 = W0 at *
    generalize eW1 : hw (sA s) n.toInt 1 = W1 at *
    generalize eW2 : hw (sA s) n.toInt 2 = W2 at *
    have fin : ∀ (k i : Nat) (h' : Hp) (v : Int32), v.toInt = W0 + 2 * W1 + 4 * W2 → CSt h' x m s → NSh h' x → FrX (inC x m) h h' → Wj X k i (QI fun y h' => y.toInt = W0 + 2 * W1 + 4 * W2 ∧ CSt h' x m (rowS s [W0 + W1 + W2]) ∧ FrX (inC x m) h h' ∧ ((2 ≤ n.toInt ∧ n.toInt ≤ 400) → NSh h' x)) 13 [(0, .ref x), (1, .int n), (2, .int v), (3, .int 3)] [] h' := by
      intro k i h' v ev S' n' x'
      refine V_X9_ways_13 C ⟨fun _ => ⟨S'.1, (cl_bitCount (v := v) (by omega) (by omega)).mono (fun w h2 hp => ?_)⟩, fun z => absurd (by rw [i32_le]; omega) z⟩
      obtain ⟨y, rfl, hy, e⟩ := hp
      rw [e]
      have fc : FrW (dI (x + 3)) (dL (x + 3)) h' (tcl h' (x + 3)) := FrW.rf.tcl
      have F2 : St9 (tcl h' (x + 3)) x := St9_same S'.1 fc.2.1 fc.2.2.1 fc.2.2.2.1
      refine ⟨y, rfl, St9_s1 F2, (cl_add (L := []) (St9_s1 F2) TdC.clr (by decide) (z := W0 + W1 + W2) (by rw [i2l_t, hy]; omega)).mono (fun w h5 hp => ?_)⟩
      obtain ⟨rfl, td, f5⟩ := hp
      obtain ⟨S5, p5, x5⟩ := S'.row (fc.tr f5) td
      exact ⟨rfl, v, rfl, ev, S5, x'.tr x5, fun _ => n'.fw (fc.tr f5)⟩
    have st2 : ∀ (k i : Nat) (h' : Hp) (v : Int32), v.toInt = W0 + 2 * W1 → k + shC h' x ≤ mcX X → i + shM h' x ≤ msX X → CSt h' x m s → FrX (inC x m) h h' → Wj X k i (QI fun y h' => y.toInt = W0 + 2 * W1 + 4 * W2 ∧ CSt h' x m (rowS s [W0 + W1 + W2]) ∧ FrX (inC x m) h h' ∧ ((2 ≤ n.toInt ∧ n.toInt ≤ 400) → NSh h' x)) 13 [(0, .ref x), (1, .int n), (2, .int v), (3, .int 2)] [] h' := by
      intro k i h' v ev hk hi S' x'
      obtain ⟨o1, o2⟩ := or_0 (v := v) (by omega) (by omega)
      refine V_X9_ways_13 C ⟨fun z => by rw [i32_le] at z; omega, fun _ => ⟨S'.1, shC h' x, shM h' x, hk, hi, (cl_hasWay2 S' hq.1 hq.2).mono (fun w h2 hp => ?_)⟩⟩
      obtain ⟨y, rfl, hy, ⟨sh2, e14, -, -⟩, S2, -, x2⟩ := hp
      rw [eW2] at hy
      rw [t3]
      refine ⟨y, rfl, fun z => ?_, fun z => ?_⟩
      all_goals rw [i32_eq, hy, i0_t] at z
      · rw [o1]; exact fin _ _ h2 v (by omega) S2 (NSh.of e14) (x'.tr x2)
      · exact fin _ _ h2 _ (by rw [o2]; omega) S2 (NSh.of e14) (x'.tr x2)
    have st1 : ∀ (k i : Nat) (h' : Hp) (v : Int32), v.toInt = W0 → k + shC h' x ≤ mcX X → i + shM h' x ≤ msX X → CSt h' x m s → FrX (inC x m) h h' → Wj X k i (QI fun y h' => y.toInt = W0 + 2 * W1 + 4 * W2 ∧ CSt h' x m (rowS s [W0 + W1 + W2]) ∧ FrX (inC x m) h h' ∧ ((2 ≤ n.toInt ∧ n.toInt ≤ 400) → NSh h' x)) 13 [(0, .ref x), (1, .int n), (2, .int v), (3, .int 1)] [] h' := by
      intro k i h' v ev hk hi S' x'
      obtain ⟨o1, -⟩ := or_0 (v := v) (by omega) (by omega)
      have o2 := or_1 (v := v) (by omega) (by omega)
      refine V_X9_ways_13 C ⟨fun z => by rw [i32_le, i1_t] at z; omega, fun _ => ⟨S'.1, 0, 0, by omega, by omega, (cl_hasWay1 S' hq.1).mono (fun w h2 hp => ?_)⟩⟩
      obtain ⟨y, rfl, hy, -, S2, -, g2, x2⟩ := hp
      obtain ⟨c2, m2⟩ := shC_same g2
      rw [eW1] at hy
      rw [t2]
      refine ⟨y, rfl, fun z => ?_, fun z => ?_⟩
      all_goals rw [i32_eq, hy, i0_t] at z
      · rw [o1]; exact st2 _ _ h2 v (by omega) (by omega) (by omega) S2 (x'.tr x2)
      · exact st2 _ _ h2 _ (by rw [o2]; omega) (by omega) (by omega) S2 (x'.tr x2)
    refine V_X9_ways_13 C ⟨fun z => by rw [i32_le, i0_t] at z; omega, fun _ => ⟨S.1, 0, 0, by omega, by omega, (cl_hasWay0 S hq.1).mono (fun w h2 hp => ?_)⟩⟩
    obtain ⟨y, rfl, hy, -, S2, -, g2, x2⟩ := hp
    obtain ⟨c2, m2⟩ := shC_same g2
    rw [eW0] at hy
    rw [t1]
    refine ⟨y, rfl, fun z => ?_, fun z => ?_⟩
    all_goals rw [i32_eq, hy, i0_t] at z
    · exact st1 _ _ h2 _ (by rw [z]; rfl) (by omega) (by omega) S2 x2
    · exact st1 _ _ h2 _ (by rw [show W0 = 1 by omega]; rfl) (by omega) (by omega) S2 x2
  · rw [if_neg (by omega)]; exact ⟨rfl, S, FrX.rf, fun w => False.elim (by omega)⟩))
theorem cb_hard (S : CSt h x m s) {lo hi : Int32} {cc9 mm : Nat} (h0 : 0 ≤ cc9) (h1 : 0 ≤ mm) (hC : (((2 ≤ lo.toInt ∧ lo.toInt ≤ 400) ∧ (2 ≤ hi.toInt ∧ hi.toInt ≤ 400) ∧ lo.toInt ≤ hi.toInt ∧ hi.toInt - lo.toInt < 60) ∧ sumN (hdH (sA s)) lo.toInt (hi.toInt - lo.toInt + 1).toNat ≠ 0) → 0 + shC h x ≤ cc9 ∧ 0 + shM h x ≤ mm) : S_X9_hard l D cc9 mm [.ref x, .int lo, .int hi] h (QI fun y h' => y.toInt = (hardP s lo.toInt hi.toInt).1 ∧ CSt h' x m (hardP s lo.toInt hi.toInt).2 ∧ FrX (inC x m) h h' ∧ ((((2 ≤ lo.toInt ∧ lo.toInt ≤ 400) ∧ (2 ≤ hi.toInt ∧ hi.toInt ≤ 400) ∧ lo.toInt ≤ hi.toInt ∧ hi.toInt - lo.toInt < 60) ∧ sumN (hdH (sA s)) lo.toInt (hi.toInt - lo.toInt + 1).toNat ≠ 0) → NSh h' x)) := Sp.of rfl (Nat.le_of_ble_eq_true rfl) (fun X C _ _ hmc hms => V_X9_hard_0 C (by
  have e2 : (2 : Int32).toInt = 2 := rfl
  have e60 : (60 : Int32).toInt = 60 := rfl
  have e400 : (400 : Int32).toInt = 400 := rfl
  have im1 : (-1 : Int32).toInt = -1 := rfl
  have b1 := b32 lo
  have b2 := b32 hi
  unfold hardP
  refine ⟨fun q => ⟨_, rfl, ?_⟩, fun q => ⟨fun q1 => ⟨_, rfl, ?_⟩, fun q1 => ⟨fun q2 => ⟨_, rfl, ?_⟩, fun q2 => ⟨fun q3 => ?_, fun q3 => ⟨_, rfl, ?_⟩⟩⟩⟩⟩
  all_goals rw [bt_0, e2, e400] at q
  · rw [if_neg (fun z => q z.1)]; exact ⟨rfl, S, FrX.rf, fun w => absurd w.1.1 q⟩
  all_goals rw [bt_0, e2, e400] at q1
  · rw [if_neg (fun z => q1 z.2.1)]; exact ⟨rfl, S, FrX.rf, fun w => absurd w.1.2.1 q1⟩
  all_goals rw [i32_lt] at q2
  · rw [if_neg (fun z => by have := z.2.2.1; omega)]; exact ⟨rfl, S, FrX.rf, fun w => False.elim (by have := w.1.2.2.1; omega)⟩
  all_goals
    have es : (hi - lo).toInt = hi.toInt - lo.toInt := isub_t (by omega) (by omega)
    rw [i32_lt, es, e60] at q3
  · have hc : (2 ≤ lo.toInt ∧ lo.toInt ≤ 400) ∧ (2 ≤ hi.toInt ∧ hi.toInt ≤ 400) ∧ lo.toInt ≤ hi.toInt ∧ hi.toInt - lo.toInt < 60 := by omega
    rw [if_pos hc]
    have hCC : sumN (hdH (sA s)) lo.toInt (hi.toInt - lo.toInt + 1).toNat ≠ 0 → 0 + shC h x ≤ cc9 ∧ 0 + shM h x ≤ mm := fun w => hC ⟨hc, w⟩
    clear hC
    generalize eN : (hi.toInt - lo.toInt + 1).toNat = N at *
    have bH : ∀ c, 0 ≤ sumN (hdH (sA s)) lo.toInt c ∧ sumN (hdH (sA s)) lo.toInt c ≤ c := sumN_b (fun n => (hd_b n).1) _
    have bC : ∀ c, 0 ≤ sumN (hdC (sA s)) lo.toInt c ∧ sumN (hdC (sA s)) lo.toInt c ≤ c := sumN_b (fun n => (hd_b n).2.1) _
    have bD : ∀ c, 0 ≤ sumN (hdD (sA s)) lo.toInt c ∧ sumN (hdD (sA s)) lo.toInt c ≤ c := sumN_b (fun n => (hd_b n).2.2.1) _
    have bN : ∀ c, 0 ≤ sumN (hdN (sA s)) lo.toInt c ∧ sumN (hdN (sA s)) lo.toInt c ≤ c := sumN_b (fun n => (hd_b n).2.2.2) _
    have key : ∀ (d c k i : Nat) (h' : Hp) (v3 v4 v5 v6 v7 v8 : Int32), c + d = N → v8.toInt = lo.toInt + c → v3.toInt = hdF (sA s) lo.toInt c → v4.toInt = sumN (hdH (sA s)) lo.toInt c → v5.toInt = sumN (hdC (sA s)) lo.toInt c → v6.toInt = sumN (hdD (sA s)) lo.toInt c → v7.toInt = sumN (hdN (sA s)) lo.toInt c → (sumN (hdH (sA s)) lo.toInt N ≠ 0 → k + shC h' x ≤ mcX X ∧ i + shM h' x ≤ msX X) → (sumN (hdH (sA s)) lo.toInt c ≠ 0 → NSh h' x) → CSt h' x m s → FrX (inC x m) h h' → Wj X k i (QI fun y h' => y.toInt = sumN (hdH (sA s)) lo.toInt N ∧ CSt h' x m (rowS s [hdF (sA s) lo.toInt N, sumN (hdC (sA s)) lo.toInt N, sumN (hdD (sA s)) lo.toInt N, sumN (hdN (sA s)) lo.toInt N]) ∧ FrX (inC x m) h h' ∧ ((((2 ≤ lo.toInt ∧ lo.toInt ≤ 400) ∧ (2 ≤ hi.toInt ∧ hi.toInt ≤ 400) ∧ lo.toInt ≤ hi.toInt ∧ hi.toInt - lo.toInt < 60) ∧ sumN (hdH (sA s)) lo.toInt N ≠ 0) → NSh h' x)) 46 [(0, .ref x), (2, .int hi), (3, .int v3), (4, .int v4), (5, .int v5), (6, .int v6), (7, .int v7), (8, .int v8)] [] h' := by
      intro d
      induction d with
      | zero =>
        intro c k i h' v3 v4 v5 v6 v7 v8 ec e8 e3 e4 e5 e6 e7 hk hns S' x'
        have : c = N := by omega
        subst this
        have fc : FrW (dI (x + 3)) (dL (x + 3)) h' (tcl h' (x + 3)) := FrW.rf.tcl
        have F1 : St9 (tcl h' (x + 3)) x := St9_same S'.1 fc.2.1 fc.2.2.1 fc.2.2.2.1
        refine V_X9_hard_46 C ⟨fun _ => ⟨S'.1, (cl_add (L := []) (St9_s1 F1) TdC.clr (by decide) (z := hdF (sA s) lo.toInt c) (by rw [i2l_t, e3])).mono (fun w h2 hp => ?_)⟩, fun z => absurd (by rw [i32_lt]; omega) z⟩
        obtain ⟨rfl, t2, f2⟩ := hp
        have f2 := fc.tr f2
        have F2 : St9 h2 x := St9_same S'.1 f2.2.1 f2.2.2.1 f2.2.2.2.1
        refine ⟨rfl, F2, (cl_add (St9_s1 F2) t2 (by simp) (z := sumN (hdC (sA s)) lo.toInt c) (by rw [i2l_t, e5])).mono (fun w h4 hp => ?_)⟩
        obtain ⟨rfl, t4, f4⟩ := hp
        have f4 := f2.tr f4
        have F4 : St9 h4 x := St9_same S'.1 f4.2.1 f4.2.2.1 f4.2.2.2.1
        refine ⟨rfl, F4, (cl_add (St9_s1 F4) t4 (by simp) (z := sumN (hdD (sA s)) lo.toInt c) (by rw [i2l_t, e6])).mono (fun w h6 hp => ?_)⟩
        obtain ⟨rfl, t6, f6⟩ := hp
        have f6 := f4.tr f6
        have F6 : St9 h6 x := St9_same S'.1 f6.2.1 f6.2.2.1 f6.2.2.2.1
        refine ⟨rfl, F6, (cl_add (St9_s1 F6) t6 (by simp) (z := sumN (hdN (sA s)) lo.toInt c) (by rw [i2l_t, e7])).mono (fun w h8 hp => ?_)⟩
        obtain ⟨rfl, t8, f8⟩ := hp
        obtain ⟨S8, -, x8⟩ := S'.row (f6.tr f8) t8
        exact ⟨rfl, v4, rfl, e4, S8, x'.tr x8, fun w => (hns w.2).fw (f6.tr f8)⟩
      | succ d ih =>
        intro c k i h' v3 v4 v5 v6 v7 v8 ec e8 e3 e4 e5 e6 e7 hk hns S' x'
        have x8 : (v8 + Int32.ofInt 1).toInt = lo.toInt + ((c + 1 : Nat) : Int) := by rw [(ix_succ (i := v8) (by omega) (by omega)).2]; omega
        have qH := bH c
        have qC := bC c
        have qD := bD c
        have qN := bN c
        have sH : sumN (hdH (sA s)) lo.toInt (c + 1) = sumN (hdH (sA s)) lo.toInt c + hdH (sA s) v8.toInt := by rw [e8]; rfl
        have sC : sumN (hdC (sA s)) lo.toInt (c + 1) = sumN (hdC (sA s)) lo.toInt c + hdC (sA s) v8.toInt := by rw [e8]; rfl
        have sD : sumN (hdD (sA s)) lo.toInt (c + 1) = sumN (hdD (sA s)) lo.toInt c + hdD (sA s) v8.toInt := by rw [e8]; rfl
        have sN : sumN (hdN (sA s)) lo.toInt (c + 1) = sumN (hdN (sA s)) lo.toInt c + hdN (sA s) v8.toInt := by rw [e8]; rfl
        have sF : hdF (sA s) lo.toInt (c + 1) = if sumN (hdH (sA s)) lo.toInt c = 0 then (if hw (sA s) v8.toInt 0 = 0 then v8.toInt else -1) else hdF (sA s) lo.toInt c := by rw [e8]; exact hdF_s
        have w1 := hw_01 (A := sA s) (n := v8.toInt) (k := 1)
        have w2 := hw_01 (A := sA s) (n := v8.toInt) (k := 2)
        refine Wj.le (fun kl il => ?_)
        refine V_X9_hard_46 C ⟨fun z => by rw [i32_lt] at z; omega, fun _ => ⟨S'.1, 0, 0, by omega, by omega, (cl_hasWay0 S' (n := v8) (by omega)).mono (fun w h2 hp => ?_)⟩⟩
        obtain ⟨y, rfl, hy, -, S2, -, g2, x2⟩ := hp
        obtain ⟨c2, m2⟩ := shC_same g2
        refine ⟨y, rfl, fun z => ?_, fun z => ?_⟩
        all_goals rw [i32_eq, hy, i0_t] at z
        · obtain ⟨n1, n2, n3, n4⟩ := hd_no z
          refine ih (c + 1) _ _ h2 v3 v4 v5 v6 v7 _ (by omega) x8 ?_ (by omega) (by omega) (by omega) (by omega) (fun w => by have := hk w; exact ⟨by omega, by omega⟩) (fun w => (hns (by omega)).same g2) S2 (x'.tr x2)
          rw [sF, e3]
          by_cases c0 : sumN (hdH (sA s)) lo.toInt c = 0
          · rw [if_pos c0, if_neg z]; exact hdF_z c0
          · rw [if_neg c0]
        · obtain ⟨n1, n2, n3, n4⟩ := hd_yes z
          have hne : sumN (hdH (sA s)) lo.toInt N ≠ 0 := by
            have := sumN_mono (f := hdH (sA s)) (fun n => (hd_b n).1.1) lo.toInt (c + 1) d
            rw [show c + 1 + d = N by omega] at this
            omega
          have hk := hk hne
          have rest : ∀ (v3' : Int32), v3'.toInt = hdF (sA s) lo.toInt (c + 1) → Wj X (k + 0) (i + 0) (QI fun y h' => y.toInt = sumN (hdH (sA s)) lo.toInt N ∧ CSt h' x m (rowS s [hdF (sA s) lo.toInt N, sumN (hdC (sA s)) lo.toInt N, sumN (hdD (sA s)) lo.toInt N, sumN (hdN (sA s)) lo.toInt N]) ∧ FrX (inC x m) h h' ∧ ((((2 ≤ lo.toInt ∧ lo.toInt ≤ 400) ∧ (2 ≤ hi.toInt ∧ hi.toInt ≤ 400) ∧ lo.toInt ≤ hi.toInt ∧ hi.toInt - lo.toInt < 60) ∧ sumN (hdH (sA s)) lo.toInt N ≠ 0) → NSh h' x)) 73 [(0, .ref x), (2, .int hi), (4, .int v4), (5, .int v5), (6, .int v6), (7, .int v7), (8, .int v8)] [.int v3'] h2 := by
            intro v3' e3'
            refine V_X9_hard_73 C ⟨S2.1, 0, 0, by omega, by omega, (cl_hasWay1 S2 (n := v8) (by omega)).mono (fun w h4 hp => ?_)⟩
            obtain ⟨y1, rfl, hy1, -, S4, -, g4, x4⟩ := hp
            obtain ⟨c4, m4⟩ := shC_same g4
            refine ⟨y1, rfl, S4.1, shC h4 x, shM h4 x, by omega, by omega, (cl_hasWay2 S4 (n := v8) (by omega) (by omega)).mono (fun w h7 hp => ?_)⟩
            obtain ⟨y2, rfl, hy2, ⟨sh, e14, -, -⟩, S7, -, x7⟩ := hp
            obtain ⟨c7, m7⟩ := shC_some e14
            have a4 := (ix_succ (i := v4) (by omega) (by omega)).2
            have kk : ∀ (a b o : Int32), a.toInt = hw (sA s) v8.toInt 1 → b.toInt = hw (sA s) v8.toInt 2 → o.toInt = hdN (sA s) v8.toInt → Wj X (k + 0 + 0 + shC h4 x) (i + 0 + 0 + shM h4 x) (QI fun y h' => y.toInt = sumN (hdH (sA s)) lo.toInt N ∧ CSt h' x m (rowS s [hdF (sA s) lo.toInt N, sumN (hdC (sA s)) lo.toInt N, sumN (hdD (sA s)) lo.toInt N, sumN (hdN (sA s)) lo.toInt N]) ∧ FrX (inC x m) h h' ∧ ((((2 ≤ lo.toInt ∧ lo.toInt ≤ 400) ∧ (2 ≤ hi.toInt ∧ hi.toInt ≤ 400) ∧ lo.toInt ≤ hi.toInt ∧ hi.toInt - lo.toInt < 60) ∧ sumN (hdH (sA s)) lo.toInt N ≠ 0) → NSh h' x)) 46 [(0, .ref x), (2, .int hi), (3, .int v3'), (4, .int (v4 + Int32.ofInt 1)), (5, .int (v5 + a)), (6, .int (v6 + b)), (7, .int (v7 + o)), (8, .int (v8 + Int32.ofInt 1))] [] h7 := by
              intro a b o ea eb eo
              have bo := (hd_b (A := sA s) v8.toInt).2.2.2
              exact ih (c + 1) _ _ h7 v3' _ _ _ _ _ (by omega) x8 e3' (by omega) (by rw [iadd_t (by omega) (by omega)]; omega) (by rw [iadd_t (by omega) (by omega)]; omega) (by rw [iadd_t (by omega) (by omega)]; omega) (fun _ => ⟨by omega, by omega⟩) (fun _ => NSh.of e14) S7 (((x'.tr x2).tr x4).tr x7)
            have k1 : ∀ (a : Int32), a.toInt = hw (sA s) v8.toInt 1 → Wj X (k + 0 + 0 + shC h4 x) (i + 0 + 0 + shM h4 x) (QI fun y h' => y.toInt = sumN (hdH (sA s)) lo.toInt N ∧ CSt h' x m (rowS s [hdF (sA s) lo.toInt N, sumN (hdC (sA s)) lo.toInt N, sumN (hdD (sA s)) lo.toInt N, sumN (hdN (sA s)) lo.toInt N]) ∧ FrX (inC x m) h h' ∧ ((((2 ≤ lo.toInt ∧ lo.toInt ≤ 400) ∧ (2 ≤ hi.toInt ∧ hi.toInt ≤ 400) ∧ lo.toInt ≤ hi.toInt ∧ hi.toInt - lo.toInt < 60) ∧ sumN (hdH (sA s)) lo.toInt N ≠ 0) → NSh h' x)) 107 [(0, .ref x), (2, .int hi), (3, .int v3'), (4, .int (v4 + Int32.ofInt 1)), (6, .int v6), (7, .int v7), (8, .int v8), (9, .int y1), (10, .int y2)] [.int a, .int v5] h7 := by
              intro a ea
              have k2 : ∀ (b : Int32), b.toInt = hw (sA s) v8.toInt 2 → Wj X (k + 0 + 0 + shC h4 x) (i + 0 + 0 + shM h4 x) (QI fun y h' => y.toInt = sumN (hdH (sA s)) lo.toInt N ∧ CSt h' x m (rowS s [hdF (sA s) lo.toInt N, sumN (hdC (sA s)) lo.toInt N, sumN (hdD (sA s)) lo.toInt N, sumN (hdN (sA s)) lo.toInt N]) ∧ FrX (inC x m) h h' ∧ ((((2 ≤ lo.toInt ∧ lo.toInt ≤ 400) ∧ (2 ≤ hi.toInt ∧ hi.toInt ≤ 400) ∧ lo.toInt ≤ hi.toInt ∧ hi.toInt - lo.toInt < 60) ∧ sumN (hdH (sA s)) lo.toInt N ≠ 0) → NSh h' x)) 122 [(0, .ref x), (2, .int hi), (3, .int v3'), (4, .int (v4 + Int32.ofInt 1)), (5, .int (v5 + a)), (7, .int v7), (8, .int v8), (9, .int y1), (10, .int y2)] [.int b, .int v6] h7 := by
                intro b eb
                refine V_X9_hard_122 C ⟨fun z1 => ?_, fun z1 => ⟨fun z2 => ?_, fun z2 => ?_⟩⟩
                all_goals rw [i32_eq, hy1, i0_t] at z1
                · exact kk a b 0 ea eb (by rw [n4, if_neg (fun q => z1 q.1)]; rfl)
                all_goals rw [i32_eq, hy2, i0_t] at z2
                · exact kk a b 1 ea eb (by rw [n4, if_pos ⟨z1, z2⟩]; rfl)
                · exact kk a b 0 ea eb (by rw [n4, if_neg (fun q => z2 q.2)]; rfl)
              refine V_X9_hard_107 C ⟨fun z2 => ?_, fun z2 => ?_⟩
              all_goals rw [i32_eq, hy2, i0_t] at z2
              · exact k2 0 (by rw [z2]; rfl)
              · exact k2 1 (by rw [i1_t]; omega)
            refine ⟨y2, rfl, fun z1 => ?_, fun z1 => ?_⟩
            all_goals rw [i32_eq, hy1, i0_t] at z1
            · exact k1 0 (by rw [z1]; rfl)
            · exact k1 1 (by rw [i1_t]; omega)
          refine ⟨fun z4 => rest v3 ?_, fun z4 => rest v8 ?_⟩
          all_goals rw [i32_eq, e4, i0_t] at z4
          · rw [sF, if_neg z4]; exact e3
          · rw [sF, if_pos z4, if_pos z]
    exact key N 0 _ _ h (-1) 0 0 0 0 lo (by omega) (by omega) rfl rfl rfl rfl rfl (fun w => by have := hCC w; exact ⟨by omega, by omega⟩) (fun w => absurd rfl w) S FrX.rf
  · rw [if_neg (fun z => q3 z.2.2.2)]; exact ⟨rfl, S, FrX.rf, fun w => absurd w.1.2.2.2 q3⟩))
end NshS
