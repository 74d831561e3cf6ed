-- reaches() of the class
theorem step_st {A : HV} (V : VA A) {s w g : Int} (hw : 0 < w) (hg : 0 < g) (e1 : g * w = (Nv A).natAbs) (e2 : ∃ z, g * s = (Nv A).sign * A 0 9 + z * (Nv A).natAbs) (hc : Int.gcd s w = 1) : w = stL A ∧ ∃ z, s = stU A + z * stL A := by
  obtain ⟨t1, t2, t3, t4, t5, G, G0, gL, gU⟩ := st_facts V
  obtain ⟨z, e2⟩ := e2
  generalize stL A = W at *
  generalize stU A = U at *
  have key : s * W = (U + z * W) * w := by
    have k1 : (g * G) * (s * W) = (g * s) * (G * W) := by grind
    have k2 : (g * G) * ((U + z * W) * w) = (G * U + z * (G * W)) * (g * w) := by grind
    refine Int.eq_of_mul_eq_mul_left (Int.ne_of_gt (Int.mul_pos hg G0)) ?_
    rw [k1, k2, e2, gL, gU, e1]
  have d1 : w ∣ W := dvd_cop hc ⟨U + z * W, by rw [key, Int.mul_comm]⟩
  have d2 : W ∣ w := dvd_cop t5 ⟨s - z * w, by grind⟩
  have ew : w = W := Int.le_antisymm (Int.le_of_dvd t1 d1) (Int.le_of_dvd hw d2)
  subst ew
  exact ⟨rfl, z, Int.eq_of_mul_eq_mul_right (Int.ne_of_gt hw) key⟩
theorem hit_iff {A : HV} {n z0 s ou ol c e : Int} {k : Nat} (hs : s = stU A + z0 * stL A) (c0 : 0 < c) (c1 : c * ol = A 5 k * A 0 11) (c2 : c * ou = A 4 k * A 0 11 - A 0 10 * A 5 k + e * (A 5 k * A 0 11)) : Hit A n k ↔ ∃ z, n * s * ol = ou * stL A + z * (stL A * ol) := by
  unfold Hit hitY
  generalize stL A = W at *
  generalize stU A = U at *
  generalize A 5 k = q at *
  generalize A 4 k = p at *
  generalize A 0 11 = P at *
  generalize A 0 10 = R at *
  have l1 : c * (n * s * ol) = n * s * (c * ol) := by grind
  constructor
  · rintro ⟨z, h⟩
    refine ⟨z - e + n * z0, Int.eq_of_mul_eq_mul_left (Int.ne_of_gt c0) ?_⟩
    have l2 : c * (ou * W + (z - e + n * z0) * (W * ol)) = (c * ou) * W + (z - e + n * z0) * W * (c * ol) := by grind
    rw [l1, l2, c1, c2, hs]
    grind
  · rintro ⟨z, h⟩
    refine ⟨z + e - n * z0, ?_⟩
    have h2 : c * (n * s * ol) = c * (ou * W + z * (W * ol)) := by rw [h]
    have l2 : c * (ou * W + z * (W * ol)) = (c * ou) * W + z * W * (c * ol) := by grind
    rw [l1, l2, c1, c2, hs] at h2
    grind
theorem hole_dvd {n s w ou ol : Int} (hg : Int.gcd ou ol = 1) (h : ∃ z, n * s * ol = ou * w + z * (w * ol)) : ol ∣ w := by
  obtain ⟨z, h⟩ := h
  exact dvd_cop hg ⟨n * s - z * w, by grind⟩
theorem hole_num {n s w u ou ol q : Int} (o0 : 0 < ol) (hu : ∃ z, s * u = 1 + z * w) (hw : w = ol * q) : (∃ z, n * s * ol = ou * w + z * (w * ol)) ↔ ∃ z, n = ou * q * u + z * w := by
  obtain ⟨y, hu⟩ := hu
  constructor
  · rintro ⟨z, h⟩
    have h1 : n * s = ou * q + z * w := by
      refine Int.eq_of_mul_eq_mul_right (Int.ne_of_gt o0) ?_
      rw [h]
      have : ou * w = ou * (ol * q) := by rw [hw]
      rw [this]; grind
    refine ⟨z * u - n * y, ?_⟩
    have h2 : n * s * u = (ou * q + z * w) * u := by rw [h1]
    have h3 : n * s * u = n * (s * u) := by grind
    rw [h3, hu] at h2
    grind
  · rintro ⟨z, h⟩
    refine ⟨ou * q * y + z * s, ?_⟩
    have h1 : n * s = ou * q * (s * u) + z * w * s := by rw [h]; grind
    rw [h1, hu]
    have : ou * w = ou * (ol * q) := by rw [hw]
    rw [this]; grind
theorem hole_mod {X w n : Int} (h : ∃ z, n = X + z * w) : n % w = X % w := by
  obtain ⟨z, h⟩ := h
  rw [h, Int.mul_comm z w, Int.add_mul_emod_self_left]
section WayM
variable {X : Ctx} {l : Launch} {D : Dt} {h : Hp} {x m a : Nat} {Q : Pq} {A : HV} {s : Sv}
theorem cl_wayToMark (H : HdR h a A) (V : VA A) {b : Nat} (hb : kd h b = 3) {k : Int32} (h0 : 0 ≤ k.toInt) (h1 : k.toInt < A 0 7) : S_X4_wayToMark l D 0 0 [.ref a, .int k, .ref b] h (QV fun h' => (∃ ou ol c e : Int, (gl h' b 0).toInt = ou ∧ (gl h' b 1).toInt = ol ∧ 0 ≤ ou ∧ ou < ol ∧ Int.gcd ou ol = 1 ∧ 0 < c ∧ c * ol = A 5 (ix k) * A 0 11 ∧ c * ou = A 4 (ix k) * A 0 11 - A 0 10 * A 5 (ix k) + e * (A 5 (ix k) * A 0 11)) ∧ FrW (fun _ _ => False) (fun c _ => c = b) h h') := Sp.of rfl (Nat.le_of_ble_eq_true rfl) (fun X C _ _ _ _ => V_X4_wayToMark_0 C (by
  have hk := ix_t h0
  obtain ⟨m1, m2⟩ := hMu_t H V (k := k) h0 h1
  have mk := V.mk (k := ix k) (by omega)
  have pl := V.place
  have p10 : (gl h (a + 2) 0).toInt = A 0 10 := H.2.2.2.2.2.1
  have p11 : (gl h (a + 2) 1).toInt = A 0 11 := H.2.2.2.2.2.2.1
  have c1 := mul_bd (a := A 4 (ix k)) (b := A 0 11) (M := 1000000000) (K := 1000000000) (by omega) (by omega) (by omega) (by omega)
  have c2 := mul_bd (a := A 0 10) (b := A 5 (ix k)) (M := 1000000000) (K := 1000000000) (by omega) (by omega) (by omega) (by omega)
  have c3 := mul_bd (a := A 5 (ix k)) (b := A 0 11) (M := 1000000000) (K := 1000000000) (by omega) (by omega) (by omega) (by omega)
  have d1 : A 4 (ix k) * A 0 11 < A 5 (ix k) * A 0 11 := Int.mul_lt_mul_of_pos_right mk.2.1 (by omega)
  have d2 : A 0 10 * A 5 (ix k) < A 0 11 * A 5 (ix k) := Int.mul_lt_mul_of_pos_right pl.2.1 (by omega)
  have d3 : A 0 11 * A 5 (ix k) = A 5 (ix k) * A 0 11 := Int.mul_comm _ _
  have t1 : (hMu h a k * gl h (a + 2) 1).toInt = A 4 (ix k) * A 0 11 := by rw [lmul_t] <;> rw [m1, p11] <;> omega
  have t2 : (gl h (a + 2) 0 * hMl h a k).toInt = A 0 10 * A 5 (ix k) := by rw [lmul_t] <;> rw [p10, m2] <;> omega
  have t3 : (hMl h a k * gl h (a + 2) 1).toInt = A 5 (ix k) * A 0 11 := by rw [lmul_t] <;> rw [m2, p11] <;> omega
  have t4 : (hMu h a k * gl h (a + 2) 1 - gl h (a + 2) 0 * hMl h a k).toInt = A 4 (ix k) * A 0 11 - A 0 10 * A 5 (ix k) := by rw [lsub_t] <;> rw [t1, t2] <;> omega
  generalize hMu h a k * gl h (a + 2) 1 - gl h (a + 2) 0 * hMl h a k = U at *
  generalize hMl h a k * gl h (a + 2) 1 = L at *
  have out : ∀ (U' : Int64) (e : Int), U'.toInt = A 4 (ix k) * A 0 11 - A 0 10 * A 5 (ix k) + e * (A 5 (ix k) * A 0 11) → 0 ≤ U'.toInt → U'.toInt < L.toInt → (∃ ou ol c e : Int, (gl (fpt h b U' L) b 0).toInt = ou ∧ (gl (fpt h b U' L) b 1).toInt = ol ∧ 0 ≤ ou ∧ ou < ol ∧ Int.gcd ou ol = 1 ∧ 0 < c ∧ c * ol = A 5 (ix k) * A 0 11 ∧ c * ou = A 4 (ix k) * A 0 11 - A 0 10 * A 5 (ix k) + e * (A 5 (ix k) * A 0 11)) ∧ FrW (fun _ _ => False) (fun c _ => c = b) h (fpt h b U' L) := by
    intro U' e e1 u0 u1
    have Lp : 0 < L.toInt := by omega
    obtain ⟨g1, g2⟩ := gl_fpt0 h b U' L
    obtain ⟨r1, r2⟩ := fr_x (u := U') (w := L) Lp
    obtain ⟨q1, q2⟩ := rd_mul (u := U'.toInt) Lp
    have gp := gcd_pos' (u := U'.toInt) Lp
    refine ⟨⟨rdU U'.toInt L.toInt, rdL U'.toInt L.toInt, (Int.gcd U'.toInt L.toInt : Int), e, by rw [g1]; exact r1, by rw [g2]; exact r2, rdU_nn u0 Lp, rdU_lt u1 Lp, rd_cop Lp, by omega, by rw [q2, t3], by rw [q1, e1]⟩, FrW.sl (P := fun _ _ => False) (R := fun c _ => c = b) (FrW.sl (P := fun _ _ => False) (R := fun c _ => c = b) FrW.rf rfl) rfl⟩
  refine ⟨H.1, fun q => ⟨hb, by omega, by omega, rfl, out U 0 (by rw [t4]; omega) ?_ (by omega)⟩, fun q => ?_⟩
  · rw [i64_le, l0_t] at q; exact q
  · rw [i64_le, l0_t, t4] at q
    have t5 : (U + L).toInt = A 4 (ix k) * A 0 11 - A 0 10 * A 5 (ix k) + A 5 (ix k) * A 0 11 := by rw [ladd_t] <;> rw [t4, t3] <;> omega
    exact ⟨hb, by omega, by omega, rfl, out (U + L) 1 (by rw [t5]; omega) (by omega) (by omega)⟩))
/-- the best up to mark i -/
def RcB (A : HV) (i : Nat) (best : Int) (which : Int32) : Prop := 1 ≤ best ∧ best ≤ 20001 ∧ (∀ n k : Nat, 1 ≤ n → (n : Int) < best → k < i → ¬ Hit A n k) ∧ ((which = -1 ∧ best = 20001) ∨ ∃ kk : Nat, kk < i ∧ which.toInt = kk ∧ best ≤ 20000 ∧ Hit A best kk)
theorem i20k_t : (20001 : Int64).toInt = 20001 := rfl
theorem rc_loop (C : C_X9_reaches X) (S : CSt h x m s) {v1 v3 : Int64} {sp z0 : Int} (e1 : v1.toInt = stL (sA s)) (u0 : 0 ≤ v3.toInt) (u1 : v3.toInt < v1.toInt) (hs : sp = stU (sA s) + z0 * stL (sA s)) (hu : ∃ z, sp * v3.toInt = 1 + z * v1.toInt)
    (hend : ∀ (h' : Hp) (v5 : Int64) (v7 v8 : Int32), FrW (fun _ _ => False) (fun c _ => c = x + 14) h h' → v8.toInt = sA s 0 7 → RcB (sA s) (sA s 0 7).toNat v5.toInt v7 → Wj X 0 0 Q 42 [(0, .ref x), (1, .long v1), (3, .long v3), (5, .long v5), (7, .int v7), (8, .int v8)] [] h') (d : Nat) : ∀ (h' : Hp) (v5 : Int64) (v7 v8 : Int32), 0 ≤ v8.toInt → v8.toInt + d = sA s 0 7 → FrW (fun _ _ => False) (fun c _ => c = x + 14) h h' → RcB (sA s) (ix v8) v5.toInt v7 → Wj X 0 0 Q 42 [(0, .ref x), (1, .long v1), (3, .long v3), (5, .long v5), (7, .int v7), (8, .int v8)] [] h' := by
  have V := S.2.2.2.2.1.1
  have vm := V.marks
  obtain ⟨w0, w1, -⟩ := st_facts V
  induction d with
  | zero =>
    intro h' v5 v7 v8 h0 hd f R
    refine hend h' v5 v7 v8 f (by omega) ?_
    have : ix v8 = (sA s 0 7).toNat := by unfold ix; omega
    rw [← this]; exact R
  | succ d ih =>
    intro h' v5 v7 v8 h0 hd f R
    obtain ⟨S', p', x'⟩ := S.scr f (fun _ _ q => absurd q id) (fun b j (q : b = x + 14) => by omega)
    obtain ⟨a, ea, Ha, ba⟩ := S'.now
    obtain ⟨n12, g12⟩ := nn_of ea
    have e7 := Ha.2.1 7 (by omega)
    obtain ⟨x1, x2⟩ := ix_succ h0 (by omega)
    have hk := ix_t h0
    refine V_X9_reaches_42 C ⟨S'.1, n12, by rw [g12]; exact Ha.1, fun q => ?_, fun _ => ?_⟩
    · rw [g12, i32_le, e7] at q; omega
    · rw [g12]
      refine (cl_wayToMark (b := x + 14) Ha V (St9_k7 S'.1) (k := v8) h0 (by omega)).mono (fun w h6 hp => ?_)
      obtain ⟨rfl, ⟨ou, ol, c, e, g1, g2, o0, o1, oc, c0, c1, c2⟩, f6⟩ := hp
      have f06 := f.tr f6
      obtain ⟨S6, p6, x6⟩ := S.scr f06 (fun _ _ q => absurd q id) (fun b j (q : b = x + 14) => by omega)
      have hit : ∀ n : Int, Hit (sA s) n (ix v8) ↔ ∃ z, n * sp * ol = ou * stL (sA s) + z * (stL (sA s) * ol) := fun n => hit_iff hs c0 c1 c2
      obtain ⟨r1, r2, r3, r4⟩ := id R
      have skip : (∀ n : Nat, 1 ≤ n → (n : Int) < v5.toInt → ¬ Hit (sA s) n (ix v8)) → Wj X 0 0 Q 42 [(0, .ref x), (1, .long v1), (3, .long v3), (5, .long v5), (7, .int v7), (8, .int (v8 + Int32.ofInt 1))] [] h6 := by
        intro hn
        refine ih h6 v5 v7 _ (by omega) (by omega) f06 ?_
        rw [x1]
        refine ⟨r1, r2, fun n k hn1 hn2 hk2 => ?_, ?_⟩
        · by_cases z : k = ix v8
          · rw [z]; exact hn n hn1 hn2
          · exact r3 n k hn1 hn2 (by omega)
        · rcases r4 with z | ⟨kk, z1, z2⟩
          · exact Or.inl z
          · exact Or.inr ⟨kk, by omega, z2⟩
      refine ⟨rfl, S6.1, fun q => ?_, fun _ => ⟨fun q => ?_, fun _ => ⟨by rw [i64_eq, g2, l0_t]; omega, fun q => skip (fun n n1 n2 y => q ?_), fun q => ⟨by rw [i64_eq, l0_t]; omega, fun z10 ez => ?_⟩⟩⟩⟩
      · rw [i64_le, g2, l0_t] at q; omega
      · rw [i64_le, l0_t] at q; omega
      · have := hole_dvd oc ((hit n).mp y)
        rw [i64_eq, lrem_p (by omega), g2, l0_t, e1]
        exact Int.emod_eq_zero_of_dvd this
      · rw [i64_eq, lrem_p (by omega), g2, l0_t, e1] at q
        obtain ⟨t, ht⟩ := Int.dvd_of_emod_eq_zero q
        have t0 : 0 < t := by
          rcases Int.lt_or_le 0 t with y | y
          · exact y
          · have := Int.mul_nonpos_of_nonneg_of_nonpos (show 0 ≤ ol by omega) y; omega
        have ed : (v1 / gl h6 (x + 14) 1).toInt = t := by
          rw [ldiv_p (by omega) (by omega), g2, e1, ht, Int.mul_ediv_cancel_left _ (by omega)]
        have b1 : ou * t < ol * t := Int.mul_lt_mul_of_pos_right o1 t0
        have b0 : 0 ≤ ou * t := Int.mul_nonneg o0 (by omega)
        have k1 : (gl h6 (x + 14) 0 * (v1 / gl h6 (x + 14) 1)).toInt = ou * t := by rw [lmul_t] <;> rw [g1, ed] <;> omega
        have b2 := mul_bd (a := ou * t) (b := v3.toInt) (M := 84700000) (K := 84700000) b0 (by omega) u0 (by omega)
        have k2 : (gl h6 (x + 14) 0 * (v1 / gl h6 (x + 14) 1) * v3).toInt = ou * t * v3.toInt := by rw [lmul_t] <;> rw [k1] <;> omega
        have k3 : z10.toInt = (ou * t * v3.toInt) % stL (sA s) := by rw [ez, lrem_p (by rw [k2]; omega), k2, e1]
        have n0 := Int.emod_nonneg (ou * t * v3.toInt) (Int.ne_of_gt w0)
        have n1 := Int.emod_lt_of_pos (ou * t * v3.toInt) w0
        have hu' : ∃ z, sp * v3.toInt = 1 + z * stL (sA s) := by rw [← e1]; exact hu
        have num : ∀ n : Int, Hit (sA s) n (ix v8) ↔ ∃ z, n = ou * t * v3.toInt + z * stL (sA s) := fun n => (hit n).trans (hole_num (by omega) hu' ht)
        have em := Int.emod_add_mul_ediv (ou * t * v3.toInt) (stL (sA s))
        generalize ou * t * v3.toInt = Xn at *
        generalize stL (sA s) = W at *
        have go : ∀ s0 : Int64, 1 ≤ s0.toInt → s0.toInt ≤ W → (∃ z, s0.toInt = Xn + z * W) → Wj X 0 0 Q 135 [(0, .ref x), (1, .long v1), (3, .long v3), (5, .long v5), (7, .int v7), (8, .int v8)] [.long s0] h6 := by
          intro s0 y1 y2 y3
          have least : ∀ n : Nat, 1 ≤ n → (n : Int) < s0.toInt → ¬ Hit (sA s) n (ix v8) := by
            intro n n1 n2 y
            have q1 := hole_mod ((num n).mp y)
            have q2 := hole_mod y3
            rw [← q2, Int.emod_eq_of_lt (by omega) (by omega)] at q1
            by_cases y4 : s0.toInt = W
            · rw [y4, Int.emod_self] at q1; omega
            · rw [Int.emod_eq_of_lt (by omega) (by omega)] at q1; omega
          refine V_X9_reaches_135 C ⟨fun q => skip (fun n n1 n2 => least n n1 ?_), fun q => ?_⟩
          · rw [i64_le] at q; omega
          · rw [i64_le] at q
            refine ih h6 s0 v8 _ (by omega) (by omega) f06 ?_
            rw [x1]
            refine ⟨y1, by omega, fun n k hn1 hn2 hk2 => ?_, Or.inr ⟨ix v8, by omega, hk.symm, by omega, (num _).mpr y3⟩⟩
            by_cases z : k = ix v8
            · rw [z]; exact least n hn1 hn2
            · exact r3 n k hn1 (by omega) (by omega)
        refine ⟨fun q1 => go z10 ?_ (by omega) ⟨-(Xn / W), ?_⟩, fun q1 => go v1 (by omega) (by omega) ⟨1 - Xn / W, ?_⟩⟩
        all_goals rw [i64_eq, l0_t, k3] at q1
        · omega
        · rw [k3, Int.neg_mul, Int.mul_comm (Xn / W)]; omega
        · rw [e1, Int.sub_mul, Int.mul_comm (Xn / W)]; omega
theorem ca_reaches (S : CSt h x m s) : S_X9_reaches l D 0 0 [.ref x] h (QI fun y h' => y.toInt = (reachesP s).1 ∧ CSt h' x m (reachesP s).2 ∧ FrX (inC x m) h h') := Sp.of rfl (Nat.le_of_ble_eq_true rfl) (fun X C _ _ _ _ => V_X9_reaches_0 C (by
  obtain ⟨a, ea, Ha, ba⟩ := S.now
  obtain ⟨n12, g12⟩ := nn_of ea
  have V := S.2.2.2.2.1.1
  have vm := V.marks
  obtain ⟨n1, n2, n3⟩ := abN_t Ha V
  rw [g12]
  obtain ⟨sp, w, g, e1, e2, s0, sw, w0, w1, g0, gN, gz, gc⟩ := step_t Ha V (b := x + 13) rfl
  obtain ⟨ew, z0, es⟩ := step_st V w0 g0 gN gz gc
  refine ⟨S.1, n12, Ha.1, n2, ?_⟩
  generalize hh : fpt h (x + 13) (fmL (hSg h a) (abL (hN h a))) (abL (hN h a)) = h1 at *
  have f1 : FrW (fun _ _ => False) (fun c _ => c = x + 13) h h1 := by
    rw [← hh]
    exact FrW.sl (P := fun _ _ => False) (R := fun c _ => c = x + 13) (FrW.sl (P := fun _ _ => False) (R := fun c _ => c = x + 13) FrW.rf rfl) rfl
  obtain ⟨S1, p1, x1⟩ := S.scr f1 (fun _ _ q => absurd q id) (fun b j (q : b = x + 13) => by omega)
  intro z5 e5
  have t5 : z5.toInt = w := by rw [e5]; exact e2
  refine (cl_inverse (a := gl h1 (x + 13) 0) (w := z5) (by omega) (by omega) (by omega) (by rw [e1, t5]; exact gc)).mono (fun v h6 hp => ?_)
  obtain ⟨y, rfl, ⟨y0, y1, y2⟩, eh⟩ := hp
  subst eh
  refine ⟨y, rfl, rc_loop C S1 (sp := sp) (z0 := z0) (by rw [t5]; exact ew) y0 y1 es (by rw [e1] at y2; exact y2) (fun h' v5 v7 v8 f' e8 R => ?_) (sA s 0 7).toNat _ 20001 (-1) 0 (by rw [i0_t]; omega) (by rw [i0_t]; omega) FrW.rf ?_⟩
  · obtain ⟨S', p', x'⟩ := S1.scr f' (fun _ _ q => absurd q id) (fun b j (q : b = x + 14) => by omega)
    obtain ⟨a', ea', Ha', ba'⟩ := S'.now
    obtain ⟨n12', g12'⟩ := nn_of ea'
    have e7 := Ha'.2.1 7 (by omega)
    obtain ⟨r1, r2, r3, r4⟩ := R
    refine V_X9_reaches_42 C ⟨S'.1, n12', by rw [g12']; exact Ha'.1, fun _ => ⟨fun q => ?_, fun q => ⟨_, rfl, ?_⟩⟩, fun q => ?_⟩
    · rcases r4 with ⟨z, -⟩ | ⟨kk, k1, k2, k3, k4⟩
      · exact absurd z q
      · have ep : ((v5.toInt.toNat : Nat) : Int) = v5.toInt := Int.toNat_of_nonneg (by omega)
        have ok : RcOk (sA s) (v5.toInt.toNat, kk) := ⟨by dsimp only; omega, by dsimp only; omega, by dsimp only; omega, by dsimp only; rw [ep]; exact k4, fun n k q1 q2 q3 => r3 n k q1 (by dsimp only at q2; omega) (by omega)⟩
        have eq := rcQ_is V ok
        refine (cl_add (h := tcl h' (x + 3)) (L := []) (St9_s1 S'.1) TdC.clr (by decide) (z := (kk : Int)) (by rw [i2l_t]; exact k2)).mono (fun w h4 hp => ?_)
        obtain ⟨rfl, t4, f4⟩ := hp
        obtain ⟨S4, p4, x4⟩ := S'.row ((FrW.rf.tcl).tr f4) t4
        unfold reachesP
        rw [eq]
        refine ⟨rfl, _, rfl, ?_, S4, (x1.tr x').tr x4⟩
        dsimp only
        rw [l2i_t (by omega) (by omega), ep]
    · rcases r4 with ⟨-, z⟩ | ⟨kk, k1, k2, k3, k4⟩
      · have eq := rcQ_no (A := sA s) (fun n k q1 q2 q3 => r3 n k q1 (by omega) (by omega))
        unfold reachesP
        rw [eq]
        exact ⟨rfl, S', x1.tr x'⟩
      · rw [i32_eq, im1_t] at q; omega
    · rw [g12', i32_le, e7] at q; omega
  · rw [ix_0, i20k_t]
    exact ⟨by omega, by omega, fun n k _ _ q => by omega, Or.inl ⟨rfl, rfl⟩⟩))
end WayM
