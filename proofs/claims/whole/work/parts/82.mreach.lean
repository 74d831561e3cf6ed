-- reaches() of the reference
theorem MSt.onA {h2 h4 : Hp} {m : Nat} {s : Sv} (S : MSt h2 m s) {A' : HV} (f : FrA m h2 h4) (H4 : MdR h4 m A') (V' : VA A') : MSt h4 m (A', sN s, sB s, sK s, sR s, sT s) ∧ FrO (inM m) h2 h4 := by
  refine ⟨⟨S.1.now f (fun j hj q => ?_) (fun q => ?_) (fun j q => ?_) (fun j hj q => ?_) H4.2 V', S.2.1.fr f (fun q => ?_) (fun j q => ?_), S.2.2.fr f (fun q => ?_) (fun j q => ?_)⟩, f.toM (fun b j q => ?_) (fun b j q => ?_)⟩
  all_goals first | (unfold aI at q; omega) | (unfold aL at q; omega) | (unfold aI at q; unfold inM; omega) | (unfold aL at q; unfold inM; omega)
def whP (A : HV) : Int := rdU (A 0 11) (stL A) * stL A
def aimP (A : HV) (k : Nat) : Int := if whP A % A 5 k = 0 then A 4 k * (whP A / A 5 k) else -1
def yhP (A : HV) (n : Int) : Int := A 0 10 * rdL (A 0 11) (stL A) + n * stU A * rdU (A 0 11) (stL A)
theorem wh_facts {A : HV} (V : VA A) : 0 < whP A ∧ whP A ≤ 84700000000000000 ∧ (∃ G : Int, 0 < G ∧ A 0 11 * stL A = G * whP A ∧ ∀ n, hitY A n = G * yhP A n) ∧ 0 < rdU (A 0 11) (stL A) ∧ rdU (A 0 11) (stL A) ≤ 1000000000 ∧ 0 < rdL (A 0 11) (stL A) ∧ rdL (A 0 11) (stL A) ≤ 84700000 ∧ 0 ≤ A 0 10 * rdL (A 0 11) (stL A) ∧ A 0 10 * rdL (A 0 11) (stL A) < whP A := by
  obtain ⟨w0, w1, -⟩ := st_facts V
  have pl := V.place
  obtain ⟨g1, g2⟩ := rd_mul (u := A 0 11) w0
  have gp := gcd_pos' (u := A 0 11) w0
  have l0 := rdL_pos (u := A 0 11) w0
  have l1 := rdL_le (u := A 0 11) w0
  have u1 := rdU_le (u := A 0 11) (w := stL A) (by omega)
  have u0 := rdU_nn (u := A 0 11) (w := stL A) (by omega) w0
  unfold whP hitY yhP
  generalize rdU (A 0 11) (stL A) = p1 at *
  generalize rdL (A 0 11) (stL A) = q1 at *
  generalize stL A = W at *
  have gp' : (0 : Int) < (Int.gcd (A 0 11) W : Int) := by omega
  generalize (Int.gcd (A 0 11) W : Int) = G at *
  have p0 : 0 < p1 := by
    rcases Int.lt_or_le 0 p1 with z | z
    · exact z
    · have : p1 = 0 := by omega
      rw [this, Int.mul_zero] at g1; omega
  have b := mul_bd (a := p1) (b := W) (M := 1000000000) (K := 84700000) (by omega) (by omega) (by omega) w1
  have m1 := Int.mul_pos p0 w0
  have m2 : A 0 10 * q1 < A 0 11 * q1 := Int.mul_lt_mul_of_pos_right pl.2.1 l0
  have m3 : A 0 11 * q1 = p1 * W := by rw [← g1, ← g2]; grind
  refine ⟨m1, by omega, ⟨G, gp', ?_, fun n => ?_⟩, p0, by omega, l0, by omega, Int.mul_nonneg pl.1 (by omega), by omega⟩
  · rw [← g1]; grind
  · rw [← g1, ← g2]
    clear g1 g2
    grind
theorem aim_hit {A : HV} (V : VA A) {n z here : Int} {k : Nat} (hk : (k : Int) < A 0 7) (h0 : 0 ≤ here) (h1 : here < whP A) (e : here = yhP A n + z * whP A) : here = aimP A k ↔ Hit A n k := by
  obtain ⟨w0, w1, ⟨G, G0, eM, eY⟩, -⟩ := wh_facts V
  have mk := V.mk hk
  have red : Hit A n k ↔ ∃ z, yhP A n * A 5 k = whP A * (A 4 k + z * A 5 k) := by
    unfold Hit
    rw [eM, eY]
    constructor
    · rintro ⟨y, hy⟩
      refine ⟨y, Int.eq_of_mul_eq_mul_left (Int.ne_of_gt G0) ?_⟩
      rw [← Int.mul_assoc, ← Int.mul_assoc]; exact hy
    · rintro ⟨y, hy⟩
      refine ⟨y, ?_⟩
      rw [Int.mul_assoc, Int.mul_assoc, hy]
  rw [red]
  unfold aimP
  generalize yhP A n = Y at *
  generalize whP A = M at *
  generalize A 4 k = p at *
  generalize A 5 k = q at *
  constructor
  · intro z1
    by_cases c : M % q = 0
    · rw [if_pos c] at z1
      obtain ⟨t, ht⟩ := Int.dvd_of_emod_eq_zero c
      have et : M / q = t := by rw [ht, Int.mul_ediv_cancel_left _ (by omega)]
      rw [et] at z1
      refine ⟨-z, ?_⟩
      have : Y = p * t - z * M := by omega
      rw [this, ht]; grind
    · rw [if_neg c] at z1; omega
  · rintro ⟨y, hy⟩
    have d : q ∣ M := dvd_cop mk.2.2.2 ⟨Y - M * y, by grind⟩
    rw [if_pos (Int.emod_eq_zero_of_dvd d)]
    obtain ⟨t, ht⟩ := d
    have et : M / q = t := by rw [ht, Int.mul_ediv_cancel_left _ (by omega)]
    rw [et]
    have t0 : 0 < t := by
      rcases Int.lt_or_le 0 t with x | x
      · exact x
      · have := Int.mul_nonpos_of_nonneg_of_nonpos (show 0 ≤ q by omega) x; omega
    have eY2 : Y = p * t + y * M := by
      refine Int.eq_of_mul_eq_mul_right (show q ≠ 0 by omega) ?_
      rw [hy]
      have : (p * t + y * M) * q = p * (q * t) + y * M * q := by grind
      rw [this, ← ht]; grind
    have b1 : p * t < q * t := Int.mul_lt_mul_of_pos_right mk.2.1 t0
    have b0 : 0 ≤ p * t := Int.mul_nonneg mk.1 (by omega)
    have q1 : here % M = (p * t) % M := hole_mod ⟨y + z, by rw [e, eY2]; grind⟩
    rw [Int.emod_eq_of_lt h0 h1, Int.emod_eq_of_lt b0 (by omega)] at q1
    exact q1
section RcM
variable {X : Ctx} {l : Launch} {D : Dt} {h : Hp} {m : Nat} {Q : Pq} {A : HV} {s : Sv}
theorem i20000_t : (20000 : Int32).toInt = 20000 := rfl
/-- the marks gone through at one place -/
theorem mrc_in (C : C_X10_reaches X) (S : MSt h m s) (ha : ∀ j : Nat, (j : Int) < sA s 0 7 → (gl h (m + 11) j).toInt = aimP (sA s) j) {v3 v5 v7 : Int64} {v9 : Int32} {n : Nat} {z : Int} (e9 : v9.toInt = n) (n1 : 1 ≤ n) (n2 : n ≤ 20000) (h0 : 0 ≤ v5.toInt) (h1 : v5.toInt < whP (sA s)) (e5 : v5.toInt = yhP (sA s) n + z * whP (sA s)) (old : ∀ n' k : Nat, 1 ≤ n' → n' < n → (k : Int) < sA s 0 7 → ¬ Hit (sA s) n' k)
    (hq : ∀ (y : Int32) (h' : Hp), y.toInt = (reachesP s).1 → MSt h' m (reachesP s).2 → FrO (inM m) h h' → Q (some (.int y)) h')
    (nx : (∀ k : Nat, (k : Int) < sA s 0 7 → ¬ Hit (sA s) n k) → Wj X 0 0 Q 141 [(0, .ref m), (3, .long v3), (5, .long v5), (7, .long v7), (9, .int (v9 + Int32.ofInt 1))] [] h) (d : Nat) : ∀ v10 : Int32, 0 ≤ v10.toInt → v10.toInt + d = sA s 0 7 → (∀ k : Nat, k < ix v10 → ¬ Hit (sA s) n k) → Wj X 0 0 Q 165 [(0, .ref m), (3, .long v3), (5, .long v5), (7, .long v7), (9, .int v9), (10, .int v10)] [] h := by
  have V := S.1.va
  have vm := V.marks
  have e60 := S.1.md.marks
  induction d with
  | zero =>
    intro v10 i0 hd g
    refine V_X10_reaches_165 C ⟨S.1.1, fun _ => nx (fun k hk => g k (by unfold ix; omega)), fun q => ?_⟩
    rw [ix_60, i32_le, e60] at q; omega
  | succ d ih =>
    intro v10 i0 hd g
    obtain ⟨x1, x2⟩ := ix_succ i0 (by omega)
    have hk := ix_t i0
    have ah := aim_hit V (k := ix v10) (by omega) h0 h1 e5
    have aj := ha (ix v10) (by omega)
    refine V_X10_reaches_165 C ⟨S.1.1, fun q => ?_, fun _ => ⟨by unfold inb; omega, fun q => ih _ (by omega) (by omega) (fun k hk2 => ?_), fun q => ?_⟩⟩
    · rw [ix_60, i32_le, e60] at q; omega
    · rw [i64_eq, aj] at q
      by_cases y : k = ix v10
      · rw [y]; exact fun w => q (ah.mpr w).symm
      · exact g k (by omega)
    · rw [i64_eq, aj] at q
      have ok : RcOk (sA s) (n, ix v10) := ⟨n1, n2, by dsimp only; omega, ah.mp q.symm, old⟩
      have eq := rcQ_is V ok
      refine (ma_enters (h := si h m 1 0) (L := []) S.1.1 (RwM.clr 0 rfl) (by decide) (z := ((ix v10 : Nat) : Int)) (by rw [i2l_t]; exact hk.symm)).mono (fun w h5 hp => ?_)
      obtain ⟨rfl, w5, f5⟩ := hp
      obtain ⟨S5, g5⟩ := S.row ((FrW.rf.si (v := 0) ⟨rfl, rfl⟩).tr f5) w5
      refine ⟨rfl, hq _ _ ?_ ?_ g5⟩
      · unfold reachesP; rw [eq]; exact e9
      · unfold reachesP; rw [eq]; exact S5
theorem mrc_out (C : C_X10_reaches X) (S : MSt h m s) (ha : ∀ j : Nat, (j : Int) < sA s 0 7 → (gl h (m + 11) j).toInt = aimP (sA s) j) {v3 v7 : Int64} (e3 : v3.toInt = whP (sA s)) (e7 : v7.toInt = (stU (sA s)).tmod (stL (sA s)) * rdU (sA s 0 11) (stL (sA s)))
    (hq : ∀ (y : Int32) (h' : Hp), y.toInt = (reachesP s).1 → MSt h' m (reachesP s).2 → FrO (inM m) h h' → Q (some (.int y)) h') (d : Nat) : ∀ (v5 : Int64) (v9 : Int32) (n : Nat) (z : Int), v9.toInt = (n : Int) + 1 → n + d = 20000 → 0 ≤ v5.toInt → v5.toInt < whP (sA s) → v5.toInt = yhP (sA s) n + z * whP (sA s) → (∀ n' k : Nat, 1 ≤ n' → n' ≤ n → (k : Int) < sA s 0 7 → ¬ Hit (sA s) n' k) → Wj X 0 0 Q 141 [(0, .ref m), (3, .long v3), (5, .long v5), (7, .long v7), (9, .int v9)] [] h := by
  have V := S.1.va
  have vm := V.marks
  obtain ⟨w0, w1, -, p0, p1, -⟩ := wh_facts V
  obtain ⟨s0, s1, -⟩ := st_facts V
  have ew : whP (sA s) = rdU (sA s 0 11) (stL (sA s)) * stL (sA s) := rfl
  induction d with
  | zero =>
    intro v5 v9 n z e9 hn h0 h1 e5 old
    have eq := rcQ_no (A := sA s) (fun n' k a1 a2 a3 => old n' k a1 (by omega) a3)
    refine V_X10_reaches_141 C ⟨fun _ => hq _ _ ?_ ?_ FrO.rf, fun q => ?_⟩
    · unfold reachesP; rw [eq]; rfl
    · unfold reachesP; rw [eq]; exact S
    · rw [i32_lt, i20000_t] at q; omega
  | succ d ih =>
    intro v5 v9 n z e9 hn h0 h1 e5 old
    have tb : -stL (sA s) < (stU (sA s)).tmod (stL (sA s)) ∧ (stU (sA s)).tmod (stL (sA s)) < stL (sA s) := by
      have a := Int.tmod_lt_of_pos (stU (sA s)) s0
      have b := Int.tmod_lt_of_pos (-stU (sA s)) s0
      rw [Int.neg_tmod] at b
      omega
    have b7 : -whP (sA s) ≤ v7.toInt ∧ v7.toInt ≤ whP (sA s) := by
      rw [e7, ew]
      have c1 := Int.mul_le_mul_of_nonneg_right (show (stU (sA s)).tmod (stL (sA s)) ≤ stL (sA s) by omega) (show 0 ≤ rdU (sA s 0 11) (stL (sA s)) by omega)
      have c2 := Int.mul_le_mul_of_nonneg_right (show -stL (sA s) ≤ (stU (sA s)).tmod (stL (sA s)) by omega) (show 0 ≤ rdU (sA s 0 11) (stL (sA s)) by omega)
      have c3 : stL (sA s) * rdU (sA s 0 11) (stL (sA s)) = rdU (sA s 0 11) (stL (sA s)) * stL (sA s) := Int.mul_comm _ _
      rw [Int.neg_mul] at c2
      omega
    have ta : (v5 + v7).toInt = v5.toInt + v7.toInt := ladd_t (by omega) (by omega)
    have tj := jmod_t (x := v5 + v7) (y := v3) (by omega) (by omega)
    rw [ta, e3] at tj
    have j0 := Int.emod_nonneg (v5.toInt + v7.toInt) (Int.ne_of_gt w0)
    have j1 := Int.emod_lt_of_pos (v5.toInt + v7.toInt) w0
    have je := Int.emod_add_mul_ediv (v5.toInt + v7.toInt) (whP (sA s))
    have e9' : v9.toInt = ((n + 1 : Nat) : Int) := by omega
    have x2 : (v9 + Int32.ofInt 1).toInt = v9.toInt + 1 := (ix_succ (by omega) (by omega)).2
    generalize hv : ((v5 + v7) % v3 + v3) % v3 = u at *
    have ue : ∃ z', u.toInt = yhP (sA s) ((n + 1 : Nat) : Int) + z' * whP (sA s) := by
      refine ⟨z - (stU (sA s)).tdiv (stL (sA s)) - (v5.toInt + v7.toInt) / whP (sA s), ?_⟩
      have td := Int.tmod_add_mul_tdiv (stU (sA s)) (stL (sA s))
      have ey : yhP (sA s) ((n + 1 : Nat) : Int) = yhP (sA s) n + stU (sA s) * rdU (sA s 0 11) (stL (sA s)) := by
        unfold yhP
        rw [show ((n + 1 : Nat) : Int) = (n : Int) + 1 from rfl]
        grind
      have eU : stU (sA s) * rdU (sA s 0 11) (stL (sA s)) = v7.toInt + (stU (sA s)).tdiv (stL (sA s)) * whP (sA s) := by
        rw [e7, ew]
        generalize (stU (sA s)).tmod (stL (sA s)) = r at *
        generalize (stU (sA s)).tdiv (stL (sA s)) = q at *
        rw [← td]; grind
      rw [tj, ey, eU, Int.sub_mul, Int.sub_mul]
      have : whP (sA s) * ((v5.toInt + v7.toInt) / whP (sA s)) = (v5.toInt + v7.toInt) / whP (sA s) * whP (sA s) := Int.mul_comm _ _
      omega
    obtain ⟨z', ue⟩ := ue
    refine V_X10_reaches_141 C ⟨fun q => ?_, fun _ => ⟨by rw [i64_eq, l0_t]; omega, ?_⟩⟩
    · rw [i32_lt, i20000_t] at q; omega
    · rw [hv]
      refine mrc_in C S ha e9' (by omega) (by omega) (by omega) (by omega) ue (fun n' k a1 a2 a3 => old n' k a1 (by omega) a3) hq (fun no => ?_) (sA s 0 7).toNat 0 (by rw [i0_t]; omega) (by rw [i0_t]; omega) (fun k hk => by rw [ix_0] at hk; omega)
      refine ih u _ (n + 1) z' (by omega) (by omega) (by omega) (by omega) ue (fun n' k a1 a2 a3 => ?_)
      by_cases y : n' = n + 1
      · rw [y]; exact no k a3
      · exact old n' k a1 (by omega) a3
theorem mrc_aim (C : C_X10_reaches X) (S : MSt h m s) {v1 v3 : Int64} (e3 : v3.toInt = whP (sA s))
    (hend : ∀ (h' : Hp) (v5 : Int32), FrW (fun _ _ => False) (fun b _ => b = m + 11) h h' → v5.toInt = sA s 0 7 → (∀ j : Nat, (j : Int) < sA s 0 7 → (gl h' (m + 11) j).toInt = aimP (sA s) j) → Wj X 0 0 Q 47 [(0, .ref m), (1, .long v1), (3, .long v3), (5, .int v5)] [] h') (d : Nat) : ∀ (h' : Hp) (v5 : Int32), 0 ≤ v5.toInt → v5.toInt + d = sA s 0 7 → FrW (fun _ _ => False) (fun b _ => b = m + 11) h h' → (∀ j : Nat, j < ix v5 → (gl h' (m + 11) j).toInt = aimP (sA s) j) → Wj X 0 0 Q 47 [(0, .ref m), (1, .long v1), (3, .long v3), (5, .int v5)] [] h' := by
  have V := S.1.va
  have vm := V.marks
  obtain ⟨w0, w1, -⟩ := wh_facts V
  induction d with
  | zero =>
    intro h' v5 h0 hd f g
    exact hend h' v5 f (by omega) (fun j hj => g j (by unfold ix; omega))
  | succ d ih =>
    intro h' v5 h0 hd f g
    have S' : MSt h' m s := S.fr f (fun _ _ => id) id (fun _ => id) (fun j _ (q : m + 4 = m + 11) => by omega) id (fun j (q : m + 1 = m + 11) => by omega) id (fun _ => id)
    obtain ⟨x1, x2⟩ := ix_succ h0 (by omega)
    have hk := ix_t h0
    have e60 := S'.1.md.marks
    obtain ⟨y1, y2, y3, y4⟩ := ix_mk (v := v5) (k := ix v5) hk.symm (by omega)
    obtain ⟨k1, k2⟩ := S'.1.md.mark (k := ix v5) (by omega)
    have mk := V.mk (k := ix v5) (by omega)
    have er : (v3 % gl h' (m + 4) (ix (2 + 2 * v5 + 1))).toInt = whP (sA s) % sA s 5 (ix v5) := by rw [lrem_p (by omega), e3, y2, k2]
    have upd : ∀ v : Int64, v.toInt = aimP (sA s) (ix v5) → Wj X 0 0 Q 47 [(0, .ref m), (1, .long v1), (3, .long v3), (5, .int (v5 + Int32.ofInt 1))] [] (sl h' (m + 11) (ix v5) v) := by
      intro v hv
      refine ih _ _ (by omega) (by omega) (f.sl rfl) (fun j hj => ?_)
      rw [gl_sl]
      by_cases z : j = ix v5
      · rw [if_pos ⟨rfl, z⟩, z]; exact hv
      · rw [if_neg (fun q => z q.2)]; exact g j (by omega)
    refine V_X10_reaches_47 C ⟨S'.1.1, fun q => ?_, fun _ => ⟨y4, by rw [i64_eq, y2, k2, l0_t]; omega, fun q => ⟨by unfold inb; omega, upd _ ?_⟩, fun q => ⟨y3, by unfold inb; omega, upd _ ?_⟩⟩⟩
    · rw [ix_60, i32_le, e60] at q; omega
    · rw [i64_eq, er, l0_t] at q
      unfold aimP; rw [if_neg q]; rfl
    · rw [i64_eq, er, l0_t] at q
      unfold aimP; rw [if_pos q]
      have ed : (v3 / gl h' (m + 4) (ix (2 + 2 * v5 + 1))).toInt = whP (sA s) / sA s 5 (ix v5) := by rw [ldiv_p (by omega) (by rw [y2, k2]; omega), e3, y2, k2]
      obtain ⟨t, ht⟩ := Int.dvd_of_emod_eq_zero q
      have et : whP (sA s) / sA s 5 (ix v5) = t := by rw [ht, Int.mul_ediv_cancel_left _ (by omega)]
      have t0 : 0 < t := by
        rcases Int.lt_or_le 0 t with x | x
        · exact x
        · have := Int.mul_nonpos_of_nonneg_of_nonpos (show 0 ≤ sA s 5 (ix v5) by omega) x; omega
      have b1 : sA s 4 (ix v5) * t < sA s 5 (ix v5) * t := Int.mul_lt_mul_of_pos_right mk.2.1 t0
      have b0 : 0 ≤ sA s 4 (ix v5) * t := Int.mul_nonneg mk.1 (by omega)
      rw [et] at ed ⊢
      rw [lmul_t] <;> rw [ed, y1, k1] <;> omega
theorem ma_reaches (S : MSt h m s) : S_X10_reaches l D 0 0 [.ref m] h (QI fun y h' => y.toInt = (reachesP s).1 ∧ MSt h' m (reachesP s).2 ∧ FrO (inM m) h h') := Sp.of rfl (Nat.le_of_ble_eq_true rfl) (fun X C _ _ _ _ => V_X10_reaches_0 C (by
  obtain ⟨S1, f1⟩ := S.t0
  have V := S.1.va
  have vm := V.marks
  have vc := V.circ
  obtain ⟨w0, w1, -, p0, p1, q0, q1, h00, h01⟩ := wh_facts V
  obtain ⟨s0, s1, s2, s3, -⟩ := st_facts V
  have pl := V.place
  have ew : whP (sA s) = rdU (sA s 0 11) (stL (sA s)) * stL (sA s) := rfl
  have e53 : (gi (si h m 0 0) (m + 3) 53).toInt = sA s 0 5 := S1.1.md.circ
  rw [ix_53]
  refine ⟨S.1.1, (ma_laysStep S1.1.md V (k := gi (si h m 0 0) (m + 3) 53) (by omega) (by omega)).mono (fun w h2 hp => ?_)⟩
  obtain ⟨rfl, eu, el, H2, f2⟩ := hp
  rw [e53, atC_self] at eu el
  obtain ⟨S2, g2⟩ := S1.onA f2 H2 V
  have S2' : MSt h2 m s := S2
  have eP0 : (gl h2 (m + 4) (ix 0)).toInt = sA s 0 10 := by rw [ix_0]; exact H2.up
  have eP1 : (gl h2 (m + 4) (ix 1)).toInt = sA s 0 11 := by rw [ix_1]; exact H2.low
  have wp : 0 < (gl h2 m 30).toInt := by omega
  obtain ⟨x1, x2⟩ := fr_x (u := gl h2 (m + 4) (ix 1)) wp
  rw [eP1, el] at x1 x2
  have cz := cm_tp (u := gl h2 (m + 4) (ix 1)) wp
  refine ⟨rfl, H2.1, by omega, wp, by rw [i64_eq, l0_t]; omega, fun z7 e7 => ?_⟩
  have t7 : z7.toInt = whP (sA s) := by rw [e7, lmul_t] <;> rw [x1, el] <;> omega
  refine mrc_aim C S2' t7 (fun h' v5 f' e5 ha => ?_) (sA s 0 7).toNat h2 0 (by rw [i0_t]; omega) (by rw [i0_t]; omega) FrW.rf (fun j hj => by rw [ix_0] at hj; omega)
  have S' : MSt h' m s := S2'.fr f' (fun _ _ => id) id (fun _ => id) (fun j _ (q : m + 4 = m + 11) => by omega) id (fun j (q : m + 1 = m + 11) => by omega) id (fun _ => id)
  have g' : FrO (inM m) h2 h' := f'.toM (fun _ _ q => absurd q id) (fun b j (q : b = m + 11) => ⟨by omega, by omega⟩)
  have e60 := S'.1.md.marks
  have k30 : gl h' m 30 = gl h2 m 30 := f'.xl (fun (q : m = m + 11) => by omega)
  have k29 : gl h' m 29 = gl h2 m 29 := f'.xl (fun (q : m = m + 11) => by omega)
  have k4 : ∀ j, gl h' (m + 4) j = gl h2 (m + 4) j := fun j => f'.xl (fun (q : m + 4 = m + 11) => by omega)
  refine V_X10_reaches_47 C ⟨S'.1.1, fun _ => ⟨by rw [i64_eq, l0_t]; omega, by rw [i64_eq, k30, l0_t]; omega, fun z4 e4 => ?_⟩, fun q => ?_⟩
  · rw [k30, k29, k4] at e4
    rw [k30, k4]
    have tm : (gl h2 m 29 % gl h2 m 30).toInt = (stU (sA s)).tmod (stL (sA s)) := by rw [lrem_t, eu, el]
    have tb : -stL (sA s) < (stU (sA s)).tmod (stL (sA s)) ∧ (stU (sA s)).tmod (stL (sA s)) < stL (sA s) := by
      have a := Int.tmod_lt_of_pos (stU (sA s)) s0
      have b := Int.tmod_lt_of_pos (-stU (sA s)) s0
      rw [Int.neg_tmod] at b
      omega
    have c1 := Int.mul_le_mul_of_nonneg_right (show (stU (sA s)).tmod (stL (sA s)) ≤ stL (sA s) by omega) (show 0 ≤ rdU (sA s 0 11) (stL (sA s)) by omega)
    have c2 := Int.mul_le_mul_of_nonneg_right (show -stL (sA s) ≤ (stU (sA s)).tmod (stL (sA s)) by omega) (show 0 ≤ rdU (sA s 0 11) (stL (sA s)) by omega)
    have c3 : stL (sA s) * rdU (sA s 0 11) (stL (sA s)) = rdU (sA s 0 11) (stL (sA s)) * stL (sA s) := Int.mul_comm _ _
    rw [Int.neg_mul] at c2
    have t4 : z4.toInt = (stU (sA s)).tmod (stL (sA s)) * rdU (sA s 0 11) (stL (sA s)) := by rw [e4, lmul_t] <;> rw [tm, x1] <;> omega
    have t5 : (gl h2 (m + 4) (ix 0) * (gl h2 m 30 / cm (gl h2 (m + 4) (ix 1)) (gl h2 m 30))).toInt = sA s 0 10 * rdL (sA s 0 11) (stL (sA s)) := by rw [lmul_t] <;> rw [eP0, x2] <;> omega
    refine mrc_out C S' ha t7 t4 (fun y h'' ey S'' f'' => ⟨y, rfl, ey, S'', ((f1.tr g2).tr g').tr f''⟩) 20000 _ 1 0 0 rfl (by omega) (by omega) (by omega) ?_ (fun n' k a1 a2 a3 => by omega)
    rw [t5]
    unfold yhP
    simp
  · rw [ix_60, i32_le, e60] at q; omega))
end RcM
