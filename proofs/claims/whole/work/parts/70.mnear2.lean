-- entersNear() and near() of the reference
theorem rd_again {u w : Int} (hw : 0 < w) : rdU (rdU u w) (rdL u w) = rdU u w ∧ rdL (rdU u w) (rdL u w) = rdL u w := by
  refine rd_unique (rdL_pos hw) hw ?_
  obtain ⟨r1, r2⟩ := rd_mul (u := u) hw
  generalize rdU u w = x at *
  generalize rdL u w = y at *
  generalize (Int.gcd u w : Int) = g at *
  rw [← r1, ← r2]
  simp only [Int.mul_assoc, Int.mul_left_comm, Int.mul_comm]
def nrJ (p q : Int) : Nat → Option (Int × Int)
  | 0 => none
  | l + 1 => some (nrI p q (l + 1))
theorem nrO_first {p q : Int} (hp : 1 ≤ p) (hq : 1 ≤ q) (l : Nat) : nrO p q (nrJ p q l) (p * ((l : Int) + 1) / q, (l : Int) + 1) = nrS p q (nrI p q l) (p * ((l : Int) + 1) / q, (l : Int) + 1) := by
  cases l with
  | succ l => rfl
  | zero =>
    show (p * (((0 : Nat) : Int) + 1) / q, ((0 : Nat) : Int) + 1) = nrS p q (0, 1) (p * (((0 : Nat) : Int) + 1) / q, ((0 : Nat) : Int) + 1)
    have e1 : ((0 : Nat) : Int) + 1 = 1 := rfl
    rw [e1, Int.mul_one]
    have d1 := Int.emod_add_mul_ediv p q
    have d2 := Int.emod_nonneg p (b := q) (by omega)
    have d3 : 0 ≤ p / q := Int.ediv_nonneg (by omega) (by omega)
    have ef : farN p q (p / q, 1) = p % q := by
      unfold farN
      dsimp only
      rw [Int.mul_one, Int.mul_comm (p / q) q]; omega
    have ef0 : farN p q (0, 1) = p := by
      unfold farN
      dsimp only
      rw [Int.mul_one, Int.zero_mul]; omega
    unfold nrS nrB
    rw [ef, ef0]
    dsimp only
    by_cases c : p / q = 0
    · rw [c]
      split
      · rfl
      · rfl
    · rw [if_pos]
      left
      have : q * 1 ≤ q * (p / q) := Int.mul_le_mul_of_nonneg_left (by omega) (by omega)
      omega
theorem nrOk_c {p q : Int} (hp : 1 ≤ p) (hp2 : p ≤ 100000) (hq : 1 ≤ q) (hq2 : q ≤ 100000) {l : Int} (hl : 1 ≤ l) (hl2 : l ≤ 1000) : nrOk p q (p * l / q, l) ∧ nrOk p q (p * l / q + 1, l) := by
  have b1 := mul_bd (a := p) (b := l) (M := 100000) (K := 1000) (by omega) hp2 (by omega) hl2
  have b2 := mul_bd (a := l) (b := q) (M := 1000) (K := 100000) (by omega) hl2 (by omega) hq2
  have f0 : 0 ≤ p * l / q := Int.ediv_nonneg b1.1 (by omega)
  have f1 := Int.ediv_le_self q (a := p * l) b1.1
  have d1 := Int.emod_add_mul_ediv (p * l) q
  have d2 := Int.emod_nonneg (p * l) (b := q) (by omega)
  have d3 := Int.emod_lt_of_pos (p * l) (b := q) (by omega)
  have e1 : farN p q (p * l / q, l) = p * l % q := by
    unfold farN
    dsimp only
    rw [Int.mul_comm (p * l / q) q]; omega
  have e2 : farN p q (p * l / q + 1, l) = q - p * l % q := by
    unfold farN
    dsimp only
    rw [Int.add_mul, Int.one_mul, Int.mul_comm (p * l / q) q]; omega
  refine ⟨⟨f0, ?_, ?_, ?_, ?_, ?_⟩, ⟨?_, ?_, ?_, ?_, ?_, ?_⟩⟩
  all_goals try dsimp only
  all_goals try rw [e1]
  all_goals try rw [e2]
  all_goals omega
theorem nrOk_S {p q : Int} {b c : Int × Int} (hb : nrOk p q b) (hc : nrOk p q c) : nrOk p q (nrS p q b c) := by
  rcases nrS_of (p := p) (q := q) (b := b) (c := c) with e | e
  · rw [e]; exact hb
  · rw [e]; exact hc
theorem nrOk_O {p q : Int} {b : Option (Int × Int)} {c : Int × Int} (hb : ∀ b', b = some b' → nrOk p q b') (hc : nrOk p q c) : nrOk p q (nrO p q b c) := by
  cases b with
  | none => exact hc
  | some b' => exact nrOk_S (hb b' rfl) hc
theorem l1e5_t : (100000 : Int64).toInt = 100000 := rfl
theorem l1000_t : (1000 : Int64).toInt = 1000 := rfl
section EnN
variable {X : Ctx} {l : Launch} {D : Dt} {h : Hp} {m : Nat} {Q : Pq}
theorem ma_entersNear (F : St10 h m) {p q : Int} {b : Int × Int} (hq : 0 < q) (N : NRm h m p q (some b)) (hb : 0 ≤ b.1) (w : RwM h m []) : S_X10_entersNear l D 0 0 [.ref m] h (QV fun h' => RwM h' m [rdU b.1 b.2, rdL b.1 b.2, rdU (farN p q b) (q * b.2), rdL (farN p q b) (q * b.2)] ∧ FrW (rI m) (rL m) h h') := Sp.of rfl (Nat.le_of_ble_eq_true rfl) (fun X C _ _ _ _ => V_X10_entersNear_0 C (by
  obtain ⟨n1, n2, n3, n4, n5⟩ := N
  refine ⟨F, (ma_entersPart F w (by decide) n1 n2 (by omega) n3).mono (fun z h2 hp => ?_)⟩
  obtain ⟨rfl, w2, f2⟩ := hp
  have bq : 0 < b.2 * q := Int.mul_pos n3 hq
  have fn := farN_nn p q b
  have u0 := rdU_nn (u := farN p q b) (w := b.2 * q) fn bq
  have l0 := rdL_pos (u := farN p q b) bq
  have g1 : (gl h2 m 25).toInt = rdU (farN p q b) (b.2 * q) := by rw [f2.xl (fun (z : m = m + 1) => by omega)]; exact n4
  have g2 : (gl h2 m 26).toInt = rdL (farN p q b) (b.2 * q) := by rw [f2.xl (fun (z : m = m + 1) => by omega)]; exact n5
  refine ⟨rfl, f2.st10 F, (ma_entersPart (f2.st10 F) w2 (by simp) g1 g2 (by omega) l0).mono (fun z h4 hp => ?_)⟩
  obtain ⟨rfl, w4, f4⟩ := hp
  rw [(rd_again bq).1, (rd_again bq).2, Int.mul_comm b.2 q] at w4
  exact ⟨rfl, rfl, w4, f2.tr f4⟩))
theorem mn_loop (C : C_X10_near X) (F : St10 h m) {p q k : Int32} (p1 : 1 ≤ p.toInt) (p2 : p.toInt ≤ 100000) (q1 : 1 ≤ q.toInt) (q2 : q.toInt ≤ 100000) (k1 : 1 ≤ k.toInt) (k2 : k.toInt ≤ 1000) (N : gl h m 24 = 0) (hend : ∀ (h' : Hp) (v4 : Int32), FrW (fun _ _ => False) (nL m) h h' → NRm h' m p.toInt q.toInt (some (nrI p.toInt q.toInt k.toInt.toNat)) → k < v4 → Wj X 0 0 Q 51 [(0, .ref m), (1, .int p), (2, .int q), (3, .int k), (4, .int v4)] [] h') : Wj X 0 0 Q 51 [(0, .ref m), (1, .int p), (2, .int q), (3, .int k), (4, .int 1)] [] h := by
  have key : ∀ (n : Nat) (h' : Hp) (v4 : Int32) (i : Nat), v4.toInt = (i : Int) + 1 → i + n = k.toInt.toNat → FrW (fun _ _ => False) (nL m) h h' → NRm h' m p.toInt q.toInt (nrJ p.toInt q.toInt i) → (∀ b', nrJ p.toInt q.toInt i = some b' → nrOk p.toInt q.toInt b') → Wj X 0 0 Q 51 [(0, .ref m), (1, .int p), (2, .int q), (3, .int k), (4, .int v4)] [] h' := by
    intro n
    induction n with
    | zero =>
      intro h' v4 i e1 e2 f N' O'
      have ei : i = k.toInt.toNat := by omega
      refine hend h' v4 f ?_ (by rw [i32_lt]; omega)
      rw [← ei]
      cases i with
      | zero => omega
      | succ i => exact N'
    | succ n ih =>
      intro h' v4 i e1 e2 f N' O'
      refine V_X10_near_51 C ⟨fun z => by rw [i32_lt] at z; omega, fun _ => ⟨by rw [i64_eq, i2l_t, l0_t]; omega, fun z8 e8 => ⟨f.st10 F, ?_⟩⟩⟩
      obtain ⟨o1, o2⟩ := nrOk_c p1 p2 q1 q2 (l := (i : Int) + 1) (by omega) (by omega)
      have b1 := mul_bd (a := p.toInt) (b := (i : Int) + 1) (M := 100000) (K := 1000) (by omega) p2 (by omega) (by omega)
      have t1 : (p.toInt64 * v4.toInt64).toInt = p.toInt * ((i : Int) + 1) := by rw [lmul_t] <;> rw [i2l_t, i2l_t, e1] <;> omega
      have t8 : z8.toInt = p.toInt * ((i : Int) + 1) / q.toInt := by rw [e8, ldiv_p (by rw [t1]; omega) (by rw [i2l_t]; omega), t1, i2l_t]
      have f0 : 0 ≤ p.toInt * ((i : Int) + 1) / q.toInt := Int.ediv_nonneg b1.1 (by omega)
      have f1 := Int.ediv_le_self q.toInt (a := p.toInt * ((i : Int) + 1)) b1.1
      have t9 : (z8 + 1).toInt = p.toInt * ((i : Int) + 1) / q.toInt + 1 := by rw [ladd_t] <;> rw [t8, l1_t] <;> omega
      have eP : p.toInt64.toInt = p.toInt := i2l_t p
      have eQ : q.toInt64.toInt = q.toInt := i2l_t q
      have eW : v4.toInt64.toInt = (i : Int) + 1 := by rw [i2l_t, e1]
      refine (ma_isNearer (f.st10 F) (u := z8) (w := v4.toInt64) (p := p.toInt64) (q := q.toInt64) (b := nrJ p.toInt q.toInt i) (by omega) (by omega) (by omega) (by rw [eP, eQ]; exact N') (by rw [eP, eQ]; exact O') (by rw [eP, eQ, t8, eW]; exact o1)).mono (fun w h10 hp => ?_)
      obtain ⟨x, rfl, -, N10, f10⟩ := hp
      rw [eP, eQ, t8, eW, nrO_first p1 q1 i] at N10
      have O10 : nrOk p.toInt q.toInt (nrS p.toInt q.toInt (nrI p.toInt q.toInt i) (p.toInt * ((i : Int) + 1) / q.toInt, (i : Int) + 1)) := by
        rw [← nrO_first p1 q1 i]; exact nrOk_O O' o1
      have F10 := (f.tr f10).st10 F
      refine ⟨x, rfl, F10, (ma_isNearer F10 (u := z8 + 1) (w := v4.toInt64) (p := p.toInt64) (q := q.toInt64) (b := some (nrS p.toInt q.toInt (nrI p.toInt q.toInt i) (p.toInt * ((i : Int) + 1) / q.toInt, (i : Int) + 1))) (by omega) (by omega) (by omega) (by rw [eP, eQ]; exact N10) (by rw [eP, eQ]; rintro b' ⟨⟩; exact O10) (by rw [eP, eQ, t9, eW]; exact o2)).mono (fun w h13 hp => ?_)⟩
      obtain ⟨x13, rfl, -, N13, f13⟩ := hp
      rw [eP, eQ, t9, eW] at N13
      refine ⟨x13, rfl, ih h13 _ (i + 1) (by rw [iadd_t] <;> rw [e1] <;> simp <;> omega) (by omega) ((f.tr f10).tr f13) N13 ?_⟩
      rintro b' ⟨⟩
      exact nrOk_S O10 o2
  exact key k.toInt.toNat h 1 0 rfl (by omega) FrW.rf (by show (gl h m 24).toInt = 0; rw [N]; rfl) (fun b' z => by cases z)
theorem ma_near {s : Sv} (S : MSt h m s) {p q k : Int32} : S_X10_near l D 0 0 [.ref m, .int p, .int q, .int k] h (QI fun y h' => y.toInt = (nearP s p.toInt q.toInt k.toInt).1 ∧ MSt h' m (nearP s p.toInt q.toInt k.toInt).2 ∧ FrO (inM m) h h') := Sp.of rfl (Nat.le_of_ble_eq_true rfl) (fun X C _ _ _ _ => V_X10_near_0 C (by
  obtain ⟨S1, f1⟩ := S.t0
  unfold nearP
  refine ⟨S.1.1, fun z => ⟨_, rfl, ?_⟩, fun z => ⟨fun z2 => ⟨_, rfl, ?_⟩, fun z2 => ⟨fun z3 => ?_, fun z3 => ⟨_, rfl, ?_⟩⟩⟩⟩
  all_goals rw [btL_0, i2l_t, l1_t, l1e5_t] at z
  · rw [if_neg (by omega)]; exact ⟨rfl, S1, f1⟩
  all_goals rw [btL_0, i2l_t, l1_t, l1e5_t] at z2
  · rw [if_neg (by omega)]; exact ⟨rfl, S1, f1⟩
  all_goals rw [btL_0, i2l_t, l1_t, l1000_t] at z3
  · have hz : (1 ≤ p.toInt ∧ p.toInt ≤ 100000) ∧ (1 ≤ q.toInt ∧ q.toInt ≤ 100000) ∧ (1 ≤ k.toInt ∧ k.toInt ≤ 1000) := by omega
    rw [if_pos hz]
    have f24 : FrW (fun _ _ => False) (nL m) (si h m 0 0) (sl (si h m 0 0) m 24 0) := FrW.rf.sl ⟨rfl, by omega, by omega⟩
    refine mn_loop C (f24.st10 S1.1.1) hz.1.1 hz.1.2 hz.2.1.1 hz.2.1.2 hz.2.2.1 hz.2.2.2 (by rw [gl_sl, if_pos ⟨rfl, rfl⟩]) (fun h2 v4 f2 N2 z4 => ?_)
    have nb := nrI_b hz.1.1 hz.1.2 hz.2.1.1 k.toInt.toNat (by omega)
    generalize nrI p.toInt q.toInt k.toInt.toNat = c at *
    have f02 := f24.tr f2
    have S2 : MSt h2 m s := S1.fr f02 (fun _ _ => id) id (fun _ => id) (fun j _ q => by have := q.1; omega) id (fun j q => by have := q.1; omega) id (fun _ => id)
    have g2 : FrO (inM m) (si h m 0 0) h2 := f02.toM (fun _ _ q => absurd q id) (fun b j q => ⟨by have := q.1; omega, by have := q.1; omega⟩)
    have ft : FrW (rI m) (rL m) h2 (si h2 m 1 0) := FrW.rf.si ⟨rfl, rfl⟩
    have N3 : NRm (si h2 m 1 0) m p.toInt q.toInt (some c) := N2
    refine V_X10_near_51 C ⟨fun _ => ⟨S2.1.1, (ma_entersNear (h := si h2 m 1 0) (ft.st10 S2.1.1) (by omega) N3 nb.1 (RwM.clr 0 rfl)).mono (fun w h4 hp => ?_)⟩, fun z => absurd z4 z⟩
    obtain ⟨rfl, w4, f4⟩ := hp
    obtain ⟨S4, g4⟩ := S2.row (ft.tr f4) w4
    obtain ⟨n1, n2, n3, -⟩ := N3
    have e1 : (gl h4 m 23).toInt = c.1 := by rw [f4.xl (fun (z : m = m + 1) => by omega)]; exact n1
    have e2 : (gl h4 m 24).toInt = c.2 := by rw [f4.xl (fun (z : m = m + 1) => by omega)]; exact n2
    refine ⟨rfl, S4.1.1, fun z5 => ?_, fun z5 => ⟨_, rfl, ?_⟩⟩
    · rw [i64_eq, e1, l0_t] at z5
      refine (ma_stepsTo (h := h4) (v5 := 0) S4.1.1 (by omega) (by omega) (by omega) (by omega) (fun z => absurd rfl z)).mono (fun w h6 hp => ?_)
      obtain ⟨y, rfl, ey, -, e6, -⟩ := hp
      rw [e6 rfl]
      rw [e1, e2] at ey
      exact ⟨y, rfl, y, rfl, by rw [if_neg z5]; exact ey, S4, (f1.tr g2).tr g4⟩
    · rw [i64_eq, e1, l0_t] at z5
      exact ⟨by rw [if_pos z5]; rfl, S4, (f1.tr g2).tr g4⟩
  · rw [if_neg (by omega)]; exact ⟨rfl, S1, f1⟩))
end EnN
