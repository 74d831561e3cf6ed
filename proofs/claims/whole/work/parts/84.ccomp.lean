-- compound() of the class
theorem idiv_x {x y : Int32} (hy : 0 < y.toInt) (hd : y.toInt ∣ x.toInt) : (x / y).toInt = x.toInt / y.toInt := by
  have h0 := b32 x
  have h1 : x.toInt / y.toInt ≤ 2147483647 := Int.ediv_le_of_le_mul hy (by
    have : (2147483647 : Int) * 1 ≤ 2147483647 * y.toInt := Int.mul_le_mul_of_nonneg_left (by omega) (by omega)
    omega)
  have h2 : -2147483648 ≤ x.toInt / y.toInt := Int.le_ediv_of_mul_le hy (by
    have : (2147483648 : Int) * 1 ≤ 2147483648 * y.toInt := Int.mul_le_mul_of_nonneg_left (by omega) (by omega)
    omega)
  rw [Int32.toInt_div, Int.tdiv_eq_ediv_of_dvd hd, bm32 h2 h1]
theorem irem_0 {x y : Int32} : x % y = 0 ↔ x.toInt % y.toInt = 0 := by
  rw [i32_eq, irem_t, i0_t]
  constructor
  · intro h; exact Int.emod_eq_zero_of_dvd (Int.dvd_of_tmod_eq_zero h)
  · intro h; exact Int.tmod_eq_zero_of_dvd (Int.dvd_of_emod_eq_zero h)
theorem hPl_t {h : Hp} {a : Nat} {A : HV} (H : HdR h a A) (V : VA A) {k : Int32} (h1 : 0 ≤ k.toInt) (h2 : k.toInt < A 0 3) : (hPl h a k).toInt = A 2 (ix k) := by
  have h3 := H.2.1 3 (by omega)
  have v3 := V.2.2.2.1
  unfold hPl
  rw [h3, if_pos (by omega)]
  exact (H.2.2.2.2.2.2.2.1 (ix k) (by rw [ix_t h1]; omega)).2
/-- sum, turns and holes of the way; and its circles -/
def CWo (h : Hp) (w : Nat) (S : CW) : Prop := gf h w 0 = S.1 ∧ (S.1 ≠ 0 → gf h w 3 = S.2.2.2.1 ∧ gf h w 4 = S.2.2.2.2.1 ∧ gf h w 5 = S.2.2.2.2.2)
def CWh (h : Hp) (w : Nat) (S : CW) : Prop := CWo h w S ∧ (S.1 ≠ 0 → gf h w 1 = S.2.1 ∧ gf h w 2 = S.2.2.1)
abbrev FrC (w : Nat) (h h' : Hp) : Prop := FrW (fun b _ => b = w) (fun _ _ => False) h h'
section CCm
variable {X : Ctx} {l : Launch} {D : Dt} {h : Hp} {x m a w : Nat} {Q : Pq} {A : HV} {s : Sv}
theorem cl_take (kw : kd h w = 1) {S : CW} (R : CWo h w S) (s0 : 0 ≤ S.1) {p q t : Int32} (i j : Int) (p1 : 1 ≤ p.toInt) (p2 : p.toInt ≤ 100) (q1 : -100 ≤ q.toInt) (q2 : q.toInt ≤ 100) : S_X0_take l D 0 0 [.ref w, .int p, .int q, .int t] h (QI fun y h' => CWo h' w (cwTake S i j p.toInt q.toInt t.toInt) ∧ (y = 0 → cwTake S i j p.toInt q.toInt t.toInt = S) ∧ (¬ y = 0 → cwTake S i j p.toInt q.toInt t.toInt = (p.toInt + (q.toInt.natAbs : Int), i, j, t.toInt, p.toInt, q.toInt)) ∧ (gf h' w 1 = gf h w 1 ∧ gf h' w 2 = gf h w 2) ∧ FrC w h h') := Sp.of rfl (Nat.le_of_ble_eq_true rfl) (fun X C _ _ _ _ => V_X0_take_0 C (by
  obtain ⟨r0, r1⟩ := id R
  have g0 : (gi h w 0).toInt = S.1 := r0
  have ta : (abI q).toInt = (q.toInt.natAbs : Int) := abI_t (by omega)
  have tp : (p + abI q).toInt = p.toInt + (q.toInt.natAbs : Int) := by rw [iadd_t] <;> rw [ta] <;> omega
  generalize hQ : (QI fun y h' => CWo h' w (cwTake S i j p.toInt q.toInt t.toInt) ∧ (y = 0 → cwTake S i j p.toInt q.toInt t.toInt = S) ∧ (¬ y = 0 → cwTake S i j p.toInt q.toInt t.toInt = (p.toInt + (q.toInt.natAbs : Int), i, j, t.toInt, p.toInt, q.toInt)) ∧ (gf h' w 1 = gf h w 1 ∧ gf h' w 2 = gf h w 2) ∧ FrC w h h') = Q
  have no : ¬ (0 ≤ t.toInt ∧ (S.1 = 0 ∨ p.toInt + (q.toInt.natAbs : Int) < S.1)) → Q (some (.int 0)) h := by
    intro z
    have e : cwTake S i j p.toInt q.toInt t.toInt = S := if_neg z
    rw [← hQ]
    exact ⟨0, rfl, by rw [e]; exact R, fun _ => e, fun y => absurd rfl y, ⟨rfl, rfl⟩, FrW.rf⟩
  have yes : (0 ≤ t.toInt ∧ (S.1 = 0 ∨ p.toInt + (q.toInt.natAbs : Int) < S.1)) → Wj X 0 0 Q 30 [(0, .ref w), (1, .int p), (2, .int q), (3, .int t), (4, .int (p + abI q))] [] h := by
    intro z
    have e : cwTake S i j p.toInt q.toInt t.toInt = (p.toInt + (q.toInt.natAbs : Int), i, j, t.toInt, p.toInt, q.toInt) := if_pos z
    refine V_X0_take_30 C ⟨kw, ?_⟩
    rw [← hQ]
    refine ⟨1, rfl, ?_, fun y => absurd y p1_ne, fun _ => e, ⟨?_, ?_⟩, (((FrW.rf.si rfl).si rfl).si rfl).si rfl⟩
    · rw [e]
      refine ⟨?_, fun _ => ⟨?_, ?_, ?_⟩⟩ <;> unfold gf <;> simp [gi_si, tp]
    · unfold gf; simp [gi_si]
    · unfold gf; simp [gi_si]
  refine ⟨fun z => no ?_, fun z => ⟨kw, fun z2 => yes ?_, fun z2 => ⟨fun z3 => yes ?_, fun z3 => no ?_⟩⟩⟩
  all_goals rw [i32_lt, i0_t] at z
  · omega
  all_goals rw [i32_eq, g0, i0_t] at z2
  · omega
  all_goals rw [i32_lt, tp, g0] at z3
  · omega
  · omega))
theorem cl_offer (kw : kd h w = 1) {S : CW} (R : CWo h w S) (s0 : 0 ≤ S.1) {p r k : Int32} (i j : Int) (p1 : 1 ≤ p.toInt) (p2 : p.toInt ≤ 100) (k1 : 1 ≤ k.toInt) (k2 : k.toInt ≤ 70) (r1 : -1000000 ≤ r.toInt) (r2 : r.toInt ≤ 1000000) : S_X0_offer l D 0 0 [.ref w, .int p, .int r, .int k] h (QI fun y h' => CWo h' w (cwOffer S i j p.toInt r.toInt k.toInt) ∧ (y = 0 → cwOffer S i j p.toInt r.toInt k.toInt = S) ∧ (¬ y = 0 → (cwOffer S i j p.toInt r.toInt k.toInt).2.1 = i ∧ (cwOffer S i j p.toInt r.toInt k.toInt).2.2.1 = j) ∧ (gf h' w 1 = gf h w 1 ∧ gf h' w 2 = gf h w 2) ∧ FrC w h h') := Sp.of rfl (Nat.le_of_ble_eq_true rfl) (fun X C _ _ _ _ => V_X0_offer_0 C (by
  have tm := fmI_t (a := r) (b := k) (by omega)
  have td := fdI_t (a := r) (b := k) (by omega)
  have m0 := Int.emod_nonneg r.toInt (b := k.toInt) (by omega)
  have m1 := Int.emod_lt_of_pos r.toInt (b := k.toInt) (by omega)
  have d1 : r.toInt / k.toInt ≤ 1000000 := Int.ediv_le_of_le_mul (by omega) (by
    have : (1000000 : Int) * 1 ≤ 1000000 * k.toInt := Int.mul_le_mul_of_nonneg_left (by omega) (by omega)
    omega)
  have d0 : -1000000 ≤ r.toInt / k.toInt := Int.le_ediv_of_mul_le (by omega) (by
    have : (1000000 : Int) * 1 ≤ 1000000 * k.toInt := Int.mul_le_mul_of_nonneg_left (by omega) (by omega)
    omega)
  have tk : (fmI r k - k).toInt = r.toInt % k.toInt - k.toInt := by rw [isub_t] <;> rw [tm] <;> omega
  have tw : (fdI r k + 1).toInt = r.toInt / k.toInt + 1 := by rw [iadd_t] <;> rw [td, i1_t] <;> omega
  generalize hQ : (QI fun y h' => CWo h' w (cwOffer S i j p.toInt r.toInt k.toInt) ∧ (y = 0 → cwOffer S i j p.toInt r.toInt k.toInt = S) ∧ (¬ y = 0 → (cwOffer S i j p.toInt r.toInt k.toInt).2.1 = i ∧ (cwOffer S i j p.toInt r.toInt k.toInt).2.2.1 = j) ∧ (gf h' w 1 = gf h w 1 ∧ gf h' w 2 = gf h w 2) ∧ FrC w h h') = Q
  refine ⟨fun _ => ⟨by omega, fun z => ?_, fun z => ⟨kw, ?_⟩⟩, fun z => ?_⟩
  · rw [i32_eq, tm, i0_t] at z
    have e : cwOffer S i j p.toInt r.toInt k.toInt = S := if_pos z
    refine V_X0_offer_46 C ⟨fun _ => ?_, fun z2 => absurd (by rw [i32_eq, tm, i0_t]; exact z) z2⟩
    refine V_X0_offer_70 C ⟨fun z3 => absurd rfl z3, fun _ => ⟨fun _ => ?_, fun z3 => absurd rfl z3⟩⟩
    rw [← hQ]
    exact ⟨0, rfl, by rw [e]; exact R, fun _ => e, fun y => absurd rfl y, ⟨rfl, rfl⟩, FrW.rf⟩
  · have z' : ¬ r.toInt % k.toInt = 0 := by rw [i32_eq, tm, i0_t] at z; exact z
    have e : cwOffer S i j p.toInt r.toInt k.toInt = cwTake (cwTake S i j p.toInt (r.toInt % k.toInt - k.toInt) (r.toInt / k.toInt + 1)) i j p.toInt (r.toInt % k.toInt) (r.toInt / k.toInt) := if_neg z'
    refine (cl_take kw R s0 (p := p) (q := fmI r k - k) (t := fdI r k + 1) i j p1 p2 (by omega) (by omega)).mono (fun v h3 hp => ?_)
    obtain ⟨y1, rfl, R1, a1, a2, a3, f3⟩ := hp
    rw [tk, tw] at R1 a1 a2
    have s1 : 0 ≤ (cwTake S i j p.toInt (r.toInt % k.toInt - k.toInt) (r.toInt / k.toInt + 1)).1 := by
      by_cases y : y1 = 0
      · rw [a1 y]; exact s0
      · rw [a2 y]; dsimp only; omega
    generalize hS1 : cwTake S i j p.toInt (r.toInt % k.toInt - k.toInt) (r.toInt / k.toInt + 1) = S1 at *
    have kw3 : kd h3 w = 1 := by rw [f3.2.1]; exact kw
    have go : ∀ s0 : Int32, (s0 = 0 ↔ y1 = 0) → Wj X 0 0 Q 46 [(0, .ref w), (1, .int p), (4, .int (fmI r k)), (5, .int (fdI r k))] [.int s0] h3 := by
      intro b0 hb
      refine V_X0_offer_46 C ⟨fun y => absurd y z, fun _ => ⟨kw3, (cl_take kw3 R1 s1 (p := p) (q := fmI r k) (t := fdI r k) i j p1 p2 (by omega) (by omega)).mono (fun v h5 hp => ?_)⟩⟩
      obtain ⟨y2, rfl, R2, c1, c2, c3, f5⟩ := hp
      rw [tm, td, ← e] at R2 c1 c2
      have fin : ∀ y : Int32, (y = 0 ↔ y1 = 0 ∧ y2 = 0) → Q (some (.int y)) h5 := by
        intro y hy
        rw [← hQ]
        refine ⟨y, rfl, R2, fun q => ?_, fun q => ?_, ⟨c3.1.trans a3.1, c3.2.trans a3.2⟩, f3.tr f5⟩
        · obtain ⟨q1, q2⟩ := hy.mp q
          rw [c1 q2, a1 q1]
        · by_cases q2 : y2 = 0
          · have q1 : ¬ y1 = 0 := fun q1 => q (hy.mpr ⟨q1, q2⟩)
            rw [c1 q2, a2 q1]; exact ⟨rfl, rfl⟩
          · rw [c2 q2]; exact ⟨rfl, rfl⟩
      have j70 : ∀ b2 : Int32, (b2 = 0 ↔ y2 = 0) → Wj X 0 0 Q 70 [(6, .int b0)] [.int b2] h5 := by
        intro b2 hb2
        refine V_X0_offer_70 C ⟨fun q => fin 1 ⟨fun q2 => absurd q2 p1_ne, fun q2 => absurd (hb.mpr q2.1) q⟩, fun q => ⟨fun q2 => fin 0 ⟨fun _ => ⟨hb.mp q, hb2.mp q2⟩, fun _ => rfl⟩, fun q2 => fin 1 ⟨fun q3 => absurd q3 p1_ne, fun q3 => absurd (hb2.mpr q3.2) q2⟩⟩⟩
      exact ⟨y2, rfl, fun q => j70 0 ⟨fun _ => q, fun _ => rfl⟩, fun q => j70 1 ⟨fun q2 => absurd q2 p1_ne, fun q2 => absurd q2 q⟩⟩
    exact ⟨y1, rfl, fun q => go 0 ⟨fun _ => q, fun _ => rfl⟩, fun q => go 1 ⟨fun q2 => absurd q2 p1_ne, fun q2 => absurd q2 q⟩⟩
  · rw [i32_lt, i0_t] at z; omega))
theorem tp_loop (C : C_X0_tryPair X) (kw : kd h w = 1) (V : VA A) {n : Int} (n1 : 2 ≤ n) {S : CW} (o : cwOk A S) {v2 v3 v5 v6 v8 : Int32} {i j : Nat} (ei : v2.toInt = i) (ej : v3.toInt = j) (hi : (i : Int) < A 0 3) (hj : (j : Int) < A 0 3) (hij : i < j) (e5 : v5.toInt = A 1 i) (e6 : v6.toInt = A 1 j) (e8 : v8.toInt = cwAll A n i j) (hd : (A 0 0 * A 1 i * A 1 j) % n = 0)
    (hq : ∀ h', FrC w h h' → CWh h' w (cwPair A n i j S) → Q none h') (d : Nat) : ∀ (h' : Hp) (v9 : Int32) (c : Nat), v9.toInt = (c : Int) + 1 → (c : Int) + 1 + d = A 1 i → FrC w h h' → CWh h' w (cwAs A n i j S c) → Wj X 0 0 Q 60 [(0, .ref w), (2, .int v2), (3, .int v3), (5, .int v5), (6, .int v6), (8, .int v8), (9, .int v9)] [] h' := by
  have vi := V.2.2.2.2.2.2.2.2.2.2.2.2.2.1 i hi
  have vj := V.2.2.2.2.2.2.2.2.2.2.2.2.2.1 j hj
  induction d with
  | zero =>
    intro h' v9 c e9 hc f R
    refine V_X0_tryPair_60 C ⟨fun _ => hq h' f ?_, fun q => ?_⟩
    · have : (A 1 i - 1).toNat = c := by omega
      unfold cwPair; rw [this]; exact R
    · rw [i32_le] at q; omega
  | succ d ih =>
    intro h' v9 c e9 hc f R
    have kw' : kd h' w = 1 := by rw [f.2.1]; exact kw
    have ok := cwAs_ok V n1 o hi hj hij c (by omega)
    have g0 : (gi h' w 0).toInt = (cwAs A n i j S c).1 := R.1.1
    obtain ⟨b1, b2, b3, b4, b5, b6, b7⟩ := cwR_b V n1 hi hj (a := (c : Int) + 1) (by omega) (by omega)
    obtain ⟨x1, x2⟩ := ix_succ (i := v9) (by omega) (by omega)
    have t1 : (v9 * v6).toInt = ((c : Int) + 1) * A 1 j := by rw [imul_t] <;> rw [e9, e6] <;> omega
    have t2 : (v8 - v9 * v6).toInt = cwAll A n i j - ((c : Int) + 1) * A 1 j := by rw [isub_t] <;> rw [e8, t1] <;> omega
    have go : Wj X 0 0 Q 83 [(0, .ref w), (2, .int v2), (3, .int v3), (5, .int v5), (6, .int v6), (8, .int v8), (9, .int v9)] [] h' := by
      refine V_X0_tryPair_83 C ⟨by rw [i32_eq, i0_t]; omega, fun q => ?_, fun q => ⟨kw', ?_⟩⟩
      all_goals rw [irem_0, t2, e5] at q
      · refine ih h' _ (c + 1) (by omega) (by omega) f ?_
        show CWh h' w (cwA A n i j ((c : Int) + 1) (cwAs A n i j S c))
        rw [cwA_neg (fun z => q z.2)]; exact R
      · have ed : ((v8 - v9 * v6) / v5).toInt = cwR A n i j ((c : Int) + 1) := by
          rw [idiv_x (by omega) (by rw [t2, e5]; exact Int.dvd_of_emod_eq_zero q), t2, e5]; rfl
        have hC : cwC A n i j ((c : Int) + 1) := ⟨hd, q⟩
        refine (cl_offer kw' R.1 ok.1 (p := v9) (r := (v8 - v9 * v6) / v5) (k := v6) i j (by omega) (by omega) (by omega) (by omega) (by omega) (by omega)).mono (fun v h3 hp => ?_)
        obtain ⟨y, rfl, R3, a1, a2, a3, f3⟩ := hp
        rw [ed, e6, e9, ← cwA_pos hC (S := cwAs A n i j S c)] at R3 a1 a2
        refine ⟨y, rfl, fun q2 => ?_, fun q2 => ⟨by rw [f3.2.1]; exact kw', ?_⟩⟩
        · refine ih h3 _ (c + 1) (by omega) (by omega) (f.tr f3) ⟨R3, ?_⟩
          show (cwA A n i j ((c : Int) + 1) (cwAs A n i j S c)).1 ≠ 0 → _
          rw [a3.1, a3.2]
          show (cwA A n i j ((c : Int) + 1) (cwAs A n i j S c)).1 ≠ 0 → gf h' w 1 = (cwA A n i j ((c : Int) + 1) (cwAs A n i j S c)).2.1 ∧ gf h' w 2 = (cwA A n i j ((c : Int) + 1) (cwAs A n i j S c)).2.2.1
          rw [a1 q2]; exact R.2
        · refine ih _ _ (c + 1) (by omega) (by omega) (((f.tr f3).si rfl).si rfl) ⟨?_, fun _ => ?_⟩
          · obtain ⟨r1, r2⟩ := R3
            refine ⟨?_, fun q3 => ?_⟩
            · unfold gf; rw [gi_si, if_neg (by omega), gi_si, if_neg (by omega)]; exact r1
            · obtain ⟨y1, y2, y3⟩ := r2 q3
              refine ⟨?_, ?_, ?_⟩ <;> unfold gf <;> rw [gi_si, if_neg (by omega), gi_si, if_neg (by omega)]
              · exact y1
              · exact y2
              · exact y3
          · obtain ⟨y1, y2⟩ := a2 q2
            refine ⟨?_, ?_⟩
            · unfold gf; rw [gi_si, if_neg (by omega), gi_si, if_pos ⟨rfl, rfl⟩, ei]; exact y1.symm
            · unfold gf; rw [gi_si, if_pos ⟨rfl, rfl⟩, ej]; exact y2.symm
    refine V_X0_tryPair_60 C ⟨fun q => ?_, fun _ => ⟨kw', fun _ => go, fun q => ⟨fun q2 => hq h' f ?_, fun _ => go⟩⟩⟩
    · rw [i32_le] at q; omega
    · rw [i32_eq, g0, i0_t] at q
      rw [i32_le, g0] at q2
      have e : (A 1 i - 1).toNat = c + (d + 1) := by omega
      unfold cwPair
      rw [e, cwAs_big q (by omega)]; exact R
theorem cl_tryPair (kw : kd h w = 1) (H : HdR h a A) (V : VA A) (hw : ¬ inH a w) {v2 v3 v4 : Int32} (n1 : 2 ≤ v4.toInt) {S : CW} (o : cwOk A S) {i j : Nat} (ei : v2.toInt = i) (ej : v3.toInt = j) (hi : (i : Int) < A 0 3) (hj : (j : Int) < A 0 3) (hij : i < j) (R : CWh h w S) : S_X0_tryPair l D 0 0 [.ref w, .ref a, .int v2, .int v3, .int v4] h (QV fun h' => CWh h' w (cwPair A v4.toInt i j S) ∧ FrC w h h') := Sp.of rfl (Nat.le_of_ble_eq_true rfl) (fun X C _ _ _ _ => V_X0_tryPair_0 C (by
  have vi := V.2.2.2.2.2.2.2.2.2.2.2.2.2.1 i hi
  have vj := V.2.2.2.2.2.2.2.2.2.2.2.2.2.1 j hj
  obtain ⟨c1, c2, c3, c4⟩ := cwAll_b V n1 hi hj
  have e2 : (hHo h a v2).toInt = A 1 i := by rw [hHo_t H V, if_pos (by omega), ix_of ei]
  have e3 : (hHo h a v3).toInt = A 1 j := by rw [hHo_t H V, if_pos (by omega), ix_of ej]
  have e0 : (gi h a 0).toInt = A 0 0 := H.2.1 0 (by omega)
  have t1 : (gi h a 0 * hHo h a v2).toInt = A 0 0 * A 1 i := by rw [imul_t] <;> rw [e0, e2] <;> omega
  have t2 : (gi h a 0 * hHo h a v2 * hHo h a v3).toInt = A 0 0 * A 1 i * A 1 j := by rw [imul_t] <;> rw [t1, e3] <;> omega
  refine ⟨H.1, fun q => ?_, fun _ => ⟨fun q => ?_, fun _ => ⟨fun q => ?_, fun _ => ⟨by rw [i32_eq, i0_t]; omega, fun q => ?_, fun q => ?_⟩⟩⟩⟩
  · rw [i32_le, i0_t] at q; omega
  · rw [i32_le, i0_t] at q; omega
  · rw [i32_le, i0_t] at q; omega
  · rw [irem_0, t2] at q
    have ed : (gi h a 0 * hHo h a v2 * hHo h a v3 / v4).toInt = cwAll A v4.toInt i j := by rw [idiv_p (by omega) (by omega), t2]; rfl
    exact tp_loop C kw V n1 o ei ej hi hj hij e2 e3 ed q (fun h' f r => ⟨rfl, r, f⟩) (A 1 i - 1).toNat h 1 0 rfl (by omega) FrW.rf R
  · rw [irem_0, t2] at q
    unfold cwPair
    rw [cwAs_no q]
    exact ⟨rfl, R, FrW.rf⟩))
theorem lk_in (C : C_X0_look X) (kw : kd h w = 1) (H : HdR h a A) (V : VA A) (hw : ¬ inH a w) {n v3 v4 : Int32} (n1 : 2 ≤ n.toInt) {S : CW} (o : cwOk A S) {i : Nat} (ei : v3.toInt = i) (hi : (i : Int) < A 0 3) (e4 : v4.toInt = A 2 i)
    (nx : ∀ h', FrC w h h' → CWh h' w (cwJs A n.toInt i S ((A 0 3).toNat - (i + 1))) → Wj X 0 0 Q 7 [(0, .ref w), (1, .ref a), (2, .int n), (3, .int (v3 + Int32.ofInt 1))] [] h') (d : Nat) : ∀ (h' : Hp) (v5 : Int32) (c : Nat), v5.toInt = (i : Int) + 1 + c → (i : Int) + 1 + c + d = A 0 3 → FrC w h h' → CWh h' w (cwJs A n.toInt i S c) → Wj X 0 0 Q 27 [(0, .ref w), (1, .ref a), (2, .int n), (3, .int v3), (4, .int v4), (5, .int v5)] [] h' := by
  have v3' := V.2.2.2.1
  induction d with
  | zero =>
    intro h' v5 c e5 hc f R
    have H' : HdR h' a A := H.wf f (fun b j hb (q : b = w) => hw (by rw [← q]; exact hb)) (fun _ _ _ => id)
    have e3 := H'.2.1 3 (by omega)
    refine V_X0_look_27 C ⟨H'.1, fun _ => nx h' f ?_, fun q => ?_⟩
    · have : (A 0 3).toNat - (i + 1) = c := by omega
      rw [this]; exact R
    · rw [i32_le, e3] at q; omega
  | succ d ih =>
    intro h' v5 c e5 hc f R
    have H' : HdR h' a A := H.wf f (fun b j hb (q : b = w) => hw (by rw [← q]; exact hb)) (fun _ _ _ => id)
    have e3 := H'.2.1 3 (by omega)
    have kw' : kd h' w = 1 := by rw [f.2.1]; exact kw
    have e5' : v5.toInt = ((i + 1 + c : Nat) : Int) := by omega
    have ep : (hPl h' a v5).toInt = A 2 (i + 1 + c) := by rw [hPl_t H' V (by omega) (by omega), ix_of e5']
    obtain ⟨x1, x2⟩ := ix_succ (i := v5) (by omega) (by omega)
    have ok := cwJs_ok V n1 o (i := i) c (by omega)
    refine V_X0_look_27 C ⟨H'.1, fun q => ?_, fun _ => ⟨fun q => nx h' f ?_, fun q => ⟨kw', ?_⟩⟩⟩
    · rw [i32_le, e3] at q; omega
    · rw [i32_eq, ep, e4] at q
      have e : (A 0 3).toNat - (i + 1) = c + (d + 1) := by omega
      rw [e, cwJs_no V (by omega) (fun z => q z.symm) (d + 1) (by omega)]; exact R
    · rw [i32_eq, ep, e4] at q
      refine (cl_tryPair kw' H' V hw n1 ok ei e5' hi (by omega) (by omega) R).mono (fun v h3 hp => ?_)
      obtain ⟨rfl, R3, f3⟩ := hp
      refine ⟨rfl, ih h3 _ (c + 1) (by omega) (by omega) (f.tr f3) ?_⟩
      have e : cwJs A n.toInt i S (c + 1) = cwPair A n.toInt i (i + 1 + c) (cwJs A n.toInt i S c) := if_pos q.symm
      rw [e]; exact R3
theorem lk_out (C : C_X0_look X) (kw : kd h w = 1) (H : HdR h a A) (V : VA A) (hw : ¬ inH a w) {n : Int32} (n1 : 2 ≤ n.toInt) (hq : ∀ h', FrC w h h' → CWh h' w (cwQ A n.toInt) → Q none h') (d : Nat) : ∀ (h' : Hp) (v3 : Int32) (i : Nat), v3.toInt = i → (i : Int) + d = A 0 3 → FrC w h h' → CWh h' w (cwIs A n.toInt i) → Wj X 0 0 Q 7 [(0, .ref w), (1, .ref a), (2, .int n), (3, .int v3)] [] h' := by
  have v3' := V.2.2.2.1
  induction d with
  | zero =>
    intro h' v3 i e3 hi f R
    have H' : HdR h' a A := H.wf f (fun b j hb (q : b = w) => hw (by rw [← q]; exact hb)) (fun _ _ _ => id)
    have g3 := H'.2.1 3 (by omega)
    refine V_X0_look_7 C ⟨H'.1, fun _ => hq h' f ?_, fun q => ?_⟩
    · have : (A 0 3).toNat = i := by omega
      unfold cwQ; rw [this]; exact R
    · rw [i32_le, g3] at q; omega
  | succ d ih =>
    intro h' v3 i e3 hi f R
    have H' : HdR h' a A := H.wf f (fun b j hb (q : b = w) => hw (by rw [← q]; exact hb)) (fun _ _ _ => id)
    have g3 := H'.2.1 3 (by omega)
    have kw' : kd h' w = 1 := by rw [f.2.1]; exact kw
    obtain ⟨x1, x2⟩ := ix_succ (i := v3) (by omega) (by omega)
    have e1 : (v3 + 1).toInt = (i : Int) + 1 + (0 : Nat) := by rw [iadd_t] <;> rw [e3, i1_t] <;> omega
    refine V_X0_look_7 C ⟨H'.1, fun q => ?_, fun _ => ?_⟩
    · rw [i32_le, g3] at q; omega
    · refine lk_in C kw' H' V hw n1 (cwIs_ok V n1 i (by omega)) e3 (by omega) (by rw [hPl_t H' V (by omega) (by omega), ix_of e3]) (fun h2 f2 R2 => ih h2 _ (i + 1) (by omega) (by omega) (f.tr f2) R2) ((A 0 3).toNat - (i + 1)) h' _ 0 e1 (by omega) FrW.rf R
theorem cl_look0 (kw : kd h w = 1) (H : HdR h a A) (V : VA A) (hw : ¬ inH a w) {n : Int32} (n1 : 2 ≤ n.toInt) : S_X0_look l D 0 0 [.ref w, .ref a, .int n] h (QV fun h' => CWh h' w (cwQ A n.toInt) ∧ FrC w h h') := Sp.of rfl (Nat.le_of_ble_eq_true rfl) (fun X C _ _ _ _ => V_X0_look_0 C (by
  have v3' := V.2.2.2.1
  refine ⟨kw, lk_out C kw H V hw n1 (fun h' f R => ⟨rfl, R, f⟩) (A 0 3).toNat _ 0 0 rfl (by omega) (FrW.rf.si rfl) ⟨⟨?_, fun z => absurd rfl z⟩, fun z => absurd rfl z⟩⟩
  unfold gf; rw [gi_si, if_pos ⟨rfl, rfl⟩]; rfl))
theorem ca_compound (S : CSt h x m s) {n : Int32} : S_X9_compound l D 0 0 [.ref x, .int n] h (QI fun y h' => y.toInt = (compoundP s n.toInt).1 ∧ CSt h' x m (compoundP s n.toInt).2 ∧ FrX (inC x m) h h') := Sp.of rfl (Nat.le_of_ble_eq_true rfl) (fun X C _ _ _ _ => V_X9_compound_0 C (by
  obtain ⟨a, ea, Ha, ba⟩ := S.now
  obtain ⟨n12, g12⟩ := nn_of ea
  have V := S.2.2.2.2.1.1
  rw [g12]
  unfold compoundP
  refine ⟨fun q => ⟨S.1, n12, ?_⟩, fun q => ⟨_, rfl, ?_⟩⟩
  all_goals rw [bt_0] at q
  · have hq : 2 ≤ n.toInt ∧ n.toInt ≤ 400 := by have e1 : (2 : Int32).toInt = 2 := rfl; have e2 : (400 : Int32).toInt = 400 := rfl; omega
    rw [if_pos hq]
    refine (cl_look0 (w := x + 6) (St9_k3 S.1) Ha V (fun z => by unfold inH at z; omega) hq.1).mono (fun w h3 hp => ?_)
    obtain ⟨rfl, R3, f3⟩ := hp
    obtain ⟨S3, p3, x3⟩ := S.scr f3 (fun b j (q : b = x + 6) => Or.inl (by omega)) (fun _ _ q => absurd q id)
    generalize cwQ (sA s) n.toInt = W at *
    obtain ⟨⟨r0, r1⟩, r2⟩ := R3
    have c0 : (gi h3 (x + 6) 0).toInt = W.1 := r0
    refine ⟨rfl, S3.1, fun q1 => ?_, fun q1 => ⟨_, rfl, ?_⟩⟩
    all_goals rw [i32_eq, c0, i0_t] at q1
    · rw [if_neg q1]
      obtain ⟨a3, a4, a5⟩ := r1 q1
      obtain ⟨a1, a2⟩ := r2 q1
      have keep : ∀ h', FrW (dI (x + 3)) (dL (x + 3)) h3 h' → ∀ j, gi h' (x + 6) j = gi h3 (x + 6) j := fun h' f j => f.xi (fun q => by have := q.1; omega)
      have k0 : gi (tcl h3 (x + 3)) (x + 6) 1 = gi h3 (x + 6) 1 := keep _ (FrW.rf.tcl) 1
      rw [k0]
      refine (cl_add (h := tcl h3 (x + 3)) (L := []) (St9_s1 S3.1) TdC.clr (by decide) (z := W.2.1) (by rw [i2l_t]; exact a1)).mono (fun w h5 hp => ?_)
      obtain ⟨rfl, t5, f5⟩ := hp
      have f35 : FrW (dI (x + 3)) (dL (x + 3)) h3 h5 := (FrW.rf.tcl).tr f5
      have F5 : St9 h5 x := St9_same S3.1 f35.2.1 f35.2.2.1 f35.2.2.2.1
      refine ⟨rfl, F5, (cl_add (St9_s1 F5) t5 (by simp) (z := W.2.2.1) (by rw [i2l_t, keep h5 f35]; exact a2)).mono (fun w h7 hp => ?_)⟩
      obtain ⟨rfl, t7, f7⟩ := hp
      have f37 := f35.tr f7
      have F7 : St9 h7 x := St9_same S3.1 f37.2.1 f37.2.2.1 f37.2.2.2.1
      refine ⟨rfl, F7, (cl_add (St9_s1 F7) t7 (by simp) (z := W.2.2.2.1) (by rw [i2l_t, keep h7 f37]; exact a3)).mono (fun w h9 hp => ?_)⟩
      obtain ⟨rfl, t9, f9⟩ := hp
      have f39 := f37.tr f9
      have F9 : St9 h9 x := St9_same S3.1 f39.2.1 f39.2.2.1 f39.2.2.2.1
      refine ⟨rfl, F9, (cl_add (St9_s1 F9) t9 (by simp) (z := W.2.2.2.2.1) (by rw [i2l_t, keep h9 f39]; exact a4)).mono (fun w h11 hp => ?_)⟩
      obtain ⟨rfl, t11, f11⟩ := hp
      have f311 := f39.tr f11
      have F11 : St9 h11 x := St9_same S3.1 f311.2.1 f311.2.2.1 f311.2.2.2.1
      refine ⟨rfl, F11, (cl_add (St9_s1 F11) t11 (by simp) (z := W.2.2.2.2.2) (by rw [i2l_t, keep h11 f311]; exact a5)).mono (fun w h13 hp => ?_)⟩
      obtain ⟨rfl, t13, f13⟩ := hp
      have f313 := f311.tr f13
      obtain ⟨S13, p13, x13⟩ := S3.row f313 t13
      exact ⟨rfl, S13.1, _, rfl, by rw [keep h13 f313]; exact c0, S13, x3.tr x13⟩
    · rw [if_pos q1]
      exact ⟨rfl, S3, x3⟩
  · have hq : ¬ (2 ≤ n.toInt ∧ n.toInt ≤ 400) := by have e1 : (2 : Int32).toInt = 2 := rfl; have e2 : (400 : Int32).toInt = 400 := rfl; omega
    rw [if_neg hq]; exact ⟨rfl, S, FrX.rf⟩))
end CCm
