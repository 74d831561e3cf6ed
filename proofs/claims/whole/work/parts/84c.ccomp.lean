-- compound() of the class: two circles
section CCm
variable {X : Ctx} {l : Launch} {D : Dt} {h : Hp} {x m a w : Nat} {Q : Pq} {A : HV} {s : Sv}
theorem tp_loop (C : C_X0_tryPair X) (kw : kd h w = 1) (V : VA A) {n : Int} (n1 : 2 ≤ n) {S : CW} (o : cwOk A S) {v2 v3 v5 v6 v8 : Int32} {i j : Nat} (ei : v2.toInt = i) (ej : v3.toInt = j) (hi : (i : Int) < A 0 3) (hj : (j : Int) < A 0 3) (hij : i < j) (e5 : v5.toInt = A 1 i) (e6 : v6.toInt = A 1 j) (e8 : v8.toInt = cwAll A n i j) (hd : (A 0 0 * A 1 i * A 1 j) % n = 0)
    (hq : ∀ h', FrC w h h' → CWh h' w (cwPair A n i j S) → Q none h') (d : Nat) : ∀ (h' : Hp) (v9 : Int32) (c : Nat), v9.toInt = (c : Int) + 1 → (c : Int) + 1 + d = A 1 i → FrC w h h' → CWh h' w (cwAs A n i j S c) → Wj X 0 0 Q 60 [(0, .ref w), (2, .int v2), (3, .int v3), (5, .int v5), (6, .int v6), (8, .int v8), (9, .int v9)] [] h' := by
  have vi := V.2.2.2.2.2.2.2.2.2.2.2.2.2.1 i hi
  have vj := V.2.2.2.2.2.2.2.2.2.2.2.2.2.1 j hj
  induction d with
  | zero =>
    intro h' v9 c e9 hc f R
    refine V_X0_tryPair_60 C ⟨fun _ => hq h' f ?_, fun q => ?_⟩
    · have : (A 1 i - 1).toNat = c := by omega
      unfold cwPair; rw [this]; exact R
    · rw [i32_le] at q; omega
  | succ d ih =>
    intro h' v9 c e9 hc f R
    have kw' : kd h' w = 1 := by rw [f.2.1]; exact kw
    have ok := cwAs_ok V n1 o hi hj hij c (by omega)
    have g0 : (gi h' w 0).toInt = (cwAs A n i j S c).1 := R.1.1
    obtain ⟨b1, b2, b3, b4, b5, b6, b7⟩ := cwR_b V n1 hi hj (a := (c : Int) + 1) (by omega) (by omega)
    obtain ⟨x1, x2⟩ := ix_succ (i := v9) (by omega) (by omega)
    have t1 : (v9 * v6).toInt = ((c : Int) + 1) * A 1 j := by rw [imul_t] <;> rw [e9, e6] <;> omega
    have t2 : (v8 - v9 * v6).toInt = cwAll A n i j - ((c : Int) + 1) * A 1 j := by rw [isub_t] <;> rw [e8, t1] <;> omega
    have go : Wj X 0 0 Q 83 [(0, .ref w), (2, .int v2), (3, .int v3), (5, .int v5), (6, .int v6), (8, .int v8), (9, .int v9)] [] h' := by
      refine V_X0_tryPair_83 C ⟨by rw [i32_eq, i0_t]; omega, fun q => ?_, fun q => ⟨kw', ?_⟩⟩
      all_goals rw [irem_0, t2, e5] at q
      · refine ih h' _ (c + 1) (by omega) (by omega) f ?_
        show CWh h' w (cwA A n i j ((c : Int) + 1) (cwAs A n i j S c))
        rw [cwA_neg (fun z => q z.2)]; exact R
      · have ed : ((v8 - v9 * v6) / v5).toInt = cwR A n i j ((c : Int) + 1) := by
          rw [idiv_x (by omega) (by rw [t2, e5]; exact Int.dvd_of_emod_eq_zero q), t2, e5]; rfl
        have hC : cwC A n i j ((c : Int) + 1) := ⟨hd, q⟩
        refine (cl_offer kw' R.1 ok.1 (p := v9) (r := (v8 - v9 * v6) / v5) (k := v6) i j (by omega) (by omega) (by omega) (by omega) (by omega) (by omega)).mono (fun v h3 hp => ?_)
        obtain ⟨y, rfl, R3, a1, a2, a3, f3⟩ := hp
        rw [ed, e6, e9, ← cwA_pos hC (S := cwAs A n i j S c)] at R3 a1 a2
        refine ⟨y, rfl, fun q2 => ?_, fun q2 => ⟨by rw [f3.2.1]; exact kw', ?_⟩⟩
        · refine ih h3 _ (c + 1) (by omega) (by omega) (f.tr f3) ⟨R3, ?_⟩
          show (cwA A n i j ((c : Int) + 1) (cwAs A n i j S c)).1 ≠ 0 → _
          rw [a3.1, a3.2]
          show (cwA A n i j ((c : Int) + 1) (cwAs A n i j S c)).1 ≠ 0 → gf h' w 1 = (cwA A n i j ((c : Int) + 1) (cwAs A n i j S c)).2.1 ∧ gf h' w 2 = (cwA A n i j ((c : Int) + 1) (cwAs A n i j S c)).2.2.1
          rw [a1 q2]; exact R.2
        · refine ih _ _ (c + 1) (by omega) (by omega) (FrC.s (FrC.s (f.tr f3))) ⟨?_, fun _ => ?_⟩
          · obtain ⟨r1, r2⟩ := R3
            refine ⟨?_, fun q3 => ?_⟩
            · unfold gf; rw [gi_si, if_neg (by omega), gi_si, if_neg (by omega)]; exact r1
            · obtain ⟨y1, y2, y3⟩ := r2 q3
              refine ⟨?_, ?_, ?_⟩ <;> unfold gf <;> rw [gi_si, if_neg (by omega), gi_si, if_neg (by omega)]
              · exact y1
              · exact y2
              · exact y3
          · obtain ⟨y1, y2⟩ := a2 q2
            refine ⟨?_, ?_⟩
            · unfold gf; rw [gi_si, if_neg (by omega), gi_si, if_pos ⟨rfl, rfl⟩, ei]; exact y1.symm
            · unfold gf; rw [gi_si, if_pos ⟨rfl, rfl⟩, ej]; exact y2.symm
    refine V_X0_tryPair_60 C ⟨fun q => ?_, fun _ => ⟨kw', fun _ => go, fun q => ⟨fun q2 => hq h' f ?_, fun _ => go⟩⟩⟩
    · rw [i32_le] at q; omega
    · rw [i32_eq, g0, i0_t] at q
      rw [i32_le, g0] at q2
      have e : (A 1 i - 1).toNat = c + (d + 1) := by omega
      unfold cwPair
      rw [e, cwAs_big q (by omega)]; exact R
theorem cl_tryPair (kw : kd h w = 1) (H : HdR h a A) (V : VA A) (hw : ¬ inH a w) {v2 v3 v4 : Int32} (n1 : 2 ≤ v4.toInt) {S : CW} (o : cwOk A S) {i j : Nat} (ei : v2.toInt = i) (ej : v3.toInt = j) (hi : (i : Int) < A 0 3) (hj : (j : Int) < A 0 3) (hij : i < j) (R : CWh h w S) : S_X0_tryPair l D 0 0 [.ref w, .ref a, .int v2, .int v3, .int v4] h (QV fun h' => CWh h' w (cwPair A v4.toInt i j S) ∧ FrC w h h') := Sp.of rfl (Nat.le_of_ble_eq_true rfl) (fun X C _ _ _ _ => V_X0_tryPair_0 C (by
  have vi := V.2.2.2.2.2.2.2.2.2.2.2.2.2.1 i hi
  have vj := V.2.2.2.2.2.2.2.2.2.2.2.2.2.1 j hj
  obtain ⟨c1, c2, c3, c4⟩ := cwAll_b V n1 hi hj
  have e2 : (hHo h a v2).toInt = A 1 i := by rw [hHo_t H V, if_pos (by omega), ix_of ei]
  have e3 : (hHo h a v3).toInt = A 1 j := by rw [hHo_t H V, if_pos (by omega), ix_of ej]
  have e0 : (gi h a 0).toInt = A 0 0 := H.2.1 0 (by omega)
  have t1 : (gi h a 0 * hHo h a v2).toInt = A 0 0 * A 1 i := by rw [imul_t] <;> rw [e0, e2] <;> omega
  have t2 : (gi h a 0 * hHo h a v2 * hHo h a v3).toInt = A 0 0 * A 1 i * A 1 j := by rw [imul_t] <;> rw [t1, e3] <;> omega
  refine ⟨H.1, fun q => ?_, fun _ => ⟨fun q => ?_, fun _ => ⟨fun q => ?_, fun _ => ⟨by rw [i32_eq, i0_t]; omega, fun q => ?_, fun q => ?_⟩⟩⟩⟩
  · rw [i32_le, i0_t] at q; omega
  · rw [i32_le, i0_t] at q; omega
  · rw [i32_le, i0_t] at q; omega
  · rw [irem_0, t2] at q
    have ed : (gi h a 0 * hHo h a v2 * hHo h a v3 / v4).toInt = cwAll A v4.toInt i j := by rw [idiv_p (by omega) (by omega), t2]; rfl
    exact tp_loop C kw V n1 o ei ej hi hj hij e2 e3 ed q (fun h' f r => ⟨rfl, r, f⟩) (A 1 i - 1).toNat h 1 0 rfl (by omega) FrC.rf R
  · rw [irem_0, t2] at q
    unfold cwPair
    rw [cwAs_no q]
    exact ⟨rfl, R, FrC.rf⟩))
end CCm
