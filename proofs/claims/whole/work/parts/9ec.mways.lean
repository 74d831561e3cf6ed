-- ways() of the reference
section Wyn
variable {X : Ctx} {l : Launch} {D : Dt} {h : Hp} {m : Nat} {Q : Pq} {A : HV} {s : Sv}
set_option maxHeartbeats 200000 in
theorem ma_ways (S : MSt h m s) {n : Int32} : S_X10_ways l D 0 0 [.ref m, .int n] h (QI fun y h' => y.toInt = (waysP s n.toInt).1 ∧ MSt h' m (waysP s n.toInt).2 ∧ FrO (inM m) h h') := Sp.of rfl (Nat.le_of_ble_eq_true rfl) (fun X C _ _ _ _ => V_X10_ways_0 C (by
  obtain ⟨S1, f1⟩ := S.t0
  have V := S.1.va
  have i2 : (2 : Int32).toInt = 2 := rfl
  have i4 : (4 : Int32).toInt = 4 := rfl
  unfold waysP
  refine ⟨S.1.1, fun q => ?_, fun q => ⟨_, rfl, ?_⟩⟩
  all_goals rw [btL_0, i2l_t, l2_t, l400_t] at q
  · have hq : 2 ≤ n.toInt ∧ n.toInt ≤ 400 := by omega
    rw [if_pos hq]
    refine (ma_waysOf S1.1.md V (n := n) hq.1 hq.2).mono (fun w h2 hp => ?_)
    obtain ⟨y, rfl, hy, f2⟩ := hp
    obtain ⟨S2, g2⟩ := FrY.ms S1 f2
    have w0 := hw_01 (A := sA s) (n := n.toInt) (k := 0)
    have w1 := hw_01 (A := sA s) (n := n.toInt) (k := 1)
    have w2 := hw_01 (A := sA s) (n := n.toInt) (k := 2)
    generalize hw (sA s) n.toInt 0 = W0 at *
    generalize hw (sA s) n.toInt 1 = W1 at *
    generalize hw (sA s) n.toInt 2 = W2 at *
    have r1 : (y % 2).toInt = y.toInt % 2 := by rw [irem_p (by omega), i2]
    have d1 : (y / 2).toInt = y.toInt / 2 := by rw [idiv_p (by omega) (by rw [i2]; omega), i2]
    have r2 : (y / 2 % 2).toInt = y.toInt / 2 % 2 := by rw [irem_p (by omega), i2, d1]
    have d2 : (y / 4).toInt = y.toInt / 4 := by rw [idiv_p (by omega) (by rw [i4]; omega), i4]
    have s1 : (y % 2 + y / 2 % 2).toInt = y.toInt % 2 + y.toInt / 2 % 2 := by rw [iadd_t] <;> rw [r1, r2] <;> omega
    have s2 : (y % 2 + y / 2 % 2 + y / 4).toInt = W0 + W1 + W2 := by rw [iadd_t] <;> rw [s1, d2] <;> omega
    have ft : FrW (rI m) (rL m) h2 (si h2 m 1 0) := FrW.si (P := rI m) (R := rL m) FrW.rf ⟨rfl, rfl⟩
    refine ⟨y, rfl, S2.1.1, (ma_enters (h := si h2 m 1 0) (L := []) S2.1.1 (RwM.clr 0 rfl) (by decide) (z := W0 + W1 + W2) (by rw [i2l_t]; exact s2)).mono (fun w h5 hp => ?_)⟩
    obtain ⟨rfl, w5, f5⟩ := hp
    obtain ⟨S5, g5⟩ := S2.row (ft.tr f5) w5
    exact ⟨rfl, y, rfl, hy, S5, (f1.tr g2).tr g5⟩
  · rw [if_neg (by omega)]; exact ⟨rfl, S1, f1⟩))
end Wyn
