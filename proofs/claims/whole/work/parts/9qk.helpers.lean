-- the law's helpers: their contracts
theorem dL_circle_0 : decode cL_circle 0 = .ok (.aload_n 2, 1) := by decide +kernel
theorem dL_circle_1 : decode cL_circle 1 = .ok (.iconst 0, 1) := by decide +kernel
theorem dL_circle_2 : decode cL_circle 2 = .ok (.aload_n 0, 1) := by decide +kernel
theorem dL_circle_3 : decode cL_circle 3 = .ok (.iload_n 1, 1) := by decide +kernel
theorem dL_circle_4 : decode cL_circle 4 = .ok (.invokevirtual 7, 3) := by decide +kernel
theorem dL_circle_7 : decode cL_circle 7 = .ok (.i2l, 1) := by decide +kernel
theorem dL_circle_8 : decode cL_circle 8 = .ok (.lastore, 1) := by decide +kernel
theorem dL_circle_9 : decode cL_circle 9 = .ok (.goto 6, 3) := by decide +kernel
theorem dL_circle_12 : decode cL_circle 12 = .ok (.astore_n 3, 1) := by decide +kernel
theorem dL_circle_13 : decode cL_circle 13 = .ok (.iconst 1, 1) := by decide +kernel
theorem dL_circle_14 : decode cL_circle 14 = .ok (.ireturn, 1) := by decide +kernel
theorem dL_circle_15 : decode cL_circle 15 = .ok (.iconst 0, 1) := by decide +kernel
theorem dL_circle_16 : decode cL_circle 16 = .ok (.ireturn, 1) := by decide +kernel
theorem dL_gear_0 : decode cL_gear 0 = .ok (.aload_n 2, 1) := by decide +kernel
theorem dL_gear_1 : decode cL_gear 1 = .ok (.iconst 0, 1) := by decide +kernel
theorem dL_gear_2 : decode cL_gear 2 = .ok (.aload_n 0, 1) := by decide +kernel
theorem dL_gear_3 : decode cL_gear 3 = .ok (.iload_n 1, 1) := by decide +kernel
theorem dL_gear_4 : decode cL_gear 4 = .ok (.invokevirtual 15, 3) := by decide +kernel
theorem dL_gear_7 : decode cL_gear 7 = .ok (.i2l, 1) := by decide +kernel
theorem dL_gear_8 : decode cL_gear 8 = .ok (.lastore, 1) := by decide +kernel
theorem dL_gear_9 : decode cL_gear 9 = .ok (.goto 6, 3) := by decide +kernel
theorem dL_gear_12 : decode cL_gear 12 = .ok (.astore_n 3, 1) := by decide +kernel
theorem dL_gear_13 : decode cL_gear 13 = .ok (.iconst 1, 1) := by decide +kernel
theorem dL_gear_14 : decode cL_gear 14 = .ok (.ireturn, 1) := by decide +kernel
theorem dL_gear_15 : decode cL_gear 15 = .ok (.iconst 0, 1) := by decide +kernel
theorem dL_gear_16 : decode cL_gear 16 = .ok (.ireturn, 1) := by decide +kernel
theorem dL_row_0 : decode cL_row 0 = .ok (.aload_n 2, 1) := by decide +kernel
theorem dL_row_1 : decode cL_row 1 = .ok (.iconst 0, 1) := by decide +kernel
theorem dL_row_2 : decode cL_row 2 = .ok (.aload_n 0, 1) := by decide +kernel
theorem dL_row_3 : decode cL_row 3 = .ok (.iload_n 1, 1) := by decide +kernel
theorem dL_row_4 : decode cL_row 4 = .ok (.invokevirtual 18, 3) := by decide +kernel
theorem dL_row_7 : decode cL_row 7 = .ok (.lastore, 1) := by decide +kernel
theorem dL_row_8 : decode cL_row 8 = .ok (.goto 6, 3) := by decide +kernel
theorem dL_row_11 : decode cL_row 11 = .ok (.astore_n 3, 1) := by decide +kernel
theorem dL_row_12 : decode cL_row 12 = .ok (.iconst 1, 1) := by decide +kernel
theorem dL_row_13 : decode cL_row 13 = .ok (.ireturn, 1) := by decide +kernel
theorem dL_row_14 : decode cL_row 14 = .ok (.iconst 0, 1) := by decide +kernel
theorem dL_row_15 : decode cL_row 15 = .ok (.ireturn, 1) := by decide +kernel
section HelpC
variable {l : Launch} {D : Dt} {h h' : Hp} {x m o : Nat} {s : Sv}
theorem CSt.out (S : CSt h x m s) (eo : o = m + 17) {j : Nat} {v : Int64} : CSt (sl h o j v) x m s := by
  have hm := S.2.1
  exact (S.fr (P := fun _ _ => False) (R := fun b _ => b = o) (FrW.sl (P := fun _ _ => False) (R := fun b _ => b = o) FrW.rf rfl) (fun q => q) (fun _ _ _ _ q => q) (fun j (q : x + 4 = o) => by omega) (fun i a b j hi h1 e hb => ⟨id, fun (q : b = o) => by have := (S.2.2.1.1 i a hi e).2; unfold inH at hb; omega⟩) (fun sh b j e h1 h2 => ⟨id, fun (q : b = o) => by have := (S.2.2.2.2.2.2.2.2 sh e).2.1; omega⟩)).1
/-- what a helper leaves -/
def HoC (h : Hp) (x m o : Nat) (V : Prop) (z : Int) (s s' : Sv) : Pq := QI fun y h' => ((V ∧ y = 0 ∧ (gl h' o 0).toInt = z ∧ CSt h' x m s') ∨ (¬ V ∧ y = 1 ∧ CSt h' x m s)) ∧ FrX (fun b => inC x m b ∨ b = o) h h' ∧ gr h' x 14 = gr h x 14
theorem lh_circle (hfl : l.stackTraces = false) (S : CSt h x m s) (o1 : kd h o = 21) (o2 : ln h o = 1) (eo : o = m + 17) {k : Int32} : Sh l D yL_circle cL_circle 4 (some .int) [(0, 9, 12, 13)] 9 141 1 6 [.ref x, .int k, .ref o] h (HoC h x m o (zc s 3 k) (sA s 1 k.toInt.toNat) s (rowS s [sA s 2 k.toInt.toNat])) := Sh.of rfl (Nat.le_of_ble_eq_true rfl) (fun X C T hl hD hmc hms => by
  have ol : o < hn h := by have := S.2.1; omega
  refine w_aload_n (pc := 0) C dL_circle_0 rfl ?_
  refine w_iconst (pc := 1) (v := 0) C dL_circle_1 rfl ?_
  refine w_aload_n (pc := 2) C dL_circle_2 rfl ?_
  refine w_iload_n (pc := 3) C dL_circle_3 rfl ?_
  refine h_callV (pc := 4) (As := [.int k]) (st := [.int 0, .ref o]) (k' := 1) (n' := 6) (c := 9) C T cl_nseL rfl (by decide) cl_L_7 lv_X9_circle (by decide) dL_circle_4 rfl rfl (Nat.le_of_ble_eq_true rfl) rfl (by rw [hmc]; decide) (by rw [hms]; decide) (St9_k S.1) ((cx_circle (by rw [hl]; exact hfl) S).mono (fun v h1 hp => ?_) (fun h1 hp q => ?_))
  · obtain ⟨y, rfl, zv, ey, S1, f1, g1⟩ := hp
    have k1 : kd h1 o = 21 := (f1.2 o ol).1.1.trans o1
    have n1 : ln h1 o = 1 := (f1.2 o ol).1.2.trans o2
    show Wj X (0 + 1) (0 + 6) _ 7 _ [.int y, .int 0, .ref o] h1
    refine w_i2l (pc := 7) C dL_circle_7 ?_
    refine w_last (pc := 8) C dL_circle_8 k1 (by rw [n1]; exact ⟨by decide, by decide⟩) ?_
    refine w_goto (pc := 9) (tgt := 15) C dL_circle_9 rfl ?_
    refine w_iconst (pc := 15) (v := 0) C dL_circle_15 rfl ?_
    refine w_iret (pc := 16) C dL_circle_16 ⟨_, rfl, Or.inl ⟨zv, rfl, ?_, S1.out eo⟩, (f1.mono (fun b _ q => Or.inl q)).sl (Or.inl (Or.inr rfl)), g1⟩
    rw [gl_sl, if_pos ⟨rfl, rfl⟩]
    rw [i2l_t]; exact ey
  · obtain ⟨zv, S1, f1, g1⟩ := hp
    refine w_astore_n (pc := 12) C dL_circle_12 (by decide) ?_
    refine w_iconst (pc := 13) (v := 1) C dL_circle_13 rfl ?_
    exact w_iret (pc := 14) C dL_circle_14 ⟨_, rfl, Or.inr ⟨zv, rfl, S1⟩, f1.mono (fun b _ q => Or.inl q), g1⟩)
theorem lh_gear (hfl : l.stackTraces = false) (S : CSt h x m s) (o1 : kd h o = 21) (o2 : ln h o = 1) (eo : o = m + 17) {k : Int32} : Sh l D yL_gear cL_gear 4 (some .int) [(0, 9, 12, 13)] 9 141 1 6 [.ref x, .int k, .ref o] h (HoC h x m o (zc s 4 k) (sA s 3 k.toInt.toNat) s s) := Sh.of rfl (Nat.le_of_ble_eq_true rfl) (fun X C T hl hD hmc hms => by
  have ol : o < hn h := by have := S.2.1; omega
  refine w_aload_n (pc := 0) C dL_gear_0 rfl ?_
  refine w_iconst (pc := 1) (v := 0) C dL_gear_1 rfl ?_
  refine w_aload_n (pc := 2) C dL_gear_2 rfl ?_
  refine w_iload_n (pc := 3) C dL_gear_3 rfl ?_
  refine h_callV (pc := 4) (As := [.int k]) (st := [.int 0, .ref o]) (k' := 1) (n' := 6) (c := 9) C T cl_nseL rfl (by decide) cl_L_15 lv_X9_gear (by decide) dL_gear_4 rfl rfl (Nat.le_of_ble_eq_true rfl) rfl (by rw [hmc]; decide) (by rw [hms]; decide) (St9_k S.1) ((cx_gear (by rw [hl]; exact hfl) S).mono (fun v h1 hp => ?_) (fun h1 hp q => ?_))
  · obtain ⟨y, rfl, zv, ey, S1, f1, g1⟩ := hp
    have k1 : kd h1 o = 21 := (f1.2 o ol).1.1.trans o1
    have n1 : ln h1 o = 1 := (f1.2 o ol).1.2.trans o2
    show Wj X (0 + 1) (0 + 6) _ 7 _ [.int y, .int 0, .ref o] h1
    refine w_i2l (pc := 7) C dL_gear_7 ?_
    refine w_last (pc := 8) C dL_gear_8 k1 (by rw [n1]; exact ⟨by decide, by decide⟩) ?_
    refine w_goto (pc := 9) (tgt := 15) C dL_gear_9 rfl ?_
    refine w_iconst (pc := 15) (v := 0) C dL_gear_15 rfl ?_
    refine w_iret (pc := 16) C dL_gear_16 ⟨_, rfl, Or.inl ⟨zv, rfl, ?_, S1.out eo⟩, (f1.mono (fun b _ q => Or.inl q)).sl (Or.inl (Or.inr rfl)), g1⟩
    rw [gl_sl, if_pos ⟨rfl, rfl⟩]
    rw [i2l_t]; exact ey
  · obtain ⟨zv, S1, f1, g1⟩ := hp
    refine w_astore_n (pc := 12) C dL_gear_12 (by decide) ?_
    refine w_iconst (pc := 13) (v := 1) C dL_gear_13 rfl ?_
    exact w_iret (pc := 14) C dL_gear_14 ⟨_, rfl, Or.inr ⟨zv, rfl, S1⟩, f1.mono (fun b _ q => Or.inl q), g1⟩)
theorem lh_row (hfl : l.stackTraces = false) (S : CSt h x m s) (o1 : kd h o = 21) (o2 : ln h o = 1) (eo : o = m + 17) {k : Int32} : Sh l D yL_row cL_row 4 (some .int) [(0, 8, 11, 13)] 9 141 1 6 [.ref x, .int k, .ref o] h (HoC h x m o (zr s k) (((sR s).getD k.toInt.toNat 0)) s s) := Sh.of rfl (Nat.le_of_ble_eq_true rfl) (fun X C T hl hD hmc hms => by
  have ol : o < hn h := by have := S.2.1; omega
  refine w_aload_n (pc := 0) C dL_row_0 rfl ?_
  refine w_iconst (pc := 1) (v := 0) C dL_row_1 rfl ?_
  refine w_aload_n (pc := 2) C dL_row_2 rfl ?_
  refine w_iload_n (pc := 3) C dL_row_3 rfl ?_
  refine h_callV (pc := 4) (As := [.int k]) (st := [.int 0, .ref o]) (k' := 1) (n' := 6) (c := 9) C T cl_nseL rfl (by decide) cl_L_18 lv_X9_row (by decide) dL_row_4 rfl rfl (Nat.le_of_ble_eq_true rfl) rfl (by rw [hmc]; decide) (by rw [hms]; decide) (St9_k S.1) ((cx_row (by rw [hl]; exact hfl) S).mono (fun v h1 hp => ?_) (fun h1 hp q => ?_))
  · obtain ⟨y, rfl, zv, ey, S1, f1, g1⟩ := hp
    have k1 : kd h1 o = 21 := (f1.2 o ol).1.1.trans o1
    have n1 : ln h1 o = 1 := (f1.2 o ol).1.2.trans o2
    show Wj X (0 + 1) (0 + 6) _ 7 _ [.long y, .int 0, .ref o] h1
    refine w_last (pc := 7) C dL_row_7 k1 (by rw [n1]; exact ⟨by decide, by decide⟩) ?_
    refine w_goto (pc := 8) (tgt := 14) C dL_row_8 rfl ?_
    refine w_iconst (pc := 14) (v := 0) C dL_row_14 rfl ?_
    refine w_iret (pc := 15) C dL_row_15 ⟨_, rfl, Or.inl ⟨zv, rfl, ?_, S1.out eo⟩, (f1.mono (fun b _ q => Or.inl q)).sl (Or.inl (Or.inr rfl)), g1⟩
    rw [gl_sl, if_pos ⟨rfl, rfl⟩]
    exact ey
  · obtain ⟨zv, S1, f1, g1⟩ := hp
    refine w_astore_n (pc := 11) C dL_row_11 (by decide) ?_
    refine w_iconst (pc := 12) (v := 1) C dL_row_12 rfl ?_
    exact w_iret (pc := 13) C dL_row_13 ⟨_, rfl, Or.inr ⟨zv, rfl, S1⟩, f1.mono (fun b _ q => Or.inl q), g1⟩)
end HelpC
