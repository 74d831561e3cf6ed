-- circle, gear, row of the class
section CxC
variable {h : Hp} {x m : Nat} {s : Sv} {l : Launch} {D : Dt}
def zc (s : Sv) (f : Nat) (k : Int32) : Prop := 0 ≤ k.toInt ∧ k.toInt < sA s 0 f
def zr (s : Sv) (k : Int32) : Prop := 0 ≤ k.toInt ∧ k.toInt < (sR s).length
theorem cx_circle (hfl : l.stackTraces = false) (S : CSt h x m s) {k : Int32} : Sx l D yX9_circle cX9_circle 2 (some .int) 8 120 1 6 [.ref x, .int k] h (QI fun y h' => zc s 3 k ∧ y.toInt = sA s 1 k.toInt.toNat ∧ CSt h' x m (rowS s [sA s 2 k.toInt.toNat]) ∧ FrX (inC x m) h h' ∧ gr h' x 14 = gr h x 14) (fun h' => ¬ zc s 3 k ∧ CSt h' x m s ∧ FrX (inC x m) h h' ∧ gr h' x 14 = gr h x 14) := Sx.of hfl rfl (Nat.le_of_ble_eq_true rfl) (fun X C T _ _ hmc hms => by
  obtain ⟨a, ea, Ha, ba⟩ := S.now
  obtain ⟨n12, g12⟩ := nn_of ea
  have V := S.2.2.2.2.1.1
  have h3 := Ha.2.1 3 (by omega)
  have v3 := V.2.2.2.1
  refine x_aload_n (pc := 0) C dX9_circle_0 rfl ?_
  refine x_getR (pc := 1) C fl_X9_78 rfl dX9_circle_1 (St9_k S.1) ea ?_
  refine x_iload_n (pc := 4) C dX9_circle_4 rfl ?_
  refine x_callV (pc := 5) (As := [.int k]) (st := []) (k' := 0) (n' := 0) (c := 4) C cl_X9_152 lv_X4_isCircle (by decide) dX9_circle_5 rfl rfl (by decide) rfl (by rw [hmc]; decide) (by rw [hms]; decide) (St4_k Ha.1) ((sf_X4_isCircle (h := h) Ha.1).mono (fun v h9 hp => ?_))
  obtain ⟨e1, e2⟩ := hp
  rw [e1, e2]
  refine x_if_ne (pc := 8) (tgt := 19) C dX9_circle_8 rfl ⟨fun q => ?_, fun q => ?_⟩
  all_goals rw [hIs_0, h3] at q
  · have q : zc s 3 k := Classical.not_not.mp q
    obtain ⟨q0, q1⟩ := id q
    refine Wx.of (V_X9_circle_19 C ⟨S.1, n12, ?_⟩)
    rw [g12]
    have hk := ix_t q0
    have ek : ix k = k.toInt.toNat := rfl
    have Hc : HdR (tcl h (x + 3)) a (sA s) := Ha.fr (FrO.rf.si (S := fun b => b = x + 3) rfl) (fun b hb (q : b = x + 3) => by unfold inH at hb; omega)
    have ev : ((hPl (tcl h (x + 3)) a k).toInt64).toInt = sA s 2 k.toInt.toNat := by
      rw [i2l_t]
      unfold hPl
      rw [Hc.2.1 3 (by omega), if_pos ⟨q0, q1, by omega⟩]
      exact (Hc.2.2.2.2.2.2.2.1 (ix k) (by omega)).2
    refine ⟨Ha.1, (cl_add (h := tcl h (x + 3)) (L := []) (St9_s1 S.1) TdC.clr (by decide) ev).mono (fun w h4 hp => ?_)⟩
    obtain ⟨rfl, w4, f4⟩ := hp
    have f04 : FrW (dI (x + 3)) (dL (x + 3)) h h4 := (FrW.rf.tcl).tr f4
    obtain ⟨S4, p4, x4⟩ := S.row f04 w4
    have H4 : HdR h4 a (sA s) := Ha.frX (f04.x (S := fun b => b = x + 3 ∨ b = x + 4) (fun b j q => Or.inl q.1) (fun b j (q : b = x + 3 + 1) => Or.inr (by omega))) (fun b hb q => by unfold inH at hb; omega) ba.2.2
    have e4 : gr h4 x 12 = some a := by rw [f04.2.2.2.1]; exact ea
    obtain ⟨n4, g4⟩ := nn_of e4
    refine ⟨rfl, S4.1, n4, ?_⟩
    rw [g4]
    refine ⟨H4.1, _, rfl, q, ?_, S4, x4, by rw [f04.2.2.2.1]⟩
    unfold hHo
    rw [H4.2.1 3 (by omega), if_pos ⟨q0, q1, by omega⟩]
    exact (H4.2.2.2.2.2.2.2.1 (ix k) (by omega)).1
  · exact x_throw C T dX9_circle_11 dX9_circle_14 dX9_circle_15 dX9_circle_18 (by rw [hmc]; decide) (by rw [hms]; decide) (fun N hN => ⟨q, (cst_grow S hN).1, (cst_grow S hN).2, rfl⟩))
theorem cx_gear (hfl : l.stackTraces = false) (S : CSt h x m s) {k : Int32} : Sx l D yX9_gear cX9_gear 2 (some .int) 8 120 1 6 [.ref x, .int k] h (QI fun y h' => zc s 4 k ∧ y.toInt = sA s 3 k.toInt.toNat ∧ CSt h' x m s ∧ FrX (inC x m) h h' ∧ gr h' x 14 = gr h x 14) (fun h' => ¬ zc s 4 k ∧ CSt h' x m s ∧ FrX (inC x m) h h' ∧ gr h' x 14 = gr h x 14) := Sx.of hfl rfl (Nat.le_of_ble_eq_true rfl) (fun X C T _ _ hmc hms => by
  obtain ⟨a, ea, Ha, ba⟩ := S.now
  obtain ⟨n12, g12⟩ := nn_of ea
  have V := S.2.2.2.2.1.1
  have h4 := Ha.2.1 4 (by omega)
  have v4 := V.2.2.2.2.1
  refine x_aload_n (pc := 0) C dX9_gear_0 rfl ?_
  refine x_getR (pc := 1) C fl_X9_78 rfl dX9_gear_1 (St9_k S.1) ea ?_
  refine x_iload_n (pc := 4) C dX9_gear_4 rfl ?_
  refine x_callV (pc := 5) (As := [.int k]) (st := []) (k' := 0) (n' := 0) (c := 4) C cl_X9_171 lv_X4_isGear (by decide) dX9_gear_5 rfl rfl (by decide) rfl (by rw [hmc]; decide) (by rw [hms]; decide) (St4_k Ha.1) ((sf_X4_isGear (h := h) Ha.1).mono (fun v h9 hp => ?_))
  obtain ⟨e1, e2⟩ := hp
  rw [e1, e2]
  refine x_if_ne (pc := 8) (tgt := 19) C dX9_gear_8 rfl ⟨fun q => ?_, fun q => ?_⟩
  all_goals rw [hIs_0, h4] at q
  · have q : zc s 4 k := Classical.not_not.mp q
    obtain ⟨q0, q1⟩ := id q
    refine Wx.of (V_X9_gear_19 C ⟨S.1, n12, ?_⟩)
    rw [g12]
    have hk := ix_t q0
    have ek : ix k = k.toInt.toNat := rfl
    refine ⟨Ha.1, _, rfl, q, ?_, S, FrX.rf, rfl⟩
    unfold hTe
    rw [h4, if_pos ⟨q0, q1, by omega⟩]
    exact Ha.2.2.2.2.2.2.2.2.1 (ix k) (by omega)
  · exact x_throw C T dX9_gear_11 dX9_gear_14 dX9_gear_15 dX9_gear_18 (by rw [hmc]; decide) (by rw [hms]; decide) (fun N hN => ⟨q, (cst_grow S hN).1, (cst_grow S hN).2, rfl⟩))
theorem cx_row (hfl : l.stackTraces = false) (S : CSt h x m s) {k : Int32} : Sx l D yX9_row cX9_row 2 (some .long) 8 120 1 6 [.ref x, .int k] h (QL fun y h' => zr s k ∧ y.toInt = (sR s).getD k.toInt.toNat 0 ∧ CSt h' x m s ∧ FrX (inC x m) h h' ∧ gr h' x 14 = gr h x 14) (fun h' => ¬ zr s k ∧ CSt h' x m s ∧ FrX (inC x m) h h' ∧ gr h' x 14 = gr h x 14) := Sx.of hfl rfl (Nat.le_of_ble_eq_true rfl) (fun X C T _ _ hmc hms => by
  obtain ⟨w1, w2, w3⟩ := S.2.2.2.2.2.2.1
  have thr : ¬ zr s k → Wx X 0 0 (QL fun y h' => zr s k ∧ y.toInt = (sR s).getD k.toInt.toNat 0 ∧ CSt h' x m s ∧ FrX (inC x m) h h' ∧ gr h' x 14 = gr h x 14) (fun h' => ¬ zr s k ∧ CSt h' x m s ∧ FrX (inC x m) h h' ∧ gr h' x 14 = gr h x 14) 15 (lv_args 0 [.ref x, .int k]) [] h := fun q => x_throw C T dX9_row_15 dX9_row_18 dX9_row_19 dX9_row_22 (by rw [hmc]; decide) (by rw [hms]; decide) (fun N hN => ⟨q, (cst_grow S hN).1, (cst_grow S hN).2, rfl⟩)
  refine x_iload_n (pc := 0) C dX9_row_0 rfl ?_
  refine x_if_lt (pc := 1) (tgt := 15) C dX9_row_1 rfl ⟨fun q => ?_, fun q => ?_⟩
  all_goals rw [i32_lt, i0_t] at q
  · exact thr (fun z => by have := z.1; omega)
  refine x_iload_n (pc := 4) C dX9_row_4 rfl ?_
  refine x_aload_n (pc := 5) C dX9_row_5 rfl ?_
  refine x_getR (pc := 6) C fl_X9_19 rfl dX9_row_6 (St9_k S.1) (St9_r1 S.1) ?_
  refine x_getI (pc := 9) C fl_X9_416 rfl dX9_row_9 (St8_k (St9_s1 S.1)) ?_
  refine x_icmp_lt (pc := 12) (tgt := 23) C dX9_row_12 rfl ⟨fun q1 => ?_, fun q1 => ?_⟩
  all_goals rw [i32_lt, w1] at q1
  · have hk := ix_t (i := k) (by omega)
    have ek : ix k = k.toInt.toNat := rfl
    refine Wx.of (V_X9_row_23 C ⟨S.1, _, rfl, ⟨by omega, q1⟩, ?_, S, FrX.rf, rfl⟩)
    unfold tNo
    rw [if_pos ⟨by omega, by omega⟩]
    exact w3 (ix k) (by omega)
  · exact thr (fun z => q1 z.2))
end CxC
