-- divides() of the class
section CDw
variable {X : Ctx} {l : Launch} {D : Dt} {h : Hp} {x m t : Nat} {Q : Pq} {A B : HV} {s : Sv}
theorem hw_d {A : HV} {n : Int} (h : hw A n 2 ≠ 0) : ∃ d, difQ A n = some d := by
  rw [hw_2] at h
  cases e : difQ A n with
  | none => rw [e] at h; exact absurd rfl h
  | some d => exact ⟨d, rfl⟩
theorem cl_wind113 {n k : Int} {w : Nat} (C : C_X9_windWay X) (T : DvT h x m t s B n w) (V : VA B) {s0 : Nat} (ks : ∀ h', St9 h' x → kd h' s0 = 7) (hs : ∀ h' B', DvT h' x m t s B' n w → SWP h' s0 (sA s) k) (hf : (fS (sA s) k : Int) < sA s 0 3) : Wj X 0 0 (QV fun h' => DvT h' x m t s (dvSm (sA s) k B) n w ∧ FrX (inC x m) h h') 113 [(0, .ref x)] [.ref s0] h := by
  obtain ⟨S, et, Ht, -⟩ := id T
  obtain ⟨n13, g13⟩ := nn_of et
  obtain ⟨w1, -, -⟩ := (hs h B T).2 hf
  refine V_X9_windWay_113 C ⟨S.1, n13, ks h S.1, by rw [g13]; exact Ht.1, ?_⟩
  rw [g13]
  refine (sp_choose Ht (k := gi h s0 1)).mono (fun v h5 hp => ?_)
  obtain ⟨y, rfl, -, H5, f5⟩ := hp
  obtain ⟨T5, x5⟩ := T.step f5 H5
  obtain ⟨n5, g5⟩ := nn_of T5.2.1
  obtain ⟨-, w2, w3⟩ := (hs h5 _ T5).2 hf
  have e1 : (gi h s0 1).toInt = (fS (sA s) k : Int) := w1
  have e2 : (gi h5 s0 2).toInt = sA s 0 0 / k := w2
  have e3 : (gi h5 s0 3).toInt = smH (sA s) k (fS (sA s) k) % sA s 1 (fS (sA s) k) := w3
  refine ⟨y, rfl, T5.1.1, n5, ks h5 T5.1.1, by rw [g5]; exact H5.1, ?_⟩
  rw [g5]
  refine (sp_wind H5 (V.choose _) (t := gi h5 s0 2) (m := gi h5 s0 3) (b := 0)).mono (fun v h11 hp => ?_)
  obtain ⟨y2, rfl, -, H11, f11⟩ := hp
  obtain ⟨T11, x11⟩ := T5.step f11 H11
  rw [e1, e2, e3, i0_t] at T11
  exact ⟨y2, rfl, rfl, T11, x5.tr x11⟩
theorem cl_windWay {n : Int} {w : Nat} (T : DvT h x m t s B n w) (V : VA B) {v : Int32} (ev : v.toInt = w) (w2 : w ≤ 2) (n1 : 2 ≤ n) (n2 : n ≤ 400) (hn : hw (sA s) n w ≠ 0) : S_X9_windWay l D 0 0 [.ref x, .int v] h (QV fun h' => DvT h' x m t s (dvSt (sA s) n w B) n w ∧ FrX (inC x m) h h') := Sp.of rfl (Nat.le_of_ble_eq_true rfl) (fun X C _ _ _ _ => V_X9_windWay_0 C (by
  have S := T.1
  have VA' := S.2.2.2.2.1.1
  unfold dvSt
  refine ⟨fun q => ⟨fun q1 => ⟨S.1, ?_⟩, fun q1 => ⟨S.1, ?_⟩⟩, fun q => ?_⟩
  · rw [i32_eq, ev, i1_t] at q
    rw [i32_eq, ev, i0_t] at q1
    have e2 : w = 2 := by omega
    subst e2
    rw [if_neg (by omega)]
    obtain ⟨d, ed⟩ := hw_d hn
    have ek : dvK (sA s) n 2 = d.1 := by unfold dvK; rw [if_pos rfl, ed]
    rw [ek]
    refine cl_wind113 C T V (fun h' F => St1_k0 (St9_s4 F)) (fun h' B' T' => ?_) (difQ_b n2 ed).2.2.1
    obtain ⟨-, -, -, sh, -, -, R⟩ := T'
    rw [ed] at R
    exact R.2.2.2.2
  · rw [i32_eq, ev, i1_t] at q
    rw [i32_eq, ev, i0_t] at q1
    have e2 : w = 0 := by omega
    subst e2
    rw [if_neg (by omega)]
    have ek : dvK (sA s) n 0 = n := by unfold dvK; rw [if_neg (by omega)]
    rw [ek]
    refine cl_wind113 C T V (fun h' F => St9_k2 F) (fun h' B' T' => T'.2.2.2) ?_
    rw [hw_0] at hn
    by_cases c : (fS (sA s) n : Int) < sA s 0 3
    · exact c
    · rw [if_neg c] at hn; exact absurd rfl hn
  · rw [i32_eq, ev, i1_t] at q
    have e2 : w = 1 := by omega
    subst e2
    rw [if_pos rfl]
    have z : (cwQ (sA s) n).1 ≠ 0 := fun z => hn (by rw [hw_1, if_pos z])
    have ok := (cwQ_ok VA' n1).2.2 z
    have get : ∀ h' B', DvT h' x m t s B' n 1 → CWh h' (x + 6) (cwQ (sA s) n) := fun h' B' T' => T'.2.2.2
    generalize cwQ (sA s) n = W at *
    obtain ⟨-, et, Ht, -⟩ := id T
    obtain ⟨n13, g13⟩ := nn_of et
    have c1 : (gi h (x + 6) 1).toInt = W.2.1 := ((get h _ T).2 z).1
    refine ⟨S.1, n13, by rw [g13]; exact Ht.1, ?_⟩
    rw [g13]
    refine (sp_choose Ht (k := gi h (x + 6) 1)).mono (fun v h7 hp => ?_)
    obtain ⟨y, rfl, -, H7, f7⟩ := hp
    obtain ⟨T7, x7⟩ := T.step f7 H7
    obtain ⟨n7, g7⟩ := nn_of T7.2.1
    obtain ⟨c3, c4, -⟩ := ((get h7 _ T7).1.2 z)
    have c3' : (gi h7 (x + 6) 3).toInt = W.2.2.2.1 := c3
    have c4' : (gi h7 (x + 6) 4).toInt = W.2.2.2.2.1 := c4
    refine ⟨y, rfl, T7.1.1, n7, by rw [g7]; exact H7.1, ?_⟩
    rw [g7]
    refine (sp_wind H7 (V.choose _) (t := gi h7 (x + 6) 3) (m := gi h7 (x + 6) 4) (b := 0)).mono (fun v h12 hp => ?_)
    obtain ⟨y2, rfl, -, H12, f12⟩ := hp
    obtain ⟨T12, x12⟩ := T7.step f12 H12
    obtain ⟨n12, g12⟩ := nn_of T12.2.1
    have c2 : (gi h12 (x + 6) 2).toInt = W.2.2.1 := ((get h12 _ T12).2 z).2
    refine ⟨y2, rfl, T12.1.1, n12, by rw [g12]; exact H12.1, ?_⟩
    rw [g12]
    refine (sp_choose H12 (k := gi h12 (x + 6) 2)).mono (fun v h17 hp => ?_)
    obtain ⟨y3, rfl, -, H17, f17⟩ := hp
    obtain ⟨T17, x17⟩ := T12.step f17 H17
    obtain ⟨n17, g17⟩ := nn_of T17.2.1
    have c5 : (gi h17 (x + 6) 5).toInt = W.2.2.2.2.2 := ((get h17 _ T17).1.2 z).2.2
    have V17 := ((V.choose (gi h (x + 6) 1).toInt).wind (gi h7 (x + 6) 3).toInt (gi h7 (x + 6) 4).toInt (0 : Int32).toInt).choose (gi h12 (x + 6) 2).toInt
    have hb := b32 (gi h17 (x + 6) 5)
    obtain ⟨⟨i, j, -, -, -, k4, -, -, -, k5, k6⟩, -⟩ := ok
    have vh := VA'.2.2.2.2.2.2.2.2.2.2.2.2.2.1 j k4
    have ab : (abI (gi h17 (x + 6) 5)).toInt = (gi h17 (x + 6) 5).toInt.natAbs := abI_t (by omega)
    refine ⟨y3, rfl, T17.1.1, n17, fun q2 => ?_, fun q2 => ?_⟩
    all_goals
      rw [i32_le, c5, i0_t] at q2
      rw [g17]
      refine V_X9_windWay_88 C ⟨H17.1, (sp_wind H17 V17).mono (fun v h2 hp => ?_)⟩
      obtain ⟨y4, rfl, -, H2, f2⟩ := hp
      obtain ⟨T2, x2⟩ := T17.step f2 H2
      rw [c1, c3', c4', c2, ab, c5, i0_t] at T2
      refine ⟨y4, rfl, rfl, ?_, ((x7.tr x12).tr x17).tr x2⟩
      unfold dvCm
    · rw [if_pos q2, if_pos q2]
      have : ((W.2.2.2.2.2.natAbs : Nat) : Int) = W.2.2.2.2.2 := by omega
      rw [this] at T2; exact T2
    · rw [if_neg q2, if_neg q2]
      have : ((W.2.2.2.2.2.natAbs : Nat) : Int) = -W.2.2.2.2.2 := by omega
      rw [this, i1_t] at T2; exact T2))
theorem cl_putDif {n : Int} (T : DvT h x m t s B n 2) (V : VA B) (hn : hw (sA s) n 2 ≠ 0) : S_X9_putInDifferential l D 0 0 [.ref x] h (QV fun h' => DvT h' x m t s (dvPut (sA s) n B) n 2 ∧ FrX (inC x m) h h') := Sp.of rfl (Nat.le_of_ble_eq_true rfl) (fun X C _ _ _ _ => V_X9_putInDifferential_0 C (by
  obtain ⟨S, et, Ht, W⟩ := id T
  obtain ⟨sh, e14, Ts, R⟩ := id W
  obtain ⟨d, ed⟩ := hw_d hn
  have ep : dvPut (sA s) n B = (putInP B (tW d.2.2 0) (tW d.2.2 1) (tW d.2.2 2) (tW d.2.2 3) d.2.1).2 := by unfold dvPut; rw [ed]
  rw [ep]
  rw [ed] at R
  obtain ⟨-, r2, ⟨e, e3102, r3, r4⟩, tk, -⟩ := R
  have vg := S.2.2.2.2.1.1.gn
  refine ⟨S.1, 0, 0, by omega, by omega, (cl_fittedS S e14 Ts).mono (fun v h2 hp => ?_)⟩
  obtain ⟨y, rfl, ey, eq, f2⟩ := hp
  subst ey
  obtain ⟨ok, q2, q3, q4⟩ := S.2.2.2.2.2.2.2.2 y e14
  have dj := q4 1 t (by omega) et
  obtain ⟨t', et', -, bt, -⟩ := S.trial
  have e' : t' = t := by rw [et] at et'; cases et'; rfl
  subst e'
  have F2 : St5 h2 y := St5_same ok.1 f2.2.1 f2.2.2.1 f2.2.2.2.1
  have Ts2 : ShT h2 y (sA s) := Ts.same F2 (fun b j _ _ => eq b j)
  obtain ⟨S2, p2, x2⟩ := S.shelfW e14 f2 (Ts2.ok S.2.2.2.2.1.1)
  have et2 : gr h2 x 13 = some t' := by rw [f2.2.2.2.1]; exact et
  have H2 : HdR h2 t' B := Ht.wf f2 (fun b j hb q => by unfold inH at hb; omega) (fun _ _ _ => id)
  have W2 : WyH h2 x (sA s) n 2 := W.same (fun b j _ _ => eq b j) (by rw [f2.2.2.2.1]) (fun sh e F => ⟨St5_same F f2.2.1 f2.2.2.1 f2.2.2.2.1, fun b j _ _ => eq b j⟩)
  have T2 : DvT h2 x m t' s B n 2 := ⟨S2, et2, H2, W2⟩
  obtain ⟨n13, g13⟩ := nn_of et2
  have r4' : gf h2 (y + 4) e = tP d.2.2 := by unfold gf at r4 ⊢; rw [eq]; exact r4
  have r3' : (gi h2 (x + 7) 2).toInt = e := by rw [eq]; exact r3
  have r2' : (gi h2 (x + 7) 3).toInt = d.2.1 := by rw [eq]; exact r2
  refine ⟨y, rfl, S2.1, n13, F2, by rw [g13]; exact H2.1, ?_⟩
  rw [g13]
  have s0 := sWh_t (h := h2) (sh := y) vg.1 tk r4' r3' e3102 (i := 0) (k := 0) rfl (by omega)
  have s1 := sWh_t (h := h2) (sh := y) vg.1 tk r4' r3' e3102 (i := 1) (k := 1) rfl (by omega)
  have s2 := sWh_t (h := h2) (sh := y) vg.1 tk r4' r3' e3102 (i := 2) (k := 2) rfl (by omega)
  have s3 := sWh_t (h := h2) (sh := y) vg.1 tk r4' r3' e3102 (i := 3) (k := 3) rfl (by omega)
  refine (sp_putIn H2 V).mono (fun v h10 hp => ?_)
  obtain ⟨z, rfl, -, H10, f10⟩ := hp
  obtain ⟨T10, x10⟩ := T2.step f10 H10
  rw [s0, s1, s2, s3, r2'] at T10
  exact ⟨z, rfl, rfl, T10, x2.tr x10⟩))
/-- each way, at its cost -/
theorem cl_hasWayE (S : CSt h x m s) {n v : Int32} {w : Nat} (n1 : 2 ≤ n.toInt) (n2 : n.toInt ≤ 400) (ev : v.toInt = w) (w2 : w ≤ 2) : ∃ k3 n4, k3 ≤ shC h x ∧ n4 ≤ shM h x ∧ S_X9_hasWay l D k3 n4 [.ref x, .int n, .int v] h (QI fun y h' => y.toInt = hw (sA s) n.toInt w ∧ WyH h' x (sA s) n.toInt w ∧ CSt h' x m s ∧ FrX (inC x m) h h') := by
  have i2 : (2 : Int32).toInt = 2 := rfl
  rcases Nat.lt_or_ge w 1 with c | c
  · have e : w = 0 := by omega
    subst e
    have : v = 0 := by rw [i32_eq, ev, i0_t]; rfl
    subst this
    exact ⟨0, 0, by omega, by omega, (cl_hasWay0 S n1).mono (fun y h' hp => by obtain ⟨z, rfl, a, b, c, d, e, f⟩ := hp; exact ⟨z, rfl, a, b, c, f⟩)⟩
  · rcases Nat.lt_or_ge w 2 with c1 | c1
    · have e : w = 1 := by omega
      subst e
      have : v = 1 := by rw [i32_eq, ev, i1_t]; rfl
      subst this
      exact ⟨0, 0, by omega, by omega, (cl_hasWay1 S n1).mono (fun y h' hp => by obtain ⟨z, rfl, a, b, c, d, e, f⟩ := hp; exact ⟨z, rfl, a, b, c, f⟩)⟩
    · have e : w = 2 := by omega
      subst e
      have : v = 2 := by rw [i32_eq, ev, i2]; rfl
      subst this
      exact ⟨_, _, Nat.le_refl _, Nat.le_refl _, (cl_hasWay2 S n1 n2).mono (fun y h' hp => by obtain ⟨z, rfl, a, b, c, d, f⟩ := hp; exact ⟨z, rfl, a, b, c, f⟩)⟩
end CDw
