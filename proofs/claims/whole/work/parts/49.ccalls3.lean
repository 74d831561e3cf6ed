-- the class's calls: kept, signs, marks (the rows of bits began as rows of kit/laws/BITS)
def zb (x : Int32) (i : Nat) : Bool := x.toBitVec.getLsbD i
theorem z_ext {x y : Int32} (h : ∀ i, i < 32 → zb x i = zb y i) : x = y := Int32.toBitVec_inj.mp (BitVec.eq_of_getLsbD_eq (fun i hi => h i hi))
theorem z_and (x y : Int32) (i : Nat) : zb (x &&& y) i = (zb x i && zb y i) := by unfold zb; rw [Int32.toBitVec_and, BitVec.getLsbD_and]
theorem z_255 : ∀ i, i < 32 → zb 255 i = decide (i < 8) := by decide +kernel
theorem z_sl : ∀ n, n < 32 → ((Int32.ofNat n &&& 31).toBitVec.smod 32).toNat = n := by decide +kernel
theorem z_su : ∀ n, n < 32 → (((Int32.ofNat n).toUInt32 &&& Int32.toUInt32 31).toBitVec % 32).toNat = n := by decide +kernel
theorem z_ushr (n : Nat) (hn : n < 32) (x : Int32) (i : Nat) : zb (iushr x (Int32.ofNat n)) i = zb x (n + i) := by
  show (x.toUInt32 >>> ((Int32.ofNat n).toUInt32 &&& Int32.toUInt32 31)).toBitVec.getLsbD i = x.toUInt32.toBitVec.getLsbD (n + i)
  rw [UInt32.toBitVec_shiftRight]
  show (x.toUInt32.toBitVec >>> (((Int32.ofNat n).toUInt32 &&& Int32.toUInt32 31).toBitVec % 32).toNat).getLsbD i = _
  rw [z_su n hn, BitVec.getLsbD_ushiftRight]
theorem z_sshr (n : Nat) (hn : n < 32) (x : Int32) {i : Nat} (hi : i < 32) (hni : n + i < 32) : zb (x >>> (Int32.ofNat n &&& 31)) i = zb x (n + i) := by
  unfold zb
  rw [Int32.toBitVec_shiftRight]
  show (x.toBitVec.sshiftRight ((Int32.ofNat n &&& 31).toBitVec.smod 32).toNat).getLsbD i = _
  rw [z_sl n hn, BitVec.getLsbD_sshiftRight]
  simp [hni, Nat.not_le.mpr hi]
theorem sg_bits (v : Int32) {k : Nat} (hk : k < 4) : vp_nar .char (i2c (iushr v (24 - 8 * Int32.ofNat k) &&& 255)) = (v >>> ((24 - 8 * Int32.ofNat k) &&& 31)) &&& 255 := by
  have e : ∀ k, k < 4 → 24 - 8 * Int32.ofNat k = Int32.ofNat (24 - 8 * k) := by decide
  rw [e k hk]
  have hn : 24 - 8 * k < 32 := by omega
  have e1 : iushr v (Int32.ofNat (24 - 8 * k)) &&& 255 = (v >>> (Int32.ofNat (24 - 8 * k) &&& 31)) &&& 255 := by
    apply z_ext
    intro i hi
    rw [z_and, z_and, z_255 i hi]
    by_cases q : i < 8
    · rw [z_ushr _ hn, z_sshr _ hn v hi (by omega)]
    · simp [q]
  have e2 : i2c (iushr v (Int32.ofNat (24 - 8 * k)) &&& 255) = iushr v (Int32.ofNat (24 - 8 * k)) &&& 255 := sc_c2 _
  rw [e2]
  unfold vp_nar
  rw [sc_nar, e1]
section Sign2
variable {X : Ctx} {l : Launch} {D : Dt} {h : Hp} {t : Nat} {T : List Int} {Q : Pq}
theorem i80n : (Int32.ofNat 80).toInt = 80 := rfl
theorem cl_four_loop (C : C_X7_addFour X) (F : St7 h t) (tx : TxC h t T) (hT : T.length ≤ 76) {v : Int32} (hend : ∀ h', FrW (fun b j => b = t + 1 ∧ T.length ≤ j) (fun _ _ => False) h h' → (∀ j, j < 4 → (gi h' (t + 1) (T.length + j)).toInt = sgP v j) → Q (some (.int 1)) (si h' t 1 (gi h' t 1 + 4))) (d : Nat) : ∀ (i : Int32) (h' : Hp), 0 ≤ i.toInt → i.toInt + d = 4 → FrW (fun b j => b = t + 1 ∧ T.length ≤ j) (fun _ _ => False) h h' → (∀ j, j < ix i → (gi h' (t + 1) (T.length + j)).toInt = sgP v j) → Wj X 0 0 Q 25 [(0, .ref t), (1, .int v), (2, .int i)] [] h' := by
  induction d with
  | zero =>
    intro i h' hi hd f g
    refine V_X7_addFour_25 C ⟨fun _ => ⟨St7_same F f.2.1 f.2.2.1 f.2.2.2.1, hend h' f (fun j hj => g j (by unfold ix; omega))⟩, fun q => ?_⟩
    rw [i32_le, i4_t] at q; omega
  | succ d ih =>
    intro i h' hi hd f g
    obtain ⟨x1, x2⟩ := ix_succ hi (by omega)
    have hk := ix_t hi
    have e4 : (gi h' t 1).toInt = T.length := by rw [f.xi (fun q => by have := q.1; omega)]; exact tx.1
    obtain ⟨y1, y2⟩ := ix_add (c := gi h' t 1) (v := i) (a := T.length) (b := ix i) e4 hk.symm (by omega)
    refine V_X7_addFour_25 C ⟨fun q => ?_, fun _ => ⟨St7_same F f.2.1 f.2.2.1 f.2.2.2.1, inb_add (a := T.length) (b := ix i) e4 hk.symm (by omega) (by omega), ?_⟩⟩
    · rw [i32_le, i4_t] at q; omega
    · rw [y1]
      refine ih _ _ (by omega) (by omega) (f.si ⟨rfl, by omega⟩) (fun j hj => ?_)
      rw [gi_si]
      by_cases e : j = ix i
      · rw [if_pos ⟨rfl, by omega⟩, e]
        unfold sgP
        rw [← sg_bits v (k := ix i) (by omega), of_ix hi]
      · rw [if_neg (by omega)]; exact g j (by omega)
theorem cl_addFour (F : St7 h t) (tx : TxC h t T) {v : Int32} : S_X7_addFour l D 0 0 [.ref t, .int v] h (QI fun y h' => (y = 0 ↔ ¬ T.length ≤ 76) ∧ (if T.length ≤ 76 then TxC h' t (T ++ [sgP v 0, sgP v 1, sgP v 2, sgP v 3]) ∧ FrW (fun b j => b = t ∧ j = 1 ∨ b = t + 1) (fun _ _ => False) h h' else h' = h)) := Sp.of rfl (Nat.le_of_ble_eq_true rfl) (fun X C _ _ _ _ => V_X7_addFour_0 C (by
  obtain ⟨t1, t2, t3⟩ := id tx
  have e5 : (gi h t 1 + 4).toInt = T.length + 4 := by rw [iadd_t] <;> rw [i4_t, t1] <;> omega
  refine ⟨F, fun q => ?_, fun q => ⟨fun q1 => ?_, fun q1 => ⟨_, rfl, ?_⟩⟩⟩
  · rw [i32_lt, i0_t, t1] at q; omega
  · rw [i32_le, e5, i80n] at q1
    have hT : T.length ≤ 76 := by omega
    refine cl_four_loop C F tx hT (fun h' f g => ⟨_, rfl, ⟨fun z => absurd z p1_ne, fun z => absurd hT z⟩, ?_⟩) 4 0 h (by rw [i0_t]; omega) (by rw [i0_t]; omega) FrW.rf (fun j hj => by unfold ix at hj; rw [i0_t] at hj; simp at hj)
    rw [if_pos hT]
    have e4' : (gi h' t 1).toInt = T.length := by rw [f.xi (fun q => by have := q.1; omega)]; exact t1
    have e6 : (gi h' t 1 + 4).toInt = T.length + 4 := by rw [iadd_t] <;> rw [i4_t, e4'] <;> omega
    refine ⟨⟨by rw [gi_si, if_pos ⟨rfl, rfl⟩, e6]; simp, by simp; omega, fun i hi => ?_⟩, (f.mono (fun b j q => Or.inr q.1) (fun _ _ q => q)).si (Or.inl ⟨rfl, rfl⟩)⟩
    rw [gi_si, if_neg (by omega), getD_app4]
    by_cases q1 : i < T.length
    · rw [if_pos q1, f.xi (fun q => by have := q.2; omega)]; exact t3 i q1
    · simp at hi
      have g0 := g 0 (by omega)
      have g1 := g 1 (by omega)
      have g2 := g 2 (by omega)
      have g3 := g 3 (by omega)
      rw [if_neg q1]
      by_cases k0 : i = T.length
      · rw [if_pos k0, k0]; exact g0
      · rw [if_neg k0]
        by_cases k1 : i = T.length + 1
        · rw [if_pos k1, k1]; exact g1
        · rw [if_neg k1]
          by_cases k2 : i = T.length + 2
          · rw [if_pos k2, k2]; exact g2
          · rw [if_neg k2, if_pos (by omega)]
            have k3 : i = T.length + 3 := by omega
            rw [k3]; exact g3
  · rw [i32_le, e5, i80n] at q1
    dsimp only
    rw [if_neg (by omega)]
    exact ⟨⟨fun _ => by omega, fun _ => rfl⟩, rfl⟩))
end Sign2
section Sign3
variable {X : Ctx} {l : Launch} {D : Dt} {h h' : Hp} {x m : Nat} {s : Sv} {A : HV} {a : Nat}
theorem ca_sign (S : CSt h x m s) {v : Int32} : S_X9_sign l D 0 0 [.ref x, .int v] h (QI fun y h' => y.toInt = (signP s v).1 ∧ CSt h' x m (signP s v).2 ∧ FrX (inC x m) h h') := Sp.of rfl (Nat.le_of_ble_eq_true rfl) (fun X C _ _ _ _ => V_X9_sign_0 C (by
  have tx := S.2.2.2.2.2.2.2.1
  refine ⟨S.1, (cl_addFour (St9_s0 S.1) tx).mono (fun w h2 hp => ?_)⟩
  obtain ⟨y, rfl, hy, hd⟩ := hp
  unfold signP
  by_cases q : (sT s).length ≤ 76
  · rw [if_pos q] at hd ⊢
    obtain ⟨r1, -, r3⟩ := S.txt hd.2 hd.1
    refine ⟨y, rfl, fun z => absurd q (hy.mp z), fun z => ⟨r1.1, _, rfl, ?_, r1, r3⟩⟩
    rw [hd.1.1]; simp
  · rw [if_neg q] at hd ⊢
    subst hd
    exact ⟨y, rfl, fun z => ⟨_, rfl, rfl, S, FrX.rf⟩, fun z => absurd (hy.mpr q) z⟩))
theorem cl_gapBehind (H : HdR h a A) (V : VA A) {b : Nat} (hb : kd h b = 3) {k : Int32} (h0 : 0 ≤ k.toInt) (h1 : k.toInt < A 0 7) : S_X4_gapBehind l D 0 0 [.ref a, .int k, .ref b] h (QV fun h' => (gl h' b 0).toInt = gaU A (ix k) ∧ (gl h' b 1).toInt = gaL A (ix k) ∧ FrW (fun _ _ => False) (fun c _ => c = b) h h') := Sp.of rfl (Nat.le_of_ble_eq_true rfl) (fun X C _ _ _ _ => V_X4_gapBehind_0 C (by
  have vm := V.marks
  have h7 := H.2.1 7 (by omega)
  have hk := ix_t h0
  have ek : (k + 1).toInt = k.toInt + 1 := by rw [iadd_t] <;> rw [i1_t] <;> omega
  obtain ⟨b1, b2, b3, b4, b5⟩ := gp_b V (k := ix k) (by omega)
  have fin : ∀ z : Int32, z.toInt = nxt A (ix k) → Wj X 0 0 (QV fun h' => (gl h' b 0).toInt = gaU A (ix k) ∧ (gl h' b 1).toInt = gaL A (ix k) ∧ FrW (fun _ _ => False) (fun c _ => c = b) h h') 17 [(0, .ref a), (1, .int k), (2, .ref b)] [.int z] h := by
    intro z hz
    have xz : ix z = nxt A (ix k) := ix_of hz
    obtain ⟨m1, m2⟩ := hMu_t H V (k := k) h0 h1
    obtain ⟨n1, n2⟩ := hMu_t H V (k := z) (by omega) (by omega)
    rw [xz] at n1 n2
    have mk := V.mk (k := ix k) (by omega)
    have mn := V.mk (k := nxt A (ix k)) b1
    have c1 := mul_bd (a := A 4 (nxt A (ix k))) (b := A 5 (ix k)) (M := 1000000000) (K := 1000000000) (by omega) (by omega) (by omega) (by omega)
    have c2 := mul_bd (a := A 4 (ix k)) (b := A 5 (nxt A (ix k))) (M := 1000000000) (K := 1000000000) (by omega) (by omega) (by omega) (by omega)
    have t1 : (hMu h a z * hMl h a k).toInt = A 4 (nxt A (ix k)) * A 5 (ix k) := by rw [lmul_t] <;> rw [n1, m2] <;> omega
    have t2 : (hMu h a k * hMl h a z).toInt = A 4 (ix k) * A 5 (nxt A (ix k)) := by rw [lmul_t] <;> rw [m1, n2] <;> omega
    have el : gpl A (ix k) = A 5 (ix k) * A 5 (nxt A (ix k)) := by unfold gpl; rw [Int.mul_comm]
    have t3 : (hMl h a k * hMl h a z).toInt = gpl A (ix k) := by rw [lmul_t] <;> rw [m2, n2] <;> omega
    have t4 : (hMu h a z * hMl h a k - hMu h a k * hMl h a z).toInt = gpu0 A (ix k) := by
      have : gpu0 A (ix k) = A 4 (nxt A (ix k)) * A 5 (ix k) - A 4 (ix k) * A 5 (nxt A (ix k)) := rfl
      rw [lsub_t] <;> rw [t1, t2] <;> omega
    have out : ∀ u w : Int64, u.toInt = gpu A (ix k) → w.toInt = gpl A (ix k) → (gl (fpt h b u w) b 0).toInt = gaU A (ix k) ∧ (gl (fpt h b u w) b 1).toInt = gaL A (ix k) ∧ FrW (fun _ _ => False) (fun c _ => c = b) h (fpt h b u w) := by
      intro u w hu hw
      obtain ⟨g1, g2⟩ := gl_fpt0 h b u w
      obtain ⟨r1, r2⟩ := fr_x (u := u) (w := w) (by omega)
      rw [hu, hw] at r1 r2
      exact ⟨by rw [g1]; exact r1, by rw [g2]; exact r2, FrW.sl (P := fun _ _ => False) (R := fun c _ => c = b) (FrW.sl (P := fun _ _ => False) (R := fun c _ => c = b) FrW.rf rfl) rfl⟩
    refine V_X4_gapBehind_17 C ⟨H.1, fun q => ⟨hb, by rw [t4]; omega, by rw [t3]; omega, rfl, ?_⟩, fun q => ⟨hb, ?_, by rw [t3]; omega, rfl, ?_⟩⟩
    · rw [i64_lt, l0_t, t4] at q
      exact out _ _ (by rw [t4]; unfold gpu; rw [if_neg (by omega)]) t3
    all_goals rw [i64_lt, l0_t, t4] at q
    all_goals have eg : gpu A (ix k) = gpu0 A (ix k) + gpl A (ix k) := by unfold gpu; rw [if_pos (by omega)]
    all_goals have t5 : (hMu h a z * hMl h a k - hMu h a k * hMl h a z + hMl h a k * hMl h a z).toInt = gpu A (ix k) := by rw [ladd_t] <;> rw [t4, t3] <;> omega
    · rw [t5]; omega
    · exact out _ _ t5 t3
  refine ⟨H.1, fun q => fin 0 ?_, fun q => fin (k + 1) ?_⟩
  all_goals rw [hIs_0, h7, ek] at q
  · unfold nxt; rw [if_neg (by omega)]; rfl
  · unfold nxt; rw [if_pos (by omega), ek]; omega))
theorem CSt.scr (S : CSt h x m s) {P R : Nat → Nat → Prop} (f : FrW P R h h') (p : ∀ b j, P b j → x + 5 ≤ b ∧ b < x + 15 ∨ b = x ∧ j = 11) (r : ∀ b j, R b j → x + 5 ≤ b ∧ b < x + 15) : CSt h' x m s ∧ ptr h' x = ptr h x ∧ FrX (inC x m) h h' :=
  S.own f (fun q => by have := p _ _ q; omega) (fun b j q => by have := p _ _ q; omega) (fun b j q => by have := r _ _ q; omega) (S.2.2.2.2.2.2.1.fr f (fun q => by have := p _ _ q; omega) (fun j q => by have := r _ _ q; omega)) (S.2.2.2.2.2.2.2.1.fr f (fun q => by have := p _ _ q; omega) (fun j q => by have := p _ _ q; omega))
theorem ca_mark (S : CSt h x m s) {k : Int32} : S_X9_mark l D 0 0 [.ref x, .int k] h (QI fun y h' => y.toInt = (markP s k.toInt).1 ∧ CSt h' x m (markP s k.toInt).2 ∧ FrX (inC x m) h h') := Sp.of rfl (Nat.le_of_ble_eq_true rfl) (fun X C _ _ _ _ => V_X9_mark_0 C (by
  obtain ⟨a, ea, Ha, ba⟩ := S.now
  obtain ⟨n12, g12⟩ := nn_of ea
  have V := S.2.2.2.2.1.1
  have h7 := Ha.2.1 7 (by omega)
  have F8 := St9_s1 S.1
  rw [g12]
  unfold markP
  refine ⟨S.1, n12, Ha.1, fun q => ?_, fun q => ⟨_, rfl, ?_⟩⟩
  all_goals rw [hIs_0, h7] at q
  · have hk0 : 0 ≤ k.toInt := by omega
    have hk1 : k.toInt < sA s 0 7 := by omega
    rw [if_pos (by omega)]
    -- the first row
    have Hc : HdR (tcl h (x + 3)) a (sA s) := Ha.fr (FrO.rf.si (S := fun b => b = x + 3) rfl) (fun b hb (q : b = x + 3) => by unfold inH at hb; omega)
    refine (cl_add (h := tcl h (x + 3)) (L := []) F8 TdC.clr (by decide) (hMu_t Hc V hk0 hk1).1).mono (fun w h4 hp => ?_)
    obtain ⟨rfl, w4, f4⟩ := hp
    have f04 : FrW (dI (x + 3)) (dL (x + 3)) h h4 := (FrW.rf.tcl).tr f4
    obtain ⟨S4, p4, x4⟩ := S.row f04 w4
    have hd : ∀ h' : Hp, FrW (dI (x + 3)) (dL (x + 3)) h h' → HdR h' a (sA s) ∧ gr h' x 12 = some a := fun h' f => ⟨Ha.frX (f.x (S := fun b => b = x + 3 ∨ b = x + 4) (fun b j q => Or.inl q.1) (fun b j (q : b = x + 3 + 1) => Or.inr (by omega))) (fun b hb q => by unfold inH at hb; omega) ba.2.2, by rw [f.2.2.2.1]; exact ea⟩
    obtain ⟨H4, e4⟩ := hd h4 f04
    obtain ⟨n4, g4⟩ := nn_of e4
    refine ⟨rfl, S4.1, n4, ?_⟩
    rw [g4]
    refine ⟨H4.1, (cl_add (St9_s1 S4.1) w4 (by simp) (hMu_t H4 V hk0 hk1).2).mono (fun w h8 hp => ?_)⟩
    obtain ⟨rfl, w8, f8⟩ := hp
    have f08 := f04.tr f8
    obtain ⟨S8, p8, x8⟩ := S.row f08 w8
    obtain ⟨H8, e8⟩ := hd h8 f08
    obtain ⟨n8, g8⟩ := nn_of e8
    refine ⟨rfl, S8.1, n8, ?_⟩
    rw [g8]
    refine ⟨H8.1, (cl_gapBehind H8 V (St9_k6 S8.1) hk0 hk1).mono (fun w h12 hp => ?_)⟩
    obtain ⟨rfl, u1, u2, fg⟩ := hp
    obtain ⟨S12, p12, x12⟩ := S8.scr fg (fun _ _ q => absurd q id) (fun b j (q : b = x + 13) => by omega)
    refine ⟨rfl, S12.1, (cl_addF (St9_s1 S12.1) (St9_k6 S12.1) S12.2.2.2.2.2.2.1 (by show ([] ++ _ ++ _ : List Int).length < 59; simp) u1 u2).mono (fun w h14 hp => ?_)⟩
    obtain ⟨rfl, w14, f14⟩ := hp
    obtain ⟨S14, p14, x14⟩ := S12.row f14 w14
    exact ⟨rfl, _, rfl, rfl, S14, (x8.tr x12).tr x14⟩
  · rw [if_neg (by omega)]; exact ⟨rfl, S, FrX.rf⟩))
end Sign3
