-- the reference's calls: kept, told, signs
def keepP (s : Sv) (i : Int) : Int × Sv := if 0 ≤ i ∧ i ≤ 1 then (1, (sA s, sN s, sB s, fun j => if j = i.toNat then some (sA s) else sK s j, sR s, sT s)) else (0, s)
def againP (s : Sv) (i : Int) : Int × Sv := if 0 ≤ i ∧ i ≤ 1 then (match sK s i.toNat with | none => (0, s) | some E => (1, (E, 0, sB s, sK s, sR s, sT s))) else (0, s)
def countP (s : Sv) (w : Int) : Int := if w = 0 then sA s 0 0 else if w = 1 then sA s 0 1 else if w = 2 then sA s 0 3 else if w = 3 then sA s 0 4 else if w = 4 then sA s 0 5 else if w = 5 then sA s 0 6 else if w = 6 then sA s 0 7 else if w = 7 then sN s else if w = 8 then (sR s).length else if w = 9 then (sT s).length else if w = 10 then sA s 0 2 else -1
def sgP (v : Int32) (k : Nat) : Int := ((v >>> ((24 - 8 * Int32.ofNat k) &&& 31)) &&& 255).toInt
def signP (s : Sv) (v : Int32) : Int × Sv := if (sT s).length ≤ 76 then (((sT s).length + 4 : Nat), txtS s (sT s ++ [sgP v 0, sgP v 1, sgP v 2, sgP v 3])) else (-1, s)
def endP (s : Sv) (n : Int) : Int × Sv := if 0 ≤ n ∧ n ≤ (sT s).length then (1, txtS s ((sT s).take n.toNat)) else (0, s)
def nxt (A : HV) (k : Nat) : Nat := if (k : Int) + 1 < A 0 7 then k + 1 else 0
def gpl (A : HV) (k : Nat) : Int := A 5 (nxt A k) * A 5 k
def gpu0 (A : HV) (k : Nat) : Int := A 4 (nxt A k) * A 5 k - A 4 k * A 5 (nxt A k)
def gpu (A : HV) (k : Nat) : Int := if gpu0 A k ≤ 0 then gpu0 A k + gpl A k else gpu0 A k
def gaU (A : HV) (k : Nat) : Int := rdU (gpu A k) (gpl A k)
def gaL (A : HV) (k : Nat) : Int := rdL (gpu A k) (gpl A k)
def markP (s : Sv) (k : Int) : Int × Sv := if 0 ≤ k ∧ k < sA s 0 7 then (0, rowS s [sA s 4 k.toNat, sA s 5 k.toNat, gaU (sA s) k.toNat, gaL (sA s) k.toNat]) else (-1, s)
theorem gp_b {A : HV} (V : VA A) {k : Nat} (hk : (k : Int) < A 0 7) : ((nxt A k : Nat) : Int) < A 0 7 ∧ (0 < gpl A k ∧ gpl A k ≤ 1000000000000000000) ∧ (-1000000000000000000 ≤ gpu0 A k ∧ gpu0 A k ≤ 1000000000000000000) ∧ 0 < gpu A k ∧ gpu A k ≤ gpl A k := by
  have vm := V.marks
  have hn : ((nxt A k : Nat) : Int) < A 0 7 := by unfold nxt; split <;> omega
  have mk := V.mk hk
  have mn := V.mk hn
  have b1 := mul_bd (a := A 5 (nxt A k)) (b := A 5 k) (M := 1000000000) (K := 1000000000) (by omega) (by omega) (by omega) (by omega)
  have b0 : 0 < A 5 (nxt A k) * A 5 k := Int.mul_pos (by omega) (by omega)
  have b2 := mul_bd (a := A 4 (nxt A k)) (b := A 5 k) (M := 1000000000) (K := 1000000000) (by omega) (by omega) (by omega) (by omega)
  have b3 := mul_bd (a := A 4 k) (b := A 5 (nxt A k)) (M := 1000000000) (K := 1000000000) (by omega) (by omega) (by omega) (by omega)
  have b4 : A 4 k * A 5 (nxt A k) < A 5 k * A 5 (nxt A k) := Int.mul_lt_mul_of_pos_right (by omega) (by omega)
  have b5 : A 4 (nxt A k) * A 5 k < A 5 (nxt A k) * A 5 k := Int.mul_lt_mul_of_pos_right (by omega) (by omega)
  rw [Int.mul_comm (A 5 k)] at b4
  unfold gpu gpu0 gpl
  refine ⟨hn, by omega, by omega, ?_, ?_⟩ <;> split <;> omega
section Told
variable {X : Ctx} {l : Launch} {D : Dt} {h : Hp} {m : Nat} {s : Sv} {Q : Pq}
theorem vpb1 : ¬ vp_nar .boolean 1 = 0 := by decide
theorem ma_keep (S : MSt h m s) {i : Int32} : S_X10_keep l D 0 0 [.ref m, .int i] h (QI fun y h' => y.toInt = (keepP s i.toInt).1 ∧ MSt h' m (keepP s i.toInt).2 ∧ FrO (inM m) h h') := Sp.of rfl (Nat.le_of_ble_eq_true rfl) (fun X C _ _ _ _ => V_X10_keep_0 C (by
  obtain ⟨S1, f1⟩ := S.t0
  unfold keepP
  refine ⟨S.1.1, fun q => ?_, fun q => ⟨_, rfl, ?_⟩⟩
  all_goals rw [btL_0, i2l_t, l0_t, l1_t] at q
  · have hi0 : 0 ≤ i.toInt := by omega
    have hk := ix_t hi0
    rw [if_pos (by omega)]
    refine ⟨⟨by omega, by omega⟩, ?_⟩
    have f2 : FrW (fun b _ => b = m + 16) (fun _ _ => False) (si h m 0 0) (si (si h m 0 0) (m + 16) (ix i) (vp_nar .boolean 1)) := FrW.rf.si rfl
    have F2 := f2.st10 S1.1.1
    have e1 : (1 + i).toInt = ((1 + ix i : Nat) : Int) := (ix_add (c := 1) (v := i) (a := 1) (b := ix i) rfl hk.symm (by omega)).2
    refine (ma_copies F2 (a := 0) (b := 1 + ix i) rfl e1 (by omega) (by omega) (by omega)).mono (fun w h3 hp => ?_)
    obtain ⟨rfl, c⟩ := hp
    obtain ⟨⟨F, S0, V, Sn, SB, SK⟩, w, t⟩ := S1
    have go : ∀ (b : Nat) (G : HV), b ≠ 1 + ix i → MK (si h m 0 0) m b G → VA G → MK h3 m b G := fun b G hb hG vG =>
      MK.oth (hG.fr vG f2 (fun j _ _ (q : m + 3 = m + 16) => by omega) (fun _ _ _ => id)) vG c hb
    have KA : MK h3 m (1 + ix i) (sA s) := MK.cpd (S0.fr V f2 (fun j _ _ (q : m + 3 = m + 16) => by omega) (fun _ _ _ => id)) V c
    have g16 : ∀ j, gi h3 (m + 16) j = if j = ix i then vp_nar .boolean 1 else gi (si h m 0 0) (m + 16) j := fun j => by
      rw [c.1.xi (fun q => by have := q.1; omega), gi_si]
      by_cases e : j = ix i
      · rw [if_pos ⟨rfl, e⟩, if_pos e]
      · rw [if_neg (fun z => e z.2), if_neg e]
    refine ⟨rfl, _, rfl, rfl, ⟨⟨c.1.st10 F2, go 0 _ (by omega) S0 V, V, ⟨?_, Sn.2⟩, fun j hj => ⟨go _ _ (by omega) (SB j hj).1 (SB j hj).2, (SB j hj).2⟩, fun j hj => ⟨fun q => ?_, fun E q => ?_⟩⟩, ?_, ?_⟩, (f1.tr (f2.toM (fun b j (q : b = m + 16) => ⟨by omega, by omega⟩) (fun _ _ q => absurd q id))).tr (c.1.toM (fun b j q => ⟨by have := q.1; omega, by have := q.1; omega⟩) (fun b j q => ⟨by have := q.1; omega, by have := q.1; omega⟩))⟩
    · rw [c.1.xi (fun q => by have := q.1; omega), f2.xi (fun (q : m = m + 16) => by omega)]; exact Sn.1
    · have q' : (if j = ix i then some (sA s) else sK s j) = none := q
      by_cases e : j = ix i
      · rw [if_pos e] at q'; cases q'
      · rw [if_neg e] at q'
        rw [g16, if_neg e]; exact (SK j hj).1 q'
    · have q' : (if j = ix i then some (sA s) else sK s j) = some E := q
      by_cases e : j = ix i
      · rw [if_pos e] at q'
        cases q'
        rw [g16, if_pos e]
        have e2 : j = ix i := e
        rw [e2]
        exact ⟨vpb1, KA, V⟩
      · rw [if_neg e] at q'
        obtain ⟨q1, q2, q3⟩ := (SK j hj).2 E q'
        have e2 : ¬ j = ix i := e
        exact ⟨by rw [g16, if_neg e]; exact q1, go _ E (by omega) q2 q3, q3⟩
    · exact (w.fr f2 (fun (q : m = m + 16) => by omega) (fun _ => id)).fr c.1 (fun q => by have := q.1; omega) (fun j q => by have := q.1; omega)
    · exact (t.fr f2 (fun (q : m = m + 16) => by omega) (fun j (q : m + 2 = m + 16) => by omega)).fr c.1 (fun q => by have := q.1; omega) (fun j q => by have := q.1; omega)
  · rw [if_neg (by omega)]
    exact ⟨rfl, S1, f1⟩))
theorem ma_again (S : MSt h m s) {i : Int32} : S_X10_again l D 0 0 [.ref m, .int i] h (QI fun y h' => y.toInt = (againP s i.toInt).1 ∧ MSt h' m (againP s i.toInt).2 ∧ FrO (inM m) h h') := Sp.of rfl (Nat.le_of_ble_eq_true rfl) (fun X C _ _ _ _ => V_X10_again_0 C (by
  obtain ⟨S1, f1⟩ := S.t0
  unfold againP
  refine ⟨S.1.1, fun q => ⟨_, rfl, ?_⟩, fun q => ?_⟩
  all_goals rw [btL_0, i2l_t, l0_t, l1_t] at q
  · rw [if_neg (by omega)]
    exact ⟨rfl, S1, f1⟩
  · have hi0 : 0 ≤ i.toInt := by omega
    have hk := ix_t hi0
    rw [if_pos (by omega)]
    obtain ⟨K1, K2⟩ := S1.1.2.2.2.2.2 (ix i) (by omega)
    have ei : i.toInt.toNat = ix i := rfl
    rw [ei]
    refine ⟨⟨by omega, by omega⟩, fun q1 => ?_, fun q1 => ⟨_, rfl, ?_⟩⟩
    · cases hK : sK s (ix i) with
      | none => exact absurd (K1 hK) q1
      | some E =>
        obtain ⟨-, KE, VE⟩ := K2 E hK
        have e1 : (1 + i).toInt = ((1 + ix i : Nat) : Int) := (ix_add (c := 1) (v := i) (a := 1) (b := ix i) rfl hk.symm (by omega)).2
        refine (ma_copies S1.1.1 (a := 1 + ix i) (b := 0) e1 rfl (by omega) (by omega) (by omega)).mono (fun w h3 hp => ?_)
        obtain ⟨rfl, c⟩ := hp
        obtain ⟨S3, f3⟩ := S1.cp0 c KE VE
        obtain ⟨S4, f4⟩ := S3.un (n' := 0) (v := 0) (by omega) rfl
        exact ⟨rfl, S3.1.1, _, rfl, rfl, S4, (f1.tr f3).tr f4⟩
    · cases hK : sK s (ix i) with
      | none => exact ⟨rfl, S1, f1⟩
      | some E => exact absurd q1 (K2 E hK).1))
theorem ma_count (S : MSt h m s) {w : Int32} : S_X10_count l D 0 0 [.ref m, .int w] h (QI fun y h' => y.toInt = countP s w.toInt ∧ MSt h' m s ∧ FrO (inM m) h h') := Sp.of rfl (Nat.le_of_ble_eq_true rfl) (fun X C _ _ _ _ => V_X10_count_0 C (by
  obtain ⟨S1, f1⟩ := S.t0
  have H := S1.1.md
  rw [ix_0, ix_1, ix_2, ix_3, ix_4, ix_53, ix_54, ix_60]
  unfold countP
  refine ⟨S.1.1, ?_⟩
  refine ⟨fun q => ⟨_, rfl, ?_, S1, f1⟩, fun q => ⟨_, rfl, ?_, S1, f1⟩, fun q => ⟨_, rfl, ?_, S1, f1⟩, fun q => ⟨_, rfl, ?_, S1, f1⟩, fun q => ⟨_, rfl, ?_, S1, f1⟩, fun q => ⟨_, rfl, ?_, S1, f1⟩, fun q => ⟨_, rfl, ?_, S1, f1⟩, fun q => ⟨_, rfl, ?_, S1, f1⟩, fun q => ⟨_, rfl, ?_, S1, f1⟩, fun q => ⟨_, rfl, ?_, S1, f1⟩, fun q => ⟨_, rfl, ?_, S1, f1⟩, fun n0 n1 n2 n3 n4 n5 n6 n7 n8 n9 n10 => ⟨_, rfl, ?_, S1, f1⟩⟩
  · subst q; exact H.n (i := 0) (by omega)
  · subst q; exact H.n (i := 1) (by omega)
  · subst q; exact H.n (i := 3) (by omega)
  · subst q; exact H.n (i := 4) (by omega)
  · subst q; exact H.circ
  · subst q; exact H.many
  · subst q; exact H.marks
  · subst q; exact S1.1.2.2.2.1.1
  · subst q; exact S1.2.1.1
  · subst q; exact S1.2.2.1
  · subst q; exact H.n (i := 2) (by omega)
  · rw [i32_eq] at n0 n1 n2 n3 n4 n5 n6 n7 n8 n9 n10
    rw [if_neg (show ¬ w.toInt = 0 from n0), if_neg (show ¬ w.toInt = 1 from n1), if_neg (show ¬ w.toInt = 2 from n2), if_neg (show ¬ w.toInt = 3 from n3), if_neg (show ¬ w.toInt = 4 from n4), if_neg (show ¬ w.toInt = 5 from n5), if_neg (show ¬ w.toInt = 6 from n6), if_neg (show ¬ w.toInt = 7 from n7), if_neg (show ¬ w.toInt = 8 from n8), if_neg (show ¬ w.toInt = 9 from n9), if_neg (show ¬ w.toInt = 10 from n10)]
    rfl))
theorem flg0 : flg 0 = 0 := by decide
theorem flg1 : flg 1 = 1 := by decide
theorem MSt.tv (S : MSt h m s) (v : Int32) : MSt (si h m 0 v) m s ∧ FrO (inM m) h (si h m 0 v) := by
  have f : FrW (fun b j => b = m ∧ j = 0) (fun _ _ => False) h (si h m 0 v) := FrW.rf.si ⟨rfl, rfl⟩
  exact ⟨S.fr f (fun j _ q => by have := q.1; omega) (fun q => by have := q.2; omega) (fun j q => by have := q.1; omega) (fun _ _ => id) (fun q => by have := q.2; omega) (fun _ => id) (fun q => by have := q.2; omega) (fun j q => by have := q.1; omega), f.toM (fun b j q => ⟨by have := q.1; omega, by have := q.1; omega⟩) (fun _ _ q => absurd q id)⟩
theorem ma_circle (S : MSt h m s) {k : Int32} : S_X10_circle l D 0 0 [.ref m, .int k] h (QI fun y h' => (0 ≤ k.toInt ∧ k.toInt < sA s 0 3 → gi h' m 0 = 0 ∧ y.toInt = sA s 1 k.toInt.toNat ∧ MSt h' m (rowS s [sA s 2 k.toInt.toNat])) ∧ (¬ (0 ≤ k.toInt ∧ k.toInt < sA s 0 3) → gi h' m 0 = 1 ∧ MSt h' m s) ∧ FrO (inM m) h h') := Sp.of rfl (Nat.le_of_ble_eq_true rfl) (fun X C _ _ _ _ => V_X10_circle_0 C (by
  have e3 := m1sub S.1.md S.1.va (Or.inl rfl)
  have v3 := S.1.va.2.2.2.1
  refine ⟨S.1.1, fun q => V_X10_circle_22 C ⟨S.1.1, S.1.1, fun q1 => ?_, fun q1 => ?_⟩, fun q => V_X10_circle_22 C ⟨S.1.1, S.1.1, fun q1 => ?_, fun q1 => ⟨_, rfl, ?_⟩⟩⟩
  all_goals rw [gi_si, if_pos ⟨rfl, rfl⟩] at q1
  all_goals rw [btL_0, i2l_t, i2l_t, l0_t, ix_3, e3] at q
  · rw [flg0]
    have hk := ix_t (i := k) (by omega)
    obtain ⟨S1, f1⟩ := S.tv 0
    obtain ⟨x1, -⟩ := ix_add (c := 5) (v := k) (a := 5) (b := ix k) rfl hk.symm (by omega)
    obtain ⟨x2, -⟩ := ix_add (c := 23) (v := k) (a := 23) (b := ix k) rfl hk.symm (by omega)
    have ev : ((gi (si (si h m 0 0) m 1 0) (m + 3) (ix (5 + k))).toInt64).toInt = sA s 2 k.toInt.toNat := by
      rw [i2l_t, x1, gi_si, if_neg (by omega)]
      exact S1.1.md.plate (by omega)
    refine ⟨inb_add (a := 5) (b := ix k) rfl hk.symm (by omega) (by omega), (ma_enters (h := si (si h m 0 0) m 1 0) (L := []) S.1.1 (RwM.clr 0 rfl) (by decide) ev).mono (fun w h4 hp => ?_)⟩
    obtain ⟨rfl, w4, f4⟩ := hp
    have f14 : FrW (rI m) (rL m) (si h m 0 0) h4 := (FrW.rf.si (v := 0) ⟨rfl, by omega⟩).tr f4
    obtain ⟨S4, g4⟩ := S1.row f14 w4
    refine ⟨rfl, S4.1.1, inb_add (a := 23) (b := ix k) rfl hk.symm (by omega) (by omega), _, rfl, fun _ => ⟨?_, ?_, S4⟩, fun z => by omega, f1.tr g4⟩
    · rw [f14.xi (fun q => by have := q.2; omega), gi_si, if_pos ⟨rfl, rfl⟩]
    · rw [x2]; exact S4.1.md.hole (by show ((ix k : Nat) : Int) < sA s 0 3; omega)
  · rw [flg0] at q1; exact absurd q1 (by decide)
  · rw [flg1] at q1; exact absurd rfl q1
  · rw [flg1]
    obtain ⟨S1, f1⟩ := S.tv 1
    exact ⟨fun z => by omega, fun _ => ⟨by rw [gi_si, if_pos ⟨rfl, rfl⟩], S1⟩, f1⟩))
theorem ma_gear (S : MSt h m s) {k : Int32} : S_X10_gear l D 0 0 [.ref m, .int k] h (QI fun y h' => (0 ≤ k.toInt ∧ k.toInt < sA s 0 4 → gi h' m 0 = 0 ∧ y.toInt = sA s 3 k.toInt.toNat) ∧ (¬ (0 ≤ k.toInt ∧ k.toInt < sA s 0 4) → gi h' m 0 = 1) ∧ MSt h' m s ∧ FrO (inM m) h h') := Sp.of rfl (Nat.le_of_ble_eq_true rfl) (fun X C _ _ _ _ => V_X10_gear_0 C (by
  have e3 := m1sub S.1.md S.1.va (Or.inr rfl)
  have v4 := S.1.va.2.2.2.2.1
  refine ⟨S.1.1, fun q => V_X10_gear_22 C ⟨S.1.1, S.1.1, fun q1 => ?_, fun q1 => ?_⟩, fun q => V_X10_gear_22 C ⟨S.1.1, S.1.1, fun q1 => ?_, fun q1 => ⟨_, rfl, ?_⟩⟩⟩
  all_goals rw [gi_si, if_pos ⟨rfl, rfl⟩] at q1
  all_goals rw [btL_0, i2l_t, i2l_t, l0_t, ix_4, e3] at q
  · rw [flg0]
    obtain ⟨S1, f1⟩ := S.tv 0
    obtain ⟨t1, t2, -⟩ := S1.1.md.tth S1.1.va (g := k) (by omega) (by omega)
    exact ⟨t1, _, rfl, fun _ => ⟨by rw [gi_si, if_pos ⟨rfl, rfl⟩], t2⟩, fun z => by omega, S1, f1⟩
  · rw [flg0] at q1; exact absurd q1 (by decide)
  · rw [flg1] at q1; exact absurd rfl q1
  · rw [flg1]
    obtain ⟨S1, f1⟩ := S.tv 1
    exact ⟨fun z => by omega, fun _ => by rw [gi_si, if_pos ⟨rfl, rfl⟩], S1, f1⟩))
theorem ma_row (S : MSt h m s) {k : Int32} : S_X10_row l D 0 0 [.ref m, .int k] h (QL fun y h' => (0 ≤ k.toInt ∧ k.toInt < (sR s).length → gi h' m 0 = 0 ∧ y.toInt = (sR s).getD k.toInt.toNat 0) ∧ (¬ (0 ≤ k.toInt ∧ k.toInt < (sR s).length) → gi h' m 0 = 1) ∧ MSt h' m s ∧ FrO (inM m) h h') := Sp.of rfl (Nat.le_of_ble_eq_true rfl) (fun X C _ _ _ _ => V_X10_row_0 C (by
  obtain ⟨w1, w2, w3⟩ := S.2.1
  have e3 : (gi h m 1 - 1).toInt = (sR s).length - 1 := by rw [isub_t] <;> rw [i1_t, w1] <;> omega
  refine ⟨S.1.1, fun q => V_X10_row_22 C ⟨S.1.1, S.1.1, fun q1 => ?_, fun q1 => ?_⟩, fun q => V_X10_row_22 C ⟨S.1.1, S.1.1, fun q1 => ?_, fun q1 => ⟨_, rfl, ?_⟩⟩⟩
  all_goals rw [gi_si, if_pos ⟨rfl, rfl⟩] at q1
  all_goals rw [btL_0, i2l_t, i2l_t, l0_t, e3] at q
  · rw [flg0]
    obtain ⟨S1, f1⟩ := S.tv 0
    have hk := ix_t (i := k) (by omega)
    exact ⟨⟨by omega, by omega⟩, _, rfl, fun _ => ⟨by rw [gi_si, if_pos ⟨rfl, rfl⟩], w3 (ix k) (by omega)⟩, fun z => by omega, S1, f1⟩
  · rw [flg0] at q1; exact absurd q1 (by decide)
  · rw [flg1] at q1; exact absurd rfl q1
  · rw [flg1]
    obtain ⟨S1, f1⟩ := S.tv 1
    exact ⟨fun z => by omega, fun _ => by rw [gi_si, if_pos ⟨rfl, rfl⟩], S1, f1⟩))
theorem nxt_t {A : HV} (V : VA A) {n k : Int32} (hn : n.toInt = A 0 7) (h0 : 0 ≤ k.toInt) (h1 : k.toInt < A 0 7) : ((k + 1) % n).toInt = nxt A (ix k) := by
  have vm := V.marks
  have hk := ix_t h0
  have e : (k + 1).toInt = k.toInt + 1 := by rw [iadd_t] <;> rw [i1_t] <;> omega
  rw [irem_p (by omega), e, hn]
  unfold nxt
  by_cases q : k.toInt + 1 < A 0 7
  · rw [if_pos (by omega), Int.emod_eq_of_lt (by omega) q]; omega
  · rw [if_neg (by omega)]
    have : k.toInt + 1 = A 0 7 := by omega
    rw [this, Int.emod_self]; rfl
def gFr (m : Nat) (h h' : Hp) : Prop := FrW (fun _ _ => False) (fun b j => b = m ∧ (j = 33 ∨ j = 34)) h h'
theorem ma_laysGap {A : HV} (H : MdR h m A) (V : VA A) {k : Int32} (h0 : 0 ≤ k.toInt) (h1 : k.toInt < A 0 7) : S_X10_laysGap l D 0 0 [.ref m, .int k] h (QV fun h' => (gl h' m 33).toInt = gaU A (ix k) ∧ (gl h' m 34).toInt = gaL A (ix k) ∧ gFr m h h') := Sp.of rfl (Nat.le_of_ble_eq_true rfl) (fun X C _ _ _ _ => V_X10_laysGap_0 C (by
  have vm := V.marks
  have e60 := H.marks
  have hk := ix_t h0
  have en := nxt_t V e60 h0 h1
  obtain ⟨b1, b2, b3, b4, b5⟩ := gp_b V (k := ix k) (by omega)
  rw [ix_60]
  obtain ⟨x1, x2, x3, x4⟩ := ix_mk (v := k) (k := ix k) hk.symm (by omega)
  obtain ⟨y1, y2, y3, y4⟩ := ix_mk (v := (k + 1) % gi h (m + 3) 60) (k := nxt A (ix k)) en (by omega)
  obtain ⟨m1, m2⟩ := H.mark (k := ix k) (by omega)
  obtain ⟨n1, n2⟩ := H.mark (k := nxt A (ix k)) b1
  rw [x1, x2, y1, y2]
  have mk := V.mk (k := ix k) (by omega)
  have mn := V.mk (k := nxt A (ix k)) b1
  have c1 := mul_bd (a := A 4 (nxt A (ix k))) (b := A 5 (ix k)) (M := 1000000000) (K := 1000000000) (by omega) (by omega) (by omega) (by omega)
  have c2 := mul_bd (a := A 4 (ix k)) (b := A 5 (nxt A (ix k))) (M := 1000000000) (K := 1000000000) (by omega) (by omega) (by omega) (by omega)
  have t1 : (gl h (m + 4) (2 + 2 * nxt A (ix k)) * gl h (m + 4) (2 + 2 * ix k + 1)).toInt = A 4 (nxt A (ix k)) * A 5 (ix k) := by rw [lmul_t] <;> rw [n1, m2] <;> omega
  have t2 : (gl h (m + 4) (2 + 2 * ix k) * gl h (m + 4) (2 + 2 * nxt A (ix k) + 1)).toInt = A 4 (ix k) * A 5 (nxt A (ix k)) := by rw [lmul_t] <;> rw [m1, n2] <;> omega
  have t3 : (gl h (m + 4) (2 + 2 * nxt A (ix k) + 1) * gl h (m + 4) (2 + 2 * ix k + 1)).toInt = gpl A (ix k) := by
    have : gpl A (ix k) = A 5 (nxt A (ix k)) * A 5 (ix k) := rfl
    rw [lmul_t] <;> rw [n2, m2] <;> omega
  refine ⟨H.1, by rw [i32_eq, e60, i0_t]; omega, y3, x4, x3, y4, fun z7 e7 z8 e8 => ?_⟩
  have t7 : z7.toInt = gpu0 A (ix k) := by
    have : gpu0 A (ix k) = A 4 (nxt A (ix k)) * A 5 (ix k) - A 4 (ix k) * A 5 (nxt A (ix k)) := rfl
    rw [e7, lsub_t] <;> rw [t1, t2] <;> omega
  have t8 : z8.toInt = gpl A (ix k) := by rw [e8, t3]
  have fin : ∀ c : Int64, (z7 + c).toInt = gpu A (ix k) → Wj X 0 0 (QV fun h' => (gl h' m 33).toInt = gaU A (ix k) ∧ (gl h' m 34).toInt = gaL A (ix k) ∧ gFr m h h') 59 [(0, .ref m), (5, .long z8)] [.long c, .long z7] h := by
    intro c hc
    have p8 : 0 < z8.toInt := by omega
    obtain ⟨w1, w2⟩ := fr_x (u := z7 + c) p8
    rw [hc, t8] at w1 w2
    have cz := cm_tp (u := z7 + c) p8
    refine V_X10_laysGap_59 C ⟨by omega, p8, by rw [i64_eq, l0_t]; omega, H.1, rfl, ?_, ?_, (FrW.rf.sl ⟨rfl, Or.inl rfl⟩).sl ⟨rfl, Or.inr rfl⟩⟩
    · rw [gl_sl, if_neg (by omega), gl_sl, if_pos ⟨rfl, rfl⟩]; exact w1
    · rw [gl_sl, if_pos ⟨rfl, rfl⟩]; exact w2
  refine ⟨fun q => fin 0 ?_, fun q => fin z8 ?_⟩
  · rw [i64_lt, l0_t, t7] at q
    unfold gpu
    rw [if_neg (by omega), ladd_t] <;> rw [t7, l0_t] <;> omega
  · rw [i64_lt, l0_t, t7] at q
    have eg : gpu A (ix k) = gpu0 A (ix k) + gpl A (ix k) := by unfold gpu; rw [if_pos (by omega)]
    rw [ladd_t] <;> rw [t7, t8] <;> omega))
theorem ma_mark (S : MSt h m s) {k : Int32} : S_X10_mark l D 0 0 [.ref m, .int k] h (QI fun y h' => y.toInt = (markP s k.toInt).1 ∧ MSt h' m (markP s k.toInt).2 ∧ FrO (inM m) h h') := Sp.of rfl (Nat.le_of_ble_eq_true rfl) (fun X C _ _ _ _ => V_X10_mark_0 C (by
  obtain ⟨S1, f1⟩ := S.t0
  have e60 := S1.1.md.marks
  have vm := S.1.va.marks
  have es : (gi (si h m 0 0) (m + 3) 60 - 1).toInt = sA s 0 7 - 1 := by rw [isub_t] <;> rw [i1_t, e60] <;> omega
  rw [ix_60]
  unfold markP
  refine ⟨S.1.1, fun q => ?_, fun q => ⟨_, rfl, ?_⟩⟩
  all_goals rw [btL_0, i2l_t, i2l_t, l0_t, es] at q
  · rw [if_pos (by omega)]
    have hk := ix_t (i := k) (by omega)
    obtain ⟨x1, x2, x3, x4⟩ := ix_mk (v := k) (k := ix k) hk.symm (by omega)
    rw [x1, x2]
    refine (ma_laysGap S1.1.md S.1.va (by omega) (by omega)).mono (fun w h2 hp => ?_)
    obtain ⟨rfl, u1, u2, fg⟩ := hp
    have S2 : MSt h2 m s := S1.fr fg (fun _ _ => id) id (fun _ => id) (fun j _ q => by have := q.1; omega) id (fun j q => by have := q.1; omega) id (fun _ => id)
    have g2 : FrO (inM m) (si h m 0 0) h2 := fg.toM (fun _ _ q => absurd q id) (fun b j q => ⟨by have := q.1; omega, by have := q.1; omega⟩)
    obtain ⟨m1, m2⟩ := S2.1.md.mark (k := ix k) (by omega)
    refine ⟨rfl, S2.1.1, x3, (ma_enters (h := si h2 m 1 0) (L := []) S2.1.1 (RwM.clr 0 rfl) (by decide) (v := gl h2 (m + 4) (2 + 2 * ix k)) m1).mono (fun w h5 hp => ?_)⟩
    obtain ⟨rfl, w5, f5⟩ := hp
    have f25 : FrW (rI m) (rL m) h2 h5 := (FrW.rf.si (v := 0) ⟨rfl, by omega⟩).tr f5
    have r4 : ∀ (h' : Hp) (j : Nat), FrW (rI m) (rL m) h2 h' → gl h' (m + 4) j = gl h2 (m + 4) j := fun h' j f => f.xl (fun (q : m + 4 = m + 1) => by omega)
    have r0 : ∀ (h' : Hp) (j : Nat), FrW (rI m) (rL m) h2 h' → gl h' m j = gl h2 m j := fun h' j f => f.xl (fun (q : m = m + 1) => by omega)
    refine ⟨rfl, f25.st10 S2.1.1, x4, (ma_enters (f25.st10 S2.1.1) w5 (by simp) (v := gl h5 (m + 4) (2 + 2 * ix k + 1)) (z := sA s 5 (ix k)) (by rw [r4 h5 _ f25]; exact m2)).mono (fun w h8 hp => ?_)⟩
    obtain ⟨rfl, w8, f8⟩ := hp
    have f28 := f25.tr f8
    refine ⟨rfl, f28.st10 S2.1.1, (ma_enters (f28.st10 S2.1.1) w8 (by simp) (v := gl h8 m 33) (z := gaU (sA s) (ix k)) (by rw [r0 h8 _ f28]; exact u1)).mono (fun w h10 hp => ?_)⟩
    obtain ⟨rfl, w10, f10⟩ := hp
    have f210 := f28.tr f10
    refine ⟨rfl, f210.st10 S2.1.1, (ma_enters (f210.st10 S2.1.1) w10 (by simp) (v := gl h10 m 34) (z := gaL (sA s) (ix k)) (by rw [r0 h10 _ f210]; exact u2)).mono (fun w h12 hp => ?_)⟩
    obtain ⟨rfl, w12, f12⟩ := hp
    obtain ⟨S12, g12⟩ := S2.row (f210.tr f12) w12
    exact ⟨rfl, _, rfl, rfl, S12, (f1.tr g2).tr g12⟩
  · rw [if_neg (by omega)]
    exact ⟨rfl, S1, f1⟩))
theorem TxM.take {T : List Int} (t : TxM h m T) {v : Int32} (h0 : 0 ≤ v.toInt) (h1 : v.toInt ≤ T.length) : TxM (si h m 4 v) m (T.take v.toInt.toNat) := by
  obtain ⟨t1, t2, t3⟩ := t
  refine ⟨?_, by rw [List.length_take]; omega, fun i hi => ?_⟩
  · rw [gi_si, if_pos ⟨rfl, rfl⟩, List.length_take]; omega
  · rw [List.length_take] at hi
    rw [gi_si, if_neg (by omega), t3 i (by omega)]
    simp only [List.getD_eq_getElem?_getD]
    rw [List.getElem?_take_of_lt (by omega)]
theorem MSt.txt {h' : Hp} (S : MSt h m s) (f : FrW (fun b j => b = m ∧ j = 4 ∨ b = m + 2) (fun _ _ => False) h h') {T : List Int} (t : TxM h' m T) : MSt h' m (txtS s T) ∧ FrO (inM m) h h' :=
  ⟨⟨S.1.fr f (fun j _ q => by omega) (fun q => by omega) (fun j q => by omega) (fun _ _ => id), S.2.1.fr f (fun q => by omega) (fun _ => id), t⟩, f.toM (fun b j q => ⟨by omega, by omega⟩) (fun _ _ q => absurd q id)⟩
theorem ma_end (S : MSt h m s) {n : Int32} : S_X10_end l D 0 0 [.ref m, .int n] h (QI fun y h' => y.toInt = (endP s n.toInt).1 ∧ MSt h' m (endP s n.toInt).2 ∧ FrO (inM m) h h') := Sp.of rfl (Nat.le_of_ble_eq_true rfl) (fun X C _ _ _ _ => V_X10_end_0 C (by
  obtain ⟨S1, f1⟩ := S.t0
  have e4 := S1.2.2.1
  unfold endP
  refine ⟨S.1.1, fun q => ⟨_, rfl, ?_⟩, fun q => ⟨_, rfl, ?_⟩⟩
  all_goals rw [btL_0, i2l_t, i2l_t, l0_t, e4] at q
  · rw [if_pos (by omega)]
    have f : FrW (fun b j => b = m ∧ j = 4 ∨ b = m + 2) (fun _ _ => False) (si h m 0 0) (si (si h m 0 0) m 4 n) := FrW.rf.si (Or.inl ⟨rfl, rfl⟩)
    obtain ⟨S2, f2⟩ := S1.txt f (S1.2.2.take (v := n) (by omega) (by omega))
    exact ⟨rfl, S2, f1.tr f2⟩
  · rw [if_neg (by omega)]
    exact ⟨rfl, S1, f1⟩))
end Told
