-- divides() of the reference: any step
section MDy
variable {X : Ctx} {l : Launch} {D : Dt} {h : Hp} {m : Nat} {Q : Pq} {A B : HV} {s : Sv}
theorem ma_stepsBy {n : Int} {w : Nat} (H : MdR h m B) (VB : VA B) (V : VA A) (S : SmB A B) (W : WyM h m A n w) (hn : hw A n w ≠ 0) {v1 v2 : Int32} (e1 : v1.toInt = n) (e2 : v2.toInt = w) (w2 : w ≤ 2) (n1 : 2 ≤ n) (n2 : n ≤ 400) : S_X10_stepsBy l D 0 0 [.ref m, .int v1, .int v2] h (QV fun h' => MdR h' m (dvSt A n w B) ∧ FrA m h h') := Sp.of rfl (Nat.le_of_ble_eq_true rfl) (fun X C _ _ _ _ => V_X10_stepsBy_0 C (by
  have i2 : (2 : Int32).toInt = 2 := rfl
  unfold dvSt
  refine ⟨fun q => ?_, fun q => ⟨H.1, ?_⟩⟩
  all_goals rw [i32_eq, e2, i2] at q
  · by_cases c : w = 1
    · subst c
      rw [if_pos rfl]
      have z : (cwQ A n).1 ≠ 0 := fun z => hn (by rw [hw_1, if_pos z])
      have ok := cwQ_ok V n1
      have ct := cwQ_t V n1
      obtain ⟨r1, r2, r3, r4, r5⟩ := W.1 rfl z
      have eg := dvCm_go V S ok ct z
      rw [eg]
      clear eg
      have t2 := ct z
      obtain ⟨⟨i, j, ei, ej, hi, hj, hij, a1, a2, b1, b2⟩, b0, t0, t1⟩ := ok.2.2 z
      generalize cwQ A n = Wq at *
      rw [ei] at r1 ⊢
      rw [ej] at r2 ⊢
      rw [Int.toNat_natCast]
      generalize Wq.2.2.2.1 = T at *
      generalize Wq.2.2.2.2.1 = a at *
      generalize Wq.2.2.2.2.2 = b at *
      have vi := V.2.2.2.2.2.2.2.2.2.2.2.2.2.1 i hi
      have vj := V.2.2.2.2.2.2.2.2.2.2.2.2.2.1 j hj
      have w3 := V.2.2.2.1
      have g12 : (gi h m 12).toInt = i := r1
      have g14 : (gi h m 14).toInt = T := r3
      have g15 : (gi h m 15).toInt = a := r4
      obtain ⟨y1, -⟩ := ix_add (c := 23) (v := gi h m 12) (a := 23) (b := i) rfl g12 (by omega)
      have ib : inb (23 + gi h m 12) 732 := inb_add (a := 23) (b := i) rfl g12 (by omega) (by omega)
      have eh : (gi h (m + 3) (ix (23 + gi h m 12))).toInt = A 1 i := by rw [y1, H.hole (by rw [S.2.1]; exact hi)]; exact S.2.2 i
      have mb := mul_bd (a := T) (b := A 1 i) (M := 61) (K := 70) (by omega) (by omega) (by omega) (by omega)
      have em : ((gi h m 14).toInt64 * (gi h (m + 3) (ix (23 + gi h m 12))).toInt64).toInt = T * A 1 i := by rw [lmul_t] <;> rw [i2l_t, i2l_t, g14, eh] <;> omega
      have eq : ((gi h m 14).toInt64 * (gi h (m + 3) (ix (23 + gi h m 12))).toInt64 + (gi h m 15).toInt64).toInt = T * A 1 i + a := by rw [ladd_t] <;> rw [em, i2l_t, g15] <;> omega
      refine V_X10_stepsBy_13 C ⟨fun _ => ⟨H.1, ib, ?_⟩, fun z => absurd (by rw [i32_eq, e2, i1_t]; rfl) z⟩
      refine (ma_goesBy H VB (by omega) (by rw [g12, S.2.1]; exact hi) (by rw [eq]; omega) (by rw [eq]; omega)).mono (fun r h3 hp => ?_)
      obtain ⟨z3, rfl, -, H3, f3⟩ := hp
      rw [g12, eq] at H3
      have V3 : VA (goQ B i (T * A 1 i + a)).2 := va_goQ VB (by omega) (by rw [S.2.1]; exact hi)
      have S3 : SmB A (goQ B i (T * A 1 i + a)).2 := S.go
      generalize (goQ B i (T * A 1 i + a)).2 = G at *
      have k13 : (gi h3 m 13).toInt = j := by rw [f3.xi (fun q => by unfold aI at q; omega)]; exact r2
      have k16 : (gi h3 m 16).toInt = b := by rw [f3.xi (fun q => by unfold aI at q; omega)]; exact r5
      refine ⟨z3, rfl, H3.1, ?_⟩
      refine (ma_goesBy H3 V3 (by omega) (by rw [k13, S3.2.1]; exact hj) (by rw [i2l_t, k16]; omega) (by rw [i2l_t, k16]; omega)).mono (fun r h6 hp => ?_)
      obtain ⟨z6, rfl, -, H6, f6⟩ := hp
      rw [k13, i2l_t, k16] at H6
      have V6 : VA (goQ G j b).2 := va_goQ V3 (by omega) (by rw [S3.2.1]; exact hj)
      have S6 : SmB A (goQ G j b).2 := S3.go
      have l13 : (gi h6 m 13).toInt = j := by rw [f6.xi (fun q => by unfold aI at q; omega)]; exact k13
      obtain ⟨H7, f7⟩ := H6.at53 V6 (k := gi h6 m 13) ⟨by omega, by rw [l13, S6.2.1]; exact hj⟩
      rw [l13] at H7
      refine ⟨z6, rfl, H6.1, ?_⟩
      rw [ix_53]
      exact ⟨rfl, H7, (f3.tr f6).tr f7⟩
    · have e0 : w = 0 := by omega
      subst e0
      rw [if_neg (by omega)]
      have ek : dvK A n 0 = n := by unfold dvK; rw [if_neg (by omega)]
      rw [ek]
      refine ma_step13 C H VB V S e1 n1 ?_ (by rw [i32_eq, e2, i1_t]; omega)
      rw [hw_0] at hn
      by_cases c : (fS A n : Int) < A 0 3
      · exact c
      · rw [if_neg c] at hn; exact absurd rfl hn
  · have c : w = 2 := by omega
    subst c
    rw [if_neg (by omega)]
    obtain ⟨d, ed, r1, r2, r3⟩ := W.2 rfl
    have ek : dvK A n 2 = d.1 := by unfold dvK; rw [if_pos rfl, ed]
    rw [ek]
    obtain ⟨d1, d2, d3, -⟩ := difQ_b n2 ed
    exact ma_step13 C H VB V S r1 d1 d3 (by rw [i32_eq, e2, i1_t]; omega)))
end MDy
