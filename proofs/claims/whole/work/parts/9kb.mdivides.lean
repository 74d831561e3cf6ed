-- divides() of the reference: a simple step
section MDx
variable {X : Ctx} {l : Launch} {D : Dt} {h : Hp} {m : Nat} {Q : Pq} {A B : HV} {s : Sv}
theorem ma_step13 (C : C_X10_stepsBy X) (H : MdR h m B) (VB : VA B) (V : VA A) (S : SmB A B) {k : Int} {s0 v2 : Int32} (es : s0.toInt = k) (k1 : 2 ≤ k) (hf : (fS A k : Int) < A 0 3) (hv : ¬ v2 = 1) : Wj X 0 0 (QV fun h' => MdR h' m (dvSm A k B) ∧ FrA m h h') 13 [(0, .ref m), (2, .int v2)] [.int s0] h := by
  refine V_X10_stepsBy_13 C ⟨fun q => absurd q hv, fun _ => ⟨H.1, (ma_firstSimple H VB (n := s0) (by omega)).mono (fun r h10 hp => ?_)⟩⟩
  obtain ⟨y, rfl, hy, e⟩ := hp
  rw [e]
  rw [es, fS_same S hf, if_pos (by rw [S.2.1]; exact hf)] at hy
  have w3 := V.2.2.2.1
  obtain ⟨s1, s2, s3, s4⟩ := sm_div V (n := k) (by omega) hf (fS_is hf)
  have v13 := (V.2.2.2.2.2.2.2.2.2.2.2.2.2.1 _ hf)
  have bw := V.worm
  have bb := mul_bd (a := A 0 0) (b := A 1 (fS A k)) (M := 120) (K := 70) (by omega) (by omega) (by omega) (by omega)
  obtain ⟨y1, -⟩ := ix_add (c := 23) (v := y) (a := 23) (b := fS A k) rfl hy (by omega)
  have ib : inb (23 + y) 732 := inb_add (a := 23) (b := fS A k) rfl hy (by omega) (by omega)
  have r5 : 0 ≤ y.toInt ∧ y.toInt < B 0 3 := ⟨by omega, by rw [S.2.1, hy]; exact hf⟩
  obtain ⟨H1, f1⟩ := H.at53 VB (k := y) r5
  have V1 := VB.toC r5.1 r5.2
  refine ⟨y, rfl, H.1, ib, by rw [i32_eq, es, i0_t]; omega, ?_⟩
  rw [ix_53, ix_0, y1]
  have S1 : SmB A (uv B 0 5 y.toInt) := S.uv (by omega) _
  have e0 : (gi (si h (m + 3) 53 y) (m + 3) 0).toInt = A 0 0 := by rw [H1.n (by omega)]; exact S1.1
  have eh : (gi (si h (m + 3) 53 y) (m + 3) (23 + fS A k)).toInt = A 1 (fS A k) := by rw [H1.hole (by rw [S1.2.1]; exact hf)]; exact S1.2.2 _
  have em : (gi (si h (m + 3) 53 y) (m + 3) 0 * gi (si h (m + 3) 53 y) (m + 3) (23 + fS A k)).toInt = A 0 0 * A 1 (fS A k) := by rw [imul_t] <;> rw [e0, eh] <;> omega
  have eq : (Int32.toInt64 (gi (si h (m + 3) 53 y) (m + 3) 0 * gi (si h (m + 3) 53 y) (m + 3) (23 + fS A k) / s0)).toInt = smH A k (fS A k) := by
    rw [i2l_t, idiv_p (by rw [em]; omega) (by omega), em, es]; rfl
  refine (ma_goesBy H1 V1 (k := y) r5.1 (by rw [S1.2.1, hy]; exact hf) (by rw [eq]; omega) (by rw [eq]; omega)).mono (fun r h3 hp => ?_)
  obtain ⟨z, rfl, -, H3, f3⟩ := hp
  rw [hy, eq] at H3
  exact ⟨z, rfl, rfl, by rw [dvSm_go V S k1 hf]; exact H3, f1.tr f3⟩
end MDx
