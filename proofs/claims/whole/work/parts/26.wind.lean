-- Head.wind()
theorem ix_t {i : Int32} (h : 0 ≤ i.toInt) : ((ix i : Nat) : Int) = i.toInt := by unfold ix; omega
section Wind
variable {h : Hp} {a : Nat} {A : HV}
theorem hHo_t (H : HdR h a A) (V : VA A) (k : Int32) : (hHo h a k).toInt = if 0 ≤ k.toInt ∧ k.toInt < A 0 3 then A 1 (ix k) else 0 := by
  have h3 := H.2.1 3 (by omega)
  have v3 := V.2.2.2.1
  unfold hHo
  rw [h3]
  by_cases q : 0 ≤ k.toInt ∧ k.toInt < A 0 3
  · rw [if_pos (by omega), if_pos q]
    exact (H.2.2.2.2.2.2.2.1 (ix k) (by rw [ix_t q.1]; omega)).1
  · rw [if_neg (by omega), if_neg q]; rfl
theorem hHo_c (H : HdR h a A) (V : VA A) : (hHo h a (gi h a 5)).toInt = Hc A := by
  have h5 := H.2.1 5 (by omega)
  have v5 := V.2.2.2.2.2.1
  rw [hHo_t H V, h5, if_pos v5]
  unfold Hc ix
  rw [h5]
theorem hN_t (H : HdR h a A) (V : VA A) : (hN h a).toInt = Nv A := by
  have hc := hHo_c H V
  obtain ⟨c1, c2⟩ := V.hc
  obtain ⟨n0, n1, n2, n3, n4⟩ := V.nv
  have v := V
  obtain ⟨v0, -, -, v3, -, v5, -, -, v8, v9, -⟩ := v
  have h0 := H.2.1 0 (by omega)
  have e1 : ((gi h a 0).toInt64 * gl h (a + 1) 1).toInt = A 0 0 * A 0 9 := by
    have m1 := mul_bd (a := A 0 0) (b := A 0 9) (M := 120) (K := 10000) (by omega) (by omega) (by omega) (by omega)
    rw [lmul_t] <;> rw [i2l_t, h0, H.2.2.2.2.1] <;> omega
  have e2 : ((gi h a 16).toInt64 * gl h (a + 1) 0).toInt = A 0 12 * A 0 8 := by
    have m2 : -10000 ≤ A 0 12 * A 0 8 ∧ A 0 12 * A 0 8 ≤ 10000 := by rcases v9 with e | e <;> rw [e] <;> omega
    rw [lmul_t] <;> rw [i2l_t, H.2.2.1, H.2.2.2.1] <;> omega
  have e3 : ((gi h a 0).toInt64 * gl h (a + 1) 1 - (gi h a 16).toInt64 * gl h (a + 1) 0).toInt = A 0 0 * A 0 9 - A 0 12 * A 0 8 := by
    rw [lsub_t] <;> rw [e1, e2] <;> omega
  unfold hN
  unfold Nv at n1 n2 ⊢
  rw [lmul_t] <;> rw [i2l_t, hc, e3] <;> omega
theorem hSg_t (H : HdR h a A) (V : VA A) : (hSg h a).toInt = (Nv A).sign * A 0 9 := by
  have e := hN_t H V
  obtain ⟨n0, -⟩ := V.nv
  have v8 := V.2.2.2.2.2.2.2.2.1
  have h9 := H.2.2.2.2.1
  unfold hSg
  by_cases q : 0 ≤ hN h a
  · rw [if_pos q, h9]
    rw [i64_le, l0_t, e] at q
    rw [Int.sign_eq_one_of_pos (by omega)]; omega
  · rw [if_neg q, lneg_t (by omega), h9]
    rw [i64_le, l0_t, e] at q
    rw [Int.sign_eq_neg_one_of_neg (by omega)]; omega
theorem abN_t (H : HdR h a A) (V : VA A) : (abL (hN h a)).toInt = (Nv A).natAbs ∧ 0 < (abL (hN h a)).toInt ∧ (abL (hN h a)).toInt ≤ 84700000 := by
  have e := hN_t H V
  obtain ⟨n0, n1, n2, -⟩ := V.nv
  rw [abL_t (by rw [e]; omega), e]
  omega
theorem gl_fpt0 (h : Hp) (a : Nat) (u w : Int64) : gl (fpt h a u w) a 0 = u / cm u w ∧ gl (fpt h a u w) a 1 = w / cm u w := by
  unfold fpt
  constructor
  · rw [gl_sl, if_neg (fun q => by cases q.2), gl_sl, if_pos ⟨rfl, rfl⟩]
  · rw [gl_sl, if_pos ⟨rfl, rfl⟩]
theorem gl_fptN (h : Hp) (a b j : Nat) (u w : Int64) (hb : b ≠ a) : gl (fpt h a u w) b j = gl h b j := by
  unfold fpt
  rw [gl_sl, if_neg (fun q => hb q.1), gl_sl, if_neg (fun q => hb q.1)]
/-- the step of one hole, as the scratch fraction has it -/
theorem step_t (H : HdR h a A) (V : VA A) {h1 : Hp} {b : Nat} (e : h1 = fpt h b (fmL (hSg h a) (abL (hN h a))) (abL (hN h a))) : ∃ s w g : Int, (gl h1 b 0).toInt = s ∧ (gl h1 b 1).toInt = w ∧ 0 ≤ s ∧ s < w ∧ 0 < w ∧ w ≤ 84700000 ∧ 0 < g ∧ g * w = (Nv A).natAbs ∧ (∃ z, g * s = (Nv A).sign * A 0 9 + z * (Nv A).natAbs) ∧ Int.gcd s w = 1 := by
  obtain ⟨n1, n2, n3⟩ := abN_t H V
  have r1 := fmL_t (a := hSg h a) n2
  have r2 := Int.emod_nonneg (hSg h a).toInt (Int.ne_of_gt n2)
  have r3 := Int.emod_lt_of_pos (hSg h a).toInt n2
  rw [← r1] at r2 r3
  obtain ⟨f1, f2⟩ := fr_t r2 n2
  obtain ⟨m1, m2⟩ := rd_mul (u := (fmL (hSg h a) (abL (hN h a))).toInt) n2
  obtain ⟨g1, g2⟩ := gl_fpt0 h b (fmL (hSg h a) (abL (hN h a))) (abL (hN h a))
  have hg := gcd_pos' (u := (fmL (hSg h a) (abL (hN h a))).toInt) n2
  refine ⟨_, _, (Int.gcd (fmL (hSg h a) (abL (hN h a))).toInt (abL (hN h a)).toInt : Int), by rw [e, g1]; exact f1, by rw [e, g2]; exact f2, rdU_nn r2 n2, rdU_lt r3 n2, rdL_pos n2, ?_, by omega, ?_, ?_, rd_cop n2⟩
  · have := rdL_le (u := (fmL (hSg h a) (abL (hN h a))).toInt) n2; omega
  · rw [m2, n1]
  · refine ⟨-((hSg h a).toInt / (Nv A).natAbs), ?_⟩
    rw [m1, r1, n1, hSg_t H V]
    have := Int.emod_add_mul_ediv ((Nv A).sign * A 0 9) (Nv A).natAbs
    rw [Int.neg_mul, Int.mul_comm (_ / _)]
    omega
theorem mod_in {x y p w : Int} : (x + (y % w) * p) % (p * w) = (x + y * p) % (p * w) := by
  have e : y * p = (y % w) * p + (p * w) * (y / w) := by
    have := Int.emod_add_mul_ediv y w
    have e2 : (y % w + w * (y / w)) * p = (y % w) * p + (p * w) * (y / w) := by
      rw [Int.add_mul, Int.mul_comm (w * (y / w)) p, Int.mul_assoc]
    rw [this] at e2; exact e2
  rw [e, ← Int.add_assoc, Int.add_mul_emod_self_left]
end Wind
section Wind2
variable {X : Ctx} {k n : Nat} {h0 h : Hp} {a : Nat} {A : HV} {Q : Pq}
theorem wind_108 (C : C_X4_wind X) (H : HdR h a A) (V : VA A) (f : FrO (inH a) h0 h) {s w g q : Int} {v7 s0 : Int64} (e1 : (gl h (a + 3) 0).toInt = s) (e2 : (gl h (a + 3) 1).toInt = w) (hs0 : 0 ≤ s) (hsw : s < w) (hw : 0 < w) (hw2 : w ≤ 84700000) (hg : 0 < g) (hN : g * w = (Nv A).natAbs) (hz : ∃ z, g * s = (Nv A).sign * A 0 9 + z * (Nv A).natAbs)
    (e3 : v7.toInt = A 0 11 * w) (e4 : s0.toInt = q * s) (hQ : ∀ (x : Int32) (h' : Hp), x.toInt = (windQ A q).1 → HdR h' a (windQ A q).2 → FrO (inH a) h0 h' → Q (some (.int x)) h') : Wj X k n Q 108 [(0, .ref a), (7, .long v7)] [.long s0] h := by
  have v := V
  obtain ⟨-, -, -, -, -, -, -, -, -, -, -, -, v12, -⟩ := v
  have hp : 0 < A 0 11 := by omega
  have b1 := mul_bd (a := A 0 11) (b := w) (M := 1000000000) (K := 84700000) (by omega) (by omega) (by omega) hw2
  have hLp : 0 < A 0 11 * w := Int.mul_pos hp hw
  have p10 : (gl h (a + 2) 0).toInt = A 0 10 := H.2.2.2.2.2.1
  have p11 : (gl h (a + 2) 1).toInt = A 0 11 := H.2.2.2.2.2.2.1
  have b2 := mul_bd (a := A 0 10) (b := w) (M := 1000000000) (K := 84700000) (by omega) (by omega) (by omega) hw2
  have m0 : (fmL s0 (gl h (a + 3) 1)).toInt = (q * s) % w := by rw [fmL_t (by rw [e2]; exact hw), e2, e4]
  have m1 := Int.emod_nonneg (q * s) (Int.ne_of_gt hw)
  have m2 := Int.emod_lt_of_pos (q * s) hw
  have b3 := mul_bd (a := (q * s) % w) (b := A 0 11) (M := 84700000) (K := 1000000000) m1 (by omega) (by omega) (by omega)
  have t1 : (gl h (a + 2) 0 * gl h (a + 3) 1).toInt = A 0 10 * w := by rw [lmul_t] <;> rw [p10, e2] <;> omega
  have t2 : (fmL s0 (gl h (a + 3) 1) * gl h (a + 2) 1).toInt = (q * s) % w * A 0 11 := by rw [lmul_t] <;> rw [m0, p11] <;> omega
  have t3 : (gl h (a + 2) 0 * gl h (a + 3) 1 + fmL s0 (gl h (a + 3) 1) * gl h (a + 2) 1).toInt = A 0 10 * w + (q * s) % w * A 0 11 := by rw [ladd_t] <;> rw [t1, t2] <;> omega
  generalize hU : (gl h (a + 2) 0 * gl h (a + 3) 1 + fmL s0 (gl h (a + 3) 1) * gl h (a + 2) 1) % v7 = U
  have hUt : U.toInt = (A 0 10 * w + q * s * A 0 11) % (A 0 11 * w) := by
    rw [← hU, lrem_p (by rw [t3]; omega), t3, e3, mod_in]
  have u0 := Int.emod_nonneg (A 0 10 * w + q * s * A 0 11) (Int.ne_of_gt hLp)
  have u1 := Int.emod_lt_of_pos (A 0 10 * w + q * s * A 0 11) hLp
  rw [← hUt] at u0 u1
  obtain ⟨r1, r2⟩ := wd_same V (q := q) hw hg hN hz (U := U.toInt) (L := v7.toInt) e3 (by rw [e3]; exact hUt)
  have hv7 : 0 < v7.toInt := by rw [e3]; exact hLp
  obtain ⟨f1, f2⟩ := fr_t (u := U) (w := v7) u0 hv7
  obtain ⟨g1, g2⟩ := gl_fpt0 h (a + 3) U v7
  have ia3 : inH a (a + 3) := ⟨by omega, by omega⟩
  have ia2 : inH a (a + 2) := ⟨by omega, by omega⟩
  refine V_X4_wind_108 C ⟨H.1, by rw [e2]; exact hw, by rw [i64_eq, l0_t]; omega, by rw [hU]; omega, hv7, fun c => ?_, fun c => ?_⟩
  · rw [hU] at c ⊢
    rw [g2, i64_le, f2, r2] at c
    have : (1000000000 : Int64).toInt = 1000000000 := rfl
    have ew : windQ A q = (0, uv (uv A 0 10 (rdU (wdU A q) (wdL A))) 0 11 (rdL (wdU A q) (wdL A))) := if_pos (by omega)
    refine hQ _ _ (by rw [ew]; rfl) ?_ ((f.fpt ia3).fcp ia2)
    rw [ew]
    have H2 : HdR (fpt h (a + 3) U v7) a A := H.setn
    have H3 := H2.setp (u := gl (fpt h (a + 3) U v7) (a + 3) 0) (w := gl (fpt h (a + 3) U v7) (a + 3) 1)
    rw [g1, g2, f1, f2, r1, r2] at H3
    show HdR (fcp (fpt h (a + 3) U v7) (a + 2) (a + 3)) a _
    unfold fcp
    rw [g1, g2]
    exact H3
  · rw [hU] at c ⊢
    rw [g2, i64_le, f2, r2] at c
    have : (1000000000 : Int64).toInt = 1000000000 := rfl
    have ew : windQ A q = (-4, A) := if_neg (by omega)
    exact hQ _ _ (by rw [ew]; rfl) (by rw [ew]; exact H.setn) (f.fpt ia3)
theorem i99_t : (99 : Int32).toInt = 99 := rfl
theorem sp_wind {l : Launch} {D : Dt} (H : HdR h a A) (V : VA A) {t m b : Int32} : S_X4_wind l D 0 0 [.ref a, .int t, .int m, .int b] h (QI fun x h' => x.toInt = (windP A t.toInt m.toInt b.toInt).1 ∧ HdR h' a (windP A t.toInt m.toInt b.toInt).2 ∧ FrO (inH a) h h') := Sp.of rfl (Nat.le_of_ble_eq_true rfl) (fun X C _ _ _ _ => V_X4_wind_0 C (by
  have hc := hHo_c H V
  obtain ⟨c1, c2⟩ := V.hc
  have v := V
  obtain ⟨-, -, -, -, -, -, -, -, -, -, -, -, v12, -⟩ := v
  have hc1 : (hHo h a (gi h a 5) - 1).toInt = Hc A - 1 := by rw [isub_t] <;> rw [hc, i1_t] <;> omega
  have bad : ¬ ((0 ≤ t.toInt ∧ t.toInt ≤ 99) ∧ (0 ≤ m.toInt ∧ m.toInt ≤ Hc A - 1) ∧ (0 ≤ b.toInt ∧ b.toInt ≤ 1)) → ((-1 : Int32).toInt = (windP A t.toInt m.toInt b.toInt).1 ∧ HdR h a (windP A t.toInt m.toInt b.toInt).2 ∧ FrO (inH a) h h) := by
    intro q
    unfold windP
    rw [if_neg q]
    exact ⟨rfl, H, FrO.rf⟩
  refine ⟨H.1, fun h1 => ⟨_, rfl, bad ?_⟩, fun h1 => ⟨fun h2 => ⟨_, rfl, bad ?_⟩, fun h2 => ⟨fun h3 => ?_, fun h3 => ⟨_, rfl, bad ?_⟩⟩⟩⟩
  all_goals rw [bt_0, i0_t, i99_t] at h1
  · omega
  all_goals rw [bt_0, i0_t, hc1] at h2
  · omega
  all_goals rw [bt_0, i0_t, i1_t] at h3
  · obtain ⟨s, w, g, e1, e2, hs0, hsw, hw, hw2, hg, hNg, hz, -⟩ := step_t H V (b := a + 3) rfl
    obtain ⟨n1, n2, n3⟩ := abN_t H V
    have ok : (0 ≤ t.toInt ∧ t.toInt ≤ 99) ∧ (0 ≤ m.toInt ∧ m.toInt ≤ Hc A - 1) ∧ (0 ≤ b.toInt ∧ b.toInt ≤ 1) := by omega
    have wp : windP A t.toInt m.toInt b.toInt = windQ A (if b.toInt = 1 then -(t.toInt * Hc A + m.toInt) else t.toInt * Hc A + m.toInt) := if_pos ok
    rw [wp]
    generalize hh1 : fpt h (a + 3) (fmL (hSg h a) (abL (hN h a))) (abL (hN h a)) = h1 at *
    have H1 : HdR h1 a A := by rw [← hh1]; exact H.setn
    have f1 : FrO (inH a) h h1 := by rw [← hh1]; exact FrO.rf.fpt ⟨by omega, by omega⟩
    have p11 : (gl h1 (a + 2) 1).toInt = A 0 11 := H1.2.2.2.2.2.2.1
    have b1 := mul_bd (a := A 0 11) (b := w) (M := 1000000000) (K := 84700000) (by omega) (by omega) (by omega) hw2
    have hLp : 0 < A 0 11 * w := Int.mul_pos (by omega) hw
    have t1 : (gl h1 (a + 2) 1 * gl h1 (a + 3) 1).toInt = A 0 11 * w := by rw [lmul_t] <;> rw [p11, e2] <;> omega
    have b2 := mul_bd (a := t.toInt) (b := Hc A) (M := 99) (K := 70) (by omega) (by omega) (by omega) (by omega)
    have t2 : (t * hHo h a (gi h a 5)).toInt = t.toInt * Hc A := by rw [imul_t] <;> rw [hc] <;> omega
    have t3 : (t * hHo h a (gi h a 5) + m).toInt = t.toInt * Hc A + m.toInt := by rw [iadd_t] <;> rw [t2] <;> omega
    have b3 := mul_bd (a := t.toInt * Hc A + m.toInt) (b := s) (M := 7000) (K := 84700000) (by omega) (by omega) hs0 (by omega)
    have t4 : ((t * hHo h a (gi h a 5) + m).toInt64 * gl h1 (a + 3) 0).toInt = (t.toInt * Hc A + m.toInt) * s := by rw [lmul_t] <;> rw [i2l_t, t3, e1] <;> omega
    refine ⟨n2, fun h4 => ⟨fun h5 => ?_, fun h5 => ?_⟩, fun h4 => ?_⟩
    · rw [i32_eq, i1_t] at h5
      rw [if_neg h5]
      exact wind_108 C H1 V f1 e1 e2 hs0 hsw hw hw2 hg hNg hz t1 t4 (fun x h' a1 a2 a3 => ⟨x, rfl, a1, a2, a3⟩)
    · rw [i32_eq, i1_t] at h5
      rw [if_pos h5]
      have t5 : (-((t * hHo h a (gi h a 5) + m).toInt64 * gl h1 (a + 3) 0)).toInt = -(t.toInt * Hc A + m.toInt) * s := by rw [lneg_t (by rw [t4]; omega), t4, Int.neg_mul]
      exact wind_108 C H1 V f1 e1 e2 hs0 hsw hw hw2 hg hNg hz t1 t5 (fun x h' a1 a2 a3 => ⟨x, rfl, a1, a2, a3⟩)
    · rw [i64_lt, l0_t, t1] at h4; omega
  · omega))
end Wind2
