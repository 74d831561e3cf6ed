-- near() of the class
section FNear2
variable {X : Ctx} {l : Launch} {D : Dt} {h : Hp} {x m : Nat} {s : Sv} {Q : Pq}
theorem nrS_b {p q : Int} {b c : Int × Int} (P : Int × Int → Prop) (h1 : P b) (h2 : P c) : P (nrS p q b c) := by
  rcases nrS_of (p := p) (q := q) (b := b) (c := c) with e | e <;> rw [e]
  · exact h1
  · exact h2
theorem fn_loop (C : C_X9_findNear X) {p q : Int64} {mm : Int32} (p1 : 1 ≤ p.toInt) (p2 : p.toInt ≤ 100000) (q1 : 1 ≤ q.toInt) (q2 : q.toInt ≤ 100000) (m1 : 1 ≤ mm.toInt) (m2 : mm.toInt ≤ 1000) (hend : ∀ bu bl : Int64, (bu.toInt, bl.toInt) = nrI p.toInt q.toInt mm.toInt.toNat → Wj X 0 0 Q 142 [(0, .ref x), (6, .long bu), (8, .long bl)] [] h) (d : Nat) : ∀ (bu bl bo lw : Int64) (k : Nat), (bu.toInt, bl.toInt) = nrI p.toInt q.toInt k → bo.toInt = farN p.toInt q.toInt (bu.toInt, bl.toInt) → lw.toInt = (k : Int) + 1 → (k : Int) + d = mm.toInt → Wj X 0 0 Q 19 [(0, .ref x), (1, .long p), (3, .long q), (5, .int mm), (6, .long bu), (8, .long bl), (10, .long bo), (12, .long lw)] [] h := by
  induction d with
  | zero =>
    intro bu bl bo lw k eb eo el hd
    have e : nrI p.toInt q.toInt k = nrI p.toInt q.toInt mm.toInt.toNat := by congr 1; omega
    refine V_X9_findNear_19 C ⟨fun _ => hend bu bl (by rw [eb, e]), fun z => ?_⟩
    rw [i64_lt, i2l_t] at z; omega
  | succ d ih =>
    intro bu bl bo lw k eb eo el hd
    have b := nrI_b p1 p2 q1 k (by omega)
    rw [← eb] at b
    dsimp only at b
    refine V_X9_findNear_19 C ⟨fun z => ?_, fun _ => ⟨fun z => ?_, fun z => ⟨by rw [i64_eq, l0_t]; omega, ?_⟩⟩⟩
    · rw [i64_lt, i2l_t] at z; omega
    · rw [i64_eq, eo, l0_t, eb] at z
      have st := nrI_stay p1 p2 q1 (l := k) (m := mm.toInt.toNat) (by omega) (by omega) z
      exact hend bu bl (by rw [eb, st])
    · have bm := mul_bd (a := p.toInt) (b := lw.toInt) (M := 100000) (K := 1000) (by omega) p2 (by omega) (by omega)
      have t1 : (p * lw).toInt = p.toInt * lw.toInt := lmul_t (by omega) (by omega)
      have ef : (p * lw / q).toInt = p.toInt * lw.toInt / q.toInt := by rw [ldiv_p (by rw [t1]; omega) (by omega), t1]
      have f0 : 0 ≤ p.toInt * lw.toInt / q.toInt := Int.ediv_nonneg (by omega) (by omega)
      have f1 : p.toInt * lw.toInt / q.toInt ≤ 100000000 := by
        have := Int.ediv_le_self q.toInt (a := p.toInt * lw.toInt) bm.1
        omega
      have e1 : (p * lw / q + 1).toInt = p.toInt * lw.toInt / q.toInt + 1 := by rw [ladd_t] <;> rw [l1_t, ef] <;> omega
      have e2 : (p * lw / q + 1 + 1).toInt = p.toInt * lw.toInt / q.toInt + 2 := by rw [ladd_t] <;> rw [l1_t, e1] <;> omega
      have inR : ∀ c : Int × Int, c = (bu.toInt, bl.toInt) ∨ c = (p.toInt * lw.toInt / q.toInt, lw.toInt) → 0 ≤ c.1 ∧ c.1 ≤ 100000001 ∧ 1 ≤ c.2 ∧ c.2 ≤ 1000 := fun c hc => by
        rcases hc with rfl | rfl <;> dsimp only <;> omega
      refine fn_one C p1 p2 q1 q2 (by omega) (by omega) (by omega) (by omega) eo (by omega) (by omega) (by omega) (by omega) (by omega) (by omega) (fun bu' bl' bo' eb' eo' => ?_)
      rw [ef] at eb'
      have r' := inR (bu'.toInt, bl'.toInt) (by rw [eb']; exact nrS_of)
      dsimp only at r'
      refine fn_one C p1 p2 q1 q2 r'.1 r'.2.1 r'.2.2.1 r'.2.2.2 eo' (by omega) (by omega) (by omega) (by omega) (by omega) (by omega) (fun bu2 bl2 bo2 eb2 eo2 => ?_)
      rw [e1, eb'] at eb2
      have tl : (p * lw / q + 1).toInt = p.toInt * lw.toInt / q.toInt + 1 := e1
      have ew : (lw + 1).toInt = ((k + 1 : Nat) : Int) + 1 := by rw [ladd_t] <;> rw [l1_t, el] <;> omega
      refine V_X9_findNear_47 C ⟨fun _ => ih bu2 bl2 bo2 (lw + 1) (k + 1) ?_ eo2 ew (by omega), fun z => ?_⟩
      · rw [eb2, eb, el]; rfl
      · rw [i64_lt, e1, e2] at z; omega
theorem cl_findNear (F : St9 h x) {p q : Int64} {mm : Int32} (p1 : 1 ≤ p.toInt) (p2 : p.toInt ≤ 100000) (q1 : 1 ≤ q.toInt) (q2 : q.toInt ≤ 100000) (m1 : 1 ≤ mm.toInt) (m2 : mm.toInt ≤ 1000) : S_X9_findNear l D 0 0 [.ref x, .long p, .long q, .int mm] h (QV fun h' => (gl h' (x + 13) 0).toInt = rdU (nrI p.toInt q.toInt mm.toInt.toNat).1 (nrI p.toInt q.toInt mm.toInt.toNat).2 ∧ (gl h' (x + 13) 1).toInt = rdL (nrI p.toInt q.toInt mm.toInt.toNat).1 (nrI p.toInt q.toInt mm.toInt.toNat).2 ∧ FrW (fun _ _ => False) (fun b _ => b = x + 13) h h') := Sp.of rfl (Nat.le_of_ble_eq_true rfl) (fun X C _ _ _ _ => V_X9_findNear_0 C (by
  have b := nrI_b p1 p2 q1 mm.toInt.toNat (by omega)
  refine ⟨fun _ => fn_loop C p1 p2 q1 q2 m1 m2 (fun bu bl eb => ?_) mm.toInt.toNat 0 1 p 1 0 rfl ?_ rfl (by omega), fun z => ?_⟩
  · have e1 : bu.toInt = (nrI p.toInt q.toInt mm.toInt.toNat).1 := congrArg Prod.fst eb
    have e2 : bl.toInt = (nrI p.toInt q.toInt mm.toInt.toNat).2 := congrArg Prod.snd eb
    obtain ⟨g1, g2⟩ := gl_fpt0 h (x + 13) bu bl
    obtain ⟨r1, r2⟩ := fr_x (u := bu) (w := bl) (by omega)
    rw [e1, e2] at r1 r2
    exact V_X9_findNear_142 C ⟨F, by omega, by omega, rfl, by rw [g1]; exact r1, by rw [g2]; exact r2, FrW.sl (P := fun _ _ => False) (R := fun c _ => c = x + 13) (FrW.sl (P := fun _ _ => False) (R := fun c _ => c = x + 13) FrW.rf rfl) rfl⟩
  · have e0 : (0 : Int64).toInt = 0 := rfl
    have e1 : (1 : Int64).toInt = 1 := rfl
    unfold farN
    dsimp only
    rw [e0, e1]; omega
  · rw [i64_lt, l0_t] at z; omega))
end FNear2
