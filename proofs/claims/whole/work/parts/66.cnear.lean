-- findNear() of the class
theorem nrI_stay {p q : Int} (hp : 1 ≤ p) (hp2 : p ≤ 100000) (hq : 1 ≤ q) {l m : Nat} (hl : l ≤ m) (hm : m ≤ 1000) (h : farN p q (nrI p q l) = 0) : nrI p q m = nrI p q l := by
  induction m with
  | zero => rw [show l = 0 by omega]
  | succ m ih =>
    by_cases e : l = m + 1
    · rw [e]
    · have i := ih (by omega) (by omega)
      have b := nrI_b hp hp2 hq l (by omega)
      show nrL p q (nrI p q m) ((m : Int) + 1) = _
      rw [i, nrL_zero (by omega) (by omega) (by omega) h]
theorem farN_b {p q : Int} {c : Int × Int} (hp : 1 ≤ p) (hp2 : p ≤ 100000) (hq : 1 ≤ q) (hq2 : q ≤ 100000) (h1 : 0 ≤ c.1) (h2 : c.1 ≤ 100000001) (h3 : 1 ≤ c.2) (h4 : c.2 ≤ 1000) : (0 ≤ p * c.2 ∧ p * c.2 ≤ 100000000) ∧ (0 ≤ c.1 * q ∧ c.1 * q ≤ 10000000100000) ∧ farN p q c ≤ 10000000100000 := by
  have a := mul_bd (a := p) (b := c.2) (M := 100000) (K := 1000) (by omega) hp2 (by omega) h4
  have b := mul_bd (a := c.1) (b := q) (M := 100000001) (K := 100000) h1 h2 (by omega) hq2
  unfold farN
  omega
section FNear
variable {X : Ctx} {l : Launch} {D : Dt} {h : Hp} {x : Nat} {Q : Pq}
/-- one candidate -/
theorem fn_one (C : C_X9_findNear X) {p q bu bl bo lw fl u : Int64} {mm : Int32} (p1 : 1 ≤ p.toInt) (p2 : p.toInt ≤ 100000) (q1 : 1 ≤ q.toInt) (q2 : q.toInt ≤ 100000) (b1 : 0 ≤ bu.toInt) (b2 : bu.toInt ≤ 100000001) (b3 : 1 ≤ bl.toInt) (b4 : bl.toInt ≤ 1000) (eo : bo.toInt = farN p.toInt q.toInt (bu.toInt, bl.toInt)) (l1 : 1 ≤ lw.toInt) (l2 : lw.toInt ≤ 1000) (u0 : 0 ≤ u.toInt) (u1 : u.toInt ≤ 100000001) (f1 : fl.toInt ≤ 100000000) (hu : u.toInt ≤ fl.toInt + 1)
    (K : ∀ bu' bl' bo' : Int64, (bu'.toInt, bl'.toInt) = nrS p.toInt q.toInt (bu.toInt, bl.toInt) (u.toInt, lw.toInt) → bo'.toInt = farN p.toInt q.toInt (bu'.toInt, bl'.toInt) → Wj X 0 0 Q 47 [(0, .ref x), (1, .long p), (3, .long q), (5, .int mm), (6, .long bu'), (8, .long bl'), (10, .long bo'), (12, .long lw), (14, .long fl), (16, .long (u + 1))] [] h) : Wj X 0 0 Q 47 [(0, .ref x), (1, .long p), (3, .long q), (5, .int mm), (6, .long bu), (8, .long bl), (10, .long bo), (12, .long lw), (14, .long fl), (16, .long u)] [] h := by
  obtain ⟨c1, c2, c3⟩ := farN_b (c := (u.toInt, lw.toInt)) p1 p2 q1 q2 u0 u1 l1 l2
  obtain ⟨d1, d2, d3⟩ := farN_b (c := (bu.toInt, bl.toInt)) p1 p2 q1 q2 b1 b2 b3 b4
  dsimp only at c1 c2 d1 d2
  have t1 : (p * lw).toInt = p.toInt * lw.toInt := lmul_t (by omega) (by omega)
  have t2 : (u * q).toInt = u.toInt * q.toInt := lmul_t (by omega) (by omega)
  have t3 : (p * lw - u * q).toInt = p.toInt * lw.toInt - u.toInt * q.toInt := by rw [lsub_t] <;> rw [t1, t2] <;> omega
  have ef : (abL (p * lw - u * q)).toInt = farN p.toInt q.toInt (u.toInt, lw.toInt) := by rw [abL_t (by rw [t3]; omega), t3]; rfl
  have nf := farN_nn p.toInt q.toInt (u.toInt, lw.toInt)
  have nb := farN_nn p.toInt q.toInt (bu.toInt, bl.toInt)
  have m1 := mul_bd (a := farN p.toInt q.toInt (u.toInt, lw.toInt)) (b := bl.toInt) (M := 10000000100000) (K := 1000) nf c3 (by omega) b4
  have m2 := mul_bd (a := farN p.toInt q.toInt (bu.toInt, bl.toInt)) (b := lw.toInt) (M := 10000000100000) (K := 1000) nb d3 (by omega) l2
  have m3 := mul_bd (a := bu.toInt) (b := lw.toInt) (M := 100000001) (K := 1000) b1 b2 (by omega) l2
  have m4 := mul_bd (a := u.toInt) (b := bl.toInt) (M := 100000001) (K := 1000) u0 u1 (by omega) b4
  have t4 : (abL (p * lw - u * q) * bl).toInt = farN p.toInt q.toInt (u.toInt, lw.toInt) * bl.toInt := by rw [lmul_t] <;> rw [ef] <;> omega
  have t5 : (bo * lw).toInt = farN p.toInt q.toInt (bu.toInt, bl.toInt) * lw.toInt := by rw [lmul_t] <;> rw [eo] <;> omega
  have t6 : (abL (p * lw - u * q) * bl - bo * lw).toInt = farN p.toInt q.toInt (u.toInt, lw.toInt) * bl.toInt - farN p.toInt q.toInt (bu.toInt, bl.toInt) * lw.toInt := by rw [lsub_t] <;> rw [t4, t5] <;> omega
  have t7 : (bu * lw).toInt = bu.toInt * lw.toInt := lmul_t (by omega) (by omega)
  have t8 : (u * bl).toInt = u.toInt * bl.toInt := lmul_t (by omega) (by omega)
  have t9 : (fl + 1).toInt = fl.toInt + 1 := by rw [ladd_t] <;> rw [l1_t] <;> omega
  have yes : nrB p.toInt q.toInt (bu.toInt, bl.toInt) (u.toInt, lw.toInt) → Wj X 0 0 Q 112 [(0, .ref x), (1, .long p), (3, .long q), (5, .int mm), (12, .long lw), (14, .long fl), (16, .long u), (18, .long (abL (p * lw - u * q)))] [] h := fun z => V_X9_findNear_112 C (K u lw _ (by unfold nrS; rw [if_pos z]) ef)
  have no : ¬ nrB p.toInt q.toInt (bu.toInt, bl.toInt) (u.toInt, lw.toInt) → Wj X 0 0 Q 47 [(0, .ref x), (1, .long p), (3, .long q), (5, .int mm), (6, .long bu), (8, .long bl), (10, .long bo), (12, .long lw), (14, .long fl), (16, .long (u + 1))] [] h := fun z => K bu bl bo (by unfold nrS; rw [if_neg z]) eo
  refine V_X9_findNear_47 C ⟨fun z => ?_, fun _ => ⟨fun z => yes (Or.inl ?_), fun z => ⟨fun z2 => no ?_, fun z2 => ⟨fun z3 => no ?_, fun z3 => yes (Or.inr ⟨?_, ?_⟩)⟩⟩⟩⟩
  · rw [i64_lt, t9] at z; omega
  all_goals rw [i64_lt, t6, l0_t] at z
  · show farN p.toInt q.toInt (u.toInt, lw.toInt) * bl.toInt < farN p.toInt q.toInt (bu.toInt, bl.toInt) * lw.toInt
    omega
  all_goals rw [i64_eq, t6, l0_t] at z2
  · rintro (w | ⟨w, -⟩)
    · have w' : farN p.toInt q.toInt (u.toInt, lw.toInt) * bl.toInt < farN p.toInt q.toInt (bu.toInt, bl.toInt) * lw.toInt := w
      omega
    · have w' : farN p.toInt q.toInt (u.toInt, lw.toInt) * bl.toInt = farN p.toInt q.toInt (bu.toInt, bl.toInt) * lw.toInt := w
      omega
  all_goals rw [i64_le, t7, t8] at z3
  · rintro (w | ⟨-, w⟩)
    · have w' : farN p.toInt q.toInt (u.toInt, lw.toInt) * bl.toInt < farN p.toInt q.toInt (bu.toInt, bl.toInt) * lw.toInt := w
      omega
    · have w' : u.toInt * bl.toInt < bu.toInt * lw.toInt := w
      omega
  · show farN p.toInt q.toInt (u.toInt, lw.toInt) * bl.toInt = farN p.toInt q.toInt (bu.toInt, bl.toInt) * lw.toInt
    omega
  · show u.toInt * bl.toInt < bu.toInt * lw.toInt
    omega
end FNear
