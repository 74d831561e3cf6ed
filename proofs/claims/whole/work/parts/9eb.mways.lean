-- ways() and hard() of the reference
section Wym
variable {X : Ctx} {l : Launch} {D : Dt} {h : Hp} {m : Nat} {Q : Pq} {A : HV} {s : Sv}
def fwI (m b j : Nat) : Prop := fvI m b j ∨ (b = m ∧ 12 ≤ j ∧ j ≤ 16)
abbrev FrY (m : Nat) (h h' : Hp) : Prop := FrW (fwI m) (fun _ _ => False) h h'
theorem FrY.rf : FrY m h h := FrW.rf (P := fwI m) (R := fun _ _ => False)
theorem FrY.md {h' : Hp} (H : MdR h m A) (V : VA A) (f : FrY m h h') : MdR h' m A := H.fr V f (fun j _ q => by unfold fwI fvI at q; omega) (fun _ _ => id)
theorem FrY.ms {h' : Hp} (S : MSt h m s) (f : FrY m h h') : MSt h' m s ∧ FrO (inM m) h h' :=
  ⟨S.fr f (fun j _ q => by unfold fwI fvI at q; omega) (fun q => by unfold fwI fvI at q; omega) (fun j q => by unfold fwI fvI at q; omega) (fun _ _ => id) (fun q => by unfold fwI fvI at q; omega) (fun _ => id) (fun q => by unfold fwI fvI at q; omega) (fun j q => by unfold fwI fvI at q; omega),
   f.toM (fun b j q => by unfold fwI fvI at q; unfold inM; omega) (fun _ _ q => absurd q id)⟩
set_option maxHeartbeats 200000 in
theorem ma_waysOf (H : MdR h m A) (V : VA A) {n : Int32} (n1 : 2 ≤ n.toInt) (n2 : n.toInt ≤ 400) : S_X10_waysOf l D 0 0 [.ref m, .int n] h (QI fun y h' => y.toInt = hw A n.toInt 0 + 2 * hw A n.toInt 1 + 4 * hw A n.toInt 2 ∧ FrY m h h') := Sp.of rfl (Nat.le_of_ble_eq_true rfl) (fun X C _ _ _ _ => V_X10_waysOf_0 C (by
  refine ⟨H.1, (ma_firstSimple H V (n := n) (by omega)).mono (fun w h2 hp => ?_)⟩
  obtain ⟨y, rfl, hy, e⟩ := hp
  rw [e]
  have i2 : (2 : Int32).toInt = 2 := rfl
  have i4 : (4 : Int32).toInt = 4 := rfl
  have w0 := hw_01 (A := A) (n := n.toInt) (k := 0)
  have w1 := hw_01 (A := A) (n := n.toInt) (k := 1)
  have w2 := hw_01 (A := A) (n := n.toInt) (k := 2)
  have k1 : ∀ (a : Int32), a.toInt = hw A n.toInt 0 → Wj X 0 0 (QI fun y h' => y.toInt = hw A n.toInt 0 + 2 * hw A n.toInt 1 + 4 * hw A n.toInt 2 ∧ FrY m h h') 13 [(0, .ref m), (1, .int n)] [.int a] h := by
    intro a ea
    refine V_X10_waysOf_13 C ⟨H.1, (ma_findsCompound H V (v1 := n) n1 (by omega)).mono (fun w h3 hp => ?_)⟩
    obtain ⟨y3, rfl, hy3, -, f3⟩ := hp
    have g3 : FrY m h h3 := f3.mono (fun b j q => Or.inr q) (fun _ _ q => q)
    have H3 := FrY.md H V g3
    have fa : (flg a).toInt = hw A n.toInt 0 := by
      unfold flg
      by_cases z : a = 0
      · rw [if_pos z]; rw [z] at ea; exact ea
      · rw [if_neg z]
        rw [i32_eq, i0_t] at z
        rw [i1_t]; omega
    have k2 : ∀ (b : Int32), b.toInt = hw A n.toInt 1 → Wj X 0 0 (QI fun y h' => y.toInt = hw A n.toInt 0 + 2 * hw A n.toInt 1 + 4 * hw A n.toInt 2 ∧ FrY m h h') 30 [(0, .ref m), (1, .int n)] [.int b, .int 2, .int (flg a)] h3 := by
      intro b eb
      refine V_X10_waysOf_30 C ⟨H3.1, (ma_findsDifferential H3 V (v1 := n) n1 n2).mono (fun w h5 hp => ?_)⟩
      obtain ⟨y5, rfl, R5, f5⟩ := hp
      have g5 : FrY m h3 h5 := f5.mono (fun b j q => Or.inl q) (fun _ _ q => q)
      have fb : (flg b).toInt = hw A n.toInt 1 := by
        unfold flg
        by_cases z : b = 0
        · rw [if_pos z]; rw [z] at eb; exact eb
        · rw [if_neg z]
          rw [i32_eq, i0_t] at z
          rw [i1_t]; omega
      have f5' : (flg y5).toInt = hw A n.toInt 2 := by
        rw [hw_2]
        cases eq : difQ A n.toInt with
        | none =>
          rw [eq] at R5
          have z : y5 = 0 := R5
          rw [z]; rfl
        | some d =>
          rw [eq] at R5
          have z : y5 = 1 := R5.1
          rw [z]; rfl
      have m1 : (2 * flg b).toInt = 2 * hw A n.toInt 1 := by rw [imul_t] <;> rw [i2, fb] <;> omega
      have m2 : (4 * flg y5).toInt = 4 * hw A n.toInt 2 := by rw [imul_t] <;> rw [i4, f5'] <;> omega
      have s1 : (flg a + 2 * flg b).toInt = hw A n.toInt 0 + 2 * hw A n.toInt 1 := by rw [iadd_t] <;> rw [fa, m1] <;> omega
      refine ⟨y5, rfl, _, rfl, ?_, g3.tr g5⟩
      rw [iadd_t] <;> rw [s1, m2] <;> omega
    refine ⟨y3, rfl, fun q => k2 0 ?_, fun q => k2 1 ?_⟩
    all_goals
      rw [i32_lt, hy3, i0_t] at q
      rw [hw_1]
      have ok := (cwQ_ok V n1).1
      by_cases z : (cwQ A n.toInt).1 = 0
      · rw [if_pos z] at q ⊢
        first
          | rfl
          | omega
      · rw [if_neg z] at q ⊢
        first
          | rfl
          | omega
  refine ⟨y, rfl, fun q => k1 0 ?_, fun q => k1 1 ?_⟩
  all_goals
    rw [i32_lt, hy, i0_t] at q
    rw [hw_0]
    by_cases z : (fS A n.toInt : Int) < A 0 3
    · rw [if_pos z] at q ⊢
      first
        | rfl
        | omega
    · rw [if_neg z] at q ⊢
      first
        | rfl
        | omega))
end Wym
