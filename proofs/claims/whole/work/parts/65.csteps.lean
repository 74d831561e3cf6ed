-- treeSteps() of the class
theorem tr_step {a b : Int} (ha : 0 < a) (hb : 0 < b) : ((trP a b).length : Int) + 1 = a / b + (if a % b = 0 then 0 else ((trP b (a % b)).length : Int) + 1) := by
  obtain ⟨d1, d2, d3⟩ := divmod (a := a) hb
  obtain ⟨f, hf⟩ : ∃ f : Nat, b = (f : Int) + 1 := ⟨(b - 1).toNat, by omega⟩
  have q := qsm_tr (f + 1) a b ha hb (by omega)
  have e : qsm (f + 1 + 1) a b = a / b + qsm (f + 1) b (a % b) := by
    show (if b = 0 then 0 else a / b + qsm (f + 1) b (a % b)) = _
    rw [if_neg (by omega)]
  rw [← q, e]
  by_cases r : a % b = 0
  · rw [if_pos r, r]
    show a / b + (if (0 : Int) = 0 then 0 else b / 0 + qsm f 0 (b % 0)) = _
    rw [if_pos rfl]
  · rw [if_neg r, qsm_tr f b (a % b) hb (by omega) (by omega)]
section Steps
variable {X : Ctx} {l : Launch} {D : Dt} {h : Hp} {Q : Pq}
theorem cst_end (C : C_X9_treeSteps X) {v4 v6 v8 : Int64} {i : Int32} {T : Int} (hT0 : 0 ≤ T) (hT : T ≤ 1000000000) (h8 : v8.toInt = 0) (h4 : v4.toInt = T + 1) (hq : ∀ y : Int32, y.toInt = T → Q (some (.int y)) h) : Wj X 0 0 Q 20 [(4, .long v4), (6, .long v6), (8, .long v8), (10, .int i)] [] h := by
  have e : (v4 - 1).toInt = T := by rw [lsub_t] <;> rw [l1_t] <;> omega
  have e2 : (Int64.toInt32 (v4 - 1)).toInt = T := by rw [l2i_t] <;> rw [e] <;> omega
  refine V_X9_treeSteps_20 C ⟨fun _ => hq _ e2, fun _ => ⟨fun _ => hq _ e2, fun q => ?_⟩⟩
  rw [i64_eq, l0_t] at q; exact absurd h8 q
/-- one round of it -/
theorem cst_one (C : C_X9_treeSteps X) {v4 v6 v8 : Int64} {i : Int32} {T : Int} (h6 : 0 < v6.toInt) (h8 : 0 < v8.toInt) (hi : i.toInt < 200) (h40 : 0 ≤ v4.toInt) (hT : T ≤ 1000000000) (h4 : v4.toInt + ((trP v6.toInt v8.toInt).length + 1) = T + 1)
    (K : ∀ v4' : Int64, 0 ≤ v4'.toInt → ((v6 % v8).toInt = 0 → v4'.toInt = T + 1) → (0 < (v6 % v8).toInt → v4'.toInt + ((trP v8.toInt (v6 % v8).toInt).length + 1) = T + 1) → Wj X 0 0 Q 20 [(4, .long v4'), (6, .long v8), (8, .long (v6 % v8)), (10, .int (i + Int32.ofInt 1))] [] h) : Wj X 0 0 Q 20 [(4, .long v4), (6, .long v6), (8, .long v8), (10, .int i)] [] h := by
  have st := tr_step h6 h8
  have er := lrem_p (x := v6) (y := v8) (by omega)
  have ed := ldiv_p (x := v6) (y := v8) (by omega) (by omega)
  have d0 : 0 ≤ v6.toInt / v8.toInt := Int.ediv_nonneg (by omega) (by omega)
  have rn := Int.emod_nonneg v6.toInt (Int.ne_of_gt h8)
  have dl : v6.toInt / v8.toInt ≤ T + 1 := by
    by_cases r : v6.toInt % v8.toInt = 0
    · rw [if_pos r] at st; omega
    · rw [if_neg r] at st; omega
  have ea : (v4 + v6 / v8).toInt = v4.toInt + v6.toInt / v8.toInt := by rw [ladd_t] <;> rw [ed] <;> omega
  refine V_X9_treeSteps_20 C ⟨fun q => ?_, fun _ => ⟨fun q => ?_, fun q => ⟨q, K _ (by rw [ea]; omega) (fun z => ?_) (fun z => ?_)⟩⟩⟩
  · rw [i32_le] at q
    have : (200 : Int32).toInt = 200 := rfl
    omega
  · rw [i64_eq, l0_t] at q; omega
  · rw [er] at z; rw [if_pos z] at st; rw [ea]; omega
  · rw [er] at z ⊢; rw [if_neg (by omega)] at st; rw [ea]; omega
theorem cst_loop (m : Nat) : ∀ {v4 v6 v8 : Int64} {i : Int32} {T : Int}, C_X9_treeSteps X → 0 < v6.toInt → 0 < v8.toInt → v8.toInt < 2 ^ m → 0 ≤ i.toInt → i.toInt + 2 * m ≤ 200 → 0 ≤ v4.toInt → 0 ≤ T → T ≤ 1000000000 → v4.toInt + ((trP v6.toInt v8.toInt).length + 1) = T + 1 → (∀ y : Int32, y.toInt = T → Q (some (.int y)) h) → Wj X 0 0 Q 20 [(4, .long v4), (6, .long v6), (8, .long v8), (10, .int i)] [] h := by
  induction m with
  | zero => intro v4 v6 v8 i T C h6 h8 hm; simp at hm; omega
  | succ m ih =>
    intro v4 v6 v8 i T C h6 h8 hm hi him h40 hT0 hT h4 hq
    obtain ⟨x1, x2⟩ := ix_succ hi (by omega)
    have er := lrem_p (x := v6) (y := v8) (by omega)
    have rn := Int.emod_nonneg v6.toInt (Int.ne_of_gt h8)
    have rl := Int.emod_lt_of_pos v6.toInt h8
    refine cst_one C h6 h8 (by omega) h40 hT h4 (fun w hw0 hz hp => ?_)
    by_cases z : (v6 % v8).toInt = 0
    · exact cst_end C hT0 hT z (hz z) hq
    · have hrp : 0 < (v6 % v8).toInt := by omega
      have er2 := lrem_p (x := v8) (y := v6 % v8) (by omega)
      have hs0 := Int.emod_nonneg v8.toInt (Int.ne_of_gt hrp)
      have hs1 := half_mod (y := v8.toInt) hrp (by omega)
      obtain ⟨y1, y2⟩ := ix_succ (i := i + Int32.ofInt 1) (by omega) (by omega)
      refine cst_one C h8 hrp (by omega) hw0 hT (hp hrp) (fun w2 hw20 hz2 hp2 => ?_)
      by_cases z2 : (v8 % (v6 % v8)).toInt = 0
      · exact cst_end C hT0 hT z2 (hz2 z2) hq
      · refine ih C hrp (by omega) ?_ (by omega) (by omega) hw20 hT0 hT (hp2 (by omega)) hq
        rw [Int.pow_succ] at hm
        omega
theorem cl_treeSteps {a b : Int64} (ha : 0 ≤ a.toInt) (ha2 : a.toInt ≤ 400000000) (hb : 0 < b.toInt) (hb2 : b.toInt ≤ 400000000) : S_X9_treeSteps l D 0 0 [.long a, .long b] h (QI fun y h' => (y.toInt = if a.toInt = 0 then 0 else ((trP a.toInt b.toInt).length : Int)) ∧ h' = h) := Sp.of rfl (Nat.le_of_ble_eq_true rfl) (fun X C _ _ _ _ => V_X9_treeSteps_0 C (by
  refine ⟨fun q => ?_, fun q => ⟨_, rfl, ?_, rfl⟩⟩
  all_goals rw [i64_eq, l0_t] at q
  · have tl := trP_len (a := a.toInt) (b := b.toInt) (by omega) hb
    refine cst_loop 63 C (T := ((trP a.toInt b.toInt).length : Int)) (by omega) hb (by omega) (by decide) (by decide) (by rw [l0_t]; omega) (by omega) (by omega) (by rw [l0_t]; omega) (fun y hy => ⟨y, rfl, by rw [if_neg q]; exact hy, rfl⟩)
  · rw [if_pos q]; rfl))
end Steps
