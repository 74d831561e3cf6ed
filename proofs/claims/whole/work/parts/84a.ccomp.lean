-- compound() of the class: take
/-- sum, turns and holes of the way; and its circles -/
def CWo (h : Hp) (w : Nat) (S : CW) : Prop := gf h w 0 = S.1 ∧ (S.1 ≠ 0 → gf h w 3 = S.2.2.2.1 ∧ gf h w 4 = S.2.2.2.2.1 ∧ gf h w 5 = S.2.2.2.2.2)
def CWh (h : Hp) (w : Nat) (S : CW) : Prop := CWo h w S ∧ (S.1 ≠ 0 → gf h w 1 = S.2.1 ∧ gf h w 2 = S.2.2.1)
abbrev FrC (w : Nat) (h h' : Hp) : Prop := FrW (fun b _ => b = w) (fun _ _ => False) h h'
theorem FrC.rf {w : Nat} {h : Hp} : FrC w h h := FrW.rf (P := fun b _ => b = w) (R := fun _ _ => False)
theorem FrC.s {w : Nat} {h h' : Hp} (f : FrC w h h') {k : Nat} {v : Int32} : FrC w h (si h' w k v) := FrW.si (P := fun b _ => b = w) (R := fun _ _ => False) f rfl
section CCm
variable {X : Ctx} {l : Launch} {D : Dt} {h : Hp} {x m a w : Nat} {Q : Pq} {A : HV} {s : Sv}
theorem cl_take (kw : kd h w = 1) {S : CW} (R : CWo h w S) (s0 : 0 ≤ S.1) {p q t : Int32} (i j : Int) (p1 : 1 ≤ p.toInt) (p2 : p.toInt ≤ 100) (q1 : -100 ≤ q.toInt) (q2 : q.toInt ≤ 100) : S_X0_take l D 0 0 [.ref w, .int p, .int q, .int t] h (QI fun y h' => CWo h' w (cwTake S i j p.toInt q.toInt t.toInt) ∧ (y = 0 → cwTake S i j p.toInt q.toInt t.toInt = S) ∧ (¬ y = 0 → cwTake S i j p.toInt q.toInt t.toInt = (p.toInt + (q.toInt.natAbs : Int), i, j, t.toInt, p.toInt, q.toInt)) ∧ (gf h' w 1 = gf h w 1 ∧ gf h' w 2 = gf h w 2) ∧ FrC w h h') := Sp.of rfl (Nat.le_of_ble_eq_true rfl) (fun X C _ _ _ _ => V_X0_take_0 C (by
  obtain ⟨r0, r1⟩ := id R
  have g0 : (gi h w 0).toInt = S.1 := r0
  have ta : (abI q).toInt = (q.toInt.natAbs : Int) := abI_t (by omega)
  have tp : (p + abI q).toInt = p.toInt + (q.toInt.natAbs : Int) := by rw [iadd_t] <;> rw [ta] <;> omega
  generalize hQ : (QI fun y h' => CWo h' w (cwTake S i j p.toInt q.toInt t.toInt) ∧ (y = 0 → cwTake S i j p.toInt q.toInt t.toInt = S) ∧ (¬ y = 0 → cwTake S i j p.toInt q.toInt t.toInt = (p.toInt + (q.toInt.natAbs : Int), i, j, t.toInt, p.toInt, q.toInt)) ∧ (gf h' w 1 = gf h w 1 ∧ gf h' w 2 = gf h w 2) ∧ FrC w h h') = Q
  have no : ¬ (0 ≤ t.toInt ∧ (S.1 = 0 ∨ p.toInt + (q.toInt.natAbs : Int) < S.1)) → Q (some (.int 0)) h := by
    intro z
    have e : cwTake S i j p.toInt q.toInt t.toInt = S := if_neg z
    rw [← hQ]
    exact ⟨0, rfl, by rw [e]; exact R, fun _ => e, fun y => absurd rfl y, ⟨rfl, rfl⟩, FrC.rf⟩
  have yes : (0 ≤ t.toInt ∧ (S.1 = 0 ∨ p.toInt + (q.toInt.natAbs : Int) < S.1)) → Wj X 0 0 Q 30 [(0, .ref w), (1, .int p), (2, .int q), (3, .int t), (4, .int (p + abI q))] [] h := by
    intro z
    have e : cwTake S i j p.toInt q.toInt t.toInt = (p.toInt + (q.toInt.natAbs : Int), i, j, t.toInt, p.toInt, q.toInt) := if_pos z
    refine V_X0_take_30 C ⟨kw, ?_⟩
    rw [← hQ]
    refine ⟨1, rfl, ?_, fun y => absurd y p1_ne, fun _ => e, ⟨?_, ?_⟩, FrC.s (FrC.s (FrC.s (FrC.s FrC.rf)))⟩
    · rw [e]
      refine ⟨?_, fun _ => ⟨?_, ?_, ?_⟩⟩ <;> unfold gf
      · rw [gi_si, if_neg (by omega), gi_si, if_neg (by omega), gi_si, if_neg (by omega), gi_si, if_pos ⟨rfl, rfl⟩]; exact tp
      · rw [gi_si, if_neg (by omega), gi_si, if_neg (by omega), gi_si, if_pos ⟨rfl, rfl⟩]
      · rw [gi_si, if_neg (by omega), gi_si, if_pos ⟨rfl, rfl⟩]
      · rw [gi_si, if_pos ⟨rfl, rfl⟩]
    · unfold gf; rw [gi_si, if_neg (by omega), gi_si, if_neg (by omega), gi_si, if_neg (by omega), gi_si, if_neg (by omega)]
    · unfold gf; rw [gi_si, if_neg (by omega), gi_si, if_neg (by omega), gi_si, if_neg (by omega), gi_si, if_neg (by omega)]
  refine ⟨fun z => no ?_, fun z => ⟨kw, fun z2 => yes ?_, fun z2 => ⟨fun z3 => yes ?_, fun z3 => no ?_⟩⟩⟩
  all_goals rw [i32_lt, i0_t] at z
  · omega
  all_goals rw [i32_eq, g0, i0_t] at z2
  · omega
  all_goals rw [i32_lt, tp, g0] at z3
  · omega
  · omega))
end CCm
