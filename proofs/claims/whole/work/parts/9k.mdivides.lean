-- divides() of the reference: the way
section MDv
variable {X : Ctx} {l : Launch} {D : Dt} {h : Hp} {m : Nat} {Q : Pq} {A B : HV} {s : Sv}
def WyM (h : Hp) (m : Nat) (A : HV) (n : Int) (w : Nat) : Prop := (w = 1 → RWh h m (cwQ A n)) ∧ (w = 2 → ∃ d, difQ A n = some d ∧ gf h m 21 = d.1 ∧ gf h m 22 = d.2.1 ∧ FdH h m d.2.2)
theorem WyM.same {h' : Hp} {n : Int} {w : Nat} (W : WyM h m A n w) (e : ∀ j, 12 ≤ j → j ≤ 22 → j ≠ 18 → gi h' m j = gi h m j) (e8 : ∀ j, gi h' (m + 8) j = gi h (m + 8) j) : WyM h' m A n w := by
  refine ⟨fun c => ?_, fun c => ?_⟩
  · have R := W.1 c
    unfold RWh gf at R ⊢
    rw [e 12 (by omega) (by omega) (by omega), e 13 (by omega) (by omega) (by omega), e 14 (by omega) (by omega) (by omega), e 15 (by omega) (by omega) (by omega), e 16 (by omega) (by omega) (by omega)]; exact R
  · obtain ⟨d, ed, r1, r2, r3, r4⟩ := W.2 c
    unfold gf at r1 r2
    refine ⟨d, ed, by unfold gf; rw [e 21 (by omega) (by omega) (by omega)]; exact r1, by unfold gf; rw [e 22 (by omega) (by omega) (by omega)]; exact r2, by rw [e 20 (by omega) (by omega) (by omega)]; exact r3, fun j hj => by rw [e8]; exact r4 j hj⟩
theorem WyM.fa {h' : Hp} {n : Int} {w : Nat} (W : WyM h m A n w) (f : FrA m h h') : WyM h' m A n w :=
  W.same (fun j h1 h2 h3 => f.xi (fun q => by unfold aI at q; omega)) (fun j => f.xi (fun q => by unfold aI at q; omega))
theorem ma_hasWay (H : MdR h m A) (V : VA A) {n v : Int32} {w : Nat} (n1 : 2 ≤ n.toInt) (n2 : n.toInt ≤ 400) (ev : v.toInt = w) (w2 : w ≤ 2) : S_X10_hasWay l D 0 0 [.ref m, .int n, .int v] h (QI fun y h' => y.toInt = hw A n.toInt w ∧ (hw A n.toInt w ≠ 0 → WyM h' m A n.toInt w) ∧ FrY m h h') := Sp.of rfl (Nat.le_of_ble_eq_true rfl) (fun X C _ _ _ _ => V_X10_hasWay_0 C (by
  refine ⟨fun q => ⟨fun q1 => ⟨H.1, ?_⟩, fun q1 => ⟨H.1, ?_⟩⟩, fun q => ⟨H.1, ?_⟩⟩
  all_goals rw [i32_eq, ev, i0_t] at q
  · rw [i32_eq, ev, i1_t] at q1
    have e2 : w = 2 := by omega
    subst e2
    refine (ma_findsDifferential H V (v1 := n) n1 n2).mono (fun r h2 hp => ?_)
    obtain ⟨y, rfl, R2, f2⟩ := hp
    have g2 : FrY m h h2 := f2.mono (fun b j q => Or.inl q) (fun _ _ q => q)
    rw [hw_2]
    cases ed : difQ A n.toInt with
    | none =>
      rw [ed] at R2
      have z : y = 0 := R2
      exact ⟨y, rfl, Or.inl z, y, rfl, by rw [z]; rfl, fun q => absurd rfl q, g2⟩
    | some d =>
      rw [ed] at R2
      obtain ⟨z, r1, r2, r3⟩ := R2
      exact ⟨y, rfl, Or.inr z, y, rfl, by rw [z]; rfl, fun _ => ⟨fun c => by omega, fun _ => ⟨d, ed, r1, r2, r3⟩⟩, g2⟩
  · rw [i32_eq, ev, i1_t] at q1
    have e2 : w = 1 := by omega
    subst e2
    refine (ma_findsCompound H V (v1 := n) n1 (by omega)).mono (fun r h2 hp => ?_)
    obtain ⟨y, rfl, hy, R2, f2⟩ := hp
    have g2 : FrY m h h2 := f2.mono (fun b j q => Or.inr q) (fun _ _ q => q)
    have W : WyM h2 m A n.toInt 1 := ⟨fun _ => R2, fun c => by omega⟩
    have ok := (cwQ_ok V n1).1
    rw [hw_1]
    refine ⟨y, rfl, fun q2 => ⟨_, rfl, ?_, fun _ => W, g2⟩, fun q2 => ⟨_, rfl, ?_, fun _ => W, g2⟩⟩
    all_goals
      rw [i32_lt, hy, i0_t] at q2
      by_cases z : (cwQ A n.toInt).1 = 0
      · rw [if_pos z] at q2 ⊢
        first
          | rfl
          | omega
      · rw [if_neg z] at q2 ⊢
        first
          | rfl
          | omega
  · have e2 : w = 0 := by omega
    subst e2
    refine (ma_firstSimple H V (n := n) (by omega)).mono (fun r h2 hp => ?_)
    obtain ⟨y, rfl, hy, e⟩ := hp
    rw [e]
    have W : WyM h m A n.toInt 0 := ⟨fun c => by omega, fun c => by omega⟩
    rw [hw_0]
    refine ⟨y, rfl, fun q2 => ⟨_, rfl, ?_, fun _ => W, FrY.rf⟩, fun q2 => ⟨_, rfl, ?_, fun _ => W, FrY.rf⟩⟩
    all_goals
      rw [i32_lt, hy, i0_t] at q2
      by_cases z : (fS A n.toInt : Int) < A 0 3
      · rw [if_pos z] at q2 ⊢
        first
          | rfl
          | omega
      · rw [if_neg z] at q2 ⊢
        first
          | rfl
          | omega))
theorem va_goQ {k q : Int} (V : VA B) (h1 : 0 ≤ k) (h2 : k < B 0 3) : VA (goQ B k q).2 := by
  have V1 := (V.toC h1 h2).windQ q
  rw [goQ_at] at V1
  have e5 : (goQ B k q).2 0 5 = B 0 5 := by
    unfold goQ
    split
    · show uv (uv B 0 10 (nxU (atC B k) q)) 0 11 (nxL (atC B k) q) 0 5 = B 0 5
      rw [uv_i, if_neg (by omega), uv_i, if_neg (by omega)]
    · rfl
  have e3 : (goQ B k q).2 0 3 = B 0 3 := (SmB.go (A := B) (B := B) ⟨rfl, rfl, fun _ => rfl⟩).2.1
  generalize (goQ B k q).2 = G at *
  have c := V.circ
  have e33 : atC G k 0 3 = G 0 3 := by
    show uv G 0 5 k 0 3 = G 0 3
    rw [uv_i, if_neg (by omega)]
  have V2 := V1.toC (k := B 0 5) c.1 (by rw [e33, e3]; exact c.2)
  have e : atC (atC G k) (B 0 5) = G := by
    have : atC (atC G k) (B 0 5) = atC G (B 0 5) := uv_uv
    rw [this, ← e5]; exact atC_self G
  rw [e] at V2; exact V2
end MDv
