-- day() of the reference: an act read, an act done
section MDa
variable {X : Ctx} {l : Launch} {D : Dt} {h : Hp} {m k : Nat} {Q : Pq} {A B : HV} {s : Sv} {T : List Int}
def A4 (h : Hp) (m k : Nat) (a f s t : Int) : Prop := (gi h (m + 12) k).toInt = a ∧ (gi h (m + 13) k).toInt = f ∧ (gi h (m + 14) k).toInt = s ∧ (gi h (m + 15) k).toInt = t
theorem A4.s13 {a f s t : Int} (q : A4 h m k a f s t) {y : Int32} : A4 (si h (m + 13) k y) m k a y.toInt s t := by
  obtain ⟨q1, q2, q3, q4⟩ := q
  exact ⟨by rw [gi_si, if_neg (by omega)]; exact q1, by rw [gi_si, if_pos ⟨rfl, rfl⟩], by rw [gi_si, if_neg (by omega)]; exact q3, by rw [gi_si, if_neg (by omega)]; exact q4⟩
theorem A4.s14 {a f s t : Int} (q : A4 h m k a f s t) {y : Int32} : A4 (si h (m + 14) k y) m k a f y.toInt t := by
  obtain ⟨q1, q2, q3, q4⟩ := q
  exact ⟨by rw [gi_si, if_neg (by omega)]; exact q1, by rw [gi_si, if_neg (by omega)]; exact q2, by rw [gi_si, if_pos ⟨rfl, rfl⟩], by rw [gi_si, if_neg (by omega)]; exact q4⟩
theorem A4.s15 {a f s t : Int} (q : A4 h m k a f s t) {y : Int32} : A4 (si h (m + 15) k y) m k a f s y.toInt := by
  obtain ⟨q1, q2, q3, q4⟩ := q
  exact ⟨by rw [gi_si, if_neg (by omega)]; exact q1, by rw [gi_si, if_neg (by omega)]; exact q2, by rw [gi_si, if_neg (by omega)]; exact q3, by rw [gi_si, if_pos ⟨rfl, rfl⟩]⟩
theorem A4.d {h' : Hp} {a f s t : Int} (q : A4 h m k a f s t) (g : FrD5 m h h') : A4 h' m k a f s t := by
  obtain ⟨q1, q2, q3, q4⟩ := q
  exact ⟨by rw [g.xi (fun z => by omega)]; exact q1, by rw [g.xi (fun z => by omega)]; exact q2, by rw [g.xi (fun z => by omega)]; exact q3, by rw [g.xi (fun z => by omega)]; exact q4⟩
abbrev FrAc (m k : Nat) (h h' : Hp) : Prop := FrW (fun b j => b = m ∧ j = 5 ∨ (m + 12 ≤ b ∧ b ≤ m + 15) ∧ j = k) (fun _ _ => False) h h'
theorem FrAc.rf : FrAc m k h h := FrW.rf (P := fun b j => b = m ∧ j = 5 ∨ (m + 12 ≤ b ∧ b ≤ m + 15) ∧ j = k) (R := fun _ _ => False)
theorem FrAc.put {h' : Hp} (f : FrAc m k h h') {b : Nat} {v : Int32} (h1 : m + 12 ≤ b) (h2 : b ≤ m + 15) : FrAc m k h (si h' b k v) := FrW.si (P := fun b j => b = m ∧ j = 5 ∨ (m + 12 ≤ b ∧ b ≤ m + 15) ∧ j = k) (R := fun _ _ => False) f (Or.inr ⟨⟨h1, h2⟩, rfl⟩)
theorem frd5_ac {h' : Hp} (f : FrD5 m h h') : FrAc m k h h' := f.mono (fun b j q => Or.inl q) (fun _ _ q => q)
/-- what a read act lies as -/
def AcR (h : Hp) (m k : Nat) (T : List Int) (p : Nat) : Prop := (gi h (m + 12) k).toInt = tkI 1 (tsg T p) ∧ (tsg T p = 117 ∨ tsg T p = 116 ∨ tsg T p = 98 ∨ tsg T p = 103 → (gi h (m + 13) k).toInt = nm2 T (p + 1)) ∧ (tsg T p = 116 ∨ tsg T p = 98 ∨ tsg T p = 103 → (gi h (m + 14) k).toInt = nm2 T (p + 3)) ∧ (tsg T p = 103 → ((gi h (m + 15) k).toInt = 0 ↔ tsg T (p + 5) = 43))
theorem tw_nod {a : Nat} : (nod T 2 a = none ∧ twQ T a = (nm2 T a, a + 2) ∧ 0 ≤ nm2 T a ∧ nm2 T a ≤ 99) ∨ ∃ q, nod T 2 a = some q ∧ twQ T a = (-1, q) := by
  rcases nod2 (T := T) (p := a) with ⟨x, y, e⟩ | ⟨x, y, e⟩ | ⟨x, e⟩
  · have nb := nm2_b x y
    unfold dg at x y
    exact Or.inl ⟨e, by unfold twQ; rw [if_pos x, if_pos y], nb⟩
  · unfold dg at x y
    exact Or.inr ⟨a + 1, e, by unfold twQ; rw [if_pos x, if_neg y]⟩
  · unfold dg at x
    exact Or.inr ⟨a, e, by unfold twQ; rw [if_neg x]⟩
theorem nod4 {a : Nat} : (nod T 2 a = none → nod T 4 a = nod T 2 (a + 2)) ∧ ∀ q, nod T 2 a = some q → nod T 4 a = some q := by
  have e4 : nod T 4 a = if 48 ≤ tsg T a ∧ tsg T a ≤ 57 then (if 48 ≤ tsg T (a + 1) ∧ tsg T (a + 1) ≤ 57 then nod T 2 (a + 2) else some (a + 1)) else some a := rfl
  have e2 : nod T 2 a = if 48 ≤ tsg T a ∧ tsg T a ≤ 57 then (if 48 ≤ tsg T (a + 1) ∧ tsg T (a + 1) ≤ 57 then none else some (a + 1)) else some a := rfl
  rw [e4, e2]
  by_cases x : 48 ≤ tsg T a ∧ tsg T a ≤ 57
  · rw [if_pos x, if_pos x]
    by_cases y : 48 ≤ tsg T (a + 1) ∧ tsg T (a + 1) ≤ 57
    · rw [if_pos y, if_pos y]; exact ⟨fun _ => rfl, fun q z => (by cases z)⟩
    · rw [if_neg y, if_neg y]; exact ⟨fun z => (by cases z), fun q z => z⟩
  · rw [if_neg x, if_neg x]; exact ⟨fun z => (by cases z), fun q z => z⟩
theorem ma_readsAct (F : St10 h m) {p : Nat} (R : Rd h m T p) (hp : p < T.length) {v1 : Int32} (ev : v1.toInt = k) (hk : k < 80) : S_X10_readsAct l D 0 0 [.ref m, .int v1] h (QI fun y h' => FrAc m k h h' ∧ ((y = 0 ∧ ∃ q, wr T p = some q ∧ Rd h' m T q) ∨ (y ≠ 0 ∧ wr T p = none ∧ Rd h' m T (p + actL (tsg T p)) ∧ AcR h' m k T p))) := Sp.of rfl (Nat.le_of_ble_eq_true rfl) (fun X C _ _ _ _ => V_X10_readsAct_0 C (by
  have xk : ix v1 = k := ix_of ev
  have ib : inb v1 80 := ⟨by omega, by omega⟩
  have i2 : (2 : Int32).toInt = 2 := rfl
  have i5 : (5 : Int32).toInt = 5 := rfl
  have rdK : ∀ {h1 h2 : Hp} {a : Nat}, Rd h1 m T a → ∀ (b : Nat) (y : Int32), m + 12 ≤ b → h2 = si h1 b k y → Rd h2 m T a := fun {h1 h2 a} r b y hb e => by
    rw [e]
    exact r.fr (FrW.si (P := fun c j => c = b) (R := fun _ _ => False) FrW.rf rfl) (fun q => by omega) (fun q => by omega) (fun j q => by omega)
  -- the ends
  have bad168 : ∀ (h' : Hp) (q : Nat) (a f s t : Int), FrAc m k h h' → Rd h' m T q → A4 h' m k a f s t → wr T p = some q → (f < 0 ∨ s < 0 ∨ t < 0) → Wj X 0 0 (QI fun y h' => FrAc m k h h' ∧ ((y = 0 ∧ ∃ q, wr T p = some q ∧ Rd h' m T q) ∨ (y ≠ 0 ∧ wr T p = none ∧ Rd h' m T (p + actL (tsg T p)) ∧ AcR h' m k T p))) 168 [(0, .ref m), (1, .int v1)] [] h' := by
    intro h' q a f s t f' R' A' ew neg
    have out : (QI fun y h' => FrAc m k h h' ∧ ((y = 0 ∧ ∃ q, wr T p = some q ∧ Rd h' m T q) ∨ (y ≠ 0 ∧ wr T p = none ∧ Rd h' m T (p + actL (tsg T p)) ∧ AcR h' m k T p))) (some (.int 0)) h' := ⟨_, rfl, f', Or.inl ⟨rfl, q, ew, R'⟩⟩
    refine V_X10_readsAct_168 C ⟨f'.st10 F, ib, fun _ => out, fun z1 => ⟨fun _ => out, fun z2 => ⟨fun _ => out, fun z3 => ?_⟩⟩⟩
    exfalso
    rw [xk, i32_lt, i0_t] at z1 z2 z3
    rw [A'.2.1] at z1
    rw [A'.2.2.1] at z2
    rw [A'.2.2.2] at z3
    omega
  have ok168 : ∀ (h' : Hp) (a f s t : Int), FrAc m k h h' → Rd h' m T (p + actL (tsg T p)) → A4 h' m k a f s t → wr T p = none → AcR h' m k T p → 0 ≤ f → 0 ≤ s → 0 ≤ t → Wj X 0 0 (QI fun y h' => FrAc m k h h' ∧ ((y = 0 ∧ ∃ q, wr T p = some q ∧ Rd h' m T q) ∨ (y ≠ 0 ∧ wr T p = none ∧ Rd h' m T (p + actL (tsg T p)) ∧ AcR h' m k T p))) 168 [(0, .ref m), (1, .int v1)] [] h' := by
    intro h' a f s t f' R' A' ew ac f0 s0 t0
    refine V_X10_readsAct_168 C ⟨f'.st10 F, ib, fun z => ?_, fun _ => ⟨fun z => ?_, fun _ => ⟨fun z => ?_, fun _ => ⟨_, rfl, f', Or.inr ⟨by decide, ew, R', ac⟩⟩⟩⟩⟩
    · exfalso
      rw [xk, i32_lt, i0_t, A'.2.1] at z; omega
    · exfalso
      rw [xk, i32_lt, i0_t, A'.2.2.1] at z; omega
    · exfalso
      rw [xk, i32_lt, i0_t, A'.2.2.2] at z; omega
  -- the sign of a train
  have bad127 : ∀ (h' : Hp) (q : Nat) (a f s t : Int), FrAc m k h h' → Rd h' m T q → A4 h' m k a f s t → wr T p = some q → (f < 0 ∨ s < 0) → Wj X 0 0 (QI fun y h' => FrAc m k h h' ∧ ((y = 0 ∧ ∃ q, wr T p = some q ∧ Rd h' m T q) ∨ (y ≠ 0 ∧ wr T p = none ∧ Rd h' m T (p + actL (tsg T p)) ∧ AcR h' m k T p))) 127 [(0, .ref m), (1, .int v1)] [] h' := by
    intro h' q a f s t f' R' A' ew neg
    have go := bad168 h' q a f s t f' R' A' ew (by omega)
    refine V_X10_readsAct_127 C ⟨f'.st10 F, ib, fun _ => go, fun z1 => ⟨fun _ => go, fun z2 => ⟨fun _ => go, fun _ => ?_⟩⟩⟩
    exfalso
    rw [xk, i32_lt, i0_t] at z1 z2
    rw [A'.2.1] at z1
    rw [A'.2.2.1] at z2
    omega
  have t1 : ∀ {h' : Hp}, FrAc m k h h' → St10 h' m := fun f' => f'.st10 F
  refine ⟨F, 0, 0, Nat.zero_le _, Nat.zero_le _, (ma_takesOf F (by decide) R).mono (fun _ h2 hp => ?_)⟩
  obtain ⟨y, rfl, ey, R2, f2⟩ := hp
  have g2 : FrAc m k h h2 := frd5_ac f2
  have F2 := t1 g2
  refine ⟨y, rfl, St10_k37 F2, by rw [St10_l37 F2]; exact ib, F2, ib, ?_⟩
  rw [xk]
  have g3 : FrAc m k h (si (si (si h2 (m + 12) k y) (m + 13) k 0) (m + 14) k 0) := FrAc.put (FrAc.put (FrAc.put g2 (by omega) (by omega)) (by omega) (by omega)) (by omega) (by omega)
  have R3 : ∀ {a : Nat}, Rd h2 m T a → Rd (si (si (si h2 (m + 12) k y) (m + 13) k 0) (m + 14) k 0) m T a := fun r => rdK (rdK (rdK r (m + 12) y (by omega) rfl) (m + 13) 0 (by omega) rfl) (m + 14) 0 (by omega) rfl
  have a12 : (gi (si (si (si h2 (m + 12) k y) (m + 13) k 0) (m + 14) k 0) (m + 12) k).toInt = tkI 1 (tsg T p) := by rw [gi_si, if_neg (by omega), gi_si, if_neg (by omega), gi_si, if_pos ⟨rfl, rfl⟩]; exact ey
  have a13 : (gi (si (si (si h2 (m + 12) k y) (m + 13) k 0) (m + 14) k 0) (m + 13) k).toInt = 0 := by rw [gi_si, if_neg (by omega), gi_si, if_pos ⟨rfl, rfl⟩]; rfl
  have a14 : (gi (si (si (si h2 (m + 12) k y) (m + 13) k 0) (m + 14) k 0) (m + 14) k).toInt = 0 := by rw [gi_si, if_pos ⟨rfl, rfl⟩]; rfl
  have R3' := R3 R2
  clear R3
  generalize (si (si (si h2 (m + 12) k y) (m + 13) k 0) (m + 14) k 0) = h3 at *
  have g4 : FrAc m k h (si h3 (m + 15) k 0) := FrAc.put g3 (by omega) (by omega)
  have R4 := rdK R3' (m + 15) 0 (by omega) rfl
  have A4' : A4 (si h3 (m + 15) k 0) m k (tkI 1 (tsg T p)) 0 0 0 := ⟨by rw [gi_si, if_neg (by omega)]; exact a12, by rw [gi_si, if_neg (by omega)]; exact a13, by rw [gi_si, if_neg (by omega)]; exact a14, by rw [gi_si, if_pos ⟨rfl, rfl⟩]; rfl⟩
  by_cases a0 : actL (tsg T p) = 0
  · -- no letter
    have tk : tkI 1 (tsg T p) = -1 := by
      have no : ∀ w : Int, actL w = 0 → w ≠ 117 ∧ w ≠ 116 ∧ w ≠ 98 ∧ w ≠ 99 ∧ w ≠ 119 ∧ w ≠ 103 ∧ w ≠ 111 := fun w e => by
        refine ⟨fun z => ?_, fun z => ?_, fun z => ?_, fun z => ?_, fun z => ?_, fun z => ?_, fun z => ?_⟩
        all_goals (rw [z] at e; exact absurd e (by decide))
      obtain ⟨n1, n2, n3, n4, n5, n6, n7⟩ := no _ a0
      unfold tkI
      rw [if_neg (by decide), if_pos rfl, if_neg n1, if_neg n2, if_neg n3, if_neg n4, if_neg n5, if_neg n6, if_neg n7]
    rw [tk, if_pos (by omega)] at R4
    refine V_X10_readsAct_27 C ⟨t1 g3, ib, ?_⟩
    rw [xk]
    refine ⟨fun z => ?_, fun _ => ⟨_, rfl, g4, Or.inl ⟨rfl, p, by unfold wr; rw [if_pos a0], R4⟩⟩⟩
    exfalso
    rw [i32_le, i0_t, A4'.1, tk] at z; omega
  · have lt := actL_ne a0
    have tp : 0 ≤ tkI 1 (tsg T p) ∧ (tkI 1 (tsg T p) = 0 ↔ tsg T p = 117) ∧ ((tkI 1 (tsg T p) = 1 ∨ tkI 1 (tsg T p) = 2 ∨ tkI 1 (tsg T p) = 5) ↔ (tsg T p = 116 ∨ tsg T p = 98 ∨ tsg T p = 103)) ∧ (tkI 1 (tsg T p) = 5 ↔ tsg T p = 103) := by
      rcases lt with e | e | e | e | e | e | e <;> rw [e] <;> decide
    obtain ⟨tp0, tpu, tpm, tpg⟩ := tp
    rw [if_neg (by omega)] at R4
    have hD : actD (tsg T p) = (if tsg T p = 117 then 2 else if tsg T p = 116 ∨ tsg T p = 98 ∨ tsg T p = 103 then 4 else 0) := by
      rcases lt with e | e | e | e | e | e | e <;> rw [e] <;> decide
    have hL : actL (tsg T p) = (if tsg T p = 117 then 3 else if tsg T p = 116 ∨ tsg T p = 98 then 5 else if tsg T p = 103 then 6 else 1) := by
      rcases lt with e | e | e | e | e | e | e <;> rw [e] <;> decide
    have wr1 : ∀ q, nod T (actD (tsg T p)) (p + 1) = some q → wr T p = some q := fun q e => by unfold wr; rw [if_neg a0, e]
    have wr2 : nod T (actD (tsg T p)) (p + 1) = none → wr T p = if tsg T p = 103 ∧ tsg T (p + 5) ≠ 43 ∧ tsg T (p + 5) ≠ 45 then some (p + 5) else none := fun e => by unfold wr; rw [if_neg a0, e]
    -- behind the second number
    have ok127 : ∀ (h' : Hp) (a : Nat) (f s : Int), FrAc m k h h' → Rd h' m T a → A4 h' m k (tkI 1 (tsg T p)) f s 0 → nod T (actD (tsg T p)) (p + 1) = none → 0 ≤ f → 0 ≤ s → (tsg T p = 103 → a = p + 5) → (tsg T p ≠ 103 → a = p + actL (tsg T p)) → (tsg T p = 117 ∨ tsg T p = 116 ∨ tsg T p = 98 ∨ tsg T p = 103 → f = nm2 T (p + 1)) → (tsg T p = 116 ∨ tsg T p = 98 ∨ tsg T p = 103 → s = nm2 T (p + 3)) → Wj X 0 0 (QI fun y h' => FrAc m k h h' ∧ ((y = 0 ∧ ∃ q, wr T p = some q ∧ Rd h' m T q) ∨ (y ≠ 0 ∧ wr T p = none ∧ Rd h' m T (p + actL (tsg T p)) ∧ AcR h' m k T p))) 127 [(0, .ref m), (1, .int v1)] [] h' := by
      intro h' a f s f' R' A' en f0 s0 ag an ef es
      have w2 := wr2 en
      refine V_X10_readsAct_127 C ⟨t1 f', ib, ?_⟩
      rw [xk]
      refine ⟨fun z => ?_, fun _ => ⟨fun z => ?_, fun _ => ⟨fun z => ?_, fun z => ⟨0, 0, Nat.zero_le _, Nat.zero_le _, ?_⟩⟩⟩⟩
      · exfalso
        rw [i32_lt, i0_t, A'.2.1] at z; omega
      · exfalso
        rw [i32_lt, i0_t, A'.2.2.1] at z; omega
      · rw [i32_eq, A'.1, i5, tpg] at z
        rw [if_neg (fun y => z y.1)] at w2
        refine ok168 h' _ f s 0 f' (by rw [← an z]; exact R') A' w2 ⟨A'.1, fun c => by rw [A'.2.1]; exact ef c, fun c => by rw [A'.2.2.1]; exact es c, fun c => absurd c z⟩ f0 s0 (by omega)
      · rw [i32_eq, A'.1, i5, tpg] at z
        rw [ag z] at R'
        refine (ma_takesOf (t1 f') (by decide) R').mono (fun _ h6 hp => ?_)
        obtain ⟨u, rfl, eu, R6, f6⟩ := hp
        have g6 : FrAc m k h h6 := f'.tr (frd5_ac f6)
        refine ⟨u, rfl, St10_k40 (t1 g6), by rw [St10_l40 (t1 g6)]; exact ib, ?_⟩
        have g7 : FrAc m k h (si h6 (m + 15) k u) := FrAc.put g6 (by omega) (by omega)
        have A7 := (A'.d f6).s15 (y := u)
        have R7 := rdK R6 (m + 15) u (by omega) rfl
        by_cases c : tsg T (p + 5) = 43 ∨ tsg T (p + 5) = 45
        · have tu : (tsg T (p + 5) = 43 ∧ tkI 2 (tsg T (p + 5)) = 0) ∨ (tsg T (p + 5) = 45 ∧ tkI 2 (tsg T (p + 5)) = 1) := by
            rcases c with e | e
            · exact Or.inl ⟨e, by rw [e]; decide⟩
            · exact Or.inr ⟨e, by rw [e]; decide⟩
          rw [if_neg (by omega)] at w2
          rw [if_neg (by omega)] at R7
          have l6 : actL (tsg T p) = 6 := by rw [z]; decide
          refine ok168 _ _ f s u.toInt g7 (by rw [l6]; exact R7) A7 w2 ⟨A7.1, fun c => by rw [A7.2.1]; exact ef c, fun c => by rw [A7.2.2.1]; exact es c, fun _ => ?_⟩ f0 s0 (by omega)
          rw [A7.2.2.2, eu]; omega
        · have tu : tkI 2 (tsg T (p + 5)) = -1 := by
            unfold tkI
            rw [if_neg (by decide), if_neg (by decide), if_neg (fun e => c (Or.inl e)), if_neg (fun e => c (Or.inr e))]
          rw [if_pos ⟨z, fun e => c (Or.inl e), fun e => c (Or.inr e)⟩] at w2
          rw [tu, if_pos (by omega)] at R7
          exact bad168 _ (p + 5) _ f s u.toInt g7 R7 A7 w2 (by omega)
    -- behind the first number
    have ok104 : ∀ (h' : Hp) (a : Nat) (f : Int) (v2 : Int32), FrAc m k h h' → Rd h' m T a → A4 h' m k (tkI 1 (tsg T p)) f 0 0 → 0 ≤ f → (v2 = 0 ↔ ¬ (tsg T p = 116 ∨ tsg T p = 98 ∨ tsg T p = 103)) → (tsg T p = 117 ∨ tsg T p = 116 ∨ tsg T p = 98 ∨ tsg T p = 103 → f = nm2 T (p + 1) ∧ a = p + 3 ∧ nod T 2 (p + 1) = none) → (¬ (tsg T p = 117 ∨ tsg T p = 116 ∨ tsg T p = 98 ∨ tsg T p = 103) → a = p + 1) → Wj X 0 0 (QI fun y h' => FrAc m k h h' ∧ ((y = 0 ∧ ∃ q, wr T p = some q ∧ Rd h' m T q) ∨ (y ≠ 0 ∧ wr T p = none ∧ Rd h' m T (p + actL (tsg T p)) ∧ AcR h' m k T p))) 104 [(0, .ref m), (1, .int v1), (2, .int v2)] [] h' := by
      intro h' a f v2 f' R' A' f0 hv ef ea
      refine V_X10_readsAct_104 C ⟨t1 f', ib, ?_⟩
      rw [xk]
      refine ⟨fun z => ?_, fun _ => ⟨fun z => ?_, fun z => ⟨0, 0, Nat.zero_le _, Nat.zero_le _, ?_⟩⟩⟩
      · exfalso
        rw [i32_lt, i0_t, A'.2.1] at z; omega
      · have nm := hv.mp z
        have n103 : tsg T p ≠ 103 := fun e => nm (Or.inr (Or.inr e))
        refine ok127 h' a f 0 f' R' A' ?_ f0 (by omega) (fun e => absurd e n103) (fun _ => ?_) (fun c => (ef c).1) (fun c => absurd c nm)
        · rw [hD]
          by_cases u : tsg T p = 117
          · rw [if_pos u]; exact (ef (Or.inl u)).2.2
          · rw [if_neg u, if_neg nm]; rfl
        · rw [hL]
          by_cases u : tsg T p = 117
          · rw [if_pos u]; exact (ef (Or.inl u)).2.1
          · rw [if_neg u, if_neg (fun e => nm (e.elim Or.inl (fun z => Or.inr (Or.inl z)))), if_neg n103]
            exact ea (fun e => e.elim u nm)
      · have im : tsg T p = 116 ∨ tsg T p = 98 ∨ tsg T p = 103 := Classical.byContradiction (fun q => z (hv.mpr q))
        obtain ⟨e1, e2, e3⟩ := ef (Or.inr im)
        rw [e2] at R'
        have nu : tsg T p ≠ 117 := by omega
        have d4 : actD (tsg T p) = 4 := by rw [hD, if_neg nu, if_pos im]
        refine (ma_two (t1 f') R').mono (fun _ h3' hp => ?_)
        obtain ⟨u, rfl, eu, R6, f6⟩ := hp
        have g6 : FrAc m k h h3' := f'.tr (frd5_ac f6)
        refine ⟨u, rfl, St10_k39 (t1 g6), by rw [St10_l39 (t1 g6)]; exact ib, ?_⟩
        have g7 : FrAc m k h (si h3' (m + 14) k u) := FrAc.put g6 (by omega) (by omega)
        have A7 := (A'.d f6).s14 (y := u)
        have R7 := rdK R6 (m + 14) u (by omega) rfl
        rcases tw_nod (T := T) (a := p + 3) with ⟨n3, tw, b0, b1⟩ | ⟨q, n3, tw⟩
        · rw [tw] at eu R7
          refine ok127 _ (p + 5) f u.toInt g7 R7 A7 ?_ f0 (by rw [eu]; exact b0) (fun _ => rfl) (fun n => ?_) (fun _ => e1) (fun _ => eu)
          · rw [d4, (nod4 (T := T) (a := p + 1)).1 e3]; exact n3
          · rw [hL, if_neg nu, if_pos (by omega)]
        · rw [tw] at eu R7
          refine bad127 _ q _ f u.toInt 0 g7 R7 A7 (wr1 q ?_) (Or.inr (by rw [eu]; show (-1 : Int) < 0; decide))
          rw [d4, (nod4 (T := T) (a := p + 1)).1 e3]; exact n3
    have at94 : ∀ (v2 : Int32), (v2 = 0 ↔ ¬ (tsg T p = 116 ∨ tsg T p = 98 ∨ tsg T p = 103)) → (tsg T p = 117 ∨ tsg T p = 116 ∨ tsg T p = 98 ∨ tsg T p = 103) → Wj X 0 0 (QI fun y h' => FrAc m k h h' ∧ ((y = 0 ∧ ∃ q, wr T p = some q ∧ Rd h' m T q) ∨ (y ≠ 0 ∧ wr T p = none ∧ Rd h' m T (p + actL (tsg T p)) ∧ AcR h' m k T p))) 94 [(0, .ref m), (1, .int v1), (2, .int v2)] [] (si h3 (m + 15) k 0) := by
      intro v2 hv hl
      refine V_X10_readsAct_94 C ⟨t1 g4, 0, 0, Nat.zero_le _, Nat.zero_le _, (ma_two (t1 g4) R4).mono (fun _ h6 hp => ?_)⟩
      obtain ⟨u, rfl, eu, R6, f6⟩ := hp
      have g6 : FrAc m k h h6 := g4.tr (frd5_ac f6)
      refine ⟨u, rfl, St10_k38 (t1 g6), by rw [St10_l38 (t1 g6)]; exact ib, ?_⟩
      rw [xk]
      have g7 : FrAc m k h (si h6 (m + 13) k u) := FrAc.put g6 (by omega) (by omega)
      have A7 := (A4'.d f6).s13 (y := u)
      have R7 := rdK R6 (m + 13) u (by omega) rfl
      rcases tw_nod (T := T) (a := p + 1) with ⟨n1, tw, b0, b1⟩ | ⟨q, n1, tw⟩
      · rw [tw] at eu R7
        exact ok104 _ (p + 3) u.toInt v2 g7 R7 A7 (by rw [eu]; exact b0) hv (fun _ => ⟨eu, rfl, n1⟩) (fun z => absurd hl z)
      · rw [tw] at eu R7
        have wq : wr T p = some q := by
          refine wr1 q ?_
          rw [hD]
          by_cases c : tsg T p = 117
          · rw [if_pos c]; exact n1
          · rw [if_neg c, if_pos (hl.resolve_left c)]; exact (nod4 (T := T) (a := p + 1)).2 q n1
        have go := bad127 _ q _ u.toInt 0 0 g7 R7 A7 wq (Or.inl (by rw [eu]; show (-1 : Int) < 0; decide))
        have ne : u.toInt < 0 := by rw [eu]; show (-1 : Int) < 0; decide
        refine V_X10_readsAct_104 C ⟨t1 g7, ib, ?_⟩
        rw [xk]
        refine ⟨fun _ => go, fun z => ?_⟩
        exfalso
        rw [i32_lt, i0_t, A7.2.1] at z; omega
    have at80 : ∀ s0 : Int32, (s0 = 0 ↔ ¬ (tsg T p = 116 ∨ tsg T p = 98 ∨ tsg T p = 103)) → Wj X 0 0 (QI fun y h' => FrAc m k h h' ∧ ((y = 0 ∧ ∃ q, wr T p = some q ∧ Rd h' m T q) ∨ (y ≠ 0 ∧ wr T p = none ∧ Rd h' m T (p + actL (tsg T p)) ∧ AcR h' m k T p))) 80 [(0, .ref m), (1, .int v1)] [.int s0] (si h3 (m + 15) k 0) := by
      intro s0 hs
      refine V_X10_readsAct_80 C ⟨t1 g4, ib, ?_⟩
      rw [xk]
      refine ⟨fun z => ?_, fun z => ⟨fun z1 => ?_, fun z1 => ?_⟩⟩
      all_goals rw [i32_eq, A4'.1, i0_t, tpu] at z
      · exact at94 s0 hs (Or.inl z)
      · have nm := hs.mp z1
        exact ok104 _ (p + 1) 0 s0 g4 R4 A4' (by omega) hs (fun c => absurd (c.resolve_left z) nm) (fun _ => rfl)
      · exact at94 s0 hs (Or.inr (Classical.byContradiction (fun q => z1 (hs.mpr q))))
    refine V_X10_readsAct_27 C ⟨t1 g3, ib, ?_⟩
    rw [xk]
    refine ⟨fun _ => ⟨fun z => ?_, fun z => ⟨fun z1 => ?_, fun z1 => ⟨fun z2 => ?_, fun z2 => ?_⟩⟩⟩, fun z => ?_⟩
    · rw [i32_eq, A4'.1, i1_t] at z
      exact at80 1 ⟨fun q => absurd q (by decide), fun q => absurd (tpm.mp (Or.inl z)) q⟩
    · rw [i32_eq, A4'.1, i2] at z1
      exact at80 1 ⟨fun q => absurd q (by decide), fun q => absurd (tpm.mp (Or.inr (Or.inl z1))) q⟩
    · rw [i32_eq, A4'.1, i1_t] at z
      rw [i32_eq, A4'.1, i2] at z1
      rw [i32_eq, A4'.1, i5] at z2
      exact at80 0 ⟨fun _ q => by have := tpm.mpr q; omega, fun _ => rfl⟩
    · rw [i32_eq, A4'.1, i5] at z2
      exact at80 1 ⟨fun q => absurd q (by decide), fun q => absurd (tpm.mp (Or.inr (Or.inr z2))) q⟩
    · exfalso
      rw [i32_le, i0_t, A4'.1] at z; omega))
end MDa
