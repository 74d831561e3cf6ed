-- day(): the pure value; the class's looking through
def actL (v : Int) : Nat := if v = 99 ∨ v = 119 ∨ v = 111 then 1 else if v = 117 then 3 else if v = 116 ∨ v = 98 then 5 else if v = 103 then 6 else 0
/-- how many digits stand behind the letter -/
def actD (v : Int) : Nat := if v = 103 then 4 else actL v - 1
theorem actL_le (v : Int) : actL v ≤ 6 := by
  unfold actL
  repeat' split
  all_goals omega
theorem actD_le (v : Int) : actD v ≤ 4 := by
  unfold actD actL
  repeat' split
  all_goals omega
/-- the letters -/
theorem actL_ne {v : Int} (h : actL v ≠ 0) : v = 117 ∨ v = 116 ∨ v = 98 ∨ v = 99 ∨ v = 119 ∨ v = 103 ∨ v = 111 := by
  unfold actL at h
  by_cases a : v = 99 ∨ v = 119 ∨ v = 111
  · omega
  · rw [if_neg a] at h
    by_cases b : v = 117
    · omega
    · rw [if_neg b] at h
      by_cases c : v = 116 ∨ v = 98
      · omega
      · rw [if_neg c] at h
        by_cases d : v = 103
        · omega
        · rw [if_neg d] at h; exact absurd rfl h
/-- where the act at p is wrong -/
def wr (T : List Int) (p : Nat) : Option Nat :=
  if actL (tsg T p) = 0 then some p else match nod T (actD (tsg T p)) (p + 1) with
  | some q => some q
  | none => if tsg T p = 103 ∧ tsg T (p + 5) ≠ 43 ∧ tsg T (p + 5) ≠ 45 then some (p + 5) else none
theorem nod_none {T : List Int} : ∀ n p, nod T n p = none → ∀ i, i < n → dg T (p + i) := by
  intro n
  induction n with
  | zero => intro p _ i hi; omega
  | succ n ih =>
    intro p h i hi
    unfold nod at h
    by_cases c : 48 ≤ tsg T p ∧ tsg T p ≤ 57
    · rw [if_pos c] at h
      by_cases e : i = 0
      · rw [e]; exact c
      · have := ih (p + 1) h (i - 1) (by omega)
        rw [show p + 1 + (i - 1) = p + i by omega] at this; exact this
    · rw [if_neg c] at h; cases h
theorem wr_none {T : List Int} {p : Nat} (h : wr T p = none) : actL (tsg T p) ≠ 0 ∧ (∀ i, i < actD (tsg T p) → dg T (p + 1 + i)) ∧ (tsg T p = 103 → tsg T (p + 5) = 43 ∨ tsg T (p + 5) = 45) := by
  unfold wr at h
  by_cases a : actL (tsg T p) = 0
  · rw [if_pos a] at h; cases h
  · rw [if_neg a] at h
    cases e : nod T (actD (tsg T p)) (p + 1) with
    | some q => rw [e] at h; cases h
    | none =>
      rw [e] at h
      refine ⟨a, nod_none _ _ e, fun g => ?_⟩
      apply Classical.byContradiction
      intro z
      have c : tsg T p = 103 ∧ tsg T (p + 5) ≠ 43 ∧ tsg T (p + 5) ≠ 45 := ⟨g, fun y => z (Or.inl y), fun y => z (Or.inr y)⟩
      have h : (if tsg T p = 103 ∧ tsg T (p + 5) ≠ 43 ∧ tsg T (p + 5) ≠ 45 then some (p + 5) else none) = none := h
      rw [if_pos c] at h; cases h
def rdD (T : List Int) : Nat → Nat → Option Nat
  | 0, _ => none
  | f + 1, p => if T.length ≤ p then none else match wr T p with
    | some q => some q
    | none => rdD T f (p + actL (tsg T p))
theorem rdD_end {T : List Int} {f p : Nat} (h : T.length ≤ p) : rdD T f p = none := by
  cases f with
  | zero => rfl
  | succ f => unfold rdD; rw [if_pos h]
theorem rdD_bad {T : List Int} {f p q : Nat} (h : p < T.length) (e : wr T p = some q) : rdD T (f + 1) p = some q := by unfold rdD; rw [if_neg (by omega), e]
theorem rdD_go {T : List Int} {f p : Nat} (h : p < T.length) (e : wr T p = none) : rdD T (f + 1) p = rdD T f (p + actL (tsg T p)) := by
  show (if T.length ≤ p then none else match wr T p with
    | some q => some q
    | none => rdD T f (p + actL (tsg T p))) = _
  rw [if_neg (by omega), e]
/-- the act at p, done -/
def doA (T : List Int) (p : Nat) (B : HV) : Int × HV :=
  if tsg T p = 117 then chooseP B (nm2 T (p + 1)) else if tsg T p = 116 then windP B (nm2 T (p + 1)) (nm2 T (p + 3)) 0 else if tsg T p = 98 then windP B (nm2 T (p + 1)) (nm2 T (p + 3)) 1 else if tsg T p = 99 then scribeP B else if tsg T p = 119 then wipeP B else if tsg T p = 103 then putInP B (nm2 T (p + 1)) (nm2 T (p + 3)) (-1) (-1) (if tsg T (p + 5) = 43 then 1 else -1) else if tsg T p = 111 then takeOutP B else (-1, B)
theorem doA_u {T : List Int} {p : Nat} {B : HV} (h : tsg T p = 117) : doA T p B = chooseP B (nm2 T (p + 1)) := by unfold doA; rw [if_pos h]
theorem doA_t {T : List Int} {p : Nat} {B : HV} (h : tsg T p = 116) : doA T p B = windP B (nm2 T (p + 1)) (nm2 T (p + 3)) 0 := by unfold doA; rw [if_neg (by omega), if_pos h]
theorem doA_b {T : List Int} {p : Nat} {B : HV} (h : tsg T p = 98) : doA T p B = windP B (nm2 T (p + 1)) (nm2 T (p + 3)) 1 := by unfold doA; rw [if_neg (by omega), if_neg (by omega), if_pos h]
theorem doA_c {T : List Int} {p : Nat} {B : HV} (h : tsg T p = 99) : doA T p B = scribeP B := by unfold doA; rw [if_neg (by omega), if_neg (by omega), if_neg (by omega), if_pos h]
theorem doA_w {T : List Int} {p : Nat} {B : HV} (h : tsg T p = 119) : doA T p B = wipeP B := by unfold doA; rw [if_neg (by omega), if_neg (by omega), if_neg (by omega), if_neg (by omega), if_pos h]
theorem doA_g {T : List Int} {p : Nat} {B : HV} (h : tsg T p = 103) : doA T p B = putInP B (nm2 T (p + 1)) (nm2 T (p + 3)) (-1) (-1) (if tsg T (p + 5) = 43 then 1 else -1) := by unfold doA; rw [if_neg (by omega), if_neg (by omega), if_neg (by omega), if_neg (by omega), if_neg (by omega), if_pos h]
theorem doA_o {T : List Int} {p : Nat} {B : HV} (h : tsg T p = 111) : doA T p B = takeOutP B := by unfold doA; rw [if_neg (by omega), if_neg (by omega), if_neg (by omega), if_neg (by omega), if_neg (by omega), if_neg (by omega), if_pos h]
theorem doA_va {T : List Int} {p : Nat} {B : HV} (V : VA B) : VA (doA T p B).2 := by
  unfold doA
  repeat' split
  · exact V.choose _
  · exact V.wind _ _ _
  · exact V.wind _ _ _
  · exact V.scribe
  · exact V.wipe
  · exact V.putIn _ _ _ _ _
  · exact V.putIn _ _ _ _ _
  · exact V.takeOut
  · exact V
theorem doA_neg {T : List Int} {p : Nat} {B : HV} (V : VA B) (h : (doA T p B).1 < 0) : (doA T p B).2 = B := by
  unfold doA at h ⊢
  by_cases a : tsg T p = 117
  · rw [if_pos a] at h ⊢; exact chooseP_neg _ _ V h
  · rw [if_neg a] at h ⊢
    by_cases b : tsg T p = 116
    · rw [if_pos b] at h ⊢; exact windP_neg _ _ _ _ V h
    · rw [if_neg b] at h ⊢
      by_cases c : tsg T p = 98
      · rw [if_pos c] at h ⊢; exact windP_neg _ _ _ _ V h
      · rw [if_neg c] at h ⊢
        by_cases d : tsg T p = 99
        · rw [if_pos d] at h ⊢; exact scribeP_neg _ V h
        · rw [if_neg d] at h ⊢
          by_cases e : tsg T p = 119
          · rw [if_pos e] at h ⊢; exact wipeP_neg _ V h
          · rw [if_neg e] at h ⊢
            by_cases g : tsg T p = 103
            · rw [if_pos g] at h ⊢; exact putInP_neg _ _ _ _ _ _ V h
            · rw [if_neg g] at h ⊢
              by_cases o : tsg T p = 111
              · rw [if_pos o] at h ⊢; exact takeOutP_neg _ V h
              · rw [if_neg o]
/-- the acts from p on, done: how many, the head, whether one was refused -/
def exD (T : List Int) : Nat → Nat → HV → Nat → Nat × HV × Int
  | 0, _, B, n => (n, B, 0)
  | f + 1, p, B, n => if T.length ≤ p then (n, B, 0) else if (doA T p B).1 < 0 then (n, B, 1) else exD T f (p + actL (tsg T p)) (doA T p B).2 (n + 1)
theorem exD_end {T : List Int} {f p n : Nat} {B : HV} (h : T.length ≤ p) : exD T f p B n = (n, B, 0) := by
  cases f with
  | zero => rfl
  | succ f => unfold exD; rw [if_pos h]
theorem exD_bad {T : List Int} {f p n : Nat} {B : HV} (h : p < T.length) (e : (doA T p B).1 < 0) : exD T (f + 1) p B n = (n, B, 1) := by unfold exD; rw [if_neg (by omega), if_pos e]
theorem exD_go {T : List Int} {f p n : Nat} {B : HV} (h : p < T.length) (e : ¬ (doA T p B).1 < 0) : exD T (f + 1) p B n = exD T f (p + actL (tsg T p)) (doA T p B).2 (n + 1) := by
  show (if T.length ≤ p then (n, B, 0) else if (doA T p B).1 < 0 then (n, B, 1) else exD T f (p + actL (tsg T p)) (doA T p B).2 (n + 1)) = _
  rw [if_neg (by omega), if_neg e]
def dayS (s : Sv) (r : Nat × HV × Int) : Int × Sv := (r.1, rowS (if 0 < r.1 then pushS (txtS s []) r.2.1 else txtS s []) [r.2.2, r.2.1 0 7])
def dayP (s : Sv) : Int × Sv := match rdD (sT s) ((sT s).length + 1) 0 with
  | some q => (-1 - (q : Int), txtS s [])
  | none => dayS s (exD (sT s) ((sT s).length + 1) 0 (sA s) 0)
section CDy
variable {X : Ctx} {l : Launch} {D : Dt} {h : Hp} {x m t : Nat} {Q : Pq} {A B : HV} {s : Sv} {T : List Int}
theorem cl_lengthOfAct {v : Int32} : S_X9_lengthOfAct l D 0 0 [.int v] h (QI fun y h' => y.toInt = (actL v.toInt : Nat) ∧ h' = h) := Sp.of rfl (Nat.le_of_ble_eq_true rfl) (fun X C _ _ _ _ => V_X9_lengthOfAct_0 C (by
  refine ⟨?_, ?_, ?_, ?_, ?_, ?_, ?_, ?_, ?_, ?_, ?_, ?_, ?_, ?_, ?_, ?_, ?_, ?_, ?_, ?_, ?_, ?_, ?_⟩
  all_goals first
    | (intro z; exact ⟨_, rfl, by rw [z]; decide, rfl⟩)
    | skip
  intro a1 a2 _ _ _ a6 _ _ _ _ _ _ _ a14 _ _ _ _ a19 a20 _ a22
  rw [i32_eq] at a1 a2 a6 a14 a19 a20 a22
  have b1 : v.toInt ≠ 98 := a1
  have b2 : v.toInt ≠ 99 := a2
  have b6 : v.toInt ≠ 103 := a6
  have b14 : v.toInt ≠ 111 := a14
  have b19 : v.toInt ≠ 116 := a19
  have b20 : v.toInt ≠ 117 := a20
  have b22 : v.toInt ≠ 119 := a22
  refine ⟨_, rfl, ?_, rfl⟩
  unfold actL
  rw [if_neg (by omega), if_neg (by omega), if_neg (by omega), if_neg (by omega)]; rfl))
theorem cl_firstWrong (F9 : St9 h x) (F : TxC h (x + 1) T) : S_X9_firstWrongOfDay l D 0 0 [.ref x] h (QI fun y h' => y.toInt = nodV (rdD T (T.length + 1) 0) ∧ h' = h) := Sp.of rfl (Nat.le_of_ble_eq_true rfl) (fun X C _ _ _ _ => V_X9_firstWrongOfDay_0 C (by
  have i80 : (80 : Int32).toInt = 80 := rfl
  have i103 : (103 : Int32).toInt = 103 := rfl
  have i43 : (43 : Int32).toInt = 43 := rfl
  have i45 : (45 : Int32).toInt = 45 := rfl
  have i5 : (5 : Int32).toInt = 5 := rfl
  have i4 : (4 : Int32).toInt = 4 := rfl
  have tl := F.2.1
  have el := F.1
  have key : ∀ (f p i : Nat) (v1 v2 : Int32), v1.toInt = p → v2.toInt = i → i ≤ p → p ≤ 90 → T.length < p + f → Wj X 0 0 (QI fun y h' => y.toInt = nodV (rdD T f p) ∧ h' = h) 4 [(0, .ref x), (1, .int v1), (2, .int v2)] [] h := by
    intro f
    induction f with
    | zero =>
      intro p i v1 v2 e1 e2 hi hp hf
      refine V_X9_firstWrongOfDay_4 C ⟨fun _ => ⟨_, rfl, rfl, rfl⟩, fun _ => ⟨F9, fun _ => ⟨_, rfl, rfl, rfl⟩, fun q => ?_⟩⟩
      exfalso
      rw [i32_le, el, e1] at q; omega
    | succ f ih =>
      intro p i v1 v2 e1 e2 hi hp hf
      refine V_X9_firstWrongOfDay_4 C ⟨fun q => ⟨_, rfl, ?_, rfl⟩, fun _ => ⟨F9, fun q => ⟨_, rfl, ?_, rfl⟩, fun q => ?_⟩⟩
      · rw [i32_le, i80, e2] at q
        rw [rdD_end (by omega)]; rfl
      · rw [i32_le, el, e1] at q
        rw [rdD_end (by omega)]; rfl
      · rw [i32_le, el, e1] at q
        have hp' : p < T.length := by omega
        have es := F.sgn e1
        refine (cl_lengthOfAct (v := tAt h (x + 1) v1)).mono (fun w h2 hp => ?_)
        obtain ⟨y, rfl, ey, eh⟩ := hp
        rw [eh]
        rw [es] at ey
        have al := actL_le (tsg T p)
        have e5 : (v1 + 5).toInt = (p + 5 : Nat) := by rw [iadd_t] <;> rw [e1, i5] <;> omega
        have e11 : (v1 + 1).toInt = (p + 1 : Nat) := by rw [iadd_t] <;> rw [e1, i1_t] <;> omega
        have ea : (v1 + y).toInt = (p + actL (tsg T p) : Nat) := by rw [iadd_t] <;> rw [e1, ey] <;> omega
        have s5 := F.sgn e5
        have n2 : ∀ _ : Unit, (v2 + Int32.ofInt 1).toInt = (i + 1 : Nat) := fun _ => by rw [iadd_t] <;> rw [e2, show (Int32.ofInt 1).toInt = 1 from rfl] <;> omega
        have p57 : ∀ s0 : Int32, actL (tsg T p) ≠ 0 → s0.toInt = (actD (tsg T p) : Nat) → Wj X 0 0 (QI fun y h' => y.toInt = nodV (rdD T (f + 1) p) ∧ h' = h) 57 [(0, .ref x), (1, .int v1), (2, .int v2), (3, .int (tAt h (x + 1) v1)), (4, .int y)] [.int s0] h := by
          intro s0 a0 es0
          have ad := actD_le (tsg T p)
          have go : wr T p = none → Wj X 0 0 (QI fun y h' => y.toInt = nodV (rdD T (f + 1) p) ∧ h' = h) 4 [(0, .ref x), (1, .int (v1 + y)), (2, .int (v2 + Int32.ofInt 1))] [] h := fun e => by
            rw [rdD_go hp' e]
            exact ih _ (i + 1) _ _ ea (n2 ()) (by omega) (by omega) (by omega)
          refine V_X9_firstWrongOfDay_57 C ⟨F9, (cl_noDigit (St9_s0 F9) F e11 es0 (by omega) (by omega)).mono (fun w h3 hp => ?_)⟩
          obtain ⟨u, rfl, eu, eh3⟩ := hp
          rw [eh3]
          cases en : nod T (actD (tsg T p)) (p + 1) with
          | some q =>
            rw [en] at eu
            have eu : u.toInt = q := eu
            have ew : wr T p = some q := by unfold wr; rw [if_neg a0, en]
            refine ⟨u, rfl, fun z => ?_, fun _ => ⟨_, rfl, ?_, rfl⟩⟩
            · exfalso
              rw [i32_eq, eu, im1_t] at z; omega
            · rw [rdD_bad hp' ew]; exact eu
          | none =>
            rw [en] at eu
            have eu : u.toInt = -1 := eu
            have ew : wr T p = if tsg T p = 103 ∧ tsg T (p + 5) ≠ 43 ∧ tsg T (p + 5) ≠ 45 then some (p + 5) else none := by unfold wr; rw [if_neg a0, en]
            refine ⟨u, rfl, fun _ => ⟨fun z => go ?_, fun z => ⟨F9, fun z1 => go ?_, fun z1 => ⟨fun z2 => go ?_, fun z2 => ⟨_, rfl, ?_, rfl⟩⟩⟩⟩, fun z => absurd (by rw [i32_eq, eu]; rfl) z⟩
            · rw [i32_eq, es, i103] at z
              rw [ew, if_neg (fun y => z y.1)]
            · rw [i32_eq, s5, i43] at z1
              rw [ew, if_neg (fun y => y.2.1 z1)]
            · rw [i32_eq, s5, i45] at z2
              rw [ew, if_neg (fun y => y.2.2 z2)]
            · rw [i32_eq, es, i103] at z
              rw [i32_eq, s5, i43] at z1
              rw [i32_eq, s5, i45] at z2
              rw [rdD_bad hp' (by rw [ew, if_pos ⟨z, z1, z2⟩])]; exact e5
        refine ⟨y, rfl, fun q1 => ⟨fun q2 => p57 _ ?_ ?_, fun q2 => p57 _ ?_ ?_⟩, fun q1 => ⟨_, rfl, ?_, rfl⟩⟩
        · rw [i32_eq, ey, i0_t] at q1; omega
        · rw [i32_eq, ey, i0_t] at q1
          rw [i32_eq, es, i103] at q2
          unfold actD
          rw [if_neg q2, isub_t] <;> rw [ey, i1_t] <;> omega
        · rw [i32_eq, ey, i0_t] at q1; omega
        · rw [i32_eq, es, i103] at q2
          unfold actD
          rw [if_pos q2]; rfl
        · rw [i32_eq, ey, i0_t] at q1
          have ew : wr T p = some p := by unfold wr; rw [if_pos (by omega)]
          rw [rdD_bad hp' ew]; exact e1
  exact key (T.length + 1) 0 0 0 0 rfl rfl (by omega) (by omega) (by omega)))
end CDy
