-- gaps between marks
abbrev sameG (A : HV) (i k : Nat) : Prop := gaU A i = gaU A k ∧ gaL A i = gaL A k
def newG (A : HV) (k : Nat) : Bool := (List.range k).all (fun i => !decide (sameG A i k))
theorem newG_iff (A : HV) (k : Nat) : newG A k = true ↔ ∀ i, i < k → ¬ sameG A i k := by
  unfold newG
  rw [List.all_eq_true]
  constructor
  · intro q i hi
    have := q i (List.mem_range.mpr hi)
    rw [Bool.not_eq_true'] at this
    exact of_decide_eq_false this
  · intro q i hi
    rw [Bool.not_eq_true']
    exact decide_eq_false (q i (List.mem_range.mp hi))
def cntG (A : HV) : Nat → Nat
  | 0 => 0
  | k + 1 => cntG A k + if newG A k = true then 1 else 0
def mnI (A : HV) : Nat → Nat
  | 0 => 0
  | k + 1 => if gaU A k * gaL A (mnI A k) < gaU A (mnI A k) * gaL A k then k else mnI A k
def mxI (A : HV) : Nat → Nat
  | 0 => 0
  | k + 1 => if gaU A (mxI A k) * gaL A k < gaU A k * gaL A (mxI A k) then k else mxI A k
def gapRow (A : HV) (n : Nat) : List Int := [gaU A (mnI A n), gaL A (mnI A n), gaU A (mxI A n), gaL A (mxI A n)]
def gapsP (s : Sv) : Int × Sv := if sA s 0 7 = 0 then (-2, s) else ((cntG (sA s) (sA s 0 7).toNat : Nat), rowS s (gapRow (sA s) (sA s 0 7).toNat))
theorem cntG_le (A : HV) (k : Nat) : cntG A k ≤ k := by
  induction k with
  | zero => exact Nat.le_refl _
  | succ k ih => unfold cntG; split <;> omega
theorem cntG_pos (A : HV) {k : Nat} (h : 0 < k) : 0 < cntG A k := by
  induction k with
  | zero => omega
  | succ k ih =>
    unfold cntG
    rcases Nat.eq_zero_or_pos k with e | e
    · subst e
      rw [if_pos ((newG_iff A 0).mpr (fun i hi => by omega))]; omega
    · have := ih e; omega
theorem ga_f {A : HV} (V : VA A) {k : Nat} (hk : (k : Int) < A 0 7) : 0 < gaU A k ∧ 0 < gaL A k ∧ gaL A k ≤ 1000000000000000000 ∧ gaU A k ≤ gaL A k ∧ Int.gcd (gaU A k) (gaL A k) = 1 := by
  obtain ⟨-, b2, -, b4, b5⟩ := gp_b V hk
  have r1 := rdU_nn (u := gpu A k) (by omega) b2.1
  have r3 := rdL_pos (u := gpu A k) b2.1
  have r4 := rdL_le (u := gpu A k) b2.1
  obtain ⟨m1, m2⟩ := rd_mul (u := gpu A k) b2.1
  have gp := gcd_pos' (u := gpu A k) b2.1
  refine ⟨?_, r3, by unfold gaL; omega, ?_, rd_cop b2.1⟩
  · unfold gaU
    rcases Int.lt_or_le 0 (rdU (gpu A k) (gpl A k)) with q | q
    · exact q
    · have e : rdU (gpu A k) (gpl A k) = 0 := by omega
      rw [e, Int.mul_zero] at m1; omega
  · unfold gaU gaL
    rcases Int.le_total (rdU (gpu A k) (gpl A k)) (rdL (gpu A k) (gpl A k)) with q | q
    · exact q
    · rcases Int.lt_or_eq_of_le q with z | z
      · have : (Int.gcd (gpu A k) (gpl A k) : Int) * rdL (gpu A k) (gpl A k) < (Int.gcd (gpu A k) (gpl A k) : Int) * rdU (gpu A k) (gpl A k) := Int.mul_lt_mul_of_pos_left z (by omega)
        omega
      · omega
theorem mnI_lt (A : HV) {n : Nat} (h : 0 < n) : mnI A n < n := by
  induction n with
  | zero => omega
  | succ n ih =>
    unfold mnI
    rcases Nat.eq_zero_or_pos n with e | e
    · subst e; split <;> first | omega | (show 0 < 1; omega)
    · split
      · omega
      · have := ih e; omega
theorem mxI_lt (A : HV) {n : Nat} (h : 0 < n) : mxI A n < n := by
  induction n with
  | zero => omega
  | succ n ih =>
    unfold mxI
    rcases Nat.eq_zero_or_pos n with e | e
    · subst e; split <;> first | omega | (show 0 < 1; omega)
    · split
      · omega
      · have := ih e; omega
theorem le_tr {a b c d e f : Int} (hb : 0 < b) (hd : 0 < d) (hf : 0 < f) (h1 : a * d ≤ c * b) (h2 : c * f ≤ e * d) : a * f ≤ e * b := by
  rcases Int.lt_or_le (e * b) (a * f) with q | q
  · rcases Int.lt_or_eq_of_le h1 with z | z
    · -- strict
      have z2 : e * b < a * f := q
      have := lt_tr (a := e) (b := f) (c := a) (d := b) (e := c) (f := d) hf hb hd z2 z
      omega
    · have e1 : e * b * d < a * f * d := Int.mul_lt_mul_of_pos_right q hd
      have e2 : c * f * b ≤ e * d * b := Int.mul_le_mul_of_nonneg_right h2 (by omega)
      have q1 : a * f * d = c * f * b := by
        have : a * f * d = a * d * f := by rw [Int.mul_assoc, Int.mul_comm f, ← Int.mul_assoc]
        rw [this, z, Int.mul_assoc, Int.mul_comm b, ← Int.mul_assoc]
      have q2 : e * b * d = e * d * b := by rw [Int.mul_assoc, Int.mul_comm b, ← Int.mul_assoc]
      omega
  · exact q
theorem mnI_le {A : HV} (V : VA A) {n : Nat} (hn : (n : Int) ≤ A 0 7) {k : Nat} (hk : k < n) : gaU A (mnI A n) * gaL A k ≤ gaU A k * gaL A (mnI A n) := by
  induction n with
  | zero => omega
  | succ n ih =>
    unfold mnI
    by_cases q : gaU A n * gaL A (mnI A n) < gaU A (mnI A n) * gaL A n
    · rw [if_pos q]
      by_cases e : k = n
      · rw [e]; exact Int.le_refl _
      · have f1 := ga_f V (k := n) (by omega)
        have f2 := ga_f V (k := mnI A n) (by have := mnI_lt A (n := n) (by omega); omega)
        have f3 := ga_f V (k := k) (by omega)
        exact le_tr f1.2.1 f2.2.1 f3.2.1 (by omega) (ih (by omega) (by omega))
    · rw [if_neg q]
      by_cases e : k = n
      · rw [e]; omega
      · exact ih (by omega) (by omega)
theorem mxI_le {A : HV} (V : VA A) {n : Nat} (hn : (n : Int) ≤ A 0 7) {k : Nat} (hk : k < n) : gaU A k * gaL A (mxI A n) ≤ gaU A (mxI A n) * gaL A k := by
  induction n with
  | zero => omega
  | succ n ih =>
    unfold mxI
    by_cases q : gaU A (mxI A n) * gaL A n < gaU A n * gaL A (mxI A n)
    · rw [if_pos q]
      by_cases e : k = n
      · rw [e]; exact Int.le_refl _
      · have f1 := ga_f V (k := n) (by omega)
        have f2 := ga_f V (k := mxI A n) (by have := mxI_lt A (n := n) (by omega); omega)
        have f3 := ga_f V (k := k) (by omega)
        exact le_tr f3.2.1 f2.2.1 f1.2.1 (ih (by omega) (by omega)) (by omega)
    · rw [if_neg q]
      by_cases e : k = n
      · rw [e]; omega
      · exact ih (by omega) (by omega)
/-- the least of them is one -/
theorem mn_unique {A : HV} (V : VA A) {n : Nat} (hn : (n : Int) ≤ A 0 7) {k : Nat} (hk : k < n) (hle : ∀ j, j < n → gaU A k * gaL A j ≤ gaU A j * gaL A k) : gaU A k = gaU A (mnI A n) ∧ gaL A k = gaL A (mnI A n) := by
  have hl := mnI_lt A (n := n) (by omega)
  have f1 := ga_f V (k := k) (by omega)
  have f2 := ga_f V (k := mnI A n) (by omega)
  have a1 := hle _ hl
  have a2 := mnI_le V hn hk
  exact cop_unique f1.2.2.2.2 f2.2.2.2.2 f1.2.1 f2.2.1 (by omega)
theorem mx_unique {A : HV} (V : VA A) {n : Nat} (hn : (n : Int) ≤ A 0 7) {k : Nat} (hk : k < n) (hle : ∀ j, j < n → gaU A j * gaL A k ≤ gaU A k * gaL A j) : gaU A k = gaU A (mxI A n) ∧ gaL A k = gaL A (mxI A n) := by
  have hl := mxI_lt A (n := n) (by omega)
  have f1 := ga_f V (k := k) (by omega)
  have f2 := ga_f V (k := mxI A n) (by omega)
  have a1 := hle _ hl
  have a2 := mxI_le V hn hk
  exact cop_unique f1.2.2.2.2 f2.2.2.2.2 f1.2.1 f2.2.1 (by omega)
section GapC
variable {X : Ctx} {l : Launch} {D : Dt} {h : Hp} {a g : Nat} {A : HV} {Q : Pq}
/-- the list of gaps behind k marks -/
def GLI (h : Hp) (g : Nat) (A : HV) (k : Nat) : Prop := (gi h g 0).toInt = (cntG A k : Nat) ∧ (∀ j, j < cntG A k → ∃ i, i < k ∧ (gl h (g + 2) j).toInt = gaU A i ∧ (gl h (g + 3) j).toInt = gaL A i) ∧ ∀ i, i < k → ∃ j, j < cntG A k ∧ (gl h (g + 2) j).toInt = gaU A i ∧ (gl h (g + 3) j).toInt = gaL A i
theorem holds_loop (C : C_X3_holdsGap X) (F : St3 h g) {c : Nat} (hc : (gi h g 0).toInt = c) (hc6 : c ≤ 60) (hq : ∀ y : Int32, (y = 0 ↔ ∀ j, j < c → ¬ (gl h (g + 2) j = gl h (g + 1) 0 ∧ gl h (g + 3) j = gl h (g + 1) 1)) → Q (some (.int y)) h) (d : Nat) : ∀ i : Int32, 0 ≤ i.toInt → i.toInt + d = c → (∀ j, j < ix i → ¬ (gl h (g + 2) j = gl h (g + 1) 0 ∧ gl h (g + 3) j = gl h (g + 1) 1)) → Wj X 0 0 Q 2 [(0, .ref g), (1, .int i)] [] h := by
  induction d with
  | zero =>
    intro i hi hd gg
    refine V_X3_holdsGap_2 C ⟨F, fun _ => hq 0 ⟨fun _ j hj => gg j (by unfold ix; omega), fun _ => rfl⟩, fun q => ?_⟩
    rw [i32_le, hc] at q; omega
  | succ d ih =>
    intro i hi hd gg
    obtain ⟨x1, x2⟩ := ix_succ hi (by omega)
    have hk := ix_t hi
    have next : ¬ (gl h (g + 2) (ix i) = gl h (g + 1) 0 ∧ gl h (g + 3) (ix i) = gl h (g + 1) 1) → Wj X 0 0 Q 2 [(0, .ref g), (1, .int (i + Int32.ofInt 1))] [] h := fun hn => ih _ (by omega) (by omega) (fun j hj => by
      by_cases e : j = ix i
      · rw [e]; exact hn
      · exact gg j (by omega))
    refine V_X3_holdsGap_2 C ⟨F, fun q => ?_, fun _ => ⟨fun q => ?_, fun _ => ⟨⟨hi, by omega⟩, fun q => next (fun z => q z.1), fun q => ⟨fun q2 => next (fun z => q2 z.2), fun q2 => hq 1 ⟨fun z => absurd z p1_ne, fun z => absurd ⟨q, q2⟩ (z (ix i) (by omega))⟩⟩⟩⟩⟩
    · rw [i32_le, hc] at q; omega
    · rw [i32_le, i60_tt] at q; omega
theorem cl_holdsGap (F : St3 h g) {c : Nat} (hc : (gi h g 0).toInt = c) (hc6 : c ≤ 60) : S_X3_holdsGap l D 0 0 [.ref g] h (QI fun y h' => (y = 0 ↔ ∀ j, j < c → ¬ (gl h (g + 2) j = gl h (g + 1) 0 ∧ gl h (g + 3) j = gl h (g + 1) 1)) ∧ h' = h) := Sp.of rfl (Nat.le_of_ble_eq_true rfl) (fun X C _ _ _ _ => V_X3_holdsGap_0 C (holds_loop C F hc hc6 (fun y hy => ⟨y, rfl, hy, rfl⟩) c 0 (by rw [i0_t]; omega) (by rw [i0_t]; omega) (fun j hj => by unfold ix at hj; rw [i0_t] at hj; simp at hj)))
def gI (g b j : Nat) : Prop := b = g ∧ j = 0
def gR (g b _j : Nat) : Prop := b = g + 1 ∨ b = g + 2 ∨ b = g + 3
theorem look3_loop (C : C_X3_look X) (F : St3 h g) (H : HdR h a A) (V : VA A) (dj : g + 4 ≤ a ∨ a + 9 ≤ g) (hend : ∀ h', FrW (gI g) (gR g) h h' → GLI h' g A (A 0 7).toNat → Q none h') (d : Nat) : ∀ (i : Int32) (h' : Hp), 0 ≤ i.toInt → i.toInt + d = A 0 7 → FrW (gI g) (gR g) h h' → GLI h' g A (ix i) → Wj X 0 0 Q 7 [(0, .ref g), (1, .ref a), (2, .int i)] [] h' := by
  have vm := V.marks
  have hh : ∀ h', FrW (gI g) (gR g) h h' → HdR h' a A := fun h' f => H.wf f (fun b j hb q => by have := q.1; unfold inH at hb; omega) (fun b j hb q => by unfold gR at q; unfold inH at hb; omega)
  induction d with
  | zero =>
    intro i h' hi hd f gg
    have H' := hh h' f
    refine V_X3_look_7 C ⟨H'.1, fun _ => hend h' f ?_, fun q => ?_⟩
    · have : ix i = (A 0 7).toNat := by unfold ix; omega
      rw [← this]; exact gg
    · rw [i32_le, H'.2.1 7 (by omega)] at q; omega
  | succ d ih =>
    intro i h' hi hd f gg
    have H' := hh h' f
    have F' : St3 h' g := St3_same F f.2.1 f.2.2.1 f.2.2.2.1
    obtain ⟨x1, x2⟩ := ix_succ hi (by omega)
    have hk := ix_t hi
    refine V_X3_look_7 C ⟨H'.1, fun q => ?_, fun _ => ⟨F', (cl_gapBehind H' V (St3_k1 F') hi (by omega)).mono (fun w h3 hp => ?_)⟩⟩
    · rw [i32_le, H'.2.1 7 (by omega)] at q; omega
    · obtain ⟨rfl, u1, u2, fg⟩ := hp
      have fg' : FrW (gI g) (gR g) h' h3 := fg.mono (fun _ _ q => absurd q id) (fun b j (q : b = g + 1) => Or.inl q)
      have f3 := f.tr fg'
      have F3 : St3 h3 g := St3_same F f3.2.1 f3.2.2.1 f3.2.2.2.1
      obtain ⟨g1, g2, g3⟩ := gg
      have cl := cntG_le A (ix i)
      have c3 : (gi h3 g 0).toInt = (cntG A (ix i) : Nat) := by rw [fg.xi id]; exact g1
      have e2 : ∀ j, gl h3 (g + 2) j = gl h' (g + 2) j := fun j => fg.xl (fun (q : g + 2 = g + 1) => by omega)
      have e3 : ∀ j, gl h3 (g + 3) j = gl h' (g + 3) j := fun j => fg.xl (fun (q : g + 3 = g + 1) => by omega)
      refine ⟨rfl, F3, (cl_holdsGap F3 c3 (by omega)).mono (fun w h5 hp => ?_)⟩
      obtain ⟨y, rfl, hy, e5⟩ := hp
      subst h5
      -- is it new?
      have key : (y = 0) ↔ newG A (ix i) = true := by
        rw [hy, newG_iff]
        constructor
        · intro q k hk2 z
          obtain ⟨j, j1, j2, j3⟩ := g3 k hk2
          refine q j j1 ⟨?_, ?_⟩
          · rw [i64_eq, e2, j2, u1]; exact z.1
          · rw [i64_eq, e3, j3, u2]; exact z.2
        · intro q j hj z
          obtain ⟨k, k1, k2, k3⟩ := g2 j hj
          refine q k k1 ⟨?_, ?_⟩
          · have := z.1; rw [i64_eq, e2, k2, u1] at this; exact this
          · have := z.2; rw [i64_eq, e3, k3, u2] at this; exact this
      have old : ¬ y = 0 → Wj X 0 0 Q 7 [(0, .ref g), (1, .ref a), (2, .int (i + Int32.ofInt 1))] [] h3 := fun q => by
        have nn : ¬ newG A (ix i) = true := fun z => q (key.mpr z)
        have ec : cntG A (ix i + 1) = cntG A (ix i) := by
          show cntG A (ix i) + (if newG A (ix i) = true then 1 else 0) = _
          rw [if_neg nn]; rfl
        refine ih _ _ (by omega) (by omega) f3 ?_
        rw [x1]
        unfold GLI
        rw [ec]
        refine ⟨c3, fun j hj => ?_, fun k hk2 => ?_⟩
        · obtain ⟨k, k1, k2, k3⟩ := g2 j hj
          exact ⟨k, by omega, by rw [e2]; exact k2, by rw [e3]; exact k3⟩
        · by_cases e : k = ix i
          · have : ∃ i', i' < ix i ∧ sameG A i' (ix i) := Classical.not_not.mp (fun z => nn ((newG_iff A (ix i)).mpr (fun i' hi' w => z ⟨i', hi', w⟩)))
            obtain ⟨i', q1, q2⟩ := this
            obtain ⟨j, j1, j2, j3⟩ := g3 i' q1
            exact ⟨j, j1, by rw [e2, j2, e]; exact q2.1, by rw [e3, j3, e]; exact q2.2⟩
          · obtain ⟨j, j1, j2, j3⟩ := g3 k (by omega)
            exact ⟨j, j1, by rw [e2]; exact j2, by rw [e3]; exact j3⟩
      refine ⟨y, rfl, old, fun q => ⟨F3, fun q1 => ?_, fun q1 => ⟨fun q2 => ?_, fun q2 => ⟨⟨by omega, by omega⟩, ?_⟩⟩⟩⟩
      · rw [i32_lt, i0_t, c3] at q1; omega
      · rw [i32_le, i60_tt, c3] at q2; omega
      · have ei : ix (gi h3 g 0) = cntG A (ix i) := ix_of c3
        have nn := key.mp q
        have ec : cntG A (ix i + 1) = cntG A (ix i) + 1 := by
          show cntG A (ix i) + (if newG A (ix i) = true then 1 else 0) = _
          rw [if_pos nn]
        rw [ei]
        have eg : gl (sl h3 (g + 2) (cntG A (ix i)) (gl h3 (g + 1) 0)) (g + 1) 1 = gl h3 (g + 1) 1 := by rw [gl_sl, if_neg (by omega)]
        rw [eg]
        have ea : (gi h3 g 0 + 1).toInt = ((cntG A (ix i) + 1 : Nat) : Int) := by rw [iadd_t] <;> rw [i1_t, c3] <;> omega
        refine ih _ _ (by omega) (by omega) (((f3.sl (Or.inr (Or.inl rfl))).sl (Or.inr (Or.inr rfl))).si ⟨rfl, rfl⟩) ?_
        rw [x1]
        unfold GLI
        rw [ec]
        have n2 : ∀ j, gl (si (sl (sl h3 (g + 2) (cntG A (ix i)) (gl h3 (g + 1) 0)) (g + 3) (cntG A (ix i)) (gl h3 (g + 1) 1)) g 0 (gi h3 g 0 + 1)) (g + 2) j = if j = cntG A (ix i) then gl h3 (g + 1) 0 else gl h' (g + 2) j := fun j => by
          rw [gl_si, gl_sl, if_neg (by omega), gl_sl]
          by_cases e : j = cntG A (ix i)
          · rw [if_pos ⟨rfl, e⟩, if_pos e]
          · rw [if_neg (fun z => e z.2), if_neg e, e2]
        have n3 : ∀ j, gl (si (sl (sl h3 (g + 2) (cntG A (ix i)) (gl h3 (g + 1) 0)) (g + 3) (cntG A (ix i)) (gl h3 (g + 1) 1)) g 0 (gi h3 g 0 + 1)) (g + 3) j = if j = cntG A (ix i) then gl h3 (g + 1) 1 else gl h' (g + 3) j := fun j => by
          rw [gl_si, gl_sl]
          by_cases e : j = cntG A (ix i)
          · rw [if_pos ⟨rfl, e⟩, if_pos e]
          · rw [if_neg (fun z => e z.2), if_neg e, gl_sl, if_neg (by omega), e3]
        refine ⟨by rw [gi_si, if_pos ⟨rfl, rfl⟩]; exact ea, fun j hj => ?_, fun k hk2 => ?_⟩
        · by_cases e : j = cntG A (ix i)
          · exact ⟨ix i, by omega, by rw [n2, if_pos e]; exact u1, by rw [n3, if_pos e]; exact u2⟩
          · obtain ⟨k, k1, k2, k3⟩ := g2 j (by omega)
            exact ⟨k, by omega, by rw [n2, if_neg e]; exact k2, by rw [n3, if_neg e]; exact k3⟩
        · by_cases e : k = ix i
          · exact ⟨cntG A (ix i), by omega, by rw [n2, if_pos rfl, e]; exact u1, by rw [n3, if_pos rfl, e]; exact u2⟩
          · obtain ⟨j, j1, j2, j3⟩ := g3 k (by omega)
            exact ⟨j, by omega, by rw [n2, if_neg (by omega)]; exact j2, by rw [n3, if_neg (by omega)]; exact j3⟩
theorem cl_look3 (F : St3 h g) (H : HdR h a A) (V : VA A) (dj : g + 4 ≤ a ∨ a + 9 ≤ g) : S_X3_look l D 0 0 [.ref g, .ref a] h (QV fun h' => GLI h' g A (A 0 7).toNat ∧ FrW (gI g) (gR g) h h') := Sp.of rfl (Nat.le_of_ble_eq_true rfl) (fun X C _ _ _ _ => V_X3_look_0 C (by
  have vm := V.marks
  refine ⟨F, look3_loop C F H V dj (fun h' f gg => ⟨rfl, gg, f⟩) (A 0 7).toNat 0 _ (by rw [i0_t]; omega) (by rw [i0_t]; omega) (FrW.rf.si ⟨rfl, rfl⟩) ⟨?_, fun j hj => ?_, fun k hk => ?_⟩⟩
  · rw [gi_si, if_pos ⟨rfl, rfl⟩, ix_0]; rfl
  · rw [ix_0] at hj; exact absurd hj (Nat.not_lt_zero j)
  · rw [ix_0] at hk; exact absurd hk (Nat.not_lt_zero k)))
end GapC
