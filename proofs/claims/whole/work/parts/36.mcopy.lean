-- the reference's blocks: copied, begun, laid aside
def cI (m b c j : Nat) : Prop := c = m + 3 ∧ 61 * b ≤ j ∧ j < 61 * b + 61
def cL (m b c j : Nat) : Prop := c = m + 4 ∧ 122 * b ≤ j ∧ j < 122 * b + 122
theorem i61_t : (61 : Int32).toInt = 61 := rfl
theorem i122_t : (122 : Int32).toInt = 122 := rfl
theorem ix_blk {v w : Int32} {b k : Nat} (hv : v.toInt = b) (hw : w.toInt = k) (hb : b < 12) (hk : k < 61) : ix (v * 61 + w) = k + 61 * b ∧ inb (v * 61 + w) 732 := by
  have e1 : (v * 61).toInt = b * 61 := by rw [imul_t] <;> rw [i61_t, hv] <;> omega
  have e2 : (v * 61 + w).toInt = b * 61 + k := by rw [iadd_t] <;> rw [e1, hw] <;> omega
  unfold ix inb
  rw [e2]
  omega
theorem ix_blk2 {v w : Int32} {b k : Nat} (hv : v.toInt = b) (hw : w.toInt = k) (hb : b < 12) (hk : k < 122) : ix (v * 122 + w) = k + 122 * b ∧ inb (v * 122 + w) 1464 := by
  have e1 : (v * 122).toInt = b * 122 := by rw [imul_t] <;> rw [i122_t, hv] <;> omega
  have e2 : (v * 122 + w).toInt = b * 122 + k := by rw [iadd_t] <;> rw [e1, hw] <;> omega
  unfold ix inb
  rw [e2]
  omega
section Cpy
variable {X : Ctx} {l : Launch} {D : Dt} {h : Hp} {m : Nat} {A : HV} {Q : Pq}
theorem ma_copies2 (C : C_X10_copies X) {h0 : Hp} (F : St10 h0 m) {v w : Int32} {a b : Nat} (hv : v.toInt = a) (hw : w.toInt = b) (ha : a < 12) (hb : b < 12) (hab : a ≠ b) (hend : ∀ h', FrW (fun _ _ => False) (cL m b) h0 h' → (∀ k, k < 122 → gl h' (m + 4) (k + 122 * b) = gl h0 (m + 4) (k + 122 * a)) → Q none h') (d : Nat) : ∀ (i : Int32) (h' : Hp), 0 ≤ i.toInt → i.toInt + d = 122 → FrW (fun _ _ => False) (cL m b) h0 h' → (∀ k, k < ix i → gl h' (m + 4) (k + 122 * b) = gl h0 (m + 4) (k + 122 * a)) → Wj X 0 0 Q 38 [(0, .ref m), (1, .int v), (2, .int w), (3, .int i)] [] h' := by
  induction d with
  | zero =>
    intro i h' hi hd f g
    refine V_X10_copies_38 C ⟨fun _ => hend h' f (fun k hk => g k (by unfold ix; omega)), fun q => ?_⟩
    rw [i32_le, i122_t] at q; omega
  | succ d ih =>
    intro i h' hi hd f g
    obtain ⟨x1, x2⟩ := ix_succ hi (by omega)
    have hk := ix_t hi
    obtain ⟨y1, y2⟩ := ix_blk2 (k := ix i) hv hk.symm ha (by omega)
    obtain ⟨z1, z2⟩ := ix_blk2 (k := ix i) hw hk.symm hb (by omega)
    refine V_X10_copies_38 C ⟨fun q => ?_, fun _ => ⟨f.st10 F, y2, z2, ?_⟩⟩
    · rw [i32_le, i122_t] at q; omega
    · rw [y1, z1]
      refine ih _ _ (by omega) (by omega) (f.sl ⟨rfl, by omega, by omega⟩) (fun k hk2 => ?_)
      rw [gl_sl]
      by_cases e : k = ix i
      · rw [if_pos ⟨rfl, by omega⟩, e]
        exact f.xl (fun q => by have := q.2; omega)
      · rw [if_neg (by omega)]; exact g k (by omega)
theorem ma_copies1 (C : C_X10_copies X) {h0 : Hp} (F : St10 h0 m) {v w : Int32} {a b : Nat} (hv : v.toInt = a) (hw : w.toInt = b) (ha : a < 12) (hb : b < 12) (hab : a ≠ b) (hend : ∀ h', FrW (cI m b) (fun _ _ => False) h0 h' → (∀ k, k < 61 → gi h' (m + 3) (k + 61 * b) = gi h0 (m + 3) (k + 61 * a)) → Wj X 0 0 Q 38 [(0, .ref m), (1, .int v), (2, .int w), (3, .int 0)] [] h') (d : Nat) : ∀ (i : Int32) (h' : Hp), 0 ≤ i.toInt → i.toInt + d = 61 → FrW (cI m b) (fun _ _ => False) h0 h' → (∀ k, k < ix i → gi h' (m + 3) (k + 61 * b) = gi h0 (m + 3) (k + 61 * a)) → Wj X 0 0 Q 2 [(0, .ref m), (1, .int v), (2, .int w), (3, .int i)] [] h' := by
  induction d with
  | zero =>
    intro i h' hi hd f g
    refine V_X10_copies_2 C ⟨fun _ => hend h' f (fun k hk => g k (by unfold ix; omega)), fun q => ?_⟩
    rw [i32_le, i61_t] at q; omega
  | succ d ih =>
    intro i h' hi hd f g
    obtain ⟨x1, x2⟩ := ix_succ hi (by omega)
    have hk := ix_t hi
    obtain ⟨y1, y2⟩ := ix_blk (k := ix i) hv hk.symm ha (by omega)
    obtain ⟨z1, z2⟩ := ix_blk (k := ix i) hw hk.symm hb (by omega)
    refine V_X10_copies_2 C ⟨fun q => ?_, fun _ => ⟨f.st10 F, y2, z2, ?_⟩⟩
    · rw [i32_le, i61_t] at q; omega
    · rw [y1, z1]
      refine ih _ _ (by omega) (by omega) (f.si ⟨rfl, by omega, by omega⟩) (fun k hk2 => ?_)
      rw [gi_si]
      by_cases e : k = ix i
      · rw [if_pos ⟨rfl, by omega⟩, e]
        exact f.xi (fun q => by have := q.2; omega)
      · rw [if_neg (by omega)]; exact g k (by omega)
/-- block a comes into block b -/
def Cpd (h h' : Hp) (m a b : Nat) : Prop := FrW (cI m b) (cL m b) h h' ∧ (∀ k, k < 61 → gi h' (m + 3) (k + 61 * b) = gi h (m + 3) (k + 61 * a)) ∧ ∀ k, k < 122 → gl h' (m + 4) (k + 122 * b) = gl h (m + 4) (k + 122 * a)
theorem ma_copies (F : St10 h m) {v w : Int32} {a b : Nat} (hv : v.toInt = a) (hw : w.toInt = b) (ha : a < 12) (hb : b < 12) (hab : a ≠ b) : S_X10_copies l D 0 0 [.ref m, .int v, .int w] h (QV fun h' => Cpd h h' m a b) := Sp.of rfl (Nat.le_of_ble_eq_true rfl) (fun X C _ _ _ _ => V_X10_copies_0 C (by
  refine ma_copies1 C F hv hw ha hb hab (fun h1 f1 g1 => ?_) 61 0 h (by rw [i0_t]; omega) (by rw [i0_t]; omega) FrW.rf (fun k hk => by unfold ix at hk; rw [i0_t] at hk; simp at hk)
  refine ma_copies2 C (f1.st10 F) hv hw ha hb hab (fun h2 f2 g2 => ?_) 122 0 h1 (by rw [i0_t]; omega) (by rw [i0_t]; omega) FrW.rf (fun k hk => by unfold ix at hk; rw [i0_t] at hk; simp at hk)
  refine ⟨rfl, (f1.mono (fun _ _ q => q) (fun _ _ q => absurd q id)).tr (f2.mono (fun _ _ q => absurd q id) (fun _ _ q => q)), fun k hk => ?_, fun k hk => ?_⟩
  · rw [f2.xi id]; exact g1 k hk
  · rw [g2 k hk]; exact f1.xl id))
end Cpy
/-- block b holds a head -/
def MK (h : Hp) (m b : Nat) (A : HV) : Prop := MB (mI h m b) (mL h m b) A
theorem MK.fr {h h' : Hp} {m b : Nat} {A : HV} {P R : Nat → Nat → Prop} (H : MK h m b A) (V : VA A) (f : FrW P R h h') (hp : ∀ j, 61 * b ≤ j → j < 61 * b + 61 → ¬ P (m + 3) j) (hr : ∀ j, 122 * b ≤ j → j < 122 * b + 122 → ¬ R (m + 4) j) : MK h' m b A :=
  MB.ext H V (fun k hk => by unfold mI; rw [f.xi (hp _ (by omega) (by omega))]) (fun k hk => by unfold mL; rw [f.xl (hr _ (by omega) (by omega))])
theorem MK.cpd {h h' : Hp} {m a b : Nat} {A : HV} (H : MK h m a A) (V : VA A) (c : Cpd h h' m a b) : MK h' m b A :=
  MB.ext H V (fun k hk => by unfold mI; rw [c.2.1 k hk]) (fun k hk => by unfold mL; rw [c.2.2 k hk])
theorem MK.oth {h h' : Hp} {m a b c : Nat} {A : HV} (H : MK h m c A) (V : VA A) (g : Cpd h h' m a b) (hc : c ≠ b) : MK h' m c A :=
  H.fr V g.1 (fun j h1 h2 q => by have := q.2; omega) (fun j h1 h2 q => by have := q.2; omega)
theorem MdR.mk {h : Hp} {m : Nat} {A : HV} (H : MdR h m A) : MK h m 0 A := H.2
/-- what the reference holds: the head, what can be undone, what is kept -/
def MdS (h : Hp) (m : Nat) (A : HV) (n : Nat) (B : Nat → HV) (K : Nat → Option HV) : Prop :=
  St10 h m ∧ MK h m 0 A ∧ VA A ∧ ((gi h m 9).toInt = n ∧ n ≤ 7) ∧ (∀ i, i < n → MK h m (5 + i) (B i) ∧ VA (B i)) ∧ ∀ i, i < 2 → (K i = none → gi h (m + 16) i = 0) ∧ ∀ E, K i = some E → gi h (m + 16) i ≠ 0 ∧ MK h m (1 + i) E ∧ VA E
theorem MdS.md {h : Hp} {m : Nat} {A : HV} {n : Nat} {B : Nat → HV} {K : Nat → Option HV} (S : MdS h m A n B K) : MdR h m A := ⟨S.1, S.2.1⟩
theorem MdS.va {h : Hp} {m : Nat} {A : HV} {n : Nat} {B : Nat → HV} {K : Nat → Option HV} (S : MdS h m A n B K) : VA A := S.2.2.1
/-- a frame that leaves heads alone -/
theorem MdS.fr {h h' : Hp} {m : Nat} {A : HV} {n : Nat} {B : Nat → HV} {K : Nat → Option HV} {P R : Nat → Nat → Prop} (S : MdS h m A n B K) (f : FrW P R h h') (p1 : ∀ j, j < 183 ∨ 305 ≤ j → ¬ P (m + 3) j) (p2 : ¬ P m 9) (p3 : ∀ j, ¬ P (m + 16) j) (r1 : ∀ j, j < 366 ∨ 610 ≤ j → ¬ R (m + 4) j) : MdS h' m A n B K := by
  obtain ⟨F, S0, V, S1, S2, S3⟩ := S
  refine ⟨f.st10 F, S0.fr V f (fun j h1 h2 => p1 j (by omega)) (fun j h1 h2 => r1 j (by omega)), V, ⟨by rw [f.xi p2]; exact S1.1, S1.2⟩, fun i hi => ?_, fun i hi => ⟨fun q => ?_, fun E q => ?_⟩⟩
  · obtain ⟨q1, q2⟩ := S2 i hi
    exact ⟨q1.fr q2 f (fun j h1 h2 => p1 j (by omega)) (fun j h1 h2 => r1 j (by omega)), q2⟩
  · rw [f.xi (p3 i)]; exact (S3 i hi).1 q
  · obtain ⟨q1, q2, q3⟩ := (S3 i hi).2 E q
    exact ⟨by rw [f.xi (p3 i)]; exact q1, q2.fr q3 f (fun j h1 h2 => p1 j (by omega)) (fun j h1 h2 => r1 j (by omega)), q3⟩
/-- another head in block 0, all else as it was -/
theorem MdS.now {h h' : Hp} {m : Nat} {A A' : HV} {n : Nat} {B : Nat → HV} {K : Nat → Option HV} {P R : Nat → Nat → Prop} (S : MdS h m A n B K) (f : FrW P R h h') (p1 : ∀ j, (61 ≤ j ∧ j < 183) ∨ 305 ≤ j → ¬ P (m + 3) j) (p2 : ¬ P m 9) (p3 : ∀ j, ¬ P (m + 16) j) (r1 : ∀ j, (122 ≤ j ∧ j < 366) ∨ 610 ≤ j → ¬ R (m + 4) j) (H : MK h' m 0 A') (V' : VA A') : MdS h' m A' n B K := by
  obtain ⟨F, S0, V, S1, S2, S3⟩ := S
  refine ⟨f.st10 F, H, V', ⟨by rw [f.xi p2]; exact S1.1, S1.2⟩, fun i hi => ?_, fun i hi => ⟨fun q => ?_, fun E q => ?_⟩⟩
  · obtain ⟨q1, q2⟩ := S2 i hi
    exact ⟨q1.fr q2 f (fun j h1 h2 => p1 j (by omega)) (fun j h1 h2 => r1 j (by omega)), q2⟩
  · rw [f.xi (p3 i)]; exact (S3 i hi).1 q
  · obtain ⟨q1, q2, q3⟩ := (S3 i hi).2 E q
    exact ⟨by rw [f.xi (p3 i)]; exact q1, q2.fr q3 f (fun j h1 h2 => p1 j (by omega)) (fun j h1 h2 => r1 j (by omega)), q3⟩
/-- what was is laid on what can be undone, seven at most -/
def pushN (n : Nat) : Nat := if n = 7 then 7 else n + 1
def pushB (n : Nat) (B : Nat → HV) (E : HV) : Nat → HV := fun i => if n = 7 then (if i = 6 then E else B (i + 1)) else (if i = n then E else B i)
def uI (m b j : Nat) : Prop := b = m ∧ j = 9 ∨ b = m + 3 ∧ 305 ≤ j
def uL (m b j : Nat) : Prop := b = m + 4 ∧ 610 ≤ j
section Done
variable {X : Ctx} {l : Launch} {D : Dt} {h : Hp} {m : Nat} {A : HV} {n : Nat} {B : Nat → HV} {K : Nat → Option HV} {Q : Pq}
theorem i5_t : (5 : Int32).toInt = 5 := rfl
theorem i7_t : (7 : Int32).toInt = 7 := rfl
theorem i3_t : (3 : Int32).toInt = 3 := rfl
/-- undone ones move on by one -/
theorem ma_done_mv (C : C_X10_done X) {h0 : Hp} (F : St10 h0 m) (hB : ∀ i, i < 7 → MK h0 m (5 + i) (B i) ∧ VA (B i)) {v : Int32} (hend : ∀ h', FrW (uI m) (uL m) h0 h' → gi h' m 9 = gi h0 m 9 → (∀ i, i < 6 → MK h' m (5 + i) (B (i + 1))) → Wj X 0 0 Q 53 [(0, .ref m), (1, .int v)] [] (si h' m 9 (gi h' m 9 - 1))) (d : Nat) : ∀ (i : Int32) (h' : Hp), 0 ≤ i.toInt → i.toInt + d = 6 → FrW (uI m) (uL m) h0 h' → gi h' m 9 = gi h0 m 9 → (∀ k, k < 7 → MK h' m (5 + k) (B (if k < ix i then k + 1 else k))) → Wj X 0 0 Q 17 [(0, .ref m), (1, .int v), (2, .int i)] [] h' := by
  induction d with
  | zero =>
    intro i h' hi hd f g9 g
    have e : (i + 1).toInt = i.toInt + 1 := by rw [iadd_t] <;> rw [i1_t] <;> omega
    refine V_X10_done_17 C ⟨fun _ => ⟨f.st10 F, hend h' f g9 (fun k hk => ?_)⟩, fun q => ?_⟩
    · have := g k (by omega)
      rw [if_pos (by unfold ix; omega)] at this
      exact this
    · rw [i32_le, e, i7_t] at q; omega
  | succ d ih =>
    intro i h' hi hd f g9 g
    obtain ⟨x1, x2⟩ := ix_succ hi (by omega)
    have hk := ix_t hi
    have e : (i + 1).toInt = i.toInt + 1 := by rw [iadd_t] <;> rw [i1_t] <;> omega
    have e5 : (5 + i).toInt = ((5 + ix i : Nat) : Int) := by rw [iadd_t] <;> rw [i5_t] <;> omega
    have e6 : (5 + i + 1).toInt = ((5 + ix i + 1 : Nat) : Int) := by rw [iadd_t] <;> rw [i1_t, e5] <;> omega
    refine V_X10_done_17 C ⟨fun q => ?_, fun _ => ⟨f.st10 F, (ma_copies (f.st10 F) e6 e5 (by omega) (by omega) (by omega)).mono (fun w h2 hp => ?_)⟩⟩
    · rw [i32_le, e, i7_t] at q; omega
    · obtain ⟨rfl, c⟩ := hp
      refine ⟨rfl, ih _ _ (by omega) (by omega) (f.tr (c.1.mono (fun b j q => Or.inr ⟨q.1, by have := q.2; omega⟩) (fun b j q => ⟨q.1, by have := q.2; omega⟩))) ?_ (fun k hk2 => ?_)⟩
      · rw [c.1.xi (fun q => by have := q.1; omega)]; exact g9
      · rw [x1]
        by_cases k1 : k = ix i
        · have := g (k + 1) (by omega)
          rw [if_neg (by omega)] at this
          rw [if_pos (by omega), k1]
          rw [k1] at this
          exact MK.cpd (a := 5 + ix i + 1) this (hB _ (by omega)).2 c
        · have := g k hk2
          have e9 : (if k < ix i + 1 then k + 1 else k) = if k < ix i then k + 1 else k := by
            by_cases q : k < ix i
            · rw [if_pos q, if_pos (by omega)]
            · rw [if_neg q, if_neg (by omega)]
          rw [e9]
          refine MK.oth this ?_ c (by omega)
          have hv := fun j hj => (hB j hj).2
          by_cases q : k < ix i
          · rw [if_pos q]; exact hv _ (by omega)
          · rw [if_neg q]; exact hv _ (by omega)
theorem ma_done (S : MdS h m A n B K) {E : HV} (HE : MK h m 3 E) (VE : VA E) {v : Int32} : S_X10_done l D 0 0 [.ref m, .int v] h (QI fun x h' => x = v ∧ (if 0 ≤ v.toInt then MdS h' m A (pushN n) (pushB n B E) K else MdS h' m A n B K) ∧ FrW (uI m) (uL m) h h') := Sp.of rfl (Nat.le_of_ble_eq_true rfl) (fun X C _ _ _ _ => by
  generalize hQ : (QI fun x h' => x = v ∧ (if 0 ≤ v.toInt then MdS h' m A (pushN n) (pushB n B E) K else MdS h' m A n B K) ∧ FrW (uI m) (uL m) h h') = Q
  obtain ⟨F, S0, V, S1, S2, S3⟩ := id S
  -- the last step: what was laid aside comes to place n'
  have p53 : ∀ (h1 : Hp) (n' : Nat) (B' : Nat → HV), FrW (uI m) (uL m) h h1 → (gi h1 m 9).toInt = n' → n' < 7 → (∀ i, i < n' → MK h1 m (5 + i) (B' i) ∧ VA (B' i)) → MK h1 m 0 A → (∀ i, i < 2 → (K i = none → gi h1 (m + 16) i = 0) ∧ ∀ E, K i = some E → gi h1 (m + 16) i ≠ 0 ∧ MK h1 m (1 + i) E ∧ VA E) → MK h1 m 3 E → pushN n = n' + 1 → (∀ i, i < n' → pushB n B E i = B' i) → pushB n B E n' = E → 0 ≤ v.toInt → Wj X 0 0 Q 53 [(0, .ref m), (1, .int v)] [] h1 := by
    intro h1 n' B' f1 e9 hn' hB' h0 hK h3 ep eb eb2 hv
    have F1 := f1.st10 F
    have e5 : (5 + gi h1 m 9).toInt = ((5 + n' : Nat) : Int) := by rw [iadd_t] <;> rw [i5_t, e9] <;> omega
    refine V_X10_done_53 C ⟨F1, (ma_copies F1 (a := 3) rfl e5 (by omega) (by omega) (by omega)).mono (fun w h2 hp => ?_)⟩
    obtain ⟨rfl, c⟩ := hp
    have F2 := c.1.st10 F1
    have g9 : gi h2 m 9 = gi h1 m 9 := c.1.xi (fun q => by have := q.1; omega)
    have e10 : (gi h2 m 9 + 1).toInt = n' + 1 := by rw [g9, iadd_t] <;> rw [i1_t, e9] <;> omega
    have fs : FrW (fun b j => b = m ∧ j = 9) (fun _ _ => False) h2 (si h2 m 9 (gi h2 m 9 + 1)) := FrW.rf.si ⟨rfl, rfl⟩
    have keep : ∀ (b : Nat) (G : HV), MK h2 m b G → VA G → MK (si h2 m 9 (gi h2 m 9 + 1)) m b G := fun b G hG vG => hG.fr vG fs (fun j _ _ q => by have := q.1; omega) (fun _ _ _ => id)
    rw [← hQ]
    refine ⟨rfl, F2, v, rfl, rfl, ?_, (f1.tr (c.1.mono (fun b j q => Or.inr ⟨q.1, by have := q.2; omega⟩) (fun b j q => ⟨q.1, by have := q.2; omega⟩))).si (Or.inl ⟨rfl, rfl⟩)⟩
    rw [if_pos hv]
    refine ⟨fs.st10 F2, keep 0 A (h0.oth V c (by omega)) V, V, ⟨by rw [gi_si, if_pos ⟨rfl, rfl⟩, e10, ep]; omega, by omega⟩, fun i hi => ?_, fun i hi => ⟨fun q => ?_, fun G q => ?_⟩⟩
    · rw [ep] at hi
      by_cases e : i = n'
      · rw [e, eb2]
        exact ⟨keep _ E (h3.cpd VE c) VE, VE⟩
      · rw [eb i (by omega)]
        obtain ⟨q1, q2⟩ := hB' i (by omega)
        exact ⟨keep _ _ (q1.oth q2 c (by omega)) q2, q2⟩
    · rw [gi_si, if_neg (by omega), c.1.xi (fun q => by have := q.1; omega)]; exact (hK i hi).1 q
    · obtain ⟨q1, q2, q3⟩ := (hK i hi).2 G q
      exact ⟨by rw [gi_si, if_neg (by omega), c.1.xi (fun q => by have := q.1; omega)]; exact q1, keep _ G (q2.oth q3 c (by omega)) q3, q3⟩
  refine V_X10_done_0 C ⟨fun q => ⟨F, fun q1 => ?_, fun q1 => ?_⟩, fun q => ?_⟩
  · rw [i32_le, i0_t] at q
    rw [i32_eq, S1.1, i7_t] at q1
    refine p53 h n B FrW.rf S1.1 (by omega) S2 S0 S3 HE ?_ (fun i hi => ?_) ?_ q
    · unfold pushN; rw [if_neg (by omega)]
    · unfold pushB; rw [if_neg (by omega), if_neg (by omega)]
    · unfold pushB; rw [if_neg (by omega), if_pos rfl]
  · rw [i32_le, i0_t] at q
    rw [i32_eq, S1.1, i7_t] at q1
    have hn : n = 7 := by omega
    subst hn
    refine ma_done_mv C F S2 (fun h2 f2 g9 g2 => ?_) 6 0 h (by rw [i0_t]; omega) (by rw [i0_t]; omega) FrW.rf rfl (fun k hk => ?_)
    · have fs : FrW (fun b j => b = m ∧ j = 9) (fun _ _ => False) h2 (si h2 m 9 (gi h2 m 9 - 1)) := FrW.rf.si ⟨rfl, rfl⟩
      have k2 : ∀ (b : Nat) (G : HV), b < 5 → MK h m b G → VA G → MK (si h2 m 9 (gi h2 m 9 - 1)) m b G := fun b G hb hG vG =>
        (hG.fr vG f2 (fun j _ _ q => by rcases q with q | q <;> have := q.1 <;> have := q.2 <;> omega) (fun j _ _ q => by have := q.2; omega)).fr vG fs (fun j _ _ q => by have := q.1; omega) (fun _ _ _ => id)
      refine p53 _ 6 (fun i => B (i + 1)) (f2.si (Or.inl ⟨rfl, rfl⟩)) ?_ (by omega) (fun i hi => ⟨(g2 i hi).fr (S2 _ (by omega)).2 fs (fun j _ _ q => by have := q.1; omega) (fun _ _ _ => id), (S2 _ (by omega)).2⟩) (k2 0 A (by omega) S0 V) (fun i hi => ⟨fun z => ?_, fun G z => ?_⟩) (k2 3 E (by omega) HE VE) rfl (fun i hi => ?_) rfl q
      · rw [gi_si, if_pos ⟨rfl, rfl⟩, g9, isub_t] <;> rw [i1_t, S1.1] <;> omega
      · rw [gi_si, if_neg (by omega), f2.xi (fun w => by rcases w with w | w <;> have := w.1 <;> omega)]; exact (S3 i hi).1 z
      · obtain ⟨q1, q2, q3⟩ := (S3 i hi).2 G z
        exact ⟨by rw [gi_si, if_neg (by omega), f2.xi (fun w => by rcases w with w | w <;> have := w.1 <;> omega)]; exact q1, k2 _ G (by omega) q2 q3, q3⟩
      · unfold pushB; rw [if_pos rfl, if_neg (by omega)]
    · have : ix 0 = 0 := ix_0
      rw [this, if_neg (by omega)]; exact (S2 k hk).1
  · rw [i32_le, i0_t] at q
    rw [← hQ]
    refine ⟨v, rfl, rfl, ?_, FrW.rf⟩
    rw [if_neg q]; exact S)
end Done
