-- gaps, the reference
def lgI (m b j : Nat) : Prop := b = m ∧ j = 1
def lgL (m b j : Nat) : Prop := b = m ∧ (j = 33 ∨ j = 34) ∨ b = m + 10 ∨ b = m + 1
def LGI (h : Hp) (m : Nat) (A : HV) (k : Nat) : Prop := ∀ i, i < k → (gl h (m + 10) (2 * i)).toInt = gaU A i ∧ (gl h (m + 10) (2 * i + 1)).toInt = gaL A i
theorem ix_2k {v : Int32} {k : Nat} (h : v.toInt = k) (hk : k < 60) : ix (2 * v) = 2 * k ∧ ix (2 * v + 1) = 2 * k + 1 ∧ inb (2 * v) 120 ∧ inb (2 * v + 1) 120 := by
  have e1 : (2 * v).toInt = 2 * v.toInt := imul_t (by rw [i2_t]; omega) (by rw [i2_t]; omega)
  have e3 : (2 * v + 1).toInt = 2 * v.toInt + 1 := by rw [iadd_t] <;> rw [i1_t, e1] <;> omega
  unfold ix inb
  omega
theorem blw_0 {a b c d : Int} : blw a b c d = 0 ↔ ¬ a * d < c * b := by
  unfold blw
  by_cases q : a * d < c * b
  · rw [if_pos q]; exact ⟨fun z => absurd z p1_ne, fun z => absurd q z⟩
  · rw [if_neg q]; exact ⟨fun _ => q, fun _ => rfl⟩
section LaysGaps
variable {X : Ctx} {l : Launch} {D : Dt} {h : Hp} {m : Nat} {A : HV} {Q : Pq}
/-- is this gap new? -/
theorem lg58 (C : C_X10_laysGaps X) (F : St10 h m) {k : Nat} (hk6 : k < 60) {v1 v2 v3 v4 : Int32} (hv4 : v4.toInt = k) (L : LGI h m A k) (u1 : (gl h m 33).toInt = gaU A k) (u2 : (gl h m 34).toInt = gaL A k) (hend : ∀ v5 : Int32, (v5 = 0 ∨ v5 = 1) → (v5 = 1 ↔ newG A k = true) → Wj X 0 0 Q 58 [(0, .ref m), (1, .int v1), (2, .int v2), (3, .int v3), (4, .int v4), (5, .int v5), (6, .int v4)] [] h) (d : Nat) : ∀ v5 i : Int32, 0 ≤ i.toInt → i.toInt + d = k → (v5 = 0 ∨ v5 = 1) → (v5 = 1 ↔ ∀ j, j < ix i → ¬ sameG A j k) → Wj X 0 0 Q 58 [(0, .ref m), (1, .int v1), (2, .int v2), (3, .int v3), (4, .int v4), (5, .int v5), (6, .int i)] [] h := by
  induction d with
  | zero =>
    intro v5 i hi hd h01 hv
    have e : i = v4 := by rw [i32_eq]; omega
    have e2 : ix i = k := by unfold ix; omega
    rw [e2, ← newG_iff] at hv
    rw [e]
    exact hend v5 h01 hv
  | succ d ih =>
    intro v5 i hi hd h01 hv
    obtain ⟨x1, x2⟩ := ix_succ hi (by omega)
    have hk := ix_t hi
    obtain ⟨y1, y2, y3, y4⟩ := ix_2k (v := i) (k := ix i) hk.symm (by omega)
    obtain ⟨l1, l2⟩ := L (ix i) (by omega)
    have yes : v5 = 1 → ¬ sameG A (ix i) k → ((1 : Int32) = 1 ↔ ∀ j, j < ix (i + Int32.ofInt 1) → ¬ sameG A j k) := fun e hn => ⟨fun _ j hj => by
      rw [x1] at hj
      by_cases ej : j = ix i
      · rw [ej]; exact hn
      · exact hv.mp e j (by omega), fun _ => rfl⟩
    refine V_X10_laysGaps_58 C ⟨fun q => ?_, fun _ => ⟨fun q => ih 0 _ (by omega) (by omega) (Or.inl rfl) ⟨fun z => absurd z (by decide), fun z => ?_⟩, fun q => ⟨F, y3, fun q1 => ih 1 _ (by omega) (by omega) (Or.inr rfl) (yes (h01.resolve_left q) ?_), fun q1 => ⟨y4, fun q2 => ih 0 _ (by omega) (by omega) (Or.inl rfl) ⟨fun z => absurd z (by decide), fun z => ?_⟩, fun q2 => ih 1 _ (by omega) (by omega) (Or.inr rfl) (yes (h01.resolve_left q) ?_)⟩⟩⟩⟩
    · rw [i32_le] at q; omega
    · exact absurd (hv.mpr (fun j hj => z j (by omega))) (by rw [q]; decide)
    · rw [y1, i64_eq, l1, u1] at q1; exact fun z => q1 z.1
    · rw [y1, i64_eq, l1, u1] at q1
      rw [y2, i64_eq, l2, u2] at q2
      exact absurd ⟨q1, q2⟩ (z (ix i) (by omega))
    · rw [y2, i64_eq, l2, u2] at q2; exact fun z => q2 z.2
theorem lg_loop (C : C_X10_laysGaps X) (H : MdR h m A) (V : VA A) (hend : ∀ (h' : Hp) (v1 v2 v3 v4 : Int32), FrW (fun _ _ => False) (lgL m) h h' → v4.toInt = A 0 7 → v1.toInt = (cntG A (A 0 7).toNat : Nat) → v2.toInt = mnI A (A 0 7).toNat → v3.toInt = mxI A (A 0 7).toNat → LGI h' m A (A 0 7).toNat → (∀ j, gl h' (m + 1) j = gl h (m + 1) j) → Wj X 0 0 Q 9 [(0, .ref m), (1, .int v1), (2, .int v2), (3, .int v3), (4, .int v4)] [] h') (d : Nat) : ∀ (h' : Hp) (v1 v2 v3 v4 : Int32), FrW (fun _ _ => False) (lgL m) h h' → 0 ≤ v4.toInt → v4.toInt + d = A 0 7 → v1.toInt = (cntG A (ix v4) : Nat) → v2.toInt = mnI A (ix v4) → v3.toInt = mxI A (ix v4) → LGI h' m A (ix v4) → (∀ j, gl h' (m + 1) j = gl h (m + 1) j) → Wj X 0 0 Q 9 [(0, .ref m), (1, .int v1), (2, .int v2), (3, .int v3), (4, .int v4)] [] h' := by
  have vm := V.marks
  have MM : ∀ h', FrW (fun _ _ => False) (lgL m) h h' → MdR h' m A := fun h' f => H.fr V f (fun _ _ => id) (fun j _ q => by unfold lgL at q; omega)
  induction d with
  | zero =>
    intro h' v1 v2 v3 v4 f h0 hd e1 e2 e3 L hr
    have e : ix v4 = (A 0 7).toNat := by unfold ix; omega
    rw [e] at e1 e2 e3 L
    exact hend h' v1 v2 v3 v4 f (by omega) e1 e2 e3 L hr
  | succ d ih =>
    intro h' v1 v2 v3 v4 f h0 hd e1 e2 e3 L hr
    have H' := MM h' f
    obtain ⟨x1, x2⟩ := ix_succ h0 (by omega)
    have hk := ix_t h0
    have cl := cntG_le A (ix v4)
    refine V_X10_laysGaps_9 C ⟨H'.1, fun q => ?_, fun _ => (ma_laysGap H' V h0 (by omega)).mono (fun w h3 hp => ?_)⟩
    · rw [ix_60, i32_le, H'.marks] at q; omega
    obtain ⟨rfl, u1, u2, fg⟩ := hp
    have fg' : FrW (fun _ _ => False) (lgL m) h' h3 := fg.mono (fun _ _ q => q) (fun b j q => Or.inl q)
    obtain ⟨y1, y2, y3, y4⟩ := ix_2k (v := v4) (k := ix v4) hk.symm (by omega)
    have F3 : St10 h3 m := fg.st10 H'.1
    refine ⟨rfl, F3, y3, y4, ?_⟩
    rw [y1, y2]
    have eg : gl (sl h3 (m + 10) (2 * ix v4) (gl h3 m 33)) m 34 = gl h3 m 34 := by rw [gl_sl, if_neg (by omega)]
    rw [eg]
    generalize e5 : sl (sl h3 (m + 10) (2 * ix v4) (gl h3 m 33)) (m + 10) (2 * ix v4 + 1) (gl h3 m 34) = h5
    have f5 : FrW (fun _ _ => False) (lgL m) h h5 := by rw [← e5]; exact ((f.tr fg').sl (Or.inr (Or.inl rfl))).sl (Or.inr (Or.inl rfl))
    have u15 : (gl h5 m 33).toInt = gaU A (ix v4) := by rw [← e5, gl_sl, if_neg (by omega), gl_sl, if_neg (by omega)]; exact u1
    have u25 : (gl h5 m 34).toInt = gaL A (ix v4) := by rw [← e5, gl_sl, if_neg (by omega), gl_sl, if_neg (by omega)]; exact u2
    have r5 : ∀ j, gl h5 (m + 1) j = gl h (m + 1) j := fun j => by rw [← e5, gl_sl, if_neg (by omega), gl_sl, if_neg (by omega), fg.xl (fun q => by have := q.1; omega)]; exact hr j
    have L5 : LGI h5 m A (ix v4 + 1) := fun i hi => by
      rw [← e5]
      by_cases e : i = ix v4
      · rw [e]
        exact ⟨by rw [gl_sl, if_neg (by omega), gl_sl, if_pos ⟨rfl, rfl⟩]; exact u1, by rw [gl_sl, if_pos ⟨rfl, rfl⟩]; exact u2⟩
      · obtain ⟨l1, l2⟩ := L i (by omega)
        refine ⟨?_, ?_⟩
        · rw [gl_sl, if_neg (by omega), gl_sl, if_neg (by omega), fg.xl (fun q => by have := q.1; omega)]; exact l1
        · rw [gl_sl, if_neg (by omega), gl_sl, if_neg (by omega), fg.xl (fun q => by have := q.1; omega)]; exact l2
    have H5 := MM h5 f5
    clear e5 eg
    have mnb : mnI A (ix v4) ≤ ix v4 := by
      rcases Nat.eq_zero_or_pos (ix v4) with e | e
      · rw [e]; exact Nat.le_refl _
      · have := mnI_lt A e; omega
    have mxb : mxI A (ix v4) ≤ ix v4 := by
      rcases Nat.eq_zero_or_pos (ix v4) with e | e
      · rw [e]; exact Nat.le_refl _
      · have := mxI_lt A e; omega
    obtain ⟨a1, a2, a3, a4⟩ := ix_2k (v := v2) (k := mnI A (ix v4)) e2 (by omega)
    obtain ⟨b1, b2, b3, b4⟩ := ix_2k (v := v3) (k := mxI A (ix v4)) e3 (by omega)
    obtain ⟨m1, m2⟩ := L5 (mnI A (ix v4)) (by omega)
    obtain ⟨n1, n2⟩ := L5 (mxI A (ix v4)) (by omega)
    have fk := ga_f V (k := ix v4) (by omega)
    have fm := ga_f V (k := mnI A (ix v4)) (by omega)
    have fx := ga_f V (k := mxI A (ix v4)) (by omega)
    refine lg58 C (A := A) H5.1 (by omega) hk.symm (fun i hi => L5 i (by omega)) u15 u25 (fun v5 h01 hv5 => ?_) (ix v4) 1 0 (by rw [i0_t]; omega) (by rw [i0_t]; omega) (Or.inr rfl) ⟨fun _ j hj => by unfold ix at hj; rw [i0_t] at hj; simp at hj, fun _ => rfl⟩
    have ec : (v1 + flg v5).toInt = (cntG A (ix v4 + 1) : Nat) := by
      show _ = ((cntG A (ix v4) + (if newG A (ix v4) = true then 1 else 0) : Nat) : Int)
      rcases h01 with rfl | rfl
      · rw [if_neg (fun z => absurd (hv5.mpr z) (by decide)), flg0, iadd_t] <;> rw [i0_t, e1] <;> omega
      · rw [if_pos (hv5.mp rfl), flg1, iadd_t] <;> rw [i1_t, e1] <;> omega
    -- behind the least
    have p165 : ∀ z : Int32, z.toInt = mnI A (ix v4 + 1) → Wj X 0 0 Q 165 [(0, .ref m), (1, .int (v1 + flg v5)), (3, .int v3), (4, .int v4)] [.int z] h5 := by
      intro z hz
      refine V_X10_laysGaps_165 C ⟨H5.1, b3, b4, by rw [b1, n1]; omega, by rw [b2, n2]; omega, by rw [u15]; omega, by rw [u25]; omega, fun q => ih _ _ _ _ _ f5 (by omega) (by omega) (by rw [x1]; exact ec) (by rw [x1]; exact hz) ?_ (by rw [x1]; exact L5) r5, fun q => ih _ _ _ _ _ f5 (by omega) (by omega) (by rw [x1]; exact ec) (by rw [x1]; exact hz) ?_ (by rw [x1]; exact L5) r5⟩
      all_goals rw [blw_0, b1, b2, n1, n2, u15, u25] at q
      · rw [x1]; unfold mxI; rw [if_neg q]; exact e3
      · rw [x1]; unfold mxI; rw [if_pos (Classical.not_not.mp q)]; exact hk.symm
    refine V_X10_laysGaps_58 C ⟨fun _ => ⟨H5.1, a3, a4, by rw [u15]; omega, by rw [u25]; omega, by rw [a1, m1]; omega, by rw [a2, m2]; omega, fun q => p165 v2 ?_, fun q => p165 v4 ?_⟩, fun q => absurd (Int32.le_refl v4) q⟩
    all_goals rw [blw_0, a1, a2, m1, m2, u15, u25] at q
    · unfold mnI; rw [if_neg q]; exact e2
    · unfold mnI; rw [if_pos (Classical.not_not.mp q)]; exact hk.symm
theorem ma_laysGaps (H : MdR h m A) (V : VA A) (h7 : 0 < A 0 7) {R : List Int} (w : RwM h m R) (hl : R.length ≤ 50) : S_X10_laysGaps l D 0 0 [.ref m] h (QI fun y h' => y.toInt = (cntG A (A 0 7).toNat : Nat) ∧ RwM h' m (R ++ gapRow A (A 0 7).toNat) ∧ FrW (lgI m) (lgL m) h h') := Sp.of rfl (Nat.le_of_ble_eq_true rfl) (fun X C _ _ _ _ => V_X10_laysGaps_0 C (by
  have vm := V.marks
  refine lg_loop C H V (fun h1 v1 v2 v3 v4 f1 e4 e1 e2 e3 L hr => ?_) (A 0 7).toNat h 0 0 0 0 FrW.rf (by rw [i0_t]; omega) (by rw [i0_t]; omega) (by rw [ix_0]; rfl) (by rw [ix_0]; rfl) (by rw [ix_0]; rfl) (fun i hi => by rw [ix_0] at hi; omega) (fun _ => rfl)
  have H1 : MdR h1 m A := H.fr V f1 (fun _ _ => id) (fun j _ q => by unfold lgL at q; omega)
  have w1 : RwM h1 m R := by
    unfold RwM at *
    rw [f1.xi id]
    exact ⟨w.1, w.2.1, fun i hi => by rw [hr i]; exact w.2.2 i hi⟩
  have mnb := mnI_lt A (n := (A 0 7).toNat) (by omega)
  have mxb := mxI_lt A (n := (A 0 7).toNat) (by omega)
  obtain ⟨a1, a2, a3, a4⟩ := ix_2k (v := v2) (k := mnI A (A 0 7).toNat) e2 (by omega)
  obtain ⟨b1, b2, b3, b4⟩ := ix_2k (v := v3) (k := mxI A (A 0 7).toNat) e3 (by omega)
  obtain ⟨m1, m2⟩ := L (mnI A (A 0 7).toNat) mnb
  obtain ⟨n1, n2⟩ := L (mxI A (A 0 7).toNat) mxb
  have k10 : ∀ h', FrW (rI m) (rL m) h1 h' → ∀ j, gl h' (m + 10) j = gl h1 (m + 10) j := fun h' f j => f.xl (fun (q : m + 10 = m + 1) => by omega)
  refine V_X10_laysGaps_9 C ⟨H1.1, fun _ => ⟨a3, (ma_enters H1.1 w1 (by omega) (z := gaU A (mnI A (A 0 7).toNat)) (by rw [a1]; exact m1)).mono (fun y h3 hp => ?_)⟩, fun q => ?_⟩
  · obtain ⟨rfl, w3, f3⟩ := hp
    refine ⟨rfl, f3.st10 H1.1, a4, (ma_enters (f3.st10 H1.1) w3 (by simp; omega) (z := gaL A (mnI A (A 0 7).toNat)) (by rw [a2, k10 h3 f3]; exact m2)).mono (fun y h6 hp => ?_)⟩
    obtain ⟨rfl, w6, f6⟩ := hp
    have f16 := f3.tr f6
    refine ⟨rfl, f16.st10 H1.1, b3, (ma_enters (f16.st10 H1.1) w6 (by simp; omega) (z := gaU A (mxI A (A 0 7).toNat)) (by rw [b1, k10 h6 f16]; exact n1)).mono (fun y h9 hp => ?_)⟩
    obtain ⟨rfl, w9, f9⟩ := hp
    have f19 := f16.tr f9
    refine ⟨rfl, f19.st10 H1.1, b4, (ma_enters (f19.st10 H1.1) w9 (by simp; omega) (z := gaL A (mxI A (A 0 7).toNat)) (by rw [b2, k10 h9 f19]; exact n2)).mono (fun y h12 hp => ?_)⟩
    obtain ⟨rfl, w12, f12⟩ := hp
    have f112 := f19.tr f12
    have ew : R ++ [gaU A (mnI A (A 0 7).toNat)] ++ [gaL A (mnI A (A 0 7).toNat)] ++ [gaU A (mxI A (A 0 7).toNat)] ++ [gaL A (mxI A (A 0 7).toNat)] = R ++ gapRow A (A 0 7).toNat := by unfold gapRow; simp
    rw [ew] at w12
    exact ⟨rfl, v1, rfl, e1, w12, (f1.mono (fun _ _ q => absurd q id) (fun _ _ q => q)).tr (f112.mono (fun b j q => q) (fun b j (q : b = m + 1) => Or.inr (Or.inr q)))⟩
  · rw [ix_60, i32_le, H1.marks] at q; omega))
theorem MSt.lg {s : Sv} {h' : Hp} (S : MSt h m s) (f : FrW (lgI m) (lgL m) h h') {L : List Int} (w : RwM h' m L) : MSt h' m (rowS s L) ∧ FrO (inM m) h h' := by
  refine ⟨⟨S.1.fr f (fun j _ q => by have := q.1; omega) (fun q => by have := q.2; omega) (fun j q => by have := q.1; omega) (fun j _ q => by unfold lgL at q; omega), w, S.2.2.fr f (fun q => by have := q.2; omega) (fun j q => by have := q.1; omega)⟩, f.toM (fun b j q => ⟨by have := q.1; omega, by have := q.1; omega⟩) (fun b j q => by unfold lgL at q; exact ⟨by omega, by omega⟩)⟩
theorem ma_gaps {s : Sv} (S : MSt h m s) : S_X10_gaps l D 0 0 [.ref m] h (QI fun y h' => y.toInt = (gapsP s).1 ∧ MSt h' m (gapsP s).2 ∧ FrO (inM m) h h') := Sp.of rfl (Nat.le_of_ble_eq_true rfl) (fun X C _ _ _ _ => V_X10_gaps_0 C (by
  obtain ⟨S1, f1⟩ := S.t0
  have V := S.1.va
  have vm := V.marks
  have e60 := S1.1.md.marks
  unfold gapsP
  refine ⟨S.1.1, fun q => ?_, fun q => ⟨_, rfl, ?_⟩⟩
  all_goals rw [ix_60, i32_eq, e60, i0_t] at q
  · rw [if_neg q]
    have f2 : FrW (lgI m) (lgL m) (si h m 0 0) (si (si h m 0 0) m 1 0) := FrW.rf.si ⟨rfl, rfl⟩
    have H2 : MdR (si (si h m 0 0) m 1 0) m (sA s) := S1.1.md.fr V f2 (fun j _ q => by have := q.1; omega) (fun j _ q => by unfold lgL at q; omega)
    refine (ma_laysGaps H2 V (by omega) (R := []) (RwM.clr 0 rfl) (by decide)).mono (fun y h3 hp => ?_)
    obtain ⟨z, rfl, e, w3, f3⟩ := hp
    obtain ⟨S3, g3⟩ := S1.lg (f2.tr f3) w3
    exact ⟨z, rfl, z, rfl, e, S3, f1.tr g3⟩
  · rw [if_pos q]; exact ⟨rfl, S1, f1⟩))
end LaysGaps
