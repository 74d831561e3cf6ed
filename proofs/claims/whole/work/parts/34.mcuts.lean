-- the reference's acts: marks; a train put in
theorem mpos_eq {A : HV} (V : VA A) {k : Nat} (h1 : (k : Int) ≤ A 0 7) (h2 : ∀ j, j < k → mLs A j) (h3 : (k : Int) < A 0 7 → ¬ mLs A k) : mpos A = k := by
  rcases Nat.lt_trichotomy (mpos A) k with q | q | q
  · have := h2 _ q
    have := mpos_ge V (Nat.le_refl (mpos A)) (by omega)
    unfold mLs at *
    omega
  · exact q
  · have := mpos_lt q
    have := mpos_le V
    exact absurd (mpos_lt q) (h3 (by omega))
theorem ix_pred {i : Int32} (h : 1 ≤ i.toInt) : ix (i + Int32.ofInt (-1)) = ix i - 1 ∧ (i + Int32.ofInt (-1)).toInt = i.toInt - 1 := by
  have b := b32 i
  have e : (i + Int32.ofInt (-1)).toInt = i.toInt - 1 := by rw [iadd_t] <;> rw [ii_m1] <;> omega
  unfold ix
  rw [e]
  exact ⟨by omega, rfl⟩
theorem ix_succ {i : Int32} (h0 : 0 ≤ i.toInt) (h : i.toInt < 2147483647) : ix (i + Int32.ofInt 1) = ix i + 1 ∧ (i + Int32.ofInt 1).toInt = i.toInt + 1 := by
  have e : (i + Int32.ofInt 1).toInt = i.toInt + 1 := by rw [iadd_t] <;> rw [ii_1] <;> omega
  unfold ix
  rw [e]
  exact ⟨by omega, rfl⟩
section Cuts
variable {X : Ctx} {l : Launch} {D : Dt} {h : Hp} {m : Nat} {A : HV} {Q : Pq}
theorem ma_markAt_loop (C : C_X10_markAt X) (H : MdR h m A) (V : VA A) {u w : Int64} (hq : ∀ x : Int32, (x.toInt = -1 ∧ (∀ k : Nat, (k : Int) < A 0 7 → ¬ (A 4 k = u.toInt ∧ A 5 k = w.toInt))) ∨ (∃ k : Nat, x.toInt = k ∧ (k : Int) < A 0 7 ∧ A 4 k = u.toInt ∧ A 5 k = w.toInt) → Q (some (.int x)) h) (d : Nat) : ∀ i : Int32, 0 ≤ i.toInt → i.toInt + d = A 0 7 → (∀ k : Nat, (k : Int) < i.toInt → ¬ (A 4 k = u.toInt ∧ A 5 k = w.toInt)) → Wj X 0 0 Q 3 [(0, .ref m), (1, .long u), (3, .long w), (5, .int i)] [] h := by
  have e60 := H.marks
  have v7 := V.marks
  induction d with
  | zero =>
    intro i hi hd hall
    refine V_X10_markAt_3 C ⟨H.1, fun _ => hq _ (Or.inl ⟨rfl, fun k hk => hall k (by omega)⟩), fun q => ?_⟩
    rw [ix_60, i32_le, e60] at q; omega
  | succ d ih =>
    intro i hi hd hall
    have hi1 : (i + Int32.ofInt 1).toInt = i.toInt + 1 := by rw [iadd_t] <;> rw [ii_1] <;> omega
    have hk := ix_t hi
    obtain ⟨x1, x2, x3, x4⟩ := ix_mk (v := i) (k := ix i) hk.symm (by omega)
    obtain ⟨m1, m2⟩ := H.mark (k := ix i) (by omega)
    have next : ¬ (A 4 (ix i) = u.toInt ∧ A 5 (ix i) = w.toInt) → Wj X 0 0 Q 3 [(0, .ref m), (1, .long u), (3, .long w), (5, .int (i + Int32.ofInt 1))] [] h := fun hn => ih _ (by omega) (by omega) (fun k hk2 => by
      by_cases e : k = ix i
      · rw [e]; exact hn
      · exact hall k (by omega))
    refine V_X10_markAt_3 C ⟨H.1, fun q => ?_, fun _ => ⟨x3, fun q => next ?_, fun q => ⟨x4, fun q2 => next ?_, fun q2 => hq _ (Or.inr ⟨ix i, hk.symm, by omega, ?_, ?_⟩)⟩⟩⟩
    · rw [ix_60, i32_le, e60] at q; omega
    · rw [x1, i64_eq, m1] at q; exact fun z => q z.1
    · rw [x2, i64_eq, m2] at q2; exact fun z => q2 z.2
    · rw [x1, i64_eq, m1] at q; exact q
    · rw [x2, i64_eq, m2] at q2; exact q2
theorem ma_markAt (H : MdR h m A) (V : VA A) {u w : Int64} : S_X10_markAt l D 0 0 [.ref m, .long u, .long w] h (QI fun x h' => h' = h ∧ ((x.toInt = -1 ∧ (∀ k : Nat, (k : Int) < A 0 7 → ¬ (A 4 k = u.toInt ∧ A 5 k = w.toInt))) ∨ (∃ k : Nat, x.toInt = k ∧ (k : Int) < A 0 7 ∧ A 4 k = u.toInt ∧ A 5 k = w.toInt))) := Sp.of rfl (Nat.le_of_ble_eq_true rfl) (fun X C _ _ _ _ => V_X10_markAt_0 C (by
  have v7 := V.marks
  exact ma_markAt_loop C H V (fun x hx => ⟨x, rfl, rfl, hx⟩) (A 0 7).toNat 0 (by rw [i0_t]; omega) (by rw [i0_t]; omega) (fun k hk => by rw [i0_t] at hk; omega)))
/-- the marks behind k moved on by one -/
def MSh (h h' : Hp) (m n k : Nat) : Prop := FrA m h h' ∧ (∀ c j, gi h' c j = gi h c j) ∧ (∀ j, j < 2 ∨ 122 ≤ j → gl h' (m + 4) j = gl h (m + 4) j) ∧ ∀ j, j ≤ n → (gl h' (m + 4) (2 + 2 * j) = if k < j then gl h (m + 4) (2 + 2 * (j - 1)) else gl h (m + 4) (2 + 2 * j)) ∧ (gl h' (m + 4) (2 + 2 * j + 1) = if k < j then gl h (m + 4) (2 + 2 * (j - 1) + 1) else gl h (m + 4) (2 + 2 * j + 1))
theorem ma_cuts_loop (C : C_X10_cutsOne X) (H : MdR h m A) (V : VA A) (hlt : A 0 7 < 60) (hend : ∀ (i : Int32) (h' : Hp), 0 ≤ i.toInt → i.toInt ≤ A 0 7 → MSh h h' m (A 0 7).toNat (ix i) → (∀ j : Nat, (j : Int) < i.toInt → A 4 j * A 0 11 ≤ A 0 10 * A 5 j) → (∀ j : Nat, i.toInt ≤ j → (j : Int) < A 0 7 → A 0 10 * A 5 j < A 4 j * A 0 11) → Wj X 0 0 Q 117 [(0, .ref m), (1, .int i)] [] h') (d : Nat) : ∀ (i : Int32) (h' : Hp), i.toInt = d → i.toInt ≤ A 0 7 → MSh h h' m (A 0 7).toNat (ix i) → (∀ j : Nat, i.toInt ≤ j → (j : Int) < A 0 7 → A 0 10 * A 5 j < A 4 j * A 0 11) → Wj X 0 0 Q 39 [(0, .ref m), (1, .int i)] [] h' := by
  have pl := V.place
  induction d with
  | zero =>
    intro i h' hd hi hs hall
    refine V_X10_cutsOne_39 C ⟨fun _ => hend i h' (by omega) hi hs (fun j hj => by omega) hall, fun q => ?_⟩
    rw [i32_le, i0_t] at q; omega
  | succ d ih =>
    intro i h' hd hi hs hall
    have hk := ix_t (i := i) (by omega)
    obtain ⟨hx2, him⟩ := ix_pred (i := i) (by omega)
    have hi1 : (i - 1).toInt = i.toInt - 1 := by rw [isub_t] <;> rw [i1_t] <;> omega
    obtain ⟨x1, x2, x3, x4⟩ := ix_mk (v := i - 1) (k := ix i - 1) (by omega) (by omega)
    obtain ⟨y1, y2, y3, y4⟩ := ix_mk (v := i) (k := ix i) hk.symm (by omega)
    obtain ⟨s1, s2, s3, s4⟩ := id hs
    obtain ⟨m1, m2⟩ := H.mark (k := ix i - 1) (by omega)
    obtain ⟨r1, r2⟩ := s4 (ix i - 1) (by omega)
    rw [if_neg (by omega)] at r1 r2
    have mk := V.mk (k := ix i - 1) (by omega)
    have eP0 : (gl h' (m + 4) (ix 0)).toInt = A 0 10 := by rw [ix_0, s3 0 (by omega)]; exact H.up
    have eP1 : (gl h' (m + 4) (ix 1)).toInt = A 0 11 := by rw [ix_1, s3 1 (by omega)]; exact H.low
    have b1 := mul_bd (a := A 4 (ix i - 1)) (b := A 0 11) (M := 1000000000) (K := 1000000000) (by omega) (by omega) (by omega) (by omega)
    have b2 := mul_bd (a := A 0 10) (b := A 5 (ix i - 1)) (M := 1000000000) (K := 1000000000) (by omega) (by omega) (by omega) (by omega)
    have t1 : (gl h' (m + 4) (ix (2 + 2 * (i - 1))) * gl h' (m + 4) (ix 1)).toInt = A 4 (ix i - 1) * A 0 11 := by rw [x1, r1, lmul_t] <;> rw [m1, eP1] <;> omega
    have t2 : (gl h' (m + 4) (ix 0) * gl h' (m + 4) (ix (2 + 2 * (i - 1) + 1))).toInt = A 0 10 * A 5 (ix i - 1) := by rw [x2, r2, lmul_t] <;> rw [m2, eP0] <;> omega
    have srt : ∀ j : Nat, j < ix i - 1 → A 4 (ix i - 1) * A 0 11 ≤ A 0 10 * A 5 (ix i - 1) → A 4 j * A 0 11 ≤ A 0 10 * A 5 j := by
      intro j hj hle
      have hs := V.srt (i := j) (j := ix i - 1) hj (by omega)
      have mj := V.mk (k := j) (by omega)
      rcases Int.lt_or_le (A 0 10 * A 5 j) (A 4 j * A 0 11) with z | z
      · exact absurd (lt_tr (by omega) (by omega) (by omega) z hs) (by omega)
      · exact z
    refine V_X10_cutsOne_39 C ⟨fun q => ?_, fun _ => ⟨s1.st10 H.1, x3, x4, fun q => hend i h' (by omega) hi hs (fun j hj => ?_) hall, fun q => ⟨y3, y4, ?_⟩⟩⟩
    · rw [i32_le, i0_t] at q; omega
    · rw [i64_le, t1, t2] at q
      by_cases e : j = ix i - 1
      · rw [e]; exact q
      · exact srt j (by omega) q
    · rw [i64_le, t1, t2] at q
      refine ih _ _ (by omega) (by omega) ?_ (fun j h1 h2 => ?_)
      · rw [hx2, y1, y2, x1, x2]
        have ne1 : ¬ (2 + 2 * (ix i - 1) + 1 = 2 + 2 * ix i) := by omega
        have eg : gl (sl h' (m + 4) (2 + 2 * ix i) (gl h' (m + 4) (2 + 2 * (ix i - 1)))) (m + 4) (2 + 2 * (ix i - 1) + 1) = gl h' (m + 4) (2 + 2 * (ix i - 1) + 1) := by rw [gl_sl, if_neg (fun z => ne1 z.2)]
        rw [eg]
        refine ⟨(s1.sl (Or.inr ⟨rfl, by omega⟩)).sl (Or.inr ⟨rfl, by omega⟩), fun c j => s2 c j, fun j hj => ?_, fun j hj => ⟨?_, ?_⟩⟩
        · rw [gl_sl, if_neg (by omega), gl_sl, if_neg (by omega)]; exact s3 j hj
        · rw [gl_sl, if_neg (by omega), gl_sl]
          by_cases e : j = ix i
          · rw [if_pos ⟨rfl, by omega⟩, if_pos (by omega), r1, e]
          · rw [if_neg (by omega), (s4 j hj).1]
            by_cases e2 : ix i < j
            · rw [if_pos e2, if_pos (by omega)]
            · rw [if_neg e2, if_neg (by omega)]
        · rw [gl_sl]
          by_cases e : j = ix i
          · rw [if_pos ⟨rfl, by omega⟩, if_pos (by omega), r2, e]
          · rw [if_neg (by omega), gl_sl, if_neg (by omega), (s4 j hj).2]
            by_cases e2 : ix i < j
            · rw [if_pos e2, if_pos (by omega)]
            · rw [if_neg e2, if_neg (by omega)]
      · by_cases e : j = ix i - 1
        · rw [e]; omega
        · exact hall j (by omega) h2
theorem ma_cutsOne (H : MdR h m A) (V : VA A) : S_X10_cutsOne l D 0 0 [.ref m] h (QI fun x h' => x.toInt = (scribeP A).1 ∧ MdR h' m (scribeP A).2 ∧ FrA m h h') := Sp.of rfl (Nat.le_of_ble_eq_true rfl) (fun X C _ _ _ _ => V_X10_cutsOne_0 C (by
  have e60 := H.marks
  have v7 := V.marks
  have pl := V.place
  refine ⟨H.1, (ma_markAt H V).mono (fun v h1 hp => ?_)⟩
  obtain ⟨x, rfl, eh, hx⟩ := hp
  subst h1
  rw [ix_0, ix_1, H.up, H.low] at hx
  rw [ix_60]
  have key : (∃ k : Nat, (k : Int) < A 0 7 ∧ A 4 k = A 0 10 ∧ A 5 k = A 0 11) ↔ ((mpos A : Int) < A 0 7 ∧ A 4 (mpos A) * A 0 11 = A 0 10 * A 5 (mpos A)) := by
    constructor
    · rintro ⟨k, k1, k2, k3⟩
      have : mpos A = k := by
        refine mpos_eq V (by omega) (fun j hj => ?_) (fun _ z => ?_)
        · have := V.srt hj k1
          rw [k2, k3] at this
          exact this
        · unfold mLs at z
          rw [k2, k3] at z; omega
      rw [this, k2, k3]
      exact ⟨k1, rfl⟩
    · rintro ⟨h1, h2⟩
      have mk := V.mk h1
      exact ⟨mpos A, h1, cop_unique mk.2.2.2 pl.2.2.2 (by omega) (by omega) h2⟩
  refine ⟨x, rfl, fun q => ⟨H.1, fun q2 => ?_, fun q2 => ⟨_, rfl, ?_⟩⟩, fun q => ⟨_, rfl, ?_⟩⟩
  all_goals rw [i32_lt, i0_t] at q
  · have hn : ∀ k : Nat, (k : Int) < A 0 7 → ¬ (A 4 k = A 0 10 ∧ A 5 k = A 0 11) := by
      rcases hx with ⟨-, hx⟩ | ⟨k, hx, -⟩
      · exact hx
      · omega
    rw [i32_eq, e60, i60_tt] at q2
    have nk : ¬ ((mpos A : Int) < A 0 7 ∧ A 4 (mpos A) * A 0 11 = A 0 10 * A 5 (mpos A)) := fun z => by
      obtain ⟨k, k1, k2⟩ := key.mpr z
      exact hn k k1 k2
    have hlt : A 0 7 < 60 := by omega
    refine ma_cuts_loop C H V hlt (fun i h' i0 i1 hs hlo hhi => ?_) (A 0 7).toNat _ _ (by omega) (by omega) ⟨FrW.rf, fun _ _ => rfl, fun _ _ => rfl, fun j hj => ?_⟩ (fun j j1 j2 => by omega)
    · obtain ⟨s1, s2, s3, s4⟩ := hs
      have hk := ix_t i0
      obtain ⟨y1, y2, y3, y4⟩ := ix_mk (v := i) (k := ix i) hk.symm (by omega)
      have em : mpos A = ix i := by
        refine mpos_eq V (by omega) (fun j hj => ?_) (fun hh z => ?_)
        · have h1 := hlo j (by omega)
          have h2 := hn j (by omega)
          have mk := V.mk (k := j) (by omega)
          unfold mLs
          rcases Int.lt_or_eq_of_le h1 with q | q
          · exact q
          · exact absurd (cop_unique mk.2.2.2 pl.2.2.2 (by omega) (by omega) q) h2
        · have := hhi (ix i) (by omega) hh
          unfold mLs at z; omega
      refine V_X10_cutsOne_117 C ⟨s1.st10 H.1, y3, y4, _, rfl, ?_⟩
      rw [y1, y2, ix_0, ix_1, ix_60]
      have eg : gl (sl h' (m + 4) (2 + 2 * ix i) (gl h' (m + 4) 0)) (m + 4) 1 = gl h' (m + 4) 1 := by rw [gl_sl, if_neg (by omega)]
      rw [eg]
      have e6 : (gi h' (m + 3) 60 + 1).toInt = A 0 7 + 1 := by
        rw [s2, iadd_t] <;> rw [i1_t, e60] <;> omega
      unfold scribeP
      rw [if_neg nk, if_pos hlt, em]
      have f : FrA m h (si (sl (sl h' (m + 4) (2 + 2 * ix i) (gl h' (m + 4) 0)) (m + 4) (2 + 2 * ix i + 1) (gl h' (m + 4) 1)) (m + 3) 60 (gi h' (m + 3) 60 + 1)) := ((s1.sl (Or.inr ⟨rfl, by omega⟩)).sl (Or.inr ⟨rfl, by omega⟩)).si (Or.inr (Or.inl ⟨rfl, by omega⟩))
      refine ⟨by rw [gi_si, if_pos ⟨rfl, rfl⟩]; exact e6, ⟨f.st10 H.1, H.2.mach V (fun j hj => ?_) (fun j hj => ?_) (fun j k h1 h2 => ?_) ?_ ?_ ?_ ?_ ?_ (fun j hj => ?_) (fun q => ?_)⟩, f⟩
      · unfold mI; rw [gi_si, if_neg (by omega), gi_sl, gi_sl, s2]
      · exact insV_0 A _ j (by omega)
      · dsimp only
        unfold insV
        rw [if_neg (by omega), if_neg (by omega), if_neg (by omega)]
      · unfold mI; rw [gi_si, if_neg (by omega), gi_sl, gi_sl, s2]; exact H.circ
      · unfold mI; rw [gi_si, if_neg (by omega), gi_sl, gi_sl, s2]; exact H.many
      · unfold mI; rw [gi_si, if_pos ⟨rfl, rfl⟩, e6]; exact (insV_7 A (ix i)).symm
      · unfold mL; rw [gl_si, gl_sl, if_neg (by omega), gl_sl, if_neg (by omega), s3 _ (by omega)]; exact H.up
      · unfold mL; rw [gl_si, gl_sl, if_neg (by omega), gl_sl, if_neg (by omega), s3 _ (by omega)]; exact H.low
      · dsimp only at hj ⊢
        rw [insV_7] at hj
        rw [insV_4, insV_5]
        unfold mL
        have c1 : (2 + 2 * j) + 122 * 0 = 2 + 2 * j := rfl
        have c2 : (2 + 2 * j + 1) + 122 * 0 = 2 + 2 * j + 1 := rfl
        obtain ⟨r1, r2⟩ := s4 j (by omega)
        rw [c1, c2, gl_si, gl_si]
        constructor
        · rw [gl_sl, if_neg (by omega), gl_sl]
          by_cases j1 : j < ix i
          · rw [if_neg (by omega), r1, if_neg (by omega), if_pos j1]; exact (H.mark (by omega)).1
          · by_cases j2 : j = ix i
            · rw [if_pos ⟨rfl, by omega⟩, if_neg j1, if_pos j2, s3 _ (by omega)]; exact H.up
            · rw [if_neg (by omega), r1, if_pos (by omega), if_neg j1, if_neg j2]; exact (H.mark (by omega)).1
        · rw [gl_sl]
          by_cases j1 : j < ix i
          · rw [if_neg (by omega), gl_sl, if_neg (by omega), r2, if_neg (by omega), if_pos j1]; exact (H.mark (by omega)).2
          · by_cases j2 : j = ix i
            · rw [if_pos ⟨rfl, by omega⟩, if_neg j1, if_pos j2, s3 _ (by omega)]; exact H.low
            · rw [if_neg (by omega), gl_sl, if_neg (by omega), r2, if_pos (by omega), if_neg j1, if_neg j2]; exact (H.mark (by omega)).2
      · have q6 : A 0 6 ≠ 0 := by rw [← insV_0 A (ix i) 6 (by omega)]; exact q
        refine (H.train q6).ext (fun j h1 h2 => ?_) (insV_0 A (ix i) 4 (by omega)) (insV_0 A (ix i) 6 (by omega)) (insV_0 A (ix i) 8 (by omega)) (insV_0 A (ix i) 9 (by omega)) (insV_0 A (ix i) 12 (by omega)) (fun k => ?_)
        · unfold mI; rw [gi_si, if_neg (by omega), gi_sl, gi_sl, s2]
        · dsimp only
          unfold insV
          rw [if_neg (by omega), if_neg (by omega), if_neg (by omega)]
    · have : ix (gi h (m + 3) 60) = (A 0 7).toNat := by unfold ix; rw [e60]
      rw [this, if_neg (by omega), if_neg (by omega)]
      exact ⟨rfl, rfl⟩
  · rw [i32_eq, e60, i60_tt] at q2
    have hn : ∀ k : Nat, (k : Int) < A 0 7 → ¬ (A 4 k = A 0 10 ∧ A 5 k = A 0 11) := by
      rcases hx with ⟨-, hx⟩ | ⟨k, hx, -⟩
      · exact hx
      · omega
    unfold scribeP
    rw [if_neg (fun z => by
      obtain ⟨k, k1, k2⟩ := key.mpr z
      exact hn k k1 k2), if_neg (by omega)]
    exact ⟨rfl, H, FrW.rf⟩
  · unfold scribeP
    rcases hx with ⟨hx, -⟩ | ⟨k, hx, k1, k2⟩
    · omega
    · rw [if_pos (key.mp ⟨k, k1, k2⟩)]
      exact ⟨rfl, H, FrW.rf⟩))
end Cuts
