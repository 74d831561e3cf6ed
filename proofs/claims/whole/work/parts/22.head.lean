-- a head's value in whole numbers: A 0 i numbers (0 worm 1 pitch 2 plates 3 circles 4 gears 5 circle in use 6 wheels 7 marks 8, 9 ratio 10, 11 place 12 side), A 1 holes, A 2 plates' numbers, A 3 teeth, A 4, A 5 marks
abbrev HV : Type := Nat → Nat → Int
def uv (A : HV) (i j : Nat) (v : Int) : HV := up2 A i j v
theorem uv_eq (A : HV) (i j : Nat) (v : Int) (a b : Nat) : uv A i j v a b = if a = i ∧ b = j then v else A a b := rfl
/-- only cells of S have other numbers -/
def FrO (S : Nat → Prop) (h h' : Hp) : Prop := hn h' = hn h ∧ kd h' = kd h ∧ ln h' = ln h ∧ gr h' = gr h ∧ ∀ b, ¬ S b → ∀ j, gi h' b j = gi h b j ∧ gl h' b j = gl h b j
theorem FrO.rf {S : Nat → Prop} {h : Hp} : FrO S h h := ⟨rfl, rfl, rfl, rfl, fun _ _ _ => ⟨rfl, rfl⟩⟩
theorem FrO.tr {S : Nat → Prop} {h h1 h2 : Hp} (f : FrO S h h1) (g : FrO S h1 h2) : FrO S h h2 := by
  obtain ⟨f1, f2, f3, f4, f5⟩ := f
  obtain ⟨g1, g2, g3, g4, g5⟩ := g
  exact ⟨g1.trans f1, g2.trans f2, g3.trans f3, g4.trans f4, fun b hb j => ⟨(g5 b hb j).1.trans (f5 b hb j).1, (g5 b hb j).2.trans (f5 b hb j).2⟩⟩
theorem FrO.mono {S T : Nat → Prop} {h h' : Hp} (f : FrO S h h') (st : ∀ b, S b → T b) : FrO T h h' := ⟨f.1, f.2.1, f.2.2.1, f.2.2.2.1, fun b hb j => f.2.2.2.2 b (fun q => hb (st b q)) j⟩
theorem FrO.si {S : Nat → Prop} {h h' : Hp} (f : FrO S h h') {a k : Nat} {v : Int32} (ha : S a) : FrO S h (si h' a k v) := ⟨f.1, f.2.1, f.2.2.1, f.2.2.2.1, fun b hb j => ⟨(by have hne : b ≠ a := fun e => hb (by rw [e]; exact ha); rw [gi_si]; simp only [hne, false_and, if_false]; exact (f.2.2.2.2 b hb j).1), (f.2.2.2.2 b hb j).2⟩⟩
theorem FrO.sl {S : Nat → Prop} {h h' : Hp} (f : FrO S h h') {a k : Nat} {v : Int64} (ha : S a) : FrO S h (sl h' a k v) := ⟨f.1, f.2.1, f.2.2.1, f.2.2.2.1, fun b hb j => ⟨(f.2.2.2.2 b hb j).1, (by have hne : b ≠ a := fun e => hb (by rw [e]; exact ha); rw [gl_sl]; simp only [hne, false_and, if_false]; exact (f.2.2.2.2 b hb j).2)⟩⟩
theorem FrO.siA {S : Nat → Prop} {h h' : Hp} (f : FrO S h h') {a : Nat} {v : Nat → Int32} (ha : S a) : FrO S h (siA h' a v) := ⟨f.1, f.2.1, f.2.2.1, f.2.2.2.1, fun b hb j => ⟨(by have hne : b ≠ a := fun e => hb (by rw [e]; exact ha); rw [gi_siA]; simp only [hne, if_false]; exact (f.2.2.2.2 b hb j).1), (f.2.2.2.2 b hb j).2⟩⟩
theorem FrO.slA {S : Nat → Prop} {h h' : Hp} (f : FrO S h h') {a : Nat} {v : Nat → Int64} (ha : S a) : FrO S h (slA h' a v) := ⟨f.1, f.2.1, f.2.2.1, f.2.2.2.1, fun b hb j => ⟨(f.2.2.2.2 b hb j).1, (by have hne : b ≠ a := fun e => hb (by rw [e]; exact ha); rw [gl_slA]; simp only [hne, if_false]; exact (f.2.2.2.2 b hb j).2)⟩⟩
theorem FrO.fpt {S : Nat → Prop} {h h' : Hp} (f : FrO S h h') {a : Nat} {u w : Int64} (ha : S a) : FrO S h (fpt h' a u w) := (f.sl ha).sl ha
theorem FrO.fcp {S : Nat → Prop} {h h' : Hp} (f : FrO S h h') {a b : Nat} (ha : S a) : FrO S h (fcp h' a b) := (f.sl ha).sl ha
def inH (a : Nat) : Nat → Prop := fun b => a ≤ b ∧ b < a + 9
def HdR (h : Hp) (a : Nat) (A : HV) : Prop :=
  St4 h a ∧ (∀ i, i < 8 → (gi h a i).toInt = A 0 i) ∧ (gi h a 16).toInt = A 0 12 ∧ (gl h (a + 1) 0).toInt = A 0 8 ∧ (gl h (a + 1) 1).toInt = A 0 9 ∧ (gl h (a + 2) 0).toInt = A 0 10 ∧ (gl h (a + 2) 1).toInt = A 0 11 ∧
  (∀ k : Nat, (k : Int) < A 0 3 → (gi h (a + 4) k).toInt = A 1 k ∧ (gi h (a + 5) k).toInt = A 2 k) ∧ (∀ k : Nat, (k : Int) < A 0 4 → (gi h (a + 6) k).toInt = A 3 k) ∧ ∀ k : Nat, (k : Int) < A 0 7 → (gl h (a + 7) k).toInt = A 4 k ∧ (gl h (a + 8) k).toInt = A 5 k
theorem St4.fr {S : Nat → Prop} {h h' : Hp} {a : Nat} (F : St4 h a) (f : FrO S h h') : St4 h' a := St4_same F f.2.1 f.2.2.1 f.2.2.2.1
theorem HdR.fr {S : Nat → Prop} {h h' : Hp} {a : Nat} {A : HV} (H : HdR h a A) (f : FrO S h h') (hs : ∀ b, inH a b → ¬ S b) : HdR h' a A := by
  obtain ⟨H0, H1, H2, H3, H4, H5, H6, H7, H8, H9⟩ := H
  have g : ∀ b, a ≤ b → b < a + 9 → ∀ j, gi h' b j = gi h b j ∧ gl h' b j = gl h b j := fun b h1 h2 j => f.2.2.2.2 b (hs b ⟨h1, h2⟩) j
  refine ⟨H0.fr f, fun i hi => ?_, ?_, ?_, ?_, ?_, ?_, fun k hk => ⟨?_, ?_⟩, fun k hk => ?_, fun k hk => ⟨?_, ?_⟩⟩
  · rw [(g a (by omega) (by omega) i).1]; exact H1 i hi
  · rw [(g a (by omega) (by omega) _).1]; exact H2
  · rw [(g (a + 1) (by omega) (by omega) _).2]; exact H3
  · rw [(g (a + 1) (by omega) (by omega) _).2]; exact H4
  · rw [(g (a + 2) (by omega) (by omega) _).2]; exact H5
  · rw [(g (a + 2) (by omega) (by omega) _).2]; exact H6
  · rw [(g (a + 4) (by omega) (by omega) _).1]; exact (H7 k hk).1
  · rw [(g (a + 5) (by omega) (by omega) _).1]; exact (H7 k hk).2
  · rw [(g (a + 6) (by omega) (by omega) _).1]; exact H8 k hk
  · rw [(g (a + 7) (by omega) (by omega) _).2]; exact (H9 k hk).1
  · rw [(g (a + 8) (by omega) (by omega) _).2]; exact (H9 k hk).2
section HdUp
variable {h : Hp} {a : Nat} {A : HV}
theorem HdR.seti (H : HdR h a A) {i : Nat} (hi : i < 8) {v : Int32} (h3 : i = 3 → v.toInt ≤ A 0 3) (h4 : i = 4 → v.toInt ≤ A 0 4) (h7 : i = 7 → v.toInt ≤ A 0 7) : HdR (si h a i v) a (uv A 0 i v.toInt) := by
  obtain ⟨H0, H1, H2, H3, H4, H5, H6, H7, H8, H9⟩ := H
  have c : ∀ j, (j = i → v.toInt ≤ A 0 j) → uv A 0 i v.toInt 0 j ≤ A 0 j := by
    intro j hj
    rw [uv_eq]
    by_cases e : j = i
    · rw [if_pos ⟨rfl, e⟩]; exact hj e
    · rw [if_neg (fun q => e q.2)]; exact Int.le_refl _
  refine ⟨H0, fun j hj => ?_, ?_, ?_, ?_, ?_, ?_, fun k hk => ?_, fun k hk => ?_, fun k hk => ?_⟩
  · rw [gi_si, uv_eq]
    by_cases e : j = i
    · rw [if_pos ⟨rfl, e⟩, if_pos ⟨rfl, e⟩]
    · rw [if_neg (fun q => e q.2), if_neg (fun q => e q.2)]; exact H1 j hj
  · rw [gi_si, if_neg (fun q => by have := q.2; omega), uv_eq, if_neg (fun q => by have := q.2; omega)]; exact H2
  · rw [gl_si, uv_eq, if_neg (fun q => by have := q.2; omega)]; exact H3
  · rw [gl_si, uv_eq, if_neg (fun q => by have := q.2; omega)]; exact H4
  · rw [gl_si, uv_eq, if_neg (fun q => by have := q.2; omega)]; exact H5
  · rw [gl_si, uv_eq, if_neg (fun q => by have := q.2; omega)]; exact H6
  · have := c 3 (fun e => h3 e.symm)
    rw [gi_si, if_neg (fun q => by have := q.1; omega), gi_si, if_neg (fun q => by have := q.1; omega), uv_eq, if_neg (fun q => by cases q.1), uv_eq, if_neg (fun q => by cases q.1)]
    exact H7 k (by omega)
  · have := c 4 (fun e => h4 e.symm)
    rw [gi_si, if_neg (fun q => by have := q.1; omega), uv_eq, if_neg (fun q => by cases q.1)]
    exact H8 k (by omega)
  · have := c 7 (fun e => h7 e.symm)
    rw [gl_si, gl_si, uv_eq, if_neg (fun q => by cases q.1), uv_eq, if_neg (fun q => by cases q.1)]
    exact H9 k (by omega)
theorem HdR.set16 (H : HdR h a A) {v : Int32} : HdR (si h a 16 v) a (uv A 0 12 v.toInt) := by
  obtain ⟨H0, H1, H2, H3, H4, H5, H6, H7, H8, H9⟩ := H
  refine ⟨H0, fun j hj => ?_, ?_, H3, H4, H5, H6, fun k hk => ?_, fun k hk => ?_, fun k hk => ?_⟩
  · rw [gi_si, if_neg (fun q => by have := q.2; omega), uv_eq, if_neg (fun q => by have := q.2; omega)]; exact H1 j hj
  · rw [gi_si, if_pos ⟨rfl, rfl⟩, uv_eq, if_pos ⟨rfl, rfl⟩]
  · rw [gi_si, if_neg (fun q => by have := q.1; omega), gi_si, if_neg (fun q => by have := q.1; omega)]
    exact H7 k hk
  · rw [gi_si, if_neg (fun q => by have := q.1; omega)]
    exact H8 k hk
  · exact H9 k hk
theorem HdR.setr (H : HdR h a A) {u w : Int64} : HdR (sl (sl h (a + 1) 0 u) (a + 1) 1 w) a (uv (uv A 0 8 u.toInt) 0 9 w.toInt) := by
  obtain ⟨H0, H1, H2, H3, H4, H5, H6, H7, H8, H9⟩ := H
  refine ⟨H0, fun j hj => ?_, H2, ?_, ?_, ?_, ?_, fun k hk => H7 k hk, fun k hk => H8 k hk, fun k hk => ?_⟩
  · rw [uv_eq, if_neg (fun q => by have := q.2; omega), uv_eq, if_neg (fun q => by have := q.2; omega)]; exact H1 j hj
  · rw [gl_sl, if_neg (fun q => by cases q.2), gl_sl, if_pos ⟨rfl, rfl⟩, uv_eq, if_neg (fun q => by cases q.2), uv_eq, if_pos ⟨rfl, rfl⟩]
  · rw [gl_sl, if_pos ⟨rfl, rfl⟩, uv_eq, if_pos ⟨rfl, rfl⟩]
  · rw [gl_sl, if_neg (fun q => by have := q.1; omega), gl_sl, if_neg (fun q => by have := q.1; omega)]; exact H5
  · rw [gl_sl, if_neg (fun q => by have := q.1; omega), gl_sl, if_neg (fun q => by have := q.1; omega)]; exact H6
  · rw [gl_sl, if_neg (fun q => by have := q.1; omega), gl_sl, if_neg (fun q => by have := q.1; omega), gl_sl, if_neg (fun q => by have := q.1; omega), gl_sl, if_neg (fun q => by have := q.1; omega)]; exact H9 k hk
theorem HdR.setp (H : HdR h a A) {u w : Int64} : HdR (sl (sl h (a + 2) 0 u) (a + 2) 1 w) a (uv (uv A 0 10 u.toInt) 0 11 w.toInt) := by
  obtain ⟨H0, H1, H2, H3, H4, H5, H6, H7, H8, H9⟩ := H
  refine ⟨H0, fun j hj => ?_, H2, ?_, ?_, ?_, ?_, fun k hk => H7 k hk, fun k hk => H8 k hk, fun k hk => ?_⟩
  · rw [uv_eq, if_neg (fun q => by have := q.2; omega), uv_eq, if_neg (fun q => by have := q.2; omega)]; exact H1 j hj
  · rw [gl_sl, if_neg (fun q => by have := q.1; omega), gl_sl, if_neg (fun q => by have := q.1; omega)]; exact H3
  · rw [gl_sl, if_neg (fun q => by have := q.1; omega), gl_sl, if_neg (fun q => by have := q.1; omega)]; exact H4
  · rw [gl_sl, if_neg (fun q => by cases q.2), gl_sl, if_pos ⟨rfl, rfl⟩, uv_eq, if_neg (fun q => by cases q.2), uv_eq, if_pos ⟨rfl, rfl⟩]
  · rw [gl_sl, if_pos ⟨rfl, rfl⟩, uv_eq, if_pos ⟨rfl, rfl⟩]
  · rw [gl_sl, if_neg (fun q => by have := q.1; omega), gl_sl, if_neg (fun q => by have := q.1; omega), gl_sl, if_neg (fun q => by have := q.1; omega), gl_sl, if_neg (fun q => by have := q.1; omega)]; exact H9 k hk
/-- the scratch fraction is nobody's -/
theorem HdR.setn (H : HdR h a A) {u w : Int64} : HdR (sl (sl h (a + 3) 0 u) (a + 3) 1 w) a A := by
  obtain ⟨H0, H1, H2, H3, H4, H5, H6, H7, H8, H9⟩ := H
  refine ⟨H0, H1, H2, ?_, ?_, ?_, ?_, H7, H8, fun k hk => ?_⟩
  · rw [gl_sl, if_neg (fun q => by have := q.1; omega), gl_sl, if_neg (fun q => by have := q.1; omega)]; exact H3
  · rw [gl_sl, if_neg (fun q => by have := q.1; omega), gl_sl, if_neg (fun q => by have := q.1; omega)]; exact H4
  · rw [gl_sl, if_neg (fun q => by have := q.1; omega), gl_sl, if_neg (fun q => by have := q.1; omega)]; exact H5
  · rw [gl_sl, if_neg (fun q => by have := q.1; omega), gl_sl, if_neg (fun q => by have := q.1; omega)]; exact H6
  · rw [gl_sl, if_neg (fun q => by have := q.1; omega), gl_sl, if_neg (fun q => by have := q.1; omega), gl_sl, if_neg (fun q => by have := q.1; omega), gl_sl, if_neg (fun q => by have := q.1; omega)]; exact H9 k hk
theorem fpt01 (h : Hp) (a : Nat) : fpt h a 0 1 = sl (sl h a 0 0) a 1 1 := by
  have e1 : (0 : Int64) / cm 0 1 = 0 := by decide
  have e2 : (1 : Int64) / cm 0 1 = 1 := by decide
  unfold fpt
  rw [e1, e2]
end HdUp
-- what the small acts do to a head
def chooseP (A : HV) (k : Int) : Int × HV := if 0 ≤ k ∧ k < A 0 3 then (if k = A 0 5 then (-2, A) else (A 0 5, uv A 0 5 k)) else (-1, A)
def takeOutV (A : HV) : HV := uv (uv (uv (uv A 0 6 0) 0 8 0) 0 9 1) 0 12 1
def takeOutP (A : HV) : Int × HV := if A 0 6 = 0 then (-2, A) else (A 0 6, takeOutV A)
def wipeV (A : HV) : HV := uv (uv (uv A 0 7 0) 0 10 0) 0 11 1
def wipeP (A : HV) : Int × HV := (A 0 7, wipeV A)
section HdSmall
variable {l : Launch} {D : Dt} {h : Hp} {a : Nat} {A : HV}
theorem sp_takeOut (H : HdR h a A) : S_X4_takeOut l D 0 0 [.ref a] h (QI fun x h' => x.toInt = (takeOutP A).1 ∧ HdR h' a (takeOutP A).2 ∧ FrO (inH a) h h') := Sp.of rfl (Nat.le_of_ble_eq_true rfl) (fun X C _ _ _ _ => V_X4_takeOut_0 C (by
  have h6 := H.2.1 6 (by omega)
  have ia : inH a a := ⟨by omega, by omega⟩
  have ia1 : inH a (a + 1) := ⟨by omega, by omega⟩
  refine ⟨H.1, fun h1 => ⟨_, rfl, ?_⟩, fun h1 => ⟨_, rfl, ?_⟩⟩
  · rw [i32_eq, i0_t, h6] at h1
    unfold takeOutP
    rw [if_neg h1]
    refine ⟨h6, ?_, ((FrO.rf.si ia).fpt ia1).si ia⟩
    rw [fpt01]
    exact (HdR.setr (u := 0) (w := 1) (HdR.seti (i := 6) (v := 0) H (by omega) (by omega) (by omega) (by omega))).set16
  · rw [i32_eq, i0_t, h6] at h1
    unfold takeOutP
    rw [if_pos h1]
    exact ⟨rfl, H, FrO.rf⟩))
theorem sp_wipeAll (H : HdR h a A) (hm : 0 ≤ A 0 7) : S_X4_wipeAll l D 0 0 [.ref a] h (QI fun x h' => x.toInt = (wipeP A).1 ∧ HdR h' a (wipeP A).2 ∧ FrO (inH a) h h') := Sp.of rfl (Nat.le_of_ble_eq_true rfl) (fun X C _ _ _ _ => V_X4_wipeAll_0 C (by
  refine ⟨H.1, _, rfl, H.2.1 7 (by omega), ?_, (FrO.rf.si ⟨by omega, by omega⟩).fpt ⟨by omega, by omega⟩⟩
  rw [fpt01]
  exact (HdR.setp (u := 0) (w := 1) (HdR.seti (i := 7) (v := 0) H (by omega) (by omega) (by omega) (fun _ => hm)))))
end HdSmall
