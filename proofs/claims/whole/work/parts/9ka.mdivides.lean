-- divides() of the reference: a step
section MDw
variable {X : Ctx} {l : Launch} {D : Dt} {h : Hp} {m : Nat} {Q : Pq} {A B : HV} {s : Sv}
theorem MdR.at53 (H : MdR h m A) (V : VA A) {k : Int32} (q : 0 ≤ k.toInt ∧ k.toInt < A 0 3) : MdR (si h (m + 3) 53 k) m (uv A 0 5 k.toInt) ∧ FrA m h (si h (m + 3) 53 k) := by
  have f : FrA m h (si h (m + 3) 53 k) := FrW.si (P := aI m) (R := aL m) FrW.rf (Or.inr (Or.inl ⟨rfl, by omega⟩))
  refine ⟨⟨f.st10 H.1, H.2.mach V (fun j hj => ?_) (fun i hi => ?_) (fun i j h1 h2 => ?_) ?_ ?_ ?_ ?_ ?_ (fun j hj => ?_) (fun q => ?_)⟩, f⟩
  · unfold mI; rw [gi_si, if_neg (by omega)]
  · rw [uv_eq, if_neg (by omega)]
  · rw [uv_eq, if_neg (by omega)]
  · unfold mI; rw [gi_si, if_pos ⟨rfl, rfl⟩]; rfl
  · unfold mI; rw [gi_si, if_neg (by omega)]; exact H.many
  · unfold mI; rw [gi_si, if_neg (by omega)]; exact H.marks
  · exact H.up
  · exact H.low
  · exact H.mark hj
  · refine (H.train q).ext (fun j h1 h2 => ?_) rfl rfl rfl rfl rfl (fun _ => rfl)
    unfold mI; rw [gi_si, if_neg (by omega)]
theorem SmB.scribe (S : SmB A B) : SmB A (scribeP B).2 := by
  unfold scribeP
  split
  · exact S
  · split
    · refine ⟨?_, ?_, fun k => ?_⟩
      · show insV B (mpos B) 0 0 = A 0 0
        unfold insV; rw [if_neg (by omega), if_neg (by omega), if_neg (by omega)]; exact S.1
      · show insV B (mpos B) 0 3 = A 0 3
        unfold insV; rw [if_neg (by omega), if_neg (by omega), if_neg (by omega)]; exact S.2.1
      · show insV B (mpos B) 1 k = A 1 k
        unfold insV; rw [if_neg (by omega), if_neg (by omega), if_neg (by omega)]; exact S.2.2 k
    · exact S
theorem SmB.takeOut (S : SmB A B) : SmB A (takeOutP B).2 := by
  unfold takeOutP
  split
  · exact S
  · exact (((S.uv (by omega) _).uv (by omega) _).uv (by omega) _).uv (by omega) _
theorem SmB.wipe (S : SmB A B) : SmB A (wipeP B).2 := ((S.uv (by omega) _).uv (by omega) _).uv (by omega) _
theorem SmB.putIn (S : SmB A B) {a b c d e : Int} : SmB A (putInP B a b c d e).2 := by
  unfold putInP
  split
  · split
    · exact S
    · exact (((S.uv (by omega) _).uv (by omega) _).uv (by omega) _).uv (by omega) _
  · exact S
theorem SmB.wq (S : SmB A B) {q : Int} : SmB A (windQ B q).2 := by
  unfold windQ
  split
  · exact (S.uv (by omega) _).uv (by omega) _
  · exact S
theorem SmB.wind (S : SmB A B) {t a b : Int} : SmB A (windP B t a b).2 := by
  unfold windP
  by_cases c : (0 ≤ t ∧ t ≤ 99) ∧ (0 ≤ a ∧ a ≤ Hc B - 1) ∧ (0 ≤ b ∧ b ≤ 1)
  · rw [if_pos c]; exact S.wq
  · rw [if_neg c]; exact S
theorem SmB.choose (S : SmB A B) {k : Int} : SmB A (chooseP B k).2 := by
  unfold chooseP
  split
  · split
    · exact S
    · exact S.uv (by omega) _
  · exact S
theorem dvL_sm {n : Int} {w i : Nat} : SmB A (dvL A n w i) := by
  induction i with
  | zero =>
    have S1 : SmB A (takeOutP (wipeP A).2).2 := (SmB.wipe ⟨rfl, rfl, fun _ => rfl⟩).takeOut
    show SmB A (dvB A n w)
    unfold dvB
    split
    · unfold dvPut
      split
      · exact S1
      · exact S1.putIn
    · exact S1
  | succ i ih =>
    show SmB A (dvSt A n w (scribeP (dvL A n w i)).2)
    have S1 := ih.scribe
    unfold dvSt
    split
    · unfold dvCm; exact (S1.choose.wind.choose).wind
    · unfold dvSm; exact S1.choose.wind
end MDw
