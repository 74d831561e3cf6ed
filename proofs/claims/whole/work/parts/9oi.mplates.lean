-- plates() of the reference: the whole
section MPm
variable {X : Ctx} {l : Launch} {D : Dt} {h : Hp} {m : Nat} {Q : Pq} {A : HV} {s : Sv} {T : List Int}
theorem platesP_of : platesP s = ((platesF (sT s) (sA s)).1, if 0 ≤ (platesF (sT s) (sA s)).1 then pushS (txtS s []) (platesF (sT s) (sA s)).2 else txtS s []) := rfl
theorem ma_plates (S : MSt h m s) : S_X10_plates l D 0 0 [.ref m] h (QI fun y h' => y.toInt = (platesP s).1 ∧ MSt h' m (platesP s).2 ∧ FrO (inM m) h h') := Sp.of rfl (Nat.le_of_ble_eq_true rfl) (fun X C _ _ _ _ => V_X10_plates_0 C (by
  obtain ⟨S1, R1, f1⟩ := reads_st S
  have V := S.1.va
  have i3 : (3 : Int32).toInt = 3 := rfl
  have i59 : (59 : Int32).toInt = 59 := rfl
  have x246 : ix (244 + 2) = 246 := rfl
  have x247 : ix (244 + 3) = 247 := rfl
  have x247' : ix (4 * 61 + 3) = 247 := rfl
  generalize (si (si (si (si h m 0 0) m 6 (gi (si h m 0 0) m 4)) m 4 0) m 5 0) = h1 at *
  refine ⟨S.1.1, (ma_copies S1.1.1 (a := 0) (b := 4) rfl rfl (by omega) (by omega) (by omega)).mono (fun z h2 hp => ?_)⟩
  obtain ⟨rfl, c2⟩ := hp
  obtain ⟨S2, f2⟩ := S1.cp c2 (Or.inr rfl)
  have K4 : MK h2 m 4 (sA s) := MK.cpd S1.1.2.1 S1.1.va c2
  have R2 : Rd h2 m (sT s) 0 := R1.fr c2.1 (fun q => by have := q.1; omega) (fun q => by have := q.1; omega) (fun j q => by have := q.1; omega)
  refine ⟨rfl, S2.1.1, ⟨by decide, by decide⟩, ⟨by decide, by decide⟩, 0, 0, Nat.zero_le _, Nat.zero_le _, ?_⟩
  rw [x246, x247]
  have fb : FrB4 m h2 (si (si h2 (m + 3) 246 0) (m + 3) 247 0) := FrB4.put (FrB4.put FrB4.rf (by omega) (by omega)) (by omega) (by omega)
  have O3 : MO (mI (si (si h2 (m + 3) 246 0) (m + 3) 247 0) m 4) (lessP (dropV (sA s))) := by
    obtain ⟨o1, o2, o3⟩ := K4.mo
    have e3 : dropV (sA s) 0 3 = 0 := by unfold dropV; rw [uv_i, if_pos ⟨rfl, rfl⟩]
    have e2 : dropV (sA s) 0 2 = 1 := by unfold dropV; rw [uv_i, if_neg (by omega), uv_i, if_pos ⟨rfl, rfl⟩]
    have e0 : ∀ j, j ≠ 2 → j ≠ 3 → dropV (sA s) 0 j = sA s 0 j := fun j h2 h3 => by unfold dropV; rw [uv_i, if_neg (by omega), uv_i, if_neg (by omega)]
    refine ⟨fun i hi => ?_, fun k hk => ?_, fun k hk => ?_⟩
    · rw [mI4, gi_si]
      by_cases a3 : i = 3
      · rw [if_pos ⟨rfl, by omega⟩, a3, lessP_o (by omega), e3]; rfl
      · rw [if_neg (by omega), gi_si]
        by_cases a2 : i = 2
        · rw [if_pos ⟨rfl, by omega⟩, a2, lessP_2, e2]; rfl
        · rw [if_neg (by omega), ← mI4, o1 i hi, lessP_o (by omega), e0 i a2 a3]
    · rw [lessP_o (by omega), e3] at hk; omega
    · rw [lessP_o (by omega), e0 4 (by omega) (by omega)] at hk
      rw [mI4, gi_si, if_neg (by omega), gi_si, if_neg (by omega), ← mI4, o3 k hk, lessP_o (by omega)]
      unfold dropV; rw [uv_i, if_neg (by omega), uv_i, if_neg (by omega)]
  have R3 := FrB4.rd fb R2
  obtain ⟨S3, f3⟩ := FrE.ms S2 (FrB4.e fb)
  have F3 : FrO (inM m) h (si (si h2 (m + 3) 246 0) (m + 3) 247 0) := (f1.tr f2).tr f3
  have po := PO.drop V
  have tl := R3.2.2.1
  rw [platesP_of]
  unfold platesF
  dsimp only
  generalize hT : sT s = T at *
  generalize (si (si h2 (m + 3) 246 0) (m + 3) 247 0) = h3 at *
  -- the answer of a refusal, the end
  generalize hG : rdP T (T.length + 1) 0 (dropV (sA s)) 0 0 = G at *
  have bad : ∀ (a : Nat) (h6 : Hp), FrE m h3 h6 → Rd h6 m T a → G.1 = -1 - (a : Int) → (QI fun y h' => y.toInt = G.1 ∧ MSt h' m (if 0 ≤ G.1 then pushS (txtS s []) (firstV G.2) else txtS s []) ∧ FrO (inM m) h h') (some (.int ((-1) - gi h6 m 5))) h6 := fun a h6 f6 R6 er => by
    obtain ⟨S6, o6⟩ := FrE.ms S3 f6
    refine ⟨_, rfl, ?_⟩
    rw [er, if_neg (by omega)]
    have := R6.2.2.2.2
    refine ⟨?_, S6, F3.tr o6⟩
    rw [isub_t] <;> rw [im1_t, R6.1] <;> omega
  have key : ∀ (n f p : Nat) (E : HV) (h' : Hp), f < n → FrE m h3 h' → Rd h' m T p → MO (mI h' m 4) E → VO E → E 0 3 ≤ 6 * E 0 2 → T.length < p + 1 + 3 * f → G = rdP3 T f p E → Wj X 0 0 (QI fun y h' => y.toInt = G.1 ∧ MSt h' m (if 0 ≤ G.1 then pushS (txtS s []) (firstV G.2) else txtS s []) ∧ FrO (inM m) h h') 52 [(0, .ref m), (1, .int 244)] [] h' := by
    intro n
    induction n with
    | zero => intro f p E h' h0; omega
    | succ n ih =>
      intro f p E h' hn f' R' O' oE b6 hf er
      obtain ⟨S', o'⟩ := FrE.ms S3 f'
      obtain ⟨r1, r2, r3, r4, r5⟩ := id R'
      have g2 : (gi h' (m + 3) 246).toInt = E 0 2 := by
        have := O'.1 2 (by omega)
        rw [mI4] at this; exact this
      have g3 : (gi h' (m + 3) 247).toInt = E 0 3 := by
        have := O'.1 3 (by omega)
        rw [mI4] at this; exact this
      have v3 := oE.2.2.2.1
      have v2 := oE.2.2.1
      refine V_X10_plates_52 C ⟨S'.1.1, fun q => ⟨⟨by decide, by decide⟩, ?_⟩, fun q => ⟨⟨by decide, by decide⟩, fun q1 => ?_, fun q1 => ?_⟩⟩
      all_goals rw [i32_le, r1, r2] at q
      · rw [x247']
        have eG : G = (E 0 3, E) := by rw [er]; unfold rdP3; rw [if_pos (by omega)]
        refine (ma_putsRead S' O' oE (v := gi h' (m + 3) 247) (by rw [g3]; omega)).mono (fun z h6 hp => ?_)
        obtain ⟨y, rfl, ey, S6, f6⟩ := hp
        refine ⟨y, rfl, y, rfl, ?_⟩
        rw [eG]
        dsimp only
        rw [if_pos (by omega), ey]
        exact ⟨g3, S6, (F3.tr o').tr f6⟩
      · rw [x246, i32_eq, g2, i3] at q1
        refine bad p h' f' R' ?_
        rw [er]; unfold rdP3; rw [if_neg (by omega), if_neg (by omega)]
      · rw [x246, i32_eq, g2, i3] at q1
        refine (ma_takes S'.1.1 R' (v := 59) (by decide)).mono (fun w h6 hp => ?_)
        obtain ⟨y, rfl, hy, f6⟩ := hp
        have f06 := f'.tr (FrD5.e f6)
        have F6 : St10 h6 m := (FrE.ms S3 f06).1.1.1
        rw [i59] at hy
        rcases hy with ⟨y0, n59, R6⟩ | ⟨y0, e59, la, R6⟩
        · refine ⟨y, rfl, fun _ => ⟨F6, bad p h6 f06 R6 ?_⟩, fun q => absurd y0 q⟩
          rw [er]; unfold rdP3; rw [if_neg (by omega), if_neg (fun z => n59 z.1)]
        · refine ⟨y, rfl, fun q => absurd q y0, fun _ => ⟨F6, 0, 0, Nat.zero_le _, Nat.zero_le _, ?_⟩⟩
          have O6 : MO (mI h6 m 4) (lessP (uv E 0 2 (E 0 2 + 1))) := by rw [lessP_next]; exact FrE.mo f6 O'
          have eG : G = rdP T f (p + 1) (uv E 0 2 (E 0 2 + 1)) 0 0 := by rw [er]; unfold rdP3; rw [if_neg (by omega), if_pos ⟨e59, by omega⟩]
          refine (ma_readsPlate F6 R6 O6 (PO.next oE (by omega) b6) (f := f) hf).mono (fun w h10 hp => ?_)
          obtain ⟨u, rfl, f10, hu⟩ := hp
          have f010 := f06.tr f10
          have F10 : St10 h10 m := (FrE.ms S3 f010).1.1.1
          rcases hu with ⟨u0, a, R10, ea⟩ | ⟨u0, f'', p'', E'', l1, R10, O10, o10, b10, l2, e10⟩
          · exact ⟨u, rfl, fun q => absurd u0 q, fun _ => ⟨F10, bad a h10 f010 R10 (by rw [eG]; exact ea)⟩⟩
          · exact ⟨u, rfl, fun _ => ih f'' p'' E'' h10 (by omega) f010 R10 O10 o10 b10 l2 (by rw [eG]; exact e10), fun q => absurd q u0⟩
  refine (ma_readsPlate S3.1.1 R3 O3 po (f := T.length + 1) (by omega)).mono (fun w h6 hp => ?_)
  obtain ⟨u, rfl, f6, hu⟩ := hp
  have F6 : St10 h6 m := (FrE.ms S3 f6).1.1.1
  rw [hG] at hu
  rcases hu with ⟨u0, a, R6, ea⟩ | ⟨u0, f'', p'', E'', l1, R6, O6, o6, b6, l2, e6⟩
  · exact ⟨u, rfl, fun q => absurd u0 q, fun _ => ⟨F6, bad a h6 f6 R6 ea⟩⟩
  · exact ⟨u, rfl, fun _ => key (f'' + 1) f'' p'' E'' h6 (by omega) f6 R6 O6 o6 b6 l2 e6, fun q => absurd q u0⟩))
end MPm
