-- a new head; what is done is adopted
def hv0 : HV := fun i j => if i = 0 then (if j = 0 then 40 else if j = 1 then 50 else if j = 9 ∨ j = 11 ∨ j = 12 then 1 else 0) else 0
section Init4
variable {l : Launch} {D : Dt} {h : Hp}
theorem sp_init2 {b : Nat} (hk : kd h b = 3) : S_X2_init l D 0 0 [.ref b] h (QV fun h' => h' = sl (sl h b 0 0) b 1 1) := Sp.of rfl (Nat.le_of_ble_eq_true rfl) (fun X C _ _ _ _ => V_X2_init_0 C ⟨hk, rfl, rfl⟩)
set_option maxHeartbeats 4000000 in
theorem sp_init4 : S_X4_init l D 8 174 [.ref (hn h)] (nw h 5 0) (QV fun h' => HdR h' (hn h) hv0 ∧ hn h' = hn h + 9 ∧ FrX (fun _ => False) h h') := Sp.of rfl (Nat.le_of_ble_eq_true rfl) (fun X C _ _ hmc hms => by
  have big : ∀ b, hn h ≤ b → (fun _ => False) b ∨ hn h ≤ b := fun b hb => Or.inr hb
  generalize hQ : (QV fun h' => HdR h' (hn h) hv0 ∧ hn h' = hn h + 9 ∧ FrX (fun _ => False) h h') = Q
  have k0 : kd (nw h 5 0) (hn h) = 5 := by rw [kd_nw, if_pos rfl]
  have f0 : FrX (fun _ => False) h (nw h 5 0) := FrX.rf.nw
  refine V_X4_init_0 C ⟨k0, V_X4_init_21 C ⟨k0, ?_⟩⟩
  have f2 : FrX (fun _ => False) h (si (si (si (si (si (si (nw h 5 0) (hn h) 0 40) (hn h) 1 50) (hn h) 2 0) (hn h) 3 0) (hn h) 4 0) (hn h) 5 0) := (((((f0.si (big _ (by omega))).si (big _ (by omega))).si (big _ (by omega))).si (big _ (by omega))).si (big _ (by omega))).si (big _ (by omega))
  have n2 : hn (si (si (si (si (si (si (nw h 5 0) (hn h) 0 40) (hn h) 1 50) (hn h) 2 0) (hn h) 3 0) (hn h) 4 0) (hn h) 5 0) = hn h + 1 := rfl
  have v2 : ∀ j, gi (si (si (si (si (si (si (nw h 5 0) (hn h) 0 40) (hn h) 1 50) (hn h) 2 0) (hn h) 3 0) (hn h) 4 0) (hn h) 5 0) (hn h) j = if j = 0 then 40 else if j = 1 then 50 else 0 := fun j => by
    simp only [gi_si, gi_nw, if_true, true_and]
    by_cases e0 : j = 0
    · subst e0; simp
    · by_cases e1 : j = 1
      · subst e1; simp
      · simp only [e0, e1, if_false]
        split <;> first | rfl | (split <;> first | rfl | (split <;> first | rfl | (split <;> rfl)))
  have k2 : kd (si (si (si (si (si (si (nw h 5 0) (hn h) 0 40) (hn h) 1 50) (hn h) 2 0) (hn h) 3 0) (hn h) 4 0) (hn h) 5 0) (hn h) = 5 := k0
  generalize (si (si (si (si (si (si (nw h 5 0) (hn h) 0 40) (hn h) 1 50) (hn h) 2 0) (hn h) 3 0) (hn h) 4 0) (hn h) 5 0) = h2 at *
  -- the ratio
  refine V_X4_init_36 C ⟨k2, by omega, by omega, ?_⟩
  rw [n2]
  have n3 : hn (nw (si (si h2 (hn h) 6 0) (hn h) 7 0) 3 0) = hn h + 2 := by rw [hn_nw, hn_si, hn_si, n2]
  refine (sp_init2 (by rw [kd_nw, hn_si, hn_si, n2, if_pos rfl])).mono (fun w h4 hp => ?_)
  obtain ⟨rfl, e4⟩ := hp
  have n4 : hn h4 = hn h + 2 := by rw [e4]; exact n3
  have kk4 : kd h4 (hn h) = 5 := by rw [e4, kd_sl, kd_sl, kd_nw, hn_si, hn_si, n2, if_neg (by omega)]; exact k2
  have f4 : FrX (fun _ => False) h h4 := by rw [e4]; exact ((((f2.si (big _ (by omega))).si (big _ (by omega))).nw).sl (big _ (by omega))).sl (big _ (by omega))
  have v4 : ∀ j, gi h4 (hn h) j = if j = 0 then 40 else if j = 1 then 50 else 0 := fun j => by
    rw [e4, gi_sl, gi_sl, gi_nw, hn_si, hn_si, n2, if_neg (by omega), gi_si, gi_si, v2]
    by_cases e7 : j = 7
    · subst e7; simp
    · by_cases e6 : j = 6
      · subst e6; simp
      · rw [if_neg (fun z => e7 z.2), if_neg (fun z => e6 z.2)]
  have r4 : kd h4 (hn h + 1) = 3 ∧ gl h4 (hn h + 1) 0 = 0 ∧ gl h4 (hn h + 1) 1 = 1 := by
    rw [e4]
    refine ⟨by rw [kd_sl, kd_sl, kd_nw, hn_si, hn_si, n2, if_pos rfl], by rw [gl_sl, if_neg (by omega), gl_sl, if_pos ⟨rfl, rfl⟩], by rw [gl_sl, if_pos ⟨rfl, rfl⟩]⟩
  clear e4 v2 k2 f2 n2 n3
  refine ⟨rfl, kk4, ?_⟩
  generalize e5 : sr h4 (hn h) 8 (some (hn h + 1)) = h5
  have n5 : hn h5 = hn h + 2 := by rw [← e5]; exact n4
  refine V_X4_init_57 C ⟨by omega, by omega, ?_⟩
  rw [n5]
  refine (sp_init2 (by rw [kd_nw, n5, if_pos rfl])).mono (fun w h6 hp => ?_)
  obtain ⟨rfl, e6⟩ := hp
  have n6 : hn h6 = hn h + 3 := by rw [e6]; show hn h5 + 1 = _; omega
  have kk6 : kd h6 (hn h) = 5 := by rw [e6, kd_sl, kd_sl, kd_nw, n5, if_neg (by omega), ← e5]; exact kk4
  refine ⟨rfl, kk6, by omega, by omega, ?_⟩
  rw [n6]
  refine (sp_init2 (by rw [kd_nw, hn_sr, n6, if_pos rfl])).mono (fun w h7 hp => ?_)
  obtain ⟨rfl, e7⟩ := hp
  have n7 : hn h7 = hn h + 4 := by rw [e7]; show hn h6 + 1 = _; omega
  have kk7 : kd h7 (hn h) = 5 := by rw [e7, kd_sl, kd_sl, kd_nw, hn_sr, n6, if_neg (by omega)]; exact kk6
  refine ⟨rfl, kk7, by omega, by omega, by rw [kd_nw, n7, if_neg (by omega)]; exact kk7, ?_⟩
  have f7 : FrX (fun _ => False) h h7 := by
    rw [e7, e6, ← e5]
    exact (((((((f4.sr (big _ (by omega))).nw).sl (big _ (by omega))).sl (big _ (by omega))).sr (big _ (by omega))).nw).sl (big _ (by omega))).sl (big _ (by omega))
  have v7 : ∀ j, gi h7 (hn h) j = if j = 0 then 40 else if j = 1 then 50 else 0 := fun j => by
    rw [e7, gi_sl, gi_sl, gi_nw, hn_sr, n6, if_neg (by omega), gi_sr, e6, gi_sl, gi_sl, gi_nw, n5, if_neg (by omega), ← e5, gi_sr]; exact v4 j
  have r7 : (kd h7 (hn h + 1) = 3 ∧ gl h7 (hn h + 1) 0 = 0 ∧ gl h7 (hn h + 1) 1 = 1) ∧ (kd h7 (hn h + 2) = 3 ∧ gl h7 (hn h + 2) 0 = 0 ∧ gl h7 (hn h + 2) 1 = 1) ∧ kd h7 (hn h + 3) = 3 := by
    rw [e7]
    refine ⟨⟨?_, ?_, ?_⟩, ⟨?_, ?_, ?_⟩, ?_⟩
    · rw [kd_sl, kd_sl, kd_nw, hn_sr, n6, if_neg (by omega), kd_sr, e6, kd_sl, kd_sl, kd_nw, n5, if_neg (by omega), ← e5]; exact r4.1
    · rw [gl_sl, if_neg (by omega), gl_sl, if_neg (by omega), gl_nw, hn_sr, n6, if_neg (by omega), gl_sr, e6, gl_sl, if_neg (by omega), gl_sl, if_neg (by omega), gl_nw, n5, if_neg (by omega), ← e5]; exact r4.2.1
    · rw [gl_sl, if_neg (by omega), gl_sl, if_neg (by omega), gl_nw, hn_sr, n6, if_neg (by omega), gl_sr, e6, gl_sl, if_neg (by omega), gl_sl, if_neg (by omega), gl_nw, n5, if_neg (by omega), ← e5]; exact r4.2.2
    · rw [kd_sl, kd_sl, kd_nw, hn_sr, n6, if_neg (by omega), kd_sr, e6, kd_sl, kd_sl, kd_nw, n5, if_pos rfl]
    · rw [gl_sl, if_neg (by omega), gl_sl, if_neg (by omega), gl_nw, hn_sr, n6, if_neg (by omega), gl_sr, e6, gl_sl, if_neg (by omega), gl_sl, if_pos ⟨rfl, rfl⟩]
    · rw [gl_sl, if_neg (by omega), gl_sl, if_neg (by omega), gl_nw, hn_sr, n6, if_neg (by omega), gl_sr, e6, gl_sl, if_pos ⟨rfl, rfl⟩]
    · rw [kd_sl, kd_sl, kd_nw, hn_sr, n6, if_pos rfl]
  have g7 : gr h7 (hn h) 8 = some (hn h + 1) ∧ gr h7 (hn h) 9 = some (hn h + 2) := by
    rw [e7, gr_sl, gr_sl, gr_nw, hn_sr, n6, if_neg (by omega), gr_sr, if_neg (by omega), e6, gr_sl, gr_sl, gr_nw, n5, if_neg (by omega), ← e5, gr_sr, if_pos ⟨rfl, rfl⟩, gr_sl, gr_sl, gr_nw, hn_sr]
    refine ⟨rfl, ?_⟩
    rw [if_neg (by show ¬ hn h = hn h4 + 1 + 0 ; omega), gr_sr, if_pos ⟨rfl, rfl⟩]
  clear e7 e6 e5 v4 r4 f4 kk4 kk6 n4 n5 n6
  generalize e8 : sr (nw (sr h7 (hn h) 10 (some (hn h + 3))) 20 18) (hn h) 11 (some (hn h7)) = h8
  rw [n7] at e8
  have n8 : hn h8 = hn h + 5 := by rw [← e8]; show hn h7 + 1 = _; omega
  have kk8 : kd h8 (hn h) = 5 := by rw [← e8, kd_sr, kd_nw, hn_sr, n7, if_neg (by omega)]; exact kk7
  refine V_X4_init_87 C ⟨by omega, by omega, ?_, by omega, by omega, ?_, by omega, by omega, ?_, ?_⟩
  · rw [kd_nw, n8, if_neg (by omega)]; exact kk8
  · rw [kd_nw, hn_nw, n8, if_neg (by omega), kd_nw, n8, if_neg (by omega)]; exact kk8
  · rw [kd_nw, hn_nw, hn_nw, n8, if_neg (by omega), kd_nw, hn_nw, n8, if_neg (by omega), kd_nw, n8, if_neg (by omega)]; exact kk8
  simp only [hn_nw, n8]
  generalize e9 : sr (nw (sr (nw (sr (nw h8 20 18) (hn h) 12 (some (hn h + 5))) 20 12) (hn h) 13 (some (hn h + 5 + 1))) 21 60) (hn h) 14 (some (hn h + 5 + 1 + 1)) = h9
  have n9 : hn h9 = hn h + 8 := by rw [← e9]; show hn h8 + 1 + 1 + 1 = _; omega
  have kk9 : ∀ c, c < hn h + 5 → kd h9 c = kd h8 c ∧ ln h9 c = ln h8 c := fun c hc => by
    rw [← e9]
    exact ⟨by rw [kd_sr, kd_nw, hn_sr, hn_nw, hn_sr, hn_nw, n8, if_neg (by omega), kd_sr, kd_nw, hn_sr, hn_nw, n8, if_neg (by omega), kd_sr, kd_nw, n8, if_neg (by omega)], by rw [ln_sr, ln_nw, hn_sr, hn_nw, hn_sr, hn_nw, n8, if_neg (by omega), ln_sr, ln_nw, hn_sr, hn_nw, n8, if_neg (by omega), ln_sr, ln_nw, n8, if_neg (by omega)]⟩
  refine V_X4_init_111 C ⟨by omega, by omega, ?_, ?_⟩
  · rw [kd_nw, n9, if_neg (by omega), (kk9 _ (by omega)).1]; exact kk8
  rw [n9, ← hQ]
  generalize e10 : si (sr (nw h9 21 60) (hn h) 15 (some (hn h + 8))) (hn h) 16 1 = h10
  have n10 : hn h10 = hn h + 9 := by rw [← e10]; show hn h9 + 1 = _; omega
  have kk10 : ∀ c, c < hn h + 8 → kd h10 c = kd h9 c ∧ ln h10 c = ln h9 c := fun c hc => by
    rw [← e10]
    exact ⟨by rw [kd_si, kd_sr, kd_nw, n9, if_neg (by omega)], by rw [ln_si, ln_sr, ln_nw, n9, if_neg (by omega)]⟩
  have kn10 : kd h10 (hn h + 8) = 21 ∧ ln h10 (hn h + 8) = 60 := by
    rw [← e10]
    exact ⟨by rw [kd_si, kd_sr, kd_nw, n9, if_pos rfl], by rw [ln_si, ln_sr, ln_nw, n9, if_pos rfl]⟩
  have kn9 : (kd h9 (hn h + 5) = 20 ∧ ln h9 (hn h + 5) = 18) ∧ (kd h9 (hn h + 6) = 20 ∧ ln h9 (hn h + 6) = 12) ∧ kd h9 (hn h + 7) = 21 ∧ ln h9 (hn h + 7) = 60 := by
    rw [← e9]
    refine ⟨⟨?_, ?_⟩, ⟨?_, ?_⟩, ?_, ?_⟩
    · rw [kd_sr, kd_nw, hn_sr, hn_nw, hn_sr, hn_nw, n8, if_neg (by omega), kd_sr, kd_nw, hn_sr, hn_nw, n8, if_neg (by omega), kd_sr, kd_nw, n8, if_pos rfl]
    · rw [ln_sr, ln_nw, hn_sr, hn_nw, hn_sr, hn_nw, n8, if_neg (by omega), ln_sr, ln_nw, hn_sr, hn_nw, n8, if_neg (by omega), ln_sr, ln_nw, n8, if_pos rfl]
    · rw [kd_sr, kd_nw, hn_sr, hn_nw, hn_sr, hn_nw, n8, if_neg (by omega), kd_sr, kd_nw, hn_sr, hn_nw, n8, if_pos (by omega)]
    · rw [ln_sr, ln_nw, hn_sr, hn_nw, hn_sr, hn_nw, n8, if_neg (by omega), ln_sr, ln_nw, hn_sr, hn_nw, n8, if_pos (by omega)]
    · rw [kd_sr, kd_nw, hn_sr, hn_nw, hn_sr, hn_nw, n8, if_pos (by omega)]
    · rw [ln_sr, ln_nw, hn_sr, hn_nw, hn_sr, hn_nw, n8, if_pos (by omega)]
  have kn8 : kd h8 (hn h + 4) = 20 ∧ ln h8 (hn h + 4) = 18 := by
    rw [← e8]
    exact ⟨by rw [kd_sr, kd_nw, hn_sr, n7, if_pos rfl], by rw [ln_sr, ln_nw, hn_sr, n7, if_pos rfl]⟩
  have kk8' : ∀ c, c < hn h + 4 → kd h8 c = kd h7 c := fun c hc => by rw [← e8, kd_sr, kd_nw, hn_sr, n7, if_neg (by omega), kd_sr]
  have G : ∀ j, gr h10 (hn h) j = if j = 15 then some (hn h + 8) else if j = 14 then some (hn h + 7) else if j = 13 then some (hn h + 6) else if j = 12 then some (hn h + 5) else if j = 11 then some (hn h + 4) else if j = 10 then some (hn h + 3) else gr h7 (hn h) j := fun j => by
    rw [← e10, gr_si, gr_sr]
    by_cases q15 : j = 15
    · rw [if_pos ⟨rfl, q15⟩, if_pos q15]
    rw [if_neg (fun z => q15 z.2), if_neg q15, gr_nw, n9, if_neg (by omega), ← e9, gr_sr]
    by_cases q14 : j = 14
    · rw [if_pos ⟨rfl, q14⟩, if_pos q14]
    rw [if_neg (fun z => q14 z.2), if_neg q14, gr_nw, hn_sr, hn_nw, hn_sr, hn_nw, n8, if_neg (by omega), gr_sr]
    by_cases q13 : j = 13
    · rw [if_pos ⟨rfl, q13⟩, if_pos q13]
    rw [if_neg (fun z => q13 z.2), if_neg q13, gr_nw, hn_sr, hn_nw, n8, if_neg (by omega), gr_sr]
    by_cases q12 : j = 12
    · rw [if_pos ⟨rfl, q12⟩, if_pos q12]
    rw [if_neg (fun z => q12 z.2), if_neg q12, gr_nw, n8, if_neg (by omega), ← e8, gr_sr]
    by_cases q11 : j = 11
    · rw [if_pos ⟨rfl, q11⟩, if_pos q11]
    rw [if_neg (fun z => q11 z.2), if_neg q11, gr_nw, hn_sr, n7, if_neg (by omega), gr_sr]
    by_cases q10 : j = 10
    · rw [if_pos ⟨rfl, q10⟩, if_pos q10]
    rw [if_neg (fun z => q10 z.2), if_neg q10]
  have V : ∀ j, gi h10 (hn h) j = if j = 16 then 1 else if j = 0 then 40 else if j = 1 then 50 else 0 := fun j => by
    rw [← e10, gi_si]
    by_cases q : j = 16
    · rw [if_pos ⟨rfl, q⟩, if_pos q]
    rw [if_neg (fun z => q z.2), if_neg q, gi_sr, gi_nw, n9, if_neg (by omega), ← e9, gi_sr, gi_nw, hn_sr, hn_nw, hn_sr, hn_nw, n8, if_neg (by omega), gi_sr, gi_nw, hn_sr, hn_nw, n8, if_neg (by omega), gi_sr, gi_nw, n8, if_neg (by omega), ← e8, gi_sr, gi_nw, hn_sr, n7, if_neg (by omega), gi_sr]
    exact v7 j
  have W : ∀ c j, c < hn h + 4 → gl h10 c j = gl h7 c j := fun c j hc => by
    rw [← e10, gl_si, gl_sr, gl_nw, n9, if_neg (by omega), ← e9, gl_sr, gl_nw, hn_sr, hn_nw, hn_sr, hn_nw, n8, if_neg (by omega), gl_sr, gl_nw, hn_sr, hn_nw, n8, if_neg (by omega), gl_sr, gl_nw, n8, if_neg (by omega), ← e8, gl_sr, gl_nw, hn_sr, n7, if_neg (by omega), gl_sr]
  have f10 : FrX (fun _ => False) h h10 := by
    rw [← e10, ← e9, ← e8]
    exact (((((((((((f7.sr (big _ (by omega))).nw).sr (big _ (by omega))).nw).sr (big _ (by omega))).nw).sr (big _ (by omega))).nw).sr (big _ (by omega))).nw).sr (big _ (by omega))).si (big _ (by omega))
  have K : ∀ c, c < hn h + 4 → kd h10 c = kd h7 c := fun c hc => by rw [(kk10 c (by omega)).1, (kk9 c (by omega)).1, kk8' c hc]
  refine ⟨rfl, ⟨?_, ?_, ?_, ?_, ?_, ?_, ?_, fun k hk => ?_, fun k hk => ?_, fun k hk => ?_⟩, n10, f10⟩
  · refine ⟨by rw [K _ (by omega)]; exact kk7, ?_, by rw [K _ (by omega)]; exact r7.1.1, ?_, by rw [K _ (by omega)]; exact r7.2.1.1, ?_, by rw [K _ (by omega)]; exact r7.2.2, ?_, by rw [(kk10 _ (by omega)).1, (kk9 _ (by omega)).1]; exact kn8.1, by rw [(kk10 _ (by omega)).2, (kk9 _ (by omega)).2]; exact kn8.2, ?_, by rw [(kk10 _ (by omega)).1]; exact kn9.1.1, by rw [(kk10 _ (by omega)).2]; exact kn9.1.2, ?_, by rw [(kk10 _ (by omega)).1]; exact kn9.2.1.1, by rw [(kk10 _ (by omega)).2]; exact kn9.2.1.2, ?_, by rw [(kk10 _ (by omega)).1]; exact kn9.2.2.1, by rw [(kk10 _ (by omega)).2]; exact kn9.2.2.2, ?_, kn10.1, kn10.2⟩
    · rw [G]; simp; exact g7.1
    · rw [G]; simp; exact g7.2
    all_goals rw [G]; simp
  · intro i hi
    rw [V, if_neg (by omega)]
    unfold hv0
    by_cases q0 : i = 0
    · subst q0; rfl
    · by_cases q1 : i = 1
      · subst q1; rfl
      · rw [if_neg q0, if_neg q1, if_pos rfl, if_neg q0, if_neg q1, if_neg (by omega)]; rfl
  · rw [V]; rfl
  · rw [W _ _ (by omega), r7.1.2.1]; rfl
  · rw [W _ _ (by omega), r7.1.2.2]; rfl
  · rw [W _ _ (by omega), r7.2.1.2.1]; rfl
  · rw [W _ _ (by omega), r7.2.1.2.2]; rfl
  · have : hv0 0 3 = 0 := rfl
    omega
  · have : hv0 0 4 = 0 := rfl
    omega
  · have : hv0 0 7 = 0 := rfl
    omega)
end Init4
