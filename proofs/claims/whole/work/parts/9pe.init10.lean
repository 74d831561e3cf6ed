-- the reference's constructor: its rows made
section MI2
variable {X : Ctx} {l : Launch} {D : Dt} {h : Hp}
set_option maxHeartbeats 4000000 in
theorem sp_init10 : S_X10_init l D 16 14980 [.ref (hn h)] (nw h 11 0) (QV fun h' => MSt h' (hn h) sv1 ∧ hn h' = hn h + 17 ∧ Fr0 h h') := Sp.of rfl (Nat.le_of_ble_eq_true rfl) (fun X C _ _ hmc hms => by
  generalize hm : hn h = m
  have N0 : N10 h (nw h 11 0) m 1 (fun _ => none) (fun _ _ => 0) := ⟨by rw [hn_nw, hm], ⟨hm.symm, by omega⟩, by rw [kd_nw, if_pos hm.symm], fun i h1 h2 => by omega, fun j => by rw [gr_nw, if_pos hm.symm], fun i j hi => by rw [gi_nw, if_pos (by omega)], FrX.rf.nw⟩
  generalize nw h 11 0 = g0 at *
  have e0 : hn g0 = m + 1 := N0.1
  have A1 := N0.nw' 21 64 rfl rfl
  have A2 := (A1.sr' 2 (some (m + 1))).nw' 20 80 rfl rfl
  have A3 := (A2.sr' 3 (some (m + 2))).nw' 20 732 rfl rfl
  have Bg1 := A3.sr' 7 (some (m + 3))
  refine V_X10_init_0 C ⟨by omega, by omega, A1.2.2.1, by omega, by omega, A2.2.2.1, by omega, by omega, A3.2.2.1, ?_⟩
  rw [show hn (nw (nw g0 21 64) 20 80) = m + 3 from by rw [hn_nw, hn_nw]; omega, show hn (nw g0 21 64) = m + 2 from by rw [hn_nw]; omega, e0]
  clear A1 A2 A3
  generalize sr (nw (sr (nw (sr (nw g0 21 64) m 2 (some (m + 1))) 20 80) m 3 (some (m + 2))) 20 732) m 7 (some (m + 3)) = g1 at *
  have e1 : hn g1 = m + 4 := Bg1.1
  have A1 := Bg1.nw' 21 1464 rfl rfl
  have A2 := (A1.sr' 8 (some (m + 4))).nw' 20 18 rfl rfl
  have Bg2 := (A2.si' 5 0 15).si' 5 1 16
  have hE : hn (nw g1 21 1464) = m + 5 := by rw [hn_nw]; omega
  have lE : ln (nw (nw g1 21 1464) 20 18) (m + 5) = 18 := A2.ln5 (i := 5) (by omega) (by omega)
  have kE : kd (nw (nw g1 21 1464) 20 18) (m + 5) = 20 := A2.kd5 (i := 5) (by omega) (by omega)
  refine V_X10_init_29 C ⟨by omega, by omega, A1.2.2.1, by omega, by omega, by rw [hE]; exact kE, by rw [hE, lE]; exact ⟨by decide, by decide⟩, by rw [hE, lE]; exact ⟨by decide, by decide⟩, ?_⟩
  rw [hE, e1, ix_0, ix_1]
  clear A1 A2 hE lE kE
  generalize si (si (nw (sr (nw g1 21 1464) m 8 (some (m + 4))) 20 18) (m + 5) 0 15) (m + 5) 1 16 = g2 at *
  have kE : kd g2 (m + 5) = 20 := Bg2.kd5 (i := 5) (by omega) (by omega)
  have lE : ln g2 (m + 5) = 18 := Bg2.ln5 (i := 5) (by omega) (by omega)
  have Bg3 := ((Bg2.si' 5 2 17).si' 5 3 18).si' 5 4 19
  refine V_X10_init_53 C ⟨kE, by rw [lE]; exact ⟨by decide, by decide⟩, by rw [lE]; exact ⟨by decide, by decide⟩, by rw [lE]; exact ⟨by decide, by decide⟩, ?_⟩
  rw [show ix 2 = 2 from rfl, show ix 3 = 3 from rfl, show ix 4 = 4 from rfl]
  clear kE lE
  generalize si (si (si g2 (m + 5) 2 17) (m + 5) 3 18) (m + 5) 4 19 = g3 at *
  have kE : kd g3 (m + 5) = 20 := Bg3.kd5 (i := 5) (by omega) (by omega)
  have lE : ln g3 (m + 5) = 18 := Bg3.ln5 (i := 5) (by omega) (by omega)
  have Bg4 := ((Bg3.si' 5 5 20).si' 5 6 21).si' 5 7 23
  refine V_X10_init_68 C ⟨kE, by rw [lE]; exact ⟨by decide, by decide⟩, by rw [lE]; exact ⟨by decide, by decide⟩, by rw [lE]; exact ⟨by decide, by decide⟩, ?_⟩
  rw [show ix 5 = 5 from rfl, show ix 6 = 6 from rfl, show ix 7 = 7 from rfl]
  clear kE lE
  generalize si (si (si g3 (m + 5) 5 20) (m + 5) 6 21) (m + 5) 7 23 = g4 at *
  have kE : kd g4 (m + 5) = 20 := Bg4.kd5 (i := 5) (by omega) (by omega)
  have lE : ln g4 (m + 5) = 18 := Bg4.ln5 (i := 5) (by omega) (by omega)
  have Bg5 := ((Bg4.si' 5 8 27).si' 5 9 29).si' 5 10 31
  refine V_X10_init_85 C ⟨kE, by rw [lE]; exact ⟨by decide, by decide⟩, by rw [lE]; exact ⟨by decide, by decide⟩, by rw [lE]; exact ⟨by decide, by decide⟩, ?_⟩
  rw [show ix 8 = 8 from rfl, show ix 9 = 9 from rfl, show ix 10 = 10 from rfl]
  clear kE lE
  generalize si (si (si g4 (m + 5) 8 27) (m + 5) 9 29) (m + 5) 10 31 = g5 at *
  have kE : kd g5 (m + 5) = 20 := Bg5.kd5 (i := 5) (by omega) (by omega)
  have lE : ln g5 (m + 5) = 18 := Bg5.ln5 (i := 5) (by omega) (by omega)
  have Bg6 := ((Bg5.si' 5 11 33).si' 5 12 37).si' 5 13 39
  refine V_X10_init_103 C ⟨kE, by rw [lE]; exact ⟨by decide, by decide⟩, by rw [lE]; exact ⟨by decide, by decide⟩, by rw [lE]; exact ⟨by decide, by decide⟩, ?_⟩
  rw [show ix 11 = 11 from rfl, show ix 12 = 12 from rfl, show ix 13 = 13 from rfl]
  clear kE lE
  generalize si (si (si g5 (m + 5) 11 33) (m + 5) 12 37) (m + 5) 13 39 = g6 at *
  have kE : kd g6 (m + 5) = 20 := Bg6.kd5 (i := 5) (by omega) (by omega)
  have lE : ln g6 (m + 5) = 18 := Bg6.ln5 (i := 5) (by omega) (by omega)
  have Bg7 := ((Bg6.si' 5 14 41).si' 5 15 43).si' 5 16 47
  refine V_X10_init_121 C ⟨kE, by rw [lE]; exact ⟨by decide, by decide⟩, by rw [lE]; exact ⟨by decide, by decide⟩, by rw [lE]; exact ⟨by decide, by decide⟩, ?_⟩
  rw [show ix 14 = 14 from rfl, show ix 15 = 15 from rfl, show ix 16 = 16 from rfl]
  clear kE lE
  generalize si (si (si g6 (m + 5) 14 41) (m + 5) 15 43) (m + 5) 16 47 = g7 at *
  have kE : kd g7 (m + 5) = 20 := Bg7.kd5 (i := 5) (by omega) (by omega)
  have lE : ln g7 (m + 5) = 18 := Bg7.ln5 (i := 5) (by omega) (by omega)
  have hE : hn g7 = m + 6 := Bg7.1
  have A1 := (Bg7.si' 5 17 49).sr' 10 (some (m + 5))
  have A2 := A1.nw' 20 12 rfl rfl
  have kF : kd (nw g7 20 12) (m + 6) = 20 := A2.kd5 (i := 6) (by omega) (by omega)
  have lF : ln (nw g7 20 12) (m + 6) = 12 := A2.ln5 (i := 6) (by omega) (by omega)
  have Bg8 := A2.si' 6 0 24
  refine V_X10_init_139 C ⟨kE, by rw [lE]; exact ⟨by decide, by decide⟩, Bg7.2.2.1, by omega, by omega, by rw [hE]; exact kF, by rw [hE, lF]; exact ⟨by decide, by decide⟩, ?_⟩
  rw [hE, show ix 17 = 17 from rfl, ix_0]
  clear kE lE hE A1 A2 kF lF
  generalize si (nw (sr (si g7 (m + 5) 17 49) m 10 (some (m + 5))) 20 12) (m + 6) 0 24 = g8 at *
  have kE : kd g8 (m + 6) = 20 := Bg8.kd5 (i := 6) (by omega) (by omega)
  have lE : ln g8 (m + 6) = 12 := Bg8.ln5 (i := 6) (by omega) (by omega)
  have Bg9 := ((Bg8.si' 6 1 24).si' 6 2 28).si' 6 3 32
  refine V_X10_init_158 C ⟨kE, by rw [lE]; exact ⟨by decide, by decide⟩, by rw [lE]; exact ⟨by decide, by decide⟩, by rw [lE]; exact ⟨by decide, by decide⟩, ?_⟩
  rw [show ix 1 = 1 from rfl, show ix 2 = 2 from rfl, show ix 3 = 3 from rfl]
  clear kE lE
  generalize si (si (si g8 (m + 6) 1 24) (m + 6) 2 28) (m + 6) 3 32 = g9 at *
  have kE : kd g9 (m + 6) = 20 := Bg9.kd5 (i := 6) (by omega) (by omega)
  have lE : ln g9 (m + 6) = 12 := Bg9.ln5 (i := 6) (by omega) (by omega)
  have Bg10 := ((Bg9.si' 6 4 40).si' 6 5 44).si' 6 6 48
  refine V_X10_init_173 C ⟨kE, by rw [lE]; exact ⟨by decide, by decide⟩, by rw [lE]; exact ⟨by decide, by decide⟩, by rw [lE]; exact ⟨by decide, by decide⟩, ?_⟩
  rw [show ix 4 = 4 from rfl, show ix 5 = 5 from rfl, show ix 6 = 6 from rfl]
  clear kE lE
  generalize si (si (si g9 (m + 6) 4 40) (m + 6) 5 44) (m + 6) 6 48 = g10 at *
  have kE : kd g10 (m + 6) = 20 := Bg10.kd5 (i := 6) (by omega) (by omega)
  have lE : ln g10 (m + 6) = 12 := Bg10.ln5 (i := 6) (by omega) (by omega)
  have Bg11 := ((Bg10.si' 6 7 56).si' 6 8 64).si' 6 9 72
  refine V_X10_init_189 C ⟨kE, by rw [lE]; exact ⟨by decide, by decide⟩, by rw [lE]; exact ⟨by decide, by decide⟩, by rw [lE]; exact ⟨by decide, by decide⟩, ?_⟩
  rw [show ix 7 = 7 from rfl, show ix 8 = 8 from rfl, show ix 9 = 9 from rfl]
  clear kE lE
  generalize si (si (si g10 (m + 6) 7 56) (m + 6) 8 64) (m + 6) 9 72 = g11 at *
  have kE : kd g11 (m + 6) = 20 := Bg11.kd5 (i := 6) (by omega) (by omega)
  have lE : ln g11 (m + 6) = 12 := Bg11.ln5 (i := 6) (by omega) (by omega)
  have Bg12 := ((Bg11.si' 6 10 86).si' 6 11 100).sr' 11 (some (m + 6))
  refine V_X10_init_207 C ⟨kE, by rw [lE]; exact ⟨by decide, by decide⟩, by rw [lE]; exact ⟨by decide, by decide⟩, Bg11.2.2.1, ?_⟩
  rw [show ix 10 = 10 from rfl, show ix 11 = 11 from rfl]
  clear kE lE
  generalize sr (si (si g11 (m + 6) 10 86) (m + 6) 11 100) m 11 (some (m + 6)) = g12 at *
  have e12 : hn g12 = m + 7 := Bg12.1
  have A1 := Bg12.nw' 20 4 rfl rfl
  have A2 := (A1.sr' 17 (some (m + 7))).nw' 20 4 rfl rfl
  have A3 := (A2.sr' 19 (some (m + 8))).nw' 21 12100 rfl rfl
  have Bg13 := A3.sr' 27 (some (m + 9))
  refine V_X10_init_222 C ⟨by omega, by omega, A1.2.2.1, by omega, by omega, A2.2.2.1, by omega, by omega, A3.2.2.1, ?_⟩
  rw [show hn (nw (nw g12 20 4) 20 4) = m + 9 from by rw [hn_nw, hn_nw]; omega, show hn (nw g12 20 4) = m + 8 from by rw [hn_nw]; omega, e12]
  clear A1 A2 A3
  generalize sr (nw (sr (nw (sr (nw g12 20 4) m 17 (some (m + 7))) 20 4) m 19 (some (m + 8))) 21 12100) m 27 (some (m + 9)) = g13 at *
  have e13 : hn g13 = m + 10 := Bg13.1
  have A1 := Bg13.nw' 21 120 rfl rfl
  have A2 := (A1.sr' 35 (some (m + 10))).nw' 21 60 rfl rfl
  have A3 := (A2.sr' 36 (some (m + 11))).nw' 20 80 rfl rfl
  have Bg14 := A3.sr' 37 (some (m + 12))
  refine V_X10_init_245 C ⟨by omega, by omega, A1.2.2.1, by omega, by omega, A2.2.2.1, by omega, by omega, A3.2.2.1, ?_⟩
  rw [show hn (nw (nw g13 21 120) 21 60) = m + 12 from by rw [hn_nw, hn_nw]; omega, show hn (nw g13 21 120) = m + 11 from by rw [hn_nw]; omega, e13]
  clear A1 A2 A3
  generalize sr (nw (sr (nw (sr (nw g13 21 120) m 35 (some (m + 10))) 21 60) m 36 (some (m + 11))) 20 80) m 37 (some (m + 12)) = g14 at *
  have e14 : hn g14 = m + 13 := Bg14.1
  have A1 := Bg14.nw' 20 80 rfl rfl
  have A2 := (A1.sr' 38 (some (m + 13))).nw' 20 80 rfl rfl
  have A3 := (A2.sr' 39 (some (m + 14))).nw' 20 80 rfl rfl
  have Bg15 := A3.sr' 40 (some (m + 15))
  refine V_X10_init_269 C ⟨by omega, by omega, A1.2.2.1, by omega, by omega, A2.2.2.1, by omega, by omega, A3.2.2.1, ?_⟩
  rw [show hn (nw (nw g14 20 80) 20 80) = m + 15 from by rw [hn_nw, hn_nw]; omega, show hn (nw g14 20 80) = m + 14 from by rw [hn_nw]; omega, e14]
  clear A1 A2 A3
  generalize sr (nw (sr (nw (sr (nw g14 20 80) m 38 (some (m + 13))) 20 80) m 39 (some (m + 14))) 20 80) m 40 (some (m + 15)) = g15 at *
  have e15 : hn g15 = m + 16 := Bg15.1
  have A1 := (Bg15.nw' 23 2 rfl rfl).sr' 42 (some (m + 16))
  have r7 : gr (sr (nw g15 23 2) m 42 (some (m + 16))) m 7 = some (m + 3) := by rw [A1.2.2.2.2.1]; rfl
  obtain ⟨n7, g7⟩ := nn_of r7
  have kE : kd (nw g15 23 2) (m + 3) = 20 := A1.kd5 (i := 3) (by omega) (by omega)
  have lE : ln (nw g15 23 2) (m + 3) = 732 := A1.ln5 (i := 3) (by omega) (by omega)
  have Bg16 := (A1.si' 3 0 40).si' 3 1 50
  refine V_X10_init_293 C ⟨by omega, by omega, A1.2.2.1, ?_⟩
  rw [e15, g7]
  refine ⟨n7, kE, by rw [lE]; exact ⟨by decide, by decide⟩, by rw [lE]; exact ⟨by decide, by decide⟩, ?_⟩
  rw [ix_0, ix_1]
  clear n7 g7 r7 kE lE A1
  generalize si (si (sr (nw g15 23 2) m 42 (some (m + 16))) (m + 3) 0 40) (m + 3) 1 50 = g16 at *
  have r7 : gr g16 m 7 = some (m + 3) := by rw [Bg16.2.2.2.2.1]; rfl
  obtain ⟨n7, g7⟩ := nn_of r7
  have kE : kd g16 (m + 3) = 20 := Bg16.kd5 (i := 3) (by omega) (by omega)
  have lE : ln g16 (m + 3) = 732 := Bg16.ln5 (i := 3) (by omega) (by omega)
  have Bg17 := ((Bg16.si' 3 2 3).si' 3 3 18).si' 3 4 12
  refine V_X10_init_316 C ⟨Bg16.2.2.1, n7, ?_⟩
  rw [g7]
  refine ⟨kE, by rw [lE]; exact ⟨by decide, by decide⟩, by rw [lE]; exact ⟨by decide, by decide⟩, by rw [lE]; exact ⟨by decide, by decide⟩, ?_⟩
  rw [show ix 2 = 2 from rfl, show ix 3 = 3 from rfl, show ix 4 = 4 from rfl]
  clear n7 g7 r7 kE lE
  generalize si (si (si g16 (m + 3) 2 3) (m + 3) 3 18) (m + 3) 4 12 = g17 at *
  obtain ⟨b1, b2, b3, b4, b5, b6, b7⟩ := Bg17
  have F : St10 g17 m := ⟨b3, by rw [b5]; rfl, (b4 1 (by omega) (by omega)).1, (b4 1 (by omega) (by omega)).2, by rw [b5]; rfl, (b4 2 (by omega) (by omega)).1, (b4 2 (by omega) (by omega)).2, by rw [b5]; rfl, (b4 3 (by omega) (by omega)).1, (b4 3 (by omega) (by omega)).2, by rw [b5]; rfl, (b4 4 (by omega) (by omega)).1, (b4 4 (by omega) (by omega)).2, by rw [b5]; rfl, (b4 5 (by omega) (by omega)).1, (b4 5 (by omega) (by omega)).2, by rw [b5]; rfl, (b4 6 (by omega) (by omega)).1, (b4 6 (by omega) (by omega)).2, by rw [b5]; rfl, (b4 7 (by omega) (by omega)).1, (b4 7 (by omega) (by omega)).2, by rw [b5]; rfl, (b4 8 (by omega) (by omega)).1, (b4 8 (by omega) (by omega)).2, by rw [b5]; rfl, (b4 9 (by omega) (by omega)).1, (b4 9 (by omega) (by omega)).2, by rw [b5]; rfl, (b4 10 (by omega) (by omega)).1, (b4 10 (by omega) (by omega)).2, by rw [b5]; rfl, (b4 11 (by omega) (by omega)).1, (b4 11 (by omega) (by omega)).2, by rw [b5]; rfl, (b4 12 (by omega) (by omega)).1, (b4 12 (by omega) (by omega)).2, by rw [b5]; rfl, (b4 13 (by omega) (by omega)).1, (b4 13 (by omega) (by omega)).2, by rw [b5]; rfl, (b4 14 (by omega) (by omega)).1, (b4 14 (by omega) (by omega)).2, by rw [b5]; rfl, (b4 15 (by omega) (by omega)).1, (b4 15 (by omega) (by omega)).2, by rw [b5]; rfl, (b4 16 (by omega) (by omega)).1, (b4 16 (by omega) (by omega)).2⟩
  have z0 : ∀ j, gi g17 m j = 0 := fun j => b6 0 j (by omega)
  have w5 : ∀ k, k < 18 → gi g17 (m + 5) k = fhL.getD k 0 := fun k hk => by
    rw [b6 5 k (by omega)]
    have : k = 0 ∨ k = 1 ∨ k = 2 ∨ k = 3 ∨ k = 4 ∨ k = 5 ∨ k = 6 ∨ k = 7 ∨ k = 8 ∨ k = 9 ∨ k = 10 ∨ k = 11 ∨ k = 12 ∨ k = 13 ∨ k = 14 ∨ k = 15 ∨ k = 16 ∨ k = 17 := by omega
    rcases this with e | e | e | e | e | e | e | e | e | e | e | e | e | e | e | e | e | e <;> subst e <;> rfl
  have w6 : ∀ k, k < 12 → gi g17 (m + 6) k = ftL.getD k 0 := fun k hk => by
    rw [b6 6 k (by omega)]
    have : k = 0 ∨ k = 1 ∨ k = 2 ∨ k = 3 ∨ k = 4 ∨ k = 5 ∨ k = 6 ∨ k = 7 ∨ k = 8 ∨ k = 9 ∨ k = 10 ∨ k = 11 := by omega
    rcases this with e | e | e | e | e | e | e | e | e | e | e | e <;> subst e <;> rfl
  have w3 : ∀ j, gi g17 (m + 3) j = _ := fun j => b6 3 j (by omega)
  rw [← b1]
  exact init10_fill C F b7 hm ⟨z0 1, z0 4, z0 9⟩ (fun i hi => b6 16 i (by omega)) w5 w6 ⟨by rw [w3]; rfl, by rw [w3]; rfl, by rw [w3]; rfl, by rw [w3]; rfl, by rw [w3]; rfl⟩)
end MI2
