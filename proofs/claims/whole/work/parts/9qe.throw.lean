-- the throw itself: its row
theorem cl_nse : Cond.classLink RX9 155 NSE ∈ gwd := inT4 165 (by rfl) rfl
theorem in_nse : Cond.initialized NSE ∈ gwd := inT1 19 (by rfl) rfl
abbrev nseL : List String := ["java/lang/RuntimeException", "java/lang/Exception"]
theorem nse_bad : ∀ w ∈ (vx_at0 RX9 157 NSE nseL).filter (fun w => !goodWord w), w ∈ [Cond.declares (Bundle.init0 "java/lang/RuntimeException"), .declares (Bundle.init0 "java/lang/Exception"), .declares (Bundle.init0 Bundle.tN), .castable NSE NSE] := by decide +kernel
theorem nse_ot : ∀ w ∈ Cond.classLink RX9 155 NSE :: Cond.initialized NSE :: vx_at0 RX9 157 NSE nseL, vx_ot w = true := by decide +kernel
section ThrowX
variable {X : Ctx} {k n : Nat} {Q : Pq} {Z : Hp → Prop} {pc : Nat} {lv : List (Nat × Value)} {h : Hp} {cc : ByteArray} {nL : Nat} {ret : Option FieldType} {nm : String}
theorem x_throw (C : Cx X RX9 cc nL ret nm 8 120) (T : XTb X h) (d0 : decode cc pc = .ok (.new 155, 3)) (d3 : decode cc (pc + 3) = .ok (.dup, 1)) (d4 : decode cc (pc + 4) = .ok (.invokespecial 157, 3)) (d7 : decode cc (pc + 7) = .ok (.athrow, 1)) (hc : k + 1 ≤ mcX X) (hs : n + 6 ≤ msX X) (hz : ∀ N, hn h ≤ N → Z (grow h N)) : Wx X k n Q Z pc lv [] h := by
  obtain ⟨p, l, e, R, s, m, args, below, meth, c0, D, mc, ms⟩ := X
  intro h1 h2 ls H locs hl hR hL
  obtain ⟨hx, hb, hml, hown, hts, hK, hr, hlk, hnm, g1, g2, g3, g4⟩ := C
  obtain ⟨hR0, tb, ⟨⟨zU, zN⟩, w1, w2, w3, w4⟩, hfl⟩ := T
  have hS : va_S (oldA D) s.heap H locs := ⟨by rw [hR.1, hR0.1]; exact Nat.le_refl _, fun q _ hA => by
    have hq : q < D.2.2.size := Nat.lt_of_not_le hA
    rw [hR.2.2.1 q hq, hR0.2.2.1 q hq], hL⟩
  have hat : ∀ w ∈ vx_at0 RX9 157 NSE nseL, w.before args s = true := vx_hat (fun w hw => hts w (nse_words w hw)) nse_bad (vx_c (va_Nw.use rfl w1) (vx_c (va_Nw.use rfl w2) (vx_c (va_Nw.use rfl w3) (vx_c (va_Nw.use rfl w4) vx_n))))
  exact vx_throw0 (own := RX9) (cls := NSE) (names := nseL) (ik := 155) (ic := 157) (A := oldA D) (rest := []) hx hb hfl hown (by decide +kernel) (by decide +kernel) (hts _ cl_nse) (hts _ in_nse) hat nse_ot (zU.kept hR0.keep) (zN.kept hR0.keep) hS (by first | exact hl.1 | exact hl.1.symm) d0 d3 d4 d7 (fun x hx => (tb x hx).elim) (by rw [g1]; decide) (by rw [g2]; decide) (by rw [g3]; exact hc) (by rw [g4]; exact hs) hlk (fun t _ hs1 hs2 => ⟨rfl, _, hz _ (by rw [← hR.1]; exact hs1), hR.grow hs1 hs2⟩) hL hc hs
end ThrowX
section GrowS
variable {h : Hp} {x m N : Nat} {s : Sv}
theorem cst_grow (S : CSt h x m s) (hN : hn h ≤ N) : CSt (grow h N) x m s ∧ FrX (inC x m) h (grow h N) := by
  obtain ⟨s1, ⟨s2, s2'⟩, ⟨s3, s3'⟩, s4, s5, s6, s7, s8, s9⟩ := S
  have e : hn (grow h N) = N := rfl
  refine ⟨⟨s1, ⟨s2, by rw [e]; omega, s2'.2⟩, ⟨fun i a hi ea => ?_, s3'⟩, s4, s5, s6, s7, s8, fun sh hsh => ?_⟩, hN, fun b hb => ⟨⟨rfl, rfl⟩, fun _ _ => ⟨rfl, rfl, rfl⟩⟩⟩
  · obtain ⟨a1, a2, a3, a4⟩ := s3 i a hi ea
    exact ⟨a1, a2, a3, by rw [e]; omega⟩
  · obtain ⟨b1, b2, b3, b4⟩ := s9 sh hsh
    exact ⟨b1, b2, by rw [e]; omega, b4⟩
end GrowS
