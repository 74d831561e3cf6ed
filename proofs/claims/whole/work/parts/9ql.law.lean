-- the law's world: both sides hold one value
section LawJ
variable {h h' h1 h2 : Hp} {x m : Nat} {s s' : Sv} {T : Nat → Prop}
theorem St10_ext (F : St10 h m) (e : ∀ b, m ≤ b → b < m + 17 → kd h' b = kd h b ∧ ln h' b = ln h b) (eg : ∀ j, gr h' m j = gr h m j) : St10 h' m := by
  unfold St10 at *
  simp only [eg, (e m (by omega) (by omega)).1, (e (m + 1) (by omega) (by omega)).1, (e (m + 2) (by omega) (by omega)).1, (e (m + 3) (by omega) (by omega)).1, (e (m + 4) (by omega) (by omega)).1, (e (m + 5) (by omega) (by omega)).1, (e (m + 6) (by omega) (by omega)).1, (e (m + 7) (by omega) (by omega)).1, (e (m + 8) (by omega) (by omega)).1, (e (m + 9) (by omega) (by omega)).1, (e (m + 10) (by omega) (by omega)).1, (e (m + 11) (by omega) (by omega)).1, (e (m + 12) (by omega) (by omega)).1, (e (m + 13) (by omega) (by omega)).1, (e (m + 14) (by omega) (by omega)).1, (e (m + 15) (by omega) (by omega)).1, (e (m + 16) (by omega) (by omega)).1, (e (m + 1) (by omega) (by omega)).2, (e (m + 2) (by omega) (by omega)).2, (e (m + 3) (by omega) (by omega)).2, (e (m + 4) (by omega) (by omega)).2, (e (m + 5) (by omega) (by omega)).2, (e (m + 6) (by omega) (by omega)).2, (e (m + 7) (by omega) (by omega)).2, (e (m + 8) (by omega) (by omega)).2, (e (m + 9) (by omega) (by omega)).2, (e (m + 10) (by omega) (by omega)).2, (e (m + 11) (by omega) (by omega)).2, (e (m + 12) (by omega) (by omega)).2, (e (m + 13) (by omega) (by omega)).2, (e (m + 14) (by omega) (by omega)).2, (e (m + 15) (by omega) (by omega)).2, (e (m + 16) (by omega) (by omega)).2]
  exact F
theorem MSt.fx (S : MSt h m s) (f : FrX T h h') (ht : ∀ b, m ≤ b → b < m + 17 → ¬ T b) (hb : m + 17 ≤ hn h) : MSt h' m s := by
  have gI : ∀ b j, m ≤ b → b < m + 17 → gi h' b j = gi h b j := fun b j b1 b2 => ((f.2 b (by omega)).2 (ht b b1 b2) j).1
  have gL : ∀ b j, m ≤ b → b < m + 17 → gl h' b j = gl h b j := fun b j b1 b2 => ((f.2 b (by omega)).2 (ht b b1 b2) j).2.1
  have eI : ∀ b, mI h' m b = mI h m b := fun b => by funext k; unfold mI; rw [gI _ _ (by omega) (by omega)]
  have eL : ∀ b, mL h' m b = mL h m b := fun b => by funext k; unfold mL; rw [gL _ _ (by omega) (by omega)]
  obtain ⟨⟨F, S0, V, S1, S2, S3⟩, ⟨R1, R2, R3⟩, T1, T2, T3⟩ := S
  refine ⟨⟨St10_ext F (fun b b1 b2 => (f.2 b (by omega)).1) (fun j => ((f.2 m (by omega)).2 (ht m (by omega) (by omega)) j).2.2), by unfold MK at *; rw [eI, eL]; exact S0, V, by rw [gI _ _ (by omega) (by omega)]; exact S1, fun i hi => ⟨?_, (S2 i hi).2⟩, fun i hi => ⟨fun q => ?_, fun E q => ⟨?_, ?_, ((S3 i hi).2 E q).2.2⟩⟩⟩, ⟨by rw [gI _ _ (by omega) (by omega)]; exact R1, R2, fun i hi => by rw [gL _ _ (by omega) (by omega)]; exact R3 i hi⟩, by rw [gI _ _ (by omega) (by omega)]; exact T1, T2, fun i hi => by rw [gI _ _ (by omega) (by omega)]; exact T3 i hi⟩
  · have := (S2 i hi).1
    unfold MK at *; rw [eI, eL]; exact this
  · rw [gI _ _ (by omega) (by omega)]; exact (S3 i hi).1 q
  · rw [gI _ _ (by omega) (by omega)]; exact ((S3 i hi).2 E q).1
  · have := ((S3 i hi).2 E q).2.1
    unfold MK at *; rw [eI, eL]; exact this
def Jn (h : Hp) (x m : Nat) (s : Sv) : Prop := CSt h x m s ∧ MSt h m s ∧ kd h (m + 17) = 21 ∧ ln h (m + 17) = 1
theorem Jn.mid (J : Jn h x m s) (f1 : FrX T h h1) (ht : ∀ b, T b → inC x m b ∨ b = m + 17) : MSt h1 m s ∧ kd h1 (m + 17) = 21 ∧ ln h1 (m + 17) = 1 := by
  obtain ⟨S, M, k1, k2⟩ := J
  have hm := S.2.1
  have e := (f1.2 (m + 17) (by omega)).1
  exact ⟨M.fx f1 (fun b b1 b2 q => by have q := ht b q; unfold inC at q; omega) (by omega), e.1.trans k1, e.2.trans k2⟩
theorem Jn.two (S1 : CSt h1 x m s') (k1 : kd h1 (m + 17) = 21 ∧ ln h1 (m + 17) = 1) (M2 : MSt h2 m s') (f2 : FrO (inM m) h1 h2) : Jn h2 x m s' ∧ shC h2 x = shC h1 x ∧ shM h2 x = shM h1 x := by
  have hm := S1.2.1
  have r := S1.fr f2.w (fun q => by unfold inM at q; omega) (fun b j b1 b2 q => by unfold inM at q; omega) (fun j q => by unfold inM at q; omega) (fun i a b j hi h1 e hb => by
    have := (S1.2.2.1.1 i a hi e).2
    unfold inH at hb
    unfold inM
    omega) (fun sh b j e b1 b2 => by
    have := (S1.2.2.2.2.2.2.2.2 sh e).2.1
    unfold inM
    omega)
  refine ⟨⟨r.1, M2, by rw [f2.2.1]; exact k1.1, by rw [f2.2.2.1]; exact k1.2⟩, ?_⟩
  exact shC_same (h := h1) (by rw [f2.2.2.2.1])
end LawJ
def LV (b x m : Nat) (i : Int32) : List (Nat × Value) := [(4, .int i), (3, .ref (m + 17)), (2, .ref m), (1, .ref x), (0, .ref b)]
/-- the script, as the law finds it -/
def SX (X : Ctx) (b L : Nat) (xs : Nat → Int32) : Prop :=
  match X with
  | (_, _, _, _, s, _, _, _, _, _, D, _, _) => D.2.2 = s.heap ∧ va_X b L xs s s.heap ∧ b < s.heap.size
/-- what lies behind a call -/
def LK (X : Ctx) (Q : Pq) (b x m : Nat) (i : Int32) (d : Nat) : Prop := ∀ (k n : Nat) (h : Hp) (s : Sv), Jn h x m s → k + shC h x + 9 * d ≤ mcX X → n + shM h x + 191 * d ≤ msX X → Wj X k n Q 1281 (LV b x m i) [] h
section LawR
variable {X : Ctx} {k n : Nat} {Q : Pq} {pc : Nat} {lv : List (Nat × Value)} {st : List Value} {h : Hp} {own : String} {cc : ByteArray} {nL : Nat} {ret : Option FieldType} {nm : String} {fr lo : Nat} {b L : Nat} {xs : Nat → Int32} {i : Int32}
theorem w_sld (C : Cx X own cc nL ret nm fr lo) (E : SX X b L xs) (hin : inb i L) (d : decode cc pc = .ok (.iaload, 1)) (K : Wj X k n Q (pc + 1) lv (.int (xs (ix i)) :: st) h) : Wj X k n Q pc lv (.int i :: .ref b :: st) h := by
  obtain ⟨p, l, e, R, s, m, args, below, meth, c, D, mc, ms⟩ := X
  intro h1 h2 ls H locs hl hR hL
  obtain ⟨eD, hX, hbl⟩ := E
  have hS : va_S (oldA D) s.heap H locs := ⟨by rw [hR.1, ← eD]; exact hR.2.1, fun q hq _ => by rw [← eD]; exact hR.2.2.1 q (by rw [eD]; exact hq), hL⟩
  exact va_sld (A := oldA D) C.1 C.2.1 hX hbl (by show ¬ D.2.2.size ≤ b; rw [eD]; omega) hS (inb_vp hin) d (K h1 h2 ls H locs hl hR hL)
theorem w_slen (C : Cx X own cc nL ret nm fr lo) (E : SX X b L xs) (d : decode cc pc = .ok (.arraylength, 1)) (K : Wj X k n Q (pc + 1) lv (.int (Int32.ofNat L) :: st) h) : Wj X k n Q pc lv (.ref b :: st) h := by
  obtain ⟨p, l, e, R, s, m, args, below, meth, c, D, mc, ms⟩ := X
  intro h1 h2 ls H locs hl hR hL
  obtain ⟨eD, hX, hbl⟩ := E
  have hS : va_S (oldA D) s.heap H locs := ⟨by rw [hR.1, ← eD]; exact hR.2.1, fun q hq _ => by rw [← eD]; exact hR.2.2.1 q (by rw [eD]; exact hq), hL⟩
  exact va_slen (A := oldA D) C.1 C.2.1 hX hbl (by show ¬ D.2.2.size ≤ b; rw [eD]; omega) hS d (K h1 h2 ls H locs hl hR hL)
/-- an int of the script: places pc .. pc + 5 -/
theorem lw_ld {kk : Int} {v : Int32} (C : Cx X own cc nL ret nm fr lo) (E : SX X b L xs) (hv : Int32.ofInt kk = v) (d0 : decode cc pc = .ok (.aload_n 0, 1)) (d1 : decode cc (pc + 1) = .ok (.iload 4, 2)) (d2 : decode cc (pc + 3) = .ok (.iconst kk, 1)) (d3 : decode cc (pc + 4) = .ok (.iadd, 1)) (d4 : decode cc (pc + 5) = .ok (.iaload, 1)) (e0 : lvget lv 0 = some (.ref b)) (e4 : lvget lv 4 = some (.int i)) (hin : inb (i + v) L) (K : Wj X k n Q (pc + 6) lv (.int (xs (ix (i + v))) :: st) h) : Wj X k n Q pc lv st h :=
  w_aload_n C d0 e0 (w_iload C d1 e4 (w_iconst C d2 hv (w_iadd C d3 (w_sld C E hin d4 K))))
theorem inb_arg {v : Int32} (i0 : 0 ≤ i.toInt) (iL : i.toInt + 6 ≤ L) (hL : L ≤ 3072) (v0 : 0 ≤ v.toInt) (v6 : v.toInt < 6) : inb (i + v) L := by
  unfold inb
  rw [iadd_t (by omega) (by omega)]; omega
end LawR
abbrev CLw (X : Ctx) (nm : String) : Prop := Cx X RL cL_law 8 (some .boolean) nm 12 432
