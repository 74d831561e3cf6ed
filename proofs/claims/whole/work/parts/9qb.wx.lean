-- methods that may throw NoSuchElementException: the judgement Wx, its rows
abbrev NSE : String := "java/util/NoSuchElementException"
def XCz (D : Dt) (Z : Hp → Prop) : String → State → State → Prop := fun E _ t => E = NSE ∧ ∃ h', Z h' ∧ RelH D h' t.heap
def Wx (X : Ctx) (k n : Nat) (Q : Pq) (Z : Hp → Prop) (pc : Nat) (lv : List (Nat × Value)) (st : List Value) (h : Hp) : Prop :=
  match X with
  | (p, l, e, R, s, m, args, below, meth, c, D, mc, ms) => k ≤ mc → n ≤ ms → ∀ (ls : Array Slot) (H : Heap) (locs : List Loc), lv_has ls c.maxLocals lv → RelH D h H → (∀ q ∈ locs, D.2.2.size ≤ q.base) →
    W p l e R s m args below meth c H locs k n (vx_MQ below (Qm D Q) (XCz D Z) args s mc ms (fun q => D.2.2.size ≤ q)) (F0 m pc ls st)
section RowsX
variable {X : Ctx} {k n : Nat} {Q : Pq} {Z : Hp → Prop} {pc : Nat} {lv : List (Nat × Value)} {st : List Value} {h : Hp} {own : String} {cc : ByteArray} {nL : Nat} {ret : Option FieldType} {nm : String} {fr lo a c f idx : Nat}
theorem Wx.of (K : Wj X k n Q pc lv st h) : Wx X k n Q Z pc lv st h := by
  obtain ⟨p, l, e, R, s, m, args, below, meth, c, D, mc, ms⟩ := X
  exact fun h1 h2 ls H locs hl hR hL => vx_ret (K h1 h2 ls H locs hl hR hL)
theorem x_iload_n {i : Fin 4} {x : Int32} (C : Cx X own cc nL ret nm fr lo) (d : decode cc pc = .ok (.iload_n i, 1)) (hk : lvget lv (i : Nat) = some (.int x)) (K : Wx X k n Q Z (pc + 1) lv (.int x :: st) h) : Wx X k n Q Z pc lv st h := by
  obtain ⟨p, l, e, R, s, m, args, below, meth, c, D, mc, ms⟩ := X
  exact fun h1 h2 ls H locs hl hR hL => lv_iload_n C.1 C.2.1 d rfl (hl.2.2 _ (lvget_mem hk)) (K h1 h2 ls H locs hl hR hL)
theorem x_aload_n {i : Fin 4} {x : Nat} (C : Cx X own cc nL ret nm fr lo) (d : decode cc pc = .ok (.aload_n i, 1)) (hk : lvget lv (i : Nat) = some (.ref x)) (K : Wx X k n Q Z (pc + 1) lv (.ref x :: st) h) : Wx X k n Q Z pc lv st h := by
  obtain ⟨p, l, e, R, s, m, args, below, meth, c, D, mc, ms⟩ := X
  exact fun h1 h2 ls H locs hl hR hL => lv_aload_n C.1 C.2.1 d rfl (hl.2.2 _ (lvget_mem hk)) (K h1 h2 ls H locs hl hR hL)
theorem x_if_ne {x : Int32} {off : Int} {tgt : Nat} (C : Cx X own cc nL ret nm fr lo) (d : decode cc pc = .ok (.ifCond .ne off, 3)) (ht : (pc : Int) + off = (tgt : Int)) (K : (¬ x = 0 → Wx X k n Q Z tgt lv st h) ∧ (x = 0 → Wx X k n Q Z (pc + 3) lv st h)) : Wx X k n Q Z pc lv (.int x :: st) h := by
  obtain ⟨p, l, e, R, s, m, args, below, meth, c, D, mc, ms⟩ := X
  exact fun h1 h2 ls H locs hl hR hL => lv_if_ne C.1 C.2.1 d ht (fun q => K.1 q h1 h2 ls H locs hl hR hL) (fun q => K.2 q h1 h2 ls H locs hl hR hL)
theorem x_if_lt {x : Int32} {off : Int} {tgt : Nat} (C : Cx X own cc nL ret nm fr lo) (d : decode cc pc = .ok (.ifCond .lt off, 3)) (ht : (pc : Int) + off = (tgt : Int)) (K : (x < 0 → Wx X k n Q Z tgt lv st h) ∧ (¬ x < 0 → Wx X k n Q Z (pc + 3) lv st h)) : Wx X k n Q Z pc lv (.int x :: st) h := by
  obtain ⟨p, l, e, R, s, m, args, below, meth, c, D, mc, ms⟩ := X
  exact fun h1 h2 ls H locs hl hR hL => lv_if_lt C.1 C.2.1 d ht (fun q => K.1 q h1 h2 ls H locs hl hR hL) (fun q => K.2 q h1 h2 ls H locs hl hR hL)
theorem x_icmp_lt {x y : Int32} {off : Int} {tgt : Nat} (C : Cx X own cc nL ret nm fr lo) (d : decode cc pc = .ok (.if_icmp .lt off, 3)) (ht : (pc : Int) + off = (tgt : Int)) (K : (x < y → Wx X k n Q Z tgt lv st h) ∧ (¬ x < y → Wx X k n Q Z (pc + 3) lv st h)) : Wx X k n Q Z pc lv (.int y :: .int x :: st) h := by
  obtain ⟨p, l, e, R, s, m, args, below, meth, c, D, mc, ms⟩ := X
  exact fun h1 h2 ls H locs hl hR hL => lv_icmp_lt C.1 C.2.1 d ht (fun q => K.1 q h1 h2 ls H locs hl hR hL) (fun q => K.2 q h1 h2 ls H locs hl hR hL)
theorem x_get0 (C : Cx X own cc nL ret nm fr lo) (F : FL own idx c f) (hk : kd h a = c + 1) (d : decode cc pc = .ok (.getfield idx, 3)) (K : Wx X k n Q Z (pc + 3) lv (fv h a f (fty c f) :: st) h) : Wx X k n Q Z pc lv (.ref a :: st) h := by
  obtain ⟨p, l, e, R, s, m, args, below, meth, c0, D, mc, ms⟩ := X
  intro h1 h2 ls H locs hl hR hL
  obtain ⟨r, hc, hkN, hlink⟩ := F
  obtain ⟨hx, hb, hml, hown, hts, hK, hr⟩ := C
  obtain ⟨hin, hty, hnm, -⟩ := clF c r hc
  obtain ⟨cell, q1, q2, q3, q4⟩ := (hR.2.2.2 a (by omega)).2.2.1 _ _ hk hc
  obtain ⟨hS, hfc, kC, hkC, hkind⟩ := hK.1.1 c r hc
  obtain ⟨cf, kf, fi, fd, hi, hsl⟩ := hS f hkN
  refine W.getf hx hb hown (hts _ hlink) hi (u_facts hfc hkC (u_lays hts hin hkN) hi).1 q1 (by rw [q3]; exact fun h => by cases h) (v := fv h a f (fty c f)) ?_ rfl rfl d (K h1 h2 ls H locs hl hR hL)
  rw [hsl, q4 f hkN]
theorem x_getI (C : Cx X own cc nL ret nm fr lo) (F : FL own idx c f) (ht : fty c f = 0) (d : decode cc pc = .ok (.getfield idx, 3)) (hk : kd h a = c + 1) (K : Wx X k n Q Z (pc + 3) lv (.int (gi h a f) :: st) h) : Wx X k n Q Z pc lv (.ref a :: st) h := x_get0 C F hk d (by rw [ht]; exact K)
theorem x_getR {b : Nat} (C : Cx X own cc nL ret nm fr lo) (F : FL own idx c f) (ht : fty c f = 2) (d : decode cc pc = .ok (.getfield idx, 3)) (hk : kd h a = c + 1) (hb : gr h a f = some b) (K : Wx X k n Q Z (pc + 3) lv (.ref b :: st) h) : Wx X k n Q Z pc lv (.ref a :: st) h := x_get0 C F hk d (by rw [ht]; show Wx X k n Q Z (pc + 3) lv (va_rf (gr h a f) :: st) h; rw [hb]; exact K)
end RowsX
section CallsX
variable {p : Program} {l : Launch} {e : Env} {R : Room} {s : State} {m : MethodId} {args : Array Value} {below : List Frame} {meth : Method} {c0 : Code} {D : Dt} {mc ms : Nat}
theorem runX {k n k' n' : Nat} {Q Q' : Pq} {Z : Hp → Prop} {pc : Nat} {lv : List (Nat × Value)} {st st0 : List Value} {ls : Array Slot} {H : Heap} {locs : List Loc} {av : Array Value}
    (hr : va_Run p l e R s m args below meth c0 H locs k n k' n' (F0 m pc ls st0) st (Qm D Q' av) (fun q => D.2.2.size ≤ q)) (hl : lv_has ls c0.maxLocals lv) (hL : ∀ q ∈ locs, D.2.2.size ≤ q.base) (h1 : k + k' ≤ mc) (h2 : n + n' ≤ ms)
    (hq : ∀ v h', Q' v h' → Wx (p, l, e, R, s, m, args, below, meth, c0, D, mc, ms) (k + k') (n + n') Q Z (pc + 3) lv (v.toList ++ st) h') : W p l e R s m args below meth c0 H locs k n (vx_MQ below (Qm D Q) (XCz D Z) args s mc ms (fun q => D.2.2.size ≤ q)) (F0 m pc ls st0) := by
  intro T hT X
  obtain ⟨v, st₀, t, T', L, e0, X', hL', e1, e2, ⟨v', h', ev, hp, hRel⟩, go⟩ := hr T hT X
  cases ev
  obtain ⟨t2, a1, b1⟩ := hq v h' hp h1 h2 ls t.heap (locs ++ L) hl hRel (locs_app hL hL') T' e1 X'
  exact ⟨t2, go t2 a1, b1⟩
end CallsX
section CallsY
variable {X : Ctx} {k n : Nat} {Q : Pq} {Z : Hp → Prop} {pc : Nat} {lv : List (Nat × Value)} {st st0 : List Value} {h : Hp} {own : String} {cc : ByteArray} {nL : Nat} {ret : Option FieldType} {nm : String} {fr lo : Nat} {b c idx na : Nat}
variable {y : MethodName} {bytes : ByteArray} {maxL fr' lo' k' n' : Nat} {ret' : Option FieldType} {As : List Value}
theorem x_callV (C : Cx X own cc nL ret nm fr lo) (L : CL own idx y bytes maxL ret' na) (L2 : Cond.instanceMethod y ∈ gwd ∧ Cond.selects y.cls y y ∈ gwd) (hrm : fr' + 1 ≤ fr ∧ 8 + (maxL + 11) + lo' ≤ lo) (d : decode cc pc = .ok (.invokevirtual idx, 3)) (hst : st0 = As.reverse ++ .ref b :: st) (hna : As.length = na) (hW : (st.map fun v => v.category).sum ≤ 8) (hc : (vwCl[c]?).map (fun r => r.1) = some y.cls) (hcl : k + k' ≤ mcX X) (hsl : n + n' ≤ msX X) (hk : kd h b = c + 1)
    (K : Sp (lX X) (dtX X) y bytes maxL ret' fr' lo' k' n' (.ref b :: As) h (fun v h' => Wx X (k + k') (n + n') Q Z (pc + 3) lv (v.toList ++ st) h')) : Wx X k n Q Z pc lv st0 h := by
  obtain ⟨p, l, e, R, s, m, args, below, meth, c0, D, mc, ms⟩ := X
  intro h1 h2 ls H locs hl hR hL
  obtain ⟨hx, hb, hml, hown, hts, hK, hr, hlk, hnm, g1, g2, g3, g4⟩ := C
  obtain ⟨w1, w2, w3, w4⟩ := L
  have hrc : ∃ r, vwCl[c]? = some r ∧ r.1 = y.cls := by
    cases hcc : vwCl[c]? with
    | none => rw [hcc] at hc; cases hc
    | some r => rw [hcc] at hc; exact ⟨r, rfl, Option.some.inj hc⟩
  obtain ⟨r, hc1, hc2⟩ := hrc
  obtain ⟨cell, q1, q2, q3, q4⟩ := (hR.2.2.2 b (by omega)).2.2.1 _ _ hk hc1
  have hfc := (hK.1.1 c r hc1).2.1
  refine runX (va_runV (Ts := gwd) (C := y.cls) (b := b) (As := As) (n := na) (free := fun q => D.2.2.size ≤ q) ⟨hx, hb, hml, hown, hts⟩ K ⟨callB_of na hts (goodG w3) rfl rfl rfl (hts _ w2) (hts _ w1) w4 ⟨by rw [g1]; exact hrm.1, by rw [g2]; exact hrm.2⟩, hts _ L2.1, hts _ L2.2⟩ ⟨blindS, ⟨cell, q1, by rw [q3]; rfl, by rw [q2, ← hc2]; exact hfc⟩, fun U hU hW => ⟨rfl, by rw [hU]; exact hR, hK.moved hW⟩⟩ rfl hna (by rw [← hml]; exact hl.1) hst (by show 2 * 0 + _ ≤ 8; omega) d ⟨by rw [g3]; exact hcl, by rw [g4]; exact hsl⟩) hl hL hcl hsl (fun v h' hw => hw)
end CallsY
