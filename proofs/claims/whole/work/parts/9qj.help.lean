-- the law's helpers: what the class throws is caught in them
theorem cl_nseL : Cond.classLink RL 13 NSE ∈ gwd := inT4 159 (by rfl) rfl
def HTb (X : Ctx) (hh : List (Nat × Nat × Nat × Nat)) : Prop :=
  match X with
  | (_, _, _, _, s, _, _, _, _, c, D, _, _) => c.exceptionTable.toList = tableOf hh ∧ Kx D s
def KxX (X : Ctx) : Prop :=
  match X with
  | (_, _, _, _, s, _, _, _, _, _, D, _, _) => Kx D s
/-- the contract of a method with a table, that returns -/
def Sh (l : Launch) (D : Dt) (y : MethodName) (cc : ByteArray) (nL : Nat) (ret : Option FieldType) (hh : List (Nat × Nat × Nat × Nat)) (fr lo mc ms : Nat) (av : List Value) (h : Hp) (Q : Pq) : Prop :=
  Met l y (.codeWith y cc nL ret hh :: gwd) { frames := fr, cells := mc, slots := ms, locals := lo } (va_Pc av (fun U => RelH D h U.heap ∧ Kn D U ∧ Kx D U)) (Qm D Q) mc ms (fun q => D.2.2.size ≤ q)
section HelpA
variable {l : Launch} {D : Dt} {y : MethodName} {cc : ByteArray} {nL : Nat} {ret : Option FieldType} {hh : List (Nat × Nat × Nat × Nat)} {fr lo mc ms : Nat} {av : List Value} {h : Hp} {Q Q' : Pq} {Z Z' : Hp → Prop}
theorem Sh.mono (hs : Sh l D y cc nL ret hh fr lo mc ms av h Q) (hq : ∀ v h', Q v h' → Q' v h') : Sh l D y cc nL ret hh fr lo mc ms av h Q' := by
  unfold Sh Met at hs ⊢
  exact MetFree.mono hs (fun _ _ h => h) (fun _ _ _ _ _ h => h) (fun a s o t _ hx => by
    obtain ⟨⟨v, h', e, hp, hr⟩, hf⟩ := hx
    exact ⟨⟨v, h', e, hq v h' hp, hr⟩, hf⟩)
theorem Sx.mono (hs : Sx l D y cc nL ret fr lo mc ms av h Q Z) (hq : ∀ v h', Q v h' → Q' v h') (hz : ∀ h', Z h' → Z' h') : Sx l D y cc nL ret fr lo mc ms av h Q' Z' := by
  unfold Sx vx_Met at hs ⊢
  exact MetFree.mono hs (fun _ _ h => h) (fun _ _ _ _ _ h => h) (fun a s o t _ hx => by
    rcases hx with ⟨⟨v, h', e, hp, hr⟩, hf⟩ | ⟨q, e, E, ce, L, ⟨eE, h', hp, hr⟩, r⟩
    · exact Or.inl ⟨⟨v, h', e, hq v h' hp, hr⟩, hf⟩
    · exact Or.inr ⟨q, e, E, ce, L, ⟨eE, h', hz h' hp, hr⟩, r⟩)
theorem Sh.of (hy : plainName y.cls = true) (hl : (lg_sl av).length ≤ nL)
    (body : ∀ X : Ctx, Cx X y.cls cc nL ret y.name fr lo → HTb X hh → lX X = l → dtX X = D → mcX X = mc → msX X = ms → Wj X 0 0 Q 0 (lv_args 0 av) [] h) : Sh l D y cc nL ret hh fr lo mc ms av h Q := by
  refine va_MetW (cc := cc) (maxL := nL) (ret := ret) (hh := hh) hy rfl ?_
  intro p e s m args below meth c s₁ B hml hv
  obtain ⟨rfl, hR, hK, hx⟩ := hv
  have hts := atoms_spec (ws := .codeWith y cc nL ret hh :: gwd) B.pre
  have tb := vx_table (x := y) B (hts _ List.mem_cons_self)
  have C : Cx (p, l, e, { frames := fr, cells := mc, slots := ms, locals := lo }, s, m, av.toArray, below, meth, c, D, mc, ms) y.cls cc nL ret y.name fr lo :=
    ⟨B.exec, B.bytes, hml, findClass_of_methodNamed B.named, fun w hw => hts w (List.mem_cons_of_mem _ hw), hK, B.returns, B.notSynchronized, (name_of_methodNamed B.named B.method).1, rfl, rfl, rfl, rfl⟩
  have hle := lv_entry av hl
  rw [lg_entry_eq]
  exact body _ C ⟨tb, hx⟩ rfl rfl rfl rfl (Nat.zero_le _) (Nat.zero_le _) _ _ [] (by rw [hml]; exact hle) hR (fun _ h => by cases h)
theorem blindX : FrameBlind (va_Pc av (fun U => RelH D h U.heap ∧ Kn D U ∧ Kx D U)) := fun a U g mk q => ⟨q.1, q.2.1, Kn.same (u := U) (U := U.calling g mk a) rfl q.2.2.1, Kx.same (u := U) (U := U.calling g mk a) rfl q.2.2.2⟩
theorem goodGW (h : Cond.codeWith y cc nL ret hh ∈ gwd) : GoodIn gwd (.codeWith y cc nL ret hh :: gwd) := fun w hw => by
  rcases List.mem_cons.mp hw with rfl | hw
  · exact ⟨h, gwd_good _ h⟩
  · exact ⟨hw, gwd_good _ hw⟩
end HelpA
section HelpB
variable {X : Ctx} {k n : Nat} {Q : Pq} {pc : Nat} {lv : List (Nat × Value)} {st st0 : List Value} {h : Hp} {own : String} {cc : ByteArray} {nL : Nat} {ret : Option FieldType} {nm : String} {fr lo : Nat} {b c idx na : Nat}
variable {y : MethodName} {bytes : ByteArray} {maxL fr' lo' k' n' : Nat} {ret' : Option FieldType} {As : List Value} {hh : List (Nat × Nat × Nat × Nat)}
/-- a call of a method that may throw, caught here -/
theorem h_callV {ep hp ct : Nat} (C : Cx X own cc nL ret nm fr lo) (T : HTb X [(0, ep, hp, ct)]) (hct : Cond.classLink own ct NSE ∈ gwd) (hcov : covers ⟨0, ep, hp, ct⟩ pc = true) (hc0 : ct ≠ 0) (L : CL own idx y bytes maxL ret' na) (L2 : Cond.instanceMethod y ∈ gwd ∧ Cond.selects y.cls y y ∈ gwd) (hrm : fr' + 1 ≤ fr ∧ 8 + (maxL + 11) + lo' ≤ lo) (d : decode cc pc = .ok (.invokevirtual idx, 3)) (hst : st0 = As.reverse ++ .ref b :: st) (hna : As.length = na) (hW : (st.map fun v => v.category).sum ≤ 8) (hc : (vwCl[c]?).map (fun r => r.1) = some y.cls) (hcl : k + k' ≤ mcX X) (hsl : n + n' ≤ msX X) (hk : kd h b = c + 1)
    (K : Sx (lX X) (dtX X) y bytes maxL ret' fr' lo' k' n' (.ref b :: As) h (fun v h' => Wj X (k + k') (n + n') Q (pc + 3) lv (v.toList ++ st) h') (fun h' => ∀ q, Wj X (k + k') (n + n') Q hp lv [.ref q] h')) : Wj X k n Q pc lv st0 h := by
  obtain ⟨p, l, e, R, s, m, args, below, meth, c0, D, mc, ms⟩ := X
  intro h1 h2 ls H locs hl hR hL
  obtain ⟨hx, hb, hml, hown, hts, hK, hr, hlk, hnm, g1, g2, g3, g4⟩ := C
  obtain ⟨tb, kx⟩ := T
  obtain ⟨w1, w2, w3, w4⟩ := L
  have hrc : ∃ r, vwCl[c]? = some r ∧ r.1 = y.cls := by
    cases hcc : vwCl[c]? with
    | none => rw [hcc] at hc; cases hc
    | some r => rw [hcc] at hc; exact ⟨r, rfl, Option.some.inj hc⟩
  obtain ⟨r, hc1, hc2⟩ := hrc
  obtain ⟨cell, q1, q2, q3, q4⟩ := (hR.2.2.2 b (by omega)).2.2.1 _ _ hk hc1
  have hfc := (hK.1.1 c r hc1).2.1
  have hrun := vx_runV (e := e) (l := l) (p := p) (R := R) (below := below) (meth := meth) (locs := locs) (cells := k) (slots := n) (Ts := gwd) (C := y.cls) (b := b) (As := As) (rest := st) (n := na) (g := F0 m pc ls st0) ⟨hx, hb, hml, hown, hts⟩ K ⟨callB_of na hts (goodG w3) rfl rfl rfl (hts _ w2) (hts _ w1) w4 ⟨by rw [g1]; exact hrm.1, by rw [g2]; exact hrm.2⟩, hts _ L2.1, hts _ L2.2⟩ ⟨blindX, ⟨cell, q1, by rw [q3]; rfl, by rw [q2, ← hc2]; exact hfc⟩, fun U hU hW => ⟨rfl, by rw [hU]; exact hR, hK.moved hW, kx.moved hW⟩⟩ rfl hna (by rw [← hml]; exact hl.1) hst (by show 2 * 0 + _ ≤ 8; omega) d ⟨by rw [g3]; exact hcl, by rw [g4]; exact hsl⟩
  intro T0 hT XS
  rcases hrun T0 hT XS with ⟨v, st₀, t, T', L', e0, X', hL', e1, e2, ⟨v', h', ev, hq, hRel⟩, go⟩ | ⟨q, st₀, t, T', L', E, ce, e0, X', hL', e1, e2, ⟨eE, h', hz, hRel⟩, hce, hcv, hcl', st1⟩
  · cases ev
    obtain ⟨t2, a1, b1⟩ := hq hcl hsl ls t.heap (locs ++ L') hl hRel (locs_app hL hL') T' e1 X'
    exact ⟨t2, go t2 a1, b1⟩
  · subst eE
    have kk := hz q hcl hsl ls t.heap (locs ++ L') hl hRel (locs_app hL hL')
    obtain ⟨t2, a1, b1⟩ := vx_catch (own := own) (name := NSE) (E := NSE) (pc := pc) (rest := st) (ls := ls) hown [] ⟨0, ep, hp, ct⟩ [] (by rw [tb]; rfl) (fun z hz => by cases hz) hcov hc0 (hts _ hct) (va_Nw.use rfl kx.2.2.2.2) hce hcv hcl' kk T' e1 X'
    exact ⟨t2, st1.trans a1, b1⟩
/-- a call of a method with a table -/
theorem w_callSW (C : Cx X own cc nL ret nm fr lo) (kx : KxX X) (w1 : Cond.methodLink own idx y ∈ gwd) (w2 : Cond.initialized y.cls ∈ gwd) (w3 : Cond.codeWith y bytes maxL ret' hh ∈ gwd) (w4 : y.cls ≠ "java/lang/invoke/MethodHandle" ∧ y.cls ≠ "java/lang/invoke/VarHandle" ∧ (parseMethodDescriptor y.desc).map (fun d => d.parameters.length) = some na) (w5 : Cond.static y ∈ gwd) (hrm : fr' + 1 ≤ fr ∧ 8 + (maxL + 11) + lo' ≤ lo) (d : decode cc pc = .ok (.invokestatic idx, 3)) (hst : st0 = As.reverse ++ st) (hna : As.length = na) (hW : (st.map fun v => v.category).sum ≤ 8) (hcl : k + k' ≤ mcX X) (hsl : n + n' ≤ msX X)
    (K : Sh (lX X) (dtX X) y bytes maxL ret' hh fr' lo' k' n' As h (fun v h' => Wj X (k + k') (n + n') Q (pc + 3) lv (v.toList ++ st) h')) : Wj X k n Q pc lv st0 h := by
  obtain ⟨p, l, e, R, s, m, args, below, meth, c0, D, mc, ms⟩ := X
  intro h1 h2 ls H locs hl hR hL
  obtain ⟨hx, hb, hml, hown, hts, hK, hr, hlk, hnm, g1, g2, g3, g4⟩ := C
  have kx : Kx D s := kx
  have hlen : ∀ sig, parseMethodDescriptor y.desc = some sig → na = sig.parameters.length := fun sig h => by
    have h2 := w4.2.2
    rw [h] at h2
    exact (Option.some.inj h2).symm
  exact runW (vx_runSW (Ts := gwd) (As := As) (n := na) (hh := hh) (free := fun q => D.2.2.size ≤ q) ⟨hx, hb, hml, hown, hts⟩ K ⟨⟨rfl, rfl, by rw [g1]; exact hrm.1, by rw [g2]; exact hrm.2, pay_in hts (goodGW w3), List.mem_cons_self⟩, hts _ w3, hts _ w2, ⟨w4.1, w4.2.1⟩, hlen, hts _ w1, hts _ w5⟩ ⟨blindX, fun U hU hW => ⟨rfl, by rw [hU]; exact hR, hK.moved hW, kx.moved hW⟩⟩ rfl hna (by rw [← hml]; exact hl.1) hst (by show 2 * 0 + _ ≤ 8; omega) d ⟨by rw [g3]; exact hcl, by rw [g4]; exact hsl⟩) hl hL hcl hsl (fun v h' hw => hw)
end HelpB
