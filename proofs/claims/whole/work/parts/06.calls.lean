-- new cells, calls, switches, System.arraycopy
theorem RelH.new {D : Dt} {h : Hp} {H H' : Heap} {kk len : Nat} (hR : RelH D h H) (e2 : H'.size = H.size + 1) (e3 : ∀ q : Nat, q < H.size → H'[q]? = H[q]?) (hc : cellR D (nw h kk len) H' (hn h)) : RelH D (nw h kk len) H' := by
  obtain ⟨r1, r2, r3, r4⟩ := hR
  refine ⟨by rw [e2, r1]; rfl, by rw [hn_nw]; omega, fun q hq => ?_, fun b hb => ?_⟩
  · rw [e3 q (by omega)]; exact r3 q hq
  · by_cases hbh : b = hn h
    · subst hbh
      exact ⟨r2, by rw [hn_nw]; omega, hc⟩
    · rw [kd_nw, if_neg hbh] at hb
      obtain ⟨b1, b2, b3⟩ := r4 b hb
      exact ⟨b1, by rw [hn_nw]; omega, b3.kept (e3 b (by omega)) (by rw [kd_nw, if_neg hbh]) (by rw [ln_nw, if_neg hbh]) (fun j => by rw [gi_nw, if_neg hbh]) (fun j => by rw [gl_nw, if_neg hbh]) (fun j => by rw [gr_nw, if_neg hbh])⟩
def tyT (t : Nat) : FieldType := match t with
  | 0 => .int
  | 1 => .long
  | 2 => .char
  | _ => .boolean
def NL (own : String) (idx c : Nat) : Prop := ∃ r, vwCl[c]? = some r ∧ Cond.classLink own idx r.1 ∈ gwd ∧ Cond.instantiable r.1 r.2.2 ∈ gwd ∧ Cond.initialized r.1 ∈ gwd
section New
variable {X : Ctx} {k n : Nat} {Q : Pq} {pc : Nat} {lv : List (Nat × Value)} {st : List Value} {h : Hp} {own : String} {cc : ByteArray} {nL : Nat} {ret : Option FieldType} {nm : String} {fr lo : Nat} {a c f idx : Nat} {i : Int32}
theorem w_new {N : Nat} (C : Cx X own cc nL ret nm fr lo) (L : NL own idx c) (hN : (vwCl.getD c ("", TX0, 0)).2.2 = N) (d : decode cc pc = .ok (.new idx, 3)) (hcl : k + 1 ≤ mcX X) (hsl : n + N ≤ msX X) (K : Wj X (k + 1) (n + N) Q (pc + 3) lv (.ref (hn h) :: st) (nw h (c + 1) 0)) : Wj X k n Q pc lv st h := by
  obtain ⟨p, l, e, R, s, m, args, below, meth, c0, D, mc, ms⟩ := X
  intro h1 h2 ls H locs hl hR hL
  obtain ⟨hx, hb, hml, hown, hts, hK, hr, hlk, hnm, g1, g2, g3, g4⟩ := C
  obtain ⟨r, hc, l1, l2, l3⟩ := L
  have eN : N = r.2.2 := by
    have e : vwCl.getD c ("", TX0, 0) = r := by rw [List.getD_eq_getElem?_getD, hc]; rfl
    rw [← hN, e]
  subst eN
  obtain ⟨hin, hty, hnm, htk⟩ := clF c r hc
  have hKn := hK.1.1 c r hc
  refine W.newcK hx hb hown (hts _ l1) (hts _ l2) (hts _ l3) rfl d (by rw [g3]; exact hcl) (by rw [g4]; exact hsl) hKn.2.1 rfl fun H1 kC hkC e1 z1 o1 => ?_
  have hlt := vwCl_lt hc
  have K' := K hcl hsl ls H1 locs hl (hR.new z1 o1 ?_) hL
  · rw [hR.1]
    exact K'
  · rw [← hR.1]
    have hkd : kd (nw h (c + 1) 0) H.size = c + 1 := by rw [kd_nw, hR.1, if_pos rfl]
    refine ⟨fun c' r' hk' hc' => ?_, fun h9 => ?_, fun h9 => ?_, fun h9 => ?_, fun h9 => ?_, fun h9 => ?_⟩
    · have ec : c' = c := by omega
      subst ec
      have er : r' = r := Option.some.inj (hc'.symm.trans hc)
      subst er
      refine (u_born (tyF c') hts hin hKn hkC e1 hty).to (fun j hj => ?_)
      have ht := htk j hj
      have z0 : gi (nw h (c' + 1) 0) H.size j = 0 := by rw [gi_nw, hR.1, if_pos rfl]
      have z1 : gl (nw h (c' + 1) 0) H.size j = 0 := by rw [gl_nw, hR.1, if_pos rfl]
      have z2 : gr (nw h (c' + 1) 0) H.size j = none := by rw [gr_nw, hR.1, if_pos rfl]
      have h3 : fty c' j = 0 ∨ fty c' j = 1 ∨ fty c' j = 2 := by have := ht.2.2.2; omega
      rcases h3 with h3 | h3 | h3
      · rw [ht.1 h3, h3]; show Value.int 0 = Value.int (gi _ _ _); rw [z0]
      · rw [ht.2.1 h3, h3]; show Value.long 0 = Value.long (gl _ _ _); rw [z1]
      · rw [h3]; show _ = va_rf (gr _ _ _); rw [z2]
        rcases ht.2.2.1 h3 with ⟨o, e9⟩ | ⟨o, e9⟩ <;> rw [e9] <;> rfl
    all_goals (rw [hkd] at h9; omega)
theorem w_newa {atype : ArrayType} (t : Nat) {ty : FieldType} {N : Nat} (C : Cx X own cc nL ret nm fr lo) (hw : Cond.arrayClass (newarray.typeOf atype) ∈ gwd) (hty : newarray.typeOf atype = ty) (htt : (tyT t) = ty) (ht : t < 4) (d : decode cc pc = .ok (.newarray atype, 2)) (hi : ¬ i < 0) (hN : i.toNatClampNeg = N) (hby : N * componentBytes ty ≤ 536870912) (hcl : k + 1 ≤ mcX X) (hsl : n + N ≤ msX X) (K : Wj X (k + 1) (n + N) Q (pc + 2) lv (.ref (hn h) :: st) (nw h (20 + t) N)) : Wj X k n Q pc lv (.int i :: st) h := by
  obtain ⟨p, l, e, R, s, m, args, below, meth, c0, D, mc, ms⟩ := X
  intro h1 h2 ls H locs hl hR hL
  obtain ⟨hx, hb, hml, hown, hts, hK, hr, hlk, hnm, g1, g2, g3, g4⟩ := C
  subst hty
  refine va_newaK hx hb (hts _ hw) rfl d rfl hi hN hby (by rw [g3]; exact hcl) (by rw [g4]; exact hsl) rfl fun H1 cA e1 z1 o1 hAr hNm => ?_
  have hcA : cA = D.2.1 t ∧ (fun (_ : Nat) => defaultValue (newarray.typeOf atype)) = arrF (nw h (20 + t) N) H.size t := by
    have z0 : ∀ j, gi (nw h (20 + t) N) H.size j = 0 := fun j => by rw [gi_nw, hR.1, if_pos rfl]
    have z1 : ∀ j, gl (nw h (20 + t) N) H.size j = 0 := fun j => by rw [gl_nw, hR.1, if_pos rfl]
    match t, ht, htt with
    | 0, _, htt => exact ⟨Option.some.inj (hNm.symm.trans (by rw [← htt]; exact (hK.1.2 0 _ rfl).2)), by rw [← htt]; funext j; show Value.int 0 = Value.int (gi _ _ _); rw [z0]⟩
    | 1, _, htt => exact ⟨Option.some.inj (hNm.symm.trans (by rw [← htt]; exact (hK.1.2 1 _ rfl).2)), by rw [← htt]; funext j; show Value.long 0 = Value.long (gl _ _ _); rw [z1]⟩
    | 2, _, htt => exact ⟨Option.some.inj (hNm.symm.trans (by rw [← htt]; exact (hK.1.2 2 _ rfl).2)), by rw [← htt]; funext j; show Value.int 0 = Value.int (gi _ _ _); rw [z0]⟩
    | 3, _, htt => exact ⟨Option.some.inj (hNm.symm.trans (by rw [← htt]; exact (hK.1.2 3 _ rfl).2)), by rw [← htt]; funext j; show Value.int 0 = Value.int (gi _ _ _); rw [z0]⟩
  have K' := K hcl hsl ls H1 locs hl (hR.new z1 o1 ?_) hL
  · rw [hR.1]
    exact K'
  · rw [← hR.1]
    refine cellR.arr (t := t) (by rw [kd_nw, hR.1, if_pos rfl]) (by omega) ?_
    rw [e1, hcA.1, ln_nw, hR.1, if_pos rfl, hcA.2, hR.1]
theorem w_anew {N : Nat} (C : Cx X own cc nL ret nm fr lo) (hw : Cond.classLink own idx "DividingHead$Head" ∈ gwd) (d : decode cc pc = .ok (.anewarray idx, 3)) (hi : ¬ i < 0) (hN : i.toNatClampNeg = N) (hby : N * 4 ≤ 536870912) (hcl : k + 1 ≤ mcX X) (hsl : n + N ≤ msX X) (K : Wj X (k + 1) (n + N) Q (pc + 3) lv (.ref (hn h) :: st) (nw h 24 N)) : Wj X k n Q pc lv (.int i :: st) h := by
  obtain ⟨p, l, e, R, s, m, args, below, meth, c0, D, mc, ms⟩ := X
  intro h1 h2 ls H locs hl hR hL
  obtain ⟨hx, hb, hml, hown, hts, hK, hr, hlk, hnm, g1, g2, g3, g4⟩ := C
  subst hN
  refine W.anew hx hb hown (hts _ hw) (va_AO.use hK.2.2.1) rfl d rfl hi hby (by rw [g3]; exact hcl) (by rw [g4]; exact hsl) fun cA kA comp f1 f2 f3 f4 => ?_
  generalize hH1 : H.push ({ cls := cA, slots := Array.replicate i.toNatClampNeg .null, vm := .none } : Cell) = H1
  have z1 : H1.size = H.size + 1 := by rw [← hH1, Array.size_push]
  have e1 : H1[H.size]? = some (arrV cA i.toNatClampNeg (fun _ => .null)) := by rw [← hH1, Array.getElem?_push_size, ← arrV_new]
  have o1 : ∀ q : Nat, q < H.size → H1[q]? = H[q]? := fun q hq => by rw [← hH1, Array.getElem?_push, if_neg (Nat.ne_of_lt hq)]
  obtain ⟨kB, compB, b1, b2, b3, b4⟩ := (hK.1.2 4 _ rfl).2
  have hcA : cA = D.2.1 4 := Option.some.inj (f1.symm.trans b4)
  have K' := K hcl hsl ls H1 locs hl (hR.new z1 o1 ?_) hL
  · rw [hR.1]
    exact K'
  · rw [← hR.1]
    refine cellR.arr (t := 4) (by rw [kd_nw, hR.1, if_pos rfl]) (by omega) ?_
    have z2 : (fun (_ : Nat) => Value.null) = arrF (nw h 24 i.toNatClampNeg) H.size 4 := by
      funext j; show Value.null = va_rf (gr _ _ _); rw [gr_nw, hR.1, if_pos rfl]; rfl
    rw [e1, hcA, ln_nw, hR.1, if_pos rfl, z2, hR.1]
theorem w_objInit (C : Cx X own cc nL ret nm fr lo) (w1 : Cond.methodLink own idx Lib.objectInit ∈ gwd) (w2 : Cond.instanceMethod Lib.objectInit ∈ gwd) (w3 : Cond.code Lib.objectInit ⟨#[0xb1]⟩ 1 none ∈ gwd) (d : decode cc pc = .ok (.invokespecial idx, 3)) (hfr : 1 ≤ fr) (hlo : (st.map fun v => v.category).sum + 12 ≤ lo) (K : Wj X k n Q (pc + 3) lv st h) : Wj X k n Q pc lv (.ref a :: st) h := by
  obtain ⟨p, l, e, R, s, m, args, below, meth, c0, D, mc, ms⟩ := X
  intro h1 h2 ls H locs hl hR hL
  obtain ⟨hx, hb, hml, hown, hts, hK, hr, hlk, hnm, g1, g2, g3, g4⟩ := C
  exact W.objInit hx hb hown (hts _ w1) (hts _ w2) (hts _ w3) rfl hl.1 rfl d (by rw [g1]; exact hfr) (by rw [g2]; show 2 * 0 + _ + 12 ≤ lo; omega) (K h1 h2 ls H locs hl hR hL)
theorem w_tswIn {dflt lw hi off : Int} {offs : Array Int} {len tgt : Nat} {x : Int32} (C : Cx X own cc nL ret nm fr lo) (d : decode cc pc = .ok (.tableswitch dflt lw hi offs, len)) (q1 : ¬ x.toInt < lw) (q2 : ¬ hi < x.toInt) (ho : offs[(x.toInt - lw).toNat]? = some off) (ht : (pc : Int) + off = (tgt : Int)) (K : Wj X k n Q tgt lv st h) : Wj X k n Q pc lv (.int x :: st) h := by
  obtain ⟨p, l, e, R, s, m, args, below, meth, c0, D, mc, ms⟩ := X
  exact fun h1 h2 ls H locs hl hR hL => lv_tableIn C.1 C.2.1 d q1 q2 ho ht (K h1 h2 ls H locs hl hR hL)
theorem w_tswOut {dflt lw hi : Int} {offs : Array Int} {len tgt : Nat} {x : Int32} (C : Cx X own cc nL ret nm fr lo) (d : decode cc pc = .ok (.tableswitch dflt lw hi offs, len)) (q : x.toInt < lw ∨ hi < x.toInt) (ht : (pc : Int) + dflt = (tgt : Int)) (K : Wj X k n Q tgt lv st h) : Wj X k n Q pc lv (.int x :: st) h := by
  obtain ⟨p, l, e, R, s, m, args, below, meth, c0, D, mc, ms⟩ := X
  exact fun h1 h2 ls H locs hl hR hL => lv_tableOut C.1 C.2.1 d q ht (K h1 h2 ls H locs hl hR hL)
theorem w_lsw {dflt off : Int} {ps : Array (Int × Int)} {len tgt : Nat} {x : Int32} (C : Cx X own cc nL ret nm fr lo) (d : decode cc pc = .ok (.lookupswitch dflt ps, len)) (hp : (ps.toList.zip (ps.toList.drop 1)).all (fun (a, next) => a.1 < next.1) = true) (ho : Op.lookupswitch.offset ps.toList dflt x.toInt = off) (ht : (pc : Int) + off = (tgt : Int)) (K : Wj X k n Q tgt lv st h) : Wj X k n Q pc lv (.int x :: st) h := by
  obtain ⟨p, l, e, R, s, m, args, below, meth, c0, D, mc, ms⟩ := X
  exact fun h1 h2 ls H locs hl hR hL => lv_lookup C.1 C.2.1 d hp ho ht (K h1 h2 ls H locs hl hR hL)
end New
-- calls
def CL (own : String) (idx : Nat) (y : MethodName) (bytes : ByteArray) (maxL : Nat) (ret : Option FieldType) (na : Nat) : Prop :=
  Cond.methodLink own idx y ∈ gwd ∧ Cond.initialized y.cls ∈ gwd ∧ Cond.code y bytes maxL ret ∈ gwd ∧ y.cls ≠ "java/lang/invoke/MethodHandle" ∧ y.cls ≠ "java/lang/invoke/VarHandle" ∧ (parseMethodDescriptor y.desc).map (fun d => d.parameters.length) = some na
def CLN (own : String) (idx : Nat) (y : MethodName) (bytes : ByteArray) (maxL : Nat) (ret : Option FieldType) (na : Nat) : Prop :=
  Cond.methodLinkNest own idx y RX9 ∈ nestW ∧ Cond.initialized y.cls ∈ gwd ∧ Cond.code y bytes maxL ret ∈ gwd ∧ y.cls ≠ "java/lang/invoke/MethodHandle" ∧ y.cls ≠ "java/lang/invoke/VarHandle" ∧ (parseMethodDescriptor y.desc).map (fun d => d.parameters.length) = some na
theorem goodG {y : MethodName} {bytes : ByteArray} {maxL : Nat} {ret : Option FieldType} (h : Cond.code y bytes maxL ret ∈ gwd) : GoodIn gwd (.code y bytes maxL ret :: gwd) := fun w hw => by
  rcases List.mem_cons.mp hw with rfl | hw
  · exact ⟨h, gwd_good _ h⟩
  · exact ⟨hw, gwd_good _ hw⟩
section Calls2
variable {p : Program} {l : Launch} {e : Env} {R : Room} {s : State} {m : MethodId} {args : Array Value} {below : List Frame} {meth : Method} {c0 : Code} {D : Dt} {mc ms : Nat}
theorem blindS {av : List Value} {h : Hp} : FrameBlind (va_Pc av (fun U => RelH D h U.heap ∧ Kn D U)) := fun a U g mk q => ⟨q.1, q.2.1, Kn.same (u := U) (U := U.calling g mk a) rfl q.2.2⟩
theorem preS {av : List Value} {h : Hp} {H : Heap} (hR : RelH D h H) (hK : Kn D s) : PreS s H (va_Pc av (fun U => RelH D h U.heap ∧ Kn D U)) av := ⟨blindS, fun U hU hW => ⟨rfl, by rw [hU]; exact hR, hK.moved hW⟩⟩
theorem runW {k n k' n' : Nat} {Q Q' : Pq} {pc : Nat} {lv : List (Nat × Value)} {st st0 : List Value} {ls : Array Slot} {H : Heap} {locs : List Loc} {av : Array Value}
    (hr : va_Run p l e R s m args below meth c0 H locs k n k' n' (F0 m pc ls st0) st (Qm D Q' av) (fun q => D.2.2.size ≤ q)) (hl : lv_has ls c0.maxLocals lv) (hL : ∀ q ∈ locs, D.2.2.size ≤ q.base) (h1 : k + k' ≤ mc) (h2 : n + n' ≤ ms)
    (hq : ∀ v h', Q' v h' → Wj (p, l, e, R, s, m, args, below, meth, c0, D, mc, ms) (k + k') (n + n') Q (pc + 3) lv (v.toList ++ st) h') : W p l e R s m args below meth c0 H locs k n (MQ below (Qm D Q) args s mc ms (fun q => D.2.2.size ≤ q)) (F0 m pc ls st0) := by
  intro T hT X
  obtain ⟨v, st₀, t, T', L, e0, X', hL', e1, e2, ⟨v', h', ev, hp, hRel⟩, go⟩ := hr T hT X
  cases ev
  obtain ⟨t2, a1, b1⟩ := hq v h' hp h1 h2 ls t.heap (locs ++ L) hl hRel (locs_app hL hL') T' e1 X'
  exact ⟨t2, go t2 a1, b1⟩
end Calls2
section Calls3
variable {X : Ctx} {k n : Nat} {Q : Pq} {pc : Nat} {lv : List (Nat × Value)} {st st0 : List Value} {h : Hp} {own : String} {cc : ByteArray} {nL : Nat} {ret : Option FieldType} {nm : String} {fr lo : Nat} {b c idx na : Nat}
variable {y : MethodName} {bytes : ByteArray} {maxL fr' lo' k' n' : Nat} {ret' : Option FieldType} {As : List Value}
theorem w_callV (C : Cx X own cc nL ret nm fr lo) (L : CL own idx y bytes maxL ret' na) (L2 : Cond.instanceMethod y ∈ gwd ∧ Cond.selects y.cls y y ∈ gwd) (hrm : fr' + 1 ≤ fr ∧ 8 + (maxL + 11) + lo' ≤ lo) (d : decode cc pc = .ok (.invokevirtual idx, 3)) (hst : st0 = As.reverse ++ .ref b :: st) (hna : As.length = na) (hW : (st.map fun v => v.category).sum ≤ 8) (hc : (vwCl[c]?).map (fun r => r.1) = some y.cls) (hcl : k + k' ≤ mcX X) (hsl : n + n' ≤ msX X) (hk : kd h b = c + 1)
    (K : Sp (lX X) (dtX X) y bytes maxL ret' fr' lo' k' n' (.ref b :: As) h (fun v h' => Wj X (k + k') (n + n') Q (pc + 3) lv (v.toList ++ st) h')) : Wj X k n Q pc lv st0 h := by
  obtain ⟨p, l, e, R, s, m, args, below, meth, c0, D, mc, ms⟩ := X
  intro h1 h2 ls H locs hl hR hL
  obtain ⟨hx, hb, hml, hown, hts, hK, hr, hlk, hnm, g1, g2, g3, g4⟩ := C
  obtain ⟨w1, w2, w3, w4⟩ := L
  have hrc : ∃ r, vwCl[c]? = some r ∧ r.1 = y.cls := by
    cases hcc : vwCl[c]? with
    | none => rw [hcc] at hc; cases hc
    | some r => rw [hcc] at hc; exact ⟨r, rfl, Option.some.inj hc⟩
  obtain ⟨r, hc1, hc2⟩ := hrc
  obtain ⟨cell, q1, q2, q3, q4⟩ := (hR.2.2.2 b (by omega)).2.2.1 _ _ hk hc1
  have hfc := (hK.1.1 c r hc1).2.1
  refine runW (va_runV (Ts := gwd) (C := y.cls) (b := b) (As := As) (n := na) (free := fun q => D.2.2.size ≤ q) ⟨hx, hb, hml, hown, hts⟩ K ⟨callB_of na hts (goodG w3) rfl rfl rfl (hts _ w2) (hts _ w1) w4 ⟨by rw [g1]; exact hrm.1, by rw [g2]; exact hrm.2⟩, hts _ L2.1, hts _ L2.2⟩ ⟨blindS, ⟨cell, q1, by rw [q3]; rfl, by rw [q2, ← hc2]; exact hfc⟩, fun U hU hW => ⟨rfl, by rw [hU]; exact hR, hK.moved hW⟩⟩ rfl hna (by rw [← hml]; exact hl.1) hst (by show 2 * 0 + _ ≤ 8; omega) d ⟨by rw [g3]; exact hcl, by rw [g4]; exact hsl⟩) hl hL hcl hsl (fun v h' hw => hw)
theorem w_callS (C : Cx X own cc nL ret nm fr lo) (L : CL own idx y bytes maxL ret' na) (L2 : Cond.static y ∈ gwd) (hrm : fr' + 1 ≤ fr ∧ 8 + (maxL + 11) + lo' ≤ lo) (d : decode cc pc = .ok (.invokestatic idx, 3)) (hst : st0 = As.reverse ++ st) (hna : As.length = na) (hW : (st.map fun v => v.category).sum ≤ 8) (hcl : k + k' ≤ mcX X) (hsl : n + n' ≤ msX X)
    (K : Sp (lX X) (dtX X) y bytes maxL ret' fr' lo' k' n' As h (fun v h' => Wj X (k + k') (n + n') Q (pc + 3) lv (v.toList ++ st) h')) : Wj X k n Q pc lv st0 h := by
  obtain ⟨p, l, e, R, s, m, args, below, meth, c0, D, mc, ms⟩ := X
  intro h1 h2 ls H locs hl hR hL
  obtain ⟨hx, hb, hml, hown, hts, hK, hr, hlk, hnm, g1, g2, g3, g4⟩ := C
  obtain ⟨w1, w2, w3, w4⟩ := L
  exact runW (va_runS (Ts := gwd) (As := As) (n := na) (free := fun q => D.2.2.size ≤ q) ⟨hx, hb, hml, hown, hts⟩ K ⟨callB_of na hts (goodG w3) rfl rfl rfl (hts _ w2) (hts _ w1) w4 ⟨by rw [g1]; exact hrm.1, by rw [g2]; exact hrm.2⟩, hts _ L2⟩ (preS hR hK) rfl hna (by rw [← hml]; exact hl.1) hst (by show 2 * 0 + _ ≤ 8; omega) d ⟨by rw [g3]; exact hcl, by rw [g4]; exact hsl⟩) hl hL hcl hsl (fun v h' hw => hw)
theorem w_callI (C : Cx X own cc nL ret nm fr lo) (L : CL own idx y bytes maxL none na) (L2 : y.name = "<init>" ∧ Cond.instanceMethod y ∈ gwd) (hrm : fr' + 1 ≤ fr ∧ 8 + (maxL + 11) + lo' ≤ lo) (d : decode cc pc = .ok (.invokespecial idx, 3)) (hst : st0 = As.reverse ++ .ref b :: st) (hna : As.length = na) (hW : (st.map fun v => v.category).sum ≤ 8) (hcl : k + k' ≤ mcX X) (hsl : n + n' ≤ msX X)
    (K : Sp (lX X) (dtX X) y bytes maxL none fr' lo' k' n' (.ref b :: As) h (fun v h' => Wj X (k + k') (n + n') Q (pc + 3) lv (v.toList ++ st) h')) : Wj X k n Q pc lv st0 h := by
  obtain ⟨p, l, e, R, s, m, args, below, meth, c0, D, mc, ms⟩ := X
  intro h1 h2 ls H locs hl hR hL
  obtain ⟨hx, hb, hml, hown, hts, hK, hr, hlk, hnm, g1, g2, g3, g4⟩ := C
  obtain ⟨w1, w2, w3, w4⟩ := L
  exact runW (va_runI (Ts := gwd) (b := b) (As := As) (n := na) (free := fun q => D.2.2.size ≤ q) ⟨hx, hb, hml, hown, hts⟩ K ⟨callB_of na hts (goodG w3) rfl rfl rfl (hts _ w2) (hts _ w1) w4 ⟨by rw [g1]; exact hrm.1, by rw [g2]; exact hrm.2⟩, L2.1, hts _ L2.2⟩ (preS hR hK) rfl hna (by rw [← hml]; exact hl.1) hst (by show 2 * 0 + _ ≤ 8; omega) d ⟨by rw [g3]; exact hcl, by rw [g4]; exact hsl⟩) hl hL hcl hsl (fun v h' hw => hw)
theorem w_callSN (C : Cx X own cc nL ret nm fr lo) (L : CLN own idx y bytes maxL ret' na) (L2 : Cond.static y ∈ gwd) (hrm : fr' + 1 ≤ fr ∧ 8 + (maxL + 11) + lo' ≤ lo) (d : decode cc pc = .ok (.invokestatic idx, 3)) (hst : st0 = As.reverse ++ st) (hna : As.length = na) (hW : (st.map fun v => v.category).sum ≤ 8) (hcl : k + k' ≤ mcX X) (hsl : n + n' ≤ msX X)
    (K : Sp (lX X) (dtX X) y bytes maxL ret' fr' lo' k' n' As h (fun v h' => Wj X (k + k') (n + n') Q (pc + 3) lv (v.toList ++ st) h')) : Wj X k n Q pc lv st0 h := by
  obtain ⟨p, l, e, R, s, m, args, below, meth, c0, D, mc, ms⟩ := X
  intro h1 h2 ls H locs hl hR hL
  obtain ⟨hx, hb, hml, hown, hts, hK, hr, hlk, hnm, g1, g2, g3, g4⟩ := C
  obtain ⟨w1, w2, w3, w4⟩ := L
  exact runW (va_runSN (Ts := gwd) (As := As) (n := na) (host := RX9) (free := fun q => D.2.2.size ≤ q) ⟨hx, hb, hml, hown, hts⟩ K ⟨va_cnB na hts (goodG w3) rfl rfl rfl (hK.2.1 _ w1) (hts _ w2) w4 ⟨by rw [g1]; exact hrm.1, by rw [g2]; exact hrm.2⟩, hts _ L2, trivial⟩ (preS hR hK) rfl hna (by rw [← hml]; exact hl.1) hst (by show 2 * 0 + _ ≤ 8; omega) d ⟨by rw [g3]; exact hcl, by rw [g4]; exact hsl⟩) hl hL hcl hsl (fun v h' hw => hw)
theorem w_callIN (C : Cx X own cc nL ret nm fr lo) (L : CLN own idx y bytes maxL none na) (L2 : y.name = "<init>" ∧ Cond.instanceMethod y ∈ gwd) (hrm : fr' + 1 ≤ fr ∧ 8 + (maxL + 11) + lo' ≤ lo) (d : decode cc pc = .ok (.invokespecial idx, 3)) (hst : st0 = As.reverse ++ .ref b :: st) (hna : As.length = na) (hW : (st.map fun v => v.category).sum ≤ 8) (hcl : k + k' ≤ mcX X) (hsl : n + n' ≤ msX X)
    (K : Sp (lX X) (dtX X) y bytes maxL none fr' lo' k' n' (.ref b :: As) h (fun v h' => Wj X (k + k') (n + n') Q (pc + 3) lv (v.toList ++ st) h')) : Wj X k n Q pc lv st0 h := by
  obtain ⟨p, l, e, R, s, m, args, below, meth, c0, D, mc, ms⟩ := X
  intro h1 h2 ls H locs hl hR hL
  obtain ⟨hx, hb, hml, hown, hts, hK, hr, hlk, hnm, g1, g2, g3, g4⟩ := C
  obtain ⟨w1, w2, w3, w4⟩ := L
  exact runW (va_runIN (Ts := gwd) (b := b) (As := As) (n := na) (host := RX9) (free := fun q => D.2.2.size ≤ q) ⟨hx, hb, hml, hown, hts⟩ K ⟨va_cnB na hts (goodG w3) rfl rfl rfl (hK.2.1 _ w1) (hts _ w2) w4 ⟨by rw [g1]; exact hrm.1, by rw [g2]; exact hrm.2⟩, L2.1, hts _ L2.2⟩ (preS hR hK) rfl hna (by rw [← hml]; exact hl.1) hst (by show 2 * 0 + _ ≤ 8; omega) d ⟨by rw [g3]; exact hcl, by rw [g4]; exact hsl⟩) hl hL hcl hsl (fun v h' hw => hw)
end Calls3
