-- texts: rows over what lies there from the start; the JDK's methods
section TxW
variable {p : Program} {l : Launch} {e : Env} {R : Room} {s : State} {m : MethodId} {args : Array Value} {below : List Frame} {meth : Method} {c : Code} {H : Heap} {locs : List Loc} {cells slots : Nat} {Q : State → Prop} {cc : ByteArray} {pc : Nat} {ls : Array Slot} {rest : List Value}
theorem tx_ldcwS {T : State} (X : Stand p l e R s m args below meth c T locs cells slots) (hexec : p.tables.exec = Jvm.exec) {own text : String} {index : Nat} {a : Addr} (hown : s.vm.findClass own = some m.cls)
    (hconst : (Cond.stringRef own index text).before args s = true) (hev : (Term.string own index).eval args s none [] s = some (.ref a)) {g : JFrame} (hg : g.method = m) (hdg : decode c.code g.pc = .ok (.ldc_w index, 3)) :
    ∀ target, Steps p.tables e below (T.setTop { g with pc := g.pc + 3, stack := .ref a :: g.stack }) target → Steps p.tables e below (T.setTop g) target := by
  obtain ⟨k, cf, i, a', hk, hcf, hcp, -, hr, hev'⟩ := Cond.stringRef_spec hown hconst
  cases hev.symm.trans hev'
  obtain ⟨k', hk', he⟩ := X.warmed.alike.2.2 _ _ hk
  have hr' : k'.resolved[index]? = some (some (.string a)) := by
    rcases X.warmed.entry hk hk' index with h | ⟨h, -⟩
    · rw [h]; exact hr
    · rw [hr] at h; cases h
  intro target hrest
  subst hg
  jvm_step X.here [hexec, hdg, ldc_w.wp_string (e := e) (s := T) (f := g) X.here.top hk' (by rw [he]; exact hcf) hcp hr']
  exact hrest
theorem lv_ldcwS (hexec : p.tables.exec = Jvm.exec) (hb : c.code = cc) {own tx : String} {index q : Nat} (hown : s.vm.findClass own = some m.cls) (hZ : vk_R own index tx q s) (hdg : decode cc pc = .ok (.ldc_w index, 3))
    (k : W p l e R s m args below meth c H locs cells slots Q (F0 m (pc + 3) ls (.ref q :: rest))) : W p l e R s m args below meth c H locs cells slots Q (F0 m pc ls rest) := by
  intro T hT X
  obtain ⟨t, a1, b1⟩ := k T hT X
  exact ⟨t, tx_ldcwS X hexec hown (text := tx) (a := q) hZ.1 hZ.2 (g := F0 m pc ls rest) rfl (by rw [hb]; exact hdg) t a1, b1⟩
end TxW
theorem RelH.keep {D : Dt} {h : Hp} {H : Heap} (hR : RelH D h H) : ∀ a : Nat, a < D.2.2.size → ¬ oldA D a → H[a]? = D.2.2[a]? := fun a ha _ => hR.2.2.1 a ha
section TxRows
variable {X : Ctx} {k n : Nat} {Q : Pq} {pc : Nat} {lv : List (Nat × Value)} {st : List Value} {h : Hp} {own : String} {cc : ByteArray} {nL : Nat} {ret : Option FieldType} {nm : String} {fr lo idx : Nat}
theorem w_ldcS {i : Nat} {tx : String} (C : Cx X own cc nL ret nm fr lo) (hz : ∀ U, Ks (dtX X) U → vk_R own idx tx (txK (dtX X) i) U) (d : decode cc pc = .ok (.ldc idx, 2)) (K : Wj X k n Q (pc + 2) lv (.ref (txK (dtX X) i) :: st) h) : Wj X k n Q pc lv st h := by
  obtain ⟨p, l, e, R, s, m, args, below, meth, c0, D, mc, ms⟩ := X
  obtain ⟨hx, hb, hml, hown, hts, hK, hr⟩ := C
  exact fun h1 h2 ls H locs hl hR hL => va_ldcS hx hb hown (hz s hK.2.2.2) d (K h1 h2 ls H locs hl hR hL)
theorem w_ldcwS {i : Nat} {tx : String} (C : Cx X own cc nL ret nm fr lo) (hz : ∀ U, Ks (dtX X) U → vk_R own idx tx (txK (dtX X) i) U) (d : decode cc pc = .ok (.ldc_w idx, 3)) (K : Wj X k n Q (pc + 3) lv (.ref (txK (dtX X) i) :: st) h) : Wj X k n Q pc lv st h := by
  obtain ⟨p, l, e, R, s, m, args, below, meth, c0, D, mc, ms⟩ := X
  obtain ⟨hx, hb, hml, hown, hts, hK, hr⟩ := C
  exact fun h1 h2 ls H locs hl hR hL => lv_ldcwS hx hb hown (hz s hK.2.2.2) d (K h1 h2 ls H locs hl hR hL)
theorem w_gets {cn fn fd : String} {v : Value} (C : Cx X own cc nL ret nm fr lo) (hw : Cond.fieldLink own idx cn fn fd ∈ gwd) (hz : ∀ U, Ks (dtX X) U → va_Z cn fn fd v (oldA (dtX X)) U (dtX X).2.2) (d : decode cc pc = .ok (.getstatic idx, 3)) (K : Wj X k n Q (pc + 3) lv (v :: st) h) : Wj X k n Q pc lv st h := by
  obtain ⟨p, l, e, R, s, m, args, below, meth, c0, D, mc, ms⟩ := X
  obtain ⟨hx, hb, hml, hown, hts, hK, hr⟩ := C
  intro h1 h2 ls H locs hl hR hL
  obtain ⟨cf, kf, fi, f, a, cell, e1, e2, e3, e4, e5, e6, e7, e8⟩ := (hz s hK.2.2.2).kept hR.keep
  exact W.gets hx hb hown (hts _ hw) e1 e2 e3 e4 e5 (fun e => by rw [e] at e6; cases e6) e7 rfl d (K h1 h2 ls H locs hl hR hL)
/-- a static of which only this is known, that it is an object or null -/
theorem w_getsQ {cn fn fd : String} (C : Cx X own cc nL ret nm fr lo) (hw : Cond.fieldLink own idx cn fn fd ∈ gwd) (hz : ∀ U, Ks (dtX X) U → va_Zq cn fn fd (oldA (dtX X)) U (dtX X).2.2) (d : decode cc pc = .ok (.getstatic idx, 3)) (K : ∀ o : Option Nat, Wj X k n Q (pc + 3) lv (va_rf o :: st) h) : Wj X k n Q pc lv st h := by
  obtain ⟨p, l, e, R, s, m, args, below, meth, c0, D, mc, ms⟩ := X
  obtain ⟨hx, hb, hml, hown, hts, hK, hr⟩ := C
  intro h1 h2 ls H locs hl hR hL
  rcases hz s hK.2.2.2 with z | ⟨t, z⟩
  · obtain ⟨cf, kf, fi, f, a, cell, e1, e2, e3, e4, e5, e6, e7, e8⟩ := z.kept hR.keep
    exact W.gets hx hb hown (hts _ hw) e1 e2 e3 e4 e5 (fun e => by rw [e] at e6; cases e6) e7 rfl d (K none h1 h2 ls H locs hl hR hL)
  · obtain ⟨cf, kf, fi, f, a, cell, e1, e2, e3, e4, e5, e6, e7, e8⟩ := z.kept hR.keep
    exact W.gets hx hb hown (hts _ hw) e1 e2 e3 e4 e5 (fun e => by rw [e] at e6; cases e6) e7 rfl d (K (some t) h1 h2 ls H locs hl hR hL)
theorem w_getsN {cn fn fd : String} {v : Value} (C : Cx X own cc nL ret nm fr lo) (hz : ∀ U, Ks (dtX X) U → va_Z cn fn fd v (oldA (dtX X)) U (dtX X).2.2 ∧ va_Nw (.fieldLinkNest own idx cn fn fd RX9) U) (d : decode cc pc = .ok (.getstatic idx, 3)) (K : Wj X k n Q (pc + 3) lv (v :: st) h) : Wj X k n Q pc lv st h := by
  obtain ⟨p, l, e, R, s, m, args, below, meth, c0, D, mc, ms⟩ := X
  obtain ⟨hx, hb, hml, hown, hts, hK, hr⟩ := C
  intro h1 h2 ls H locs hl hR hL
  obtain ⟨z1, z2⟩ := hz s hK.2.2.2
  obtain ⟨cf, kf, fi, f, a, cell, e1, e2, e3, e4, e5, e6, e7, e8⟩ := z1.kept hR.keep
  exact va_WgetsN hx hb hown (va_Nw.use rfl z2) e1 e2 e3 e4 e5 (fun e => by rw [e] at e6; cases e6) e7 rfl d (K h1 h2 ls H locs hl hR hL)
theorem w_getT {i : Nat} {cn fn fd : String} {v : Value} (C : Cx X own cc nL ret nm fr lo) (hw : Cond.fieldLink own idx cn fn fd ∈ gwd) (hz : ∀ U, Ks (dtX X) U → va_OF cn fn fd v (txK (dtX X) i) (oldA (dtX X)) U (dtX X).2.2) (d : decode cc pc = .ok (.getfield idx, 3)) (K : Wj X k n Q (pc + 3) lv (v :: st) h) : Wj X k n Q pc lv (.ref (txK (dtX X) i) :: st) h := by
  obtain ⟨p, l, e, R, s, m, args, below, meth, c0, D, mc, ms⟩ := X
  obtain ⟨hx, hb, hml, hown, hts, hK, hr⟩ := C
  intro h1 h2 ls H locs hl hR hL
  obtain ⟨cf, kf, fi, f, cell, e1, e2, e3, e4, e5, e6⟩ := (hz s hK.2.2.2).kept hR.keep
  exact W.getf hx hb hown (hts _ hw) e1 e2 e3 e4 (v := v) e5 rfl rfl d (K h1 h2 ls H locs hl hR hL)
theorem w_alenT {ty : FieldType} {t N : Nat} {f : Nat → Value} (C : Cx X own cc nL ret nm fr lo) (hz : ∀ U, Ks (dtX X) U → va_T ty t N f (oldA (dtX X)) U (dtX X).2.2) (d : decode cc pc = .ok (.arraylength, 1)) (K : Wj X k n Q (pc + 1) lv (.int (Int32.ofNat N) :: st) h) : Wj X k n Q pc lv (.ref t :: st) h := by
  obtain ⟨p, l, e, R, s, m, args, below, meth, c0, D, mc, ms⟩ := X
  obtain ⟨hx, hb, hml, hown, hts, hK, hr⟩ := C
  intro h1 h2 ls H locs hl hR hL
  obtain ⟨cell, e1, e2, e3, e4, e5, e6, e7⟩ := (hz s hK.2.2.2).kept hR.keep
  exact W.alen hx hb e1 e2 e5 rfl rfl d (K h1 h2 ls H locs hl hR hL)
theorem w_baldT {t N : Nat} {f : Nat → Value} {j : Int32} {v : Value} (C : Cx X own cc nL ret nm fr lo) (hz : ∀ U, Ks (dtX X) U → va_T .byte t N f (oldA (dtX X)) U (dtX X).2.2) (hj : inb j N) (hv : f (ix j) = v) (d : decode cc pc = .ok (.baload, 1)) (K : Wj X k n Q (pc + 1) lv (v :: st) h) : Wj X k n Q pc lv (.int j :: .ref t :: st) h := by
  obtain ⟨p, l, e, R, s, m, args, below, meth, c0, D, mc, ms⟩ := X
  obtain ⟨hx, hb, hml, hown, hts, hK, hr⟩ := C
  intro h1 h2 ls H locs hl hR hL
  obtain ⟨cell, e1, e2, e3, e4, e5, e6, e7⟩ := (hz s hK.2.2.2).kept hR.keep
  exact W.bald (v := v) hx hb e1 e2 e3 (fun q => inb_not hj (q.imp id (fun z => Nat.le_trans e4 z))) (by rw [ix_clamp, e6 _ (ix_lt hj), hv]) rfl rfl d (K h1 h2 ls H locs hl hR hL)
theorem w_ialdT {t N : Nat} {f : Nat → Value} {j : Int32} {v : Value} (C : Cx X own cc nL ret nm fr lo) (hz : ∀ U, Ks (dtX X) U → va_T .int t N f (oldA (dtX X)) U (dtX X).2.2) (hj : inb j N) (hv : f (ix j) = v) (d : decode cc pc = .ok (.iaload, 1)) (K : Wj X k n Q (pc + 1) lv (v :: st) h) : Wj X k n Q pc lv (.int j :: .ref t :: st) h := by
  obtain ⟨p, l, e, R, s, m, args, below, meth, c0, D, mc, ms⟩ := X
  obtain ⟨hx, hb, hml, hown, hts, hK, hr⟩ := C
  intro h1 h2 ls H locs hl hR hL
  obtain ⟨cell, e1, e2, e3, e4, e5, e6, e7⟩ := (hz s hK.2.2.2).kept hR.keep
  exact W.iald (v := v) hx hb e1 e2 e3 (fun q => inb_not hj (q.imp id (fun z => Nat.le_trans e4 z))) (by rw [ix_clamp, e6 _ (ix_lt hj), hv]) rfl rfl d (K h1 h2 ls H locs hl hR hL)
theorem w_nret {x : Int32} {ty : FieldType} (C : Cx X own cc nL (some ty) nm fr lo) (d : decode cc pc = .ok (.ireturn, 1)) (hn : narrow ty (.int x) = .int x) (K : Q (some (.int x)) h) : Wj X k n Q pc lv [.int x] h := by
  obtain ⟨p, l, e, R, s, m, args, below, meth, c, D, mc, ms⟩ := X
  obtain ⟨hx, hb, hml, hown, hts, hK, hr, hlk, hnm⟩ := C
  exact fun h1 h2 ls H locs hl hR hL => W.widen h1 h2 (W.zret hx hb hr hn (fun t ht _ => ⟨_, h, rfl, K, by rw [ht]; exact hR⟩) hL d hlk)
variable {y : MethodName} {bytes : ByteArray} {maxL fr' lo' na : Nat} {ret' : Option FieldType} {As st0 : List Value}
/-- a call of a text's method -/
theorem w_callT {i : Nat} (hi : i < 3) (C : Cx X own cc nL ret nm fr lo) (L : CL own idx y bytes maxL ret' na) (L2 : Cond.instanceMethod y ∈ gwd ∧ Cond.selects y.cls y y ∈ gwd) (hrm : fr' + 1 ≤ fr ∧ 8 + (maxL + 11) + lo' ≤ lo) (d : decode cc pc = .ok (.invokevirtual idx, 3)) (hst : st0 = As.reverse ++ .ref (txK (dtX X) i) :: st) (hna : As.length = na) (hW : (st.map fun v => v.category).sum ≤ 8) (hc : y.cls = "java/lang/String")
    (K : Sp (lX X) (dtX X) y bytes maxL ret' fr' lo' 0 0 (.ref (txK (dtX X) i) :: As) h (fun v h' => Wj X k n Q (pc + 3) lv (v.toList ++ st) h')) : Wj X k n Q pc lv st0 h := by
  obtain ⟨p, l, e, R, s, m, args, below, meth, c0, D, mc, ms⟩ := X
  intro h1 h2 ls H locs hl hR hL
  obtain ⟨hx, hb, hml, hown, hts, hK, hr, hlk, hnm, g1, g2, g3, g4⟩ := C
  obtain ⟨w1, w2, w3, w4⟩ := L
  obtain ⟨cell, q1, q2, q3, -⟩ := (hK.2.2.2.1.1 i hi).1.kept hR.keep
  refine runW (va_runV (Ts := gwd) (C := y.cls) (b := txK D i) (As := As) (n := na) (free := fun q => D.2.2.size ≤ q) ⟨hx, hb, hml, hown, hts⟩ K ⟨callB_of na hts (goodG w3) rfl rfl rfl (hts _ w2) (hts _ w1) w4 ⟨by rw [g1]; exact hrm.1, by rw [g2]; exact hrm.2⟩, hts _ L2.1, hts _ L2.2⟩ ⟨blindS, ⟨cell, q1, q2, by rw [hc]; exact q3⟩, fun U hU hW => ⟨rfl, by rw [hU]; exact hR, hK.moved hW⟩⟩ rfl hna (by rw [← hml]; exact hl.1) hst (by show 2 * 0 + _ ≤ 8; omega) d ⟨by rw [g3]; exact h1, by rw [g4]; exact h2⟩) hl hL h1 h2 (fun v h' hw => hw)
end TxRows
section TxJ
variable {X : Ctx} {l : Launch} {D : Dt} {h : Hp}
theorem sf_J3_check {a b : Int32} {o : Option Nat} (h0 : ¬ a < 0) (h1 : a < b) : S_J3_checkIndex_8e157 l D 0 0 [.int a, .int b, va_rf o] h (PF (.int a) h) := by
  have key : ∀ X, C_J3_checkIndex_8e157 X → Wj X 0 0 (PF (.int a) h) 0 [(0, .int a), (1, .int b)] [] h := by
    intro X C
    refine w_iload_n (pc := 0) C dJ3_checkIndex_8e157_0 rfl ?_
    refine w_if_lt (pc := 1) C (tgt := 9) dJ3_checkIndex_8e157_1 (by decide) ?_
    refine ⟨fun c => absurd c h0, fun _ => ?_⟩
    refine w_iload_n (pc := 4) C dJ3_checkIndex_8e157_4 rfl ?_
    refine w_iload_n (pc := 5) C dJ3_checkIndex_8e157_5 rfl ?_
    refine w_icmp_lt (pc := 6) C (tgt := 16) dJ3_checkIndex_8e157_6 (by decide) ?_
    refine ⟨fun _ => ?_, fun c => absurd h1 c⟩
    refine w_iload_n (pc := 16) C dJ3_checkIndex_8e157_16 rfl ?_
    exact w_iret (pc := 17) C dJ3_checkIndex_8e157_17 ⟨rfl, rfl⟩
  cases o with
  | none => exact Sp.of rfl (Nat.le_of_ble_eq_true rfl) (fun X C _ _ _ _ => w_sub (lv' := [(0, .int a), (1, .int b)]) ⟨rfl, rfl, trivial⟩ (key X C))
  | some t => exact Sp.of rfl (Nat.le_of_ble_eq_true rfl) (fun X C _ _ _ _ => w_sub (lv' := [(0, .int a), (1, .int b)]) ⟨rfl, rfl, trivial⟩ (key X C))
theorem sf_J0_check {a b : Int32} (h0 : ¬ a < 0) (h1 : a < b) : S_J0_checkIndex_df160 l D 0 0 [.int a, .int b] h (QV fun h' => h' = h) := Sp.of rfl (Nat.le_of_ble_eq_true rfl) (fun X C _ _ _ _ => by
  refine w_iload_n (pc := 0) C dJ0_checkIndex_df160_0 rfl ?_
  refine w_iload_n (pc := 1) C dJ0_checkIndex_df160_1 rfl ?_
  refine w_getsQ (pc := 2) C fw_J0_1053 (fun U K => K.2.2.1.2) dJ0_checkIndex_df160_2 (fun o => ?_)
  refine w_cS0_3 (pc := 5) C cl_J0_1059 ls_J3_checkIndex_8e157 (by decide) dJ0_checkIndex_df160_5 (Nat.le_of_ble_eq_true rfl) ((sf_J3_check h0 h1).mono (fun v h' hp => ?_))
  obtain ⟨rfl, rfl⟩ := hp
  refine w_pop (pc := 8) C dJ0_checkIndex_df160_8 rfl ?_
  exact w_vret (pc := 9) C dJ0_checkIndex_df160_9 ⟨rfl, rfl⟩)
theorem tx_len (i : Nat) (hi : i < 3) : txLen.getD i 0 ≤ 10 := by
  match i, hi with
  | 0, _ => decide
  | 1, _ => decide
  | 2, _ => decide
/-- a text's sign -/
def txC (i j : Nat) : Int32 := (txByt.getD i []).getD j 0
theorem txC_b : ∀ i, i < 3 → ∀ j, j < 10 → i2c (txC i j &&& 255) = txC i j ∧ narrow .char (.int (txC i j)) = .int (txC i j) := by decide
theorem sf_J1_charAt {i : Nat} (hi : i < 3) {a : Int32} (ha : inb a (txLen.getD i 0)) : S_J1_charAt_3b067 l D 0 0 [.ref (txV D i), .int a] h (PF (.int (txC i (ix a))) h) := Sp.of rfl (Nat.le_of_ble_eq_true rfl) (fun X C el eD _ _ => by
  subst eD
  have tl := tx_len i hi
  have hb := txC_b i hi (ix a) (by have := ix_lt ha; omega)
  refine w_iload_n (pc := 0) C dJ1_charAt_3b067_0 rfl ?_
  refine w_aload_n (pc := 1) C dJ1_charAt_3b067_1 rfl ?_
  refine w_alenT (pc := 2) C (fun U K => (K.1.1 i hi).2.2.2) dJ1_charAt_3b067_2 ?_
  refine w_cS0_2 (pc := 3) C cl_J1_9 ls_J0_checkIndex_df160 (by decide) dJ1_charAt_3b067_3 (Nat.le_of_ble_eq_true rfl) ((sf_J0_check ?_ ?_).mono (fun v h' hp => ?_))
  · rw [i32_lt, i0_t]; have := ha.1; omega
  · rw [i32_lt]
    have e : (Int32.ofNat (txLen.getD i 0)).toInt = (txLen.getD i 0 : Nat) := by
      match i, hi with
      | 0, _ => rfl
      | 1, _ => rfl
      | 2, _ => rfl
    rw [e]; exact ha.2
  · obtain ⟨rfl, rfl⟩ := hp
    refine w_aload_n (pc := 6) C dJ1_charAt_3b067_6 rfl ?_
    refine w_iload_n (pc := 7) C dJ1_charAt_3b067_7 rfl ?_
    refine w_baldT (pc := 8) C (fun U K => (K.1.1 i hi).2.2.2) ha rfl dJ1_charAt_3b067_8 ?_
    refine w_sipush (pc := 9) C (v := 255) dJ1_charAt_3b067_9 (by decide) ?_
    refine w_iand (pc := 12) C dJ1_charAt_3b067_12 ?_
    refine w_i2c (pc := 13) C dJ1_charAt_3b067_13 ?_
    have e : (((txByt.getD i []).getD (ix a) 0 &&& 255).toUInt32 % 65536).toInt32 = txC i (ix a) := hb.1
    rw [e]
    exact w_nret (pc := 14) C dJ1_charAt_3b067_14 hb.2 ⟨rfl, rfl⟩)
theorem sf_J0_latin {i : Nat} (hi : i < 3) : S_J0_isLatin1_aae02 l D 0 0 [.ref (txK D i)] h (PF (.int 1) h) := Sp.of rfl (Nat.le_of_ble_eq_true rfl) (fun X C el eD _ _ => by
  subst eD
  refine w_gets (pc := 0) C fw_J0_38 (fun U K => K.2.2.1.1) dJ0_isLatin1_aae02_0 ?_
  refine w_if_eq (pc := 3) C (tgt := 17) dJ0_isLatin1_aae02_3 (by decide) ?_
  refine ⟨fun c => absurd c (by decide), fun _ => ?_⟩
  refine w_aload_n (pc := 6) C dJ0_isLatin1_aae02_6 rfl ?_
  refine w_getT (pc := 7) C fw_J0_15 (fun U K => (K.1.1 i hi).2.1) dJ0_isLatin1_aae02_7 ?_
  refine w_if_ne (pc := 10) C (tgt := 17) dJ0_isLatin1_aae02_10 (by decide) ?_
  refine ⟨fun c => absurd rfl c, fun _ => ?_⟩
  refine w_iconst (pc := 13) C (v := 1) dJ0_isLatin1_aae02_13 (by decide) ?_
  refine w_goto (pc := 14) C (tgt := 18) dJ0_isLatin1_aae02_14 (by decide) ?_
  exact w_zret (pc := 18) C dJ0_isLatin1_aae02_18 (by decide) ⟨rfl, rfl⟩)
theorem sf_J0_coder {i : Nat} (hi : i < 3) : S_J0_coder_7d493 l D 0 0 [.ref (txK D i)] h (PF (.int 0) h) := Sp.of rfl (Nat.le_of_ble_eq_true rfl) (fun X C el eD _ _ => by
  subst eD
  refine w_gets (pc := 0) C fw_J0_38 (fun U K => K.2.2.1.1) dJ0_coder_7d493_0 ?_
  refine w_if_eq (pc := 3) C (tgt := 13) dJ0_coder_7d493_3 (by decide) ?_
  refine ⟨fun c => absurd c (by decide), fun _ => ?_⟩
  refine w_aload_n (pc := 6) C dJ0_coder_7d493_6 rfl ?_
  refine w_getT (pc := 7) C fw_J0_15 (fun U K => (K.1.1 i hi).2.1) dJ0_coder_7d493_7 ?_
  refine w_goto (pc := 10) C (tgt := 14) dJ0_coder_7d493_10 (by decide) ?_
  exact w_nret (pc := 14) C dJ0_coder_7d493_14 rfl ⟨rfl, rfl⟩)
theorem sf_J0_charAt {i : Nat} (hi : i < 3) {a : Int32} (ha : inb a (txLen.getD i 0)) : S_J0_charAt_5068e l D 0 0 [.ref (txK D i), .int a] h (PF (.int (txC i (ix a))) h) := Sp.of rfl (Nat.le_of_ble_eq_true rfl) (fun X C el eD _ _ => by
  subst eD
  have tl := tx_len i hi
  have hb := txC_b i hi (ix a) (by have := ix_lt ha; omega)
  refine w_aload_n (pc := 0) C dJ0_charAt_5068e_0 rfl ?_
  refine w_callT (pc := 1) (As := []) hi C cl_J0_492 lv_J0_isLatin1_aae02 (by decide) dJ0_charAt_5068e_1 rfl rfl (Nat.le_of_ble_eq_true rfl) rfl ((sf_J0_latin hi).mono (fun v h' hp => ?_))
  obtain ⟨rfl, rfl⟩ := hp
  refine w_if_eq (pc := 4) C (tgt := 16) dJ0_charAt_5068e_4 (by decide) ?_
  refine ⟨fun c => absurd c (by decide), fun _ => ?_⟩
  refine w_aload_n (pc := 7) C dJ0_charAt_5068e_7 rfl ?_
  refine w_getT (pc := 8) C fw_J0_9 (fun U K => (K.1.1 i hi).2.2.1) dJ0_charAt_5068e_8 ?_
  refine w_iload_n (pc := 11) C dJ0_charAt_5068e_11 rfl ?_
  refine w_cS0_2 (pc := 12) C cl_J0_495 ls_J1_charAt_3b067 (by decide) dJ0_charAt_5068e_12 (Nat.le_of_ble_eq_true rfl) ((sf_J1_charAt hi ha).mono (fun v h' hp => ?_))
  obtain ⟨rfl, rfl⟩ := hp
  exact w_nret (pc := 15) C dJ0_charAt_5068e_15 hb.2 ⟨rfl, rfl⟩)
theorem sf_J0_length {i : Nat} (hi : i < 3) : S_J0_length_8abf5 l D 0 0 [.ref (txK D i)] h (PF (.int (Int32.ofNat (txLen.getD i 0))) h) := Sp.of rfl (Nat.le_of_ble_eq_true rfl) (fun X C el eD _ _ => by
  subst eD
  refine w_aload_n (pc := 0) C dJ0_length_8abf5_0 rfl ?_
  refine w_getT (pc := 1) C fw_J0_9 (fun U K => (K.1.1 i hi).2.2.1) dJ0_length_8abf5_1 ?_
  refine w_alenT (pc := 4) C (fun U K => (K.1.1 i hi).2.2.2) dJ0_length_8abf5_4 ?_
  refine w_aload_n (pc := 5) C dJ0_length_8abf5_5 rfl ?_
  refine w_callT (pc := 6) (As := []) hi C cl_J0_335 lv_J0_coder_7d493 (by decide) dJ0_length_8abf5_6 rfl rfl (Nat.le_of_ble_eq_true rfl) rfl ((sf_J0_coder hi).mono (fun v h' hp => ?_))
  obtain ⟨rfl, rfl⟩ := hp
  refine w_ishr (pc := 9) C dJ0_length_8abf5_9 ?_
  have e : Int32.ofNat (txLen.getD i 0) >>> ((0 : Int32) &&& 31) = Int32.ofNat (txLen.getD i 0) := by
    match i, hi with
    | 0, _ => rfl
    | 1, _ => rfl
    | 2, _ => rfl
  rw [e]
  exact w_iret (pc := 10) C dJ0_length_8abf5_10 ⟨rfl, rfl⟩)
end TxJ
