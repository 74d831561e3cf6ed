-- the class's calls of the machine
def dI (t b j : Nat) : Prop := b = t ∧ j = 1
def dL (t b _j : Nat) : Prop := b = t + 1
section Rows
variable {l : Launch} {D : Dt} {h h' : Hp} {x m t : Nat} {s : Sv} {P R : Nat → Nat → Prop}
theorem CSt.frG (S : CSt h x m s) (f : FrW P R h h') (c1 : ¬ P x 10) (c4 : ∀ i a b j, i < 11 → i ≠ 1 → ptr h x i = some a → inH a b → ¬ P b j ∧ ¬ R b j) (c5 : ∀ sh b j, gr h x 14 = some sh → sh ≤ b → b < sh + 6 → ¬ P b j ∧ ¬ R b j) {L T : List Int} (td : TdC h' (x + 3) L) (tx : TxC h' (x + 1) T) : CSt h' x m (sA s, sN s, sB s, sK s, L, T) ∧ ptr h' x = ptr h x := by
  obtain ⟨F, hm, pt, hd, va, sn, -, -, sh⟩ := S
  have ep : ptr h' x = ptr h x := by unfold ptr; rw [f.2.2.2.1]
  have hf : ∀ {a : Nat} {A : HV} {i : Nat}, i < 11 → i ≠ 1 → ptr h x i = some a → HdR h a A → HdR h' a A := fun {a A i} hi h1 he H => by
    have fx : FrX (fun c => ¬ inH a c) h h' := ⟨by rw [f.1]; exact Nat.le_refl _, fun c _ => ⟨⟨by rw [f.2.1], by rw [f.2.2.1]⟩, fun q j => ⟨f.xi (c4 i a c j hi h1 he (Classical.not_not.mp q)).1, f.xl (c4 i a c j hi h1 he (Classical.not_not.mp q)).2, by rw [f.2.2.2.1]⟩⟩⟩
    exact H.frX fx (fun c hc q => q hc) (pt.1 i a hi he).2.2.2
  refine ⟨⟨St9_same F f.2.1 f.2.2.1 f.2.2.2.1, ⟨hm.1, by rw [f.1]; exact hm.2.1, hm.2.2.fw f⟩, ?_, ?_, va, ⟨by rw [f.xi c1]; exact sn.1, sn.2⟩, td, tx, ?_⟩, ep⟩
  · rw [ep]
    exact ⟨fun i a hi e => ⟨St4_same (pt.1 i a hi e).1 f.2.1 f.2.2.1 f.2.2.2.1, by rw [f.1]; exact (pt.1 i a hi e).2⟩, pt.2⟩
  · rw [ep]
    obtain ⟨⟨a, e, H⟩, tr, pa, ke⟩ := hd
    refine ⟨⟨a, e, hf (i := 0) (by omega) (by omega) e H⟩, tr, fun i hi => ?_, fun i hi => ⟨(ke i hi).1, fun E q => ?_⟩⟩
    · have hi2 : i < sN s := hi
      obtain ⟨b, e2, H2⟩ := pa i hi
      exact ⟨b, e2, hf (i := 2 + i) (by omega) (by omega) e2 H2⟩
    · obtain ⟨b, e2, H2⟩ := (ke i hi).2 E q
      exact ⟨b, e2, hf (i := 9 + i) (by omega) (by omega) e2 H2⟩
  · rw [ep]
    intro a ea
    rw [f.2.2.2.1] at ea
    obtain ⟨q1, q2, q3, q4⟩ := sh a ea
    have fx : FrX (fun c => ¬ (a ≤ c ∧ c < a + 6)) h h' := ⟨by rw [f.1]; exact Nat.le_refl _, fun c _ => ⟨⟨by rw [f.2.1], by rw [f.2.2.1]⟩, fun q j => ⟨f.xi (c5 a c j ea (Classical.not_not.mp q).1 (Classical.not_not.mp q).2).1, f.xl (c5 a c j ea (Classical.not_not.mp q).1 (Classical.not_not.mp q).2).2, by rw [f.2.2.2.1]⟩⟩⟩
    exact ⟨q1.frX fx (fun b h1 h2 q => q ⟨h1, h2⟩) q3, q2, by rw [f.1]; exact q3, q4⟩
/-- writes within the object itself, but not to its pointers, its count -/
theorem CSt.own (S : CSt h x m s) (f : FrW P R h h') (c1 : ¬ P x 10) (p : ∀ b j, P b j → x ≤ b ∧ b < x + 17) (r : ∀ b j, R b j → x ≤ b ∧ b < x + 17) {L T : List Int} (td : TdC h' (x + 3) L) (tx : TxC h' (x + 1) T) : CSt h' x m (sA s, sN s, sB s, sK s, L, T) ∧ ptr h' x = ptr h x ∧ FrX (inC x m) h h' := by
  obtain ⟨F, hm, pt, hd, va, sn, -, -, sh⟩ := id S
  have q := S.frG f c1 (fun i a b j hi h1 e hb => by
    have := (pt.1 i a hi e).2.1
    unfold inH at hb
    exact ⟨fun z => by have := p b j z; omega, fun z => by have := r b j z; omega⟩) (fun a b j e h1 h2 => by
    have := (sh a e).2.1
    exact ⟨fun z => by have := p b j z; omega, fun z => by have := r b j z; omega⟩) td tx
  exact ⟨q.1, q.2, f.x (fun b j z => by have := p b j z; unfold inC; omega) (fun b j z => by have := r b j z; unfold inC; omega)⟩
theorem TdC.fr {L : List Int} (w : TdC h t L) (f : FrW P R h h') (p : ¬ P t 1) (r : ∀ j, ¬ R (t + 1) j) : TdC h' t L := by
  unfold TdC at *
  rw [f.xi p]
  exact ⟨w.1, w.2.1, fun i hi => by rw [f.xl (r i)]; exact w.2.2 i hi⟩
theorem TxC.fr {L : List Int} (w : TxC h t L) (f : FrW P R h h') (p : ¬ P t 1) (r : ∀ j, ¬ P (t + 1) j) : TxC h' t L := by
  unfold TxC at *
  rw [f.xi p]
  exact ⟨w.1, w.2.1, fun i hi => by rw [f.xi (r i)]; exact w.2.2 i hi⟩
theorem CSt.row (S : CSt h x m s) (f : FrW (dI (x + 3)) (dL (x + 3)) h h') {L : List Int} (td : TdC h' (x + 3) L) : CSt h' x m (rowS s L) ∧ ptr h' x = ptr h x ∧ FrX (inC x m) h h' :=
  S.own f (fun q => by have := q.1; omega) (fun b j q => by have := q.1; omega) (fun b j (q : b = x + 3 + 1) => by omega) td (S.2.2.2.2.2.2.2.1.fr f (fun q => by have := q.1; omega) (fun j q => by have := q.1; omega))
theorem TdC.clr : TdC (tcl h t) t [] := ⟨by unfold tcl; rw [gi_si, if_pos ⟨rfl, rfl⟩]; rfl, by simp, fun i hi => by simp at hi⟩
theorem FrW.tcl (f : FrW (dI t) (dL t) h h') : FrW (dI t) (dL t) h (tcl h' t) := f.si ⟨rfl, rfl⟩
theorem tad_gi (h : Hp) (t : Nat) (v : Int64) (b j : Nat) : gi (tad h t v) b j = if b = t ∧ j = 1 then gi h t 1 + 1 else gi h b j := by
  unfold tad; rw [gi_si, gi_sl]
theorem tad_gl (h : Hp) (t : Nat) (v : Int64) (b j : Nat) : gl (tad h t v) b j = if b = t + 1 ∧ j = ix (gi h t 1) then v else gl h b j := by
  unfold tad; rw [gl_si, gl_sl]
theorem TdC.tad {L : List Int} (w : TdC h t L) (hl : L.length < 60) {v : Int64} {z : Int} (hz : v.toInt = z) : TdC (tad h t v) t (L ++ [z]) := by
  obtain ⟨w1, w2, w3⟩ := w
  have e : (gi h t 1 + 1).toInt = L.length + 1 := by rw [iadd_t] <;> rw [i1_t, w1] <;> omega
  have ei : ix (gi h t 1) = L.length := by unfold ix; omega
  refine ⟨?_, by simp; omega, fun i hi => ?_⟩
  · rw [tad_gi, if_pos ⟨rfl, rfl⟩, e]; simp
  · rw [List.length_append] at hi
    rw [tad_gl, ei, getD_app L z i hi]
    by_cases q : i = L.length
    · rw [if_pos ⟨rfl, q⟩, if_pos q, hz]
    · rw [if_neg (fun z => q z.2), if_neg q]
      exact w3 i (by have : ([z] : List Int).length = 1 := rfl; omega)
theorem FrW.tad (f : FrW (dI t) (dL t) h h') {v : Int64} : FrW (dI t) (dL t) h (tad h' t v) := (f.sl (a := t + 1) rfl).si ⟨rfl, rfl⟩
theorem cl_add {L : List Int} (F : St8 h t) (w : TdC h t L) (hl : L.length < 60) {v : Int64} {z : Int} (hz : v.toInt = z) : S_X8_add l D 0 0 [.ref t, .long v] h (QV fun h' => TdC h' t (L ++ [z]) ∧ FrW (dI t) (dL t) h h') :=
  (sf_X8_add F (by unfold inb; rw [w.1]; omega)).mono (fun y h' hp => by
    obtain ⟨rfl, rfl⟩ := hp
    exact ⟨rfl, w.tad hl hz, FrW.rf.tad⟩)
theorem cl_addF {L : List Int} {b : Nat} (F : St8 h t) (Fb : kd h b = 3) (w : TdC h t L) (hl : L.length < 59) {u v : Int} (hu : (gl h b 0).toInt = u) (hv : (gl h b 1).toInt = v) : S_X8_addFraction l D 0 0 [.ref t, .ref b] h (QV fun h' => TdC h' t (L ++ [u, v]) ∧ FrW (dI t) (dL t) h h') :=
  (sf_X8_addFraction F Fb (by unfold inb; rw [w.1]; omega)).mono (fun y h' hp => by
    obtain ⟨rfl, rfl⟩ := hp
    have w1 := w.tad (by omega) hu
    have w2 := w1.tad (by simp; omega) hv
    rw [List.append_assoc] at w2
    exact ⟨rfl, w2, (FrW.rf.tad).tad⟩)
end Rows
section Ccalls
variable {X : Ctx} {l : Launch} {D : Dt} {h : Hp} {x m : Nat} {s : Sv}
theorem cl_adopt {f : HV → Int × HV} (hva : ∀ A, VA A → VA (f A).2) {h9 : Hp} (S9 : CSt h9 x m s) {t : Nat} (et : gr h9 x 13 = some t) (Ht : HdR h9 t (f (sA s)).2) {v : Int32} (ex : v.toInt = (f (sA s)).1) (f0 : FrX (inC x m) h h9) : S_X9_adopt l D 9 191 [.ref x, .int v] h9 (QI fun y h' => y = v ∧ CSt h' x m (actP f s).2 ∧ FrX (inC x m) h h') := by
  refine (sp_adopt S9 et (fun _ => Ht) (hva _ S9.2.2.2.2.1.1)).mono (fun w h' hp => ?_)
  obtain ⟨y, rfl, rfl, hd, f'⟩ := hp
  refine ⟨y, rfl, rfl, ?_, f0.tr f'⟩
  unfold actP
  rw [ex] at hd
  by_cases q : 0 ≤ (f (sA s)).1
  · rw [if_pos q] at hd; dsimp only; rw [if_pos q]; exact hd
  · rw [if_neg q] at hd; dsimp only; rw [if_neg q]; exact hd
/-- the trial becomes as what is -/
theorem cl_copy (S : CSt h x m s) {a t : Nat} (ea : gr h x 12 = some a) (et : gr h x 13 = some t) : S_X4_copyFrom l D 0 0 [.ref t, .ref a] h (QV fun h5 => HdR h5 t (sA s) ∧ CSt h5 x m s ∧ gr h5 x 13 = some t ∧ gr h5 x 12 = some a ∧ FrX (inC x m) h h5) := by
  obtain ⟨a', ea', Ha, -⟩ := S.now
  have e : a' = a := by rw [ea] at ea'; cases ea'; rfl
  subst e
  have h4 := (S.2.2.1.1 1 t (by omega) et).1
  refine (sp_copyFrom h4 Ha S.2.2.2.2.1.1 (by have := S.nt ea et; omega)).mono (fun w h5 hp => ?_)
  obtain ⟨rfl, Ht, f5⟩ := hp
  obtain ⟨S5, p5, x5⟩ := S.onTrial et f5
  exact ⟨rfl, Ht, S5, by rw [f5.2.2.2.1]; exact et, by rw [f5.2.2.2.1]; exact ea, x5⟩
theorem ca_uses (S : CSt h x m s) {k : Int32} : S_X9_uses l D 9 191 [.ref x, .int k] h (QI fun y h' => y.toInt = (actP (chooseP · k.toInt) s).1 ∧ CSt h' x m (actP (chooseP · k.toInt) s).2 ∧ FrX (inC x m) h h') := Sp.of rfl (Nat.le_of_ble_eq_true rfl) (fun X C _ _ hmc hms => V_X9_uses_0 C (by
  obtain ⟨a, ea, Ha, -⟩ := S.now
  obtain ⟨t, et, Ft, -⟩ := S.trial
  obtain ⟨n12, g12⟩ := nn_of ea
  obtain ⟨n13, g13⟩ := nn_of et
  rw [g12, g13]
  refine ⟨S.1, n13, n12, Ft, (cl_copy S ea et).mono (fun w h5 hp => ?_)⟩
  obtain ⟨rfl, Ht, S5, et5, ea5, x5⟩ := hp
  obtain ⟨n5, g5⟩ := nn_of et5
  refine ⟨rfl, ?_⟩
  dsimp only
  rw [g5]
  refine ⟨S5.1, n5, Ht.1, (sp_choose Ht).mono (fun w h9 hp => ?_)⟩
  obtain ⟨y, rfl, ey, Hy, f9⟩ := hp
  obtain ⟨S9, p9, x9⟩ := S5.onTrial et5 f9
  have et9 : gr h9 x 13 = some t := by rw [f9.2.2.2.1]; exact et5
  refine ⟨y, rfl, S9.1, 9, 191, by omega, by omega, (cl_adopt (f := (chooseP · k.toInt)) (fun A V => V.choose _) S9 et9 Hy ey (x5.tr x9)).mono (fun w h' hp => ?_)⟩
  obtain ⟨z, rfl, rfl, S', f'⟩ := hp
  exact ⟨z, rfl, z, rfl, ey, S', f'⟩))
theorem ca_ungeared (S : CSt h x m s) : S_X9_ungeared l D 9 191 [.ref x] h (QI fun y h' => y.toInt = (actP takeOutP s).1 ∧ CSt h' x m (actP takeOutP s).2 ∧ FrX (inC x m) h h') := Sp.of rfl (Nat.le_of_ble_eq_true rfl) (fun X C _ _ hmc hms => V_X9_ungeared_0 C (by
  obtain ⟨a, ea, Ha, -⟩ := S.now
  obtain ⟨t, et, Ft, -⟩ := S.trial
  obtain ⟨n12, g12⟩ := nn_of ea
  obtain ⟨n13, g13⟩ := nn_of et
  rw [g12, g13]
  refine ⟨S.1, n13, n12, Ft, (cl_copy S ea et).mono (fun w h5 hp => ?_)⟩
  obtain ⟨rfl, Ht, S5, et5, ea5, x5⟩ := hp
  obtain ⟨n5, g5⟩ := nn_of et5
  refine ⟨rfl, ?_⟩
  dsimp only
  rw [g5]
  refine ⟨S5.1, n5, Ht.1, (sp_takeOut Ht).mono (fun w h9 hp => ?_)⟩
  obtain ⟨y, rfl, ey, Hy, f9⟩ := hp
  obtain ⟨S9, p9, x9⟩ := S5.onTrial et5 f9
  have et9 : gr h9 x 13 = some t := by rw [f9.2.2.2.1]; exact et5
  refine ⟨y, rfl, S9.1, 9, 191, by omega, by omega, (cl_adopt (f := takeOutP) (fun A V => V.takeOut) S9 et9 Hy ey (x5.tr x9)).mono (fun w h' hp => ?_)⟩
  obtain ⟨z, rfl, rfl, S', f'⟩ := hp
  exact ⟨z, rfl, z, rfl, ey, S', f'⟩))
theorem ca_cuts (S : CSt h x m s) : S_X9_cuts l D 9 191 [.ref x] h (QI fun y h' => y.toInt = (actP scribeP s).1 ∧ CSt h' x m (actP scribeP s).2 ∧ FrX (inC x m) h h') := Sp.of rfl (Nat.le_of_ble_eq_true rfl) (fun X C _ _ hmc hms => V_X9_cuts_0 C (by
  obtain ⟨a, ea, Ha, -⟩ := S.now
  obtain ⟨t, et, Ft, -⟩ := S.trial
  obtain ⟨n12, g12⟩ := nn_of ea
  obtain ⟨n13, g13⟩ := nn_of et
  rw [g12, g13]
  refine ⟨S.1, n13, n12, Ft, (cl_copy S ea et).mono (fun w h5 hp => ?_)⟩
  obtain ⟨rfl, Ht, S5, et5, ea5, x5⟩ := hp
  obtain ⟨n5, g5⟩ := nn_of et5
  refine ⟨rfl, ?_⟩
  dsimp only
  rw [g5]
  refine ⟨S5.1, n5, Ht.1, (sp_scribe Ht S.2.2.2.2.1.1).mono (fun w h9 hp => ?_)⟩
  obtain ⟨y, rfl, ey, Hy, f9⟩ := hp
  obtain ⟨S9, p9, x9⟩ := S5.onTrial et5 f9
  have et9 : gr h9 x 13 = some t := by rw [f9.2.2.2.1]; exact et5
  refine ⟨y, rfl, S9.1, 9, 191, by omega, by omega, (cl_adopt (f := scribeP) (fun A V => V.scribe) S9 et9 Hy ey (x5.tr x9)).mono (fun w h' hp => ?_)⟩
  obtain ⟨z, rfl, rfl, S', f'⟩ := hp
  exact ⟨z, rfl, z, rfl, ey, S', f'⟩))
theorem ca_wipes (S : CSt h x m s) : S_X9_wipes l D 9 191 [.ref x] h (QI fun y h' => y.toInt = (actP wipeP s).1 ∧ CSt h' x m (actP wipeP s).2 ∧ FrX (inC x m) h h') := Sp.of rfl (Nat.le_of_ble_eq_true rfl) (fun X C _ _ hmc hms => V_X9_wipes_0 C (by
  obtain ⟨a, ea, Ha, -⟩ := S.now
  obtain ⟨t, et, Ft, -⟩ := S.trial
  obtain ⟨n12, g12⟩ := nn_of ea
  obtain ⟨n13, g13⟩ := nn_of et
  rw [g12, g13]
  refine ⟨S.1, n13, n12, Ft, (cl_copy S ea et).mono (fun w h5 hp => ?_)⟩
  obtain ⟨rfl, Ht, S5, et5, ea5, x5⟩ := hp
  obtain ⟨n5, g5⟩ := nn_of et5
  refine ⟨rfl, ?_⟩
  dsimp only
  rw [g5]
  refine ⟨S5.1, n5, Ht.1, (sp_wipeAll Ht S.2.2.2.2.1.1.marks.1).mono (fun w h9 hp => ?_)⟩
  obtain ⟨y, rfl, ey, Hy, f9⟩ := hp
  obtain ⟨S9, p9, x9⟩ := S5.onTrial et5 f9
  have et9 : gr h9 x 13 = some t := by rw [f9.2.2.2.1]; exact et5
  refine ⟨y, rfl, S9.1, 9, 191, by omega, by omega, (cl_adopt (f := wipeP) (fun A V => V.wipe) S9 et9 Hy ey (x5.tr x9)).mono (fun w h' hp => ?_)⟩
  obtain ⟨z, rfl, rfl, S', f'⟩ := hp
  exact ⟨z, rfl, z, rfl, ey, S', f'⟩))
theorem ca_sets (S : CSt h x m s) {a b : Int32} : S_X9_sets l D 9 191 [.ref x, .int a, .int b] h (QI fun y h' => y.toInt = (actP (setToP · a.toInt b.toInt) s).1 ∧ CSt h' x m (actP (setToP · a.toInt b.toInt) s).2 ∧ FrX (inC x m) h h') := Sp.of rfl (Nat.le_of_ble_eq_true rfl) (fun X C _ _ hmc hms => V_X9_sets_0 C (by
  obtain ⟨a0, ea, Ha, -⟩ := S.now
  obtain ⟨t, et, Ft, -⟩ := S.trial
  obtain ⟨n12, g12⟩ := nn_of ea
  obtain ⟨n13, g13⟩ := nn_of et
  rw [g12, g13]
  refine ⟨S.1, n13, n12, Ft, (cl_copy S ea et).mono (fun w h5 hp => ?_)⟩
  obtain ⟨rfl, Ht, S5, et5, ea5, x5⟩ := hp
  obtain ⟨n5, g5⟩ := nn_of et5
  refine ⟨rfl, ?_⟩
  dsimp only
  rw [g5]
  refine ⟨S5.1, n5, Ht.1, (sp_setTo Ht S.2.2.2.2.1.1.marks.1).mono (fun w h9 hp => ?_)⟩
  obtain ⟨y, rfl, ey, Hy, f9⟩ := hp
  obtain ⟨S9, p9, x9⟩ := S5.onTrial et5 f9
  have et9 : gr h9 x 13 = some t := by rw [f9.2.2.2.1]; exact et5
  refine ⟨y, rfl, S9.1, 9, 191, by omega, by omega, (cl_adopt (f := (setToP · a.toInt b.toInt)) (fun A V => V.setTo _ _) S9 et9 Hy ey (x5.tr x9)).mono (fun w h' hp => ?_)⟩
  obtain ⟨z, rfl, rfl, S', f'⟩ := hp
  exact ⟨z, rfl, z, rfl, ey, S', f'⟩))
/-- two numbers of the head told behind an act -/
theorem cl_tell {f : HV → Int × HV} {i j c : Nat} (hc : c = 1 ∧ i = 8 ∧ j = 9 ∨ c = 2 ∧ i = 10 ∧ j = 11) {h12 : Hp} (S' : CSt h12 x m (actP f s).2) (f' : FrX (inC x m) h h12) (q : 0 ≤ (f (sA s)).1) : St9 h12 x ∧ nn h12 x 12 ∧ St4 h12 (gp h12 x 12) ∧ S_X8_addFraction l D 0 0 [.ref (x + 3), .ref (gp h12 x 12 + c)] (tcl h12 (x + 3)) (QV fun h19 => CSt h19 x m (act2P f i j s).2 ∧ FrX (inC x m) h h19) := by
  have e1 : (actP f s).2 = pushS s (f (sA s)).2 := by unfold actP; dsimp only; rw [if_pos q]
  have e2 : (act2P f i j s).2 = rowS (pushS s (f (sA s)).2) [(f (sA s)).2 0 i, (f (sA s)).2 0 j] := by unfold act2P; dsimp only; rw [if_pos q]
  rw [e1] at S'
  rw [e2]
  obtain ⟨a, ea, Ha, ba⟩ := S'.now
  obtain ⟨n12, g12⟩ := nn_of ea
  rw [g12]
  have Ha' : HdR h12 a (f (sA s)).2 := Ha
  refine ⟨S'.1, n12, Ha.1, (cl_addF (h := tcl h12 (x + 3)) (L := []) (b := a + c) (St9_s1 S'.1) ?_ TdC.clr (by decide) (u := (f (sA s)).2 0 i) (v := (f (sA s)).2 0 j) ?_ ?_).mono (fun w h19 hp => ?_)⟩
  · rcases hc with ⟨rfl, -, -⟩ | ⟨rfl, -, -⟩
    · exact St4_k8 Ha.1
    · exact St4_k9 Ha.1
  · rcases hc with ⟨rfl, rfl, rfl⟩ | ⟨rfl, rfl, rfl⟩
    · exact Ha'.2.2.2.1
    · exact Ha'.2.2.2.2.2.1
  · rcases hc with ⟨rfl, rfl, rfl⟩ | ⟨rfl, rfl, rfl⟩
    · exact Ha'.2.2.2.2.1
    · exact Ha'.2.2.2.2.2.2.1
  · obtain ⟨rfl, w9, f9⟩ := hp
    obtain ⟨r1, -, r3⟩ := S'.row ((FrW.rf.tcl).tr f9) w9
    exact ⟨rfl, r1, f'.tr r3⟩
theorem ca_cranks (S : CSt h x m s) {a b c : Int32} : S_X9_cranks l D 9 191 [.ref x, .int a, .int b, .int c] h (QI fun y h' => y.toInt = (act2P (windP · a.toInt b.toInt c.toInt) 10 11 s).1 ∧ CSt h' x m (act2P (windP · a.toInt b.toInt c.toInt) 10 11 s).2 ∧ FrX (inC x m) h h') := Sp.of rfl (Nat.le_of_ble_eq_true rfl) (fun X C _ _ hmc hms => V_X9_cranks_0 C (by
  obtain ⟨a0, ea, Ha, -⟩ := S.now
  obtain ⟨t, et, Ft, -⟩ := S.trial
  obtain ⟨n12, g12⟩ := nn_of ea
  obtain ⟨n13, g13⟩ := nn_of et
  rw [g12, g13]
  refine ⟨S.1, n13, n12, Ft, (cl_copy S ea et).mono (fun w h5 hp => ?_)⟩
  obtain ⟨rfl, Ht, S5, et5, ea5, x5⟩ := hp
  obtain ⟨n5, g5⟩ := nn_of et5
  refine ⟨rfl, ?_⟩
  dsimp only
  rw [g5]
  refine ⟨S5.1, n5, Ht.1, (sp_wind Ht S.2.2.2.2.1.1).mono (fun w h9 hp => ?_)⟩
  obtain ⟨y, rfl, ey, Hy, f9⟩ := hp
  obtain ⟨S9, p9, x9⟩ := S5.onTrial et5 f9
  have et9 : gr h9 x 13 = some t := by rw [f9.2.2.2.1]; exact et5
  refine ⟨y, rfl, S9.1, 9, 191, by omega, by omega, (cl_adopt (f := (windP · a.toInt b.toInt c.toInt)) (fun A V => V.wind _ _ _) S9 et9 Hy ey (x5.tr x9)).mono (fun w h' hp => ?_)⟩
  obtain ⟨z, rfl, rfl, S', f'⟩ := hp
  refine ⟨z, rfl, fun q => ⟨z, rfl, ey, ?_⟩, fun q => ?_⟩
  · rw [i32_lt, i0_t, ey] at q
    rw [act2_no (f := (windP · a.toInt b.toInt c.toInt)) (by omega)]
    exact ⟨S', f'⟩
  · rw [i32_lt, i0_t, ey] at q
    obtain ⟨r1, r2, r3, r4⟩ := cl_tell (l := lX X) (D := dtX X) (c := 2) (i := 10) (j := 11) (Or.inr ⟨rfl, rfl, rfl⟩) S' f' (by omega)
    refine ⟨r1, r2, r3, r4.mono (fun w h19 hp => ?_)⟩
    obtain ⟨rfl, q1, q2⟩ := hp
    exact ⟨rfl, z, rfl, ey, q1, q2⟩))
theorem ca_geared (S : CSt h x m s) {a b c d e : Int32} : S_X9_geared l D 9 191 [.ref x, .int a, .int b, .int c, .int d, .int e] h (QI fun y h' => y.toInt = (act2P (putInP · a.toInt b.toInt c.toInt d.toInt e.toInt) 8 9 s).1 ∧ CSt h' x m (act2P (putInP · a.toInt b.toInt c.toInt d.toInt e.toInt) 8 9 s).2 ∧ FrX (inC x m) h h') := Sp.of rfl (Nat.le_of_ble_eq_true rfl) (fun X C _ _ hmc hms => V_X9_geared_0 C (by
  obtain ⟨a0, ea, Ha, -⟩ := S.now
  obtain ⟨t, et, Ft, -⟩ := S.trial
  obtain ⟨n12, g12⟩ := nn_of ea
  obtain ⟨n13, g13⟩ := nn_of et
  rw [g12, g13]
  refine ⟨S.1, n13, n12, Ft, (cl_copy S ea et).mono (fun w h5 hp => ?_)⟩
  obtain ⟨rfl, Ht, S5, et5, ea5, x5⟩ := hp
  obtain ⟨n5, g5⟩ := nn_of et5
  refine ⟨rfl, ?_⟩
  dsimp only
  rw [g5]
  refine ⟨S5.1, n5, Ht.1, (sp_putIn Ht S.2.2.2.2.1.1).mono (fun w h9 hp => ?_)⟩
  obtain ⟨y, rfl, ey, Hy, f9⟩ := hp
  obtain ⟨S9, p9, x9⟩ := S5.onTrial et5 f9
  have et9 : gr h9 x 13 = some t := by rw [f9.2.2.2.1]; exact et5
  refine ⟨y, rfl, S9.1, 9, 191, by omega, by omega, (cl_adopt (f := (putInP · a.toInt b.toInt c.toInt d.toInt e.toInt)) (fun A V => V.putIn _ _ _ _ _) S9 et9 Hy ey (x5.tr x9)).mono (fun w h' hp => ?_)⟩
  obtain ⟨z, rfl, rfl, S', f'⟩ := hp
  refine ⟨z, rfl, fun q => ⟨z, rfl, ey, ?_⟩, fun q => ?_⟩
  · rw [i32_lt, i0_t, ey] at q
    rw [act2_no (f := (putInP · a.toInt b.toInt c.toInt d.toInt e.toInt)) (by omega)]
    exact ⟨S', f'⟩
  · rw [i32_lt, i0_t, ey] at q
    obtain ⟨r1, r2, r3, r4⟩ := cl_tell (l := lX X) (D := dtX X) (c := 1) (i := 8) (j := 9) (Or.inl ⟨rfl, rfl, rfl⟩) S' f' (by omega)
    refine ⟨r1, r2, r3, r4.mono (fun w h19 hp => ?_)⟩
    obtain ⟨rfl, q1, q2⟩ := hp
    exact ⟨rfl, z, rfl, ey, q1, q2⟩))
end Ccalls
