-- fields, arrays, new cells, calls over the small heap
def FL (own : String) (idx c f : Nat) : Prop := ∃ r, vwCl[c]? = some r ∧ f < r.2.2 ∧ Cond.fieldLink own idx (r.2.1 f).1 (r.2.1 f).2.1 (r.2.1 f).2.2.1 ∈ gwd
def tyOK (t : Nat) (ty : FieldType) : Prop := (t = 0 → ty = .int) ∧ (t = 1 → ty = .long) ∧ (t = 2 → (∃ o, ty = .object o) ∨ ∃ e, ty = .array e) ∧ t < 3
def ClF (c : Nat) (r : vw_C) : Prop := (∀ w ∈ u_ws r.1 r.2.1 r.2.2, w ∈ gwd) ∧ (∀ f, f < r.2.2 → parseFieldDescriptor (r.2.1 f).2.2.1 = some (tyF c f)) ∧ (∀ a, a < r.2.2 → ∀ b, b < r.2.2 → a ≠ b → (r.2.1 a).2.1 ≠ (r.2.1 b).2.1) ∧ ∀ f, f < r.2.2 → tyOK (fty c f) (tyF c f)
def tyB (t : Nat) (ty : FieldType) : Bool := match t, ty with
  | 0, .int => true
  | 1, .long => true
  | 2, .object _ => true
  | 2, .array _ => true
  | _, _ => false
theorem tyB_ok {t : Nat} {ty : FieldType} (h : tyB t ty = true) : tyOK t ty := by
  unfold tyB at h
  split at h
  · exact ⟨fun _ => rfl, fun e => (by cases e), fun e => (by cases e), by omega⟩
  · exact ⟨fun e => (by cases e), fun _ => rfl, fun e => (by cases e), by omega⟩
  · exact ⟨fun e => (by cases e), fun e => (by cases e), fun _ => Or.inl ⟨_, rfl⟩, by omega⟩
  · exact ⟨fun e => (by cases e), fun e => (by cases e), fun _ => Or.inr ⟨_, rfl⟩, by omega⟩
  · cases h
theorem tyB_all : ∀ c, c < 11 → ∀ f, f < (vwCl.getD c ("", TX0, 0)).2.2 → tyB (fty c f) (tyF c f) = true := by decide +kernel
theorem clF : ∀ (c : Nat) (r : vw_C), vwCl[c]? = some r → ClF c r := by
  intro c r h
  have hb : ∀ f, f < r.2.2 → tyOK (fty c f) (tyF c f) := by
    intro f hf
    have hc : c < 11 := (List.getElem?_eq_some_iff.mp h).1
    refine tyB_ok (tyB_all c hc f ?_)
    have e : vwCl.getD c ("", TX0, 0) = r := by rw [List.getD_eq_getElem?_getD, h]; rfl
    rw [e]; exact hf
  match c, h, hb with
  | 0, h, hb => cases h; exact ⟨uwX0, tyX0_ok, nmX0, hb⟩
  | 1, h, hb => cases h; exact ⟨uwX1, tyX1_ok, nmX1, hb⟩
  | 2, h, hb => cases h; exact ⟨uwX2, tyX2_ok, nmX2, hb⟩
  | 3, h, hb => cases h; exact ⟨uwX3, tyX3_ok, nmX3, hb⟩
  | 4, h, hb => cases h; exact ⟨uwX4, tyX4_ok, nmX4, hb⟩
  | 5, h, hb => cases h; exact ⟨uwX5, tyX5_ok, nmX5, hb⟩
  | 6, h, hb => cases h; exact ⟨uwX6, tyX6_ok, nmX6, hb⟩
  | 7, h, hb => cases h; exact ⟨uwX7, tyX7_ok, nmX7, hb⟩
  | 8, h, hb => cases h; exact ⟨uwX8, tyX8_ok, nmX8, hb⟩
  | 9, h, hb => cases h; exact ⟨uwX9, tyX9_ok, nmX9, hb⟩
  | 10, h, hb => cases h; exact ⟨uwX10, tyX10_ok, nmX10, hb⟩
  | c + 11, h, hb => simp [vwCl] at h
/-- h' is h with one place of a's cell new -/
def Upd (h h' : Hp) (a f t : Nat) (v : Value) : Prop := hn h' = hn h ∧ (∀ b, kd h' b = kd h b) ∧ (∀ b, ln h' b = ln h b) ∧ (∀ b, b ≠ a → ∀ j, gi h' b j = gi h b j ∧ gl h' b j = gl h b j ∧ gr h' b j = gr h b j) ∧ fv h' a f t = v ∧ ∀ j, j ≠ f → ∀ t, fv h' a j t = fv h a j t
theorem upd_si (h : Hp) (a f : Nat) (x : Int32) : Upd h (si h a f x) a f 0 (.int x) := by
  refine ⟨rfl, fun _ => rfl, fun _ => rfl, fun b hb j => ⟨?_, rfl, rfl⟩, ?_, fun j hj t => ?_⟩
  · rw [gi_si, if_neg (fun e => hb e.1)]
  · show Value.int (gi (si h a f x) a f) = _
    rw [gi_si, if_pos ⟨rfl, rfl⟩]
  · unfold fv
    split
    · rw [gi_si, if_neg (fun e => hj e.2)]
    · rfl
    · rfl
theorem upd_sl (h : Hp) (a f : Nat) (x : Int64) : Upd h (sl h a f x) a f 1 (.long x) := by
  refine ⟨rfl, fun _ => rfl, fun _ => rfl, fun b hb j => ⟨rfl, ?_, rfl⟩, ?_, fun j hj t => ?_⟩
  · rw [gl_sl, if_neg (fun e => hb e.1)]
  · show Value.long (gl (sl h a f x) a f) = _
    rw [gl_sl, if_pos ⟨rfl, rfl⟩]
  · unfold fv
    split
    · rfl
    · rw [gl_sl, if_neg (fun e => hj e.2)]
    · rfl
theorem upd_sr (h : Hp) (a f : Nat) (x : Option Nat) : Upd h (sr h a f x) a f 2 (va_rf x) := by
  refine ⟨rfl, fun _ => rfl, fun _ => rfl, fun b hb j => ⟨rfl, rfl, ?_⟩, ?_, fun j hj t => ?_⟩
  · rw [gr_sr, if_neg (fun e => hb e.1)]
  · show va_rf (gr (sr h a f x) a f) = _
    rw [gr_sr, if_pos ⟨rfl, rfl⟩]
  · unfold fv
    split
    · rfl
    · rfl
    · rw [gr_sr, if_neg (fun e => hj e.2)]
theorem RelH.off {D : Dt} {h h' : Hp} {H H' : Heap} {a : Nat} (hR : RelH D h H) (ha : kd h a ≠ 0) (e2 : H'.size = H.size) (e3 : ∀ q : Nat, q ≠ a → H'[q]? = H[q]?) (u1 : hn h' = hn h) (u2 : ∀ b, kd h' b = kd h b) (u3 : ∀ b, b ≠ a → ln h' b = ln h b) (u4 : ∀ b, b ≠ a → ∀ j, gi h' b j = gi h b j ∧ gl h' b j = gl h b j ∧ gr h' b j = gr h b j) (hc : cellR D h' H' a) : RelH D h' H' := by
  obtain ⟨r1, r2, r3, r4⟩ := hR
  refine ⟨by rw [e2, u1]; exact r1, by rw [u1]; exact r2, fun q hq => ?_, fun b hb => ?_⟩
  · rw [e3 q (fun e => by have := (r4 a ha).1; omega)]; exact r3 q hq
  · rw [u2] at hb
    obtain ⟨b1, b2, b3⟩ := r4 b hb
    refine ⟨b1, by rw [u1]; exact b2, ?_⟩
    by_cases hba : b = a
    · rw [hba]; exact hc
    · exact b3.kept (e3 b hba) (u2 b) (u3 b hba) (fun j => (u4 b hba j).1) (fun j => (u4 b hba j).2.1) (fun j => (u4 b hba j).2.2)
theorem vwCl_lt {c : Nat} {r : vw_C} (h : vwCl[c]? = some r) : c < 11 := (List.getElem?_eq_some_iff.mp h).1
theorem RelH.put {D : Dt} {h h' : Hp} {H H' : Heap} {a c f : Nat} {r : vw_C} {v : Value} {cell : Cell} (hR : RelH D h H) (hk : kd h a = c + 1) (hc : vwCl[c]? = some r) (hf : f < r.2.2) (hap : ∀ x y, x < r.2.2 → y < r.2.2 → x ≠ y → D.1.2 c x ≠ D.1.2 c y)
    (q1 : H[a]? = some cell) (e1 : H'[a]? = some (cell.setSlot (D.1.2 c f) v)) (e2 : H'.size = H.size) (e3 : ∀ q : Nat, q ≠ a → H'[q]? = H[q]?) (u : Upd h h' a f (fty c f) v) : RelH D h' H' := by
  obtain ⟨u1, u2, u3, u4, u5, u6⟩ := u
  have hlt := vwCl_lt hc
  refine hR.off (by omega) e2 e3 u1 u2 (fun b _ => u3 b) u4 ⟨fun c' r' hk' hc' => ?_, fun h9 => ?_, fun h9 => ?_, fun h9 => ?_, fun h9 => ?_, fun h9 => ?_⟩
  · rw [u2, hk] at hk'
    have ec : c' = c := by omega
    subst ec
    have er : r' = r := Option.some.inj (hc'.symm.trans hc)
    subst er
    obtain ⟨cell', p1, p2, p3, p4⟩ := (hR.2.2.2 a (by omega)).2.2.1 _ _ hk hc
    have ecl : cell' = cell := Option.some.inj (p1.symm.trans q1)
    subst ecl
    refine t_OB.to (V := updV (fun j => fv h a j (fty c' j)) f v) ⟨_, e1, p2, p3, t_set p4 hap hf v⟩ (fun j hj => ?_)
    unfold updV
    by_cases hjf : j = f
    · subst hjf; simp [u5]
    · simp [hjf, u6 j hjf]
  all_goals (rw [u2, hk] at h9; omega)
section HeapRows
variable {X : Ctx} {k n : Nat} {Q : Pq} {pc : Nat} {lv : List (Nat × Value)} {st : List Value} {h : Hp} {own : String} {cc : ByteArray} {nL : Nat} {ret : Option FieldType} {nm : String} {fr lo : Nat} {a c f idx : Nat}
theorem w_get0 (C : Cx X own cc nL ret nm fr lo) (F : FL own idx c f) (hk : kd h a = c + 1) (d : decode cc pc = .ok (.getfield idx, 3)) (K : Wj X k n Q (pc + 3) lv (fv h a f (fty c f) :: st) h) : Wj X k n Q pc lv (.ref a :: st) h := by
  obtain ⟨p, l, e, R, s, m, args, below, meth, c0, D, mc, ms⟩ := X
  intro h1 h2 ls H locs hl hR hL
  obtain ⟨r, hc, hkN, hlink⟩ := F
  obtain ⟨hx, hb, hml, hown, hts, hK, hr⟩ := C
  obtain ⟨hin, hty, hnm, -⟩ := clF c r hc
  obtain ⟨cell, q1, q2, q3, q4⟩ := (hR.2.2.2 a (by omega)).2.2.1 _ _ hk hc
  obtain ⟨hS, hfc, kC, hkC, hkind⟩ := hK.1.1 c r hc
  obtain ⟨cf, kf, fi, fd, hi, hsl⟩ := hS f hkN
  refine W.getf hx hb hown (hts _ hlink) hi (u_facts hfc hkC (u_lays hts hin hkN) hi).1 q1 (by rw [q3]; exact fun h => by cases h) (v := fv h a f (fty c f)) ?_ rfl rfl d (K h1 h2 ls H locs hl hR hL)
  rw [hsl, q4 f hkN]
theorem w_getI (C : Cx X own cc nL ret nm fr lo) (F : FL own idx c f) (ht : fty c f = 0) (d : decode cc pc = .ok (.getfield idx, 3)) (hk : kd h a = c + 1) (K : Wj X k n Q (pc + 3) lv (.int (gi h a f) :: st) h) : Wj X k n Q pc lv (.ref a :: st) h := w_get0 C F hk d (by rw [ht]; exact K)
theorem w_getL (C : Cx X own cc nL ret nm fr lo) (F : FL own idx c f) (ht : fty c f = 1) (d : decode cc pc = .ok (.getfield idx, 3)) (hk : kd h a = c + 1) (K : Wj X k n Q (pc + 3) lv (.long (gl h a f) :: st) h) : Wj X k n Q pc lv (.ref a :: st) h := w_get0 C F hk d (by rw [ht]; exact K)
theorem w_getR {b : Nat} (C : Cx X own cc nL ret nm fr lo) (F : FL own idx c f) (ht : fty c f = 2) (d : decode cc pc = .ok (.getfield idx, 3)) (hk : kd h a = c + 1) (hb : gr h a f = some b) (K : Wj X k n Q (pc + 3) lv (.ref b :: st) h) : Wj X k n Q pc lv (.ref a :: st) h := w_get0 C F hk d (by rw [ht]; show Wj X k n Q (pc + 3) lv (va_rf (gr h a f) :: st) h; rw [hb]; exact K)
theorem w_getQ (C : Cx X own cc nL ret nm fr lo) (F : FL own idx c f) (ht : fty c f = 2) (d : decode cc pc = .ok (.getfield idx, 3)) (hk : kd h a = c + 1) (K : (gr h a f = none → Wj X k n Q (pc + 3) lv (.null :: st) h) ∧ (∀ b, gr h a f = some b → Wj X k n Q (pc + 3) lv (.ref b :: st) h)) : Wj X k n Q pc lv (.ref a :: st) h := w_get0 C F hk d (by
  rw [ht]; show Wj X k n Q (pc + 3) lv (va_rf (gr h a f) :: st) h
  cases hb : gr h a f with
  | none => exact K.1 hb
  | some b => exact K.2 b hb)
theorem w_put0 {v : Value} {h' : Hp} (C : Cx X own cc nL ret nm fr lo) (F : FL own idx c f) (hfin : ((vwCl.getD c ("", TX0, 0)).2.1 f).2.2.2 = false) (d : decode cc pc = .ok (.putfield idx, 3)) (hk : kd h a = c + 1) (hnr : narrow (tyF c f) v = v) (hfit : fits (tyF c f) v = true) (u : Upd h h' a f (fty c f) v) (K : Wj X k n Q (pc + 3) lv st h') : Wj X k n Q pc lv (v :: .ref a :: st) h := by
  obtain ⟨p, l, e, R, s, m, args, below, meth, c0, D, mc, ms⟩ := X
  intro h1 h2 ls H locs hl hR hL
  obtain ⟨r, hc, hkN, hlink⟩ := F
  obtain ⟨hx, hb, hml, hown, hts, hK, hr⟩ := C
  obtain ⟨hin, hty, hnm, -⟩ := clF c r hc
  have hap := va_apart (own := own) hts hin (tyF c) hty hnm hK.1 hc
  obtain ⟨cell, q1, q2, q3, q4⟩ := (hR.2.2.2 a (by omega)).2.2.1 _ _ hk hc
  obtain ⟨hS, hfc, kC, hkC, hkind⟩ := hK.1.1 c r hc
  obtain ⟨cf, kf, fi, fd, hi, hsl⟩ := hS f hkN
  have hfin : (r.2.1 f).2.2.2 = false := by
    have e : vwCl.getD c ("", TX0, 0) = r := by rw [List.getD_eq_getElem?_getD, hc]; rfl
    rw [e] at hfin; exact hfin
  have hlay := hts _ (hin _ (u_in_lay hkN))
  unfold u_lay at hlay
  rw [if_neg (by rw [hfin]; decide)] at hlay
  have hst := (u_facts hfc hkC (u_lays hts hin hkN) hi).1
  have h6 := u_store hfc hkC hkind hlay hi (hty f hkN) hnr hfit
  refine W.putK hx hb (f := fd) ⟨hown, hts _ hlink, ⟨_, _, _, hi⟩, hst⟩ (by rw [q2]; exact h6) q1 q3 (by rw [hsl]; exact k2_hasslot (q4 f hkN)) rfl rfl d fun H' e1 e2 e3 => ?_
  rw [hsl] at e1
  refine K h1 h2 ls H' _ hl (hR.put hk hc hkN (fun x y hx hy hne => hap x y hx hy hne) q1 e1 e2 e3 u) (fun q hq => ?_)
  rcases List.mem_append.mp hq with hq | hq
  · exact hL q hq
  · cases List.mem_singleton.mp hq
    exact (hR.2.2.2 a (by omega)).1
theorem w_putF0 {v : Value} {h' : Hp} (C : Cx X own cc nL ret "<init>" fr lo) (F : FL own idx c f) (hfin : ((vwCl.getD c ("", TX0, 0)).2.1 f).2.2.2 = true) (hdecl : ((vwCl.getD c ("", TX0, 0)).2.1 f).1 = own) (d : decode cc pc = .ok (.putfield idx, 3)) (hk : kd h a = c + 1) (hnr : narrow (tyF c f) v = v) (hfit : fits (tyF c f) v = true) (u : Upd h h' a f (fty c f) v) (K : Wj X k n Q (pc + 3) lv st h') : Wj X k n Q pc lv (v :: .ref a :: st) h := by
  obtain ⟨p, l, e, R, s, m, args, below, meth, c0, D, mc, ms⟩ := X
  intro h1 h2 ls H locs hl hR hL
  obtain ⟨r, hc, hkN, hlink⟩ := F
  obtain ⟨hx, hb, hml, hown, hts, hK, hr, hlk, hnmI, -⟩ := C
  obtain ⟨hin, hty, hnm, -⟩ := clF c r hc
  have hap := va_apart (own := own) hts hin (tyF c) hty hnm hK.1 hc
  obtain ⟨cell, q1, q2, q3, q4⟩ := (hR.2.2.2 a (by omega)).2.2.1 _ _ hk hc
  obtain ⟨hS, hfc, kC, hkC, hkind⟩ := hK.1.1 c r hc
  obtain ⟨cf, kf, fi, fd, hi, hsl⟩ := hS f hkN
  have e : vwCl.getD c ("", TX0, 0) = r := by rw [List.getD_eq_getElem?_getD, hc]; rfl
  rw [e] at hfin hdecl
  have hlay := hts _ (hin _ (u_in_lay hkN))
  unfold u_lay at hlay
  rw [if_pos hfin] at hlay
  have hst := (u_facts hfc hkC (u_lays hts hin hkN) hi).1
  have hcf : m.cls = cf := by
    obtain ⟨_, _, c', _, _, _, -, -, hf', -, -, -, hown2, -⟩ := Cond.laysFinal_spec hlay
    have e1 : c' = cf := by have := hi.symm.trans hf'; simp at this; exact this.1.symm
    rw [hdecl] at hown2
    rw [← e1]; exact Option.some.inj (hown.symm.trans hown2)
  have h6 := u_fits hfc hkC hkind (Or.inr hlay) hi (hty f hkN) hnr hfit
  refine W.putFinK hx hb hown (hts _ hlink) hi hst hcf hnmI (by rw [q2]; exact h6) q1 q3 (by rw [hsl]; exact k2_hasslot (q4 f hkN)) rfl rfl d fun H' e1 e2 e3 => ?_
  rw [hsl] at e1
  refine K h1 h2 ls H' _ hl (hR.put hk hc hkN (fun x y hx hy hne => hap x y hx hy hne) q1 e1 e2 e3 u) (fun q hq => ?_)
  rcases List.mem_append.mp hq with hq | hq
  · exact hL q hq
  · cases List.mem_singleton.mp hq
    exact (hR.2.2.2 a (by omega)).1
theorem tyI {c f : Nat} {ty : FieldType} (F : tyOK (fty c f) ty) (ht : fty c f = 0) (x : Int32) : narrow ty (.int x) = .int x ∧ fits ty (.int x) = true := by
  rw [F.1 ht]; exact ⟨rfl, rfl⟩
theorem tyL {c f : Nat} {ty : FieldType} (F : tyOK (fty c f) ty) (ht : fty c f = 1) (x : Int64) : narrow ty (.long x) = .long x ∧ fits ty (.long x) = true := by
  rw [F.2.1 ht]; exact ⟨rfl, rfl⟩
theorem tyR {c f : Nat} {ty : FieldType} (F : tyOK (fty c f) ty) (ht : fty c f = 2) (x : Nat) : narrow ty (.ref x) = .ref x ∧ fits ty (.ref x) = true := by
  rcases F.2.2.1 ht with ⟨o, rfl⟩ | ⟨o, rfl⟩ <;> exact ⟨rfl, rfl⟩
theorem tyN {c f : Nat} {ty : FieldType} (F : tyOK (fty c f) ty) (ht : fty c f = 2) : narrow ty .null = .null ∧ fits ty .null = true := by
  rcases F.2.2.1 ht with ⟨o, rfl⟩ | ⟨o, rfl⟩ <;> exact ⟨rfl, rfl⟩
theorem FL.ty (F : FL own idx c f) : tyOK (fty c f) (tyF c f) := by
  obtain ⟨r, hc, hf, -⟩ := F
  exact (clF c r hc).2.2.2 f hf
theorem w_putI {x : Int32} (C : Cx X own cc nL ret nm fr lo) (F : FL own idx c f) (hfin : ((vwCl.getD c ("", TX0, 0)).2.1 f).2.2.2 = false) (ht : fty c f = 0) (d : decode cc pc = .ok (.putfield idx, 3)) (hk : kd h a = c + 1) (K : Wj X k n Q (pc + 3) lv st (si h a f x)) : Wj X k n Q pc lv (.int x :: .ref a :: st) h :=
  w_put0 C F hfin d hk (tyI F.ty ht x).1 (tyI F.ty ht x).2 (by rw [ht]; exact upd_si h a f x) K
theorem w_putL {x : Int64} (C : Cx X own cc nL ret nm fr lo) (F : FL own idx c f) (hfin : ((vwCl.getD c ("", TX0, 0)).2.1 f).2.2.2 = false) (ht : fty c f = 1) (d : decode cc pc = .ok (.putfield idx, 3)) (hk : kd h a = c + 1) (K : Wj X k n Q (pc + 3) lv st (sl h a f x)) : Wj X k n Q pc lv (.long x :: .ref a :: st) h :=
  w_put0 C F hfin d hk (tyL F.ty ht x).1 (tyL F.ty ht x).2 (by rw [ht]; exact upd_sl h a f x) K
theorem w_putR {x : Nat} (C : Cx X own cc nL ret nm fr lo) (F : FL own idx c f) (hfin : ((vwCl.getD c ("", TX0, 0)).2.1 f).2.2.2 = false) (ht : fty c f = 2) (d : decode cc pc = .ok (.putfield idx, 3)) (hk : kd h a = c + 1) (K : Wj X k n Q (pc + 3) lv st (sr h a f (some x))) : Wj X k n Q pc lv (.ref x :: .ref a :: st) h :=
  w_put0 C F hfin d hk (tyR F.ty ht x).1 (tyR F.ty ht x).2 (by rw [ht]; exact upd_sr h a f (some x)) K
theorem w_putN (C : Cx X own cc nL ret nm fr lo) (F : FL own idx c f) (hfin : ((vwCl.getD c ("", TX0, 0)).2.1 f).2.2.2 = false) (ht : fty c f = 2) (d : decode cc pc = .ok (.putfield idx, 3)) (hk : kd h a = c + 1) (K : Wj X k n Q (pc + 3) lv st (sr h a f none)) : Wj X k n Q pc lv (.null :: .ref a :: st) h :=
  w_put0 C F hfin d hk (tyN F.ty ht).1 (tyN F.ty ht).2 (by rw [ht]; exact upd_sr h a f none) K
theorem w_putRF {x : Nat} (C : Cx X own cc nL ret "<init>" fr lo) (F : FL own idx c f) (hfin : ((vwCl.getD c ("", TX0, 0)).2.1 f).2.2.2 = true) (hdecl : ((vwCl.getD c ("", TX0, 0)).2.1 f).1 = own) (ht : fty c f = 2) (d : decode cc pc = .ok (.putfield idx, 3)) (hk : kd h a = c + 1) (K : Wj X k n Q (pc + 3) lv st (sr h a f (some x))) : Wj X k n Q pc lv (.ref x :: .ref a :: st) h :=
  w_putF0 C F hfin hdecl d hk (tyR F.ty ht x).1 (tyR F.ty ht x).2 (by rw [ht]; exact upd_sr h a f (some x)) K
end HeapRows
