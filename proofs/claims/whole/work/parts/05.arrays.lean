-- arrays, new cells, calls
/-- an array's row of contents, as the machine has it -/
def arrF (h : Hp) (a t : Nat) : Nat → Value := match t with
  | 1 => fun j => .long (gl h a j)
  | 4 => fun j => va_rf (gr h a j)
  | _ => fun j => .int (gi h a j)
theorem RelH.arr {D : Dt} {h : Hp} {H : Heap} {a : Nat} (t : Nat) (hR : RelH D h H) (hk : kd h a = 20 + t) (ht : t < 5) : H[a]? = some (arrV (D.2.1 t) (ln h a) (arrF h a t)) := by
  obtain ⟨c0, c1, c2, c3, c4, c5⟩ := (hR.2.2.2 a (by omega)).2.2
  match t, ht with
  | 0, _ => exact c1 hk
  | 1, _ => exact c2 hk
  | 2, _ => exact c3 hk
  | 3, _ => exact c4 hk
  | 4, _ => exact c5 hk
theorem cellR.arr {D : Dt} {h : Hp} {H : Heap} {a t : Nat} (hk : kd h a = 20 + t) (ht : t < 5) (e : H[a]? = some (arrV (D.2.1 t) (ln h a) (arrF h a t))) : cellR D h H a := by
  refine ⟨fun c r hk' hc => ?_, fun h9 => ?_, fun h9 => ?_, fun h9 => ?_, fun h9 => ?_, fun h9 => ?_⟩
  · have := vwCl_lt hc; omega
  all_goals (first
    | (have e9 : t = 0 := by omega
       subst e9; exact e)
    | (have e9 : t = 1 := by omega
       subst e9; exact e)
    | (have e9 : t = 2 := by omega
       subst e9; exact e)
    | (have e9 : t = 3 := by omega
       subst e9; exact e)
    | (have e9 : t = 4 := by omega
       subst e9; exact e))
theorem arrV_set (cI : ClassId) (N : Nat) (f : Nat → Value) (i : Nat) (v : Value) : (arrV cI N f).setSlot i v = arrV cI N (updV f i v) := arrV_store cI N i f v
theorem RelH.putA {D : Dt} {h h' : Hp} {H H' : Heap} {a t i : Nat} {v : Value} (hR : RelH D h H) (hk : kd h a = 20 + t) (ht : t < 5)
    (e1 : H'[a]? = some ((arrV (D.2.1 t) (ln h a) (arrF h a t)).setSlot i v)) (e2 : H'.size = H.size) (e3 : ∀ q : Nat, q ≠ a → H'[q]? = H[q]?) (u1 : hn h' = hn h) (u2 : ∀ b, kd h' b = kd h b) (u3 : ∀ b, ln h' b = ln h b) (u4 : ∀ b, b ≠ a → ∀ j, gi h' b j = gi h b j ∧ gl h' b j = gl h b j ∧ gr h' b j = gr h b j) (u5 : arrF h' a t = updV (arrF h a t) i v) : RelH D h' H' := by
  refine hR.off (by omega) e2 e3 u1 u2 (fun b _ => u3 b) u4 (cellR.arr (t := t) (by rw [u2]; exact hk) ht ?_)
  rw [e1, arrV_set, u5, u3]
theorem inb_vp {i : Int32} {N : Nat} (h : 0 ≤ i.toInt ∧ i.toInt < N) : vp_in i N := by
  intro q
  rcases q with q | q
  · have := Int32.lt_iff_toInt_lt.mp q
    simp at this; omega
  · have e : (i.toNatClampNeg : Int) = i.toInt := by
      show ((i.toInt.toNat : Nat) : Int) = _
      omega
    omega
/-- an index lies within -/
def inb (i : Int32) (N : Nat) : Prop := 0 ≤ i.toInt ∧ i.toInt < N
/-- an index as a number -/
def ix (i : Int32) : Nat := i.toInt.toNat
theorem ix_clamp (i : Int32) : i.toNatClampNeg = ix i := rfl
theorem ix_lt {i : Int32} {N : Nat} (h : inb i N) : ix i < N := by
  unfold ix inb at *; omega
theorem inb_not {i : Int32} {N : Nat} (h : inb i N) : ¬ (i < 0 ∨ N ≤ i.toNatClampNeg) := inb_vp h
section Arr
variable {X : Ctx} {k n : Nat} {Q : Pq} {pc : Nat} {lv : List (Nat × Value)} {st : List Value} {h : Hp} {own : String} {cc : ByteArray} {nL : Nat} {ret : Option FieldType} {nm : String} {fr lo : Nat} {a c f idx : Nat} {i : Int32}
theorem isArrT {D : Dt} {s : State} (hK : Kn D s) (t : Nat) (ty : FieldType) (ht : (tysD D)[t]? = some (D.2.1 t, ty)) (N : Nat) (z : Nat → Value) : s.isArrayOf (arrV (D.2.1 t) N z) ty := (hK.1.2 t _ ht).1 N z
theorem w_iald (C : Cx X own cc nL ret nm fr lo) (d : decode cc pc = .ok (.iaload, 1)) (hk : kd h a = 20) (hi : inb i (ln h a)) (K : Wj X k n Q (pc + 1) lv (.int (gi h a (ix i)) :: st) h) : Wj X k n Q pc lv (.int i :: .ref a :: st) h := by
  obtain ⟨p, l, e, R, s, m, args, below, meth, c0, D, mc, ms⟩ := X
  intro h1 h2 ls H locs hl hR hL
  exact W.iald (v := .int (gi h a (ix i))) C.1 C.2.1 (hR.arr 0 hk (by omega)) (isArrT C.2.2.2.2.2.1 0 .int rfl _ _) (fun q => by cases q) (by rw [arrV_size]; exact inb_not hi) (by rw [ix_clamp, arrV_read _ _ (ix_lt hi)]; rfl) rfl rfl d (K h1 h2 ls H locs hl hR hL)
theorem w_lald (C : Cx X own cc nL ret nm fr lo) (d : decode cc pc = .ok (.laload, 1)) (hk : kd h a = 21) (hi : inb i (ln h a)) (K : Wj X k n Q (pc + 1) lv (.long (gl h a (ix i)) :: st) h) : Wj X k n Q pc lv (.int i :: .ref a :: st) h := by
  obtain ⟨p, l, e, R, s, m, args, below, meth, c0, D, mc, ms⟩ := X
  intro h1 h2 ls H locs hl hR hL
  exact W.lald (v := .long (gl h a (ix i))) C.1 C.2.1 (hR.arr 1 hk (by omega)) (isArrT C.2.2.2.2.2.1 1 .long rfl _ _) (fun q => by cases q) (by rw [arrV_size]; exact inb_not hi) (by rw [ix_clamp, arrV_read _ _ (ix_lt hi)]; rfl) rfl rfl d (K h1 h2 ls H locs hl hR hL)
theorem w_cald (C : Cx X own cc nL ret nm fr lo) (d : decode cc pc = .ok (.caload, 1)) (hk : kd h a = 22) (hi : inb i (ln h a)) (K : Wj X k n Q (pc + 1) lv (.int (gi h a (ix i)) :: st) h) : Wj X k n Q pc lv (.int i :: .ref a :: st) h := by
  obtain ⟨p, l, e, R, s, m, args, below, meth, c0, D, mc, ms⟩ := X
  intro h1 h2 ls H locs hl hR hL
  exact W.cald (v := .int (gi h a (ix i))) C.1 C.2.1 (hR.arr 2 hk (by omega)) (isArrT C.2.2.2.2.2.1 2 .char rfl _ _) (fun q => by cases q) (by rw [arrV_size]; exact inb_not hi) (by rw [ix_clamp, arrV_read _ _ (ix_lt hi)]; rfl) rfl rfl d (K h1 h2 ls H locs hl hR hL)
theorem w_zald (C : Cx X own cc nL ret nm fr lo) (d : decode cc pc = .ok (.baload, 1)) (hk : kd h a = 23) (hi : inb i (ln h a)) (K : Wj X k n Q (pc + 1) lv (.int (gi h a (ix i)) :: st) h) : Wj X k n Q pc lv (.int i :: .ref a :: st) h := by
  obtain ⟨p, l, e, R, s, m, args, below, meth, c0, D, mc, ms⟩ := X
  intro h1 h2 ls H locs hl hR hL
  exact W.zald (v := .int (gi h a (ix i))) C.1 C.2.1 (hR.arr 3 hk (by omega)) (isArrT C.2.2.2.2.2.1 3 .boolean rfl _ _) (fun q => by cases q) (by rw [arrV_size]; exact inb_not hi) (by rw [ix_clamp, arrV_read _ _ (ix_lt hi)]; rfl) rfl rfl d (K h1 h2 ls H locs hl hR hL)
theorem w_aald (C : Cx X own cc nL ret nm fr lo) (d : decode cc pc = .ok (.aaload, 1)) (hk : kd h a = 24) (hi : inb i (ln h a)) (K : (gr h a (ix i) = none → Wj X k n Q (pc + 1) lv (.null :: st) h) ∧ (∀ b, gr h a (ix i) = some b → Wj X k n Q (pc + 1) lv (.ref b :: st) h)) : Wj X k n Q pc lv (.int i :: .ref a :: st) h := by
  obtain ⟨p, l, e, R, s, m, args, below, meth, c0, D, mc, ms⟩ := X
  intro h1 h2 ls H locs hl hR hL
  refine W.aald (v := va_rf (gr h a (ix i))) (ty := .object "DividingHead$Head") C.1 C.2.1 (hR.arr 4 hk (by omega)) (isArrT C.2.2.2.2.2.1 4 _ rfl _ _) rfl (fun q => by cases q) (by rw [arrV_size]; exact inb_not hi) (by rw [ix_clamp, arrV_read _ _ (ix_lt hi)]; rfl) rfl rfl d ?_
  cases hb : gr h a (ix i) with
  | none => exact K.1 hb h1 h2 ls H locs hl hR hL
  | some b => exact K.2 b hb h1 h2 ls H locs hl hR hL
theorem w_alen (t : Nat) (ht : t < 5) (C : Cx X own cc nL ret nm fr lo) (d : decode cc pc = .ok (.arraylength, 1)) (hk : kd h a = 20 + t) (K : Wj X k n Q (pc + 1) lv (.int (Int32.ofNat (ln h a)) :: st) h) : Wj X k n Q pc lv (.ref a :: st) h := by
  obtain ⟨p, l, e, R, s, m, args, below, meth, c0, D, mc, ms⟩ := X
  intro h1 h2 ls H locs hl hR hL
  have hg : ∃ ty, (tysD D)[t]? = some (D.2.1 t, ty) := by
    match t, ht with
    | 0, _ => exact ⟨_, rfl⟩
    | 1, _ => exact ⟨_, rfl⟩
    | 2, _ => exact ⟨_, rfl⟩
    | 3, _ => exact ⟨_, rfl⟩
    | 4, _ => exact ⟨_, rfl⟩
  obtain ⟨ty, hty⟩ := hg
  exact W.alen C.1 C.2.1 (hR.arr t hk ht) (isArrT C.2.2.2.2.2.1 t ty hty _ _) (by rw [arrV_size]) rfl rfl d (K h1 h2 ls H locs hl hR hL)
theorem locs_app {b : Nat} {locs L : List Loc} (h1 : ∀ q ∈ locs, b ≤ q.base) (h2 : ∀ q ∈ L, b ≤ q.base) : ∀ q ∈ locs ++ L, b ≤ q.base := fun q hq => (List.mem_append.mp hq).elim (h1 q) (h2 q)
theorem locs_one {b a j : Nat} (h : b ≤ a) : ∀ q ∈ ([⟨a, j⟩] : List Loc), b ≤ q.base := fun q hq => by cases List.mem_singleton.mp hq; exact h
theorem arrF_si {h : Hp} {a i t : Nat} {x : Int32} (h0 : t ≠ 1) (h4 : t ≠ 4) : arrF (si h a i x) a t = updV (arrF h a t) i (.int x) := by
  unfold arrF
  split
  · omega
  · omega
  · funext j
    unfold updV
    rw [gi_si]
    by_cases e : j = i <;> simp [e]
theorem arrF_sl {h : Hp} {a i : Nat} {x : Int64} : arrF (sl h a i x) a 1 = updV (arrF h a 1) i (.long x) := by
  unfold arrF
  funext j
  unfold updV
  show Value.long (gl (sl h a i x) a j) = _
  rw [gl_sl]
  by_cases e : j = i <;> simp [e]
theorem arrF_sr {h : Hp} {a i : Nat} {x : Option Nat} : arrF (sr h a i x) a 4 = updV (arrF h a 4) i (va_rf x) := by
  unfold arrF
  funext j
  unfold updV
  show va_rf (gr (sr h a i x) a j) = _
  rw [gr_sr]
  by_cases e : j = i <;> simp [e]
theorem w_iast {x : Int32} (C : Cx X own cc nL ret nm fr lo) (d : decode cc pc = .ok (.iastore, 1)) (hk : kd h a = 20) (hi : inb i (ln h a)) (K : Wj X k n Q (pc + 1) lv st (si h a (ix i) x)) : Wj X k n Q pc lv (.int x :: .int i :: .ref a :: st) h := by
  obtain ⟨p, l, e, R, s, m, args, below, meth, c0, D, mc, ms⟩ := X
  intro h1 h2 ls H locs hl hR hL
  refine W.iast C.1 C.2.1 (hR.arr 0 hk (by omega)) (isArrT C.2.2.2.2.2.1 0 .int rfl _ _) (fun q => by cases q) (by rw [arrV_size]; exact inb_not hi) rfl rfl d fun H' e1 e2 e3 => K h1 h2 ls H' _ hl ?_ (locs_app hL (locs_one (hR.2.2.2 a (by omega)).1))
  exact hR.putA (t := 0) hk (by omega) e1 e2 e3 rfl (fun _ => rfl) (fun _ => rfl) (fun b hb j => ⟨by rw [gi_si, if_neg (fun q => hb q.1)], rfl, rfl⟩) (arrF_si (by omega) (by omega))
theorem w_last {x : Int64} (C : Cx X own cc nL ret nm fr lo) (d : decode cc pc = .ok (.lastore, 1)) (hk : kd h a = 21) (hi : inb i (ln h a)) (K : Wj X k n Q (pc + 1) lv st (sl h a (ix i) x)) : Wj X k n Q pc lv (.long x :: .int i :: .ref a :: st) h := by
  obtain ⟨p, l, e, R, s, m, args, below, meth, c0, D, mc, ms⟩ := X
  intro h1 h2 ls H locs hl hR hL
  refine W.last C.1 C.2.1 (hR.arr 1 hk (by omega)) (isArrT C.2.2.2.2.2.1 1 .long rfl _ _) (fun q => by cases q) (by rw [arrV_size]; exact inb_not hi) rfl rfl d fun H' e1 e2 e3 => K h1 h2 ls H' _ hl ?_ (locs_app hL (locs_one (hR.2.2.2 a (by omega)).1))
  exact hR.putA (t := 1) hk (by omega) e1 e2 e3 rfl (fun _ => rfl) (fun _ => rfl) (fun b hb j => ⟨rfl, by rw [gl_sl, if_neg (fun q => hb q.1)], rfl⟩) arrF_sl
theorem w_cast {x : Int32} (C : Cx X own cc nL ret nm fr lo) (d : decode cc pc = .ok (.castore, 1)) (hk : kd h a = 22) (hi : inb i (ln h a)) (K : Wj X k n Q (pc + 1) lv st (si h a (ix i) (vp_nar .char x))) : Wj X k n Q pc lv (.int x :: .int i :: .ref a :: st) h := by
  obtain ⟨p, l, e, R, s, m, args, below, meth, c0, D, mc, ms⟩ := X
  intro h1 h2 ls H locs hl hR hL
  refine W.cast C.1 C.2.1 (hR.arr 2 hk (by omega)) (isArrT C.2.2.2.2.2.1 2 .char rfl _ _) (fun q => by cases q) (by rw [arrV_size]; exact inb_not hi) rfl rfl d fun H' e1 e2 e3 => K h1 h2 ls H' _ hl ?_ (locs_app hL (locs_one (hR.2.2.2 a (by omega)).1))
  exact hR.putA (t := 2) hk (by omega) e1 e2 e3 rfl (fun _ => rfl) (fun _ => rfl) (fun b hb j => ⟨by rw [gi_si, if_neg (fun q => hb q.1)], rfl, rfl⟩) (arrF_si (by omega) (by omega))
theorem w_zast {x : Int32} (C : Cx X own cc nL ret nm fr lo) (d : decode cc pc = .ok (.bastore, 1)) (hk : kd h a = 23) (hi : inb i (ln h a)) (K : Wj X k n Q (pc + 1) lv st (si h a (ix i) (vp_nar .boolean x))) : Wj X k n Q pc lv (.int x :: .int i :: .ref a :: st) h := by
  obtain ⟨p, l, e, R, s, m, args, below, meth, c0, D, mc, ms⟩ := X
  intro h1 h2 ls H locs hl hR hL
  refine W.zast C.1 C.2.1 (hR.arr 3 hk (by omega)) (isArrT C.2.2.2.2.2.1 3 .boolean rfl _ _) (fun q => by cases q) (by rw [arrV_size]; exact inb_not hi) rfl rfl d fun H' e1 e2 e3 => K h1 h2 ls H' _ hl ?_ (locs_app hL (locs_one (hR.2.2.2 a (by omega)).1))
  exact hR.putA (t := 3) hk (by omega) e1 e2 e3 rfl (fun _ => rfl) (fun _ => rfl) (fun b hb j => ⟨by rw [gi_si, if_neg (fun q => hb q.1)], rfl, rfl⟩) (arrF_si (by omega) (by omega))
theorem w_aast {x : Nat} (C : Cx X own cc nL ret nm fr lo) (d : decode cc pc = .ok (.aastore, 1)) (hk : kd h a = 24) (hi : inb i (ln h a)) (hx : kd h x = 5) (K : Wj X k n Q (pc + 1) lv st (sr h a (ix i) (some x))) : Wj X k n Q pc lv (.ref x :: .int i :: .ref a :: st) h := by
  obtain ⟨p, l, e, R, s, m, args, below, meth, c0, D, mc, ms⟩ := X
  intro h1 h2 ls H locs hl hR hL
  have hK := C.2.2.2.2.2.1
  obtain ⟨cv, v1, v2, v3, v4⟩ := (hR.2.2.2 x (by omega)).2.2.1 4 _ hx rfl
  obtain ⟨hS, hfc, kC, hkC, hkind⟩ := hK.1.1 4 _ rfl
  obtain ⟨kA, comp, g1, g2, g3, g4⟩ := (hK.1.2 4 _ rfl).2
  have e9 : comp = D.1.1 4 := Option.some.inj (g3.symm.trans hfc)
  subst e9
  refine W.aast C.1 C.2.1 (hR.arr 4 hk (by omega)) (fun q h => by cases h) (fun q => by cases q) g1 g2 rfl hkC ⟨fun q => inb_not hi (Or.inl q), by rw [arrV_size]; exact Nat.lt_of_not_le fun q => inb_not hi (Or.inr q)⟩ v1 (fun q h => by rw [v3] at h; cases h) (by rw [v2]; exact hkC) (by rw [v2]; exact va_asg _ _) rfl rfl d fun H' e1 e2 e3 => K h1 h2 ls H' _ hl ?_ (locs_app hL (locs_one (hR.2.2.2 a (by omega)).1))
  exact hR.putA (t := 4) hk (by omega) e1 e2 e3 rfl (fun _ => rfl) (fun _ => rfl) (fun b hb j => ⟨rfl, rfl, by rw [gr_sr, if_neg (fun q => hb q.1)]⟩) arrF_sr
end Arr
