-- THE JUDGEMENT Wj: from a frame over the small heap h the method comes to its end with Q; rows, one an instruction
abbrev Ctx : Type := Program × Launch × Env × Room × State × MethodId × Array Value × List Frame × Method × Code × Dt × Nat × Nat
abbrev Pq : Type := Option Value → Hp → Prop
def Qm (D : Dt) (Q : Pq) : Array Value → State → Outcome → State → Prop := fun _ _ o t => ∃ v h', o = .returned v ∧ Q v h' ∧ RelH D h' t.heap
abbrev mcX (X : Ctx) : Nat := X.2.2.2.2.2.2.2.2.2.2.2.1
abbrev msX (X : Ctx) : Nat := X.2.2.2.2.2.2.2.2.2.2.2.2
abbrev dtX (X : Ctx) : Dt := X.2.2.2.2.2.2.2.2.2.2.1
abbrev lX (X : Ctx) : Launch := X.2.1
def Wj (X : Ctx) (k n : Nat) (Q : Pq) (pc : Nat) (lv : List (Nat × Value)) (st : List Value) (h : Hp) : Prop :=
  match X with
  | (p, l, e, R, s, m, args, below, meth, c, D, mc, ms) => k ≤ mc → n ≤ ms → ∀ (ls : Array Slot) (H : Heap) (locs : List Loc), lv_has ls c.maxLocals lv → RelH D h H → (∀ q ∈ locs, D.2.2.size ≤ q.base) →
    W p l e R s m args below meth c H locs k n (MQ below (Qm D Q) args s mc ms (fun q => D.2.2.size ≤ q)) (F0 m pc ls st)
def Cx (X : Ctx) (own : String) (cc : ByteArray) (nL : Nat) (ret : Option FieldType) (nm : String) (fr lo : Nat) : Prop :=
  match X with
  | (p, l, e, R, s, m, args, below, meth, c, D, mc, ms) => p.tables.exec = Jvm.exec ∧ c.code = cc ∧ c.maxLocals = nL ∧ s.vm.findClass own = some m.cls ∧ (∀ w ∈ gwd, w.before args s = true) ∧ Kn D s ∧ meth.sig.returnType = ret ∧ meth.locks = false ∧ meth.name = nm ∧ R.frames = fr ∧ R.locals = lo ∧ R.cells = mc ∧ R.slots = ms
/-- a method's contract over the small heap -/
def Sp (l : Launch) (D : Dt) (y : MethodName) (cc : ByteArray) (nL : Nat) (ret : Option FieldType) (fr lo mc ms : Nat) (av : List Value) (h : Hp) (Q : Pq) : Prop :=
  Met l y (.code y cc nL ret :: gwd) { frames := fr, cells := mc, slots := ms, locals := lo } (va_Pc av (fun U => RelH D h U.heap ∧ Kn D U)) (Qm D Q) mc ms (fun q => D.2.2.size ≤ q)
theorem Kn.moved {D : Dt} {u U : State} (hW : u.WarmedH U.vm) (h : Kn D u) : Kn D U := ⟨h.1.moved hW.alike, fun w hw => nest_warm hW w hw (h.2.1 w hw), h.2.2.1.moved hW.alike, h.2.2.2.moved hW⟩
theorem Kn.same {D : Dt} {u U : State} (hW : u.vm = U.vm) (h : Kn D u) : Kn D U := ⟨h.1.moved (by rw [hW]; exact Vm.Alike.refl _), fun w hw => by
  have h1 := h.2.1 w hw
  simp only [nestW, List.mem_cons, List.not_mem_nil, or_false] at hw
  rcases hw with rfl | rfl | rfl | rfl | rfl | rfl | rfl | rfl | rfl | rfl | rfl | rfl | rfl | rfl | rfl | rfl <;> exact va_Nw.same rfl hW h1, h.2.2.1.moved (by rw [hW]; exact Vm.Alike.refl _), h.2.2.2.same hW⟩
theorem Sp.mono {l : Launch} {D : Dt} {y : MethodName} {cc : ByteArray} {nL : Nat} {ret : Option FieldType} {fr lo mc ms : Nat} {av : List Value} {h : Hp} {Q Q' : Pq} (hs : Sp l D y cc nL ret fr lo mc ms av h Q) (hq : ∀ v h', Q v h' → Q' v h') : Sp l D y cc nL ret fr lo mc ms av h Q' := by
  unfold Sp Met at hs ⊢
  exact MetFree.mono hs (fun _ _ h => h) (fun _ _ _ _ _ h => h) (fun a s o t _ hx => by
    obtain ⟨⟨v, h', e, hp, hr⟩, hf⟩ := hx
    exact ⟨⟨v, h', e, hq v h' hp, hr⟩, hf⟩)
theorem Sp.of {l : Launch} {D : Dt} {y : MethodName} {cc : ByteArray} {nL : Nat} {ret : Option FieldType} {fr lo mc ms : Nat} {av : List Value} {h : Hp} {Q : Pq} (hy : plainName y.cls = true) (hl : (lg_sl av).length ≤ nL)
    (body : ∀ X : Ctx, Cx X y.cls cc nL ret y.name fr lo → lX X = l → dtX X = D → mcX X = mc → msX X = ms → Wj X 0 0 Q 0 (lv_args 0 av) [] h) : Sp l D y cc nL ret fr lo mc ms av h Q := by
  refine Met.ofW (cc := cc) (maxL := nL) (ret := ret) hy rfl ?_
  intro p e s m args below meth c s₁ B hml hv
  obtain ⟨rfl, hR, hK⟩ := hv
  have hts := atoms_spec (ws := .code y cc nL ret :: gwd) B.pre
  have C : Cx (p, l, e, { frames := fr, cells := mc, slots := ms, locals := lo }, s, m, av.toArray, below, meth, c, D, mc, ms) y.cls cc nL ret y.name fr lo :=
    ⟨B.exec, B.bytes, hml, findClass_of_methodNamed B.named, fun w hw => hts w (List.mem_cons_of_mem _ hw), hK, B.returns, B.notSynchronized, (name_of_methodNamed B.named B.method).1, rfl, rfl, rfl, rfl⟩
  have hle := lv_entry av hl
  rw [lg_entry_eq]
  exact body _ C rfl rfl rfl rfl (Nat.zero_le _) (Nat.zero_le _) _ _ [] (by rw [hml]; exact hle) hR (fun _ h => by cases h)
-- locals
def lvget : List (Nat × Value) → Nat → Option Value
  | [], _ => none
  | (j, v) :: r, i => match Nat.beq j i with
    | true => some v
    | false => lvget r i
def vcat : Value → Bool
  | .long _ => true
  | .double _ => true
  | _ => false
theorem vcat_iff (v : Value) : v.category = 2 ↔ vcat v = true := by cases v <;> simp [Value.category, vcat]
def lvdel (i : Nat) : List (Nat × Value) → List (Nat × Value)
  | [] => []
  | (j, v) :: r => match Nat.beq j i with
    | true => lvdel i r
    | false => match Nat.beq (j + 1) i with
      | false => (j, v) :: lvdel i r
      | true => match vcat v with
        | true => lvdel i r
        | false => (j, v) :: lvdel i r
def lvdel2 (i : Nat) : List (Nat × Value) → List (Nat × Value)
  | [] => []
  | (j, v) :: r => match Nat.beq j i with
    | true => lvdel2 i r
    | false => match Nat.beq j (i + 1) with
      | true => lvdel2 i r
      | false => match Nat.beq (j + 1) i with
        | false => (j, v) :: lvdel2 i r
        | true => match vcat v with
          | true => lvdel2 i r
          | false => (j, v) :: lvdel2 i r
theorem beq_nat (a b : Nat) : (a == b) = Nat.beq a b := by
  rw [Bool.eq_iff_iff]
  simp [Nat.beq_eq]
theorem lvdel_eq (i : Nat) (l : List (Nat × Value)) : l.filter (fun q => !(q.1 == i) && !(q.1 + 1 == i && q.2.category == 2)) = lvdel i l := by
  induction l with
  | nil => rfl
  | cons q r ih =>
    obtain ⟨j, v⟩ := q
    rw [List.filter_cons, ih]
    simp only [lvdel, beq_nat]
    cases h1 : Nat.beq j i <;> cases h2 : Nat.beq (j + 1) i <;> cases h3 : vcat v <;> simp [vcat_iff, h3]
theorem lvdel2_eq (i : Nat) (l : List (Nat × Value)) : l.filter (fun q => !(q.1 == i) && (!(q.1 == i + 1) && !(q.1 + 1 == i && q.2.category == 2))) = lvdel2 i l := by
  induction l with
  | nil => rfl
  | cons q r ih =>
    obtain ⟨j, v⟩ := q
    rw [List.filter_cons, ih]
    simp only [lvdel2, beq_nat]
    cases h1 : Nat.beq j i <;> cases h4 : Nat.beq j (i + 1) <;> cases h2 : Nat.beq (j + 1) i <;> cases h3 : vcat v <;> simp [vcat_iff, h3]
theorem lvget_mem {l : List (Nat × Value)} {i : Nat} {v : Value} (h : lvget l i = some v) : (i, v) ∈ l := by
  induction l with
  | nil => cases h
  | cons q r ih =>
    obtain ⟨j, w⟩ := q
    unfold lvget at h
    cases hb : Nat.beq j i with
    | true =>
      rw [hb] at h
      have e := Nat.eq_of_beq_eq_true hb
      cases h
      rw [e]; exact List.mem_cons_self
    | false =>
      rw [hb] at h
      exact List.mem_cons_of_mem _ (ih h)
def lvsub : List (Nat × Value) → List (Nat × Value) → Prop
  | [], _ => True
  | (i, v) :: r, l => lvget l i = some v ∧ lvsub r l
theorem lvsub_has {ls : Array Slot} {nL : Nat} {l l' : List (Nat × Value)} (h : lv_has ls nL l) (hs : lvsub l' l) : lv_has ls nL l' := by
  refine ⟨h.1, h.2.1, ?_⟩
  induction l' with
  | nil => intro q hq; cases hq
  | cons q r ih =>
    obtain ⟨i, v⟩ := q
    intro q hq
    rcases List.mem_cons.mp hq with rfl | hq
    · exact h.2.2 _ (lvget_mem hs.1)
    · exact ih hs.2 q hq
theorem irem_eq (x y : Int32) : x - x / y * y = x % y := by
  apply Int32.toInt_inj.mp
  rw [Int32.toInt_sub, Int32.toInt_mul, Int32.toInt_div, Int32.toInt_mod, Int.bmod_mul_bmod, Int.sub_bmod_bmod]
  have h := Int.tmod_def x.toInt y.toInt
  rw [Int.mul_comm, ← h]
  have h2 := (x % y).toInt_bmod
  rw [Int32.toInt_mod] at h2
  exact h2
theorem lrem_eq (x y : Int64) : x - x / y * y = x % y := by
  apply Int64.toInt_inj.mp
  rw [Int64.toInt_sub, Int64.toInt_mul, Int64.toInt_div, Int64.toInt_mod, Int.bmod_mul_bmod, Int.sub_bmod_bmod]
  have h := Int.tmod_def x.toInt y.toInt
  rw [Int.mul_comm, ← h]
  have h2 := (x % y).toInt_bmod
  rw [Int64.toInt_mod] at h2
  exact h2
section Rows
variable {X : Ctx} {k n : Nat} {Q : Pq} {pc : Nat} {lv : List (Nat × Value)} {st : List Value} {h : Hp} {own : String} {cc : ByteArray} {nL : Nat} {ret : Option FieldType} {nm : String} {fr lo : Nat}
theorem w_sub {lv' : List (Nat × Value)} (hs : lvsub lv' lv) (K : Wj X k n Q pc lv' st h) : Wj X k n Q pc lv st h := by
  obtain ⟨p, l, e, R, s, m, args, below, meth, c, D, mc, ms⟩ := X
  exact fun h1 h2 ls H locs hl hR hL => K h1 h2 ls H locs (lvsub_has hl hs) hR hL
theorem w_heap {h' : Hp} (e : h' = h) (K : Wj X k n Q pc lv st h') : Wj X k n Q pc lv st h := e ▸ K
-- BY PROGRAM (gen_rows.py)
theorem w_iconst {z : Int} {v : Int32} (C : Cx X own cc nL ret nm fr lo)  (d : decode cc pc = .ok (.iconst z, 1)) (hv : Int32.ofInt z = v) (K : Wj X k n Q (pc + 1) lv (.int v :: st) h) : Wj X k n Q pc lv st h := by
  obtain ⟨p, l, e, R, s, m, args, below, meth, c, D, mc, ms⟩ := X
  exact fun h1 h2 ls H locs hl hR hL => lv_iconst C.1 C.2.1 d hv (K h1 h2 ls H locs hl hR hL)
theorem w_bipush {z : Int} {v : Int32} (C : Cx X own cc nL ret nm fr lo)  (d : decode cc pc = .ok (.bipush z, 2)) (hv : (Int8.ofInt z).toInt32 = v) (K : Wj X k n Q (pc + 2) lv (.int v :: st) h) : Wj X k n Q pc lv st h := by
  obtain ⟨p, l, e, R, s, m, args, below, meth, c, D, mc, ms⟩ := X
  exact fun h1 h2 ls H locs hl hR hL => lv_bipush C.1 C.2.1 d hv (K h1 h2 ls H locs hl hR hL)
theorem w_sipush {z : Int} {v : Int32} (C : Cx X own cc nL ret nm fr lo)  (d : decode cc pc = .ok (.sipush z, 3)) (hv : (Int16.ofInt z).toInt32 = v) (K : Wj X k n Q (pc + 3) lv (.int v :: st) h) : Wj X k n Q pc lv st h := by
  obtain ⟨p, l, e, R, s, m, args, below, meth, c, D, mc, ms⟩ := X
  exact fun h1 h2 ls H locs hl hR hL => lv_sipush C.1 C.2.1 d hv (K h1 h2 ls H locs hl hR hL)
theorem w_lconst {z : Fin 2} {v : Int64} (C : Cx X own cc nL ret nm fr lo)  (d : decode cc pc = .ok (.lconst z, 1)) (hv : Int64.ofNat (z : Nat) = v) (K : Wj X k n Q (pc + 1) lv (.long v :: st) h) : Wj X k n Q pc lv st h := by
  obtain ⟨p, l, e, R, s, m, args, below, meth, c, D, mc, ms⟩ := X
  exact fun h1 h2 ls H locs hl hR hL => lv_lconst C.1 C.2.1 d hv (K h1 h2 ls H locs hl hR hL)
theorem w_iload_n {i : Fin 4} {x : Int32} (C : Cx X own cc nL ret nm fr lo) (d : decode cc pc = .ok (.iload_n i, 1)) (hk : lvget lv (i : Nat) = some (.int x)) (K : Wj X k n Q (pc + 1) lv (.int x :: st) h) : Wj X k n Q pc lv st h := by
  obtain ⟨p, l, e, R, s, m, args, below, meth, c, D, mc, ms⟩ := X
  exact fun h1 h2 ls H locs hl hR hL => lv_iload_n C.1 C.2.1 d rfl (hl.2.2 _ (lvget_mem hk)) (K h1 h2 ls H locs hl hR hL)
theorem w_iload {i : Nat} {x : Int32} (C : Cx X own cc nL ret nm fr lo) (d : decode cc pc = .ok (.iload i, 2)) (hk : lvget lv i = some (.int x)) (K : Wj X k n Q (pc + 2) lv (.int x :: st) h) : Wj X k n Q pc lv st h := by
  obtain ⟨p, l, e, R, s, m, args, below, meth, c, D, mc, ms⟩ := X
  exact fun h1 h2 ls H locs hl hR hL => lv_iload C.1 C.2.1 d (hl.2.2 _ (lvget_mem hk)) (K h1 h2 ls H locs hl hR hL)
theorem w_istore_n {i : Fin 4} {x : Int32} (C : Cx X own cc nL ret nm fr lo) (d : decode cc pc = .ok (.istore_n i, 1)) (hi : (i : Nat) < nL) (K : Wj X k n Q (pc + 1) (((i : Nat), .int x) :: lvdel i lv) st h) : Wj X k n Q pc lv (.int x :: st) h := by
  obtain ⟨p, l, e, R, s, m, args, below, meth, c, D, mc, ms⟩ := X
  exact fun h1 h2 ls H locs hl hR hL => lv_istore_n C.1 C.2.1 d rfl hl (by rw [C.2.2.1]; exact hi) (by rw [lvdel_eq]) (fun ls hl => K h1 h2 ls H locs hl hR hL)
theorem w_istore {i : Nat} {x : Int32} (C : Cx X own cc nL ret nm fr lo) (d : decode cc pc = .ok (.istore i, 2)) (hi : i < nL) (K : Wj X k n Q (pc + 2) ((i, .int x) :: lvdel i lv) st h) : Wj X k n Q pc lv (.int x :: st) h := by
  obtain ⟨p, l, e, R, s, m, args, below, meth, c, D, mc, ms⟩ := X
  exact fun h1 h2 ls H locs hl hR hL => lv_istore C.1 C.2.1 d hl (by rw [C.2.2.1]; exact hi) (by rw [lvdel_eq]) (fun ls hl => K h1 h2 ls H locs hl hR hL)
theorem w_lload_n {i : Fin 4} {x : Int64} (C : Cx X own cc nL ret nm fr lo) (d : decode cc pc = .ok (.lload_n i, 1)) (hk : lvget lv (i : Nat) = some (.long x)) (K : Wj X k n Q (pc + 1) lv (.long x :: st) h) : Wj X k n Q pc lv st h := by
  obtain ⟨p, l, e, R, s, m, args, below, meth, c, D, mc, ms⟩ := X
  exact fun h1 h2 ls H locs hl hR hL => lv_lload_n C.1 C.2.1 d rfl (hl.2.2 _ (lvget_mem hk)) (K h1 h2 ls H locs hl hR hL)
theorem w_lload {i : Nat} {x : Int64} (C : Cx X own cc nL ret nm fr lo) (d : decode cc pc = .ok (.lload i, 2)) (hk : lvget lv i = some (.long x)) (K : Wj X k n Q (pc + 2) lv (.long x :: st) h) : Wj X k n Q pc lv st h := by
  obtain ⟨p, l, e, R, s, m, args, below, meth, c, D, mc, ms⟩ := X
  exact fun h1 h2 ls H locs hl hR hL => lv_lload C.1 C.2.1 d (hl.2.2 _ (lvget_mem hk)) (K h1 h2 ls H locs hl hR hL)
theorem w_lstore_n {i : Fin 4} {x : Int64} (C : Cx X own cc nL ret nm fr lo) (d : decode cc pc = .ok (.lstore_n i, 1)) (hi : (i : Nat) + 1 < nL) (K : Wj X k n Q (pc + 1) (((i : Nat), .long x) :: lvdel2 i lv) st h) : Wj X k n Q pc lv (.long x :: st) h := by
  obtain ⟨p, l, e, R, s, m, args, below, meth, c, D, mc, ms⟩ := X
  exact fun h1 h2 ls H locs hl hR hL => lv_lstore_n C.1 C.2.1 d rfl hl (by rw [C.2.2.1]; exact hi) (by rw [lvdel2_eq]) (fun ls hl => K h1 h2 ls H locs hl hR hL)
theorem w_lstore {i : Nat} {x : Int64} (C : Cx X own cc nL ret nm fr lo) (d : decode cc pc = .ok (.lstore i, 2)) (hi : i + 1 < nL) (K : Wj X k n Q (pc + 2) ((i, .long x) :: lvdel2 i lv) st h) : Wj X k n Q pc lv (.long x :: st) h := by
  obtain ⟨p, l, e, R, s, m, args, below, meth, c, D, mc, ms⟩ := X
  exact fun h1 h2 ls H locs hl hR hL => lv_lstore C.1 C.2.1 d hl (by rw [C.2.2.1]; exact hi) (by rw [lvdel2_eq]) (fun ls hl => K h1 h2 ls H locs hl hR hL)
theorem w_aload_n {i : Fin 4} {x : Nat} (C : Cx X own cc nL ret nm fr lo) (d : decode cc pc = .ok (.aload_n i, 1)) (hk : lvget lv (i : Nat) = some (.ref x)) (K : Wj X k n Q (pc + 1) lv (.ref x :: st) h) : Wj X k n Q pc lv st h := by
  obtain ⟨p, l, e, R, s, m, args, below, meth, c, D, mc, ms⟩ := X
  exact fun h1 h2 ls H locs hl hR hL => lv_aload_n C.1 C.2.1 d rfl (hl.2.2 _ (lvget_mem hk)) (K h1 h2 ls H locs hl hR hL)
theorem w_aload {i : Nat} {x : Nat} (C : Cx X own cc nL ret nm fr lo) (d : decode cc pc = .ok (.aload i, 2)) (hk : lvget lv i = some (.ref x)) (K : Wj X k n Q (pc + 2) lv (.ref x :: st) h) : Wj X k n Q pc lv st h := by
  obtain ⟨p, l, e, R, s, m, args, below, meth, c, D, mc, ms⟩ := X
  exact fun h1 h2 ls H locs hl hR hL => lv_aload C.1 C.2.1 d (hl.2.2 _ (lvget_mem hk)) (K h1 h2 ls H locs hl hR hL)
theorem w_astore_n {i : Fin 4} {x : Nat} (C : Cx X own cc nL ret nm fr lo) (d : decode cc pc = .ok (.astore_n i, 1)) (hi : (i : Nat) < nL) (K : Wj X k n Q (pc + 1) (((i : Nat), .ref x) :: lvdel i lv) st h) : Wj X k n Q pc lv (.ref x :: st) h := by
  obtain ⟨p, l, e, R, s, m, args, below, meth, c, D, mc, ms⟩ := X
  exact fun h1 h2 ls H locs hl hR hL => lv_astore_n C.1 C.2.1 d rfl hl (by rw [C.2.2.1]; exact hi) (by rw [lvdel_eq]) (fun ls hl => K h1 h2 ls H locs hl hR hL)
theorem w_astore {i : Nat} {x : Nat} (C : Cx X own cc nL ret nm fr lo) (d : decode cc pc = .ok (.astore i, 2)) (hi : i < nL) (K : Wj X k n Q (pc + 2) ((i, .ref x) :: lvdel i lv) st h) : Wj X k n Q pc lv (.ref x :: st) h := by
  obtain ⟨p, l, e, R, s, m, args, below, meth, c, D, mc, ms⟩ := X
  exact fun h1 h2 ls H locs hl hR hL => lv_astore C.1 C.2.1 d hl (by rw [C.2.2.1]; exact hi) (by rw [lvdel_eq]) (fun ls hl => K h1 h2 ls H locs hl hR hL)
theorem w_astore_nN {i : Fin 4} (C : Cx X own cc nL ret nm fr lo) (d : decode cc pc = .ok (.astore_n i, 1)) (hi : (i : Nat) < nL) (K : Wj X k n Q (pc + 1) (((i : Nat), .null) :: lvdel i lv) st h) : Wj X k n Q pc lv (.null :: st) h := by
  obtain ⟨p, l, e, R, s, m, args, below, meth, c, D, mc, ms⟩ := X
  exact fun h1 h2 ls H locs hl hR hL => lv_astore_nN C.1 C.2.1 d rfl hl (by rw [C.2.2.1]; exact hi) (by rw [lvdel_eq]) (fun ls hl => K h1 h2 ls H locs hl hR hL)
theorem w_astoreN {i : Nat} (C : Cx X own cc nL ret nm fr lo) (d : decode cc pc = .ok (.astore i, 2)) (hi : i < nL) (K : Wj X k n Q (pc + 2) ((i, .null) :: lvdel i lv) st h) : Wj X k n Q pc lv (.null :: st) h := by
  obtain ⟨p, l, e, R, s, m, args, below, meth, c, D, mc, ms⟩ := X
  exact fun h1 h2 ls H locs hl hR hL => lv_astoreN C.1 C.2.1 d hl (by rw [C.2.2.1]; exact hi) (by rw [lvdel_eq]) (fun ls hl => K h1 h2 ls H locs hl hR hL)
theorem w_aload_nN {i : Fin 4} (C : Cx X own cc nL ret nm fr lo) (d : decode cc pc = .ok (.aload_n i, 1)) (hk : lvget lv (i : Nat) = some .null) (K : Wj X k n Q (pc + 1) lv (.null :: st) h) : Wj X k n Q pc lv st h := by
  obtain ⟨p, l, e, R, s, m, args, below, meth, c, D, mc, ms⟩ := X
  exact fun h1 h2 ls H locs hl hR hL => lv_aload_nN C.1 C.2.1 d rfl (hl.2.2 _ (lvget_mem hk)) (K h1 h2 ls H locs hl hR hL)
theorem w_aloadN {i : Nat} (C : Cx X own cc nL ret nm fr lo) (d : decode cc pc = .ok (.aload i, 2)) (hk : lvget lv i = some .null) (K : Wj X k n Q (pc + 2) lv (.null :: st) h) : Wj X k n Q pc lv st h := by
  obtain ⟨p, l, e, R, s, m, args, below, meth, c, D, mc, ms⟩ := X
  exact fun h1 h2 ls H locs hl hR hL => lv_aloadN C.1 C.2.1 d (hl.2.2 _ (lvget_mem hk)) (K h1 h2 ls H locs hl hR hL)
theorem lvget_at {l : List (Nat × Value)} {i : Nat} {v : Value} (h : lvget l i = some v) : ∃ q : Nat, l[q]? = some (i, v) := List.getElem?_of_mem (lvget_mem h)
theorem w_iinc {i : Nat} {z : Int} {x : Int32} (C : Cx X own cc nL ret nm fr lo) (d : decode cc pc = .ok (.iinc i z, 3)) (hk : lvget lv i = some (.int x)) (hi : i < nL) (K : Wj X k n Q (pc + 3) ((i, .int (x + Int32.ofInt z)) :: lvdel i lv) st h) : Wj X k n Q pc lv st h := by
  obtain ⟨p, l, e, R, s, m, args, below, meth, c, D, mc, ms⟩ := X
  obtain ⟨q, hq⟩ := lvget_at hk
  exact fun h1 h2 ls H locs hl hR hL => lv_iinc C.1 C.2.1 d hl hq rfl (by rw [C.2.2.1]; exact hi) (by rw [lvdel_eq]) (fun ls hl => K h1 h2 ls H locs hl hR hL)
theorem w_iadd {x y : Int32} (C : Cx X own cc nL ret nm fr lo)  (d : decode cc pc = .ok (.iadd, 1))  (K : Wj X k n Q (pc + 1) lv (.int (x + y) :: st) h) : Wj X k n Q pc lv (.int y :: .int x :: st) h := by
  obtain ⟨p, l, e, R, s, m, args, below, meth, c, D, mc, ms⟩ := X
  exact fun h1 h2 ls H locs hl hR hL => lv_iadd C.1 C.2.1 d (K h1 h2 ls H locs hl hR hL)
theorem w_ladd {x y : Int64} (C : Cx X own cc nL ret nm fr lo)  (d : decode cc pc = .ok (.ladd, 1))  (K : Wj X k n Q (pc + 1) lv (.long (x + y) :: st) h) : Wj X k n Q pc lv (.long y :: .long x :: st) h := by
  obtain ⟨p, l, e, R, s, m, args, below, meth, c, D, mc, ms⟩ := X
  exact fun h1 h2 ls H locs hl hR hL => lv_ladd C.1 C.2.1 d (K h1 h2 ls H locs hl hR hL)
theorem w_isub {x y : Int32} (C : Cx X own cc nL ret nm fr lo)  (d : decode cc pc = .ok (.isub, 1))  (K : Wj X k n Q (pc + 1) lv (.int (x - y) :: st) h) : Wj X k n Q pc lv (.int y :: .int x :: st) h := by
  obtain ⟨p, l, e, R, s, m, args, below, meth, c, D, mc, ms⟩ := X
  exact fun h1 h2 ls H locs hl hR hL => lv_isub C.1 C.2.1 d (K h1 h2 ls H locs hl hR hL)
theorem w_lsub {x y : Int64} (C : Cx X own cc nL ret nm fr lo)  (d : decode cc pc = .ok (.lsub, 1))  (K : Wj X k n Q (pc + 1) lv (.long (x - y) :: st) h) : Wj X k n Q pc lv (.long y :: .long x :: st) h := by
  obtain ⟨p, l, e, R, s, m, args, below, meth, c, D, mc, ms⟩ := X
  exact fun h1 h2 ls H locs hl hR hL => lv_lsub C.1 C.2.1 d (K h1 h2 ls H locs hl hR hL)
theorem w_imul {x y : Int32} (C : Cx X own cc nL ret nm fr lo)  (d : decode cc pc = .ok (.imul, 1))  (K : Wj X k n Q (pc + 1) lv (.int (x * y) :: st) h) : Wj X k n Q pc lv (.int y :: .int x :: st) h := by
  obtain ⟨p, l, e, R, s, m, args, below, meth, c, D, mc, ms⟩ := X
  exact fun h1 h2 ls H locs hl hR hL => lv_imul C.1 C.2.1 d (K h1 h2 ls H locs hl hR hL)
theorem w_lmul {x y : Int64} (C : Cx X own cc nL ret nm fr lo)  (d : decode cc pc = .ok (.lmul, 1))  (K : Wj X k n Q (pc + 1) lv (.long (x * y) :: st) h) : Wj X k n Q pc lv (.long y :: .long x :: st) h := by
  obtain ⟨p, l, e, R, s, m, args, below, meth, c, D, mc, ms⟩ := X
  exact fun h1 h2 ls H locs hl hR hL => lv_lmul C.1 C.2.1 d (K h1 h2 ls H locs hl hR hL)
theorem w_iand {x y : Int32} (C : Cx X own cc nL ret nm fr lo)  (d : decode cc pc = .ok (.iand, 1))  (K : Wj X k n Q (pc + 1) lv (.int (x &&& y) :: st) h) : Wj X k n Q pc lv (.int y :: .int x :: st) h := by
  obtain ⟨p, l, e, R, s, m, args, below, meth, c, D, mc, ms⟩ := X
  exact fun h1 h2 ls H locs hl hR hL => lv_iand C.1 C.2.1 d (K h1 h2 ls H locs hl hR hL)
theorem w_land {x y : Int64} (C : Cx X own cc nL ret nm fr lo)  (d : decode cc pc = .ok (.land, 1))  (K : Wj X k n Q (pc + 1) lv (.long (x &&& y) :: st) h) : Wj X k n Q pc lv (.long y :: .long x :: st) h := by
  obtain ⟨p, l, e, R, s, m, args, below, meth, c, D, mc, ms⟩ := X
  exact fun h1 h2 ls H locs hl hR hL => lv_land C.1 C.2.1 d (K h1 h2 ls H locs hl hR hL)
theorem w_ior {x y : Int32} (C : Cx X own cc nL ret nm fr lo)  (d : decode cc pc = .ok (.ior, 1))  (K : Wj X k n Q (pc + 1) lv (.int (x ||| y) :: st) h) : Wj X k n Q pc lv (.int y :: .int x :: st) h := by
  obtain ⟨p, l, e, R, s, m, args, below, meth, c, D, mc, ms⟩ := X
  exact fun h1 h2 ls H locs hl hR hL => lv_ior C.1 C.2.1 d (K h1 h2 ls H locs hl hR hL)
theorem w_lor {x y : Int64} (C : Cx X own cc nL ret nm fr lo)  (d : decode cc pc = .ok (.lor, 1))  (K : Wj X k n Q (pc + 1) lv (.long (x ||| y) :: st) h) : Wj X k n Q pc lv (.long y :: .long x :: st) h := by
  obtain ⟨p, l, e, R, s, m, args, below, meth, c, D, mc, ms⟩ := X
  exact fun h1 h2 ls H locs hl hR hL => lv_lor C.1 C.2.1 d (K h1 h2 ls H locs hl hR hL)
theorem w_ixor {x y : Int32} (C : Cx X own cc nL ret nm fr lo)  (d : decode cc pc = .ok (.ixor, 1))  (K : Wj X k n Q (pc + 1) lv (.int (x ^^^ y) :: st) h) : Wj X k n Q pc lv (.int y :: .int x :: st) h := by
  obtain ⟨p, l, e, R, s, m, args, below, meth, c, D, mc, ms⟩ := X
  exact fun h1 h2 ls H locs hl hR hL => lv_ixor C.1 C.2.1 d (K h1 h2 ls H locs hl hR hL)
theorem w_lxor {x y : Int64} (C : Cx X own cc nL ret nm fr lo)  (d : decode cc pc = .ok (.lxor, 1))  (K : Wj X k n Q (pc + 1) lv (.long (x ^^^ y) :: st) h) : Wj X k n Q pc lv (.long y :: .long x :: st) h := by
  obtain ⟨p, l, e, R, s, m, args, below, meth, c, D, mc, ms⟩ := X
  exact fun h1 h2 ls H locs hl hR hL => lv_lxor C.1 C.2.1 d (K h1 h2 ls H locs hl hR hL)
theorem w_idiv {x y : Int32} (C : Cx X own cc nL ret nm fr lo)  (d : decode cc pc = .ok (.idiv, 1)) (hne : ¬ y = 0) (K : Wj X k n Q (pc + 1) lv (.int (x / y) :: st) h) : Wj X k n Q pc lv (.int y :: .int x :: st) h := by
  obtain ⟨p, l, e, R, s, m, args, below, meth, c, D, mc, ms⟩ := X
  exact fun h1 h2 ls H locs hl hR hL => lv_idiv C.1 C.2.1 d hne (K h1 h2 ls H locs hl hR hL)
theorem w_ldiv {x y : Int64} (C : Cx X own cc nL ret nm fr lo)  (d : decode cc pc = .ok (.ldiv, 1)) (hne : ¬ y = 0) (K : Wj X k n Q (pc + 1) lv (.long (x / y) :: st) h) : Wj X k n Q pc lv (.long y :: .long x :: st) h := by
  obtain ⟨p, l, e, R, s, m, args, below, meth, c, D, mc, ms⟩ := X
  exact fun h1 h2 ls H locs hl hR hL => lv_ldiv C.1 C.2.1 d hne (K h1 h2 ls H locs hl hR hL)
theorem w_irem {x y : Int32} (C : Cx X own cc nL ret nm fr lo) (d : decode cc pc = .ok (.irem, 1)) (hne : ¬ y = 0) (K : Wj X k n Q (pc + 1) lv (.int (x % y) :: st) h) : Wj X k n Q pc lv (.int y :: .int x :: st) h := by
  rw [← irem_eq] at K
  obtain ⟨p, l, e, R, s, m, args, below, meth, c, D, mc, ms⟩ := X
  exact fun h1 h2 ls H locs hl hR hL => lv_irem C.1 C.2.1 d hne (K h1 h2 ls H locs hl hR hL)
theorem w_lrem {x y : Int64} (C : Cx X own cc nL ret nm fr lo) (d : decode cc pc = .ok (.lrem, 1)) (hne : ¬ y = 0) (K : Wj X k n Q (pc + 1) lv (.long (x % y) :: st) h) : Wj X k n Q pc lv (.long y :: .long x :: st) h := by
  rw [← lrem_eq] at K
  obtain ⟨p, l, e, R, s, m, args, below, meth, c, D, mc, ms⟩ := X
  exact fun h1 h2 ls H locs hl hR hL => lv_lrem C.1 C.2.1 d hne (K h1 h2 ls H locs hl hR hL)
theorem w_ineg {x : Int32} (C : Cx X own cc nL ret nm fr lo)  (d : decode cc pc = .ok (.ineg, 1))  (K : Wj X k n Q (pc + 1) lv (.int (-x) :: st) h) : Wj X k n Q pc lv (.int x :: st) h := by
  obtain ⟨p, l, e, R, s, m, args, below, meth, c, D, mc, ms⟩ := X
  exact fun h1 h2 ls H locs hl hR hL => lv_ineg C.1 C.2.1 d (K h1 h2 ls H locs hl hR hL)
theorem w_lneg {x : Int64} (C : Cx X own cc nL ret nm fr lo)  (d : decode cc pc = .ok (.lneg, 1))  (K : Wj X k n Q (pc + 1) lv (.long (-x) :: st) h) : Wj X k n Q pc lv (.long x :: st) h := by
  obtain ⟨p, l, e, R, s, m, args, below, meth, c, D, mc, ms⟩ := X
  exact fun h1 h2 ls H locs hl hR hL => lv_lneg C.1 C.2.1 d (K h1 h2 ls H locs hl hR hL)
theorem w_ishl {x y : Int32} (C : Cx X own cc nL ret nm fr lo)  (d : decode cc pc = .ok (.ishl, 1))  (K : Wj X k n Q (pc + 1) lv (.int (x <<< (y &&& 31)) :: st) h) : Wj X k n Q pc lv (.int y :: .int x :: st) h := by
  obtain ⟨p, l, e, R, s, m, args, below, meth, c, D, mc, ms⟩ := X
  exact fun h1 h2 ls H locs hl hR hL => lv_ishl C.1 C.2.1 d (K h1 h2 ls H locs hl hR hL)
theorem w_ishr {x y : Int32} (C : Cx X own cc nL ret nm fr lo)  (d : decode cc pc = .ok (.ishr, 1))  (K : Wj X k n Q (pc + 1) lv (.int (x >>> (y &&& 31)) :: st) h) : Wj X k n Q pc lv (.int y :: .int x :: st) h := by
  obtain ⟨p, l, e, R, s, m, args, below, meth, c, D, mc, ms⟩ := X
  exact fun h1 h2 ls H locs hl hR hL => lv_ishr C.1 C.2.1 d (K h1 h2 ls H locs hl hR hL)
theorem w_iushr {x y : Int32} (C : Cx X own cc nL ret nm fr lo)  (d : decode cc pc = .ok (.iushr, 1))  (K : Wj X k n Q (pc + 1) lv (.int ((x.toUInt32 >>> (y.toUInt32 &&& Int32.toUInt32 31)).toInt32) :: st) h) : Wj X k n Q pc lv (.int y :: .int x :: st) h := by
  obtain ⟨p, l, e, R, s, m, args, below, meth, c, D, mc, ms⟩ := X
  exact fun h1 h2 ls H locs hl hR hL => lv_iushr C.1 C.2.1 d rfl (K h1 h2 ls H locs hl hR hL)
theorem w_i2l {x : Int32} (C : Cx X own cc nL ret nm fr lo)  (d : decode cc pc = .ok (.i2l, 1))  (K : Wj X k n Q (pc + 1) lv (.long x.toInt64 :: st) h) : Wj X k n Q pc lv (.int x :: st) h := by
  obtain ⟨p, l, e, R, s, m, args, below, meth, c, D, mc, ms⟩ := X
  exact fun h1 h2 ls H locs hl hR hL => lv_i2l C.1 C.2.1 d rfl (K h1 h2 ls H locs hl hR hL)
theorem w_l2i {x : Int64} (C : Cx X own cc nL ret nm fr lo)  (d : decode cc pc = .ok (.l2i, 1))  (K : Wj X k n Q (pc + 1) lv (.int x.toInt32 :: st) h) : Wj X k n Q pc lv (.long x :: st) h := by
  obtain ⟨p, l, e, R, s, m, args, below, meth, c, D, mc, ms⟩ := X
  exact fun h1 h2 ls H locs hl hR hL => lv_l2i C.1 C.2.1 d rfl (K h1 h2 ls H locs hl hR hL)
theorem w_i2c {x : Int32} (C : Cx X own cc nL ret nm fr lo)  (d : decode cc pc = .ok (.i2c, 1))  (K : Wj X k n Q (pc + 1) lv (.int (x.toUInt32 % 65536).toInt32 :: st) h) : Wj X k n Q pc lv (.int x :: st) h := by
  obtain ⟨p, l, e, R, s, m, args, below, meth, c, D, mc, ms⟩ := X
  exact fun h1 h2 ls H locs hl hR hL => lv_i2c C.1 C.2.1 d rfl (K h1 h2 ls H locs hl hR hL)
theorem w_dup {va : Value} (C : Cx X own cc nL ret nm fr lo)  (d : decode cc pc = .ok (.dup, 1)) (hva : va.category = 1) (K : Wj X k n Q (pc + 1) lv (va :: va :: st) h) : Wj X k n Q pc lv (va :: st) h := by
  obtain ⟨p, l, e, R, s, m, args, below, meth, c, D, mc, ms⟩ := X
  exact fun h1 h2 ls H locs hl hR hL => lv_dup C.1 C.2.1 d hva (K h1 h2 ls H locs hl hR hL)
theorem w_pop {va : Value} (C : Cx X own cc nL ret nm fr lo)  (d : decode cc pc = .ok (.pop, 1)) (hva : va.category = 1) (K : Wj X k n Q (pc + 1) lv st h) : Wj X k n Q pc lv (va :: st) h := by
  obtain ⟨p, l, e, R, s, m, args, below, meth, c, D, mc, ms⟩ := X
  exact fun h1 h2 ls H locs hl hR hL => lv_pop C.1 C.2.1 d hva (K h1 h2 ls H locs hl hR hL)
theorem w_pop2 {va : Value} (C : Cx X own cc nL ret nm fr lo)  (d : decode cc pc = .ok (.pop2, 1)) (hva : va.category = 2) (K : Wj X k n Q (pc + 1) lv st h) : Wj X k n Q pc lv (va :: st) h := by
  obtain ⟨p, l, e, R, s, m, args, below, meth, c, D, mc, ms⟩ := X
  exact fun h1 h2 ls H locs hl hR hL => lv_pop2_2 C.1 C.2.1 d hva (K h1 h2 ls H locs hl hR hL)
theorem w_dup_x1 {va vb : Value} (C : Cx X own cc nL ret nm fr lo)  (d : decode cc pc = .ok (.dup_x1, 1)) (hva : va.category = 1) (hvb : vb.category = 1) (K : Wj X k n Q (pc + 1) lv (va :: vb :: va :: st) h) : Wj X k n Q pc lv (va :: vb :: st) h := by
  obtain ⟨p, l, e, R, s, m, args, below, meth, c, D, mc, ms⟩ := X
  exact fun h1 h2 ls H locs hl hR hL => lv_dup_x1 C.1 C.2.1 d hva hvb (K h1 h2 ls H locs hl hR hL)
theorem w_dup2 {va vb : Value} (C : Cx X own cc nL ret nm fr lo)  (d : decode cc pc = .ok (.dup2, 1)) (hva : va.category = 1) (hvb : vb.category = 1) (K : Wj X k n Q (pc + 1) lv (va :: vb :: va :: vb :: st) h) : Wj X k n Q pc lv (va :: vb :: st) h := by
  obtain ⟨p, l, e, R, s, m, args, below, meth, c, D, mc, ms⟩ := X
  exact fun h1 h2 ls H locs hl hR hL => lv_dup2_11 C.1 C.2.1 d hva hvb (K h1 h2 ls H locs hl hR hL)
theorem w_dup2L {va : Value} (C : Cx X own cc nL ret nm fr lo)  (d : decode cc pc = .ok (.dup2, 1)) (hva : va.category = 2) (K : Wj X k n Q (pc + 1) lv (va :: va :: st) h) : Wj X k n Q pc lv (va :: st) h := by
  obtain ⟨p, l, e, R, s, m, args, below, meth, c, D, mc, ms⟩ := X
  exact fun h1 h2 ls H locs hl hR hL => lv_dup2_2 C.1 C.2.1 d hva (K h1 h2 ls H locs hl hR hL)
theorem w_null  (C : Cx X own cc nL ret nm fr lo)  (d : decode cc pc = .ok (.aconst_null, 1))  (K : Wj X k n Q (pc + 1) lv (.null :: st) h) : Wj X k n Q pc lv st h := by
  obtain ⟨p, l, e, R, s, m, args, below, meth, c, D, mc, ms⟩ := X
  exact fun h1 h2 ls H locs hl hR hL => lv_null C.1 C.2.1 d (K h1 h2 ls H locs hl hR hL)
theorem w_if_eq {x : Int32} {off : Int} {tgt : Nat} (C : Cx X own cc nL ret nm fr lo) (d : decode cc pc = .ok (.ifCond .eq off, 3)) (ht : (pc : Int) + off = (tgt : Int)) (K : (x = 0 → Wj X k n Q tgt lv st h) ∧ (¬ x = 0 → Wj X k n Q (pc + 3) lv st h)) : Wj X k n Q pc lv (.int x :: st) h := by
  obtain ⟨p, l, e, R, s, m, args, below, meth, c, D, mc, ms⟩ := X
  exact fun h1 h2 ls H locs hl hR hL => lv_if_eq C.1 C.2.1 d ht (fun q => K.1 q h1 h2 ls H locs hl hR hL) (fun q => K.2 q h1 h2 ls H locs hl hR hL)
theorem w_icmp_eq {x y : Int32} {off : Int} {tgt : Nat} (C : Cx X own cc nL ret nm fr lo) (d : decode cc pc = .ok (.if_icmp .eq off, 3)) (ht : (pc : Int) + off = (tgt : Int)) (K : (x = y → Wj X k n Q tgt lv st h) ∧ (¬ x = y → Wj X k n Q (pc + 3) lv st h)) : Wj X k n Q pc lv (.int y :: .int x :: st) h := by
  obtain ⟨p, l, e, R, s, m, args, below, meth, c, D, mc, ms⟩ := X
  exact fun h1 h2 ls H locs hl hR hL => lv_icmp_eq C.1 C.2.1 d ht (fun q => K.1 q h1 h2 ls H locs hl hR hL) (fun q => K.2 q h1 h2 ls H locs hl hR hL)
theorem w_if_ne {x : Int32} {off : Int} {tgt : Nat} (C : Cx X own cc nL ret nm fr lo) (d : decode cc pc = .ok (.ifCond .ne off, 3)) (ht : (pc : Int) + off = (tgt : Int)) (K : (¬ x = 0 → Wj X k n Q tgt lv st h) ∧ (x = 0 → Wj X k n Q (pc + 3) lv st h)) : Wj X k n Q pc lv (.int x :: st) h := by
  obtain ⟨p, l, e, R, s, m, args, below, meth, c, D, mc, ms⟩ := X
  exact fun h1 h2 ls H locs hl hR hL => lv_if_ne C.1 C.2.1 d ht (fun q => K.1 q h1 h2 ls H locs hl hR hL) (fun q => K.2 q h1 h2 ls H locs hl hR hL)
theorem w_icmp_ne {x y : Int32} {off : Int} {tgt : Nat} (C : Cx X own cc nL ret nm fr lo) (d : decode cc pc = .ok (.if_icmp .ne off, 3)) (ht : (pc : Int) + off = (tgt : Int)) (K : (¬ x = y → Wj X k n Q tgt lv st h) ∧ (x = y → Wj X k n Q (pc + 3) lv st h)) : Wj X k n Q pc lv (.int y :: .int x :: st) h := by
  obtain ⟨p, l, e, R, s, m, args, below, meth, c, D, mc, ms⟩ := X
  exact fun h1 h2 ls H locs hl hR hL => lv_icmp_ne C.1 C.2.1 d ht (fun q => K.1 q h1 h2 ls H locs hl hR hL) (fun q => K.2 q h1 h2 ls H locs hl hR hL)
theorem w_if_lt {x : Int32} {off : Int} {tgt : Nat} (C : Cx X own cc nL ret nm fr lo) (d : decode cc pc = .ok (.ifCond .lt off, 3)) (ht : (pc : Int) + off = (tgt : Int)) (K : (x < 0 → Wj X k n Q tgt lv st h) ∧ (¬ x < 0 → Wj X k n Q (pc + 3) lv st h)) : Wj X k n Q pc lv (.int x :: st) h := by
  obtain ⟨p, l, e, R, s, m, args, below, meth, c, D, mc, ms⟩ := X
  exact fun h1 h2 ls H locs hl hR hL => lv_if_lt C.1 C.2.1 d ht (fun q => K.1 q h1 h2 ls H locs hl hR hL) (fun q => K.2 q h1 h2 ls H locs hl hR hL)
theorem w_icmp_lt {x y : Int32} {off : Int} {tgt : Nat} (C : Cx X own cc nL ret nm fr lo) (d : decode cc pc = .ok (.if_icmp .lt off, 3)) (ht : (pc : Int) + off = (tgt : Int)) (K : (x < y → Wj X k n Q tgt lv st h) ∧ (¬ x < y → Wj X k n Q (pc + 3) lv st h)) : Wj X k n Q pc lv (.int y :: .int x :: st) h := by
  obtain ⟨p, l, e, R, s, m, args, below, meth, c, D, mc, ms⟩ := X
  exact fun h1 h2 ls H locs hl hR hL => lv_icmp_lt C.1 C.2.1 d ht (fun q => K.1 q h1 h2 ls H locs hl hR hL) (fun q => K.2 q h1 h2 ls H locs hl hR hL)
theorem w_if_ge {x : Int32} {off : Int} {tgt : Nat} (C : Cx X own cc nL ret nm fr lo) (d : decode cc pc = .ok (.ifCond .ge off, 3)) (ht : (pc : Int) + off = (tgt : Int)) (K : (0 ≤ x → Wj X k n Q tgt lv st h) ∧ (¬ 0 ≤ x → Wj X k n Q (pc + 3) lv st h)) : Wj X k n Q pc lv (.int x :: st) h := by
  obtain ⟨p, l, e, R, s, m, args, below, meth, c, D, mc, ms⟩ := X
  exact fun h1 h2 ls H locs hl hR hL => lv_if_ge C.1 C.2.1 d ht (fun q => K.1 q h1 h2 ls H locs hl hR hL) (fun q => K.2 q h1 h2 ls H locs hl hR hL)
theorem w_icmp_ge {x y : Int32} {off : Int} {tgt : Nat} (C : Cx X own cc nL ret nm fr lo) (d : decode cc pc = .ok (.if_icmp .ge off, 3)) (ht : (pc : Int) + off = (tgt : Int)) (K : (y ≤ x → Wj X k n Q tgt lv st h) ∧ (¬ y ≤ x → Wj X k n Q (pc + 3) lv st h)) : Wj X k n Q pc lv (.int y :: .int x :: st) h := by
  obtain ⟨p, l, e, R, s, m, args, below, meth, c, D, mc, ms⟩ := X
  exact fun h1 h2 ls H locs hl hR hL => lv_icmp_ge C.1 C.2.1 d ht (fun q => K.1 q h1 h2 ls H locs hl hR hL) (fun q => K.2 q h1 h2 ls H locs hl hR hL)
theorem w_if_gt {x : Int32} {off : Int} {tgt : Nat} (C : Cx X own cc nL ret nm fr lo) (d : decode cc pc = .ok (.ifCond .gt off, 3)) (ht : (pc : Int) + off = (tgt : Int)) (K : (0 < x → Wj X k n Q tgt lv st h) ∧ (¬ 0 < x → Wj X k n Q (pc + 3) lv st h)) : Wj X k n Q pc lv (.int x :: st) h := by
  obtain ⟨p, l, e, R, s, m, args, below, meth, c, D, mc, ms⟩ := X
  exact fun h1 h2 ls H locs hl hR hL => lv_if_gt C.1 C.2.1 d ht (fun q => K.1 q h1 h2 ls H locs hl hR hL) (fun q => K.2 q h1 h2 ls H locs hl hR hL)
theorem w_icmp_gt {x y : Int32} {off : Int} {tgt : Nat} (C : Cx X own cc nL ret nm fr lo) (d : decode cc pc = .ok (.if_icmp .gt off, 3)) (ht : (pc : Int) + off = (tgt : Int)) (K : (y < x → Wj X k n Q tgt lv st h) ∧ (¬ y < x → Wj X k n Q (pc + 3) lv st h)) : Wj X k n Q pc lv (.int y :: .int x :: st) h := by
  obtain ⟨p, l, e, R, s, m, args, below, meth, c, D, mc, ms⟩ := X
  exact fun h1 h2 ls H locs hl hR hL => lv_icmp_gt C.1 C.2.1 d ht (fun q => K.1 q h1 h2 ls H locs hl hR hL) (fun q => K.2 q h1 h2 ls H locs hl hR hL)
theorem w_if_le {x : Int32} {off : Int} {tgt : Nat} (C : Cx X own cc nL ret nm fr lo) (d : decode cc pc = .ok (.ifCond .le off, 3)) (ht : (pc : Int) + off = (tgt : Int)) (K : (x ≤ 0 → Wj X k n Q tgt lv st h) ∧ (¬ x ≤ 0 → Wj X k n Q (pc + 3) lv st h)) : Wj X k n Q pc lv (.int x :: st) h := by
  obtain ⟨p, l, e, R, s, m, args, below, meth, c, D, mc, ms⟩ := X
  exact fun h1 h2 ls H locs hl hR hL => lv_if_le C.1 C.2.1 d ht (fun q => K.1 q h1 h2 ls H locs hl hR hL) (fun q => K.2 q h1 h2 ls H locs hl hR hL)
theorem w_icmp_le {x y : Int32} {off : Int} {tgt : Nat} (C : Cx X own cc nL ret nm fr lo) (d : decode cc pc = .ok (.if_icmp .le off, 3)) (ht : (pc : Int) + off = (tgt : Int)) (K : (x ≤ y → Wj X k n Q tgt lv st h) ∧ (¬ x ≤ y → Wj X k n Q (pc + 3) lv st h)) : Wj X k n Q pc lv (.int y :: .int x :: st) h := by
  obtain ⟨p, l, e, R, s, m, args, below, meth, c, D, mc, ms⟩ := X
  exact fun h1 h2 ls H locs hl hR hL => lv_icmp_le C.1 C.2.1 d ht (fun q => K.1 q h1 h2 ls H locs hl hR hL) (fun q => K.2 q h1 h2 ls H locs hl hR hL)
theorem lcm_eq (x y : Int64) : lg_cmp x y = 0 ↔ x = y := by
  unfold lg_cmp
  simp only [gt_iff_lt, Int64.lt_iff_toInt_lt, Int64.le_iff_toInt_le, ← Int64.toInt_inj, Int32.lt_iff_toInt_lt, Int32.le_iff_toInt_le, ← Int32.toInt_inj]
  repeat' split
  all_goals (simp; try omega)
theorem w_lcmp_eq {x y : Int64} {off : Int} {tgt : Nat} (C : Cx X own cc nL ret nm fr lo) (d0 : decode cc pc = .ok (.lcmp, 1)) (d : decode cc (pc + 1) = .ok (.ifCond .eq off, 3)) (ht : ((pc + 1 : Nat) : Int) + off = (tgt : Int)) (K : (x = y → Wj X k n Q tgt lv st h) ∧ (¬ x = y → Wj X k n Q (pc + 4) lv st h)) : Wj X k n Q pc lv (.long y :: .long x :: st) h := by
  obtain ⟨p, l, e, R, s, m, args, below, meth, c, D, mc, ms⟩ := X
  exact fun h1 h2 ls H locs hl hR hL => W.lcmp C.1 C.2.1 d0 (lv_if_eq C.1 C.2.1 d ht (fun q => K.1 (by have := lcm_eq x y; simp_all) h1 h2 ls H locs hl hR hL) (fun q => K.2 (by have := lcm_eq x y; simp_all) h1 h2 ls H locs hl hR hL))
theorem lcm_ne (x y : Int64) : ¬ lg_cmp x y = 0 ↔ ¬ x = y := by
  unfold lg_cmp
  simp only [gt_iff_lt, Int64.lt_iff_toInt_lt, Int64.le_iff_toInt_le, ← Int64.toInt_inj, Int32.lt_iff_toInt_lt, Int32.le_iff_toInt_le, ← Int32.toInt_inj]
  repeat' split
  all_goals (simp; try omega)
theorem w_lcmp_ne {x y : Int64} {off : Int} {tgt : Nat} (C : Cx X own cc nL ret nm fr lo) (d0 : decode cc pc = .ok (.lcmp, 1)) (d : decode cc (pc + 1) = .ok (.ifCond .ne off, 3)) (ht : ((pc + 1 : Nat) : Int) + off = (tgt : Int)) (K : (¬ x = y → Wj X k n Q tgt lv st h) ∧ (x = y → Wj X k n Q (pc + 4) lv st h)) : Wj X k n Q pc lv (.long y :: .long x :: st) h := by
  obtain ⟨p, l, e, R, s, m, args, below, meth, c, D, mc, ms⟩ := X
  exact fun h1 h2 ls H locs hl hR hL => W.lcmp C.1 C.2.1 d0 (lv_if_ne C.1 C.2.1 d ht (fun q => K.1 (by have := lcm_ne x y; simp_all) h1 h2 ls H locs hl hR hL) (fun q => K.2 (by have := lcm_ne x y; simp_all) h1 h2 ls H locs hl hR hL))
theorem lcm_lt (x y : Int64) : lg_cmp x y < 0 ↔ x < y := by
  unfold lg_cmp
  simp only [gt_iff_lt, Int64.lt_iff_toInt_lt, Int64.le_iff_toInt_le, ← Int64.toInt_inj, Int32.lt_iff_toInt_lt, Int32.le_iff_toInt_le, ← Int32.toInt_inj]
  repeat' split
  all_goals (simp; try omega)
theorem w_lcmp_lt {x y : Int64} {off : Int} {tgt : Nat} (C : Cx X own cc nL ret nm fr lo) (d0 : decode cc pc = .ok (.lcmp, 1)) (d : decode cc (pc + 1) = .ok (.ifCond .lt off, 3)) (ht : ((pc + 1 : Nat) : Int) + off = (tgt : Int)) (K : (x < y → Wj X k n Q tgt lv st h) ∧ (¬ x < y → Wj X k n Q (pc + 4) lv st h)) : Wj X k n Q pc lv (.long y :: .long x :: st) h := by
  obtain ⟨p, l, e, R, s, m, args, below, meth, c, D, mc, ms⟩ := X
  exact fun h1 h2 ls H locs hl hR hL => W.lcmp C.1 C.2.1 d0 (lv_if_lt C.1 C.2.1 d ht (fun q => K.1 (by have := lcm_lt x y; simp_all) h1 h2 ls H locs hl hR hL) (fun q => K.2 (by have := lcm_lt x y; simp_all) h1 h2 ls H locs hl hR hL))
theorem lcm_ge (x y : Int64) : 0 ≤ lg_cmp x y ↔ y ≤ x := by
  unfold lg_cmp
  simp only [gt_iff_lt, Int64.lt_iff_toInt_lt, Int64.le_iff_toInt_le, ← Int64.toInt_inj, Int32.lt_iff_toInt_lt, Int32.le_iff_toInt_le, ← Int32.toInt_inj]
  repeat' split
  all_goals (simp; try omega)
theorem w_lcmp_ge {x y : Int64} {off : Int} {tgt : Nat} (C : Cx X own cc nL ret nm fr lo) (d0 : decode cc pc = .ok (.lcmp, 1)) (d : decode cc (pc + 1) = .ok (.ifCond .ge off, 3)) (ht : ((pc + 1 : Nat) : Int) + off = (tgt : Int)) (K : (y ≤ x → Wj X k n Q tgt lv st h) ∧ (¬ y ≤ x → Wj X k n Q (pc + 4) lv st h)) : Wj X k n Q pc lv (.long y :: .long x :: st) h := by
  obtain ⟨p, l, e, R, s, m, args, below, meth, c, D, mc, ms⟩ := X
  exact fun h1 h2 ls H locs hl hR hL => W.lcmp C.1 C.2.1 d0 (lv_if_ge C.1 C.2.1 d ht (fun q => K.1 (by have := lcm_ge x y; simp_all) h1 h2 ls H locs hl hR hL) (fun q => K.2 (by have := lcm_ge x y; simp_all) h1 h2 ls H locs hl hR hL))
theorem lcm_gt (x y : Int64) : 0 < lg_cmp x y ↔ y < x := by
  unfold lg_cmp
  simp only [gt_iff_lt, Int64.lt_iff_toInt_lt, Int64.le_iff_toInt_le, ← Int64.toInt_inj, Int32.lt_iff_toInt_lt, Int32.le_iff_toInt_le, ← Int32.toInt_inj]
  repeat' split
  all_goals (simp; try omega)
theorem w_lcmp_gt {x y : Int64} {off : Int} {tgt : Nat} (C : Cx X own cc nL ret nm fr lo) (d0 : decode cc pc = .ok (.lcmp, 1)) (d : decode cc (pc + 1) = .ok (.ifCond .gt off, 3)) (ht : ((pc + 1 : Nat) : Int) + off = (tgt : Int)) (K : (y < x → Wj X k n Q tgt lv st h) ∧ (¬ y < x → Wj X k n Q (pc + 4) lv st h)) : Wj X k n Q pc lv (.long y :: .long x :: st) h := by
  obtain ⟨p, l, e, R, s, m, args, below, meth, c, D, mc, ms⟩ := X
  exact fun h1 h2 ls H locs hl hR hL => W.lcmp C.1 C.2.1 d0 (lv_if_gt C.1 C.2.1 d ht (fun q => K.1 (by have := lcm_gt x y; simp_all) h1 h2 ls H locs hl hR hL) (fun q => K.2 (by have := lcm_gt x y; simp_all) h1 h2 ls H locs hl hR hL))
theorem lcm_le (x y : Int64) : lg_cmp x y ≤ 0 ↔ x ≤ y := by
  unfold lg_cmp
  simp only [gt_iff_lt, Int64.lt_iff_toInt_lt, Int64.le_iff_toInt_le, ← Int64.toInt_inj, Int32.lt_iff_toInt_lt, Int32.le_iff_toInt_le, ← Int32.toInt_inj]
  repeat' split
  all_goals (simp; try omega)
theorem w_lcmp_le {x y : Int64} {off : Int} {tgt : Nat} (C : Cx X own cc nL ret nm fr lo) (d0 : decode cc pc = .ok (.lcmp, 1)) (d : decode cc (pc + 1) = .ok (.ifCond .le off, 3)) (ht : ((pc + 1 : Nat) : Int) + off = (tgt : Int)) (K : (x ≤ y → Wj X k n Q tgt lv st h) ∧ (¬ x ≤ y → Wj X k n Q (pc + 4) lv st h)) : Wj X k n Q pc lv (.long y :: .long x :: st) h := by
  obtain ⟨p, l, e, R, s, m, args, below, meth, c, D, mc, ms⟩ := X
  exact fun h1 h2 ls H locs hl hR hL => W.lcmp C.1 C.2.1 d0 (lv_if_le C.1 C.2.1 d ht (fun q => K.1 (by have := lcm_le x y; simp_all) h1 h2 ls H locs hl hR hL) (fun q => K.2 (by have := lcm_le x y; simp_all) h1 h2 ls H locs hl hR hL))
theorem w_goto {off : Int} {tgt : Nat} (C : Cx X own cc nL ret nm fr lo) (d : decode cc pc = .ok (.goto off, 3)) (ht : (pc : Int) + off = (tgt : Int)) (K : Wj X k n Q tgt lv st h) : Wj X k n Q pc lv st h := by
  obtain ⟨p, l, e, R, s, m, args, below, meth, c, D, mc, ms⟩ := X
  exact fun h1 h2 ls H locs hl hR hL => lv_goto C.1 C.2.1 d ht (K h1 h2 ls H locs hl hR hL)
theorem w_ifnonnull {x : Nat} {off : Int} {tgt : Nat} (C : Cx X own cc nL ret nm fr lo) (d : decode cc pc = .ok (.ifnonnull off, 3)) (ht : (pc : Int) + off = (tgt : Int)) (K : Wj X k n Q tgt lv st h) : Wj X k n Q pc lv (.ref x :: st) h := by
  obtain ⟨p, l, e, R, s, m, args, below, meth, c, D, mc, ms⟩ := X
  exact fun h1 h2 ls H locs hl hR hL => lv_ifnonnull C.1 C.2.1 d ht (K h1 h2 ls H locs hl hR hL)
theorem w_ifnonnullN {off : Int} (C : Cx X own cc nL ret nm fr lo) (d : decode cc pc = .ok (.ifnonnull off, 3)) (K : Wj X k n Q (pc + 3) lv st h) : Wj X k n Q pc lv (.null :: st) h := by
  obtain ⟨p, l, e, R, s, m, args, below, meth, c, D, mc, ms⟩ := X
  exact fun h1 h2 ls H locs hl hR hL => lv_ifnonnullN C.1 C.2.1 d (K h1 h2 ls H locs hl hR hL)
theorem w_ldc {idx : Nat} {v : Int32} (C : Cx X own cc nL ret nm fr lo) (w : Cond.constant own idx v ∈ gwd) (d : decode cc pc = .ok (.ldc idx, 2)) (K : Wj X k n Q (pc + 2) lv (.int v :: st) h) : Wj X k n Q pc lv st h := by
  obtain ⟨p, l, e, R, s, m, args, below, meth, c, D, mc, ms⟩ := X
  exact fun h1 h2 ls H locs hl hR hL => lv_ldc C.1 C.2.1 C.2.2.2.1 (C.2.2.2.2.1 _ w) d (K h1 h2 ls H locs hl hR hL)
theorem w_ldcw {idx : Nat} {v : Int32} (C : Cx X own cc nL ret nm fr lo) (w : Cond.constant own idx v ∈ gwd) (d : decode cc pc = .ok (.ldc_w idx, 3)) (K : Wj X k n Q (pc + 3) lv (.int v :: st) h) : Wj X k n Q pc lv st h := by
  obtain ⟨p, l, e, R, s, m, args, below, meth, c, D, mc, ms⟩ := X
  exact fun h1 h2 ls H locs hl hR hL => lv_ldcw C.1 C.2.1 C.2.2.2.1 (C.2.2.2.2.1 _ w) d (K h1 h2 ls H locs hl hR hL)
theorem w_ldc2 {idx : Nat} {v : Int64} (C : Cx X own cc nL ret nm fr lo) (w : Cond.constantLong own idx v ∈ gwd) (d : decode cc pc = .ok (.ldc2_w idx, 3)) (K : Wj X k n Q (pc + 3) lv (.long v :: st) h) : Wj X k n Q pc lv st h := by
  obtain ⟨p, l, e, R, s, m, args, below, meth, c, D, mc, ms⟩ := X
  exact fun h1 h2 ls H locs hl hR hL => lv_ldc2 C.1 C.2.1 C.2.2.2.1 (C.2.2.2.2.1 _ w) d (K h1 h2 ls H locs hl hR hL)
theorem w_iret {x : Int32} (C : Cx X own cc nL (some .int) nm fr lo) (d : decode cc pc = .ok (.ireturn, 1)) (K : Q (some (.int x)) h) : Wj X k n Q pc lv [.int x] h := by
  obtain ⟨p, l, e, R, s, m, args, below, meth, c, D, mc, ms⟩ := X
  obtain ⟨hx, hb, hml, hown, hts, hK, hr, hlk, hnm⟩ := C
  exact fun h1 h2 ls H locs hl hR hL => W.widen h1 h2 (W.iret hx hb hr (fun t ht _ => ⟨_, h, rfl, K, by rw [ht]; exact hR⟩) hL d hlk)
theorem w_lret {x : Int64} (C : Cx X own cc nL (some .long) nm fr lo) (d : decode cc pc = .ok (.lreturn, 1)) (K : Q (some (.long x)) h) : Wj X k n Q pc lv [.long x] h := by
  obtain ⟨p, l, e, R, s, m, args, below, meth, c, D, mc, ms⟩ := X
  obtain ⟨hx, hb, hml, hown, hts, hK, hr, hlk, hnm⟩ := C
  exact fun h1 h2 ls H locs hl hR hL => W.widen h1 h2 (W.lret hx hb hr (fun t ht _ => ⟨_, h, rfl, K, by rw [ht]; exact hR⟩) hL d hlk)
theorem w_zret {x : Int32} (C : Cx X own cc nL (some .boolean) nm fr lo) (d : decode cc pc = .ok (.ireturn, 1)) (hz : x = 0 ∨ x = 1) (K : Q (some (.int x)) h) : Wj X k n Q pc lv [.int x] h := by
  obtain ⟨p, l, e, R, s, m, args, below, meth, c, D, mc, ms⟩ := X
  obtain ⟨hx, hb, hml, hown, hts, hK, hr, hlk, hnm⟩ := C
  have hn : narrow .boolean (.int x) = .int x := by rcases hz with rfl | rfl <;> rfl
  exact fun h1 h2 ls H locs hl hR hL => W.widen h1 h2 (W.zret hx hb hr hn (fun t ht _ => ⟨_, h, rfl, K, by rw [ht]; exact hR⟩) hL d hlk)
theorem w_vret (C : Cx X own cc nL none nm fr lo) (d : decode cc pc = .ok (.return_, 1)) (K : Q none h) : Wj X k n Q pc lv [] h := by
  obtain ⟨p, l, e, R, s, m, args, below, meth, c, D, mc, ms⟩ := X
  obtain ⟨hx, hb, hml, hown, hts, hK, hr, hlk, hnm⟩ := C
  exact fun h1 h2 ls H locs hl hR hL => W.widen h1 h2 (W.vret hx hb hr (fun t ht _ => ⟨_, h, rfl, K, by rw [ht]; exact hR⟩) hL d hlk)
theorem w_aret {x : Nat} {on : String} (C : Cx X own cc nL (some (.object on)) nm fr lo) (d : decode cc pc = .ok (.areturn, 1)) (K : Q (some (.ref x)) h) : Wj X k n Q pc lv [.ref x] h := by
  obtain ⟨p, l, e, R, s, m, args, below, meth, c, D, mc, ms⟩ := X
  obtain ⟨hx, hb, hml, hown, hts, hK, hr, hlk, hnm⟩ := C
  exact fun h1 h2 ls H locs hl hR hL => W.widen h1 h2 (W.aret hx hb hr (Or.inl ⟨_, rfl⟩) (Or.inr ⟨_, rfl⟩) (fun t ht _ => ⟨_, h, rfl, K, by rw [ht]; exact hR⟩) hL d hlk)
end Rows
