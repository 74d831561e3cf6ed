-- THE SMALL HEAP: typed contents by address; what it says of the machine's heap; the judgement Wj over it, and its rows
abbrev Dt : Type := va_G × (Nat → ClassId) × Heap
abbrev Hp : Type := Nat × (Nat → Nat) × (Nat → Nat) × (Nat → Nat → Int32) × (Nat → Nat → Int64) × (Nat → Nat → Option Nat)
def hn (h : Hp) : Nat := h.1
def kd (h : Hp) (a : Nat) : Nat := h.2.1 a
def ln (h : Hp) (a : Nat) : Nat := h.2.2.1 a
def gi (h : Hp) (a k : Nat) : Int32 := h.2.2.2.1 a k
def gl (h : Hp) (a k : Nat) : Int64 := h.2.2.2.2.1 a k
def gr (h : Hp) (a k : Nat) : Option Nat := h.2.2.2.2.2 a k
def gp (h : Hp) (a k : Nat) : Nat := (gr h a k).getD 0
def up2 {α : Type} (f : Nat → Nat → α) (a k : Nat) (v : α) : Nat → Nat → α := fun b j => if b = a ∧ j = k then v else f b j
def si (h : Hp) (a k : Nat) (v : Int32) : Hp := (h.1, h.2.1, h.2.2.1, up2 h.2.2.2.1 a k v, h.2.2.2.2.1, h.2.2.2.2.2)
def sl (h : Hp) (a k : Nat) (v : Int64) : Hp := (h.1, h.2.1, h.2.2.1, h.2.2.2.1, up2 h.2.2.2.2.1 a k v, h.2.2.2.2.2)
def sr (h : Hp) (a k : Nat) (v : Option Nat) : Hp := (h.1, h.2.1, h.2.2.1, h.2.2.2.1, h.2.2.2.2.1, up2 h.2.2.2.2.2 a k v)
def up1 {α : Type} (f : Nat → α) (a : Nat) (v : α) : Nat → α := fun b => if b = a then v else f b
/-- a new cell of a kind, of a length -/
def nw (h : Hp) (kind len : Nat) : Hp := (h.1 + 1, up1 h.2.1 h.1 kind, up1 h.2.2.1 h.1 len, up1 h.2.2.2.1 h.1 (fun _ => 0), up1 h.2.2.2.2.1 h.1 (fun _ => 0), up1 h.2.2.2.2.2 h.1 (fun _ => none))
/-- rows of an array, all at once -/
def siA (h : Hp) (a : Nat) (f : Nat → Int32) : Hp := (h.1, h.2.1, h.2.2.1, up1 h.2.2.2.1 a f, h.2.2.2.2.1, h.2.2.2.2.2)
def slA (h : Hp) (a : Nat) (f : Nat → Int64) : Hp := (h.1, h.2.1, h.2.2.1, h.2.2.2.1, up1 h.2.2.2.2.1 a f, h.2.2.2.2.2)
theorem gi_si (h : Hp) (a k : Nat) (v : Int32) (b j : Nat) : gi (si h a k v) b j = if b = a ∧ j = k then v else gi h b j := rfl
theorem gl_si (h : Hp) (a k : Nat) (v : Int32) (b j : Nat) : gl (si h a k v) b j = gl h b j := rfl
theorem gr_si (h : Hp) (a k : Nat) (v : Int32) (b j : Nat) : gr (si h a k v) b j = gr h b j := rfl
theorem kd_si (h : Hp) (a k : Nat) (v : Int32) (b : Nat) : kd (si h a k v) b = kd h b := rfl
theorem ln_si (h : Hp) (a k : Nat) (v : Int32) (b : Nat) : ln (si h a k v) b = ln h b := rfl
theorem hn_si (h : Hp) (a k : Nat) (v : Int32) : hn (si h a k v) = hn h := rfl
theorem gi_sl (h : Hp) (a k : Nat) (v : Int64) (b j : Nat) : gi (sl h a k v) b j = gi h b j := rfl
theorem gl_sl (h : Hp) (a k : Nat) (v : Int64) (b j : Nat) : gl (sl h a k v) b j = if b = a ∧ j = k then v else gl h b j := rfl
theorem gr_sl (h : Hp) (a k : Nat) (v : Int64) (b j : Nat) : gr (sl h a k v) b j = gr h b j := rfl
theorem kd_sl (h : Hp) (a k : Nat) (v : Int64) (b : Nat) : kd (sl h a k v) b = kd h b := rfl
theorem ln_sl (h : Hp) (a k : Nat) (v : Int64) (b : Nat) : ln (sl h a k v) b = ln h b := rfl
theorem hn_sl (h : Hp) (a k : Nat) (v : Int64) : hn (sl h a k v) = hn h := rfl
theorem gi_sr (h : Hp) (a k : Nat) (v : Option Nat) (b j : Nat) : gi (sr h a k v) b j = gi h b j := rfl
theorem gl_sr (h : Hp) (a k : Nat) (v : Option Nat) (b j : Nat) : gl (sr h a k v) b j = gl h b j := rfl
theorem gr_sr (h : Hp) (a k : Nat) (v : Option Nat) (b j : Nat) : gr (sr h a k v) b j = if b = a ∧ j = k then v else gr h b j := rfl
theorem kd_sr (h : Hp) (a k : Nat) (v : Option Nat) (b : Nat) : kd (sr h a k v) b = kd h b := rfl
theorem ln_sr (h : Hp) (a k : Nat) (v : Option Nat) (b : Nat) : ln (sr h a k v) b = ln h b := rfl
theorem hn_sr (h : Hp) (a k : Nat) (v : Option Nat) : hn (sr h a k v) = hn h := rfl
theorem gi_nw (h : Hp) (kk len b j : Nat) : gi (nw h kk len) b j = if b = hn h then 0 else gi h b j := by
  show up1 h.2.2.2.1 h.1 (fun _ => 0) b j = _
  unfold up1 gi hn
  by_cases e : b = h.1 <;> simp [e]
theorem gl_nw (h : Hp) (kk len b j : Nat) : gl (nw h kk len) b j = if b = hn h then 0 else gl h b j := by
  show up1 h.2.2.2.2.1 h.1 (fun _ => 0) b j = _
  unfold up1 gl hn
  by_cases e : b = h.1 <;> simp [e]
theorem gr_nw (h : Hp) (kk len b j : Nat) : gr (nw h kk len) b j = if b = hn h then none else gr h b j := by
  show up1 h.2.2.2.2.2 h.1 (fun _ => none) b j = _
  unfold up1 gr hn
  by_cases e : b = h.1 <;> simp [e]
theorem kd_nw (h : Hp) (kk len b : Nat) : kd (nw h kk len) b = if b = hn h then kk else kd h b := rfl
theorem ln_nw (h : Hp) (kk len b : Nat) : ln (nw h kk len) b = if b = hn h then len else ln h b := rfl
theorem hn_nw (h : Hp) (kk len : Nat) : hn (nw h kk len) = hn h + 1 := rfl
theorem gi_siA (h : Hp) (a : Nat) (f : Nat → Int32) (b j : Nat) : gi (siA h a f) b j = if b = a then f j else gi h b j := by
  show up1 h.2.2.2.1 a f b j = _
  unfold up1 gi
  by_cases e : b = a <;> simp [e]
theorem gl_siA (h : Hp) (a : Nat) (f : Nat → Int32) (b j : Nat) : gl (siA h a f) b j = gl h b j := rfl
theorem gr_siA (h : Hp) (a : Nat) (f : Nat → Int32) (b j : Nat) : gr (siA h a f) b j = gr h b j := rfl
theorem kd_siA (h : Hp) (a : Nat) (f : Nat → Int32) (b : Nat) : kd (siA h a f) b = kd h b := rfl
theorem ln_siA (h : Hp) (a : Nat) (f : Nat → Int32) (b : Nat) : ln (siA h a f) b = ln h b := rfl
theorem hn_siA (h : Hp) (a : Nat) (f : Nat → Int32) : hn (siA h a f) = hn h := rfl
theorem gl_slA (h : Hp) (a : Nat) (f : Nat → Int64) (b j : Nat) : gl (slA h a f) b j = if b = a then f j else gl h b j := by
  show up1 h.2.2.2.2.1 a f b j = _
  unfold up1 gl
  by_cases e : b = a <;> simp [e]
theorem gi_slA (h : Hp) (a : Nat) (f : Nat → Int64) (b j : Nat) : gi (slA h a f) b j = gi h b j := rfl
theorem gr_slA (h : Hp) (a : Nat) (f : Nat → Int64) (b j : Nat) : gr (slA h a f) b j = gr h b j := rfl
theorem kd_slA (h : Hp) (a : Nat) (f : Nat → Int64) (b : Nat) : kd (slA h a f) b = kd h b := rfl
theorem ln_slA (h : Hp) (a : Nat) (f : Nat → Int64) (b : Nat) : ln (slA h a f) b = ln h b := rfl
theorem hn_slA (h : Hp) (a : Nat) (f : Nat → Int64) : hn (slA h a f) = hn h := rfl
/-- a field's value by its kind -/
def fv (h : Hp) (a k t : Nat) : Value := match t with
  | 0 => .int (gi h a k)
  | 1 => .long (gl h a k)
  | _ => va_rf (gr h a k)
/-- array kinds: 20 int, 21 long, 22 char, 23 boolean, 24 Head[] -/
def cellR (D : Dt) (h : Hp) (H : Heap) (a : Nat) : Prop :=
  (∀ c r, kd h a = c + 1 → vwCl[c]? = some r → t_OB a (D.1.1 c) r.2.2 (D.1.2 c) H (fun k => fv h a k (fty c k))) ∧
  (kd h a = 20 → H[a]? = some (arrV (D.2.1 0) (ln h a) (fun j => .int (gi h a j)))) ∧
  (kd h a = 21 → H[a]? = some (arrV (D.2.1 1) (ln h a) (fun j => .long (gl h a j)))) ∧
  (kd h a = 22 → H[a]? = some (arrV (D.2.1 2) (ln h a) (fun j => .int (gi h a j)))) ∧
  (kd h a = 23 → H[a]? = some (arrV (D.2.1 3) (ln h a) (fun j => .int (gi h a j)))) ∧
  (kd h a = 24 → H[a]? = some (arrV (D.2.1 4) (ln h a) (fun j => va_rf (gr h a j))))
def RelH (D : Dt) (h : Hp) (H : Heap) : Prop :=
  H.size = hn h ∧ D.2.2.size ≤ hn h ∧ (∀ q : Nat, q < D.2.2.size → H[q]? = D.2.2[q]?) ∧ ∀ a : Nat, kd h a ≠ 0 → D.2.2.size ≤ a ∧ a < hn h ∧ cellR D h H a
theorem cellR.kept {D : Dt} {h h' : Hp} {H H' : Heap} {a : Nat} (c : cellR D h H a) (e : H'[a]? = H[a]?) (k1 : kd h' a = kd h a) (k2 : ln h' a = ln h a) (k3 : ∀ j, gi h' a j = gi h a j) (k4 : ∀ j, gl h' a j = gl h a j) (k5 : ∀ j, gr h' a j = gr h a j) : cellR D h' H' a := by
  obtain ⟨c0, c1, c2, c3, c4, c5⟩ := c
  refine ⟨fun c r hk hr => ?_, fun hk => ?_, fun hk => ?_, fun hk => ?_, fun hk => ?_, fun hk => ?_⟩
  · rw [k1] at hk
    refine ((c0 c r hk hr).kept e).to (fun k _ => ?_)
    show fv h a k (fty c k) = fv h' a k (fty c k)
    unfold fv
    split <;> simp [k3, k4, k5]
  · rw [k1] at hk; rw [e, c1 hk, k2]; simp only [k3]
  · rw [k1] at hk; rw [e, c2 hk, k2]; simp only [k4]
  · rw [k1] at hk; rw [e, c3 hk, k2]; simp only [k3]
  · rw [k1] at hk; rw [e, c4 hk, k2]; simp only [k3]
  · rw [k1] at hk; rw [e, c5 hk, k2]; simp only [k5]
abbrev tysD (D : Dt) : List (ClassId × FieldType) := [(D.2.1 0, .int), (D.2.1 1, .long), (D.2.1 2, .char), (D.2.1 3, .boolean), (D.2.1 4, .object "DividingHead$Head")]
abbrev nestW : List Cond := [.methodLinkNest RX9 9 yX7_init RX9, .methodLinkNest RX9 18 yX8_init RX9, .methodLinkNest RX9 25 yX6_init RX9, .methodLinkNest RX9 32 yX0_init RX9, .methodLinkNest RX9 39 yX1_init RX9, .methodLinkNest RX1 11 yX6_init RX9, .methodLinkNest RX9 46 yX3_init RX9, .methodLinkNest RX3 17 yX2_init RX9, .methodLinkNest RX9 53 yX2_init RX9, .methodLinkNest RX9 77 yX4_init RX9, .methodLinkNest RX4 38 yX2_init RX9, .methodLinkNest RX2 16 yX9_common RX9, .methodLinkNest RX4 112 yX9_isBetween RX9, .methodLinkNest RX9 243 yX5_init RX9, .methodLinkNest RX5 64 yX9_common RX9, .methodLinkNest RX3 49 yX9_compareFractions RX9]
/-- where the texts, their signs and the class's own rows lie: they are there from the start, and nobody writes them -/
abbrev txK (D : Dt) (i : Nat) : Nat := D.1.2 100 i
abbrev txV (D : Dt) (i : Nat) : Nat := D.1.2 101 i
abbrev rwA (D : Dt) (i : Nat) : Nat := D.1.2 102 i
abbrev oldA (D : Dt) (q : Nat) : Prop := D.2.2.size ≤ q
def txLen : List Nat := [10, 7, 2]
def txByt : List (List Int32) := [[48, 49, 50, 51, 52, 53, 54, 55, 56, 57], [117, 116, 98, 99, 119, 103, 111], [43, 45]]
def fhL : List Int32 := [15, 16, 17, 18, 19, 20, 21, 23, 27, 29, 31, 33, 37, 39, 41, 43, 47, 49]
def ftL : List Int32 := [24, 24, 28, 32, 40, 44, 48, 56, 64, 72, 86, 100]
def Ks (D : Dt) (U : State) : Prop :=
  vk_S 3 txLen txByt (txK D) (txV D) (oldA D) U D.2.2 ∧
  (vk_R RX10 53 "0123456789" (txK D 0) U ∧ vk_R RX10 421 "utbcwgo" (txK D 1) U ∧ vk_R RX10 423 "+-" (txK D 2) U) ∧
  (va_Z "java/lang/String" "COMPACT_STRINGS" "Z" (.int 1) (oldA D) U D.2.2 ∧ va_Zq "jdk/internal/util/Preconditions" "SIOOBE_FORMATTER" "Ljava/util/function/BiFunction;" (oldA D) U D.2.2) ∧
  (va_Z RX9 "FIRST_HOLES" "[I" (.ref (rwA D 0)) (oldA D) U D.2.2 ∧ va_T .int (rwA D 0) 18 (fun j => .int (fhL.getD j 0)) (oldA D) U D.2.2 ∧ va_Nw (.fieldLinkNest RX4 72 RX9 "FIRST_HOLES" "[I" RX9) U) ∧
  va_Z RX9 "FIRST_TEETH" "[I" (.ref (rwA D 1)) (oldA D) U D.2.2 ∧ va_T .int (rwA D 1) 12 (fun j => .int (ftL.getD j 0)) (oldA D) U D.2.2 ∧ va_Nw (.fieldLinkNest RX4 79 RX9 "FIRST_TEETH" "[I" RX9) U
theorem Ks.moved {D : Dt} {u U : State} (hW : u.WarmedH U.vm) (h : Ks D u) : Ks D U := by
  obtain ⟨h1, ⟨h2, h3, h4⟩, ⟨h5, h6⟩, ⟨h7, h8, h9⟩, h10, h11, h12⟩ := h
  exact ⟨h1.moved hW.alike, ⟨h2.warm hW, h3.warm hW, h4.warm hW⟩, ⟨h5.moved hW.alike, h6.moved hW.alike⟩, ⟨h7.moved hW.alike, h8.moved hW.alike, va_Nw.warmF hW h9⟩, h10.moved hW.alike, h11.moved hW.alike, va_Nw.warmF hW h12⟩
theorem Ks.same {D : Dt} {u U : State} (hv : u.vm = U.vm) (h : Ks D u) : Ks D U := by
  have ha : u.vm.Alike U.vm := by rw [hv]; exact Vm.Alike.refl _
  obtain ⟨h1, ⟨h2, h3, h4⟩, ⟨h5, h6⟩, ⟨h7, h8, h9⟩, h10, h11, h12⟩ := h
  exact ⟨h1.moved ha, ⟨h2.same hv.symm, h3.same hv.symm, h4.same hv.symm⟩, ⟨h5.moved ha, h6.moved ha⟩, ⟨h7.moved ha, h8.moved ha, va_Nw.same rfl hv h9⟩, h10.moved ha, h11.moved ha, va_Nw.same rfl hv h12⟩
def Kn (D : Dt) (U : State) : Prop := va_K D.1 vwCl (tysD D) U ∧ (∀ w ∈ nestW, va_Nw w U) ∧ va_AO "DividingHead$Head" U ∧ Ks D U
theorem nest_warm {s U : State} (hW : s.WarmedH U.vm) : ∀ w ∈ nestW, va_Nw w s → va_Nw w U := by
  intro w hw h
  simp only [nestW, List.mem_cons, List.not_mem_nil, or_false] at hw
  rcases hw with rfl | rfl | rfl | rfl | rfl | rfl | rfl | rfl | rfl | rfl | rfl | rfl | rfl | rfl | rfl | rfl <;> exact va_Nw.warmM hW h
