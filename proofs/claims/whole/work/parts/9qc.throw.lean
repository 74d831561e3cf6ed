-- the throw itself
/-- only more cells, of which nothing is known -/
def grow (h : Hp) (n : Nat) : Hp := (n, h.2)
theorem RelH.grow {D : Dt} {h : Hp} {H H' : Heap} (hR : RelH D h H) (hs : H.size ≤ H'.size) (hq : ∀ q : Nat, q < H.size → H'[q]? = H[q]?) : RelH D (_root_.Jvm.Pilot.CDividingHeadLaw_law_r5460_4057f6.grow h H'.size) H' := by
  obtain ⟨r1, r2, r3, r4⟩ := hR
  refine ⟨rfl, by show D.2.2.size ≤ H'.size; omega, fun q hq' => by rw [hq q (by omega)]; exact r3 q hq', fun a ha => ?_⟩
  obtain ⟨b1, b2, b3⟩ := r4 a ha
  exact ⟨b1, by show a < H'.size; omega, b3.kept (hq a (by omega)) rfl rfl (fun _ => rfl) (fun _ => rfl) (fun _ => rfl)⟩
/-- what a throw wants of the start -/
def Kx (D : Dt) (U : State) : Prop := (vx_Zq Bundle.tN "UNASSIGNED_STACK" Bundle.steD (oldA D) U D.2.2 ∧ vx_Zq Bundle.tN "SUPPRESSED_SENTINEL" Bundle.listD (oldA D) U D.2.2) ∧ va_Nw (.declares (Bundle.init0 "java/lang/RuntimeException")) U ∧ va_Nw (.declares (Bundle.init0 "java/lang/Exception")) U ∧ va_Nw (.declares (Bundle.init0 Bundle.tN)) U ∧ va_Nw (.castable NSE NSE) U
theorem Kx.moved {D : Dt} {u U : State} (hW : u.WarmedH U.vm) (h : Kx D u) : Kx D U := by
  obtain ⟨⟨h1, h2⟩, h3, h4, h5, h6⟩ := h
  exact ⟨⟨h1.moved hW.alike, h2.moved hW.alike⟩, va_Nw.warmD hW h3, va_Nw.warmD hW h4, va_Nw.warmD hW h5, va_Nw.warmC hW h6⟩
theorem Kx.same {D : Dt} {u U : State} (hv : u.vm = U.vm) (h : Kx D u) : Kx D U := by
  have ha : u.vm.Alike U.vm := by rw [hv]; exact Vm.Alike.refl _
  obtain ⟨⟨h1, h2⟩, h3, h4, h5, h6⟩ := h
  exact ⟨⟨h1.moved ha, h2.moved ha⟩, va_Nw.same rfl hv h3, va_Nw.same rfl hv h4, va_Nw.same rfl hv h5, va_Nw.same rfl hv h6⟩
/-- what holds of a frame that may throw: nothing was made since its entry -/
def XTb (X : Ctx) (h : Hp) : Prop :=
  match X with
  | (_, l, _, _, s, _, _, _, _, c, D, _, _) => RelH D h s.heap ∧ (∀ x ∈ c.exceptionTable.toList, False) ∧ Kx D s ∧ l.stackTraces = false
/-- the contract of a method that returns or throws -/
def Sx (l : Launch) (D : Dt) (y : MethodName) (cc : ByteArray) (nL : Nat) (ret : Option FieldType) (fr lo mc ms : Nat) (av : List Value) (h : Hp) (Q : Pq) (Z : Hp → Prop) : Prop :=
  vx_Met l y (.code y cc nL ret :: gwd) { frames := fr, cells := mc, slots := ms, locals := lo } (va_Pc av (fun U => RelH D h U.heap ∧ Kn D U ∧ Kx D U)) (Qm D Q) (XCz D Z) mc ms (fun q => D.2.2.size ≤ q)
theorem Sx.of {l : Launch} {D : Dt} {y : MethodName} {cc : ByteArray} {nL : Nat} {ret : Option FieldType} {fr lo mc ms : Nat} {av : List Value} {h : Hp} {Q : Pq} {Z : Hp → Prop} (hfl : l.stackTraces = false) (hy : plainName y.cls = true) (hl : (lg_sl av).length ≤ nL)
    (body : ∀ X : Ctx, Cx X y.cls cc nL ret y.name fr lo → XTb X h → lX X = l → dtX X = D → mcX X = mc → msX X = ms → Wx X 0 0 Q Z 0 (lv_args 0 av) [] h) : Sx l D y cc nL ret fr lo mc ms av h Q Z := by
  refine vx_ofW (cc := cc) (maxL := nL) (ret := ret) hy rfl ?_
  intro p e s m args below meth c s₁ B hml tb hv
  obtain ⟨rfl, hR, hK, hx⟩ := hv
  have hts := atoms_spec (ws := .code y cc nL ret :: gwd) B.pre
  have C : Cx (p, l, e, { frames := fr, cells := mc, slots := ms, locals := lo }, s, m, av.toArray, below, meth, c, D, mc, ms) y.cls cc nL ret y.name fr lo :=
    ⟨B.exec, B.bytes, hml, findClass_of_methodNamed B.named, fun w hw => hts w (List.mem_cons_of_mem _ hw), hK, B.returns, B.notSynchronized, (name_of_methodNamed B.named B.method).1, rfl, rfl, rfl, rfl⟩
  have hle := lv_entry av hl
  rw [lg_entry_eq]
  exact body _ C ⟨hR, tb, hx, hfl⟩ rfl rfl rfl rfl (Nat.zero_le _) (Nat.zero_le _) _ _ [] (by rw [hml]; exact hle) hR (fun _ h => by cases h)
