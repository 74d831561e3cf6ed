-- the mark in the cell 0: what stays of the shelf; what a call costs
section MarkS
variable {l : Launch} {D : Dt} {h h' : Hp} {x m : Nat} {s : Sv}
theorem RelH.mk0 {H : Heap} (hR : RelH D h H) (z : 0 < D.2.2.size) (v : Option Nat) : RelH D (sr h 0 0 v) H := by
  obtain ⟨r1, r2, r3, r4⟩ := hR
  refine ⟨r1, r2, r3, fun a ha => ?_⟩
  obtain ⟨b1, b2, b3⟩ := r4 a ha
  exact ⟨b1, b2, b3.kept rfl rfl rfl (fun _ => rfl) (fun _ => rfl) (fun j => by rw [gr_sr, if_neg (by omega)])⟩
theorem Sp.mark {y : MethodName} {cc : ByteArray} {nL : Nat} {ret : Option FieldType} {fr lo mc ms : Nat} {av : List Value} {Q Q' : Pq} (z : 0 < D.2.2.size) (v w : Option Nat) (hs : Sp l D y cc nL ret fr lo mc ms av (sr h 0 0 v) Q) (hq : ∀ r h', Q r h' → Q' r (sr h' 0 0 w)) : Sp l D y cc nL ret fr lo mc ms av h Q' := by
  unfold Sp Met at hs ⊢
  exact MetFree.mono hs (fun _ _ h => ⟨h.1, h.2.1.mk0 z v, h.2.2⟩) (fun _ _ _ _ _ h => h) (fun a s o t _ hx => by
    obtain ⟨⟨r, h', e, hp, hr⟩, hf⟩ := hx
    exact ⟨⟨r, sr h' 0 0 w, e, hq r h' hp, hr.mk0 z w⟩, hf⟩)
theorem CSt.mk0 (S : CSt h x m s) {v : Option Nat} (F' : FLm (sr h 0 0 v) x) : CSt (sr h 0 0 v) x m s := by
  obtain ⟨s1, ⟨s2, s2', s2''⟩, ⟨s3, s3'⟩, s4, s5, s6, s7, s8, s9⟩ := S
  have x0 : 0 < x := s2''.1
  have f : FrX (fun b => b = 0) h (sr h 0 0 v) := FrX.rf.sr (Or.inl rfl)
  have g : ∀ b j, 0 < b → gr (sr h 0 0 v) b j = gr h b j := fun b j hb => by rw [gr_sr, if_neg (by omega)]
  have ep : ptr (sr h 0 0 v) x = ptr h x := by
    funext i
    unfold ptr
    rw [g x 12 x0, g x 13 x0, g (x + 15) _ (by omega), g (x + 16) _ (by omega)]
  have hf : ∀ {a : Nat} {A : HV} {i : Nat}, i < 11 → ptr h x i = some a → HdR h a A → HdR (sr h 0 0 v) a A := fun {a A i} hi he H => H.frX f (fun b hb (q : b = 0) => by have := (s3 i a hi he).2.1; unfold inH at hb; omega) (s3 i a hi he).2.2.2
  refine ⟨St9_ext s1 (fun b _ _ => ⟨rfl, rfl⟩) (fun b j h1 h2 h3 => g b j (by omega)), ⟨s2, s2', F'⟩, ?_, ?_, s5, s6, s7, s8, ?_⟩
  · rw [ep]
    refine ⟨fun i a hi e => ?_, s3'⟩
    obtain ⟨p1, p2, p3, p4⟩ := s3 i a hi e
    exact ⟨St4_ext p1 (fun b h1 h2 => ⟨rfl, rfl⟩) (fun j => g a j (by omega)), p2, p3, p4⟩
  · rw [ep]
    obtain ⟨⟨a, e, H⟩, tr, pa, ke⟩ := s4
    refine ⟨⟨a, e, hf (i := 0) (by omega) e H⟩, tr, fun i hi => ?_, fun i hi => ⟨(ke i hi).1, fun E q => ?_⟩⟩
    · obtain ⟨b, e2, H2⟩ := pa i hi
      exact ⟨b, e2, hf (i := 2 + i) (by omega) e2 H2⟩
    · obtain ⟨b, e2, H2⟩ := (ke i hi).2 E q
      exact ⟨b, e2, hf (i := 9 + i) (by omega) e2 H2⟩
  · rw [ep]
    intro sh e
    rw [g x 14 x0] at e
    obtain ⟨q1, q2, q3, q4⟩ := s9 sh e
    exact ⟨q1.frX f (fun b h1 h2 (q : b = 0) => by omega) q3, q2, q3, q4⟩
/-- the shelf has been made -/
def NSh (h : Hp) (x : Nat) : Prop := gr h x 14 ≠ none
theorem Sp.ns {y : MethodName} {cc : ByteArray} {nL : Nat} {ret : Option FieldType} {fr lo mc ms : Nat} {av : List Value} {P : Option Value → Prop} {s' : Sv} (z : 0 < D.2.2.size) (S : CSt h x m s) (n : NSh h x)
    (hs : CSt (sr h 0 0 (some 0)) x m s → Sp l D y cc nL ret fr lo mc ms av (sr h 0 0 (some 0)) (fun v h' => P v ∧ CSt h' x m s' ∧ FrX (inC x m) (sr h 0 0 (some 0)) h')) : Sp l D y cc nL ret fr lo mc ms av h (fun v h' => P v ∧ CSt h' x m s' ∧ FrX (inC x m) h h' ∧ NSh h' x) := by
  have x0 : 0 < x := S.2.1.2.2.1
  have hl : 0 < hn h := by have := S.2.1; omega
  have n0 : ¬ inC x m 0 := fun q => by have := S.2.1; unfold inC at q; omega
  refine Sp.mark z (some 0) (gr h 0 0) (hs (S.mk0 ⟨x0, fun _ => by rw [gr_sr, if_neg (by omega)]; exact n⟩)) (fun r h' hp => ?_)
  obtain ⟨p, S', f⟩ := hp
  have g0 : gr h' 0 0 = some 0 := by
    rw [((f.2 0 hl).2 n0 0).2.2, gr_sr, if_pos ⟨rfl, rfl⟩]
  have n' : gr h' x 14 ≠ none := S'.2.1.2.2.2 (by rw [g0]; exact fun q => by cases q)
  have n'' : gr (sr h' 0 0 (gr h 0 0)) x 14 ≠ none := by rw [gr_sr, if_neg (by omega)]; exact n'
  refine ⟨p, S'.mk0 ⟨x0, fun _ => n''⟩, ⟨f.1, fun b hb => ⟨(f.2 b hb).1, fun q j => ⟨((f.2 b hb).2 q j).1, ((f.2 b hb).2 q j).2.1, ?_⟩⟩⟩, n''⟩
  rw [gr_sr]
  by_cases e : b = 0 ∧ j = 0
  · rw [if_pos e, e.1, e.2]
  · rw [if_neg e, ((f.2 b hb).2 q j).2.2, gr_sr, if_neg e]
theorem shC_le (h : Hp) (x : Nat) : shC h x ≤ 6 ∧ shM h x ≤ 17517 := by
  unfold shC shM
  by_cases e : gr h x 14 = none
  · rw [if_pos e, if_pos e]; omega
  · rw [if_neg e, if_neg e]; omega
theorem shC_none (e : gr h x 14 = none) : shC h x = 6 ∧ shM h x = 17517 := by
  unfold shC shM
  rw [if_pos e, if_pos e]; exact ⟨rfl, rfl⟩
theorem shC_ns (n : NSh h x) : shC h x = 0 ∧ shM h x = 0 := by
  unfold shC shM
  unfold NSh at n
  rw [if_neg n, if_neg n]; exact ⟨rfl, rfl⟩
/-- what a call of the class says: its answer, what it holds then, where it wrote, what it cost -/
def CP (zv : Int) (s' : Sv) (k3 n4 : Nat) (h : Hp) (x m : Nat) : Pq := fun v h' => (∃ y : Int32, v = some (.int y) ∧ y.toInt = zv) ∧ CSt h' x m s' ∧ FrX (inC x m) h h' ∧ k3 + shC h' x ≤ shC h x + 9 ∧ n4 + shM h' x ≤ shM h x + 191
theorem Sp.cost {y : MethodName} {cc : ByteArray} {nL : Nat} {ret : Option FieldType} {fr lo k3 n4 : Nat} {av : List Value} {zv : Int} {s' : Sv} (hk : k3 ≤ 9) (hn4 : n4 ≤ 191) (z : 0 < D.2.2.size) (S : CSt h x m s)
    (hs : ∀ h, CSt h x m s → Sp l D y cc nL ret fr lo k3 n4 av h (QI fun y h' => y.toInt = zv ∧ CSt h' x m s' ∧ FrX (inC x m) h h')) : Sp l D y cc nL ret fr lo k3 n4 av h (CP zv s' k3 n4 h x m) := by
  by_cases e : gr h x 14 = none
  · refine (hs h S).mono (fun v h' hp => ?_)
    obtain ⟨y, rfl, ey, S', f⟩ := hp
    obtain ⟨c1, c2⟩ := shC_none e
    obtain ⟨d1, d2⟩ := shC_le h' x
    exact ⟨⟨y, rfl, ey⟩, S', f, by omega, by omega⟩
  · refine (Sp.ns (P := fun v => ∃ y : Int32, v = some (.int y) ∧ y.toInt = zv) (s' := s') z S e (fun S1 => (hs _ S1).mono (fun v h' hp => ?_))).mono (fun v h' hp => ?_)
    · obtain ⟨y, rfl, ey, S', f⟩ := hp
      exact ⟨⟨y, rfl, ey⟩, S', f⟩
    · obtain ⟨p, S', f, n⟩ := hp
      obtain ⟨d1, d2⟩ := shC_ns n
      exact ⟨p, S', f, by omega, by omega⟩
theorem cc_uses (z : 0 < D.2.2.size) (S : CSt h x m s) {k : Int32} : S_X9_uses l D 9 191 [.ref x, .int k] h (CP (actP (chooseP · k.toInt) s).1 (actP (chooseP · k.toInt) s).2 9 191 h x m) := Sp.cost (by decide) (by decide) z S (fun _ S => ca_uses S)
theorem cc_ungeared (z : 0 < D.2.2.size) (S : CSt h x m s)  : S_X9_ungeared l D 9 191 [.ref x] h (CP (actP takeOutP s).1 (actP takeOutP s).2 9 191 h x m) := Sp.cost (by decide) (by decide) z S (fun _ S => ca_ungeared S)
theorem cc_cuts (z : 0 < D.2.2.size) (S : CSt h x m s)  : S_X9_cuts l D 9 191 [.ref x] h (CP (actP scribeP s).1 (actP scribeP s).2 9 191 h x m) := Sp.cost (by decide) (by decide) z S (fun _ S => ca_cuts S)
theorem cc_wipes (z : 0 < D.2.2.size) (S : CSt h x m s)  : S_X9_wipes l D 9 191 [.ref x] h (CP (actP wipeP s).1 (actP wipeP s).2 9 191 h x m) := Sp.cost (by decide) (by decide) z S (fun _ S => ca_wipes S)
theorem cc_sets (z : 0 < D.2.2.size) (S : CSt h x m s) {a b : Int32} : S_X9_sets l D 9 191 [.ref x, .int a, .int b] h (CP (actP (setToP · a.toInt b.toInt) s).1 (actP (setToP · a.toInt b.toInt) s).2 9 191 h x m) := Sp.cost (by decide) (by decide) z S (fun _ S => ca_sets S)
theorem cc_cranks (z : 0 < D.2.2.size) (S : CSt h x m s) {a b c : Int32} : S_X9_cranks l D 9 191 [.ref x, .int a, .int b, .int c] h (CP (act2P (windP · a.toInt b.toInt c.toInt) 10 11 s).1 (act2P (windP · a.toInt b.toInt c.toInt) 10 11 s).2 9 191 h x m) := Sp.cost (by decide) (by decide) z S (fun _ S => ca_cranks S)
theorem cc_geared (z : 0 < D.2.2.size) (S : CSt h x m s) {a b c d e : Int32} : S_X9_geared l D 9 191 [.ref x, .int a, .int b, .int c, .int d, .int e] h (CP (act2P (putInP · a.toInt b.toInt c.toInt d.toInt e.toInt) 8 9 s).1 (act2P (putInP · a.toInt b.toInt c.toInt d.toInt e.toInt) 8 9 s).2 9 191 h x m) := Sp.cost (by decide) (by decide) z S (fun _ S => ca_geared S)
theorem cc_undo (z : 0 < D.2.2.size) (S : CSt h x m s)  : S_X9_undo l D 0 0 [.ref x] h (CP (undoP s).1 (undoP s).2 0 0 h x m) := Sp.cost (by decide) (by decide) z S (fun _ S => ca_undo S)
theorem cc_again (z : 0 < D.2.2.size) (S : CSt h x m s) {i : Int32} : S_X9_again l D 0 0 [.ref x, .int i] h (CP (againP s i.toInt).1 (againP s i.toInt).2 0 0 h x m) := Sp.cost (by decide) (by decide) z S (fun _ S => ca_again S)
theorem cc_end (z : 0 < D.2.2.size) (S : CSt h x m s) {n : Int32} : S_X9_end l D 0 0 [.ref x, .int n] h (CP (endP s n.toInt).1 (endP s n.toInt).2 0 0 h x m) := Sp.cost (by decide) (by decide) z S (fun _ S => ca_end S)
theorem cc_sign (z : 0 < D.2.2.size) (S : CSt h x m s) {v : Int32} : S_X9_sign l D 0 0 [.ref x, .int v] h (CP (signP s v).1 (signP s v).2 0 0 h x m) := Sp.cost (by decide) (by decide) z S (fun _ S => ca_sign S)
theorem cc_mark (z : 0 < D.2.2.size) (S : CSt h x m s) {k : Int32} : S_X9_mark l D 0 0 [.ref x, .int k] h (CP (markP s k.toInt).1 (markP s k.toInt).2 0 0 h x m) := Sp.cost (by decide) (by decide) z S (fun _ S => ca_mark S)
theorem cc_keep (z : 0 < D.2.2.size) (S : CSt h x m s) {i : Int32} : S_X9_keep l D 9 191 [.ref x, .int i] h (CP (keepP s i.toInt).1 (keepP s i.toInt).2 9 191 h x m) := Sp.cost (by decide) (by decide) z S (fun _ S => ca_keep S)
theorem cc_simple (z : 0 < D.2.2.size) (S : CSt h x m s) {n : Int32} : S_X9_simple l D 0 0 [.ref x, .int n] h (CP (simpleP s n.toInt).1 (simpleP s n.toInt).2 0 0 h x m) := Sp.cost (by decide) (by decide) z S (fun _ S => ca_simple S)
theorem cc_gaps (z : 0 < D.2.2.size) (S : CSt h x m s)  : S_X9_gaps l D 0 0 [.ref x] h (CP (gapsP s).1 (gapsP s).2 0 0 h x m) := Sp.cost (by decide) (by decide) z S (fun _ S => ca_gaps S)
theorem cc_missing (z : 0 < D.2.2.size) (S : CSt h x m s) {n : Int32} : S_X9_missing l D 0 0 [.ref x, .int n] h (CP (missingP s n.toInt).1 (missingP s n.toInt).2 0 0 h x m) := Sp.cost (by decide) (by decide) z S (fun _ S => ca_missing S)
theorem cc_years (z : 0 < D.2.2.size) (S : CSt h x m s) {r n : Int32} : S_X9_years l D 0 0 [.ref x, .int r, .int n] h (CP (yearsP s r n.toInt).1 (yearsP s r n.toInt).2 0 0 h x m) := Sp.cost (by decide) (by decide) z S (fun _ S => ca_years S)
theorem cc_tree (z : 0 < D.2.2.size) (S : CSt h x m s) {p q : Int32} : S_X9_tree l D 0 0 [.ref x, .int p, .int q] h (CP (treeP s p.toInt q.toInt).1 (treeP s p.toInt q.toInt).2 0 0 h x m) := Sp.cost (by decide) (by decide) z S (fun _ S => ca_tree S)
theorem cc_near (z : 0 < D.2.2.size) (S : CSt h x m s) {p q k : Int32} : S_X9_near l D 0 0 [.ref x, .int p, .int q, .int k] h (CP (nearP s p.toInt q.toInt k.toInt).1 (nearP s p.toInt q.toInt k.toInt).2 0 0 h x m) := Sp.cost (by decide) (by decide) z S (fun _ S => ca_near S)
theorem cc_angle (z : 0 < D.2.2.size) (S : CSt h x m s) {v : Int32} : S_X9_angle l D 0 0 [.ref x, .int v] h (CP (angleP s v.toInt).1 (angleP s v.toInt).2 0 0 h x m) := Sp.cost (by decide) (by decide) z S (fun _ S => ca_angle S)
theorem cc_reaches (z : 0 < D.2.2.size) (S : CSt h x m s)  : S_X9_reaches l D 0 0 [.ref x] h (CP (reachesP s).1 (reachesP s).2 0 0 h x m) := Sp.cost (by decide) (by decide) z S (fun _ S => ca_reaches S)
theorem cc_compound (z : 0 < D.2.2.size) (S : CSt h x m s) {n : Int32} : S_X9_compound l D 0 0 [.ref x, .int n] h (CP (compoundP s n.toInt).1 (compoundP s n.toInt).2 0 0 h x m) := Sp.cost (by decide) (by decide) z S (fun _ S => ca_compound S)
theorem cc_gears (z : 0 < D.2.2.size) (S : CSt h x m s)  : S_X9_gears l D 9 191 [.ref x] h (CP (gearsP s).1 (gearsP s).2 9 191 h x m) := Sp.cost (by decide) (by decide) z S (fun _ S => ca_gears S)
theorem cc_plates (z : 0 < D.2.2.size) (S : CSt h x m s)  : S_X9_plates l D 9 191 [.ref x] h (CP (platesP s).1 (platesP s).2 9 191 h x m) := Sp.cost (by decide) (by decide) z S (fun _ S => ca_plates S)
theorem cc_day (z : 0 < D.2.2.size) (S : CSt h x m s)  : S_X9_day l D 9 191 [.ref x] h (CP (dayP s).1 (dayP s).2 9 191 h x m) := Sp.cost (by decide) (by decide) z S (fun _ S => ca_day S)
theorem cc_count (z : 0 < D.2.2.size) (S : CSt h x m s) {w : Int32} : S_X9_count l D 0 0 [.ref x, .int w] h (CP (countP s w.toInt) s 0 0 h x m) := (ca_count S).mono (fun v h' hp => by
  obtain ⟨y, rfl, e, rfl⟩ := hp
  exact ⟨⟨y, rfl, e⟩, S, FrX.rf, by omega, by omega⟩)
end MarkS
