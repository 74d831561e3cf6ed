-- trains of the reference, one behind the other
/-- T lies behind what the first k gears of G say -/
def PastB (G : Nat → Int) (k : Nat) (T : Nat → Int) : Prop := ∃ i, i < k ∧ (∀ j, j < i → T j = G j) ∧ G i < T i
def TrV (g : Int) (n : Nat) (T : Nat → Int) : Prop := (∀ i, i < n → 0 ≤ T i ∧ T i < g) ∧ ∀ i j, i < j → j < n → T i ≠ T j
theorem pb_succ {G T : Nat → Int} {k : Nat} : PastB G (k + 1) T ↔ (PastB G k T ∨ ((∀ j, j < k → T j = G j) ∧ G k < T k)) := by
  constructor
  · rintro ⟨i, h1, h2, h3⟩
    by_cases e : i = k
    · subst e; exact Or.inr ⟨h2, h3⟩
    · exact Or.inl ⟨i, by omega, h2, h3⟩
  · rintro (⟨i, h1, h2, h3⟩ | ⟨h2, h3⟩)
    · exact ⟨i, by omega, h2, h3⟩
    · exact ⟨k, by omega, h2, h3⟩
theorem pb_ext {G G' T : Nat → Int} {k : Nat} (h : ∀ i, i < k → G' i = G i) : PastB G' k T ↔ PastB G k T := by
  constructor
  · rintro ⟨i, h1, h2, h3⟩
    exact ⟨i, h1, fun j hj => by rw [h2 j hj, h j (by omega)], by rw [← h i h1]; exact h3⟩
  · rintro ⟨i, h1, h2, h3⟩
    exact ⟨i, h1, fun j hj => by rw [h2 j hj, h j (by omega)], by rw [h i h1]; exact h3⟩
theorem pb_pop {g : Int} {n : Nat} {G T : Nat → Int} {k : Nat} (hk : k < n) (V : TrV g n T) (h : G k + 1 = g) : PastB G (k + 1) T ↔ PastB G k T := by
  rw [pb_succ]
  constructor
  · rintro (z | ⟨z1, z2⟩)
    · exact z
    · have := (V.1 k hk).2; omega
  · exact Or.inl
theorem pb_skip {g : Int} {n : Nat} {G G' T : Nat → Int} {k : Nat} (hk : k < n) (V : TrV g n T) (e1 : ∀ i, i < k → G' i = G i) (e2 : G' k = G k + 1) (h : ∃ i, i < k ∧ G i = G k + 1) : PastB G (k + 1) T ↔ PastB G' (k + 1) T := by
  rw [pb_succ, pb_succ, pb_ext e1]
  constructor
  · rintro (z | ⟨z1, z2⟩)
    · exact Or.inl z
    · right
      refine ⟨fun j hj => by rw [z1 j hj, e1 j hj], ?_⟩
      obtain ⟨i, h1, h2⟩ := h
      have := V.2 i k h1 hk
      have := z1 i h1
      omega
  · rintro (z | ⟨z1, z2⟩)
    · exact Or.inl z
    · exact Or.inr ⟨fun j hj => by rw [z1 j hj, e1 j hj], by omega⟩
theorem pb_push {g : Int} {n : Nat} {G G' T : Nat → Int} {k : Nat} (hk : k + 1 < n) (V : TrV g n T) (e1 : ∀ i, i < k → G' i = G i) (e2 : G' k = G k + 1) (e3 : G' (k + 1) = -1) : PastB G (k + 1) T ↔ PastB G' (k + 1 + 1) T := by
  rw [pb_succ, pb_succ (G := G'), pb_succ (G := G'), pb_ext e1]
  constructor
  · rintro (z | ⟨z1, z2⟩)
    · exact Or.inl (Or.inl z)
    · by_cases e : T k = G k + 1
      · right
        refine ⟨fun j hj => ?_, by have := (V.1 (k + 1) hk).1; omega⟩
        by_cases ej : j = k
        · rw [ej, e, e2]
        · rw [z1 j (by omega), e1 j (by omega)]
      · exact Or.inl (Or.inr ⟨fun j hj => by rw [z1 j hj, e1 j hj], by omega⟩)
  · rintro ((z | ⟨z1, z2⟩) | ⟨z1, z2⟩)
    · exact Or.inl z
    · exact Or.inr ⟨fun j hj => by rw [z1 j hj, e1 j hj], by omega⟩
    · refine Or.inr ⟨fun j hj => by rw [z1 j (by omega), e1 j hj], ?_⟩
      have := z1 k (by omega)
      omega
theorem pb_found {G G' T : Nat → Int} {k : Nat} (e1 : ∀ i, i < k → G' i = G i) (e2 : G' k = G k + 1) : PastB G (k + 1) T ↔ ((∀ j, j < k + 1 → T j = G' j) ∨ PastB G' (k + 1) T) := by
  rw [pb_succ, pb_succ (G := G'), pb_ext e1]
  constructor
  · rintro (z | ⟨z1, z2⟩)
    · exact Or.inr (Or.inl z)
    · by_cases e : T k = G k + 1
      · left
        intro j hj
        by_cases ej : j = k
        · rw [ej, e, e2]
        · rw [z1 j (by omega), e1 j (by omega)]
      · exact Or.inr (Or.inr ⟨fun j hj => by rw [z1 j hj, e1 j hj], by omega⟩)
  · rintro (z | (z | ⟨z1, z2⟩))
    · refine Or.inr ⟨fun j hj => by rw [z j (by omega), e1 j hj], ?_⟩
      have := z k (by omega)
      omega
    · exact Or.inl z
    · exact Or.inr ⟨fun j hj => by rw [z1 j hj, e1 j hj], by omega⟩
/-- the gears that stand -/
def GrH (h : Hp) (m : Nat) (G : Nat → Int) : Prop := ∀ j, j < 4 → (gi h (m + 7) j).toInt = G j
abbrev FrG (m : Nat) (h h' : Hp) : Prop := FrW (fun b _ => b = m + 7) (fun _ _ => False) h h'
theorem FrG.rf {m : Nat} {h : Hp} : FrG m h h := FrW.rf (P := fun b _ => b = m + 7) (R := fun _ _ => False)
theorem FrG.s {m : Nat} {h h' : Hp} (f : FrG m h h') {k : Nat} {v : Int32} : FrG m h (si h' (m + 7) k v) := FrW.si (P := fun b _ => b = m + 7) (R := fun _ _ => False) f rfl
theorem GrH.set {h : Hp} {m : Nat} {G : Nat → Int} (H : GrH h m G) {k : Nat} {v : Int32} : GrH (si h (m + 7) k v) m (fun j => if j = k then v.toInt else G j) := by
  intro j hj
  rw [gi_si]
  by_cases e : j = k
  · rw [if_pos ⟨rfl, e⟩]; show v.toInt = if j = k then v.toInt else G j; rw [if_pos e]
  · rw [if_neg (fun z => e z.2)]; show _ = if j = k then v.toInt else G j; rw [if_neg e]; exact H j hj
section GoL
variable {X : Ctx} {l : Launch} {D : Dt} {h : Hp} {m : Nat} {Q : Pq} {A : HV} {s : Sv}
theorem iim1_t : (Int32.ofInt (-1)).toInt = -1 := rfl
theorem TrV.ext {g : Int} {n : Nat} {G G' : Nat → Int} (h : TrV g n G) (e : ∀ i, i < n → G' i = G i) : TrV g n G' := ⟨fun i hi => by rw [e i hi]; exact h.1 i hi, fun i j hij hj => by rw [e i (by omega), e j hj]; exact h.2 i j hij hj⟩
theorem go_level (C : C_X10_goesOn X) (H : MdR h m A) (V : VA A) {n : Nat} (hn : n ≤ 4) {v1 : Int32} (e1 : v1.toInt = n) (n0 : 1 ≤ n) (R : (Nat → Int) → Prop)
    (found : ∀ (h' : Hp) (G : Nat → Int), FrG m h h' → GrH h' m G → TrV (A 0 4) n G → (∀ T, TrV (A 0 4) n T → (R T ↔ ((∀ j, j < n → T j = G j) ∨ PastB G n T))) → Q (some (.int 1)) h') (j : Nat) :
    ∀ (k : Nat) (P : Nat → Int), k + 1 + j = n →
    (∀ (h' : Hp) (G : Nat → Int) (v : Int32), FrG m h h' → GrH h' m G → v.toInt = (k : Int) - 1 → (∀ i, i < k → G i = P i) → (∀ T, TrV (A 0 4) n T → (R T ↔ PastB G k T)) → Wj X 0 0 Q 4 [(0, .ref m), (1, .int v1), (2, .int v)] [] h') →
    ∀ (r : Nat) (h' : Hp) (G : Nat → Int) (v2 : Int32), v2.toInt = k → FrG m h h' → GrH h' m G → (∀ i, i < k → G i = P i) → TrV (A 0 4) k G → -1 ≤ G k → G k + 1 + r = A 0 4 → (∀ T, TrV (A 0 4) n T → (R T ↔ PastB G (k + 1) T)) → Wj X 0 0 Q 4 [(0, .ref m), (1, .int v1), (2, .int v2)] [] h' := by
  have vg := V.2.2.2.2.1
  induction j with
  | zero =>
    intro k P hk pop r
    have hnk : n = k + 1 := by omega
    induction r with
    | zero =>
      intro h' G v2 e2 f g ep tv g0 hr hR
      have H' : MdR h' m A := H.fr V f (fun j _ (q : m + 3 = m + 7) => by omega) (fun _ _ => id)
      have ek : ix v2 = k := ix_of e2
      have gk := g k (by omega)
      have ea : (gi h' (m + 7) (ix v2) + 1).toInt = G k + 1 := by rw [iadd_t] <;> rw [ek, gk, i1_t] <;> omega
      have e4 := H'.n (i := 4) (by omega)
      refine V_X10_goesOn_4 C ⟨fun q => ?_, fun _ => ⟨H'.1, by unfold inb; omega, fun q => ?_, fun q => ?_⟩⟩
      · rw [i32_lt, i0_t] at q; omega
      · exfalso
        apply q
        rw [i32_eq, gi_si, if_pos ⟨rfl, rfl⟩, ea, gi_si, if_neg (by omega), ix_4, e4]; omega
      · rw [ek]
        have eq : ∀ i, i < k → (fun i => if i = k then (-1 : Int32).toInt else (fun i => if i = k then (gi h' (m + 7) k + 1).toInt else G i) i) i = G i := fun i hi => by dsimp only; rw [if_neg (by omega), if_neg (by omega)]
        refine pop _ _ _ (FrG.s (FrG.s f)) (GrH.set (v := -1) (GrH.set g)) ?_ (fun i hi => (eq i hi).trans (ep i hi)) (fun T hT => ?_)
        · rw [iadd_t] <;> rw [e2, iim1_t] <;> omega
        · rw [hR T hT, pb_pop (by omega) hT (by omega)]
          exact (pb_ext eq).symm
    | succ r ih =>
      intro h' G v2 e2 f g ep tv g0 hr hR
      have H' : MdR h' m A := H.fr V f (fun j _ (q : m + 3 = m + 7) => by omega) (fun _ _ => id)
      have ek : ix v2 = k := ix_of e2
      have gk := g k (by omega)
      have ea : (gi h' (m + 7) k + 1).toInt = G k + 1 := by rw [iadd_t] <;> rw [gk, i1_t] <;> omega
      have e4 := H'.n (i := 4) (by omega)
      obtain ⟨x1, x2⟩ := ix_succ (i := v2) (by omega) (by omega)
      have gs := GrH.set (k := k) (v := gi h' (m + 7) k + 1) g
      have fs := FrG.s f (k := k) (v := gi h' (m + 7) k + 1)
      rw [ea] at gs
      have es : ∀ i, i < k → (fun j => if j = k then G k + 1 else G j) i = G i := fun i hi => if_neg (by omega)
      have ek1 : (fun j => if j = k then G k + 1 else G j) k = G k + 1 := if_pos rfl
      have vt : v1.toInt - 1 = (n : Int) - 1 := by omega
      have tv1 : (v1 - 1).toInt = (n : Int) - 1 := by rw [isub_t] <;> rw [e1, i1_t] <;> omega
      generalize hG1 : (fun j => if j = k then G k + 1 else G j) = G1 at *
      refine V_X10_goesOn_4 C ⟨fun q => ?_, fun _ => ⟨H'.1, by unfold inb; omega, fun q => ?_, fun q => ?_⟩⟩
      · rw [i32_lt, i0_t] at q; omega
      · rw [ek] at q ⊢
        refine ⟨fun q2 => ?_, fun q2 => ⟨fun q3 => ?_, fun q3 => ?_⟩⟩
        · rw [mUn_0, ek] at q2
          obtain ⟨i, hi⟩ := Classical.not_forall.mp q2
          obtain ⟨hi1, hi2⟩ := Classical.not_imp.mp hi
          have hi3 := Classical.not_not.mp hi2
          rw [gs i (by omega), gs k (by omega), es i hi1, ek1] at hi3
          refine ih _ _ v2 e2 fs gs (fun i hi => (es i hi).trans (ep i hi)) (tv.ext es) (by omega) (by omega) (fun T hT => ?_)
          rw [hR T hT]
          exact pb_skip (by omega) hT es ek1 ⟨i, hi1, hi3⟩
        · exfalso
          apply q3
          rw [i32_eq, e2, tv1]; omega
        · -- found
          rw [mUn_0, ek] at q2
          have q2' := Classical.not_not.mp q2
          have tvk : TrV (A 0 4) (k + 1) G1 := by
            refine ⟨fun i hi => ?_, fun i j hij hj => ?_⟩
            · by_cases e : i = k
              · rw [e, ek1]; omega
              · rw [es i (by omega)]; exact tv.1 i (by omega)
            · rw [es i (by omega)]
              by_cases e : j = k
              · rw [e, ek1]
                have := q2' i (by omega)
                rw [gs i (by omega), gs k (by omega), es i (by omega), ek1] at this
                exact this
              · rw [es j (by omega)]; exact tv.2 i j hij (by omega)
          refine found _ _ fs gs (by rw [hnk]; exact tvk) (fun T hT => ?_)
          rw [hR T hT, hnk]
          exact pb_found es ek1
      · exfalso
        rw [i32_eq, ek, gi_si, if_pos ⟨rfl, rfl⟩, ea, gi_si, if_neg (by omega), ix_4, e4] at q; omega
  | succ j ihj =>
    intro k P hk pop r
    induction r with
    | zero =>
      intro h' G v2 e2 f g ep tv g0 hr hR
      have H' : MdR h' m A := H.fr V f (fun j _ (q : m + 3 = m + 7) => by omega) (fun _ _ => id)
      have ek : ix v2 = k := ix_of e2
      have gk := g k (by omega)
      have ea : (gi h' (m + 7) (ix v2) + 1).toInt = G k + 1 := by rw [iadd_t] <;> rw [ek, gk, i1_t] <;> omega
      have e4 := H'.n (i := 4) (by omega)
      refine V_X10_goesOn_4 C ⟨fun q => ?_, fun _ => ⟨H'.1, by unfold inb; omega, fun q => ?_, fun q => ?_⟩⟩
      · rw [i32_lt, i0_t] at q; omega
      · exfalso
        apply q
        rw [i32_eq, gi_si, if_pos ⟨rfl, rfl⟩, ea, gi_si, if_neg (by omega), ix_4, e4]; omega
      · rw [ek]
        have eq : ∀ i, i < k → (fun i => if i = k then (-1 : Int32).toInt else (fun i => if i = k then (gi h' (m + 7) k + 1).toInt else G i) i) i = G i := fun i hi => by dsimp only; rw [if_neg (by omega), if_neg (by omega)]
        refine pop _ _ _ (FrG.s (FrG.s f)) (GrH.set (v := -1) (GrH.set g)) ?_ (fun i hi => (eq i hi).trans (ep i hi)) (fun T hT => ?_)
        · rw [iadd_t] <;> rw [e2, iim1_t] <;> omega
        · rw [hR T hT, pb_pop (by omega) hT (by omega)]
          exact (pb_ext eq).symm
    | succ r ih =>
      intro h' G v2 e2 f g ep tv g0 hr hR
      have H' : MdR h' m A := H.fr V f (fun j _ (q : m + 3 = m + 7) => by omega) (fun _ _ => id)
      have ek : ix v2 = k := ix_of e2
      have gk := g k (by omega)
      have ea : (gi h' (m + 7) k + 1).toInt = G k + 1 := by rw [iadd_t] <;> rw [gk, i1_t] <;> omega
      have e4 := H'.n (i := 4) (by omega)
      obtain ⟨x1, x2⟩ := ix_succ (i := v2) (by omega) (by omega)
      have gs := GrH.set (k := k) (v := gi h' (m + 7) k + 1) g
      have fs := FrG.s f (k := k) (v := gi h' (m + 7) k + 1)
      rw [ea] at gs
      have es : ∀ i, i < k → (fun j => if j = k then G k + 1 else G j) i = G i := fun i hi => if_neg (by omega)
      have ek1 : (fun j => if j = k then G k + 1 else G j) k = G k + 1 := if_pos rfl
      have vt : v1.toInt - 1 = (n : Int) - 1 := by omega
      have tv1 : (v1 - 1).toInt = (n : Int) - 1 := by rw [isub_t] <;> rw [e1, i1_t] <;> omega
      generalize hG1 : (fun j => if j = k then G k + 1 else G j) = G1 at *
      refine V_X10_goesOn_4 C ⟨fun q => ?_, fun _ => ⟨H'.1, by unfold inb; omega, fun q => ?_, fun q => ?_⟩⟩
      · rw [i32_lt, i0_t] at q; omega
      · rw [ek] at q ⊢
        refine ⟨fun q2 => ?_, fun q2 => ⟨fun q3 => ?_, fun q3 => ?_⟩⟩
        · rw [mUn_0, ek] at q2
          obtain ⟨i, hi⟩ := Classical.not_forall.mp q2
          obtain ⟨hi1, hi2⟩ := Classical.not_imp.mp hi
          have hi3 := Classical.not_not.mp hi2
          rw [gs i (by omega), gs k (by omega), es i hi1, ek1] at hi3
          refine ih _ _ v2 e2 fs gs (fun i hi => (es i hi).trans (ep i hi)) (tv.ext es) (by omega) (by omega) (fun T hT => ?_)
          rw [hR T hT]
          exact pb_skip (by omega) hT es ek1 ⟨i, hi1, hi3⟩
        · refine ⟨by unfold inb; omega, ?_⟩
          rw [mUn_0, ek] at q2
          have q2' := Classical.not_not.mp q2
          have tvk : TrV (A 0 4) (k + 1) G1 := by
            refine ⟨fun i hi => ?_, fun i j hij hj => ?_⟩
            · by_cases e : i = k
              · rw [e, ek1]; omega
              · rw [es i (by omega)]; exact tv.1 i (by omega)
            · rw [es i (by omega)]
              by_cases e : j = k
              · rw [e, ek1]
                have := q2' i (by omega)
                rw [gs i (by omega), gs k (by omega), es i (by omega), ek1] at this
                exact this
              · rw [es j (by omega)]; exact tv.2 i j hij (by omega)
          rw [x1, ek]
          have gs2 := GrH.set (k := k + 1) (v := -1) gs
          have fs2 := FrG.s fs (k := k + 1) (v := -1)
          have em : (-1 : Int32).toInt = -1 := rfl
          rw [em] at gs2
          have es2 : ∀ i, i < k + 1 → (fun j => if j = k + 1 then -1 else G1 j) i = G1 i := fun i hi => if_neg (by omega)
          have ek2 : (fun j => if j = k + 1 then -1 else G1 j) (k + 1) = -1 := if_pos rfl
          generalize (fun j => if j = k + 1 then -1 else G1 j) = G2 at *
          -- one gear more; when it is through, the next of this one
          refine ihj (k + 1) G1 (by omega) (fun h3 G3 w f3 g3 ew ep3 hR3 => ?_) (gN A) _ G2 _ (by rw [x2, e2]; rfl) fs2 gs2 es2 (tvk.ext es2) (by omega) (by have := V.gn; omega) (fun T hT => ?_)
          · have e3k := ep3 k (by omega)
            have e3 : ∀ i, i < k → G3 i = G i := fun i hi => (ep3 i (by omega)).trans (es i hi)
            exact ih h3 G3 w (by omega) f3 g3 (fun i hi => (e3 i hi).trans (ep i hi)) (tv.ext e3) (by omega) (by omega) hR3
          · rw [hR T hT]
            exact pb_push (by omega) hT (fun i hi => (es2 i (by omega)).trans (es i hi)) ((es2 k (by omega)).trans ek1) ek2
        · exfalso
          rw [i32_eq, e2, tv1] at q3; omega
      · exfalso
        rw [i32_eq, ek, gi_si, if_pos ⟨rfl, rfl⟩, ea, gi_si, if_neg (by omega), ix_4, e4] at q; omega
end GoL
