-- the new object as the calls find it
section CSt0
variable {h h' : Hp} {x m : Nat}
theorem st9_fx {S : Nat → Prop} (F : St9 h x) (f : FrX S h h') (hb : x + 17 ≤ hn h) (hs : ∀ b, x ≤ b → b < x + 17 → ¬ S b) : St9 h' x := by
  obtain ⟨a1, a2, a3, a4, a5, a6, a7, a8, a9, a10, a11, a12, a13, a14, a15, a16, a17, a18, a19, a20, a21, a22, a23⟩ := F
  have g := fun j => fx_gr f (b := x) (by omega) (hs _ (by omega) (by omega)) j
  have k := fun b (h1 : b < x + 17) => fx_kd f (b := b) (by omega)
  have n := fun b (h1 : b < x + 17) => fx_ln f (b := b) (by omega)
  refine ⟨by rw [k _ (by omega)]; exact a1, by rw [g]; exact a2, a3.fx f (by omega) (fun b b1 b2 => hs b (by omega) (by omega)), by rw [g]; exact a4, a5.fx f (by omega) (fun b b1 b2 => hs b (by omega) (by omega)), by rw [g]; exact a6, by rw [k _ (by omega)]; exact a7, by rw [g]; exact a8, by rw [k _ (by omega)]; exact a9, by rw [g]; exact a10, a11.fx f (by omega) (fun b b1 b2 => hs b (by omega) (by omega)), by rw [g]; exact a12, a13.fx f (by omega) (fun b b1 b2 => hs b (by omega) (by omega)), by rw [g]; exact a14, by rw [k _ (by omega)]; exact a15, by rw [g]; exact a16, by rw [k _ (by omega)]; exact a17, by rw [g]; exact a18, by rw [k _ (by omega)]; exact a19, by rw [n _ (by omega)]; exact a20, by rw [g]; exact a21, by rw [k _ (by omega)]; exact a22, by rw [n _ (by omega)]; exact a23⟩
theorem st4_fx {a : Nat} {S : Nat → Prop} (F : St4 h a) (f : FrX S h h') (hb : a + 9 ≤ hn h) (hs : ∀ b, a ≤ b → b < a + 9 → ¬ S b) : St4 h' a := by
  have gr' : ∀ j, gr h' a j = gr h a j := fun j => fx_gr f (by omega) (hs a (by omega) (by omega)) j
  have kd' : ∀ b, a ≤ b → b < a + 9 → kd h' b = kd h b := fun b b1 b2 => fx_kd f (by omega)
  have ln' : ∀ b, a ≤ b → b < a + 9 → ln h' b = ln h b := fun b b1 b2 => fx_ln f (by omega)
  unfold St4 at F ⊢
  rw [gr', gr', gr', gr', gr', gr', gr', gr', kd' a (by omega) (by omega), kd' (a + 1) (by omega) (by omega), kd' (a + 2) (by omega) (by omega), kd' (a + 3) (by omega) (by omega), kd' (a + 4) (by omega) (by omega), kd' (a + 5) (by omega) (by omega), kd' (a + 6) (by omega) (by omega), kd' (a + 7) (by omega) (by omega), kd' (a + 8) (by omega) (by omega), ln' (a + 4) (by omega) (by omega), ln' (a + 5) (by omega) (by omega), ln' (a + 6) (by omega) (by omega), ln' (a + 7) (by omega) (by omega), ln' (a + 8) (by omega) (by omega)]
  exact F
theorem c0_cst (c : C0 h x) (f : Fr0 h h') (hm : m = x + 35) (hb : m + 18 ≤ hn h') (x0 : 0 < x) (g0 : gr h' 0 0 = none) : CSt h' x m sv1 := by
  obtain ⟨c1, c2, ⟨c3, c4⟩, ⟨c5, c6⟩, c7, c8, c9, c10, c11, c12⟩ := c
  have g : ∀ b, b < x + 35 → ∀ j, gr h' b j = gr h b j := fun b hb j => fx_gr f (by omega) id j
  have gi' : ∀ b, b < x + 35 → ∀ j, gi h' b j = gi h b j := fun b hb j => fx_gi f (by omega) id j
  have p0 : ptr h' x 0 = some (x + 17) := by
    show gr h' x 12 = _
    rw [g _ (by omega)]; exact c3
  have p1 : ptr h' x 1 = some (x + 26) := by
    show gr h' x 13 = _
    rw [g _ (by omega)]; exact c5
  have pn : ∀ i, 2 ≤ i → ptr h' x i = none := fun i hi => by
    unfold ptr
    rw [if_neg (by omega), if_neg (by omega)]
    by_cases e : i < 9
    · rw [if_pos e, g _ (by omega)]; exact c9 _
    · rw [if_neg e, g _ (by omega)]; exact c10 _
  have H4 : HdR h' (x + 17) (hvF 3 18 12) := hdr_fx c4 f (by omega) (fun _ _ _ => id)
  have T4 : St4 h' (x + 26) := st4_fx c6 f (by omega) (fun _ _ _ => id)
  have pa : ∀ i a, ptr h' x i = some a → (i = 0 ∧ a = x + 17) ∨ (i = 1 ∧ a = x + 26) := fun i a e => by
    by_cases e0 : i = 0
    · rw [e0, p0] at e; exact Or.inl ⟨e0, (Option.some.inj e).symm⟩
    · by_cases e1 : i = 1
      · rw [e1, p1] at e; exact Or.inr ⟨e1, (Option.some.inj e).symm⟩
      · rw [pn i (by omega)] at e; cases e
  refine ⟨st9_fx c1 f (by omega) (fun _ _ _ => id), ⟨by omega, hb, x0, fun q => absurd g0 q⟩, ⟨fun i a hi e => ?_, fun i j a b hi hj ne ea eb => ?_⟩, ⟨⟨_, p0, H4⟩, ⟨_, p1⟩, fun i hi => ?_, fun i hi => ⟨fun _ => pn _ (by omega), fun E e => ?_⟩⟩, ⟨hvF_va, fun i hi => ?_, fun i E hi e => ?_⟩, ⟨by rw [gi' _ (by omega), c8]; rfl, by decide⟩, ⟨by rw [gi' _ (by omega)]; exact c11.1, by decide, fun i hi => ?_⟩, ⟨by rw [gi' _ (by omega)]; exact c12.1, by decide, fun i hi => ?_⟩, fun sh e => ?_⟩
  · rcases pa i a e with ⟨-, q⟩ | ⟨-, q⟩
    · rw [q]; exact ⟨H4.1, by omega, by omega, by omega⟩
    · rw [q]; exact ⟨T4, by omega, by omega, by omega⟩
  · rcases pa i a ea with ⟨q1, q2⟩ | ⟨q1, q2⟩ <;> rcases pa j b eb with ⟨q3, q4⟩ | ⟨q3, q4⟩ <;> omega
  · have : i < 0 := hi
    omega
  · have e : (none : Option HV) = some E := e
    cases e
  · have : i < 0 := hi
    omega
  · have e : (none : Option HV) = some E := e
    cases e
  · have : i < 0 := hi
    omega
  · have : i < 0 := hi
    omega
  · rw [g _ (by omega), c7] at e; cases e
end CSt0
