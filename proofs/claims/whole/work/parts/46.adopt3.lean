-- adopt(), whole; work on the trial's head
def rt (i : Nat) : Nat := if 2 ≤ i ∧ i < 8 then i + 1 else if i = 8 then 2 else i
theorem rt_lt {i : Nat} (hi : i < 11) : rt i < 11 := by
  unfold rt
  by_cases a : 2 ≤ i ∧ i < 8
  · rw [if_pos a]; omega
  · rw [if_neg a]
    by_cases b : i = 8
    · rw [if_pos b]; omega
    · rw [if_neg b]; exact hi
theorem rt_inj {i j : Nat} (hij : i ≠ j) : rt i ≠ rt j := by
  unfold rt
  by_cases a : 2 ≤ i ∧ i < 8
  · rw [if_pos a]
    by_cases b : 2 ≤ j ∧ j < 8
    · rw [if_pos b]; omega
    · rw [if_neg b]
      by_cases c : j = 8
      · rw [if_pos c]; omega
      · rw [if_neg c]; omega
  · rw [if_neg a]
    by_cases d : i = 8
    · rw [if_pos d]
      by_cases b : 2 ≤ j ∧ j < 8
      · rw [if_pos b]; omega
      · rw [if_neg b]
        by_cases c : j = 8
        · omega
        · rw [if_neg c]; omega
    · rw [if_neg d]
      by_cases b : 2 ≤ j ∧ j < 8
      · rw [if_pos b]; omega
      · rw [if_neg b]
        by_cases c : j = 8
        · rw [if_pos c]; omega
        · rw [if_neg c]; omega
section Adopt3
variable {X : Ctx} {l : Launch} {D : Dt} {h : Hp} {x m : Nat} {s : Sv} {Q : Pq}
/-- the pointers go another way round; another value -/
theorem CSt.turn {s' : Sv} (S : CSt h x m s) {h' : Hp} (f : FrX (fun b => b = x ∨ b = x + 15) h h') (gx : ∀ j, j < 10 ∨ j = 14 → gr h' x j = gr h x j) (σ : Nat → Nat) (h1 : ∀ i, i < 11 → σ i < 11) (h2 : ∀ i j, i < 11 → j < 11 → i ≠ j → σ i ≠ σ j) (h3 : ∀ i, i < 11 → ptr h' x i = ptr h x (σ i)) (g10 : (gi h' x 10).toInt = sN s' ∧ sN s' ≤ 7) (hd : Heads h (fun i => ptr h x (σ i)) s') (hva : VAs s') (hR : sR s' = sR s) (hT : sT s' = sT s) : CSt h' x m s' ∧ FrX (inC x m) h h' := by
  obtain ⟨F, hm, pt, -, -, sn, td, tx, sh⟩ := id S
  have nS : ∀ i a b, i < 11 → ptr h x i = some a → inH a b → ¬ (b = x ∨ b = x + 15) := fun i a b hi e hb => by
    have := (pt.1 i a hi e).2.1
    unfold inH at hb
    omega
  have oth : ∀ b j, b < hn h → b ≠ x → b ≠ x + 15 → gi h' b j = gi h b j ∧ gl h' b j = gl h b j ∧ gr h' b j = gr h b j := fun b j h1 h2 h3 => (f.2 b h1).2 (by omega) j
  have hf : ∀ {b : Nat} {A : HV} {i : Nat}, i < 11 → ptr h x i = some b → HdR h b A → HdR h' b A := fun {b A i} hi he H => H.frX f (fun c hc => nS i b c hi he hc) (pt.1 i b hi he).2.2.2
  obtain ⟨⟨a', e0, H0⟩, tr, pa, ke⟩ := hd
  refine ⟨⟨St9_ext F (fun b h1 h2 => (f.2 b (by omega)).1) (fun b j h1 h2 h3 => ?_), ⟨hm.1, by have := f.1; omega, hm.2.2.fx f (fun (q : 0 = x ∨ 0 = x + 15) => by have := hm.2.2.1; omega) (by omega) (gx 14 (Or.inr rfl))⟩, (pt.frX f nS).perm σ h1 h2 h3, ⟨⟨a', by rw [h3 0 (by omega)]; exact e0, hf (i := σ 0) (h1 0 (by omega)) e0 H0⟩, by rw [h3 1 (by omega)]; exact tr, fun i hi => ?_, fun i hi => ⟨fun q => ?_, fun E q => ?_⟩⟩, hva, g10, ?_, ?_, fun z ez => ?_⟩, f.mono (fun b _ q => by unfold inC; omega)⟩
  · by_cases q : b = x
    · subst q; exact gx j (Or.inl (h3 rfl))
    · exact (oth b j (by omega) q (by omega)).2.2
  · obtain ⟨b, e2, H2⟩ := pa i hi
    have : i < 7 := by omega
    exact ⟨b, by rw [h3 _ (by omega)]; exact e2, hf (i := σ (2 + i)) (h1 _ (by omega)) e2 H2⟩
  · rw [h3 _ (by omega)]; exact (ke i hi).1 q
  · obtain ⟨b, e2, H2⟩ := (ke i hi).2 E q
    exact ⟨b, by rw [h3 _ (by omega)]; exact e2, hf (i := σ (9 + i)) (h1 _ (by omega)) e2 H2⟩
  · rw [hR]
    unfold TdC at *
    rw [(oth (x + 3) 1 (by omega) (by omega) (by omega)).1]
    exact ⟨td.1, td.2.1, fun i hi => by rw [(oth (x + 3 + 1) i (by omega) (by omega) (by omega)).2.1]; exact td.2.2 i hi⟩
  · rw [hT]
    unfold TxC at *
    rw [(oth (x + 1) 1 (by omega) (by omega) (by omega)).1]
    exact ⟨tx.1, tx.2.1, fun i hi => by rw [(oth (x + 1 + 1) i (by omega) (by omega) (by omega)).1]; exact tx.2.2 i hi⟩
  · rw [gx 14 (Or.inr rfl)] at ez
    obtain ⟨q1, q2, q3, q4⟩ := sh z ez
    exact ⟨q1.frX f (fun b h1 h2 q => by omega) q3, q2, by have := f.1; omega, fun i b hi e => q4 (σ i) b (h1 i hi) (by rw [← h3 i hi]; exact e)⟩
theorem i7n : (Int32.ofNat 7).toInt = 7 := rfl
theorem ad34 (C : C_X9_adopt X) (S : CSt h x m s) (hn7 : sN s = 7) {v : Int32} {o : Nat} (eo : gr h (x + 15) 0 = some o) (hend : ∀ h', CSt h' x m (sA s, 6, fun i => sB s (i + 1), sK s, sR s, sT s) → FrX (fun b => b = x ∨ b = x + 15) h h' → gr h' x 13 = gr h x 13 → Wj X 0 0 Q 87 [(0, .ref x), (1, .int v)] [] h') (d : Nat) : ∀ (i : Int32) (h' : Hp), 1 ≤ i.toInt → i.toInt + d = 7 → FrX (fun b => b = x + 15) h h' → (∀ j, gr h' (x + 15) j = if j + 1 < ix i then gr h (x + 15) (j + 1) else gr h (x + 15) j) → Wj X 0 0 Q 34 [(0, .ref x), (1, .int v), (2, .ref o), (3, .int i)] [] h' := by
  obtain ⟨F, hm, pt, hd, va, sn, td, tx, sh⟩ := id S
  have xl : x + 17 ≤ hn h := by omega
  have F' : ∀ h', FrX (fun b => b = x + 15) h h' → St9 h' x := fun h' f => St9_ext F (fun b h1 h2 => (f.2 b (by omega)).1) (fun b j h1 h2 h3 => ((f.2 b (by omega)).2 (by omega) j).2.2)
  have s4 : ∀ h' i a, FrX (fun b => b = x + 15) h h' → i < 11 → ptr h x i = some a → St4 h' a := fun h' i a f hi e => by
    obtain ⟨q1, q2, q3, q4⟩ := pt.1 i a hi e
    exact St4_ext q1 (fun b h1 h2 => (f.2 b (by omega)).1) (fun j => ((f.2 a (by omega)).2 (by omega) j).2.2)
  induction d with
  | zero =>
    intro i h' hi hd' f g
    have i6 : ix i = 7 := by unfold ix; omega
    rw [i6] at g
    have x6 : ix (Int32.ofNat 7 - 1) = 6 := by decide
    have b6 : inb (Int32.ofNat 7 - 1) 7 := by unfold inb; decide
    refine V_X9_adopt_34 C ⟨F' h' f, fun _ => ⟨b6, ?_, ?_, ?_⟩, fun q => ?_⟩
    · exact s4 h' 2 o f (by omega) (by rw [show (2 : Nat) = 2 + 0 from rfl, ptr_past _ _ (by omega)]; exact eo)
    · exact St9_ext (F' h' f) (fun b _ _ => ⟨rfl, rfl⟩) (fun b j h1 h2 h3 => by rw [gr_sr, if_neg (by omega)])
    · rw [x6]
      have fb : FrX (fun b => b = x ∨ b = x + 15) h h' := f.mono (fun b _ q => Or.inr q)
      have ff : FrX (fun b => b = x ∨ b = x + 15) h (si (sr h' (x + 15) 6 (some o)) x 10 (Int32.ofNat 7 - 1)) := (fb.sr (Or.inl (Or.inr rfl))).si (Or.inl (Or.inl rfl))
      have xo : ∀ b j, b < hn h → b ≠ x + 15 → gi h' b j = gi h b j ∧ gl h' b j = gl h b j ∧ gr h' b j = gr h b j := fun b j h1 h2 => (f.2 b h1).2 h2 j
      have pp : ∀ i, i < 11 → ptr (si (sr h' (x + 15) 6 (some o)) x 10 (Int32.ofNat 7 - 1)) x i = ptr h x (rt i) := fun i hi => by
        unfold rt
        by_cases a : 2 ≤ i ∧ i < 8
        · rw [if_pos a]
          obtain ⟨j, rfl⟩ : ∃ j, i = 2 + j := ⟨i - 2, by omega⟩
          rw [ptr_past _ _ (by omega), show 2 + j + 1 = 2 + (j + 1) from rfl, ptr_past _ _ (by omega), gr_si, gr_sr, if_neg (by omega), g, if_pos (by omega)]
        · rw [if_neg a]
          by_cases b : i = 8
          · rw [if_pos b, b, show (8 : Nat) = 2 + 6 from rfl, ptr_past _ _ (by omega), show (2 : Nat) = 2 + 0 from rfl, ptr_past _ _ (by omega), gr_si, gr_sr, if_pos ⟨rfl, rfl⟩, eo]
          · rw [if_neg b]
            unfold ptr
            simp only [gr_si, gr_sr]
            by_cases i0 : i = 0
            · rw [if_pos i0, if_pos i0, if_neg (by omega)]; exact (xo x 12 (by omega) (by omega)).2.2
            · rw [if_neg i0, if_neg i0]
              by_cases i1 : i = 1
              · rw [if_pos i1, if_pos i1, if_neg (by omega)]; exact (xo x 13 (by omega) (by omega)).2.2
              · rw [if_neg i1, if_neg i1, if_neg (by omega), if_neg (by omega), if_neg (by omega)]; exact (xo (x + 16) _ (by omega) (by omega)).2.2
      obtain ⟨⟨a', e0, H0⟩, tr, pa, ke⟩ := hd
      have r := S.turn (s' := (sA s, 6, fun i => sB s (i + 1), sK s, sR s, sT s)) ff (fun j hj => by rw [gr_si, gr_sr, if_neg (by omega)]; exact (xo x j (by omega) (by omega)).2.2) rt (fun i hi => rt_lt hi) (fun i j _ _ => rt_inj) pp ⟨by rw [gi_si, if_pos ⟨rfl, rfl⟩]; rfl, by show 6 ≤ 7; omega⟩ ⟨⟨a', e0, H0⟩, tr, fun i hi => ?_, fun i hi => ?_⟩ ⟨va.1, fun i hi => va.2.1 (i + 1) (by have : i < 6 := hi; omega), va.2.2⟩ rfl rfl
      · exact hend _ r.1 ff (by rw [gr_si, gr_sr, if_neg (by omega)]; exact (xo x 13 (by omega) (by omega)).2.2)
      · have hi6 : i < 6 := hi
        have e : rt (2 + i) = 2 + (i + 1) := by unfold rt; rw [if_pos (by omega)]; omega
        show ∃ b, ptr h x (rt (2 + i)) = some b ∧ HdR h b (sB s (i + 1))
        rw [e]
        exact pa (i + 1) (by omega)
      · have e : rt (9 + i) = 9 + i := by unfold rt; rw [if_neg (by omega), if_neg (by omega)]
        show (sK s i = none → ptr h x (rt (9 + i)) = none) ∧ ∀ E, sK s i = some E → ∃ b, ptr h x (rt (9 + i)) = some b ∧ HdR h b E
        rw [e]
        exact ke i hi
    · rw [i32_le, i7n] at q; omega
  | succ d ih =>
    intro i h' hi hd' f g
    obtain ⟨x1, x2⟩ := ix_succ (i := i) (by omega) (by omega)
    have hk := ix_t (i := i) (by omega)
    have him : (i - 1).toInt = i.toInt - 1 := by rw [isub_t] <;> rw [i1_t] <;> omega
    have xm : ix (i - 1) = ix i - 1 := ix_of (by omega)
    obtain ⟨b, eb, Hb⟩ := hd.2.2.1 (ix i) (by omega)
    have eb' : gr h (x + 15) (ix i) = some b := by rw [← ptr_past _ _ (by omega)]; exact eb
    have eb2 : gr h' (x + 15) (ix i) = some b := by rw [g, if_neg (by omega)]; exact eb'
    obtain ⟨n1, n2⟩ := nn_of eb2
    refine V_X9_adopt_34 C ⟨F' h' f, fun q => ?_, fun _ => ⟨⟨by omega, by omega⟩, n1, ⟨by omega, by omega⟩, ?_, ?_⟩⟩
    · rw [i32_le, i7n] at q; omega
    · rw [n2]; exact s4 h' _ b f (by omega) eb
    · rw [n2, xm]
      refine ih _ _ (by omega) (by omega) (f.sr (Or.inl rfl)) (fun j => ?_)
      rw [gr_sr, x1]
      by_cases e : j = ix i - 1
      · rw [if_pos ⟨rfl, e⟩, if_pos (by omega), show j + 1 = ix i by omega, eb']
      · rw [if_neg (fun z => e z.2), g]
        by_cases e2 : j + 1 < ix i
        · rw [if_pos e2, if_pos (by omega)]
        · rw [if_neg e2, if_neg (by omega)]
theorem sp_adopt (S : CSt h x m s) {t : Nat} (et : gr h x 13 = some t) {A' : HV} {v : Int32} (Ht : 0 ≤ v.toInt → HdR h t A') (V' : VA A') : S_X9_adopt l D 9 191 [.ref x, .int v] h (QI fun y h' => y = v ∧ (if 0 ≤ v.toInt then CSt h' x m (pushS s A') else CSt h' x m s) ∧ FrX (inC x m) h h') := Sp.of rfl (Nat.le_of_ble_eq_true rfl) (fun X C _ _ hmc hms => V_X9_adopt_0 C (by
  obtain ⟨F, hm, pt, hd, va, sn, td, tx, sh⟩ := id S
  refine ⟨fun q => ?_, fun q => ⟨F, fun q1 => ⟨fun q2 => ?_, fun q2 => ⟨fun q3 => ?_, fun o q3 => ?_⟩⟩, fun q1 => ?_⟩⟩
  all_goals rw [i32_lt, i0_t] at q
  · exact ⟨v, rfl, rfl, by rw [if_neg (by omega)]; exact S, FrX.rf⟩
  · rw [i32_lt, sn.1, i7n] at q2
    refine ad87 C hmc hms S (by omega) et (Ht (by omega)) V' (fun h' S' f' => ⟨v, rfl, rfl, ?_, f'⟩)
    rw [if_pos (by omega)]
    have e : pushS s A' = (A', sN s + 1, fun i => if i = sN s then sA s else sB s i, sK s, sR s, sT s) := by
      unfold pushS pushN
      have hne : ¬ sN s = 7 := by omega
      have eb : pushB (sN s) (sB s) (sA s) = fun i => if i = sN s then sA s else sB s i := by
        funext i
        unfold pushB
        rw [if_neg hne]
      rw [if_neg hne, eb]
    rw [e]; exact S'
  · exfalso
    rw [i32_lt, sn.1, i7n] at q2
    obtain ⟨b, eb, -⟩ := hd.2.2.1 0 (by omega)
    rw [ptr_past _ _ (by omega)] at eb
    rw [ix_0, eb] at q3
    cases q3
  · rw [i32_lt, sn.1, i7n] at q2
    rw [ix_0] at q3
    refine ad34 C S (by omega) q3 (fun h1 S1 f1 e13 => ?_) 6 1 h (by decide) (by decide) FrX.rf (fun j => ?_)
    · have Ht1 : HdR h1 t A' := (Ht (by omega)).frX f1 (fun c hc => by have := (pt.1 1 t (by omega) et).2.1; unfold inH at hc; omega) (pt.1 1 t (by omega) et).2.2.2
      refine ad87 C hmc hms S1 (by show 6 < 7; omega) (by rw [e13]; exact et) Ht1 V' (fun h' S' f' => ⟨v, rfl, rfl, ?_, (f1.mono (fun b _ q => by unfold inC; omega)).tr f'⟩)
      rw [if_pos (by omega)]
      have e : pushS s A' = (A', 6 + 1, fun i => if i = 6 then sA s else sB s (i + 1), sK s, sR s, sT s) := by
        unfold pushS pushN
        have he : sN s = 7 := by omega
        have eb : pushB (sN s) (sB s) (sA s) = fun i => if i = 6 then sA s else sB s (i + 1) := by
          funext i
          unfold pushB
          rw [if_pos he]
        rw [if_pos he, eb]
      rw [e]; exact S'
    · rw [ix_1, if_neg (by omega)]
  · rw [i32_le, i0_t, sn.1] at q1; omega))
end Adopt3
