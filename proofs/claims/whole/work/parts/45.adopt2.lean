-- what is done is adopted
section Pts
variable {h h' : Hp} {x m : Nat} {p p' : Nat → Option Nat} {s : Sv}
theorem PtsOK.frX {S : Nat → Prop} (H : PtsOK h x m p) (f : FrX S h h') (hs : ∀ i a b, i < 11 → p i = some a → inH a b → ¬ S b) : PtsOK h' x m p := by
  refine ⟨fun i a hi e => ?_, H.2⟩
  obtain ⟨q1, q2, q3, q4⟩ := H.1 i a hi e
  exact ⟨St4_ext q1 (fun b h1 h2 => (f.2 b (by omega)).1) (fun j => ((f.2 a (by omega)).2 (hs i a a hi e ⟨by omega, by omega⟩) j).2.2), q2, q3, by have := f.1; omega⟩
theorem PtsOK.perm (H : PtsOK h x m p) (σ : Nat → Nat) (h1 : ∀ i, i < 11 → σ i < 11) (h2 : ∀ i j, i < 11 → j < 11 → i ≠ j → σ i ≠ σ j) (h3 : ∀ i, i < 11 → p' i = p (σ i)) : PtsOK h x m p' := by
  refine ⟨fun i a hi e => H.1 (σ i) a (h1 i hi) (by rw [← h3 i hi]; exact e), fun i j a b hi hj hij e1 e2 => H.2 (σ i) (σ j) a b (h1 i hi) (h1 j hj) (h2 i j hi hj hij) (by rw [← h3 i hi]; exact e1) (by rw [← h3 j hj]; exact e2)⟩
theorem PtsOK.add (H : PtsOK h x m p) {k c z : Nat} (hc : St4 h c) (hx : x + 17 ≤ c) (hm : m + 18 ≤ c) (hl : c + 9 ≤ hn h) (hz : ∀ i a, i < 11 → p i = some a → a + 9 ≤ z) (hzc : z ≤ c) : PtsOK h x m (fun i => if i = k then some c else p i) := by
  refine ⟨fun i a hi e => ?_, fun i j a b hi hj hij e1 e2 => ?_⟩
  · dsimp only at e
    by_cases q : i = k
    · rw [if_pos q] at e
      cases e
      exact ⟨hc, hx, Or.inr hm, hl⟩
    · rw [if_neg q] at e
      exact H.1 i a hi e
  · dsimp only at e1 e2
    by_cases q1 : i = k
    · rw [if_pos q1] at e1
      rw [if_neg (by omega)] at e2
      cases e1
      have := hz j b hj e2
      omega
    · rw [if_neg q1] at e1
      by_cases q2 : j = k
      · rw [if_pos q2] at e2
        cases e2
        have := hz i a hi e1
        omega
      · rw [if_neg q2] at e2
        exact H.2 i j a b hi hj hij e1 e2
theorem ptr_kept {h h' : Hp} (e : ∀ j, gr h' (x + 16) j = gr h (x + 16) j) (i : Nat) : ptr h' x (9 + i) = ptr h x (9 + i) := by
  unfold ptr
  rw [if_neg (by omega), if_neg (by omega), if_neg (by omega), if_neg (by omega), if_neg (by omega), if_neg (by omega), e]
theorem ptr_past (h : Hp) (x : Nat) {i : Nat} (hi : i < 7) : ptr h x (2 + i) = gr h (x + 15) i := by
  unfold ptr
  rw [if_neg (by omega), if_neg (by omega), if_pos (by omega), Nat.add_sub_cancel_left]
/-- the way round: trial becomes now, now goes to what can be undone, the spare becomes trial -/
def sg (n i : Nat) : Nat := if i = 0 then 1 else if i = 1 then 2 + n else if i = 2 + n then 0 else i
theorem sg_lt {n i : Nat} (hn : n < 7) (hi : i < 11) : sg n i < 11 := by
  unfold sg
  by_cases a0 : i = 0
  · rw [if_pos a0]; omega
  · rw [if_neg a0]
    by_cases a1 : i = 1
    · rw [if_pos a1]; omega
    · rw [if_neg a1]
      by_cases a2 : i = 2 + n
      · rw [if_pos a2]; omega
      · rw [if_neg a2]; exact hi
theorem sg_inj {n i j : Nat} (hij : i ≠ j) : sg n i ≠ sg n j := by
  unfold sg
  by_cases a0 : i = 0
  · rw [if_pos a0]
    by_cases b0 : j = 0
    · omega
    · rw [if_neg b0]
      by_cases b1 : j = 1
      · rw [if_pos b1]; omega
      · rw [if_neg b1]
        by_cases b2 : j = 2 + n
        · rw [if_pos b2]; omega
        · rw [if_neg b2]; omega
  · rw [if_neg a0]
    by_cases a1 : i = 1
    · rw [if_pos a1]
      by_cases b0 : j = 0
      · rw [if_pos b0]; omega
      · rw [if_neg b0, if_neg (by omega)]
        by_cases b2 : j = 2 + n
        · rw [if_pos b2]; omega
        · rw [if_neg b2]; omega
    · rw [if_neg a1]
      by_cases a2 : i = 2 + n
      · rw [if_pos a2]
        by_cases b0 : j = 0
        · rw [if_pos b0]; omega
        · rw [if_neg b0]
          by_cases b1 : j = 1
          · rw [if_pos b1]; omega
          · rw [if_neg b1, if_neg (by omega)]; omega
      · rw [if_neg a2]
        by_cases b0 : j = 0
        · rw [if_pos b0]; omega
        · rw [if_neg b0]
          by_cases b1 : j = 1
          · rw [if_pos b1]; omega
          · rw [if_neg b1]
            by_cases b2 : j = 2 + n
            · rw [if_pos b2]; omega
            · rw [if_neg b2]; omega
end Pts
section Adopt
variable {X : Ctx} {l : Launch} {D : Dt} {h : Hp} {x m : Nat} {s : Sv} {Q : Pq}
theorem nn_of {h : Hp} {a f b : Nat} (e : gr h a f = some b) : nn h a f ∧ gp h a f = b := by
  unfold nn gp
  rw [e]
  exact ⟨rfl, rfl⟩
/-- the end of it, whatever the spare is -/
theorem ad_fin (S : CSt h x m s) (hn7 : sN s < 7) {a t c : Nat} (ea : gr h x 12 = some a) (et : gr h x 13 = some t) {A' : HV} (Ht : HdR h t A') (V' : VA A') {h' : Hp} (f : FrX (fun b => b = x ∨ b = x + 15) h h') (g10 : (gi h' x 10).toInt = sN s + 1) (gx : ∀ j, j < 10 ∨ j = 14 → gr h' x j = gr h x j) (g12 : gr h' x 12 = some t) (g13 : gr h' x 13 = some c) (gp : ∀ j, gr h' (x + 15) j = if j = sN s then some a else gr h (x + 15) j)
    (hc : ptr h x (2 + sN s) = some c ∨ (hn h ≤ c ∧ St4 h' c ∧ c + 9 ≤ hn h')) : CSt h' x m (A', sN s + 1, fun i => if i = sN s then sA s else sB s i, sK s, sR s, sT s) ∧ FrX (inC x m) h h' := by
  obtain ⟨F, hm, pt, hd, va, sn, td, tx, sh⟩ := id S
  have xl : x + 17 ≤ hn h := by omega
  have nS : ∀ i a b, i < 11 → ptr h x i = some a → inH a b → ¬ (b = x ∨ b = x + 15) := fun i a b hi e hb => by
    have := (pt.1 i a hi e).2.1
    unfold inH at hb
    omega
  have oth : ∀ b j, b < hn h → b ≠ x → b ≠ x + 15 → gi h' b j = gi h b j ∧ gl h' b j = gl h b j ∧ gr h' b j = gr h b j := fun b j h1 h2 h3 => (f.2 b h1).2 (by omega) j
  have pt' := pt.frX f nS
  have k16 : ∀ j, gr h' (x + 16) j = gr h (x + 16) j := fun j => (oth (x + 16) j (by omega) (by omega) (by omega)).2.2
  -- the pointers as they now are
  have pp : ∀ i, i < 11 → ptr h' x i = if i = 0 then some t else if i = 1 then some c else if i = 2 + sN s then some a else ptr h x i := fun i hi => by
    unfold ptr
    by_cases i0 : i = 0
    · rw [if_pos i0, if_pos i0]; exact g12
    · rw [if_neg i0, if_neg i0]
      by_cases i1 : i = 1
      · rw [if_pos i1, if_pos i1]; exact g13
      · rw [if_neg i1, if_neg i1]
        by_cases i9 : i < 9
        · rw [if_pos i9, gp]
          by_cases i2 : i = 2 + sN s
          · rw [if_pos i2, if_pos (by omega)]
          · rw [if_neg i2, if_neg (by omega), if_neg i0, if_neg i1, if_pos i9]
        · rw [if_neg i9, k16, if_neg (by omega), if_neg i0, if_neg i1, if_neg i9]
  have P' : PtsOK h' x m (ptr h' x) := by
    rcases hc with hc | ⟨c1, c2, c3⟩
    · refine pt'.perm (sg (sN s)) (fun i hi => sg_lt hn7 hi) (fun i j _ _ => sg_inj) (fun i hi => ?_)
      rw [pp i hi]
      unfold sg
      by_cases i0 : i = 0
      · rw [if_pos i0, if_pos i0]; exact et.symm
      · rw [if_neg i0, if_neg i0]
        by_cases i1 : i = 1
        · rw [if_pos i1, if_pos i1]; exact hc.symm
        · rw [if_neg i1, if_neg i1]
          by_cases i2 : i = 2 + sN s
          · rw [if_pos i2, if_pos i2]; exact ea.symm
          · rw [if_neg i2, if_neg i2]
    · have pa := pt'.add (k := 2 + sN s) (c := c) (z := hn h) c2 (by omega) (by omega) c3 (fun i a hi e => (pt.1 i a hi e).2.2.2) c1
      refine pa.perm (sg (sN s)) (fun i hi => sg_lt hn7 hi) (fun i j _ _ => sg_inj) (fun i hi => ?_)
      rw [pp i hi]
      unfold sg
      by_cases i0 : i = 0
      · rw [if_pos i0, if_pos i0, if_neg (by omega)]; exact et.symm
      · rw [if_neg i0, if_neg i0]
        by_cases i1 : i = 1
        · rw [if_pos i1, if_pos i1, if_pos rfl]
        · rw [if_neg i1, if_neg i1]
          by_cases i2 : i = 2 + sN s
          · rw [if_pos i2, if_pos i2, if_neg (by omega)]; exact ea.symm
          · rw [if_neg i2, if_neg i2, if_neg i2]
  have hf : ∀ {b : Nat} {A : HV} {i : Nat}, i < 11 → ptr h x i = some b → HdR h b A → HdR h' b A := fun {b A i} hi he H => H.frX f (fun c hc => nS i b c hi he hc) (pt.1 i b hi he).2.2.2
  obtain ⟨⟨a', e0, H0⟩, tr, pa, ke⟩ := hd
  have ea' : a' = a := by
    have e0' : gr h x 12 = some a' := e0
    rw [ea] at e0'
    cases e0'; rfl
  subst ea'
  refine ⟨⟨St9_ext F (fun b h1 h2 => (f.2 b (by omega)).1) (fun b j h1 h2 h3 => ?_), ⟨hm.1, by have := f.1; omega, hm.2.2.fx f (fun (q : 0 = x ∨ 0 = x + 15) => by have := hm.2.2.1; omega) (by omega) (gx 14 (Or.inr rfl))⟩, P', ⟨⟨t, by rw [pp 0 (by omega), if_pos rfl], hf (i := 1) (by omega) et Ht⟩, ⟨c, by rw [pp 1 (by omega), if_neg (by omega), if_pos rfl]⟩, fun i hi => ?_, fun i hi => ⟨fun q => ?_, fun E q => ?_⟩⟩, ⟨V', fun i hi => ?_, va.2.2⟩, ⟨g10, by show sN s + 1 ≤ 7; omega⟩, ?_, ?_, fun z ez => ?_⟩, f.mono (fun b _ q => by unfold inC; omega)⟩
  · by_cases q : b = x
    · subst q; exact gx j (Or.inl (h3 rfl))
    · exact (oth b j (by omega) q (by omega)).2.2
  · have hi' : i < sN s + 1 := hi
    show ∃ b, ptr h' x (2 + i) = some b ∧ HdR h' b (if i = sN s then sA s else sB s i)
    rw [pp _ (by omega), if_neg (by omega), if_neg (by omega)]
    by_cases q : i = sN s
    · rw [if_pos (by omega), if_pos q]
      exact ⟨a', rfl, hf (i := 0) (by omega) e0 H0⟩
    · rw [if_neg (by omega), if_neg q]
      obtain ⟨b, e2, H2⟩ := pa i (by omega)
      exact ⟨b, e2, hf (i := 2 + i) (by omega) e2 H2⟩
  · rw [ptr_kept k16]; exact (ke i hi).1 q
  · rw [ptr_kept k16]
    obtain ⟨b, e2, H2⟩ := (ke i hi).2 E q
    exact ⟨b, e2, hf (i := 9 + i) (by omega) e2 H2⟩
  · have hi' : i < sN s + 1 := hi
    show VA (if i = sN s then sA s else sB s i)
    by_cases q : i = sN s
    · rw [if_pos q]; exact va.1
    · rw [if_neg q]; exact va.2.1 i (by omega)
  · unfold TdC at *
    rw [(oth (x + 3) 1 (by omega) (by omega) (by omega)).1]
    exact ⟨td.1, td.2.1, fun i hi => by rw [(oth (x + 3 + 1) i (by omega) (by omega) (by omega)).2.1]; exact td.2.2 i hi⟩
  · unfold TxC at *
    rw [(oth (x + 1) 1 (by omega) (by omega) (by omega)).1]
    exact ⟨tx.1, tx.2.1, fun i hi => by rw [(oth (x + 1 + 1) i (by omega) (by omega) (by omega)).1]; exact tx.2.2 i hi⟩
  · rw [gx 14 (Or.inr rfl)] at ez
    obtain ⟨q1, q2, q3, q4⟩ := sh z ez
    refine ⟨q1.frX f (fun b h1 h2 q => by omega) q3, q2, by have := f.1; omega, fun i b hi e => ?_⟩
    rw [pp i hi] at e
    by_cases i0 : i = 0
    · rw [if_pos i0] at e; cases e; exact q4 1 _ (by omega) et
    · rw [if_neg i0] at e
      by_cases i1 : i = 1
      · rw [if_pos i1] at e
        cases e
        rcases hc with hc | ⟨c1, -⟩
        · exact q4 _ _ (by omega) hc
        · right; omega
      · rw [if_neg i1] at e
        by_cases i2 : i = 2 + sN s
        · rw [if_pos i2] at e; cases e; exact q4 0 _ (by omega) ea
        · rw [if_neg i2] at e; exact q4 i b hi e
theorem ad87 (C : C_X9_adopt X) (hmc : mcX X = 9) (hms : msX X = 191) (S : CSt h x m s) (hn7 : sN s < 7) {t : Nat} (et : gr h x 13 = some t) {A' : HV} (Ht : HdR h t A') (V' : VA A') {v : Int32} (hq : ∀ h', CSt h' x m (A', sN s + 1, fun i => if i = sN s then sA s else sB s i, sK s, sR s, sT s) → FrX (inC x m) h h' → Q (some (.int v)) h') : Wj X 0 0 Q 87 [(0, .ref x), (1, .int v)] [] h := by
  obtain ⟨F, hm, pt, hd, va, sn, td, tx, sh⟩ := id S
  obtain ⟨a, ea, Ha, -⟩ := S.now
  obtain ⟨n12, g12⟩ := nn_of ea
  have ei : ix (gi h x 10) = sN s := by unfold ix; rw [sn.1]; omega
  have ib : inb (gi h x 10) 7 := ⟨by rw [sn.1]; omega, by rw [sn.1]; omega⟩
  have e10 : (gi h x 10 + 1).toInt = sN s + 1 := by rw [iadd_t] <;> rw [i1_t, sn.1] <;> omega
  have F1 : ∀ k, St9 (sr h (x + 15) k (some a)) x := fun k => St9_ext F (fun b _ _ => ⟨rfl, rfl⟩) (fun b j h1 h2 h3 => by rw [gr_sr, if_neg (by omega)])
  have t1 : ∀ k, gr (sr h (x + 15) k (some a)) x 13 = some t := fun k => by rw [gr_sr, if_neg (by omega)]; exact et
  have H12 := (S.2.2.1.1 0 a (by omega) ea).1
  -- both ways end alike
  have fin : ∀ (h1 h3 : Hp) (c : Nat), h1 = sr (si (sr h (x + 15) (sN s) (some a)) x 10 (gi h x 10 + 1)) x 12 (some t) → FrX (fun _ => False) h1 h3 → (ptr h x (2 + sN s) = some c ∨ (hn h ≤ c ∧ St4 h3 c ∧ c + 9 ≤ hn h3)) → Q (some (.int v)) (sr h3 x 13 (some c)) := by
    intro h1 h3 c e1 f13 hc
    have f1 : FrX (fun b => b = x ∨ b = x + 15) h h1 := by
      rw [e1]
      exact ((FrX.rf.sr (Or.inl (Or.inr rfl))).si (Or.inl (Or.inl rfl))).sr (Or.inl (Or.inl rfl))
    have f' : FrX (fun b => b = x ∨ b = x + 15) h (sr h3 x 13 (some c)) := (f1.tr (f13.mono (fun _ _ q => absurd q id))).sr (Or.inl (Or.inl rfl))
    have s3 : ∀ b j, b < hn h → gi h3 b j = gi h1 b j ∧ gl h3 b j = gl h1 b j ∧ gr h3 b j = gr h1 b j := fun b j hb => (f13.2 b (by have := f1.1; omega)).2 id j
    have r := ad_fin (h' := sr h3 x 13 (some c)) S hn7 ea et Ht V' f' ?_ (fun j hj => ?_) ?_ ?_ (fun j => ?_) (c := c) ?_
    · exact hq _ r.1 r.2
    · rw [gi_sr, (s3 x 10 (by omega)).1, e1, gi_sr, gi_si, if_pos ⟨rfl, rfl⟩]; exact e10
    · rw [gr_sr, if_neg (by omega), (s3 x j (by omega)).2.2, e1, gr_sr, if_neg (by omega), gr_si, gr_sr, if_neg (by omega)]
    · rw [gr_sr, if_neg (by omega), (s3 x 12 (by omega)).2.2, e1, gr_sr, if_pos ⟨rfl, rfl⟩]
    · rw [gr_sr, if_pos ⟨rfl, rfl⟩]
    · rw [gr_sr, if_neg (by omega), (s3 (x + 15) j (by omega)).2.2, e1, gr_sr, if_neg (by omega), gr_si, gr_sr]
      by_cases q : j = sN s
      · rw [if_pos ⟨rfl, q⟩, if_pos q]
      · rw [if_neg (fun z => q z.2), if_neg q]
    · rcases hc with hc | ⟨c1, c2, c3⟩
      · exact Or.inl hc
      · refine Or.inr ⟨c1, St4_ext c2 (fun _ _ _ => ⟨rfl, rfl⟩) (fun j => ?_), c3⟩
        rw [gr_sr, if_neg (by omega)]
  refine V_X9_adopt_87 C ⟨F, ib, ?_⟩
  rw [ei, g12]
  obtain ⟨n13, g13⟩ := nn_of (t1 (sN s))
  rw [g13]
  have F2 : St9 (sr (si (sr h (x + 15) (sN s) (some a)) x 10 (gi h x 10 + 1)) x 12 (some t)) x := St9_ext (F1 (sN s)) (fun b _ _ => ⟨rfl, rfl⟩) (fun b j h1 h2 h3 => by rw [gr_sr, if_neg (by omega)]; rfl)
  refine ⟨fun _ => ⟨n12, H12, F1 _, n13, ?_⟩, fun b hb => ⟨n12, H12, F1 _, n13, ?_⟩⟩
  · refine V_X9_adopt_128N C ⟨by omega, by omega, 8, 174, by omega, by omega, sp_init4.mono (fun w h3 hp => ?_)⟩
    obtain ⟨rfl, H3, n3, f3⟩ := hp
    refine ⟨rfl, ?_, ?_⟩
    · refine St9_ext F2 (fun b h1 h2 => (f3.2 b (by show b < hn h; omega)).1) (fun b j h1 h2 h3 => ((f3.2 b (by show b < hn h; omega)).2 id j).2.2)
    · exact fin _ h3 (hn h) rfl f3 (Or.inr ⟨Nat.le_refl _, H3.1, by rw [n3]; exact Nat.le_refl _⟩)
  · exact V_X9_adopt_128 C ⟨F2, fin _ _ b rfl FrX.rf (Or.inl (by rw [ptr_past _ _ hn7]; exact hb))⟩
end Adopt
