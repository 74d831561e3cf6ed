-- what the class holds as one value
-- trains by their number: two gears 12 a + b, four 144 + ((a 12 + b) 12 + c) 12 + d
def tA (t : Nat) : Nat := if t < 144 then t / 12 else (t - 144) / 1728
def tB (t : Nat) : Nat := if t < 144 then t % 12 else (t - 144) / 144 % 12
def tC (t : Nat) : Nat := (t - 144) / 12 % 12
def tD (t : Nat) : Nat := (t - 144) % 12
def tOk (g t : Nat) : Prop := t < 20880 ∧ tA t < g ∧ tB t < g ∧ tA t ≠ tB t ∧ (144 ≤ t → tC t < g ∧ tD t < g ∧ tA t < tC t ∧ tB t < tD t ∧ tC t ≠ tB t ∧ tD t ≠ tA t ∧ tD t ≠ tC t)
def tU (te : Nat → Int) (t : Nat) : Int := if t < 144 then te (tA t) else te (tA t) * te (tC t)
def tL (te : Nat → Int) (t : Nat) : Int := if t < 144 then te (tB t) else te (tB t) * te (tD t)
def tP (t : Nat) : Int := if t < 144 then tA t + 16 * tB t + 65280 else tA t + 16 * tB t + 256 * tC t + 4096 * tD t
def hsh (u w : Int) : Nat := ix (iushr (Int32.ofInt u * (-1640531535) + Int32.ofInt w * (-2048144789)) 19)
def cntNz (f : Nat → Int) : Nat → Nat
  | 0 => 0
  | n + 1 => cntNz f n + if f n = 0 then 0 else 1
/-- the shelf has the ratios of all trains below number K -/
def SHP (g : Nat) (te : Nat → Int) (K n : Nat) (u w p sl : Nat → Int) : Prop :=
  n ≤ 3102 ∧ (∀ e, e < n → ∃ t, t < K ∧ tOk g t ∧ u e = rdU (tU te t) (tL te t) ∧ w e = rdL (tU te t) (tL te t) ∧ p e = tP t ∧ ∀ t', t' < t → tOk g t' → ¬ (rdU (tU te t') (tL te t') = u e ∧ rdL (tU te t') (tL te t') = w e)) ∧
  (∀ t, t < K → tOk g t → ∃ e, e < n ∧ u e = rdU (tU te t) (tL te t) ∧ w e = rdL (tU te t) (tL te t)) ∧
  (∀ e e', e < n → e' < n → u e = u e' → w e = w e' → e = e') ∧
  (∀ e, e < n → ∃ d, d < 8192 ∧ sl ((hsh (u e) (w e) + d) % 8192) = e + 1 ∧ ∀ d', d' < d → sl ((hsh (u e) (w e) + d') % 8192) ≠ 0) ∧
  (∀ i, i < 8192 → 0 ≤ sl i ∧ sl i ≤ n) ∧ cntNz sl 8192 = n
def gf (h : Hp) (b k : Nat) : Int := (gi h b k).toInt
/-- a shelf that fits some gears -/
def ShOK (h : Hp) (sh : Nat) : Prop := St5 h sh ∧ ∃ (g n : Nat), g ≤ 12 ∧ gf h sh 1 = g ∧ gf h sh 0 = n ∧ (∀ k, k < 12 → (k < g → 20 ≤ gf h (sh + 1) k ∧ gf h (sh + 1) k ≤ 100) ∧ (g ≤ k → gf h (sh + 1) k = 0)) ∧ SHP g (gf h (sh + 1)) 20880 n (gf h (sh + 2)) (gf h (sh + 3)) (gf h (sh + 4)) (gf h (sh + 5))
/-- more cells may be there; of the old ones only those of S have changed -/
def FrX (S : Nat → Prop) (h h' : Hp) : Prop := hn h ≤ hn h' ∧ ∀ b, b < hn h → (kd h' b = kd h b ∧ ln h' b = ln h b) ∧ (¬ S b → ∀ j, gi h' b j = gi h b j ∧ gl h' b j = gl h b j ∧ gr h' b j = gr h b j)
section FrXs
variable {S T : Nat → Prop} {h h' h1 h2 : Hp}
theorem FrX.rf : FrX S h h := ⟨Nat.le_refl _, fun _ _ => ⟨⟨rfl, rfl⟩, fun _ _ => ⟨rfl, rfl, rfl⟩⟩⟩
theorem FrX.tr (f : FrX S h h1) (g : FrX S h1 h2) : FrX S h h2 := by
  obtain ⟨f1, f2⟩ := f
  obtain ⟨g1, g2⟩ := g
  refine ⟨Nat.le_trans f1 g1, fun b hb => ?_⟩
  obtain ⟨⟨a1, a2⟩, a3⟩ := f2 b hb
  obtain ⟨⟨c1, c2⟩, c3⟩ := g2 b (by omega)
  exact ⟨⟨c1.trans a1, c2.trans a2⟩, fun q j => ⟨(c3 q j).1.trans (a3 q j).1, (c3 q j).2.1.trans (a3 q j).2.1, (c3 q j).2.2.trans (a3 q j).2.2⟩⟩
theorem FrX.mono (f : FrX S h h') (st : ∀ b, b < hn h → S b → T b) : FrX T h h' := ⟨f.1, fun b hb => ⟨(f.2 b hb).1, fun q => (f.2 b hb).2 (fun z => q (st b hb z))⟩⟩
theorem FrO.x (f : FrO S h h') : FrX S h h' := by
  obtain ⟨f1, f2, f3, f4, f5⟩ := f
  exact ⟨by omega, fun b _ => ⟨⟨by rw [f2], by rw [f3]⟩, fun q j => ⟨(f5 b q j).1, (f5 b q j).2, by rw [f4]⟩⟩⟩
theorem FrO.w (f : FrO S h h') : FrW (fun b _ => S b) (fun b _ => S b) h h' := ⟨f.1, f.2.1, f.2.2.1, f.2.2.2.1, fun b j q => (f.2.2.2.2 b q j).1, fun b j q => (f.2.2.2.2 b q j).2⟩
theorem FrW.x {P R : Nat → Nat → Prop} (f : FrW P R h h') (p : ∀ b j, P b j → S b) (r : ∀ b j, R b j → S b) : FrX S h h' := by
  obtain ⟨f1, f2, f3, f4, f5, f6⟩ := f
  exact ⟨by omega, fun b _ => ⟨⟨by rw [f2], by rw [f3]⟩, fun q j => ⟨f5 b j (fun z => q (p b j z)), f6 b j (fun z => q (r b j z)), by rw [f4]⟩⟩⟩
theorem FrX.si (f : FrX S h h') {a k : Nat} {v : Int32} (ha : S a ∨ hn h ≤ a) : FrX S h (si h' a k v) := ⟨f.1, fun b hb => ⟨(f.2 b hb).1, fun q j => ⟨by
  have hne : b ≠ a := fun e => by rcases ha with z | z; exact q (by rw [e]; exact z); omega
  rw [gi_si, if_neg (fun z => hne z.1)]; exact ((f.2 b hb).2 q j).1, ((f.2 b hb).2 q j).2.1, ((f.2 b hb).2 q j).2.2⟩⟩⟩
theorem FrX.sl (f : FrX S h h') {a k : Nat} {v : Int64} (ha : S a ∨ hn h ≤ a) : FrX S h (sl h' a k v) := ⟨f.1, fun b hb => ⟨(f.2 b hb).1, fun q j => ⟨((f.2 b hb).2 q j).1, by
  have hne : b ≠ a := fun e => by rcases ha with z | z; exact q (by rw [e]; exact z); omega
  rw [gl_sl, if_neg (fun z => hne z.1)]; exact ((f.2 b hb).2 q j).2.1, ((f.2 b hb).2 q j).2.2⟩⟩⟩
theorem FrX.sr (f : FrX S h h') {a k : Nat} {v : Option Nat} (ha : S a ∨ hn h ≤ a) : FrX S h (sr h' a k v) := ⟨f.1, fun b hb => ⟨(f.2 b hb).1, fun q j => ⟨((f.2 b hb).2 q j).1, ((f.2 b hb).2 q j).2.1, by
  have hne : b ≠ a := fun e => by rcases ha with z | z; exact q (by rw [e]; exact z); omega
  rw [gr_sr, if_neg (fun z => hne z.1)]; exact ((f.2 b hb).2 q j).2.2⟩⟩⟩
theorem FrX.nw (f : FrX S h h') {kk len : Nat} : FrX S h (nw h' kk len) := by
  obtain ⟨f1, f2⟩ := f
  refine ⟨by rw [hn_nw]; omega, fun b hb => ?_⟩
  have hne : ¬ b = hn h' := by omega
  obtain ⟨⟨a1, a2⟩, a3⟩ := f2 b hb
  refine ⟨⟨by rw [kd_nw, if_neg hne]; exact a1, by rw [ln_nw, if_neg hne]; exact a2⟩, fun q j => ?_⟩
  rw [gi_nw, if_neg hne, gl_nw, if_neg hne, gr_nw, if_neg hne]
  exact a3 q j
end FrXs
theorem St4_ext {h h' : Hp} {a : Nat} (F : St4 h a) (e : ∀ b, a ≤ b → b < a + 9 → kd h' b = kd h b ∧ ln h' b = ln h b) (eg : ∀ j, gr h' a j = gr h a j) : St4 h' a := by
  unfold St4 at *
  simp only [eg, (e a (by omega) (by omega)).1, (e (a + 1) (by omega) (by omega)).1, (e (a + 2) (by omega) (by omega)).1, (e (a + 3) (by omega) (by omega)).1, (e (a + 4) (by omega) (by omega)).1, (e (a + 5) (by omega) (by omega)).1, (e (a + 6) (by omega) (by omega)).1, (e (a + 7) (by omega) (by omega)).1, (e (a + 8) (by omega) (by omega)).1, (e (a + 4) (by omega) (by omega)).2, (e (a + 5) (by omega) (by omega)).2, (e (a + 6) (by omega) (by omega)).2, (e (a + 7) (by omega) (by omega)).2, (e (a + 8) (by omega) (by omega)).2]
  exact F
theorem St5_ext {h h' : Hp} {a : Nat} (F : St5 h a) (e : ∀ b, a ≤ b → b < a + 6 → kd h' b = kd h b ∧ ln h' b = ln h b) (eg : ∀ j, gr h' a j = gr h a j) : St5 h' a := by
  unfold St5 at *
  simp only [eg, (e a (by omega) (by omega)).1, (e (a + 1) (by omega) (by omega)).1, (e (a + 2) (by omega) (by omega)).1, (e (a + 3) (by omega) (by omega)).1, (e (a + 4) (by omega) (by omega)).1, (e (a + 5) (by omega) (by omega)).1, (e (a + 1) (by omega) (by omega)).2, (e (a + 2) (by omega) (by omega)).2, (e (a + 3) (by omega) (by omega)).2, (e (a + 4) (by omega) (by omega)).2, (e (a + 5) (by omega) (by omega)).2]
  exact F
theorem St7_ext {h h' : Hp} {a : Nat} (F : St7 h a) (e : ∀ b, a ≤ b → b < a + 2 → kd h' b = kd h b ∧ ln h' b = ln h b) (eg : ∀ j, gr h' a j = gr h a j) : St7 h' a := by
  unfold St7 at *
  rw [eg, (e a (by omega) (by omega)).1, (e (a + 1) (by omega) (by omega)).1, (e (a + 1) (by omega) (by omega)).2]
  exact F
theorem St8_ext {h h' : Hp} {a : Nat} (F : St8 h a) (e : ∀ b, a ≤ b → b < a + 2 → kd h' b = kd h b ∧ ln h' b = ln h b) (eg : ∀ j, gr h' a j = gr h a j) : St8 h' a := by
  unfold St8 at *
  rw [eg, (e a (by omega) (by omega)).1, (e (a + 1) (by omega) (by omega)).1, (e (a + 1) (by omega) (by omega)).2]
  exact F
theorem St1_ext {h h' : Hp} {a : Nat} (F : St1 h a) (e : ∀ b, a ≤ b → b < a + 2 → kd h' b = kd h b ∧ ln h' b = ln h b) (eg : ∀ j, gr h' a j = gr h a j) : St1 h' a := by
  unfold St1 at *
  rw [eg, (e a (by omega) (by omega)).1, (e (a + 1) (by omega) (by omega)).1]
  exact F
theorem St3_ext {h h' : Hp} {a : Nat} (F : St3 h a) (e : ∀ b, a ≤ b → b < a + 4 → kd h' b = kd h b ∧ ln h' b = ln h b) (eg : ∀ j, gr h' a j = gr h a j) : St3 h' a := by
  unfold St3 at *
  rw [eg, eg, eg, (e a (by omega) (by omega)).1, (e (a + 1) (by omega) (by omega)).1, (e (a + 2) (by omega) (by omega)).1, (e (a + 2) (by omega) (by omega)).2, (e (a + 3) (by omega) (by omega)).1, (e (a + 3) (by omega) (by omega)).2]
  exact F
theorem St9_ext {h h' : Hp} {x : Nat} (F : St9 h x) (e : ∀ b, x ≤ b → b < x + 17 → kd h' b = kd h b ∧ ln h' b = ln h b) (eg : ∀ b j, x ≤ b → b < x + 15 → (b = x → j < 10) → gr h' b j = gr h b j) : St9 h' x :=
  ⟨by rw [(e x (by omega) (by omega)).1]; exact St9_k F,
   by rw [eg _ _ (by omega) (by omega) (by omega)]; exact St9_r0 F, St7_ext (St9_s0 F) (fun b h1 h2 => e b (by omega) (by omega)) (fun j => eg _ j (by omega) (by omega) (by omega)),
   by rw [eg _ _ (by omega) (by omega) (by omega)]; exact St9_r1 F, St8_ext (St9_s1 F) (fun b h1 h2 => e b (by omega) (by omega)) (fun j => eg _ j (by omega) (by omega) (by omega)),
   by rw [eg _ _ (by omega) (by omega) (by omega)]; exact St9_r2 F, by rw [(e _ (by omega) (by omega)).1]; exact St9_k2 F,
   by rw [eg _ _ (by omega) (by omega) (by omega)]; exact St9_r3 F, by rw [(e _ (by omega) (by omega)).1]; exact St9_k3 F,
   by rw [eg _ _ (by omega) (by omega) (by omega)]; exact St9_r4 F, St1_ext (St9_s4 F) (fun b h1 h2 => e b (by omega) (by omega)) (fun j => eg _ j (by omega) (by omega) (by omega)),
   by rw [eg _ _ (by omega) (by omega) (by omega)]; exact St9_r5 F, St3_ext (St9_s5 F) (fun b h1 h2 => e b (by omega) (by omega)) (fun j => eg _ j (by omega) (by omega) (by omega)),
   by rw [eg _ _ (by omega) (by omega) (by omega)]; exact St9_r6 F, by rw [(e _ (by omega) (by omega)).1]; exact St9_k6 F,
   by rw [eg _ _ (by omega) (by omega) (by omega)]; exact St9_r7 F, by rw [(e _ (by omega) (by omega)).1]; exact St9_k7 F,
   by rw [eg _ _ (by omega) (by omega) (by omega)]; exact St9_r8 F, by rw [(e _ (by omega) (by omega)).1]; exact St9_k8 F, by rw [(e _ (by omega) (by omega)).2]; exact St9_l8 F,
   by rw [eg _ _ (by omega) (by omega) (by omega)]; exact St9_r9 F, by rw [(e _ (by omega) (by omega)).1]; exact St9_k9 F, by rw [(e _ (by omega) (by omega)).2]; exact St9_l9 F⟩
theorem HdR.frX {S : Nat → Prop} {h h' : Hp} {a : Nat} {A : HV} (H : HdR h a A) (f : FrX S h h') (hs : ∀ b, inH a b → ¬ S b) (hl : a + 9 ≤ hn h) : HdR h' a A := by
  obtain ⟨H0, H1, H2, H3, H4, H5, H6, H7, H8, H9⟩ := H
  have g : ∀ b, a ≤ b → b < a + 9 → ∀ j, gi h' b j = gi h b j ∧ gl h' b j = gl h b j := fun b h1 h2 j => ⟨((f.2 b (by omega)).2 (hs b ⟨h1, h2⟩) j).1, ((f.2 b (by omega)).2 (hs b ⟨h1, h2⟩) j).2.1⟩
  refine ⟨St4_ext H0 (fun b h1 h2 => (f.2 b (by omega)).1) (fun j => ((f.2 a (by omega)).2 (hs a ⟨by omega, by omega⟩) j).2.2), fun i hi => ?_, ?_, ?_, ?_, ?_, ?_, fun k hk => ⟨?_, ?_⟩, fun k hk => ?_, fun k hk => ⟨?_, ?_⟩⟩
  · rw [(g a (by omega) (by omega) i).1]; exact H1 i hi
  · rw [(g a (by omega) (by omega) _).1]; exact H2
  · rw [(g (a + 1) (by omega) (by omega) _).2]; exact H3
  · rw [(g (a + 1) (by omega) (by omega) _).2]; exact H4
  · rw [(g (a + 2) (by omega) (by omega) _).2]; exact H5
  · rw [(g (a + 2) (by omega) (by omega) _).2]; exact H6
  · rw [(g (a + 4) (by omega) (by omega) _).1]; exact (H7 k hk).1
  · rw [(g (a + 5) (by omega) (by omega) _).1]; exact (H7 k hk).2
  · rw [(g (a + 6) (by omega) (by omega) _).1]; exact H8 k hk
  · rw [(g (a + 7) (by omega) (by omega) _).2]; exact (H9 k hk).1
  · rw [(g (a + 8) (by omega) (by omega) _).2]; exact (H9 k hk).2
theorem ShOK.frX {S : Nat → Prop} {h h' : Hp} {a : Nat} (H : ShOK h a) (f : FrX S h h') (hs : ∀ b, a ≤ b → b < a + 6 → ¬ S b) (hl : a + 6 ≤ hn h) : ShOK h' a := by
  obtain ⟨H0, H1⟩ := H
  have g : ∀ b, a ≤ b → b < a + 6 → gf h' b = gf h b := fun b h1 h2 => by
    funext j
    unfold gf
    rw [((f.2 b (by omega)).2 (hs b h1 h2) j).1]
  refine ⟨St5_ext H0 (fun b h1 h2 => (f.2 b (by omega)).1) (fun j => ((f.2 a (by omega)).2 (hs a (by omega) (by omega)) j).2.2), ?_⟩
  rw [g a (by omega) (by omega), g (a + 1) (by omega) (by omega), g (a + 2) (by omega) (by omega), g (a + 3) (by omega) (by omega), g (a + 4) (by omega) (by omega), g (a + 5) (by omega) (by omega)]
  exact H1
/-- where the heads lie: now, trial, seven of the past, two kept -/
def ptr (h : Hp) (x i : Nat) : Option Nat := if i = 0 then gr h x 12 else if i = 1 then gr h x 13 else if i < 9 then gr h (x + 15) (i - 2) else gr h (x + 16) (i - 9)
def PtsOK (h : Hp) (x m : Nat) (p : Nat → Option Nat) : Prop := (∀ i a, i < 11 → p i = some a → St4 h a ∧ x + 17 ≤ a ∧ (a + 9 ≤ m ∨ m + 18 ≤ a) ∧ a + 9 ≤ hn h) ∧ ∀ i j a b, i < 11 → j < 11 → i ≠ j → p i = some a → p j = some b → a + 9 ≤ b ∨ b + 9 ≤ a
def Heads (h : Hp) (p : Nat → Option Nat) (s : Sv) : Prop := (∃ a, p 0 = some a ∧ HdR h a (sA s)) ∧ (∃ t, p 1 = some t) ∧ (∀ i, i < sN s → ∃ b, p (2 + i) = some b ∧ HdR h b (sB s i)) ∧ ∀ i, i < 2 → (sK s i = none → p (9 + i) = none) ∧ ∀ E, sK s i = some E → ∃ b, p (9 + i) = some b ∧ HdR h b E
def VAs (s : Sv) : Prop := VA (sA s) ∧ (∀ i, i < sN s → VA (sB s i)) ∧ ∀ i E, i < 2 → sK s i = some E → VA E
def TdC (h : Hp) (t : Nat) (R : List Int) : Prop := (gi h t 1).toInt = R.length ∧ R.length ≤ 60 ∧ ∀ i, i < R.length → (gl h (t + 1) i).toInt = R.getD i 0
def TxC (h : Hp) (t : Nat) (T : List Int) : Prop := (gi h t 1).toInt = T.length ∧ T.length ≤ 80 ∧ ∀ i, i < T.length → (gi h (t + 1) i).toInt = T.getD i 0
def ShC (h : Hp) (x m : Nat) (p : Nat → Option Nat) : Prop := ∀ sh, gr h x 14 = some sh → ShOK h sh ∧ m + 18 ≤ sh ∧ sh + 6 ≤ hn h ∧ ∀ i a, i < 11 → p i = some a → a + 9 ≤ sh ∨ sh + 6 ≤ a
/-- a mark in the cell 0, of which the small heap knows nothing: where it stands, the shelf has been made -/
def FLm (h : Hp) (x : Nat) : Prop := 0 < x ∧ (gr h 0 0 ≠ none → gr h x 14 ≠ none)
theorem FLm.fw {P R : Nat → Nat → Prop} {h h' : Hp} {x : Nat} (F : FLm h x) (f : FrW P R h h') : FLm h' x := ⟨F.1, by rw [f.2.2.2.1]; exact F.2⟩
theorem FLm.fx {S : Nat → Prop} {h h' : Hp} {x : Nat} (F : FLm h x) (f : FrX S h h') (s0 : ¬ S 0) (hp : 0 < hn h) (g : gr h' x 14 = gr h x 14) : FLm h' x := ⟨F.1, by rw [((f.2 0 hp).2 s0 0).2.2, g]; exact F.2⟩
def CSt (h : Hp) (x m : Nat) (s : Sv) : Prop := St9 h x ∧ (x + 17 ≤ m ∧ m + 18 ≤ hn h ∧ FLm h x) ∧ PtsOK h x m (ptr h x) ∧ Heads h (ptr h x) s ∧ VAs s ∧ ((gi h x 10).toInt = sN s ∧ sN s ≤ 7) ∧ TdC h (x + 3) (sR s) ∧ TxC h (x + 1) (sT s) ∧ ShC h x m (ptr h x)
def inC (x m b : Nat) : Prop := (x ≤ b ∧ b < m) ∨ m + 18 ≤ b
section Cst
variable {h h' : Hp} {x m : Nat} {s : Sv} {P R : Nat → Nat → Prop}
theorem CSt.now (S : CSt h x m s) : ∃ a, gr h x 12 = some a ∧ HdR h a (sA s) ∧ (x + 17 ≤ a ∧ (a + 9 ≤ m ∨ m + 18 ≤ a) ∧ a + 9 ≤ hn h) := by
  obtain ⟨a, e, H⟩ := S.2.2.2.1.1
  exact ⟨a, e, H, (S.2.2.1.1 0 a (by omega) e).2⟩
theorem CSt.trial (S : CSt h x m s) : ∃ t, gr h x 13 = some t ∧ St4 h t ∧ (x + 17 ≤ t ∧ (t + 9 ≤ m ∨ m + 18 ≤ t) ∧ t + 9 ≤ hn h) := by
  obtain ⟨t, e⟩ := S.2.2.2.1.2.1
  exact ⟨t, e, (S.2.2.1.1 1 t (by omega) e).1, (S.2.2.1.1 1 t (by omega) e).2⟩
theorem CSt.nt (S : CSt h x m s) {a t : Nat} (e1 : gr h x 12 = some a) (e2 : gr h x 13 = some t) : a + 9 ≤ t ∨ t + 9 ≤ a := S.2.2.1.2 0 1 a t (by omega) (by omega) (by omega) e1 e2
/-- numbers elsewhere have changed, of the trial's head too -/
theorem CSt.fr (S : CSt h x m s) (f : FrW P R h h') (c1 : ¬ P x 10) (c2 : ∀ b j, x + 1 ≤ b → b < x + 4 → ¬ P b j) (c3 : ∀ j, ¬ R (x + 4) j) (c4 : ∀ i a b j, i < 11 → i ≠ 1 → ptr h x i = some a → inH a b → ¬ P b j ∧ ¬ R b j) (c5 : ∀ sh b j, gr h x 14 = some sh → sh ≤ b → b < sh + 6 → ¬ P b j ∧ ¬ R b j) : CSt h' x m s ∧ ptr h' x = ptr h x := by
  obtain ⟨F, hm, pt, hd, va, sn, td, tx, sh⟩ := S
  have ep : ptr h' x = ptr h x := by unfold ptr; rw [f.2.2.2.1]
  have hf : ∀ {a b : Nat} {A : HV} {i : Nat}, i < 11 → i ≠ 1 → ptr h x i = some a → HdR h a A → HdR h' a A := fun {a b A i} hi h1 he H => by
    have fx : FrX (fun c => ¬ inH a c) h h' := ⟨by rw [f.1]; exact Nat.le_refl _, fun c _ => ⟨⟨by rw [f.2.1], by rw [f.2.2.1]⟩, fun q j => ⟨f.xi (c4 i a c j hi h1 he (Classical.not_not.mp q)).1, f.xl (c4 i a c j hi h1 he (Classical.not_not.mp q)).2, by rw [f.2.2.2.1]⟩⟩⟩
    exact H.frX fx (fun c hc q => q hc) (pt.1 i a hi he).2.2.2
  refine ⟨⟨St9_same F f.2.1 f.2.2.1 f.2.2.2.1, ⟨hm.1, by rw [f.1]; exact hm.2.1, hm.2.2.fw f⟩, ?_, ?_, va, ⟨by rw [f.xi c1]; exact sn.1, sn.2⟩, ?_, ?_, ?_⟩, ep⟩
  · rw [ep]
    exact ⟨fun i a hi e => ⟨St4_same (pt.1 i a hi e).1 f.2.1 f.2.2.1 f.2.2.2.1, by rw [f.1]; exact (pt.1 i a hi e).2⟩, pt.2⟩
  · rw [ep]
    obtain ⟨⟨a, e, H⟩, tr, pa, ke⟩ := hd
    refine ⟨⟨a, e, hf (b := 0) (i := 0) (by omega) (by omega) e H⟩, tr, fun i hi => ?_, fun i hi => ⟨(ke i hi).1, fun E q => ?_⟩⟩
    · obtain ⟨b, e2, H2⟩ := pa i hi
      exact ⟨b, e2, hf (b := 0) (i := 2 + i) (by omega) (by omega) e2 H2⟩
    · obtain ⟨b, e2, H2⟩ := (ke i hi).2 E q
      exact ⟨b, e2, hf (b := 0) (i := 9 + i) (by omega) (by omega) e2 H2⟩
  · unfold TdC at *
    rw [f.xi (c2 (x + 3) 1 (by omega) (by omega))]
    exact ⟨td.1, td.2.1, fun i hi => by rw [f.xl (c3 i)]; exact td.2.2 i hi⟩
  · unfold TxC at *
    rw [f.xi (c2 (x + 1) 1 (by omega) (by omega))]
    exact ⟨tx.1, tx.2.1, fun i hi => by rw [f.xi (c2 (x + 1 + 1) i (by omega) (by omega))]; exact tx.2.2 i hi⟩
  · rw [ep]
    intro a ea
    rw [f.2.2.2.1] at ea
    obtain ⟨q1, q2, q3, q4⟩ := sh a ea
    have fx : FrX (fun c => ¬ (a ≤ c ∧ c < a + 6)) h h' := ⟨by rw [f.1]; exact Nat.le_refl _, fun c _ => ⟨⟨by rw [f.2.1], by rw [f.2.2.1]⟩, fun q j => ⟨f.xi (c5 a c j ea (Classical.not_not.mp q).1 (Classical.not_not.mp q).2).1, f.xl (c5 a c j ea (Classical.not_not.mp q).1 (Classical.not_not.mp q).2).2, by rw [f.2.2.2.1]⟩⟩⟩
    exact ⟨q1.frX fx (fun b h1 h2 q => q ⟨h1, h2⟩) q3, q2, by rw [f.1]; exact q3, q4⟩
/-- work on the trial's head -/
theorem CSt.onTrial (S : CSt h x m s) {t : Nat} (et : gr h x 13 = some t) (f : FrO (inH t) h h') : CSt h' x m s ∧ ptr h' x = ptr h x ∧ FrX (inC x m) h h' := by
  obtain ⟨F, hm, pt, hd, va, sn, td, tx, sh⟩ := id S
  have q1 := (pt.1 1 t (by omega) et).2
  obtain ⟨r1, r2⟩ := S.fr f.w (fun q => by unfold inH at q; omega) (fun b j h1 h2 q => by unfold inH at q; omega) (fun j q => by unfold inH at q; omega) (fun i a b j hi h1 e hb => by
    have := pt.2 i 1 a t hi (by omega) h1 e et
    unfold inH at *
    omega) (fun a b j e h1 h2 => by
    have := (sh a e).2.2.2 1 t (by omega) et
    unfold inH
    omega)
  exact ⟨r1, r2, f.x.mono (fun b _ q => by unfold inH inC at *; omega)⟩
end Cst
