-- fit()
/-- the shelf fits the gears of A -/
def tvA (A : HV) (k : Nat) : Int := if k < gN A then A 3 k else 0
def ShT (h : Hp) (sh : Nat) (A : HV) : Prop := ∃ n, ShG h sh (gN A) 20880 n ∧ ∀ k, k < 12 → gf h (sh + 1) k = tvA A k
theorem tvA_ok {A : HV} (V : VA A) {te : Nat → Int} (e : ∀ k, k < 12 → te k = tvA A k) : teOk (gN A) te := by
  intro k hk
  have := V.gn
  rw [e k (by omega)]
  unfold tvA
  rw [if_pos hk]
  exact V.teo k hk
theorem ShT.ok {h : Hp} {sh : Nat} {A : HV} (V : VA A) (S : ShT h sh A) : ShOK h sh := by
  obtain ⟨n, ⟨F, s1, s0, S⟩, te⟩ := S
  refine ⟨F, gN A, n, V.gn.1, s1, s0, fun k hk => ⟨fun q => ?_, fun q => ?_⟩, S⟩
  · rw [te k hk]; unfold tvA; rw [if_pos q]; exact V.teo k q
  · rw [te k hk]; unfold tvA; rw [if_neg (by omega)]
theorem hTe_v {h : Hp} {a : Nat} {A : HV} (H : HdR h a A) (V : VA A) {v : Int32} {k : Nat} (e : v.toInt = k) (hk : k < 12) : (hTe h a v).toInt = tvA A k := by
  have vg := V.gn
  unfold tvA
  by_cases q : k < gN A
  · rw [if_pos q, (hTe_t H V (k := v) (by omega) (by omega)).1]
    unfold te
    rw [e]; rfl
  · rw [if_neg q]
    have e4 := H.2.1 4 (by omega)
    unfold hTe
    rw [if_neg (by rw [e4]; omega)]; rfl
abbrev FrB (sh : Nat) (h h' : Hp) : Prop := FrW (fun b _ => sh ≤ b ∧ b < sh + 6) (fun _ _ => False) h h'
theorem FrB.rf {sh : Nat} {h : Hp} : FrB sh h h := FrW.rf (P := fun b _ => sh ≤ b ∧ b < sh + 6) (R := fun _ _ => False)
theorem FrB.s {sh : Nat} {h h' : Hp} (f : FrB sh h h') {b k : Nat} {v : Int32} (hb : sh ≤ b ∧ b < sh + 6) : FrB sh h (si h' b k v) := FrW.si (P := fun b _ => sh ≤ b ∧ b < sh + 6) (R := fun _ _ => False) f hb
section Fit2
variable {X : Ctx} {l : Launch} {D : Dt} {h : Hp} {sh a : Nat} {Q : Pq} {A : HV}
theorem cl_fit (Sh : ShOK h sh) (H : HdR h a A) (V : VA A) (dis : ∀ b, inH a b → ¬ (sh ≤ b ∧ b < sh + 6)) : S_X5_fit l D 0 0 [.ref sh, .ref a] h (QV fun h' => ShT h' sh A ∧ FrB sh h h') := Sp.of rfl (Nat.le_of_ble_eq_true rfl) (fun X C _ _ _ _ => V_X5_fit_0 C (by
  obtain ⟨F, g0, n0, g12, t1, t0, tt, S0⟩ := id Sh
  have vg := V.gn
  have i12 : (12 : Int32).toInt = 12 := rfl
  have e4 : (gi h a 4).toInt = A 0 4 := H.2.1 4 (by omega)
  have hH : ∀ h', FrB sh h h' → HdR h' a A := fun h' f => H.wf f (fun b j hb q => dis b hb q) (fun _ _ _ => id)
  -- the end
  have done : ∀ (h' : Hp) (v2 : Int32), FrB sh h h' → (∀ b, b ≠ sh + 1 → ∀ j, gi h' b j = gi h b j) → (∀ j, j < 12 → (gi h' (sh + 1) j).toInt = tvA A j) → (∀ j, 12 ≤ j → gi h' (sh + 1) j = gi h (sh + 1) j) → (¬ v2 = 0 → gi h sh 1 = gi h a 4 ∧ ∀ j, j < 12 → (gi h (sh + 1) j).toInt = tvA A j) → St4 h' a ∧ St5 h' sh ∧ ((¬ v2 = 0 → (QV fun h' => ShT h' sh A ∧ FrB sh h h') none (si h' sh 1 (gi h' a 4))) ∧ (v2 = 0 → S_J7_fill_53178 (lX X) (dtX X) 0 0 [.ref (sh + 5), .int 0] (si (si h' sh 1 (gi h' a 4)) sh 0 0) (QV fun h3 => St5 h3 sh ∧ S_X5_addTwos (lX X) (dtX X) 0 0 [.ref sh] h3 (QV fun h5 => St5 h5 sh ∧ S_X5_addFours (lX X) (dtX X) 0 0 [.ref sh] h5 (QV fun h7 => (QV fun h' => ShT h' sh A ∧ FrB sh h h') none h7))))) := by
    intro h' v2 f oth now more same
    have H' := hH h' f
    have F' : St5 h' sh := St5_same F f.2.1 f.2.2.1 f.2.2.2.1
    have e4' : (gi h' a 4).toInt = gN A := by rw [H'.2.1 4 (by omega)]; omega
    refine ⟨H'.1, F', fun q => ?_, fun q => ?_⟩
    · obtain ⟨sa, sb⟩ := same q
      have f1 : FrB sh h (si h' sh 1 (gi h' a 4)) := FrB.s f ⟨by omega, by omega⟩
      have o : ∀ b, b ≠ sh + 1 → b ≠ sh → gf (si h' sh 1 (gi h' a 4)) b = gf h b := fun b h1 h2 => by
        funext j
        unfold gf
        rw [gi_si, if_neg (fun z => h2 z.1), oth b h1 j]
      have ete : gf (si h' sh 1 (gi h' a 4)) (sh + 1) = gf h (sh + 1) := by
        funext j
        unfold gf
        rw [gi_si, if_neg (by omega)]
        rcases Nat.lt_or_ge j 12 with z | z
        · rw [now j z, sb j z]
        · rw [more j z]
      have eg : (g0 : Int) = gN A := by
        have h1 : (gi h sh 1).toInt = g0 := t1
        rw [sa, e4] at h1; omega
      have eg' : g0 = gN A := by omega
      refine ⟨rfl, ⟨n0, ⟨St5_same F f1.2.1 f1.2.2.1 f1.2.2.2.1, ?_, ?_, ?_⟩, fun k hk => by rw [ete]; exact sb k hk⟩, f1⟩
      · unfold gf; rw [gi_si, if_pos ⟨rfl, rfl⟩]; exact e4'
      · unfold gf; rw [gi_si, if_neg (by omega), oth sh (by omega)]; exact t0
      · rw [ete, o (sh + 2) (by omega) (by omega), o (sh + 3) (by omega) (by omega), o (sh + 4) (by omega) (by omega), o (sh + 5) (by omega) (by omega), ← eg']; exact S0
    · have f1 : FrB sh h (si (si h' sh 1 (gi h' a 4)) sh 0 0) := FrB.s (FrB.s f ⟨by omega, by omega⟩) ⟨by omega, by omega⟩
      have F1 : St5 (si (si h' sh 1 (gi h' a 4)) sh 0 0) sh := St5_same F f1.2.1 f1.2.2.1 f1.2.2.2.1
      have k1 : gi (si (si h' sh 1 (gi h' a 4)) sh 0 0) sh 1 = gi h' a 4 := by rw [gi_si, if_neg (by omega), gi_si, if_pos ⟨rfl, rfl⟩]
      have k0 : gi (si (si h' sh 1 (gi h' a 4)) sh 0 0) sh 0 = 0 := by rw [gi_si, if_pos ⟨rfl, rfl⟩]
      have kt : ∀ j, gi (si (si h' sh 1 (gi h' a 4)) sh 0 0) (sh + 1) j = gi h' (sh + 1) j := fun j => by rw [gi_si, if_neg (by omega), gi_si, if_neg (by omega)]
      generalize si (si h' sh 1 (gi h' a 4)) sh 0 0 = h1 at *
      refine (cl_fill (h := h1) (sh := sh + 5) (St5_k6 F1) (St5_l6 F1)).mono (fun v h3 hp => ?_)
      obtain ⟨rfl, z3, f3⟩ := hp
      have f13 : FrB sh h1 h3 := f3.mono (fun b j (q : b = sh + 5) => by omega) (fun _ _ q => q)
      have F3 : St5 h3 sh := St5_same F1 f3.2.1 f3.2.2.1 f3.2.2.2.1
      have te3 : ∀ k, k < 12 → gf h3 (sh + 1) k = tvA A k := fun k hk => by
        unfold gf
        rw [f3.xi (fun (q : sh + 1 = sh + 5) => by omega), kt]; exact now k hk
      have S3 : ShG h3 sh (gN A) 0 0 := by
        refine ⟨F3, ?_, ?_, SHP.zero z3⟩
        · unfold gf; rw [f3.xi (fun (q : sh = sh + 5) => by omega), k1]; exact e4'
        · unfold gf; rw [f3.xi (fun (q : sh = sh + 5) => by omega), k0]; rfl
      refine ⟨rfl, F3, (cl_addTwos vg.1 S3 (tvA_ok V te3)).mono (fun v h5 hp => ?_)⟩
      obtain ⟨rfl, ⟨n5, S5⟩, f5⟩ := hp
      have te5 : ∀ k, k < 12 → gf h5 (sh + 1) k = tvA A k := fun k hk => by rw [f5.te]; exact te3 k hk
      refine ⟨rfl, S5.1, (cl_addFours vg.1 S5 (tvA_ok V te5)).mono (fun v h7 hp => ?_)⟩
      obtain ⟨rfl, ⟨n7, S7⟩, f7⟩ := hp
      have toB : ∀ {h1 h2 : Hp}, FrS sh h1 h2 → FrB sh h1 h2 := fun f => f.mono (fun b j q => by unfold sI at q; omega) (fun _ _ q => q)
      exact ⟨rfl, rfl, ⟨n7, S7, fun k hk => by rw [f7.te]; exact te5 k hk⟩, ((f1.tr f13).tr (toB f5)).tr (toB f7)⟩
  have key : ∀ (d : Nat) (h' : Hp) (v2 v3 : Int32), 0 ≤ v3.toInt → v3.toInt + d = 12 → FrB sh h h' → (∀ b, b ≠ sh + 1 → ∀ j, gi h' b j = gi h b j) → (∀ j, j < ix v3 → (gi h' (sh + 1) j).toInt = tvA A j) → (∀ j, ix v3 ≤ j → gi h' (sh + 1) j = gi h (sh + 1) j) → (¬ v2 = 0 → gi h sh 1 = gi h a 4 ∧ ∀ j, j < ix v3 → (gi h (sh + 1) j).toInt = tvA A j) → Wj X 0 0 (QV fun h' => ShT h' sh A ∧ FrB sh h h') 19 [(0, .ref sh), (1, .ref a), (2, .int v2), (3, .int v3)] [] h' := by
    intro d
    induction d with
    | zero =>
      intro h' v2 v3 k0 hd f oth now more same
      have e : ix v3 = 12 := by unfold ix; omega
      rw [e] at now more same
      refine V_X5_fit_19 C ⟨fun _ => done h' v2 f oth now more same, fun q => ?_⟩
      rw [i32_le, i12] at q; omega
    | succ d ih =>
      intro h' v2 v3 k0 hd f oth now more same
      obtain ⟨x1, x2⟩ := ix_succ k0 (by omega)
      have hk := ix_t k0
      have H' := hH h' f
      have F' : St5 h' sh := St5_same F f.2.1 f.2.2.1 f.2.2.2.1
      have ht := hTe_v H' V (v := v3) (k := ix v3) hk.symm (by omega)
      have ib : inb v3 12 := by unfold inb; omega
      have step : ∀ s0 : Int32, (¬ s0 = 0 → ¬ v2 = 0 ∧ (gi h (sh + 1) (ix v3)).toInt = tvA A (ix v3)) → Wj X 0 0 (QV fun h' => ShT h' sh A ∧ FrB sh h h') 48 [(0, .ref sh), (1, .ref a), (3, .int v3)] [.int s0] h' := by
        intro s0 hs
        refine V_X5_fit_48 C ⟨F', H'.1, ib, ih _ s0 _ (by omega) (by omega) (FrB.s f ⟨by omega, by omega⟩) (fun b hb j => ?_) (fun j hj => ?_) (fun j hj => ?_) (fun q => ?_)⟩
        · rw [gi_si, if_neg (fun z => hb z.1)]; exact oth b hb j
        · rw [gi_si]
          by_cases z : j = ix v3
          · rw [if_pos ⟨rfl, z⟩, z]; exact ht
          · rw [if_neg (fun y => z y.2)]; exact now j (by omega)
        · rw [gi_si, if_neg (fun y => by have := y.2; omega)]; exact more j (by omega)
        · obtain ⟨y1, y2⟩ := hs q
          obtain ⟨z1, z2⟩ := same y1
          refine ⟨z1, fun j hj => ?_⟩
          by_cases z : j = ix v3
          · rw [z]; exact y2
          · exact z2 j (by omega)
      refine V_X5_fit_19 C ⟨fun q => ?_, fun _ => ⟨fun q => step 0 (fun z => absurd rfl z), fun q => ⟨F', ib, H'.1, fun q2 => step 0 (fun z => absurd rfl z), fun q2 => step 1 (fun _ => ⟨q, ?_⟩)⟩⟩⟩
      · rw [i32_le, i12] at q; omega
      · rw [i32_eq, ht, more (ix v3) (Nat.le_refl _)] at q2; exact q2
  refine ⟨F, H.1, fun q => key 12 h 0 0 (by decide) (by decide) FrB.rf (fun _ _ _ => rfl) (fun j hj => by rw [ix_0] at hj; omega) (fun _ _ => rfl) (fun z => absurd rfl z), fun q => key 12 h 1 0 (by decide) (by decide) FrB.rf (fun _ _ _ => rfl) (fun j hj => by rw [ix_0] at hj; omega) (fun _ _ => rfl) (fun _ => ⟨q, fun j hj => by rw [ix_0] at hj; omega⟩)⟩))
end Fit2
