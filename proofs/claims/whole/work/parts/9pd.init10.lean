-- the reference's constructor: its row filled
section MI1
variable {X : Ctx} {l : Launch} {D : Dt} {h0 h h' : Hp} {m n : Nat} {f : Nat → Option Nat} {z : Nat → Nat → Int32}
/-- the state of a new one -/
def sv1 : Sv := (hvF 3 18 12, 0, fun _ => hvF 3 18 12, fun _ => none, [], [])
theorem init10_fill (C : C_X10_init X) (F : St10 h m) (F0 : Fr0 h0 h) (hm : hn h0 = m) (k0 : gi h m 1 = 0 ∧ gi h m 4 = 0 ∧ gi h m 9 = 0) (k16 : ∀ i, i < 2 → gi h (m + 16) i = 0) (k5 : ∀ k, k < 18 → gi h (m + 5) k = fhL.getD k 0) (k6 : ∀ k, k < 12 → gi h (m + 6) k = ftL.getD k 0) (kM : (gi h (m + 3) 0).toInt = 40 ∧ (gi h (m + 3) 1).toInt = 50 ∧ (gi h (m + 3) 2).toInt = 3 ∧ (gi h (m + 3) 3).toInt = 18 ∧ (gi h (m + 3) 4).toInt = 12) {a b : Nat} : Wj X a b (QV fun h' => MSt h' m sv1 ∧ hn h' = hn h ∧ Fr0 h0 h') 339 [(0, .ref m)] [] h := by
  have i18 : (18 : Int32).toInt = 18 := rfl
  have i12 : (12 : Int32).toInt = 12 := rfl
  have i5 : (5 : Int32).toInt = 5 := rfl
  have i6 : (6 : Int32).toInt = 6 := rfl
  have i23 : (23 : Int32).toInt = 23 := rfl
  have i41 : (41 : Int32).toInt = 41 := rfl
  have FS : ∀ {h'}, FrW (fun b j => b = m + 3 ∧ 5 ≤ j ∧ j < 53) (fun _ _ => False) h h' → St10 h' m := fun f => f.st10 F
  have gears : ∀ (d c : Nat) (h' : Hp) (v1 : Int32), c + d = 12 → v1.toInt = c → FrW (fun b j => b = m + 3 ∧ 5 ≤ j ∧ j < 53) (fun _ _ => False) h h' → (∀ k, k < 18 → (gi h' (m + 3) (5 + k)).toInt = ((k / 6 : Nat) : Int) ∧ (gi h' (m + 3) (23 + k)).toInt = (fhL.getD k 0).toInt) → (∀ k, k < c → (gi h' (m + 3) (41 + k)).toInt = (ftL.getD k 0).toInt) → Wj X a b (QV fun h' => MSt h' m sv1 ∧ hn h' = hn h ∧ Fr0 h0 h') 382 [(0, .ref m), (1, .int v1)] [] h' := by
    intro d
    induction d with
    | zero =>
      intro c h' v1 hc e1 f' hh ht
      have c12 : c = 12 := by omega
      subst c12
      have F' := FS f'
      have O : MO (mI h' m 0) (hvF 3 18 12) := by
        have e0 : ∀ j, j < 5 → gi h' (m + 3) j = gi h (m + 3) j := fun j hj => f'.xi (fun q => by omega)
        refine ⟨fun i hi => ?_, fun k hk => ?_, fun k hk => ?_⟩
        · have : i = 0 ∨ i = 1 ∨ i = 2 ∨ i = 3 ∨ i = 4 := by omega
          unfold mI
          rw [show i + 61 * 0 = i by omega, e0 i hi]
          rcases this with e | e | e | e | e <;> rw [e]
          · exact kM.1
          · exact kM.2.1
          · exact kM.2.2.1
          · exact kM.2.2.2.1
          · exact kM.2.2.2.2
        · have hk : (k : Int) < 18 := hk
          have := hh k (by omega)
          exact ⟨this.2, this.1⟩
        · have hk : (k : Int) < 12 := hk
          exact ht k (by omega)
      refine V_X10_init_382 C ⟨fun _ => ⟨F'.1, (ma_begins F' (b := 0) rfl (by omega) O hvF_va.out).mono (fun _ h2 hp => ?_)⟩, fun q => ?_⟩
      · obtain ⟨rfl, K2, f2⟩ := hp
        rw [hvF_first] at K2
        have F2 : St10 h2 m := f2.st10 F'
        have g : ∀ j, gi h2 m j = gi h m j := fun j => by rw [f2.xi (fun q => by have := q.1; omega), f'.xi (fun q => by omega)]
        have g16 : ∀ j, gi h2 (m + 16) j = gi h (m + 16) j := fun j => by rw [f2.xi (fun q => by have := q.1; omega), f'.xi (fun q => by omega)]
        refine ⟨rfl, rfl, ⟨⟨F2, K2, hvF_va, ⟨by rw [g, k0.2.2]; rfl, by decide⟩, fun i hi => ?_, fun i hi => ⟨fun _ => by rw [g16]; exact k16 i hi, fun E e => ?_⟩⟩, ⟨by rw [g, k0.1]; rfl, by decide, fun i hi => ?_⟩, ⟨by rw [g, k0.2.1]; rfl, by decide, fun i hi => ?_⟩⟩, ?_, ?_⟩
        · have : i < 0 := hi
          omega
        · have e : (none : Option HV) = some E := e
          cases e
        · have : i < 0 := hi
          omega
        · have : i < 0 := hi
          omega
        · rw [f2.1, f'.1]
        · refine ⟨by rw [f2.1, f'.1]; exact F0.1, fun c hc => ⟨⟨by rw [f2.2.1, f'.2.1]; exact (F0.2 c hc).1.1, by rw [f2.2.2.1, f'.2.2.1]; exact (F0.2 c hc).1.2⟩, fun q j => ?_⟩⟩
          have o := (F0.2 c hc).2 q j
          refine ⟨?_, ?_, by rw [f2.2.2.2.1, f'.2.2.2.1]; exact o.2.2⟩
          · rw [f2.xi (fun y => by have := y.1; omega), f'.xi (fun y => by omega)]; exact o.1
          · rw [f2.xl (fun y => by have := y.1; omega), f'.xl id]; exact o.2.1
      · exfalso
        rw [i32_le, i12, e1] at q; omega
    | succ d ih =>
      intro c h' v1 hc e1 f' hh ht
      have F' := FS f'
      obtain ⟨n7, g7⟩ := nn_of (St10_r7 F')
      obtain ⟨n11, g11⟩ := nn_of (St10_r11 F')
      have x1 : ix v1 = c := ix_of e1
      obtain ⟨y1, -⟩ := ix_add (c := 41) (v := v1) (a := 41) (b := c) i41 e1 (by omega)
      have ib : inb (41 + v1) 732 := inb_add (a := 41) (b := c) i41 e1 (by omega) (by omega)
      refine V_X10_init_382 C ⟨fun q => ?_, fun _ => ?_⟩
      · exfalso
        rw [i32_le, i12, e1] at q; omega
      · rw [g7, g11]
        refine ⟨F'.1, n7, n11, St10_k11 F', by rw [St10_l11 F']; exact ⟨by omega, by omega⟩, St10_k7 F', by rw [St10_l7 F']; exact ib, ?_⟩
        rw [y1, x1]
        have nx : ∃ w : Int32, v1 + Int32.ofInt 1 = w ∧ w.toInt = (c + 1 : Nat) := ⟨_, rfl, by rw [iadd_t] <;> rw [e1, show (Int32.ofInt 1).toInt = 1 from rfl] <;> omega⟩
        obtain ⟨w, hw, ew⟩ := nx
        rw [hw]
        have v6 : gi h' (m + 6) c = ftL.getD c 0 := by rw [f'.xi (fun q => by omega)]; exact k6 c (by omega)
        rw [v6]
        refine ih (c + 1) _ w (by omega) ew (FrW.si (P := fun b j => b = m + 3 ∧ 5 ≤ j ∧ j < 53) (R := fun _ _ => False) f' ⟨rfl, by omega, by omega⟩) (fun k hk => ?_) (fun k hk => ?_)
        · rw [gi_si, if_neg (by omega), gi_si, if_neg (by omega)]; exact hh k hk
        · rw [gi_si]
          by_cases e : k = c
          · rw [if_pos ⟨rfl, by omega⟩, e]
          · rw [if_neg (by omega)]; exact ht k (by omega)
  have circles : ∀ (d c : Nat) (h' : Hp) (v1 : Int32), c + d = 18 → v1.toInt = c → FrW (fun b j => b = m + 3 ∧ 5 ≤ j ∧ j < 53) (fun _ _ => False) h h' → (∀ k, k < c → (gi h' (m + 3) (5 + k)).toInt = ((k / 6 : Nat) : Int) ∧ (gi h' (m + 3) (23 + k)).toInt = (fhL.getD k 0).toInt) → Wj X a b (QV fun h' => MSt h' m sv1 ∧ hn h' = hn h ∧ Fr0 h0 h') 341 [(0, .ref m), (1, .int v1)] [] h' := by
    intro d
    induction d with
    | zero =>
      intro c h' v1 hc e1 f' hh
      have c18 : c = 18 := by omega
      subst c18
      refine V_X10_init_341 C ⟨fun _ => gears 12 0 h' 0 (by omega) rfl f' hh (fun k hk => by omega), fun q => ?_⟩
      exfalso
      rw [i32_le, i18, e1] at q; omega
    | succ d ih =>
      intro c h' v1 hc e1 f' hh
      have F' := FS f'
      obtain ⟨n7, g7⟩ := nn_of (St10_r7 F')
      obtain ⟨n10, g10⟩ := nn_of (St10_r10 F')
      have x1 : ix v1 = c := ix_of e1
      obtain ⟨y1, -⟩ := ix_add (c := 5) (v := v1) (a := 5) (b := c) i5 e1 (by omega)
      obtain ⟨y2, -⟩ := ix_add (c := 23) (v := v1) (a := 23) (b := c) i23 e1 (by omega)
      have ib1 : inb (5 + v1) 732 := inb_add (a := 5) (b := c) i5 e1 (by omega) (by omega)
      have ib2 : inb (23 + v1) 732 := inb_add (a := 23) (b := c) i23 e1 (by omega) (by omega)
      refine V_X10_init_341 C ⟨fun q => ?_, fun _ => ?_⟩
      · exfalso
        rw [i32_le, i18, e1] at q; omega
      · rw [g7, g10]
        refine ⟨F'.1, n7, St10_k7 F', by rw [St10_l7 F']; exact ib1, n10, St10_k10 F', by rw [St10_l10 F']; exact ⟨by omega, by omega⟩, by rw [St10_l7 F']; exact ib2, ?_⟩
        rw [y1, y2, x1]
        have nx : ∃ w : Int32, v1 + Int32.ofInt 1 = w ∧ w.toInt = (c + 1 : Nat) := ⟨_, rfl, by rw [iadd_t] <;> rw [e1, show (Int32.ofInt 1).toInt = 1 from rfl] <;> omega⟩
        obtain ⟨w, hw, ew⟩ := nx
        rw [hw]
        have e6 : (v1 / 6).toInt = ((c / 6 : Nat) : Int) := by rw [idiv_p (by omega) (by rw [i6]; omega), e1, i6]; omega
        have v5 : gi (si h' (m + 3) (5 + c) (v1 / 6)) (m + 5) c = fhL.getD c 0 := by rw [gi_si, if_neg (by omega), f'.xi (fun q => by omega)]; exact k5 c (by omega)
        rw [v5]
        generalize v1 / 6 = u6 at *
        refine ih (c + 1) _ w (by omega) ew (FrW.si (P := fun b j => b = m + 3 ∧ 5 ≤ j ∧ j < 53) (R := fun _ _ => False) (FrW.si (P := fun b j => b = m + 3 ∧ 5 ≤ j ∧ j < 53) (R := fun _ _ => False) f' ⟨rfl, by omega, by omega⟩) ⟨rfl, by omega, by omega⟩) (fun k hk => ?_)
        by_cases e : k = c
        · subst e
          refine ⟨?_, ?_⟩
          · rw [gi_si, if_neg (by omega), gi_si, if_pos ⟨rfl, rfl⟩]; exact e6
          · rw [gi_si, if_pos ⟨rfl, rfl⟩]
        · rw [gi_si, if_neg (by omega), gi_si, if_neg (by omega), gi_si, if_neg (by omega), gi_si, if_neg (by omega)]; exact hh k (by omega)
  exact V_X10_init_339 C (circles 18 0 h 0 (by omega) rfl (FrW.rf (P := fun b j => b = m + 3 ∧ 5 ≤ j ∧ j < 53) (R := fun _ _ => False)) (fun k hk => by omega))
end MI1
