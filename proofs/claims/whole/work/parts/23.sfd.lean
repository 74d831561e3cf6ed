theorem ln_le {M N m : Nat} (e : M = N) (h : m ≤ N) : m ≤ M := e ▸ h
def hN (h : Hp) (a : Nat) : Int64 := (hHo h a (gi h a 5)).toInt64 * ((gi h a 0).toInt64 * gl h (a + 1) 1 - (gi h a 16).toInt64 * gl h (a + 1) 0)
def hSg (h : Hp) (a : Nat) : Int64 := if 0 ≤ hN h a then gl h (a + 1) 1 else -(gl h (a + 1) 1)
section Sfd
variable {l : Launch} {D : Dt} {h : Hp} {a b : Nat} {k : Int32}
theorem sf_X4_compareMark (F : St4 h a) : S_X4_compareMark l D 0 0 [.ref a, .int k] h (PF (.int (cmpL (hMu h a k * gl h (a + 2) 1) (gl h (a + 2) 0 * hMl h a k))) h) := Sp.of rfl (Nat.le_of_ble_eq_true rfl) (fun X C _ _ _ _ => V_X4_compareMark_0 C ⟨F, rfl, rfl⟩)
theorem sf_X4_dropPlates (F : St4 h a) : S_X4_dropPlates l D 0 0 [.ref a] h (PH (si (si h a 2 1) a 3 0)) := Sp.of rfl (Nat.le_of_ble_eq_true rfl) (fun X C _ _ _ _ => V_X4_dropPlates_0 C ⟨F, rfl, rfl⟩)
theorem sf_X4_stepOfHole (F : St4 h a) (Fb : kd h b = 3) (hz : 0 < (abL (hN h a)).toInt) : S_X4_stepOfHole l D 0 0 [.ref a, .ref b] h (PH (fpt h b (fmL (hSg h a) (abL (hN h a))) (abL (hN h a)))) := Sp.of rfl (Nat.le_of_ble_eq_true rfl) (fun X C _ _ _ _ => V_X4_stepOfHole_0 C (by
  have hm := fmL_t (a := hSg h a) hz
  have hm0 := Int.emod_nonneg (hSg h a).toInt (Int.ne_of_gt hz)
  refine ⟨F, fun h1 => ⟨fun h2 => ?_, fun h2 => ?_⟩, fun h1 => ?_⟩
  · have e : hSg h a = gl h (a + 1) 1 := if_pos h2
    refine V_X4_stepOfHole_83 C ⟨hz, Fb, ?_, rfl, ?_⟩
    · rw [e] at hm hm0; change -9223372036854775807 ≤ (fmL (gl h (a + 1) 1) (abL (hN h a))).toInt; omega
    · rw [e]; rfl
  · have e : hSg h a = -(gl h (a + 1) 1) := if_neg h2
    refine V_X4_stepOfHole_83 C ⟨hz, Fb, ?_, rfl, ?_⟩
    · rw [e] at hm hm0; change -9223372036854775807 ≤ (fmL (-(gl h (a + 1) 1)) (abL (hN h a))).toInt; omega
    · rw [e]; rfl
  · change abL (hN h a) = 0 at h1
    rw [h1, l0_t] at hz; omega))
end Sfd
