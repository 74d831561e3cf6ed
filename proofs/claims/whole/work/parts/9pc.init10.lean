-- the reference's constructor
section MI0
variable {X : Ctx} {l : Launch} {D : Dt} {h0 h h' : Hp} {m n : Nat} {f : Nat → Option Nat} {z : Nat → Nat → Int32}
def tKd : Nat → Nat := fun i => if i = 1 then 21 else if i = 4 then 21 else if i = 9 then 21 else if i = 10 then 21 else if i = 11 then 21 else if i = 16 then 23 else 20
def tLn : Nat → Nat := fun i => if i = 1 then 64 else if i = 2 then 80 else if i = 3 then 732 else if i = 4 then 1464 else if i = 5 then 18 else if i = 6 then 12 else if i = 7 then 4 else if i = 8 then 4 else if i = 9 then 12100 else if i = 10 then 120 else if i = 11 then 60 else if i = 16 then 2 else 80
/-- a new reference so far -/
def N10 (h0 h : Hp) (m n : Nat) (f : Nat → Option Nat) (z : Nat → Nat → Int32) : Prop := hn h = m + n ∧ (m = hn h0 ∧ 1 ≤ n) ∧ kd h m = 11 ∧ (∀ i, 1 ≤ i → i < n → kd h (m + i) = tKd i ∧ ln h (m + i) = tLn i) ∧ (∀ j, gr h m j = f j) ∧ (∀ i j, i < n → gi h (m + i) j = z i j) ∧ Fr0 h0 h
theorem N10.nw' (N : N10 h0 h m n f z) (k l : Nat) (hk : tKd n = k) (hl : tLn n = l) : N10 h0 (nw h k l) m (n + 1) f (fun i j => if i = n then 0 else z i j) := by
  obtain ⟨n1, n2, n3, n4, n5, n6, n7⟩ := N
  refine ⟨by rw [hn_nw, n1]; omega, ⟨n2.1, by omega⟩, by rw [kd_nw, n1, if_neg (by omega)]; exact n3, fun i h1 h2 => ?_, fun j => by rw [gr_nw, n1, if_neg (by omega)]; exact n5 j, fun i j hi => ?_, n7.nw⟩
  · by_cases e : i = n
    · rw [kd_nw, ln_nw, n1, if_pos (by omega), if_pos (by omega), e, hk, hl]; exact ⟨rfl, rfl⟩
    · rw [kd_nw, ln_nw, n1, if_neg (by omega), if_neg (by omega)]; exact n4 i h1 (by omega)
  · show gi (nw h k l) (m + i) j = if i = n then 0 else z i j
    by_cases e : i = n
    · rw [gi_nw, n1, if_pos (by omega), if_pos e]
    · rw [gi_nw, n1, if_neg (by omega), if_neg e]; exact n6 i j (by omega)
theorem N10.sr' (N : N10 h0 h m n f z) (i : Nat) (v : Option Nat) : N10 h0 (sr h m i v) m n (fun j => if j = i then v else f j) z := by
  obtain ⟨n1, n2, n3, n4, n5, n6, n7⟩ := N
  refine ⟨n1, n2, n3, n4, fun j => ?_, n6, n7.sr (Or.inr (by omega))⟩
  show gr (sr h m i v) m j = if j = i then v else f j
  rw [gr_sr]
  by_cases e : j = i
  · rw [if_pos ⟨rfl, e⟩, if_pos e]
  · rw [if_neg (fun y => e y.2), if_neg e]; exact n5 j
theorem N10.si' (N : N10 h0 h m n f z) (i j : Nat) (v : Int32) : N10 h0 (si h (m + i) j v) m n f (fun i' j' => if i' = i ∧ j' = j then v else z i' j') := by
  obtain ⟨n1, n2, n3, n4, n5, n6, n7⟩ := N
  refine ⟨n1, n2, n3, n4, n5, fun i' j' hi => ?_, n7.si (Or.inr (by omega))⟩
  show gi (si h (m + i) j v) (m + i') j' = if i' = i ∧ j' = j then v else z i' j'
  rw [gi_si]
  by_cases e : i' = i ∧ j' = j
  · rw [if_pos ⟨by omega, e.2⟩, if_pos e]
  · rw [if_neg (fun y => e ⟨by omega, y.2⟩), if_neg e]; exact n6 i' j' hi
theorem N10.kd5 (N : N10 h0 h m n f z) {i : Nat} (h1 : 1 ≤ i) (h2 : i < n) : kd h (m + i) = tKd i := (N.2.2.2.1 i h1 h2).1
theorem N10.ln5 (N : N10 h0 h m n f z) {i : Nat} (h1 : 1 ≤ i) (h2 : i < n) : ln h (m + i) = tLn i := (N.2.2.2.1 i h1 h2).2
end MI0
