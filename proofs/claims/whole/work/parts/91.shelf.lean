-- the shelf: plain facts
theorem cntNz_ext {f g : Nat → Int} (n : Nat) (h : ∀ i, i < n → f i = g i) : cntNz f n = cntNz g n := by
  induction n with
  | zero => rfl
  | succ n ih => unfold cntNz; rw [ih (fun i hi => h i (by omega)), h n (by omega)]
theorem cntNz_set {f g : Nat → Int} {i : Nat} (h0 : f i = 0) (h1 : g i ≠ 0) (h2 : ∀ j, j ≠ i → g j = f j) (n : Nat) (hi : i < n) : cntNz g n = cntNz f n + 1 := by
  induction n with
  | zero => omega
  | succ n ih =>
    unfold cntNz
    by_cases e : i = n
    · rw [← e, h0, if_pos rfl, if_neg h1, cntNz_ext i (fun j hj => h2 j (by omega))]
    · rw [ih (by omega), h2 n (fun z => e z.symm)]; omega
theorem cntNz_lt {f : Nat → Int} (n : Nat) (h : cntNz f n < n) : ∃ i, i < n ∧ f i = 0 := by
  induction n with
  | zero => omega
  | succ n ih =>
    by_cases e : f n = 0
    · exact ⟨n, by omega, e⟩
    · unfold cntNz at h
      rw [if_neg e] at h
      obtain ⟨i, h1, h2⟩ := ih (by omega)
      exact ⟨i, by omega, h2⟩
-- how many trains there are
def cT (f : Nat → Bool) : Nat → Nat
  | 0 => 0
  | n + 1 => cT f n + (if f n then 1 else 0)
def cR (f : Nat → Bool) : Nat → Nat → Nat
  | 0, lo => if f lo then 1 else 0
  | k + 1, lo => cR f k lo + cR f k (lo + 2 ^ k)
theorem cT_cR (f : Nat → Bool) (k : Nat) : ∀ lo, cT f (lo + 2 ^ k) = cT f lo + cR f k lo := by
  induction k with
  | zero => intro lo; rfl
  | succ k ih =>
    intro lo
    have e : lo + 2 ^ (k + 1) = lo + 2 ^ k + 2 ^ k := by rw [Nat.pow_succ]; omega
    rw [e, ih, ih]
    show _ = cT f lo + (cR f k lo + cR f k (lo + 2 ^ k))
    omega
theorem cT_mono (f : Nat → Bool) {a b : Nat} (h : a ≤ b) : cT f a ≤ cT f b := by
  induction b with
  | zero => have : a = 0 := by omega
            rw [this]; exact Nat.le_refl _
  | succ b ih =>
    by_cases e : a = b + 1
    · rw [e]; exact Nat.le_refl _
    · have := ih (by omega)
      show cT f a ≤ cT f b + (if f b then 1 else 0)
      omega
theorem cT_inj (f : Nat → Bool) (K : Nat) : ∀ (n : Nat) (g : Nat → Nat), (∀ e, e < n → g e < K ∧ f (g e) = true) → (∀ e e', e < n → e' < n → g e = g e' → e = e') → n ≤ cT f K := by
  induction K with
  | zero =>
    intro n g h1 h2
    rcases Nat.eq_zero_or_pos n with z | z
    · omega
    · have := (h1 0 z).1; omega
  | succ K ih =>
    intro n g h1 h2
    by_cases c : ∃ e, e < n ∧ g e = K
    · obtain ⟨e0, a1, a2⟩ := c
      have fk : f K = true := by rw [← a2]; exact (h1 e0 a1).2
      have := ih (n - 1) (fun e => if e = e0 then g (n - 1) else g e) (fun e he => ?_) (fun e e' he he' q => ?_)
      · unfold cT; rw [fk, if_pos rfl]; omega
      · split
        · rename_i z
          have q := h1 (n - 1) (by omega)
          have : g (n - 1) ≠ K := fun y => by have := h2 (n - 1) e0 (by omega) a1 (by omega); omega
          exact ⟨by omega, q.2⟩
        · rename_i z
          have q := h1 e (by omega)
          have : g e ≠ K := fun y => z (h2 e e0 (by omega) a1 (by omega))
          exact ⟨by omega, q.2⟩
      · split at q <;> split at q
        · omega
        · have := h2 (n - 1) e' (by omega) (by omega) q; omega
        · have := h2 e (n - 1) (by omega) (by omega) q; omega
        · exact h2 e e' (by omega) (by omega) q
    · have := ih n g (fun e he => ⟨by
        have q := (h1 e he).1
        have : g e ≠ K := fun y => c ⟨e, he, y⟩
        omega, (h1 e he).2⟩) h2
      have := cT_mono f (a := K) (b := K + 1) (by omega)
      omega
def tOkB (t : Nat) : Bool := Nat.blt t 20880 && (match Nat.blt t 144 with
  | true => !(Nat.beq (t / 12) (t % 12))
  | false => !(Nat.beq ((t - 144) / 1728) ((t - 144) / 144 % 12)) && (Nat.blt ((t - 144) / 1728) ((t - 144) / 12 % 12) && (Nat.blt ((t - 144) / 144 % 12) ((t - 144) % 12) && (!(Nat.beq ((t - 144) / 12 % 12) ((t - 144) / 144 % 12)) && (!(Nat.beq ((t - 144) % 12) ((t - 144) / 1728)) && !(Nat.beq ((t - 144) % 12) ((t - 144) / 12 % 12)))))))
theorem blt_t {a b : Nat} (h : a < b) : Nat.blt a b = true := by
  unfold Nat.blt; exact Nat.ble_eq_true_of_le h
theorem blt_f {a b : Nat} (h : ¬ a < b) : Nat.blt a b = false := by
  cases e : Nat.blt a b with
  | false => rfl
  | true => exact absurd (Nat.le_of_ble_eq_true e) h
theorem beq_f {a b : Nat} (h : a ≠ b) : Nat.beq a b = false := by
  cases e : Nat.beq a b with
  | false => rfl
  | true => exact absurd (Nat.eq_of_beq_eq_true e) h
theorem tOkB_of {g t : Nat} (h : tOk g t) : tOkB t = true := by
  obtain ⟨h1, h2, h3, h4, h5⟩ := h
  unfold tOkB
  rw [blt_t h1]
  by_cases q : t < 144
  · rw [blt_t q]
    unfold tA tB at h4
    rw [if_pos q, if_pos q] at h4
    rw [beq_f h4]; rfl
  · rw [blt_f q]
    obtain ⟨a1, a2, a3, a4, a5, a6, a7⟩ := h5 (by omega)
    unfold tA at h4 a3 a6
    unfold tB at h4 a4 a5
    rw [if_neg q] at h4 a3 a4 a5 a6
    rw [if_neg q] at h4
    unfold tC at a3 a5 a7
    unfold tD at a4 a6 a7
    rw [beq_f h4, blt_t a3, blt_t a4, beq_f a5, beq_f a6, beq_f a7]; rfl
theorem tOk_many : cR tOkB 15 0 ≤ 3102 := by decide +kernel
theorem tOk_cnt : cT tOkB 20880 ≤ 3102 := by
  have h1 := cT_cR tOkB 15 0
  have h2 := tOk_many
  have h3 := cT_mono tOkB (a := 20880) (b := 0 + 2 ^ 15) (by decide)
  have h4 : cT tOkB 0 = 0 := rfl
  omega
