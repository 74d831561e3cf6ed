-- divides(): the pure value; the class
/-- the number whose simple way is gone -/
noncomputable def dvK (A : HV) (n : Int) (w : Nat) : Int := if w = 2 then (match difQ A n with
  | none => n
  | some d => d.1) else n
noncomputable def dvSm (A : HV) (k : Int) (B : HV) : HV := (windP (chooseP B (fS A k)).2 (A 0 0 / k) (smH A k (fS A k) % A 1 (fS A k)) 0).2
noncomputable def dvCm (W : CW) (B : HV) : HV := (windP (chooseP (windP (chooseP B W.2.1).2 W.2.2.2.1 W.2.2.2.2.1 0).2 W.2.2.1).2 0 (if 0 ≤ W.2.2.2.2.2 then W.2.2.2.2.2 else -W.2.2.2.2.2) (if 0 ≤ W.2.2.2.2.2 then 0 else 1)).2
noncomputable def dvSt (A : HV) (n : Int) (w : Nat) (B : HV) : HV := if w = 1 then dvCm (cwQ A n) B else dvSm A (dvK A n w) B
noncomputable def dvPut (A : HV) (n : Int) (B : HV) : HV := match difQ A n with
  | none => B
  | some d => (putInP B (tW d.2.2 0) (tW d.2.2 1) (tW d.2.2 2) (tW d.2.2 3) d.2.1).2
noncomputable def dvB (A : HV) (n : Int) (w : Nat) : HV := if w = 2 then dvPut A n (takeOutP (wipeP A).2).2 else (takeOutP (wipeP A).2).2
noncomputable def dvL (A : HV) (n : Int) (w : Nat) : Nat → HV
  | 0 => dvB A n w
  | i + 1 => dvSt A n w (scribeP (dvL A n w i)).2
noncomputable def dvE (A : HV) (n : Int) (w : Nat) : HV := dvL A n w n.toNat
noncomputable def dividesP (s : Sv) (n w : Int) : Int × Sv := if (2 ≤ n ∧ n ≤ 60) ∧ (0 ≤ w ∧ w ≤ 2) then (if hw (sA s) n w.toNat = 0 then (-2, s) else (dvE (sA s) n w.toNat 0 7, rowS (pushS s (dvE (sA s) n w.toNat)) [if dvE (sA s) n w.toNat 0 10 = 0 then 1 else 0, if cntG (dvE (sA s) n w.toNat) (dvE (sA s) n w.toNat 0 7).toNat = 1 then 1 else 0])) else (-1, s)
theorem dvSt_va {A B : HV} {n : Int} {w : Nat} (V : VA B) : VA (dvSt A n w B) := by
  unfold dvSt
  by_cases c : w = 1
  · rw [if_pos c]; unfold dvCm; exact (((V.choose _).wind _ _ _).choose _).wind _ _ _
  · rw [if_neg c]; unfold dvSm; exact (V.choose _).wind _ _ _
theorem dvB_va {A : HV} {n : Int} {w : Nat} (V : VA A) : VA (dvB A n w) := by
  have V1 : VA (takeOutP (wipeP A).2).2 := VA.takeOut V.wipe
  unfold dvB
  by_cases c : w = 2
  · rw [if_pos c]; unfold dvPut
    cases difQ A n with
    | none => exact V1
    | some d => exact V1.putIn _ _ _ _ _
  · rw [if_neg c]; exact V1
theorem dvL_va {A : HV} {n : Int} {w i : Nat} (V : VA A) : VA (dvL A n w i) := by
  induction i with
  | zero => exact dvB_va V
  | succ i ih => exact dvSt_va ih.scribe
section CDv
variable {X : Ctx} {l : Launch} {D : Dt} {h : Hp} {x m t : Nat} {Q : Pq} {A B : HV} {s : Sv}
/-- the trial at work: what is, the trial, the way -/
def DvT (h : Hp) (x m t : Nat) (s : Sv) (B : HV) (n : Int) (w : Nat) : Prop := CSt h x m s ∧ gr h x 13 = some t ∧ HdR h t B ∧ WyH h x (sA s) n w
theorem ShT.same {h' : Hp} {sh : Nat} (T : ShT h sh A) (F : St5 h' sh) (e : ∀ b j, sh ≤ b → b < sh + 6 → gi h' b j = gi h b j) : ShT h' sh A := by
  obtain ⟨n, ⟨-, s1, s0, S0⟩, te⟩ := T
  have g : ∀ b, sh ≤ b → b < sh + 6 → gf h' b = gf h b := fun b h1 h2 => by funext j; unfold gf; rw [e b j h1 h2]
  refine ⟨n, ⟨F, by rw [g sh (by omega) (by omega)]; exact s1, by rw [g sh (by omega) (by omega)]; exact s0, ?_⟩, fun k hk => by rw [g (sh + 1) (by omega) (by omega)]; exact te k hk⟩
  rw [g (sh + 1) (by omega) (by omega), g (sh + 2) (by omega) (by omega), g (sh + 3) (by omega) (by omega), g (sh + 4) (by omega) (by omega), g (sh + 5) (by omega) (by omega)]; exact S0
theorem DfH.same {h' : Hp} {w sh : Nat} {o : Option (Int × Int × Nat)} (R : DfH h w sh A o) (e1 : ∀ j, gi h' w j = gi h w j) (e2 : ∀ j, gi h' (w + 1) j = gi h (w + 1) j) (e3 : ∀ j, gi h' (sh + 4) j = gi h (sh + 4) j) : DfH h' w sh A o := by
  cases o with
  | none =>
    have r : gf h w 1 = 0 := R
    show gf h' w 1 = 0
    unfold gf at r ⊢; rw [e1]; exact r
  | some d =>
    obtain ⟨r1, r2, ⟨e, r3, r4, r5⟩, r6, r7⟩ := R
    refine ⟨?_, ?_, ⟨e, r3, ?_, ?_⟩, r6, r7.same e2⟩
    · unfold gf at r1 ⊢; rw [e1]; exact r1
    · unfold gf at r2 ⊢; rw [e1]; exact r2
    · unfold gf at r4 ⊢; rw [e1]; exact r4
    · unfold gf at r5 ⊢; rw [e3]; exact r5
theorem WyH.same {h' : Hp} {n : Int} {w : Nat} (W : WyH h x A n w) (e : ∀ b j, x + 5 ≤ b → b ≤ x + 8 → gi h' b j = gi h b j) (g : gr h' x 14 = gr h x 14) (es : ∀ sh, gr h x 14 = some sh → St5 h sh → St5 h' sh ∧ ∀ b j, sh ≤ b → b < sh + 6 → gi h' b j = gi h b j) : WyH h' x A n w := by
  unfold WyH at W ⊢
  by_cases c : w = 0
  · rw [if_pos c] at W ⊢; exact W.same (fun j => e _ j (by omega) (by omega))
  · rw [if_neg c] at W ⊢
    by_cases c1 : w = 1
    · rw [if_pos c1] at W ⊢
      unfold CWh CWo gf at W ⊢
      have e6 : ∀ j, gi h' (x + 6) j = gi h (x + 6) j := fun j => e _ j (by omega) (by omega)
      simp only [e6]; exact W
    · rw [if_neg c1] at W ⊢
      obtain ⟨sh, e14, T, R⟩ := W
      obtain ⟨F5, eb⟩ := es sh e14 (by obtain ⟨n, G, -⟩ := T; exact G.1)
      exact ⟨sh, by rw [g]; exact e14, T.same F5 eb, R.same (fun j => e _ j (by omega) (by omega)) (fun j => e _ j (by omega) (by omega)) (fun j => eb _ j (by omega) (by omega))⟩
/-- a step on the trial alone -/
theorem DvT.step {h' : Hp} {n : Int} {w : Nat} (T : DvT h x m t s A n w) (f : FrO (inH t) h h') (H : HdR h' t B) : DvT h' x m t s B n w ∧ FrX (inC x m) h h' := by
  obtain ⟨S, et, -, W⟩ := T
  obtain ⟨S', p', x'⟩ := S.onTrial et f
  obtain ⟨t', et', -, bt, -⟩ := S.trial
  have e : t' = t := by rw [et] at et'; cases et'; rfl
  subst e
  refine ⟨⟨S', by rw [f.2.2.2.1]; exact et, H, W.same (fun b j h1 h2 => (f.2.2.2.2 b (fun z => by unfold inH at z; omega) j).1) (by rw [f.2.2.2.1]) (fun sh e14 F => ⟨St5_same F f.2.1 f.2.2.1 f.2.2.2.1, fun b j h1 h2 => (f.2.2.2.2 b (fun z => ?_) j).1⟩)⟩, x'⟩
  obtain ⟨ok, q2, q3, q4⟩ := S.2.2.2.2.2.2.2.2 sh e14
  have dj := q4 1 t' (by omega) et
  unfold inH at z; omega
end CDv
