-- the law: its loop, its start
theorem dL_law_0 : decode cL_law 0 = .ok (.new 8, 3) := by decide +kernel
theorem dL_law_3 : decode cL_law 3 = .ok (.dup, 1) := by decide +kernel
theorem dL_law_4 : decode cL_law 4 = .ok (.invokespecial 22, 3) := by decide +kernel
theorem dL_law_7 : decode cL_law 7 = .ok (.astore_n 1, 1) := by decide +kernel
theorem dL_law_8 : decode cL_law 8 = .ok (.new 23, 3) := by decide +kernel
theorem dL_law_11 : decode cL_law 11 = .ok (.dup, 1) := by decide +kernel
theorem dL_law_12 : decode cL_law 12 = .ok (.invokespecial 25, 3) := by decide +kernel
theorem dL_law_15 : decode cL_law 15 = .ok (.astore_n 2, 1) := by decide +kernel
theorem dL_law_16 : decode cL_law 16 = .ok (.iconst 1, 1) := by decide +kernel
theorem dL_law_17 : decode cL_law 17 = .ok (.newarray .long, 2) := by decide +kernel
theorem dL_law_19 : decode cL_law 19 = .ok (.astore_n 3, 1) := by decide +kernel
theorem dL_law_20 : decode cL_law 20 = .ok (.iconst 0, 1) := by decide +kernel
theorem dL_law_21 : decode cL_law 21 = .ok (.istore 4, 2) := by decide +kernel
theorem dL_law_23 : decode cL_law 23 = .ok (.iload 4, 2) := by decide +kernel
theorem dL_law_25 : decode cL_law 25 = .ok (.aload_n 0, 1) := by decide +kernel
theorem dL_law_26 : decode cL_law 26 = .ok (.arraylength, 1) := by decide +kernel
theorem dL_law_27 : decode cL_law 27 = .ok (.bipush 6, 2) := by decide +kernel
theorem dL_law_29 : decode cL_law 29 = .ok (.isub, 1) := by decide +kernel
theorem dL_law_30 : decode cL_law 30 = .ok (.if_icmp .gt 1257, 3) := by decide +kernel
theorem dL_law_33 : decode cL_law 33 = .ok (.aload_n 0, 1) := by decide +kernel
theorem dL_law_34 : decode cL_law 34 = .ok (.iload 4, 2) := by decide +kernel
theorem dL_law_36 : decode cL_law 36 = .ok (.iaload, 1) := by decide +kernel
theorem dL_law_37 : decode cL_law 37 = .ok (.bipush 63, 2) := by decide +kernel
theorem dL_law_39 : decode cL_law 39 = .ok (.iand, 1) := by decide +kernel
theorem dL_law_40 : decode cL_law 40 = .ok (.tableswitch 1241 0 36 #[164, 189, 214, 227, 240, 277, 333, 389, 414, 439, 464, 489, 526, 563, 600, 613, 638, 687, 724, 749, 774, 847, 860, 909, 922, 935, 972, 997, 1010, 1035, 1048, 1061, 1074, 1111, 1136, 1161, 1186], 164) := by decide +kernel
theorem dL_law_1281 : decode cL_law 1281 = .ok (.iinc 4 6, 3) := by decide +kernel
theorem dL_law_1284 : decode cL_law 1284 = .ok (.goto (-1261), 3) := by decide +kernel
theorem dL_law_1287 : decode cL_law 1287 = .ok (.iconst 1, 1) := by decide +kernel
theorem dL_law_1288 : decode cL_law 1288 = .ok (.ireturn, 1) := by decide +kernel
theorem ofN_t {L : Nat} (h : L ≤ 3072) : (Int32.ofNat L).toInt = L := by rw [Int32.toInt_ofNat', bm32] <;> omega
theorem i6_t : (6 : Int32).toInt = 6 := rfl
section Lp
variable {X : Ctx} {nm : String} {b L x m : Nat} {xs : Nat → Int32} {Q : Pq}
theorem lw_head {k n : Nat} {i : Int32} {h : Hp} (C : CLw X nm) (E : SX X b L xs) (L3 : L ≤ 3072) (K1 : (L : Int) < i.toInt + 6 → Wj X k n Q 1287 (LV b x m i) [] h) (K2 : i.toInt + 6 ≤ L → Wj X k n Q 33 (LV b x m i) [] h) : Wj X k n Q 23 (LV b x m i) [] h := by
  have e1 := ofN_t L3
  have e2 : (Int32.ofNat L - 6).toInt = (L : Int) - 6 := by rw [isub_t] <;> rw [e1, i6_t] <;> omega
  refine w_iload (pc := 23) C dL_law_23 rfl ?_
  refine w_aload_n (pc := 25) C dL_law_25 rfl ?_
  refine w_slen (pc := 26) C E dL_law_26 ?_
  refine w_bipush (pc := 27) (v := 6) C dL_law_27 rfl ?_
  refine w_isub (pc := 29) C dL_law_29 ?_
  refine w_icmp_gt (pc := 30) (tgt := 1287) C dL_law_30 rfl ⟨fun q => K1 ?_, fun q => K2 ?_⟩
  all_goals rw [i32_lt, e2] at q; omega
theorem lw_loop (C : CLw X nm) (E : SX X b L xs) (hfl : (lX X).stackTraces = false) (kx : KxX X) (z : 0 < (dtX X).2.2.size) (L3 : L ≤ 3072) (hq : ∀ h, Q (some (.int 1)) h) (d : Nat) : ∀ (i : Int32) (k n : Nat) (h : Hp) (s : Sv), 0 ≤ i.toInt → i.toInt ≤ 3072 → (L : Int) < i.toInt + 6 * d + 6 → Jn h x m s → k + shC h x + 9 * d ≤ mcX X → n + shM h x + 191 * d ≤ msX X → Wj X k n Q 23 (LV b x m i) [] h := by
  induction d with
  | zero =>
    intro i k n h s i0 i1 hd J bk bn
    refine lw_head C E L3 (fun _ => ?_) (fun q => by omega)
    refine w_iconst (pc := 1287) (v := 1) C dL_law_1287 rfl ?_
    exact w_zret (pc := 1288) C dL_law_1288 (Or.inr rfl) (hq h)
  | succ d ih =>
    intro i k n h s i0 i1 hd J bk bn
    refine lw_head C E L3 (fun _ => ?_) (fun iL => ?_)
    · refine w_iconst (pc := 1287) (v := 1) C dL_law_1287 rfl ?_
      exact w_zret (pc := 1288) C dL_law_1288 (Or.inr rfl) (hq h)
    have hk : LK X Q b x m i d := by
      intro k' n' h' s' J' bk' bn'
      have e : (i + Int32.ofInt 6).toInt = i.toInt + 6 := by rw [iadd_t] <;> rw [show (Int32.ofInt 6).toInt = 6 from rfl] <;> omega
      refine w_iinc (pc := 1281) C dL_law_1281 rfl (by decide) ?_
      refine w_goto (pc := 1284) (tgt := 23) C dL_law_1284 rfl ?_
      exact ih (i + Int32.ofInt 6) k' n' h' s' (by omega) (by omega) (by omega) J' bk' bn'
    refine w_aload_n (pc := 33) C dL_law_33 rfl ?_
    refine w_iload (pc := 34) C dL_law_34 rfl ?_
    refine w_sld (pc := 36) C E ⟨i0, by omega⟩ dL_law_36 ?_
    refine w_bipush (pc := 37) (v := 63) C dL_law_37 rfl ?_
    refine w_iand (pc := 39) C dL_law_39 ?_
    generalize xs (ix i) &&& 63 = v
    by_cases r : v.toInt < 0 ∨ 36 < v.toInt
    · exact w_tswOut (pc := 40) (tgt := 1281) C dL_law_40 r rfl (hk k n h s J (by omega) (by omega))
    obtain ⟨c, hc⟩ : ∃ c : Nat, v.toInt = c := ⟨v.toInt.toNat, by omega⟩
    have hc' : (v.toInt - 0).toNat = c := by omega
    rcases (show c = 0 ∨ c = 1 ∨ c = 2 ∨ c = 3 ∨ c = 4 ∨ c = 5 ∨ c = 6 ∨ c = 7 ∨ c = 8 ∨ c = 9 ∨ c = 10 ∨ c = 11 ∨ c = 12 ∨ c = 13 ∨ c = 14 ∨ c = 15 ∨ c = 16 ∨ c = 17 ∨ c = 18 ∨ c = 19 ∨ c = 20 ∨ c = 21 ∨ c = 22 ∨ c = 23 ∨ c = 24 ∨ c = 25 ∨ c = 26 ∨ c = 27 ∨ c = 28 ∨ c = 29 ∨ c = 30 ∨ c = 31 ∨ c = 32 ∨ c = 33 ∨ c = 34 ∨ c = 35 ∨ c = 36 by omega) with e | e | e | e | e | e | e | e | e | e | e | e | e | e | e | e | e | e | e | e | e | e | e | e | e | e | e | e | e | e | e | e | e | e | e | e | e
    · exact w_tswIn (pc := 40) (off := 164) (tgt := 204) C dL_law_40 (by omega) (by omega) (by rw [hc', e]; rfl) rfl (lc_0 C E z i0 iL L3 J bk bn hk)
    · exact w_tswIn (pc := 40) (off := 189) (tgt := 229) C dL_law_40 (by omega) (by omega) (by rw [hc', e]; rfl) rfl (lc_1 C E z i0 iL L3 J bk bn hk)
    · exact w_tswIn (pc := 40) (off := 214) (tgt := 254) C dL_law_40 (by omega) (by omega) (by rw [hc', e]; rfl) rfl (lc_2 C E z i0 iL L3 J bk bn hk)
    · exact w_tswIn (pc := 40) (off := 227) (tgt := 267) C dL_law_40 (by omega) (by omega) (by rw [hc', e]; rfl) rfl (lc_3 C E z i0 iL L3 J bk bn hk)
    · exact w_tswIn (pc := 40) (off := 240) (tgt := 280) C dL_law_40 (by omega) (by omega) (by rw [hc', e]; rfl) rfl (lc_4 C E z i0 iL L3 J bk bn hk)
    · exact w_tswIn (pc := 40) (off := 277) (tgt := 317) C dL_law_40 (by omega) (by omega) (by rw [hc', e]; rfl) rfl (lc_5 C E hfl kx z i0 iL L3 J bk bn hk)
    · exact w_tswIn (pc := 40) (off := 333) (tgt := 373) C dL_law_40 (by omega) (by omega) (by rw [hc', e]; rfl) rfl (lc_6 C E hfl kx z i0 iL L3 J bk bn hk)
    · exact w_tswIn (pc := 40) (off := 389) (tgt := 429) C dL_law_40 (by omega) (by omega) (by rw [hc', e]; rfl) rfl (lc_7 C E z i0 iL L3 J bk bn hk)
    · exact w_tswIn (pc := 40) (off := 414) (tgt := 454) C dL_law_40 (by omega) (by omega) (by rw [hc', e]; rfl) rfl (lc_8 C E z i0 iL L3 J bk bn hk)
    · exact w_tswIn (pc := 40) (off := 439) (tgt := 479) C dL_law_40 (by omega) (by omega) (by rw [hc', e]; rfl) rfl (lc_9 C E z i0 iL L3 J bk bn hk)
    · exact w_tswIn (pc := 40) (off := 464) (tgt := 504) C dL_law_40 (by omega) (by omega) (by rw [hc', e]; rfl) rfl (lc_10 C E z i0 iL L3 J bk bn hk)
    · exact w_tswIn (pc := 40) (off := 489) (tgt := 529) C dL_law_40 (by omega) (by omega) (by rw [hc', e]; rfl) rfl (lc_11 C E z i0 iL L3 J bk bn hk)
    · exact w_tswIn (pc := 40) (off := 526) (tgt := 566) C dL_law_40 (by omega) (by omega) (by rw [hc', e]; rfl) rfl (lc_12 C E z i0 iL L3 J bk bn hk)
    · exact w_tswIn (pc := 40) (off := 563) (tgt := 603) C dL_law_40 (by omega) (by omega) (by rw [hc', e]; rfl) rfl (lc_13 C E z i0 iL L3 J bk bn hk)
    · exact w_tswIn (pc := 40) (off := 600) (tgt := 640) C dL_law_40 (by omega) (by omega) (by rw [hc', e]; rfl) rfl (lc_14 C E z i0 iL L3 J bk bn hk)
    · exact w_tswIn (pc := 40) (off := 613) (tgt := 653) C dL_law_40 (by omega) (by omega) (by rw [hc', e]; rfl) rfl (lc_15 C E z i0 iL L3 J bk bn hk)
    · exact w_tswIn (pc := 40) (off := 638) (tgt := 678) C dL_law_40 (by omega) (by omega) (by rw [hc', e]; rfl) rfl (lc_16 C E z i0 iL L3 J bk bn hk)
    · exact w_tswIn (pc := 40) (off := 687) (tgt := 727) C dL_law_40 (by omega) (by omega) (by rw [hc', e]; rfl) rfl (lc_17 C E z i0 iL L3 J bk bn hk)
    · exact w_tswIn (pc := 40) (off := 724) (tgt := 764) C dL_law_40 (by omega) (by omega) (by rw [hc', e]; rfl) rfl (lc_18 C E z i0 iL L3 J bk bn hk)
    · exact w_tswIn (pc := 40) (off := 749) (tgt := 789) C dL_law_40 (by omega) (by omega) (by rw [hc', e]; rfl) rfl (lc_19 C E z i0 iL L3 J bk bn hk)
    · exact w_tswIn (pc := 40) (off := 774) (tgt := 814) C dL_law_40 (by omega) (by omega) (by rw [hc', e]; rfl) rfl (lc_20 C E z i0 iL L3 J bk bn hk)
    · exact w_tswIn (pc := 40) (off := 847) (tgt := 887) C dL_law_40 (by omega) (by omega) (by rw [hc', e]; rfl) rfl (lc_21 C E z i0 iL L3 J bk bn hk)
    · exact w_tswIn (pc := 40) (off := 860) (tgt := 900) C dL_law_40 (by omega) (by omega) (by rw [hc', e]; rfl) rfl (lc_22 C E z i0 iL L3 J bk bn hk)
    · exact w_tswIn (pc := 40) (off := 909) (tgt := 949) C dL_law_40 (by omega) (by omega) (by rw [hc', e]; rfl) rfl (lc_23 C E z i0 iL L3 J bk bn hk)
    · exact w_tswIn (pc := 40) (off := 922) (tgt := 962) C dL_law_40 (by omega) (by omega) (by rw [hc', e]; rfl) rfl (lc_24 C E z i0 iL L3 J bk bn hk)
    · exact w_tswIn (pc := 40) (off := 935) (tgt := 975) C dL_law_40 (by omega) (by omega) (by rw [hc', e]; rfl) rfl (lc_25 C E z i0 iL L3 J bk bn hk)
    · exact w_tswIn (pc := 40) (off := 972) (tgt := 1012) C dL_law_40 (by omega) (by omega) (by rw [hc', e]; rfl) rfl (lc_26 C E z i0 iL L3 J bk bn hk)
    · exact w_tswIn (pc := 40) (off := 997) (tgt := 1037) C dL_law_40 (by omega) (by omega) (by rw [hc', e]; rfl) rfl (lc_27 C E z i0 iL L3 J bk bn hk)
    · exact w_tswIn (pc := 40) (off := 1010) (tgt := 1050) C dL_law_40 (by omega) (by omega) (by rw [hc', e]; rfl) rfl (lc_28 C E z i0 iL L3 J bk bn hk)
    · exact w_tswIn (pc := 40) (off := 1035) (tgt := 1075) C dL_law_40 (by omega) (by omega) (by rw [hc', e]; rfl) rfl (lc_29 C E z i0 iL L3 J bk bn hk)
    · exact w_tswIn (pc := 40) (off := 1048) (tgt := 1088) C dL_law_40 (by omega) (by omega) (by rw [hc', e]; rfl) rfl (lc_30 C E z i0 iL L3 J bk bn hk)
    · exact w_tswIn (pc := 40) (off := 1061) (tgt := 1101) C dL_law_40 (by omega) (by omega) (by rw [hc', e]; rfl) rfl (lc_31 C E z i0 iL L3 J bk bn hk)
    · exact w_tswIn (pc := 40) (off := 1074) (tgt := 1114) C dL_law_40 (by omega) (by omega) (by rw [hc', e]; rfl) rfl (lc_32 C E z i0 iL L3 J bk bn hk)
    · exact w_tswIn (pc := 40) (off := 1111) (tgt := 1151) C dL_law_40 (by omega) (by omega) (by rw [hc', e]; rfl) rfl (lc_33 C E z i0 iL L3 J bk bn hk)
    · exact w_tswIn (pc := 40) (off := 1136) (tgt := 1176) C dL_law_40 (by omega) (by omega) (by rw [hc', e]; rfl) rfl (lc_34 C E z i0 iL L3 J bk bn hk)
    · exact w_tswIn (pc := 40) (off := 1161) (tgt := 1201) C dL_law_40 (by omega) (by omega) (by rw [hc', e]; rfl) rfl (lc_35 C E z i0 iL L3 J bk bn hk)
    · exact w_tswIn (pc := 40) (off := 1186) (tgt := 1226) C dL_law_40 (by omega) (by omega) (by rw [hc', e]; rfl) rfl (lc_36 C E hfl kx z i0 iL L3 J bk bn hk)
end Lp
section Ls
variable {X : Ctx} {nm : String} {b L : Nat} {xs : Nat → Int32} {Q : Pq} {h : Hp}
theorem lw_body (C : CLw X nm) (E : SX X b L xs) (hfl : (lX X).stackTraces = false) (kx : KxX X) (z : 0 < (dtX X).2.2.size) (L3 : L ≤ 3072) (hq : ∀ h, Q (some (.int 1)) h) (hx : 0 < hn h) (g0 : gr h 0 0 = none) (hmc : mcX X = 601024) (hms : msX X = 7293034) : Wj X 0 0 Q 0 [(0, .ref b)] [] h := by
  refine w_new (pc := 0) (N := 15) C nl_L_8 rfl dL_law_0 (by omega) (by omega) ?_
  refine w_dup (pc := 3) C dL_law_3 rfl ?_
  refine w_cI1_0 (pc := 4) (k' := 34) (n' := 683) C cl_L_22 li_X9_init (by decide) dL_law_4 (Nat.le_of_ble_eq_true rfl) (by omega) (by omega) (sp_init9.mono (fun v h1 hp => ?_))
  obtain ⟨rfl, c0, f1⟩ := hp
  show Wj X _ _ Q 7 [(0, .ref b)] [.ref (hn h)] h1
  refine w_astore_n (pc := 7) C dL_law_7 (by decide) ?_
  refine w_new (pc := 8) (N := 43) C nl_L_23 rfl dL_law_8 (by omega) (by omega) ?_
  refine w_dup (pc := 11) C dL_law_11 rfl ?_
  refine w_cI1_0 (pc := 12) (k' := 16) (n' := 14980) C cl_L_25 li_X10_init (by decide) dL_law_12 (Nat.le_of_ble_eq_true rfl) (by omega) (by omega) (sp_init10.mono (fun v h2 hp => ?_))
  obtain ⟨rfl, M2, n2, f2⟩ := hp
  show Wj X _ _ Q 15 [(1, .ref (hn h)), (0, .ref b)] [.ref (hn h1)] h2
  refine w_astore_n (pc := 15) C dL_law_15 (by decide) ?_
  refine w_iconst (pc := 16) (v := 1) C dL_law_16 rfl ?_
  refine w_newa (atype := .long) (pc := 17) 1 (N := 1) (ty := .long) C ac_long rfl rfl (by decide) dL_law_17 (by decide) rfl (by decide) (by omega) (by omega) ?_
  refine w_astore_n (pc := 19) C dL_law_19 (by decide) ?_
  refine w_iconst (pc := 20) (v := 0) C dL_law_20 rfl ?_
  refine w_istore (pc := 21) C dL_law_21 (by decide) ?_
  have n1 : hn h1 = hn h + 35 := c0.2.1
  have e2 : hn h2 = hn h1 + 17 := n2
  rw [e2]
  show Wj X _ _ Q 23 (LV b (hn h) (hn h1) 0) [] (nw h2 21 1)
  have f3 : Fr0 h1 (nw h2 21 1) := FrX.nw f2
  have g1 : gr h1 0 0 = none := by rw [((f1.2 0 hx).2 id 0).2.2]; exact g0
  have g3 : gr (nw h2 21 1) 0 0 = none := by rw [((f3.2 0 (by omega)).2 id 0).2.2]; exact g1
  have S : CSt (nw h2 21 1) (hn h) (hn h1) sv1 := c0_cst c0 f3 n1 (by rw [hn_nw]; omega) hx g3
  have M : MSt (nw h2 21 1) (hn h1) sv1 := M2.fx (T := fun _ => False) (FrX.nw FrX.rf) (fun _ _ _ => id) (by omega)
  have J : Jn (nw h2 21 1) (hn h) (hn h1) sv1 := ⟨S, M, by rw [kd_nw, if_pos e2.symm], by rw [ln_nw, if_pos e2.symm]⟩
  obtain ⟨b1, b2⟩ := shC_le (nw h2 21 1) (hn h)
  exact lw_loop C E hfl kx z L3 hq 512 0 _ _ _ sv1 (by decide) (by decide) (by rw [i0_t]; omega) J (by omega) (by omega)
end Ls
