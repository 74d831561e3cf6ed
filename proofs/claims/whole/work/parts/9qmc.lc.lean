-- the law's calls: differential, ways, hard, train, nearest, ratios, lead
theorem dL_law_479 : decode cL_law 479 = .ok (.aload_n 1, 1) := by decide +kernel
theorem dL_law_480 : decode cL_law 480 = .ok (.aload_n 0, 1) := by decide +kernel
theorem dL_law_481 : decode cL_law 481 = .ok (.iload 4, 2) := by decide +kernel
theorem dL_law_483 : decode cL_law 483 = .ok (.iconst 1, 1) := by decide +kernel
theorem dL_law_484 : decode cL_law 484 = .ok (.iadd, 1) := by decide +kernel
theorem dL_law_485 : decode cL_law 485 = .ok (.iaload, 1) := by decide +kernel
theorem dL_law_486 : decode cL_law 486 = .ok (.invokevirtual 69, 3) := by decide +kernel
theorem dL_law_489 : decode cL_law 489 = .ok (.aload_n 2, 1) := by decide +kernel
theorem dL_law_490 : decode cL_law 490 = .ok (.aload_n 0, 1) := by decide +kernel
theorem dL_law_491 : decode cL_law 491 = .ok (.iload 4, 2) := by decide +kernel
theorem dL_law_493 : decode cL_law 493 = .ok (.iconst 1, 1) := by decide +kernel
theorem dL_law_494 : decode cL_law 494 = .ok (.iadd, 1) := by decide +kernel
theorem dL_law_495 : decode cL_law 495 = .ok (.iaload, 1) := by decide +kernel
theorem dL_law_496 : decode cL_law 496 = .ok (.invokevirtual 72, 3) := by decide +kernel
theorem dL_law_499 : decode cL_law 499 = .ok (.if_icmp .eq 782, 3) := by decide +kernel
theorem dL_law_502 : decode cL_law 502 = .ok (.iconst 0, 1) := by decide +kernel
theorem dL_law_503 : decode cL_law 503 = .ok (.ireturn, 1) := by decide +kernel
theorem dL_law_504 : decode cL_law 504 = .ok (.aload_n 1, 1) := by decide +kernel
theorem dL_law_505 : decode cL_law 505 = .ok (.aload_n 0, 1) := by decide +kernel
theorem dL_law_506 : decode cL_law 506 = .ok (.iload 4, 2) := by decide +kernel
theorem dL_law_508 : decode cL_law 508 = .ok (.iconst 1, 1) := by decide +kernel
theorem dL_law_509 : decode cL_law 509 = .ok (.iadd, 1) := by decide +kernel
theorem dL_law_510 : decode cL_law 510 = .ok (.iaload, 1) := by decide +kernel
theorem dL_law_511 : decode cL_law 511 = .ok (.invokevirtual 73, 3) := by decide +kernel
theorem dL_law_514 : decode cL_law 514 = .ok (.aload_n 2, 1) := by decide +kernel
theorem dL_law_515 : decode cL_law 515 = .ok (.aload_n 0, 1) := by decide +kernel
theorem dL_law_516 : decode cL_law 516 = .ok (.iload 4, 2) := by decide +kernel
theorem dL_law_518 : decode cL_law 518 = .ok (.iconst 1, 1) := by decide +kernel
theorem dL_law_519 : decode cL_law 519 = .ok (.iadd, 1) := by decide +kernel
theorem dL_law_520 : decode cL_law 520 = .ok (.iaload, 1) := by decide +kernel
theorem dL_law_521 : decode cL_law 521 = .ok (.invokevirtual 76, 3) := by decide +kernel
theorem dL_law_524 : decode cL_law 524 = .ok (.if_icmp .eq 757, 3) := by decide +kernel
theorem dL_law_527 : decode cL_law 527 = .ok (.iconst 0, 1) := by decide +kernel
theorem dL_law_528 : decode cL_law 528 = .ok (.ireturn, 1) := by decide +kernel
theorem dL_law_529 : decode cL_law 529 = .ok (.aload_n 1, 1) := by decide +kernel
theorem dL_law_530 : decode cL_law 530 = .ok (.aload_n 0, 1) := by decide +kernel
theorem dL_law_531 : decode cL_law 531 = .ok (.iload 4, 2) := by decide +kernel
theorem dL_law_533 : decode cL_law 533 = .ok (.iconst 1, 1) := by decide +kernel
theorem dL_law_534 : decode cL_law 534 = .ok (.iadd, 1) := by decide +kernel
theorem dL_law_535 : decode cL_law 535 = .ok (.iaload, 1) := by decide +kernel
theorem dL_law_536 : decode cL_law 536 = .ok (.aload_n 0, 1) := by decide +kernel
theorem dL_law_537 : decode cL_law 537 = .ok (.iload 4, 2) := by decide +kernel
theorem dL_law_539 : decode cL_law 539 = .ok (.iconst 2, 1) := by decide +kernel
theorem dL_law_540 : decode cL_law 540 = .ok (.iadd, 1) := by decide +kernel
theorem dL_law_541 : decode cL_law 541 = .ok (.iaload, 1) := by decide +kernel
theorem dL_law_542 : decode cL_law 542 = .ok (.invokevirtual 77, 3) := by decide +kernel
theorem dL_law_545 : decode cL_law 545 = .ok (.aload_n 2, 1) := by decide +kernel
theorem dL_law_546 : decode cL_law 546 = .ok (.aload_n 0, 1) := by decide +kernel
theorem dL_law_547 : decode cL_law 547 = .ok (.iload 4, 2) := by decide +kernel
theorem dL_law_549 : decode cL_law 549 = .ok (.iconst 1, 1) := by decide +kernel
theorem dL_law_550 : decode cL_law 550 = .ok (.iadd, 1) := by decide +kernel
theorem dL_law_551 : decode cL_law 551 = .ok (.iaload, 1) := by decide +kernel
theorem dL_law_552 : decode cL_law 552 = .ok (.aload_n 0, 1) := by decide +kernel
theorem dL_law_553 : decode cL_law 553 = .ok (.iload 4, 2) := by decide +kernel
theorem dL_law_555 : decode cL_law 555 = .ok (.iconst 2, 1) := by decide +kernel
theorem dL_law_556 : decode cL_law 556 = .ok (.iadd, 1) := by decide +kernel
theorem dL_law_557 : decode cL_law 557 = .ok (.iaload, 1) := by decide +kernel
theorem dL_law_558 : decode cL_law 558 = .ok (.invokevirtual 80, 3) := by decide +kernel
theorem dL_law_561 : decode cL_law 561 = .ok (.if_icmp .eq 720, 3) := by decide +kernel
theorem dL_law_564 : decode cL_law 564 = .ok (.iconst 0, 1) := by decide +kernel
theorem dL_law_565 : decode cL_law 565 = .ok (.ireturn, 1) := by decide +kernel
theorem dL_law_566 : decode cL_law 566 = .ok (.aload_n 1, 1) := by decide +kernel
theorem dL_law_567 : decode cL_law 567 = .ok (.aload_n 0, 1) := by decide +kernel
theorem dL_law_568 : decode cL_law 568 = .ok (.iload 4, 2) := by decide +kernel
theorem dL_law_570 : decode cL_law 570 = .ok (.iconst 1, 1) := by decide +kernel
theorem dL_law_571 : decode cL_law 571 = .ok (.iadd, 1) := by decide +kernel
theorem dL_law_572 : decode cL_law 572 = .ok (.iaload, 1) := by decide +kernel
theorem dL_law_573 : decode cL_law 573 = .ok (.aload_n 0, 1) := by decide +kernel
theorem dL_law_574 : decode cL_law 574 = .ok (.iload 4, 2) := by decide +kernel
theorem dL_law_576 : decode cL_law 576 = .ok (.iconst 2, 1) := by decide +kernel
theorem dL_law_577 : decode cL_law 577 = .ok (.iadd, 1) := by decide +kernel
theorem dL_law_578 : decode cL_law 578 = .ok (.iaload, 1) := by decide +kernel
theorem dL_law_579 : decode cL_law 579 = .ok (.invokevirtual 81, 3) := by decide +kernel
theorem dL_law_582 : decode cL_law 582 = .ok (.aload_n 2, 1) := by decide +kernel
theorem dL_law_583 : decode cL_law 583 = .ok (.aload_n 0, 1) := by decide +kernel
theorem dL_law_584 : decode cL_law 584 = .ok (.iload 4, 2) := by decide +kernel
theorem dL_law_586 : decode cL_law 586 = .ok (.iconst 1, 1) := by decide +kernel
theorem dL_law_587 : decode cL_law 587 = .ok (.iadd, 1) := by decide +kernel
theorem dL_law_588 : decode cL_law 588 = .ok (.iaload, 1) := by decide +kernel
theorem dL_law_589 : decode cL_law 589 = .ok (.aload_n 0, 1) := by decide +kernel
theorem dL_law_590 : decode cL_law 590 = .ok (.iload 4, 2) := by decide +kernel
theorem dL_law_592 : decode cL_law 592 = .ok (.iconst 2, 1) := by decide +kernel
theorem dL_law_593 : decode cL_law 593 = .ok (.iadd, 1) := by decide +kernel
theorem dL_law_594 : decode cL_law 594 = .ok (.iaload, 1) := by decide +kernel
theorem dL_law_595 : decode cL_law 595 = .ok (.invokevirtual 84, 3) := by decide +kernel
theorem dL_law_598 : decode cL_law 598 = .ok (.if_icmp .eq 683, 3) := by decide +kernel
theorem dL_law_601 : decode cL_law 601 = .ok (.iconst 0, 1) := by decide +kernel
theorem dL_law_602 : decode cL_law 602 = .ok (.ireturn, 1) := by decide +kernel
theorem dL_law_603 : decode cL_law 603 = .ok (.aload_n 1, 1) := by decide +kernel
theorem dL_law_604 : decode cL_law 604 = .ok (.aload_n 0, 1) := by decide +kernel
theorem dL_law_605 : decode cL_law 605 = .ok (.iload 4, 2) := by decide +kernel
theorem dL_law_607 : decode cL_law 607 = .ok (.iconst 1, 1) := by decide +kernel
theorem dL_law_608 : decode cL_law 608 = .ok (.iadd, 1) := by decide +kernel
theorem dL_law_609 : decode cL_law 609 = .ok (.iaload, 1) := by decide +kernel
theorem dL_law_610 : decode cL_law 610 = .ok (.aload_n 0, 1) := by decide +kernel
theorem dL_law_611 : decode cL_law 611 = .ok (.iload 4, 2) := by decide +kernel
theorem dL_law_613 : decode cL_law 613 = .ok (.iconst 2, 1) := by decide +kernel
theorem dL_law_614 : decode cL_law 614 = .ok (.iadd, 1) := by decide +kernel
theorem dL_law_615 : decode cL_law 615 = .ok (.iaload, 1) := by decide +kernel
theorem dL_law_616 : decode cL_law 616 = .ok (.invokevirtual 85, 3) := by decide +kernel
theorem dL_law_619 : decode cL_law 619 = .ok (.aload_n 2, 1) := by decide +kernel
theorem dL_law_620 : decode cL_law 620 = .ok (.aload_n 0, 1) := by decide +kernel
theorem dL_law_621 : decode cL_law 621 = .ok (.iload 4, 2) := by decide +kernel
theorem dL_law_623 : decode cL_law 623 = .ok (.iconst 1, 1) := by decide +kernel
theorem dL_law_624 : decode cL_law 624 = .ok (.iadd, 1) := by decide +kernel
theorem dL_law_625 : decode cL_law 625 = .ok (.iaload, 1) := by decide +kernel
theorem dL_law_626 : decode cL_law 626 = .ok (.aload_n 0, 1) := by decide +kernel
theorem dL_law_627 : decode cL_law 627 = .ok (.iload 4, 2) := by decide +kernel
theorem dL_law_629 : decode cL_law 629 = .ok (.iconst 2, 1) := by decide +kernel
theorem dL_law_630 : decode cL_law 630 = .ok (.iadd, 1) := by decide +kernel
theorem dL_law_631 : decode cL_law 631 = .ok (.iaload, 1) := by decide +kernel
theorem dL_law_632 : decode cL_law 632 = .ok (.invokevirtual 88, 3) := by decide +kernel
theorem dL_law_635 : decode cL_law 635 = .ok (.if_icmp .eq 646, 3) := by decide +kernel
theorem dL_law_638 : decode cL_law 638 = .ok (.iconst 0, 1) := by decide +kernel
theorem dL_law_639 : decode cL_law 639 = .ok (.ireturn, 1) := by decide +kernel
theorem dL_law_640 : decode cL_law 640 = .ok (.aload_n 1, 1) := by decide +kernel
theorem dL_law_641 : decode cL_law 641 = .ok (.invokevirtual 89, 3) := by decide +kernel
theorem dL_law_644 : decode cL_law 644 = .ok (.aload_n 2, 1) := by decide +kernel
theorem dL_law_645 : decode cL_law 645 = .ok (.invokevirtual 92, 3) := by decide +kernel
theorem dL_law_648 : decode cL_law 648 = .ok (.if_icmp .eq 633, 3) := by decide +kernel
theorem dL_law_651 : decode cL_law 651 = .ok (.iconst 0, 1) := by decide +kernel
theorem dL_law_652 : decode cL_law 652 = .ok (.ireturn, 1) := by decide +kernel
theorem dL_law_653 : decode cL_law 653 = .ok (.aload_n 1, 1) := by decide +kernel
theorem dL_law_654 : decode cL_law 654 = .ok (.aload_n 0, 1) := by decide +kernel
theorem dL_law_655 : decode cL_law 655 = .ok (.iload 4, 2) := by decide +kernel
theorem dL_law_657 : decode cL_law 657 = .ok (.iconst 1, 1) := by decide +kernel
theorem dL_law_658 : decode cL_law 658 = .ok (.iadd, 1) := by decide +kernel
theorem dL_law_659 : decode cL_law 659 = .ok (.iaload, 1) := by decide +kernel
theorem dL_law_660 : decode cL_law 660 = .ok (.invokevirtual 93, 3) := by decide +kernel
theorem dL_law_663 : decode cL_law 663 = .ok (.aload_n 2, 1) := by decide +kernel
theorem dL_law_664 : decode cL_law 664 = .ok (.aload_n 0, 1) := by decide +kernel
theorem dL_law_665 : decode cL_law 665 = .ok (.iload 4, 2) := by decide +kernel
theorem dL_law_667 : decode cL_law 667 = .ok (.iconst 1, 1) := by decide +kernel
theorem dL_law_668 : decode cL_law 668 = .ok (.iadd, 1) := by decide +kernel
theorem dL_law_669 : decode cL_law 669 = .ok (.iaload, 1) := by decide +kernel
theorem dL_law_670 : decode cL_law 670 = .ok (.invokevirtual 96, 3) := by decide +kernel
theorem dL_law_673 : decode cL_law 673 = .ok (.if_icmp .eq 608, 3) := by decide +kernel
theorem dL_law_676 : decode cL_law 676 = .ok (.iconst 0, 1) := by decide +kernel
theorem dL_law_677 : decode cL_law 677 = .ok (.ireturn, 1) := by decide +kernel
section Lc
variable {X : Ctx} {nm : String} {b L x m d k n : Nat} {xs : Nat → Int32} {i : Int32} {Q : Pq} {h : Hp} {s : Sv}
theorem lc_9 (C : CLw X nm) (E : SX X b L xs) (z : 0 < (dtX X).2.2.size) (i0 : 0 ≤ i.toInt) (iL : i.toInt + 6 ≤ L) (L3 : L ≤ 3072) (J : Jn h x m s) (bk : k + shC h x + 9 * (d + 1) ≤ mcX X) (bn : n + shM h x + 191 * (d + 1) ≤ msX X) (hk : LK X Q b x m i d) : Wj X k n Q 479 (LV b x m i) [] h := by
  obtain ⟨k3, n4, hk3, hn4, hs⟩ := cc_differential (l := lX X) (D := dtX X) z J.1 (n := xs (ix (i + 1)))
  refine w_aload_n (pc := 479) C dL_law_479 rfl ?_
  refine lw_ld (pc := 480) (v := 1) C E rfl dL_law_480 dL_law_481 dL_law_483 dL_law_484 dL_law_485 rfl rfl (inb_arg i0 iL L3 (by decide) (by decide)) ?_
  refine w_cV1_1 (pc := 486) (k' := k3) (n' := n4) (c := 9) C cl_L_69 lv_X9_differential (by decide) dL_law_486 (Nat.le_of_ble_eq_true rfl) rfl (by omega) (by omega) (St9_k J.1.1) (hs.mono (fun v h1 hp => ?_))
  obtain ⟨⟨y, rfl, ey⟩, S1, f1, c1, c2⟩ := hp
  obtain ⟨M1, o1⟩ := J.mid f1 (fun b q => Or.inl q)
  show Wj X _ _ Q 489 (LV b x m i) [.int y] h1
  refine w_aload_n (pc := 489) C dL_law_489 rfl ?_
  refine lw_ld (pc := 490) (v := 1) C E rfl dL_law_490 dL_law_491 dL_law_493 dL_law_494 dL_law_495 rfl rfl (inb_arg i0 iL L3 (by decide) (by decide)) ?_
  refine w_cV1_1 (pc := 496) (k' := 0) (n' := 0) (c := 10) C cl_L_72 lv_X10_differential (by decide) dL_law_496 (Nat.le_of_ble_eq_true rfl) rfl (by omega) (by omega) (St10_k M1.1.1) ((ma_differential M1).mono (fun v h2 hp => ?_))
  obtain ⟨y2, rfl, ey2, M2, f2⟩ := hp
  obtain ⟨J2, g1, g2⟩ := Jn.two S1 o1 M2 f2
  show Wj X _ _ Q 499 (LV b x m i) [.int y2, .int y] h2
  exact w_icmp_eq (pc := 499) (tgt := 1281) C dL_law_499 rfl ⟨fun _ => hk _ _ h2 _ J2 (by omega) (by omega), fun q => absurd (i32_eq.mpr (ey.trans ey2.symm)) q⟩
theorem lc_10 (C : CLw X nm) (E : SX X b L xs) (z : 0 < (dtX X).2.2.size) (i0 : 0 ≤ i.toInt) (iL : i.toInt + 6 ≤ L) (L3 : L ≤ 3072) (J : Jn h x m s) (bk : k + shC h x + 9 * (d + 1) ≤ mcX X) (bn : n + shM h x + 191 * (d + 1) ≤ msX X) (hk : LK X Q b x m i d) : Wj X k n Q 504 (LV b x m i) [] h := by
  obtain ⟨k3, n4, hk3, hn4, hs⟩ := cc_ways (l := lX X) (D := dtX X) z J.1 (n := xs (ix (i + 1)))
  refine w_aload_n (pc := 504) C dL_law_504 rfl ?_
  refine lw_ld (pc := 505) (v := 1) C E rfl dL_law_505 dL_law_506 dL_law_508 dL_law_509 dL_law_510 rfl rfl (inb_arg i0 iL L3 (by decide) (by decide)) ?_
  refine w_cV1_1 (pc := 511) (k' := k3) (n' := n4) (c := 9) C cl_L_73 lv_X9_ways (by decide) dL_law_511 (Nat.le_of_ble_eq_true rfl) rfl (by omega) (by omega) (St9_k J.1.1) (hs.mono (fun v h1 hp => ?_))
  obtain ⟨⟨y, rfl, ey⟩, S1, f1, c1, c2⟩ := hp
  obtain ⟨M1, o1⟩ := J.mid f1 (fun b q => Or.inl q)
  show Wj X _ _ Q 514 (LV b x m i) [.int y] h1
  refine w_aload_n (pc := 514) C dL_law_514 rfl ?_
  refine lw_ld (pc := 515) (v := 1) C E rfl dL_law_515 dL_law_516 dL_law_518 dL_law_519 dL_law_520 rfl rfl (inb_arg i0 iL L3 (by decide) (by decide)) ?_
  refine w_cV1_1 (pc := 521) (k' := 0) (n' := 0) (c := 10) C cl_L_76 lv_X10_ways (by decide) dL_law_521 (Nat.le_of_ble_eq_true rfl) rfl (by omega) (by omega) (St10_k M1.1.1) ((ma_ways M1).mono (fun v h2 hp => ?_))
  obtain ⟨y2, rfl, ey2, M2, f2⟩ := hp
  obtain ⟨J2, g1, g2⟩ := Jn.two S1 o1 M2 f2
  show Wj X _ _ Q 524 (LV b x m i) [.int y2, .int y] h2
  exact w_icmp_eq (pc := 524) (tgt := 1281) C dL_law_524 rfl ⟨fun _ => hk _ _ h2 _ J2 (by omega) (by omega), fun q => absurd (i32_eq.mpr (ey.trans ey2.symm)) q⟩
theorem lc_11 (C : CLw X nm) (E : SX X b L xs) (z : 0 < (dtX X).2.2.size) (i0 : 0 ≤ i.toInt) (iL : i.toInt + 6 ≤ L) (L3 : L ≤ 3072) (J : Jn h x m s) (bk : k + shC h x + 9 * (d + 1) ≤ mcX X) (bn : n + shM h x + 191 * (d + 1) ≤ msX X) (hk : LK X Q b x m i d) : Wj X k n Q 529 (LV b x m i) [] h := by
  obtain ⟨k3, n4, hk3, hn4, hs⟩ := cc_hard (l := lX X) (D := dtX X) z J.1 (lo := xs (ix (i + 1))) (hi := xs (ix (i + 2)))
  refine w_aload_n (pc := 529) C dL_law_529 rfl ?_
  refine lw_ld (pc := 530) (v := 1) C E rfl dL_law_530 dL_law_531 dL_law_533 dL_law_534 dL_law_535 rfl rfl (inb_arg i0 iL L3 (by decide) (by decide)) ?_
  refine lw_ld (pc := 536) (v := 2) C E rfl dL_law_536 dL_law_537 dL_law_539 dL_law_540 dL_law_541 rfl rfl (inb_arg i0 iL L3 (by decide) (by decide)) ?_
  refine w_cV1_2 (pc := 542) (k' := k3) (n' := n4) (c := 9) C cl_L_77 lv_X9_hard (by decide) dL_law_542 (Nat.le_of_ble_eq_true rfl) rfl (by omega) (by omega) (St9_k J.1.1) (hs.mono (fun v h1 hp => ?_))
  obtain ⟨⟨y, rfl, ey⟩, S1, f1, c1, c2⟩ := hp
  obtain ⟨M1, o1⟩ := J.mid f1 (fun b q => Or.inl q)
  show Wj X _ _ Q 545 (LV b x m i) [.int y] h1
  refine w_aload_n (pc := 545) C dL_law_545 rfl ?_
  refine lw_ld (pc := 546) (v := 1) C E rfl dL_law_546 dL_law_547 dL_law_549 dL_law_550 dL_law_551 rfl rfl (inb_arg i0 iL L3 (by decide) (by decide)) ?_
  refine lw_ld (pc := 552) (v := 2) C E rfl dL_law_552 dL_law_553 dL_law_555 dL_law_556 dL_law_557 rfl rfl (inb_arg i0 iL L3 (by decide) (by decide)) ?_
  refine w_cV1_2 (pc := 558) (k' := 0) (n' := 0) (c := 10) C cl_L_80 lv_X10_hard (by decide) dL_law_558 (Nat.le_of_ble_eq_true rfl) rfl (by omega) (by omega) (St10_k M1.1.1) ((ma_hard M1).mono (fun v h2 hp => ?_))
  obtain ⟨y2, rfl, ey2, M2, f2⟩ := hp
  obtain ⟨J2, g1, g2⟩ := Jn.two S1 o1 M2 f2
  show Wj X _ _ Q 561 (LV b x m i) [.int y2, .int y] h2
  exact w_icmp_eq (pc := 561) (tgt := 1281) C dL_law_561 rfl ⟨fun _ => hk _ _ h2 _ J2 (by omega) (by omega), fun q => absurd (i32_eq.mpr (ey.trans ey2.symm)) q⟩
theorem lc_12 (C : CLw X nm) (E : SX X b L xs) (z : 0 < (dtX X).2.2.size) (i0 : 0 ≤ i.toInt) (iL : i.toInt + 6 ≤ L) (L3 : L ≤ 3072) (J : Jn h x m s) (bk : k + shC h x + 9 * (d + 1) ≤ mcX X) (bn : n + shM h x + 191 * (d + 1) ≤ msX X) (hk : LK X Q b x m i d) : Wj X k n Q 566 (LV b x m i) [] h := by
  obtain ⟨k3, n4, hk3, hn4, hs⟩ := cc_train (l := lX X) (D := dtX X) z J.1 (p := xs (ix (i + 1))) (q := xs (ix (i + 2)))
  refine w_aload_n (pc := 566) C dL_law_566 rfl ?_
  refine lw_ld (pc := 567) (v := 1) C E rfl dL_law_567 dL_law_568 dL_law_570 dL_law_571 dL_law_572 rfl rfl (inb_arg i0 iL L3 (by decide) (by decide)) ?_
  refine lw_ld (pc := 573) (v := 2) C E rfl dL_law_573 dL_law_574 dL_law_576 dL_law_577 dL_law_578 rfl rfl (inb_arg i0 iL L3 (by decide) (by decide)) ?_
  refine w_cV1_2 (pc := 579) (k' := k3) (n' := n4) (c := 9) C cl_L_81 lv_X9_train (by decide) dL_law_579 (Nat.le_of_ble_eq_true rfl) rfl (by omega) (by omega) (St9_k J.1.1) (hs.mono (fun v h1 hp => ?_))
  obtain ⟨⟨y, rfl, ey⟩, S1, f1, c1, c2⟩ := hp
  obtain ⟨M1, o1⟩ := J.mid f1 (fun b q => Or.inl q)
  show Wj X _ _ Q 582 (LV b x m i) [.int y] h1
  refine w_aload_n (pc := 582) C dL_law_582 rfl ?_
  refine lw_ld (pc := 583) (v := 1) C E rfl dL_law_583 dL_law_584 dL_law_586 dL_law_587 dL_law_588 rfl rfl (inb_arg i0 iL L3 (by decide) (by decide)) ?_
  refine lw_ld (pc := 589) (v := 2) C E rfl dL_law_589 dL_law_590 dL_law_592 dL_law_593 dL_law_594 rfl rfl (inb_arg i0 iL L3 (by decide) (by decide)) ?_
  refine w_cV1_2 (pc := 595) (k' := 0) (n' := 0) (c := 10) C cl_L_84 lv_X10_train (by decide) dL_law_595 (Nat.le_of_ble_eq_true rfl) rfl (by omega) (by omega) (St10_k M1.1.1) ((ma_train M1).mono (fun v h2 hp => ?_))
  obtain ⟨y2, rfl, ey2, M2, f2⟩ := hp
  obtain ⟨J2, g1, g2⟩ := Jn.two S1 o1 M2 f2
  show Wj X _ _ Q 598 (LV b x m i) [.int y2, .int y] h2
  exact w_icmp_eq (pc := 598) (tgt := 1281) C dL_law_598 rfl ⟨fun _ => hk _ _ h2 _ J2 (by omega) (by omega), fun q => absurd (i32_eq.mpr (ey.trans ey2.symm)) q⟩
theorem lc_13 (C : CLw X nm) (E : SX X b L xs) (z : 0 < (dtX X).2.2.size) (i0 : 0 ≤ i.toInt) (iL : i.toInt + 6 ≤ L) (L3 : L ≤ 3072) (J : Jn h x m s) (bk : k + shC h x + 9 * (d + 1) ≤ mcX X) (bn : n + shM h x + 191 * (d + 1) ≤ msX X) (hk : LK X Q b x m i d) : Wj X k n Q 603 (LV b x m i) [] h := by
  obtain ⟨k3, n4, hk3, hn4, hs⟩ := cc_nearest (l := lX X) (D := dtX X) z J.1 (p := xs (ix (i + 1))) (q := xs (ix (i + 2)))
  refine w_aload_n (pc := 603) C dL_law_603 rfl ?_
  refine lw_ld (pc := 604) (v := 1) C E rfl dL_law_604 dL_law_605 dL_law_607 dL_law_608 dL_law_609 rfl rfl (inb_arg i0 iL L3 (by decide) (by decide)) ?_
  refine lw_ld (pc := 610) (v := 2) C E rfl dL_law_610 dL_law_611 dL_law_613 dL_law_614 dL_law_615 rfl rfl (inb_arg i0 iL L3 (by decide) (by decide)) ?_
  refine w_cV1_2 (pc := 616) (k' := k3) (n' := n4) (c := 9) C cl_L_85 lv_X9_nearest (by decide) dL_law_616 (Nat.le_of_ble_eq_true rfl) rfl (by omega) (by omega) (St9_k J.1.1) (hs.mono (fun v h1 hp => ?_))
  obtain ⟨⟨y, rfl, ey⟩, S1, f1, c1, c2⟩ := hp
  obtain ⟨M1, o1⟩ := J.mid f1 (fun b q => Or.inl q)
  show Wj X _ _ Q 619 (LV b x m i) [.int y] h1
  refine w_aload_n (pc := 619) C dL_law_619 rfl ?_
  refine lw_ld (pc := 620) (v := 1) C E rfl dL_law_620 dL_law_621 dL_law_623 dL_law_624 dL_law_625 rfl rfl (inb_arg i0 iL L3 (by decide) (by decide)) ?_
  refine lw_ld (pc := 626) (v := 2) C E rfl dL_law_626 dL_law_627 dL_law_629 dL_law_630 dL_law_631 rfl rfl (inb_arg i0 iL L3 (by decide) (by decide)) ?_
  refine w_cV1_2 (pc := 632) (k' := 0) (n' := 0) (c := 10) C cl_L_88 lv_X10_nearest (by decide) dL_law_632 (Nat.le_of_ble_eq_true rfl) rfl (by omega) (by omega) (St10_k M1.1.1) ((ma_nearest M1).mono (fun v h2 hp => ?_))
  obtain ⟨y2, rfl, ey2, M2, f2⟩ := hp
  obtain ⟨J2, g1, g2⟩ := Jn.two S1 o1 M2 f2
  show Wj X _ _ Q 635 (LV b x m i) [.int y2, .int y] h2
  exact w_icmp_eq (pc := 635) (tgt := 1281) C dL_law_635 rfl ⟨fun _ => hk _ _ h2 _ J2 (by omega) (by omega), fun q => absurd (i32_eq.mpr (ey.trans ey2.symm)) q⟩
theorem lc_14 (C : CLw X nm) (E : SX X b L xs) (z : 0 < (dtX X).2.2.size) (i0 : 0 ≤ i.toInt) (iL : i.toInt + 6 ≤ L) (L3 : L ≤ 3072) (J : Jn h x m s) (bk : k + shC h x + 9 * (d + 1) ≤ mcX X) (bn : n + shM h x + 191 * (d + 1) ≤ msX X) (hk : LK X Q b x m i d) : Wj X k n Q 640 (LV b x m i) [] h := by
  obtain ⟨k3, n4, hk3, hn4, hs⟩ := cc_ratios (l := lX X) (D := dtX X) z J.1
  refine w_aload_n (pc := 640) C dL_law_640 rfl ?_
  refine w_cV1_0 (pc := 641) (k' := k3) (n' := n4) (c := 9) C cl_L_89 lv_X9_ratios (by decide) dL_law_641 (Nat.le_of_ble_eq_true rfl) rfl (by omega) (by omega) (St9_k J.1.1) (hs.mono (fun v h1 hp => ?_))
  obtain ⟨⟨y, rfl, ey⟩, S1, f1, c1, c2⟩ := hp
  obtain ⟨M1, o1⟩ := J.mid f1 (fun b q => Or.inl q)
  show Wj X _ _ Q 644 (LV b x m i) [.int y] h1
  refine w_aload_n (pc := 644) C dL_law_644 rfl ?_
  refine w_cV1_0 (pc := 645) (k' := 0) (n' := 0) (c := 10) C cl_L_92 lv_X10_ratios (by decide) dL_law_645 (Nat.le_of_ble_eq_true rfl) rfl (by omega) (by omega) (St10_k M1.1.1) ((ma_ratios M1).mono (fun v h2 hp => ?_))
  obtain ⟨y2, rfl, ey2, M2, f2⟩ := hp
  obtain ⟨J2, g1, g2⟩ := Jn.two S1 o1 M2 f2
  show Wj X _ _ Q 648 (LV b x m i) [.int y2, .int y] h2
  exact w_icmp_eq (pc := 648) (tgt := 1281) C dL_law_648 rfl ⟨fun _ => hk _ _ h2 _ J2 (by omega) (by omega), fun q => absurd (i32_eq.mpr (ey.trans ey2.symm)) q⟩
theorem lc_15 (C : CLw X nm) (E : SX X b L xs) (z : 0 < (dtX X).2.2.size) (i0 : 0 ≤ i.toInt) (iL : i.toInt + 6 ≤ L) (L3 : L ≤ 3072) (J : Jn h x m s) (bk : k + shC h x + 9 * (d + 1) ≤ mcX X) (bn : n + shM h x + 191 * (d + 1) ≤ msX X) (hk : LK X Q b x m i d) : Wj X k n Q 653 (LV b x m i) [] h := by
  obtain ⟨k3, n4, hk3, hn4, hs⟩ := cc_lead (l := lX X) (D := dtX X) z J.1 (v := xs (ix (i + 1)))
  refine w_aload_n (pc := 653) C dL_law_653 rfl ?_
  refine lw_ld (pc := 654) (v := 1) C E rfl dL_law_654 dL_law_655 dL_law_657 dL_law_658 dL_law_659 rfl rfl (inb_arg i0 iL L3 (by decide) (by decide)) ?_
  refine w_cV1_1 (pc := 660) (k' := k3) (n' := n4) (c := 9) C cl_L_93 lv_X9_lead (by decide) dL_law_660 (Nat.le_of_ble_eq_true rfl) rfl (by omega) (by omega) (St9_k J.1.1) (hs.mono (fun v h1 hp => ?_))
  obtain ⟨⟨y, rfl, ey⟩, S1, f1, c1, c2⟩ := hp
  obtain ⟨M1, o1⟩ := J.mid f1 (fun b q => Or.inl q)
  show Wj X _ _ Q 663 (LV b x m i) [.int y] h1
  refine w_aload_n (pc := 663) C dL_law_663 rfl ?_
  refine lw_ld (pc := 664) (v := 1) C E rfl dL_law_664 dL_law_665 dL_law_667 dL_law_668 dL_law_669 rfl rfl (inb_arg i0 iL L3 (by decide) (by decide)) ?_
  refine w_cV1_1 (pc := 670) (k' := 0) (n' := 0) (c := 10) C cl_L_96 lv_X10_lead (by decide) dL_law_670 (Nat.le_of_ble_eq_true rfl) rfl (by omega) (by omega) (St10_k M1.1.1) ((ma_lead M1).mono (fun v h2 hp => ?_))
  obtain ⟨y2, rfl, ey2, M2, f2⟩ := hp
  obtain ⟨J2, g1, g2⟩ := Jn.two S1 o1 M2 f2
  show Wj X _ _ Q 673 (LV b x m i) [.int y2, .int y] h2
  exact w_icmp_eq (pc := 673) (tgt := 1281) C dL_law_673 rfl ⟨fun _ => hk _ _ h2 _ J2 (by omega) (by omega), fun q => absurd (i32_eq.mpr (ey.trans ey2.symm)) q⟩
end Lc
