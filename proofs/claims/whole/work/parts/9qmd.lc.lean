-- the law's calls: near, tree, angle, uses, geared, ungeared, cranks
theorem dL_law_678 : decode cL_law 678 = .ok (.aload_n 1, 1) := by decide +kernel
theorem dL_law_679 : decode cL_law 679 = .ok (.aload_n 0, 1) := by decide +kernel
theorem dL_law_680 : decode cL_law 680 = .ok (.iload 4, 2) := by decide +kernel
theorem dL_law_682 : decode cL_law 682 = .ok (.iconst 1, 1) := by decide +kernel
theorem dL_law_683 : decode cL_law 683 = .ok (.iadd, 1) := by decide +kernel
theorem dL_law_684 : decode cL_law 684 = .ok (.iaload, 1) := by decide +kernel
theorem dL_law_685 : decode cL_law 685 = .ok (.aload_n 0, 1) := by decide +kernel
theorem dL_law_686 : decode cL_law 686 = .ok (.iload 4, 2) := by decide +kernel
theorem dL_law_688 : decode cL_law 688 = .ok (.iconst 2, 1) := by decide +kernel
theorem dL_law_689 : decode cL_law 689 = .ok (.iadd, 1) := by decide +kernel
theorem dL_law_690 : decode cL_law 690 = .ok (.iaload, 1) := by decide +kernel
theorem dL_law_691 : decode cL_law 691 = .ok (.aload_n 0, 1) := by decide +kernel
theorem dL_law_692 : decode cL_law 692 = .ok (.iload 4, 2) := by decide +kernel
theorem dL_law_694 : decode cL_law 694 = .ok (.iconst 3, 1) := by decide +kernel
theorem dL_law_695 : decode cL_law 695 = .ok (.iadd, 1) := by decide +kernel
theorem dL_law_696 : decode cL_law 696 = .ok (.iaload, 1) := by decide +kernel
theorem dL_law_697 : decode cL_law 697 = .ok (.invokevirtual 97, 3) := by decide +kernel
theorem dL_law_700 : decode cL_law 700 = .ok (.aload_n 2, 1) := by decide +kernel
theorem dL_law_701 : decode cL_law 701 = .ok (.aload_n 0, 1) := by decide +kernel
theorem dL_law_702 : decode cL_law 702 = .ok (.iload 4, 2) := by decide +kernel
theorem dL_law_704 : decode cL_law 704 = .ok (.iconst 1, 1) := by decide +kernel
theorem dL_law_705 : decode cL_law 705 = .ok (.iadd, 1) := by decide +kernel
theorem dL_law_706 : decode cL_law 706 = .ok (.iaload, 1) := by decide +kernel
theorem dL_law_707 : decode cL_law 707 = .ok (.aload_n 0, 1) := by decide +kernel
theorem dL_law_708 : decode cL_law 708 = .ok (.iload 4, 2) := by decide +kernel
theorem dL_law_710 : decode cL_law 710 = .ok (.iconst 2, 1) := by decide +kernel
theorem dL_law_711 : decode cL_law 711 = .ok (.iadd, 1) := by decide +kernel
theorem dL_law_712 : decode cL_law 712 = .ok (.iaload, 1) := by decide +kernel
theorem dL_law_713 : decode cL_law 713 = .ok (.aload_n 0, 1) := by decide +kernel
theorem dL_law_714 : decode cL_law 714 = .ok (.iload 4, 2) := by decide +kernel
theorem dL_law_716 : decode cL_law 716 = .ok (.iconst 3, 1) := by decide +kernel
theorem dL_law_717 : decode cL_law 717 = .ok (.iadd, 1) := by decide +kernel
theorem dL_law_718 : decode cL_law 718 = .ok (.iaload, 1) := by decide +kernel
theorem dL_law_719 : decode cL_law 719 = .ok (.invokevirtual 101, 3) := by decide +kernel
theorem dL_law_722 : decode cL_law 722 = .ok (.if_icmp .eq 559, 3) := by decide +kernel
theorem dL_law_725 : decode cL_law 725 = .ok (.iconst 0, 1) := by decide +kernel
theorem dL_law_726 : decode cL_law 726 = .ok (.ireturn, 1) := by decide +kernel
theorem dL_law_727 : decode cL_law 727 = .ok (.aload_n 1, 1) := by decide +kernel
theorem dL_law_728 : decode cL_law 728 = .ok (.aload_n 0, 1) := by decide +kernel
theorem dL_law_729 : decode cL_law 729 = .ok (.iload 4, 2) := by decide +kernel
theorem dL_law_731 : decode cL_law 731 = .ok (.iconst 1, 1) := by decide +kernel
theorem dL_law_732 : decode cL_law 732 = .ok (.iadd, 1) := by decide +kernel
theorem dL_law_733 : decode cL_law 733 = .ok (.iaload, 1) := by decide +kernel
theorem dL_law_734 : decode cL_law 734 = .ok (.aload_n 0, 1) := by decide +kernel
theorem dL_law_735 : decode cL_law 735 = .ok (.iload 4, 2) := by decide +kernel
theorem dL_law_737 : decode cL_law 737 = .ok (.iconst 2, 1) := by decide +kernel
theorem dL_law_738 : decode cL_law 738 = .ok (.iadd, 1) := by decide +kernel
theorem dL_law_739 : decode cL_law 739 = .ok (.iaload, 1) := by decide +kernel
theorem dL_law_740 : decode cL_law 740 = .ok (.invokevirtual 102, 3) := by decide +kernel
theorem dL_law_743 : decode cL_law 743 = .ok (.aload_n 2, 1) := by decide +kernel
theorem dL_law_744 : decode cL_law 744 = .ok (.aload_n 0, 1) := by decide +kernel
theorem dL_law_745 : decode cL_law 745 = .ok (.iload 4, 2) := by decide +kernel
theorem dL_law_747 : decode cL_law 747 = .ok (.iconst 1, 1) := by decide +kernel
theorem dL_law_748 : decode cL_law 748 = .ok (.iadd, 1) := by decide +kernel
theorem dL_law_749 : decode cL_law 749 = .ok (.iaload, 1) := by decide +kernel
theorem dL_law_750 : decode cL_law 750 = .ok (.aload_n 0, 1) := by decide +kernel
theorem dL_law_751 : decode cL_law 751 = .ok (.iload 4, 2) := by decide +kernel
theorem dL_law_753 : decode cL_law 753 = .ok (.iconst 2, 1) := by decide +kernel
theorem dL_law_754 : decode cL_law 754 = .ok (.iadd, 1) := by decide +kernel
theorem dL_law_755 : decode cL_law 755 = .ok (.iaload, 1) := by decide +kernel
theorem dL_law_756 : decode cL_law 756 = .ok (.invokevirtual 105, 3) := by decide +kernel
theorem dL_law_759 : decode cL_law 759 = .ok (.if_icmp .eq 522, 3) := by decide +kernel
theorem dL_law_762 : decode cL_law 762 = .ok (.iconst 0, 1) := by decide +kernel
theorem dL_law_763 : decode cL_law 763 = .ok (.ireturn, 1) := by decide +kernel
theorem dL_law_764 : decode cL_law 764 = .ok (.aload_n 1, 1) := by decide +kernel
theorem dL_law_765 : decode cL_law 765 = .ok (.aload_n 0, 1) := by decide +kernel
theorem dL_law_766 : decode cL_law 766 = .ok (.iload 4, 2) := by decide +kernel
theorem dL_law_768 : decode cL_law 768 = .ok (.iconst 1, 1) := by decide +kernel
theorem dL_law_769 : decode cL_law 769 = .ok (.iadd, 1) := by decide +kernel
theorem dL_law_770 : decode cL_law 770 = .ok (.iaload, 1) := by decide +kernel
theorem dL_law_771 : decode cL_law 771 = .ok (.invokevirtual 106, 3) := by decide +kernel
theorem dL_law_774 : decode cL_law 774 = .ok (.aload_n 2, 1) := by decide +kernel
theorem dL_law_775 : decode cL_law 775 = .ok (.aload_n 0, 1) := by decide +kernel
theorem dL_law_776 : decode cL_law 776 = .ok (.iload 4, 2) := by decide +kernel
theorem dL_law_778 : decode cL_law 778 = .ok (.iconst 1, 1) := by decide +kernel
theorem dL_law_779 : decode cL_law 779 = .ok (.iadd, 1) := by decide +kernel
theorem dL_law_780 : decode cL_law 780 = .ok (.iaload, 1) := by decide +kernel
theorem dL_law_781 : decode cL_law 781 = .ok (.invokevirtual 109, 3) := by decide +kernel
theorem dL_law_784 : decode cL_law 784 = .ok (.if_icmp .eq 497, 3) := by decide +kernel
theorem dL_law_787 : decode cL_law 787 = .ok (.iconst 0, 1) := by decide +kernel
theorem dL_law_788 : decode cL_law 788 = .ok (.ireturn, 1) := by decide +kernel
theorem dL_law_789 : decode cL_law 789 = .ok (.aload_n 1, 1) := by decide +kernel
theorem dL_law_790 : decode cL_law 790 = .ok (.aload_n 0, 1) := by decide +kernel
theorem dL_law_791 : decode cL_law 791 = .ok (.iload 4, 2) := by decide +kernel
theorem dL_law_793 : decode cL_law 793 = .ok (.iconst 1, 1) := by decide +kernel
theorem dL_law_794 : decode cL_law 794 = .ok (.iadd, 1) := by decide +kernel
theorem dL_law_795 : decode cL_law 795 = .ok (.iaload, 1) := by decide +kernel
theorem dL_law_796 : decode cL_law 796 = .ok (.invokevirtual 110, 3) := by decide +kernel
theorem dL_law_799 : decode cL_law 799 = .ok (.aload_n 2, 1) := by decide +kernel
theorem dL_law_800 : decode cL_law 800 = .ok (.aload_n 0, 1) := by decide +kernel
theorem dL_law_801 : decode cL_law 801 = .ok (.iload 4, 2) := by decide +kernel
theorem dL_law_803 : decode cL_law 803 = .ok (.iconst 1, 1) := by decide +kernel
theorem dL_law_804 : decode cL_law 804 = .ok (.iadd, 1) := by decide +kernel
theorem dL_law_805 : decode cL_law 805 = .ok (.iaload, 1) := by decide +kernel
theorem dL_law_806 : decode cL_law 806 = .ok (.invokevirtual 113, 3) := by decide +kernel
theorem dL_law_809 : decode cL_law 809 = .ok (.if_icmp .eq 472, 3) := by decide +kernel
theorem dL_law_812 : decode cL_law 812 = .ok (.iconst 0, 1) := by decide +kernel
theorem dL_law_813 : decode cL_law 813 = .ok (.ireturn, 1) := by decide +kernel
theorem dL_law_814 : decode cL_law 814 = .ok (.aload_n 1, 1) := by decide +kernel
theorem dL_law_815 : decode cL_law 815 = .ok (.aload_n 0, 1) := by decide +kernel
theorem dL_law_816 : decode cL_law 816 = .ok (.iload 4, 2) := by decide +kernel
theorem dL_law_818 : decode cL_law 818 = .ok (.iconst 1, 1) := by decide +kernel
theorem dL_law_819 : decode cL_law 819 = .ok (.iadd, 1) := by decide +kernel
theorem dL_law_820 : decode cL_law 820 = .ok (.iaload, 1) := by decide +kernel
theorem dL_law_821 : decode cL_law 821 = .ok (.aload_n 0, 1) := by decide +kernel
theorem dL_law_822 : decode cL_law 822 = .ok (.iload 4, 2) := by decide +kernel
theorem dL_law_824 : decode cL_law 824 = .ok (.iconst 2, 1) := by decide +kernel
theorem dL_law_825 : decode cL_law 825 = .ok (.iadd, 1) := by decide +kernel
theorem dL_law_826 : decode cL_law 826 = .ok (.iaload, 1) := by decide +kernel
theorem dL_law_827 : decode cL_law 827 = .ok (.aload_n 0, 1) := by decide +kernel
theorem dL_law_828 : decode cL_law 828 = .ok (.iload 4, 2) := by decide +kernel
theorem dL_law_830 : decode cL_law 830 = .ok (.iconst 3, 1) := by decide +kernel
theorem dL_law_831 : decode cL_law 831 = .ok (.iadd, 1) := by decide +kernel
theorem dL_law_832 : decode cL_law 832 = .ok (.iaload, 1) := by decide +kernel
theorem dL_law_833 : decode cL_law 833 = .ok (.aload_n 0, 1) := by decide +kernel
theorem dL_law_834 : decode cL_law 834 = .ok (.iload 4, 2) := by decide +kernel
theorem dL_law_836 : decode cL_law 836 = .ok (.iconst 4, 1) := by decide +kernel
theorem dL_law_837 : decode cL_law 837 = .ok (.iadd, 1) := by decide +kernel
theorem dL_law_838 : decode cL_law 838 = .ok (.iaload, 1) := by decide +kernel
theorem dL_law_839 : decode cL_law 839 = .ok (.aload_n 0, 1) := by decide +kernel
theorem dL_law_840 : decode cL_law 840 = .ok (.iload 4, 2) := by decide +kernel
theorem dL_law_842 : decode cL_law 842 = .ok (.iconst 5, 1) := by decide +kernel
theorem dL_law_843 : decode cL_law 843 = .ok (.iadd, 1) := by decide +kernel
theorem dL_law_844 : decode cL_law 844 = .ok (.iaload, 1) := by decide +kernel
theorem dL_law_845 : decode cL_law 845 = .ok (.invokevirtual 114, 3) := by decide +kernel
theorem dL_law_848 : decode cL_law 848 = .ok (.aload_n 2, 1) := by decide +kernel
theorem dL_law_849 : decode cL_law 849 = .ok (.aload_n 0, 1) := by decide +kernel
theorem dL_law_850 : decode cL_law 850 = .ok (.iload 4, 2) := by decide +kernel
theorem dL_law_852 : decode cL_law 852 = .ok (.iconst 1, 1) := by decide +kernel
theorem dL_law_853 : decode cL_law 853 = .ok (.iadd, 1) := by decide +kernel
theorem dL_law_854 : decode cL_law 854 = .ok (.iaload, 1) := by decide +kernel
theorem dL_law_855 : decode cL_law 855 = .ok (.aload_n 0, 1) := by decide +kernel
theorem dL_law_856 : decode cL_law 856 = .ok (.iload 4, 2) := by decide +kernel
theorem dL_law_858 : decode cL_law 858 = .ok (.iconst 2, 1) := by decide +kernel
theorem dL_law_859 : decode cL_law 859 = .ok (.iadd, 1) := by decide +kernel
theorem dL_law_860 : decode cL_law 860 = .ok (.iaload, 1) := by decide +kernel
theorem dL_law_861 : decode cL_law 861 = .ok (.aload_n 0, 1) := by decide +kernel
theorem dL_law_862 : decode cL_law 862 = .ok (.iload 4, 2) := by decide +kernel
theorem dL_law_864 : decode cL_law 864 = .ok (.iconst 3, 1) := by decide +kernel
theorem dL_law_865 : decode cL_law 865 = .ok (.iadd, 1) := by decide +kernel
theorem dL_law_866 : decode cL_law 866 = .ok (.iaload, 1) := by decide +kernel
theorem dL_law_867 : decode cL_law 867 = .ok (.aload_n 0, 1) := by decide +kernel
theorem dL_law_868 : decode cL_law 868 = .ok (.iload 4, 2) := by decide +kernel
theorem dL_law_870 : decode cL_law 870 = .ok (.iconst 4, 1) := by decide +kernel
theorem dL_law_871 : decode cL_law 871 = .ok (.iadd, 1) := by decide +kernel
theorem dL_law_872 : decode cL_law 872 = .ok (.iaload, 1) := by decide +kernel
theorem dL_law_873 : decode cL_law 873 = .ok (.aload_n 0, 1) := by decide +kernel
theorem dL_law_874 : decode cL_law 874 = .ok (.iload 4, 2) := by decide +kernel
theorem dL_law_876 : decode cL_law 876 = .ok (.iconst 5, 1) := by decide +kernel
theorem dL_law_877 : decode cL_law 877 = .ok (.iadd, 1) := by decide +kernel
theorem dL_law_878 : decode cL_law 878 = .ok (.iaload, 1) := by decide +kernel
theorem dL_law_879 : decode cL_law 879 = .ok (.invokevirtual 118, 3) := by decide +kernel
theorem dL_law_882 : decode cL_law 882 = .ok (.if_icmp .eq 399, 3) := by decide +kernel
theorem dL_law_885 : decode cL_law 885 = .ok (.iconst 0, 1) := by decide +kernel
theorem dL_law_886 : decode cL_law 886 = .ok (.ireturn, 1) := by decide +kernel
theorem dL_law_887 : decode cL_law 887 = .ok (.aload_n 1, 1) := by decide +kernel
theorem dL_law_888 : decode cL_law 888 = .ok (.invokevirtual 119, 3) := by decide +kernel
theorem dL_law_891 : decode cL_law 891 = .ok (.aload_n 2, 1) := by decide +kernel
theorem dL_law_892 : decode cL_law 892 = .ok (.invokevirtual 122, 3) := by decide +kernel
theorem dL_law_895 : decode cL_law 895 = .ok (.if_icmp .eq 386, 3) := by decide +kernel
theorem dL_law_898 : decode cL_law 898 = .ok (.iconst 0, 1) := by decide +kernel
theorem dL_law_899 : decode cL_law 899 = .ok (.ireturn, 1) := by decide +kernel
theorem dL_law_900 : decode cL_law 900 = .ok (.aload_n 1, 1) := by decide +kernel
theorem dL_law_901 : decode cL_law 901 = .ok (.aload_n 0, 1) := by decide +kernel
theorem dL_law_902 : decode cL_law 902 = .ok (.iload 4, 2) := by decide +kernel
theorem dL_law_904 : decode cL_law 904 = .ok (.iconst 1, 1) := by decide +kernel
theorem dL_law_905 : decode cL_law 905 = .ok (.iadd, 1) := by decide +kernel
theorem dL_law_906 : decode cL_law 906 = .ok (.iaload, 1) := by decide +kernel
theorem dL_law_907 : decode cL_law 907 = .ok (.aload_n 0, 1) := by decide +kernel
theorem dL_law_908 : decode cL_law 908 = .ok (.iload 4, 2) := by decide +kernel
theorem dL_law_910 : decode cL_law 910 = .ok (.iconst 2, 1) := by decide +kernel
theorem dL_law_911 : decode cL_law 911 = .ok (.iadd, 1) := by decide +kernel
theorem dL_law_912 : decode cL_law 912 = .ok (.iaload, 1) := by decide +kernel
theorem dL_law_913 : decode cL_law 913 = .ok (.aload_n 0, 1) := by decide +kernel
theorem dL_law_914 : decode cL_law 914 = .ok (.iload 4, 2) := by decide +kernel
theorem dL_law_916 : decode cL_law 916 = .ok (.iconst 3, 1) := by decide +kernel
theorem dL_law_917 : decode cL_law 917 = .ok (.iadd, 1) := by decide +kernel
theorem dL_law_918 : decode cL_law 918 = .ok (.iaload, 1) := by decide +kernel
theorem dL_law_919 : decode cL_law 919 = .ok (.invokevirtual 123, 3) := by decide +kernel
theorem dL_law_922 : decode cL_law 922 = .ok (.aload_n 2, 1) := by decide +kernel
theorem dL_law_923 : decode cL_law 923 = .ok (.aload_n 0, 1) := by decide +kernel
theorem dL_law_924 : decode cL_law 924 = .ok (.iload 4, 2) := by decide +kernel
theorem dL_law_926 : decode cL_law 926 = .ok (.iconst 1, 1) := by decide +kernel
theorem dL_law_927 : decode cL_law 927 = .ok (.iadd, 1) := by decide +kernel
theorem dL_law_928 : decode cL_law 928 = .ok (.iaload, 1) := by decide +kernel
theorem dL_law_929 : decode cL_law 929 = .ok (.aload_n 0, 1) := by decide +kernel
theorem dL_law_930 : decode cL_law 930 = .ok (.iload 4, 2) := by decide +kernel
theorem dL_law_932 : decode cL_law 932 = .ok (.iconst 2, 1) := by decide +kernel
theorem dL_law_933 : decode cL_law 933 = .ok (.iadd, 1) := by decide +kernel
theorem dL_law_934 : decode cL_law 934 = .ok (.iaload, 1) := by decide +kernel
theorem dL_law_935 : decode cL_law 935 = .ok (.aload_n 0, 1) := by decide +kernel
theorem dL_law_936 : decode cL_law 936 = .ok (.iload 4, 2) := by decide +kernel
theorem dL_law_938 : decode cL_law 938 = .ok (.iconst 3, 1) := by decide +kernel
theorem dL_law_939 : decode cL_law 939 = .ok (.iadd, 1) := by decide +kernel
theorem dL_law_940 : decode cL_law 940 = .ok (.iaload, 1) := by decide +kernel
theorem dL_law_941 : decode cL_law 941 = .ok (.invokevirtual 126, 3) := by decide +kernel
theorem dL_law_944 : decode cL_law 944 = .ok (.if_icmp .eq 337, 3) := by decide +kernel
theorem dL_law_947 : decode cL_law 947 = .ok (.iconst 0, 1) := by decide +kernel
theorem dL_law_948 : decode cL_law 948 = .ok (.ireturn, 1) := by decide +kernel
section Lc
variable {X : Ctx} {nm : String} {b L x m d k n : Nat} {xs : Nat → Int32} {i : Int32} {Q : Pq} {h : Hp} {s : Sv}
theorem lc_16 (C : CLw X nm) (E : SX X b L xs) (z : 0 < (dtX X).2.2.size) (i0 : 0 ≤ i.toInt) (iL : i.toInt + 6 ≤ L) (L3 : L ≤ 3072) (J : Jn h x m s) (bk : k + shC h x + 9 * (d + 1) ≤ mcX X) (bn : n + shM h x + 191 * (d + 1) ≤ msX X) (hk : LK X Q b x m i d) : Wj X k n Q 678 (LV b x m i) [] h := by
  refine w_aload_n (pc := 678) C dL_law_678 rfl ?_
  refine lw_ld (pc := 679) (v := 1) C E rfl dL_law_679 dL_law_680 dL_law_682 dL_law_683 dL_law_684 rfl rfl (inb_arg i0 iL L3 (by decide) (by decide)) ?_
  refine lw_ld (pc := 685) (v := 2) C E rfl dL_law_685 dL_law_686 dL_law_688 dL_law_689 dL_law_690 rfl rfl (inb_arg i0 iL L3 (by decide) (by decide)) ?_
  refine lw_ld (pc := 691) (v := 3) C E rfl dL_law_691 dL_law_692 dL_law_694 dL_law_695 dL_law_696 rfl rfl (inb_arg i0 iL L3 (by decide) (by decide)) ?_
  refine w_cV1_3 (pc := 697) (k' := 0) (n' := 0) (c := 9) C cl_L_97 lv_X9_near (by decide) dL_law_697 (Nat.le_of_ble_eq_true rfl) rfl (by omega) (by omega) (St9_k J.1.1) ((cc_near z J.1).mono (fun v h1 hp => ?_))
  obtain ⟨⟨y, rfl, ey⟩, S1, f1, c1, c2⟩ := hp
  obtain ⟨M1, o1⟩ := J.mid f1 (fun b q => Or.inl q)
  show Wj X _ _ Q 700 (LV b x m i) [.int y] h1
  refine w_aload_n (pc := 700) C dL_law_700 rfl ?_
  refine lw_ld (pc := 701) (v := 1) C E rfl dL_law_701 dL_law_702 dL_law_704 dL_law_705 dL_law_706 rfl rfl (inb_arg i0 iL L3 (by decide) (by decide)) ?_
  refine lw_ld (pc := 707) (v := 2) C E rfl dL_law_707 dL_law_708 dL_law_710 dL_law_711 dL_law_712 rfl rfl (inb_arg i0 iL L3 (by decide) (by decide)) ?_
  refine lw_ld (pc := 713) (v := 3) C E rfl dL_law_713 dL_law_714 dL_law_716 dL_law_717 dL_law_718 rfl rfl (inb_arg i0 iL L3 (by decide) (by decide)) ?_
  refine w_cV1_3 (pc := 719) (k' := 0) (n' := 0) (c := 10) C cl_L_101 lv_X10_near (by decide) dL_law_719 (Nat.le_of_ble_eq_true rfl) rfl (by omega) (by omega) (St10_k M1.1.1) ((ma_near M1).mono (fun v h2 hp => ?_))
  obtain ⟨y2, rfl, ey2, M2, f2⟩ := hp
  obtain ⟨J2, g1, g2⟩ := Jn.two S1 o1 M2 f2
  show Wj X _ _ Q 722 (LV b x m i) [.int y2, .int y] h2
  exact w_icmp_eq (pc := 722) (tgt := 1281) C dL_law_722 rfl ⟨fun _ => hk _ _ h2 _ J2 (by omega) (by omega), fun q => absurd (i32_eq.mpr (ey.trans ey2.symm)) q⟩
theorem lc_17 (C : CLw X nm) (E : SX X b L xs) (z : 0 < (dtX X).2.2.size) (i0 : 0 ≤ i.toInt) (iL : i.toInt + 6 ≤ L) (L3 : L ≤ 3072) (J : Jn h x m s) (bk : k + shC h x + 9 * (d + 1) ≤ mcX X) (bn : n + shM h x + 191 * (d + 1) ≤ msX X) (hk : LK X Q b x m i d) : Wj X k n Q 727 (LV b x m i) [] h := by
  refine w_aload_n (pc := 727) C dL_law_727 rfl ?_
  refine lw_ld (pc := 728) (v := 1) C E rfl dL_law_728 dL_law_729 dL_law_731 dL_law_732 dL_law_733 rfl rfl (inb_arg i0 iL L3 (by decide) (by decide)) ?_
  refine lw_ld (pc := 734) (v := 2) C E rfl dL_law_734 dL_law_735 dL_law_737 dL_law_738 dL_law_739 rfl rfl (inb_arg i0 iL L3 (by decide) (by decide)) ?_
  refine w_cV1_2 (pc := 740) (k' := 0) (n' := 0) (c := 9) C cl_L_102 lv_X9_tree (by decide) dL_law_740 (Nat.le_of_ble_eq_true rfl) rfl (by omega) (by omega) (St9_k J.1.1) ((cc_tree z J.1).mono (fun v h1 hp => ?_))
  obtain ⟨⟨y, rfl, ey⟩, S1, f1, c1, c2⟩ := hp
  obtain ⟨M1, o1⟩ := J.mid f1 (fun b q => Or.inl q)
  show Wj X _ _ Q 743 (LV b x m i) [.int y] h1
  refine w_aload_n (pc := 743) C dL_law_743 rfl ?_
  refine lw_ld (pc := 744) (v := 1) C E rfl dL_law_744 dL_law_745 dL_law_747 dL_law_748 dL_law_749 rfl rfl (inb_arg i0 iL L3 (by decide) (by decide)) ?_
  refine lw_ld (pc := 750) (v := 2) C E rfl dL_law_750 dL_law_751 dL_law_753 dL_law_754 dL_law_755 rfl rfl (inb_arg i0 iL L3 (by decide) (by decide)) ?_
  refine w_cV1_2 (pc := 756) (k' := 0) (n' := 0) (c := 10) C cl_L_105 lv_X10_tree (by decide) dL_law_756 (Nat.le_of_ble_eq_true rfl) rfl (by omega) (by omega) (St10_k M1.1.1) ((ma_tree M1).mono (fun v h2 hp => ?_))
  obtain ⟨y2, rfl, ey2, M2, f2⟩ := hp
  obtain ⟨J2, g1, g2⟩ := Jn.two S1 o1 M2 f2
  show Wj X _ _ Q 759 (LV b x m i) [.int y2, .int y] h2
  exact w_icmp_eq (pc := 759) (tgt := 1281) C dL_law_759 rfl ⟨fun _ => hk _ _ h2 _ J2 (by omega) (by omega), fun q => absurd (i32_eq.mpr (ey.trans ey2.symm)) q⟩
theorem lc_18 (C : CLw X nm) (E : SX X b L xs) (z : 0 < (dtX X).2.2.size) (i0 : 0 ≤ i.toInt) (iL : i.toInt + 6 ≤ L) (L3 : L ≤ 3072) (J : Jn h x m s) (bk : k + shC h x + 9 * (d + 1) ≤ mcX X) (bn : n + shM h x + 191 * (d + 1) ≤ msX X) (hk : LK X Q b x m i d) : Wj X k n Q 764 (LV b x m i) [] h := by
  refine w_aload_n (pc := 764) C dL_law_764 rfl ?_
  refine lw_ld (pc := 765) (v := 1) C E rfl dL_law_765 dL_law_766 dL_law_768 dL_law_769 dL_law_770 rfl rfl (inb_arg i0 iL L3 (by decide) (by decide)) ?_
  refine w_cV1_1 (pc := 771) (k' := 0) (n' := 0) (c := 9) C cl_L_106 lv_X9_angle (by decide) dL_law_771 (Nat.le_of_ble_eq_true rfl) rfl (by omega) (by omega) (St9_k J.1.1) ((cc_angle z J.1).mono (fun v h1 hp => ?_))
  obtain ⟨⟨y, rfl, ey⟩, S1, f1, c1, c2⟩ := hp
  obtain ⟨M1, o1⟩ := J.mid f1 (fun b q => Or.inl q)
  show Wj X _ _ Q 774 (LV b x m i) [.int y] h1
  refine w_aload_n (pc := 774) C dL_law_774 rfl ?_
  refine lw_ld (pc := 775) (v := 1) C E rfl dL_law_775 dL_law_776 dL_law_778 dL_law_779 dL_law_780 rfl rfl (inb_arg i0 iL L3 (by decide) (by decide)) ?_
  refine w_cV1_1 (pc := 781) (k' := 0) (n' := 0) (c := 10) C cl_L_109 lv_X10_angle (by decide) dL_law_781 (Nat.le_of_ble_eq_true rfl) rfl (by omega) (by omega) (St10_k M1.1.1) ((ma_angle M1).mono (fun v h2 hp => ?_))
  obtain ⟨y2, rfl, ey2, M2, f2⟩ := hp
  obtain ⟨J2, g1, g2⟩ := Jn.two S1 o1 M2 f2
  show Wj X _ _ Q 784 (LV b x m i) [.int y2, .int y] h2
  exact w_icmp_eq (pc := 784) (tgt := 1281) C dL_law_784 rfl ⟨fun _ => hk _ _ h2 _ J2 (by omega) (by omega), fun q => absurd (i32_eq.mpr (ey.trans ey2.symm)) q⟩
theorem lc_19 (C : CLw X nm) (E : SX X b L xs) (z : 0 < (dtX X).2.2.size) (i0 : 0 ≤ i.toInt) (iL : i.toInt + 6 ≤ L) (L3 : L ≤ 3072) (J : Jn h x m s) (bk : k + shC h x + 9 * (d + 1) ≤ mcX X) (bn : n + shM h x + 191 * (d + 1) ≤ msX X) (hk : LK X Q b x m i d) : Wj X k n Q 789 (LV b x m i) [] h := by
  refine w_aload_n (pc := 789) C dL_law_789 rfl ?_
  refine lw_ld (pc := 790) (v := 1) C E rfl dL_law_790 dL_law_791 dL_law_793 dL_law_794 dL_law_795 rfl rfl (inb_arg i0 iL L3 (by decide) (by decide)) ?_
  refine w_cV1_1 (pc := 796) (k' := 9) (n' := 191) (c := 9) C cl_L_110 lv_X9_uses (by decide) dL_law_796 (Nat.le_of_ble_eq_true rfl) rfl (by omega) (by omega) (St9_k J.1.1) ((cc_uses z J.1).mono (fun v h1 hp => ?_))
  obtain ⟨⟨y, rfl, ey⟩, S1, f1, c1, c2⟩ := hp
  obtain ⟨M1, o1⟩ := J.mid f1 (fun b q => Or.inl q)
  show Wj X _ _ Q 799 (LV b x m i) [.int y] h1
  refine w_aload_n (pc := 799) C dL_law_799 rfl ?_
  refine lw_ld (pc := 800) (v := 1) C E rfl dL_law_800 dL_law_801 dL_law_803 dL_law_804 dL_law_805 rfl rfl (inb_arg i0 iL L3 (by decide) (by decide)) ?_
  refine w_cV1_1 (pc := 806) (k' := 0) (n' := 0) (c := 10) C cl_L_113 lv_X10_uses (by decide) dL_law_806 (Nat.le_of_ble_eq_true rfl) rfl (by omega) (by omega) (St10_k M1.1.1) ((ma_uses M1).mono (fun v h2 hp => ?_))
  obtain ⟨y2, rfl, ey2, M2, f2⟩ := hp
  obtain ⟨J2, g1, g2⟩ := Jn.two S1 o1 M2 f2
  show Wj X _ _ Q 809 (LV b x m i) [.int y2, .int y] h2
  exact w_icmp_eq (pc := 809) (tgt := 1281) C dL_law_809 rfl ⟨fun _ => hk _ _ h2 _ J2 (by omega) (by omega), fun q => absurd (i32_eq.mpr (ey.trans ey2.symm)) q⟩
theorem lc_20 (C : CLw X nm) (E : SX X b L xs) (z : 0 < (dtX X).2.2.size) (i0 : 0 ≤ i.toInt) (iL : i.toInt + 6 ≤ L) (L3 : L ≤ 3072) (J : Jn h x m s) (bk : k + shC h x + 9 * (d + 1) ≤ mcX X) (bn : n + shM h x + 191 * (d + 1) ≤ msX X) (hk : LK X Q b x m i d) : Wj X k n Q 814 (LV b x m i) [] h := by
  refine w_aload_n (pc := 814) C dL_law_814 rfl ?_
  refine lw_ld (pc := 815) (v := 1) C E rfl dL_law_815 dL_law_816 dL_law_818 dL_law_819 dL_law_820 rfl rfl (inb_arg i0 iL L3 (by decide) (by decide)) ?_
  refine lw_ld (pc := 821) (v := 2) C E rfl dL_law_821 dL_law_822 dL_law_824 dL_law_825 dL_law_826 rfl rfl (inb_arg i0 iL L3 (by decide) (by decide)) ?_
  refine lw_ld (pc := 827) (v := 3) C E rfl dL_law_827 dL_law_828 dL_law_830 dL_law_831 dL_law_832 rfl rfl (inb_arg i0 iL L3 (by decide) (by decide)) ?_
  refine lw_ld (pc := 833) (v := 4) C E rfl dL_law_833 dL_law_834 dL_law_836 dL_law_837 dL_law_838 rfl rfl (inb_arg i0 iL L3 (by decide) (by decide)) ?_
  refine lw_ld (pc := 839) (v := 5) C E rfl dL_law_839 dL_law_840 dL_law_842 dL_law_843 dL_law_844 rfl rfl (inb_arg i0 iL L3 (by decide) (by decide)) ?_
  refine w_cV1_5 (pc := 845) (k' := 9) (n' := 191) (c := 9) C cl_L_114 lv_X9_geared (by decide) dL_law_845 (Nat.le_of_ble_eq_true rfl) rfl (by omega) (by omega) (St9_k J.1.1) ((cc_geared z J.1).mono (fun v h1 hp => ?_))
  obtain ⟨⟨y, rfl, ey⟩, S1, f1, c1, c2⟩ := hp
  obtain ⟨M1, o1⟩ := J.mid f1 (fun b q => Or.inl q)
  show Wj X _ _ Q 848 (LV b x m i) [.int y] h1
  refine w_aload_n (pc := 848) C dL_law_848 rfl ?_
  refine lw_ld (pc := 849) (v := 1) C E rfl dL_law_849 dL_law_850 dL_law_852 dL_law_853 dL_law_854 rfl rfl (inb_arg i0 iL L3 (by decide) (by decide)) ?_
  refine lw_ld (pc := 855) (v := 2) C E rfl dL_law_855 dL_law_856 dL_law_858 dL_law_859 dL_law_860 rfl rfl (inb_arg i0 iL L3 (by decide) (by decide)) ?_
  refine lw_ld (pc := 861) (v := 3) C E rfl dL_law_861 dL_law_862 dL_law_864 dL_law_865 dL_law_866 rfl rfl (inb_arg i0 iL L3 (by decide) (by decide)) ?_
  refine lw_ld (pc := 867) (v := 4) C E rfl dL_law_867 dL_law_868 dL_law_870 dL_law_871 dL_law_872 rfl rfl (inb_arg i0 iL L3 (by decide) (by decide)) ?_
  refine lw_ld (pc := 873) (v := 5) C E rfl dL_law_873 dL_law_874 dL_law_876 dL_law_877 dL_law_878 rfl rfl (inb_arg i0 iL L3 (by decide) (by decide)) ?_
  refine w_cV1_5 (pc := 879) (k' := 0) (n' := 0) (c := 10) C cl_L_118 lv_X10_geared (by decide) dL_law_879 (Nat.le_of_ble_eq_true rfl) rfl (by omega) (by omega) (St10_k M1.1.1) ((ma_geared M1).mono (fun v h2 hp => ?_))
  obtain ⟨y2, rfl, ey2, M2, f2⟩ := hp
  obtain ⟨J2, g1, g2⟩ := Jn.two S1 o1 M2 f2
  show Wj X _ _ Q 882 (LV b x m i) [.int y2, .int y] h2
  exact w_icmp_eq (pc := 882) (tgt := 1281) C dL_law_882 rfl ⟨fun _ => hk _ _ h2 _ J2 (by omega) (by omega), fun q => absurd (i32_eq.mpr (ey.trans ey2.symm)) q⟩
theorem lc_21 (C : CLw X nm) (E : SX X b L xs) (z : 0 < (dtX X).2.2.size) (i0 : 0 ≤ i.toInt) (iL : i.toInt + 6 ≤ L) (L3 : L ≤ 3072) (J : Jn h x m s) (bk : k + shC h x + 9 * (d + 1) ≤ mcX X) (bn : n + shM h x + 191 * (d + 1) ≤ msX X) (hk : LK X Q b x m i d) : Wj X k n Q 887 (LV b x m i) [] h := by
  refine w_aload_n (pc := 887) C dL_law_887 rfl ?_
  refine w_cV1_0 (pc := 888) (k' := 9) (n' := 191) (c := 9) C cl_L_119 lv_X9_ungeared (by decide) dL_law_888 (Nat.le_of_ble_eq_true rfl) rfl (by omega) (by omega) (St9_k J.1.1) ((cc_ungeared z J.1).mono (fun v h1 hp => ?_))
  obtain ⟨⟨y, rfl, ey⟩, S1, f1, c1, c2⟩ := hp
  obtain ⟨M1, o1⟩ := J.mid f1 (fun b q => Or.inl q)
  show Wj X _ _ Q 891 (LV b x m i) [.int y] h1
  refine w_aload_n (pc := 891) C dL_law_891 rfl ?_
  refine w_cV1_0 (pc := 892) (k' := 0) (n' := 0) (c := 10) C cl_L_122 lv_X10_ungeared (by decide) dL_law_892 (Nat.le_of_ble_eq_true rfl) rfl (by omega) (by omega) (St10_k M1.1.1) ((ma_ungeared M1).mono (fun v h2 hp => ?_))
  obtain ⟨y2, rfl, ey2, M2, f2⟩ := hp
  obtain ⟨J2, g1, g2⟩ := Jn.two S1 o1 M2 f2
  show Wj X _ _ Q 895 (LV b x m i) [.int y2, .int y] h2
  exact w_icmp_eq (pc := 895) (tgt := 1281) C dL_law_895 rfl ⟨fun _ => hk _ _ h2 _ J2 (by omega) (by omega), fun q => absurd (i32_eq.mpr (ey.trans ey2.symm)) q⟩
theorem lc_22 (C : CLw X nm) (E : SX X b L xs) (z : 0 < (dtX X).2.2.size) (i0 : 0 ≤ i.toInt) (iL : i.toInt + 6 ≤ L) (L3 : L ≤ 3072) (J : Jn h x m s) (bk : k + shC h x + 9 * (d + 1) ≤ mcX X) (bn : n + shM h x + 191 * (d + 1) ≤ msX X) (hk : LK X Q b x m i d) : Wj X k n Q 900 (LV b x m i) [] h := by
  refine w_aload_n (pc := 900) C dL_law_900 rfl ?_
  refine lw_ld (pc := 901) (v := 1) C E rfl dL_law_901 dL_law_902 dL_law_904 dL_law_905 dL_law_906 rfl rfl (inb_arg i0 iL L3 (by decide) (by decide)) ?_
  refine lw_ld (pc := 907) (v := 2) C E rfl dL_law_907 dL_law_908 dL_law_910 dL_law_911 dL_law_912 rfl rfl (inb_arg i0 iL L3 (by decide) (by decide)) ?_
  refine lw_ld (pc := 913) (v := 3) C E rfl dL_law_913 dL_law_914 dL_law_916 dL_law_917 dL_law_918 rfl rfl (inb_arg i0 iL L3 (by decide) (by decide)) ?_
  refine w_cV1_3 (pc := 919) (k' := 9) (n' := 191) (c := 9) C cl_L_123 lv_X9_cranks (by decide) dL_law_919 (Nat.le_of_ble_eq_true rfl) rfl (by omega) (by omega) (St9_k J.1.1) ((cc_cranks z J.1).mono (fun v h1 hp => ?_))
  obtain ⟨⟨y, rfl, ey⟩, S1, f1, c1, c2⟩ := hp
  obtain ⟨M1, o1⟩ := J.mid f1 (fun b q => Or.inl q)
  show Wj X _ _ Q 922 (LV b x m i) [.int y] h1
  refine w_aload_n (pc := 922) C dL_law_922 rfl ?_
  refine lw_ld (pc := 923) (v := 1) C E rfl dL_law_923 dL_law_924 dL_law_926 dL_law_927 dL_law_928 rfl rfl (inb_arg i0 iL L3 (by decide) (by decide)) ?_
  refine lw_ld (pc := 929) (v := 2) C E rfl dL_law_929 dL_law_930 dL_law_932 dL_law_933 dL_law_934 rfl rfl (inb_arg i0 iL L3 (by decide) (by decide)) ?_
  refine lw_ld (pc := 935) (v := 3) C E rfl dL_law_935 dL_law_936 dL_law_938 dL_law_939 dL_law_940 rfl rfl (inb_arg i0 iL L3 (by decide) (by decide)) ?_
  refine w_cV1_3 (pc := 941) (k' := 0) (n' := 0) (c := 10) C cl_L_126 lv_X10_cranks (by decide) dL_law_941 (Nat.le_of_ble_eq_true rfl) rfl (by omega) (by omega) (St10_k M1.1.1) ((ma_cranks M1).mono (fun v h2 hp => ?_))
  obtain ⟨y2, rfl, ey2, M2, f2⟩ := hp
  obtain ⟨J2, g1, g2⟩ := Jn.two S1 o1 M2 f2
  show Wj X _ _ Q 944 (LV b x m i) [.int y2, .int y] h2
  exact w_icmp_eq (pc := 944) (tgt := 1281) C dL_law_944 rfl ⟨fun _ => hk _ _ h2 _ J2 (by omega) (by omega), fun q => absurd (i32_eq.mpr (ey.trans ey2.symm)) q⟩
end Lc
