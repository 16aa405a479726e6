-- LEVEL 3, part 66, 1: the law's cases
set_option maxRecDepth 20000 in
theorem lc_10 {N : Nat} {xs : Nat → Int32} {n rc rs : Nat} (hn : n + 7 ≤ N) (hN : N ≤ 3584) {L : Lay} {M : Mem} (hL : LY L) (h : RR L M) (hrc : 20 ≤ rc) (hrs : 9087 ≤ rs)
    (K : KL N xs n rc rs) : XL N xs rc rs (L, M) 672 [.float 9, .ref 0, .ref 92, .ref 158, .int (nI n), junk, junk] [] := by
  refine X_aload_n 673 dL_law_672 rfl rfl ?_
  refine Y_aVI 676 (rc' := 1) (rs' := 2) (as := []) m_L_76 (s_X11_law hL (j_law hL.1 h (Nat.le_refl _) (Nat.le_refl _))) (hL.ob (c := 11) (by decide) rfl) rfl (by decide) (by omega) (by omega) (Nat.le_of_ble_eq_true rfl) dL_law_673 rfl rfl (fun a L1 M1 hE hw => ?_)
  have hL1 := hE.ly hL
  refine X_aload_n 677 dL_law_676 rfl rfl ?_
  refine Y_cVI 680 (as := []) m_L_79 (s_X12_law hL1 hw) (hL1.ob (c := 12) (by decide) rfl) rfl (by decide) (Nat.le_of_ble_eq_true rfl) dL_law_677 rfl rfl (fun b M2 hq => ?_)
  refine X_icmp_eq 1521 683 dL_law_680 rfl rfl (fun c => ?_) (fun c => absurd hq.1 c)
  exact X_room (by omega) (by omega) (K L1 M2 hL1 hq.2.2)
set_option maxRecDepth 20000 in
theorem lc_11 {N : Nat} {xs : Nat → Int32} {n rc rs : Nat} (hn : n + 7 ≤ N) (hN : N ≤ 3584) {L : Lay} {M : Mem} (hL : LY L) (h : RR L M) (hrc : 20 ≤ rc) (hrs : 9087 ≤ rs)
    (K : KL N xs n rc rs) : XL N xs rc rs (L, M) 685 [.float 9, .ref 0, .ref 92, .ref 158, .int (nI n), junk, junk] [] := by
  refine X_aload_n 686 dL_law_685 rfl rfl ?_
  refine Y_scr 692 (n := n) (j := 1) dL_law_686 dL_law_687 dL_law_689 dL_law_690 dL_law_691 rfl rfl rfl rfl (by omega) hN ?_
  refine Y_cVI 695 (as := [.int (xs (n + 1))]) m_L_80 (s_X11_days hL (j_days h)) (hL.ob (c := 11) (by decide) rfl) rfl (by decide) (Nat.le_of_ble_eq_true rfl) dL_law_692 rfl rfl (fun a M1 hw => ?_)
  refine X_aload_n 696 dL_law_695 rfl rfl ?_
  refine Y_scr 702 (n := n) (j := 1) dL_law_696 dL_law_697 dL_law_699 dL_law_700 dL_law_701 rfl rfl rfl rfl (by omega) hN ?_
  refine Y_cVI 705 (as := [.int (xs (n + 1))]) m_L_83 (s_X12_days hL hw) (hL.ob (c := 12) (by decide) rfl) rfl (by decide) (Nat.le_of_ble_eq_true rfl) dL_law_702 rfl rfl (fun b M2 hq => ?_)
  refine X_icmp_eq 1521 708 dL_law_705 rfl rfl (fun c => ?_) (fun c => absurd hq.1 c)
  exact X_room (by omega) (by omega) (K L M2 hL hq.2)
set_option maxRecDepth 20000 in
theorem lc_12 {N : Nat} {xs : Nat → Int32} {n rc rs : Nat} (hn : n + 7 ≤ N) (hN : N ≤ 3584) {L : Lay} {M : Mem} (hL : LY L) (h : RR L M) (hrc : 20 ≤ rc) (hrs : 9087 ≤ rs)
    (K : KL N xs n rc rs) : XL N xs rc rs (L, M) 710 [.float 9, .ref 0, .ref 92, .ref 158, .int (nI n), junk, junk] [] := by
  refine X_aload_n 711 dL_law_710 rfl rfl ?_
  refine Y_scr 717 (n := n) (j := 1) dL_law_711 dL_law_712 dL_law_714 dL_law_715 dL_law_716 rfl rfl rfl rfl (by omega) hN ?_
  refine Y_cVI 720 (as := [.int (xs (n + 1))]) m_L_84 (s_X11_price hL (j_price h)) (hL.ob (c := 11) (by decide) rfl) rfl (by decide) (Nat.le_of_ble_eq_true rfl) dL_law_717 rfl rfl (fun a M1 hw => ?_)
  refine X_aload_n 721 dL_law_720 rfl rfl ?_
  refine Y_scr 727 (n := n) (j := 1) dL_law_721 dL_law_722 dL_law_724 dL_law_725 dL_law_726 rfl rfl rfl rfl (by omega) hN ?_
  refine Y_cVI 730 (as := [.int (xs (n + 1))]) m_L_87 (s_X12_price hL hw) (hL.ob (c := 12) (by decide) rfl) rfl (by decide) (Nat.le_of_ble_eq_true rfl) dL_law_727 rfl rfl (fun b M2 hq => ?_)
  refine X_icmp_eq 1521 733 dL_law_730 rfl rfl (fun c => ?_) (fun c => absurd hq.1 c)
  exact X_room (by omega) (by omega) (K L M2 hL hq.2)
set_option maxRecDepth 20000 in
theorem lc_13 {N : Nat} {xs : Nat → Int32} {n rc rs : Nat} (hn : n + 7 ≤ N) (hN : N ≤ 3584) {L : Lay} {M : Mem} (hL : LY L) (h : RR L M) (hrc : 20 ≤ rc) (hrs : 9087 ≤ rs)
    (K : KL N xs n rc rs) : XL N xs rc rs (L, M) 735 [.float 9, .ref 0, .ref 92, .ref 158, .int (nI n), junk, junk] [] := by
  refine X_aload_n 736 dL_law_735 rfl rfl ?_
  refine Y_scr 742 (n := n) (j := 1) dL_law_736 dL_law_737 dL_law_739 dL_law_740 dL_law_741 rfl rfl rfl rfl (by omega) hN ?_
  refine Y_scr 748 (n := n) (j := 2) dL_law_742 dL_law_743 dL_law_745 dL_law_746 dL_law_747 rfl rfl rfl rfl (by omega) hN ?_
  refine Y_scr 754 (n := n) (j := 3) dL_law_748 dL_law_749 dL_law_751 dL_law_752 dL_law_753 rfl rfl rfl rfl (by omega) hN ?_
  refine Y_scr 760 (n := n) (j := 4) dL_law_754 dL_law_755 dL_law_757 dL_law_758 dL_law_759 rfl rfl rfl rfl (by omega) hN ?_
  refine Y_cVI 763 (as := [.int (xs (n + 1)), .int (xs (n + 2)), .int (xs (n + 3)), .int (xs (n + 4))]) m_L_88 (s_X11_report hL (j_report h)) (hL.ob (c := 11) (by decide) rfl) rfl (by decide) (Nat.le_of_ble_eq_true rfl) dL_law_760 rfl rfl (fun a M1 hw => ?_)
  refine X_aload_n 764 dL_law_763 rfl rfl ?_
  refine Y_scr 770 (n := n) (j := 1) dL_law_764 dL_law_765 dL_law_767 dL_law_768 dL_law_769 rfl rfl rfl rfl (by omega) hN ?_
  refine Y_scr 776 (n := n) (j := 2) dL_law_770 dL_law_771 dL_law_773 dL_law_774 dL_law_775 rfl rfl rfl rfl (by omega) hN ?_
  refine Y_scr 782 (n := n) (j := 3) dL_law_776 dL_law_777 dL_law_779 dL_law_780 dL_law_781 rfl rfl rfl rfl (by omega) hN ?_
  refine Y_scr 788 (n := n) (j := 4) dL_law_782 dL_law_783 dL_law_785 dL_law_786 dL_law_787 rfl rfl rfl rfl (by omega) hN ?_
  refine Y_cVI 791 (as := [.int (xs (n + 1)), .int (xs (n + 2)), .int (xs (n + 3)), .int (xs (n + 4))]) m_L_91 (s_X12_report hL hw) (hL.ob (c := 12) (by decide) rfl) rfl (by decide) (Nat.le_of_ble_eq_true rfl) dL_law_788 rfl rfl (fun b M2 hq => ?_)
  refine X_icmp_eq 1521 794 dL_law_791 rfl rfl (fun c => ?_) (fun c => absurd hq.1 c)
  exact X_room (by omega) (by omega) (K L M2 hL hq.2)
set_option maxRecDepth 20000 in
theorem lc_14 {N : Nat} {xs : Nat → Int32} {n rc rs : Nat} (hn : n + 7 ≤ N) (hN : N ≤ 3584) {L : Lay} {M : Mem} (hL : LY L) (h : RR L M) (hrc : 20 ≤ rc) (hrs : 9087 ≤ rs)
    (K : KL N xs n rc rs) : XL N xs rc rs (L, M) 796 [.float 9, .ref 0, .ref 92, .ref 158, .int (nI n), junk, junk] [] := by
  refine X_aload_n 797 dL_law_796 rfl rfl ?_
  refine Y_scr 803 (n := n) (j := 1) dL_law_797 dL_law_798 dL_law_800 dL_law_801 dL_law_802 rfl rfl rfl rfl (by omega) hN ?_
  refine Y_scr 809 (n := n) (j := 2) dL_law_803 dL_law_804 dL_law_806 dL_law_807 dL_law_808 rfl rfl rfl rfl (by omega) hN ?_
  refine Y_scr 815 (n := n) (j := 3) dL_law_809 dL_law_810 dL_law_812 dL_law_813 dL_law_814 rfl rfl rfl rfl (by omega) hN ?_
  refine Y_scr 821 (n := n) (j := 4) dL_law_815 dL_law_816 dL_law_818 dL_law_819 dL_law_820 rfl rfl rfl rfl (by omega) hN ?_
  refine Y_cVI 824 (as := [.int (xs (n + 1)), .int (xs (n + 2)), .int (xs (n + 3)), .int (xs (n + 4))]) m_L_92 (s_X11_known hL (j_known h)) (hL.ob (c := 11) (by decide) rfl) rfl (by decide) (Nat.le_of_ble_eq_true rfl) dL_law_821 rfl rfl (fun a M1 hw => ?_)
  refine X_aload_n 825 dL_law_824 rfl rfl ?_
  refine Y_scr 831 (n := n) (j := 1) dL_law_825 dL_law_826 dL_law_828 dL_law_829 dL_law_830 rfl rfl rfl rfl (by omega) hN ?_
  refine Y_scr 837 (n := n) (j := 2) dL_law_831 dL_law_832 dL_law_834 dL_law_835 dL_law_836 rfl rfl rfl rfl (by omega) hN ?_
  refine Y_scr 843 (n := n) (j := 3) dL_law_837 dL_law_838 dL_law_840 dL_law_841 dL_law_842 rfl rfl rfl rfl (by omega) hN ?_
  refine Y_scr 849 (n := n) (j := 4) dL_law_843 dL_law_844 dL_law_846 dL_law_847 dL_law_848 rfl rfl rfl rfl (by omega) hN ?_
  refine Y_cVI 852 (as := [.int (xs (n + 1)), .int (xs (n + 2)), .int (xs (n + 3)), .int (xs (n + 4))]) m_L_95 (s_X12_known hL hw) (hL.ob (c := 12) (by decide) rfl) rfl (by decide) (Nat.le_of_ble_eq_true rfl) dL_law_849 rfl rfl (fun b M2 hq => ?_)
  refine X_icmp_eq 1521 855 dL_law_852 rfl rfl (fun c => ?_) (fun c => absurd hq.1 c)
  exact X_room (by omega) (by omega) (K L M2 hL hq.2)
set_option maxRecDepth 20000 in
theorem lc_15 {N : Nat} {xs : Nat → Int32} {n rc rs : Nat} (hn : n + 7 ≤ N) (hN : N ≤ 3584) {L : Lay} {M : Mem} (hL : LY L) (h : RR L M) (hrc : 20 ≤ rc) (hrs : 9087 ≤ rs)
    (K : KL N xs n rc rs) : XL N xs rc rs (L, M) 857 [.float 9, .ref 0, .ref 92, .ref 158, .int (nI n), junk, junk] [] := by
  refine X_aload_n 858 dL_law_857 rfl rfl ?_
  refine Y_scr 864 (n := n) (j := 1) dL_law_858 dL_law_859 dL_law_861 dL_law_862 dL_law_863 rfl rfl rfl rfl (by omega) hN ?_
  refine Y_scr 870 (n := n) (j := 2) dL_law_864 dL_law_865 dL_law_867 dL_law_868 dL_law_869 rfl rfl rfl rfl (by omega) hN ?_
  refine Y_scr 876 (n := n) (j := 3) dL_law_870 dL_law_871 dL_law_873 dL_law_874 dL_law_875 rfl rfl rfl rfl (by omega) hN ?_
  refine Y_cVI 879 (as := [.int (xs (n + 1)), .int (xs (n + 2)), .int (xs (n + 3))]) m_L_96 (s_X11_proved hL (j_proved h)) (hL.ob (c := 11) (by decide) rfl) rfl (by decide) (Nat.le_of_ble_eq_true rfl) dL_law_876 rfl rfl (fun a M1 hw => ?_)
  refine X_aload_n 880 dL_law_879 rfl rfl ?_
  refine Y_scr 886 (n := n) (j := 1) dL_law_880 dL_law_881 dL_law_883 dL_law_884 dL_law_885 rfl rfl rfl rfl (by omega) hN ?_
  refine Y_scr 892 (n := n) (j := 2) dL_law_886 dL_law_887 dL_law_889 dL_law_890 dL_law_891 rfl rfl rfl rfl (by omega) hN ?_
  refine Y_scr 898 (n := n) (j := 3) dL_law_892 dL_law_893 dL_law_895 dL_law_896 dL_law_897 rfl rfl rfl rfl (by omega) hN ?_
  refine Y_cVI 901 (as := [.int (xs (n + 1)), .int (xs (n + 2)), .int (xs (n + 3))]) m_L_99 (s_X12_proved hL hw) (hL.ob (c := 12) (by decide) rfl) rfl (by decide) (Nat.le_of_ble_eq_true rfl) dL_law_898 rfl rfl (fun b M2 hq => ?_)
  refine X_icmp_eq 1521 904 dL_law_901 rfl rfl (fun c => ?_) (fun c => absurd hq.1 c)
  exact X_room (by omega) (by omega) (K L M2 hL hq.2)
set_option maxRecDepth 20000 in
theorem lc_16 {N : Nat} {xs : Nat → Int32} {n rc rs : Nat} (hn : n + 7 ≤ N) (hN : N ≤ 3584) {L : Lay} {M : Mem} (hL : LY L) (h : RR L M) (hrc : 20 ≤ rc) (hrs : 9087 ≤ rs)
    (K : KL N xs n rc rs) : XL N xs rc rs (L, M) 906 [.float 9, .ref 0, .ref 92, .ref 158, .int (nI n), junk, junk] [] := by
  refine X_aload_n 907 dL_law_906 rfl rfl ?_
  refine Y_scr 913 (n := n) (j := 1) dL_law_907 dL_law_908 dL_law_910 dL_law_911 dL_law_912 rfl rfl rfl rfl (by omega) hN ?_
  refine Y_scr 919 (n := n) (j := 2) dL_law_913 dL_law_914 dL_law_916 dL_law_917 dL_law_918 rfl rfl rfl rfl (by omega) hN ?_
  refine Y_cVI 922 (as := [.int (xs (n + 1)), .int (xs (n + 2))]) m_L_100 (s_X11_fine hL (j_fine h)) (hL.ob (c := 11) (by decide) rfl) rfl (by decide) (Nat.le_of_ble_eq_true rfl) dL_law_919 rfl rfl (fun a M1 hw => ?_)
  refine X_aload_n 923 dL_law_922 rfl rfl ?_
  refine Y_scr 929 (n := n) (j := 1) dL_law_923 dL_law_924 dL_law_926 dL_law_927 dL_law_928 rfl rfl rfl rfl (by omega) hN ?_
  refine Y_scr 935 (n := n) (j := 2) dL_law_929 dL_law_930 dL_law_932 dL_law_933 dL_law_934 rfl rfl rfl rfl (by omega) hN ?_
  refine Y_cVI 938 (as := [.int (xs (n + 1)), .int (xs (n + 2))]) m_L_103 (s_X12_fine hL hw) (hL.ob (c := 12) (by decide) rfl) rfl (by decide) (Nat.le_of_ble_eq_true rfl) dL_law_935 rfl rfl (fun b M2 hq => ?_)
  refine X_icmp_eq 1521 941 dL_law_938 rfl rfl (fun c => ?_) (fun c => absurd hq.1 c)
  exact X_room (by omega) (by omega) (K L M2 hL hq.2)
set_option maxRecDepth 20000 in
theorem lc_17 {N : Nat} {xs : Nat → Int32} {n rc rs : Nat} (hn : n + 7 ≤ N) (hN : N ≤ 3584) {L : Lay} {M : Mem} (hL : LY L) (h : RR L M) (hrc : 20 ≤ rc) (hrs : 9087 ≤ rs)
    (K : KL N xs n rc rs) : XL N xs rc rs (L, M) 943 [.float 9, .ref 0, .ref 92, .ref 158, .int (nI n), junk, junk] [] := by
  refine X_aload_n 944 dL_law_943 rfl rfl ?_
  refine Y_scr 950 (n := n) (j := 1) dL_law_944 dL_law_945 dL_law_947 dL_law_948 dL_law_949 rfl rfl rfl rfl (by omega) hN ?_
  refine Y_scr 956 (n := n) (j := 2) dL_law_950 dL_law_951 dL_law_953 dL_law_954 dL_law_955 rfl rfl rfl rfl (by omega) hN ?_
  refine Y_scr 962 (n := n) (j := 3) dL_law_956 dL_law_957 dL_law_959 dL_law_960 dL_law_961 rfl rfl rfl rfl (by omega) hN ?_
  refine Y_cVI 965 (as := [.int (xs (n + 1)), .int (xs (n + 2)), .int (xs (n + 3))]) m_L_104 (s_X11_sale hL (j_sale h)) (hL.ob (c := 11) (by decide) rfl) rfl (by decide) (Nat.le_of_ble_eq_true rfl) dL_law_962 rfl rfl (fun a M1 hw => ?_)
  refine X_aload_n 966 dL_law_965 rfl rfl ?_
  refine Y_scr 972 (n := n) (j := 1) dL_law_966 dL_law_967 dL_law_969 dL_law_970 dL_law_971 rfl rfl rfl rfl (by omega) hN ?_
  refine Y_scr 978 (n := n) (j := 2) dL_law_972 dL_law_973 dL_law_975 dL_law_976 dL_law_977 rfl rfl rfl rfl (by omega) hN ?_
  refine Y_scr 984 (n := n) (j := 3) dL_law_978 dL_law_979 dL_law_981 dL_law_982 dL_law_983 rfl rfl rfl rfl (by omega) hN ?_
  refine Y_cVI 987 (as := [.int (xs (n + 1)), .int (xs (n + 2)), .int (xs (n + 3))]) m_L_107 (s_X12_sale hL hw) (hL.ob (c := 12) (by decide) rfl) rfl (by decide) (Nat.le_of_ble_eq_true rfl) dL_law_984 rfl rfl (fun b M2 hq => ?_)
  refine X_icmp_eq 1521 990 dL_law_987 rfl rfl (fun c => ?_) (fun c => absurd hq.1 c)
  exact X_room (by omega) (by omega) (K L M2 hL hq.2)
set_option maxRecDepth 20000 in
theorem lc_18 {N : Nat} {xs : Nat → Int32} {n rc rs : Nat} (hn : n + 7 ≤ N) (hN : N ≤ 3584) {L : Lay} {M : Mem} (hL : LY L) (h : RR L M) (hrc : 20 ≤ rc) (hrs : 9087 ≤ rs)
    (K : KL N xs n rc rs) : XL N xs rc rs (L, M) 992 [.float 9, .ref 0, .ref 92, .ref 158, .int (nI n), junk, junk] [] := by
  refine X_aload_n 993 dL_law_992 rfl rfl ?_
  refine Y_scr 999 (n := n) (j := 1) dL_law_993 dL_law_994 dL_law_996 dL_law_997 dL_law_998 rfl rfl rfl rfl (by omega) hN ?_
  refine Y_cVI 1002 (as := [.int (xs (n + 1))]) m_L_108 (s_X11_named hL (j_named h)) (hL.ob (c := 11) (by decide) rfl) rfl (by decide) (Nat.le_of_ble_eq_true rfl) dL_law_999 rfl rfl (fun a M1 hw => ?_)
  refine X_aload_n 1003 dL_law_1002 rfl rfl ?_
  refine Y_scr 1009 (n := n) (j := 1) dL_law_1003 dL_law_1004 dL_law_1006 dL_law_1007 dL_law_1008 rfl rfl rfl rfl (by omega) hN ?_
  refine Y_cVI 1012 (as := [.int (xs (n + 1))]) m_L_111 (s_X12_named hL hw) (hL.ob (c := 12) (by decide) rfl) rfl (by decide) (Nat.le_of_ble_eq_true rfl) dL_law_1009 rfl rfl (fun b M2 hq => ?_)
  refine X_icmp_eq 1521 1015 dL_law_1012 rfl rfl (fun c => ?_) (fun c => absurd hq.1 c)
  exact X_room (by omega) (by omega) (K L M2 hL hq.2)
