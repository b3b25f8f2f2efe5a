theorem zL_685 : decode mLw.2.1 685 = .ok (.aload_n 1, 1) := by decide +kernel
theorem zL_686 : decode mLw.2.1 686 = .ok (.invokevirtual 72, 3) := by decide +kernel
theorem zL_689 : decode mLw.2.1 689 = .ok (.aload_n 2, 1) := by decide +kernel
theorem zL_690 : decode mLw.2.1 690 = .ok (.invokevirtual 75, 3) := by decide +kernel
theorem zL_693 : decode mLw.2.1 693 = .ok (.if_icmp .eq 1079, 3) := by decide +kernel
theorem zL_698 : decode mLw.2.1 698 = .ok (.aload_n 1, 1) := by decide +kernel
theorem zL_704 : decode mLw.2.1 704 = .ok (.invokevirtual 76, 3) := by decide +kernel
theorem zL_707 : decode mLw.2.1 707 = .ok (.aload_n 2, 1) := by decide +kernel
theorem zL_713 : decode mLw.2.1 713 = .ok (.invokevirtual 79, 3) := by decide +kernel
theorem zL_716 : decode mLw.2.1 716 = .ok (.if_icmp .eq 1056, 3) := by decide +kernel
theorem zL_721 : decode mLw.2.1 721 = .ok (.aload_n 1, 1) := by decide +kernel
theorem zL_727 : decode mLw.2.1 727 = .ok (.invokevirtual 80, 3) := by decide +kernel
theorem zL_730 : decode mLw.2.1 730 = .ok (.aload_n 2, 1) := by decide +kernel
theorem zL_736 : decode mLw.2.1 736 = .ok (.invokevirtual 83, 3) := by decide +kernel
theorem zL_739 : decode mLw.2.1 739 = .ok (.if_icmp .eq 1033, 3) := by decide +kernel
theorem zL_744 : decode mLw.2.1 744 = .ok (.aload_n 1, 1) := by decide +kernel
theorem zL_750 : decode mLw.2.1 750 = .ok (.invokevirtual 84, 3) := by decide +kernel
theorem zL_753 : decode mLw.2.1 753 = .ok (.aload_n 2, 1) := by decide +kernel
theorem zL_759 : decode mLw.2.1 759 = .ok (.invokevirtual 87, 3) := by decide +kernel
theorem zL_762 : decode mLw.2.1 762 = .ok (.if_icmp .eq 1010, 3) := by decide +kernel
theorem zL_767 : decode mLw.2.1 767 = .ok (.aload_n 1, 1) := by decide +kernel
theorem zL_773 : decode mLw.2.1 773 = .ok (.invokevirtual 88, 3) := by decide +kernel
theorem zL_776 : decode mLw.2.1 776 = .ok (.aload_n 2, 1) := by decide +kernel
theorem zL_782 : decode mLw.2.1 782 = .ok (.invokevirtual 91, 3) := by decide +kernel
theorem zL_785 : decode mLw.2.1 785 = .ok (.if_icmp .eq 987, 3) := by decide +kernel
theorem zL_790 : decode mLw.2.1 790 = .ok (.aload_n 1, 1) := by decide +kernel
theorem zL_796 : decode mLw.2.1 796 = .ok (.invokevirtual 92, 3) := by decide +kernel
theorem zL_799 : decode mLw.2.1 799 = .ok (.aload_n 2, 1) := by decide +kernel
theorem zL_805 : decode mLw.2.1 805 = .ok (.invokevirtual 95, 3) := by decide +kernel
theorem zL_808 : decode mLw.2.1 808 = .ok (.if_icmp .eq 964, 3) := by decide +kernel
theorem zL_813 : decode mLw.2.1 813 = .ok (.aload_n 1, 1) := by decide +kernel
theorem zL_819 : decode mLw.2.1 819 = .ok (.invokevirtual 96, 3) := by decide +kernel
theorem zL_822 : decode mLw.2.1 822 = .ok (.aload_n 2, 1) := by decide +kernel
theorem zL_828 : decode mLw.2.1 828 = .ok (.invokevirtual 99, 3) := by decide +kernel
theorem zL_831 : decode mLw.2.1 831 = .ok (.if_icmp .eq 941, 3) := by decide +kernel
theorem zL_836 : decode mLw.2.1 836 = .ok (.aload_n 1, 1) := by decide +kernel
theorem zL_842 : decode mLw.2.1 842 = .ok (.invokevirtual 100, 3) := by decide +kernel
theorem zL_845 : decode mLw.2.1 845 = .ok (.aload_n 2, 1) := by decide +kernel
theorem zL_851 : decode mLw.2.1 851 = .ok (.invokevirtual 103, 3) := by decide +kernel
theorem zL_854 : decode mLw.2.1 854 = .ok (.if_icmp .eq 918, 3) := by decide +kernel
theorem zL_859 : decode mLw.2.1 859 = .ok (.aload_n 1, 1) := by decide +kernel
theorem zL_870 : decode mLw.2.1 870 = .ok (.invokevirtual 104, 3) := by decide +kernel
theorem zL_873 : decode mLw.2.1 873 = .ok (.aload_n 2, 1) := by decide +kernel
theorem zL_884 : decode mLw.2.1 884 = .ok (.invokevirtual 107, 3) := by decide +kernel
theorem zL_887 : decode mLw.2.1 887 = .ok (.if_icmp .eq 885, 3) := by decide +kernel
theorem zL_892 : decode mLw.2.1 892 = .ok (.aload_n 1, 1) := by decide +kernel
theorem zL_898 : decode mLw.2.1 898 = .ok (.invokevirtual 108, 3) := by decide +kernel
theorem zL_901 : decode mLw.2.1 901 = .ok (.aload_n 2, 1) := by decide +kernel
theorem zL_907 : decode mLw.2.1 907 = .ok (.invokevirtual 111, 3) := by decide +kernel
theorem zL_910 : decode mLw.2.1 910 = .ok (.if_icmp .eq 862, 3) := by decide +kernel
theorem zL_915 : decode mLw.2.1 915 = .ok (.aload_n 1, 1) := by decide +kernel
theorem zL_926 : decode mLw.2.1 926 = .ok (.invokevirtual 112, 3) := by decide +kernel
theorem zL_929 : decode mLw.2.1 929 = .ok (.aload_n 2, 1) := by decide +kernel
theorem zL_940 : decode mLw.2.1 940 = .ok (.invokevirtual 115, 3) := by decide +kernel
theorem zL_943 : decode mLw.2.1 943 = .ok (.if_icmp .eq 829, 3) := by decide +kernel
theorem zL_948 : decode mLw.2.1 948 = .ok (.aload_n 1, 1) := by decide +kernel
theorem zL_954 : decode mLw.2.1 954 = .ok (.invokevirtual 116, 3) := by decide +kernel
theorem zL_957 : decode mLw.2.1 957 = .ok (.aload_n 2, 1) := by decide +kernel
theorem zL_963 : decode mLw.2.1 963 = .ok (.invokevirtual 119, 3) := by decide +kernel
theorem zL_966 : decode mLw.2.1 966 = .ok (.if_icmp .eq 806, 3) := by decide +kernel
theorem zL_971 : decode mLw.2.1 971 = .ok (.aload_n 1, 1) := by decide +kernel
theorem zL_982 : decode mLw.2.1 982 = .ok (.invokevirtual 120, 3) := by decide +kernel
theorem zL_985 : decode mLw.2.1 985 = .ok (.aload_n 2, 1) := by decide +kernel
theorem zL_996 : decode mLw.2.1 996 = .ok (.invokevirtual 123, 3) := by decide +kernel
theorem zL_999 : decode mLw.2.1 999 = .ok (.if_icmp .eq 773, 3) := by decide +kernel
theorem zL_1004 : decode mLw.2.1 1004 = .ok (.aload_n 1, 1) := by decide +kernel
theorem zL_1015 : decode mLw.2.1 1015 = .ok (.invokevirtual 124, 3) := by decide +kernel
theorem zL_1018 : decode mLw.2.1 1018 = .ok (.aload_n 2, 1) := by decide +kernel
theorem zL_1029 : decode mLw.2.1 1029 = .ok (.invokevirtual 127, 3) := by decide +kernel
theorem zL_1032 : decode mLw.2.1 1032 = .ok (.if_icmp .eq 740, 3) := by decide +kernel
theorem zL_1037 : decode mLw.2.1 1037 = .ok (.aload_n 1, 1) := by decide +kernel
theorem zL_1043 : decode mLw.2.1 1043 = .ok (.invokevirtual 128, 3) := by decide +kernel
theorem zL_1046 : decode mLw.2.1 1046 = .ok (.aload_n 2, 1) := by decide +kernel
theorem zL_1052 : decode mLw.2.1 1052 = .ok (.invokevirtual 131, 3) := by decide +kernel
theorem zL_1055 : decode mLw.2.1 1055 = .ok (.if_icmp .eq 717, 3) := by decide +kernel
theorem zL_1060 : decode mLw.2.1 1060 = .ok (.aload_n 1, 1) := by decide +kernel
theorem zL_1066 : decode mLw.2.1 1066 = .ok (.invokevirtual 132, 3) := by decide +kernel
theorem zL_1069 : decode mLw.2.1 1069 = .ok (.aload_n 2, 1) := by decide +kernel
theorem zL_1075 : decode mLw.2.1 1075 = .ok (.invokevirtual 135, 3) := by decide +kernel
theorem zL_1078 : decode mLw.2.1 1078 = .ok (.if_icmp .eq 694, 3) := by decide +kernel
theorem zL_1083 : decode mLw.2.1 1083 = .ok (.aload_n 1, 1) := by decide +kernel
theorem zL_1104 : decode mLw.2.1 1104 = .ok (.invokevirtual 136, 3) := by decide +kernel
theorem zL_1107 : decode mLw.2.1 1107 = .ok (.aload_n 2, 1) := by decide +kernel
theorem zL_1128 : decode mLw.2.1 1128 = .ok (.invokevirtual 140, 3) := by decide +kernel
theorem zL_1131 : decode mLw.2.1 1131 = .ok (.if_icmp .eq 641, 3) := by decide +kernel
theorem zL_1136 : decode mLw.2.1 1136 = .ok (.aload_n 1, 1) := by decide +kernel
theorem zL_1137 : decode mLw.2.1 1137 = .ok (.invokevirtual 141, 3) := by decide +kernel
theorem zL_1140 : decode mLw.2.1 1140 = .ok (.aload_n 2, 1) := by decide +kernel
theorem zL_1141 : decode mLw.2.1 1141 = .ok (.invokevirtual 144, 3) := by decide +kernel
theorem zL_1144 : decode mLw.2.1 1144 = .ok (.if_icmp .eq 628, 3) := by decide +kernel
theorem zL_1149 : decode mLw.2.1 1149 = .ok (.aload_n 1, 1) := by decide +kernel
theorem zL_1155 : decode mLw.2.1 1155 = .ok (.invokevirtual 145, 3) := by decide +kernel
theorem zL_1158 : decode mLw.2.1 1158 = .ok (.aload_n 2, 1) := by decide +kernel
theorem zL_1164 : decode mLw.2.1 1164 = .ok (.invokevirtual 148, 3) := by decide +kernel
theorem zL_1167 : decode mLw.2.1 1167 = .ok (.if_icmp .eq 605, 3) := by decide +kernel
theorem zL_1172 : decode mLw.2.1 1172 = .ok (.aload_n 1, 1) := by decide +kernel
theorem zL_1173 : decode mLw.2.1 1173 = .ok (.invokevirtual 149, 3) := by decide +kernel
theorem zL_1176 : decode mLw.2.1 1176 = .ok (.aload_n 2, 1) := by decide +kernel
theorem zL_1177 : decode mLw.2.1 1177 = .ok (.invokevirtual 152, 3) := by decide +kernel
theorem zL_1180 : decode mLw.2.1 1180 = .ok (.if_icmp .eq 592, 3) := by decide +kernel
theorem zL_1185 : decode mLw.2.1 1185 = .ok (.aload_n 1, 1) := by decide +kernel
