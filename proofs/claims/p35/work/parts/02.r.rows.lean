theorem dL_law_674 : decode cL_law 674 = .ok (.istore 21, 2) := by decide +kernel
theorem dL_law_676 : decode cL_law 676 = .ok (.iload 21, 2) := by decide +kernel
theorem dL_law_678 : decode cL_law 678 = .ok (.ifCond .eq 19, 3) := by decide +kernel
theorem dL_law_681 : decode cL_law 681 = .ok (.aload 9, 2) := by decide +kernel
theorem dL_law_683 : decode cL_law 683 = .ok (.iload 19, 2) := by decide +kernel
theorem dL_law_685 : decode cL_law 685 = .ok (.dup2, 1) := by decide +kernel
theorem dL_law_686 : decode cL_law 686 = .ok (.iaload, 1) := by decide +kernel
theorem dL_law_687 : decode cL_law 687 = .ok (.aload 9, 2) := by decide +kernel
theorem dL_law_689 : decode cL_law 689 = .ok (.iload 20, 2) := by decide +kernel
theorem dL_law_691 : decode cL_law 691 = .ok (.iaload, 1) := by decide +kernel
theorem dL_law_692 : decode cL_law 692 = .ok (.isub, 1) := by decide +kernel
theorem dL_law_693 : decode cL_law 693 = .ok (.iastore, 1) := by decide +kernel
theorem dL_law_694 : decode cL_law 694 = .ok (.goto 16, 3) := by decide +kernel
theorem dL_law_697 : decode cL_law 697 = .ok (.aload 9, 2) := by decide +kernel
theorem dL_law_699 : decode cL_law 699 = .ok (.iload 20, 2) := by decide +kernel
theorem dL_law_701 : decode cL_law 701 = .ok (.dup2, 1) := by decide +kernel
theorem dL_law_702 : decode cL_law 702 = .ok (.iaload, 1) := by decide +kernel
theorem dL_law_703 : decode cL_law 703 = .ok (.aload 9, 2) := by decide +kernel
theorem dL_law_705 : decode cL_law 705 = .ok (.iload 19, 2) := by decide +kernel
theorem dL_law_707 : decode cL_law 707 = .ok (.iaload, 1) := by decide +kernel
theorem dL_law_708 : decode cL_law 708 = .ok (.isub, 1) := by decide +kernel
theorem dL_law_709 : decode cL_law 709 = .ok (.iastore, 1) := by decide +kernel
theorem dL_law_710 : decode cL_law 710 = .ok (.iload 21, 2) := by decide +kernel
theorem dL_law_712 : decode cL_law 712 = .ok (.ifCond .eq 8, 3) := by decide +kernel
theorem dL_law_715 : decode cL_law 715 = .ok (.bipush 12, 2) := by decide +kernel
theorem dL_law_717 : decode cL_law 717 = .ok (.goto 5, 3) := by decide +kernel
theorem dL_law_720 : decode cL_law 720 = .ok (.bipush 6, 2) := by decide +kernel
theorem dL_law_722 : decode cL_law 722 = .ok (.iload 21, 2) := by decide +kernel
theorem dL_law_724 : decode cL_law 724 = .ok (.ifCond .eq 8, 3) := by decide +kernel
theorem dL_law_727 : decode cL_law 727 = .ok (.iload 19, 2) := by decide +kernel
theorem dL_law_729 : decode cL_law 729 = .ok (.goto 5, 3) := by decide +kernel
theorem dL_law_732 : decode cL_law 732 = .ok (.iload 20, 2) := by decide +kernel
theorem dL_law_734 : decode cL_law 734 = .ok (.aload 9, 2) := by decide +kernel
theorem dL_law_736 : decode cL_law 736 = .ok (.invokestatic 225, 3) := by decide +kernel
theorem dL_law_739 : decode cL_law 739 = .ok (.iconst 0, 1) := by decide +kernel
theorem dL_law_740 : decode cL_law 740 = .ok (.istore 22, 2) := by decide +kernel
theorem dL_law_742 : decode cL_law 742 = .ok (.iconst 0, 1) := by decide +kernel
theorem dL_law_743 : decode cL_law 743 = .ok (.istore 23, 2) := by decide +kernel
theorem dL_law_745 : decode cL_law 745 = .ok (.iload 23, 2) := by decide +kernel
theorem dL_law_747 : decode cL_law 747 = .ok (.aload 9, 2) := by decide +kernel
theorem dL_law_749 : decode cL_law 749 = .ok (.bipush 18, 2) := by decide +kernel
theorem dL_law_751 : decode cL_law 751 = .ok (.iaload, 1) := by decide +kernel
theorem dL_law_752 : decode cL_law 752 = .ok (.if_icmp .ge 19, 3) := by decide +kernel
theorem dL_law_755 : decode cL_law 755 = .ok (.iload 22, 2) := by decide +kernel
theorem dL_law_757 : decode cL_law 757 = .ok (.aload 9, 2) := by decide +kernel
theorem dL_law_759 : decode cL_law 759 = .ok (.iload 23, 2) := by decide +kernel
theorem dL_law_761 : decode cL_law 761 = .ok (.iaload, 1) := by decide +kernel
theorem dL_law_762 : decode cL_law 762 = .ok (.iadd, 1) := by decide +kernel
theorem dL_law_763 : decode cL_law 763 = .ok (.istore 22, 2) := by decide +kernel
theorem dL_law_765 : decode cL_law 765 = .ok (.iinc 23 1, 3) := by decide +kernel
theorem dL_law_768 : decode cL_law 768 = .ok (.goto (-23), 3) := by decide +kernel
theorem dL_law_771 : decode cL_law 771 = .ok (.iload 13, 2) := by decide +kernel
theorem dL_law_773 : decode cL_law 773 = .ok (.aload_n 1, 1) := by decide +kernel
theorem dL_law_774 : decode cL_law 774 = .ok (.invokestatic 223, 3) := by decide +kernel
theorem dL_law_777 : decode cL_law 777 = .ok (.iload 22, 2) := by decide +kernel
theorem dL_law_779 : decode cL_law 779 = .ok (.if_icmp .ne 7, 3) := by decide +kernel
theorem dL_law_782 : decode cL_law 782 = .ok (.iconst 1, 1) := by decide +kernel
theorem dL_law_783 : decode cL_law 783 = .ok (.goto 4, 3) := by decide +kernel
theorem dL_law_786 : decode cL_law 786 = .ok (.iconst 0, 1) := by decide +kernel
theorem dL_law_787 : decode cL_law 787 = .ok (.iand, 1) := by decide +kernel
theorem dL_law_788 : decode cL_law 788 = .ok (.istore 13, 2) := by decide +kernel
theorem dL_law_790 : decode cL_law 790 = .ok (.iinc 18 1, 3) := by decide +kernel
theorem dL_law_793 : decode cL_law 793 = .ok (.goto (-243), 3) := by decide +kernel
theorem dL_law_796 : decode cL_law 796 = .ok (.goto 288, 3) := by decide +kernel
theorem dL_law_799 : decode cL_law 799 = .ok (.iload 10, 2) := by decide +kernel
theorem dL_law_801 : decode cL_law 801 = .ok (.iconst 5, 1) := by decide +kernel
theorem dL_law_802 : decode cL_law 802 = .ok (.if_icmp .le 14, 3) := by decide +kernel
theorem dL_law_805 : decode cL_law 805 = .ok (.iload 12, 2) := by decide +kernel
theorem dL_law_807 : decode cL_law 807 = .ok (.bipush 6, 2) := by decide +kernel
theorem dL_law_809 : decode cL_law 809 = .ok (.iand, 1) := by decide +kernel
theorem dL_law_810 : decode cL_law 810 = .ok (.ifCond .le 6, 3) := by decide +kernel
theorem dL_law_813 : decode cL_law 813 = .ok (.goto 271, 3) := by decide +kernel
theorem dL_law_816 : decode cL_law 816 = .ok (.iconst 1, 1) := by decide +kernel
theorem dL_law_817 : decode cL_law 817 = .ok (.iload 12, 2) := by decide +kernel
theorem dL_law_819 : decode cL_law 819 = .ok (.iconst 3, 1) := by decide +kernel
theorem dL_law_820 : decode cL_law 820 = .ok (.ishr, 1) := by decide +kernel
theorem dL_law_821 : decode cL_law 821 = .ok (.iconst 5, 1) := by decide +kernel
theorem dL_law_822 : decode cL_law 822 = .ok (.invokestatic 202, 3) := by decide +kernel
theorem dL_law_825 : decode cL_law 825 = .ok (.iadd, 1) := by decide +kernel
theorem dL_law_826 : decode cL_law 826 = .ok (.istore 18, 2) := by decide +kernel
theorem dL_law_828 : decode cL_law 828 = .ok (.aload_n 1, 1) := by decide +kernel
theorem dL_law_829 : decode cL_law 829 = .ok (.iload 18, 2) := by decide +kernel
theorem dL_law_831 : decode cL_law 831 = .ok (.invokestatic 229, 3) := by decide +kernel
theorem dL_law_834 : decode cL_law 834 = .ok (.iload 6, 2) := by decide +kernel
theorem dL_law_836 : decode cL_law 836 = .ok (.if_icmp .ne 7, 3) := by decide +kernel
theorem dL_law_839 : decode cL_law 839 = .ok (.iconst 1, 1) := by decide +kernel
theorem dL_law_840 : decode cL_law 840 = .ok (.goto 4, 3) := by decide +kernel
theorem dL_law_843 : decode cL_law 843 = .ok (.iconst 0, 1) := by decide +kernel
theorem dL_law_844 : decode cL_law 844 = .ok (.istore 13, 2) := by decide +kernel
theorem dL_law_846 : decode cL_law 846 = .ok (.iload 18, 2) := by decide +kernel
theorem dL_law_848 : decode cL_law 848 = .ok (.istore 6, 2) := by decide +kernel
theorem dL_law_850 : decode cL_law 850 = .ok (.iconst 0, 1) := by decide +kernel
theorem dL_law_851 : decode cL_law 851 = .ok (.istore 19, 2) := by decide +kernel
theorem dL_law_853 : decode cL_law 853 = .ok (.iload 19, 2) := by decide +kernel
theorem dL_law_855 : decode cL_law 855 = .ok (.iload 6, 2) := by decide +kernel
theorem dL_law_857 : decode cL_law 857 = .ok (.if_icmp .ge 23, 3) := by decide +kernel
theorem dL_law_860 : decode cL_law 860 = .ok (.aload 7, 2) := by decide +kernel
theorem dL_law_862 : decode cL_law 862 = .ok (.iload 19, 2) := by decide +kernel
theorem dL_law_864 : decode cL_law 864 = .ok (.iload 19, 2) := by decide +kernel
theorem dL_law_866 : decode cL_law 866 = .ok (.iastore, 1) := by decide +kernel
theorem dL_law_867 : decode cL_law 867 = .ok (.aload 8, 2) := by decide +kernel
theorem dL_law_869 : decode cL_law 869 = .ok (.iload 19, 2) := by decide +kernel
theorem dL_law_871 : decode cL_law 871 = .ok (.iload 19, 2) := by decide +kernel
theorem dL_law_873 : decode cL_law 873 = .ok (.iastore, 1) := by decide +kernel
theorem dL_law_874 : decode cL_law 874 = .ok (.iinc 19 1, 3) := by decide +kernel
theorem dL_law_877 : decode cL_law 877 = .ok (.goto (-24), 3) := by decide +kernel
theorem dL_law_880 : decode cL_law 880 = .ok (.goto 204, 3) := by decide +kernel
theorem dL_law_883 : decode cL_law 883 = .ok (.iconst 0, 1) := by decide +kernel
theorem dL_law_884 : decode cL_law 884 = .ok (.istore 19, 2) := by decide +kernel
theorem dL_law_886 : decode cL_law 886 = .ok (.iload 19, 2) := by decide +kernel
theorem dL_law_888 : decode cL_law 888 = .ok (.iconst 4, 1) := by decide +kernel
theorem dL_law_889 : decode cL_law 889 = .ok (.if_icmp .ge 127, 3) := by decide +kernel
theorem dL_law_892 : decode cL_law 892 = .ok (.iload 12, 2) := by decide +kernel
theorem dL_law_894 : decode cL_law 894 = .ok (.iconst 3, 1) := by decide +kernel
theorem dL_law_895 : decode cL_law 895 = .ok (.iload 19, 2) := by decide +kernel
theorem dL_law_897 : decode cL_law 897 = .ok (.imul, 1) := by decide +kernel
theorem dL_law_898 : decode cL_law 898 = .ok (.ishr, 1) := by decide +kernel
theorem dL_law_899 : decode cL_law 899 = .ok (.iload 6, 2) := by decide +kernel
theorem dL_law_901 : decode cL_law 901 = .ok (.invokestatic 202, 3) := by decide +kernel
theorem dL_law_904 : decode cL_law 904 = .ok (.istore 20, 2) := by decide +kernel
theorem dL_law_906 : decode cL_law 906 = .ok (.iload 12, 2) := by decide +kernel
theorem dL_law_908 : decode cL_law 908 = .ok (.iconst 3, 1) := by decide +kernel
theorem dL_law_909 : decode cL_law 909 = .ok (.iload 19, 2) := by decide +kernel
theorem dL_law_911 : decode cL_law 911 = .ok (.imul, 1) := by decide +kernel
theorem dL_law_912 : decode cL_law 912 = .ok (.bipush 7, 2) := by decide +kernel
theorem dL_law_914 : decode cL_law 914 = .ok (.iadd, 1) := by decide +kernel
theorem dL_law_915 : decode cL_law 915 = .ok (.ishr, 1) := by decide +kernel
theorem dL_law_916 : decode cL_law 916 = .ok (.iload 6, 2) := by decide +kernel
theorem dL_law_918 : decode cL_law 918 = .ok (.invokestatic 202, 3) := by decide +kernel
theorem dL_law_921 : decode cL_law 921 = .ok (.istore 21, 2) := by decide +kernel
theorem dL_law_923 : decode cL_law 923 = .ok (.iload 12, 2) := by decide +kernel
theorem dL_law_925 : decode cL_law 925 = .ok (.bipush 24, 2) := by decide +kernel
theorem dL_law_927 : decode cL_law 927 = .ok (.iload 19, 2) := by decide +kernel
theorem dL_law_929 : decode cL_law 929 = .ok (.iadd, 1) := by decide +kernel
theorem dL_law_930 : decode cL_law 930 = .ok (.ishr, 1) := by decide +kernel
theorem dL_law_931 : decode cL_law 931 = .ok (.iconst 1, 1) := by decide +kernel
theorem dL_law_932 : decode cL_law 932 = .ok (.iand, 1) := by decide +kernel
theorem dL_law_933 : decode cL_law 933 = .ok (.iconst 1, 1) := by decide +kernel
theorem dL_law_934 : decode cL_law 934 = .ok (.if_icmp .ne 7, 3) := by decide +kernel
theorem dL_law_937 : decode cL_law 937 = .ok (.iconst 1, 1) := by decide +kernel
theorem dL_law_938 : decode cL_law 938 = .ok (.goto 4, 3) := by decide +kernel
theorem dL_law_941 : decode cL_law 941 = .ok (.iconst 0, 1) := by decide +kernel
theorem dL_law_942 : decode cL_law 942 = .ok (.istore 22, 2) := by decide +kernel
theorem dL_law_944 : decode cL_law 944 = .ok (.iload 22, 2) := by decide +kernel
theorem dL_law_946 : decode cL_law 946 = .ok (.ifCond .eq 8, 3) := by decide +kernel
theorem dL_law_949 : decode cL_law 949 = .ok (.aload 8, 2) := by decide +kernel
theorem dL_law_951 : decode cL_law 951 = .ok (.goto 5, 3) := by decide +kernel
theorem dL_law_954 : decode cL_law 954 = .ok (.aload 7, 2) := by decide +kernel
theorem dL_law_956 : decode cL_law 956 = .ok (.astore 23, 2) := by decide +kernel
theorem dL_law_958 : decode cL_law 958 = .ok (.aload 23, 2) := by decide +kernel
theorem dL_law_960 : decode cL_law 960 = .ok (.iload 20, 2) := by decide +kernel
theorem dL_law_962 : decode cL_law 962 = .ok (.iaload, 1) := by decide +kernel
theorem dL_law_963 : decode cL_law 963 = .ok (.istore 24, 2) := by decide +kernel
theorem dL_law_965 : decode cL_law 965 = .ok (.aload 23, 2) := by decide +kernel
theorem dL_law_967 : decode cL_law 967 = .ok (.iload 20, 2) := by decide +kernel
theorem dL_law_969 : decode cL_law 969 = .ok (.aload 23, 2) := by decide +kernel
theorem dL_law_971 : decode cL_law 971 = .ok (.iload 21, 2) := by decide +kernel
theorem dL_law_973 : decode cL_law 973 = .ok (.iaload, 1) := by decide +kernel
theorem dL_law_974 : decode cL_law 974 = .ok (.iastore, 1) := by decide +kernel
theorem dL_law_975 : decode cL_law 975 = .ok (.aload 23, 2) := by decide +kernel
theorem dL_law_977 : decode cL_law 977 = .ok (.iload 21, 2) := by decide +kernel
theorem dL_law_979 : decode cL_law 979 = .ok (.iload 24, 2) := by decide +kernel
theorem dL_law_981 : decode cL_law 981 = .ok (.iastore, 1) := by decide +kernel
theorem dL_law_982 : decode cL_law 982 = .ok (.iload 13, 2) := by decide +kernel
theorem dL_law_984 : decode cL_law 984 = .ok (.aload_n 1, 1) := by decide +kernel
theorem dL_law_985 : decode cL_law 985 = .ok (.iload 20, 2) := by decide +kernel
theorem dL_law_987 : decode cL_law 987 = .ok (.iload 21, 2) := by decide +kernel
theorem dL_law_989 : decode cL_law 989 = .ok (.iload 22, 2) := by decide +kernel
theorem dL_law_991 : decode cL_law 991 = .ok (.invokestatic 231, 3) := by decide +kernel
theorem dL_law_994 : decode cL_law 994 = .ok (.aload 23, 2) := by decide +kernel
theorem dL_law_996 : decode cL_law 996 = .ok (.iload 20, 2) := by decide +kernel
theorem dL_law_998 : decode cL_law 998 = .ok (.iaload, 1) := by decide +kernel
theorem dL_law_999 : decode cL_law 999 = .ok (.if_icmp .ne 7, 3) := by decide +kernel
theorem dL_law_1002 : decode cL_law 1002 = .ok (.iconst 1, 1) := by decide +kernel
theorem dL_law_1003 : decode cL_law 1003 = .ok (.goto 4, 3) := by decide +kernel
theorem dL_law_1006 : decode cL_law 1006 = .ok (.iconst 0, 1) := by decide +kernel
theorem dL_law_1007 : decode cL_law 1007 = .ok (.iand, 1) := by decide +kernel
theorem dL_law_1008 : decode cL_law 1008 = .ok (.istore 13, 2) := by decide +kernel
theorem dL_law_1010 : decode cL_law 1010 = .ok (.iinc 19 1, 3) := by decide +kernel
theorem dL_law_1013 : decode cL_law 1013 = .ok (.goto (-127), 3) := by decide +kernel
theorem dL_law_1016 : decode cL_law 1016 = .ok (.goto 68, 3) := by decide +kernel
theorem dL_law_1019 : decode cL_law 1019 = .ok (.iload 12, 2) := by decide +kernel
theorem dL_law_1021 : decode cL_law 1021 = .ok (.iconst 2, 1) := by decide +kernel
theorem dL_law_1022 : decode cL_law 1022 = .ok (.iand, 1) := by decide +kernel
theorem dL_law_1023 : decode cL_law 1023 = .ok (.ifCond .le 15, 3) := by decide +kernel
theorem dL_law_1026 : decode cL_law 1026 = .ok (.iload 6, 2) := by decide +kernel
theorem dL_law_1028 : decode cL_law 1028 = .ok (.aload 7, 2) := by decide +kernel
theorem dL_law_1030 : decode cL_law 1030 = .ok (.aload 8, 2) := by decide +kernel
theorem dL_law_1032 : decode cL_law 1032 = .ok (.invokestatic 154, 3) := by decide +kernel
theorem dL_law_1035 : decode cL_law 1035 = .ok (.goto 12, 3) := by decide +kernel
theorem dL_law_1038 : decode cL_law 1038 = .ok (.iload 6, 2) := by decide +kernel
theorem dL_law_1040 : decode cL_law 1040 = .ok (.aload 7, 2) := by decide +kernel
theorem dL_law_1042 : decode cL_law 1042 = .ok (.aload 8, 2) := by decide +kernel
theorem dL_law_1044 : decode cL_law 1044 = .ok (.invokestatic 158, 3) := by decide +kernel
theorem dL_law_1047 : decode cL_law 1047 = .ok (.iload 12, 2) := by decide +kernel
theorem dL_law_1049 : decode cL_law 1049 = .ok (.iconst 2, 1) := by decide +kernel
theorem dL_law_1050 : decode cL_law 1050 = .ok (.iand, 1) := by decide +kernel
theorem dL_law_1051 : decode cL_law 1051 = .ok (.ifCond .le 10, 3) := by decide +kernel
theorem dL_law_1054 : decode cL_law 1054 = .ok (.aload_n 1, 1) := by decide +kernel
theorem dL_law_1055 : decode cL_law 1055 = .ok (.invokevirtual 233, 3) := by decide +kernel
theorem dL_law_1058 : decode cL_law 1058 = .ok (.goto 7, 3) := by decide +kernel
theorem dL_law_1061 : decode cL_law 1061 = .ok (.aload_n 1, 1) := by decide +kernel
theorem dL_law_1062 : decode cL_law 1062 = .ok (.invokevirtual 236, 3) := by decide +kernel
theorem dL_law_1065 : decode cL_law 1065 = .ok (.iload 6, 2) := by decide +kernel
theorem dL_law_1067 : decode cL_law 1067 = .ok (.aload 7, 2) := by decide +kernel
theorem dL_law_1069 : decode cL_law 1069 = .ok (.aload 8, 2) := by decide +kernel
theorem dL_law_1071 : decode cL_law 1071 = .ok (.invokestatic 146, 3) := by decide +kernel
theorem dL_law_1074 : decode cL_law 1074 = .ok (.if_icmp .ne 7, 3) := by decide +kernel
theorem dL_law_1077 : decode cL_law 1077 = .ok (.iconst 1, 1) := by decide +kernel
theorem dL_law_1078 : decode cL_law 1078 = .ok (.goto 4, 3) := by decide +kernel
theorem dL_law_1081 : decode cL_law 1081 = .ok (.iconst 0, 1) := by decide +kernel
theorem dL_law_1082 : decode cL_law 1082 = .ok (.istore 13, 2) := by decide +kernel
theorem dL_law_1084 : decode cL_law 1084 = .ok (.iload 13, 2) := by decide +kernel
theorem dL_law_1086 : decode cL_law 1086 = .ok (.ifCond .eq 26, 3) := by decide +kernel
theorem dL_law_1089 : decode cL_law 1089 = .ok (.aload_n 1, 1) := by decide +kernel
theorem dL_law_1090 : decode cL_law 1090 = .ok (.iload 11, 2) := by decide +kernel
theorem dL_law_1092 : decode cL_law 1092 = .ok (.iconst 3, 1) := by decide +kernel
theorem dL_law_1093 : decode cL_law 1093 = .ok (.ishr, 1) := by decide +kernel
theorem dL_law_1094 : decode cL_law 1094 = .ok (.sipush 512, 3) := by decide +kernel
theorem dL_law_1097 : decode cL_law 1097 = .ok (.invokestatic 202, 3) := by decide +kernel
theorem dL_law_1100 : decode cL_law 1100 = .ok (.iload 12, 2) := by decide +kernel
theorem dL_law_1102 : decode cL_law 1102 = .ok (.ldc 239, 2) := by decide +kernel
theorem dL_law_1104 : decode cL_law 1104 = .ok (.iand, 1) := by decide +kernel
theorem dL_law_1105 : decode cL_law 1105 = .ok (.lload_n 2, 1) := by decide +kernel
theorem dL_law_1106 : decode cL_law 1106 = .ok (.invokestatic 240, 3) := by decide +kernel
theorem dL_law_1109 : decode cL_law 1109 = .ok (.ifCond .ne 5, 3) := by decide +kernel
theorem dL_law_1112 : decode cL_law 1112 = .ok (.iconst 0, 1) := by decide +kernel
theorem dL_law_1113 : decode cL_law 1113 = .ok (.ireturn, 1) := by decide +kernel
theorem dL_law_1114 : decode cL_law 1114 = .ok (.iconst 0, 1) := by decide +kernel
theorem dL_law_1115 : decode cL_law 1115 = .ok (.istore 14, 2) := by decide +kernel
theorem dL_law_1117 : decode cL_law 1117 = .ok (.iload 14, 2) := by decide +kernel
theorem dL_law_1119 : decode cL_law 1119 = .ok (.iconst 4, 1) := by decide +kernel
theorem dL_law_1120 : decode cL_law 1120 = .ok (.if_icmp .ge 133, 3) := by decide +kernel
theorem dL_law_1123 : decode cL_law 1123 = .ok (.iload 11, 2) := by decide +kernel
theorem dL_law_1125 : decode cL_law 1125 = .ok (.iconst 4, 1) := by decide +kernel
theorem dL_law_1126 : decode cL_law 1126 = .ok (.iload 14, 2) := by decide +kernel
theorem dL_law_1128 : decode cL_law 1128 = .ok (.imul, 1) := by decide +kernel
theorem dL_law_1129 : decode cL_law 1129 = .ok (.ishr, 1) := by decide +kernel
theorem dL_law_1130 : decode cL_law 1130 = .ok (.bipush 64, 2) := by decide +kernel
theorem dL_law_1132 : decode cL_law 1132 = .ok (.invokestatic 202, 3) := by decide +kernel
theorem dL_law_1135 : decode cL_law 1135 = .ok (.istore 15, 2) := by decide +kernel
theorem dL_law_1137 : decode cL_law 1137 = .ok (.iload 12, 2) := by decide +kernel
theorem dL_law_1139 : decode cL_law 1139 = .ok (.iconst 4, 1) := by decide +kernel
theorem dL_law_1140 : decode cL_law 1140 = .ok (.iload 14, 2) := by decide +kernel
theorem dL_law_1142 : decode cL_law 1142 = .ok (.imul, 1) := by decide +kernel
theorem dL_law_1143 : decode cL_law 1143 = .ok (.iconst 3, 1) := by decide +kernel
theorem dL_law_1144 : decode cL_law 1144 = .ok (.iadd, 1) := by decide +kernel
theorem dL_law_1145 : decode cL_law 1145 = .ok (.ishr, 1) := by decide +kernel
theorem dL_law_1146 : decode cL_law 1146 = .ok (.bipush 64, 2) := by decide +kernel
theorem dL_law_1148 : decode cL_law 1148 = .ok (.invokestatic 202, 3) := by decide +kernel
theorem dL_law_1151 : decode cL_law 1151 = .ok (.istore 16, 2) := by decide +kernel
theorem dL_law_1153 : decode cL_law 1153 = .ok (.iload 15, 2) := by decide +kernel
theorem dL_law_1155 : decode cL_law 1155 = .ok (.bipush 8, 2) := by decide +kernel
theorem dL_law_1157 : decode cL_law 1157 = .ok (.irem, 1) := by decide +kernel
theorem dL_law_1158 : decode cL_law 1158 = .ok (.iload 15, 2) := by decide +kernel
theorem dL_law_1160 : decode cL_law 1160 = .ok (.bipush 8, 2) := by decide +kernel
theorem dL_law_1162 : decode cL_law 1162 = .ok (.idiv, 1) := by decide +kernel
theorem dL_law_1163 : decode cL_law 1163 = .ok (.iload 16, 2) := by decide +kernel
theorem dL_law_1165 : decode cL_law 1165 = .ok (.bipush 8, 2) := by decide +kernel
theorem dL_law_1167 : decode cL_law 1167 = .ok (.irem, 1) := by decide +kernel
theorem dL_law_1168 : decode cL_law 1168 = .ok (.iload 16, 2) := by decide +kernel
theorem dL_law_1170 : decode cL_law 1170 = .ok (.bipush 8, 2) := by decide +kernel
theorem dL_law_1172 : decode cL_law 1172 = .ok (.idiv, 1) := by decide +kernel
theorem dL_law_1173 : decode cL_law 1173 = .ok (.lload_n 2, 1) := by decide +kernel
theorem dL_law_1174 : decode cL_law 1174 = .ok (.invokestatic 126, 3) := by decide +kernel
theorem dL_law_1177 : decode cL_law 1177 = .ok (.ifCond .eq 7, 3) := by decide +kernel
theorem dL_law_1180 : decode cL_law 1180 = .ok (.iconst 1, 1) := by decide +kernel
theorem dL_law_1181 : decode cL_law 1181 = .ok (.goto 4, 3) := by decide +kernel
theorem dL_law_1184 : decode cL_law 1184 = .ok (.iconst 0, 1) := by decide +kernel
theorem dL_law_1185 : decode cL_law 1185 = .ok (.istore 17, 2) := by decide +kernel
theorem dL_law_1187 : decode cL_law 1187 = .ok (.aload_n 1, 1) := by decide +kernel
theorem dL_law_1188 : decode cL_law 1188 = .ok (.iload 15, 2) := by decide +kernel
theorem dL_law_1190 : decode cL_law 1190 = .ok (.bipush 8, 2) := by decide +kernel
theorem dL_law_1192 : decode cL_law 1192 = .ok (.irem, 1) := by decide +kernel
theorem dL_law_1193 : decode cL_law 1193 = .ok (.iload 15, 2) := by decide +kernel
theorem dL_law_1195 : decode cL_law 1195 = .ok (.bipush 8, 2) := by decide +kernel
theorem dL_law_1197 : decode cL_law 1197 = .ok (.idiv, 1) := by decide +kernel
theorem dL_law_1198 : decode cL_law 1198 = .ok (.iload 16, 2) := by decide +kernel
theorem dL_law_1200 : decode cL_law 1200 = .ok (.bipush 8, 2) := by decide +kernel
theorem dL_law_1202 : decode cL_law 1202 = .ok (.irem, 1) := by decide +kernel
theorem dL_law_1203 : decode cL_law 1203 = .ok (.iload 16, 2) := by decide +kernel
theorem dL_law_1205 : decode cL_law 1205 = .ok (.bipush 8, 2) := by decide +kernel
theorem dL_law_1207 : decode cL_law 1207 = .ok (.idiv, 1) := by decide +kernel
theorem dL_law_1208 : decode cL_law 1208 = .ok (.invokestatic 244, 3) := by decide +kernel
theorem dL_law_1211 : decode cL_law 1211 = .ok (.iload 17, 2) := by decide +kernel
theorem dL_law_1213 : decode cL_law 1213 = .ok (.if_icmp .ne 32, 3) := by decide +kernel
theorem dL_law_1216 : decode cL_law 1216 = .ok (.aload_n 1, 1) := by decide +kernel
theorem dL_law_1217 : decode cL_law 1217 = .ok (.iload 16, 2) := by decide +kernel
theorem dL_law_1219 : decode cL_law 1219 = .ok (.bipush 8, 2) := by decide +kernel
theorem dL_law_1221 : decode cL_law 1221 = .ok (.irem, 1) := by decide +kernel
theorem dL_law_1222 : decode cL_law 1222 = .ok (.iload 16, 2) := by decide +kernel
theorem dL_law_1224 : decode cL_law 1224 = .ok (.bipush 8, 2) := by decide +kernel
theorem dL_law_1226 : decode cL_law 1226 = .ok (.idiv, 1) := by decide +kernel
theorem dL_law_1227 : decode cL_law 1227 = .ok (.iload 15, 2) := by decide +kernel
theorem dL_law_1229 : decode cL_law 1229 = .ok (.bipush 8, 2) := by decide +kernel
theorem dL_law_1231 : decode cL_law 1231 = .ok (.irem, 1) := by decide +kernel
theorem dL_law_1232 : decode cL_law 1232 = .ok (.iload 15, 2) := by decide +kernel
theorem dL_law_1234 : decode cL_law 1234 = .ok (.bipush 8, 2) := by decide +kernel
theorem dL_law_1236 : decode cL_law 1236 = .ok (.idiv, 1) := by decide +kernel
theorem dL_law_1237 : decode cL_law 1237 = .ok (.invokestatic 247, 3) := by decide +kernel
theorem dL_law_1240 : decode cL_law 1240 = .ok (.iload 17, 2) := by decide +kernel
theorem dL_law_1242 : decode cL_law 1242 = .ok (.if_icmp .eq 5, 3) := by decide +kernel
theorem dL_law_1245 : decode cL_law 1245 = .ok (.iconst 0, 1) := by decide +kernel
theorem dL_law_1246 : decode cL_law 1246 = .ok (.ireturn, 1) := by decide +kernel
theorem dL_law_1247 : decode cL_law 1247 = .ok (.iinc 14 1, 3) := by decide +kernel
theorem dL_law_1250 : decode cL_law 1250 = .ok (.goto (-133), 3) := by decide +kernel
theorem dL_law_1253 : decode cL_law 1253 = .ok (.aload_n 1, 1) := by decide +kernel
theorem dL_law_1254 : decode cL_law 1254 = .ok (.aload 4, 2) := by decide +kernel
theorem dL_law_1256 : decode cL_law 1256 = .ok (.iload 5, 2) := by decide +kernel
theorem dL_law_1258 : decode cL_law 1258 = .ok (.lload_n 2, 1) := by decide +kernel
theorem dL_law_1259 : decode cL_law 1259 = .ok (.invokestatic 249, 3) := by decide +kernel
theorem dL_law_1262 : decode cL_law 1262 = .ok (.ifCond .eq 42, 3) := by decide +kernel
theorem dL_law_1265 : decode cL_law 1265 = .ok (.aload_n 1, 1) := by decide +kernel
theorem dL_law_1266 : decode cL_law 1266 = .ok (.iload 6, 2) := by decide +kernel
theorem dL_law_1268 : decode cL_law 1268 = .ok (.aload 7, 2) := by decide +kernel
theorem dL_law_1270 : decode cL_law 1270 = .ok (.aload 8, 2) := by decide +kernel
theorem dL_law_1272 : decode cL_law 1272 = .ok (.iload 10, 2) := by decide +kernel
theorem dL_law_1274 : decode cL_law 1274 = .ok (.bipush 23, 2) := by decide +kernel
theorem dL_law_1276 : decode cL_law 1276 = .ok (.irem, 1) := by decide +kernel
theorem dL_law_1277 : decode cL_law 1277 = .ok (.bipush 22, 2) := by decide +kernel
theorem dL_law_1279 : decode cL_law 1279 = .ok (.if_icmp .ne 7, 3) := by decide +kernel
theorem dL_law_1282 : decode cL_law 1282 = .ok (.iconst 1, 1) := by decide +kernel
theorem dL_law_1283 : decode cL_law 1283 = .ok (.goto 4, 3) := by decide +kernel
theorem dL_law_1286 : decode cL_law 1286 = .ok (.iconst 0, 1) := by decide +kernel
theorem dL_law_1287 : decode cL_law 1287 = .ok (.invokestatic 253, 3) := by decide +kernel
theorem dL_law_1290 : decode cL_law 1290 = .ok (.ifCond .eq 14, 3) := by decide +kernel
theorem dL_law_1293 : decode cL_law 1293 = .ok (.aload_n 1, 1) := by decide +kernel
theorem dL_law_1294 : decode cL_law 1294 = .ok (.iload 12, 2) := by decide +kernel
theorem dL_law_1296 : decode cL_law 1296 = .ok (.aload 9, 2) := by decide +kernel
theorem dL_law_1298 : decode cL_law 1298 = .ok (.invokestatic 257, 3) := by decide +kernel
theorem dL_law_1301 : decode cL_law 1301 = .ok (.ifCond .ne 5, 3) := by decide +kernel
theorem dL_law_1304 : decode cL_law 1304 = .ok (.iconst 0, 1) := by decide +kernel
theorem dL_law_1305 : decode cL_law 1305 = .ok (.ireturn, 1) := by decide +kernel
theorem dL_law_1306 : decode cL_law 1306 = .ok (.iinc 10 1, 3) := by decide +kernel
theorem dL_law_1309 : decode cL_law 1309 = .ok (.goto (-1268), 3) := by decide +kernel
theorem dL_law_1312 : decode cL_law 1312 = .ok (.aload_n 1, 1) := by decide +kernel
theorem dL_law_1313 : decode cL_law 1313 = .ok (.iconst 0, 1) := by decide +kernel
theorem dL_law_1314 : decode cL_law 1314 = .ok (.bipush 8, 2) := by decide +kernel
theorem dL_law_1316 : decode cL_law 1316 = .ok (.iconst 0, 1) := by decide +kernel
theorem dL_law_1317 : decode cL_law 1317 = .ok (.iconst 1, 1) := by decide +kernel
theorem dL_law_1318 : decode cL_law 1318 = .ok (.invokestatic 96, 3) := by decide +kernel
theorem dL_law_1321 : decode cL_law 1321 = .ok (.sipush (-7100), 3) := by decide +kernel
theorem dL_law_1324 : decode cL_law 1324 = .ok (.if_icmp .ne 21, 3) := by decide +kernel
theorem dL_law_1327 : decode cL_law 1327 = .ok (.aload_n 1, 1) := by decide +kernel
theorem dL_law_1328 : decode cL_law 1328 = .ok (.iload 6, 2) := by decide +kernel
theorem dL_law_1330 : decode cL_law 1330 = .ok (.iconst 0, 1) := by decide +kernel
theorem dL_law_1331 : decode cL_law 1331 = .ok (.iconst 1, 1) := by decide +kernel
theorem dL_law_1332 : decode cL_law 1332 = .ok (.invokestatic 231, 3) := by decide +kernel
theorem dL_law_1335 : decode cL_law 1335 = .ok (.sipush (-7100), 3) := by decide +kernel
theorem dL_law_1338 : decode cL_law 1338 = .ok (.if_icmp .ne 7, 3) := by decide +kernel
theorem dL_law_1341 : decode cL_law 1341 = .ok (.iconst 1, 1) := by decide +kernel
theorem dL_law_1342 : decode cL_law 1342 = .ok (.goto 4, 3) := by decide +kernel
theorem dL_law_1345 : decode cL_law 1345 = .ok (.iconst 0, 1) := by decide +kernel
theorem dL_law_1346 : decode cL_law 1346 = .ok (.ireturn, 1) := by decide +kernel
abbrev vwCl : List vw_C := [(RX0, TX0, 5), (RX1, TX1, 3), (RX2, TX2, 2), (RX3, TX3, 1), (RX4, TX4, 2), (RX5, TX5, 9), (RX6, TX6, 5)]
