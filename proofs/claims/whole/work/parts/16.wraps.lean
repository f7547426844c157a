/-! more words; the law's own methods -/
theorem k_773 : Cond.methodLink RL 7 yX9_append ∈ TT := tt 505 (by decide +kernel) (by decide +kernel)
theorem k_774 : Cond.instanceMethod yX9_append ∈ TT := tt 506 (by decide +kernel) (by decide +kernel)
theorem k_775 : Cond.selects RX9 yX9_append yX9_append ∈ TT := tt 507 (by decide +kernel) (by decide +kernel)
theorem k_776 : Cond.code yX9_append cX9_append 6 (some .int) ∈ TT := tt 508 (by decide +kernel) (by decide +kernel)
theorem k_777 : Cond.classLink RL 13 "java/lang/IllegalStateException" ∈ TT := tt 504 (by decide +kernel) (by decide +kernel)
theorem k_778 : Cond.static yL_append ∈ TT := tt 502 (by decide +kernel) (by decide +kernel)
theorem k_779 : Cond.initialized RL ∈ TT := tt 92 (by decide +kernel) (by decide +kernel)
theorem k_780 : Cond.codeWith yL_append cL_append 8 (some .int) [(0, 16, 19, 13)] ∈ TT := tt 503 (by decide +kernel) (by decide +kernel)
theorem k_781 : Cond.methodLink RL 15 yX9_truncate ∈ TT := tt 585 (by decide +kernel) (by decide +kernel)
theorem k_782 : Cond.instanceMethod yX9_truncate ∈ TT := tt 586 (by decide +kernel) (by decide +kernel)
theorem k_783 : Cond.selects RX9 yX9_truncate yX9_truncate ∈ TT := tt 587 (by decide +kernel) (by decide +kernel)
theorem k_784 : Cond.code yX9_truncate cX9_truncate 2 (some .int) ∈ TT := tt 588 (by decide +kernel) (by decide +kernel)
theorem k_785 : Cond.classLink RL 19 "java/lang/IndexOutOfBoundsException" ∈ TT := tt 584 (by decide +kernel) (by decide +kernel)
theorem k_786 : Cond.static yL_truncate ∈ TT := tt 582 (by decide +kernel) (by decide +kernel)
theorem k_787 : Cond.codeWith yL_truncate cL_truncate 4 (some .int) [(0, 9, 12, 19)] ∈ TT := tt 583 (by decide +kernel) (by decide +kernel)
theorem k_788 : Cond.methodLink RL 21 yX9_load ∈ TT := tt 609 (by decide +kernel) (by decide +kernel)
theorem k_789 : Cond.instanceMethod yX9_load ∈ TT := tt 610 (by decide +kernel) (by decide +kernel)
theorem k_790 : Cond.selects RX9 yX9_load yX9_load ∈ TT := tt 611 (by decide +kernel) (by decide +kernel)
theorem k_791 : Cond.code yX9_load cX9_load 3 (some .int) ∈ TT := tt 612 (by decide +kernel) (by decide +kernel)
theorem k_792 : Cond.classLink RL 25 "java/lang/IllegalArgumentException" ∈ TT := tt 608 (by decide +kernel) (by decide +kernel)
theorem k_793 : Cond.static yL_load ∈ TT := tt 606 (by decide +kernel) (by decide +kernel)
theorem k_794 : Cond.codeWith yL_load cL_load 3 (some .int) [(0, 8, 11, 25)] ∈ TT := tt 607 (by decide +kernel) (by decide +kernel)
theorem k_795 : Cond.methodLink RL 27 yX9_count ∈ TT := tt 769 (by decide +kernel) (by decide +kernel)
theorem k_796 : Cond.instanceMethod yX9_count ∈ TT := tt 770 (by decide +kernel) (by decide +kernel)
theorem k_797 : Cond.selects RX9 yX9_count yX9_count ∈ TT := tt 771 (by decide +kernel) (by decide +kernel)
theorem k_798 : Cond.code yX9_count cX9_count 2 (some .int) ∈ TT := tt 772 (by decide +kernel) (by decide +kernel)
theorem k_799 : Cond.static yL_count ∈ TT := tt 767 (by decide +kernel) (by decide +kernel)
theorem k_800 : Cond.codeWith yL_count cL_count 4 (some .int) [(0, 9, 12, 25)] ∈ TT := tt 768 (by decide +kernel) (by decide +kernel)
theorem k_801 : Cond.methodLink RL 30 yX9_isConflict ∈ TT := tt 796 (by decide +kernel) (by decide +kernel)
theorem k_802 : Cond.instanceMethod yX9_isConflict ∈ TT := tt 797 (by decide +kernel) (by decide +kernel)
theorem k_803 : Cond.selects RX9 yX9_isConflict yX9_isConflict ∈ TT := tt 798 (by decide +kernel) (by decide +kernel)
theorem k_804 : Cond.code yX9_isConflict cX9_isConflict 3 (some .boolean) ∈ TT := tt 799 (by decide +kernel) (by decide +kernel)
theorem k_805 : Cond.static yL_isConflict ∈ TT := tt 794 (by decide +kernel) (by decide +kernel)
theorem k_806 : Cond.codeWith yL_isConflict cL_isConflict 5 (some .int) [(0, 17, 20, 19)] ∈ TT := tt 795 (by decide +kernel) (by decide +kernel)
theorem k_807 : Cond.methodLink RL 34 yX9_match ∈ TT := tt 824 (by decide +kernel) (by decide +kernel)
theorem k_808 : Cond.instanceMethod yX9_match ∈ TT := tt 825 (by decide +kernel) (by decide +kernel)
theorem k_809 : Cond.selects RX9 yX9_match yX9_match ∈ TT := tt 826 (by decide +kernel) (by decide +kernel)
theorem k_810 : Cond.code yX9_match cX9_match 3 (some .int) ∈ TT := tt 827 (by decide +kernel) (by decide +kernel)
theorem k_811 : Cond.static yL_match ∈ TT := tt 822 (by decide +kernel) (by decide +kernel)
theorem k_812 : Cond.codeWith yL_match cL_match 5 (some .int) [(0, 10, 13, 19)] ∈ TT := tt 823 (by decide +kernel) (by decide +kernel)
theorem k_813 : Cond.methodLink RL 38 yX9_declare ∈ TT := tt 835 (by decide +kernel) (by decide +kernel)
theorem k_814 : Cond.instanceMethod yX9_declare ∈ TT := tt 836 (by decide +kernel) (by decide +kernel)
theorem k_815 : Cond.selects RX9 yX9_declare yX9_declare ∈ TT := tt 837 (by decide +kernel) (by decide +kernel)
theorem k_816 : Cond.code yX9_declare cX9_declare 4 (some .boolean) ∈ TT := tt 838 (by decide +kernel) (by decide +kernel)
theorem k_817 : Cond.static yL_declare ∈ TT := tt 833 (by decide +kernel) (by decide +kernel)
theorem k_818 : Cond.codeWith yL_declare cL_declare 5 (some .int) [(0, 17, 20, 19), (0, 17, 24, 13)] ∈ TT := tt 834 (by decide +kernel) (by decide +kernel)
theorem k_819 : Cond.methodLink RL 41 yX9_assign ∈ TT := tt 869 (by decide +kernel) (by decide +kernel)
theorem k_820 : Cond.instanceMethod yX9_assign ∈ TT := tt 870 (by decide +kernel) (by decide +kernel)
theorem k_821 : Cond.selects RX9 yX9_assign yX9_assign ∈ TT := tt 871 (by decide +kernel) (by decide +kernel)
theorem k_822 : Cond.code yX9_assign cX9_assign 3 (some .int) ∈ TT := tt 872 (by decide +kernel) (by decide +kernel)
theorem k_823 : Cond.static yL_assign ∈ TT := tt 867 (by decide +kernel) (by decide +kernel)
theorem k_824 : Cond.codeWith yL_assign cL_assign 5 (some .int) [(0, 10, 13, 19), (0, 10, 17, 25), (0, 10, 21, 13)] ∈ TT := tt 868 (by decide +kernel) (by decide +kernel)
theorem k_825 : Cond.methodLink RL 44 yX9_unassign ∈ TT := tt 899 (by decide +kernel) (by decide +kernel)
theorem k_826 : Cond.instanceMethod yX9_unassign ∈ TT := tt 900 (by decide +kernel) (by decide +kernel)
theorem k_827 : Cond.selects RX9 yX9_unassign yX9_unassign ∈ TT := tt 901 (by decide +kernel) (by decide +kernel)
theorem k_828 : Cond.code yX9_unassign cX9_unassign 4 (some .int) ∈ TT := tt 902 (by decide +kernel) (by decide +kernel)
theorem k_829 : Cond.classLink RL 47 "java/util/NoSuchElementException" ∈ TT := tt 898 (by decide +kernel) (by decide +kernel)
theorem k_830 : Cond.static yL_unassign ∈ TT := tt 896 (by decide +kernel) (by decide +kernel)
theorem k_831 : Cond.codeWith yL_unassign cL_unassign 5 (some .int) [(0, 10, 13, 19), (0, 10, 17, 47)] ∈ TT := tt 897 (by decide +kernel) (by decide +kernel)
theorem k_832 : Cond.methodLink RL 49 yX9_assignAll ∈ TT := tt 927 (by decide +kernel) (by decide +kernel)
theorem k_833 : Cond.instanceMethod yX9_assignAll ∈ TT := tt 928 (by decide +kernel) (by decide +kernel)
theorem k_834 : Cond.selects RX9 yX9_assignAll yX9_assignAll ∈ TT := tt 929 (by decide +kernel) (by decide +kernel)
theorem k_835 : Cond.code yX9_assignAll cX9_assignAll 5 (some .int) ∈ TT := tt 930 (by decide +kernel) (by decide +kernel)
theorem k_836 : Cond.static yL_assignAll ∈ TT := tt 925 (by decide +kernel) (by decide +kernel)
theorem k_837 : Cond.codeWith yL_assignAll cL_assignAll 4 (some .int) [(0, 9, 12, 19)] ∈ TT := tt 926 (by decide +kernel) (by decide +kernel)
theorem k_838 : Cond.methodLink RL 52 yX9_reviewerOf ∈ TT := tt 947 (by decide +kernel) (by decide +kernel)
theorem k_839 : Cond.instanceMethod yX9_reviewerOf ∈ TT := tt 948 (by decide +kernel) (by decide +kernel)
theorem k_840 : Cond.selects RX9 yX9_reviewerOf yX9_reviewerOf ∈ TT := tt 949 (by decide +kernel) (by decide +kernel)
theorem k_841 : Cond.code yX9_reviewerOf cX9_reviewerOf 5 (some .int) ∈ TT := tt 950 (by decide +kernel) (by decide +kernel)
theorem k_842 : Cond.static yL_reviewerOf ∈ TT := tt 945 (by decide +kernel) (by decide +kernel)
theorem k_843 : Cond.codeWith yL_reviewerOf cL_reviewerOf 5 (some .int) [(0, 10, 13, 19)] ∈ TT := tt 946 (by decide +kernel) (by decide +kernel)
theorem k_844 : Cond.methodLink RL 55 yX9_loadOf ∈ TT := tt 955 (by decide +kernel) (by decide +kernel)
theorem k_845 : Cond.instanceMethod yX9_loadOf ∈ TT := tt 956 (by decide +kernel) (by decide +kernel)
theorem k_846 : Cond.selects RX9 yX9_loadOf yX9_loadOf ∈ TT := tt 957 (by decide +kernel) (by decide +kernel)
theorem k_847 : Cond.code yX9_loadOf cX9_loadOf 2 (some .int) ∈ TT := tt 958 (by decide +kernel) (by decide +kernel)
theorem k_848 : Cond.static yL_loadOf ∈ TT := tt 953 (by decide +kernel) (by decide +kernel)
theorem k_849 : Cond.codeWith yL_loadOf cL_loadOf 4 (some .int) [(0, 9, 12, 19)] ∈ TT := tt 954 (by decide +kernel) (by decide +kernel)
theorem k_850 : Cond.methodLink RL 58 yX9_matchSum ∈ TT := tt 962 (by decide +kernel) (by decide +kernel)
theorem k_851 : Cond.instanceMethod yX9_matchSum ∈ TT := tt 963 (by decide +kernel) (by decide +kernel)
theorem k_852 : Cond.selects RX9 yX9_matchSum yX9_matchSum ∈ TT := tt 964 (by decide +kernel) (by decide +kernel)
theorem k_853 : Cond.code yX9_matchSum cX9_matchSum 5 (some .int) ∈ TT := tt 965 (by decide +kernel) (by decide +kernel)
theorem k_854 : Cond.static yL_matchSum ∈ TT := tt 960 (by decide +kernel) (by decide +kernel)
theorem k_855 : Cond.codeWith yL_matchSum cL_matchSum 4 (some .int) [(0, 9, 12, 19)] ∈ TT := tt 961 (by decide +kernel) (by decide +kernel)
theorem k_856 : Cond.methodLink RL 61 yX9_mostReviews ∈ TT := tt 969 (by decide +kernel) (by decide +kernel)
theorem k_857 : Cond.instanceMethod yX9_mostReviews ∈ TT := tt 970 (by decide +kernel) (by decide +kernel)
theorem k_858 : Cond.selects RX9 yX9_mostReviews yX9_mostReviews ∈ TT := tt 971 (by decide +kernel) (by decide +kernel)
theorem k_859 : Cond.code yX9_mostReviews cX9_mostReviews 2 (some .int) ∈ TT := tt 972 (by decide +kernel) (by decide +kernel)
theorem k_860 : Cond.static yL_mostReviews ∈ TT := tt 967 (by decide +kernel) (by decide +kernel)
theorem k_861 : Cond.codeWith yL_mostReviews cL_mostReviews 4 (some .int) [(0, 9, 12, 19)] ∈ TT := tt 968 (by decide +kernel) (by decide +kernel)
theorem k_862 : Cond.methodLink RL 64 yX9_bestMatchSum ∈ TT := tt 1009 (by decide +kernel) (by decide +kernel)
theorem k_863 : Cond.instanceMethod yX9_bestMatchSum ∈ TT := tt 1010 (by decide +kernel) (by decide +kernel)
theorem k_864 : Cond.selects RX9 yX9_bestMatchSum yX9_bestMatchSum ∈ TT := tt 1011 (by decide +kernel) (by decide +kernel)
theorem k_865 : Cond.code yX9_bestMatchSum cX9_bestMatchSum 2 (some .int) ∈ TT := tt 1012 (by decide +kernel) (by decide +kernel)
theorem k_866 : Cond.static yL_bestMatchSum ∈ TT := tt 1007 (by decide +kernel) (by decide +kernel)
theorem k_867 : Cond.codeWith yL_bestMatchSum cL_bestMatchSum 4 (some .int) [(0, 9, 12, 19)] ∈ TT := tt 1008 (by decide +kernel) (by decide +kernel)
theorem k_868 : Cond.methodLink RL 67 yX9_setScore ∈ TT := tt 1016 (by decide +kernel) (by decide +kernel)
theorem k_869 : Cond.instanceMethod yX9_setScore ∈ TT := tt 1017 (by decide +kernel) (by decide +kernel)
theorem k_870 : Cond.selects RX9 yX9_setScore yX9_setScore ∈ TT := tt 1018 (by decide +kernel) (by decide +kernel)
theorem k_871 : Cond.code yX9_setScore cX9_setScore 5 (some .int) ∈ TT := tt 1019 (by decide +kernel) (by decide +kernel)
theorem k_872 : Cond.static yL_setScore ∈ TT := tt 1014 (by decide +kernel) (by decide +kernel)
theorem k_873 : Cond.codeWith yL_setScore cL_setScore 6 (some .int) [(0, 12, 15, 19), (0, 12, 19, 25), (0, 12, 23, 47)] ∈ TT := tt 1015 (by decide +kernel) (by decide +kernel)
theorem k_874 : Cond.methodLink RL 71 yX9_adjusted ∈ TT := tt 1024 (by decide +kernel) (by decide +kernel)
theorem k_875 : Cond.instanceMethod yX9_adjusted ∈ TT := tt 1025 (by decide +kernel) (by decide +kernel)
theorem k_876 : Cond.selects RX9 yX9_adjusted yX9_adjusted ∈ TT := tt 1026 (by decide +kernel) (by decide +kernel)
theorem k_877 : Cond.code yX9_adjusted cX9_adjusted 3 (some .int) ∈ TT := tt 1027 (by decide +kernel) (by decide +kernel)
theorem k_878 : Cond.static yL_adjusted ∈ TT := tt 1022 (by decide +kernel) (by decide +kernel)
theorem k_879 : Cond.codeWith yL_adjusted cL_adjusted 5 (some .int) [(0, 10, 13, 19), (0, 10, 17, 47)] ∈ TT := tt 1023 (by decide +kernel) (by decide +kernel)
theorem k_880 : Cond.methodLink RL 74 yX9_normalized ∈ TT := tt 1087 (by decide +kernel) (by decide +kernel)
theorem k_881 : Cond.instanceMethod yX9_normalized ∈ TT := tt 1088 (by decide +kernel) (by decide +kernel)
theorem k_882 : Cond.selects RX9 yX9_normalized yX9_normalized ∈ TT := tt 1089 (by decide +kernel) (by decide +kernel)
theorem k_883 : Cond.code yX9_normalized cX9_normalized 2 (some .int) ∈ TT := tt 1090 (by decide +kernel) (by decide +kernel)
theorem k_884 : Cond.static yL_normalized ∈ TT := tt 1085 (by decide +kernel) (by decide +kernel)
theorem k_885 : Cond.codeWith yL_normalized cL_normalized 4 (some .int) [(0, 9, 12, 19), (0, 9, 15, 47)] ∈ TT := tt 1086 (by decide +kernel) (by decide +kernel)
theorem k_886 : Cond.methodLink RL 77 yX9_leniency ∈ TT := tt 1100 (by decide +kernel) (by decide +kernel)
theorem k_887 : Cond.instanceMethod yX9_leniency ∈ TT := tt 1101 (by decide +kernel) (by decide +kernel)
theorem k_888 : Cond.selects RX9 yX9_leniency yX9_leniency ∈ TT := tt 1102 (by decide +kernel) (by decide +kernel)
theorem k_889 : Cond.code yX9_leniency cX9_leniency 6 (some .double) ∈ TT := tt 1103 (by decide +kernel) (by decide +kernel)
theorem k_890 : Cond.static yL_leniency ∈ TT := tt 1098 (by decide +kernel) (by decide +kernel)
theorem k_891 : Cond.codeWith yL_leniency cL_leniency 4 (some .int) [(0, 8, 11, 19), (0, 8, 14, 47)] ∈ TT := tt 1099 (by decide +kernel) (by decide +kernel)
theorem k_892 : Cond.methodLink RL 81 yX9_disagreement ∈ TT := tt 1108 (by decide +kernel) (by decide +kernel)
theorem k_893 : Cond.instanceMethod yX9_disagreement ∈ TT := tt 1109 (by decide +kernel) (by decide +kernel)
theorem k_894 : Cond.selects RX9 yX9_disagreement yX9_disagreement ∈ TT := tt 1110 (by decide +kernel) (by decide +kernel)
theorem k_895 : Cond.code yX9_disagreement cX9_disagreement 6 (some .double) ∈ TT := tt 1111 (by decide +kernel) (by decide +kernel)
theorem k_896 : Cond.static yL_disagreement ∈ TT := tt 1106 (by decide +kernel) (by decide +kernel)
theorem k_897 : Cond.codeWith yL_disagreement cL_disagreement 4 (some .int) [(0, 8, 11, 19), (0, 8, 14, 47)] ∈ TT := tt 1107 (by decide +kernel) (by decide +kernel)
theorem k_898 : Cond.methodLink RL 84 yX9_rank ∈ TT := tt 1117 (by decide +kernel) (by decide +kernel)
theorem k_899 : Cond.instanceMethod yX9_rank ∈ TT := tt 1118 (by decide +kernel) (by decide +kernel)
theorem k_900 : Cond.selects RX9 yX9_rank yX9_rank ∈ TT := tt 1119 (by decide +kernel) (by decide +kernel)
theorem k_901 : Cond.code yX9_rank cX9_rank 4 (some .int) ∈ TT := tt 1120 (by decide +kernel) (by decide +kernel)
theorem k_902 : Cond.static yL_rank ∈ TT := tt 1115 (by decide +kernel) (by decide +kernel)
theorem k_903 : Cond.codeWith yL_rank cL_rank 4 (some .int) [(0, 9, 12, 19), (0, 9, 15, 47)] ∈ TT := tt 1116 (by decide +kernel) (by decide +kernel)
theorem k_904 : Cond.methodLink RL 87 yX9_ranked ∈ TT := tt 1125 (by decide +kernel) (by decide +kernel)
theorem k_905 : Cond.instanceMethod yX9_ranked ∈ TT := tt 1126 (by decide +kernel) (by decide +kernel)
theorem k_906 : Cond.selects RX9 yX9_ranked yX9_ranked ∈ TT := tt 1127 (by decide +kernel) (by decide +kernel)
theorem k_907 : Cond.code yX9_ranked cX9_ranked 6 (some .int) ∈ TT := tt 1128 (by decide +kernel) (by decide +kernel)
theorem k_908 : Cond.static yL_ranked ∈ TT := tt 1123 (by decide +kernel) (by decide +kernel)
theorem k_909 : Cond.codeWith yL_ranked cL_ranked 5 (some .int) [(0, 10, 13, 19)] ∈ TT := tt 1124 (by decide +kernel) (by decide +kernel)
theorem k_910 : Cond.methodLink RL 90 yX9_tieRound ∈ TT := tt 1133 (by decide +kernel) (by decide +kernel)
theorem k_911 : Cond.instanceMethod yX9_tieRound ∈ TT := tt 1134 (by decide +kernel) (by decide +kernel)
theorem k_912 : Cond.selects RX9 yX9_tieRound yX9_tieRound ∈ TT := tt 1135 (by decide +kernel) (by decide +kernel)
theorem k_913 : Cond.code yX9_tieRound cX9_tieRound 3 (some .int) ∈ TT := tt 1136 (by decide +kernel) (by decide +kernel)
theorem k_914 : Cond.static yL_tieRound ∈ TT := tt 1131 (by decide +kernel) (by decide +kernel)
theorem k_915 : Cond.codeWith yL_tieRound cL_tieRound 5 (some .int) [(0, 10, 13, 19), (0, 10, 17, 25), (0, 10, 21, 47)] ∈ TT := tt 1132 (by decide +kernel) (by decide +kernel)
theorem k_916 : Cond.methodLink RL 93 yX9_setLine ∈ TT := tt 1142 (by decide +kernel) (by decide +kernel)
theorem k_917 : Cond.instanceMethod yX9_setLine ∈ TT := tt 1143 (by decide +kernel) (by decide +kernel)
theorem k_918 : Cond.selects RX9 yX9_setLine yX9_setLine ∈ TT := tt 1144 (by decide +kernel) (by decide +kernel)
theorem k_919 : Cond.code yX9_setLine cX9_setLine 3 (some .int) ∈ TT := tt 1145 (by decide +kernel) (by decide +kernel)
theorem k_920 : Cond.static yL_setLine ∈ TT := tt 1140 (by decide +kernel) (by decide +kernel)
theorem k_921 : Cond.codeWith yL_setLine cL_setLine 4 (some .int) [(0, 9, 12, 25)] ∈ TT := tt 1141 (by decide +kernel) (by decide +kernel)
theorem k_922 : Cond.methodLink RL 96 yX9_amount ∈ TT := tt 1151 (by decide +kernel) (by decide +kernel)
theorem k_923 : Cond.instanceMethod yX9_amount ∈ TT := tt 1152 (by decide +kernel) (by decide +kernel)
theorem k_924 : Cond.selects RX9 yX9_amount yX9_amount ∈ TT := tt 1153 (by decide +kernel) (by decide +kernel)
theorem k_925 : Cond.code yX9_amount cX9_amount 3 (some .int) ∈ TT := tt 1154 (by decide +kernel) (by decide +kernel)
theorem k_926 : Cond.static yL_amount ∈ TT := tt 1149 (by decide +kernel) (by decide +kernel)
theorem k_927 : Cond.codeWith yL_amount cL_amount 5 (some .int) [(0, 10, 13, 25), (0, 10, 17, 19)] ∈ TT := tt 1150 (by decide +kernel) (by decide +kernel)
theorem k_928 : Cond.methodLink RL 99 yX9_left ∈ TT := tt 1182 (by decide +kernel) (by decide +kernel)
theorem k_929 : Cond.instanceMethod yX9_left ∈ TT := tt 1183 (by decide +kernel) (by decide +kernel)
theorem k_930 : Cond.selects RX9 yX9_left yX9_left ∈ TT := tt 1184 (by decide +kernel) (by decide +kernel)
theorem k_931 : Cond.code yX9_left cX9_left 3 (some .int) ∈ TT := tt 1185 (by decide +kernel) (by decide +kernel)
theorem k_932 : Cond.static yL_left ∈ TT := tt 1180 (by decide +kernel) (by decide +kernel)
theorem k_933 : Cond.codeWith yL_left cL_left 5 (some .int) [(0, 10, 13, 25), (0, 10, 17, 19)] ∈ TT := tt 1181 (by decide +kernel) (by decide +kernel)
theorem k_934 : Cond.methodLink RL 102 yX9_poolLeft ∈ TT := tt 1189 (by decide +kernel) (by decide +kernel)
theorem k_935 : Cond.instanceMethod yX9_poolLeft ∈ TT := tt 1190 (by decide +kernel) (by decide +kernel)
theorem k_936 : Cond.selects RX9 yX9_poolLeft yX9_poolLeft ∈ TT := tt 1191 (by decide +kernel) (by decide +kernel)
theorem k_937 : Cond.code yX9_poolLeft cX9_poolLeft 2 (some .int) ∈ TT := tt 1192 (by decide +kernel) (by decide +kernel)
theorem k_938 : Cond.static yL_poolLeft ∈ TT := tt 1187 (by decide +kernel) (by decide +kernel)
theorem k_939 : Cond.codeWith yL_poolLeft cL_poolLeft 4 (some .int) [(0, 9, 12, 25)] ∈ TT := tt 1188 (by decide +kernel) (by decide +kernel)
theorem k_940 : Cond.methodLink RL 105 yX9_funded ∈ TT := tt 1196 (by decide +kernel) (by decide +kernel)
theorem k_941 : Cond.instanceMethod yX9_funded ∈ TT := tt 1197 (by decide +kernel) (by decide +kernel)
theorem k_942 : Cond.selects RX9 yX9_funded yX9_funded ∈ TT := tt 1198 (by decide +kernel) (by decide +kernel)
theorem k_943 : Cond.code yX9_funded cX9_funded 2 (some .int) ∈ TT := tt 1199 (by decide +kernel) (by decide +kernel)
theorem k_944 : Cond.static yL_funded ∈ TT := tt 1194 (by decide +kernel) (by decide +kernel)
theorem k_945 : Cond.codeWith yL_funded cL_funded 4 (some .int) [(0, 9, 12, 25)] ∈ TT := tt 1195 (by decide +kernel) (by decide +kernel)
theorem k_946 : Cond.methodLink RL 108 yX9_bestSum ∈ TT := tt 1207 (by decide +kernel) (by decide +kernel)
theorem k_947 : Cond.instanceMethod yX9_bestSum ∈ TT := tt 1208 (by decide +kernel) (by decide +kernel)
theorem k_948 : Cond.selects RX9 yX9_bestSum yX9_bestSum ∈ TT := tt 1209 (by decide +kernel) (by decide +kernel)
theorem k_949 : Cond.code yX9_bestSum cX9_bestSum 4 (some .int) ∈ TT := tt 1210 (by decide +kernel) (by decide +kernel)
theorem k_950 : Cond.static yL_bestSum ∈ TT := tt 1205 (by decide +kernel) (by decide +kernel)
theorem k_951 : Cond.codeWith yL_bestSum cL_bestSum 4 (some .int) [(0, 9, 12, 19)] ∈ TT := tt 1206 (by decide +kernel) (by decide +kernel)
theorem k_952 : Cond.methodLink RL 111 yX9_lineFor ∈ TT := tt 1245 (by decide +kernel) (by decide +kernel)
theorem k_953 : Cond.instanceMethod yX9_lineFor ∈ TT := tt 1246 (by decide +kernel) (by decide +kernel)
theorem k_954 : Cond.selects RX9 yX9_lineFor yX9_lineFor ∈ TT := tt 1247 (by decide +kernel) (by decide +kernel)
theorem k_955 : Cond.code yX9_lineFor cX9_lineFor 5 (some .int) ∈ TT := tt 1248 (by decide +kernel) (by decide +kernel)
theorem k_956 : Cond.static yL_lineFor ∈ TT := tt 1243 (by decide +kernel) (by decide +kernel)
theorem k_957 : Cond.codeWith yL_lineFor cL_lineFor 5 (some .int) [(0, 10, 13, 25)] ∈ TT := tt 1244 (by decide +kernel) (by decide +kernel)
theorem k_958 : Cond.methodLink RL 114 yX9_appeal ∈ TT := tt 1254 (by decide +kernel) (by decide +kernel)
theorem k_959 : Cond.instanceMethod yX9_appeal ∈ TT := tt 1255 (by decide +kernel) (by decide +kernel)
theorem k_960 : Cond.selects RX9 yX9_appeal yX9_appeal ∈ TT := tt 1256 (by decide +kernel) (by decide +kernel)
theorem k_961 : Cond.code yX9_appeal cX9_appeal 6 (some .boolean) ∈ TT := tt 1257 (by decide +kernel) (by decide +kernel)
theorem k_962 : Cond.static yL_appeal ∈ TT := tt 1252 (by decide +kernel) (by decide +kernel)
theorem k_963 : Cond.codeWith yL_appeal cL_appeal 5 (some .int) [(0, 17, 20, 19), (0, 17, 24, 47), (0, 17, 28, 13)] ∈ TT := tt 1253 (by decide +kernel) (by decide +kernel)
theorem k_964 : Cond.methodLink RL 117 yX9_undo ∈ TT := tt 1270 (by decide +kernel) (by decide +kernel)
theorem k_965 : Cond.instanceMethod yX9_undo ∈ TT := tt 1271 (by decide +kernel) (by decide +kernel)
theorem k_966 : Cond.selects RX9 yX9_undo yX9_undo ∈ TT := tt 1272 (by decide +kernel) (by decide +kernel)
theorem k_967 : Cond.code yX9_undo cX9_undo 1 (some .int) ∈ TT := tt 1273 (by decide +kernel) (by decide +kernel)
theorem k_968 : Cond.static yL_undo ∈ TT := tt 1268 (by decide +kernel) (by decide +kernel)
theorem k_969 : Cond.codeWith yL_undo cL_undo 3 (some .int) [(0, 8, 11, 13)] ∈ TT := tt 1269 (by decide +kernel) (by decide +kernel)
theorem k_970 : Cond.methodLink RL 124 yL_append ∈ TT := tt 501 (by decide +kernel) (by decide +kernel)
theorem k_971 : Cond.methodLink RL 129 yX10_append ∈ TT := tt 1359 (by decide +kernel) (by decide +kernel)
theorem k_972 : Cond.instanceMethod yX10_append ∈ TT := tt 1360 (by decide +kernel) (by decide +kernel)
theorem k_973 : Cond.selects RX10 yX10_append yX10_append ∈ TT := tt 1361 (by decide +kernel) (by decide +kernel)
theorem k_974 : Cond.code yX10_append cX10_append 6 (some .int) ∈ TT := tt 1362 (by decide +kernel) (by decide +kernel)
theorem k_975 : Cond.methodLink RL 130 yX10_thrown ∈ TT := tt 1355 (by decide +kernel) (by decide +kernel)
theorem k_976 : Cond.instanceMethod yX10_thrown ∈ TT := tt 1356 (by decide +kernel) (by decide +kernel)
theorem k_977 : Cond.selects RX10 yX10_thrown yX10_thrown ∈ TT := tt 1357 (by decide +kernel) (by decide +kernel)
theorem k_978 : Cond.code yX10_thrown cX10_thrown 1 (some .int) ∈ TT := tt 1358 (by decide +kernel) (by decide +kernel)
theorem k_979 : Cond.methodLink RL 133 yL_truncate ∈ TT := tt 581 (by decide +kernel) (by decide +kernel)
theorem k_980 : Cond.methodLink RL 136 yX10_truncate ∈ TT := tt 1371 (by decide +kernel) (by decide +kernel)
theorem k_981 : Cond.instanceMethod yX10_truncate ∈ TT := tt 1372 (by decide +kernel) (by decide +kernel)
theorem k_982 : Cond.selects RX10 yX10_truncate yX10_truncate ∈ TT := tt 1373 (by decide +kernel) (by decide +kernel)
theorem k_983 : Cond.code yX10_truncate cX10_truncate 2 (some .int) ∈ TT := tt 1374 (by decide +kernel) (by decide +kernel)
theorem k_984 : Cond.methodLink RL 137 yL_load ∈ TT := tt 605 (by decide +kernel) (by decide +kernel)
theorem k_985 : Cond.methodLink RL 140 yX10_load ∈ TT := tt 1378 (by decide +kernel) (by decide +kernel)
theorem k_986 : Cond.instanceMethod yX10_load ∈ TT := tt 1379 (by decide +kernel) (by decide +kernel)
theorem k_987 : Cond.selects RX10 yX10_load yX10_load ∈ TT := tt 1380 (by decide +kernel) (by decide +kernel)
theorem k_988 : Cond.code yX10_load cX10_load 2 (some .int) ∈ TT := tt 1381 (by decide +kernel) (by decide +kernel)
theorem k_989 : Cond.methodLink RL 141 yX9_errorCode ∈ TT := tt 493 (by decide +kernel) (by decide +kernel)
theorem k_990 : Cond.instanceMethod yX9_errorCode ∈ TT := tt 494 (by decide +kernel) (by decide +kernel)
theorem k_991 : Cond.selects RX9 yX9_errorCode yX9_errorCode ∈ TT := tt 495 (by decide +kernel) (by decide +kernel)
theorem k_992 : Cond.code yX9_errorCode cX9_errorCode 1 (some .int) ∈ TT := tt 496 (by decide +kernel) (by decide +kernel)
theorem k_993 : Cond.methodLink RL 144 yX10_errorCode ∈ TT := tt 1444 (by decide +kernel) (by decide +kernel)
theorem k_994 : Cond.instanceMethod yX10_errorCode ∈ TT := tt 1445 (by decide +kernel) (by decide +kernel)
theorem k_995 : Cond.selects RX10 yX10_errorCode yX10_errorCode ∈ TT := tt 1446 (by decide +kernel) (by decide +kernel)
theorem k_996 : Cond.code yX10_errorCode cX10_errorCode 1 (some .int) ∈ TT := tt 1447 (by decide +kernel) (by decide +kernel)
theorem k_997 : Cond.methodLink RL 145 yX9_errorPosition ∈ TT := tt 497 (by decide +kernel) (by decide +kernel)
theorem k_998 : Cond.instanceMethod yX9_errorPosition ∈ TT := tt 498 (by decide +kernel) (by decide +kernel)
theorem k_999 : Cond.selects RX9 yX9_errorPosition yX9_errorPosition ∈ TT := tt 499 (by decide +kernel) (by decide +kernel)
theorem k_1000 : Cond.code yX9_errorPosition cX9_errorPosition 1 (some .int) ∈ TT := tt 500 (by decide +kernel) (by decide +kernel)
theorem k_1001 : Cond.methodLink RL 148 yX10_errorPosition ∈ TT := tt 1448 (by decide +kernel) (by decide +kernel)
theorem k_1002 : Cond.instanceMethod yX10_errorPosition ∈ TT := tt 1449 (by decide +kernel) (by decide +kernel)
theorem k_1003 : Cond.selects RX10 yX10_errorPosition yX10_errorPosition ∈ TT := tt 1450 (by decide +kernel) (by decide +kernel)
theorem k_1004 : Cond.code yX10_errorPosition cX10_errorPosition 1 (some .int) ∈ TT := tt 1451 (by decide +kernel) (by decide +kernel)
theorem k_1005 : Cond.methodLink RL 149 yL_count ∈ TT := tt 766 (by decide +kernel) (by decide +kernel)
theorem k_1006 : Cond.methodLink RL 151 yX10_count ∈ TT := tt 1456 (by decide +kernel) (by decide +kernel)
theorem k_1007 : Cond.instanceMethod yX10_count ∈ TT := tt 1457 (by decide +kernel) (by decide +kernel)
theorem k_1008 : Cond.selects RX10 yX10_count yX10_count ∈ TT := tt 1458 (by decide +kernel) (by decide +kernel)
theorem k_1009 : Cond.code yX10_count cX10_count 4 (some .int) ∈ TT := tt 1459 (by decide +kernel) (by decide +kernel)
theorem k_1010 : Cond.methodLink RL 152 yL_isConflict ∈ TT := tt 793 (by decide +kernel) (by decide +kernel)
theorem k_1011 : Cond.methodLink RL 155 yX10_isConflict ∈ TT := tt 1475 (by decide +kernel) (by decide +kernel)
theorem k_1012 : Cond.instanceMethod yX10_isConflict ∈ TT := tt 1476 (by decide +kernel) (by decide +kernel)
theorem k_1013 : Cond.selects RX10 yX10_isConflict yX10_isConflict ∈ TT := tt 1477 (by decide +kernel) (by decide +kernel)
theorem k_1014 : Cond.code yX10_isConflict cX10_isConflict 3 (some .boolean) ∈ TT := tt 1478 (by decide +kernel) (by decide +kernel)
theorem k_1015 : Cond.methodLink RL 156 yL_match ∈ TT := tt 821 (by decide +kernel) (by decide +kernel)
theorem k_1016 : Cond.methodLink RL 158 yX10_match ∈ TT := tt 1506 (by decide +kernel) (by decide +kernel)
theorem k_1017 : Cond.instanceMethod yX10_match ∈ TT := tt 1507 (by decide +kernel) (by decide +kernel)
theorem k_1018 : Cond.selects RX10 yX10_match yX10_match ∈ TT := tt 1508 (by decide +kernel) (by decide +kernel)
theorem k_1019 : Cond.code yX10_match cX10_match 3 (some .int) ∈ TT := tt 1509 (by decide +kernel) (by decide +kernel)
theorem k_1020 : Cond.methodLink RL 159 yL_declare ∈ TT := tt 832 (by decide +kernel) (by decide +kernel)
theorem k_1021 : Cond.methodLink RL 161 yX10_declare ∈ TT := tt 1514 (by decide +kernel) (by decide +kernel)
theorem k_1022 : Cond.instanceMethod yX10_declare ∈ TT := tt 1515 (by decide +kernel) (by decide +kernel)
theorem k_1023 : Cond.selects RX10 yX10_declare yX10_declare ∈ TT := tt 1516 (by decide +kernel) (by decide +kernel)
theorem k_1024 : Cond.code yX10_declare cX10_declare 4 (some .boolean) ∈ TT := tt 1517 (by decide +kernel) (by decide +kernel)
theorem k_1025 : Cond.methodLink RL 162 yL_assign ∈ TT := tt 866 (by decide +kernel) (by decide +kernel)
theorem k_1026 : Cond.methodLink RL 164 yX10_assign ∈ TT := tt 1526 (by decide +kernel) (by decide +kernel)
theorem k_1027 : Cond.instanceMethod yX10_assign ∈ TT := tt 1527 (by decide +kernel) (by decide +kernel)
theorem k_1028 : Cond.selects RX10 yX10_assign yX10_assign ∈ TT := tt 1528 (by decide +kernel) (by decide +kernel)
theorem k_1029 : Cond.code yX10_assign cX10_assign 3 (some .int) ∈ TT := tt 1529 (by decide +kernel) (by decide +kernel)
theorem k_1030 : Cond.methodLink RL 165 yL_unassign ∈ TT := tt 895 (by decide +kernel) (by decide +kernel)
theorem k_1031 : Cond.methodLink RL 167 yX10_unassign ∈ TT := tt 1538 (by decide +kernel) (by decide +kernel)
theorem k_1032 : Cond.instanceMethod yX10_unassign ∈ TT := tt 1539 (by decide +kernel) (by decide +kernel)
theorem k_1033 : Cond.selects RX10 yX10_unassign yX10_unassign ∈ TT := tt 1540 (by decide +kernel) (by decide +kernel)
theorem k_1034 : Cond.code yX10_unassign cX10_unassign 4 (some .int) ∈ TT := tt 1541 (by decide +kernel) (by decide +kernel)
theorem k_1035 : Cond.methodLink RL 168 yL_assignAll ∈ TT := tt 924 (by decide +kernel) (by decide +kernel)
theorem k_1036 : Cond.methodLink RL 170 yX10_assignAll ∈ TT := tt 1549 (by decide +kernel) (by decide +kernel)
theorem k_1037 : Cond.instanceMethod yX10_assignAll ∈ TT := tt 1550 (by decide +kernel) (by decide +kernel)
theorem k_1038 : Cond.selects RX10 yX10_assignAll yX10_assignAll ∈ TT := tt 1551 (by decide +kernel) (by decide +kernel)
theorem k_1039 : Cond.code yX10_assignAll cX10_assignAll 6 (some .int) ∈ TT := tt 1552 (by decide +kernel) (by decide +kernel)
theorem k_1040 : Cond.methodLink RL 171 yL_reviewerOf ∈ TT := tt 944 (by decide +kernel) (by decide +kernel)
theorem k_1041 : Cond.methodLink RL 173 yX10_reviewerOf ∈ TT := tt 1561 (by decide +kernel) (by decide +kernel)
theorem k_1042 : Cond.instanceMethod yX10_reviewerOf ∈ TT := tt 1562 (by decide +kernel) (by decide +kernel)
theorem k_1043 : Cond.selects RX10 yX10_reviewerOf yX10_reviewerOf ∈ TT := tt 1563 (by decide +kernel) (by decide +kernel)
theorem k_1044 : Cond.code yX10_reviewerOf cX10_reviewerOf 5 (some .int) ∈ TT := tt 1564 (by decide +kernel) (by decide +kernel)
theorem k_1045 : Cond.methodLink RL 174 yL_loadOf ∈ TT := tt 952 (by decide +kernel) (by decide +kernel)
theorem k_1046 : Cond.methodLink RL 176 yX10_loadOf ∈ TT := tt 1565 (by decide +kernel) (by decide +kernel)
theorem k_1047 : Cond.instanceMethod yX10_loadOf ∈ TT := tt 1566 (by decide +kernel) (by decide +kernel)
theorem k_1048 : Cond.selects RX10 yX10_loadOf yX10_loadOf ∈ TT := tt 1567 (by decide +kernel) (by decide +kernel)
theorem k_1049 : Cond.code yX10_loadOf cX10_loadOf 2 (some .int) ∈ TT := tt 1568 (by decide +kernel) (by decide +kernel)
theorem k_1050 : Cond.methodLink RL 177 yL_matchSum ∈ TT := tt 959 (by decide +kernel) (by decide +kernel)
theorem k_1051 : Cond.methodLink RL 179 yX10_matchSum ∈ TT := tt 1569 (by decide +kernel) (by decide +kernel)
theorem k_1052 : Cond.instanceMethod yX10_matchSum ∈ TT := tt 1570 (by decide +kernel) (by decide +kernel)
theorem k_1053 : Cond.selects RX10 yX10_matchSum yX10_matchSum ∈ TT := tt 1571 (by decide +kernel) (by decide +kernel)
theorem k_1054 : Cond.code yX10_matchSum cX10_matchSum 5 (some .int) ∈ TT := tt 1572 (by decide +kernel) (by decide +kernel)
theorem k_1055 : Cond.methodLink RL 180 yL_mostReviews ∈ TT := tt 966 (by decide +kernel) (by decide +kernel)
theorem k_1056 : Cond.methodLink RL 182 yX10_mostReviews ∈ TT := tt 1573 (by decide +kernel) (by decide +kernel)
theorem k_1057 : Cond.instanceMethod yX10_mostReviews ∈ TT := tt 1574 (by decide +kernel) (by decide +kernel)
theorem k_1058 : Cond.selects RX10 yX10_mostReviews yX10_mostReviews ∈ TT := tt 1575 (by decide +kernel) (by decide +kernel)
theorem k_1059 : Cond.code yX10_mostReviews cX10_mostReviews 2 (some .int) ∈ TT := tt 1576 (by decide +kernel) (by decide +kernel)
theorem k_1060 : Cond.methodLink RL 183 yL_bestMatchSum ∈ TT := tt 1006 (by decide +kernel) (by decide +kernel)
theorem k_1061 : Cond.methodLink RL 185 yX10_bestMatchSum ∈ TT := tt 1598 (by decide +kernel) (by decide +kernel)
theorem k_1062 : Cond.instanceMethod yX10_bestMatchSum ∈ TT := tt 1599 (by decide +kernel) (by decide +kernel)
theorem k_1063 : Cond.selects RX10 yX10_bestMatchSum yX10_bestMatchSum ∈ TT := tt 1600 (by decide +kernel) (by decide +kernel)
theorem k_1064 : Cond.code yX10_bestMatchSum cX10_bestMatchSum 2 (some .int) ∈ TT := tt 1601 (by decide +kernel) (by decide +kernel)
theorem k_1065 : Cond.methodLink RL 186 yL_setScore ∈ TT := tt 1013 (by decide +kernel) (by decide +kernel)
theorem k_1066 : Cond.methodLink RL 189 yX10_setScore ∈ TT := tt 1602 (by decide +kernel) (by decide +kernel)
theorem k_1067 : Cond.instanceMethod yX10_setScore ∈ TT := tt 1603 (by decide +kernel) (by decide +kernel)
theorem k_1068 : Cond.selects RX10 yX10_setScore yX10_setScore ∈ TT := tt 1604 (by decide +kernel) (by decide +kernel)
theorem k_1069 : Cond.code yX10_setScore cX10_setScore 5 (some .int) ∈ TT := tt 1605 (by decide +kernel) (by decide +kernel)
theorem k_1070 : Cond.methodLink RL 190 yL_adjusted ∈ TT := tt 1021 (by decide +kernel) (by decide +kernel)
theorem k_1071 : Cond.methodLink RL 192 yX10_adjusted ∈ TT := tt 1606 (by decide +kernel) (by decide +kernel)
theorem k_1072 : Cond.instanceMethod yX10_adjusted ∈ TT := tt 1607 (by decide +kernel) (by decide +kernel)
theorem k_1073 : Cond.selects RX10 yX10_adjusted yX10_adjusted ∈ TT := tt 1608 (by decide +kernel) (by decide +kernel)
theorem k_1074 : Cond.code yX10_adjusted cX10_adjusted 3 (some .int) ∈ TT := tt 1609 (by decide +kernel) (by decide +kernel)
theorem k_1075 : Cond.methodLink RL 193 yL_normalized ∈ TT := tt 1084 (by decide +kernel) (by decide +kernel)
theorem k_1076 : Cond.methodLink RL 195 yX10_normalized ∈ TT := tt 1623 (by decide +kernel) (by decide +kernel)
theorem k_1077 : Cond.instanceMethod yX10_normalized ∈ TT := tt 1624 (by decide +kernel) (by decide +kernel)
theorem k_1078 : Cond.selects RX10 yX10_normalized yX10_normalized ∈ TT := tt 1625 (by decide +kernel) (by decide +kernel)
theorem k_1079 : Cond.code yX10_normalized cX10_normalized 2 (some .int) ∈ TT := tt 1626 (by decide +kernel) (by decide +kernel)
theorem k_1080 : Cond.methodLink RL 196 yL_leniency ∈ TT := tt 1097 (by decide +kernel) (by decide +kernel)
theorem k_1081 : Cond.methodLink RL 199 yX10_leniency ∈ TT := tt 1635 (by decide +kernel) (by decide +kernel)
theorem k_1082 : Cond.instanceMethod yX10_leniency ∈ TT := tt 1636 (by decide +kernel) (by decide +kernel)
theorem k_1083 : Cond.selects RX10 yX10_leniency yX10_leniency ∈ TT := tt 1637 (by decide +kernel) (by decide +kernel)
theorem k_1084 : Cond.code yX10_leniency cX10_leniency 8 (some .double) ∈ TT := tt 1638 (by decide +kernel) (by decide +kernel)
theorem k_1085 : Cond.methodLink RL 200 yL_disagreement ∈ TT := tt 1105 (by decide +kernel) (by decide +kernel)
theorem k_1086 : Cond.methodLink RL 202 yX10_disagreement ∈ TT := tt 1639 (by decide +kernel) (by decide +kernel)
theorem k_1087 : Cond.instanceMethod yX10_disagreement ∈ TT := tt 1640 (by decide +kernel) (by decide +kernel)
theorem k_1088 : Cond.selects RX10 yX10_disagreement yX10_disagreement ∈ TT := tt 1641 (by decide +kernel) (by decide +kernel)
theorem k_1089 : Cond.code yX10_disagreement cX10_disagreement 7 (some .double) ∈ TT := tt 1642 (by decide +kernel) (by decide +kernel)
theorem k_1090 : Cond.methodLink RL 203 yL_rank ∈ TT := tt 1114 (by decide +kernel) (by decide +kernel)
theorem k_1091 : Cond.methodLink RL 205 yX10_rank ∈ TT := tt 1643 (by decide +kernel) (by decide +kernel)
theorem k_1092 : Cond.instanceMethod yX10_rank ∈ TT := tt 1644 (by decide +kernel) (by decide +kernel)
theorem k_1093 : Cond.selects RX10 yX10_rank yX10_rank ∈ TT := tt 1645 (by decide +kernel) (by decide +kernel)
theorem k_1094 : Cond.code yX10_rank cX10_rank 2 (some .int) ∈ TT := tt 1646 (by decide +kernel) (by decide +kernel)
theorem k_1095 : Cond.methodLink RL 206 yL_ranked ∈ TT := tt 1122 (by decide +kernel) (by decide +kernel)
theorem k_1096 : Cond.methodLink RL 208 yX10_ranked ∈ TT := tt 1671 (by decide +kernel) (by decide +kernel)
theorem k_1097 : Cond.instanceMethod yX10_ranked ∈ TT := tt 1672 (by decide +kernel) (by decide +kernel)
theorem k_1098 : Cond.selects RX10 yX10_ranked yX10_ranked ∈ TT := tt 1673 (by decide +kernel) (by decide +kernel)
theorem k_1099 : Cond.code yX10_ranked cX10_ranked 4 (some .int) ∈ TT := tt 1674 (by decide +kernel) (by decide +kernel)
theorem k_1100 : Cond.methodLink RL 209 yL_tieRound ∈ TT := tt 1130 (by decide +kernel) (by decide +kernel)
theorem k_1101 : Cond.methodLink RL 211 yX10_tieRound ∈ TT := tt 1679 (by decide +kernel) (by decide +kernel)
theorem k_1102 : Cond.instanceMethod yX10_tieRound ∈ TT := tt 1680 (by decide +kernel) (by decide +kernel)
theorem k_1103 : Cond.selects RX10 yX10_tieRound yX10_tieRound ∈ TT := tt 1681 (by decide +kernel) (by decide +kernel)
theorem k_1104 : Cond.code yX10_tieRound cX10_tieRound 3 (some .int) ∈ TT := tt 1682 (by decide +kernel) (by decide +kernel)
theorem k_1105 : Cond.methodLink RL 212 yL_setLine ∈ TT := tt 1139 (by decide +kernel) (by decide +kernel)
theorem k_1106 : Cond.methodLink RL 214 yX10_setLine ∈ TT := tt 1683 (by decide +kernel) (by decide +kernel)
theorem k_1107 : Cond.instanceMethod yX10_setLine ∈ TT := tt 1684 (by decide +kernel) (by decide +kernel)
theorem k_1108 : Cond.selects RX10 yX10_setLine yX10_setLine ∈ TT := tt 1685 (by decide +kernel) (by decide +kernel)
theorem k_1109 : Cond.code yX10_setLine cX10_setLine 3 (some .int) ∈ TT := tt 1686 (by decide +kernel) (by decide +kernel)
theorem k_1110 : Cond.methodLink RL 215 yL_amount ∈ TT := tt 1148 (by decide +kernel) (by decide +kernel)
theorem k_1111 : Cond.methodLink RL 217 yX10_amount ∈ TT := tt 1687 (by decide +kernel) (by decide +kernel)
theorem k_1112 : Cond.instanceMethod yX10_amount ∈ TT := tt 1688 (by decide +kernel) (by decide +kernel)
theorem k_1113 : Cond.selects RX10 yX10_amount yX10_amount ∈ TT := tt 1689 (by decide +kernel) (by decide +kernel)
theorem k_1114 : Cond.code yX10_amount cX10_amount 3 (some .int) ∈ TT := tt 1690 (by decide +kernel) (by decide +kernel)
theorem k_1115 : Cond.methodLink RL 218 yL_left ∈ TT := tt 1179 (by decide +kernel) (by decide +kernel)
theorem k_1116 : Cond.methodLink RL 220 yX10_left ∈ TT := tt 1711 (by decide +kernel) (by decide +kernel)
theorem k_1117 : Cond.instanceMethod yX10_left ∈ TT := tt 1712 (by decide +kernel) (by decide +kernel)
theorem k_1118 : Cond.selects RX10 yX10_left yX10_left ∈ TT := tt 1713 (by decide +kernel) (by decide +kernel)
theorem k_1119 : Cond.code yX10_left cX10_left 3 (some .int) ∈ TT := tt 1714 (by decide +kernel) (by decide +kernel)
theorem k_1120 : Cond.methodLink RL 221 yL_poolLeft ∈ TT := tt 1186 (by decide +kernel) (by decide +kernel)
theorem k_1121 : Cond.methodLink RL 223 yX10_poolLeft ∈ TT := tt 1715 (by decide +kernel) (by decide +kernel)
theorem k_1122 : Cond.instanceMethod yX10_poolLeft ∈ TT := tt 1716 (by decide +kernel) (by decide +kernel)
theorem k_1123 : Cond.selects RX10 yX10_poolLeft yX10_poolLeft ∈ TT := tt 1717 (by decide +kernel) (by decide +kernel)
theorem k_1124 : Cond.code yX10_poolLeft cX10_poolLeft 2 (some .int) ∈ TT := tt 1718 (by decide +kernel) (by decide +kernel)
theorem k_1125 : Cond.methodLink RL 224 yL_funded ∈ TT := tt 1193 (by decide +kernel) (by decide +kernel)
theorem k_1126 : Cond.methodLink RL 226 yX10_funded ∈ TT := tt 1719 (by decide +kernel) (by decide +kernel)
theorem k_1127 : Cond.instanceMethod yX10_funded ∈ TT := tt 1720 (by decide +kernel) (by decide +kernel)
theorem k_1128 : Cond.selects RX10 yX10_funded yX10_funded ∈ TT := tt 1721 (by decide +kernel) (by decide +kernel)
theorem k_1129 : Cond.code yX10_funded cX10_funded 2 (some .int) ∈ TT := tt 1722 (by decide +kernel) (by decide +kernel)
theorem k_1130 : Cond.methodLink RL 227 yL_bestSum ∈ TT := tt 1204 (by decide +kernel) (by decide +kernel)
theorem k_1131 : Cond.methodLink RL 229 yX10_bestSum ∈ TT := tt 1727 (by decide +kernel) (by decide +kernel)
theorem k_1132 : Cond.instanceMethod yX10_bestSum ∈ TT := tt 1728 (by decide +kernel) (by decide +kernel)
theorem k_1133 : Cond.selects RX10 yX10_bestSum yX10_bestSum ∈ TT := tt 1729 (by decide +kernel) (by decide +kernel)
theorem k_1134 : Cond.code yX10_bestSum cX10_bestSum 8 (some .int) ∈ TT := tt 1730 (by decide +kernel) (by decide +kernel)
theorem k_1135 : Cond.methodLink RL 230 yL_lineFor ∈ TT := tt 1242 (by decide +kernel) (by decide +kernel)
theorem k_1136 : Cond.methodLink RL 232 yX10_lineFor ∈ TT := tt 1731 (by decide +kernel) (by decide +kernel)
theorem k_1137 : Cond.instanceMethod yX10_lineFor ∈ TT := tt 1732 (by decide +kernel) (by decide +kernel)
theorem k_1138 : Cond.selects RX10 yX10_lineFor yX10_lineFor ∈ TT := tt 1733 (by decide +kernel) (by decide +kernel)
theorem k_1139 : Cond.code yX10_lineFor cX10_lineFor 6 (some .int) ∈ TT := tt 1734 (by decide +kernel) (by decide +kernel)
theorem k_1140 : Cond.methodLink RL 233 yL_appeal ∈ TT := tt 1251 (by decide +kernel) (by decide +kernel)
theorem k_1141 : Cond.methodLink RL 235 yX10_appeal ∈ TT := tt 1735 (by decide +kernel) (by decide +kernel)
theorem k_1142 : Cond.instanceMethod yX10_appeal ∈ TT := tt 1736 (by decide +kernel) (by decide +kernel)
theorem k_1143 : Cond.selects RX10 yX10_appeal yX10_appeal ∈ TT := tt 1737 (by decide +kernel) (by decide +kernel)
theorem k_1144 : Cond.code yX10_appeal cX10_appeal 6 (some .boolean) ∈ TT := tt 1738 (by decide +kernel) (by decide +kernel)
theorem k_1145 : Cond.methodLink RL 236 yL_undo ∈ TT := tt 1267 (by decide +kernel) (by decide +kernel)
theorem k_1146 : Cond.methodLink RL 238 yX10_undo ∈ TT := tt 1452 (by decide +kernel) (by decide +kernel)
theorem k_1147 : Cond.instanceMethod yX10_undo ∈ TT := tt 1453 (by decide +kernel) (by decide +kernel)
theorem k_1148 : Cond.selects RX10 yX10_undo yX10_undo ∈ TT := tt 1454 (by decide +kernel) (by decide +kernel)
theorem k_1149 : Cond.code yX10_undo cX10_undo 2 (some .int) ∈ TT := tt 1455 (by decide +kernel) (by decide +kernel)
theorem mf_X9_append : MFv yX9_append RX9 cX9_append 6 (some .int) 5 := ⟨k_774, k_775, k_87, k_776, rfl, by decide, by decide, by decide +kernel⟩
theorem mf_L_append : MFw yL_append RL cL_append 8 [(0, 16, 19, 13)] 7 := ⟨k_778, k_779, k_780, rfl, by decide, by decide, by decide +kernel⟩
theorem mf_X9_truncate : MFv yX9_truncate RX9 cX9_truncate 2 (some .int) 1 := ⟨k_782, k_783, k_87, k_784, rfl, by decide, by decide, by decide +kernel⟩
theorem mf_L_truncate : MFw yL_truncate RL cL_truncate 4 [(0, 9, 12, 19)] 3 := ⟨k_786, k_779, k_787, rfl, by decide, by decide, by decide +kernel⟩
theorem mf_X9_load : MFv yX9_load RX9 cX9_load 3 (some .int) 0 := ⟨k_789, k_790, k_87, k_791, rfl, by decide, by decide, by decide +kernel⟩
theorem mf_L_load : MFw yL_load RL cL_load 3 [(0, 8, 11, 25)] 2 := ⟨k_793, k_779, k_794, rfl, by decide, by decide, by decide +kernel⟩
theorem mf_X9_count : MFv yX9_count RX9 cX9_count 2 (some .int) 1 := ⟨k_796, k_797, k_87, k_798, rfl, by decide, by decide, by decide +kernel⟩
theorem mf_L_count : MFw yL_count RL cL_count 4 [(0, 9, 12, 25)] 3 := ⟨k_799, k_779, k_800, rfl, by decide, by decide, by decide +kernel⟩
theorem mf_X9_isConflict : MFv yX9_isConflict RX9 cX9_isConflict 3 (some .boolean) 2 := ⟨k_802, k_803, k_87, k_804, rfl, by decide, by decide, by decide +kernel⟩
theorem mf_L_isConflict : MFw yL_isConflict RL cL_isConflict 5 [(0, 17, 20, 19)] 4 := ⟨k_805, k_779, k_806, rfl, by decide, by decide, by decide +kernel⟩
theorem mf_X9_match : MFv yX9_match RX9 cX9_match 3 (some .int) 2 := ⟨k_808, k_809, k_87, k_810, rfl, by decide, by decide, by decide +kernel⟩
theorem mf_L_match : MFw yL_match RL cL_match 5 [(0, 10, 13, 19)] 4 := ⟨k_811, k_779, k_812, rfl, by decide, by decide, by decide +kernel⟩
theorem mf_X9_declare : MFv yX9_declare RX9 cX9_declare 4 (some .boolean) 2 := ⟨k_814, k_815, k_87, k_816, rfl, by decide, by decide, by decide +kernel⟩
theorem mf_L_declare : MFw yL_declare RL cL_declare 5 [(0, 17, 20, 19), (0, 17, 24, 13)] 4 := ⟨k_817, k_779, k_818, rfl, by decide, by decide, by decide +kernel⟩
theorem mf_X9_assign : MFv yX9_assign RX9 cX9_assign 3 (some .int) 2 := ⟨k_820, k_821, k_87, k_822, rfl, by decide, by decide, by decide +kernel⟩
theorem mf_L_assign : MFw yL_assign RL cL_assign 5 [(0, 10, 13, 19), (0, 10, 17, 25), (0, 10, 21, 13)] 4 := ⟨k_823, k_779, k_824, rfl, by decide, by decide, by decide +kernel⟩
theorem mf_X9_unassign : MFv yX9_unassign RX9 cX9_unassign 4 (some .int) 2 := ⟨k_826, k_827, k_87, k_828, rfl, by decide, by decide, by decide +kernel⟩
theorem mf_L_unassign : MFw yL_unassign RL cL_unassign 5 [(0, 10, 13, 19), (0, 10, 17, 47)] 4 := ⟨k_830, k_779, k_831, rfl, by decide, by decide, by decide +kernel⟩
theorem mf_X9_assignAll : MFv yX9_assignAll RX9 cX9_assignAll 5 (some .int) 1 := ⟨k_833, k_834, k_87, k_835, rfl, by decide, by decide, by decide +kernel⟩
theorem mf_L_assignAll : MFw yL_assignAll RL cL_assignAll 4 [(0, 9, 12, 19)] 3 := ⟨k_836, k_779, k_837, rfl, by decide, by decide, by decide +kernel⟩
theorem mf_X9_reviewerOf : MFv yX9_reviewerOf RX9 cX9_reviewerOf 5 (some .int) 2 := ⟨k_839, k_840, k_87, k_841, rfl, by decide, by decide, by decide +kernel⟩
theorem mf_L_reviewerOf : MFw yL_reviewerOf RL cL_reviewerOf 5 [(0, 10, 13, 19)] 4 := ⟨k_842, k_779, k_843, rfl, by decide, by decide, by decide +kernel⟩
theorem mf_X9_loadOf : MFv yX9_loadOf RX9 cX9_loadOf 2 (some .int) 1 := ⟨k_845, k_846, k_87, k_847, rfl, by decide, by decide, by decide +kernel⟩
theorem mf_L_loadOf : MFw yL_loadOf RL cL_loadOf 4 [(0, 9, 12, 19)] 3 := ⟨k_848, k_779, k_849, rfl, by decide, by decide, by decide +kernel⟩
theorem mf_X9_matchSum : MFv yX9_matchSum RX9 cX9_matchSum 5 (some .int) 1 := ⟨k_851, k_852, k_87, k_853, rfl, by decide, by decide, by decide +kernel⟩
theorem mf_L_matchSum : MFw yL_matchSum RL cL_matchSum 4 [(0, 9, 12, 19)] 3 := ⟨k_854, k_779, k_855, rfl, by decide, by decide, by decide +kernel⟩
theorem mf_X9_mostReviews : MFv yX9_mostReviews RX9 cX9_mostReviews 2 (some .int) 1 := ⟨k_857, k_858, k_87, k_859, rfl, by decide, by decide, by decide +kernel⟩
theorem mf_L_mostReviews : MFw yL_mostReviews RL cL_mostReviews 4 [(0, 9, 12, 19)] 3 := ⟨k_860, k_779, k_861, rfl, by decide, by decide, by decide +kernel⟩
theorem mf_X9_bestMatchSum : MFv yX9_bestMatchSum RX9 cX9_bestMatchSum 2 (some .int) 1 := ⟨k_863, k_864, k_87, k_865, rfl, by decide, by decide, by decide +kernel⟩
theorem mf_L_bestMatchSum : MFw yL_bestMatchSum RL cL_bestMatchSum 4 [(0, 9, 12, 19)] 3 := ⟨k_866, k_779, k_867, rfl, by decide, by decide, by decide +kernel⟩
theorem mf_X9_setScore : MFv yX9_setScore RX9 cX9_setScore 5 (some .int) 3 := ⟨k_869, k_870, k_87, k_871, rfl, by decide, by decide, by decide +kernel⟩
theorem mf_L_setScore : MFw yL_setScore RL cL_setScore 6 [(0, 12, 15, 19), (0, 12, 19, 25), (0, 12, 23, 47)] 5 := ⟨k_872, k_779, k_873, rfl, by decide, by decide, by decide +kernel⟩
theorem mf_X9_adjusted : MFv yX9_adjusted RX9 cX9_adjusted 3 (some .int) 2 := ⟨k_875, k_876, k_87, k_877, rfl, by decide, by decide, by decide +kernel⟩
theorem mf_L_adjusted : MFw yL_adjusted RL cL_adjusted 5 [(0, 10, 13, 19), (0, 10, 17, 47)] 4 := ⟨k_878, k_779, k_879, rfl, by decide, by decide, by decide +kernel⟩
theorem mf_X9_normalized : MFv yX9_normalized RX9 cX9_normalized 2 (some .int) 1 := ⟨k_881, k_882, k_87, k_883, rfl, by decide, by decide, by decide +kernel⟩
theorem mf_L_normalized : MFw yL_normalized RL cL_normalized 4 [(0, 9, 12, 19), (0, 9, 15, 47)] 3 := ⟨k_884, k_779, k_885, rfl, by decide, by decide, by decide +kernel⟩
theorem mf_X9_leniency : MFv yX9_leniency RX9 cX9_leniency 6 (some .double) 1 := ⟨k_887, k_888, k_87, k_889, rfl, by decide, by decide, by decide +kernel⟩
theorem mf_L_leniency : MFw yL_leniency RL cL_leniency 4 [(0, 8, 11, 19), (0, 8, 14, 47)] 3 := ⟨k_890, k_779, k_891, rfl, by decide, by decide, by decide +kernel⟩
theorem mf_X9_disagreement : MFv yX9_disagreement RX9 cX9_disagreement 6 (some .double) 1 := ⟨k_893, k_894, k_87, k_895, rfl, by decide, by decide, by decide +kernel⟩
theorem mf_L_disagreement : MFw yL_disagreement RL cL_disagreement 4 [(0, 8, 11, 19), (0, 8, 14, 47)] 3 := ⟨k_896, k_779, k_897, rfl, by decide, by decide, by decide +kernel⟩
theorem mf_X9_rank : MFv yX9_rank RX9 cX9_rank 4 (some .int) 1 := ⟨k_899, k_900, k_87, k_901, rfl, by decide, by decide, by decide +kernel⟩
theorem mf_L_rank : MFw yL_rank RL cL_rank 4 [(0, 9, 12, 19), (0, 9, 15, 47)] 3 := ⟨k_902, k_779, k_903, rfl, by decide, by decide, by decide +kernel⟩
theorem mf_X9_ranked : MFv yX9_ranked RX9 cX9_ranked 6 (some .int) 2 := ⟨k_905, k_906, k_87, k_907, rfl, by decide, by decide, by decide +kernel⟩
theorem mf_L_ranked : MFw yL_ranked RL cL_ranked 5 [(0, 10, 13, 19)] 4 := ⟨k_908, k_779, k_909, rfl, by decide, by decide, by decide +kernel⟩
theorem mf_X9_tieRound : MFv yX9_tieRound RX9 cX9_tieRound 3 (some .int) 2 := ⟨k_911, k_912, k_87, k_913, rfl, by decide, by decide, by decide +kernel⟩
theorem mf_L_tieRound : MFw yL_tieRound RL cL_tieRound 5 [(0, 10, 13, 19), (0, 10, 17, 25), (0, 10, 21, 47)] 4 := ⟨k_914, k_779, k_915, rfl, by decide, by decide, by decide +kernel⟩
theorem mf_X9_setLine : MFv yX9_setLine RX9 cX9_setLine 3 (some .int) 1 := ⟨k_917, k_918, k_87, k_919, rfl, by decide, by decide, by decide +kernel⟩
theorem mf_L_setLine : MFw yL_setLine RL cL_setLine 4 [(0, 9, 12, 25)] 3 := ⟨k_920, k_779, k_921, rfl, by decide, by decide, by decide +kernel⟩
theorem mf_X9_amount : MFv yX9_amount RX9 cX9_amount 3 (some .int) 2 := ⟨k_923, k_924, k_87, k_925, rfl, by decide, by decide, by decide +kernel⟩
theorem mf_L_amount : MFw yL_amount RL cL_amount 5 [(0, 10, 13, 25), (0, 10, 17, 19)] 4 := ⟨k_926, k_779, k_927, rfl, by decide, by decide, by decide +kernel⟩
theorem mf_X9_left : MFv yX9_left RX9 cX9_left 3 (some .int) 2 := ⟨k_929, k_930, k_87, k_931, rfl, by decide, by decide, by decide +kernel⟩
theorem mf_L_left : MFw yL_left RL cL_left 5 [(0, 10, 13, 25), (0, 10, 17, 19)] 4 := ⟨k_932, k_779, k_933, rfl, by decide, by decide, by decide +kernel⟩
theorem mf_X9_poolLeft : MFv yX9_poolLeft RX9 cX9_poolLeft 2 (some .int) 1 := ⟨k_935, k_936, k_87, k_937, rfl, by decide, by decide, by decide +kernel⟩
theorem mf_L_poolLeft : MFw yL_poolLeft RL cL_poolLeft 4 [(0, 9, 12, 25)] 3 := ⟨k_938, k_779, k_939, rfl, by decide, by decide, by decide +kernel⟩
theorem mf_X9_funded : MFv yX9_funded RX9 cX9_funded 2 (some .int) 1 := ⟨k_941, k_942, k_87, k_943, rfl, by decide, by decide, by decide +kernel⟩
theorem mf_L_funded : MFw yL_funded RL cL_funded 4 [(0, 9, 12, 25)] 3 := ⟨k_944, k_779, k_945, rfl, by decide, by decide, by decide +kernel⟩
theorem mf_X9_bestSum : MFv yX9_bestSum RX9 cX9_bestSum 4 (some .int) 1 := ⟨k_947, k_948, k_87, k_949, rfl, by decide, by decide, by decide +kernel⟩
theorem mf_L_bestSum : MFw yL_bestSum RL cL_bestSum 4 [(0, 9, 12, 19)] 3 := ⟨k_950, k_779, k_951, rfl, by decide, by decide, by decide +kernel⟩
theorem mf_X9_lineFor : MFv yX9_lineFor RX9 cX9_lineFor 5 (some .int) 2 := ⟨k_953, k_954, k_87, k_955, rfl, by decide, by decide, by decide +kernel⟩
theorem mf_L_lineFor : MFw yL_lineFor RL cL_lineFor 5 [(0, 10, 13, 25)] 4 := ⟨k_956, k_779, k_957, rfl, by decide, by decide, by decide +kernel⟩
theorem mf_X9_appeal : MFv yX9_appeal RX9 cX9_appeal 6 (some .boolean) 2 := ⟨k_959, k_960, k_87, k_961, rfl, by decide, by decide, by decide +kernel⟩
theorem mf_L_appeal : MFw yL_appeal RL cL_appeal 5 [(0, 17, 20, 19), (0, 17, 24, 47), (0, 17, 28, 13)] 4 := ⟨k_962, k_779, k_963, rfl, by decide, by decide, by decide +kernel⟩
theorem mf_X9_undo : MFv yX9_undo RX9 cX9_undo 1 (some .int) 0 := ⟨k_965, k_966, k_87, k_967, rfl, by decide, by decide, by decide +kernel⟩
theorem mf_L_undo : MFw yL_undo RL cL_undo 3 [(0, 8, 11, 13)] 2 := ⟨k_968, k_779, k_969, rfl, by decide, by decide, by decide +kernel⟩
theorem mf_X10_append : MFv yX10_append RX10 cX10_append 6 (some .int) 5 := ⟨k_972, k_973, k_509, k_974, rfl, by decide, by decide, by decide +kernel⟩
theorem mf_X10_thrown : MFv yX10_thrown RX10 cX10_thrown 1 (some .int) 0 := ⟨k_976, k_977, k_509, k_978, rfl, by decide, by decide, by decide +kernel⟩
theorem mf_X10_truncate : MFv yX10_truncate RX10 cX10_truncate 2 (some .int) 1 := ⟨k_981, k_982, k_509, k_983, rfl, by decide, by decide, by decide +kernel⟩
theorem mf_X10_load : MFv yX10_load RX10 cX10_load 2 (some .int) 0 := ⟨k_986, k_987, k_509, k_988, rfl, by decide, by decide, by decide +kernel⟩
theorem mf_X9_errorCode : MFv yX9_errorCode RX9 cX9_errorCode 1 (some .int) 0 := ⟨k_990, k_991, k_87, k_992, rfl, by decide, by decide, by decide +kernel⟩
theorem mf_X10_errorCode : MFv yX10_errorCode RX10 cX10_errorCode 1 (some .int) 0 := ⟨k_994, k_995, k_509, k_996, rfl, by decide, by decide, by decide +kernel⟩
theorem mf_X9_errorPosition : MFv yX9_errorPosition RX9 cX9_errorPosition 1 (some .int) 0 := ⟨k_998, k_999, k_87, k_1000, rfl, by decide, by decide, by decide +kernel⟩
theorem mf_X10_errorPosition : MFv yX10_errorPosition RX10 cX10_errorPosition 1 (some .int) 0 := ⟨k_1002, k_1003, k_509, k_1004, rfl, by decide, by decide, by decide +kernel⟩
theorem mf_X10_count : MFv yX10_count RX10 cX10_count 4 (some .int) 1 := ⟨k_1007, k_1008, k_509, k_1009, rfl, by decide, by decide, by decide +kernel⟩
theorem mf_X10_isConflict : MFv yX10_isConflict RX10 cX10_isConflict 3 (some .boolean) 2 := ⟨k_1012, k_1013, k_509, k_1014, rfl, by decide, by decide, by decide +kernel⟩
theorem mf_X10_match : MFv yX10_match RX10 cX10_match 3 (some .int) 2 := ⟨k_1017, k_1018, k_509, k_1019, rfl, by decide, by decide, by decide +kernel⟩
theorem mf_X10_declare : MFv yX10_declare RX10 cX10_declare 4 (some .boolean) 2 := ⟨k_1022, k_1023, k_509, k_1024, rfl, by decide, by decide, by decide +kernel⟩
theorem mf_X10_assign : MFv yX10_assign RX10 cX10_assign 3 (some .int) 2 := ⟨k_1027, k_1028, k_509, k_1029, rfl, by decide, by decide, by decide +kernel⟩
theorem mf_X10_unassign : MFv yX10_unassign RX10 cX10_unassign 4 (some .int) 2 := ⟨k_1032, k_1033, k_509, k_1034, rfl, by decide, by decide, by decide +kernel⟩
theorem mf_X10_assignAll : MFv yX10_assignAll RX10 cX10_assignAll 6 (some .int) 1 := ⟨k_1037, k_1038, k_509, k_1039, rfl, by decide, by decide, by decide +kernel⟩
theorem mf_X10_reviewerOf : MFv yX10_reviewerOf RX10 cX10_reviewerOf 5 (some .int) 2 := ⟨k_1042, k_1043, k_509, k_1044, rfl, by decide, by decide, by decide +kernel⟩
theorem mf_X10_loadOf : MFv yX10_loadOf RX10 cX10_loadOf 2 (some .int) 1 := ⟨k_1047, k_1048, k_509, k_1049, rfl, by decide, by decide, by decide +kernel⟩
theorem mf_X10_matchSum : MFv yX10_matchSum RX10 cX10_matchSum 5 (some .int) 1 := ⟨k_1052, k_1053, k_509, k_1054, rfl, by decide, by decide, by decide +kernel⟩
theorem mf_X10_mostReviews : MFv yX10_mostReviews RX10 cX10_mostReviews 2 (some .int) 1 := ⟨k_1057, k_1058, k_509, k_1059, rfl, by decide, by decide, by decide +kernel⟩
theorem mf_X10_bestMatchSum : MFv yX10_bestMatchSum RX10 cX10_bestMatchSum 2 (some .int) 1 := ⟨k_1062, k_1063, k_509, k_1064, rfl, by decide, by decide, by decide +kernel⟩
theorem mf_X10_setScore : MFv yX10_setScore RX10 cX10_setScore 5 (some .int) 3 := ⟨k_1067, k_1068, k_509, k_1069, rfl, by decide, by decide, by decide +kernel⟩
theorem mf_X10_adjusted : MFv yX10_adjusted RX10 cX10_adjusted 3 (some .int) 2 := ⟨k_1072, k_1073, k_509, k_1074, rfl, by decide, by decide, by decide +kernel⟩
theorem mf_X10_normalized : MFv yX10_normalized RX10 cX10_normalized 2 (some .int) 1 := ⟨k_1077, k_1078, k_509, k_1079, rfl, by decide, by decide, by decide +kernel⟩
theorem mf_X10_leniency : MFv yX10_leniency RX10 cX10_leniency 8 (some .double) 1 := ⟨k_1082, k_1083, k_509, k_1084, rfl, by decide, by decide, by decide +kernel⟩
theorem mf_X10_disagreement : MFv yX10_disagreement RX10 cX10_disagreement 7 (some .double) 1 := ⟨k_1087, k_1088, k_509, k_1089, rfl, by decide, by decide, by decide +kernel⟩
theorem mf_X10_rank : MFv yX10_rank RX10 cX10_rank 2 (some .int) 1 := ⟨k_1092, k_1093, k_509, k_1094, rfl, by decide, by decide, by decide +kernel⟩
theorem mf_X10_ranked : MFv yX10_ranked RX10 cX10_ranked 4 (some .int) 2 := ⟨k_1097, k_1098, k_509, k_1099, rfl, by decide, by decide, by decide +kernel⟩
theorem mf_X10_tieRound : MFv yX10_tieRound RX10 cX10_tieRound 3 (some .int) 2 := ⟨k_1102, k_1103, k_509, k_1104, rfl, by decide, by decide, by decide +kernel⟩
theorem mf_X10_setLine : MFv yX10_setLine RX10 cX10_setLine 3 (some .int) 1 := ⟨k_1107, k_1108, k_509, k_1109, rfl, by decide, by decide, by decide +kernel⟩
theorem mf_X10_amount : MFv yX10_amount RX10 cX10_amount 3 (some .int) 2 := ⟨k_1112, k_1113, k_509, k_1114, rfl, by decide, by decide, by decide +kernel⟩
theorem mf_X10_left : MFv yX10_left RX10 cX10_left 3 (some .int) 2 := ⟨k_1117, k_1118, k_509, k_1119, rfl, by decide, by decide, by decide +kernel⟩
theorem mf_X10_poolLeft : MFv yX10_poolLeft RX10 cX10_poolLeft 2 (some .int) 1 := ⟨k_1122, k_1123, k_509, k_1124, rfl, by decide, by decide, by decide +kernel⟩
theorem mf_X10_funded : MFv yX10_funded RX10 cX10_funded 2 (some .int) 1 := ⟨k_1127, k_1128, k_509, k_1129, rfl, by decide, by decide, by decide +kernel⟩
theorem mf_X10_bestSum : MFv yX10_bestSum RX10 cX10_bestSum 8 (some .int) 1 := ⟨k_1132, k_1133, k_509, k_1134, rfl, by decide, by decide, by decide +kernel⟩
theorem mf_X10_lineFor : MFv yX10_lineFor RX10 cX10_lineFor 6 (some .int) 2 := ⟨k_1137, k_1138, k_509, k_1139, rfl, by decide, by decide, by decide +kernel⟩
theorem mf_X10_appeal : MFv yX10_appeal RX10 cX10_appeal 6 (some .boolean) 2 := ⟨k_1142, k_1143, k_509, k_1144, rfl, by decide, by decide, by decide +kernel⟩
theorem mf_X10_undo : MFv yX10_undo RX10 cX10_undo 2 (some .int) 0 := ⟨k_1147, k_1148, k_509, k_1149, rfl, by decide, by decide, by decide +kernel⟩
def f_L_append (N : Nat) (v1 : Int32) (v2 : Int32) (v3 : Int32) (v4 : Int32) (v5 : Int32) (m : Mem) : Option (Int32 × Mem) :=
  xh (f_X9_append N v1 v2 v3 v4 v5 m) (fun r_1 m_1 => wr (sJ m_1 108 0 r_1.toInt64) (fun m_2 => some ((0 : Int32), m_2))) (fun e9 m_1 => if e9 = 0 then some ((1 : Int32), m_1) else none)
def f_L_truncate (N : Nat) (v1 : Int32) (m : Mem) : Option (Int32 × Mem) :=
  xh (f_X9_truncate N v1 m) (fun r_1 m_1 => wr (sJ m_1 108 0 r_1.toInt64) (fun m_2 => some ((0 : Int32), m_2))) (fun e9 m_1 => if e9 = 2 then some ((1 : Int32), m_1) else none)
def f_L_load (N : Nat)  (m : Mem) : Option (Int32 × Mem) :=
  xh (f_X9_load N  m) (fun r_1 m_1 => wr (sJ m_1 108 0 r_1.toInt64) (fun m_2 => some ((0 : Int32), m_2))) (fun e9 m_1 => if e9 = 1 then some ((1 : Int32), m_1) else none)
def f_L_count (N : Nat) (v1 : Int32) (m : Mem) : Option (Int32 × Mem) :=
  xh (f_X9_count N v1 m) (fun r_1 m_1 => wr (sJ m_1 108 0 r_1.toInt64) (fun m_2 => some ((0 : Int32), m_2))) (fun e9 m_1 => if e9 = 1 then some ((1 : Int32), m_1) else none)
def B_L_isConflict_16 (N : Nat) (s0 : Int64) (s1 : Int32) (m : Mem) : Option (Int32 × Mem) :=
  gd (inb s1 1) (wr (sJ m 108 s1.toNatClampNeg s0) (fun m_3 => some ((0 : Int32), m_3)))
def f_L_isConflict (N : Nat) (v1 : Int32) (v2 : Int32) (m : Mem) : Option (Int32 × Mem) :=
  xh (f_X9_isConflict N v1 v2 m) (fun r_1 m_1 => (if r_1 = 0 then B_L_isConflict_16 N (0 : Int64) (0 : Int32) m_1 else B_L_isConflict_16 N (1 : Int64) (0 : Int32) m_1)) (fun e9 m_1 => if e9 = 2 then some ((1 : Int32), m_1) else none)
def f_L_match (N : Nat) (v1 : Int32) (v2 : Int32) (m : Mem) : Option (Int32 × Mem) :=
  xh (f_X9_match N v1 v2 m) (fun r_1 m_1 => wr (sJ m_1 108 0 r_1.toInt64) (fun m_2 => some ((0 : Int32), m_2))) (fun e9 m_1 => if e9 = 2 then some ((1 : Int32), m_1) else none)
def B_L_declare_16 (N : Nat) (s0 : Int64) (s1 : Int32) (m : Mem) : Option (Int32 × Mem) :=
  gd (inb s1 1) (wr (sJ m 108 s1.toNatClampNeg s0) (fun m_3 => some ((0 : Int32), m_3)))
def f_L_declare (N : Nat) (v1 : Int32) (v2 : Int32) (m : Mem) : Option (Int32 × Mem) :=
  xh (f_X9_declare N v1 v2 m) (fun r_1 m_1 => (if r_1 = 0 then B_L_declare_16 N (0 : Int64) (0 : Int32) m_1 else B_L_declare_16 N (1 : Int64) (0 : Int32) m_1)) (fun e9 m_1 => if e9 = 2 then some ((1 : Int32), m_1) else if e9 = 0 then some ((2 : Int32), m_1) else none)
def f_L_assign (N : Nat) (v1 : Int32) (v2 : Int32) (m : Mem) : Option (Int32 × Mem) :=
  xh (f_X9_assign N v1 v2 m) (fun r_1 m_1 => wr (sJ m_1 108 0 r_1.toInt64) (fun m_2 => some ((0 : Int32), m_2))) (fun e9 m_1 => if e9 = 2 then some ((1 : Int32), m_1) else if e9 = 1 then some ((2 : Int32), m_1) else if e9 = 0 then some ((3 : Int32), m_1) else none)
def f_L_unassign (N : Nat) (v1 : Int32) (v2 : Int32) (m : Mem) : Option (Int32 × Mem) :=
  xh (f_X9_unassign N v1 v2 m) (fun r_1 m_1 => wr (sJ m_1 108 0 r_1.toInt64) (fun m_2 => some ((0 : Int32), m_2))) (fun e9 m_1 => if e9 = 2 then some ((1 : Int32), m_1) else if e9 = 3 then some ((2 : Int32), m_1) else none)
def f_L_assignAll (N : Nat) (v1 : Int32) (m : Mem) : Option (Int32 × Mem) :=
  xh (f_X9_assignAll N v1 m) (fun r_1 m_1 => wr (sJ m_1 108 0 r_1.toInt64) (fun m_2 => some ((0 : Int32), m_2))) (fun e9 m_1 => if e9 = 2 then some ((1 : Int32), m_1) else none)
def f_L_reviewerOf (N : Nat) (v1 : Int32) (v2 : Int32) (m : Mem) : Option (Int32 × Mem) :=
  xh (f_X9_reviewerOf N v1 v2 m) (fun r_1 m_1 => wr (sJ m_1 108 0 r_1.toInt64) (fun m_2 => some ((0 : Int32), m_2))) (fun e9 m_1 => if e9 = 2 then some ((1 : Int32), m_1) else none)
def f_L_loadOf (N : Nat) (v1 : Int32) (m : Mem) : Option (Int32 × Mem) :=
  xh (f_X9_loadOf N v1 m) (fun r_1 m_1 => wr (sJ m_1 108 0 r_1.toInt64) (fun m_2 => some ((0 : Int32), m_2))) (fun e9 m_1 => if e9 = 2 then some ((1 : Int32), m_1) else none)
def f_L_matchSum (N : Nat) (v1 : Int32) (m : Mem) : Option (Int32 × Mem) :=
  xh (f_X9_matchSum N v1 m) (fun r_1 m_1 => wr (sJ m_1 108 0 r_1.toInt64) (fun m_2 => some ((0 : Int32), m_2))) (fun e9 m_1 => if e9 = 2 then some ((1 : Int32), m_1) else none)
def f_L_mostReviews (N : Nat) (v1 : Int32) (m : Mem) : Option (Int32 × Mem) :=
  xh (f_X9_mostReviews N v1 m) (fun r_1 m_1 => wr (sJ m_1 108 0 r_1.toInt64) (fun m_2 => some ((0 : Int32), m_2))) (fun e9 m_1 => if e9 = 2 then some ((1 : Int32), m_1) else none)
def f_L_bestMatchSum (N : Nat) (v1 : Int32) (m : Mem) : Option (Int32 × Mem) :=
  xh (f_X9_bestMatchSum N v1 m) (fun r_1 m_1 => wr (sJ m_1 108 0 r_1.toInt64) (fun m_2 => some ((0 : Int32), m_2))) (fun e9 m_1 => if e9 = 2 then some ((1 : Int32), m_1) else none)
def f_L_setScore (N : Nat) (v1 : Int32) (v2 : Int32) (v3 : Int32) (m : Mem) : Option (Int32 × Mem) :=
  xh (f_X9_setScore N v1 v2 v3 m) (fun r_1 m_1 => wr (sJ m_1 108 0 r_1.toInt64) (fun m_2 => some ((0 : Int32), m_2))) (fun e9 m_1 => if e9 = 2 then some ((1 : Int32), m_1) else if e9 = 1 then some ((2 : Int32), m_1) else if e9 = 3 then some ((3 : Int32), m_1) else none)
def f_L_adjusted (N : Nat) (v1 : Int32) (v2 : Int32) (m : Mem) : Option (Int32 × Mem) :=
  xh (f_X9_adjusted N v1 v2 m) (fun r_1 m_1 => wr (sJ m_1 108 0 r_1.toInt64) (fun m_2 => some ((0 : Int32), m_2))) (fun e9 m_1 => if e9 = 2 then some ((1 : Int32), m_1) else if e9 = 3 then some ((2 : Int32), m_1) else none)
def f_L_normalized (N : Nat) (v1 : Int32) (m : Mem) : Option (Int32 × Mem) :=
  xh (f_X9_normalized N v1 m) (fun r_1 m_1 => wr (sJ m_1 108 0 r_1.toInt64) (fun m_2 => some ((0 : Int32), m_2))) (fun e9 m_1 => if e9 = 2 then some ((1 : Int32), m_1) else if e9 = 3 then some ((2 : Int32), m_1) else none)
def f_L_leniency (N : Nat) (v1 : Int32) (m : Mem) : Option (Int32 × Mem) :=
  xh (f_X9_leniency N v1 m) (fun r_1 m_1 => wr (sD m_1 109 0 r_1) (fun m_2 => some ((0 : Int32), m_2))) (fun e9 m_1 => if e9 = 2 then some ((1 : Int32), m_1) else if e9 = 3 then some ((2 : Int32), m_1) else none)
def f_L_disagreement (N : Nat) (v1 : Int32) (m : Mem) : Option (Int32 × Mem) :=
  xh (f_X9_disagreement N v1 m) (fun r_1 m_1 => wr (sD m_1 109 0 r_1) (fun m_2 => some ((0 : Int32), m_2))) (fun e9 m_1 => if e9 = 2 then some ((1 : Int32), m_1) else if e9 = 3 then some ((2 : Int32), m_1) else none)
def f_L_rank (N : Nat) (v1 : Int32) (m : Mem) : Option (Int32 × Mem) :=
  xh (f_X9_rank N v1 m) (fun r_1 m_1 => wr (sJ m_1 108 0 r_1.toInt64) (fun m_2 => some ((0 : Int32), m_2))) (fun e9 m_1 => if e9 = 2 then some ((1 : Int32), m_1) else if e9 = 3 then some ((2 : Int32), m_1) else none)
def f_L_ranked (N : Nat) (v1 : Int32) (v2 : Int32) (m : Mem) : Option (Int32 × Mem) :=
  xh (f_X9_ranked N v1 v2 m) (fun r_1 m_1 => wr (sJ m_1 108 0 r_1.toInt64) (fun m_2 => some ((0 : Int32), m_2))) (fun e9 m_1 => if e9 = 2 then some ((1 : Int32), m_1) else none)
def f_L_tieRound (N : Nat) (v1 : Int32) (v2 : Int32) (m : Mem) : Option (Int32 × Mem) :=
  xh (f_X9_tieRound N v1 v2 m) (fun r_1 m_1 => wr (sJ m_1 108 0 r_1.toInt64) (fun m_2 => some ((0 : Int32), m_2))) (fun e9 m_1 => if e9 = 2 then some ((1 : Int32), m_1) else if e9 = 1 then some ((2 : Int32), m_1) else if e9 = 3 then some ((3 : Int32), m_1) else none)
def f_L_setLine (N : Nat) (v1 : Int32) (m : Mem) : Option (Int32 × Mem) :=
  xh (f_X9_setLine N v1 m) (fun r_1 m_1 => wr (sJ m_1 108 0 r_1.toInt64) (fun m_2 => some ((0 : Int32), m_2))) (fun e9 m_1 => if e9 = 1 then some ((1 : Int32), m_1) else none)
def f_L_amount (N : Nat) (v1 : Int32) (v2 : Int32) (m : Mem) : Option (Int32 × Mem) :=
  xh (f_X9_amount N v1 v2 m) (fun r_1 m_1 => wr (sJ m_1 108 0 r_1.toInt64) (fun m_2 => some ((0 : Int32), m_2))) (fun e9 m_1 => if e9 = 1 then some ((1 : Int32), m_1) else if e9 = 2 then some ((2 : Int32), m_1) else none)
def f_L_left (N : Nat) (v1 : Int32) (v2 : Int32) (m : Mem) : Option (Int32 × Mem) :=
  xh (f_X9_left N v1 v2 m) (fun r_1 m_1 => wr (sJ m_1 108 0 r_1.toInt64) (fun m_2 => some ((0 : Int32), m_2))) (fun e9 m_1 => if e9 = 1 then some ((1 : Int32), m_1) else if e9 = 2 then some ((2 : Int32), m_1) else none)
def f_L_poolLeft (N : Nat) (v1 : Int32) (m : Mem) : Option (Int32 × Mem) :=
  xh (f_X9_poolLeft N v1 m) (fun r_1 m_1 => wr (sJ m_1 108 0 r_1.toInt64) (fun m_2 => some ((0 : Int32), m_2))) (fun e9 m_1 => if e9 = 1 then some ((1 : Int32), m_1) else none)
def f_L_funded (N : Nat) (v1 : Int32) (m : Mem) : Option (Int32 × Mem) :=
  xh (f_X9_funded N v1 m) (fun r_1 m_1 => wr (sJ m_1 108 0 r_1.toInt64) (fun m_2 => some ((0 : Int32), m_2))) (fun e9 m_1 => if e9 = 1 then some ((1 : Int32), m_1) else none)
def f_L_bestSum (N : Nat) (v1 : Int32) (m : Mem) : Option (Int32 × Mem) :=
  xh (f_X9_bestSum N v1 m) (fun r_1 m_1 => wr (sJ m_1 108 0 r_1.toInt64) (fun m_2 => some ((0 : Int32), m_2))) (fun e9 m_1 => if e9 = 2 then some ((1 : Int32), m_1) else none)
def f_L_lineFor (N : Nat) (v1 : Int32) (v2 : Int32) (m : Mem) : Option (Int32 × Mem) :=
  xh (f_X9_lineFor N v1 v2 m) (fun r_1 m_1 => wr (sJ m_1 108 0 r_1.toInt64) (fun m_2 => some ((0 : Int32), m_2))) (fun e9 m_1 => if e9 = 1 then some ((1 : Int32), m_1) else none)
def B_L_appeal_16 (N : Nat) (s0 : Int64) (s1 : Int32) (m : Mem) : Option (Int32 × Mem) :=
  gd (inb s1 1) (wr (sJ m 108 s1.toNatClampNeg s0) (fun m_3 => some ((0 : Int32), m_3)))
def f_L_appeal (N : Nat) (v1 : Int32) (v2 : Int32) (m : Mem) : Option (Int32 × Mem) :=
  xh (f_X9_appeal N v1 v2 m) (fun r_1 m_1 => (if r_1 = 0 then B_L_appeal_16 N (0 : Int64) (0 : Int32) m_1 else B_L_appeal_16 N (1 : Int64) (0 : Int32) m_1)) (fun e9 m_1 => if e9 = 2 then some ((1 : Int32), m_1) else if e9 = 3 then some ((2 : Int32), m_1) else if e9 = 0 then some ((3 : Int32), m_1) else none)
def f_L_undo (N : Nat)  (m : Mem) : Option (Int32 × Mem) :=
  xh (f_X9_undo N  m) (fun r_1 m_1 => wr (sJ m_1 108 0 r_1.toInt64) (fun m_2 => some ((0 : Int32), m_2))) (fun e9 m_1 => if e9 = 0 then some ((1 : Int32), m_1) else none)
set_option maxRecDepth 100000 in
set_option maxHeartbeats 4000000 in
theorem t_L_append (N : Nat) (Γ : Gc) (C : Cx Γ cL_append 8 RL (rmK 7 115 1)) (hT : (gc Γ).exceptionTable.toList = tableOf [(0, 16, 19, 13)]) (v1 : Int32) (v2 : Int32) (v3 : Int32) (v4 : Int32) (v5 : Int32) (m : Mem) (b : Int32 × Mem) (h : f_L_append N v1 v2 v3 v4 v5 m = some b) (hE : EWn Γ 8 cL_append 1 b) : G Γ 8 0 m 0 [(0, .ref (oa (gw Γ) 0)), (1, .int v1), (2, .int v2), (3, .int v3), (4, .int v4), (5, .int v5), (6, .ref (oa (gw Γ) 108))] [] := by
  unfold f_L_append at h
  refine g_aload C dL_append_0 6 rfl ?_
  refine g_iconst (v := (0 : Int32)) C dL_append_2 (by decide) ?_
  refine g_aload_n C dL_append_3 0 rfl rfl ?_
  refine g_iload_n C dL_append_4 1 rfl rfl ?_
  refine g_iload_n C dL_append_5 2 rfl rfl ?_
  refine g_iload_n C dL_append_6 3 rfl rfl ?_
  refine g_iload C dL_append_7 4 rfl ?_
  refine g_iload C dL_append_9 5 rfl ?_
  rcases xh_some h with ⟨r_1, m_1, hk_1, h⟩ | ⟨e_1, m_1, hk_1, h⟩
  · refine g_xvI_ok (mc' := 1) (As := [.int v1, .int v2, .int v3, .int v4, .int v5]) (a := 0) (ci := 9) C dL_append_11 mf_X9_append k_773 rfl (by decide) ⟨by decide, by decide⟩ rfl rfl (Nat.le_of_ble_eq_true rfl) (by decide) rfl (c_X9_append N (gl Γ) C.2.2.2.2 (gw Γ) v1 v2 v3 v4 v5 m _ hk_1) ?_
    refine g_i2l C dL_append_14 ?_
    obtain ⟨m_2, e_2, h⟩ := wr_some h
    refine g_last' (j := 0) C dL_append_15 (okA_of rfl rfl (by decide)) (by decide) (G_m e_2 ?_)
    refine g_goto (tgt := 23) C dL_append_16 (by decide) ?_
    refine g_iconst (v := (0 : Int32)) C dL_append_23 (by decide) ?_
    obtain rfl := Option.some.inj h
    exact hE 24 _ dL_append_24
  · replace h : (if e_1 = 0 then some ((1 : Int32), m_1) else none) = some b := h
    by_cases c9_0 : e_1 = 0
    · replace h := it_t c9_0 h
      subst c9_0
      refine g_xvI_h (mc' := 1) (As := [.int v1, .int v2, .int v3, .int v4, .int v5]) (a := 0) (ci := 9) C dL_append_11 mf_X9_append k_773 rfl (by decide) ⟨by decide, by decide⟩ rfl rfl (Nat.le_of_ble_eq_true rfl) (by decide) rfl (c_X9_append N (gl Γ) C.2.2.2.2 (gw Γ) v1 v2 v3 v4 v5 m _ hk_1) (gx_catch (hp := []) C hT rfl (fun z hz => nomatch hz) rfl (by decide) k_777 (List.mem_of_getElem? (i := 0) rfl) (fun q9 => ?_))
      refine g_astore (lv' := [(7, .ref q9), (0, .ref (oa (gw Γ) 0)), (1, .int v1), (2, .int v2), (3, .int v3), (4, .int v4), (5, .int v5), (6, .ref (oa (gw Γ) 108))]) C dL_append_19 (by decide) rfl ?_
      refine g_iconst (v := (1 : Int32)) C dL_append_21 (by decide) ?_
      obtain rfl := Option.some.inj h
      exact hE 22 _ dL_append_22
    · replace h := it_f c9_0 h
      cases h
theorem c_L_append (N : Nat) (l : Launch) (hst : l.stackTraces = false) (w : Om) (v1 : Int32) (v2 : Int32) (v3 : Int32) (v4 : Int32) (v5 : Int32) (m : Mem) (o : Int32 × Mem) (h : f_L_append N v1 v2 v3 v4 v5 m = some o) : KW l yL_append cL_append 8 [(0, 16, 19, 13)] 7 115 1 w [.ref (oa w 0), .int v1, .int v2, .int v3, .int v4, .int v5, .ref (oa w 108)] m o.1 o.2 := KW_of hst (by decide +kernel) RL rfl (Nat.le_of_ble_eq_true rfl) (fun Γ hw hl C hT hE => by
  subst hw; subst hl
  exact t_L_append N Γ C hT v1 v2 v3 v4 v5 m o h hE)
set_option maxRecDepth 100000 in
set_option maxHeartbeats 4000000 in
theorem t_L_truncate (N : Nat) (Γ : Gc) (C : Cx Γ cL_truncate 4 RL (rmK 7 111 1)) (hT : (gc Γ).exceptionTable.toList = tableOf [(0, 9, 12, 19)]) (v1 : Int32) (m : Mem) (b : Int32 × Mem) (h : f_L_truncate N v1 m = some b) (hE : EWn Γ 4 cL_truncate 1 b) : G Γ 4 0 m 0 [(0, .ref (oa (gw Γ) 0)), (1, .int v1), (2, .ref (oa (gw Γ) 108))] [] := by
  unfold f_L_truncate at h
  refine g_aload_n C dL_truncate_0 2 rfl rfl ?_
  refine g_iconst (v := (0 : Int32)) C dL_truncate_1 (by decide) ?_
  refine g_aload_n C dL_truncate_2 0 rfl rfl ?_
  refine g_iload_n C dL_truncate_3 1 rfl rfl ?_
  rcases xh_some h with ⟨r_1, m_1, hk_1, h⟩ | ⟨e_1, m_1, hk_1, h⟩
  · refine g_xvI_ok (mc' := 1) (As := [.int v1]) (a := 0) (ci := 9) C dL_truncate_4 mf_X9_truncate k_781 rfl (by decide) ⟨by decide, by decide⟩ rfl rfl (Nat.le_of_ble_eq_true rfl) (by decide) rfl (c_X9_truncate N (gl Γ) C.2.2.2.2 (gw Γ) v1 m _ hk_1) ?_
    refine g_i2l C dL_truncate_7 ?_
    obtain ⟨m_2, e_2, h⟩ := wr_some h
    refine g_last' (j := 0) C dL_truncate_8 (okA_of rfl rfl (by decide)) (by decide) (G_m e_2 ?_)
    refine g_goto (tgt := 15) C dL_truncate_9 (by decide) ?_
    refine g_iconst (v := (0 : Int32)) C dL_truncate_15 (by decide) ?_
    obtain rfl := Option.some.inj h
    exact hE 16 _ dL_truncate_16
  · replace h : (if e_1 = 2 then some ((1 : Int32), m_1) else none) = some b := h
    by_cases c9_2 : e_1 = 2
    · replace h := it_t c9_2 h
      subst c9_2
      refine g_xvI_h (mc' := 1) (As := [.int v1]) (a := 0) (ci := 9) C dL_truncate_4 mf_X9_truncate k_781 rfl (by decide) ⟨by decide, by decide⟩ rfl rfl (Nat.le_of_ble_eq_true rfl) (by decide) rfl (c_X9_truncate N (gl Γ) C.2.2.2.2 (gw Γ) v1 m _ hk_1) (gx_catch (hp := []) C hT rfl (fun z hz => nomatch hz) rfl (by decide) k_785 (List.mem_of_getElem? (i := 2) rfl) (fun q9 => ?_))
      refine g_astore_n (lv' := [(3, .ref q9), (0, .ref (oa (gw Γ) 0)), (1, .int v1), (2, .ref (oa (gw Γ) 108))]) C dL_truncate_12 rfl (by decide) rfl ?_
      refine g_iconst (v := (1 : Int32)) C dL_truncate_13 (by decide) ?_
      obtain rfl := Option.some.inj h
      exact hE 14 _ dL_truncate_14
    · replace h := it_f c9_2 h
      cases h
theorem c_L_truncate (N : Nat) (l : Launch) (hst : l.stackTraces = false) (w : Om) (v1 : Int32) (m : Mem) (o : Int32 × Mem) (h : f_L_truncate N v1 m = some o) : KW l yL_truncate cL_truncate 4 [(0, 9, 12, 19)] 7 111 1 w [.ref (oa w 0), .int v1, .ref (oa w 108)] m o.1 o.2 := KW_of hst (by decide +kernel) RL rfl (Nat.le_of_ble_eq_true rfl) (fun Γ hw hl C hT hE => by
  subst hw; subst hl
  exact t_L_truncate N Γ C hT v1 m o h hE)
set_option maxRecDepth 100000 in
set_option maxHeartbeats 4000000 in
theorem t_L_load (N : Nat) (Γ : Gc) (C : Cx Γ cL_load 3 RL (rmK 11 292 1)) (hT : (gc Γ).exceptionTable.toList = tableOf [(0, 8, 11, 25)])  (m : Mem) (b : Int32 × Mem) (h : f_L_load N  m = some b) (hE : EWn Γ 3 cL_load 1 b) : G Γ 3 0 m 0 [(0, .ref (oa (gw Γ) 0)), (1, .ref (oa (gw Γ) 108))] [] := by
  unfold f_L_load at h
  refine g_aload_n C dL_load_0 1 rfl rfl ?_
  refine g_iconst (v := (0 : Int32)) C dL_load_1 (by decide) ?_
  refine g_aload_n C dL_load_2 0 rfl rfl ?_
  rcases xh_some h with ⟨r_1, m_1, hk_1, h⟩ | ⟨e_1, m_1, hk_1, h⟩
  · refine g_xvI_ok (mc' := 1) (As := []) (a := 0) (ci := 9) C dL_load_3 mf_X9_load k_788 rfl (by decide) ⟨by decide, by decide⟩ rfl rfl (Nat.le_of_ble_eq_true rfl) (by decide) rfl (c_X9_load N (gl Γ) C.2.2.2.2 (gw Γ)  m _ hk_1) ?_
    refine g_i2l C dL_load_6 ?_
    obtain ⟨m_2, e_2, h⟩ := wr_some h
    refine g_last' (j := 0) C dL_load_7 (okA_of rfl rfl (by decide)) (by decide) (G_m e_2 ?_)
    refine g_goto (tgt := 14) C dL_load_8 (by decide) ?_
    refine g_iconst (v := (0 : Int32)) C dL_load_14 (by decide) ?_
    obtain rfl := Option.some.inj h
    exact hE 15 _ dL_load_15
  · replace h : (if e_1 = 1 then some ((1 : Int32), m_1) else none) = some b := h
    by_cases c9_1 : e_1 = 1
    · replace h := it_t c9_1 h
      subst c9_1
      refine g_xvI_h (mc' := 1) (As := []) (a := 0) (ci := 9) C dL_load_3 mf_X9_load k_788 rfl (by decide) ⟨by decide, by decide⟩ rfl rfl (Nat.le_of_ble_eq_true rfl) (by decide) rfl (c_X9_load N (gl Γ) C.2.2.2.2 (gw Γ)  m _ hk_1) (gx_catch (hp := []) C hT rfl (fun z hz => nomatch hz) rfl (by decide) k_792 (List.mem_of_getElem? (i := 1) rfl) (fun q9 => ?_))
      refine g_astore_n (lv' := [(2, .ref q9), (0, .ref (oa (gw Γ) 0)), (1, .ref (oa (gw Γ) 108))]) C dL_load_11 rfl (by decide) rfl ?_
      refine g_iconst (v := (1 : Int32)) C dL_load_12 (by decide) ?_
      obtain rfl := Option.some.inj h
      exact hE 13 _ dL_load_13
    · replace h := it_f c9_1 h
      cases h
theorem c_L_load (N : Nat) (l : Launch) (hst : l.stackTraces = false) (w : Om)  (m : Mem) (o : Int32 × Mem) (h : f_L_load N  m = some o) : KW l yL_load cL_load 3 [(0, 8, 11, 25)] 11 292 1 w [.ref (oa w 0), .ref (oa w 108)] m o.1 o.2 := KW_of hst (by decide +kernel) RL rfl (Nat.le_of_ble_eq_true rfl) (fun Γ hw hl C hT hE => by
  subst hw; subst hl
  exact t_L_load N Γ C hT  m o h hE)
set_option maxRecDepth 100000 in
set_option maxHeartbeats 4000000 in
theorem t_L_count (N : Nat) (Γ : Gc) (C : Cx Γ cL_count 4 RL (rmK 7 111 1)) (hT : (gc Γ).exceptionTable.toList = tableOf [(0, 9, 12, 25)]) (v1 : Int32) (m : Mem) (b : Int32 × Mem) (h : f_L_count N v1 m = some b) (hE : EWn Γ 4 cL_count 1 b) : G Γ 4 0 m 0 [(0, .ref (oa (gw Γ) 0)), (1, .int v1), (2, .ref (oa (gw Γ) 108))] [] := by
  unfold f_L_count at h
  refine g_aload_n C dL_count_0 2 rfl rfl ?_
  refine g_iconst (v := (0 : Int32)) C dL_count_1 (by decide) ?_
  refine g_aload_n C dL_count_2 0 rfl rfl ?_
  refine g_iload_n C dL_count_3 1 rfl rfl ?_
  rcases xh_some h with ⟨r_1, m_1, hk_1, h⟩ | ⟨e_1, m_1, hk_1, h⟩
  · refine g_xvI_ok (mc' := 1) (As := [.int v1]) (a := 0) (ci := 9) C dL_count_4 mf_X9_count k_795 rfl (by decide) ⟨by decide, by decide⟩ rfl rfl (Nat.le_of_ble_eq_true rfl) (by decide) rfl (c_X9_count N (gl Γ) C.2.2.2.2 (gw Γ) v1 m _ hk_1) ?_
    refine g_i2l C dL_count_7 ?_
    obtain ⟨m_2, e_2, h⟩ := wr_some h
    refine g_last' (j := 0) C dL_count_8 (okA_of rfl rfl (by decide)) (by decide) (G_m e_2 ?_)
    refine g_goto (tgt := 15) C dL_count_9 (by decide) ?_
    refine g_iconst (v := (0 : Int32)) C dL_count_15 (by decide) ?_
    obtain rfl := Option.some.inj h
    exact hE 16 _ dL_count_16
  · replace h : (if e_1 = 1 then some ((1 : Int32), m_1) else none) = some b := h
    by_cases c9_1 : e_1 = 1
    · replace h := it_t c9_1 h
      subst c9_1
      refine g_xvI_h (mc' := 1) (As := [.int v1]) (a := 0) (ci := 9) C dL_count_4 mf_X9_count k_795 rfl (by decide) ⟨by decide, by decide⟩ rfl rfl (Nat.le_of_ble_eq_true rfl) (by decide) rfl (c_X9_count N (gl Γ) C.2.2.2.2 (gw Γ) v1 m _ hk_1) (gx_catch (hp := []) C hT rfl (fun z hz => nomatch hz) rfl (by decide) k_792 (List.mem_of_getElem? (i := 1) rfl) (fun q9 => ?_))
      refine g_astore_n (lv' := [(3, .ref q9), (0, .ref (oa (gw Γ) 0)), (1, .int v1), (2, .ref (oa (gw Γ) 108))]) C dL_count_12 rfl (by decide) rfl ?_
      refine g_iconst (v := (1 : Int32)) C dL_count_13 (by decide) ?_
      obtain rfl := Option.some.inj h
      exact hE 14 _ dL_count_14
    · replace h := it_f c9_1 h
      cases h
theorem c_L_count (N : Nat) (l : Launch) (hst : l.stackTraces = false) (w : Om) (v1 : Int32) (m : Mem) (o : Int32 × Mem) (h : f_L_count N v1 m = some o) : KW l yL_count cL_count 4 [(0, 9, 12, 25)] 7 111 1 w [.ref (oa w 0), .int v1, .ref (oa w 108)] m o.1 o.2 := KW_of hst (by decide +kernel) RL rfl (Nat.le_of_ble_eq_true rfl) (fun Γ hw hl C hT hE => by
  subst hw; subst hl
  exact t_L_count N Γ C hT v1 m o h hE)
set_option maxRecDepth 100000 in
set_option maxHeartbeats 4000000 in
theorem t_L_isConflict_16 (N : Nat) (Γ : Gc) (C : Cx Γ cL_isConflict 5 RL (rmK 9 155 2)) (hT : (gc Γ).exceptionTable.toList = tableOf [(0, 17, 20, 19)]) (b : Int32 × Mem) (hE : EWn Γ 5 cL_isConflict 2 b) (s0 : Int64) (s1 : Int32) (m : Mem) (h : B_L_isConflict_16 N s0 s1 m = some b) : G Γ 5 2 m 16 [] [.long s0, .int s1, .ref (oa (gw Γ) 108)] := by
  unfold B_L_isConflict_16 at h
  obtain ⟨g_2, h⟩ := gd_some h
  obtain ⟨m_3, e_3, h⟩ := wr_some h
  refine g_last C dL_isConflict_16 (okA_of rfl rfl g_2) (G_m e_3 ?_)
  refine g_goto (tgt := 24) C dL_isConflict_17 (by decide) ?_
  refine g_iconst (v := (0 : Int32)) C dL_isConflict_24 (by decide) ?_
  obtain rfl := Option.some.inj h
  exact hE 25 _ dL_isConflict_25
set_option maxRecDepth 100000 in
set_option maxHeartbeats 4000000 in
theorem t_L_isConflict (N : Nat) (Γ : Gc) (C : Cx Γ cL_isConflict 5 RL (rmK 9 155 2)) (hT : (gc Γ).exceptionTable.toList = tableOf [(0, 17, 20, 19)]) (v1 : Int32) (v2 : Int32) (m : Mem) (b : Int32 × Mem) (h : f_L_isConflict N v1 v2 m = some b) (hE : EWn Γ 5 cL_isConflict 2 b) : G Γ 5 0 m 0 [(0, .ref (oa (gw Γ) 0)), (1, .int v1), (2, .int v2), (3, .ref (oa (gw Γ) 108))] [] := by
  unfold f_L_isConflict at h
  refine g_aload_n C dL_isConflict_0 3 rfl rfl ?_
  refine g_iconst (v := (0 : Int32)) C dL_isConflict_1 (by decide) ?_
  refine g_aload_n C dL_isConflict_2 0 rfl rfl ?_
  refine g_iload_n C dL_isConflict_3 1 rfl rfl ?_
  refine g_iload_n C dL_isConflict_4 2 rfl rfl ?_
  rcases xh_some h with ⟨r_1, m_1, hk_1, h⟩ | ⟨e_1, m_1, hk_1, h⟩
  · refine g_xvI_ok (mc' := 2) (As := [.int v1, .int v2]) (a := 0) (ci := 9) C dL_isConflict_5 mf_X9_isConflict k_801 rfl (by decide) ⟨by decide, by decide⟩ rfl rfl (Nat.le_of_ble_eq_true rfl) (by decide) rfl (c_X9_isConflict N (gl Γ) C.2.2.2.2 (gw Γ) v1 v2 m _ hk_1) ?_
    refine g_if_eq (tgt := 15) C dL_isConflict_8 (by decide) (fun c_4 => ?_) (fun c_4 => ?_)
    · replace h := it_t c_4 h
      refine g_lconst (v := (0 : Int64)) C dL_isConflict_15 (by decide) ?_
      refine g_sub [] rfl ?_
      exact t_L_isConflict_16 N Γ C hT b hE (0 : Int64) (0 : Int32) m_1 h
    · replace h := it_f c_4 h
      refine g_lconst (v := (1 : Int64)) C dL_isConflict_11 (by decide) ?_
      refine g_goto (tgt := 16) C dL_isConflict_12 (by decide) ?_
      refine g_sub [] rfl ?_
      exact t_L_isConflict_16 N Γ C hT b hE (1 : Int64) (0 : Int32) m_1 h
  · replace h : (if e_1 = 2 then some ((1 : Int32), m_1) else none) = some b := h
    by_cases c9_2 : e_1 = 2
    · replace h := it_t c9_2 h
      subst c9_2
      refine g_xvI_h (mc' := 2) (As := [.int v1, .int v2]) (a := 0) (ci := 9) C dL_isConflict_5 mf_X9_isConflict k_801 rfl (by decide) ⟨by decide, by decide⟩ rfl rfl (Nat.le_of_ble_eq_true rfl) (by decide) rfl (c_X9_isConflict N (gl Γ) C.2.2.2.2 (gw Γ) v1 v2 m _ hk_1) (gx_catch (hp := []) C hT rfl (fun z hz => nomatch hz) rfl (by decide) k_785 (List.mem_of_getElem? (i := 2) rfl) (fun q9 => ?_))
      refine g_astore (lv' := [(4, .ref q9), (0, .ref (oa (gw Γ) 0)), (1, .int v1), (2, .int v2), (3, .ref (oa (gw Γ) 108))]) C dL_isConflict_20 (by decide) rfl ?_
      refine g_iconst (v := (1 : Int32)) C dL_isConflict_22 (by decide) ?_
      obtain rfl := Option.some.inj h
      exact hE 23 _ dL_isConflict_23
    · replace h := it_f c9_2 h
      cases h
theorem c_L_isConflict (N : Nat) (l : Launch) (hst : l.stackTraces = false) (w : Om) (v1 : Int32) (v2 : Int32) (m : Mem) (o : Int32 × Mem) (h : f_L_isConflict N v1 v2 m = some o) : KW l yL_isConflict cL_isConflict 5 [(0, 17, 20, 19)] 9 155 2 w [.ref (oa w 0), .int v1, .int v2, .ref (oa w 108)] m o.1 o.2 := KW_of hst (by decide +kernel) RL rfl (Nat.le_of_ble_eq_true rfl) (fun Γ hw hl C hT hE => by
  subst hw; subst hl
  exact t_L_isConflict N Γ C hT v1 v2 m o h hE)
set_option maxRecDepth 100000 in
set_option maxHeartbeats 4000000 in
theorem t_L_match (N : Nat) (Γ : Gc) (C : Cx Γ cL_match 5 RL (rmK 9 155 2)) (hT : (gc Γ).exceptionTable.toList = tableOf [(0, 10, 13, 19)]) (v1 : Int32) (v2 : Int32) (m : Mem) (b : Int32 × Mem) (h : f_L_match N v1 v2 m = some b) (hE : EWn Γ 5 cL_match 2 b) : G Γ 5 0 m 0 [(0, .ref (oa (gw Γ) 0)), (1, .int v1), (2, .int v2), (3, .ref (oa (gw Γ) 108))] [] := by
  unfold f_L_match at h
  refine g_aload_n C dL_match_0 3 rfl rfl ?_
  refine g_iconst (v := (0 : Int32)) C dL_match_1 (by decide) ?_
  refine g_aload_n C dL_match_2 0 rfl rfl ?_
  refine g_iload_n C dL_match_3 1 rfl rfl ?_
  refine g_iload_n C dL_match_4 2 rfl rfl ?_
  rcases xh_some h with ⟨r_1, m_1, hk_1, h⟩ | ⟨e_1, m_1, hk_1, h⟩
  · refine g_xvI_ok (mc' := 2) (As := [.int v1, .int v2]) (a := 0) (ci := 9) C dL_match_5 mf_X9_match k_807 rfl (by decide) ⟨by decide, by decide⟩ rfl rfl (Nat.le_of_ble_eq_true rfl) (by decide) rfl (c_X9_match N (gl Γ) C.2.2.2.2 (gw Γ) v1 v2 m _ hk_1) ?_
    refine g_i2l C dL_match_8 ?_
    obtain ⟨m_2, e_2, h⟩ := wr_some h
    refine g_last' (j := 0) C dL_match_9 (okA_of rfl rfl (by decide)) (by decide) (G_m e_2 ?_)
    refine g_goto (tgt := 17) C dL_match_10 (by decide) ?_
    refine g_iconst (v := (0 : Int32)) C dL_match_17 (by decide) ?_
    obtain rfl := Option.some.inj h
    exact hE 18 _ dL_match_18
  · replace h : (if e_1 = 2 then some ((1 : Int32), m_1) else none) = some b := h
    by_cases c9_2 : e_1 = 2
    · replace h := it_t c9_2 h
      subst c9_2
      refine g_xvI_h (mc' := 2) (As := [.int v1, .int v2]) (a := 0) (ci := 9) C dL_match_5 mf_X9_match k_807 rfl (by decide) ⟨by decide, by decide⟩ rfl rfl (Nat.le_of_ble_eq_true rfl) (by decide) rfl (c_X9_match N (gl Γ) C.2.2.2.2 (gw Γ) v1 v2 m _ hk_1) (gx_catch (hp := []) C hT rfl (fun z hz => nomatch hz) rfl (by decide) k_785 (List.mem_of_getElem? (i := 2) rfl) (fun q9 => ?_))
      refine g_astore (lv' := [(4, .ref q9), (0, .ref (oa (gw Γ) 0)), (1, .int v1), (2, .int v2), (3, .ref (oa (gw Γ) 108))]) C dL_match_13 (by decide) rfl ?_
      refine g_iconst (v := (1 : Int32)) C dL_match_15 (by decide) ?_
      obtain rfl := Option.some.inj h
      exact hE 16 _ dL_match_16
    · replace h := it_f c9_2 h
      cases h
theorem c_L_match (N : Nat) (l : Launch) (hst : l.stackTraces = false) (w : Om) (v1 : Int32) (v2 : Int32) (m : Mem) (o : Int32 × Mem) (h : f_L_match N v1 v2 m = some o) : KW l yL_match cL_match 5 [(0, 10, 13, 19)] 9 155 2 w [.ref (oa w 0), .int v1, .int v2, .ref (oa w 108)] m o.1 o.2 := KW_of hst (by decide +kernel) RL rfl (Nat.le_of_ble_eq_true rfl) (fun Γ hw hl C hT hE => by
  subst hw; subst hl
  exact t_L_match N Γ C hT v1 v2 m o h hE)
set_option maxRecDepth 100000 in
set_option maxHeartbeats 4000000 in
theorem t_L_declare_16 (N : Nat) (Γ : Gc) (C : Cx Γ cL_declare 5 RL (rmK 9 156 3)) (hT : (gc Γ).exceptionTable.toList = tableOf [(0, 17, 20, 19), (0, 17, 24, 13)]) (b : Int32 × Mem) (hE : EWn Γ 5 cL_declare 3 b) (s0 : Int64) (s1 : Int32) (m : Mem) (h : B_L_declare_16 N s0 s1 m = some b) : G Γ 5 3 m 16 [] [.long s0, .int s1, .ref (oa (gw Γ) 108)] := by
  unfold B_L_declare_16 at h
  obtain ⟨g_2, h⟩ := gd_some h
  obtain ⟨m_3, e_3, h⟩ := wr_some h
  refine g_last C dL_declare_16 (okA_of rfl rfl g_2) (G_m e_3 ?_)
  refine g_goto (tgt := 28) C dL_declare_17 (by decide) ?_
  refine g_iconst (v := (0 : Int32)) C dL_declare_28 (by decide) ?_
  obtain rfl := Option.some.inj h
  exact hE 29 _ dL_declare_29
set_option maxRecDepth 100000 in
set_option maxHeartbeats 4000000 in
theorem t_L_declare (N : Nat) (Γ : Gc) (C : Cx Γ cL_declare 5 RL (rmK 9 156 3)) (hT : (gc Γ).exceptionTable.toList = tableOf [(0, 17, 20, 19), (0, 17, 24, 13)]) (v1 : Int32) (v2 : Int32) (m : Mem) (b : Int32 × Mem) (h : f_L_declare N v1 v2 m = some b) (hE : EWn Γ 5 cL_declare 3 b) : G Γ 5 0 m 0 [(0, .ref (oa (gw Γ) 0)), (1, .int v1), (2, .int v2), (3, .ref (oa (gw Γ) 108))] [] := by
  unfold f_L_declare at h
  refine g_aload_n C dL_declare_0 3 rfl rfl ?_
  refine g_iconst (v := (0 : Int32)) C dL_declare_1 (by decide) ?_
  refine g_aload_n C dL_declare_2 0 rfl rfl ?_
  refine g_iload_n C dL_declare_3 1 rfl rfl ?_
  refine g_iload_n C dL_declare_4 2 rfl rfl ?_
  rcases xh_some h with ⟨r_1, m_1, hk_1, h⟩ | ⟨e_1, m_1, hk_1, h⟩
  · refine g_xvI_ok (mc' := 3) (As := [.int v1, .int v2]) (a := 0) (ci := 9) C dL_declare_5 mf_X9_declare k_813 rfl (by decide) ⟨by decide, by decide⟩ rfl rfl (Nat.le_of_ble_eq_true rfl) (by decide) rfl (c_X9_declare N (gl Γ) C.2.2.2.2 (gw Γ) v1 v2 m _ hk_1) ?_
    refine g_if_eq (tgt := 15) C dL_declare_8 (by decide) (fun c_4 => ?_) (fun c_4 => ?_)
    · replace h := it_t c_4 h
      refine g_lconst (v := (0 : Int64)) C dL_declare_15 (by decide) ?_
      refine g_sub [] rfl ?_
      exact t_L_declare_16 N Γ C hT b hE (0 : Int64) (0 : Int32) m_1 h
    · replace h := it_f c_4 h
      refine g_lconst (v := (1 : Int64)) C dL_declare_11 (by decide) ?_
      refine g_goto (tgt := 16) C dL_declare_12 (by decide) ?_
      refine g_sub [] rfl ?_
      exact t_L_declare_16 N Γ C hT b hE (1 : Int64) (0 : Int32) m_1 h
  · replace h : (if e_1 = 2 then some ((1 : Int32), m_1) else if e_1 = 0 then some ((2 : Int32), m_1) else none) = some b := h
    by_cases c9_2 : e_1 = 2
    · replace h := it_t c9_2 h
      subst c9_2
      refine g_xvI_h (mc' := 3) (As := [.int v1, .int v2]) (a := 0) (ci := 9) C dL_declare_5 mf_X9_declare k_813 rfl (by decide) ⟨by decide, by decide⟩ rfl rfl (Nat.le_of_ble_eq_true rfl) (by decide) rfl (c_X9_declare N (gl Γ) C.2.2.2.2 (gw Γ) v1 v2 m _ hk_1) (gx_catch (hp := []) C hT rfl (fun z hz => nomatch hz) rfl (by decide) k_785 (List.mem_of_getElem? (i := 2) rfl) (fun q9 => ?_))
      refine g_astore (lv' := [(4, .ref q9), (0, .ref (oa (gw Γ) 0)), (1, .int v1), (2, .int v2), (3, .ref (oa (gw Γ) 108))]) C dL_declare_20 (by decide) rfl ?_
      refine g_iconst (v := (1 : Int32)) C dL_declare_22 (by decide) ?_
      obtain rfl := Option.some.inj h
      exact hE 23 _ dL_declare_23
    · replace h := it_f c9_2 h
      by_cases c9_0 : e_1 = 0
      · replace h := it_t c9_0 h
        subst c9_0
        refine g_xvI_h (mc' := 3) (As := [.int v1, .int v2]) (a := 0) (ci := 9) C dL_declare_5 mf_X9_declare k_813 rfl (by decide) ⟨by decide, by decide⟩ rfl rfl (Nat.le_of_ble_eq_true rfl) (by decide) rfl (c_X9_declare N (gl Γ) C.2.2.2.2 (gw Γ) v1 v2 m _ hk_1) (gx_catch (hp := [(0, 17, 20, 19)]) C hT rfl (fun z hz => by obtain rfl := List.mem_singleton.mp hz; exact ⟨by decide, _, k_785, List.mem_of_getElem? (i := 0) rfl⟩) rfl (by decide) k_777 (List.mem_of_getElem? (i := 0) rfl) (fun q9 => ?_))
        refine g_astore (lv' := [(4, .ref q9), (0, .ref (oa (gw Γ) 0)), (1, .int v1), (2, .int v2), (3, .ref (oa (gw Γ) 108))]) C dL_declare_24 (by decide) rfl ?_
        refine g_iconst (v := (2 : Int32)) C dL_declare_26 (by decide) ?_
        obtain rfl := Option.some.inj h
        exact hE 27 _ dL_declare_27
      · replace h := it_f c9_0 h
        cases h
theorem c_L_declare (N : Nat) (l : Launch) (hst : l.stackTraces = false) (w : Om) (v1 : Int32) (v2 : Int32) (m : Mem) (o : Int32 × Mem) (h : f_L_declare N v1 v2 m = some o) : KW l yL_declare cL_declare 5 [(0, 17, 20, 19), (0, 17, 24, 13)] 9 156 3 w [.ref (oa w 0), .int v1, .int v2, .ref (oa w 108)] m o.1 o.2 := KW_of hst (by decide +kernel) RL rfl (Nat.le_of_ble_eq_true rfl) (fun Γ hw hl C hT hE => by
  subst hw; subst hl
  exact t_L_declare N Γ C hT v1 v2 m o h hE)
set_option maxRecDepth 100000 in
set_option maxHeartbeats 4000000 in
theorem t_L_assign (N : Nat) (Γ : Gc) (C : Cx Γ cL_assign 5 RL (rmK 9 155 3)) (hT : (gc Γ).exceptionTable.toList = tableOf [(0, 10, 13, 19), (0, 10, 17, 25), (0, 10, 21, 13)]) (v1 : Int32) (v2 : Int32) (m : Mem) (b : Int32 × Mem) (h : f_L_assign N v1 v2 m = some b) (hE : EWn Γ 5 cL_assign 3 b) : G Γ 5 0 m 0 [(0, .ref (oa (gw Γ) 0)), (1, .int v1), (2, .int v2), (3, .ref (oa (gw Γ) 108))] [] := by
  unfold f_L_assign at h
  refine g_aload_n C dL_assign_0 3 rfl rfl ?_
  refine g_iconst (v := (0 : Int32)) C dL_assign_1 (by decide) ?_
  refine g_aload_n C dL_assign_2 0 rfl rfl ?_
  refine g_iload_n C dL_assign_3 1 rfl rfl ?_
  refine g_iload_n C dL_assign_4 2 rfl rfl ?_
  rcases xh_some h with ⟨r_1, m_1, hk_1, h⟩ | ⟨e_1, m_1, hk_1, h⟩
  · refine g_xvI_ok (mc' := 3) (As := [.int v1, .int v2]) (a := 0) (ci := 9) C dL_assign_5 mf_X9_assign k_819 rfl (by decide) ⟨by decide, by decide⟩ rfl rfl (Nat.le_of_ble_eq_true rfl) (by decide) rfl (c_X9_assign N (gl Γ) C.2.2.2.2 (gw Γ) v1 v2 m _ hk_1) ?_
    refine g_i2l C dL_assign_8 ?_
    obtain ⟨m_2, e_2, h⟩ := wr_some h
    refine g_last' (j := 0) C dL_assign_9 (okA_of rfl rfl (by decide)) (by decide) (G_m e_2 ?_)
    refine g_goto (tgt := 25) C dL_assign_10 (by decide) ?_
    refine g_iconst (v := (0 : Int32)) C dL_assign_25 (by decide) ?_
    obtain rfl := Option.some.inj h
    exact hE 26 _ dL_assign_26
  · replace h : (if e_1 = 2 then some ((1 : Int32), m_1) else if e_1 = 1 then some ((2 : Int32), m_1) else if e_1 = 0 then some ((3 : Int32), m_1) else none) = some b := h
    by_cases c9_2 : e_1 = 2
    · replace h := it_t c9_2 h
      subst c9_2
      refine g_xvI_h (mc' := 3) (As := [.int v1, .int v2]) (a := 0) (ci := 9) C dL_assign_5 mf_X9_assign k_819 rfl (by decide) ⟨by decide, by decide⟩ rfl rfl (Nat.le_of_ble_eq_true rfl) (by decide) rfl (c_X9_assign N (gl Γ) C.2.2.2.2 (gw Γ) v1 v2 m _ hk_1) (gx_catch (hp := []) C hT rfl (fun z hz => nomatch hz) rfl (by decide) k_785 (List.mem_of_getElem? (i := 2) rfl) (fun q9 => ?_))
      refine g_astore (lv' := [(4, .ref q9), (0, .ref (oa (gw Γ) 0)), (1, .int v1), (2, .int v2), (3, .ref (oa (gw Γ) 108))]) C dL_assign_13 (by decide) rfl ?_
      refine g_iconst (v := (1 : Int32)) C dL_assign_15 (by decide) ?_
      obtain rfl := Option.some.inj h
      exact hE 16 _ dL_assign_16
    · replace h := it_f c9_2 h
      by_cases c9_1 : e_1 = 1
      · replace h := it_t c9_1 h
        subst c9_1
        refine g_xvI_h (mc' := 3) (As := [.int v1, .int v2]) (a := 0) (ci := 9) C dL_assign_5 mf_X9_assign k_819 rfl (by decide) ⟨by decide, by decide⟩ rfl rfl (Nat.le_of_ble_eq_true rfl) (by decide) rfl (c_X9_assign N (gl Γ) C.2.2.2.2 (gw Γ) v1 v2 m _ hk_1) (gx_catch (hp := [(0, 10, 13, 19)]) C hT rfl (fun z hz => by obtain rfl := List.mem_singleton.mp hz; exact ⟨by decide, _, k_785, List.mem_of_getElem? (i := 1) rfl⟩) rfl (by decide) k_792 (List.mem_of_getElem? (i := 1) rfl) (fun q9 => ?_))
        refine g_astore (lv' := [(4, .ref q9), (0, .ref (oa (gw Γ) 0)), (1, .int v1), (2, .int v2), (3, .ref (oa (gw Γ) 108))]) C dL_assign_17 (by decide) rfl ?_
        refine g_iconst (v := (2 : Int32)) C dL_assign_19 (by decide) ?_
        obtain rfl := Option.some.inj h
        exact hE 20 _ dL_assign_20
      · replace h := it_f c9_1 h
        by_cases c9_0 : e_1 = 0
        · replace h := it_t c9_0 h
          subst c9_0
          refine g_xvI_h (mc' := 3) (As := [.int v1, .int v2]) (a := 0) (ci := 9) C dL_assign_5 mf_X9_assign k_819 rfl (by decide) ⟨by decide, by decide⟩ rfl rfl (Nat.le_of_ble_eq_true rfl) (by decide) rfl (c_X9_assign N (gl Γ) C.2.2.2.2 (gw Γ) v1 v2 m _ hk_1) (gx_catch (hp := [(0, 10, 13, 19), (0, 10, 17, 25)]) C hT rfl (fun z hz => by
          rcases List.mem_cons.mp hz with rfl | hz
          · exact ⟨by decide, _, k_785, List.mem_of_getElem? (i := 0) rfl⟩
          · obtain rfl := List.mem_singleton.mp hz; exact ⟨by decide, _, k_792, List.mem_of_getElem? (i := 2) rfl⟩) rfl (by decide) k_777 (List.mem_of_getElem? (i := 0) rfl) (fun q9 => ?_))
          refine g_astore (lv' := [(4, .ref q9), (0, .ref (oa (gw Γ) 0)), (1, .int v1), (2, .int v2), (3, .ref (oa (gw Γ) 108))]) C dL_assign_21 (by decide) rfl ?_
          refine g_iconst (v := (3 : Int32)) C dL_assign_23 (by decide) ?_
          obtain rfl := Option.some.inj h
          exact hE 24 _ dL_assign_24
        · replace h := it_f c9_0 h
          cases h
theorem c_L_assign (N : Nat) (l : Launch) (hst : l.stackTraces = false) (w : Om) (v1 : Int32) (v2 : Int32) (m : Mem) (o : Int32 × Mem) (h : f_L_assign N v1 v2 m = some o) : KW l yL_assign cL_assign 5 [(0, 10, 13, 19), (0, 10, 17, 25), (0, 10, 21, 13)] 9 155 3 w [.ref (oa w 0), .int v1, .int v2, .ref (oa w 108)] m o.1 o.2 := KW_of hst (by decide +kernel) RL rfl (Nat.le_of_ble_eq_true rfl) (fun Γ hw hl C hT hE => by
  subst hw; subst hl
  exact t_L_assign N Γ C hT v1 v2 m o h hE)
set_option maxRecDepth 100000 in
set_option maxHeartbeats 4000000 in
theorem t_L_unassign (N : Nat) (Γ : Gc) (C : Cx Γ cL_unassign 5 RL (rmK 9 156 3)) (hT : (gc Γ).exceptionTable.toList = tableOf [(0, 10, 13, 19), (0, 10, 17, 47)]) (v1 : Int32) (v2 : Int32) (m : Mem) (b : Int32 × Mem) (h : f_L_unassign N v1 v2 m = some b) (hE : EWn Γ 5 cL_unassign 3 b) : G Γ 5 0 m 0 [(0, .ref (oa (gw Γ) 0)), (1, .int v1), (2, .int v2), (3, .ref (oa (gw Γ) 108))] [] := by
  unfold f_L_unassign at h
  refine g_aload_n C dL_unassign_0 3 rfl rfl ?_
  refine g_iconst (v := (0 : Int32)) C dL_unassign_1 (by decide) ?_
  refine g_aload_n C dL_unassign_2 0 rfl rfl ?_
  refine g_iload_n C dL_unassign_3 1 rfl rfl ?_
  refine g_iload_n C dL_unassign_4 2 rfl rfl ?_
  rcases xh_some h with ⟨r_1, m_1, hk_1, h⟩ | ⟨e_1, m_1, hk_1, h⟩
  · refine g_xvI_ok (mc' := 3) (As := [.int v1, .int v2]) (a := 0) (ci := 9) C dL_unassign_5 mf_X9_unassign k_825 rfl (by decide) ⟨by decide, by decide⟩ rfl rfl (Nat.le_of_ble_eq_true rfl) (by decide) rfl (c_X9_unassign N (gl Γ) C.2.2.2.2 (gw Γ) v1 v2 m _ hk_1) ?_
    refine g_i2l C dL_unassign_8 ?_
    obtain ⟨m_2, e_2, h⟩ := wr_some h
    refine g_last' (j := 0) C dL_unassign_9 (okA_of rfl rfl (by decide)) (by decide) (G_m e_2 ?_)
    refine g_goto (tgt := 21) C dL_unassign_10 (by decide) ?_
    refine g_iconst (v := (0 : Int32)) C dL_unassign_21 (by decide) ?_
    obtain rfl := Option.some.inj h
    exact hE 22 _ dL_unassign_22
  · replace h : (if e_1 = 2 then some ((1 : Int32), m_1) else if e_1 = 3 then some ((2 : Int32), m_1) else none) = some b := h
    by_cases c9_2 : e_1 = 2
    · replace h := it_t c9_2 h
      subst c9_2
      refine g_xvI_h (mc' := 3) (As := [.int v1, .int v2]) (a := 0) (ci := 9) C dL_unassign_5 mf_X9_unassign k_825 rfl (by decide) ⟨by decide, by decide⟩ rfl rfl (Nat.le_of_ble_eq_true rfl) (by decide) rfl (c_X9_unassign N (gl Γ) C.2.2.2.2 (gw Γ) v1 v2 m _ hk_1) (gx_catch (hp := []) C hT rfl (fun z hz => nomatch hz) rfl (by decide) k_785 (List.mem_of_getElem? (i := 2) rfl) (fun q9 => ?_))
      refine g_astore (lv' := [(4, .ref q9), (0, .ref (oa (gw Γ) 0)), (1, .int v1), (2, .int v2), (3, .ref (oa (gw Γ) 108))]) C dL_unassign_13 (by decide) rfl ?_
      refine g_iconst (v := (1 : Int32)) C dL_unassign_15 (by decide) ?_
      obtain rfl := Option.some.inj h
      exact hE 16 _ dL_unassign_16
    · replace h := it_f c9_2 h
      by_cases c9_3 : e_1 = 3
      · replace h := it_t c9_3 h
        subst c9_3
        refine g_xvI_h (mc' := 3) (As := [.int v1, .int v2]) (a := 0) (ci := 9) C dL_unassign_5 mf_X9_unassign k_825 rfl (by decide) ⟨by decide, by decide⟩ rfl rfl (Nat.le_of_ble_eq_true rfl) (by decide) rfl (c_X9_unassign N (gl Γ) C.2.2.2.2 (gw Γ) v1 v2 m _ hk_1) (gx_catch (hp := [(0, 10, 13, 19)]) C hT rfl (fun z hz => by obtain rfl := List.mem_singleton.mp hz; exact ⟨by decide, _, k_785, List.mem_of_getElem? (i := 3) rfl⟩) rfl (by decide) k_829 (List.mem_of_getElem? (i := 3) rfl) (fun q9 => ?_))
        refine g_astore (lv' := [(4, .ref q9), (0, .ref (oa (gw Γ) 0)), (1, .int v1), (2, .int v2), (3, .ref (oa (gw Γ) 108))]) C dL_unassign_17 (by decide) rfl ?_
        refine g_iconst (v := (2 : Int32)) C dL_unassign_19 (by decide) ?_
        obtain rfl := Option.some.inj h
        exact hE 20 _ dL_unassign_20
      · replace h := it_f c9_3 h
        cases h
theorem c_L_unassign (N : Nat) (l : Launch) (hst : l.stackTraces = false) (w : Om) (v1 : Int32) (v2 : Int32) (m : Mem) (o : Int32 × Mem) (h : f_L_unassign N v1 v2 m = some o) : KW l yL_unassign cL_unassign 5 [(0, 10, 13, 19), (0, 10, 17, 47)] 9 156 3 w [.ref (oa w 0), .int v1, .int v2, .ref (oa w 108)] m o.1 o.2 := KW_of hst (by decide +kernel) RL rfl (Nat.le_of_ble_eq_true rfl) (fun Γ hw hl C hT hE => by
  subst hw; subst hl
  exact t_L_unassign N Γ C hT v1 v2 m o h hE)
set_option maxRecDepth 100000 in
set_option maxHeartbeats 4000000 in
theorem t_L_assignAll (N : Nat) (Γ : Gc) (C : Cx Γ cL_assignAll 4 RL (rmK 8 160 1)) (hT : (gc Γ).exceptionTable.toList = tableOf [(0, 9, 12, 19)]) (v1 : Int32) (m : Mem) (b : Int32 × Mem) (h : f_L_assignAll N v1 m = some b) (hE : EWn Γ 4 cL_assignAll 1 b) : G Γ 4 0 m 0 [(0, .ref (oa (gw Γ) 0)), (1, .int v1), (2, .ref (oa (gw Γ) 108))] [] := by
  unfold f_L_assignAll at h
  refine g_aload_n C dL_assignAll_0 2 rfl rfl ?_
  refine g_iconst (v := (0 : Int32)) C dL_assignAll_1 (by decide) ?_
  refine g_aload_n C dL_assignAll_2 0 rfl rfl ?_
  refine g_iload_n C dL_assignAll_3 1 rfl rfl ?_
  rcases xh_some h with ⟨r_1, m_1, hk_1, h⟩ | ⟨e_1, m_1, hk_1, h⟩
  · refine g_xvI_ok (mc' := 1) (As := [.int v1]) (a := 0) (ci := 9) C dL_assignAll_4 mf_X9_assignAll k_832 rfl (by decide) ⟨by decide, by decide⟩ rfl rfl (Nat.le_of_ble_eq_true rfl) (by decide) rfl (c_X9_assignAll N (gl Γ) C.2.2.2.2 (gw Γ) v1 m _ hk_1) ?_
    refine g_i2l C dL_assignAll_7 ?_
    obtain ⟨m_2, e_2, h⟩ := wr_some h
    refine g_last' (j := 0) C dL_assignAll_8 (okA_of rfl rfl (by decide)) (by decide) (G_m e_2 ?_)
    refine g_goto (tgt := 15) C dL_assignAll_9 (by decide) ?_
    refine g_iconst (v := (0 : Int32)) C dL_assignAll_15 (by decide) ?_
    obtain rfl := Option.some.inj h
    exact hE 16 _ dL_assignAll_16
  · replace h : (if e_1 = 2 then some ((1 : Int32), m_1) else none) = some b := h
    by_cases c9_2 : e_1 = 2
    · replace h := it_t c9_2 h
      subst c9_2
      refine g_xvI_h (mc' := 1) (As := [.int v1]) (a := 0) (ci := 9) C dL_assignAll_4 mf_X9_assignAll k_832 rfl (by decide) ⟨by decide, by decide⟩ rfl rfl (Nat.le_of_ble_eq_true rfl) (by decide) rfl (c_X9_assignAll N (gl Γ) C.2.2.2.2 (gw Γ) v1 m _ hk_1) (gx_catch (hp := []) C hT rfl (fun z hz => nomatch hz) rfl (by decide) k_785 (List.mem_of_getElem? (i := 2) rfl) (fun q9 => ?_))
      refine g_astore_n (lv' := [(3, .ref q9), (0, .ref (oa (gw Γ) 0)), (1, .int v1), (2, .ref (oa (gw Γ) 108))]) C dL_assignAll_12 rfl (by decide) rfl ?_
      refine g_iconst (v := (1 : Int32)) C dL_assignAll_13 (by decide) ?_
      obtain rfl := Option.some.inj h
      exact hE 14 _ dL_assignAll_14
    · replace h := it_f c9_2 h
      cases h
theorem c_L_assignAll (N : Nat) (l : Launch) (hst : l.stackTraces = false) (w : Om) (v1 : Int32) (m : Mem) (o : Int32 × Mem) (h : f_L_assignAll N v1 m = some o) : KW l yL_assignAll cL_assignAll 4 [(0, 9, 12, 19)] 8 160 1 w [.ref (oa w 0), .int v1, .ref (oa w 108)] m o.1 o.2 := KW_of hst (by decide +kernel) RL rfl (Nat.le_of_ble_eq_true rfl) (fun Γ hw hl C hT hE => by
  subst hw; subst hl
  exact t_L_assignAll N Γ C hT v1 m o h hE)
set_option maxRecDepth 100000 in
set_option maxHeartbeats 4000000 in
theorem t_L_reviewerOf (N : Nat) (Γ : Gc) (C : Cx Γ cL_reviewerOf 5 RL (rmK 8 135 2)) (hT : (gc Γ).exceptionTable.toList = tableOf [(0, 10, 13, 19)]) (v1 : Int32) (v2 : Int32) (m : Mem) (b : Int32 × Mem) (h : f_L_reviewerOf N v1 v2 m = some b) (hE : EWn Γ 5 cL_reviewerOf 2 b) : G Γ 5 0 m 0 [(0, .ref (oa (gw Γ) 0)), (1, .int v1), (2, .int v2), (3, .ref (oa (gw Γ) 108))] [] := by
  unfold f_L_reviewerOf at h
  refine g_aload_n C dL_reviewerOf_0 3 rfl rfl ?_
  refine g_iconst (v := (0 : Int32)) C dL_reviewerOf_1 (by decide) ?_
  refine g_aload_n C dL_reviewerOf_2 0 rfl rfl ?_
  refine g_iload_n C dL_reviewerOf_3 1 rfl rfl ?_
  refine g_iload_n C dL_reviewerOf_4 2 rfl rfl ?_
  rcases xh_some h with ⟨r_1, m_1, hk_1, h⟩ | ⟨e_1, m_1, hk_1, h⟩
  · refine g_xvI_ok (mc' := 2) (As := [.int v1, .int v2]) (a := 0) (ci := 9) C dL_reviewerOf_5 mf_X9_reviewerOf k_838 rfl (by decide) ⟨by decide, by decide⟩ rfl rfl (Nat.le_of_ble_eq_true rfl) (by decide) rfl (c_X9_reviewerOf N (gl Γ) C.2.2.2.2 (gw Γ) v1 v2 m _ hk_1) ?_
    refine g_i2l C dL_reviewerOf_8 ?_
    obtain ⟨m_2, e_2, h⟩ := wr_some h
    refine g_last' (j := 0) C dL_reviewerOf_9 (okA_of rfl rfl (by decide)) (by decide) (G_m e_2 ?_)
    refine g_goto (tgt := 17) C dL_reviewerOf_10 (by decide) ?_
    refine g_iconst (v := (0 : Int32)) C dL_reviewerOf_17 (by decide) ?_
    obtain rfl := Option.some.inj h
    exact hE 18 _ dL_reviewerOf_18
  · replace h : (if e_1 = 2 then some ((1 : Int32), m_1) else none) = some b := h
    by_cases c9_2 : e_1 = 2
    · replace h := it_t c9_2 h
      subst c9_2
      refine g_xvI_h (mc' := 2) (As := [.int v1, .int v2]) (a := 0) (ci := 9) C dL_reviewerOf_5 mf_X9_reviewerOf k_838 rfl (by decide) ⟨by decide, by decide⟩ rfl rfl (Nat.le_of_ble_eq_true rfl) (by decide) rfl (c_X9_reviewerOf N (gl Γ) C.2.2.2.2 (gw Γ) v1 v2 m _ hk_1) (gx_catch (hp := []) C hT rfl (fun z hz => nomatch hz) rfl (by decide) k_785 (List.mem_of_getElem? (i := 2) rfl) (fun q9 => ?_))
      refine g_astore (lv' := [(4, .ref q9), (0, .ref (oa (gw Γ) 0)), (1, .int v1), (2, .int v2), (3, .ref (oa (gw Γ) 108))]) C dL_reviewerOf_13 (by decide) rfl ?_
      refine g_iconst (v := (1 : Int32)) C dL_reviewerOf_15 (by decide) ?_
      obtain rfl := Option.some.inj h
      exact hE 16 _ dL_reviewerOf_16
    · replace h := it_f c9_2 h
      cases h
theorem c_L_reviewerOf (N : Nat) (l : Launch) (hst : l.stackTraces = false) (w : Om) (v1 : Int32) (v2 : Int32) (m : Mem) (o : Int32 × Mem) (h : f_L_reviewerOf N v1 v2 m = some o) : KW l yL_reviewerOf cL_reviewerOf 5 [(0, 10, 13, 19)] 8 135 2 w [.ref (oa w 0), .int v1, .int v2, .ref (oa w 108)] m o.1 o.2 := KW_of hst (by decide +kernel) RL rfl (Nat.le_of_ble_eq_true rfl) (fun Γ hw hl C hT hE => by
  subst hw; subst hl
  exact t_L_reviewerOf N Γ C hT v1 v2 m o h hE)
set_option maxRecDepth 100000 in
set_option maxHeartbeats 4000000 in
theorem t_L_loadOf (N : Nat) (Γ : Gc) (C : Cx Γ cL_loadOf 4 RL (rmK 8 132 1)) (hT : (gc Γ).exceptionTable.toList = tableOf [(0, 9, 12, 19)]) (v1 : Int32) (m : Mem) (b : Int32 × Mem) (h : f_L_loadOf N v1 m = some b) (hE : EWn Γ 4 cL_loadOf 1 b) : G Γ 4 0 m 0 [(0, .ref (oa (gw Γ) 0)), (1, .int v1), (2, .ref (oa (gw Γ) 108))] [] := by
  unfold f_L_loadOf at h
  refine g_aload_n C dL_loadOf_0 2 rfl rfl ?_
  refine g_iconst (v := (0 : Int32)) C dL_loadOf_1 (by decide) ?_
  refine g_aload_n C dL_loadOf_2 0 rfl rfl ?_
  refine g_iload_n C dL_loadOf_3 1 rfl rfl ?_
  rcases xh_some h with ⟨r_1, m_1, hk_1, h⟩ | ⟨e_1, m_1, hk_1, h⟩
  · refine g_xvI_ok (mc' := 1) (As := [.int v1]) (a := 0) (ci := 9) C dL_loadOf_4 mf_X9_loadOf k_844 rfl (by decide) ⟨by decide, by decide⟩ rfl rfl (Nat.le_of_ble_eq_true rfl) (by decide) rfl (c_X9_loadOf N (gl Γ) C.2.2.2.2 (gw Γ) v1 m _ hk_1) ?_
    refine g_i2l C dL_loadOf_7 ?_
    obtain ⟨m_2, e_2, h⟩ := wr_some h
    refine g_last' (j := 0) C dL_loadOf_8 (okA_of rfl rfl (by decide)) (by decide) (G_m e_2 ?_)
    refine g_goto (tgt := 15) C dL_loadOf_9 (by decide) ?_
    refine g_iconst (v := (0 : Int32)) C dL_loadOf_15 (by decide) ?_
    obtain rfl := Option.some.inj h
    exact hE 16 _ dL_loadOf_16
  · replace h : (if e_1 = 2 then some ((1 : Int32), m_1) else none) = some b := h
    by_cases c9_2 : e_1 = 2
    · replace h := it_t c9_2 h
      subst c9_2
      refine g_xvI_h (mc' := 1) (As := [.int v1]) (a := 0) (ci := 9) C dL_loadOf_4 mf_X9_loadOf k_844 rfl (by decide) ⟨by decide, by decide⟩ rfl rfl (Nat.le_of_ble_eq_true rfl) (by decide) rfl (c_X9_loadOf N (gl Γ) C.2.2.2.2 (gw Γ) v1 m _ hk_1) (gx_catch (hp := []) C hT rfl (fun z hz => nomatch hz) rfl (by decide) k_785 (List.mem_of_getElem? (i := 2) rfl) (fun q9 => ?_))
      refine g_astore_n (lv' := [(3, .ref q9), (0, .ref (oa (gw Γ) 0)), (1, .int v1), (2, .ref (oa (gw Γ) 108))]) C dL_loadOf_12 rfl (by decide) rfl ?_
      refine g_iconst (v := (1 : Int32)) C dL_loadOf_13 (by decide) ?_
      obtain rfl := Option.some.inj h
      exact hE 14 _ dL_loadOf_14
    · replace h := it_f c9_2 h
      cases h
theorem c_L_loadOf (N : Nat) (l : Launch) (hst : l.stackTraces = false) (w : Om) (v1 : Int32) (m : Mem) (o : Int32 × Mem) (h : f_L_loadOf N v1 m = some o) : KW l yL_loadOf cL_loadOf 4 [(0, 9, 12, 19)] 8 132 1 w [.ref (oa w 0), .int v1, .ref (oa w 108)] m o.1 o.2 := KW_of hst (by decide +kernel) RL rfl (Nat.le_of_ble_eq_true rfl) (fun Γ hw hl C hT hE => by
  subst hw; subst hl
  exact t_L_loadOf N Γ C hT v1 m o h hE)
set_option maxRecDepth 100000 in
set_option maxHeartbeats 4000000 in
theorem t_L_matchSum (N : Nat) (Γ : Gc) (C : Cx Γ cL_matchSum 4 RL (rmK 8 135 1)) (hT : (gc Γ).exceptionTable.toList = tableOf [(0, 9, 12, 19)]) (v1 : Int32) (m : Mem) (b : Int32 × Mem) (h : f_L_matchSum N v1 m = some b) (hE : EWn Γ 4 cL_matchSum 1 b) : G Γ 4 0 m 0 [(0, .ref (oa (gw Γ) 0)), (1, .int v1), (2, .ref (oa (gw Γ) 108))] [] := by
  unfold f_L_matchSum at h
  refine g_aload_n C dL_matchSum_0 2 rfl rfl ?_
  refine g_iconst (v := (0 : Int32)) C dL_matchSum_1 (by decide) ?_
  refine g_aload_n C dL_matchSum_2 0 rfl rfl ?_
  refine g_iload_n C dL_matchSum_3 1 rfl rfl ?_
  rcases xh_some h with ⟨r_1, m_1, hk_1, h⟩ | ⟨e_1, m_1, hk_1, h⟩
  · refine g_xvI_ok (mc' := 1) (As := [.int v1]) (a := 0) (ci := 9) C dL_matchSum_4 mf_X9_matchSum k_850 rfl (by decide) ⟨by decide, by decide⟩ rfl rfl (Nat.le_of_ble_eq_true rfl) (by decide) rfl (c_X9_matchSum N (gl Γ) C.2.2.2.2 (gw Γ) v1 m _ hk_1) ?_
    refine g_i2l C dL_matchSum_7 ?_
    obtain ⟨m_2, e_2, h⟩ := wr_some h
    refine g_last' (j := 0) C dL_matchSum_8 (okA_of rfl rfl (by decide)) (by decide) (G_m e_2 ?_)
    refine g_goto (tgt := 15) C dL_matchSum_9 (by decide) ?_
    refine g_iconst (v := (0 : Int32)) C dL_matchSum_15 (by decide) ?_
    obtain rfl := Option.some.inj h
    exact hE 16 _ dL_matchSum_16
  · replace h : (if e_1 = 2 then some ((1 : Int32), m_1) else none) = some b := h
    by_cases c9_2 : e_1 = 2
    · replace h := it_t c9_2 h
      subst c9_2
      refine g_xvI_h (mc' := 1) (As := [.int v1]) (a := 0) (ci := 9) C dL_matchSum_4 mf_X9_matchSum k_850 rfl (by decide) ⟨by decide, by decide⟩ rfl rfl (Nat.le_of_ble_eq_true rfl) (by decide) rfl (c_X9_matchSum N (gl Γ) C.2.2.2.2 (gw Γ) v1 m _ hk_1) (gx_catch (hp := []) C hT rfl (fun z hz => nomatch hz) rfl (by decide) k_785 (List.mem_of_getElem? (i := 2) rfl) (fun q9 => ?_))
      refine g_astore_n (lv' := [(3, .ref q9), (0, .ref (oa (gw Γ) 0)), (1, .int v1), (2, .ref (oa (gw Γ) 108))]) C dL_matchSum_12 rfl (by decide) rfl ?_
      refine g_iconst (v := (1 : Int32)) C dL_matchSum_13 (by decide) ?_
      obtain rfl := Option.some.inj h
      exact hE 14 _ dL_matchSum_14
    · replace h := it_f c9_2 h
      cases h
theorem c_L_matchSum (N : Nat) (l : Launch) (hst : l.stackTraces = false) (w : Om) (v1 : Int32) (m : Mem) (o : Int32 × Mem) (h : f_L_matchSum N v1 m = some o) : KW l yL_matchSum cL_matchSum 4 [(0, 9, 12, 19)] 8 135 1 w [.ref (oa w 0), .int v1, .ref (oa w 108)] m o.1 o.2 := KW_of hst (by decide +kernel) RL rfl (Nat.le_of_ble_eq_true rfl) (fun Γ hw hl C hT hE => by
  subst hw; subst hl
  exact t_L_matchSum N Γ C hT v1 m o h hE)
set_option maxRecDepth 100000 in
set_option maxHeartbeats 4000000 in
theorem t_L_mostReviews (N : Nat) (Γ : Gc) (C : Cx Γ cL_mostReviews 4 RL (rmK 8 141 1)) (hT : (gc Γ).exceptionTable.toList = tableOf [(0, 9, 12, 19)]) (v1 : Int32) (m : Mem) (b : Int32 × Mem) (h : f_L_mostReviews N v1 m = some b) (hE : EWn Γ 4 cL_mostReviews 1 b) : G Γ 4 0 m 0 [(0, .ref (oa (gw Γ) 0)), (1, .int v1), (2, .ref (oa (gw Γ) 108))] [] := by
  unfold f_L_mostReviews at h
  refine g_aload_n C dL_mostReviews_0 2 rfl rfl ?_
  refine g_iconst (v := (0 : Int32)) C dL_mostReviews_1 (by decide) ?_
  refine g_aload_n C dL_mostReviews_2 0 rfl rfl ?_
  refine g_iload_n C dL_mostReviews_3 1 rfl rfl ?_
  rcases xh_some h with ⟨r_1, m_1, hk_1, h⟩ | ⟨e_1, m_1, hk_1, h⟩
  · refine g_xvI_ok (mc' := 1) (As := [.int v1]) (a := 0) (ci := 9) C dL_mostReviews_4 mf_X9_mostReviews k_856 rfl (by decide) ⟨by decide, by decide⟩ rfl rfl (Nat.le_of_ble_eq_true rfl) (by decide) rfl (c_X9_mostReviews N (gl Γ) C.2.2.2.2 (gw Γ) v1 m _ hk_1) ?_
    refine g_i2l C dL_mostReviews_7 ?_
    obtain ⟨m_2, e_2, h⟩ := wr_some h
    refine g_last' (j := 0) C dL_mostReviews_8 (okA_of rfl rfl (by decide)) (by decide) (G_m e_2 ?_)
    refine g_goto (tgt := 15) C dL_mostReviews_9 (by decide) ?_
    refine g_iconst (v := (0 : Int32)) C dL_mostReviews_15 (by decide) ?_
    obtain rfl := Option.some.inj h
    exact hE 16 _ dL_mostReviews_16
  · replace h : (if e_1 = 2 then some ((1 : Int32), m_1) else none) = some b := h
    by_cases c9_2 : e_1 = 2
    · replace h := it_t c9_2 h
      subst c9_2
      refine g_xvI_h (mc' := 1) (As := [.int v1]) (a := 0) (ci := 9) C dL_mostReviews_4 mf_X9_mostReviews k_856 rfl (by decide) ⟨by decide, by decide⟩ rfl rfl (Nat.le_of_ble_eq_true rfl) (by decide) rfl (c_X9_mostReviews N (gl Γ) C.2.2.2.2 (gw Γ) v1 m _ hk_1) (gx_catch (hp := []) C hT rfl (fun z hz => nomatch hz) rfl (by decide) k_785 (List.mem_of_getElem? (i := 2) rfl) (fun q9 => ?_))
      refine g_astore_n (lv' := [(3, .ref q9), (0, .ref (oa (gw Γ) 0)), (1, .int v1), (2, .ref (oa (gw Γ) 108))]) C dL_mostReviews_12 rfl (by decide) rfl ?_
      refine g_iconst (v := (1 : Int32)) C dL_mostReviews_13 (by decide) ?_
      obtain rfl := Option.some.inj h
      exact hE 14 _ dL_mostReviews_14
    · replace h := it_f c9_2 h
      cases h
theorem c_L_mostReviews (N : Nat) (l : Launch) (hst : l.stackTraces = false) (w : Om) (v1 : Int32) (m : Mem) (o : Int32 × Mem) (h : f_L_mostReviews N v1 m = some o) : KW l yL_mostReviews cL_mostReviews 4 [(0, 9, 12, 19)] 8 141 1 w [.ref (oa w 0), .int v1, .ref (oa w 108)] m o.1 o.2 := KW_of hst (by decide +kernel) RL rfl (Nat.le_of_ble_eq_true rfl) (fun Γ hw hl C hT hE => by
  subst hw; subst hl
  exact t_L_mostReviews N Γ C hT v1 m o h hE)
set_option maxRecDepth 100000 in
set_option maxHeartbeats 4000000 in
theorem t_L_bestMatchSum (N : Nat) (Γ : Gc) (C : Cx Γ cL_bestMatchSum 4 RL (rmK 8 141 1)) (hT : (gc Γ).exceptionTable.toList = tableOf [(0, 9, 12, 19)]) (v1 : Int32) (m : Mem) (b : Int32 × Mem) (h : f_L_bestMatchSum N v1 m = some b) (hE : EWn Γ 4 cL_bestMatchSum 1 b) : G Γ 4 0 m 0 [(0, .ref (oa (gw Γ) 0)), (1, .int v1), (2, .ref (oa (gw Γ) 108))] [] := by
  unfold f_L_bestMatchSum at h
  refine g_aload_n C dL_bestMatchSum_0 2 rfl rfl ?_
  refine g_iconst (v := (0 : Int32)) C dL_bestMatchSum_1 (by decide) ?_
  refine g_aload_n C dL_bestMatchSum_2 0 rfl rfl ?_
  refine g_iload_n C dL_bestMatchSum_3 1 rfl rfl ?_
  rcases xh_some h with ⟨r_1, m_1, hk_1, h⟩ | ⟨e_1, m_1, hk_1, h⟩
  · refine g_xvI_ok (mc' := 1) (As := [.int v1]) (a := 0) (ci := 9) C dL_bestMatchSum_4 mf_X9_bestMatchSum k_862 rfl (by decide) ⟨by decide, by decide⟩ rfl rfl (Nat.le_of_ble_eq_true rfl) (by decide) rfl (c_X9_bestMatchSum N (gl Γ) C.2.2.2.2 (gw Γ) v1 m _ hk_1) ?_
    refine g_i2l C dL_bestMatchSum_7 ?_
    obtain ⟨m_2, e_2, h⟩ := wr_some h
    refine g_last' (j := 0) C dL_bestMatchSum_8 (okA_of rfl rfl (by decide)) (by decide) (G_m e_2 ?_)
    refine g_goto (tgt := 15) C dL_bestMatchSum_9 (by decide) ?_
    refine g_iconst (v := (0 : Int32)) C dL_bestMatchSum_15 (by decide) ?_
    obtain rfl := Option.some.inj h
    exact hE 16 _ dL_bestMatchSum_16
  · replace h : (if e_1 = 2 then some ((1 : Int32), m_1) else none) = some b := h
    by_cases c9_2 : e_1 = 2
    · replace h := it_t c9_2 h
      subst c9_2
      refine g_xvI_h (mc' := 1) (As := [.int v1]) (a := 0) (ci := 9) C dL_bestMatchSum_4 mf_X9_bestMatchSum k_862 rfl (by decide) ⟨by decide, by decide⟩ rfl rfl (Nat.le_of_ble_eq_true rfl) (by decide) rfl (c_X9_bestMatchSum N (gl Γ) C.2.2.2.2 (gw Γ) v1 m _ hk_1) (gx_catch (hp := []) C hT rfl (fun z hz => nomatch hz) rfl (by decide) k_785 (List.mem_of_getElem? (i := 2) rfl) (fun q9 => ?_))
      refine g_astore_n (lv' := [(3, .ref q9), (0, .ref (oa (gw Γ) 0)), (1, .int v1), (2, .ref (oa (gw Γ) 108))]) C dL_bestMatchSum_12 rfl (by decide) rfl ?_
      refine g_iconst (v := (1 : Int32)) C dL_bestMatchSum_13 (by decide) ?_
      obtain rfl := Option.some.inj h
      exact hE 14 _ dL_bestMatchSum_14
    · replace h := it_f c9_2 h
      cases h
theorem c_L_bestMatchSum (N : Nat) (l : Launch) (hst : l.stackTraces = false) (w : Om) (v1 : Int32) (m : Mem) (o : Int32 × Mem) (h : f_L_bestMatchSum N v1 m = some o) : KW l yL_bestMatchSum cL_bestMatchSum 4 [(0, 9, 12, 19)] 8 141 1 w [.ref (oa w 0), .int v1, .ref (oa w 108)] m o.1 o.2 := KW_of hst (by decide +kernel) RL rfl (Nat.le_of_ble_eq_true rfl) (fun Γ hw hl C hT hE => by
  subst hw; subst hl
  exact t_L_bestMatchSum N Γ C hT v1 m o h hE)
set_option maxRecDepth 100000 in
set_option maxHeartbeats 4000000 in
theorem t_L_setScore (N : Nat) (Γ : Gc) (C : Cx Γ cL_setScore 6 RL (rmK 9 157 3)) (hT : (gc Γ).exceptionTable.toList = tableOf [(0, 12, 15, 19), (0, 12, 19, 25), (0, 12, 23, 47)]) (v1 : Int32) (v2 : Int32) (v3 : Int32) (m : Mem) (b : Int32 × Mem) (h : f_L_setScore N v1 v2 v3 m = some b) (hE : EWn Γ 6 cL_setScore 3 b) : G Γ 6 0 m 0 [(0, .ref (oa (gw Γ) 0)), (1, .int v1), (2, .int v2), (3, .int v3), (4, .ref (oa (gw Γ) 108))] [] := by
  unfold f_L_setScore at h
  refine g_aload C dL_setScore_0 4 rfl ?_
  refine g_iconst (v := (0 : Int32)) C dL_setScore_2 (by decide) ?_
  refine g_aload_n C dL_setScore_3 0 rfl rfl ?_
  refine g_iload_n C dL_setScore_4 1 rfl rfl ?_
  refine g_iload_n C dL_setScore_5 2 rfl rfl ?_
  refine g_iload_n C dL_setScore_6 3 rfl rfl ?_
  rcases xh_some h with ⟨r_1, m_1, hk_1, h⟩ | ⟨e_1, m_1, hk_1, h⟩
  · refine g_xvI_ok (mc' := 3) (As := [.int v1, .int v2, .int v3]) (a := 0) (ci := 9) C dL_setScore_7 mf_X9_setScore k_868 rfl (by decide) ⟨by decide, by decide⟩ rfl rfl (Nat.le_of_ble_eq_true rfl) (by decide) rfl (c_X9_setScore N (gl Γ) C.2.2.2.2 (gw Γ) v1 v2 v3 m _ hk_1) ?_
    refine g_i2l C dL_setScore_10 ?_
    obtain ⟨m_2, e_2, h⟩ := wr_some h
    refine g_last' (j := 0) C dL_setScore_11 (okA_of rfl rfl (by decide)) (by decide) (G_m e_2 ?_)
    refine g_goto (tgt := 27) C dL_setScore_12 (by decide) ?_
    refine g_iconst (v := (0 : Int32)) C dL_setScore_27 (by decide) ?_
    obtain rfl := Option.some.inj h
    exact hE 28 _ dL_setScore_28
  · replace h : (if e_1 = 2 then some ((1 : Int32), m_1) else if e_1 = 1 then some ((2 : Int32), m_1) else if e_1 = 3 then some ((3 : Int32), m_1) else none) = some b := h
    by_cases c9_2 : e_1 = 2
    · replace h := it_t c9_2 h
      subst c9_2
      refine g_xvI_h (mc' := 3) (As := [.int v1, .int v2, .int v3]) (a := 0) (ci := 9) C dL_setScore_7 mf_X9_setScore k_868 rfl (by decide) ⟨by decide, by decide⟩ rfl rfl (Nat.le_of_ble_eq_true rfl) (by decide) rfl (c_X9_setScore N (gl Γ) C.2.2.2.2 (gw Γ) v1 v2 v3 m _ hk_1) (gx_catch (hp := []) C hT rfl (fun z hz => nomatch hz) rfl (by decide) k_785 (List.mem_of_getElem? (i := 2) rfl) (fun q9 => ?_))
      refine g_astore (lv' := [(5, .ref q9), (0, .ref (oa (gw Γ) 0)), (1, .int v1), (2, .int v2), (3, .int v3), (4, .ref (oa (gw Γ) 108))]) C dL_setScore_15 (by decide) rfl ?_
      refine g_iconst (v := (1 : Int32)) C dL_setScore_17 (by decide) ?_
      obtain rfl := Option.some.inj h
      exact hE 18 _ dL_setScore_18
    · replace h := it_f c9_2 h
      by_cases c9_1 : e_1 = 1
      · replace h := it_t c9_1 h
        subst c9_1
        refine g_xvI_h (mc' := 3) (As := [.int v1, .int v2, .int v3]) (a := 0) (ci := 9) C dL_setScore_7 mf_X9_setScore k_868 rfl (by decide) ⟨by decide, by decide⟩ rfl rfl (Nat.le_of_ble_eq_true rfl) (by decide) rfl (c_X9_setScore N (gl Γ) C.2.2.2.2 (gw Γ) v1 v2 v3 m _ hk_1) (gx_catch (hp := [(0, 12, 15, 19)]) C hT rfl (fun z hz => by obtain rfl := List.mem_singleton.mp hz; exact ⟨by decide, _, k_785, List.mem_of_getElem? (i := 1) rfl⟩) rfl (by decide) k_792 (List.mem_of_getElem? (i := 1) rfl) (fun q9 => ?_))
        refine g_astore (lv' := [(5, .ref q9), (0, .ref (oa (gw Γ) 0)), (1, .int v1), (2, .int v2), (3, .int v3), (4, .ref (oa (gw Γ) 108))]) C dL_setScore_19 (by decide) rfl ?_
        refine g_iconst (v := (2 : Int32)) C dL_setScore_21 (by decide) ?_
        obtain rfl := Option.some.inj h
        exact hE 22 _ dL_setScore_22
      · replace h := it_f c9_1 h
        by_cases c9_3 : e_1 = 3
        · replace h := it_t c9_3 h
          subst c9_3
          refine g_xvI_h (mc' := 3) (As := [.int v1, .int v2, .int v3]) (a := 0) (ci := 9) C dL_setScore_7 mf_X9_setScore k_868 rfl (by decide) ⟨by decide, by decide⟩ rfl rfl (Nat.le_of_ble_eq_true rfl) (by decide) rfl (c_X9_setScore N (gl Γ) C.2.2.2.2 (gw Γ) v1 v2 v3 m _ hk_1) (gx_catch (hp := [(0, 12, 15, 19), (0, 12, 19, 25)]) C hT rfl (fun z hz => by
          rcases List.mem_cons.mp hz with rfl | hz
          · exact ⟨by decide, _, k_785, List.mem_of_getElem? (i := 3) rfl⟩
          · obtain rfl := List.mem_singleton.mp hz; exact ⟨by decide, _, k_792, List.mem_of_getElem? (i := 4) rfl⟩) rfl (by decide) k_829 (List.mem_of_getElem? (i := 3) rfl) (fun q9 => ?_))
          refine g_astore (lv' := [(5, .ref q9), (0, .ref (oa (gw Γ) 0)), (1, .int v1), (2, .int v2), (3, .int v3), (4, .ref (oa (gw Γ) 108))]) C dL_setScore_23 (by decide) rfl ?_
          refine g_iconst (v := (3 : Int32)) C dL_setScore_25 (by decide) ?_
          obtain rfl := Option.some.inj h
          exact hE 26 _ dL_setScore_26
        · replace h := it_f c9_3 h
          cases h
theorem c_L_setScore (N : Nat) (l : Launch) (hst : l.stackTraces = false) (w : Om) (v1 : Int32) (v2 : Int32) (v3 : Int32) (m : Mem) (o : Int32 × Mem) (h : f_L_setScore N v1 v2 v3 m = some o) : KW l yL_setScore cL_setScore 6 [(0, 12, 15, 19), (0, 12, 19, 25), (0, 12, 23, 47)] 9 157 3 w [.ref (oa w 0), .int v1, .int v2, .int v3, .ref (oa w 108)] m o.1 o.2 := KW_of hst (by decide +kernel) RL rfl (Nat.le_of_ble_eq_true rfl) (fun Γ hw hl C hT hE => by
  subst hw; subst hl
  exact t_L_setScore N Γ C hT v1 v2 v3 m o h hE)
set_option maxRecDepth 100000 in
set_option maxHeartbeats 4000000 in
theorem t_L_adjusted (N : Nat) (Γ : Gc) (C : Cx Γ cL_adjusted 5 RL (rmK 9 155 3)) (hT : (gc Γ).exceptionTable.toList = tableOf [(0, 10, 13, 19), (0, 10, 17, 47)]) (v1 : Int32) (v2 : Int32) (m : Mem) (b : Int32 × Mem) (h : f_L_adjusted N v1 v2 m = some b) (hE : EWn Γ 5 cL_adjusted 3 b) : G Γ 5 0 m 0 [(0, .ref (oa (gw Γ) 0)), (1, .int v1), (2, .int v2), (3, .ref (oa (gw Γ) 108))] [] := by
  unfold f_L_adjusted at h
  refine g_aload_n C dL_adjusted_0 3 rfl rfl ?_
  refine g_iconst (v := (0 : Int32)) C dL_adjusted_1 (by decide) ?_
  refine g_aload_n C dL_adjusted_2 0 rfl rfl ?_
  refine g_iload_n C dL_adjusted_3 1 rfl rfl ?_
  refine g_iload_n C dL_adjusted_4 2 rfl rfl ?_
  rcases xh_some h with ⟨r_1, m_1, hk_1, h⟩ | ⟨e_1, m_1, hk_1, h⟩
  · refine g_xvI_ok (mc' := 3) (As := [.int v1, .int v2]) (a := 0) (ci := 9) C dL_adjusted_5 mf_X9_adjusted k_874 rfl (by decide) ⟨by decide, by decide⟩ rfl rfl (Nat.le_of_ble_eq_true rfl) (by decide) rfl (c_X9_adjusted N (gl Γ) C.2.2.2.2 (gw Γ) v1 v2 m _ hk_1) ?_
    refine g_i2l C dL_adjusted_8 ?_
    obtain ⟨m_2, e_2, h⟩ := wr_some h
    refine g_last' (j := 0) C dL_adjusted_9 (okA_of rfl rfl (by decide)) (by decide) (G_m e_2 ?_)
    refine g_goto (tgt := 21) C dL_adjusted_10 (by decide) ?_
    refine g_iconst (v := (0 : Int32)) C dL_adjusted_21 (by decide) ?_
    obtain rfl := Option.some.inj h
    exact hE 22 _ dL_adjusted_22
  · replace h : (if e_1 = 2 then some ((1 : Int32), m_1) else if e_1 = 3 then some ((2 : Int32), m_1) else none) = some b := h
    by_cases c9_2 : e_1 = 2
    · replace h := it_t c9_2 h
      subst c9_2
      refine g_xvI_h (mc' := 3) (As := [.int v1, .int v2]) (a := 0) (ci := 9) C dL_adjusted_5 mf_X9_adjusted k_874 rfl (by decide) ⟨by decide, by decide⟩ rfl rfl (Nat.le_of_ble_eq_true rfl) (by decide) rfl (c_X9_adjusted N (gl Γ) C.2.2.2.2 (gw Γ) v1 v2 m _ hk_1) (gx_catch (hp := []) C hT rfl (fun z hz => nomatch hz) rfl (by decide) k_785 (List.mem_of_getElem? (i := 2) rfl) (fun q9 => ?_))
      refine g_astore (lv' := [(4, .ref q9), (0, .ref (oa (gw Γ) 0)), (1, .int v1), (2, .int v2), (3, .ref (oa (gw Γ) 108))]) C dL_adjusted_13 (by decide) rfl ?_
      refine g_iconst (v := (1 : Int32)) C dL_adjusted_15 (by decide) ?_
      obtain rfl := Option.some.inj h
      exact hE 16 _ dL_adjusted_16
    · replace h := it_f c9_2 h
      by_cases c9_3 : e_1 = 3
      · replace h := it_t c9_3 h
        subst c9_3
        refine g_xvI_h (mc' := 3) (As := [.int v1, .int v2]) (a := 0) (ci := 9) C dL_adjusted_5 mf_X9_adjusted k_874 rfl (by decide) ⟨by decide, by decide⟩ rfl rfl (Nat.le_of_ble_eq_true rfl) (by decide) rfl (c_X9_adjusted N (gl Γ) C.2.2.2.2 (gw Γ) v1 v2 m _ hk_1) (gx_catch (hp := [(0, 10, 13, 19)]) C hT rfl (fun z hz => by obtain rfl := List.mem_singleton.mp hz; exact ⟨by decide, _, k_785, List.mem_of_getElem? (i := 3) rfl⟩) rfl (by decide) k_829 (List.mem_of_getElem? (i := 3) rfl) (fun q9 => ?_))
        refine g_astore (lv' := [(4, .ref q9), (0, .ref (oa (gw Γ) 0)), (1, .int v1), (2, .int v2), (3, .ref (oa (gw Γ) 108))]) C dL_adjusted_17 (by decide) rfl ?_
        refine g_iconst (v := (2 : Int32)) C dL_adjusted_19 (by decide) ?_
        obtain rfl := Option.some.inj h
        exact hE 20 _ dL_adjusted_20
      · replace h := it_f c9_3 h
        cases h
theorem c_L_adjusted (N : Nat) (l : Launch) (hst : l.stackTraces = false) (w : Om) (v1 : Int32) (v2 : Int32) (m : Mem) (o : Int32 × Mem) (h : f_L_adjusted N v1 v2 m = some o) : KW l yL_adjusted cL_adjusted 5 [(0, 10, 13, 19), (0, 10, 17, 47)] 9 155 3 w [.ref (oa w 0), .int v1, .int v2, .ref (oa w 108)] m o.1 o.2 := KW_of hst (by decide +kernel) RL rfl (Nat.le_of_ble_eq_true rfl) (fun Γ hw hl C hT hE => by
  subst hw; subst hl
  exact t_L_adjusted N Γ C hT v1 v2 m o h hE)
set_option maxRecDepth 100000 in
set_option maxHeartbeats 4000000 in
theorem t_L_normalized (N : Nat) (Γ : Gc) (C : Cx Γ cL_normalized 4 RL (rmK 8 137 2)) (hT : (gc Γ).exceptionTable.toList = tableOf [(0, 9, 12, 19), (0, 9, 15, 47)]) (v1 : Int32) (m : Mem) (b : Int32 × Mem) (h : f_L_normalized N v1 m = some b) (hE : EWn Γ 4 cL_normalized 2 b) : G Γ 4 0 m 0 [(0, .ref (oa (gw Γ) 0)), (1, .int v1), (2, .ref (oa (gw Γ) 108))] [] := by
  unfold f_L_normalized at h
  refine g_aload_n C dL_normalized_0 2 rfl rfl ?_
  refine g_iconst (v := (0 : Int32)) C dL_normalized_1 (by decide) ?_
  refine g_aload_n C dL_normalized_2 0 rfl rfl ?_
  refine g_iload_n C dL_normalized_3 1 rfl rfl ?_
  rcases xh_some h with ⟨r_1, m_1, hk_1, h⟩ | ⟨e_1, m_1, hk_1, h⟩
  · refine g_xvI_ok (mc' := 2) (As := [.int v1]) (a := 0) (ci := 9) C dL_normalized_4 mf_X9_normalized k_880 rfl (by decide) ⟨by decide, by decide⟩ rfl rfl (Nat.le_of_ble_eq_true rfl) (by decide) rfl (c_X9_normalized N (gl Γ) C.2.2.2.2 (gw Γ) v1 m _ hk_1) ?_
    refine g_i2l C dL_normalized_7 ?_
    obtain ⟨m_2, e_2, h⟩ := wr_some h
    refine g_last' (j := 0) C dL_normalized_8 (okA_of rfl rfl (by decide)) (by decide) (G_m e_2 ?_)
    refine g_goto (tgt := 18) C dL_normalized_9 (by decide) ?_
    refine g_iconst (v := (0 : Int32)) C dL_normalized_18 (by decide) ?_
    obtain rfl := Option.some.inj h
    exact hE 19 _ dL_normalized_19
  · replace h : (if e_1 = 2 then some ((1 : Int32), m_1) else if e_1 = 3 then some ((2 : Int32), m_1) else none) = some b := h
    by_cases c9_2 : e_1 = 2
    · replace h := it_t c9_2 h
      subst c9_2
      refine g_xvI_h (mc' := 2) (As := [.int v1]) (a := 0) (ci := 9) C dL_normalized_4 mf_X9_normalized k_880 rfl (by decide) ⟨by decide, by decide⟩ rfl rfl (Nat.le_of_ble_eq_true rfl) (by decide) rfl (c_X9_normalized N (gl Γ) C.2.2.2.2 (gw Γ) v1 m _ hk_1) (gx_catch (hp := []) C hT rfl (fun z hz => nomatch hz) rfl (by decide) k_785 (List.mem_of_getElem? (i := 2) rfl) (fun q9 => ?_))
      refine g_astore_n (lv' := [(3, .ref q9), (0, .ref (oa (gw Γ) 0)), (1, .int v1), (2, .ref (oa (gw Γ) 108))]) C dL_normalized_12 rfl (by decide) rfl ?_
      refine g_iconst (v := (1 : Int32)) C dL_normalized_13 (by decide) ?_
      obtain rfl := Option.some.inj h
      exact hE 14 _ dL_normalized_14
    · replace h := it_f c9_2 h
      by_cases c9_3 : e_1 = 3
      · replace h := it_t c9_3 h
        subst c9_3
        refine g_xvI_h (mc' := 2) (As := [.int v1]) (a := 0) (ci := 9) C dL_normalized_4 mf_X9_normalized k_880 rfl (by decide) ⟨by decide, by decide⟩ rfl rfl (Nat.le_of_ble_eq_true rfl) (by decide) rfl (c_X9_normalized N (gl Γ) C.2.2.2.2 (gw Γ) v1 m _ hk_1) (gx_catch (hp := [(0, 9, 12, 19)]) C hT rfl (fun z hz => by obtain rfl := List.mem_singleton.mp hz; exact ⟨by decide, _, k_785, List.mem_of_getElem? (i := 3) rfl⟩) rfl (by decide) k_829 (List.mem_of_getElem? (i := 3) rfl) (fun q9 => ?_))
        refine g_astore_n (lv' := [(3, .ref q9), (0, .ref (oa (gw Γ) 0)), (1, .int v1), (2, .ref (oa (gw Γ) 108))]) C dL_normalized_15 rfl (by decide) rfl ?_
        refine g_iconst (v := (2 : Int32)) C dL_normalized_16 (by decide) ?_
        obtain rfl := Option.some.inj h
        exact hE 17 _ dL_normalized_17
      · replace h := it_f c9_3 h
        cases h
theorem c_L_normalized (N : Nat) (l : Launch) (hst : l.stackTraces = false) (w : Om) (v1 : Int32) (m : Mem) (o : Int32 × Mem) (h : f_L_normalized N v1 m = some o) : KW l yL_normalized cL_normalized 4 [(0, 9, 12, 19), (0, 9, 15, 47)] 8 137 2 w [.ref (oa w 0), .int v1, .ref (oa w 108)] m o.1 o.2 := KW_of hst (by decide +kernel) RL rfl (Nat.le_of_ble_eq_true rfl) (fun Γ hw hl C hT hE => by
  subst hw; subst hl
  exact t_L_normalized N Γ C hT v1 m o h hE)
set_option maxRecDepth 100000 in
set_option maxHeartbeats 4000000 in
theorem t_L_leniency (N : Nat) (Γ : Gc) (C : Cx Γ cL_leniency 4 RL (rmK 8 141 2)) (hT : (gc Γ).exceptionTable.toList = tableOf [(0, 8, 11, 19), (0, 8, 14, 47)]) (v1 : Int32) (m : Mem) (b : Int32 × Mem) (h : f_L_leniency N v1 m = some b) (hE : EWn Γ 4 cL_leniency 2 b) : G Γ 4 0 m 0 [(0, .ref (oa (gw Γ) 0)), (1, .int v1), (2, .ref (oa (gw Γ) 109))] [] := by
  unfold f_L_leniency at h
  refine g_aload_n C dL_leniency_0 2 rfl rfl ?_
  refine g_iconst (v := (0 : Int32)) C dL_leniency_1 (by decide) ?_
  refine g_aload_n C dL_leniency_2 0 rfl rfl ?_
  refine g_iload_n C dL_leniency_3 1 rfl rfl ?_
  rcases xh_some h with ⟨r_1, m_1, hk_1, h⟩ | ⟨e_1, m_1, hk_1, h⟩
  · refine g_xvD_ok (mc' := 2) (As := [.int v1]) (a := 0) (ci := 9) C dL_leniency_4 mf_X9_leniency k_886 rfl (by decide) ⟨by decide, by decide⟩ rfl rfl (Nat.le_of_ble_eq_true rfl) (by decide) rfl (c_X9_leniency N (gl Γ) C.2.2.2.2 (gw Γ) v1 m _ hk_1) ?_
    obtain ⟨m_2, e_2, h⟩ := wr_some h
    refine g_dast' (j := 0) C dL_leniency_7 (okA_of rfl rfl (by decide)) (by decide) (G_m e_2 ?_)
    refine g_goto (tgt := 17) C dL_leniency_8 (by decide) ?_
    refine g_iconst (v := (0 : Int32)) C dL_leniency_17 (by decide) ?_
    obtain rfl := Option.some.inj h
    exact hE 18 _ dL_leniency_18
  · replace h : (if e_1 = 2 then some ((1 : Int32), m_1) else if e_1 = 3 then some ((2 : Int32), m_1) else none) = some b := h
    by_cases c9_2 : e_1 = 2
    · replace h := it_t c9_2 h
      subst c9_2
      refine g_xvD_h (mc' := 2) (As := [.int v1]) (a := 0) (ci := 9) C dL_leniency_4 mf_X9_leniency k_886 rfl (by decide) ⟨by decide, by decide⟩ rfl rfl (Nat.le_of_ble_eq_true rfl) (by decide) rfl (c_X9_leniency N (gl Γ) C.2.2.2.2 (gw Γ) v1 m _ hk_1) (gx_catch (hp := []) C hT rfl (fun z hz => nomatch hz) rfl (by decide) k_785 (List.mem_of_getElem? (i := 2) rfl) (fun q9 => ?_))
      refine g_astore_n (lv' := [(3, .ref q9), (0, .ref (oa (gw Γ) 0)), (1, .int v1), (2, .ref (oa (gw Γ) 109))]) C dL_leniency_11 rfl (by decide) rfl ?_
      refine g_iconst (v := (1 : Int32)) C dL_leniency_12 (by decide) ?_
      obtain rfl := Option.some.inj h
      exact hE 13 _ dL_leniency_13
    · replace h := it_f c9_2 h
      by_cases c9_3 : e_1 = 3
      · replace h := it_t c9_3 h
        subst c9_3
        refine g_xvD_h (mc' := 2) (As := [.int v1]) (a := 0) (ci := 9) C dL_leniency_4 mf_X9_leniency k_886 rfl (by decide) ⟨by decide, by decide⟩ rfl rfl (Nat.le_of_ble_eq_true rfl) (by decide) rfl (c_X9_leniency N (gl Γ) C.2.2.2.2 (gw Γ) v1 m _ hk_1) (gx_catch (hp := [(0, 8, 11, 19)]) C hT rfl (fun z hz => by obtain rfl := List.mem_singleton.mp hz; exact ⟨by decide, _, k_785, List.mem_of_getElem? (i := 3) rfl⟩) rfl (by decide) k_829 (List.mem_of_getElem? (i := 3) rfl) (fun q9 => ?_))
        refine g_astore_n (lv' := [(3, .ref q9), (0, .ref (oa (gw Γ) 0)), (1, .int v1), (2, .ref (oa (gw Γ) 109))]) C dL_leniency_14 rfl (by decide) rfl ?_
        refine g_iconst (v := (2 : Int32)) C dL_leniency_15 (by decide) ?_
        obtain rfl := Option.some.inj h
        exact hE 16 _ dL_leniency_16
      · replace h := it_f c9_3 h
        cases h
theorem c_L_leniency (N : Nat) (l : Launch) (hst : l.stackTraces = false) (w : Om) (v1 : Int32) (m : Mem) (o : Int32 × Mem) (h : f_L_leniency N v1 m = some o) : KW l yL_leniency cL_leniency 4 [(0, 8, 11, 19), (0, 8, 14, 47)] 8 141 2 w [.ref (oa w 0), .int v1, .ref (oa w 109)] m o.1 o.2 := KW_of hst (by decide +kernel) RL rfl (Nat.le_of_ble_eq_true rfl) (fun Γ hw hl C hT hE => by
  subst hw; subst hl
  exact t_L_leniency N Γ C hT v1 m o h hE)
set_option maxRecDepth 100000 in
set_option maxHeartbeats 4000000 in
theorem t_L_disagreement (N : Nat) (Γ : Gc) (C : Cx Γ cL_disagreement 4 RL (rmK 8 136 2)) (hT : (gc Γ).exceptionTable.toList = tableOf [(0, 8, 11, 19), (0, 8, 14, 47)]) (v1 : Int32) (m : Mem) (b : Int32 × Mem) (h : f_L_disagreement N v1 m = some b) (hE : EWn Γ 4 cL_disagreement 2 b) : G Γ 4 0 m 0 [(0, .ref (oa (gw Γ) 0)), (1, .int v1), (2, .ref (oa (gw Γ) 109))] [] := by
  unfold f_L_disagreement at h
  refine g_aload_n C dL_disagreement_0 2 rfl rfl ?_
  refine g_iconst (v := (0 : Int32)) C dL_disagreement_1 (by decide) ?_
  refine g_aload_n C dL_disagreement_2 0 rfl rfl ?_
  refine g_iload_n C dL_disagreement_3 1 rfl rfl ?_
  rcases xh_some h with ⟨r_1, m_1, hk_1, h⟩ | ⟨e_1, m_1, hk_1, h⟩
  · refine g_xvD_ok (mc' := 2) (As := [.int v1]) (a := 0) (ci := 9) C dL_disagreement_4 mf_X9_disagreement k_892 rfl (by decide) ⟨by decide, by decide⟩ rfl rfl (Nat.le_of_ble_eq_true rfl) (by decide) rfl (c_X9_disagreement N (gl Γ) C.2.2.2.2 (gw Γ) v1 m _ hk_1) ?_
    obtain ⟨m_2, e_2, h⟩ := wr_some h
    refine g_dast' (j := 0) C dL_disagreement_7 (okA_of rfl rfl (by decide)) (by decide) (G_m e_2 ?_)
    refine g_goto (tgt := 17) C dL_disagreement_8 (by decide) ?_
    refine g_iconst (v := (0 : Int32)) C dL_disagreement_17 (by decide) ?_
    obtain rfl := Option.some.inj h
    exact hE 18 _ dL_disagreement_18
  · replace h : (if e_1 = 2 then some ((1 : Int32), m_1) else if e_1 = 3 then some ((2 : Int32), m_1) else none) = some b := h
    by_cases c9_2 : e_1 = 2
    · replace h := it_t c9_2 h
      subst c9_2
      refine g_xvD_h (mc' := 2) (As := [.int v1]) (a := 0) (ci := 9) C dL_disagreement_4 mf_X9_disagreement k_892 rfl (by decide) ⟨by decide, by decide⟩ rfl rfl (Nat.le_of_ble_eq_true rfl) (by decide) rfl (c_X9_disagreement N (gl Γ) C.2.2.2.2 (gw Γ) v1 m _ hk_1) (gx_catch (hp := []) C hT rfl (fun z hz => nomatch hz) rfl (by decide) k_785 (List.mem_of_getElem? (i := 2) rfl) (fun q9 => ?_))
      refine g_astore_n (lv' := [(3, .ref q9), (0, .ref (oa (gw Γ) 0)), (1, .int v1), (2, .ref (oa (gw Γ) 109))]) C dL_disagreement_11 rfl (by decide) rfl ?_
      refine g_iconst (v := (1 : Int32)) C dL_disagreement_12 (by decide) ?_
      obtain rfl := Option.some.inj h
      exact hE 13 _ dL_disagreement_13
    · replace h := it_f c9_2 h
      by_cases c9_3 : e_1 = 3
      · replace h := it_t c9_3 h
        subst c9_3
        refine g_xvD_h (mc' := 2) (As := [.int v1]) (a := 0) (ci := 9) C dL_disagreement_4 mf_X9_disagreement k_892 rfl (by decide) ⟨by decide, by decide⟩ rfl rfl (Nat.le_of_ble_eq_true rfl) (by decide) rfl (c_X9_disagreement N (gl Γ) C.2.2.2.2 (gw Γ) v1 m _ hk_1) (gx_catch (hp := [(0, 8, 11, 19)]) C hT rfl (fun z hz => by obtain rfl := List.mem_singleton.mp hz; exact ⟨by decide, _, k_785, List.mem_of_getElem? (i := 3) rfl⟩) rfl (by decide) k_829 (List.mem_of_getElem? (i := 3) rfl) (fun q9 => ?_))
        refine g_astore_n (lv' := [(3, .ref q9), (0, .ref (oa (gw Γ) 0)), (1, .int v1), (2, .ref (oa (gw Γ) 109))]) C dL_disagreement_14 rfl (by decide) rfl ?_
        refine g_iconst (v := (2 : Int32)) C dL_disagreement_15 (by decide) ?_
        obtain rfl := Option.some.inj h
        exact hE 16 _ dL_disagreement_16
      · replace h := it_f c9_3 h
        cases h
theorem c_L_disagreement (N : Nat) (l : Launch) (hst : l.stackTraces = false) (w : Om) (v1 : Int32) (m : Mem) (o : Int32 × Mem) (h : f_L_disagreement N v1 m = some o) : KW l yL_disagreement cL_disagreement 4 [(0, 8, 11, 19), (0, 8, 14, 47)] 8 136 2 w [.ref (oa w 0), .int v1, .ref (oa w 109)] m o.1 o.2 := KW_of hst (by decide +kernel) RL rfl (Nat.le_of_ble_eq_true rfl) (fun Γ hw hl C hT hE => by
  subst hw; subst hl
  exact t_L_disagreement N Γ C hT v1 m o h hE)
set_option maxRecDepth 100000 in
set_option maxHeartbeats 4000000 in
theorem t_L_rank (N : Nat) (Γ : Gc) (C : Cx Γ cL_rank 4 RL (rmK 8 139 2)) (hT : (gc Γ).exceptionTable.toList = tableOf [(0, 9, 12, 19), (0, 9, 15, 47)]) (v1 : Int32) (m : Mem) (b : Int32 × Mem) (h : f_L_rank N v1 m = some b) (hE : EWn Γ 4 cL_rank 2 b) : G Γ 4 0 m 0 [(0, .ref (oa (gw Γ) 0)), (1, .int v1), (2, .ref (oa (gw Γ) 108))] [] := by
  unfold f_L_rank at h
  refine g_aload_n C dL_rank_0 2 rfl rfl ?_
  refine g_iconst (v := (0 : Int32)) C dL_rank_1 (by decide) ?_
  refine g_aload_n C dL_rank_2 0 rfl rfl ?_
  refine g_iload_n C dL_rank_3 1 rfl rfl ?_
  rcases xh_some h with ⟨r_1, m_1, hk_1, h⟩ | ⟨e_1, m_1, hk_1, h⟩
  · refine g_xvI_ok (mc' := 2) (As := [.int v1]) (a := 0) (ci := 9) C dL_rank_4 mf_X9_rank k_898 rfl (by decide) ⟨by decide, by decide⟩ rfl rfl (Nat.le_of_ble_eq_true rfl) (by decide) rfl (c_X9_rank N (gl Γ) C.2.2.2.2 (gw Γ) v1 m _ hk_1) ?_
    refine g_i2l C dL_rank_7 ?_
    obtain ⟨m_2, e_2, h⟩ := wr_some h
    refine g_last' (j := 0) C dL_rank_8 (okA_of rfl rfl (by decide)) (by decide) (G_m e_2 ?_)
    refine g_goto (tgt := 18) C dL_rank_9 (by decide) ?_
    refine g_iconst (v := (0 : Int32)) C dL_rank_18 (by decide) ?_
    obtain rfl := Option.some.inj h
    exact hE 19 _ dL_rank_19
  · replace h : (if e_1 = 2 then some ((1 : Int32), m_1) else if e_1 = 3 then some ((2 : Int32), m_1) else none) = some b := h
    by_cases c9_2 : e_1 = 2
    · replace h := it_t c9_2 h
      subst c9_2
      refine g_xvI_h (mc' := 2) (As := [.int v1]) (a := 0) (ci := 9) C dL_rank_4 mf_X9_rank k_898 rfl (by decide) ⟨by decide, by decide⟩ rfl rfl (Nat.le_of_ble_eq_true rfl) (by decide) rfl (c_X9_rank N (gl Γ) C.2.2.2.2 (gw Γ) v1 m _ hk_1) (gx_catch (hp := []) C hT rfl (fun z hz => nomatch hz) rfl (by decide) k_785 (List.mem_of_getElem? (i := 2) rfl) (fun q9 => ?_))
      refine g_astore_n (lv' := [(3, .ref q9), (0, .ref (oa (gw Γ) 0)), (1, .int v1), (2, .ref (oa (gw Γ) 108))]) C dL_rank_12 rfl (by decide) rfl ?_
      refine g_iconst (v := (1 : Int32)) C dL_rank_13 (by decide) ?_
      obtain rfl := Option.some.inj h
      exact hE 14 _ dL_rank_14
    · replace h := it_f c9_2 h
      by_cases c9_3 : e_1 = 3
      · replace h := it_t c9_3 h
        subst c9_3
        refine g_xvI_h (mc' := 2) (As := [.int v1]) (a := 0) (ci := 9) C dL_rank_4 mf_X9_rank k_898 rfl (by decide) ⟨by decide, by decide⟩ rfl rfl (Nat.le_of_ble_eq_true rfl) (by decide) rfl (c_X9_rank N (gl Γ) C.2.2.2.2 (gw Γ) v1 m _ hk_1) (gx_catch (hp := [(0, 9, 12, 19)]) C hT rfl (fun z hz => by obtain rfl := List.mem_singleton.mp hz; exact ⟨by decide, _, k_785, List.mem_of_getElem? (i := 3) rfl⟩) rfl (by decide) k_829 (List.mem_of_getElem? (i := 3) rfl) (fun q9 => ?_))
        refine g_astore_n (lv' := [(3, .ref q9), (0, .ref (oa (gw Γ) 0)), (1, .int v1), (2, .ref (oa (gw Γ) 108))]) C dL_rank_15 rfl (by decide) rfl ?_
        refine g_iconst (v := (2 : Int32)) C dL_rank_16 (by decide) ?_
        obtain rfl := Option.some.inj h
        exact hE 17 _ dL_rank_17
      · replace h := it_f c9_3 h
        cases h
theorem c_L_rank (N : Nat) (l : Launch) (hst : l.stackTraces = false) (w : Om) (v1 : Int32) (m : Mem) (o : Int32 × Mem) (h : f_L_rank N v1 m = some o) : KW l yL_rank cL_rank 4 [(0, 9, 12, 19), (0, 9, 15, 47)] 8 139 2 w [.ref (oa w 0), .int v1, .ref (oa w 108)] m o.1 o.2 := KW_of hst (by decide +kernel) RL rfl (Nat.le_of_ble_eq_true rfl) (fun Γ hw hl C hT hE => by
  subst hw; subst hl
  exact t_L_rank N Γ C hT v1 m o h hE)
set_option maxRecDepth 100000 in
set_option maxHeartbeats 4000000 in
theorem t_L_ranked (N : Nat) (Γ : Gc) (C : Cx Γ cL_ranked 5 RL (rmK 8 141 2)) (hT : (gc Γ).exceptionTable.toList = tableOf [(0, 10, 13, 19)]) (v1 : Int32) (v2 : Int32) (m : Mem) (b : Int32 × Mem) (h : f_L_ranked N v1 v2 m = some b) (hE : EWn Γ 5 cL_ranked 2 b) : G Γ 5 0 m 0 [(0, .ref (oa (gw Γ) 0)), (1, .int v1), (2, .int v2), (3, .ref (oa (gw Γ) 108))] [] := by
  unfold f_L_ranked at h
  refine g_aload_n C dL_ranked_0 3 rfl rfl ?_
  refine g_iconst (v := (0 : Int32)) C dL_ranked_1 (by decide) ?_
  refine g_aload_n C dL_ranked_2 0 rfl rfl ?_
  refine g_iload_n C dL_ranked_3 1 rfl rfl ?_
  refine g_iload_n C dL_ranked_4 2 rfl rfl ?_
  rcases xh_some h with ⟨r_1, m_1, hk_1, h⟩ | ⟨e_1, m_1, hk_1, h⟩
  · refine g_xvI_ok (mc' := 2) (As := [.int v1, .int v2]) (a := 0) (ci := 9) C dL_ranked_5 mf_X9_ranked k_904 rfl (by decide) ⟨by decide, by decide⟩ rfl rfl (Nat.le_of_ble_eq_true rfl) (by decide) rfl (c_X9_ranked N (gl Γ) C.2.2.2.2 (gw Γ) v1 v2 m _ hk_1) ?_
    refine g_i2l C dL_ranked_8 ?_
    obtain ⟨m_2, e_2, h⟩ := wr_some h
    refine g_last' (j := 0) C dL_ranked_9 (okA_of rfl rfl (by decide)) (by decide) (G_m e_2 ?_)
    refine g_goto (tgt := 17) C dL_ranked_10 (by decide) ?_
    refine g_iconst (v := (0 : Int32)) C dL_ranked_17 (by decide) ?_
    obtain rfl := Option.some.inj h
    exact hE 18 _ dL_ranked_18
  · replace h : (if e_1 = 2 then some ((1 : Int32), m_1) else none) = some b := h
    by_cases c9_2 : e_1 = 2
    · replace h := it_t c9_2 h
      subst c9_2
      refine g_xvI_h (mc' := 2) (As := [.int v1, .int v2]) (a := 0) (ci := 9) C dL_ranked_5 mf_X9_ranked k_904 rfl (by decide) ⟨by decide, by decide⟩ rfl rfl (Nat.le_of_ble_eq_true rfl) (by decide) rfl (c_X9_ranked N (gl Γ) C.2.2.2.2 (gw Γ) v1 v2 m _ hk_1) (gx_catch (hp := []) C hT rfl (fun z hz => nomatch hz) rfl (by decide) k_785 (List.mem_of_getElem? (i := 2) rfl) (fun q9 => ?_))
      refine g_astore (lv' := [(4, .ref q9), (0, .ref (oa (gw Γ) 0)), (1, .int v1), (2, .int v2), (3, .ref (oa (gw Γ) 108))]) C dL_ranked_13 (by decide) rfl ?_
      refine g_iconst (v := (1 : Int32)) C dL_ranked_15 (by decide) ?_
      obtain rfl := Option.some.inj h
      exact hE 16 _ dL_ranked_16
    · replace h := it_f c9_2 h
      cases h
theorem c_L_ranked (N : Nat) (l : Launch) (hst : l.stackTraces = false) (w : Om) (v1 : Int32) (v2 : Int32) (m : Mem) (o : Int32 × Mem) (h : f_L_ranked N v1 v2 m = some o) : KW l yL_ranked cL_ranked 5 [(0, 10, 13, 19)] 8 141 2 w [.ref (oa w 0), .int v1, .int v2, .ref (oa w 108)] m o.1 o.2 := KW_of hst (by decide +kernel) RL rfl (Nat.le_of_ble_eq_true rfl) (fun Γ hw hl C hT hE => by
  subst hw; subst hl
  exact t_L_ranked N Γ C hT v1 v2 m o h hE)
set_option maxRecDepth 100000 in
set_option maxHeartbeats 4000000 in
theorem t_L_tieRound (N : Nat) (Γ : Gc) (C : Cx Γ cL_tieRound 5 RL (rmK 8 138 4)) (hT : (gc Γ).exceptionTable.toList = tableOf [(0, 10, 13, 19), (0, 10, 17, 25), (0, 10, 21, 47)]) (v1 : Int32) (v2 : Int32) (m : Mem) (b : Int32 × Mem) (h : f_L_tieRound N v1 v2 m = some b) (hE : EWn Γ 5 cL_tieRound 4 b) : G Γ 5 0 m 0 [(0, .ref (oa (gw Γ) 0)), (1, .int v1), (2, .int v2), (3, .ref (oa (gw Γ) 108))] [] := by
  unfold f_L_tieRound at h
  refine g_aload_n C dL_tieRound_0 3 rfl rfl ?_
  refine g_iconst (v := (0 : Int32)) C dL_tieRound_1 (by decide) ?_
  refine g_aload_n C dL_tieRound_2 0 rfl rfl ?_
  refine g_iload_n C dL_tieRound_3 1 rfl rfl ?_
  refine g_iload_n C dL_tieRound_4 2 rfl rfl ?_
  rcases xh_some h with ⟨r_1, m_1, hk_1, h⟩ | ⟨e_1, m_1, hk_1, h⟩
  · refine g_xvI_ok (mc' := 4) (As := [.int v1, .int v2]) (a := 0) (ci := 9) C dL_tieRound_5 mf_X9_tieRound k_910 rfl (by decide) ⟨by decide, by decide⟩ rfl rfl (Nat.le_of_ble_eq_true rfl) (by decide) rfl (c_X9_tieRound N (gl Γ) C.2.2.2.2 (gw Γ) v1 v2 m _ hk_1) ?_
    refine g_i2l C dL_tieRound_8 ?_
    obtain ⟨m_2, e_2, h⟩ := wr_some h
    refine g_last' (j := 0) C dL_tieRound_9 (okA_of rfl rfl (by decide)) (by decide) (G_m e_2 ?_)
    refine g_goto (tgt := 25) C dL_tieRound_10 (by decide) ?_
    refine g_iconst (v := (0 : Int32)) C dL_tieRound_25 (by decide) ?_
    obtain rfl := Option.some.inj h
    exact hE 26 _ dL_tieRound_26
  · replace h : (if e_1 = 2 then some ((1 : Int32), m_1) else if e_1 = 1 then some ((2 : Int32), m_1) else if e_1 = 3 then some ((3 : Int32), m_1) else none) = some b := h
    by_cases c9_2 : e_1 = 2
    · replace h := it_t c9_2 h
      subst c9_2
      refine g_xvI_h (mc' := 4) (As := [.int v1, .int v2]) (a := 0) (ci := 9) C dL_tieRound_5 mf_X9_tieRound k_910 rfl (by decide) ⟨by decide, by decide⟩ rfl rfl (Nat.le_of_ble_eq_true rfl) (by decide) rfl (c_X9_tieRound N (gl Γ) C.2.2.2.2 (gw Γ) v1 v2 m _ hk_1) (gx_catch (hp := []) C hT rfl (fun z hz => nomatch hz) rfl (by decide) k_785 (List.mem_of_getElem? (i := 2) rfl) (fun q9 => ?_))
      refine g_astore (lv' := [(4, .ref q9), (0, .ref (oa (gw Γ) 0)), (1, .int v1), (2, .int v2), (3, .ref (oa (gw Γ) 108))]) C dL_tieRound_13 (by decide) rfl ?_
      refine g_iconst (v := (1 : Int32)) C dL_tieRound_15 (by decide) ?_
      obtain rfl := Option.some.inj h
      exact hE 16 _ dL_tieRound_16
    · replace h := it_f c9_2 h
      by_cases c9_1 : e_1 = 1
      · replace h := it_t c9_1 h
        subst c9_1
        refine g_xvI_h (mc' := 4) (As := [.int v1, .int v2]) (a := 0) (ci := 9) C dL_tieRound_5 mf_X9_tieRound k_910 rfl (by decide) ⟨by decide, by decide⟩ rfl rfl (Nat.le_of_ble_eq_true rfl) (by decide) rfl (c_X9_tieRound N (gl Γ) C.2.2.2.2 (gw Γ) v1 v2 m _ hk_1) (gx_catch (hp := [(0, 10, 13, 19)]) C hT rfl (fun z hz => by obtain rfl := List.mem_singleton.mp hz; exact ⟨by decide, _, k_785, List.mem_of_getElem? (i := 1) rfl⟩) rfl (by decide) k_792 (List.mem_of_getElem? (i := 1) rfl) (fun q9 => ?_))
        refine g_astore (lv' := [(4, .ref q9), (0, .ref (oa (gw Γ) 0)), (1, .int v1), (2, .int v2), (3, .ref (oa (gw Γ) 108))]) C dL_tieRound_17 (by decide) rfl ?_
        refine g_iconst (v := (2 : Int32)) C dL_tieRound_19 (by decide) ?_
        obtain rfl := Option.some.inj h
        exact hE 20 _ dL_tieRound_20
      · replace h := it_f c9_1 h
        by_cases c9_3 : e_1 = 3
        · replace h := it_t c9_3 h
          subst c9_3
          refine g_xvI_h (mc' := 4) (As := [.int v1, .int v2]) (a := 0) (ci := 9) C dL_tieRound_5 mf_X9_tieRound k_910 rfl (by decide) ⟨by decide, by decide⟩ rfl rfl (Nat.le_of_ble_eq_true rfl) (by decide) rfl (c_X9_tieRound N (gl Γ) C.2.2.2.2 (gw Γ) v1 v2 m _ hk_1) (gx_catch (hp := [(0, 10, 13, 19), (0, 10, 17, 25)]) C hT rfl (fun z hz => by
          rcases List.mem_cons.mp hz with rfl | hz
          · exact ⟨by decide, _, k_785, List.mem_of_getElem? (i := 3) rfl⟩
          · obtain rfl := List.mem_singleton.mp hz; exact ⟨by decide, _, k_792, List.mem_of_getElem? (i := 4) rfl⟩) rfl (by decide) k_829 (List.mem_of_getElem? (i := 3) rfl) (fun q9 => ?_))
          refine g_astore (lv' := [(4, .ref q9), (0, .ref (oa (gw Γ) 0)), (1, .int v1), (2, .int v2), (3, .ref (oa (gw Γ) 108))]) C dL_tieRound_21 (by decide) rfl ?_
          refine g_iconst (v := (3 : Int32)) C dL_tieRound_23 (by decide) ?_
          obtain rfl := Option.some.inj h
          exact hE 24 _ dL_tieRound_24
        · replace h := it_f c9_3 h
          cases h
theorem c_L_tieRound (N : Nat) (l : Launch) (hst : l.stackTraces = false) (w : Om) (v1 : Int32) (v2 : Int32) (m : Mem) (o : Int32 × Mem) (h : f_L_tieRound N v1 v2 m = some o) : KW l yL_tieRound cL_tieRound 5 [(0, 10, 13, 19), (0, 10, 17, 25), (0, 10, 21, 47)] 8 138 4 w [.ref (oa w 0), .int v1, .int v2, .ref (oa w 108)] m o.1 o.2 := KW_of hst (by decide +kernel) RL rfl (Nat.le_of_ble_eq_true rfl) (fun Γ hw hl C hT hE => by
  subst hw; subst hl
  exact t_L_tieRound N Γ C hT v1 v2 m o h hE)
set_option maxRecDepth 100000 in
set_option maxHeartbeats 4000000 in
theorem t_L_setLine (N : Nat) (Γ : Gc) (C : Cx Γ cL_setLine 4 RL (rmK 7 124 1)) (hT : (gc Γ).exceptionTable.toList = tableOf [(0, 9, 12, 25)]) (v1 : Int32) (m : Mem) (b : Int32 × Mem) (h : f_L_setLine N v1 m = some b) (hE : EWn Γ 4 cL_setLine 1 b) : G Γ 4 0 m 0 [(0, .ref (oa (gw Γ) 0)), (1, .int v1), (2, .ref (oa (gw Γ) 108))] [] := by
  unfold f_L_setLine at h
  refine g_aload_n C dL_setLine_0 2 rfl rfl ?_
  refine g_iconst (v := (0 : Int32)) C dL_setLine_1 (by decide) ?_
  refine g_aload_n C dL_setLine_2 0 rfl rfl ?_
  refine g_iload_n C dL_setLine_3 1 rfl rfl ?_
  rcases xh_some h with ⟨r_1, m_1, hk_1, h⟩ | ⟨e_1, m_1, hk_1, h⟩
  · refine g_xvI_ok (mc' := 1) (As := [.int v1]) (a := 0) (ci := 9) C dL_setLine_4 mf_X9_setLine k_916 rfl (by decide) ⟨by decide, by decide⟩ rfl rfl (Nat.le_of_ble_eq_true rfl) (by decide) rfl (c_X9_setLine N (gl Γ) C.2.2.2.2 (gw Γ) v1 m _ hk_1) ?_
    refine g_i2l C dL_setLine_7 ?_
    obtain ⟨m_2, e_2, h⟩ := wr_some h
    refine g_last' (j := 0) C dL_setLine_8 (okA_of rfl rfl (by decide)) (by decide) (G_m e_2 ?_)
    refine g_goto (tgt := 15) C dL_setLine_9 (by decide) ?_
    refine g_iconst (v := (0 : Int32)) C dL_setLine_15 (by decide) ?_
    obtain rfl := Option.some.inj h
    exact hE 16 _ dL_setLine_16
  · replace h : (if e_1 = 1 then some ((1 : Int32), m_1) else none) = some b := h
    by_cases c9_1 : e_1 = 1
    · replace h := it_t c9_1 h
      subst c9_1
      refine g_xvI_h (mc' := 1) (As := [.int v1]) (a := 0) (ci := 9) C dL_setLine_4 mf_X9_setLine k_916 rfl (by decide) ⟨by decide, by decide⟩ rfl rfl (Nat.le_of_ble_eq_true rfl) (by decide) rfl (c_X9_setLine N (gl Γ) C.2.2.2.2 (gw Γ) v1 m _ hk_1) (gx_catch (hp := []) C hT rfl (fun z hz => nomatch hz) rfl (by decide) k_792 (List.mem_of_getElem? (i := 1) rfl) (fun q9 => ?_))
      refine g_astore_n (lv' := [(3, .ref q9), (0, .ref (oa (gw Γ) 0)), (1, .int v1), (2, .ref (oa (gw Γ) 108))]) C dL_setLine_12 rfl (by decide) rfl ?_
      refine g_iconst (v := (1 : Int32)) C dL_setLine_13 (by decide) ?_
      obtain rfl := Option.some.inj h
      exact hE 14 _ dL_setLine_14
    · replace h := it_f c9_1 h
      cases h
theorem c_L_setLine (N : Nat) (l : Launch) (hst : l.stackTraces = false) (w : Om) (v1 : Int32) (m : Mem) (o : Int32 × Mem) (h : f_L_setLine N v1 m = some o) : KW l yL_setLine cL_setLine 4 [(0, 9, 12, 25)] 7 124 1 w [.ref (oa w 0), .int v1, .ref (oa w 108)] m o.1 o.2 := KW_of hst (by decide +kernel) RL rfl (Nat.le_of_ble_eq_true rfl) (fun Γ hw hl C hT hE => by
  subst hw; subst hl
  exact t_L_setLine N Γ C hT v1 m o h hE)
set_option maxRecDepth 100000 in
set_option maxHeartbeats 4000000 in
theorem t_L_amount (N : Nat) (Γ : Gc) (C : Cx Γ cL_amount 5 RL (rmK 8 159 2)) (hT : (gc Γ).exceptionTable.toList = tableOf [(0, 10, 13, 25), (0, 10, 17, 19)]) (v1 : Int32) (v2 : Int32) (m : Mem) (b : Int32 × Mem) (h : f_L_amount N v1 v2 m = some b) (hE : EWn Γ 5 cL_amount 2 b) : G Γ 5 0 m 0 [(0, .ref (oa (gw Γ) 0)), (1, .int v1), (2, .int v2), (3, .ref (oa (gw Γ) 108))] [] := by
  unfold f_L_amount at h
  refine g_aload_n C dL_amount_0 3 rfl rfl ?_
  refine g_iconst (v := (0 : Int32)) C dL_amount_1 (by decide) ?_
  refine g_aload_n C dL_amount_2 0 rfl rfl ?_
  refine g_iload_n C dL_amount_3 1 rfl rfl ?_
  refine g_iload_n C dL_amount_4 2 rfl rfl ?_
  rcases xh_some h with ⟨r_1, m_1, hk_1, h⟩ | ⟨e_1, m_1, hk_1, h⟩
  · refine g_xvI_ok (mc' := 2) (As := [.int v1, .int v2]) (a := 0) (ci := 9) C dL_amount_5 mf_X9_amount k_922 rfl (by decide) ⟨by decide, by decide⟩ rfl rfl (Nat.le_of_ble_eq_true rfl) (by decide) rfl (c_X9_amount N (gl Γ) C.2.2.2.2 (gw Γ) v1 v2 m _ hk_1) ?_
    refine g_i2l C dL_amount_8 ?_
    obtain ⟨m_2, e_2, h⟩ := wr_some h
    refine g_last' (j := 0) C dL_amount_9 (okA_of rfl rfl (by decide)) (by decide) (G_m e_2 ?_)
    refine g_goto (tgt := 21) C dL_amount_10 (by decide) ?_
    refine g_iconst (v := (0 : Int32)) C dL_amount_21 (by decide) ?_
    obtain rfl := Option.some.inj h
    exact hE 22 _ dL_amount_22
  · replace h : (if e_1 = 1 then some ((1 : Int32), m_1) else if e_1 = 2 then some ((2 : Int32), m_1) else none) = some b := h
    by_cases c9_1 : e_1 = 1
    · replace h := it_t c9_1 h
      subst c9_1
      refine g_xvI_h (mc' := 2) (As := [.int v1, .int v2]) (a := 0) (ci := 9) C dL_amount_5 mf_X9_amount k_922 rfl (by decide) ⟨by decide, by decide⟩ rfl rfl (Nat.le_of_ble_eq_true rfl) (by decide) rfl (c_X9_amount N (gl Γ) C.2.2.2.2 (gw Γ) v1 v2 m _ hk_1) (gx_catch (hp := []) C hT rfl (fun z hz => nomatch hz) rfl (by decide) k_792 (List.mem_of_getElem? (i := 1) rfl) (fun q9 => ?_))
      refine g_astore (lv' := [(4, .ref q9), (0, .ref (oa (gw Γ) 0)), (1, .int v1), (2, .int v2), (3, .ref (oa (gw Γ) 108))]) C dL_amount_13 (by decide) rfl ?_
      refine g_iconst (v := (1 : Int32)) C dL_amount_15 (by decide) ?_
      obtain rfl := Option.some.inj h
      exact hE 16 _ dL_amount_16
    · replace h := it_f c9_1 h
      by_cases c9_2 : e_1 = 2
      · replace h := it_t c9_2 h
        subst c9_2
        refine g_xvI_h (mc' := 2) (As := [.int v1, .int v2]) (a := 0) (ci := 9) C dL_amount_5 mf_X9_amount k_922 rfl (by decide) ⟨by decide, by decide⟩ rfl rfl (Nat.le_of_ble_eq_true rfl) (by decide) rfl (c_X9_amount N (gl Γ) C.2.2.2.2 (gw Γ) v1 v2 m _ hk_1) (gx_catch (hp := [(0, 10, 13, 25)]) C hT rfl (fun z hz => by obtain rfl := List.mem_singleton.mp hz; exact ⟨by decide, _, k_792, List.mem_of_getElem? (i := 5) rfl⟩) rfl (by decide) k_785 (List.mem_of_getElem? (i := 2) rfl) (fun q9 => ?_))
        refine g_astore (lv' := [(4, .ref q9), (0, .ref (oa (gw Γ) 0)), (1, .int v1), (2, .int v2), (3, .ref (oa (gw Γ) 108))]) C dL_amount_17 (by decide) rfl ?_
        refine g_iconst (v := (2 : Int32)) C dL_amount_19 (by decide) ?_
        obtain rfl := Option.some.inj h
        exact hE 20 _ dL_amount_20
      · replace h := it_f c9_2 h
        cases h
theorem c_L_amount (N : Nat) (l : Launch) (hst : l.stackTraces = false) (w : Om) (v1 : Int32) (v2 : Int32) (m : Mem) (o : Int32 × Mem) (h : f_L_amount N v1 v2 m = some o) : KW l yL_amount cL_amount 5 [(0, 10, 13, 25), (0, 10, 17, 19)] 8 159 2 w [.ref (oa w 0), .int v1, .int v2, .ref (oa w 108)] m o.1 o.2 := KW_of hst (by decide +kernel) RL rfl (Nat.le_of_ble_eq_true rfl) (fun Γ hw hl C hT hE => by
  subst hw; subst hl
  exact t_L_amount N Γ C hT v1 v2 m o h hE)
set_option maxRecDepth 100000 in
set_option maxHeartbeats 4000000 in
theorem t_L_left (N : Nat) (Γ : Gc) (C : Cx Γ cL_left 5 RL (rmK 8 159 2)) (hT : (gc Γ).exceptionTable.toList = tableOf [(0, 10, 13, 25), (0, 10, 17, 19)]) (v1 : Int32) (v2 : Int32) (m : Mem) (b : Int32 × Mem) (h : f_L_left N v1 v2 m = some b) (hE : EWn Γ 5 cL_left 2 b) : G Γ 5 0 m 0 [(0, .ref (oa (gw Γ) 0)), (1, .int v1), (2, .int v2), (3, .ref (oa (gw Γ) 108))] [] := by
  unfold f_L_left at h
  refine g_aload_n C dL_left_0 3 rfl rfl ?_
  refine g_iconst (v := (0 : Int32)) C dL_left_1 (by decide) ?_
  refine g_aload_n C dL_left_2 0 rfl rfl ?_
  refine g_iload_n C dL_left_3 1 rfl rfl ?_
  refine g_iload_n C dL_left_4 2 rfl rfl ?_
  rcases xh_some h with ⟨r_1, m_1, hk_1, h⟩ | ⟨e_1, m_1, hk_1, h⟩
  · refine g_xvI_ok (mc' := 2) (As := [.int v1, .int v2]) (a := 0) (ci := 9) C dL_left_5 mf_X9_left k_928 rfl (by decide) ⟨by decide, by decide⟩ rfl rfl (Nat.le_of_ble_eq_true rfl) (by decide) rfl (c_X9_left N (gl Γ) C.2.2.2.2 (gw Γ) v1 v2 m _ hk_1) ?_
    refine g_i2l C dL_left_8 ?_
    obtain ⟨m_2, e_2, h⟩ := wr_some h
    refine g_last' (j := 0) C dL_left_9 (okA_of rfl rfl (by decide)) (by decide) (G_m e_2 ?_)
    refine g_goto (tgt := 21) C dL_left_10 (by decide) ?_
    refine g_iconst (v := (0 : Int32)) C dL_left_21 (by decide) ?_
    obtain rfl := Option.some.inj h
    exact hE 22 _ dL_left_22
  · replace h : (if e_1 = 1 then some ((1 : Int32), m_1) else if e_1 = 2 then some ((2 : Int32), m_1) else none) = some b := h
    by_cases c9_1 : e_1 = 1
    · replace h := it_t c9_1 h
      subst c9_1
      refine g_xvI_h (mc' := 2) (As := [.int v1, .int v2]) (a := 0) (ci := 9) C dL_left_5 mf_X9_left k_928 rfl (by decide) ⟨by decide, by decide⟩ rfl rfl (Nat.le_of_ble_eq_true rfl) (by decide) rfl (c_X9_left N (gl Γ) C.2.2.2.2 (gw Γ) v1 v2 m _ hk_1) (gx_catch (hp := []) C hT rfl (fun z hz => nomatch hz) rfl (by decide) k_792 (List.mem_of_getElem? (i := 1) rfl) (fun q9 => ?_))
      refine g_astore (lv' := [(4, .ref q9), (0, .ref (oa (gw Γ) 0)), (1, .int v1), (2, .int v2), (3, .ref (oa (gw Γ) 108))]) C dL_left_13 (by decide) rfl ?_
      refine g_iconst (v := (1 : Int32)) C dL_left_15 (by decide) ?_
      obtain rfl := Option.some.inj h
      exact hE 16 _ dL_left_16
    · replace h := it_f c9_1 h
      by_cases c9_2 : e_1 = 2
      · replace h := it_t c9_2 h
        subst c9_2
        refine g_xvI_h (mc' := 2) (As := [.int v1, .int v2]) (a := 0) (ci := 9) C dL_left_5 mf_X9_left k_928 rfl (by decide) ⟨by decide, by decide⟩ rfl rfl (Nat.le_of_ble_eq_true rfl) (by decide) rfl (c_X9_left N (gl Γ) C.2.2.2.2 (gw Γ) v1 v2 m _ hk_1) (gx_catch (hp := [(0, 10, 13, 25)]) C hT rfl (fun z hz => by obtain rfl := List.mem_singleton.mp hz; exact ⟨by decide, _, k_792, List.mem_of_getElem? (i := 5) rfl⟩) rfl (by decide) k_785 (List.mem_of_getElem? (i := 2) rfl) (fun q9 => ?_))
        refine g_astore (lv' := [(4, .ref q9), (0, .ref (oa (gw Γ) 0)), (1, .int v1), (2, .int v2), (3, .ref (oa (gw Γ) 108))]) C dL_left_17 (by decide) rfl ?_
        refine g_iconst (v := (2 : Int32)) C dL_left_19 (by decide) ?_
        obtain rfl := Option.some.inj h
        exact hE 20 _ dL_left_20
      · replace h := it_f c9_2 h
        cases h
theorem c_L_left (N : Nat) (l : Launch) (hst : l.stackTraces = false) (w : Om) (v1 : Int32) (v2 : Int32) (m : Mem) (o : Int32 × Mem) (h : f_L_left N v1 v2 m = some o) : KW l yL_left cL_left 5 [(0, 10, 13, 25), (0, 10, 17, 19)] 8 159 2 w [.ref (oa w 0), .int v1, .int v2, .ref (oa w 108)] m o.1 o.2 := KW_of hst (by decide +kernel) RL rfl (Nat.le_of_ble_eq_true rfl) (fun Γ hw hl C hT hE => by
  subst hw; subst hl
  exact t_L_left N Γ C hT v1 v2 m o h hE)
set_option maxRecDepth 100000 in
set_option maxHeartbeats 4000000 in
theorem t_L_poolLeft (N : Nat) (Γ : Gc) (C : Cx Γ cL_poolLeft 4 RL (rmK 8 158 1)) (hT : (gc Γ).exceptionTable.toList = tableOf [(0, 9, 12, 25)]) (v1 : Int32) (m : Mem) (b : Int32 × Mem) (h : f_L_poolLeft N v1 m = some b) (hE : EWn Γ 4 cL_poolLeft 1 b) : G Γ 4 0 m 0 [(0, .ref (oa (gw Γ) 0)), (1, .int v1), (2, .ref (oa (gw Γ) 108))] [] := by
  unfold f_L_poolLeft at h
  refine g_aload_n C dL_poolLeft_0 2 rfl rfl ?_
  refine g_iconst (v := (0 : Int32)) C dL_poolLeft_1 (by decide) ?_
  refine g_aload_n C dL_poolLeft_2 0 rfl rfl ?_
  refine g_iload_n C dL_poolLeft_3 1 rfl rfl ?_
  rcases xh_some h with ⟨r_1, m_1, hk_1, h⟩ | ⟨e_1, m_1, hk_1, h⟩
  · refine g_xvI_ok (mc' := 1) (As := [.int v1]) (a := 0) (ci := 9) C dL_poolLeft_4 mf_X9_poolLeft k_934 rfl (by decide) ⟨by decide, by decide⟩ rfl rfl (Nat.le_of_ble_eq_true rfl) (by decide) rfl (c_X9_poolLeft N (gl Γ) C.2.2.2.2 (gw Γ) v1 m _ hk_1) ?_
    refine g_i2l C dL_poolLeft_7 ?_
    obtain ⟨m_2, e_2, h⟩ := wr_some h
    refine g_last' (j := 0) C dL_poolLeft_8 (okA_of rfl rfl (by decide)) (by decide) (G_m e_2 ?_)
    refine g_goto (tgt := 15) C dL_poolLeft_9 (by decide) ?_
    refine g_iconst (v := (0 : Int32)) C dL_poolLeft_15 (by decide) ?_
    obtain rfl := Option.some.inj h
    exact hE 16 _ dL_poolLeft_16
  · replace h : (if e_1 = 1 then some ((1 : Int32), m_1) else none) = some b := h
    by_cases c9_1 : e_1 = 1
    · replace h := it_t c9_1 h
      subst c9_1
      refine g_xvI_h (mc' := 1) (As := [.int v1]) (a := 0) (ci := 9) C dL_poolLeft_4 mf_X9_poolLeft k_934 rfl (by decide) ⟨by decide, by decide⟩ rfl rfl (Nat.le_of_ble_eq_true rfl) (by decide) rfl (c_X9_poolLeft N (gl Γ) C.2.2.2.2 (gw Γ) v1 m _ hk_1) (gx_catch (hp := []) C hT rfl (fun z hz => nomatch hz) rfl (by decide) k_792 (List.mem_of_getElem? (i := 1) rfl) (fun q9 => ?_))
      refine g_astore_n (lv' := [(3, .ref q9), (0, .ref (oa (gw Γ) 0)), (1, .int v1), (2, .ref (oa (gw Γ) 108))]) C dL_poolLeft_12 rfl (by decide) rfl ?_
      refine g_iconst (v := (1 : Int32)) C dL_poolLeft_13 (by decide) ?_
      obtain rfl := Option.some.inj h
      exact hE 14 _ dL_poolLeft_14
    · replace h := it_f c9_1 h
      cases h
theorem c_L_poolLeft (N : Nat) (l : Launch) (hst : l.stackTraces = false) (w : Om) (v1 : Int32) (m : Mem) (o : Int32 × Mem) (h : f_L_poolLeft N v1 m = some o) : KW l yL_poolLeft cL_poolLeft 4 [(0, 9, 12, 25)] 8 158 1 w [.ref (oa w 0), .int v1, .ref (oa w 108)] m o.1 o.2 := KW_of hst (by decide +kernel) RL rfl (Nat.le_of_ble_eq_true rfl) (fun Γ hw hl C hT hE => by
  subst hw; subst hl
  exact t_L_poolLeft N Γ C hT v1 m o h hE)
set_option maxRecDepth 100000 in
set_option maxHeartbeats 4000000 in
theorem t_L_funded (N : Nat) (Γ : Gc) (C : Cx Γ cL_funded 4 RL (rmK 8 158 1)) (hT : (gc Γ).exceptionTable.toList = tableOf [(0, 9, 12, 25)]) (v1 : Int32) (m : Mem) (b : Int32 × Mem) (h : f_L_funded N v1 m = some b) (hE : EWn Γ 4 cL_funded 1 b) : G Γ 4 0 m 0 [(0, .ref (oa (gw Γ) 0)), (1, .int v1), (2, .ref (oa (gw Γ) 108))] [] := by
  unfold f_L_funded at h
  refine g_aload_n C dL_funded_0 2 rfl rfl ?_
  refine g_iconst (v := (0 : Int32)) C dL_funded_1 (by decide) ?_
  refine g_aload_n C dL_funded_2 0 rfl rfl ?_
  refine g_iload_n C dL_funded_3 1 rfl rfl ?_
  rcases xh_some h with ⟨r_1, m_1, hk_1, h⟩ | ⟨e_1, m_1, hk_1, h⟩
  · refine g_xvI_ok (mc' := 1) (As := [.int v1]) (a := 0) (ci := 9) C dL_funded_4 mf_X9_funded k_940 rfl (by decide) ⟨by decide, by decide⟩ rfl rfl (Nat.le_of_ble_eq_true rfl) (by decide) rfl (c_X9_funded N (gl Γ) C.2.2.2.2 (gw Γ) v1 m _ hk_1) ?_
    refine g_i2l C dL_funded_7 ?_
    obtain ⟨m_2, e_2, h⟩ := wr_some h
    refine g_last' (j := 0) C dL_funded_8 (okA_of rfl rfl (by decide)) (by decide) (G_m e_2 ?_)
    refine g_goto (tgt := 15) C dL_funded_9 (by decide) ?_
    refine g_iconst (v := (0 : Int32)) C dL_funded_15 (by decide) ?_
    obtain rfl := Option.some.inj h
    exact hE 16 _ dL_funded_16
  · replace h : (if e_1 = 1 then some ((1 : Int32), m_1) else none) = some b := h
    by_cases c9_1 : e_1 = 1
    · replace h := it_t c9_1 h
      subst c9_1
      refine g_xvI_h (mc' := 1) (As := [.int v1]) (a := 0) (ci := 9) C dL_funded_4 mf_X9_funded k_940 rfl (by decide) ⟨by decide, by decide⟩ rfl rfl (Nat.le_of_ble_eq_true rfl) (by decide) rfl (c_X9_funded N (gl Γ) C.2.2.2.2 (gw Γ) v1 m _ hk_1) (gx_catch (hp := []) C hT rfl (fun z hz => nomatch hz) rfl (by decide) k_792 (List.mem_of_getElem? (i := 1) rfl) (fun q9 => ?_))
      refine g_astore_n (lv' := [(3, .ref q9), (0, .ref (oa (gw Γ) 0)), (1, .int v1), (2, .ref (oa (gw Γ) 108))]) C dL_funded_12 rfl (by decide) rfl ?_
      refine g_iconst (v := (1 : Int32)) C dL_funded_13 (by decide) ?_
      obtain rfl := Option.some.inj h
      exact hE 14 _ dL_funded_14
    · replace h := it_f c9_1 h
      cases h
theorem c_L_funded (N : Nat) (l : Launch) (hst : l.stackTraces = false) (w : Om) (v1 : Int32) (m : Mem) (o : Int32 × Mem) (h : f_L_funded N v1 m = some o) : KW l yL_funded cL_funded 4 [(0, 9, 12, 25)] 8 158 1 w [.ref (oa w 0), .int v1, .ref (oa w 108)] m o.1 o.2 := KW_of hst (by decide +kernel) RL rfl (Nat.le_of_ble_eq_true rfl) (fun Γ hw hl C hT hE => by
  subst hw; subst hl
  exact t_L_funded N Γ C hT v1 m o h hE)
set_option maxRecDepth 100000 in
set_option maxHeartbeats 4000000 in
theorem t_L_bestSum (N : Nat) (Γ : Gc) (C : Cx Γ cL_bestSum 4 RL (rmK 8 139 1)) (hT : (gc Γ).exceptionTable.toList = tableOf [(0, 9, 12, 19)]) (v1 : Int32) (m : Mem) (b : Int32 × Mem) (h : f_L_bestSum N v1 m = some b) (hE : EWn Γ 4 cL_bestSum 1 b) : G Γ 4 0 m 0 [(0, .ref (oa (gw Γ) 0)), (1, .int v1), (2, .ref (oa (gw Γ) 108))] [] := by
  unfold f_L_bestSum at h
  refine g_aload_n C dL_bestSum_0 2 rfl rfl ?_
  refine g_iconst (v := (0 : Int32)) C dL_bestSum_1 (by decide) ?_
  refine g_aload_n C dL_bestSum_2 0 rfl rfl ?_
  refine g_iload_n C dL_bestSum_3 1 rfl rfl ?_
  rcases xh_some h with ⟨r_1, m_1, hk_1, h⟩ | ⟨e_1, m_1, hk_1, h⟩
  · refine g_xvI_ok (mc' := 1) (As := [.int v1]) (a := 0) (ci := 9) C dL_bestSum_4 mf_X9_bestSum k_946 rfl (by decide) ⟨by decide, by decide⟩ rfl rfl (Nat.le_of_ble_eq_true rfl) (by decide) rfl (c_X9_bestSum N (gl Γ) C.2.2.2.2 (gw Γ) v1 m _ hk_1) ?_
    refine g_i2l C dL_bestSum_7 ?_
    obtain ⟨m_2, e_2, h⟩ := wr_some h
    refine g_last' (j := 0) C dL_bestSum_8 (okA_of rfl rfl (by decide)) (by decide) (G_m e_2 ?_)
    refine g_goto (tgt := 15) C dL_bestSum_9 (by decide) ?_
    refine g_iconst (v := (0 : Int32)) C dL_bestSum_15 (by decide) ?_
    obtain rfl := Option.some.inj h
    exact hE 16 _ dL_bestSum_16
  · replace h : (if e_1 = 2 then some ((1 : Int32), m_1) else none) = some b := h
    by_cases c9_2 : e_1 = 2
    · replace h := it_t c9_2 h
      subst c9_2
      refine g_xvI_h (mc' := 1) (As := [.int v1]) (a := 0) (ci := 9) C dL_bestSum_4 mf_X9_bestSum k_946 rfl (by decide) ⟨by decide, by decide⟩ rfl rfl (Nat.le_of_ble_eq_true rfl) (by decide) rfl (c_X9_bestSum N (gl Γ) C.2.2.2.2 (gw Γ) v1 m _ hk_1) (gx_catch (hp := []) C hT rfl (fun z hz => nomatch hz) rfl (by decide) k_785 (List.mem_of_getElem? (i := 2) rfl) (fun q9 => ?_))
      refine g_astore_n (lv' := [(3, .ref q9), (0, .ref (oa (gw Γ) 0)), (1, .int v1), (2, .ref (oa (gw Γ) 108))]) C dL_bestSum_12 rfl (by decide) rfl ?_
      refine g_iconst (v := (1 : Int32)) C dL_bestSum_13 (by decide) ?_
      obtain rfl := Option.some.inj h
      exact hE 14 _ dL_bestSum_14
    · replace h := it_f c9_2 h
      cases h
theorem c_L_bestSum (N : Nat) (l : Launch) (hst : l.stackTraces = false) (w : Om) (v1 : Int32) (m : Mem) (o : Int32 × Mem) (h : f_L_bestSum N v1 m = some o) : KW l yL_bestSum cL_bestSum 4 [(0, 9, 12, 19)] 8 139 1 w [.ref (oa w 0), .int v1, .ref (oa w 108)] m o.1 o.2 := KW_of hst (by decide +kernel) RL rfl (Nat.le_of_ble_eq_true rfl) (fun Γ hw hl C hT hE => by
  subst hw; subst hl
  exact t_L_bestSum N Γ C hT v1 m o h hE)
set_option maxRecDepth 100000 in
set_option maxHeartbeats 4000000 in
theorem t_L_lineFor (N : Nat) (Γ : Gc) (C : Cx Γ cL_lineFor 5 RL (rmK 8 140 2)) (hT : (gc Γ).exceptionTable.toList = tableOf [(0, 10, 13, 25)]) (v1 : Int32) (v2 : Int32) (m : Mem) (b : Int32 × Mem) (h : f_L_lineFor N v1 v2 m = some b) (hE : EWn Γ 5 cL_lineFor 2 b) : G Γ 5 0 m 0 [(0, .ref (oa (gw Γ) 0)), (1, .int v1), (2, .int v2), (3, .ref (oa (gw Γ) 108))] [] := by
  unfold f_L_lineFor at h
  refine g_aload_n C dL_lineFor_0 3 rfl rfl ?_
  refine g_iconst (v := (0 : Int32)) C dL_lineFor_1 (by decide) ?_
  refine g_aload_n C dL_lineFor_2 0 rfl rfl ?_
  refine g_iload_n C dL_lineFor_3 1 rfl rfl ?_
  refine g_iload_n C dL_lineFor_4 2 rfl rfl ?_
  rcases xh_some h with ⟨r_1, m_1, hk_1, h⟩ | ⟨e_1, m_1, hk_1, h⟩
  · refine g_xvI_ok (mc' := 2) (As := [.int v1, .int v2]) (a := 0) (ci := 9) C dL_lineFor_5 mf_X9_lineFor k_952 rfl (by decide) ⟨by decide, by decide⟩ rfl rfl (Nat.le_of_ble_eq_true rfl) (by decide) rfl (c_X9_lineFor N (gl Γ) C.2.2.2.2 (gw Γ) v1 v2 m _ hk_1) ?_
    refine g_i2l C dL_lineFor_8 ?_
    obtain ⟨m_2, e_2, h⟩ := wr_some h
    refine g_last' (j := 0) C dL_lineFor_9 (okA_of rfl rfl (by decide)) (by decide) (G_m e_2 ?_)
    refine g_goto (tgt := 17) C dL_lineFor_10 (by decide) ?_
    refine g_iconst (v := (0 : Int32)) C dL_lineFor_17 (by decide) ?_
    obtain rfl := Option.some.inj h
    exact hE 18 _ dL_lineFor_18
  · replace h : (if e_1 = 1 then some ((1 : Int32), m_1) else none) = some b := h
    by_cases c9_1 : e_1 = 1
    · replace h := it_t c9_1 h
      subst c9_1
      refine g_xvI_h (mc' := 2) (As := [.int v1, .int v2]) (a := 0) (ci := 9) C dL_lineFor_5 mf_X9_lineFor k_952 rfl (by decide) ⟨by decide, by decide⟩ rfl rfl (Nat.le_of_ble_eq_true rfl) (by decide) rfl (c_X9_lineFor N (gl Γ) C.2.2.2.2 (gw Γ) v1 v2 m _ hk_1) (gx_catch (hp := []) C hT rfl (fun z hz => nomatch hz) rfl (by decide) k_792 (List.mem_of_getElem? (i := 1) rfl) (fun q9 => ?_))
      refine g_astore (lv' := [(4, .ref q9), (0, .ref (oa (gw Γ) 0)), (1, .int v1), (2, .int v2), (3, .ref (oa (gw Γ) 108))]) C dL_lineFor_13 (by decide) rfl ?_
      refine g_iconst (v := (1 : Int32)) C dL_lineFor_15 (by decide) ?_
      obtain rfl := Option.some.inj h
      exact hE 16 _ dL_lineFor_16
    · replace h := it_f c9_1 h
      cases h
theorem c_L_lineFor (N : Nat) (l : Launch) (hst : l.stackTraces = false) (w : Om) (v1 : Int32) (v2 : Int32) (m : Mem) (o : Int32 × Mem) (h : f_L_lineFor N v1 v2 m = some o) : KW l yL_lineFor cL_lineFor 5 [(0, 10, 13, 25)] 8 140 2 w [.ref (oa w 0), .int v1, .int v2, .ref (oa w 108)] m o.1 o.2 := KW_of hst (by decide +kernel) RL rfl (Nat.le_of_ble_eq_true rfl) (fun Γ hw hl C hT hE => by
  subst hw; subst hl
  exact t_L_lineFor N Γ C hT v1 v2 m o h hE)
set_option maxRecDepth 100000 in
set_option maxHeartbeats 4000000 in
theorem t_L_appeal_16 (N : Nat) (Γ : Gc) (C : Cx Γ cL_appeal 5 RL (rmK 9 158 4)) (hT : (gc Γ).exceptionTable.toList = tableOf [(0, 17, 20, 19), (0, 17, 24, 47), (0, 17, 28, 13)]) (b : Int32 × Mem) (hE : EWn Γ 5 cL_appeal 4 b) (s0 : Int64) (s1 : Int32) (m : Mem) (h : B_L_appeal_16 N s0 s1 m = some b) : G Γ 5 4 m 16 [] [.long s0, .int s1, .ref (oa (gw Γ) 108)] := by
  unfold B_L_appeal_16 at h
  obtain ⟨g_2, h⟩ := gd_some h
  obtain ⟨m_3, e_3, h⟩ := wr_some h
  refine g_last C dL_appeal_16 (okA_of rfl rfl g_2) (G_m e_3 ?_)
  refine g_goto (tgt := 32) C dL_appeal_17 (by decide) ?_
  refine g_iconst (v := (0 : Int32)) C dL_appeal_32 (by decide) ?_
  obtain rfl := Option.some.inj h
  exact hE 33 _ dL_appeal_33
set_option maxRecDepth 100000 in
set_option maxHeartbeats 4000000 in
theorem t_L_appeal (N : Nat) (Γ : Gc) (C : Cx Γ cL_appeal 5 RL (rmK 9 158 4)) (hT : (gc Γ).exceptionTable.toList = tableOf [(0, 17, 20, 19), (0, 17, 24, 47), (0, 17, 28, 13)]) (v1 : Int32) (v2 : Int32) (m : Mem) (b : Int32 × Mem) (h : f_L_appeal N v1 v2 m = some b) (hE : EWn Γ 5 cL_appeal 4 b) : G Γ 5 0 m 0 [(0, .ref (oa (gw Γ) 0)), (1, .int v1), (2, .int v2), (3, .ref (oa (gw Γ) 108))] [] := by
  unfold f_L_appeal at h
  refine g_aload_n C dL_appeal_0 3 rfl rfl ?_
  refine g_iconst (v := (0 : Int32)) C dL_appeal_1 (by decide) ?_
  refine g_aload_n C dL_appeal_2 0 rfl rfl ?_
  refine g_iload_n C dL_appeal_3 1 rfl rfl ?_
  refine g_iload_n C dL_appeal_4 2 rfl rfl ?_
  rcases xh_some h with ⟨r_1, m_1, hk_1, h⟩ | ⟨e_1, m_1, hk_1, h⟩
  · refine g_xvI_ok (mc' := 4) (As := [.int v1, .int v2]) (a := 0) (ci := 9) C dL_appeal_5 mf_X9_appeal k_958 rfl (by decide) ⟨by decide, by decide⟩ rfl rfl (Nat.le_of_ble_eq_true rfl) (by decide) rfl (c_X9_appeal N (gl Γ) C.2.2.2.2 (gw Γ) v1 v2 m _ hk_1) ?_
    refine g_if_eq (tgt := 15) C dL_appeal_8 (by decide) (fun c_4 => ?_) (fun c_4 => ?_)
    · replace h := it_t c_4 h
      refine g_lconst (v := (0 : Int64)) C dL_appeal_15 (by decide) ?_
      refine g_sub [] rfl ?_
      exact t_L_appeal_16 N Γ C hT b hE (0 : Int64) (0 : Int32) m_1 h
    · replace h := it_f c_4 h
      refine g_lconst (v := (1 : Int64)) C dL_appeal_11 (by decide) ?_
      refine g_goto (tgt := 16) C dL_appeal_12 (by decide) ?_
      refine g_sub [] rfl ?_
      exact t_L_appeal_16 N Γ C hT b hE (1 : Int64) (0 : Int32) m_1 h
  · replace h : (if e_1 = 2 then some ((1 : Int32), m_1) else if e_1 = 3 then some ((2 : Int32), m_1) else if e_1 = 0 then some ((3 : Int32), m_1) else none) = some b := h
    by_cases c9_2 : e_1 = 2
    · replace h := it_t c9_2 h
      subst c9_2
      refine g_xvI_h (mc' := 4) (As := [.int v1, .int v2]) (a := 0) (ci := 9) C dL_appeal_5 mf_X9_appeal k_958 rfl (by decide) ⟨by decide, by decide⟩ rfl rfl (Nat.le_of_ble_eq_true rfl) (by decide) rfl (c_X9_appeal N (gl Γ) C.2.2.2.2 (gw Γ) v1 v2 m _ hk_1) (gx_catch (hp := []) C hT rfl (fun z hz => nomatch hz) rfl (by decide) k_785 (List.mem_of_getElem? (i := 2) rfl) (fun q9 => ?_))
      refine g_astore (lv' := [(4, .ref q9), (0, .ref (oa (gw Γ) 0)), (1, .int v1), (2, .int v2), (3, .ref (oa (gw Γ) 108))]) C dL_appeal_20 (by decide) rfl ?_
      refine g_iconst (v := (1 : Int32)) C dL_appeal_22 (by decide) ?_
      obtain rfl := Option.some.inj h
      exact hE 23 _ dL_appeal_23
    · replace h := it_f c9_2 h
      by_cases c9_3 : e_1 = 3
      · replace h := it_t c9_3 h
        subst c9_3
        refine g_xvI_h (mc' := 4) (As := [.int v1, .int v2]) (a := 0) (ci := 9) C dL_appeal_5 mf_X9_appeal k_958 rfl (by decide) ⟨by decide, by decide⟩ rfl rfl (Nat.le_of_ble_eq_true rfl) (by decide) rfl (c_X9_appeal N (gl Γ) C.2.2.2.2 (gw Γ) v1 v2 m _ hk_1) (gx_catch (hp := [(0, 17, 20, 19)]) C hT rfl (fun z hz => by obtain rfl := List.mem_singleton.mp hz; exact ⟨by decide, _, k_785, List.mem_of_getElem? (i := 3) rfl⟩) rfl (by decide) k_829 (List.mem_of_getElem? (i := 3) rfl) (fun q9 => ?_))
        refine g_astore (lv' := [(4, .ref q9), (0, .ref (oa (gw Γ) 0)), (1, .int v1), (2, .int v2), (3, .ref (oa (gw Γ) 108))]) C dL_appeal_24 (by decide) rfl ?_
        refine g_iconst (v := (2 : Int32)) C dL_appeal_26 (by decide) ?_
        obtain rfl := Option.some.inj h
        exact hE 27 _ dL_appeal_27
      · replace h := it_f c9_3 h
        by_cases c9_0 : e_1 = 0
        · replace h := it_t c9_0 h
          subst c9_0
          refine g_xvI_h (mc' := 4) (As := [.int v1, .int v2]) (a := 0) (ci := 9) C dL_appeal_5 mf_X9_appeal k_958 rfl (by decide) ⟨by decide, by decide⟩ rfl rfl (Nat.le_of_ble_eq_true rfl) (by decide) rfl (c_X9_appeal N (gl Γ) C.2.2.2.2 (gw Γ) v1 v2 m _ hk_1) (gx_catch (hp := [(0, 17, 20, 19), (0, 17, 24, 47)]) C hT rfl (fun z hz => by
          rcases List.mem_cons.mp hz with rfl | hz
          · exact ⟨by decide, _, k_785, List.mem_of_getElem? (i := 0) rfl⟩
          · obtain rfl := List.mem_singleton.mp hz; exact ⟨by decide, _, k_829, List.mem_of_getElem? (i := 6) rfl⟩) rfl (by decide) k_777 (List.mem_of_getElem? (i := 0) rfl) (fun q9 => ?_))
          refine g_astore (lv' := [(4, .ref q9), (0, .ref (oa (gw Γ) 0)), (1, .int v1), (2, .int v2), (3, .ref (oa (gw Γ) 108))]) C dL_appeal_28 (by decide) rfl ?_
          refine g_iconst (v := (3 : Int32)) C dL_appeal_30 (by decide) ?_
          obtain rfl := Option.some.inj h
          exact hE 31 _ dL_appeal_31
        · replace h := it_f c9_0 h
          cases h
theorem c_L_appeal (N : Nat) (l : Launch) (hst : l.stackTraces = false) (w : Om) (v1 : Int32) (v2 : Int32) (m : Mem) (o : Int32 × Mem) (h : f_L_appeal N v1 v2 m = some o) : KW l yL_appeal cL_appeal 5 [(0, 17, 20, 19), (0, 17, 24, 47), (0, 17, 28, 13)] 9 158 4 w [.ref (oa w 0), .int v1, .int v2, .ref (oa w 108)] m o.1 o.2 := KW_of hst (by decide +kernel) RL rfl (Nat.le_of_ble_eq_true rfl) (fun Γ hw hl C hT hE => by
  subst hw; subst hl
  exact t_L_appeal N Γ C hT v1 v2 m o h hE)
set_option maxRecDepth 100000 in
set_option maxHeartbeats 4000000 in
theorem t_L_undo (N : Nat) (Γ : Gc) (C : Cx Γ cL_undo 3 RL (rmK 7 122 1)) (hT : (gc Γ).exceptionTable.toList = tableOf [(0, 8, 11, 13)])  (m : Mem) (b : Int32 × Mem) (h : f_L_undo N  m = some b) (hE : EWn Γ 3 cL_undo 1 b) : G Γ 3 0 m 0 [(0, .ref (oa (gw Γ) 0)), (1, .ref (oa (gw Γ) 108))] [] := by
  unfold f_L_undo at h
  refine g_aload_n C dL_undo_0 1 rfl rfl ?_
  refine g_iconst (v := (0 : Int32)) C dL_undo_1 (by decide) ?_
  refine g_aload_n C dL_undo_2 0 rfl rfl ?_
  rcases xh_some h with ⟨r_1, m_1, hk_1, h⟩ | ⟨e_1, m_1, hk_1, h⟩
  · refine g_xvI_ok (mc' := 1) (As := []) (a := 0) (ci := 9) C dL_undo_3 mf_X9_undo k_964 rfl (by decide) ⟨by decide, by decide⟩ rfl rfl (Nat.le_of_ble_eq_true rfl) (by decide) rfl (c_X9_undo N (gl Γ) C.2.2.2.2 (gw Γ)  m _ hk_1) ?_
    refine g_i2l C dL_undo_6 ?_
    obtain ⟨m_2, e_2, h⟩ := wr_some h
    refine g_last' (j := 0) C dL_undo_7 (okA_of rfl rfl (by decide)) (by decide) (G_m e_2 ?_)
    refine g_goto (tgt := 14) C dL_undo_8 (by decide) ?_
    refine g_iconst (v := (0 : Int32)) C dL_undo_14 (by decide) ?_
    obtain rfl := Option.some.inj h
    exact hE 15 _ dL_undo_15
  · replace h : (if e_1 = 0 then some ((1 : Int32), m_1) else none) = some b := h
    by_cases c9_0 : e_1 = 0
    · replace h := it_t c9_0 h
      subst c9_0
      refine g_xvI_h (mc' := 1) (As := []) (a := 0) (ci := 9) C dL_undo_3 mf_X9_undo k_964 rfl (by decide) ⟨by decide, by decide⟩ rfl rfl (Nat.le_of_ble_eq_true rfl) (by decide) rfl (c_X9_undo N (gl Γ) C.2.2.2.2 (gw Γ)  m _ hk_1) (gx_catch (hp := []) C hT rfl (fun z hz => nomatch hz) rfl (by decide) k_777 (List.mem_of_getElem? (i := 0) rfl) (fun q9 => ?_))
      refine g_astore_n (lv' := [(2, .ref q9), (0, .ref (oa (gw Γ) 0)), (1, .ref (oa (gw Γ) 108))]) C dL_undo_11 rfl (by decide) rfl ?_
      refine g_iconst (v := (1 : Int32)) C dL_undo_12 (by decide) ?_
      obtain rfl := Option.some.inj h
      exact hE 13 _ dL_undo_13
    · replace h := it_f c9_0 h
      cases h
theorem c_L_undo (N : Nat) (l : Launch) (hst : l.stackTraces = false) (w : Om)  (m : Mem) (o : Int32 × Mem) (h : f_L_undo N  m = some o) : KW l yL_undo cL_undo 3 [(0, 8, 11, 13)] 7 122 1 w [.ref (oa w 0), .ref (oa w 108)] m o.1 o.2 := KW_of hst (by decide +kernel) RL rfl (Nat.le_of_ble_eq_true rfl) (fun Γ hw hl C hT hE => by
  subst hw; subst hl
  exact t_L_undo N Γ C hT  m o h hE)
