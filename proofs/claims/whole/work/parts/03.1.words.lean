theorem q686 : Cond.methodLink RL 112 yX8_told ∈ AL := List.mem_filter.mpr ⟨List.mem_of_getElem? (i := 810) (by decide +kernel), by decide +kernel⟩
theorem q687 : Cond.instanceMethod yX8_told ∈ AL := List.mem_filter.mpr ⟨List.mem_of_getElem? (i := 811) (by decide +kernel), by decide +kernel⟩
theorem q688 : Cond.selects RX8 yX8_told yX8_told ∈ AL := List.mem_filter.mpr ⟨List.mem_of_getElem? (i := 812) (by decide +kernel), by decide +kernel⟩
theorem q689 : Cond.code yX8_told cX8_told 2 (some FieldType.int) ∈ AL := List.mem_filter.mpr ⟨List.mem_of_getElem? (i := 813) (by decide +kernel), by decide +kernel⟩
theorem q690 : Cond.methodLinkNest RX8 238 yX1_inBits RX8 ∈ NL := List.mem_filter.mpr ⟨List.mem_of_getElem? (i := 814) (by decide +kernel), by decide +kernel⟩
theorem q691 : Cond.methodLink RL 116 yX8_odds ∈ AL := List.mem_filter.mpr ⟨List.mem_of_getElem? (i := 815) (by decide +kernel), by decide +kernel⟩
theorem q692 : Cond.instanceMethod yX8_odds ∈ AL := List.mem_filter.mpr ⟨List.mem_of_getElem? (i := 816) (by decide +kernel), by decide +kernel⟩
theorem q693 : Cond.selects RX8 yX8_odds yX8_odds ∈ AL := List.mem_filter.mpr ⟨List.mem_of_getElem? (i := 817) (by decide +kernel), by decide +kernel⟩
theorem q694 : Cond.code yX8_odds cX8_odds 6 (some FieldType.long) ∈ AL := List.mem_filter.mpr ⟨List.mem_of_getElem? (i := 818) (by decide +kernel), by decide +kernel⟩
theorem q695 : Cond.methodLink RX8 241 yX8_harmlessKeeps ∈ AL := List.mem_filter.mpr ⟨List.mem_of_getElem? (i := 819) (by decide +kernel), by decide +kernel⟩
theorem q697 : Cond.instanceMethod yX8_harmlessKeeps ∈ AL := List.mem_filter.mpr ⟨List.mem_of_getElem? (i := 821) (by decide +kernel), by decide +kernel⟩
theorem q698 : Cond.code yX8_harmlessKeeps cX8_harmlessKeeps 5 (some FieldType.int) ∈ AL := List.mem_filter.mpr ⟨List.mem_of_getElem? (i := 822) (by decide +kernel), by decide +kernel⟩
theorem q699 : Cond.methodLink RX8 244 yX8_commonDivisor ∈ AL := List.mem_filter.mpr ⟨List.mem_of_getElem? (i := 823) (by decide +kernel), by decide +kernel⟩
theorem q700 : Cond.static yX8_commonDivisor ∈ AL := List.mem_filter.mpr ⟨List.mem_of_getElem? (i := 824) (by decide +kernel), by decide +kernel⟩
theorem q701 : Cond.code yX8_commonDivisor cX8_commonDivisor 3 (some FieldType.int) ∈ AL := List.mem_filter.mpr ⟨List.mem_of_getElem? (i := 825) (by decide +kernel), by decide +kernel⟩
theorem q702 : Cond.methodLink RX8 247 yJ9_max_7cf53 ∈ AL := List.mem_filter.mpr ⟨List.mem_of_getElem? (i := 826) (by decide +kernel), by decide +kernel⟩
theorem q703 : Cond.methodLink RL 120 yX8_plan ∈ AL := List.mem_filter.mpr ⟨List.mem_of_getElem? (i := 827) (by decide +kernel), by decide +kernel⟩
theorem q704 : Cond.instanceMethod yX8_plan ∈ AL := List.mem_filter.mpr ⟨List.mem_of_getElem? (i := 828) (by decide +kernel), by decide +kernel⟩
theorem q705 : Cond.selects RX8 yX8_plan yX8_plan ∈ AL := List.mem_filter.mpr ⟨List.mem_of_getElem? (i := 829) (by decide +kernel), by decide +kernel⟩
theorem q706 : Cond.code yX8_plan cX8_plan 3 (some FieldType.int) ∈ AL := List.mem_filter.mpr ⟨List.mem_of_getElem? (i := 830) (by decide +kernel), by decide +kernel⟩
theorem q707 : Cond.methodLinkNest RX8 261 yX4_isFull RX8 ∈ NL := List.mem_filter.mpr ⟨List.mem_of_getElem? (i := 831) (by decide +kernel), by decide +kernel⟩
theorem q709 : Cond.instanceMethod yX4_isFull ∈ AL := List.mem_filter.mpr ⟨List.mem_of_getElem? (i := 833) (by decide +kernel), by decide +kernel⟩
theorem q710 : Cond.code yX4_isFull cX4_isFull 1 (some FieldType.boolean) ∈ AL := List.mem_filter.mpr ⟨List.mem_of_getElem? (i := 834) (by decide +kernel), by decide +kernel⟩
theorem q711 : Cond.methodLinkNest RX8 262 yX4_takeRow RX8 ∈ NL := List.mem_filter.mpr ⟨List.mem_of_getElem? (i := 835) (by decide +kernel), by decide +kernel⟩
theorem q713 : Cond.instanceMethod yX4_takeRow ∈ AL := List.mem_filter.mpr ⟨List.mem_of_getElem? (i := 837) (by decide +kernel), by decide +kernel⟩
theorem q714 : Cond.code yX4_takeRow cX4_takeRow 3 (some FieldType.int) ∈ AL := List.mem_filter.mpr ⟨List.mem_of_getElem? (i := 838) (by decide +kernel), by decide +kernel⟩
theorem q715 : Cond.methodLink RL 124 yX8_ends ∈ AL := List.mem_filter.mpr ⟨List.mem_of_getElem? (i := 839) (by decide +kernel), by decide +kernel⟩
theorem q716 : Cond.instanceMethod yX8_ends ∈ AL := List.mem_filter.mpr ⟨List.mem_of_getElem? (i := 840) (by decide +kernel), by decide +kernel⟩
theorem q717 : Cond.selects RX8 yX8_ends yX8_ends ∈ AL := List.mem_filter.mpr ⟨List.mem_of_getElem? (i := 841) (by decide +kernel), by decide +kernel⟩
theorem q718 : Cond.code yX8_ends cX8_ends 2 (some FieldType.int) ∈ AL := List.mem_filter.mpr ⟨List.mem_of_getElem? (i := 842) (by decide +kernel), by decide +kernel⟩
theorem q719 : Cond.methodLinkNest RX8 268 yX5_copyFrom RX8 ∈ NL := List.mem_filter.mpr ⟨List.mem_of_getElem? (i := 843) (by decide +kernel), by decide +kernel⟩
theorem q721 : Cond.instanceMethod yX5_copyFrom ∈ AL := List.mem_filter.mpr ⟨List.mem_of_getElem? (i := 845) (by decide +kernel), by decide +kernel⟩
theorem q722 : Cond.code yX5_copyFrom cX5_copyFrom 3 none ∈ AL := List.mem_filter.mpr ⟨List.mem_of_getElem? (i := 846) (by decide +kernel), by decide +kernel⟩
theorem q723 : Cond.methodLinkNest RX5 47 yX3_copyFrom RX8 ∈ NL := List.mem_filter.mpr ⟨List.mem_of_getElem? (i := 847) (by decide +kernel), by decide +kernel⟩
theorem q725 : Cond.instanceMethod yX3_copyFrom ∈ AL := List.mem_filter.mpr ⟨List.mem_of_getElem? (i := 849) (by decide +kernel), by decide +kernel⟩
theorem q726 : Cond.code yX3_copyFrom cX3_copyFrom 2 none ∈ AL := List.mem_filter.mpr ⟨List.mem_of_getElem? (i := 850) (by decide +kernel), by decide +kernel⟩
theorem q727 : Cond.methodLink RX3 37 ⟨"java/lang/System", "arraycopy", "(Ljava/lang/Object;ILjava/lang/Object;II)V"⟩ ∈ AL := List.mem_filter.mpr ⟨List.mem_of_getElem? (i := 851) (by decide +kernel), by decide +kernel⟩
theorem q728 : Cond.methodLinkNest RX5 51 yX1_copyFrom RX8 ∈ NL := List.mem_filter.mpr ⟨List.mem_of_getElem? (i := 852) (by decide +kernel), by decide +kernel⟩
theorem q730 : Cond.instanceMethod yX1_copyFrom ∈ AL := List.mem_filter.mpr ⟨List.mem_of_getElem? (i := 854) (by decide +kernel), by decide +kernel⟩
theorem q731 : Cond.code yX1_copyFrom cX1_copyFrom 3 none ∈ AL := List.mem_filter.mpr ⟨List.mem_of_getElem? (i := 855) (by decide +kernel), by decide +kernel⟩
theorem q732 : Cond.methodLinkNest RX5 54 yX4_copyFrom RX8 ∈ NL := List.mem_filter.mpr ⟨List.mem_of_getElem? (i := 856) (by decide +kernel), by decide +kernel⟩
theorem q734 : Cond.instanceMethod yX4_copyFrom ∈ AL := List.mem_filter.mpr ⟨List.mem_of_getElem? (i := 858) (by decide +kernel), by decide +kernel⟩
theorem q735 : Cond.code yX4_copyFrom cX4_copyFrom 2 none ∈ AL := List.mem_filter.mpr ⟨List.mem_of_getElem? (i := 859) (by decide +kernel), by decide +kernel⟩
theorem q736 : Cond.methodLink RX4 26 yJ9_min_7cf53 ∈ AL := List.mem_filter.mpr ⟨List.mem_of_getElem? (i := 860) (by decide +kernel), by decide +kernel⟩
theorem q737 : Cond.methodLink RX4 29 ⟨"java/lang/System", "arraycopy", "(Ljava/lang/Object;ILjava/lang/Object;II)V"⟩ ∈ AL := List.mem_filter.mpr ⟨List.mem_of_getElem? (i := 861) (by decide +kernel), by decide +kernel⟩
theorem q738 : Cond.methodLinkNest RX8 272 yX5_followPlan RX8 ∈ NL := List.mem_filter.mpr ⟨List.mem_of_getElem? (i := 862) (by decide +kernel), by decide +kernel⟩
theorem q740 : Cond.instanceMethod yX5_followPlan ∈ AL := List.mem_filter.mpr ⟨List.mem_of_getElem? (i := 864) (by decide +kernel), by decide +kernel⟩
theorem q741 : Cond.code yX5_followPlan cX5_followPlan 2 none ∈ AL := List.mem_filter.mpr ⟨List.mem_of_getElem? (i := 865) (by decide +kernel), by decide +kernel⟩
theorem q742 : Cond.methodLink RX5 74 yX5_follow ∈ AL := List.mem_filter.mpr ⟨List.mem_of_getElem? (i := 866) (by decide +kernel), by decide +kernel⟩
theorem q744 : Cond.instanceMethod yX5_follow ∈ AL := List.mem_filter.mpr ⟨List.mem_of_getElem? (i := 868) (by decide +kernel), by decide +kernel⟩
theorem q745 : Cond.code yX5_follow cX5_follow 3 none ∈ AL := List.mem_filter.mpr ⟨List.mem_of_getElem? (i := 869) (by decide +kernel), by decide +kernel⟩
theorem q746 : Cond.methodLinkNest RX5 78 yX3_compacted RX8 ∈ NL := List.mem_filter.mpr ⟨List.mem_of_getElem? (i := 870) (by decide +kernel), by decide +kernel⟩
theorem q747 : Cond.methodLinkNest RX5 82 yX3_retained RX8 ∈ NL := List.mem_filter.mpr ⟨List.mem_of_getElem? (i := 871) (by decide +kernel), by decide +kernel⟩
theorem q748 : Cond.methodLinkNest RX5 86 yX1_polled RX8 ∈ NL := List.mem_filter.mpr ⟨List.mem_of_getElem? (i := 872) (by decide +kernel), by decide +kernel⟩
theorem q749 : Cond.methodLinkNest RX8 275 yX5_records RX8 ∈ NL := List.mem_filter.mpr ⟨List.mem_of_getElem? (i := 873) (by decide +kernel), by decide +kernel⟩
theorem q751 : Cond.instanceMethod yX5_records ∈ AL := List.mem_filter.mpr ⟨List.mem_of_getElem? (i := 875) (by decide +kernel), by decide +kernel⟩
theorem q752 : Cond.code yX5_records cX5_records 3 (some FieldType.int) ∈ AL := List.mem_filter.mpr ⟨List.mem_of_getElem? (i := 876) (by decide +kernel), by decide +kernel⟩
theorem q753 : Cond.methodLinkNest RX5 60 yX3_records RX8 ∈ NL := List.mem_filter.mpr ⟨List.mem_of_getElem? (i := 877) (by decide +kernel), by decide +kernel⟩
theorem q754 : Cond.methodLink RL 128 yX8_book ∈ AL := List.mem_filter.mpr ⟨List.mem_of_getElem? (i := 878) (by decide +kernel), by decide +kernel⟩
theorem q755 : Cond.instanceMethod yX8_book ∈ AL := List.mem_filter.mpr ⟨List.mem_of_getElem? (i := 879) (by decide +kernel), by decide +kernel⟩
theorem q756 : Cond.selects RX8 yX8_book yX8_book ∈ AL := List.mem_filter.mpr ⟨List.mem_of_getElem? (i := 880) (by decide +kernel), by decide +kernel⟩
theorem q757 : Cond.code yX8_book cX8_book 3 (some FieldType.int) ∈ AL := List.mem_filter.mpr ⟨List.mem_of_getElem? (i := 881) (by decide +kernel), by decide +kernel⟩
theorem q758 : Cond.methodLink RL 132 yX8_looked ∈ AL := List.mem_filter.mpr ⟨List.mem_of_getElem? (i := 882) (by decide +kernel), by decide +kernel⟩
theorem q759 : Cond.instanceMethod yX8_looked ∈ AL := List.mem_filter.mpr ⟨List.mem_of_getElem? (i := 883) (by decide +kernel), by decide +kernel⟩
theorem q760 : Cond.selects RX8 yX8_looked yX8_looked ∈ AL := List.mem_filter.mpr ⟨List.mem_of_getElem? (i := 884) (by decide +kernel), by decide +kernel⟩
theorem q761 : Cond.code yX8_looked cX8_looked 1 (some FieldType.int) ∈ AL := List.mem_filter.mpr ⟨List.mem_of_getElem? (i := 885) (by decide +kernel), by decide +kernel⟩
theorem q762 : Cond.methodLinkNest RX8 279 yX5_firstOtherwise RX8 ∈ NL := List.mem_filter.mpr ⟨List.mem_of_getElem? (i := 886) (by decide +kernel), by decide +kernel⟩
theorem q764 : Cond.instanceMethod yX5_firstOtherwise ∈ AL := List.mem_filter.mpr ⟨List.mem_of_getElem? (i := 888) (by decide +kernel), by decide +kernel⟩
theorem q765 : Cond.code yX5_firstOtherwise cX5_firstOtherwise 2 (some FieldType.int) ∈ AL := List.mem_filter.mpr ⟨List.mem_of_getElem? (i := 889) (by decide +kernel), by decide +kernel⟩
theorem q766 : Cond.methodLinkNest RX5 90 yX3_start RX8 ∈ NL := List.mem_filter.mpr ⟨List.mem_of_getElem? (i := 890) (by decide +kernel), by decide +kernel⟩
theorem q767 : Cond.methodLink RL 136 yX8_keep ∈ AL := List.mem_filter.mpr ⟨List.mem_of_getElem? (i := 891) (by decide +kernel), by decide +kernel⟩
theorem q768 : Cond.instanceMethod yX8_keep ∈ AL := List.mem_filter.mpr ⟨List.mem_of_getElem? (i := 892) (by decide +kernel), by decide +kernel⟩
theorem q769 : Cond.selects RX8 yX8_keep yX8_keep ∈ AL := List.mem_filter.mpr ⟨List.mem_of_getElem? (i := 893) (by decide +kernel), by decide +kernel⟩
theorem q770 : Cond.code yX8_keep cX8_keep 4 (some FieldType.int) ∈ AL := List.mem_filter.mpr ⟨List.mem_of_getElem? (i := 894) (by decide +kernel), by decide +kernel⟩
theorem q771 : Cond.methodLinkNest RX8 282 yX2_filled RX8 ∈ NL := List.mem_filter.mpr ⟨List.mem_of_getElem? (i := 895) (by decide +kernel), by decide +kernel⟩
theorem q773 : Cond.instanceMethod yX2_filled ∈ AL := List.mem_filter.mpr ⟨List.mem_of_getElem? (i := 897) (by decide +kernel), by decide +kernel⟩
theorem q774 : Cond.code yX2_filled cX2_filled 5 (some FieldType.int) ∈ AL := List.mem_filter.mpr ⟨List.mem_of_getElem? (i := 898) (by decide +kernel), by decide +kernel⟩
theorem q775 : Cond.methodLinkNest RX2 33 yX3_has RX8 ∈ NL := List.mem_filter.mpr ⟨List.mem_of_getElem? (i := 899) (by decide +kernel), by decide +kernel⟩
theorem q776 : Cond.methodLink RX2 38 yX2_takeRecord ∈ AL := List.mem_filter.mpr ⟨List.mem_of_getElem? (i := 900) (by decide +kernel), by decide +kernel⟩
theorem q778 : Cond.instanceMethod yX2_takeRecord ∈ AL := List.mem_filter.mpr ⟨List.mem_of_getElem? (i := 902) (by decide +kernel), by decide +kernel⟩
theorem q779 : Cond.code yX2_takeRecord cX2_takeRecord 3 none ∈ AL := List.mem_filter.mpr ⟨List.mem_of_getElem? (i := 903) (by decide +kernel), by decide +kernel⟩
theorem q780 : Cond.methodLink RL 140 yX8_kept ∈ AL := List.mem_filter.mpr ⟨List.mem_of_getElem? (i := 904) (by decide +kernel), by decide +kernel⟩
theorem q781 : Cond.instanceMethod yX8_kept ∈ AL := List.mem_filter.mpr ⟨List.mem_of_getElem? (i := 905) (by decide +kernel), by decide +kernel⟩
theorem q782 : Cond.selects RX8 yX8_kept yX8_kept ∈ AL := List.mem_filter.mpr ⟨List.mem_of_getElem? (i := 906) (by decide +kernel), by decide +kernel⟩
theorem q783 : Cond.code yX8_kept cX8_kept 3 (some FieldType.long) ∈ AL := List.mem_filter.mpr ⟨List.mem_of_getElem? (i := 907) (by decide +kernel), by decide +kernel⟩
theorem q784 : Cond.methodLinkNest RX8 287 yX2_about RX8 ∈ NL := List.mem_filter.mpr ⟨List.mem_of_getElem? (i := 908) (by decide +kernel), by decide +kernel⟩
theorem q786 : Cond.instanceMethod yX2_about ∈ AL := List.mem_filter.mpr ⟨List.mem_of_getElem? (i := 910) (by decide +kernel), by decide +kernel⟩
theorem q787 : Cond.code yX2_about cX2_about 3 (some FieldType.long) ∈ AL := List.mem_filter.mpr ⟨List.mem_of_getElem? (i := 911) (by decide +kernel), by decide +kernel⟩
theorem q788 : Cond.constantLong RX2 44 (-9223372036854775808) ∈ AL := List.mem_filter.mpr ⟨List.mem_of_getElem? (i := 912) (by decide +kernel), by decide +kernel⟩
theorem q789 : Cond.methodLink RL 144 yX8_judge ∈ AL := List.mem_filter.mpr ⟨List.mem_of_getElem? (i := 913) (by decide +kernel), by decide +kernel⟩
theorem q790 : Cond.instanceMethod yX8_judge ∈ AL := List.mem_filter.mpr ⟨List.mem_of_getElem? (i := 914) (by decide +kernel), by decide +kernel⟩
theorem q791 : Cond.selects RX8 yX8_judge yX8_judge ∈ AL := List.mem_filter.mpr ⟨List.mem_of_getElem? (i := 915) (by decide +kernel), by decide +kernel⟩
theorem q792 : Cond.code yX8_judge cX8_judge 4 (some FieldType.int) ∈ AL := List.mem_filter.mpr ⟨List.mem_of_getElem? (i := 916) (by decide +kernel), by decide +kernel⟩
theorem q793 : Cond.methodLink RX8 290 yX8_isTape ∈ AL := List.mem_filter.mpr ⟨List.mem_of_getElem? (i := 917) (by decide +kernel), by decide +kernel⟩
theorem q794 : Cond.static yX8_isTape ∈ AL := List.mem_filter.mpr ⟨List.mem_of_getElem? (i := 918) (by decide +kernel), by decide +kernel⟩
theorem q795 : Cond.code yX8_isTape cX8_isTape 1 (some FieldType.boolean) ∈ AL := List.mem_filter.mpr ⟨List.mem_of_getElem? (i := 919) (by decide +kernel), by decide +kernel⟩
theorem q796 : Cond.methodLinkNest RX8 293 yX6_isNothing RX8 ∈ NL := List.mem_filter.mpr ⟨List.mem_of_getElem? (i := 920) (by decide +kernel), by decide +kernel⟩
theorem q798 : Cond.instanceMethod yX6_isNothing ∈ AL := List.mem_filter.mpr ⟨List.mem_of_getElem? (i := 922) (by decide +kernel), by decide +kernel⟩
theorem q799 : Cond.code yX6_isNothing cX6_isNothing 1 (some FieldType.boolean) ∈ AL := List.mem_filter.mpr ⟨List.mem_of_getElem? (i := 923) (by decide +kernel), by decide +kernel⟩
theorem q800 : Cond.methodLinkNest RX8 299 yX6_judged RX8 ∈ NL := List.mem_filter.mpr ⟨List.mem_of_getElem? (i := 924) (by decide +kernel), by decide +kernel⟩
theorem q802 : Cond.instanceMethod yX6_judged ∈ AL := List.mem_filter.mpr ⟨List.mem_of_getElem? (i := 926) (by decide +kernel), by decide +kernel⟩
theorem q803 : Cond.code yX6_judged cX6_judged 5 (some FieldType.int) ∈ AL := List.mem_filter.mpr ⟨List.mem_of_getElem? (i := 927) (by decide +kernel), by decide +kernel⟩
theorem q804 : Cond.methodLinkNest RX6 33 yX3_has RX8 ∈ NL := List.mem_filter.mpr ⟨List.mem_of_getElem? (i := 928) (by decide +kernel), by decide +kernel⟩
theorem q805 : Cond.methodLink RL 148 yX8_image ∈ AL := List.mem_filter.mpr ⟨List.mem_of_getElem? (i := 929) (by decide +kernel), by decide +kernel⟩
theorem q806 : Cond.instanceMethod yX8_image ∈ AL := List.mem_filter.mpr ⟨List.mem_of_getElem? (i := 930) (by decide +kernel), by decide +kernel⟩
theorem q807 : Cond.selects RX8 yX8_image yX8_image ∈ AL := List.mem_filter.mpr ⟨List.mem_of_getElem? (i := 931) (by decide +kernel), by decide +kernel⟩
theorem q808 : Cond.code yX8_image cX8_image 1 (some FieldType.int) ∈ AL := List.mem_filter.mpr ⟨List.mem_of_getElem? (i := 932) (by decide +kernel), by decide +kernel⟩
theorem q809 : Cond.methodLink RL 152 yX8_undo ∈ AL := List.mem_filter.mpr ⟨List.mem_of_getElem? (i := 933) (by decide +kernel), by decide +kernel⟩
theorem q810 : Cond.instanceMethod yX8_undo ∈ AL := List.mem_filter.mpr ⟨List.mem_of_getElem? (i := 934) (by decide +kernel), by decide +kernel⟩
theorem q811 : Cond.selects RX8 yX8_undo yX8_undo ∈ AL := List.mem_filter.mpr ⟨List.mem_of_getElem? (i := 935) (by decide +kernel), by decide +kernel⟩
theorem q812 : Cond.code yX8_undo cX8_undo 1 (some FieldType.int) ∈ AL := List.mem_filter.mpr ⟨List.mem_of_getElem? (i := 936) (by decide +kernel), by decide +kernel⟩
theorem q813 : Cond.methodLink RL 156 yX8_count ∈ AL := List.mem_filter.mpr ⟨List.mem_of_getElem? (i := 937) (by decide +kernel), by decide +kernel⟩
theorem q814 : Cond.instanceMethod yX8_count ∈ AL := List.mem_filter.mpr ⟨List.mem_of_getElem? (i := 938) (by decide +kernel), by decide +kernel⟩
theorem q815 : Cond.selects RX8 yX8_count yX8_count ∈ AL := List.mem_filter.mpr ⟨List.mem_of_getElem? (i := 939) (by decide +kernel), by decide +kernel⟩
theorem q816 : Cond.code yX8_count cX8_count 2 (some FieldType.int) ∈ AL := List.mem_filter.mpr ⟨List.mem_of_getElem? (i := 940) (by decide +kernel), by decide +kernel⟩
theorem q817 : Cond.methodLinkNest RX8 305 yX1_membersIn RX8 ∈ NL := List.mem_filter.mpr ⟨List.mem_of_getElem? (i := 941) (by decide +kernel), by decide +kernel⟩
theorem q818 : Cond.methodLink RL 160 yX8_tape ∈ AL := List.mem_filter.mpr ⟨List.mem_of_getElem? (i := 942) (by decide +kernel), by decide +kernel⟩
theorem q819 : Cond.instanceMethod yX8_tape ∈ AL := List.mem_filter.mpr ⟨List.mem_of_getElem? (i := 943) (by decide +kernel), by decide +kernel⟩
theorem q820 : Cond.selects RX8 yX8_tape yX8_tape ∈ AL := List.mem_filter.mpr ⟨List.mem_of_getElem? (i := 944) (by decide +kernel), by decide +kernel⟩
theorem q821 : Cond.code yX8_tape cX8_tape 4 (some FieldType.int) ∈ AL := List.mem_filter.mpr ⟨List.mem_of_getElem? (i := 945) (by decide +kernel), by decide +kernel⟩
theorem q822 : Cond.methodLinkNest RX8 308 yX6_empty RX8 ∈ NL := List.mem_filter.mpr ⟨List.mem_of_getElem? (i := 946) (by decide +kernel), by decide +kernel⟩
theorem q824 : Cond.instanceMethod yX6_empty ∈ AL := List.mem_filter.mpr ⟨List.mem_of_getElem? (i := 948) (by decide +kernel), by decide +kernel⟩
theorem q825 : Cond.code yX6_empty cX6_empty 1 none ∈ AL := List.mem_filter.mpr ⟨List.mem_of_getElem? (i := 949) (by decide +kernel), by decide +kernel⟩
theorem q826 : Cond.methodLinkNest RX8 311 yX6_become RX8 ∈ NL := List.mem_filter.mpr ⟨List.mem_of_getElem? (i := 950) (by decide +kernel), by decide +kernel⟩
theorem q828 : Cond.instanceMethod yX6_become ∈ AL := List.mem_filter.mpr ⟨List.mem_of_getElem? (i := 952) (by decide +kernel), by decide +kernel⟩
theorem q829 : Cond.code yX6_become cX6_become 4 none ∈ AL := List.mem_filter.mpr ⟨List.mem_of_getElem? (i := 953) (by decide +kernel), by decide +kernel⟩
theorem q830 : Cond.methodLink RX6 22 yJ9_min_7cf53 ∈ AL := List.mem_filter.mpr ⟨List.mem_of_getElem? (i := 954) (by decide +kernel), by decide +kernel⟩
theorem q831 : Cond.methodLink RL 166 yX8_item ∈ AL := List.mem_filter.mpr ⟨List.mem_of_getElem? (i := 955) (by decide +kernel), by decide +kernel⟩
theorem q832 : Cond.instanceMethod yX8_item ∈ AL := List.mem_filter.mpr ⟨List.mem_of_getElem? (i := 956) (by decide +kernel), by decide +kernel⟩
theorem q833 : Cond.selects RX8 yX8_item yX8_item ∈ AL := List.mem_filter.mpr ⟨List.mem_of_getElem? (i := 957) (by decide +kernel), by decide +kernel⟩
theorem q834 : Cond.code yX8_item cX8_item 5 (some FieldType.int) ∈ AL := List.mem_filter.mpr ⟨List.mem_of_getElem? (i := 958) (by decide +kernel), by decide +kernel⟩
theorem q835 : Cond.methodLinkNest RX8 315 yX6_hasPlace RX8 ∈ NL := List.mem_filter.mpr ⟨List.mem_of_getElem? (i := 959) (by decide +kernel), by decide +kernel⟩
theorem q837 : Cond.instanceMethod yX6_hasPlace ∈ AL := List.mem_filter.mpr ⟨List.mem_of_getElem? (i := 961) (by decide +kernel), by decide +kernel⟩
theorem q838 : Cond.code yX6_hasPlace cX6_hasPlace 2 (some FieldType.boolean) ∈ AL := List.mem_filter.mpr ⟨List.mem_of_getElem? (i := 962) (by decide +kernel), by decide +kernel⟩
theorem q839 : Cond.methodLinkNest RX8 322 yX6_asItem RX8 ∈ NL := List.mem_filter.mpr ⟨List.mem_of_getElem? (i := 963) (by decide +kernel), by decide +kernel⟩
theorem q841 : Cond.instanceMethod yX6_asItem ∈ AL := List.mem_filter.mpr ⟨List.mem_of_getElem? (i := 965) (by decide +kernel), by decide +kernel⟩
theorem q842 : Cond.code yX6_asItem cX6_asItem 3 (some FieldType.long) ∈ AL := List.mem_filter.mpr ⟨List.mem_of_getElem? (i := 966) (by decide +kernel), by decide +kernel⟩
theorem q843 : Cond.methodLink RL 171 yX8_peek ∈ AL := List.mem_filter.mpr ⟨List.mem_of_getElem? (i := 967) (by decide +kernel), by decide +kernel⟩
theorem q844 : Cond.instanceMethod yX8_peek ∈ AL := List.mem_filter.mpr ⟨List.mem_of_getElem? (i := 968) (by decide +kernel), by decide +kernel⟩
theorem q845 : Cond.selects RX8 yX8_peek yX8_peek ∈ AL := List.mem_filter.mpr ⟨List.mem_of_getElem? (i := 969) (by decide +kernel), by decide +kernel⟩
theorem q846 : Cond.code yX8_peek cX8_peek 3 (some FieldType.long) ∈ AL := List.mem_filter.mpr ⟨List.mem_of_getElem? (i := 970) (by decide +kernel), by decide +kernel⟩
theorem q847 : Cond.methodLink RL 175 yX8_shift ∈ AL := List.mem_filter.mpr ⟨List.mem_of_getElem? (i := 971) (by decide +kernel), by decide +kernel⟩
theorem q848 : Cond.instanceMethod yX8_shift ∈ AL := List.mem_filter.mpr ⟨List.mem_of_getElem? (i := 972) (by decide +kernel), by decide +kernel⟩
theorem q849 : Cond.selects RX8 yX8_shift yX8_shift ∈ AL := List.mem_filter.mpr ⟨List.mem_of_getElem? (i := 973) (by decide +kernel), by decide +kernel⟩
theorem q850 : Cond.code yX8_shift cX8_shift 8 (some FieldType.int) ∈ AL := List.mem_filter.mpr ⟨List.mem_of_getElem? (i := 974) (by decide +kernel), by decide +kernel⟩
theorem q851 : Cond.methodLinkNest RX8 326 yX6_hasPlaces RX8 ∈ NL := List.mem_filter.mpr ⟨List.mem_of_getElem? (i := 975) (by decide +kernel), by decide +kernel⟩
theorem q853 : Cond.instanceMethod yX6_hasPlaces ∈ AL := List.mem_filter.mpr ⟨List.mem_of_getElem? (i := 977) (by decide +kernel), by decide +kernel⟩
theorem q854 : Cond.code yX6_hasPlaces cX6_hasPlaces 3 (some FieldType.boolean) ∈ AL := List.mem_filter.mpr ⟨List.mem_of_getElem? (i := 978) (by decide +kernel), by decide +kernel⟩
theorem q855 : Cond.methodLink RX8 330 ⟨"java/lang/System", "arraycopy", "(Ljava/lang/Object;ILjava/lang/Object;II)V"⟩ ∈ AL := List.mem_filter.mpr ⟨List.mem_of_getElem? (i := 979) (by decide +kernel), by decide +kernel⟩
theorem q856 : Cond.classLink RL 10 RX9 ∈ AL := List.mem_filter.mpr ⟨List.mem_of_getElem? (i := 980) (by decide +kernel), by decide +kernel⟩
theorem q857 : Cond.instantiable RX9 17 ∈ AL := List.mem_filter.mpr ⟨List.mem_of_getElem? (i := 981) (by decide +kernel), by decide +kernel⟩
theorem q858 : Cond.methodLink RL 12 yX9_init ∈ AL := List.mem_filter.mpr ⟨List.mem_of_getElem? (i := 982) (by decide +kernel), by decide +kernel⟩
theorem q859 : Cond.instanceMethod yX9_init ∈ AL := List.mem_filter.mpr ⟨List.mem_of_getElem? (i := 983) (by decide +kernel), by decide +kernel⟩
theorem q860 : Cond.code yX9_init cX9_init 2 none ∈ AL := List.mem_filter.mpr ⟨List.mem_of_getElem? (i := 984) (by decide +kernel), by decide +kernel⟩
theorem q861 : Cond.methodLink RX9 5 objectInit ∈ AL := List.mem_filter.mpr ⟨List.mem_of_getElem? (i := 985) (by decide +kernel), by decide +kernel⟩
theorem q862 : Cond.classLink RX9 42 "[[J" ∈ AL := List.mem_filter.mpr ⟨List.mem_of_getElem? (i := 986) (by decide +kernel), by decide +kernel⟩
theorem q863 : Cond.arrayOver (FieldType.array FieldType.long) ∈ NL := List.mem_filter.mpr ⟨List.mem_of_getElem? (i := 987) (by decide +kernel), by decide +kernel⟩
theorem q864 : Cond.methodLink RX9 51 yX9_sets ∈ AL := List.mem_filter.mpr ⟨List.mem_of_getElem? (i := 988) (by decide +kernel), by decide +kernel⟩
theorem q866 : Cond.instanceMethod yX9_sets ∈ AL := List.mem_filter.mpr ⟨List.mem_of_getElem? (i := 990) (by decide +kernel), by decide +kernel⟩
theorem q867 : Cond.code yX9_sets cX9_sets 4 none ∈ AL := List.mem_filter.mpr ⟨List.mem_of_getElem? (i := 991) (by decide +kernel), by decide +kernel⟩
theorem q868 : Cond.fieldLink RX9 11 RX9 "g" "[I" ∈ AL := List.mem_filter.mpr ⟨List.mem_of_getElem? (i := 992) (by decide +kernel), by decide +kernel⟩
theorem q869 : Cond.fieldLink RX9 15 RX9 "saved" "[I" ∈ AL := List.mem_filter.mpr ⟨List.mem_of_getElem? (i := 993) (by decide +kernel), by decide +kernel⟩
theorem q870 : Cond.fieldLink RX9 18 RX9 "kept" "[I" ∈ AL := List.mem_filter.mpr ⟨List.mem_of_getElem? (i := 994) (by decide +kernel), by decide +kernel⟩
theorem q871 : Cond.fieldLink RX9 245 RX9 "isKept" "Z" ∈ AL := List.mem_filter.mpr ⟨List.mem_of_getElem? (i := 995) (by decide +kernel), by decide +kernel⟩
theorem q872 : Cond.fieldLink RX9 21 RX9 "text" "[I" ∈ AL := List.mem_filter.mpr ⟨List.mem_of_getElem? (i := 996) (by decide +kernel), by decide +kernel⟩
theorem q873 : Cond.fieldLink RX9 123 RX9 "textMany" "I" ∈ AL := List.mem_filter.mpr ⟨List.mem_of_getElem? (i := 997) (by decide +kernel), by decide +kernel⟩
theorem q874 : Cond.fieldLink RX9 24 RX9 "told" "[I" ∈ AL := List.mem_filter.mpr ⟨List.mem_of_getElem? (i := 998) (by decide +kernel), by decide +kernel⟩
theorem q875 : Cond.fieldLink RX9 27 RX9 "last" "[I" ∈ AL := List.mem_filter.mpr ⟨List.mem_of_getElem? (i := 999) (by decide +kernel), by decide +kernel⟩
theorem q876 : Cond.fieldLink RX9 30 RX9 "had" "[I" ∈ AL := List.mem_filter.mpr ⟨List.mem_of_getElem? (i := 1000) (by decide +kernel), by decide +kernel⟩
theorem q877 : Cond.fieldLink RX9 239 RX9 "rowMany" "I" ∈ AL := List.mem_filter.mpr ⟨List.mem_of_getElem? (i := 1001) (by decide +kernel), by decide +kernel⟩
theorem q878 : Cond.fieldLink RX9 33 RX9 "row" "[I" ∈ AL := List.mem_filter.mpr ⟨List.mem_of_getElem? (i := 1002) (by decide +kernel), by decide +kernel⟩
theorem q879 : Cond.fieldLink RX9 36 RX9 "tapeSort" "[I" ∈ AL := List.mem_filter.mpr ⟨List.mem_of_getElem? (i := 1003) (by decide +kernel), by decide +kernel⟩
theorem q880 : Cond.fieldLink RX9 39 RX9 "tapeSize" "[I" ∈ AL := List.mem_filter.mpr ⟨List.mem_of_getElem? (i := 1004) (by decide +kernel), by decide +kernel⟩
theorem q881 : Cond.fieldLink RX9 44 RX9 "tapes" "[[J" ∈ AL := List.mem_filter.mpr ⟨List.mem_of_getElem? (i := 1005) (by decide +kernel), by decide +kernel⟩
theorem q882 : Cond.fieldLink RX9 47 RX9 "moved" "[J" ∈ AL := List.mem_filter.mpr ⟨List.mem_of_getElem? (i := 1006) (by decide +kernel), by decide +kernel⟩
theorem q883 : Cond.fieldLink RX9 130 RX9 "spot" "I" ∈ AL := List.mem_filter.mpr ⟨List.mem_of_getElem? (i := 1007) (by decide +kernel), by decide +kernel⟩
theorem q884 : Cond.fieldLink RX9 127 RX9 "fault" "I" ∈ AL := List.mem_filter.mpr ⟨List.mem_of_getElem? (i := 1008) (by decide +kernel), by decide +kernel⟩
theorem q885 : Cond.laysFinal RX9 RX9 "g" "[I" ∈ AL := List.mem_filter.mpr ⟨List.mem_of_getElem? (i := 1009) (by decide +kernel), by decide +kernel⟩
theorem q887 : Cond.laysFinal RX9 RX9 "saved" "[I" ∈ AL := List.mem_filter.mpr ⟨List.mem_of_getElem? (i := 1011) (by decide +kernel), by decide +kernel⟩
theorem q889 : Cond.laysFinal RX9 RX9 "kept" "[I" ∈ AL := List.mem_filter.mpr ⟨List.mem_of_getElem? (i := 1013) (by decide +kernel), by decide +kernel⟩
theorem q891 : Cond.lays RX9 RX9 "isKept" "Z" ∈ AL := List.mem_filter.mpr ⟨List.mem_of_getElem? (i := 1015) (by decide +kernel), by decide +kernel⟩
theorem q893 : Cond.laysFinal RX9 RX9 "text" "[I" ∈ AL := List.mem_filter.mpr ⟨List.mem_of_getElem? (i := 1017) (by decide +kernel), by decide +kernel⟩
theorem q895 : Cond.lays RX9 RX9 "textMany" "I" ∈ AL := List.mem_filter.mpr ⟨List.mem_of_getElem? (i := 1019) (by decide +kernel), by decide +kernel⟩
theorem q897 : Cond.laysFinal RX9 RX9 "told" "[I" ∈ AL := List.mem_filter.mpr ⟨List.mem_of_getElem? (i := 1021) (by decide +kernel), by decide +kernel⟩
theorem q899 : Cond.laysFinal RX9 RX9 "last" "[I" ∈ AL := List.mem_filter.mpr ⟨List.mem_of_getElem? (i := 1023) (by decide +kernel), by decide +kernel⟩
theorem q901 : Cond.laysFinal RX9 RX9 "had" "[I" ∈ AL := List.mem_filter.mpr ⟨List.mem_of_getElem? (i := 1025) (by decide +kernel), by decide +kernel⟩
theorem q903 : Cond.lays RX9 RX9 "rowMany" "I" ∈ AL := List.mem_filter.mpr ⟨List.mem_of_getElem? (i := 1027) (by decide +kernel), by decide +kernel⟩
theorem q905 : Cond.laysFinal RX9 RX9 "row" "[I" ∈ AL := List.mem_filter.mpr ⟨List.mem_of_getElem? (i := 1029) (by decide +kernel), by decide +kernel⟩
theorem q907 : Cond.laysFinal RX9 RX9 "tapeSort" "[I" ∈ AL := List.mem_filter.mpr ⟨List.mem_of_getElem? (i := 1031) (by decide +kernel), by decide +kernel⟩
theorem q909 : Cond.laysFinal RX9 RX9 "tapeSize" "[I" ∈ AL := List.mem_filter.mpr ⟨List.mem_of_getElem? (i := 1033) (by decide +kernel), by decide +kernel⟩
theorem q911 : Cond.laysFinal RX9 RX9 "tapes" "[[J" ∈ AL := List.mem_filter.mpr ⟨List.mem_of_getElem? (i := 1035) (by decide +kernel), by decide +kernel⟩
theorem q913 : Cond.laysFinal RX9 RX9 "moved" "[J" ∈ AL := List.mem_filter.mpr ⟨List.mem_of_getElem? (i := 1037) (by decide +kernel), by decide +kernel⟩
theorem q915 : Cond.lays RX9 RX9 "spot" "I" ∈ AL := List.mem_filter.mpr ⟨List.mem_of_getElem? (i := 1039) (by decide +kernel), by decide +kernel⟩
theorem q917 : Cond.lays RX9 RX9 "fault" "I" ∈ AL := List.mem_filter.mpr ⟨List.mem_of_getElem? (i := 1041) (by decide +kernel), by decide +kernel⟩
theorem q919 : Cond.superclass RX9 "java/lang/Object" ∈ AL := List.mem_filter.mpr ⟨List.mem_of_getElem? (i := 1043) (by decide +kernel), by decide +kernel⟩
theorem q920 : Cond.methodLink RL 17 yX9_put ∈ AL := List.mem_filter.mpr ⟨List.mem_of_getElem? (i := 1044) (by decide +kernel), by decide +kernel⟩
theorem q921 : Cond.instanceMethod yX9_put ∈ AL := List.mem_filter.mpr ⟨List.mem_of_getElem? (i := 1045) (by decide +kernel), by decide +kernel⟩
theorem q922 : Cond.selects RX9 yX9_put yX9_put ∈ AL := List.mem_filter.mpr ⟨List.mem_of_getElem? (i := 1046) (by decide +kernel), by decide +kernel⟩
theorem q923 : Cond.code yX9_put cX9_put 7 (some FieldType.int) ∈ AL := List.mem_filter.mpr ⟨List.mem_of_getElem? (i := 1047) (by decide +kernel), by decide +kernel⟩
theorem q924 : Cond.methodLink RX9 93 yX9_noRecord ∈ AL := List.mem_filter.mpr ⟨List.mem_of_getElem? (i := 1048) (by decide +kernel), by decide +kernel⟩
theorem q926 : Cond.instanceMethod yX9_noRecord ∈ AL := List.mem_filter.mpr ⟨List.mem_of_getElem? (i := 1050) (by decide +kernel), by decide +kernel⟩
theorem q927 : Cond.code yX9_noRecord cX9_noRecord 4 (some FieldType.int) ∈ AL := List.mem_filter.mpr ⟨List.mem_of_getElem? (i := 1051) (by decide +kernel), by decide +kernel⟩
theorem q928 : Cond.methodLink RX9 89 yX9_isLog ∈ AL := List.mem_filter.mpr ⟨List.mem_of_getElem? (i := 1052) (by decide +kernel), by decide +kernel⟩
theorem q929 : Cond.static yX9_isLog ∈ AL := List.mem_filter.mpr ⟨List.mem_of_getElem? (i := 1053) (by decide +kernel), by decide +kernel⟩
theorem q930 : Cond.code yX9_isLog cX9_isLog 1 (some FieldType.boolean) ∈ AL := List.mem_filter.mpr ⟨List.mem_of_getElem? (i := 1054) (by decide +kernel), by decide +kernel⟩
theorem q931 : Cond.methodLink RX9 55 yX9_in ∈ AL := List.mem_filter.mpr ⟨List.mem_of_getElem? (i := 1055) (by decide +kernel), by decide +kernel⟩
theorem q932 : Cond.static yX9_in ∈ AL := List.mem_filter.mpr ⟨List.mem_of_getElem? (i := 1056) (by decide +kernel), by decide +kernel⟩
theorem q933 : Cond.code yX9_in cX9_in 3 (some FieldType.boolean) ∈ AL := List.mem_filter.mpr ⟨List.mem_of_getElem? (i := 1057) (by decide +kernel), by decide +kernel⟩
theorem q934 : Cond.methodLink RX9 59 yX9_at ∈ AL := List.mem_filter.mpr ⟨List.mem_of_getElem? (i := 1058) (by decide +kernel), by decide +kernel⟩
theorem q936 : Cond.instanceMethod yX9_at ∈ AL := List.mem_filter.mpr ⟨List.mem_of_getElem? (i := 1060) (by decide +kernel), by decide +kernel⟩
theorem q937 : Cond.code yX9_at cX9_at 3 (some FieldType.int) ∈ AL := List.mem_filter.mpr ⟨List.mem_of_getElem? (i := 1061) (by decide +kernel), by decide +kernel⟩
theorem q938 : Cond.methodLink RX9 96 yX9_valueOf ∈ AL := List.mem_filter.mpr ⟨List.mem_of_getElem? (i := 1062) (by decide +kernel), by decide +kernel⟩
theorem q939 : Cond.static yX9_valueOf ∈ AL := List.mem_filter.mpr ⟨List.mem_of_getElem? (i := 1063) (by decide +kernel), by decide +kernel⟩
theorem q940 : Cond.code yX9_valueOf cX9_valueOf 2 (some FieldType.int) ∈ AL := List.mem_filter.mpr ⟨List.mem_of_getElem? (i := 1064) (by decide +kernel), by decide +kernel⟩
theorem q941 : Cond.methodLink RX9 83 yJxf58ca_floatToIntBits_5c35a ∈ AL := List.mem_filter.mpr ⟨List.mem_of_getElem? (i := 1065) (by decide +kernel), by decide +kernel⟩
theorem q942 : Cond.static yJxf58ca_floatToIntBits_5c35a ∈ AL := List.mem_filter.mpr ⟨List.mem_of_getElem? (i := 1066) (by decide +kernel), by decide +kernel⟩
theorem q943 : Cond.code yJxf58ca_floatToIntBits_5c35a cJxf58ca_floatToIntBits_5c35a 1 (some FieldType.int) ∈ AL := List.mem_filter.mpr ⟨List.mem_of_getElem? (i := 1067) (by decide +kernel), by decide +kernel⟩
theorem q944 : Cond.methodLink RJxf58ca 59 yJxf58ca_isNaN_12338 ∈ AL := List.mem_filter.mpr ⟨List.mem_of_getElem? (i := 1068) (by decide +kernel), by decide +kernel⟩
theorem q945 : Cond.static yJxf58ca_isNaN_12338 ∈ AL := List.mem_filter.mpr ⟨List.mem_of_getElem? (i := 1069) (by decide +kernel), by decide +kernel⟩
theorem q946 : Cond.code yJxf58ca_isNaN_12338 cJxf58ca_isNaN_12338 1 (some FieldType.boolean) ∈ AL := List.mem_filter.mpr ⟨List.mem_of_getElem? (i := 1070) (by decide +kernel), by decide +kernel⟩
theorem q947 : Cond.methodLink RJxf58ca 74 ⟨"java/lang/Float", "floatToRawIntBits", "(F)I"⟩ ∈ AL := List.mem_filter.mpr ⟨List.mem_of_getElem? (i := 1071) (by decide +kernel), by decide +kernel⟩
theorem q948 : Cond.static ⟨"java/lang/Float", "floatToRawIntBits", "(F)I"⟩ ∈ AL := List.mem_filter.mpr ⟨List.mem_of_getElem? (i := 1072) (by decide +kernel), by decide +kernel⟩
theorem q949 : Cond.native ⟨"java/lang/Float", "floatToRawIntBits", "(F)I"⟩ ∈ AL := List.mem_filter.mpr ⟨List.mem_of_getElem? (i := 1073) (by decide +kernel), by decide +kernel⟩
theorem q950 : Cond.constant RJxf58ca 77 2143289344 ∈ AL := List.mem_filter.mpr ⟨List.mem_of_getElem? (i := 1074) (by decide +kernel), by decide +kernel⟩
theorem q951 : Cond.methodLink RX9 99 yX9_comes ∈ AL := List.mem_filter.mpr ⟨List.mem_of_getElem? (i := 1075) (by decide +kernel), by decide +kernel⟩
theorem q953 : Cond.instanceMethod yX9_comes ∈ AL := List.mem_filter.mpr ⟨List.mem_of_getElem? (i := 1077) (by decide +kernel), by decide +kernel⟩
theorem q954 : Cond.code yX9_comes cX9_comes 8 (some FieldType.int) ∈ AL := List.mem_filter.mpr ⟨List.mem_of_getElem? (i := 1078) (by decide +kernel), by decide +kernel⟩
theorem q955 : Cond.methodLink RX9 77 yX9_manyIn ∈ AL := List.mem_filter.mpr ⟨List.mem_of_getElem? (i := 1079) (by decide +kernel), by decide +kernel⟩
theorem q957 : Cond.instanceMethod yX9_manyIn ∈ AL := List.mem_filter.mpr ⟨List.mem_of_getElem? (i := 1081) (by decide +kernel), by decide +kernel⟩
theorem q958 : Cond.code yX9_manyIn cX9_manyIn 5 (some FieldType.int) ∈ AL := List.mem_filter.mpr ⟨List.mem_of_getElem? (i := 1082) (by decide +kernel), by decide +kernel⟩
theorem q959 : Cond.methodLink RX9 63 yX9_base ∈ AL := List.mem_filter.mpr ⟨List.mem_of_getElem? (i := 1083) (by decide +kernel), by decide +kernel⟩
theorem q961 : Cond.instanceMethod yX9_base ∈ AL := List.mem_filter.mpr ⟨List.mem_of_getElem? (i := 1085) (by decide +kernel), by decide +kernel⟩
theorem q962 : Cond.code yX9_base cX9_base 3 (some FieldType.int) ∈ AL := List.mem_filter.mpr ⟨List.mem_of_getElem? (i := 1086) (by decide +kernel), by decide +kernel⟩
theorem q963 : Cond.methodLink RX9 66 yX9_endOf ∈ AL := List.mem_filter.mpr ⟨List.mem_of_getElem? (i := 1087) (by decide +kernel), by decide +kernel⟩
theorem q965 : Cond.instanceMethod yX9_endOf ∈ AL := List.mem_filter.mpr ⟨List.mem_of_getElem? (i := 1089) (by decide +kernel), by decide +kernel⟩
theorem q966 : Cond.code yX9_endOf cX9_endOf 3 (some FieldType.int) ∈ AL := List.mem_filter.mpr ⟨List.mem_of_getElem? (i := 1090) (by decide +kernel), by decide +kernel⟩
theorem q967 : Cond.methodLink RX9 80 yX9_weightIn ∈ AL := List.mem_filter.mpr ⟨List.mem_of_getElem? (i := 1091) (by decide +kernel), by decide +kernel⟩
theorem q969 : Cond.instanceMethod yX9_weightIn ∈ AL := List.mem_filter.mpr ⟨List.mem_of_getElem? (i := 1093) (by decide +kernel), by decide +kernel⟩
theorem q970 : Cond.code yX9_weightIn cX9_weightIn 3 (some FieldType.int) ∈ AL := List.mem_filter.mpr ⟨List.mem_of_getElem? (i := 1094) (by decide +kernel), by decide +kernel⟩
theorem q971 : Cond.methodLink RX9 69 yX9_weighs ∈ AL := List.mem_filter.mpr ⟨List.mem_of_getElem? (i := 1095) (by decide +kernel), by decide +kernel⟩
theorem q973 : Cond.instanceMethod yX9_weighs ∈ AL := List.mem_filter.mpr ⟨List.mem_of_getElem? (i := 1097) (by decide +kernel), by decide +kernel⟩
theorem q974 : Cond.code yX9_weighs cX9_weighs 6 (some FieldType.int) ∈ AL := List.mem_filter.mpr ⟨List.mem_of_getElem? (i := 1098) (by decide +kernel), by decide +kernel⟩
theorem q975 : Cond.methodLink RL 22 yX9_tomb ∈ AL := List.mem_filter.mpr ⟨List.mem_of_getElem? (i := 1099) (by decide +kernel), by decide +kernel⟩
theorem q976 : Cond.instanceMethod yX9_tomb ∈ AL := List.mem_filter.mpr ⟨List.mem_of_getElem? (i := 1100) (by decide +kernel), by decide +kernel⟩
theorem q977 : Cond.selects RX9 yX9_tomb yX9_tomb ∈ AL := List.mem_filter.mpr ⟨List.mem_of_getElem? (i := 1101) (by decide +kernel), by decide +kernel⟩
theorem q978 : Cond.code yX9_tomb cX9_tomb 5 (some FieldType.int) ∈ AL := List.mem_filter.mpr ⟨List.mem_of_getElem? (i := 1102) (by decide +kernel), by decide +kernel⟩
theorem q979 : Cond.methodLink RL 27 yX9_tick ∈ AL := List.mem_filter.mpr ⟨List.mem_of_getElem? (i := 1103) (by decide +kernel), by decide +kernel⟩
theorem q980 : Cond.instanceMethod yX9_tick ∈ AL := List.mem_filter.mpr ⟨List.mem_of_getElem? (i := 1104) (by decide +kernel), by decide +kernel⟩
theorem q981 : Cond.selects RX9 yX9_tick yX9_tick ∈ AL := List.mem_filter.mpr ⟨List.mem_of_getElem? (i := 1105) (by decide +kernel), by decide +kernel⟩
theorem q982 : Cond.code yX9_tick cX9_tick 2 (some FieldType.int) ∈ AL := List.mem_filter.mpr ⟨List.mem_of_getElem? (i := 1106) (by decide +kernel), by decide +kernel⟩
theorem q983 : Cond.methodLink RL 32 yX9_set ∈ AL := List.mem_filter.mpr ⟨List.mem_of_getElem? (i := 1107) (by decide +kernel), by decide +kernel⟩
theorem q984 : Cond.instanceMethod yX9_set ∈ AL := List.mem_filter.mpr ⟨List.mem_of_getElem? (i := 1108) (by decide +kernel), by decide +kernel⟩
theorem q985 : Cond.selects RX9 yX9_set yX9_set ∈ AL := List.mem_filter.mpr ⟨List.mem_of_getElem? (i := 1109) (by decide +kernel), by decide +kernel⟩
theorem q986 : Cond.code yX9_set cX9_set 4 (some FieldType.int) ∈ AL := List.mem_filter.mpr ⟨List.mem_of_getElem? (i := 1110) (by decide +kernel), by decide +kernel⟩
theorem q987 : Cond.methodLink RL 36 yX9_compact ∈ AL := List.mem_filter.mpr ⟨List.mem_of_getElem? (i := 1111) (by decide +kernel), by decide +kernel⟩
theorem q988 : Cond.instanceMethod yX9_compact ∈ AL := List.mem_filter.mpr ⟨List.mem_of_getElem? (i := 1112) (by decide +kernel), by decide +kernel⟩
theorem q989 : Cond.selects RX9 yX9_compact yX9_compact ∈ AL := List.mem_filter.mpr ⟨List.mem_of_getElem? (i := 1113) (by decide +kernel), by decide +kernel⟩
theorem q990 : Cond.code yX9_compact cX9_compact 2 (some FieldType.int) ∈ AL := List.mem_filter.mpr ⟨List.mem_of_getElem? (i := 1114) (by decide +kernel), by decide +kernel⟩
theorem q991 : Cond.methodLink RX9 117 yX9_compacted ∈ AL := List.mem_filter.mpr ⟨List.mem_of_getElem? (i := 1115) (by decide +kernel), by decide +kernel⟩
theorem q993 : Cond.instanceMethod yX9_compacted ∈ AL := List.mem_filter.mpr ⟨List.mem_of_getElem? (i := 1117) (by decide +kernel), by decide +kernel⟩
theorem q994 : Cond.code yX9_compacted cX9_compacted 6 (some FieldType.int) ∈ AL := List.mem_filter.mpr ⟨List.mem_of_getElem? (i := 1118) (by decide +kernel), by decide +kernel⟩
theorem q995 : Cond.methodLink RX9 103 yX9_hasLater ∈ AL := List.mem_filter.mpr ⟨List.mem_of_getElem? (i := 1119) (by decide +kernel), by decide +kernel⟩
theorem q997 : Cond.instanceMethod yX9_hasLater ∈ AL := List.mem_filter.mpr ⟨List.mem_of_getElem? (i := 1121) (by decide +kernel), by decide +kernel⟩
theorem q998 : Cond.code yX9_hasLater cX9_hasLater 4 (some FieldType.boolean) ∈ AL := List.mem_filter.mpr ⟨List.mem_of_getElem? (i := 1122) (by decide +kernel), by decide +kernel⟩
theorem q999 : Cond.methodLink RX9 107 yX9_partGoes ∈ AL := List.mem_filter.mpr ⟨List.mem_of_getElem? (i := 1123) (by decide +kernel), by decide +kernel⟩
theorem q1001 : Cond.instanceMethod yX9_partGoes ∈ AL := List.mem_filter.mpr ⟨List.mem_of_getElem? (i := 1125) (by decide +kernel), by decide +kernel⟩
theorem q1002 : Cond.code yX9_partGoes cX9_partGoes 5 none ∈ AL := List.mem_filter.mpr ⟨List.mem_of_getElem? (i := 1126) (by decide +kernel), by decide +kernel⟩
theorem q1003 : Cond.methodLink RL 40 yX9_retain ∈ AL := List.mem_filter.mpr ⟨List.mem_of_getElem? (i := 1127) (by decide +kernel), by decide +kernel⟩
theorem q1004 : Cond.instanceMethod yX9_retain ∈ AL := List.mem_filter.mpr ⟨List.mem_of_getElem? (i := 1128) (by decide +kernel), by decide +kernel⟩
theorem q1005 : Cond.selects RX9 yX9_retain yX9_retain ∈ AL := List.mem_filter.mpr ⟨List.mem_of_getElem? (i := 1129) (by decide +kernel), by decide +kernel⟩
theorem q1006 : Cond.code yX9_retain cX9_retain 2 (some FieldType.int) ∈ AL := List.mem_filter.mpr ⟨List.mem_of_getElem? (i := 1130) (by decide +kernel), by decide +kernel⟩
theorem q1007 : Cond.methodLink RX9 120 yX9_retained ∈ AL := List.mem_filter.mpr ⟨List.mem_of_getElem? (i := 1131) (by decide +kernel), by decide +kernel⟩
theorem q1009 : Cond.instanceMethod yX9_retained ∈ AL := List.mem_filter.mpr ⟨List.mem_of_getElem? (i := 1133) (by decide +kernel), by decide +kernel⟩
theorem q1010 : Cond.code yX9_retained cX9_retained 4 (some FieldType.int) ∈ AL := List.mem_filter.mpr ⟨List.mem_of_getElem? (i := 1134) (by decide +kernel), by decide +kernel⟩
theorem q1011 : Cond.methodLink RX9 114 yX9_isOld ∈ AL := List.mem_filter.mpr ⟨List.mem_of_getElem? (i := 1135) (by decide +kernel), by decide +kernel⟩
theorem q1013 : Cond.instanceMethod yX9_isOld ∈ AL := List.mem_filter.mpr ⟨List.mem_of_getElem? (i := 1137) (by decide +kernel), by decide +kernel⟩
theorem q1014 : Cond.code yX9_isOld cX9_isOld 4 (some FieldType.boolean) ∈ AL := List.mem_filter.mpr ⟨List.mem_of_getElem? (i := 1138) (by decide +kernel), by decide +kernel⟩
theorem q1015 : Cond.constant RX9 113 (-2147483648) ∈ AL := List.mem_filter.mpr ⟨List.mem_of_getElem? (i := 1139) (by decide +kernel), by decide +kernel⟩
theorem q1016 : Cond.methodLink RL 44 yX9_feed ∈ AL := List.mem_filter.mpr ⟨List.mem_of_getElem? (i := 1140) (by decide +kernel), by decide +kernel⟩
theorem q1017 : Cond.instanceMethod yX9_feed ∈ AL := List.mem_filter.mpr ⟨List.mem_of_getElem? (i := 1141) (by decide +kernel), by decide +kernel⟩
theorem q1018 : Cond.selects RX9 yX9_feed yX9_feed ∈ AL := List.mem_filter.mpr ⟨List.mem_of_getElem? (i := 1142) (by decide +kernel), by decide +kernel⟩
theorem q1019 : Cond.code yX9_feed cX9_feed 2 (some FieldType.int) ∈ AL := List.mem_filter.mpr ⟨List.mem_of_getElem? (i := 1143) (by decide +kernel), by decide +kernel⟩
theorem q1020 : Cond.methodLink RL 49 yX9_read ∈ AL := List.mem_filter.mpr ⟨List.mem_of_getElem? (i := 1144) (by decide +kernel), by decide +kernel⟩
theorem q1021 : Cond.instanceMethod yX9_read ∈ AL := List.mem_filter.mpr ⟨List.mem_of_getElem? (i := 1145) (by decide +kernel), by decide +kernel⟩
theorem q1022 : Cond.selects RX9 yX9_read yX9_read ∈ AL := List.mem_filter.mpr ⟨List.mem_of_getElem? (i := 1146) (by decide +kernel), by decide +kernel⟩
theorem q1023 : Cond.code yX9_read cX9_read 5 (some FieldType.int) ∈ AL := List.mem_filter.mpr ⟨List.mem_of_getElem? (i := 1147) (by decide +kernel), by decide +kernel⟩
theorem q1024 : Cond.methodLink RX9 142 yX9_clause ∈ AL := List.mem_filter.mpr ⟨List.mem_of_getElem? (i := 1148) (by decide +kernel), by decide +kernel⟩
theorem q1026 : Cond.instanceMethod yX9_clause ∈ AL := List.mem_filter.mpr ⟨List.mem_of_getElem? (i := 1150) (by decide +kernel), by decide +kernel⟩
theorem q1027 : Cond.code yX9_clause cX9_clause 5 none ∈ AL := List.mem_filter.mpr ⟨List.mem_of_getElem? (i := 1151) (by decide +kernel), by decide +kernel⟩
theorem q1028 : Cond.methodLink RX9 136 yX9_must ∈ AL := List.mem_filter.mpr ⟨List.mem_of_getElem? (i := 1152) (by decide +kernel), by decide +kernel⟩
theorem q1030 : Cond.instanceMethod yX9_must ∈ AL := List.mem_filter.mpr ⟨List.mem_of_getElem? (i := 1154) (by decide +kernel), by decide +kernel⟩
theorem q1031 : Cond.code yX9_must cX9_must 3 (some FieldType.int) ∈ AL := List.mem_filter.mpr ⟨List.mem_of_getElem? (i := 1155) (by decide +kernel), by decide +kernel⟩
theorem q1032 : Cond.methodLink RX9 133 yX9_sees ∈ AL := List.mem_filter.mpr ⟨List.mem_of_getElem? (i := 1156) (by decide +kernel), by decide +kernel⟩
theorem q1034 : Cond.instanceMethod yX9_sees ∈ AL := List.mem_filter.mpr ⟨List.mem_of_getElem? (i := 1158) (by decide +kernel), by decide +kernel⟩
theorem q1035 : Cond.code yX9_sees cX9_sees 3 (some FieldType.boolean) ∈ AL := List.mem_filter.mpr ⟨List.mem_of_getElem? (i := 1159) (by decide +kernel), by decide +kernel⟩
theorem q1036 : Cond.methodLink RX9 139 yX9_number ∈ AL := List.mem_filter.mpr ⟨List.mem_of_getElem? (i := 1160) (by decide +kernel), by decide +kernel⟩
theorem q1038 : Cond.instanceMethod yX9_number ∈ AL := List.mem_filter.mpr ⟨List.mem_of_getElem? (i := 1162) (by decide +kernel), by decide +kernel⟩
theorem q1039 : Cond.code yX9_number cX9_number 4 (some FieldType.int) ∈ AL := List.mem_filter.mpr ⟨List.mem_of_getElem? (i := 1163) (by decide +kernel), by decide +kernel⟩
theorem q1040 : Cond.methodLink RL 53 yX9_of ∈ AL := List.mem_filter.mpr ⟨List.mem_of_getElem? (i := 1164) (by decide +kernel), by decide +kernel⟩
theorem q1041 : Cond.instanceMethod yX9_of ∈ AL := List.mem_filter.mpr ⟨List.mem_of_getElem? (i := 1165) (by decide +kernel), by decide +kernel⟩
theorem q1042 : Cond.selects RX9 yX9_of yX9_of ∈ AL := List.mem_filter.mpr ⟨List.mem_of_getElem? (i := 1166) (by decide +kernel), by decide +kernel⟩
theorem q1043 : Cond.code yX9_of cX9_of 3 (some FieldType.int) ∈ AL := List.mem_filter.mpr ⟨List.mem_of_getElem? (i := 1167) (by decide +kernel), by decide +kernel⟩
theorem q1044 : Cond.methodLink RX9 73 yX9_all ∈ AL := List.mem_filter.mpr ⟨List.mem_of_getElem? (i := 1168) (by decide +kernel), by decide +kernel⟩
theorem q1046 : Cond.instanceMethod yX9_all ∈ AL := List.mem_filter.mpr ⟨List.mem_of_getElem? (i := 1170) (by decide +kernel), by decide +kernel⟩
theorem q1047 : Cond.code yX9_all cX9_all 4 (some FieldType.int) ∈ AL := List.mem_filter.mpr ⟨List.mem_of_getElem? (i := 1171) (by decide +kernel), by decide +kernel⟩
theorem q1048 : Cond.methodLink RX9 156 yX9_holes ∈ AL := List.mem_filter.mpr ⟨List.mem_of_getElem? (i := 1172) (by decide +kernel), by decide +kernel⟩
theorem q1050 : Cond.instanceMethod yX9_holes ∈ AL := List.mem_filter.mpr ⟨List.mem_of_getElem? (i := 1174) (by decide +kernel), by decide +kernel⟩
theorem q1051 : Cond.code yX9_holes cX9_holes 4 (some FieldType.int) ∈ AL := List.mem_filter.mpr ⟨List.mem_of_getElem? (i := 1175) (by decide +kernel), by decide +kernel⟩
theorem q1052 : Cond.methodLink RX9 159 yX9_replays ∈ AL := List.mem_filter.mpr ⟨List.mem_of_getElem? (i := 1176) (by decide +kernel), by decide +kernel⟩
theorem q1054 : Cond.instanceMethod yX9_replays ∈ AL := List.mem_filter.mpr ⟨List.mem_of_getElem? (i := 1178) (by decide +kernel), by decide +kernel⟩
theorem q1055 : Cond.code yX9_replays cX9_replays 4 none ∈ AL := List.mem_filter.mpr ⟨List.mem_of_getElem? (i := 1179) (by decide +kernel), by decide +kernel⟩
theorem q1056 : Cond.methodLink RX9 162 yX9_mapped ∈ AL := List.mem_filter.mpr ⟨List.mem_of_getElem? (i := 1180) (by decide +kernel), by decide +kernel⟩
theorem q1058 : Cond.instanceMethod yX9_mapped ∈ AL := List.mem_filter.mpr ⟨List.mem_of_getElem? (i := 1182) (by decide +kernel), by decide +kernel⟩
theorem q1059 : Cond.code yX9_mapped cX9_mapped 4 (some FieldType.int) ∈ AL := List.mem_filter.mpr ⟨List.mem_of_getElem? (i := 1183) (by decide +kernel), by decide +kernel⟩
theorem q1060 : Cond.methodLink RX9 146 yX9_isMapped ∈ AL := List.mem_filter.mpr ⟨List.mem_of_getElem? (i := 1184) (by decide +kernel), by decide +kernel⟩
theorem q1062 : Cond.instanceMethod yX9_isMapped ∈ AL := List.mem_filter.mpr ⟨List.mem_of_getElem? (i := 1186) (by decide +kernel), by decide +kernel⟩
theorem q1063 : Cond.code yX9_isMapped cX9_isMapped 3 (some FieldType.boolean) ∈ AL := List.mem_filter.mpr ⟨List.mem_of_getElem? (i := 1187) (by decide +kernel), by decide +kernel⟩
theorem q1064 : Cond.methodLink RX9 165 yX9_from ∈ AL := List.mem_filter.mpr ⟨List.mem_of_getElem? (i := 1188) (by decide +kernel), by decide +kernel⟩
theorem q1066 : Cond.instanceMethod yX9_from ∈ AL := List.mem_filter.mpr ⟨List.mem_of_getElem? (i := 1190) (by decide +kernel), by decide +kernel⟩
theorem q1067 : Cond.code yX9_from cX9_from 6 (some FieldType.int) ∈ AL := List.mem_filter.mpr ⟨List.mem_of_getElem? (i := 1191) (by decide +kernel), by decide +kernel⟩
theorem q1068 : Cond.constantLong RX9 149 200 ∈ AL := List.mem_filter.mpr ⟨List.mem_of_getElem? (i := 1192) (by decide +kernel), by decide +kernel⟩
theorem q1069 : Cond.constantLong RX9 151 201 ∈ AL := List.mem_filter.mpr ⟨List.mem_of_getElem? (i := 1193) (by decide +kernel), by decide +kernel⟩
theorem q1070 : Cond.methodLink RX9 153 yX9_isThere ∈ AL := List.mem_filter.mpr ⟨List.mem_of_getElem? (i := 1194) (by decide +kernel), by decide +kernel⟩
theorem q1072 : Cond.instanceMethod yX9_isThere ∈ AL := List.mem_filter.mpr ⟨List.mem_of_getElem? (i := 1196) (by decide +kernel), by decide +kernel⟩
theorem q1073 : Cond.code yX9_isThere cX9_isThere 3 (some FieldType.boolean) ∈ AL := List.mem_filter.mpr ⟨List.mem_of_getElem? (i := 1197) (by decide +kernel), by decide +kernel⟩
theorem q1074 : Cond.methodLink RL 58 yX9_record ∈ AL := List.mem_filter.mpr ⟨List.mem_of_getElem? (i := 1198) (by decide +kernel), by decide +kernel⟩
theorem q1075 : Cond.instanceMethod yX9_record ∈ AL := List.mem_filter.mpr ⟨List.mem_of_getElem? (i := 1199) (by decide +kernel), by decide +kernel⟩
theorem q1076 : Cond.selects RX9 yX9_record yX9_record ∈ AL := List.mem_filter.mpr ⟨List.mem_of_getElem? (i := 1200) (by decide +kernel), by decide +kernel⟩
theorem q1077 : Cond.code yX9_record cX9_record 5 (some FieldType.long) ∈ AL := List.mem_filter.mpr ⟨List.mem_of_getElem? (i := 1201) (by decide +kernel), by decide +kernel⟩
theorem q1078 : Cond.constantLong RX9 168 (-9223372036854775808) ∈ AL := List.mem_filter.mpr ⟨List.mem_of_getElem? (i := 1202) (by decide +kernel), by decide +kernel⟩
theorem q1079 : Cond.methodLink RX9 170 yX9_segmentOf ∈ AL := List.mem_filter.mpr ⟨List.mem_of_getElem? (i := 1203) (by decide +kernel), by decide +kernel⟩
theorem q1081 : Cond.instanceMethod yX9_segmentOf ∈ AL := List.mem_filter.mpr ⟨List.mem_of_getElem? (i := 1205) (by decide +kernel), by decide +kernel⟩
theorem q1082 : Cond.code yX9_segmentOf cX9_segmentOf 4 (some FieldType.int) ∈ AL := List.mem_filter.mpr ⟨List.mem_of_getElem? (i := 1206) (by decide +kernel), by decide +kernel⟩
theorem q1083 : Cond.methodLink RL 62 yX9_segment ∈ AL := List.mem_filter.mpr ⟨List.mem_of_getElem? (i := 1207) (by decide +kernel), by decide +kernel⟩
theorem q1084 : Cond.instanceMethod yX9_segment ∈ AL := List.mem_filter.mpr ⟨List.mem_of_getElem? (i := 1208) (by decide +kernel), by decide +kernel⟩
theorem q1085 : Cond.selects RX9 yX9_segment yX9_segment ∈ AL := List.mem_filter.mpr ⟨List.mem_of_getElem? (i := 1209) (by decide +kernel), by decide +kernel⟩
theorem q1086 : Cond.code yX9_segment cX9_segment 4 (some FieldType.int) ∈ AL := List.mem_filter.mpr ⟨List.mem_of_getElem? (i := 1210) (by decide +kernel), by decide +kernel⟩
theorem q1087 : Cond.methodLink RL 67 yX9_value ∈ AL := List.mem_filter.mpr ⟨List.mem_of_getElem? (i := 1211) (by decide +kernel), by decide +kernel⟩
theorem q1088 : Cond.instanceMethod yX9_value ∈ AL := List.mem_filter.mpr ⟨List.mem_of_getElem? (i := 1212) (by decide +kernel), by decide +kernel⟩
theorem q1089 : Cond.selects RX9 yX9_value yX9_value ∈ AL := List.mem_filter.mpr ⟨List.mem_of_getElem? (i := 1213) (by decide +kernel), by decide +kernel⟩
theorem q1090 : Cond.code yX9_value cX9_value 3 (some FieldType.long) ∈ AL := List.mem_filter.mpr ⟨List.mem_of_getElem? (i := 1214) (by decide +kernel), by decide +kernel⟩
theorem q1091 : Cond.methodLink RX9 173 yX9_valueIn ∈ AL := List.mem_filter.mpr ⟨List.mem_of_getElem? (i := 1215) (by decide +kernel), by decide +kernel⟩
theorem q1093 : Cond.instanceMethod yX9_valueIn ∈ AL := List.mem_filter.mpr ⟨List.mem_of_getElem? (i := 1217) (by decide +kernel), by decide +kernel⟩
theorem q1094 : Cond.code yX9_valueIn cX9_valueIn 4 (some FieldType.long) ∈ AL := List.mem_filter.mpr ⟨List.mem_of_getElem? (i := 1218) (by decide +kernel), by decide +kernel⟩
theorem q1095 : Cond.methodLink RL 71 yX9_map ∈ AL := List.mem_filter.mpr ⟨List.mem_of_getElem? (i := 1219) (by decide +kernel), by decide +kernel⟩
theorem q1096 : Cond.instanceMethod yX9_map ∈ AL := List.mem_filter.mpr ⟨List.mem_of_getElem? (i := 1220) (by decide +kernel), by decide +kernel⟩
theorem q1097 : Cond.selects RX9 yX9_map yX9_map ∈ AL := List.mem_filter.mpr ⟨List.mem_of_getElem? (i := 1221) (by decide +kernel), by decide +kernel⟩
theorem q1098 : Cond.code yX9_map cX9_map 12 (some FieldType.long) ∈ AL := List.mem_filter.mpr ⟨List.mem_of_getElem? (i := 1222) (by decide +kernel), by decide +kernel⟩
theorem q1099 : Cond.methodLink RX9 181 yX9_valueAt ∈ AL := List.mem_filter.mpr ⟨List.mem_of_getElem? (i := 1223) (by decide +kernel), by decide +kernel⟩
theorem q1101 : Cond.instanceMethod yX9_valueAt ∈ AL := List.mem_filter.mpr ⟨List.mem_of_getElem? (i := 1225) (by decide +kernel), by decide +kernel⟩
theorem q1102 : Cond.code yX9_valueAt cX9_valueAt 3 (some FieldType.float) ∈ AL := List.mem_filter.mpr ⟨List.mem_of_getElem? (i := 1226) (by decide +kernel), by decide +kernel⟩
theorem q1103 : Cond.methodLink RX9 177 ⟨"java/lang/Float", "intBitsToFloat", "(I)F"⟩ ∈ AL := List.mem_filter.mpr ⟨List.mem_of_getElem? (i := 1227) (by decide +kernel), by decide +kernel⟩
theorem q1104 : Cond.static ⟨"java/lang/Float", "intBitsToFloat", "(I)F"⟩ ∈ AL := List.mem_filter.mpr ⟨List.mem_of_getElem? (i := 1228) (by decide +kernel), by decide +kernel⟩
theorem q1105 : Cond.native ⟨"java/lang/Float", "intBitsToFloat", "(I)F"⟩ ∈ AL := List.mem_filter.mpr ⟨List.mem_of_getElem? (i := 1229) (by decide +kernel), by decide +kernel⟩
theorem q1106 : Cond.methodLink RX9 185 yJxf58ca_compare_66c2b ∈ AL := List.mem_filter.mpr ⟨List.mem_of_getElem? (i := 1230) (by decide +kernel), by decide +kernel⟩
theorem q1107 : Cond.static yJxf58ca_compare_66c2b ∈ AL := List.mem_filter.mpr ⟨List.mem_of_getElem? (i := 1231) (by decide +kernel), by decide +kernel⟩
theorem q1108 : Cond.code yJxf58ca_compare_66c2b cJxf58ca_compare_66c2b 4 (some FieldType.int) ∈ AL := List.mem_filter.mpr ⟨List.mem_of_getElem? (i := 1232) (by decide +kernel), by decide +kernel⟩
theorem q1109 : Cond.methodLink RJxf58ca 71 yJxf58ca_floatToIntBits_5c35a ∈ AL := List.mem_filter.mpr ⟨List.mem_of_getElem? (i := 1233) (by decide +kernel), by decide +kernel⟩
theorem q1110 : Cond.methodLink RX9 189 yJxe99ae_doubleToLongBits_ccdee ∈ AL := List.mem_filter.mpr ⟨List.mem_of_getElem? (i := 1234) (by decide +kernel), by decide +kernel⟩
theorem q1111 : Cond.static yJxe99ae_doubleToLongBits_ccdee ∈ AL := List.mem_filter.mpr ⟨List.mem_of_getElem? (i := 1235) (by decide +kernel), by decide +kernel⟩
theorem q1112 : Cond.code yJxe99ae_doubleToLongBits_ccdee cJxe99ae_doubleToLongBits_ccdee 2 (some FieldType.long) ∈ AL := List.mem_filter.mpr ⟨List.mem_of_getElem? (i := 1236) (by decide +kernel), by decide +kernel⟩
theorem q1113 : Cond.methodLink RJxe99ae 122 yJxe99ae_isNaN_b9ae7 ∈ AL := List.mem_filter.mpr ⟨List.mem_of_getElem? (i := 1237) (by decide +kernel), by decide +kernel⟩
theorem q1114 : Cond.static yJxe99ae_isNaN_b9ae7 ∈ AL := List.mem_filter.mpr ⟨List.mem_of_getElem? (i := 1238) (by decide +kernel), by decide +kernel⟩
theorem q1115 : Cond.code yJxe99ae_isNaN_b9ae7 cJxe99ae_isNaN_b9ae7 2 (some FieldType.boolean) ∈ AL := List.mem_filter.mpr ⟨List.mem_of_getElem? (i := 1239) (by decide +kernel), by decide +kernel⟩
theorem q1116 : Cond.methodLink RJxe99ae 134 ⟨"java/lang/Double", "doubleToRawLongBits", "(D)J"⟩ ∈ AL := List.mem_filter.mpr ⟨List.mem_of_getElem? (i := 1240) (by decide +kernel), by decide +kernel⟩
theorem q1117 : Cond.static ⟨"java/lang/Double", "doubleToRawLongBits", "(D)J"⟩ ∈ AL := List.mem_filter.mpr ⟨List.mem_of_getElem? (i := 1241) (by decide +kernel), by decide +kernel⟩
theorem q1118 : Cond.native ⟨"java/lang/Double", "doubleToRawLongBits", "(D)J"⟩ ∈ AL := List.mem_filter.mpr ⟨List.mem_of_getElem? (i := 1242) (by decide +kernel), by decide +kernel⟩
theorem q1119 : Cond.constantLong RJxe99ae 137 9221120237041090560 ∈ AL := List.mem_filter.mpr ⟨List.mem_of_getElem? (i := 1243) (by decide +kernel), by decide +kernel⟩
theorem q1120 : Cond.methodLink RL 75 yX9_replay ∈ AL := List.mem_filter.mpr ⟨List.mem_of_getElem? (i := 1244) (by decide +kernel), by decide +kernel⟩
theorem q1121 : Cond.instanceMethod yX9_replay ∈ AL := List.mem_filter.mpr ⟨List.mem_of_getElem? (i := 1245) (by decide +kernel), by decide +kernel⟩
theorem q1122 : Cond.selects RX9 yX9_replay yX9_replay ∈ AL := List.mem_filter.mpr ⟨List.mem_of_getElem? (i := 1246) (by decide +kernel), by decide +kernel⟩
theorem q1123 : Cond.code yX9_replay cX9_replay 4 (some FieldType.long) ∈ AL := List.mem_filter.mpr ⟨List.mem_of_getElem? (i := 1247) (by decide +kernel), by decide +kernel⟩
theorem q1124 : Cond.methodLink RL 79 yX9_near ∈ AL := List.mem_filter.mpr ⟨List.mem_of_getElem? (i := 1248) (by decide +kernel), by decide +kernel⟩
theorem q1125 : Cond.instanceMethod yX9_near ∈ AL := List.mem_filter.mpr ⟨List.mem_of_getElem? (i := 1249) (by decide +kernel), by decide +kernel⟩
theorem q1126 : Cond.selects RX9 yX9_near yX9_near ∈ AL := List.mem_filter.mpr ⟨List.mem_of_getElem? (i := 1250) (by decide +kernel), by decide +kernel⟩
theorem q1127 : Cond.code yX9_near cX9_near 4 (some FieldType.int) ∈ AL := List.mem_filter.mpr ⟨List.mem_of_getElem? (i := 1251) (by decide +kernel), by decide +kernel⟩
theorem q1128 : Cond.methodLink RL 83 yX9_oldest ∈ AL := List.mem_filter.mpr ⟨List.mem_of_getElem? (i := 1252) (by decide +kernel), by decide +kernel⟩
theorem q1129 : Cond.instanceMethod yX9_oldest ∈ AL := List.mem_filter.mpr ⟨List.mem_of_getElem? (i := 1253) (by decide +kernel), by decide +kernel⟩
theorem q1130 : Cond.selects RX9 yX9_oldest yX9_oldest ∈ AL := List.mem_filter.mpr ⟨List.mem_of_getElem? (i := 1254) (by decide +kernel), by decide +kernel⟩
theorem q1131 : Cond.code yX9_oldest cX9_oldest 6 (some FieldType.int) ∈ AL := List.mem_filter.mpr ⟨List.mem_of_getElem? (i := 1255) (by decide +kernel), by decide +kernel⟩
theorem q1132 : Cond.methodLink RX9 195 yX9_isAhead ∈ AL := List.mem_filter.mpr ⟨List.mem_of_getElem? (i := 1256) (by decide +kernel), by decide +kernel⟩
theorem q1134 : Cond.instanceMethod yX9_isAhead ∈ AL := List.mem_filter.mpr ⟨List.mem_of_getElem? (i := 1258) (by decide +kernel), by decide +kernel⟩
theorem q1135 : Cond.code yX9_isAhead cX9_isAhead 6 (some FieldType.boolean) ∈ AL := List.mem_filter.mpr ⟨List.mem_of_getElem? (i := 1259) (by decide +kernel), by decide +kernel⟩
theorem q1136 : Cond.methodLink RL 87 yX9_would ∈ AL := List.mem_filter.mpr ⟨List.mem_of_getElem? (i := 1260) (by decide +kernel), by decide +kernel⟩
theorem q1137 : Cond.instanceMethod yX9_would ∈ AL := List.mem_filter.mpr ⟨List.mem_of_getElem? (i := 1261) (by decide +kernel), by decide +kernel⟩
theorem q1138 : Cond.selects RX9 yX9_would yX9_would ∈ AL := List.mem_filter.mpr ⟨List.mem_of_getElem? (i := 1262) (by decide +kernel), by decide +kernel⟩
theorem q1139 : Cond.code yX9_would cX9_would 4 (some FieldType.int) ∈ AL := List.mem_filter.mpr ⟨List.mem_of_getElem? (i := 1263) (by decide +kernel), by decide +kernel⟩
theorem q1140 : Cond.methodLink RX9 198 yX9_copy ∈ AL := List.mem_filter.mpr ⟨List.mem_of_getElem? (i := 1264) (by decide +kernel), by decide +kernel⟩
theorem q1141 : Cond.static yX9_copy ∈ AL := List.mem_filter.mpr ⟨List.mem_of_getElem? (i := 1265) (by decide +kernel), by decide +kernel⟩
theorem q1142 : Cond.code yX9_copy cX9_copy 3 none ∈ AL := List.mem_filter.mpr ⟨List.mem_of_getElem? (i := 1266) (by decide +kernel), by decide +kernel⟩
theorem q1143 : Cond.methodLink RL 91 yX9_need ∈ AL := List.mem_filter.mpr ⟨List.mem_of_getElem? (i := 1267) (by decide +kernel), by decide +kernel⟩
theorem q1144 : Cond.instanceMethod yX9_need ∈ AL := List.mem_filter.mpr ⟨List.mem_of_getElem? (i := 1268) (by decide +kernel), by decide +kernel⟩
theorem q1145 : Cond.selects RX9 yX9_need yX9_need ∈ AL := List.mem_filter.mpr ⟨List.mem_of_getElem? (i := 1269) (by decide +kernel), by decide +kernel⟩
theorem q1146 : Cond.code yX9_need cX9_need 5 (some FieldType.int) ∈ AL := List.mem_filter.mpr ⟨List.mem_of_getElem? (i := 1270) (by decide +kernel), by decide +kernel⟩
theorem q1147 : Cond.methodLink RL 95 yX9_join ∈ AL := List.mem_filter.mpr ⟨List.mem_of_getElem? (i := 1271) (by decide +kernel), by decide +kernel⟩
theorem q1148 : Cond.instanceMethod yX9_join ∈ AL := List.mem_filter.mpr ⟨List.mem_of_getElem? (i := 1272) (by decide +kernel), by decide +kernel⟩
theorem q1149 : Cond.selects RX9 yX9_join yX9_join ∈ AL := List.mem_filter.mpr ⟨List.mem_of_getElem? (i := 1273) (by decide +kernel), by decide +kernel⟩
theorem q1150 : Cond.code yX9_join cX9_join 2 (some FieldType.int) ∈ AL := List.mem_filter.mpr ⟨List.mem_of_getElem? (i := 1274) (by decide +kernel), by decide +kernel⟩
theorem q1151 : Cond.methodLink RX9 202 yX9_isIn ∈ AL := List.mem_filter.mpr ⟨List.mem_of_getElem? (i := 1275) (by decide +kernel), by decide +kernel⟩
theorem q1153 : Cond.instanceMethod yX9_isIn ∈ AL := List.mem_filter.mpr ⟨List.mem_of_getElem? (i := 1277) (by decide +kernel), by decide +kernel⟩
theorem q1154 : Cond.code yX9_isIn cX9_isIn 2 (some FieldType.boolean) ∈ AL := List.mem_filter.mpr ⟨List.mem_of_getElem? (i := 1278) (by decide +kernel), by decide +kernel⟩
theorem q1155 : Cond.methodLink RX9 221 yX9_shares ∈ AL := List.mem_filter.mpr ⟨List.mem_of_getElem? (i := 1279) (by decide +kernel), by decide +kernel⟩
theorem q1157 : Cond.instanceMethod yX9_shares ∈ AL := List.mem_filter.mpr ⟨List.mem_of_getElem? (i := 1281) (by decide +kernel), by decide +kernel⟩
theorem q1158 : Cond.code yX9_shares cX9_shares 6 (some FieldType.int) ∈ AL := List.mem_filter.mpr ⟨List.mem_of_getElem? (i := 1282) (by decide +kernel), by decide +kernel⟩
theorem q1159 : Cond.methodLink RX9 211 yX9_membersIn ∈ AL := List.mem_filter.mpr ⟨List.mem_of_getElem? (i := 1283) (by decide +kernel), by decide +kernel⟩
theorem q1161 : Cond.instanceMethod yX9_membersIn ∈ AL := List.mem_filter.mpr ⟨List.mem_of_getElem? (i := 1285) (by decide +kernel), by decide +kernel⟩
theorem q1162 : Cond.code yX9_membersIn cX9_membersIn 3 (some FieldType.int) ∈ AL := List.mem_filter.mpr ⟨List.mem_of_getElem? (i := 1286) (by decide +kernel), by decide +kernel⟩
theorem q1163 : Cond.methodLink RX9 205 yX9_logsOf ∈ AL := List.mem_filter.mpr ⟨List.mem_of_getElem? (i := 1287) (by decide +kernel), by decide +kernel⟩
theorem q1165 : Cond.instanceMethod yX9_logsOf ∈ AL := List.mem_filter.mpr ⟨List.mem_of_getElem? (i := 1289) (by decide +kernel), by decide +kernel⟩
theorem q1166 : Cond.code yX9_logsOf cX9_logsOf 4 (some FieldType.int) ∈ AL := List.mem_filter.mpr ⟨List.mem_of_getElem? (i := 1290) (by decide +kernel), by decide +kernel⟩
theorem q1167 : Cond.methodLink RX9 208 yX9_bits ∈ AL := List.mem_filter.mpr ⟨List.mem_of_getElem? (i := 1291) (by decide +kernel), by decide +kernel⟩
theorem q1168 : Cond.static yX9_bits ∈ AL := List.mem_filter.mpr ⟨List.mem_of_getElem? (i := 1292) (by decide +kernel), by decide +kernel⟩
theorem q1169 : Cond.code yX9_bits cX9_bits 3 (some FieldType.int) ∈ AL := List.mem_filter.mpr ⟨List.mem_of_getElem? (i := 1293) (by decide +kernel), by decide +kernel⟩
theorem q1170 : Cond.methodLink RX9 215 yX9_lets ∈ AL := List.mem_filter.mpr ⟨List.mem_of_getElem? (i := 1294) (by decide +kernel), by decide +kernel⟩
theorem q1172 : Cond.instanceMethod yX9_lets ∈ AL := List.mem_filter.mpr ⟨List.mem_of_getElem? (i := 1296) (by decide +kernel), by decide +kernel⟩
theorem q1173 : Cond.code yX9_lets cX9_lets 5 none ∈ AL := List.mem_filter.mpr ⟨List.mem_of_getElem? (i := 1297) (by decide +kernel), by decide +kernel⟩
theorem q1174 : Cond.methodLink RX9 218 yX9_least ∈ AL := List.mem_filter.mpr ⟨List.mem_of_getElem? (i := 1298) (by decide +kernel), by decide +kernel⟩
theorem q1176 : Cond.instanceMethod yX9_least ∈ AL := List.mem_filter.mpr ⟨List.mem_of_getElem? (i := 1300) (by decide +kernel), by decide +kernel⟩
theorem q1177 : Cond.code yX9_least cX9_least 3 (some FieldType.int) ∈ AL := List.mem_filter.mpr ⟨List.mem_of_getElem? (i := 1301) (by decide +kernel), by decide +kernel⟩
theorem q1178 : Cond.methodLink RL 99 yX9_leave ∈ AL := List.mem_filter.mpr ⟨List.mem_of_getElem? (i := 1302) (by decide +kernel), by decide +kernel⟩
theorem q1179 : Cond.instanceMethod yX9_leave ∈ AL := List.mem_filter.mpr ⟨List.mem_of_getElem? (i := 1303) (by decide +kernel), by decide +kernel⟩
theorem q1180 : Cond.selects RX9 yX9_leave yX9_leave ∈ AL := List.mem_filter.mpr ⟨List.mem_of_getElem? (i := 1304) (by decide +kernel), by decide +kernel⟩
theorem q1181 : Cond.code yX9_leave cX9_leave 2 (some FieldType.int) ∈ AL := List.mem_filter.mpr ⟨List.mem_of_getElem? (i := 1305) (by decide +kernel), by decide +kernel⟩
theorem q1182 : Cond.methodLink RL 103 yX9_poll ∈ AL := List.mem_filter.mpr ⟨List.mem_of_getElem? (i := 1306) (by decide +kernel), by decide +kernel⟩
theorem q1183 : Cond.instanceMethod yX9_poll ∈ AL := List.mem_filter.mpr ⟨List.mem_of_getElem? (i := 1307) (by decide +kernel), by decide +kernel⟩
theorem q1184 : Cond.selects RX9 yX9_poll yX9_poll ∈ AL := List.mem_filter.mpr ⟨List.mem_of_getElem? (i := 1308) (by decide +kernel), by decide +kernel⟩
theorem q1185 : Cond.code yX9_poll cX9_poll 2 (some FieldType.int) ∈ AL := List.mem_filter.mpr ⟨List.mem_of_getElem? (i := 1309) (by decide +kernel), by decide +kernel⟩
theorem q1186 : Cond.methodLink RX9 224 yX9_polled ∈ AL := List.mem_filter.mpr ⟨List.mem_of_getElem? (i := 1310) (by decide +kernel), by decide +kernel⟩
theorem q1188 : Cond.instanceMethod yX9_polled ∈ AL := List.mem_filter.mpr ⟨List.mem_of_getElem? (i := 1312) (by decide +kernel), by decide +kernel⟩
theorem q1189 : Cond.code yX9_polled cX9_polled 4 (some FieldType.int) ∈ AL := List.mem_filter.mpr ⟨List.mem_of_getElem? (i := 1313) (by decide +kernel), by decide +kernel⟩
theorem q1190 : Cond.methodLink RL 107 yX9_seek ∈ AL := List.mem_filter.mpr ⟨List.mem_of_getElem? (i := 1314) (by decide +kernel), by decide +kernel⟩
theorem q1191 : Cond.instanceMethod yX9_seek ∈ AL := List.mem_filter.mpr ⟨List.mem_of_getElem? (i := 1315) (by decide +kernel), by decide +kernel⟩
theorem q1192 : Cond.selects RX9 yX9_seek yX9_seek ∈ AL := List.mem_filter.mpr ⟨List.mem_of_getElem? (i := 1316) (by decide +kernel), by decide +kernel⟩
theorem q1193 : Cond.code yX9_seek cX9_seek 4 (some FieldType.int) ∈ AL := List.mem_filter.mpr ⟨List.mem_of_getElem? (i := 1317) (by decide +kernel), by decide +kernel⟩
theorem q1194 : Cond.methodLink RL 111 yX9_member ∈ AL := List.mem_filter.mpr ⟨List.mem_of_getElem? (i := 1318) (by decide +kernel), by decide +kernel⟩
theorem q1195 : Cond.instanceMethod yX9_member ∈ AL := List.mem_filter.mpr ⟨List.mem_of_getElem? (i := 1319) (by decide +kernel), by decide +kernel⟩
theorem q1196 : Cond.selects RX9 yX9_member yX9_member ∈ AL := List.mem_filter.mpr ⟨List.mem_of_getElem? (i := 1320) (by decide +kernel), by decide +kernel⟩
theorem q1197 : Cond.code yX9_member cX9_member 3 (some FieldType.int) ∈ AL := List.mem_filter.mpr ⟨List.mem_of_getElem? (i := 1321) (by decide +kernel), by decide +kernel⟩
theorem q1198 : Cond.methodLink RX9 227 yX9_lag ∈ AL := List.mem_filter.mpr ⟨List.mem_of_getElem? (i := 1322) (by decide +kernel), by decide +kernel⟩
theorem q1200 : Cond.instanceMethod yX9_lag ∈ AL := List.mem_filter.mpr ⟨List.mem_of_getElem? (i := 1324) (by decide +kernel), by decide +kernel⟩
theorem q1201 : Cond.code yX9_lag cX9_lag 5 (some FieldType.int) ∈ AL := List.mem_filter.mpr ⟨List.mem_of_getElem? (i := 1325) (by decide +kernel), by decide +kernel⟩
theorem q1202 : Cond.methodLink RL 115 yX9_told ∈ AL := List.mem_filter.mpr ⟨List.mem_of_getElem? (i := 1326) (by decide +kernel), by decide +kernel⟩
theorem q1203 : Cond.instanceMethod yX9_told ∈ AL := List.mem_filter.mpr ⟨List.mem_of_getElem? (i := 1327) (by decide +kernel), by decide +kernel⟩
theorem q1204 : Cond.selects RX9 yX9_told yX9_told ∈ AL := List.mem_filter.mpr ⟨List.mem_of_getElem? (i := 1328) (by decide +kernel), by decide +kernel⟩
theorem q1205 : Cond.code yX9_told cX9_told 2 (some FieldType.int) ∈ AL := List.mem_filter.mpr ⟨List.mem_of_getElem? (i := 1329) (by decide +kernel), by decide +kernel⟩
theorem q1206 : Cond.methodLink RL 119 yX9_odds ∈ AL := List.mem_filter.mpr ⟨List.mem_of_getElem? (i := 1330) (by decide +kernel), by decide +kernel⟩
theorem q1207 : Cond.instanceMethod yX9_odds ∈ AL := List.mem_filter.mpr ⟨List.mem_of_getElem? (i := 1331) (by decide +kernel), by decide +kernel⟩
theorem q1208 : Cond.selects RX9 yX9_odds yX9_odds ∈ AL := List.mem_filter.mpr ⟨List.mem_of_getElem? (i := 1332) (by decide +kernel), by decide +kernel⟩
theorem q1209 : Cond.code yX9_odds cX9_odds 5 (some FieldType.long) ∈ AL := List.mem_filter.mpr ⟨List.mem_of_getElem? (i := 1333) (by decide +kernel), by decide +kernel⟩
theorem q1210 : Cond.methodLink RX9 230 yX9_common ∈ AL := List.mem_filter.mpr ⟨List.mem_of_getElem? (i := 1334) (by decide +kernel), by decide +kernel⟩
theorem q1211 : Cond.static yX9_common ∈ AL := List.mem_filter.mpr ⟨List.mem_of_getElem? (i := 1335) (by decide +kernel), by decide +kernel⟩
theorem q1212 : Cond.code yX9_common cX9_common 5 (some FieldType.int) ∈ AL := List.mem_filter.mpr ⟨List.mem_of_getElem? (i := 1336) (by decide +kernel), by decide +kernel⟩
theorem q1213 : Cond.methodLink RL 123 yX9_plan ∈ AL := List.mem_filter.mpr ⟨List.mem_of_getElem? (i := 1337) (by decide +kernel), by decide +kernel⟩
theorem q1214 : Cond.instanceMethod yX9_plan ∈ AL := List.mem_filter.mpr ⟨List.mem_of_getElem? (i := 1338) (by decide +kernel), by decide +kernel⟩
theorem q1215 : Cond.selects RX9 yX9_plan yX9_plan ∈ AL := List.mem_filter.mpr ⟨List.mem_of_getElem? (i := 1339) (by decide +kernel), by decide +kernel⟩
theorem q1216 : Cond.code yX9_plan cX9_plan 3 (some FieldType.int) ∈ AL := List.mem_filter.mpr ⟨List.mem_of_getElem? (i := 1340) (by decide +kernel), by decide +kernel⟩
theorem q1217 : Cond.methodLink RL 127 yX9_ends ∈ AL := List.mem_filter.mpr ⟨List.mem_of_getElem? (i := 1341) (by decide +kernel), by decide +kernel⟩
theorem q1218 : Cond.instanceMethod yX9_ends ∈ AL := List.mem_filter.mpr ⟨List.mem_of_getElem? (i := 1342) (by decide +kernel), by decide +kernel⟩
theorem q1219 : Cond.selects RX9 yX9_ends yX9_ends ∈ AL := List.mem_filter.mpr ⟨List.mem_of_getElem? (i := 1343) (by decide +kernel), by decide +kernel⟩
theorem q1220 : Cond.code yX9_ends cX9_ends 3 (some FieldType.int) ∈ AL := List.mem_filter.mpr ⟨List.mem_of_getElem? (i := 1344) (by decide +kernel), by decide +kernel⟩
theorem q1221 : Cond.methodLink RX9 233 yX9_does ∈ AL := List.mem_filter.mpr ⟨List.mem_of_getElem? (i := 1345) (by decide +kernel), by decide +kernel⟩
theorem q1223 : Cond.instanceMethod yX9_does ∈ AL := List.mem_filter.mpr ⟨List.mem_of_getElem? (i := 1347) (by decide +kernel), by decide +kernel⟩
theorem q1224 : Cond.code yX9_does cX9_does 3 none ∈ AL := List.mem_filter.mpr ⟨List.mem_of_getElem? (i := 1348) (by decide +kernel), by decide +kernel⟩
theorem q1225 : Cond.methodLink RX9 236 yX9_allLogs ∈ AL := List.mem_filter.mpr ⟨List.mem_of_getElem? (i := 1349) (by decide +kernel), by decide +kernel⟩
theorem q1227 : Cond.instanceMethod yX9_allLogs ∈ AL := List.mem_filter.mpr ⟨List.mem_of_getElem? (i := 1351) (by decide +kernel), by decide +kernel⟩
theorem q1228 : Cond.code yX9_allLogs cX9_allLogs 3 (some FieldType.int) ∈ AL := List.mem_filter.mpr ⟨List.mem_of_getElem? (i := 1352) (by decide +kernel), by decide +kernel⟩
theorem q1229 : Cond.methodLink RL 131 yX9_book ∈ AL := List.mem_filter.mpr ⟨List.mem_of_getElem? (i := 1353) (by decide +kernel), by decide +kernel⟩
theorem q1230 : Cond.instanceMethod yX9_book ∈ AL := List.mem_filter.mpr ⟨List.mem_of_getElem? (i := 1354) (by decide +kernel), by decide +kernel⟩
theorem q1231 : Cond.selects RX9 yX9_book yX9_book ∈ AL := List.mem_filter.mpr ⟨List.mem_of_getElem? (i := 1355) (by decide +kernel), by decide +kernel⟩
theorem q1232 : Cond.code yX9_book cX9_book 3 (some FieldType.int) ∈ AL := List.mem_filter.mpr ⟨List.mem_of_getElem? (i := 1356) (by decide +kernel), by decide +kernel⟩
theorem q1233 : Cond.methodLink RL 135 yX9_looked ∈ AL := List.mem_filter.mpr ⟨List.mem_of_getElem? (i := 1357) (by decide +kernel), by decide +kernel⟩
theorem q1234 : Cond.instanceMethod yX9_looked ∈ AL := List.mem_filter.mpr ⟨List.mem_of_getElem? (i := 1358) (by decide +kernel), by decide +kernel⟩
theorem q1235 : Cond.selects RX9 yX9_looked yX9_looked ∈ AL := List.mem_filter.mpr ⟨List.mem_of_getElem? (i := 1359) (by decide +kernel), by decide +kernel⟩
theorem q1236 : Cond.code yX9_looked cX9_looked 2 (some FieldType.int) ∈ AL := List.mem_filter.mpr ⟨List.mem_of_getElem? (i := 1360) (by decide +kernel), by decide +kernel⟩
theorem q1237 : Cond.methodLink RL 139 yX9_keep ∈ AL := List.mem_filter.mpr ⟨List.mem_of_getElem? (i := 1361) (by decide +kernel), by decide +kernel⟩
theorem q1238 : Cond.instanceMethod yX9_keep ∈ AL := List.mem_filter.mpr ⟨List.mem_of_getElem? (i := 1362) (by decide +kernel), by decide +kernel⟩
theorem q1239 : Cond.selects RX9 yX9_keep yX9_keep ∈ AL := List.mem_filter.mpr ⟨List.mem_of_getElem? (i := 1363) (by decide +kernel), by decide +kernel⟩
theorem q1240 : Cond.code yX9_keep cX9_keep 5 (some FieldType.int) ∈ AL := List.mem_filter.mpr ⟨List.mem_of_getElem? (i := 1364) (by decide +kernel), by decide +kernel⟩
theorem q1241 : Cond.methodLink RL 143 yX9_kept ∈ AL := List.mem_filter.mpr ⟨List.mem_of_getElem? (i := 1365) (by decide +kernel), by decide +kernel⟩
theorem q1242 : Cond.instanceMethod yX9_kept ∈ AL := List.mem_filter.mpr ⟨List.mem_of_getElem? (i := 1366) (by decide +kernel), by decide +kernel⟩
theorem q1243 : Cond.selects RX9 yX9_kept yX9_kept ∈ AL := List.mem_filter.mpr ⟨List.mem_of_getElem? (i := 1367) (by decide +kernel), by decide +kernel⟩
theorem q1244 : Cond.code yX9_kept cX9_kept 3 (some FieldType.long) ∈ AL := List.mem_filter.mpr ⟨List.mem_of_getElem? (i := 1368) (by decide +kernel), by decide +kernel⟩
theorem q1245 : Cond.methodLink RL 147 yX9_judge ∈ AL := List.mem_filter.mpr ⟨List.mem_of_getElem? (i := 1369) (by decide +kernel), by decide +kernel⟩
theorem q1246 : Cond.instanceMethod yX9_judge ∈ AL := List.mem_filter.mpr ⟨List.mem_of_getElem? (i := 1370) (by decide +kernel), by decide +kernel⟩
theorem q1247 : Cond.selects RX9 yX9_judge yX9_judge ∈ AL := List.mem_filter.mpr ⟨List.mem_of_getElem? (i := 1371) (by decide +kernel), by decide +kernel⟩
theorem q1248 : Cond.code yX9_judge cX9_judge 6 (some FieldType.int) ∈ AL := List.mem_filter.mpr ⟨List.mem_of_getElem? (i := 1372) (by decide +kernel), by decide +kernel⟩
theorem q1249 : Cond.methodLink RX9 242 yX9_isTape ∈ AL := List.mem_filter.mpr ⟨List.mem_of_getElem? (i := 1373) (by decide +kernel), by decide +kernel⟩
theorem q1250 : Cond.static yX9_isTape ∈ AL := List.mem_filter.mpr ⟨List.mem_of_getElem? (i := 1374) (by decide +kernel), by decide +kernel⟩
theorem q1251 : Cond.code yX9_isTape cX9_isTape 1 (some FieldType.boolean) ∈ AL := List.mem_filter.mpr ⟨List.mem_of_getElem? (i := 1375) (by decide +kernel), by decide +kernel⟩
theorem q1252 : Cond.methodLink RL 151 yX9_image ∈ AL := List.mem_filter.mpr ⟨List.mem_of_getElem? (i := 1376) (by decide +kernel), by decide +kernel⟩
theorem q1253 : Cond.instanceMethod yX9_image ∈ AL := List.mem_filter.mpr ⟨List.mem_of_getElem? (i := 1377) (by decide +kernel), by decide +kernel⟩
theorem q1254 : Cond.selects RX9 yX9_image yX9_image ∈ AL := List.mem_filter.mpr ⟨List.mem_of_getElem? (i := 1378) (by decide +kernel), by decide +kernel⟩
theorem q1255 : Cond.code yX9_image cX9_image 1 (some FieldType.int) ∈ AL := List.mem_filter.mpr ⟨List.mem_of_getElem? (i := 1379) (by decide +kernel), by decide +kernel⟩
theorem q1256 : Cond.methodLink RL 155 yX9_undo ∈ AL := List.mem_filter.mpr ⟨List.mem_of_getElem? (i := 1380) (by decide +kernel), by decide +kernel⟩
theorem q1257 : Cond.instanceMethod yX9_undo ∈ AL := List.mem_filter.mpr ⟨List.mem_of_getElem? (i := 1381) (by decide +kernel), by decide +kernel⟩
theorem q1258 : Cond.selects RX9 yX9_undo yX9_undo ∈ AL := List.mem_filter.mpr ⟨List.mem_of_getElem? (i := 1382) (by decide +kernel), by decide +kernel⟩
theorem q1259 : Cond.code yX9_undo cX9_undo 1 (some FieldType.int) ∈ AL := List.mem_filter.mpr ⟨List.mem_of_getElem? (i := 1383) (by decide +kernel), by decide +kernel⟩
theorem q1260 : Cond.methodLink RL 159 yX9_count ∈ AL := List.mem_filter.mpr ⟨List.mem_of_getElem? (i := 1384) (by decide +kernel), by decide +kernel⟩
theorem q1261 : Cond.instanceMethod yX9_count ∈ AL := List.mem_filter.mpr ⟨List.mem_of_getElem? (i := 1385) (by decide +kernel), by decide +kernel⟩
theorem q1262 : Cond.selects RX9 yX9_count yX9_count ∈ AL := List.mem_filter.mpr ⟨List.mem_of_getElem? (i := 1386) (by decide +kernel), by decide +kernel⟩
theorem q1263 : Cond.code yX9_count cX9_count 2 (some FieldType.int) ∈ AL := List.mem_filter.mpr ⟨List.mem_of_getElem? (i := 1387) (by decide +kernel), by decide +kernel⟩
theorem q1264 : Cond.methodLink RL 163 yX9_tape ∈ AL := List.mem_filter.mpr ⟨List.mem_of_getElem? (i := 1388) (by decide +kernel), by decide +kernel⟩
theorem q1265 : Cond.instanceMethod yX9_tape ∈ AL := List.mem_filter.mpr ⟨List.mem_of_getElem? (i := 1389) (by decide +kernel), by decide +kernel⟩
theorem q1266 : Cond.selects RX9 yX9_tape yX9_tape ∈ AL := List.mem_filter.mpr ⟨List.mem_of_getElem? (i := 1390) (by decide +kernel), by decide +kernel⟩
theorem q1267 : Cond.code yX9_tape cX9_tape 5 (some FieldType.int) ∈ AL := List.mem_filter.mpr ⟨List.mem_of_getElem? (i := 1391) (by decide +kernel), by decide +kernel⟩
theorem q1268 : Cond.methodLink RL 170 yX9_item ∈ AL := List.mem_filter.mpr ⟨List.mem_of_getElem? (i := 1392) (by decide +kernel), by decide +kernel⟩
theorem q1269 : Cond.instanceMethod yX9_item ∈ AL := List.mem_filter.mpr ⟨List.mem_of_getElem? (i := 1393) (by decide +kernel), by decide +kernel⟩
theorem q1270 : Cond.selects RX9 yX9_item yX9_item ∈ AL := List.mem_filter.mpr ⟨List.mem_of_getElem? (i := 1394) (by decide +kernel), by decide +kernel⟩
theorem q1271 : Cond.code yX9_item cX9_item 5 (some FieldType.int) ∈ AL := List.mem_filter.mpr ⟨List.mem_of_getElem? (i := 1395) (by decide +kernel), by decide +kernel⟩
theorem q1272 : Cond.methodLink RX9 249 yX9_fit ∈ AL := List.mem_filter.mpr ⟨List.mem_of_getElem? (i := 1396) (by decide +kernel), by decide +kernel⟩
theorem q1273 : Cond.static yX9_fit ∈ AL := List.mem_filter.mpr ⟨List.mem_of_getElem? (i := 1397) (by decide +kernel), by decide +kernel⟩
theorem q1274 : Cond.code yX9_fit cX9_fit 3 (some FieldType.long) ∈ AL := List.mem_filter.mpr ⟨List.mem_of_getElem? (i := 1398) (by decide +kernel), by decide +kernel⟩
theorem q1275 : Cond.methodLink RL 174 yX9_peek ∈ AL := List.mem_filter.mpr ⟨List.mem_of_getElem? (i := 1399) (by decide +kernel), by decide +kernel⟩
theorem q1276 : Cond.instanceMethod yX9_peek ∈ AL := List.mem_filter.mpr ⟨List.mem_of_getElem? (i := 1400) (by decide +kernel), by decide +kernel⟩
theorem q1277 : Cond.selects RX9 yX9_peek yX9_peek ∈ AL := List.mem_filter.mpr ⟨List.mem_of_getElem? (i := 1401) (by decide +kernel), by decide +kernel⟩
theorem q1278 : Cond.code yX9_peek cX9_peek 3 (some FieldType.long) ∈ AL := List.mem_filter.mpr ⟨List.mem_of_getElem? (i := 1402) (by decide +kernel), by decide +kernel⟩
theorem q1279 : Cond.methodLink RL 178 yX9_shift ∈ AL := List.mem_filter.mpr ⟨List.mem_of_getElem? (i := 1403) (by decide +kernel), by decide +kernel⟩
theorem q1280 : Cond.instanceMethod yX9_shift ∈ AL := List.mem_filter.mpr ⟨List.mem_of_getElem? (i := 1404) (by decide +kernel), by decide +kernel⟩
theorem q1281 : Cond.selects RX9 yX9_shift yX9_shift ∈ AL := List.mem_filter.mpr ⟨List.mem_of_getElem? (i := 1405) (by decide +kernel), by decide +kernel⟩
theorem q1282 : Cond.code yX9_shift cX9_shift 7 (some FieldType.int) ∈ AL := List.mem_filter.mpr ⟨List.mem_of_getElem? (i := 1406) (by decide +kernel), by decide +kernel⟩
theorem q1283 : Cond.constantLong RL 164 4294967295 ∈ AL := List.mem_filter.mpr ⟨List.mem_of_getElem? (i := 1407) (by decide +kernel), by decide +kernel⟩
