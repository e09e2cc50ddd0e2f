/-! the thirty steps, and the law's loop over them -/
theorem wl_514 : (Cond.methodLink RL 13 yX5_hold : Cond) ∈ WL := WL_of 514 (by decide +kernel) rfl
theorem wl_515 : (Cond.instanceMethod yX5_hold : Cond) ∈ WL := WL_of 515 (by decide +kernel) rfl
theorem wl_516 : (Cond.selects RX5 yX5_hold yX5_hold : Cond) ∈ WL := WL_of 516 (by decide +kernel) rfl
theorem wl_517 : (Cond.code yX5_hold cX5_hold 3 (some .int) : Cond) ∈ WL := WL_of 517 (by decide +kernel) rfl
theorem wl_528 : (Cond.methodLink RL 18 yX5_thing : Cond) ∈ WL := WL_of 528 (by decide +kernel) rfl
theorem wl_545 : (Cond.methodLink RL 22 yX5_set : Cond) ∈ WL := WL_of 545 (by decide +kernel) rfl
theorem wl_546 : (Cond.instanceMethod yX5_set : Cond) ∈ WL := WL_of 546 (by decide +kernel) rfl
theorem wl_547 : (Cond.selects RX5 yX5_set yX5_set : Cond) ∈ WL := WL_of 547 (by decide +kernel) rfl
theorem wl_548 : (Cond.code yX5_set cX5_set 4 (some .int) : Cond) ∈ WL := WL_of 548 (by decide +kernel) rfl
theorem wl_577 : (Cond.methodLink RL 27 yX5_part : Cond) ∈ WL := WL_of 577 (by decide +kernel) rfl
theorem wl_578 : (Cond.instanceMethod yX5_part : Cond) ∈ WL := WL_of 578 (by decide +kernel) rfl
theorem wl_579 : (Cond.selects RX5 yX5_part yX5_part : Cond) ∈ WL := WL_of 579 (by decide +kernel) rfl
theorem wl_580 : (Cond.code yX5_part cX5_part 5 (some .int) : Cond) ∈ WL := WL_of 580 (by decide +kernel) rfl
theorem wl_584 : (Cond.methodLink RL 31 yX5_told : Cond) ∈ WL := WL_of 584 (by decide +kernel) rfl
theorem wl_585 : (Cond.instanceMethod yX5_told : Cond) ∈ WL := WL_of 585 (by decide +kernel) rfl
theorem wl_586 : (Cond.selects RX5 yX5_told yX5_told : Cond) ∈ WL := WL_of 586 (by decide +kernel) rfl
theorem wl_587 : (Cond.code yX5_told cX5_told 3 (some .int) : Cond) ∈ WL := WL_of 587 (by decide +kernel) rfl
theorem wl_603 : (Cond.methodLink RL 35 yX5_feed : Cond) ∈ WL := WL_of 603 (by decide +kernel) rfl
theorem wl_604 : (Cond.instanceMethod yX5_feed : Cond) ∈ WL := WL_of 604 (by decide +kernel) rfl
theorem wl_605 : (Cond.selects RX5 yX5_feed yX5_feed : Cond) ∈ WL := WL_of 605 (by decide +kernel) rfl
theorem wl_606 : (Cond.code yX5_feed cX5_feed 2 (some .int) : Cond) ∈ WL := WL_of 606 (by decide +kernel) rfl
theorem wl_607 : (Cond.methodLink RL 40 yX5_text : Cond) ∈ WL := WL_of 607 (by decide +kernel) rfl
theorem wl_608 : (Cond.instanceMethod yX5_text : Cond) ∈ WL := WL_of 608 (by decide +kernel) rfl
theorem wl_609 : (Cond.selects RX5 yX5_text yX5_text : Cond) ∈ WL := WL_of 609 (by decide +kernel) rfl
theorem wl_610 : (Cond.code yX5_text cX5_text 2 (some .int) : Cond) ∈ WL := WL_of 610 (by decide +kernel) rfl
theorem wl_611 : (Cond.methodLink RL 45 yX5_force : Cond) ∈ WL := WL_of 611 (by decide +kernel) rfl
theorem wl_612 : (Cond.instanceMethod yX5_force : Cond) ∈ WL := WL_of 612 (by decide +kernel) rfl
theorem wl_613 : (Cond.selects RX5 yX5_force yX5_force : Cond) ∈ WL := WL_of 613 (by decide +kernel) rfl
theorem wl_614 : (Cond.code yX5_force cX5_force 3 (some .int) : Cond) ∈ WL := WL_of 614 (by decide +kernel) rfl
theorem wl_615 : (Cond.methodLink RL 49 yX5_move : Cond) ∈ WL := WL_of 615 (by decide +kernel) rfl
theorem wl_616 : (Cond.instanceMethod yX5_move : Cond) ∈ WL := WL_of 616 (by decide +kernel) rfl
theorem wl_617 : (Cond.selects RX5 yX5_move yX5_move : Cond) ∈ WL := WL_of 617 (by decide +kernel) rfl
theorem wl_618 : (Cond.code yX5_move cX5_move 4 (some .int) : Cond) ∈ WL := WL_of 618 (by decide +kernel) rfl
theorem wl_642 : (Cond.methodLink RL 53 yX5_why : Cond) ∈ WL := WL_of 642 (by decide +kernel) rfl
theorem wl_643 : (Cond.instanceMethod yX5_why : Cond) ∈ WL := WL_of 643 (by decide +kernel) rfl
theorem wl_644 : (Cond.selects RX5 yX5_why yX5_why : Cond) ∈ WL := WL_of 644 (by decide +kernel) rfl
theorem wl_645 : (Cond.code yX5_why cX5_why 3 (some .int) : Cond) ∈ WL := WL_of 645 (by decide +kernel) rfl
theorem wl_646 : (Cond.methodLink RL 57 yX5_open : Cond) ∈ WL := WL_of 646 (by decide +kernel) rfl
theorem wl_647 : (Cond.instanceMethod yX5_open : Cond) ∈ WL := WL_of 647 (by decide +kernel) rfl
theorem wl_648 : (Cond.selects RX5 yX5_open yX5_open : Cond) ∈ WL := WL_of 648 (by decide +kernel) rfl
theorem wl_649 : (Cond.code yX5_open cX5_open 2 (some .int) : Cond) ∈ WL := WL_of 649 (by decide +kernel) rfl
theorem wl_665 : (Cond.methodLink RL 61 yX5_asks : Cond) ∈ WL := WL_of 665 (by decide +kernel) rfl
theorem wl_666 : (Cond.instanceMethod yX5_asks : Cond) ∈ WL := WL_of 666 (by decide +kernel) rfl
theorem wl_667 : (Cond.selects RX5 yX5_asks yX5_asks : Cond) ∈ WL := WL_of 667 (by decide +kernel) rfl
theorem wl_668 : (Cond.code yX5_asks cX5_asks 4 (some .int) : Cond) ∈ WL := WL_of 668 (by decide +kernel) rfl
theorem wl_677 : (Cond.methodLink RL 65 yX5_best : Cond) ∈ WL := WL_of 677 (by decide +kernel) rfl
theorem wl_678 : (Cond.instanceMethod yX5_best : Cond) ∈ WL := WL_of 678 (by decide +kernel) rfl
theorem wl_679 : (Cond.selects RX5 yX5_best yX5_best : Cond) ∈ WL := WL_of 679 (by decide +kernel) rfl
theorem wl_680 : (Cond.code yX5_best cX5_best 2 (some .int) : Cond) ∈ WL := WL_of 680 (by decide +kernel) rfl
theorem wl_776 : (Cond.methodLink RL 69 yX5_pack : Cond) ∈ WL := WL_of 776 (by decide +kernel) rfl
theorem wl_777 : (Cond.instanceMethod yX5_pack : Cond) ∈ WL := WL_of 777 (by decide +kernel) rfl
theorem wl_778 : (Cond.selects RX5 yX5_pack yX5_pack : Cond) ∈ WL := WL_of 778 (by decide +kernel) rfl
theorem wl_779 : (Cond.code yX5_pack cX5_pack 7 (some .int) : Cond) ∈ WL := WL_of 779 (by decide +kernel) rfl
theorem wl_787 : (Cond.methodLink RL 73 yX5_ring : Cond) ∈ WL := WL_of 787 (by decide +kernel) rfl
theorem wl_788 : (Cond.instanceMethod yX5_ring : Cond) ∈ WL := WL_of 788 (by decide +kernel) rfl
theorem wl_789 : (Cond.selects RX5 yX5_ring yX5_ring : Cond) ∈ WL := WL_of 789 (by decide +kernel) rfl
theorem wl_790 : (Cond.code yX5_ring cX5_ring 5 (some .int) : Cond) ∈ WL := WL_of 790 (by decide +kernel) rfl
theorem wl_791 : (Cond.methodLink RL 77 yX5_leave : Cond) ∈ WL := WL_of 791 (by decide +kernel) rfl
theorem wl_792 : (Cond.instanceMethod yX5_leave : Cond) ∈ WL := WL_of 792 (by decide +kernel) rfl
theorem wl_793 : (Cond.selects RX5 yX5_leave yX5_leave : Cond) ∈ WL := WL_of 793 (by decide +kernel) rfl
theorem wl_794 : (Cond.code yX5_leave cX5_leave 5 (some .int) : Cond) ∈ WL := WL_of 794 (by decide +kernel) rfl
theorem wl_795 : (Cond.methodLink RL 81 yX5_roomy : Cond) ∈ WL := WL_of 795 (by decide +kernel) rfl
theorem wl_796 : (Cond.instanceMethod yX5_roomy : Cond) ∈ WL := WL_of 796 (by decide +kernel) rfl
theorem wl_797 : (Cond.selects RX5 yX5_roomy yX5_roomy : Cond) ∈ WL := WL_of 797 (by decide +kernel) rfl
theorem wl_798 : (Cond.code yX5_roomy cX5_roomy 6 (some .int) : Cond) ∈ WL := WL_of 798 (by decide +kernel) rfl
theorem wl_799 : (Cond.methodLink RL 85 yX5_judge : Cond) ∈ WL := WL_of 799 (by decide +kernel) rfl
theorem wl_800 : (Cond.instanceMethod yX5_judge : Cond) ∈ WL := WL_of 800 (by decide +kernel) rfl
theorem wl_801 : (Cond.selects RX5 yX5_judge yX5_judge : Cond) ∈ WL := WL_of 801 (by decide +kernel) rfl
theorem wl_802 : (Cond.code yX5_judge cX5_judge 8 (some .int) : Cond) ∈ WL := WL_of 802 (by decide +kernel) rfl
theorem wl_811 : (Cond.methodLink RL 89 yX5_ways : Cond) ∈ WL := WL_of 811 (by decide +kernel) rfl
theorem wl_812 : (Cond.instanceMethod yX5_ways : Cond) ∈ WL := WL_of 812 (by decide +kernel) rfl
theorem wl_813 : (Cond.selects RX5 yX5_ways yX5_ways : Cond) ∈ WL := WL_of 813 (by decide +kernel) rfl
theorem wl_814 : (Cond.code yX5_ways cX5_ways 4 (some .long) : Cond) ∈ WL := WL_of 814 (by decide +kernel) rfl
theorem wl_834 : (Cond.methodLink RL 94 yX5_soonest : Cond) ∈ WL := WL_of 834 (by decide +kernel) rfl
theorem wl_835 : (Cond.instanceMethod yX5_soonest : Cond) ∈ WL := WL_of 835 (by decide +kernel) rfl
theorem wl_836 : (Cond.selects RX5 yX5_soonest yX5_soonest : Cond) ∈ WL := WL_of 836 (by decide +kernel) rfl
theorem wl_837 : (Cond.code yX5_soonest cX5_soonest 4 (some .int) : Cond) ∈ WL := WL_of 837 (by decide +kernel) rfl
theorem wl_842 : (Cond.methodLink RL 98 yX5_drawn : Cond) ∈ WL := WL_of 842 (by decide +kernel) rfl
theorem wl_843 : (Cond.instanceMethod yX5_drawn : Cond) ∈ WL := WL_of 843 (by decide +kernel) rfl
theorem wl_844 : (Cond.selects RX5 yX5_drawn yX5_drawn : Cond) ∈ WL := WL_of 844 (by decide +kernel) rfl
theorem wl_845 : (Cond.code yX5_drawn cX5_drawn 3 (some .int) : Cond) ∈ WL := WL_of 845 (by decide +kernel) rfl
theorem wl_855 : (Cond.methodLink RL 102 yX5_chance : Cond) ∈ WL := WL_of 855 (by decide +kernel) rfl
theorem wl_856 : (Cond.instanceMethod yX5_chance : Cond) ∈ WL := WL_of 856 (by decide +kernel) rfl
theorem wl_857 : (Cond.selects RX5 yX5_chance yX5_chance : Cond) ∈ WL := WL_of 857 (by decide +kernel) rfl
theorem wl_858 : (Cond.code yX5_chance cX5_chance 6 (some .long) : Cond) ∈ WL := WL_of 858 (by decide +kernel) rfl
theorem wl_862 : (Cond.methodLink RL 107 yX5_image : Cond) ∈ WL := WL_of 862 (by decide +kernel) rfl
theorem wl_863 : (Cond.instanceMethod yX5_image : Cond) ∈ WL := WL_of 863 (by decide +kernel) rfl
theorem wl_864 : (Cond.selects RX5 yX5_image yX5_image : Cond) ∈ WL := WL_of 864 (by decide +kernel) rfl
theorem wl_865 : (Cond.code yX5_image cX5_image 1 (some .int) : Cond) ∈ WL := WL_of 865 (by decide +kernel) rfl
theorem wl_866 : (Cond.methodLink RL 111 yX5_back : Cond) ∈ WL := WL_of 866 (by decide +kernel) rfl
theorem wl_867 : (Cond.instanceMethod yX5_back : Cond) ∈ WL := WL_of 867 (by decide +kernel) rfl
theorem wl_868 : (Cond.selects RX5 yX5_back yX5_back : Cond) ∈ WL := WL_of 868 (by decide +kernel) rfl
theorem wl_869 : (Cond.code yX5_back cX5_back 1 (some .int) : Cond) ∈ WL := WL_of 869 (by decide +kernel) rfl
theorem wl_870 : (Cond.methodLink RL 115 yX5_count : Cond) ∈ WL := WL_of 870 (by decide +kernel) rfl
theorem wl_871 : (Cond.instanceMethod yX5_count : Cond) ∈ WL := WL_of 871 (by decide +kernel) rfl
theorem wl_872 : (Cond.selects RX5 yX5_count yX5_count : Cond) ∈ WL := WL_of 872 (by decide +kernel) rfl
theorem wl_873 : (Cond.code yX5_count cX5_count 2 (some .int) : Cond) ∈ WL := WL_of 873 (by decide +kernel) rfl
theorem wl_874 : (Cond.methodLink RL 119 yX5_sheet : Cond) ∈ WL := WL_of 874 (by decide +kernel) rfl
theorem wl_875 : (Cond.instanceMethod yX5_sheet : Cond) ∈ WL := WL_of 875 (by decide +kernel) rfl
theorem wl_876 : (Cond.selects RX5 yX5_sheet yX5_sheet : Cond) ∈ WL := WL_of 876 (by decide +kernel) rfl
theorem wl_877 : (Cond.code yX5_sheet cX5_sheet 4 (some .int) : Cond) ∈ WL := WL_of 877 (by decide +kernel) rfl
theorem wl_882 : (Cond.methodLink RL 123 yX5_cell : Cond) ∈ WL := WL_of 882 (by decide +kernel) rfl
theorem wl_883 : (Cond.instanceMethod yX5_cell : Cond) ∈ WL := WL_of 883 (by decide +kernel) rfl
theorem wl_884 : (Cond.selects RX5 yX5_cell yX5_cell : Cond) ∈ WL := WL_of 884 (by decide +kernel) rfl
theorem wl_885 : (Cond.code yX5_cell cX5_cell 5 (some .int) : Cond) ∈ WL := WL_of 885 (by decide +kernel) rfl
theorem wl_890 : (Cond.methodLink RL 127 yX5_copy : Cond) ∈ WL := WL_of 890 (by decide +kernel) rfl
theorem wl_891 : (Cond.instanceMethod yX5_copy : Cond) ∈ WL := WL_of 891 (by decide +kernel) rfl
theorem wl_892 : (Cond.selects RX5 yX5_copy yX5_copy : Cond) ∈ WL := WL_of 892 (by decide +kernel) rfl
theorem wl_893 : (Cond.code yX5_copy cX5_copy 8 (some .int) : Cond) ∈ WL := WL_of 893 (by decide +kernel) rfl
theorem wl_899 : (Cond.methodLink RL 132 yX5_things : Cond) ∈ WL := WL_of 899 (by decide +kernel) rfl
theorem wl_900 : (Cond.instanceMethod yX5_things : Cond) ∈ WL := WL_of 900 (by decide +kernel) rfl
theorem wl_901 : (Cond.selects RX5 yX5_things yX5_things : Cond) ∈ WL := WL_of 901 (by decide +kernel) rfl
theorem wl_902 : (Cond.code yX5_things cX5_things 8 (some .int) : Cond) ∈ WL := WL_of 902 (by decide +kernel) rfl
theorem wl_904 : (Cond.methodLink RL 137 yX5_taken : Cond) ∈ WL := WL_of 904 (by decide +kernel) rfl
theorem wl_905 : (Cond.instanceMethod yX5_taken : Cond) ∈ WL := WL_of 905 (by decide +kernel) rfl
theorem wl_906 : (Cond.selects RX5 yX5_taken yX5_taken : Cond) ∈ WL := WL_of 906 (by decide +kernel) rfl
theorem wl_907 : (Cond.code yX5_taken cX5_taken 5 (some .int) : Cond) ∈ WL := WL_of 907 (by decide +kernel) rfl
theorem wl_1084 : (Cond.methodLink RL 17 yX6_hold : Cond) ∈ WL := WL_of 1084 (by decide +kernel) rfl
theorem wl_1085 : (Cond.instanceMethod yX6_hold : Cond) ∈ WL := WL_of 1085 (by decide +kernel) rfl
theorem wl_1086 : (Cond.selects RX6 yX6_hold yX6_hold : Cond) ∈ WL := WL_of 1086 (by decide +kernel) rfl
theorem wl_1087 : (Cond.code yX6_hold cX6_hold 3 (some .int) : Cond) ∈ WL := WL_of 1087 (by decide +kernel) rfl
theorem wl_1093 : (Cond.methodLink RL 21 yX6_thing : Cond) ∈ WL := WL_of 1093 (by decide +kernel) rfl
theorem wl_1130 : (Cond.methodLink RL 26 yX6_set : Cond) ∈ WL := WL_of 1130 (by decide +kernel) rfl
theorem wl_1131 : (Cond.instanceMethod yX6_set : Cond) ∈ WL := WL_of 1131 (by decide +kernel) rfl
theorem wl_1132 : (Cond.selects RX6 yX6_set yX6_set : Cond) ∈ WL := WL_of 1132 (by decide +kernel) rfl
theorem wl_1133 : (Cond.code yX6_set cX6_set 5 (some .int) : Cond) ∈ WL := WL_of 1133 (by decide +kernel) rfl
theorem wl_1139 : (Cond.methodLink RL 30 yX6_part : Cond) ∈ WL := WL_of 1139 (by decide +kernel) rfl
theorem wl_1140 : (Cond.instanceMethod yX6_part : Cond) ∈ WL := WL_of 1140 (by decide +kernel) rfl
theorem wl_1141 : (Cond.selects RX6 yX6_part yX6_part : Cond) ∈ WL := WL_of 1141 (by decide +kernel) rfl
theorem wl_1142 : (Cond.code yX6_part cX6_part 5 (some .int) : Cond) ∈ WL := WL_of 1142 (by decide +kernel) rfl
theorem wl_1143 : (Cond.methodLink RL 34 yX6_told : Cond) ∈ WL := WL_of 1143 (by decide +kernel) rfl
theorem wl_1144 : (Cond.instanceMethod yX6_told : Cond) ∈ WL := WL_of 1144 (by decide +kernel) rfl
theorem wl_1145 : (Cond.selects RX6 yX6_told yX6_told : Cond) ∈ WL := WL_of 1145 (by decide +kernel) rfl
theorem wl_1146 : (Cond.code yX6_told cX6_told 3 (some .int) : Cond) ∈ WL := WL_of 1146 (by decide +kernel) rfl
theorem wl_1152 : (Cond.methodLink RL 39 yX6_feed : Cond) ∈ WL := WL_of 1152 (by decide +kernel) rfl
theorem wl_1153 : (Cond.instanceMethod yX6_feed : Cond) ∈ WL := WL_of 1153 (by decide +kernel) rfl
theorem wl_1154 : (Cond.selects RX6 yX6_feed yX6_feed : Cond) ∈ WL := WL_of 1154 (by decide +kernel) rfl
theorem wl_1155 : (Cond.code yX6_feed cX6_feed 2 (some .int) : Cond) ∈ WL := WL_of 1155 (by decide +kernel) rfl
theorem wl_1157 : (Cond.methodLink RL 44 yX6_text : Cond) ∈ WL := WL_of 1157 (by decide +kernel) rfl
theorem wl_1158 : (Cond.instanceMethod yX6_text : Cond) ∈ WL := WL_of 1158 (by decide +kernel) rfl
theorem wl_1159 : (Cond.selects RX6 yX6_text yX6_text : Cond) ∈ WL := WL_of 1159 (by decide +kernel) rfl
theorem wl_1160 : (Cond.code yX6_text cX6_text 2 (some .int) : Cond) ∈ WL := WL_of 1160 (by decide +kernel) rfl
theorem wl_1351 : (Cond.methodLink RL 48 yX6_force : Cond) ∈ WL := WL_of 1351 (by decide +kernel) rfl
theorem wl_1352 : (Cond.instanceMethod yX6_force : Cond) ∈ WL := WL_of 1352 (by decide +kernel) rfl
theorem wl_1353 : (Cond.selects RX6 yX6_force yX6_force : Cond) ∈ WL := WL_of 1353 (by decide +kernel) rfl
theorem wl_1354 : (Cond.code yX6_force cX6_force 3 (some .int) : Cond) ∈ WL := WL_of 1354 (by decide +kernel) rfl
theorem wl_1355 : (Cond.methodLink RL 64 yX6_asks : Cond) ∈ WL := WL_of 1355 (by decide +kernel) rfl
theorem wl_1356 : (Cond.instanceMethod yX6_asks : Cond) ∈ WL := WL_of 1356 (by decide +kernel) rfl
theorem wl_1357 : (Cond.selects RX6 yX6_asks yX6_asks : Cond) ∈ WL := WL_of 1357 (by decide +kernel) rfl
theorem wl_1358 : (Cond.code yX6_asks cX6_asks 4 (some .int) : Cond) ∈ WL := WL_of 1358 (by decide +kernel) rfl
theorem wl_1367 : (Cond.methodLink RL 52 yX6_move : Cond) ∈ WL := WL_of 1367 (by decide +kernel) rfl
theorem wl_1379 : (Cond.methodLink RL 56 yX6_why : Cond) ∈ WL := WL_of 1379 (by decide +kernel) rfl
theorem wl_1380 : (Cond.instanceMethod yX6_why : Cond) ∈ WL := WL_of 1380 (by decide +kernel) rfl
theorem wl_1381 : (Cond.selects RX6 yX6_why yX6_why : Cond) ∈ WL := WL_of 1381 (by decide +kernel) rfl
theorem wl_1382 : (Cond.code yX6_why cX6_why 3 (some .int) : Cond) ∈ WL := WL_of 1382 (by decide +kernel) rfl
theorem wl_1383 : (Cond.methodLink RL 60 yX6_open : Cond) ∈ WL := WL_of 1383 (by decide +kernel) rfl
theorem wl_1384 : (Cond.instanceMethod yX6_open : Cond) ∈ WL := WL_of 1384 (by decide +kernel) rfl
theorem wl_1385 : (Cond.selects RX6 yX6_open yX6_open : Cond) ∈ WL := WL_of 1385 (by decide +kernel) rfl
theorem wl_1386 : (Cond.code yX6_open cX6_open 5 (some .int) : Cond) ∈ WL := WL_of 1386 (by decide +kernel) rfl
theorem wl_1391 : (Cond.methodLink RL 68 yX6_best : Cond) ∈ WL := WL_of 1391 (by decide +kernel) rfl
theorem wl_1392 : (Cond.instanceMethod yX6_best : Cond) ∈ WL := WL_of 1392 (by decide +kernel) rfl
theorem wl_1393 : (Cond.selects RX6 yX6_best yX6_best : Cond) ∈ WL := WL_of 1393 (by decide +kernel) rfl
theorem wl_1394 : (Cond.code yX6_best cX6_best 2 (some .int) : Cond) ∈ WL := WL_of 1394 (by decide +kernel) rfl
theorem wl_1434 : (Cond.methodLink RL 72 yX6_pack : Cond) ∈ WL := WL_of 1434 (by decide +kernel) rfl
theorem wl_1435 : (Cond.instanceMethod yX6_pack : Cond) ∈ WL := WL_of 1435 (by decide +kernel) rfl
theorem wl_1436 : (Cond.selects RX6 yX6_pack yX6_pack : Cond) ∈ WL := WL_of 1436 (by decide +kernel) rfl
theorem wl_1437 : (Cond.code yX6_pack cX6_pack 8 (some .int) : Cond) ∈ WL := WL_of 1437 (by decide +kernel) rfl
theorem wl_1438 : (Cond.methodLink RL 76 yX6_ring : Cond) ∈ WL := WL_of 1438 (by decide +kernel) rfl
theorem wl_1439 : (Cond.instanceMethod yX6_ring : Cond) ∈ WL := WL_of 1439 (by decide +kernel) rfl
theorem wl_1440 : (Cond.selects RX6 yX6_ring yX6_ring : Cond) ∈ WL := WL_of 1440 (by decide +kernel) rfl
theorem wl_1441 : (Cond.code yX6_ring cX6_ring 4 (some .int) : Cond) ∈ WL := WL_of 1441 (by decide +kernel) rfl
theorem wl_1442 : (Cond.methodLink RL 80 yX6_leave : Cond) ∈ WL := WL_of 1442 (by decide +kernel) rfl
theorem wl_1443 : (Cond.instanceMethod yX6_leave : Cond) ∈ WL := WL_of 1443 (by decide +kernel) rfl
theorem wl_1444 : (Cond.selects RX6 yX6_leave yX6_leave : Cond) ∈ WL := WL_of 1444 (by decide +kernel) rfl
theorem wl_1445 : (Cond.code yX6_leave cX6_leave 6 (some .int) : Cond) ∈ WL := WL_of 1445 (by decide +kernel) rfl
theorem wl_1446 : (Cond.methodLink RL 84 yX6_roomy : Cond) ∈ WL := WL_of 1446 (by decide +kernel) rfl
theorem wl_1447 : (Cond.instanceMethod yX6_roomy : Cond) ∈ WL := WL_of 1447 (by decide +kernel) rfl
theorem wl_1448 : (Cond.selects RX6 yX6_roomy yX6_roomy : Cond) ∈ WL := WL_of 1448 (by decide +kernel) rfl
theorem wl_1449 : (Cond.code yX6_roomy cX6_roomy 6 (some .int) : Cond) ∈ WL := WL_of 1449 (by decide +kernel) rfl
theorem wl_1450 : (Cond.methodLink RL 88 yX6_judge : Cond) ∈ WL := WL_of 1450 (by decide +kernel) rfl
theorem wl_1451 : (Cond.instanceMethod yX6_judge : Cond) ∈ WL := WL_of 1451 (by decide +kernel) rfl
theorem wl_1452 : (Cond.selects RX6 yX6_judge yX6_judge : Cond) ∈ WL := WL_of 1452 (by decide +kernel) rfl
theorem wl_1453 : (Cond.code yX6_judge cX6_judge 4 (some .int) : Cond) ∈ WL := WL_of 1453 (by decide +kernel) rfl
theorem wl_1462 : (Cond.methodLink RL 93 yX6_ways : Cond) ∈ WL := WL_of 1462 (by decide +kernel) rfl
theorem wl_1463 : (Cond.instanceMethod yX6_ways : Cond) ∈ WL := WL_of 1463 (by decide +kernel) rfl
theorem wl_1464 : (Cond.selects RX6 yX6_ways yX6_ways : Cond) ∈ WL := WL_of 1464 (by decide +kernel) rfl
theorem wl_1465 : (Cond.code yX6_ways cX6_ways 5 (some .long) : Cond) ∈ WL := WL_of 1465 (by decide +kernel) rfl
theorem wl_1480 : (Cond.methodLink RL 97 yX6_soonest : Cond) ∈ WL := WL_of 1480 (by decide +kernel) rfl
theorem wl_1481 : (Cond.instanceMethod yX6_soonest : Cond) ∈ WL := WL_of 1481 (by decide +kernel) rfl
theorem wl_1482 : (Cond.selects RX6 yX6_soonest yX6_soonest : Cond) ∈ WL := WL_of 1482 (by decide +kernel) rfl
theorem wl_1483 : (Cond.code yX6_soonest cX6_soonest 4 (some .int) : Cond) ∈ WL := WL_of 1483 (by decide +kernel) rfl
theorem wl_1484 : (Cond.methodLink RL 101 yX6_drawn : Cond) ∈ WL := WL_of 1484 (by decide +kernel) rfl
theorem wl_1485 : (Cond.instanceMethod yX6_drawn : Cond) ∈ WL := WL_of 1485 (by decide +kernel) rfl
theorem wl_1486 : (Cond.selects RX6 yX6_drawn yX6_drawn : Cond) ∈ WL := WL_of 1486 (by decide +kernel) rfl
theorem wl_1487 : (Cond.code yX6_drawn cX6_drawn 3 (some .int) : Cond) ∈ WL := WL_of 1487 (by decide +kernel) rfl
theorem wl_1494 : (Cond.methodLink RL 106 yX6_chance : Cond) ∈ WL := WL_of 1494 (by decide +kernel) rfl
theorem wl_1495 : (Cond.instanceMethod yX6_chance : Cond) ∈ WL := WL_of 1495 (by decide +kernel) rfl
theorem wl_1496 : (Cond.selects RX6 yX6_chance yX6_chance : Cond) ∈ WL := WL_of 1496 (by decide +kernel) rfl
theorem wl_1497 : (Cond.code yX6_chance cX6_chance 12 (some .long) : Cond) ∈ WL := WL_of 1497 (by decide +kernel) rfl
theorem wl_1499 : (Cond.methodLink RL 110 yX6_image : Cond) ∈ WL := WL_of 1499 (by decide +kernel) rfl
theorem wl_1500 : (Cond.instanceMethod yX6_image : Cond) ∈ WL := WL_of 1500 (by decide +kernel) rfl
theorem wl_1501 : (Cond.selects RX6 yX6_image yX6_image : Cond) ∈ WL := WL_of 1501 (by decide +kernel) rfl
theorem wl_1502 : (Cond.code yX6_image cX6_image 2 (some .int) : Cond) ∈ WL := WL_of 1502 (by decide +kernel) rfl
theorem wl_1503 : (Cond.methodLink RL 114 yX6_back : Cond) ∈ WL := WL_of 1503 (by decide +kernel) rfl
theorem wl_1504 : (Cond.instanceMethod yX6_back : Cond) ∈ WL := WL_of 1504 (by decide +kernel) rfl
theorem wl_1505 : (Cond.selects RX6 yX6_back yX6_back : Cond) ∈ WL := WL_of 1505 (by decide +kernel) rfl
theorem wl_1506 : (Cond.code yX6_back cX6_back 2 (some .int) : Cond) ∈ WL := WL_of 1506 (by decide +kernel) rfl
theorem wl_1507 : (Cond.methodLink RL 118 yX6_count : Cond) ∈ WL := WL_of 1507 (by decide +kernel) rfl
theorem wl_1508 : (Cond.instanceMethod yX6_count : Cond) ∈ WL := WL_of 1508 (by decide +kernel) rfl
theorem wl_1509 : (Cond.selects RX6 yX6_count yX6_count : Cond) ∈ WL := WL_of 1509 (by decide +kernel) rfl
theorem wl_1510 : (Cond.code yX6_count cX6_count 2 (some .int) : Cond) ∈ WL := WL_of 1510 (by decide +kernel) rfl
theorem wl_1512 : (Cond.methodLink RL 122 yX6_sheet : Cond) ∈ WL := WL_of 1512 (by decide +kernel) rfl
theorem wl_1513 : (Cond.instanceMethod yX6_sheet : Cond) ∈ WL := WL_of 1513 (by decide +kernel) rfl
theorem wl_1514 : (Cond.selects RX6 yX6_sheet yX6_sheet : Cond) ∈ WL := WL_of 1514 (by decide +kernel) rfl
theorem wl_1515 : (Cond.code yX6_sheet cX6_sheet 5 (some .int) : Cond) ∈ WL := WL_of 1515 (by decide +kernel) rfl
theorem wl_1517 : (Cond.methodLink RL 126 yX6_cell : Cond) ∈ WL := WL_of 1517 (by decide +kernel) rfl
theorem wl_1518 : (Cond.instanceMethod yX6_cell : Cond) ∈ WL := WL_of 1518 (by decide +kernel) rfl
theorem wl_1519 : (Cond.selects RX6 yX6_cell yX6_cell : Cond) ∈ WL := WL_of 1519 (by decide +kernel) rfl
theorem wl_1520 : (Cond.code yX6_cell cX6_cell 4 (some .int) : Cond) ∈ WL := WL_of 1520 (by decide +kernel) rfl
theorem wl_1521 : (Cond.methodLink RL 131 yX6_copy : Cond) ∈ WL := WL_of 1521 (by decide +kernel) rfl
theorem wl_1522 : (Cond.instanceMethod yX6_copy : Cond) ∈ WL := WL_of 1522 (by decide +kernel) rfl
theorem wl_1523 : (Cond.selects RX6 yX6_copy yX6_copy : Cond) ∈ WL := WL_of 1523 (by decide +kernel) rfl
theorem wl_1524 : (Cond.code yX6_copy cX6_copy 9 (some .int) : Cond) ∈ WL := WL_of 1524 (by decide +kernel) rfl
theorem wl_1525 : (Cond.methodLink RL 136 yX6_things : Cond) ∈ WL := WL_of 1525 (by decide +kernel) rfl
theorem wl_1526 : (Cond.instanceMethod yX6_things : Cond) ∈ WL := WL_of 1526 (by decide +kernel) rfl
theorem wl_1527 : (Cond.selects RX6 yX6_things yX6_things : Cond) ∈ WL := WL_of 1527 (by decide +kernel) rfl
theorem wl_1528 : (Cond.code yX6_things cX6_things 8 (some .int) : Cond) ∈ WL := WL_of 1528 (by decide +kernel) rfl
theorem wl_1530 : (Cond.methodLink RL 140 yX6_taken : Cond) ∈ WL := WL_of 1530 (by decide +kernel) rfl
theorem wl_1531 : (Cond.instanceMethod yX6_taken : Cond) ∈ WL := WL_of 1531 (by decide +kernel) rfl
theorem wl_1532 : (Cond.selects RX6 yX6_taken yX6_taken : Cond) ∈ WL := WL_of 1532 (by decide +kernel) rfl
theorem wl_1533 : (Cond.code yX6_taken cX6_taken 4 (some .int) : Cond) ∈ WL := WL_of 1533 (by decide +kernel) rfl
def St_hold (Rel : MM → MM → Prop) (F : Nat) : Prop := ∀ (mc mm : MM) (a0 a1 : Int32), Rel mc mm → ∃ r mc2 mm2, f_X5_hold a0 a1 mc = some (r, mc2) ∧ f_X6_hold a0 a1 mm = some (r, mm2) ∧ Rel mc2 mm2
def St_thing (Rel : MM → MM → Prop) (F : Nat) : Prop := ∀ (mc mm : MM) (a0 a1 : Int32), Rel mc mm → ∃ r mc2 mm2, f_X5_thing F a0 a1 mc = some (r, mc2) ∧ f_X6_thing F a0 a1 mm = some (r, mm2) ∧ Rel mc2 mm2
def St_set (Rel : MM → MM → Prop) (F : Nat) : Prop := ∀ (mc mm : MM) (a0 a1 a2 : Int32), Rel mc mm → ∃ r mc2 mm2, f_X5_set F a0 a1 a2 mc = some (r, mc2) ∧ f_X6_set F a0 a1 a2 mm = some (r, mm2) ∧ Rel mc2 mm2
def St_part (Rel : MM → MM → Prop) (F : Nat) : Prop := ∀ (mc mm : MM) (a0 a1 a2 : Int32), Rel mc mm → ∃ r mc2 mm2, f_X5_part a0 a1 a2 mc = some (r, mc2) ∧ f_X6_part a0 a1 a2 mm = some (r, mm2) ∧ Rel mc2 mm2
def St_told (Rel : MM → MM → Prop) (F : Nat) : Prop := ∀ (mc mm : MM) (a0 a1 : Int32), Rel mc mm → ∃ r, f_X5_told F a0 a1 mc = some r ∧ f_X6_told F a0 a1 mm = some r ∧ Rel mc mm
def St_feed (Rel : MM → MM → Prop) (F : Nat) : Prop := ∀ (mc mm : MM) (a0 : Int32), Rel mc mm → ∃ r mc2 mm2, f_X5_feed a0 mc = some (r, mc2) ∧ f_X6_feed a0 mm = some (r, mm2) ∧ Rel mc2 mm2
def St_text (Rel : MM → MM → Prop) (F : Nat) : Prop := ∀ (mc mm : MM), Rel mc mm → ∃ r mc2 mm2, f_X5_text F mc = some (r, mc2) ∧ f_X6_text F mm = some (r, mm2) ∧ Rel mc2 mm2
def St_force (Rel : MM → MM → Prop) (F : Nat) : Prop := ∀ (mc mm : MM) (a0 : Int32), Rel mc mm → ∃ r mc2 mm2, f_X5_force a0 mc = some (r, mc2) ∧ f_X6_force a0 mm = some (r, mm2) ∧ Rel mc2 mm2
def St_move (Rel : MM → MM → Prop) (F : Nat) : Prop := ∀ (mc mm : MM) (a0 a1 : Int32), Rel mc mm → ∃ r mc2 mm2, f_X5_move F a0 a1 mc = some (r, mc2) ∧ f_X6_move F a0 a1 mm = some (r, mm2) ∧ Rel mc2 mm2
def St_why (Rel : MM → MM → Prop) (F : Nat) : Prop := ∀ (mc mm : MM) (a0 a1 : Int32), Rel mc mm → ∃ r, f_X5_why F a0 a1 mc = some r ∧ f_X6_why F a0 a1 mm = some r ∧ Rel mc mm
def St_open (Rel : MM → MM → Prop) (F : Nat) : Prop := ∀ (mc mm : MM) (a0 : Int32), Rel mc mm → ∃ r, f_X5_open F a0 mc = some r ∧ f_X6_open F a0 mm = some r ∧ Rel mc mm
def St_asks (Rel : MM → MM → Prop) (F : Nat) : Prop := ∀ (mc mm : MM) (a0 a1 a2 : Int32), Rel mc mm → ∃ r mc2 mm2, f_X5_asks F a0 a1 a2 mc = some (r, mc2) ∧ f_X6_asks F a0 a1 a2 mm = some (r, mm2) ∧ Rel mc2 mm2
def St_best (Rel : MM → MM → Prop) (F : Nat) : Prop := ∀ (mc mm : MM) (a0 : Int32), Rel mc mm → ∃ r mc2 mm2, f_X5_best F a0 mc = some (r, mc2) ∧ f_X6_best F a0 mm = some (r, mm2) ∧ Rel mc2 mm2
def St_pack (Rel : MM → MM → Prop) (F : Nat) : Prop := ∀ (mc mm : MM) (a0 a1 : Int32), Rel mc mm → ∃ r mc2 mm2, f_X5_pack F a0 a1 mc = some (r, mc2) ∧ f_X6_pack F a0 a1 mm = some (r, mm2) ∧ Rel mc2 mm2
def St_ring (Rel : MM → MM → Prop) (F : Nat) : Prop := ∀ (mc mm : MM) (a0 : Int32), Rel mc mm → ∃ r mc2 mm2, f_X5_ring F a0 mc = some (r, mc2) ∧ f_X6_ring F a0 mm = some (r, mm2) ∧ Rel mc2 mm2
def St_leave (Rel : MM → MM → Prop) (F : Nat) : Prop := ∀ (mc mm : MM), Rel mc mm → ∃ r mc2 mm2, f_X5_leave F mc = some (r, mc2) ∧ f_X6_leave F mm = some (r, mm2) ∧ Rel mc2 mm2
def St_roomy (Rel : MM → MM → Prop) (F : Nat) : Prop := ∀ (mc mm : MM) (a0 : Int32), Rel mc mm → ∃ r mc2 mm2, f_X5_roomy F a0 mc = some (r, mc2) ∧ f_X6_roomy F a0 mm = some (r, mm2) ∧ Rel mc2 mm2
def St_judge (Rel : MM → MM → Prop) (F : Nat) : Prop := ∀ (mc mm : MM) (a0 a1 : Int32), Rel mc mm → ∃ r mc2 mm2, f_X5_judge F a0 a1 mc = some (r, mc2) ∧ f_X6_judge F a0 a1 mm = some (r, mm2) ∧ Rel mc2 mm2
def St_ways (Rel : MM → MM → Prop) (F : Nat) : Prop := ∀ (mc mm : MM) (a0 a1 : Int32), Rel mc mm → ∃ r mc2 mm2, f_X5_ways F a0 a1 mc = some (r, mc2) ∧ f_X6_ways F a0 a1 mm = some (r, mm2) ∧ Rel mc2 mm2
def St_soonest (Rel : MM → MM → Prop) (F : Nat) : Prop := ∀ (mc mm : MM) (a0 : Int32), Rel mc mm → ∃ r mc2 mm2, f_X5_soonest F a0 mc = some (r, mc2) ∧ f_X6_soonest F a0 mm = some (r, mm2) ∧ Rel mc2 mm2
def St_drawn (Rel : MM → MM → Prop) (F : Nat) : Prop := ∀ (mc mm : MM) (a0 a1 : Int32), Rel mc mm → ∃ r mc2 mm2, f_X5_drawn F a0 a1 mc = some (r, mc2) ∧ f_X6_drawn F a0 a1 mm = some (r, mm2) ∧ Rel mc2 mm2
def St_chance (Rel : MM → MM → Prop) (F : Nat) : Prop := ∀ (mc mm : MM) (a0 a1 a2 : Int32), Rel mc mm → ∃ r mc2 mm2, f_X5_chance F a0 a1 a2 mc = some (r, mc2) ∧ f_X6_chance F a0 a1 a2 mm = some (r, mm2) ∧ Rel mc2 mm2
def St_image (Rel : MM → MM → Prop) (F : Nat) : Prop := ∀ (mc mm : MM), Rel mc mm → ∃ r mc2 mm2, f_X5_image mc = some (r, mc2) ∧ f_X6_image F mm = some (r, mm2) ∧ Rel mc2 mm2
def St_back (Rel : MM → MM → Prop) (F : Nat) : Prop := ∀ (mc mm : MM), Rel mc mm → ∃ r mc2 mm2, f_X5_back mc = some (r, mc2) ∧ f_X6_back F mm = some (r, mm2) ∧ Rel mc2 mm2
def St_count (Rel : MM → MM → Prop) (F : Nat) : Prop := ∀ (mc mm : MM) (a0 : Int32), Rel mc mm → ∃ r, f_X5_count a0 mc = some r ∧ f_X6_count a0 mm = some r ∧ Rel mc mm
def St_sheet (Rel : MM → MM → Prop) (F : Nat) : Prop := ∀ (mc mm : MM) (a0 a1 a2 : Int32), Rel mc mm → ∃ r mc2 mm2, f_X5_sheet F a0 a1 a2 mc = some (r, mc2) ∧ f_X6_sheet F a0 a1 a2 mm = some (r, mm2) ∧ Rel mc2 mm2
def St_cell (Rel : MM → MM → Prop) (F : Nat) : Prop := ∀ (mc mm : MM) (a0 a1 a2 : Int32), Rel mc mm → ∃ r mc2 mm2, f_X5_cell a0 a1 a2 mc = some (r, mc2) ∧ f_X6_cell a0 a1 a2 mm = some (r, mm2) ∧ Rel mc2 mm2
def St_copy (Rel : MM → MM → Prop) (F : Nat) : Prop := ∀ (mc mm : MM) (a0 a1 a2 a3 a4 : Int32), Rel mc mm → ∃ r mc2 mm2, f_X5_copy a0 a1 a2 a3 a4 mc = some (r, mc2) ∧ f_X6_copy F a0 a1 a2 a3 a4 mm = some (r, mm2) ∧ Rel mc2 mm2
def St_things (Rel : MM → MM → Prop) (F : Nat) : Prop := ∀ (mc mm : MM) (a0 a1 a2 a3 : Int32), Rel mc mm → ∃ r mc2 mm2, f_X5_things F a0 a1 a2 a3 mc = some (r, mc2) ∧ f_X6_things F a0 a1 a2 a3 mm = some (r, mm2) ∧ Rel mc2 mm2
def St_taken (Rel : MM → MM → Prop) (F : Nat) : Prop := ∀ (mc mm : MM) (a0 a1 : Int32), Rel mc mm → ∃ r, f_X5_taken F a0 a1 mc = some r ∧ f_X6_taken F a0 a1 mm = some r ∧ Rel mc mm
set_option maxRecDepth 100000 in
set_option maxHeartbeats 8000000 in
theorem law_loop_open {Rel : MM → MM → Prop} {F : Nat} (h_hold : St_hold Rel F) (h_thing : St_thing Rel F) (h_set : St_set Rel F) (h_part : St_part Rel F) (h_told : St_told Rel F) (h_feed : St_feed Rel F) (h_text : St_text Rel F) (h_force : St_force Rel F) (h_move : St_move Rel F) (h_why : St_why Rel F) (h_open : St_open Rel F) (h_asks : St_asks Rel F) (h_best : St_best Rel F) (h_pack : St_pack Rel F) (h_ring : St_ring Rel F) (h_leave : St_leave Rel F) (h_roomy : St_roomy Rel F) (h_judge : St_judge Rel F) (h_ways : St_ways Rel F) (h_soonest : St_soonest Rel F) (h_drawn : St_drawn Rel F) (h_chance : St_chance Rel F) (h_image : St_image Rel F) (h_back : St_back Rel F) (h_count : St_count Rel F) (h_sheet : St_sheet Rel F) (h_cell : St_cell Rel F) (h_copy : St_copy Rel F) (h_things : St_things Rel F) (h_taken : St_taken Rel F) {p : Program} {l : Launch} {e : Env} {s : State} {mt : MethodId} {b : Nat} {below : List Frame} {meth : Method} {c : Code} {D : va_G} {cA : Nat → ClassId} {adc adm tb : Nat → Nat} {nc ns : Nat} {L : Nat} {xs : Nat → Int32} (hL : L ≤ 3072) (hcs : nc ≤ 600000 ∧ ns ≤ 7302250) (hr : meth.sig.returnType = ret) (hlocks : meth.locks = false) (C : CL p s mt b L xs c D cA adc adm nc ns tb) : ∀ (n i : Nat) (mc mm : MM) (x3 : Int32), i ≤ L → L - i < n → x3 = nI i → Rel mc mm → GL p l e s mt b below meth c (lw_Z below #[Value.ref b] s) D cA adc adm nc ns mc mm 18 [(0, .ref b), (1, .ref (adc 0)), (2, .ref (adm 0)), (3, .int x3)] [] := by
  intro n
  induction n with
  | zero => intro i mc mm x3 hi hn hx hR; exact absurd hn (Nat.not_lt_zero _)
  | succ n ih =>
  intro i mc mm x3 hi hn hx hR
  refine l_iload_n C dL_law_18 rfl 3 rfl ?_
  refine l_aload_n C dL_law_19 rfl 0 rfl ?_
  refine l_slen C dL_law_20 ?_
  refine l_bipush (v := 6) C dL_law_21 (by decide) ?_
  refine l_isub C dL_law_23 ?_
  refine l_gt (tgt := 1116) C dL_law_24 (by decide) (fun c24 => ?_) (fun c24 => ?_)
  · refine l_iconst (v := 1) C dL_law_1116 (by decide) ?_
    intro H locs ls hP hM hS hl
    refine va_forget hS.2.2 ?_
    refine W.widen (k := 600000) (n := 7302250) hcs.1 hcs.2 ?_
    exact lw_ret C.1 C.2.1 hr hlocks dL_law_1117
  have hj : i + 6 ≤ L := by
    rw [hx, show (6 : Int32) = nI 6 from rfl] at c24
    have h1 := Int32.not_lt.mp c24
    rw [Int32.le_iff_toInt_le, nI_toInt (by omega), pk_sub_toInt (by omega) (by omega)] at h1
    omega
  have hin : ∀ k, k < 6 → vp_in (x3 + nI k) L := by
    intro k hk
    rw [hx, nI_add]
    exact vp_in_nI (by omega) (by omega)
  have h_0 : vp_in x3 L := by rw [hx]; exact vp_in_nI (by omega) (by omega)
  have h_1 : vp_in (x3 + 1) L := hin 1 (by omega)
  have h_2 : vp_in (x3 + 2) L := hin 2 (by omega)
  have h_3 : vp_in (x3 + 3) L := hin 3 (by omega)
  have h_4 : vp_in (x3 + 4) L := hin 4 (by omega)
  have h_5 : vp_in (x3 + 5) L := hin 5 (by omega)
  have hend : ∀ (mc mm : MM), Rel mc mm → GL p l e s mt b below meth c (lw_Z below #[Value.ref b] s) D cA adc adm nc ns mc mm 1110 [(0, .ref b), (1, .ref (adc 0)), (2, .ref (adm 0)), (3, .int x3)] [] := by
    intro mc mm hR
    refine l_iinc (v := x3 + 6) (lv' := [(3, .int (x3 + 6)), (0, .ref b), (1, .ref (adc 0)), (2, .ref (adm 0))]) C dL_law_1110 (q := 3) rfl (by decide) rfl rfl ?_
    refine l_goto (tgt := 18) C dL_law_1113 (by decide) ?_
    exact l_sub [1, 2, 3, 0] rfl (ih (i + 6) mc mm (x3 + 6) hj (by omega) (by rw [hx]; exact nI_add i 6) hR)
  refine l_aload_n C dL_law_27 rfl 0 rfl ?_
  refine l_iload_n C dL_law_28 rfl 3 rfl ?_
  refine l_sld C h_0 dL_law_29 ?_
  refine l_bipush (v := 31) C dL_law_30 (by decide) ?_
  refine l_iand C dL_law_32 ?_
  generalize hsc : xs x3.toNatClampNeg &&& 31 = sc
  by_cases q0 : sc = 0
  · refine l_tbl (tgt := 168) C dL_law_33 (0 : Int32) q0 (by decide) rfl (by decide) ?_
    obtain ⟨r, mc2, mm2, hC, hM, hR2⟩ := h_hold mc mm (xs (x3 + 1).toNatClampNeg) (xs (x3 + 2).toNatClampNeg) hR
    refine l_aload_n C dL_law_168 rfl 1 rfl ?_
    refine l_aload_n C dL_law_169 rfl 0 rfl ?_
    refine l_iload_n C dL_law_170 rfl 3 rfl ?_
    refine l_iconst (v := 1) C dL_law_171 (by decide) ?_
    refine l_iadd C dL_law_172 ?_
    refine l_sld C h_1 dL_law_173 ?_
    refine l_aload_n C dL_law_174 rfl 0 rfl ?_
    refine l_iload_n C dL_law_175 rfl 3 rfl ?_
    refine l_iconst (v := 2) C dL_law_176 (by decide) ?_
    refine l_iadd C dL_law_177 ?_
    refine l_sld C h_2 dL_law_178 ?_
    refine l_callC C (c_X5_hold l hC) (cwVw 2 C.2.2.2.2.1 wl_514 wl_515 wl_516 wl_109 wl_517 rfl rfl (by decide +kernel) ⟨Nat.le_of_ble_eq_true rfl, Nat.le_of_ble_eq_true rfl⟩) rfl rfl rfl (Nat.le_of_ble_eq_true rfl) dL_law_179 ?_
    refine l_aload_n C dL_law_182 rfl 2 rfl ?_
    refine l_aload_n C dL_law_183 rfl 0 rfl ?_
    refine l_iload_n C dL_law_184 rfl 3 rfl ?_
    refine l_iconst (v := 1) C dL_law_185 (by decide) ?_
    refine l_iadd C dL_law_186 ?_
    refine l_sld C h_1 dL_law_187 ?_
    refine l_aload_n C dL_law_188 rfl 0 rfl ?_
    refine l_iload_n C dL_law_189 rfl 3 rfl ?_
    refine l_iconst (v := 2) C dL_law_190 (by decide) ?_
    refine l_iadd C dL_law_191 ?_
    refine l_sld C h_2 dL_law_192 ?_
    refine l_callM C (c_X6_hold l hM) (cwVw 2 C.2.2.2.2.1 wl_1084 wl_1085 wl_1086 wl_121 wl_1087 rfl rfl (by decide +kernel) ⟨Nat.le_of_ble_eq_true rfl, Nat.le_of_ble_eq_true rfl⟩) rfl rfl rfl (Nat.le_of_ble_eq_true rfl) dL_law_193 ?_
    refine l_same (tgt := 1110) C dL_law_196 (by decide) ?_
    exact hend _ _ hR2
  by_cases q1 : sc = 1
  · refine l_tbl (tgt := 201) C dL_law_33 (1 : Int32) q1 (by decide) rfl (by decide) ?_
    obtain ⟨r, mc2, mm2, hC, hM, hR2⟩ := h_thing mc mm (xs (x3 + 1).toNatClampNeg) (xs (x3 + 2).toNatClampNeg) hR
    refine l_aload_n C dL_law_201 rfl 1 rfl ?_
    refine l_aload_n C dL_law_202 rfl 0 rfl ?_
    refine l_iload_n C dL_law_203 rfl 3 rfl ?_
    refine l_iconst (v := 1) C dL_law_204 (by decide) ?_
    refine l_iadd C dL_law_205 ?_
    refine l_sld C h_1 dL_law_206 ?_
    refine l_aload_n C dL_law_207 rfl 0 rfl ?_
    refine l_iload_n C dL_law_208 rfl 3 rfl ?_
    refine l_iconst (v := 2) C dL_law_209 (by decide) ?_
    refine l_iadd C dL_law_210 ?_
    refine l_sld C h_2 dL_law_211 ?_
    refine l_callC C (c_X5_thing l hC) (cwVw 2 C.2.2.2.2.1 wl_528 wl_529 wl_530 wl_109 wl_531 rfl rfl (by decide +kernel) ⟨Nat.le_of_ble_eq_true rfl, Nat.le_of_ble_eq_true rfl⟩) rfl rfl rfl (Nat.le_of_ble_eq_true rfl) dL_law_212 ?_
    refine l_aload_n C dL_law_215 rfl 2 rfl ?_
    refine l_aload_n C dL_law_216 rfl 0 rfl ?_
    refine l_iload_n C dL_law_217 rfl 3 rfl ?_
    refine l_iconst (v := 1) C dL_law_218 (by decide) ?_
    refine l_iadd C dL_law_219 ?_
    refine l_sld C h_1 dL_law_220 ?_
    refine l_aload_n C dL_law_221 rfl 0 rfl ?_
    refine l_iload_n C dL_law_222 rfl 3 rfl ?_
    refine l_iconst (v := 2) C dL_law_223 (by decide) ?_
    refine l_iadd C dL_law_224 ?_
    refine l_sld C h_2 dL_law_225 ?_
    refine l_callM C (c_X6_thing l hM) (cwVw 2 C.2.2.2.2.1 wl_1093 wl_1094 wl_1095 wl_121 wl_1096 rfl rfl (by decide +kernel) ⟨Nat.le_of_ble_eq_true rfl, Nat.le_of_ble_eq_true rfl⟩) rfl rfl rfl (Nat.le_of_ble_eq_true rfl) dL_law_226 ?_
    refine l_same (tgt := 1110) C dL_law_229 (by decide) ?_
    exact hend _ _ hR2
  by_cases q2 : sc = 2
  · refine l_tbl (tgt := 234) C dL_law_33 (2 : Int32) q2 (by decide) rfl (by decide) ?_
    obtain ⟨r, mc2, mm2, hC, hM, hR2⟩ := h_set mc mm (xs (x3 + 1).toNatClampNeg) (xs (x3 + 2).toNatClampNeg) (xs (x3 + 3).toNatClampNeg) hR
    refine l_aload_n C dL_law_234 rfl 1 rfl ?_
    refine l_aload_n C dL_law_235 rfl 0 rfl ?_
    refine l_iload_n C dL_law_236 rfl 3 rfl ?_
    refine l_iconst (v := 1) C dL_law_237 (by decide) ?_
    refine l_iadd C dL_law_238 ?_
    refine l_sld C h_1 dL_law_239 ?_
    refine l_aload_n C dL_law_240 rfl 0 rfl ?_
    refine l_iload_n C dL_law_241 rfl 3 rfl ?_
    refine l_iconst (v := 2) C dL_law_242 (by decide) ?_
    refine l_iadd C dL_law_243 ?_
    refine l_sld C h_2 dL_law_244 ?_
    refine l_aload_n C dL_law_245 rfl 0 rfl ?_
    refine l_iload_n C dL_law_246 rfl 3 rfl ?_
    refine l_iconst (v := 3) C dL_law_247 (by decide) ?_
    refine l_iadd C dL_law_248 ?_
    refine l_sld C h_3 dL_law_249 ?_
    refine l_callC C (c_X5_set l hC) (cwVw 3 C.2.2.2.2.1 wl_545 wl_546 wl_547 wl_109 wl_548 rfl rfl (by decide +kernel) ⟨Nat.le_of_ble_eq_true rfl, Nat.le_of_ble_eq_true rfl⟩) rfl rfl rfl (Nat.le_of_ble_eq_true rfl) dL_law_250 ?_
    refine l_aload_n C dL_law_253 rfl 2 rfl ?_
    refine l_aload_n C dL_law_254 rfl 0 rfl ?_
    refine l_iload_n C dL_law_255 rfl 3 rfl ?_
    refine l_iconst (v := 1) C dL_law_256 (by decide) ?_
    refine l_iadd C dL_law_257 ?_
    refine l_sld C h_1 dL_law_258 ?_
    refine l_aload_n C dL_law_259 rfl 0 rfl ?_
    refine l_iload_n C dL_law_260 rfl 3 rfl ?_
    refine l_iconst (v := 2) C dL_law_261 (by decide) ?_
    refine l_iadd C dL_law_262 ?_
    refine l_sld C h_2 dL_law_263 ?_
    refine l_aload_n C dL_law_264 rfl 0 rfl ?_
    refine l_iload_n C dL_law_265 rfl 3 rfl ?_
    refine l_iconst (v := 3) C dL_law_266 (by decide) ?_
    refine l_iadd C dL_law_267 ?_
    refine l_sld C h_3 dL_law_268 ?_
    refine l_callM C (c_X6_set l hM) (cwVw 3 C.2.2.2.2.1 wl_1130 wl_1131 wl_1132 wl_121 wl_1133 rfl rfl (by decide +kernel) ⟨Nat.le_of_ble_eq_true rfl, Nat.le_of_ble_eq_true rfl⟩) rfl rfl rfl (Nat.le_of_ble_eq_true rfl) dL_law_269 ?_
    refine l_same (tgt := 1110) C dL_law_272 (by decide) ?_
    exact hend _ _ hR2
  by_cases q3 : sc = 3
  · refine l_tbl (tgt := 277) C dL_law_33 (3 : Int32) q3 (by decide) rfl (by decide) ?_
    obtain ⟨r, mc2, mm2, hC, hM, hR2⟩ := h_part mc mm (xs (x3 + 1).toNatClampNeg) (xs (x3 + 2).toNatClampNeg) (xs (x3 + 3).toNatClampNeg) hR
    refine l_aload_n C dL_law_277 rfl 1 rfl ?_
    refine l_aload_n C dL_law_278 rfl 0 rfl ?_
    refine l_iload_n C dL_law_279 rfl 3 rfl ?_
    refine l_iconst (v := 1) C dL_law_280 (by decide) ?_
    refine l_iadd C dL_law_281 ?_
    refine l_sld C h_1 dL_law_282 ?_
    refine l_aload_n C dL_law_283 rfl 0 rfl ?_
    refine l_iload_n C dL_law_284 rfl 3 rfl ?_
    refine l_iconst (v := 2) C dL_law_285 (by decide) ?_
    refine l_iadd C dL_law_286 ?_
    refine l_sld C h_2 dL_law_287 ?_
    refine l_aload_n C dL_law_288 rfl 0 rfl ?_
    refine l_iload_n C dL_law_289 rfl 3 rfl ?_
    refine l_iconst (v := 3) C dL_law_290 (by decide) ?_
    refine l_iadd C dL_law_291 ?_
    refine l_sld C h_3 dL_law_292 ?_
    refine l_callC C (c_X5_part l hC) (cwVw 3 C.2.2.2.2.1 wl_577 wl_578 wl_579 wl_109 wl_580 rfl rfl (by decide +kernel) ⟨Nat.le_of_ble_eq_true rfl, Nat.le_of_ble_eq_true rfl⟩) rfl rfl rfl (Nat.le_of_ble_eq_true rfl) dL_law_293 ?_
    refine l_aload_n C dL_law_296 rfl 2 rfl ?_
    refine l_aload_n C dL_law_297 rfl 0 rfl ?_
    refine l_iload_n C dL_law_298 rfl 3 rfl ?_
    refine l_iconst (v := 1) C dL_law_299 (by decide) ?_
    refine l_iadd C dL_law_300 ?_
    refine l_sld C h_1 dL_law_301 ?_
    refine l_aload_n C dL_law_302 rfl 0 rfl ?_
    refine l_iload_n C dL_law_303 rfl 3 rfl ?_
    refine l_iconst (v := 2) C dL_law_304 (by decide) ?_
    refine l_iadd C dL_law_305 ?_
    refine l_sld C h_2 dL_law_306 ?_
    refine l_aload_n C dL_law_307 rfl 0 rfl ?_
    refine l_iload_n C dL_law_308 rfl 3 rfl ?_
    refine l_iconst (v := 3) C dL_law_309 (by decide) ?_
    refine l_iadd C dL_law_310 ?_
    refine l_sld C h_3 dL_law_311 ?_
    refine l_callM C (c_X6_part l hM) (cwVw 3 C.2.2.2.2.1 wl_1139 wl_1140 wl_1141 wl_121 wl_1142 rfl rfl (by decide +kernel) ⟨Nat.le_of_ble_eq_true rfl, Nat.le_of_ble_eq_true rfl⟩) rfl rfl rfl (Nat.le_of_ble_eq_true rfl) dL_law_312 ?_
    refine l_same (tgt := 1110) C dL_law_315 (by decide) ?_
    exact hend _ _ hR2
  by_cases q4 : sc = 4
  · refine l_tbl (tgt := 320) C dL_law_33 (4 : Int32) q4 (by decide) rfl (by decide) ?_
    obtain ⟨r, hC, hM, hR2⟩ := h_told mc mm (xs (x3 + 1).toNatClampNeg) (xs (x3 + 2).toNatClampNeg) hR
    refine l_aload_n C dL_law_320 rfl 1 rfl ?_
    refine l_aload_n C dL_law_321 rfl 0 rfl ?_
    refine l_iload_n C dL_law_322 rfl 3 rfl ?_
    refine l_iconst (v := 1) C dL_law_323 (by decide) ?_
    refine l_iadd C dL_law_324 ?_
    refine l_sld C h_1 dL_law_325 ?_
    refine l_aload_n C dL_law_326 rfl 0 rfl ?_
    refine l_iload_n C dL_law_327 rfl 3 rfl ?_
    refine l_iconst (v := 2) C dL_law_328 (by decide) ?_
    refine l_iadd C dL_law_329 ?_
    refine l_sld C h_2 dL_law_330 ?_
    refine l_callC C (c_X5_told l hC) (cwVw 2 C.2.2.2.2.1 wl_584 wl_585 wl_586 wl_109 wl_587 rfl rfl (by decide +kernel) ⟨Nat.le_of_ble_eq_true rfl, Nat.le_of_ble_eq_true rfl⟩) rfl rfl rfl (Nat.le_of_ble_eq_true rfl) dL_law_331 ?_
    refine l_aload_n C dL_law_334 rfl 2 rfl ?_
    refine l_aload_n C dL_law_335 rfl 0 rfl ?_
    refine l_iload_n C dL_law_336 rfl 3 rfl ?_
    refine l_iconst (v := 1) C dL_law_337 (by decide) ?_
    refine l_iadd C dL_law_338 ?_
    refine l_sld C h_1 dL_law_339 ?_
    refine l_aload_n C dL_law_340 rfl 0 rfl ?_
    refine l_iload_n C dL_law_341 rfl 3 rfl ?_
    refine l_iconst (v := 2) C dL_law_342 (by decide) ?_
    refine l_iadd C dL_law_343 ?_
    refine l_sld C h_2 dL_law_344 ?_
    refine l_callM C (c_X6_told l hM) (cwVw 2 C.2.2.2.2.1 wl_1143 wl_1144 wl_1145 wl_121 wl_1146 rfl rfl (by decide +kernel) ⟨Nat.le_of_ble_eq_true rfl, Nat.le_of_ble_eq_true rfl⟩) rfl rfl rfl (Nat.le_of_ble_eq_true rfl) dL_law_345 ?_
    refine l_same (tgt := 1110) C dL_law_348 (by decide) ?_
    exact hend _ _ hR2
  by_cases q5 : sc = 5
  · refine l_tbl (tgt := 353) C dL_law_33 (5 : Int32) q5 (by decide) rfl (by decide) ?_
    obtain ⟨r, mc2, mm2, hC, hM, hR2⟩ := h_feed mc mm (xs (x3 + 1).toNatClampNeg) hR
    refine l_aload_n C dL_law_353 rfl 1 rfl ?_
    refine l_aload_n C dL_law_354 rfl 0 rfl ?_
    refine l_iload_n C dL_law_355 rfl 3 rfl ?_
    refine l_iconst (v := 1) C dL_law_356 (by decide) ?_
    refine l_iadd C dL_law_357 ?_
    refine l_sld C h_1 dL_law_358 ?_
    refine l_callC C (c_X5_feed l hC) (cwVw 1 C.2.2.2.2.1 wl_603 wl_604 wl_605 wl_109 wl_606 rfl rfl (by decide +kernel) ⟨Nat.le_of_ble_eq_true rfl, Nat.le_of_ble_eq_true rfl⟩) rfl rfl rfl (Nat.le_of_ble_eq_true rfl) dL_law_359 ?_
    refine l_aload_n C dL_law_362 rfl 2 rfl ?_
    refine l_aload_n C dL_law_363 rfl 0 rfl ?_
    refine l_iload_n C dL_law_364 rfl 3 rfl ?_
    refine l_iconst (v := 1) C dL_law_365 (by decide) ?_
    refine l_iadd C dL_law_366 ?_
    refine l_sld C h_1 dL_law_367 ?_
    refine l_callM C (c_X6_feed l hM) (cwVw 1 C.2.2.2.2.1 wl_1152 wl_1153 wl_1154 wl_121 wl_1155 rfl rfl (by decide +kernel) ⟨Nat.le_of_ble_eq_true rfl, Nat.le_of_ble_eq_true rfl⟩) rfl rfl rfl (Nat.le_of_ble_eq_true rfl) dL_law_368 ?_
    refine l_same (tgt := 1110) C dL_law_371 (by decide) ?_
    exact hend _ _ hR2
  by_cases q6 : sc = 6
  · refine l_tbl (tgt := 376) C dL_law_33 (6 : Int32) q6 (by decide) rfl (by decide) ?_
    obtain ⟨r, mc2, mm2, hC, hM, hR2⟩ := h_text mc mm  hR
    refine l_aload_n C dL_law_376 rfl 1 rfl ?_
    refine l_callC C (c_X5_text l hC) (cwVw 0 C.2.2.2.2.1 wl_607 wl_608 wl_609 wl_109 wl_610 rfl rfl (by decide +kernel) ⟨Nat.le_of_ble_eq_true rfl, Nat.le_of_ble_eq_true rfl⟩) rfl rfl rfl (Nat.le_of_ble_eq_true rfl) dL_law_377 ?_
    refine l_aload_n C dL_law_380 rfl 2 rfl ?_
    refine l_callM C (c_X6_text l hM) (cwVw 0 C.2.2.2.2.1 wl_1157 wl_1158 wl_1159 wl_121 wl_1160 rfl rfl (by decide +kernel) ⟨Nat.le_of_ble_eq_true rfl, Nat.le_of_ble_eq_true rfl⟩) rfl rfl rfl (Nat.le_of_ble_eq_true rfl) dL_law_381 ?_
    refine l_same (tgt := 1110) C dL_law_384 (by decide) ?_
    exact hend _ _ hR2
  by_cases q7 : sc = 7
  · refine l_tbl (tgt := 389) C dL_law_33 (7 : Int32) q7 (by decide) rfl (by decide) ?_
    obtain ⟨r, mc2, mm2, hC, hM, hR2⟩ := h_force mc mm (xs (x3 + 1).toNatClampNeg) hR
    refine l_aload_n C dL_law_389 rfl 1 rfl ?_
    refine l_aload_n C dL_law_390 rfl 0 rfl ?_
    refine l_iload_n C dL_law_391 rfl 3 rfl ?_
    refine l_iconst (v := 1) C dL_law_392 (by decide) ?_
    refine l_iadd C dL_law_393 ?_
    refine l_sld C h_1 dL_law_394 ?_
    refine l_callC C (c_X5_force l hC) (cwVw 1 C.2.2.2.2.1 wl_611 wl_612 wl_613 wl_109 wl_614 rfl rfl (by decide +kernel) ⟨Nat.le_of_ble_eq_true rfl, Nat.le_of_ble_eq_true rfl⟩) rfl rfl rfl (Nat.le_of_ble_eq_true rfl) dL_law_395 ?_
    refine l_aload_n C dL_law_398 rfl 2 rfl ?_
    refine l_aload_n C dL_law_399 rfl 0 rfl ?_
    refine l_iload_n C dL_law_400 rfl 3 rfl ?_
    refine l_iconst (v := 1) C dL_law_401 (by decide) ?_
    refine l_iadd C dL_law_402 ?_
    refine l_sld C h_1 dL_law_403 ?_
    refine l_callM C (c_X6_force l hM) (cwVw 1 C.2.2.2.2.1 wl_1351 wl_1352 wl_1353 wl_121 wl_1354 rfl rfl (by decide +kernel) ⟨Nat.le_of_ble_eq_true rfl, Nat.le_of_ble_eq_true rfl⟩) rfl rfl rfl (Nat.le_of_ble_eq_true rfl) dL_law_404 ?_
    refine l_same (tgt := 1110) C dL_law_407 (by decide) ?_
    exact hend _ _ hR2
  by_cases q8 : sc = 8
  · refine l_tbl (tgt := 412) C dL_law_33 (8 : Int32) q8 (by decide) rfl (by decide) ?_
    obtain ⟨r, mc2, mm2, hC, hM, hR2⟩ := h_move mc mm (xs (x3 + 1).toNatClampNeg) (xs (x3 + 2).toNatClampNeg) hR
    refine l_aload_n C dL_law_412 rfl 1 rfl ?_
    refine l_aload_n C dL_law_413 rfl 0 rfl ?_
    refine l_iload_n C dL_law_414 rfl 3 rfl ?_
    refine l_iconst (v := 1) C dL_law_415 (by decide) ?_
    refine l_iadd C dL_law_416 ?_
    refine l_sld C h_1 dL_law_417 ?_
    refine l_aload_n C dL_law_418 rfl 0 rfl ?_
    refine l_iload_n C dL_law_419 rfl 3 rfl ?_
    refine l_iconst (v := 2) C dL_law_420 (by decide) ?_
    refine l_iadd C dL_law_421 ?_
    refine l_sld C h_2 dL_law_422 ?_
    refine l_callC C (c_X5_move l hC) (cwVw 2 C.2.2.2.2.1 wl_615 wl_616 wl_617 wl_109 wl_618 rfl rfl (by decide +kernel) ⟨Nat.le_of_ble_eq_true rfl, Nat.le_of_ble_eq_true rfl⟩) rfl rfl rfl (Nat.le_of_ble_eq_true rfl) dL_law_423 ?_
    refine l_aload_n C dL_law_426 rfl 2 rfl ?_
    refine l_aload_n C dL_law_427 rfl 0 rfl ?_
    refine l_iload_n C dL_law_428 rfl 3 rfl ?_
    refine l_iconst (v := 1) C dL_law_429 (by decide) ?_
    refine l_iadd C dL_law_430 ?_
    refine l_sld C h_1 dL_law_431 ?_
    refine l_aload_n C dL_law_432 rfl 0 rfl ?_
    refine l_iload_n C dL_law_433 rfl 3 rfl ?_
    refine l_iconst (v := 2) C dL_law_434 (by decide) ?_
    refine l_iadd C dL_law_435 ?_
    refine l_sld C h_2 dL_law_436 ?_
    refine l_callM C (c_X6_move l hM) (cwVw 2 C.2.2.2.2.1 wl_1367 wl_1368 wl_1369 wl_121 wl_1370 rfl rfl (by decide +kernel) ⟨Nat.le_of_ble_eq_true rfl, Nat.le_of_ble_eq_true rfl⟩) rfl rfl rfl (Nat.le_of_ble_eq_true rfl) dL_law_437 ?_
    refine l_same (tgt := 1110) C dL_law_440 (by decide) ?_
    exact hend _ _ hR2
  by_cases q9 : sc = 9
  · refine l_tbl (tgt := 445) C dL_law_33 (9 : Int32) q9 (by decide) rfl (by decide) ?_
    obtain ⟨r, hC, hM, hR2⟩ := h_why mc mm (xs (x3 + 1).toNatClampNeg) (xs (x3 + 2).toNatClampNeg) hR
    refine l_aload_n C dL_law_445 rfl 1 rfl ?_
    refine l_aload_n C dL_law_446 rfl 0 rfl ?_
    refine l_iload_n C dL_law_447 rfl 3 rfl ?_
    refine l_iconst (v := 1) C dL_law_448 (by decide) ?_
    refine l_iadd C dL_law_449 ?_
    refine l_sld C h_1 dL_law_450 ?_
    refine l_aload_n C dL_law_451 rfl 0 rfl ?_
    refine l_iload_n C dL_law_452 rfl 3 rfl ?_
    refine l_iconst (v := 2) C dL_law_453 (by decide) ?_
    refine l_iadd C dL_law_454 ?_
    refine l_sld C h_2 dL_law_455 ?_
    refine l_callC C (c_X5_why l hC) (cwVw 2 C.2.2.2.2.1 wl_642 wl_643 wl_644 wl_109 wl_645 rfl rfl (by decide +kernel) ⟨Nat.le_of_ble_eq_true rfl, Nat.le_of_ble_eq_true rfl⟩) rfl rfl rfl (Nat.le_of_ble_eq_true rfl) dL_law_456 ?_
    refine l_aload_n C dL_law_459 rfl 2 rfl ?_
    refine l_aload_n C dL_law_460 rfl 0 rfl ?_
    refine l_iload_n C dL_law_461 rfl 3 rfl ?_
    refine l_iconst (v := 1) C dL_law_462 (by decide) ?_
    refine l_iadd C dL_law_463 ?_
    refine l_sld C h_1 dL_law_464 ?_
    refine l_aload_n C dL_law_465 rfl 0 rfl ?_
    refine l_iload_n C dL_law_466 rfl 3 rfl ?_
    refine l_iconst (v := 2) C dL_law_467 (by decide) ?_
    refine l_iadd C dL_law_468 ?_
    refine l_sld C h_2 dL_law_469 ?_
    refine l_callM C (c_X6_why l hM) (cwVw 2 C.2.2.2.2.1 wl_1379 wl_1380 wl_1381 wl_121 wl_1382 rfl rfl (by decide +kernel) ⟨Nat.le_of_ble_eq_true rfl, Nat.le_of_ble_eq_true rfl⟩) rfl rfl rfl (Nat.le_of_ble_eq_true rfl) dL_law_470 ?_
    refine l_same (tgt := 1110) C dL_law_473 (by decide) ?_
    exact hend _ _ hR2
  by_cases q10 : sc = 10
  · refine l_tbl (tgt := 478) C dL_law_33 (10 : Int32) q10 (by decide) rfl (by decide) ?_
    obtain ⟨r, hC, hM, hR2⟩ := h_open mc mm (xs (x3 + 1).toNatClampNeg) hR
    refine l_aload_n C dL_law_478 rfl 1 rfl ?_
    refine l_aload_n C dL_law_479 rfl 0 rfl ?_
    refine l_iload_n C dL_law_480 rfl 3 rfl ?_
    refine l_iconst (v := 1) C dL_law_481 (by decide) ?_
    refine l_iadd C dL_law_482 ?_
    refine l_sld C h_1 dL_law_483 ?_
    refine l_callC C (c_X5_open l hC) (cwVw 1 C.2.2.2.2.1 wl_646 wl_647 wl_648 wl_109 wl_649 rfl rfl (by decide +kernel) ⟨Nat.le_of_ble_eq_true rfl, Nat.le_of_ble_eq_true rfl⟩) rfl rfl rfl (Nat.le_of_ble_eq_true rfl) dL_law_484 ?_
    refine l_aload_n C dL_law_487 rfl 2 rfl ?_
    refine l_aload_n C dL_law_488 rfl 0 rfl ?_
    refine l_iload_n C dL_law_489 rfl 3 rfl ?_
    refine l_iconst (v := 1) C dL_law_490 (by decide) ?_
    refine l_iadd C dL_law_491 ?_
    refine l_sld C h_1 dL_law_492 ?_
    refine l_callM C (c_X6_open l hM) (cwVw 1 C.2.2.2.2.1 wl_1383 wl_1384 wl_1385 wl_121 wl_1386 rfl rfl (by decide +kernel) ⟨Nat.le_of_ble_eq_true rfl, Nat.le_of_ble_eq_true rfl⟩) rfl rfl rfl (Nat.le_of_ble_eq_true rfl) dL_law_493 ?_
    refine l_same (tgt := 1110) C dL_law_496 (by decide) ?_
    exact hend _ _ hR2
  by_cases q11 : sc = 11
  · refine l_tbl (tgt := 501) C dL_law_33 (11 : Int32) q11 (by decide) rfl (by decide) ?_
    obtain ⟨r, mc2, mm2, hC, hM, hR2⟩ := h_asks mc mm (xs (x3 + 1).toNatClampNeg) (xs (x3 + 2).toNatClampNeg) (xs (x3 + 3).toNatClampNeg) hR
    refine l_aload_n C dL_law_501 rfl 1 rfl ?_
    refine l_aload_n C dL_law_502 rfl 0 rfl ?_
    refine l_iload_n C dL_law_503 rfl 3 rfl ?_
    refine l_iconst (v := 1) C dL_law_504 (by decide) ?_
    refine l_iadd C dL_law_505 ?_
    refine l_sld C h_1 dL_law_506 ?_
    refine l_aload_n C dL_law_507 rfl 0 rfl ?_
    refine l_iload_n C dL_law_508 rfl 3 rfl ?_
    refine l_iconst (v := 2) C dL_law_509 (by decide) ?_
    refine l_iadd C dL_law_510 ?_
    refine l_sld C h_2 dL_law_511 ?_
    refine l_aload_n C dL_law_512 rfl 0 rfl ?_
    refine l_iload_n C dL_law_513 rfl 3 rfl ?_
    refine l_iconst (v := 3) C dL_law_514 (by decide) ?_
    refine l_iadd C dL_law_515 ?_
    refine l_sld C h_3 dL_law_516 ?_
    refine l_callC C (c_X5_asks l hC) (cwVw 3 C.2.2.2.2.1 wl_665 wl_666 wl_667 wl_109 wl_668 rfl rfl (by decide +kernel) ⟨Nat.le_of_ble_eq_true rfl, Nat.le_of_ble_eq_true rfl⟩) rfl rfl rfl (Nat.le_of_ble_eq_true rfl) dL_law_517 ?_
    refine l_aload_n C dL_law_520 rfl 2 rfl ?_
    refine l_aload_n C dL_law_521 rfl 0 rfl ?_
    refine l_iload_n C dL_law_522 rfl 3 rfl ?_
    refine l_iconst (v := 1) C dL_law_523 (by decide) ?_
    refine l_iadd C dL_law_524 ?_
    refine l_sld C h_1 dL_law_525 ?_
    refine l_aload_n C dL_law_526 rfl 0 rfl ?_
    refine l_iload_n C dL_law_527 rfl 3 rfl ?_
    refine l_iconst (v := 2) C dL_law_528 (by decide) ?_
    refine l_iadd C dL_law_529 ?_
    refine l_sld C h_2 dL_law_530 ?_
    refine l_aload_n C dL_law_531 rfl 0 rfl ?_
    refine l_iload_n C dL_law_532 rfl 3 rfl ?_
    refine l_iconst (v := 3) C dL_law_533 (by decide) ?_
    refine l_iadd C dL_law_534 ?_
    refine l_sld C h_3 dL_law_535 ?_
    refine l_callM C (c_X6_asks l hM) (cwVw 3 C.2.2.2.2.1 wl_1355 wl_1356 wl_1357 wl_121 wl_1358 rfl rfl (by decide +kernel) ⟨Nat.le_of_ble_eq_true rfl, Nat.le_of_ble_eq_true rfl⟩) rfl rfl rfl (Nat.le_of_ble_eq_true rfl) dL_law_536 ?_
    refine l_same (tgt := 1110) C dL_law_539 (by decide) ?_
    exact hend _ _ hR2
  by_cases q12 : sc = 12
  · refine l_tbl (tgt := 544) C dL_law_33 (12 : Int32) q12 (by decide) rfl (by decide) ?_
    obtain ⟨r, mc2, mm2, hC, hM, hR2⟩ := h_best mc mm (xs (x3 + 1).toNatClampNeg) hR
    refine l_aload_n C dL_law_544 rfl 1 rfl ?_
    refine l_aload_n C dL_law_545 rfl 0 rfl ?_
    refine l_iload_n C dL_law_546 rfl 3 rfl ?_
    refine l_iconst (v := 1) C dL_law_547 (by decide) ?_
    refine l_iadd C dL_law_548 ?_
    refine l_sld C h_1 dL_law_549 ?_
    refine l_callC C (c_X5_best l hC) (cwVw 1 C.2.2.2.2.1 wl_677 wl_678 wl_679 wl_109 wl_680 rfl rfl (by decide +kernel) ⟨Nat.le_of_ble_eq_true rfl, Nat.le_of_ble_eq_true rfl⟩) rfl rfl rfl (Nat.le_of_ble_eq_true rfl) dL_law_550 ?_
    refine l_aload_n C dL_law_553 rfl 2 rfl ?_
    refine l_aload_n C dL_law_554 rfl 0 rfl ?_
    refine l_iload_n C dL_law_555 rfl 3 rfl ?_
    refine l_iconst (v := 1) C dL_law_556 (by decide) ?_
    refine l_iadd C dL_law_557 ?_
    refine l_sld C h_1 dL_law_558 ?_
    refine l_callM C (c_X6_best l hM) (cwVw 1 C.2.2.2.2.1 wl_1391 wl_1392 wl_1393 wl_121 wl_1394 rfl rfl (by decide +kernel) ⟨Nat.le_of_ble_eq_true rfl, Nat.le_of_ble_eq_true rfl⟩) rfl rfl rfl (Nat.le_of_ble_eq_true rfl) dL_law_559 ?_
    refine l_same (tgt := 1110) C dL_law_562 (by decide) ?_
    exact hend _ _ hR2
  by_cases q13 : sc = 13
  · refine l_tbl (tgt := 567) C dL_law_33 (13 : Int32) q13 (by decide) rfl (by decide) ?_
    obtain ⟨r, mc2, mm2, hC, hM, hR2⟩ := h_pack mc mm (xs (x3 + 1).toNatClampNeg) (xs (x3 + 2).toNatClampNeg) hR
    refine l_aload_n C dL_law_567 rfl 1 rfl ?_
    refine l_aload_n C dL_law_568 rfl 0 rfl ?_
    refine l_iload_n C dL_law_569 rfl 3 rfl ?_
    refine l_iconst (v := 1) C dL_law_570 (by decide) ?_
    refine l_iadd C dL_law_571 ?_
    refine l_sld C h_1 dL_law_572 ?_
    refine l_aload_n C dL_law_573 rfl 0 rfl ?_
    refine l_iload_n C dL_law_574 rfl 3 rfl ?_
    refine l_iconst (v := 2) C dL_law_575 (by decide) ?_
    refine l_iadd C dL_law_576 ?_
    refine l_sld C h_2 dL_law_577 ?_
    refine l_callC C (c_X5_pack l hC) (cwVw 2 C.2.2.2.2.1 wl_776 wl_777 wl_778 wl_109 wl_779 rfl rfl (by decide +kernel) ⟨Nat.le_of_ble_eq_true rfl, Nat.le_of_ble_eq_true rfl⟩) rfl rfl rfl (Nat.le_of_ble_eq_true rfl) dL_law_578 ?_
    refine l_aload_n C dL_law_581 rfl 2 rfl ?_
    refine l_aload_n C dL_law_582 rfl 0 rfl ?_
    refine l_iload_n C dL_law_583 rfl 3 rfl ?_
    refine l_iconst (v := 1) C dL_law_584 (by decide) ?_
    refine l_iadd C dL_law_585 ?_
    refine l_sld C h_1 dL_law_586 ?_
    refine l_aload_n C dL_law_587 rfl 0 rfl ?_
    refine l_iload_n C dL_law_588 rfl 3 rfl ?_
    refine l_iconst (v := 2) C dL_law_589 (by decide) ?_
    refine l_iadd C dL_law_590 ?_
    refine l_sld C h_2 dL_law_591 ?_
    refine l_callM C (c_X6_pack l hM) (cwVw 2 C.2.2.2.2.1 wl_1434 wl_1435 wl_1436 wl_121 wl_1437 rfl rfl (by decide +kernel) ⟨Nat.le_of_ble_eq_true rfl, Nat.le_of_ble_eq_true rfl⟩) rfl rfl rfl (Nat.le_of_ble_eq_true rfl) dL_law_592 ?_
    refine l_same (tgt := 1110) C dL_law_595 (by decide) ?_
    exact hend _ _ hR2
  by_cases q14 : sc = 14
  · refine l_tbl (tgt := 600) C dL_law_33 (14 : Int32) q14 (by decide) rfl (by decide) ?_
    obtain ⟨r, mc2, mm2, hC, hM, hR2⟩ := h_ring mc mm (xs (x3 + 1).toNatClampNeg) hR
    refine l_aload_n C dL_law_600 rfl 1 rfl ?_
    refine l_aload_n C dL_law_601 rfl 0 rfl ?_
    refine l_iload_n C dL_law_602 rfl 3 rfl ?_
    refine l_iconst (v := 1) C dL_law_603 (by decide) ?_
    refine l_iadd C dL_law_604 ?_
    refine l_sld C h_1 dL_law_605 ?_
    refine l_callC C (c_X5_ring l hC) (cwVw 1 C.2.2.2.2.1 wl_787 wl_788 wl_789 wl_109 wl_790 rfl rfl (by decide +kernel) ⟨Nat.le_of_ble_eq_true rfl, Nat.le_of_ble_eq_true rfl⟩) rfl rfl rfl (Nat.le_of_ble_eq_true rfl) dL_law_606 ?_
    refine l_aload_n C dL_law_609 rfl 2 rfl ?_
    refine l_aload_n C dL_law_610 rfl 0 rfl ?_
    refine l_iload_n C dL_law_611 rfl 3 rfl ?_
    refine l_iconst (v := 1) C dL_law_612 (by decide) ?_
    refine l_iadd C dL_law_613 ?_
    refine l_sld C h_1 dL_law_614 ?_
    refine l_callM C (c_X6_ring l hM) (cwVw 1 C.2.2.2.2.1 wl_1438 wl_1439 wl_1440 wl_121 wl_1441 rfl rfl (by decide +kernel) ⟨Nat.le_of_ble_eq_true rfl, Nat.le_of_ble_eq_true rfl⟩) rfl rfl rfl (Nat.le_of_ble_eq_true rfl) dL_law_615 ?_
    refine l_same (tgt := 1110) C dL_law_618 (by decide) ?_
    exact hend _ _ hR2
  by_cases q15 : sc = 15
  · refine l_tbl (tgt := 623) C dL_law_33 (15 : Int32) q15 (by decide) rfl (by decide) ?_
    obtain ⟨r, mc2, mm2, hC, hM, hR2⟩ := h_leave mc mm  hR
    refine l_aload_n C dL_law_623 rfl 1 rfl ?_
    refine l_callC C (c_X5_leave l hC) (cwVw 0 C.2.2.2.2.1 wl_791 wl_792 wl_793 wl_109 wl_794 rfl rfl (by decide +kernel) ⟨Nat.le_of_ble_eq_true rfl, Nat.le_of_ble_eq_true rfl⟩) rfl rfl rfl (Nat.le_of_ble_eq_true rfl) dL_law_624 ?_
    refine l_aload_n C dL_law_627 rfl 2 rfl ?_
    refine l_callM C (c_X6_leave l hM) (cwVw 0 C.2.2.2.2.1 wl_1442 wl_1443 wl_1444 wl_121 wl_1445 rfl rfl (by decide +kernel) ⟨Nat.le_of_ble_eq_true rfl, Nat.le_of_ble_eq_true rfl⟩) rfl rfl rfl (Nat.le_of_ble_eq_true rfl) dL_law_628 ?_
    refine l_same (tgt := 1110) C dL_law_631 (by decide) ?_
    exact hend _ _ hR2
  by_cases q16 : sc = 16
  · refine l_tbl (tgt := 636) C dL_law_33 (16 : Int32) q16 (by decide) rfl (by decide) ?_
    obtain ⟨r, mc2, mm2, hC, hM, hR2⟩ := h_roomy mc mm (xs (x3 + 1).toNatClampNeg) hR
    refine l_aload_n C dL_law_636 rfl 1 rfl ?_
    refine l_aload_n C dL_law_637 rfl 0 rfl ?_
    refine l_iload_n C dL_law_638 rfl 3 rfl ?_
    refine l_iconst (v := 1) C dL_law_639 (by decide) ?_
    refine l_iadd C dL_law_640 ?_
    refine l_sld C h_1 dL_law_641 ?_
    refine l_callC C (c_X5_roomy l hC) (cwVw 1 C.2.2.2.2.1 wl_795 wl_796 wl_797 wl_109 wl_798 rfl rfl (by decide +kernel) ⟨Nat.le_of_ble_eq_true rfl, Nat.le_of_ble_eq_true rfl⟩) rfl rfl rfl (Nat.le_of_ble_eq_true rfl) dL_law_642 ?_
    refine l_aload_n C dL_law_645 rfl 2 rfl ?_
    refine l_aload_n C dL_law_646 rfl 0 rfl ?_
    refine l_iload_n C dL_law_647 rfl 3 rfl ?_
    refine l_iconst (v := 1) C dL_law_648 (by decide) ?_
    refine l_iadd C dL_law_649 ?_
    refine l_sld C h_1 dL_law_650 ?_
    refine l_callM C (c_X6_roomy l hM) (cwVw 1 C.2.2.2.2.1 wl_1446 wl_1447 wl_1448 wl_121 wl_1449 rfl rfl (by decide +kernel) ⟨Nat.le_of_ble_eq_true rfl, Nat.le_of_ble_eq_true rfl⟩) rfl rfl rfl (Nat.le_of_ble_eq_true rfl) dL_law_651 ?_
    refine l_same (tgt := 1110) C dL_law_654 (by decide) ?_
    exact hend _ _ hR2
  by_cases q17 : sc = 17
  · refine l_tbl (tgt := 659) C dL_law_33 (17 : Int32) q17 (by decide) rfl (by decide) ?_
    obtain ⟨r, mc2, mm2, hC, hM, hR2⟩ := h_judge mc mm (xs (x3 + 1).toNatClampNeg) (xs (x3 + 2).toNatClampNeg) hR
    refine l_aload_n C dL_law_659 rfl 1 rfl ?_
    refine l_aload_n C dL_law_660 rfl 0 rfl ?_
    refine l_iload_n C dL_law_661 rfl 3 rfl ?_
    refine l_iconst (v := 1) C dL_law_662 (by decide) ?_
    refine l_iadd C dL_law_663 ?_
    refine l_sld C h_1 dL_law_664 ?_
    refine l_aload_n C dL_law_665 rfl 0 rfl ?_
    refine l_iload_n C dL_law_666 rfl 3 rfl ?_
    refine l_iconst (v := 2) C dL_law_667 (by decide) ?_
    refine l_iadd C dL_law_668 ?_
    refine l_sld C h_2 dL_law_669 ?_
    refine l_callC C (c_X5_judge l hC) (cwVw 2 C.2.2.2.2.1 wl_799 wl_800 wl_801 wl_109 wl_802 rfl rfl (by decide +kernel) ⟨Nat.le_of_ble_eq_true rfl, Nat.le_of_ble_eq_true rfl⟩) rfl rfl rfl (Nat.le_of_ble_eq_true rfl) dL_law_670 ?_
    refine l_aload_n C dL_law_673 rfl 2 rfl ?_
    refine l_aload_n C dL_law_674 rfl 0 rfl ?_
    refine l_iload_n C dL_law_675 rfl 3 rfl ?_
    refine l_iconst (v := 1) C dL_law_676 (by decide) ?_
    refine l_iadd C dL_law_677 ?_
    refine l_sld C h_1 dL_law_678 ?_
    refine l_aload_n C dL_law_679 rfl 0 rfl ?_
    refine l_iload_n C dL_law_680 rfl 3 rfl ?_
    refine l_iconst (v := 2) C dL_law_681 (by decide) ?_
    refine l_iadd C dL_law_682 ?_
    refine l_sld C h_2 dL_law_683 ?_
    refine l_callM C (c_X6_judge l hM) (cwVw 2 C.2.2.2.2.1 wl_1450 wl_1451 wl_1452 wl_121 wl_1453 rfl rfl (by decide +kernel) ⟨Nat.le_of_ble_eq_true rfl, Nat.le_of_ble_eq_true rfl⟩) rfl rfl rfl (Nat.le_of_ble_eq_true rfl) dL_law_684 ?_
    refine l_same (tgt := 1110) C dL_law_687 (by decide) ?_
    exact hend _ _ hR2
  by_cases q18 : sc = 18
  · refine l_tbl (tgt := 692) C dL_law_33 (18 : Int32) q18 (by decide) rfl (by decide) ?_
    obtain ⟨r, mc2, mm2, hC, hM, hR2⟩ := h_ways mc mm (xs (x3 + 1).toNatClampNeg) (xs (x3 + 2).toNatClampNeg) hR
    refine l_aload_n C dL_law_692 rfl 1 rfl ?_
    refine l_aload_n C dL_law_693 rfl 0 rfl ?_
    refine l_iload_n C dL_law_694 rfl 3 rfl ?_
    refine l_iconst (v := 1) C dL_law_695 (by decide) ?_
    refine l_iadd C dL_law_696 ?_
    refine l_sld C h_1 dL_law_697 ?_
    refine l_aload_n C dL_law_698 rfl 0 rfl ?_
    refine l_iload_n C dL_law_699 rfl 3 rfl ?_
    refine l_iconst (v := 2) C dL_law_700 (by decide) ?_
    refine l_iadd C dL_law_701 ?_
    refine l_sld C h_2 dL_law_702 ?_
    refine l_callC C (c_X5_ways l hC) (cwVw 2 C.2.2.2.2.1 wl_811 wl_812 wl_813 wl_109 wl_814 rfl rfl (by decide +kernel) ⟨Nat.le_of_ble_eq_true rfl, Nat.le_of_ble_eq_true rfl⟩) rfl rfl rfl (Nat.le_of_ble_eq_true rfl) dL_law_703 ?_
    refine l_aload_n C dL_law_706 rfl 2 rfl ?_
    refine l_aload_n C dL_law_707 rfl 0 rfl ?_
    refine l_iload_n C dL_law_708 rfl 3 rfl ?_
    refine l_iconst (v := 1) C dL_law_709 (by decide) ?_
    refine l_iadd C dL_law_710 ?_
    refine l_sld C h_1 dL_law_711 ?_
    refine l_aload_n C dL_law_712 rfl 0 rfl ?_
    refine l_iload_n C dL_law_713 rfl 3 rfl ?_
    refine l_iconst (v := 2) C dL_law_714 (by decide) ?_
    refine l_iadd C dL_law_715 ?_
    refine l_sld C h_2 dL_law_716 ?_
    refine l_callM C (c_X6_ways l hM) (cwVw 2 C.2.2.2.2.1 wl_1462 wl_1463 wl_1464 wl_121 wl_1465 rfl rfl (by decide +kernel) ⟨Nat.le_of_ble_eq_true rfl, Nat.le_of_ble_eq_true rfl⟩) rfl rfl rfl (Nat.le_of_ble_eq_true rfl) dL_law_717 ?_
    refine l_lcmp C dL_law_720 ?_
    refine l_same0 (tgt := 1110) C dL_law_721 (by decide) ?_
    exact hend _ _ hR2
  by_cases q19 : sc = 19
  · refine l_tbl (tgt := 726) C dL_law_33 (19 : Int32) q19 (by decide) rfl (by decide) ?_
    obtain ⟨r, mc2, mm2, hC, hM, hR2⟩ := h_soonest mc mm (xs (x3 + 1).toNatClampNeg) hR
    refine l_aload_n C dL_law_726 rfl 1 rfl ?_
    refine l_aload_n C dL_law_727 rfl 0 rfl ?_
    refine l_iload_n C dL_law_728 rfl 3 rfl ?_
    refine l_iconst (v := 1) C dL_law_729 (by decide) ?_
    refine l_iadd C dL_law_730 ?_
    refine l_sld C h_1 dL_law_731 ?_
    refine l_callC C (c_X5_soonest l hC) (cwVw 1 C.2.2.2.2.1 wl_834 wl_835 wl_836 wl_109 wl_837 rfl rfl (by decide +kernel) ⟨Nat.le_of_ble_eq_true rfl, Nat.le_of_ble_eq_true rfl⟩) rfl rfl rfl (Nat.le_of_ble_eq_true rfl) dL_law_732 ?_
    refine l_aload_n C dL_law_735 rfl 2 rfl ?_
    refine l_aload_n C dL_law_736 rfl 0 rfl ?_
    refine l_iload_n C dL_law_737 rfl 3 rfl ?_
    refine l_iconst (v := 1) C dL_law_738 (by decide) ?_
    refine l_iadd C dL_law_739 ?_
    refine l_sld C h_1 dL_law_740 ?_
    refine l_callM C (c_X6_soonest l hM) (cwVw 1 C.2.2.2.2.1 wl_1480 wl_1481 wl_1482 wl_121 wl_1483 rfl rfl (by decide +kernel) ⟨Nat.le_of_ble_eq_true rfl, Nat.le_of_ble_eq_true rfl⟩) rfl rfl rfl (Nat.le_of_ble_eq_true rfl) dL_law_741 ?_
    refine l_same (tgt := 1110) C dL_law_744 (by decide) ?_
    exact hend _ _ hR2
  by_cases q20 : sc = 20
  · refine l_tbl (tgt := 749) C dL_law_33 (20 : Int32) q20 (by decide) rfl (by decide) ?_
    obtain ⟨r, mc2, mm2, hC, hM, hR2⟩ := h_drawn mc mm (xs (x3 + 1).toNatClampNeg) (xs (x3 + 2).toNatClampNeg) hR
    refine l_aload_n C dL_law_749 rfl 1 rfl ?_
    refine l_aload_n C dL_law_750 rfl 0 rfl ?_
    refine l_iload_n C dL_law_751 rfl 3 rfl ?_
    refine l_iconst (v := 1) C dL_law_752 (by decide) ?_
    refine l_iadd C dL_law_753 ?_
    refine l_sld C h_1 dL_law_754 ?_
    refine l_aload_n C dL_law_755 rfl 0 rfl ?_
    refine l_iload_n C dL_law_756 rfl 3 rfl ?_
    refine l_iconst (v := 2) C dL_law_757 (by decide) ?_
    refine l_iadd C dL_law_758 ?_
    refine l_sld C h_2 dL_law_759 ?_
    refine l_callC C (c_X5_drawn l hC) (cwVw 2 C.2.2.2.2.1 wl_842 wl_843 wl_844 wl_109 wl_845 rfl rfl (by decide +kernel) ⟨Nat.le_of_ble_eq_true rfl, Nat.le_of_ble_eq_true rfl⟩) rfl rfl rfl (Nat.le_of_ble_eq_true rfl) dL_law_760 ?_
    refine l_aload_n C dL_law_763 rfl 2 rfl ?_
    refine l_aload_n C dL_law_764 rfl 0 rfl ?_
    refine l_iload_n C dL_law_765 rfl 3 rfl ?_
    refine l_iconst (v := 1) C dL_law_766 (by decide) ?_
    refine l_iadd C dL_law_767 ?_
    refine l_sld C h_1 dL_law_768 ?_
    refine l_aload_n C dL_law_769 rfl 0 rfl ?_
    refine l_iload_n C dL_law_770 rfl 3 rfl ?_
    refine l_iconst (v := 2) C dL_law_771 (by decide) ?_
    refine l_iadd C dL_law_772 ?_
    refine l_sld C h_2 dL_law_773 ?_
    refine l_callM C (c_X6_drawn l hM) (cwVw 2 C.2.2.2.2.1 wl_1484 wl_1485 wl_1486 wl_121 wl_1487 rfl rfl (by decide +kernel) ⟨Nat.le_of_ble_eq_true rfl, Nat.le_of_ble_eq_true rfl⟩) rfl rfl rfl (Nat.le_of_ble_eq_true rfl) dL_law_774 ?_
    refine l_same (tgt := 1110) C dL_law_777 (by decide) ?_
    exact hend _ _ hR2
  by_cases q21 : sc = 21
  · refine l_tbl (tgt := 782) C dL_law_33 (21 : Int32) q21 (by decide) rfl (by decide) ?_
    obtain ⟨r, mc2, mm2, hC, hM, hR2⟩ := h_chance mc mm (xs (x3 + 1).toNatClampNeg) (xs (x3 + 2).toNatClampNeg) (xs (x3 + 3).toNatClampNeg) hR
    refine l_aload_n C dL_law_782 rfl 1 rfl ?_
    refine l_aload_n C dL_law_783 rfl 0 rfl ?_
    refine l_iload_n C dL_law_784 rfl 3 rfl ?_
    refine l_iconst (v := 1) C dL_law_785 (by decide) ?_
    refine l_iadd C dL_law_786 ?_
    refine l_sld C h_1 dL_law_787 ?_
    refine l_aload_n C dL_law_788 rfl 0 rfl ?_
    refine l_iload_n C dL_law_789 rfl 3 rfl ?_
    refine l_iconst (v := 2) C dL_law_790 (by decide) ?_
    refine l_iadd C dL_law_791 ?_
    refine l_sld C h_2 dL_law_792 ?_
    refine l_aload_n C dL_law_793 rfl 0 rfl ?_
    refine l_iload_n C dL_law_794 rfl 3 rfl ?_
    refine l_iconst (v := 3) C dL_law_795 (by decide) ?_
    refine l_iadd C dL_law_796 ?_
    refine l_sld C h_3 dL_law_797 ?_
    refine l_callC C (c_X5_chance l hC) (cwVw 3 C.2.2.2.2.1 wl_855 wl_856 wl_857 wl_109 wl_858 rfl rfl (by decide +kernel) ⟨Nat.le_of_ble_eq_true rfl, Nat.le_of_ble_eq_true rfl⟩) rfl rfl rfl (Nat.le_of_ble_eq_true rfl) dL_law_798 ?_
    refine l_aload_n C dL_law_801 rfl 2 rfl ?_
    refine l_aload_n C dL_law_802 rfl 0 rfl ?_
    refine l_iload_n C dL_law_803 rfl 3 rfl ?_
    refine l_iconst (v := 1) C dL_law_804 (by decide) ?_
    refine l_iadd C dL_law_805 ?_
    refine l_sld C h_1 dL_law_806 ?_
    refine l_aload_n C dL_law_807 rfl 0 rfl ?_
    refine l_iload_n C dL_law_808 rfl 3 rfl ?_
    refine l_iconst (v := 2) C dL_law_809 (by decide) ?_
    refine l_iadd C dL_law_810 ?_
    refine l_sld C h_2 dL_law_811 ?_
    refine l_aload_n C dL_law_812 rfl 0 rfl ?_
    refine l_iload_n C dL_law_813 rfl 3 rfl ?_
    refine l_iconst (v := 3) C dL_law_814 (by decide) ?_
    refine l_iadd C dL_law_815 ?_
    refine l_sld C h_3 dL_law_816 ?_
    refine l_callM C (c_X6_chance l hM) (cwVw 3 C.2.2.2.2.1 wl_1494 wl_1495 wl_1496 wl_121 wl_1497 rfl rfl (by decide +kernel) ⟨Nat.le_of_ble_eq_true rfl, Nat.le_of_ble_eq_true rfl⟩) rfl rfl rfl (Nat.le_of_ble_eq_true rfl) dL_law_817 ?_
    refine l_lcmp C dL_law_820 ?_
    refine l_same0 (tgt := 1110) C dL_law_821 (by decide) ?_
    exact hend _ _ hR2
  by_cases q22 : sc = 22
  · refine l_tbl (tgt := 826) C dL_law_33 (22 : Int32) q22 (by decide) rfl (by decide) ?_
    obtain ⟨r, mc2, mm2, hC, hM, hR2⟩ := h_image mc mm  hR
    refine l_aload_n C dL_law_826 rfl 1 rfl ?_
    refine l_callC C (c_X5_image l hC) (cwVw 0 C.2.2.2.2.1 wl_862 wl_863 wl_864 wl_109 wl_865 rfl rfl (by decide +kernel) ⟨Nat.le_of_ble_eq_true rfl, Nat.le_of_ble_eq_true rfl⟩) rfl rfl rfl (Nat.le_of_ble_eq_true rfl) dL_law_827 ?_
    refine l_aload_n C dL_law_830 rfl 2 rfl ?_
    refine l_callM C (c_X6_image l hM) (cwVw 0 C.2.2.2.2.1 wl_1499 wl_1500 wl_1501 wl_121 wl_1502 rfl rfl (by decide +kernel) ⟨Nat.le_of_ble_eq_true rfl, Nat.le_of_ble_eq_true rfl⟩) rfl rfl rfl (Nat.le_of_ble_eq_true rfl) dL_law_831 ?_
    refine l_same (tgt := 1110) C dL_law_834 (by decide) ?_
    exact hend _ _ hR2
  by_cases q23 : sc = 23
  · refine l_tbl (tgt := 839) C dL_law_33 (23 : Int32) q23 (by decide) rfl (by decide) ?_
    obtain ⟨r, mc2, mm2, hC, hM, hR2⟩ := h_back mc mm  hR
    refine l_aload_n C dL_law_839 rfl 1 rfl ?_
    refine l_callC C (c_X5_back l hC) (cwVw 0 C.2.2.2.2.1 wl_866 wl_867 wl_868 wl_109 wl_869 rfl rfl (by decide +kernel) ⟨Nat.le_of_ble_eq_true rfl, Nat.le_of_ble_eq_true rfl⟩) rfl rfl rfl (Nat.le_of_ble_eq_true rfl) dL_law_840 ?_
    refine l_aload_n C dL_law_843 rfl 2 rfl ?_
    refine l_callM C (c_X6_back l hM) (cwVw 0 C.2.2.2.2.1 wl_1503 wl_1504 wl_1505 wl_121 wl_1506 rfl rfl (by decide +kernel) ⟨Nat.le_of_ble_eq_true rfl, Nat.le_of_ble_eq_true rfl⟩) rfl rfl rfl (Nat.le_of_ble_eq_true rfl) dL_law_844 ?_
    refine l_same (tgt := 1110) C dL_law_847 (by decide) ?_
    exact hend _ _ hR2
  by_cases q24 : sc = 24
  · refine l_tbl (tgt := 852) C dL_law_33 (24 : Int32) q24 (by decide) rfl (by decide) ?_
    obtain ⟨r, hC, hM, hR2⟩ := h_count mc mm (xs (x3 + 1).toNatClampNeg) hR
    refine l_aload_n C dL_law_852 rfl 1 rfl ?_
    refine l_aload_n C dL_law_853 rfl 0 rfl ?_
    refine l_iload_n C dL_law_854 rfl 3 rfl ?_
    refine l_iconst (v := 1) C dL_law_855 (by decide) ?_
    refine l_iadd C dL_law_856 ?_
    refine l_sld C h_1 dL_law_857 ?_
    refine l_callC C (c_X5_count l hC) (cwVw 1 C.2.2.2.2.1 wl_870 wl_871 wl_872 wl_109 wl_873 rfl rfl (by decide +kernel) ⟨Nat.le_of_ble_eq_true rfl, Nat.le_of_ble_eq_true rfl⟩) rfl rfl rfl (Nat.le_of_ble_eq_true rfl) dL_law_858 ?_
    refine l_aload_n C dL_law_861 rfl 2 rfl ?_
    refine l_aload_n C dL_law_862 rfl 0 rfl ?_
    refine l_iload_n C dL_law_863 rfl 3 rfl ?_
    refine l_iconst (v := 1) C dL_law_864 (by decide) ?_
    refine l_iadd C dL_law_865 ?_
    refine l_sld C h_1 dL_law_866 ?_
    refine l_callM C (c_X6_count l hM) (cwVw 1 C.2.2.2.2.1 wl_1507 wl_1508 wl_1509 wl_121 wl_1510 rfl rfl (by decide +kernel) ⟨Nat.le_of_ble_eq_true rfl, Nat.le_of_ble_eq_true rfl⟩) rfl rfl rfl (Nat.le_of_ble_eq_true rfl) dL_law_867 ?_
    refine l_same (tgt := 1110) C dL_law_870 (by decide) ?_
    exact hend _ _ hR2
  by_cases q25 : sc = 25
  · refine l_tbl (tgt := 875) C dL_law_33 (25 : Int32) q25 (by decide) rfl (by decide) ?_
    obtain ⟨r, mc2, mm2, hC, hM, hR2⟩ := h_sheet mc mm (xs (x3 + 1).toNatClampNeg) (xs (x3 + 2).toNatClampNeg) (xs (x3 + 3).toNatClampNeg) hR
    refine l_aload_n C dL_law_875 rfl 1 rfl ?_
    refine l_aload_n C dL_law_876 rfl 0 rfl ?_
    refine l_iload_n C dL_law_877 rfl 3 rfl ?_
    refine l_iconst (v := 1) C dL_law_878 (by decide) ?_
    refine l_iadd C dL_law_879 ?_
    refine l_sld C h_1 dL_law_880 ?_
    refine l_aload_n C dL_law_881 rfl 0 rfl ?_
    refine l_iload_n C dL_law_882 rfl 3 rfl ?_
    refine l_iconst (v := 2) C dL_law_883 (by decide) ?_
    refine l_iadd C dL_law_884 ?_
    refine l_sld C h_2 dL_law_885 ?_
    refine l_aload_n C dL_law_886 rfl 0 rfl ?_
    refine l_iload_n C dL_law_887 rfl 3 rfl ?_
    refine l_iconst (v := 3) C dL_law_888 (by decide) ?_
    refine l_iadd C dL_law_889 ?_
    refine l_sld C h_3 dL_law_890 ?_
    refine l_callC C (c_X5_sheet l hC) (cwVw 3 C.2.2.2.2.1 wl_874 wl_875 wl_876 wl_109 wl_877 rfl rfl (by decide +kernel) ⟨Nat.le_of_ble_eq_true rfl, Nat.le_of_ble_eq_true rfl⟩) rfl rfl rfl (Nat.le_of_ble_eq_true rfl) dL_law_891 ?_
    refine l_aload_n C dL_law_894 rfl 2 rfl ?_
    refine l_aload_n C dL_law_895 rfl 0 rfl ?_
    refine l_iload_n C dL_law_896 rfl 3 rfl ?_
    refine l_iconst (v := 1) C dL_law_897 (by decide) ?_
    refine l_iadd C dL_law_898 ?_
    refine l_sld C h_1 dL_law_899 ?_
    refine l_aload_n C dL_law_900 rfl 0 rfl ?_
    refine l_iload_n C dL_law_901 rfl 3 rfl ?_
    refine l_iconst (v := 2) C dL_law_902 (by decide) ?_
    refine l_iadd C dL_law_903 ?_
    refine l_sld C h_2 dL_law_904 ?_
    refine l_aload_n C dL_law_905 rfl 0 rfl ?_
    refine l_iload_n C dL_law_906 rfl 3 rfl ?_
    refine l_iconst (v := 3) C dL_law_907 (by decide) ?_
    refine l_iadd C dL_law_908 ?_
    refine l_sld C h_3 dL_law_909 ?_
    refine l_callM C (c_X6_sheet l hM) (cwVw 3 C.2.2.2.2.1 wl_1512 wl_1513 wl_1514 wl_121 wl_1515 rfl rfl (by decide +kernel) ⟨Nat.le_of_ble_eq_true rfl, Nat.le_of_ble_eq_true rfl⟩) rfl rfl rfl (Nat.le_of_ble_eq_true rfl) dL_law_910 ?_
    refine l_same (tgt := 1110) C dL_law_913 (by decide) ?_
    exact hend _ _ hR2
  by_cases q26 : sc = 26
  · refine l_tbl (tgt := 918) C dL_law_33 (26 : Int32) q26 (by decide) rfl (by decide) ?_
    obtain ⟨r, mc2, mm2, hC, hM, hR2⟩ := h_cell mc mm (xs (x3 + 1).toNatClampNeg) (xs (x3 + 2).toNatClampNeg) (xs (x3 + 3).toNatClampNeg) hR
    refine l_aload_n C dL_law_918 rfl 1 rfl ?_
    refine l_aload_n C dL_law_919 rfl 0 rfl ?_
    refine l_iload_n C dL_law_920 rfl 3 rfl ?_
    refine l_iconst (v := 1) C dL_law_921 (by decide) ?_
    refine l_iadd C dL_law_922 ?_
    refine l_sld C h_1 dL_law_923 ?_
    refine l_aload_n C dL_law_924 rfl 0 rfl ?_
    refine l_iload_n C dL_law_925 rfl 3 rfl ?_
    refine l_iconst (v := 2) C dL_law_926 (by decide) ?_
    refine l_iadd C dL_law_927 ?_
    refine l_sld C h_2 dL_law_928 ?_
    refine l_aload_n C dL_law_929 rfl 0 rfl ?_
    refine l_iload_n C dL_law_930 rfl 3 rfl ?_
    refine l_iconst (v := 3) C dL_law_931 (by decide) ?_
    refine l_iadd C dL_law_932 ?_
    refine l_sld C h_3 dL_law_933 ?_
    refine l_callC C (c_X5_cell l hC) (cwVw 3 C.2.2.2.2.1 wl_882 wl_883 wl_884 wl_109 wl_885 rfl rfl (by decide +kernel) ⟨Nat.le_of_ble_eq_true rfl, Nat.le_of_ble_eq_true rfl⟩) rfl rfl rfl (Nat.le_of_ble_eq_true rfl) dL_law_934 ?_
    refine l_aload_n C dL_law_937 rfl 2 rfl ?_
    refine l_aload_n C dL_law_938 rfl 0 rfl ?_
    refine l_iload_n C dL_law_939 rfl 3 rfl ?_
    refine l_iconst (v := 1) C dL_law_940 (by decide) ?_
    refine l_iadd C dL_law_941 ?_
    refine l_sld C h_1 dL_law_942 ?_
    refine l_aload_n C dL_law_943 rfl 0 rfl ?_
    refine l_iload_n C dL_law_944 rfl 3 rfl ?_
    refine l_iconst (v := 2) C dL_law_945 (by decide) ?_
    refine l_iadd C dL_law_946 ?_
    refine l_sld C h_2 dL_law_947 ?_
    refine l_aload_n C dL_law_948 rfl 0 rfl ?_
    refine l_iload_n C dL_law_949 rfl 3 rfl ?_
    refine l_iconst (v := 3) C dL_law_950 (by decide) ?_
    refine l_iadd C dL_law_951 ?_
    refine l_sld C h_3 dL_law_952 ?_
    refine l_callM C (c_X6_cell l hM) (cwVw 3 C.2.2.2.2.1 wl_1517 wl_1518 wl_1519 wl_121 wl_1520 rfl rfl (by decide +kernel) ⟨Nat.le_of_ble_eq_true rfl, Nat.le_of_ble_eq_true rfl⟩) rfl rfl rfl (Nat.le_of_ble_eq_true rfl) dL_law_953 ?_
    refine l_same (tgt := 1110) C dL_law_956 (by decide) ?_
    exact hend _ _ hR2
  by_cases q27 : sc = 27
  · refine l_tbl (tgt := 961) C dL_law_33 (27 : Int32) q27 (by decide) rfl (by decide) ?_
    obtain ⟨r, mc2, mm2, hC, hM, hR2⟩ := h_copy mc mm (xs (x3 + 1).toNatClampNeg) (xs (x3 + 2).toNatClampNeg) (xs (x3 + 3).toNatClampNeg) (xs (x3 + 4).toNatClampNeg) (xs (x3 + 5).toNatClampNeg) hR
    refine l_aload_n C dL_law_961 rfl 1 rfl ?_
    refine l_aload_n C dL_law_962 rfl 0 rfl ?_
    refine l_iload_n C dL_law_963 rfl 3 rfl ?_
    refine l_iconst (v := 1) C dL_law_964 (by decide) ?_
    refine l_iadd C dL_law_965 ?_
    refine l_sld C h_1 dL_law_966 ?_
    refine l_aload_n C dL_law_967 rfl 0 rfl ?_
    refine l_iload_n C dL_law_968 rfl 3 rfl ?_
    refine l_iconst (v := 2) C dL_law_969 (by decide) ?_
    refine l_iadd C dL_law_970 ?_
    refine l_sld C h_2 dL_law_971 ?_
    refine l_aload_n C dL_law_972 rfl 0 rfl ?_
    refine l_iload_n C dL_law_973 rfl 3 rfl ?_
    refine l_iconst (v := 3) C dL_law_974 (by decide) ?_
    refine l_iadd C dL_law_975 ?_
    refine l_sld C h_3 dL_law_976 ?_
    refine l_aload_n C dL_law_977 rfl 0 rfl ?_
    refine l_iload_n C dL_law_978 rfl 3 rfl ?_
    refine l_iconst (v := 4) C dL_law_979 (by decide) ?_
    refine l_iadd C dL_law_980 ?_
    refine l_sld C h_4 dL_law_981 ?_
    refine l_aload_n C dL_law_982 rfl 0 rfl ?_
    refine l_iload_n C dL_law_983 rfl 3 rfl ?_
    refine l_iconst (v := 5) C dL_law_984 (by decide) ?_
    refine l_iadd C dL_law_985 ?_
    refine l_sld C h_5 dL_law_986 ?_
    refine l_callC C (c_X5_copy l hC) (cwVw 5 C.2.2.2.2.1 wl_890 wl_891 wl_892 wl_109 wl_893 rfl rfl (by decide +kernel) ⟨Nat.le_of_ble_eq_true rfl, Nat.le_of_ble_eq_true rfl⟩) rfl rfl rfl (Nat.le_of_ble_eq_true rfl) dL_law_987 ?_
    refine l_aload_n C dL_law_990 rfl 2 rfl ?_
    refine l_aload_n C dL_law_991 rfl 0 rfl ?_
    refine l_iload_n C dL_law_992 rfl 3 rfl ?_
    refine l_iconst (v := 1) C dL_law_993 (by decide) ?_
    refine l_iadd C dL_law_994 ?_
    refine l_sld C h_1 dL_law_995 ?_
    refine l_aload_n C dL_law_996 rfl 0 rfl ?_
    refine l_iload_n C dL_law_997 rfl 3 rfl ?_
    refine l_iconst (v := 2) C dL_law_998 (by decide) ?_
    refine l_iadd C dL_law_999 ?_
    refine l_sld C h_2 dL_law_1000 ?_
    refine l_aload_n C dL_law_1001 rfl 0 rfl ?_
    refine l_iload_n C dL_law_1002 rfl 3 rfl ?_
    refine l_iconst (v := 3) C dL_law_1003 (by decide) ?_
    refine l_iadd C dL_law_1004 ?_
    refine l_sld C h_3 dL_law_1005 ?_
    refine l_aload_n C dL_law_1006 rfl 0 rfl ?_
    refine l_iload_n C dL_law_1007 rfl 3 rfl ?_
    refine l_iconst (v := 4) C dL_law_1008 (by decide) ?_
    refine l_iadd C dL_law_1009 ?_
    refine l_sld C h_4 dL_law_1010 ?_
    refine l_aload_n C dL_law_1011 rfl 0 rfl ?_
    refine l_iload_n C dL_law_1012 rfl 3 rfl ?_
    refine l_iconst (v := 5) C dL_law_1013 (by decide) ?_
    refine l_iadd C dL_law_1014 ?_
    refine l_sld C h_5 dL_law_1015 ?_
    refine l_callM C (c_X6_copy l hM) (cwVw 5 C.2.2.2.2.1 wl_1521 wl_1522 wl_1523 wl_121 wl_1524 rfl rfl (by decide +kernel) ⟨Nat.le_of_ble_eq_true rfl, Nat.le_of_ble_eq_true rfl⟩) rfl rfl rfl (Nat.le_of_ble_eq_true rfl) dL_law_1016 ?_
    refine l_same (tgt := 1110) C dL_law_1019 (by decide) ?_
    exact hend _ _ hR2
  by_cases q28 : sc = 28
  · refine l_tbl (tgt := 1024) C dL_law_33 (28 : Int32) q28 (by decide) rfl (by decide) ?_
    obtain ⟨r, mc2, mm2, hC, hM, hR2⟩ := h_things mc mm (xs (x3 + 1).toNatClampNeg) (xs (x3 + 2).toNatClampNeg) (xs (x3 + 3).toNatClampNeg) (xs (x3 + 4).toNatClampNeg) hR
    refine l_aload_n C dL_law_1024 rfl 1 rfl ?_
    refine l_aload_n C dL_law_1025 rfl 0 rfl ?_
    refine l_iload_n C dL_law_1026 rfl 3 rfl ?_
    refine l_iconst (v := 1) C dL_law_1027 (by decide) ?_
    refine l_iadd C dL_law_1028 ?_
    refine l_sld C h_1 dL_law_1029 ?_
    refine l_aload_n C dL_law_1030 rfl 0 rfl ?_
    refine l_iload_n C dL_law_1031 rfl 3 rfl ?_
    refine l_iconst (v := 2) C dL_law_1032 (by decide) ?_
    refine l_iadd C dL_law_1033 ?_
    refine l_sld C h_2 dL_law_1034 ?_
    refine l_aload_n C dL_law_1035 rfl 0 rfl ?_
    refine l_iload_n C dL_law_1036 rfl 3 rfl ?_
    refine l_iconst (v := 3) C dL_law_1037 (by decide) ?_
    refine l_iadd C dL_law_1038 ?_
    refine l_sld C h_3 dL_law_1039 ?_
    refine l_aload_n C dL_law_1040 rfl 0 rfl ?_
    refine l_iload_n C dL_law_1041 rfl 3 rfl ?_
    refine l_iconst (v := 4) C dL_law_1042 (by decide) ?_
    refine l_iadd C dL_law_1043 ?_
    refine l_sld C h_4 dL_law_1044 ?_
    refine l_callC C (c_X5_things l hC) (cwVw 4 C.2.2.2.2.1 wl_899 wl_900 wl_901 wl_109 wl_902 rfl rfl (by decide +kernel) ⟨Nat.le_of_ble_eq_true rfl, Nat.le_of_ble_eq_true rfl⟩) rfl rfl rfl (Nat.le_of_ble_eq_true rfl) dL_law_1045 ?_
    refine l_aload_n C dL_law_1048 rfl 2 rfl ?_
    refine l_aload_n C dL_law_1049 rfl 0 rfl ?_
    refine l_iload_n C dL_law_1050 rfl 3 rfl ?_
    refine l_iconst (v := 1) C dL_law_1051 (by decide) ?_
    refine l_iadd C dL_law_1052 ?_
    refine l_sld C h_1 dL_law_1053 ?_
    refine l_aload_n C dL_law_1054 rfl 0 rfl ?_
    refine l_iload_n C dL_law_1055 rfl 3 rfl ?_
    refine l_iconst (v := 2) C dL_law_1056 (by decide) ?_
    refine l_iadd C dL_law_1057 ?_
    refine l_sld C h_2 dL_law_1058 ?_
    refine l_aload_n C dL_law_1059 rfl 0 rfl ?_
    refine l_iload_n C dL_law_1060 rfl 3 rfl ?_
    refine l_iconst (v := 3) C dL_law_1061 (by decide) ?_
    refine l_iadd C dL_law_1062 ?_
    refine l_sld C h_3 dL_law_1063 ?_
    refine l_aload_n C dL_law_1064 rfl 0 rfl ?_
    refine l_iload_n C dL_law_1065 rfl 3 rfl ?_
    refine l_iconst (v := 4) C dL_law_1066 (by decide) ?_
    refine l_iadd C dL_law_1067 ?_
    refine l_sld C h_4 dL_law_1068 ?_
    refine l_callM C (c_X6_things l hM) (cwVw 4 C.2.2.2.2.1 wl_1525 wl_1526 wl_1527 wl_121 wl_1528 rfl rfl (by decide +kernel) ⟨Nat.le_of_ble_eq_true rfl, Nat.le_of_ble_eq_true rfl⟩) rfl rfl rfl (Nat.le_of_ble_eq_true rfl) dL_law_1069 ?_
    refine l_same (tgt := 1110) C dL_law_1072 (by decide) ?_
    exact hend _ _ hR2
  by_cases q29 : sc = 29
  · refine l_tbl (tgt := 1077) C dL_law_33 (29 : Int32) q29 (by decide) rfl (by decide) ?_
    obtain ⟨r, hC, hM, hR2⟩ := h_taken mc mm (xs (x3 + 1).toNatClampNeg) (xs (x3 + 2).toNatClampNeg) hR
    refine l_aload_n C dL_law_1077 rfl 1 rfl ?_
    refine l_aload_n C dL_law_1078 rfl 0 rfl ?_
    refine l_iload_n C dL_law_1079 rfl 3 rfl ?_
    refine l_iconst (v := 1) C dL_law_1080 (by decide) ?_
    refine l_iadd C dL_law_1081 ?_
    refine l_sld C h_1 dL_law_1082 ?_
    refine l_aload_n C dL_law_1083 rfl 0 rfl ?_
    refine l_iload_n C dL_law_1084 rfl 3 rfl ?_
    refine l_iconst (v := 2) C dL_law_1085 (by decide) ?_
    refine l_iadd C dL_law_1086 ?_
    refine l_sld C h_2 dL_law_1087 ?_
    refine l_callC C (c_X5_taken l hC) (cwVw 2 C.2.2.2.2.1 wl_904 wl_905 wl_906 wl_109 wl_907 rfl rfl (by decide +kernel) ⟨Nat.le_of_ble_eq_true rfl, Nat.le_of_ble_eq_true rfl⟩) rfl rfl rfl (Nat.le_of_ble_eq_true rfl) dL_law_1088 ?_
    refine l_aload_n C dL_law_1091 rfl 2 rfl ?_
    refine l_aload_n C dL_law_1092 rfl 0 rfl ?_
    refine l_iload_n C dL_law_1093 rfl 3 rfl ?_
    refine l_iconst (v := 1) C dL_law_1094 (by decide) ?_
    refine l_iadd C dL_law_1095 ?_
    refine l_sld C h_1 dL_law_1096 ?_
    refine l_aload_n C dL_law_1097 rfl 0 rfl ?_
    refine l_iload_n C dL_law_1098 rfl 3 rfl ?_
    refine l_iconst (v := 2) C dL_law_1099 (by decide) ?_
    refine l_iadd C dL_law_1100 ?_
    refine l_sld C h_2 dL_law_1101 ?_
    refine l_callM C (c_X6_taken l hM) (cwVw 2 C.2.2.2.2.1 wl_1530 wl_1531 wl_1532 wl_121 wl_1533 rfl rfl (by decide +kernel) ⟨Nat.le_of_ble_eq_true rfl, Nat.le_of_ble_eq_true rfl⟩) rfl rfl rfl (Nat.le_of_ble_eq_true rfl) dL_law_1102 ?_
    refine l_same (tgt := 1110) C dL_law_1105 (by decide) ?_
    exact hend _ _ hR2
  refine l_tblOut (tgt := 1110) C dL_law_33 (by have t0 := ti_ne q0 (z := 0) (by decide); have t1 := ti_ne q1 (z := 1) (by decide); have t2 := ti_ne q2 (z := 2) (by decide); have t3 := ti_ne q3 (z := 3) (by decide); have t4 := ti_ne q4 (z := 4) (by decide); have t5 := ti_ne q5 (z := 5) (by decide); have t6 := ti_ne q6 (z := 6) (by decide); have t7 := ti_ne q7 (z := 7) (by decide); have t8 := ti_ne q8 (z := 8) (by decide); have t9 := ti_ne q9 (z := 9) (by decide); have t10 := ti_ne q10 (z := 10) (by decide); have t11 := ti_ne q11 (z := 11) (by decide); have t12 := ti_ne q12 (z := 12) (by decide); have t13 := ti_ne q13 (z := 13) (by decide); have t14 := ti_ne q14 (z := 14) (by decide); have t15 := ti_ne q15 (z := 15) (by decide); have t16 := ti_ne q16 (z := 16) (by decide); have t17 := ti_ne q17 (z := 17) (by decide); have t18 := ti_ne q18 (z := 18) (by decide); have t19 := ti_ne q19 (z := 19) (by decide); have t20 := ti_ne q20 (z := 20) (by decide); have t21 := ti_ne q21 (z := 21) (by decide); have t22 := ti_ne q22 (z := 22) (by decide); have t23 := ti_ne q23 (z := 23) (by decide); have t24 := ti_ne q24 (z := 24) (by decide); have t25 := ti_ne q25 (z := 25) (by decide); have t26 := ti_ne q26 (z := 26) (by decide); have t27 := ti_ne q27 (z := 27) (by decide); have t28 := ti_ne q28 (z := 28) (by decide); have t29 := ti_ne q29 (z := 29) (by decide); omega) (by decide) ?_
  exact hend _ _ hR
