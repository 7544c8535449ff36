theorem hq_92 : Cond.classLink "HeapGamesLaw" 7 "HeapGames" ∈ hm_tbl := hm_in 92 (by decide +kernel) rfl
theorem hq_93 : Cond.instantiable "HeapGames" 10 ∈ hm_tbl := hm_in 93 (by decide +kernel) rfl
theorem hq_94 : Cond.methodLink "HeapGamesLaw" 9 ⟨"HeapGames", "<init>", "()V"⟩ ∈ hm_tbl := hm_in 94 (by decide +kernel) rfl
theorem hq_95 : Cond.instanceMethod ⟨"HeapGames", "<init>", "()V"⟩ ∈ hm_tbl := hm_in 95 (by decide +kernel) rfl
theorem hq_96 : Cond.code ⟨"HeapGames", "<init>", "()V"⟩ prog_1_method_1_code 4 none ∈ hm_tbl := hm_in 96 (by decide +kernel) rfl
theorem hq_437 : Cond.methodLink "HeapGamesLaw" 13 ⟨"HeapGames", "setDigit", "(II)I"⟩ ∈ hm_tbl := hm_in 437 (by decide +kernel) rfl
theorem hq_438 : Cond.instanceMethod ⟨"HeapGames", "setDigit", "(II)I"⟩ ∈ hm_tbl := hm_in 438 (by decide +kernel) rfl
theorem hq_439 : Cond.selects "HeapGames" ⟨"HeapGames", "setDigit", "(II)I"⟩ ⟨"HeapGames", "setDigit", "(II)I"⟩ ∈ hm_tbl := hm_in 439 (by decide +kernel) rfl
theorem hq_440 : Cond.code ⟨"HeapGames", "setDigit", "(II)I"⟩ prog_1_method_2_code 4 (some .int) ∈ hm_tbl := hm_in 440 (by decide +kernel) rfl
theorem hq_474 : Cond.methodLink "HeapGamesLaw" 18 ⟨"HeapGames", "setObliging", "(I)I"⟩ ∈ hm_tbl := hm_in 474 (by decide +kernel) rfl
theorem hq_475 : Cond.instanceMethod ⟨"HeapGames", "setObliging", "(I)I"⟩ ∈ hm_tbl := hm_in 475 (by decide +kernel) rfl
theorem hq_476 : Cond.selects "HeapGames" ⟨"HeapGames", "setObliging", "(I)I"⟩ ⟨"HeapGames", "setObliging", "(I)I"⟩ ∈ hm_tbl := hm_in 476 (by decide +kernel) rfl
theorem hq_477 : Cond.code ⟨"HeapGames", "setObliging", "(I)I"⟩ prog_1_method_3_code 3 (some .int) ∈ hm_tbl := hm_in 477 (by decide +kernel) rfl
theorem hq_478 : Cond.methodLink "HeapGamesLaw" 23 ⟨"HeapGames", "setGrowing", "(I)I"⟩ ∈ hm_tbl := hm_in 478 (by decide +kernel) rfl
theorem hq_479 : Cond.instanceMethod ⟨"HeapGames", "setGrowing", "(I)I"⟩ ∈ hm_tbl := hm_in 479 (by decide +kernel) rfl
theorem hq_480 : Cond.selects "HeapGames" ⟨"HeapGames", "setGrowing", "(I)I"⟩ ⟨"HeapGames", "setGrowing", "(I)I"⟩ ∈ hm_tbl := hm_in 480 (by decide +kernel) rfl
theorem hq_481 : Cond.code ⟨"HeapGames", "setGrowing", "(I)I"⟩ prog_1_method_4_code 3 (some .int) ∈ hm_tbl := hm_in 481 (by decide +kernel) rfl
theorem hq_482 : Cond.methodLink "HeapGamesLaw" 27 ⟨"HeapGames", "setMisere", "(Z)I"⟩ ∈ hm_tbl := hm_in 482 (by decide +kernel) rfl
theorem hq_483 : Cond.instanceMethod ⟨"HeapGames", "setMisere", "(Z)I"⟩ ∈ hm_tbl := hm_in 483 (by decide +kernel) rfl
theorem hq_484 : Cond.selects "HeapGames" ⟨"HeapGames", "setMisere", "(Z)I"⟩ ⟨"HeapGames", "setMisere", "(Z)I"⟩ ∈ hm_tbl := hm_in 484 (by decide +kernel) rfl
theorem hq_485 : Cond.code ⟨"HeapGames", "setMisere", "(Z)I"⟩ prog_1_method_5_code 3 (some .int) ∈ hm_tbl := hm_in 485 (by decide +kernel) rfl
theorem hq_486 : Cond.methodLink "HeapGamesLaw" 32 ⟨"HeapGames", "type", "(I)I"⟩ ∈ hm_tbl := hm_in 486 (by decide +kernel) rfl
theorem hq_487 : Cond.instanceMethod ⟨"HeapGames", "type", "(I)I"⟩ ∈ hm_tbl := hm_in 487 (by decide +kernel) rfl
theorem hq_488 : Cond.selects "HeapGames" ⟨"HeapGames", "type", "(I)I"⟩ ⟨"HeapGames", "type", "(I)I"⟩ ∈ hm_tbl := hm_in 488 (by decide +kernel) rfl
theorem hq_489 : Cond.code ⟨"HeapGames", "type", "(I)I"⟩ prog_1_method_6_code 2 (some .int) ∈ hm_tbl := hm_in 489 (by decide +kernel) rfl
theorem hq_495 : Cond.methodLink "HeapGamesLaw" 36 ⟨"HeapGames", "erase", "()I"⟩ ∈ hm_tbl := hm_in 495 (by decide +kernel) rfl
theorem hq_496 : Cond.instanceMethod ⟨"HeapGames", "erase", "()I"⟩ ∈ hm_tbl := hm_in 496 (by decide +kernel) rfl
theorem hq_497 : Cond.selects "HeapGames" ⟨"HeapGames", "erase", "()I"⟩ ⟨"HeapGames", "erase", "()I"⟩ ∈ hm_tbl := hm_in 497 (by decide +kernel) rfl
theorem hq_498 : Cond.code ⟨"HeapGames", "erase", "()I"⟩ prog_1_method_7_code 2 (some .int) ∈ hm_tbl := hm_in 498 (by decide +kernel) rfl
theorem hq_503 : Cond.methodLink "HeapGamesLaw" 41 ⟨"HeapGames", "readRules", "()I"⟩ ∈ hm_tbl := hm_in 503 (by decide +kernel) rfl
theorem hq_504 : Cond.instanceMethod ⟨"HeapGames", "readRules", "()I"⟩ ∈ hm_tbl := hm_in 504 (by decide +kernel) rfl
theorem hq_505 : Cond.selects "HeapGames" ⟨"HeapGames", "readRules", "()I"⟩ ⟨"HeapGames", "readRules", "()I"⟩ ∈ hm_tbl := hm_in 505 (by decide +kernel) rfl
theorem hq_506 : Cond.code ⟨"HeapGames", "readRules", "()I"⟩ prog_1_method_8_code 5 (some .int) ∈ hm_tbl := hm_in 506 (by decide +kernel) rfl
theorem hq_627 : Cond.methodLink "HeapGamesLaw" 45 ⟨"HeapGames", "rule", "(I)I"⟩ ∈ hm_tbl := hm_in 627 (by decide +kernel) rfl
theorem hq_631 : Cond.methodLink "HeapGamesLaw" 49 ⟨"HeapGames", "place", "(I)I"⟩ ∈ hm_tbl := hm_in 631 (by decide +kernel) rfl
theorem hq_632 : Cond.instanceMethod ⟨"HeapGames", "place", "(I)I"⟩ ∈ hm_tbl := hm_in 632 (by decide +kernel) rfl
theorem hq_633 : Cond.selects "HeapGames" ⟨"HeapGames", "place", "(I)I"⟩ ⟨"HeapGames", "place", "(I)I"⟩ ∈ hm_tbl := hm_in 633 (by decide +kernel) rfl
theorem hq_634 : Cond.code ⟨"HeapGames", "place", "(I)I"⟩ prog_1_method_11_code 4 (some .int) ∈ hm_tbl := hm_in 634 (by decide +kernel) rfl
theorem hq_666 : Cond.methodLink "HeapGamesLaw" 53 ⟨"HeapGames", "lift", "(I)I"⟩ ∈ hm_tbl := hm_in 666 (by decide +kernel) rfl
theorem hq_667 : Cond.instanceMethod ⟨"HeapGames", "lift", "(I)I"⟩ ∈ hm_tbl := hm_in 667 (by decide +kernel) rfl
theorem hq_668 : Cond.selects "HeapGames" ⟨"HeapGames", "lift", "(I)I"⟩ ⟨"HeapGames", "lift", "(I)I"⟩ ∈ hm_tbl := hm_in 668 (by decide +kernel) rfl
theorem hq_669 : Cond.code ⟨"HeapGames", "lift", "(I)I"⟩ prog_1_method_12_code 4 (some .int) ∈ hm_tbl := hm_in 669 (by decide +kernel) rfl
theorem hq_680 : Cond.methodLink "HeapGamesLaw" 57 ⟨"HeapGames", "setPass", "(Z)I"⟩ ∈ hm_tbl := hm_in 680 (by decide +kernel) rfl
theorem hq_681 : Cond.instanceMethod ⟨"HeapGames", "setPass", "(Z)I"⟩ ∈ hm_tbl := hm_in 681 (by decide +kernel) rfl
theorem hq_682 : Cond.selects "HeapGames" ⟨"HeapGames", "setPass", "(Z)I"⟩ ⟨"HeapGames", "setPass", "(Z)I"⟩ ∈ hm_tbl := hm_in 682 (by decide +kernel) rfl
theorem hq_683 : Cond.code ⟨"HeapGames", "setPass", "(Z)I"⟩ prog_1_method_13_code 3 (some .int) ∈ hm_tbl := hm_in 683 (by decide +kernel) rfl
theorem hq_684 : Cond.methodLink "HeapGamesLaw" 61 ⟨"HeapGames", "readPosition", "()I"⟩ ∈ hm_tbl := hm_in 684 (by decide +kernel) rfl
theorem hq_685 : Cond.instanceMethod ⟨"HeapGames", "readPosition", "()I"⟩ ∈ hm_tbl := hm_in 685 (by decide +kernel) rfl
theorem hq_686 : Cond.selects "HeapGames" ⟨"HeapGames", "readPosition", "()I"⟩ ⟨"HeapGames", "readPosition", "()I"⟩ ∈ hm_tbl := hm_in 686 (by decide +kernel) rfl
theorem hq_687 : Cond.code ⟨"HeapGames", "readPosition", "()I"⟩ prog_1_method_14_code 2 (some .int) ∈ hm_tbl := hm_in 687 (by decide +kernel) rfl
theorem hq_716 : Cond.methodLink "HeapGamesLaw" 65 ⟨"HeapGames", "heap", "(II)I"⟩ ∈ hm_tbl := hm_in 716 (by decide +kernel) rfl
theorem hq_717 : Cond.instanceMethod ⟨"HeapGames", "heap", "(II)I"⟩ ∈ hm_tbl := hm_in 717 (by decide +kernel) rfl
theorem hq_718 : Cond.selects "HeapGames" ⟨"HeapGames", "heap", "(II)I"⟩ ⟨"HeapGames", "heap", "(II)I"⟩ ∈ hm_tbl := hm_in 718 (by decide +kernel) rfl
theorem hq_719 : Cond.code ⟨"HeapGames", "heap", "(II)I"⟩ prog_1_method_15_code 3 (some .int) ∈ hm_tbl := hm_in 719 (by decide +kernel) rfl
theorem hq_756 : Cond.methodLink "HeapGamesLaw" 69 ⟨"HeapGames", "undo", "()I"⟩ ∈ hm_tbl := hm_in 756 (by decide +kernel) rfl
theorem hq_757 : Cond.instanceMethod ⟨"HeapGames", "undo", "()I"⟩ ∈ hm_tbl := hm_in 757 (by decide +kernel) rfl
theorem hq_758 : Cond.selects "HeapGames" ⟨"HeapGames", "undo", "()I"⟩ ⟨"HeapGames", "undo", "()I"⟩ ∈ hm_tbl := hm_in 758 (by decide +kernel) rfl
theorem hq_759 : Cond.code ⟨"HeapGames", "undo", "()I"⟩ prog_1_method_16_code 1 (some .int) ∈ hm_tbl := hm_in 759 (by decide +kernel) rfl
theorem hq_765 : Cond.methodLink "HeapGamesLaw" 73 ⟨"HeapGames", "move", "(II)I"⟩ ∈ hm_tbl := hm_in 765 (by decide +kernel) rfl
theorem hq_766 : Cond.instanceMethod ⟨"HeapGames", "move", "(II)I"⟩ ∈ hm_tbl := hm_in 766 (by decide +kernel) rfl
theorem hq_767 : Cond.selects "HeapGames" ⟨"HeapGames", "move", "(II)I"⟩ ⟨"HeapGames", "move", "(II)I"⟩ ∈ hm_tbl := hm_in 767 (by decide +kernel) rfl
theorem hq_768 : Cond.code ⟨"HeapGames", "move", "(II)I"⟩ prog_1_method_19_code 3 (some .int) ∈ hm_tbl := hm_in 768 (by decide +kernel) rfl
theorem hq_880 : Cond.methodLink "HeapGamesLaw" 77 ⟨"HeapGames", "play", "(I)I"⟩ ∈ hm_tbl := hm_in 880 (by decide +kernel) rfl
theorem hq_881 : Cond.instanceMethod ⟨"HeapGames", "play", "(I)I"⟩ ∈ hm_tbl := hm_in 881 (by decide +kernel) rfl
theorem hq_882 : Cond.selects "HeapGames" ⟨"HeapGames", "play", "(I)I"⟩ ⟨"HeapGames", "play", "(I)I"⟩ ∈ hm_tbl := hm_in 882 (by decide +kernel) rfl
theorem hq_883 : Cond.code ⟨"HeapGames", "play", "(I)I"⟩ prog_1_method_20_code 2 (some .int) ∈ hm_tbl := hm_in 883 (by decide +kernel) rfl
theorem hq_884 : Cond.methodLink "HeapGamesLaw" 81 ⟨"HeapGames", "outcome", "()I"⟩ ∈ hm_tbl := hm_in 884 (by decide +kernel) rfl
theorem hq_885 : Cond.instanceMethod ⟨"HeapGames", "outcome", "()I"⟩ ∈ hm_tbl := hm_in 885 (by decide +kernel) rfl
theorem hq_886 : Cond.selects "HeapGames" ⟨"HeapGames", "outcome", "()I"⟩ ⟨"HeapGames", "outcome", "()I"⟩ ∈ hm_tbl := hm_in 886 (by decide +kernel) rfl
theorem hq_887 : Cond.code ⟨"HeapGames", "outcome", "()I"⟩ prog_1_method_22_code 1 (some .int) ∈ hm_tbl := hm_in 887 (by decide +kernel) rfl
theorem hq_892 : Cond.methodLink "HeapGamesLaw" 85 ⟨"HeapGames", "distance", "()I"⟩ ∈ hm_tbl := hm_in 892 (by decide +kernel) rfl
theorem hq_893 : Cond.instanceMethod ⟨"HeapGames", "distance", "()I"⟩ ∈ hm_tbl := hm_in 893 (by decide +kernel) rfl
theorem hq_894 : Cond.selects "HeapGames" ⟨"HeapGames", "distance", "()I"⟩ ⟨"HeapGames", "distance", "()I"⟩ ∈ hm_tbl := hm_in 894 (by decide +kernel) rfl
theorem hq_895 : Cond.code ⟨"HeapGames", "distance", "()I"⟩ prog_1_method_23_code 1 (some .int) ∈ hm_tbl := hm_in 895 (by decide +kernel) rfl
theorem hq_896 : Cond.methodLink "HeapGamesLaw" 89 ⟨"HeapGames", "best", "()I"⟩ ∈ hm_tbl := hm_in 896 (by decide +kernel) rfl
theorem hq_897 : Cond.instanceMethod ⟨"HeapGames", "best", "()I"⟩ ∈ hm_tbl := hm_in 897 (by decide +kernel) rfl
theorem hq_898 : Cond.selects "HeapGames" ⟨"HeapGames", "best", "()I"⟩ ⟨"HeapGames", "best", "()I"⟩ ∈ hm_tbl := hm_in 898 (by decide +kernel) rfl
theorem hq_899 : Cond.code ⟨"HeapGames", "best", "()I"⟩ prog_1_method_24_code 1 (some .int) ∈ hm_tbl := hm_in 899 (by decide +kernel) rfl
theorem hq_908 : Cond.methodLink "HeapGamesLaw" 93 ⟨"HeapGames", "good", "()I"⟩ ∈ hm_tbl := hm_in 908 (by decide +kernel) rfl
theorem hq_909 : Cond.instanceMethod ⟨"HeapGames", "good", "()I"⟩ ∈ hm_tbl := hm_in 909 (by decide +kernel) rfl
theorem hq_910 : Cond.selects "HeapGames" ⟨"HeapGames", "good", "()I"⟩ ⟨"HeapGames", "good", "()I"⟩ ∈ hm_tbl := hm_in 910 (by decide +kernel) rfl
theorem hq_911 : Cond.code ⟨"HeapGames", "good", "()I"⟩ prog_1_method_25_code 1 (some .int) ∈ hm_tbl := hm_in 911 (by decide +kernel) rfl
theorem hq_916 : Cond.methodLink "HeapGamesLaw" 97 ⟨"HeapGames", "playOut", "(I)I"⟩ ∈ hm_tbl := hm_in 916 (by decide +kernel) rfl
theorem hq_917 : Cond.instanceMethod ⟨"HeapGames", "playOut", "(I)I"⟩ ∈ hm_tbl := hm_in 917 (by decide +kernel) rfl
theorem hq_918 : Cond.selects "HeapGames" ⟨"HeapGames", "playOut", "(I)I"⟩ ⟨"HeapGames", "playOut", "(I)I"⟩ ∈ hm_tbl := hm_in 918 (by decide +kernel) rfl
theorem hq_919 : Cond.code ⟨"HeapGames", "playOut", "(I)I"⟩ prog_1_method_26_code 4 (some .int) ∈ hm_tbl := hm_in 919 (by decide +kernel) rfl
theorem hq_920 : Cond.methodLink "HeapGamesLaw" 101 ⟨"HeapGames", "outcomeWith", "(Z)I"⟩ ∈ hm_tbl := hm_in 920 (by decide +kernel) rfl
theorem hq_921 : Cond.instanceMethod ⟨"HeapGames", "outcomeWith", "(Z)I"⟩ ∈ hm_tbl := hm_in 921 (by decide +kernel) rfl
theorem hq_922 : Cond.selects "HeapGames" ⟨"HeapGames", "outcomeWith", "(Z)I"⟩ ⟨"HeapGames", "outcomeWith", "(Z)I"⟩ ∈ hm_tbl := hm_in 922 (by decide +kernel) rfl
theorem hq_923 : Cond.code ⟨"HeapGames", "outcomeWith", "(Z)I"⟩ prog_1_method_27_code 3 (some .int) ∈ hm_tbl := hm_in 923 (by decide +kernel) rfl
theorem hq_924 : Cond.methodLink "HeapGamesLaw" 105 ⟨"HeapGames", "census", "(IZI)I"⟩ ∈ hm_tbl := hm_in 924 (by decide +kernel) rfl
theorem hq_925 : Cond.instanceMethod ⟨"HeapGames", "census", "(IZI)I"⟩ ∈ hm_tbl := hm_in 925 (by decide +kernel) rfl
theorem hq_926 : Cond.selects "HeapGames" ⟨"HeapGames", "census", "(IZI)I"⟩ ⟨"HeapGames", "census", "(IZI)I"⟩ ∈ hm_tbl := hm_in 926 (by decide +kernel) rfl
theorem hq_927 : Cond.code ⟨"HeapGames", "census", "(IZI)I"⟩ prog_1_method_28_code 7 (some .int) ∈ hm_tbl := hm_in 927 (by decide +kernel) rfl
theorem hq_932 : Cond.methodLink "HeapGamesLaw" 110 ⟨"HeapGames", "grundy", "(I)I"⟩ ∈ hm_tbl := hm_in 932 (by decide +kernel) rfl
theorem hq_933 : Cond.instanceMethod ⟨"HeapGames", "grundy", "(I)I"⟩ ∈ hm_tbl := hm_in 933 (by decide +kernel) rfl
theorem hq_934 : Cond.selects "HeapGames" ⟨"HeapGames", "grundy", "(I)I"⟩ ⟨"HeapGames", "grundy", "(I)I"⟩ ∈ hm_tbl := hm_in 934 (by decide +kernel) rfl
theorem hq_935 : Cond.code ⟨"HeapGames", "grundy", "(I)I"⟩ prog_1_method_34_code 2 (some .int) ∈ hm_tbl := hm_in 935 (by decide +kernel) rfl
theorem hq_936 : Cond.methodLink "HeapGamesLaw" 114 ⟨"HeapGames", "nimSum", "()I"⟩ ∈ hm_tbl := hm_in 936 (by decide +kernel) rfl
theorem hq_937 : Cond.instanceMethod ⟨"HeapGames", "nimSum", "()I"⟩ ∈ hm_tbl := hm_in 937 (by decide +kernel) rfl
theorem hq_938 : Cond.selects "HeapGames" ⟨"HeapGames", "nimSum", "()I"⟩ ⟨"HeapGames", "nimSum", "()I"⟩ ∈ hm_tbl := hm_in 938 (by decide +kernel) rfl
theorem hq_939 : Cond.code ⟨"HeapGames", "nimSum", "()I"⟩ prog_1_method_35_code 4 (some .int) ∈ hm_tbl := hm_in 939 (by decide +kernel) rfl
theorem hq_940 : Cond.methodLink "HeapGamesLaw" 118 ⟨"HeapGames", "period", "(I)I"⟩ ∈ hm_tbl := hm_in 940 (by decide +kernel) rfl
theorem hq_941 : Cond.instanceMethod ⟨"HeapGames", "period", "(I)I"⟩ ∈ hm_tbl := hm_in 941 (by decide +kernel) rfl
theorem hq_942 : Cond.selects "HeapGames" ⟨"HeapGames", "period", "(I)I"⟩ ⟨"HeapGames", "period", "(I)I"⟩ ∈ hm_tbl := hm_in 942 (by decide +kernel) rfl
theorem hq_943 : Cond.code ⟨"HeapGames", "period", "(I)I"⟩ prog_1_method_36_code 2 (some .int) ∈ hm_tbl := hm_in 943 (by decide +kernel) rfl
theorem hq_952 : Cond.methodLink "HeapGamesLaw" 122 ⟨"HeapGames", "count", "(I)I"⟩ ∈ hm_tbl := hm_in 952 (by decide +kernel) rfl
theorem hq_953 : Cond.instanceMethod ⟨"HeapGames", "count", "(I)I"⟩ ∈ hm_tbl := hm_in 953 (by decide +kernel) rfl
theorem hq_954 : Cond.selects "HeapGames" ⟨"HeapGames", "count", "(I)I"⟩ ⟨"HeapGames", "count", "(I)I"⟩ ∈ hm_tbl := hm_in 954 (by decide +kernel) rfl
theorem hq_955 : Cond.code ⟨"HeapGames", "count", "(I)I"⟩ prog_1_method_37_code 2 (some .int) ∈ hm_tbl := hm_in 955 (by decide +kernel) rfl
theorem hq_969 : Cond.methodLink "HeapGamesLaw" 126 ⟨"HeapGames", "digest", "()J"⟩ ∈ hm_tbl := hm_in 969 (by decide +kernel) rfl
theorem hq_970 : Cond.instanceMethod ⟨"HeapGames", "digest", "()J"⟩ ∈ hm_tbl := hm_in 970 (by decide +kernel) rfl
theorem hq_971 : Cond.selects "HeapGames" ⟨"HeapGames", "digest", "()J"⟩ ⟨"HeapGames", "digest", "()J"⟩ ∈ hm_tbl := hm_in 971 (by decide +kernel) rfl
theorem hq_972 : Cond.code ⟨"HeapGames", "digest", "()J"⟩ prog_1_method_38_code 4 (some .long) ∈ hm_tbl := hm_in 972 (by decide +kernel) rfl
theorem hq_984 : Cond.classLink "HeapGamesLaw" 10 "HeapGamesModel" ∈ hm_tbl := hm_in 984 (by decide +kernel) rfl
theorem hq_985 : Cond.instantiable "HeapGamesModel" 34 ∈ hm_tbl := hm_in 985 (by decide +kernel) rfl
theorem hq_986 : Cond.methodLink "HeapGamesLaw" 12 ⟨"HeapGamesModel", "<init>", "()V"⟩ ∈ hm_tbl := hm_in 986 (by decide +kernel) rfl
theorem hq_987 : Cond.instanceMethod ⟨"HeapGamesModel", "<init>", "()V"⟩ ∈ hm_tbl := hm_in 987 (by decide +kernel) rfl
theorem hq_988 : Cond.code ⟨"HeapGamesModel", "<init>", "()V"⟩ prog_13_method_1_code 1 none ∈ hm_tbl := hm_in 988 (by decide +kernel) rfl
theorem hq_1113 : Cond.methodLink "HeapGamesLaw" 17 ⟨"HeapGamesModel", "setDigit", "(II)I"⟩ ∈ hm_tbl := hm_in 1113 (by decide +kernel) rfl
theorem hq_1114 : Cond.instanceMethod ⟨"HeapGamesModel", "setDigit", "(II)I"⟩ ∈ hm_tbl := hm_in 1114 (by decide +kernel) rfl
theorem hq_1115 : Cond.selects "HeapGamesModel" ⟨"HeapGamesModel", "setDigit", "(II)I"⟩ ⟨"HeapGamesModel", "setDigit", "(II)I"⟩ ∈ hm_tbl := hm_in 1115 (by decide +kernel) rfl
theorem hq_1116 : Cond.code ⟨"HeapGamesModel", "setDigit", "(II)I"⟩ prog_13_method_20_code 4 (some .int) ∈ hm_tbl := hm_in 1116 (by decide +kernel) rfl
theorem hq_1124 : Cond.methodLink "HeapGamesLaw" 22 ⟨"HeapGamesModel", "setObliging", "(I)I"⟩ ∈ hm_tbl := hm_in 1124 (by decide +kernel) rfl
theorem hq_1125 : Cond.instanceMethod ⟨"HeapGamesModel", "setObliging", "(I)I"⟩ ∈ hm_tbl := hm_in 1125 (by decide +kernel) rfl
theorem hq_1126 : Cond.selects "HeapGamesModel" ⟨"HeapGamesModel", "setObliging", "(I)I"⟩ ⟨"HeapGamesModel", "setObliging", "(I)I"⟩ ∈ hm_tbl := hm_in 1126 (by decide +kernel) rfl
theorem hq_1127 : Cond.code ⟨"HeapGamesModel", "setObliging", "(I)I"⟩ prog_13_method_21_code 3 (some .int) ∈ hm_tbl := hm_in 1127 (by decide +kernel) rfl
theorem hq_1128 : Cond.methodLink "HeapGamesLaw" 26 ⟨"HeapGamesModel", "setGrowing", "(I)I"⟩ ∈ hm_tbl := hm_in 1128 (by decide +kernel) rfl
theorem hq_1129 : Cond.instanceMethod ⟨"HeapGamesModel", "setGrowing", "(I)I"⟩ ∈ hm_tbl := hm_in 1129 (by decide +kernel) rfl
theorem hq_1130 : Cond.selects "HeapGamesModel" ⟨"HeapGamesModel", "setGrowing", "(I)I"⟩ ⟨"HeapGamesModel", "setGrowing", "(I)I"⟩ ∈ hm_tbl := hm_in 1130 (by decide +kernel) rfl
theorem hq_1131 : Cond.code ⟨"HeapGamesModel", "setGrowing", "(I)I"⟩ prog_13_method_22_code 3 (some .int) ∈ hm_tbl := hm_in 1131 (by decide +kernel) rfl
theorem hq_1132 : Cond.methodLink "HeapGamesLaw" 31 ⟨"HeapGamesModel", "setMisere", "(Z)I"⟩ ∈ hm_tbl := hm_in 1132 (by decide +kernel) rfl
theorem hq_1133 : Cond.instanceMethod ⟨"HeapGamesModel", "setMisere", "(Z)I"⟩ ∈ hm_tbl := hm_in 1133 (by decide +kernel) rfl
theorem hq_1134 : Cond.selects "HeapGamesModel" ⟨"HeapGamesModel", "setMisere", "(Z)I"⟩ ⟨"HeapGamesModel", "setMisere", "(Z)I"⟩ ∈ hm_tbl := hm_in 1134 (by decide +kernel) rfl
theorem hq_1135 : Cond.code ⟨"HeapGamesModel", "setMisere", "(Z)I"⟩ prog_13_method_23_code 3 (some .int) ∈ hm_tbl := hm_in 1135 (by decide +kernel) rfl
theorem hq_1136 : Cond.methodLink "HeapGamesLaw" 48 ⟨"HeapGamesModel", "rule", "(I)I"⟩ ∈ hm_tbl := hm_in 1136 (by decide +kernel) rfl
theorem hq_1140 : Cond.methodLink "HeapGamesLaw" 35 ⟨"HeapGamesModel", "type", "(I)I"⟩ ∈ hm_tbl := hm_in 1140 (by decide +kernel) rfl
theorem hq_1141 : Cond.instanceMethod ⟨"HeapGamesModel", "type", "(I)I"⟩ ∈ hm_tbl := hm_in 1141 (by decide +kernel) rfl
theorem hq_1142 : Cond.selects "HeapGamesModel" ⟨"HeapGamesModel", "type", "(I)I"⟩ ⟨"HeapGamesModel", "type", "(I)I"⟩ ∈ hm_tbl := hm_in 1142 (by decide +kernel) rfl
theorem hq_1143 : Cond.code ⟨"HeapGamesModel", "type", "(I)I"⟩ prog_13_method_25_code 2 (some .int) ∈ hm_tbl := hm_in 1143 (by decide +kernel) rfl
theorem hq_1144 : Cond.methodLink "HeapGamesLaw" 40 ⟨"HeapGamesModel", "erase", "()I"⟩ ∈ hm_tbl := hm_in 1144 (by decide +kernel) rfl
theorem hq_1145 : Cond.instanceMethod ⟨"HeapGamesModel", "erase", "()I"⟩ ∈ hm_tbl := hm_in 1145 (by decide +kernel) rfl
theorem hq_1146 : Cond.selects "HeapGamesModel" ⟨"HeapGamesModel", "erase", "()I"⟩ ⟨"HeapGamesModel", "erase", "()I"⟩ ∈ hm_tbl := hm_in 1146 (by decide +kernel) rfl
theorem hq_1147 : Cond.code ⟨"HeapGamesModel", "erase", "()I"⟩ prog_13_method_26_code 2 (some .int) ∈ hm_tbl := hm_in 1147 (by decide +kernel) rfl
theorem hq_1148 : Cond.methodLink "HeapGamesLaw" 44 ⟨"HeapGamesModel", "readRules", "()I"⟩ ∈ hm_tbl := hm_in 1148 (by decide +kernel) rfl
theorem hq_1149 : Cond.instanceMethod ⟨"HeapGamesModel", "readRules", "()I"⟩ ∈ hm_tbl := hm_in 1149 (by decide +kernel) rfl
theorem hq_1150 : Cond.selects "HeapGamesModel" ⟨"HeapGamesModel", "readRules", "()I"⟩ ⟨"HeapGamesModel", "readRules", "()I"⟩ ∈ hm_tbl := hm_in 1150 (by decide +kernel) rfl
theorem hq_1151 : Cond.code ⟨"HeapGamesModel", "readRules", "()I"⟩ prog_13_method_35_code 3 (some .int) ∈ hm_tbl := hm_in 1151 (by decide +kernel) rfl
theorem hq_1186 : Cond.methodLink "HeapGamesLaw" 52 ⟨"HeapGamesModel", "place", "(I)I"⟩ ∈ hm_tbl := hm_in 1186 (by decide +kernel) rfl
theorem hq_1187 : Cond.instanceMethod ⟨"HeapGamesModel", "place", "(I)I"⟩ ∈ hm_tbl := hm_in 1187 (by decide +kernel) rfl
theorem hq_1188 : Cond.selects "HeapGamesModel" ⟨"HeapGamesModel", "place", "(I)I"⟩ ⟨"HeapGamesModel", "place", "(I)I"⟩ ∈ hm_tbl := hm_in 1188 (by decide +kernel) rfl
theorem hq_1189 : Cond.code ⟨"HeapGamesModel", "place", "(I)I"⟩ prog_13_method_38_code 2 (some .int) ∈ hm_tbl := hm_in 1189 (by decide +kernel) rfl
theorem hq_1214 : Cond.methodLink "HeapGamesLaw" 56 ⟨"HeapGamesModel", "lift", "(I)I"⟩ ∈ hm_tbl := hm_in 1214 (by decide +kernel) rfl
theorem hq_1215 : Cond.instanceMethod ⟨"HeapGamesModel", "lift", "(I)I"⟩ ∈ hm_tbl := hm_in 1215 (by decide +kernel) rfl
theorem hq_1216 : Cond.selects "HeapGamesModel" ⟨"HeapGamesModel", "lift", "(I)I"⟩ ⟨"HeapGamesModel", "lift", "(I)I"⟩ ∈ hm_tbl := hm_in 1216 (by decide +kernel) rfl
theorem hq_1217 : Cond.code ⟨"HeapGamesModel", "lift", "(I)I"⟩ prog_13_method_40_code 3 (some .int) ∈ hm_tbl := hm_in 1217 (by decide +kernel) rfl
theorem hq_1222 : Cond.methodLink "HeapGamesLaw" 60 ⟨"HeapGamesModel", "setPass", "(Z)I"⟩ ∈ hm_tbl := hm_in 1222 (by decide +kernel) rfl
theorem hq_1223 : Cond.instanceMethod ⟨"HeapGamesModel", "setPass", "(Z)I"⟩ ∈ hm_tbl := hm_in 1223 (by decide +kernel) rfl
theorem hq_1224 : Cond.selects "HeapGamesModel" ⟨"HeapGamesModel", "setPass", "(Z)I"⟩ ⟨"HeapGamesModel", "setPass", "(Z)I"⟩ ∈ hm_tbl := hm_in 1224 (by decide +kernel) rfl
theorem hq_1225 : Cond.code ⟨"HeapGamesModel", "setPass", "(Z)I"⟩ prog_13_method_42_code 3 (some .int) ∈ hm_tbl := hm_in 1225 (by decide +kernel) rfl
theorem hq_1229 : Cond.methodLink "HeapGamesLaw" 64 ⟨"HeapGamesModel", "readPosition", "()I"⟩ ∈ hm_tbl := hm_in 1229 (by decide +kernel) rfl
theorem hq_1230 : Cond.instanceMethod ⟨"HeapGamesModel", "readPosition", "()I"⟩ ∈ hm_tbl := hm_in 1230 (by decide +kernel) rfl
theorem hq_1231 : Cond.selects "HeapGamesModel" ⟨"HeapGamesModel", "readPosition", "()I"⟩ ⟨"HeapGamesModel", "readPosition", "()I"⟩ ∈ hm_tbl := hm_in 1231 (by decide +kernel) rfl
theorem hq_1232 : Cond.code ⟨"HeapGamesModel", "readPosition", "()I"⟩ prog_13_method_45_code 3 (some .int) ∈ hm_tbl := hm_in 1232 (by decide +kernel) rfl
theorem hq_1241 : Cond.methodLink "HeapGamesLaw" 72 ⟨"HeapGamesModel", "undo", "()I"⟩ ∈ hm_tbl := hm_in 1241 (by decide +kernel) rfl
theorem hq_1242 : Cond.instanceMethod ⟨"HeapGamesModel", "undo", "()I"⟩ ∈ hm_tbl := hm_in 1242 (by decide +kernel) rfl
theorem hq_1243 : Cond.selects "HeapGamesModel" ⟨"HeapGamesModel", "undo", "()I"⟩ ⟨"HeapGamesModel", "undo", "()I"⟩ ∈ hm_tbl := hm_in 1243 (by decide +kernel) rfl
theorem hq_1244 : Cond.code ⟨"HeapGamesModel", "undo", "()I"⟩ prog_13_method_46_code 1 (some .int) ∈ hm_tbl := hm_in 1244 (by decide +kernel) rfl
theorem hq_1245 : Cond.methodLink "HeapGamesLaw" 113 ⟨"HeapGamesModel", "grundy", "(I)I"⟩ ∈ hm_tbl := hm_in 1245 (by decide +kernel) rfl
theorem hq_1246 : Cond.instanceMethod ⟨"HeapGamesModel", "grundy", "(I)I"⟩ ∈ hm_tbl := hm_in 1246 (by decide +kernel) rfl
theorem hq_1247 : Cond.selects "HeapGamesModel" ⟨"HeapGamesModel", "grundy", "(I)I"⟩ ⟨"HeapGamesModel", "grundy", "(I)I"⟩ ∈ hm_tbl := hm_in 1247 (by decide +kernel) rfl
theorem hq_1248 : Cond.code ⟨"HeapGamesModel", "grundy", "(I)I"⟩ prog_13_method_49_code 2 (some .int) ∈ hm_tbl := hm_in 1248 (by decide +kernel) rfl
theorem hq_1257 : Cond.methodLink "HeapGamesLaw" 117 ⟨"HeapGamesModel", "nimSum", "()I"⟩ ∈ hm_tbl := hm_in 1257 (by decide +kernel) rfl
theorem hq_1258 : Cond.instanceMethod ⟨"HeapGamesModel", "nimSum", "()I"⟩ ∈ hm_tbl := hm_in 1258 (by decide +kernel) rfl
theorem hq_1259 : Cond.selects "HeapGamesModel" ⟨"HeapGamesModel", "nimSum", "()I"⟩ ⟨"HeapGamesModel", "nimSum", "()I"⟩ ∈ hm_tbl := hm_in 1259 (by decide +kernel) rfl
theorem hq_1260 : Cond.code ⟨"HeapGamesModel", "nimSum", "()I"⟩ prog_13_method_50_code 3 (some .int) ∈ hm_tbl := hm_in 1260 (by decide +kernel) rfl
theorem hq_1261 : Cond.methodLink "HeapGamesLaw" 121 ⟨"HeapGamesModel", "period", "(I)I"⟩ ∈ hm_tbl := hm_in 1261 (by decide +kernel) rfl
theorem hq_1269 : Cond.methodLink "HeapGamesLaw" 68 ⟨"HeapGamesModel", "heap", "(II)I"⟩ ∈ hm_tbl := hm_in 1269 (by decide +kernel) rfl
theorem hq_1273 : Cond.methodLink "HeapGamesLaw" 76 ⟨"HeapGamesModel", "move", "(II)I"⟩ ∈ hm_tbl := hm_in 1273 (by decide +kernel) rfl
theorem hq_1274 : Cond.instanceMethod ⟨"HeapGamesModel", "move", "(II)I"⟩ ∈ hm_tbl := hm_in 1274 (by decide +kernel) rfl
theorem hq_1275 : Cond.selects "HeapGamesModel" ⟨"HeapGamesModel", "move", "(II)I"⟩ ⟨"HeapGamesModel", "move", "(II)I"⟩ ∈ hm_tbl := hm_in 1275 (by decide +kernel) rfl
theorem hq_1276 : Cond.code ⟨"HeapGamesModel", "move", "(II)I"⟩ prog_13_method_56_code 3 (some .int) ∈ hm_tbl := hm_in 1276 (by decide +kernel) rfl
theorem hq_1317 : Cond.methodLink "HeapGamesLaw" 80 ⟨"HeapGamesModel", "play", "(I)I"⟩ ∈ hm_tbl := hm_in 1317 (by decide +kernel) rfl
theorem hq_1318 : Cond.instanceMethod ⟨"HeapGamesModel", "play", "(I)I"⟩ ∈ hm_tbl := hm_in 1318 (by decide +kernel) rfl
theorem hq_1319 : Cond.selects "HeapGamesModel" ⟨"HeapGamesModel", "play", "(I)I"⟩ ⟨"HeapGamesModel", "play", "(I)I"⟩ ∈ hm_tbl := hm_in 1319 (by decide +kernel) rfl
theorem hq_1320 : Cond.code ⟨"HeapGamesModel", "play", "(I)I"⟩ prog_13_method_57_code 2 (some .int) ∈ hm_tbl := hm_in 1320 (by decide +kernel) rfl
theorem hq_1321 : Cond.methodLink "HeapGamesLaw" 84 ⟨"HeapGamesModel", "outcome", "()I"⟩ ∈ hm_tbl := hm_in 1321 (by decide +kernel) rfl
theorem hq_1325 : Cond.methodLink "HeapGamesLaw" 88 ⟨"HeapGamesModel", "distance", "()I"⟩ ∈ hm_tbl := hm_in 1325 (by decide +kernel) rfl
theorem hq_1329 : Cond.methodLink "HeapGamesLaw" 92 ⟨"HeapGamesModel", "best", "()I"⟩ ∈ hm_tbl := hm_in 1329 (by decide +kernel) rfl
theorem hq_1341 : Cond.methodLink "HeapGamesLaw" 96 ⟨"HeapGamesModel", "good", "()I"⟩ ∈ hm_tbl := hm_in 1341 (by decide +kernel) rfl
theorem hq_1345 : Cond.methodLink "HeapGamesLaw" 100 ⟨"HeapGamesModel", "playOut", "(I)I"⟩ ∈ hm_tbl := hm_in 1345 (by decide +kernel) rfl
theorem hq_1346 : Cond.instanceMethod ⟨"HeapGamesModel", "playOut", "(I)I"⟩ ∈ hm_tbl := hm_in 1346 (by decide +kernel) rfl
theorem hq_1347 : Cond.selects "HeapGamesModel" ⟨"HeapGamesModel", "playOut", "(I)I"⟩ ⟨"HeapGamesModel", "playOut", "(I)I"⟩ ∈ hm_tbl := hm_in 1347 (by decide +kernel) rfl
theorem hq_1348 : Cond.code ⟨"HeapGamesModel", "playOut", "(I)I"⟩ prog_13_method_64_code 4 (some .int) ∈ hm_tbl := hm_in 1348 (by decide +kernel) rfl
theorem hq_1349 : Cond.methodLink "HeapGamesLaw" 104 ⟨"HeapGamesModel", "outcomeWith", "(Z)I"⟩ ∈ hm_tbl := hm_in 1349 (by decide +kernel) rfl
theorem hq_1350 : Cond.instanceMethod ⟨"HeapGamesModel", "outcomeWith", "(Z)I"⟩ ∈ hm_tbl := hm_in 1350 (by decide +kernel) rfl
theorem hq_1351 : Cond.selects "HeapGamesModel" ⟨"HeapGamesModel", "outcomeWith", "(Z)I"⟩ ⟨"HeapGamesModel", "outcomeWith", "(Z)I"⟩ ∈ hm_tbl := hm_in 1351 (by decide +kernel) rfl
theorem hq_1352 : Cond.code ⟨"HeapGamesModel", "outcomeWith", "(Z)I"⟩ prog_13_method_65_code 2 (some .int) ∈ hm_tbl := hm_in 1352 (by decide +kernel) rfl
theorem hq_1353 : Cond.methodLink "HeapGamesLaw" 109 ⟨"HeapGamesModel", "census", "(IZI)I"⟩ ∈ hm_tbl := hm_in 1353 (by decide +kernel) rfl
theorem hq_1354 : Cond.instanceMethod ⟨"HeapGamesModel", "census", "(IZI)I"⟩ ∈ hm_tbl := hm_in 1354 (by decide +kernel) rfl
theorem hq_1355 : Cond.selects "HeapGamesModel" ⟨"HeapGamesModel", "census", "(IZI)I"⟩ ⟨"HeapGamesModel", "census", "(IZI)I"⟩ ∈ hm_tbl := hm_in 1355 (by decide +kernel) rfl
theorem hq_1356 : Cond.code ⟨"HeapGamesModel", "census", "(IZI)I"⟩ prog_13_method_66_code 6 (some .int) ∈ hm_tbl := hm_in 1356 (by decide +kernel) rfl
theorem hq_1357 : Cond.methodLink "HeapGamesLaw" 125 ⟨"HeapGamesModel", "count", "(I)I"⟩ ∈ hm_tbl := hm_in 1357 (by decide +kernel) rfl
theorem hq_1373 : Cond.methodLink "HeapGamesLaw" 130 ⟨"HeapGamesModel", "digest", "()J"⟩ ∈ hm_tbl := hm_in 1373 (by decide +kernel) rfl
theorem hq_1374 : Cond.instanceMethod ⟨"HeapGamesModel", "digest", "()J"⟩ ∈ hm_tbl := hm_in 1374 (by decide +kernel) rfl
theorem hq_1375 : Cond.selects "HeapGamesModel" ⟨"HeapGamesModel", "digest", "()J"⟩ ⟨"HeapGamesModel", "digest", "()J"⟩ ∈ hm_tbl := hm_in 1375 (by decide +kernel) rfl
theorem hq_1376 : Cond.code ⟨"HeapGamesModel", "digest", "()J"⟩ prog_13_method_72_code 2 (some .long) ∈ hm_tbl := hm_in 1376 (by decide +kernel) rfl
/-! THE CLAIM OUT OF ONE WALK OF THE LAW'S BODY. Your part is whole_start (and what it stands on); all else here is the same for every law, but numbers. -/
def R_law : String := "HeapGamesLaw"
def lw_P (b : Addr) (xs : List Int32) (args : Array Value) (s : State) : Prop := args = #[.ref b] ∧ s.IntsAt b xs ∧ xs.length ≤ 2048 ∧ (Jvm.Cond.and given_1 narrow_1).before args s = true
def lw_Q (_ : Array Value) (s : State) (o : Outcome) (t : State) : Prop := o = .returned (some (.int 1)) ∧ Framed s o t [] 600000 7302250
def lw_Z (below : List Frame) (a : Array Value) (s : State) : State → Prop := fun t => ∃ o, t.status = .running ∧ Ended t below o ∧ lw_Q a s o t
/-- the law's own end, with 1 on the stack, nothing written that was there before, its room as the claim has it -/
theorem lw_ret {p : Program} {l : Launch} {e : Env} {s : State} {m : MethodId} {below : List Frame} {meth : Method} {c : Code} {b : Nat} (hx : p.tables.exec = Jvm.exec) (hb : c.code = code) (hr : meth.sig.returnType = ret) (hlocks : meth.locks = false) {pc : Nat} {H : Heap} {ls : Array Slot} (hdg : decode code pc = .ok (.ireturn, 1)) : W p l e room_1 s m #[Value.ref b] below meth c H [] 600000 7302250 (lw_Z below #[Value.ref b] s) (F0 m pc ls [.int 1]) := by
  intro T hT X
  obtain ⟨fs, hret, hrun, hended, hW, hframe⟩ := X.leave (v := some (.int 1)) (hlocks := hlocks) (fun h => by rw [hr] at h; cases h)
  have hmeth' : T.vm.method? m = some meth := X.method'
  refine ⟨T.setFrames fs, ?_, .returned (some (.int 1)), hrun, hended, rfl, ⟨_, rfl⟩, hW, hframe⟩
  jvm_step X.here [X.here.top, hx, hb, hdg, hmeth', hr, ret, narrow_b1]
  (try refine ⟨rfl, ?_⟩); (try refine ⟨rfl, ?_⟩)
  first | (intro acts; rw [hret _ acts rfl rfl rfl]) | rw [hret _ _ rfl rfl rfl]
  exact Steps.refl _
/-- what holds at the law's entry: the machine, the code, the tables' words (any of lw_tbl by 'hts w (by decide +kernel)'), the script of L ints xs at the cell b, what the Statement gives of the start (any of its parts by flat_of_before) -/
def lw_At (p : Program) (s : State) (m : MethodId) (meth : Method) (c : Code) (b L : Nat) (xs : Nat → Int32) : Prop :=
  p.tables.exec = Jvm.exec ∧ c.code = code ∧ meth.sig.returnType = ret ∧ c.maxLocals = 4 ∧ s.vm.findClass R_law = some m.cls ∧ (∀ w ∈ lw_tbl, w.before #[Value.ref b] s = true) ∧ va_X b L xs s s.heap ∧ b < s.heap.size ∧ meth.locks = false ∧ (Jvm.Cond.and given_1 narrow_1).before #[Value.ref b] s = true
/-- the two objects side by side, the class's from o on, the reference's behind it; below o nothing has changed -/
def lw_B (G : hm_G) (H00 : Heap) (o : Nat) (S : hm_S) (T : hm_T) (U : hm_S) (V : hm_T) (H : Heap) : Prop := hm_w G H o 74 shX S T H ∧ hm_w G H (o + 74) 23 shM U V H ∧ (∀ q : Nat, q < o → H[q]? = H00[q]?) ∧ o ≤ H.size ∧ o = H00.size
theorem lw_B.vs {G : hm_G} {H00 : Heap} {o : Nat} {S : hm_S} {T : hm_T} {U : hm_S} {V : hm_T} {H : Heap} {locs : List Loc} (h : lw_B G H00 o S T U V H) (hL : hm_Lc o locs) : va_S (hm_ge o) H00 H locs := ⟨by rw [← h.2.2.2.2]; exact h.2.2.2.1, fun q _ hq => h.2.2.1 q (Nat.not_le.mp hq), hL⟩
theorem lw_B.J {G : hm_G} {H00 : Heap} {o : Nat} {S : hm_S} {T : hm_T} {U : hm_S} {V : hm_T} {H : Heap} {adK adV : Nat → Nat} {s : State} (h : lw_B G H00 o S T U V H) (hJ : hm_Jh adK adV o H00 s) : hm_Jh adK adV o H s := hJ.kept h.2.2.1
theorem hm_w.self {G : hm_G} {H0 : Heap} {o n : Nat} {sh : hm_Sh} {S : hm_S} {T : hm_T} {H : Heap} (h : hm_w G H0 o n sh S T H) : hm_w G H o n sh S T H := ⟨rfl, fun _ _ => rfl, h.2.2⟩
theorem hm_w.off {G : hm_G} {H0 H1 : Heap} {o n : Nat} {sh : hm_Sh} {S : hm_S} {T : hm_T} {H : Heap} (h : hm_w G H0 o n sh S T H) (hk : ∀ i, i < n → H1[o + i]? = H[o + i]?) : hm_w G H1 o n sh S T H1 := ⟨rfl, fun _ _ => rfl, fun i hi => (h.2.2 i hi).kept (hk i hi)⟩
theorem lw_B.setX {G : hm_G} {H00 : Heap} {o : Nat} {S S' : hm_S} {T T' : hm_T} {U : hm_S} {V : hm_T} {H H1 : Heap} (h : lw_B G H00 o S T U V H) (hw : hm_w G H o 74 shX S' T' H1) : lw_B G H00 o S' T' U V H1 := ⟨hw.self, h.2.1.off (fun i hi => hw.2.1 _ (Or.inr (by omega))), fun q hq => (hw.2.1 q (Or.inl hq)).trans (h.2.2.1 q hq), by rw [hw.1]; exact h.2.2.2.1, h.2.2.2.2⟩
theorem lw_B.setM {G : hm_G} {H00 : Heap} {o : Nat} {S : hm_S} {T : hm_T} {U U' : hm_S} {V V' : hm_T} {H H1 : Heap} (h : lw_B G H00 o S T U V H) (hw : hm_w G H (o + 74) 23 shM U' V' H1) : lw_B G H00 o S T U' V' H1 := ⟨h.1.off (fun i hi => hw.2.1 _ (Or.inl (by omega))), hw.self, fun q hq => (hw.2.1 q (Or.inl (by omega))).trans (h.2.2.1 q hq), by rw [hw.1]; exact h.2.2.2.1, h.2.2.2.2⟩
section LWC
variable {p : Program} {l : Launch} {e : Env} {R : Room} {s : State} {m : MethodId} {args : Array Value} {below : List Frame} {meth : Method} {c : Code} {H : Heap} {locs : List Loc} {cells slots : Nat} {Q : State → Prop} {pc : Nat} {ls : Array Slot} {rest st0 : List Value} {a : Array Value} {G : hm_G} {H00 : Heap} {o : Nat} {S : hm_S} {T : hm_T} {U : hm_S} {V : hm_T}
theorem lw_callXi {Qp : Int32 → hm_S → hm_T → Prop} (hr : va_Run p l e R s m args below meth c H locs cells slots 0 0 (F0 m pc ls st0) rest (hm_Qi G H o 74 shX Qp a) (t_fr o (o + 74))) (hB : lw_B G H00 o S T U V H) (hL : hm_Lc o locs)
    (kk : ∀ (r : Int32) (S' : hm_S) (T' : hm_T) (H1 : Heap) (locs1 : List Loc), Qp r S' T' → lw_B G H00 o S' T' U V H1 → hm_Lc o locs1 → W p l e R s m args below meth c H1 locs1 cells slots Q (F0 m (pc + 3) ls (.int r :: rest))) : W p l e R s m args below meth c H locs cells slots Q (F0 m pc ls st0) := by
  intro T0 hT X
  obtain ⟨v, st₀, t, T', L, h0, X', hLL, e1, e2, ⟨r, S', T1, hv, hq, hw⟩, st⟩ := hr T0 hT X
  cases hv
  obtain ⟨t2, a1, b1⟩ := kk r S' T1 T'.heap (locs ++ L) hq (by rw [e1]; exact hB.setX hw) (hL.app (fun q hq => Nat.le_trans (by omega) (hLL q hq).1)) T' rfl X'
  exact ⟨t2, st t2 a1, b1⟩
theorem lw_callMi {Qp : Int32 → hm_S → hm_T → Prop} (hr : va_Run p l e R s m args below meth c H locs cells slots 0 0 (F0 m pc ls st0) rest (hm_Qi G H (o + 74) 23 shM Qp a) (t_fr (o + 74) ((o + 74) + 23))) (hB : lw_B G H00 o S T U V H) (hL : hm_Lc o locs)
    (kk : ∀ (r : Int32) (S' : hm_S) (T' : hm_T) (H1 : Heap) (locs1 : List Loc), Qp r S' T' → lw_B G H00 o S T S' T' H1 → hm_Lc o locs1 → W p l e R s m args below meth c H1 locs1 cells slots Q (F0 m (pc + 3) ls (.int r :: rest))) : W p l e R s m args below meth c H locs cells slots Q (F0 m pc ls st0) := by
  intro T0 hT X
  obtain ⟨v, st₀, t, T', L, h0, X', hLL, e1, e2, ⟨r, S', T1, hv, hq, hw⟩, st⟩ := hr T0 hT X
  cases hv
  obtain ⟨t2, a1, b1⟩ := kk r S' T1 T'.heap (locs ++ L) hq (by rw [e1]; exact hB.setM hw) (hL.app (fun q hq => Nat.le_trans (by omega) (hLL q hq).1)) T' rfl X'
  exact ⟨t2, st t2 a1, b1⟩
theorem lw_callXl {Qp : Int64 → hm_S → hm_T → Prop} (hr : va_Run p l e R s m args below meth c H locs cells slots 0 0 (F0 m pc ls st0) rest (hm_Ql G H o 74 shX Qp a) (t_fr o (o + 74))) (hB : lw_B G H00 o S T U V H) (hL : hm_Lc o locs)
    (kk : ∀ (r : Int64) (S' : hm_S) (T' : hm_T) (H1 : Heap) (locs1 : List Loc), Qp r S' T' → lw_B G H00 o S' T' U V H1 → hm_Lc o locs1 → W p l e R s m args below meth c H1 locs1 cells slots Q (F0 m (pc + 3) ls (.long r :: rest))) : W p l e R s m args below meth c H locs cells slots Q (F0 m pc ls st0) := by
  intro T0 hT X
  obtain ⟨v, st₀, t, T', L, h0, X', hLL, e1, e2, ⟨r, S', T1, hv, hq, hw⟩, st⟩ := hr T0 hT X
  cases hv
  obtain ⟨t2, a1, b1⟩ := kk r S' T1 T'.heap (locs ++ L) hq (by rw [e1]; exact hB.setX hw) (hL.app (fun q hq => Nat.le_trans (by omega) (hLL q hq).1)) T' rfl X'
  exact ⟨t2, st t2 a1, b1⟩
theorem lw_callMl {Qp : Int64 → hm_S → hm_T → Prop} (hr : va_Run p l e R s m args below meth c H locs cells slots 0 0 (F0 m pc ls st0) rest (hm_Ql G H (o + 74) 23 shM Qp a) (t_fr (o + 74) ((o + 74) + 23))) (hB : lw_B G H00 o S T U V H) (hL : hm_Lc o locs)
    (kk : ∀ (r : Int64) (S' : hm_S) (T' : hm_T) (H1 : Heap) (locs1 : List Loc), Qp r S' T' → lw_B G H00 o S T S' T' H1 → hm_Lc o locs1 → W p l e R s m args below meth c H1 locs1 cells slots Q (F0 m (pc + 3) ls (.long r :: rest))) : W p l e R s m args below meth c H locs cells slots Q (F0 m pc ls st0) := by
  intro T0 hT X
  obtain ⟨v, st₀, t, T', L, h0, X', hLL, e1, e2, ⟨r, S', T1, hv, hq, hw⟩, st⟩ := hr T0 hT X
  cases hv
  obtain ⟨t2, a1, b1⟩ := kk r S' T1 T'.heap (locs ++ L) hq (by rw [e1]; exact hB.setM hw) (hL.app (fun q hq => Nat.le_trans (by omega) (hLL q hq).1)) T' rfl X'
  exact ⟨t2, st t2 a1, b1⟩
end LWC
section RL
variable {p : Program} {l : Launch} {e : Env} {s : State} {m : MethodId} {args : Array Value} {below : List Frame} {meth : Method} {c : Code} {G : hm_G} {H0 : Heap} {o n : Nat} {sh : hm_Sh}
theorem mw_12_13 {R : Room} (ht : ∀ w ∈ hm_tbl, w.before args s = true) (hR : rm_10_setDigit.frames + 1 ≤ R.frames ∧ 8 + (4 + 11) + rm_10_setDigit.locals ≤ R.locals) : CallW R s args "HeapGamesLaw" "HeapGames" 13 y_10_setDigit prog_1_method_2_code 4 (some .int) (hm_ws y_10_setDigit prog_1_method_2_code 4 (some .int)) rm_10_setDigit 0 0 2 := ⟨callB_of 2 ht (hm_good hq_440) rfl rfl rfl (ht _ hq_74) (ht _ hq_437) (by decide +kernel) hR, ht _ hq_438, ht _ hq_439⟩
theorem mw_12_17 {R : Room} (ht : ∀ w ∈ hm_tbl, w.before args s = true) (hR : rm_11_setDigit.frames + 1 ≤ R.frames ∧ 8 + (4 + 11) + rm_11_setDigit.locals ≤ R.locals) : CallW R s args "HeapGamesLaw" "HeapGamesModel" 17 y_11_setDigit prog_13_method_20_code 4 (some .int) (hm_ws y_11_setDigit prog_13_method_20_code 4 (some .int)) rm_11_setDigit 0 0 2 := ⟨callB_of 2 ht (hm_good hq_1116) rfl rfl rfl (ht _ hq_86) (ht _ hq_1113) (by decide +kernel) hR, ht _ hq_1114, ht _ hq_1115⟩
theorem mw_12_18 {R : Room} (ht : ∀ w ∈ hm_tbl, w.before args s = true) (hR : rm_10_setObliging.frames + 1 ≤ R.frames ∧ 8 + (3 + 11) + rm_10_setObliging.locals ≤ R.locals) : CallW R s args "HeapGamesLaw" "HeapGames" 18 y_10_setObliging prog_1_method_3_code 3 (some .int) (hm_ws y_10_setObliging prog_1_method_3_code 3 (some .int)) rm_10_setObliging 0 0 1 := ⟨callB_of 1 ht (hm_good hq_477) rfl rfl rfl (ht _ hq_74) (ht _ hq_474) (by decide +kernel) hR, ht _ hq_475, ht _ hq_476⟩
theorem mw_12_22 {R : Room} (ht : ∀ w ∈ hm_tbl, w.before args s = true) (hR : rm_11_setObliging.frames + 1 ≤ R.frames ∧ 8 + (3 + 11) + rm_11_setObliging.locals ≤ R.locals) : CallW R s args "HeapGamesLaw" "HeapGamesModel" 22 y_11_setObliging prog_13_method_21_code 3 (some .int) (hm_ws y_11_setObliging prog_13_method_21_code 3 (some .int)) rm_11_setObliging 0 0 1 := ⟨callB_of 1 ht (hm_good hq_1127) rfl rfl rfl (ht _ hq_86) (ht _ hq_1124) (by decide +kernel) hR, ht _ hq_1125, ht _ hq_1126⟩
theorem mw_12_23 {R : Room} (ht : ∀ w ∈ hm_tbl, w.before args s = true) (hR : rm_10_setGrowing.frames + 1 ≤ R.frames ∧ 8 + (3 + 11) + rm_10_setGrowing.locals ≤ R.locals) : CallW R s args "HeapGamesLaw" "HeapGames" 23 y_10_setGrowing prog_1_method_4_code 3 (some .int) (hm_ws y_10_setGrowing prog_1_method_4_code 3 (some .int)) rm_10_setGrowing 0 0 1 := ⟨callB_of 1 ht (hm_good hq_481) rfl rfl rfl (ht _ hq_74) (ht _ hq_478) (by decide +kernel) hR, ht _ hq_479, ht _ hq_480⟩
theorem mw_12_26 {R : Room} (ht : ∀ w ∈ hm_tbl, w.before args s = true) (hR : rm_11_setGrowing.frames + 1 ≤ R.frames ∧ 8 + (3 + 11) + rm_11_setGrowing.locals ≤ R.locals) : CallW R s args "HeapGamesLaw" "HeapGamesModel" 26 y_11_setGrowing prog_13_method_22_code 3 (some .int) (hm_ws y_11_setGrowing prog_13_method_22_code 3 (some .int)) rm_11_setGrowing 0 0 1 := ⟨callB_of 1 ht (hm_good hq_1131) rfl rfl rfl (ht _ hq_86) (ht _ hq_1128) (by decide +kernel) hR, ht _ hq_1129, ht _ hq_1130⟩
theorem mw_12_27 {R : Room} (ht : ∀ w ∈ hm_tbl, w.before args s = true) (hR : rm_10_setMisere.frames + 1 ≤ R.frames ∧ 8 + (3 + 11) + rm_10_setMisere.locals ≤ R.locals) : CallW R s args "HeapGamesLaw" "HeapGames" 27 y_10_setMisere prog_1_method_5_code 3 (some .int) (hm_ws y_10_setMisere prog_1_method_5_code 3 (some .int)) rm_10_setMisere 0 0 1 := ⟨callB_of 1 ht (hm_good hq_485) rfl rfl rfl (ht _ hq_74) (ht _ hq_482) (by decide +kernel) hR, ht _ hq_483, ht _ hq_484⟩
theorem mw_12_31 {R : Room} (ht : ∀ w ∈ hm_tbl, w.before args s = true) (hR : rm_11_setMisere.frames + 1 ≤ R.frames ∧ 8 + (3 + 11) + rm_11_setMisere.locals ≤ R.locals) : CallW R s args "HeapGamesLaw" "HeapGamesModel" 31 y_11_setMisere prog_13_method_23_code 3 (some .int) (hm_ws y_11_setMisere prog_13_method_23_code 3 (some .int)) rm_11_setMisere 0 0 1 := ⟨callB_of 1 ht (hm_good hq_1135) rfl rfl rfl (ht _ hq_86) (ht _ hq_1132) (by decide +kernel) hR, ht _ hq_1133, ht _ hq_1134⟩
theorem mw_12_32 {R : Room} (ht : ∀ w ∈ hm_tbl, w.before args s = true) (hR : rm_10_type.frames + 1 ≤ R.frames ∧ 8 + (2 + 11) + rm_10_type.locals ≤ R.locals) : CallW R s args "HeapGamesLaw" "HeapGames" 32 y_10_type prog_1_method_6_code 2 (some .int) (hm_ws y_10_type prog_1_method_6_code 2 (some .int)) rm_10_type 0 0 1 := ⟨callB_of 1 ht (hm_good hq_489) rfl rfl rfl (ht _ hq_74) (ht _ hq_486) (by decide +kernel) hR, ht _ hq_487, ht _ hq_488⟩
theorem mw_12_35 {R : Room} (ht : ∀ w ∈ hm_tbl, w.before args s = true) (hR : rm_11_type.frames + 1 ≤ R.frames ∧ 8 + (2 + 11) + rm_11_type.locals ≤ R.locals) : CallW R s args "HeapGamesLaw" "HeapGamesModel" 35 y_11_type prog_13_method_25_code 2 (some .int) (hm_ws y_11_type prog_13_method_25_code 2 (some .int)) rm_11_type 0 0 1 := ⟨callB_of 1 ht (hm_good hq_1143) rfl rfl rfl (ht _ hq_86) (ht _ hq_1140) (by decide +kernel) hR, ht _ hq_1141, ht _ hq_1142⟩
theorem mw_12_36 {R : Room} (ht : ∀ w ∈ hm_tbl, w.before args s = true) (hR : rm_10_erase.frames + 1 ≤ R.frames ∧ 8 + (2 + 11) + rm_10_erase.locals ≤ R.locals) : CallW R s args "HeapGamesLaw" "HeapGames" 36 y_10_erase prog_1_method_7_code 2 (some .int) (hm_ws y_10_erase prog_1_method_7_code 2 (some .int)) rm_10_erase 0 0 0 := ⟨callB_of 0 ht (hm_good hq_498) rfl rfl rfl (ht _ hq_74) (ht _ hq_495) (by decide +kernel) hR, ht _ hq_496, ht _ hq_497⟩
theorem mw_12_40 {R : Room} (ht : ∀ w ∈ hm_tbl, w.before args s = true) (hR : rm_11_erase.frames + 1 ≤ R.frames ∧ 8 + (2 + 11) + rm_11_erase.locals ≤ R.locals) : CallW R s args "HeapGamesLaw" "HeapGamesModel" 40 y_11_erase prog_13_method_26_code 2 (some .int) (hm_ws y_11_erase prog_13_method_26_code 2 (some .int)) rm_11_erase 0 0 0 := ⟨callB_of 0 ht (hm_good hq_1147) rfl rfl rfl (ht _ hq_86) (ht _ hq_1144) (by decide +kernel) hR, ht _ hq_1145, ht _ hq_1146⟩
theorem mw_12_41 {R : Room} (ht : ∀ w ∈ hm_tbl, w.before args s = true) (hR : rm_10_readRules.frames + 1 ≤ R.frames ∧ 8 + (5 + 11) + rm_10_readRules.locals ≤ R.locals) : CallW R s args "HeapGamesLaw" "HeapGames" 41 y_10_readRules prog_1_method_8_code 5 (some .int) (hm_ws y_10_readRules prog_1_method_8_code 5 (some .int)) rm_10_readRules 0 0 0 := ⟨callB_of 0 ht (hm_good hq_506) rfl rfl rfl (ht _ hq_74) (ht _ hq_503) (by decide +kernel) hR, ht _ hq_504, ht _ hq_505⟩
theorem mw_12_44 {R : Room} (ht : ∀ w ∈ hm_tbl, w.before args s = true) (hR : rm_11_readRules.frames + 1 ≤ R.frames ∧ 8 + (3 + 11) + rm_11_readRules.locals ≤ R.locals) : CallW R s args "HeapGamesLaw" "HeapGamesModel" 44 y_11_readRules prog_13_method_35_code 3 (some .int) (hm_ws y_11_readRules prog_13_method_35_code 3 (some .int)) rm_11_readRules 0 0 0 := ⟨callB_of 0 ht (hm_good hq_1151) rfl rfl rfl (ht _ hq_86) (ht _ hq_1148) (by decide +kernel) hR, ht _ hq_1149, ht _ hq_1150⟩
theorem mw_12_45 {R : Room} (ht : ∀ w ∈ hm_tbl, w.before args s = true) (hR : rm_10_rule.frames + 1 ≤ R.frames ∧ 8 + (2 + 11) + rm_10_rule.locals ≤ R.locals) : CallW R s args "HeapGamesLaw" "HeapGames" 45 y_10_rule prog_1_method_9_code 2 (some .int) (hm_ws y_10_rule prog_1_method_9_code 2 (some .int)) rm_10_rule 0 0 1 := ⟨callB_of 1 ht (hm_good hq_630) rfl rfl rfl (ht _ hq_74) (ht _ hq_627) (by decide +kernel) hR, ht _ hq_628, ht _ hq_629⟩
theorem mw_12_48 {R : Room} (ht : ∀ w ∈ hm_tbl, w.before args s = true) (hR : rm_11_rule.frames + 1 ≤ R.frames ∧ 8 + (2 + 11) + rm_11_rule.locals ≤ R.locals) : CallW R s args "HeapGamesLaw" "HeapGamesModel" 48 y_11_rule prog_13_method_24_code 2 (some .int) (hm_ws y_11_rule prog_13_method_24_code 2 (some .int)) rm_11_rule 0 0 1 := ⟨callB_of 1 ht (hm_good hq_1139) rfl rfl rfl (ht _ hq_86) (ht _ hq_1136) (by decide +kernel) hR, ht _ hq_1137, ht _ hq_1138⟩
theorem mw_12_49 {R : Room} (ht : ∀ w ∈ hm_tbl, w.before args s = true) (hR : rm_10_place.frames + 1 ≤ R.frames ∧ 8 + (4 + 11) + rm_10_place.locals ≤ R.locals) : CallW R s args "HeapGamesLaw" "HeapGames" 49 y_10_place prog_1_method_11_code 4 (some .int) (hm_ws y_10_place prog_1_method_11_code 4 (some .int)) rm_10_place 0 0 1 := ⟨callB_of 1 ht (hm_good hq_634) rfl rfl rfl (ht _ hq_74) (ht _ hq_631) (by decide +kernel) hR, ht _ hq_632, ht _ hq_633⟩
theorem mw_12_52 {R : Room} (ht : ∀ w ∈ hm_tbl, w.before args s = true) (hR : rm_11_place.frames + 1 ≤ R.frames ∧ 8 + (2 + 11) + rm_11_place.locals ≤ R.locals) : CallW R s args "HeapGamesLaw" "HeapGamesModel" 52 y_11_place prog_13_method_38_code 2 (some .int) (hm_ws y_11_place prog_13_method_38_code 2 (some .int)) rm_11_place 0 0 1 := ⟨callB_of 1 ht (hm_good hq_1189) rfl rfl rfl (ht _ hq_86) (ht _ hq_1186) (by decide +kernel) hR, ht _ hq_1187, ht _ hq_1188⟩
theorem mw_12_53 {R : Room} (ht : ∀ w ∈ hm_tbl, w.before args s = true) (hR : rm_10_lift.frames + 1 ≤ R.frames ∧ 8 + (4 + 11) + rm_10_lift.locals ≤ R.locals) : CallW R s args "HeapGamesLaw" "HeapGames" 53 y_10_lift prog_1_method_12_code 4 (some .int) (hm_ws y_10_lift prog_1_method_12_code 4 (some .int)) rm_10_lift 0 0 1 := ⟨callB_of 1 ht (hm_good hq_669) rfl rfl rfl (ht _ hq_74) (ht _ hq_666) (by decide +kernel) hR, ht _ hq_667, ht _ hq_668⟩
theorem mw_12_56 {R : Room} (ht : ∀ w ∈ hm_tbl, w.before args s = true) (hR : rm_11_lift.frames + 1 ≤ R.frames ∧ 8 + (3 + 11) + rm_11_lift.locals ≤ R.locals) : CallW R s args "HeapGamesLaw" "HeapGamesModel" 56 y_11_lift prog_13_method_40_code 3 (some .int) (hm_ws y_11_lift prog_13_method_40_code 3 (some .int)) rm_11_lift 0 0 1 := ⟨callB_of 1 ht (hm_good hq_1217) rfl rfl rfl (ht _ hq_86) (ht _ hq_1214) (by decide +kernel) hR, ht _ hq_1215, ht _ hq_1216⟩
theorem mw_12_57 {R : Room} (ht : ∀ w ∈ hm_tbl, w.before args s = true) (hR : rm_10_setPass.frames + 1 ≤ R.frames ∧ 8 + (3 + 11) + rm_10_setPass.locals ≤ R.locals) : CallW R s args "HeapGamesLaw" "HeapGames" 57 y_10_setPass prog_1_method_13_code 3 (some .int) (hm_ws y_10_setPass prog_1_method_13_code 3 (some .int)) rm_10_setPass 0 0 1 := ⟨callB_of 1 ht (hm_good hq_683) rfl rfl rfl (ht _ hq_74) (ht _ hq_680) (by decide +kernel) hR, ht _ hq_681, ht _ hq_682⟩
theorem mw_12_60 {R : Room} (ht : ∀ w ∈ hm_tbl, w.before args s = true) (hR : rm_11_setPass.frames + 1 ≤ R.frames ∧ 8 + (3 + 11) + rm_11_setPass.locals ≤ R.locals) : CallW R s args "HeapGamesLaw" "HeapGamesModel" 60 y_11_setPass prog_13_method_42_code 3 (some .int) (hm_ws y_11_setPass prog_13_method_42_code 3 (some .int)) rm_11_setPass 0 0 1 := ⟨callB_of 1 ht (hm_good hq_1225) rfl rfl rfl (ht _ hq_86) (ht _ hq_1222) (by decide +kernel) hR, ht _ hq_1223, ht _ hq_1224⟩
theorem mw_12_61 {R : Room} (ht : ∀ w ∈ hm_tbl, w.before args s = true) (hR : rm_10_readPosition.frames + 1 ≤ R.frames ∧ 8 + (2 + 11) + rm_10_readPosition.locals ≤ R.locals) : CallW R s args "HeapGamesLaw" "HeapGames" 61 y_10_readPosition prog_1_method_14_code 2 (some .int) (hm_ws y_10_readPosition prog_1_method_14_code 2 (some .int)) rm_10_readPosition 0 0 0 := ⟨callB_of 0 ht (hm_good hq_687) rfl rfl rfl (ht _ hq_74) (ht _ hq_684) (by decide +kernel) hR, ht _ hq_685, ht _ hq_686⟩
theorem mw_12_64 {R : Room} (ht : ∀ w ∈ hm_tbl, w.before args s = true) (hR : rm_11_readPosition.frames + 1 ≤ R.frames ∧ 8 + (3 + 11) + rm_11_readPosition.locals ≤ R.locals) : CallW R s args "HeapGamesLaw" "HeapGamesModel" 64 y_11_readPosition prog_13_method_45_code 3 (some .int) (hm_ws y_11_readPosition prog_13_method_45_code 3 (some .int)) rm_11_readPosition 0 0 0 := ⟨callB_of 0 ht (hm_good hq_1232) rfl rfl rfl (ht _ hq_86) (ht _ hq_1229) (by decide +kernel) hR, ht _ hq_1230, ht _ hq_1231⟩
theorem mw_12_65 {R : Room} (ht : ∀ w ∈ hm_tbl, w.before args s = true) (hR : rm_10_heap.frames + 1 ≤ R.frames ∧ 8 + (3 + 11) + rm_10_heap.locals ≤ R.locals) : CallW R s args "HeapGamesLaw" "HeapGames" 65 y_10_heap prog_1_method_15_code 3 (some .int) (hm_ws y_10_heap prog_1_method_15_code 3 (some .int)) rm_10_heap 0 0 2 := ⟨callB_of 2 ht (hm_good hq_719) rfl rfl rfl (ht _ hq_74) (ht _ hq_716) (by decide +kernel) hR, ht _ hq_717, ht _ hq_718⟩
theorem mw_12_68 {R : Room} (ht : ∀ w ∈ hm_tbl, w.before args s = true) (hR : rm_11_heap.frames + 1 ≤ R.frames ∧ 8 + (4 + 11) + rm_11_heap.locals ≤ R.locals) : CallW R s args "HeapGamesLaw" "HeapGamesModel" 68 y_11_heap prog_13_method_53_code 4 (some .int) (hm_ws y_11_heap prog_13_method_53_code 4 (some .int)) rm_11_heap 0 0 2 := ⟨callB_of 2 ht (hm_good hq_1272) rfl rfl rfl (ht _ hq_86) (ht _ hq_1269) (by decide +kernel) hR, ht _ hq_1270, ht _ hq_1271⟩
theorem mw_12_69 {R : Room} (ht : ∀ w ∈ hm_tbl, w.before args s = true) (hR : rm_10_undo.frames + 1 ≤ R.frames ∧ 8 + (1 + 11) + rm_10_undo.locals ≤ R.locals) : CallW R s args "HeapGamesLaw" "HeapGames" 69 y_10_undo prog_1_method_16_code 1 (some .int) (hm_ws y_10_undo prog_1_method_16_code 1 (some .int)) rm_10_undo 0 0 0 := ⟨callB_of 0 ht (hm_good hq_759) rfl rfl rfl (ht _ hq_74) (ht _ hq_756) (by decide +kernel) hR, ht _ hq_757, ht _ hq_758⟩
theorem mw_12_72 {R : Room} (ht : ∀ w ∈ hm_tbl, w.before args s = true) (hR : rm_11_undo.frames + 1 ≤ R.frames ∧ 8 + (1 + 11) + rm_11_undo.locals ≤ R.locals) : CallW R s args "HeapGamesLaw" "HeapGamesModel" 72 y_11_undo prog_13_method_46_code 1 (some .int) (hm_ws y_11_undo prog_13_method_46_code 1 (some .int)) rm_11_undo 0 0 0 := ⟨callB_of 0 ht (hm_good hq_1244) rfl rfl rfl (ht _ hq_86) (ht _ hq_1241) (by decide +kernel) hR, ht _ hq_1242, ht _ hq_1243⟩
theorem mw_12_73 {R : Room} (ht : ∀ w ∈ hm_tbl, w.before args s = true) (hR : rm_10_move.frames + 1 ≤ R.frames ∧ 8 + (3 + 11) + rm_10_move.locals ≤ R.locals) : CallW R s args "HeapGamesLaw" "HeapGames" 73 y_10_move prog_1_method_19_code 3 (some .int) (hm_ws y_10_move prog_1_method_19_code 3 (some .int)) rm_10_move 0 0 2 := ⟨callB_of 2 ht (hm_good hq_768) rfl rfl rfl (ht _ hq_74) (ht _ hq_765) (by decide +kernel) hR, ht _ hq_766, ht _ hq_767⟩
theorem mw_12_76 {R : Room} (ht : ∀ w ∈ hm_tbl, w.before args s = true) (hR : rm_11_move.frames + 1 ≤ R.frames ∧ 8 + (3 + 11) + rm_11_move.locals ≤ R.locals) : CallW R s args "HeapGamesLaw" "HeapGamesModel" 76 y_11_move prog_13_method_56_code 3 (some .int) (hm_ws y_11_move prog_13_method_56_code 3 (some .int)) rm_11_move 0 0 2 := ⟨callB_of 2 ht (hm_good hq_1276) rfl rfl rfl (ht _ hq_86) (ht _ hq_1273) (by decide +kernel) hR, ht _ hq_1274, ht _ hq_1275⟩
theorem mw_12_77 {R : Room} (ht : ∀ w ∈ hm_tbl, w.before args s = true) (hR : rm_10_play.frames + 1 ≤ R.frames ∧ 8 + (2 + 11) + rm_10_play.locals ≤ R.locals) : CallW R s args "HeapGamesLaw" "HeapGames" 77 y_10_play prog_1_method_20_code 2 (some .int) (hm_ws y_10_play prog_1_method_20_code 2 (some .int)) rm_10_play 0 0 1 := ⟨callB_of 1 ht (hm_good hq_883) rfl rfl rfl (ht _ hq_74) (ht _ hq_880) (by decide +kernel) hR, ht _ hq_881, ht _ hq_882⟩
theorem mw_12_80 {R : Room} (ht : ∀ w ∈ hm_tbl, w.before args s = true) (hR : rm_11_play.frames + 1 ≤ R.frames ∧ 8 + (2 + 11) + rm_11_play.locals ≤ R.locals) : CallW R s args "HeapGamesLaw" "HeapGamesModel" 80 y_11_play prog_13_method_57_code 2 (some .int) (hm_ws y_11_play prog_13_method_57_code 2 (some .int)) rm_11_play 0 0 1 := ⟨callB_of 1 ht (hm_good hq_1320) rfl rfl rfl (ht _ hq_86) (ht _ hq_1317) (by decide +kernel) hR, ht _ hq_1318, ht _ hq_1319⟩
theorem mw_12_81 {R : Room} (ht : ∀ w ∈ hm_tbl, w.before args s = true) (hR : rm_10_outcome.frames + 1 ≤ R.frames ∧ 8 + (1 + 11) + rm_10_outcome.locals ≤ R.locals) : CallW R s args "HeapGamesLaw" "HeapGames" 81 y_10_outcome prog_1_method_22_code 1 (some .int) (hm_ws y_10_outcome prog_1_method_22_code 1 (some .int)) rm_10_outcome 0 0 0 := ⟨callB_of 0 ht (hm_good hq_887) rfl rfl rfl (ht _ hq_74) (ht _ hq_884) (by decide +kernel) hR, ht _ hq_885, ht _ hq_886⟩
theorem mw_12_84 {R : Room} (ht : ∀ w ∈ hm_tbl, w.before args s = true) (hR : rm_11_outcome.frames + 1 ≤ R.frames ∧ 8 + (1 + 11) + rm_11_outcome.locals ≤ R.locals) : CallW R s args "HeapGamesLaw" "HeapGamesModel" 84 y_11_outcome prog_13_method_58_code 1 (some .int) (hm_ws y_11_outcome prog_13_method_58_code 1 (some .int)) rm_11_outcome 0 0 0 := ⟨callB_of 0 ht (hm_good hq_1324) rfl rfl rfl (ht _ hq_86) (ht _ hq_1321) (by decide +kernel) hR, ht _ hq_1322, ht _ hq_1323⟩
theorem mw_12_85 {R : Room} (ht : ∀ w ∈ hm_tbl, w.before args s = true) (hR : rm_10_distance.frames + 1 ≤ R.frames ∧ 8 + (1 + 11) + rm_10_distance.locals ≤ R.locals) : CallW R s args "HeapGamesLaw" "HeapGames" 85 y_10_distance prog_1_method_23_code 1 (some .int) (hm_ws y_10_distance prog_1_method_23_code 1 (some .int)) rm_10_distance 0 0 0 := ⟨callB_of 0 ht (hm_good hq_895) rfl rfl rfl (ht _ hq_74) (ht _ hq_892) (by decide +kernel) hR, ht _ hq_893, ht _ hq_894⟩
theorem mw_12_88 {R : Room} (ht : ∀ w ∈ hm_tbl, w.before args s = true) (hR : rm_11_distance.frames + 1 ≤ R.frames ∧ 8 + (1 + 11) + rm_11_distance.locals ≤ R.locals) : CallW R s args "HeapGamesLaw" "HeapGamesModel" 88 y_11_distance prog_13_method_59_code 1 (some .int) (hm_ws y_11_distance prog_13_method_59_code 1 (some .int)) rm_11_distance 0 0 0 := ⟨callB_of 0 ht (hm_good hq_1328) rfl rfl rfl (ht _ hq_86) (ht _ hq_1325) (by decide +kernel) hR, ht _ hq_1326, ht _ hq_1327⟩
theorem mw_12_89 {R : Room} (ht : ∀ w ∈ hm_tbl, w.before args s = true) (hR : rm_10_best.frames + 1 ≤ R.frames ∧ 8 + (1 + 11) + rm_10_best.locals ≤ R.locals) : CallW R s args "HeapGamesLaw" "HeapGames" 89 y_10_best prog_1_method_24_code 1 (some .int) (hm_ws y_10_best prog_1_method_24_code 1 (some .int)) rm_10_best 0 0 0 := ⟨callB_of 0 ht (hm_good hq_899) rfl rfl rfl (ht _ hq_74) (ht _ hq_896) (by decide +kernel) hR, ht _ hq_897, ht _ hq_898⟩
theorem mw_12_92 {R : Room} (ht : ∀ w ∈ hm_tbl, w.before args s = true) (hR : rm_11_best.frames + 1 ≤ R.frames ∧ 8 + (1 + 11) + rm_11_best.locals ≤ R.locals) : CallW R s args "HeapGamesLaw" "HeapGamesModel" 92 y_11_best prog_13_method_62_code 1 (some .int) (hm_ws y_11_best prog_13_method_62_code 1 (some .int)) rm_11_best 0 0 0 := ⟨callB_of 0 ht (hm_good hq_1332) rfl rfl rfl (ht _ hq_86) (ht _ hq_1329) (by decide +kernel) hR, ht _ hq_1330, ht _ hq_1331⟩
theorem mw_12_93 {R : Room} (ht : ∀ w ∈ hm_tbl, w.before args s = true) (hR : rm_10_good.frames + 1 ≤ R.frames ∧ 8 + (1 + 11) + rm_10_good.locals ≤ R.locals) : CallW R s args "HeapGamesLaw" "HeapGames" 93 y_10_good prog_1_method_25_code 1 (some .int) (hm_ws y_10_good prog_1_method_25_code 1 (some .int)) rm_10_good 0 0 0 := ⟨callB_of 0 ht (hm_good hq_911) rfl rfl rfl (ht _ hq_74) (ht _ hq_908) (by decide +kernel) hR, ht _ hq_909, ht _ hq_910⟩
theorem mw_12_96 {R : Room} (ht : ∀ w ∈ hm_tbl, w.before args s = true) (hR : rm_11_good.frames + 1 ≤ R.frames ∧ 8 + (4 + 11) + rm_11_good.locals ≤ R.locals) : CallW R s args "HeapGamesLaw" "HeapGamesModel" 96 y_11_good prog_13_method_63_code 4 (some .int) (hm_ws y_11_good prog_13_method_63_code 4 (some .int)) rm_11_good 0 0 0 := ⟨callB_of 0 ht (hm_good hq_1344) rfl rfl rfl (ht _ hq_86) (ht _ hq_1341) (by decide +kernel) hR, ht _ hq_1342, ht _ hq_1343⟩
theorem mw_12_97 {R : Room} (ht : ∀ w ∈ hm_tbl, w.before args s = true) (hR : rm_10_playOut.frames + 1 ≤ R.frames ∧ 8 + (4 + 11) + rm_10_playOut.locals ≤ R.locals) : CallW R s args "HeapGamesLaw" "HeapGames" 97 y_10_playOut prog_1_method_26_code 4 (some .int) (hm_ws y_10_playOut prog_1_method_26_code 4 (some .int)) rm_10_playOut 0 0 1 := ⟨callB_of 1 ht (hm_good hq_919) rfl rfl rfl (ht _ hq_74) (ht _ hq_916) (by decide +kernel) hR, ht _ hq_917, ht _ hq_918⟩
theorem mw_12_100 {R : Room} (ht : ∀ w ∈ hm_tbl, w.before args s = true) (hR : rm_11_playOut.frames + 1 ≤ R.frames ∧ 8 + (4 + 11) + rm_11_playOut.locals ≤ R.locals) : CallW R s args "HeapGamesLaw" "HeapGamesModel" 100 y_11_playOut prog_13_method_64_code 4 (some .int) (hm_ws y_11_playOut prog_13_method_64_code 4 (some .int)) rm_11_playOut 0 0 1 := ⟨callB_of 1 ht (hm_good hq_1348) rfl rfl rfl (ht _ hq_86) (ht _ hq_1345) (by decide +kernel) hR, ht _ hq_1346, ht _ hq_1347⟩
theorem mw_12_101 {R : Room} (ht : ∀ w ∈ hm_tbl, w.before args s = true) (hR : rm_10_outcomeWith.frames + 1 ≤ R.frames ∧ 8 + (3 + 11) + rm_10_outcomeWith.locals ≤ R.locals) : CallW R s args "HeapGamesLaw" "HeapGames" 101 y_10_outcomeWith prog_1_method_27_code 3 (some .int) (hm_ws y_10_outcomeWith prog_1_method_27_code 3 (some .int)) rm_10_outcomeWith 0 0 1 := ⟨callB_of 1 ht (hm_good hq_923) rfl rfl rfl (ht _ hq_74) (ht _ hq_920) (by decide +kernel) hR, ht _ hq_921, ht _ hq_922⟩
theorem mw_12_104 {R : Room} (ht : ∀ w ∈ hm_tbl, w.before args s = true) (hR : rm_11_outcomeWith.frames + 1 ≤ R.frames ∧ 8 + (2 + 11) + rm_11_outcomeWith.locals ≤ R.locals) : CallW R s args "HeapGamesLaw" "HeapGamesModel" 104 y_11_outcomeWith prog_13_method_65_code 2 (some .int) (hm_ws y_11_outcomeWith prog_13_method_65_code 2 (some .int)) rm_11_outcomeWith 0 0 1 := ⟨callB_of 1 ht (hm_good hq_1352) rfl rfl rfl (ht _ hq_86) (ht _ hq_1349) (by decide +kernel) hR, ht _ hq_1350, ht _ hq_1351⟩
theorem mw_12_105 {R : Room} (ht : ∀ w ∈ hm_tbl, w.before args s = true) (hR : rm_10_census.frames + 1 ≤ R.frames ∧ 8 + (7 + 11) + rm_10_census.locals ≤ R.locals) : CallW R s args "HeapGamesLaw" "HeapGames" 105 y_10_census prog_1_method_28_code 7 (some .int) (hm_ws y_10_census prog_1_method_28_code 7 (some .int)) rm_10_census 0 0 3 := ⟨callB_of 3 ht (hm_good hq_927) rfl rfl rfl (ht _ hq_74) (ht _ hq_924) (by decide +kernel) hR, ht _ hq_925, ht _ hq_926⟩
theorem mw_12_109 {R : Room} (ht : ∀ w ∈ hm_tbl, w.before args s = true) (hR : rm_11_census.frames + 1 ≤ R.frames ∧ 8 + (6 + 11) + rm_11_census.locals ≤ R.locals) : CallW R s args "HeapGamesLaw" "HeapGamesModel" 109 y_11_census prog_13_method_66_code 6 (some .int) (hm_ws y_11_census prog_13_method_66_code 6 (some .int)) rm_11_census 0 0 3 := ⟨callB_of 3 ht (hm_good hq_1356) rfl rfl rfl (ht _ hq_86) (ht _ hq_1353) (by decide +kernel) hR, ht _ hq_1354, ht _ hq_1355⟩
theorem mw_12_110 {R : Room} (ht : ∀ w ∈ hm_tbl, w.before args s = true) (hR : rm_10_grundy.frames + 1 ≤ R.frames ∧ 8 + (2 + 11) + rm_10_grundy.locals ≤ R.locals) : CallW R s args "HeapGamesLaw" "HeapGames" 110 y_10_grundy prog_1_method_34_code 2 (some .int) (hm_ws y_10_grundy prog_1_method_34_code 2 (some .int)) rm_10_grundy 0 0 1 := ⟨callB_of 1 ht (hm_good hq_935) rfl rfl rfl (ht _ hq_74) (ht _ hq_932) (by decide +kernel) hR, ht _ hq_933, ht _ hq_934⟩
theorem mw_12_113 {R : Room} (ht : ∀ w ∈ hm_tbl, w.before args s = true) (hR : rm_11_grundy.frames + 1 ≤ R.frames ∧ 8 + (2 + 11) + rm_11_grundy.locals ≤ R.locals) : CallW R s args "HeapGamesLaw" "HeapGamesModel" 113 y_11_grundy prog_13_method_49_code 2 (some .int) (hm_ws y_11_grundy prog_13_method_49_code 2 (some .int)) rm_11_grundy 0 0 1 := ⟨callB_of 1 ht (hm_good hq_1248) rfl rfl rfl (ht _ hq_86) (ht _ hq_1245) (by decide +kernel) hR, ht _ hq_1246, ht _ hq_1247⟩
theorem mw_12_114 {R : Room} (ht : ∀ w ∈ hm_tbl, w.before args s = true) (hR : rm_10_nimSum.frames + 1 ≤ R.frames ∧ 8 + (4 + 11) + rm_10_nimSum.locals ≤ R.locals) : CallW R s args "HeapGamesLaw" "HeapGames" 114 y_10_nimSum prog_1_method_35_code 4 (some .int) (hm_ws y_10_nimSum prog_1_method_35_code 4 (some .int)) rm_10_nimSum 0 0 0 := ⟨callB_of 0 ht (hm_good hq_939) rfl rfl rfl (ht _ hq_74) (ht _ hq_936) (by decide +kernel) hR, ht _ hq_937, ht _ hq_938⟩
theorem mw_12_117 {R : Room} (ht : ∀ w ∈ hm_tbl, w.before args s = true) (hR : rm_11_nimSum.frames + 1 ≤ R.frames ∧ 8 + (3 + 11) + rm_11_nimSum.locals ≤ R.locals) : CallW R s args "HeapGamesLaw" "HeapGamesModel" 117 y_11_nimSum prog_13_method_50_code 3 (some .int) (hm_ws y_11_nimSum prog_13_method_50_code 3 (some .int)) rm_11_nimSum 0 0 0 := ⟨callB_of 0 ht (hm_good hq_1260) rfl rfl rfl (ht _ hq_86) (ht _ hq_1257) (by decide +kernel) hR, ht _ hq_1258, ht _ hq_1259⟩
theorem mw_12_118 {R : Room} (ht : ∀ w ∈ hm_tbl, w.before args s = true) (hR : rm_10_period.frames + 1 ≤ R.frames ∧ 8 + (2 + 11) + rm_10_period.locals ≤ R.locals) : CallW R s args "HeapGamesLaw" "HeapGames" 118 y_10_period prog_1_method_36_code 2 (some .int) (hm_ws y_10_period prog_1_method_36_code 2 (some .int)) rm_10_period 0 0 1 := ⟨callB_of 1 ht (hm_good hq_943) rfl rfl rfl (ht _ hq_74) (ht _ hq_940) (by decide +kernel) hR, ht _ hq_941, ht _ hq_942⟩
theorem mw_12_121 {R : Room} (ht : ∀ w ∈ hm_tbl, w.before args s = true) (hR : rm_11_period.frames + 1 ≤ R.frames ∧ 8 + (4 + 11) + rm_11_period.locals ≤ R.locals) : CallW R s args "HeapGamesLaw" "HeapGamesModel" 121 y_11_period prog_13_method_52_code 4 (some .int) (hm_ws y_11_period prog_13_method_52_code 4 (some .int)) rm_11_period 0 0 1 := ⟨callB_of 1 ht (hm_good hq_1264) rfl rfl rfl (ht _ hq_86) (ht _ hq_1261) (by decide +kernel) hR, ht _ hq_1262, ht _ hq_1263⟩
theorem mw_12_122 {R : Room} (ht : ∀ w ∈ hm_tbl, w.before args s = true) (hR : rm_10_count.frames + 1 ≤ R.frames ∧ 8 + (2 + 11) + rm_10_count.locals ≤ R.locals) : CallW R s args "HeapGamesLaw" "HeapGames" 122 y_10_count prog_1_method_37_code 2 (some .int) (hm_ws y_10_count prog_1_method_37_code 2 (some .int)) rm_10_count 0 0 1 := ⟨callB_of 1 ht (hm_good hq_955) rfl rfl rfl (ht _ hq_74) (ht _ hq_952) (by decide +kernel) hR, ht _ hq_953, ht _ hq_954⟩
theorem mw_12_125 {R : Room} (ht : ∀ w ∈ hm_tbl, w.before args s = true) (hR : rm_11_count.frames + 1 ≤ R.frames ∧ 8 + (2 + 11) + rm_11_count.locals ≤ R.locals) : CallW R s args "HeapGamesLaw" "HeapGamesModel" 125 y_11_count prog_13_method_70_code 2 (some .int) (hm_ws y_11_count prog_13_method_70_code 2 (some .int)) rm_11_count 0 0 1 := ⟨callB_of 1 ht (hm_good hq_1360) rfl rfl rfl (ht _ hq_86) (ht _ hq_1357) (by decide +kernel) hR, ht _ hq_1358, ht _ hq_1359⟩
theorem mw_12_126 {R : Room} (ht : ∀ w ∈ hm_tbl, w.before args s = true) (hR : rm_10_digest.frames + 1 ≤ R.frames ∧ 8 + (4 + 11) + rm_10_digest.locals ≤ R.locals) : CallW R s args "HeapGamesLaw" "HeapGames" 126 y_10_digest prog_1_method_38_code 4 (some .long) (hm_ws y_10_digest prog_1_method_38_code 4 (some .long)) rm_10_digest 0 0 0 := ⟨callB_of 0 ht (hm_good hq_972) rfl rfl rfl (ht _ hq_74) (ht _ hq_969) (by decide +kernel) hR, ht _ hq_970, ht _ hq_971⟩
theorem mw_12_130 {R : Room} (ht : ∀ w ∈ hm_tbl, w.before args s = true) (hR : rm_11_digest.frames + 1 ≤ R.frames ∧ 8 + (2 + 11) + rm_11_digest.locals ≤ R.locals) : CallW R s args "HeapGamesLaw" "HeapGamesModel" 130 y_11_digest prog_13_method_72_code 2 (some .long) (hm_ws y_11_digest prog_13_method_72_code 2 (some .long)) rm_11_digest 0 0 0 := ⟨callB_of 0 ht (hm_good hq_1376) rfl rfl rfl (ht _ hq_86) (ht _ hq_1373) (by decide +kernel) hR, ht _ hq_1374, ht _ hq_1375⟩
theorem mi_12_9 {R : Room} (ht : ∀ w ∈ hm_tbl, w.before args s = true) (hR : rm_10_init.frames + 1 ≤ R.frames ∧ 8 + (4 + 11) + rm_10_init.locals ≤ R.locals) : CallB R s args "HeapGamesLaw" 9 y_10_init prog_1_method_1_code 4 none (hm_ws y_10_init prog_1_method_1_code 4 none) rm_10_init 73 84442 0 ∧ y_10_init.name = "<init>" ∧ (Cond.instanceMethod y_10_init).before args s = true := ⟨callB_of 0 ht (hm_good hq_96) rfl rfl rfl (ht _ hq_74) (ht _ hq_94) (by decide +kernel) hR, rfl, ht _ hq_95⟩
theorem mi_12_12 {R : Room} (ht : ∀ w ∈ hm_tbl, w.before args s = true) (hR : rm_11_init.frames + 1 ≤ R.frames ∧ 8 + (1 + 11) + rm_11_init.locals ≤ R.locals) : CallB R s args "HeapGamesLaw" 12 y_11_init prog_13_method_1_code 1 none (hm_ws y_11_init prog_13_method_1_code 1 none) rm_11_init 22 127408 0 ∧ y_11_init.name = "<init>" ∧ (Cond.instanceMethod y_11_init).before args s = true := ⟨callB_of 0 ht (hm_good hq_988) rfl rfl rfl (ht _ hq_86) (ht _ hq_986) (by decide +kernel) hR, rfl, ht _ hq_987⟩
end RL
theorem d_12_law_0 : decode code 0 = .ok (.new 7, 3) := by decide +kernel
theorem d_12_law_3 : decode code 3 = .ok (.dup, 1) := by decide +kernel
theorem d_12_law_4 : decode code 4 = .ok (.invokespecial 9, 3) := by decide +kernel
theorem d_12_law_7 : decode code 7 = .ok (.astore_n 1, 1) := by decide +kernel
theorem d_12_law_8 : decode code 8 = .ok (.new 10, 3) := by decide +kernel
theorem d_12_law_11 : decode code 11 = .ok (.dup, 1) := by decide +kernel
theorem d_12_law_12 : decode code 12 = .ok (.invokespecial 12, 3) := by decide +kernel
theorem d_12_law_15 : decode code 15 = .ok (.astore_n 2, 1) := by decide +kernel
theorem d_12_law_16 : decode code 16 = .ok (.iconst 0, 1) := by decide +kernel
theorem d_12_law_17 : decode code 17 = .ok (.istore_n 3, 1) := by decide +kernel
theorem d_12_law_18 : decode code 18 = .ok (.iload_n 3, 1) := by decide +kernel
theorem d_12_law_19 : decode code 19 = .ok (.aload_n 0, 1) := by decide +kernel
theorem d_12_law_20 : decode code 20 = .ok (.arraylength, 1) := by decide +kernel
theorem d_12_law_21 : decode code 21 = .ok (.iconst 4, 1) := by decide +kernel
theorem d_12_law_22 : decode code 22 = .ok (.isub, 1) := by decide +kernel
theorem d_12_law_23 : decode code 23 = .ok (.if_icmp .gt 802, 3) := by decide +kernel
theorem d_12_law_26 : decode code 26 = .ok (.aload_n 0, 1) := by decide +kernel
theorem d_12_law_27 : decode code 27 = .ok (.iload_n 3, 1) := by decide +kernel
theorem d_12_law_28 : decode code 28 = .ok (.iaload, 1) := by decide +kernel
theorem d_12_law_29 : decode code 29 = .ok (.bipush 31, 2) := by decide +kernel
theorem d_12_law_31 : decode code 31 = .ok (.iand, 1) := by decide +kernel
theorem d_12_law_32 : decode code 32 = .ok (.tableswitch 787 0 27 #[128, 161, 184, 207, 246, 269, 282, 295, 318, 341, 364, 403, 416, 449, 462, 495, 518, 531, 544, 557, 570, 593, 632, 691, 714, 727, 750, 773], 128) := by decide +kernel
theorem d_12_law_160 : decode code 160 = .ok (.aload_n 1, 1) := by decide +kernel
theorem d_12_law_161 : decode code 161 = .ok (.aload_n 0, 1) := by decide +kernel
theorem d_12_law_162 : decode code 162 = .ok (.iload_n 3, 1) := by decide +kernel
theorem d_12_law_163 : decode code 163 = .ok (.iconst 1, 1) := by decide +kernel
theorem d_12_law_164 : decode code 164 = .ok (.iadd, 1) := by decide +kernel
theorem d_12_law_165 : decode code 165 = .ok (.iaload, 1) := by decide +kernel
theorem d_12_law_166 : decode code 166 = .ok (.aload_n 0, 1) := by decide +kernel
theorem d_12_law_167 : decode code 167 = .ok (.iload_n 3, 1) := by decide +kernel
theorem d_12_law_168 : decode code 168 = .ok (.iconst 2, 1) := by decide +kernel
theorem d_12_law_169 : decode code 169 = .ok (.iadd, 1) := by decide +kernel
theorem d_12_law_170 : decode code 170 = .ok (.iaload, 1) := by decide +kernel
theorem d_12_law_171 : decode code 171 = .ok (.invokevirtual 13, 3) := by decide +kernel
theorem d_12_law_174 : decode code 174 = .ok (.aload_n 2, 1) := by decide +kernel
theorem d_12_law_175 : decode code 175 = .ok (.aload_n 0, 1) := by decide +kernel
theorem d_12_law_176 : decode code 176 = .ok (.iload_n 3, 1) := by decide +kernel
theorem d_12_law_177 : decode code 177 = .ok (.iconst 1, 1) := by decide +kernel
theorem d_12_law_178 : decode code 178 = .ok (.iadd, 1) := by decide +kernel
theorem d_12_law_179 : decode code 179 = .ok (.iaload, 1) := by decide +kernel
theorem d_12_law_180 : decode code 180 = .ok (.aload_n 0, 1) := by decide +kernel
theorem d_12_law_181 : decode code 181 = .ok (.iload_n 3, 1) := by decide +kernel
theorem d_12_law_182 : decode code 182 = .ok (.iconst 2, 1) := by decide +kernel
theorem d_12_law_183 : decode code 183 = .ok (.iadd, 1) := by decide +kernel
theorem d_12_law_184 : decode code 184 = .ok (.iaload, 1) := by decide +kernel
theorem d_12_law_185 : decode code 185 = .ok (.invokevirtual 17, 3) := by decide +kernel
theorem d_12_law_188 : decode code 188 = .ok (.if_icmp .eq 631, 3) := by decide +kernel
theorem d_12_law_191 : decode code 191 = .ok (.iconst 0, 1) := by decide +kernel
theorem d_12_law_192 : decode code 192 = .ok (.ireturn, 1) := by decide +kernel
theorem d_12_law_193 : decode code 193 = .ok (.aload_n 1, 1) := by decide +kernel
theorem d_12_law_194 : decode code 194 = .ok (.aload_n 0, 1) := by decide +kernel
theorem d_12_law_195 : decode code 195 = .ok (.iload_n 3, 1) := by decide +kernel
theorem d_12_law_196 : decode code 196 = .ok (.iconst 1, 1) := by decide +kernel
theorem d_12_law_197 : decode code 197 = .ok (.iadd, 1) := by decide +kernel
theorem d_12_law_198 : decode code 198 = .ok (.iaload, 1) := by decide +kernel
theorem d_12_law_199 : decode code 199 = .ok (.invokevirtual 18, 3) := by decide +kernel
theorem d_12_law_202 : decode code 202 = .ok (.aload_n 2, 1) := by decide +kernel
theorem d_12_law_203 : decode code 203 = .ok (.aload_n 0, 1) := by decide +kernel
theorem d_12_law_204 : decode code 204 = .ok (.iload_n 3, 1) := by decide +kernel
theorem d_12_law_205 : decode code 205 = .ok (.iconst 1, 1) := by decide +kernel
theorem d_12_law_206 : decode code 206 = .ok (.iadd, 1) := by decide +kernel
theorem d_12_law_207 : decode code 207 = .ok (.iaload, 1) := by decide +kernel
theorem d_12_law_208 : decode code 208 = .ok (.invokevirtual 22, 3) := by decide +kernel
theorem d_12_law_211 : decode code 211 = .ok (.if_icmp .eq 608, 3) := by decide +kernel
theorem d_12_law_214 : decode code 214 = .ok (.iconst 0, 1) := by decide +kernel
theorem d_12_law_215 : decode code 215 = .ok (.ireturn, 1) := by decide +kernel
theorem d_12_law_216 : decode code 216 = .ok (.aload_n 1, 1) := by decide +kernel
theorem d_12_law_217 : decode code 217 = .ok (.aload_n 0, 1) := by decide +kernel
theorem d_12_law_218 : decode code 218 = .ok (.iload_n 3, 1) := by decide +kernel
theorem d_12_law_219 : decode code 219 = .ok (.iconst 1, 1) := by decide +kernel
theorem d_12_law_220 : decode code 220 = .ok (.iadd, 1) := by decide +kernel
theorem d_12_law_221 : decode code 221 = .ok (.iaload, 1) := by decide +kernel
theorem d_12_law_222 : decode code 222 = .ok (.invokevirtual 23, 3) := by decide +kernel
theorem d_12_law_225 : decode code 225 = .ok (.aload_n 2, 1) := by decide +kernel
theorem d_12_law_226 : decode code 226 = .ok (.aload_n 0, 1) := by decide +kernel
theorem d_12_law_227 : decode code 227 = .ok (.iload_n 3, 1) := by decide +kernel
theorem d_12_law_228 : decode code 228 = .ok (.iconst 1, 1) := by decide +kernel
theorem d_12_law_229 : decode code 229 = .ok (.iadd, 1) := by decide +kernel
theorem d_12_law_230 : decode code 230 = .ok (.iaload, 1) := by decide +kernel
theorem d_12_law_231 : decode code 231 = .ok (.invokevirtual 26, 3) := by decide +kernel
theorem d_12_law_234 : decode code 234 = .ok (.if_icmp .eq 585, 3) := by decide +kernel
theorem d_12_law_237 : decode code 237 = .ok (.iconst 0, 1) := by decide +kernel
theorem d_12_law_238 : decode code 238 = .ok (.ireturn, 1) := by decide +kernel
theorem d_12_law_239 : decode code 239 = .ok (.aload_n 1, 1) := by decide +kernel
theorem d_12_law_240 : decode code 240 = .ok (.aload_n 0, 1) := by decide +kernel
theorem d_12_law_241 : decode code 241 = .ok (.iload_n 3, 1) := by decide +kernel
theorem d_12_law_242 : decode code 242 = .ok (.iconst 1, 1) := by decide +kernel
theorem d_12_law_243 : decode code 243 = .ok (.iadd, 1) := by decide +kernel
theorem d_12_law_244 : decode code 244 = .ok (.iaload, 1) := by decide +kernel
theorem d_12_law_245 : decode code 245 = .ok (.ifCond .eq 7, 3) := by decide +kernel
theorem d_12_law_248 : decode code 248 = .ok (.iconst 1, 1) := by decide +kernel
theorem d_12_law_249 : decode code 249 = .ok (.goto 4, 3) := by decide +kernel
theorem d_12_law_252 : decode code 252 = .ok (.iconst 0, 1) := by decide +kernel
theorem d_12_law_253 : decode code 253 = .ok (.invokevirtual 27, 3) := by decide +kernel
theorem d_12_law_256 : decode code 256 = .ok (.aload_n 2, 1) := by decide +kernel
theorem d_12_law_257 : decode code 257 = .ok (.aload_n 0, 1) := by decide +kernel
theorem d_12_law_258 : decode code 258 = .ok (.iload_n 3, 1) := by decide +kernel
theorem d_12_law_259 : decode code 259 = .ok (.iconst 1, 1) := by decide +kernel
theorem d_12_law_260 : decode code 260 = .ok (.iadd, 1) := by decide +kernel
theorem d_12_law_261 : decode code 261 = .ok (.iaload, 1) := by decide +kernel
theorem d_12_law_262 : decode code 262 = .ok (.ifCond .eq 7, 3) := by decide +kernel
theorem d_12_law_265 : decode code 265 = .ok (.iconst 1, 1) := by decide +kernel
theorem d_12_law_266 : decode code 266 = .ok (.goto 4, 3) := by decide +kernel
theorem d_12_law_269 : decode code 269 = .ok (.iconst 0, 1) := by decide +kernel
theorem d_12_law_270 : decode code 270 = .ok (.invokevirtual 31, 3) := by decide +kernel
theorem d_12_law_273 : decode code 273 = .ok (.if_icmp .eq 546, 3) := by decide +kernel
theorem d_12_law_276 : decode code 276 = .ok (.iconst 0, 1) := by decide +kernel
theorem d_12_law_277 : decode code 277 = .ok (.ireturn, 1) := by decide +kernel
theorem d_12_law_278 : decode code 278 = .ok (.aload_n 1, 1) := by decide +kernel
theorem d_12_law_279 : decode code 279 = .ok (.aload_n 0, 1) := by decide +kernel
theorem d_12_law_280 : decode code 280 = .ok (.iload_n 3, 1) := by decide +kernel
theorem d_12_law_281 : decode code 281 = .ok (.iconst 1, 1) := by decide +kernel
theorem d_12_law_282 : decode code 282 = .ok (.iadd, 1) := by decide +kernel
theorem d_12_law_283 : decode code 283 = .ok (.iaload, 1) := by decide +kernel
theorem d_12_law_284 : decode code 284 = .ok (.invokevirtual 32, 3) := by decide +kernel
theorem d_12_law_287 : decode code 287 = .ok (.aload_n 2, 1) := by decide +kernel
theorem d_12_law_288 : decode code 288 = .ok (.aload_n 0, 1) := by decide +kernel
theorem d_12_law_289 : decode code 289 = .ok (.iload_n 3, 1) := by decide +kernel
theorem d_12_law_290 : decode code 290 = .ok (.iconst 1, 1) := by decide +kernel
theorem d_12_law_291 : decode code 291 = .ok (.iadd, 1) := by decide +kernel
theorem d_12_law_292 : decode code 292 = .ok (.iaload, 1) := by decide +kernel
theorem d_12_law_293 : decode code 293 = .ok (.invokevirtual 35, 3) := by decide +kernel
theorem d_12_law_296 : decode code 296 = .ok (.if_icmp .eq 523, 3) := by decide +kernel
theorem d_12_law_299 : decode code 299 = .ok (.iconst 0, 1) := by decide +kernel
theorem d_12_law_300 : decode code 300 = .ok (.ireturn, 1) := by decide +kernel
theorem d_12_law_301 : decode code 301 = .ok (.aload_n 1, 1) := by decide +kernel
theorem d_12_law_302 : decode code 302 = .ok (.invokevirtual 36, 3) := by decide +kernel
theorem d_12_law_305 : decode code 305 = .ok (.aload_n 2, 1) := by decide +kernel
theorem d_12_law_306 : decode code 306 = .ok (.invokevirtual 40, 3) := by decide +kernel
theorem d_12_law_309 : decode code 309 = .ok (.if_icmp .eq 510, 3) := by decide +kernel
theorem d_12_law_312 : decode code 312 = .ok (.iconst 0, 1) := by decide +kernel
theorem d_12_law_313 : decode code 313 = .ok (.ireturn, 1) := by decide +kernel
theorem d_12_law_314 : decode code 314 = .ok (.aload_n 1, 1) := by decide +kernel
theorem d_12_law_315 : decode code 315 = .ok (.invokevirtual 41, 3) := by decide +kernel
theorem d_12_law_318 : decode code 318 = .ok (.aload_n 2, 1) := by decide +kernel
theorem d_12_law_319 : decode code 319 = .ok (.invokevirtual 44, 3) := by decide +kernel
theorem d_12_law_322 : decode code 322 = .ok (.if_icmp .eq 497, 3) := by decide +kernel
theorem d_12_law_325 : decode code 325 = .ok (.iconst 0, 1) := by decide +kernel
theorem d_12_law_326 : decode code 326 = .ok (.ireturn, 1) := by decide +kernel
theorem d_12_law_327 : decode code 327 = .ok (.aload_n 1, 1) := by decide +kernel
theorem d_12_law_328 : decode code 328 = .ok (.aload_n 0, 1) := by decide +kernel
theorem d_12_law_329 : decode code 329 = .ok (.iload_n 3, 1) := by decide +kernel
theorem d_12_law_330 : decode code 330 = .ok (.iconst 1, 1) := by decide +kernel
theorem d_12_law_331 : decode code 331 = .ok (.iadd, 1) := by decide +kernel
theorem d_12_law_332 : decode code 332 = .ok (.iaload, 1) := by decide +kernel
theorem d_12_law_333 : decode code 333 = .ok (.invokevirtual 45, 3) := by decide +kernel
theorem d_12_law_336 : decode code 336 = .ok (.aload_n 2, 1) := by decide +kernel
theorem d_12_law_337 : decode code 337 = .ok (.aload_n 0, 1) := by decide +kernel
theorem d_12_law_338 : decode code 338 = .ok (.iload_n 3, 1) := by decide +kernel
theorem d_12_law_339 : decode code 339 = .ok (.iconst 1, 1) := by decide +kernel
theorem d_12_law_340 : decode code 340 = .ok (.iadd, 1) := by decide +kernel
theorem d_12_law_341 : decode code 341 = .ok (.iaload, 1) := by decide +kernel
theorem d_12_law_342 : decode code 342 = .ok (.invokevirtual 48, 3) := by decide +kernel
theorem d_12_law_345 : decode code 345 = .ok (.if_icmp .eq 474, 3) := by decide +kernel
theorem d_12_law_348 : decode code 348 = .ok (.iconst 0, 1) := by decide +kernel
theorem d_12_law_349 : decode code 349 = .ok (.ireturn, 1) := by decide +kernel
theorem d_12_law_350 : decode code 350 = .ok (.aload_n 1, 1) := by decide +kernel
theorem d_12_law_351 : decode code 351 = .ok (.aload_n 0, 1) := by decide +kernel
theorem d_12_law_352 : decode code 352 = .ok (.iload_n 3, 1) := by decide +kernel
theorem d_12_law_353 : decode code 353 = .ok (.iconst 1, 1) := by decide +kernel
theorem d_12_law_354 : decode code 354 = .ok (.iadd, 1) := by decide +kernel
theorem d_12_law_355 : decode code 355 = .ok (.iaload, 1) := by decide +kernel
theorem d_12_law_356 : decode code 356 = .ok (.invokevirtual 49, 3) := by decide +kernel
theorem d_12_law_359 : decode code 359 = .ok (.aload_n 2, 1) := by decide +kernel
theorem d_12_law_360 : decode code 360 = .ok (.aload_n 0, 1) := by decide +kernel
theorem d_12_law_361 : decode code 361 = .ok (.iload_n 3, 1) := by decide +kernel
theorem d_12_law_362 : decode code 362 = .ok (.iconst 1, 1) := by decide +kernel
theorem d_12_law_363 : decode code 363 = .ok (.iadd, 1) := by decide +kernel
theorem d_12_law_364 : decode code 364 = .ok (.iaload, 1) := by decide +kernel
theorem d_12_law_365 : decode code 365 = .ok (.invokevirtual 52, 3) := by decide +kernel
theorem d_12_law_368 : decode code 368 = .ok (.if_icmp .eq 451, 3) := by decide +kernel
theorem d_12_law_371 : decode code 371 = .ok (.iconst 0, 1) := by decide +kernel
theorem d_12_law_372 : decode code 372 = .ok (.ireturn, 1) := by decide +kernel
theorem d_12_law_373 : decode code 373 = .ok (.aload_n 1, 1) := by decide +kernel
theorem d_12_law_374 : decode code 374 = .ok (.aload_n 0, 1) := by decide +kernel
theorem d_12_law_375 : decode code 375 = .ok (.iload_n 3, 1) := by decide +kernel
theorem d_12_law_376 : decode code 376 = .ok (.iconst 1, 1) := by decide +kernel
theorem d_12_law_377 : decode code 377 = .ok (.iadd, 1) := by decide +kernel
theorem d_12_law_378 : decode code 378 = .ok (.iaload, 1) := by decide +kernel
theorem d_12_law_379 : decode code 379 = .ok (.invokevirtual 53, 3) := by decide +kernel
theorem d_12_law_382 : decode code 382 = .ok (.aload_n 2, 1) := by decide +kernel
theorem d_12_law_383 : decode code 383 = .ok (.aload_n 0, 1) := by decide +kernel
theorem d_12_law_384 : decode code 384 = .ok (.iload_n 3, 1) := by decide +kernel
theorem d_12_law_385 : decode code 385 = .ok (.iconst 1, 1) := by decide +kernel
theorem d_12_law_386 : decode code 386 = .ok (.iadd, 1) := by decide +kernel
theorem d_12_law_387 : decode code 387 = .ok (.iaload, 1) := by decide +kernel
theorem d_12_law_388 : decode code 388 = .ok (.invokevirtual 56, 3) := by decide +kernel
theorem d_12_law_391 : decode code 391 = .ok (.if_icmp .eq 428, 3) := by decide +kernel
theorem d_12_law_394 : decode code 394 = .ok (.iconst 0, 1) := by decide +kernel
theorem d_12_law_395 : decode code 395 = .ok (.ireturn, 1) := by decide +kernel
theorem d_12_law_396 : decode code 396 = .ok (.aload_n 1, 1) := by decide +kernel
theorem d_12_law_397 : decode code 397 = .ok (.aload_n 0, 1) := by decide +kernel
theorem d_12_law_398 : decode code 398 = .ok (.iload_n 3, 1) := by decide +kernel
theorem d_12_law_399 : decode code 399 = .ok (.iconst 1, 1) := by decide +kernel
theorem d_12_law_400 : decode code 400 = .ok (.iadd, 1) := by decide +kernel
theorem d_12_law_401 : decode code 401 = .ok (.iaload, 1) := by decide +kernel
theorem d_12_law_402 : decode code 402 = .ok (.ifCond .eq 7, 3) := by decide +kernel
theorem d_12_law_405 : decode code 405 = .ok (.iconst 1, 1) := by decide +kernel
theorem d_12_law_406 : decode code 406 = .ok (.goto 4, 3) := by decide +kernel
theorem d_12_law_409 : decode code 409 = .ok (.iconst 0, 1) := by decide +kernel
theorem d_12_law_410 : decode code 410 = .ok (.invokevirtual 57, 3) := by decide +kernel
theorem d_12_law_413 : decode code 413 = .ok (.aload_n 2, 1) := by decide +kernel
theorem d_12_law_414 : decode code 414 = .ok (.aload_n 0, 1) := by decide +kernel
theorem d_12_law_415 : decode code 415 = .ok (.iload_n 3, 1) := by decide +kernel
theorem d_12_law_416 : decode code 416 = .ok (.iconst 1, 1) := by decide +kernel
theorem d_12_law_417 : decode code 417 = .ok (.iadd, 1) := by decide +kernel
theorem d_12_law_418 : decode code 418 = .ok (.iaload, 1) := by decide +kernel
theorem d_12_law_419 : decode code 419 = .ok (.ifCond .eq 7, 3) := by decide +kernel
theorem d_12_law_422 : decode code 422 = .ok (.iconst 1, 1) := by decide +kernel
theorem d_12_law_423 : decode code 423 = .ok (.goto 4, 3) := by decide +kernel
theorem d_12_law_426 : decode code 426 = .ok (.iconst 0, 1) := by decide +kernel
theorem d_12_law_427 : decode code 427 = .ok (.invokevirtual 60, 3) := by decide +kernel
theorem d_12_law_430 : decode code 430 = .ok (.if_icmp .eq 389, 3) := by decide +kernel
theorem d_12_law_433 : decode code 433 = .ok (.iconst 0, 1) := by decide +kernel
theorem d_12_law_434 : decode code 434 = .ok (.ireturn, 1) := by decide +kernel
theorem d_12_law_435 : decode code 435 = .ok (.aload_n 1, 1) := by decide +kernel
theorem d_12_law_436 : decode code 436 = .ok (.invokevirtual 61, 3) := by decide +kernel
theorem d_12_law_439 : decode code 439 = .ok (.aload_n 2, 1) := by decide +kernel
theorem d_12_law_440 : decode code 440 = .ok (.invokevirtual 64, 3) := by decide +kernel
theorem d_12_law_443 : decode code 443 = .ok (.if_icmp .eq 376, 3) := by decide +kernel
theorem d_12_law_446 : decode code 446 = .ok (.iconst 0, 1) := by decide +kernel
theorem d_12_law_447 : decode code 447 = .ok (.ireturn, 1) := by decide +kernel
theorem d_12_law_448 : decode code 448 = .ok (.aload_n 1, 1) := by decide +kernel
theorem d_12_law_449 : decode code 449 = .ok (.aload_n 0, 1) := by decide +kernel
theorem d_12_law_450 : decode code 450 = .ok (.iload_n 3, 1) := by decide +kernel
theorem d_12_law_451 : decode code 451 = .ok (.iconst 1, 1) := by decide +kernel
theorem d_12_law_452 : decode code 452 = .ok (.iadd, 1) := by decide +kernel
theorem d_12_law_453 : decode code 453 = .ok (.iaload, 1) := by decide +kernel
theorem d_12_law_454 : decode code 454 = .ok (.aload_n 0, 1) := by decide +kernel
theorem d_12_law_455 : decode code 455 = .ok (.iload_n 3, 1) := by decide +kernel
theorem d_12_law_456 : decode code 456 = .ok (.iconst 2, 1) := by decide +kernel
theorem d_12_law_457 : decode code 457 = .ok (.iadd, 1) := by decide +kernel
theorem d_12_law_458 : decode code 458 = .ok (.iaload, 1) := by decide +kernel
theorem d_12_law_459 : decode code 459 = .ok (.invokevirtual 65, 3) := by decide +kernel
theorem d_12_law_462 : decode code 462 = .ok (.aload_n 2, 1) := by decide +kernel
theorem d_12_law_463 : decode code 463 = .ok (.aload_n 0, 1) := by decide +kernel
theorem d_12_law_464 : decode code 464 = .ok (.iload_n 3, 1) := by decide +kernel
theorem d_12_law_465 : decode code 465 = .ok (.iconst 1, 1) := by decide +kernel
theorem d_12_law_466 : decode code 466 = .ok (.iadd, 1) := by decide +kernel
theorem d_12_law_467 : decode code 467 = .ok (.iaload, 1) := by decide +kernel
theorem d_12_law_468 : decode code 468 = .ok (.aload_n 0, 1) := by decide +kernel
theorem d_12_law_469 : decode code 469 = .ok (.iload_n 3, 1) := by decide +kernel
theorem d_12_law_470 : decode code 470 = .ok (.iconst 2, 1) := by decide +kernel
theorem d_12_law_471 : decode code 471 = .ok (.iadd, 1) := by decide +kernel
theorem d_12_law_472 : decode code 472 = .ok (.iaload, 1) := by decide +kernel
theorem d_12_law_473 : decode code 473 = .ok (.invokevirtual 68, 3) := by decide +kernel
theorem d_12_law_476 : decode code 476 = .ok (.if_icmp .eq 343, 3) := by decide +kernel
theorem d_12_law_479 : decode code 479 = .ok (.iconst 0, 1) := by decide +kernel
theorem d_12_law_480 : decode code 480 = .ok (.ireturn, 1) := by decide +kernel
theorem d_12_law_481 : decode code 481 = .ok (.aload_n 1, 1) := by decide +kernel
theorem d_12_law_482 : decode code 482 = .ok (.invokevirtual 69, 3) := by decide +kernel
theorem d_12_law_485 : decode code 485 = .ok (.aload_n 2, 1) := by decide +kernel
theorem d_12_law_486 : decode code 486 = .ok (.invokevirtual 72, 3) := by decide +kernel
theorem d_12_law_489 : decode code 489 = .ok (.if_icmp .eq 330, 3) := by decide +kernel
theorem d_12_law_492 : decode code 492 = .ok (.iconst 0, 1) := by decide +kernel
theorem d_12_law_493 : decode code 493 = .ok (.ireturn, 1) := by decide +kernel
theorem d_12_law_494 : decode code 494 = .ok (.aload_n 1, 1) := by decide +kernel
theorem d_12_law_495 : decode code 495 = .ok (.aload_n 0, 1) := by decide +kernel
theorem d_12_law_496 : decode code 496 = .ok (.iload_n 3, 1) := by decide +kernel
theorem d_12_law_497 : decode code 497 = .ok (.iconst 1, 1) := by decide +kernel
theorem d_12_law_498 : decode code 498 = .ok (.iadd, 1) := by decide +kernel
theorem d_12_law_499 : decode code 499 = .ok (.iaload, 1) := by decide +kernel
theorem d_12_law_500 : decode code 500 = .ok (.aload_n 0, 1) := by decide +kernel
theorem d_12_law_501 : decode code 501 = .ok (.iload_n 3, 1) := by decide +kernel
theorem d_12_law_502 : decode code 502 = .ok (.iconst 2, 1) := by decide +kernel
theorem d_12_law_503 : decode code 503 = .ok (.iadd, 1) := by decide +kernel
theorem d_12_law_504 : decode code 504 = .ok (.iaload, 1) := by decide +kernel
theorem d_12_law_505 : decode code 505 = .ok (.invokevirtual 73, 3) := by decide +kernel
theorem d_12_law_508 : decode code 508 = .ok (.aload_n 2, 1) := by decide +kernel
theorem d_12_law_509 : decode code 509 = .ok (.aload_n 0, 1) := by decide +kernel
theorem d_12_law_510 : decode code 510 = .ok (.iload_n 3, 1) := by decide +kernel
theorem d_12_law_511 : decode code 511 = .ok (.iconst 1, 1) := by decide +kernel
theorem d_12_law_512 : decode code 512 = .ok (.iadd, 1) := by decide +kernel
theorem d_12_law_513 : decode code 513 = .ok (.iaload, 1) := by decide +kernel
theorem d_12_law_514 : decode code 514 = .ok (.aload_n 0, 1) := by decide +kernel
theorem d_12_law_515 : decode code 515 = .ok (.iload_n 3, 1) := by decide +kernel
theorem d_12_law_516 : decode code 516 = .ok (.iconst 2, 1) := by decide +kernel
theorem d_12_law_517 : decode code 517 = .ok (.iadd, 1) := by decide +kernel
theorem d_12_law_518 : decode code 518 = .ok (.iaload, 1) := by decide +kernel
theorem d_12_law_519 : decode code 519 = .ok (.invokevirtual 76, 3) := by decide +kernel
theorem d_12_law_522 : decode code 522 = .ok (.if_icmp .eq 297, 3) := by decide +kernel
theorem d_12_law_525 : decode code 525 = .ok (.iconst 0, 1) := by decide +kernel
theorem d_12_law_526 : decode code 526 = .ok (.ireturn, 1) := by decide +kernel
theorem d_12_law_527 : decode code 527 = .ok (.aload_n 1, 1) := by decide +kernel
theorem d_12_law_528 : decode code 528 = .ok (.aload_n 0, 1) := by decide +kernel
theorem d_12_law_529 : decode code 529 = .ok (.iload_n 3, 1) := by decide +kernel
theorem d_12_law_530 : decode code 530 = .ok (.iconst 1, 1) := by decide +kernel
theorem d_12_law_531 : decode code 531 = .ok (.iadd, 1) := by decide +kernel
theorem d_12_law_532 : decode code 532 = .ok (.iaload, 1) := by decide +kernel
theorem d_12_law_533 : decode code 533 = .ok (.invokevirtual 77, 3) := by decide +kernel
theorem d_12_law_536 : decode code 536 = .ok (.aload_n 2, 1) := by decide +kernel
theorem d_12_law_537 : decode code 537 = .ok (.aload_n 0, 1) := by decide +kernel
theorem d_12_law_538 : decode code 538 = .ok (.iload_n 3, 1) := by decide +kernel
theorem d_12_law_539 : decode code 539 = .ok (.iconst 1, 1) := by decide +kernel
theorem d_12_law_540 : decode code 540 = .ok (.iadd, 1) := by decide +kernel
theorem d_12_law_541 : decode code 541 = .ok (.iaload, 1) := by decide +kernel
theorem d_12_law_542 : decode code 542 = .ok (.invokevirtual 80, 3) := by decide +kernel
theorem d_12_law_545 : decode code 545 = .ok (.if_icmp .eq 274, 3) := by decide +kernel
theorem d_12_law_548 : decode code 548 = .ok (.iconst 0, 1) := by decide +kernel
theorem d_12_law_549 : decode code 549 = .ok (.ireturn, 1) := by decide +kernel
theorem d_12_law_550 : decode code 550 = .ok (.aload_n 1, 1) := by decide +kernel
theorem d_12_law_551 : decode code 551 = .ok (.invokevirtual 81, 3) := by decide +kernel
theorem d_12_law_554 : decode code 554 = .ok (.aload_n 2, 1) := by decide +kernel
theorem d_12_law_555 : decode code 555 = .ok (.invokevirtual 84, 3) := by decide +kernel
theorem d_12_law_558 : decode code 558 = .ok (.if_icmp .eq 261, 3) := by decide +kernel
theorem d_12_law_561 : decode code 561 = .ok (.iconst 0, 1) := by decide +kernel
theorem d_12_law_562 : decode code 562 = .ok (.ireturn, 1) := by decide +kernel
theorem d_12_law_563 : decode code 563 = .ok (.aload_n 1, 1) := by decide +kernel
theorem d_12_law_564 : decode code 564 = .ok (.invokevirtual 85, 3) := by decide +kernel
theorem d_12_law_567 : decode code 567 = .ok (.aload_n 2, 1) := by decide +kernel
theorem d_12_law_568 : decode code 568 = .ok (.invokevirtual 88, 3) := by decide +kernel
theorem d_12_law_571 : decode code 571 = .ok (.if_icmp .eq 248, 3) := by decide +kernel
theorem d_12_law_574 : decode code 574 = .ok (.iconst 0, 1) := by decide +kernel
theorem d_12_law_575 : decode code 575 = .ok (.ireturn, 1) := by decide +kernel
theorem d_12_law_576 : decode code 576 = .ok (.aload_n 1, 1) := by decide +kernel
theorem d_12_law_577 : decode code 577 = .ok (.invokevirtual 89, 3) := by decide +kernel
theorem d_12_law_580 : decode code 580 = .ok (.aload_n 2, 1) := by decide +kernel
theorem d_12_law_581 : decode code 581 = .ok (.invokevirtual 92, 3) := by decide +kernel
theorem d_12_law_584 : decode code 584 = .ok (.if_icmp .eq 235, 3) := by decide +kernel
theorem d_12_law_587 : decode code 587 = .ok (.iconst 0, 1) := by decide +kernel
theorem d_12_law_588 : decode code 588 = .ok (.ireturn, 1) := by decide +kernel
theorem d_12_law_589 : decode code 589 = .ok (.aload_n 1, 1) := by decide +kernel
theorem d_12_law_590 : decode code 590 = .ok (.invokevirtual 93, 3) := by decide +kernel
theorem d_12_law_593 : decode code 593 = .ok (.aload_n 2, 1) := by decide +kernel
theorem d_12_law_594 : decode code 594 = .ok (.invokevirtual 96, 3) := by decide +kernel
theorem d_12_law_597 : decode code 597 = .ok (.if_icmp .eq 222, 3) := by decide +kernel
theorem d_12_law_600 : decode code 600 = .ok (.iconst 0, 1) := by decide +kernel
theorem d_12_law_601 : decode code 601 = .ok (.ireturn, 1) := by decide +kernel
theorem d_12_law_602 : decode code 602 = .ok (.aload_n 1, 1) := by decide +kernel
theorem d_12_law_603 : decode code 603 = .ok (.aload_n 0, 1) := by decide +kernel
theorem d_12_law_604 : decode code 604 = .ok (.iload_n 3, 1) := by decide +kernel
theorem d_12_law_605 : decode code 605 = .ok (.iconst 1, 1) := by decide +kernel
theorem d_12_law_606 : decode code 606 = .ok (.iadd, 1) := by decide +kernel
theorem d_12_law_607 : decode code 607 = .ok (.iaload, 1) := by decide +kernel
theorem d_12_law_608 : decode code 608 = .ok (.invokevirtual 97, 3) := by decide +kernel
theorem d_12_law_611 : decode code 611 = .ok (.aload_n 2, 1) := by decide +kernel
theorem d_12_law_612 : decode code 612 = .ok (.aload_n 0, 1) := by decide +kernel
theorem d_12_law_613 : decode code 613 = .ok (.iload_n 3, 1) := by decide +kernel
theorem d_12_law_614 : decode code 614 = .ok (.iconst 1, 1) := by decide +kernel
theorem d_12_law_615 : decode code 615 = .ok (.iadd, 1) := by decide +kernel
theorem d_12_law_616 : decode code 616 = .ok (.iaload, 1) := by decide +kernel
theorem d_12_law_617 : decode code 617 = .ok (.invokevirtual 100, 3) := by decide +kernel
theorem d_12_law_620 : decode code 620 = .ok (.if_icmp .eq 199, 3) := by decide +kernel
theorem d_12_law_623 : decode code 623 = .ok (.iconst 0, 1) := by decide +kernel
theorem d_12_law_624 : decode code 624 = .ok (.ireturn, 1) := by decide +kernel
theorem d_12_law_625 : decode code 625 = .ok (.aload_n 1, 1) := by decide +kernel
theorem d_12_law_626 : decode code 626 = .ok (.aload_n 0, 1) := by decide +kernel
theorem d_12_law_627 : decode code 627 = .ok (.iload_n 3, 1) := by decide +kernel
theorem d_12_law_628 : decode code 628 = .ok (.iconst 1, 1) := by decide +kernel
theorem d_12_law_629 : decode code 629 = .ok (.iadd, 1) := by decide +kernel
theorem d_12_law_630 : decode code 630 = .ok (.iaload, 1) := by decide +kernel
theorem d_12_law_631 : decode code 631 = .ok (.ifCond .eq 7, 3) := by decide +kernel
theorem d_12_law_634 : decode code 634 = .ok (.iconst 1, 1) := by decide +kernel
theorem d_12_law_635 : decode code 635 = .ok (.goto 4, 3) := by decide +kernel
theorem d_12_law_638 : decode code 638 = .ok (.iconst 0, 1) := by decide +kernel
theorem d_12_law_639 : decode code 639 = .ok (.invokevirtual 101, 3) := by decide +kernel
theorem d_12_law_642 : decode code 642 = .ok (.aload_n 2, 1) := by decide +kernel
theorem d_12_law_643 : decode code 643 = .ok (.aload_n 0, 1) := by decide +kernel
theorem d_12_law_644 : decode code 644 = .ok (.iload_n 3, 1) := by decide +kernel
theorem d_12_law_645 : decode code 645 = .ok (.iconst 1, 1) := by decide +kernel
theorem d_12_law_646 : decode code 646 = .ok (.iadd, 1) := by decide +kernel
theorem d_12_law_647 : decode code 647 = .ok (.iaload, 1) := by decide +kernel
theorem d_12_law_648 : decode code 648 = .ok (.ifCond .eq 7, 3) := by decide +kernel
theorem d_12_law_651 : decode code 651 = .ok (.iconst 1, 1) := by decide +kernel
theorem d_12_law_652 : decode code 652 = .ok (.goto 4, 3) := by decide +kernel
theorem d_12_law_655 : decode code 655 = .ok (.iconst 0, 1) := by decide +kernel
theorem d_12_law_656 : decode code 656 = .ok (.invokevirtual 104, 3) := by decide +kernel
theorem d_12_law_659 : decode code 659 = .ok (.if_icmp .eq 160, 3) := by decide +kernel
theorem d_12_law_662 : decode code 662 = .ok (.iconst 0, 1) := by decide +kernel
theorem d_12_law_663 : decode code 663 = .ok (.ireturn, 1) := by decide +kernel
theorem d_12_law_664 : decode code 664 = .ok (.aload_n 1, 1) := by decide +kernel
theorem d_12_law_665 : decode code 665 = .ok (.aload_n 0, 1) := by decide +kernel
theorem d_12_law_666 : decode code 666 = .ok (.iload_n 3, 1) := by decide +kernel
theorem d_12_law_667 : decode code 667 = .ok (.iconst 1, 1) := by decide +kernel
theorem d_12_law_668 : decode code 668 = .ok (.iadd, 1) := by decide +kernel
theorem d_12_law_669 : decode code 669 = .ok (.iaload, 1) := by decide +kernel
theorem d_12_law_670 : decode code 670 = .ok (.aload_n 0, 1) := by decide +kernel
theorem d_12_law_671 : decode code 671 = .ok (.iload_n 3, 1) := by decide +kernel
theorem d_12_law_672 : decode code 672 = .ok (.iconst 2, 1) := by decide +kernel
theorem d_12_law_673 : decode code 673 = .ok (.iadd, 1) := by decide +kernel
theorem d_12_law_674 : decode code 674 = .ok (.iaload, 1) := by decide +kernel
theorem d_12_law_675 : decode code 675 = .ok (.ifCond .eq 7, 3) := by decide +kernel
theorem d_12_law_678 : decode code 678 = .ok (.iconst 1, 1) := by decide +kernel
theorem d_12_law_679 : decode code 679 = .ok (.goto 4, 3) := by decide +kernel
theorem d_12_law_682 : decode code 682 = .ok (.iconst 0, 1) := by decide +kernel
theorem d_12_law_683 : decode code 683 = .ok (.aload_n 0, 1) := by decide +kernel
theorem d_12_law_684 : decode code 684 = .ok (.iload_n 3, 1) := by decide +kernel
theorem d_12_law_685 : decode code 685 = .ok (.iconst 3, 1) := by decide +kernel
theorem d_12_law_686 : decode code 686 = .ok (.iadd, 1) := by decide +kernel
theorem d_12_law_687 : decode code 687 = .ok (.iaload, 1) := by decide +kernel
theorem d_12_law_688 : decode code 688 = .ok (.invokevirtual 105, 3) := by decide +kernel
theorem d_12_law_691 : decode code 691 = .ok (.aload_n 2, 1) := by decide +kernel
theorem d_12_law_692 : decode code 692 = .ok (.aload_n 0, 1) := by decide +kernel
theorem d_12_law_693 : decode code 693 = .ok (.iload_n 3, 1) := by decide +kernel
theorem d_12_law_694 : decode code 694 = .ok (.iconst 1, 1) := by decide +kernel
theorem d_12_law_695 : decode code 695 = .ok (.iadd, 1) := by decide +kernel
theorem d_12_law_696 : decode code 696 = .ok (.iaload, 1) := by decide +kernel
theorem d_12_law_697 : decode code 697 = .ok (.aload_n 0, 1) := by decide +kernel
theorem d_12_law_698 : decode code 698 = .ok (.iload_n 3, 1) := by decide +kernel
theorem d_12_law_699 : decode code 699 = .ok (.iconst 2, 1) := by decide +kernel
theorem d_12_law_700 : decode code 700 = .ok (.iadd, 1) := by decide +kernel
theorem d_12_law_701 : decode code 701 = .ok (.iaload, 1) := by decide +kernel
theorem d_12_law_702 : decode code 702 = .ok (.ifCond .eq 7, 3) := by decide +kernel
theorem d_12_law_705 : decode code 705 = .ok (.iconst 1, 1) := by decide +kernel
theorem d_12_law_706 : decode code 706 = .ok (.goto 4, 3) := by decide +kernel
theorem d_12_law_709 : decode code 709 = .ok (.iconst 0, 1) := by decide +kernel
theorem d_12_law_710 : decode code 710 = .ok (.aload_n 0, 1) := by decide +kernel
theorem d_12_law_711 : decode code 711 = .ok (.iload_n 3, 1) := by decide +kernel
theorem d_12_law_712 : decode code 712 = .ok (.iconst 3, 1) := by decide +kernel
theorem d_12_law_713 : decode code 713 = .ok (.iadd, 1) := by decide +kernel
theorem d_12_law_714 : decode code 714 = .ok (.iaload, 1) := by decide +kernel
theorem d_12_law_715 : decode code 715 = .ok (.invokevirtual 109, 3) := by decide +kernel
theorem d_12_law_718 : decode code 718 = .ok (.if_icmp .eq 101, 3) := by decide +kernel
theorem d_12_law_721 : decode code 721 = .ok (.iconst 0, 1) := by decide +kernel
theorem d_12_law_722 : decode code 722 = .ok (.ireturn, 1) := by decide +kernel
theorem d_12_law_723 : decode code 723 = .ok (.aload_n 1, 1) := by decide +kernel
theorem d_12_law_724 : decode code 724 = .ok (.aload_n 0, 1) := by decide +kernel
theorem d_12_law_725 : decode code 725 = .ok (.iload_n 3, 1) := by decide +kernel
theorem d_12_law_726 : decode code 726 = .ok (.iconst 1, 1) := by decide +kernel
theorem d_12_law_727 : decode code 727 = .ok (.iadd, 1) := by decide +kernel
theorem d_12_law_728 : decode code 728 = .ok (.iaload, 1) := by decide +kernel
theorem d_12_law_729 : decode code 729 = .ok (.invokevirtual 110, 3) := by decide +kernel
theorem d_12_law_732 : decode code 732 = .ok (.aload_n 2, 1) := by decide +kernel
theorem d_12_law_733 : decode code 733 = .ok (.aload_n 0, 1) := by decide +kernel
theorem d_12_law_734 : decode code 734 = .ok (.iload_n 3, 1) := by decide +kernel
theorem d_12_law_735 : decode code 735 = .ok (.iconst 1, 1) := by decide +kernel
theorem d_12_law_736 : decode code 736 = .ok (.iadd, 1) := by decide +kernel
theorem d_12_law_737 : decode code 737 = .ok (.iaload, 1) := by decide +kernel
theorem d_12_law_738 : decode code 738 = .ok (.invokevirtual 113, 3) := by decide +kernel
theorem d_12_law_741 : decode code 741 = .ok (.if_icmp .eq 78, 3) := by decide +kernel
theorem d_12_law_744 : decode code 744 = .ok (.iconst 0, 1) := by decide +kernel
theorem d_12_law_745 : decode code 745 = .ok (.ireturn, 1) := by decide +kernel
theorem d_12_law_746 : decode code 746 = .ok (.aload_n 1, 1) := by decide +kernel
theorem d_12_law_747 : decode code 747 = .ok (.invokevirtual 114, 3) := by decide +kernel
theorem d_12_law_750 : decode code 750 = .ok (.aload_n 2, 1) := by decide +kernel
theorem d_12_law_751 : decode code 751 = .ok (.invokevirtual 117, 3) := by decide +kernel
theorem d_12_law_754 : decode code 754 = .ok (.if_icmp .eq 65, 3) := by decide +kernel
theorem d_12_law_757 : decode code 757 = .ok (.iconst 0, 1) := by decide +kernel
theorem d_12_law_758 : decode code 758 = .ok (.ireturn, 1) := by decide +kernel
theorem d_12_law_759 : decode code 759 = .ok (.aload_n 1, 1) := by decide +kernel
theorem d_12_law_760 : decode code 760 = .ok (.aload_n 0, 1) := by decide +kernel
theorem d_12_law_761 : decode code 761 = .ok (.iload_n 3, 1) := by decide +kernel
theorem d_12_law_762 : decode code 762 = .ok (.iconst 1, 1) := by decide +kernel
theorem d_12_law_763 : decode code 763 = .ok (.iadd, 1) := by decide +kernel
theorem d_12_law_764 : decode code 764 = .ok (.iaload, 1) := by decide +kernel
theorem d_12_law_765 : decode code 765 = .ok (.invokevirtual 118, 3) := by decide +kernel
theorem d_12_law_768 : decode code 768 = .ok (.aload_n 2, 1) := by decide +kernel
theorem d_12_law_769 : decode code 769 = .ok (.aload_n 0, 1) := by decide +kernel
theorem d_12_law_770 : decode code 770 = .ok (.iload_n 3, 1) := by decide +kernel
theorem d_12_law_771 : decode code 771 = .ok (.iconst 1, 1) := by decide +kernel
theorem d_12_law_772 : decode code 772 = .ok (.iadd, 1) := by decide +kernel
theorem d_12_law_773 : decode code 773 = .ok (.iaload, 1) := by decide +kernel
theorem d_12_law_774 : decode code 774 = .ok (.invokevirtual 121, 3) := by decide +kernel
theorem d_12_law_777 : decode code 777 = .ok (.if_icmp .eq 42, 3) := by decide +kernel
theorem d_12_law_780 : decode code 780 = .ok (.iconst 0, 1) := by decide +kernel
theorem d_12_law_781 : decode code 781 = .ok (.ireturn, 1) := by decide +kernel
theorem d_12_law_782 : decode code 782 = .ok (.aload_n 1, 1) := by decide +kernel
theorem d_12_law_783 : decode code 783 = .ok (.aload_n 0, 1) := by decide +kernel
theorem d_12_law_784 : decode code 784 = .ok (.iload_n 3, 1) := by decide +kernel
theorem d_12_law_785 : decode code 785 = .ok (.iconst 1, 1) := by decide +kernel
theorem d_12_law_786 : decode code 786 = .ok (.iadd, 1) := by decide +kernel
theorem d_12_law_787 : decode code 787 = .ok (.iaload, 1) := by decide +kernel
theorem d_12_law_788 : decode code 788 = .ok (.invokevirtual 122, 3) := by decide +kernel
theorem d_12_law_791 : decode code 791 = .ok (.aload_n 2, 1) := by decide +kernel
theorem d_12_law_792 : decode code 792 = .ok (.aload_n 0, 1) := by decide +kernel
theorem d_12_law_793 : decode code 793 = .ok (.iload_n 3, 1) := by decide +kernel
theorem d_12_law_794 : decode code 794 = .ok (.iconst 1, 1) := by decide +kernel
theorem d_12_law_795 : decode code 795 = .ok (.iadd, 1) := by decide +kernel
theorem d_12_law_796 : decode code 796 = .ok (.iaload, 1) := by decide +kernel
theorem d_12_law_797 : decode code 797 = .ok (.invokevirtual 125, 3) := by decide +kernel
theorem d_12_law_800 : decode code 800 = .ok (.if_icmp .eq 19, 3) := by decide +kernel
theorem d_12_law_803 : decode code 803 = .ok (.iconst 0, 1) := by decide +kernel
theorem d_12_law_804 : decode code 804 = .ok (.ireturn, 1) := by decide +kernel
theorem d_12_law_805 : decode code 805 = .ok (.aload_n 1, 1) := by decide +kernel
theorem d_12_law_806 : decode code 806 = .ok (.invokevirtual 126, 3) := by decide +kernel
theorem d_12_law_809 : decode code 809 = .ok (.aload_n 2, 1) := by decide +kernel
theorem d_12_law_810 : decode code 810 = .ok (.invokevirtual 130, 3) := by decide +kernel
theorem d_12_law_813 : decode code 813 = .ok (.lcmp, 1) := by decide +kernel
theorem d_12_law_814 : decode code 814 = .ok (.ifCond .eq 5, 3) := by decide +kernel
theorem d_12_law_817 : decode code 817 = .ok (.iconst 0, 1) := by decide +kernel
theorem d_12_law_818 : decode code 818 = .ok (.ireturn, 1) := by decide +kernel
theorem d_12_law_819 : decode code 819 = .ok (.iinc 3 4, 3) := by decide +kernel
theorem d_12_law_822 : decode code 822 = .ok (.goto (-804), 3) := by decide +kernel
theorem d_12_law_825 : decode code 825 = .ok (.iconst 1, 1) := by decide +kernel
theorem d_12_law_826 : decode code 826 = .ok (.ireturn, 1) := by decide +kernel
