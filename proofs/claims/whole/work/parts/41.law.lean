theorem ml_L_13 : Cond.methodLink RL 13 yX9_type ∈ TB := TBm 360 (by decide +kernel) rfl
theorem cw_X9_type : Cond.code yX9_type cX9_type 2 (some .int) ∈ TB := TBm 363 (by decide +kernel) rfl
theorem mi_X9_type : MI yX9_type cX9_type 2 (some .int) 1 := ⟨cw_X9_type, iw_X9, by decide +kernel, by decide +kernel, by decide +kernel⟩
theorem ml_L_17 : Cond.methodLink RL 17 yX10_type ∈ TB := TBm 827 (by decide +kernel) rfl
theorem cw_X10_type : Cond.code yX10_type cX10_type 2 (some .int) ∈ TB := TBm 830 (by decide +kernel) rfl
theorem mi_X10_type : MI yX10_type cX10_type 2 (some .int) 1 := ⟨cw_X10_type, iw_X10, by decide +kernel, by decide +kernel, by decide +kernel⟩
theorem ml_L_18 : Cond.methodLink RL 18 yX9_clear ∈ TB := TBm 367 (by decide +kernel) rfl
theorem cw_X9_clear : Cond.code yX9_clear cX9_clear 2 (some .int) ∈ TB := TBm 370 (by decide +kernel) rfl
theorem mi_X9_clear : MI yX9_clear cX9_clear 2 (some .int) 0 := ⟨cw_X9_clear, iw_X9, by decide +kernel, by decide +kernel, by decide +kernel⟩
theorem ml_L_22 : Cond.methodLink RL 22 yX10_clear ∈ TB := TBm 834 (by decide +kernel) rfl
theorem cw_X10_clear : Cond.code yX10_clear cX10_clear 2 (some .int) ∈ TB := TBm 837 (by decide +kernel) rfl
theorem mi_X10_clear : MI yX10_clear cX10_clear 2 (some .int) 0 := ⟨cw_X10_clear, iw_X10, by decide +kernel, by decide +kernel, by decide +kernel⟩
theorem ml_L_23 : Cond.methodLink RL 23 yX9_city ∈ TB := TBm 371 (by decide +kernel) rfl
theorem cw_X9_city : Cond.code yX9_city cX9_city 3 (some .int) ∈ TB := TBm 374 (by decide +kernel) rfl
theorem mi_X9_city : MI yX9_city cX9_city 3 (some .int) 0 := ⟨cw_X9_city, iw_X9, by decide +kernel, by decide +kernel, by decide +kernel⟩
theorem ml_L_26 : Cond.methodLink RL 26 yX10_city ∈ TB := TBm 838 (by decide +kernel) rfl
theorem cw_X10_city : Cond.code yX10_city cX10_city 3 (some .int) ∈ TB := TBm 841 (by decide +kernel) rfl
theorem mi_X10_city : MI yX10_city cX10_city 3 (some .int) 0 := ⟨cw_X10_city, iw_X10, by decide +kernel, by decide +kernel, by decide +kernel⟩
theorem ml_L_27 : Cond.methodLink RL 27 yX9_door ∈ TB := TBm 433 (by decide +kernel) rfl
theorem cw_X9_door : Cond.code yX9_door cX9_door 3 (some .int) ∈ TB := TBm 436 (by decide +kernel) rfl
theorem mi_X9_door : MI yX9_door cX9_door 3 (some .int) 2 := ⟨cw_X9_door, iw_X9, by decide +kernel, by decide +kernel, by decide +kernel⟩
theorem ml_L_31 : Cond.methodLink RL 31 yX10_door ∈ TB := TBm 873 (by decide +kernel) rfl
theorem cw_X10_door : Cond.code yX10_door cX10_door 3 (some .int) ∈ TB := TBm 876 (by decide +kernel) rfl
theorem mi_X10_door : MI yX10_door cX10_door 3 (some .int) 2 := ⟨cw_X10_door, iw_X10, by decide +kernel, by decide +kernel, by decide +kernel⟩
theorem ml_L_32 : Cond.methodLink RL 32 yX9_boy ∈ TB := TBm 466 (by decide +kernel) rfl
theorem cw_X9_boy : Cond.code yX9_boy cX9_boy 3 (some .int) ∈ TB := TBm 469 (by decide +kernel) rfl
theorem mi_X9_boy : MI yX9_boy cX9_boy 3 (some .int) 2 := ⟨cw_X9_boy, iw_X9, by decide +kernel, by decide +kernel, by decide +kernel⟩
theorem ml_L_35 : Cond.methodLink RL 35 yX10_boy ∈ TB := TBm 904 (by decide +kernel) rfl
theorem cw_X10_boy : Cond.code yX10_boy cX10_boy 3 (some .int) ∈ TB := TBm 907 (by decide +kernel) rfl
theorem mi_X10_boy : MI yX10_boy cX10_boy 3 (some .int) 2 := ⟨cw_X10_boy, iw_X10, by decide +kernel, by decide +kernel, by decide +kernel⟩
theorem ml_L_36 : Cond.methodLink RL 36 yX9_now ∈ TB := TBm 495 (by decide +kernel) rfl
theorem cw_X9_now : Cond.code yX9_now cX9_now 2 (some .int) ∈ TB := TBm 498 (by decide +kernel) rfl
theorem mi_X9_now : MI yX9_now cX9_now 2 (some .int) 1 := ⟨cw_X9_now, iw_X9, by decide +kernel, by decide +kernel, by decide +kernel⟩
theorem ml_L_39 : Cond.methodLink RL 39 yX10_now ∈ TB := TBm 925 (by decide +kernel) rfl
theorem cw_X10_now : Cond.code yX10_now cX10_now 2 (some .int) ∈ TB := TBm 928 (by decide +kernel) rfl
theorem mi_X10_now : MI yX10_now cX10_now 2 (some .int) 1 := ⟨cw_X10_now, iw_X10, by decide +kernel, by decide +kernel, by decide +kernel⟩
theorem ml_L_40 : Cond.methodLink RL 40 yX9_goes ∈ TB := TBm 526 (by decide +kernel) rfl
theorem cw_X9_goes : Cond.code yX9_goes cX9_goes 4 (some .int) ∈ TB := TBm 529 (by decide +kernel) rfl
theorem mi_X9_goes : MI yX9_goes cX9_goes 4 (some .int) 2 := ⟨cw_X9_goes, iw_X9, by decide +kernel, by decide +kernel, by decide +kernel⟩
theorem ml_L_43 : Cond.methodLink RL 43 yX10_goes ∈ TB := TBm 940 (by decide +kernel) rfl
theorem cw_X10_goes : Cond.code yX10_goes cX10_goes 4 (some .int) ∈ TB := TBm 943 (by decide +kernel) rfl
theorem mi_X10_goes : MI yX10_goes cX10_goes 4 (some .int) 2 := ⟨cw_X10_goes, iw_X10, by decide +kernel, by decide +kernel, by decide +kernel⟩
theorem ml_L_44 : Cond.methodLink RL 44 yX9_colds ∈ TB := TBm 544 (by decide +kernel) rfl
theorem cw_X9_colds : Cond.code yX9_colds cX9_colds 4 (some .int) ∈ TB := TBm 547 (by decide +kernel) rfl
theorem mi_X9_colds : MI yX9_colds cX9_colds 4 (some .int) 2 := ⟨cw_X9_colds, iw_X9, by decide +kernel, by decide +kernel, by decide +kernel⟩
theorem ml_L_47 : Cond.methodLink RL 47 yX10_colds ∈ TB := TBm 948 (by decide +kernel) rfl
theorem cw_X10_colds : Cond.code yX10_colds cX10_colds 4 (some .int) ∈ TB := TBm 951 (by decide +kernel) rfl
theorem mi_X10_colds : MI yX10_colds cX10_colds 4 (some .int) 2 := ⟨cw_X10_colds, iw_X10, by decide +kernel, by decide +kernel, by decide +kernel⟩
theorem ml_L_48 : Cond.methodLink RL 48 yX9_props ∈ TB := TBm 548 (by decide +kernel) rfl
theorem cw_X9_props : Cond.code yX9_props cX9_props 3 (some .int) ∈ TB := TBm 551 (by decide +kernel) rfl
theorem mi_X9_props : MI yX9_props cX9_props 3 (some .int) 2 := ⟨cw_X9_props, iw_X9, by decide +kernel, by decide +kernel, by decide +kernel⟩
theorem ml_L_51 : Cond.methodLink RL 51 yX10_props ∈ TB := TBm 952 (by decide +kernel) rfl
theorem cw_X10_props : Cond.code yX10_props cX10_props 3 (some .int) ∈ TB := TBm 955 (by decide +kernel) rfl
theorem mi_X10_props : MI yX10_props cX10_props 3 (some .int) 2 := ⟨cw_X10_props, iw_X10, by decide +kernel, by decide +kernel, by decide +kernel⟩
theorem ml_L_52 : Cond.methodLink RL 52 yX9_year ∈ TB := TBm 553 (by decide +kernel) rfl
theorem cw_X9_year : Cond.code yX9_year cX9_year 3 (some .int) ∈ TB := TBm 556 (by decide +kernel) rfl
theorem mi_X9_year : MI yX9_year cX9_year 3 (some .int) 0 := ⟨cw_X9_year, iw_X9, by decide +kernel, by decide +kernel, by decide +kernel⟩
theorem ml_L_55 : Cond.methodLink RL 55 yX10_year ∈ TB := TBm 956 (by decide +kernel) rfl
theorem cw_X10_year : Cond.code yX10_year cX10_year 3 (some .int) ∈ TB := TBm 959 (by decide +kernel) rfl
theorem mi_X10_year : MI yX10_year cX10_year 3 (some .int) 0 := ⟨cw_X10_year, iw_X10, by decide +kernel, by decide +kernel, by decide +kernel⟩
theorem ml_L_56 : Cond.methodLink RL 56 yX9_michaelmas ∈ TB := TBm 557 (by decide +kernel) rfl
theorem cw_X9_michaelmas : Cond.code yX9_michaelmas cX9_michaelmas 3 (some .int) ∈ TB := TBm 560 (by decide +kernel) rfl
theorem mi_X9_michaelmas : MI yX9_michaelmas cX9_michaelmas 3 (some .int) 0 := ⟨cw_X9_michaelmas, iw_X9, by decide +kernel, by decide +kernel, by decide +kernel⟩
theorem ml_L_59 : Cond.methodLink RL 59 yX10_michaelmas ∈ TB := TBm 960 (by decide +kernel) rfl
theorem cw_X10_michaelmas : Cond.code yX10_michaelmas cX10_michaelmas 3 (some .int) ∈ TB := TBm 963 (by decide +kernel) rfl
theorem mi_X10_michaelmas : MI yX10_michaelmas cX10_michaelmas 3 (some .int) 0 := ⟨cw_X10_michaelmas, iw_X10, by decide +kernel, by decide +kernel, by decide +kernel⟩
theorem ml_L_60 : Cond.methodLink RL 60 yX9_undo ∈ TB := TBm 561 (by decide +kernel) rfl
theorem cw_X9_undo : Cond.code yX9_undo cX9_undo 1 (some .int) ∈ TB := TBm 564 (by decide +kernel) rfl
theorem mi_X9_undo : MI yX9_undo cX9_undo 1 (some .int) 0 := ⟨cw_X9_undo, iw_X9, by decide +kernel, by decide +kernel, by decide +kernel⟩
theorem ml_L_63 : Cond.methodLink RL 63 yX10_undo ∈ TB := TBm 964 (by decide +kernel) rfl
theorem cw_X10_undo : Cond.code yX10_undo cX10_undo 2 (some .int) ∈ TB := TBm 967 (by decide +kernel) rfl
theorem mi_X10_undo : MI yX10_undo cX10_undo 2 (some .int) 0 := ⟨cw_X10_undo, iw_X10, by decide +kernel, by decide +kernel, by decide +kernel⟩
theorem ml_L_64 : Cond.methodLink RL 64 yX9_way ∈ TB := TBm 569 (by decide +kernel) rfl
theorem cw_X9_way : Cond.code yX9_way cX9_way 3 (some .int) ∈ TB := TBm 572 (by decide +kernel) rfl
theorem mi_X9_way : MI yX9_way cX9_way 3 (some .int) 2 := ⟨cw_X9_way, iw_X9, by decide +kernel, by decide +kernel, by decide +kernel⟩
theorem ml_L_67 : Cond.methodLink RL 67 yX10_way ∈ TB := TBm 968 (by decide +kernel) rfl
theorem cw_X10_way : Cond.code yX10_way cX10_way 5 (some .int) ∈ TB := TBm 971 (by decide +kernel) rfl
theorem mi_X10_way : MI yX10_way cX10_way 5 (some .int) 2 := ⟨cw_X10_way, iw_X10, by decide +kernel, by decide +kernel, by decide +kernel⟩
theorem ml_L_68 : Cond.methodLink RL 68 yX9_posts ∈ TB := TBm 577 (by decide +kernel) rfl
theorem cw_X9_posts : Cond.code yX9_posts cX9_posts 2 (some .int) ∈ TB := TBm 580 (by decide +kernel) rfl
theorem mi_X9_posts : MI yX9_posts cX9_posts 2 (some .int) 1 := ⟨cw_X9_posts, iw_X9, by decide +kernel, by decide +kernel, by decide +kernel⟩
theorem ml_L_71 : Cond.methodLink RL 71 yX10_posts ∈ TB := TBm 976 (by decide +kernel) rfl
theorem cw_X10_posts : Cond.code yX10_posts cX10_posts 6 (some .int) ∈ TB := TBm 979 (by decide +kernel) rfl
theorem mi_X10_posts : MI yX10_posts cX10_posts 6 (some .int) 1 := ⟨cw_X10_posts, iw_X10, by decide +kernel, by decide +kernel, by decide +kernel⟩
theorem ml_L_72 : Cond.methodLink RL 72 yX9_tune ∈ TB := TBm 598 (by decide +kernel) rfl
theorem cw_X9_tune : Cond.code yX9_tune cX9_tune 2 (some .int) ∈ TB := TBm 601 (by decide +kernel) rfl
theorem mi_X9_tune : MI yX9_tune cX9_tune 2 (some .int) 1 := ⟨cw_X9_tune, iw_X9, by decide +kernel, by decide +kernel, by decide +kernel⟩
theorem ml_L_75 : Cond.methodLink RL 75 yX10_tune ∈ TB := TBm 991 (by decide +kernel) rfl
theorem cw_X10_tune : Cond.code yX10_tune cX10_tune 5 (some .int) ∈ TB := TBm 994 (by decide +kernel) rfl
theorem mi_X10_tune : MI yX10_tune cX10_tune 5 (some .int) 1 := ⟨cw_X10_tune, iw_X10, by decide +kernel, by decide +kernel, by decide +kernel⟩
theorem ml_L_76 : Cond.methodLink RL 76 yX9_thirds ∈ TB := TBm 610 (by decide +kernel) rfl
theorem cw_X9_thirds : Cond.code yX9_thirds cX9_thirds 3 (some .int) ∈ TB := TBm 613 (by decide +kernel) rfl
theorem mi_X9_thirds : MI yX9_thirds cX9_thirds 3 (some .int) 2 := ⟨cw_X9_thirds, iw_X9, by decide +kernel, by decide +kernel, by decide +kernel⟩
theorem ml_L_79 : Cond.methodLink RL 79 yX10_thirds ∈ TB := TBm 999 (by decide +kernel) rfl
theorem cw_X10_thirds : Cond.code yX10_thirds cX10_thirds 7 (some .int) ∈ TB := TBm 1002 (by decide +kernel) rfl
theorem mi_X10_thirds : MI yX10_thirds cX10_thirds 7 (some .int) 2 := ⟨cw_X10_thirds, iw_X10, by decide +kernel, by decide +kernel, by decide +kernel⟩
theorem ml_L_80 : Cond.methodLink RL 80 yX9_odds ∈ TB := TBm 621 (by decide +kernel) rfl
theorem cw_X9_odds : Cond.code yX9_odds cX9_odds 4 (some .int) ∈ TB := TBm 624 (by decide +kernel) rfl
theorem mi_X9_odds : MI yX9_odds cX9_odds 4 (some .int) 3 := ⟨cw_X9_odds, iw_X9, by decide +kernel, by decide +kernel, by decide +kernel⟩
theorem ml_L_84 : Cond.methodLink RL 84 yX10_odds ∈ TB := TBm 1003 (by decide +kernel) rfl
theorem cw_X10_odds : Cond.code yX10_odds cX10_odds 8 (some .int) ∈ TB := TBm 1006 (by decide +kernel) rfl
theorem mi_X10_odds : MI yX10_odds cX10_odds 8 (some .int) 3 := ⟨cw_X10_odds, iw_X10, by decide +kernel, by decide +kernel, by decide +kernel⟩
theorem ml_L_85 : Cond.methodLink RL 85 yX9_hears ∈ TB := TBm 640 (by decide +kernel) rfl
theorem cw_X9_hears : Cond.code yX9_hears cX9_hears 3 (some .int) ∈ TB := TBm 643 (by decide +kernel) rfl
theorem mi_X9_hears : MI yX9_hears cX9_hears 3 (some .int) 2 := ⟨cw_X9_hears, iw_X9, by decide +kernel, by decide +kernel, by decide +kernel⟩
theorem ml_L_88 : Cond.methodLink RL 88 yX10_hears ∈ TB := TBm 1013 (by decide +kernel) rfl
theorem cw_X10_hears : Cond.code yX10_hears cX10_hears 3 (some .int) ∈ TB := TBm 1016 (by decide +kernel) rfl
theorem mi_X10_hears : MI yX10_hears cX10_hears 3 (some .int) 2 := ⟨cw_X10_hears, iw_X10, by decide +kernel, by decide +kernel, by decide +kernel⟩
theorem ml_L_89 : Cond.methodLink RL 89 yX9_forget ∈ TB := TBm 648 (by decide +kernel) rfl
theorem cw_X9_forget : Cond.code yX9_forget cX9_forget 2 (some .int) ∈ TB := TBm 651 (by decide +kernel) rfl
theorem mi_X9_forget : MI yX9_forget cX9_forget 2 (some .int) 0 := ⟨cw_X9_forget, iw_X9, by decide +kernel, by decide +kernel, by decide +kernel⟩
theorem ml_L_92 : Cond.methodLink RL 92 yX10_forget ∈ TB := TBm 1017 (by decide +kernel) rfl
theorem cw_X10_forget : Cond.code yX10_forget cX10_forget 2 (some .int) ∈ TB := TBm 1020 (by decide +kernel) rfl
theorem mi_X10_forget : MI yX10_forget cX10_forget 2 (some .int) 0 := ⟨cw_X10_forget, iw_X10, by decide +kernel, by decide +kernel, by decide +kernel⟩
theorem ml_L_93 : Cond.methodLink RL 93 yX9_who ∈ TB := TBm 652 (by decide +kernel) rfl
theorem cw_X9_who : Cond.code yX9_who cX9_who 1 (some .int) ∈ TB := TBm 655 (by decide +kernel) rfl
theorem mi_X9_who : MI yX9_who cX9_who 1 (some .int) 0 := ⟨cw_X9_who, iw_X9, by decide +kernel, by decide +kernel, by decide +kernel⟩
theorem ml_L_96 : Cond.methodLink RL 96 yX10_who ∈ TB := TBm 1021 (by decide +kernel) rfl
theorem cw_X10_who : Cond.code yX10_who cX10_who 1 (some .int) ∈ TB := TBm 1024 (by decide +kernel) rfl
theorem mi_X10_who : MI yX10_who cX10_who 1 (some .int) 0 := ⟨cw_X10_who, iw_X10, by decide +kernel, by decide +kernel, by decide +kernel⟩
theorem ml_L_97 : Cond.methodLink RL 97 yX9_ask ∈ TB := TBm 661 (by decide +kernel) rfl
theorem cw_X9_ask : Cond.code yX9_ask cX9_ask 1 (some .int) ∈ TB := TBm 664 (by decide +kernel) rfl
theorem mi_X9_ask : MI yX9_ask cX9_ask 1 (some .int) 0 := ⟨cw_X9_ask, iw_X9, by decide +kernel, by decide +kernel, by decide +kernel⟩
theorem ml_L_100 : Cond.methodLink RL 100 yX10_ask ∈ TB := TBm 1029 (by decide +kernel) rfl
theorem cw_X10_ask : Cond.code yX10_ask cX10_ask 8 (some .int) ∈ TB := TBm 1032 (by decide +kernel) rfl
theorem mi_X10_ask : MI yX10_ask cX10_ask 8 (some .int) 0 := ⟨cw_X10_ask, iw_X10, by decide +kernel, by decide +kernel, by decide +kernel⟩
theorem ml_L_101 : Cond.methodLink RL 101 yX9_rate ∈ TB := TBm 673 (by decide +kernel) rfl
theorem cw_X9_rate : Cond.code yX9_rate cX9_rate 3 (some .int) ∈ TB := TBm 676 (by decide +kernel) rfl
theorem mi_X9_rate : MI yX9_rate cX9_rate 3 (some .int) 2 := ⟨cw_X9_rate, iw_X9, by decide +kernel, by decide +kernel, by decide +kernel⟩
theorem ml_L_104 : Cond.methodLink RL 104 yX10_rate ∈ TB := TBm 1033 (by decide +kernel) rfl
theorem cw_X10_rate : Cond.code yX10_rate cX10_rate 6 (some .int) ∈ TB := TBm 1036 (by decide +kernel) rfl
theorem mi_X10_rate : MI yX10_rate cX10_rate 6 (some .int) 2 := ⟨cw_X10_rate, iw_X10, by decide +kernel, by decide +kernel, by decide +kernel⟩
theorem ml_L_105 : Cond.methodLink RL 105 yX9_keep ∈ TB := TBm 714 (by decide +kernel) rfl
theorem cw_X9_keep : Cond.code yX9_keep cX9_keep 2 (some .int) ∈ TB := TBm 717 (by decide +kernel) rfl
theorem mi_X9_keep : MI yX9_keep cX9_keep 2 (some .int) 1 := ⟨cw_X9_keep, iw_X9, by decide +kernel, by decide +kernel, by decide +kernel⟩
theorem ml_L_108 : Cond.methodLink RL 108 yX10_keep ∈ TB := TBm 1042 (by decide +kernel) rfl
theorem cw_X10_keep : Cond.code yX10_keep cX10_keep 3 (some .int) ∈ TB := TBm 1045 (by decide +kernel) rfl
theorem mi_X10_keep : MI yX10_keep cX10_keep 3 (some .int) 1 := ⟨cw_X10_keep, iw_X10, by decide +kernel, by decide +kernel, by decide +kernel⟩
theorem ml_L_109 : Cond.methodLink RL 109 yX9_back ∈ TB := TBm 719 (by decide +kernel) rfl
theorem cw_X9_back : Cond.code yX9_back cX9_back 2 (some .int) ∈ TB := TBm 722 (by decide +kernel) rfl
theorem mi_X9_back : MI yX9_back cX9_back 2 (some .int) 1 := ⟨cw_X9_back, iw_X9, by decide +kernel, by decide +kernel, by decide +kernel⟩
theorem ml_L_112 : Cond.methodLink RL 112 yX10_back ∈ TB := TBm 1046 (by decide +kernel) rfl
theorem cw_X10_back : Cond.code yX10_back cX10_back 3 (some .int) ∈ TB := TBm 1049 (by decide +kernel) rfl
theorem mi_X10_back : MI yX10_back cX10_back 3 (some .int) 1 := ⟨cw_X10_back, iw_X10, by decide +kernel, by decide +kernel, by decide +kernel⟩
theorem ml_L_113 : Cond.methodLink RL 113 yX9_count ∈ TB := TBm 723 (by decide +kernel) rfl
theorem cw_X9_count : Cond.code yX9_count cX9_count 2 (some .int) ∈ TB := TBm 726 (by decide +kernel) rfl
theorem mi_X9_count : MI yX9_count cX9_count 2 (some .int) 1 := ⟨cw_X9_count, iw_X9, by decide +kernel, by decide +kernel, by decide +kernel⟩
theorem ml_L_116 : Cond.methodLink RL 116 yX10_count ∈ TB := TBm 1050 (by decide +kernel) rfl
theorem cw_X10_count : Cond.code yX10_count cX10_count 2 (some .int) ∈ TB := TBm 1053 (by decide +kernel) rfl
theorem mi_X10_count : MI yX10_count cX10_count 2 (some .int) 1 := ⟨cw_X10_count, iw_X10, by decide +kernel, by decide +kernel, by decide +kernel⟩
theorem ml_L_117 : Cond.methodLink RL 117 yX9_trace ∈ TB := TBm 727 (by decide +kernel) rfl
theorem cw_X9_trace : Cond.code yX9_trace cX9_trace 1 (some .long) ∈ TB := TBm 730 (by decide +kernel) rfl
theorem mi_X9_trace : MI yX9_trace cX9_trace 1 (some .long) 0 := ⟨cw_X9_trace, iw_X9, by decide +kernel, by decide +kernel, by decide +kernel⟩
theorem ml_L_121 : Cond.methodLink RL 121 yX10_trace ∈ TB := TBm 1054 (by decide +kernel) rfl
theorem cw_X10_trace : Cond.code yX10_trace cX10_trace 1 (some .long) ∈ TB := TBm 1057 (by decide +kernel) rfl
theorem mi_X10_trace : MI yX10_trace cX10_trace 1 (some .long) 0 := ⟨cw_X10_trace, iw_X10, by decide +kernel, by decide +kernel, by decide +kernel⟩
theorem in_X9_type : Cond.instanceMethod yX9_type ∈ TB := TBm 361 (by decide +kernel) rfl
theorem sl_X9_type : Cond.selects yX9_type.cls yX9_type yX9_type ∈ TB := TBm 362 (by decide +kernel) rfl
theorem in_X10_type : Cond.instanceMethod yX10_type ∈ TB := TBm 828 (by decide +kernel) rfl
theorem sl_X10_type : Cond.selects yX10_type.cls yX10_type yX10_type ∈ TB := TBm 829 (by decide +kernel) rfl
theorem in_X9_clear : Cond.instanceMethod yX9_clear ∈ TB := TBm 368 (by decide +kernel) rfl
theorem sl_X9_clear : Cond.selects yX9_clear.cls yX9_clear yX9_clear ∈ TB := TBm 369 (by decide +kernel) rfl
theorem in_X10_clear : Cond.instanceMethod yX10_clear ∈ TB := TBm 835 (by decide +kernel) rfl
theorem sl_X10_clear : Cond.selects yX10_clear.cls yX10_clear yX10_clear ∈ TB := TBm 836 (by decide +kernel) rfl
theorem in_X9_city : Cond.instanceMethod yX9_city ∈ TB := TBm 372 (by decide +kernel) rfl
theorem sl_X9_city : Cond.selects yX9_city.cls yX9_city yX9_city ∈ TB := TBm 373 (by decide +kernel) rfl
theorem in_X10_city : Cond.instanceMethod yX10_city ∈ TB := TBm 839 (by decide +kernel) rfl
theorem sl_X10_city : Cond.selects yX10_city.cls yX10_city yX10_city ∈ TB := TBm 840 (by decide +kernel) rfl
theorem in_X9_door : Cond.instanceMethod yX9_door ∈ TB := TBm 434 (by decide +kernel) rfl
theorem sl_X9_door : Cond.selects yX9_door.cls yX9_door yX9_door ∈ TB := TBm 435 (by decide +kernel) rfl
theorem in_X10_door : Cond.instanceMethod yX10_door ∈ TB := TBm 874 (by decide +kernel) rfl
theorem sl_X10_door : Cond.selects yX10_door.cls yX10_door yX10_door ∈ TB := TBm 875 (by decide +kernel) rfl
theorem in_X9_boy : Cond.instanceMethod yX9_boy ∈ TB := TBm 467 (by decide +kernel) rfl
theorem sl_X9_boy : Cond.selects yX9_boy.cls yX9_boy yX9_boy ∈ TB := TBm 468 (by decide +kernel) rfl
theorem in_X10_boy : Cond.instanceMethod yX10_boy ∈ TB := TBm 905 (by decide +kernel) rfl
theorem sl_X10_boy : Cond.selects yX10_boy.cls yX10_boy yX10_boy ∈ TB := TBm 906 (by decide +kernel) rfl
theorem in_X9_now : Cond.instanceMethod yX9_now ∈ TB := TBm 496 (by decide +kernel) rfl
theorem sl_X9_now : Cond.selects yX9_now.cls yX9_now yX9_now ∈ TB := TBm 497 (by decide +kernel) rfl
theorem in_X10_now : Cond.instanceMethod yX10_now ∈ TB := TBm 926 (by decide +kernel) rfl
theorem sl_X10_now : Cond.selects yX10_now.cls yX10_now yX10_now ∈ TB := TBm 927 (by decide +kernel) rfl
theorem in_X9_goes : Cond.instanceMethod yX9_goes ∈ TB := TBm 527 (by decide +kernel) rfl
theorem sl_X9_goes : Cond.selects yX9_goes.cls yX9_goes yX9_goes ∈ TB := TBm 528 (by decide +kernel) rfl
theorem in_X10_goes : Cond.instanceMethod yX10_goes ∈ TB := TBm 941 (by decide +kernel) rfl
theorem sl_X10_goes : Cond.selects yX10_goes.cls yX10_goes yX10_goes ∈ TB := TBm 942 (by decide +kernel) rfl
theorem in_X9_colds : Cond.instanceMethod yX9_colds ∈ TB := TBm 545 (by decide +kernel) rfl
theorem sl_X9_colds : Cond.selects yX9_colds.cls yX9_colds yX9_colds ∈ TB := TBm 546 (by decide +kernel) rfl
theorem in_X10_colds : Cond.instanceMethod yX10_colds ∈ TB := TBm 949 (by decide +kernel) rfl
theorem sl_X10_colds : Cond.selects yX10_colds.cls yX10_colds yX10_colds ∈ TB := TBm 950 (by decide +kernel) rfl
theorem in_X9_props : Cond.instanceMethod yX9_props ∈ TB := TBm 549 (by decide +kernel) rfl
theorem sl_X9_props : Cond.selects yX9_props.cls yX9_props yX9_props ∈ TB := TBm 550 (by decide +kernel) rfl
theorem in_X10_props : Cond.instanceMethod yX10_props ∈ TB := TBm 953 (by decide +kernel) rfl
theorem sl_X10_props : Cond.selects yX10_props.cls yX10_props yX10_props ∈ TB := TBm 954 (by decide +kernel) rfl
theorem in_X9_year : Cond.instanceMethod yX9_year ∈ TB := TBm 554 (by decide +kernel) rfl
theorem sl_X9_year : Cond.selects yX9_year.cls yX9_year yX9_year ∈ TB := TBm 555 (by decide +kernel) rfl
theorem in_X10_year : Cond.instanceMethod yX10_year ∈ TB := TBm 957 (by decide +kernel) rfl
theorem sl_X10_year : Cond.selects yX10_year.cls yX10_year yX10_year ∈ TB := TBm 958 (by decide +kernel) rfl
theorem in_X9_michaelmas : Cond.instanceMethod yX9_michaelmas ∈ TB := TBm 558 (by decide +kernel) rfl
theorem sl_X9_michaelmas : Cond.selects yX9_michaelmas.cls yX9_michaelmas yX9_michaelmas ∈ TB := TBm 559 (by decide +kernel) rfl
theorem in_X10_michaelmas : Cond.instanceMethod yX10_michaelmas ∈ TB := TBm 961 (by decide +kernel) rfl
theorem sl_X10_michaelmas : Cond.selects yX10_michaelmas.cls yX10_michaelmas yX10_michaelmas ∈ TB := TBm 962 (by decide +kernel) rfl
theorem in_X9_undo : Cond.instanceMethod yX9_undo ∈ TB := TBm 562 (by decide +kernel) rfl
theorem sl_X9_undo : Cond.selects yX9_undo.cls yX9_undo yX9_undo ∈ TB := TBm 563 (by decide +kernel) rfl
theorem in_X10_undo : Cond.instanceMethod yX10_undo ∈ TB := TBm 965 (by decide +kernel) rfl
theorem sl_X10_undo : Cond.selects yX10_undo.cls yX10_undo yX10_undo ∈ TB := TBm 966 (by decide +kernel) rfl
theorem in_X9_way : Cond.instanceMethod yX9_way ∈ TB := TBm 570 (by decide +kernel) rfl
theorem sl_X9_way : Cond.selects yX9_way.cls yX9_way yX9_way ∈ TB := TBm 571 (by decide +kernel) rfl
theorem in_X10_way : Cond.instanceMethod yX10_way ∈ TB := TBm 969 (by decide +kernel) rfl
theorem sl_X10_way : Cond.selects yX10_way.cls yX10_way yX10_way ∈ TB := TBm 970 (by decide +kernel) rfl
theorem in_X9_posts : Cond.instanceMethod yX9_posts ∈ TB := TBm 578 (by decide +kernel) rfl
theorem sl_X9_posts : Cond.selects yX9_posts.cls yX9_posts yX9_posts ∈ TB := TBm 579 (by decide +kernel) rfl
theorem in_X10_posts : Cond.instanceMethod yX10_posts ∈ TB := TBm 977 (by decide +kernel) rfl
theorem sl_X10_posts : Cond.selects yX10_posts.cls yX10_posts yX10_posts ∈ TB := TBm 978 (by decide +kernel) rfl
theorem in_X9_tune : Cond.instanceMethod yX9_tune ∈ TB := TBm 599 (by decide +kernel) rfl
theorem sl_X9_tune : Cond.selects yX9_tune.cls yX9_tune yX9_tune ∈ TB := TBm 600 (by decide +kernel) rfl
theorem in_X10_tune : Cond.instanceMethod yX10_tune ∈ TB := TBm 992 (by decide +kernel) rfl
theorem sl_X10_tune : Cond.selects yX10_tune.cls yX10_tune yX10_tune ∈ TB := TBm 993 (by decide +kernel) rfl
theorem in_X9_thirds : Cond.instanceMethod yX9_thirds ∈ TB := TBm 611 (by decide +kernel) rfl
theorem sl_X9_thirds : Cond.selects yX9_thirds.cls yX9_thirds yX9_thirds ∈ TB := TBm 612 (by decide +kernel) rfl
theorem in_X10_thirds : Cond.instanceMethod yX10_thirds ∈ TB := TBm 1000 (by decide +kernel) rfl
theorem sl_X10_thirds : Cond.selects yX10_thirds.cls yX10_thirds yX10_thirds ∈ TB := TBm 1001 (by decide +kernel) rfl
theorem in_X9_odds : Cond.instanceMethod yX9_odds ∈ TB := TBm 622 (by decide +kernel) rfl
theorem sl_X9_odds : Cond.selects yX9_odds.cls yX9_odds yX9_odds ∈ TB := TBm 623 (by decide +kernel) rfl
theorem in_X10_odds : Cond.instanceMethod yX10_odds ∈ TB := TBm 1004 (by decide +kernel) rfl
theorem sl_X10_odds : Cond.selects yX10_odds.cls yX10_odds yX10_odds ∈ TB := TBm 1005 (by decide +kernel) rfl
theorem in_X9_hears : Cond.instanceMethod yX9_hears ∈ TB := TBm 641 (by decide +kernel) rfl
theorem sl_X9_hears : Cond.selects yX9_hears.cls yX9_hears yX9_hears ∈ TB := TBm 642 (by decide +kernel) rfl
theorem in_X10_hears : Cond.instanceMethod yX10_hears ∈ TB := TBm 1014 (by decide +kernel) rfl
theorem sl_X10_hears : Cond.selects yX10_hears.cls yX10_hears yX10_hears ∈ TB := TBm 1015 (by decide +kernel) rfl
theorem in_X9_forget : Cond.instanceMethod yX9_forget ∈ TB := TBm 649 (by decide +kernel) rfl
theorem sl_X9_forget : Cond.selects yX9_forget.cls yX9_forget yX9_forget ∈ TB := TBm 650 (by decide +kernel) rfl
theorem in_X10_forget : Cond.instanceMethod yX10_forget ∈ TB := TBm 1018 (by decide +kernel) rfl
theorem sl_X10_forget : Cond.selects yX10_forget.cls yX10_forget yX10_forget ∈ TB := TBm 1019 (by decide +kernel) rfl
theorem in_X9_who : Cond.instanceMethod yX9_who ∈ TB := TBm 653 (by decide +kernel) rfl
theorem sl_X9_who : Cond.selects yX9_who.cls yX9_who yX9_who ∈ TB := TBm 654 (by decide +kernel) rfl
theorem in_X10_who : Cond.instanceMethod yX10_who ∈ TB := TBm 1022 (by decide +kernel) rfl
theorem sl_X10_who : Cond.selects yX10_who.cls yX10_who yX10_who ∈ TB := TBm 1023 (by decide +kernel) rfl
theorem in_X9_ask : Cond.instanceMethod yX9_ask ∈ TB := TBm 662 (by decide +kernel) rfl
theorem sl_X9_ask : Cond.selects yX9_ask.cls yX9_ask yX9_ask ∈ TB := TBm 663 (by decide +kernel) rfl
theorem in_X10_ask : Cond.instanceMethod yX10_ask ∈ TB := TBm 1030 (by decide +kernel) rfl
theorem sl_X10_ask : Cond.selects yX10_ask.cls yX10_ask yX10_ask ∈ TB := TBm 1031 (by decide +kernel) rfl
theorem in_X9_rate : Cond.instanceMethod yX9_rate ∈ TB := TBm 674 (by decide +kernel) rfl
theorem sl_X9_rate : Cond.selects yX9_rate.cls yX9_rate yX9_rate ∈ TB := TBm 675 (by decide +kernel) rfl
theorem in_X10_rate : Cond.instanceMethod yX10_rate ∈ TB := TBm 1034 (by decide +kernel) rfl
theorem sl_X10_rate : Cond.selects yX10_rate.cls yX10_rate yX10_rate ∈ TB := TBm 1035 (by decide +kernel) rfl
theorem in_X9_keep : Cond.instanceMethod yX9_keep ∈ TB := TBm 715 (by decide +kernel) rfl
theorem sl_X9_keep : Cond.selects yX9_keep.cls yX9_keep yX9_keep ∈ TB := TBm 716 (by decide +kernel) rfl
theorem in_X10_keep : Cond.instanceMethod yX10_keep ∈ TB := TBm 1043 (by decide +kernel) rfl
theorem sl_X10_keep : Cond.selects yX10_keep.cls yX10_keep yX10_keep ∈ TB := TBm 1044 (by decide +kernel) rfl
theorem in_X9_back : Cond.instanceMethod yX9_back ∈ TB := TBm 720 (by decide +kernel) rfl
theorem sl_X9_back : Cond.selects yX9_back.cls yX9_back yX9_back ∈ TB := TBm 721 (by decide +kernel) rfl
theorem in_X10_back : Cond.instanceMethod yX10_back ∈ TB := TBm 1047 (by decide +kernel) rfl
theorem sl_X10_back : Cond.selects yX10_back.cls yX10_back yX10_back ∈ TB := TBm 1048 (by decide +kernel) rfl
theorem in_X9_count : Cond.instanceMethod yX9_count ∈ TB := TBm 724 (by decide +kernel) rfl
theorem sl_X9_count : Cond.selects yX9_count.cls yX9_count yX9_count ∈ TB := TBm 725 (by decide +kernel) rfl
theorem in_X10_count : Cond.instanceMethod yX10_count ∈ TB := TBm 1051 (by decide +kernel) rfl
theorem sl_X10_count : Cond.selects yX10_count.cls yX10_count yX10_count ∈ TB := TBm 1052 (by decide +kernel) rfl
theorem in_X9_trace : Cond.instanceMethod yX9_trace ∈ TB := TBm 728 (by decide +kernel) rfl
theorem sl_X9_trace : Cond.selects yX9_trace.cls yX9_trace yX9_trace ∈ TB := TBm 729 (by decide +kernel) rfl
theorem in_X10_trace : Cond.instanceMethod yX10_trace ∈ TB := TBm 1055 (by decide +kernel) rfl
theorem sl_X10_trace : Cond.selects yX10_trace.cls yX10_trace yX10_trace ∈ TB := TBm 1056 (by decide +kernel) rfl
theorem dL_law_0 : decode cL_law 0 = .ok (.new 7, 3) := by decide +kernel
theorem dL_law_3 : decode cL_law 3 = .ok (.dup, 1) := by decide +kernel
theorem dL_law_4 : decode cL_law 4 = .ok (.invokespecial 9, 3) := by decide +kernel
theorem dL_law_7 : decode cL_law 7 = .ok (.astore_n 1, 1) := by decide +kernel
theorem dL_law_8 : decode cL_law 8 = .ok (.new 10, 3) := by decide +kernel
theorem dL_law_11 : decode cL_law 11 = .ok (.dup, 1) := by decide +kernel
theorem dL_law_12 : decode cL_law 12 = .ok (.invokespecial 12, 3) := by decide +kernel
theorem dL_law_15 : decode cL_law 15 = .ok (.astore_n 2, 1) := by decide +kernel
theorem dL_law_16 : decode cL_law 16 = .ok (.iconst 0, 1) := by decide +kernel
theorem dL_law_17 : decode cL_law 17 = .ok (.istore_n 3, 1) := by decide +kernel
theorem dL_law_18 : decode cL_law 18 = .ok (.iload_n 3, 1) := by decide +kernel
theorem dL_law_19 : decode cL_law 19 = .ok (.aload_n 0, 1) := by decide +kernel
theorem dL_law_20 : decode cL_law 20 = .ok (.arraylength, 1) := by decide +kernel
theorem dL_law_21 : decode cL_law 21 = .ok (.iconst 4, 1) := by decide +kernel
theorem dL_law_22 : decode cL_law 22 = .ok (.isub, 1) := by decide +kernel
theorem dL_law_23 : decode cL_law 23 = .ok (.if_icmp .gt 754, 3) := by decide +kernel
theorem dL_law_26 : decode cL_law 26 = .ok (.aload_n 0, 1) := by decide +kernel
theorem dL_law_27 : decode cL_law 27 = .ok (.iload_n 3, 1) := by decide +kernel
theorem dL_law_28 : decode cL_law 28 = .ok (.iaload, 1) := by decide +kernel
theorem dL_law_29 : decode cL_law 29 = .ok (.bipush 31, 2) := by decide +kernel
theorem dL_law_31 : decode cL_law 31 = .ok (.iand, 1) := by decide +kernel
theorem dL_law_32 : decode cL_law 32 = .ok (.tableswitch 739 0 25 #[120, 143, 156, 169, 202, 235, 258, 291, 324, 357, 370, 383, 396, 429, 452, 475, 508, 551, 584, 597, 610, 623, 656, 679, 702, 725], 120) := by decide +kernel
theorem dL_law_152 : decode cL_law 152 = .ok (.aload_n 1, 1) := by decide +kernel
theorem dL_law_153 : decode cL_law 153 = .ok (.aload_n 0, 1) := by decide +kernel
theorem dL_law_154 : decode cL_law 154 = .ok (.iload_n 3, 1) := by decide +kernel
theorem dL_law_155 : decode cL_law 155 = .ok (.iconst 1, 1) := by decide +kernel
theorem dL_law_156 : decode cL_law 156 = .ok (.iadd, 1) := by decide +kernel
theorem dL_law_157 : decode cL_law 157 = .ok (.iaload, 1) := by decide +kernel
theorem dL_law_158 : decode cL_law 158 = .ok (.invokevirtual 13, 3) := by decide +kernel
theorem dL_law_161 : decode cL_law 161 = .ok (.aload_n 2, 1) := by decide +kernel
theorem dL_law_162 : decode cL_law 162 = .ok (.aload_n 0, 1) := by decide +kernel
theorem dL_law_163 : decode cL_law 163 = .ok (.iload_n 3, 1) := by decide +kernel
theorem dL_law_164 : decode cL_law 164 = .ok (.iconst 1, 1) := by decide +kernel
theorem dL_law_165 : decode cL_law 165 = .ok (.iadd, 1) := by decide +kernel
theorem dL_law_166 : decode cL_law 166 = .ok (.iaload, 1) := by decide +kernel
theorem dL_law_167 : decode cL_law 167 = .ok (.invokevirtual 17, 3) := by decide +kernel
theorem dL_law_170 : decode cL_law 170 = .ok (.if_icmp .eq 601, 3) := by decide +kernel
theorem dL_law_173 : decode cL_law 173 = .ok (.iconst 0, 1) := by decide +kernel
theorem dL_law_174 : decode cL_law 174 = .ok (.ireturn, 1) := by decide +kernel
theorem dL_law_175 : decode cL_law 175 = .ok (.aload_n 1, 1) := by decide +kernel
theorem dL_law_176 : decode cL_law 176 = .ok (.invokevirtual 18, 3) := by decide +kernel
theorem dL_law_179 : decode cL_law 179 = .ok (.aload_n 2, 1) := by decide +kernel
theorem dL_law_180 : decode cL_law 180 = .ok (.invokevirtual 22, 3) := by decide +kernel
theorem dL_law_183 : decode cL_law 183 = .ok (.if_icmp .eq 588, 3) := by decide +kernel
theorem dL_law_186 : decode cL_law 186 = .ok (.iconst 0, 1) := by decide +kernel
theorem dL_law_187 : decode cL_law 187 = .ok (.ireturn, 1) := by decide +kernel
theorem dL_law_188 : decode cL_law 188 = .ok (.aload_n 1, 1) := by decide +kernel
theorem dL_law_189 : decode cL_law 189 = .ok (.invokevirtual 23, 3) := by decide +kernel
theorem dL_law_192 : decode cL_law 192 = .ok (.aload_n 2, 1) := by decide +kernel
theorem dL_law_193 : decode cL_law 193 = .ok (.invokevirtual 26, 3) := by decide +kernel
theorem dL_law_196 : decode cL_law 196 = .ok (.if_icmp .eq 575, 3) := by decide +kernel
theorem dL_law_199 : decode cL_law 199 = .ok (.iconst 0, 1) := by decide +kernel
theorem dL_law_200 : decode cL_law 200 = .ok (.ireturn, 1) := by decide +kernel
theorem dL_law_201 : decode cL_law 201 = .ok (.aload_n 1, 1) := by decide +kernel
theorem dL_law_202 : decode cL_law 202 = .ok (.aload_n 0, 1) := by decide +kernel
theorem dL_law_203 : decode cL_law 203 = .ok (.iload_n 3, 1) := by decide +kernel
theorem dL_law_204 : decode cL_law 204 = .ok (.iconst 1, 1) := by decide +kernel
theorem dL_law_205 : decode cL_law 205 = .ok (.iadd, 1) := by decide +kernel
theorem dL_law_206 : decode cL_law 206 = .ok (.iaload, 1) := by decide +kernel
theorem dL_law_207 : decode cL_law 207 = .ok (.aload_n 0, 1) := by decide +kernel
theorem dL_law_208 : decode cL_law 208 = .ok (.iload_n 3, 1) := by decide +kernel
theorem dL_law_209 : decode cL_law 209 = .ok (.iconst 2, 1) := by decide +kernel
theorem dL_law_210 : decode cL_law 210 = .ok (.iadd, 1) := by decide +kernel
theorem dL_law_211 : decode cL_law 211 = .ok (.iaload, 1) := by decide +kernel
theorem dL_law_212 : decode cL_law 212 = .ok (.invokevirtual 27, 3) := by decide +kernel
theorem dL_law_215 : decode cL_law 215 = .ok (.aload_n 2, 1) := by decide +kernel
theorem dL_law_216 : decode cL_law 216 = .ok (.aload_n 0, 1) := by decide +kernel
theorem dL_law_217 : decode cL_law 217 = .ok (.iload_n 3, 1) := by decide +kernel
theorem dL_law_218 : decode cL_law 218 = .ok (.iconst 1, 1) := by decide +kernel
theorem dL_law_219 : decode cL_law 219 = .ok (.iadd, 1) := by decide +kernel
theorem dL_law_220 : decode cL_law 220 = .ok (.iaload, 1) := by decide +kernel
theorem dL_law_221 : decode cL_law 221 = .ok (.aload_n 0, 1) := by decide +kernel
theorem dL_law_222 : decode cL_law 222 = .ok (.iload_n 3, 1) := by decide +kernel
theorem dL_law_223 : decode cL_law 223 = .ok (.iconst 2, 1) := by decide +kernel
theorem dL_law_224 : decode cL_law 224 = .ok (.iadd, 1) := by decide +kernel
theorem dL_law_225 : decode cL_law 225 = .ok (.iaload, 1) := by decide +kernel
theorem dL_law_226 : decode cL_law 226 = .ok (.invokevirtual 31, 3) := by decide +kernel
theorem dL_law_229 : decode cL_law 229 = .ok (.if_icmp .eq 542, 3) := by decide +kernel
theorem dL_law_232 : decode cL_law 232 = .ok (.iconst 0, 1) := by decide +kernel
theorem dL_law_233 : decode cL_law 233 = .ok (.ireturn, 1) := by decide +kernel
theorem dL_law_234 : decode cL_law 234 = .ok (.aload_n 1, 1) := by decide +kernel
theorem dL_law_235 : decode cL_law 235 = .ok (.aload_n 0, 1) := by decide +kernel
theorem dL_law_236 : decode cL_law 236 = .ok (.iload_n 3, 1) := by decide +kernel
theorem dL_law_237 : decode cL_law 237 = .ok (.iconst 1, 1) := by decide +kernel
theorem dL_law_238 : decode cL_law 238 = .ok (.iadd, 1) := by decide +kernel
theorem dL_law_239 : decode cL_law 239 = .ok (.iaload, 1) := by decide +kernel
theorem dL_law_240 : decode cL_law 240 = .ok (.aload_n 0, 1) := by decide +kernel
theorem dL_law_241 : decode cL_law 241 = .ok (.iload_n 3, 1) := by decide +kernel
theorem dL_law_242 : decode cL_law 242 = .ok (.iconst 2, 1) := by decide +kernel
theorem dL_law_243 : decode cL_law 243 = .ok (.iadd, 1) := by decide +kernel
theorem dL_law_244 : decode cL_law 244 = .ok (.iaload, 1) := by decide +kernel
theorem dL_law_245 : decode cL_law 245 = .ok (.invokevirtual 32, 3) := by decide +kernel
theorem dL_law_248 : decode cL_law 248 = .ok (.aload_n 2, 1) := by decide +kernel
theorem dL_law_249 : decode cL_law 249 = .ok (.aload_n 0, 1) := by decide +kernel
theorem dL_law_250 : decode cL_law 250 = .ok (.iload_n 3, 1) := by decide +kernel
theorem dL_law_251 : decode cL_law 251 = .ok (.iconst 1, 1) := by decide +kernel
theorem dL_law_252 : decode cL_law 252 = .ok (.iadd, 1) := by decide +kernel
theorem dL_law_253 : decode cL_law 253 = .ok (.iaload, 1) := by decide +kernel
theorem dL_law_254 : decode cL_law 254 = .ok (.aload_n 0, 1) := by decide +kernel
theorem dL_law_255 : decode cL_law 255 = .ok (.iload_n 3, 1) := by decide +kernel
theorem dL_law_256 : decode cL_law 256 = .ok (.iconst 2, 1) := by decide +kernel
theorem dL_law_257 : decode cL_law 257 = .ok (.iadd, 1) := by decide +kernel
theorem dL_law_258 : decode cL_law 258 = .ok (.iaload, 1) := by decide +kernel
theorem dL_law_259 : decode cL_law 259 = .ok (.invokevirtual 35, 3) := by decide +kernel
theorem dL_law_262 : decode cL_law 262 = .ok (.if_icmp .eq 509, 3) := by decide +kernel
theorem dL_law_265 : decode cL_law 265 = .ok (.iconst 0, 1) := by decide +kernel
theorem dL_law_266 : decode cL_law 266 = .ok (.ireturn, 1) := by decide +kernel
theorem dL_law_267 : decode cL_law 267 = .ok (.aload_n 1, 1) := by decide +kernel
theorem dL_law_268 : decode cL_law 268 = .ok (.aload_n 0, 1) := by decide +kernel
theorem dL_law_269 : decode cL_law 269 = .ok (.iload_n 3, 1) := by decide +kernel
theorem dL_law_270 : decode cL_law 270 = .ok (.iconst 1, 1) := by decide +kernel
theorem dL_law_271 : decode cL_law 271 = .ok (.iadd, 1) := by decide +kernel
theorem dL_law_272 : decode cL_law 272 = .ok (.iaload, 1) := by decide +kernel
theorem dL_law_273 : decode cL_law 273 = .ok (.invokevirtual 36, 3) := by decide +kernel
theorem dL_law_276 : decode cL_law 276 = .ok (.aload_n 2, 1) := by decide +kernel
theorem dL_law_277 : decode cL_law 277 = .ok (.aload_n 0, 1) := by decide +kernel
theorem dL_law_278 : decode cL_law 278 = .ok (.iload_n 3, 1) := by decide +kernel
theorem dL_law_279 : decode cL_law 279 = .ok (.iconst 1, 1) := by decide +kernel
theorem dL_law_280 : decode cL_law 280 = .ok (.iadd, 1) := by decide +kernel
theorem dL_law_281 : decode cL_law 281 = .ok (.iaload, 1) := by decide +kernel
theorem dL_law_282 : decode cL_law 282 = .ok (.invokevirtual 39, 3) := by decide +kernel
theorem dL_law_285 : decode cL_law 285 = .ok (.if_icmp .eq 486, 3) := by decide +kernel
theorem dL_law_288 : decode cL_law 288 = .ok (.iconst 0, 1) := by decide +kernel
theorem dL_law_289 : decode cL_law 289 = .ok (.ireturn, 1) := by decide +kernel
theorem dL_law_290 : decode cL_law 290 = .ok (.aload_n 1, 1) := by decide +kernel
theorem dL_law_291 : decode cL_law 291 = .ok (.aload_n 0, 1) := by decide +kernel
theorem dL_law_292 : decode cL_law 292 = .ok (.iload_n 3, 1) := by decide +kernel
theorem dL_law_293 : decode cL_law 293 = .ok (.iconst 1, 1) := by decide +kernel
theorem dL_law_294 : decode cL_law 294 = .ok (.iadd, 1) := by decide +kernel
theorem dL_law_295 : decode cL_law 295 = .ok (.iaload, 1) := by decide +kernel
theorem dL_law_296 : decode cL_law 296 = .ok (.aload_n 0, 1) := by decide +kernel
theorem dL_law_297 : decode cL_law 297 = .ok (.iload_n 3, 1) := by decide +kernel
theorem dL_law_298 : decode cL_law 298 = .ok (.iconst 2, 1) := by decide +kernel
theorem dL_law_299 : decode cL_law 299 = .ok (.iadd, 1) := by decide +kernel
theorem dL_law_300 : decode cL_law 300 = .ok (.iaload, 1) := by decide +kernel
theorem dL_law_301 : decode cL_law 301 = .ok (.invokevirtual 40, 3) := by decide +kernel
theorem dL_law_304 : decode cL_law 304 = .ok (.aload_n 2, 1) := by decide +kernel
theorem dL_law_305 : decode cL_law 305 = .ok (.aload_n 0, 1) := by decide +kernel
theorem dL_law_306 : decode cL_law 306 = .ok (.iload_n 3, 1) := by decide +kernel
theorem dL_law_307 : decode cL_law 307 = .ok (.iconst 1, 1) := by decide +kernel
theorem dL_law_308 : decode cL_law 308 = .ok (.iadd, 1) := by decide +kernel
theorem dL_law_309 : decode cL_law 309 = .ok (.iaload, 1) := by decide +kernel
theorem dL_law_310 : decode cL_law 310 = .ok (.aload_n 0, 1) := by decide +kernel
theorem dL_law_311 : decode cL_law 311 = .ok (.iload_n 3, 1) := by decide +kernel
theorem dL_law_312 : decode cL_law 312 = .ok (.iconst 2, 1) := by decide +kernel
theorem dL_law_313 : decode cL_law 313 = .ok (.iadd, 1) := by decide +kernel
theorem dL_law_314 : decode cL_law 314 = .ok (.iaload, 1) := by decide +kernel
theorem dL_law_315 : decode cL_law 315 = .ok (.invokevirtual 43, 3) := by decide +kernel
theorem dL_law_318 : decode cL_law 318 = .ok (.if_icmp .eq 453, 3) := by decide +kernel
theorem dL_law_321 : decode cL_law 321 = .ok (.iconst 0, 1) := by decide +kernel
theorem dL_law_322 : decode cL_law 322 = .ok (.ireturn, 1) := by decide +kernel
theorem dL_law_323 : decode cL_law 323 = .ok (.aload_n 1, 1) := by decide +kernel
theorem dL_law_324 : decode cL_law 324 = .ok (.aload_n 0, 1) := by decide +kernel
theorem dL_law_325 : decode cL_law 325 = .ok (.iload_n 3, 1) := by decide +kernel
theorem dL_law_326 : decode cL_law 326 = .ok (.iconst 1, 1) := by decide +kernel
theorem dL_law_327 : decode cL_law 327 = .ok (.iadd, 1) := by decide +kernel
theorem dL_law_328 : decode cL_law 328 = .ok (.iaload, 1) := by decide +kernel
theorem dL_law_329 : decode cL_law 329 = .ok (.aload_n 0, 1) := by decide +kernel
theorem dL_law_330 : decode cL_law 330 = .ok (.iload_n 3, 1) := by decide +kernel
theorem dL_law_331 : decode cL_law 331 = .ok (.iconst 2, 1) := by decide +kernel
theorem dL_law_332 : decode cL_law 332 = .ok (.iadd, 1) := by decide +kernel
theorem dL_law_333 : decode cL_law 333 = .ok (.iaload, 1) := by decide +kernel
theorem dL_law_334 : decode cL_law 334 = .ok (.invokevirtual 44, 3) := by decide +kernel
theorem dL_law_337 : decode cL_law 337 = .ok (.aload_n 2, 1) := by decide +kernel
theorem dL_law_338 : decode cL_law 338 = .ok (.aload_n 0, 1) := by decide +kernel
theorem dL_law_339 : decode cL_law 339 = .ok (.iload_n 3, 1) := by decide +kernel
theorem dL_law_340 : decode cL_law 340 = .ok (.iconst 1, 1) := by decide +kernel
theorem dL_law_341 : decode cL_law 341 = .ok (.iadd, 1) := by decide +kernel
theorem dL_law_342 : decode cL_law 342 = .ok (.iaload, 1) := by decide +kernel
theorem dL_law_343 : decode cL_law 343 = .ok (.aload_n 0, 1) := by decide +kernel
theorem dL_law_344 : decode cL_law 344 = .ok (.iload_n 3, 1) := by decide +kernel
theorem dL_law_345 : decode cL_law 345 = .ok (.iconst 2, 1) := by decide +kernel
theorem dL_law_346 : decode cL_law 346 = .ok (.iadd, 1) := by decide +kernel
theorem dL_law_347 : decode cL_law 347 = .ok (.iaload, 1) := by decide +kernel
theorem dL_law_348 : decode cL_law 348 = .ok (.invokevirtual 47, 3) := by decide +kernel
theorem dL_law_351 : decode cL_law 351 = .ok (.if_icmp .eq 420, 3) := by decide +kernel
theorem dL_law_354 : decode cL_law 354 = .ok (.iconst 0, 1) := by decide +kernel
theorem dL_law_355 : decode cL_law 355 = .ok (.ireturn, 1) := by decide +kernel
theorem dL_law_356 : decode cL_law 356 = .ok (.aload_n 1, 1) := by decide +kernel
theorem dL_law_357 : decode cL_law 357 = .ok (.aload_n 0, 1) := by decide +kernel
theorem dL_law_358 : decode cL_law 358 = .ok (.iload_n 3, 1) := by decide +kernel
theorem dL_law_359 : decode cL_law 359 = .ok (.iconst 1, 1) := by decide +kernel
theorem dL_law_360 : decode cL_law 360 = .ok (.iadd, 1) := by decide +kernel
theorem dL_law_361 : decode cL_law 361 = .ok (.iaload, 1) := by decide +kernel
theorem dL_law_362 : decode cL_law 362 = .ok (.aload_n 0, 1) := by decide +kernel
theorem dL_law_363 : decode cL_law 363 = .ok (.iload_n 3, 1) := by decide +kernel
theorem dL_law_364 : decode cL_law 364 = .ok (.iconst 2, 1) := by decide +kernel
theorem dL_law_365 : decode cL_law 365 = .ok (.iadd, 1) := by decide +kernel
theorem dL_law_366 : decode cL_law 366 = .ok (.iaload, 1) := by decide +kernel
theorem dL_law_367 : decode cL_law 367 = .ok (.invokevirtual 48, 3) := by decide +kernel
theorem dL_law_370 : decode cL_law 370 = .ok (.aload_n 2, 1) := by decide +kernel
theorem dL_law_371 : decode cL_law 371 = .ok (.aload_n 0, 1) := by decide +kernel
theorem dL_law_372 : decode cL_law 372 = .ok (.iload_n 3, 1) := by decide +kernel
theorem dL_law_373 : decode cL_law 373 = .ok (.iconst 1, 1) := by decide +kernel
theorem dL_law_374 : decode cL_law 374 = .ok (.iadd, 1) := by decide +kernel
theorem dL_law_375 : decode cL_law 375 = .ok (.iaload, 1) := by decide +kernel
theorem dL_law_376 : decode cL_law 376 = .ok (.aload_n 0, 1) := by decide +kernel
theorem dL_law_377 : decode cL_law 377 = .ok (.iload_n 3, 1) := by decide +kernel
theorem dL_law_378 : decode cL_law 378 = .ok (.iconst 2, 1) := by decide +kernel
theorem dL_law_379 : decode cL_law 379 = .ok (.iadd, 1) := by decide +kernel
theorem dL_law_380 : decode cL_law 380 = .ok (.iaload, 1) := by decide +kernel
theorem dL_law_381 : decode cL_law 381 = .ok (.invokevirtual 51, 3) := by decide +kernel
theorem dL_law_384 : decode cL_law 384 = .ok (.if_icmp .eq 387, 3) := by decide +kernel
theorem dL_law_387 : decode cL_law 387 = .ok (.iconst 0, 1) := by decide +kernel
theorem dL_law_388 : decode cL_law 388 = .ok (.ireturn, 1) := by decide +kernel
theorem dL_law_389 : decode cL_law 389 = .ok (.aload_n 1, 1) := by decide +kernel
theorem dL_law_390 : decode cL_law 390 = .ok (.invokevirtual 52, 3) := by decide +kernel
theorem dL_law_393 : decode cL_law 393 = .ok (.aload_n 2, 1) := by decide +kernel
theorem dL_law_394 : decode cL_law 394 = .ok (.invokevirtual 55, 3) := by decide +kernel
theorem dL_law_397 : decode cL_law 397 = .ok (.if_icmp .eq 374, 3) := by decide +kernel
theorem dL_law_400 : decode cL_law 400 = .ok (.iconst 0, 1) := by decide +kernel
theorem dL_law_401 : decode cL_law 401 = .ok (.ireturn, 1) := by decide +kernel
theorem dL_law_402 : decode cL_law 402 = .ok (.aload_n 1, 1) := by decide +kernel
theorem dL_law_403 : decode cL_law 403 = .ok (.invokevirtual 56, 3) := by decide +kernel
theorem dL_law_406 : decode cL_law 406 = .ok (.aload_n 2, 1) := by decide +kernel
theorem dL_law_407 : decode cL_law 407 = .ok (.invokevirtual 59, 3) := by decide +kernel
theorem dL_law_410 : decode cL_law 410 = .ok (.if_icmp .eq 361, 3) := by decide +kernel
theorem dL_law_413 : decode cL_law 413 = .ok (.iconst 0, 1) := by decide +kernel
theorem dL_law_414 : decode cL_law 414 = .ok (.ireturn, 1) := by decide +kernel
theorem dL_law_415 : decode cL_law 415 = .ok (.aload_n 1, 1) := by decide +kernel
theorem dL_law_416 : decode cL_law 416 = .ok (.invokevirtual 60, 3) := by decide +kernel
theorem dL_law_419 : decode cL_law 419 = .ok (.aload_n 2, 1) := by decide +kernel
theorem dL_law_420 : decode cL_law 420 = .ok (.invokevirtual 63, 3) := by decide +kernel
theorem dL_law_423 : decode cL_law 423 = .ok (.if_icmp .eq 348, 3) := by decide +kernel
theorem dL_law_426 : decode cL_law 426 = .ok (.iconst 0, 1) := by decide +kernel
theorem dL_law_427 : decode cL_law 427 = .ok (.ireturn, 1) := by decide +kernel
theorem dL_law_428 : decode cL_law 428 = .ok (.aload_n 1, 1) := by decide +kernel
theorem dL_law_429 : decode cL_law 429 = .ok (.aload_n 0, 1) := by decide +kernel
theorem dL_law_430 : decode cL_law 430 = .ok (.iload_n 3, 1) := by decide +kernel
theorem dL_law_431 : decode cL_law 431 = .ok (.iconst 1, 1) := by decide +kernel
theorem dL_law_432 : decode cL_law 432 = .ok (.iadd, 1) := by decide +kernel
theorem dL_law_433 : decode cL_law 433 = .ok (.iaload, 1) := by decide +kernel
theorem dL_law_434 : decode cL_law 434 = .ok (.aload_n 0, 1) := by decide +kernel
theorem dL_law_435 : decode cL_law 435 = .ok (.iload_n 3, 1) := by decide +kernel
theorem dL_law_436 : decode cL_law 436 = .ok (.iconst 2, 1) := by decide +kernel
theorem dL_law_437 : decode cL_law 437 = .ok (.iadd, 1) := by decide +kernel
theorem dL_law_438 : decode cL_law 438 = .ok (.iaload, 1) := by decide +kernel
theorem dL_law_439 : decode cL_law 439 = .ok (.invokevirtual 64, 3) := by decide +kernel
theorem dL_law_442 : decode cL_law 442 = .ok (.aload_n 2, 1) := by decide +kernel
theorem dL_law_443 : decode cL_law 443 = .ok (.aload_n 0, 1) := by decide +kernel
theorem dL_law_444 : decode cL_law 444 = .ok (.iload_n 3, 1) := by decide +kernel
theorem dL_law_445 : decode cL_law 445 = .ok (.iconst 1, 1) := by decide +kernel
theorem dL_law_446 : decode cL_law 446 = .ok (.iadd, 1) := by decide +kernel
theorem dL_law_447 : decode cL_law 447 = .ok (.iaload, 1) := by decide +kernel
theorem dL_law_448 : decode cL_law 448 = .ok (.aload_n 0, 1) := by decide +kernel
theorem dL_law_449 : decode cL_law 449 = .ok (.iload_n 3, 1) := by decide +kernel
theorem dL_law_450 : decode cL_law 450 = .ok (.iconst 2, 1) := by decide +kernel
theorem dL_law_451 : decode cL_law 451 = .ok (.iadd, 1) := by decide +kernel
theorem dL_law_452 : decode cL_law 452 = .ok (.iaload, 1) := by decide +kernel
theorem dL_law_453 : decode cL_law 453 = .ok (.invokevirtual 67, 3) := by decide +kernel
theorem dL_law_456 : decode cL_law 456 = .ok (.if_icmp .eq 315, 3) := by decide +kernel
theorem dL_law_459 : decode cL_law 459 = .ok (.iconst 0, 1) := by decide +kernel
theorem dL_law_460 : decode cL_law 460 = .ok (.ireturn, 1) := by decide +kernel
theorem dL_law_461 : decode cL_law 461 = .ok (.aload_n 1, 1) := by decide +kernel
theorem dL_law_462 : decode cL_law 462 = .ok (.aload_n 0, 1) := by decide +kernel
theorem dL_law_463 : decode cL_law 463 = .ok (.iload_n 3, 1) := by decide +kernel
theorem dL_law_464 : decode cL_law 464 = .ok (.iconst 1, 1) := by decide +kernel
theorem dL_law_465 : decode cL_law 465 = .ok (.iadd, 1) := by decide +kernel
theorem dL_law_466 : decode cL_law 466 = .ok (.iaload, 1) := by decide +kernel
theorem dL_law_467 : decode cL_law 467 = .ok (.invokevirtual 68, 3) := by decide +kernel
theorem dL_law_470 : decode cL_law 470 = .ok (.aload_n 2, 1) := by decide +kernel
theorem dL_law_471 : decode cL_law 471 = .ok (.aload_n 0, 1) := by decide +kernel
theorem dL_law_472 : decode cL_law 472 = .ok (.iload_n 3, 1) := by decide +kernel
theorem dL_law_473 : decode cL_law 473 = .ok (.iconst 1, 1) := by decide +kernel
theorem dL_law_474 : decode cL_law 474 = .ok (.iadd, 1) := by decide +kernel
theorem dL_law_475 : decode cL_law 475 = .ok (.iaload, 1) := by decide +kernel
theorem dL_law_476 : decode cL_law 476 = .ok (.invokevirtual 71, 3) := by decide +kernel
theorem dL_law_479 : decode cL_law 479 = .ok (.if_icmp .eq 292, 3) := by decide +kernel
theorem dL_law_482 : decode cL_law 482 = .ok (.iconst 0, 1) := by decide +kernel
theorem dL_law_483 : decode cL_law 483 = .ok (.ireturn, 1) := by decide +kernel
theorem dL_law_484 : decode cL_law 484 = .ok (.aload_n 1, 1) := by decide +kernel
theorem dL_law_485 : decode cL_law 485 = .ok (.aload_n 0, 1) := by decide +kernel
theorem dL_law_486 : decode cL_law 486 = .ok (.iload_n 3, 1) := by decide +kernel
theorem dL_law_487 : decode cL_law 487 = .ok (.iconst 1, 1) := by decide +kernel
theorem dL_law_488 : decode cL_law 488 = .ok (.iadd, 1) := by decide +kernel
theorem dL_law_489 : decode cL_law 489 = .ok (.iaload, 1) := by decide +kernel
theorem dL_law_490 : decode cL_law 490 = .ok (.invokevirtual 72, 3) := by decide +kernel
theorem dL_law_493 : decode cL_law 493 = .ok (.aload_n 2, 1) := by decide +kernel
theorem dL_law_494 : decode cL_law 494 = .ok (.aload_n 0, 1) := by decide +kernel
theorem dL_law_495 : decode cL_law 495 = .ok (.iload_n 3, 1) := by decide +kernel
theorem dL_law_496 : decode cL_law 496 = .ok (.iconst 1, 1) := by decide +kernel
theorem dL_law_497 : decode cL_law 497 = .ok (.iadd, 1) := by decide +kernel
theorem dL_law_498 : decode cL_law 498 = .ok (.iaload, 1) := by decide +kernel
theorem dL_law_499 : decode cL_law 499 = .ok (.invokevirtual 75, 3) := by decide +kernel
theorem dL_law_502 : decode cL_law 502 = .ok (.if_icmp .eq 269, 3) := by decide +kernel
theorem dL_law_505 : decode cL_law 505 = .ok (.iconst 0, 1) := by decide +kernel
theorem dL_law_506 : decode cL_law 506 = .ok (.ireturn, 1) := by decide +kernel
theorem dL_law_507 : decode cL_law 507 = .ok (.aload_n 1, 1) := by decide +kernel
theorem dL_law_508 : decode cL_law 508 = .ok (.aload_n 0, 1) := by decide +kernel
theorem dL_law_509 : decode cL_law 509 = .ok (.iload_n 3, 1) := by decide +kernel
theorem dL_law_510 : decode cL_law 510 = .ok (.iconst 1, 1) := by decide +kernel
theorem dL_law_511 : decode cL_law 511 = .ok (.iadd, 1) := by decide +kernel
theorem dL_law_512 : decode cL_law 512 = .ok (.iaload, 1) := by decide +kernel
theorem dL_law_513 : decode cL_law 513 = .ok (.aload_n 0, 1) := by decide +kernel
theorem dL_law_514 : decode cL_law 514 = .ok (.iload_n 3, 1) := by decide +kernel
theorem dL_law_515 : decode cL_law 515 = .ok (.iconst 2, 1) := by decide +kernel
theorem dL_law_516 : decode cL_law 516 = .ok (.iadd, 1) := by decide +kernel
theorem dL_law_517 : decode cL_law 517 = .ok (.iaload, 1) := by decide +kernel
theorem dL_law_518 : decode cL_law 518 = .ok (.invokevirtual 76, 3) := by decide +kernel
theorem dL_law_521 : decode cL_law 521 = .ok (.aload_n 2, 1) := by decide +kernel
theorem dL_law_522 : decode cL_law 522 = .ok (.aload_n 0, 1) := by decide +kernel
theorem dL_law_523 : decode cL_law 523 = .ok (.iload_n 3, 1) := by decide +kernel
theorem dL_law_524 : decode cL_law 524 = .ok (.iconst 1, 1) := by decide +kernel
theorem dL_law_525 : decode cL_law 525 = .ok (.iadd, 1) := by decide +kernel
theorem dL_law_526 : decode cL_law 526 = .ok (.iaload, 1) := by decide +kernel
theorem dL_law_527 : decode cL_law 527 = .ok (.aload_n 0, 1) := by decide +kernel
theorem dL_law_528 : decode cL_law 528 = .ok (.iload_n 3, 1) := by decide +kernel
theorem dL_law_529 : decode cL_law 529 = .ok (.iconst 2, 1) := by decide +kernel
theorem dL_law_530 : decode cL_law 530 = .ok (.iadd, 1) := by decide +kernel
theorem dL_law_531 : decode cL_law 531 = .ok (.iaload, 1) := by decide +kernel
theorem dL_law_532 : decode cL_law 532 = .ok (.invokevirtual 79, 3) := by decide +kernel
theorem dL_law_535 : decode cL_law 535 = .ok (.if_icmp .eq 236, 3) := by decide +kernel
theorem dL_law_538 : decode cL_law 538 = .ok (.iconst 0, 1) := by decide +kernel
theorem dL_law_539 : decode cL_law 539 = .ok (.ireturn, 1) := by decide +kernel
theorem dL_law_540 : decode cL_law 540 = .ok (.aload_n 1, 1) := by decide +kernel
theorem dL_law_541 : decode cL_law 541 = .ok (.aload_n 0, 1) := by decide +kernel
theorem dL_law_542 : decode cL_law 542 = .ok (.iload_n 3, 1) := by decide +kernel
theorem dL_law_543 : decode cL_law 543 = .ok (.iconst 1, 1) := by decide +kernel
theorem dL_law_544 : decode cL_law 544 = .ok (.iadd, 1) := by decide +kernel
theorem dL_law_545 : decode cL_law 545 = .ok (.iaload, 1) := by decide +kernel
theorem dL_law_546 : decode cL_law 546 = .ok (.aload_n 0, 1) := by decide +kernel
theorem dL_law_547 : decode cL_law 547 = .ok (.iload_n 3, 1) := by decide +kernel
theorem dL_law_548 : decode cL_law 548 = .ok (.iconst 2, 1) := by decide +kernel
theorem dL_law_549 : decode cL_law 549 = .ok (.iadd, 1) := by decide +kernel
theorem dL_law_550 : decode cL_law 550 = .ok (.iaload, 1) := by decide +kernel
theorem dL_law_551 : decode cL_law 551 = .ok (.aload_n 0, 1) := by decide +kernel
theorem dL_law_552 : decode cL_law 552 = .ok (.iload_n 3, 1) := by decide +kernel
theorem dL_law_553 : decode cL_law 553 = .ok (.iconst 3, 1) := by decide +kernel
theorem dL_law_554 : decode cL_law 554 = .ok (.iadd, 1) := by decide +kernel
theorem dL_law_555 : decode cL_law 555 = .ok (.iaload, 1) := by decide +kernel
theorem dL_law_556 : decode cL_law 556 = .ok (.invokevirtual 80, 3) := by decide +kernel
theorem dL_law_559 : decode cL_law 559 = .ok (.aload_n 2, 1) := by decide +kernel
theorem dL_law_560 : decode cL_law 560 = .ok (.aload_n 0, 1) := by decide +kernel
theorem dL_law_561 : decode cL_law 561 = .ok (.iload_n 3, 1) := by decide +kernel
theorem dL_law_562 : decode cL_law 562 = .ok (.iconst 1, 1) := by decide +kernel
theorem dL_law_563 : decode cL_law 563 = .ok (.iadd, 1) := by decide +kernel
theorem dL_law_564 : decode cL_law 564 = .ok (.iaload, 1) := by decide +kernel
theorem dL_law_565 : decode cL_law 565 = .ok (.aload_n 0, 1) := by decide +kernel
theorem dL_law_566 : decode cL_law 566 = .ok (.iload_n 3, 1) := by decide +kernel
theorem dL_law_567 : decode cL_law 567 = .ok (.iconst 2, 1) := by decide +kernel
theorem dL_law_568 : decode cL_law 568 = .ok (.iadd, 1) := by decide +kernel
theorem dL_law_569 : decode cL_law 569 = .ok (.iaload, 1) := by decide +kernel
theorem dL_law_570 : decode cL_law 570 = .ok (.aload_n 0, 1) := by decide +kernel
theorem dL_law_571 : decode cL_law 571 = .ok (.iload_n 3, 1) := by decide +kernel
theorem dL_law_572 : decode cL_law 572 = .ok (.iconst 3, 1) := by decide +kernel
theorem dL_law_573 : decode cL_law 573 = .ok (.iadd, 1) := by decide +kernel
theorem dL_law_574 : decode cL_law 574 = .ok (.iaload, 1) := by decide +kernel
theorem dL_law_575 : decode cL_law 575 = .ok (.invokevirtual 84, 3) := by decide +kernel
theorem dL_law_578 : decode cL_law 578 = .ok (.if_icmp .eq 193, 3) := by decide +kernel
theorem dL_law_581 : decode cL_law 581 = .ok (.iconst 0, 1) := by decide +kernel
theorem dL_law_582 : decode cL_law 582 = .ok (.ireturn, 1) := by decide +kernel
theorem dL_law_583 : decode cL_law 583 = .ok (.aload_n 1, 1) := by decide +kernel
theorem dL_law_584 : decode cL_law 584 = .ok (.aload_n 0, 1) := by decide +kernel
theorem dL_law_585 : decode cL_law 585 = .ok (.iload_n 3, 1) := by decide +kernel
theorem dL_law_586 : decode cL_law 586 = .ok (.iconst 1, 1) := by decide +kernel
theorem dL_law_587 : decode cL_law 587 = .ok (.iadd, 1) := by decide +kernel
theorem dL_law_588 : decode cL_law 588 = .ok (.iaload, 1) := by decide +kernel
theorem dL_law_589 : decode cL_law 589 = .ok (.aload_n 0, 1) := by decide +kernel
theorem dL_law_590 : decode cL_law 590 = .ok (.iload_n 3, 1) := by decide +kernel
theorem dL_law_591 : decode cL_law 591 = .ok (.iconst 2, 1) := by decide +kernel
theorem dL_law_592 : decode cL_law 592 = .ok (.iadd, 1) := by decide +kernel
theorem dL_law_593 : decode cL_law 593 = .ok (.iaload, 1) := by decide +kernel
theorem dL_law_594 : decode cL_law 594 = .ok (.invokevirtual 85, 3) := by decide +kernel
theorem dL_law_597 : decode cL_law 597 = .ok (.aload_n 2, 1) := by decide +kernel
theorem dL_law_598 : decode cL_law 598 = .ok (.aload_n 0, 1) := by decide +kernel
theorem dL_law_599 : decode cL_law 599 = .ok (.iload_n 3, 1) := by decide +kernel
theorem dL_law_600 : decode cL_law 600 = .ok (.iconst 1, 1) := by decide +kernel
theorem dL_law_601 : decode cL_law 601 = .ok (.iadd, 1) := by decide +kernel
theorem dL_law_602 : decode cL_law 602 = .ok (.iaload, 1) := by decide +kernel
theorem dL_law_603 : decode cL_law 603 = .ok (.aload_n 0, 1) := by decide +kernel
theorem dL_law_604 : decode cL_law 604 = .ok (.iload_n 3, 1) := by decide +kernel
theorem dL_law_605 : decode cL_law 605 = .ok (.iconst 2, 1) := by decide +kernel
theorem dL_law_606 : decode cL_law 606 = .ok (.iadd, 1) := by decide +kernel
theorem dL_law_607 : decode cL_law 607 = .ok (.iaload, 1) := by decide +kernel
theorem dL_law_608 : decode cL_law 608 = .ok (.invokevirtual 88, 3) := by decide +kernel
theorem dL_law_611 : decode cL_law 611 = .ok (.if_icmp .eq 160, 3) := by decide +kernel
theorem dL_law_614 : decode cL_law 614 = .ok (.iconst 0, 1) := by decide +kernel
theorem dL_law_615 : decode cL_law 615 = .ok (.ireturn, 1) := by decide +kernel
theorem dL_law_616 : decode cL_law 616 = .ok (.aload_n 1, 1) := by decide +kernel
theorem dL_law_617 : decode cL_law 617 = .ok (.invokevirtual 89, 3) := by decide +kernel
theorem dL_law_620 : decode cL_law 620 = .ok (.aload_n 2, 1) := by decide +kernel
theorem dL_law_621 : decode cL_law 621 = .ok (.invokevirtual 92, 3) := by decide +kernel
theorem dL_law_624 : decode cL_law 624 = .ok (.if_icmp .eq 147, 3) := by decide +kernel
theorem dL_law_627 : decode cL_law 627 = .ok (.iconst 0, 1) := by decide +kernel
theorem dL_law_628 : decode cL_law 628 = .ok (.ireturn, 1) := by decide +kernel
theorem dL_law_629 : decode cL_law 629 = .ok (.aload_n 1, 1) := by decide +kernel
theorem dL_law_630 : decode cL_law 630 = .ok (.invokevirtual 93, 3) := by decide +kernel
theorem dL_law_633 : decode cL_law 633 = .ok (.aload_n 2, 1) := by decide +kernel
theorem dL_law_634 : decode cL_law 634 = .ok (.invokevirtual 96, 3) := by decide +kernel
theorem dL_law_637 : decode cL_law 637 = .ok (.if_icmp .eq 134, 3) := by decide +kernel
theorem dL_law_640 : decode cL_law 640 = .ok (.iconst 0, 1) := by decide +kernel
theorem dL_law_641 : decode cL_law 641 = .ok (.ireturn, 1) := by decide +kernel
theorem dL_law_642 : decode cL_law 642 = .ok (.aload_n 1, 1) := by decide +kernel
theorem dL_law_643 : decode cL_law 643 = .ok (.invokevirtual 97, 3) := by decide +kernel
theorem dL_law_646 : decode cL_law 646 = .ok (.aload_n 2, 1) := by decide +kernel
theorem dL_law_647 : decode cL_law 647 = .ok (.invokevirtual 100, 3) := by decide +kernel
theorem dL_law_650 : decode cL_law 650 = .ok (.if_icmp .eq 121, 3) := by decide +kernel
theorem dL_law_653 : decode cL_law 653 = .ok (.iconst 0, 1) := by decide +kernel
theorem dL_law_654 : decode cL_law 654 = .ok (.ireturn, 1) := by decide +kernel
theorem dL_law_655 : decode cL_law 655 = .ok (.aload_n 1, 1) := by decide +kernel
theorem dL_law_656 : decode cL_law 656 = .ok (.aload_n 0, 1) := by decide +kernel
theorem dL_law_657 : decode cL_law 657 = .ok (.iload_n 3, 1) := by decide +kernel
theorem dL_law_658 : decode cL_law 658 = .ok (.iconst 1, 1) := by decide +kernel
theorem dL_law_659 : decode cL_law 659 = .ok (.iadd, 1) := by decide +kernel
theorem dL_law_660 : decode cL_law 660 = .ok (.iaload, 1) := by decide +kernel
theorem dL_law_661 : decode cL_law 661 = .ok (.aload_n 0, 1) := by decide +kernel
theorem dL_law_662 : decode cL_law 662 = .ok (.iload_n 3, 1) := by decide +kernel
theorem dL_law_663 : decode cL_law 663 = .ok (.iconst 2, 1) := by decide +kernel
theorem dL_law_664 : decode cL_law 664 = .ok (.iadd, 1) := by decide +kernel
theorem dL_law_665 : decode cL_law 665 = .ok (.iaload, 1) := by decide +kernel
theorem dL_law_666 : decode cL_law 666 = .ok (.invokevirtual 101, 3) := by decide +kernel
theorem dL_law_669 : decode cL_law 669 = .ok (.aload_n 2, 1) := by decide +kernel
theorem dL_law_670 : decode cL_law 670 = .ok (.aload_n 0, 1) := by decide +kernel
theorem dL_law_671 : decode cL_law 671 = .ok (.iload_n 3, 1) := by decide +kernel
theorem dL_law_672 : decode cL_law 672 = .ok (.iconst 1, 1) := by decide +kernel
theorem dL_law_673 : decode cL_law 673 = .ok (.iadd, 1) := by decide +kernel
theorem dL_law_674 : decode cL_law 674 = .ok (.iaload, 1) := by decide +kernel
theorem dL_law_675 : decode cL_law 675 = .ok (.aload_n 0, 1) := by decide +kernel
theorem dL_law_676 : decode cL_law 676 = .ok (.iload_n 3, 1) := by decide +kernel
theorem dL_law_677 : decode cL_law 677 = .ok (.iconst 2, 1) := by decide +kernel
theorem dL_law_678 : decode cL_law 678 = .ok (.iadd, 1) := by decide +kernel
theorem dL_law_679 : decode cL_law 679 = .ok (.iaload, 1) := by decide +kernel
theorem dL_law_680 : decode cL_law 680 = .ok (.invokevirtual 104, 3) := by decide +kernel
theorem dL_law_683 : decode cL_law 683 = .ok (.if_icmp .eq 88, 3) := by decide +kernel
theorem dL_law_686 : decode cL_law 686 = .ok (.iconst 0, 1) := by decide +kernel
theorem dL_law_687 : decode cL_law 687 = .ok (.ireturn, 1) := by decide +kernel
theorem dL_law_688 : decode cL_law 688 = .ok (.aload_n 1, 1) := by decide +kernel
theorem dL_law_689 : decode cL_law 689 = .ok (.aload_n 0, 1) := by decide +kernel
theorem dL_law_690 : decode cL_law 690 = .ok (.iload_n 3, 1) := by decide +kernel
theorem dL_law_691 : decode cL_law 691 = .ok (.iconst 1, 1) := by decide +kernel
theorem dL_law_692 : decode cL_law 692 = .ok (.iadd, 1) := by decide +kernel
theorem dL_law_693 : decode cL_law 693 = .ok (.iaload, 1) := by decide +kernel
theorem dL_law_694 : decode cL_law 694 = .ok (.invokevirtual 105, 3) := by decide +kernel
theorem dL_law_697 : decode cL_law 697 = .ok (.aload_n 2, 1) := by decide +kernel
theorem dL_law_698 : decode cL_law 698 = .ok (.aload_n 0, 1) := by decide +kernel
theorem dL_law_699 : decode cL_law 699 = .ok (.iload_n 3, 1) := by decide +kernel
theorem dL_law_700 : decode cL_law 700 = .ok (.iconst 1, 1) := by decide +kernel
theorem dL_law_701 : decode cL_law 701 = .ok (.iadd, 1) := by decide +kernel
theorem dL_law_702 : decode cL_law 702 = .ok (.iaload, 1) := by decide +kernel
theorem dL_law_703 : decode cL_law 703 = .ok (.invokevirtual 108, 3) := by decide +kernel
theorem dL_law_706 : decode cL_law 706 = .ok (.if_icmp .eq 65, 3) := by decide +kernel
theorem dL_law_709 : decode cL_law 709 = .ok (.iconst 0, 1) := by decide +kernel
theorem dL_law_710 : decode cL_law 710 = .ok (.ireturn, 1) := by decide +kernel
theorem dL_law_711 : decode cL_law 711 = .ok (.aload_n 1, 1) := by decide +kernel
theorem dL_law_712 : decode cL_law 712 = .ok (.aload_n 0, 1) := by decide +kernel
theorem dL_law_713 : decode cL_law 713 = .ok (.iload_n 3, 1) := by decide +kernel
theorem dL_law_714 : decode cL_law 714 = .ok (.iconst 1, 1) := by decide +kernel
theorem dL_law_715 : decode cL_law 715 = .ok (.iadd, 1) := by decide +kernel
theorem dL_law_716 : decode cL_law 716 = .ok (.iaload, 1) := by decide +kernel
theorem dL_law_717 : decode cL_law 717 = .ok (.invokevirtual 109, 3) := by decide +kernel
theorem dL_law_720 : decode cL_law 720 = .ok (.aload_n 2, 1) := by decide +kernel
theorem dL_law_721 : decode cL_law 721 = .ok (.aload_n 0, 1) := by decide +kernel
theorem dL_law_722 : decode cL_law 722 = .ok (.iload_n 3, 1) := by decide +kernel
theorem dL_law_723 : decode cL_law 723 = .ok (.iconst 1, 1) := by decide +kernel
theorem dL_law_724 : decode cL_law 724 = .ok (.iadd, 1) := by decide +kernel
theorem dL_law_725 : decode cL_law 725 = .ok (.iaload, 1) := by decide +kernel
theorem dL_law_726 : decode cL_law 726 = .ok (.invokevirtual 112, 3) := by decide +kernel
theorem dL_law_729 : decode cL_law 729 = .ok (.if_icmp .eq 42, 3) := by decide +kernel
theorem dL_law_732 : decode cL_law 732 = .ok (.iconst 0, 1) := by decide +kernel
theorem dL_law_733 : decode cL_law 733 = .ok (.ireturn, 1) := by decide +kernel
theorem dL_law_734 : decode cL_law 734 = .ok (.aload_n 1, 1) := by decide +kernel
theorem dL_law_735 : decode cL_law 735 = .ok (.aload_n 0, 1) := by decide +kernel
theorem dL_law_736 : decode cL_law 736 = .ok (.iload_n 3, 1) := by decide +kernel
theorem dL_law_737 : decode cL_law 737 = .ok (.iconst 1, 1) := by decide +kernel
theorem dL_law_738 : decode cL_law 738 = .ok (.iadd, 1) := by decide +kernel
theorem dL_law_739 : decode cL_law 739 = .ok (.iaload, 1) := by decide +kernel
theorem dL_law_740 : decode cL_law 740 = .ok (.invokevirtual 113, 3) := by decide +kernel
theorem dL_law_743 : decode cL_law 743 = .ok (.aload_n 2, 1) := by decide +kernel
theorem dL_law_744 : decode cL_law 744 = .ok (.aload_n 0, 1) := by decide +kernel
theorem dL_law_745 : decode cL_law 745 = .ok (.iload_n 3, 1) := by decide +kernel
theorem dL_law_746 : decode cL_law 746 = .ok (.iconst 1, 1) := by decide +kernel
theorem dL_law_747 : decode cL_law 747 = .ok (.iadd, 1) := by decide +kernel
theorem dL_law_748 : decode cL_law 748 = .ok (.iaload, 1) := by decide +kernel
theorem dL_law_749 : decode cL_law 749 = .ok (.invokevirtual 116, 3) := by decide +kernel
theorem dL_law_752 : decode cL_law 752 = .ok (.if_icmp .eq 19, 3) := by decide +kernel
theorem dL_law_755 : decode cL_law 755 = .ok (.iconst 0, 1) := by decide +kernel
theorem dL_law_756 : decode cL_law 756 = .ok (.ireturn, 1) := by decide +kernel
theorem dL_law_757 : decode cL_law 757 = .ok (.aload_n 1, 1) := by decide +kernel
theorem dL_law_758 : decode cL_law 758 = .ok (.invokevirtual 117, 3) := by decide +kernel
theorem dL_law_761 : decode cL_law 761 = .ok (.aload_n 2, 1) := by decide +kernel
theorem dL_law_762 : decode cL_law 762 = .ok (.invokevirtual 121, 3) := by decide +kernel
theorem dL_law_765 : decode cL_law 765 = .ok (.lcmp, 1) := by decide +kernel
theorem dL_law_766 : decode cL_law 766 = .ok (.ifCond .eq 5, 3) := by decide +kernel
theorem dL_law_769 : decode cL_law 769 = .ok (.iconst 0, 1) := by decide +kernel
theorem dL_law_770 : decode cL_law 770 = .ok (.ireturn, 1) := by decide +kernel
theorem dL_law_771 : decode cL_law 771 = .ok (.iinc 3 4, 3) := by decide +kernel
theorem dL_law_774 : decode cL_law 774 = .ok (.goto (-756), 3) := by decide +kernel
theorem dL_law_777 : decode cL_law 777 = .ok (.iconst 1, 1) := by decide +kernel
theorem dL_law_778 : decode cL_law 778 = .ok (.ireturn, 1) := by decide +kernel
set_option maxHeartbeats 8000000 in
set_option maxRecDepth 100000 in
theorem w_law_18 {p : Program} {l : Launch} {e : Env} {s : State} {m : MethodId} {below : List Frame} {meth : Method} {c : Code} {D : va_G} {cs : Cs3} {b bs L : Nat} {xs : Nat → Int32} (hb0 : s.heap.size = b) (C0 : lw_At p s m meth c bs L xs) (hK : KK D cs s) : ∀ (n : Nat) (x3 : Int32) (S : St) (H : Heap) (locs : List Loc) (ls : Array Slot), q_law_18 xs L n x3 S = some 1 → Wd D b cs S H → va_S (AA b) s.heap H locs → lv_has ls 4 [(0, .ref bs), (1, .ref (b + 0)), (2, .ref (b + 99)), (3, .int x3)] → W p l e room_1 s m #[Value.ref bs] below meth c H locs 116 1370 (lw_Z below #[Value.ref bs] s) (F0 m 18 ls []) := by
  obtain ⟨hx, hb, hrt, hml, hown, hts, hX, hbl, hlocks, hgv⟩ := id C0
  have hC : CX p s m #[Value.ref bs] meth c RL code 4 D cs := ⟨hx, hb, hml, hown, fun w hw => hts w (List.mem_filter.mp hw).1, hK, hlocks⟩
  have hbA : ¬ AA b bs := by unfold AA; omega
  intro n
  induction n with
  | zero =>
    intro x3 S H locs ls h
    exact absurd h (by rw [q_law_18]; exact fun q => nomatch q)
  | succ n IH =>
    intro x3 S H locs ls h hW hS hl
    rw [q_law_18] at h
    refine lv_iload_n hC.1 hC.2.1 dL_law_18 rfl (lv_at hl 3 rfl) ?_
    refine lv_aload_n hC.1 hC.2.1 dL_law_19 rfl (lv_at hl 0 rfl) ?_
    refine va_slen hC.1 hC.2.1 hX hbl hbA hS dL_law_20 ?_
    refine lv_iconst (v := 4) hC.1 hC.2.1 dL_law_21 (by decide) ?_
    refine lv_isub hC.1 hC.2.1 dL_law_22 ?_
    refine lv_icmp_gt (tgt := 777) hC.1 hC.2.1 dL_law_23 (by decide) (fun hc => ?_) (fun hc => ?_)
    · replace h := xt hc h
      refine lv_iconst (v := 1) hC.1 hC.2.1 dL_law_777 (by decide) ?_
      refine va_forget (fun q hq => by have := hS.2.2 q hq; rw [← hb0] at this; exact this) ?_
      refine W.widen (k := 600000) (n := 7302250) (Nat.le_of_ble_eq_true rfl) (Nat.le_of_ble_eq_true rfl) ?_
      exact lw_ret hC.1 hC.2.1 hrt hlocks dL_law_778
    · replace h := xf hc h
      refine lv_aload_n hC.1 hC.2.1 dL_law_26 rfl (lv_at hl 0 rfl) ?_
      refine lv_iload_n hC.1 hC.2.1 dL_law_27 rfl (lv_at hl 3 rfl) ?_
      obtain ⟨hi, h⟩ := xg h
      refine va_sld hC.1 hC.2.1 hX hbl hbA hS hi dL_law_28 ?_
      refine lv_bipush (v := 31) hC.1 hC.2.1 dL_law_29 (by decide) ?_
      refine lv_iand hC.1 hC.2.1 dL_law_31 ?_
      by_cases hc0 : ((xs x3.toNatClampNeg) &&& (31 : Int32)) = 0
      · replace h := xt hc0 h
        refine lv_tableIn (off := 120) (tgt := 152) hC.1 hC.2.1 dL_law_32 (by rw [hc0]; decide) (by rw [hc0]; decide) (by rw [hc0]; rfl) (by decide) ?_
        refine lv_aload_n hC.1 hC.2.1 dL_law_152 rfl (lv_at hl 1 rfl) ?_
        refine lv_aload_n hC.1 hC.2.1 dL_law_153 rfl (lv_at hl 0 rfl) ?_
        refine lv_iload_n hC.1 hC.2.1 dL_law_154 rfl (lv_at hl 3 rfl) ?_
        refine lv_iconst (v := 1) hC.1 hC.2.1 dL_law_155 (by decide) ?_
        refine lv_iadd hC.1 hC.2.1 dL_law_156 ?_
        obtain ⟨hi, h⟩ := xg h
        refine va_sld hC.1 hC.2.1 hX hbl hbA hS hi dL_law_157 ?_
        obtain ⟨⟨q158_r, q158_S⟩, hq, h⟩ := xb h
        try dsimp only at h
        refine x_callV (T := TX9) (N := 12) (As := [.int (xs (x3 + (1 : Int32)).toNatClampNeg)]) (rest := []) hC hW hS 0 (c_X9_type l D b cs _ _ _ _ hq) (by decide) rfl rfl mi_X9_type in_X9_type sl_X9_type ml_L_13 ⟨rfl, rfl⟩ ⟨Nat.le_of_ble_eq_true rfl, Nat.le_of_ble_eq_true rfl⟩ ⟨Nat.le_of_ble_eq_true rfl, Nat.le_of_ble_eq_true rfl⟩ rfl rfl hl.1 (Nat.le_of_ble_eq_true rfl) dL_law_158 (fun H locs hW hS => ?_)
        refine lv_aload_n hC.1 hC.2.1 dL_law_161 rfl (lv_at hl 2 rfl) ?_
        refine lv_aload_n hC.1 hC.2.1 dL_law_162 rfl (lv_at hl 0 rfl) ?_
        refine lv_iload_n hC.1 hC.2.1 dL_law_163 rfl (lv_at hl 3 rfl) ?_
        refine lv_iconst (v := 1) hC.1 hC.2.1 dL_law_164 (by decide) ?_
        refine lv_iadd hC.1 hC.2.1 dL_law_165 ?_
        obtain ⟨hi, h⟩ := xg h
        refine va_sld hC.1 hC.2.1 hX hbl hbA hS hi dL_law_166 ?_
        obtain ⟨⟨q167_r, q167_S⟩, hq, h⟩ := xb h
        try dsimp only at h
        refine x_callV (T := TX10) (N := 27) (As := [.int (xs (x3 + (1 : Int32)).toNatClampNeg)]) (rest := [.int q158_r]) hC hW hS 99 (c_X10_type l D b cs _ _ _ _ hq) (by decide) rfl rfl mi_X10_type in_X10_type sl_X10_type ml_L_17 ⟨rfl, rfl⟩ ⟨Nat.le_of_ble_eq_true rfl, Nat.le_of_ble_eq_true rfl⟩ ⟨Nat.le_of_ble_eq_true rfl, Nat.le_of_ble_eq_true rfl⟩ rfl rfl hl.1 (Nat.le_of_ble_eq_true rfl) dL_law_167 (fun H locs hW hS => ?_)
        refine lv_icmp_eq (tgt := 771) hC.1 hC.2.1 dL_law_170 (by decide) (fun hc => ?_) (fun hc => ?_)
        · replace h := xt hc h
          refine lv_iinc (v := x3 + 4) (lv' := [(3, .int (x3 + 4)), (0, .ref bs), (1, .ref (b + 0)), (2, .ref (b + 99))]) hC.1 hC.2.1 dL_law_771 hl (k := 3) rfl rfl (by decide) rfl (fun ls hl => ?_)
          refine lv_goto (tgt := 18) hC.1 hC.2.1 dL_law_774 (by decide) ?_
          exact IH _ _ _ _ _ h hW hS (lv_sub hl [1, 2, 3, 0] rfl)
        · replace h := xf hc h
          refine lv_iconst (v := 0) hC.1 hC.2.1 dL_law_173 (by decide) ?_
          exact absurd (Option.some.inj h) (by decide)
      replace h := xf hc0 h
      by_cases hc1 : ((xs x3.toNatClampNeg) &&& (31 : Int32)) = 1
      · replace h := xt hc1 h
        refine lv_tableIn (off := 143) (tgt := 175) hC.1 hC.2.1 dL_law_32 (by rw [hc1]; decide) (by rw [hc1]; decide) (by rw [hc1]; rfl) (by decide) ?_
        refine lv_aload_n hC.1 hC.2.1 dL_law_175 rfl (lv_at hl 1 rfl) ?_
        obtain ⟨⟨q176_r, q176_S⟩, hq, h⟩ := xb h
        try dsimp only at h
        refine x_callV (T := TX9) (N := 12) (As := []) (rest := []) hC hW hS 0 (c_X9_clear l D b cs _ _ _ hq) (by decide) rfl rfl mi_X9_clear in_X9_clear sl_X9_clear ml_L_18 ⟨rfl, rfl⟩ ⟨Nat.le_of_ble_eq_true rfl, Nat.le_of_ble_eq_true rfl⟩ ⟨Nat.le_of_ble_eq_true rfl, Nat.le_of_ble_eq_true rfl⟩ rfl rfl hl.1 (Nat.le_of_ble_eq_true rfl) dL_law_176 (fun H locs hW hS => ?_)
        refine lv_aload_n hC.1 hC.2.1 dL_law_179 rfl (lv_at hl 2 rfl) ?_
        obtain ⟨⟨q180_r, q180_S⟩, hq, h⟩ := xb h
        try dsimp only at h
        refine x_callV (T := TX10) (N := 27) (As := []) (rest := [.int q176_r]) hC hW hS 99 (c_X10_clear l D b cs _ _ _ hq) (by decide) rfl rfl mi_X10_clear in_X10_clear sl_X10_clear ml_L_22 ⟨rfl, rfl⟩ ⟨Nat.le_of_ble_eq_true rfl, Nat.le_of_ble_eq_true rfl⟩ ⟨Nat.le_of_ble_eq_true rfl, Nat.le_of_ble_eq_true rfl⟩ rfl rfl hl.1 (Nat.le_of_ble_eq_true rfl) dL_law_180 (fun H locs hW hS => ?_)
        refine lv_icmp_eq (tgt := 771) hC.1 hC.2.1 dL_law_183 (by decide) (fun hc => ?_) (fun hc => ?_)
        · replace h := xt hc h
          refine lv_iinc (v := x3 + 4) (lv' := [(3, .int (x3 + 4)), (0, .ref bs), (1, .ref (b + 0)), (2, .ref (b + 99))]) hC.1 hC.2.1 dL_law_771 hl (k := 3) rfl rfl (by decide) rfl (fun ls hl => ?_)
          refine lv_goto (tgt := 18) hC.1 hC.2.1 dL_law_774 (by decide) ?_
          exact IH _ _ _ _ _ h hW hS (lv_sub hl [1, 2, 3, 0] rfl)
        · replace h := xf hc h
          refine lv_iconst (v := 0) hC.1 hC.2.1 dL_law_186 (by decide) ?_
          exact absurd (Option.some.inj h) (by decide)
      replace h := xf hc1 h
      by_cases hc2 : ((xs x3.toNatClampNeg) &&& (31 : Int32)) = 2
      · replace h := xt hc2 h
        refine lv_tableIn (off := 156) (tgt := 188) hC.1 hC.2.1 dL_law_32 (by rw [hc2]; decide) (by rw [hc2]; decide) (by rw [hc2]; rfl) (by decide) ?_
        refine lv_aload_n hC.1 hC.2.1 dL_law_188 rfl (lv_at hl 1 rfl) ?_
        obtain ⟨⟨q189_r, q189_S⟩, hq, h⟩ := xb h
        try dsimp only at h
        refine x_callV (T := TX9) (N := 12) (As := []) (rest := []) hC hW hS 0 (c_X9_city l D b cs _ _ _ hq) (by decide) rfl rfl mi_X9_city in_X9_city sl_X9_city ml_L_23 ⟨rfl, rfl⟩ ⟨Nat.le_of_ble_eq_true rfl, Nat.le_of_ble_eq_true rfl⟩ ⟨Nat.le_of_ble_eq_true rfl, Nat.le_of_ble_eq_true rfl⟩ rfl rfl hl.1 (Nat.le_of_ble_eq_true rfl) dL_law_189 (fun H locs hW hS => ?_)
        refine lv_aload_n hC.1 hC.2.1 dL_law_192 rfl (lv_at hl 2 rfl) ?_
        obtain ⟨⟨q193_r, q193_S⟩, hq, h⟩ := xb h
        try dsimp only at h
        refine x_callV (T := TX10) (N := 27) (As := []) (rest := [.int q189_r]) hC hW hS 99 (c_X10_city l D b cs _ _ _ hq) (by decide) rfl rfl mi_X10_city in_X10_city sl_X10_city ml_L_26 ⟨rfl, rfl⟩ ⟨Nat.le_of_ble_eq_true rfl, Nat.le_of_ble_eq_true rfl⟩ ⟨Nat.le_of_ble_eq_true rfl, Nat.le_of_ble_eq_true rfl⟩ rfl rfl hl.1 (Nat.le_of_ble_eq_true rfl) dL_law_193 (fun H locs hW hS => ?_)
        refine lv_icmp_eq (tgt := 771) hC.1 hC.2.1 dL_law_196 (by decide) (fun hc => ?_) (fun hc => ?_)
        · replace h := xt hc h
          refine lv_iinc (v := x3 + 4) (lv' := [(3, .int (x3 + 4)), (0, .ref bs), (1, .ref (b + 0)), (2, .ref (b + 99))]) hC.1 hC.2.1 dL_law_771 hl (k := 3) rfl rfl (by decide) rfl (fun ls hl => ?_)
          refine lv_goto (tgt := 18) hC.1 hC.2.1 dL_law_774 (by decide) ?_
          exact IH _ _ _ _ _ h hW hS (lv_sub hl [1, 2, 3, 0] rfl)
        · replace h := xf hc h
          refine lv_iconst (v := 0) hC.1 hC.2.1 dL_law_199 (by decide) ?_
          exact absurd (Option.some.inj h) (by decide)
      replace h := xf hc2 h
      by_cases hc3 : ((xs x3.toNatClampNeg) &&& (31 : Int32)) = 3
      · replace h := xt hc3 h
        refine lv_tableIn (off := 169) (tgt := 201) hC.1 hC.2.1 dL_law_32 (by rw [hc3]; decide) (by rw [hc3]; decide) (by rw [hc3]; rfl) (by decide) ?_
        refine lv_aload_n hC.1 hC.2.1 dL_law_201 rfl (lv_at hl 1 rfl) ?_
        refine lv_aload_n hC.1 hC.2.1 dL_law_202 rfl (lv_at hl 0 rfl) ?_
        refine lv_iload_n hC.1 hC.2.1 dL_law_203 rfl (lv_at hl 3 rfl) ?_
        refine lv_iconst (v := 1) hC.1 hC.2.1 dL_law_204 (by decide) ?_
        refine lv_iadd hC.1 hC.2.1 dL_law_205 ?_
        obtain ⟨hi, h⟩ := xg h
        refine va_sld hC.1 hC.2.1 hX hbl hbA hS hi dL_law_206 ?_
        refine lv_aload_n hC.1 hC.2.1 dL_law_207 rfl (lv_at hl 0 rfl) ?_
        refine lv_iload_n hC.1 hC.2.1 dL_law_208 rfl (lv_at hl 3 rfl) ?_
        refine lv_iconst (v := 2) hC.1 hC.2.1 dL_law_209 (by decide) ?_
        refine lv_iadd hC.1 hC.2.1 dL_law_210 ?_
        obtain ⟨hi, h⟩ := xg h
        refine va_sld hC.1 hC.2.1 hX hbl hbA hS hi dL_law_211 ?_
        obtain ⟨⟨q212_r, q212_S⟩, hq, h⟩ := xb h
        try dsimp only at h
        refine x_callV (T := TX9) (N := 12) (As := [.int (xs (x3 + (1 : Int32)).toNatClampNeg), .int (xs (x3 + (2 : Int32)).toNatClampNeg)]) (rest := []) hC hW hS 0 (c_X9_door l D b cs _ _ _ _ _ hq) (by decide) rfl rfl mi_X9_door in_X9_door sl_X9_door ml_L_27 ⟨rfl, rfl⟩ ⟨Nat.le_of_ble_eq_true rfl, Nat.le_of_ble_eq_true rfl⟩ ⟨Nat.le_of_ble_eq_true rfl, Nat.le_of_ble_eq_true rfl⟩ rfl rfl hl.1 (Nat.le_of_ble_eq_true rfl) dL_law_212 (fun H locs hW hS => ?_)
        refine lv_aload_n hC.1 hC.2.1 dL_law_215 rfl (lv_at hl 2 rfl) ?_
        refine lv_aload_n hC.1 hC.2.1 dL_law_216 rfl (lv_at hl 0 rfl) ?_
        refine lv_iload_n hC.1 hC.2.1 dL_law_217 rfl (lv_at hl 3 rfl) ?_
        refine lv_iconst (v := 1) hC.1 hC.2.1 dL_law_218 (by decide) ?_
        refine lv_iadd hC.1 hC.2.1 dL_law_219 ?_
        obtain ⟨hi, h⟩ := xg h
        refine va_sld hC.1 hC.2.1 hX hbl hbA hS hi dL_law_220 ?_
        refine lv_aload_n hC.1 hC.2.1 dL_law_221 rfl (lv_at hl 0 rfl) ?_
        refine lv_iload_n hC.1 hC.2.1 dL_law_222 rfl (lv_at hl 3 rfl) ?_
        refine lv_iconst (v := 2) hC.1 hC.2.1 dL_law_223 (by decide) ?_
        refine lv_iadd hC.1 hC.2.1 dL_law_224 ?_
        obtain ⟨hi, h⟩ := xg h
        refine va_sld hC.1 hC.2.1 hX hbl hbA hS hi dL_law_225 ?_
        obtain ⟨⟨q226_r, q226_S⟩, hq, h⟩ := xb h
        try dsimp only at h
        refine x_callV (T := TX10) (N := 27) (As := [.int (xs (x3 + (1 : Int32)).toNatClampNeg), .int (xs (x3 + (2 : Int32)).toNatClampNeg)]) (rest := [.int q212_r]) hC hW hS 99 (c_X10_door l D b cs _ _ _ _ _ hq) (by decide) rfl rfl mi_X10_door in_X10_door sl_X10_door ml_L_31 ⟨rfl, rfl⟩ ⟨Nat.le_of_ble_eq_true rfl, Nat.le_of_ble_eq_true rfl⟩ ⟨Nat.le_of_ble_eq_true rfl, Nat.le_of_ble_eq_true rfl⟩ rfl rfl hl.1 (Nat.le_of_ble_eq_true rfl) dL_law_226 (fun H locs hW hS => ?_)
        refine lv_icmp_eq (tgt := 771) hC.1 hC.2.1 dL_law_229 (by decide) (fun hc => ?_) (fun hc => ?_)
        · replace h := xt hc h
          refine lv_iinc (v := x3 + 4) (lv' := [(3, .int (x3 + 4)), (0, .ref bs), (1, .ref (b + 0)), (2, .ref (b + 99))]) hC.1 hC.2.1 dL_law_771 hl (k := 3) rfl rfl (by decide) rfl (fun ls hl => ?_)
          refine lv_goto (tgt := 18) hC.1 hC.2.1 dL_law_774 (by decide) ?_
          exact IH _ _ _ _ _ h hW hS (lv_sub hl [1, 2, 3, 0] rfl)
        · replace h := xf hc h
          refine lv_iconst (v := 0) hC.1 hC.2.1 dL_law_232 (by decide) ?_
          exact absurd (Option.some.inj h) (by decide)
      replace h := xf hc3 h
      by_cases hc4 : ((xs x3.toNatClampNeg) &&& (31 : Int32)) = 4
      · replace h := xt hc4 h
        refine lv_tableIn (off := 202) (tgt := 234) hC.1 hC.2.1 dL_law_32 (by rw [hc4]; decide) (by rw [hc4]; decide) (by rw [hc4]; rfl) (by decide) ?_
        refine lv_aload_n hC.1 hC.2.1 dL_law_234 rfl (lv_at hl 1 rfl) ?_
        refine lv_aload_n hC.1 hC.2.1 dL_law_235 rfl (lv_at hl 0 rfl) ?_
        refine lv_iload_n hC.1 hC.2.1 dL_law_236 rfl (lv_at hl 3 rfl) ?_
        refine lv_iconst (v := 1) hC.1 hC.2.1 dL_law_237 (by decide) ?_
        refine lv_iadd hC.1 hC.2.1 dL_law_238 ?_
        obtain ⟨hi, h⟩ := xg h
        refine va_sld hC.1 hC.2.1 hX hbl hbA hS hi dL_law_239 ?_
        refine lv_aload_n hC.1 hC.2.1 dL_law_240 rfl (lv_at hl 0 rfl) ?_
        refine lv_iload_n hC.1 hC.2.1 dL_law_241 rfl (lv_at hl 3 rfl) ?_
        refine lv_iconst (v := 2) hC.1 hC.2.1 dL_law_242 (by decide) ?_
        refine lv_iadd hC.1 hC.2.1 dL_law_243 ?_
        obtain ⟨hi, h⟩ := xg h
        refine va_sld hC.1 hC.2.1 hX hbl hbA hS hi dL_law_244 ?_
        obtain ⟨⟨q245_r, q245_S⟩, hq, h⟩ := xb h
        try dsimp only at h
        refine x_callV (T := TX9) (N := 12) (As := [.int (xs (x3 + (1 : Int32)).toNatClampNeg), .int (xs (x3 + (2 : Int32)).toNatClampNeg)]) (rest := []) hC hW hS 0 (c_X9_boy l D b cs _ _ _ _ _ hq) (by decide) rfl rfl mi_X9_boy in_X9_boy sl_X9_boy ml_L_32 ⟨rfl, rfl⟩ ⟨Nat.le_of_ble_eq_true rfl, Nat.le_of_ble_eq_true rfl⟩ ⟨Nat.le_of_ble_eq_true rfl, Nat.le_of_ble_eq_true rfl⟩ rfl rfl hl.1 (Nat.le_of_ble_eq_true rfl) dL_law_245 (fun H locs hW hS => ?_)
        refine lv_aload_n hC.1 hC.2.1 dL_law_248 rfl (lv_at hl 2 rfl) ?_
        refine lv_aload_n hC.1 hC.2.1 dL_law_249 rfl (lv_at hl 0 rfl) ?_
        refine lv_iload_n hC.1 hC.2.1 dL_law_250 rfl (lv_at hl 3 rfl) ?_
        refine lv_iconst (v := 1) hC.1 hC.2.1 dL_law_251 (by decide) ?_
        refine lv_iadd hC.1 hC.2.1 dL_law_252 ?_
        obtain ⟨hi, h⟩ := xg h
        refine va_sld hC.1 hC.2.1 hX hbl hbA hS hi dL_law_253 ?_
        refine lv_aload_n hC.1 hC.2.1 dL_law_254 rfl (lv_at hl 0 rfl) ?_
        refine lv_iload_n hC.1 hC.2.1 dL_law_255 rfl (lv_at hl 3 rfl) ?_
        refine lv_iconst (v := 2) hC.1 hC.2.1 dL_law_256 (by decide) ?_
        refine lv_iadd hC.1 hC.2.1 dL_law_257 ?_
        obtain ⟨hi, h⟩ := xg h
        refine va_sld hC.1 hC.2.1 hX hbl hbA hS hi dL_law_258 ?_
        obtain ⟨⟨q259_r, q259_S⟩, hq, h⟩ := xb h
        try dsimp only at h
        refine x_callV (T := TX10) (N := 27) (As := [.int (xs (x3 + (1 : Int32)).toNatClampNeg), .int (xs (x3 + (2 : Int32)).toNatClampNeg)]) (rest := [.int q245_r]) hC hW hS 99 (c_X10_boy l D b cs _ _ _ _ _ hq) (by decide) rfl rfl mi_X10_boy in_X10_boy sl_X10_boy ml_L_35 ⟨rfl, rfl⟩ ⟨Nat.le_of_ble_eq_true rfl, Nat.le_of_ble_eq_true rfl⟩ ⟨Nat.le_of_ble_eq_true rfl, Nat.le_of_ble_eq_true rfl⟩ rfl rfl hl.1 (Nat.le_of_ble_eq_true rfl) dL_law_259 (fun H locs hW hS => ?_)
        refine lv_icmp_eq (tgt := 771) hC.1 hC.2.1 dL_law_262 (by decide) (fun hc => ?_) (fun hc => ?_)
        · replace h := xt hc h
          refine lv_iinc (v := x3 + 4) (lv' := [(3, .int (x3 + 4)), (0, .ref bs), (1, .ref (b + 0)), (2, .ref (b + 99))]) hC.1 hC.2.1 dL_law_771 hl (k := 3) rfl rfl (by decide) rfl (fun ls hl => ?_)
          refine lv_goto (tgt := 18) hC.1 hC.2.1 dL_law_774 (by decide) ?_
          exact IH _ _ _ _ _ h hW hS (lv_sub hl [1, 2, 3, 0] rfl)
        · replace h := xf hc h
          refine lv_iconst (v := 0) hC.1 hC.2.1 dL_law_265 (by decide) ?_
          exact absurd (Option.some.inj h) (by decide)
      replace h := xf hc4 h
      by_cases hc5 : ((xs x3.toNatClampNeg) &&& (31 : Int32)) = 5
      · replace h := xt hc5 h
        refine lv_tableIn (off := 235) (tgt := 267) hC.1 hC.2.1 dL_law_32 (by rw [hc5]; decide) (by rw [hc5]; decide) (by rw [hc5]; rfl) (by decide) ?_
        refine lv_aload_n hC.1 hC.2.1 dL_law_267 rfl (lv_at hl 1 rfl) ?_
        refine lv_aload_n hC.1 hC.2.1 dL_law_268 rfl (lv_at hl 0 rfl) ?_
        refine lv_iload_n hC.1 hC.2.1 dL_law_269 rfl (lv_at hl 3 rfl) ?_
        refine lv_iconst (v := 1) hC.1 hC.2.1 dL_law_270 (by decide) ?_
        refine lv_iadd hC.1 hC.2.1 dL_law_271 ?_
        obtain ⟨hi, h⟩ := xg h
        refine va_sld hC.1 hC.2.1 hX hbl hbA hS hi dL_law_272 ?_
        obtain ⟨⟨q273_r, q273_S⟩, hq, h⟩ := xb h
        try dsimp only at h
        refine x_callV (T := TX9) (N := 12) (As := [.int (xs (x3 + (1 : Int32)).toNatClampNeg)]) (rest := []) hC hW hS 0 (c_X9_now l D b cs _ _ _ _ hq) (by decide) rfl rfl mi_X9_now in_X9_now sl_X9_now ml_L_36 ⟨rfl, rfl⟩ ⟨Nat.le_of_ble_eq_true rfl, Nat.le_of_ble_eq_true rfl⟩ ⟨Nat.le_of_ble_eq_true rfl, Nat.le_of_ble_eq_true rfl⟩ rfl rfl hl.1 (Nat.le_of_ble_eq_true rfl) dL_law_273 (fun H locs hW hS => ?_)
        refine lv_aload_n hC.1 hC.2.1 dL_law_276 rfl (lv_at hl 2 rfl) ?_
        refine lv_aload_n hC.1 hC.2.1 dL_law_277 rfl (lv_at hl 0 rfl) ?_
        refine lv_iload_n hC.1 hC.2.1 dL_law_278 rfl (lv_at hl 3 rfl) ?_
        refine lv_iconst (v := 1) hC.1 hC.2.1 dL_law_279 (by decide) ?_
        refine lv_iadd hC.1 hC.2.1 dL_law_280 ?_
        obtain ⟨hi, h⟩ := xg h
        refine va_sld hC.1 hC.2.1 hX hbl hbA hS hi dL_law_281 ?_
        obtain ⟨⟨q282_r, q282_S⟩, hq, h⟩ := xb h
        try dsimp only at h
        refine x_callV (T := TX10) (N := 27) (As := [.int (xs (x3 + (1 : Int32)).toNatClampNeg)]) (rest := [.int q273_r]) hC hW hS 99 (c_X10_now l D b cs _ _ _ _ hq) (by decide) rfl rfl mi_X10_now in_X10_now sl_X10_now ml_L_39 ⟨rfl, rfl⟩ ⟨Nat.le_of_ble_eq_true rfl, Nat.le_of_ble_eq_true rfl⟩ ⟨Nat.le_of_ble_eq_true rfl, Nat.le_of_ble_eq_true rfl⟩ rfl rfl hl.1 (Nat.le_of_ble_eq_true rfl) dL_law_282 (fun H locs hW hS => ?_)
        refine lv_icmp_eq (tgt := 771) hC.1 hC.2.1 dL_law_285 (by decide) (fun hc => ?_) (fun hc => ?_)
        · replace h := xt hc h
          refine lv_iinc (v := x3 + 4) (lv' := [(3, .int (x3 + 4)), (0, .ref bs), (1, .ref (b + 0)), (2, .ref (b + 99))]) hC.1 hC.2.1 dL_law_771 hl (k := 3) rfl rfl (by decide) rfl (fun ls hl => ?_)
          refine lv_goto (tgt := 18) hC.1 hC.2.1 dL_law_774 (by decide) ?_
          exact IH _ _ _ _ _ h hW hS (lv_sub hl [1, 2, 3, 0] rfl)
        · replace h := xf hc h
          refine lv_iconst (v := 0) hC.1 hC.2.1 dL_law_288 (by decide) ?_
          exact absurd (Option.some.inj h) (by decide)
      replace h := xf hc5 h
      by_cases hc6 : ((xs x3.toNatClampNeg) &&& (31 : Int32)) = 6
      · replace h := xt hc6 h
        refine lv_tableIn (off := 258) (tgt := 290) hC.1 hC.2.1 dL_law_32 (by rw [hc6]; decide) (by rw [hc6]; decide) (by rw [hc6]; rfl) (by decide) ?_
        refine lv_aload_n hC.1 hC.2.1 dL_law_290 rfl (lv_at hl 1 rfl) ?_
        refine lv_aload_n hC.1 hC.2.1 dL_law_291 rfl (lv_at hl 0 rfl) ?_
        refine lv_iload_n hC.1 hC.2.1 dL_law_292 rfl (lv_at hl 3 rfl) ?_
        refine lv_iconst (v := 1) hC.1 hC.2.1 dL_law_293 (by decide) ?_
        refine lv_iadd hC.1 hC.2.1 dL_law_294 ?_
        obtain ⟨hi, h⟩ := xg h
        refine va_sld hC.1 hC.2.1 hX hbl hbA hS hi dL_law_295 ?_
        refine lv_aload_n hC.1 hC.2.1 dL_law_296 rfl (lv_at hl 0 rfl) ?_
        refine lv_iload_n hC.1 hC.2.1 dL_law_297 rfl (lv_at hl 3 rfl) ?_
        refine lv_iconst (v := 2) hC.1 hC.2.1 dL_law_298 (by decide) ?_
        refine lv_iadd hC.1 hC.2.1 dL_law_299 ?_
        obtain ⟨hi, h⟩ := xg h
        refine va_sld hC.1 hC.2.1 hX hbl hbA hS hi dL_law_300 ?_
        obtain ⟨⟨q301_r, q301_S⟩, hq, h⟩ := xb h
        try dsimp only at h
        refine x_callV (T := TX9) (N := 12) (As := [.int (xs (x3 + (1 : Int32)).toNatClampNeg), .int (xs (x3 + (2 : Int32)).toNatClampNeg)]) (rest := []) hC hW hS 0 (c_X9_goes l D b cs _ _ _ _ _ hq) (by decide) rfl rfl mi_X9_goes in_X9_goes sl_X9_goes ml_L_40 ⟨rfl, rfl⟩ ⟨Nat.le_of_ble_eq_true rfl, Nat.le_of_ble_eq_true rfl⟩ ⟨Nat.le_of_ble_eq_true rfl, Nat.le_of_ble_eq_true rfl⟩ rfl rfl hl.1 (Nat.le_of_ble_eq_true rfl) dL_law_301 (fun H locs hW hS => ?_)
        refine lv_aload_n hC.1 hC.2.1 dL_law_304 rfl (lv_at hl 2 rfl) ?_
        refine lv_aload_n hC.1 hC.2.1 dL_law_305 rfl (lv_at hl 0 rfl) ?_
        refine lv_iload_n hC.1 hC.2.1 dL_law_306 rfl (lv_at hl 3 rfl) ?_
        refine lv_iconst (v := 1) hC.1 hC.2.1 dL_law_307 (by decide) ?_
        refine lv_iadd hC.1 hC.2.1 dL_law_308 ?_
        obtain ⟨hi, h⟩ := xg h
        refine va_sld hC.1 hC.2.1 hX hbl hbA hS hi dL_law_309 ?_
        refine lv_aload_n hC.1 hC.2.1 dL_law_310 rfl (lv_at hl 0 rfl) ?_
        refine lv_iload_n hC.1 hC.2.1 dL_law_311 rfl (lv_at hl 3 rfl) ?_
        refine lv_iconst (v := 2) hC.1 hC.2.1 dL_law_312 (by decide) ?_
        refine lv_iadd hC.1 hC.2.1 dL_law_313 ?_
        obtain ⟨hi, h⟩ := xg h
        refine va_sld hC.1 hC.2.1 hX hbl hbA hS hi dL_law_314 ?_
        obtain ⟨⟨q315_r, q315_S⟩, hq, h⟩ := xb h
        try dsimp only at h
        refine x_callV (T := TX10) (N := 27) (As := [.int (xs (x3 + (1 : Int32)).toNatClampNeg), .int (xs (x3 + (2 : Int32)).toNatClampNeg)]) (rest := [.int q301_r]) hC hW hS 99 (c_X10_goes l D b cs _ _ _ _ _ hq) (by decide) rfl rfl mi_X10_goes in_X10_goes sl_X10_goes ml_L_43 ⟨rfl, rfl⟩ ⟨Nat.le_of_ble_eq_true rfl, Nat.le_of_ble_eq_true rfl⟩ ⟨Nat.le_of_ble_eq_true rfl, Nat.le_of_ble_eq_true rfl⟩ rfl rfl hl.1 (Nat.le_of_ble_eq_true rfl) dL_law_315 (fun H locs hW hS => ?_)
        refine lv_icmp_eq (tgt := 771) hC.1 hC.2.1 dL_law_318 (by decide) (fun hc => ?_) (fun hc => ?_)
        · replace h := xt hc h
          refine lv_iinc (v := x3 + 4) (lv' := [(3, .int (x3 + 4)), (0, .ref bs), (1, .ref (b + 0)), (2, .ref (b + 99))]) hC.1 hC.2.1 dL_law_771 hl (k := 3) rfl rfl (by decide) rfl (fun ls hl => ?_)
          refine lv_goto (tgt := 18) hC.1 hC.2.1 dL_law_774 (by decide) ?_
          exact IH _ _ _ _ _ h hW hS (lv_sub hl [1, 2, 3, 0] rfl)
        · replace h := xf hc h
          refine lv_iconst (v := 0) hC.1 hC.2.1 dL_law_321 (by decide) ?_
          exact absurd (Option.some.inj h) (by decide)
      replace h := xf hc6 h
      by_cases hc7 : ((xs x3.toNatClampNeg) &&& (31 : Int32)) = 7
      · replace h := xt hc7 h
        refine lv_tableIn (off := 291) (tgt := 323) hC.1 hC.2.1 dL_law_32 (by rw [hc7]; decide) (by rw [hc7]; decide) (by rw [hc7]; rfl) (by decide) ?_
        refine lv_aload_n hC.1 hC.2.1 dL_law_323 rfl (lv_at hl 1 rfl) ?_
        refine lv_aload_n hC.1 hC.2.1 dL_law_324 rfl (lv_at hl 0 rfl) ?_
        refine lv_iload_n hC.1 hC.2.1 dL_law_325 rfl (lv_at hl 3 rfl) ?_
        refine lv_iconst (v := 1) hC.1 hC.2.1 dL_law_326 (by decide) ?_
        refine lv_iadd hC.1 hC.2.1 dL_law_327 ?_
        obtain ⟨hi, h⟩ := xg h
        refine va_sld hC.1 hC.2.1 hX hbl hbA hS hi dL_law_328 ?_
        refine lv_aload_n hC.1 hC.2.1 dL_law_329 rfl (lv_at hl 0 rfl) ?_
        refine lv_iload_n hC.1 hC.2.1 dL_law_330 rfl (lv_at hl 3 rfl) ?_
        refine lv_iconst (v := 2) hC.1 hC.2.1 dL_law_331 (by decide) ?_
        refine lv_iadd hC.1 hC.2.1 dL_law_332 ?_
        obtain ⟨hi, h⟩ := xg h
        refine va_sld hC.1 hC.2.1 hX hbl hbA hS hi dL_law_333 ?_
        obtain ⟨⟨q334_r, q334_S⟩, hq, h⟩ := xb h
        try dsimp only at h
        refine x_callV (T := TX9) (N := 12) (As := [.int (xs (x3 + (1 : Int32)).toNatClampNeg), .int (xs (x3 + (2 : Int32)).toNatClampNeg)]) (rest := []) hC hW hS 0 (c_X9_colds l D b cs _ _ _ _ _ hq) (by decide) rfl rfl mi_X9_colds in_X9_colds sl_X9_colds ml_L_44 ⟨rfl, rfl⟩ ⟨Nat.le_of_ble_eq_true rfl, Nat.le_of_ble_eq_true rfl⟩ ⟨Nat.le_of_ble_eq_true rfl, Nat.le_of_ble_eq_true rfl⟩ rfl rfl hl.1 (Nat.le_of_ble_eq_true rfl) dL_law_334 (fun H locs hW hS => ?_)
        refine lv_aload_n hC.1 hC.2.1 dL_law_337 rfl (lv_at hl 2 rfl) ?_
        refine lv_aload_n hC.1 hC.2.1 dL_law_338 rfl (lv_at hl 0 rfl) ?_
        refine lv_iload_n hC.1 hC.2.1 dL_law_339 rfl (lv_at hl 3 rfl) ?_
        refine lv_iconst (v := 1) hC.1 hC.2.1 dL_law_340 (by decide) ?_
        refine lv_iadd hC.1 hC.2.1 dL_law_341 ?_
        obtain ⟨hi, h⟩ := xg h
        refine va_sld hC.1 hC.2.1 hX hbl hbA hS hi dL_law_342 ?_
        refine lv_aload_n hC.1 hC.2.1 dL_law_343 rfl (lv_at hl 0 rfl) ?_
        refine lv_iload_n hC.1 hC.2.1 dL_law_344 rfl (lv_at hl 3 rfl) ?_
        refine lv_iconst (v := 2) hC.1 hC.2.1 dL_law_345 (by decide) ?_
        refine lv_iadd hC.1 hC.2.1 dL_law_346 ?_
        obtain ⟨hi, h⟩ := xg h
        refine va_sld hC.1 hC.2.1 hX hbl hbA hS hi dL_law_347 ?_
        obtain ⟨⟨q348_r, q348_S⟩, hq, h⟩ := xb h
        try dsimp only at h
        refine x_callV (T := TX10) (N := 27) (As := [.int (xs (x3 + (1 : Int32)).toNatClampNeg), .int (xs (x3 + (2 : Int32)).toNatClampNeg)]) (rest := [.int q334_r]) hC hW hS 99 (c_X10_colds l D b cs _ _ _ _ _ hq) (by decide) rfl rfl mi_X10_colds in_X10_colds sl_X10_colds ml_L_47 ⟨rfl, rfl⟩ ⟨Nat.le_of_ble_eq_true rfl, Nat.le_of_ble_eq_true rfl⟩ ⟨Nat.le_of_ble_eq_true rfl, Nat.le_of_ble_eq_true rfl⟩ rfl rfl hl.1 (Nat.le_of_ble_eq_true rfl) dL_law_348 (fun H locs hW hS => ?_)
        refine lv_icmp_eq (tgt := 771) hC.1 hC.2.1 dL_law_351 (by decide) (fun hc => ?_) (fun hc => ?_)
        · replace h := xt hc h
          refine lv_iinc (v := x3 + 4) (lv' := [(3, .int (x3 + 4)), (0, .ref bs), (1, .ref (b + 0)), (2, .ref (b + 99))]) hC.1 hC.2.1 dL_law_771 hl (k := 3) rfl rfl (by decide) rfl (fun ls hl => ?_)
          refine lv_goto (tgt := 18) hC.1 hC.2.1 dL_law_774 (by decide) ?_
          exact IH _ _ _ _ _ h hW hS (lv_sub hl [1, 2, 3, 0] rfl)
        · replace h := xf hc h
          refine lv_iconst (v := 0) hC.1 hC.2.1 dL_law_354 (by decide) ?_
          exact absurd (Option.some.inj h) (by decide)
      replace h := xf hc7 h
      by_cases hc8 : ((xs x3.toNatClampNeg) &&& (31 : Int32)) = 8
      · replace h := xt hc8 h
        refine lv_tableIn (off := 324) (tgt := 356) hC.1 hC.2.1 dL_law_32 (by rw [hc8]; decide) (by rw [hc8]; decide) (by rw [hc8]; rfl) (by decide) ?_
        refine lv_aload_n hC.1 hC.2.1 dL_law_356 rfl (lv_at hl 1 rfl) ?_
        refine lv_aload_n hC.1 hC.2.1 dL_law_357 rfl (lv_at hl 0 rfl) ?_
        refine lv_iload_n hC.1 hC.2.1 dL_law_358 rfl (lv_at hl 3 rfl) ?_
        refine lv_iconst (v := 1) hC.1 hC.2.1 dL_law_359 (by decide) ?_
        refine lv_iadd hC.1 hC.2.1 dL_law_360 ?_
        obtain ⟨hi, h⟩ := xg h
        refine va_sld hC.1 hC.2.1 hX hbl hbA hS hi dL_law_361 ?_
        refine lv_aload_n hC.1 hC.2.1 dL_law_362 rfl (lv_at hl 0 rfl) ?_
        refine lv_iload_n hC.1 hC.2.1 dL_law_363 rfl (lv_at hl 3 rfl) ?_
        refine lv_iconst (v := 2) hC.1 hC.2.1 dL_law_364 (by decide) ?_
        refine lv_iadd hC.1 hC.2.1 dL_law_365 ?_
        obtain ⟨hi, h⟩ := xg h
        refine va_sld hC.1 hC.2.1 hX hbl hbA hS hi dL_law_366 ?_
        obtain ⟨⟨q367_r, q367_S⟩, hq, h⟩ := xb h
        try dsimp only at h
        refine x_callV (T := TX9) (N := 12) (As := [.int (xs (x3 + (1 : Int32)).toNatClampNeg), .int (xs (x3 + (2 : Int32)).toNatClampNeg)]) (rest := []) hC hW hS 0 (c_X9_props l D b cs _ _ _ _ _ hq) (by decide) rfl rfl mi_X9_props in_X9_props sl_X9_props ml_L_48 ⟨rfl, rfl⟩ ⟨Nat.le_of_ble_eq_true rfl, Nat.le_of_ble_eq_true rfl⟩ ⟨Nat.le_of_ble_eq_true rfl, Nat.le_of_ble_eq_true rfl⟩ rfl rfl hl.1 (Nat.le_of_ble_eq_true rfl) dL_law_367 (fun H locs hW hS => ?_)
        refine lv_aload_n hC.1 hC.2.1 dL_law_370 rfl (lv_at hl 2 rfl) ?_
        refine lv_aload_n hC.1 hC.2.1 dL_law_371 rfl (lv_at hl 0 rfl) ?_
        refine lv_iload_n hC.1 hC.2.1 dL_law_372 rfl (lv_at hl 3 rfl) ?_
        refine lv_iconst (v := 1) hC.1 hC.2.1 dL_law_373 (by decide) ?_
        refine lv_iadd hC.1 hC.2.1 dL_law_374 ?_
        obtain ⟨hi, h⟩ := xg h
        refine va_sld hC.1 hC.2.1 hX hbl hbA hS hi dL_law_375 ?_
        refine lv_aload_n hC.1 hC.2.1 dL_law_376 rfl (lv_at hl 0 rfl) ?_
        refine lv_iload_n hC.1 hC.2.1 dL_law_377 rfl (lv_at hl 3 rfl) ?_
        refine lv_iconst (v := 2) hC.1 hC.2.1 dL_law_378 (by decide) ?_
        refine lv_iadd hC.1 hC.2.1 dL_law_379 ?_
        obtain ⟨hi, h⟩ := xg h
        refine va_sld hC.1 hC.2.1 hX hbl hbA hS hi dL_law_380 ?_
        obtain ⟨⟨q381_r, q381_S⟩, hq, h⟩ := xb h
        try dsimp only at h
        refine x_callV (T := TX10) (N := 27) (As := [.int (xs (x3 + (1 : Int32)).toNatClampNeg), .int (xs (x3 + (2 : Int32)).toNatClampNeg)]) (rest := [.int q367_r]) hC hW hS 99 (c_X10_props l D b cs _ _ _ _ _ hq) (by decide) rfl rfl mi_X10_props in_X10_props sl_X10_props ml_L_51 ⟨rfl, rfl⟩ ⟨Nat.le_of_ble_eq_true rfl, Nat.le_of_ble_eq_true rfl⟩ ⟨Nat.le_of_ble_eq_true rfl, Nat.le_of_ble_eq_true rfl⟩ rfl rfl hl.1 (Nat.le_of_ble_eq_true rfl) dL_law_381 (fun H locs hW hS => ?_)
        refine lv_icmp_eq (tgt := 771) hC.1 hC.2.1 dL_law_384 (by decide) (fun hc => ?_) (fun hc => ?_)
        · replace h := xt hc h
          refine lv_iinc (v := x3 + 4) (lv' := [(3, .int (x3 + 4)), (0, .ref bs), (1, .ref (b + 0)), (2, .ref (b + 99))]) hC.1 hC.2.1 dL_law_771 hl (k := 3) rfl rfl (by decide) rfl (fun ls hl => ?_)
          refine lv_goto (tgt := 18) hC.1 hC.2.1 dL_law_774 (by decide) ?_
          exact IH _ _ _ _ _ h hW hS (lv_sub hl [1, 2, 3, 0] rfl)
        · replace h := xf hc h
          refine lv_iconst (v := 0) hC.1 hC.2.1 dL_law_387 (by decide) ?_
          exact absurd (Option.some.inj h) (by decide)
      replace h := xf hc8 h
      by_cases hc9 : ((xs x3.toNatClampNeg) &&& (31 : Int32)) = 9
      · replace h := xt hc9 h
        refine lv_tableIn (off := 357) (tgt := 389) hC.1 hC.2.1 dL_law_32 (by rw [hc9]; decide) (by rw [hc9]; decide) (by rw [hc9]; rfl) (by decide) ?_
        refine lv_aload_n hC.1 hC.2.1 dL_law_389 rfl (lv_at hl 1 rfl) ?_
        obtain ⟨⟨q390_r, q390_S⟩, hq, h⟩ := xb h
        try dsimp only at h
        refine x_callV (T := TX9) (N := 12) (As := []) (rest := []) hC hW hS 0 (c_X9_year l D b cs _ _ _ hq) (by decide) rfl rfl mi_X9_year in_X9_year sl_X9_year ml_L_52 ⟨rfl, rfl⟩ ⟨Nat.le_of_ble_eq_true rfl, Nat.le_of_ble_eq_true rfl⟩ ⟨Nat.le_of_ble_eq_true rfl, Nat.le_of_ble_eq_true rfl⟩ rfl rfl hl.1 (Nat.le_of_ble_eq_true rfl) dL_law_390 (fun H locs hW hS => ?_)
        refine lv_aload_n hC.1 hC.2.1 dL_law_393 rfl (lv_at hl 2 rfl) ?_
        obtain ⟨⟨q394_r, q394_S⟩, hq, h⟩ := xb h
        try dsimp only at h
        refine x_callV (T := TX10) (N := 27) (As := []) (rest := [.int q390_r]) hC hW hS 99 (c_X10_year l D b cs _ _ _ hq) (by decide) rfl rfl mi_X10_year in_X10_year sl_X10_year ml_L_55 ⟨rfl, rfl⟩ ⟨Nat.le_of_ble_eq_true rfl, Nat.le_of_ble_eq_true rfl⟩ ⟨Nat.le_of_ble_eq_true rfl, Nat.le_of_ble_eq_true rfl⟩ rfl rfl hl.1 (Nat.le_of_ble_eq_true rfl) dL_law_394 (fun H locs hW hS => ?_)
        refine lv_icmp_eq (tgt := 771) hC.1 hC.2.1 dL_law_397 (by decide) (fun hc => ?_) (fun hc => ?_)
        · replace h := xt hc h
          refine lv_iinc (v := x3 + 4) (lv' := [(3, .int (x3 + 4)), (0, .ref bs), (1, .ref (b + 0)), (2, .ref (b + 99))]) hC.1 hC.2.1 dL_law_771 hl (k := 3) rfl rfl (by decide) rfl (fun ls hl => ?_)
          refine lv_goto (tgt := 18) hC.1 hC.2.1 dL_law_774 (by decide) ?_
          exact IH _ _ _ _ _ h hW hS (lv_sub hl [1, 2, 3, 0] rfl)
        · replace h := xf hc h
          refine lv_iconst (v := 0) hC.1 hC.2.1 dL_law_400 (by decide) ?_
          exact absurd (Option.some.inj h) (by decide)
      replace h := xf hc9 h
      by_cases hc10 : ((xs x3.toNatClampNeg) &&& (31 : Int32)) = 10
      · replace h := xt hc10 h
        refine lv_tableIn (off := 370) (tgt := 402) hC.1 hC.2.1 dL_law_32 (by rw [hc10]; decide) (by rw [hc10]; decide) (by rw [hc10]; rfl) (by decide) ?_
        refine lv_aload_n hC.1 hC.2.1 dL_law_402 rfl (lv_at hl 1 rfl) ?_
        obtain ⟨⟨q403_r, q403_S⟩, hq, h⟩ := xb h
        try dsimp only at h
        refine x_callV (T := TX9) (N := 12) (As := []) (rest := []) hC hW hS 0 (c_X9_michaelmas l D b cs _ _ _ hq) (by decide) rfl rfl mi_X9_michaelmas in_X9_michaelmas sl_X9_michaelmas ml_L_56 ⟨rfl, rfl⟩ ⟨Nat.le_of_ble_eq_true rfl, Nat.le_of_ble_eq_true rfl⟩ ⟨Nat.le_of_ble_eq_true rfl, Nat.le_of_ble_eq_true rfl⟩ rfl rfl hl.1 (Nat.le_of_ble_eq_true rfl) dL_law_403 (fun H locs hW hS => ?_)
        refine lv_aload_n hC.1 hC.2.1 dL_law_406 rfl (lv_at hl 2 rfl) ?_
        obtain ⟨⟨q407_r, q407_S⟩, hq, h⟩ := xb h
        try dsimp only at h
        refine x_callV (T := TX10) (N := 27) (As := []) (rest := [.int q403_r]) hC hW hS 99 (c_X10_michaelmas l D b cs _ _ _ hq) (by decide) rfl rfl mi_X10_michaelmas in_X10_michaelmas sl_X10_michaelmas ml_L_59 ⟨rfl, rfl⟩ ⟨Nat.le_of_ble_eq_true rfl, Nat.le_of_ble_eq_true rfl⟩ ⟨Nat.le_of_ble_eq_true rfl, Nat.le_of_ble_eq_true rfl⟩ rfl rfl hl.1 (Nat.le_of_ble_eq_true rfl) dL_law_407 (fun H locs hW hS => ?_)
        refine lv_icmp_eq (tgt := 771) hC.1 hC.2.1 dL_law_410 (by decide) (fun hc => ?_) (fun hc => ?_)
        · replace h := xt hc h
          refine lv_iinc (v := x3 + 4) (lv' := [(3, .int (x3 + 4)), (0, .ref bs), (1, .ref (b + 0)), (2, .ref (b + 99))]) hC.1 hC.2.1 dL_law_771 hl (k := 3) rfl rfl (by decide) rfl (fun ls hl => ?_)
          refine lv_goto (tgt := 18) hC.1 hC.2.1 dL_law_774 (by decide) ?_
          exact IH _ _ _ _ _ h hW hS (lv_sub hl [1, 2, 3, 0] rfl)
        · replace h := xf hc h
          refine lv_iconst (v := 0) hC.1 hC.2.1 dL_law_413 (by decide) ?_
          exact absurd (Option.some.inj h) (by decide)
      replace h := xf hc10 h
      by_cases hc11 : ((xs x3.toNatClampNeg) &&& (31 : Int32)) = 11
      · replace h := xt hc11 h
        refine lv_tableIn (off := 383) (tgt := 415) hC.1 hC.2.1 dL_law_32 (by rw [hc11]; decide) (by rw [hc11]; decide) (by rw [hc11]; rfl) (by decide) ?_
        refine lv_aload_n hC.1 hC.2.1 dL_law_415 rfl (lv_at hl 1 rfl) ?_
        obtain ⟨⟨q416_r, q416_S⟩, hq, h⟩ := xb h
        try dsimp only at h
        refine x_callV (T := TX9) (N := 12) (As := []) (rest := []) hC hW hS 0 (c_X9_undo l D b cs _ _ _ hq) (by decide) rfl rfl mi_X9_undo in_X9_undo sl_X9_undo ml_L_60 ⟨rfl, rfl⟩ ⟨Nat.le_of_ble_eq_true rfl, Nat.le_of_ble_eq_true rfl⟩ ⟨Nat.le_of_ble_eq_true rfl, Nat.le_of_ble_eq_true rfl⟩ rfl rfl hl.1 (Nat.le_of_ble_eq_true rfl) dL_law_416 (fun H locs hW hS => ?_)
        refine lv_aload_n hC.1 hC.2.1 dL_law_419 rfl (lv_at hl 2 rfl) ?_
        obtain ⟨⟨q420_r, q420_S⟩, hq, h⟩ := xb h
        try dsimp only at h
        refine x_callV (T := TX10) (N := 27) (As := []) (rest := [.int q416_r]) hC hW hS 99 (c_X10_undo l D b cs _ _ _ hq) (by decide) rfl rfl mi_X10_undo in_X10_undo sl_X10_undo ml_L_63 ⟨rfl, rfl⟩ ⟨Nat.le_of_ble_eq_true rfl, Nat.le_of_ble_eq_true rfl⟩ ⟨Nat.le_of_ble_eq_true rfl, Nat.le_of_ble_eq_true rfl⟩ rfl rfl hl.1 (Nat.le_of_ble_eq_true rfl) dL_law_420 (fun H locs hW hS => ?_)
        refine lv_icmp_eq (tgt := 771) hC.1 hC.2.1 dL_law_423 (by decide) (fun hc => ?_) (fun hc => ?_)
        · replace h := xt hc h
          refine lv_iinc (v := x3 + 4) (lv' := [(3, .int (x3 + 4)), (0, .ref bs), (1, .ref (b + 0)), (2, .ref (b + 99))]) hC.1 hC.2.1 dL_law_771 hl (k := 3) rfl rfl (by decide) rfl (fun ls hl => ?_)
          refine lv_goto (tgt := 18) hC.1 hC.2.1 dL_law_774 (by decide) ?_
          exact IH _ _ _ _ _ h hW hS (lv_sub hl [1, 2, 3, 0] rfl)
        · replace h := xf hc h
          refine lv_iconst (v := 0) hC.1 hC.2.1 dL_law_426 (by decide) ?_
          exact absurd (Option.some.inj h) (by decide)
      replace h := xf hc11 h
      by_cases hc12 : ((xs x3.toNatClampNeg) &&& (31 : Int32)) = 12
      · replace h := xt hc12 h
        refine lv_tableIn (off := 396) (tgt := 428) hC.1 hC.2.1 dL_law_32 (by rw [hc12]; decide) (by rw [hc12]; decide) (by rw [hc12]; rfl) (by decide) ?_
        refine lv_aload_n hC.1 hC.2.1 dL_law_428 rfl (lv_at hl 1 rfl) ?_
        refine lv_aload_n hC.1 hC.2.1 dL_law_429 rfl (lv_at hl 0 rfl) ?_
        refine lv_iload_n hC.1 hC.2.1 dL_law_430 rfl (lv_at hl 3 rfl) ?_
        refine lv_iconst (v := 1) hC.1 hC.2.1 dL_law_431 (by decide) ?_
        refine lv_iadd hC.1 hC.2.1 dL_law_432 ?_
        obtain ⟨hi, h⟩ := xg h
        refine va_sld hC.1 hC.2.1 hX hbl hbA hS hi dL_law_433 ?_
        refine lv_aload_n hC.1 hC.2.1 dL_law_434 rfl (lv_at hl 0 rfl) ?_
        refine lv_iload_n hC.1 hC.2.1 dL_law_435 rfl (lv_at hl 3 rfl) ?_
        refine lv_iconst (v := 2) hC.1 hC.2.1 dL_law_436 (by decide) ?_
        refine lv_iadd hC.1 hC.2.1 dL_law_437 ?_
        obtain ⟨hi, h⟩ := xg h
        refine va_sld hC.1 hC.2.1 hX hbl hbA hS hi dL_law_438 ?_
        obtain ⟨⟨q439_r, q439_S⟩, hq, h⟩ := xb h
        try dsimp only at h
        refine x_callV (T := TX9) (N := 12) (As := [.int (xs (x3 + (1 : Int32)).toNatClampNeg), .int (xs (x3 + (2 : Int32)).toNatClampNeg)]) (rest := []) hC hW hS 0 (c_X9_way l D b cs _ _ _ _ _ hq) (by decide) rfl rfl mi_X9_way in_X9_way sl_X9_way ml_L_64 ⟨rfl, rfl⟩ ⟨Nat.le_of_ble_eq_true rfl, Nat.le_of_ble_eq_true rfl⟩ ⟨Nat.le_of_ble_eq_true rfl, Nat.le_of_ble_eq_true rfl⟩ rfl rfl hl.1 (Nat.le_of_ble_eq_true rfl) dL_law_439 (fun H locs hW hS => ?_)
        refine lv_aload_n hC.1 hC.2.1 dL_law_442 rfl (lv_at hl 2 rfl) ?_
        refine lv_aload_n hC.1 hC.2.1 dL_law_443 rfl (lv_at hl 0 rfl) ?_
        refine lv_iload_n hC.1 hC.2.1 dL_law_444 rfl (lv_at hl 3 rfl) ?_
        refine lv_iconst (v := 1) hC.1 hC.2.1 dL_law_445 (by decide) ?_
        refine lv_iadd hC.1 hC.2.1 dL_law_446 ?_
        obtain ⟨hi, h⟩ := xg h
        refine va_sld hC.1 hC.2.1 hX hbl hbA hS hi dL_law_447 ?_
        refine lv_aload_n hC.1 hC.2.1 dL_law_448 rfl (lv_at hl 0 rfl) ?_
        refine lv_iload_n hC.1 hC.2.1 dL_law_449 rfl (lv_at hl 3 rfl) ?_
        refine lv_iconst (v := 2) hC.1 hC.2.1 dL_law_450 (by decide) ?_
        refine lv_iadd hC.1 hC.2.1 dL_law_451 ?_
        obtain ⟨hi, h⟩ := xg h
        refine va_sld hC.1 hC.2.1 hX hbl hbA hS hi dL_law_452 ?_
        obtain ⟨⟨q453_r, q453_S⟩, hq, h⟩ := xb h
        try dsimp only at h
        refine x_callV (T := TX10) (N := 27) (As := [.int (xs (x3 + (1 : Int32)).toNatClampNeg), .int (xs (x3 + (2 : Int32)).toNatClampNeg)]) (rest := [.int q439_r]) hC hW hS 99 (c_X10_way l D b cs _ _ _ _ _ hq) (by decide) rfl rfl mi_X10_way in_X10_way sl_X10_way ml_L_67 ⟨rfl, rfl⟩ ⟨Nat.le_of_ble_eq_true rfl, Nat.le_of_ble_eq_true rfl⟩ ⟨Nat.le_of_ble_eq_true rfl, Nat.le_of_ble_eq_true rfl⟩ rfl rfl hl.1 (Nat.le_of_ble_eq_true rfl) dL_law_453 (fun H locs hW hS => ?_)
        refine lv_icmp_eq (tgt := 771) hC.1 hC.2.1 dL_law_456 (by decide) (fun hc => ?_) (fun hc => ?_)
        · replace h := xt hc h
          refine lv_iinc (v := x3 + 4) (lv' := [(3, .int (x3 + 4)), (0, .ref bs), (1, .ref (b + 0)), (2, .ref (b + 99))]) hC.1 hC.2.1 dL_law_771 hl (k := 3) rfl rfl (by decide) rfl (fun ls hl => ?_)
          refine lv_goto (tgt := 18) hC.1 hC.2.1 dL_law_774 (by decide) ?_
          exact IH _ _ _ _ _ h hW hS (lv_sub hl [1, 2, 3, 0] rfl)
        · replace h := xf hc h
          refine lv_iconst (v := 0) hC.1 hC.2.1 dL_law_459 (by decide) ?_
          exact absurd (Option.some.inj h) (by decide)
      replace h := xf hc12 h
      by_cases hc13 : ((xs x3.toNatClampNeg) &&& (31 : Int32)) = 13
      · replace h := xt hc13 h
        refine lv_tableIn (off := 429) (tgt := 461) hC.1 hC.2.1 dL_law_32 (by rw [hc13]; decide) (by rw [hc13]; decide) (by rw [hc13]; rfl) (by decide) ?_
        refine lv_aload_n hC.1 hC.2.1 dL_law_461 rfl (lv_at hl 1 rfl) ?_
        refine lv_aload_n hC.1 hC.2.1 dL_law_462 rfl (lv_at hl 0 rfl) ?_
        refine lv_iload_n hC.1 hC.2.1 dL_law_463 rfl (lv_at hl 3 rfl) ?_
        refine lv_iconst (v := 1) hC.1 hC.2.1 dL_law_464 (by decide) ?_
        refine lv_iadd hC.1 hC.2.1 dL_law_465 ?_
        obtain ⟨hi, h⟩ := xg h
        refine va_sld hC.1 hC.2.1 hX hbl hbA hS hi dL_law_466 ?_
        obtain ⟨⟨q467_r, q467_S⟩, hq, h⟩ := xb h
        try dsimp only at h
        refine x_callV (T := TX9) (N := 12) (As := [.int (xs (x3 + (1 : Int32)).toNatClampNeg)]) (rest := []) hC hW hS 0 (c_X9_posts l D b cs _ _ _ _ hq) (by decide) rfl rfl mi_X9_posts in_X9_posts sl_X9_posts ml_L_68 ⟨rfl, rfl⟩ ⟨Nat.le_of_ble_eq_true rfl, Nat.le_of_ble_eq_true rfl⟩ ⟨Nat.le_of_ble_eq_true rfl, Nat.le_of_ble_eq_true rfl⟩ rfl rfl hl.1 (Nat.le_of_ble_eq_true rfl) dL_law_467 (fun H locs hW hS => ?_)
        refine lv_aload_n hC.1 hC.2.1 dL_law_470 rfl (lv_at hl 2 rfl) ?_
        refine lv_aload_n hC.1 hC.2.1 dL_law_471 rfl (lv_at hl 0 rfl) ?_
        refine lv_iload_n hC.1 hC.2.1 dL_law_472 rfl (lv_at hl 3 rfl) ?_
        refine lv_iconst (v := 1) hC.1 hC.2.1 dL_law_473 (by decide) ?_
        refine lv_iadd hC.1 hC.2.1 dL_law_474 ?_
        obtain ⟨hi, h⟩ := xg h
        refine va_sld hC.1 hC.2.1 hX hbl hbA hS hi dL_law_475 ?_
        obtain ⟨⟨q476_r, q476_S⟩, hq, h⟩ := xb h
        try dsimp only at h
        refine x_callV (T := TX10) (N := 27) (As := [.int (xs (x3 + (1 : Int32)).toNatClampNeg)]) (rest := [.int q467_r]) hC hW hS 99 (c_X10_posts l D b cs _ _ _ _ hq) (by decide) rfl rfl mi_X10_posts in_X10_posts sl_X10_posts ml_L_71 ⟨rfl, rfl⟩ ⟨Nat.le_of_ble_eq_true rfl, Nat.le_of_ble_eq_true rfl⟩ ⟨Nat.le_of_ble_eq_true rfl, Nat.le_of_ble_eq_true rfl⟩ rfl rfl hl.1 (Nat.le_of_ble_eq_true rfl) dL_law_476 (fun H locs hW hS => ?_)
        refine lv_icmp_eq (tgt := 771) hC.1 hC.2.1 dL_law_479 (by decide) (fun hc => ?_) (fun hc => ?_)
        · replace h := xt hc h
          refine lv_iinc (v := x3 + 4) (lv' := [(3, .int (x3 + 4)), (0, .ref bs), (1, .ref (b + 0)), (2, .ref (b + 99))]) hC.1 hC.2.1 dL_law_771 hl (k := 3) rfl rfl (by decide) rfl (fun ls hl => ?_)
          refine lv_goto (tgt := 18) hC.1 hC.2.1 dL_law_774 (by decide) ?_
          exact IH _ _ _ _ _ h hW hS (lv_sub hl [1, 2, 3, 0] rfl)
        · replace h := xf hc h
          refine lv_iconst (v := 0) hC.1 hC.2.1 dL_law_482 (by decide) ?_
          exact absurd (Option.some.inj h) (by decide)
      replace h := xf hc13 h
      by_cases hc14 : ((xs x3.toNatClampNeg) &&& (31 : Int32)) = 14
      · replace h := xt hc14 h
        refine lv_tableIn (off := 452) (tgt := 484) hC.1 hC.2.1 dL_law_32 (by rw [hc14]; decide) (by rw [hc14]; decide) (by rw [hc14]; rfl) (by decide) ?_
        refine lv_aload_n hC.1 hC.2.1 dL_law_484 rfl (lv_at hl 1 rfl) ?_
        refine lv_aload_n hC.1 hC.2.1 dL_law_485 rfl (lv_at hl 0 rfl) ?_
        refine lv_iload_n hC.1 hC.2.1 dL_law_486 rfl (lv_at hl 3 rfl) ?_
        refine lv_iconst (v := 1) hC.1 hC.2.1 dL_law_487 (by decide) ?_
        refine lv_iadd hC.1 hC.2.1 dL_law_488 ?_
        obtain ⟨hi, h⟩ := xg h
        refine va_sld hC.1 hC.2.1 hX hbl hbA hS hi dL_law_489 ?_
        obtain ⟨⟨q490_r, q490_S⟩, hq, h⟩ := xb h
        try dsimp only at h
        refine x_callV (T := TX9) (N := 12) (As := [.int (xs (x3 + (1 : Int32)).toNatClampNeg)]) (rest := []) hC hW hS 0 (c_X9_tune l D b cs _ _ _ _ hq) (by decide) rfl rfl mi_X9_tune in_X9_tune sl_X9_tune ml_L_72 ⟨rfl, rfl⟩ ⟨Nat.le_of_ble_eq_true rfl, Nat.le_of_ble_eq_true rfl⟩ ⟨Nat.le_of_ble_eq_true rfl, Nat.le_of_ble_eq_true rfl⟩ rfl rfl hl.1 (Nat.le_of_ble_eq_true rfl) dL_law_490 (fun H locs hW hS => ?_)
        refine lv_aload_n hC.1 hC.2.1 dL_law_493 rfl (lv_at hl 2 rfl) ?_
        refine lv_aload_n hC.1 hC.2.1 dL_law_494 rfl (lv_at hl 0 rfl) ?_
        refine lv_iload_n hC.1 hC.2.1 dL_law_495 rfl (lv_at hl 3 rfl) ?_
        refine lv_iconst (v := 1) hC.1 hC.2.1 dL_law_496 (by decide) ?_
        refine lv_iadd hC.1 hC.2.1 dL_law_497 ?_
        obtain ⟨hi, h⟩ := xg h
        refine va_sld hC.1 hC.2.1 hX hbl hbA hS hi dL_law_498 ?_
        obtain ⟨⟨q499_r, q499_S⟩, hq, h⟩ := xb h
        try dsimp only at h
        refine x_callV (T := TX10) (N := 27) (As := [.int (xs (x3 + (1 : Int32)).toNatClampNeg)]) (rest := [.int q490_r]) hC hW hS 99 (c_X10_tune l D b cs _ _ _ _ hq) (by decide) rfl rfl mi_X10_tune in_X10_tune sl_X10_tune ml_L_75 ⟨rfl, rfl⟩ ⟨Nat.le_of_ble_eq_true rfl, Nat.le_of_ble_eq_true rfl⟩ ⟨Nat.le_of_ble_eq_true rfl, Nat.le_of_ble_eq_true rfl⟩ rfl rfl hl.1 (Nat.le_of_ble_eq_true rfl) dL_law_499 (fun H locs hW hS => ?_)
        refine lv_icmp_eq (tgt := 771) hC.1 hC.2.1 dL_law_502 (by decide) (fun hc => ?_) (fun hc => ?_)
        · replace h := xt hc h
          refine lv_iinc (v := x3 + 4) (lv' := [(3, .int (x3 + 4)), (0, .ref bs), (1, .ref (b + 0)), (2, .ref (b + 99))]) hC.1 hC.2.1 dL_law_771 hl (k := 3) rfl rfl (by decide) rfl (fun ls hl => ?_)
          refine lv_goto (tgt := 18) hC.1 hC.2.1 dL_law_774 (by decide) ?_
          exact IH _ _ _ _ _ h hW hS (lv_sub hl [1, 2, 3, 0] rfl)
        · replace h := xf hc h
          refine lv_iconst (v := 0) hC.1 hC.2.1 dL_law_505 (by decide) ?_
          exact absurd (Option.some.inj h) (by decide)
      replace h := xf hc14 h
      by_cases hc15 : ((xs x3.toNatClampNeg) &&& (31 : Int32)) = 15
      · replace h := xt hc15 h
        refine lv_tableIn (off := 475) (tgt := 507) hC.1 hC.2.1 dL_law_32 (by rw [hc15]; decide) (by rw [hc15]; decide) (by rw [hc15]; rfl) (by decide) ?_
        refine lv_aload_n hC.1 hC.2.1 dL_law_507 rfl (lv_at hl 1 rfl) ?_
        refine lv_aload_n hC.1 hC.2.1 dL_law_508 rfl (lv_at hl 0 rfl) ?_
        refine lv_iload_n hC.1 hC.2.1 dL_law_509 rfl (lv_at hl 3 rfl) ?_
        refine lv_iconst (v := 1) hC.1 hC.2.1 dL_law_510 (by decide) ?_
        refine lv_iadd hC.1 hC.2.1 dL_law_511 ?_
        obtain ⟨hi, h⟩ := xg h
        refine va_sld hC.1 hC.2.1 hX hbl hbA hS hi dL_law_512 ?_
        refine lv_aload_n hC.1 hC.2.1 dL_law_513 rfl (lv_at hl 0 rfl) ?_
        refine lv_iload_n hC.1 hC.2.1 dL_law_514 rfl (lv_at hl 3 rfl) ?_
        refine lv_iconst (v := 2) hC.1 hC.2.1 dL_law_515 (by decide) ?_
        refine lv_iadd hC.1 hC.2.1 dL_law_516 ?_
        obtain ⟨hi, h⟩ := xg h
        refine va_sld hC.1 hC.2.1 hX hbl hbA hS hi dL_law_517 ?_
        obtain ⟨⟨q518_r, q518_S⟩, hq, h⟩ := xb h
        try dsimp only at h
        refine x_callV (T := TX9) (N := 12) (As := [.int (xs (x3 + (1 : Int32)).toNatClampNeg), .int (xs (x3 + (2 : Int32)).toNatClampNeg)]) (rest := []) hC hW hS 0 (c_X9_thirds l D b cs _ _ _ _ _ hq) (by decide) rfl rfl mi_X9_thirds in_X9_thirds sl_X9_thirds ml_L_76 ⟨rfl, rfl⟩ ⟨Nat.le_of_ble_eq_true rfl, Nat.le_of_ble_eq_true rfl⟩ ⟨Nat.le_of_ble_eq_true rfl, Nat.le_of_ble_eq_true rfl⟩ rfl rfl hl.1 (Nat.le_of_ble_eq_true rfl) dL_law_518 (fun H locs hW hS => ?_)
        refine lv_aload_n hC.1 hC.2.1 dL_law_521 rfl (lv_at hl 2 rfl) ?_
        refine lv_aload_n hC.1 hC.2.1 dL_law_522 rfl (lv_at hl 0 rfl) ?_
        refine lv_iload_n hC.1 hC.2.1 dL_law_523 rfl (lv_at hl 3 rfl) ?_
        refine lv_iconst (v := 1) hC.1 hC.2.1 dL_law_524 (by decide) ?_
        refine lv_iadd hC.1 hC.2.1 dL_law_525 ?_
        obtain ⟨hi, h⟩ := xg h
        refine va_sld hC.1 hC.2.1 hX hbl hbA hS hi dL_law_526 ?_
        refine lv_aload_n hC.1 hC.2.1 dL_law_527 rfl (lv_at hl 0 rfl) ?_
        refine lv_iload_n hC.1 hC.2.1 dL_law_528 rfl (lv_at hl 3 rfl) ?_
        refine lv_iconst (v := 2) hC.1 hC.2.1 dL_law_529 (by decide) ?_
        refine lv_iadd hC.1 hC.2.1 dL_law_530 ?_
        obtain ⟨hi, h⟩ := xg h
        refine va_sld hC.1 hC.2.1 hX hbl hbA hS hi dL_law_531 ?_
        obtain ⟨⟨q532_r, q532_S⟩, hq, h⟩ := xb h
        try dsimp only at h
        refine x_callV (T := TX10) (N := 27) (As := [.int (xs (x3 + (1 : Int32)).toNatClampNeg), .int (xs (x3 + (2 : Int32)).toNatClampNeg)]) (rest := [.int q518_r]) hC hW hS 99 (c_X10_thirds l D b cs _ _ _ _ _ hq) (by decide) rfl rfl mi_X10_thirds in_X10_thirds sl_X10_thirds ml_L_79 ⟨rfl, rfl⟩ ⟨Nat.le_of_ble_eq_true rfl, Nat.le_of_ble_eq_true rfl⟩ ⟨Nat.le_of_ble_eq_true rfl, Nat.le_of_ble_eq_true rfl⟩ rfl rfl hl.1 (Nat.le_of_ble_eq_true rfl) dL_law_532 (fun H locs hW hS => ?_)
        refine lv_icmp_eq (tgt := 771) hC.1 hC.2.1 dL_law_535 (by decide) (fun hc => ?_) (fun hc => ?_)
        · replace h := xt hc h
          refine lv_iinc (v := x3 + 4) (lv' := [(3, .int (x3 + 4)), (0, .ref bs), (1, .ref (b + 0)), (2, .ref (b + 99))]) hC.1 hC.2.1 dL_law_771 hl (k := 3) rfl rfl (by decide) rfl (fun ls hl => ?_)
          refine lv_goto (tgt := 18) hC.1 hC.2.1 dL_law_774 (by decide) ?_
          exact IH _ _ _ _ _ h hW hS (lv_sub hl [1, 2, 3, 0] rfl)
        · replace h := xf hc h
          refine lv_iconst (v := 0) hC.1 hC.2.1 dL_law_538 (by decide) ?_
          exact absurd (Option.some.inj h) (by decide)
      replace h := xf hc15 h
      by_cases hc16 : ((xs x3.toNatClampNeg) &&& (31 : Int32)) = 16
      · replace h := xt hc16 h
        refine lv_tableIn (off := 508) (tgt := 540) hC.1 hC.2.1 dL_law_32 (by rw [hc16]; decide) (by rw [hc16]; decide) (by rw [hc16]; rfl) (by decide) ?_
        refine lv_aload_n hC.1 hC.2.1 dL_law_540 rfl (lv_at hl 1 rfl) ?_
        refine lv_aload_n hC.1 hC.2.1 dL_law_541 rfl (lv_at hl 0 rfl) ?_
        refine lv_iload_n hC.1 hC.2.1 dL_law_542 rfl (lv_at hl 3 rfl) ?_
        refine lv_iconst (v := 1) hC.1 hC.2.1 dL_law_543 (by decide) ?_
        refine lv_iadd hC.1 hC.2.1 dL_law_544 ?_
        obtain ⟨hi, h⟩ := xg h
        refine va_sld hC.1 hC.2.1 hX hbl hbA hS hi dL_law_545 ?_
        refine lv_aload_n hC.1 hC.2.1 dL_law_546 rfl (lv_at hl 0 rfl) ?_
        refine lv_iload_n hC.1 hC.2.1 dL_law_547 rfl (lv_at hl 3 rfl) ?_
        refine lv_iconst (v := 2) hC.1 hC.2.1 dL_law_548 (by decide) ?_
        refine lv_iadd hC.1 hC.2.1 dL_law_549 ?_
        obtain ⟨hi, h⟩ := xg h
        refine va_sld hC.1 hC.2.1 hX hbl hbA hS hi dL_law_550 ?_
        refine lv_aload_n hC.1 hC.2.1 dL_law_551 rfl (lv_at hl 0 rfl) ?_
        refine lv_iload_n hC.1 hC.2.1 dL_law_552 rfl (lv_at hl 3 rfl) ?_
        refine lv_iconst (v := 3) hC.1 hC.2.1 dL_law_553 (by decide) ?_
        refine lv_iadd hC.1 hC.2.1 dL_law_554 ?_
        obtain ⟨hi, h⟩ := xg h
        refine va_sld hC.1 hC.2.1 hX hbl hbA hS hi dL_law_555 ?_
        obtain ⟨⟨q556_r, q556_S⟩, hq, h⟩ := xb h
        try dsimp only at h
        refine x_callV (T := TX9) (N := 12) (As := [.int (xs (x3 + (1 : Int32)).toNatClampNeg), .int (xs (x3 + (2 : Int32)).toNatClampNeg), .int (xs (x3 + (3 : Int32)).toNatClampNeg)]) (rest := []) hC hW hS 0 (c_X9_odds l D b cs _ _ _ _ _ _ hq) (by decide) rfl rfl mi_X9_odds in_X9_odds sl_X9_odds ml_L_80 ⟨rfl, rfl⟩ ⟨Nat.le_of_ble_eq_true rfl, Nat.le_of_ble_eq_true rfl⟩ ⟨Nat.le_of_ble_eq_true rfl, Nat.le_of_ble_eq_true rfl⟩ rfl rfl hl.1 (Nat.le_of_ble_eq_true rfl) dL_law_556 (fun H locs hW hS => ?_)
        refine lv_aload_n hC.1 hC.2.1 dL_law_559 rfl (lv_at hl 2 rfl) ?_
        refine lv_aload_n hC.1 hC.2.1 dL_law_560 rfl (lv_at hl 0 rfl) ?_
        refine lv_iload_n hC.1 hC.2.1 dL_law_561 rfl (lv_at hl 3 rfl) ?_
        refine lv_iconst (v := 1) hC.1 hC.2.1 dL_law_562 (by decide) ?_
        refine lv_iadd hC.1 hC.2.1 dL_law_563 ?_
        obtain ⟨hi, h⟩ := xg h
        refine va_sld hC.1 hC.2.1 hX hbl hbA hS hi dL_law_564 ?_
        refine lv_aload_n hC.1 hC.2.1 dL_law_565 rfl (lv_at hl 0 rfl) ?_
        refine lv_iload_n hC.1 hC.2.1 dL_law_566 rfl (lv_at hl 3 rfl) ?_
        refine lv_iconst (v := 2) hC.1 hC.2.1 dL_law_567 (by decide) ?_
        refine lv_iadd hC.1 hC.2.1 dL_law_568 ?_
        obtain ⟨hi, h⟩ := xg h
        refine va_sld hC.1 hC.2.1 hX hbl hbA hS hi dL_law_569 ?_
        refine lv_aload_n hC.1 hC.2.1 dL_law_570 rfl (lv_at hl 0 rfl) ?_
        refine lv_iload_n hC.1 hC.2.1 dL_law_571 rfl (lv_at hl 3 rfl) ?_
        refine lv_iconst (v := 3) hC.1 hC.2.1 dL_law_572 (by decide) ?_
        refine lv_iadd hC.1 hC.2.1 dL_law_573 ?_
        obtain ⟨hi, h⟩ := xg h
        refine va_sld hC.1 hC.2.1 hX hbl hbA hS hi dL_law_574 ?_
        obtain ⟨⟨q575_r, q575_S⟩, hq, h⟩ := xb h
        try dsimp only at h
        refine x_callV (T := TX10) (N := 27) (As := [.int (xs (x3 + (1 : Int32)).toNatClampNeg), .int (xs (x3 + (2 : Int32)).toNatClampNeg), .int (xs (x3 + (3 : Int32)).toNatClampNeg)]) (rest := [.int q556_r]) hC hW hS 99 (c_X10_odds l D b cs _ _ _ _ _ _ hq) (by decide) rfl rfl mi_X10_odds in_X10_odds sl_X10_odds ml_L_84 ⟨rfl, rfl⟩ ⟨Nat.le_of_ble_eq_true rfl, Nat.le_of_ble_eq_true rfl⟩ ⟨Nat.le_of_ble_eq_true rfl, Nat.le_of_ble_eq_true rfl⟩ rfl rfl hl.1 (Nat.le_of_ble_eq_true rfl) dL_law_575 (fun H locs hW hS => ?_)
        refine lv_icmp_eq (tgt := 771) hC.1 hC.2.1 dL_law_578 (by decide) (fun hc => ?_) (fun hc => ?_)
        · replace h := xt hc h
          refine lv_iinc (v := x3 + 4) (lv' := [(3, .int (x3 + 4)), (0, .ref bs), (1, .ref (b + 0)), (2, .ref (b + 99))]) hC.1 hC.2.1 dL_law_771 hl (k := 3) rfl rfl (by decide) rfl (fun ls hl => ?_)
          refine lv_goto (tgt := 18) hC.1 hC.2.1 dL_law_774 (by decide) ?_
          exact IH _ _ _ _ _ h hW hS (lv_sub hl [1, 2, 3, 0] rfl)
        · replace h := xf hc h
          refine lv_iconst (v := 0) hC.1 hC.2.1 dL_law_581 (by decide) ?_
          exact absurd (Option.some.inj h) (by decide)
      replace h := xf hc16 h
      by_cases hc17 : ((xs x3.toNatClampNeg) &&& (31 : Int32)) = 17
      · replace h := xt hc17 h
        refine lv_tableIn (off := 551) (tgt := 583) hC.1 hC.2.1 dL_law_32 (by rw [hc17]; decide) (by rw [hc17]; decide) (by rw [hc17]; rfl) (by decide) ?_
        refine lv_aload_n hC.1 hC.2.1 dL_law_583 rfl (lv_at hl 1 rfl) ?_
        refine lv_aload_n hC.1 hC.2.1 dL_law_584 rfl (lv_at hl 0 rfl) ?_
        refine lv_iload_n hC.1 hC.2.1 dL_law_585 rfl (lv_at hl 3 rfl) ?_
        refine lv_iconst (v := 1) hC.1 hC.2.1 dL_law_586 (by decide) ?_
        refine lv_iadd hC.1 hC.2.1 dL_law_587 ?_
        obtain ⟨hi, h⟩ := xg h
        refine va_sld hC.1 hC.2.1 hX hbl hbA hS hi dL_law_588 ?_
        refine lv_aload_n hC.1 hC.2.1 dL_law_589 rfl (lv_at hl 0 rfl) ?_
        refine lv_iload_n hC.1 hC.2.1 dL_law_590 rfl (lv_at hl 3 rfl) ?_
        refine lv_iconst (v := 2) hC.1 hC.2.1 dL_law_591 (by decide) ?_
        refine lv_iadd hC.1 hC.2.1 dL_law_592 ?_
        obtain ⟨hi, h⟩ := xg h
        refine va_sld hC.1 hC.2.1 hX hbl hbA hS hi dL_law_593 ?_
        obtain ⟨⟨q594_r, q594_S⟩, hq, h⟩ := xb h
        try dsimp only at h
        refine x_callV (T := TX9) (N := 12) (As := [.int (xs (x3 + (1 : Int32)).toNatClampNeg), .int (xs (x3 + (2 : Int32)).toNatClampNeg)]) (rest := []) hC hW hS 0 (c_X9_hears l D b cs _ _ _ _ _ hq) (by decide) rfl rfl mi_X9_hears in_X9_hears sl_X9_hears ml_L_85 ⟨rfl, rfl⟩ ⟨Nat.le_of_ble_eq_true rfl, Nat.le_of_ble_eq_true rfl⟩ ⟨Nat.le_of_ble_eq_true rfl, Nat.le_of_ble_eq_true rfl⟩ rfl rfl hl.1 (Nat.le_of_ble_eq_true rfl) dL_law_594 (fun H locs hW hS => ?_)
        refine lv_aload_n hC.1 hC.2.1 dL_law_597 rfl (lv_at hl 2 rfl) ?_
        refine lv_aload_n hC.1 hC.2.1 dL_law_598 rfl (lv_at hl 0 rfl) ?_
        refine lv_iload_n hC.1 hC.2.1 dL_law_599 rfl (lv_at hl 3 rfl) ?_
        refine lv_iconst (v := 1) hC.1 hC.2.1 dL_law_600 (by decide) ?_
        refine lv_iadd hC.1 hC.2.1 dL_law_601 ?_
        obtain ⟨hi, h⟩ := xg h
        refine va_sld hC.1 hC.2.1 hX hbl hbA hS hi dL_law_602 ?_
        refine lv_aload_n hC.1 hC.2.1 dL_law_603 rfl (lv_at hl 0 rfl) ?_
        refine lv_iload_n hC.1 hC.2.1 dL_law_604 rfl (lv_at hl 3 rfl) ?_
        refine lv_iconst (v := 2) hC.1 hC.2.1 dL_law_605 (by decide) ?_
        refine lv_iadd hC.1 hC.2.1 dL_law_606 ?_
        obtain ⟨hi, h⟩ := xg h
        refine va_sld hC.1 hC.2.1 hX hbl hbA hS hi dL_law_607 ?_
        obtain ⟨⟨q608_r, q608_S⟩, hq, h⟩ := xb h
        try dsimp only at h
        refine x_callV (T := TX10) (N := 27) (As := [.int (xs (x3 + (1 : Int32)).toNatClampNeg), .int (xs (x3 + (2 : Int32)).toNatClampNeg)]) (rest := [.int q594_r]) hC hW hS 99 (c_X10_hears l D b cs _ _ _ _ _ hq) (by decide) rfl rfl mi_X10_hears in_X10_hears sl_X10_hears ml_L_88 ⟨rfl, rfl⟩ ⟨Nat.le_of_ble_eq_true rfl, Nat.le_of_ble_eq_true rfl⟩ ⟨Nat.le_of_ble_eq_true rfl, Nat.le_of_ble_eq_true rfl⟩ rfl rfl hl.1 (Nat.le_of_ble_eq_true rfl) dL_law_608 (fun H locs hW hS => ?_)
        refine lv_icmp_eq (tgt := 771) hC.1 hC.2.1 dL_law_611 (by decide) (fun hc => ?_) (fun hc => ?_)
        · replace h := xt hc h
          refine lv_iinc (v := x3 + 4) (lv' := [(3, .int (x3 + 4)), (0, .ref bs), (1, .ref (b + 0)), (2, .ref (b + 99))]) hC.1 hC.2.1 dL_law_771 hl (k := 3) rfl rfl (by decide) rfl (fun ls hl => ?_)
          refine lv_goto (tgt := 18) hC.1 hC.2.1 dL_law_774 (by decide) ?_
          exact IH _ _ _ _ _ h hW hS (lv_sub hl [1, 2, 3, 0] rfl)
        · replace h := xf hc h
          refine lv_iconst (v := 0) hC.1 hC.2.1 dL_law_614 (by decide) ?_
          exact absurd (Option.some.inj h) (by decide)
      replace h := xf hc17 h
      by_cases hc18 : ((xs x3.toNatClampNeg) &&& (31 : Int32)) = 18
      · replace h := xt hc18 h
        refine lv_tableIn (off := 584) (tgt := 616) hC.1 hC.2.1 dL_law_32 (by rw [hc18]; decide) (by rw [hc18]; decide) (by rw [hc18]; rfl) (by decide) ?_
        refine lv_aload_n hC.1 hC.2.1 dL_law_616 rfl (lv_at hl 1 rfl) ?_
        obtain ⟨⟨q617_r, q617_S⟩, hq, h⟩ := xb h
        try dsimp only at h
        refine x_callV (T := TX9) (N := 12) (As := []) (rest := []) hC hW hS 0 (c_X9_forget l D b cs _ _ _ hq) (by decide) rfl rfl mi_X9_forget in_X9_forget sl_X9_forget ml_L_89 ⟨rfl, rfl⟩ ⟨Nat.le_of_ble_eq_true rfl, Nat.le_of_ble_eq_true rfl⟩ ⟨Nat.le_of_ble_eq_true rfl, Nat.le_of_ble_eq_true rfl⟩ rfl rfl hl.1 (Nat.le_of_ble_eq_true rfl) dL_law_617 (fun H locs hW hS => ?_)
        refine lv_aload_n hC.1 hC.2.1 dL_law_620 rfl (lv_at hl 2 rfl) ?_
        obtain ⟨⟨q621_r, q621_S⟩, hq, h⟩ := xb h
        try dsimp only at h
        refine x_callV (T := TX10) (N := 27) (As := []) (rest := [.int q617_r]) hC hW hS 99 (c_X10_forget l D b cs _ _ _ hq) (by decide) rfl rfl mi_X10_forget in_X10_forget sl_X10_forget ml_L_92 ⟨rfl, rfl⟩ ⟨Nat.le_of_ble_eq_true rfl, Nat.le_of_ble_eq_true rfl⟩ ⟨Nat.le_of_ble_eq_true rfl, Nat.le_of_ble_eq_true rfl⟩ rfl rfl hl.1 (Nat.le_of_ble_eq_true rfl) dL_law_621 (fun H locs hW hS => ?_)
        refine lv_icmp_eq (tgt := 771) hC.1 hC.2.1 dL_law_624 (by decide) (fun hc => ?_) (fun hc => ?_)
        · replace h := xt hc h
          refine lv_iinc (v := x3 + 4) (lv' := [(3, .int (x3 + 4)), (0, .ref bs), (1, .ref (b + 0)), (2, .ref (b + 99))]) hC.1 hC.2.1 dL_law_771 hl (k := 3) rfl rfl (by decide) rfl (fun ls hl => ?_)
          refine lv_goto (tgt := 18) hC.1 hC.2.1 dL_law_774 (by decide) ?_
          exact IH _ _ _ _ _ h hW hS (lv_sub hl [1, 2, 3, 0] rfl)
        · replace h := xf hc h
          refine lv_iconst (v := 0) hC.1 hC.2.1 dL_law_627 (by decide) ?_
          exact absurd (Option.some.inj h) (by decide)
      replace h := xf hc18 h
      by_cases hc19 : ((xs x3.toNatClampNeg) &&& (31 : Int32)) = 19
      · replace h := xt hc19 h
        refine lv_tableIn (off := 597) (tgt := 629) hC.1 hC.2.1 dL_law_32 (by rw [hc19]; decide) (by rw [hc19]; decide) (by rw [hc19]; rfl) (by decide) ?_
        refine lv_aload_n hC.1 hC.2.1 dL_law_629 rfl (lv_at hl 1 rfl) ?_
        obtain ⟨⟨q630_r, q630_S⟩, hq, h⟩ := xb h
        try dsimp only at h
        refine x_callV (T := TX9) (N := 12) (As := []) (rest := []) hC hW hS 0 (c_X9_who l D b cs _ _ _ hq) (by decide) rfl rfl mi_X9_who in_X9_who sl_X9_who ml_L_93 ⟨rfl, rfl⟩ ⟨Nat.le_of_ble_eq_true rfl, Nat.le_of_ble_eq_true rfl⟩ ⟨Nat.le_of_ble_eq_true rfl, Nat.le_of_ble_eq_true rfl⟩ rfl rfl hl.1 (Nat.le_of_ble_eq_true rfl) dL_law_630 (fun H locs hW hS => ?_)
        refine lv_aload_n hC.1 hC.2.1 dL_law_633 rfl (lv_at hl 2 rfl) ?_
        obtain ⟨⟨q634_r, q634_S⟩, hq, h⟩ := xb h
        try dsimp only at h
        refine x_callV (T := TX10) (N := 27) (As := []) (rest := [.int q630_r]) hC hW hS 99 (c_X10_who l D b cs _ _ _ hq) (by decide) rfl rfl mi_X10_who in_X10_who sl_X10_who ml_L_96 ⟨rfl, rfl⟩ ⟨Nat.le_of_ble_eq_true rfl, Nat.le_of_ble_eq_true rfl⟩ ⟨Nat.le_of_ble_eq_true rfl, Nat.le_of_ble_eq_true rfl⟩ rfl rfl hl.1 (Nat.le_of_ble_eq_true rfl) dL_law_634 (fun H locs hW hS => ?_)
        refine lv_icmp_eq (tgt := 771) hC.1 hC.2.1 dL_law_637 (by decide) (fun hc => ?_) (fun hc => ?_)
        · replace h := xt hc h
          refine lv_iinc (v := x3 + 4) (lv' := [(3, .int (x3 + 4)), (0, .ref bs), (1, .ref (b + 0)), (2, .ref (b + 99))]) hC.1 hC.2.1 dL_law_771 hl (k := 3) rfl rfl (by decide) rfl (fun ls hl => ?_)
          refine lv_goto (tgt := 18) hC.1 hC.2.1 dL_law_774 (by decide) ?_
          exact IH _ _ _ _ _ h hW hS (lv_sub hl [1, 2, 3, 0] rfl)
        · replace h := xf hc h
          refine lv_iconst (v := 0) hC.1 hC.2.1 dL_law_640 (by decide) ?_
          exact absurd (Option.some.inj h) (by decide)
      replace h := xf hc19 h
      by_cases hc20 : ((xs x3.toNatClampNeg) &&& (31 : Int32)) = 20
      · replace h := xt hc20 h
        refine lv_tableIn (off := 610) (tgt := 642) hC.1 hC.2.1 dL_law_32 (by rw [hc20]; decide) (by rw [hc20]; decide) (by rw [hc20]; rfl) (by decide) ?_
        refine lv_aload_n hC.1 hC.2.1 dL_law_642 rfl (lv_at hl 1 rfl) ?_
        obtain ⟨⟨q643_r, q643_S⟩, hq, h⟩ := xb h
        try dsimp only at h
        refine x_callV (T := TX9) (N := 12) (As := []) (rest := []) hC hW hS 0 (c_X9_ask l D b cs _ _ _ hq) (by decide) rfl rfl mi_X9_ask in_X9_ask sl_X9_ask ml_L_97 ⟨rfl, rfl⟩ ⟨Nat.le_of_ble_eq_true rfl, Nat.le_of_ble_eq_true rfl⟩ ⟨Nat.le_of_ble_eq_true rfl, Nat.le_of_ble_eq_true rfl⟩ rfl rfl hl.1 (Nat.le_of_ble_eq_true rfl) dL_law_643 (fun H locs hW hS => ?_)
        refine lv_aload_n hC.1 hC.2.1 dL_law_646 rfl (lv_at hl 2 rfl) ?_
        obtain ⟨⟨q647_r, q647_S⟩, hq, h⟩ := xb h
        try dsimp only at h
        refine x_callV (T := TX10) (N := 27) (As := []) (rest := [.int q643_r]) hC hW hS 99 (c_X10_ask l D b cs _ _ _ hq) (by decide) rfl rfl mi_X10_ask in_X10_ask sl_X10_ask ml_L_100 ⟨rfl, rfl⟩ ⟨Nat.le_of_ble_eq_true rfl, Nat.le_of_ble_eq_true rfl⟩ ⟨Nat.le_of_ble_eq_true rfl, Nat.le_of_ble_eq_true rfl⟩ rfl rfl hl.1 (Nat.le_of_ble_eq_true rfl) dL_law_647 (fun H locs hW hS => ?_)
        refine lv_icmp_eq (tgt := 771) hC.1 hC.2.1 dL_law_650 (by decide) (fun hc => ?_) (fun hc => ?_)
        · replace h := xt hc h
          refine lv_iinc (v := x3 + 4) (lv' := [(3, .int (x3 + 4)), (0, .ref bs), (1, .ref (b + 0)), (2, .ref (b + 99))]) hC.1 hC.2.1 dL_law_771 hl (k := 3) rfl rfl (by decide) rfl (fun ls hl => ?_)
          refine lv_goto (tgt := 18) hC.1 hC.2.1 dL_law_774 (by decide) ?_
          exact IH _ _ _ _ _ h hW hS (lv_sub hl [1, 2, 3, 0] rfl)
        · replace h := xf hc h
          refine lv_iconst (v := 0) hC.1 hC.2.1 dL_law_653 (by decide) ?_
          exact absurd (Option.some.inj h) (by decide)
      replace h := xf hc20 h
      by_cases hc21 : ((xs x3.toNatClampNeg) &&& (31 : Int32)) = 21
      · replace h := xt hc21 h
        refine lv_tableIn (off := 623) (tgt := 655) hC.1 hC.2.1 dL_law_32 (by rw [hc21]; decide) (by rw [hc21]; decide) (by rw [hc21]; rfl) (by decide) ?_
        refine lv_aload_n hC.1 hC.2.1 dL_law_655 rfl (lv_at hl 1 rfl) ?_
        refine lv_aload_n hC.1 hC.2.1 dL_law_656 rfl (lv_at hl 0 rfl) ?_
        refine lv_iload_n hC.1 hC.2.1 dL_law_657 rfl (lv_at hl 3 rfl) ?_
        refine lv_iconst (v := 1) hC.1 hC.2.1 dL_law_658 (by decide) ?_
        refine lv_iadd hC.1 hC.2.1 dL_law_659 ?_
        obtain ⟨hi, h⟩ := xg h
        refine va_sld hC.1 hC.2.1 hX hbl hbA hS hi dL_law_660 ?_
        refine lv_aload_n hC.1 hC.2.1 dL_law_661 rfl (lv_at hl 0 rfl) ?_
        refine lv_iload_n hC.1 hC.2.1 dL_law_662 rfl (lv_at hl 3 rfl) ?_
        refine lv_iconst (v := 2) hC.1 hC.2.1 dL_law_663 (by decide) ?_
        refine lv_iadd hC.1 hC.2.1 dL_law_664 ?_
        obtain ⟨hi, h⟩ := xg h
        refine va_sld hC.1 hC.2.1 hX hbl hbA hS hi dL_law_665 ?_
        obtain ⟨⟨q666_r, q666_S⟩, hq, h⟩ := xb h
        try dsimp only at h
        refine x_callV (T := TX9) (N := 12) (As := [.int (xs (x3 + (1 : Int32)).toNatClampNeg), .int (xs (x3 + (2 : Int32)).toNatClampNeg)]) (rest := []) hC hW hS 0 (c_X9_rate l D b cs _ _ _ _ _ hq) (by decide) rfl rfl mi_X9_rate in_X9_rate sl_X9_rate ml_L_101 ⟨rfl, rfl⟩ ⟨Nat.le_of_ble_eq_true rfl, Nat.le_of_ble_eq_true rfl⟩ ⟨Nat.le_of_ble_eq_true rfl, Nat.le_of_ble_eq_true rfl⟩ rfl rfl hl.1 (Nat.le_of_ble_eq_true rfl) dL_law_666 (fun H locs hW hS => ?_)
        refine lv_aload_n hC.1 hC.2.1 dL_law_669 rfl (lv_at hl 2 rfl) ?_
        refine lv_aload_n hC.1 hC.2.1 dL_law_670 rfl (lv_at hl 0 rfl) ?_
        refine lv_iload_n hC.1 hC.2.1 dL_law_671 rfl (lv_at hl 3 rfl) ?_
        refine lv_iconst (v := 1) hC.1 hC.2.1 dL_law_672 (by decide) ?_
        refine lv_iadd hC.1 hC.2.1 dL_law_673 ?_
        obtain ⟨hi, h⟩ := xg h
        refine va_sld hC.1 hC.2.1 hX hbl hbA hS hi dL_law_674 ?_
        refine lv_aload_n hC.1 hC.2.1 dL_law_675 rfl (lv_at hl 0 rfl) ?_
        refine lv_iload_n hC.1 hC.2.1 dL_law_676 rfl (lv_at hl 3 rfl) ?_
        refine lv_iconst (v := 2) hC.1 hC.2.1 dL_law_677 (by decide) ?_
        refine lv_iadd hC.1 hC.2.1 dL_law_678 ?_
        obtain ⟨hi, h⟩ := xg h
        refine va_sld hC.1 hC.2.1 hX hbl hbA hS hi dL_law_679 ?_
        obtain ⟨⟨q680_r, q680_S⟩, hq, h⟩ := xb h
        try dsimp only at h
        refine x_callV (T := TX10) (N := 27) (As := [.int (xs (x3 + (1 : Int32)).toNatClampNeg), .int (xs (x3 + (2 : Int32)).toNatClampNeg)]) (rest := [.int q666_r]) hC hW hS 99 (c_X10_rate l D b cs _ _ _ _ _ hq) (by decide) rfl rfl mi_X10_rate in_X10_rate sl_X10_rate ml_L_104 ⟨rfl, rfl⟩ ⟨Nat.le_of_ble_eq_true rfl, Nat.le_of_ble_eq_true rfl⟩ ⟨Nat.le_of_ble_eq_true rfl, Nat.le_of_ble_eq_true rfl⟩ rfl rfl hl.1 (Nat.le_of_ble_eq_true rfl) dL_law_680 (fun H locs hW hS => ?_)
        refine lv_icmp_eq (tgt := 771) hC.1 hC.2.1 dL_law_683 (by decide) (fun hc => ?_) (fun hc => ?_)
        · replace h := xt hc h
          refine lv_iinc (v := x3 + 4) (lv' := [(3, .int (x3 + 4)), (0, .ref bs), (1, .ref (b + 0)), (2, .ref (b + 99))]) hC.1 hC.2.1 dL_law_771 hl (k := 3) rfl rfl (by decide) rfl (fun ls hl => ?_)
          refine lv_goto (tgt := 18) hC.1 hC.2.1 dL_law_774 (by decide) ?_
          exact IH _ _ _ _ _ h hW hS (lv_sub hl [1, 2, 3, 0] rfl)
        · replace h := xf hc h
          refine lv_iconst (v := 0) hC.1 hC.2.1 dL_law_686 (by decide) ?_
          exact absurd (Option.some.inj h) (by decide)
      replace h := xf hc21 h
      by_cases hc22 : ((xs x3.toNatClampNeg) &&& (31 : Int32)) = 22
      · replace h := xt hc22 h
        refine lv_tableIn (off := 656) (tgt := 688) hC.1 hC.2.1 dL_law_32 (by rw [hc22]; decide) (by rw [hc22]; decide) (by rw [hc22]; rfl) (by decide) ?_
        refine lv_aload_n hC.1 hC.2.1 dL_law_688 rfl (lv_at hl 1 rfl) ?_
        refine lv_aload_n hC.1 hC.2.1 dL_law_689 rfl (lv_at hl 0 rfl) ?_
        refine lv_iload_n hC.1 hC.2.1 dL_law_690 rfl (lv_at hl 3 rfl) ?_
        refine lv_iconst (v := 1) hC.1 hC.2.1 dL_law_691 (by decide) ?_
        refine lv_iadd hC.1 hC.2.1 dL_law_692 ?_
        obtain ⟨hi, h⟩ := xg h
        refine va_sld hC.1 hC.2.1 hX hbl hbA hS hi dL_law_693 ?_
        obtain ⟨⟨q694_r, q694_S⟩, hq, h⟩ := xb h
        try dsimp only at h
        refine x_callV (T := TX9) (N := 12) (As := [.int (xs (x3 + (1 : Int32)).toNatClampNeg)]) (rest := []) hC hW hS 0 (c_X9_keep l D b cs _ _ _ _ hq) (by decide) rfl rfl mi_X9_keep in_X9_keep sl_X9_keep ml_L_105 ⟨rfl, rfl⟩ ⟨Nat.le_of_ble_eq_true rfl, Nat.le_of_ble_eq_true rfl⟩ ⟨Nat.le_of_ble_eq_true rfl, Nat.le_of_ble_eq_true rfl⟩ rfl rfl hl.1 (Nat.le_of_ble_eq_true rfl) dL_law_694 (fun H locs hW hS => ?_)
        refine lv_aload_n hC.1 hC.2.1 dL_law_697 rfl (lv_at hl 2 rfl) ?_
        refine lv_aload_n hC.1 hC.2.1 dL_law_698 rfl (lv_at hl 0 rfl) ?_
        refine lv_iload_n hC.1 hC.2.1 dL_law_699 rfl (lv_at hl 3 rfl) ?_
        refine lv_iconst (v := 1) hC.1 hC.2.1 dL_law_700 (by decide) ?_
        refine lv_iadd hC.1 hC.2.1 dL_law_701 ?_
        obtain ⟨hi, h⟩ := xg h
        refine va_sld hC.1 hC.2.1 hX hbl hbA hS hi dL_law_702 ?_
        obtain ⟨⟨q703_r, q703_S⟩, hq, h⟩ := xb h
        try dsimp only at h
        refine x_callV (T := TX10) (N := 27) (As := [.int (xs (x3 + (1 : Int32)).toNatClampNeg)]) (rest := [.int q694_r]) hC hW hS 99 (c_X10_keep l D b cs _ _ _ _ hq) (by decide) rfl rfl mi_X10_keep in_X10_keep sl_X10_keep ml_L_108 ⟨rfl, rfl⟩ ⟨Nat.le_of_ble_eq_true rfl, Nat.le_of_ble_eq_true rfl⟩ ⟨Nat.le_of_ble_eq_true rfl, Nat.le_of_ble_eq_true rfl⟩ rfl rfl hl.1 (Nat.le_of_ble_eq_true rfl) dL_law_703 (fun H locs hW hS => ?_)
        refine lv_icmp_eq (tgt := 771) hC.1 hC.2.1 dL_law_706 (by decide) (fun hc => ?_) (fun hc => ?_)
        · replace h := xt hc h
          refine lv_iinc (v := x3 + 4) (lv' := [(3, .int (x3 + 4)), (0, .ref bs), (1, .ref (b + 0)), (2, .ref (b + 99))]) hC.1 hC.2.1 dL_law_771 hl (k := 3) rfl rfl (by decide) rfl (fun ls hl => ?_)
          refine lv_goto (tgt := 18) hC.1 hC.2.1 dL_law_774 (by decide) ?_
          exact IH _ _ _ _ _ h hW hS (lv_sub hl [1, 2, 3, 0] rfl)
        · replace h := xf hc h
          refine lv_iconst (v := 0) hC.1 hC.2.1 dL_law_709 (by decide) ?_
          exact absurd (Option.some.inj h) (by decide)
      replace h := xf hc22 h
      by_cases hc23 : ((xs x3.toNatClampNeg) &&& (31 : Int32)) = 23
      · replace h := xt hc23 h
        refine lv_tableIn (off := 679) (tgt := 711) hC.1 hC.2.1 dL_law_32 (by rw [hc23]; decide) (by rw [hc23]; decide) (by rw [hc23]; rfl) (by decide) ?_
        refine lv_aload_n hC.1 hC.2.1 dL_law_711 rfl (lv_at hl 1 rfl) ?_
        refine lv_aload_n hC.1 hC.2.1 dL_law_712 rfl (lv_at hl 0 rfl) ?_
        refine lv_iload_n hC.1 hC.2.1 dL_law_713 rfl (lv_at hl 3 rfl) ?_
        refine lv_iconst (v := 1) hC.1 hC.2.1 dL_law_714 (by decide) ?_
        refine lv_iadd hC.1 hC.2.1 dL_law_715 ?_
        obtain ⟨hi, h⟩ := xg h
        refine va_sld hC.1 hC.2.1 hX hbl hbA hS hi dL_law_716 ?_
        obtain ⟨⟨q717_r, q717_S⟩, hq, h⟩ := xb h
        try dsimp only at h
        refine x_callV (T := TX9) (N := 12) (As := [.int (xs (x3 + (1 : Int32)).toNatClampNeg)]) (rest := []) hC hW hS 0 (c_X9_back l D b cs _ _ _ _ hq) (by decide) rfl rfl mi_X9_back in_X9_back sl_X9_back ml_L_109 ⟨rfl, rfl⟩ ⟨Nat.le_of_ble_eq_true rfl, Nat.le_of_ble_eq_true rfl⟩ ⟨Nat.le_of_ble_eq_true rfl, Nat.le_of_ble_eq_true rfl⟩ rfl rfl hl.1 (Nat.le_of_ble_eq_true rfl) dL_law_717 (fun H locs hW hS => ?_)
        refine lv_aload_n hC.1 hC.2.1 dL_law_720 rfl (lv_at hl 2 rfl) ?_
        refine lv_aload_n hC.1 hC.2.1 dL_law_721 rfl (lv_at hl 0 rfl) ?_
        refine lv_iload_n hC.1 hC.2.1 dL_law_722 rfl (lv_at hl 3 rfl) ?_
        refine lv_iconst (v := 1) hC.1 hC.2.1 dL_law_723 (by decide) ?_
        refine lv_iadd hC.1 hC.2.1 dL_law_724 ?_
        obtain ⟨hi, h⟩ := xg h
        refine va_sld hC.1 hC.2.1 hX hbl hbA hS hi dL_law_725 ?_
        obtain ⟨⟨q726_r, q726_S⟩, hq, h⟩ := xb h
        try dsimp only at h
        refine x_callV (T := TX10) (N := 27) (As := [.int (xs (x3 + (1 : Int32)).toNatClampNeg)]) (rest := [.int q717_r]) hC hW hS 99 (c_X10_back l D b cs _ _ _ _ hq) (by decide) rfl rfl mi_X10_back in_X10_back sl_X10_back ml_L_112 ⟨rfl, rfl⟩ ⟨Nat.le_of_ble_eq_true rfl, Nat.le_of_ble_eq_true rfl⟩ ⟨Nat.le_of_ble_eq_true rfl, Nat.le_of_ble_eq_true rfl⟩ rfl rfl hl.1 (Nat.le_of_ble_eq_true rfl) dL_law_726 (fun H locs hW hS => ?_)
        refine lv_icmp_eq (tgt := 771) hC.1 hC.2.1 dL_law_729 (by decide) (fun hc => ?_) (fun hc => ?_)
        · replace h := xt hc h
          refine lv_iinc (v := x3 + 4) (lv' := [(3, .int (x3 + 4)), (0, .ref bs), (1, .ref (b + 0)), (2, .ref (b + 99))]) hC.1 hC.2.1 dL_law_771 hl (k := 3) rfl rfl (by decide) rfl (fun ls hl => ?_)
          refine lv_goto (tgt := 18) hC.1 hC.2.1 dL_law_774 (by decide) ?_
          exact IH _ _ _ _ _ h hW hS (lv_sub hl [1, 2, 3, 0] rfl)
        · replace h := xf hc h
          refine lv_iconst (v := 0) hC.1 hC.2.1 dL_law_732 (by decide) ?_
          exact absurd (Option.some.inj h) (by decide)
      replace h := xf hc23 h
      by_cases hc24 : ((xs x3.toNatClampNeg) &&& (31 : Int32)) = 24
      · replace h := xt hc24 h
        refine lv_tableIn (off := 702) (tgt := 734) hC.1 hC.2.1 dL_law_32 (by rw [hc24]; decide) (by rw [hc24]; decide) (by rw [hc24]; rfl) (by decide) ?_
        refine lv_aload_n hC.1 hC.2.1 dL_law_734 rfl (lv_at hl 1 rfl) ?_
        refine lv_aload_n hC.1 hC.2.1 dL_law_735 rfl (lv_at hl 0 rfl) ?_
        refine lv_iload_n hC.1 hC.2.1 dL_law_736 rfl (lv_at hl 3 rfl) ?_
        refine lv_iconst (v := 1) hC.1 hC.2.1 dL_law_737 (by decide) ?_
        refine lv_iadd hC.1 hC.2.1 dL_law_738 ?_
        obtain ⟨hi, h⟩ := xg h
        refine va_sld hC.1 hC.2.1 hX hbl hbA hS hi dL_law_739 ?_
        obtain ⟨⟨q740_r, q740_S⟩, hq, h⟩ := xb h
        try dsimp only at h
        refine x_callV (T := TX9) (N := 12) (As := [.int (xs (x3 + (1 : Int32)).toNatClampNeg)]) (rest := []) hC hW hS 0 (c_X9_count l D b cs _ _ _ _ hq) (by decide) rfl rfl mi_X9_count in_X9_count sl_X9_count ml_L_113 ⟨rfl, rfl⟩ ⟨Nat.le_of_ble_eq_true rfl, Nat.le_of_ble_eq_true rfl⟩ ⟨Nat.le_of_ble_eq_true rfl, Nat.le_of_ble_eq_true rfl⟩ rfl rfl hl.1 (Nat.le_of_ble_eq_true rfl) dL_law_740 (fun H locs hW hS => ?_)
        refine lv_aload_n hC.1 hC.2.1 dL_law_743 rfl (lv_at hl 2 rfl) ?_
        refine lv_aload_n hC.1 hC.2.1 dL_law_744 rfl (lv_at hl 0 rfl) ?_
        refine lv_iload_n hC.1 hC.2.1 dL_law_745 rfl (lv_at hl 3 rfl) ?_
        refine lv_iconst (v := 1) hC.1 hC.2.1 dL_law_746 (by decide) ?_
        refine lv_iadd hC.1 hC.2.1 dL_law_747 ?_
        obtain ⟨hi, h⟩ := xg h
        refine va_sld hC.1 hC.2.1 hX hbl hbA hS hi dL_law_748 ?_
        obtain ⟨⟨q749_r, q749_S⟩, hq, h⟩ := xb h
        try dsimp only at h
        refine x_callV (T := TX10) (N := 27) (As := [.int (xs (x3 + (1 : Int32)).toNatClampNeg)]) (rest := [.int q740_r]) hC hW hS 99 (c_X10_count l D b cs _ _ _ _ hq) (by decide) rfl rfl mi_X10_count in_X10_count sl_X10_count ml_L_116 ⟨rfl, rfl⟩ ⟨Nat.le_of_ble_eq_true rfl, Nat.le_of_ble_eq_true rfl⟩ ⟨Nat.le_of_ble_eq_true rfl, Nat.le_of_ble_eq_true rfl⟩ rfl rfl hl.1 (Nat.le_of_ble_eq_true rfl) dL_law_749 (fun H locs hW hS => ?_)
        refine lv_icmp_eq (tgt := 771) hC.1 hC.2.1 dL_law_752 (by decide) (fun hc => ?_) (fun hc => ?_)
        · replace h := xt hc h
          refine lv_iinc (v := x3 + 4) (lv' := [(3, .int (x3 + 4)), (0, .ref bs), (1, .ref (b + 0)), (2, .ref (b + 99))]) hC.1 hC.2.1 dL_law_771 hl (k := 3) rfl rfl (by decide) rfl (fun ls hl => ?_)
          refine lv_goto (tgt := 18) hC.1 hC.2.1 dL_law_774 (by decide) ?_
          exact IH _ _ _ _ _ h hW hS (lv_sub hl [1, 2, 3, 0] rfl)
        · replace h := xf hc h
          refine lv_iconst (v := 0) hC.1 hC.2.1 dL_law_755 (by decide) ?_
          exact absurd (Option.some.inj h) (by decide)
      replace h := xf hc24 h
      by_cases hc25 : ((xs x3.toNatClampNeg) &&& (31 : Int32)) = 25
      · replace h := xt hc25 h
        refine lv_tableIn (off := 725) (tgt := 757) hC.1 hC.2.1 dL_law_32 (by rw [hc25]; decide) (by rw [hc25]; decide) (by rw [hc25]; rfl) (by decide) ?_
        refine lv_aload_n hC.1 hC.2.1 dL_law_757 rfl (lv_at hl 1 rfl) ?_
        obtain ⟨⟨q758_r, q758_S⟩, hq, h⟩ := xb h
        try dsimp only at h
        refine x_callV (T := TX9) (N := 12) (As := []) (rest := []) hC hW hS 0 (c_X9_trace l D b cs _ _ _ hq) (by decide) rfl rfl mi_X9_trace in_X9_trace sl_X9_trace ml_L_117 ⟨rfl, rfl⟩ ⟨Nat.le_of_ble_eq_true rfl, Nat.le_of_ble_eq_true rfl⟩ ⟨Nat.le_of_ble_eq_true rfl, Nat.le_of_ble_eq_true rfl⟩ rfl rfl hl.1 (Nat.le_of_ble_eq_true rfl) dL_law_758 (fun H locs hW hS => ?_)
        refine lv_aload_n hC.1 hC.2.1 dL_law_761 rfl (lv_at hl 2 rfl) ?_
        obtain ⟨⟨q762_r, q762_S⟩, hq, h⟩ := xb h
        try dsimp only at h
        refine x_callV (T := TX10) (N := 27) (As := []) (rest := [.long q758_r]) hC hW hS 99 (c_X10_trace l D b cs _ _ _ hq) (by decide) rfl rfl mi_X10_trace in_X10_trace sl_X10_trace ml_L_121 ⟨rfl, rfl⟩ ⟨Nat.le_of_ble_eq_true rfl, Nat.le_of_ble_eq_true rfl⟩ ⟨Nat.le_of_ble_eq_true rfl, Nat.le_of_ble_eq_true rfl⟩ rfl rfl hl.1 (Nat.le_of_ble_eq_true rfl) dL_law_762 (fun H locs hW hS => ?_)
        refine W.lcmp hC.1 hC.2.1 dL_law_765 ?_
        refine lv_if_eq (tgt := 771) hC.1 hC.2.1 dL_law_766 (by decide) (fun hc => ?_) (fun hc => ?_)
        · replace h := xt hc h
          refine lv_iinc (v := x3 + 4) (lv' := [(3, .int (x3 + 4)), (0, .ref bs), (1, .ref (b + 0)), (2, .ref (b + 99))]) hC.1 hC.2.1 dL_law_771 hl (k := 3) rfl rfl (by decide) rfl (fun ls hl => ?_)
          refine lv_goto (tgt := 18) hC.1 hC.2.1 dL_law_774 (by decide) ?_
          exact IH _ _ _ _ _ h hW hS (lv_sub hl [1, 2, 3, 0] rfl)
        · replace h := xf hc h
          refine lv_iconst (v := 0) hC.1 hC.2.1 dL_law_769 (by decide) ?_
          exact absurd (Option.some.inj h) (by decide)
      replace h := xf hc25 h
      have hn0 : ¬ (((xs x3.toNatClampNeg) &&& (31 : Int32))).toInt = 0 := lv_neT hc0 rfl
      have hn1 : ¬ (((xs x3.toNatClampNeg) &&& (31 : Int32))).toInt = 1 := lv_neT hc1 rfl
      have hn2 : ¬ (((xs x3.toNatClampNeg) &&& (31 : Int32))).toInt = 2 := lv_neT hc2 rfl
      have hn3 : ¬ (((xs x3.toNatClampNeg) &&& (31 : Int32))).toInt = 3 := lv_neT hc3 rfl
      have hn4 : ¬ (((xs x3.toNatClampNeg) &&& (31 : Int32))).toInt = 4 := lv_neT hc4 rfl
      have hn5 : ¬ (((xs x3.toNatClampNeg) &&& (31 : Int32))).toInt = 5 := lv_neT hc5 rfl
      have hn6 : ¬ (((xs x3.toNatClampNeg) &&& (31 : Int32))).toInt = 6 := lv_neT hc6 rfl
      have hn7 : ¬ (((xs x3.toNatClampNeg) &&& (31 : Int32))).toInt = 7 := lv_neT hc7 rfl
      have hn8 : ¬ (((xs x3.toNatClampNeg) &&& (31 : Int32))).toInt = 8 := lv_neT hc8 rfl
      have hn9 : ¬ (((xs x3.toNatClampNeg) &&& (31 : Int32))).toInt = 9 := lv_neT hc9 rfl
      have hn10 : ¬ (((xs x3.toNatClampNeg) &&& (31 : Int32))).toInt = 10 := lv_neT hc10 rfl
      have hn11 : ¬ (((xs x3.toNatClampNeg) &&& (31 : Int32))).toInt = 11 := lv_neT hc11 rfl
      have hn12 : ¬ (((xs x3.toNatClampNeg) &&& (31 : Int32))).toInt = 12 := lv_neT hc12 rfl
      have hn13 : ¬ (((xs x3.toNatClampNeg) &&& (31 : Int32))).toInt = 13 := lv_neT hc13 rfl
      have hn14 : ¬ (((xs x3.toNatClampNeg) &&& (31 : Int32))).toInt = 14 := lv_neT hc14 rfl
      have hn15 : ¬ (((xs x3.toNatClampNeg) &&& (31 : Int32))).toInt = 15 := lv_neT hc15 rfl
      have hn16 : ¬ (((xs x3.toNatClampNeg) &&& (31 : Int32))).toInt = 16 := lv_neT hc16 rfl
      have hn17 : ¬ (((xs x3.toNatClampNeg) &&& (31 : Int32))).toInt = 17 := lv_neT hc17 rfl
      have hn18 : ¬ (((xs x3.toNatClampNeg) &&& (31 : Int32))).toInt = 18 := lv_neT hc18 rfl
      have hn19 : ¬ (((xs x3.toNatClampNeg) &&& (31 : Int32))).toInt = 19 := lv_neT hc19 rfl
      have hn20 : ¬ (((xs x3.toNatClampNeg) &&& (31 : Int32))).toInt = 20 := lv_neT hc20 rfl
      have hn21 : ¬ (((xs x3.toNatClampNeg) &&& (31 : Int32))).toInt = 21 := lv_neT hc21 rfl
      have hn22 : ¬ (((xs x3.toNatClampNeg) &&& (31 : Int32))).toInt = 22 := lv_neT hc22 rfl
      have hn23 : ¬ (((xs x3.toNatClampNeg) &&& (31 : Int32))).toInt = 23 := lv_neT hc23 rfl
      have hn24 : ¬ (((xs x3.toNatClampNeg) &&& (31 : Int32))).toInt = 24 := lv_neT hc24 rfl
      have hn25 : ¬ (((xs x3.toNatClampNeg) &&& (31 : Int32))).toInt = 25 := lv_neT hc25 rfl
      refine lv_tableOut (tgt := 771) hC.1 hC.2.1 dL_law_32 (by omega) (by decide) ?_
      refine lv_iinc (v := x3 + 4) (lv' := [(3, .int (x3 + 4)), (0, .ref bs), (1, .ref (b + 0)), (2, .ref (b + 99))]) hC.1 hC.2.1 dL_law_771 hl (k := 3) rfl rfl (by decide) rfl (fun ls hl => ?_)
      refine lv_goto (tgt := 18) hC.1 hC.2.1 dL_law_774 (by decide) ?_
      exact IH _ _ _ _ _ h hW hS (lv_sub hl [1, 2, 3, 0] rfl)
